section
variable {I : Nat → Nat → Int32} {L : Nat → Nat → Int64} {ru dr : Nat} {sr : Nat → Option Nat} {rd : Option Nat} {rl x : Nat}

/-! Clues -/
def lo (w : Nat) : Nat := if w = 0 then 1 else 0
def hi (w : Nat) : Nat := if w = 0 then 4 else if w = 3 then 1 else 9
def cCl (I : Nat → Nat → Int32) (l : List (Nat × Nat)) : Prop := I 23 2 = nI l.length ∧ l.length ≤ 12 ∧ ∀ i w v, l[i]? = some (w, v) → I 24 i = nI w ∧ I 25 i = nI v ∧ w < 5 ∧ v ≤ 9
theorem cCl.congr {I I' : Nat → Nat → Int32} {l : List (Nat × Nat)} (h : cCl I l) (h0 : I' 23 = I 23) (h1 : I' 24 = I 24) (h2 : I' 25 = I 25) : cCl I' l := by
  unfold cCl
  rw [h0, h1, h2]
  exact h
theorem hi_le (w : Nat) : hi w ≤ 9 := by
  unfold hi
  repeat' split
  all_goals decide
theorem s1 {d : Nat} : ∃ I', cal d 1 [.ref 23] (I, L, rR ru dr sr rd rl, 65, x) = some (none, (I', L, rR ru dr sr rd rl, 65, x)) ∧ cCl I' [] ∧ fW [23] I I' := ⟨_, k1, ⟨by rw [zup_v, if_pos rfl]; rfl, by decide, fun i w v h => by cases h⟩, fW.up (by decide) (by decide) (by decide)⟩
theorem s2 {d : Nat} {l : List (Nat × Nat)} (h : cCl I l) : cal d 2 [.ref 23] (I, L, rR ru dr sr rd rl, 65, x) = some (some (.int (nI l.length)), (I, L, rR ru dr sr rd rl, 65, x)) := by rw [k2, h.1]
theorem s3 {d w : Nat} (hw : w < 5) : cal d 3 [.int (nI w)] (I, L, rR ru dr sr rd rl, 65, x) = some (some (.int (nI (lo w))), (I, L, rR ru dr sr rd rl, 65, x)) := by
  unfold lo
  rw [k3]
  by_cases z : w = 0
  · rw [if_pos ((nI_z (by omega)).mpr z), if_pos z]
  · rw [if_neg (fun q => z ((nI_z (by omega)).mp q)), if_neg z]
theorem s4 {d w : Nat} (hw : w < 5) : cal d 4 [.int (nI w)] (I, L, rR ru dr sr rd rl, 65, x) = some (some (.int (nI (hi w))), (I, L, rR ru dr sr rd rl, 65, x)) := by
  unfold hi
  rw [k4]
  by_cases z : w = 0
  · rw [if_pos ((nI_z (by omega)).mpr z), if_pos z]
  · rw [if_neg (fun q => z ((nI_z (by omega)).mp q)), if_neg z]
    by_cases y : w = 3
    · rw [if_pos ((nI_eq (by omega) (by omega)).mpr y), if_pos y]
    · rw [if_neg (fun q => y ((nI_eq (by omega) (by omega)).mp q)), if_neg y]
/-- what is heard: whether it is taken -/
def hrd (l : List (Nat × Nat)) (u v : Int32) : Option (Nat × Nat) := if l.length < 12 ∧ 0 ≤ u ∧ u < 5 then (if nI (lo u.toNatClampNeg) ≤ v ∧ v ≤ nI (hi u.toNatClampNeg) then some (u.toNatClampNeg, v.toNatClampNeg) else none) else none
theorem s5f {d : Nat} {l : List (Nat × Nat)} {u v : Int32} (h : cCl I l) (hn : hrd l u v = none) : cal d 5 [.ref 23, .int u, .int v] (I, L, rR ru dr sr rd rl, 65, x) = some (some (.int (nI 0)), (I, L, rR ru dr sr rd rl, 65, x)) := by
  have hl := h.2.1
  rw [k5, h.1]
  unfold hrd at hn
  by_cases z : l.length < 12
  · rw [if_neg (by rw [nI_leI (by omega) (by omega)]; omega)]
    by_cases y : u < 0
    · rw [if_pos y, if_pos zb0]
    · obtain ⟨j, hj, rfl⟩ := nI_of y
      rw [if_neg y]
      by_cases w : j < 5
      · rw [if_neg (by rw [nI_leI (by omega) (by omega)]; omega), s3 w, bI_i, e5_12]
        rw [if_pos ⟨z, nI_pos' hj, nI_lt w (by decide)⟩, nI_clamp hj] at hn
        by_cases q : v < nI (lo j)
        · rw [if_pos q, if_pos zb0]
        · rw [if_neg q, s4 w, bI_i, e5_16]
          by_cases r : v ≤ nI (hi j)
          · rw [if_pos ⟨fa_of_nlt q, r⟩] at hn
            cases hn
          · rw [if_neg r, if_pos zb0]
      · rw [if_pos (by rw [nI_leI (by omega) (by omega)]; omega), if_pos zb0]
  · rw [if_pos (by rw [nI_leI (by omega) (by omega)]; omega), if_pos zb0]
theorem s5t {d : Nat} {l : List (Nat × Nat)} {u v : Int32} {e : Nat × Nat} (h : cCl I l) (hn : hrd l u v = some e) : ∃ I', cal d 5 [.ref 23, .int u, .int v] (I, L, rR ru dr sr rd rl, 65, x) = some (some (.int (nI 1)), (I', L, rR ru dr sr rd rl, 65, x)) ∧ cCl I' (l ++ [e]) ∧ fW [23, 24, 25] I I' := by
  have hl := h.2.1
  unfold hrd at hn
  by_cases z : l.length < 12 ∧ 0 ≤ u ∧ u < 5
  · rw [if_pos z] at hn
    obtain ⟨z1, z2, z3⟩ := z
    have y : ¬ u < 0 := fun q => (fa_of_lt q).2.1 z2
    obtain ⟨j, hj, rfl⟩ := nI_of y
    have w : j < 5 := (nI_ltI hj (by decide)).mp z3
    rw [nI_clamp hj] at hn
    by_cases q : nI (lo j) ≤ v ∧ v ≤ nI (hi j)
    · rw [if_pos q] at hn
      cases hn
      have q1 : ¬ v < nI (lo j) := fun r => (fa_of_lt r).2.1 q.1
      have v0 : ¬ v < 0 := fun r => q1 (fa_trans r (nI_pos' (by unfold lo; split <;> decide)))
      obtain ⟨i, hi', rfl⟩ := nI_of v0
      have i9 : i ≤ hi j := (nI_leI hi' (by have := hi_le j; omega)).mp q.2
      have := hi_le j
      have hu : ∀ (J : Nat → Nat → Int32) (k i m : Nat) (u w y : Int32), fW [23, 24, 25] J (zup (zup (zup J 24 k u) 25 i w) 23 m y) := fun J k i m u w y => ((fW.up (by decide) (by decide) (by decide)).tr (fW.up (by decide) (by decide) (by decide))).tr (fW.up (by decide) (by decide) (by decide))
      refine ⟨zup (zup (zup I 24 l.length (nI j)) 25 l.length (nI i)) 23 2 (nI (l.length + 1)), ?_, ⟨?_, ?_, fun k w' v' hk => ?_⟩, hu _ _ _ _ _ _ _⟩
      · rw [k5, h.1, if_neg (by rw [nI_leI (by omega) (by omega)]; omega), if_neg y, if_neg (by rw [nI_leI (by omega) (by omega)]; omega), s3 w, bI_i, e5_12, if_neg q1, s4 w, bI_i, e5_16, if_pos q.2, h.1, if_pos (ak_24 z1), if_pos (ak_25 z1), if_pos zb1, nI_clamp (by omega), nI_add]
      · rw [zup_v, if_pos rfl, List.length_append]; rfl
      · rw [List.length_append]; exact z1
      · rw [zup_ne _ _ _ (by decide), zup_ne _ _ _ (by decide), zup_v, zup_ne _ _ _ (by decide), zup_v]
        by_cases r : k = l.length
        · rw [if_pos r, if_pos r]
          rw [r, List.getElem?_append_right (Nat.le_refl _), Nat.sub_self] at hk
          cases hk
          rw [nI_clamp hi']
          exact ⟨rfl, rfl, w, by omega⟩
        · have hlt : k < l.length := by
            have := (List.getElem?_eq_some_iff.mp hk).1
            rw [List.length_append] at this
            have h1 : k < l.length + 1 := this
            omega
          rw [if_neg r, if_neg r]
          rw [List.getElem?_append_left hlt] at hk
          exact h.2.2 k w' v' hk
    · rw [if_neg q] at hn; cases hn
  · rw [if_neg z] at hn; cases hn
def iso (S : Nat) (a : Nat → Nat) (q w v : Nat) : Bool := if w = 0 then decide (a (4 + q) = v) else if w = 1 then decide (v ≤ a q) else if w = 2 then decide (v ≤ gol S a q) else if w = 3 then (decide (a (12 + q) ≠ 0) == decide (v = 1)) else decide (v ≤ a (16 + q))
theorem s9 {R S d : Nat} {f g : Nat → Nat} (hc : zCt R S f g) (hI : cCt I R S f g) {s p : Nat} {a : Nat → Nat} (hs : zS s) (hA : cSt I (s + 1) p a) {T : Nat} (hw : zWf p S T a) {q w v : Nat} (hq : q < 4) (hw5 : w < 5) (hv : v ≤ 9) : cal d 9 [.ref s, .int (nI q), .int (nI w), .int (nI v)] (I, L, rR ru dr sr rd rl, 65, x) = some (some (.int (nI (if iso S a q w v = true then 1 else 0))), (I, L, rR ru dr sr rd rl, 65, x)) := by
  have hb := hw.2.1 q hq
  have hS := hc.S16
  have hh := p16 hS hb.2.2.2.1
  have hg := gol_le hw hq
  have hp : ∀ {c : Prop} [Decidable c] {y : Option zO}, (if c then y else if zb (nI 1) = true then some (some (.int (nI 1)), (I, L, rR ru dr sr rd rl, 65, x)) else none) = (if c then y else some (some (.int (nI 1)), (I, L, rR ru dr sr rd rl, 65, x))) := fun {c} _ {y} => by rw [if_pos zb1]
  rw [k9 hs]
  rcases (show w = 0 ∨ w = 1 ∨ w = 2 ∨ w = 3 ∨ w = 4 by omega) with rfl | rfl | rfl | rfl | rfl
  · rw [if_pos rfl, s72 hs hA (by omega), bI_i, e9_6 hs, cv_3 hq, show iso S a q 0 v = decide (a (4 + q) = v) from rfl]
    by_cases z : a (4 + q) = v
    · rw [if_pos (by rw [z]), if_pos zb1, decide_eq_true z, if_pos rfl]
    · rw [if_neg (by rw [nI_eq (by omega) (by omega)]; exact z), if_pos zb0, decide_eq_false z, if_neg (by decide)]
  · rw [if_neg (by decide), if_pos rfl, s72 hs hA (by omega), bI_i, e9_16 hs, cv_7 hq, show iso S a q 1 v = decide (v ≤ a q) from rfl]
    by_cases z : v ≤ a q
    · rw [if_neg (by rw [nI_ltI (by omega) (by omega)]; omega), if_pos zb1, decide_eq_true z, if_pos rfl]
    · rw [if_pos (by rw [nI_ltI (by omega) (by omega)]; omega), if_pos zb0, decide_eq_false z, if_neg (by decide)]
  · rw [if_neg (by decide), if_neg (by decide), if_pos rfl, s79 hc hI hs hA hw hq, bI_i, e9_25 hs, show iso S a q 2 v = decide (v ≤ gol S a q) from rfl]
    by_cases z : v ≤ gol S a q
    · rw [if_neg (by rw [nI_ltI (by omega) (by omega)]; omega), if_pos zb1, decide_eq_true z, if_pos rfl]
    · rw [if_pos (by rw [nI_ltI (by omega) (by omega)]; omega), if_pos zb0, decide_eq_false z, if_neg (by decide)]
  · rw [if_neg (by decide), if_neg (by decide), if_neg (by decide), if_pos rfl, s72 hs hA (by omega), bI_i, e9_35 hs, cv_15, show iso S a q 3 v = (decide (a (12 + q) ≠ 0) == decide (v = 1)) from rfl]
    by_cases z : a (12 + q) = 0
    · rw [if_pos ((nI_z (by omega)).mpr z), e9_39 hs, decide_eq_false (by omega : ¬ a (12 + q) ≠ 0)]
      by_cases y : v = 1
      · rw [if_pos (by rw [y]), e9_45 hs, if_neg (by decide), if_pos zb0, decide_eq_true y, if_neg (by decide)]
      · rw [if_neg (by rw [nI_eq (by omega) (by omega)]; exact y), e9_45 hs, if_pos rfl, if_pos zb1, decide_eq_false y, if_pos (by decide)]
    · rw [if_neg (by rw [nI_z (by omega)]; exact z), e9_39 hs, decide_eq_true (by omega : a (12 + q) ≠ 0)]
      by_cases y : v = 1
      · rw [if_pos (by rw [y]), e9_45 hs, if_pos rfl, if_pos zb1, decide_eq_true y, if_pos (by decide)]
      · rw [if_neg (by rw [nI_eq (by omega) (by omega)]; exact y), e9_45 hs, if_neg (by decide), if_pos zb0, decide_eq_false y, if_neg (by decide)]
  · rw [if_neg (by decide), if_neg (by decide), if_neg (by decide), if_neg (by decide), s72 hs hA (by omega), bI_i, e9_54 hs, cv_19, show iso S a q 4 v = decide (v ≤ a (16 + q)) from rfl]
    by_cases z : v ≤ a (16 + q)
    · rw [if_neg (by rw [nI_ltI (by omega) (by omega)]; omega), if_pos zb1, decide_eq_true z, if_pos rfl]
    · rw [if_pos (by rw [nI_ltI (by omega) (by omega)]; omega), if_pos zb0, decide_eq_false z, if_neg (by decide)]
def fal (S : Nat) (a : Nat → Nat) (q : Nat) (l : List (Nat × Nat)) : Bool := l.all fun e => iso S a q e.1 e.2
theorem l7 {R S d : Nat} {f g : Nat → Nat} (hc : zCt R S f g) (hI : cCt I R S f g) {s p : Nat} {a : Nat → Nat} (hs : zS s) (hA : cSt I (s + 1) p a) {T : Nat} (hw : zWf p S T a) {q : Nat} {l : List (Nat × Nat)} (hC : cCl I l) (hq : q < 4) : ∀ n k, k + n = l.length → res d 7 2 [.ref 23, .ref s, .int (nI q), .int (nI k)] [] (I, L, rR ru dr sr rd rl, 65, x) = some (some (.int (nI (if fal S a q (l.drop k) = true then 1 else 0))), (I, L, rR ru dr sr rd rl, 65, x))
  | 0, k, h => by
    have := hC.2.1
    rw [l7_2 hs, hC.1, if_pos (by rw [nI_leI (by omega) (by omega)]; omega), if_pos zb1, List.drop_eq_nil_of_le (by omega)]
    rfl
  | n + 1, k, h => by
    have := hC.2.1
    have hk : k < l.length := by omega
    obtain ⟨h1, h2, h3, h4⟩ := hC.2.2 k l[k].1 l[k].2 (by rw [List.getElem?_eq_getElem hk])
    have ih := l7 (d := d) hc hI hs hA hw hC hq n (k + 1) (by omega)
    rw [l7_2 hs, hC.1, if_neg (by rw [nI_leI (by omega) (by omega)]; omega), if_neg (by rw [nI_leI (by omega) (by omega)]; omega), if_pos (ak_24 (by omega)), if_pos (ak_25 (by omega)), nI_clamp (by omega), h1, h2, s9 hc hI hs hA hw hq h3 h4, bI_i, e7_20 hs, List.drop_eq_getElem_cons hk]
    unfold fal
    rw [List.all_cons]
    cases z : iso S a q l[k].1 l[k].2 with
    | true => rw [if_pos rfl, if_neg (by decide), Bool.true_and, nI_add]; exact ih
    | false => rw [if_neg Bool.false_ne_true, if_pos (show nI 0 = 0 from rfl), if_pos zb0, Bool.false_and, if_neg (by decide)]
theorem s7 {R S d : Nat} {f g : Nat → Nat} (hc : zCt R S f g) (hI : cCt I R S f g) {s p : Nat} {a : Nat → Nat} (hs : zS s) (hA : cSt I (s + 1) p a) {T : Nat} (hw : zWf p S T a) {q : Nat} {l : List (Nat × Nat)} (hC : cCl I l) (hq : q < 4) : cal d 7 [.ref 23, .ref s, .int (nI q)] (I, L, rR ru dr sr rd rl, 65, x) = some (some (.int (nI (if fal S a q l = true then 1 else 0))), (I, L, rR ru dr sr rd rl, 65, x)) := by
  have := l7 (d := d) (L := L) (ru := ru) (dr := dr) (sr := sr) (rd := rd) (rl := rl) (x := x) hc hI hs hA hw hC hq l.length 0 (by omega)
  rw [k7 hs, this, List.drop_zero]
def fit (S : Nat) (a : Nat → Nat) (l : List (Nat × Nat)) (p : Nat) : Nat := orl (fun q => if fal S a q l = true then 2 ^ q else 0) p
theorem fit_lt (S : Nat) (a : Nat → Nat) (l : List (Nat × Nat)) {p : Nat} (hp : p ≤ 4) : fit S a l p < 16 := orl_lt (k := 4) fun o ho => by
  split
  · exact Nat.pow_lt_pow_right (by decide) (by omega)
  · decide
theorem l6 {R S d : Nat} {f g : Nat → Nat} (hc : zCt R S f g) (hI : cCt I R S f g) {s p : Nat} {a : Nat → Nat} (hs : zS s) (hA : cSt I (s + 1) p a) {T : Nat} (hw : zWf p S T a) {l : List (Nat × Nat)} (hC : cCl I l) : ∀ n q, q + n = p → res d 6 4 [.ref 23, .ref s, .int (nI (fit S a l q)), .int (nI q)] [] (I, L, rR ru dr sr rd rl, 65, x) = some (some (.int (nI (fit S a l p))), (I, L, rR ru dr sr rd rl, 65, x))
  | 0, q, h => by
    have hp := hw.1
    rw [l6_4 hs, s68 hs hA, bI_i, e6_7 hs, if_pos (by rw [nI_leI (by omega) (by omega)]; omega), show q = p by omega]
  | n + 1, q, h => by
    have hp := hw.1
    have ih := l6 (d := d) hc hI hs hA hw hC n (q + 1) (by omega)
    rw [l6_4 hs, s68 hs hA, bI_i, e6_7 hs, if_neg (by rw [nI_leI (by omega) (by omega)]; omega), s7 hc hI hs hA hw hC (by omega), bI_i, e6_13 hs]
    unfold fit at ih ⊢
    rw [orl] at ih
    cases z : fal S a q l with
    | true =>
      rw [z, if_pos rfl] at ih
      rw [if_pos rfl, if_neg (by decide), zshl1 (by omega), fa_or, nI_add]
      exact ih
    | false =>
      rw [z, if_neg (by decide)] at ih
      rw [if_neg Bool.false_ne_true, if_pos (show nI 0 = 0 from rfl), fa_or, nI_add]
      exact ih
theorem s6 {R S d : Nat} {f g : Nat → Nat} (hc : zCt R S f g) (hI : cCt I R S f g) {s p : Nat} {a : Nat → Nat} (hs : zS s) (hA : cSt I (s + 1) p a) {T : Nat} (hw : zWf p S T a) {l : List (Nat × Nat)} (hC : cCl I l) : cal d 6 [.ref 23, .ref s] (I, L, rR ru dr sr rd rl, 65, x) = some (some (.int (nI (fit S a l p))), (I, L, rR ru dr sr rd rl, 65, x)) := by
  rw [k6 hs]
  exact l6 hc hI hs hA hw hC p 0 (by omega)
def yes (S : Nat) (a : Nat → Nat) (m w v : Nat) : Nat → Nat := fb_ct fun q => m.testBit q && iso S a q w v
theorem pc_cnt {m p : Nat} (hp : p ≤ 4) (hm : m < 2 ^ p) (S : Nat) (a : Nat → Nat) (w v : Nat) : yes S a m w v p ≤ pc m := by
  unfold yes pc
  refine Nat.le_trans (fb_ct_sub (q := fun q => m.testBit q) fun k _ hk => (Bool.and_eq_true_iff.mp hk).1) ?_
  exact fb_ct_mono _ (by omega)
theorem l8 {R S d : Nat} {f g : Nat → Nat} (hc : zCt R S f g) (hI : cCt I R S f g) {s p : Nat} {a : Nat → Nat} (hs : zS s) (hA : cSt I (s + 1) p a) {T : Nat} (hw : zWf p S T a) {m w v : Nat} (hm : m < 16) (hw5 : w < 5) (hv : v ≤ 9) : ∀ n q (w7 : Value), q + n = p → res d 8 7 [.ref s, .int (nI m), .int (nI w), .int (nI v), .int (nI (pc m)), .int (nI (yes S a m w v q)), .int (nI q), w7] [] (I, L, rR ru dr sr rd rl, 65, x) = some (some (.int (zmax (nI (yes S a m w v p)) (nI (pc m) - nI (yes S a m w v p)))), (I, L, rR ru dr sr rd rl, 65, x))
  | 0, q, w7, h => by
    have hp := hw.1
    rw [l8_7 hs, s68 hs hA, bI_i, e8_10 hs, if_pos (by rw [nI_leI (by omega) (by omega)]; omega), show q = p by omega]
  | n + 1, q, w7, h => by
    have hp := hw.1
    have ih := fun w7 => l8 (d := d) hc hI hs hA hw hm hw5 hv n (q + 1) w7 (by omega)
    rw [l8_7 hs, s68 hs hA, bI_i, e8_10 hs, if_neg (by rw [nI_leI (by omega) (by omega)]; omega)]
    have ey : yes S a m w v (q + 1) = yes S a m w v q + if (m.testBit q && iso S a q w v) = true then 1 else 0 := rfl
    cases y : m.testBit q with
    | false =>
      rw [y, Bool.false_and, if_neg (by decide)] at ey
      rw [if_pos ((zbitz (by omega) (by omega)).mpr y), e8_20 hs, if_pos (show nI 0 = 0 from rfl), e8_32 hs, nI_add, nI_add, ← ey]
      exact ih _
    | true =>
      rw [y, Bool.true_and] at ey
      rw [if_neg (by rw [zbitz (by omega) (by omega), y]; decide), e8_20 hs, if_neg (by decide), s9 hc hI hs hA hw (by omega) hw5 hv, bI_i, e8_29 hs]
      cases z : iso S a q w v with
      | true =>
        rw [z, if_pos rfl] at ey
        rw [if_pos rfl, if_neg (by decide), nI_add, nI_add, ← ey]
        exact ih _
      | false =>
        rw [z, if_neg (by decide)] at ey
        rw [if_neg Bool.false_ne_true, if_pos (show nI 0 = 0 from rfl), e8_32 hs, nI_add, nI_add, ← ey]
        exact ih _
def lft (S : Nat) (a : Nat → Nat) (p m w v : Nat) : Nat := max (yes S a m w v p) (pc m - yes S a m w v p)
theorem s8 {R S d : Nat} {f g : Nat → Nat} (hc : zCt R S f g) (hI : cCt I R S f g) {s p : Nat} {a : Nat → Nat} (hs : zS s) (hA : cSt I (s + 1) p a) {T : Nat} (hw : zWf p S T a) {m w v : Nat} (hm : m < 2 ^ p) (hw5 : w < 5) (hv : v ≤ 9) : cal d 8 [.ref s, .int (nI m), .int (nI w), .int (nI v)] (I, L, rR ru dr sr rd rl, 65, x) = some (some (.int (nI (lft S a p m w v))), (I, L, rR ru dr sr rd rl, 65, x)) := by
  have hp := hw.1
  have hm16 : m < 16 := Nat.lt_of_lt_of_le hm (Nat.pow_le_pow_right (by decide) hp : 2 ^ p ≤ 2 ^ 4)
  have := l8 (d := d) (L := L) (ru := ru) (dr := dr) (sr := sr) (rd := rd) (rl := rl) (x := x) hc hI hs hA hw hm16 hw5 hv p 0 .null (by omega)
  have h1 := pc_cnt hp hm S a w v
  have h2 := pc_le m
  rw [k8 hs, s296 (by omega), bI_i, e8_2 hs]
  unfold lft
  rw [zsub h1, zmax_n (by omega) (by omega)] at this
  exact this

end
