section
variable {I : Nat → Nat → Int32} {L : Nat → Nat → Int64} {ru dr : Nat} {sr : Nat → Option Nat} {rd : Option Nat} {rl x : Nat}

/-! Sights -/
def cSi (I : Nat → Nat → Int32) (l : List (Nat × Int32)) : Prop := I 26 2 = nI l.length ∧ l.length ≤ 10 ∧ ∀ i w v, l[i]? = some (w, v) → I 27 i = nI w ∧ I 28 i = v ∧ w < 7
theorem cSi.congr {I I' : Nat → Nat → Int32} {l : List (Nat × Int32)} (h : cSi I l) (h0 : I' 26 = I 26) (h1 : I' 27 = I 27) (h2 : I' 28 = I 28) : cSi I' l := by
  unfold cSi
  rw [h0, h1, h2]
  exact h
theorem s56 {d : Nat} : ∃ I', cal d 56 [.ref 26] (I, L, rR ru dr sr rd rl, 65, x) = some (none, (I', L, rR ru dr sr rd rl, 65, x)) ∧ cSi I' [] ∧ fW [26] I I' := ⟨_, k56, ⟨by rw [zup_v, if_pos rfl]; rfl, by decide, fun i w v h => by cases h⟩, fW.up (by decide) (by decide) (by decide)⟩
theorem s57 {d : Nat} {l : List (Nat × Int32)} (h : cSi I l) : cal d 57 [.ref 26] (I, L, rR ru dr sr rd rl, 65, x) = some (some (.int (nI l.length)), (I, L, rR ru dr sr rd rl, 65, x)) := by rw [k57, h.1]
def sen (l : List (Nat × Int32)) (u v : Int32) : Option (Nat × Int32) := if l.length < 10 ∧ 0 ≤ u ∧ u ≤ 6 ∧ -(nI 1) ≤ v ∧ v ≤ nI 1 then some (u.toNatClampNeg, v) else none
theorem s58f {d : Nat} {l : List (Nat × Int32)} {u v : Int32} (h : cSi I l) (hn : sen l u v = none) : cal d 58 [.ref 26, .int u, .int v] (I, L, rR ru dr sr rd rl, 65, x) = some (some (.int (nI 0)), (I, L, rR ru dr sr rd rl, 65, x)) := by
  have hl := h.2.1
  unfold sen at hn
  rw [k58, h.1]
  by_cases z : l.length < 10
  · rw [if_neg (by rw [nI_leI (by omega) (by omega)]; omega)]
    by_cases y : u < 0
    · rw [if_pos y, if_pos zb0]
    · rw [if_neg y]
      by_cases w : nI 6 < u
      · rw [if_pos w, if_pos zb0]
      · rw [if_neg w]
        by_cases q : v < -(nI 1)
        · rw [if_pos q, if_pos zb0]
        · rw [if_neg q]
          by_cases r : v ≤ nI 1
          · rw [if_pos ⟨z, fa_of_nlt y, fa_of_nlt w, fa_of_nlt q, r⟩] at hn
            cases hn
          · rw [if_neg r, if_pos zb0]
  · rw [if_pos (by rw [nI_leI (by omega) (by omega)]; omega), if_pos zb0]
theorem s58t {d : Nat} {l : List (Nat × Int32)} {u v : Int32} {e : Nat × Int32} (h : cSi I l) (hn : sen l u v = some e) : ∃ I', cal d 58 [.ref 26, .int u, .int v] (I, L, rR ru dr sr rd rl, 65, x) = some (some (.int (nI 1)), (I', L, rR ru dr sr rd rl, 65, x)) ∧ cSi I' (l ++ [e]) ∧ fW [26, 27, 28] I I' := by
  have hl := h.2.1
  unfold sen at hn
  by_cases z : l.length < 10 ∧ 0 ≤ u ∧ u ≤ 6 ∧ -(nI 1) ≤ v ∧ v ≤ nI 1
  · rw [if_pos z] at hn
    cases hn
    obtain ⟨z1, z2, z3, z4, z5⟩ := z
    have y : ¬ u < 0 := fun q => (fa_of_lt q).2.1 z2
    obtain ⟨j, hj, rfl⟩ := nI_of y
    have w : j ≤ 6 := (nI_leI hj (by decide)).mp z3
    have hu : ∀ (J : Nat → Nat → Int32) (k i m : Nat) (u w y : Int32), fW [26, 27, 28] J (zup (zup (zup J 27 k u) 28 i w) 26 m y) := fun J k i m u w y => ((fW.up (by decide) (by decide) (by decide)).tr (fW.up (by decide) (by decide) (by decide))).tr (fW.up (by decide) (by decide) (by decide))
    refine ⟨zup (zup (zup I 27 l.length (nI j)) 28 l.length v) 26 2 (nI (l.length + 1)), ?_, ⟨?_, ?_, fun k w' v' hk => ?_⟩, hu _ _ _ _ _ _ _⟩
    · rw [k58, h.1, if_neg (by rw [nI_leI (by omega) (by omega)]; omega), if_neg y, if_neg (by rw [nI_ltI (by omega) (by omega)]; omega), if_neg (fun q => (fa_of_lt q).2.1 z4), if_pos z5, if_pos (ak_27 z1), if_pos (ak_28 z1), if_pos zb1, nI_clamp (by omega), nI_add]
    · rw [zup_v, if_pos rfl, List.length_append]; rfl
    · rw [List.length_append]; exact z1
    · rw [zup_ne _ _ _ (by decide), zup_ne _ _ _ (by decide), zup_v, zup_ne _ _ _ (by decide), zup_v]
      by_cases r : k = l.length
      · rw [if_pos r, if_pos r]
        rw [r, List.getElem?_append_right (Nat.le_refl _), Nat.sub_self] at hk
        cases hk
        rw [nI_clamp hj]
        exact ⟨rfl, rfl, by omega⟩
      · have hlt : k < l.length := by
          have := (List.getElem?_eq_some_iff.mp hk).1
          rw [List.length_append] at this
          have h1 : k < l.length + 1 := this
          omega
        rw [if_neg r, if_neg r]
        rw [List.getElem?_append_left hlt] at hk
        exact h.2.2 k w' v' hk
  · rw [if_neg z] at hn; cases hn
def ofb (a b n : Nat) : Int32 := nI (if a < n then 1 else 0) - nI (if n < b then 1 else 0)
theorem s59 {d a b n : Nat} (ha : a < 10) (hb : b < 10) (hn : n < 10) : cal d 59 [.int (nI a), .int (nI b), .int (nI n)] (I, L, rR ru dr sr rd rl, 65, x) = some (some (.int (ofb a b n)), (I, L, rR ru dr sr rd rl, 65, x)) := by
  unfold ofb
  rw [k59]
  by_cases z : a < n
  · rw [if_neg (by rw [nI_leI (by omega) (by omega)]; omega), e59_6, if_pos z]
    by_cases y : n < b
    · rw [if_neg (by rw [nI_leI (by omega) (by omega)]; omega), if_pos y]
    · rw [if_pos (by rw [nI_leI (by omega) (by omega)]; omega), if_neg y]
  · rw [if_pos (by rw [nI_leI (by omega) (by omega)]; omega), e59_6, if_neg z]
    by_cases y : n < b
    · rw [if_neg (by rw [nI_leI (by omega) (by omega)]; omega), if_pos y]
    · rw [if_pos (by rw [nI_leI (by omega) (by omega)]; omega), if_neg y]
def lfi (l : List (Nat × Int32)) (a b : Nat) : Bool := l.all fun e => decide (ofb a b e.1 = e.2)
theorem l60 {d a b : Nat} {l : List (Nat × Int32)} (ha : a < 10) (hb : b < 10) (hC : cSi I l) : ∀ n k, k + n = l.length → res d 60 2 [.ref 26, .int (nI a), .int (nI b), .int (nI k)] [] (I, L, rR ru dr sr rd rl, 65, x) = some (some (.int (nI (if lfi (l.drop k) a b = true then 1 else 0))), (I, L, rR ru dr sr rd rl, 65, x))
  | 0, k, h => by
    have := hC.2.1
    rw [l60_2, hC.1, if_pos (by rw [nI_leI (by omega) (by omega)]; omega), if_pos zb1, List.drop_eq_nil_of_le (by omega)]
    rfl
  | n + 1, k, h => by
    have := hC.2.1
    have hk : k < l.length := by omega
    obtain ⟨h1, h2, h3⟩ := hC.2.2 k l[k].1 l[k].2 (by rw [List.getElem?_eq_getElem hk])
    have ih := l60 (d := d) ha hb hC n (k + 1) (by omega)
    rw [l60_2, hC.1, if_neg (by rw [nI_leI (by omega) (by omega)]; omega), if_neg (by rw [nI_leI (by omega) (by omega)]; omega), if_pos (ak_27 (by omega)), nI_clamp (by omega), h1, s59 ha hb (by omega), bI_i, e60_16, if_pos (ak_28 (by omega)), nI_clamp (by omega), h2, List.drop_eq_getElem_cons hk]
    unfold lfi
    rw [List.all_cons]
    by_cases z : ofb a b l[k].1 = l[k].2
    · rw [if_pos z, decide_eq_true z, Bool.true_and, nI_add]; exact ih
    · rw [if_neg z, decide_eq_false z, Bool.false_and, if_pos zb0, if_neg (by decide)]
theorem s60 {d a b : Nat} {l : List (Nat × Int32)} (ha : a < 10) (hb : b < 10) (hC : cSi I l) : cal d 60 [.ref 26, .int (nI a), .int (nI b)] (I, L, rR ru dr sr rd rl, 65, x) = some (some (.int (nI (if lfi l a b = true then 1 else 0))), (I, L, rR ru dr sr rd rl, 65, x)) := by
  have := l60 (d := d) (L := L) (ru := ru) (dr := dr) (sr := sr) (rd := rd) (rl := rl) (x := x) ha hb hC l.length 0 (by omega)
  rw [k60, this, List.drop_zero]
/-- of law k: whether it fits and is off so -/
def lwo (l : List (Nat × Int32)) (n : Nat) (o : Int32) (k : Nat) : Bool := decide (ofb (k / 7) (k % 7) n = o) && lfi l (k / 7) (k % 7)
theorem l62i {d n a : Nat} {o : Int32} {l : List (Nat × Int32)} (ha : a < 7) (hn : n < 7) (hC : cSi I l) : ∀ m b, b + m = 7 → res d 62 9 [.ref 26, .int (nI n), .int o, .int (nI (fb_ct (lwo l n o) (7 * a + b))), .int (nI a), .int (nI b)] [] (I, L, rR ru dr sr rd rl, 65, x) = res d 62 4 [.ref 26, .int (nI n), .int o, .int (nI (fb_ct (lwo l n o) (7 * (a + 1)))), .int (nI (a + 1)), .int (nI 7)] [] (I, L, rR ru dr sr rd rl, 65, x)
  | 0, b, h => by
    rw [l62_9, if_pos (by rw [nI_ltI (by omega) (by omega)]; omega), nI_add, show b = 7 by omega, show 7 * a + 7 = 7 * (a + 1) by omega]
  | m + 1, b, h => by
    have ih := l62i (d := d) (o := o) ha hn hC m (b + 1) (by omega)
    have e : fb_ct (lwo l n o) (7 * a + (b + 1)) = fb_ct (lwo l n o) (7 * a + b) + if lwo l n o (7 * a + b) = true then 1 else 0 := rfl
    have e7 : (7 * a + b) / 7 = a := by omega
    have e8 : (7 * a + b) % 7 = b := by omega
    unfold lwo at e
    rw [e7, e8] at e
    rw [← show lwo l n o = fun k => decide (ofb (k / 7) (k % 7) n = o) && lfi l (k / 7) (k % 7) from rfl] at e
    rw [l62_9, if_neg (by rw [nI_ltI (by omega) (by omega)]; omega), s59 (by omega) (by omega) (by omega), bI_i, e62_17]
    by_cases z : ofb a b n = o
    · rw [decide_eq_true z, Bool.true_and] at e
      rw [if_pos z, s60 (by omega) (by omega) hC, bI_i, e62_23]
      cases y : lfi l a b with
      | true =>
        rw [y, if_pos rfl] at e
        rw [if_pos rfl, if_neg (by decide), nI_add, nI_add, ← e]
        exact ih
      | false =>
        rw [y, if_neg (by decide)] at e
        rw [if_neg Bool.false_ne_true, if_pos (show nI 0 = 0 from rfl), e62_26, nI_add, nI_add, ← e]
        exact ih
    · rw [decide_eq_false z, Bool.false_and, if_neg (by decide)] at e
      rw [if_neg z, e62_26, nI_add, nI_add, ← e]
      exact ih
theorem l62 {d n : Nat} {o : Int32} {l : List (Nat × Int32)} (hn : n < 7) (hC : cSi I l) : ∀ m a (w : Value), a + m = 7 → res d 62 4 [.ref 26, .int (nI n), .int o, .int (nI (fb_ct (lwo l n o) (7 * a))), .int (nI a), w] [] (I, L, rR ru dr sr rd rl, 65, x) = some (some (.int (nI (fb_ct (lwo l n o) 49))), (I, L, rR ru dr sr rd rl, 65, x))
  | 0, a, w, h => by
    rw [l62_4, if_pos (by rw [nI_ltI (by omega) (by omega)]; omega), show a = 7 by omega]
  | m + 1, a, w, h => by
    have ih := fun w => l62 (d := d) (o := o) hn hC m (a + 1) w (by omega)
    have := l62i (d := d) (o := o) (L := L) (ru := ru) (dr := dr) (sr := sr) (rd := rd) (rl := rl) (x := x) (a := a) (by omega) hn hC 7 0 (by omega)
    rw [Nat.add_zero] at this
    rw [l62_4, if_neg (by rw [nI_ltI (by omega) (by omega)]; omega), this]
    exact ih _
theorem s62 {d n : Nat} {o : Int32} {l : List (Nat × Int32)} (hn : n < 7) (hC : cSi I l) : cal d 62 [.ref 26, .int (nI n), .int o] (I, L, rR ru dr sr rd rl, 65, x) = some (some (.int (nI (fb_ct (lwo l n o) 49))), (I, L, rR ru dr sr rd rl, 65, x)) := by
  rw [k62]
  exact l62 hn hC 7 0 _ (by omega)
def lwm (l : List (Nat × Int32)) (n : Nat) : Nat := max (fb_ct (lwo l n (-(nI 1))) 49) (max (fb_ct (lwo l n (nI 0)) 49) (fb_ct (lwo l n (nI 1)) 49))
theorem lwm_le (l : List (Nat × Int32)) (n : Nat) : lwm l n ≤ 49 := by
  have h1 := fb_ct_le (lwo l n (-(nI 1))) 49
  have h2 := fb_ct_le (lwo l n (nI 0)) 49
  have h3 := fb_ct_le (lwo l n (nI 1)) 49
  unfold lwm
  omega
theorem s61 {d n : Nat} {l : List (Nat × Int32)} (hn : n < 7) (hC : cSi I l) : cal d 61 [.ref 26, .int (nI n)] (I, L, rR ru dr sr rd rl, 65, x) = some (some (.int (nI (lwm l n))), (I, L, rR ru dr sr rd rl, 65, x)) := by
  have h1 := fb_ct_le (lwo l n (-(nI 1))) 49
  have h2 := fb_ct_le (lwo l n (nI 0)) 49
  have h3 := fb_ct_le (lwo l n (nI 1)) 49
  rw [k61, l61_4, if_neg (by decide), s62 hn hC, bI_i, e61_12, zmax_n (by omega) (by omega), show -(nI 1) + nI 1 = nI 0 by decide, l61_4, if_neg (by decide), s62 hn hC, bI_i, e61_12, zmax_n (by omega) (by omega), nI_add, show 0 + 1 = 1 from rfl, l61_4, if_neg (by decide), s62 hn hC, bI_i, e61_12, zmax_n (by omega) (by omega), nI_add, l61_4, if_pos (by decide)]
  unfold lwm
  congr 5
  omega

end
