section
variable {I : Nat → Nat → Int32} {L : Nat → Nat → Int64} {ru dr : Nat} {sr : Nat → Option Nat} {rd : Option Nat} {rl x : Nat}
variable {d R S p n T : Nat} {f g : Nat → Nat} {a : zP} {t : Nat → Nat} {l : List Int64} {u : List zP} {kp : Nat → Option zP} {cl : List (Nat × Nat)} {si : List (Nat × Int32)} {cs : zC}

def amn (V : Nat → Bool) (F : Nat → Nat) : Nat → Option (Nat × Nat)
  | 0 => none
  | k + 1 => if V k = true then (match amn V F k with
    | none => some (k, F k)
    | some e => if F k < e.2 then some (k, F k) else some e) else amn V F k
theorem amn_skip {V : Nat → Bool} {F : Nat → Nat} : ∀ n i, (∀ k, i ≤ k → k < i + n → V k = false) → amn V F (i + n) = amn V F i
  | 0, _, _ => rfl
  | n + 1, i, h => by
    show amn V F (i + n + 1) = _
    rw [amn, h (i + n) (by omega) (by omega), if_neg Bool.false_ne_true]
    exact amn_skip n i fun k h1 h2 => h k h1 (by omega)
theorem amn_le {V : Nat → Bool} {F : Nat → Nat} {c : Nat} (hF : ∀ s, F s ≤ c) : ∀ s, amM (amn V F s) ≤ c ∧ (∀ e, amn V F s = some e → e.1 < s)
  | 0 => ⟨Nat.zero_le _, fun e h => by cases h⟩
  | s + 1 => by
    obtain ⟨h1, h2⟩ := amn_le (V := V) hF s
    unfold amn
    by_cases z : V s = true
    · rw [if_pos z]
      cases y : amn V F s with
      | none => exact ⟨hF s, fun e h => by cases h; exact Nat.lt_succ_self s⟩
      | some e =>
        rw [y] at h1 h2
        dsimp only
        by_cases w : F s < e.2
        · rw [if_pos w]; exact ⟨hF s, fun e h => by cases h; exact Nat.lt_succ_self s⟩
        · rw [if_neg w]; exact ⟨h1, fun e' h => Nat.lt_succ_of_lt (h2 e' h)⟩
    · rw [if_neg z]; exact ⟨h1, fun e' h => Nat.lt_succ_of_lt (h2 e' h)⟩
theorem amn_n {V : Nat → Bool} {F : Nat → Nat} {k : Nat} (h : V k = true) (h2 : amn V F k = none) : amn V F (k + 1) = some (k, F k) := by rw [amn, if_pos h, h2]
theorem amn_t {V : Nat → Bool} {F : Nat → Nat} {k : Nat} {e : Nat × Nat} (h : V k = true) (h2 : amn V F k = some e) (h3 : F k < e.2) : amn V F (k + 1) = some (k, F k) := by rw [amn, if_pos h, h2]; exact if_pos h3
theorem amn_f {V : Nat → Bool} {F : Nat → Nat} {k : Nat} {e : Nat × Nat} (h : V k = true) (h2 : amn V F k = some e) (h3 : ¬ F k < e.2) : amn V F (k + 1) = some e := by rw [amn, if_pos h, h2]; exact if_neg h3
/-! asks -/
def asV (k : Nat) : Bool := decide (lo (k / 10) ≤ k % 10 ∧ k % 10 ≤ hi (k / 10))
def asF (S : Nat) (a : zP) (p m k : Nat) : Nat := lft S a p m (k / 10) (k % 10)
theorem asF_le (S : Nat) (a : zP) {p : Nat} (hp : p ≤ 4) (m k : Nat) : asF S a p m k ≤ 16 := by
  unfold asF lft
  have h1 := pc_le m
  have h2 : yes S a m (k / 10) (k % 10) p ≤ p := fb_ct_le _ _
  omega
theorem lo_le (w : Nat) : lo w ≤ 1 := by unfold lo; split <;> decide
theorem asV_y {w v : Nat} (h1 : lo w ≤ v) (h2 : v ≤ hi w) : asV (10 * w + v) = true := by
  have := hi_le w
  unfold asV
  rw [show (10 * w + v) / 10 = w by omega, show (10 * w + v) % 10 = v by omega]
  exact decide_eq_true ⟨h1, h2⟩
theorem asV_n {w v : Nat} (hv : v < 10) (h : v < lo w ∨ hi w < v) : asV (10 * w + v) = false := by
  unfold asV
  rw [show (10 * w + v) / 10 = w by omega, show (10 * w + v) % 10 = v by omega]
  exact decide_eq_false (by omega)
theorem l140i {m w : Nat} (hc : zCt R S f g) (hI : cCt I R S f g) (hA : cSt I 15 p a) (hw : zWf p S T a) (hm : m < 2 ^ p) (hw5 : w < 5) : ∀ j v (w6 : Value), v + j = hi w + 1 → lo w ≤ v → ∃ w', res d 140 22 [.ref 1, .int (nI m), .int (amI (amn (asV) (asF S a p m) (10 * w + v))), .int (nI (amM (amn (asV) (asF S a p m) (10 * w + v)))), .int (nI w), .int (nI v), w6] [] (I, L, rR ru dr sr rd rl, 65, x) = res d 140 16 [.ref 1, .int (nI m), .int (amI (amn (asV) (asF S a p m) (10 * (w + 1)))), .int (nI (amM (amn (asV) (asF S a p m) (10 * (w + 1))))), .int (nI (w + 1)), .int (nI (hi w + 1)), w'] [] (I, L, rR ru dr sr rd rl, 65, x)
  | 0, v, w6, hv, hlo => by
    have h9 := hi_le w
    have es : (amn (asV) (asF S a p m) (10 * (w + 1))) = (amn (asV) (asF S a p m) (10 * w + v)) := by
      rw [show 10 * (w + 1) = 10 * w + v + (9 - hi w) by omega]
      refine amn_skip _ _ fun k h1 h2 => ?_
      rw [show k = 10 * w + (k - 10 * w) by omega]
      exact asV_n (by omega) (by omega)
    refine ⟨w6, ?_⟩
    rw [l140_22, s4 hw5, bI_i, e140_25, if_pos (by rw [nI_ltI (by omega) (by omega)]; omega), nI_add, es, show v = hi w + 1 by omega]
  | j + 1, v, w6, hv, hlo => by
    have h9 := hi_le w
    have hp := hw.1
    have hV := asV_y (w := w) hlo (show v ≤ hi w by omega)
    have hF := asF_le S a hp m
    have eF : lft S a p m w v = asF S a p m (10 * w + v) := by
      unfold asF
      rw [show (10 * w + v) / 10 = w by omega, show (10 * w + v) % 10 = v by omega]
    obtain ⟨hM, hB⟩ := amn_le (V := asV) hF (10 * w + v)
    have hFv := hF (10 * w + v)
    rw [l140_22, s4 hw5, bI_i, e140_25, if_neg (by rw [nI_ltI (by omega) (by omega)]; omega), s8 (s := 14) hc hI (Or.inl rfl) hA hw hm hw5 (by omega), bI_i, eF, e140_32]
    obtain ⟨w2, e2⟩ := l140i hc hI hA hw hm hw5 j (v + 1) (.int (nI (asF S a p m (10 * w + v)))) (by omega) (by omega)
    rw [show 10 * w + (v + 1) = 10 * w + v + 1 by omega] at e2
    refine ⟨w2, ?_⟩
    cases y : (amn (asV) (asF S a p m) (10 * w + v)) with
    | none =>
      rw [amn_n hV y] at e2
      rw [if_pos (show amI none = -(nI 1) from rfl), e140_39, zmul, nI_add, nI_add]
      exact e2
    | some e =>
      rw [y] at hM hB
      have he := hB e rfl
      have hM' : e.2 ≤ 16 := hM
      rw [if_neg (show ¬ amI (some e) = -(nI 1) from fun q => ((nI_m1 (by omega)).mp q).elim), show amM (some e) = e.2 from rfl]
      by_cases z : asF S a p m (10 * w + v) < e.2
      · rw [amn_t hV y z] at e2
        rw [if_neg (by rw [nI_leI (by omega) (by omega)]; omega), e140_39, zmul, nI_add, nI_add]
        exact e2
      · rw [amn_f hV y z] at e2
        rw [if_pos (by rw [nI_leI (by omega) (by omega)]; omega), nI_add]
        exact e2
theorem l140 {m : Nat} (hc : zCt R S f g) (hI : cCt I R S f g) (hA : cSt I 15 p a) (hw : zWf p S T a) (hm : m < 2 ^ p) : ∀ j w (w5 w6 : Value), w + j = 5 → ∃ w5' w6', res d 140 16 [.ref 1, .int (nI m), .int (amI (amn (asV) (asF S a p m) (10 * w))), .int (nI (amM (amn (asV) (asF S a p m) (10 * w)))), .int (nI w), w5, w6] [] (I, L, rR ru dr sr rd rl, 65, x) = bV (cal d 101 [.ref 4] (I, L, rR ru dr sr rd rl, 65, x)) fun h1 => res d 140 54 [.ref 1, .int (nI m), .int (amI (amn (asV) (asF S a p m) 50)), .int (nI (amM (amn (asV) (asF S a p m) 50))), .int (nI 5), w5', w6'] [] h1
  | 0, w, w5, w6, h => ⟨w5, w6, by rw [l140_16, if_pos (by rw [nI_leI (by omega) (by omega)]; omega), show w = 5 by omega]⟩
  | j + 1, w, w5, w6, h => by
    have h1 := lo_le w
    have es : (amn (asV) (asF S a p m) (10 * w + lo w)) = (amn (asV) (asF S a p m) (10 * w)) := amn_skip _ _ fun k h1 h2 => by
      rw [show k = 10 * w + (k - 10 * w) by omega]
      exact asV_n (by omega) (by omega)
    have h9 : lo w ≤ hi w := by
      unfold lo hi
      repeat' split
      all_goals decide
    obtain ⟨w2, e2⟩ := l140i (d := d) (L := L) (ru := ru) (dr := dr) (sr := sr) (rd := rd) (rl := rl) (x := x) hc hI hA hw hm (w := w) (by omega) (hi w + 1 - lo w) (lo w) w6 (by omega) (Nat.le_refl _)
    obtain ⟨w3, w4, e3⟩ := l140 hc hI hA hw hm j (w + 1) (.int (nI (hi w + 1))) w2 (by omega)
    rw [es] at e2
    exact ⟨w3, w4, by rw [l140_16, if_neg (by rw [nI_leI (by omega) (by omega)]; omega), s3 (by omega), bI_i, e140_21, e2, e3]⟩
def akA (S p : Nat) (a : zP) (cl : List (Nat × Nat)) : Int32 × Option (List Int64) := if fit S a cl p = 0 then (-(nI 2), none) else (amI (amn asV (asF S a p (fit S a cl p)) 50), some [lN (amM (amn asV (asF S a p (fit S a cl p)) 50))])
theorem fit_lp (S : Nat) (a : zP) (l : List (Nat × Nat)) (p : Nat) : fit S a l p < 2 ^ p := orl_lt fun o ho => by
  split
  · exact Nat.pow_lt_pow_right (by decide) ho
  · exact Nat.two_pow_pos p
theorem o140 (h : cInv I L ru dr R S f g p a n t l u kp cl si cs) (hw : wInv R S f g p a T u kp) : ∃ I' L', cal d 140 [.ref 1] (I, L, rR ru dr sr rd rl, 65, x) = some (some (.int (akA S p a cl).1), (I', L', rR ru dr sr rd rl, 65, x)) ∧ cInv I' L' ru dr R S f g p a n t ((akA S p a cl).2.getD l) u kp cl si cs := by
  have h0 := h
  obtain ⟨hI, hA, hT, hO, hP, hC, hS, hQ, hR⟩ := h
  obtain ⟨hc, hw, hu, hk⟩ := hw
  have hp := hw.1
  have hfl := fit_lt S a cl hp
  unfold akA
  rw [k140, s6 (s := 14) hc hI (Or.inl rfl) hA hw hC, bI_i, e140_5]
  by_cases z : fit S a cl p = 0
  · rw [if_pos ((nI_z (by omega)).mpr z), if_pos z]
    exact ⟨I, L, rfl, h0⟩
  · obtain ⟨w1, w2, e1⟩ := l140 (d := d) (L := L) (ru := ru) (dr := dr) (sr := sr) (rd := rd) (rl := rl) (x := x) (m := fit S a cl p) hc hI hA hw (fit_lp S a cl p) 5 0 .null .null (by omega)
    obtain ⟨hM, hB⟩ := amn_le (V := asV) (asF_le S a hp (fit S a cl p)) 50
    rw [show amn asV (asF S a p (fit S a cl p)) (10 * 0) = none from rfl, show amI none = -(nI 1) from rfl, show amM none = 0 from rfl] at e1
    obtain ⟨I3, e3, h3, f3⟩ := s101 (d := d) (L := L) (ru := ru) (dr := dr) (sr := sr) (rd := rd) (rl := rl) (x := x) (I := I)
    obtain ⟨I4, L4, e4, h4, f4, g4⟩ := s102 (d := d) (v := lN (amM (amn asV (asF S a p (fit S a cl p)) 50))) (ru := ru) (dr := dr) (sr := sr) (rd := rd) (rl := rl) (x := x) h3 (by decide)
    have f5 : fW [4] I I4 := f3.tr f4
    rw [if_neg (by rw [nI_z (by omega)]; exact z), e1, e3, bV_n, e140_54, nI_l (by omega), e4, bV_n, e140_59, if_neg z]
    exact ⟨I4, L4, rfl, ⟨f5.ct hI (by decide), f5.st (Or.inl rfl) hA (by decide), f5.tx hT (by decide), h4, f5.pa hP (by decide), f5.clu hC (by decide), f5.sig hS (by decide), hQ, f5.cs (zRD.q hQ) hR (zRD.nn hQ (by decide))⟩⟩
/-! laws, looks -/
def gtl (P : Nat → Bool) (A B : Nat → Nat) : Nat → List Int64
  | 0 => []
  | k + 1 => if P k = true ∧ fb_ct P k = 0 then [lN (A k), lN (B k)] else gtl P A B k
theorem gtl_nil {P : Nat → Bool} {A B : Nat → Nat} : ∀ {k}, fb_ct P k = 0 → gtl P A B k = []
  | 0, _ => rfl
  | k + 1, h => by
    rw [fb_ct_succ] at h
    have hP : ¬ P k = true := fun q => by rw [if_pos q] at h; omega
    rw [gtl, if_neg (fun q => hP q.1)]
    exact gtl_nil (by omega)
def lwf (l : List (Nat × Int32)) (k : Nat) : Bool := lfi l (k / 7) (k % 7)
theorem l143i {b : Nat} (hb : b < 7) : ∀ j c (I : Nat → Nat → Int32) (L : Nat → Nat → Int64), c + j = 7 → cSi I si → cTo I L (gtl (lwf si) (fun k => k / 7) (fun k => k % 7) (7 * b + c)) → ∃ I' L', res d 143 12 [.ref 1, .int (nI (fb_ct (lwf si) (7 * b + c))), .int (nI b), .int (nI c)] [] (I, L, rR ru dr sr rd rl, 65, x) = res d 143 7 [.ref 1, .int (nI (fb_ct (lwf si) (7 * (b + 1)))), .int (nI (b + 1)), .int (nI 7)] [] (I', L', rR ru dr sr rd rl, 65, x) ∧ cTo I' L' (gtl (lwf si) (fun k => k / 7) (fun k => k % 7) (7 * (b + 1))) ∧ fW [4] I I'
  | 0, c, I, L, hc, hS, hO => by
    have : c = 7 := by omega
    subst this
    exact ⟨I, L, by rw [l143_12, if_pos (by decide), nI_add, show 7 * (b + 1) = 7 * b + 7 by omega], by rw [show 7 * (b + 1) = 7 * b + 7 by omega]; exact hO, fW.rf⟩
  | j + 1, c, I, L, hc, hS, hO => by
    have hct := fb_ct_le (lwf si) (7 * b + c)
    have eP : lwf si (7 * b + c) = lfi si b c := by unfold lwf; rw [show (7 * b + c) / 7 = b by omega, show (7 * b + c) % 7 = c by omega]
    have e7 : (7 * b + c) / 7 = b := by omega
    have e8 : (7 * b + c) % 7 = c := by omega
    have ec : fb_ct (lwf si) (7 * b + (c + 1)) = fb_ct (lwf si) (7 * b + c) + if lwf si (7 * b + c) = true then 1 else 0 := rfl
    have eg : gtl (lwf si) (fun k => k / 7) (fun k => k % 7) (7 * b + (c + 1)) = if lwf si (7 * b + c) = true ∧ fb_ct (lwf si) (7 * b + c) = 0 then [lN ((7 * b + c) / 7), lN ((7 * b + c) % 7)] else gtl (lwf si) (fun k => k / 7) (fun k => k % 7) (7 * b + c) := rfl
    rw [e7, e8] at eg
    rw [eP] at ec eg
    rw [l143_12, if_neg (by rw [nI_ltI (by omega) (by omega)]; omega), s60 (by omega) (by omega) hS, bI_i, e143_20]
    cases z : lfi si b c with
    | false =>
      rw [z, if_neg Bool.false_ne_true] at ec
      rw [z, if_neg (fun q => Bool.false_ne_true q.1)] at eg
      rw [← eg] at hO
      obtain ⟨I2, L2, e2, h2, f2⟩ := l143i hb j (c + 1) I L (by omega) hS hO
      refine ⟨I2, L2, ?_, h2, f2⟩
      rw [if_pos (show nI (if false = true then 1 else 0) = 0 from rfl), nI_add]
      rw [ec] at e2
      exact e2
    | true =>
      rw [z, if_pos rfl] at ec
      rw [if_neg (show ¬ nI (if true = true then 1 else 0) = 0 by decide)]
      by_cases y : fb_ct (lwf si) (7 * b + c) = 0
      · rw [z, if_pos ⟨rfl, y⟩] at eg
        rw [gtl_nil y] at hO
        obtain ⟨I1, L1, e1, h1, f1, g1⟩ := s102 (d := d) (v := lN b) (ru := ru) (dr := dr) (sr := sr) (rd := rd) (rl := rl) (x := x) hO (by decide)
        obtain ⟨I3, L3, e3, h3, f3, g3⟩ := s102 (d := d) (v := lN c) (ru := ru) (dr := dr) (sr := sr) (rd := rd) (rl := rl) (x := x) h1 (show 1 < 8 by decide)
        have h3' : cTo I3 L3 (gtl (lwf si) (fun k => k / 7) (fun k => k % 7) (7 * b + (c + 1))) := by rw [eg]; exact h3
        obtain ⟨I2, L2, e2, h2, f2⟩ := l143i hb j (c + 1) I3 L3 (by omega) ((f1.tr f3).sig hS (by decide)) h3'
        refine ⟨I2, L2, ?_, h2, f1.tr (f3.tr f2)⟩
        rw [if_pos (by rw [y]; rfl), nI_l (by omega), e1, bV_n, e143_28, nI_l (by omega), e3, bV_n, e143_33, nI_add, nI_add]
        rw [ec] at e2
        exact e2
      · rw [z, if_neg (fun q => y q.2)] at eg
        rw [← eg] at hO
        obtain ⟨I2, L2, e2, h2, f2⟩ := l143i hb j (c + 1) I L (by omega) hS hO
        refine ⟨I2, L2, ?_, h2, f2⟩
        rw [if_neg (by rw [nI_z (by omega)]; exact y), e143_33, nI_add, nI_add]
        rw [ec] at e2
        exact e2
theorem l143 : ∀ j b (I : Nat → Nat → Int32) (L : Nat → Nat → Int64) (w3 : Value), b + j = 7 → cSi I si → cTo I L (gtl (lwf si) (fun k => k / 7) (fun k => k % 7) (7 * b)) → ∃ I' L', res d 143 7 [.ref 1, .int (nI (fb_ct (lwf si) (7 * b))), .int (nI b), w3] [] (I, L, rR ru dr sr rd rl, 65, x) = some (some (.int (nI (fb_ct (lwf si) 49))), (I', L', rR ru dr sr rd rl, 65, x)) ∧ cTo I' L' (gtl (lwf si) (fun k => k / 7) (fun k => k % 7) 49) ∧ fW [4] I I'
  | 0, b, I, L, w3, hb, hS, hO => by
    have : b = 7 := by omega
    subst this
    exact ⟨I, L, by rw [l143_7, if_pos (by decide)], hO, fW.rf⟩
  | j + 1, b, I, L, w3, hb, hS, hO => by
    obtain ⟨I1, L1, e1, h1, f1⟩ := l143i (d := d) (ru := ru) (dr := dr) (sr := sr) (rd := rd) (rl := rl) (x := x) (b := b) (by omega) 7 0 I L (by omega) hS hO
    obtain ⟨I2, L2, e2, h2, f2⟩ := l143 j (b + 1) I1 L1 (.int (nI 7)) (by omega) (f1.sig hS (by decide)) h1
    refine ⟨I2, L2, ?_, h2, f1.tr f2⟩
    rw [Nat.add_zero] at e1
    rw [l143_7, if_neg (by rw [nI_ltI (by omega) (by omega)]; omega), e1, e2]
theorem o143 (h : cInv I L ru dr R S f g p a n t l u kp cl si cs) (hw : wInv R S f g p a T u kp) : ∃ I' L', cal d 143 [.ref 1] (I, L, rR ru dr sr rd rl, 65, x) = some (some (.int (nI (fb_ct (lwf si) 49))), (I', L', rR ru dr sr rd rl, 65, x)) ∧ cInv I' L' ru dr R S f g p a n t (gtl (lwf si) (fun k => k / 7) (fun k => k % 7) 49) u kp cl si cs := by
  obtain ⟨hI, hA, hT, hO, hP, hC, hS, hQ, hR⟩ := h
  obtain ⟨hc, hw, hu, hk⟩ := hw
  obtain ⟨I1, e1, h1, f1⟩ := s101 (d := d) (L := L) (ru := ru) (dr := dr) (sr := sr) (rd := rd) (rl := rl) (x := x) (I := I)
  obtain ⟨I2, L2, e2, h2, f2⟩ := l143 (d := d) (si := si) (ru := ru) (dr := dr) (sr := sr) (rd := rd) (rl := rl) (x := x) 7 0 I1 L .null (by omega) (f1.sig hS (by decide)) h1
  have f3 : fW [4] I I2 := f1.tr f2
  exact ⟨I2, L2, by rw [k143, e1, bV_n, e143_3]; exact e2, ⟨f3.ct hI (by decide), f3.st (Or.inl rfl) hA (by decide), f3.tx hT (by decide), h2, f3.pa hP (by decide), f3.clu hC (by decide), f3.sig hS (by decide), hQ, f3.cs (zRD.q hQ) hR (zRD.nn hQ (by decide))⟩⟩
theorem l144 (hS : cSi I si) : ∀ j k (w4 : Value), k + j = 7 → ∃ w', res d 144 6 [.ref 1, .int (amI (amn (fun _ => true) (lwm si) k)), .int (nI (amM (amn (fun _ => true) (lwm si) k))), .int (nI k), w4] [] (I, L, rR ru dr sr rd rl, 65, x) = (if nI (amM (amn (fun _ => true) (lwm si) 7)) = 0 then some (some (.int (-(nI 2))), (I, L, rR ru dr sr rd rl, 65, x)) else bV (cal d 101 [.ref 4] (I, L, rR ru dr sr rd rl, 65, x)) fun h1 => res d 144 33 [.ref 1, .int (amI (amn (fun _ => true) (lwm si) 7)), .int (nI (amM (amn (fun _ => true) (lwm si) 7))), .int (nI 7), w'] [] h1)
  | 0, k, w4, hk => ⟨w4, by rw [l144_6, if_pos (by rw [nI_ltI (by omega) (by omega)]; omega), show k = 7 by omega]⟩
  | j + 1, k, w4, hk => by
    obtain ⟨hM, hB⟩ := amn_le (V := fun _ => true) (lwm_le si) k
    have hFk := lwm_le si k
    obtain ⟨w2, e2⟩ := l144 hS j (k + 1) (.int (nI (lwm si k))) (by omega)
    refine ⟨w2, ?_⟩
    rw [l144_6, if_neg (by rw [nI_ltI (by omega) (by omega)]; omega), s61 (by omega) hS, bI_i, e144_13]
    cases y : (amn (fun _ => true) (lwm si) k) with
    | none =>
      rw [amn_n rfl y] at e2
      rw [if_pos (show amI none = -(nI 1) from rfl), e144_20, nI_add]
      exact e2
    | some e =>
      rw [y] at hM hB
      have he := hB e rfl
      have hM' : e.2 ≤ 49 := hM
      rw [if_neg (show ¬ amI (some e) = -(nI 1) from fun q => ((nI_m1 (by omega)).mp q).elim), show amM (some e) = e.2 from rfl]
      by_cases z : lwm si k < e.2
      · rw [amn_t rfl y z] at e2
        rw [if_neg (by rw [nI_leI (by omega) (by omega)]; omega), e144_20, nI_add]
        exact e2
      · rw [amn_f rfl y z] at e2
        rw [if_pos (by rw [nI_leI (by omega) (by omega)]; omega), nI_add]
        exact e2
def lkA (si : List (Nat × Int32)) : Int32 × Option (List Int64) := if amM (amn (fun _ => true) (lwm si) 7) = 0 then (-(nI 2), none) else (amI (amn (fun _ => true) (lwm si) 7), some [lN (amM (amn (fun _ => true) (lwm si) 7))])
theorem o144 (h : cInv I L ru dr R S f g p a n t l u kp cl si cs) (hw : wInv R S f g p a T u kp) : ∃ I' L', cal d 144 [.ref 1] (I, L, rR ru dr sr rd rl, 65, x) = some (some (.int (lkA si).1), (I', L', rR ru dr sr rd rl, 65, x)) ∧ cInv I' L' ru dr R S f g p a n t ((lkA si).2.getD l) u kp cl si cs := by
  have h0 := h
  obtain ⟨hI, hA, hT, hO, hP, hC, hS, hQ, hR⟩ := h
  obtain ⟨hc, hw, hu, hk⟩ := hw
  obtain ⟨hM, hB⟩ := amn_le (V := fun _ => true) (lwm_le si) 7
  obtain ⟨w1, e1⟩ := l144 (d := d) (L := L) (ru := ru) (dr := dr) (sr := sr) (rd := rd) (rl := rl) (x := x) hS 7 0 .null (by omega)
  rw [show (amn (fun _ => true) (lwm si) 0) = none from rfl, show amI none = -(nI 1) from rfl, show amM none = 0 from rfl] at e1
  unfold lkA
  rw [k144, e1]
  by_cases z : amM (amn (fun _ => true) (lwm si) 7) = 0
  · rw [if_pos ((nI_z (by omega)).mpr z), if_pos z]
    exact ⟨I, L, rfl, h0⟩
  · obtain ⟨I3, e3, h3, f3⟩ := s101 (d := d) (L := L) (ru := ru) (dr := dr) (sr := sr) (rd := rd) (rl := rl) (x := x) (I := I)
    obtain ⟨I4, L4, e4, h4, f4, g4⟩ := s102 (d := d) (v := lN (amM (amn (fun _ => true) (lwm si) 7))) (ru := ru) (dr := dr) (sr := sr) (rd := rd) (rl := rl) (x := x) h3 (by decide)
    have f5 : fW [4] I I4 := f3.tr f4
    rw [if_neg (by rw [nI_z (by omega)]; exact z), e3, bV_n, e144_33, nI_l (by omega), e4, bV_n, e144_38, if_neg z]
    exact ⟨I4, L4, rfl, ⟨f5.ct hI (by decide), f5.st (Or.inl rfl) hA (by decide), f5.tx hT (by decide), h4, f5.pa hP (by decide), f5.clu hC (by decide), f5.sig hS (by decide), hQ, f5.cs (zRD.q hQ) hR (zRD.nn hQ (by decide))⟩⟩

end
