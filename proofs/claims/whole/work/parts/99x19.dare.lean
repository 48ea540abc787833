section
variable {I : Nat → Nat → Int32} {L : Nat → Nat → Int64} {ru dr : Nat} {sr : Nat → Option Nat} {rd : Option Nat} {rl x : Nat}
variable {d R S p n T : Nat} {f g : Nat → Nat} {a : zP} {t : Nat → Nat} {l : List Int64} {u : List zP} {kp : Nat → Option zP} {cl : List (Nat × Nat)} {si : List (Nat × Int32)} {cs : zC}

def fI (x : Nat) : Int32 := nI x - nI 1
theorem fI_t {x : Nat} (h : x < 2 ^ 30) : (fI x).toInt = (x : Int) - 1 := by
  unfold fI
  rw [fb_subI (by rw [nI_toInt (by omega), nI_toInt (by omega)]; omega) (by rw [nI_toInt (by omega), nI_toInt (by omega)]; omega), nI_toInt (by omega), nI_toInt (by omega)]
  rfl
theorem fI_le {x y : Nat} (hx : x < 2 ^ 30) (hy : y < 2 ^ 30) : fI x ≤ fI y ↔ x ≤ y := by
  rw [fa_le, fI_t hx, fI_t hy]
  omega
theorem fI_s {x : Nat} (h : 1 ≤ x) : fI x = nI (x - 1) := zsub h
theorem fI_0 : fI 0 = -(nI 1) := by decide
theorem fI_d {x : Nat} (h : 1 ≤ x) : fI x + -(nI 1) = fI (x - 1) := by
  unfold fI
  rw [Int32.sub_eq_add_neg, Int32.sub_eq_add_neg, Int32.add_assoc, Int32.add_comm (-(nI 1)), ← Int32.add_assoc, ← Int32.sub_eq_add_neg (nI x), zsub h]
theorem fI_a {x k : Nat} (h : 1 ≤ x + k) : fI x + nI k = nI (x + k - 1) := by
  unfold fI
  rw [Int32.sub_eq_add_neg, Int32.add_assoc, Int32.add_comm (-(nI 1)), ← Int32.add_assoc, nI_add, ← Int32.sub_eq_add_neg, zsub h]
def dP (R m : Nat) (W : Nat → Bool) (b i : Nat) : Bool := decide (b + i = R) || (m.testBit (b + i) && !W (b + i + 1))
def dfr (R k b : Nat) : Nat := min (R + 1) (b + k) - b
def dto (R m k : Nat) (W : Nat → Bool) (b : Nat) : Nat := if fa_first (dP R m W b) (dfr R k b) < dfr R k b then b + fa_first (dP R m W b) (dfr R k b) + 1 else 0
def dwn (R m k : Nat) : Nat → Nat → Bool
  | 0 => fun _ => false
  | j + 1 => zset (dwn R m k j) (R - j) (decide (0 < dto R m k (dwn R m k j) (R - j)))
def mvI (P : Nat → Bool) (b n : Nat) (v : Int32) : Int32 := if fa_first P n < n then nI (b + fa_first P n) else v
theorem mvI_s (P : Nat → Bool) (b n : Nat) (v : Int32) : mvI P b (n + 1) v = mvI P b n (if P n = true then nI (b + n) else v) := by
  unfold mvI
  by_cases z : fa_first P n < n
  · have h1 := fa_first_yes P n z
    have h2 : fa_first P (n + 1) = fa_first P n := fa_first_at (by omega) h1 (fun j hj => fa_first_no P n j hj)
    rw [h2, if_pos (by omega), if_pos z]
  · rw [if_neg z]
    have hall : ∀ j, j < n → P j = false := fun j hj => fa_first_no P n j (by have := fa_first_le P n; omega)
    by_cases y : P n = true
    · rw [fa_first_at (k := n) (by omega) y hall, if_pos (by omega), if_pos y]
    · rw [if_neg (fa_first_end fun j hj => by
        by_cases w : j = n
        · rw [w]; exact Bool.eq_false_iff.mpr y
        · exact hall j (by omega)), if_neg y]
theorem l172i {m k wn b : Nat} {W : Nat → Bool} (hR : R ≤ 8) (hm : m < 2 ^ 31) (hwn : wn < 2 ^ 31) (hb : b ≤ R) (hW : ∀ x, b < x → x ≤ R → wn.testBit (x - 1) = W x) : ∀ n (v5 : Int32) (w8 : Value), b + n ≤ R + 1 → ∃ w', res d 172 23 [.ref 1, .int (nI m), .int (nI k), .int (nI R), .int (nI wn), .int v5, .int (fI b), .int (fI (b + n)), w8] [] (I, L, rR ru dr sr rd rl, 65, x) = res d 172 23 [.ref 1, .int (nI m), .int (nI k), .int (nI R), .int (nI wn), .int (mvI (dP R m W b) b n v5), .int (fI b), .int (fI b), w'] [] (I, L, rR ru dr sr rd rl, 65, x)
  | 0, v5, w8, h => ⟨w8, rfl⟩
  | n + 1, v5, w8, h => by
    rw [mvI_s]
    have e1 : fI (b + (n + 1)) = nI (b + n) := fI_s (by omega)
    have e2 : fI (b + (n + 1)) + -(nI 1) = fI (b + n) := fI_d (by omega)
    have h0 : ¬ fI (b + (n + 1)) ≤ fI b := by rw [fI_le (by omega) (by omega)]; omega
    have hyes : dP R m W b n = true → ∃ w', res d 172 41 [.ref 1, .int (nI m), .int (nI k), .int (nI R), .int (nI wn), .int v5, .int (fI b), .int (fI (b + (n + 1))), w8] [] (I, L, rR ru dr sr rd rl, 65, x) = res d 172 23 [.ref 1, .int (nI m), .int (nI k), .int (nI R), .int (nI wn), .int (mvI (dP R m W b) b n (if dP R m W b n = true then nI (b + n) else v5)), .int (fI b), .int (fI b), w'] [] (I, L, rR ru dr sr rd rl, 65, x) := fun hP => by
      obtain ⟨w2, e3⟩ := l172i hR hm hwn hb hW n (nI (b + n)) (.int (nI 1)) (by omega)
      refine ⟨w2, ?_⟩
      rw [e172_41, e172_44, if_neg (by decide), e2, if_pos hP, ← e3, e1]
    have hno : dP R m W b n = false → ∃ w', res d 172 43 [.ref 1, .int (nI m), .int (nI k), .int (nI R), .int (nI wn), .int v5, .int (fI b), .int (fI (b + (n + 1))), w8] [] (I, L, rR ru dr sr rd rl, 65, x) = res d 172 23 [.ref 1, .int (nI m), .int (nI k), .int (nI R), .int (nI wn), .int (mvI (dP R m W b) b n (if dP R m W b n = true then nI (b + n) else v5)), .int (fI b), .int (fI b), w'] [] (I, L, rR ru dr sr rd rl, 65, x) := fun hP => by
      obtain ⟨w2, e3⟩ := l172i hR hm hwn hb hW n v5 (.int (nI 0)) (by omega)
      refine ⟨w2, ?_⟩
      rw [e172_43, e172_44, if_pos (show nI 0 = 0 from rfl), e2, if_neg (by rw [hP]; exact Bool.false_ne_true), ← e3]
    rw [l172_23, if_neg h0]
    by_cases z : b + n = R
    · rw [if_pos (by rw [e1, z])]
      exact hyes (by unfold dP; rw [decide_eq_true z]; rfl)
    · rw [if_neg (by rw [e1, nI_eq (by omega) (by omega)]; exact z)]
      have hWn := hW (b + n + 1) (by omega) (by omega)
      rw [Nat.add_sub_cancel] at hWn
      cases y : m.testBit (b + n) with
      | false =>
        rw [if_pos (by rw [e1, zbitz hm (by omega)]; exact y)]
        exact hno (by unfold dP; rw [decide_eq_false z, y]; rfl)
      | true =>
        rw [if_neg (by rw [e1, zbitz hm (by omega), y]; decide)]
        cases w : W (b + n + 1) with
        | false =>
          rw [if_pos (by rw [e1, zbitz hwn (by omega), hWn]; exact w)]
          exact hyes (by unfold dP; rw [decide_eq_false z, y, w]; rfl)
        | true =>
          rw [if_neg (by rw [e1, zbitz hwn (by omega), hWn, w]; decide)]
          exact hno (by unfold dP; rw [decide_eq_false z, y, w]; rfl)
theorem dto_mv (R m k : Nat) (W : Nat → Bool) (b : Nat) : mvI (dP R m W b) b (dfr R k b) (-(nI 1)) = if dto R m k W b = 0 then -(nI 1) else nI (dto R m k W b - 1) := by
  unfold mvI dto
  by_cases z : fa_first (dP R m W b) (dfr R k b) < dfr R k b
  · rw [if_pos z, if_pos z, if_neg (by omega), Nat.add_sub_cancel]
  · rw [if_neg z, if_neg z, if_pos rfl]
theorem dto_le (R m k : Nat) (W : Nat → Bool) (b : Nat) : dto R m k W b ≤ R + 1 := by
  unfold dto dfr
  split <;> omega
theorem l172 {m k : Nat} (hR1 : 1 ≤ R) (hR : R ≤ 8) (hm : m < 2 ^ 31) (hk : k ≤ 100) (hk1 : 1 ≤ k) : ∀ b wn (v5 : Int32) (w7 w8 : Value), b ≤ R → wn < 256 → (∀ x, 1 ≤ x → x ≤ R → wn.testBit (x - 1) = (decide (b < x) && dwn R m k (R - b) x)) → res d 172 12 [.ref 1, .int (nI m), .int (nI k), .int (nI R), .int (nI wn), .int v5, .int (fI b), w7, w8] [] (I, L, rR ru dr sr rd rl, 65, x) = some (some (.int (if dto R m k (dwn R m k R) 0 = 0 then -(nI 1) else nI (dto R m k (dwn R m k R) 0 - 1))), (I, L, rR ru dr sr rd rl, 65, x))
  | b, wn, v5, w7, w8, hb, hwn, hW => by
    have e7 : zmin (fI b + nI k) (nI R) = fI (b + dfr R k b) := by
      rw [fI_a (by omega), zmin_n (by omega) (by omega), fI_s (by unfold dfr; omega)]
      congr 1
      unfold dfr
      omega
    obtain ⟨w2, e2⟩ := l172i (d := d) (L := L) (ru := ru) (dr := dr) (sr := sr) (rd := rd) (rl := rl) (x := x) (I := I) (k := k) hR hm (show wn < 2 ^ 31 by omega) hb (fun x h1 h2 => by rw [hW x (by omega) h2, decide_eq_true h1, Bool.true_and]) (dfr R k b) (-(nI 1)) w8 (by unfold dfr; omega)
    have h0 : ¬ fI b < -(nI 1) := by
      rw [fa_lt, fI_t (by omega)]
      show ¬ _ < (-1 : Int)
      omega
    have hdl := dto_le R m k (dwn R m k (R - b)) b
    rw [l172_12, if_neg h0, e7, e2, dto_mv, l172_23, if_pos (by rw [fI_le (by omega) (by omega)]; omega)]
    match b, hb, hW, hdl with
    | 0, _, hW, hdl =>
      rw [Nat.sub_zero] at hdl ⊢
      have e9 : fI 0 + -(nI 1) = -(nI 2) := by decide
      by_cases z : dto R m k (dwn R m k R) 0 = 0
      · rw [if_pos (by rw [if_pos z]), e9, l172_12, if_pos (by decide)]
      · rw [if_neg (by rw [if_neg z, nI_m1 (by omega)]; exact not_false), if_pos (by decide), e9, l172_12, if_pos (by decide)]
    | b + 1, hb, hW, hdl =>
      have hstep : ∀ wn', wn' < 256 → (∀ x, 1 ≤ x → x ≤ R → wn'.testBit (x - 1) = (decide (b < x) && dwn R m k (R - b) x)) → ∀ v7 w8, res d 172 12 [.ref 1, .int (nI m), .int (nI k), .int (nI R), .int (nI wn'), .int v7, .int (fI (b + 1) + -(nI 1)), .int (fI (b + 1)), w8] [] (I, L, rR ru dr sr rd rl, 65, x) = some (some (.int (if dto R m k (dwn R m k R) 0 = 0 then -(nI 1) else nI (dto R m k (dwn R m k R) 0 - 1))), (I, L, rR ru dr sr rd rl, 65, x)) := fun wn' h1 h2 v7 w8 => by
        rw [fI_d (by omega), Nat.add_sub_cancel]
        exact l172 hR1 hR hm hk hk1 b wn' v7 _ w8 (by omega) h1 h2
      have eR : R - b = (R - (b + 1)) + 1 := by omega
      have eb : R - (R - (b + 1)) = b + 1 := by omega
      by_cases z : dto R m k (dwn R m k (R - (b + 1))) (b + 1) = 0
      · rw [if_pos (by rw [if_pos z])]
        refine hstep wn hwn (fun x h1 h2 => ?_) _ _
        rw [eR, dwn, eb, hW x h1 h2]
        by_cases y : x = b + 1
        · rw [y, zset_self, z, decide_eq_false (Nat.lt_irrefl (b + 1)), Bool.false_and, decide_eq_false (Nat.lt_irrefl 0), Bool.and_false]
        · rw [zset_ne _ _ y]
          by_cases v : b + 1 < x
          · rw [decide_eq_true v, decide_eq_true (by omega : b < x)]
          · rw [decide_eq_false v, decide_eq_false (by omega : ¬ b < x)]
      · rw [if_neg (by rw [if_neg z, nI_m1 (by omega)]; exact not_false), if_neg (by rw [fI_s (by omega), nI_n0 (by omega)]; exact not_false)]
        have esh : nI 1 <<< (fI (b + 1) &&& 31) = nI (2 ^ b) := by rw [fI_s (by omega), Nat.add_sub_cancel]; exact zshl1 (by omega)
        rw [esh, fa_or]
        refine hstep _ (Nat.or_lt_two_pow (n := 8) hwn (Nat.pow_lt_pow_right (by decide) (by omega))) (fun x h1 h2 => ?_) _ _
        rw [eR, dwn, eb, Nat.testBit_or, Nat.testBit_two_pow, hW x h1 h2]
        by_cases y : x = b + 1
        · rw [y, zset_self, decide_eq_true (by omega : b = b + 1 - 1), Bool.or_true, decide_eq_true (by omega : b < b + 1), decide_eq_true (Nat.pos_of_ne_zero z)]
          rfl
        · rw [zset_ne _ _ y, decide_eq_false (by omega : ¬ b = x - 1), Bool.or_false]
          by_cases v : b + 1 < x
          · rw [decide_eq_true v, decide_eq_true (by omega : b < x)]
          · rw [decide_eq_false v, decide_eq_false (by omega : ¬ b < x)]
theorem s172 {m k : Nat} (hc : zCt R S f g) (hI : cCt I R S f g) (hm : m < 2 ^ 31) (hk : k ≤ 100) (hk1 : 1 ≤ k) : cal d 172 [.ref 1, .int (nI m), .int (nI k)] (I, L, rR ru dr sr rd rl, 65, x) = some (some (.int (if dto R m k (dwn R m k R) 0 = 0 then -(nI 1) else nI (dto R m k (dwn R m k R) 0 - 1))), (I, L, rR ru dr sr rd rl, 65, x)) := by
  rw [k172, s14 hc hI, bI_i, e172_3]
  have := l172 (d := d) (L := L) (ru := ru) (dr := dr) (sr := sr) (rd := rd) (rl := rl) (x := x) (I := I) (R := R) (m := m) (k := k) hc.1 hc.2.1 hm hk hk1 R 0 (-(nI 1)) .null .null (Nat.le_refl _) (by decide) (fun x h1 h2 => by rw [Nat.zero_testBit, decide_eq_false (by omega : ¬ R < x)]; rfl)
  exact this
def drA (R S : Nat) (f : Nat → Nat) (p : Nat) (a : zP) (v w : Int32) : Int32 × Option (List Int64) := match inr p v, inl 1 8 w with
  | some q, some k => if dto R (rws f (zdif (2 ^ S - 1) (oth a q ||| 0)) R) k (dwn R (rws f (zdif (2 ^ S - 1) (oth a q ||| 0)) R) k R) 0 = 0 then (nI 0, some []) else (nI 1, some [lN (dto R (rws f (zdif (2 ^ S - 1) (oth a q ||| 0)) R) k (dwn R (rws f (zdif (2 ^ S - 1) (oth a q ||| 0)) R) k R) 0 - 1)])
  | _, _ => (-(nI 1), none)
theorem o147 {v w : Int32} (h : cInv I L ru dr R S f g p a n t l u kp cl si cs) (hw : wInv R S f g p a T u kp) : ∃ I' L', cal d 147 [.ref 1, .int v, .int w] (I, L, rR ru dr sr rd rl, 65, x) = some (some (.int (drA R S f p a v w).1), (I', L', rR ru dr sr rd rl, 65, x)) ∧ cInv I' L' ru dr R S f g p a n t ((drA R S f p a v w).2.getD l) u kp cl si cs := by
  have h0 := h
  obtain ⟨hI, hA, hT, hO, hP, hC, hS, hQ, hR⟩ := h
  obtain ⟨hc, hw, hu, hk⟩ := hw
  have hp := hw.1
  have hR8 := hc.2.1
  unfold drA
  cases z : inr p v with
  | none =>
    refine ⟨I, L, ?_, h0⟩
    rw [k147, s71f (s := 14) (Or.inl rfl) hA hp (inr_n (by omega) z), bI_i, e147_4, if_pos (show nI 0 = 0 from rfl)]
  | some q =>
    obtain ⟨hq, rfl⟩ := inr_s (by omega) z
    rw [k147, s71t (s := 14) (Or.inl rfl) hA hp hq, bI_i, e147_4, if_neg (by decide)]
    cases y : inl 1 8 w with
    | none =>
      refine ⟨I, L, ?_, h0⟩
      by_cases y1 : w < nI 1
      · rw [if_pos y1]
      · rw [if_neg y1, if_neg (fun e => (inl_n y).elim y1 (fun y2 => (fa_of_lt y2).2.1 e))]
    | some k =>
      obtain ⟨k1, k2, rfl⟩ := inl_s (by decide) (by decide) y
      have h8 := rws8 hR8 f (zdif (2 ^ S - 1) (oth a q ||| 0))
      have hdl := dto_le R (rws f (zdif (2 ^ S - 1) (oth a q ||| 0)) R) k (dwn R (rws f (zdif (2 ^ S - 1) (oth a q ||| 0)) R) k R) 0
      obtain ⟨I3, e3, h3, f3⟩ := s101 (d := d) (L := L) (ru := ru) (dr := dr) (sr := sr) (rd := rd) (rl := rl) (x := x) (I := I)
      rw [if_neg (by rw [nI_ltI (by omega) (by omega)]; omega), if_pos (by rw [nI_leI (by omega) (by omega)]; omega), s81 (s := 14) hc hI (Or.inl rfl) hA (by omega), bI_i, e147_19, s172 hc hI (by omega) (by omega) k1, bI_i, e147_21, e3, bV_n, e147_25]
      dsimp only
      by_cases u' : dto R (rws f (zdif (2 ^ S - 1) (oth a q ||| 0)) R) k (dwn R (rws f (zdif (2 ^ S - 1) (oth a q ||| 0)) R) k R) 0 = 0
      · rw [if_pos (by rw [if_pos u']), if_pos u']
        exact ⟨I3, L, rfl, ⟨f3.ct hI (by decide), f3.st (Or.inl rfl) hA (by decide), f3.tx hT (by decide), h3, f3.pa hP (by decide), f3.clu hC (by decide), f3.sig hS (by decide), hQ, f3.cs (zRD.q hQ) hR (zRD.nn hQ (by decide))⟩⟩
      · obtain ⟨I4, L4, e4, h4, f4, g4⟩ := s102 (d := d) (v := lN (dto R (rws f (zdif (2 ^ S - 1) (oth a q ||| 0)) R) k (dwn R (rws f (zdif (2 ^ S - 1) (oth a q ||| 0)) R) k R) 0 - 1)) (ru := ru) (dr := dr) (sr := sr) (rd := rd) (rl := rl) (x := x) h3 (by decide)
        have f5 : fW [4] I I4 := f3.tr f4
        rw [if_neg (by rw [if_neg u', nI_m1 (by omega)]; exact not_false), if_neg u', nI_l (by omega), e4, bV_n, e147_35]
        rw [if_neg u']
        exact ⟨I4, L4, rfl, ⟨f5.ct hI (by decide), f5.st (Or.inl rfl) hA (by decide), f5.tx hT (by decide), h4, f5.pa hP (by decide), f5.clu hC (by decide), f5.sig hS (by decide), hQ, f5.cs (zRD.q hQ) hR (zRD.nn hQ (by decide))⟩⟩
/-! rule, law -/
theorem cInv.dr' {I I' : Nat → Nat → Int32} (h : cInv I L ru dr R S f g p a n t l u kp cl si cs) (fr : ∀ c, c ≠ dr → c ≠ dr + 1 → I' c = I c) : cInv I' L ru dr R S f g p a n t l u kp cl si cs := by
  obtain ⟨hI, hA, hT, hO, hP, hC, hS, hQ, hR⟩ := h
  have n1 : ∀ c, c < 30 → I' c = I c := fun c hc => fr c (by rcases hQ with ⟨-, e⟩ | ⟨-, e⟩ <;> omega) (by rcases hQ with ⟨-, e⟩ | ⟨-, e⟩ <;> omega)
  have n2 : I' ru = I ru := fr ru (by rcases hQ with ⟨e1, e2⟩ | ⟨e1, e2⟩ <;> omega) (by rcases hQ with ⟨e1, e2⟩ | ⟨e1, e2⟩ <;> omega)
  have n3 : I' (ru + 1) = I (ru + 1) := fr (ru + 1) (by rcases hQ with ⟨e1, e2⟩ | ⟨e1, e2⟩ <;> omega) (by rcases hQ with ⟨e1, e2⟩ | ⟨e1, e2⟩ <;> omega)
  refine ⟨hI.congr (n1 6 (by decide)) (n1 7 (by decide)) (n1 8 (by decide)), hA.congr (n1 15 (by decide)), hT.congr (n1 2 (by decide)) (n1 3 (by decide)), hO.congr (n1 4 (by decide)) rfl, hP.congr (n1 20 (by decide)) (n1 21 (by decide)) (n1 22 (by decide)), hC.congr (n1 23 (by decide)) (n1 24 (by decide)) (n1 25 (by decide)), hS.congr (n1 26 (by decide)) (n1 27 (by decide)) (n1 28 (by decide)), hQ, ?_⟩
  unfold cRu
  rw [n2, n3]
  exact hR
theorem rR_ru : zup (rR ru dr sr rd rl) 1 11 (some dr) = rR dr dr sr rd rl := by
  funext a k
  by_cases z : a = 1
  · subst z
    rw [zup_v]
    by_cases y : k = 11
    · subst y; rfl
    · rw [if_neg y]
      unfold rR
      split <;> first | rfl | omega | (split <;> first | rfl | omega)
  · rw [zup_ne _ _ _ z]
    unfold rR
    split <;> first | rfl | omega | (split <;> first | rfl | omega)
theorem rR_dr {q : Nat} : zup (rR ru dr sr rd rl) 1 12 (some q) = rR ru q sr rd rl := by
  funext a k
  by_cases z : a = 1
  · subst z
    rw [zup_v]
    by_cases y : k = 12
    · subst y; rfl
    · rw [if_neg y]
      unfold rR
      split <;> first | rfl | omega | (split <;> first | rfl | omega)
  · rw [zup_ne _ _ _ z]
    unfold rR
    split <;> first | rfl | omega | (split <;> first | rfl | omega)
theorem o111f {e : Nat} (h : cInv I L ru dr R S f g p a n t l u kp cl si cs) (hw : wInv R S f g p a T u kp) (hd : 5 ≤ d) (hg : prs t n = (e, none)) (he : e < 1000) : ∃ I', cal d 111 [.ref 1] (I, L, rR ru dr sr rd rl, 65, x) = some (some (.int (-(nI 1) - nI e)), (I', L, rR ru dr (zset sr dr (some 2)) rd rl, 65, x)) ∧ cInv I' L ru dr R S f g p a 0 t l u kp cl si cs := by
  have h0 := h
  obtain ⟨hI, hA, hT, hO, hP, hC, hS, hQ, hR⟩ := h
  obtain ⟨hc, hw, hu, hk⟩ := hw
  obtain ⟨I1, e1, -, f1⟩ := s41 (d := d) (L := L) (ru := ru) (dr := dr) (sr := sr) (rd := rd) (rl := rl) (x := x) (zRD.qd hQ) hd hT
  have h1 := h0.dr' f1
  rw [hg, show pok (e, none) = nI e from rfl] at e1
  obtain ⟨hI, hA, hT, hO, hP, hC, hS, hQ, hR⟩ := h1
  have f2 : fW [2] I1 (zup I1 2 1 (nI 0)) := fW.up (by decide) (by decide) (by decide)
  have hne : nI e ≠ -(nI 1) := fun q => ((nI_m1 (by omega)).mp q).elim
  exact ⟨_, by rw [k111 (zRD.qd hQ), e1, bI_i, e111_5, s96, bV_n, e111_9, if_neg hne], ⟨f2.ct hI (by decide), f2.st (Or.inl rfl) hA (by decide), hT.cut (Nat.zero_le _), f2.to hO (by decide) rfl, f2.pa hP (by decide), f2.clu hC (by decide), f2.sig hS (by decide), hQ, f2.cs (zRD.q hQ) hR (zRD.nn hQ (by decide))⟩⟩
theorem o111t {c2 : zC} {e : Nat} (h : cInv I L ru dr R S f g p a n t l u kp cl si cs) (hw : wInv R S f g p a T u kp) (hd : 5 ≤ d) (hg : prs t n = (e, some c2)) : ∃ I', cal d 111 [.ref 1] (I, L, rR ru dr sr rd rl, 65, x) = some (some (.int (nI 0)), (I', L, rR dr ru (zset sr dr (some 2)) rd rl, 65, x)) ∧ cInv I' L dr ru R S f g p a 0 t l u kp cl si c2 := by
  have h0 := h
  obtain ⟨hI, hA, hT, hO, hP, hC, hS, hQ, hR⟩ := h
  obtain ⟨hc, hw, hu, hk⟩ := hw
  obtain ⟨I1, e1, r1, f1⟩ := s41 (d := d) (L := L) (ru := ru) (dr := dr) (sr := sr) (rd := rd) (rl := rl) (x := x) (zRD.qd hQ) hd hT
  have h1 := h0.dr' f1
  have hR1 := r1 c2 (by rw [hg])
  rw [hg, show pok (e, some c2) = -(nI 1) from rfl] at e1
  obtain ⟨hI, hA, hT, hO, hP, hC, hS, hQ', hR⟩ := h1
  have f2 : fW [2] I1 (zup I1 2 1 (nI 0)) := fW.up (by decide) (by decide) (by decide)
  have hQ2 : dr = 30 ∧ ru = 33 ∨ dr = 33 ∧ ru = 30 := by
    rcases hQ with ⟨q1, q2⟩ | ⟨q1, q2⟩
    · exact Or.inr ⟨q2, q1⟩
    · exact Or.inl ⟨q2, q1⟩
  have e2 : res d 111 23 [.ref 1, .int (-(nI 1)), .ref ru] [] (zup I1 2 1 (nI 0), L, rR dr dr (zset sr dr (some 2)) rd rl, 65, x) = res d 111 26 [.ref 1, .int (-(nI 1)), .ref ru] [] (zup I1 2 1 (nI 0), L, rR dr ru (zset sr dr (some 2)) rd rl, 65, x) := by
    rw [e111_23 (zRD.q hQ), rR_dr]
  refine ⟨zup I1 2 1 (nI 0), ?_, ⟨f2.ct hI (by decide), f2.st (Or.inl rfl) hA (by decide), hT.cut (Nat.zero_le _), f2.to hO (by decide) rfl, f2.pa hP (by decide), f2.clu hC (by decide), f2.sig hS (by decide), hQ2, f2.cs (zRD.q hQ2) hR1 (zRD.nn hQ2 (by decide))⟩⟩
  rw [k111 (zRD.qd hQ), e1, bI_i, e111_5, s96, bV_n, e111_9, if_pos rfl, rR_ru, e2, e111_26 (zRD.q hQ)]
def lwL (R S : Nat) (f g : Nat → Nat) (cs c2 : zC) (p : Nat) (a : zP) : List Int64 := [lN (tc R S f g c2 p 30 a), lN (tc R S f g cs p 30 a), lN (sm (tn R S f g c2 p 30 a) 16 p), lN (sm (tn R S f g cs p 30 a) 16 p)]
theorem o149f {e : Nat} (h : cInv I L ru dr R S f g p a n t l u kp cl si cs) (hw : wInv R S f g p a T u kp) (hd : 5 ≤ d) (hg : prs t n = (e, none)) (he : e < 1000) : ∃ I', cal d 149 [.ref 1] (I, L, rR ru dr sr rd rl, 65, x) = some (some (.int (-(nI 10000) - nI e)), (I', L, rR ru dr (zset sr dr (some 2)) rd rl, 65, x)) ∧ cInv I' L ru dr R S f g p a 0 t l u kp cl si cs := by
  have h0 := h
  obtain ⟨hI, hA, hT, hO, hP, hC, hS, hQ, hR⟩ := h
  obtain ⟨hc, hw, hu, hk⟩ := hw
  obtain ⟨I1, e1, -, f1⟩ := s41 (d := d) (L := L) (ru := ru) (dr := dr) (sr := sr) (rd := rd) (rl := rl) (x := x) (zRD.qd hQ) hd hT
  have h1 := h0.dr' f1
  rw [hg, show pok (e, none) = nI e from rfl] at e1
  obtain ⟨hI, hA, hT, hO, hP, hC, hS, hQ, hR⟩ := h1
  have f2 : fW [2] I1 (zup I1 2 1 (nI 0)) := fW.up (by decide) (by decide) (by decide)
  have hne : nI e ≠ -(nI 1) := fun q => ((nI_m1 (by omega)).mp q).elim
  exact ⟨_, by rw [k149 (zRD.qd hQ), e1, bI_i, e149_5, s96, bV_n, e149_9, if_neg hne], ⟨f2.ct hI (by decide), f2.st (Or.inl rfl) hA (by decide), hT.cut (Nat.zero_le _), f2.to hO (by decide) rfl, f2.pa hP (by decide), f2.clu hC (by decide), f2.sig hS (by decide), hQ, f2.cs (zRD.q hQ) hR (zRD.nn hQ (by decide))⟩⟩
theorem o149z {c2 : zC} {e : Nat} (h : cInv I L ru dr R S f g p a n t l u kp cl si cs) (hw : wInv R S f g p a T u kp) (hd : 5 ≤ d) (hg : prs t n = (e, some c2)) (hp0 : p = 0) : ∃ I', cal d 149 [.ref 1] (I, L, rR ru dr sr rd rl, 65, x) = some (some (.int (-(nI 2))), (I', L, rR ru dr (zset sr dr (some 2)) rd rl, 65, x)) ∧ cInv I' L ru dr R S f g p a 0 t l u kp cl si cs := by
  have h0 := h
  obtain ⟨hI, hA, hT, hO, hP, hC, hS, hQ, hR⟩ := h
  obtain ⟨hc, hw, hu, hk⟩ := hw
  obtain ⟨I1, e1, -, f1⟩ := s41 (d := d) (L := L) (ru := ru) (dr := dr) (sr := sr) (rd := rd) (rl := rl) (x := x) (zRD.qd hQ) hd hT
  have h1 := h0.dr' f1
  rw [hg, show pok (e, some c2) = -(nI 1) from rfl] at e1
  obtain ⟨hI, hA, hT, hO, hP, hC, hS, hQ, hR⟩ := h1
  have f2 : fW [2] I1 (zup I1 2 1 (nI 0)) := fW.up (by decide) (by decide) (by decide)
  have hA2 : cSt (zup I1 2 1 (nI 0)) 15 p a := f2.st (s := 14) (Or.inl rfl) hA (by decide)
  exact ⟨_, by rw [k149 (zRD.qd hQ), e1, bI_i, e149_5, s96, bV_n, e149_9, if_pos rfl, s68 (s := 14) (Or.inl rfl) hA2, bI_i, e149_19, if_pos (by rw [hp0]; rfl)], ⟨f2.ct hI (by decide), f2.st (Or.inl rfl) hA (by decide), hT.cut (Nat.zero_le _), f2.to hO (by decide) rfl, f2.pa hP (by decide), f2.clu hC (by decide), f2.sig hS (by decide), hQ, f2.cs (zRD.q hQ) hR (zRD.nn hQ (by decide))⟩⟩
theorem o149t {c2 : zC} {e : Nat} (h : cInv I L ru dr R S f g p a n t l u kp cl si cs) (hw : wInv R S f g p a T u kp) (hd : 5 ≤ d) (hg : prs t n = (e, some c2)) (hp0 : 0 < p) (hT1 : T + 100 < 2 ^ 24) : ∃ I' L', cal d 149 [.ref 1] (I, L, rR ru dr sr rd rl, 65, x) = some (some (.int (nI (tc R S f g c2 p 30 a) - nI (tc R S f g cs p 30 a))), (I', L', rR ru dr (zset sr dr (some 2)) rd rl, 65, x)) ∧ cInv I' L' ru dr R S f g p a 0 t (lwL R S f g cs c2 p a) u kp cl si cs := by
  have h0 := h
  obtain ⟨hI, hA, hT, hO, hP, hC, hS, hQ, hR⟩ := h
  obtain ⟨hc, hw, hu, hk⟩ := hw
  have hp := hw.1
  obtain ⟨I1, e1, r1, f1⟩ := s41 (d := d) (L := L) (ru := ru) (dr := dr) (sr := sr) (rd := rd) (rl := rl) (x := x) (zRD.qd hQ) hd hT
  have h1 := h0.dr' f1
  have hR1 := r1 c2 (by rw [hg])
  rw [hg, show pok (e, some c2) = -(nI 1) from rfl] at e1
  obtain ⟨hI, hA, hT, hO, hP, hC, hS, hQ, hR⟩ := h1
  have f2 : fW [2] I1 (zup I1 2 1 (nI 0)) := fW.up (by decide) (by decide) (by decide)
  have hA2 : cSt (zup I1 2 1 (nI 0)) 15 p a := f2.st (s := 14) (Or.inl rfl) hA (by decide)
  have nd : ∀ {W : List Nat}, (31 ∉ W ∧ 34 ∉ W) → dr + 1 ∉ W := fun h => by
    rcases hQ with ⟨-, q2⟩ | ⟨-, q2⟩
    · rw [q2]; exact h.2
    · rw [q2]; exact h.1
  obtain ⟨I3, e3, h3, f3⟩ := s65 (d := d) (L := L) (ru := ru) (dr := dr) (sr := (zset sr dr (some 2))) (rd := rd) (rl := rl) (x := x) (s0 := 16) (s := 14) (Or.inr (Or.inl rfl)) (Or.inl rfl) hA2
  have f23 : fW [2, 17] I1 I3 := (f2.mono (by decide)).tr (f3.mono (by decide))
  obtain ⟨I4, e4, h4, f4⟩ := s167 (d := d) (L := L) (ru := ru) (dr := dr) (sr := (zset sr dr (some 2))) (rd := rd) (rl := rl) (x := x) (s := 16) (n := 30) hc (f23.ct hI (by decide)) (Or.inr (Or.inl rfl)) h3 hw (zRD.qd hQ) hp0 (f23.cs (zRD.qd hQ) hR1 (nd (by decide))) (by omega) (by omega)
  have f24 : fW [2, 17] I1 I4 := f23.tr (f4.mono (by decide))
  obtain ⟨I5, e5, h5, f5⟩ := s65 (d := d) (L := L) (ru := ru) (dr := dr) (sr := (zset sr dr (some 2))) (rd := rd) (rl := rl) (x := x) (s0 := 16) (s := 14) (Or.inr (Or.inl rfl)) (Or.inl rfl) (f24.st (s := 14) (Or.inl rfl) hA (by decide))
  have f25 : fW [2, 17] I1 I5 := f24.tr (f5.mono (by decide))
  obtain ⟨I6, e6, h6, f6⟩ := s167 (d := d) (L := L) (ru := ru) (dr := dr) (sr := (zset sr dr (some 2))) (rd := rd) (rl := rl) (x := x) (s := 16) (n := 30) hc (f25.ct hI (by decide)) (Or.inr (Or.inl rfl)) h5 hw (zRD.q hQ) hp0 (f25.cs (zRD.q hQ) hR (zRD.nn hQ (by decide))) (by omega) (by omega)
  have f26 : fW [2, 17] I1 I6 := f25.tr (f6.mono (by decide))
  obtain ⟨I7, e7, h7, f7⟩ := s101 (d := d) (L := L) (ru := ru) (dr := dr) (sr := (zset sr dr (some 2))) (rd := rd) (rl := rl) (x := x) (I := I6)
  have t1 := tc_le R S f g c2 p 30 a
  have t2 := tc_le R S f g cs p 30 a
  have w1 := tn_wf hc hp0 c2 30 T a hw (by omega)
  have w2 := tn_wf hc hp0 cs 30 T a hw (by omega)
  have m1 := sm_le (p := p) (b := tn R S f g c2 p 30 a) (w := 16) (c := 99) (fun q hq => (w1.2.1 q (by omega)).2.2.2.2.1)
  have m2 := sm_le (p := p) (b := tn R S f g cs p 30 a) (w := 16) (c := 99) (fun q hq => (w2.2.1 q (by omega)).2.2.2.2.1)
  have m3 : p * 99 ≤ 396 := by omega
  obtain ⟨I8, L8, e8, h8, f8, g8⟩ := s102 (d := d) (v := lN (tc R S f g c2 p 30 a)) (ru := ru) (dr := dr) (sr := zset sr dr (some 2)) (rd := rd) (rl := rl) (x := x) h7 (by decide)
  obtain ⟨I9, L9, e9, h9, f9, g9⟩ := s102 (d := d) (v := lN (tc R S f g cs p 30 a)) (ru := ru) (dr := dr) (sr := zset sr dr (some 2)) (rd := rd) (rl := rl) (x := x) h8 (show 1 < 8 by decide)
  obtain ⟨Ia, La, ea, ha, fa, ga⟩ := s102 (d := d) (v := lN (sm (tn R S f g c2 p 30 a) 16 p)) (ru := ru) (dr := dr) (sr := zset sr dr (some 2)) (rd := rd) (rl := rl) (x := x) h9 (show 2 < 8 by decide)
  have fza : fW [4] I6 Ia := f7.tr (f8.tr (f9.tr fa))
  have hB : cSt Ia 17 p _ := fza.st (s := 16) (Or.inr (Or.inl rfl)) h6 (by decide)
  obtain ⟨Ib, Lb, eb, hb, fb, gb⟩ := s102 (d := d) (v := lN (sm (tn R S f g cs p 30 a) 16 p)) (ru := ru) (dr := dr) (sr := zset sr dr (some 2)) (rd := rd) (rl := rl) (x := x) ha (show 3 < 8 by decide)
  have f30 : fW [2, 4, 17] I1 Ib := (f26.mono (by decide)).tr ((fza.tr fb).mono (by decide))
  have fT : fW [4, 17] (zup I1 2 1 (nI 0)) Ib := (f3.mono (by decide)).tr ((f4.mono (by decide)).tr ((f5.mono (by decide)).tr ((f6.mono (by decide)).tr ((fza.tr fb).mono (by decide)))))
  refine ⟨Ib, Lb, ?_, ⟨f30.ct hI (by decide), f30.st (Or.inl rfl) hA (by decide), fT.tx (hT.cut (Nat.zero_le _)) (by decide), hb, f30.pa hP (by decide), f30.clu hC (by decide), f30.sig hS (by decide), hQ, f30.cs (zRD.q hQ) hR (zRD.nn hQ (by decide))⟩⟩
  rw [k149 (zRD.qd hQ), e1, bI_i, e149_5, s96, bV_n, e149_9, if_pos rfl, s68 (s := 14) (Or.inl rfl) hA2, bI_i, e149_19, if_neg (by rw [nI_z (by omega)]; omega), e3, bV_n, e149_27, e4, bI_i, e149_33, s74f (s := 16) (Or.inr (Or.inl rfl)) h4 hp, bI_i, e149_38, e5, bV_n, e149_44, e6, bI_i, e149_50, e7, bV_n, e149_54, nI_l (by omega), e8, bV_n, e149_59, nI_l (by omega), e9, bV_n, e149_64, nI_l (by omega), ea, bV_n, e149_69, s74f (s := 16) (Or.inr (Or.inl rfl)) hB hp, bI_i, e149_75, nI_l (by omega), eb, bV_n, e149_77]

end
