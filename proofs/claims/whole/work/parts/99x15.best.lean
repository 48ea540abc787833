section
variable {I : Nat → Nat → Int32} {L : Nat → Nat → Int64} {ru dr : Nat} {sr : Nat → Option Nat} {rd : Option Nat} {rl x : Nat}
variable {d R S p n T : Nat} {f g : Nat → Nat} {a : zP} {t : Nat → Nat} {l : List Int64} {u : List zP} {kp : Nat → Option zP} {cl : List (Nat × Nat)} {si : List (Nat × Int32)} {cs : zC}

theorem zset_zset {α : Type} (r : Nat → α) (k : Nat) (v w : α) : zset (zset r k v) k w = zset r k w := by
  funext j
  unfold zset
  by_cases z : j = k
  · rw [if_pos z, if_pos z]
  · rw [if_neg z, if_neg z, if_neg z]
theorem zset_id {α : Type} (r : Nat → α) (k : Nat) : zset r k (r k) = r := by
  funext j
  unfold zset
  by_cases z : j = k
  · rw [if_pos z, z]
  · rw [if_neg z]
def amx (V : Nat → Bool) (F : Nat → Nat) : Nat → Option (Nat × Nat)
  | 0 => none
  | s + 1 => if V s = true then (match amx V F s with
    | none => some (s, F s)
    | some e => if e.2 < F s then some (s, F s) else some e) else amx V F s
def amI (o : Option (Nat × Nat)) : Int32 := match o with
  | none => -(nI 1)
  | some e => nI e.1
def amM (o : Option (Nat × Nat)) : Nat := match o with
  | none => 0
  | some e => e.2
theorem amx_le {V : Nat → Bool} {F : Nat → Nat} {c : Nat} (hF : ∀ s, F s ≤ c) : ∀ s, amM (amx V F s) ≤ c ∧ (∀ e, amx V F s = some e → e.1 < s)
  | 0 => ⟨Nat.zero_le _, fun e h => by cases h⟩
  | s + 1 => by
    obtain ⟨h1, h2⟩ := amx_le (V := V) hF s
    unfold amx
    by_cases z : V s = true
    · rw [if_pos z]
      cases y : amx V F s with
      | none => exact ⟨hF s, fun e h => by cases h; exact Nat.lt_succ_self s⟩
      | some e =>
        rw [y] at h1 h2
        dsimp only
        by_cases w : e.2 < F s
        · rw [if_pos w]; exact ⟨hF s, fun e h => by cases h; exact Nat.lt_succ_self s⟩
        · rw [if_neg w]; exact ⟨h1, fun e' h => Nat.lt_succ_of_lt (h2 e' h)⟩
    · rw [if_neg z]; exact ⟨h1, fun e' h => Nat.lt_succ_of_lt (h2 e' h)⟩
def bsF (R S : Nat) (f : Nat → Nat) (p : Nat) (a : zP) (q s : Nat) : Nat := trO R S f (zset a (12 + q) (a (12 + q) ||| 2 ^ s)) q p
theorem bsF_le (R S : Nat) (f : Nat → Nat) {p : Nat} (hp : p ≤ 4) (a : zP) (q s : Nat) : bsF R S f p a q s ≤ 64 := Nat.le_trans (trO_le _ _ _ _ _ _) (by omega)
theorem oth4 {r i : Nat} (hr : r < 4) (h : (oth a 4).testBit i = false) : (a (12 + r)).testBit i = false := by
  unfold oth at h
  cases z : (a (12 + r)).testBit i with
  | false => rfl
  | true =>
    have : (orl (fun o => if o = 4 then 0 else a (12 + o)) 4).testBit i = true := (orl_tb _ i 4).mpr ⟨r, hr, by rw [if_neg (by omega)]; exact z⟩
    rw [this] at h
    cases h
theorem bs_wf {q s : Nat} (hw : zWf p S T a) (hq : q < p) (hs : s < S) (h : (oth a 4).testBit s = false) : zWf p S T (zset a (12 + q) (a (12 + q) ||| 2 ^ s)) := by
  have hp := hw.1
  refine hw.house hq (zor_lt (hw.2.1 q (by omega)).2.2.2.1 (Nat.pow_lt_pow_right (by decide) hs)) fun r hr hrq => and0_of fun i hi => ?_
  rw [Nat.testBit_or, Nat.testBit_two_pow] at hi
  by_cases m : s = i
  · subst m; exact oth4 hr h
  · rw [decide_eq_false m, Bool.or_false] at hi
    exact and0 (hw.2.2.2.2.2.2 q r (by omega) hr (Ne.symm hrq)) hi
theorem l130 {q : Nat} (hc : zCt R S f g) (hw : zWf p S T a) (hq : q < p) : ∀ j s (I : Nat → Nat → Int32) y (w6 : Value), s + j = S → cCt I R S f g → cSt I 15 p a → cSt I 17 p (zset a (12 + q) y) → ∃ I' w', res d 130 22 [.ref 1, .int (nI q), .int (amI (amx (fun s => !(oth a 4).testBit s) (bsF R S f p a q) s)), .int (nI (amM (amx (fun s => !(oth a 4).testBit s) (bsF R S f p a q) s))), .int (nI (zdif (2 ^ S - 1) (oth a 4))), .int (nI s), w6] [] (I, L, rR ru dr sr rd rl, 65, x) = res d 130 26 [.ref 1, .int (nI q), .int (amI (amx (fun s => !(oth a 4).testBit s) (bsF R S f p a q) S)), .int (nI (amM (amx (fun s => !(oth a 4).testBit s) (bsF R S f p a q) S))), .int (nI (zdif (2 ^ S - 1) (oth a 4))), .int (nI S), w'] [.int (nI S), .int (nI S)] (I', L, rR ru dr sr rd rl, 65, x) ∧ fW [17] I I'
  | 0, s, I, y, w6, hs, hI, hA, hB => by
    have : s = S := by omega
    subst this
    exact ⟨I, w6, by rw [l130_22, s15 hc hI, bI_i], fW.rf⟩
  | j + 1, s, I, y, w6, hs, hI, hA, hB => by
    have hS16 := hc.S16
    have hp := hw.1
    have hnl : (zdif (2 ^ S - 1) (oth a 4)) < 2 ^ 31 := Nat.lt_of_le_of_lt (zdif_le _ _) (by have := Nat.pow_le_pow_right (n := 2) (by decide) hS16; omega)
    have hF := bsF_le R S f hp a q
    obtain ⟨hm, hb⟩ := amx_le (V := fun s => !(oth a 4).testBit s) hF s
    rw [l130_22, s15 hc hI, bI_i, e130_26, if_neg (by rw [nI_leI (by omega) (by omega)]; omega)]
    cases z : (oth a 4).testBit s with
    | true =>
      have ea : (amx (fun s => !(oth a 4).testBit s) (bsF R S f p a q) (s + 1)) = (amx (fun s => !(oth a 4).testBit s) (bsF R S f p a q) s) := by rw [amx, z]; rfl
      obtain ⟨I2, w2, e2, f2⟩ := l130 hc hw hq j (s + 1) I y w6 (by omega) hI hA hB
      rw [ea] at e2
      refine ⟨I2, w2, ?_, f2⟩
      rw [if_pos (by rw [zbitz hnl (by omega), nob_tb a (by omega), z]; rfl), nI_add]
      exact e2
    | false =>
      have hB2 := hB.put (k := 15 + q) (v := a (12 + q) ||| 2 ^ s) (by omega) (by omega)
      rw [cx_15, zset_zset] at hB2
      have f1 : fW [17] I (zup I 17 (15 + q) (nI (a (12 + q) ||| 2 ^ s))) := fW.up (by decide) (by decide) (by decide)
      have hI1 := f1.ct hI (by decide)
      have hA1 : cSt _ 15 p a := f1.st (s := 14) (Or.inl rfl) hA (by decide)
      obtain ⟨I2, e2, f2⟩ := s84 (d := d) (L := L) (ru := ru) (dr := dr) (sr := sr) (rd := rd) (rl := rl) (x := x) (s := 16) hc hI1 (Or.inr (Or.inl rfl)) hB2 (bs_wf hw hq (by omega) z) (q := q) (by omega)
      have hI2 := f2.ct hI1
      have hA2 : cSt I2 15 p a := f2.st (s := 14) (Or.inl rfl) hA1
      have hB3 : cSt I2 17 p _ := f2.st (s := 16) (Or.inr (Or.inl rfl)) hB2
      obtain ⟨I3, w3, e3, f3⟩ := l130 hc hw hq j (s + 1) I2 (a (12 + q) ||| 2 ^ s) (.int (nI (bsF R S f p a q s))) (by omega) hI2 hA2 hB3
      refine ⟨I3, w3, ?_, f1.tr (f2.W.tr f3)⟩
      rw [if_neg (by rw [zbitz hnl (by omega), nob_tb a (by omega), z]; decide), s72 (s := 14) (Or.inl rfl) hA (by omega), bI_i, e130_42 (Or.inr (Or.inl rfl)), cv_15, zshl1 (by omega), fa_or, s73 (s := 16) (Or.inr (Or.inl rfl)) (by omega), bV_n, e130_47, e2, bI_i, e130_51, show trO R S f (zset a (12 + q) (a (12 + q) ||| 2 ^ s)) q p = bsF R S f p a q s from rfl]
      have hFs := hF s
      cases y' : (amx (fun s => !(oth a 4).testBit s) (bsF R S f p a q) s) with
      | none =>
        have ea : (amx (fun s => !(oth a 4).testBit s) (bsF R S f p a q) (s + 1)) = some (s, bsF R S f p a q s) := by rw [amx, z, y']; rfl
        rw [ea] at e3
        rw [if_pos (show amI none = -(nI 1) from rfl), e130_58, nI_add]
        exact e3
      | some e =>
        rw [y'] at hm hb
        have he := hb e rfl
        have hm' : e.2 ≤ 64 := hm
        rw [if_neg (show ¬ amI (some e) = -(nI 1) from fun q => ((nI_m1 (by omega)).mp q).elim)]
        by_cases v : e.2 < bsF R S f p a q s
        · have ea : (amx (fun s => !(oth a 4).testBit s) (bsF R S f p a q) (s + 1)) = some (s, bsF R S f p a q s) := by
            rw [amx, z, y', if_pos (show (!false) = true from rfl)]
            show (if e.2 < bsF R S f p a q s then some (s, bsF R S f p a q s) else some e) = _
            rw [if_pos v]
          rw [ea] at e3
          rw [if_neg (by rw [nI_leI (by omega) (by show e.2 < _; omega)]; show ¬ _ ≤ e.2; omega), e130_58, nI_add]
          exact e3
        · have ea : (amx (fun s => !(oth a 4).testBit s) (bsF R S f p a q) (s + 1)) = some e := by
            rw [amx, z, y', if_pos (show (!false) = true from rfl)]
            show (if e.2 < bsF R S f p a q s then some (s, bsF R S f p a q s) else some e) = _
            rw [if_neg v]
          rw [ea] at e3
          rw [if_pos (by rw [nI_leI (by omega) (by show e.2 < _; omega)]; show _ ≤ e.2; omega), nI_add]
          exact e3
def bsA (R S : Nat) (f : Nat → Nat) (p : Nat) (a : zP) (v : Int32) : Int32 × Option (List Int64) := match inr p v with
  | some q => (match (amx (fun s => !(oth a 4).testBit s) (bsF R S f p a q) S) with
    | none => (-(nI 2), none)
    | some e => (nI e.1, some [lN e.2, lN (trO R S f a q p)]))
  | none => (-(nI 1), none)
theorem o130 {v : Int32} (h : cInv I L ru dr R S f g p a n t l u kp cl si cs) (hw : wInv R S f g p a T u kp) : ∃ I' L', cal d 130 [.ref 1, .int v] (I, L, rR ru dr sr rd rl, 65, x) = some (some (.int (bsA R S f p a v).1), (I', L', rR ru dr sr rd rl, 65, x)) ∧ cInv I' L' ru dr R S f g p a n t ((bsA R S f p a v).2.getD l) u kp cl si cs := by
  have h0 := h
  obtain ⟨hI, hA, hT, hO, hP, hC, hS, hQ, hR⟩ := h
  obtain ⟨hc, hw, hu, hk⟩ := hw
  have hp := hw.1
  have hS16 := hc.S16
  unfold bsA
  cases z : inr p v with
  | none =>
    refine ⟨I, L, ?_, h0⟩
    rw [k130, s71f (s := 14) (Or.inl rfl) hA hp (inr_n (by omega) z), bI_i, e130_4, if_pos (show nI 0 = 0 from rfl)]
  | some q =>
    obtain ⟨hq, rfl⟩ := inr_s (by omega) z
    obtain ⟨I1, e1, h1, f1⟩ := s65 (d := d) (L := L) (ru := ru) (dr := dr) (sr := sr) (rd := rd) (rl := rl) (x := x) (s0 := 16) (s := 14) (Or.inr (Or.inl rfl)) (Or.inl rfl) hA
    have hI1 := f1.ct hI (by decide)
    have hA1 : cSt I1 15 p a := f1.st (s := 14) (Or.inl rfl) hA (by decide)
    have h1' : cSt I1 17 p (zset a (12 + q) (a (12 + q))) := by rw [zset_id]; exact h1
    obtain ⟨I2, w2, e2, f2⟩ := l130 (d := d) (L := L) (ru := ru) (dr := dr) (sr := sr) (rd := rd) (rl := rl) (x := x) hc hw hq S 0 I1 _ .null (by omega) hI1 hA1 h1'
    have hF := bsF_le R S f hp a q
    obtain ⟨hm, hb⟩ := amx_le (V := fun s => !(oth a 4).testBit s) hF S
    rw [show (amx (fun s => !(oth a 4).testBit s) (bsF R S f p a q) 0) = none from rfl, show amI none = -(nI 1) from rfl, show amM none = 0 from rfl] at e2
    rw [k130, s71t (s := 14) (Or.inl rfl) hA hp hq, bI_i, e130_4, if_neg (by decide), s77 (s := 14) hc hI (Or.inl rfl) hA, bI_i, e130_14, e1, bV_n, e130_20, e2, e130_26, if_pos (by rw [nI_leI (by omega) (by omega)]; omega)]
    dsimp only
    cases y : (amx (fun s => !(oth a 4).testBit s) (bsF R S f p a q) S) with
    | none =>
      have f3 : fW [17] I I2 := f1.tr f2
      rw [if_pos (show amI none = -(nI 1) from rfl)]
      exact ⟨I2, L, rfl, ⟨f3.ct hI (by decide), f3.st (Or.inl rfl) hA (by decide), f3.tx hT (by decide), f3.to hO (by decide) rfl, f3.pa hP (by decide), f3.clu hC (by decide), f3.sig hS (by decide), hQ, f3.cs (zRD.q hQ) hR (zRD.nn hQ (by decide))⟩⟩
    | some e =>
      rw [y] at hm hb
      have he := hb e rfl
      have hm' : e.2 ≤ 64 := hm
      obtain ⟨I3, e3, h3, f3⟩ := s101 (d := d) (L := L) (ru := ru) (dr := dr) (sr := sr) (rd := rd) (rl := rl) (x := x) (I := I2)
      obtain ⟨I4, L4, e4, h4, f4, g4⟩ := s102 (d := d) (v := lN e.2) (ru := ru) (dr := dr) (sr := sr) (rd := rd) (rl := rl) (x := x) h3 (by decide)
      have f5 : fW [4, 17] I I4 := (f1.mono (by decide)).tr ((f2.mono (by decide)).tr ((f3.tr f4).mono (by decide)))
      obtain ⟨I5, e5, f6⟩ := s84 (d := d) (L := L4) (ru := ru) (dr := dr) (sr := sr) (rd := rd) (rl := rl) (x := x) (s := 14) hc (f5.ct hI (by decide)) (Or.inl rfl) (f5.st (s := 14) (Or.inl rfl) hA (by decide)) hw (q := q) (by omega)
      have h4' : cTo I5 L4 _ := (f6.W (W := [])).to h4 (by decide) rfl
      obtain ⟨I6, L6, e6, h6, f7, g7⟩ := s102 (d := d) (v := lN (trO R S f a q p)) (ru := ru) (dr := dr) (sr := sr) (rd := rd) (rl := rl) (x := x) h4' (show 1 < 8 by decide)
      have f8 : fW [4, 17] I I6 := f5.tr (f6.W.tr (f7.mono (by decide)))
      have hto := trO_le R S f a q p
      rw [if_neg (show ¬ amI (some e) = -(nI 1) from fun q => ((nI_m1 (by omega)).mp q).elim), e3, bV_n, e130_72, show amM (some e) = e.2 from rfl, nI_l (by omega), e4, bV_n, e130_77, e5, bI_i, e130_83, nI_l (by omega), e6, bV_n, e130_85]
      exact ⟨I6, L6, rfl, ⟨f8.ct hI (by decide), f8.st (Or.inl rfl) hA (by decide), f8.tx hT (by decide), h6, f8.pa hP (by decide), f8.clu hC (by decide), f8.sig hS (by decide), hQ, f8.cs (zRD.q hQ) hR (zRD.nn hQ (by decide))⟩⟩
/-! houses -/
theorem l131 {a : zP} {p : Nat} (hp : p ≤ 4) (hb : ∀ q, q < 4 → a (12 + q) < 65536) : ∀ n q (I : Nat → Nat → Int32) (L : Nat → Nat → Int64) (w3 : Value), q + n = p → cSt I 15 p a → cTo I L (tlq (fun q => lN (pc (a (12 + q)))) q) → ∃ I' L', res d 131 7 [.ref 1, .int (nI (fb_sm (fun q => pc (a (12 + q))) q)), .int (nI q), w3] [] (I, L, rR ru dr sr rd rl, 65, x) = some (some (.int (nI (fb_sm (fun q => pc (a (12 + q))) p))), (I', L', rR ru dr sr rd rl, 65, x)) ∧ cTo I' L' (tlq (fun q => lN (pc (a (12 + q)))) p) ∧ fW [4] I I'
  | 0, q, I, L, w3, hq, hA, hO => by
    have : q = p := by omega
    subst this
    refine ⟨I, L, ?_, hO, fW.rf⟩
    rw [l131_7, s68 (s := 14) (Or.inl rfl) hA, bI_i, e131_11, if_pos (by rw [nI_leI (by omega) (by omega)]; omega)]
  | n + 1, q, I, L, w3, hq, hA, hO => by
    have hpl := pc_le (a (12 + q))
    obtain ⟨I1, L1, e1, h1, f1, g1⟩ := s102 (d := d) (v := lN (pc (a (12 + q)))) (ru := ru) (dr := dr) (sr := sr) (rd := rd) (rl := rl) (x := x) hO (by rw [tlq_len]; omega)
    obtain ⟨I2, L2, e2, h2, f2⟩ := l131 hp hb n (q + 1) I1 L1 (.int (nI (pc (a (12 + q))))) (by omega) (f1.st (s := 14) (Or.inl rfl) hA (by decide)) h1
    refine ⟨I2, L2, ?_, h2, f1.tr f2⟩
    rw [l131_7, s68 (s := 14) (Or.inl rfl) hA, bI_i, e131_11, if_neg (by rw [nI_leI (by omega) (by omega)]; omega), s72 (s := 14) (Or.inl rfl) hA (by omega), bI_i, e131_17, cv_15, s296 (hb q (by omega)), bI_i, e131_18, nI_l (by omega), e1, bV_n, e131_24, nI_add, nI_add]
    exact e2
theorem o131 (h : cInv I L ru dr R S f g p a n t l u kp cl si cs) (hw : wInv R S f g p a T u kp) : ∃ I' L', cal d 131 [.ref 1] (I, L, rR ru dr sr rd rl, 65, x) = some (some (.int (nI (fb_sm (fun q => pc (a (12 + q))) p))), (I', L', rR ru dr sr rd rl, 65, x)) ∧ cInv I' L' ru dr R S f g p a n t (tlq (fun q => lN (pc (a (12 + q)))) p) u kp cl si cs := by
  obtain ⟨hI, hA, hT, hO, hP, hC, hS, hQ, hR⟩ := h
  obtain ⟨hc, hw, hu, hk⟩ := hw
  have hp := hw.1
  have hS16 := hc.S16
  obtain ⟨I1, e1, h1, f1⟩ := s101 (d := d) (L := L) (ru := ru) (dr := dr) (sr := sr) (rd := rd) (rl := rl) (x := x) (I := I)
  obtain ⟨I2, L2, e2, h2, f2⟩ := l131 (d := d) (a := a) (ru := ru) (dr := dr) (sr := sr) (rd := rd) (rl := rl) (x := x) hp (fun q hq => p16 hS16 (hw.2.1 q hq).2.2.2.1) p 0 I1 L .null (by omega) (f1.st (s := 14) (Or.inl rfl) hA (by decide)) h1
  have f3 : fW [4] I I2 := f1.tr f2
  exact ⟨I2, L2, by rw [k131, e1, bV_n, e131_3]; exact e2, ⟨f3.ct hI (by decide), f3.st (Or.inl rfl) hA (by decide), f3.tx hT (by decide), h2, f3.pa hP (by decide), f3.clu hC (by decide), f3.sig hS (by decide), hQ, f3.cs (zRD.q hQ) hR (zRD.nn hQ (by decide))⟩⟩
/-! later, when, run -/
def ltA (R S : Nat) (f g : Nat → Nat) (cs : zC) (p : Nat) (a : zP) (v w : Int32) : Int32 × Option (List Int64) := match inr p v, inr 100 w with
  | some q, some k => (nI (tn R S f g cs p k a (8 + q)), some [lN (tn R S f g cs p k a (20 + q)), lN (tn R S f g cs p k a (16 + q))])
  | _, _ => (-(nI 1), none)
theorem o132 {v w : Int32} (h : cInv I L ru dr R S f g p a n t l u kp cl si cs) (hw : wInv R S f g p a T u kp) (hT1 : T + 100 < 2 ^ 24) : ∃ I' L', cal d 132 [.ref 1, .int v, .int w] (I, L, rR ru dr sr rd rl, 65, x) = some (some (.int (ltA R S f g cs p a v w).1), (I', L', rR ru dr sr rd rl, 65, x)) ∧ cInv I' L' ru dr R S f g p a n t ((ltA R S f g cs p a v w).2.getD l) u kp cl si cs := by
  have h0 := h
  obtain ⟨hI, hA, hT, hO, hP, hC, hS, hQ, hR⟩ := h
  obtain ⟨hc, hw, hu, hk⟩ := hw
  have hp := hw.1
  have hS16 := hc.S16
  unfold ltA
  cases z : inr p v with
  | none =>
    refine ⟨I, L, ?_, h0⟩
    rw [k132, s71f (s := 14) (Or.inl rfl) hA hp (inr_n (by omega) z), bI_i, e132_4, if_pos (show nI 0 = 0 from rfl)]
  | some q =>
    obtain ⟨hq, rfl⟩ := inr_s (by omega) z
    rw [k132, s71t (s := 14) (Or.inl rfl) hA hp hq, bI_i, e132_4, if_neg (by decide)]
    cases y : inr 100 w with
    | none =>
      refine ⟨I, L, ?_, h0⟩
      have hn := inr_n (by omega) y
      by_cases y1 : w < 0
      · rw [if_pos y1]
      · obtain ⟨j, hj, rfl⟩ := nI_of y1
        rw [if_neg y1, if_neg (by rw [nI_leI hj (by omega)]; exact fun e => hn j (by omega) rfl)]
    | some k =>
      obtain ⟨hk', rfl⟩ := inr_s (by omega) y
      obtain ⟨I1, e1, h1, f1⟩ := s65 (d := d) (L := L) (ru := ru) (dr := dr) (sr := sr) (rd := rd) (rl := rl) (x := x) (s0 := 16) (s := 14) (Or.inr (Or.inl rfl)) (Or.inl rfl) hA
      obtain ⟨I2, e2, h2, f2⟩ := s167 (d := d) (L := L) (ru := ru) (dr := dr) (sr := sr) (rd := rd) (rl := rl) (x := x) (s := 16) (n := k) hc (f1.ct hI (by decide)) (Or.inr (Or.inl rfl)) h1 hw (zRD.q hQ) (by omega) (f1.cs (zRD.q hQ) hR (zRD.nn hQ (by decide))) (by omega) (by omega)
      have hw2 := tn_wf hc (show 0 < p by omega) cs k T a hw (by omega)
      have hb := hw2.2.1 q (by omega)
      obtain ⟨I3, e3, h3, f3⟩ := s101 (d := d) (L := L) (ru := ru) (dr := dr) (sr := sr) (rd := rd) (rl := rl) (x := x) (I := I2)
      have hB3 : cSt I3 17 p _ := f3.st (s := 16) (Or.inr (Or.inl rfl)) h2 (by decide)
      obtain ⟨I4, L4, e4, h4, f4, g4⟩ := s102 (d := d) (v := lN (tn R S f g cs p k a (20 + q))) (ru := ru) (dr := dr) (sr := sr) (rd := rd) (rl := rl) (x := x) h3 (by decide)
      have hB4 : cSt I4 17 p _ := f4.st (s := 16) (Or.inr (Or.inl rfl)) hB3 (by decide)
      obtain ⟨I5, L5, e5, h5, f5, g5⟩ := s102 (d := d) (v := lN (tn R S f g cs p k a (16 + q))) (ru := ru) (dr := dr) (sr := sr) (rd := rd) (rl := rl) (x := x) h4 (show 1 < 8 by decide)
      have hB5 : cSt I5 17 p _ := f5.st (s := 16) (Or.inr (Or.inl rfl)) hB4 (by decide)
      have f6 : fW [4, 17] I I5 := (f1.mono (by decide)).tr ((f2.mono (by decide)).tr ((f3.tr (f4.tr f5)).mono (by decide)))
      rw [if_neg (nI_pos (by omega)), if_pos (by rw [nI_leI (by omega) (by omega)]; omega), e1, bV_n, e132_17, e2, bI_i, e132_23, e3, bV_n, e132_27, s72 (s := 16) (Or.inr (Or.inl rfl)) hB3 (by omega), bI_i, e132_34, cv_23, nI_l (by omega), e4, bV_n, e132_36, s72 (s := 16) (Or.inr (Or.inl rfl)) hB4 (by omega), bI_i, e132_43, cv_19, nI_l (by omega), e5, bV_n, e132_45, s72 (s := 16) (Or.inr (Or.inl rfl)) hB5 (by omega), bI_i, e132_50, cv_11]
      exact ⟨I5, L5, rfl, ⟨f6.ct hI (by decide), f6.st (Or.inl rfl) hA (by decide), f6.tx hT (by decide), h5, f6.pa hP (by decide), f6.clu hC (by decide), f6.sig hS (by decide), hQ, f6.cs (zRD.q hQ) hR (zRD.nn hQ (by decide))⟩⟩
def whn (R S : Nat) (f g : Nat → Nat) (cs : zC) (p c q : Nat) : Nat → Nat → zP → Option (Nat × Nat)
  | 0, _, _ => none
  | j + 1, k, b => if c < thr R S f g cs p b (20 + q) then some (k, sm (thr R S f g cs p b) 16 p) else whn R S f g cs p c q j (k + 1) (thr R S f g cs p b)
def whA (R S : Nat) (f g : Nat → Nat) (cs : zC) (p : Nat) (a : zP) (v : Int32) : Int32 × Option (List Int64) := match inr p v with
  | some q => (match whn R S f g cs p (a (20 + q)) q 99 1 a with
    | none => (-(nI 2), none)
    | some e => (nI e.1, some [lN e.2]))
  | none => (-(nI 1), none)
theorem sm_le {b : zP} {c w : Nat} (h : ∀ q, q < p → b (w + q) ≤ c) : sm b w p ≤ p * c := fb_sm_bound fun q hq => h q hq
theorem l133 {q : Nat} (hc : zCt R S f g) (hw : zWf p S T a) (hq : q < p) (hqq : zQ ru) : ∀ j k (I : Nat → Nat → Int32) T0 (b : zP), k + j = 100 → zWf p S T0 b → T0 + j < 2 ^ 24 → cCt I R S f g → cSt I 15 p a → cSt I 17 p b → cRu I ru cs → ∃ I' L', fW [4, 17] I I' ∧ (match whn R S f g cs p (a (20 + q)) q j k b with
    | none => L' = L ∧ fW [17] I I' ∧ res d 133 14 [.ref 1, .int (nI q), .int (nI k)] [] (I, L, rR ru dr sr rd rl, 65, x) = some (some (.int (-(nI 2))), (I', L', rR ru dr sr rd rl, 65, x))
    | some e => res d 133 14 [.ref 1, .int (nI q), .int (nI k)] [] (I, L, rR ru dr sr rd rl, 65, x) = some (some (.int (nI e.1)), (I', L', rR ru dr sr rd rl, 65, x)) ∧ cTo I' L' [lN e.2])
  | 0, k, I, T0, b, hk, hb, hT, hI, hA, hB, hR => ⟨I, L, fW.rf, rfl, fW.rf, by rw [l133_14, if_pos (by rw [nI_ltI (by omega) (by omega)]; omega)]⟩
  | j + 1, k, I, T0, b, hk, hb, hT, hI, hA, hB, hR => by
    have hp := hw.1
    obtain ⟨I1, e1, h1, f1⟩ := s86 (d := d) (L := L) (ru := ru) (dr := dr) (sr := sr) (rd := rd) (rl := rl) (x := x) (s := 16) hc hI (Or.inr (Or.inl rfl)) hB hb hqq (by omega) hR
    have hA1 : cSt I1 15 p a := f1.st (s := 14) (Or.inl rfl) hA (by decide)
    have hw1 := thr_wf hc hb (show 0 < p by omega) (by omega) cs
    have b1 := (hw1.2.1 q (by omega)).2.2.2.2.2
    have b2 := (hw.2.1 q (by omega)).2.2.2.2.2
    have e0 : res d 133 14 [.ref 1, .int (nI q), .int (nI k)] [] (I, L, rR ru dr sr rd rl, 65, x) = (if nI (thr R S f g cs p b (20 + q)) ≤ nI (a (20 + q)) then res d 133 14 [.ref 1, .int (nI q), .int (nI (k + 1))] [] (I1, L, rR ru dr sr rd rl, 65, x) else bV (cal d 101 [.ref 4] (I1, L, rR ru dr sr rd rl, 65, x)) fun h1 => res d 133 37 [.ref 1, .int (nI q), .int (nI k)] [] h1) := by
      rw [l133_14, if_neg (by rw [nI_ltI (by omega) (by omega)]; omega), e1, bI_i, e133_22, s72 (s := 16) (Or.inr (Or.inl rfl)) h1 (by omega), bI_i, e133_28, s72 (s := 14) (Or.inl rfl) hA1 (by omega), bI_i, e133_33, cv_23, cv_23, nI_add]
    unfold whn
    by_cases z : a (20 + q) < thr R S f g cs p b (20 + q)
    · rw [if_pos z]
      obtain ⟨I2, e2, h2, f2⟩ := s101 (d := d) (L := L) (ru := ru) (dr := dr) (sr := sr) (rd := rd) (rl := rl) (x := x) (I := I1)
      have hsm := sm_le (p := p) (b := thr R S f g cs p b) (w := 16) (c := 99) (fun q hq => (hw1.2.1 q (by omega)).2.2.2.2.1)
      obtain ⟨I3, L3, e3, h3, f3, g3⟩ := s102 (d := d) (v := lN (sm (thr R S f g cs p b) 16 p)) (ru := ru) (dr := dr) (sr := sr) (rd := rd) (rl := rl) (x := x) h2 (by decide)
      have h396 : p * 99 ≤ 396 := by omega
      refine ⟨I3, L3, (f1.mono (by decide)).tr ((f2.tr f3).mono (by decide)), ?_, h3⟩
      rw [e0, if_neg (by rw [nI_leI (by omega) (by omega)]; omega), e2, bV_n, e133_37, s74f (s := 16) (Or.inr (Or.inl rfl)) (f2.st (s := 16) (Or.inr (Or.inl rfl)) h1 (by decide)) hp, bI_i, e133_43, nI_l (by omega), e3, bV_n, e133_45]
    · rw [if_neg z]
      obtain ⟨I2, L2, f2, h2⟩ := l133 hc hw hq hqq j (k + 1) I1 (T0 + 1) (thr R S f g cs p b) (by omega) hw1 (by omega) (f1.ct hI (by decide)) hA1 h1 (f1.cs hqq hR (by rcases hqq with rfl | rfl <;> decide))
      refine ⟨I2, L2, (f1.mono (by decide)).tr f2, ?_⟩
      rw [e0, if_pos (by rw [nI_leI (by omega) (by omega)]; omega)]
      cases y : whn R S f g cs p (a (20 + q)) q j (k + 1) (thr R S f g cs p b) with
      | none => rw [y] at h2; exact ⟨h2.1, (f1.mono (by decide)).tr h2.2.1, h2.2.2⟩
      | some e => rw [y] at h2; exact h2
theorem o133 {v : Int32} (h : cInv I L ru dr R S f g p a n t l u kp cl si cs) (hw : wInv R S f g p a T u kp) (hT1 : T + 100 < 2 ^ 24) : ∃ I' L', cal d 133 [.ref 1, .int v] (I, L, rR ru dr sr rd rl, 65, x) = some (some (.int (whA R S f g cs p a v).1), (I', L', rR ru dr sr rd rl, 65, x)) ∧ cInv I' L' ru dr R S f g p a n t ((whA R S f g cs p a v).2.getD l) u kp cl si cs := by
  have h0 := h
  obtain ⟨hI, hA, hT, hO, hP, hC, hS, hQ, hR⟩ := h
  obtain ⟨hc, hw, hu, hk⟩ := hw
  have hp := hw.1
  unfold whA
  cases z : inr p v with
  | none =>
    refine ⟨I, L, ?_, h0⟩
    rw [k133, s71f (s := 14) (Or.inl rfl) hA hp (inr_n (by omega) z), bI_i, e133_4, if_pos (show nI 0 = 0 from rfl)]
  | some q =>
    obtain ⟨hq, rfl⟩ := inr_s (by omega) z
    obtain ⟨I1, e1, h1, f1⟩ := s65 (d := d) (L := L) (ru := ru) (dr := dr) (sr := sr) (rd := rd) (rl := rl) (x := x) (s0 := 16) (s := 14) (Or.inr (Or.inl rfl)) (Or.inl rfl) hA
    obtain ⟨I2, L2, f2, h2⟩ := l133 (d := d) (L := L) (ru := ru) (dr := dr) (sr := sr) (rd := rd) (rl := rl) (x := x) hc hw hq (zRD.q hQ) 99 1 I1 T a (by omega) hw (by omega) (f1.ct hI (by decide)) (f1.st (s := 14) (Or.inl rfl) hA (by decide)) h1 (f1.cs (zRD.q hQ) hR (zRD.nn hQ (by decide)))
    rw [k133, s71t (s := 14) (Or.inl rfl) hA hp hq, bI_i, e133_4, if_neg (by decide), e1, bV_n, e133_12]
    dsimp only
    cases y : whn R S f g cs p (a (20 + q)) q 99 1 a with
    | none =>
      rw [y] at h2
      have f3 : fW [17] I I2 := f1.tr h2.2.1
      have hL : L2 5 = L 5 := by rw [h2.1]
      exact ⟨I2, L2, h2.2.2, ⟨f3.ct hI (by decide), f3.st (Or.inl rfl) hA (by decide), f3.tx hT (by decide), f3.to hO (by decide) hL, f3.pa hP (by decide), f3.clu hC (by decide), f3.sig hS (by decide), hQ, f3.cs (zRD.q hQ) hR (zRD.nn hQ (by decide))⟩⟩
    | some e =>
      rw [y] at h2
      have f3 : fW [4, 17] I I2 := (f1.mono (by decide)).tr f2
      exact ⟨I2, L2, h2.1, ⟨f3.ct hI (by decide), f3.st (Or.inl rfl) hA (by decide), f3.tx hT (by decide), h2.2, f3.pa hP (by decide), f3.clu hC (by decide), f3.sig hS (by decide), hQ, f3.cs (zRD.q hQ) hR (zRD.nn hQ (by decide))⟩⟩

end
