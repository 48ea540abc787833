section
variable {I : Nat → Nat → Int32} {L : Nat → Nat → Int64} {ru dr : Nat} {sr : Nat → Option Nat} {rd : Option Nat} {rl x : Nat}
variable {d R S p n T : Nat} {f g : Nat → Nat} {a : zP} {t : Nat → Nat} {l : List Int64} {u : List zP} {kp : Nat → Option zP} {cl : List (Nat × Nat)} {si : List (Nat × Int32)} {cs : zC}

theorem s33 {k fr ow b : Nat} {T : Nat → N4} (hp : pInv I R k fr ow T 0) (hR : R ≤ 8) (hb : b ≤ R) : cal d 33 [.ref 9, .int (nI b)] (I, L, rR ru dr sr rd rl, 65, x) = some (some (.int (nI (T b).2.2.2)), (I, L, rR ru dr sr rd rl, 65, x)) := by
  rw [k33, if_neg (nI_pos (by omega)), hp.1, if_neg (by rw [nI_leI (by omega) (by omega)]; omega), if_pos (ak_13 (by omega)), nI_clamp (by omega), hp.2.2.2.2.2 b (Nat.zero_le _) hb]
theorem s34 {k fr ow : Nat} {T : Nat → N4} (hp : pInv I R k fr ow T 0) : cal d 34 [.ref 9] (I, L, rR ru dr sr rd rl, 65, x) = some (some (.int (nI (T 0).1)), (I, L, rR ru dr sr rd rl, 65, x)) := by
  rw [k34, if_pos (ak_10 (by omega)), nI_clamp (by omega), (hp.2.2.2.2.1 0 (Nat.zero_le _) (by omega)).1]
theorem s35 {k fr ow : Nat} {T : Nat → N4} (hp : pInv I R k fr ow T 0) : cal d 35 [.ref 9] (I, L, rR ru dr sr rd rl, 65, x) = some (some (.int (nI (T 0).2.1)), (I, L, rR ru dr sr rd rl, 65, x)) := by
  rw [k35, if_pos (ak_11 (by omega)), nI_clamp (by omega), (hp.2.2.2.2.1 0 (Nat.zero_le _) (by omega)).2.1]
theorem s36 {k fr ow : Nat} {T : Nat → N4} (hp : pInv I R k fr ow T 0) : cal d 36 [.ref 9] (I, L, rR ru dr sr rd rl, 65, x) = some (some (.int (nI (T 0).2.2.1)), (I, L, rR ru dr sr rd rl, 65, x)) := by
  rw [k36, if_pos (ak_12 (by omega)), nI_clamp (by omega), (hp.2.2.2.2.1 0 (Nat.zero_le _) (by omega)).2.2]
theorem pInv.congr {I I' : Nat → Nat → Int32} {R k fr ow lo : Nat} {T : Nat → N4} (hp : pInv I R k fr ow T lo) (h : ∀ c, 9 ≤ c → c ≤ 13 → I' c = I c) : pInv I' R k fr ow T lo := by
  unfold pInv
  rw [h 9 (by omega) (by omega), h 10 (by omega) (by omega), h 11 (by omega) (by omega), h 12 (by omega) (by omega), h 13 (by omega) (by omega)]
  exact hp
def rte (T : Nat → N4) : Nat → Nat → List Int64
  | 0, _ => []
  | j + 1, b => lN (b - 1) :: rte T j (T b).2.2.2
/-- told numbers only: cell 4 and L 5 -/
theorem s101' {d : Nat} : cal d 101 [.ref 4] (I, L, rR ru dr sr rd rl, 65, x) = some (none, (zup I 4 1 (nI 0), L, rR ru dr sr rd rl, 65, x)) := k101
theorem s102' {d : Nat} {l : List Int64} {v : Int64} (hT : cTo I L l) (hl : l.length < 8) : cal d 102 [.ref 4, .long v] (I, L, rR ru dr sr rd rl, 65, x) = some (none, (zup I 4 1 (nI (l.length + 1)), zup L 5 l.length v, rR ru dr sr rd rl, 65, x)) := by
  rw [k102, hT.1, if_neg (by rw [nI_leI (by omega) (by omega)]; omega), if_pos (ak_5 hl), nI_add, nI_clamp (by omega)]
theorem l123 {k k0 fr ow F0 : Nat} {v1 v2 : Int32} {T : Nat → N4} {F O : Nat → Bool} (hR : R ≤ 8) (hT : hFP R k0 F O T) (hF : (T 0).2.1 = F0) (hF9 : F0 ≤ 9) : ∀ j i b (I : Nat → Nat → Int32) (L : Nat → Nat → Int64) (l : List Int64), i + j = F0 → 1 ≤ i → b ≤ R + 1 → 1 ≤ b → 0 < (T b).1 → (T b).2.1 = j → l.length = i - 1 → pInv I R k fr ow T 0 → cTo I L l → ∃ I' L', res d 123 38 [.ref 1, .int v1, .int v2, .int (nI b), .int (nI i)] [] (I, L, rR ru dr sr rd rl, 65, x) = some (some (.int (nI F0)), (I', L', rR ru dr sr rd rl, 65, x)) ∧ cTo I' L' (l ++ rte T j b) ∧ fW [4] I I'
  | 0, i, b, I, L, l, hi, h1, hb, hb1, hp, hj, hl, hP, hO => by
    refine ⟨I, L, ?_, by rw [rte, List.append_nil]; exact hO, fW.rf⟩
    rw [l123_38, s35 hP, bI_i, hF, e123_42, if_pos (by rw [nI_leI (by omega) (by omega)]; omega), s35 hP, bI_i, hF, e123_60]
  | j + 1, i, b, I, L, l, hi, h1, hb, hb1, hp, hj, hl, hP, hO => by
    have hbR : b ≤ R := by
      refine Nat.le_of_not_lt fun q => ?_
      have : b = R + 1 := by omega
      rw [this, hT.1] at hj
      exact absurd hj (fun e => by cases e)
    have hx := hT.nx hR hbR hp
    have hpn := hon_pos hT.1 hx.2.2.1
    have hnR : (T b).2.2.2 ≤ R + 1 := (hT.at hR hb).2.2.2.2
    obtain ⟨I1, L1, e1, h1', f1, g1⟩ := s102 (d := d) (v := lN (b - 1)) (ru := ru) (dr := dr) (sr := sr) (rd := rd) (rl := rl) (x := x) hO (by omega)
    have f1' : ∀ c, 9 ≤ c → c ≤ 13 → I1 c = I c := fun c _ _ => by
      have e2 := s102' (d := d) (v := lN (b - 1)) (ru := ru) (dr := dr) (sr := sr) (rd := rd) (rl := rl) (x := x) hO (by omega)
      rw [e1] at e2
      cases e2
      exact zup_ne _ _ _ (by omega)
    obtain ⟨I2, L2, e2, h2, f2⟩ := l123 (v1 := v1) (v2 := v2) hR hT hF hF9 j (i + 1) (T b).2.2.2 I1 L1 (l ++ [lN (b - 1)]) (by omega) (by omega) hnR (by have := hx.1; omega) hpn (by have := hx.2.2.2.1; omega) (by rw [List.length_append, hl]; show i - 1 + 1 = _; omega) (hP.congr f1') h1'
    refine ⟨I2, L2, ?_, ?_, f1.tr f2⟩
    · rw [l123_38, s35 hP, bI_i, hF, e123_42, if_neg (by rw [nI_leI (by omega) (by omega)]; omega), zsub (by omega), nI_l (by omega), e1, bV_n, e123_50, s33 (hP.congr f1') hR hbR, bI_i, e123_54, nI_add, e2]
    · rw [rte]
      rw [List.append_assoc] at h2
      exact h2
def stn (S s : Nat) : Nat := if s < S then 2 ^ s else 0
theorem stn_C {s : Nat} (hc : zCt R S f g) (hI : cCt I R S f g) (hs : s ≤ S) : cal d 18 [.ref 6, .int (nI s)] (I, L, rR ru dr sr rd rl, 65, x) = some (some (.int (nI (stn S s))), (I, L, rR ru dr sr rd rl, 65, x)) := by
  have := hc.S16
  unfold stn
  by_cases z : s < S
  · rw [if_pos z, s18t hc hI z]
  · rw [if_neg z, s18f hc hI (fun k hk e => by rw [nI_eq (by omega) (by omega)] at e; omega)]
def hpA (R S : Nat) (f : Nat → Nat) (p : Nat) (a : zP) (v w : Int32) : Int32 × Option (List Int64) := match inr p v, inr (S + 1) w with
  | some q, some s => if can R S f a q (stn S s) (a (4 + q)) = true then (nI ((tab R S f a q (stn S s) (a (4 + q))) 0).2.1, some (rte (tab R S f a q (stn S s) (a (4 + q))) (((tab R S f a q (stn S s) (a (4 + q))) 0).2.1 - 1) ((tab R S f a q (stn S s) (a (4 + q))) 0).2.2.2)) else (-(nI 2), none)
  | _, _ => (-(nI 1), none)
theorem tabFP (R S : Nat) (f : Nat → Nat) (a : zP) (q m k : Nat) : hFP R k (fun b => (2 * rws f (zdif (2 ^ S - 1) (oth a q ||| m)) R).testBit b) (fun b => (2 * rws f (a (12 + q)) R).testBit b) (tab R S f a q m k) := hT_FP _ _ _ _
theorem o123 {v w : Int32} (h : cInv I L ru dr R S f g p a n t l u kp cl si cs) (hw : wInv R S f g p a T u kp) : ∃ I' L', cal d 123 [.ref 1, .int v, .int w] (I, L, rR ru dr sr rd rl, 65, x) = some (some (.int (hpA R S f p a v w).1), (I', L', rR ru dr sr rd rl, 65, x)) ∧ cInv I' L' ru dr R S f g p a n t ((hpA R S f p a v w).2.getD l) u kp cl si cs := by
  have h0 := h
  obtain ⟨hI, hA, hT, hO, hP, hC, hS, hQ, hR⟩ := h
  obtain ⟨hc, hw, hu, hk⟩ := hw
  have hp := hw.1
  have hR8 := hc.2.1
  have hS16 := hc.S16
  unfold hpA
  cases z : inr p v with
  | none =>
    refine ⟨I, L, ?_, h0⟩
    rw [k123, s71f (s := 14) (Or.inl rfl) hA hp (inr_n (by omega) z), bI_i, e123_4, if_pos (show nI 0 = 0 from rfl)]
  | some q =>
    obtain ⟨hq, rfl⟩ := inr_s (by omega) z
    cases y : inr (S + 1) w with
    | none =>
      refine ⟨I, L, ?_, h0⟩
      rw [k123, s71t (s := 14) (Or.inl rfl) hA hp hq, bI_i, e123_4, if_neg (by decide), s17f hc hI (fun k hk' => inr_n (by omega) y k (by omega)), bI_i, e123_9, if_pos (show nI 0 = 0 from rfl)]
    | some s =>
      obtain ⟨hs, rfl⟩ := inr_s (by omega) y
      have hr := (hw.2.1 q (by omega)).2.1
      obtain ⟨I1, e1, p1, f1⟩ := s82 (d := d) (L := L) (ru := ru) (dr := dr) (sr := sr) (rd := rd) (rl := rl) (x := x) (s := 14) hc hI (Or.inl rfl) hA hw (q := q) (m := stn S s) (k := a (4 + q)) (by omega) (by omega)
      rw [k123, s71t (s := 14) (Or.inl rfl) hA hp hq, bI_i, e123_4, if_neg (by decide), s17t hc hI (by omega), bI_i, e123_9, if_neg (by decide), stn_C hc hI (by omega), bI_i, e123_19 (Or.inl rfl), s72 (s := 14) (Or.inl rfl) hA (by omega), bI_i, e123_24 (Or.inl rfl), cv_3 (by omega), e1, bI_i, e123_25]
      dsimp only
      cases u' : can R S f a q (stn S s) (a (4 + q)) with
      | false =>
        have f2 : fW [] I I1 := f1.W
        rw [if_pos (show nI (if false = true then 1 else 0) = 0 from rfl), if_neg Bool.false_ne_true]
        exact ⟨I1, L, rfl, ⟨f2.ct hI (by decide), f2.st (Or.inl rfl) hA (by decide), f2.tx hT (by decide), f2.to hO (by decide) rfl, f2.pa hP (by decide), f2.clu hC (by decide), f2.sig hS (by decide), hQ, f2.cs (zRD.q hQ) hR (zRD.nn hQ (by decide))⟩⟩
      | true =>
        have hpos : 0 < ((tab R S f a q (stn S s) (a (4 + q))) 0).1 := of_decide_eq_true u'
        have hF := tabFP R S f a q (stn S s) (a (4 + q))
        have hok := hF.at hR8 (Nat.zero_le _)
        have hx := hF.nx hR8 (Nat.zero_le _) hpos
        have h4 := hok.2.2.2.1 hpos
        have hpn := hon_pos hF.1 hx.2.2.1
        obtain ⟨I2, e2, h2, f2⟩ := s101 (d := d) (L := L) (ru := ru) (dr := dr) (sr := sr) (rd := rd) (rl := rl) (x := x) (I := I1)
        have f2' : ∀ c, 9 ≤ c → c ≤ 13 → I2 c = I1 c := fun c _ _ => by
          have e3 := s101' (d := d) (L := L) (ru := ru) (dr := dr) (sr := sr) (rd := rd) (rl := rl) (x := x) (I := I1)
          rw [e2] at e3
          cases e3
          exact zup_ne _ _ _ (by omega)
        have p2 := p1.congr f2'
        obtain ⟨I3, L3, e3, h3, f3⟩ := l123 (d := d) (v1 := nI q) (v2 := nI s) (ru := ru) (dr := dr) (sr := sr) (rd := rd) (rl := rl) (x := x) hR8 hF rfl (by omega) (((tab R S f a q (stn S s) (a (4 + q))) 0).2.1 - 1) 1 ((tab R S f a q (stn S s) (a (4 + q))) 0).2.2.2 I2 L [] (by omega) (Nat.le_refl 1) hok.2.2.2.2 (by have := hx.1; omega) hpn (by have := hx.2.2.2.1; omega) rfl p2 h2
        have f4 : fW [4] I I3 := f1.W.tr (f2.tr f3)
        rw [if_neg (show ¬ nI (if true = true then 1 else 0) = 0 by decide), e2, bV_n, e123_31, s33 p2 hR8 (Nat.zero_le _), bI_i, e123_35, e3, if_pos rfl]
        exact ⟨I3, L3, rfl, ⟨f4.ct hI (by decide), f4.st (Or.inl rfl) hA (by decide), f4.tx hT (by decide), h3, f4.pa hP (by decide), f4.clu hC (by decide), f4.sig hS (by decide), hQ, f4.cs (zRD.q hQ) hR (zRD.nn hQ (by decide))⟩⟩
def wyA (R S : Nat) (f : Nat → Nat) (p : Nat) (a : zP) (v w : Int32) : Int32 × Option (List Int64) := match inr p v, inr (S + 1) w with
  | some q, some s => (nI ((tab R S f a q (stn S s) (a (4 + q))) 0).1, some (if can R S f a q (stn S s) (a (4 + q)) = true then [lN (((tab R S f a q (stn S s) (a (4 + q))) 0).2.2.1 - 1), lN (((tab R S f a q (stn S s) (a (4 + q))) 0).2.1 - 1)] else []))
  | _, _ => (-(nI 1), none)
theorem o124 {v w : Int32} (h : cInv I L ru dr R S f g p a n t l u kp cl si cs) (hw : wInv R S f g p a T u kp) : ∃ I' L', cal d 124 [.ref 1, .int v, .int w] (I, L, rR ru dr sr rd rl, 65, x) = some (some (.int (wyA R S f p a v w).1), (I', L', rR ru dr sr rd rl, 65, x)) ∧ cInv I' L' ru dr R S f g p a n t ((wyA R S f p a v w).2.getD l) u kp cl si cs := by
  have h0 := h
  obtain ⟨hI, hA, hT, hO, hP, hC, hS, hQ, hR⟩ := h
  obtain ⟨hc, hw, hu, hk⟩ := hw
  have hp := hw.1
  have hR8 := hc.2.1
  have hS16 := hc.S16
  unfold wyA
  cases z : inr p v with
  | none =>
    refine ⟨I, L, ?_, h0⟩
    rw [k124, s71f (s := 14) (Or.inl rfl) hA hp (inr_n (by omega) z), bI_i, e124_4, if_pos (show nI 0 = 0 from rfl)]
  | some q =>
    obtain ⟨hq, rfl⟩ := inr_s (by omega) z
    cases y : inr (S + 1) w with
    | none =>
      refine ⟨I, L, ?_, h0⟩
      rw [k124, s71t (s := 14) (Or.inl rfl) hA hp hq, bI_i, e124_4, if_neg (by decide), s17f hc hI (fun k hk' => inr_n (by omega) y k (by omega)), bI_i, e124_9, if_pos (show nI 0 = 0 from rfl)]
    | some s =>
      obtain ⟨hs, rfl⟩ := inr_s (by omega) y
      have hr := (hw.2.1 q (by omega)).2.1
      obtain ⟨I1, e1, p1, f1⟩ := s82 (d := d) (L := L) (ru := ru) (dr := dr) (sr := sr) (rd := rd) (rl := rl) (x := x) (s := 14) hc hI (Or.inl rfl) hA hw (q := q) (m := stn S s) (k := a (4 + q)) (by omega) (by omega)
      obtain ⟨I2, e2, h2, f2⟩ := s101 (d := d) (L := L) (ru := ru) (dr := dr) (sr := sr) (rd := rd) (rl := rl) (x := x) (I := I1)
      have f2' : ∀ c, 9 ≤ c → c ≤ 13 → I2 c = I1 c := fun c _ _ => by
        have e3 := s101' (d := d) (L := L) (ru := ru) (dr := dr) (sr := sr) (rd := rd) (rl := rl) (x := x) (I := I1)
        rw [e2] at e3
        cases e3
        exact zup_ne _ _ _ (by omega)
      have p2 := p1.congr f2'
      rw [k124, s71t (s := 14) (Or.inl rfl) hA hp hq, bI_i, e124_4, if_neg (by decide), s17t hc hI (by omega), bI_i, e124_9, if_neg (by decide), stn_C hc hI (by omega), bI_i, e124_19 (Or.inl rfl), s72 (s := 14) (Or.inl rfl) hA (by omega), bI_i, e124_24 (Or.inl rfl), cv_3 (by omega), e1, bI_i, e124_25, e2, bV_n, e124_29]
      dsimp only
      cases u' : can R S f a q (stn S s) (a (4 + q)) with
      | false =>
        have f3 : fW [4] I I2 := f1.W.tr f2
        rw [if_pos (show nI (if false = true then 1 else 0) = 0 from rfl), if_neg Bool.false_ne_true, e124_49, s34 p2, bI_i, e124_52]
        exact ⟨I2, L, rfl, ⟨f3.ct hI (by decide), f3.st (Or.inl rfl) hA (by decide), f3.tx hT (by decide), h2, f3.pa hP (by decide), f3.clu hC (by decide), f3.sig hS (by decide), hQ, f3.cs (zRD.q hQ) hR (zRD.nn hQ (by decide))⟩⟩
      | true =>
        have hpos : 0 < ((tab R S f a q (stn S s) (a (4 + q))) 0).1 := of_decide_eq_true u'
        have hF := tabFP R S f a q (stn S s) (a (4 + q))
        have hok := hF.at hR8 (Nat.zero_le _)
        have h4 := hok.2.2.2.1 hpos
        have h5 := hok.2.2.1
        obtain ⟨I3, L3, e3, h3, f3, g3⟩ := s102 (d := d) (v := lN (((tab R S f a q (stn S s) (a (4 + q))) 0).2.2.1 - 1)) (ru := ru) (dr := dr) (sr := sr) (rd := rd) (rl := rl) (x := x) h2 (by decide)
        have f3' : ∀ c, 9 ≤ c → c ≤ 13 → I3 c = I2 c := fun c _ _ => by
          have e4 := s102' (d := d) (v := lN (((tab R S f a q (stn S s) (a (4 + q))) 0).2.2.1 - 1)) (ru := ru) (dr := dr) (sr := sr) (rd := rd) (rl := rl) (x := x) h2 (by decide)
          rw [e3] at e4
          cases e4
          exact zup_ne _ _ _ (by omega)
        have p3 := p2.congr f3'
        obtain ⟨I4, L4, e4, h4', f4, g4⟩ := s102 (d := d) (v := lN (((tab R S f a q (stn S s) (a (4 + q))) 0).2.1 - 1)) (ru := ru) (dr := dr) (sr := sr) (rd := rd) (rl := rl) (x := x) h3 (show 1 < 8 by decide)
        have f4' : ∀ c, 9 ≤ c → c ≤ 13 → I4 c = I3 c := fun c _ _ => by
          have e5 := s102' (d := d) (v := lN (((tab R S f a q (stn S s) (a (4 + q))) 0).2.1 - 1)) (ru := ru) (dr := dr) (sr := sr) (rd := rd) (rl := rl) (x := x) h3 (show 1 < 8 by decide)
          rw [e4] at e5
          cases e5
          exact zup_ne _ _ _ (by omega)
        have p4 := p3.congr f4'
        have f5 : fW [4] I I4 := f1.W.tr (f2.tr (f3.tr f4))
        rw [if_neg (show ¬ nI (if true = true then 1 else 0) = 0 by decide), s36 p2, bI_i, e124_36, zsub (by omega), nI_l (by omega), e3, bV_n, e124_40, s35 p3, bI_i, e124_45, zsub (by omega), nI_l (by omega), e4, bV_n, e124_49, s34 p4, bI_i, e124_52, if_pos rfl]
        exact ⟨I4, L4, rfl, ⟨f5.ct hI (by decide), f5.st (Or.inl rfl) hA (by decide), f5.tx hT (by decide), h4', f5.pa hP (by decide), f5.clu hC (by decide), f5.sig hS (by decide), hQ, f5.cs (zRD.q hQ) hR (zRD.nn hQ (by decide))⟩⟩
def tpA (R S : Nat) (f : Nat → Nat) (p : Nat) (a : zP) (v : Int32) : Int32 × Option (List Int64) := match inr p v with
  | some q => (nI (trs R S f a q (a (4 + q))), some [lN (pc (trs R S f a q (a (4 + q))))])
  | none => (-(nI 1), none)
theorem o125 {v : Int32} (h : cInv I L ru dr R S f g p a n t l u kp cl si cs) (hw : wInv R S f g p a T u kp) : ∃ I' L', cal d 125 [.ref 1, .int v] (I, L, rR ru dr sr rd rl, 65, x) = some (some (.int (tpA R S f p a v).1), (I', L', rR ru dr sr rd rl, 65, x)) ∧ cInv I' L' ru dr R S f g p a n t ((tpA R S f p a v).2.getD l) u kp cl si cs := by
  have h0 := h
  obtain ⟨hI, hA, hT, hO, hP, hC, hS, hQ, hR⟩ := h
  obtain ⟨hc, hw, hu, hk⟩ := hw
  have hp := hw.1
  have hS16 := hc.S16
  unfold tpA
  cases z : inr p v with
  | none =>
    refine ⟨I, L, ?_, h0⟩
    rw [k125, s71f (s := 14) (Or.inl rfl) hA hp (inr_n (by omega) z), bI_i, e125_4, if_pos (show nI 0 = 0 from rfl)]
  | some q =>
    obtain ⟨hq, rfl⟩ := inr_s (by omega) z
    have hr := (hw.2.1 q (by omega)).2.1
    obtain ⟨I1, e1, f1⟩ := s83 (d := d) (L := L) (ru := ru) (dr := dr) (sr := sr) (rd := rd) (rl := rl) (x := x) (s := 14) hc hI (Or.inl rfl) hA hw (q := q) (k := a (4 + q)) (by omega) (by omega)
    obtain ⟨I2, L2, e2, h2, f2, g2⟩ := s168 (d := d) (L := L) (ru := ru) (dr := dr) (sr := sr) (rd := rd) (rl := rl) (x := x) (I := I1) (m := trs R S f a q (a (4 + q))) (p16 hS16 (trs_lt _ _ _ _ _ _))
    have f3 : fW [4] I I2 := f1.W.tr f2
    rw [k125, s71t (s := 14) (Or.inl rfl) hA hp hq, bI_i, e125_4, if_neg (by decide), s72 (s := 14) (Or.inl rfl) hA (by omega), bI_i, e125_16 (Or.inl rfl), cv_3 (by omega), e1, bI_i, e125_17, e2, bI_i, e125_18]
    exact ⟨I2, L2, rfl, ⟨f3.ct hI (by decide), f3.st (Or.inl rfl) hA (by decide), f3.tx hT (by decide), h2, f3.pa hP (by decide), f3.clu hC (by decide), f3.sig hS (by decide), hQ, f3.cs (zRD.q hQ) hR (zRD.nn hQ (by decide))⟩⟩
/-- the least reach by which there is no trap, and how many there are by one less -/
def nee (F : Nat → Nat) : Nat → Nat → Nat → Option (Nat × Nat)
  | 0, _, _ => none
  | j + 1, r, b => if F r = 0 then some (r, b) else nee F j (r + 1) (F r)
def neA (R S : Nat) (f : Nat → Nat) (p : Nat) (a : zP) (v : Int32) : Int32 × Option (List Int64) := match inr p v with
  | some q => (match nee (fun r => pc (trs R S f a q r)) 9 1 0 with
    | none => (-(nI 2), none)
    | some e => (nI e.1, some [lN e.2]))
  | none => (-(nI 1), none)
theorem l126 {q : Nat} (hc : zCt R S f g) (hw : zWf p S T a) (hq : q < 4) : ∀ j r b (I : Nat → Nat → Int32) (w4 : Value), r + j = 10 → b ≤ 16 → cCt I R S f g → cSt I 15 p a → ∃ I' L' w', fW [4] I I' ∧ (match nee (fun r => pc (trs R S f a q r)) j r b with
    | none => I' = I' ∧ L' = L ∧ fW [] I I' ∧ res d 126 11 [.ref 1, .int (nI q), .int (nI b), .int (nI r), w4] [] (I, L, rR ru dr sr rd rl, 65, x) = some (some (.int (-(nI 2))), (I', L', rR ru dr sr rd rl, 65, x)) ∧ w' = w4
    | some e => res d 126 11 [.ref 1, .int (nI q), .int (nI b), .int (nI r), w4] [] (I, L, rR ru dr sr rd rl, 65, x) = some (some (.int (nI e.1)), (I', L', rR ru dr sr rd rl, 65, x)) ∧ cTo I' L' [lN e.2])
  | 0, r, b, I, w4, hr, hb, hI, hA => by
    refine ⟨I, L, w4, fW.rf, rfl, rfl, fW.rf, ?_, rfl⟩
    rw [l126_11, if_pos (by rw [nI_ltI (by omega) (by omega)]; omega)]
  | j + 1, r, b, I, w4, hr, hb, hI, hA => by
    have hS16 := hc.S16
    have hpl := pc_le (trs R S f a q r)
    obtain ⟨I1, e1, f1⟩ := s83 (d := d) (L := L) (ru := ru) (dr := dr) (sr := sr) (rd := rd) (rl := rl) (x := x) (s := 14) hc hI (Or.inl rfl) hA hw (q := q) (k := r) hq (by omega)
    unfold nee
    have e0 : res d 126 11 [.ref 1, .int (nI q), .int (nI b), .int (nI r), w4] [] (I, L, rR ru dr sr rd rl, 65, x) = (if nI (pc (trs R S f a q r)) = 0 then bV (cal d 101 [.ref 4] (I1, L, rR ru dr sr rd rl, 65, x)) fun h1 => res d 126 26 [.ref 1, .int (nI q), .int (nI b), .int (nI r), .int (nI (pc (trs R S f a q r)))] [] h1 else res d 126 11 [.ref 1, .int (nI q), .int (nI (pc (trs R S f a q r))), .int (nI (r + 1)), .int (nI (pc (trs R S f a q r)))] [] (I1, L, rR ru dr sr rd rl, 65, x)) := by
      rw [l126_11, if_neg (by rw [nI_ltI (by omega) (by omega)]; omega), e1, bI_i, e126_19, s296 (p16 hS16 (trs_lt _ _ _ _ _ _)), bI_i, e126_20, nI_add]
    by_cases z : pc (trs R S f a q r) = 0
    · obtain ⟨I2, e2, h2, f2⟩ := s101 (d := d) (L := L) (ru := ru) (dr := dr) (sr := sr) (rd := rd) (rl := rl) (x := x) (I := I1)
      obtain ⟨I3, L3, e3, h3, f3, g3⟩ := s102 (d := d) (v := lN b) (ru := ru) (dr := dr) (sr := sr) (rd := rd) (rl := rl) (x := x) h2 (by decide)
      rw [if_pos z]
      refine ⟨I3, L3, w4, f1.W.tr (f2.tr f3), ?_, h3⟩
      rw [e0, if_pos ((nI_z (by omega)).mpr z), e2, bV_n, e126_26, nI_l (by omega), e3, bV_n, e126_31]
    · rw [if_neg z]
      obtain ⟨I2, L2, w2, f2, h2⟩ := l126 hc hw hq j (r + 1) (pc (trs R S f a q r)) I1 (.int (nI (pc (trs R S f a q r)))) (by omega) hpl (f1.ct hI) (f1.st (s := 14) (Or.inl rfl) hA)
      refine ⟨I2, L2, w4, f1.W.tr f2, ?_⟩
      rw [e0, if_neg (by rw [nI_z (by omega)]; exact z)]
      cases y : nee (fun r => pc (trs R S f a q r)) j (r + 1) (pc (trs R S f a q r)) with
      | none =>
        rw [y] at h2
        exact ⟨rfl, h2.2.1, f1.W.tr h2.2.2.1, h2.2.2.2.1, rfl⟩
      | some e =>
        rw [y] at h2
        exact h2
theorem o126 {v : Int32} (h : cInv I L ru dr R S f g p a n t l u kp cl si cs) (hw : wInv R S f g p a T u kp) : ∃ I' L', cal d 126 [.ref 1, .int v] (I, L, rR ru dr sr rd rl, 65, x) = some (some (.int (neA R S f p a v).1), (I', L', rR ru dr sr rd rl, 65, x)) ∧ cInv I' L' ru dr R S f g p a n t ((neA R S f p a v).2.getD l) u kp cl si cs := by
  have h0 := h
  obtain ⟨hI, hA, hT, hO, hP, hC, hS, hQ, hR⟩ := h
  obtain ⟨hc, hw, hu, hk⟩ := hw
  have hp := hw.1
  unfold neA
  cases z : inr p v with
  | none =>
    refine ⟨I, L, ?_, h0⟩
    rw [k126, s71f (s := 14) (Or.inl rfl) hA hp (inr_n (by omega) z), bI_i, e126_4, if_pos (show nI 0 = 0 from rfl)]
  | some q =>
    obtain ⟨hq, rfl⟩ := inr_s (by omega) z
    obtain ⟨I1, L1, w1, f1, h1⟩ := l126 (d := d) (L := L) (ru := ru) (dr := dr) (sr := sr) (rd := rd) (rl := rl) (x := x) hc hw (q := q) (by omega) 9 1 0 I .null (by omega) (by omega) hI hA
    rw [k126, s71t (s := 14) (Or.inl rfl) hA hp hq, bI_i, e126_4, if_neg (by decide)]
    dsimp only
    cases y : nee (fun r => pc (trs R S f a q r)) 9 1 0 with
    | none =>
      rw [y] at h1
      have f2 := h1.2.2.1
      have hL : L1 5 = L 5 := by rw [h1.2.1]
      exact ⟨I1, L1, h1.2.2.2.1, ⟨f2.ct hI (by decide), f2.st (Or.inl rfl) hA (by decide), f2.tx hT (by decide), f2.to hO (by decide) hL, f2.pa hP (by decide), f2.clu hC (by decide), f2.sig hS (by decide), hQ, f2.cs (zRD.q hQ) hR (zRD.nn hQ (by decide))⟩⟩
    | some e =>
      rw [y] at h1
      exact ⟨I1, L1, h1.1, ⟨f1.ct hI (by decide), f1.st (Or.inl rfl) hA (by decide), f1.tx hT (by decide), h1.2, f1.pa hP (by decide), f1.clu hC (by decide), f1.sig hS (by decide), hQ, f1.cs (zRD.q hQ) hR (zRD.nn hQ (by decide))⟩⟩

end
