section
variable {I : Nat → Nat → Int32} {L : Nat → Nat → Int64} {ru dr : Nat} {sr : Nat → Option Nat} {rd : Option Nat} {rl x : Nat}
variable {d R S p n T : Nat} {f g : Nat → Nat} {a : zP} {t : Nat → Nat} {l : List Int64} {u : List zP} {kp : Nat → Option zP} {cl : List (Nat × Nat)} {si : List (Nat × Int32)} {cs : zC}

theorem o115f (h : cInv I L ru dr R S f g 0 a n t l u kp cl si cs) : cal d 115 [.ref 1] (I, L, rR ru dr sr rd rl, 65, x) = some (some (.int (-(nI 1))), (I, L, rR ru dr sr rd rl, 65, x)) := by
  rw [k115, s68 (s := 14) (Or.inl rfl) h.2.1, bI_i, e115_3, if_pos (show nI 0 = 0 from rfl)]
theorem o115t (h : cInv I L ru dr R S f g p a n t l u kp cl si cs) (hw : wInv R S f g p a T u kp) (hp0 : 0 < p) (hT1 : T + 1 < 2 ^ 24) : ∃ I' L', cal d 115 [.ref 1] (I, L, rR ru dr sr rd rl, 65, x) = some (some (.int (nI (if thb R S f g cs a = true then 1 else 0))), (I', L', rR ru dr sr rd rl, 65, x)) ∧ cInv I' L' ru dr R S f g p (thr R S f g cs p a) n t ([(nI 100 + (nI (gol S a (a 24)) + ofv (fun c => nI (th S g a (a 24) c)) cs)).toInt64, lN (thr R S f g cs p a 24)]) ((a :: u).take 12) kp cl si cs := by
  obtain ⟨hI, hA, hT, hO, hP, hC, hS, hQ, hR⟩ := h
  obtain ⟨hc, hw, hu, hk⟩ := hw
  have hp := hw.1
  have h24 := hw.t hp0
  obtain ⟨I1, e1, h1, f1⟩ := s65 (d := d) (L := L) (ru := ru) (dr := dr) (sr := sr) (rd := rd) (rl := rl) (x := x) (s0 := 18) (s := 14) (Or.inr (Or.inr rfl)) (Or.inl rfl) hA
  have hA1 : cSt I1 15 p a := f1.st (s := 14) (Or.inl rfl) hA (by decide)
  have hI1 := f1.ct hI (by decide)
  have hR1 := f1.cs (zRD.q hQ) hR (zRD.nn hQ (by decide))
  obtain ⟨I2, e2, f2'⟩ := s51 (d := d) (L := L) (ru := ru) (dr := dr) (sr := sr) (rd := rd) (rl := rl) (x := x) (s := 14) hc hI1 (Or.inl rfl) hA1 hw (m := a 24) (zRD.q hQ) (by omega) hR1
  have f2 : fW [] I1 I2 := f2'.W (zRD.q hQ)
  have hA2 : cSt I2 15 p a := f2.st (s := 14) (Or.inl rfl) hA1 (by decide)
  have hI2 := f2.ct hI1 (by decide)
  have hR2 := f2.cs (zRD.q hQ) hR1 (zRD.nn hQ (by decide))
  obtain ⟨I3, e3, h3, f3⟩ := s86 (d := d) (L := L) (ru := ru) (dr := dr) (sr := sr) (rd := rd) (rl := rl) (x := x) (s := 14) hc hI2 (Or.inl rfl) hA2 hw (zRD.q hQ) hp0 hR2
  have f4 : fW [15, 19] I I3 := (f1.mono (by decide)).tr ((f2.mono (by decide)).tr (f3.mono (by decide)))
  have hB : cSt I3 19 p a := (f3.st (s := 18) (Or.inr (Or.inr rfl)) (f2.st (s := 18) (Or.inr (Or.inr rfl)) h1 (by decide)) (by decide))
  obtain ⟨I4, e4, h4, f5⟩ := s26 (d := d) (L := L) (ru := ru) (dr := dr) (sr := sr) (rd := rd) (rl := rl) (x := x) (s := 18) (Or.inr (Or.inr rfl)) hB (f4.pa hP (by decide))
  have h3' : cSt I4 15 p _ := f5.st (s := 14) (Or.inl rfl) h3 (by decide)
  obtain ⟨I5, e5, h5, f6⟩ := s101 (d := d) (L := L) (ru := ru) (dr := dr) (sr := sr) (rd := rd) (rl := rl) (x := x) (I := I4)
  obtain ⟨I6, L6, e6, h6, f7, g7⟩ := s102 (d := d) (v := (nI 100 + (nI (gol S a (a 24)) + ofv (fun c => nI (th S g a (a 24) c)) cs)).toInt64) (ru := ru) (dr := dr) (sr := sr) (rd := rd) (rl := rl) (x := x) h5 (by decide)
  have h36 : cSt I6 15 p _ := (f6.tr f7).st (s := 14) (Or.inl rfl) h3' (by decide)
  obtain ⟨I7, L7, e7, h7, f8, g8⟩ := s102 (d := d) (v := lN (thr R S f g cs p a 24)) (ru := ru) (dr := dr) (sr := sr) (rd := rd) (rl := rl) (x := x) h6 (show 1 < 8 by decide)
  have f9 : fW [4, 15, 19, 20, 21] I I7 := (f4.mono (by decide)).tr ((f5.mono (by decide)).tr ((f6.mono (by decide)).tr ((f7.mono (by decide)).tr (f8.mono (by decide)))))
  have fl : fW [4] I4 I7 := f6.tr (f7.tr f8)
  have hwt := thr_wf hc hw hp0 hT1 cs
  have h24' := hwt.t hp0
  refine ⟨I7, L7, ?_, ⟨f9.ct hI (by decide), fl.st (s := 14) (Or.inl rfl) h3' (by decide), f9.tx hT (by decide), h7, fl.pa h4 (by decide), f9.clu hC (by decide), f9.sig hS (by decide), hQ, f9.cs (zRD.q hQ) hR (zRD.nn hQ (by decide))⟩⟩
  rw [k115, s68 (s := 14) (Or.inl rfl) hA, bI_i, e115_3, if_neg (by rw [nI_z (by omega)]; omega), e1, bV_n, e115_11, s69 (s := 14) (Or.inl rfl) hA1, bI_i, e115_14, s79 (s := 14) hc hI1 (Or.inl rfl) hA1 hw (by omega), bI_i, e115_19 (zRD.q hQ), e2, bI_i, e115_25, e3, bI_i, e115_32, e4, bV_n, e115_38, e5, bV_n, e115_41, e6, bV_n, e115_48, s69 (s := 14) (Or.inl rfl) h36, bI_i, e115_53, nI_l (by omega), e7, bV_n, e115_55]
  cases thb R S f g cs a with
  | true => rw [if_pos rfl, if_neg (by decide)]
  | false => rw [if_neg Bool.false_ne_true, if_pos (show nI 0 = 0 from rfl)]
/-- what is told of all players, one by one -/
def tlq (F : Nat → Int64) : Nat → List Int64
  | 0 => []
  | q + 1 => tlq F q ++ [F q]
theorem tlq_len (F : Nat → Int64) : ∀ q, (tlq F q).length = q
  | 0 => rfl
  | q + 1 => by rw [tlq, List.length_append, tlq_len F q]; rfl
theorem o116f {v : Int32} (h : cInv I L ru dr R S f g p a n t l u kp cl si cs) (hw : wInv R S f g p a T u kp) (hv : inl 1 60 v = none ∨ p = 0) : cal d 116 [.ref 1, .int v] (I, L, rR ru dr sr rd rl, 65, x) = some (some (.int (-(nI 1))), (I, L, rR ru dr sr rd rl, 65, x)) := by
  obtain ⟨hI, hA, hT, hO, hP, hC, hS, hQ, hR⟩ := h
  obtain ⟨hc, hw, hu, hk⟩ := hw
  rw [k116]
  by_cases z : v < nI 1
  · rw [if_pos z]
  · rw [if_neg z]
    by_cases y : nI 60 < v
    · rw [if_pos y]
    · rw [if_neg y, s68 (s := 14) (Or.inl rfl) hA, bI_i, e116_9, if_pos]
      rcases hv with hv | hv
      · rcases inl_n hv with q | q
        · exact absurd q z
        · exact absurd q y
      · rw [hv]; rfl
theorem l116 {k w : Int32} {a : zP} {p : Nat} (hp : p ≤ 4) (hb : ∀ q, q < 4 → a (8 + q) < 2 ^ 31) : ∀ n q (I : Nat → Nat → Int32) (L : Nat → Nat → Int64), q + n = p → cSt I 15 p a → cTo I L (tlq (fun q => lN (a (8 + q))) q) → ∃ I' L', res d 116 29 [.ref 1, .int k, .int w, .int (nI q)] [] (I, L, rR ru dr sr rd rl, 65, x) = some (some (.int w), (I', L', rR ru dr sr rd rl, 65, x)) ∧ cTo I' L' (tlq (fun q => lN (a (8 + q))) p) ∧ fW [4] I I'
  | 0, q, I, L, hq, hA, hO => by
    refine ⟨I, L, ?_, (show p = q by omega) ▸ hO, fW.rf⟩
    rw [l116_29, s68 (s := 14) (Or.inl rfl) hA, bI_i, e116_33, if_pos (by rw [nI_leI (by omega) (by omega)]; omega)]
  | n + 1, q, I, L, hq, hA, hO => by
    obtain ⟨I1, L1, e1, h1, f1, g1⟩ := s102 (d := d) (v := lN (a (8 + q))) (ru := ru) (dr := dr) (sr := sr) (rd := rd) (rl := rl) (x := x) hO (by rw [tlq_len]; omega)
    obtain ⟨I2, L2, e2, h2, f2⟩ := l116 (k := k) (w := w) hp hb n (q + 1) I1 L1 (by omega) (f1.st (s := 14) (Or.inl rfl) hA (by decide)) h1
    refine ⟨I2, L2, ?_, h2, f1.tr f2⟩
    rw [l116_29, s68 (s := 14) (Or.inl rfl) hA, bI_i, e116_33, if_neg (by rw [nI_leI (by omega) (by omega)]; omega), s72 (s := 14) (Or.inl rfl) hA (by omega), bI_i, e116_41, cv_11, nI_l (hb q (by omega)), e1, bV_n, e116_43, nI_add, e2]
theorem o116t {v : Int32} {k : Nat} (h : cInv I L ru dr R S f g p a n t l u kp cl si cs) (hw : wInv R S f g p a T u kp) (hv : inl 1 60 v = some k) (hp0 : 0 < p) (hT1 : T + 60 < 2 ^ 24) : ∃ I' L', cal d 116 [.ref 1, .int v] (I, L, rR ru dr sr rd rl, 65, x) = some (some (.int (nI (tc R S f g cs p k a))), (I', L', rR ru dr sr rd rl, 65, x)) ∧ cInv I' L' ru dr R S f g p (tn R S f g cs p k a) n t (tlq (fun q => lN (tn R S f g cs p k a (8 + q))) p) ((a :: u).take 12) kp cl si cs := by
  obtain ⟨hI, hA, hT, hO, hP, hC, hS, hQ, hR⟩ := h
  obtain ⟨hc, hw, hu, hk⟩ := hw
  have hp := hw.1
  obtain ⟨k1, k2, rfl⟩ := inl_s (by decide) (by decide) hv
  obtain ⟨I1, e1, h1, f1⟩ := s26 (d := d) (L := L) (ru := ru) (dr := dr) (sr := sr) (rd := rd) (rl := rl) (x := x) (s := 14) (Or.inl rfl) hA hP
  have hA1 : cSt I1 15 p a := f1.st (s := 14) (Or.inl rfl) hA (by decide)
  obtain ⟨I2, e2, h2, f2⟩ := s167 (d := d) (L := L) (ru := ru) (dr := dr) (sr := sr) (rd := rd) (rl := rl) (x := x) (s := 14) (n := k) hc (f1.ct hI (by decide)) (Or.inl rfl) hA1 hw (zRD.q hQ) hp0 (f1.cs (zRD.q hQ) hR (zRD.nn hQ (by decide))) (by omega) (by omega)
  obtain ⟨I3, e3, h3, f3⟩ := s101 (d := d) (L := L) (ru := ru) (dr := dr) (sr := sr) (rd := rd) (rl := rl) (x := x) (I := I2)
  have hw2 := tn_wf hc hp0 cs k T a hw (by omega)
  have hS16 := hc.S16
  obtain ⟨I4, L4, e4, h4, f4⟩ := l116 (d := d) (k := nI k) (w := nI (tc R S f g cs p k a)) (a := tn R S f g cs p k a) (ru := ru) (dr := dr) (sr := sr) (rd := rd) (rl := rl) (x := x) hp (fun q hq => by have := (hw2.2.1 q hq).2.2.1; omega) p 0 I3 L (by omega) (f3.st (s := 14) (Or.inl rfl) h2 (by decide)) h3
  have f5 : fW [4, 15, 20, 21] I I4 := (f1.mono (by decide)).tr ((f2.mono (by decide)).tr ((f3.mono (by decide)).tr (f4.mono (by decide))))
  have fl : fW [4] I2 I4 := f3.tr f4
  refine ⟨I4, L4, ?_, ⟨f5.ct hI (by decide), fl.st (s := 14) (Or.inl rfl) h2 (by decide), f5.tx hT (by decide), h4, fl.pa (f2.pa h1 (by decide)) (by decide), f5.clu hC (by decide), f5.sig hS (by decide), hQ, f5.cs (zRD.q hQ) hR (zRD.nn hQ (by decide))⟩⟩
  rw [k116, if_neg (by rw [nI_ltI (by omega) (by omega)]; omega), if_neg (by rw [nI_ltI (by omega) (by omega)]; omega), s68 (s := 14) (Or.inl rfl) hA, bI_i, e116_9, if_neg (by rw [nI_z (by omega)]; omega), e1, bV_n, e116_17, e2, bI_i, e116_23, e3, bV_n, e116_27, e4]
/-! sheet -/
def sgd (v e : Int32) : Int32 := if v = 0 then e.toInt8.toInt32 else if v = nI 1 then e.toInt16.toInt32 else e
def sha (v e : Int32) : Nat := (zmax (nI 0) (zmin (nI 9) (sgd v e))).toNatClampNeg
theorem sha_n (v e : Int32) : zmax (nI 0) (zmin (nI 9) (sgd v e)) = nI (sha v e) ∧ sha v e ≤ 9 := by
  have h9 : zmin (nI 9) (sgd v e) ≤ nI 9 := by
    unfold zmin
    split
    · rename_i q; exact (fa_of_lt q).1
    · decide
  have h0 : ¬ zmax (nI 0) (zmin (nI 9) (sgd v e)) < 0 := by
    unfold zmax
    split
    · rename_i q; exact (fa_of_lt q).2.2.1
    · decide
  have h10 : zmax (nI 0) (zmin (nI 9) (sgd v e)) ≤ nI 9 := by
    unfold zmax
    split
    · exact h9
    · decide
  obtain ⟨j, hj, e'⟩ := nI_of h0
  unfold sha
  rw [e', nI_clamp hj]
  rw [e', nI_leI hj (by decide)] at h10
  exact ⟨rfl, h10⟩
theorem s157 {v e : Int32} : cal d 157 [.int v, .int e] (I, L, rR ru dr sr rd rl, 65, x) = some (some (.int (nI (sha v e))), (I, L, rR ru dr sr rd rl, 65, x)) := by
  rw [← (sha_n v e).1, k157]
  unfold sgd
  by_cases z : v = 0
  · rw [if_pos z, if_pos z, e157_12]
  · rw [if_neg z, if_neg z]
    by_cases y : v = nI 1
    · rw [if_pos y, if_pos y, e157_12]
    · rw [if_neg y, if_neg y, e157_12]
def shw (v1 v2 v3 v4 : Int32) (k : Nat) : Nat := if v1 = nI 3 ∨ v2 ≤ nI k then 0 else sha v1 (v3 + nI k * v4)
theorem shw_le (v1 v2 v3 v4 : Int32) (k : Nat) : shw v1 v2 v3 v4 k ≤ 9 := by
  unfold shw
  split
  · decide
  · exact (sha_n _ _).2
def shs (W : Nat → Nat) (a : zP) (q : Nat) : zP := fun k => if k < q then W k else a k
theorem shs_s (W : Nat → Nat) (a : zP) (q : Nat) : zset (shs W a q) q (W q) = shs W a (q + 1) := by
  funext k
  show (if k = q then W q else if k < q then W k else a k) = if k < q + 1 then W k else a k
  by_cases z : k = q
  · rw [if_pos z, if_pos (by omega), z]
  · rw [if_neg z]
    by_cases y : k < q
    · rw [if_pos y, if_pos (by omega)]
    · rw [if_neg y, if_neg (by omega)]
theorem shs_wf {W : Nat → Nat} (hW : ∀ k, W k ≤ 9) (hw : zWf p S T a) : ∀ q, q ≤ p → zWf p S T (shs W a q)
  | 0, _ => by
    have : shs W a 0 = a := funext fun k => if_neg (Nat.not_lt_zero k)
    rw [this]; exact hw
  | q + 1, h => by
    rw [← shs_s]
    exact (shs_wf hW hw q (by omega)).aim (by omega) (hW q)
theorem l114 {v1 v2 v3 v4 : Int32} {p : Nat} (hp : p ≤ 4) {m : Nat} (hm : m = if v1 = nI 3 then 1 else 0) : ∀ n q (I : Nat → Nat → Int32) (w7 : Value), q + n = p → cSt I 15 p (shs (shw v1 v2 v3 v4) a q) → ∃ I' w7', res d 114 25 [.ref 1, .int v1, .int v2, .int v3, .int v4, .int (nI m), .int (nI q), w7] [] (I, L, rR ru dr sr rd rl, 65, x) = res d 114 29 [.ref 1, .int v1, .int v2, .int v3, .int v4, .int (nI m), .int (nI p), w7'] [.int (nI p), .int (nI p)] (I', L, rR ru dr sr rd rl, 65, x) ∧ cSt I' 15 p (shs (shw v1 v2 v3 v4) a p) ∧ fW [15] I I'
  | 0, q, I, w7, hq, hA => by
    have : q = p := by omega
    subst this
    exact ⟨I, w7, by rw [l114_25, s68 (s := 14) (Or.inl rfl) hA, bI_i], hA, fW.rf⟩
  | n + 1, q, I, w7, hq, hA => by
    have hA2 := hA.put (k := 7 + q) (v := shw v1 v2 v3 v4 q) (by omega) (by omega)
    rw [cx_7 (by omega), shs_s] at hA2
    obtain ⟨I2, w2, e2, h2, f2⟩ := l114 (w7 := .int (nI (if v1 = nI 3 ∨ v2 ≤ nI q then 0 else 1))) hp hm n (q + 1) _ (by omega) hA2
    refine ⟨I2, w2, ?_, h2, (fW.up (by decide) (by decide) (by decide)).tr f2⟩
    rw [l114_25, s68 (s := 14) (Or.inl rfl) hA, bI_i, e114_29, if_neg (by rw [nI_leI (by omega) (by omega)]; omega)]
    by_cases z : v1 = nI 3
    · rw [if_pos z] at hm
      subst hm
      have es : shw v1 v2 v3 v4 q = 0 := by unfold shw; rw [if_pos (Or.inl z)]
      rw [if_pos (Or.inl z)] at e2
      rw [es] at e2
      rw [if_neg (by decide), e114_37, e114_38, if_pos (show nI 0 = 0 from rfl), e114_54 (Or.inl rfl), s73 (s := 14) (Or.inl rfl) (by omega), bV_n, e114_55, nI_add]
      exact e2
    · rw [if_neg z] at hm
      subst hm
      rw [if_pos (show nI 0 = 0 from rfl)]
      by_cases y : v2 ≤ nI q
      · have es : shw v1 v2 v3 v4 q = 0 := by unfold shw; rw [if_pos (Or.inr y)]
        rw [if_pos (Or.inr y)] at e2
        rw [es] at e2
        rw [if_pos y, e114_37, e114_38, if_pos (show nI 0 = 0 from rfl), e114_54 (Or.inl rfl), s73 (s := 14) (Or.inl rfl) (by omega), bV_n, e114_55, nI_add]
        exact e2
      · have hn : ¬ (v1 = nI 3 ∨ v2 ≤ nI q) := fun h => h.elim z y
        have es : shw v1 v2 v3 v4 q = sha v1 (v3 + nI q * v4) := by unfold shw; rw [if_neg hn]
        rw [if_neg hn] at e2
        rw [es] at e2
        rw [if_neg y, e114_38, if_neg (by decide), s157, bI_i, e114_52 (Or.inl rfl), e114_54 (Or.inl rfl), s73 (s := 14) (Or.inl rfl) (by omega), bV_n, e114_55, nI_add]
        exact e2
/-- sheet's answer and aims -/
def shA (p : Nat) (a : zP) (v1 v2 v3 v4 : Int32) : Int32 × zP := if v1 < 0 ∨ nI 3 < v1 ∨ nI 4 < v2 then (-(nI 1), a) else if v1 ≠ nI 3 ∧ v2 < 0 then (-(nI 2), a) else (if v1 = nI 3 then -(nI 3) else nI (sm (shs (shw v1 v2 v3 v4) a p) 0 p), shs (shw v1 v2 v3 v4) a p)
theorem shA_wf {v1 v2 v3 v4 : Int32} (hw : zWf p S T a) : zWf p S T (shA p a v1 v2 v3 v4).2 := by
  unfold shA
  split
  · exact hw
  · split
    · exact hw
    · exact shs_wf (shw_le v1 v2 v3 v4) hw p (Nat.le_refl _)
theorem o114 {v1 v2 v3 v4 : Int32} (h : cInv I L ru dr R S f g p a n t l u kp cl si cs) (hw : wInv R S f g p a T u kp) : ∃ I', cal d 114 [.ref 1, .int v1, .int v2, .int v3, .int v4] (I, L, rR ru dr sr rd rl, 65, x) = some (some (.int (shA p a v1 v2 v3 v4).1), (I', L, rR ru dr sr rd rl, 65, x)) ∧ cInv I' L ru dr R S f g p (shA p a v1 v2 v3 v4).2 n t l u kp cl si cs := by
  have h0 := h
  obtain ⟨hI, hA, hT, hO, hP, hC, hS, hQ, hR⟩ := h
  obtain ⟨hc, hw, hu, hk⟩ := hw
  have hp := hw.1
  rw [k114]
  by_cases z1 : v1 < 0
  · have es : shA p a v1 v2 v3 v4 = (-(nI 1), a) := by unfold shA; rw [if_pos (Or.inl z1)]
    rw [if_pos z1, es]
    exact ⟨I, rfl, h0⟩
  · rw [if_neg z1]
    by_cases z2 : nI 3 < v1
    · have es : shA p a v1 v2 v3 v4 = (-(nI 1), a) := by unfold shA; rw [if_pos (Or.inr (Or.inl z2))]
      rw [if_pos z2, es]
      exact ⟨I, rfl, h0⟩
    · rw [if_neg z2]
      by_cases z3 : nI 4 < v2
      · have es : shA p a v1 v2 v3 v4 = (-(nI 1), a) := by unfold shA; rw [if_pos (Or.inr (Or.inr z3))]
        rw [if_neg (show ¬ v2 ≤ nI 4 from fun e => (fa_of_lt z3).2.1 e), es]
        exact ⟨I, rfl, h0⟩
      · have hn : ¬ (v1 < 0 ∨ nI 3 < v1 ∨ nI 4 < v2) := fun e => e.elim z1 (fun e => e.elim z2 z3)
        rw [if_pos (fa_of_nlt z3)]
        have hA0 : cSt I 15 p (shs (shw v1 v2 v3 v4) a 0) := by
          have : shs (shw v1 v2 v3 v4) a 0 = a := funext fun k => if_neg (Nat.not_lt_zero k)
          rw [this]; exact hA
        by_cases z4 : v1 = nI 3
        · have es : shA p a v1 v2 v3 v4 = (-(nI 3), shs (shw v1 v2 v3 v4) a p) := by unfold shA; rw [if_neg hn, if_neg (fun e => e.1 z4), if_pos z4]
          obtain ⟨I2, w2, e2, h2, f2⟩ := l114 (d := d) (L := L) (ru := ru) (dr := dr) (sr := sr) (rd := rd) (rl := rl) (x := x) (v1 := v1) (v2 := v2) (v3 := v3) (v4 := v4) (m := 1) hp (by rw [if_pos z4]) p 0 I .null (by omega) hA0
          rw [if_pos z4, e114_16, if_neg (by decide), e2, e114_29, if_pos (by rw [nI_leI (by omega) (by omega)]; omega), if_neg (by decide), e114_65, es]
          exact ⟨I2, rfl, ⟨f2.ct hI (by decide), h2, f2.tx hT (by decide), f2.to hO (by decide) rfl, f2.pa hP (by decide), f2.clu hC (by decide), f2.sig hS (by decide), hQ, f2.cs (zRD.q hQ) hR (zRD.nn hQ (by decide))⟩⟩
        · rw [if_neg z4, e114_16, if_pos (show nI 0 = 0 from rfl)]
          by_cases z5 : v2 < 0
          · have es : shA p a v1 v2 v3 v4 = (-(nI 2), a) := by unfold shA; rw [if_neg hn, if_pos ⟨z4, z5⟩]
            rw [if_neg (show ¬ 0 ≤ v2 from fun e => (fa_of_lt z5).2.1 e), es]
            exact ⟨I, rfl, h0⟩
          · have es : shA p a v1 v2 v3 v4 = (nI (sm (shs (shw v1 v2 v3 v4) a p) 0 p), shs (shw v1 v2 v3 v4) a p) := by unfold shA; rw [if_neg hn, if_neg (fun e => z5 e.2), if_neg z4]
            obtain ⟨I2, w2, e2, h2, f2⟩ := l114 (d := d) (L := L) (ru := ru) (dr := dr) (sr := sr) (rd := rd) (rl := rl) (x := x) (v1 := v1) (v2 := v2) (v3 := v3) (v4 := v4) (m := 0) hp (by rw [if_neg z4]) p 0 I .null (by omega) hA0
            rw [if_pos (fa_of_nlt z5), e2, e114_29, if_pos (by rw [nI_leI (by omega) (by omega)]; omega), if_pos (show nI 0 = 0 from rfl), s74a (s := 14) (Or.inl rfl) h2 hp, bI_i, e114_65, es]
            exact ⟨I2, rfl, ⟨f2.ct hI (by decide), h2, f2.tx hT (by decide), f2.to hO (by decide) rfl, f2.pa hP (by decide), f2.clu hC (by decide), f2.sig hS (by decide), hQ, f2.cs (zRD.q hQ) hR (zRD.nn hQ (by decide))⟩⟩

end
