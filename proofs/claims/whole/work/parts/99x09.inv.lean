section
variable {I : Nat → Nat → Int32} {L : Nat → Nat → Int64} {ru dr : Nat} {sr : Nat → Option Nat} {rd : Option Nat} {rl x : Nat}
variable {d R S p n T : Nat} {f g : Nat → Nat} {a : zP} {t : Nat → Nat} {l : List Int64} {u : List zP} {kp : Nat → Option zP} {cl : List (Nat × Nat)} {si : List (Nat × Int32)} {cs : zC}

def cInv (I : Nat → Nat → Int32) (L : Nat → Nat → Int64) (ru dr R S : Nat) (f g : Nat → Nat) (p : Nat) (a : zP) (n : Nat) (t : Nat → Nat) (l : List Int64) (u : List zP) (kp : Nat → Option zP) (cl : List (Nat × Nat)) (si : List (Nat × Int32)) (cs : zC) : Prop := cCt I R S f g ∧ cSt I 15 p a ∧ cTx I n t ∧ cTo I L l ∧ cPa I p u kp ∧ cCl I cl ∧ cSi I si ∧ (ru = 30 ∧ dr = 33 ∨ ru = 33 ∧ dr = 30) ∧ cRu I ru cs
def wInv (R S : Nat) (f g : Nat → Nat) (p : Nat) (a : zP) (T : Nat) (u : List zP) (kp : Nat → Option zP) : Prop := zCt R S f g ∧ zWf p S T a ∧ (∀ b ∈ u, zWf p S T b) ∧ ∀ i b, i < 2 → kp i = some b → zWf p S T b
theorem zRD.q {ru dr : Nat} (h : ru = 30 ∧ dr = 33 ∨ ru = 33 ∧ dr = 30) : zQ ru := by
  rcases h with ⟨h, -⟩ | ⟨h, -⟩
  · exact Or.inl h
  · exact Or.inr h

theorem zRD.qd {ru dr : Nat} (h : ru = 30 ∧ dr = 33 ∨ ru = 33 ∧ dr = 30) : zQ dr := by
  rcases h with ⟨-, h⟩ | ⟨-, h⟩
  · exact Or.inr h
  · exact Or.inl h
theorem zRD.nn {ru dr : Nat} {W : List Nat} (h : ru = 30 ∧ dr = 33 ∨ ru = 33 ∧ dr = 30) (hm : 31 ∉ W ∧ 34 ∉ W) : ru + 1 ∉ W := by
  rcases h with ⟨rfl, -⟩ | ⟨rfl, -⟩
  · exact hm.1
  · exact hm.2
theorem fW.tx {W : List Nat} {I I' : Nat → Nat → Int32} (h : fW W I I') {n : Nat} {t : Nat → Nat} (hT : cTx I n t) (hm : 2 ∉ W ∧ 3 ∉ W) : cTx I' n t := hT.congr (h.1 2 hm.1 rfl) (h.1 3 hm.2 rfl)
theorem fW.to {W : List Nat} {I I' : Nat → Nat → Int32} {L L' : Nat → Nat → Int64} (h : fW W I I') {l : List Int64} (hT : cTo I L l) (hm : 4 ∉ W) (hL : L' 5 = L 5) : cTo I' L' l := hT.congr (h.1 4 hm rfl) hL
theorem fW.pa {W : List Nat} {I I' : Nat → Nat → Int32} (h : fW W I I') {p : Nat} {u : List zP} {kp : Nat → Option zP} (hP : cPa I p u kp) (hm : 20 ∉ W ∧ 21 ∉ W ∧ 22 ∉ W) : cPa I' p u kp := hP.congr (h.1 20 hm.1 rfl) (h.1 21 hm.2.1 rfl) (h.1 22 hm.2.2 rfl)
theorem fW.clu {W : List Nat} {I I' : Nat → Nat → Int32} (h : fW W I I') {l : List (Nat × Nat)} (hP : cCl I l) (hm : 23 ∉ W ∧ 24 ∉ W ∧ 25 ∉ W) : cCl I' l := hP.congr (h.1 23 hm.1 rfl) (h.1 24 hm.2.1 rfl) (h.1 25 hm.2.2 rfl)
theorem fW.sig {W : List Nat} {I I' : Nat → Nat → Int32} (h : fW W I I') {l : List (Nat × Int32)} (hP : cSi I l) (hm : 26 ∉ W ∧ 27 ∉ W ∧ 28 ∉ W) : cSi I' l := hP.congr (h.1 26 hm.1 rfl) (h.1 27 hm.2.1 rfl) (h.1 28 hm.2.2 rfl)
/-! text -/
theorem o107t {v : Int32} (h : cInv I L ru dr R S f g p a n t l u kp cl si cs) (hw : wInv R S f g p a T u kp) (hn : n ≤ 76) : ∃ I', cal d 107 [.ref 1, .int v] (I, L, rR ru dr sr rd rl, 65, x) = some (some (.int (nI (n + 4))), (I', L, rR ru dr sr rd rl, 65, x)) ∧ cInv I' L ru dr R S f g p a (n + 4) (tx4 t n v) l u kp cl si cs := by
  obtain ⟨hI, hA, hT, hO, hP, hC, hS, hQ, hR⟩ := h
  obtain ⟨hc, hw, hu, hk⟩ := hw
  obtain ⟨I1, e1, h1, f1⟩ := s94t (d := d) (v := v) (L := L) (ru := ru) (dr := dr) (sr := sr) (rd := rd) (rl := rl) (x := x) hT hn
  exact ⟨I1, by rw [k107, e1, bI_i, e107_4, if_neg (by decide), s97 h1, bI_i, e107_8], ⟨f1.ct hI (by decide), f1.st (Or.inl rfl) hA (by decide), h1, f1.to hO (by decide) rfl, f1.pa hP (by decide), f1.clu hC (by decide), f1.sig hS (by decide), hQ, f1.cs (zRD.q hQ) hR (zRD.nn hQ (by decide))⟩⟩
theorem o107f {v : Int32} (h : cInv I L ru dr R S f g p a n t l u kp cl si cs) (hw : wInv R S f g p a T u kp) (hn : 76 < n) : cal d 107 [.ref 1, .int v] (I, L, rR ru dr sr rd rl, 65, x) = some (some (.int (-(nI 1))), (I, L, rR ru dr sr rd rl, 65, x)) := by
  obtain ⟨hI, hA, hT, hO, hP, hC, hS, hQ, hR⟩ := h
  obtain ⟨hc, hw, hu, hk⟩ := hw
  rw [k107, s94f hT hn, bI_i, e107_4, if_pos (show nI 0 = 0 from rfl)]
theorem o108t {k : Nat} (h : cInv I L ru dr R S f g p a n t l u kp cl si cs) (hw : wInv R S f g p a T u kp) (hkn : k ≤ n) : ∃ I', cal d 108 [.ref 1, .int (nI k)] (I, L, rR ru dr sr rd rl, 65, x) = some (some (.int (nI 1)), (I', L, rR ru dr sr rd rl, 65, x)) ∧ cInv I' L ru dr R S f g p a k t l u kp cl si cs := by
  obtain ⟨hI, hA, hT, hO, hP, hC, hS, hQ, hR⟩ := h
  obtain ⟨hc, hw, hu, hk⟩ := hw
  have f1 : fW [2] I (zup I 2 1 (nI k)) := fW.up (by decide) (by decide) (by decide)
  exact ⟨_, by rw [k108, s95t hT hkn, bI_i, e108_4, if_pos zb1], ⟨f1.ct hI (by decide), f1.st (Or.inl rfl) hA (by decide), hT.cut hkn, f1.to hO (by decide) rfl, f1.pa hP (by decide), f1.clu hC (by decide), f1.sig hS (by decide), hQ, f1.cs (zRD.q hQ) hR (zRD.nn hQ (by decide))⟩⟩
theorem o108f {v : Int32} (h : cInv I L ru dr R S f g p a n t l u kp cl si cs) (hw : wInv R S f g p a T u kp) (hv : ∀ k, k ≤ n → v ≠ nI k) : cal d 108 [.ref 1, .int v] (I, L, rR ru dr sr rd rl, 65, x) = some (some (.int (nI 0)), (I, L, rR ru dr sr rd rl, 65, x)) := by
  obtain ⟨hI, hA, hT, hO, hP, hC, hS, hQ, hR⟩ := h
  obtain ⟨hc, hw, hu, hk⟩ := hw
  rw [k108, s95f hT hv, bI_i, e108_4, if_pos zb0]
/-! undo, keep, again -/
theorem o122f (h : cInv I L ru dr R S f g p a n t l [] kp cl si cs) : cal d 122 [.ref 1] (I, L, rR ru dr sr rd rl, 65, x) = some (some (.int (-(nI 1))), (I, L, rR ru dr sr rd rl, 65, x)) := by
  rw [k122, s27f (Or.inl rfl) h.2.2.2.2.1, bI_i, e122_5, if_pos (show nI 0 = 0 from rfl)]
theorem o122t {b : zP} (h : cInv I L ru dr R S f g p a n t l (b :: u) kp cl si cs) : ∃ I', cal d 122 [.ref 1] (I, L, rR ru dr sr rd rl, 65, x) = some (some (.int (nI u.length)), (I', L, rR ru dr sr rd rl, 65, x)) ∧ cInv I' L ru dr R S f g p b n t l u kp cl si cs := by
  obtain ⟨hI, hA, hT, hO, hP, hC, hS, hQ, hR⟩ := h
  obtain ⟨I1, e1, h1, h2, f1⟩ := s27t (d := d) (L := L) (ru := ru) (dr := dr) (sr := sr) (rd := rd) (rl := rl) (x := x) (s := 14) (Or.inl rfl) hP
  exact ⟨I1, by rw [k122, e1, bI_i, e122_5, if_neg (by decide), s25 h2, bI_i, e122_9], ⟨f1.ct hI (by decide), h1, f1.tx hT (by decide), f1.to hO (by decide) rfl, h2, f1.clu hC (by decide), f1.sig hS (by decide), hQ, f1.cs (zRD.q hQ) hR (zRD.nn hQ (by decide))⟩⟩
theorem o151t {i : Nat} (h : cInv I L ru dr R S f g p a n t l u kp cl si cs) (hw : wInv R S f g p a T u kp) (hi : i < 2) : ∃ I', cal d 151 [.ref 1, .int (nI i)] (I, L, rR ru dr sr rd rl, 65, x) = some (some (.int (nI 1)), (I', L, rR ru dr sr rd rl, 65, x)) ∧ cInv I' L ru dr R S f g p a n t l u (zset kp i (some a)) cl si cs := by
  obtain ⟨hI, hA, hT, hO, hP, hC, hS, hQ, hR⟩ := h
  obtain ⟨hc, hw, hu, hk⟩ := hw
  obtain ⟨I1, e1, h1, f1⟩ := s28t (d := d) (L := L) (ru := ru) (dr := dr) (sr := sr) (rd := rd) (rl := rl) (x := x) (s := 14) (Or.inl rfl) hA hP hi
  exact ⟨I1, by rw [k151, e1, bI_i, e151_6, if_pos zb1], ⟨f1.ct hI (by decide), f1.st (Or.inl rfl) hA (by decide), f1.tx hT (by decide), f1.to hO (by decide) rfl, h1, f1.clu hC (by decide), f1.sig hS (by decide), hQ, f1.cs (zRD.q hQ) hR (zRD.nn hQ (by decide))⟩⟩
theorem o151f {v : Int32} (hv : ∀ k, k < 2 → v ≠ nI k) : cal d 151 [.ref 1, .int v] (I, L, rR ru dr sr rd rl, 65, x) = some (some (.int (nI 0)), (I, L, rR ru dr sr rd rl, 65, x)) := by
  rw [k151, s28f (Or.inl rfl) hv, bI_i, e151_6, if_pos zb0]
theorem o152t {i : Nat} {b : zP} (h : cInv I L ru dr R S f g p a n t l u kp cl si cs) (hw : wInv R S f g p a T u kp) (hi : i < 2) (hb : kp i = some b) : ∃ I', cal d 152 [.ref 1, .int (nI i)] (I, L, rR ru dr sr rd rl, 65, x) = some (some (.int (nI 1)), (I', L, rR ru dr sr rd rl, 65, x)) ∧ cInv I' L ru dr R S f g p b n t l [] kp cl si cs := by
  obtain ⟨hI, hA, hT, hO, hP, hC, hS, hQ, hR⟩ := h
  obtain ⟨hc, hw, hu, hk⟩ := hw
  obtain ⟨I1, e1, h1, h2, f1⟩ := s29t (d := d) (L := L) (ru := ru) (dr := dr) (sr := sr) (rd := rd) (rl := rl) (x := x) (s := 14) (Or.inl rfl) hP hi hb
  exact ⟨I1, by rw [k152, e1, bI_i, e152_6, if_pos zb1], ⟨f1.ct hI (by decide), h1, f1.tx hT (by decide), f1.to hO (by decide) rfl, h2, f1.clu hC (by decide), f1.sig hS (by decide), hQ, f1.cs (zRD.q hQ) hR (zRD.nn hQ (by decide))⟩⟩
theorem o152f {v : Int32} (h : cInv I L ru dr R S f g p a n t l u kp cl si cs) (hw : wInv R S f g p a T u kp) (hv : ∀ k, k < 2 → v = nI k → kp k = none) : cal d 152 [.ref 1, .int v] (I, L, rR ru dr sr rd rl, 65, x) = some (some (.int (nI 0)), (I, L, rR ru dr sr rd rl, 65, x)) := by
  obtain ⟨hI, hA, hT, hO, hP, hC, hS, hQ, hR⟩ := h
  obtain ⟨hc, hw, hu, hk⟩ := hw
  rw [k152, s29f (Or.inl rfl) hP hv, bI_i, e152_6, if_pos zb0]
/-! clues, sights -/
theorem o137t {v w : Int32} {e : Nat × Nat} (h : cInv I L ru dr R S f g p a n t l u kp cl si cs) (hw : wInv R S f g p a T u kp) (he : hrd cl v w = some e) : ∃ I', cal d 137 [.ref 1, .int v, .int w] (I, L, rR ru dr sr rd rl, 65, x) = some (some (.int (nI (cl.length + 1))), (I', L, rR ru dr sr rd rl, 65, x)) ∧ cInv I' L ru dr R S f g p a n t l u kp (cl ++ [e]) si cs := by
  obtain ⟨hI, hA, hT, hO, hP, hC, hS, hQ, hR⟩ := h
  obtain ⟨hc, hw, hu, hk⟩ := hw
  obtain ⟨I1, e1, h1, f1⟩ := s5t (d := d) (L := L) (ru := ru) (dr := dr) (sr := sr) (rd := rd) (rl := rl) (x := x) hC he
  have e2 := s2 (d := d) (L := L) (ru := ru) (dr := dr) (sr := sr) (rd := rd) (rl := rl) (x := x) h1
  rw [List.length_append] at e2
  exact ⟨I1, by rw [k137, e1, bI_i, e137_5, if_neg (by decide), e2, bI_i, e137_9]; rfl, ⟨f1.ct hI (by decide), f1.st (Or.inl rfl) hA (by decide), f1.tx hT (by decide), f1.to hO (by decide) rfl, f1.pa hP (by decide), h1, f1.sig hS (by decide), hQ, f1.cs (zRD.q hQ) hR (zRD.nn hQ (by decide))⟩⟩
theorem o137f {v w : Int32} (h : cInv I L ru dr R S f g p a n t l u kp cl si cs) (hw : wInv R S f g p a T u kp) (he : hrd cl v w = none) : cal d 137 [.ref 1, .int v, .int w] (I, L, rR ru dr sr rd rl, 65, x) = some (some (.int (-(nI 1))), (I, L, rR ru dr sr rd rl, 65, x)) := by
  obtain ⟨hI, hA, hT, hO, hP, hC, hS, hQ, hR⟩ := h
  obtain ⟨hc, hw, hu, hk⟩ := hw
  rw [k137, s5f hC he, bI_i, e137_5, if_pos (show nI 0 = 0 from rfl)]
theorem o138 (h : cInv I L ru dr R S f g p a n t l u kp cl si cs) (hw : wInv R S f g p a T u kp) : ∃ I', cal d 138 [.ref 1] (I, L, rR ru dr sr rd rl, 65, x) = some (some (.int (nI cl.length)), (I', L, rR ru dr sr rd rl, 65, x)) ∧ cInv I' L ru dr R S f g p a n t l u kp [] si cs := by
  obtain ⟨hI, hA, hT, hO, hP, hC, hS, hQ, hR⟩ := h
  obtain ⟨hc, hw, hu, hk⟩ := hw
  obtain ⟨I1, e1, h1, f1⟩ := s1 (d := d) (L := L) (ru := ru) (dr := dr) (sr := sr) (rd := rd) (rl := rl) (x := x) (I := I)
  exact ⟨I1, by rw [k138, s2 hC, bI_i, e138_3, e1, bV_n, e138_7], ⟨f1.ct hI (by decide), f1.st (Or.inl rfl) hA (by decide), f1.tx hT (by decide), f1.to hO (by decide) rfl, f1.pa hP (by decide), h1, f1.sig hS (by decide), hQ, f1.cs (zRD.q hQ) hR (zRD.nn hQ (by decide))⟩⟩
theorem o139 (h : cInv I L ru dr R S f g p a n t l u kp cl si cs) (hw : wInv R S f g p a T u kp) : ∃ I' L', cal d 139 [.ref 1] (I, L, rR ru dr sr rd rl, 65, x) = some (some (.int (nI (fit S a cl p))), (I', L', rR ru dr sr rd rl, 65, x)) ∧ cInv I' L' ru dr R S f g p a n t ([lN (pc (fit S a cl p))]) u kp cl si cs := by
  obtain ⟨hI, hA, hT, hO, hP, hC, hS, hQ, hR⟩ := h
  obtain ⟨hc, hw, hu, hk⟩ := hw
  have hp := hw.1
  have := fit_lt S a cl hp
  obtain ⟨I1, L1, e1, h1, f1, g1⟩ := s168 (d := d) (L := L) (ru := ru) (dr := dr) (sr := sr) (rd := rd) (rl := rl) (x := x) (I := I) (m := fit S a cl p) (by omega)
  exact ⟨I1, L1, by rw [k139, s6 (s := 14) hc hI (Or.inl rfl) hA hw hC, bI_i, e139_6, e1, bI_i, e139_7], ⟨f1.ct hI (by decide), f1.st (Or.inl rfl) hA (by decide), f1.tx hT (by decide), h1, f1.pa hP (by decide), f1.clu hC (by decide), f1.sig hS (by decide), hQ, f1.cs (zRD.q hQ) hR (zRD.nn hQ (by decide))⟩⟩
theorem o141t {v w : Int32} {e : Nat × Int32} (h : cInv I L ru dr R S f g p a n t l u kp cl si cs) (hw : wInv R S f g p a T u kp) (he : sen si v w = some e) : ∃ I', cal d 141 [.ref 1, .int v, .int w] (I, L, rR ru dr sr rd rl, 65, x) = some (some (.int (nI (si.length + 1))), (I', L, rR ru dr sr rd rl, 65, x)) ∧ cInv I' L ru dr R S f g p a n t l u kp cl (si ++ [e]) cs := by
  obtain ⟨hI, hA, hT, hO, hP, hC, hS, hQ, hR⟩ := h
  obtain ⟨hc, hw, hu, hk⟩ := hw
  obtain ⟨I1, e1, h1, f1⟩ := s58t (d := d) (L := L) (ru := ru) (dr := dr) (sr := sr) (rd := rd) (rl := rl) (x := x) hS he
  have e2 := s57 (d := d) (L := L) (ru := ru) (dr := dr) (sr := sr) (rd := rd) (rl := rl) (x := x) h1
  rw [List.length_append] at e2
  exact ⟨I1, by rw [k141, e1, bI_i, e141_5, if_neg (by decide), e2, bI_i, e141_9]; rfl, ⟨f1.ct hI (by decide), f1.st (Or.inl rfl) hA (by decide), f1.tx hT (by decide), f1.to hO (by decide) rfl, f1.pa hP (by decide), f1.clu hC (by decide), h1, hQ, f1.cs (zRD.q hQ) hR (zRD.nn hQ (by decide))⟩⟩
theorem o141f {v w : Int32} (h : cInv I L ru dr R S f g p a n t l u kp cl si cs) (hw : wInv R S f g p a T u kp) (he : sen si v w = none) : cal d 141 [.ref 1, .int v, .int w] (I, L, rR ru dr sr rd rl, 65, x) = some (some (.int (-(nI 1))), (I, L, rR ru dr sr rd rl, 65, x)) := by
  obtain ⟨hI, hA, hT, hO, hP, hC, hS, hQ, hR⟩ := h
  obtain ⟨hc, hw, hu, hk⟩ := hw
  rw [k141, s58f hS he, bI_i, e141_5, if_pos (show nI 0 = 0 from rfl)]
theorem o142 (h : cInv I L ru dr R S f g p a n t l u kp cl si cs) (hw : wInv R S f g p a T u kp) : ∃ I', cal d 142 [.ref 1] (I, L, rR ru dr sr rd rl, 65, x) = some (some (.int (nI si.length)), (I', L, rR ru dr sr rd rl, 65, x)) ∧ cInv I' L ru dr R S f g p a n t l u kp cl [] cs := by
  obtain ⟨hI, hA, hT, hO, hP, hC, hS, hQ, hR⟩ := h
  obtain ⟨hc, hw, hu, hk⟩ := hw
  obtain ⟨I1, e1, h1, f1⟩ := s56 (d := d) (L := L) (ru := ru) (dr := dr) (sr := sr) (rd := rd) (rl := rl) (x := x) (I := I)
  exact ⟨I1, by rw [k142, s57 hS, bI_i, e142_3, e1, bV_n, e142_7], ⟨f1.ct hI (by decide), f1.st (Or.inl rfl) hA (by decide), f1.tx hT (by decide), f1.to hO (by decide) rfl, f1.pa hP (by decide), f1.clu hC (by decide), h1, hQ, f1.cs (zRD.q hQ) hR (zRD.nn hQ (by decide))⟩⟩
/-! count, row -/
def cnt (R S p : Nat) (a : zP) (c s u l n : Nat) (v : Int32) : Int32 := if v = nI 0 then nI R else if v = nI 1 then nI S else if v = nI 2 then nI p else if v = nI 3 then nI (a 24) else if v = nI 4 then nI (a 25) else if v = nI 5 then nI (sm a 16 p) else if v = nI 6 then nI (sm a 20 p) else if v = nI 7 then nI c else if v = nI 8 then nI s else if v = nI 9 then nI u else if v = nI 10 then nI l else if v = nI 11 then nI n else -(nI 1)
theorem o153 {v : Int32} (h : cInv I L ru dr R S f g p a n t l u kp cl si cs) (hw : wInv R S f g p a T u kp) : cal d 153 [.ref 1, .int v] (I, L, rR ru dr sr rd rl, 65, x) = some (some (.int (cnt R S p a cl.length si.length u.length l.length n v)), (I, L, rR ru dr sr rd rl, 65, x)) := by
  obtain ⟨hI, hA, hT, hO, hP, hC, hS, hQ, hR⟩ := h
  obtain ⟨hc, hw, hu, hk⟩ := hw
  have hp := hw.1
  unfold cnt
  rw [k153]
  by_cases z0 : v = nI 0
  · rw [if_pos z0, if_pos z0, s14 hc hI, bI_i, e153_5]
  rw [if_neg z0, if_neg z0]
  by_cases z1 : v = nI 1
  · rw [if_pos z1, if_pos z1, s15 hc hI, bI_i, e153_9]
  rw [if_neg z1, if_neg z1]
  by_cases z2 : v = nI 2
  · rw [if_pos z2, if_pos z2, s68 (s := 14) (Or.inl rfl) hA, bI_i, e153_13]
  rw [if_neg z2, if_neg z2]
  by_cases z3 : v = nI 3
  · rw [if_pos z3, if_pos z3, s69 (s := 14) (Or.inl rfl) hA, bI_i, e153_17]
  rw [if_neg z3, if_neg z3]
  by_cases z4 : v = nI 4
  · rw [if_pos z4, if_pos z4, s70 (s := 14) (Or.inl rfl) hA, bI_i, e153_21]
  rw [if_neg z4, if_neg z4]
  by_cases z5 : v = nI 5
  · rw [if_pos z5, if_pos z5, s74f (s := 14) (Or.inl rfl) hA hp, bI_i, e153_26]
  rw [if_neg z5, if_neg z5]
  by_cases z6 : v = nI 6
  · rw [if_pos z6, if_pos z6, s74r (s := 14) (Or.inl rfl) hA hp, bI_i, e153_31]
  rw [if_neg z6, if_neg z6]
  by_cases z7 : v = nI 7
  · rw [if_pos z7, if_pos z7, s2 hC, bI_i, e153_35]
  rw [if_neg z7, if_neg z7]
  by_cases z8 : v = nI 8
  · rw [if_pos z8, if_pos z8, s57 hS, bI_i, e153_39]
  rw [if_neg z8, if_neg z8]
  by_cases z9 : v = nI 9
  · rw [if_pos z9, if_pos z9, s25 hP, bI_i, e153_43]
  rw [if_neg z9, if_neg z9]
  by_cases z10 : v = nI 10
  · rw [if_pos z10, if_pos z10, s103 hO, bI_i, e153_47]
  rw [if_neg z10, if_neg z10]
  by_cases z11 : v = nI 11
  · rw [if_pos z11, if_pos z11, s97 hT, bI_i, e153_51]
  rw [if_neg z11, if_neg z11]
theorem o154t {i : Nat} {v : Int64} (h : cInv I L ru dr R S f g p a n t l u kp cl si cs) (hw : wInv R S f g p a T u kp) (hi : l[i]? = some v) : cal d 154 [.ref 1, .int (nI i)] (I, L, rR ru dr sr rd rl, 65, x) = some (some (.long v), (I, L, rR ru dr sr rd rl, 65, x)) := by
  obtain ⟨hI, hA, hT, hO, hP, hC, hS, hQ, hR⟩ := h
  obtain ⟨hc, hw, hu, hk⟩ := hw
  rw [k154, s104t hO (List.getElem?_eq_some_iff.mp hi).1, bI_i, e154_4, if_neg (by decide), s105 hO hi, bL_l, e154_14]
theorem o154f {v : Int32} (h : cInv I L ru dr R S f g p a n t l u kp cl si cs) (hw : wInv R S f g p a T u kp) (hi : ∀ k, k < l.length → v ≠ nI k) : cal d 154 [.ref 1, .int v] (I, L, rR ru dr sr rd rl, 65, x) = some (some (.retAddr 0), (I, L, rR ru dr sr rd rl, 65, x + 1)) := by
  obtain ⟨hI, hA, hT, hO, hP, hC, hS, hQ, hR⟩ := h
  obtain ⟨hc, hw, hu, hk⟩ := hw
  rw [k154, s104f hO hi, bI_i, e154_4, if_pos (show nI 0 = 0 from rfl)]
/-! square, player -/
def sqw (S : Nat) (g : Nat → Nat) (p : Nat) (a : zP) (k w : Nat) : Nat := if w = 0 then g k else if w = 1 then own a k p 0 else aims S a k p
theorem o112t {k w : Nat} (h : cInv I L ru dr R S f g p a n t l u kp cl si cs) (hw : wInv R S f g p a T u kp) (hk' : k < S) (hw3 : w < 3) : cal d 112 [.ref 1, .int (nI k), .int (nI w)] (I, L, rR ru dr sr rd rl, 65, x) = some (some (.int (nI (sqw S g p a k w))), (I, L, rR ru dr sr rd rl, 65, x)) := by
  obtain ⟨hI, hA, hT, hO, hP, hC, hS, hQ, hR⟩ := h
  obtain ⟨hc, hw, hu, hk⟩ := hw
  rw [k112, s16t hc hI hk', bI_i, e112_4, if_neg (by decide)]
  rcases (show w = 0 ∨ w = 1 ∨ w = 2 by omega) with rfl | rfl | rfl
  · rw [if_pos rfl, s20 hc hI (by omega), bI_i, e112_16]; rfl
  · rw [if_neg (by decide), if_pos rfl, s78 (s := 14) hc hI (Or.inl rfl) hA hw hk', bI_i, e112_21]; rfl
  · rw [if_neg (by decide), if_neg (by decide), if_pos rfl, s80 (s := 14) hc hI (Or.inl rfl) hA hw (by omega), bI_i, e112_26]; rfl
theorem o112f {v w : Int32} (h : cInv I L ru dr R S f g p a n t l u kp cl si cs) (hw : wInv R S f g p a T u kp) (hv : (∀ k, k < S → v ≠ nI k) ∨ ∀ k, k < 3 → w ≠ nI k) : cal d 112 [.ref 1, .int v, .int w] (I, L, rR ru dr sr rd rl, 65, x) = some (some (.retAddr 0), (I, L, rR ru dr sr rd rl, 65, x + 1)) := by
  obtain ⟨hI, hA, hT, hO, hP, hC, hS, hQ, hR⟩ := h
  obtain ⟨hc, hw, hu, hk⟩ := hw
  by_cases z : ∃ k, k < S ∧ v = nI k
  · obtain ⟨k, hk1, rfl⟩ := z
    rcases hv with hv | hv
    · exact absurd rfl (hv k hk1)
    · rw [k112, s16t hc hI hk1, bI_i, e112_4, if_neg (by decide), if_neg (hv 0 (by decide)), if_neg (hv 1 (by decide)), if_neg (hv 2 (by decide))]
  · rw [k112, s16f hc hI (fun k h1 h2 => z ⟨k, h1, h2⟩), bI_i, e112_4, if_pos (show nI 0 = 0 from rfl)]
def plw (S : Nat) (g : Nat → Nat) (a : zP) (cs : zC) (q w : Nat) : Int32 := if w = 0 then nI (a (4 + q)) else if w = 1 then nI (a q) else if w = 2 then nI (a (8 + q)) else if w = 3 then nI (gol S a q) else if w = 4 then nI (a (12 + q)) else if w = 5 then nI (a (16 + q)) else if w = 6 then nI (a (20 + q)) else nI 10 + ofv (fun c => nI (th S g a q c)) cs
theorem o113t {q w : Nat} (h : cInv I L ru dr R S f g p a n t l u kp cl si cs) (hw : wInv R S f g p a T u kp) (hq : q < p) (hw8 : w < 8) : ∃ I', cal d 113 [.ref 1, .int (nI q), .int (nI w)] (I, L, rR ru dr sr rd rl, 65, x) = some (some (.int (plw S g a cs q w)), (I', L, rR ru dr sr rd rl, 65, x)) ∧ cInv I' L ru dr R S f g p a n t l u kp cl si cs := by
  obtain ⟨hI, hA, hT, hO, hP, hC, hS, hQ, hR⟩ := h
  obtain ⟨hc, hw, hu, hk⟩ := hw
  have hp := hw.1
  have e0 := k113 (d := d) (v1 := nI q) (v2 := nI w) (L := L) (ru := ru) (dr := dr) (sr := sr) (rd := rd) (rl := rl) (x := x) (I := I)
  rw [s71t (Or.inl rfl) hA hp hq, bI_i, e113_4 (zRD.q hQ), if_neg (by decide)] at e0
  by_cases z : w = 7
  · subst z
    obtain ⟨I1, e1, f1⟩ := s51 (d := d) (L := L) (ru := ru) (dr := dr) (sr := sr) (rd := rd) (rl := rl) (x := x) (s := 14) hc hI (Or.inl rfl) hA hw (m := q) (zRD.q hQ) (by omega) hR
    have f2 : fW [] I I1 := f1.W (zRD.q hQ)
    refine ⟨I1, ?_, ⟨f2.ct hI (by decide), f2.st (Or.inl rfl) hA (by decide), f2.tx hT (by decide), f2.to hO (by decide) rfl, f2.pa hP (by decide), f2.clu hC (by decide), f2.sig hS (by decide), hQ, f2.cs (zRD.q hQ) hR (zRD.nn hQ (by decide))⟩⟩
    rw [e0, if_neg (by decide), if_neg (by decide), if_neg (by decide), if_neg (by decide), if_neg (by decide), if_neg (by decide), if_neg (by decide), if_pos rfl, e1, bI_i, e113_60]
    rfl
  · refine ⟨I, ?_, ⟨hI, hA, hT, hO, hP, hC, hS, hQ, hR⟩⟩
    rw [e0]
    rcases (show w = 0 ∨ w = 1 ∨ w = 2 ∨ w = 3 ∨ w = 4 ∨ w = 5 ∨ w = 6 by omega) with rfl | rfl | rfl | rfl | rfl | rfl | rfl
    · rw [if_pos rfl, s72 (s := 14) (Or.inl rfl) hA (by omega), bI_i, e113_17, cv_3 (by omega)]; rfl
    · rw [if_neg (by decide), if_pos rfl, s72 (s := 14) (Or.inl rfl) hA (by omega), bI_i, e113_23, cv_7 (by omega)]; rfl
    · rw [if_neg (by decide), if_neg (by decide), if_pos rfl, s72 (s := 14) (Or.inl rfl) hA (by omega), bI_i, e113_29, cv_11]; rfl
    · rw [if_neg (by decide), if_neg (by decide), if_neg (by decide), if_pos rfl, s79 (s := 14) hc hI (Or.inl rfl) hA hw (by omega), bI_i, e113_34]; rfl
    · rw [if_neg (by decide), if_neg (by decide), if_neg (by decide), if_neg (by decide), if_pos rfl, s72 (s := 14) (Or.inl rfl) hA (by omega), bI_i, e113_40, cv_15]; rfl
    · rw [if_neg (by decide), if_neg (by decide), if_neg (by decide), if_neg (by decide), if_neg (by decide), if_pos rfl, s72 (s := 14) (Or.inl rfl) hA (by omega), bI_i, e113_46, cv_19]; rfl
    · rw [if_neg (by decide), if_neg (by decide), if_neg (by decide), if_neg (by decide), if_neg (by decide), if_neg (by decide), if_pos rfl, s72 (s := 14) (Or.inl rfl) hA (by omega), bI_i, e113_52, cv_23]; rfl
theorem o113f {v w : Int32} (h : cInv I L ru dr R S f g p a n t l u kp cl si cs) (hw : wInv R S f g p a T u kp) (hv : (∀ k, k < p → v ≠ nI k) ∨ ∀ k, k < 8 → w ≠ nI k) : cal d 113 [.ref 1, .int v, .int w] (I, L, rR ru dr sr rd rl, 65, x) = some (some (.retAddr 0), (I, L, rR ru dr sr rd rl, 65, x + 1)) := by
  obtain ⟨hI, hA, hT, hO, hP, hC, hS, hQ, hR⟩ := h
  obtain ⟨hc, hw, hu, hk⟩ := hw
  have hp := hw.1
  by_cases z : ∃ k, k < p ∧ v = nI k
  · obtain ⟨k, hk1, rfl⟩ := z
    rcases hv with hv | hv
    · exact absurd rfl (hv k hk1)
    · rw [k113, s71t (Or.inl rfl) hA hp hk1, bI_i, e113_4 (zRD.q hQ), if_neg (by decide), if_neg (hv 0 (by decide)), if_neg (hv 1 (by decide)), if_neg (hv 2 (by decide)), if_neg (hv 3 (by decide)), if_neg (hv 4 (by decide)), if_neg (hv 5 (by decide)), if_neg (hv 6 (by decide)), if_neg (hv 7 (by decide))]
  · rw [k113, s71f (Or.inl rfl) hA hp (fun k h1 h2 => z ⟨k, h1, h2⟩), bI_i, e113_4 (zRD.q hQ), if_pos (show nI 0 = 0 from rfl)]

end
