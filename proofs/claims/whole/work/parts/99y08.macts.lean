section
variable {I : Nat → Nat → Int32} {L : Nat → Nat → Int64} {ru dr : Nat} {sr : Nat → Option Nat} {rd : Option Nat} {rl x : Nat}
variable {d R S p n T rn : Nat} {f g rt : Nat → Nat} {a : zP} {t : Nat → Nat} {l : List Int64} {u : List zP} {kp : Nat → Option zP} {cl : List (Nat × Nat)} {si : List (Nat × Int32)} {cs : zC}

theorem n294 {v : Int32} (h : mInv I L rl T R S f g p a n t l u kp cl si rn rt) (hw : wInv R S f g p a T u kp) : ∃ I', cal d 294 [.ref 36, .int v] (I, L, rR ru dr sr rd rl, 65, x) = some (some (.int (cnt R S p a cl.length si.length u.length l.length n v)), (I', L, rR ru dr sr rd rl, 65, x)) ∧ mInv I' L rl T R S f g p a n t l u kp cl si rn rt := by
  obtain ⟨hI, hP, hA, hT, hO, hU, hK, hC, hS, hl, hR⟩ := h
  obtain ⟨hc, hw, hu, hk⟩ := hw
  have f0 : fM [] [] I (zup I 36 10 (nI 0)) := f10
  have hp := hw.1
  have hA0 : mSt (zup I 36 10 (nI 0)) 37 a := f0.st hA (by decide) rfl
  have e2 : (zup I 36 10 (nI 0)) 36 2 = nI R := by rw [zup_v, if_neg (by decide)]; exact hI.1
  have e3 : (zup I 36 10 (nI 0)) 36 3 = nI S := by rw [zup_v, if_neg (by decide)]; exact hI.2.1
  have e1 : (zup I 36 10 (nI 0)) 36 1 = nI p := by rw [zup_v, if_neg (by decide)]; exact hP
  have e35 : (zup I 36 10 (nI 0)) 36 35 = nI cl.length := by rw [zup_v, if_neg (by decide)]; exact hC.1
  have e38 : (zup I 36 10 (nI 0)) 36 38 = nI si.length := by rw [zup_v, if_neg (by decide)]; exact hS.1
  have e27 : (zup I 36 10 (nI 0)) 36 27 = nI u.length := by rw [zup_v, if_neg (by decide)]; exact hU.1
  have e9 : (zup I 36 10 (nI 0)) 36 9 = nI l.length := by rw [zup_v, if_neg (by decide)]; exact hO.1
  have e7 : (zup I 36 10 (nI 0)) 36 7 = nI n := by rw [zup_v, if_neg (by decide)]; exact hT.1
  refine ⟨_, ?_, ⟨f0.ct hI (by decide), f0.fp hP (by decide), f0.st hA (by decide) rfl, f0.tx hT (by decide), f0.to hO (by decide) rfl, f0.un hU (by decide), f0.kp' hK (by decide), f0.clu hC (by decide), f0.sig hS (by decide), hl, f0.rr hl hR (by decide)⟩⟩
  unfold cnt
  rw [k294]
  by_cases z0 : v = nI 0
  · rw [if_pos z0, if_pos z0, e2]
  rw [if_neg z0, if_neg z0]
  by_cases z1 : v = nI 1
  · rw [if_pos z1, if_pos z1, e3]
  rw [if_neg z1, if_neg z1]
  by_cases z2 : v = nI 2
  · rw [if_pos z2, if_pos z2, e1]
  rw [if_neg z2, if_neg z2]
  by_cases z3 : v = nI 3
  · rw [if_pos z3, if_pos z3, if_pos (ak_37 (by decide)), nI_clamp (by omega), hA 24 (by omega)]
  rw [if_neg z3, if_neg z3]
  by_cases z4 : v = nI 4
  · rw [if_pos z4, if_pos z4, if_pos (ak_37 (by decide)), nI_clamp (by omega), hA 25 (by omega)]
  rw [if_neg z4, if_neg z4]
  by_cases z5 : v = nI 5
  · rw [if_pos z5, if_pos z5, m213 (Or.inl rfl) hA0 (by decide) hp (fun o h1 h2 => (hw.2.2.1 o h2 h1).2.2.2.2.1), bI_i, e294_28]
  rw [if_neg z5, if_neg z5]
  by_cases z6 : v = nI 6
  · rw [if_pos z6, if_pos z6, m213 (Or.inl rfl) hA0 (by decide) hp (fun o h1 h2 => (hw.2.2.1 o h2 h1).2.2.2.2.2), bI_i, e294_33]
  rw [if_neg z6, if_neg z6]
  by_cases z7 : v = nI 7
  · rw [if_pos z7, if_pos z7, e35]
  rw [if_neg z7, if_neg z7]
  by_cases z8 : v = nI 8
  · rw [if_pos z8, if_pos z8, e38]
  rw [if_neg z8, if_neg z8]
  by_cases z9 : v = nI 9
  · rw [if_pos z9, if_pos z9, e27]
  rw [if_neg z9, if_neg z9]
  by_cases z10 : v = nI 10
  · rw [if_pos z10, if_pos z10, e9]
  rw [if_neg z10, if_neg z10]
  by_cases z11 : v = nI 11
  · rw [if_pos z11, if_pos z11, e7]
  rw [if_neg z11, if_neg z11]
theorem n295t {i : Nat} {v : Int64} (h : mInv I L rl T R S f g p a n t l u kp cl si rn rt) (hw : wInv R S f g p a T u kp) (hi : l[i]? = some v) : ∃ I', cal d 295 [.ref 36, .int (nI i)] (I, L, rR ru dr sr rd rl, 65, x) = some (some (.long v), (I', L, rR ru dr sr rd rl, 65, x)) ∧ I' 36 10 = nI 0 ∧ mInv I' L rl T R S f g p a n t l u kp cl si rn rt := by
  obtain ⟨hI, hP, hA, hT, hO, hU, hK, hC, hS, hl, hR⟩ := h
  obtain ⟨hc, hw, hu, hk⟩ := hw
  have f0 : fM [] [] I (zup I 36 10 (nI 0)) := f10
  have h8 := hO.2.1
  have hil := (List.getElem?_eq_some_iff.mp hi).1
  have e9 : (zup I 36 10 (nI 0)) 36 9 = nI l.length := by rw [zup_v, if_neg (by decide)]; exact hO.1
  refine ⟨_, ?_, by rw [zup_v, if_pos rfl], ⟨f0.ct hI (by decide), f0.fp hP (by decide), f0.st hA (by decide) rfl, f0.tx hT (by decide), f0.to hO (by decide) rfl, f0.un hU (by decide), f0.kp' hK (by decide), f0.clu hC (by decide), f0.sig hS (by decide), hl, f0.rr hl hR (by decide)⟩⟩
  rw [k295, e9, m179r (m := l.length) (by omega) rfl, bI_i, inr_k (by omega) hil, e295_10, if_neg (show ¬ nI (if (some i).isSome = true then 1 else 0) = 0 by show ¬ nI 1 = 0; decide), if_pos (ak_41 (by omega)), nI_clamp (by omega), hO.2.2 i v hi]
theorem n295f {v : Int32} (h : mInv I L rl T R S f g p a n t l u kp cl si rn rt) (hw : wInv R S f g p a T u kp) (hi : ∀ k, k < l.length → v ≠ nI k) : ∃ I' z, cal d 295 [.ref 36, .int v] (I, L, rR ru dr sr rd rl, 65, x) = some (some (.long z), (I', L, rR ru dr sr rd rl, 65, x)) ∧ I' 36 10 = nI 1 ∧ mInv I' L rl T R S f g p a n t l u kp cl si rn rt := by
  obtain ⟨hI, hP, hA, hT, hO, hU, hK, hC, hS, hl, hR⟩ := h
  obtain ⟨hc, hw, hu, hk⟩ := hw
  have f0 : fM [] [] I (zup I 36 10 (nI 0)) := f10
  have h8 := hO.2.1
  have e9 : (zup I 36 10 (nI 0)) 36 9 = nI l.length := by rw [zup_v, if_neg (by decide)]; exact hO.1
  have ez : inr l.length v = none := by
    cases z : inr l.length v with
    | none => rfl
    | some k =>
      obtain ⟨h1, h2⟩ := inr_s (by omega) z
      exact absurd h2 (hi k h1)
  have f1 : fM [] [] I (zup (zup I 36 10 (nI 0)) 36 10 (nI 1)) := f0.tr (fM.fld (Or.inr rfl))
  refine ⟨_, (nI 0).toInt64, ?_, by rw [zup_v, if_pos rfl], ⟨f1.ct hI (by decide), f1.fp hP (by decide), f1.st hA (by decide) rfl, f1.tx hT (by decide), f1.to hO (by decide) rfl, f1.un hU (by decide), f1.kp' hK (by decide), f1.clu hC (by decide), f1.sig hS (by decide), hl, f1.rr hl hR (by decide)⟩⟩
  rw [k295, e9, m179r (m := l.length) (by omega) rfl, bI_i, ez, e295_10, if_pos (show nI (if (none : Option Nat).isSome = true then 1 else 0) = 0 from rfl), k181, bI_i, e295_18]
/-! square, player -/
theorem l211 {s : Nat} {v2 : Int32} (hct : zCt R S f g) (hI : mCt I R S f g) (hP : I 36 1 = nI p) (hA : mSt I 37 a) (hw : zWf p S T a) (hs : s < S) : ∀ n q, q + n = p → res d 211 33 [.ref 36, .int (nI s), .int v2, .int (nI (orl (fun q => if gol S a q = s then 2 ^ q else 0) q)), .int (nI q)] [] (I, L, rR ru dr sr rd rl, 65, x) = some (some (.int (nI (aims S a s p))), (I, L, rR ru dr sr rd rl, 65, x))
  | 0, q, h => by
    have hp := hw.1
    rw [l211_33, hP, if_pos (by rw [nI_leI (by omega) (by omega)]; omega), show q = p by omega]
    rfl
  | n + 1, q, h => by
    have hp := hw.1
    have hS := hct.S16
    have hg := gol_le hw (q := q) (by omega)
    have ih := l211 (v2 := v2) hct hI hP hA hw hs n (q + 1) (by omega)
    rw [orl] at ih
    rw [l211_33, hP, if_neg (by rw [nI_leI (by omega) (by omega)]; omega), m208w hct (Or.inl rfl) hP hI hA hw (by omega), bI_i, e211_43]
    by_cases z : gol S a q = s
    · rw [if_pos z] at ih
      rw [if_pos (by rw [z]), zshl1 (by omega), fa_or, nI_add]
      exact ih
    · rw [if_neg z] at ih
      rw [if_neg (by rw [nI_eq (by omega) (by omega)]; exact z), fa_or, nI_add]
      exact ih
theorem n211t {k w : Nat} (h : mInv I L rl T R S f g p a n t l u kp cl si rn rt) (hw : wInv R S f g p a T u kp) (hk' : k < S) (hw3 : w < 3) : ∃ I', cal d 211 [.ref 36, .int (nI k), .int (nI w)] (I, L, rR ru dr sr rd rl, 65, x) = some (some (.int (nI (sqw S g p a k w))), (I', L, rR ru dr sr rd rl, 65, x)) ∧ I' 36 10 = nI 0 ∧ mInv I' L rl T R S f g p a n t l u kp cl si rn rt := by
  obtain ⟨hI, hP, hA, hT, hO, hU, hK, hC, hS, hl, hR⟩ := h
  obtain ⟨hc, hw, hu, hk⟩ := hw
  have f0 : fM [] [] I (zup I 36 10 (nI 0)) := f10
  have hS16 := hc.S16
  have hI0 := f0.ct hI (by decide)
  have hP0 := f0.fp hP (by decide)
  have hA0 : mSt (zup I 36 10 (nI 0)) 37 a := f0.st hA (by decide) rfl
  refine ⟨_, ?_, by rw [zup_v, if_pos rfl], ⟨f0.ct hI (by decide), f0.fp hP (by decide), f0.st hA (by decide) rfl, f0.tx hT (by decide), f0.to hO (by decide) rfl, f0.un hU (by decide), f0.kp' hK (by decide), f0.clu hC (by decide), f0.sig hS (by decide), hl, f0.rr hl hR (by decide)⟩⟩
  rw [k211, m184 hI0.2.1 hS16, bI_i, inr_k (by omega) hk', e211_6, if_neg (show ¬ nI (if (some k).isSome = true then 1 else 0) = 0 by show ¬ nI 1 = 0; decide), m179z (by decide), bI_i, inr_k (by decide) (show w < 2 + 1 by omega), e211_11, if_neg (show ¬ nI (if (some w).isSome = true then 1 else 0) = 0 by show ¬ nI 1 = 0; decide)]
  rcases (show w = 0 ∨ w = 1 ∨ w = 2 by omega) with rfl | rfl | rfl
  · rw [if_pos (show nI 0 = 0 from rfl), if_pos (ak_38 (by omega)), nI_clamp (by omega), hI0.2.2.1 k (by omega)]; rfl
  · rw [if_neg (by decide), if_pos rfl, m210 hS16 hP0 hA0 hw hk', bI_i, e211_28]; rfl
  · rw [if_neg (by decide), if_neg (by decide)]
    exact l211 hc hI0 hP0 hA0 hw hk' p 0 (by omega)
theorem n211f {v w : Int32} (h : mInv I L rl T R S f g p a n t l u kp cl si rn rt) (hw : wInv R S f g p a T u kp) (hv : (∀ k, k < S → v ≠ nI k) ∨ ∀ k, k < 3 → w ≠ nI k) : ∃ I' z, cal d 211 [.ref 36, .int v, .int w] (I, L, rR ru dr sr rd rl, 65, x) = some (some (.int z), (I', L, rR ru dr sr rd rl, 65, x)) ∧ I' 36 10 = nI 1 ∧ mInv I' L rl T R S f g p a n t l u kp cl si rn rt := by
  obtain ⟨hI, hP, hA, hT, hO, hU, hK, hC, hS, hl, hR⟩ := h
  obtain ⟨hc, hw, hu, hk⟩ := hw
  have f0 : fM [] [] I (zup I 36 10 (nI 0)) := f10
  have hS16 := hc.S16
  have hI0 := f0.ct hI (by decide)
  have f1 : fM [] [] I (zup (zup I 36 10 (nI 0)) 36 10 (nI 1)) := f0.tr (fM.fld (Or.inr rfl))
  refine ⟨_, nI 0, ?_, by rw [zup_v, if_pos rfl], ⟨f1.ct hI (by decide), f1.fp hP (by decide), f1.st hA (by decide) rfl, f1.tx hT (by decide), f1.to hO (by decide) rfl, f1.un hU (by decide), f1.kp' hK (by decide), f1.clu hC (by decide), f1.sig hS (by decide), hl, f1.rr hl hR (by decide)⟩⟩
  rw [k211, m184 hI0.2.1 hS16, bI_i, e211_6]
  cases z : inr S v with
  | none => rw [if_pos (show nI (if (none : Option Nat).isSome = true then 1 else 0) = 0 from rfl), e211_12, k181, bI_i, e211_14]
  | some k =>
    obtain ⟨h1, h2⟩ := inr_s (by omega) z
    have hv2 := hv.resolve_left (fun q => q k h1 h2)
    have ez : inr (2 + 1) w = none := by
      cases y : inr (2 + 1) w with
      | none => rfl
      | some j =>
        obtain ⟨h3, h4⟩ := inr_s (by decide) y
        exact absurd h4 (hv2 j h3)
    rw [if_neg (show ¬ nI (if (some k).isSome = true then 1 else 0) = 0 by show ¬ nI 1 = 0; decide), m179z (by decide), bI_i, ez, e211_11, if_pos (show nI (if (none : Option Nat).isSome = true then 1 else 0) = 0 from rfl), e211_12, k181, bI_i, e211_14]
theorem n212t {q w : Nat} (h : mInv I L rl T R S f g p a n t l u kp cl si rn rt) (hw : wInv R S f g p a T u kp) (hd : 41 ≤ d) (hcs : (prs rt rn).2 = some cs) (hq : q < p) (hw8 : w < 8) : ∃ I' rd', cal d 212 [.ref 36, .int (nI q), .int (nI w)] (I, L, rR ru dr sr rd rl, 65, x) = some (some (.int (plw S g a cs q w)), (I', L, rR ru dr sr rd' rl, 65, x)) ∧ I' 36 10 = nI 0 ∧ mInv I' L rl T R S f g p a n t l u kp cl si rn rt := by
  obtain ⟨hI, hP, hA, hT, hO, hU, hK, hC, hS, hl, hR⟩ := h
  obtain ⟨hc, hw, hu, hk⟩ := hw
  have f0 : fM [] [] I (zup I 36 10 (nI 0)) := f10
  have hp := hw.1
  have hI0 := f0.ct hI (by decide)
  have hP0 := f0.fp hP (by decide)
  have hA0 : mSt (zup I 36 10 (nI 0)) 37 a := f0.st hA (by decide) rfl
  have e0 := k212 (d := d) (v1 := nI q) (v2 := nI w) (L := L) (ru := ru) (dr := dr) (sr := sr) (rd := rd) (rl := rl) (x := x) (I := I)
  rw [m183 hP0 hp, bI_i, inr_k (by omega) hq, e212_6, if_neg (show ¬ nI (if (some q).isSome = true then 1 else 0) = 0 by show ¬ nI 1 = 0; decide), m179z (by decide), bI_i, inr_k (by decide) (show w < 7 + 1 by omega), e212_11, if_neg (show ¬ nI (if (some w).isSome = true then 1 else 0) = 0 by show ¬ nI 1 = 0; decide)] at e0
  by_cases z : w = 7
  · subst z
    obtain ⟨I1, rd1, e1, f1, k10⟩ : ∃ I' rd', cal d 209 [.ref 36, .ref 37, .int (nI q)] (zup I 36 10 (nI 0), L, rR ru dr sr rd rl, 65, x) = some (some (.int (ofv (fun c => nI (th S g a q c)) cs)), (I', L, rR ru dr sr rd' rl, 65, x)) ∧ fM [] [] (zup I 36 10 (nI 0)) I' ∧ I' 36 10 = nI 0 := by
      obtain ⟨I1, rd1, e1, f1, f10'⟩ := m209 (d := d) (L := L) (ru := ru) (dr := dr) (sr := sr) (rd := rd) (rl := rl) (x := x) (q := q) hd (Or.inl hl) hc hI0 (Or.inl rfl) hP0 hA0 hw (by omega) (f0.rr hl hR (by decide)) hcs
      exact ⟨I1, rd1, e1, f1, by rw [f10', zup_v, if_pos rfl]⟩
    have f2 : fM [] [] I I1 := f0.tr f1
    refine ⟨I1, rd1, ?_, k10, ⟨f2.ct hI (by decide), f2.fp hP (by decide), f2.st hA (by decide) rfl, f2.tx hT (by decide), f2.to hO (by decide) rfl, f2.un hU (by decide), f2.kp' hK (by decide), f2.clu hC (by decide), f2.sig hS (by decide), hl, f2.rr hl hR (by decide)⟩⟩
    rw [e0, if_neg (by decide), if_neg (by decide), if_neg (by decide), if_neg (by decide), if_neg (by decide), if_neg (by decide), if_neg (by decide), e1, bI_i, e212_69]
    rfl
  · refine ⟨_, rd, ?_, by rw [zup_v, if_pos rfl], ⟨f0.ct hI (by decide), f0.fp hP (by decide), f0.st hA (by decide) rfl, f0.tx hT (by decide), f0.to hO (by decide) rfl, f0.un hU (by decide), f0.kp' hK (by decide), f0.clu hC (by decide), f0.sig hS (by decide), hl, f0.rr hl hR (by decide)⟩⟩
    rw [e0]
    rcases (show w = 0 ∨ w = 1 ∨ w = 2 ∨ w = 3 ∨ w = 4 ∨ w = 5 ∨ w = 6 by omega) with rfl | rfl | rfl | rfl | rfl | rfl | rfl
    · rw [if_pos rfl, nI_add, if_pos (ak_37 (by omega)), nI_clamp (by omega), hA0 _ (by omega)]; rfl
    · rw [if_neg (by decide), if_pos rfl, if_pos (ak_37 (by omega)), nI_clamp (by omega), hA0 _ (by omega)]; rfl
    · rw [if_neg (by decide), if_neg (by decide), if_pos rfl, nI_add, if_pos (ak_37 (by omega)), nI_clamp (by omega), hA0 _ (by omega)]; rfl
    · rw [if_neg (by decide), if_neg (by decide), if_neg (by decide), if_pos rfl, m208w hc (Or.inl rfl) hP0 hI0 hA0 hw (by omega), bI_i, e212_41]; rfl
    · rw [if_neg (by decide), if_neg (by decide), if_neg (by decide), if_neg (by decide), if_pos rfl, nI_add, if_pos (ak_37 (by omega)), nI_clamp (by omega), hA0 _ (by omega)]; rfl
    · rw [if_neg (by decide), if_neg (by decide), if_neg (by decide), if_neg (by decide), if_neg (by decide), if_pos rfl, nI_add, if_pos (ak_37 (by omega)), nI_clamp (by omega), hA0 _ (by omega)]; rfl
    · rw [if_neg (by decide), if_neg (by decide), if_neg (by decide), if_neg (by decide), if_neg (by decide), if_neg (by decide), if_pos rfl, nI_add, if_pos (ak_37 (by omega)), nI_clamp (by omega), hA0 _ (by omega)]; rfl
theorem n212f {v w : Int32} (h : mInv I L rl T R S f g p a n t l u kp cl si rn rt) (hw : wInv R S f g p a T u kp) (hv : (∀ k, k < p → v ≠ nI k) ∨ ∀ k, k < 8 → w ≠ nI k) : ∃ I' z, cal d 212 [.ref 36, .int v, .int w] (I, L, rR ru dr sr rd rl, 65, x) = some (some (.int z), (I', L, rR ru dr sr rd rl, 65, x)) ∧ I' 36 10 = nI 1 ∧ mInv I' L rl T R S f g p a n t l u kp cl si rn rt := by
  obtain ⟨hI, hP, hA, hT, hO, hU, hK, hC, hS, hl, hR⟩ := h
  obtain ⟨hc, hw, hu, hk⟩ := hw
  have f0 : fM [] [] I (zup I 36 10 (nI 0)) := f10
  have hp := hw.1
  have hP0 := f0.fp hP (by decide)
  have f1 : fM [] [] I (zup (zup I 36 10 (nI 0)) 36 10 (nI 1)) := f0.tr (fM.fld (Or.inr rfl))
  refine ⟨_, nI 0, ?_, by rw [zup_v, if_pos rfl], ⟨f1.ct hI (by decide), f1.fp hP (by decide), f1.st hA (by decide) rfl, f1.tx hT (by decide), f1.to hO (by decide) rfl, f1.un hU (by decide), f1.kp' hK (by decide), f1.clu hC (by decide), f1.sig hS (by decide), hl, f1.rr hl hR (by decide)⟩⟩
  rw [k212, m183 hP0 hp, bI_i, e212_6]
  cases z : inr p v with
  | none => rw [if_pos (show nI (if (none : Option Nat).isSome = true then 1 else 0) = 0 from rfl), e212_12, k181, bI_i, e212_14]
  | some k =>
    obtain ⟨h1, h2⟩ := inr_s (by omega) z
    have hv2 := hv.resolve_left (fun q => q k h1 h2)
    have ez : inr (7 + 1) w = none := by
      cases y : inr (7 + 1) w with
      | none => rfl
      | some j =>
        obtain ⟨h3, h4⟩ := inr_s (by decide) y
        exact absurd h4 (hv2 j h3)
    rw [if_neg (show ¬ nI (if (some k).isSome = true then 1 else 0) = 0 by show ¬ nI 1 = 0; decide), m179z (by decide), bI_i, ez, e212_11, if_pos (show nI (if (none : Option Nat).isSome = true then 1 else 0) = 0 from rfl), e212_12, k181, bI_i, e212_14]
/-! acts: whether they are refused -/
def rfs (r : aR) : Int32 := match r.2 with
  | none => r.1
  | some _ => nI 0
theorem m229 {v w : Int32} (hct : zCt R S f g) (hI : mCt I R S f g) (hP : I 36 1 = nI p) (hA : mSt I 37 a) (hw : zWf p S T a) : cal d 229 [.ref 36, .int v, .int w] (I, L, rR ru dr sr rd rl, 65, x) = some (some (.int (rfs (tkA S p a v w))), (I, L, rR ru dr sr rd rl, 65, x)) := by
  have hp := hw.1
  have hS := hct.S16
  unfold tkA
  rw [k229, m183 hP hp, bI_i, e229_3]
  cases z : inr p v with
  | none => rw [if_pos (show nI (if (none : Option Nat).isSome = true then 1 else 0) = 0 from rfl)]; rfl
  | some q =>
    obtain ⟨hq, rfl⟩ := inr_s (by omega) z
    rw [if_neg (show ¬ nI (if (some q).isSome = true then 1 else 0) = 0 by show ¬ nI 1 = 0; decide), m184 hI.2.1 hS, bI_i, e229_7]
    cases y : inr S w with
    | none => rw [if_pos (show nI (if (none : Option Nat).isSome = true then 1 else 0) = 0 from rfl)]; rfl
    | some s =>
      obtain ⟨hs, rfl⟩ := inr_s (by omega) y
      have hb := hw.2.1 q (by omega)
      have ho := own_le a s p 0 (by omega)
      rw [if_neg (show ¬ nI (if (some s).isSome = true then 1 else 0) = 0 by show ¬ nI 1 = 0; decide), nI_add, if_pos (ak_37 (by omega)), nI_clamp (by omega), hA (20 + q) (by omega)]
      dsimp only
      by_cases x' : a (20 + q) = 0
      · rw [if_pos ((nI_z (by omega)).mpr x'), if_pos x']; rfl
      · rw [if_neg (by rw [nI_z (by omega)]; exact x'), m210 hS hP hA hw hs, bI_i, e229_22, if_neg x']
        by_cases u' : own a s p 0 = 4
        · rw [if_pos (by rw [u']), if_pos u']; rfl
        · rw [if_neg (by rw [nI_eq (by omega) (by omega)]; exact u'), if_neg u']; rfl
theorem m230 {v w : Int32} {b : zP} (hS : S ≤ 16) (hA : mSt I 37 a) (hw : zWf p S T a) (hb : (tkA S p a v w).2 = some b) : ∃ I', cal d 230 [.ref 36, .int v, .int w] (I, L, rR ru dr sr rd rl, 65, x) = some (some (.int (tkA S p a v w).1), (I', L, rR ru dr sr rd rl, 65, x)) ∧ mSt I' 37 b ∧ fM [37] [] I I' := by
  have hp := hw.1
  unfold tkA at hb ⊢
  cases z : inr p v with
  | none => rw [z] at hb; cases hb
  | some q =>
    cases y : inr S w with
    | none => rw [z, y] at hb; cases hb
    | some s =>
      rw [z, y] at hb
      obtain ⟨hq, rfl⟩ := inr_s (by omega) z
      obtain ⟨hs, rfl⟩ := inr_s (by omega) y
      dsimp only at hb ⊢
      by_cases x' : a (20 + q) = 0
      · rw [if_pos x'] at hb; cases hb
      · rw [if_neg x'] at hb ⊢
        by_cases u' : own a s p 0 = 4
        · rw [if_pos u'] at hb ⊢
          cases hb
          have h2 := hw.2.1 q (by omega)
          have hA1 := hA.put (k := 20 + q) (v := a (20 + q) - 1)
          have hA2 := hA1.put (k := 12 + q) (v := a (12 + q) ||| 2 ^ s)
          have hh : a (12 + q) ||| 2 ^ s < 65536 := p16 hS (zor_lt h2.2.2.2.1 (Nat.pow_lt_pow_right (by decide) hs))
          have e12 : (zup I 37 (20 + q) (nI (a (20 + q) - 1))) 37 (12 + q) = nI (a (12 + q)) := by
            have := hA1 (12 + q) (by omega)
            rw [zset_ne _ _ (by omega)] at this
            exact this
          have e12' : (zup (zup I 37 (20 + q) (nI (a (20 + q) - 1))) 37 (12 + q) (nI (a (12 + q) ||| 2 ^ s))) 37 (12 + q) = nI (a (12 + q) ||| 2 ^ s) := by rw [zup_v, if_pos rfl]
          refine ⟨_, ?_, hA2, (fM.up (Or.inl (by decide)) (by decide)).tr (fM.up (Or.inl (by decide)) (by decide))⟩
          rw [k230, nI_add, nI_add, if_pos (ak_37 (by omega)), if_pos (ak_37 (by omega)), if_pos (ak_37 (by omega)), if_pos (ak_37 (by omega)), if_pos (ak_37 (by omega)), nI_clamp (by omega), nI_clamp (by omega), hA (20 + q) (by omega), zsub (by omega), e12, zshl1 (by omega), fa_or, e12', s296 hh, bI_i, e230_29]
        · rw [if_neg u'] at hb; cases hb
theorem m232 {v w : Int32} (hct : zCt R S f g) (hI : mCt I R S f g) (hP : I 36 1 = nI p) (hA : mSt I 37 a) (hw : zWf p S T a) : cal d 232 [.ref 36, .int v, .int w] (I, L, rR ru dr sr rd rl, 65, x) = some (some (.int (rfs (lvA S p a v w))), (I, L, rR ru dr sr rd rl, 65, x)) := by
  have hp := hw.1
  have hS := hct.S16
  unfold lvA
  rw [k232, m183 hP hp, bI_i, e232_3]
  cases z : inr p v with
  | none => rw [if_pos (show nI (if (none : Option Nat).isSome = true then 1 else 0) = 0 from rfl)]; rfl
  | some q =>
    obtain ⟨hq, rfl⟩ := inr_s (by omega) z
    rw [if_neg (show ¬ nI (if (some q).isSome = true then 1 else 0) = 0 by show ¬ nI 1 = 0; decide), m184 hI.2.1 hS, bI_i, e232_7]
    cases y : inr S w with
    | none => rw [if_pos (show nI (if (none : Option Nat).isSome = true then 1 else 0) = 0 from rfl)]; rfl
    | some s =>
      obtain ⟨hs, rfl⟩ := inr_s (by omega) y
      have hb := p16 hS (hw.2.1 q (by omega)).2.2.2.1
      rw [if_neg (show ¬ nI (if (some s).isSome = true then 1 else 0) = 0 by show ¬ nI 1 = 0; decide), nI_add, if_pos (ak_37 (by omega)), nI_clamp (by omega), hA (12 + q) (by omega), m180 (by omega) (by omega), bI_i, e232_18]
      dsimp only
      cases x' : (a (12 + q)).testBit s with
      | true => rw [if_neg (show ¬ nI (if true = true then 1 else 0) = 0 by decide), if_pos rfl]; rfl
      | false => rw [if_pos (show nI (if false = true then 1 else 0) = 0 from rfl), if_neg Bool.false_ne_true]; rfl
theorem m233 {v w : Int32} {b : zP} (hS : S ≤ 16) (hA : mSt I 37 a) (hw : zWf p S T a) (hb : (lvA S p a v w).2 = some b) : ∃ I', cal d 233 [.ref 36, .int v, .int w] (I, L, rR ru dr sr rd rl, 65, x) = some (some (.int (lvA S p a v w).1), (I', L, rR ru dr sr rd rl, 65, x)) ∧ mSt I' 37 b ∧ fM [37] [] I I' := by
  have hp := hw.1
  unfold lvA at hb ⊢
  cases z : inr p v with
  | none => rw [z] at hb; cases hb
  | some q =>
    cases y : inr S w with
    | none => rw [z, y] at hb; cases hb
    | some s =>
      rw [z, y] at hb
      obtain ⟨hq, rfl⟩ := inr_s (by omega) z
      obtain ⟨hs, rfl⟩ := inr_s (by omega) y
      dsimp only at hb ⊢
      by_cases x' : (a (12 + q)).testBit s = true
      · rw [if_pos x'] at hb ⊢
        cases hb
        have h2 := hw.2.1 q (by omega)
        have hA2 := hA.put (k := 12 + q) (v := zdif (a (12 + q)) (2 ^ s))
        have hh : zdif (a (12 + q)) (2 ^ s) < 65536 := p16 hS (Nat.lt_of_le_of_lt (zdif_le _ _) h2.2.2.2.1)
        have e12' : (zup I 37 (12 + q) (nI (zdif (a (12 + q)) (2 ^ s)))) 37 (12 + q) = nI (zdif (a (12 + q)) (2 ^ s)) := by rw [zup_v, if_pos rfl]
        refine ⟨_, ?_, hA2, fM.up (Or.inl (by decide)) (by decide)⟩
        rw [k233, nI_add, if_pos (ak_37 (by omega)), if_pos (ak_37 (by omega)), if_pos (ak_37 (by omega)), nI_clamp (by omega), hA (12 + q) (by omega), zshl1 (by omega), znot, e12', s296 hh, bI_i, e233_21]
      · rw [if_neg x'] at hb; cases hb
theorem m235 {v w : Int32} (hP : I 36 1 = nI p) (hA : mSt I 37 a) (hw : zWf p S T a) : cal d 235 [.ref 36, .int v, .int w] (I, L, rR ru dr sr rd rl, 65, x) = some (some (.int (rfs (grA p a v w))), (I, L, rR ru dr sr rd rl, 65, x)) := by
  have hp := hw.1
  unfold grA
  rw [k235, m183 hP hp, bI_i, e235_3]
  cases z : inr p v with
  | none => rw [if_pos (show nI (if (none : Option Nat).isSome = true then 1 else 0) = 0 from rfl)]; rfl
  | some q =>
    obtain ⟨hq, rfl⟩ := inr_s (by omega) z
    rw [if_neg (show ¬ nI (if (some q).isSome = true then 1 else 0) = 0 by show ¬ nI 1 = 0; decide), m179l, bI_i, e235_8]
    cases y : inl 1 4 w with
    | none => rw [if_pos (show nI (if (none : Option Nat).isSome = true then 1 else 0) = 0 from rfl)]; rfl
    | some k =>
      obtain ⟨k1, k2, rfl⟩ := inl_s (by decide) (by decide) y
      have hb := (hw.2.1 q (by omega)).2.1
      rw [if_neg (show ¬ nI (if (some k).isSome = true then 1 else 0) = 0 by show ¬ nI 1 = 0; decide), nI_add, if_pos (ak_37 (by omega)), nI_clamp (by omega), hA (4 + q) (by omega)]
      dsimp only
      by_cases x' : a (4 + q) = k
      · rw [if_pos (by rw [x']), if_pos x']; rfl
      · rw [if_neg (by rw [nI_eq (by omega) (by omega)]; exact x'), if_neg x']; rfl
theorem grA_s {v w : Int32} {b : zP} (hp : p ≤ 4) (hb : (grA p a v w).2 = some b) : ∃ q k, q < p ∧ v = nI q ∧ w = nI k ∧ k ≤ 4 ∧ b = zset a (4 + q) k ∧ (grA p a v w).1 = nI (10 + a (4 + q)) := by
  unfold grA at hb ⊢
  cases z : inr p v with
  | none => rw [z] at hb; cases hb
  | some q =>
    cases y : inl 1 4 w with
    | none => rw [z, y] at hb; cases hb
    | some k =>
      rw [z, y] at hb
      obtain ⟨hq, h1⟩ := inr_s (by omega) z
      obtain ⟨k1, k2, h2⟩ := inl_s (by decide) (by decide) y
      dsimp only at hb ⊢
      by_cases x' : a (4 + q) = k
      · rw [if_pos x'] at hb; cases hb
      · rw [if_neg x'] at hb ⊢
        cases hb
        exact ⟨q, k, hq, h1, h2, k2, rfl, rfl⟩
theorem rfs_n {r : aR} (h : aok' p S T r) (hn : r.2 = none) : rfs r = r.1 ∧ ¬ 0 ≤ rfs r := by
  have : rfs r = r.1 := by unfold rfs; rw [hn]
  rw [this]
  exact ⟨rfl, fun q => (fa_of_lt (h.1 hn)).2.1 q⟩
theorem rfs_s {r : aR} {b : zP} (hn : r.2 = some b) : rfs r = nI 0 := by unfold rfs; rw [hn]

end
