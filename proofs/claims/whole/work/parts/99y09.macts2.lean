section
variable {I : Nat → Nat → Int32} {L : Nat → Nat → Int64} {ru dr : Nat} {sr : Nat → Option Nat} {rd : Option Nat} {rl x : Nat}
variable {d R S p n T rn : Nat} {f g rt : Nat → Nat} {a : zP} {t : Nat → Nat} {l : List Int64} {u : List zP} {kp : Nat → Option zP} {cl : List (Nat × Nat)} {si : List (Nat × Int32)} {cs : zC}

theorem mt1 {v : Int64} : ∃ I' L', cal d 182 [.ref 36, .long v] (zup I 36 9 (nI 0), L, rR ru dr sr rd rl, 65, x) = some (none, (I', L', rR ru dr sr rd rl, 65, x)) ∧ mTo I' L' [v] ∧ fM [] [9] I I' ∧ (∀ c, c ≠ 41 → L' c = L c) ∧ ∀ c, c ≠ 36 → I' c = I c := by
  obtain ⟨I', L', e, h, f, g1, g2⟩ := m182 (d := d) (v := v) (ru := ru) (dr := dr) (sr := sr) (rd := rd) (rl := rl) (x := x) (mTo.nil (I := I) (L := L)) (by decide)
  exact ⟨I', L', e, h, fM.f9.tr f, g1, fun c hc => by rw [g2 c hc, zup_ne _ _ _ hc]⟩
theorem mt2 {v w : Int64} (hO : mTo I L [v]) : ∃ I' L', cal d 182 [.ref 36, .long w] (I, L, rR ru dr sr rd rl, 65, x) = some (none, (I', L', rR ru dr sr rd rl, 65, x)) ∧ mTo I' L' [v, w] ∧ fM [] [9] I I' ∧ (∀ c, c ≠ 41 → L' c = L c) ∧ ∀ c, c ≠ 36 → I' c = I c := m182 hO (show 1 < 8 by decide)
/-! what a run of throws needs -/
def mQ (I : Nat → Nat → Int32) (rl c R S : Nat) (f g : Nat → Nat) (p : Nat) (a : zP) (rn : Nat) (rt : Nat → Nat) : Prop := mCt I R S f g ∧ I 36 1 = nI p ∧ mSt I c a ∧ mRu I rl rn rt
theorem mQ.fr {I' : Nat → Nat → Int32} {c : Nat} {W F : List Nat} (h : mQ I rl c R S f g p a rn rt) (hrl : rl = 44 ∨ rl = 45) (hc : msc c = false) (hf : fM W F I I') (hm : 38 ∉ W ∧ 39 ∉ W ∧ 2 ∉ F ∧ 3 ∉ F) (h2 : 1 ∉ F ∧ 20 ∉ F ∧ c ∉ W ∧ rl ∉ W) : mQ I' rl c R S f g p a rn rt := ⟨hf.ct h.1 hm, hf.fp h.2.1 h2.1, hf.st h.2.2.1 h2.2.2.1 hc, hf.ru' hrl h.2.2.2 ⟨h2.2.1, h2.2.2.2⟩⟩
theorem q225 {c : Nat} (hd : 41 ≤ d) (hrl : rl = 44 ∨ rl = 45) (hct : zCt R S f g) (hc : zA c) (h : mQ I rl c R S f g p a rn rt) (hw : zWf p S T a) (hp0 : 0 < p) (hT1 : T + 1 < 2 ^ 24) (hcs : (prs rt rn).2 = some cs) : ∃ I' L' rd', cal d 225 [.ref 36, .ref c] (I, L, rR ru dr sr rd rl, 65, x) = some (some (.int (nI (if thb R S f g cs a = true then 1 else 0))), (I', L', rR ru dr sr rd' rl, 65, x)) ∧ mQ I' rl c R S f g p (thr R S f g cs p a) rn rt ∧ I' 36 30 = nI (gol S a (a 24)) + ofv (fun c => nI (th S g a (a 24) c)) cs ∧ fM [c] [] I I' ∧ ∀ b, b ≠ 48 → L' b = L b := by
  obtain ⟨hI, hP, hA, hR⟩ := h
  obtain ⟨I', L', rd', e, h1, h2, h3, h4⟩ := m225 (d := d) (L := L) (ru := ru) (dr := dr) (sr := sr) (rd := rd) (rl := rl) (x := x) hd hrl hct hI hc hP hA hw hp0 hT1 hR hcs
  refine ⟨I', L', rd', e, ⟨h3.ct hI (by rcases hc with rfl | rfl <;> decide), h3.fp hP (by decide), h1, h3.ru' hrl hR ?_⟩, h2, h3, h4⟩
  rcases hc with rfl | rfl <;> rcases hrl with rfl | rfl <;> decide
theorem mInv.q (h : mInv I L rl T R S f g p a n t l u kp cl si rn rt) : mQ I rl 37 R S f g p a rn rt := ⟨h.1, h.2.1, h.2.2.1, h.2.2.2.2.2.2.2.2.2.2⟩
/-! a throw, throws -/
theorem n226f (h : mInv I L rl T R S f g p a n t l u kp cl si rn rt) (hw : wInv R S f g p a T u kp) (hp0 : p = 0) : ∃ I', cal d 226 [.ref 36] (I, L, rR ru dr sr rd rl, 65, x) = some (some (.int (-(nI 1))), (I', L, rR ru dr sr rd rl, 65, x)) ∧ mInv I' L rl T R S f g p a n t l u kp cl si rn rt := by
  obtain ⟨hI, hP, hA, hT, hO, hU, hK, hC, hS, hl, hR⟩ := h
  obtain ⟨hc, hw, hu, hk⟩ := hw
  have f0 : fM [] [] I (zup I 36 10 (nI 0)) := f10
  have hP0 := f0.fp hP (by decide)
  refine ⟨_, ?_, ⟨f0.ct hI (by decide), f0.fp hP (by decide), f0.st hA (by decide) rfl, f0.tx hT (by decide), f0.to hO (by decide) rfl, f0.un hU (by decide), f0.kp' hK (by decide), f0.clu hC (by decide), f0.sig hS (by decide), hl, f0.rr hl hR (by decide)⟩⟩
  rw [k226, hP0, if_pos (by rw [hp0]; rfl)]
theorem n226t (h : mInv I L rl T R S f g p a n t l u kp cl si rn rt) (hw : wInv R S f g p a T u kp) (hd : 41 ≤ d) (hcs : (prs rt rn).2 = some cs) (hp0 : 0 < p) (hT1 : T + 1 < 2 ^ 24) : ∃ I' L' rd', cal d 226 [.ref 36] (I, L, rR ru dr sr rd rl, 65, x) = some (some (.int (nI (if thb R S f g cs a = true then 1 else 0))), (I', L', rR ru dr sr rd' rl, 65, x)) ∧ mInv I' L' rl T R S f g p (thr R S f g cs p a) n t ([(nI 100 + (nI (gol S a (a 24)) + ofv (fun c => nI (th S g a (a 24) c)) cs)).toInt64, lN (thr R S f g cs p a 24)]) ((a :: u).take 12) kp cl si rn rt := by
  have hq := h.q
  obtain ⟨hI, hP, hA, hT, hO, hU, hK, hC, hS, hl, hR⟩ := h
  obtain ⟨hc, hw, hu, hk⟩ := hw
  have f0 : fM [] [] I (zup I 36 10 (nI 0)) := f10
  have hp := hw.1
  have hP0 := f0.fp hP (by decide)
  obtain ⟨I1, e1, h1, f1⟩ := m222 (d := d) (L := L) (ru := ru) (dr := dr) (sr := sr) (rd := rd) (rl := rl) (x := x) (c := 37) (Or.inl rfl) (f0.st hA (by decide) rfl) (f0.un hU (by decide))
  have q1 := (hq.fr (Or.inl hl) rfl f0 (by decide) ⟨by decide, by decide, by decide, by simp⟩).fr (Or.inl hl) rfl f1 (by decide) ⟨by decide, by decide, by decide, by subst hl; decide⟩
  obtain ⟨I2, L2, rd2, e2, q2, k30, f2, g2⟩ := q225 (d := d) (L := L) (ru := ru) (dr := dr) (sr := sr) (rd := rd) (rl := rl) (x := x) (c := 37) hd (Or.inl hl) hc (Or.inl rfl) q1 hw hp0 hT1 hcs
  obtain ⟨I3, L3, e3, h3, f3, g3, i3⟩ := mt1 (d := d) (I := I2) (L := L2) (rd := rd2) (ru := ru) (dr := dr) (sr := sr) (rl := rl) (x := x) (v := (nI 100 + (nI (gol S a (a 24)) + ofv (fun c => nI (th S g a (a 24) c)) cs)).toInt64)
  obtain ⟨I4, L4, e4, h4, f4, g4, i4⟩ := mt2 (d := d) (I := I3) (L := L3) (rd := rd2) (ru := ru) (dr := dr) (sr := sr) (rl := rl) (x := x) (w := lN (thr R S f g cs p a 24)) h3
  have f5 : fM [37, 50] [9, 27] I I4 := (f0.mono (by decide) (by decide)).tr ((f1.mono (by decide) (by decide)).tr ((f2.mono (by decide) (by decide)).tr ((f3.mono (by decide) (by decide)).tr (f4.mono (by decide) (by decide)))))
  have f34 : fM [] [9] I2 I4 := f3.tr f4
  have hwt := thr_wf hc hw hp0 hT1 cs
  have h24 := hwt.t hp0
  have h24' : I3 37 24 = nI (thr R S f g cs p a 24) := by rw [i3 37 (by decide)]; exact q2.2.2.1 24 (by decide)
  have k30' : (zup I2 36 9 (nI 0)) 36 30 = nI (gol S a (a 24)) + ofv (fun c => nI (th S g a (a 24) c)) cs := by rw [zup_v, if_neg (by decide)]; exact k30
  refine ⟨I4, L4, rd2, ?_, ⟨f5.ct hI (by decide), f5.fp hP (by decide), f34.st q2.2.2.1 (by decide) rfl, f5.tx hT (by decide), h4, f34.un (f2.un h1 (by decide)) (by decide), f5.kp' hK (by decide), f5.clu hC (by decide), f5.sig hS (by decide), hl, f5.rr hl hR (by decide)⟩⟩
  rw [k226, hP0, if_neg (by rw [nI_z (by omega)]; omega), e1, bV_n, e226_12, e2, bI_i, e226_16, k30', e3, bV_n, e226_27, if_pos (ak_37 (by decide)), nI_clamp (by omega), h24', nI_l (by omega), e4, bV_n, e226_34]
  cases thb R S f g cs a with
  | true => rw [if_pos rfl, if_neg (by decide)]
  | false => rw [if_neg Bool.false_ne_true, if_pos (show nI 0 = 0 from rfl)]
theorem n227f {v : Int32} (h : mInv I L rl T R S f g p a n t l u kp cl si rn rt) (hw : wInv R S f g p a T u kp) (hv : inl 1 60 v = none ∨ p = 0) : ∃ I', cal d 227 [.ref 36, .int v] (I, L, rR ru dr sr rd rl, 65, x) = some (some (.int (-(nI 1))), (I', L, rR ru dr sr rd rl, 65, x)) ∧ mInv I' L rl T R S f g p a n t l u kp cl si rn rt := by
  obtain ⟨hI, hP, hA, hT, hO, hU, hK, hC, hS, hl, hR⟩ := h
  obtain ⟨hc, hw, hu, hk⟩ := hw
  have f0 : fM [] [] I (zup I 36 10 (nI 0)) := f10
  have hP0 := f0.fp hP (by decide)
  refine ⟨_, ?_, ⟨f0.ct hI (by decide), f0.fp hP (by decide), f0.st hA (by decide) rfl, f0.tx hT (by decide), f0.to hO (by decide) rfl, f0.un hU (by decide), f0.kp' hK (by decide), f0.clu hC (by decide), f0.sig hS (by decide), hl, f0.rr hl hR (by decide)⟩⟩
  rw [k227, m179l, bI_i, e227_7]
  rcases hv with hv | hv
  · rw [hv, if_pos (show nI (if (none : Option Nat).isSome = true then 1 else 0) = 0 from rfl)]
  · rw [hP0, if_pos (show nI p = 0 by rw [hv]; rfl)]
    split <;> rfl
theorem l227 {N : Nat} (hd : 41 ≤ d) (hrl : rl = 44 ∨ rl = 45) (hct : zCt R S f g) (hw : zWf p S T a) (hp0 : 0 < p) (hN : N ≤ 99) (hT1 : T + 100 < 2 ^ 24) (hcs : (prs rt rn).2 = some cs) : ∀ j i b s (I : Nat → Nat → Int32) (L : Nat → Nat → Int64) (rd : Option Nat), i + j = N → s ≤ i → zWf p S (T + i) b → mQ I rl 37 R S f g p b rn rt → ∃ I' L' rd', res d 227 21 [.ref 36, .int (nI N), .int (nI s), .int (nI i)] [] (I, L, rR ru dr sr rd rl, 65, x) = res d 227 42 [.ref 36, .int (nI N), .int (nI (s + tc R S f g cs p j b)), .int (nI 0)] [] (zup I' 36 9 (nI 0), L', rR ru dr sr rd' rl, 65, x) ∧ mQ I' rl 37 R S f g p (tn R S f g cs p j b) rn rt ∧ fM [37] [] I I' ∧ ∀ b, b ≠ 48 → L' b = L b
  | 0, i, b, s, I, L, rd, hi, hs, hb, hq => ⟨I, L, rd, by rw [l227_21, if_pos (by rw [nI_leI (by omega) (by omega)]; omega)]; rfl, hq, fM.rf, fun _ _ => rfl⟩
  | j + 1, i, b, s, I, L, rd, hi, hs, hb, hq => by
    obtain ⟨I1, L1, rd1, e1, q1, -, f1, g1⟩ := q225 (d := d) (L := L) (ru := ru) (dr := dr) (sr := sr) (rd := rd) (rl := rl) (x := x) (c := 37) hd hrl hct (Or.inl rfl) hq hb hp0 (by omega) hcs
    have hb1 := thr_wf hct hb hp0 (by omega) cs
    obtain ⟨I2, L2, rd2, e2, q2, f2, g2⟩ := l227 hd hrl hct hw hp0 hN hT1 hcs j (i + 1) (thr R S f g cs p b) (s + if thb R S f g cs b = true then 1 else 0) I1 L1 rd1 (by omega) (by split <;> omega) hb1 q1
    refine ⟨I2, L2, rd2, ?_, q2, f1.tr f2, fun c hc => (g2 c hc).trans (g1 c hc)⟩
    rw [tc, ← Nat.add_assoc, ← e2, l227_21, if_neg (by rw [nI_leI (by omega) (by omega)]; omega), e1, bI_i, e227_29]
    cases thb R S f g cs b with
    | true => rw [if_neg (show ¬ nI (if true = true then 1 else 0) = 0 by decide), nI_add, nI_add]; rfl
    | false => rw [if_pos (show nI (if false = true then 1 else 0) = 0 from rfl), nI_add, nI_add]; rfl
theorem l227t {N : Nat} {w : Int32} {b : zP} (hw : zWf p S T b) (hS : S ≤ 16) : ∀ j q (I : Nat → Nat → Int32) (L : Nat → Nat → Int64), q + j = p → I 36 1 = nI p → mSt I 37 b → mTo I L (tlq (fun q => lN (b (8 + q))) q) → ∃ I' L', res d 227 42 [.ref 36, .int (nI N), .int w, .int (nI q)] [] (I, L, rR ru dr sr rd rl, 65, x) = some (some (.int w), (I', L', rR ru dr sr rd rl, 65, x)) ∧ mTo I' L' (tlq (fun q => lN (b (8 + q))) p) ∧ fM [] [9] I I' ∧ ∀ c, c ≠ 36 → I' c = I c
  | 0, q, I, L, h, hP, hA, hO => by
    have hp := hw.1
    exact ⟨I, L, by rw [l227_42, hP, if_pos (by rw [nI_leI (by omega) (by omega)]; omega)], (show p = q by omega) ▸ hO, fM.rf, fun _ _ => rfl⟩
  | j + 1, q, I, L, h, hP, hA, hO => by
    have hp := hw.1
    have hb := (hw.2.1 q (by omega)).2.2.1
    obtain ⟨I1, L1, e1, h1, f1, g1, i1⟩ := m182 (d := d) (v := lN (b (8 + q))) (ru := ru) (dr := dr) (sr := sr) (rd := rd) (rl := rl) (x := x) hO (by rw [tlq_len]; omega)
    obtain ⟨I2, L2, e2, h2, f2, i2⟩ := l227t (N := N) (w := w) hw hS j (q + 1) I1 L1 (by omega) (f1.fp hP (by decide)) (hA.congr (i1 37 (by decide))) h1
    refine ⟨I2, L2, ?_, h2, f1.tr f2, fun c hc => (i2 c hc).trans (i1 c hc)⟩
    rw [l227_42, hP, if_neg (by rw [nI_leI (by omega) (by omega)]; omega), nI_add, if_pos (ak_37 (by omega)), nI_clamp (by omega), hA (8 + q) (by omega), nI_l (by omega), e1, bV_n, e227_55, nI_add, e2]
theorem n227t {v : Int32} {k : Nat} (h : mInv I L rl T R S f g p a n t l u kp cl si rn rt) (hw : wInv R S f g p a T u kp) (hd : 41 ≤ d) (hcs : (prs rt rn).2 = some cs) (hv : inl 1 60 v = some k) (hp0 : 0 < p) (hT1 : T + 100 < 2 ^ 24) : ∃ I' L' rd', cal d 227 [.ref 36, .int v] (I, L, rR ru dr sr rd rl, 65, x) = some (some (.int (nI (tc R S f g cs p k a))), (I', L', rR ru dr sr rd' rl, 65, x)) ∧ mInv I' L' rl T R S f g p (tn R S f g cs p k a) n t (tlq (fun q => lN (tn R S f g cs p k a (8 + q))) p) ((a :: u).take 12) kp cl si rn rt := by
  have hq := h.q
  obtain ⟨hI, hP, hA, hT, hO, hU, hK, hC, hS, hl, hR⟩ := h
  obtain ⟨hc, hw, hu, hk⟩ := hw
  have f0 : fM [] [] I (zup I 36 10 (nI 0)) := f10
  have hp := hw.1
  have hP0 := f0.fp hP (by decide)
  obtain ⟨k1, k2, rfl⟩ := inl_s (by decide) (by decide) hv
  obtain ⟨I1, e1, h1, f1⟩ := m222 (d := d) (L := L) (ru := ru) (dr := dr) (sr := sr) (rd := rd) (rl := rl) (x := x) (c := 37) (Or.inl rfl) (f0.st hA (by decide) rfl) (f0.un hU (by decide))
  have q1 := (hq.fr (Or.inl hl) rfl f0 (by decide) ⟨by decide, by decide, by decide, by simp⟩).fr (Or.inl hl) rfl f1 (by decide) ⟨by decide, by decide, by decide, by subst hl; decide⟩
  obtain ⟨I2, L2, rd2, e2, q2, f2, g2⟩ := l227 (d := d) (ru := ru) (dr := dr) (sr := sr) (rl := rl) (x := x) hd (Or.inl hl) hc hw hp0 (show k ≤ 99 by omega) hT1 hcs k 0 a 0 I1 L rd (by omega) (by omega) hw q1
  have hw2 := tn_wf hc hp0 cs k T a hw (by omega)
  have hP3 : (zup I2 36 9 (nI 0)) 36 1 = nI p := by rw [zup_v, if_neg (by decide)]; exact q2.2.1
  obtain ⟨I3, L3, e3, h3, f3, i3⟩ := l227t (d := d) (N := k) (w := nI (0 + tc R S f g cs p k a)) (rd := rd2) (ru := ru) (dr := dr) (sr := sr) (rl := rl) (x := x) hw2 hc.S16 p 0 (zup I2 36 9 (nI 0)) L2 (by omega) hP3 (q2.2.2.1.congr (zup_ne _ _ _ (by decide))) mTo.nil
  have f34 : fM [] [9] I2 I3 := fM.f9.tr f3
  have f5 : fM [37, 50] [9, 27] I I3 := (f0.mono (by decide) (by decide)).tr ((f1.mono (by decide) (by decide)).tr ((f2.mono (by decide) (by decide)).tr (f34.mono (by decide) (by decide))))
  refine ⟨I3, L3, rd2, ?_, ⟨f5.ct hI (by decide), f5.fp hP (by decide), f34.st q2.2.2.1 (by decide) rfl, f5.tx hT (by decide), h3, f34.un (f2.un h1 (by decide)) (by decide), f5.kp' hK (by decide), f5.clu hC (by decide), f5.sig hS (by decide), hl, f5.rr hl hR (by decide)⟩⟩
  rw [k227, m179l, bI_i, e227_7, hv, if_neg (show ¬ nI (if (some k).isSome = true then 1 else 0) = 0 by show ¬ nI 1 = 0; decide), hP0, if_neg (by rw [nI_z (by omega)]; omega), e1, bV_n, e227_17, e2, e3, Nat.zero_add]
/-! passing, taking, leaving, growing -/
theorem n228f (h : mInv I L rl T R S f g p a n t l u kp cl si rn rt) (hw : wInv R S f g p a T u kp) (hr : (paA p a).2 = none) : ∃ I', cal d 228 [.ref 36] (I, L, rR ru dr sr rd rl, 65, x) = some (some (.int (paA p a).1), (I', L, rR ru dr sr rd rl, 65, x)) ∧ mInv I' L rl T R S f g p a n t l u kp cl si rn rt := by
  obtain ⟨hI, hP, hA, hT, hO, hU, hK, hC, hS, hl, hR⟩ := h
  obtain ⟨hc, hw, hu, hk⟩ := hw
  have f0 : fM [] [] I (zup I 36 10 (nI 0)) := f10
  have hP0 := f0.fp hP (by decide)
  unfold paA at hr ⊢
  by_cases z : p = 0
  · rw [if_pos z]
    refine ⟨_, ?_, ⟨f0.ct hI (by decide), f0.fp hP (by decide), f0.st hA (by decide) rfl, f0.tx hT (by decide), f0.to hO (by decide) rfl, f0.un hU (by decide), f0.kp' hK (by decide), f0.clu hC (by decide), f0.sig hS (by decide), hl, f0.rr hl hR (by decide)⟩⟩
    rw [k228, hP0, if_pos (by rw [z]; rfl)]
  · rw [if_neg z] at hr; cases hr
theorem n228t {b : zP} (h : mInv I L rl T R S f g p a n t l u kp cl si rn rt) (hw : wInv R S f g p a T u kp) (hr : (paA p a).2 = some b) : ∃ I', cal d 228 [.ref 36] (I, L, rR ru dr sr rd rl, 65, x) = some (some (.int (paA p a).1), (I', L, rR ru dr sr rd rl, 65, x)) ∧ mInv I' L rl T R S f g p b n t l ((a :: u).take 12) kp cl si rn rt := by
  obtain ⟨hI, hP, hA, hT, hO, hU, hK, hC, hS, hl, hR⟩ := h
  obtain ⟨hc, hw, hu, hk⟩ := hw
  have f0 : fM [] [] I (zup I 36 10 (nI 0)) := f10
  have hp := hw.1
  have hP0 := f0.fp hP (by decide)
  unfold paA at hr ⊢
  by_cases z : p = 0
  · rw [if_pos z] at hr; cases hr
  · rw [if_neg z] at hr ⊢
    cases hr
    have h24 := hw.t (by omega : 0 < p)
    obtain ⟨I1, e1, h1, f1⟩ := m222 (d := d) (L := L) (ru := ru) (dr := dr) (sr := sr) (rd := rd) (rl := rl) (x := x) (c := 37) (Or.inl rfl) (f0.st hA (by decide) rfl) (f0.un hU (by decide))
    have hA1 : mSt I1 37 a := f1.st (f0.st hA (by decide) rfl) (by decide) rfl
    have e2 := m223 (d := d) (L := L) (ru := ru) (dr := dr) (sr := sr) (rd := rd) (rl := rl) (x := x) (Or.inl rfl) hp (f1.fp hP0 (by decide)) hA1 h24
    have hA2 := hA1.put (k := 24) (v := nxt p a)
    have f2 : fM [37] [] I1 (zup I1 37 24 (nI (nxt p a))) := fM.up (Or.inl (by decide)) (by decide)
    have f5 : fM [37, 50] [27] I (zup I1 37 24 (nI (nxt p a))) := (f0.mono (by decide) (by decide)).tr ((f1.mono (by decide) (by decide)).tr (f2.mono (by decide) (by decide)))
    have k24 : (zup I1 37 24 (nI (nxt p a))) 37 24 = nI (nxt p a) := by rw [zup_v, if_pos rfl]
    refine ⟨_, ?_, ⟨f5.ct hI (by decide), f5.fp hP (by decide), hA2, f5.tx hT (by decide), f5.to hO (by decide) rfl, (fM.un (W := [37]) (F := []) (by first | exact f2 | exact fM.up (Or.inl (by decide)) (by decide)) h1 (by decide)), f5.kp' hK (by decide), f5.clu hC (by decide), f5.sig hS (by decide), hl, f5.rr hl hR (by decide)⟩⟩
    rw [k228, hP0, if_neg (by rw [nI_z (by omega)]; exact z), e1, bV_n, e228_12, e2, bV_n, e228_16, if_pos (ak_37 (by decide)), nI_clamp (by omega), k24]
theorem n231f {v w : Int32} (h : mInv I L rl T R S f g p a n t l u kp cl si rn rt) (hw : wInv R S f g p a T u kp) (hr : (tkA S p a v w).2 = none) : ∃ I', cal d 231 [.ref 36, .int v, .int w] (I, L, rR ru dr sr rd rl, 65, x) = some (some (.int (tkA S p a v w).1), (I', L, rR ru dr sr rd rl, 65, x)) ∧ mInv I' L rl T R S f g p a n t l u kp cl si rn rt := by
  obtain ⟨hI, hP, hA, hT, hO, hU, hK, hC, hS, hl, hR⟩ := h
  obtain ⟨hc, hw, hu, hk⟩ := hw
  have f0 : fM [] [] I (zup I 36 10 (nI 0)) := f10
  obtain ⟨r1, r2⟩ := rfs_n (tkA_ok hc hw) hr
  refine ⟨_, ?_, ⟨f0.ct hI (by decide), f0.fp hP (by decide), f0.st hA (by decide) rfl, f0.tx hT (by decide), f0.to hO (by decide) rfl, f0.un hU (by decide), f0.kp' hK (by decide), f0.clu hC (by decide), f0.sig hS (by decide), hl, f0.rr hl hR (by decide)⟩⟩
  rw [k231, m229 hc (f0.ct hI (by decide)) (f0.fp hP (by decide)) (f0.st hA (by decide) rfl) hw, bI_i, e231_7, if_neg r2, r1]
theorem n234f {v w : Int32} (h : mInv I L rl T R S f g p a n t l u kp cl si rn rt) (hw : wInv R S f g p a T u kp) (hr : (lvA S p a v w).2 = none) : ∃ I', cal d 234 [.ref 36, .int v, .int w] (I, L, rR ru dr sr rd rl, 65, x) = some (some (.int (lvA S p a v w).1), (I', L, rR ru dr sr rd rl, 65, x)) ∧ mInv I' L rl T R S f g p a n t l u kp cl si rn rt := by
  obtain ⟨hI, hP, hA, hT, hO, hU, hK, hC, hS, hl, hR⟩ := h
  obtain ⟨hc, hw, hu, hk⟩ := hw
  have f0 : fM [] [] I (zup I 36 10 (nI 0)) := f10
  obtain ⟨r1, r2⟩ := rfs_n (lvA_ok hc hw) hr
  refine ⟨_, ?_, ⟨f0.ct hI (by decide), f0.fp hP (by decide), f0.st hA (by decide) rfl, f0.tx hT (by decide), f0.to hO (by decide) rfl, f0.un hU (by decide), f0.kp' hK (by decide), f0.clu hC (by decide), f0.sig hS (by decide), hl, f0.rr hl hR (by decide)⟩⟩
  rw [k234, m232 hc (f0.ct hI (by decide)) (f0.fp hP (by decide)) (f0.st hA (by decide) rfl) hw, bI_i, e234_7, if_neg r2, r1]
theorem n236f {v w : Int32} (h : mInv I L rl T R S f g p a n t l u kp cl si rn rt) (hw : wInv R S f g p a T u kp) (hr : (grA p a v w).2 = none) : ∃ I', cal d 236 [.ref 36, .int v, .int w] (I, L, rR ru dr sr rd rl, 65, x) = some (some (.int (grA p a v w).1), (I', L, rR ru dr sr rd rl, 65, x)) ∧ mInv I' L rl T R S f g p a n t l u kp cl si rn rt := by
  obtain ⟨hI, hP, hA, hT, hO, hU, hK, hC, hS, hl, hR⟩ := h
  obtain ⟨hc, hw, hu, hk⟩ := hw
  have f0 : fM [] [] I (zup I 36 10 (nI 0)) := f10
  obtain ⟨r1, r2⟩ := rfs_n (grA_ok hc hw) hr
  refine ⟨_, ?_, ⟨f0.ct hI (by decide), f0.fp hP (by decide), f0.st hA (by decide) rfl, f0.tx hT (by decide), f0.to hO (by decide) rfl, f0.un hU (by decide), f0.kp' hK (by decide), f0.clu hC (by decide), f0.sig hS (by decide), hl, f0.rr hl hR (by decide)⟩⟩
  rw [k236, m235 (f0.fp hP (by decide)) (f0.st hA (by decide) rfl) hw, bI_i, e236_7, if_neg r2, r1]
theorem n231t {v w : Int32} {b : zP} (h : mInv I L rl T R S f g p a n t l u kp cl si rn rt) (hw : wInv R S f g p a T u kp) (hr : (tkA S p a v w).2 = some b) : ∃ I', cal d 231 [.ref 36, .int v, .int w] (I, L, rR ru dr sr rd rl, 65, x) = some (some (.int (tkA S p a v w).1), (I', L, rR ru dr sr rd rl, 65, x)) ∧ mInv I' L rl T R S f g p b n t l ((a :: u).take 12) kp cl si rn rt := by
  obtain ⟨hI, hP, hA, hT, hO, hU, hK, hC, hS, hl, hR⟩ := h
  obtain ⟨hc, hw, hu, hk⟩ := hw
  have f0 : fM [] [] I (zup I 36 10 (nI 0)) := f10
  have hA0 : mSt (zup I 36 10 (nI 0)) 37 a := f0.st hA (by decide) rfl
  obtain ⟨I1, e1, h1, f1⟩ := m222 (d := d) (L := L) (ru := ru) (dr := dr) (sr := sr) (rd := rd) (rl := rl) (x := x) (c := 37) (Or.inl rfl) hA0 (f0.un hU (by decide))
  have hA1 : mSt I1 37 a := f1.st hA0 (by decide) rfl
  obtain ⟨I2, e2, hA2, f2⟩ := m230 (d := d) (L := L) (ru := ru) (dr := dr) (sr := sr) (rd := rd) (rl := rl) (x := x) hc.S16 hA1 hw hr
  have f5 : fM [37, 50] [27] I I2 := (f0.mono (by decide) (by decide)).tr ((f1.mono (by decide) (by decide)).tr (f2.mono (by decide) (by decide)))
  refine ⟨I2, ?_, ⟨f5.ct hI (by decide), f5.fp hP (by decide), hA2, f5.tx hT (by decide), f5.to hO (by decide) rfl, (fM.un (W := [37]) (F := []) (by first | exact f2 | exact fM.up (Or.inl (by decide)) (by decide)) h1 (by decide)), f5.kp' hK (by decide), f5.clu hC (by decide), f5.sig hS (by decide), hl, f5.rr hl hR (by decide)⟩⟩
  rw [k231, m229 hc (f0.ct hI (by decide)) (f0.fp hP (by decide)) hA0 hw, bI_i, e231_7, rfs_s hr, if_pos (show 0 ≤ nI 0 by decide), e1, bV_n, e231_16, e2, bI_i, e231_20]
theorem n234t {v w : Int32} {b : zP} (h : mInv I L rl T R S f g p a n t l u kp cl si rn rt) (hw : wInv R S f g p a T u kp) (hr : (lvA S p a v w).2 = some b) : ∃ I', cal d 234 [.ref 36, .int v, .int w] (I, L, rR ru dr sr rd rl, 65, x) = some (some (.int (lvA S p a v w).1), (I', L, rR ru dr sr rd rl, 65, x)) ∧ mInv I' L rl T R S f g p b n t l ((a :: u).take 12) kp cl si rn rt := by
  obtain ⟨hI, hP, hA, hT, hO, hU, hK, hC, hS, hl, hR⟩ := h
  obtain ⟨hc, hw, hu, hk⟩ := hw
  have f0 : fM [] [] I (zup I 36 10 (nI 0)) := f10
  have hA0 : mSt (zup I 36 10 (nI 0)) 37 a := f0.st hA (by decide) rfl
  obtain ⟨I1, e1, h1, f1⟩ := m222 (d := d) (L := L) (ru := ru) (dr := dr) (sr := sr) (rd := rd) (rl := rl) (x := x) (c := 37) (Or.inl rfl) hA0 (f0.un hU (by decide))
  have hA1 : mSt I1 37 a := f1.st hA0 (by decide) rfl
  obtain ⟨I2, e2, hA2, f2⟩ := m233 (d := d) (L := L) (ru := ru) (dr := dr) (sr := sr) (rd := rd) (rl := rl) (x := x) hc.S16 hA1 hw hr
  have f5 : fM [37, 50] [27] I I2 := (f0.mono (by decide) (by decide)).tr ((f1.mono (by decide) (by decide)).tr (f2.mono (by decide) (by decide)))
  refine ⟨I2, ?_, ⟨f5.ct hI (by decide), f5.fp hP (by decide), hA2, f5.tx hT (by decide), f5.to hO (by decide) rfl, (fM.un (W := [37]) (F := []) (by first | exact f2 | exact fM.up (Or.inl (by decide)) (by decide)) h1 (by decide)), f5.kp' hK (by decide), f5.clu hC (by decide), f5.sig hS (by decide), hl, f5.rr hl hR (by decide)⟩⟩
  rw [k234, m232 hc (f0.ct hI (by decide)) (f0.fp hP (by decide)) hA0 hw, bI_i, e234_7, rfs_s hr, if_pos (show 0 ≤ nI 0 by decide), e1, bV_n, e234_16, e2, bI_i, e234_20]
theorem n236t {v w : Int32} {b : zP} (h : mInv I L rl T R S f g p a n t l u kp cl si rn rt) (hw : wInv R S f g p a T u kp) (hr : (grA p a v w).2 = some b) : ∃ I', cal d 236 [.ref 36, .int v, .int w] (I, L, rR ru dr sr rd rl, 65, x) = some (some (.int (grA p a v w).1), (I', L, rR ru dr sr rd rl, 65, x)) ∧ mInv I' L rl T R S f g p b n t l ((a :: u).take 12) kp cl si rn rt := by
  obtain ⟨hI, hP, hA, hT, hO, hU, hK, hC, hS, hl, hR⟩ := h
  obtain ⟨hc, hw, hu, hk⟩ := hw
  have f0 : fM [] [] I (zup I 36 10 (nI 0)) := f10
  have hp := hw.1
  have hA0 : mSt (zup I 36 10 (nI 0)) 37 a := f0.st hA (by decide) rfl
  have er := m235 (d := d) (L := L) (ru := ru) (dr := dr) (sr := sr) (rd := rd) (rl := rl) (x := x) (v := v) (w := w) (f0.fp hP (by decide)) hA0 hw
  obtain ⟨I1, e1, h1, f1⟩ := m222 (d := d) (L := L) (ru := ru) (dr := dr) (sr := sr) (rd := rd) (rl := rl) (x := x) (c := 37) (Or.inl rfl) hA0 (f0.un hU (by decide))
  have hA1 : mSt I1 37 a := f1.st hA0 (by decide) rfl
  rw [rfs_s hr] at er
  obtain ⟨q, k, hq, rfl, rfl, hk4, rfl, hv⟩ := grA_s hp hr
  have hA2 := hA1.put (k := 4 + q) (v := k)
  have f5 : fM [37, 50] [27] I (zup I1 37 (4 + q) (nI k)) := (f0.mono (by decide) (by decide)).tr ((f1.mono (by decide) (by decide)).tr (fM.up (Or.inl (by decide)) (by decide)))
  refine ⟨_, ?_, ⟨f5.ct hI (by decide), f5.fp hP (by decide), hA2, f5.tx hT (by decide), f5.to hO (by decide) rfl, (fM.un (W := [37]) (F := []) (by first | exact f2 | exact fM.up (Or.inl (by decide)) (by decide)) h1 (by decide)), f5.kp' hK (by decide), f5.clu hC (by decide), f5.sig hS (by decide), hl, f5.rr hl hR (by decide)⟩⟩
  rw [k236, er, bI_i, e236_7, if_pos (show 0 ≤ nI 0 by decide), e1, bV_n, e236_16, nI_add, if_pos (ak_37 (by omega)), if_pos (ak_37 (by omega)), nI_clamp (by omega), hA1 (4 + q) (by omega), nI_add, hv]
/-! sheet -/
theorem mulK {e s : Int32} {q : Nat} : e + nI q * s + s = e + nI (q + 1) * s := by
  rw [← nI_add, Int32.add_mul, show nI 1 * s = s from Int32.one_mul s, Int32.add_assoc]
theorem l214 {v1 v2 v3 v4 : Int32} (hp : p ≤ 4) (hz : ∀ o, p ≤ o → o < 4 → a o = 0) : ∀ j q (I : Nat → Nat → Int32) (w7 : Value), q + j = p → I 36 1 = nI p → mSt I 37 (shs (shw v1 v2 v3 v4) a q) → ∃ I', res d 214 24 [.ref 36, .int v1, .int v2, .int v3, .int v4, .int (v3 + nI q * v4), .int (nI q), w7] [] (I, L, rR ru dr sr rd rl, 65, x) = some (some (.int (if v1 = nI 3 then -(nI 3) else nI (sm (shs (shw v1 v2 v3 v4) a p) 0 p))), (I', L, rR ru dr sr rd rl, 65, x)) ∧ mSt I' 37 (shs (shw v1 v2 v3 v4) a p) ∧ fM [37] [] I I'
  | 0, q, I, w7, h, hP, hA => by
    have e : q = p := by omega
    subst e
    refine ⟨I, ?_, hA, fM.rf⟩
    rw [l214_24, hP, if_pos (by rw [nI_leI (by omega) (by omega)]; omega)]
    by_cases z : v1 = nI 3
    · rw [if_pos z, if_pos z, e214_73]
    · rw [if_neg z, if_neg z, m213 (Or.inl rfl) hA (by decide) hp (fun o h1 h2 => ?_), bI_i, e214_73]
      rw [Nat.zero_add]
      unfold shs
      rw [if_neg (by omega)]
      exact hz o h1 h2
  | j + 1, q, I, w7, h, hP, hA => by
    have hn := sha_n v1 (v3 + nI q * v4)
    have hA1 := hA.put (k := q) (v := shw v1 v2 v3 v4 q)
    rw [shs_s] at hA1
    obtain ⟨I1, e1, h1, f1⟩ := l214 (v1 := v1) (v2 := v2) (v3 := v3) (v4 := v4) hp hz j (q + 1) (zup I 37 q (nI (shw v1 v2 v3 v4 q))) (.int (sgd v1 (v3 + nI q * v4))) (by omega) (by rw [zup_ne _ _ _ (by decide)]; exact hP) hA1
    refine ⟨I1, ?_, h1, (fM.up (Or.inl (by decide)) (by decide)).tr f1⟩
    rw [← e1]
    have es : ∀ (J : Nat → Nat → Int32), (if v1 = 0 then res d 214 40 [.ref 36, .int v1, .int v2, .int v3, .int v4, .int (v3 + nI q * v4), .int (nI q), w7] [.int (v3 + nI q * v4).toInt8.toInt32] (J, L, rR ru dr sr rd rl, 65, x) else if v1 = nI 1 then res d 214 40 [.ref 36, .int v1, .int v2, .int v3, .int v4, .int (v3 + nI q * v4), .int (nI q), w7] [.int (v3 + nI q * v4).toInt16.toInt32] (J, L, rR ru dr sr rd rl, 65, x) else res d 214 40 [.ref 36, .int v1, .int v2, .int v3, .int v4, .int (v3 + nI q * v4), .int (nI q), w7] [.int (v3 + nI q * v4)] (J, L, rR ru dr sr rd rl, 65, x)) = res d 214 40 [.ref 36, .int v1, .int v2, .int v3, .int v4, .int (v3 + nI q * v4), .int (nI q), w7] [.int (sgd v1 (v3 + nI q * v4))] (J, L, rR ru dr sr rd rl, 65, x) := fun J => by
      unfold sgd
      by_cases z : v1 = 0
      · rw [if_pos z, if_pos z]
      · rw [if_neg z, if_neg z]
        by_cases y : v1 = nI 1
        · rw [if_pos y, if_pos y]
        · rw [if_neg y, if_neg y]
    rw [l214_24, hP, if_neg (by rw [nI_leI (by omega) (by omega)]; omega), es, e214_40, hn.1]
    by_cases z : v1 = nI 3
    · rw [if_pos z, e214_50, e214_57, if_pos (ak_37 (by omega)), nI_clamp (by omega), mulK, nI_add]
      unfold shw
      rw [if_pos (Or.inl z)]
    · rw [if_neg z]
      by_cases y : nI q < v2
      · rw [if_pos y, e214_57, if_pos (ak_37 (by omega)), nI_clamp (by omega), mulK, nI_add]
        unfold shw
        rw [if_neg (fun e => e.elim z (fa_of_lt y).2.1)]
      · rw [if_neg y, e214_50, e214_57, if_pos (ak_37 (by omega)), nI_clamp (by omega), mulK, nI_add]
        unfold shw
        rw [if_pos (Or.inr (Int32.not_lt.mp y))]
theorem n214 {v1 v2 v3 v4 : Int32} (h : mInv I L rl T R S f g p a n t l u kp cl si rn rt) (hw : wInv R S f g p a T u kp) : ∃ I', cal d 214 [.ref 36, .int v1, .int v2, .int v3, .int v4] (I, L, rR ru dr sr rd rl, 65, x) = some (some (.int (shA p a v1 v2 v3 v4).1), (I', L, rR ru dr sr rd rl, 65, x)) ∧ mInv I' L rl T R S f g p ((shA p a v1 v2 v3 v4).2) n t l u kp cl si rn rt := by
  obtain ⟨hI, hP, hA, hT, hO, hU, hK, hC, hS, hl, hR⟩ := h
  obtain ⟨hc, hw, hu, hk⟩ := hw
  have f0 : fM [] [] I (zup I 36 10 (nI 0)) := f10
  have hp := hw.1
  have hA0 : mSt (zup I 36 10 (nI 0)) 37 a := f0.st hA (by decide) rfl
  have es0 : shs (shw v1 v2 v3 v4) a 0 = a := funext fun k => if_neg (Nat.not_lt_zero k)
  obtain ⟨I1, e1, h1, f1⟩ := l214 (d := d) (L := L) (ru := ru) (dr := dr) (sr := sr) (rd := rd) (rl := rl) (x := x) (v1 := v1) (v2 := v2) (v3 := v3) (v4 := v4) hp (fun o h1 h2 => (hw.2.2.1 o h2 h1).1) p 0 (zup I 36 10 (nI 0)) .null (by omega) (f0.fp hP (by decide)) (by rw [es0]; exact hA0)
  have f5 : fM [37] [] I I1 := (f0.mono (by decide) (by decide)).tr f1
  rw [show v3 + nI 0 * v4 = v3 by rw [show nI 0 * v4 = 0 from Int32.zero_mul, Int32.add_zero]] at e1
  rw [k214]
  by_cases z : nI 0 ≤ v1 ∧ v1 ≤ nI 3
  · have z1 : ¬ v1 < 0 := fun q => (fa_of_lt q).2.1 z.1
    have z2 : ¬ nI 3 < v1 := fun q => (fa_of_lt q).2.1 z.2
    rw [m179t z, bI_i, e214_7, if_neg (by decide)]
    by_cases y : v2 ≤ nI 4
    · have y1 : ¬ nI 4 < v2 := fun q => (fa_of_lt q).2.1 y
      have e0 : ¬ (v1 < 0 ∨ nI 3 < v1 ∨ nI 4 < v2) := fun q => q.elim z1 fun q => q.elim z2 y1
      rw [if_pos y]
      by_cases w : nI 3 ≤ v1
      · have w3 : v1 = nI 3 := Int32.le_antisymm z.2 w
        have es : shA p a v1 v2 v3 v4 = (if v1 = nI 3 then -(nI 3) else nI (sm (shs (shw v1 v2 v3 v4) a p) 0 p), shs (shw v1 v2 v3 v4) a p) := by unfold shA; rw [if_neg e0, if_neg (fun q => q.1 w3)]
        rw [if_pos w, es]
        exact ⟨I1, e1, ⟨f5.ct hI (by decide), f5.fp hP (by decide), h1, f5.tx hT (by decide), f5.to hO (by decide) rfl, f5.un hU (by decide), f5.kp' hK (by decide), f5.clu hC (by decide), f5.sig hS (by decide), hl, f5.rr hl hR (by decide)⟩⟩
      · have w3 : v1 ≠ nI 3 := fun q => w (by rw [q]; exact Int32.le_refl _)
        rw [if_neg w]
        by_cases t2 : 0 ≤ v2
        · have es : shA p a v1 v2 v3 v4 = (if v1 = nI 3 then -(nI 3) else nI (sm (shs (shw v1 v2 v3 v4) a p) 0 p), shs (shw v1 v2 v3 v4) a p) := by unfold shA; rw [if_neg e0, if_neg (fun q => (fa_of_lt q.2).2.1 t2)]
          rw [if_pos t2, es]
          exact ⟨I1, e1, ⟨f5.ct hI (by decide), f5.fp hP (by decide), h1, f5.tx hT (by decide), f5.to hO (by decide) rfl, f5.un hU (by decide), f5.kp' hK (by decide), f5.clu hC (by decide), f5.sig hS (by decide), hl, f5.rr hl hR (by decide)⟩⟩
        · have es : shA p a v1 v2 v3 v4 = (-(nI 2), a) := by unfold shA; rw [if_neg e0, if_pos ⟨w3, Int32.not_le.mp t2⟩]
          rw [if_neg t2, es]
          exact ⟨_, rfl, ⟨f0.ct hI (by decide), f0.fp hP (by decide), f0.st hA (by decide) rfl, f0.tx hT (by decide), f0.to hO (by decide) rfl, f0.un hU (by decide), f0.kp' hK (by decide), f0.clu hC (by decide), f0.sig hS (by decide), hl, f0.rr hl hR (by decide)⟩⟩
    · have es : shA p a v1 v2 v3 v4 = (-(nI 1), a) := by unfold shA; rw [if_pos (Or.inr (Or.inr (Int32.not_le.mp y)))]
      rw [if_neg y, es]
      exact ⟨_, rfl, ⟨f0.ct hI (by decide), f0.fp hP (by decide), f0.st hA (by decide) rfl, f0.tx hT (by decide), f0.to hO (by decide) rfl, f0.un hU (by decide), f0.kp' hK (by decide), f0.clu hC (by decide), f0.sig hS (by decide), hl, f0.rr hl hR (by decide)⟩⟩
  · have es : shA p a v1 v2 v3 v4 = (-(nI 1), a) := by
      unfold shA
      rw [if_pos]
      by_cases z1 : v1 < 0
      · exact Or.inl z1
      · exact Or.inr (Or.inl (Int32.not_le.mp fun q => z ⟨Int32.not_lt.mp z1, q⟩))
    rw [m179f z, bI_i, e214_7, if_pos (show nI 0 = 0 from rfl), es]
    exact ⟨_, rfl, ⟨f0.ct hI (by decide), f0.fp hP (by decide), f0.st hA (by decide) rfl, f0.tx hT (by decide), f0.to hO (by decide) rfl, f0.un hU (by decide), f0.kp' hK (by decide), f0.clu hC (by decide), f0.sig hS (by decide), hl, f0.rr hl hR (by decide)⟩⟩

end
