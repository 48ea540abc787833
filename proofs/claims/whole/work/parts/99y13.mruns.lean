section
variable {I : Nat → Nat → Int32} {L : Nat → Nat → Int64} {ru dr : Nat} {sr : Nat → Option Nat} {rd : Option Nat} {rl x : Nat}
variable {d R S p n T rn : Nat} {f g rt : Nat → Nat} {a : zP} {t : Nat → Nat} {l : List Int64} {u : List zP} {kp : Nat → Option zP} {cl : List (Nat × Nat)} {si : List (Nat × Int32)} {cs : zC}

theorem sub52 {J : Nat → Nat → Int32} (h : fM [52] [] I J) (hA : mSt I 37 a) : mSt J 37 a := h.st hA (by decide) rfl
theorem hqq {W : List Nat} {F : List Nat} {c : Nat} {J : Nat → Nat → Int32} (hrl : rl = 44 ∨ rl = 45) (hq : mQ I rl c R S f g p a rn rt) (hf : fM W F I J) (hc : msc c = false ∧ c ∉ W) (hW : 38 ∉ W ∧ 39 ∉ W ∧ 2 ∉ F ∧ 3 ∉ F) (hF : 1 ∉ F ∧ 20 ∉ F ∧ 44 ∉ W ∧ 45 ∉ W) : mQ J rl c R S f g p a rn rt := hq.fr hrl hc.1 hf hW ⟨hF.1, hF.2.1, hc.2, by rcases hrl with rfl | rfl <;> first | exact hF.2.2.1 | exact hF.2.2.2⟩
theorem q52 (hrl : rl = 44 ∨ rl = 45) (hq : mQ I rl 37 R S f g p a rn rt) : ∃ I', cal d 221 [.ref 37, .ref 52, .int (nI 0)] (I, L, rR ru dr sr rd rl, 65, x) = some (none, (I', L, rR ru dr sr rd rl, 65, x)) ∧ mQ I' rl 52 R S f g p a rn rt ∧ fM [52] [] I I' := by
  obtain ⟨I1, e1, h1, f1⟩ := m221s (d := d) (L := L) (ru := ru) (dr := dr) (sr := sr) (rd := rd) (rl := rl) (x := x) (c0 := 37) (c1 := 52) ⟨rfl, Or.inr rfl⟩ hq.2.2.1
  have q1 := hqq hrl hq f1 (by decide) (by decide) (by decide)
  exact ⟨I1, e1, ⟨q1.1, q1.2.1, h1, q1.2.2.2⟩, f1⟩
/-! later -/
theorem l257 {N : Nat} {v1 : Int32} (hd : 41 ≤ d) (hrl : rl = 44 ∨ rl = 45) (hct : zCt R S f g) (hw : zWf p S T a) (hp0 : 0 < p) (hT1 : T + 100 < 2 ^ 24) (hcs : (prs rt rn).2 = some cs) (hN : N ≤ 99) : ∀ j i (I : Nat → Nat → Int32) (L : Nat → Nat → Int64) (rd : Option Nat), i + j = N → mQ I rl 52 R S f g p (tn R S f g cs p i a) rn rt → ∃ I' L' rd', res d 257 22 [.ref 36, .int v1, .int (nI N), .int (nI i)] [] (I, L, rR ru dr sr rd rl, 65, x) = res d 257 22 [.ref 36, .int v1, .int (nI N), .int (nI N)] [] (I', L', rR ru dr sr rd' rl, 65, x) ∧ mQ I' rl 52 R S f g p (tn R S f g cs p N a) rn rt ∧ fM [52] [] I I'
  | 0, i, I, L, rd, hi, hq => by
    have : i = N := by omega
    subst this
    exact ⟨I, L, rd, rfl, hq, fM.rf⟩
  | j + 1, i, I, L, rd, hi, hq => by
    have hw1 := tn_wf hct hp0 cs i T a hw (by omega)
    obtain ⟨I1, L1, rd1, e1, q1, -, f1, g1⟩ := q225 (d := d) (L := L) (ru := ru) (dr := dr) (sr := sr) (rd := rd) (rl := rl) (x := x) (c := 52) hd hrl hct (Or.inr rfl) hq hw1 hp0 (by omega) hcs
    rw [← tn_s] at q1
    obtain ⟨I2, L2, rd2, e2, q2, f2⟩ := l257 (v1 := v1) hd hrl hct hw hp0 hT1 hcs hN j (i + 1) I1 L1 rd1 (by omega) q1
    refine ⟨I2, L2, rd2, ?_, q2, f1.tr f2⟩
    rw [l257_22, if_neg (by rw [nI_leI (by omega) (by omega)]; omega), e1, bI_i, e257_29, nI_add, e2]
theorem n257 {v w : Int32} (h : mInv I L rl T R S f g p a n t l u kp cl si rn rt) (hw : wInv R S f g p a T u kp) (hd : 41 ≤ d) (hcs : (prs rt rn).2 = some cs) (hT1 : T + 100 < 2 ^ 24) : ∃ I' L' rd', cal d 257 [.ref 36, .int v, .int w] (I, L, rR ru dr sr rd rl, 65, x) = some (some (.int (ltA R S f g cs p a v w).1), (I', L', rR ru dr sr rd' rl, 65, x)) ∧ mInv I' L' rl T R S f g p a n t ((ltA R S f g cs p a v w).2.getD l) u kp cl si rn rt := by
  have hq := h.q
  obtain ⟨hI, hP, hA, hT, hO, hU, hK, hC, hS, hl, hR⟩ := h
  obtain ⟨hc, hw, hu, hk⟩ := hw
  have f0 : fM [] [] I (zup I 36 10 (nI 0)) := f10
  have hp := hw.1
  have hP0 := f0.fp hP (by decide)
  unfold ltA
  rw [k257, m183 hP0 hp, bI_i, e257_6]
  cases z : inr p v with
  | none =>
    rw [if_pos (show nI (if (none : Option Nat).isSome = true then 1 else 0) = 0 from rfl)]
    exact ⟨_, L, rd, rfl, ⟨f0.ct hI (by decide), f0.fp hP (by decide), f0.st hA (by decide) rfl, f0.tx hT (by decide), f0.to hO (by decide) rfl, f0.un hU (by decide), f0.kp' hK (by decide), f0.clu hC (by decide), f0.sig hS (by decide), hl, f0.rr hl hR (by decide)⟩⟩
  | some q =>
    obtain ⟨hqp, rfl⟩ := inr_s (by omega) z
    rw [if_neg (show ¬ nI (if (some q).isSome = true then 1 else 0) = 0 by show ¬ nI 1 = 0; decide), m179z (by decide), bI_i, e257_11]
    cases y : inr 100 w with
    | none =>
      rw [if_pos (show nI (if (none : Option Nat).isSome = true then 1 else 0) = 0 from rfl)]
      exact ⟨_, L, rd, rfl, ⟨f0.ct hI (by decide), f0.fp hP (by decide), f0.st hA (by decide) rfl, f0.tx hT (by decide), f0.to hO (by decide) rfl, f0.un hU (by decide), f0.kp' hK (by decide), f0.clu hC (by decide), f0.sig hS (by decide), hl, f0.rr hl hR (by decide)⟩⟩
    | some k =>
      obtain ⟨hk100, rfl⟩ := inr_s (by decide) y
      obtain ⟨I1, e1, q1, f1⟩ := q52 (d := d) (L := L) (ru := ru) (dr := dr) (sr := sr) (rd := rd) (rl := rl) (x := x) (Or.inl hl) (hqq (Or.inl hl) hq f0 (by decide) (by decide) (by decide))
      obtain ⟨I2, L2, rd2, e2, q2, f2⟩ := l257 (d := d) (ru := ru) (dr := dr) (sr := sr) (rl := rl) (x := x) (v1 := nI q) hd (Or.inl hl) hc hw (show 0 < p by omega) hT1 hcs (show k ≤ 99 by omega) k 0 I1 L rd (by omega) q1
      have hw2 := tn_wf hc (show 0 < p by omega) cs k T a hw (by omega)
      have hb := hw2.2.1 q (by omega)
      have hS16 := hc.S16
      obtain ⟨I3, L3, e3, h3, f3, g3, i3⟩ := mt1 (d := d) (I := I2) (L := L2) (rd := rd2) (ru := ru) (dr := dr) (sr := sr) (rl := rl) (x := x) (v := lN (tn R S f g cs p k a (20 + q)))
      obtain ⟨I4, L4, e4, h4, f4, g4, i4⟩ := mt2 (d := d) (I := I3) (L := L3) (rd := rd2) (ru := ru) (dr := dr) (sr := sr) (rl := rl) (x := x) (w := lN (tn R S f g cs p k a (16 + q))) h3
      have ft : fM [52] [9] I I4 := (f0.mono (by decide) (by decide)).tr ((f1.mono (by decide) (by decide)).tr ((f2.mono (by decide) (by decide)).tr ((f3.tr f4).mono (by decide) (by decide))))
      have hto := h4
      have k20 : I2 52 (20 + q) = nI (tn R S f g cs p k a (20 + q)) := q2.2.2.1 _ (by omega)
      have k16 : I3 52 (16 + q) = nI (tn R S f g cs p k a (16 + q)) := by rw [i3 52 (by decide)]; exact q2.2.2.1 _ (by omega)
      have k8 : I4 52 (8 + q) = nI (tn R S f g cs p k a (8 + q)) := by rw [i4 52 (by decide), i3 52 (by decide)]; exact q2.2.2.1 _ (by omega)
      rw [if_neg (show ¬ nI (if (some k).isSome = true then 1 else 0) = 0 by show ¬ nI 1 = 0; decide), e1, bV_n, e257_20, e2, l257_22, if_pos (Int32.le_refl _), nI_add, if_pos (ak_52 (by omega)), nI_clamp (by omega), k20, nI_l (by omega), e3, bV_n, e257_44, nI_add, if_pos (ak_52 (by omega)), nI_clamp (by omega), k16, nI_l (by omega), e4, bV_n, e257_53, nI_add, if_pos (ak_52 (by omega)), nI_clamp (by omega), k8]
      exact ⟨I4, L4, rd2, rfl, ⟨ft.ct hI (by decide), ft.fp hP (by decide), ft.st hA (by decide) rfl, ft.tx hT (by decide), hto, ft.un hU (by decide), ft.kp' hK (by decide), ft.clu hC (by decide), ft.sig hS (by decide), hl, ft.rr hl hR (by decide)⟩⟩
/-! when -/
theorem l258 {q : Nat} (hd : 41 ≤ d) (hrl : rl = 44 ∨ rl = 45) (hct : zCt R S f g) (hw : zWf p S T a) (hp0 : 0 < p) (hT1 : T + 100 < 2 ^ 24) (hcs : (prs rt rn).2 = some cs) (hq4 : q < p) : ∀ j k (I : Nat → Nat → Int32) (L : Nat → Nat → Int64) (rd : Option Nat) T0 (b : zP), k + j = 100 → zWf p S T0 b → T0 + j < 2 ^ 24 → mQ I rl 52 R S f g p b rn rt → mSt I 37 a → ∃ I' L' rd', (match whn R S f g cs p (a (20 + q)) q j k b with
    | none => res d 258 17 [.ref 36, .int (nI q), .int (nI k)] [] (I, L, rR ru dr sr rd rl, 65, x) = some (some (.int (-(nI 2))), (I', L', rR ru dr sr rd' rl, 65, x)) ∧ fM [52] [] I I' ∧ ∀ c, c ≠ 48 → L' c = L c
    | some e => res d 258 17 [.ref 36, .int (nI q), .int (nI k)] [] (I, L, rR ru dr sr rd rl, 65, x) = some (some (.int (nI e.1)), (I', L', rR ru dr sr rd' rl, 65, x)) ∧ mTo I' L' [lN e.2] ∧ fM [52] [9] I I')
  | 0, k, I, L, rd, T0, b, hk, hb, hT, hq, hA => ⟨I, L, rd, by rw [l258_17, if_pos (by rw [nI_ltI (by omega) (by omega)]; omega)], fM.rf, fun _ _ => rfl⟩
  | j + 1, k, I, L, rd, T0, b, hk, hb, hT, hq, hA => by
    have hp := hw.1
    obtain ⟨I1, L1, rd1, e1, q1, -, f1, g1⟩ := q225 (d := d) (L := L) (ru := ru) (dr := dr) (sr := sr) (rd := rd) (rl := rl) (x := x) (c := 52) hd hrl hct (Or.inr rfl) hq hb hp0 (by omega) hcs
    have hA1 := sub52 f1 hA
    have hw1 := thr_wf hct hb hp0 (by omega) cs
    have b1 := (hw1.2.1 q (by omega)).2.2.2.2.2
    have b2 := (hw.2.1 q (by omega)).2.2.2.2.2
    have k52 : I1 52 (20 + q) = nI (thr R S f g cs p b (20 + q)) := q1.2.2.1 _ (by omega)
    have k37 : I1 37 (20 + q) = nI (a (20 + q)) := hA1 _ (by omega)
    have e0 : res d 258 17 [.ref 36, .int (nI q), .int (nI k)] [] (I, L, rR ru dr sr rd rl, 65, x) = (if nI (a (20 + q)) < nI (thr R S f g cs p b (20 + q)) then bI (cal d 213 [.ref 52, .int (nI 16)] (zup I1 36 9 (nI 0), L1, rR ru dr sr rd1 rl, 65, x)) (fun r1 h1 => res d 258 47 [.ref 36, .int (nI q), .int (nI k)] [.int r1, .ref 36] h1) else res d 258 17 [.ref 36, .int (nI q), .int (nI (k + 1))] [] (I1, L1, rR ru dr sr rd1 rl, 65, x)) := by
      rw [l258_17, if_neg (by rw [nI_ltI (by omega) (by omega)]; omega), e1, bI_i, e258_24, nI_add, if_pos (ak_52 (by omega)), if_pos (ak_37 (by omega)), nI_clamp (by omega), k52, k37, nI_add]
    unfold whn
    by_cases z : a (20 + q) < thr R S f g cs p b (20 + q)
    · rw [if_pos z]
      have hsm := sm_le (p := p) (b := thr R S f g cs p b) (w := 16) (c := 99) (fun q hq => (hw1.2.1 q (by omega)).2.2.2.2.1)
      obtain ⟨I3, L3, e3, h3, f3, g3, i3⟩ := mt1 (d := d) (I := I1) (L := L1) (rd := rd1) (ru := ru) (dr := dr) (sr := sr) (rl := rl) (x := x) (v := lN (sm (thr R S f g cs p b) 16 p))
      have h396 : p * 99 ≤ 396 := by omega
      refine ⟨I3, L3, rd1, ?_, h3, (f1.mono (by decide) (by decide)).tr (f3.mono (by decide) (by decide))⟩
      rw [e0, if_pos (by rw [nI_ltI (by omega) (by omega)]; omega), m213 (Or.inr rfl) (q1.2.2.1.congr (zup_ne _ _ _ (by decide))) (by decide) hp (fun o h1 h2 => (hw1.2.2.1 o h2 h1).2.2.2.2.1), bI_i, e258_47, nI_l (by omega), e3, bV_n, e258_49]
    · rw [if_neg z]
      obtain ⟨I2, L2, rd2, h2⟩ := l258 (q := q) hd hrl hct hw hp0 hT1 hcs hq4 j (k + 1) I1 L1 rd1 (T0 + 1) (thr R S f g cs p b) (by omega) hw1 (by omega) q1 hA1
      refine ⟨I2, L2, rd2, ?_⟩
      rw [e0, if_neg (by rw [nI_ltI (by omega) (by omega)]; omega)]
      cases y : whn R S f g cs p (a (20 + q)) q j (k + 1) (thr R S f g cs p b) with
      | none => rw [y] at h2; exact ⟨h2.1, f1.tr h2.2.1, fun c hc => (h2.2.2 c hc).trans (g1 c hc)⟩
      | some e => rw [y] at h2; exact ⟨h2.1, h2.2.1, (f1.mono (by decide) (by decide)).tr h2.2.2⟩
theorem n258 {v : Int32} (h : mInv I L rl T R S f g p a n t l u kp cl si rn rt) (hw : wInv R S f g p a T u kp) (hd : 41 ≤ d) (hcs : (prs rt rn).2 = some cs) (hT1 : T + 100 < 2 ^ 24) : ∃ I' L' rd', cal d 258 [.ref 36, .int v] (I, L, rR ru dr sr rd rl, 65, x) = some (some (.int (whA R S f g cs p a v).1), (I', L', rR ru dr sr rd' rl, 65, x)) ∧ mInv I' L' rl T R S f g p a n t ((whA R S f g cs p a v).2.getD l) u kp cl si rn rt := by
  have hq := h.q
  obtain ⟨hI, hP, hA, hT, hO, hU, hK, hC, hS, hl, hR⟩ := h
  obtain ⟨hc, hw, hu, hk⟩ := hw
  have f0 : fM [] [] I (zup I 36 10 (nI 0)) := f10
  have hp := hw.1
  have hP0 := f0.fp hP (by decide)
  unfold whA
  rw [k258, m183 hP0 hp, bI_i, e258_6]
  cases z : inr p v with
  | none =>
    rw [if_pos (show nI (if (none : Option Nat).isSome = true then 1 else 0) = 0 from rfl)]
    exact ⟨_, L, rd, rfl, ⟨f0.ct hI (by decide), f0.fp hP (by decide), f0.st hA (by decide) rfl, f0.tx hT (by decide), f0.to hO (by decide) rfl, f0.un hU (by decide), f0.kp' hK (by decide), f0.clu hC (by decide), f0.sig hS (by decide), hl, f0.rr hl hR (by decide)⟩⟩
  | some q =>
    obtain ⟨hqp, rfl⟩ := inr_s (by omega) z
    obtain ⟨I1, e1, q1, f1⟩ := q52 (d := d) (L := L) (ru := ru) (dr := dr) (sr := sr) (rd := rd) (rl := rl) (x := x) (Or.inl hl) (hqq (Or.inl hl) hq f0 (by decide) (by decide) (by decide))
    obtain ⟨I2, L2, rd2, h2⟩ := l258 (d := d) (ru := ru) (dr := dr) (sr := sr) (rl := rl) (x := x) (q := q) hd (Or.inl hl) hc hw (show 0 < p by omega) hT1 hcs hqp 99 1 I1 L rd T a (by omega) hw (by omega) q1 (sub52 f1 (f0.st hA (by decide) rfl))
    rw [if_neg (show ¬ nI (if (some q).isSome = true then 1 else 0) = 0 by show ¬ nI 1 = 0; decide), e1, bV_n, e258_15]
    dsimp only
    cases y : whn R S f g cs p (a (20 + q)) q 99 1 a with
    | none =>
      rw [y] at h2
      have fh : fM [52] [] I I2 := (f0.mono (by decide) (by decide)).tr (f1.tr h2.2.1)
      have hL41 : L2 41 = L 41 := h2.2.2 41 (by decide)
      exact ⟨I2, L2, rd2, h2.1, ⟨fh.ct hI (by decide), fh.fp hP (by decide), fh.st hA (by decide) rfl, fh.tx hT (by decide), fh.to hO (by decide) hL41, fh.un hU (by decide), fh.kp' hK (by decide), fh.clu hC (by decide), fh.sig hS (by decide), hl, fh.rr hl hR (by decide)⟩⟩
    | some e =>
      rw [y] at h2
      have ft : fM [52] [9] I I2 := (f0.mono (by decide) (by decide)).tr ((f1.mono (by decide) (by decide)).tr h2.2.2)
      have hto := h2.2.1
      exact ⟨I2, L2, rd2, h2.1, ⟨ft.ct hI (by decide), ft.fp hP (by decide), ft.st hA (by decide) rfl, ft.tx hT (by decide), hto, ft.un hU (by decide), ft.kp' hK (by decide), ft.clu hC (by decide), ft.sig hS (by decide), hl, ft.rr hl hR (by decide)⟩⟩
/-! run -/
theorem l259 {N : Nat} (hd : 41 ≤ d) (hrl : rl = 44 ∨ rl = 45) (hct : zCt R S f g) (hw : zWf p S T a) (hp0 : 0 < p) (hT1 : T + 100 < 2 ^ 24) (hcs : (prs rt rn).2 = some cs) (hN : N ≤ 99) : ∀ j i (I : Nat → Nat → Int32) (L : Nat → Nat → Int64) (rd : Option Nat), i + j = N → mQ I rl 52 R S f g p (tn R S f g cs p i a) rn rt → ∃ I' L' rd', res d 259 27 [.ref 36, .int (nI N), .int (nI (lrs (fun i => thb R S f g cs (tn R S f g cs p i a)) 1 i).1), .int (nI (lrs (fun i => thb R S f g cs (tn R S f g cs p i a)) 1 i).2.1), .int (nI (lrs (fun i => thb R S f g cs (tn R S f g cs p i a)) 1 i).2.2), .int (nI (i + 1))] [] (I, L, rR ru dr sr rd rl, 65, x) = res d 259 27 [.ref 36, .int (nI N), .int (nI (lrs (fun i => thb R S f g cs (tn R S f g cs p i a)) 1 N).1), .int (nI (lrs (fun i => thb R S f g cs (tn R S f g cs p i a)) 1 N).2.1), .int (nI (lrs (fun i => thb R S f g cs (tn R S f g cs p i a)) 1 N).2.2), .int (nI (N + 1))] [] (I', L', rR ru dr sr rd' rl, 65, x) ∧ fM [52] [] I I'
  | 0, i, I, L, rd, hi, hq => by
    have : i = N := by omega
    subst this
    exact ⟨I, L, rd, rfl, fM.rf⟩
  | j + 1, i, I, L, rd, hi, hq => by
    have hw1 := tn_wf hct hp0 cs i T a hw (by omega)
    obtain ⟨I1, L1, rd1, e1, q1, -, f1, g1⟩ := q225 (d := d) (L := L) (ru := ru) (dr := dr) (sr := sr) (rd := rd) (rl := rl) (x := x) (c := 52) hd hrl hct (Or.inr rfl) hq hw1 hp0 (by omega) hcs
    rw [← tn_s] at q1
    obtain ⟨I2, L2, rd2, e2, f2⟩ := l259 hd hrl hct hw hp0 hT1 hcs hN j (i + 1) I1 L1 rd1 (by omega) q1
    obtain ⟨i1, i2, i3⟩ := lrs_le (fun i => thb R S f g cs (tn R S f g cs p i a)) 1 i
    refine ⟨I2, L2, rd2, ?_, f1.tr f2⟩
    rw [l259_27, if_neg (by rw [nI_ltI (by omega) (by omega)]; omega), e1, bI_i, e259_34]
    rw [lrs] at e2
    have hP : (fun i => thb R S f g cs (tn R S f g cs p i a)) i = thb R S f g cs (tn R S f g cs p i a) := rfl
    cases z : thb R S f g cs (tn R S f g cs p i a) with
    | true =>
      rw [z] at hP
      rw [if_pos hP] at e2
      rw [if_neg (show ¬ nI (if true = true then 1 else 0) = 0 by decide), nI_add, e259_40]
      by_cases y : (lrs (fun i => thb R S f g cs (tn R S f g cs p i a)) 1 i).2.2 + 1 ≤ (lrs (fun i => thb R S f g cs (tn R S f g cs p i a)) 1 i).1
      · rw [if_pos y] at e2
        rw [if_neg (by rw [nI_ltI (by omega) (by omega)]; omega), nI_add]
        exact e2
      · rw [if_neg y] at e2
        rw [if_pos (by rw [nI_ltI (by omega) (by omega)]; omega), zfst (by omega), nI_add]
        dsimp only at e2
        rw [show 1 + i + 1 = i + 1 + 1 by omega] at e2
        exact e2
    | false =>
      rw [if_neg (show ¬ thb R S f g cs (tn R S f g cs p i a) = true by rw [z]; exact Bool.false_ne_true), if_pos (Nat.zero_le _)] at e2
      rw [if_pos (show nI (if false = true then 1 else 0) = 0 from rfl), e259_40, if_neg (by rw [nI_ltI (by omega) (by omega)]; omega), nI_add]
      exact e2
theorem n259 {v : Int32} (h : mInv I L rl T R S f g p a n t l u kp cl si rn rt) (hw : wInv R S f g p a T u kp) (hd : 41 ≤ d) (hcs : (prs rt rn).2 = some cs) (hT1 : T + 100 < 2 ^ 24) : ∃ I' L' rd', cal d 259 [.ref 36, .int v] (I, L, rR ru dr sr rd rl, 65, x) = some (some (.int (rnA R S f g cs p a v).1), (I', L', rR ru dr sr rd' rl, 65, x)) ∧ mInv I' L' rl T R S f g p a n t ((rnA R S f g cs p a v).2.getD l) u kp cl si rn rt := by
  have hq := h.q
  obtain ⟨hI, hP, hA, hT, hO, hU, hK, hC, hS, hl, hR⟩ := h
  obtain ⟨hc, hw, hu, hk⟩ := hw
  have f0 : fM [] [] I (zup I 36 10 (nI 0)) := f10
  have hp := hw.1
  have hP0 := f0.fp hP (by decide)
  unfold rnA
  rw [k259, m179l, bI_i, e259_7]
  cases z : inl 1 99 v with
  | none =>
    rw [if_pos (show nI (if (none : Option Nat).isSome = true then 1 else 0) = 0 from rfl)]
    exact ⟨_, L, rd, rfl, ⟨f0.ct hI (by decide), f0.fp hP (by decide), f0.st hA (by decide) rfl, f0.tx hT (by decide), f0.to hO (by decide) rfl, f0.un hU (by decide), f0.kp' hK (by decide), f0.clu hC (by decide), f0.sig hS (by decide), hl, f0.rr hl hR (by decide)⟩⟩
  | some k =>
    obtain ⟨k1, k2, rfl⟩ := inl_s (by decide) (by decide) z
    rw [if_neg (show ¬ nI (if (some k).isSome = true then 1 else 0) = 0 by show ¬ nI 1 = 0; decide), hP0]
    dsimp only
    by_cases y : p = 0
    · rw [if_pos ((nI_z (by omega)).mpr y), if_pos y]
      exact ⟨_, L, rd, rfl, ⟨f0.ct hI (by decide), f0.fp hP (by decide), f0.st hA (by decide) rfl, f0.tx hT (by decide), f0.to hO (by decide) rfl, f0.un hU (by decide), f0.kp' hK (by decide), f0.clu hC (by decide), f0.sig hS (by decide), hl, f0.rr hl hR (by decide)⟩⟩
    · obtain ⟨I1, e1, q1, f1⟩ := q52 (d := d) (L := L) (ru := ru) (dr := dr) (sr := sr) (rd := rd) (rl := rl) (x := x) (Or.inl hl) (hqq (Or.inl hl) hq f0 (by decide) (by decide) (by decide))
      obtain ⟨I2, L2, rd2, e2, f2⟩ := l259 (d := d) (ru := ru) (dr := dr) (sr := sr) (rl := rl) (x := x) hd (Or.inl hl) hc hw (show 0 < p by omega) hT1 hcs (show k ≤ 99 by omega) k 0 I1 L rd (by omega) q1
      rw [show (lrs (fun i => thb R S f g cs (tn R S f g cs p i a)) 1 0) = (0, 0, 0) from rfl] at e2
      obtain ⟨i1, i2, i3⟩ := lrs_le (fun i => thb R S f g cs (tn R S f g cs p i a)) 1 k
      obtain ⟨I3, L3, e3, h3, f3, g3, -⟩ := mt1 (d := d) (I := I2) (L := L2) (rd := rd2) (ru := ru) (dr := dr) (sr := sr) (rl := rl) (x := x) (v := lN (lrs (fun i => thb R S f g cs (tn R S f g cs p i a)) 1 k).2.1)
      have ft : fM [52] [9] I I3 := (f0.mono (by decide) (by decide)).tr ((f1.mono (by decide) (by decide)).tr ((f2.mono (by decide) (by decide)).tr (f3.mono (by decide) (by decide))))
      have hto := h3
      rw [if_neg (by rw [nI_z (by omega)]; exact y), if_neg y, e1, bV_n, e259_25, e2, l259_27, if_pos (by rw [nI_ltI (by omega) (by omega)]; omega), nI_l (by omega), e3, bV_n, e259_62]
      exact ⟨I3, L3, rd2, rfl, ⟨ft.ct hI (by decide), ft.fp hP (by decide), ft.st hA (by decide) rfl, ft.tx hT (by decide), hto, ft.un hU (by decide), ft.kp' hK (by decide), ft.clu hC (by decide), ft.sig hS (by decide), hl, ft.rr hl hR (by decide)⟩⟩
/-! round -/
def mTr (I : Nat → Nat → Int32) (B : Nat → zP) (k : Nat) : Prop := ∀ j, j ≤ k → ∀ i, i < 26 → I 54 (26 * j + i) = nI (B j i)
def sm3 (b c : zP) (q : Nat) : Prop := b (8 + q) = c (8 + q) ∧ b (16 + q) = c (16 + q) ∧ b (20 + q) = c (20 + q)
theorem l260t {B : Nat → zP} {k j m : Nat} (hk : k ≤ 99) (hj : j ≤ k) (hB : mTr I B m) (hkm : k ≤ m) (he : ∀ q, q < 4 → sm3 (B j) (B k) q) : ∀ n q, q + n = 4 → res d 260 27 [.ref 36, .int (nI j), .int (nI k), .int (nI q)] [] (I, L, rR ru dr sr rd rl, 65, x) = some (some (.int (nI 1)), (I, L, rR ru dr sr rd rl, 65, x))
  | 0, q, h => by rw [l260_27, if_pos (by rw [nI_leI (by omega) (by omega)]; omega), if_pos zb1]
  | n + 1, q, h => by
    have ih := l260t hk hj hB hkm he n (q + 1) (by omega)
    obtain ⟨h1, h2, h3⟩ := he q (by omega)
    rw [l260_27, if_neg (by rw [nI_leI (by omega) (by omega)]; omega)]
    simp only [zmul, nI_add]
    rw [if_pos (ak_54 (by omega)), if_pos (ak_54 (by omega)), nI_clamp (by omega), nI_clamp (by omega), show 26 * j + 8 + q = 26 * j + (8 + q) by omega, show 26 * k + 8 + q = 26 * k + (8 + q) by omega, hB j (by omega) (8 + q) (by omega), hB k hkm (8 + q) (by omega), if_pos (by rw [h1])]
    rw [if_pos (ak_54 (by omega)), if_pos (ak_54 (by omega)), nI_clamp (by omega), nI_clamp (by omega), show 26 * j + 16 + q = 26 * j + (16 + q) by omega, show 26 * k + 16 + q = 26 * k + (16 + q) by omega, hB j (by omega) (16 + q) (by omega), hB k hkm (16 + q) (by omega), if_pos (by rw [h2])]
    rw [if_pos (ak_54 (by omega)), if_pos (ak_54 (by omega)), nI_clamp (by omega), nI_clamp (by omega), show 26 * j + 20 + q = 26 * j + (20 + q) by omega, show 26 * k + 20 + q = 26 * k + (20 + q) by omega, hB j (by omega) (20 + q) (by omega), hB k hkm (20 + q) (by omega), if_pos (by rw [h3])]
    exact ih
theorem l260f {B : Nat → zP} {k j m r : Nat} (hk : k ≤ 99) (hj : j ≤ k) (hB : mTr I B m) (hkm : k ≤ m) (hlt : ∀ i, i ≤ k → ∀ q, q < 26 → B i q < 2 ^ 31) (hr : r < 4) (he : ¬ sm3 (B j) (B k) r) : ∀ n q, q + n = 4 → q ≤ r → res d 260 27 [.ref 36, .int (nI j), .int (nI k), .int (nI q)] [] (I, L, rR ru dr sr rd rl, 65, x) = some (some (.int (nI 0)), (I, L, rR ru dr sr rd rl, 65, x))
  | 0, q, h, hqr => by omega
  | n + 1, q, h, hqr => by
    have ih := l260f hk hj hB hkm hlt hr he n (q + 1) (by omega)
    rw [l260_27, if_neg (by rw [nI_leI (by omega) (by omega)]; omega)]
    simp only [zmul, nI_add]
    rw [if_pos (ak_54 (by omega)), if_pos (ak_54 (by omega)), nI_clamp (by omega), nI_clamp (by omega), show 26 * j + 8 + q = 26 * j + (8 + q) by omega, show 26 * k + 8 + q = 26 * k + (8 + q) by omega, hB j (by omega) (8 + q) (by omega), hB k hkm (8 + q) (by omega)]
    by_cases h1 : B j (8 + q) = B k (8 + q)
    · rw [if_pos (by rw [h1]), if_pos (ak_54 (by omega)), if_pos (ak_54 (by omega)), nI_clamp (by omega), nI_clamp (by omega), show 26 * j + 16 + q = 26 * j + (16 + q) by omega, show 26 * k + 16 + q = 26 * k + (16 + q) by omega, hB j (by omega) (16 + q) (by omega), hB k hkm (16 + q) (by omega)]
      by_cases h2 : B j (16 + q) = B k (16 + q)
      · rw [if_pos (by rw [h2]), if_pos (ak_54 (by omega)), if_pos (ak_54 (by omega)), nI_clamp (by omega), nI_clamp (by omega), show 26 * j + 20 + q = 26 * j + (20 + q) by omega, show 26 * k + 20 + q = 26 * k + (20 + q) by omega, hB j (by omega) (20 + q) (by omega), hB k hkm (20 + q) (by omega)]
        by_cases h3 : B j (20 + q) = B k (20 + q)
        · rw [if_pos (by rw [h3])]
          refine ih (Nat.lt_of_le_of_ne hqr fun e => he ?_)
          rw [← e]
          exact ⟨h1, h2, h3⟩
        · rw [if_neg (by rw [nI_eq (hlt j hj _ (by omega)) (hlt k (Nat.le_refl _) _ (by omega))]; exact h3), if_pos zb0]
      · rw [if_neg (by rw [nI_eq (hlt j hj _ (by omega)) (hlt k (Nat.le_refl _) _ (by omega))]; exact h2), if_pos zb0]
    · rw [if_neg (by rw [nI_eq (hlt j hj _ (by omega)) (hlt k (Nat.le_refl _) _ (by omega))]; exact h1), if_pos zb0]
theorem tn_25 (R S : Nat) (f g : Nat → Nat) (cs : zC) (p : Nat) (a : zP) : ∀ k, tn R S f g cs p k a 25 = a 25 + k
  | 0 => rfl
  | k + 1 => by rw [tn_s, thr_25, tn_25 R S f g cs p a k]; rfl
theorem m260 {k j m : Nat} (hct : zCt R S f g) (hw : zWf p S T a) (hp0 : 0 < p) (hT1 : T + 100 < 2 ^ 24) (hk : k ≤ 99) (hj : j < k) (hB : mTr I (fun i => tn R S f g cs p i a) m) (hkm : k ≤ m) : cal d 260 [.ref 36, .int (nI j), .int (nI k)] (I, L, rR ru dr sr rd rl, 65, x) = some (some (.int (nI (if (fun j k => decide (mk (tn R S f g cs p j a) p = mk (tn R S f g cs p k a) p)) j k = true then 1 else 0))), (I, L, rR ru dr sr rd rl, 65, x)) := by
  have hS16 := hct.S16
  have wj := tn_wf hct hp0 cs j T a hw (by omega)
  have wk := tn_wf hct hp0 cs k T a hw (by omega)
  have hp := hw.1
  have hlt : ∀ i, i ≤ k → ∀ q, q < 26 → tn R S f g cs p i a q < 2 ^ 31 := fun i hi q hq => by
    have wi := tn_wf hct hp0 cs i T a hw (by omega)
    have h24 := wi.t hp0
    have h25 := wi.2.2.2.2.1
    rcases (show q < 24 ∨ q = 24 ∨ q = 25 by omega) with h | rfl | rfl
    · have := wi.2.1 (q % 4) (by omega)
      rcases (show q = q % 4 ∨ q = 4 + q % 4 ∨ q = 8 + q % 4 ∨ q = 12 + q % 4 ∨ q = 16 + q % 4 ∨ q = 20 + q % 4 by omega) with e | e | e | e | e | e
      · rw [e]; omega
      · rw [e]; omega
      · rw [e]; omega
      · rw [e]; have := p16 hS16 this.2.2.2.1; omega
      · rw [e]; omega
      · rw [e]; omega
    · omega
    · omega
  have hmk : mk (tn R S f g cs p j a) p = mk (tn R S f g cs p k a) p ↔ (k - j) % 7 = 0 ∧ tn R S f g cs p j a 24 = tn R S f g cs p k a 24 ∧ ∀ q, q < 4 → sm3 (tn R S f g cs p j a) (tn R S f g cs p k a) q := by
    rw [mk_alk hS16 wj wk p (Nat.le_refl _)]
    unfold alk
    rw [tn_25, tn_25]
    constructor
    · rintro ⟨h1, h2, h3⟩
      refine ⟨by omega, h2, fun q hq => ?_⟩
      by_cases z : q < p
      · exact ⟨(h3 q z).1, (h3 q z).2.2, (h3 q z).2.1⟩
      · have u1 := wj.2.2.1 q hq (by omega)
        have u2 := wk.2.2.1 q hq (by omega)
        exact ⟨by rw [u1.2.2.1, u2.2.2.1], by rw [u1.2.2.2.2.1, u2.2.2.2.2.1], by rw [u1.2.2.2.2.2, u2.2.2.2.2.2]⟩
    · rintro ⟨h1, h2, h3⟩
      exact ⟨by omega, h2, fun q hq => ⟨(h3 q (by omega)).1, (h3 q (by omega)).2.2, (h3 q (by omega)).2.1⟩⟩
  rw [k260, if_neg (by decide), zsub (by omega), zrem (by omega) (by decide) (by decide)]
  by_cases z1 : (k - j) % 7 = 0
  · rw [if_pos ((nI_z (by omega)).mpr z1), zmul, nI_add, zmul, nI_add, if_pos (ak_54 (by omega)), if_pos (ak_54 (by omega)), nI_clamp (by omega), nI_clamp (by omega), hB j (by omega) 24 (by omega), hB k hkm 24 (by omega)]
    by_cases z2 : tn R S f g cs p j a 24 = tn R S f g cs p k a 24
    · rw [if_pos (by dsimp only; rw [z2])]
      by_cases z3 : ∀ q, q < 4 → sm3 (tn R S f g cs p j a) (tn R S f g cs p k a) q
      · rw [if_pos (decide_eq_true (hmk.mpr ⟨z1, z2, z3⟩))]
        exact l260t hk (by omega) hB hkm z3 4 0 (by omega)
      · have : ∃ r, r < 4 ∧ ¬ sm3 (tn R S f g cs p j a) (tn R S f g cs p k a) r := Classical.byContradiction fun q => z3 fun r hr => Classical.byContradiction fun q2 => q ⟨r, hr, q2⟩
        obtain ⟨r, hr, hr2⟩ := this
        rw [if_neg (show ¬ (fun j k => decide (mk (tn R S f g cs p j a) p = mk (tn R S f g cs p k a) p)) j k = true from fun e => z3 (hmk.mp (of_decide_eq_true e)).2.2)]
        exact l260f hk (by omega) hB hkm hlt hr hr2 4 0 (by omega) (Nat.zero_le _)
    · rw [if_neg (by dsimp only; rw [nI_eq (hlt j (by omega) _ (by omega)) (hlt k (Nat.le_refl _) _ (by omega))]; exact z2), if_pos zb0, if_neg (show ¬ (fun j k => decide (mk (tn R S f g cs p j a) p = mk (tn R S f g cs p k a) p)) j k = true from fun e => z2 (hmk.mp (of_decide_eq_true e)).2.1)]
  · rw [if_neg (by rw [nI_z (by omega)]; exact z1), if_pos zb0, if_neg (show ¬ (fun j k => decide (mk (tn R S f g cs p j a) p = mk (tn R S f g cs p k a) p)) j k = true from fun e => z1 (hmk.mp (of_decide_eq_true e)).1)]
theorem l261i {k : Nat} (hct : zCt R S f g) (hw : zWf p S T a) (hp0 : 0 < p) (hT1 : T + 100 < 2 ^ 24) (hk : k ≤ 99) (hB : mTr I (fun i => tn R S f g cs p i a) k) : ∀ n j, j + n = k → (∀ i, i < j → (fun j k => decide (mk (tn R S f g cs p j a) p = mk (tn R S f g cs p k a) p)) i k = false) → res d 261 38 [.ref 36, .int (nI k), .int (nI j)] [] (I, L, rR ru dr sr rd rl, 65, x) = (if fa_first (fun j => (fun j k => decide (mk (tn R S f g cs p j a) p = mk (tn R S f g cs p k a) p)) j k) k < k then bV (cal d 182 [.ref 36, .long (lN (fa_first (fun j => (fun j k => decide (mk (tn R S f g cs p j a) p = mk (tn R S f g cs p k a) p)) j k) k))] (zup I 36 9 (nI 0), L, rR ru dr sr rd rl, 65, x)) (fun h1 => res d 261 54 [.ref 36, .int (nI k), .int (nI (fa_first (fun j => (fun j k => decide (mk (tn R S f g cs p j a) p = mk (tn R S f g cs p k a) p)) j k) k))] [] h1) else res d 261 17 [.ref 36, .int (nI (k + 1)), .int (nI k)] [] (I, L, rR ru dr sr rd rl, 65, x))
  | 0, j, hj, hn => by
    rw [l261_38, if_pos (by rw [nI_leI (by omega) (by omega)]; omega), if_neg (fa_first_end (fun i hi => hn i (by omega))), show j = k by omega, nI_add]
  | n + 1, j, hj, hn => by
    have ih := l261i hct hw hp0 hT1 hk hB n (j + 1) (by omega)
    rw [l261_38, if_neg (by rw [nI_leI (by omega) (by omega)]; omega), m260 hct hw hp0 hT1 hk (by omega) hB (Nat.le_refl _), bI_i, e261_45]
    cases z : (fun j k => decide (mk (tn R S f g cs p j a) p = mk (tn R S f g cs p k a) p)) j k with
    | true =>
      have e : fa_first (fun j => (fun j k => decide (mk (tn R S f g cs p j a) p = mk (tn R S f g cs p k a) p)) j k) k = j := fa_first_at (by omega) z (fun i hi => hn i hi)
      rw [if_neg (show ¬ nI (if true = true then 1 else 0) = 0 by decide), nI_l (by omega), e, if_pos (by omega)]
    | false =>
      rw [if_pos (show nI (if false = true then 1 else 0) = 0 from rfl), nI_add]
      exact ih fun i hi => by
        by_cases y : i = j
        · rw [y]; exact z
        · exact hn i (by omega)
theorem l261 (hd : 41 ≤ d) (hrl : rl = 44 ∨ rl = 45) (hct : zCt R S f g) (hw : zWf p S T a) (hp0 : 0 < p) (hT1 : T + 100 < 2 ^ 24) (hcs : (prs rt rn).2 = some cs) : ∀ n k (I : Nat → Nat → Int32) (L : Nat → Nat → Int64) (rd : Option Nat) (w2 : Value), k + n = 99 → mQ I rl 52 R S f g p (tn R S f g cs p k a) rn rt → mTr I (fun i => tn R S f g cs p i a) k → ∃ I' L' rd', (match rnd (fun j k => decide (mk (tn R S f g cs p j a) p = mk (tn R S f g cs p k a) p)) n (k + 1) with
    | none => res d 261 17 [.ref 36, .int (nI (k + 1)), w2] [] (I, L, rR ru dr sr rd rl, 65, x) = some (some (.int (-(nI 2))), (I', L', rR ru dr sr rd' rl, 65, x)) ∧ fM [52, 54] [] I I' ∧ ∀ c, c ≠ 48 → L' c = L c
    | some e => res d 261 17 [.ref 36, .int (nI (k + 1)), w2] [] (I, L, rR ru dr sr rd rl, 65, x) = some (some (.int (nI e.1)), (I', L', rR ru dr sr rd' rl, 65, x)) ∧ mTo I' L' [lN e.2] ∧ fM [52, 54] [9] I I')
  | 0, k, I, L, rd, w2, hk, hq, hB => ⟨I, L, rd, by rw [l261_17, if_pos (by rw [nI_ltI (by omega) (by omega)]; omega)], fM.rf, fun _ _ => rfl⟩
  | n + 1, k, I, L, rd, w2, hk, hq, hB => by
    have hp := hw.1
    have hw1 := tn_wf hct hp0 cs k T a hw (by omega)
    obtain ⟨I1, L1, rd1, e1, q1, -, f1, g1⟩ := q225 (d := d) (L := L) (ru := ru) (dr := dr) (sr := sr) (rd := rd) (rl := rl) (x := x) (c := 52) hd hrl hct (Or.inr rfl) hq hw1 hp0 (by omega) hcs
    rw [← tn_s] at q1
    obtain ⟨I2, e2, p1, p2, p3⟩ := m221 (d := d) (L := L1) (rd := rd1) (ru := ru) (dr := dr) (sr := sr) (rl := rl) (x := x) (c0 := 52) (c1 := 54) (o := 26 * (k + 1)) (fun i hi => ak_52 hi) (fun i hi => ak_54 (by omega)) (by omega) (by decide) q1.2.2.1
    have f2 : fM [54] [] I1 I2 := ⟨fun c hc _ => p3 c (fun q => hc (List.mem_singleton.mpr q)), fun j _ _ => by rw [p3 36 (by decide)]⟩
    have q2 := hqq hrl q1 f2 (by decide) (by decide) (by decide)
    have hB2 : mTr I2 (fun i => tn R S f g cs p i a) (k + 1) := fun j hj i hi => by
      by_cases z : j = k + 1
      · rw [z]; exact p1 i hi
      · rw [p2 _ (by omega), f1.1 54 (by decide) rfl]; exact hB j (by omega) i hi
    have f12 : fM [52, 54] [] I I2 := (f1.mono (by decide) (by decide)).tr (f2.mono (by decide) (by decide))
    have ei := l261i (d := d) (L := L1) (rd := rd1) (ru := ru) (dr := dr) (sr := sr) (rl := rl) (x := x) (k := k + 1) hct hw hp0 hT1 (by omega) hB2 (k + 1) 0 (by omega) (fun i hi => absurd hi (Nat.not_lt_zero _))
    have e0 : res d 261 17 [.ref 36, .int (nI (k + 1)), w2] [] (I, L, rR ru dr sr rd rl, 65, x) = (if fa_first (fun j => (fun j k => decide (mk (tn R S f g cs p j a) p = mk (tn R S f g cs p k a) p)) j (k + 1)) (k + 1) < k + 1 then bV (cal d 182 [.ref 36, .long (lN (fa_first (fun j => (fun j k => decide (mk (tn R S f g cs p j a) p = mk (tn R S f g cs p k a) p)) j (k + 1)) (k + 1)))] (zup I2 36 9 (nI 0), L1, rR ru dr sr rd1 rl, 65, x)) (fun h1 => res d 261 54 [.ref 36, .int (nI (k + 1)), .int (nI (fa_first (fun j => (fun j k => decide (mk (tn R S f g cs p j a) p = mk (tn R S f g cs p k a) p)) j (k + 1)) (k + 1)))] [] h1) else res d 261 17 [.ref 36, .int (nI (k + 1 + 1)), .int (nI (k + 1))] [] (I2, L1, rR ru dr sr rd1 rl, 65, x)) := by
      rw [l261_17, if_neg (by rw [nI_ltI (by omega) (by omega)]; omega), hq.2.1, if_neg (by rw [nI_l0 (by omega)]; omega), e1, bI_i, e261_27, zmul, e2, bV_n, e261_36, ei]
    rw [rnd]
    by_cases z : fa_first (fun j => (fun j k => decide (mk (tn R S f g cs p j a) p = mk (tn R S f g cs p k a) p)) j (k + 1)) (k + 1) < k + 1
    · obtain ⟨I3, L3, e3, h3, f3, g3, -⟩ := mt1 (d := d) (I := I2) (L := L1) (rd := rd1) (ru := ru) (dr := dr) (sr := sr) (rl := rl) (x := x) (v := lN (fa_first (fun j => (fun j k => decide (mk (tn R S f g cs p j a) p = mk (tn R S f g cs p k a) p)) j (k + 1)) (k + 1)))
      rw [if_pos z]
      refine ⟨I3, L3, rd1, ?_, h3, (f12.mono (by decide) (by decide)).tr (f3.mono (by decide) (by decide))⟩
      rw [e0, if_pos z, e3, bV_n, e261_54]
    · rw [if_neg z]
      obtain ⟨I3, L3, rd3, h3⟩ := l261 hd hrl hct hw hp0 hT1 hcs n (k + 1) I2 L1 rd1 (.int (nI (k + 1))) (by omega) q2 hB2
      refine ⟨I3, L3, rd3, ?_⟩
      rw [e0, if_neg z]
      cases y : rnd (fun j k => decide (mk (tn R S f g cs p j a) p = mk (tn R S f g cs p k a) p)) n (k + 1 + 1) with
      | none => rw [y] at h3; exact ⟨h3.1, f12.tr h3.2.1, fun c hc => (h3.2.2 c hc).trans (g1 c hc)⟩
      | some e => rw [y] at h3; exact ⟨h3.1, h3.2.1, (f12.mono (by decide) (by decide)).tr h3.2.2⟩
theorem n261 (h : mInv I L rl T R S f g p a n t l u kp cl si rn rt) (hw : wInv R S f g p a T u kp) (hd : 41 ≤ d) (hcs : (prs rt rn).2 = some cs) (hT1 : T + 100 < 2 ^ 24) : ∃ I' L' rd', cal d 261 [.ref 36] (I, L, rR ru dr sr rd rl, 65, x) = some (some (.int (rdA R S f g cs p a).1), (I', L', rR ru dr sr rd' rl, 65, x)) ∧ mInv I' L' rl T R S f g p a n t ((rdA R S f g cs p a).2.getD l) u kp cl si rn rt := by
  have hq := h.q
  obtain ⟨hI, hP, hA, hT, hO, hU, hK, hC, hS, hl, hR⟩ := h
  obtain ⟨hc, hw, hu, hk⟩ := hw
  have f0 : fM [] [] I (zup I 36 10 (nI 0)) := f10
  have hp := hw.1
  obtain ⟨I1, e1, q1, f1⟩ := q52 (d := d) (L := L) (ru := ru) (dr := dr) (sr := sr) (rd := rd) (rl := rl) (x := x) (Or.inl hl) (hqq (Or.inl hl) hq f0 (by decide) (by decide) (by decide))
  obtain ⟨I2, e2, p1, p2, p3⟩ := m221 (d := d) (L := L) (ru := ru) (dr := dr) (sr := sr) (rd := rd) (rl := rl) (x := x) (c0 := 52) (c1 := 54) (o := 0) (fun i hi => ak_52 hi) (fun i hi => ak_54 (by omega)) (by omega) (by decide) q1.2.2.1
  have f2 : fM [54] [] I1 I2 := ⟨fun c hc _ => p3 c (fun q => hc (List.mem_singleton.mpr q)), fun j _ _ => by rw [p3 36 (by decide)]⟩
  have q2 := hqq (Or.inl hl) q1 f2 (by decide) (by decide) (by decide)
  have f02 : fM [52, 54] [] I I2 := (f0.mono (by decide) (by decide)).tr ((f1.mono (by decide) (by decide)).tr (f2.mono (by decide) (by decide)))
  unfold rdA
  rw [k261, e1, bV_n, e261_9, e2, bV_n, e261_15]
  by_cases y : p = 0
  · have fh := f02
    have hL41 : L 41 = L 41 := rfl
    rw [l261_17, if_neg (by decide), q2.2.1, if_pos (by rw [y]; decide), if_pos y]
    exact ⟨I2, L, rd, rfl, ⟨fh.ct hI (by decide), fh.fp hP (by decide), fh.st hA (by decide) rfl, fh.tx hT (by decide), fh.to hO (by decide) hL41, fh.un hU (by decide), fh.kp' hK (by decide), fh.clu hC (by decide), fh.sig hS (by decide), hl, fh.rr hl hR (by decide)⟩⟩
  · have hB2 : mTr I2 (fun i => tn R S f g cs p i a) 0 := fun j hj i hi => by
      rw [show j = 0 by omega]
      have := p1 i hi
      exact this
    obtain ⟨I3, L3, rd3, h3⟩ := l261 (d := d) (ru := ru) (dr := dr) (sr := sr) (rl := rl) (x := x) hd (Or.inl hl) hc hw (show 0 < p by omega) hT1 hcs 99 0 I2 L rd .null (by omega) q2 hB2
    rw [if_neg y, show rnd (fun j k => decide (mk (tn R S f g cs p j a) p = mk (tn R S f g cs p k a) p)) 100 0 = rnd (fun j k => decide (mk (tn R S f g cs p j a) p = mk (tn R S f g cs p k a) p)) 99 (0 + 1) from by rw [rnd, if_neg (Nat.not_lt_zero _)]]
    cases z : rnd (fun j k => decide (mk (tn R S f g cs p j a) p = mk (tn R S f g cs p k a) p)) 99 (0 + 1) with
    | none =>
      rw [z] at h3
      have fh := f02.tr h3.2.1
      have hL41 : L3 41 = L 41 := h3.2.2 41 (by decide)
      exact ⟨I3, L3, rd3, h3.1, ⟨fh.ct hI (by decide), fh.fp hP (by decide), fh.st hA (by decide) rfl, fh.tx hT (by decide), fh.to hO (by decide) hL41, fh.un hU (by decide), fh.kp' hK (by decide), fh.clu hC (by decide), fh.sig hS (by decide), hl, fh.rr hl hR (by decide)⟩⟩
    | some e =>
      rw [z] at h3
      have ft : fM [52, 54] [9] I I3 := (f02.mono (by decide) (by decide)).tr h3.2.2
      have hto := h3.2.1
      exact ⟨I3, L3, rd3, h3.1, ⟨ft.ct hI (by decide), ft.fp hP (by decide), ft.st hA (by decide) rfl, ft.tx hT (by decide), hto, ft.un hU (by decide), ft.kp' hK (by decide), ft.clu hC (by decide), ft.sig hS (by decide), hl, ft.rr hl hR (by decide)⟩⟩

end
