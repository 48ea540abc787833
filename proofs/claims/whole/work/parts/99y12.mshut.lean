section
variable {I : Nat → Nat → Int32} {L : Nat → Nat → Int64} {ru dr : Nat} {sr : Nat → Option Nat} {rd : Option Nat} {rl x : Nat}
variable {d R S p n T rn : Nat} {f g rt : Nat → Nat} {a : zP} {t : Nat → Nat} {l : List Int64} {u : List zP} {kp : Nat → Option zP} {cl : List (Nat × Nat)} {si : List (Nat × Int32)} {cs : zC}

/-! gap -/
theorem l249 {q : Nat} (hct : zCt R S f g) (hI : mCt I R S f g) (hP : I 36 1 = nI p) (hA : mSt I 37 a) (hw : zWf p S T a) (hq : q < 4) : ∀ j i, i + j = R → res d 249 17 [.ref 36, .int (nI q), .int (nI (lrs (fun r => !(rws f (zdif (2 ^ S - 1) (oth a q ||| 0)) R).testBit r) 0 i).1), .int (nI (lrs (fun r => !(rws f (zdif (2 ^ S - 1) (oth a q ||| 0)) R).testBit r) 0 i).2.1), .int (nI (lrs (fun r => !(rws f (zdif (2 ^ S - 1) (oth a q ||| 0)) R).testBit r) 0 i).2.2), .int (nI i)] [] (I, L, rR ru dr sr rd rl, 65, x) = res d 249 17 [.ref 36, .int (nI q), .int (nI (lrs (fun r => !(rws f (zdif (2 ^ S - 1) (oth a q ||| 0)) R).testBit r) 0 R).1), .int (nI (lrs (fun r => !(rws f (zdif (2 ^ S - 1) (oth a q ||| 0)) R).testBit r) 0 R).2.1), .int (nI (lrs (fun r => !(rws f (zdif (2 ^ S - 1) (oth a q ||| 0)) R).testBit r) 0 R).2.2), .int (nI R)] [] (I, L, rR ru dr sr rd rl, 65, x)
  | 0, i, hi => by rw [show i = R by omega]
  | j + 1, i, hi => by
    have hR := hct.2.1
    have hS16 := hct.S16
    have ih := l249 hct hI hP hA hw hq j (i + 1) (by omega)
    obtain ⟨h1, h2, h3⟩ := lrs_le (fun r => !(rws f (zdif (2 ^ S - 1) (oth a q ||| 0)) R).testBit r) 0 i
    have ho := p16 hS16 (oth_lt hw q)
    have hF : fre f (oth a q) i = (rws f (zdif (2 ^ S - 1) (oth a q ||| 0)) R).testBit i := by
      have := F_eq hct (m := oth a q) (b := i + 1) (by omega) (by omega)
      rw [tb2, Nat.add_sub_cancel] at this
      rw [Nat.or_zero, this]
    rw [l249_17, hI.1, if_neg (by rw [nI_leI (by omega) (by omega)]; omega), m207 (Or.inl rfl) hP hA hw (by omega), bI_i, e249_28, m215 hct hI (by omega) (by omega), bI_i, hF, e249_29]
    rw [lrs] at ih
    cases z : (rws f (zdif (2 ^ S - 1) (oth a q ||| 0)) R).testBit i with
    | false =>
      have hPi : (fun r => !(rws f (zdif (2 ^ S - 1) (oth a q ||| 0)) R).testBit r) i = true := by show (!(rws f (zdif (2 ^ S - 1) (oth a q ||| 0)) R).testBit i) = true; rw [z]; rfl
      rw [if_pos hPi] at ih
      rw [if_pos (show nI (if false = true then 1 else 0) = 0 from rfl), nI_add, e249_35]
      by_cases y : (lrs (fun r => !(rws f (zdif (2 ^ S - 1) (oth a q ||| 0)) R).testBit r) 0 i).2.2 + 1 ≤ (lrs (fun r => !(rws f (zdif (2 ^ S - 1) (oth a q ||| 0)) R).testBit r) 0 i).1
      · rw [if_pos y] at ih
        rw [if_neg (by rw [nI_ltI (by omega) (by omega)]; omega), nI_add]
        exact ih
      · rw [if_neg y] at ih
        rw [if_pos (by rw [nI_ltI (by omega) (by omega)]; omega), zfst (by omega), nI_add]
        dsimp only at ih
        rw [Nat.zero_add] at ih
        exact ih
    | true =>
      have hPi : ¬ (fun r => !(rws f (zdif (2 ^ S - 1) (oth a q ||| 0)) R).testBit r) i = true := by show ¬ (!(rws f (zdif (2 ^ S - 1) (oth a q ||| 0)) R).testBit i) = true; rw [z]; decide
      rw [if_neg hPi, if_pos (Nat.zero_le _)] at ih
      rw [if_neg (show ¬ nI (if true = true then 1 else 0) = 0 by decide), e249_35, if_neg (by rw [nI_ltI (by omega) (by omega)]; omega), nI_add]
      exact ih
theorem n249 {v : Int32} (h : mInv I L rl T R S f g p a n t l u kp cl si rn rt) (hw : wInv R S f g p a T u kp) : ∃ I' L', cal d 249 [.ref 36, .int v] (I, L, rR ru dr sr rd rl, 65, x) = some (some (.int (gpA R S f p a v).1), (I', L', rR ru dr sr rd rl, 65, x)) ∧ mInv I' L' rl T R S f g p a n t ((gpA R S f p a v).2.getD l) u kp cl si rn rt := by
  obtain ⟨hI, hP, hA, hT, hO, hU, hK, hC, hS, hl, hR⟩ := h
  obtain ⟨hc, hw, hu, hk⟩ := hw
  have f0 : fM [] [] I (zup I 36 10 (nI 0)) := f10
  have hp := hw.1
  have hR8 := hc.2.1
  have hP0 := f0.fp hP (by decide)
  have hI0 := f0.ct hI (by decide)
  unfold gpA
  rw [k249, m183 hP0 hp, bI_i, e249_6]
  cases z : inr p v with
  | none =>
    rw [if_pos (show nI (if (none : Option Nat).isSome = true then 1 else 0) = 0 from rfl)]
    exact ⟨_, L, rfl, ⟨f0.ct hI (by decide), f0.fp hP (by decide), f0.st hA (by decide) rfl, f0.tx hT (by decide), f0.to hO (by decide) rfl, f0.un hU (by decide), f0.kp' hK (by decide), f0.clu hC (by decide), f0.sig hS (by decide), hl, f0.rr hl hR (by decide)⟩⟩
  | some q =>
    obtain ⟨hq, rfl⟩ := inr_s (by omega) z
    obtain ⟨i1, i2, i3⟩ := lrs_le (fun r => !(rws f (zdif (2 ^ S - 1) (oth a q ||| 0)) R).testBit r) 0 R
    have e1 := l249 (d := d) (L := L) (ru := ru) (dr := dr) (sr := sr) (rd := rd) (rl := rl) (x := x) (q := q) hc hI0 hP0 (f0.st hA (by decide) rfl) hw (by omega) R 0 (by omega)
    rw [show (lrs (fun r => !(rws f (zdif (2 ^ S - 1) (oth a q ||| 0)) R).testBit r) 0 0) = (0, 0, 0) from rfl] at e1
    rw [if_neg (show ¬ nI (if (some q).isSome = true then 1 else 0) = 0 by show ¬ nI 1 = 0; decide), e1, l249_17, hI0.1, if_pos (by rw [nI_leI (by omega) (by omega)]; omega)]
    dsimp only
    by_cases y : 0 < (lrs (fun r => !(rws f (zdif (2 ^ S - 1) (oth a q ||| 0)) R).testBit r) 0 R).1
    · obtain ⟨I2, L2, e2, h2, f2, g2, i2⟩ := mt1 (d := d) (I := zup I 36 10 (nI 0)) (L := L) (ru := ru) (dr := dr) (sr := sr) (rd := rd) (rl := rl) (x := x) (v := lN (lrs (fun r => !(rws f (zdif (2 ^ S - 1) (oth a q ||| 0)) R).testBit r) 0 R).2.1)
      have ft : fM [] [9] I I2 := (f0.mono (by decide) (by decide)).tr f2
      have hto := h2
      rw [if_neg (by rw [nI_l0 (by omega)]; omega), nI_l (by omega), e2, bV_n, e249_59, if_pos y]
      exact ⟨I2, L2, rfl, ⟨ft.ct hI (by decide), ft.fp hP (by decide), ft.st hA (by decide) rfl, ft.tx hT (by decide), hto, ft.un hU (by decide), ft.kp' hK (by decide), ft.clu hC (by decide), ft.sig hS (by decide), hl, ft.rr hl hR (by decide)⟩⟩
    · have ft : fM [] [9] I (zup (zup I 36 10 (nI 0)) 36 9 (nI 0)) := (f0.mono (by decide) (by decide)).tr fM.f9
      have hto : mTo (zup (zup I 36 10 (nI 0)) 36 9 (nI 0)) L [] := mTo.nil
      rw [if_pos (by rw [nI_l0 (by omega)]; omega), e249_59, if_neg y]
      exact ⟨_, L, rfl, ⟨ft.ct hI (by decide), ft.fp hP (by decide), ft.st hA (by decide) rfl, ft.tx hT (by decide), hto, ft.un hU (by decide), ft.kp' hK (by decide), ft.clu hC (by decide), ft.sig hS (by decide), hl, ft.rr hl hR (by decide)⟩⟩
/-! gates -/
theorem m250 {c : Nat} (hc : zA c) (hP : I 36 1 = nI p) (hA : mSt I c a) (hw : zWf p S T a) : cal d 250 [.ref 36, .ref c] (I, L, rR ru dr sr rd rl, 65, x) = some (some (.int (nI (oth a 4))), (I, L, rR ru dr sr rd rl, 65, x)) := by rw [k250, m207n hc hP hA hw, bI_i, e250_4]
theorem m251 {q m : Nat} (hct : zCt R S f g) (hI : mCt I R S f g) (hP : I 36 1 = nI p) (hA : mSt I 37 a) (hw : zWf p S T a) (hq : q < 4) (hm : m < 65536) : ∃ I' L', cal d 251 [.ref 36, .int (nI q), .int (nI m)] (I, L, rR ru dr sr rd rl, 65, x) = some (some (.int (nI (if can R S f a q m (a (4 + q)) = true then 0 else 1))), (I', L', rR ru dr sr rd rl, 65, x)) ∧ fH I I' L L' := by
  have hS := hct.S16
  have hb := hw.2.1 q hq
  have ho := p16 hS (oth_lt hw q)
  have hh := p16 hS hb.2.2.2.1
  have hor : oth a q ||| m < 2 ^ 16 := Nat.or_lt_two_pow ho hm
  obtain ⟨I1, L1, e1, -, f1⟩ := m218 (d := d) (L := L) (ru := ru) (dr := dr) (sr := sr) (rd := rd) (rl := rl) (x := x) (k := a (4 + q)) (o := a (12 + q)) (m := oth a q ||| m) hct hI (by omega) (by omega) (by omega)
  refine ⟨I1, L1, ?_, f1⟩
  have ec : can R S f a q m (a (4 + q)) = decide (0 < (hT R (a (4 + q)) (fun b => (2 * rws f (zdif (2 ^ S - 1) (oth a q ||| m)) R).testBit b) (fun b => (2 * rws f (a (12 + q)) R).testBit b) 0).1) := rfl
  rw [k251, nI_add, if_pos (ak_37 (by omega)), nI_add, if_pos (ak_37 (by omega)), m207 (Or.inl rfl) hP hA hw (by omega), bI_i, e251_18, fa_or, nI_clamp (by omega), nI_clamp (by omega), hA (4 + q) (by omega), hA (12 + q) (by omega), e1, bI_i, e251_21, ec]
  by_cases y : 0 < (hT R (a (4 + q)) (fun b => (2 * rws f (zdif (2 ^ S - 1) (oth a q ||| m)) R).testBit b) (fun b => (2 * rws f (a (12 + q)) R).testBit b) 0).1
  · rw [if_pos y, decide_eq_true y, if_neg (by decide), if_pos zb0, if_pos rfl]
  · rw [if_neg y, decide_eq_false y, if_pos (show nI 0 = 0 from rfl), if_pos zb1, if_neg Bool.false_ne_true]
theorem l252 {q : Nat} (hct : zCt R S f g) (hw : zWf p S T a) (hq : q < 4) : ∀ j s (I : Nat → Nat → Int32) (L : Nat → Nat → Int64), s + j = S → mCt I R S f g → I 36 1 = nI p → mSt I 37 a → ∃ I' L', res d 252 13 [.ref 36, .int (nI q), .int (nI (gts R S f a q s)), .int (nI s)] [] (I, L, rR ru dr sr rd rl, 65, x) = res d 252 13 [.ref 36, .int (nI q), .int (nI (gts R S f a q S)), .int (nI S)] [] (I', L', rR ru dr sr rd rl, 65, x) ∧ fH I I' L L'
  | 0, s, I, L, hs, hI, hP, hA => ⟨I, L, by rw [show s = S by omega], fH.rf⟩
  | j + 1, s, I, L, hs, hI, hP, hA => by
    have hS16 := hct.S16
    have ho := p16 hS16 (oth_lt hw 4)
    have eg : gts R S f a q (s + 1) = gts R S f a q s ||| if (oth a 4).testBit s = false ∧ can R S f a q (2 ^ s) (a (4 + q)) = false then 2 ^ s else 0 := rfl
    have h2 : 2 ^ s < 65536 := p16 hS16 (Nat.pow_lt_pow_right (by decide) (by omega))
    rw [l252_13, hI.2.1, if_neg (by rw [nI_leI (by omega) (by omega)]; omega), m250 (Or.inl rfl) hP hA hw, bI_i, e252_22, m180 (by omega) (by omega), bI_i, e252_24]
    cases z : (oth a 4).testBit s with
    | true =>
      obtain ⟨I2, L2, e2, f2⟩ := l252 hct hw hq j (s + 1) I L (by omega) hI hP hA
      rw [eg, if_neg (fun h => by rw [z] at h; cases h.1)] at e2
      rw [if_neg (show ¬ nI (if true = true then 1 else 0) = 0 by decide), e252_36, fa_or, nI_add]
      exact ⟨I2, L2, e2, f2⟩
    | false =>
      obtain ⟨I1, L1, e1, f1⟩ := m251 (d := d) (L := L) (ru := ru) (dr := dr) (sr := sr) (rd := rd) (rl := rl) (x := x) (q := q) (m := 2 ^ s) hct hI hP hA hw hq h2
      obtain ⟨I2, L2, e2, f2⟩ := l252 hct hw hq j (s + 1) I1 L1 (by omega) (f1.ct hI) ((f1.M (W := []) (F := [])).fp hP (by decide)) ((f1.M (W := []) (F := [])).st hA (by decide) rfl)
      rw [eg] at e2
      refine ⟨I2, L2, ?_, f1.tr f2⟩
      rw [if_pos (show nI (if false = true then 1 else 0) = 0 from rfl), zshl1 (by omega), e1, bI_i, e252_31]
      cases y : can R S f a q (2 ^ s) (a (4 + q)) with
      | true =>
        rw [if_neg (fun h => by rw [y] at h; cases h.2)] at e2
        rw [if_pos (show nI (if true = true then 0 else 1) = 0 from rfl), e252_36, fa_or, nI_add]
        exact e2
      | false =>
        rw [if_pos ⟨z, y⟩] at e2
        rw [if_neg (show ¬ nI (if false = true then 0 else 1) = 0 by decide), zshl1 (by omega), fa_or, nI_add]
        exact e2
theorem n252 {v : Int32} (h : mInv I L rl T R S f g p a n t l u kp cl si rn rt) (hw : wInv R S f g p a T u kp) : ∃ I' L', cal d 252 [.ref 36, .int v] (I, L, rR ru dr sr rd rl, 65, x) = some (some (.int (gtA R S f p a v).1), (I', L', rR ru dr sr rd rl, 65, x)) ∧ mInv I' L' rl T R S f g p a n t ((gtA R S f p a v).2.getD l) u kp cl si rn rt := by
  obtain ⟨hI, hP, hA, hT, hO, hU, hK, hC, hS, hl, hR⟩ := h
  obtain ⟨hc, hw, hu, hk⟩ := hw
  have f0 : fM [] [] I (zup I 36 10 (nI 0)) := f10
  have hp := hw.1
  have hS16 := hc.S16
  have hP0 := f0.fp hP (by decide)
  have hI0 := f0.ct hI (by decide)
  unfold gtA
  rw [k252, m183 hP0 hp, bI_i, e252_6]
  cases z : inr p v with
  | none =>
    rw [if_pos (show nI (if (none : Option Nat).isSome = true then 1 else 0) = 0 from rfl)]
    exact ⟨_, L, rfl, ⟨f0.ct hI (by decide), f0.fp hP (by decide), f0.st hA (by decide) rfl, f0.tx hT (by decide), f0.to hO (by decide) rfl, f0.un hU (by decide), f0.kp' hK (by decide), f0.clu hC (by decide), f0.sig hS (by decide), hl, f0.rr hl hR (by decide)⟩⟩
  | some q =>
    obtain ⟨hq, rfl⟩ := inr_s (by omega) z
    obtain ⟨I1, L1, e1, f1⟩ := l252 (d := d) (ru := ru) (dr := dr) (sr := sr) (rd := rd) (rl := rl) (x := x) (q := q) hc hw (by omega) S 0 (zup I 36 10 (nI 0)) L (by omega) hI0 hP0 (f0.st hA (by decide) rfl)
    rw [show gts R S f a q 0 = 0 from rfl] at e1
    have hpl := pc_le (gts R S f a q S)
    obtain ⟨I2, L2, e2, h2, f2, g2, i2⟩ := mt1 (d := d) (I := I1) (L := L1) (ru := ru) (dr := dr) (sr := sr) (rd := rd) (rl := rl) (x := x) (v := lN (pc (gts R S f a q S)))
    have ft : fM [] [9] I I2 := (f0.mono (by decide) (by decide)).tr (f1.M.tr f2)
    have hto := h2
    rw [if_neg (show ¬ nI (if (some q).isSome = true then 1 else 0) = 0 by show ¬ nI 1 = 0; decide), e1, l252_13, (f1.ct hI0).2.1, if_pos (Int32.le_refl _), s296 (p16 hS16 (gts_lt _ _ _ _ _ _)), bI_i, e252_47, nI_l (by omega), e2, bV_n, e252_49]
    exact ⟨I2, L2, rfl, ⟨ft.ct hI (by decide), ft.fp hP (by decide), ft.st hA (by decide) rfl, ft.tx hT (by decide), hto, ft.un hU (by decide), ft.kp' hK (by decide), ft.clu hC (by decide), ft.sig hS (by decide), hl, ft.rr hl hR (by decide)⟩⟩
/-! shutting -/
theorem sqo_tb (hct : zCt R S f g) (m i : Nat) : ∀ n, n ≤ R → ((sqo f m n).testBit i = true ↔ ∃ r, r < n ∧ m.testBit r = true ∧ f r ≤ i ∧ i < f (r + 1))
  | 0, _ => by
    rw [sqo, Nat.zero_testBit]
    exact ⟨fun q => (by cases q), fun ⟨r, h, _⟩ => absurd h (Nat.not_lt_zero _)⟩
  | n + 1, hn => by
    have ih := sqo_tb hct m i n (by omega)
    have hs := sqs_tb hct (show n < R by omega) i
    rw [sqo]
    by_cases z : m.testBit n = true
    · rw [if_pos z, Nat.testBit_or, Bool.or_eq_true, ih, hs, Bool.and_eq_true, decide_eq_true_eq, decide_eq_true_eq]
      constructor
      · rintro (⟨r, h1, h2⟩ | h)
        · exact ⟨r, by omega, h2⟩
        · exact ⟨n, by omega, z, h⟩
      · rintro ⟨r, h1, h2, h3⟩
        by_cases y : r = n
        · subst y; exact Or.inr h3
        · exact Or.inl ⟨r, by omega, h2, h3⟩
    · rw [if_neg z, ih]
      constructor
      · rintro ⟨r, h1, h2⟩; exact ⟨r, by omega, h2⟩
      · rintro ⟨r, h1, h2, h3⟩
        by_cases y : r = n
        · subst y; exact absurd h2 z
        · exact ⟨r, by omega, h2, h3⟩
theorem oth_sub {q i : Nat} (h : (oth a q).testBit i = true) : (oth a 4).testBit i = true := by
  unfold oth at h ⊢
  obtain ⟨o, ho, h1⟩ := (orl_tb _ i 4).mp h
  refine (orl_tb _ i 4).mpr ⟨o, ho, ?_⟩
  rw [if_neg (show ¬ o = 4 by omega)]
  by_cases z : o = q
  · rw [if_pos z, Nat.zero_testBit] at h1; cases h1
  · rw [if_neg z] at h1; exact h1
def nfr (R S : Nat) (f : Nat → Nat) (a : zP) (q m : Nat) : Nat := zdif (2 ^ R - 1) (rws f (zdif (2 ^ S - 1) (oth a q ||| m)) R)
theorem nfr_tb {q m r : Nat} (hr : r < R) : (nfr R S f a q m).testBit r = !hit f (zdif (2 ^ S - 1) (oth a q ||| m)) r := by
  unfold nfr
  rw [zdif_tb, Nat.testBit_two_pow_sub_one, decide_eq_true hr, Bool.true_and, rws_tb, decide_eq_true hr, Bool.true_and]
theorem nohit (hct : zCt R S f g) {m r i : Nat} (hr : r < R) (h : hit f (zdif (2 ^ S - 1) m) r = false) (h1 : f r ≤ i) (h2 : i < f (r + 1)) : m.testBit i = true := by
  have hl := hct.leS (show r + 1 ≤ R by omega)
  cases z : m.testBit i with
  | true => rfl
  | false =>
    have : hit f (zdif (2 ^ S - 1) m) r = true := (hit_iff hct hr).mpr ⟨i, h1, h2, by rw [zdif_tb, Nat.testBit_two_pow_sub_one, decide_eq_true (show i < S by omega), z]; rfl⟩
    rw [this] at h; cases h
theorem tkn_tb (hct : zCt R S f g) (w i : Nat) : (tkn R S f a w).testBit i = true ↔ (∃ r, r < R ∧ w.testBit r = true ∧ f r ≤ i ∧ i < f (r + 1)) ∧ (oth a 4).testBit i = false := by
  unfold tkn
  rw [Nat.testBit_and, Bool.and_eq_true, sqo_tb hct w i R (Nat.le_refl _), zdif_tb, Nat.testBit_two_pow_sub_one, Bool.and_eq_true, Bool.not_eq_true', decide_eq_true_eq]
  constructor
  · rintro ⟨h1, h2, h3⟩; exact ⟨h1, h3⟩
  · rintro ⟨⟨r, hr, h1, h2, h3⟩, h4⟩
    have hl := hct.leS (show r + 1 ≤ R by omega)
    exact ⟨⟨r, hr, h1, h2, h3⟩, by omega, h4⟩
theorem nfr_sub (hct : zCt R S f g) {q m i : Nat} (h : (tkn R S f a (nfr R S f a q m)).testBit i = true) : m.testBit i = true := by
  obtain ⟨⟨r, hr, h1, h2, h3⟩, h4⟩ := (tkn_tb hct _ i).mp h
  rw [nfr_tb hr, Bool.not_eq_true'] at h1
  have := nohit hct hr h1 h2 h3
  rw [Nat.testBit_or, Bool.or_eq_true] at this
  rcases this with h5 | h5
  · rw [oth_sub h5] at h4; cases h4
  · exact h5
theorem nfr_rws (hct : zCt R S f g) {q m : Nat} (hm : m &&& oth a 4 = 0) : rws f (zdif (2 ^ S - 1) (oth a q ||| tkn R S f a (nfr R S f a q m))) R = rws f (zdif (2 ^ S - 1) (oth a q ||| m)) R := by
  refine tb_ext fun r => ?_
  rw [rws_tb, rws_tb]
  by_cases hr : r < R
  · rw [decide_eq_true hr, Bool.true_and, Bool.true_and]
    cases z : hit f (zdif (2 ^ S - 1) (oth a q ||| m)) r with
    | true =>
      obtain ⟨i, h1, h2, h3⟩ := (hit_iff hct hr).mp z
      refine (hit_iff hct hr).mpr ⟨i, h1, h2, ?_⟩
      rw [zdif_tb, Bool.and_eq_true, Bool.not_eq_true', Nat.testBit_or, Bool.or_eq_false_iff] at h3 ⊢
      refine ⟨h3.1, h3.2.1, ?_⟩
      cases y : (tkn R S f a (nfr R S f a q m)).testBit i with
      | false => rfl
      | true => rw [nfr_sub hct y] at h3; cases h3.2.2
    | false =>
      cases y : hit f (zdif (2 ^ S - 1) (oth a q ||| tkn R S f a (nfr R S f a q m))) r with
      | false => rfl
      | true =>
        obtain ⟨i, h1, h2, h3⟩ := (hit_iff hct hr).mp y
        rw [zdif_tb, Bool.and_eq_true, Bool.not_eq_true', Nat.testBit_or, Bool.or_eq_false_iff] at h3
        have h4 := nohit hct hr z h1 h2
        rw [Nat.testBit_or, Bool.or_eq_true] at h4
        rcases h4 with h4 | h4
        · rw [h4] at h3; cases h3.2.1
        · have h5 : (oth a 4).testBit i = false := by
            have := congrArg (fun y => y.testBit i) hm
            simp only [Nat.testBit_and, h4, Bool.true_and, Nat.zero_testBit] at this
            exact this
          have : (tkn R S f a (nfr R S f a q m)).testBit i = true := (tkn_tb hct _ i).mpr ⟨⟨r, hr, by rw [nfr_tb hr, z]; rfl, h1, h2⟩, h5⟩
          rw [this] at h3; cases h3.2.2
  · rw [decide_eq_false hr, Bool.false_and, Bool.false_and]
theorem nfr_lt (q m : Nat) : nfr R S f a q m < 2 ^ R := by
  have := zdif_le (2 ^ R - 1) (rws f (zdif (2 ^ S - 1) (oth a q ||| m)) R)
  have := Nat.two_pow_pos R
  unfold nfr
  omega
theorem can_nfr (hct : zCt R S f g) {q m k : Nat} (hm : m &&& oth a 4 = 0) : can R S f a q (tkn R S f a (nfr R S f a q m)) k = can R S f a q m k := by
  unfold can tab
  rw [nfr_rws hct hm]
theorem pc_ss {y m : Nat} (hm : m < 65536) (h : ∀ i, y.testBit i = true → m.testBit i = true) (hne : y ≠ m) : pc y < pc m := by
  refine Nat.lt_of_le_of_ne (pc_sub h) fun e => hne ?_
  have hd : y &&& zdif m y = 0 := by
    refine tb_ext fun i => ?_
    rw [Nat.testBit_and, zdif_tb, Nat.zero_testBit]
    cases y.testBit i <;> cases m.testBit i <;> rfl
  have hu : y ||| zdif m y = m := by
    refine tb_ext fun i => ?_
    rw [Nat.testBit_or, zdif_tb]
    cases z : y.testBit i with
    | false => cases m.testBit i <;> rfl
    | true => rw [h i z]; rfl
  have hp := pc_or hd
  rw [hu] at hp
  have h0 : pc (zdif m y) = 0 := by omega
  have hz := fb_ct_zero.mp h0
  refine tb_ext fun i => ?_
  by_cases hi : i < 16
  · have := hz i hi
    rw [zdif_tb] at this
    cases z : y.testBit i with
    | true => rw [h i z]
    | false => rw [z] at this; cases w : m.testBit i with
      | false => rfl
      | true => rw [w] at this; cases this
  · have hmi : m.testBit i = false := Nat.testBit_lt_two_pow (Nat.lt_of_lt_of_le hm (by have := Nat.pow_le_pow_right (n := 2) (by decide) (show 16 ≤ i by omega); omega))
    rw [hmi]
    cases z : y.testBit i with
    | false => rfl
    | true => rw [h i z] at hmi; cases hmi
theorem lss_iff (y m : Nat) : lss y m = true ↔ pc y < pc m ∨ pc y = pc m ∧ y < m := by unfold lss; exact decide_eq_true_iff
theorem lss_no (y m : Nat) : lss y m = false ↔ ¬ (pc y < pc m ∨ pc y = pc m ∧ y < m) := by rw [← lss_iff, Bool.not_eq_true]
/-- what the class looks for -/
theorem shl_ok {q : Nat} : ∀ i, (shl R S f a q i = none → ∀ j, j < i → can R S f a q (tkn R S f a j) (a (4 + q)) = true) ∧ ∀ b, shl R S f a q i = some b → (∃ j, j < i ∧ b = tkn R S f a j) ∧ can R S f a q b (a (4 + q)) = false ∧ ∀ j, j < i → can R S f a q (tkn R S f a j) (a (4 + q)) = false → lss (tkn R S f a j) b = false
  | 0 => ⟨fun _ j hj => absurd hj (Nat.not_lt_zero _), fun b hb => by cases hb⟩
  | i + 1 => by
    obtain ⟨h1, h2⟩ := shl_ok (q := q) i
    rw [shl]
    cases z : can R S f a q (tkn R S f a i) (a (4 + q)) with
    | true =>
      rw [if_neg (show ¬ (!true && shQ (tkn R S f a i) (shl R S f a q i)) = true from fun e => by cases e)]
      refine ⟨fun e j hj => ?_, fun b hb => ?_⟩
      · by_cases y : j = i
        · rw [y]; exact z
        · exact h1 e j (by omega)
      · obtain ⟨⟨j, k1, k2⟩, k3, k4⟩ := h2 b hb
        refine ⟨⟨j, by omega, k2⟩, k3, fun j' hj' hc' => ?_⟩
        by_cases y : j' = i
        · rw [y, z] at hc'; cases hc'
        · exact k4 j' (by omega) hc'
    | false =>
      cases y : shl R S f a q i with
      | none =>
        rw [if_pos (show (!false && shQ (tkn R S f a i) none) = true from rfl)]
        refine ⟨fun e => (by cases e), fun b hb => ?_⟩
        cases hb
        refine ⟨⟨i, by omega, rfl⟩, z, fun j hj hc' => ?_⟩
        by_cases w : j = i
        · rw [w, lss_no]; omega
        · rw [h1 y j (by omega)] at hc'; cases hc'
      | some b =>
        obtain ⟨⟨j, k1, k2⟩, k3, k4⟩ := h2 b y
        cases w : lss (tkn R S f a i) b with
        | true =>
          rw [if_pos (show (!false && shQ (tkn R S f a i) (some b)) = true from w)]
          refine ⟨fun e => (by cases e), fun b' hb' => ?_⟩
          cases hb'
          refine ⟨⟨i, by omega, rfl⟩, z, fun j' hj' hc' => ?_⟩
          rw [lss_iff] at w
          by_cases v : j' = i
          · rw [v, lss_no]; omega
          · have := k4 j' (by omega) hc'
            rw [lss_no] at this ⊢
            omega
        | false =>
          rw [if_neg (show ¬ (!false && shQ (tkn R S f a i) (some b)) = true from fun e => by rw [show (!false && shQ (tkn R S f a i) (some b)) = lss (tkn R S f a i) b from rfl, w] at e; cases e)]
          refine ⟨fun e => (by cases e), fun b' hb' => ?_⟩
          cases hb'
          refine ⟨⟨j, by omega, k2⟩, k3, fun j' hj' hc' => ?_⟩
          by_cases v : j' = i
          · rw [v]; exact w
          · exact k4 j' (by omega) hc'
/-- what the reference looks for -/
def mbs (R S : Nat) (f : Nat → Nat) (a : zP) (q : Nat) : Nat → Option Nat
  | 0 => none
  | i + 1 => if i &&& oth a 4 = 0 then (match mbs R S f a q i with
    | none => if can R S f a q i (a (4 + q)) = true then none else some i
    | some b => if pc i < pc b then (if can R S f a q i (a (4 + q)) = true then some b else some i) else some b) else mbs R S f a q i
theorem mbs_ok {q : Nat} : ∀ i, (mbs R S f a q i = none → ∀ j, j < i → j &&& oth a 4 = 0 → can R S f a q j (a (4 + q)) = true) ∧ ∀ b, mbs R S f a q i = some b → b < i ∧ b &&& oth a 4 = 0 ∧ can R S f a q b (a (4 + q)) = false ∧ ∀ j, j < i → j &&& oth a 4 = 0 → can R S f a q j (a (4 + q)) = false → lss j b = false
  | 0 => ⟨fun _ j hj => absurd hj (Nat.not_lt_zero _), fun b hb => by cases hb⟩
  | i + 1 => by
    obtain ⟨h1, h2⟩ := mbs_ok (q := q) i
    rw [mbs]
    by_cases z : i &&& oth a 4 = 0
    · rw [if_pos z]
      cases y : mbs R S f a q i with
      | none =>
        dsimp only
        cases w : can R S f a q i (a (4 + q)) with
        | true =>
          rw [if_pos rfl]
          refine ⟨fun _ j hj hz => ?_, fun b hb => by cases hb⟩
          by_cases v : j = i
          · rw [v]; exact w
          · exact h1 y j (by omega) hz
        | false =>
          rw [if_neg Bool.false_ne_true]
          refine ⟨fun e => (by cases e), fun b hb => ?_⟩
          cases hb
          refine ⟨by omega, z, w, fun j hj hz hc' => ?_⟩
          by_cases v : j = i
          · rw [v, lss_no]; omega
          · rw [h1 y j (by omega) hz] at hc'; cases hc'
      | some b =>
        dsimp only
        obtain ⟨k1, k2, k3, k4⟩ := h2 b y
        have keep : (i &&& oth a 4 = 0 → can R S f a q i (a (4 + q)) = false → lss i b = false) → (some b = none → ∀ j, j < i + 1 → j &&& oth a 4 = 0 → can R S f a q j (a (4 + q)) = true) ∧ ∀ b', some b = some b' → b' < i + 1 ∧ b' &&& oth a 4 = 0 ∧ can R S f a q b' (a (4 + q)) = false ∧ ∀ j, j < i + 1 → j &&& oth a 4 = 0 → can R S f a q j (a (4 + q)) = false → lss j b' = false := fun hk => by
          refine ⟨fun e => (by cases e), fun b' hb' => ?_⟩
          cases hb'
          refine ⟨by omega, k2, k3, fun j hj hz hc' => ?_⟩
          by_cases v : j = i
          · rw [v] at hc' ⊢; exact hk z hc'
          · exact k4 j (by omega) hz hc'
        by_cases u' : pc i < pc b
        · rw [if_pos u']
          cases w : can R S f a q i (a (4 + q)) with
          | true =>
            rw [if_pos rfl]
            exact keep (fun _ e => by rw [w] at e; cases e)
          | false =>
            rw [if_neg Bool.false_ne_true]
            refine ⟨fun e => (by cases e), fun b' hb' => ?_⟩
            cases hb'
            refine ⟨by omega, z, w, fun j hj hz hc' => ?_⟩
            by_cases v : j = i
            · rw [v, lss_no]; omega
            · have := k4 j (by omega) hz hc'
              rw [lss_no] at this ⊢
              omega
        · rw [if_neg u']
          exact keep (fun _ _ => by rw [lss_no]; omega)
    · rw [if_neg z]
      refine ⟨fun e j hj hz => ?_, fun b hb => ?_⟩
      · by_cases v : j = i
        · rw [v] at hz; exact absurd hz z
        · exact h1 e j (by omega) hz
      · obtain ⟨k1, k2, k3, k4⟩ := h2 b hb
        refine ⟨by omega, k2, k3, fun j hj hz hc' => ?_⟩
        by_cases v : j = i
        · rw [v] at hz; exact absurd hz z
        · exact k4 j (by omega) hz hc'
theorem tkn_c (hct : zCt R S f g) (w : Nat) : tkn R S f a w &&& oth a 4 = 0 ∧ tkn R S f a w < 2 ^ S := by
  constructor
  · refine tb_ext fun i => ?_
    rw [Nat.testBit_and, Nat.zero_testBit]
    cases z : (tkn R S f a w).testBit i with
    | false => rfl
    | true => rw [((tkn_tb hct w i).mp z).2]; rfl
  · unfold tkn
    have := zdif_le (2 ^ S - 1) (oth a 4)
    have h2 := Nat.two_pow_pos S
    exact Nat.lt_of_le_of_lt Nat.and_le_right (by omega)
theorem mbs_shl (hct : zCt R S f g) {q : Nat} : mbs R S f a q (2 ^ S) = shl R S f a q (2 ^ R) := by
  have hS16 := hct.S16
  obtain ⟨m1, m2⟩ := mbs_ok (R := R) (S := S) (f := f) (a := a) (q := q) (2 ^ S)
  obtain ⟨s1, s2⟩ := shl_ok (R := R) (S := S) (f := f) (a := a) (q := q) (2 ^ R)
  cases y : shl R S f a q (2 ^ R) with
  | none =>
    cases z : mbs R S f a q (2 ^ S) with
    | none => rfl
    | some b =>
      obtain ⟨k1, k2, k3, k4⟩ := m2 b z
      have := s1 y (nfr R S f a q b) (nfr_lt _ _)
      rw [can_nfr hct k2, k3] at this
      cases this
  | some c =>
    obtain ⟨⟨j, j1, j2⟩, j3, j4⟩ := s2 c y
    obtain ⟨c1, c2⟩ := tkn_c (a := a) hct j
    rw [← j2] at c1 c2
    cases z : mbs R S f a q (2 ^ S) with
    | none =>
      have := m1 z c c2 c1
      rw [j3] at this
      cases this
    | some b =>
      obtain ⟨k1, k2, k3, k4⟩ := m2 b z
      have l1 := k4 c c2 c1 j3
      have hn := j4 (nfr R S f a q b) (nfr_lt _ _) (by rw [can_nfr hct k2]; exact k3)
      have e : tkn R S f a (nfr R S f a q b) = b := by
        by_cases w : tkn R S f a (nfr R S f a q b) = b
        · exact w
        · obtain ⟨t1, t2⟩ := tkn_c (a := a) hct (nfr R S f a q b)
          have := pc_ss (p16 hS16 k1) (fun i hi => nfr_sub hct hi) w
          have h5 := k4 _ t2 t1 (by rw [can_nfr hct k2]; exact k3)
          rw [lss_no] at h5
          omega
      rw [e] at hn
      rw [lss_no] at l1 hn
      have : b = c := by omega
      rw [this]
theorem l253 {q : Nat} (hct : zCt R S f g) (hw : zWf p S T a) (hq : q < 4) : ∀ j i (I : Nat → Nat → Int32) (L : Nat → Nat → Int64), i + j = 2 ^ S → mCt I R S f g → I 36 1 = nI p → mSt I 37 a → ∃ I' L', res d 253 18 [.ref 36, .int (nI q), .int (nI (oth a 4)), .int (opI (mbs R S f a q i)), .int (nI i)] [] (I, L, rR ru dr sr rd rl, 65, x) = res d 253 18 [.ref 36, .int (nI q), .int (nI (oth a 4)), .int (opI (mbs R S f a q (2 ^ S))), .int (nI (2 ^ S))] [] (I', L', rR ru dr sr rd rl, 65, x) ∧ fH I I' L L'
  | 0, i, I, L, hi, hI, hP, hA => ⟨I, L, by rw [show i = 2 ^ S by omega], fH.rf⟩
  | j + 1, i, I, L, hi, hI, hP, hA => by
    have hS16 := hct.S16
    have h2 : 2 ^ S ≤ 65536 := Nat.pow_le_pow_right (n := 2) (by decide) hS16
    have hand : i &&& oth a 4 ≤ i := Nat.and_le_left
    have eg : mbs R S f a q (i + 1) = if i &&& oth a 4 = 0 then (match mbs R S f a q i with
      | none => if can R S f a q i (a (4 + q)) = true then none else some i
      | some b => if pc i < pc b then (if can R S f a q i (a (4 + q)) = true then some b else some i) else some b) else mbs R S f a q i := rfl
    obtain ⟨I1, L1, e1, f1⟩ := m251 (d := d) (L := L) (ru := ru) (dr := dr) (sr := sr) (rd := rd) (rl := rl) (x := x) (q := q) (m := i) hct hI hP hA hw hq (by omega)
    obtain ⟨I2, L2, e2, f2⟩ := l253 hct hw hq j (i + 1) I1 L1 (by omega) (f1.ct hI) ((f1.M (W := []) (F := [])).fp hP (by decide)) ((f1.M (W := []) (F := [])).st hA (by decide) rfl)
    obtain ⟨I3, L3, e3, f3⟩ := l253 hct hw hq j (i + 1) I L (by omega) hI hP hA
    rw [l253_18, hI.2.1, zshl1 (by omega), if_neg (by rw [nI_leI (by omega) (by omega)]; omega), fa_and]
    by_cases z : i &&& oth a 4 = 0
    · rw [if_pos z] at eg
      rw [if_pos (by rw [z]; rfl)]
      cases y : mbs R S f a q i with
      | none =>
        rw [y] at eg
        dsimp only at eg
        rw [show opI none = -(nI 1) from rfl, if_pos rfl, e253_37, e1, bI_i, e253_41]
        cases w : can R S f a q i (a (4 + q)) with
        | true =>
          rw [w, if_pos rfl] at eg
          rw [eg] at e2
          rw [if_pos (show nI (if true = true then 0 else 1) = 0 from rfl), nI_add]
          exact ⟨I2, L2, e2, f1.tr f2⟩
        | false =>
          rw [w, if_neg Bool.false_ne_true] at eg
          rw [eg] at e2
          rw [if_neg (show ¬ nI (if false = true then 0 else 1) = 0 by decide), nI_add]
          exact ⟨I2, L2, e2, f1.tr f2⟩
      | some b =>
        have hb := (mbs_ok (R := R) (S := S) (f := f) (a := a) (q := q) i).2 b y
        have hp1 := pc_le i
        have hp2 := pc_le b
        rw [y] at eg
        dsimp only at eg
        rw [show opI (some b) = nI b from rfl, if_neg (fun e => ((nI_m1 (by omega)).mp e).elim), s296 (by omega), bI_i, e253_33, s296 (by omega), bI_i, e253_35]
        by_cases u' : pc i < pc b
        · rw [if_pos u'] at eg
          rw [if_pos (by rw [nI_ltI (by omega) (by omega)]; exact u'), e253_37, e1, bI_i, e253_41]
          cases w : can R S f a q i (a (4 + q)) with
          | true =>
            rw [w, if_pos rfl] at eg
            rw [eg] at e2
            rw [if_pos (show nI (if true = true then 0 else 1) = 0 from rfl), nI_add]
            exact ⟨I2, L2, e2, f1.tr f2⟩
          | false =>
            rw [w, if_neg Bool.false_ne_true] at eg
            rw [eg] at e2
            rw [if_neg (show ¬ nI (if false = true then 0 else 1) = 0 by decide), nI_add]
            exact ⟨I2, L2, e2, f1.tr f2⟩
        · rw [if_neg u'] at eg
          rw [eg] at e3
          rw [if_neg (by rw [nI_ltI (by omega) (by omega)]; exact u'), nI_add]
          exact ⟨I3, L3, e3, f3⟩
    · rw [if_neg z] at eg
      rw [eg] at e3
      rw [if_neg (by rw [nI_z (by omega)]; exact z), nI_add]
      exact ⟨I3, L3, e3, f3⟩
theorem n253 {v : Int32} (h : mInv I L rl T R S f g p a n t l u kp cl si rn rt) (hw : wInv R S f g p a T u kp) : ∃ I' L', cal d 253 [.ref 36, .int v] (I, L, rR ru dr sr rd rl, 65, x) = some (some (.int (stA R S f p a v).1), (I', L', rR ru dr sr rd rl, 65, x)) ∧ mInv I' L' rl T R S f g p a n t ((stA R S f p a v).2.getD l) u kp cl si rn rt := by
  obtain ⟨hI, hP, hA, hT, hO, hU, hK, hC, hS, hl, hR⟩ := h
  obtain ⟨hc, hw, hu, hk⟩ := hw
  have f0 : fM [] [] I (zup I 36 10 (nI 0)) := f10
  have hp := hw.1
  have hS16 := hc.S16
  have h2S : 2 ^ S ≤ 65536 := Nat.pow_le_pow_right (n := 2) (by decide) hS16
  have hP0 := f0.fp hP (by decide)
  have hI0 := f0.ct hI (by decide)
  have hA0 : mSt (zup I 36 10 (nI 0)) 37 a := f0.st hA (by decide) rfl
  unfold stA
  rw [k253, m183 hP0 hp, bI_i, e253_6]
  cases z : inr p v with
  | none =>
    rw [if_pos (show nI (if (none : Option Nat).isSome = true then 1 else 0) = 0 from rfl)]
    exact ⟨_, L, rfl, ⟨f0.ct hI (by decide), f0.fp hP (by decide), f0.st hA (by decide) rfl, f0.tx hT (by decide), f0.to hO (by decide) rfl, f0.un hU (by decide), f0.kp' hK (by decide), f0.clu hC (by decide), f0.sig hS (by decide), hl, f0.rr hl hR (by decide)⟩⟩
  | some q =>
    obtain ⟨hq, rfl⟩ := inr_s (by omega) z
    obtain ⟨I1, L1, e1, f1⟩ := l253 (d := d) (ru := ru) (dr := dr) (sr := sr) (rd := rd) (rl := rl) (x := x) (q := q) hc hw (by omega) (2 ^ S) 0 (zup I 36 10 (nI 0)) L (by omega) hI0 hP0 hA0
    rw [show mbs R S f a q 0 = none from rfl, show opI none = -(nI 1) from rfl] at e1
    rw [if_neg (show ¬ nI (if (some q).isSome = true then 1 else 0) = 0 by show ¬ nI 1 = 0; decide), m250 (Or.inl rfl) hP0 hA0 hw, bI_i, e253_13, e1, l253_18, (f1.ct hI0).2.1, zshl1 (by omega), if_pos (Int32.le_refl _), mbs_shl hc]
    dsimp only
    cases y : shl R S f a q (2 ^ R) with
    | none =>
      have fh : fM [] [] I I1 := f0.tr f1.M
      have hL41 : L1 41 = L 41 := f1.2 41 (by decide)
      rw [show opI none = -(nI 1) from rfl, if_pos rfl]
      exact ⟨I1, L1, rfl, ⟨fh.ct hI (by decide), fh.fp hP (by decide), fh.st hA (by decide) rfl, fh.tx hT (by decide), fh.to hO (by decide) hL41, fh.un hU (by decide), fh.kp' hK (by decide), fh.clu hC (by decide), fh.sig hS (by decide), hl, fh.rr hl hR (by decide)⟩⟩
    | some b =>
      have hb := shl_lt hc y
      have hpl := pc_le b
      obtain ⟨I2, L2, e2, h2, f2, g2, i2⟩ := mt1 (d := d) (I := I1) (L := L1) (ru := ru) (dr := dr) (sr := sr) (rd := rd) (rl := rl) (x := x) (v := lN b)
      have ft : fM [] [9] I I2 := (f0.mono (by decide) (by decide)).tr (f1.M.tr f2)
      have hto := h2
      rw [show opI (some b) = nI b from rfl, if_neg (fun e => ((nI_m1 (by omega)).mp e).elim), nI_l (by omega), e2, bV_n, e253_60, s296 hb, bI_i, e253_62]
      exact ⟨I2, L2, rfl, ⟨ft.ct hI (by decide), ft.fp hP (by decide), ft.st hA (by decide) rfl, ft.tx hT (by decide), hto, ft.un hU (by decide), ft.kp' hK (by decide), ft.clu hC (by decide), ft.sig hS (by decide), hl, ft.rr hl hR (by decide)⟩⟩
/-! best -/
theorem l254 {c q : Nat} (hct : zCt R S f g) (hc : zA c) (hw : zWf p S T a) (hq : q < 4) : ∀ j o (I : Nat → Nat → Int32) (L : Nat → Nat → Int64), o + j = p → mCt I R S f g → I 36 1 = nI p → mSt I c a → ∃ I' L', res d 254 4 [.ref 36, .ref c, .int (nI q), .int (nI (trO R S f a q o)), .int (nI o)] [] (I, L, rR ru dr sr rd rl, 65, x) = some (some (.int (nI (trO R S f a q p))), (I', L', rR ru dr sr rd rl, 65, x)) ∧ fH I I' L L'
  | 0, o, I, L, ho, hI, hP, hA => by
    have hp := hw.1
    have : o = p := by omega
    subst this
    refine ⟨I, L, ?_, fH.rf⟩
    rw [l254_4, hP, if_pos (Int32.le_refl _)]
  | j + 1, o, I, L, ho, hI, hP, hA => by
    have hp := hw.1
    have hS16 := hct.S16
    have eg : trO R S f a q (o + 1) = trO R S f a q o + if o = q then 0 else pc (trs R S f a o (a (4 + o))) := rfl
    rw [l254_4, hP, if_neg (by rw [nI_leI (by omega) (by omega)]; omega)]
    by_cases z : o = q
    · obtain ⟨I2, L2, e2, f2⟩ := l254 hct hc hw hq j (o + 1) I L (by omega) hI hP hA
      rw [eg, if_pos z] at e2
      rw [if_pos (by rw [z]), e254_19, nI_add, nI_add]
      exact ⟨I2, L2, e2, f2⟩
    · obtain ⟨I1, L1, e1, f1⟩ := m246 (d := d) (L := L) (ru := ru) (dr := dr) (sr := sr) (rd := rd) (rl := rl) (x := x) (q := o) hct hI hc hP hA hw (by omega)
      obtain ⟨I2, L2, e2, f2⟩ := l254 hct hc hw hq j (o + 1) I1 L1 (by omega) (f1.ct hI) ((f1.M (W := []) (F := [])).fp hP (by decide)) ((f1.M (W := []) (F := [])).st hA (by simp) hc.s.1)
      rw [eg, if_neg z] at e2
      rw [if_neg (by rw [nI_eq (by omega) (by omega)]; exact z), e1, bI_i, e254_18, s296 (p16 hS16 (trs_lt _ _ _ _ _ _)), bI_i, e254_19, nI_add, nI_add]
      exact ⟨I2, L2, e2, f1.tr f2⟩
theorem m254 {c q : Nat} (hct : zCt R S f g) (hI : mCt I R S f g) (hc : zA c) (hP : I 36 1 = nI p) (hA : mSt I c a) (hw : zWf p S T a) (hq : q < 4) : ∃ I' L', cal d 254 [.ref 36, .ref c, .int (nI q)] (I, L, rR ru dr sr rd rl, 65, x) = some (some (.int (nI (trO R S f a q p))), (I', L', rR ru dr sr rd rl, 65, x)) ∧ fH I I' L L' := by
  rw [k254]
  exact l254 hct hc hw hq p 0 I L (by omega) hI hP hA
def amI' (o : Option (Nat × Nat)) : Int32 := match o with
  | none => -(nI 1)
  | some e => nI e.2
theorem l255 {q : Nat} (hct : zCt R S f g) (hw : zWf p S T a) (hq : q < p) : ∀ j s (I : Nat → Nat → Int32) (L : Nat → Nat → Int64) (w6 : Value), s + j = S → mCt I R S f g → I 36 1 = nI p → mSt I 37 a → ∃ I' L' w', res d 255 20 [.ref 36, .int (nI q), .int (nI (oth a 4)), .int (amI (amx (fun s => !(oth a 4).testBit s) (bsF R S f p a q) s)), .int (amI' (amx (fun s => !(oth a 4).testBit s) (bsF R S f p a q) s)), .int (nI s), w6] [] (I, L, rR ru dr sr rd rl, 65, x) = res d 255 20 [.ref 36, .int (nI q), .int (nI (oth a 4)), .int (amI (amx (fun s => !(oth a 4).testBit s) (bsF R S f p a q) S)), .int (amI' (amx (fun s => !(oth a 4).testBit s) (bsF R S f p a q) S)), .int (nI S), w'] [] (I', L', rR ru dr sr rd rl, 65, x) ∧ fM [52] [] I I' ∧ ∀ b, b ≠ 48 → L' b = L b
  | 0, s, I, L, w6, hs, hI, hP, hA => ⟨I, L, w6, by rw [show s = S by omega], fM.rf, fun _ _ => rfl⟩
  | j + 1, s, I, L, w6, hs, hI, hP, hA => by
    have hS16 := hct.S16
    have hp := hw.1
    have ho := p16 hS16 (oth_lt hw 4)
    have hF := bsF_le R S f hp a q
    obtain ⟨hm, hb⟩ := amx_le (V := fun s => !(oth a 4).testBit s) hF s
    rw [l255_20, hI.2.1, if_neg (by rw [nI_leI (by omega) (by omega)]; omega), m180 (by omega) (by omega), bI_i, e255_27]
    cases z : (oth a 4).testBit s with
    | true =>
      have ea : (amx (fun s => !(oth a 4).testBit s) (bsF R S f p a q) (s + 1)) = (amx (fun s => !(oth a 4).testBit s) (bsF R S f p a q) s) := by rw [amx, z]; rfl
      obtain ⟨I2, L2, w2, e2, f2, g2⟩ := l255 hct hw hq j (s + 1) I L w6 (by omega) hI hP hA
      rw [ea] at e2
      rw [if_neg (show ¬ nI (if true = true then 1 else 0) = 0 by decide), nI_add]
      exact ⟨I2, L2, w2, e2, f2, g2⟩
    | false =>
      obtain ⟨I1, e1, h1, f1⟩ := m221s (d := d) (L := L) (ru := ru) (dr := dr) (sr := sr) (rd := rd) (rl := rl) (x := x) (c0 := 37) (c1 := 52) ⟨rfl, Or.inr rfl⟩ hA
      have hB := h1.put (k := 12 + q) (v := a (12 + q) ||| 2 ^ s)
      have f2 : fM [52] [] I1 (zup I1 52 (12 + q) (nI (a (12 + q) ||| 2 ^ s))) := fM.up (Or.inl (by decide)) (by decide)
      have hI2 := f2.ct (f1.ct hI (by decide)) (by decide)
      have hP2 := f2.fp (f1.fp hP (by decide)) (by decide)
      obtain ⟨I3, L3, e3, f3⟩ := m254 (d := d) (L := L) (ru := ru) (dr := dr) (sr := sr) (rd := rd) (rl := rl) (x := x) (q := q) hct hI2 (Or.inr rfl) hP2 hB (bs_wf hw hq (by omega) z) (by omega)
      have f13 : fM [52] [] I I3 := f1.tr (f2.tr f3.M)
      have hA3 : mSt I3 37 a := f13.st hA (by decide) rfl
      obtain ⟨I4, L4, w4, e4, f4, g4⟩ := l255 hct hw hq j (s + 1) I3 L3 (.int (nI (bsF R S f p a q s))) (by omega) (f13.ct hI (by decide)) (f13.fp hP (by decide)) hA3
      refine ⟨I4, L4, w4, ?_, f13.tr f4, fun b hb => (g4 b hb).trans (f3.2 b hb)⟩
      have hq12 : I1 52 (12 + q) = nI (a (12 + q)) := h1 (12 + q) (by omega)
      rw [if_pos (show nI (if false = true then 1 else 0) = 0 from rfl), e1, bV_n, e255_35, nI_add, if_pos (ak_52 (by omega)), if_pos (ak_52 (by omega)), nI_clamp (by omega), hq12, zshl1 (by omega), fa_or, e3, bI_i, e255_52, show trO R S f (zset a (12 + q) (a (12 + q) ||| 2 ^ s)) q p = bsF R S f p a q s from rfl]
      have hFs := hF s
      cases y' : (amx (fun s => !(oth a 4).testBit s) (bsF R S f p a q) s) with
      | none =>
        have ea : (amx (fun s => !(oth a 4).testBit s) (bsF R S f p a q) (s + 1)) = some (s, bsF R S f p a q s) := by rw [amx, z, y']; rfl
        rw [ea] at e4
        rw [if_pos (show amI' none < nI (bsF R S f p a q s) from by
          show -(nI 1) < _
          rw [fa_lt, nI_toInt (by omega)]
          show (-1 : Int) < _
          omega), nI_add]
        exact e4
      | some e =>
        rw [y'] at hm hb
        have he := hb e rfl
        have hm' : e.2 ≤ 64 := hm
        by_cases v : e.2 < bsF R S f p a q s
        · have ea : (amx (fun s => !(oth a 4).testBit s) (bsF R S f p a q) (s + 1)) = some (s, bsF R S f p a q s) := by
            rw [amx, z, y', if_pos (show (!false) = true from rfl)]
            show (if e.2 < bsF R S f p a q s then some (s, bsF R S f p a q s) else some e) = _
            rw [if_pos v]
          rw [ea] at e4
          rw [if_pos (show amI' (some e) < _ from (nI_ltI (by omega) (by omega)).mpr v), nI_add]
          exact e4
        · have ea : (amx (fun s => !(oth a 4).testBit s) (bsF R S f p a q) (s + 1)) = some e := by
            rw [amx, z, y', if_pos (show (!false) = true from rfl)]
            show (if e.2 < bsF R S f p a q s then some (s, bsF R S f p a q s) else some e) = _
            rw [if_neg v]
          rw [ea] at e4
          rw [if_neg (show ¬ amI' (some e) < _ from fun q => v ((nI_ltI (by omega) (by omega)).mp q)), nI_add]
          exact e4
theorem n255 {v : Int32} (h : mInv I L rl T R S f g p a n t l u kp cl si rn rt) (hw : wInv R S f g p a T u kp) : ∃ I' L', cal d 255 [.ref 36, .int v] (I, L, rR ru dr sr rd rl, 65, x) = some (some (.int (bsA R S f p a v).1), (I', L', rR ru dr sr rd rl, 65, x)) ∧ mInv I' L' rl T R S f g p a n t ((bsA R S f p a v).2.getD l) u kp cl si rn rt := by
  obtain ⟨hI, hP, hA, hT, hO, hU, hK, hC, hS, hl, hR⟩ := h
  obtain ⟨hc, hw, hu, hk⟩ := hw
  have f0 : fM [] [] I (zup I 36 10 (nI 0)) := f10
  have hp := hw.1
  have hS16 := hc.S16
  have hP0 := f0.fp hP (by decide)
  have hI0 := f0.ct hI (by decide)
  have hA0 : mSt (zup I 36 10 (nI 0)) 37 a := f0.st hA (by decide) rfl
  unfold bsA
  rw [k255, m183 hP0 hp, bI_i, e255_6]
  cases z : inr p v with
  | none =>
    rw [if_pos (show nI (if (none : Option Nat).isSome = true then 1 else 0) = 0 from rfl)]
    exact ⟨_, L, rfl, ⟨f0.ct hI (by decide), f0.fp hP (by decide), f0.st hA (by decide) rfl, f0.tx hT (by decide), f0.to hO (by decide) rfl, f0.un hU (by decide), f0.kp' hK (by decide), f0.clu hC (by decide), f0.sig hS (by decide), hl, f0.rr hl hR (by decide)⟩⟩
  | some q =>
    obtain ⟨hq, rfl⟩ := inr_s (by omega) z
    obtain ⟨I1, L1, w1, e1, f1, g1⟩ := l255 (d := d) (ru := ru) (dr := dr) (sr := sr) (rd := rd) (rl := rl) (x := x) (q := q) hc hw hq S 0 (zup I 36 10 (nI 0)) L .null (by omega) hI0 hP0 hA0
    have hF := bsF_le R S f hp a q
    obtain ⟨hm, hb⟩ := amx_le (V := fun s => !(oth a 4).testBit s) hF S
    rw [show (amx (fun s => !(oth a 4).testBit s) (bsF R S f p a q) 0) = none from rfl, show amI none = -(nI 1) from rfl, show amI' none = -(nI 1) from rfl] at e1
    have hI1 := f1.ct hI0 (by decide)
    have hP1 := f1.fp hP0 (by decide)
    have hA1 : mSt I1 37 a := f1.st hA0 (by decide) rfl
    rw [if_neg (show ¬ nI (if (some q).isSome = true then 1 else 0) = 0 by show ¬ nI 1 = 0; decide), m250 (Or.inl rfl) hP0 hA0 hw, bI_i, e255_13, e1, l255_20, hI1.2.1, if_pos (Int32.le_refl _)]
    dsimp only
    cases y : (amx (fun s => !(oth a 4).testBit s) (bsF R S f p a q) S) with
    | none =>
      have fh : fM [52] [] I I1 := (f0.mono (by decide) (by decide)).tr f1
      have hL41 : L1 41 = L 41 := g1 41 (by decide)
      rw [if_pos (show amI none = -(nI 1) from rfl)]
      exact ⟨I1, L1, rfl, ⟨fh.ct hI (by decide), fh.fp hP (by decide), fh.st hA (by decide) rfl, fh.tx hT (by decide), fh.to hO (by decide) hL41, fh.un hU (by decide), fh.kp' hK (by decide), fh.clu hC (by decide), fh.sig hS (by decide), hl, fh.rr hl hR (by decide)⟩⟩
    | some e =>
      rw [y] at hm hb
      have he := hb e rfl
      have hm' : e.2 ≤ 64 := hm
      obtain ⟨I2, L2, e2, h2, f2, g2, i2⟩ := mt1 (d := d) (I := I1) (L := L1) (ru := ru) (dr := dr) (sr := sr) (rd := rd) (rl := rl) (x := x) (v := lN e.2)
      obtain ⟨I3, L3, e3, f3⟩ := m254 (d := d) (L := L2) (ru := ru) (dr := dr) (sr := sr) (rd := rd) (rl := rl) (x := x) (q := q) hc (f2.ct hI1 (by decide)) (Or.inl rfl) (f2.fp hP1 (by decide)) (f2.st hA1 (by decide) rfl) hw (by omega)
      have h3 : mTo I3 L3 [lN e.2] := (f3.M (W := []) (F := [])).to h2 (by decide) (f3.2 41 (by decide))
      obtain ⟨I4, L4, e4, h4, f4, g4, i4⟩ := mt2 (d := d) (I := I3) (L := L3) (ru := ru) (dr := dr) (sr := sr) (rd := rd) (rl := rl) (x := x) (w := lN (trO R S f a q p)) h3
      have ft : fM [52] [9] I I4 := (f0.mono (by decide) (by decide)).tr ((f1.mono (by decide) (by decide)).tr ((f2.mono (by decide) (by decide)).tr (f3.M.tr (f4.mono (by decide) (by decide)))))
      have hto := h4
      have htl := trO_le R S f a q p
      rw [if_neg (show ¬ amI (some e) = -(nI 1) from fun q => ((nI_m1 (by omega)).mp q).elim), show amI' (some e) = nI e.2 from rfl, nI_l (by omega), e2, bV_n, e255_75, e3, bI_i, e255_81, nI_l (by omega), e4, bV_n, e255_83]
      exact ⟨I4, L4, rfl, ⟨ft.ct hI (by decide), ft.fp hP (by decide), ft.st hA (by decide) rfl, ft.tx hT (by decide), hto, ft.un hU (by decide), ft.kp' hK (by decide), ft.clu hC (by decide), ft.sig hS (by decide), hl, ft.rr hl hR (by decide)⟩⟩
/-! houses -/
theorem pc_orl {h : Nat → Nat} : ∀ n, (∀ q r, q < n → r < n → q ≠ r → h q &&& h r = 0) → pc (orl h n) = fb_sm (fun q => pc (h q)) n
  | 0, _ => pc_0
  | n + 1, hd => by
    rw [orl, pc_or, pc_orl n (fun q r h1 h2 => hd q r (by omega) (by omega))]
    · rfl
    · refine and0_of fun i hi => ?_
      obtain ⟨o, ho, h1⟩ := (orl_tb _ i n).mp hi
      exact and0 (hd o n (by omega) (by omega) (by omega)) h1
theorem l256 (hw : zWf p S T a) (hS : S ≤ 16) : ∀ j q (I : Nat → Nat → Int32) (L : Nat → Nat → Int64), q + j = p → I 36 1 = nI p → mSt I 37 a → mTo I L (tlq (fun q => lN (pc (a (12 + q)))) q) → ∃ I' L', res d 256 8 [.ref 36, .int (nI q)] [] (I, L, rR ru dr sr rd rl, 65, x) = some (some (.int (nI (pc (oth a 4)))), (I', L', rR ru dr sr rd rl, 65, x)) ∧ mTo I' L' (tlq (fun q => lN (pc (a (12 + q)))) p) ∧ fM [] [9] I I'
  | 0, q, I, L, h, hP, hA, hO => by
    have hp := hw.1
    have : q = p := by omega
    subst this
    refine ⟨I, L, ?_, hO, fM.rf⟩
    rw [l256_8, hP, if_pos (Int32.le_refl _), m250 (Or.inl rfl) hP hA hw, bI_i, e256_28, s296 (p16 hS (oth_lt hw 4)), bI_i, e256_29]
  | j + 1, q, I, L, h, hP, hA, hO => by
    have hp := hw.1
    have hpl := pc_le (a (12 + q))
    have hb := p16 hS (hw.2.1 q (by omega)).2.2.2.1
    obtain ⟨I1, L1, e1, h1, f1, g1, i1⟩ := m182 (d := d) (v := lN (pc (a (12 + q)))) (ru := ru) (dr := dr) (sr := sr) (rd := rd) (rl := rl) (x := x) hO (by rw [tlq_len]; omega)
    obtain ⟨I2, L2, e2, h2, f2⟩ := l256 hw hS j (q + 1) I1 L1 (by omega) (f1.fp hP (by decide)) (hA.congr (i1 37 (by decide))) h1
    refine ⟨I2, L2, ?_, h2, f1.tr f2⟩
    rw [l256_8, hP, if_neg (by rw [nI_leI (by omega) (by omega)]; omega), nI_add, if_pos (ak_37 (by omega)), nI_clamp (by omega), hA (12 + q) (by omega), s296 hb, bI_i, e256_20, nI_l (by omega), e1, bV_n, e256_22, nI_add, e2]
theorem n256 (h : mInv I L rl T R S f g p a n t l u kp cl si rn rt) (hw : wInv R S f g p a T u kp) : ∃ I' L', cal d 256 [.ref 36] (I, L, rR ru dr sr rd rl, 65, x) = some (some (.int (nI (fb_sm (fun q => pc (a (12 + q))) p))), (I', L', rR ru dr sr rd rl, 65, x)) ∧ mInv I' L' rl T R S f g p a n t (tlq (fun q => lN (pc (a (12 + q)))) p) u kp cl si rn rt := by
  obtain ⟨hI, hP, hA, hT, hO, hU, hK, hC, hS, hl, hR⟩ := h
  obtain ⟨hc, hw, hu, hk⟩ := hw
  have f0 : fM [] [] I (zup I 36 10 (nI 0)) := f10
  have hp := hw.1
  have f9 : fM [] [9] I (zup (zup I 36 10 (nI 0)) 36 9 (nI 0)) := (f0.mono (by decide) (by decide)).tr fM.f9
  obtain ⟨I2, L2, e2, h2, f2⟩ := l256 (d := d) (ru := ru) (dr := dr) (sr := sr) (rd := rd) (rl := rl) (x := x) hw hc.S16 p 0 (zup (zup I 36 10 (nI 0)) 36 9 (nI 0)) L (by omega) (f9.fp hP (by decide)) (f9.st hA (by decide) rfl) mTo.nil
  have ft : fM [] [9] I I2 := f9.tr f2
  have hto := h2
  have e4 : pc (oth a 4) = fb_sm (fun q => pc (a (12 + q))) p := by
    rw [oth_p hw, show orl (fun o => if o = 4 then 0 else a (12 + o)) p = orl (fun o => a (12 + o)) p from orl_cong fun o ho => by rw [if_neg (by omega)]]
    exact pc_orl p fun q r h1 h2 h3 => hw.2.2.2.2.2.2 q r (by omega) (by omega) h3
  rw [e4] at e2
  refine ⟨I2, L2, ?_, ⟨ft.ct hI (by decide), ft.fp hP (by decide), ft.st hA (by decide) rfl, ft.tx hT (by decide), hto, ft.un hU (by decide), ft.kp' hK (by decide), ft.clu hC (by decide), ft.sig hS (by decide), hl, ft.rr hl hR (by decide)⟩⟩
  rw [k256]
  exact e2

end
