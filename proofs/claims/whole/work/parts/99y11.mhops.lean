section
variable {I : Nat → Nat → Int32} {L : Nat → Nat → Int64} {ru dr : Nat} {sr : Nat → Option Nat} {rd : Option Nat} {rl x : Nat}
variable {d R S p n T rn : Nat} {f g rt : Nat → Nat} {a : zP} {t : Nat → Nat} {l : List Int64} {u : List zP} {kp : Nat → Option zP} {cl : List (Nat × Nat)} {si : List (Nat × Int32)} {cs : zC}

theorem m242 {q s : Nat} (hct : zCt R S f g) (hP : I 36 1 = nI p) (hA : mSt I 37 a) (hw : zWf p S T a) (hq : q < 4) (hs : s ≤ S) : cal d 242 [.ref 36, .int (nI q), .int (nI s)] (I, L, rR ru dr sr rd rl, 65, x) = some (some (.int (nI (oth a q ||| 2 ^ s))), (I, L, rR ru dr sr rd rl, 65, x)) := by
  have hS := hct.S16
  rw [k242, m207 (Or.inl rfl) hP hA hw (by omega), bI_i, e242_5, k219, bI_i, e242_7, zshl1 (by omega), fa_or]
theorem l243i {q s b nx : Nat} {v4 : Int32} {Tb : Nat → N4} (hct : zCt R S f g) (hI : mCt I R S f g) (hP : I 36 1 = nI p) (hA : mSt I 37 a) (hw : zWf p S T a) (hq : q < 4) (hs : s ≤ S) (hV : ∀ c, c ≤ R + 1 → mV I L R (Tb c) c) (hb : b ≤ R) (hb1 : 0 < (Tb b).1) (hb2 : 1 ≤ (Tb b).2.1 ∧ (Tb b).2.1 ≤ 10) (hle : ∀ c, c ≤ R + 1 → (Tb c).2.1 ≤ 10) (hno : ∀ c, b < c → c < nx → hon R (fun b => (2 * rws f (zdif (2 ^ S - 1) (oth a q ||| stn S s)) R).testBit b) Tb c = true → (Tb b).2.1 < (Tb c).2.1 + 1) (hyes : nx ≤ R → hon R (fun b => (2 * rws f (zdif (2 ^ S - 1) (oth a q ||| stn S s)) R).testBit b) Tb nx = true ∧ (Tb nx).2.1 + 1 = (Tb b).2.1) (hnx : nx ≤ R + 1) : ∀ j c, c + j = nx → b < c → res d 243 40 [.ref 36, .int (nI q), .int (nI s), .int (nI b), .int v4, .int (nI c)] [] (I, L, rR ru dr sr rd rl, 65, x) = res d 243 67 [.ref 36, .int (nI q), .int (nI s), .int (nI b), .int v4, .int (nI nx)] [] (I, L, rR ru dr sr rd rl, 65, x) := by
  have hR8 := hct.2.1
  have hS16 := hct.S16
  have hm : oth a q ||| 2 ^ s < 2 ^ 31 := by
    have h1 := p16 hS16 (oth_lt hw q)
    have h2 : 2 ^ s ≤ 2 ^ 16 := Nat.pow_le_pow_right (by decide) (by omega)
    have := Nat.or_lt_two_pow (x := oth a q) (y := 2 ^ s) (n := 17) (by omega) (by omega)
    omega
  have hF : ∀ c, 1 ≤ c → c ≤ R → (2 * rws f (zdif (2 ^ S - 1) (oth a q ||| stn S s)) R).testBit c = fre f (oth a q ||| 2 ^ s) (c - 1) := fun c h1 h2 => by rw [← zdif_S hs]; exact F_eq hct h1 h2
  have hvb := (hV b (by omega)).1
  rw [if_neg (show ¬ (Tb b).1 = 0 by omega)] at hvb
  intro j
  induction j with
  | zero =>
    intro c hc hbc
    have : c = nx := by omega
    subst this
    by_cases z : c ≤ R
    · obtain ⟨h1, h2⟩ := hyes z
      have h1' : fre f (oth a q ||| 2 ^ s) (c - 1) = true ∧ 0 < (Tb c).1 := by
        unfold hon at h1
        dsimp only at h1
        rw [decide_eq_false (show ¬ c = R + 1 by omega), Bool.false_or, hF c (by omega) z, Bool.and_eq_true] at h1
        exact ⟨h1.1, of_decide_eq_true h1.2⟩
      have hvc := (hV c (by omega)).1
      rw [if_neg (show ¬ (Tb c).1 = 0 by omega)] at hvc
      rw [l243_40, hI.1, if_neg (by rw [nI_ltI (by omega) (by omega)]; omega), m242 hct hP hA hw hq hs, bI_i, e243_52, zsub (by omega), m215 hct hI hm (by omega), bI_i, e243_53, h1'.1, if_neg (show ¬ nI (if true = true then 1 else 0) = 0 by decide), if_pos (ak_47 (by omega)), if_pos (ak_47 (by omega)), nI_clamp (by omega), nI_clamp (by omega), hvc, hvb, zsub (by omega), if_pos (by rw [show (Tb b).2.1 - 1 = (Tb c).2.1 by omega])]
    · rw [l243_40, hI.1, if_pos (by rw [nI_ltI (by omega) (by omega)]; omega)]
  | succ j ih =>
    intro c hc hbc
    have hcR : c ≤ R := by omega
    have hn := hno c hbc (by omega)
    rw [l243_40, hI.1, if_neg (by rw [nI_ltI (by omega) (by omega)]; omega), m242 hct hP hA hw hq hs, bI_i, e243_52, zsub (by omega), m215 hct hI hm (by omega), bI_i, e243_53]
    cases z : fre f (oth a q ||| 2 ^ s) (c - 1) with
    | false =>
      rw [if_pos (show nI (if false = true then 1 else 0) = 0 from rfl), nI_add]
      exact ih (c + 1) (by omega) (by omega)
    | true =>
      have hvc := (hV c (by omega)).1
      have hcl := hle c (by omega)
      rw [if_neg (show ¬ nI (if true = true then 1 else 0) = 0 by decide), if_pos (ak_47 (by omega)), if_pos (ak_47 (by omega)), nI_clamp (by omega), nI_clamp (by omega), hvc, hvb, zsub (by omega), if_neg, nI_add]
      · exact ih (c + 1) (by omega) (by omega)
      · by_cases y : (Tb c).1 = 0
        · rw [if_pos y, nI_eq (by omega) (by omega)]; omega
        · rw [if_neg y, nI_eq (by omega) (by omega)]
          have := hn (by
            unfold hon
            dsimp only
            rw [hF c (by omega) hcR, z, decide_eq_true (show 0 < (Tb c).1 by omega)]
            simp)
          omega
theorem l243 {q s k : Nat} {v4 : Int32} {Tb : Nat → N4} {O : Nat → Bool} (hct : zCt R S f g) (hw : zWf p S T a) (hq : q < 4) (hs : s ≤ S) (hT : hFP R k (fun b => (2 * rws f (zdif (2 ^ S - 1) (oth a q ||| stn S s)) R).testBit b) O Tb) : ∀ j b (I : Nat → Nat → Int32) (L : Nat → Nat → Int64) (l : List Int64) (w5 : Value), b ≤ R → 0 < (Tb b).1 → (Tb b).2.1 = j + 1 → l.length + j ≤ 8 → mCt I R S f g → I 36 1 = nI p → mSt I 37 a → (∀ c, c ≤ R + 1 → mV I L R (Tb c) c) → mTo I L l → ∃ I' L', res d 243 32 [.ref 36, .int (nI q), .int (nI s), .int (nI b), .int v4, w5] [] (I, L, rR ru dr sr rd rl, 65, x) = some (some (.int v4), (I', L', rR ru dr sr rd rl, 65, x)) ∧ mTo I' L' (l ++ rte Tb j (Tb b).2.2.2) ∧ fM [] [9] I I' ∧ (∀ c, c ≠ 41 → L' c = L c)
  | j, b, I, L, l, w5, hb, hb1, hbj, hlj, hI, hP, hA, hV, hO => by
    have hR8 := hct.2.1
    have hx := hT.nx hR8 hb hb1
    have hle : ∀ c, c ≤ R + 1 → (Tb c).2.1 ≤ 10 := fun c hc => by have := (hT.at hR8 hc).2.1; omega
    have hnR : (Tb b).2.2.2 ≤ R + 1 := (hT.at hR8 (show b ≤ R + 1 by omega)).2.2.2.2
    have hin' := l243i (d := d) (L := L) (ru := ru) (dr := dr) (sr := sr) (rd := rd) (rl := rl) (x := x) (q := q) (s := s) (b := b) (nx := (Tb b).2.2.2) (v4 := v4) (Tb := Tb) hct hI hP hA hw hq hs hV hb hb1 (by have := hle b (by omega); omega) hle (fun c h1 h2 h3 => ((hx.2.2.2.2 c h1 (by have := hx.2.1; omega) h3).2 h2)) (fun _ => ⟨hx.2.2.1, hx.2.2.2.1⟩) hnR ((Tb b).2.2.2 - (b + 1)) (b + 1) (by have := hx.1; omega) (by omega)
    rw [l243_32, hI.1, if_neg (by rw [nI_ltI (by omega) (by omega)]; omega), nI_add, hin', e243_67, hI.1]
    by_cases z : (Tb b).2.2.2 ≤ R
    · have hpn := hon_pos hT.1 hx.2.2.1
      have hx2 := hT.nx hR8 z hpn
      cases j with
      | zero =>
        have h1 := hx.2.2.2.1
        have h2 := hx2.2.2.2.1
        omega
      | succ j =>
        obtain ⟨I1, L1, e1, h1, f1, g1, i1⟩ := m182 (d := d) (v := lN ((Tb b).2.2.2 - 1)) (ru := ru) (dr := dr) (sr := sr) (rd := rd) (rl := rl) (x := x) hO (by omega)
        have hx0 := hx.1
        obtain ⟨I2, L2, e2, h2, f2, g2⟩ := l243 (v4 := v4) hct hw hq hs hT j (Tb b).2.2.2 I1 L1 (l ++ [lN ((Tb b).2.2.2 - 1)]) (.int (nI (Tb b).2.2.2)) z hpn (by have := hx.2.2.2.1; omega) (by rw [List.length_append]; show l.length + 1 + j ≤ 8; omega) (f1.ct hI (by decide)) (f1.fp hP (by decide)) (hA.congr (i1 37 (by decide))) (fun c hc => (hV c hc).keep (by rw [i1 47 (by decide)]) (by rw [i1 49 (by decide)]) (by rw [g1 48 (by decide)])) h1
        refine ⟨I2, L2, ?_, ?_, f1.tr f2, fun c hc => (g2 c hc).trans (g1 c hc)⟩
        · rw [if_neg (by rw [nI_ltI (by omega) (by omega)]; omega), zsub (by omega), nI_l (by omega), e1, bV_n, e243_77, e2]
        · rw [rte]
          rw [List.append_assoc] at h2
          exact h2
    · have hn : (Tb b).2.2.2 = R + 1 := by omega
      have h1 := hx.2.2.2.1
      rw [hn, hT.1] at h1
      have hj : j = 0 := by
        have : 0 + 1 = (Tb b).2.1 := h1
        omega
      subst hj
      refine ⟨I, L, ?_, by rw [rte, List.append_nil]; exact hO, fM.rf, fun _ _ => rfl⟩
      rw [if_pos (by rw [nI_ltI (by omega) (by omega)]; omega), e243_77, l243_32, hI.1, if_pos (by rw [nI_ltI (by omega) (by omega)]; omega)]
  termination_by j => j
theorem n243 {v w : Int32} (h : mInv I L rl T R S f g p a n t l u kp cl si rn rt) (hw : wInv R S f g p a T u kp) : ∃ I' L', cal d 243 [.ref 36, .int v, .int w] (I, L, rR ru dr sr rd rl, 65, x) = some (some (.int (hpA R S f p a v w).1), (I', L', rR ru dr sr rd rl, 65, x)) ∧ mInv I' L' rl T R S f g p a n t ((hpA R S f p a v w).2.getD l) u kp cl si rn rt := by
  obtain ⟨hI, hP, hA, hT, hO, hU, hK, hC, hS, hl, hR⟩ := h
  obtain ⟨hc, hw, hu, hk⟩ := hw
  have f0 : fM [] [] I (zup I 36 10 (nI 0)) := f10
  have hp := hw.1
  have hR8 := hc.2.1
  have hS16 := hc.S16
  have hI0 := f0.ct hI (by decide)
  have hP0 := f0.fp hP (by decide)
  have hA0 : mSt (zup I 36 10 (nI 0)) 37 a := f0.st hA (by decide) rfl
  unfold hpA
  rw [k243, m183 hP0 hp, bI_i, e243_6]
  cases z : inr p v with
  | none =>
    rw [if_pos (show nI (if (none : Option Nat).isSome = true then 1 else 0) = 0 from rfl)]
    exact ⟨_, L, rfl, ⟨f0.ct hI (by decide), f0.fp hP (by decide), f0.st hA (by decide) rfl, f0.tx hT (by decide), f0.to hO (by decide) rfl, f0.un hU (by decide), f0.kp' hK (by decide), f0.clu hC (by decide), f0.sig hS (by decide), hl, f0.rr hl hR (by decide)⟩⟩
  | some q =>
    obtain ⟨hq, rfl⟩ := inr_s (by omega) z
    rw [if_neg (show ¬ nI (if (some q).isSome = true then 1 else 0) = 0 by show ¬ nI 1 = 0; decide), m241 hI0.2.1 hS16, bI_i, e243_10]
    cases y : inr (S + 1) w with
    | none =>
      rw [if_pos (show nI (if (none : Option Nat).isSome = true then 1 else 0) = 0 from rfl)]
      exact ⟨_, L, rfl, ⟨f0.ct hI (by decide), f0.fp hP (by decide), f0.st hA (by decide) rfl, f0.tx hT (by decide), f0.to hO (by decide) rfl, f0.un hU (by decide), f0.kp' hK (by decide), f0.clu hC (by decide), f0.sig hS (by decide), hl, f0.rr hl hR (by decide)⟩⟩
    | some s =>
      obtain ⟨hs, rfl⟩ := inr_s (by omega) y
      obtain ⟨I1, L1, e1, v1, f1⟩ := m220 (d := d) (L := L) (ru := ru) (dr := dr) (sr := sr) (rd := rd) (rl := rl) (x := x) (q := q) (s := s) hc hI0 (Or.inl rfl) hP0 hA0 hw (by omega) (by omega)
      rw [if_neg (show ¬ nI (if (some s).isSome = true then 1 else 0) = 0 by show ¬ nI 1 = 0; decide), e1, bI_i, e243_19]
      dsimp only
      cases u' : can R S f a q (stn S s) (a (4 + q)) with
      | false =>
        have fh : fM [] [] I I1 := f0.tr f1.M
        have hL41 : L1 41 = L 41 := f1.2 41 (by decide)
        rw [if_pos (show nI (if false = true then 1 else 0) = 0 from rfl), if_neg Bool.false_ne_true]
        exact ⟨I1, L1, rfl, ⟨fh.ct hI (by decide), fh.fp hP (by decide), fh.st hA (by decide) rfl, fh.tx hT (by decide), fh.to hO (by decide) hL41, fh.un hU (by decide), fh.kp' hK (by decide), fh.clu hC (by decide), fh.sig hS (by decide), hl, fh.rr hl hR (by decide)⟩⟩
      | true =>
        have hpos : 0 < ((tab R S f a q (stn S s) (a (4 + q))) 0).1 := of_decide_eq_true u'
        have hF := tabFP R S f a q (stn S s) (a (4 + q))
        have hok := hF.at hR8 (Nat.zero_le _)
        have hx := hF.nx hR8 (Nat.zero_le _) hpos
        have h4 := hok.2.2.2.1 hpos
        have hv0 := (v1 0 (Nat.zero_le _)).1
        rw [if_neg (show ¬ ((tab R S f a q (stn S s) (a (4 + q))) 0).1 = 0 by omega)] at hv0
        have f9 : fM [] [9] I1 (zup I1 36 9 (nI 0)) := fM.f9
        obtain ⟨I2, L2, e2, h2, f2, g2⟩ := l243 (d := d) (ru := ru) (dr := dr) (sr := sr) (rd := rd) (rl := rl) (x := x) (v4 := nI ((tab R S f a q (stn S s) (a (4 + q))) 0).2.1) hc hw (show q < 4 by omega) (show s ≤ S by omega) hF (((tab R S f a q (stn S s) (a (4 + q))) 0).2.1 - 1) 0 (zup I1 36 9 (nI 0)) L1 [] .null (Nat.zero_le _) hpos (by have := hx.2.2.2.1; omega) (by show 0 + _ ≤ 8; omega) (f9.ct (f1.ct hI0) (by decide)) (f9.fp ((f1.M (W := []) (F := [])).fp hP0 (by decide)) (by decide)) (f9.st ((f1.M (W := []) (F := [])).st hA0 (by decide) rfl) (by decide) rfl) (fun c hc => (v1 c hc).keep (by rw [zup_ne _ _ _ (by decide)]) (by rw [zup_ne _ _ _ (by decide)]) rfl) mTo.nil
        have ft : fM [] [9] I I2 := (f0.mono (by decide) (by decide)).tr (f1.M.tr (f9.tr f2))
        have hto := h2
        rw [if_neg (show ¬ nI (if true = true then 1 else 0) = 0 by decide), if_pos rfl, if_pos (ak_47 (by omega)), nI_clamp (by omega), hv0, e2]
        exact ⟨I2, L2, rfl, ⟨ft.ct hI (by decide), ft.fp hP (by decide), ft.st hA (by decide) rfl, ft.tx hT (by decide), hto, ft.un hU (by decide), ft.kp' hK (by decide), ft.clu hC (by decide), ft.sig hS (by decide), hl, ft.rr hl hR (by decide)⟩⟩
theorem n244 {v w : Int32} (h : mInv I L rl T R S f g p a n t l u kp cl si rn rt) (hw : wInv R S f g p a T u kp) : ∃ I' L', cal d 244 [.ref 36, .int v, .int w] (I, L, rR ru dr sr rd rl, 65, x) = some (some (.int (wyA R S f p a v w).1), (I', L', rR ru dr sr rd rl, 65, x)) ∧ mInv I' L' rl T R S f g p a n t ((wyA R S f p a v w).2.getD l) u kp cl si rn rt := by
  obtain ⟨hI, hP, hA, hT, hO, hU, hK, hC, hS, hl, hR⟩ := h
  obtain ⟨hc, hw, hu, hk⟩ := hw
  have f0 : fM [] [] I (zup I 36 10 (nI 0)) := f10
  have hp := hw.1
  have hR8 := hc.2.1
  have hS16 := hc.S16
  have hI0 := f0.ct hI (by decide)
  have hP0 := f0.fp hP (by decide)
  have hA0 : mSt (zup I 36 10 (nI 0)) 37 a := f0.st hA (by decide) rfl
  unfold wyA
  rw [k244, m183 hP0 hp, bI_i, e244_6]
  cases z : inr p v with
  | none =>
    rw [if_pos (show nI (if (none : Option Nat).isSome = true then 1 else 0) = 0 from rfl)]
    exact ⟨_, L, rfl, ⟨f0.ct hI (by decide), f0.fp hP (by decide), f0.st hA (by decide) rfl, f0.tx hT (by decide), f0.to hO (by decide) rfl, f0.un hU (by decide), f0.kp' hK (by decide), f0.clu hC (by decide), f0.sig hS (by decide), hl, f0.rr hl hR (by decide)⟩⟩
  | some q =>
    obtain ⟨hq, rfl⟩ := inr_s (by omega) z
    rw [if_neg (show ¬ nI (if (some q).isSome = true then 1 else 0) = 0 by show ¬ nI 1 = 0; decide), m241 hI0.2.1 hS16, bI_i, e244_10]
    cases y : inr (S + 1) w with
    | none =>
      rw [if_pos (show nI (if (none : Option Nat).isSome = true then 1 else 0) = 0 from rfl)]
      exact ⟨_, L, rfl, ⟨f0.ct hI (by decide), f0.fp hP (by decide), f0.st hA (by decide) rfl, f0.tx hT (by decide), f0.to hO (by decide) rfl, f0.un hU (by decide), f0.kp' hK (by decide), f0.clu hC (by decide), f0.sig hS (by decide), hl, f0.rr hl hR (by decide)⟩⟩
    | some s =>
      obtain ⟨hs, rfl⟩ := inr_s (by omega) y
      obtain ⟨I1, L1, e1, v1, f1⟩ := m220 (d := d) (L := L) (ru := ru) (dr := dr) (sr := sr) (rd := rd) (rl := rl) (x := x) (q := q) (s := s) hc hI0 (Or.inl rfl) hP0 hA0 hw (by omega) (by omega)
      have hF := tabFP R S f a q (stn S s) (a (4 + q))
      have hok := hF.at hR8 (Nat.zero_le _)
      have hb := hok.1
      rw [if_neg (show ¬ nI (if (some s).isSome = true then 1 else 0) = 0 by show ¬ nI 1 = 0; decide), e1, bI_i, e244_19]
      dsimp only
      obtain ⟨v47, v48, v49⟩ := v1 0 (Nat.zero_le _)
      cases u' : can R S f a q (stn S s) (a (4 + q)) with
      | false =>
        have ft : fM [] [9] I (zup I1 36 9 (nI 0)) := (f0.mono (by decide) (by decide)).tr (f1.M.tr fM.f9)
        have hto : mTo (zup I1 36 9 (nI 0)) L1 [] := mTo.nil
        rw [if_pos (show nI (if false = true then 1 else 0) = 0 from rfl), if_neg Bool.false_ne_true, e244_43, if_pos (ak_48 (by omega)), nI_clamp (by omega), v48, lN_i]
        exact ⟨_, L1, rfl, ⟨ft.ct hI (by decide), ft.fp hP (by decide), ft.st hA (by decide) rfl, ft.tx hT (by decide), hto, ft.un hU (by decide), ft.kp' hK (by decide), ft.clu hC (by decide), ft.sig hS (by decide), hl, ft.rr hl hR (by decide)⟩⟩
      | true =>
        have hpos : 0 < ((tab R S f a q (stn S s) (a (4 + q))) 0).1 := of_decide_eq_true u'
        have hx := hF.nx hR8 (Nat.zero_le _) hpos
        have h4 := hok.2.2.2.1 hpos
        rw [if_neg (show ¬ ((tab R S f a q (stn S s) (a (4 + q))) 0).1 = 0 by omega)] at v47 v49
        obtain ⟨I2, L2, e2, h2, f2, g2, i2⟩ := mt1 (d := d) (I := I1) (L := L1) (ru := ru) (dr := dr) (sr := sr) (rd := rd) (rl := rl) (x := x) (v := lN (((tab R S f a q (stn S s) (a (4 + q))) 0).2.2.1 - 1))
        obtain ⟨I3, L3, e3, h3, f3, g3, i3⟩ := mt2 (d := d) (I := I2) (L := L2) (ru := ru) (dr := dr) (sr := sr) (rd := rd) (rl := rl) (x := x) (w := lN (((tab R S f a q (stn S s) (a (4 + q))) 0).2.1 - 1)) h2
        have ft : fM [] [9] I I3 := (f0.mono (by decide) (by decide)).tr (f1.M.tr (f2.tr f3))
        have hto := h3
        have k47 : I2 47 0 = nI ((tab R S f a q (stn S s) (a (4 + q))) 0).2.1 := by rw [i2 47 (by decide)]; exact v47
        have k48 : L3 48 0 = lN ((tab R S f a q (stn S s) (a (4 + q))) 0).1 := by rw [g3 48 (by decide), g2 48 (by decide)]; exact v48
        have hx1 := hx.2.2.2.1
        have h5 := hok.2.2.1
        have h6 := h4.2 (Nat.zero_le _)
        rw [if_neg (show ¬ nI (if true = true then 1 else 0) = 0 by decide), if_pos rfl, if_pos (ak_49 (by omega)), nI_clamp (by omega), v49, zsub (by omega), nI_l (by omega), e2, bV_n, e244_34, if_pos (ak_47 (by omega)), nI_clamp (by omega), k47, zsub (by omega), nI_l (by omega), e3, bV_n, e244_43, if_pos (ak_48 (by omega)), nI_clamp (by omega), k48, lN_i]
        exact ⟨_, _, rfl, ⟨ft.ct hI (by decide), ft.fp hP (by decide), ft.st hA (by decide) rfl, ft.tx hT (by decide), hto, ft.un hU (by decide), ft.kp' hK (by decide), ft.clu hC (by decide), ft.sig hS (by decide), hl, ft.rr hl hR (by decide)⟩⟩
/-! traps -/
theorem l245 {q k : Nat} (hct : zCt R S f g) (hk : k ≤ 100) (ho : oth a q < 65536) (hh : a (12 + q) < 65536) : ∀ j s (I : Nat → Nat → Int32) (L : Nat → Nat → Int64), s + j = S → mCt I R S f g → ∃ I' L', res d 245 4 [.ref 36, .int (nI k), .int (nI (a (12 + q))), .int (nI (oth a q)), .int (nI (orl (fun s => if (oth a q).testBit s = false ∧ can R S f a q (2 ^ s) k = false then 2 ^ s else 0) s)), .int (nI s)] [] (I, L, rR ru dr sr rd rl, 65, x) = some (some (.int (nI (trs R S f a q k))), (I', L', rR ru dr sr rd rl, 65, x)) ∧ fH I I' L L'
  | 0, s, I, L, hs, hI => by
    have hS := hct.S16
    refine ⟨I, L, ?_, fH.rf⟩
    rw [l245_4, hI.2.1, if_pos (by rw [nI_leI (by omega) (by omega)]; omega), show s = S by omega]
    rfl
  | j + 1, s, I, L, hs, hI => by
    have hS := hct.S16
    rw [l245_4, hI.2.1, if_neg (by rw [nI_leI (by omega) (by omega)]; omega), m180 (by omega) (by omega), bI_i, e245_12]
    cases z : (oth a q).testBit s with
    | true =>
      obtain ⟨I2, L2, e2, f2⟩ := l245 hct hk ho hh j (s + 1) I L (by omega) hI
      rw [orl, if_neg (fun e => by rw [z] at e; cases e.1)] at e2
      rw [if_neg (show ¬ nI (if true = true then 1 else 0) = 0 by decide), e245_27, fa_or, nI_add]
      exact ⟨I2, L2, e2, f2⟩
    | false =>
      have h2 : 2 ^ s ≤ 2 ^ 16 := Nat.pow_le_pow_right (by decide) (by omega)
      have hor : oth a q ||| 2 ^ s < 2 ^ 17 := Nat.or_lt_two_pow (by omega) (by omega)
      obtain ⟨I1, L1, e1, -, f1⟩ := m218 (d := d) (L := L) (ru := ru) (dr := dr) (sr := sr) (rd := rd) (rl := rl) (x := x) (k := k) (o := a (12 + q)) (m := oth a q ||| 2 ^ s) hct hI hk (by omega) (by omega)
      obtain ⟨I2, L2, e2, f2⟩ := l245 hct hk ho hh j (s + 1) I1 L1 (by omega) (f1.ct hI)
      rw [orl] at e2
      refine ⟨I2, L2, ?_, f1.tr f2⟩
      rw [if_pos (show nI (if false = true then 1 else 0) = 0 from rfl), zshl1 (by omega), fa_or, e1, bI_i, e245_22]
      have ec : can R S f a q (2 ^ s) k = decide (0 < (hT R k (fun b => (2 * rws f (zdif (2 ^ S - 1) (oth a q ||| 2 ^ s)) R).testBit b) (fun b => (2 * rws f (a (12 + q)) R).testBit b) 0).1) := rfl
      by_cases y : 0 < (hT R k (fun b => (2 * rws f (zdif (2 ^ S - 1) (oth a q ||| 2 ^ s)) R).testBit b) (fun b => (2 * rws f (a (12 + q)) R).testBit b) 0).1
      · rw [decide_eq_true y] at ec
        rw [if_neg (fun e => by rw [ec] at e; cases e.2)] at e2
        rw [if_pos y, if_neg (by decide), e245_27, fa_or, nI_add]
        exact e2
      · rw [decide_eq_false y] at ec
        rw [if_pos ⟨z, ec⟩] at e2
        rw [if_neg y, if_pos (show nI 0 = 0 from rfl), zshl1 (by omega), fa_or, nI_add]
        exact e2
theorem m245 {q k : Nat} (hct : zCt R S f g) (hI : mCt I R S f g) (hk : k ≤ 100) (ho : oth a q < 65536) (hh : a (12 + q) < 65536) : ∃ I' L', cal d 245 [.ref 36, .int (nI k), .int (nI (a (12 + q))), .int (nI (oth a q))] (I, L, rR ru dr sr rd rl, 65, x) = some (some (.int (nI (trs R S f a q k))), (I', L', rR ru dr sr rd rl, 65, x)) ∧ fH I I' L L' := by
  rw [k245]
  exact l245 hct hk ho hh S 0 I L (by omega) hI
theorem m246 {c q : Nat} (hct : zCt R S f g) (hI : mCt I R S f g) (hc : zA c) (hP : I 36 1 = nI p) (hA : mSt I c a) (hw : zWf p S T a) (hq : q < 4) : ∃ I' L', cal d 246 [.ref 36, .ref c, .int (nI q)] (I, L, rR ru dr sr rd rl, 65, x) = some (some (.int (nI (trs R S f a q (a (4 + q))))), (I', L', rR ru dr sr rd rl, 65, x)) ∧ fH I I' L L' := by
  have hS := hct.S16
  have hb := hw.2.1 q hq
  obtain ⟨I1, L1, e1, f1⟩ := m245 (d := d) (L := L) (ru := ru) (dr := dr) (sr := sr) (rd := rd) (rl := rl) (x := x) (a := a) (q := q) (k := a (4 + q)) hct hI (by omega) (p16 hS (oth_lt hw q)) (p16 hS hb.2.2.2.1)
  refine ⟨I1, L1, ?_, f1⟩
  rw [k246, nI_add, if_pos (ak_A hc (by omega)), nI_add, if_pos (ak_A hc (by omega)), m207 hc hP hA hw (by omega), bI_i, e246_15, nI_clamp (by omega), nI_clamp (by omega), hA (4 + q) (by omega), hA (12 + q) (by omega), e1, bI_i, e246_16]
theorem n247 {v : Int32} (h : mInv I L rl T R S f g p a n t l u kp cl si rn rt) (hw : wInv R S f g p a T u kp) : ∃ I' L', cal d 247 [.ref 36, .int v] (I, L, rR ru dr sr rd rl, 65, x) = some (some (.int (tpA R S f p a v).1), (I', L', rR ru dr sr rd rl, 65, x)) ∧ mInv I' L' rl T R S f g p a n t ((tpA R S f p a v).2.getD l) u kp cl si rn rt := by
  obtain ⟨hI, hP, hA, hT, hO, hU, hK, hC, hS, hl, hR⟩ := h
  obtain ⟨hc, hw, hu, hk⟩ := hw
  have f0 : fM [] [] I (zup I 36 10 (nI 0)) := f10
  have hp := hw.1
  have hS16 := hc.S16
  have hP0 := f0.fp hP (by decide)
  unfold tpA
  rw [k247, m183 hP0 hp, bI_i, e247_6]
  cases z : inr p v with
  | none =>
    rw [if_pos (show nI (if (none : Option Nat).isSome = true then 1 else 0) = 0 from rfl)]
    exact ⟨_, L, rfl, ⟨f0.ct hI (by decide), f0.fp hP (by decide), f0.st hA (by decide) rfl, f0.tx hT (by decide), f0.to hO (by decide) rfl, f0.un hU (by decide), f0.kp' hK (by decide), f0.clu hC (by decide), f0.sig hS (by decide), hl, f0.rr hl hR (by decide)⟩⟩
  | some q =>
    obtain ⟨hq, rfl⟩ := inr_s (by omega) z
    obtain ⟨I1, L1, e1, f1⟩ := m246 (d := d) (L := L) (ru := ru) (dr := dr) (sr := sr) (rd := rd) (rl := rl) (x := x) (q := q) hc (f0.ct hI (by decide)) (Or.inl rfl) hP0 (f0.st hA (by decide) rfl) hw (by omega)
    have hpl := pc_le (trs R S f a q (a (4 + q)))
    obtain ⟨I2, L2, e2, h2, f2, g2, i2⟩ := mt1 (d := d) (I := I1) (L := L1) (ru := ru) (dr := dr) (sr := sr) (rd := rd) (rl := rl) (x := x) (v := lN (pc (trs R S f a q (a (4 + q)))))
    have ft : fM [] [9] I I2 := (f0.mono (by decide) (by decide)).tr (f1.M.tr f2)
    have hto := h2
    rw [if_neg (show ¬ nI (if (some q).isSome = true then 1 else 0) = 0 by show ¬ nI 1 = 0; decide), e1, bI_i, e247_14, s296 (p16 hS16 (trs_lt _ _ _ _ _ _)), bI_i, e247_21, nI_l (by omega), e2, bV_n, e247_23]
    exact ⟨I2, L2, rfl, ⟨ft.ct hI (by decide), ft.fp hP (by decide), ft.st hA (by decide) rfl, ft.tx hT (by decide), hto, ft.un hU (by decide), ft.kp' hK (by decide), ft.clu hC (by decide), ft.sig hS (by decide), hl, ft.rr hl hR (by decide)⟩⟩
theorem l248 {q : Nat} (hct : zCt R S f g) (hw : zWf p S T a) (hq : q < 4) : ∀ j r b (I : Nat → Nat → Int32) (L : Nat → Nat → Int64) (w4 : Value), r + j = 10 → b ≤ 16 → mCt I R S f g → I 36 1 = nI p → mSt I 37 a → ∃ I' L', (match nee (fun r => pc (trs R S f a q r)) j r b with
    | none => res d 248 13 [.ref 36, .int (nI q), .int (nI b), .int (nI r), w4] [] (I, L, rR ru dr sr rd rl, 65, x) = some (some (.int (-(nI 2))), (I', L', rR ru dr sr rd rl, 65, x)) ∧ fH I I' L L'
    | some e => res d 248 13 [.ref 36, .int (nI q), .int (nI b), .int (nI r), w4] [] (I, L, rR ru dr sr rd rl, 65, x) = some (some (.int (nI e.1)), (I', L', rR ru dr sr rd rl, 65, x)) ∧ mTo I' L' [lN e.2] ∧ fM [] [9] I I')
  | 0, r, b, I, L, w4, hr, hb, hI, hP, hA => by
    refine ⟨I, L, ?_, fH.rf⟩
    rw [l248_13, if_pos (by rw [nI_ltI (by omega) (by omega)]; omega)]
  | j + 1, r, b, I, L, w4, hr, hb, hI, hP, hA => by
    have hS16 := hct.S16
    have hpl := pc_le (trs R S f a q r)
    have hbq := hw.2.1 q hq
    obtain ⟨I1, L1, e1, f1⟩ := m245 (d := d) (L := L) (ru := ru) (dr := dr) (sr := sr) (rd := rd) (rl := rl) (x := x) (a := a) (q := q) (k := r) hct hI (by omega) (p16 hS16 (oth_lt hw q)) (p16 hS16 hbq.2.2.2.1)
    unfold nee
    have e0 : res d 248 13 [.ref 36, .int (nI q), .int (nI b), .int (nI r), w4] [] (I, L, rR ru dr sr rd rl, 65, x) = (if nI (pc (trs R S f a q r)) = 0 then bV (cal d 182 [.ref 36, .long (lN b)] (zup I1 36 9 (nI 0), L1, rR ru dr sr rd rl, 65, x)) fun h1 => res d 248 41 [.ref 36, .int (nI q), .int (nI b), .int (nI r), .int (nI (pc (trs R S f a q r)))] [] h1 else res d 248 13 [.ref 36, .int (nI q), .int (nI (pc (trs R S f a q r))), .int (nI (r + 1)), .int (nI (pc (trs R S f a q r)))] [] (I1, L1, rR ru dr sr rd rl, 65, x)) := by
      rw [l248_13, if_neg (by rw [nI_ltI (by omega) (by omega)]; omega), nI_add, if_pos (ak_37 (by omega)), m207 (Or.inl rfl) hP hA hw (by omega), bI_i, e248_29, nI_clamp (by omega), hA (12 + q) (by omega), e1, bI_i, e248_30, s296 (p16 hS16 (trs_lt _ _ _ _ _ _)), bI_i, e248_31, nI_add, nI_l (by omega)]
    by_cases z : pc (trs R S f a q r) = 0
    · obtain ⟨I2, L2, e2, h2, f2, g2, i2⟩ := mt1 (d := d) (I := I1) (L := L1) (ru := ru) (dr := dr) (sr := sr) (rd := rd) (rl := rl) (x := x) (v := lN b)
      rw [if_pos z]
      refine ⟨I2, L2, ?_, h2, f1.M.tr f2⟩
      rw [e0, if_pos ((nI_z (by omega)).mpr z), e2, bV_n, e248_41]
    · rw [if_neg z]
      obtain ⟨I2, L2, h2⟩ := l248 hct hw hq j (r + 1) (pc (trs R S f a q r)) I1 L1 (.int (nI (pc (trs R S f a q r)))) (by omega) hpl (f1.ct hI) ((f1.M (W := []) (F := [])).fp hP (by decide)) ((f1.M (W := []) (F := [])).st hA (by decide) rfl)
      refine ⟨I2, L2, ?_⟩
      rw [e0, if_neg (by rw [nI_z (by omega)]; exact z)]
      cases y : nee (fun r => pc (trs R S f a q r)) j (r + 1) (pc (trs R S f a q r)) with
      | none =>
        rw [y] at h2
        exact ⟨h2.1, f1.tr h2.2⟩
      | some e =>
        rw [y] at h2
        exact ⟨h2.1, h2.2.1, f1.M.tr h2.2.2⟩
theorem n248 {v : Int32} (h : mInv I L rl T R S f g p a n t l u kp cl si rn rt) (hw : wInv R S f g p a T u kp) : ∃ I' L', cal d 248 [.ref 36, .int v] (I, L, rR ru dr sr rd rl, 65, x) = some (some (.int (neA R S f p a v).1), (I', L', rR ru dr sr rd rl, 65, x)) ∧ mInv I' L' rl T R S f g p a n t ((neA R S f p a v).2.getD l) u kp cl si rn rt := by
  obtain ⟨hI, hP, hA, hT, hO, hU, hK, hC, hS, hl, hR⟩ := h
  obtain ⟨hc, hw, hu, hk⟩ := hw
  have f0 : fM [] [] I (zup I 36 10 (nI 0)) := f10
  have hp := hw.1
  have hP0 := f0.fp hP (by decide)
  unfold neA
  rw [k248, m183 hP0 hp, bI_i, e248_6]
  cases z : inr p v with
  | none =>
    rw [if_pos (show nI (if (none : Option Nat).isSome = true then 1 else 0) = 0 from rfl)]
    exact ⟨_, L, rfl, ⟨f0.ct hI (by decide), f0.fp hP (by decide), f0.st hA (by decide) rfl, f0.tx hT (by decide), f0.to hO (by decide) rfl, f0.un hU (by decide), f0.kp' hK (by decide), f0.clu hC (by decide), f0.sig hS (by decide), hl, f0.rr hl hR (by decide)⟩⟩
  | some q =>
    obtain ⟨hq, rfl⟩ := inr_s (by omega) z
    obtain ⟨I1, L1, h1⟩ := l248 (d := d) (ru := ru) (dr := dr) (sr := sr) (rd := rd) (rl := rl) (x := x) hc hw (q := q) (by omega) 9 1 0 (zup I 36 10 (nI 0)) L .null (by omega) (by omega) (f0.ct hI (by decide)) hP0 (f0.st hA (by decide) rfl)
    rw [if_neg (show ¬ nI (if (some q).isSome = true then 1 else 0) = 0 by show ¬ nI 1 = 0; decide)]
    dsimp only
    cases y : nee (fun r => pc (trs R S f a q r)) 9 1 0 with
    | none =>
      rw [y] at h1
      have fh : fM [] [] I I1 := f0.tr h1.2.M
      have hL41 : L1 41 = L 41 := h1.2.2 41 (by decide)
      exact ⟨I1, L1, h1.1, ⟨fh.ct hI (by decide), fh.fp hP (by decide), fh.st hA (by decide) rfl, fh.tx hT (by decide), fh.to hO (by decide) hL41, fh.un hU (by decide), fh.kp' hK (by decide), fh.clu hC (by decide), fh.sig hS (by decide), hl, fh.rr hl hR (by decide)⟩⟩
    | some e =>
      rw [y] at h1
      have ft : fM [] [9] I I1 := (f0.mono (by decide) (by decide)).tr h1.2.2
      have hto := h1.2.1
      exact ⟨I1, L1, h1.1, ⟨ft.ct hI (by decide), ft.fp hP (by decide), ft.st hA (by decide) rfl, ft.tx hT (by decide), hto, ft.un hU (by decide), ft.kp' hK (by decide), ft.clu hC (by decide), ft.sig hS (by decide), hl, ft.rr hl hR (by decide)⟩⟩

end
