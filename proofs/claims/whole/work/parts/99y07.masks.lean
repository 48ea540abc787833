section
variable {I : Nat → Nat → Int32} {L : Nat → Nat → Int64} {ru dr : Nat} {sr : Nat → Option Nat} {rd : Option Nat} {rl x : Nat}
variable {d R S p n T rn : Nat} {f g rt : Nat → Nat} {a : zP} {t : Nat → Nat} {l : List Int64} {u : List zP} {kp : Nat → Option zP} {cl : List (Nat × Nat)} {si : List (Nat × Int32)} {cs : zC}

theorem n178 {v : Int32} (h : I 36 10 = v) : cal d 178 [.ref 36] (I, L, rR ru dr sr rd rl, 65, x) = some (some (.int v), (I, L, rR ru dr sr rd rl, 65, x)) := by rw [k178, h]
theorem m268 {q w v : Nat} (hct : zCt R S f g) (hI : mCt I R S f g) (hP : I 36 1 = nI p) (hA : mSt I 37 a) (hw : zWf p S T a) (hq : q < 4) (hw5 : w < 5) (hv : v ≤ 9) : cal d 268 [.ref 36, .int (nI q), .int (nI w), .int (nI v)] (I, L, rR ru dr sr rd rl, 65, x) = some (some (.int (nI (if iso S a q w v = true then 1 else 0))), (I, L, rR ru dr sr rd rl, 65, x)) := by
  have hb := hw.2.1 q hq
  have hS := hct.S16
  have hh := p16 hS hb.2.2.2.1
  have hg := gol_le hw hq
  rw [k268]
  rcases (show w = 0 ∨ w = 1 ∨ w = 2 ∨ w = 3 ∨ w = 4 by omega) with rfl | rfl | rfl | rfl | rfl
  · rw [if_pos rfl, nI_add, if_pos (ak_37 (by omega)), nI_clamp (by omega), hA (4 + q) (by omega), show iso S a q 0 v = decide (a (4 + q) = v) from rfl]
    by_cases z : a (4 + q) = v
    · rw [if_pos (by rw [z]), if_pos zb1, decide_eq_true z, if_pos rfl]
    · rw [if_neg (by rw [nI_eq (by omega) (by omega)]; exact z), if_pos zb0, decide_eq_false z, if_neg Bool.false_ne_true]
  · rw [if_neg (by decide), if_pos rfl, if_pos (ak_37 (by omega)), nI_clamp (by omega), hA q (by omega), show iso S a q 1 v = decide (v ≤ a q) from rfl]
    by_cases z : v ≤ a q
    · rw [if_neg (by rw [nI_ltI (by omega) (by omega)]; omega), if_pos zb1, decide_eq_true z, if_pos rfl]
    · rw [if_pos (by rw [nI_ltI (by omega) (by omega)]; omega), if_pos zb0, decide_eq_false z, if_neg Bool.false_ne_true]
  · rw [if_neg (by decide), if_neg (by decide), if_pos rfl, m208w hct (Or.inl rfl) hP hI hA hw hq, bI_i, e268_29, show iso S a q 2 v = decide (v ≤ gol S a q) from rfl]
    by_cases z : v ≤ gol S a q
    · rw [if_neg (by rw [nI_ltI (by omega) (by omega)]; omega), if_pos zb1, decide_eq_true z, if_pos rfl]
    · rw [if_pos (by rw [nI_ltI (by omega) (by omega)]; omega), if_pos zb0, decide_eq_false z, if_neg Bool.false_ne_true]
  · rw [if_neg (by decide), if_neg (by decide), if_neg (by decide), if_pos rfl, nI_add, if_pos (ak_37 (by omega)), nI_clamp (by omega), hA (12 + q) (by omega), show iso S a q 3 v = (decide (a (12 + q) ≠ 0) == decide (v = 1)) from rfl]
    by_cases z : a (12 + q) = 0
    · rw [if_pos ((nI_z (by omega)).mpr z), e268_45, decide_eq_false (by omega : ¬ a (12 + q) ≠ 0)]
      by_cases y : v = 1
      · rw [if_pos (by rw [y]), e268_51, if_neg (by decide), if_pos zb0, decide_eq_true y, if_neg (by decide)]
      · rw [if_neg (by rw [nI_eq (by omega) (by omega)]; exact y), e268_51, if_pos rfl, if_pos zb1, decide_eq_false y, if_pos (by decide)]
    · rw [if_neg (by rw [nI_z (by omega)]; exact z), e268_45, decide_eq_true (by omega : a (12 + q) ≠ 0)]
      by_cases y : v = 1
      · rw [if_pos (by rw [y]), e268_51, if_pos rfl, if_pos zb1, decide_eq_true y, if_pos (by decide)]
      · rw [if_neg (by rw [nI_eq (by omega) (by omega)]; exact y), e268_51, if_neg (by decide), if_pos zb0, decide_eq_false y, if_neg (by decide)]
  · rw [if_neg (by decide), if_neg (by decide), if_neg (by decide), if_neg (by decide), nI_add, if_pos (ak_37 (by omega)), nI_clamp (by omega), hA (16 + q) (by omega), show iso S a q 4 v = decide (v ≤ a (16 + q)) from rfl]
    by_cases z : v ≤ a (16 + q)
    · rw [if_neg (by rw [nI_ltI (by omega) (by omega)]; omega), if_pos zb1, decide_eq_true z, if_pos rfl]
    · rw [if_pos (by rw [nI_ltI (by omega) (by omega)]; omega), if_pos zb0, decide_eq_false z, if_neg Bool.false_ne_true]
theorem l269i {q b : Nat} (hct : zCt R S f g) (hI : mCt I R S f g) (hP : I 36 1 = nI p) (hA : mSt I 37 a) (hw : zWf p S T a) (hC : mCl I cl) (hq : q < 4) : ∀ n k (e : Bool), k + n = cl.length → ∃ w3 w4, res d 269 12 [.ref 36, .int (nI b), .int (nI q), .int (nI (if e = true then 1 else 0)), .int (nI k)] [] (I, L, rR ru dr sr rd rl, 65, x) = res d 269 4 [.ref 36, .int (nI (b ||| if (e && fal S a q (cl.drop k)) = true then 2 ^ q else 0)), .int (nI (q + 1)), w3, w4] [] (I, L, rR ru dr sr rd rl, 65, x)
  | 0, k, e, h => by
    have := hC.2.1
    rw [l269_12, hC.1, if_pos (by rw [nI_leI (by omega) (by omega)]; omega), List.drop_eq_nil_of_le (by omega), show fal S a q [] = true from rfl, Bool.and_true]
    cases e with
    | true => exact ⟨.int (nI 1), .int (nI k), by rw [if_neg (show ¬ nI (if true = true then 1 else 0) = 0 by decide), zshl1 (by omega), fa_or, nI_add]; rfl⟩
    | false => exact ⟨.int (nI 0), .int (nI k), by rw [if_pos (show nI (if false = true then 1 else 0) = 0 from rfl), fa_or, nI_add]; rfl⟩
  | n + 1, k, e, h => by
    have := hC.2.1
    have hk : k < cl.length := by omega
    obtain ⟨h1, h2, h3, h4⟩ := hC.2.2 k cl[k].1 cl[k].2 (by rw [List.getElem?_eq_getElem hk])
    have ed : ∀ e, (e && fal S a q (cl.drop k)) = ((e && iso S a q cl[k].1 cl[k].2) && fal S a q (cl.drop (k + 1))) := fun e => by
      rw [List.drop_eq_getElem_cons hk]
      unfold fal
      rw [List.all_cons, Bool.and_assoc]
    rw [ed, l269_12, hC.1, if_neg (by rw [nI_leI (by omega) (by omega)]; omega)]
    cases e with
    | false =>
      obtain ⟨w3, w4, e2⟩ := l269i hct hI hP hA hw hC hq n (k + 1) false (by omega)
      refine ⟨w3, w4, ?_⟩
      rw [if_pos (show nI (if false = true then 1 else 0) = 0 from rfl), nI_add, Bool.false_and]
      exact e2
    | true =>
      obtain ⟨w3, w4, e2⟩ := l269i hct hI hP hA hw hC hq n (k + 1) (iso S a q cl[k].1 cl[k].2) (by omega)
      refine ⟨w3, w4, ?_⟩
      rw [if_neg (show ¬ nI (if true = true then 1 else 0) = 0 by decide), if_pos (ak_55 (by omega)), if_pos (ak_56 (by omega)), nI_clamp (by omega), h1, h2, m268 hct hI hP hA hw hq h3 h4, bI_i, e269_29, Bool.true_and]
      cases z : iso S a q cl[k].1 cl[k].2 with
      | true =>
        rw [z] at e2
        rw [if_neg (show ¬ nI (if true = true then 1 else 0) = 0 by decide), nI_add]
        exact e2
      | false =>
        rw [z] at e2
        rw [if_pos (show nI (if false = true then 1 else 0) = 0 from rfl), nI_add]
        exact e2
theorem l269 (hct : zCt R S f g) (hI : mCt I R S f g) (hP : I 36 1 = nI p) (hA : mSt I 37 a) (hw : zWf p S T a) (hC : mCl I cl) : ∀ n q (w3 w4 : Value), q + n = p → res d 269 4 [.ref 36, .int (nI (fit S a cl q)), .int (nI q), w3, w4] [] (I, L, rR ru dr sr rd rl, 65, x) = some (some (.int (nI (fit S a cl p))), (I, L, rR ru dr sr rd rl, 65, x))
  | 0, q, w3, w4, h => by
    have hp := hw.1
    rw [l269_4, hP, if_pos (by rw [nI_leI (by omega) (by omega)]; omega), show q = p by omega]
  | n + 1, q, w3, w4, h => by
    have hp := hw.1
    obtain ⟨w3', w4', e2⟩ := l269i (d := d) (L := L) (ru := ru) (dr := dr) (sr := sr) (rd := rd) (rl := rl) (x := x) (b := fit S a cl q) hct hI hP hA hw hC (q := q) (by omega) cl.length 0 true (by omega)
    rw [Bool.true_and, List.drop_zero] at e2
    rw [l269_4, hP, if_neg (by rw [nI_leI (by omega) (by omega)]; omega)]
    exact e2.trans (l269 hct hI hP hA hw hC n (q + 1) w3' w4' (by omega))
theorem m269 (hct : zCt R S f g) (hI : mCt I R S f g) (hP : I 36 1 = nI p) (hA : mSt I 37 a) (hw : zWf p S T a) (hC : mCl I cl) : cal d 269 [.ref 36] (I, L, rR ru dr sr rd rl, 65, x) = some (some (.int (nI (fit S a cl p))), (I, L, rR ru dr sr rd rl, 65, x)) := by
  rw [k269]
  exact l269 hct hI hP hA hw hC p 0 _ _ (by omega)
theorem n270 (h : mInv I L rl T R S f g p a n t l u kp cl si rn rt) (hw : wInv R S f g p a T u kp) : ∃ I' L', cal d 270 [.ref 36] (I, L, rR ru dr sr rd rl, 65, x) = some (some (.int (nI (fit S a cl p))), (I', L', rR ru dr sr rd rl, 65, x)) ∧ mInv I' L' rl T R S f g p a n t ([lN (pc (fit S a cl p))]) u kp cl si rn rt := by
  obtain ⟨hI, hP, hA, hT, hO, hU, hK, hC, hS, hl, hR⟩ := h
  obtain ⟨hc, hw, hu, hk⟩ := hw
  have f0 : fM [] [] I (zup I 36 10 (nI 0)) := f10
  have hp := hw.1
  have hfl := fit_lt S a cl hp
  have hpc := pc_le (fit S a cl p)
  obtain ⟨I2, L2, e2, h2, f2, g2, -⟩ := m182 (d := d) (v := lN (pc (fit S a cl p))) (ru := ru) (dr := dr) (sr := sr) (rd := rd) (rl := rl) (x := x) (mTo.nil (I := zup I 36 10 (nI 0)) (L := L)) (by decide)
  have f3 : fM [] [9] I I2 := (show fM [] [9] I (zup I 36 10 (nI 0)) from f10).tr (fM.f9.tr f2)
  refine ⟨I2, L2, ?_, ⟨f3.ct hI (by decide), f3.fp hP (by decide), f3.st hA (by decide) rfl, f3.tx hT (by decide), h2, f3.un hU (by decide), f3.kp' hK (by decide), f3.clu hC (by decide), f3.sig hS (by decide), hl, f3.rr hl hR (by decide)⟩⟩
  rw [k270, m269 hc (f0.ct hI (by decide)) (f0.fp hP (by decide)) (f0.st hA (by decide) rfl) hw (f0.clu hC (by decide)), bI_i, e270_5, s296 (by omega), bI_i, e270_12, nI_l (by omega), e2, bV_n, e270_14]
/-! asks -/
theorem l271i {m k : Nat} {v2 v3 : Int32} (hct : zCt R S f g) (hI : mCt I R S f g) (hP : I 36 1 = nI p) (hA : mSt I 37 a) (hw : zWf p S T a) (hm : m < 16) (hk : k < 50) (hV : asV k = true) : ∀ n q, q + n = p → res d 271 37 [.ref 36, .int (nI m), .int v2, .int v3, .int (nI k), .int (nI (yes S a m (k / 10) (k % 10) q)), .int (nI q)] [] (I, L, rR ru dr sr rd rl, 65, x) = bI (cal d 296 [.int (nI m)] (I, L, rR ru dr sr rd rl, 65, x)) fun r1 h1 => res d 271 66 [.ref 36, .int (nI m), .int v2, .int v3, .int (nI k), .int (nI (yes S a m (k / 10) (k % 10) p)), .int (nI p)] [.int r1, .int (nI (yes S a m (k / 10) (k % 10) p))] h1
  | 0, q, h => by
    have hp := hw.1
    rw [l271_37, hP, if_pos (by rw [nI_leI (by omega) (by omega)]; omega), show q = p by omega]
  | n + 1, q, h => by
    have hp := hw.1
    have hv := of_decide_eq_true hV
    have h9 := hi_le (k / 10)
    have ih := l271i (v2 := v2) (v3 := v3) hct hI hP hA hw hm hk hV n (q + 1) (by omega)
    have ey : yes S a m (k / 10) (k % 10) (q + 1) = yes S a m (k / 10) (k % 10) q + if (m.testBit q && iso S a q (k / 10) (k % 10)) = true then 1 else 0 := rfl
    rw [l271_37, hP, if_neg (by rw [nI_leI (by omega) (by omega)]; omega), m180 (by omega) (by omega), bI_i, e271_45]
    cases y : m.testBit q with
    | false =>
      rw [y, Bool.false_and, if_neg Bool.false_ne_true] at ey
      rw [if_pos (show nI (if false = true then 1 else 0) = 0 from rfl), e271_58, nI_add, nI_add, ← ey]
      exact ih
    | true =>
      rw [y, Bool.true_and] at ey
      rw [if_neg (show ¬ nI (if true = true then 1 else 0) = 0 by decide), if_neg (by decide), if_neg (by decide), zrem (by omega) (by decide) (by decide), zdiv (by omega) (by decide) (by decide), m268 hct hI hP hA hw (by omega) (by omega) (by omega), bI_i, e271_55]
      cases z : iso S a q (k / 10) (k % 10) with
      | true =>
        rw [z, if_pos rfl] at ey
        rw [if_neg (show ¬ nI (if true = true then 1 else 0) = 0 by decide), nI_add, nI_add, ← ey]
        exact ih
      | false =>
        rw [z, if_neg Bool.false_ne_true] at ey
        rw [if_pos (show nI (if false = true then 1 else 0) = 0 from rfl), e271_58, nI_add, nI_add, ← ey]
        exact ih
def amL (o : Option (Nat × Nat)) : Nat := match o with
  | none => 1000000
  | some e => e.2
theorem l271 {m : Nat} (hct : zCt R S f g) (hI : mCt I R S f g) (hP : I 36 1 = nI p) (hA : mSt I 37 a) (hw : zWf p S T a) (hm : m < 2 ^ p) : ∀ n k (w5 w6 : Value), k + n = 50 → ∃ w5' w6', res d 271 16 [.ref 36, .int (nI m), .int (amI (amn (asV) (asF S a p m) k)), .int (nI (amL (amn (asV) (asF S a p m) k))), .int (nI k), w5, w6] [] (I, L, rR ru dr sr rd rl, 65, x) = res d 271 16 [.ref 36, .int (nI m), .int (amI (amn (asV) (asF S a p m) 50)), .int (nI (amL (amn (asV) (asF S a p m) 50))), .int (nI 50), w5', w6'] [] (I, L, rR ru dr sr rd rl, 65, x)
  | 0, k, w5, w6, h => by
    have : k = 50 := by omega
    subst this
    exact ⟨w5, w6, rfl⟩
  | n + 1, k, w5, w6, h => by
    have hp := hw.1
    have hm16 : m < 16 := Nat.lt_of_lt_of_le hm (Nat.pow_le_pow_right (by decide) hp : 2 ^ p ≤ 2 ^ 4)
    have hF := asF_le S a hp m
    obtain ⟨hM, hB⟩ := amn_le (V := asV) hF k
    have hFk := hF k
    have hpc := pc_le m
    have elo : cal d 264 [.int (nI (k / 10))] (I, L, rR ru dr sr rd rl, 65, x) = some (some (.int (nI (lo (k / 10)))), (I, L, rR ru dr sr rd rl, 65, x)) := by
      rw [k264]
      unfold lo
      by_cases q : k / 10 = 0
      · rw [if_pos ((nI_z (by omega)).mpr q), if_pos q]
      · rw [if_neg (fun q' => q ((nI_z (by omega)).mp q')), if_neg q]
    have ehi : cal d 265 [.int (nI (k / 10))] (I, L, rR ru dr sr rd rl, 65, x) = some (some (.int (nI (hi (k / 10)))), (I, L, rR ru dr sr rd rl, 65, x)) := by
      rw [k265]
      unfold hi
      by_cases q : k / 10 = 0
      · rw [if_pos ((nI_z (by omega)).mpr q), if_pos q]
      · rw [if_neg (fun q' => q ((nI_z (by omega)).mp q')), if_neg q]
        by_cases q2 : k / 10 = 3
        · rw [if_pos ((nI_eq (by omega) (by omega)).mpr q2), if_pos q2]
        · rw [if_neg (fun q' => q2 ((nI_eq (by omega) (by omega)).mp q')), if_neg q2]
    have hlo := lo_le (k / 10)
    have hhi := hi_le (k / 10)
    have e0 : res d 271 16 [.ref 36, .int (nI m), .int (amI (amn (asV) (asF S a p m) k)), .int (nI (amL (amn (asV) (asF S a p m) k))), .int (nI k), w5, w6] [] (I, L, rR ru dr sr rd rl, 65, x) = if asV k = true then res d 271 37 [.ref 36, .int (nI m), .int (amI (amn (asV) (asF S a p m) k)), .int (nI (amL (amn (asV) (asF S a p m) k))), .int (nI k), .int (nI 0), .int (nI 0)] [] (I, L, rR ru dr sr rd rl, 65, x) else res d 271 16 [.ref 36, .int (nI m), .int (amI (amn (asV) (asF S a p m) k)), .int (nI (amL (amn (asV) (asF S a p m) k))), .int (nI (k + 1)), w5, w6] [] (I, L, rR ru dr sr rd rl, 65, x) := by
      rw [l271_16, if_neg (by rw [nI_leI (by omega) (by omega)]; omega), if_neg (by decide), if_neg (by decide), zrem (by omega) (by decide) (by decide), zdiv (by omega) (by decide) (by decide), elo, bI_i, e271_26, if_neg (by decide), zdiv (by omega) (by decide) (by decide), ehi, bI_i, e271_30]
      by_cases z : asV k = true
      · have hv := of_decide_eq_true z
        rw [m179t ⟨(nI_leI (by omega) (by omega)).mpr hv.1, (nI_leI (by omega) (by omega)).mpr hv.2⟩, bI_i, e271_31, if_neg (by decide), if_pos z]
      · rw [m179f (fun q => z (decide_eq_true ⟨(nI_leI (by omega) (by omega)).mp q.1, (nI_leI (by omega) (by omega)).mp q.2⟩)), bI_i, e271_31, if_pos (show nI 0 = 0 from rfl), if_neg z, nI_add]
    rw [e0]
    by_cases z : asV k = true
    · rw [if_pos z]
      have e1 := l271i (d := d) (L := L) (ru := ru) (dr := dr) (sr := sr) (rd := rd) (rl := rl) (x := x) (v2 := amI (amn (asV) (asF S a p m) k)) (v3 := nI (amL (amn (asV) (asF S a p m) k))) hct hI hP hA hw hm16 (show k < 50 by omega) z p 0 (by omega)
      have hpy := pc_cnt hp hm S a (k / 10) (k % 10)
      have eF : asF S a p m k = max (yes S a m (k / 10) (k % 10) p) (pc m - yes S a m (k / 10) (k % 10) p) := rfl
      rw [show yes S a m (k / 10) (k % 10) 0 = 0 from rfl] at e1
      rw [e1, s296 (by omega), bI_i, e271_66, zsub hpy, zmax_n (by omega) (by omega), ← eF]
      cases y : (amn (asV) (asF S a p m) k) with
      | none =>
        obtain ⟨w5', w6', e2⟩ := l271 hct hI hP hA hw hm n (k + 1) (.int (nI (yes S a m (k / 10) (k % 10) p))) (.int (nI (asF S a p m k))) (by omega)
        rw [amn_n z y] at e2
        rw [if_pos (by rw [nI_ltI (by omega) (by decide)]; show _ < 1000000; omega), nI_add]
        exact ⟨w5', w6', e2⟩
      | some e =>
        rw [y] at hM
        have hM' : e.2 ≤ 16 := hM
        by_cases w : asF S a p m k < e.2
        · obtain ⟨w5', w6', e2⟩ := l271 hct hI hP hA hw hm n (k + 1) (.int (nI (yes S a m (k / 10) (k % 10) p))) (.int (nI (asF S a p m k))) (by omega)
          rw [amn_t z y w] at e2
          rw [if_pos (by rw [nI_ltI (by omega) (by show e.2 < _; omega)]; exact w), nI_add]
          exact ⟨w5', w6', e2⟩
        · obtain ⟨w5', w6', e2⟩ := l271 hct hI hP hA hw hm n (k + 1) (.int (nI (yes S a m (k / 10) (k % 10) p))) (.int (nI (asF S a p m k))) (by omega)
          rw [amn_f z y w] at e2
          rw [if_neg (by rw [nI_ltI (by omega) (by show e.2 < _; omega)]; exact w), nI_add]
          exact ⟨w5', w6', e2⟩
    · rw [if_neg z]
      obtain ⟨w5', w6', e2⟩ := l271 hct hI hP hA hw hm n (k + 1) w5 w6 (by omega)
      have ea : (amn (asV) (asF S a p m) (k + 1)) = (amn (asV) (asF S a p m) k) := by rw [amn, if_neg z]
      rw [ea] at e2
      exact ⟨w5', w6', e2⟩
theorem n271 (h : mInv I L rl T R S f g p a n t l u kp cl si rn rt) (hw : wInv R S f g p a T u kp) : ∃ I' L', cal d 271 [.ref 36] (I, L, rR ru dr sr rd rl, 65, x) = some (some (.int (akA S p a cl).1), (I', L', rR ru dr sr rd rl, 65, x)) ∧ mInv I' L' rl T R S f g p a n t ((akA S p a cl).2.getD l) u kp cl si rn rt := by
  obtain ⟨hI, hP, hA, hT, hO, hU, hK, hC, hS, hl, hR⟩ := h
  obtain ⟨hc, hw, hu, hk⟩ := hw
  have f0 : fM [] [] I (zup I 36 10 (nI 0)) := f10
  have hp := hw.1
  have hfl := fit_lt S a cl hp
  have hI0 := f0.ct hI (by decide)
  have hP0 := f0.fp hP (by decide)
  have hA0 : mSt (zup I 36 10 (nI 0)) 37 a := f0.st hA (by decide) rfl
  unfold akA
  rw [k271, m269 hc hI0 hP0 hA0 hw (f0.clu hC (by decide)), bI_i, e271_5]
  by_cases z : fit S a cl p = 0
  · rw [if_pos ((nI_z (by omega)).mpr z), if_pos z]
    exact ⟨_, L, rfl, ⟨f0.ct hI (by decide), f0.fp hP (by decide), f0.st hA (by decide) rfl, f0.tx hT (by decide), f0.to hO (by decide) rfl, f0.un hU (by decide), f0.kp' hK (by decide), f0.clu hC (by decide), f0.sig hS (by decide), hl, f0.rr hl hR (by decide)⟩⟩
  · obtain ⟨w5, w6, e1⟩ := l271 (d := d) (L := L) (ru := ru) (dr := dr) (sr := sr) (rd := rd) (rl := rl) (x := x) (m := fit S a cl p) hc hI0 hP0 hA0 hw (fit_lp S a cl p) 50 0 .null .null (by omega)
    obtain ⟨hM, hB⟩ := amn_le (V := asV) (asF_le S a hp (fit S a cl p)) 50
    have hsome : ∃ e, amn asV (asF S a p (fit S a cl p)) 50 = some e := by
      cases q : amn asV (asF S a p (fit S a cl p)) 50 with
      | some e => exact ⟨e, rfl⟩
      | none =>
        exfalso
        have : ∀ k, (∃ j, j < k ∧ asV j = true) → amn asV (asF S a p (fit S a cl p)) k ≠ none := by
          intro k
          induction k with
          | zero => rintro ⟨j, hj, -⟩; omega
          | succ k ih =>
            rintro ⟨j, hj, hv⟩
            rw [amn]
            by_cases z1 : asV k = true
            · rw [if_pos z1]
              split
              · exact fun q => by cases q
              · split <;> exact fun q => by cases q
            · rw [if_neg z1]
              exact ih ⟨j, by
                have : j ≠ k := fun q => z1 (q ▸ hv)
                omega, hv⟩
        exact this 50 ⟨1, by decide, by decide⟩ q
    obtain ⟨e, he⟩ := hsome
    have hM' : e.2 ≤ 16 := by rw [he] at hM; exact hM
    rw [he] at e1
    rw [show amn asV (asF S a p (fit S a cl p)) 0 = none from rfl, show amI none = -(nI 1) from rfl, show amL none = 1000000 from rfl, show amL (some e) = e.2 from rfl] at e1
    obtain ⟨I2, L2, e2, h2, f2, g2, -⟩ := m182 (d := d) (v := lN e.2) (ru := ru) (dr := dr) (sr := sr) (rd := rd) (rl := rl) (x := x) (mTo.nil (I := zup I 36 10 (nI 0)) (L := L)) (by decide)
    have f3 : fM [] [9] I I2 := (show fM [] [9] I (zup I 36 10 (nI 0)) from f10).tr (fM.f9.tr f2)
    rw [if_neg (by rw [nI_z (by omega)]; exact z), e1, l271_16, if_pos (by decide), nI_l (by omega), e2, bV_n, e271_87, if_neg z, he]
    exact ⟨I2, L2, rfl, ⟨f3.ct hI (by decide), f3.fp hP (by decide), f3.st hA (by decide) rfl, f3.tx hT (by decide), h2, f3.un hU (by decide), f3.kp' hK (by decide), f3.clu hC (by decide), f3.sig hS (by decide), hl, f3.rr hl hR (by decide)⟩⟩
/-! laws, looks -/
theorem m274 {k q : Nat} (hk : k < 49) (hq : q < 7) : cal d 274 [.int (nI k), .int (nI q)] (I, L, rR ru dr sr rd rl, 65, x) = some (some (.int (ofb (k / 7) (k % 7) q)), (I, L, rR ru dr sr rd rl, 65, x)) := by
  unfold ofb
  rw [k274, if_neg (by decide), zdiv (by omega) (by decide) (by decide)]
  by_cases z : k / 7 < q
  · rw [if_neg (by rw [nI_leI (by omega) (by omega)]; omega), e274_8, if_neg (by decide), zrem (by omega) (by decide) (by decide), if_pos z]
    by_cases y : q < k % 7
    · rw [if_neg (by rw [nI_leI (by omega) (by omega)]; omega), if_pos y]
    · rw [if_pos (by rw [nI_leI (by omega) (by omega)]; omega), if_neg y]
  · rw [if_pos (by rw [nI_leI (by omega) (by omega)]; omega), e274_8, if_neg (by decide), zrem (by omega) (by decide) (by decide), if_neg z]
    by_cases y : q < k % 7
    · rw [if_neg (by rw [nI_leI (by omega) (by omega)]; omega), if_pos y]
    · rw [if_pos (by rw [nI_leI (by omega) (by omega)]; omega), if_neg y]
theorem l275 {c : Nat} (hc : c < 49) (hC : mSi I si) : ∀ n k, k + n = si.length → res d 275 2 [.ref 36, .int (nI c), .int (nI k)] [] (I, L, rR ru dr sr rd rl, 65, x) = some (some (.int (nI (if lfi (si.drop k) (c / 7) (c % 7) = true then 1 else 0))), (I, L, rR ru dr sr rd rl, 65, x))
  | 0, k, h => by
    have := hC.2.1
    rw [l275_2, hC.1, if_pos (by rw [nI_leI (by omega) (by omega)]; omega), if_pos zb1, List.drop_eq_nil_of_le (by omega)]
    rfl
  | n + 1, k, h => by
    have := hC.2.1
    have hk : k < si.length := by omega
    obtain ⟨h1, h2, h3, -⟩ := hC.2.2 k si[k].1 si[k].2 (by rw [List.getElem?_eq_getElem hk])
    have ih := l275 hc hC n (k + 1) (by omega)
    rw [l275_2, hC.1, if_neg (by rw [nI_leI (by omega) (by omega)]; omega), if_pos (ak_57 (by omega)), nI_clamp (by omega), h1, m274 hc (by omega), bI_i, e275_12, if_pos (ak_58 (by omega)), nI_clamp (by omega), h2, List.drop_eq_getElem_cons hk]
    unfold lfi
    rw [List.all_cons]
    by_cases z : ofb (c / 7) (c % 7) si[k].1 = si[k].2
    · rw [if_pos z, decide_eq_true z, Bool.true_and, nI_add]; exact ih
    · rw [if_neg z, decide_eq_false z, Bool.false_and, if_pos zb0, if_neg Bool.false_ne_true]
theorem m275 {c : Nat} (hc : c < 49) (hC : mSi I si) : cal d 275 [.ref 36, .int (nI c)] (I, L, rR ru dr sr rd rl, 65, x) = some (some (.int (nI (if lwf si c = true then 1 else 0))), (I, L, rR ru dr sr rd rl, 65, x)) := by
  have := l275 (d := d) (L := L) (ru := ru) (dr := dr) (sr := sr) (rd := rd) (rl := rl) (x := x) hc hC si.length 0 (by omega)
  rw [k275, this, List.drop_zero]
  rfl
theorem l276 : ∀ j k (I : Nat → Nat → Int32) (L : Nat → Nat → Int64), k + j = 49 → mSi I si → mTo I L (gtl (lwf si) (fun k => k / 7) (fun k => k % 7) k) → ∃ I' L', res d 276 10 [.ref 36, .int (nI (fb_ct (lwf si) k)), .int (nI k)] [] (I, L, rR ru dr sr rd rl, 65, x) = some (some (.int (nI (fb_ct (lwf si) 49))), (I', L', rR ru dr sr rd rl, 65, x)) ∧ mTo I' L' (gtl (lwf si) (fun k => k / 7) (fun k => k % 7) 49) ∧ fM [] [9] I I'
  | 0, k, I, L, hk, hS, hO => by
    have : k = 49 := by omega
    subst this
    exact ⟨I, L, by rw [l276_10, if_pos (by decide)], hO, fM.rf⟩
  | j + 1, k, I, L, hk, hS, hO => by
    have hct := fb_ct_le (lwf si) k
    have ec : fb_ct (lwf si) (k + 1) = fb_ct (lwf si) k + if lwf si k = true then 1 else 0 := rfl
    have eg : gtl (lwf si) (fun k => k / 7) (fun k => k % 7) (k + 1) = if lwf si k = true ∧ fb_ct (lwf si) k = 0 then [lN (k / 7), lN (k % 7)] else gtl (lwf si) (fun k => k / 7) (fun k => k % 7) k := rfl
    rw [l276_10, if_neg (by rw [nI_leI (by omega) (by omega)]; omega), m275 (by omega) hS, bI_i, e276_16]
    cases z : lwf si k with
    | false =>
      rw [z, if_neg Bool.false_ne_true] at ec
      rw [z, if_neg (fun q => Bool.false_ne_true q.1)] at eg
      rw [← eg] at hO
      obtain ⟨I2, L2, e2, h2, f2⟩ := l276 j (k + 1) I L (by omega) hS hO
      refine ⟨I2, L2, ?_, h2, f2⟩
      rw [if_pos (show nI (if false = true then 1 else 0) = 0 from rfl), nI_add]
      rw [ec] at e2
      exact e2
    | true =>
      rw [z, if_pos rfl] at ec
      rw [if_neg (show ¬ nI (if true = true then 1 else 0) = 0 by decide)]
      by_cases y : fb_ct (lwf si) k = 0
      · rw [z, if_pos ⟨rfl, y⟩] at eg
        rw [gtl_nil y] at hO
        obtain ⟨I1, L1, e1, h1, f1, g1, -⟩ := m182 (d := d) (v := lN (k / 7)) (ru := ru) (dr := dr) (sr := sr) (rd := rd) (rl := rl) (x := x) hO (by decide)
        obtain ⟨I3, L3, e3, h3, f3, g3, -⟩ := m182 (d := d) (v := lN (k % 7)) (ru := ru) (dr := dr) (sr := sr) (rd := rd) (rl := rl) (x := x) h1 (show 1 < 8 by decide)
        have h3' : mTo I3 L3 (gtl (lwf si) (fun k => k / 7) (fun k => k % 7) (k + 1)) := by rw [eg]; exact h3
        obtain ⟨I2, L2, e2, h2, f2⟩ := l276 j (k + 1) I3 L3 (by omega) ((f1.tr f3).sig hS (by decide)) h3'
        refine ⟨I2, L2, ?_, h2, f1.tr (f3.tr f2)⟩
        rw [if_pos (by rw [y]; rfl), if_neg (by decide), zdiv (by omega) (by decide) (by decide), nI_l (by omega), e1, bV_n, e276_26, if_neg (by decide), zrem (by omega) (by decide) (by decide), nI_l (by omega), e3, bV_n, e276_32, nI_add, nI_add]
        rw [ec] at e2
        exact e2
      · rw [z, if_neg (fun q => y q.2)] at eg
        rw [← eg] at hO
        obtain ⟨I2, L2, e2, h2, f2⟩ := l276 j (k + 1) I L (by omega) hS hO
        refine ⟨I2, L2, ?_, h2, f2⟩
        rw [if_neg (by rw [nI_z (by omega)]; exact y), e276_32, nI_add, nI_add]
        rw [ec] at e2
        exact e2
theorem n276 (h : mInv I L rl T R S f g p a n t l u kp cl si rn rt) (hw : wInv R S f g p a T u kp) : ∃ I' L', cal d 276 [.ref 36] (I, L, rR ru dr sr rd rl, 65, x) = some (some (.int (nI (fb_ct (lwf si) 49))), (I', L', rR ru dr sr rd rl, 65, x)) ∧ mInv I' L' rl T R S f g p a n t (gtl (lwf si) (fun k => k / 7) (fun k => k % 7) 49) u kp cl si rn rt := by
  obtain ⟨hI, hP, hA, hT, hO, hU, hK, hC, hS, hl, hR⟩ := h
  obtain ⟨hc, hw, hu, hk⟩ := hw
  obtain ⟨I2, L2, e2, h2, f2⟩ := l276 (d := d) (si := si) (ru := ru) (dr := dr) (sr := sr) (rd := rd) (rl := rl) (x := x) 49 0 (zup (zup I 36 10 (nI 0)) 36 9 (nI 0)) L (by omega) ((fM.f9.tr (fM.rf (W := []))).sig ((f10 (W := []) (F := [])).sig hS (by decide)) (by decide)) mTo.nil
  have f3 : fM [] [9] I I2 := (show fM [] [9] I (zup I 36 10 (nI 0)) from f10).tr (fM.f9.tr f2)
  exact ⟨I2, L2, by rw [k276]; exact e2, ⟨f3.ct hI (by decide), f3.fp hP (by decide), f3.st hA (by decide) rfl, f3.tx hT (by decide), h2, f3.un hU (by decide), f3.kp' hK (by decide), f3.clu hC (by decide), f3.sig hS (by decide), hl, f3.rr hl hR (by decide)⟩⟩
/-- how many fit and are off by -1, 0, 1 -/
def mM3 (I : Nat → Nat → Int32) (si : List (Nat × Int32)) (q k : Nat) : Prop := I 59 0 = nI (fb_ct (lwo si q (-(nI 1))) k) ∧ I 59 1 = nI (fb_ct (lwo si q (nI 0)) k) ∧ I 59 2 = nI (fb_ct (lwo si q (nI 1)) k)
theorem ofb3 (b c q : Nat) : ofb b c q = -(nI 1) ∨ ofb b c q = nI 0 ∨ ofb b c q = nI 1 := by
  unfold ofb
  split
  · split
    · exact Or.inr (Or.inl (by decide))
    · exact Or.inr (Or.inr (by decide))
  · split
    · exact Or.inl (by decide)
    · exact Or.inr (Or.inl (by decide))
theorem lwo_s (q : Nat) (o : Int32) (k : Nat) : fb_ct (lwo si q o) (k + 1) = fb_ct (lwo si q o) k + if (decide (ofb (k / 7) (k % 7) q = o) && lwf si k) = true then 1 else 0 := rfl
theorem l277c {v1 v2 : Int32} {q : Nat} (hq : q < 7) : ∀ j k (I : Nat → Nat → Int32), k + j = 49 → mSi I si → mM3 I si q k → ∃ I', res d 277 26 [.ref 36, .int v1, .int v2, .int (nI q), .int (nI k)] [] (I, L, rR ru dr sr rd rl, 65, x) = (if nI (lwm si q) < v2 then res d 277 9 [.ref 36, .int (nI q), .int (nI (lwm si q)), .int (nI (q + 1)), .int (nI (lwm si q))] [] (I', L, rR ru dr sr rd rl, 65, x) else res d 277 9 [.ref 36, .int v1, .int v2, .int (nI (q + 1)), .int (nI (lwm si q))] [] (I', L, rR ru dr sr rd rl, 65, x)) ∧ fM [59] [] I I'
  | 0, k, I, hk, hS, hM => by
    have : k = 49 := by omega
    subst this
    have h1 := fb_ct_le (lwo si q (-(nI 1))) 49
    have h2 := fb_ct_le (lwo si q (nI 0)) 49
    have h3 := fb_ct_le (lwo si q (nI 1)) 49
    refine ⟨I, ?_, fM.rf⟩
    rw [l277_26, if_pos (by decide), if_pos (ak_59 (by omega)), if_pos (ak_59 (by omega)), if_pos (ak_59 (by omega)), nI_clamp (by omega), nI_clamp (by omega), nI_clamp (by omega), hM.1, hM.2.1, hM.2.2, zmax_n (by omega) (by omega), zmax_n (by omega) (by omega), nI_add]
    rfl
  | j + 1, k, I, hk, hS, hM => by
    have h1 := fb_ct_le (lwo si q (-(nI 1))) k
    have h2 := fb_ct_le (lwo si q (nI 0)) k
    have h3 := fb_ct_le (lwo si q (nI 1)) k
    rw [l277_26, if_neg (by rw [nI_leI (by omega) (by omega)]; omega), m275 (by omega) hS, bI_i, e277_32]
    cases z : lwf si k with
    | false =>
      have es : ∀ o, fb_ct (lwo si q o) (k + 1) = fb_ct (lwo si q o) k := fun o => by rw [lwo_s, z, Bool.and_false]; rfl
      obtain ⟨I2, e2, f2⟩ := l277c (v1 := v1) (v2 := v2) hq j (k + 1) I (by omega) hS (by unfold mM3; rw [es, es, es]; exact hM)
      refine ⟨I2, ?_, f2⟩
      rw [if_pos (show nI (if false = true then 1 else 0) = 0 from rfl), nI_add]
      exact e2
    | true =>
      have es : ∀ o, fb_ct (lwo si q o) (k + 1) = fb_ct (lwo si q o) k + if ofb (k / 7) (k % 7) q = o then 1 else 0 := fun o => by
        rw [lwo_s, z, Bool.and_true]
        by_cases w : ofb (k / 7) (k % 7) q = o
        · rw [decide_eq_true w, if_pos rfl, if_pos w]
        · rw [decide_eq_false w, if_neg Bool.false_ne_true, if_neg w]
      rw [if_neg (show ¬ nI (if true = true then 1 else 0) = 0 by decide), m274 (by omega) hq, bI_i, e277_38]
      have fin : ∀ i, i < 3 → ofb (k / 7) (k % 7) q + nI 1 = nI i → mM3 (zup I 59 i (I 59 i + nI 1)) si q (k + 1) → ∃ I', (if aok 1 59 (ofb (k / 7) (k % 7) q + nI 1) = true then if aok 1 59 (ofb (k / 7) (k % 7) q + nI 1) = true then res d 277 26 [.ref 36, .int v1, .int v2, .int (nI q), .int (nI k + nI 1)] [] (zup I 59 (ofb (k / 7) (k % 7) q + nI 1).toNatClampNeg (I 59 (ofb (k / 7) (k % 7) q + nI 1).toNatClampNeg + nI 1), L, rR ru dr sr rd rl, 65, x) else none else none) = (if nI (lwm si q) < v2 then res d 277 9 [.ref 36, .int (nI q), .int (nI (lwm si q)), .int (nI (q + 1)), .int (nI (lwm si q))] [] (I', L, rR ru dr sr rd rl, 65, x) else res d 277 9 [.ref 36, .int v1, .int v2, .int (nI (q + 1)), .int (nI (lwm si q))] [] (I', L, rR ru dr sr rd rl, 65, x)) ∧ fM [59] [] I I' := fun i hi e hm => by
        have f1 : fM [59] [] I (zup I 59 i (I 59 i + nI 1)) := fM.up (Or.inl (by decide)) (by decide)
        obtain ⟨I2, e2, f2⟩ := l277c (v1 := v1) (v2 := v2) hq j (k + 1) (zup I 59 i (I 59 i + nI 1)) (by omega) (f1.sig hS (by decide)) hm
        refine ⟨I2, ?_, f1.tr f2⟩
        rw [e, if_pos (ak_59 hi), if_pos (ak_59 hi), nI_clamp (by omega), nI_add]
        exact e2
      have cc : ∀ i j', i < 3 → j' < 3 → (zup I 59 i (I 59 i + nI 1)) 59 j' = if j' = i then I 59 i + nI 1 else I 59 j' := fun i j' _ _ => by rw [zup_v]
      rcases ofb3 (k / 7) (k % 7) q with w | w | w
      · refine fin 0 (by decide) (by rw [w]; decide) ⟨?_, ?_, ?_⟩
        · rw [cc 0 0 (by decide) (by decide), if_pos rfl, es, if_pos w, hM.1, nI_add]
        · rw [cc 0 1 (by decide) (by decide), if_neg (by decide), es, if_neg (by rw [w]; decide), hM.2.1]; rfl
        · rw [cc 0 2 (by decide) (by decide), if_neg (by decide), es, if_neg (by rw [w]; decide), hM.2.2]; rfl
      · refine fin 1 (by decide) (by rw [w]; decide) ⟨?_, ?_, ?_⟩
        · rw [cc 1 0 (by decide) (by decide), if_neg (by decide), es, if_neg (by rw [w]; decide), hM.1]; rfl
        · rw [cc 1 1 (by decide) (by decide), if_pos rfl, es, if_pos w, hM.2.1, nI_add]
        · rw [cc 1 2 (by decide) (by decide), if_neg (by decide), es, if_neg (by rw [w]; decide), hM.2.2]; rfl
      · refine fin 2 (by decide) (by rw [w]; decide) ⟨?_, ?_, ?_⟩
        · rw [cc 2 0 (by decide) (by decide), if_neg (by decide), es, if_neg (by rw [w]; decide), hM.1]; rfl
        · rw [cc 2 1 (by decide) (by decide), if_neg (by decide), es, if_neg (by rw [w]; decide), hM.2.1]; rfl
        · rw [cc 2 2 (by decide) (by decide), if_pos rfl, es, if_pos w, hM.2.2, nI_add]
theorem l277 : ∀ j q (I : Nat → Nat → Int32) (w4 : Value), q + j = 7 → mSi I si → ∃ I' w', res d 277 9 [.ref 36, .int (amI (amn (fun _ => true) (lwm si) q)), .int (nI (amL (amn (fun _ => true) (lwm si) q))), .int (nI q), w4] [] (I, L, rR ru dr sr rd rl, 65, x) = res d 277 9 [.ref 36, .int (amI (amn (fun _ => true) (lwm si) 7)), .int (nI (amL (amn (fun _ => true) (lwm si) 7))), .int (nI 7), w'] [] (I', L, rR ru dr sr rd rl, 65, x) ∧ fM [59] [] I I'
  | 0, q, I, w4, hq, hS => by
    have : q = 7 := by omega
    subst this
    exact ⟨I, w4, rfl, fM.rf⟩
  | j + 1, q, I, w4, hq, hS => by
    obtain ⟨hM, hB⟩ := amn_le (V := fun _ => true) (lwm_le si) q
    have hF := lwm_le si q
    have f1 : fM [59] [] I (zup (zup (zup I 59 0 (nI 0)) 59 1 (nI 0)) 59 2 (nI 0)) := (fM.up (Or.inl (by decide)) (by decide)).tr ((fM.up (Or.inl (by decide)) (by decide)).tr (fM.up (Or.inl (by decide)) (by decide)))
    have hm3 : mM3 (zup (zup (zup I 59 0 (nI 0)) 59 1 (nI 0)) 59 2 (nI 0)) si q 0 := by
      refine ⟨?_, ?_, ?_⟩ <;> simp only [zup_v] <;> rfl
    obtain ⟨I2, e2, f2⟩ := l277c (d := d) (L := L) (ru := ru) (dr := dr) (sr := sr) (rd := rd) (rl := rl) (x := x) (v1 := amI (amn (fun _ => true) (lwm si) q)) (v2 := nI (amL (amn (fun _ => true) (lwm si) q))) (q := q) (by omega) 49 0 _ (by omega) (f1.sig hS (by decide)) hm3
    have e0 : res d 277 9 [.ref 36, .int (amI (amn (fun _ => true) (lwm si) q)), .int (nI (amL (amn (fun _ => true) (lwm si) q))), .int (nI q), w4] [] (I, L, rR ru dr sr rd rl, 65, x) = res d 277 26 [.ref 36, .int (amI (amn (fun _ => true) (lwm si) q)), .int (nI (amL (amn (fun _ => true) (lwm si) q))), .int (nI q), .int (nI 0)] [] (zup (zup (zup I 59 0 (nI 0)) 59 1 (nI 0)) 59 2 (nI 0), L, rR ru dr sr rd rl, 65, x) := by
      rw [l277_9, if_neg (by rw [nI_leI (by omega) (by omega)]; omega), l277_14, if_neg (by decide), if_pos (ak_59 (by decide)), nI_add, l277_14, if_neg (by decide), if_pos (ak_59 (by decide)), nI_add, l277_14, if_neg (by decide), if_pos (ak_59 (by decide)), nI_add, l277_14, if_pos (by decide)]
      rfl
    rw [e0, e2]
    cases y : (amn (fun _ => true) (lwm si) q) with
    | none =>
      obtain ⟨I3, w3, e3, f3⟩ := l277 j (q + 1) I2 (.int (nI (lwm si q))) (by omega) ((f1.tr f2).sig hS (by decide))
      rw [amn_n rfl y] at e3
      rw [if_pos (by rw [nI_ltI (by omega) (by decide)]; show _ < 1000000; omega)]
      exact ⟨I3, w3, e3, f1.tr (f2.tr f3)⟩
    | some e =>
      rw [y] at hM
      have hM' : e.2 ≤ 49 := hM
      by_cases w : lwm si q < e.2
      · obtain ⟨I3, w3, e3, f3⟩ := l277 j (q + 1) I2 (.int (nI (lwm si q))) (by omega) ((f1.tr f2).sig hS (by decide))
        rw [amn_t rfl y w] at e3
        rw [if_pos (by rw [nI_ltI (by omega) (by show e.2 < _; omega)]; exact w)]
        exact ⟨I3, w3, e3, f1.tr (f2.tr f3)⟩
      · obtain ⟨I3, w3, e3, f3⟩ := l277 j (q + 1) I2 (.int (nI (lwm si q))) (by omega) ((f1.tr f2).sig hS (by decide))
        rw [amn_f rfl y w] at e3
        rw [if_neg (by rw [nI_ltI (by omega) (by show e.2 < _; omega)]; exact w)]
        exact ⟨I3, w3, e3, f1.tr (f2.tr f3)⟩
theorem n277 (h : mInv I L rl T R S f g p a n t l u kp cl si rn rt) (hw : wInv R S f g p a T u kp) : ∃ I' L', cal d 277 [.ref 36] (I, L, rR ru dr sr rd rl, 65, x) = some (some (.int (lkA si).1), (I', L', rR ru dr sr rd rl, 65, x)) ∧ mInv I' L' rl T R S f g p a n t ((lkA si).2.getD l) u kp cl si rn rt := by
  obtain ⟨hI, hP, hA, hT, hO, hU, hK, hC, hS, hl, hR⟩ := h
  obtain ⟨hc, hw, hu, hk⟩ := hw
  have f0 : fM [] [] I (zup I 36 10 (nI 0)) := f10
  obtain ⟨I1, w1, e1, f1⟩ := l277 (d := d) (si := si) (L := L) (ru := ru) (dr := dr) (sr := sr) (rd := rd) (rl := rl) (x := x) 7 0 (zup I 36 10 (nI 0)) .null (by omega) (f0.sig hS (by decide))
  obtain ⟨hM, hB⟩ := amn_le (V := fun _ => true) (lwm_le si) 7
  have hsome : ∃ e, (amn (fun _ => true) (lwm si) 7) = some e := by
    cases q : (amn (fun _ => true) (lwm si) 7) with
    | some e => exact ⟨e, rfl⟩
    | none =>
      have q' := q
      rw [amn, if_pos rfl] at q'
      split at q'
      · cases q'
      · split at q' <;> cases q'
  obtain ⟨e, he⟩ := hsome
  have hM' : e.2 ≤ 49 := by rw [he] at hM; exact hM
  rw [he] at e1
  rw [show (amn (fun _ => true) (lwm si) 0) = none from rfl, show amI none = -(nI 1) from rfl, show amL none = 1000000 from rfl, show amL (some e) = e.2 from rfl] at e1
  unfold lkA
  rw [k277, e1, l277_9, if_pos (by decide), he, show amM (some e) = e.2 from rfl]
  by_cases z : e.2 = 0
  · have f2 : fM [59] [] I I1 := (show fM [59] [] I (zup I 36 10 (nI 0)) from f10).tr f1
    rw [if_pos ((nI_z (by omega)).mpr z), if_pos z]
    exact ⟨I1, L, rfl, ⟨f2.ct hI (by decide), f2.fp hP (by decide), f2.st hA (by decide) rfl, f2.tx hT (by decide), f2.to hO (by decide) rfl, f2.un hU (by decide), f2.kp' hK (by decide), f2.clu hC (by decide), f2.sig hS (by decide), hl, f2.rr hl hR (by decide)⟩⟩
  · obtain ⟨I2, L2, e2, h2, f2, g2, -⟩ := m182 (d := d) (v := lN e.2) (ru := ru) (dr := dr) (sr := sr) (rd := rd) (rl := rl) (x := x) (mTo.nil (I := I1) (L := L)) (by decide)
    have f3 : fM [59] [9] I I2 := (show fM [59] [9] I (zup I 36 10 (nI 0)) from f10).tr ((f1.mono (by decide) (by decide)).tr (fM.f9.tr (f2.mono (by decide) (by decide))))
    rw [if_neg (by rw [nI_z (by omega)]; exact z), nI_l (by omega), e2, bV_n, e277_83, if_neg z]
    exact ⟨I2, L2, rfl, ⟨f3.ct hI (by decide), f3.fp hP (by decide), f3.st hA (by decide) rfl, f3.tx hT (by decide), h2, f3.un hU (by decide), f3.kp' hK (by decide), f3.clu hC (by decide), f3.sig hS (by decide), hl, f3.rr hl hR (by decide)⟩⟩

end
