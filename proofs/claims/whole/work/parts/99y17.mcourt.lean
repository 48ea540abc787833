section
variable {I : Nat → Nat → Int32} {L : Nat → Nat → Int64} {ru dr : Nat} {sr : Nat → Option Nat} {rd : Option Nat} {rl x : Nat}
variable {d R S p n T rn : Nat} {f g rt : Nat → Nat} {a : zP} {t : Nat → Nat} {l : List Int64} {u : List zP} {kp : Nat → Option zP} {cl : List (Nat × Nat)} {si : List (Nat × Int32)} {cs : zC}

/-! a court read -/
theorem l198x {K : Nat → Nat → Int32} {k e : Nat} {v : Int32} {w2 : Value} (he : e < 2 ^ 31) : res d 198 8 [.ref 36, .int v, w2] [] (ms K k (nI e), L, rR ru dr sr (some 40) rl, 65, x) = some (some (.int (-(nI 1) - nI e)), (ms K k (nI e), L, rR ru dr sr (some 40) rl, 65, x)) := by
  rw [l198_8, m190f (msd he), bI_i, e198_10, if_pos (show nI 0 = 0 from rfl), e198_29, m196d he, bI_i, e198_31, if_pos (show nI 0 = 0 from rfl), ms_v15]
theorem l198s {K : Nat → Nat → Int32} {k : Nat} {w2 : Value} (hH : mHd K n 8 t 40) (hk : k < min n 8) : res d 198 8 [.ref 36, .int (nI k), w2] [] (ms K k (-(nI 1)), L, rR ru dr sr (some 40) rl, 65, x) = bI (cal d 194 [.ref 36, .int (nI 49), .int (nI 2)] (ms K k (-(nI 1)), L, rR ru dr sr (some 40) rl, 65, x)) (fun r1 h1 => res d 198 24 [.ref 36, .int (nI k), w2] [.int r1, .int (nI k), .ref 42] h1) := by
  have hn := hH.1
  have ht := (hH.2.2.2.2.2.2 k (by omega)).2
  rw [l198_8, m190t, bI_i, e198_10, if_neg (by decide)]
  by_cases z : k = 0
  · rw [if_pos ((nI_z (by omega)).mpr z), e198_17]
  · rw [if_neg (by rw [nI_z (by omega)]; exact z), m189 hH (by omega), bI_i, e198_15, if_neg, e198_17]
    unfold sgn
    rw [if_pos hk]
    exact fun q => ((nI_m1 (by omega)).mp q).elim
theorem l198 : ∀ j k (K : Nat → Nat → Int32) (w2 : Value), k + j = min n 8 → mHd K n 8 t 40 → (∀ i, i < k → csg t i = true) → (∀ i, i < k → K 42 i = nI (t i - 48)) → ∃ K' k', (match cwr t n with
    | some e => res d 198 8 [.ref 36, .int (nI k), w2] [] (ms K k (-(nI 1)), L, rR ru dr sr (some 40) rl, 65, x) = some (some (.int (-(nI 1) - nI e)), (ms K' k' (nI e), L, rR ru dr sr (some 40) rl, 65, x))
    | none => res d 198 8 [.ref 36, .int (nI k), w2] [] (ms K k (-(nI 1)), L, rR ru dr sr (some 40) rl, 65, x) = bV (cal d 197 [.ref 36, .int (nI n)] (ms K' k' (-(nI 1)), L, rR ru dr sr (some 40) rl, 65, x)) (fun h1 => res d 198 40 [.ref 36, .int (nI n), w2] [] h1) ∧ ∀ i, i < n → K' 42 i = nI (t i - 48)) ∧ ∀ c, c ≠ 42 → K' c = K c
  | 0, k, K, w2, hk, hH, hy, h42 => by
    have hn := hH.1
    have hnf : ¬ fa_first (fun k => !csg t k) (min n 8) < min n 8 := fa_first_end fun j hj => by rw [hy j (by omega)]; rfl
    by_cases z : k = 0
    · have hcu : cu t (min n 8) 0 = 256 := cu_m (by omega)
      have ec : cwr t n = some 0 := by
        unfold cwr
        rw [if_neg hnf, if_pos (Or.inl (by omega)), show min n 8 = 0 by omega]
      refine ⟨zup K 42 0 (nI 0 + nI 1), 0, ?_, fun c hc => zup_ne _ _ _ hc⟩
      rw [ec, z]
      dsimp only
      rw [l198_8, m190t, bI_i, e198_10, if_neg (by decide), if_pos (show nI 0 = 0 from rfl), e198_17, m194f hH (by decide) (by decide) (by rw [hcu]; decide), bI_i, e198_24, if_pos (ak_42 (by decide)), nI_clamp (by decide), ms_z _ _ _ _ (by decide), l198x (by decide)]
    · have e1 : res d 198 8 [.ref 36, .int (nI k), w2] [] (ms K k (-(nI 1)), L, rR ru dr sr (some 40) rl, 65, x) = bI (cal d 196 [.ref 36] (ms K k (-(nI 1)), L, rR ru dr sr (some 40) rl, 65, x)) (fun r1 h1 => res d 198 31 [.ref 36, .int (nI k), w2] [.int r1] h1) := by
        rw [l198_8, m190t, bI_i, e198_10, if_neg (by decide), if_neg (by rw [nI_z (by omega)]; exact z), m189 hH (by omega), bI_i, e198_15, if_pos (by unfold sgn; rw [if_neg (by omega)]), e198_29]
      refine ⟨K, k, ?_, fun _ _ => rfl⟩
      rw [e1, m196 hH.2.2.1 hn (by omega), bI_i, e198_31]
      by_cases y : n ≤ k
      · have ec : cwr t n = none := by
          unfold cwr
          rw [if_neg hnf, if_neg (by omega)]
        rw [ec, if_pos y, if_pos y, if_neg (by decide), show k = n by omega]
        exact ⟨rfl, fun i hi => h42 i (by omega)⟩
      · have ec : cwr t n = some k := by
          unfold cwr
          rw [if_neg hnf, if_pos (Or.inr (by omega)), hk.symm]
          rfl
        rw [ec, if_neg y, if_neg y, if_pos (show nI 0 = 0 from rfl), ms_v15]
  | j + 1, k, K, w2, hk, hH, hy, h42 => by
    have hn := hH.1
    have hcu : cu t (min n 8) k = t k := if_pos (by omega)
    rw [l198s hH (by omega)]
    by_cases z : t k = 49 ∨ t k = 50
    · have hy2 : ∀ i, i < k + 1 → csg t i = true := fun i hi => by
        by_cases y : i = k
        · rw [y]; exact decide_eq_true z
        · exact hy i (by omega)
      obtain ⟨K1, k1, e1, h1⟩ := l198 j (k + 1) (zup K 42 k (nI (t k - 49 + 1))) w2 (by omega) (hH.z (by decide) (by decide)) hy2 (fun i hi => by
        rw [zup_v]
        by_cases y : i = k
        · rw [if_pos y, y, show t k - 49 + 1 = t k - 48 by omega]
        · rw [if_neg y]; exact h42 i (by omega))
      refine ⟨K1, k1, ?_, fun c hc => by rw [h1 c hc, zup_ne _ _ _ hc]⟩
      rw [m194t hH (by decide) (by rw [hcu]; omega), bI_i, e198_24, if_pos (ak_42 (by omega)), hcu, nI_add, nI_add, nI_clamp (by omega), ms_z _ _ _ _ (by decide)]
      exact e1
    · have hno : csg t k = false := decide_eq_false z
      have hf : fa_first (fun k => !csg t k) (min n 8) = k := fa_first_at (by omega) (by show (!csg t k) = true; rw [hno]; rfl) (fun i hi => by show (!csg t i) = false; rw [hy i hi]; rfl)
      have ec : cwr t n = some k := by
        unfold cwr
        rw [hf, if_pos (by omega)]
      refine ⟨zup K 42 k (nI 0 + nI 1), k, ?_, fun c hc => zup_ne _ _ _ hc⟩
      rw [ec, m194f hH (by omega) (by decide) (by rw [hcu]; omega), bI_i, e198_24, if_pos (ak_42 (by omega)), nI_clamp (by omega), ms_z _ _ _ _ (by decide), nI_add, nI_add, l198x (by omega)]
/-! a court laid -/
theorem i197 {r c z : Nat} {v1 : Int32} (hr : r < 9) (hz : c + z ≤ 16) : ∀ j v (I : Nat → Nat → Int32), v + j = z → I 36 3 = nI c → I 42 r = nI z → ∃ I', res d 197 19 [.ref 36, .int v1, .int (nI r), .int (nI v)] [] (I, L, rR ru dr sr rd rl, 65, x) = res d 197 8 [.ref 36, .int v1, .int (nI (r + 1)), .int (nI z)] [] (zup I' 36 3 (nI (c + z)), L, rR ru dr sr rd rl, 65, x) ∧ (∀ s, c + v ≤ s → s < c + z → I' 38 s = nI r) ∧ (∀ s, s < c + v → I' 38 s = I 38 s) ∧ ∀ b, b ≠ 38 → I' b = I b
  | 0, v, I, hv, h3, h42 => ⟨I, by rw [l197_19, if_pos (ak_42 hr), nI_clamp (by omega), h42, if_pos (by rw [nI_leI (by omega) (by omega)]; omega), if_pos (ak_42 hr), h3, nI_add, nI_add, show v = z by omega], fun s a b => by omega, fun _ _ => rfl, fun _ _ => rfl⟩
  | j + 1, v, I, hv, h3, h42 => by
    obtain ⟨I1, e1, p1, p2, p3⟩ := i197 (v1 := v1) hr hz j (v + 1) (zup I 38 (c + v) (nI r)) (by omega) (by rw [zup_ne _ _ _ (by decide)]; exact h3) (by rw [zup_ne _ _ _ (by decide)]; exact h42)
    refine ⟨I1, ?_, fun s a b => ?_, fun s a => ?_, fun b hb => by rw [p3 b hb, zup_ne _ _ _ hb]⟩
    · rw [l197_19, if_pos (ak_42 hr), nI_clamp (by omega), h42, if_neg (by rw [nI_leI (by omega) (by omega)]; omega), h3, nI_add, if_pos (ak_38 (by omega)), nI_clamp (by omega), nI_add]
      exact e1
    · by_cases y : s = c + v
      · rw [y, p2 _ (by omega), zup_v, if_pos rfl]
      · exact p1 s (by omega) b
    · rw [p2 s (by omega), zup_v, if_neg (by omega)]
def mLy (I : Nat → Nat → Int32) (t : Nat → Nat) (n r : Nat) : Prop := I 36 2 = nI n ∧ I 36 3 = nI (cff t r) ∧ (∀ s, s < cff t r → I 38 s = nI (cgg t n s)) ∧ (∀ q, q < r → I 39 q = nI (cff t q)) ∧ ∀ i, i < n → I 42 i = nI (t i - 48)
theorem l197 (h1 : 1 ≤ n) (h8 : n ≤ 8) (h : ∀ k, k < n → t k = 49 ∨ t k = 50) : ∀ j r (I : Nat → Nat → Int32) (w3 : Value), r + j = n → mLy I t n r → ∃ I', res d 197 8 [.ref 36, .int (nI n), .int (nI r), w3] [] (I, L, rR ru dr sr rd rl, 65, x) = some (none, (I', L, rR ru dr sr rd rl, 65, x)) ∧ mCt I' n (cff t n) (cff t) (cgg t n) ∧ (∀ c, c ≠ 36 → c ≠ 38 → c ≠ 39 → I' c = I c) ∧ ∀ k, k ≠ 2 → k ≠ 3 → I' 36 k = I 36 k
  | 0, r, I, w3, hr, hL => by
    have : r = n := by omega
    subst this
    obtain ⟨l1, l2, l3, l4, l5⟩ := hL
    have hct := cct h1 h8 h
    have hS := hct.S16
    refine ⟨zup (zup I 39 r (nI (cff t r))) 38 (cff t r) (nI r), ?_, ⟨?_, ?_, fun s hs => ?_, fun q hq => ?_⟩, fun c a b e => by rw [zup_ne _ _ _ b, zup_ne _ _ _ e], fun k a b => by rw [zup_ne _ _ _ (by decide), zup_ne _ _ _ (by decide)]⟩
    · rw [l197_8, if_pos (by rw [nI_leI (by omega) (by omega)]; omega), if_pos (ak_39 (by omega)), l2, if_pos (ak_38 (by omega)), nI_clamp (by omega), nI_clamp (by omega)]
    · rw [zup_ne _ _ _ (by decide), zup_ne _ _ _ (by decide)]; exact l1
    · rw [zup_ne _ _ _ (by decide), zup_ne _ _ _ (by decide)]; exact l2
    · rw [zup_v]
      by_cases y : s = cff t r
      · rw [if_pos y, y]
        have hx := hct.2.2.2.2.2.2
        rw [hx]
      · rw [if_neg y, zup_ne _ _ _ (by decide)]; exact l3 s (by omega)
    · rw [zup_ne _ _ _ (by decide), zup_v]
      by_cases y : q = r
      · rw [if_pos y, y]
      · rw [if_neg y]; exact l4 q (by omega)
  | j + 1, r, I, w3, hr, hL => by
    obtain ⟨l1, l2, l3, l4, l5⟩ := hL
    have hct := cct h1 h8 h
    have hS := hct.S16
    have e0 : cff t (r + 1) = cff t r + (t r - 48) := rfl
    have hle : cff t (r + 1) ≤ cff t n := by
      have := cff_m h (n - (r + 1)) (r + 1) (by omega)
      rw [show r + 1 + (n - (r + 1)) = n by omega] at this
      exact this
    obtain ⟨I1, e1, p1, p2, p3⟩ := i197 (d := d) (L := L) (rd := rd) (ru := ru) (dr := dr) (sr := sr) (rl := rl) (x := x) (r := r) (c := cff t r) (z := t r - 48) (v1 := nI n) (by omega) (by omega) (t r - 48) 0 (zup I 39 r (nI (cff t r))) (by omega) (by rw [zup_ne _ _ _ (by decide)]; exact l2) (by rw [zup_ne _ _ _ (by decide)]; exact l5 r (by omega))
    have hL2 : mLy (zup I1 36 3 (nI (cff t (r + 1)))) t n (r + 1) := by
      refine ⟨?_, ?_, fun s hs => ?_, fun q hq => ?_, fun i hi => ?_⟩
      · rw [zup_v, if_neg (by decide), p3 36 (by decide), zup_ne _ _ _ (by decide)]; exact l1
      · rw [zup_v, if_pos rfl]
      · rw [zup_ne _ _ _ (by decide)]
        by_cases y : s < cff t r
        · rw [p2 s (by omega), zup_ne _ _ _ (by decide)]; exact l3 s y
        · rw [p1 s (by omega) (by omega), cgg_r h (show r < n by omega) (by omega) hs]
      · rw [zup_ne _ _ _ (by decide), p3 39 (by decide), zup_v]
        by_cases y : q = r
        · rw [if_pos y, y]
        · rw [if_neg y]; exact l4 q (by omega)
      · rw [zup_ne _ _ _ (by decide), p3 42 (by decide), zup_ne _ _ _ (by decide)]; exact l5 i hi
    obtain ⟨I2, e2, h2, c2, k2⟩ := l197 h1 h8 h j (r + 1) (zup I1 36 3 (nI (cff t (r + 1)))) (.int (nI (t r - 48))) (by omega) hL2
    refine ⟨I2, ?_, h2, fun c a b e => by rw [c2 c a b e, zup_ne _ _ _ a, p3 c b, zup_ne _ _ _ e], fun k a b => by rw [k2 k a b, zup_v, if_neg b, p3 36 (by decide), zup_ne _ _ _ (by decide)]⟩
    rw [l197_8, if_neg (by rw [nI_leI (by omega) (by omega)]; omega), if_pos (ak_39 (by omega)), l2, nI_clamp (by omega), e1]
    rw [e0] at e2
    exact e2
theorem l198_z {v1 : Int32} : ∀ j k (I : Nat → Nat → Int32), k + j = 26 → (∀ i, i < k → I 37 i = nI 0) → ∃ I', res d 198 45 [.ref 36, .int v1, .int (nI k)] [] (I, L, rR ru dr sr rd rl, 65, x) = res d 198 66 [.ref 36, .int v1, .int (nI 0)] [] (zup (zup (zup I' 36 27 (nI 0)) 36 35 (nI 0)) 36 38 (nI 0), L, rR ru dr sr rd rl, 65, x) ∧ mSt I' 37 (fun _ => 0) ∧ ∀ c, c ≠ 37 → I' c = I c
  | 0, k, I, hk, h => ⟨I, by rw [l198_45, if_pos (by rw [nI_leI (by omega) (by omega)]; omega)], fun i hi => h i (by omega), fun _ _ => rfl⟩
  | j + 1, k, I, hk, h => by
    obtain ⟨I1, e1, h1, c1⟩ := l198_z (v1 := v1) j (k + 1) (zup I 37 k (nI 0)) (by omega) (fun i hi => by
      rw [zup_v]
      by_cases y : i = k
      · rw [if_pos y]
      · rw [if_neg y]; exact h i (by omega))
    refine ⟨I1, ?_, h1, fun c hc => by rw [c1 c hc, zup_ne _ _ _ hc]⟩
    rw [l198_45, if_neg (by rw [nI_leI (by omega) (by omega)]; omega), if_pos (ak_37 (by omega)), nI_clamp (by omega), nI_add]
    exact e1
theorem f7c {k : Nat} {e : Int32} {K' : Nat → Nat → Int32} {top c0 : Nat} (hc : c0 ≠ 36 ∧ msc c0 = false) (h : ∀ c, c ≠ c0 → K' c = bgn (zup I 36 10 (nI 0)) n top c) : fM [c0] [7] I (ms K' k e) := (f10 (W := [c0]) (F := [7])).tr (bgn_f.tr (fM.tr ⟨fun c hm _ => h c (fun q => hm (List.mem_singleton.mpr q)), fun j _ _ => by rw [h 36 (Ne.symm hc.1)]⟩ fM.ms))
theorem f7v {k : Nat} {e : Int32} {K' : Nat → Nat → Int32} {top c0 : Nat} (hc : c0 ≠ 36 ∧ msc c0 = false) (h : ∀ c, c ≠ c0 → K' c = bgn (zup I 36 10 (nI 0)) n top c) : ms K' k e 36 7 = nI 0 := by
  rw [ms_v _ _ _ (by decide) (by decide), h 36 (Ne.symm hc.1)]
  unfold bgn
  rw [zup_v, if_pos rfl]
theorem n198f {e : Nat} (h : mInv I L rl T R S f g p a n t l u kp cl si rn rt) (hw : wInv R S f g p a T u kp) (hg : cwr t n = some e) : ∃ I' rd', cal d 198 [.ref 36] (I, L, rR ru dr sr rd rl, 65, x) = some (some (.int (-(nI 1) - nI e)), (I', L, rR ru dr sr rd' rl, 65, x)) ∧ mInv I' L rl T R S f g p a 0 t l u kp cl si rn rt := by
  obtain ⟨hI, hP, hA, hT, hO, hU, hK, hC, hS, hl, hR⟩ := h
  obtain ⟨hc, hw, hu, hk⟩ := hw
  have f0 : fM [] [] I (zup I 36 10 (nI 0)) := f10
  have hT0 := f0.tx hT (by decide)
  obtain ⟨K, k, e1, h1⟩ := l198 (d := d) (L := L) (ru := ru) (dr := dr) (sr := sr) (rl := rl) (x := x) (min n 8) 0 (bgn (zup I 36 10 (nI 0)) n 8) .null (by omega) (bgn_H hT0 (by decide)) (fun i hi => absurd hi (Nat.not_lt_zero _)) (fun i hi => absurd hi (Nat.not_lt_zero _))
  rw [hg] at e1
  have f2 := f7c (I := I) (n := n) (k := k) (e := nI e) (c0 := 42) (by decide) h1
  have h7 := f7v (I := I) (n := n) (k := k) (e := nI e) (c0 := 42) (by decide) h1
  refine ⟨ms K k (nI e), some 40, ?_, ⟨f2.ct hI (by decide), f2.fp hP (by decide), f2.st hA (by decide) rfl, mTx.none h7, f2.to hO (by decide) rfl, f2.un hU (by decide), f2.kp' hK (by decide), f2.clu hC (by decide), f2.sig hS (by decide), hl, f2.rr hl hR (by decide)⟩⟩
  rw [k198, m188 hT0, bV_n, e198_6]
  exact e1
theorem n198t (h : mInv I L rl T R S f g p a n t l u kp cl si rn rt) (hw : wInv R S f g p a T u kp) (hg : cwr t n = none) : ∃ I' rd', cal d 198 [.ref 36] (I, L, rR ru dr sr rd rl, 65, x) = some (some (.int (nI (cff t n))), (I', L, rR ru dr sr rd' rl, 65, x)) ∧ mInv I' L rl T n (cff t n) (cff t) (cgg t n) 0 (fun _ => 0) 0 t l [] (fun _ => none) [] [] rn rt := by
  obtain ⟨hI, hP, hA, hT, hO, hU, hK, hC, hS, hl, hR⟩ := h
  obtain ⟨hc, hw, hu, hk⟩ := hw
  have f0 : fM [] [] I (zup I 36 10 (nI 0)) := f10
  have hT0 := f0.tx hT (by decide)
  obtain ⟨n1, n8, hs⟩ := cwr_none hg
  obtain ⟨K, k, e1, h1⟩ := l198 (d := d) (L := L) (ru := ru) (dr := dr) (sr := sr) (rl := rl) (x := x) (min n 8) 0 (bgn (zup I 36 10 (nI 0)) n 8) .null (by omega) (bgn_H hT0 (by decide)) (fun i hi => absurd hi (Nat.not_lt_zero _)) (fun i hi => absurd hi (Nat.not_lt_zero _))
  rw [hg] at e1
  obtain ⟨e1, h42⟩ := e1
  have f2 := f7c (I := I) (n := n) (k := k) (e := -(nI 1)) (c0 := 42) (by decide) h1
  have h7 := f7v (I := I) (n := n) (k := k) (e := -(nI 1)) (c0 := 42) (by decide) h1
  let J := zup (zup (ms K k (-(nI 1))) 36 2 (nI n)) 36 3 (nI 0)
  have hJ : mLy J t n 0 := by
    refine ⟨?_, ?_, fun s hs => absurd hs (Nat.not_lt_zero _), fun q hq => absurd hq (Nat.not_lt_zero _), fun i hi => ?_⟩
    · show zup (zup (ms K k (-(nI 1))) 36 2 (nI n)) 36 3 (nI 0) 36 2 = _
      rw [zup_v, if_neg (by decide), zup_v, if_pos rfl]
    · show zup (zup (ms K k (-(nI 1))) 36 2 (nI n)) 36 3 (nI 0) 36 3 = _
      rw [zup_v, if_pos rfl]
      rfl
    · show zup (zup (ms K k (-(nI 1))) 36 2 (nI n)) 36 3 (nI 0) 42 i = _
      rw [zup_ne _ _ _ (by decide), zup_ne _ _ _ (by decide), ms_c _ _ _ (by decide)]
      exact h42 i hi
  obtain ⟨I2, e2, h2, c2, k2⟩ := l197 (d := d) (L := L) (rd := some 40) (ru := ru) (dr := dr) (sr := sr) (rl := rl) (x := x) n1 n8 hs n 0 J .null (by omega) hJ
  have f23 : fM [38, 39] [2, 3] (ms K k (-(nI 1))) I2 := ⟨fun c hm hc => by
      rw [c2 c (fun q => by rw [q] at hc; cases hc) (fun q => hm (by rw [q]; decide)) (fun q => hm (by rw [q]; decide))]
      show zup (zup (ms K k (-(nI 1))) 36 2 (nI n)) 36 3 (nI 0) c = _
      have : c ≠ 36 := fun q => by rw [q] at hc; cases hc
      rw [zup_ne _ _ _ this, zup_ne _ _ _ this], fun j hj _ => by
      have j2 : j ≠ 2 := fun q => hj (by rw [q]; decide)
      have j3 : j ≠ 3 := fun q => hj (by rw [q]; decide)
      rw [k2 j j2 j3]
      show zup (zup (ms K k (-(nI 1))) 36 2 (nI n)) 36 3 (nI 0) 36 j = _
      rw [zup_v, if_neg j3, zup_v, if_neg j2]⟩
  have f02 : fM [38, 39, 42] [2, 3, 7] I I2 := (f2.mono (by decide) (by decide)).tr (f23.mono (by decide) (by decide))
  obtain ⟨I3, e3, h3, c3⟩ := l198_z (d := d) (L := L) (rd := some 40) (ru := ru) (dr := dr) (sr := sr) (rl := rl) (x := x) (v1 := nI n) 26 0 (zup I2 36 1 (nI 0)) (by omega) (fun i hi => absurd hi (Nat.not_lt_zero _))
  let M := zup (zup (zup (zup (zup I3 36 27 (nI 0)) 36 35 (nI 0)) 36 38 (nI 0)) 62 0 (nI 0)) 62 1 (nI 0)
  have f3M : fM [62] [27, 35, 38] I3 M := (fM.fld (Or.inl (by decide))).tr ((fM.fld (Or.inl (by decide))).tr ((fM.fld (Or.inl (by decide))).tr ((fM.up (Or.inl (by decide)) (by decide)).tr (fM.up (Or.inl (by decide)) (by decide)))))
  have f13 : fM [37] [1] I2 I3 := (fM.fld (W := [37]) (F := [1]) (I := I2) (k := 1) (v := nI 0) (Or.inl (by decide))).tr ⟨fun c hm _ => c3 c (fun q => hm (List.mem_singleton.mpr q)), fun j _ _ => by rw [c3 36 (by decide)]⟩
  have f2M : fM [37, 62] [1, 27, 35, 38] I2 M := (f13.mono (by decide) (by decide)).tr (f3M.mono (by decide) (by decide))
  have f0M : fM [37, 38, 39, 42, 62] [1, 2, 3, 7, 27, 35, 38] I M := (f02.mono (by decide) (by decide)).tr (f2M.mono (by decide) (by decide))
  have fv : ∀ j, M 36 j = if j = 38 then nI 0 else if j = 35 then nI 0 else if j = 27 then nI 0 else I3 36 j := fun j => by
    show zup (zup (zup (zup (zup I3 36 27 (nI 0)) 36 35 (nI 0)) 36 38 (nI 0)) 62 0 (nI 0)) 62 1 (nI 0) 36 j = _
    rw [zup_ne _ _ _ (by decide), zup_ne _ _ _ (by decide), zup_v, zup_v, zup_v]
  have g1 : M 36 1 = nI 0 := by rw [fv, if_neg (by decide), if_neg (by decide), if_neg (by decide), c3 36 (by decide), zup_v, if_pos rfl]
  have g7 : M 36 7 = nI 0 := by rw [f2M.2 7 (by decide) rfl, f23.2 7 (by decide) rfl]; exact h7
  have gc := f2M.ct h2 (by decide)
  have gk : mKp M T (fun _ => none) := by
    obtain ⟨cm, m1, m2, -⟩ := hK
    refine ⟨cm, m1, by rw [f0M.2 42 (by decide) rfl]; exact m2, fun i hi => ⟨fun _ => Or.inl ?_, fun b hb => by cases hb⟩⟩
    show zup (zup (zup (zup (zup I3 36 27 (nI 0)) 36 35 (nI 0)) 36 38 (nI 0)) 62 0 (nI 0)) 62 1 (nI 0) 62 i = _
    rw [zup_v, zup_v]
    by_cases y : i = 1
    · rw [if_pos y]
    · rw [if_neg y, if_pos (by omega)]
  have gu : mUn M [] := ⟨by rw [fv, if_neg (by decide), if_neg (by decide), if_pos rfl]; rfl, by decide, fun i b q => by cases q⟩
  have gl : mCl M [] := ⟨by rw [fv, if_neg (by decide), if_pos rfl]; rfl, by decide, fun i w v q => by cases q⟩
  have gs : mSi M [] := ⟨by rw [fv, if_pos rfl]; rfl, by decide, fun i w v q => by cases q⟩
  refine ⟨M, some 40, ?_, ⟨gc, g1, f3M.st h3 (by decide) rfl, mTx.none g7, f0M.to hO (by decide) rfl, gu, gk, gl, gs, hl, f0M.rr hl hR (by decide)⟩⟩
  rw [k198, m188 hT0, bV_n, e198_6, e1, k197]
  show bV (res d 197 8 [.ref 36, .int (nI n), .int (nI 0), .null] [] (J, L, rR ru dr sr (some 40) rl, 65, x)) _ = _
  rw [e2, bV_n, e198_40, e3, l198_66, if_neg (by decide), if_pos zb0, if_pos (ak_62 (by decide)), nI_clamp (by decide), nI_add, l198_66, if_neg (by decide), if_pos zb0, if_pos (ak_62 (by decide)), nI_clamp (by decide), nI_add, l198_66, if_pos (by decide)]
  show some (some (Value.int (M 36 3)), (M, L, rR ru dr sr (some 40) rl, 65, x)) = _
  rw [gc.2.1]

end
