section
variable {I : Nat → Nat → Int32} {L : Nat → Nat → Int64} {ru dr : Nat} {sr : Nat → Option Nat} {rd : Option Nat} {rl x : Nat}
variable {d R S p n T rn : Nat} {f g rt : Nat → Nat} {a : zP} {t : Nat → Nat} {l : List Int64} {u : List zP} {kp : Nat → Option zP} {cl : List (Nat × Nat)} {si : List (Nat × Int32)} {cs : zC}

/-! players read -/
theorem pwr_at {q : Nat} (hall : ∀ i, i < q → pst t p i = true) (hq : q < min n 11 ∧ pst t p q = false ∨ q = min n 11 ∧ ((0 < q ∧ q % 3 ≠ 2) ∨ q < n)) : pwr t n p = some q := by
  unfold pwr
  rcases hq with ⟨h1, h2⟩ | ⟨h1, h2⟩
  · have hf : fa_first (fun k => !pst t p k) (min n 11) = q := fa_first_at h1 (by show (!pst t p q) = true; rw [h2]; rfl) (fun i hi => by show (!pst t p i) = false; rw [hall i hi]; rfl)
    rw [hf, if_pos h1]
  · have hnf : ¬ fa_first (fun k => !pst t p k) (min n 11) < min n 11 := fa_first_end fun j hj => by rw [hall j (by omega)]; rfl
    rw [if_neg hnf, if_pos (by rw [← h1]; exact h2), h1]
theorem pwr_ok (hall : ∀ i, i < n → pst t p i = true) (h1 : n ≤ 11) (h2 : n % 3 = 2) : pwr t n p = none := by
  have hm : min n 11 = n := by omega
  have hnf : ¬ fa_first (fun k => !pst t p k) (min n 11) < min n 11 := fa_first_end fun j hj => by rw [hall j (by omega)]; rfl
  unfold pwr
  rw [if_neg hnf, if_neg (by omega)]
theorem l199x {K : Nat → Nat → Int32} {k e : Nat} {v1 v2 : Int32} {w3 : Value} (he : e < 2 ^ 31) : res d 199 55 [.ref 36, .int v1, .int v2, w3] [] (ms K k (nI e), L, rR ru dr sr (some 40) rl, 65, x) = some (some (.int (-(nI 1) - nI e)), (ms K k (nI e), L, rR ru dr sr (some 40) rl, 65, x)) := by
  rw [e199_55, m192d (msd he), bI_i, e199_59, l199_15, if_pos (show nI 0 = 0 from rfl), e199_61, m196d he, bI_i, e199_63, if_pos (show nI 0 = 0 from rfl), ms_v15]
def mTl (K : Nat → Nat → Int32) (t : Nat → Nat) (i : Nat) : Prop := ∀ q, q < i → K 43 (2 * q) = nI (t (3 * q) - 48) ∧ K 43 (2 * q + 1) = nI (t (3 * q + 1) - 48)
theorem l199 (hp : p ≤ 4) (hn0 : 0 < n) : ∀ j i (K : Nat → Nat → Int32) (w3 : Value), p + i + j = 4 → 3 * i ≤ min n 11 → mHd K n 11 t 40 → K 36 1 = nI p → (∀ q, q < 3 * i → pst t p q = true) → mTl K t i → ∃ K' k', (match pwr t n p with
    | some e => res d 199 15 [.ref 36, .int (nI i), .int (nI 1), w3] [] (ms K (3 * i) (-(nI 1)), L, rR ru dr sr (some 40) rl, 65, x) = some (some (.int (-(nI 1) - nI e)), (ms K' k' (nI e), L, rR ru dr sr (some 40) rl, 65, x))
    | none => res d 199 15 [.ref 36, .int (nI i), .int (nI 1), w3] [] (ms K (3 * i) (-(nI 1)), L, rR ru dr sr (some 40) rl, 65, x) = res d 199 71 [.ref 36, .int (nI ((n + 1) / 3)), .int (nI 0), .int (nI 0)] [] (ms K' k' (-(nI 1)), L, rR ru dr sr (some 40) rl, 65, x) ∧ mTl K' t ((n + 1) / 3)) ∧ ∀ c, c ≠ 43 → K' c = K c
  | 0, i, K, w3, hi, hk, hH, h1, hall, hT => by
    have ep : pwr t n p = some (3 * i) := by
      refine pwr_at hall ?_
      by_cases z : 3 * i < min n 11
      · refine Or.inl ⟨z, ?_⟩
        unfold pst
        rw [if_pos (by omega)]
        exact decide_eq_false (by omega)
      · exact Or.inr ⟨by omega, Or.inl (by omega)⟩
    refine ⟨K, 3 * i, ?_, fun _ _ => rfl⟩
    rw [ep]
    dsimp only
    rw [l199_15, if_neg (by decide), m190t, bI_i, e199_19, if_neg (by decide), ms_v _ _ _ (by decide) (by decide), h1, nI_add, if_pos (by rw [show p + i = 4 by omega]), ms_v14, m191, bV_n, e199_30, l199x (by omega)]
  | j + 1, i, K, w3, hi, hk, hH, h1, hall, hT => by
    have hn := hH.1
    have e0 : res d 199 15 [.ref 36, .int (nI i), .int (nI 1), w3] [] (ms K (3 * i) (-(nI 1)), L, rR ru dr sr (some 40) rl, 65, x) = bI (cal d 194 [.ref 36, .int (nI 49), .int (nI 4)] (ms K (3 * i) (-(nI 1)), L, rR ru dr sr (some 40) rl, 65, x)) (fun r1 h1 => res d 199 40 [.ref 36, .int (nI i), .int (nI 1), w3] [.int r1, .int (nI (2 * i)), .ref 43] h1) := by
      rw [l199_15, if_neg (by decide), m190t, bI_i, e199_19, if_neg (by decide), ms_v _ _ _ (by decide) (by decide), h1, nI_add, if_neg (by rw [nI_eq (by omega) (by omega)]; omega), zmul]
    rw [e0]
    by_cases z : 3 * i < min n 11 ∧ 49 ≤ t (3 * i) ∧ t (3 * i) ≤ 52
    · have hcu : cu t (min n 11) (3 * i) = t (3 * i) := if_pos z.1
      have hp0 : pst t p (3 * i) = true := by
        unfold pst
        rw [if_pos (by omega)]
        exact decide_eq_true ⟨by omega, z.2⟩
      let K1 := zup K 43 (2 * i) (nI (t (3 * i) - 49 + 1))
      have hH1 : mHd K1 n 11 t 40 := hH.z (by decide) (by decide)
      have e1 : bI (cal d 194 [.ref 36, .int (nI 49), .int (nI 4)] (ms K (3 * i) (-(nI 1)), L, rR ru dr sr (some 40) rl, 65, x)) (fun r1 h1 => res d 199 40 [.ref 36, .int (nI i), .int (nI 1), w3] [.int r1, .int (nI (2 * i)), .ref 43] h1) = bI (cal d 194 [.ref 36, .int (nI 48), .int (nI 10)] (ms K1 (3 * i + 1) (-(nI 1)), L, rR ru dr sr (some 40) rl, 65, x)) (fun r1 h1 => res d 199 54 [.ref 36, .int (nI i), .int (nI 1), w3] [.int r1, .int (nI (2 * i + 1)), .ref 43] h1) := by
        rw [m194t hH (by decide) (by rw [hcu]; omega), bI_i, e199_40, if_pos (ak_43 (by omega)), hcu, nI_add, nI_clamp (by omega), ms_z _ _ _ _ (by decide), zmul, nI_add]
      rw [e1]
      by_cases y : 3 * i + 1 < min n 11 ∧ 48 ≤ t (3 * i + 1) ∧ t (3 * i + 1) ≤ 57
      · have hcu1 : cu t (min n 11) (3 * i + 1) = t (3 * i + 1) := if_pos y.1
        have hp1 : pst t p (3 * i + 1) = true := by
          unfold pst
          rw [if_neg (by omega), if_pos (by omega)]
          exact decide_eq_true y.2
        let K2 := zup K1 43 (2 * i + 1) (nI (t (3 * i + 1) - 48))
        have hH2 : mHd K2 n 11 t 40 := hH1.z (by decide) (by decide)
        have hall2 : ∀ q, q < 3 * i + 2 → pst t p q = true := fun q hq => by
          by_cases c1 : q = 3 * i
          · rw [c1]; exact hp0
          · by_cases c2 : q = 3 * i + 1
            · rw [c2]; exact hp1
            · exact hall q (by omega)
        have hT2 : mTl K2 t (i + 1) := fun q hq => by
          have g : ∀ v, K2 43 v = if v = 2 * i + 1 then nI (t (3 * i + 1) - 48) else if v = 2 * i then nI (t (3 * i) - 49 + 1) else K 43 v := fun v => by
            show zup (zup K 43 (2 * i) (nI (t (3 * i) - 49 + 1))) 43 (2 * i + 1) (nI (t (3 * i + 1) - 48)) 43 v = _
            rw [zup_v, zup_v]
          rw [g, g]
          by_cases c1 : q = i
          · subst c1
            rw [if_neg (by omega), if_pos rfl, if_pos rfl, show t (3 * q) - 49 + 1 = t (3 * q) - 48 by omega]
            exact ⟨rfl, rfl⟩
          · rw [if_neg (by omega), if_neg (by omega), if_neg (by omega), if_neg (by omega)]
            exact hT q (by omega)
        have hc2 : ∀ c, c ≠ 43 → K2 c = K c := fun c hc => by
          show zup (zup K 43 (2 * i) (nI (t (3 * i) - 49 + 1))) 43 (2 * i + 1) (nI (t (3 * i + 1) - 48)) c = _
          rw [zup_ne _ _ _ hc, zup_ne _ _ _ hc]
        have e2 : bI (cal d 194 [.ref 36, .int (nI 48), .int (nI 10)] (ms K1 (3 * i + 1) (-(nI 1)), L, rR ru dr sr (some 40) rl, 65, x)) (fun r1 h1 => res d 199 54 [.ref 36, .int (nI i), .int (nI 1), w3] [.int r1, .int (nI (2 * i + 1)), .ref 43] h1) = bI (cal d 192 [.ref 36, .int (nI 59)] (ms K2 (3 * i + 2) (-(nI 1)), L, rR ru dr sr (some 40) rl, 65, x)) (fun r1 h1 => res d 199 59 [.ref 36, .int (nI (i + 1)), .int (nI 1), w3] [.int r1] h1) := by
          rw [m194t hH1 (by decide) (by rw [hcu1]; omega), bI_i, e199_54, if_pos (ak_43 (by omega)), hcu1, nI_clamp (by omega), ms_z _ _ _ _ (by decide), e199_55, nI_add]
        rw [e2]
        by_cases w : cu t (min n 11) (3 * i + 2) = 59
        · have hlt := cu_lt w (by decide)
          have hp2 : pst t p (3 * i + 2) = true := by
            unfold pst
            rw [if_neg (by omega), if_neg (by omega)]
            unfold cu at w
            rw [if_pos hlt] at w
            exact decide_eq_true w
          obtain ⟨K3, k3, e3, h3⟩ := l199 hp hn0 j (i + 1) K2 w3 (by omega) (by omega) hH2 (by rw [hc2 36 (by decide)]; exact h1) (fun q hq => by
            by_cases c1 : q = 3 * i + 2
            · rw [c1]; exact hp2
            · exact hall2 q (by omega)) hT2
          refine ⟨K3, k3, ?_, fun c hc => by rw [h3 c hc, hc2 c hc]⟩
          rw [m192t hH2 (by decide) w, bI_i, e199_59]
          exact e3
        · have e4 : bI (cal d 192 [.ref 36, .int (nI 59)] (ms K2 (3 * i + 2) (-(nI 1)), L, rR ru dr sr (some 40) rl, 65, x)) (fun r1 h1 => res d 199 59 [.ref 36, .int (nI (i + 1)), .int (nI 1), w3] [.int r1] h1) = res d 199 63 [.ref 36, .int (nI (i + 1)), .int (nI 0), w3] [.int (nI (if n ≤ 3 * i + 2 then 1 else 0))] (ms K2 (3 * i + 2) (if n ≤ 3 * i + 2 then -(nI 1) else nI (3 * i + 2)), L, rR ru dr sr (some 40) rl, 65, x) := by
            rw [m192f hH2 (by decide) (by omega) w, bI_i, e199_59, l199_15, if_pos (show nI 0 = 0 from rfl), e199_61, m196 hH2.2.2.1 hn (by omega), bI_i]
          refine ⟨K2, 3 * i + 2, ?_, hc2⟩
          rw [e4, e199_63]
          by_cases v : n ≤ 3 * i + 2
          · have en : n = 3 * i + 2 := by omega
            have ep : pwr t n p = none := pwr_ok (fun q hq => hall2 q (by omega)) (by omega) (by omega)
            rw [ep, if_pos v, if_pos v, if_neg (by decide), show (n + 1) / 3 = i + 1 by omega]
            exact ⟨rfl, hT2⟩
          · have ep : pwr t n p = some (3 * i + 2) := by
              refine pwr_at hall2 ?_
              by_cases u : 3 * i + 2 < min n 11
              · refine Or.inl ⟨u, ?_⟩
                unfold pst
                rw [if_neg (by omega), if_neg (by omega)]
                unfold cu at w
                rw [if_pos u] at w
                exact decide_eq_false w
              · exact Or.inr ⟨by omega, Or.inr (by omega)⟩
            rw [ep, if_neg v, if_neg v, if_pos (show nI 0 = 0 from rfl), ms_v15]
      · have hno : ¬ (48 ≤ cu t (min n 11) (3 * i + 1) ∧ cu t (min n 11) (3 * i + 1) < 48 + 10) := by
          unfold cu
          by_cases u : 3 * i + 1 < min n 11
          · rw [if_pos u]; omega
          · rw [if_neg u]; decide
        have hall1 : ∀ q, q < 3 * i + 1 → pst t p q = true := fun q hq => by
          by_cases c1 : q = 3 * i
          · rw [c1]; exact hp0
          · exact hall q (by omega)
        have ep : pwr t n p = some (3 * i + 1) := by
          refine pwr_at hall1 ?_
          by_cases u : 3 * i + 1 < min n 11
          · refine Or.inl ⟨u, ?_⟩
            unfold pst
            rw [if_neg (by omega), if_pos (by omega)]
            exact decide_eq_false (by omega)
          · exact Or.inr ⟨by omega, Or.inl (by omega)⟩
        refine ⟨zup K1 43 (2 * i + 1) (nI 0), 3 * i + 1, ?_, fun c hc => by
          show zup (zup K 43 (2 * i) (nI (t (3 * i) - 49 + 1))) 43 (2 * i + 1) (nI 0) c = _
          rw [zup_ne _ _ _ hc, zup_ne _ _ _ hc]⟩
        rw [ep]
        dsimp only
        rw [m194f hH1 (by omega) (by decide) hno, bI_i, e199_54, if_pos (ak_43 (by omega)), nI_clamp (by omega), ms_z _ _ _ _ (by decide), l199x (by omega)]
    · have hno : ¬ (49 ≤ cu t (min n 11) (3 * i) ∧ cu t (min n 11) (3 * i) < 49 + 4) := by
        unfold cu
        by_cases u : 3 * i < min n 11
        · rw [if_pos u]; omega
        · rw [if_neg u]; decide
      have ep : pwr t n p = some (3 * i) := by
        refine pwr_at hall ?_
        by_cases u : 3 * i < min n 11
        · refine Or.inl ⟨u, ?_⟩
          unfold pst
          rw [if_pos (by omega)]
          exact decide_eq_false (by omega)
        · exact Or.inr ⟨by omega, by omega⟩
      refine ⟨zup (zup K 43 (2 * i) (nI (0 + 1))) 43 (2 * i + 1) (nI 0), 3 * i, ?_, fun c hc => by rw [zup_ne _ _ _ hc, zup_ne _ _ _ hc]⟩
      rw [ep]
      dsimp only
      rw [m194f hH (by omega) (by decide) hno, bI_i, e199_40, if_pos (ak_43 (by omega)), nI_clamp (by omega), ms_z _ _ _ _ (by decide), nI_add, m194d (msd (by omega)), bI_i, zmul, nI_add, e199_54, if_pos (ak_43 (by omega)), nI_clamp (by omega), ms_z _ _ _ _ (by decide), l199x (by omega)]
/-! players that come -/
theorem l199p {N : Nat} {v2 : Int32} (hN : p + N ≤ 4) : ∀ j k (I : Nat → Nat → Int32), k + j = N → I 36 1 = nI (p + k) → mSt I 37 (pla t p a k) → mTl I t N → ∃ I', res d 199 71 [.ref 36, .int (nI N), .int v2, .int (nI k)] [] (I, L, rR ru dr sr rd rl, 65, x) = some (some (.int (nI N)), (zup (zup I' 36 27 (nI 0)) 36 42 (I' 36 42 + nI 1), L, rR ru dr sr rd rl, 65, x)) ∧ I' 36 1 = nI (p + N) ∧ mSt I' 37 (pla t p a N) ∧ fM [37] [1] I I' ∧ I' 36 42 = I 36 42
  | 0, k, I, hk, h1, hA, hT => by
    have : k = N := by omega
    subst this
    exact ⟨I, by rw [l199_71, if_pos (by rw [nI_leI (by omega) (by omega)]; omega), zup_v, if_neg (by decide)], h1, hA, fM.rf, rfl⟩
  | j + 1, k, I, hk, h1, hA, hT => by
    have ht := hT k (by omega)
    have hA2 := (hA.put (k := 4 + (p + k)) (v := t (3 * k) - 48)).put (k := p + k) (v := t (3 * k + 1) - 48)
    obtain ⟨I1, e1, g1, g2, g3, g4⟩ := l199p (v2 := v2) hN j (k + 1) (zup (zup (zup I 37 (4 + (p + k)) (nI (t (3 * k) - 48))) 37 (p + k) (nI (t (3 * k + 1) - 48))) 36 1 (nI (p + k + 1))) (by omega) (by rw [zup_v, if_pos rfl]; rfl) (hA2.congr (zup_ne _ _ _ (by decide))) (fun q hq => by
      rw [zup_ne _ _ _ (by decide), zup_ne _ _ _ (by decide), zup_ne _ _ _ (by decide)]
      exact hT q hq)
    refine ⟨I1, ?_, g1, g2, ((fM.up (Or.inl (by decide)) (by decide)).tr ((fM.up (Or.inl (by decide)) (by decide)).tr (fM.fld (Or.inl (by decide))))).tr g3, by rw [g4, zup_v, if_neg (by decide), zup_ne _ _ _ (by decide), zup_ne _ _ _ (by decide)]⟩
    have c36 : ∀ (v : Int32) (b : Nat), (zup I 37 b v) 36 1 = nI (p + k) := fun v b => by rw [zup_ne _ _ _ (by decide)]; exact h1
    have c43 : ∀ (v : Int32) (b q : Nat), (zup I 37 b v) 43 q = I 43 q := fun v b q => by rw [zup_ne _ _ _ (by decide)]
    have d36 : ∀ (v w : Int32) (b e : Nat), (zup (zup I 37 b v) 37 e w) 36 1 = nI (p + k) := fun v w b e => by rw [zup_ne _ _ _ (by decide), zup_ne _ _ _ (by decide)]; exact h1
    rw [l199_71, if_neg (by rw [nI_leI (by omega) (by omega)]; omega)]
    simp only [zmul, nI_add, h1, c36, d36, c43]
    rw [if_pos (ak_43 (by omega)), if_pos (ak_37 (by omega)), if_pos (ak_43 (by omega)), if_pos (ak_37 (by omega)), nI_clamp (by omega), nI_clamp (by omega), nI_clamp (by omega), nI_clamp (by omega), ht.1, ht.2]
    exact e1
theorem n199f {e : Nat} (h : mInv I L rl T R S f g p a n t l u kp cl si rn rt) (hw : wInv R S f g p a T u kp) (hg : pwr t n p = some e) : ∃ I' rd', cal d 199 [.ref 36] (I, L, rR ru dr sr rd rl, 65, x) = some (some (.int (-(nI 1) - nI e)), (I', L, rR ru dr sr rd' rl, 65, x)) ∧ mInv I' L rl T R S f g p a 0 t l u kp cl si rn rt := by
  obtain ⟨hI, hP, hA, hT, hO, hU, hK, hC, hS, hl, hR⟩ := h
  obtain ⟨hc, hw, hu, hk⟩ := hw
  have f0 : fM [] [] I (zup I 36 10 (nI 0)) := f10
  have hp := hw.1
  have hT0 := f0.tx hT (by decide)
  have hn0 : 0 < n := by
    refine Nat.pos_of_ne_zero fun z => ?_
    subst z
    unfold pwr at hg
    rw [if_neg (by omega), if_neg (by omega)] at hg
    cases hg
  have hn8 := hT.2.1
  have hH := bgn_H (top := 11) hT0 (by decide)
  obtain ⟨K, k, e1, h1⟩ := l199 (d := d) (L := L) (ru := ru) (dr := dr) (sr := sr) (rl := rl) (x := x) (p := p) hp hn0 (4 - p) 0 (bgn (zup I 36 10 (nI 0)) n 11) .null (by omega) (Nat.zero_le _) hH (by rw [(bgn_f (W := []) (I := zup I 36 10 (nI 0)) (n := n) (top := 11)).2 1 (by decide) rfl]; exact f0.fp hP (by decide)) (fun i hi => by omega) (fun i hi => absurd hi (Nat.not_lt_zero _))
  rw [hg] at e1
  have f2 := f7c (I := I) (n := n) (k := k) (e := nI e) (c0 := 43) (by decide) h1
  have h7 := f7v (I := I) (n := n) (k := k) (e := nI e) (c0 := 43) (by decide) h1
  refine ⟨ms K k (nI e), some 40, ?_, ⟨f2.ct hI (by decide), f2.fp hP (by decide), f2.st hA (by decide) rfl, mTx.none h7, f2.to hO (by decide) rfl, f2.un hU (by decide), f2.kp' hK (by decide), f2.clu hC (by decide), f2.sig hS (by decide), hl, f2.rr hl hR (by decide)⟩⟩
  rw [k199, m188 hT0, bV_n, e199_6, ms_v _ _ _ (by decide) (by decide), hH.2.2.1, if_neg (by rw [nI_z (by omega)]; omega)]
  exact e1
theorem n199z (h : mInv I L rl T R S f g p a n t l u kp cl si rn rt) (hw : wInv R S f g p a T u kp) (hn0 : n = 0) : ∃ I' rd', cal d 199 [.ref 36] (I, L, rR ru dr sr rd rl, 65, x) = some (some (.int (nI 0)), (I', L, rR ru dr sr rd' rl, 65, x)) ∧ mInv I' L rl T R S f g p a 0 t l u kp cl si rn rt := by
  obtain ⟨hI, hP, hA, hT, hO, hU, hK, hC, hS, hl, hR⟩ := h
  obtain ⟨hc, hw, hu, hk⟩ := hw
  have f0 : fM [] [] I (zup I 36 10 (nI 0)) := f10
  have hT0 := f0.tx hT (by decide)
  have hH := bgn_H (top := 11) hT0 (by decide)
  have f2 : fM [43] [7] I (ms (bgn (zup I 36 10 (nI 0)) n 11) 0 (-(nI 1))) := f7c (by decide) (fun _ _ => rfl)
  have h7 : ms (bgn (zup I 36 10 (nI 0)) n 11) 0 (-(nI 1)) 36 7 = nI 0 := f7v (I := I) (n := n) (c0 := 43) (by decide) (fun _ _ => rfl)
  refine ⟨_, some 40, ?_, ⟨f2.ct hI (by decide), f2.fp hP (by decide), f2.st hA (by decide) rfl, mTx.none h7, f2.to hO (by decide) rfl, f2.un hU (by decide), f2.kp' hK (by decide), f2.clu hC (by decide), f2.sig hS (by decide), hl, f2.rr hl hR (by decide)⟩⟩
  rw [k199, m188 hT0, bV_n, e199_6, ms_v _ _ _ (by decide) (by decide), hH.2.2.1, if_pos ((nI_z (by omega)).mpr hn0)]
theorem n199t (h : mInv I L rl T R S f g p a n t l u kp cl si rn rt) (hw : wInv R S f g p a T u kp) (hg : pwr t n p = none) (hn0 : 0 < n) : ∃ I' rd', cal d 199 [.ref 36] (I, L, rR ru dr sr rd rl, 65, x) = some (some (.int (nI ((n + 1) / 3))), (I', L, rR ru dr sr rd' rl, 65, x)) ∧ mInv I' L rl (T + 1) R S f g (p + (n + 1) / 3) (pla t p a ((n + 1) / 3)) 0 t l [] (fun _ => none) cl si rn rt := by
  obtain ⟨hI, hP, hA, hT, hO, hU, hK, hC, hS, hl, hR⟩ := h
  obtain ⟨hc, hw, hu, hk⟩ := hw
  have f0 : fM [] [] I (zup I 36 10 (nI 0)) := f10
  have hp := hw.1
  have hT0 := f0.tx hT (by decide)
  have hn8 := hT.2.1
  have hH := bgn_H (top := 11) hT0 (by decide)
  obtain ⟨n11, n3, hall, hpn⟩ := pwr_none hg hn0
  obtain ⟨K, k, e1, h1⟩ := l199 (d := d) (L := L) (ru := ru) (dr := dr) (sr := sr) (rl := rl) (x := x) (p := p) hp hn0 (4 - p) 0 (bgn (zup I 36 10 (nI 0)) n 11) .null (by omega) (Nat.zero_le _) hH (by rw [(bgn_f (W := []) (I := zup I 36 10 (nI 0)) (n := n) (top := 11)).2 1 (by decide) rfl]; exact f0.fp hP (by decide)) (fun i hi => by omega) (fun i hi => absurd hi (Nat.not_lt_zero _))
  rw [hg] at e1
  obtain ⟨e1, hTl⟩ := e1
  have f2 := f7c (I := I) (n := n) (k := k) (e := -(nI 1)) (c0 := 43) (by decide) h1
  have h7 := f7v (I := I) (n := n) (k := k) (e := -(nI 1)) (c0 := 43) (by decide) h1
  have hTl2 : mTl (ms K k (-(nI 1))) t ((n + 1) / 3) := fun q hq => by rw [ms_c _ _ _ (by decide)]; exact hTl q hq
  obtain ⟨I3, e3, g1, g2, g3, g4⟩ := l199p (d := d) (L := L) (rd := some 40) (ru := ru) (dr := dr) (sr := sr) (rl := rl) (x := x) (p := p) (a := a) (t := t) (N := (n + 1) / 3) (v2 := nI 0) hpn ((n + 1) / 3) 0 (ms K k (-(nI 1))) (by omega) (f2.fp hP (by decide)) (f2.st hA (by decide) rfl) hTl2
  have f3M : fM [] [27, 42] I3 (zup (zup I3 36 27 (nI 0)) 36 42 (I3 36 42 + nI 1)) := (fM.fld (Or.inl (by decide))).tr (fM.fld (Or.inl (by decide)))
  have f03 : fM [37, 43] [1, 7] I I3 := (f2.mono (by decide) (by decide)).tr (g3.mono (by decide) (by decide))
  have f0M : fM [37, 43] [1, 7, 27, 42] I (zup (zup I3 36 27 (nI 0)) 36 42 (I3 36 42 + nI 1)) := (f03.mono (by decide) (by decide)).tr (f3M.mono (by decide) (by decide))
  have g7 : (zup (zup I3 36 27 (nI 0)) 36 42 (I3 36 42 + nI 1)) 36 7 = nI 0 := by rw [f3M.2 7 (by decide) rfl, g3.2 7 (by decide) rfl]; exact h7
  have gu : mUn (zup (zup I3 36 27 (nI 0)) 36 42 (I3 36 42 + nI 1)) [] := ⟨by rw [zup_v, if_neg (by decide), zup_v, if_pos rfl]; rfl, by decide, fun i b q => by cases q⟩
  have gk : mKp (zup (zup I3 36 27 (nI 0)) 36 42 (I3 36 42 + nI 1)) (T + 1) (fun _ => none) := by
    obtain ⟨cm, m1, m2, m3⟩ := hK
    refine ⟨cm + 1, by omega, by rw [zup_v, if_pos rfl, g4, f2.2 42 (by decide) rfl, m2, nI_add], fun i hi => ⟨fun _ => ?_, fun b hb => by cases hb⟩⟩
    rw [f0M.1 62 (by decide) rfl, f0M.1 63 (by decide) rfl]
    obtain ⟨u1, u2⟩ := m3 i hi
    cases z : kp i with
    | none =>
      rcases u1 z with q | ⟨q1, c, q2, q3⟩
      · exact Or.inl q
      · exact Or.inr ⟨q1, c, by omega, q3⟩
    | some b => exact Or.inr ⟨(u2 b z).1, cm, by omega, (u2 b z).2.1⟩
  refine ⟨_, some 40, ?_, ⟨f0M.ct hI (by decide), f3M.fp g1 (by decide), f3M.st g2 (by decide) rfl, mTx.none g7, f0M.to hO (by decide) rfl, gu, gk, f0M.clu hC (by decide), f0M.sig hS (by decide), hl, f0M.rr hl hR (by decide)⟩⟩
  rw [k199, m188 hT0, bV_n, e199_6, ms_v _ _ _ (by decide) (by decide), hH.2.2.1, if_neg (by rw [nI_z (by omega)]; omega), e1, e3]

end
