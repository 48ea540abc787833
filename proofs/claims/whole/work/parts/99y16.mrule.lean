section
variable {I : Nat → Nat → Int32} {L : Nat → Nat → Int64} {ru dr : Nat} {sr : Nat → Option Nat} {rd : Option Nat} {rl x : Nat}
variable {d R S p n T rn : Nat} {f g rt : Nat → Nat} {a : zP} {t : Nat → Nat} {l : List Int64} {u : List zP} {kp : Nat → Option zP} {cl : List (Nat × Nat)} {si : List (Nat × Int32)} {cs : zC}

/-! a rule read -/
theorem prs_le (t : Nat → Nat) (n : Nat) : (prs t n).1 ≤ min n 40 := by
  have h := pE_g (t := t) (m := min n 40) 4 0 (Nat.zero_le _)
  unfold prs
  by_cases z : n = 0
  · rw [if_pos z]; exact Nat.zero_le _
  · rw [if_neg z]
    by_cases y : (pE (cu t (min n 40)) (min n 40) 4 0).1 = n
    · rw [if_pos y]; exact h.2.1
    · rw [if_neg y]; exact h.2.1
theorem prs_40 {t : Nat → Nat} {n : Nat} {c : zC} (h : (prs t n).2 = some c) : n ≤ 40 := by
  have h1 := pE_g (t := t) (m := min n 40) 4 0 (Nat.zero_le _)
  unfold prs at h
  by_cases z : n = 0
  · omega
  · rw [if_neg z] at h
    by_cases y : (pE (cu t (min n 40)) (min n 40) 4 0).1 = n
    · have := h1.2.1; omega
    · rw [if_neg y] at h; cases h
theorem m205 (hd : 41 ≤ d) (hT : mTx I n t) : ∃ I', cal d 205 [.ref 36] (I, L, rR ru dr sr rd rl, 65, x) = some (some (.int (nI (if (prs t n).2.isSome = true then 1 else 0))), (I', L, rR ru dr sr (some 40) rl, 65, x)) ∧ fM [] [7] I I' ∧ I' 36 7 = nI 0 ∧ ((prs t n).2 = none → I' 36 15 = nI (prs t n).1) ∧ ∀ c, c ≠ 36 → I' c = I c := by
  have hn := hT.2.1
  let K := zup (bgn I n 40) 36 21 (nI 0)
  have hb := bgn_H (top := 40) hT (by decide)
  have hH : mHd K n 40 t 40 := by
    obtain ⟨a1, a2, a3, a4, a5, a6, a7⟩ := hb
    refine ⟨a1, a2, ?_, ?_, a5, a6, fun k hk => ?_⟩
    · show zup (bgn I n 40) 36 21 (nI 0) 36 12 = _
      rw [zup_v, if_neg (by decide)]; exact a3
    · show zup (bgn I n 40) 36 21 (nI 0) 36 13 = _
      rw [zup_v, if_neg (by decide)]; exact a4
    · show zup (bgn I n 40) 36 21 (nI 0) 40 k = _ ∧ _
      rw [zup_ne _ _ _ (by decide)]; exact a7 k hk
  have hask : ask K (fun _ => nI 0) := by
    refine Or.inl ⟨?_, fun _ _ => rfl⟩
    show zup (bgn I n 40) 36 21 (nI 0) 36 21 = 0
    rw [zup_v, if_pos rfl]; rfl
  have fK : fM [] [7] I K := bgn_f.tr (fM.fld (Or.inr rfl))
  have k7 : ∀ (k : Nat) (w : Int32), ms K k w 36 7 = nI 0 := fun k w => by
    rw [ms_v _ _ _ (by decide) (by decide)]
    show zup (bgn I n 40) 36 21 (nI 0) 36 7 = _
    rw [zup_v, if_neg (by decide)]
    unfold bgn
    rw [zup_v, if_pos rfl]
  have kc : ∀ (k : Nat) (w : Int32) c, c ≠ 36 → ms K k w c = I c := fun k w c hc => by
    rw [ms_c _ _ _ hc]
    show zup (bgn I n 40) 36 21 (nI 0) c = _
    rw [zup_ne _ _ _ hc]
    unfold bgn
    rw [zup_ne _ _ _ hc, zup_ne _ _ _ hc, zup_ne _ _ _ hc]
  have e0 : cal d 205 [.ref 36] (I, L, rR ru dr sr rd rl, 65, x) = if nI n ≤ 0 then (res d 205 13 [.ref 36] [] (ms K 0 (-(nI 1)), L, rR ru dr sr (some 40) rl, 65, x)) else (bI (cal d 200 [.ref 36, .int (nI 0)] (ms K 0 (-(nI 1)), L, rR ru dr sr (some 40) rl, 65, x)) fun r1 h1 => res d 205 12 [.ref 36] [.int r1] h1) := by
    rw [k205, m188 hT, bV_n, e205_3, if_pos zb0, ms_21, ms_v _ _ _ (by decide) (by decide)]
    show (if K 36 12 ≤ 0 then _ else _) = _
    rw [hH.2.2.1]
  rw [e0]
  by_cases z : n = 0
  · subst z
    refine ⟨ms K 0 (-(nI 1)), ?_, fK.tr fM.ms, k7 _ _, (fun q => by cases q), kc _ _⟩
    rw [if_pos (by decide), e205_13, m196 hH.2.2.1 (by decide) (by decide), bI_i, e205_15, if_pos (Nat.le_refl 0), if_pos zb1, if_pos (Nat.le_refl 0)]
    rfl
  · obtain ⟨v, e1, h1⟩ := m200n (L := L) (ru := ru) (dr := dr) (sr := sr) (rl := rl) (x := x) hH hask 4 (Nat.le_refl _) d 0 (Nat.zero_le _) (by omega)
    rw [if_neg (by rw [nI_l0 (by omega)]; exact z), show nI 0 = nI (4 - 4) from rfl, e1, bI_i, e205_12, e205_13]
    have hg := pE_g (t := t) (m := min n 40) 4 0 (Nat.zero_le _)
    have hp : prs t n = if (pE (cu t (min n 40)) (min n 40) 4 0).1 = n then pE (cu t (min n 40)) (min n 40) 4 0 else ((pE (cu t (min n 40)) (min n 40) 4 0).1, none) := by
      unfold prs
      rw [if_neg z]
    revert hg hp
    generalize pE (cu t (min n 40)) (min n 40) 4 0 = r
    obtain ⟨r1, r2⟩ := r
    intro hg hp
    dsimp only at hg hp ⊢
    cases r2 with
    | none =>
      have hp2 : prs t n = (r1, none) := by rw [hp]; split <;> rfl
      rw [hp2]
      refine ⟨ms K r1 (nI r1), ?_, fK.tr fM.ms, k7 _ _, (fun _ => ms_v15 _ _ _), kc _ _⟩
      rw [show rw' (r1, none) = nI r1 from rfl, m196d (by omega), bI_i, e205_15, if_pos zb0]
      rfl
    | some s =>
      rw [show rw' (r1, some s) = -(nI 1) from rfl, m196 hH.2.2.1 hn (by omega), bI_i, e205_15]
      by_cases y : r1 = n
      · rw [if_pos y] at hp
        rw [hp, if_pos (show n ≤ r1 by omega), if_pos (show n ≤ r1 by omega), if_pos zb1]
        exact ⟨_, rfl, fK.tr fM.ms, k7 _ _, (fun q => by cases q), kc _ _⟩
      · rw [if_neg y] at hp
        rw [hp, if_neg (show ¬ n ≤ r1 by omega), if_neg (show ¬ n ≤ r1 by omega), if_pos zb0]
        exact ⟨_, rfl, fK.tr fM.ms, k7 _ _, (fun _ => ms_v15 _ _ _), kc _ _⟩
theorem n206f {e : Nat} (h : mInv I L rl T R S f g p a n t l u kp cl si rn rt) (hw : wInv R S f g p a T u kp) (hd : 41 ≤ d) (hg : prs t n = (e, none)) : ∃ I' rd', cal d 206 [.ref 36] (I, L, rR ru dr sr rd rl, 65, x) = some (some (.int (-(nI 1) - nI e)), (I', L, rR ru dr sr rd' rl, 65, x)) ∧ mInv I' L rl T R S f g p a 0 t l u kp cl si rn rt := by
  obtain ⟨hI, hP, hA, hT, hO, hU, hK, hC, hS, hl, hR⟩ := h
  obtain ⟨hc, hw, hu, hk⟩ := hw
  have f0 : fM [] [] I (zup I 36 10 (nI 0)) := f10
  obtain ⟨I1, e1, f1, h7, h15, -⟩ := m205 (d := d) (L := L) (ru := ru) (dr := dr) (sr := sr) (rd := rd) (rl := rl) (x := x) hd (f0.tx hT (by decide))
  rw [hg] at e1 h15
  have f2 : fM [] [7] I I1 := (f0.mono (by decide) (by decide)).tr f1
  refine ⟨I1, some 40, ?_, ⟨f2.ct hI (by decide), f2.fp hP (by decide), f2.st hA (by decide) rfl, mTx.none h7, f2.to hO (by decide) rfl, f2.un hU (by decide), f2.kp' hK (by decide), f2.clu hC (by decide), f2.sig hS (by decide), hl, f2.rr hl hR (by decide)⟩⟩
  rw [k206, e1, bI_i, e206_8, if_pos (show nI (if (none : Option zC).isSome = true then 1 else 0) = 0 from rfl), h15 rfl]
theorem l206 (hl : rl = 44) (hn : n ≤ 40) : ∀ j k (I : Nat → Nat → Int32), k + j = n → (∀ i, i < n → I 40 i = (nI (t i)).toInt8.toInt32) → ∃ I', res d 206 16 [.ref 36, .int (nI n), .int (nI k)] [] (I, L, rR ru dr sr rd rl, 65, x) = some (some (.int (nI 0)), (zup I' 36 20 (nI n), L, rR ru dr sr rd rl, 65, x)) ∧ (∀ i, k ≤ i → i < n → I' rl i = (nI (t i)).toInt8.toInt32) ∧ (∀ i, i < k → I' rl i = I rl i) ∧ ∀ c, c ≠ rl → I' c = I c
  | 0, k, I, hk, h => ⟨I, by rw [l206_16, if_pos (by rw [nI_leI (by omega) (by omega)]; omega)], fun i h1 h2 => by omega, fun _ _ => rfl, fun _ _ => rfl⟩
  | j + 1, k, I, hk, h => by
    obtain ⟨I1, e1, h1, h2, h3⟩ := l206 hl hn j (k + 1) (zup I rl k ((nI (t k)).toInt8.toInt32)) (by omega) (fun i hi => by rw [zup_ne _ _ _ (by rw [hl]; decide)]; exact h i hi)
    refine ⟨I1, ?_, fun i a1 a2 => ?_, fun i a1 => ?_, fun c hc => by rw [h3 c hc, zup_ne _ _ _ hc]⟩
    · rw [l206_16, if_neg (by rw [nI_leI (by omega) (by omega)]; omega), if_pos (ak_40 (show k < 80 by omega)), if_pos (by rw [hl]; exact ak_44 (show k < 40 by omega)), nI_clamp (by omega), h k (by omega), fb_byte_twice, nI_add]
      exact e1
    · by_cases z : i = k
      · rw [z, h2 k (by omega), zup_v, if_pos rfl]
      · exact h1 i (by omega) a2
    · rw [h2 i (by omega), zup_v, if_neg (by omega)]
theorem n206t {e : Nat} {c2 : zC} (h : mInv I L rl T R S f g p a n t l u kp cl si rn rt) (hw : wInv R S f g p a T u kp) (hd : 41 ≤ d) (hg : prs t n = (e, some c2)) : ∃ I' rd', cal d 206 [.ref 36] (I, L, rR ru dr sr rd rl, 65, x) = some (some (.int (nI 0)), (I', L, rR ru dr sr rd' rl, 65, x)) ∧ mInv I' L rl T R S f g p a 0 t l u kp cl si n t := by
  obtain ⟨hI, hP, hA, hT, hO, hU, hK, hC, hS, hl, hR⟩ := h
  obtain ⟨hc, hw, hu, hk⟩ := hw
  have f0 : fM [] [] I (zup I 36 10 (nI 0)) := f10
  obtain ⟨I1, e1, f1, h7, -, hc1⟩ := m205 (d := d) (L := L) (ru := ru) (dr := dr) (sr := sr) (rd := rd) (rl := rl) (x := x) hd (f0.tx hT (by decide))
  rw [hg] at e1
  have hn : n ≤ 40 := prs_40 (c := c2) (by rw [hg])
  have ht : ∀ i, i < n → I1 40 i = (nI (t i)).toInt8.toInt32 := fun i hi => by rw [hc1 40 (by decide)]; exact ((f0.tx hT (by decide)).2.2 i hi).1
  obtain ⟨I2, e2, h2, -, h3⟩ := l206 (d := d) (L := L) (rd := some 40) (ru := ru) (dr := dr) (sr := sr) (rl := rl) (x := x) (t := t) hl hn n 0 I1 (by omega) ht
  have f12 : fM [44] [] I1 I2 := ⟨fun c hc _ => h3 c (fun q => hc (List.mem_singleton.mpr (q.trans hl))), fun k _ _ => by rw [h3 36 (by rw [hl]; decide)]⟩
  have f2 : fM [44] [7, 20] I (zup I2 36 20 (nI n)) := (f0.mono (by decide) (by decide)).tr ((f1.mono (by decide) (by decide)).tr ((f12.mono (by decide) (by decide)).tr (fM.fld (Or.inl (by decide)))))
  have h7' : zup I2 36 20 (nI n) 36 7 = nI 0 := by rw [zup_v, if_neg (by decide), h3 36 (by rw [hl]; decide)]; exact h7
  have hru : mRu (zup I2 36 20 (nI n)) rl n t := ⟨by rw [zup_v, if_pos rfl], hn, fun k hk => ⟨by rw [zup_ne _ _ _ (by rw [hl]; decide)]; exact h2 k (Nat.zero_le _) hk, (hT.2.2 k hk).2⟩⟩
  refine ⟨_, some 40, ?_, ⟨f2.ct hI (by decide), f2.fp hP (by decide), f2.st hA (by decide) rfl, mTx.none h7', f2.to hO (by decide) rfl, f2.un hU (by decide), f2.kp' hK (by decide), f2.clu hC (by decide), f2.sig hS (by decide), hl, hru⟩⟩
  rw [k206, e1, bI_i, e206_8, if_neg (show ¬ nI (if (some c2).isSome = true then 1 else 0) = 0 by show ¬ nI 1 = 0; decide), (f0.tx hT (by decide)).1, e2]
/-! law -/
theorem rR_rl {q : Nat} : zup (rR ru dr sr rd rl) 36 18 (some q) = rR ru dr sr rd q := by
  funext a k
  by_cases z : a = 36
  · subst z
    rw [zup_v]
    by_cases y : k = 18
    · subst y; rfl
    · rw [if_neg y]
      unfold rR
      split <;> first | rfl | omega | (split <;> first | rfl | omega)
  · rw [zup_ne _ _ _ z]
    unfold rR
    split <;> first | rfl | omega | (split <;> first | rfl | omega)
theorem l288 (hd : 41 ≤ d) (hrl : rl = 44 ∨ rl = 45) (hct : zCt R S f g) (hp0 : 0 < p) (hcs : (prs rt rn).2 = some cs) : ∀ j i (I : Nat → Nat → Int32) (L : Nat → Nat → Int64) (rd : Option Nat) T0 (b : zP) c, i + j = 30 → c ≤ i → zWf p S T0 b → T0 + j < 2 ^ 24 → mQ I rl 52 R S f g p b rn rt → ∃ I' L' rd', res d 288 10 [.ref 36, .int (nI c), .int (nI i)] [] (I, L, rR ru dr sr rd rl, 65, x) = some (some (.int (nI (c + tc R S f g cs p j b))), (I', L', rR ru dr sr rd' rl, 65, x)) ∧ mQ I' rl 52 R S f g p (tn R S f g cs p j b) rn rt ∧ fM [52] [] I I' ∧ ∀ c, c ≠ 48 → L' c = L c
  | 0, i, I, L, rd, T0, b, c, hi, hci, hb, hT, hq => ⟨I, L, rd, by rw [l288_10, if_pos (by rw [nI_leI (by omega) (by omega)]; omega)]; rfl, hq, fM.rf, fun _ _ => rfl⟩
  | j + 1, i, I, L, rd, T0, b, c, hi, hci, hb, hT, hq => by
    obtain ⟨I1, L1, rd1, e1, q1, -, f1, g1⟩ := q225 (d := d) (L := L) (ru := ru) (dr := dr) (sr := sr) (rd := rd) (rl := rl) (x := x) (c := 52) hd hrl hct (Or.inr rfl) hq hb hp0 (by omega) hcs
    have hw1 := thr_wf hct hb hp0 (by omega) cs
    have hcc : c + (if thb R S f g cs b = true then 1 else 0) ≤ i + 1 := by split <;> omega
    obtain ⟨I2, L2, rd2, e2, q2, f2, g2⟩ := l288 hd hrl hct hp0 hcs j (i + 1) I1 L1 rd1 (T0 + 1) (thr R S f g cs p b) (c + if thb R S f g cs b = true then 1 else 0) (by omega) hcc hw1 (by omega) q1
    refine ⟨I2, L2, rd2, ?_, q2, f1.tr f2, fun c hc => (g2 c hc).trans (g1 c hc)⟩
    rw [l288_10, if_neg (by rw [nI_leI (by omega) (by omega)]; omega), e1, bI_i, e288_18, tc, ← Nat.add_assoc]
    cases y : thb R S f g cs b with
    | true =>
      rw [y] at e2
      rw [if_neg (show ¬ nI (if true = true then 1 else 0) = 0 by decide), nI_add, nI_add]
      exact e2
    | false =>
      rw [y] at e2
      rw [if_pos (show nI (if false = true then 1 else 0) = 0 from rfl), nI_add, nI_add]
      exact e2
theorem m288 (hd : 41 ≤ d) (hrl : rl = 44 ∨ rl = 45) (hct : zCt R S f g) (hp0 : 0 < p) (hcs : (prs rt rn).2 = some cs) (hw : zWf p S T a) (hT1 : T + 100 < 2 ^ 24) (hq : mQ I rl 37 R S f g p a rn rt) : ∃ I' L' rd', cal d 288 [.ref 36] (I, L, rR ru dr sr rd rl, 65, x) = some (some (.int (nI (tc R S f g cs p 30 a))), (I', L', rR ru dr sr rd' rl, 65, x)) ∧ mQ I' rl 52 R S f g p (tn R S f g cs p 30 a) rn rt ∧ fM [52] [] I I' ∧ ∀ c, c ≠ 48 → L' c = L c := by
  obtain ⟨I1, e1, q1, f1⟩ := q52 (d := d) (L := L) (ru := ru) (dr := dr) (sr := sr) (rd := rd) (rl := rl) (x := x) hrl hq
  obtain ⟨I2, L2, rd2, e2, q2, f2, g2⟩ := l288 (d := d) (ru := ru) (dr := dr) (sr := sr) (rl := rl) (x := x) hd hrl hct hp0 hcs 30 0 I1 L rd T a 0 (by omega) (Nat.le_refl _) hw (by omega) q1
  refine ⟨I2, L2, rd2, ?_, q2, f1.tr f2, g2⟩
  rw [k288, e1, bV_n, e288_8, e2, Nat.zero_add]
theorem l289 {v2 v3 v5 : Int32} {a4 : Nat} (hl : rl = 45) (hn : n ≤ 40) : ∀ j k (I : Nat → Nat → Int32), k + j = n → (∀ i, i < n → I 40 i = (nI (t i)).toInt8.toInt32) → ∃ I', res d 289 42 [.ref 36, .int (nI n), .int v2, .int v3, .ref a4, .int v5, .int (nI k)] [] (I, L, rR ru dr sr rd rl, 65, x) = bI (cal d 288 [.ref 36] (I', L, rR ru dr sr rd rl, 65, x)) (fun r1 h1 => res d 289 57 [.ref 36, .int (nI n), .int v2, .int v3, .ref a4, .int v5, .int (nI n)] [.int r1] h1) ∧ (∀ i, k ≤ i → i < n → I' rl i = (nI (t i)).toInt8.toInt32) ∧ (∀ i, i < k → I' rl i = I rl i) ∧ ∀ c, c ≠ rl → I' c = I c
  | 0, k, I, hk, h => ⟨I, by rw [l289_42, if_pos (by rw [nI_leI (by omega) (by omega)]; omega), show k = n by omega], fun i h1 h2 => by omega, fun _ _ => rfl, fun _ _ => rfl⟩
  | j + 1, k, I, hk, h => by
    obtain ⟨I1, e1, h1, h2, h3⟩ := l289 (v2 := v2) (v3 := v3) (v5 := v5) (a4 := a4) hl hn j (k + 1) (zup I rl k ((nI (t k)).toInt8.toInt32)) (by omega) (fun i hi => by rw [zup_ne _ _ _ (by rw [hl]; decide)]; exact h i hi)
    refine ⟨I1, ?_, fun i a1 a2 => ?_, fun i a1 => ?_, fun c hc => by rw [h3 c hc, zup_ne _ _ _ hc]⟩
    · rw [l289_42, if_neg (by rw [nI_leI (by omega) (by omega)]; omega), if_pos (ak_40 (show k < 80 by omega)), if_pos (by rw [hl]; exact ak_45 (show k < 40 by omega)), nI_clamp (by omega), h k (by omega), fb_byte_twice, nI_add]
      exact e1
    · by_cases z : i = k
      · rw [z, h2 k (by omega), zup_v, if_pos rfl]
      · exact h1 i (by omega) a2
    · rw [h2 i (by omega), zup_v, if_neg (by omega)]
theorem n289f {e : Nat} (h : mInv I L rl T R S f g p a n t l u kp cl si rn rt) (hw : wInv R S f g p a T u kp) (hd : 41 ≤ d) (hg : prs t n = (e, none)) : ∃ I' rd', cal d 289 [.ref 36] (I, L, rR ru dr sr rd rl, 65, x) = some (some (.int (-(nI 10000) - nI e)), (I', L, rR ru dr sr rd' rl, 65, x)) ∧ mInv I' L rl T R S f g p a 0 t l u kp cl si rn rt := by
  obtain ⟨hI, hP, hA, hT, hO, hU, hK, hC, hS, hl, hR⟩ := h
  obtain ⟨hc, hw, hu, hk⟩ := hw
  have f0 : fM [] [] I (zup I 36 10 (nI 0)) := f10
  obtain ⟨I1, e1, f1, h7, h15, -⟩ := m205 (d := d) (L := L) (ru := ru) (dr := dr) (sr := sr) (rd := rd) (rl := rl) (x := x) hd (f0.tx hT (by decide))
  rw [hg] at e1 h15
  have f2 : fM [] [7] I I1 := (f0.mono (by decide) (by decide)).tr f1
  refine ⟨I1, some 40, ?_, ⟨f2.ct hI (by decide), f2.fp hP (by decide), f2.st hA (by decide) rfl, mTx.none h7, f2.to hO (by decide) rfl, f2.un hU (by decide), f2.kp' hK (by decide), f2.clu hC (by decide), f2.sig hS (by decide), hl, f2.rr hl hR (by decide)⟩⟩
  rw [k289, e1, bI_i, e289_8, if_pos (show nI (if (none : Option zC).isSome = true then 1 else 0) = 0 from rfl), h15 rfl]
theorem n289z {e : Nat} {c2 : zC} (h : mInv I L rl T R S f g p a n t l u kp cl si rn rt) (hw : wInv R S f g p a T u kp) (hd : 41 ≤ d) (hg : prs t n = (e, some c2)) (hp0 : p = 0) : ∃ I' rd', cal d 289 [.ref 36] (I, L, rR ru dr sr rd rl, 65, x) = some (some (.int (-(nI 2))), (I', L, rR ru dr sr rd' rl, 65, x)) ∧ mInv I' L rl T R S f g p a 0 t l u kp cl si rn rt := by
  obtain ⟨hI, hP, hA, hT, hO, hU, hK, hC, hS, hl, hR⟩ := h
  obtain ⟨hc, hw, hu, hk⟩ := hw
  have f0 : fM [] [] I (zup I 36 10 (nI 0)) := f10
  obtain ⟨I1, e1, f1, h7, h15, -⟩ := m205 (d := d) (L := L) (ru := ru) (dr := dr) (sr := sr) (rd := rd) (rl := rl) (x := x) hd (f0.tx hT (by decide))
  rw [hg] at e1 h15
  have f2 : fM [] [7] I I1 := (f0.mono (by decide) (by decide)).tr f1
  refine ⟨I1, some 40, ?_, ⟨f2.ct hI (by decide), f2.fp hP (by decide), f2.st hA (by decide) rfl, mTx.none h7, f2.to hO (by decide) rfl, f2.un hU (by decide), f2.kp' hK (by decide), f2.clu hC (by decide), f2.sig hS (by decide), hl, f2.rr hl hR (by decide)⟩⟩
  rw [k289, e1, bI_i, e289_8, if_neg (show ¬ nI (if (some c2).isSome = true then 1 else 0) = 0 by show ¬ nI 1 = 0; decide), f2.fp hP (by decide), if_pos (by rw [hp0]; rfl)]
theorem n289t {e : Nat} {c2 : zC} (h : mInv I L rl T R S f g p a n t l u kp cl si rn rt) (hw : wInv R S f g p a T u kp) (hd : 41 ≤ d) (hcs : (prs rt rn).2 = some cs) (hT1 : T + 100 < 2 ^ 24) (hg : prs t n = (e, some c2)) (hp0 : 0 < p) : ∃ I' L' rd', cal d 289 [.ref 36] (I, L, rR ru dr sr rd rl, 65, x) = some (some (.int (nI (tc R S f g c2 p 30 a) - nI (tc R S f g cs p 30 a))), (I', L', rR ru dr sr rd' rl, 65, x)) ∧ mInv I' L' rl T R S f g p a 0 t (lwL R S f g cs c2 p a) u kp cl si rn rt := by
  have hq := h.q
  obtain ⟨hI, hP, hA, hT, hO, hU, hK, hC, hS, hl, hR⟩ := h
  obtain ⟨hc, hw, hu, hk⟩ := hw
  have f0 : fM [] [] I (zup I 36 10 (nI 0)) := f10
  have hp := hw.1
  have hn : n ≤ 40 := prs_40 (c := c2) (by rw [hg])
  have hrs := hR
  subst hl
  obtain ⟨I1, e1, f1, h7, -, hc1⟩ := m205 (d := d) (rl := 44) (L := L) (ru := ru) (dr := dr) (sr := sr) (rd := rd) (x := x) hd (f0.tx hT (by decide))
  rw [hg] at e1
  have f01 : fM [] [7] I I1 := (f0.mono (by decide) (by decide)).tr f1
  have q1 := hqq (Or.inl rfl) hq f01 (by decide) (by decide) (by decide)
  have hw1 := tn_wf hc hp0 cs 30 T a hw (by omega)
  have hw2 := tn_wf hc hp0 c2 30 T a hw (by omega)
  obtain ⟨I2, L2, rd2, e2, q2, f2, g2⟩ := m288 (d := d) (L := L) (rd := some 40) (rl := 44) (ru := ru) (dr := dr) (sr := sr) (x := x) hd (Or.inl rfl) hc hp0 hcs hw hT1 q1
  have m2 := m213 (d := d) (L := L2) (rd := rd2) (rl := 44) (ru := ru) (dr := dr) (sr := sr) (x := x) (w := 16) (Or.inr rfl) q2.2.2.1 (by decide) hp (fun o h1 h2 => (hw1.2.2.1 o h2 h1).2.2.2.2.1)
  have f02 : fM [52] [7] I I2 := (f01.mono (by decide) (by decide)).tr (f2.mono (by decide) (by decide))
  have ht : ∀ i, i < n → (zup I2 36 20 (nI n)) 40 i = (nI (t i)).toInt8.toInt32 := fun i hi => by rw [zup_ne _ _ _ (by decide), f2.1 40 (by decide) rfl, hc1 40 (by decide)]; exact ((f0.tx hT (by decide)).2.2 i hi).1
  obtain ⟨I3, e3, h3, -, k3⟩ := l289 (d := d) (L := L2) (rd := rd2) (rl := 45) (ru := ru) (dr := dr) (sr := sr) (x := x) (t := t) (v2 := nI (tc R S f g cs p 30 a)) (v3 := nI (sm (tn R S f g cs p 30 a) 16 p)) (v5 := nI rn) (a4 := 44) rfl hn n 0 (zup I2 36 20 (nI n)) (by omega) ht
  have f23 : fM [45] [20] I2 I3 := (fM.fld (W := [45]) (F := [20]) (I := I2) (k := 20) (v := nI n) (Or.inl (by decide))).tr ⟨fun c hc _ => k3 c (fun q => hc (List.mem_singleton.mpr q)), fun k _ _ => by rw [k3 36 (by decide)]⟩
  have f03 : fM [45, 52] [7, 20] I I3 := (f02.mono (by decide) (by decide)).tr (f23.mono (by decide) (by decide))
  have k20 : I3 36 20 = nI n := by rw [k3 36 (by decide), zup_v, if_pos rfl]
  have q3 : mQ I3 45 37 R S f g p a n t := ⟨f03.ct hI (by decide), f03.fp hP (by decide), f03.st hA (by decide) rfl, k20, hn, fun k hk => ⟨h3 k (Nat.zero_le _) hk, (hT.2.2 k hk).2⟩⟩
  obtain ⟨I4, L4, rd4, e4, q4, f4, g4⟩ := m288 (d := d) (L := L2) (rd := rd2) (rl := 45) (ru := ru) (dr := dr) (sr := sr) (x := x) (cs := c2) hd (Or.inr rfl) hc hp0 (by rw [hg]) hw hT1 q3
  have t1 := tc_le R S f g c2 p 30 a
  have t2 := tc_le R S f g cs p 30 a
  have s1 := sm_le (p := p) (b := tn R S f g c2 p 30 a) (w := 16) (c := 99) (fun q hq => (hw2.2.1 q (by omega)).2.2.2.2.1)
  have s2 := sm_le (p := p) (b := tn R S f g cs p 30 a) (w := 16) (c := 99) (fun q hq => (hw1.2.1 q (by omega)).2.2.2.2.1)
  have s3 : p * 99 ≤ 396 := by omega
  obtain ⟨I5, L5, e5, h5, f5, g5, i5⟩ := mt1 (d := d) (I := zup I4 36 20 (nI rn)) (L := L4) (rd := rd4) (rl := 44) (ru := ru) (dr := dr) (sr := sr) (x := x) (v := lN (tc R S f g c2 p 30 a))
  obtain ⟨I6, L6, e6, h6, f6, g6, i6⟩ := mt2 (d := d) (I := I5) (L := L5) (rd := rd4) (rl := 44) (ru := ru) (dr := dr) (sr := sr) (x := x) (w := lN (tc R S f g cs p 30 a)) h5
  have m6 := m213 (d := d) (L := L6) (rd := rd4) (rl := 44) (ru := ru) (dr := dr) (sr := sr) (x := x) (I := I6) (c := 52) (w := 16) (a := tn R S f g c2 p 30 a) (Or.inr rfl) (q4.2.2.1.congr (by rw [i6 52 (by decide), i5 52 (by decide), zup_ne _ _ _ (by decide)])) (by decide) hp (fun o h1 h2 => (hw2.2.2.1 o h2 h1).2.2.2.2.1)
  obtain ⟨I7, L7, e7, h7', f7, g7, i7⟩ := m182 (d := d) (I := I6) (L := L6) (rd := rd4) (rl := 44) (ru := ru) (dr := dr) (sr := sr) (x := x) (v := lN (sm (tn R S f g c2 p 30 a) 16 p)) h6 (show 2 < 8 by decide)
  obtain ⟨I8, L8, e8, h8, f8, g8, i8⟩ := m182 (d := d) (I := I7) (L := L7) (rd := rd4) (rl := 44) (ru := ru) (dr := dr) (sr := sr) (x := x) (v := lN (sm (tn R S f g cs p 30 a) 16 p)) h7' (show 3 < 8 by decide)
  have f58 : fM [] [9] (zup I4 36 20 (nI rn)) I8 := f5.tr (f6.tr (f7.tr f8))
  have f48 : fM [] [9, 20] I4 I8 := (fM.fld (Or.inl (by decide))).tr (f58.mono (by decide) (by decide))
  have ft : fM [45, 52] [7, 9, 20] I I8 := (f03.mono (by decide) (by decide)).tr ((f4.mono (by decide) (by decide)).tr (f48.mono (by decide) (by decide)))
  have k7 : I8 36 7 = nI 0 := by
    rw [f48.2 7 (by decide) rfl, f4.2 7 (by decide) rfl, f23.2 7 (by decide) rfl, f2.2 7 (by decide) rfl]
    exact h7
  have kru : mRu I8 44 rn rt := ⟨by rw [f58.2 20 (by decide) rfl, zup_v, if_pos rfl], hrs.2.1, fun k hk => by rw [ft.1 44 (by decide) rfl]; exact hrs.2.2 k hk⟩
  refine ⟨I8, L8, rd4, ?_, ⟨ft.ct hI (by decide), ft.fp hP (by decide), ft.st hA (by decide) rfl, mTx.none k7, h8, ft.un hU (by decide), ft.kp' hK (by decide), ft.clu hC (by decide), ft.sig hS (by decide), rfl, kru⟩⟩
  rw [k289, e1, bI_i, e289_8, if_neg (show ¬ nI (if (some c2).isSome = true then 1 else 0) = 0 by show ¬ nI 1 = 0; decide), q1.2.1, if_neg (by rw [nI_z (by omega)]; omega), e2, bI_i, e289_21, m2, bI_i, e289_26, rR_rl, e289_37, q2.2.2.2.1, (f0.tx hT (by decide)).1, e3, e4, bI_i, e289_57, rR_rl, e289_61, nI_l (by omega), e5, bV_n, e289_71, nI_l (by omega), e6, bV_n, e289_75, m6, bI_i, e289_80, nI_l (by omega), e7, bV_n, e289_82, nI_l (by omega), e8, bV_n, e289_86]
/-! years -/
theorem m290 {m : Nat} {s : Int32} (hm : 0 < m) (hm2 : m < 2 ^ 31) (hs : I 36 41 = s) : cal d 290 [.ref 36, .int (nI m)] (I, L, rR ru dr sr rd rl, 65, x) = some (some (.int (nI (dv (nxd s) m))), (zup I 36 41 (nxd s), L, rR ru dr sr rd rl, 65, x)) := by
  rw [k290, if_neg (by rw [nI_z hm2]; omega), hs, zup_v, if_pos rfl, dv_s hm hm2]
  rfl
theorem l291z {M : Nat} {v1 v3 : Int32} (hM : M ≤ 60) : ∀ j i (I : Nat → Nat → Int32) (w5 w6 : Value), i + j = M → I 36 1 = 0 → ∃ I' w5', res d 291 23 [.ref 36, .int v1, .int (nI M), .int v3, .int (nI i), w5, w6] [] (I, L, rR ru dr sr rd rl, 65, x) = res d 291 23 [.ref 36, .int v1, .int (nI M), .int v3, .int (nI M), w5', w6] [] (I', L, rR ru dr sr rd rl, 65, x) ∧ fM [] [41] I I'
  | 0, i, I, w5, w6, hi, h1 => by
    have : i = M := by omega
    subst this
    exact ⟨I, w5, rfl, fM.rf⟩
  | j + 1, i, I, w5, w6, hi, h1 => by
    obtain ⟨I2, w2, e2, f2⟩ := l291z (v1 := v1) (v3 := v3) hM j (i + 1) (zup I 36 41 (nxd (I 36 41))) (.int (nI (dv (nxd (I 36 41)) 4))) w6 (by omega) (by rw [zup_v, if_neg (by decide)]; exact h1)
    refine ⟨I2, w2, ?_, (fM.fld (Or.inl (by decide))).tr f2⟩
    rw [l291_23, if_neg (by rw [nI_leI (by omega) (by omega)]; omega), m290 (by decide) (by decide) rfl, bI_i, e291_29, if_pos (by rw [zup_v, if_neg (by decide)]; exact h1), nI_add, e2]
theorem l291 {M : Nat} {v1 : Int32} (hd : 41 ≤ d) (hrl : rl = 44 ∨ rl = 45) (hct : zCt R S f g) (hp0 : 0 < p) (hcs : (prs rt rn).2 = some cs) (hM : M ≤ 60) : ∀ N i s (b : zP) c T0 (I : Nat → Nat → Int32) (L : Nat → Nat → Int64) (rd : Option Nat) (w5 w6 : Value), i + N = M → c ≤ i → zWf p S T0 b → T0 + N < 2 ^ 24 → mQ I rl 52 R S f g p b rn rt → I 36 41 = s → ∃ I' L' rd' w5' w6', res d 291 23 [.ref 36, .int v1, .int (nI M), .int (nI c), .int (nI i), w5, w6] [] (I, L, rR ru dr sr rd rl, 65, x) = res d 291 23 [.ref 36, .int v1, .int (nI M), .int (nI (ys R S f g cs p N s b c).2), .int (nI M), w5', w6'] [] (I', L', rR ru dr sr rd' rl, 65, x) ∧ mQ I' rl 52 R S f g p (ys R S f g cs p N s b c).1 rn rt ∧ fM [52] [41] I I'
  | 0, i, s, b, c, T0, I, L, rd, w5, w6, hi, hci, hb, hT, hq, hs => by
    have : i = M := by omega
    subst this
    exact ⟨I, L, rd, w5, w6, rfl, hq, fM.rf⟩
  | N + 1, i, s, b, c, T0, I, L, rd, w5, w6, hi, hci, hb, hT, hq, hs => by
    have hp := hb.1
    have h4 := dv_lt (nxd s) (show 0 < 4 by decide)
    have fz : ∀ (J : Nat → Nat → Int32) v, fM [52] [41] J (zup J 36 41 v) := fun J v => fM.fld (Or.inl (by decide))
    have hq0 : mQ (zup I 36 41 (nxd s)) rl 52 R S f g p b rn rt := hqq hrl hq (fM.fld (W := []) (F := [41]) (Or.inl (by decide))) (by decide) (by decide) (by decide)
    rw [l291_23, if_neg (by rw [nI_leI (by omega) (by omega)]; omega), m290 (by decide) (by decide) hs, bI_i, e291_29, hq0.2.1, if_neg (by rw [nI_z (by omega)]; omega)]
    unfold ys
    by_cases z : dv (nxd s) 4 < 3
    · obtain ⟨I1, L1, rd1, e1, q1, -, f1, g1⟩ := q225 (d := d) (L := L) (rd := rd) (ru := ru) (dr := dr) (sr := sr) (rl := rl) (x := x) (c := 52) hd hrl hct (Or.inr rfl) hq0 hb hp0 (by omega) hcs
      have hw1 := thr_wf hct hb hp0 (by omega) cs
      have hcc : c + (if thb R S f g cs b = true then 1 else 0) ≤ i + 1 := by split <;> omega
      obtain ⟨I2, L2, rd2, w2, u2, e2, q2, f2⟩ := l291 (v1 := v1) hd hrl hct hp0 hcs hM N (i + 1) (nxd s) (thr R S f g cs p b) (c + if thb R S f g cs b = true then 1 else 0) (T0 + 1) I1 L1 rd1 (.int (nI (dv (nxd s) 4))) w6 (by omega) hcc hw1 (by omega) q1 (by rw [f1.2 41 (by decide) rfl, zup_v, if_pos rfl])
      rw [if_pos z]
      refine ⟨I2, L2, rd2, w2, u2, ?_, q2, (fz _ _).tr ((f1.mono (by decide) (by decide)).tr f2)⟩
      rw [if_neg (by rw [nI_leI (by omega) (by omega)]; omega), e1, bI_i, e291_42]
      cases y : thb R S f g cs b with
      | true =>
        rw [y] at e2
        rw [if_neg (show ¬ nI (if true = true then 1 else 0) = 0 by decide), e291_46, nI_add, nI_add]
        exact e2
      | false =>
        rw [y] at e2
        rw [if_pos (show nI (if false = true then 1 else 0) = 0 from rfl), e291_46, nI_add, nI_add]
        exact e2
    · have hqp := dv_lt (nxd (nxd s)) hp0
      have h10 := dv_lt (nxd (nxd (nxd s))) (show 0 < 10 by decide)
      have hq1 : mQ (zup (zup I 36 41 (nxd s)) 36 41 (nxd (nxd s))) rl 52 R S f g p b rn rt := hqq hrl hq0 (fM.fld (W := []) (F := [41]) (Or.inl (by decide))) (by decide) (by decide) (by decide)
      have hq2 : mQ (zup (zup (zup I 36 41 (nxd s)) 36 41 (nxd (nxd s))) 36 41 (nxd (nxd (nxd s)))) rl 52 R S f g p b rn rt := hqq hrl hq1 (fM.fld (W := []) (F := [41]) (Or.inl (by decide))) (by decide) (by decide) (by decide)
      have hrl5 : rl ≠ 52 := by rcases hrl with h | h <;> rw [h] <;> decide
      have hq3 : mQ (zup (zup (zup (zup I 36 41 (nxd s)) 36 41 (nxd (nxd s))) 36 41 (nxd (nxd (nxd s)))) 52 (dv (nxd (nxd s)) p) (nI (dv (nxd (nxd (nxd s))) 10))) rl 52 R S f g p (zset b (dv (nxd (nxd s)) p) (dv (nxd (nxd (nxd s))) 10)) rn rt := by
        have fu : fM [52] [] (zup (zup (zup I 36 41 (nxd s)) 36 41 (nxd (nxd s))) 36 41 (nxd (nxd (nxd s)))) (zup (zup (zup (zup I 36 41 (nxd s)) 36 41 (nxd (nxd s))) 36 41 (nxd (nxd (nxd s)))) 52 (dv (nxd (nxd s)) p) (nI (dv (nxd (nxd (nxd s))) 10))) := fM.up (Or.inl (by decide)) (by decide)
        exact ⟨fu.ct hq2.1 (by decide), fu.fp hq2.2.1 (by decide), hq2.2.2.1.put, fu.ru' hrl hq2.2.2.2 ⟨by decide, by rcases hrl with h | h <;> rw [h] <;> decide⟩⟩
      obtain ⟨I2, L2, rd2, w2, u2, e2, q2, f2⟩ := l291 (v1 := v1) hd hrl hct hp0 hcs hM N (i + 1) (nxd (nxd (nxd s))) _ c T0 _ L rd (.int (nI (dv (nxd s) 4))) (.int (nI (dv (nxd (nxd s)) p))) (by omega) (by omega) (hb.aim (q := dv (nxd (nxd s)) p) (v := dv (nxd (nxd (nxd s))) 10) hqp (by omega)) (by omega) hq3 (by rw [zup_ne _ _ _ (by decide), zup_v, if_pos rfl])
      rw [if_neg z]
      refine ⟨I2, L2, rd2, w2, u2, ?_, q2, (fz _ _).tr ((fz _ _).tr ((fz _ _).tr ((fM.up (Or.inl (by decide)) (by decide)).tr f2)))⟩
      rw [if_pos (by rw [nI_leI (by omega) (by omega)]; omega), m290 hp0 (by omega) (by rw [zup_v, if_pos rfl]), bI_i, e291_53, m290 (by decide) (by decide) (by rw [zup_v, if_pos rfl]), bI_i, e291_60, if_pos (ak_52 (by omega)), nI_clamp (by omega), nI_add]
      exact e2
theorem n291 {v w : Int32} (h : mInv I L rl T R S f g p a n t l u kp cl si rn rt) (hw : wInv R S f g p a T u kp) (hd : 41 ≤ d) (hcs : (prs rt rn).2 = some cs) (hT1 : T + 100 < 2 ^ 24) : ∃ I' L' rd', cal d 291 [.ref 36, .int v, .int w] (I, L, rR ru dr sr rd rl, 65, x) = some (some (.int (yrA R S f g cs p a v w).1), (I', L', rR ru dr sr rd' rl, 65, x)) ∧ mInv I' L' rl T R S f g p a n t ((yrA R S f g cs p a v w).2.getD l) u kp cl si rn rt := by
  have hq := h.q
  obtain ⟨hI, hP, hA, hT, hO, hU, hK, hC, hS, hl, hR⟩ := h
  obtain ⟨hc, hw, hu, hk⟩ := hw
  have f0 : fM [] [] I (zup I 36 10 (nI 0)) := f10
  have hp := hw.1
  unfold yrA
  rw [k291, m179l, bI_i, e291_7]
  cases z : inl 1 60 w with
  | none =>
    rw [if_pos (show nI (if (none : Option Nat).isSome = true then 1 else 0) = 0 from rfl)]
    exact ⟨_, L, rd, rfl, ⟨f0.ct hI (by decide), f0.fp hP (by decide), f0.st hA (by decide) rfl, f0.tx hT (by decide), f0.to hO (by decide) rfl, f0.un hU (by decide), f0.kp' hK (by decide), f0.clu hC (by decide), f0.sig hS (by decide), hl, f0.rr hl hR (by decide)⟩⟩
  | some k =>
    obtain ⟨k1, k2, rfl⟩ := inl_s (by decide) (by decide) z
    rw [if_neg (show ¬ nI (if (some k).isSome = true then 1 else 0) = 0 by show ¬ nI 1 = 0; decide)]
    have f1 : fM [] [41] I (zup (zup I 36 10 (nI 0)) 36 41 v) := (f0.mono (by decide) (by decide)).tr (fM.fld (Or.inl (by decide)))
    obtain ⟨I2, e2, q2, f2⟩ := q52 (d := d) (L := L) (ru := ru) (dr := dr) (sr := sr) (rd := rd) (rl := rl) (x := x) (Or.inl hl) (hqq (Or.inl hl) hq f1 (by decide) (by decide) (by decide))
    have f02 : fM [52] [41] I I2 := (f1.mono (by decide) (by decide)).tr (f2.mono (by decide) (by decide))
    have k41 : I2 36 41 = v := by rw [f2.2 41 (by decide) rfl, zup_v, if_pos rfl]
    rw [e2, bV_n, e291_21]
    dsimp only
    have fin : ∀ (I3 : Nat → Nat → Int32) (L3 : Nat → Nat → Int64) (rd3 : Option Nat) (b : zP) (c T0 : Nat) (w5 w6 : Value), fM [52] [41] I I3 → mSt I3 52 b → zWf p S T0 b → ∃ I' L' rd', res d 291 23 [.ref 36, .int v, .int (nI k), .int (nI c), .int (nI k), w5, w6] [] (I3, L3, rR ru dr sr rd3 rl, 65, x) = some (some (.int (nI c)), (I', L', rR ru dr sr rd' rl, 65, x)) ∧ mInv I' L' rl T R S f g p a n t ([lN (sm b 16 p), lN (b 24)]) u kp cl si rn rt := fun I3 L3 rd3 b c T0 w5 w6 f3 h3 hw3 => by
      have s1 := sm_le (p := p) (b := b) (w := 16) (c := 99) (fun q hq => (hw3.2.1 q (by omega)).2.2.2.2.1)
      have s3 : p * 99 ≤ 396 := by omega
      have h24 := hw3.2.2.2.1
      have hb0 : mSt (zup I3 36 9 (nI 0)) 52 b := h3.congr (zup_ne _ _ _ (by decide))
      obtain ⟨I5, L5, e5, h5, f5, g5, i5⟩ := mt1 (d := d) (I := I3) (L := L3) (rd := rd3) (ru := ru) (dr := dr) (sr := sr) (rl := rl) (x := x) (v := lN (sm b 16 p))
      obtain ⟨I6, L6, e6, h6, f6, g6, i6⟩ := mt2 (d := d) (I := I5) (L := L5) (rd := rd3) (ru := ru) (dr := dr) (sr := sr) (rl := rl) (x := x) (w := lN (b 24)) h5
      have ft : fM [52] [9, 41] I I6 := (f3.mono (by decide) (by decide)).tr ((f5.tr f6).mono (by decide) (by decide))
      have hto := h6
      refine ⟨I6, L6, rd3, ?_, ⟨ft.ct hI (by decide), ft.fp hP (by decide), ft.st hA (by decide) rfl, ft.tx hT (by decide), hto, ft.un hU (by decide), ft.kp' hK (by decide), ft.clu hC (by decide), ft.sig hS (by decide), hl, ft.rr hl hR (by decide)⟩⟩
      rw [l291_23, if_pos (Int32.le_refl _), m213 (Or.inr rfl) hb0 (by decide) hp (fun o h1 h2 => (hw3.2.2.1 o h2 h1).2.2.2.2.1), bI_i, e291_71, nI_l (by omega), e5, bV_n, e291_73, if_pos (ak_52 (by omega)), nI_clamp (by omega), i5 52 (by decide), h3 24 (by omega), nI_l (by omega), e6, bV_n, e291_80]
    by_cases y : p = 0
    · obtain ⟨I3, w3, e3, f3⟩ := l291z (d := d) (L := L) (rd := rd) (ru := ru) (dr := dr) (sr := sr) (rl := rl) (x := x) (v1 := v) (v3 := nI 0) k2 k 0 I2 .null .null (by omega) (by rw [q2.2.1, y]; rfl)
      obtain ⟨I4, L4, rd4, e4, h4⟩ := fin I3 L rd a 0 T w3 .null (f02.tr (f3.mono (by decide) (by decide))) (f3.st q2.2.2.1 (by decide) rfl) hw
      rw [e3, if_pos y]
      refine ⟨I4, L4, rd4, e4, ?_⟩
      rw [y] at h4 ⊢
      exact h4
    · obtain ⟨I3, L3, rd3, w3, u3, e3, q3, f3⟩ := l291 (d := d) (ru := ru) (dr := dr) (sr := sr) (rl := rl) (x := x) (v1 := v) hd (Or.inl hl) hc (show 0 < p by omega) hcs k2 k 0 v a 0 T I2 L rd .null .null (by omega) (Nat.le_refl _) hw (by omega) q2 k41
      have hwy := (ys_wf (cs := cs) hc (show 0 < p by omega) k v a 0 T hw (by omega)).1
      obtain ⟨I4, L4, rd4, e4, h4⟩ := fin I3 L3 rd3 _ (ys R S f g cs p k v a 0).2 _ w3 u3 (f02.tr f3) q3.2.2.1 hwy
      rw [e3, if_neg y]
      exact ⟨I4, L4, rd4, e4, h4⟩

end
