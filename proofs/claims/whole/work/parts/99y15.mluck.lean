section
variable {I : Nat → Nat → Int32} {L : Nat → Nat → Int64} {ru dr : Nat} {sr : Nat → Option Nat} {rd : Option Nat} {rl x : Nat}
variable {d R S p n T rn : Nat} {f g rt : Nat → Nat} {a : zP} {t : Nat → Nat} {l : List Int64} {u : List zP} {kp : Nat → Option zP} {cl : List (Nat × Nat)} {si : List (Nat × Int32)} {cs : zC}

/-! fractions -/
theorem m278 : ∀ j d u' w', eu j u' w' → u' < 2 ^ 63 → w' < 2 ^ 63 → j + 1 ≤ d → cal d 278 [.long (lN u'), .long (lN w')] (I, L, rR ru dr sr rd rl, 65, x) = some (some (.long (lN (Nat.gcd u' w'))), (I, L, rR ru dr sr rd rl, 65, x))
  | 0, d, u', w', he, hu, hw, hd => by
    have he : w' = 0 := he
    subst he
    obtain ⟨d1, rfl⟩ : ∃ d1, d = d1 + 1 := ⟨d - 1, by omega⟩
    rw [k278, if_pos ((lg_cmp_eq _ _).mpr rfl), e278_11, Nat.gcd_zero_right]
  | j + 1, d, u', w', he, hu, hw, hd => by
    obtain ⟨d1, rfl⟩ : ∃ d1, d = d1 + 1 := ⟨d - 1, by omega⟩
    by_cases z : w' = 0
    · subst z
      rw [k278, if_pos ((lg_cmp_eq _ _).mpr rfl), e278_11, Nat.gcd_zero_right]
    · have hm : u' % w' < 2 ^ 63 := Nat.lt_of_le_of_lt (Nat.mod_le _ _) hu
      rw [k278, if_neg (fun q => z ((fb_lN_inj hw (by decide)).mp ((lg_cmp_eq _ _).mp q))), if_neg (fun q => z ((lN_z hw).mp q)), lN_rem hu hw, m278 j d1 w' (u' % w') (he.resolve_left z) hw hm (by omega), bL_l, e278_11, Nat.gcd_comm w' (u' % w'), ← Nat.gcd_rec, Nat.gcd_comm w' u']
theorem l279 {b m : Nat} (hm : m < 1000) : ∀ n i, i + n = m → res d 279 4 [.long (lN b), .null, .int (nI m), .long (lN (b ^ i)), .null, .int (nI i)] [] (I, L, rR ru dr sr rd rl, 65, x) = some (some (.long (lN (b ^ m))), (I, L, rR ru dr sr rd rl, 65, x))
  | 0, i, h => by rw [l279_4, if_pos (by rw [nI_leI (by omega) (by omega)]; omega), show i = m by omega]
  | n + 1, i, h => by
    have ih := l279 (b := b) hm n (i + 1) (by omega)
    rw [l279_4, if_neg (by rw [nI_leI (by omega) (by omega)]; omega), lN_mul, ← Nat.pow_succ, nI_add]
    exact ih
theorem m279 {b m : Nat} (hm : m < 1000) : cal d 279 [.long (lN b), .int (nI m)] (I, L, rR ru dr sr rd rl, 65, x) = some (some (.long (lN (b ^ m))), (I, L, rR ru dr sr rd rl, 65, x)) := by
  rw [k279]
  exact l279 hm m 0 (by omega)
theorem m280 {u' w' : Nat} (hd : 60 ≤ d) (hu : u' < 2 ^ 40) (hw' : w' < 2 ^ 28) (h0 : 0 < w') : ∃ I' L', cal d 280 [.ref 36, .long (lN u'), .long (lN w')] (I, L, rR ru dr sr rd rl, 65, x) = some (some (.int (nI 0)), (I', L', rR ru dr sr rd rl, 65, x)) ∧ mTo I' L' (frc u' w') ∧ fM [] [9] I I' := by
  have hg : 0 < Nat.gcd w' u' := Nat.gcd_pos_of_pos_left _ h0
  have hgl : Nat.gcd w' u' < 2 ^ 63 := Nat.lt_of_le_of_lt (Nat.le_of_dvd h0 (Nat.gcd_dvd_left _ _)) (by omega)
  have hz : lN (Nat.gcd w' u') ≠ 0 := fun q => by rw [lN_z hgl] at q; omega
  obtain ⟨I1, L1, e1, h1, f1, g1, -⟩ := mt1 (d := d) (I := I) (L := L) (ru := ru) (dr := dr) (sr := sr) (rd := rd) (rl := rl) (x := x) (v := lN (u' / Nat.gcd w' u'))
  obtain ⟨I2, L2, e2, h2, f2, g2, -⟩ := mt2 (d := d) (I := I1) (L := L1) (ru := ru) (dr := dr) (sr := sr) (rd := rd) (rl := rl) (x := x) (w := lN (w' / Nat.gcd w' u')) h1
  refine ⟨I2, L2, ?_, h2, f1.tr f2⟩
  rw [k280, m278 56 d u' w' (eu_ok 28 56 _ _ hw' (by omega)) (by omega) (by omega) (by omega), bL_l, e280_3, Nat.gcd_comm u' w', if_neg hz, lN_div (by omega) hgl, e1, bV_n, e280_12, if_neg hz, lN_div (by omega) hgl, e2, bV_n, e280_17]
/-! luck -/
theorem lkO_f {q : Nat} : ∀ k i, i ≤ k → lkO R S f q a i = false → lkO R S f q a k = false
  | 0, i, h, e => by rw [show i = 0 by omega] at e; exact e
  | k + 1, i, h, e => by
    by_cases z : i = k + 1
    · rw [← z]; exact e
    · rw [lkO, lkO_f k i (by omega) e]; rfl
theorem l281 {q k P : Nat} (hct : zCt R S f g) (hw : zWf p S T a) (hq : q < p) (hk : k ≤ 8) : ∀ j i (I : Nat → Nat → Int32) (L : Nat → Nat → Int64) (w6 : Value), i + j = k → lkO R S f q a i = true → mCt I R S f g → I 36 1 = nI p → mSt I 52 (lkS R S f q a i) → ∃ I' L' i' w', res d 281 29 [.ref 36, .int (nI q), .int (nI k), .int (nI P), .int (nI 1), .int (nI i), w6] [] (I, L, rR ru dr sr rd rl, 65, x) = res d 281 64 [.ref 36, .int (nI q), .int (nI k), .int (nI P), .int (nI (if lkO R S f q a k = true then 1 else 0)), .int i', w'] [] (I', L', rR ru dr sr rd rl, 65, x) ∧ fM [52] [] I I'
  | 0, i, I, L, w6, hi, ho, hI, hP, hB => by
    have : i = k := by omega
    subst this
    exact ⟨I, L, _, w6, by rw [l281_29, if_pos (Int32.le_refl _), ho, if_pos rfl], fM.rf⟩
  | j + 1, i, I, L, w6, hi, ho, hI, hP, hB => by
    have hp := hw.1
    have hS16 := hct.S16
    have hwi := lkS_wf hct hw hq i
    have hgl := gol_le hwi (q := q) (by omega)
    have er : rgt R S f (lkS R S f q a i) q = (decide (gol S (lkS R S f q a i) q < S) && can R S f (lkS R S f q a i) q (2 ^ gol S (lkS R S f q a i) q) ((lkS R S f q a i) (4 + q))) := rfl
    have eO : lkO R S f q a (i + 1) = (lkO R S f q a i && rgt R S f (lkS R S f q a i) q) := rfl
    have eS : lkS R S f q a (i + 1) = if rgt R S f (lkS R S f q a i) q = true then goR S (lkS R S f q a i) q else (lkS R S f q a i) := rfl
    have hno : ∀ (J : Nat → Nat → Int32) (L1 : Nat → Nat → Int64), rgt R S f (lkS R S f q a i) q = false → fM [52] [] I J → ∃ I' L' i' w', res d 281 53 [.ref 36, .int (nI q), .int (nI k), .int (nI P), .int (nI 1), .int (nI i), .int (nI (gol S (lkS R S f q a i) q))] [] (J, L1, rR ru dr sr rd rl, 65, x) = res d 281 64 [.ref 36, .int (nI q), .int (nI k), .int (nI P), .int (nI (if lkO R S f q a k = true then 1 else 0)), .int i', w'] [] (I', L', rR ru dr sr rd rl, 65, x) ∧ fM [52] [] I I' := fun J L1 hr hJ => by
      have h1 : lkO R S f q a (i + 1) = false := by rw [eO, hr, Bool.and_false]
      have h2 := lkO_f k (i + 1) (by omega) h1
      refine ⟨J, L1, nI (i + 1), .int (nI (gol S (lkS R S f q a i) q)), ?_, hJ⟩
      rw [e281_53, e281_54, if_pos (show nI 0 = 0 from rfl), e281_62, l281_29, if_pos (show nI 0 = 0 from rfl), nI_add, h2, if_neg Bool.false_ne_true]
      split <;> rfl
    rw [l281_29, if_neg (by rw [nI_leI (by omega) (by omega)]; omega), if_neg (by decide), m208w hct (Or.inr rfl) hP hI hB hwi (by omega), bI_i, e281_39, hI.2.1]
    by_cases z : gol S (lkS R S f q a i) q < S
    · obtain ⟨I1, L1, e1, -, f1⟩ := m220 (d := d) (L := L) (ru := ru) (dr := dr) (sr := sr) (rd := rd) (rl := rl) (x := x) (q := q) (s := gol S (lkS R S f q a i) q) hct hI (Or.inr rfl) hP hB hwi (by omega) (by omega)
      rw [show stn S (gol S (lkS R S f q a i) q) = 2 ^ gol S (lkS R S f q a i) q by unfold stn; rw [if_pos z]] at e1
      rw [decide_eq_true z, Bool.true_and] at er
      rw [if_neg (by rw [nI_leI (by omega) (by omega)]; omega), e1, bI_i, e281_50]
      cases y : can R S f (lkS R S f q a i) q (2 ^ gol S (lkS R S f q a i) q) ((lkS R S f q a i) (4 + q)) with
      | false =>
        rw [y] at er
        rw [if_pos (show nI (if false = true then 1 else 0) = 0 from rfl)]
        exact hno I1 L1 er f1.M
      | true =>
        rw [y] at er
        rw [er, Bool.and_true, ho] at eO
        rw [er, if_pos rfl] at eS
        have hP1 := (f1.M (W := []) (F := [])).fp hP (by decide)
        obtain ⟨I2, e2, h2, f2⟩ := m224 (d := d) (L := L1) (ru := ru) (dr := dr) (sr := sr) (rd := rd) (rl := rl) (x := x) (c := 52) (q := q) hct (f1.ct hI) (Or.inr rfl) hP1 ((f1.M (W := []) (F := [])).st hB (by decide) rfl) hwi hq z
        rw [← eS] at h2
        have f12 : fM [52] [] I I2 := f1.M.tr ⟨fun c hc _ => f2 c (fun e => hc (List.mem_singleton.mpr e)), fun j _ _ => by rw [f2 36 (by decide)]⟩
        obtain ⟨I3, L3, i3, w3, e3, f3⟩ := l281 (P := P) hct hw hq hk j (i + 1) I2 L1 (.int (nI (gol S (lkS R S f q a i) q))) (by omega) eO (f12.ct hI (by decide)) (f12.fp hP (by decide)) h2
        refine ⟨I3, L3, i3, w3, ?_, f12.tr f3⟩
        rw [if_neg (show ¬ nI (if true = true then 1 else 0) = 0 by decide), e281_54, if_neg (by decide), e2, bV_n, e281_62, nI_add, e3]
    · rw [decide_eq_false z, Bool.false_and] at er
      rw [if_pos (by rw [nI_leI (by omega) (by omega)]; omega)]
      exact hno I L er fM.rf
theorem n281 {v w y : Int32} (h : mInv I L rl T R S f g p a n t l u kp cl si rn rt) (hw : wInv R S f g p a T u kp) (hd : 60 ≤ d) : ∃ I' L', cal d 281 [.ref 36, .int v, .int w, .int y] (I, L, rR ru dr sr rd rl, 65, x) = some (some (.int (lcA R S f p a v w y).1), (I', L', rR ru dr sr rd rl, 65, x)) ∧ mInv I' L' rl T R S f g p a n t ((lcA R S f p a v w y).2.getD l) u kp cl si rn rt := by
  obtain ⟨hI, hP, hA, hT, hO, hU, hK, hC, hS, hl, hR⟩ := h
  obtain ⟨hc, hw, hu, hk⟩ := hw
  have f0 : fM [] [] I (zup I 36 10 (nI 0)) := f10
  have hp := hw.1
  have hP0 := f0.fp hP (by decide)
  unfold lcA
  rw [k281, m183 hP0 hp, bI_i, e281_6]
  cases z : inr p v with
  | none =>
    rw [if_pos (show nI (if (none : Option Nat).isSome = true then 1 else 0) = 0 from rfl)]
    exact ⟨_, L, rfl, ⟨f0.ct hI (by decide), f0.fp hP (by decide), f0.st hA (by decide) rfl, f0.tx hT (by decide), f0.to hO (by decide) rfl, f0.un hU (by decide), f0.kp' hK (by decide), f0.clu hC (by decide), f0.sig hS (by decide), hl, f0.rr hl hR (by decide)⟩⟩
  | some q =>
    obtain ⟨hq, rfl⟩ := inr_s (by omega) z
    rw [if_neg (show ¬ nI (if (some q).isSome = true then 1 else 0) = 0 by show ¬ nI 1 = 0; decide), m179z (by decide), bI_i, e281_11]
    cases z2 : inr 9 w with
    | none =>
      rw [if_pos (show nI (if (none : Option Nat).isSome = true then 1 else 0) = 0 from rfl)]
      exact ⟨_, L, rfl, ⟨f0.ct hI (by decide), f0.fp hP (by decide), f0.st hA (by decide) rfl, f0.tx hT (by decide), f0.to hO (by decide) rfl, f0.un hU (by decide), f0.kp' hK (by decide), f0.clu hC (by decide), f0.sig hS (by decide), hl, f0.rr hl hR (by decide)⟩⟩
    | some k =>
      obtain ⟨hk9, rfl⟩ := inr_s (by decide) z2
      rw [if_neg (show ¬ nI (if (some k).isSome = true then 1 else 0) = 0 by show ¬ nI 1 = 0; decide), m179z (by decide), bI_i, e281_16]
      cases z3 : inr 11 y with
      | none =>
        rw [if_pos (show nI (if (none : Option Nat).isSome = true then 1 else 0) = 0 from rfl)]
        exact ⟨_, L, rfl, ⟨f0.ct hI (by decide), f0.fp hP (by decide), f0.st hA (by decide) rfl, f0.tx hT (by decide), f0.to hO (by decide) rfl, f0.un hU (by decide), f0.kp' hK (by decide), f0.clu hC (by decide), f0.sig hS (by decide), hl, f0.rr hl hR (by decide)⟩⟩
      | some P =>
        obtain ⟨hP11, rfl⟩ := inr_s (by decide) z3
        obtain ⟨I1, e1, h1, f1⟩ := m221s (d := d) (L := L) (ru := ru) (dr := dr) (sr := sr) (rd := rd) (rl := rl) (x := x) (c0 := 37) (c1 := 52) ⟨rfl, Or.inr rfl⟩ (f0.st hA (by decide) rfl)
        obtain ⟨I2, L2, i2, w2, e2, f2⟩ := l281 (d := d) (ru := ru) (dr := dr) (sr := sr) (rd := rd) (rl := rl) (x := x) (q := q) (k := k) (P := P) hc hw hq (by omega) k 0 I1 L .null (by omega) rfl (f1.ct (f0.ct hI (by decide)) (by decide)) (f1.fp hP0 (by decide)) h1
        have hUl := lkU_le R S f q a (P := P) (i := k) (by omega) (by omega)
        have h10 : 10 ^ k ≤ 10 ^ 8 := Nat.pow_le_pow_right (by decide) (by omega)
        obtain ⟨I3, L3, e3, h3, f3⟩ := m280 (d := d) (L := L2) (I := I2) (ru := ru) (dr := dr) (sr := sr) (rd := rd) (rl := rl) (x := x) (u' := lkU R S f q a P k) (w' := 10 ^ k) hd (by omega) (by omega) (Nat.pow_pos (by decide))
        have ft : fM [52] [9] I I3 := (f0.mono (by decide) (by decide)).tr ((f1.mono (by decide) (by decide)).tr ((f2.mono (by decide) (by decide)).tr (f3.mono (by decide) (by decide))))
        have hto := h3
        have e64 : res d 281 64 [.ref 36, .int (nI q), .int (nI k), .int (nI P), .int (nI (if lkO R S f q a k = true then 1 else 0)), .int i2, w2] [] (I2, L2, rR ru dr sr rd rl, 65, x) = res d 281 73 [.ref 36, .int (nI q), .int (nI k), .int (nI P), .int (nI (if lkO R S f q a k = true then 1 else 0)), .int i2, w2] [.long (lN (lkU R S f q a P k)), .ref 36] (I2, L2, rR ru dr sr rd rl, 65, x) := by
          unfold lkU
          cases t2 : lkO R S f q a k with
          | true => rw [e281_64, if_neg (by decide), nI_l (by omega), m279 (by omega), bL_l, e281_71]; rfl
          | false => rw [e281_64, if_pos (show nI (if false = true then 1 else 0) = 0 from rfl)]; rfl
        rw [if_neg (show ¬ nI (if (some P).isSome = true then 1 else 0) = 0 by show ¬ nI 1 = 0; decide), e1, bV_n, e281_25, e2, e64, e281_73, m279 (by omega), bL_l, e281_76, e3, bI_i, e281_77]
        exact ⟨I3, L3, rfl, ⟨ft.ct hI (by decide), ft.fp hP (by decide), ft.st hA (by decide) rfl, ft.tx hT (by decide), hto, ft.un hU (by decide), ft.kp' hK (by decide), ft.clu hC (by decide), ft.sig hS (by decide), hl, ft.rr hl hR (by decide)⟩⟩
/-! hits -/
def cts (m : Nat) : Nat → Nat := fb_ct (fun s => Nat.beq (pc s) m)
theorem cts_cho : ∀ k, k < 9 → ∀ m, m < k + 1 → cts m (2 ^ k) = cho (k - m) m := by decide +kernel
theorem l282 {k m P : Nat} (hk : k ≤ 8) (hm : m ≤ k) (hP : P ≤ 10) : ∀ j i, i + j = 2 ^ k → res d 282 24 [.ref 36, .int (nI k), .int (nI m), .int (nI P), .long (lN (cts m i * (P ^ m * (10 - P) ^ (k - m)))), .null, .int (nI i)] [] (I, L, rR ru dr sr rd rl, 65, x) = res d 282 24 [.ref 36, .int (nI k), .int (nI m), .int (nI P), .long (lN (cts m (2 ^ k) * (P ^ m * (10 - P) ^ (k - m)))), .null, .int (nI (2 ^ k))] [] (I, L, rR ru dr sr rd rl, 65, x)
  | 0, i, h => by rw [show i = 2 ^ k by omega]
  | j + 1, i, h => by
    have h256 : 2 ^ k ≤ 256 := Nat.pow_le_pow_right (n := 2) (by decide) hk
    have hpc := pc_le i
    have ih := l282 hk hm hP j (i + 1) (by omega)
    have ec : cts m (i + 1) = cts m i + if Nat.beq (pc i) m = true then 1 else 0 := rfl
    rw [ec] at ih
    rw [l282_24, zshl1 (by omega), if_neg (by rw [nI_leI (by omega) (by omega)]; omega), s296 (by omega), bI_i, e282_32]
    by_cases z : pc i = m
    · rw [show Nat.beq (pc i) m = true by rw [z]; exact Nat.beq_refl m, if_pos rfl, Nat.add_mul, Nat.one_mul] at ih
      rw [if_pos (by rw [z]), nI_l (by omega), m279 (by omega), bL_l, e282_38, zsub (by omega), nI_l (by omega), zsub (by omega), m279 (by omega), bL_l, e282_46, lN_mul, lN_add, nI_add]
      exact ih
    · rw [if_neg (fun e => z (Nat.eq_of_beq_eq_true e)), Nat.add_zero] at ih
      rw [if_neg (by rw [nI_eq (by omega) (by omega)]; exact z), lN_add, Nat.add_zero, nI_add]
      exact ih
theorem n282 {v w y : Int32} (h : mInv I L rl T R S f g p a n t l u kp cl si rn rt) (hw : wInv R S f g p a T u kp) (hd : 60 ≤ d) : ∃ I' L', cal d 282 [.ref 36, .int v, .int w, .int y] (I, L, rR ru dr sr rd rl, 65, x) = some (some (.int (htA v w y).1), (I', L', rR ru dr sr rd rl, 65, x)) ∧ mInv I' L' rl T R S f g p a n t ((htA v w y).2.getD l) u kp cl si rn rt := by
  obtain ⟨hI, hP, hA, hT, hO, hU, hK, hC, hS, hl, hR⟩ := h
  obtain ⟨hc, hw, hu, hk⟩ := hw
  have f0 : fM [] [] I (zup I 36 10 (nI 0)) := f10
  unfold htA
  rw [k282, m179z (by decide), bI_i, e282_7]
  cases z : inr 9 v with
  | none =>
    rw [if_pos (show nI (if (none : Option Nat).isSome = true then 1 else 0) = 0 from rfl)]
    exact ⟨_, L, rfl, ⟨f0.ct hI (by decide), f0.fp hP (by decide), f0.st hA (by decide) rfl, f0.tx hT (by decide), f0.to hO (by decide) rfl, f0.un hU (by decide), f0.kp' hK (by decide), f0.clu hC (by decide), f0.sig hS (by decide), hl, f0.rr hl hR (by decide)⟩⟩
  | some k =>
    obtain ⟨hk9, rfl⟩ := inr_s (by decide) z
    rw [if_neg (show ¬ nI (if (some k).isSome = true then 1 else 0) = 0 by show ¬ nI 1 = 0; decide), m179z (by omega), bI_i, e282_12]
    dsimp only
    cases z2 : inr (k + 1) w with
    | none =>
      rw [if_pos (show nI (if (none : Option Nat).isSome = true then 1 else 0) = 0 from rfl)]
      exact ⟨_, L, rfl, ⟨f0.ct hI (by decide), f0.fp hP (by decide), f0.st hA (by decide) rfl, f0.tx hT (by decide), f0.to hO (by decide) rfl, f0.un hU (by decide), f0.kp' hK (by decide), f0.clu hC (by decide), f0.sig hS (by decide), hl, f0.rr hl hR (by decide)⟩⟩
    | some m =>
      obtain ⟨hmk, rfl⟩ := inr_s (by omega) z2
      rw [if_neg (show ¬ nI (if (some m).isSome = true then 1 else 0) = 0 by show ¬ nI 1 = 0; decide), m179z (by decide), bI_i, e282_17]
      cases z3 : inr 11 y with
      | none =>
        rw [if_pos (show nI (if (none : Option Nat).isSome = true then 1 else 0) = 0 from rfl)]
        exact ⟨_, L, rfl, ⟨f0.ct hI (by decide), f0.fp hP (by decide), f0.st hA (by decide) rfl, f0.tx hT (by decide), f0.to hO (by decide) rfl, f0.un hU (by decide), f0.kp' hK (by decide), f0.clu hC (by decide), f0.sig hS (by decide), hl, f0.rr hl hR (by decide)⟩⟩
      | some P =>
        obtain ⟨hP11, rfl⟩ := inr_s (by decide) z3
        have e2 := l282 (d := d) (L := L) (ru := ru) (dr := dr) (sr := sr) (rd := rd) (rl := rl) (x := x) (I := zup I 36 10 (nI 0)) (k := k) (m := m) (P := P) (by omega) (by omega) (by omega) (2 ^ k) 0 (by omega)
        rw [show cts m 0 = 0 from rfl, Nat.zero_mul, cts_cho k hk9 m (by omega)] at e2
        have hUl := htU_lt (k := k) (m := m) (P := P) (by omega) (by omega) (by omega)
        have eU : cho (k - m) m * (P ^ m * (10 - P) ^ (k - m)) = htU k m P := by unfold htU; rw [Nat.mul_assoc]
        have h10 : 10 ^ k ≤ 10 ^ 8 := Nat.pow_le_pow_right (by decide) (by omega)
        obtain ⟨I3, L3, e3, h3, f3⟩ := m280 (d := d) (L := L) (I := zup I 36 10 (nI 0)) (ru := ru) (dr := dr) (sr := sr) (rd := rd) (rl := rl) (x := x) (u' := htU k m P) (w' := 10 ^ k) hd (by omega) (by omega) (Nat.pow_pos (by decide))
        have ft : fM [] [9] I I3 := (f0.mono (by decide) (by decide)).tr f3
        have hto := h3
        rw [if_neg (show ¬ nI (if (some P).isSome = true then 1 else 0) = 0 by show ¬ nI 1 = 0; decide), e2, eU, l282_24, zshl1 (by omega), if_pos (Int32.le_refl _), m279 (by omega), bL_l, e282_58, e3, bI_i, e282_59]
        exact ⟨I3, L3, rfl, ⟨ft.ct hI (by decide), ft.fp hP (by decide), ft.st hA (by decide) rfl, ft.tx hT (by decide), hto, ft.un hU (by decide), ft.kp' hK (by decide), ft.clu hC (by decide), ft.sig hS (by decide), hl, ft.rr hl hR (by decide)⟩⟩
/-! the dare -/
theorem l283 {q k b : Nat} {W : Nat → Bool} (hct : zCt R S f g) (hI : mCt I R S f g) (ho : oth a q < 65536) (hb : b ≤ R) (hk : k ≤ 100) (hW : ∀ x, b < x → x ≤ R → I 60 x = nI (if W x = true then 1 else 0)) : ∀ n i, i + n = dfr R k b → (∀ j, j < i → dP R (rws f (zdif (2 ^ S - 1) (oth a q ||| 0)) R) W b j = false) → res d 283 4 [.ref 36, .int (nI b), .int (nI k), .int (nI (oth a q)), .int (nI (b + 1 + i))] [] (I, L, rR ru dr sr rd rl, 65, x) = some (some (.int (nI (dto R (rws f (zdif (2 ^ S - 1) (oth a q ||| 0)) R) k W b))), (I, L, rR ru dr sr rd rl, 65, x))
  | 0, i, h, hn => by
    have hR := hct.2.1
    unfold dto
    rw [if_neg (fa_first_end (fun j hj => hn j (by omega)))]
    unfold dfr at h
    rw [l283_4, hI.1, nI_add, nI_add, zmin_n (by omega) (by omega), if_pos (by rw [nI_ltI (by omega) (by omega)]; omega)]
  | n + 1, i, h, hn => by
    have hR := hct.2.1
    have hd : i < dfr R k b := by omega
    have hd2 : b + 1 + i ≤ R + 1 ∧ b + 1 + i ≤ b + k := by unfold dfr at hd; omega
    have ih := l283 hct hI ho hb hk hW n (i + 1) (by omega)
    rw [l283_4, hI.1, nI_add, nI_add, zmin_n (by omega) (by omega), if_neg (by rw [nI_ltI (by omega) (by omega)]; omega)]
    have yes : dP R (rws f (zdif (2 ^ S - 1) (oth a q ||| 0)) R) W b i = true → dto R (rws f (zdif (2 ^ S - 1) (oth a q ||| 0)) R) k W b = b + 1 + i := fun y => by
      have := fa_first_at hd y hn
      unfold dto
      rw [this, if_pos hd]
      omega
    have no : dP R (rws f (zdif (2 ^ S - 1) (oth a q ||| 0)) R) W b i = false → ∀ j, j < i + 1 → dP R (rws f (zdif (2 ^ S - 1) (oth a q ||| 0)) R) W b j = false := fun y j hj => by
      by_cases w : j = i
      · rw [w]; exact y
      · exact hn j (by omega)
    by_cases z : b + 1 + i = R + 1
    · have y : dP R (rws f (zdif (2 ^ S - 1) (oth a q ||| 0)) R) W b i = true := by unfold dP; rw [decide_eq_true (show b + i = R by omega)]; rfl
      rw [if_pos (by rw [z]), yes y]
    · have hF : fre f (oth a q) (b + i) = (rws f (zdif (2 ^ S - 1) (oth a q ||| 0)) R).testBit (b + i) := by
        have := F_eq hct (m := oth a q) (b := b + i + 1) (by omega) (by omega)
        rw [tb2, Nat.add_sub_cancel] at this
        rw [Nat.or_zero, this]
      have eP : dP R (rws f (zdif (2 ^ S - 1) (oth a q ||| 0)) R) W b i = ((rws f (zdif (2 ^ S - 1) (oth a q ||| 0)) R).testBit (b + i) && !W (b + i + 1)) := by unfold dP; rw [decide_eq_false (show ¬ b + i = R by omega), Bool.false_or]
      rw [if_neg (by rw [nI_eq (by omega) (by omega)]; exact z), zsub (by omega), show b + 1 + i - 1 = b + i by omega, m215 hct hI (by omega) (by omega), bI_i, e283_28, hF]
      cases y : (rws f (zdif (2 ^ S - 1) (oth a q ||| 0)) R).testBit (b + i) with
      | false =>
        rw [y, Bool.false_and] at eP
        rw [if_pos (show nI (if false = true then 1 else 0) = 0 from rfl), nI_add]
        exact ih (no eP)
      | true =>
        rw [y, Bool.true_and] at eP
        rw [if_neg (show ¬ nI (if true = true then 1 else 0) = 0 by decide), if_pos (ak_60 (by omega)), nI_clamp (by omega), hW (b + 1 + i) (by omega) (by omega)]
        rw [show b + i + 1 = b + 1 + i by omega] at eP
        cases w : W (b + 1 + i) with
        | false =>
          rw [w] at eP
          rw [if_pos (show nI (if false = true then 1 else 0) = 0 from rfl), yes eP]
        | true =>
          rw [w] at eP
          rw [if_neg (show ¬ nI (if true = true then 1 else 0) = 0 by decide), nI_add]
          exact ih (no eP)
theorem m283 {q k b : Nat} {W : Nat → Bool} (hct : zCt R S f g) (hI : mCt I R S f g) (ho : oth a q < 65536) (hb : b ≤ R) (hk : k ≤ 100) (hW : ∀ x, b < x → x ≤ R → I 60 x = nI (if W x = true then 1 else 0)) : cal d 283 [.ref 36, .int (nI b), .int (nI k), .int (nI (oth a q))] (I, L, rR ru dr sr rd rl, 65, x) = some (some (.int (nI (dto R (rws f (zdif (2 ^ S - 1) (oth a q ||| 0)) R) k W b))), (I, L, rR ru dr sr rd rl, 65, x)) := by
  rw [k283, nI_add]
  exact l283 hct hI ho hb hk hW (dfr R k b) 0 (by omega) (fun j hj => absurd hj (Nat.not_lt_zero _))
theorem l284 {q k : Nat} (hct : zCt R S f g) (ho : oth a q < 65536) (hk : k ≤ 100) : ∀ b (I : Nat → Nat → Int32), b ≤ R → mCt I R S f g → (∀ x, b < x → x ≤ R → I 60 x = nI (if dwn R (rws f (zdif (2 ^ S - 1) (oth a q ||| 0)) R) k (R - b) x = true then 1 else 0)) → ∃ I', res d 284 23 [.ref 36, .int (nI q), .int (nI k), .int (nI (oth a q)), .int (nI b)] [] (I, L, rR ru dr sr rd rl, 65, x) = res d 284 45 [.ref 36, .int (nI q), .int (nI k), .int (nI (oth a q)), .int (nI 0)] [.int (nI (dto R (rws f (zdif (2 ^ S - 1) (oth a q ||| 0)) R) k (dwn R (rws f (zdif (2 ^ S - 1) (oth a q ||| 0)) R) k R) 0))] (I', L, rR ru dr sr rd rl, 65, x) ∧ fM [60] [] I I'
  | 0, I, hb, hI, hW => by
    refine ⟨I, ?_, fM.rf⟩
    rw [l284_23, if_pos (by decide), m283 hct hI ho (Nat.zero_le _) hk hW, bI_i]
    rfl
  | b + 1, I, hb, hI, hW => by
    have hR := hct.2.1
    have ed : dwn R (rws f (zdif (2 ^ S - 1) (oth a q ||| 0)) R) k (R - b) = zset (dwn R (rws f (zdif (2 ^ S - 1) (oth a q ||| 0)) R) k (R - (b + 1))) (b + 1) (decide (0 < dto R (rws f (zdif (2 ^ S - 1) (oth a q ||| 0)) R) k (dwn R (rws f (zdif (2 ^ S - 1) (oth a q ||| 0)) R) k (R - (b + 1))) (b + 1))) := by
      have : dwn R (rws f (zdif (2 ^ S - 1) (oth a q ||| 0)) R) k (R - (b + 1) + 1) = zset (dwn R (rws f (zdif (2 ^ S - 1) (oth a q ||| 0)) R) k (R - (b + 1))) (R - (R - (b + 1))) (decide (0 < dto R (rws f (zdif (2 ^ S - 1) (oth a q ||| 0)) R) k (dwn R (rws f (zdif (2 ^ S - 1) (oth a q ||| 0)) R) k (R - (b + 1))) (R - (R - (b + 1))))) := rfl
      rw [show R - (R - (b + 1)) = b + 1 by omega, show R - (b + 1) + 1 = R - b by omega] at this
      exact this
    have hdl := dto_le R (rws f (zdif (2 ^ S - 1) (oth a q ||| 0)) R) k (dwn R (rws f (zdif (2 ^ S - 1) (oth a q ||| 0)) R) k (R - (b + 1))) (b + 1)
    have hup : ∀ w : Nat, w = (if decide (0 < dto R (rws f (zdif (2 ^ S - 1) (oth a q ||| 0)) R) k (dwn R (rws f (zdif (2 ^ S - 1) (oth a q ||| 0)) R) k (R - (b + 1))) (b + 1)) = true then 1 else 0) → ∃ I', res d 284 23 [.ref 36, .int (nI q), .int (nI k), .int (nI (oth a q)), .int (nI b)] [] (zup I 60 (b + 1) (nI w), L, rR ru dr sr rd rl, 65, x) = res d 284 45 [.ref 36, .int (nI q), .int (nI k), .int (nI (oth a q)), .int (nI 0)] [.int (nI (dto R (rws f (zdif (2 ^ S - 1) (oth a q ||| 0)) R) k (dwn R (rws f (zdif (2 ^ S - 1) (oth a q ||| 0)) R) k R) 0))] (I', L, rR ru dr sr rd rl, 65, x) ∧ fM [60] [] I I' := fun w hw' => by
      have f1 : fM [60] [] I (zup I 60 (b + 1) (nI w)) := fM.up (Or.inl (by decide)) (by decide)
      obtain ⟨I2, e2, f2⟩ := l284 hct ho hk b (zup I 60 (b + 1) (nI w)) (by omega) (f1.ct hI (by decide)) (fun y h1 h2 => by
        rw [zup_v, ed]
        unfold zset
        by_cases z : y = b + 1
        · rw [if_pos z, if_pos z, hw']
        · rw [if_neg z, if_neg z]; exact hW y (by omega) h2)
      exact ⟨I2, e2, f1.tr f2⟩
    rw [l284_23, if_neg (by rw [nI_l0 (by omega)]; omega), m283 hct hI ho hb hk hW, bI_i, e284_33]
    by_cases z : 0 < dto R (rws f (zdif (2 ^ S - 1) (oth a q ||| 0)) R) k (dwn R (rws f (zdif (2 ^ S - 1) (oth a q ||| 0)) R) k (R - (b + 1))) (b + 1)
    · obtain ⟨I2, e2, f2⟩ := hup 1 (by rw [decide_eq_true z, if_pos rfl])
      refine ⟨I2, ?_, f2⟩
      rw [if_neg (by rw [nI_l0 (by omega)]; omega), if_pos zb1, if_pos (ak_60 (by omega)), nI_clamp (by omega), zsub1 (by omega), Nat.add_sub_cancel, e2]
    · obtain ⟨I2, e2, f2⟩ := hup 0 (by rw [decide_eq_false z, if_neg Bool.false_ne_true])
      refine ⟨I2, ?_, f2⟩
      rw [if_pos (by rw [nI_l0 (by omega)]; omega), if_pos zb0, if_pos (ak_60 (by omega)), nI_clamp (by omega), zsub1 (by omega), Nat.add_sub_cancel, e2]
theorem n284 {v w : Int32} (h : mInv I L rl T R S f g p a n t l u kp cl si rn rt) (hw : wInv R S f g p a T u kp) : ∃ I' L', cal d 284 [.ref 36, .int v, .int w] (I, L, rR ru dr sr rd rl, 65, x) = some (some (.int (drA R S f p a v w).1), (I', L', rR ru dr sr rd rl, 65, x)) ∧ mInv I' L' rl T R S f g p a n t ((drA R S f p a v w).2.getD l) u kp cl si rn rt := by
  obtain ⟨hI, hP, hA, hT, hO, hU, hK, hC, hS, hl, hR⟩ := h
  obtain ⟨hc, hw, hu, hk⟩ := hw
  have f0 : fM [] [] I (zup I 36 10 (nI 0)) := f10
  have hp := hw.1
  have hP0 := f0.fp hP (by decide)
  have hI0 := f0.ct hI (by decide)
  have hR8 := hc.2.1
  unfold drA
  rw [k284, m183 hP0 hp, bI_i, e284_6]
  cases z : inr p v with
  | none =>
    rw [if_pos (show nI (if (none : Option Nat).isSome = true then 1 else 0) = 0 from rfl)]
    exact ⟨_, L, rfl, ⟨f0.ct hI (by decide), f0.fp hP (by decide), f0.st hA (by decide) rfl, f0.tx hT (by decide), f0.to hO (by decide) rfl, f0.un hU (by decide), f0.kp' hK (by decide), f0.clu hC (by decide), f0.sig hS (by decide), hl, f0.rr hl hR (by decide)⟩⟩
  | some q =>
    obtain ⟨hq, rfl⟩ := inr_s (by omega) z
    rw [if_neg (show ¬ nI (if (some q).isSome = true then 1 else 0) = 0 by show ¬ nI 1 = 0; decide), m179l, bI_i, e284_11]
    cases y : inl 1 8 w with
    | none =>
      rw [if_pos (show nI (if (none : Option Nat).isSome = true then 1 else 0) = 0 from rfl)]
      exact ⟨_, L, rfl, ⟨f0.ct hI (by decide), f0.fp hP (by decide), f0.st hA (by decide) rfl, f0.tx hT (by decide), f0.to hO (by decide) rfl, f0.un hU (by decide), f0.kp' hK (by decide), f0.clu hC (by decide), f0.sig hS (by decide), hl, f0.rr hl hR (by decide)⟩⟩
    | some k =>
      obtain ⟨k1, k2, rfl⟩ := inl_s (by decide) (by decide) y
      obtain ⟨I1, e1, f1⟩ := l284 (d := d) (L := L) (ru := ru) (dr := dr) (sr := sr) (rd := rd) (rl := rl) (x := x) (a := a) (q := q) (k := k) hc (p16 hc.S16 (oth_lt hw q)) (by omega) R (zup I 36 10 (nI 0)) (Nat.le_refl _) hI0 (fun y h1 h2 => by omega)
      have hdl := dto_le R (rws f (zdif (2 ^ S - 1) (oth a q ||| 0)) R) k (dwn R (rws f (zdif (2 ^ S - 1) (oth a q ||| 0)) R) k R) 0
      rw [if_neg (show ¬ nI (if (some k).isSome = true then 1 else 0) = 0 by show ¬ nI 1 = 0; decide), m207 (Or.inl rfl) hP0 (f0.st hA (by decide) rfl) hw (by omega), bI_i, e284_19, hI0.1, e1, e284_45]
      dsimp only
      by_cases u' : dto R (rws f (zdif (2 ^ S - 1) (oth a q ||| 0)) R) k (dwn R (rws f (zdif (2 ^ S - 1) (oth a q ||| 0)) R) k R) 0 = 0
      · have ft : fM [60] [9] I (zup I1 36 9 (nI 0)) := (f0.mono (by decide) (by decide)).tr ((f1.mono (by decide) (by decide)).tr fM.f9)
        have hto : mTo (zup I1 36 9 (nI 0)) L [] := mTo.nil
        rw [if_pos (by rw [u']; decide), e284_57, if_pos (by rw [u']; decide), if_pos u']
        exact ⟨_, L, rfl, ⟨ft.ct hI (by decide), ft.fp hP (by decide), ft.st hA (by decide) rfl, ft.tx hT (by decide), hto, ft.un hU (by decide), ft.kp' hK (by decide), ft.clu hC (by decide), ft.sig hS (by decide), hl, ft.rr hl hR (by decide)⟩⟩
      · obtain ⟨I2, L2, e2, h2, f2, g2, -⟩ := mt1 (d := d) (I := I1) (L := L) (ru := ru) (dr := dr) (sr := sr) (rd := rd) (rl := rl) (x := x) (v := lN (dto R (rws f (zdif (2 ^ S - 1) (oth a q ||| 0)) R) k (dwn R (rws f (zdif (2 ^ S - 1) (oth a q ||| 0)) R) k R) 0 - 1))
        have ft : fM [60] [9] I I2 := (f0.mono (by decide) (by decide)).tr ((f1.mono (by decide) (by decide)).tr (f2.mono (by decide) (by decide)))
        have hto := h2
        rw [if_neg (by rw [nI_l0 (by omega)]; omega), zsub (by omega), nI_l (by omega), e2, bV_n, e284_57, if_neg (by rw [nI_l0 (by omega)]; omega), if_neg u']
        exact ⟨I2, L2, rfl, ⟨ft.ct hI (by decide), ft.fp hP (by decide), ft.st hA (by decide) rfl, ft.tx hT (by decide), hto, ft.un hU (by decide), ft.kp' hK (by decide), ft.clu hC (by decide), ft.sig hS (by decide), hl, ft.rr hl hR (by decide)⟩⟩
/-! chalk at rest -/
theorem m285 {x' y v : Nat} (hx : x' < 100) (hy : y < 100) (hv : v < 100) : cal d 285 [.int (nI x'), .int (nI y), .int (nI v)] (I, L, rR ru dr sr rd rl, 65, x) = some (some (.int (chW x' y v)), (I, L, rR ru dr sr rd rl, 65, x)) := by
  unfold chW
  rw [k285, nI_add]
  by_cases z : x' + y ≤ v
  · rw [if_pos (by rw [nI_leI (by omega) (by omega)]; exact z), if_pos z, e285_13]
    by_cases w : y ≤ x'
    · rw [if_pos (by rw [nI_leI (by omega) (by omega)]; exact w), if_pos w]
    · rw [if_neg (by rw [nI_leI (by omega) (by omega)]; exact w), if_neg w]
  · rw [if_neg (by rw [nI_leI (by omega) (by omega)]; exact z), if_neg z, e285_13]
    by_cases w : y ≤ x'
    · rw [if_pos (by rw [nI_leI (by omega) (by omega)]; exact w), if_pos w]
    · rw [if_neg (by rw [nI_leI (by omega) (by omega)]; exact w), if_neg w]
theorem l286 {x' y v : Nat} (hx : x' < 100) (hy : y < 100) (hv : v < 100) : ∀ n k, k + n = 10 → res d 286 2 [.int (nI x'), .int (nI y), .int (nI v), .int (nI k)] [] (I, L, rR ru dr sr rd rl, 65, x) = some (some (.int (nI (if alb (fun z => decide (chW z y v ≤ chW x' y v)) n k = true then 1 else 0))), (I, L, rR ru dr sr rd rl, 65, x))
  | 0, k, h => by rw [l286_2, if_pos (by rw [nI_ltI (by omega) (by omega)]; omega), if_pos zb1]; rfl
  | n + 1, k, h => by
    have ih := l286 hx hy hv n (k + 1) (by omega)
    rw [l286_2, if_neg (by rw [nI_ltI (by omega) (by omega)]; omega), m285 (by omega) hy hv, bI_i, e286_9, m285 hx hy hv, bI_i, e286_13]
    unfold alb
    by_cases z : chW k y v ≤ chW x' y v
    · rw [if_pos z, decide_eq_true z, Bool.true_and, nI_add]; exact ih
    · rw [if_neg z, decide_eq_false z, Bool.false_and, if_pos zb0, if_neg Bool.false_ne_true]
theorem m286 {x' y v : Nat} (hx : x' < 100) (hy : y < 100) (hv : v < 100) : cal d 286 [.int (nI x'), .int (nI y), .int (nI v)] (I, L, rR ru dr sr rd rl, 65, x) = some (some (.int (nI (if bch v x' y = true then 1 else 0))), (I, L, rR ru dr sr rd rl, 65, x)) := by
  rw [k286]
  exact l286 hx hy hv 10 0 (by omega)
theorem l287i {v b : Nat} (hv : v ≤ 18) (hb : b < 10) : ∀ j c (I : Nat → Nat → Int32) (L : Nat → Nat → Int64), c + j = 10 → mTo I L (gtl (rsP v) (fun k => k / 10) (fun k => k % 10) (10 * b + c)) → ∃ I' L', res d 287 22 [.ref 36, .int (nI v), .int (nI (fb_ct (rsP v) (10 * b + c))), .int (nI b), .int (nI c)] [] (I, L, rR ru dr sr rd rl, 65, x) = res d 287 17 [.ref 36, .int (nI v), .int (nI (fb_ct (rsP v) (10 * (b + 1)))), .int (nI (b + 1)), .int (nI 10)] [] (I', L', rR ru dr sr rd rl, 65, x) ∧ mTo I' L' (gtl (rsP v) (fun k => k / 10) (fun k => k % 10) (10 * (b + 1))) ∧ fM [] [9] I I'
  | 0, c, I, L, hc, hO => by
    have : c = 10 := by omega
    subst this
    exact ⟨I, L, by rw [l287_22, if_pos (by decide), nI_add, show 10 * (b + 1) = 10 * b + 10 by omega], by rw [show 10 * (b + 1) = 10 * b + 10 by omega]; exact hO, fM.rf⟩
  | j + 1, c, I, L, hc, hO => by
    have hct := fb_ct_le (rsP v) (10 * b + c)
    have e7 : (10 * b + c) / 10 = b := by omega
    have e8 : (10 * b + c) % 10 = c := by omega
    have eP : rsP v (10 * b + c) = (bch v b c && bch v c b) := by unfold rsP; rw [e7, e8]
    have ec : fb_ct (rsP v) (10 * b + (c + 1)) = fb_ct (rsP v) (10 * b + c) + if rsP v (10 * b + c) = true then 1 else 0 := rfl
    have eg : gtl (rsP v) (fun k => k / 10) (fun k => k % 10) (10 * b + (c + 1)) = if rsP v (10 * b + c) = true ∧ fb_ct (rsP v) (10 * b + c) = 0 then [lN ((10 * b + c) / 10), lN ((10 * b + c) % 10)] else gtl (rsP v) (fun k => k / 10) (fun k => k % 10) (10 * b + c) := rfl
    rw [e7, e8] at eg
    have hno : rsP v (10 * b + c) = false → ∃ I' L', res d 287 22 [.ref 36, .int (nI v), .int (nI (fb_ct (rsP v) (10 * b + c))), .int (nI b), .int (nI (c + 1))] [] (I, L, rR ru dr sr rd rl, 65, x) = res d 287 17 [.ref 36, .int (nI v), .int (nI (fb_ct (rsP v) (10 * (b + 1)))), .int (nI (b + 1)), .int (nI 10)] [] (I', L', rR ru dr sr rd rl, 65, x) ∧ mTo I' L' (gtl (rsP v) (fun k => k / 10) (fun k => k % 10) (10 * (b + 1))) ∧ fM [] [9] I I' := fun z => by
      rw [z, if_neg Bool.false_ne_true] at ec
      rw [z, if_neg (fun q => Bool.false_ne_true q.1)] at eg
      rw [← eg] at hO
      obtain ⟨I2, L2, e2, h2, f2⟩ := l287i hv hb j (c + 1) I L (by omega) hO
      rw [ec] at e2
      exact ⟨I2, L2, e2, h2, f2⟩
    rw [l287_22, if_neg (by rw [nI_ltI (by omega) (by omega)]; omega), m286 (by omega) (by omega) (by omega), bI_i, e287_29]
    cases z : bch v b c with
    | false =>
      rw [if_pos (show nI (if false = true then 1 else 0) = 0 from rfl), nI_add]
      exact hno (by rw [eP, z, Bool.false_and])
    | true =>
      rw [if_neg (show ¬ nI (if true = true then 1 else 0) = 0 by decide), m286 (by omega) (by omega) (by omega), bI_i, e287_34]
      cases z2 : bch v c b with
      | false =>
        rw [if_pos (show nI (if false = true then 1 else 0) = 0 from rfl), nI_add]
        exact hno (by rw [eP, z, z2, Bool.and_false])
      | true =>
        have hP : rsP v (10 * b + c) = true := by rw [eP, z, z2]; rfl
        rw [hP, if_pos rfl] at ec
        rw [if_neg (show ¬ nI (if true = true then 1 else 0) = 0 by decide)]
        by_cases y : fb_ct (rsP v) (10 * b + c) = 0
        · rw [hP, if_pos ⟨rfl, y⟩] at eg
          rw [gtl_nil y] at hO
          obtain ⟨I1, L1, e1, h1, f1, g1, -⟩ := m182 (d := d) (v := lN b) (ru := ru) (dr := dr) (sr := sr) (rd := rd) (rl := rl) (x := x) hO (by decide)
          obtain ⟨I3, L3, e3, h3, f3, g3, -⟩ := m182 (d := d) (v := lN c) (ru := ru) (dr := dr) (sr := sr) (rd := rd) (rl := rl) (x := x) h1 (show 1 < 8 by decide)
          have h3' : mTo I3 L3 (gtl (rsP v) (fun k => k / 10) (fun k => k % 10) (10 * b + (c + 1))) := by rw [eg]; exact h3
          obtain ⟨I2, L2, e2, h2, f2⟩ := l287i hv hb j (c + 1) I3 L3 (by omega) h3'
          refine ⟨I2, L2, ?_, h2, f1.tr (f3.tr f2)⟩
          rw [if_pos (by rw [y]; rfl), nI_l (by omega), e1, bV_n, e287_42, nI_l (by omega), e3, bV_n, e287_46, nI_add, nI_add]
          rw [ec] at e2
          exact e2
        · rw [hP, if_neg (fun q => y q.2)] at eg
          rw [← eg] at hO
          obtain ⟨I2, L2, e2, h2, f2⟩ := l287i hv hb j (c + 1) I L (by omega) hO
          refine ⟨I2, L2, ?_, h2, f2⟩
          rw [if_neg (by rw [nI_z (by omega)]; exact y), e287_46, nI_add, nI_add]
          rw [ec] at e2
          exact e2
theorem l287 {v : Nat} (hv : v ≤ 18) : ∀ j b (I : Nat → Nat → Int32) (L : Nat → Nat → Int64) (w4 : Value), b + j = 10 → mTo I L (gtl (rsP v) (fun k => k / 10) (fun k => k % 10) (10 * b)) → ∃ I' L', res d 287 17 [.ref 36, .int (nI v), .int (nI (fb_ct (rsP v) (10 * b))), .int (nI b), w4] [] (I, L, rR ru dr sr rd rl, 65, x) = some (some (.int (nI (fb_ct (rsP v) 100))), (I', L', rR ru dr sr rd rl, 65, x)) ∧ mTo I' L' (gtl (rsP v) (fun k => k / 10) (fun k => k % 10) 100) ∧ fM [] [9] I I'
  | 0, b, I, L, w4, hb, hO => by
    have : b = 10 := by omega
    subst this
    exact ⟨I, L, by rw [l287_17, if_pos (by decide)], hO, fM.rf⟩
  | j + 1, b, I, L, w4, hb, hO => by
    obtain ⟨I1, L1, e1, h1, f1⟩ := l287i (d := d) (ru := ru) (dr := dr) (sr := sr) (rd := rd) (rl := rl) (x := x) (b := b) hv (by omega) 10 0 I L (by omega) hO
    obtain ⟨I2, L2, e2, h2, f2⟩ := l287 hv j (b + 1) I1 L1 (.int (nI 10)) (by omega) h1
    refine ⟨I2, L2, ?_, h2, f1.tr f2⟩
    rw [Nat.add_zero] at e1
    rw [l287_17, if_neg (by rw [nI_ltI (by omega) (by omega)]; omega), e1, e2]
theorem n287 {v : Int32} (h : mInv I L rl T R S f g p a n t l u kp cl si rn rt) (hw : wInv R S f g p a T u kp) : ∃ I' L', cal d 287 [.ref 36, .int v] (I, L, rR ru dr sr rd rl, 65, x) = some (some (.int (rsA v).1), (I', L', rR ru dr sr rd rl, 65, x)) ∧ mInv I' L' rl T R S f g p a n t ((rsA v).2.getD l) u kp cl si rn rt := by
  obtain ⟨hI, hP, hA, hT, hO, hU, hK, hC, hS, hl, hR⟩ := h
  obtain ⟨hc, hw, hu, hk⟩ := hw
  have f0 : fM [] [] I (zup I 36 10 (nI 0)) := f10
  unfold rsA
  rw [k287, m179z (by decide), bI_i, e287_7]
  cases z : inr 19 v with
  | none =>
    rw [if_pos (show nI (if (none : Option Nat).isSome = true then 1 else 0) = 0 from rfl)]
    exact ⟨_, L, rfl, ⟨f0.ct hI (by decide), f0.fp hP (by decide), f0.st hA (by decide) rfl, f0.tx hT (by decide), f0.to hO (by decide) rfl, f0.un hU (by decide), f0.kp' hK (by decide), f0.clu hC (by decide), f0.sig hS (by decide), hl, f0.rr hl hR (by decide)⟩⟩
  | some k =>
    obtain ⟨hk19, rfl⟩ := inr_s (by decide) z
    obtain ⟨I2, L2, e2, h2, f2⟩ := l287 (d := d) (ru := ru) (dr := dr) (sr := sr) (rd := rd) (rl := rl) (x := x) (v := k) (by omega) 10 0 (zup (zup I 36 10 (nI 0)) 36 9 (nI 0)) L .null (by omega) mTo.nil
    have ft : fM [] [9] I I2 := (f0.mono (by decide) (by decide)).tr (fM.f9.tr f2)
    have hto := h2
    rw [show fb_ct (rsP k) (10 * 0) = 0 from rfl] at e2
    rw [if_neg (show ¬ nI (if (some k).isSome = true then 1 else 0) = 0 by show ¬ nI 1 = 0; decide), e2]
    exact ⟨I2, L2, rfl, ⟨ft.ct hI (by decide), ft.fp hP (by decide), ft.st hA (by decide) rfl, ft.tx hT (by decide), hto, ft.un hU (by decide), ft.kp' hK (by decide), ft.clu hC (by decide), ft.sig hS (by decide), hl, ft.rr hl hR (by decide)⟩⟩

end
