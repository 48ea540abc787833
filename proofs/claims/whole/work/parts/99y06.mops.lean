section
variable {I : Nat → Nat → Int32} {L : Nat → Nat → Int64} {ru dr : Nat} {sr : Nat → Option Nat} {rd : Option Nat} {rl x : Nat}
variable {d R S p n T rn : Nat} {f g rt : Nat → Nat} {a : zP} {t : Nat → Nat} {l : List Int64} {u : List zP} {kp : Nat → Option zP} {cl : List (Nat × Nat)} {si : List (Nat × Int32)} {cs : zC}

theorem l185s {k : Nat} {v : Int32} (hT : mTx I n t) (hn : n < 80) (hk : k ≤ 3) : ∃ I', res d 185 13 [.ref 36, .int v, .int (nI k)] [] (I, L, rR ru dr sr rd rl, 65, x) = res d 185 13 [.ref 36, .int v, .int (nI k + -(nI 1))] [] (I', L, rR ru dr sr rd rl, 65, x) ∧ mTx I' (n + 1) (zset t n (byt v (8 * k))) ∧ fM [40] [7] I I' := by
  refine ⟨zup (zup I 36 7 (nI (n + 1))) 40 n (nI (byt v (8 * k))).toInt8.toInt32, ?_, ?_, (fM.fld (Or.inl (by decide))).tr (fM.up (Or.inl (by decide)) (by decide))⟩
  · rw [l185_13, if_neg (nI_pos (by omega)), hT.1, if_pos (ak_40 hn), fb_byte_twice, zmul, byt_m8 v (by omega), nI_clamp (by omega), nI_add]
  · refine ⟨by rw [zup_ne _ _ _ (by decide), zup_v, if_pos rfl], by omega, fun j hj => ?_⟩
    rw [zup_v]
    by_cases z : j = n
    · rw [if_pos z, z, zset_self]; exact ⟨rfl, byt_lt v _⟩
    · rw [if_neg z, zset_ne _ _ z, zup_ne _ _ _ (by decide)]; exact hT.2.2 j (by omega)
theorem n185f {v : Int32} (h : mInv I L rl T R S f g p a n t l u kp cl si rn rt) (hw : wInv R S f g p a T u kp) (hn : 76 < n) : ∃ I', cal d 185 [.ref 36, .int v] (I, L, rR ru dr sr rd rl, 65, x) = some (some (.int (-(nI 1))), (I', L, rR ru dr sr rd rl, 65, x)) ∧ mInv I' L rl T R S f g p a n t l u kp cl si rn rt := by
  obtain ⟨hI, hP, hA, hT, hO, hU, hK, hC, hS, hl, hR⟩ := h
  obtain ⟨hc, hw, hu, hk⟩ := hw
  have hn8 := hT.2.1
  have f0 : fM [] [] I (zup I 36 10 (nI 0)) := f10
  have e7 : (zup I 36 10 (nI 0)) 36 7 = nI n := by rw [zup_v, if_neg (by decide)]; exact hT.1
  exact ⟨_, by rw [k185, e7, nI_add, if_neg (by rw [nI_leI (by omega) (by omega)]; omega)], ⟨f0.ct hI (by decide), f0.fp hP (by decide), f0.st hA (by decide) rfl, f0.tx hT (by decide), f0.to hO (by decide) rfl, f0.un hU (by decide), f0.kp' hK (by decide), f0.clu hC (by decide), f0.sig hS (by decide), hl, f0.rr hl hR (by decide)⟩⟩
theorem n185t {v : Int32} (h : mInv I L rl T R S f g p a n t l u kp cl si rn rt) (hw : wInv R S f g p a T u kp) (hn : n ≤ 76) : ∃ I', cal d 185 [.ref 36, .int v] (I, L, rR ru dr sr rd rl, 65, x) = some (some (.int (nI (n + 4))), (I', L, rR ru dr sr rd rl, 65, x)) ∧ mInv I' L rl T R S f g p a (n + 4) (tx4 t n v) l u kp cl si rn rt := by
  obtain ⟨hI, hP, hA, hT, hO, hU, hK, hC, hS, hl, hR⟩ := h
  obtain ⟨hc, hw, hu, hk⟩ := hw
  have f0 : fM [] [] I (zup I 36 10 (nI 0)) := f10
  have hT0 : mTx (zup I 36 10 (nI 0)) n t := f0.tx hT (by decide)
  obtain ⟨I1, e1, t1, g1⟩ := l185s (d := d) (v := v) (L := L) (ru := ru) (dr := dr) (sr := sr) (rd := rd) (rl := rl) (x := x) (k := 3) hT0 (by omega) (by omega)
  obtain ⟨I2, e2, t2, g2⟩ := l185s (d := d) (v := v) (L := L) (ru := ru) (dr := dr) (sr := sr) (rd := rd) (rl := rl) (x := x) (k := 2) t1 (by omega) (by omega)
  obtain ⟨I3, e3, t3, g3⟩ := l185s (d := d) (v := v) (L := L) (ru := ru) (dr := dr) (sr := sr) (rd := rd) (rl := rl) (x := x) (k := 1) t2 (by omega) (by omega)
  obtain ⟨I4, e4, t4, g4⟩ := l185s (d := d) (v := v) (L := L) (ru := ru) (dr := dr) (sr := sr) (rd := rd) (rl := rl) (x := x) (k := 0) t3 (by omega) (by omega)
  have f1 : fM [40] [7] I I4 := (show fM [40] [7] I (zup I 36 10 (nI 0)) from f10).tr (g1.tr (g2.tr (g3.tr g4)))
  refine ⟨I4, ?_, ⟨f1.ct hI (by decide), f1.fp hP (by decide), f1.st hA (by decide) rfl, t4, f1.to hO (by decide) rfl, f1.un hU (by decide), f1.kp' hK (by decide), f1.clu hC (by decide), f1.sig hS (by decide), hl, f1.rr hl hR (by decide)⟩⟩
  have e7 : (zup I 36 10 (nI 0)) 36 7 = nI n := hT0.1
  rw [k185, e7, nI_add, if_pos (by rw [nI_leI (by omega) (by omega)]; omega), e1, zsub1 (by decide), e2, zsub1 (by decide), e3, zsub1 (by decide), e4, l185_13, if_pos (by decide), t4.1]
theorem n186t {k : Nat} (h : mInv I L rl T R S f g p a n t l u kp cl si rn rt) (hw : wInv R S f g p a T u kp) (hkn : k ≤ n) : ∃ I', cal d 186 [.ref 36, .int (nI k)] (I, L, rR ru dr sr rd rl, 65, x) = some (some (.int (nI 1)), (I', L, rR ru dr sr rd rl, 65, x)) ∧ mInv I' L rl T R S f g p a k t l u kp cl si rn rt := by
  obtain ⟨hI, hP, hA, hT, hO, hU, hK, hC, hS, hl, hR⟩ := h
  obtain ⟨hc, hw, hu, hk⟩ := hw
  have hn8 := hT.2.1
  have f0 : fM [] [] I (zup I 36 10 (nI 0)) := f10
  have e7 : (zup I 36 10 (nI 0)) 36 7 = nI n := by rw [zup_v, if_neg (by decide)]; exact hT.1
  have f1 : fM [] [7] I (zup (zup I 36 10 (nI 0)) 36 7 (nI k)) := f10.tr (fM.fld (Or.inl (by decide)))
  refine ⟨_, ?_, ⟨f1.ct hI (by decide), f1.fp hP (by decide), f1.st hA (by decide) rfl, ⟨by rw [zup_v, if_pos rfl], by omega, fun j hj => by rw [zup_ne _ _ _ (by decide), zup_ne _ _ _ (by decide)]; exact hT.2.2 j (by omega)⟩, f1.to hO (by decide) rfl, f1.un hU (by decide), f1.kp' hK (by decide), f1.clu hC (by decide), f1.sig hS (by decide), hl, f1.rr hl hR (by decide)⟩⟩
  · rw [k186, e7, m179z (by omega), bI_i, e186_8, inr_k (by omega) (show k < n + 1 by omega), if_neg (show ¬ nI (if (some k).isSome = true then 1 else 0) = 0 by show ¬ nI 1 = 0; decide), if_pos zb1]
theorem n186f {v : Int32} (h : mInv I L rl T R S f g p a n t l u kp cl si rn rt) (hw : wInv R S f g p a T u kp) (hv : ∀ k, k ≤ n → v ≠ nI k) : ∃ I', cal d 186 [.ref 36, .int v] (I, L, rR ru dr sr rd rl, 65, x) = some (some (.int (nI 0)), (I', L, rR ru dr sr rd rl, 65, x)) ∧ mInv I' L rl T R S f g p a n t l u kp cl si rn rt := by
  obtain ⟨hI, hP, hA, hT, hO, hU, hK, hC, hS, hl, hR⟩ := h
  obtain ⟨hc, hw, hu, hk⟩ := hw
  have hn8 := hT.2.1
  have f0 : fM [] [] I (zup I 36 10 (nI 0)) := f10
  have e7 : (zup I 36 10 (nI 0)) 36 7 = nI n := by rw [zup_v, if_neg (by decide)]; exact hT.1
  have ez : inr (n + 1) v = none := by
    cases z : inr (n + 1) v with
    | none => rfl
    | some k =>
      obtain ⟨h1, h2⟩ := inr_s (by omega) z
      exact absurd h2 (hv k (by omega))
  exact ⟨_, by rw [k186, e7, m179z (by omega), bI_i, e186_8, ez, if_pos (show nI (if (none : Option Nat).isSome = true then 1 else 0) = 0 from rfl), if_pos zb0], ⟨f0.ct hI (by decide), f0.fp hP (by decide), f0.st hA (by decide) rfl, f0.tx hT (by decide), f0.to hO (by decide) rfl, f0.un hU (by decide), f0.kp' hK (by decide), f0.clu hC (by decide), f0.sig hS (by decide), hl, f0.rr hl hR (by decide)⟩⟩
/-! undo, keep, again -/
theorem l240 {m : Nat} {b : zP} (hm : m ≤ 11) : ∀ j k (I : Nat → Nat → Int32), k + j = 26 → I 36 27 = nI m → (∀ i, i < 26 → I 50 (26 * m + i) = nI (b i)) → (∀ i, i < k → I 37 i = nI (b i)) → ∃ I', res d 240 16 [.ref 36, .int (nI k)] [] (I, L, rR ru dr sr rd rl, 65, x) = some (some (.int (nI m)), (I', L, rR ru dr sr rd rl, 65, x)) ∧ mSt I' 37 b ∧ ∀ c, c ≠ 37 → I' c = I c
  | 0, k, I, hk, h1, h2, h3 => ⟨I, by rw [l240_16, if_pos (by rw [nI_leI (by omega) (by omega)]; omega), h1], fun i hi => h3 i (by omega), fun _ _ => rfl⟩
  | j + 1, k, I, hk, h1, h2, h3 => by
    obtain ⟨I', e, q1, q2⟩ := l240 hm j (k + 1) (zup I 37 k (nI (b k))) (by omega) (by rw [zup_ne _ _ _ (by decide)]; exact h1) (fun i hi => by rw [zup_ne _ _ _ (by decide)]; exact h2 i hi) (fun i hi => by
      rw [zup_v]
      by_cases z : i = k
      · rw [if_pos z, z]
      · rw [if_neg z]; exact h3 i (by omega))
    refine ⟨I', ?_, q1, fun c hc => by rw [q2 c hc, zup_ne _ _ _ hc]⟩
    rw [l240_16, if_neg (by rw [nI_leI (by omega) (by omega)]; omega), h1, zmul, nI_add, if_pos (ak_50 (by omega)), if_pos (ak_37 (by omega)), nI_clamp (by omega), nI_clamp (by omega), h2 k (by omega), nI_add]
    exact e
theorem n240f (h : mInv I L rl T R S f g p a n t l [] kp cl si rn rt) : ∃ I', cal d 240 [.ref 36] (I, L, rR ru dr sr rd rl, 65, x) = some (some (.int (-(nI 1))), (I', L, rR ru dr sr rd rl, 65, x)) ∧ mInv I' L rl T R S f g p a n t l [] kp cl si rn rt := by
  obtain ⟨hI, hP, hA, hT, hO, hU, hK, hC, hS, hl, hR⟩ := h
  have f0 : fM [] [] I (zup I 36 10 (nI 0)) := f10
  have e27 : (zup I 36 10 (nI 0)) 36 27 = nI 0 := by rw [zup_v, if_neg (by decide)]; exact hU.1
  exact ⟨_, by rw [k240, e27, if_pos (show nI 0 = 0 from rfl)], ⟨f0.ct hI (by decide), f0.fp hP (by decide), f0.st hA (by decide) rfl, f0.tx hT (by decide), f0.to hO (by decide) rfl, f0.un hU (by decide), f0.kp' hK (by decide), f0.clu hC (by decide), f0.sig hS (by decide), hl, f0.rr hl hR (by decide)⟩⟩
theorem n240t {b : zP} (h : mInv I L rl T R S f g p a n t l (b :: u) kp cl si rn rt) : ∃ I', cal d 240 [.ref 36] (I, L, rR ru dr sr rd rl, 65, x) = some (some (.int (nI u.length)), (I', L, rR ru dr sr rd rl, 65, x)) ∧ mInv I' L rl T R S f g p b n t l u kp cl si rn rt := by
  obtain ⟨hI, hP, hA, hT, hO, hU, hK, hC, hS, hl, hR⟩ := h
  obtain ⟨u1, u2, u3⟩ := hU
  have u1' : I 36 27 = nI (u.length + 1) := u1
  have u2' : u.length + 1 ≤ 12 := u2
  have f0 : fM [] [] I (zup I 36 10 (nI 0)) := f10
  have e27 : (zup I 36 10 (nI 0)) 36 27 = nI (u.length + 1) := by rw [zup_v, if_neg (by decide)]; exact u1'
  have f1 : fM [] [27] I (zup (zup I 36 10 (nI 0)) 36 27 (nI u.length)) := f10.tr (fM.fld (Or.inl (by decide)))
  have c50 : (zup (zup I 36 10 (nI 0)) 36 27 (nI u.length)) 50 = I 50 := by rw [zup_ne _ _ _ (by decide), zup_ne _ _ _ (by decide)]
  obtain ⟨I2, e2, q1, q2⟩ := l240 (d := d) (L := L) (ru := ru) (dr := dr) (sr := sr) (rd := rd) (rl := rl) (x := x) (b := b) (m := u.length) (by omega) 26 0 (zup (zup I 36 10 (nI 0)) 36 27 (nI u.length)) (by omega) (by rw [zup_v, if_pos rfl]) (fun i hi => by
    have h0 := u3 0 b rfl i hi
    rw [show (b :: u).length - 1 - 0 = u.length from rfl] at h0
    rw [c50]
    exact h0) (fun i hi => absurd hi (Nat.not_lt_zero _))
  have f2 : fM [37] [27] I I2 := (f1.mono (by decide) (by decide)).tr ⟨fun c hc _ => q2 c (fun q => hc (List.mem_singleton.mpr q)), fun k _ _ => by rw [q2 36 (by decide)]⟩
  have hU2 : mUn I2 u := ⟨by rw [q2 36 (by decide), zup_v, if_pos rfl], by omega, fun i b' hb k hk => by
    have hi : i < u.length := (List.getElem?_eq_some_iff.mp hb).1
    have h0 := u3 (i + 1) b' hb k hk
    rw [show (b :: u).length - 1 - (i + 1) = u.length - 1 - i by show u.length + 1 - 1 - (i + 1) = _; omega] at h0
    rw [q2 50 (by decide), c50]
    exact h0⟩
  exact ⟨I2, by rw [k240, e27, if_neg (by rw [nI_z (by omega)]; omega), zsub (by omega), Nat.add_sub_cancel, e2], ⟨f2.ct hI (by decide), f2.fp hP (by decide), q1, f2.tx hT (by decide), f2.to hO (by decide) rfl, hU2, f2.kp' hK (by decide), f2.clu hC (by decide), f2.sig hS (by decide), hl, f2.rr hl hR (by decide)⟩⟩
theorem n292t {i : Nat} (h : mInv I L rl T R S f g p a n t l u kp cl si rn rt) (hw : wInv R S f g p a T u kp) (hi : i < 2) : ∃ I', cal d 292 [.ref 36, .int (nI i)] (I, L, rR ru dr sr rd rl, 65, x) = some (some (.int (nI 1)), (I', L, rR ru dr sr rd rl, 65, x)) ∧ mInv I' L rl T R S f g p a n t l u (zset kp i (some a)) cl si rn rt := by
  obtain ⟨hI, hP, hA, hT, hO, hU, hK, hC, hS, hl, hR⟩ := h
  obtain ⟨hc, hw, hu, hk⟩ := hw
  have f0 : fM [] [] I (zup I 36 10 (nI 0)) := f10
  obtain ⟨cm, k1, k2, k3⟩ := hK
  have hA0 : mSt (zup (zup (zup I 36 10 (nI 0)) 62 i (nI 1)) 63 i (nI cm)) 37 a := ((f0.st hA (by decide) rfl).congr (zup_ne _ _ _ (by decide))).congr (zup_ne _ _ _ (by decide))
  obtain ⟨I2, e2, q1, q2, q3⟩ := m221 (d := d) (L := L) (ru := ru) (dr := dr) (sr := sr) (rd := rd) (rl := rl) (x := x) (c0 := 37) (c1 := 61) (o := 26 * i) (fun k hk => ak_37 hk) (fun k hk => ak_61 (by omega)) (by omega) (by decide) hA0
  have e42 : (zup (zup I 36 10 (nI 0)) 62 i (nI 1)) 36 42 = nI cm := by rw [zup_ne _ _ _ (by decide), zup_v, if_neg (by decide)]; exact k2
  have f1 : fM [61, 62, 63] [] I (zup (zup (zup I 36 10 (nI 0)) 62 i (nI 1)) 63 i (nI cm)) := f10.tr ((fM.up (Or.inl (by decide)) (by decide)).tr (fM.up (Or.inl (by decide)) (by decide)))
  have f2 : fM [61, 62, 63] [] I I2 := f1.tr ⟨fun c hc _ => q3 c (fun q => hc (by rw [q]; decide)), fun k _ _ => by rw [q3 36 (by decide)]⟩
  have c62 : ∀ j, I2 62 j = if j = i then nI 1 else I 62 j := fun j => by rw [q3 62 (by decide), zup_ne _ _ _ (by decide), zup_v, zup_ne _ _ _ (by decide)]
  have c63 : ∀ j, I2 63 j = if j = i then nI cm else I 63 j := fun j => by rw [q3 63 (by decide), zup_v, zup_ne _ _ _ (by decide), zup_ne _ _ _ (by decide)]
  have hK2 : mKp I2 T (zset kp i (some a)) := by
    refine ⟨cm, k1, by rw [f2.2 42 (by decide) rfl]; exact k2, fun j hj => ?_⟩
    rw [c62, c63]
    by_cases z : j = i
    · rw [if_pos z, if_pos z, z, zset_self]
      exact ⟨fun q => (by cases q), fun b q => by cases q; exact ⟨rfl, rfl, fun k hk => q1 k hk⟩⟩
    · rw [if_neg z, if_neg z, zset_ne _ _ z]
      refine ⟨(k3 j hj).1, fun b q => ?_⟩
      obtain ⟨r1, r2, r3⟩ := (k3 j hj).2 b q
      refine ⟨r1, r2, fun k hk => ?_⟩
      rw [q2 _ (by omega), zup_ne _ _ _ (by decide), zup_ne _ _ _ (by decide), zup_ne _ _ _ (by decide)]
      exact r3 k hk
  have e421 : (zup I 36 10 (nI 0)) 36 42 = nI cm := by rw [zup_v, if_neg (by decide)]; exact k2
  refine ⟨I2, ?_, ⟨f2.ct hI (by decide), f2.fp hP (by decide), f2.st hA (by decide) rfl, f2.tx hT (by decide), f2.to hO (by decide) rfl, f2.un hU (by decide), hK2, f2.clu hC (by decide), f2.sig hS (by decide), hl, f2.rr hl hR (by decide)⟩⟩
  rw [k292, show nI 1 = nI 1 from rfl, m179z (by decide), bI_i, inr_k (by decide) (show i < 1 + 1 by omega), e292_7, if_neg (show ¬ nI (if (some i).isSome = true then 1 else 0) = 0 by show ¬ nI 1 = 0; decide), if_pos zb1, if_pos (ak_62 hi), if_pos (ak_63 hi), e421, zmul, nI_clamp (by omega), e2, bV_n, e292_29, if_pos zb1]
theorem inr2 {v : Int32} (hv : ∀ k, k < 2 → v ≠ nI k) : inr (1 + 1) v = none := by
  cases z : inr (1 + 1) v with
  | none => rfl
  | some k =>
    obtain ⟨h1, h2⟩ := inr_s (by decide) z
    exact absurd h2 (hv k h1)
theorem n292f {v : Int32} (h : mInv I L rl T R S f g p a n t l u kp cl si rn rt) (hw : wInv R S f g p a T u kp) (hv : ∀ k, k < 2 → v ≠ nI k) : ∃ I', cal d 292 [.ref 36, .int v] (I, L, rR ru dr sr rd rl, 65, x) = some (some (.int (nI 0)), (I', L, rR ru dr sr rd rl, 65, x)) ∧ mInv I' L rl T R S f g p a n t l u kp cl si rn rt := by
  obtain ⟨hI, hP, hA, hT, hO, hU, hK, hC, hS, hl, hR⟩ := h
  obtain ⟨hc, hw, hu, hk⟩ := hw
  have f0 : fM [] [] I (zup I 36 10 (nI 0)) := f10
  exact ⟨_, by rw [k292, m179z (by decide), bI_i, inr2 hv, e292_7, if_pos (show nI (if (none : Option Nat).isSome = true then 1 else 0) = 0 from rfl), if_pos zb0], ⟨f0.ct hI (by decide), f0.fp hP (by decide), f0.st hA (by decide) rfl, f0.tx hT (by decide), f0.to hO (by decide) rfl, f0.un hU (by decide), f0.kp' hK (by decide), f0.clu hC (by decide), f0.sig hS (by decide), hl, f0.rr hl hR (by decide)⟩⟩
theorem l293 {i : Nat} {b : zP} (hi : i < 2) : ∀ j k (I : Nat → Nat → Int32), k + j = 26 → (∀ m, m < 26 → I 61 (26 * i + m) = nI (b m)) → (∀ m, m < k → I 37 m = nI (b m)) → ∃ I', res d 293 24 [.ref 36, .int (nI i), .int (nI k)] [] (I, L, rR ru dr sr rd rl, 65, x) = some (some (.int (nI 1)), (zup I' 36 27 (nI 0), L, rR ru dr sr rd rl, 65, x)) ∧ mSt I' 37 b ∧ ∀ c, c ≠ 37 → I' c = I c
  | 0, k, I, hk, h2, h3 => ⟨I, by rw [l293_24, if_pos (by rw [nI_leI (by omega) (by omega)]; omega), if_pos zb1], fun m hm => h3 m (by omega), fun _ _ => rfl⟩
  | j + 1, k, I, hk, h2, h3 => by
    obtain ⟨I', e, q1, q2⟩ := l293 hi j (k + 1) (zup I 37 k (nI (b k))) (by omega) (fun m hm => by rw [zup_ne _ _ _ (by decide)]; exact h2 m hm) (fun m hm => by
      rw [zup_v]
      by_cases z : m = k
      · rw [if_pos z, z]
      · rw [if_neg z]; exact h3 m (by omega))
    refine ⟨I', ?_, q1, fun c hc => by rw [q2 c hc, zup_ne _ _ _ hc]⟩
    rw [l293_24, if_neg (by rw [nI_leI (by omega) (by omega)]; omega), zmul, nI_add, if_pos (ak_61 (by omega)), if_pos (ak_37 (by omega)), nI_clamp (by omega), nI_clamp (by omega), h2 k (by omega), nI_add]
    exact e
theorem n293t {i : Nat} {b : zP} (h : mInv I L rl T R S f g p a n t l u kp cl si rn rt) (hw : wInv R S f g p a T u kp) (hi : i < 2) (hb : kp i = some b) : ∃ I', cal d 293 [.ref 36, .int (nI i)] (I, L, rR ru dr sr rd rl, 65, x) = some (some (.int (nI 1)), (I', L, rR ru dr sr rd rl, 65, x)) ∧ mInv I' L rl T R S f g p b n t l [] kp cl si rn rt := by
  obtain ⟨hI, hP, hA, hT, hO, hU, hK, hC, hS, hl, hR⟩ := h
  obtain ⟨hc, hw, hu, hk⟩ := hw
  have f0 : fM [] [] I (zup I 36 10 (nI 0)) := f10
  have hK0 := hK
  obtain ⟨cm, k1, k2, k3⟩ := hK
  obtain ⟨r1, r2, r3⟩ := (k3 i hi).2 b hb
  obtain ⟨I2, e2, q1, q2⟩ := l293 (d := d) (L := L) (ru := ru) (dr := dr) (sr := sr) (rd := rd) (rl := rl) (x := x) (b := b) hi 26 0 (zup I 36 10 (nI 0)) (by omega) (fun m hm => by rw [zup_ne _ _ _ (by decide)]; exact r3 m hm) (fun m hm => absurd hm (Nat.not_lt_zero _))
  have f2 : fM [37] [27] I (zup I2 36 27 (nI 0)) := (show fM [37] [27] I (zup I 36 10 (nI 0)) from f10).tr ((show fM [37] [27] _ I2 from ⟨fun c hc _ => q2 c (fun q => hc (List.mem_singleton.mpr q)), fun k _ _ => by rw [q2 36 (by decide)]⟩).tr (fM.fld (Or.inl (by decide))))
  have hU2 : mUn (zup I2 36 27 (nI 0)) [] := ⟨by rw [zup_v, if_pos rfl]; rfl, by decide, fun i b' hb => by cases hb⟩
  refine ⟨_, ?_, ⟨f2.ct hI (by decide), f2.fp hP (by decide), fun k hk' => by rw [zup_ne _ _ _ (by decide)]; exact q1 k hk', f2.tx hT (by decide), f2.to hO (by decide) rfl, hU2, f2.kp' hK0 (by decide), f2.clu hC (by decide), f2.sig hS (by decide), hl, f2.rr hl hR (by decide)⟩⟩
  rw [k293, m179z (by decide), bI_i, inr_k (by decide) (show i < 1 + 1 by omega), e293_7, if_neg (show ¬ nI (if (some i).isSome = true then 1 else 0) = 0 by show ¬ nI 1 = 0; decide), if_pos (ak_62 hi), nI_clamp (by omega), zup_ne _ _ _ (show 62 ≠ 36 by decide), r1, if_neg (by decide), if_pos (ak_63 hi), zup_ne _ _ _ (show 63 ≠ 36 by decide), r2, zup_v, if_neg (show ¬ 42 = 10 by decide), k2, if_pos rfl, e2]
theorem n293f {v : Int32} (h : mInv I L rl T R S f g p a n t l u kp cl si rn rt) (hw : wInv R S f g p a T u kp) (hv : ∀ k, k < 2 → v = nI k → kp k = none) : ∃ I', cal d 293 [.ref 36, .int v] (I, L, rR ru dr sr rd rl, 65, x) = some (some (.int (nI 0)), (I', L, rR ru dr sr rd rl, 65, x)) ∧ mInv I' L rl T R S f g p a n t l u kp cl si rn rt := by
  obtain ⟨hI, hP, hA, hT, hO, hU, hK, hC, hS, hl, hR⟩ := h
  obtain ⟨hc, hw, hu, hk⟩ := hw
  have f0 : fM [] [] I (zup I 36 10 (nI 0)) := f10
  have hT24 := hw.2.2.2.2.2.1
  refine ⟨_, ?_, ⟨f0.ct hI (by decide), f0.fp hP (by decide), f0.st hA (by decide) rfl, f0.tx hT (by decide), f0.to hO (by decide) rfl, f0.un hU (by decide), f0.kp' hK (by decide), f0.clu hC (by decide), f0.sig hS (by decide), hl, f0.rr hl hR (by decide)⟩⟩
  rw [k293, m179z (by decide), bI_i, e293_7]
  cases z : inr (1 + 1) v with
  | none => rw [if_pos (show nI (if (none : Option Nat).isSome = true then 1 else 0) = 0 from rfl), if_pos zb0]
  | some k =>
    obtain ⟨h1, rfl⟩ := inr_s (by decide) z
    obtain ⟨cm, k1, k2, k3⟩ := hK
    rw [if_neg (show ¬ nI (if (some k).isSome = true then 1 else 0) = 0 by show ¬ nI 1 = 0; decide), if_pos (ak_62 h1), nI_clamp (by omega), zup_ne _ _ _ (show 62 ≠ 36 by decide)]
    rcases (k3 k h1).1 (hv k h1 rfl) with r | ⟨r, c, hc', r2⟩
    · rw [r, if_pos (show nI 0 = 0 from rfl), if_pos zb0]
    · rw [r, if_neg (by decide), if_pos (ak_63 h1), zup_ne _ _ _ (show 63 ≠ 36 by decide), r2, zup_v, if_neg (show ¬ 42 = 10 by decide), k2, if_neg (by rw [nI_eq (by omega) (by omega)]; omega), if_pos zb0]
/-! clues, sights -/
theorem n266f {v w : Int32} (h : mInv I L rl T R S f g p a n t l u kp cl si rn rt) (hw : wInv R S f g p a T u kp) (he : hrd cl v w = none) : ∃ I', cal d 266 [.ref 36, .int v, .int w] (I, L, rR ru dr sr rd rl, 65, x) = some (some (.int (-(nI 1))), (I', L, rR ru dr sr rd rl, 65, x)) ∧ mInv I' L rl T R S f g p a n t l u kp cl si rn rt := by
  obtain ⟨hI, hP, hA, hT, hO, hU, hK, hC, hS, hl, hR⟩ := h
  obtain ⟨hc, hw, hu, hk⟩ := hw
  have f0 : fM [] [] I (zup I 36 10 (nI 0)) := f10
  have hl12 := hC.2.1
  have e35 : (zup I 36 10 (nI 0)) 36 35 = nI cl.length := by rw [zup_v, if_neg (by decide)]; exact hC.1
  refine ⟨_, ?_, ⟨f0.ct hI (by decide), f0.fp hP (by decide), f0.st hA (by decide) rfl, f0.tx hT (by decide), f0.to hO (by decide) rfl, f0.un hU (by decide), f0.kp' hK (by decide), f0.clu hC (by decide), f0.sig hS (by decide), hl, f0.rr hl hR (by decide)⟩⟩
  rw [k266, m179z (by decide), bI_i, e266_7]
  unfold hrd at he
  cases z : inr (4 + 1) v with
  | none => rw [if_pos (show nI (if (none : Option Nat).isSome = true then 1 else 0) = 0 from rfl)]
  | some k =>
    obtain ⟨h1, rfl⟩ := inr_s (by decide) z
    rw [if_neg (show ¬ nI (if (some k).isSome = true then 1 else 0) = 0 by show ¬ nI 1 = 0; decide), show cal d 264 [.int (nI k)] (zup I 36 10 (nI 0), L, rR ru dr sr rd rl, 65, x) = some (some (.int (nI (lo k))), (zup I 36 10 (nI 0), L, rR ru dr sr rd rl, 65, x)) from (by
      rw [k264]
      unfold lo
      by_cases q : k = 0
      · rw [if_pos ((nI_z (by omega)).mpr q), if_pos q]
      · rw [if_neg (fun q' => q ((nI_z (by omega)).mp q')), if_neg q]), bI_i, e266_11, show cal d 265 [.int (nI k)] (zup I 36 10 (nI 0), L, rR ru dr sr rd rl, 65, x) = some (some (.int (nI (hi k))), (zup I 36 10 (nI 0), L, rR ru dr sr rd rl, 65, x)) from (by
      rw [k265]
      unfold hi
      by_cases q : k = 0
      · rw [if_pos ((nI_z (by omega)).mpr q), if_pos q]
      · rw [if_neg (fun q' => q ((nI_z (by omega)).mp q')), if_neg q]
        by_cases q2 : k = 3
        · rw [if_pos ((nI_eq (by omega) (by omega)).mpr q2), if_pos q2]
        · rw [if_neg (fun q' => q2 ((nI_eq (by omega) (by omega)).mp q')), if_neg q2]), bI_i, e266_13]
    by_cases y : nI (lo k) ≤ w ∧ w ≤ nI (hi k)
    · rw [m179t y, bI_i, e266_14, if_neg (by decide), e35, if_pos]
      by_cases q : cl.length < 12
      · rw [if_pos ⟨q, nI_pos' (by omega), nI_lt (by omega) (by decide)⟩, nI_clamp (by omega), if_pos y] at he
        cases he
      · rw [show cl.length = 12 by omega]
    · rw [m179f y, bI_i, e266_14, if_pos (show nI 0 = 0 from rfl)]
theorem n266t {v w : Int32} {e : Nat × Nat} (h : mInv I L rl T R S f g p a n t l u kp cl si rn rt) (hw : wInv R S f g p a T u kp) (he : hrd cl v w = some e) : ∃ I', cal d 266 [.ref 36, .int v, .int w] (I, L, rR ru dr sr rd rl, 65, x) = some (some (.int (nI (cl.length + 1))), (I', L, rR ru dr sr rd rl, 65, x)) ∧ mInv I' L rl T R S f g p a n t l u kp (cl ++ [e]) si rn rt := by
  obtain ⟨hI, hP, hA, hT, hO, hU, hK, hC, hS, hl, hR⟩ := h
  obtain ⟨hc, hw, hu, hk⟩ := hw
  have f0 : fM [] [] I (zup I 36 10 (nI 0)) := f10
  have hl12 := hC.2.1
  have e35 : (zup I 36 10 (nI 0)) 36 35 = nI cl.length := by rw [zup_v, if_neg (by decide)]; exact hC.1
  unfold hrd at he
  by_cases z : cl.length < 12 ∧ 0 ≤ v ∧ v < 5
  · rw [if_pos z] at he
    obtain ⟨z1, z2, z3⟩ := z
    have y : ¬ v < 0 := fun q => (fa_of_lt q).2.1 z2
    obtain ⟨j, hj, rfl⟩ := nI_of y
    have w5 : j < 5 := (nI_ltI hj (by decide)).mp z3
    rw [nI_clamp hj] at he
    by_cases q : nI (lo j) ≤ w ∧ w ≤ nI (hi j)
    · rw [if_pos q] at he
      cases he
      have h9 := hi_le j
      have v0 : ¬ w < 0 := fun r => (fa_of_lt (fa_trans r (nI_pos' (show lo j < 2 ^ 31 by have := lo_le j; omega)))).2.1 q.1
      obtain ⟨i, hi', rfl⟩ := nI_of v0
      have i9 : i ≤ hi j := (nI_leI hi' (by omega)).mp q.2
      rw [nI_clamp hi']
      have f1 : fM [55, 56] [35] I (zup (zup (zup (zup I 36 10 (nI 0)) 55 cl.length (nI j)) 56 cl.length (nI i)) 36 35 (nI (cl.length + 1))) := f10.tr ((fM.up (Or.inl (by decide)) (by decide)).tr ((fM.up (Or.inl (by decide)) (by decide)).tr (fM.fld (Or.inl (by decide)))))
      have hC2 : mCl (zup (zup (zup (zup I 36 10 (nI 0)) 55 cl.length (nI j)) 56 cl.length (nI i)) 36 35 (nI (cl.length + 1))) (cl ++ [(j, i)]) := by
        refine ⟨by rw [zup_v, if_pos rfl, List.length_append]; rfl, by rw [List.length_append]; exact z1, fun k w' v' hk => ?_⟩
        have c1 : (zup (zup (zup (zup I 36 10 (nI 0)) 55 cl.length (nI j)) 56 cl.length (nI i)) 36 35 (nI (cl.length + 1))) 55 k = if k = cl.length then nI j else I 55 k := by rw [zup_ne _ _ _ (by decide), zup_ne _ _ _ (by decide), zup_v, zup_ne _ _ _ (by decide)]
        have c2 : (zup (zup (zup (zup I 36 10 (nI 0)) 55 cl.length (nI j)) 56 cl.length (nI i)) 36 35 (nI (cl.length + 1))) 56 k = if k = cl.length then nI i else I 56 k := by rw [zup_ne _ _ _ (by decide), zup_v, zup_ne _ _ _ (by decide), zup_ne _ _ _ (by decide)]
        rw [c1, c2]
        by_cases r : k = cl.length
        · rw [if_pos r, if_pos r]
          rw [r, List.getElem?_append_right (Nat.le_refl _), Nat.sub_self] at hk
          cases hk
          exact ⟨rfl, rfl, w5, by omega⟩
        · have hlt : k < cl.length := by
            have := (List.getElem?_eq_some_iff.mp hk).1
            rw [List.length_append] at this
            have h1 : k < cl.length + 1 := this
            omega
          rw [if_neg r, if_neg r]
          rw [List.getElem?_append_left hlt] at hk
          exact hC.2.2 k w' v' hk
      have elo : cal d 264 [.int (nI j)] (zup I 36 10 (nI 0), L, rR ru dr sr rd rl, 65, x) = some (some (.int (nI (lo j))), (zup I 36 10 (nI 0), L, rR ru dr sr rd rl, 65, x)) := by
        rw [k264]
        unfold lo
        by_cases q : j = 0
        · rw [if_pos ((nI_z (by omega)).mpr q), if_pos q]
        · rw [if_neg (fun q' => q ((nI_z (by omega)).mp q')), if_neg q]
      have ehi : cal d 265 [.int (nI j)] (zup I 36 10 (nI 0), L, rR ru dr sr rd rl, 65, x) = some (some (.int (nI (hi j))), (zup I 36 10 (nI 0), L, rR ru dr sr rd rl, 65, x)) := by
        rw [k265]
        unfold hi
        by_cases q : j = 0
        · rw [if_pos ((nI_z (by omega)).mpr q), if_pos q]
        · rw [if_neg (fun q' => q ((nI_z (by omega)).mp q')), if_neg q]
          by_cases q2 : j = 3
          · rw [if_pos ((nI_eq (by omega) (by omega)).mpr q2), if_pos q2]
          · rw [if_neg (fun q' => q2 ((nI_eq (by omega) (by omega)).mp q')), if_neg q2]
      refine ⟨_, ?_, ⟨f1.ct hI (by decide), f1.fp hP (by decide), f1.st hA (by decide) rfl, f1.tx hT (by decide), f1.to hO (by decide) rfl, f1.un hU (by decide), f1.kp' hK (by decide), hC2, f1.sig hS (by decide), hl, f1.rr hl hR (by decide)⟩⟩
      rw [k266, m179z (by decide), bI_i, inr_k (by decide) (show j < 4 + 1 by omega), e266_7, if_neg (show ¬ nI (if (some j).isSome = true then 1 else 0) = 0 by show ¬ nI 1 = 0; decide), elo, bI_i, e266_11, ehi, bI_i, e266_13, m179t q, bI_i, e266_14, if_neg (by decide), e35, if_neg (by rw [nI_eq (by omega) (by omega)]; omega), if_pos (ak_55 z1), if_pos (ak_56 z1), nI_clamp (by omega), nI_add, zup_v, if_pos rfl]
    · rw [if_neg q] at he; cases he
  · rw [if_neg z] at he; cases he
theorem n267 (h : mInv I L rl T R S f g p a n t l u kp cl si rn rt) (hw : wInv R S f g p a T u kp) : ∃ I', cal d 267 [.ref 36] (I, L, rR ru dr sr rd rl, 65, x) = some (some (.int (nI cl.length)), (I', L, rR ru dr sr rd rl, 65, x)) ∧ mInv I' L rl T R S f g p a n t l u kp [] si rn rt := by
  obtain ⟨hI, hP, hA, hT, hO, hU, hK, hC, hS, hl, hR⟩ := h
  obtain ⟨hc, hw, hu, hk⟩ := hw
  have e35 : (zup I 36 10 (nI 0)) 36 35 = nI cl.length := by rw [zup_v, if_neg (by decide)]; exact hC.1
  have f1 : fM [] [35] I (zup (zup I 36 10 (nI 0)) 36 35 (nI 0)) := f10.tr (fM.fld (Or.inl (by decide)))
  have hC2 : mCl (zup (zup I 36 10 (nI 0)) 36 35 (nI 0)) [] := ⟨by rw [zup_v, if_pos rfl]; rfl, by decide, fun i w v h => by cases h⟩
  exact ⟨_, by rw [k267, e35], ⟨f1.ct hI (by decide), f1.fp hP (by decide), f1.st hA (by decide) rfl, f1.tx hT (by decide), f1.to hO (by decide) rfl, f1.un hU (by decide), f1.kp' hK (by decide), hC2, f1.sig hS (by decide), hl, f1.rr hl hR (by decide)⟩⟩
theorem n272f {v w : Int32} (h : mInv I L rl T R S f g p a n t l u kp cl si rn rt) (hw : wInv R S f g p a T u kp) (he : sen si v w = none) : ∃ I', cal d 272 [.ref 36, .int v, .int w] (I, L, rR ru dr sr rd rl, 65, x) = some (some (.int (-(nI 1))), (I', L, rR ru dr sr rd rl, 65, x)) ∧ mInv I' L rl T R S f g p a n t l u kp cl si rn rt := by
  obtain ⟨hI, hP, hA, hT, hO, hU, hK, hC, hS, hl, hR⟩ := h
  obtain ⟨hc, hw, hu, hk⟩ := hw
  have f0 : fM [] [] I (zup I 36 10 (nI 0)) := f10
  have hl12 := hS.2.1
  have e38 : (zup I 36 10 (nI 0)) 36 38 = nI si.length := by rw [zup_v, if_neg (by decide)]; exact hS.1
  refine ⟨_, ?_, ⟨f0.ct hI (by decide), f0.fp hP (by decide), f0.st hA (by decide) rfl, f0.tx hT (by decide), f0.to hO (by decide) rfl, f0.un hU (by decide), f0.kp' hK (by decide), f0.clu hC (by decide), f0.sig hS (by decide), hl, f0.rr hl hR (by decide)⟩⟩
  unfold sen at he
  rw [k272]
  by_cases y1 : nI 0 ≤ v ∧ v ≤ nI 6
  · rw [m179t y1, bI_i, e272_7, if_neg (by decide)]
    by_cases y2 : -(nI 1) ≤ w ∧ w ≤ nI 1
    · rw [m179t y2, bI_i, e272_12, if_neg (by decide), e38, if_pos]
      by_cases q : si.length < 10
      · rw [if_pos ⟨q, y1.1, y1.2, y2.1, y2.2⟩] at he
        cases he
      · rw [show si.length = 10 by omega]
    · rw [m179f y2, bI_i, e272_12, if_pos (show nI 0 = 0 from rfl)]
  · rw [m179f y1, bI_i, e272_7, if_pos (show nI 0 = 0 from rfl)]
theorem n272t {v w : Int32} {e : Nat × Int32} (h : mInv I L rl T R S f g p a n t l u kp cl si rn rt) (hw : wInv R S f g p a T u kp) (he : sen si v w = some e) : ∃ I', cal d 272 [.ref 36, .int v, .int w] (I, L, rR ru dr sr rd rl, 65, x) = some (some (.int (nI (si.length + 1))), (I', L, rR ru dr sr rd rl, 65, x)) ∧ mInv I' L rl T R S f g p a n t l u kp cl (si ++ [e]) rn rt := by
  obtain ⟨hI, hP, hA, hT, hO, hU, hK, hC, hS, hl, hR⟩ := h
  obtain ⟨hc, hw, hu, hk⟩ := hw
  have f0 : fM [] [] I (zup I 36 10 (nI 0)) := f10
  have hl12 := hS.2.1
  have e38 : (zup I 36 10 (nI 0)) 36 38 = nI si.length := by rw [zup_v, if_neg (by decide)]; exact hS.1
  unfold sen at he
  by_cases z : si.length < 10 ∧ 0 ≤ v ∧ v ≤ 6 ∧ -(nI 1) ≤ w ∧ w ≤ nI 1
  · rw [if_pos z] at he
    cases he
    obtain ⟨z1, z2, z3, z4, z5⟩ := z
    have y : ¬ v < 0 := fun q => (fa_of_lt q).2.1 z2
    obtain ⟨j, hj, rfl⟩ := nI_of y
    have w6 : j ≤ 6 := (nI_leI hj (by decide)).mp z3
    rw [nI_clamp hj]
    have f1 : fM [57, 58] [38] I (zup (zup (zup (zup I 36 10 (nI 0)) 57 si.length (nI j)) 58 si.length w) 36 38 (nI (si.length + 1))) := f10.tr ((fM.up (Or.inl (by decide)) (by decide)).tr ((fM.up (Or.inl (by decide)) (by decide)).tr (fM.fld (Or.inl (by decide)))))
    have hS2 : mSi (zup (zup (zup (zup I 36 10 (nI 0)) 57 si.length (nI j)) 58 si.length w) 36 38 (nI (si.length + 1))) (si ++ [(j, w)]) := by
      refine ⟨by rw [zup_v, if_pos rfl, List.length_append]; rfl, by rw [List.length_append]; exact z1, fun k w' v' hk => ?_⟩
      have c1 : (zup (zup (zup (zup I 36 10 (nI 0)) 57 si.length (nI j)) 58 si.length w) 36 38 (nI (si.length + 1))) 57 k = if k = si.length then nI j else I 57 k := by rw [zup_ne _ _ _ (by decide), zup_ne _ _ _ (by decide), zup_v, zup_ne _ _ _ (by decide)]
      have c2 : (zup (zup (zup (zup I 36 10 (nI 0)) 57 si.length (nI j)) 58 si.length w) 36 38 (nI (si.length + 1))) 58 k = if k = si.length then w else I 58 k := by rw [zup_ne _ _ _ (by decide), zup_v, zup_ne _ _ _ (by decide), zup_ne _ _ _ (by decide)]
      rw [c1, c2]
      by_cases r : k = si.length
      · rw [if_pos r, if_pos r]
        rw [r, List.getElem?_append_right (Nat.le_refl _), Nat.sub_self] at hk
        cases hk
        exact ⟨rfl, rfl, by omega, z4, z5⟩
      · have hlt : k < si.length := by
          have := (List.getElem?_eq_some_iff.mp hk).1
          rw [List.length_append] at this
          have h1 : k < si.length + 1 := this
          omega
        rw [if_neg r, if_neg r]
        rw [List.getElem?_append_left hlt] at hk
        exact hS.2.2 k w' v' hk
    refine ⟨_, ?_, ⟨f1.ct hI (by decide), f1.fp hP (by decide), f1.st hA (by decide) rfl, f1.tx hT (by decide), f1.to hO (by decide) rfl, f1.un hU (by decide), f1.kp' hK (by decide), f1.clu hC (by decide), hS2, hl, f1.rr hl hR (by decide)⟩⟩
    rw [k272, m179t (show nI 0 ≤ nI j ∧ nI j ≤ nI 6 from ⟨z2, z3⟩), bI_i, e272_7, if_neg (by decide), m179t ⟨z4, z5⟩, bI_i, e272_12, if_neg (by decide), e38, if_neg (by rw [nI_eq (by omega) (by omega)]; omega), if_pos (ak_57 z1), if_pos (ak_58 z1), nI_clamp (by omega), nI_add, zup_v, if_pos rfl]
  · rw [if_neg z] at he; cases he
theorem n273 (h : mInv I L rl T R S f g p a n t l u kp cl si rn rt) (hw : wInv R S f g p a T u kp) : ∃ I', cal d 273 [.ref 36] (I, L, rR ru dr sr rd rl, 65, x) = some (some (.int (nI si.length)), (I', L, rR ru dr sr rd rl, 65, x)) ∧ mInv I' L rl T R S f g p a n t l u kp cl [] rn rt := by
  obtain ⟨hI, hP, hA, hT, hO, hU, hK, hC, hS, hl, hR⟩ := h
  obtain ⟨hc, hw, hu, hk⟩ := hw
  have e38 : (zup I 36 10 (nI 0)) 36 38 = nI si.length := by rw [zup_v, if_neg (by decide)]; exact hS.1
  have f1 : fM [] [38] I (zup (zup I 36 10 (nI 0)) 36 38 (nI 0)) := f10.tr (fM.fld (Or.inl (by decide)))
  have hS2 : mSi (zup (zup I 36 10 (nI 0)) 36 38 (nI 0)) [] := ⟨by rw [zup_v, if_pos rfl]; rfl, by decide, fun i w v h => by cases h⟩
  exact ⟨_, by rw [k273, e38], ⟨f1.ct hI (by decide), f1.fp hP (by decide), f1.st hA (by decide) rfl, f1.tx hT (by decide), f1.to hO (by decide) rfl, f1.un hU (by decide), f1.kp' hK (by decide), f1.clu hC (by decide), hS2, hl, f1.rr hl hR (by decide)⟩⟩

end
