section
variable {I : Nat → Nat → Int32} {L : Nat → Nat → Int64} {Q : Nat → Nat → Option Nat} {d n : Nat} {t : Nat → Nat}
theorem zrow_n {α : Type} {I : Nat → Nat → α} {a b : Nat} {r : Nat → α} (h : b ≠ a) : zrow I a r b = I b := if_neg h
theorem zrow_e {α : Type} {I : Nat → Nat → α} {a : Nat} {r : Nat → α} : zrow I a r a = r := if_pos rfl
/-! the constructors -/
abbrev z0 : Nat → Int32 := fun _ => 0
abbrev z0L : Nat → Int64 := fun _ => 0
abbrev zN : Nat → Option Nat := fun _ => none
theorem c0i : codeOf 0 = o_0 := rfl
theorem c10i : codeOf 10 = o_10 := rfl
theorem c23i : codeOf 23 = o_23 := rfl
theorem c30i : codeOf 30 = o_30 := rfl
theorem c37i : codeOf 37 = o_37 := rfl
theorem c55i : codeOf 55 = o_55 := rfl
theorem c63i : codeOf 63 = o_63 := rfl
theorem c93i : codeOf 93 = o_93 := rfl
theorem c100i : codeOf 100 = o_100 := rfl
theorem c106i : codeOf 106 = o_106 := rfl
theorem c177i : codeOf 177 = o_177 := rfl
theorem i93 : cal d 93 [.ref 2] (I, L, Q, 3, 0) = some (none, ((zrow I 3 z0), (zrow L 3 z0L), (zup Q 2 0 (some 3)), 4, 0)) := rt_go [] c93i 40 rfl
theorem i100 : cal d 100 [.ref 4] (I, L, Q, 5, 0) = some (none, ((zrow I 5 z0), (zrow L 5 z0L), (zup Q 4 0 (some 5)), 6, 0)) := rt_go [] c100i 40 rfl
theorem i30 : cal d 30 [.ref 9] (I, L, Q, 10, 0) = some (none, ((zrow (zrow (zrow (zrow I 10 z0) 11 z0) 12 z0) 13 z0), (zrow (zrow (zrow (zrow L 10 z0L) 11 z0L) 12 z0L) 13 z0L), (zup (zup (zup (zup Q 9 0 (some 10)) 9 1 (some 11)) 9 2 (some 12)) 9 3 (some 13)), 14, 0)) := rt_go [] c30i 40 rfl
theorem i63_14 : cal d 63 [.ref 14, .ref 6, .ref 9] (I, L, Q, 15, 0) = some (none, ((zrow I 15 z0), (zrow L 15 z0L), (zup (zup (zup Q 14 2 (some 15)) 14 0 (some 6)) 14 1 (some 9)), 16, 0)) := rt_go [] c63i 40 rfl
theorem i63_16 : cal d 63 [.ref 16, .ref 6, .ref 9] (I, L, Q, 17, 0) = some (none, ((zrow I 17 z0), (zrow L 17 z0L), (zup (zup (zup Q 16 2 (some 17)) 16 0 (some 6)) 16 1 (some 9)), 18, 0)) := rt_go [] c63i 40 rfl
theorem i63_18 : cal d 63 [.ref 18, .ref 6, .ref 9] (I, L, Q, 19, 0) = some (none, ((zrow I 19 z0), (zrow L 19 z0L), (zup (zup (zup Q 18 2 (some 19)) 18 0 (some 6)) 18 1 (some 9)), 20, 0)) := rt_go [] c63i 40 rfl
theorem i23 : cal d 23 [.ref 20] (I, L, Q, 21, 0) = some (none, ((zrow (zrow I 21 z0) 22 z0), (zrow (zrow L 21 z0L) 22 z0L), (zup (zup Q 20 0 (some 21)) 20 1 (some 22)), 23, 0)) := rt_go [] c23i 40 rfl
theorem i0 : cal d 0 [.ref 23] (I, L, Q, 24, 0) = some (none, ((zrow (zrow I 24 z0) 25 z0), (zrow (zrow L 24 z0L) 25 z0L), (zup (zup Q 23 0 (some 24)) 23 1 (some 25)), 26, 0)) := rt_go [] c0i 40 rfl
theorem i55 : cal d 55 [.ref 26] (I, L, Q, 27, 0) = some (none, ((zrow (zrow I 27 z0) 28 z0), (zrow (zrow L 27 z0L) 28 z0L), (zup (zup Q 26 0 (some 27)) 26 1 (some 28)), 29, 0)) := rt_go [] c55i 40 rfl
theorem je13_0 {v1 : Int32} : res d 13 0 [.ref 6, .int v1, .null] [] (I, L, (zup (zup Q 6 0 (some 7)) 6 1 (some 8)), 9, 0) = if (I 6 2) < (nI 8) then (if aok 1 8 (I 6 2) = true then (res d 13 13 [.ref 6, .int v1, .int (nI 0)] [] (zup I 8 (I 6 2).toNatClampNeg (nI 0), L, (zup (zup Q 6 0 (some 7)) 6 1 (some 8)), 9, 0)) else none) else (some (none, (I, L, (zup (zup Q 6 0 (some 7)) 6 1 (some 8)), 9, 0))) := rt_go [13, 47] c13 56 rfl
theorem jl13_13 {v1 : Int32} {v2 : Int32} : res d 13 13 [.ref 6, .int v1, .int v2] [] (I, L, (zup (zup Q 6 0 (some 7)) 6 1 (some 8)), 9, 0) = if v1 ≤ v2 then (res d 13 47 [.ref 6, .int v1, .int v2] [] (I, L, (zup (zup Q 6 0 (some 7)) 6 1 (some 8)), 9, 0)) else (if (nI 16) ≤ (I 6 3) then (res d 13 47 [.ref 6, .int v1, .int v2] [] (I, L, (zup (zup Q 6 0 (some 7)) 6 1 (some 8)), 9, 0)) else (if aok 1 7 (I 6 3) = true then (if aok 1 8 (I 6 2) = true then (if aok 1 8 (I 6 2) = true then (res d 13 13 [.ref 6, .int v1, .int (v2 + (nI 1))] [] (zup (zup (zup I 7 (I 6 3).toNatClampNeg (I 6 2)) 8 (I 6 2).toNatClampNeg ((I 8 (I 6 2).toNatClampNeg) ||| ((nI 1) <<< ((I 6 3) &&& 31)))) 6 3 ((I 6 3) + (nI 1)), L, (zup (zup Q 6 0 (some 7)) 6 1 (some 8)), 9, 0)) else none) else none) else none)) := rt_go [13, 47] c13 56 rfl
theorem je13_47 {v1 : Int32} {v2 : Int32} : res d 13 47 [.ref 6, .int v1, .int v2] [] (I, L, (zup (zup Q 6 0 (some 7)) 6 1 (some 8)), 9, 0) = some (none, (zup I 6 2 ((I 6 2) + (nI 1)), L, (zup (zup Q 6 0 (some 7)) 6 1 (some 8)), 9, 0)) := rt_go [13, 47] c13 56 rfl
theorem jk13 {v1 : Int32} : cal d 13 [.ref 6, .int v1] (I, L, (zup (zup Q 6 0 (some 7)) 6 1 (some 8)), 9, 0) = if (I 6 2) < (nI 8) then (if aok 1 8 (I 6 2) = true then (res d 13 13 [.ref 6, .int v1, .int (nI 0)] [] (zup I 8 (I 6 2).toNatClampNeg (nI 0), L, (zup (zup Q 6 0 (some 7)) 6 1 (some 8)), 9, 0)) else none) else (some (none, (I, L, (zup (zup Q 6 0 (some 7)) 6 1 (some 8)), 9, 0))) := je13_0
theorem j13 {k : Nat} (h8 : n ≤ 8) (h : ∀ k, k < n → t k = 49 ∨ t k = 50) (hk : k < n) (hL : cLy I t n k) : ∃ I', cal d 13 [.ref 6, .int (nI (t k - 48))] (I, L, (zup (zup Q 6 0 (some 7)) 6 1 (some 8)), 9, 0) = some (none, (I', L, (zup (zup Q 6 0 (some 7)) 6 1 (some 8)), 9, 0)) ∧ cLy I' t n (k + 1) ∧ fW [6, 7, 8] I I' := by
  obtain ⟨l1, l2, l3, l4⟩ := hL
  have hle : cff t k ≤ 2 * k := by
    have := fb_sm_bound (f := fun k => t k - 48) (c := 2) (n := k) (fun j hj => by rcases h j (by omega) with q | q <;> omega)
    show fb_sm _ k ≤ _
    omega
  have eS : cff t (k + 1) = cff t k + (t k - 48) := rfl
  have hu : ∀ (J : Nat → Nat → Int32) (c i : Nat) (w : Int32), c = 6 ∨ c = 7 ∨ c = 8 → fW [6, 7, 8] J (zup J c i w) := fun J c i w hc => by
    rcases hc with rfl | rfl | rfl <;> exact fW.up (by decide) (by decide) (by decide)
  rcases h k hk with q | q
  · rw [q] at eS ⊢
    have g0 : cgg t n (cff t k) = k := cgg_r h hk (Nat.le_refl _) (by omega)
    have es : sqs (cff t) k = 0 ||| 2 ^ cff t k := by
      unfold sqs
      rw [eS, show cff t k + (49 - 48) - cff t k = 1 by omega]
      rfl
    refine ⟨zup (zup (zup (zup (zup I 8 k (nI 0)) 7 (cff t k) (nI k)) 8 k (nI (0 ||| 2 ^ cff t k))) 6 3 (nI (cff t k + 1))) 6 2 (nI (k + 1)), ?_, ⟨?_, ?_, fun s hs => ?_, fun r hr => ?_⟩, ((((hu _ _ _ _ (by decide)).tr (hu _ _ _ _ (by decide))).tr (hu _ _ _ _ (by decide))).tr (hu _ _ _ _ (by decide))).tr (hu _ _ _ _ (by decide))⟩
    · have a1 : (zup I 8 k (nI 0)) 6 2 = nI k := by rw [zup_ne _ _ _ (by decide)]; exact l1
      have a2 : (zup I 8 k (nI 0)) 6 3 = nI (cff t k) := by rw [zup_ne _ _ _ (by decide)]; exact l2
      have a3 : (zup I 8 k (nI 0)) 8 k = nI 0 := by rw [zup_v, if_pos rfl]
      rw [jk13, l1, if_pos (by rw [nI_ltI (by omega) (by omega)]; omega), if_pos (ak_8 (by omega)), nI_clamp (by omega), jl13_13, if_neg (by decide), a2, if_neg (by rw [nI_leI (by omega) (by omega)]; omega), if_pos (ak_7 (by omega)), a1, if_pos (ak_8 (by omega)), if_pos (ak_8 (by omega)), nI_clamp (by omega), nI_clamp (by omega), a3, zshl1 (by omega), fa_or, nI_add, nI_add, jl13_13, if_pos (by decide), je13_47]
      have a4 : (zup (zup (zup (zup I 8 k (nI 0)) 7 (cff t k) (nI k)) 8 k (nI (0 ||| 2 ^ cff t k))) 6 3 (nI (cff t k + 1))) 6 2 = nI k := by rw [zup_v, if_neg (by decide), zup_ne _ _ _ (by decide), zup_ne _ _ _ (by decide)]; exact a1
      rw [a4, nI_add]
    · rw [zup_v, if_pos rfl]
    · rw [zup_v, if_neg (by decide), zup_v, if_pos rfl, eS]
    · rw [zup_ne _ _ _ (by decide), zup_ne _ _ _ (by decide), zup_ne _ _ _ (by decide), zup_v]
      by_cases z : s = cff t k
      · rw [if_pos z, z, g0]
      · rw [if_neg z, zup_ne _ _ _ (by decide)]; exact l3 s (by omega)
    · rw [zup_ne _ _ _ (by decide), zup_ne _ _ _ (by decide), zup_v]
      by_cases z : r = k
      · rw [if_pos z, z, es]
      · rw [if_neg z, zup_ne _ _ _ (by decide), zup_v, if_neg z]; exact l4 r (by omega)
  · rw [q] at eS ⊢
    have g0 : cgg t n (cff t k) = k := cgg_r h hk (Nat.le_refl _) (by omega)
    have g1 : cgg t n (cff t k + 1) = k := cgg_r h hk (by omega) (by omega)
    have es : sqs (cff t) k = 0 ||| 2 ^ cff t k ||| 2 ^ (cff t k + 1) := by
      unfold sqs
      rw [eS, show cff t k + (50 - 48) - cff t k = 2 by omega]
      rfl
    refine ⟨zup (zup (zup (zup (zup (zup (zup (zup I 8 k (nI 0)) 7 (cff t k) (nI k)) 8 k (nI (0 ||| 2 ^ cff t k))) 6 3 (nI (cff t k + 1))) 7 (cff t k + 1) (nI k)) 8 k (nI (0 ||| 2 ^ cff t k ||| 2 ^ (cff t k + 1)))) 6 3 (nI (cff t k + 1 + 1))) 6 2 (nI (k + 1)), ?_, ⟨?_, ?_, fun s hs => ?_, fun r hr => ?_⟩, (((((((hu _ _ _ _ (by decide)).tr (hu _ _ _ _ (by decide))).tr (hu _ _ _ _ (by decide))).tr (hu _ _ _ _ (by decide))).tr (hu _ _ _ _ (by decide))).tr (hu _ _ _ _ (by decide))).tr (hu _ _ _ _ (by decide))).tr (hu _ _ _ _ (by decide))⟩
    · have a1 : (zup I 8 k (nI 0)) 6 2 = nI k := by rw [zup_ne _ _ _ (by decide)]; exact l1
      have a2 : (zup I 8 k (nI 0)) 6 3 = nI (cff t k) := by rw [zup_ne _ _ _ (by decide)]; exact l2
      have a3 : (zup I 8 k (nI 0)) 8 k = nI 0 := by rw [zup_v, if_pos rfl]
      have b1 : (zup (zup (zup (zup I 8 k (nI 0)) 7 (cff t k) (nI k)) 8 k (nI (0 ||| 2 ^ cff t k))) 6 3 (nI (cff t k + 1))) 6 2 = nI k := by rw [zup_v, if_neg (by decide), zup_ne _ _ _ (by decide), zup_ne _ _ _ (by decide)]; exact a1
      have b2 : (zup (zup (zup (zup I 8 k (nI 0)) 7 (cff t k) (nI k)) 8 k (nI (0 ||| 2 ^ cff t k))) 6 3 (nI (cff t k + 1))) 6 3 = nI (cff t k + 1) := by rw [zup_v, if_pos rfl]
      have b3 : (zup (zup (zup (zup I 8 k (nI 0)) 7 (cff t k) (nI k)) 8 k (nI (0 ||| 2 ^ cff t k))) 6 3 (nI (cff t k + 1))) 8 k = nI (0 ||| 2 ^ cff t k) := by rw [zup_ne _ _ _ (by decide), zup_v, if_pos rfl]
      rw [jk13, l1, if_pos (by rw [nI_ltI (by omega) (by omega)]; omega), if_pos (ak_8 (by omega)), nI_clamp (by omega), jl13_13, if_neg (by decide), a2, if_neg (by rw [nI_leI (by omega) (by omega)]; omega), if_pos (ak_7 (by omega)), a1, if_pos (ak_8 (by omega)), if_pos (ak_8 (by omega)), nI_clamp (by omega), nI_clamp (by omega), a3, zshl1 (by omega), fa_or, nI_add, nI_add, jl13_13, if_neg (by decide), b2, if_neg (by rw [nI_leI (by omega) (by omega)]; omega), if_pos (ak_7 (by omega)), b1, if_pos (ak_8 (by omega)), if_pos (ak_8 (by omega)), nI_clamp (by omega), nI_clamp (by omega), b3, zshl1 (by omega), fa_or, nI_add, nI_add, jl13_13, if_pos (by decide), je13_47]
      have a4 : (zup (zup (zup (zup (zup (zup (zup I 8 k (nI 0)) 7 (cff t k) (nI k)) 8 k (nI (0 ||| 2 ^ cff t k))) 6 3 (nI (cff t k + 1))) 7 (cff t k + 1) (nI k)) 8 k (nI (0 ||| 2 ^ cff t k ||| 2 ^ (cff t k + 1)))) 6 3 (nI (cff t k + 1 + 1))) 6 2 = nI k := by rw [zup_v, if_neg (by decide), zup_ne _ _ _ (by decide), zup_ne _ _ _ (by decide)]; exact b1
      rw [a4, nI_add]
    · rw [zup_v, if_pos rfl]
    · rw [zup_v, if_neg (by decide), zup_v, if_pos rfl, eS]
    · rw [zup_ne _ _ _ (by decide), zup_ne _ _ _ (by decide), zup_ne _ _ _ (by decide), zup_v]
      by_cases z : s = cff t k + 1
      · rw [if_pos z, z, g1]
      · rw [if_neg z, zup_ne _ _ _ (by decide), zup_ne _ _ _ (by decide), zup_v]
        by_cases y : s = cff t k
        · rw [if_pos y, y, g0]
        · rw [if_neg y, zup_ne _ _ _ (by decide)]; exact l3 s (by omega)
    · rw [zup_ne _ _ _ (by decide), zup_ne _ _ _ (by decide), zup_v]
      by_cases z : r = k
      · rw [if_pos z, z, es]
      · rw [if_neg z, zup_ne _ _ _ (by decide), zup_ne _ _ _ (by decide), zup_v, if_neg z, zup_ne _ _ _ (by decide), zup_v, if_neg z]; exact l4 r (by omega)

theorem i10 : cal d 10 [.ref 6] (I, L, Q, 7, 0) = bV (cal d 13 [.ref 6, .int (nI 1)] ((zrow (zrow I 7 z0) 8 z0), (zrow (zrow L 7 z0L) 8 z0L), (zup (zup Q 6 0 (some 7)) 6 1 (some 8)), 9, 0)) fun h1 => res d 10 13 [.ref 6] [] h1 := rt_go [13, 16, 19] c10i 40 rfl
theorem i10_13 : res d 10 13 [.ref 6] [] (I, L, Q, 9, 0) = bV (cal d 13 [.ref 6, .int (nI 2)] (I, L, Q, 9, 0)) fun h1 => res d 10 16 [.ref 6] [] h1 := rt_go [13, 16, 19] c10i 40 rfl
theorem i10_16 : res d 10 16 [.ref 6] [] (I, L, Q, 9, 0) = bV (cal d 13 [.ref 6, .int (nI 1)] (I, L, Q, 9, 0)) fun h1 => res d 10 19 [.ref 6] [] h1 := rt_go [13, 16, 19] c10i 40 rfl
theorem i10_19 : res d 10 19 [.ref 6] [] (I, L, Q, 9, 0) = some (none, (I, L, Q, 9, 0)) := rt_go [13, 16, 19] c10i 40 rfl
abbrev tZ : Nat → Nat := (fun k => if k = 1 then 50 else 49)
theorem tZ_h : ∀ k, k < 3 → tZ k = 49 ∨ tZ k = 50 := by decide
theorem i10t (h : I 6 = z0) : ∃ I', cal d 10 [.ref 6] (I, L, Q, 7, 0) = some (none, (I', (zrow (zrow L 7 z0L) 8 z0L), (zup (zup Q 6 0 (some 7)) 6 1 (some 8)), 9, 0)) ∧ cLy I' tZ 3 3 ∧ fW [6, 7, 8] (zrow (zrow I 7 z0) 8 z0) I' := by
  have h0 : cLy (zrow (zrow I 7 z0) 8 z0) tZ 3 0 := ⟨by rw [zrow_n (by decide), zrow_n (by decide), h]; rfl, by rw [zrow_n (by decide), zrow_n (by decide), h]; rfl, fun s hs => absurd hs (Nat.not_lt_zero _), fun r hr => absurd hr (Nat.not_lt_zero _)⟩
  obtain ⟨I1, e1, h1, f1⟩ := j13 (d := d) (L := (zrow (zrow L 7 z0L) 8 z0L)) (Q := Q) (k := 0) (by decide) tZ_h (by decide) h0
  obtain ⟨I2, e2, h2, f2⟩ := j13 (d := d) (L := (zrow (zrow L 7 z0L) 8 z0L)) (Q := Q) (k := 1) (by decide) tZ_h (by decide) h1
  obtain ⟨I3, e3, h3, f3⟩ := j13 (d := d) (L := (zrow (zrow L 7 z0L) 8 z0L)) (Q := Q) (k := 2) (by decide) tZ_h (by decide) h2
  refine ⟨I3, ?_, h3, f1.tr (f2.tr f3)⟩
  · rw [i10]
    rw [show nI (tZ 0 - 48) = nI 1 from rfl] at e1
    rw [show nI (tZ 1 - 48) = nI 2 from rfl] at e2
    rw [show nI (tZ 2 - 48) = nI 1 from rfl] at e3
    rw [e1, bV_n, i10_13, e2, bV_n, i10_16, e3, bV_n, i10_19]
theorem ae39_0 {q0 : Nat} (hq0 : q0 = 30) {v1 : Int32} : res d 39 0 [.ref q0, .int v1] [] (I, L, (zup (zup Q 30 0 (some 31)) 30 1 (some 32)), 33, 0) = if (nI 40) ≤ (I q0 2) then (some (none, (I, L, (zup (zup Q 30 0 (some 31)) 30 1 (some 32)), 33, 0))) else (if aok 1 (q0 + 1) (I q0 2) = true then (some (none, (zup (zup I (q0 + 1) (I q0 2).toNatClampNeg v1) q0 2 ((I q0 2) + (nI 1)), L, (zup (zup Q 30 0 (some 31)) 30 1 (some 32)), 33, 0))) else none) := by subst hq0; exact rt_go [] c39 19 rfl
theorem ae40_0 {q0 : Nat} (hq0 : q0 = 30) {v1 : Int32} : res d 40 0 [.ref q0, .int v1] [] (I, L, (zup (zup Q 30 0 (some 31)) 30 1 (some 32)), 33, 0) = bV (cal d 39 [.ref q0, .int (-v1)] (I, L, (zup (zup Q 30 0 (some 31)) 30 1 (some 32)), 33, 0)) fun h1 => res d 40 4 [.ref q0, .int v1] [] h1 := by subst hq0; exact rt_go [4] c40 7 rfl
theorem ae40_4 {q0 : Nat} (hq0 : q0 = 30) {v1 : Int32} : res d 40 4 [.ref q0, .int v1] [] (I, L, (zup (zup Q 30 0 (some 31)) 30 1 (some 32)), 33, 0) = some (none, (I, L, (zup (zup Q 30 0 (some 31)) 30 1 (some 32)), 33, 0)) := by subst hq0; exact rt_go [4] c40 7 rfl
theorem ae38_0 {q0 : Nat} (hq0 : q0 = 30) : res d 38 0 [.ref q0] [] (I, L, (zup (zup Q 30 0 (some 31)) 30 1 (some 32)), 33, 0) = bV (cal d 40 [.ref q0, .int (nI 110)] (zup I q0 2 (nI 0), L, (zup (zup Q 30 0 (some 31)) 30 1 (some 32)), 33, 0)) fun h1 => res d 38 6 [.ref q0] [] h1 := by subst hq0; exact rt_go [6, 9, 12] c38 15 rfl
theorem ae38_6 {q0 : Nat} (hq0 : q0 = 30) : res d 38 6 [.ref q0] [] (I, L, (zup (zup Q 30 0 (some 31)) 30 1 (some 32)), 33, 0) = bV (cal d 40 [.ref q0, .int (nI 97)] (I, L, (zup (zup Q 30 0 (some 31)) 30 1 (some 32)), 33, 0)) fun h1 => res d 38 9 [.ref q0] [] h1 := by subst hq0; exact rt_go [6, 9, 12] c38 15 rfl
theorem ae38_9 {q0 : Nat} (hq0 : q0 = 30) : res d 38 9 [.ref q0] [] (I, L, (zup (zup Q 30 0 (some 31)) 30 1 (some 32)), 33, 0) = bV (cal d 40 [.ref q0, .int (nI 62)] (I, L, (zup (zup Q 30 0 (some 31)) 30 1 (some 32)), 33, 0)) fun h1 => res d 38 12 [.ref q0] [] h1 := by subst hq0; exact rt_go [6, 9, 12] c38 15 rfl
theorem ae38_12 {q0 : Nat} (hq0 : q0 = 30) : res d 38 12 [.ref q0] [] (I, L, (zup (zup Q 30 0 (some 31)) 30 1 (some 32)), 33, 0) = some (none, (I, L, (zup (zup Q 30 0 (some 31)) 30 1 (some 32)), 33, 0)) := by subst hq0; exact rt_go [6, 9, 12] c38 15 rfl
theorem ak39 {q0 : Nat} (hq0 : q0 = 30) {v1 : Int32} : cal d 39 [.ref q0, .int v1] (I, L, (zup (zup Q 30 0 (some 31)) 30 1 (some 32)), 33, 0) = if (nI 40) ≤ (I q0 2) then (some (none, (I, L, (zup (zup Q 30 0 (some 31)) 30 1 (some 32)), 33, 0))) else (if aok 1 (q0 + 1) (I q0 2) = true then (some (none, (zup (zup I (q0 + 1) (I q0 2).toNatClampNeg v1) q0 2 ((I q0 2) + (nI 1)), L, (zup (zup Q 30 0 (some 31)) 30 1 (some 32)), 33, 0))) else none) := ae39_0 hq0
theorem ak40 {q0 : Nat} (hq0 : q0 = 30) {v1 : Int32} : cal d 40 [.ref q0, .int v1] (I, L, (zup (zup Q 30 0 (some 31)) 30 1 (some 32)), 33, 0) = bV (cal d 39 [.ref q0, .int (-v1)] (I, L, (zup (zup Q 30 0 (some 31)) 30 1 (some 32)), 33, 0)) fun h1 => res d 40 4 [.ref q0, .int v1] [] h1 := ae40_0 hq0
theorem ak38 {q0 : Nat} (hq0 : q0 = 30) : cal d 38 [.ref q0] (I, L, (zup (zup Q 30 0 (some 31)) 30 1 (some 32)), 33, 0) = bV (cal d 40 [.ref q0, .int (nI 110)] (zup I q0 2 (nI 0), L, (zup (zup Q 30 0 (some 31)) 30 1 (some 32)), 33, 0)) fun h1 => res d 38 6 [.ref q0] [] h1 := ae38_0 hq0
theorem a39 {q : Nat} {v : Int32} (hq : q = 30) (hj : ∃ j, j ≤ 40 ∧ I q 2 = nI j) : ∃ I', cal d 39 [.ref q, .int v] (I, L, (zup (zup Q 30 0 (some 31)) 30 1 (some 32)), 33, 0) = some (none, (I', L, (zup (zup Q 30 0 (some 31)) 30 1 (some 32)), 33, 0)) ∧ fQ q I I' ∧ I' q 5 = I q 5 ∧ (∃ j, j ≤ 40 ∧ I' q 2 = nI j) ∧ ∀ (s0 : zC) e, v = stv e → rSt I q s0 → s0.length < 40 → rSt I' q (s0 ++ [e]) := by
  obtain ⟨j, hj, e⟩ := hj
  by_cases z : j < 40
  · refine ⟨zup (zup I (q + 1) j v) q 2 (nI (j + 1)), ?_, ⟨fun c a b => by rw [zup_ne _ _ _ a, zup_ne _ _ _ b], fun k a b => by rw [zup_v, if_neg a, zup_ne _ _ _ (by omega)]⟩, by rw [zup_v, if_neg (by decide), zup_ne _ _ _ (by omega)], ⟨j + 1, by omega, by rw [zup_v, if_pos rfl]⟩, fun s0 e' he hR hl => ?_⟩
    · rw [ak39 hq, e, if_neg (by rw [nI_leI (by omega) (by omega)]; omega), if_pos (ak_q1 (Or.inl hq) z), nI_clamp (by omega), nI_add]
    · have hjl : j = s0.length := by
        have := hR.1
        rw [e, nI_eq (by omega) (by omega)] at this
        exact this
      refine ⟨by rw [zup_v, if_pos rfl, List.length_append, hjl]; rfl, fun i e2 h2 => ?_⟩
      rw [zup_ne _ _ _ (by omega), zup_v]
      by_cases y : i = j
      · rw [if_pos y, he]
        rw [y, hjl, List.getElem?_append_right (Nat.le_refl _), Nat.sub_self] at h2
        cases h2
        rfl
      · have hlt : i < s0.length := by
          have := (List.getElem?_eq_some_iff.mp h2).1
          rw [List.length_append] at this
          have h1 : i < s0.length + 1 := this
          omega
        rw [if_neg y]
        rw [List.getElem?_append_left hlt] at h2
        exact hR.2 i e2 h2
  · refine ⟨I, ?_, fQ.rf, rfl, ⟨j, hj, e⟩, fun s0 e' he hR hl => ?_⟩
    · rw [ak39 hq, e, if_pos (by rw [nI_leI (by omega) (by omega)]; omega)]
    · have := hR.1
      rw [e, nI_eq (by omega) (by omega)] at this
      omega

theorem a40 {q c : Nat} (hq : q = 30) (hj : ∃ j, j ≤ 40 ∧ I q 2 = nI j) : ∃ I', cal d 40 [.ref q, .int (nI c)] (I, L, (zup (zup Q 30 0 (some 31)) 30 1 (some 32)), 33, 0) = some (none, (I', L, (zup (zup Q 30 0 (some 31)) 30 1 (some 32)), 33, 0)) ∧ fQ q I I' ∧ I' q 5 = I q 5 ∧ (∃ j, j ≤ 40 ∧ I' q 2 = nI j) ∧ ∀ s0, rSt I q s0 → s0.length < 40 → rSt I' q (s0 ++ [(false, c)]) := by
  obtain ⟨I', e, h1, h2, h3, h4⟩ := a39 (d := d) (v := -(nI c)) (L := L) (Q := Q) hq hj
  exact ⟨I', by rw [ak40 hq, e, bV_n, ae40_4 hq], h1, h2, h3, fun s0 a b => h4 s0 (false, c) rfl a b⟩

theorem a38 {q : Nat} (hq : q = 30) : ∃ I', cal d 38 [.ref q] (I, L, (zup (zup Q 30 0 (some 31)) 30 1 (some 32)), 33, 0) = some (none, (I', L, (zup (zup Q 30 0 (some 31)) 30 1 (some 32)), 33, 0)) ∧ cRu I' q usu ∧ (∀ c, c ≠ q → c ≠ q + 1 → I' c = I c) := by
  have r0 : rSt (zup I q 2 (nI 0)) q [] := ⟨by rw [zup_v, if_pos rfl]; rfl, fun i e h => by cases h⟩
  obtain ⟨I1, e1, f1, -, g1, h1⟩ := a40 (d := d) (c := 110) (I := zup I q 2 (nI 0)) (L := L) (Q := Q) hq ⟨0, by omega, by rw [zup_v, if_pos rfl]⟩
  have r1 := h1 [] r0 (by decide)
  obtain ⟨I2, e2, f2, -, g2, h2⟩ := a40 (d := d) (c := 97) (L := L) (Q := Q) hq g1
  have r2 := h2 _ r1 (by decide)
  obtain ⟨I3, e3, f3, -, g3, h3⟩ := a40 (d := d) (c := 62) (L := L) (Q := Q) hq g2
  have r3 := h3 _ r2 (by decide)
  refine ⟨I3, by rw [ak38 hq, e1, bV_n, ae38_6 hq, e2, bV_n, ae38_9 hq, e3, bV_n, ae38_12 hq], ⟨r3.1, by decide, fun e he => ?_, r3.2⟩, fun c a b => by rw [f3.1 c a b, f2.1 c a b, f1.1 c a b, zup_ne _ _ _ a]⟩
  simp only [usu, List.mem_cons, List.not_mem_nil, or_false] at he
  rcases he with rfl | rfl | rfl <;> exact ⟨by decide, by decide⟩

theorem i37_30 : cal d 37 [.ref 30] (I, L, Q, 31, 0) = bV (cal d 38 [.ref 30] ((zrow (zrow I 31 z0) 32 z0), (zrow (zrow L 31 z0L) 32 z0L), (zup (zup Q 30 0 (some 31)) 30 1 (some 32)), 33, 0)) fun h1 => res d 37 12 [.ref 30] [] h1 := rt_go [12] c37i 40 rfl
theorem i37e_30 : res d 37 12 [.ref 30] [] (I, L, Q, 33, 0) = some (none, (I, L, Q, 33, 0)) := rt_go [] c37i 40 rfl
theorem i37t_30 : ∃ I', cal d 37 [.ref 30] (I, L, Q, 31, 0) = some (none, (I', (zrow (zrow L 31 z0L) 32 z0L), (zup (zup Q 30 0 (some 31)) 30 1 (some 32)), 33, 0)) ∧ cRu I' 30 usu ∧ ∀ c, c ≠ 30 → c ≠ 30 + 1 → c ≠ 30 + 2 → I' c = I c := by
  obtain ⟨I1, e1, h1, f1⟩ := a38 (d := d) (I := (zrow (zrow I 31 z0) 32 z0)) (L := (zrow (zrow L 31 z0L) 32 z0L)) (Q := Q) (q := 30) rfl
  exact ⟨I1, by rw [i37_30, e1, bV_n, i37e_30], h1, fun c a b e => by rw [f1 c a b, zrow_n e, zrow_n b]⟩
theorem be39_0 {q0 : Nat} (hq0 : q0 = 33) {v1 : Int32} : res d 39 0 [.ref q0, .int v1] [] (I, L, (zup (zup Q 33 0 (some 34)) 33 1 (some 35)), 36, 0) = if (nI 40) ≤ (I q0 2) then (some (none, (I, L, (zup (zup Q 33 0 (some 34)) 33 1 (some 35)), 36, 0))) else (if aok 1 (q0 + 1) (I q0 2) = true then (some (none, (zup (zup I (q0 + 1) (I q0 2).toNatClampNeg v1) q0 2 ((I q0 2) + (nI 1)), L, (zup (zup Q 33 0 (some 34)) 33 1 (some 35)), 36, 0))) else none) := by subst hq0; exact rt_go [] c39 19 rfl
theorem be40_0 {q0 : Nat} (hq0 : q0 = 33) {v1 : Int32} : res d 40 0 [.ref q0, .int v1] [] (I, L, (zup (zup Q 33 0 (some 34)) 33 1 (some 35)), 36, 0) = bV (cal d 39 [.ref q0, .int (-v1)] (I, L, (zup (zup Q 33 0 (some 34)) 33 1 (some 35)), 36, 0)) fun h1 => res d 40 4 [.ref q0, .int v1] [] h1 := by subst hq0; exact rt_go [4] c40 7 rfl
theorem be40_4 {q0 : Nat} (hq0 : q0 = 33) {v1 : Int32} : res d 40 4 [.ref q0, .int v1] [] (I, L, (zup (zup Q 33 0 (some 34)) 33 1 (some 35)), 36, 0) = some (none, (I, L, (zup (zup Q 33 0 (some 34)) 33 1 (some 35)), 36, 0)) := by subst hq0; exact rt_go [4] c40 7 rfl
theorem be38_0 {q0 : Nat} (hq0 : q0 = 33) : res d 38 0 [.ref q0] [] (I, L, (zup (zup Q 33 0 (some 34)) 33 1 (some 35)), 36, 0) = bV (cal d 40 [.ref q0, .int (nI 110)] (zup I q0 2 (nI 0), L, (zup (zup Q 33 0 (some 34)) 33 1 (some 35)), 36, 0)) fun h1 => res d 38 6 [.ref q0] [] h1 := by subst hq0; exact rt_go [6, 9, 12] c38 15 rfl
theorem be38_6 {q0 : Nat} (hq0 : q0 = 33) : res d 38 6 [.ref q0] [] (I, L, (zup (zup Q 33 0 (some 34)) 33 1 (some 35)), 36, 0) = bV (cal d 40 [.ref q0, .int (nI 97)] (I, L, (zup (zup Q 33 0 (some 34)) 33 1 (some 35)), 36, 0)) fun h1 => res d 38 9 [.ref q0] [] h1 := by subst hq0; exact rt_go [6, 9, 12] c38 15 rfl
theorem be38_9 {q0 : Nat} (hq0 : q0 = 33) : res d 38 9 [.ref q0] [] (I, L, (zup (zup Q 33 0 (some 34)) 33 1 (some 35)), 36, 0) = bV (cal d 40 [.ref q0, .int (nI 62)] (I, L, (zup (zup Q 33 0 (some 34)) 33 1 (some 35)), 36, 0)) fun h1 => res d 38 12 [.ref q0] [] h1 := by subst hq0; exact rt_go [6, 9, 12] c38 15 rfl
theorem be38_12 {q0 : Nat} (hq0 : q0 = 33) : res d 38 12 [.ref q0] [] (I, L, (zup (zup Q 33 0 (some 34)) 33 1 (some 35)), 36, 0) = some (none, (I, L, (zup (zup Q 33 0 (some 34)) 33 1 (some 35)), 36, 0)) := by subst hq0; exact rt_go [6, 9, 12] c38 15 rfl
theorem bk39 {q0 : Nat} (hq0 : q0 = 33) {v1 : Int32} : cal d 39 [.ref q0, .int v1] (I, L, (zup (zup Q 33 0 (some 34)) 33 1 (some 35)), 36, 0) = if (nI 40) ≤ (I q0 2) then (some (none, (I, L, (zup (zup Q 33 0 (some 34)) 33 1 (some 35)), 36, 0))) else (if aok 1 (q0 + 1) (I q0 2) = true then (some (none, (zup (zup I (q0 + 1) (I q0 2).toNatClampNeg v1) q0 2 ((I q0 2) + (nI 1)), L, (zup (zup Q 33 0 (some 34)) 33 1 (some 35)), 36, 0))) else none) := be39_0 hq0
theorem bk40 {q0 : Nat} (hq0 : q0 = 33) {v1 : Int32} : cal d 40 [.ref q0, .int v1] (I, L, (zup (zup Q 33 0 (some 34)) 33 1 (some 35)), 36, 0) = bV (cal d 39 [.ref q0, .int (-v1)] (I, L, (zup (zup Q 33 0 (some 34)) 33 1 (some 35)), 36, 0)) fun h1 => res d 40 4 [.ref q0, .int v1] [] h1 := be40_0 hq0
theorem bk38 {q0 : Nat} (hq0 : q0 = 33) : cal d 38 [.ref q0] (I, L, (zup (zup Q 33 0 (some 34)) 33 1 (some 35)), 36, 0) = bV (cal d 40 [.ref q0, .int (nI 110)] (zup I q0 2 (nI 0), L, (zup (zup Q 33 0 (some 34)) 33 1 (some 35)), 36, 0)) fun h1 => res d 38 6 [.ref q0] [] h1 := be38_0 hq0
theorem b39 {q : Nat} {v : Int32} (hq : q = 33) (hj : ∃ j, j ≤ 40 ∧ I q 2 = nI j) : ∃ I', cal d 39 [.ref q, .int v] (I, L, (zup (zup Q 33 0 (some 34)) 33 1 (some 35)), 36, 0) = some (none, (I', L, (zup (zup Q 33 0 (some 34)) 33 1 (some 35)), 36, 0)) ∧ fQ q I I' ∧ I' q 5 = I q 5 ∧ (∃ j, j ≤ 40 ∧ I' q 2 = nI j) ∧ ∀ (s0 : zC) e, v = stv e → rSt I q s0 → s0.length < 40 → rSt I' q (s0 ++ [e]) := by
  obtain ⟨j, hj, e⟩ := hj
  by_cases z : j < 40
  · refine ⟨zup (zup I (q + 1) j v) q 2 (nI (j + 1)), ?_, ⟨fun c a b => by rw [zup_ne _ _ _ a, zup_ne _ _ _ b], fun k a b => by rw [zup_v, if_neg a, zup_ne _ _ _ (by omega)]⟩, by rw [zup_v, if_neg (by decide), zup_ne _ _ _ (by omega)], ⟨j + 1, by omega, by rw [zup_v, if_pos rfl]⟩, fun s0 e' he hR hl => ?_⟩
    · rw [bk39 hq, e, if_neg (by rw [nI_leI (by omega) (by omega)]; omega), if_pos (ak_q1 (Or.inr hq) z), nI_clamp (by omega), nI_add]
    · have hjl : j = s0.length := by
        have := hR.1
        rw [e, nI_eq (by omega) (by omega)] at this
        exact this
      refine ⟨by rw [zup_v, if_pos rfl, List.length_append, hjl]; rfl, fun i e2 h2 => ?_⟩
      rw [zup_ne _ _ _ (by omega), zup_v]
      by_cases y : i = j
      · rw [if_pos y, he]
        rw [y, hjl, List.getElem?_append_right (Nat.le_refl _), Nat.sub_self] at h2
        cases h2
        rfl
      · have hlt : i < s0.length := by
          have := (List.getElem?_eq_some_iff.mp h2).1
          rw [List.length_append] at this
          have h1 : i < s0.length + 1 := this
          omega
        rw [if_neg y]
        rw [List.getElem?_append_left hlt] at h2
        exact hR.2 i e2 h2
  · refine ⟨I, ?_, fQ.rf, rfl, ⟨j, hj, e⟩, fun s0 e' he hR hl => ?_⟩
    · rw [bk39 hq, e, if_pos (by rw [nI_leI (by omega) (by omega)]; omega)]
    · have := hR.1
      rw [e, nI_eq (by omega) (by omega)] at this
      omega

theorem b40 {q c : Nat} (hq : q = 33) (hj : ∃ j, j ≤ 40 ∧ I q 2 = nI j) : ∃ I', cal d 40 [.ref q, .int (nI c)] (I, L, (zup (zup Q 33 0 (some 34)) 33 1 (some 35)), 36, 0) = some (none, (I', L, (zup (zup Q 33 0 (some 34)) 33 1 (some 35)), 36, 0)) ∧ fQ q I I' ∧ I' q 5 = I q 5 ∧ (∃ j, j ≤ 40 ∧ I' q 2 = nI j) ∧ ∀ s0, rSt I q s0 → s0.length < 40 → rSt I' q (s0 ++ [(false, c)]) := by
  obtain ⟨I', e, h1, h2, h3, h4⟩ := b39 (d := d) (v := -(nI c)) (L := L) (Q := Q) hq hj
  exact ⟨I', by rw [bk40 hq, e, bV_n, be40_4 hq], h1, h2, h3, fun s0 a b => h4 s0 (false, c) rfl a b⟩

theorem b38 {q : Nat} (hq : q = 33) : ∃ I', cal d 38 [.ref q] (I, L, (zup (zup Q 33 0 (some 34)) 33 1 (some 35)), 36, 0) = some (none, (I', L, (zup (zup Q 33 0 (some 34)) 33 1 (some 35)), 36, 0)) ∧ cRu I' q usu ∧ (∀ c, c ≠ q → c ≠ q + 1 → I' c = I c) := by
  have r0 : rSt (zup I q 2 (nI 0)) q [] := ⟨by rw [zup_v, if_pos rfl]; rfl, fun i e h => by cases h⟩
  obtain ⟨I1, e1, f1, -, g1, h1⟩ := b40 (d := d) (c := 110) (I := zup I q 2 (nI 0)) (L := L) (Q := Q) hq ⟨0, by omega, by rw [zup_v, if_pos rfl]⟩
  have r1 := h1 [] r0 (by decide)
  obtain ⟨I2, e2, f2, -, g2, h2⟩ := b40 (d := d) (c := 97) (L := L) (Q := Q) hq g1
  have r2 := h2 _ r1 (by decide)
  obtain ⟨I3, e3, f3, -, g3, h3⟩ := b40 (d := d) (c := 62) (L := L) (Q := Q) hq g2
  have r3 := h3 _ r2 (by decide)
  refine ⟨I3, by rw [bk38 hq, e1, bV_n, be38_6 hq, e2, bV_n, be38_9 hq, e3, bV_n, be38_12 hq], ⟨r3.1, by decide, fun e he => ?_, r3.2⟩, fun c a b => by rw [f3.1 c a b, f2.1 c a b, f1.1 c a b, zup_ne _ _ _ a]⟩
  simp only [usu, List.mem_cons, List.not_mem_nil, or_false] at he
  rcases he with rfl | rfl | rfl <;> exact ⟨by decide, by decide⟩

theorem i37_33 : cal d 37 [.ref 33] (I, L, Q, 34, 0) = bV (cal d 38 [.ref 33] ((zrow (zrow I 34 z0) 35 z0), (zrow (zrow L 34 z0L) 35 z0L), (zup (zup Q 33 0 (some 34)) 33 1 (some 35)), 36, 0)) fun h1 => res d 37 12 [.ref 33] [] h1 := rt_go [12] c37i 40 rfl
theorem i37e_33 : res d 37 12 [.ref 33] [] (I, L, Q, 36, 0) = some (none, (I, L, Q, 36, 0)) := rt_go [] c37i 40 rfl
theorem i37t_33 : ∃ I', cal d 37 [.ref 33] (I, L, Q, 34, 0) = some (none, (I', (zrow (zrow L 34 z0L) 35 z0L), (zup (zup Q 33 0 (some 34)) 33 1 (some 35)), 36, 0)) ∧ cRu I' 33 usu ∧ ∀ c, c ≠ 33 → c ≠ 33 + 1 → c ≠ 33 + 2 → I' c = I c := by
  obtain ⟨I1, e1, h1, f1⟩ := b38 (d := d) (I := (zrow (zrow I 34 z0) 35 z0)) (L := (zrow (zrow L 34 z0L) 35 z0L)) (Q := Q) (q := 33) rfl
  exact ⟨I1, by rw [i37_33, e1, bV_n, i37e_33], h1, fun c a b e => by rw [f1 c a b, zrow_n e, zrow_n b]⟩
theorem i106_0 : res d 106 0 [.ref 1] [] (I, L, Q, 2, 0) = bV (cal d 93 [.ref 2] (zrow I 2 z0, L, zrow Q 2 zN, 3, 0)) fun h1 => res d 106 6 [.ref 1] [.ref 2, .ref 1] h1 := rt_go [6, 11, 16, 21, 30, 39, 48, 53, 58, 63, 72, 77] c106i 60 rfl
theorem i106_6 : res d 106 6 [.ref 1] [.ref 2, .ref 1] (I, L, Q, 4, 0) = bV (cal d 100 [.ref 4] (zrow I 4 z0, L, zrow (zup Q 1 0 (some 2)) 4 zN, 5, 0)) fun h1 => res d 106 11 [.ref 1] [.ref 4, .ref 1] h1 := rt_go [6, 11, 16, 21, 30, 39, 48, 53, 58, 63, 72, 77] c106i 60 rfl
theorem i106_11 : res d 106 11 [.ref 1] [.ref 4, .ref 1] (I, L, Q, 6, 0) = bV (cal d 10 [.ref 6] (zrow I 6 z0, L, zrow (zup Q 1 1 (some 4)) 6 zN, 7, 0)) fun h1 => res d 106 16 [.ref 1] [.ref 6, .ref 1] h1 := rt_go [6, 11, 16, 21, 30, 39, 48, 53, 58, 63, 72, 77] c106i 60 rfl
theorem i106_16 : res d 106 16 [.ref 1] [.ref 6, .ref 1] (I, L, Q, 9, 0) = bV (cal d 30 [.ref 9] (zrow I 9 z0, L, zrow (zup Q 1 2 (some 6)) 9 zN, 10, 0)) fun h1 => res d 106 21 [.ref 1] [.ref 9, .ref 1] h1 := rt_go [6, 11, 16, 21, 30, 39, 48, 53, 58, 63, 72, 77] c106i 60 rfl
theorem i106_21 : res d 106 21 [.ref 1] [.ref 9, .ref 1] (I, L, (zup (zup (zup (zup (zrow (zup Q 1 2 (some 6)) 9 zN) 9 0 (some 10)) 9 1 (some 11)) 9 2 (some 12)) 9 3 (some 13)), 14, 0) = bV (cal d 63 [.ref 14, .ref 6, .ref 9] (zrow I 14 z0, L, (zrow (zup (zup (zup (zup (zup (zrow (zup Q 1 2 (some 6)) 9 zN) 9 0 (some 10)) 9 1 (some 11)) 9 2 (some 12)) 9 3 (some 13)) 1 3 (some 9)) 14 zN), 15, 0)) fun h1 => res d 106 30 [.ref 1] [.ref 14, .ref 1] h1 := rt_go [6, 11, 16, 21, 30, 39, 48, 53, 58, 63, 72, 77] c106i 60 rfl
theorem i106_30 : res d 106 30 [.ref 1] [.ref 14, .ref 1] (I, L, (zup (zup (zup (zrow (zup (zup (zup (zup (zup (zrow (zup Q 1 2 (some 6)) 9 zN) 9 0 (some 10)) 9 1 (some 11)) 9 2 (some 12)) 9 3 (some 13)) 1 3 (some 9)) 14 zN) 14 2 (some 15)) 14 0 (some 6)) 14 1 (some 9)), 16, 0) = bV (cal d 63 [.ref 16, .ref 6, .ref 9] (zrow I 16 z0, L, (zrow (zup (zup (zup (zup (zrow (zup (zup (zup (zup (zup (zrow (zup Q 1 2 (some 6)) 9 zN) 9 0 (some 10)) 9 1 (some 11)) 9 2 (some 12)) 9 3 (some 13)) 1 3 (some 9)) 14 zN) 14 2 (some 15)) 14 0 (some 6)) 14 1 (some 9)) 1 4 (some 14)) 16 zN), 17, 0)) fun h1 => res d 106 39 [.ref 1] [.ref 16, .ref 1] h1 := rt_go [6, 11, 16, 21, 30, 39, 48, 53, 58, 63, 72, 77] c106i 60 rfl
theorem i106_39 : res d 106 39 [.ref 1] [.ref 16, .ref 1] (I, L, (zup (zup (zup (zrow (zup (zup (zup (zup (zrow (zup (zup (zup (zup (zup (zrow (zup Q 1 2 (some 6)) 9 zN) 9 0 (some 10)) 9 1 (some 11)) 9 2 (some 12)) 9 3 (some 13)) 1 3 (some 9)) 14 zN) 14 2 (some 15)) 14 0 (some 6)) 14 1 (some 9)) 1 4 (some 14)) 16 zN) 16 2 (some 17)) 16 0 (some 6)) 16 1 (some 9)), 18, 0) = bV (cal d 63 [.ref 18, .ref 6, .ref 9] (zrow I 18 z0, L, (zrow (zup (zup (zup (zup (zrow (zup (zup (zup (zup (zrow (zup (zup (zup (zup (zup (zrow (zup Q 1 2 (some 6)) 9 zN) 9 0 (some 10)) 9 1 (some 11)) 9 2 (some 12)) 9 3 (some 13)) 1 3 (some 9)) 14 zN) 14 2 (some 15)) 14 0 (some 6)) 14 1 (some 9)) 1 4 (some 14)) 16 zN) 16 2 (some 17)) 16 0 (some 6)) 16 1 (some 9)) 1 5 (some 16)) 18 zN), 19, 0)) fun h1 => res d 106 48 [.ref 1] [.ref 18, .ref 1] h1 := rt_go [6, 11, 16, 21, 30, 39, 48, 53, 58, 63, 72, 77] c106i 60 rfl
theorem i106_48 : res d 106 48 [.ref 1] [.ref 18, .ref 1] (I, L, Q, 20, 0) = bV (cal d 23 [.ref 20] (zrow I 20 z0, L, zrow (zup Q 1 6 (some 18)) 20 zN, 21, 0)) fun h1 => res d 106 53 [.ref 1] [.ref 20, .ref 1] h1 := rt_go [6, 11, 16, 21, 30, 39, 48, 53, 58, 63, 72, 77] c106i 60 rfl
theorem i106_53 : res d 106 53 [.ref 1] [.ref 20, .ref 1] (I, L, Q, 23, 0) = bV (cal d 0 [.ref 23] (zrow I 23 z0, L, zrow (zup Q 1 7 (some 20)) 23 zN, 24, 0)) fun h1 => res d 106 58 [.ref 1] [.ref 23, .ref 1] h1 := rt_go [6, 11, 16, 21, 30, 39, 48, 53, 58, 63, 72, 77] c106i 60 rfl
theorem i106_58 : res d 106 58 [.ref 1] [.ref 23, .ref 1] (I, L, Q, 26, 0) = bV (cal d 55 [.ref 26] (zrow I 26 z0, L, zrow (zup Q 1 8 (some 23)) 26 zN, 27, 0)) fun h1 => res d 106 63 [.ref 1] [.ref 26, .ref 1] h1 := rt_go [6, 11, 16, 21, 30, 39, 48, 53, 58, 63, 72, 77] c106i 60 rfl
theorem i106_63 : res d 106 63 [.ref 1] [.ref 26, .ref 1] (I, L, Q, 29, 0) = bV (cal d 37 [.ref 30] (zrow (zrow I 29 z0) 30 z0, zrow L 29 z0L, zrow (zup (zup Q 1 9 (some 26)) 1 10 (some 29)) 30 zN, 31, 0)) fun h1 => res d 106 72 [.ref 1] [.ref 30, .ref 1] h1 := rt_go [6, 11, 16, 21, 30, 39, 48, 53, 58, 63, 72, 77] c106i 60 rfl
theorem i106_72 : res d 106 72 [.ref 1] [.ref 30, .ref 1] (I, L, Q, 33, 0) = bV (cal d 37 [.ref 33] (zrow I 33 z0, L, zrow (zup Q 1 11 (some 30)) 33 zN, 34, 0)) fun h1 => res d 106 77 [.ref 1] [.ref 33, .ref 1] h1 := rt_go [6, 11, 16, 21, 30, 39, 48, 53, 58, 63, 72, 77] c106i 60 rfl
theorem i106_77 : res d 106 77 [.ref 1] [.ref 33, .ref 1] (I, L, Q, 36, 0) = some (none, (I, L, zup Q 1 12 (some 33), 36, 0)) := rt_go [] c106i 60 rfl
theorem i106_k : cal d 106 [.ref 1] (I, L, Q, 2, 0) = res d 106 0 [.ref 1] [] (I, L, Q, 2, 0) := rfl
theorem i177_0s : res d 177 0 [.ref 36] [] (I, L, Q, 37, 0) = res d 177 24 [.ref 36] [] ((zrow (zrow (zrow (zup (zup (zrow I 37 z0) 36 2 (nI 3)) 36 3 (nI 4)) 38 z0) 39 z0) 40 z0), (zrow (zrow (zrow (zrow L 37 z0L) 38 z0L) 39 z0L) 40 z0L), (zup (zup (zup (zup Q 36 0 (some 37)) 36 4 (some 38)) 36 5 (some 39)) 36 6 (some 40)), 41, 0) := rt_go [24] c177i 60 rfl
theorem i177_24s : res d 177 24 [.ref 36] [] (I, L, Q, 41, 0) = res d 177 40 [.ref 36] [] ((zrow (zrow (zrow (zrow I 41 z0) 42 z0) 43 z0) 44 z0), (zrow (zrow (zrow (zrow L 41 z0L) 42 z0L) 43 z0L) 44 z0L), (zup (zup (zup (zup Q 36 8 (some 41)) 36 16 (some 42)) 36 17 (some 43)) 36 18 (some 44)), 45, 0) := rt_go [40] c177i 60 rfl
theorem i177_40s : res d 177 40 [.ref 36] [] (I, L, Q, 45, 0) = res d 177 60 [.ref 36] [] ((zrow (zrow (zrow (zrow (zrow I 45 z0) 46 z0) 47 z0) 48 z0) 49 z0), (zrow (zrow (zrow (zrow (zrow L 45 z0L) 46 z0L) 47 z0L) 48 z0L) 49 z0L), (zup (zup (zup (zup (zup Q 36 19 (some 45)) 36 22 (some 46)) 36 23 (some 47)) 36 24 (some 48)) 36 25 (some 49)), 50, 0) := rt_go [60] c177i 60 rfl
theorem i177_60s : res d 177 60 [.ref 36] [] (I, L, Q, 50, 0) = res d 177 80 [.ref 36] [] ((zrow (zrow (zrow (zrow (zrow I 50 z0) 51 z0) 52 z0) 53 z0) 54 z0), (zrow (zrow (zrow (zrow (zrow L 50 z0L) 51 z0L) 52 z0L) 53 z0L) 54 z0L), (zup (zup (zup (zup (zup Q 36 26 (some 50)) 36 28 (some 51)) 36 29 (some 52)) 36 31 (some 53)) 36 32 (some 54)), 55, 0) := rt_go [80] c177i 60 rfl
theorem i177_80s : res d 177 80 [.ref 36] [] (I, L, Q, 55, 0) = res d 177 100 [.ref 36] [] ((zrow (zrow (zrow (zrow (zrow I 55 z0) 56 z0) 57 z0) 58 z0) 59 z0), (zrow (zrow (zrow (zrow (zrow L 55 z0L) 56 z0L) 57 z0L) 58 z0L) 59 z0L), (zup (zup (zup (zup (zup Q 36 33 (some 55)) 36 34 (some 56)) 36 36 (some 57)) 36 37 (some 58)) 36 39 (some 59)), 60, 0) := rt_go [100] c177i 60 rfl
theorem i177_100s : res d 177 100 [.ref 36] [] (I, L, Q, 60, 0) = res d 177 116 [.ref 36] [] ((zrow (zrow (zrow (zrow I 60 z0) 61 z0) 62 z0) 63 z0), (zrow (zrow (zrow (zrow L 60 z0L) 61 z0L) 62 z0L) 63 z0L), (zup (zup (zup (zup Q 36 40 (some 60)) 36 43 (some 61)) 36 44 (some 62)) 36 45 (some 63)), 64, 0) := rt_go [116] c177i 60 rfl
theorem i177_116s : res d 177 116 [.ref 36] [] (I, L, (zup (zup (zup (zup (zup (zup (zup (zup (zup (zup (zup (zup (zup (zup (zup (zup (zup (zup (zup (zup (zup (zup (zup (zup (zup (zup (zup Q 36 0 (some 37)) 36 4 (some 38)) 36 5 (some 39)) 36 6 (some 40)) 36 8 (some 41)) 36 16 (some 42)) 36 17 (some 43)) 36 18 (some 44)) 36 19 (some 45)) 36 22 (some 46)) 36 23 (some 47)) 36 24 (some 48)) 36 25 (some 49)) 36 26 (some 50)) 36 28 (some 51)) 36 29 (some 52)) 36 31 (some 53)) 36 32 (some 54)) 36 33 (some 55)) 36 34 (some 56)) 36 36 (some 57)) 36 37 (some 58)) 36 39 (some 59)) 36 40 (some 60)) 36 43 (some 61)) 36 44 (some 62)) 36 45 (some 63)), 64, 0) = bV (cal d 197 [.ref 36, .int (nI 3)] ((zup (zup (zup I 42 0 (nI 1)) 42 1 (nI 2)) 42 2 (nI 1)), L, (zup (zup (zup (zup (zup (zup (zup (zup (zup (zup (zup (zup (zup (zup (zup (zup (zup (zup (zup (zup (zup (zup (zup (zup (zup (zup (zup Q 36 0 (some 37)) 36 4 (some 38)) 36 5 (some 39)) 36 6 (some 40)) 36 8 (some 41)) 36 16 (some 42)) 36 17 (some 43)) 36 18 (some 44)) 36 19 (some 45)) 36 22 (some 46)) 36 23 (some 47)) 36 24 (some 48)) 36 25 (some 49)) 36 26 (some 50)) 36 28 (some 51)) 36 29 (some 52)) 36 31 (some 53)) 36 32 (some 54)) 36 33 (some 55)) 36 34 (some 56)) 36 36 (some 57)) 36 37 (some 58)) 36 39 (some 59)) 36 40 (some 60)) 36 43 (some 61)) 36 44 (some 62)) 36 45 (some 63)), 64, 0)) fun h1 => res d 177 134 [.ref 36] [] h1 := rt_go [134] c177i 60 rfl
theorem i177_0 : cal d 177 [.ref 36] (I, L, Q, 37, 0) = bV (cal d 197 [.ref 36, .int (nI 3)] ((zup (zup (zup (zrow (zrow (zrow (zrow (zrow (zrow (zrow (zrow (zrow (zrow (zrow (zrow (zrow (zrow (zrow (zrow (zrow (zrow (zrow (zrow (zrow (zrow (zrow (zrow (zrow (zrow (zup (zup (zrow I 37 z0) 36 2 (nI 3)) 36 3 (nI 4)) 38 z0) 39 z0) 40 z0) 41 z0) 42 z0) 43 z0) 44 z0) 45 z0) 46 z0) 47 z0) 48 z0) 49 z0) 50 z0) 51 z0) 52 z0) 53 z0) 54 z0) 55 z0) 56 z0) 57 z0) 58 z0) 59 z0) 60 z0) 61 z0) 62 z0) 63 z0) 42 0 (nI 1)) 42 1 (nI 2)) 42 2 (nI 1)), (zrow (zrow (zrow (zrow (zrow (zrow (zrow (zrow (zrow (zrow (zrow (zrow (zrow (zrow (zrow (zrow (zrow (zrow (zrow (zrow (zrow (zrow (zrow (zrow (zrow (zrow (zrow L 37 z0L) 38 z0L) 39 z0L) 40 z0L) 41 z0L) 42 z0L) 43 z0L) 44 z0L) 45 z0L) 46 z0L) 47 z0L) 48 z0L) 49 z0L) 50 z0L) 51 z0L) 52 z0L) 53 z0L) 54 z0L) 55 z0L) 56 z0L) 57 z0L) 58 z0L) 59 z0L) 60 z0L) 61 z0L) 62 z0L) 63 z0L), (zup (zup (zup (zup (zup (zup (zup (zup (zup (zup (zup (zup (zup (zup (zup (zup (zup (zup (zup (zup (zup (zup (zup (zup (zup (zup (zup Q 36 0 (some 37)) 36 4 (some 38)) 36 5 (some 39)) 36 6 (some 40)) 36 8 (some 41)) 36 16 (some 42)) 36 17 (some 43)) 36 18 (some 44)) 36 19 (some 45)) 36 22 (some 46)) 36 23 (some 47)) 36 24 (some 48)) 36 25 (some 49)) 36 26 (some 50)) 36 28 (some 51)) 36 29 (some 52)) 36 31 (some 53)) 36 32 (some 54)) 36 33 (some 55)) 36 34 (some 56)) 36 36 (some 57)) 36 37 (some 58)) 36 39 (some 59)) 36 40 (some 60)) 36 43 (some 61)) 36 44 (some 62)) 36 45 (some 63)), 64, 0)) fun h1 => res d 177 134 [.ref 36] [] h1 := by
  show res d 177 0 [.ref 36] [] (I, L, Q, 37, 0) = _
  rw [i177_0s, i177_24s, i177_40s, i177_60s, i177_80s, i177_100s, i177_116s]
theorem i177_134 : res d 177 134 [.ref 36] [] (I, L, Q, 64, 0) = some (none, (I, L, Q, 64, 0)) := rt_go [] c177i 5 rfl
theorem je197_0 {v1 : Int32} : res d 197 0 [.ref 36, .int v1, .null, .null] [] (I, L, (zup (zup (zup (zup (zup (zup (zup (zup (zup (zup (zup (zup (zup (zup (zup (zup (zup (zup (zup (zup (zup (zup (zup (zup (zup (zup (zup Q 36 0 (some 37)) 36 4 (some 38)) 36 5 (some 39)) 36 6 (some 40)) 36 8 (some 41)) 36 16 (some 42)) 36 17 (some 43)) 36 18 (some 44)) 36 19 (some 45)) 36 22 (some 46)) 36 23 (some 47)) 36 24 (some 48)) 36 25 (some 49)) 36 26 (some 50)) 36 28 (some 51)) 36 29 (some 52)) 36 31 (some 53)) 36 32 (some 54)) 36 33 (some 55)) 36 34 (some 56)) 36 36 (some 57)) 36 37 (some 58)) 36 39 (some 59)) 36 40 (some 60)) 36 43 (some 61)) 36 44 (some 62)) 36 45 (some 63)), 64, 0) = res d 197 8 [.ref 36, .int v1, .int (nI 0), .null] [] (zup (zup I 36 2 v1) 36 3 (nI 0), L, (zup (zup (zup (zup (zup (zup (zup (zup (zup (zup (zup (zup (zup (zup (zup (zup (zup (zup (zup (zup (zup (zup (zup (zup (zup (zup (zup Q 36 0 (some 37)) 36 4 (some 38)) 36 5 (some 39)) 36 6 (some 40)) 36 8 (some 41)) 36 16 (some 42)) 36 17 (some 43)) 36 18 (some 44)) 36 19 (some 45)) 36 22 (some 46)) 36 23 (some 47)) 36 24 (some 48)) 36 25 (some 49)) 36 26 (some 50)) 36 28 (some 51)) 36 29 (some 52)) 36 31 (some 53)) 36 32 (some 54)) 36 33 (some 55)) 36 34 (some 56)) 36 36 (some 57)) 36 37 (some 58)) 36 39 (some 59)) 36 40 (some 60)) 36 43 (some 61)) 36 44 (some 62)) 36 45 (some 63)), 64, 0) := rt_go [8, 19] c197 61 rfl
theorem jl197_8 {v1 : Int32} {v2 : Int32} {w3 : Value} : res d 197 8 [.ref 36, .int v1, .int v2, w3] [] (I, L, (zup (zup (zup (zup (zup (zup (zup (zup (zup (zup (zup (zup (zup (zup (zup (zup (zup (zup (zup (zup (zup (zup (zup (zup (zup (zup (zup Q 36 0 (some 37)) 36 4 (some 38)) 36 5 (some 39)) 36 6 (some 40)) 36 8 (some 41)) 36 16 (some 42)) 36 17 (some 43)) 36 18 (some 44)) 36 19 (some 45)) 36 22 (some 46)) 36 23 (some 47)) 36 24 (some 48)) 36 25 (some 49)) 36 26 (some 50)) 36 28 (some 51)) 36 29 (some 52)) 36 31 (some 53)) 36 32 (some 54)) 36 33 (some 55)) 36 34 (some 56)) 36 36 (some 57)) 36 37 (some 58)) 36 39 (some 59)) 36 40 (some 60)) 36 43 (some 61)) 36 44 (some 62)) 36 45 (some 63)), 64, 0) = if v1 ≤ v2 then (if aok 1 39 v1 = true then (if aok 1 38 (I 36 3) = true then (some (none, (zup (zup I 39 v1.toNatClampNeg (I 36 3)) 38 (I 36 3).toNatClampNeg v1, L, (zup (zup (zup (zup (zup (zup (zup (zup (zup (zup (zup (zup (zup (zup (zup (zup (zup (zup (zup (zup (zup (zup (zup (zup (zup (zup (zup Q 36 0 (some 37)) 36 4 (some 38)) 36 5 (some 39)) 36 6 (some 40)) 36 8 (some 41)) 36 16 (some 42)) 36 17 (some 43)) 36 18 (some 44)) 36 19 (some 45)) 36 22 (some 46)) 36 23 (some 47)) 36 24 (some 48)) 36 25 (some 49)) 36 26 (some 50)) 36 28 (some 51)) 36 29 (some 52)) 36 31 (some 53)) 36 32 (some 54)) 36 33 (some 55)) 36 34 (some 56)) 36 36 (some 57)) 36 37 (some 58)) 36 39 (some 59)) 36 40 (some 60)) 36 43 (some 61)) 36 44 (some 62)) 36 45 (some 63)), 64, 0))) else none) else none) else (if aok 1 39 v2 = true then (res d 197 19 [.ref 36, .int v1, .int v2, .int (nI 0)] [] (zup I 39 v2.toNatClampNeg (I 36 3), L, (zup (zup (zup (zup (zup (zup (zup (zup (zup (zup (zup (zup (zup (zup (zup (zup (zup (zup (zup (zup (zup (zup (zup (zup (zup (zup (zup Q 36 0 (some 37)) 36 4 (some 38)) 36 5 (some 39)) 36 6 (some 40)) 36 8 (some 41)) 36 16 (some 42)) 36 17 (some 43)) 36 18 (some 44)) 36 19 (some 45)) 36 22 (some 46)) 36 23 (some 47)) 36 24 (some 48)) 36 25 (some 49)) 36 26 (some 50)) 36 28 (some 51)) 36 29 (some 52)) 36 31 (some 53)) 36 32 (some 54)) 36 33 (some 55)) 36 34 (some 56)) 36 36 (some 57)) 36 37 (some 58)) 36 39 (some 59)) 36 40 (some 60)) 36 43 (some 61)) 36 44 (some 62)) 36 45 (some 63)), 64, 0)) else none) := rt_go [8, 19] c197 61 rfl
theorem jl197_19 {v1 : Int32} {v2 : Int32} {v3 : Int32} : res d 197 19 [.ref 36, .int v1, .int v2, .int v3] [] (I, L, (zup (zup (zup (zup (zup (zup (zup (zup (zup (zup (zup (zup (zup (zup (zup (zup (zup (zup (zup (zup (zup (zup (zup (zup (zup (zup (zup Q 36 0 (some 37)) 36 4 (some 38)) 36 5 (some 39)) 36 6 (some 40)) 36 8 (some 41)) 36 16 (some 42)) 36 17 (some 43)) 36 18 (some 44)) 36 19 (some 45)) 36 22 (some 46)) 36 23 (some 47)) 36 24 (some 48)) 36 25 (some 49)) 36 26 (some 50)) 36 28 (some 51)) 36 29 (some 52)) 36 31 (some 53)) 36 32 (some 54)) 36 33 (some 55)) 36 34 (some 56)) 36 36 (some 57)) 36 37 (some 58)) 36 39 (some 59)) 36 40 (some 60)) 36 43 (some 61)) 36 44 (some 62)) 36 45 (some 63)), 64, 0) = if aok 1 42 v2 = true then (if (I 42 v2.toNatClampNeg) ≤ v3 then (if aok 1 42 v2 = true then (res d 197 8 [.ref 36, .int v1, .int (v2 + (nI 1)), .int v3] [] (zup I 36 3 ((I 36 3) + (I 42 v2.toNatClampNeg)), L, (zup (zup (zup (zup (zup (zup (zup (zup (zup (zup (zup (zup (zup (zup (zup (zup (zup (zup (zup (zup (zup (zup (zup (zup (zup (zup (zup Q 36 0 (some 37)) 36 4 (some 38)) 36 5 (some 39)) 36 6 (some 40)) 36 8 (some 41)) 36 16 (some 42)) 36 17 (some 43)) 36 18 (some 44)) 36 19 (some 45)) 36 22 (some 46)) 36 23 (some 47)) 36 24 (some 48)) 36 25 (some 49)) 36 26 (some 50)) 36 28 (some 51)) 36 29 (some 52)) 36 31 (some 53)) 36 32 (some 54)) 36 33 (some 55)) 36 34 (some 56)) 36 36 (some 57)) 36 37 (some 58)) 36 39 (some 59)) 36 40 (some 60)) 36 43 (some 61)) 36 44 (some 62)) 36 45 (some 63)), 64, 0)) else none) else (if aok 1 38 ((I 36 3) + v3) = true then (res d 197 19 [.ref 36, .int v1, .int v2, .int (v3 + (nI 1))] [] (zup I 38 ((I 36 3) + v3).toNatClampNeg v2, L, (zup (zup (zup (zup (zup (zup (zup (zup (zup (zup (zup (zup (zup (zup (zup (zup (zup (zup (zup (zup (zup (zup (zup (zup (zup (zup (zup Q 36 0 (some 37)) 36 4 (some 38)) 36 5 (some 39)) 36 6 (some 40)) 36 8 (some 41)) 36 16 (some 42)) 36 17 (some 43)) 36 18 (some 44)) 36 19 (some 45)) 36 22 (some 46)) 36 23 (some 47)) 36 24 (some 48)) 36 25 (some 49)) 36 26 (some 50)) 36 28 (some 51)) 36 29 (some 52)) 36 31 (some 53)) 36 32 (some 54)) 36 33 (some 55)) 36 34 (some 56)) 36 36 (some 57)) 36 37 (some 58)) 36 39 (some 59)) 36 40 (some 60)) 36 43 (some 61)) 36 44 (some 62)) 36 45 (some 63)), 64, 0)) else none)) else none := rt_go [8, 19] c197 61 rfl
theorem jk197 {v1 : Int32} : cal d 197 [.ref 36, .int v1] (I, L, (zup (zup (zup (zup (zup (zup (zup (zup (zup (zup (zup (zup (zup (zup (zup (zup (zup (zup (zup (zup (zup (zup (zup (zup (zup (zup (zup Q 36 0 (some 37)) 36 4 (some 38)) 36 5 (some 39)) 36 6 (some 40)) 36 8 (some 41)) 36 16 (some 42)) 36 17 (some 43)) 36 18 (some 44)) 36 19 (some 45)) 36 22 (some 46)) 36 23 (some 47)) 36 24 (some 48)) 36 25 (some 49)) 36 26 (some 50)) 36 28 (some 51)) 36 29 (some 52)) 36 31 (some 53)) 36 32 (some 54)) 36 33 (some 55)) 36 34 (some 56)) 36 36 (some 57)) 36 37 (some 58)) 36 39 (some 59)) 36 40 (some 60)) 36 43 (some 61)) 36 44 (some 62)) 36 45 (some 63)), 64, 0) = res d 197 8 [.ref 36, .int v1, .int (nI 0), .null] [] (zup (zup I 36 2 v1) 36 3 (nI 0), L, (zup (zup (zup (zup (zup (zup (zup (zup (zup (zup (zup (zup (zup (zup (zup (zup (zup (zup (zup (zup (zup (zup (zup (zup (zup (zup (zup Q 36 0 (some 37)) 36 4 (some 38)) 36 5 (some 39)) 36 6 (some 40)) 36 8 (some 41)) 36 16 (some 42)) 36 17 (some 43)) 36 18 (some 44)) 36 19 (some 45)) 36 22 (some 46)) 36 23 (some 47)) 36 24 (some 48)) 36 25 (some 49)) 36 26 (some 50)) 36 28 (some 51)) 36 29 (some 52)) 36 31 (some 53)) 36 32 (some 54)) 36 33 (some 55)) 36 34 (some 56)) 36 36 (some 57)) 36 37 (some 58)) 36 39 (some 59)) 36 40 (some 60)) 36 43 (some 61)) 36 44 (some 62)) 36 45 (some 63)), 64, 0) := je197_0
theorem ji197 {r c z : Nat} {v1 : Int32} (hr : r < 9) (hz : c + z ≤ 16) : ∀ j v (I : Nat → Nat → Int32), v + j = z → I 36 3 = nI c → I 42 r = nI z → ∃ I', res d 197 19 [.ref 36, .int v1, .int (nI r), .int (nI v)] [] (I, L, (zup (zup (zup (zup (zup (zup (zup (zup (zup (zup (zup (zup (zup (zup (zup (zup (zup (zup (zup (zup (zup (zup (zup (zup (zup (zup (zup Q 36 0 (some 37)) 36 4 (some 38)) 36 5 (some 39)) 36 6 (some 40)) 36 8 (some 41)) 36 16 (some 42)) 36 17 (some 43)) 36 18 (some 44)) 36 19 (some 45)) 36 22 (some 46)) 36 23 (some 47)) 36 24 (some 48)) 36 25 (some 49)) 36 26 (some 50)) 36 28 (some 51)) 36 29 (some 52)) 36 31 (some 53)) 36 32 (some 54)) 36 33 (some 55)) 36 34 (some 56)) 36 36 (some 57)) 36 37 (some 58)) 36 39 (some 59)) 36 40 (some 60)) 36 43 (some 61)) 36 44 (some 62)) 36 45 (some 63)), 64, 0) = res d 197 8 [.ref 36, .int v1, .int (nI (r + 1)), .int (nI z)] [] (zup I' 36 3 (nI (c + z)), L, (zup (zup (zup (zup (zup (zup (zup (zup (zup (zup (zup (zup (zup (zup (zup (zup (zup (zup (zup (zup (zup (zup (zup (zup (zup (zup (zup Q 36 0 (some 37)) 36 4 (some 38)) 36 5 (some 39)) 36 6 (some 40)) 36 8 (some 41)) 36 16 (some 42)) 36 17 (some 43)) 36 18 (some 44)) 36 19 (some 45)) 36 22 (some 46)) 36 23 (some 47)) 36 24 (some 48)) 36 25 (some 49)) 36 26 (some 50)) 36 28 (some 51)) 36 29 (some 52)) 36 31 (some 53)) 36 32 (some 54)) 36 33 (some 55)) 36 34 (some 56)) 36 36 (some 57)) 36 37 (some 58)) 36 39 (some 59)) 36 40 (some 60)) 36 43 (some 61)) 36 44 (some 62)) 36 45 (some 63)), 64, 0) ∧ (∀ s, c + v ≤ s → s < c + z → I' 38 s = nI r) ∧ (∀ s, s < c + v → I' 38 s = I 38 s) ∧ ∀ b, b ≠ 38 → I' b = I b
  | 0, v, I, hv, h3, h42 => ⟨I, by rw [jl197_19, if_pos (ak_42 hr), nI_clamp (by omega), h42, if_pos (by rw [nI_leI (by omega) (by omega)]; omega), if_pos (ak_42 hr), h3, nI_add, nI_add, show v = z by omega], fun s a b => by omega, fun _ _ => rfl, fun _ _ => rfl⟩
  | j + 1, v, I, hv, h3, h42 => by
    obtain ⟨I1, e1, p1, p2, p3⟩ := ji197 (v1 := v1) hr hz j (v + 1) (zup I 38 (c + v) (nI r)) (by omega) (by rw [zup_ne _ _ _ (by decide)]; exact h3) (by rw [zup_ne _ _ _ (by decide)]; exact h42)
    refine ⟨I1, ?_, fun s a b => ?_, fun s a => ?_, fun b hb => by rw [p3 b hb, zup_ne _ _ _ hb]⟩
    · rw [jl197_19, if_pos (ak_42 hr), nI_clamp (by omega), h42, if_neg (by rw [nI_leI (by omega) (by omega)]; omega), h3, nI_add, if_pos (ak_38 (by omega)), nI_clamp (by omega), nI_add]
      exact e1
    · by_cases y : s = c + v
      · rw [y, p2 _ (by omega), zup_v, if_pos rfl]
      · exact p1 s (by omega) b
    · rw [p2 s (by omega), zup_v, if_neg (by omega)]

theorem jl197 (h1 : 1 ≤ n) (h8 : n ≤ 8) (h : ∀ k, k < n → t k = 49 ∨ t k = 50) : ∀ j r (I : Nat → Nat → Int32) (w3 : Value), r + j = n → mLy I t n r → ∃ I', res d 197 8 [.ref 36, .int (nI n), .int (nI r), w3] [] (I, L, (zup (zup (zup (zup (zup (zup (zup (zup (zup (zup (zup (zup (zup (zup (zup (zup (zup (zup (zup (zup (zup (zup (zup (zup (zup (zup (zup Q 36 0 (some 37)) 36 4 (some 38)) 36 5 (some 39)) 36 6 (some 40)) 36 8 (some 41)) 36 16 (some 42)) 36 17 (some 43)) 36 18 (some 44)) 36 19 (some 45)) 36 22 (some 46)) 36 23 (some 47)) 36 24 (some 48)) 36 25 (some 49)) 36 26 (some 50)) 36 28 (some 51)) 36 29 (some 52)) 36 31 (some 53)) 36 32 (some 54)) 36 33 (some 55)) 36 34 (some 56)) 36 36 (some 57)) 36 37 (some 58)) 36 39 (some 59)) 36 40 (some 60)) 36 43 (some 61)) 36 44 (some 62)) 36 45 (some 63)), 64, 0) = some (none, (I', L, (zup (zup (zup (zup (zup (zup (zup (zup (zup (zup (zup (zup (zup (zup (zup (zup (zup (zup (zup (zup (zup (zup (zup (zup (zup (zup (zup Q 36 0 (some 37)) 36 4 (some 38)) 36 5 (some 39)) 36 6 (some 40)) 36 8 (some 41)) 36 16 (some 42)) 36 17 (some 43)) 36 18 (some 44)) 36 19 (some 45)) 36 22 (some 46)) 36 23 (some 47)) 36 24 (some 48)) 36 25 (some 49)) 36 26 (some 50)) 36 28 (some 51)) 36 29 (some 52)) 36 31 (some 53)) 36 32 (some 54)) 36 33 (some 55)) 36 34 (some 56)) 36 36 (some 57)) 36 37 (some 58)) 36 39 (some 59)) 36 40 (some 60)) 36 43 (some 61)) 36 44 (some 62)) 36 45 (some 63)), 64, 0)) ∧ mCt I' n (cff t n) (cff t) (cgg t n) ∧ (∀ c, c ≠ 36 → c ≠ 38 → c ≠ 39 → I' c = I c) ∧ ∀ k, k ≠ 2 → k ≠ 3 → I' 36 k = I 36 k
  | 0, r, I, w3, hr, hL => by
    have : r = n := by omega
    subst this
    obtain ⟨l1, l2, l3, l4, l5⟩ := hL
    have hct := cct h1 h8 h
    have hS := hct.S16
    refine ⟨zup (zup I 39 r (nI (cff t r))) 38 (cff t r) (nI r), ?_, ⟨?_, ?_, fun s hs => ?_, fun q hq => ?_⟩, fun c a b e => by rw [zup_ne _ _ _ b, zup_ne _ _ _ e], fun k a b => by rw [zup_ne _ _ _ (by decide), zup_ne _ _ _ (by decide)]⟩
    · rw [jl197_8, if_pos (by rw [nI_leI (by omega) (by omega)]; omega), if_pos (ak_39 (by omega)), l2, if_pos (ak_38 (by omega)), nI_clamp (by omega), nI_clamp (by omega)]
    · rw [zup_ne _ _ _ (by decide), zup_ne _ _ _ (by decide)]; exact l1
    · rw [zup_ne _ _ _ (by decide), zup_ne _ _ _ (by decide)]; exact l2
    · rw [zup_v]
      by_cases y : s = cff t r
      · rw [if_pos y, y]
        have hx := hct.2.2.2.2.2.2
        rw [hx]
      · rw [if_neg y, zup_ne _ _ _ (by decide)]; exact l3 s (by omega)
    · rw [zup_ne _ _ _ (by decide), zup_v]
      by_cases y : q = r
      · rw [if_pos y, y]
      · rw [if_neg y]; exact l4 q (by omega)
  | j + 1, r, I, w3, hr, hL => by
    obtain ⟨l1, l2, l3, l4, l5⟩ := hL
    have hct := cct h1 h8 h
    have hS := hct.S16
    have e0 : cff t (r + 1) = cff t r + (t r - 48) := rfl
    have hle : cff t (r + 1) ≤ cff t n := by
      have := cff_m h (n - (r + 1)) (r + 1) (by omega)
      rw [show r + 1 + (n - (r + 1)) = n by omega] at this
      exact this
    obtain ⟨I1, e1, p1, p2, p3⟩ := ji197 (d := d) (L := L) (Q := Q) (r := r) (c := cff t r) (z := t r - 48) (v1 := nI n) (by omega) (by omega) (t r - 48) 0 (zup I 39 r (nI (cff t r))) (by omega) (by rw [zup_ne _ _ _ (by decide)]; exact l2) (by rw [zup_ne _ _ _ (by decide)]; exact l5 r (by omega))
    have hL2 : mLy (zup I1 36 3 (nI (cff t (r + 1)))) t n (r + 1) := by
      refine ⟨?_, ?_, fun s hs => ?_, fun q hq => ?_, fun i hi => ?_⟩
      · rw [zup_v, if_neg (by decide), p3 36 (by decide), zup_ne _ _ _ (by decide)]; exact l1
      · rw [zup_v, if_pos rfl]
      · rw [zup_ne _ _ _ (by decide)]
        by_cases y : s < cff t r
        · rw [p2 s (by omega), zup_ne _ _ _ (by decide)]; exact l3 s y
        · rw [p1 s (by omega) (by omega), cgg_r h (show r < n by omega) (by omega) hs]
      · rw [zup_ne _ _ _ (by decide), p3 39 (by decide), zup_v]
        by_cases y : q = r
        · rw [if_pos y, y]
        · rw [if_neg y]; exact l4 q (by omega)
      · rw [zup_ne _ _ _ (by decide), p3 42 (by decide), zup_ne _ _ _ (by decide)]; exact l5 i hi
    obtain ⟨I2, e2, h2, c2, k2⟩ := jl197 h1 h8 h j (r + 1) (zup I1 36 3 (nI (cff t (r + 1)))) (.int (nI (t r - 48))) (by omega) hL2
    refine ⟨I2, ?_, h2, fun c a b e => by rw [c2 c a b e, zup_ne _ _ _ a, p3 c b, zup_ne _ _ _ e], fun k a b => by rw [k2 k a b, zup_v, if_neg b, p3 36 (by decide), zup_ne _ _ _ (by decide)]⟩
    rw [jl197_8, if_neg (by rw [nI_leI (by omega) (by omega)]; omega), if_pos (ak_39 (by omega)), l2, nI_clamp (by omega), e1]
    rw [e0] at e2
    exact e2

abbrev qC (Q : Nat → Nat → Option Nat) : Nat → Nat → Option Nat := (zup (zup (zup (zrow (zup (zup (zup (zrow (zup (zup (zup (zup (zrow (zup (zup (zup (zrow (zup (zup (zup (zrow (zup (zup (zup (zup (zrow (zup (zup (zup (zup (zrow (zup (zup (zup (zup (zrow (zup (zup (zup (zup (zup (zrow (zup (zup (zup (zrow (zup (zup (zrow (zup (zup (zrow Q 2 zN) 2 0 (some 3)) 1 0 (some 2)) 4 zN) 4 0 (some 5)) 1 1 (some 4)) 6 zN) 6 0 (some 7)) 6 1 (some 8)) 1 2 (some 6)) 9 zN) 9 0 (some 10)) 9 1 (some 11)) 9 2 (some 12)) 9 3 (some 13)) 1 3 (some 9)) 14 zN) 14 2 (some 15)) 14 0 (some 6)) 14 1 (some 9)) 1 4 (some 14)) 16 zN) 16 2 (some 17)) 16 0 (some 6)) 16 1 (some 9)) 1 5 (some 16)) 18 zN) 18 2 (some 19)) 18 0 (some 6)) 18 1 (some 9)) 1 6 (some 18)) 20 zN) 20 0 (some 21)) 20 1 (some 22)) 1 7 (some 20)) 23 zN) 23 0 (some 24)) 23 1 (some 25)) 1 8 (some 23)) 26 zN) 26 0 (some 27)) 26 1 (some 28)) 1 9 (some 26)) 1 10 (some 29)) 30 zN) 30 0 (some 31)) 30 1 (some 32)) 1 11 (some 30)) 33 zN) 33 0 (some 34)) 33 1 (some 35)) 1 12 (some 33))
theorem i106 : ∃ I' L', cal d 106 [.ref 1] (I, L, Q, 2, 0) = some (none, (I', L', qC Q, 36, 0)) ∧ cLy I' tZ 3 3 ∧ cRu I' 30 usu ∧ I' 2 = z0 ∧ I' 4 = z0 ∧ I' 15 = z0 ∧ I' 20 = z0 ∧ I' 23 = z0 ∧ I' 26 = z0 ∧ ∀ c, 36 ≤ c → scr c = false → I' c = I c := by
  obtain ⟨I1, e1, h1, f1⟩ := i10t (d := d) (I := (zrow (zrow (zrow (zrow (zrow I 2 z0) 3 z0) 4 z0) 5 z0) 6 z0)) (L := (zrow (zrow L 3 z0L) 5 z0L)) (Q := (zrow (zup (zup (zrow (zup (zup (zrow Q 2 zN) 2 0 (some 3)) 1 0 (some 2)) 4 zN) 4 0 (some 5)) 1 1 (some 4)) 6 zN)) zrow_e
  obtain ⟨I2, e2, h2, f2⟩ := i37t_30 (d := d) (I := (zrow (zrow (zrow (zrow (zrow (zrow (zrow (zrow (zrow (zrow (zrow (zrow (zrow (zrow (zrow (zrow (zrow (zrow (zrow (zrow (zrow (zrow I1 9 z0) 10 z0) 11 z0) 12 z0) 13 z0) 14 z0) 15 z0) 16 z0) 17 z0) 18 z0) 19 z0) 20 z0) 21 z0) 22 z0) 23 z0) 24 z0) 25 z0) 26 z0) 27 z0) 28 z0) 29 z0) 30 z0)) (L := (zrow (zrow (zrow (zrow (zrow (zrow (zrow (zrow (zrow (zrow (zrow (zrow (zrow (zrow (zrow (zrow (zrow (zrow L 3 z0L) 5 z0L) 7 z0L) 8 z0L) 10 z0L) 11 z0L) 12 z0L) 13 z0L) 15 z0L) 17 z0L) 19 z0L) 21 z0L) 22 z0L) 24 z0L) 25 z0L) 27 z0L) 28 z0L) 29 z0L)) (Q := (zrow (zup (zup (zup (zup (zrow (zup (zup (zup (zrow (zup (zup (zup (zrow (zup (zup (zup (zup (zrow (zup (zup (zup (zup (zrow (zup (zup (zup (zup (zrow (zup (zup (zup (zup (zup (zrow (zup (zup (zup (zrow (zup (zup (zrow (zup (zup (zrow Q 2 zN) 2 0 (some 3)) 1 0 (some 2)) 4 zN) 4 0 (some 5)) 1 1 (some 4)) 6 zN) 6 0 (some 7)) 6 1 (some 8)) 1 2 (some 6)) 9 zN) 9 0 (some 10)) 9 1 (some 11)) 9 2 (some 12)) 9 3 (some 13)) 1 3 (some 9)) 14 zN) 14 2 (some 15)) 14 0 (some 6)) 14 1 (some 9)) 1 4 (some 14)) 16 zN) 16 2 (some 17)) 16 0 (some 6)) 16 1 (some 9)) 1 5 (some 16)) 18 zN) 18 2 (some 19)) 18 0 (some 6)) 18 1 (some 9)) 1 6 (some 18)) 20 zN) 20 0 (some 21)) 20 1 (some 22)) 1 7 (some 20)) 23 zN) 23 0 (some 24)) 23 1 (some 25)) 1 8 (some 23)) 26 zN) 26 0 (some 27)) 26 1 (some 28)) 1 9 (some 26)) 1 10 (some 29)) 30 zN))
  obtain ⟨I3, e3, h3, f3⟩ := i37t_33 (d := d) (I := zrow I2 33 z0) (L := (zrow (zrow (zrow (zrow (zrow (zrow (zrow (zrow (zrow (zrow (zrow (zrow (zrow (zrow (zrow (zrow (zrow (zrow (zrow (zrow L 3 z0L) 5 z0L) 7 z0L) 8 z0L) 10 z0L) 11 z0L) 12 z0L) 13 z0L) 15 z0L) 17 z0L) 19 z0L) 21 z0L) 22 z0L) 24 z0L) 25 z0L) 27 z0L) 28 z0L) 29 z0L) 31 z0L) 32 z0L)) (Q := (zrow (zup (zup (zup (zrow (zup (zup (zup (zup (zrow (zup (zup (zup (zrow (zup (zup (zup (zrow (zup (zup (zup (zup (zrow (zup (zup (zup (zup (zrow (zup (zup (zup (zup (zrow (zup (zup (zup (zup (zup (zrow (zup (zup (zup (zrow (zup (zup (zrow (zup (zup (zrow Q 2 zN) 2 0 (some 3)) 1 0 (some 2)) 4 zN) 4 0 (some 5)) 1 1 (some 4)) 6 zN) 6 0 (some 7)) 6 1 (some 8)) 1 2 (some 6)) 9 zN) 9 0 (some 10)) 9 1 (some 11)) 9 2 (some 12)) 9 3 (some 13)) 1 3 (some 9)) 14 zN) 14 2 (some 15)) 14 0 (some 6)) 14 1 (some 9)) 1 4 (some 14)) 16 zN) 16 2 (some 17)) 16 0 (some 6)) 16 1 (some 9)) 1 5 (some 16)) 18 zN) 18 2 (some 19)) 18 0 (some 6)) 18 1 (some 9)) 1 6 (some 18)) 20 zN) 20 0 (some 21)) 20 1 (some 22)) 1 7 (some 20)) 23 zN) 23 0 (some 24)) 23 1 (some 25)) 1 8 (some 23)) 26 zN) 26 0 (some 27)) 26 1 (some 28)) 1 9 (some 26)) 1 10 (some 29)) 30 zN) 30 0 (some 31)) 30 1 (some 32)) 1 11 (some 30)) 33 zN))
  have g : ∀ c, c < 30 ∨ 35 < c → I3 c = (zrow (zrow (zrow (zrow (zrow (zrow (zrow (zrow (zrow (zrow (zrow (zrow (zrow (zrow (zrow (zrow (zrow (zrow (zrow (zrow (zrow (zrow I1 9 z0) 10 z0) 11 z0) 12 z0) 13 z0) 14 z0) 15 z0) 16 z0) 17 z0) 18 z0) 19 z0) 20 z0) 21 z0) 22 z0) 23 z0) 24 z0) 25 z0) 26 z0) 27 z0) 28 z0) 29 z0) 30 z0) c := fun c hc => by rw [f3 c (by omega) (by omega) (by omega), zrow_n (by omega), f2 c (by omega) (by omega) (by omega)]
  have g1 : ∀ c, c < 9 ∨ 35 < c → I3 c = I1 c := fun c hc => by
    rw [g c (by omega)]
    simp (disch := omega) only [zrow_n]
  have g2 : ∀ c, c ≠ 7 → c ≠ 8 → c < 9 ∨ 35 < c → scr c = false → 6 ≠ c → I3 c = (zrow (zrow (zrow (zrow (zrow I 2 z0) 3 z0) 4 z0) 5 z0) 6 z0) c := fun c h7 h8 hc hs h6 => by
    rw [g1 c hc, f1.1 c (by simp only [List.mem_cons, List.not_mem_nil, or_false]; omega) hs, zrow_n (by omega), zrow_n (by omega)]
  have k6 := g1 6 (by decide)
  have k7 := g1 7 (by decide)
  have k8 := g1 8 (by decide)
  have q30 : ∀ c, c = 30 ∨ c = 31 → I3 c = I2 c := fun c hc => by rw [f3 c (by omega) (by omega) (by omega), zrow_n (by omega)]
  refine ⟨I3, (zrow (zrow (zrow (zrow (zrow (zrow (zrow (zrow (zrow (zrow (zrow (zrow (zrow (zrow (zrow (zrow (zrow (zrow (zrow (zrow (zrow (zrow L 3 z0L) 5 z0L) 7 z0L) 8 z0L) 10 z0L) 11 z0L) 12 z0L) 13 z0L) 15 z0L) 17 z0L) 19 z0L) 21 z0L) 22 z0L) 24 z0L) 25 z0L) 27 z0L) 28 z0L) 29 z0L) 31 z0L) 32 z0L) 34 z0L) 35 z0L), ?_, ⟨by rw [k6]; exact h1.1, by rw [k6]; exact h1.2.1, by rw [k7]; exact h1.2.2.1, by rw [k8]; exact h1.2.2.2⟩, ⟨by rw [q30 30 (by decide)]; exact h2.1, h2.2.1, h2.2.2.1, fun i e he => by rw [q30 31 (by decide)]; exact h2.2.2.2 i e he⟩, ?_, ?_, ?_, ?_, ?_, ?_, fun c hc hs => ?_⟩
  · rw [i106_k, i106_0, i93, bV_n, i106_6, i100, bV_n, i106_11, e1, bV_n, i106_16, i30, bV_n, i106_21, i63_14, bV_n, i106_30, i63_16, bV_n, i106_39, i63_18, bV_n, i106_48, i23, bV_n, i106_53, i0, bV_n, i106_58, i55, bV_n, i106_63, e2, bV_n, i106_72, e3, bV_n, i106_77]
  · rw [g2 2 (by decide) (by decide) (by decide) rfl (by decide)]; rfl
  · rw [g2 4 (by decide) (by decide) (by decide) rfl (by decide)]; rfl
  · rw [g 15 (by decide)]; rfl
  · rw [g 20 (by decide)]; rfl
  · rw [g 23 (by decide)]; rfl
  · rw [g 26 (by decide)]; rfl
  · rw [g2 c (by omega) (by omega) (by omega) hs (by omega)]
    simp (disch := omega) only [zrow_n]
abbrev qM (Q : Nat → Nat → Option Nat) : Nat → Nat → Option Nat := (zup (zup (zup (zup (zup (zup (zup (zup (zup (zup (zup (zup (zup (zup (zup (zup (zup (zup (zup (zup (zup (zup (zup (zup (zup (zup (zup (zrow Q 36 zN) 36 0 (some 37)) 36 4 (some 38)) 36 5 (some 39)) 36 6 (some 40)) 36 8 (some 41)) 36 16 (some 42)) 36 17 (some 43)) 36 18 (some 44)) 36 19 (some 45)) 36 22 (some 46)) 36 23 (some 47)) 36 24 (some 48)) 36 25 (some 49)) 36 26 (some 50)) 36 28 (some 51)) 36 29 (some 52)) 36 31 (some 53)) 36 32 (some 54)) 36 33 (some 55)) 36 34 (some 56)) 36 36 (some 57)) 36 37 (some 58)) 36 39 (some 59)) 36 40 (some 60)) 36 43 (some 61)) 36 44 (some 62)) 36 45 (some 63))
theorem i177 : ∃ I' L', cal d 177 [.ref 36] (zrow I 36 z0, L, zrow Q 36 zN, 37, 0) = some (none, (I', L', qM Q, 64, 0)) ∧ mCt I' 3 (cff tZ 3) (cff tZ) (cgg tZ 3) ∧ I' 36 1 = nI 0 ∧ I' 37 = z0 ∧ I' 36 7 = nI 0 ∧ I' 36 9 = nI 0 ∧ I' 36 27 = nI 0 ∧ I' 36 42 = nI 0 ∧ I' 62 = z0 ∧ I' 36 35 = nI 0 ∧ I' 36 38 = nI 0 ∧ I' 36 20 = nI 0 ∧ ∀ c, c < 36 ∨ 63 < c → I' c = I c := by
  have hJ : mLy (zup (zup (zup (zup (zup (zrow (zrow (zrow (zrow (zrow (zrow (zrow (zrow (zrow (zrow (zrow (zrow (zrow (zrow (zrow (zrow (zrow (zrow (zrow (zrow (zrow (zrow (zrow (zrow (zrow (zrow (zup (zup (zrow (zrow I 36 z0) 37 z0) 36 2 (nI 3)) 36 3 (nI 4)) 38 z0) 39 z0) 40 z0) 41 z0) 42 z0) 43 z0) 44 z0) 45 z0) 46 z0) 47 z0) 48 z0) 49 z0) 50 z0) 51 z0) 52 z0) 53 z0) 54 z0) 55 z0) 56 z0) 57 z0) 58 z0) 59 z0) 60 z0) 61 z0) 62 z0) 63 z0) 42 0 (nI 1)) 42 1 (nI 2)) 42 2 (nI 1)) 36 2 (nI 3)) 36 3 (nI 0)) tZ 3 0 := ⟨rfl, rfl, fun s hs => absurd hs (Nat.not_lt_zero _), fun q hq => absurd hq (Nat.not_lt_zero _), fun i hi => by
    rcases (show i = 0 ∨ i = 1 ∨ i = 2 by omega) with rfl | rfl | rfl <;> rfl⟩
  obtain ⟨I1, e1, h1, c1, k1⟩ := jl197 (d := d) (L := (zrow (zrow (zrow (zrow (zrow (zrow (zrow (zrow (zrow (zrow (zrow (zrow (zrow (zrow (zrow (zrow (zrow (zrow (zrow (zrow (zrow (zrow (zrow (zrow (zrow (zrow (zrow L 37 z0L) 38 z0L) 39 z0L) 40 z0L) 41 z0L) 42 z0L) 43 z0L) 44 z0L) 45 z0L) 46 z0L) 47 z0L) 48 z0L) 49 z0L) 50 z0L) 51 z0L) 52 z0L) 53 z0L) 54 z0L) 55 z0L) 56 z0L) 57 z0L) 58 z0L) 59 z0L) 60 z0L) 61 z0L) 62 z0L) 63 z0L)) (Q := zrow Q 36 zN) (t := tZ) (n := 3) (by decide) (by decide) tZ_h 3 0 (zup (zup (zup (zup (zup (zrow (zrow (zrow (zrow (zrow (zrow (zrow (zrow (zrow (zrow (zrow (zrow (zrow (zrow (zrow (zrow (zrow (zrow (zrow (zrow (zrow (zrow (zrow (zrow (zrow (zrow (zup (zup (zrow (zrow I 36 z0) 37 z0) 36 2 (nI 3)) 36 3 (nI 4)) 38 z0) 39 z0) 40 z0) 41 z0) 42 z0) 43 z0) 44 z0) 45 z0) 46 z0) 47 z0) 48 z0) 49 z0) 50 z0) 51 z0) 52 z0) 53 z0) 54 z0) 55 z0) 56 z0) 57 z0) 58 z0) 59 z0) 60 z0) 61 z0) 62 z0) 63 z0) 42 0 (nI 1)) 42 1 (nI 2)) 42 2 (nI 1)) 36 2 (nI 3)) 36 3 (nI 0)) .null (by decide) hJ
  refine ⟨I1, (zrow (zrow (zrow (zrow (zrow (zrow (zrow (zrow (zrow (zrow (zrow (zrow (zrow (zrow (zrow (zrow (zrow (zrow (zrow (zrow (zrow (zrow (zrow (zrow (zrow (zrow (zrow L 37 z0L) 38 z0L) 39 z0L) 40 z0L) 41 z0L) 42 z0L) 43 z0L) 44 z0L) 45 z0L) 46 z0L) 47 z0L) 48 z0L) 49 z0L) 50 z0L) 51 z0L) 52 z0L) 53 z0L) 54 z0L) 55 z0L) 56 z0L) 57 z0L) 58 z0L) 59 z0L) 60 z0L) 61 z0L) 62 z0L) 63 z0L), by rw [i177_0, jk197, e1, bV_n, i177_134], h1, (k1 1 (by decide) (by decide)).trans rfl, (c1 37 (by decide) (by decide) (by decide)).trans rfl, (k1 7 (by decide) (by decide)).trans rfl, (k1 9 (by decide) (by decide)).trans rfl, (k1 27 (by decide) (by decide)).trans rfl, (k1 42 (by decide) (by decide)).trans rfl, (c1 62 (by decide) (by decide) (by decide)).trans rfl, (k1 35 (by decide) (by decide)).trans rfl, (k1 38 (by decide) (by decide)).trans rfl, (k1 20 (by decide) (by decide)).trans rfl, fun c hc => ?_⟩
  rw [c1 c (by omega) (by omega) (by omega)]
  simp (disch := omega) only [zrow_n, zup_ne]
theorem i300_0 : res d 300 0 [.ref 999, .null, .null, .null, .null, .null, .null, .null] [] (I, L, Q, 1, 0) = bV (cal d 106 [.ref 1] (zrow I 1 z0, L, zrow Q 1 zN, 2, 0)) fun h1 => res d 300 3 [.ref 999, .null, .null, .null, .null, .null, .null, .null] [.ref 1] h1 := rt_go [3, 7, 13] c300 10 rfl
theorem i300_3 : res d 300 3 [.ref 999, .null, .null, .null, .null, .null, .null, .null] [.ref 1] (I, L, Q, 36, 0) = bV (cal d 177 [.ref 36] (zrow I 36 z0, L, zrow Q 36 zN, 37, 0)) fun h1 => res d 300 7 [.ref 999, .ref 1, .null, .null, .null, .null, .null, .null] [.ref 36] h1 := rt_go [3, 7, 13] c300 10 rfl
theorem i300_7 : res d 300 7 [.ref 999, .ref 1, .null, .null, .null, .null, .null, .null] [.ref 36] (I, L, Q, 64, 0) = res d 300 13 [.ref 999, .ref 1, .ref 36, .ref 64, .int (nI 0), .null, .null, .null] [] (zrow I 64 z0, zrow L 64 z0L, Q, 65, 0) := rt_go [3, 7, 13] c300 10 rfl
def Bd (Q : Nat → Nat → Option Nat) : Prop := ∀ a k, (65 ≤ a ∨ 64 ≤ k) → Q a k = none
theorem Bd_n : Bd (fun _ _ => none) := fun _ _ _ => rfl
theorem Bd_r {a : Nat} (h : Bd Q) (ha : a < 65) : Bd (zrow Q a zN) := fun b k hb => by
  by_cases z : b = a
  · rw [z, zrow_e]
  · rw [zrow_n z]; exact h b k hb
theorem Bd_u {a k v : Nat} (h : Bd Q) (ha : a < 65) (hk : k < 64) : Bd (zup Q a k (some v)) := fun b j hb => by
  by_cases z : b = a
  · rw [z, zup_v, if_neg (by omega)]
    rw [← z]
    exact h b j hb
  · rw [zup_ne _ _ _ z]; exact h b j hb
theorem Bd_R : Bd (rR 30 33 (fun _ => none) none 44) := fun a k h => by
  unfold rR
  split <;> first | rfl | omega | (split <;> first | rfl | omega)
abbrev qA : Nat → Nat → Option Nat := qM (qC (zrow (fun _ _ => none) 1 zN))
theorem qA_bd : Bd qA := by
  unfold qA qM qC
  repeat first | exact Bd_n | refine Bd_r ?_ (by decide) | refine Bd_u ?_ (by decide) (by decide)
theorem qA_dec : ∀ a, a < 65 → ∀ k, k < 64 → qA a k = rR 30 33 (fun _ => none) none 44 a k := by decide +kernel
theorem qA_eq : qA = rR 30 33 (fun _ => none) none 44 := by
  funext a k
  by_cases z : a < 65
  · by_cases y : k < 64
    · exact qA_dec a z k y
    · rw [qA_bd a k (by omega), Bd_R a k (by omega)]
  · rw [qA_bd a k (by omega), Bd_R a k (by omega)]
theorem istart {N : Nat} {xs : Nat → Int32} : ∃ I' L', res d 300 0 (zent 8 [.ref 999]) [] (zH0 N xs) = res d 300 13 [.ref 999, .ref 1, .ref 36, .ref 64, .int (nI 0), .null, .null, .null] [] (I', L', rR 30 33 (fun _ => none) none 44, 65, 0) ∧ cInv I' L' 30 33 3 (cff tZ 3) (cff tZ) (cgg tZ 3) 0 (fun _ => 0) 0 (fun _ => 0) [] [] (fun _ => none) [] [] usu ∧ mInv I' L' 44 0 3 (cff tZ 3) (cff tZ) (cgg tZ 3) 0 (fun _ => 0) 0 (fun _ => 0) [] [] (fun _ => none) [] [] 0 (fun _ => 0) ∧ I' 998 0 = nI N ∧ ∀ k, I' 999 k = xs k := by
  obtain ⟨I1, L1, e1, a1, a2, b2, b4, b15, b20, b23, b26, f1⟩ := i106 (d := d) (I := zrow (zI0 N xs) 1 z0) (L := fun _ _ => 0) (Q := zrow (fun _ _ => none) 1 zN)
  obtain ⟨I2, L2, e2, m1, m2, m3, m4, m5, m6, m7, m8, m9, m10, m11, f2⟩ := i177 (d := d) (I := I1) (L := L1) (Q := qC (zrow (fun _ _ => none) 1 zN))
  have g : ∀ c, c < 36 → zrow I2 64 z0 c = I1 c := fun c hc => by rw [zrow_n (by omega), f2 c (by omega)]
  have gm : ∀ c, c < 64 → zrow I2 64 z0 c = I2 c := fun c hc => zrow_n (by omega)
  have g9 : ∀ c, 65 ≤ c → scr c = false → zrow I2 64 z0 c = zI0 N xs c := fun c hc hs => by rw [zrow_n (by omega), f2 c (by omega), f1 c (by omega) hs, zrow_n (by omega)]
  refine ⟨zrow I2 64 z0, zrow L2 64 z0L, ?_, ⟨⟨?_, ?_, ?_, ?_⟩, ?_, ⟨?_, by decide, fun k hk => absurd hk (Nat.not_lt_zero _)⟩, ⟨?_, by decide, fun i v h => by cases h⟩, ⟨?_, by decide, ?_, ⟨0, by decide, ?_, fun i b h => by cases h⟩, fun i b _ h => by cases h⟩, ⟨?_, by decide, fun i w v h => by cases h⟩, ⟨?_, by decide, fun i w v h => by cases h⟩, Or.inl ⟨rfl, rfl⟩, ?_⟩, ⟨?_, ?_, ?_, ⟨?_, by decide, fun k hk => absurd hk (Nat.not_lt_zero _)⟩, ⟨?_, by decide, fun i v h => by cases h⟩, ⟨?_, by decide, fun i b h => by cases h⟩, ⟨0, by decide, ?_, fun i hi => ⟨fun _ => Or.inl ?_, fun b h => by cases h⟩⟩, ⟨?_, by decide, fun i w v h => by cases h⟩, ⟨?_, by decide, fun i w v h => by cases h⟩, rfl, ⟨?_, by decide, fun k hk => absurd hk (Nat.not_lt_zero _)⟩⟩, ?_, fun k => ?_⟩
  · show res d 300 0 [.ref 999, .null, .null, .null, .null, .null, .null, .null] [] (zI0 N xs, (fun _ _ => 0), (fun _ _ => none), 1, 0) = _
    rw [i300_0, e1, bV_n, i300_3, e2, bV_n, i300_7]
    rw [show qM (qC (zrow (fun _ _ => none) 1 zN)) = rR 30 33 (fun _ => none) none 44 from qA_eq]
  · rw [g 6 (by decide)]; exact a1.1
  · rw [g 6 (by decide)]; exact a1.2.1
  · rw [g 7 (by decide)]; exact a1.2.2.1
  · rw [g 8 (by decide)]; exact a1.2.2.2
  · intro k hk
    rw [g 15 (by decide), b15]
    show (0 : Int32) = nI (cv 0 (fun _ => 0) k)
    have e : cv 0 (fun _ => 0) k = 0 := by unfold cv; simp only [ite_self]
    rw [e]
    rfl
  · rw [g 2 (by decide), b2]; rfl
  · rw [g 4 (by decide), b4]; rfl
  · rw [g 20 (by decide), b20]; rfl
  · rw [g 20 (by decide), b20]; rfl
  · rw [g 20 (by decide), b20]; rfl
  · rw [g 23 (by decide), b23]; rfl
  · rw [g 26 (by decide), b26]; rfl
  · exact ⟨by rw [g 30 (by decide)]; exact a2.1, a2.2.1, a2.2.2.1, fun i e he => by rw [g 31 (by decide)]; exact a2.2.2.2 i e he⟩
  · exact ⟨by rw [gm 36 (by decide)]; exact m1.1, by rw [gm 36 (by decide)]; exact m1.2.1, by rw [gm 38 (by decide)]; exact m1.2.2.1, by rw [gm 39 (by decide)]; exact m1.2.2.2⟩
  · rw [gm 36 (by decide)]; exact m2
  · intro k hk
    rw [gm 37 (by decide), m3]
    rfl
  · rw [gm 36 (by decide)]; exact m4
  · rw [gm 36 (by decide)]; exact m5
  · rw [gm 36 (by decide)]; exact m6
  · rw [gm 36 (by decide)]; exact m7
  · rw [gm 62 (by decide), m8]; rfl
  · rw [gm 36 (by decide)]; exact m9
  · rw [gm 36 (by decide)]; exact m10
  · rw [gm 36 (by decide)]; exact m11
  · rw [g9 998 (by decide) rfl]; rfl
  · rw [g9 999 (by decide) rfl]; rfl
end
