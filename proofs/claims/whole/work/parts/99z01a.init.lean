section
variable {I : Nat → Nat → Int32} {L : Nat → Nat → Int64} {Q : Nat → Nat → Option Nat} {d n : Nat} {t : Nat → Nat}
theorem zrow_n {α : Type} {I : Nat → Nat → α} {a b : Nat} {r : Nat → α} (h : b ≠ a) : zrow I a r b = I b := if_neg h
theorem zrow_e {α : Type} {I : Nat → Nat → α} {a : Nat} {r : Nat → α} : zrow I a r a = r := if_pos rfl
/-! the constructors -/
abbrev z0 : Nat → Int32 := fun _ => 0
abbrev z0L : Nat → Int64 := fun _ => 0
abbrev zN : Nat → Option Nat := fun _ => none
theorem c0i : codeOf 0 = o_0 := rfl
theorem c10i : codeOf 10 = o_10 := rfl
theorem c23i : codeOf 23 = o_23 := rfl
theorem c30i : codeOf 30 = o_30 := rfl
theorem c37i : codeOf 37 = o_37 := rfl
theorem c55i : codeOf 55 = o_55 := rfl
theorem c63i : codeOf 63 = o_63 := rfl
theorem c93i : codeOf 93 = o_93 := rfl
theorem c100i : codeOf 100 = o_100 := rfl
theorem c106i : codeOf 106 = o_106 := rfl
theorem c177i : codeOf 177 = o_177 := rfl
theorem i93 : cal d 93 [.ref 2] (I, L, Q, 3, 0) = some (none, ((zrow I 3 z0), (zrow L 3 z0L), (zup Q 2 0 (some 3)), 4, 0)) := rt_go [] c93i 40 rfl
theorem i100 : cal d 100 [.ref 4] (I, L, Q, 5, 0) = some (none, ((zrow I 5 z0), (zrow L 5 z0L), (zup Q 4 0 (some 5)), 6, 0)) := rt_go [] c100i 40 rfl
theorem i30 : cal d 30 [.ref 9] (I, L, Q, 10, 0) = some (none, ((zrow (zrow (zrow (zrow I 10 z0) 11 z0) 12 z0) 13 z0), (zrow (zrow (zrow (zrow L 10 z0L) 11 z0L) 12 z0L) 13 z0L), (zup (zup (zup (zup Q 9 0 (some 10)) 9 1 (some 11)) 9 2 (some 12)) 9 3 (some 13)), 14, 0)) := rt_go [] c30i 40 rfl
theorem i63_14 : cal d 63 [.ref 14, .ref 6, .ref 9] (I, L, Q, 15, 0) = some (none, ((zrow I 15 z0), (zrow L 15 z0L), (zup (zup (zup Q 14 2 (some 15)) 14 0 (some 6)) 14 1 (some 9)), 16, 0)) := rt_go [] c63i 40 rfl
theorem i63_16 : cal d 63 [.ref 16, .ref 6, .ref 9] (I, L, Q, 17, 0) = some (none, ((zrow I 17 z0), (zrow L 17 z0L), (zup (zup (zup Q 16 2 (some 17)) 16 0 (some 6)) 16 1 (some 9)), 18, 0)) := rt_go [] c63i 40 rfl
theorem i63_18 : cal d 63 [.ref 18, .ref 6, .ref 9] (I, L, Q, 19, 0) = some (none, ((zrow I 19 z0), (zrow L 19 z0L), (zup (zup (zup Q 18 2 (some 19)) 18 0 (some 6)) 18 1 (some 9)), 20, 0)) := rt_go [] c63i 40 rfl
theorem i23 : cal d 23 [.ref 20] (I, L, Q, 21, 0) = some (none, ((zrow (zrow I 21 z0) 22 z0), (zrow (zrow L 21 z0L) 22 z0L), (zup (zup Q 20 0 (some 21)) 20 1 (some 22)), 23, 0)) := rt_go [] c23i 40 rfl
theorem i0 : cal d 0 [.ref 23] (I, L, Q, 24, 0) = some (none, ((zrow (zrow I 24 z0) 25 z0), (zrow (zrow L 24 z0L) 25 z0L), (zup (zup Q 23 0 (some 24)) 23 1 (some 25)), 26, 0)) := rt_go [] c0i 40 rfl
theorem i55 : cal d 55 [.ref 26] (I, L, Q, 27, 0) = some (none, ((zrow (zrow I 27 z0) 28 z0), (zrow (zrow L 27 z0L) 28 z0L), (zup (zup Q 26 0 (some 27)) 26 1 (some 28)), 29, 0)) := rt_go [] c55i 40 rfl
theorem je13_0 {v1 : Int32} : res d 13 0 [.ref 6, .int v1, .null] [] (I, L, (zup (zup Q 6 0 (some 7)) 6 1 (some 8)), 9, 0) = if (I 6 2) < (nI 8) then (if aok 1 8 (I 6 2) = true then (res d 13 13 [.ref 6, .int v1, .int (nI 0)] [] (zup I 8 (I 6 2).toNatClampNeg (nI 0), L, (zup (zup Q 6 0 (some 7)) 6 1 (some 8)), 9, 0)) else none) else (some (none, (I, L, (zup (zup Q 6 0 (some 7)) 6 1 (some 8)), 9, 0))) := rt_go [13, 47] c13 56 rfl
theorem jl13_13 {v1 : Int32} {v2 : Int32} : res d 13 13 [.ref 6, .int v1, .int v2] [] (I, L, (zup (zup Q 6 0 (some 7)) 6 1 (some 8)), 9, 0) = if v1 ≤ v2 then (res d 13 47 [.ref 6, .int v1, .int v2] [] (I, L, (zup (zup Q 6 0 (some 7)) 6 1 (some 8)), 9, 0)) else (if (nI 16) ≤ (I 6 3) then (res d 13 47 [.ref 6, .int v1, .int v2] [] (I, L, (zup (zup Q 6 0 (some 7)) 6 1 (some 8)), 9, 0)) else (if aok 1 7 (I 6 3) = true then (if aok 1 8 (I 6 2) = true then (if aok 1 8 (I 6 2) = true then (res d 13 13 [.ref 6, .int v1, .int (v2 + (nI 1))] [] (zup (zup (zup I 7 (I 6 3).toNatClampNeg (I 6 2)) 8 (I 6 2).toNatClampNeg ((I 8 (I 6 2).toNatClampNeg) ||| ((nI 1) <<< ((I 6 3) &&& 31)))) 6 3 ((I 6 3) + (nI 1)), L, (zup (zup Q 6 0 (some 7)) 6 1 (some 8)), 9, 0)) else none) else none) else none)) := rt_go [13, 47] c13 56 rfl
theorem je13_47 {v1 : Int32} {v2 : Int32} : res d 13 47 [.ref 6, .int v1, .int v2] [] (I, L, (zup (zup Q 6 0 (some 7)) 6 1 (some 8)), 9, 0) = some (none, (zup I 6 2 ((I 6 2) + (nI 1)), L, (zup (zup Q 6 0 (some 7)) 6 1 (some 8)), 9, 0)) := rt_go [13, 47] c13 56 rfl
theorem jk13 {v1 : Int32} : cal d 13 [.ref 6, .int v1] (I, L, (zup (zup Q 6 0 (some 7)) 6 1 (some 8)), 9, 0) = if (I 6 2) < (nI 8) then (if aok 1 8 (I 6 2) = true then (res d 13 13 [.ref 6, .int v1, .int (nI 0)] [] (zup I 8 (I 6 2).toNatClampNeg (nI 0), L, (zup (zup Q 6 0 (some 7)) 6 1 (some 8)), 9, 0)) else none) else (some (none, (I, L, (zup (zup Q 6 0 (some 7)) 6 1 (some 8)), 9, 0))) := je13_0
theorem j13 {k : Nat} (h8 : n ≤ 8) (h : ∀ k, k < n → t k = 49 ∨ t k = 50) (hk : k < n) (hL : cLy I t n k) : ∃ I', cal d 13 [.ref 6, .int (nI (t k - 48))] (I, L, (zup (zup Q 6 0 (some 7)) 6 1 (some 8)), 9, 0) = some (none, (I', L, (zup (zup Q 6 0 (some 7)) 6 1 (some 8)), 9, 0)) ∧ cLy I' t n (k + 1) ∧ fW [6, 7, 8] I I' := by
  obtain ⟨l1, l2, l3, l4⟩ := hL
  have hle : cff t k ≤ 2 * k := by
    have := fb_sm_bound (f := fun k => t k - 48) (c := 2) (n := k) (fun j hj => by rcases h j (by omega) with q | q <;> omega)
    show fb_sm _ k ≤ _
    omega
  have eS : cff t (k + 1) = cff t k + (t k - 48) := rfl
  have hu : ∀ (J : Nat → Nat → Int32) (c i : Nat) (w : Int32), c = 6 ∨ c = 7 ∨ c = 8 → fW [6, 7, 8] J (zup J c i w) := fun J c i w hc => by
    rcases hc with rfl | rfl | rfl <;> exact fW.up (by decide) (by decide) (by decide)
  rcases h k hk with q | q
  · rw [q] at eS ⊢
    have g0 : cgg t n (cff t k) = k := cgg_r h hk (Nat.le_refl _) (by omega)
    have es : sqs (cff t) k = 0 ||| 2 ^ cff t k := by
      unfold sqs
      rw [eS, show cff t k + (49 - 48) - cff t k = 1 by omega]
      rfl
    refine ⟨zup (zup (zup (zup (zup I 8 k (nI 0)) 7 (cff t k) (nI k)) 8 k (nI (0 ||| 2 ^ cff t k))) 6 3 (nI (cff t k + 1))) 6 2 (nI (k + 1)), ?_, ⟨?_, ?_, fun s hs => ?_, fun r hr => ?_⟩, ((((hu _ _ _ _ (by decide)).tr (hu _ _ _ _ (by decide))).tr (hu _ _ _ _ (by decide))).tr (hu _ _ _ _ (by decide))).tr (hu _ _ _ _ (by decide))⟩
    · have a1 : (zup I 8 k (nI 0)) 6 2 = nI k := by rw [zup_ne _ _ _ (by decide)]; exact l1
      have a2 : (zup I 8 k (nI 0)) 6 3 = nI (cff t k) := by rw [zup_ne _ _ _ (by decide)]; exact l2
      have a3 : (zup I 8 k (nI 0)) 8 k = nI 0 := by rw [zup_v, if_pos rfl]
      rw [jk13, l1, if_pos (by rw [nI_ltI (by omega) (by omega)]; omega), if_pos (ak_8 (by omega)), nI_clamp (by omega), jl13_13, if_neg (by decide), a2, if_neg (by rw [nI_leI (by omega) (by omega)]; omega), if_pos (ak_7 (by omega)), a1, if_pos (ak_8 (by omega)), if_pos (ak_8 (by omega)), nI_clamp (by omega), nI_clamp (by omega), a3, zshl1 (by omega), fa_or, nI_add, nI_add, jl13_13, if_pos (by decide), je13_47]
      have a4 : (zup (zup (zup (zup I 8 k (nI 0)) 7 (cff t k) (nI k)) 8 k (nI (0 ||| 2 ^ cff t k))) 6 3 (nI (cff t k + 1))) 6 2 = nI k := by rw [zup_v, if_neg (by decide), zup_ne _ _ _ (by decide), zup_ne _ _ _ (by decide)]; exact a1
      rw [a4, nI_add]
    · rw [zup_v, if_pos rfl]
    · rw [zup_v, if_neg (by decide), zup_v, if_pos rfl, eS]
    · rw [zup_ne _ _ _ (by decide), zup_ne _ _ _ (by decide), zup_ne _ _ _ (by decide), zup_v]
      by_cases z : s = cff t k
      · rw [if_pos z, z, g0]
      · rw [if_neg z, zup_ne _ _ _ (by decide)]; exact l3 s (by omega)
    · rw [zup_ne _ _ _ (by decide), zup_ne _ _ _ (by decide), zup_v]
      by_cases z : r = k
      · rw [if_pos z, z, es]
      · rw [if_neg z, zup_ne _ _ _ (by decide), zup_v, if_neg z]; exact l4 r (by omega)
  · rw [q] at eS ⊢
    have g0 : cgg t n (cff t k) = k := cgg_r h hk (Nat.le_refl _) (by omega)
    have g1 : cgg t n (cff t k + 1) = k := cgg_r h hk (by omega) (by omega)
    have es : sqs (cff t) k = 0 ||| 2 ^ cff t k ||| 2 ^ (cff t k + 1) := by
      unfold sqs
      rw [eS, show cff t k + (50 - 48) - cff t k = 2 by omega]
      rfl
    refine ⟨zup (zup (zup (zup (zup (zup (zup (zup I 8 k (nI 0)) 7 (cff t k) (nI k)) 8 k (nI (0 ||| 2 ^ cff t k))) 6 3 (nI (cff t k + 1))) 7 (cff t k + 1) (nI k)) 8 k (nI (0 ||| 2 ^ cff t k ||| 2 ^ (cff t k + 1)))) 6 3 (nI (cff t k + 1 + 1))) 6 2 (nI (k + 1)), ?_, ⟨?_, ?_, fun s hs => ?_, fun r hr => ?_⟩, (((((((hu _ _ _ _ (by decide)).tr (hu _ _ _ _ (by decide))).tr (hu _ _ _ _ (by decide))).tr (hu _ _ _ _ (by decide))).tr (hu _ _ _ _ (by decide))).tr (hu _ _ _ _ (by decide))).tr (hu _ _ _ _ (by decide))).tr (hu _ _ _ _ (by decide))⟩
    · have a1 : (zup I 8 k (nI 0)) 6 2 = nI k := by rw [zup_ne _ _ _ (by decide)]; exact l1
      have a2 : (zup I 8 k (nI 0)) 6 3 = nI (cff t k) := by rw [zup_ne _ _ _ (by decide)]; exact l2
      have a3 : (zup I 8 k (nI 0)) 8 k = nI 0 := by rw [zup_v, if_pos rfl]
      have b1 : (zup (zup (zup (zup I 8 k (nI 0)) 7 (cff t k) (nI k)) 8 k (nI (0 ||| 2 ^ cff t k))) 6 3 (nI (cff t k + 1))) 6 2 = nI k := by rw [zup_v, if_neg (by decide), zup_ne _ _ _ (by decide), zup_ne _ _ _ (by decide)]; exact a1
      have b2 : (zup (zup (zup (zup I 8 k (nI 0)) 7 (cff t k) (nI k)) 8 k (nI (0 ||| 2 ^ cff t k))) 6 3 (nI (cff t k + 1))) 6 3 = nI (cff t k + 1) := by rw [zup_v, if_pos rfl]
      have b3 : (zup (zup (zup (zup I 8 k (nI 0)) 7 (cff t k) (nI k)) 8 k (nI (0 ||| 2 ^ cff t k))) 6 3 (nI (cff t k + 1))) 8 k = nI (0 ||| 2 ^ cff t k) := by rw [zup_ne _ _ _ (by decide), zup_v, if_pos rfl]
      rw [jk13, l1, if_pos (by rw [nI_ltI (by omega) (by omega)]; omega), if_pos (ak_8 (by omega)), nI_clamp (by omega), jl13_13, if_neg (by decide), a2, if_neg (by rw [nI_leI (by omega) (by omega)]; omega), if_pos (ak_7 (by omega)), a1, if_pos (ak_8 (by omega)), if_pos (ak_8 (by omega)), nI_clamp (by omega), nI_clamp (by omega), a3, zshl1 (by omega), fa_or, nI_add, nI_add, jl13_13, if_neg (by decide), b2, if_neg (by rw [nI_leI (by omega) (by omega)]; omega), if_pos (ak_7 (by omega)), b1, if_pos (ak_8 (by omega)), if_pos (ak_8 (by omega)), nI_clamp (by omega), nI_clamp (by omega), b3, zshl1 (by omega), fa_or, nI_add, nI_add, jl13_13, if_pos (by decide), je13_47]
      have a4 : (zup (zup (zup (zup (zup (zup (zup I 8 k (nI 0)) 7 (cff t k) (nI k)) 8 k (nI (0 ||| 2 ^ cff t k))) 6 3 (nI (cff t k + 1))) 7 (cff t k + 1) (nI k)) 8 k (nI (0 ||| 2 ^ cff t k ||| 2 ^ (cff t k + 1)))) 6 3 (nI (cff t k + 1 + 1))) 6 2 = nI k := by rw [zup_v, if_neg (by decide), zup_ne _ _ _ (by decide), zup_ne _ _ _ (by decide)]; exact b1
      rw [a4, nI_add]
    · rw [zup_v, if_pos rfl]
    · rw [zup_v, if_neg (by decide), zup_v, if_pos rfl, eS]
    · rw [zup_ne _ _ _ (by decide), zup_ne _ _ _ (by decide), zup_ne _ _ _ (by decide), zup_v]
      by_cases z : s = cff t k + 1
      · rw [if_pos z, z, g1]
      · rw [if_neg z, zup_ne _ _ _ (by decide), zup_ne _ _ _ (by decide), zup_v]
        by_cases y : s = cff t k
        · rw [if_pos y, y, g0]
        · rw [if_neg y, zup_ne _ _ _ (by decide)]; exact l3 s (by omega)
    · rw [zup_ne _ _ _ (by decide), zup_ne _ _ _ (by decide), zup_v]
      by_cases z : r = k
      · rw [if_pos z, z, es]
      · rw [if_neg z, zup_ne _ _ _ (by decide), zup_ne _ _ _ (by decide), zup_v, if_neg z, zup_ne _ _ _ (by decide), zup_v, if_neg z]; exact l4 r (by omega)

theorem i10 : cal d 10 [.ref 6] (I, L, Q, 7, 0) = bV (cal d 13 [.ref 6, .int (nI 1)] ((zrow (zrow I 7 z0) 8 z0), (zrow (zrow L 7 z0L) 8 z0L), (zup (zup Q 6 0 (some 7)) 6 1 (some 8)), 9, 0)) fun h1 => res d 10 13 [.ref 6] [] h1 := rt_go [13, 16, 19] c10i 40 rfl
theorem i10_13 : res d 10 13 [.ref 6] [] (I, L, Q, 9, 0) = bV (cal d 13 [.ref 6, .int (nI 2)] (I, L, Q, 9, 0)) fun h1 => res d 10 16 [.ref 6] [] h1 := rt_go [13, 16, 19] c10i 40 rfl
theorem i10_16 : res d 10 16 [.ref 6] [] (I, L, Q, 9, 0) = bV (cal d 13 [.ref 6, .int (nI 1)] (I, L, Q, 9, 0)) fun h1 => res d 10 19 [.ref 6] [] h1 := rt_go [13, 16, 19] c10i 40 rfl
theorem i10_19 : res d 10 19 [.ref 6] [] (I, L, Q, 9, 0) = some (none, (I, L, Q, 9, 0)) := rt_go [13, 16, 19] c10i 40 rfl
abbrev tZ : Nat → Nat := (fun k => if k = 1 then 50 else 49)
theorem tZ_h : ∀ k, k < 3 → tZ k = 49 ∨ tZ k = 50 := by decide
theorem i10t (h : I 6 = z0) : ∃ I', cal d 10 [.ref 6] (I, L, Q, 7, 0) = some (none, (I', (zrow (zrow L 7 z0L) 8 z0L), (zup (zup Q 6 0 (some 7)) 6 1 (some 8)), 9, 0)) ∧ cLy I' tZ 3 3 ∧ fW [6, 7, 8] (zrow (zrow I 7 z0) 8 z0) I' := by
  have h0 : cLy (zrow (zrow I 7 z0) 8 z0) tZ 3 0 := ⟨by rw [zrow_n (by decide), zrow_n (by decide), h]; rfl, by rw [zrow_n (by decide), zrow_n (by decide), h]; rfl, fun s hs => absurd hs (Nat.not_lt_zero _), fun r hr => absurd hr (Nat.not_lt_zero _)⟩
  obtain ⟨I1, e1, h1, f1⟩ := j13 (d := d) (L := (zrow (zrow L 7 z0L) 8 z0L)) (Q := Q) (k := 0) (by decide) tZ_h (by decide) h0
  obtain ⟨I2, e2, h2, f2⟩ := j13 (d := d) (L := (zrow (zrow L 7 z0L) 8 z0L)) (Q := Q) (k := 1) (by decide) tZ_h (by decide) h1
  obtain ⟨I3, e3, h3, f3⟩ := j13 (d := d) (L := (zrow (zrow L 7 z0L) 8 z0L)) (Q := Q) (k := 2) (by decide) tZ_h (by decide) h2
  refine ⟨I3, ?_, h3, f1.tr (f2.tr f3)⟩
  · rw [i10]
    rw [show nI (tZ 0 - 48) = nI 1 from rfl] at e1
    rw [show nI (tZ 1 - 48) = nI 2 from rfl] at e2
    rw [show nI (tZ 2 - 48) = nI 1 from rfl] at e3
    rw [e1, bV_n, i10_13, e2, bV_n, i10_16, e3, bV_n, i10_19]
theorem ae39_0 {q0 : Nat} (hq0 : q0 = 30) {v1 : Int32} : res d 39 0 [.ref q0, .int v1] [] (I, L, (zup (zup Q 30 0 (some 31)) 30 1 (some 32)), 33, 0) = if (nI 40) ≤ (I q0 2) then (some (none, (I, L, (zup (zup Q 30 0 (some 31)) 30 1 (some 32)), 33, 0))) else (if aok 1 (q0 + 1) (I q0 2) = true then (some (none, (zup (zup I (q0 + 1) (I q0 2).toNatClampNeg v1) q0 2 ((I q0 2) + (nI 1)), L, (zup (zup Q 30 0 (some 31)) 30 1 (some 32)), 33, 0))) else none) := by subst hq0; exact rt_go [] c39 19 rfl
theorem ae40_0 {q0 : Nat} (hq0 : q0 = 30) {v1 : Int32} : res d 40 0 [.ref q0, .int v1] [] (I, L, (zup (zup Q 30 0 (some 31)) 30 1 (some 32)), 33, 0) = bV (cal d 39 [.ref q0, .int (-v1)] (I, L, (zup (zup Q 30 0 (some 31)) 30 1 (some 32)), 33, 0)) fun h1 => res d 40 4 [.ref q0, .int v1] [] h1 := by subst hq0; exact rt_go [4] c40 7 rfl
theorem ae40_4 {q0 : Nat} (hq0 : q0 = 30) {v1 : Int32} : res d 40 4 [.ref q0, .int v1] [] (I, L, (zup (zup Q 30 0 (some 31)) 30 1 (some 32)), 33, 0) = some (none, (I, L, (zup (zup Q 30 0 (some 31)) 30 1 (some 32)), 33, 0)) := by subst hq0; exact rt_go [4] c40 7 rfl
theorem ae38_0 {q0 : Nat} (hq0 : q0 = 30) : res d 38 0 [.ref q0] [] (I, L, (zup (zup Q 30 0 (some 31)) 30 1 (some 32)), 33, 0) = bV (cal d 40 [.ref q0, .int (nI 110)] (zup I q0 2 (nI 0), L, (zup (zup Q 30 0 (some 31)) 30 1 (some 32)), 33, 0)) fun h1 => res d 38 6 [.ref q0] [] h1 := by subst hq0; exact rt_go [6, 9, 12] c38 15 rfl
theorem ae38_6 {q0 : Nat} (hq0 : q0 = 30) : res d 38 6 [.ref q0] [] (I, L, (zup (zup Q 30 0 (some 31)) 30 1 (some 32)), 33, 0) = bV (cal d 40 [.ref q0, .int (nI 97)] (I, L, (zup (zup Q 30 0 (some 31)) 30 1 (some 32)), 33, 0)) fun h1 => res d 38 9 [.ref q0] [] h1 := by subst hq0; exact rt_go [6, 9, 12] c38 15 rfl
theorem ae38_9 {q0 : Nat} (hq0 : q0 = 30) : res d 38 9 [.ref q0] [] (I, L, (zup (zup Q 30 0 (some 31)) 30 1 (some 32)), 33, 0) = bV (cal d 40 [.ref q0, .int (nI 62)] (I, L, (zup (zup Q 30 0 (some 31)) 30 1 (some 32)), 33, 0)) fun h1 => res d 38 12 [.ref q0] [] h1 := by subst hq0; exact rt_go [6, 9, 12] c38 15 rfl
theorem ae38_12 {q0 : Nat} (hq0 : q0 = 30) : res d 38 12 [.ref q0] [] (I, L, (zup (zup Q 30 0 (some 31)) 30 1 (some 32)), 33, 0) = some (none, (I, L, (zup (zup Q 30 0 (some 31)) 30 1 (some 32)), 33, 0)) := by subst hq0; exact rt_go [6, 9, 12] c38 15 rfl
theorem ak39 {q0 : Nat} (hq0 : q0 = 30) {v1 : Int32} : cal d 39 [.ref q0, .int v1] (I, L, (zup (zup Q 30 0 (some 31)) 30 1 (some 32)), 33, 0) = if (nI 40) ≤ (I q0 2) then (some (none, (I, L, (zup (zup Q 30 0 (some 31)) 30 1 (some 32)), 33, 0))) else (if aok 1 (q0 + 1) (I q0 2) = true then (some (none, (zup (zup I (q0 + 1) (I q0 2).toNatClampNeg v1) q0 2 ((I q0 2) + (nI 1)), L, (zup (zup Q 30 0 (some 31)) 30 1 (some 32)), 33, 0))) else none) := ae39_0 hq0
theorem ak40 {q0 : Nat} (hq0 : q0 = 30) {v1 : Int32} : cal d 40 [.ref q0, .int v1] (I, L, (zup (zup Q 30 0 (some 31)) 30 1 (some 32)), 33, 0) = bV (cal d 39 [.ref q0, .int (-v1)] (I, L, (zup (zup Q 30 0 (some 31)) 30 1 (some 32)), 33, 0)) fun h1 => res d 40 4 [.ref q0, .int v1] [] h1 := ae40_0 hq0
theorem ak38 {q0 : Nat} (hq0 : q0 = 30) : cal d 38 [.ref q0] (I, L, (zup (zup Q 30 0 (some 31)) 30 1 (some 32)), 33, 0) = bV (cal d 40 [.ref q0, .int (nI 110)] (zup I q0 2 (nI 0), L, (zup (zup Q 30 0 (some 31)) 30 1 (some 32)), 33, 0)) fun h1 => res d 38 6 [.ref q0] [] h1 := ae38_0 hq0
theorem a39 {q : Nat} {v : Int32} (hq : q = 30) (hj : ∃ j, j ≤ 40 ∧ I q 2 = nI j) : ∃ I', cal d 39 [.ref q, .int v] (I, L, (zup (zup Q 30 0 (some 31)) 30 1 (some 32)), 33, 0) = some (none, (I', L, (zup (zup Q 30 0 (some 31)) 30 1 (some 32)), 33, 0)) ∧ fQ q I I' ∧ I' q 5 = I q 5 ∧ (∃ j, j ≤ 40 ∧ I' q 2 = nI j) ∧ ∀ (s0 : zC) e, v = stv e → rSt I q s0 → s0.length < 40 → rSt I' q (s0 ++ [e]) := by
  obtain ⟨j, hj, e⟩ := hj
  by_cases z : j < 40
  · refine ⟨zup (zup I (q + 1) j v) q 2 (nI (j + 1)), ?_, ⟨fun c a b => by rw [zup_ne _ _ _ a, zup_ne _ _ _ b], fun k a b => by rw [zup_v, if_neg a, zup_ne _ _ _ (by omega)]⟩, by rw [zup_v, if_neg (by decide), zup_ne _ _ _ (by omega)], ⟨j + 1, by omega, by rw [zup_v, if_pos rfl]⟩, fun s0 e' he hR hl => ?_⟩
    · rw [ak39 hq, e, if_neg (by rw [nI_leI (by omega) (by omega)]; omega), if_pos (ak_q1 (Or.inl hq) z), nI_clamp (by omega), nI_add]
    · have hjl : j = s0.length := by
        have := hR.1
        rw [e, nI_eq (by omega) (by omega)] at this
        exact this
      refine ⟨by rw [zup_v, if_pos rfl, List.length_append, hjl]; rfl, fun i e2 h2 => ?_⟩
      rw [zup_ne _ _ _ (by omega), zup_v]
      by_cases y : i = j
      · rw [if_pos y, he]
        rw [y, hjl, List.getElem?_append_right (Nat.le_refl _), Nat.sub_self] at h2
        cases h2
        rfl
      · have hlt : i < s0.length := by
          have := (List.getElem?_eq_some_iff.mp h2).1
          rw [List.length_append] at this
          have h1 : i < s0.length + 1 := this
          omega
        rw [if_neg y]
        rw [List.getElem?_append_left hlt] at h2
        exact hR.2 i e2 h2
  · refine ⟨I, ?_, fQ.rf, rfl, ⟨j, hj, e⟩, fun s0 e' he hR hl => ?_⟩
    · rw [ak39 hq, e, if_pos (by rw [nI_leI (by omega) (by omega)]; omega)]
    · have := hR.1
      rw [e, nI_eq (by omega) (by omega)] at this
      omega

theorem a40 {q c : Nat} (hq : q = 30) (hj : ∃ j, j ≤ 40 ∧ I q 2 = nI j) : ∃ I', cal d 40 [.ref q, .int (nI c)] (I, L, (zup (zup Q 30 0 (some 31)) 30 1 (some 32)), 33, 0) = some (none, (I', L, (zup (zup Q 30 0 (some 31)) 30 1 (some 32)), 33, 0)) ∧ fQ q I I' ∧ I' q 5 = I q 5 ∧ (∃ j, j ≤ 40 ∧ I' q 2 = nI j) ∧ ∀ s0, rSt I q s0 → s0.length < 40 → rSt I' q (s0 ++ [(false, c)]) := by
  obtain ⟨I', e, h1, h2, h3, h4⟩ := a39 (d := d) (v := -(nI c)) (L := L) (Q := Q) hq hj
  exact ⟨I', by rw [ak40 hq, e, bV_n, ae40_4 hq], h1, h2, h3, fun s0 a b => h4 s0 (false, c) rfl a b⟩

theorem a38 {q : Nat} (hq : q = 30) : ∃ I', cal d 38 [.ref q] (I, L, (zup (zup Q 30 0 (some 31)) 30 1 (some 32)), 33, 0) = some (none, (I', L, (zup (zup Q 30 0 (some 31)) 30 1 (some 32)), 33, 0)) ∧ cRu I' q usu ∧ (∀ c, c ≠ q → c ≠ q + 1 → I' c = I c) := by
  have r0 : rSt (zup I q 2 (nI 0)) q [] := ⟨by rw [zup_v, if_pos rfl]; rfl, fun i e h => by cases h⟩
  obtain ⟨I1, e1, f1, -, g1, h1⟩ := a40 (d := d) (c := 110) (I := zup I q 2 (nI 0)) (L := L) (Q := Q) hq ⟨0, by omega, by rw [zup_v, if_pos rfl]⟩
  have r1 := h1 [] r0 (by decide)
  obtain ⟨I2, e2, f2, -, g2, h2⟩ := a40 (d := d) (c := 97) (L := L) (Q := Q) hq g1
  have r2 := h2 _ r1 (by decide)
  obtain ⟨I3, e3, f3, -, g3, h3⟩ := a40 (d := d) (c := 62) (L := L) (Q := Q) hq g2
  have r3 := h3 _ r2 (by decide)
  refine ⟨I3, by rw [ak38 hq, e1, bV_n, ae38_6 hq, e2, bV_n, ae38_9 hq, e3, bV_n, ae38_12 hq], ⟨r3.1, by decide, fun e he => ?_, r3.2⟩, fun c a b => by rw [f3.1 c a b, f2.1 c a b, f1.1 c a b, zup_ne _ _ _ a]⟩
  simp only [usu, List.mem_cons, List.not_mem_nil, or_false] at he
  rcases he with rfl | rfl | rfl <;> exact ⟨by decide, by decide⟩

theorem i37_30 : cal d 37 [.ref 30] (I, L, Q, 31, 0) = bV (cal d 38 [.ref 30] ((zrow (zrow I 31 z0) 32 z0), (zrow (zrow L 31 z0L) 32 z0L), (zup (zup Q 30 0 (some 31)) 30 1 (some 32)), 33, 0)) fun h1 => res d 37 12 [.ref 30] [] h1 := rt_go [12] c37i 40 rfl
theorem i37e_30 : res d 37 12 [.ref 30] [] (I, L, Q, 33, 0) = some (none, (I, L, Q, 33, 0)) := rt_go [] c37i 40 rfl
theorem i37t_30 : ∃ I', cal d 37 [.ref 30] (I, L, Q, 31, 0) = some (none, (I', (zrow (zrow L 31 z0L) 32 z0L), (zup (zup Q 30 0 (some 31)) 30 1 (some 32)), 33, 0)) ∧ cRu I' 30 usu ∧ ∀ c, c ≠ 30 → c ≠ 30 + 1 → c ≠ 30 + 2 → I' c = I c := by
  obtain ⟨I1, e1, h1, f1⟩ := a38 (d := d) (I := (zrow (zrow I 31 z0) 32 z0)) (L := (zrow (zrow L 31 z0L) 32 z0L)) (Q := Q) (q := 30) rfl
  exact ⟨I1, by rw [i37_30, e1, bV_n, i37e_30], h1, fun c a b e => by rw [f1 c a b, zrow_n e, zrow_n b]⟩
theorem be39_0 {q0 : Nat} (hq0 : q0 = 33) {v1 : Int32} : res d 39 0 [.ref q0, .int v1] [] (I, L, (zup (zup Q 33 0 (some 34)) 33 1 (some 35)), 36, 0) = if (nI 40) ≤ (I q0 2) then (some (none, (I, L, (zup (zup Q 33 0 (some 34)) 33 1 (some 35)), 36, 0))) else (if aok 1 (q0 + 1) (I q0 2) = true then (some (none, (zup (zup I (q0 + 1) (I q0 2).toNatClampNeg v1) q0 2 ((I q0 2) + (nI 1)), L, (zup (zup Q 33 0 (some 34)) 33 1 (some 35)), 36, 0))) else none) := by subst hq0; exact rt_go [] c39 19 rfl
theorem be40_0 {q0 : Nat} (hq0 : q0 = 33) {v1 : Int32} : res d 40 0 [.ref q0, .int v1] [] (I, L, (zup (zup Q 33 0 (some 34)) 33 1 (some 35)), 36, 0) = bV (cal d 39 [.ref q0, .int (-v1)] (I, L, (zup (zup Q 33 0 (some 34)) 33 1 (some 35)), 36, 0)) fun h1 => res d 40 4 [.ref q0, .int v1] [] h1 := by subst hq0; exact rt_go [4] c40 7 rfl
theorem be40_4 {q0 : Nat} (hq0 : q0 = 33) {v1 : Int32} : res d 40 4 [.ref q0, .int v1] [] (I, L, (zup (zup Q 33 0 (some 34)) 33 1 (some 35)), 36, 0) = some (none, (I, L, (zup (zup Q 33 0 (some 34)) 33 1 (some 35)), 36, 0)) := by subst hq0; exact rt_go [4] c40 7 rfl
theorem be38_0 {q0 : Nat} (hq0 : q0 = 33) : res d 38 0 [.ref q0] [] (I, L, (zup (zup Q 33 0 (some 34)) 33 1 (some 35)), 36, 0) = bV (cal d 40 [.ref q0, .int (nI 110)] (zup I q0 2 (nI 0), L, (zup (zup Q 33 0 (some 34)) 33 1 (some 35)), 36, 0)) fun h1 => res d 38 6 [.ref q0] [] h1 := by subst hq0; exact rt_go [6, 9, 12] c38 15 rfl
theorem be38_6 {q0 : Nat} (hq0 : q0 = 33) : res d 38 6 [.ref q0] [] (I, L, (zup (zup Q 33 0 (some 34)) 33 1 (some 35)), 36, 0) = bV (cal d 40 [.ref q0, .int (nI 97)] (I, L, (zup (zup Q 33 0 (some 34)) 33 1 (some 35)), 36, 0)) fun h1 => res d 38 9 [.ref q0] [] h1 := by subst hq0; exact rt_go [6, 9, 12] c38 15 rfl
theorem be38_9 {q0 : Nat} (hq0 : q0 = 33) : res d 38 9 [.ref q0] [] (I, L, (zup (zup Q 33 0 (some 34)) 33 1 (some 35)), 36, 0) = bV (cal d 40 [.ref q0, .int (nI 62)] (I, L, (zup (zup Q 33 0 (some 34)) 33 1 (some 35)), 36, 0)) fun h1 => res d 38 12 [.ref q0] [] h1 := by subst hq0; exact rt_go [6, 9, 12] c38 15 rfl
theorem be38_12 {q0 : Nat} (hq0 : q0 = 33) : res d 38 12 [.ref q0] [] (I, L, (zup (zup Q 33 0 (some 34)) 33 1 (some 35)), 36, 0) = some (none, (I, L, (zup (zup Q 33 0 (some 34)) 33 1 (some 35)), 36, 0)) := by subst hq0; exact rt_go [6, 9, 12] c38 15 rfl
theorem bk39 {q0 : Nat} (hq0 : q0 = 33) {v1 : Int32} : cal d 39 [.ref q0, .int v1] (I, L, (zup (zup Q 33 0 (some 34)) 33 1 (some 35)), 36, 0) = if (nI 40) ≤ (I q0 2) then (some (none, (I, L, (zup (zup Q 33 0 (some 34)) 33 1 (some 35)), 36, 0))) else (if aok 1 (q0 + 1) (I q0 2) = true then (some (none, (zup (zup I (q0 + 1) (I q0 2).toNatClampNeg v1) q0 2 ((I q0 2) + (nI 1)), L, (zup (zup Q 33 0 (some 34)) 33 1 (some 35)), 36, 0))) else none) := be39_0 hq0
theorem bk40 {q0 : Nat} (hq0 : q0 = 33) {v1 : Int32} : cal d 40 [.ref q0, .int v1] (I, L, (zup (zup Q 33 0 (some 34)) 33 1 (some 35)), 36, 0) = bV (cal d 39 [.ref q0, .int (-v1)] (I, L, (zup (zup Q 33 0 (some 34)) 33 1 (some 35)), 36, 0)) fun h1 => res d 40 4 [.ref q0, .int v1] [] h1 := be40_0 hq0
theorem bk38 {q0 : Nat} (hq0 : q0 = 33) : cal d 38 [.ref q0] (I, L, (zup (zup Q 33 0 (some 34)) 33 1 (some 35)), 36, 0) = bV (cal d 40 [.ref q0, .int (nI 110)] (zup I q0 2 (nI 0), L, (zup (zup Q 33 0 (some 34)) 33 1 (some 35)), 36, 0)) fun h1 => res d 38 6 [.ref q0] [] h1 := be38_0 hq0
theorem b39 {q : Nat} {v : Int32} (hq : q = 33) (hj : ∃ j, j ≤ 40 ∧ I q 2 = nI j) : ∃ I', cal d 39 [.ref q, .int v] (I, L, (zup (zup Q 33 0 (some 34)) 33 1 (some 35)), 36, 0) = some (none, (I', L, (zup (zup Q 33 0 (some 34)) 33 1 (some 35)), 36, 0)) ∧ fQ q I I' ∧ I' q 5 = I q 5 ∧ (∃ j, j ≤ 40 ∧ I' q 2 = nI j) ∧ ∀ (s0 : zC) e, v = stv e → rSt I q s0 → s0.length < 40 → rSt I' q (s0 ++ [e]) := by
  obtain ⟨j, hj, e⟩ := hj
  by_cases z : j < 40
  · refine ⟨zup (zup I (q + 1) j v) q 2 (nI (j + 1)), ?_, ⟨fun c a b => by rw [zup_ne _ _ _ a, zup_ne _ _ _ b], fun k a b => by rw [zup_v, if_neg a, zup_ne _ _ _ (by omega)]⟩, by rw [zup_v, if_neg (by decide), zup_ne _ _ _ (by omega)], ⟨j + 1, by omega, by rw [zup_v, if_pos rfl]⟩, fun s0 e' he hR hl => ?_⟩
    · rw [bk39 hq, e, if_neg (by rw [nI_leI (by omega) (by omega)]; omega), if_pos (ak_q1 (Or.inr hq) z), nI_clamp (by omega), nI_add]
    · have hjl : j = s0.length := by
        have := hR.1
        rw [e, nI_eq (by omega) (by omega)] at this
        exact this
      refine ⟨by rw [zup_v, if_pos rfl, List.length_append, hjl]; rfl, fun i e2 h2 => ?_⟩
      rw [zup_ne _ _ _ (by omega), zup_v]
      by_cases y : i = j
      · rw [if_pos y, he]
        rw [y, hjl, List.getElem?_append_right (Nat.le_refl _), Nat.sub_self] at h2
        cases h2
        rfl
      · have hlt : i < s0.length := by
          have := (List.getElem?_eq_some_iff.mp h2).1
          rw [List.length_append] at this
          have h1 : i < s0.length + 1 := this
          omega
        rw [if_neg y]
        rw [List.getElem?_append_left hlt] at h2
        exact hR.2 i e2 h2
  · refine ⟨I, ?_, fQ.rf, rfl, ⟨j, hj, e⟩, fun s0 e' he hR hl => ?_⟩
    · rw [bk39 hq, e, if_pos (by rw [nI_leI (by omega) (by omega)]; omega)]
    · have := hR.1
      rw [e, nI_eq (by omega) (by omega)] at this
      omega

theorem b40 {q c : Nat} (hq : q = 33) (hj : ∃ j, j ≤ 40 ∧ I q 2 = nI j) : ∃ I', cal d 40 [.ref q, .int (nI c)] (I, L, (zup (zup Q 33 0 (some 34)) 33 1 (some 35)), 36, 0) = some (none, (I', L, (zup (zup Q 33 0 (some 34)) 33 1 (some 35)), 36, 0)) ∧ fQ q I I' ∧ I' q 5 = I q 5 ∧ (∃ j, j ≤ 40 ∧ I' q 2 = nI j) ∧ ∀ s0, rSt I q s0 → s0.length < 40 → rSt I' q (s0 ++ [(false, c)]) := by
  obtain ⟨I', e, h1, h2, h3, h4⟩ := b39 (d := d) (v := -(nI c)) (L := L) (Q := Q) hq hj
  exact ⟨I', by rw [bk40 hq, e, bV_n, be40_4 hq], h1, h2, h3, fun s0 a b => h4 s0 (false, c) rfl a b⟩

theorem b38 {q : Nat} (hq : q = 33) : ∃ I', cal d 38 [.ref q] (I, L, (zup (zup Q 33 0 (some 34)) 33 1 (some 35)), 36, 0) = some (none, (I', L, (zup (zup Q 33 0 (some 34)) 33 1 (some 35)), 36, 0)) ∧ cRu I' q usu ∧ (∀ c, c ≠ q → c ≠ q + 1 → I' c = I c) := by
  have r0 : rSt (zup I q 2 (nI 0)) q [] := ⟨by rw [zup_v, if_pos rfl]; rfl, fun i e h => by cases h⟩
  obtain ⟨I1, e1, f1, -, g1, h1⟩ := b40 (d := d) (c := 110) (I := zup I q 2 (nI 0)) (L := L) (Q := Q) hq ⟨0, by omega, by rw [zup_v, if_pos rfl]⟩
  have r1 := h1 [] r0 (by decide)
  obtain ⟨I2, e2, f2, -, g2, h2⟩ := b40 (d := d) (c := 97) (L := L) (Q := Q) hq g1
  have r2 := h2 _ r1 (by decide)
  obtain ⟨I3, e3, f3, -, g3, h3⟩ := b40 (d := d) (c := 62) (L := L) (Q := Q) hq g2
  have r3 := h3 _ r2 (by decide)
  refine ⟨I3, by rw [bk38 hq, e1, bV_n, be38_6 hq, e2, bV_n, be38_9 hq, e3, bV_n, be38_12 hq], ⟨r3.1, by decide, fun e he => ?_, r3.2⟩, fun c a b => by rw [f3.1 c a b, f2.1 c a b, f1.1 c a b, zup_ne _ _ _ a]⟩
  simp only [usu, List.mem_cons, List.not_mem_nil, or_false] at he
  rcases he with rfl | rfl | rfl <;> exact ⟨by decide, by decide⟩

theorem i37_33 : cal d 37 [.ref 33] (I, L, Q, 34, 0) = bV (cal d 38 [.ref 33] ((zrow (zrow I 34 z0) 35 z0), (zrow (zrow L 34 z0L) 35 z0L), (zup (zup Q 33 0 (some 34)) 33 1 (some 35)), 36, 0)) fun h1 => res d 37 12 [.ref 33] [] h1 := rt_go [12] c37i 40 rfl
theorem i37e_33 : res d 37 12 [.ref 33] [] (I, L, Q, 36, 0) = some (none, (I, L, Q, 36, 0)) := rt_go [] c37i 40 rfl
theorem i37t_33 : ∃ I', cal d 37 [.ref 33] (I, L, Q, 34, 0) = some (none, (I', (zrow (zrow L 34 z0L) 35 z0L), (zup (zup Q 33 0 (some 34)) 33 1 (some 35)), 36, 0)) ∧ cRu I' 33 usu ∧ ∀ c, c ≠ 33 → c ≠ 33 + 1 → c ≠ 33 + 2 → I' c = I c := by
  obtain ⟨I1, e1, h1, f1⟩ := b38 (d := d) (I := (zrow (zrow I 34 z0) 35 z0)) (L := (zrow (zrow L 34 z0L) 35 z0L)) (Q := Q) (q := 33) rfl
  exact ⟨I1, by rw [i37_33, e1, bV_n, i37e_33], h1, fun c a b e => by rw [f1 c a b, zrow_n e, zrow_n b]⟩
end
