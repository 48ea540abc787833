section
variable {I : Nat → Nat → Int32} {L : Nat → Nat → Int64} {Q : Nat → Nat → Option Nat} {d n : Nat} {t : Nat → Nat}
theorem i300_0 : res d 300 0 [.ref 999, .null, .null, .null, .null, .null, .null, .null] [] (I, L, Q, 1, 0) = bV (cal d 106 [.ref 1] (zrow I 1 z0, L, zrow Q 1 zN, 2, 0)) fun h1 => res d 300 3 [.ref 999, .null, .null, .null, .null, .null, .null, .null] [.ref 1] h1 := rt_go [3, 7, 13] c300 10 rfl
theorem i300_3 : res d 300 3 [.ref 999, .null, .null, .null, .null, .null, .null, .null] [.ref 1] (I, L, Q, 36, 0) = bV (cal d 177 [.ref 36] (zrow I 36 z0, L, zrow Q 36 zN, 37, 0)) fun h1 => res d 300 7 [.ref 999, .ref 1, .null, .null, .null, .null, .null, .null] [.ref 36] h1 := rt_go [3, 7, 13] c300 10 rfl
theorem i300_7 : res d 300 7 [.ref 999, .ref 1, .null, .null, .null, .null, .null, .null] [.ref 36] (I, L, Q, 64, 0) = res d 300 13 [.ref 999, .ref 1, .ref 36, .ref 64, .int (nI 0), .null, .null, .null] [] (zrow I 64 z0, zrow L 64 z0L, Q, 65, 0) := rt_go [3, 7, 13] c300 10 rfl
def Bd (Q : Nat → Nat → Option Nat) : Prop := ∀ a k, (65 ≤ a ∨ 64 ≤ k) → Q a k = none
theorem Bd_n : Bd (fun _ _ => none) := fun _ _ _ => rfl
theorem Bd_r {a : Nat} (h : Bd Q) (ha : a < 65) : Bd (zrow Q a zN) := fun b k hb => by
  by_cases z : b = a
  · rw [z, zrow_e]
  · rw [zrow_n z]; exact h b k hb
theorem Bd_u {a k v : Nat} (h : Bd Q) (ha : a < 65) (hk : k < 64) : Bd (zup Q a k (some v)) := fun b j hb => by
  by_cases z : b = a
  · rw [z, zup_v, if_neg (by omega)]
    rw [← z]
    exact h b j hb
  · rw [zup_ne _ _ _ z]; exact h b j hb
theorem Bd_R : Bd (rR 30 33 (fun _ => none) none 44) := fun a k h => by
  unfold rR
  split <;> first | rfl | omega | (split <;> first | rfl | omega)
abbrev qA : Nat → Nat → Option Nat := qM (qC (zrow (fun _ _ => none) 1 zN))
theorem qA_bd : Bd qA := by
  unfold qA qM qC
  repeat first | exact Bd_n | refine Bd_r ?_ (by decide) | refine Bd_u ?_ (by decide) (by decide)
theorem qA_dec : ∀ a, a < 65 → ∀ k, k < 64 → qA a k = rR 30 33 (fun _ => none) none 44 a k := by decide +kernel
theorem qA_eq : qA = rR 30 33 (fun _ => none) none 44 := by
  funext a k
  by_cases z : a < 65
  · by_cases y : k < 64
    · exact qA_dec a z k y
    · rw [qA_bd a k (by omega), Bd_R a k (by omega)]
  · rw [qA_bd a k (by omega), Bd_R a k (by omega)]
theorem istart {N : Nat} {xs : Nat → Int32} : ∃ I' L', res d 300 0 (zent 8 [.ref 999]) [] (zH0 N xs) = res d 300 13 [.ref 999, .ref 1, .ref 36, .ref 64, .int (nI 0), .null, .null, .null] [] (I', L', rR 30 33 (fun _ => none) none 44, 65, 0) ∧ cInv I' L' 30 33 3 (cff tZ 3) (cff tZ) (cgg tZ 3) 0 (fun _ => 0) 0 (fun _ => 0) [] [] (fun _ => none) [] [] usu ∧ mInv I' L' 44 0 3 (cff tZ 3) (cff tZ) (cgg tZ 3) 0 (fun _ => 0) 0 (fun _ => 0) [] [] (fun _ => none) [] [] 0 (fun _ => 0) ∧ I' 998 0 = nI N ∧ ∀ k, I' 999 k = xs k := by
  obtain ⟨I1, L1, e1, a1, a2, b2, b4, b15, b20, b23, b26, f1⟩ := i106 (d := d) (I := zrow (zI0 N xs) 1 z0) (L := fun _ _ => 0) (Q := zrow (fun _ _ => none) 1 zN)
  obtain ⟨I2, L2, e2, m1, m2, m3, m4, m5, m6, m7, m8, m9, m10, m11, f2⟩ := i177 (d := d) (I := I1) (L := L1) (Q := qC (zrow (fun _ _ => none) 1 zN))
  have g : ∀ c, c < 36 → zrow I2 64 z0 c = I1 c := fun c hc => by rw [zrow_n (by omega), f2 c (by omega)]
  have gm : ∀ c, c < 64 → zrow I2 64 z0 c = I2 c := fun c hc => zrow_n (by omega)
  have g9 : ∀ c, 65 ≤ c → scr c = false → zrow I2 64 z0 c = zI0 N xs c := fun c hc hs => by rw [zrow_n (by omega), f2 c (by omega), f1 c (by omega) hs, zrow_n (by omega)]
  refine ⟨zrow I2 64 z0, zrow L2 64 z0L, ?_, ⟨⟨?_, ?_, ?_, ?_⟩, ?_, ⟨?_, by decide, fun k hk => absurd hk (Nat.not_lt_zero _)⟩, ⟨?_, by decide, fun i v h => by cases h⟩, ⟨?_, by decide, ?_, ⟨0, by decide, ?_, fun i b h => by cases h⟩, fun i b _ h => by cases h⟩, ⟨?_, by decide, fun i w v h => by cases h⟩, ⟨?_, by decide, fun i w v h => by cases h⟩, Or.inl ⟨rfl, rfl⟩, ?_⟩, ⟨?_, ?_, ?_, ⟨?_, by decide, fun k hk => absurd hk (Nat.not_lt_zero _)⟩, ⟨?_, by decide, fun i v h => by cases h⟩, ⟨?_, by decide, fun i b h => by cases h⟩, ⟨0, by decide, ?_, fun i hi => ⟨fun _ => Or.inl ?_, fun b h => by cases h⟩⟩, ⟨?_, by decide, fun i w v h => by cases h⟩, ⟨?_, by decide, fun i w v h => by cases h⟩, rfl, ⟨?_, by decide, fun k hk => absurd hk (Nat.not_lt_zero _)⟩⟩, ?_, fun k => ?_⟩
  · show res d 300 0 [.ref 999, .null, .null, .null, .null, .null, .null, .null] [] (zI0 N xs, (fun _ _ => 0), (fun _ _ => none), 1, 0) = _
    rw [i300_0, e1, bV_n, i300_3, e2, bV_n, i300_7]
    rw [show qM (qC (zrow (fun _ _ => none) 1 zN)) = rR 30 33 (fun _ => none) none 44 from qA_eq]
  · rw [g 6 (by decide)]; exact a1.1
  · rw [g 6 (by decide)]; exact a1.2.1
  · rw [g 7 (by decide)]; exact a1.2.2.1
  · rw [g 8 (by decide)]; exact a1.2.2.2
  · intro k hk
    rw [g 15 (by decide), b15]
    show (0 : Int32) = nI (cv 0 (fun _ => 0) k)
    have e : cv 0 (fun _ => 0) k = 0 := by unfold cv; simp only [ite_self]
    rw [e]
    rfl
  · rw [g 2 (by decide), b2]; rfl
  · rw [g 4 (by decide), b4]; rfl
  · rw [g 20 (by decide), b20]; rfl
  · rw [g 20 (by decide), b20]; rfl
  · rw [g 20 (by decide), b20]; rfl
  · rw [g 23 (by decide), b23]; rfl
  · rw [g 26 (by decide), b26]; rfl
  · exact ⟨by rw [g 30 (by decide)]; exact a2.1, a2.2.1, a2.2.2.1, fun i e he => by rw [g 31 (by decide)]; exact a2.2.2.2 i e he⟩
  · exact ⟨by rw [gm 36 (by decide)]; exact m1.1, by rw [gm 36 (by decide)]; exact m1.2.1, by rw [gm 38 (by decide)]; exact m1.2.2.1, by rw [gm 39 (by decide)]; exact m1.2.2.2⟩
  · rw [gm 36 (by decide)]; exact m2
  · intro k hk
    rw [gm 37 (by decide), m3]
    rfl
  · rw [gm 36 (by decide)]; exact m4
  · rw [gm 36 (by decide)]; exact m5
  · rw [gm 36 (by decide)]; exact m6
  · rw [gm 36 (by decide)]; exact m7
  · rw [gm 62 (by decide), m8]; rfl
  · rw [gm 36 (by decide)]; exact m9
  · rw [gm 36 (by decide)]; exact m10
  · rw [gm 36 (by decide)]; exact m11
  · rw [g9 998 (by decide) rfl]; rfl
  · rw [g9 999 (by decide) rfl]; rfl
end
