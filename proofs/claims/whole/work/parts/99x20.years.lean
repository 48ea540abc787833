section
variable {I : Nat → Nat → Int32} {L : Nat → Nat → Int64} {ru dr : Nat} {sr : Nat → Option Nat} {rd : Option Nat} {rl x : Nat}
variable {d R S p n T : Nat} {f g : Nat → Nat} {a : zP} {t : Nat → Nat} {l : List Int64} {u : List zP} {kp : Nat → Option zP} {cl : List (Nat × Nat)} {si : List (Nat × Int32)} {cs : zC}

def nxd (s : Int32) : Int32 := s * nI 1103515245 + nI 12345
def dv (s : Int32) (m : Nat) : Nat := (s.toBitVec.toNat >>> 16) % m
theorem dv_lt {m : Nat} (s : Int32) (hm : 0 < m) : dv s m < m := Nat.mod_lt _ hm
theorem ush16 (s : Int32) : (s.toUInt32 >>> ((nI 16).toUInt32 &&& Int32.toUInt32 31)).toInt32 = nI (s.toBitVec.toNat >>> 16) := by
  refine b_ext fun i hi => ?_
  rw [b_ushr 16 (by decide), bt_nI hi, Nat.testBit_shiftRight]
  rfl
theorem dv_s {s : Int32} {m : Nat} (hm : 0 < m) (hm2 : m < 2 ^ 31) : (s.toUInt32 >>> ((nI 16).toUInt32 &&& Int32.toUInt32 31)).toInt32 - (s.toUInt32 >>> ((nI 16).toUInt32 &&& Int32.toUInt32 31)).toInt32 / nI m * nI m = nI (dv s m) := by
  have h1 : s.toBitVec.toNat < 2 ^ 32 := s.toBitVec.isLt
  have h2 : s.toBitVec.toNat >>> 16 < 2 ^ 31 := by rw [Nat.shiftRight_eq_div_pow]; omega
  rw [ush16, zrem h2 hm hm2]
  rfl
theorem s175 {s : Int32} : cal d 175 [.int s] (I, L, rR ru dr sr rd rl, 65, x) = some (some (.int (nxd s)), (I, L, rR ru dr sr rd rl, 65, x)) := k175
theorem s176 {s : Int32} {m : Nat} (hm : 0 < m) (hm2 : m < 2 ^ 31) : cal d 176 [.int s, .int (nI m)] (I, L, rR ru dr sr rd rl, 65, x) = some (some (.int (nI (dv s m))), (I, L, rR ru dr sr rd rl, 65, x)) := by
  rw [k176, if_neg (by rw [nI_l0 hm2]; omega), if_neg (by rw [nI_z hm2]; omega), dv_s hm hm2]
/-- years: the standing and how many throws were right -/
def ys (R S : Nat) (f g : Nat → Nat) (cs : zC) (p : Nat) : Nat → Int32 → zP → Nat → zP × Nat
  | 0, _, a, c => (a, c)
  | n + 1, s, a, c => if dv (nxd s) 4 < 3 then ys R S f g cs p n (nxd s) (thr R S f g cs p a) (c + if thb R S f g cs a = true then 1 else 0) else ys R S f g cs p n (nxd (nxd (nxd s))) (zset a (dv (nxd (nxd s)) p) (dv (nxd (nxd (nxd s))) 10)) c
theorem ys_wf (hc : zCt R S f g) (hp0 : 0 < p) : ∀ N s (a : zP) c T0, zWf p S T0 a → T0 + N < 2 ^ 24 → zWf p S (T0 + N) (ys R S f g cs p N s a c).1 ∧ (ys R S f g cs p N s a c).2 ≤ c + N
  | 0, s, a, c, T0, hw, h => ⟨hw, Nat.le_refl _⟩
  | N + 1, s, a, c, T0, hw, h => by
    unfold ys
    by_cases z : dv (nxd s) 4 < 3
    · rw [if_pos z]
      obtain ⟨h1, h2⟩ := ys_wf hc hp0 N (nxd s) _ (c + if thb R S f g cs a = true then 1 else 0) (T0 + 1) (thr_wf hc hw hp0 (by omega) cs) (by omega)
      have h3 : (if thb R S f g cs a = true then 1 else 0) ≤ 1 := by split <;> decide
      exact ⟨by rw [show T0 + (N + 1) = T0 + 1 + N by omega]; exact h1, by omega⟩
    · rw [if_neg z]
      have := dv_lt (nxd (nxd (nxd s))) (show 0 < 10 by decide)
      obtain ⟨h1, h2⟩ := ys_wf hc hp0 N (nxd (nxd (nxd s))) _ c T0 (hw.aim (q := dv (nxd (nxd s)) p) (v := dv (nxd (nxd (nxd s))) 10) (dv_lt _ hp0) (by omega)) (by omega)
      exact ⟨h1.more (by omega) h, by omega⟩
theorem l150 {v1 : Int32} {M : Nat} (hc : zCt R S f g) (hp0 : 0 < p) (hqq : zQ ru) (hM : M ≤ 60) : ∀ N i s (a : zP) c T0 (I : Nat → Nat → Int32) (w7 : Value), i + N = M → c ≤ i → zWf p S T0 a → T0 + N < 2 ^ 24 → cCt I R S f g → cSt I 17 p a → cRu I ru cs → ∃ I' s' w', res d 150 23 [.ref 1, .int v1, .int (nI M), .int (nI p), .int (nI c), .int s, .int (nI i), w7] [] (I, L, rR ru dr sr rd rl, 65, x) = res d 150 69 [.ref 1, .int v1, .int (nI M), .int (nI p), .int (nI (ys R S f g cs p N s a c).2), .int s', .int (nI M), w'] [] (I', L, rR ru dr sr rd rl, 65, x) ∧ cSt I' 17 p (ys R S f g cs p N s a c).1 ∧ fW [17] I I'
  | 0, i, s, a, c, T0, I, w7, hi, hci, hw, hT, hI, hB, hR => by
    have : i = M := by omega
    subst this
    exact ⟨I, s, w7, by rw [l150_23, if_pos (by rw [nI_leI (by omega) (by omega)]; omega)]; rfl, hB, fW.rf⟩
  | N + 1, i, s, a, c, T0, I, w7, hi, hci, hw, hT, hI, hB, hR => by
    have hp := hw.1
    have h4 := dv_lt (nxd s) (show 0 < 4 by decide)
    have hrn : ru + 1 ∉ [17] := by rcases hqq with rfl | rfl <;> decide
    rw [l150_23, if_neg (by rw [nI_leI (by omega) (by omega)]; omega), if_neg (by rw [nI_l0 (by omega)]; omega), s175, bI_i, e150_30, s176 (by decide) (by decide), bI_i, e150_34]
    unfold ys
    by_cases z : dv (nxd s) 4 < 3
    · obtain ⟨I1, e1, h1, f1⟩ := s86 (d := d) (L := L) (ru := ru) (dr := dr) (sr := sr) (rd := rd) (rl := rl) (x := x) (s := 16) hc hI (Or.inr (Or.inl rfl)) hB hw hqq hp0 hR
      have hcc : c + (if thb R S f g cs a = true then 1 else 0) ≤ i + 1 := by split <;> omega
      obtain ⟨I2, s2, w2, e2, h2, f2⟩ := l150 (v1 := v1) hc hp0 hqq hM N (i + 1) (nxd s) (thr R S f g cs p a) (c + if thb R S f g cs a = true then 1 else 0) (T0 + 1) I1 w7 (by omega) hcc (thr_wf hc hw hp0 (by omega) cs) (by omega) (f1.ct hI (by decide)) h1 (f1.cs hqq hR hrn)
      rw [if_pos z]
      refine ⟨I2, s2, w2, ?_, h2, f1.tr f2⟩
      rw [if_neg (by rw [nI_leI (by omega) (by omega)]; omega), e1, bI_i, e150_42]
      cases y : thb R S f g cs a with
      | true =>
        rw [y, if_pos rfl] at e2
        rw [if_neg (show ¬ nI (if true = true then 1 else 0) = 0 by decide), e150_46, e150_67, nI_add, nI_add]
        exact e2
      | false =>
        rw [y, if_neg Bool.false_ne_true] at e2
        rw [if_pos (show nI (if false = true then 1 else 0) = 0 from rfl), e150_46, e150_67, nI_add, nI_add]
        exact e2
    · have hq := dv_lt (nxd (nxd s)) hp0
      have h10 := dv_lt (nxd (nxd (nxd s))) (show 0 < 10 by decide)
      have hB2 := hB.put (k := 7 + dv (nxd (nxd s)) p) (v := dv (nxd (nxd (nxd s))) 10) (by omega) (by omega)
      rw [cx_7 (by omega)] at hB2
      have f1 : fW [17] I (zup I 17 (7 + dv (nxd (nxd s)) p) (nI (dv (nxd (nxd (nxd s))) 10))) := fW.up (by decide) (by decide) (by decide)
      obtain ⟨I2, s2, w2, e2, h2, f2⟩ := l150 (v1 := v1) hc hp0 hqq hM N (i + 1) (nxd (nxd (nxd s))) _ c T0 _ (.int (nI (dv (nxd (nxd s)) p))) (by omega) (by omega) (hw.aim (q := dv (nxd (nxd s)) p) (v := dv (nxd (nxd (nxd s))) 10) hq (by omega)) (by omega) (f1.ct hI (by decide)) hB2 (f1.cs hqq hR hrn)
      rw [if_neg z]
      refine ⟨I2, s2, w2, ?_, h2, f1.tr f2⟩
      rw [if_pos (by rw [nI_leI (by omega) (by omega)]; omega), s175, bI_i, e150_51, s176 hp0 (by omega), bI_i, e150_55, s175, bI_i, e150_58, s176 (by decide) (by decide), bI_i, e150_66 (Or.inr (Or.inl rfl)), s73 (s := 16) (Or.inr (Or.inl rfl)) (by omega), bV_n, e150_67, nI_add]
      exact e2
def yrA (R S : Nat) (f g : Nat → Nat) (cs : zC) (p : Nat) (a : zP) (v w : Int32) : Int32 × Option (List Int64) := match inl 1 60 w with
  | some k => if p = 0 then (nI 0, some [lN (sm a 16 0), lN (a 24)]) else (nI (ys R S f g cs p k v a 0).2, some [lN (sm (ys R S f g cs p k v a 0).1 16 p), lN ((ys R S f g cs p k v a 0).1 24)])
  | none => (-(nI 1), none)
theorem o150 {v w : Int32} (h : cInv I L ru dr R S f g p a n t l u kp cl si cs) (hw : wInv R S f g p a T u kp) (hT1 : T + 100 < 2 ^ 24) : ∃ I' L', cal d 150 [.ref 1, .int v, .int w] (I, L, rR ru dr sr rd rl, 65, x) = some (some (.int (yrA R S f g cs p a v w).1), (I', L', rR ru dr sr rd rl, 65, x)) ∧ cInv I' L' ru dr R S f g p a n t ((yrA R S f g cs p a v w).2.getD l) u kp cl si cs := by
  have h0 := h
  obtain ⟨hI, hA, hT, hO, hP, hC, hS, hQ, hR⟩ := h
  obtain ⟨hc, hw, hu, hk⟩ := hw
  have hp := hw.1
  unfold yrA
  rw [k150]
  cases z : inl 1 60 w with
  | none =>
    refine ⟨I, L, ?_, h0⟩
    by_cases z1 : w < nI 1
    · rw [if_pos z1]
    · rw [if_neg z1, if_neg (fun e => (inl_n z).elim z1 (fun y2 => (fa_of_lt y2).2.1 e))]
  | some k =>
    obtain ⟨k1, k2, rfl⟩ := inl_s (by decide) (by decide) z
    obtain ⟨I1, e1, h1, f1⟩ := s65 (d := d) (L := L) (ru := ru) (dr := dr) (sr := sr) (rd := rd) (rl := rl) (x := x) (s0 := 16) (s := 14) (Or.inr (Or.inl rfl)) (Or.inl rfl) hA
    rw [if_neg (by rw [nI_ltI (by omega) (by omega)]; omega), if_pos (by rw [nI_leI (by omega) (by omega)]; omega), e1, bV_n, e150_13, s68 (s := 16) (Or.inr (Or.inl rfl)) h1, bI_i, e150_16]
    dsimp only
    have fin : ∀ (I2 : Nat → Nat → Int32) (b : zP) (c T0 : Nat) (s2 w3 : Int32) (w2 : Value), fW [17] I I2 → cSt I2 17 p b → zWf p S T0 b → ∃ I' L', res d 150 69 [.ref 1, .int v, .int (nI k), .int (nI p), .int (nI c), .int s2, .int w3, w2] [] (I2, L, rR ru dr sr rd rl, 65, x) = some (some (.int (nI c)), (I', L', rR ru dr sr rd rl, 65, x)) ∧ cInv I' L' ru dr R S f g p a n t ([lN (sm b 16 p), lN (b 24)]) u kp cl si cs := fun I2 b c T0 s2 w3 w2 f2 h2 hw2 => by
      have m1 := sm_le (p := p) (b := b) (w := 16) (c := 99) (fun q hq => (hw2.2.1 q (by omega)).2.2.2.2.1)
      have m3 : p * 99 ≤ 396 := by omega
      have h24 := hw2.2.2.2.1
      obtain ⟨I7, e7, h7, f7⟩ := s101 (d := d) (L := L) (ru := ru) (dr := dr) (sr := sr) (rd := rd) (rl := rl) (x := x) (I := I2)
      have hB7 : cSt I7 17 p b := f7.st (s := 16) (Or.inr (Or.inl rfl)) h2 (by decide)
      obtain ⟨I8, L8, e8, h8, f8, g8⟩ := s102 (d := d) (v := lN (sm b 16 p)) (ru := ru) (dr := dr) (sr := sr) (rd := rd) (rl := rl) (x := x) h7 (by decide)
      have hB8 : cSt I8 17 p b := f8.st (s := 16) (Or.inr (Or.inl rfl)) hB7 (by decide)
      obtain ⟨I9, L9, e9, h9, f9, g9⟩ := s102 (d := d) (v := lN (b 24)) (ru := ru) (dr := dr) (sr := sr) (rd := rd) (rl := rl) (x := x) h8 (show 1 < 8 by decide)
      have f10 : fW [4, 17] I I9 := (f2.mono (by decide)).tr ((f7.tr (f8.tr f9)).mono (by decide))
      refine ⟨I9, L9, ?_, ⟨f10.ct hI (by decide), f10.st (Or.inl rfl) hA (by decide), f10.tx hT (by decide), h9, f10.pa hP (by decide), f10.clu hC (by decide), f10.sig hS (by decide), hQ, f10.cs (zRD.q hQ) hR (zRD.nn hQ (by decide))⟩⟩
      rw [e150_69, e7, bV_n, e150_72, s74f (s := 16) (Or.inr (Or.inl rfl)) hB7 hp, bI_i, e150_78, nI_l (by omega), e8, bV_n, e150_80, s69 (s := 16) (Or.inr (Or.inl rfl)) hB8, bI_i, e150_85, nI_l (by omega), e9, bV_n, e150_87]
    by_cases y : p = 0
    · obtain ⟨I2, L2, e2, h2⟩ := fin I1 a 0 T v (nI 0) .null f1 h1 hw
      rw [l150_23, if_neg (by rw [nI_leI (by omega) (by omega)]; omega), if_pos (by rw [nI_l0 (by omega)]; exact y), if_pos y]
      refine ⟨I2, L2, e2, ?_⟩
      rw [y] at h2 ⊢
      exact h2
    · obtain ⟨I2, s2, w2, e2, h2, f2⟩ := l150 (d := d) (L := L) (ru := ru) (dr := dr) (sr := sr) (rd := rd) (rl := rl) (x := x) (v1 := v) hc (show 0 < p by omega) (zRD.q hQ) k2 k 0 v a 0 T I1 .null (by omega) (Nat.le_refl _) hw (by omega) (f1.ct hI (by decide)) h1 (f1.cs (zRD.q hQ) hR (zRD.nn hQ (by decide)))
      have hwy := (ys_wf (cs := cs) hc (show 0 < p by omega) k v a 0 T hw (by omega)).1
      obtain ⟨I3, L3, e3, h3⟩ := fin I2 _ (ys R S f g cs p k v a 0).2 _ s2 (nI k) w2 (f1.tr f2) h2 hwy
      rw [e2, if_neg y]
      exact ⟨I3, L3, e3, h3⟩

end
