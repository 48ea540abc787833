section
variable {I : Nat → Nat → Int32} {L : Nat → Nat → Int64} {ru dr : Nat} {sr : Nat → Option Nat} {rd : Option Nat} {rl x : Nat}

theorem zadd8 {a : Nat} (h : 8 ≤ a) : nI a + -(nI 8) = nI (a - 8) := by rw [← Int32.sub_eq_add_neg, zsub h]
/-! THE TEXT -/
def cTx (I : Nat → Nat → Int32) (n : Nat) (t : Nat → Nat) : Prop := I 2 1 = nI n ∧ n ≤ 80 ∧ ∀ k, k < n → I 3 k = nI (t k) ∧ t k < 256
theorem cTx.congr {I I' : Nat → Nat → Int32} {n : Nat} {t : Nat → Nat} (h : cTx I n t) (h2 : I' 2 = I 2) (h3 : I' 3 = I 3) : cTx I' n t := by
  unfold cTx
  rw [h2, h3]
  exact h
def byt (v : Int32) (k : Nat) : Nat := (v.toBitVec.toNat >>> k) % 256
theorem byt_lt (v : Int32) (k : Nat) : byt v k < 256 := Nat.mod_lt _ (by decide)
theorem byt_tb (v : Int32) (k i : Nat) : (byt v k).testBit i = (decide (i < 8) && bt v (k + i)) := by
  unfold byt bt
  rw [show (256 : Nat) = 2 ^ 8 from rfl, Nat.testBit_mod_two_pow, Nat.testBit_shiftRight]
  rfl
theorem byt_c (v : Int32) {k : Nat} (hk : k < 32) : (v.toUInt32 >>> ((nI k).toUInt32 &&& Int32.toUInt32 31)).toInt32 &&& nI 255 = nI (byt v k) := by
  refine b_ext fun i hi => ?_
  rw [b_and, b_ushr k hk, show nI 255 = (255 : Int32) from rfl, b_255, bt_nI hi, byt_tb, Bool.and_comm]
theorem byt_m (v : Int32) {k : Nat} (hk : k ≤ 24) : v >>> (nI k &&& 31) &&& 255 = nI (byt v k) := by
  refine b_ext fun i hi => ?_
  rw [b_and, b_sshr k (by omega) v hi, bt_nI hi, byt_tb, b_255, Bool.and_comm]
  by_cases h : i < 8
  · rw [if_pos (by omega)]
  · rw [decide_eq_false h]; rfl
theorem byt_m8 (v : Int32) {k : Nat} (hk : k ≤ 24) : (v >>> (nI k &&& 31)).toInt8 = (nI (byt v k)).toInt8 := by rw [← byt_m v hk, fa_byte_low]
theorem chr256 : ∀ k, k < 256 → ((nI k).toUInt32 % 65536).toInt32 = nI k := by decide +kernel
/-- a text with four signs more -/
def tx4 (t : Nat → Nat) (n : Nat) (v : Int32) : Nat → Nat := zset (zset (zset (zset t n (byt v 24)) (n + 1) (byt v 16)) (n + 2) (byt v 8)) (n + 3) (byt v 0)
theorem l94s {d n k : Nat} {t : Nat → Nat} {v : Int32} (hT : cTx I n t) (hn : n < 80) (hk : k < 32) : res d 94 10 [.ref 2, .int v, .int (nI k)] [] (I, L, rR ru dr sr rd rl, 65, x) = res d 94 10 [.ref 2, .int v, .int (nI k + -(nI 8))] [] (zup (zup I 3 n (nI (byt v k))) 2 1 (nI (n + 1)), L, rR ru dr sr rd rl, 65, x) ∧ cTx (zup (zup I 3 n (nI (byt v k))) 2 1 (nI (n + 1))) (n + 1) (zset t n (byt v k)) := by
  refine ⟨?_, ?_⟩
  · rw [l94_10, if_neg (nI_pos (by omega)), hT.1, if_pos (ak_3 hn), byt_c v hk, chr256 _ (byt_lt v k), chr256 _ (byt_lt v k), nI_clamp (by omega), nI_add]
  · refine ⟨by rw [zup_v, if_pos rfl], by omega, fun j hj => ?_⟩
    rw [zup_ne _ _ _ (by decide), zup_v]
    by_cases z : j = n
    · rw [if_pos z, z, zset_self]; exact ⟨rfl, byt_lt v k⟩
    · rw [if_neg z, zset_ne _ _ z]; exact hT.2.2 j (by omega)
theorem s94f {d n : Nat} {t : Nat → Nat} {v : Int32} (hT : cTx I n t) (hn : 76 < n) : cal d 94 [.ref 2, .int v] (I, L, rR ru dr sr rd rl, 65, x) = some (some (.int (nI 0)), (I, L, rR ru dr sr rd rl, 65, x)) := by
  have := hT.2.1
  rw [k94, hT.1, nI_add, if_neg (by rw [nI_leI (by omega) (by omega)]; omega), if_pos zb0]
theorem s94t {d n : Nat} {t : Nat → Nat} {v : Int32} (hT : cTx I n t) (hn : n ≤ 76) : ∃ I', cal d 94 [.ref 2, .int v] (I, L, rR ru dr sr rd rl, 65, x) = some (some (.int (nI 1)), (I', L, rR ru dr sr rd rl, 65, x)) ∧ cTx I' (n + 4) (tx4 t n v) ∧ fW [2, 3] I I' := by
  have e1 := l94s (d := d) (v := v) (L := L) (ru := ru) (dr := dr) (sr := sr) (rd := rd) (rl := rl) (x := x) (k := 24) hT (by omega) (by omega)
  have e2 := l94s (d := d) (v := v) (L := L) (ru := ru) (dr := dr) (sr := sr) (rd := rd) (rl := rl) (x := x) (k := 16) e1.2 (by omega) (by omega)
  have e3 := l94s (d := d) (v := v) (L := L) (ru := ru) (dr := dr) (sr := sr) (rd := rd) (rl := rl) (x := x) (k := 8) e2.2 (by omega) (by omega)
  have e4 := l94s (d := d) (v := v) (L := L) (ru := ru) (dr := dr) (sr := sr) (rd := rd) (rl := rl) (x := x) (k := 0) e3.2 (by omega) (by omega)
  have hu : ∀ (J : Nat → Nat → Int32) (j i : Nat) (u w : Int32), fW [2, 3] J (zup (zup J 3 j u) 2 i w) := fun J j i u w => (fW.up (by decide) (by decide) (by decide)).tr (fW.up (by decide) (by decide) (by decide))
  refine ⟨_, ?_, e4.2, (((hu _ _ _ _ _).tr (hu _ _ _ _ _)).tr (hu _ _ _ _ _)).tr (hu _ _ _ _ _)⟩
  rw [k94, hT.1, nI_add, if_pos (by rw [nI_leI (by omega) (by omega)]; omega), e1.1, zadd8 (by decide), e2.1, zadd8 (by decide), e3.1, zadd8 (by decide), e4.1, l94_10, if_pos (by decide), if_pos zb1]
theorem s95t {d n k : Nat} {t : Nat → Nat} (hT : cTx I n t) (hk : k ≤ n) : cal d 95 [.ref 2, .int (nI k)] (I, L, rR ru dr sr rd rl, 65, x) = some (some (.int (nI 1)), (zup I 2 1 (nI k), L, rR ru dr sr rd rl, 65, x)) := by
  have := hT.2.1
  rw [k95, if_neg (nI_pos (by omega)), hT.1, if_pos (by rw [nI_leI (by omega) (by omega)]; omega), if_pos zb1]
theorem s95f {d n : Nat} {v : Int32} {t : Nat → Nat} (hT : cTx I n t) (hv : ∀ k, k ≤ n → v ≠ nI k) : cal d 95 [.ref 2, .int v] (I, L, rR ru dr sr rd rl, 65, x) = some (some (.int (nI 0)), (I, L, rR ru dr sr rd rl, 65, x)) := by
  have := hT.2.1
  rw [k95]
  by_cases z : v < 0
  · rw [if_pos z, if_pos zb0]
  · obtain ⟨j, hj, rfl⟩ := nI_of z
    rw [if_neg z, hT.1, if_neg (by rw [nI_leI (by omega) (by omega)]; exact fun q => hv j q rfl), if_pos zb0]
theorem cTx.cut {n k : Nat} {t : Nat → Nat} (hT : cTx I n t) (hk : k ≤ n) : cTx (zup I 2 1 (nI k)) k t := by
  have := hT.2.1
  exact ⟨by rw [zup_v, if_pos rfl], by omega, fun j hj => by rw [zup_ne _ _ _ (by decide)]; exact hT.2.2 j (by omega)⟩
theorem s96 {d : Nat} : cal d 96 [.ref 2] (I, L, rR ru dr sr rd rl, 65, x) = some (none, (zup I 2 1 (nI 0), L, rR ru dr sr rd rl, 65, x)) := k96
theorem s97 {d n : Nat} {t : Nat → Nat} (hT : cTx I n t) : cal d 97 [.ref 2] (I, L, rR ru dr sr rd rl, 65, x) = some (some (.int (nI n)), (I, L, rR ru dr sr rd rl, 65, x)) := by rw [k97, hT.1]
def sgn (t : Nat → Nat) (m k : Nat) : Int32 := if k < m then nI (t k) else -(nI 1)
theorem s98 {d n m k : Nat} {t : Nat → Nat} (hT : cTx I n t) (hm : m ≤ n) (hk : k < 1000) : cal d 98 [.ref 2, .int (nI k), .int (nI m)] (I, L, rR ru dr sr rd rl, 65, x) = some (some (.int (sgn t m k)), (I, L, rR ru dr sr rd rl, 65, x)) := by
  have := hT.2.1
  rw [k98, if_neg (nI_pos (by omega))]
  unfold sgn
  by_cases z : k < m
  · rw [if_neg (by rw [nI_leI (by omega) (by omega)]; omega), hT.1, if_neg (by rw [nI_leI (by omega) (by omega)]; omega), if_pos (ak_3 (by omega)), if_pos z, nI_clamp (by omega), (hT.2.2 k (by omega)).1]
  · rw [if_pos (by rw [nI_leI (by omega) (by omega)]; omega), if_neg z]
def dgt (c : Nat) : Bool := decide (48 ≤ c ∧ c ≤ 57)
theorem s158 {d c : Nat} (hc : c < 256) : cal d 158 [.int (nI c)] (I, L, rR ru dr sr rd rl, 65, x) = some (some (.int (nI (if dgt c = true then 1 else 0))), (I, L, rR ru dr sr rd rl, 65, x)) := by
  unfold dgt
  rw [k158]
  by_cases z : c < 48
  · rw [if_pos (by rw [nI_ltI (by omega) (by omega)]; omega), if_pos zb0, decide_eq_false (by omega), if_neg (by decide)]
  · rw [if_neg (by rw [nI_ltI (by omega) (by omega)]; omega)]
    by_cases y : c ≤ 57
    · rw [if_neg (by rw [nI_ltI (by omega) (by omega)]; omega), if_pos zb1, decide_eq_true (by omega), if_pos rfl]
    · rw [if_pos (by rw [nI_ltI (by omega) (by omega)]; omega), if_pos zb0, decide_eq_false (by omega), if_neg (by decide)]
theorem s158m {d : Nat} : cal d 158 [.int (-(nI 1))] (I, L, rR ru dr sr rd rl, 65, x) = some (some (.int (nI 0)), (I, L, rR ru dr sr rd rl, 65, x)) := by rw [k158, if_pos (by decide), if_pos zb0]
def dga (t : Nat → Nat) (n k : Nat) : Int32 := if k < n ∧ dgt (t k) = true then nI (t k - 48) else -(nI 1)
theorem s99 {d n k : Nat} {t : Nat → Nat} (hT : cTx I n t) (hk : k < 1000) : cal d 99 [.ref 2, .int (nI k)] (I, L, rR ru dr sr rd rl, 65, x) = some (some (.int (dga t n k)), (I, L, rR ru dr sr rd rl, 65, x)) := by
  rw [k99, hT.1, s98 hT (Nat.le_refl _) hk, bI_i, e99_5]
  unfold sgn dga
  by_cases z : k < n
  · have h2 := (hT.2.2 k z).2
    rw [if_pos z, s158 h2, bI_i, e99_8]
    cases y : dgt (t k) with
    | true =>
      have : 48 ≤ t k := (of_decide_eq_true y).1
      rw [if_pos rfl, if_neg (by decide), zsub this, if_pos ⟨z, rfl⟩]
    | false => rw [if_neg Bool.false_ne_true, if_pos (show nI 0 = 0 from rfl), if_neg (by simp)]
  · rw [if_neg z, s158m, bI_i, e99_8, if_pos (show nI 0 = 0 from rfl), if_neg (fun q => z q.1)]
/-! the told numbers -/
def cTo (I : Nat → Nat → Int32) (L : Nat → Nat → Int64) (l : List Int64) : Prop := I 4 1 = nI l.length ∧ l.length ≤ 8 ∧ ∀ i v, l[i]? = some v → L 5 i = v
theorem cTo.congr {I I' : Nat → Nat → Int32} {L L' : Nat → Nat → Int64} {l : List Int64} (h : cTo I L l) (h2 : I' 4 = I 4) (h3 : L' 5 = L 5) : cTo I' L' l := by
  unfold cTo
  rw [h2, h3]
  exact h
theorem s101 {d : Nat} : ∃ I', cal d 101 [.ref 4] (I, L, rR ru dr sr rd rl, 65, x) = some (none, (I', L, rR ru dr sr rd rl, 65, x)) ∧ cTo I' L [] ∧ fW [4] I I' := ⟨_, k101, ⟨by rw [zup_v, if_pos rfl]; rfl, by decide, fun i v h => by cases h⟩, fW.up (by decide) (by decide) (by decide)⟩
theorem s102 {d : Nat} {l : List Int64} {v : Int64} (hT : cTo I L l) (hl : l.length < 8) : ∃ I' L', cal d 102 [.ref 4, .long v] (I, L, rR ru dr sr rd rl, 65, x) = some (none, (I', L', rR ru dr sr rd rl, 65, x)) ∧ cTo I' L' (l ++ [v]) ∧ fW [4] I I' ∧ ∀ c, c ≠ 5 → L' c = L c := by
  refine ⟨zup I 4 1 (nI (l.length + 1)), zup L 5 l.length v, ?_, ⟨?_, ?_, fun i w h => ?_⟩, fW.up (by decide) (by decide) (by decide), fun c hc => zup_ne _ _ _ hc⟩
  · rw [k102, hT.1, if_neg (by rw [nI_leI (by omega) (by omega)]; omega), if_pos (ak_5 hl), nI_add, nI_clamp (by omega)]
  · rw [zup_v, if_pos rfl, List.length_append]; rfl
  · rw [List.length_append]; exact hl
  · rw [zup_v]
    by_cases z : i = l.length
    · rw [if_pos z]
      rw [z, List.getElem?_append_right (Nat.le_refl _), Nat.sub_self] at h
      exact Option.some.inj h
    · rw [if_neg z]
      have hlt : i < l.length := by
        have := (List.getElem?_eq_some_iff.mp h).1
        rw [List.length_append] at this
        have h1 : i < l.length + 1 := this
        omega
      rw [List.getElem?_append_left hlt] at h
      exact hT.2.2 i w h
theorem s103 {d : Nat} {l : List Int64} (hT : cTo I L l) : cal d 103 [.ref 4] (I, L, rR ru dr sr rd rl, 65, x) = some (some (.int (nI l.length)), (I, L, rR ru dr sr rd rl, 65, x)) := by rw [k103, hT.1]
theorem s104t {d i : Nat} {l : List Int64} (hT : cTo I L l) (hi : i < l.length) : cal d 104 [.ref 4, .int (nI i)] (I, L, rR ru dr sr rd rl, 65, x) = some (some (.int (nI 1)), (I, L, rR ru dr sr rd rl, 65, x)) := by
  have := hT.2.1
  rw [k104, if_neg (nI_pos (by omega)), hT.1, if_neg (by rw [nI_leI (by omega) (by omega)]; omega), if_pos zb1]
theorem s104f {d : Nat} {v : Int32} {l : List Int64} (hT : cTo I L l) (hv : ∀ k, k < l.length → v ≠ nI k) : cal d 104 [.ref 4, .int v] (I, L, rR ru dr sr rd rl, 65, x) = some (some (.int (nI 0)), (I, L, rR ru dr sr rd rl, 65, x)) := by
  have := hT.2.1
  rw [k104]
  by_cases z : v < 0
  · rw [if_pos z, if_pos zb0]
  · obtain ⟨j, hj, rfl⟩ := nI_of z
    rw [if_neg z, hT.1, if_pos (by rw [nI_leI (by omega) (by omega)]; exact Nat.le_of_not_lt fun q => hv j q rfl), if_pos zb0]
theorem s105 {d i : Nat} {v : Int64} {l : List Int64} (hT : cTo I L l) (hi : l[i]? = some v) : cal d 105 [.ref 4, .int (nI i)] (I, L, rR ru dr sr rd rl, 65, x) = some (some (.long v), (I, L, rR ru dr sr rd rl, 65, x)) := by
  have h := (List.getElem?_eq_some_iff.mp hi).1
  have := hT.2.1
  rw [k105, s104t hT h, bI_i, e105_3, if_neg (by decide), if_pos (ak_5 (by omega)), nI_clamp (by omega), hT.2.2 i v hi]
theorem s168 {d m : Nat} (hm : m < 65536) : ∃ I' L', cal d 168 [.ref 1, .int (nI m)] (I, L, rR ru dr sr rd rl, 65, x) = some (some (.int (nI m)), (I', L', rR ru dr sr rd rl, 65, x)) ∧ cTo I' L' [lN (pc m)] ∧ fW [4] I I' ∧ ∀ c, c ≠ 5 → L' c = L c := by
  obtain ⟨I1, e1, h1, f1⟩ := s101 (d := d) (I := I) (L := L) (ru := ru) (dr := dr) (sr := sr) (rd := rd) (rl := rl) (x := x)
  obtain ⟨I2, L2, e2, h2, f2, g2⟩ := s102 (d := d) (v := lN (pc m)) (ru := ru) (dr := dr) (sr := sr) (rd := rd) (rl := rl) (x := x) h1 (by decide)
  have := pc_le m
  exact ⟨I2, L2, by rw [k168, e1, bV_n, e168_3, s296 hm, bI_i, e168_7, nI_l (by omega), e2, bV_n, e168_9], h2, f1.tr f2, g2⟩

end
