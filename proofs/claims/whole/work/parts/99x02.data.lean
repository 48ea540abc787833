section
variable {I : Nat → Nat → Int32} {L : Nat → Nat → Int64} {ru dr : Nat} {sr : Nat → Option Nat} {rd : Option Nat} {rl x : Nat}

def mk (a : Nat → Nat) : Nat → Nat
  | 0 => a 25 % 7 * 4 + a 24
  | q + 1 => ((mk a q * 17 + a (8 + q)) * 10 + a (20 + q)) * 100 + a (16 + q)
theorem l89 {d : Nat} {s p : Nat} {a : Nat → Nat} (hs : zS s) (hA : cSt I (s + 1) p a) {S T : Nat} (hS : S ≤ 16) (hw : zWf p S T a) : ∀ n q, q + n = p → res d 89 16 [.ref s, .long (lN (mk a q)), .null, .int (nI q)] [] (I, L, rR ru dr sr rd rl, 65, x) = some (some (.long (lN (mk a p))), (I, L, rR ru dr sr rd rl, 65, x))
  | 0, q, h => by
    have hp := hw.1
    rw [l89_16 hs, s68 hs hA, bI_i, e89_19 hs, if_pos (by rw [nI_leI (by omega) (by omega)]; omega), show q = p by omega]
  | n + 1, q, h => by
    have hp := hw.1
    have hb := hw.2.1 q (by omega)
    have ih := l89 (d := d) hs hA hS hw n (q + 1) (by omega)
    rw [mk] at ih
    rw [l89_16 hs, s68 hs hA, bI_i, e89_19 hs, if_neg (by rw [nI_leI (by omega) (by omega)]; omega), s72 hs hA (by omega), bI_i, e89_27 hs, cv_11, nI_l (by omega), lN_mul, lN_add, s72 hs hA (by omega), bI_i, e89_37 hs, cv_23, nI_l (by omega), lN_mul, lN_add, s72 hs hA (by omega), bI_i, e89_47 hs, cv_19, nI_l (by omega), lN_mul, lN_add, nI_add]
    exact ih
theorem s89 {d : Nat} {s p : Nat} {a : Nat → Nat} (hs : zS s) (hA : cSt I (s + 1) p a) {S T : Nat} (hS : S ≤ 16) (hw : zWf p S T a) : cal d 89 [.ref s] (I, L, rR ru dr sr rd rl, 65, x) = some (some (.long (lN (mk a p))), (I, L, rR ru dr sr rd rl, 65, x)) := by
  have hp := hw.1
  have h24 := hw.2.2.2.1
  have h25 := hw.2.2.2.2
  have ih := l89 (d := d) (L := L) (ru := ru) (dr := dr) (sr := sr) (rd := rd) (rl := rl) (x := x) hs hA hS hw p 0 (by omega)
  rw [mk] at ih
  rw [k89 hs, s70 hs hA, bI_i, e89_2 hs, if_neg (by decide), s69 hs hA, bI_i, zrem (by omega) (by decide) (by decide), nI_l (by omega), lN_mul, e89_11 hs, nI_l (by omega), lN_add]
  exact ih
theorem mk_lt {p S T : Nat} {a : Nat → Nat} (hS : S ≤ 16) (hw : zWf p S T a) : ∀ q, q ≤ p → mk a q < 28 * 17000 ^ q
  | 0, _ => by
    have := hw.2.2.2.1
    have := hw.1
    unfold mk
    omega
  | q + 1, h => by
    have ih := mk_lt hS hw q (by omega)
    have := hw.1
    have hb := hw.2.1 q (by omega)
    unfold mk
    rw [Nat.pow_succ]
    omega
theorem mk_63 {p S T : Nat} {a : Nat → Nat} (hS : S ≤ 16) (hw : zWf p S T a) : mk a p < 2 ^ 63 := Nat.lt_of_lt_of_le (mk_lt hS hw p (Nat.le_refl _)) (Nat.le_trans (Nat.mul_le_mul_left 28 (Nat.pow_le_pow_right (by decide) hw.1)) (by decide))
def alk (p : Nat) (a b : Nat → Nat) : Prop := a 25 % 7 = b 25 % 7 ∧ a 24 = b 24 ∧ ∀ q, q < p → a (8 + q) = b (8 + q) ∧ a (20 + q) = b (20 + q) ∧ a (16 + q) = b (16 + q)
theorem mk_alk {p S T T' : Nat} {a b : Nat → Nat} (hS : S ≤ 16) (hw : zWf p S T a) (hv : zWf p S T' b) : ∀ q, q ≤ p → (mk a q = mk b q ↔ alk q a b)
  | 0, _ => by
    have := hw.2.2.2.1
    have := hv.2.2.2.1
    have := hw.1
    unfold mk alk
    constructor
    · intro h
      exact ⟨by omega, by omega, fun q hq => absurd hq (Nat.not_lt_zero _)⟩
    · rintro ⟨h1, h2, -⟩
      omega
  | q + 1, h => by
    have ih := mk_alk hS hw hv q (by omega)
    have := hw.1
    have hb := hw.2.1 q (by omega)
    have hb2 := hv.2.1 q (by omega)
    unfold mk
    constructor
    · intro e
      have e1 : mk a q = mk b q := by omega
      obtain ⟨i1, i2, i3⟩ := ih.mp e1
      refine ⟨i1, i2, fun r hr => ?_⟩
      by_cases z : r = q
      · subst z; exact ⟨by omega, by omega, by omega⟩
      · exact i3 r (by omega)
    · rintro ⟨i1, i2, i3⟩
      have e1 := ih.mpr ⟨i1, i2, fun r hr => i3 r (by omega)⟩
      obtain ⟨j1, j2, j3⟩ := i3 q (by omega)
      rw [e1, j1, j2, j3]
theorem zsub_p {a b : Nat} (ha : a < 2 ^ 30) (hb : b < 2 ^ 30) : 0 < nI a - nI b ↔ b < a := by
  rw [fa_lt, fb_subI (by rw [nI_toInt (by omega), nI_toInt (by omega)]; omega) (by rw [nI_toInt (by omega), nI_toInt (by omega)]; omega), nI_toInt (by omega), nI_toInt (by omega)]
  show (0 : Int) < _ ↔ _
  omega
theorem zsub_z {a b : Nat} (ha : a < 2 ^ 30) (hb : b < 2 ^ 30) : nI a - nI b = 0 ↔ a = b := by
  rw [fa_eq, fb_subI (by rw [nI_toInt (by omega), nI_toInt (by omega)]; omega) (by rw [nI_toInt (by omega), nI_toInt (by omega)]; omega), nI_toInt (by omega), nI_toInt (by omega)]
  show _ = (0 : Int) ↔ _
  omega
def osc (a : Nat → Nat) (q : Nat) : Nat := pc (a (12 + q)) + a (20 + q)
def ahd (a : Nat → Nat) (i j : Nat) : Bool := decide (osc a j < osc a i ∨ osc a i = osc a j ∧ (a (8 + j) < a (8 + i) ∨ a (8 + i) = a (8 + j) ∧ (a (16 + i) < a (16 + j) ∨ a (16 + i) = a (16 + j) ∧ i < j)))
theorem s91 {d : Nat} {s p : Nat} {a : Nat → Nat} (hs : zS s) (hA : cSt I (s + 1) p a) {S T i j : Nat} (hS : S ≤ 16) (hw : zWf p S T a) (hi : i < 4) (hj : j < 4) : cal d 91 [.ref s, .int (nI i), .int (nI j)] (I, L, rR ru dr sr rd rl, 65, x) = some (some (.int (nI (if ahd a i j = true then 1 else 0))), (I, L, rR ru dr sr rd rl, 65, x)) := by
  have hb := hw.2.1 i hi
  have hb2 := hw.2.1 j hj
  have h1 := pc_le (a (12 + i))
  have h2 := pc_le (a (12 + j))
  have oi : osc a i < 100 := by unfold osc; omega
  have oj : osc a j < 100 := by unfold osc; omega
  have e1 := s92 (d := d) (L := L) (ru := ru) (dr := dr) (sr := sr) (rd := rd) (rl := rl) (x := x) hs hA hS hw hi
  have e2 := s92 (d := d) (L := L) (ru := ru) (dr := dr) (sr := sr) (rd := rd) (rl := rl) (x := x) hs hA hS hw hj
  rw [show pc (a (12 + i)) + a (20 + i) = osc a i from rfl] at e1
  rw [show pc (a (12 + j)) + a (20 + j) = osc a j from rfl] at e2
  rw [k91 hs, e1, bI_i, e91_3 hs, e2, bI_i, e91_6 hs]
  unfold ahd
  by_cases z : osc a i = osc a j
  · rw [if_pos ((zsub_z (by omega) (by omega)).mpr z), s72 hs hA (by omega), bI_i, e91_14 hs, s72 hs hA (by omega), bI_i, e91_18 hs, cv_11, cv_11, e91_20 hs]
    by_cases y : a (8 + i) = a (8 + j)
    · rw [if_pos ((zsub_z (by omega) (by omega)).mpr y), s72 hs hA (by omega), bI_i, e91_26 hs, s72 hs hA (by omega), bI_i, e91_30 hs, cv_19, cv_19, e91_32 hs]
      by_cases w : a (16 + i) = a (16 + j)
      · rw [if_neg (by rw [zsub_p (by omega) (by omega)]; omega), if_pos ((zsub_z (by omega) (by omega)).mpr w.symm)]
        by_cases v : i < j
        · rw [if_neg (by rw [nI_leI (by omega) (by omega)]; omega), if_pos zb1, decide_eq_true (by omega), if_pos rfl]
        · rw [if_pos (by rw [nI_leI (by omega) (by omega)]; omega), if_pos zb0, decide_eq_false (by omega), if_neg (by decide)]
      · by_cases v : a (16 + i) < a (16 + j)
        · rw [if_pos (by rw [zsub_p (by omega) (by omega)]; omega), if_pos zb1, decide_eq_true (by omega), if_pos rfl]
        · rw [if_neg (by rw [zsub_p (by omega) (by omega)]; omega), if_neg (by rw [zsub_z (by omega) (by omega)]; omega), if_pos zb0, decide_eq_false (by omega), if_neg (by decide)]
    · rw [if_neg (by rw [zsub_z (by omega) (by omega)]; omega), e91_32 hs]
      by_cases v : a (8 + j) < a (8 + i)
      · rw [if_pos (by rw [zsub_p (by omega) (by omega)]; omega), if_pos zb1, decide_eq_true (by omega), if_pos rfl]
      · rw [if_neg (by rw [zsub_p (by omega) (by omega)]; omega), if_neg (by rw [zsub_z (by omega) (by omega)]; omega), if_pos zb0, decide_eq_false (by omega), if_neg (by decide)]
  · rw [if_neg (by rw [zsub_z (by omega) (by omega)]; omega), e91_20 hs, if_neg (by rw [zsub_z (by omega) (by omega)]; omega), e91_32 hs]
    by_cases v : osc a j < osc a i
    · rw [if_pos (by rw [zsub_p (by omega) (by omega)]; omega), if_pos zb1, decide_eq_true (by omega), if_pos rfl]
    · rw [if_neg (by rw [zsub_p (by omega) (by omega)]; omega), if_neg (by rw [zsub_z (by omega) (by omega)]; omega), if_pos zb0, decide_eq_false (by omega), if_neg (by decide)]
theorem l90 {d : Nat} {s p : Nat} {a : Nat → Nat} (hs : zS s) (hA : cSt I (s + 1) p a) {S T j : Nat} (hS : S ≤ 16) (hw : zWf p S T a) (hj : j < 4) : ∀ n o, o + n = p → res d 90 4 [.ref s, .int (nI j), .int (nI (fb_ct (fun o => ahd a o j) o)), .int (nI o)] [] (I, L, rR ru dr sr rd rl, 65, x) = some (some (.int (nI (fb_ct (fun o => ahd a o j) p))), (I, L, rR ru dr sr rd rl, 65, x))
  | 0, o, h => by
    have hp := hw.1
    rw [l90_4 hs, s68 hs hA, bI_i, e90_7 hs, if_pos (by rw [nI_leI (by omega) (by omega)]; omega), show o = p by omega]
  | n + 1, o, h => by
    have hp := hw.1
    have ih := l90 (d := d) hs hA hS hw hj n (o + 1) (by omega)
    rw [fb_ct_succ] at ih
    rw [l90_4 hs, s68 hs hA, bI_i, e90_7 hs, if_neg (by rw [nI_leI (by omega) (by omega)]; omega), s91 hs hA hS hw (by omega) hj, bI_i, e90_13 hs]
    cases z : ahd a o j with
    | true =>
      rw [z, if_pos rfl] at ih
      rw [if_pos rfl, if_neg (by decide), nI_add, nI_add]
      exact ih
    | false =>
      rw [z, if_neg (by decide)] at ih
      rw [if_neg Bool.false_ne_true, if_pos (show nI 0 = 0 from rfl), nI_add, nI_add]
      exact ih
theorem s90 {d : Nat} {s p : Nat} {a : Nat → Nat} (hs : zS s) (hA : cSt I (s + 1) p a) {S T j : Nat} (hS : S ≤ 16) (hw : zWf p S T a) (hj : j < 4) : cal d 90 [.ref s, .int (nI j)] (I, L, rR ru dr sr rd rl, 65, x) = some (some (.int (nI (fb_ct (fun o => ahd a o j) p))), (I, L, rR ru dr sr rd rl, 65, x)) := by
  rw [k90 hs]
  exact l90 hs hA hS hw hj p 0 (by omega)
/-! copies -/
theorem cSt.many {I : Nat → Nat → Int32} {c p p' : Nat} {a : Nat → Nat} (h : cSt I c p a) : cSt (zup I c 0 (nI p')) c p' a := by
  intro j hj
  rw [zup_v]
  by_cases z : j = 0
  · rw [if_pos z, z]; rfl
  · rw [if_neg z, h j hj, cv_cx (by omega), cv_cx (by omega)]
theorem zcp_n {a0 sp a dp n : Nat} (h1 : shp a0 = 1) (h2 : shp a = 1) (h3 : sp + n ≤ sln a0) (h4 : dp + n ≤ sln a) (h5 : sp + n < 2 ^ 31) (h6 : dp + n < 2 ^ 31) : zcp a0 (nI sp) a (nI dp) (nI n) = true := by
  unfold zcp
  rw [h1, h2, decide_eq_false (nI_pos (by omega)), decide_eq_false (nI_pos (by omega)), decide_eq_false (nI_pos (by omega)), nI_clamp (by omega), nI_clamp (by omega), nI_clamp (by omega), decide_eq_true h3, decide_eq_true h4]
  rfl
theorem zS.sh {s : Nat} (hs : zS s) : shp (s + 1) = 1 ∧ sln (s + 1) = 27 := by rcases hs with rfl | rfl | rfl <;> exact ⟨rfl, rfl⟩
theorem s65 {d s0 p : Nat} {a : Nat → Nat} {s : Nat} (hs0 : zS s0) (hs : zS s) (hA : cSt I (s + 1) p a) : ∃ I', cal d 65 [.ref s0, .ref s] (I, L, rR ru dr sr rd rl, 65, x) = some (none, (I', L, rR ru dr sr rd rl, 65, x)) ∧ cSt I' (s0 + 1) p a ∧ fW [s0 + 1] I I' := by
  refine ⟨zrow I (s0 + 1) (va_cpy (I (s + 1)) (I (s0 + 1)) 0 0 27), ?_, fun k hk => ?_, fW.row (List.mem_singleton.mpr rfl) hs0.n.1 hs0.n.2.1⟩
  · rw [k65 hs0 hs, if_pos (zcp_n hs.sh.1 hs0.sh.1 (by rw [hs.sh.2]; omega) (by rw [hs0.sh.2]; omega) (by omega) (by omega)), nI_clamp (by omega), nI_clamp (by omega)]
  · rw [zrow_self]
    unfold va_cpy
    rw [if_pos (by omega), ← hA k hk]
    congr 1
    omega
theorem s66 {d c j : Nat} {s p : Nat} {a : Nat → Nat} (hs : zS s) (hA : cSt I (s + 1) p a) (hc : c = 21 ∧ j < 12 ∨ c = 22 ∧ j < 2) : ∃ I', cal d 66 [.ref s, .ref c, .int (nI (27 * j))] (I, L, rR ru dr sr rd rl, 65, x) = some (none, (I', L, rR ru dr sr rd rl, 65, x)) ∧ (∀ k, k < 27 → I' c (27 * j + k) = nI (cv p a k)) ∧ (∀ k, (k < 27 * j ∨ 27 * j + 27 ≤ k) → I' c k = I c k) ∧ ∀ b, b ≠ c → I' b = I b := by
  have hsh : shp c = 1 ∧ 27 * j + 27 ≤ sln c ∧ sln c < 1000 := by
    rcases hc with ⟨rfl, h⟩ | ⟨rfl, h⟩
    · exact ⟨rfl, by show _ ≤ 324; omega, by decide⟩
    · exact ⟨rfl, by show _ ≤ 54; omega, by decide⟩
  refine ⟨zrow I c (va_cpy (I (s + 1)) (I c) 0 (27 * j) 27), ?_, fun k hk => ?_, fun k hk => ?_, fun b hb => zrow_ne _ _ hb⟩
  · rw [k66 hs, if_neg (nI_pos (by omega)), hsh.1, if_pos (by decide), zsub (by omega), if_neg (by rw [nI_ltI (by omega) (by omega)]; omega), if_pos (zcp_n hs.sh.1 hsh.1 (by rw [hs.sh.2]; omega) hsh.2.1 (by omega) (by omega)), nI_clamp (by omega), nI_clamp (by omega), nI_clamp (by omega)]
  · rw [zrow_self]
    unfold va_cpy
    rw [if_pos (by omega), ← hA k hk]
    congr 1
    omega
  · rw [zrow_self]
    unfold va_cpy
    rw [if_neg (by omega)]
theorem s67 {d c j s : Nat} (hs : zS s) (hc : c = 21 ∧ j < 12 ∨ c = 22 ∧ j < 2) : ∃ I', cal d 67 [.ref s, .ref c, .int (nI (27 * j))] (I, L, rR ru dr sr rd rl, 65, x) = some (none, (I', L, rR ru dr sr rd rl, 65, x)) ∧ (∀ k, k < 27 → I' (s + 1) k = I c (27 * j + k)) ∧ fW [s + 1] I I' := by
  have hsh : shp c = 1 ∧ 27 * j + 27 ≤ sln c ∧ sln c < 1000 := by
    rcases hc with ⟨rfl, h⟩ | ⟨rfl, h⟩
    · exact ⟨rfl, by show _ ≤ 324; omega, by decide⟩
    · exact ⟨rfl, by show _ ≤ 54; omega, by decide⟩
  refine ⟨zrow I (s + 1) (va_cpy (I c) (I (s + 1)) (27 * j) 0 27), ?_, fun k hk => ?_, fW.row (List.mem_singleton.mpr rfl) hs.n.1 hs.n.2.1⟩
  · rw [k67 hs, if_neg (nI_pos (by omega)), hsh.1, if_pos (by decide), zsub (by omega), if_neg (by rw [nI_ltI (by omega) (by omega)]; omega), if_pos (zcp_n hsh.1 hs.sh.1 hsh.2.1 (by rw [hs.sh.2]; omega) (by omega) (by omega)), nI_clamp (by omega), nI_clamp (by omega), nI_clamp (by omega)]
  · rw [zrow_self]
    unfold va_cpy
    rw [if_pos (by omega)]
    congr 1
theorem l64 {d s : Nat} (hs : zS s) : ∀ n k (I : Nat → Nat → Int32), k + n = 27 → (∀ j, j < k → I (s + 1) j = nI 0) → ∃ I', res d 64 2 [.ref s, .int (nI k)] [] (I, L, rR ru dr sr rd rl, 65, x) = some (none, (I', L, rR ru dr sr rd rl, 65, x)) ∧ (∀ j, j < 27 → I' (s + 1) j = nI 0) ∧ fW [s + 1] I I'
  | 0, k, I, h, hz => ⟨I, by rw [l64_2 hs, if_pos (by rw [nI_leI (by omega) (by omega)]; omega)], fun j hj => hz j (by omega), fW.rf⟩
  | n + 1, k, I, h, hz => by
    obtain ⟨I', e, h1, h2⟩ := l64 (d := d) hs n (k + 1) (zup I (s + 1) k (nI 0)) (by omega) (fun j hj => by
      rw [zup_v]
      split
      · rfl
      · exact hz j (by omega))
    refine ⟨I', ?_, h1, (fW.up (List.mem_singleton.mpr rfl) hs.n.1 hs.n.2.1).tr h2⟩
    rw [l64_2 hs, if_neg (by rw [nI_leI (by omega) (by omega)]; omega), if_pos (ak_s hs (by omega)), nI_add, nI_clamp (by omega)]
    exact e
theorem s64 {d s : Nat} (hs : zS s) : ∃ I', cal d 64 [.ref s] (I, L, rR ru dr sr rd rl, 65, x) = some (none, (I', L, rR ru dr sr rd rl, 65, x)) ∧ cSt I' (s + 1) 0 (fun _ => 0) ∧ fW [s + 1] I I' := by
  obtain ⟨I', e, h1, h2⟩ := l64 (d := d) (L := L) (ru := ru) (dr := dr) (sr := sr) (rd := rd) (rl := rl) (x := x) hs 27 0 I (by omega) (fun j hj => absurd hj (Nat.not_lt_zero _))
  refine ⟨I', by rw [k64 hs]; exact e, fun k hk => ?_, h2⟩
  rw [h1 k hk]
  unfold cv
  repeat' split
  all_goals rfl
theorem s75 {d r m : Nat} {s p : Nat} {a : Nat → Nat} (hs : zS s) (hA : cSt I (s + 1) p a) (hp : p < 4) : ∃ I', cal d 75 [.ref s, .int (nI r), .int (nI m)] (I, L, rR ru dr sr rd rl, 65, x) = some (none, (I', L, rR ru dr sr rd rl, 65, x)) ∧ cSt I' (s + 1) (p + 1) (zset (zset a (4 + p) r) p m) ∧ fW [s + 1] I I' := by
  have hA2 := hA.put (k := 3 + p) (v := r) (by omega) (by omega)
  rw [cx_3 hp] at hA2
  have hA3 := hA2.put (k := 7 + p) (v := m) (by omega) (by omega)
  rw [cx_7 hp] at hA3
  have hA4 := hA3.many (p' := p + 1)
  refine ⟨_, ?_, hA4, ((fW.up (List.mem_singleton.mpr rfl) hs.n.1 hs.n.2.1).tr (fW.up (List.mem_singleton.mpr rfl) hs.n.1 hs.n.2.1)).tr (fW.up (List.mem_singleton.mpr rfl) hs.n.1 hs.n.2.1)⟩
  rw [k75 hs, s68 hs hA, bI_i, e75_2 hs, if_neg (by rw [nI_leI (by omega) (by omega)]; omega), s73 hs (by omega), bV_n, e75_11 hs, s73 hs (by omega), bV_n, e75_16 hs, if_pos (ak_s hs (by omega)), nI_add]
  rfl

end
