section
variable {I : Nat → Nat → Int32} {L : Nat → Nat → Int64} {ru dr : Nat} {sr : Nat → Option Nat} {rd : Option Nat} {rl x : Nat}
variable {d R S p n T : Nat} {f g : Nat → Nat} {a : zP} {t : Nat → Nat} {l : List Int64} {u : List zP} {kp : Nat → Option zP} {cl : List (Nat × Nat)} {si : List (Nat × Int32)} {cs : zC}

def inr (m : Nat) (v : Int32) : Option Nat := if 0 ≤ v ∧ v < nI m then some v.toNatClampNeg else none
theorem inr_s {m k : Nat} {v : Int32} (hm : m < 2 ^ 31) (h : inr m v = some k) : k < m ∧ v = nI k := by
  unfold inr at h
  split at h
  · rename_i z
    cases h
    have y : ¬ v < 0 := fun q => (fa_of_lt q).2.1 z.1
    obtain ⟨j, hj, rfl⟩ := nI_of y
    rw [nI_clamp hj]
    exact ⟨(nI_ltI hj hm).mp z.2, rfl⟩
  · cases h
theorem inr_n {m : Nat} {v : Int32} (hm : m < 2 ^ 31) (h : inr m v = none) : ∀ k, k < m → v ≠ nI k := by
  intro k hk e
  unfold inr at h
  rw [e, if_pos ⟨nI_pos' (by omega), (nI_ltI (by omega) hm).mpr hk⟩] at h
  cases h
theorem inr_k {m k : Nat} (hm : m < 2 ^ 31) (hk : k < m) : inr m (nI k) = some k := by
  unfold inr
  rw [if_pos ⟨nI_pos' (by omega), (nI_ltI (by omega) hm).mpr hk⟩, nI_clamp (by omega)]
def inl (b c : Nat) (v : Int32) : Option Nat := if nI b ≤ v ∧ v ≤ nI c then some v.toNatClampNeg else none
theorem inl_s {b c k : Nat} {v : Int32} (hb : b < 2 ^ 31) (hc : c < 2 ^ 31) (h : inl b c v = some k) : b ≤ k ∧ k ≤ c ∧ v = nI k := by
  unfold inl at h
  split at h
  · rename_i z
    cases h
    have y : ¬ v < 0 := fun q => (fa_of_lt (fa_trans q (nI_pos' hb))).2.1 z.1
    obtain ⟨j, hj, rfl⟩ := nI_of y
    rw [nI_clamp hj]
    exact ⟨(nI_leI hb hj).mp z.1, (nI_leI hj hc).mp z.2, rfl⟩
  · cases h
theorem inl_n {b c : Nat} {v : Int32} (h : inl b c v = none) : v < nI b ∨ nI c < v := by
  unfold inl at h
  split at h
  · cases h
  · rename_i z
    by_cases y : v < nI b
    · exact Or.inl y
    · by_cases x : nI c < v
      · exact Or.inr x
      · exact absurd ⟨fa_of_nlt y, fa_of_nlt x⟩ z
theorem own_no {a : zP} {s : Nat} : ∀ n q, q + n ≤ 4 → own a s n q = 4 → ∀ r, q ≤ r → r < q + n → (a (12 + r)).testBit s = false
  | 0, q, _, _, r, h1, h2 => by omega
  | n + 1, q, hn, h, r, h1, h2 => by
    unfold own at h
    by_cases z : (a (12 + q)).testBit s = true
    · rw [if_pos z] at h; omega
    · rw [if_neg z] at h
      by_cases y : r = q
      · subst y; exact Bool.eq_false_iff.mpr z
      · exact own_no n (q + 1) (by omega) h r (by omega) (by omega)
theorem own_at {a : zP} {s r : Nat} (hr : (a (12 + r)).testBit s = true) : ∀ n q, q ≤ r → r < q + n → (∀ o, q ≤ o → o < r → (a (12 + o)).testBit s = false) → own a s n q = r
  | 0, q, h1, h2, _ => by omega
  | n + 1, q, h1, h2, h3 => by
    unfold own
    by_cases y : q = r
    · subst y; rw [if_pos hr]
    · rw [if_neg (by rw [h3 q (Nat.le_refl _) (by omega)]; decide)]
      exact own_at hr n (q + 1) (by omega) (by omega) (fun o h4 h5 => h3 o (by omega) h5)
theorem own_le (a : zP) (s : Nat) : ∀ n q, q + n ≤ 4 → own a s n q ≤ 4
  | 0, _, _ => Nat.le_refl 4
  | n + 1, q, h => by
    unfold own
    split
    · omega
    · exact own_le a s n (q + 1) (by omega)
theorem own_bit {a : zP} {s : Nat} : ∀ n q, q + n ≤ 4 → own a s n q < 4 → (a (12 + own a s n q)).testBit s = true ∧ own a s n q < q + n
  | 0, q, _, h => absurd h (Nat.lt_irrefl 4)
  | n + 1, q, h, h2 => by
    unfold own at h2 ⊢
    by_cases z : (a (12 + q)).testBit s = true
    · rw [if_pos z]; exact ⟨z, by omega⟩
    · rw [if_neg z] at h2 ⊢
      have := own_bit n (q + 1) (by omega) h2
      exact ⟨this.1, by omega⟩
theorem and0 {x y : Nat} (h : x &&& y = 0) {i : Nat} (hi : x.testBit i = true) : y.testBit i = false := by
  have := congrArg (fun z => z.testBit i) h
  simp only [Nat.testBit_and, Nat.zero_testBit, hi, Bool.true_and] at this
  exact this
theorem and0_of {x y : Nat} (h : ∀ i, x.testBit i = true → y.testBit i = false) : x &&& y = 0 := by
  refine tb_ext fun i => ?_
  rw [Nat.testBit_and, Nat.zero_testBit]
  cases z : x.testBit i with
  | true => rw [h i z]; rfl
  | false => rfl
theorem own_q {S T s q : Nat} (hw : zWf p S T a) (hq : q < p) : own a s p 0 = q ↔ (a (12 + q)).testBit s = true := by
  have hp := hw.1
  constructor
  · intro h
    have := own_bit (a := a) (s := s) p 0 (by omega) (by omega)
    rw [h] at this
    exact this.1
  · intro h
    refine own_at h p 0 (by omega) (by omega) fun o _ h2 => ?_
    exact and0 (hw.2.2.2.2.2.2 q o (by omega) (by omega) (by omega)) h
theorem zWf.house {S T q v : Nat} (hw : zWf p S T a) (hq : q < p) (hv : v < 2 ^ S) (hd : ∀ r, r < 4 → r ≠ q → v &&& a (12 + r) = 0) : zWf p S T (zset a (12 + q) v) := by
  have hp := hw.1
  have e0 : ∀ k, k ≠ 12 + q → zset a (12 + q) v k = a k := fun k hk => zset_ne _ _ hk
  refine ⟨hw.1, fun r hr => ?_, fun r hr hr2 => ?_, ?_, ?_, hw.2.2.2.2.2.1, fun r1 r2 h1 h2 h3 => ?_⟩
  · have h := hw.2.1 r hr
    by_cases z : r = q
    · subst z
      rw [e0 r (by omega), e0 (4 + r) (by omega), e0 (8 + r) (by omega), zset_self, e0 (16 + r) (by omega), e0 (20 + r) (by omega)]
      exact ⟨h.1, h.2.1, h.2.2.1, hv, h.2.2.2.2.1, h.2.2.2.2.2⟩
    · rw [e0 r (by omega), e0 (4 + r) (by omega), e0 (8 + r) (by omega), e0 (12 + r) (by omega), e0 (16 + r) (by omega), e0 (20 + r) (by omega)]
      exact h
  · rw [e0 r (by omega), e0 (4 + r) (by omega), e0 (8 + r) (by omega), e0 (12 + r) (by omega), e0 (16 + r) (by omega), e0 (20 + r) (by omega)]
    exact hw.2.2.1 r hr hr2
  · rw [e0 24 (by omega)]; exact hw.2.2.2.1
  · rw [e0 25 (by omega)]; exact hw.2.2.2.2.1
  · by_cases z1 : r1 = q
    · subst z1
      rw [zset_self, e0 (12 + r2) (by omega)]
      exact hd r2 h2 (fun e => h3 e.symm)
    · by_cases z2 : r2 = q
      · subst z2
        rw [zset_self, e0 (12 + r1) (by omega), Nat.and_comm]
        exact hd r1 h1 z1
      · rw [e0 (12 + r1) (by omega), e0 (12 + r2) (by omega)]
        exact hw.2.2.2.2.2.2 r1 r2 h1 h2 h3
abbrev aR : Type := Int32 × Option zP
def aok' (p S T : Nat) (r : aR) : Prop := (r.2 = none → r.1 < 0) ∧ ∀ b, r.2 = some b → ¬ r.1 < 0 ∧ zWf p S T b
def paA (p : Nat) (a : zP) : aR := if p = 0 then (-(nI 1), none) else (nI (nxt p a), some (zset a 24 (nxt p a)))
theorem paA_ok (hc : zCt R S f g) (hw : zWf p S T a) : aok' p S T (paA p a) := by
  have hp := hw.1
  unfold paA
  by_cases z : p = 0
  · rw [if_pos z]; exact ⟨fun _ => by decide, fun b e => by cases e⟩
  · rw [if_neg z]
    have hn : nxt p a < p := nxt_lt (by omega)
    exact ⟨fun e => (by cases e), fun b e => by cases e; exact ⟨nI_pos (by omega), hw.turn hn⟩⟩
def tkA (S p : Nat) (a : zP) (v w : Int32) : aR := match inr p v, inr S w with
  | some q, some s => if a (20 + q) = 0 then (-(nI 2), none) else if own a s p 0 = 4 then (nI (pc (a (12 + q) ||| 2 ^ s)), some (zset (zset a (20 + q) (a (20 + q) - 1)) (12 + q) (a (12 + q) ||| 2 ^ s))) else (-(nI 3), none)
  | _, _ => (-(nI 1), none)
theorem tkA_ok {v w : Int32} (hc : zCt R S f g) (hw : zWf p S T a) : aok' p S T (tkA S p a v w) := by
  have hp := hw.1
  have hS := hc.S16
  unfold tkA
  cases z : inr p v with
  | none => exact ⟨fun _ => (show -(nI 1) < 0 by decide), fun b e => by cases e⟩
  | some q =>
    cases y : inr S w with
    | none => exact ⟨fun _ => (show -(nI 1) < 0 by decide), fun b e => by cases e⟩
    | some s =>
      obtain ⟨hq, -⟩ := inr_s (by omega) z
      obtain ⟨hs, -⟩ := inr_s (by omega) y
      dsimp only
      by_cases x : a (20 + q) = 0
      · rw [if_pos x]; exact ⟨fun _ => by decide, fun b e => by cases e⟩
      · rw [if_neg x]
        by_cases u : own a s p 0 = 4
        · rw [if_pos u]
          refine ⟨fun e => (by cases e), fun b e => ?_⟩
          cases e
          have h1 := pc_le (a (12 + q) ||| 2 ^ s)
          have h2 := hw.2.1 q (by omega)
          have hno := own_no (a := a) (s := s) p 0 (by omega) u
          have w1 := hw.right (q := q) (v := a (20 + q) - 1) hq (by omega)
          refine ⟨nI_pos (by omega), w1.house hq (zor_lt h2.2.2.2.1 (Nat.pow_lt_pow_right (by decide) hs)) fun r hr hrq => ?_⟩
          rw [zset_ne _ _ (by omega)]
          have hr0 : (a (12 + r)).testBit s = false := by
            by_cases t : r < p
            · exact hno r (by omega) (by omega)
            · rw [(hw.2.2.1 r hr (by omega)).2.2.2.1, Nat.zero_testBit]
          refine and0_of fun i hi => ?_
          rw [Nat.testBit_or, Nat.testBit_two_pow] at hi
          by_cases m : s = i
          · subst m; exact hr0
          · rw [decide_eq_false m, Bool.or_false] at hi
            exact and0 (hw.2.2.2.2.2.2 q r (by omega) hr (Ne.symm hrq)) hi
        · rw [if_neg u]; exact ⟨fun _ => by decide, fun b e => by cases e⟩
def lvA (S p : Nat) (a : zP) (v w : Int32) : aR := match inr p v, inr S w with
  | some q, some s => if (a (12 + q)).testBit s = true then (nI (pc (zdif (a (12 + q)) (2 ^ s))), some (zset a (12 + q) (zdif (a (12 + q)) (2 ^ s)))) else (-(nI 2), none)
  | _, _ => (-(nI 1), none)
theorem lvA_ok {v w : Int32} (hc : zCt R S f g) (hw : zWf p S T a) : aok' p S T (lvA S p a v w) := by
  have hp := hw.1
  have hS := hc.S16
  unfold lvA
  cases z : inr p v with
  | none => exact ⟨fun _ => (show -(nI 1) < 0 by decide), fun b e => by cases e⟩
  | some q =>
    cases y : inr S w with
    | none => exact ⟨fun _ => (show -(nI 1) < 0 by decide), fun b e => by cases e⟩
    | some s =>
      obtain ⟨hq, -⟩ := inr_s (by omega) z
      dsimp only
      by_cases x : (a (12 + q)).testBit s = true
      · rw [if_pos x]
        refine ⟨fun e => (by cases e), fun b e => ?_⟩
        cases e
        have h1 := pc_le (zdif (a (12 + q)) (2 ^ s))
        have h2 := hw.2.1 q (by omega)
        refine ⟨nI_pos (by omega), hw.house hq (Nat.lt_of_le_of_lt (zdif_le _ _) h2.2.2.2.1) fun r hr hrq => and0_of fun i hi => ?_⟩
        rw [zdif_tb] at hi
        exact and0 (hw.2.2.2.2.2.2 q r (by omega) hr (Ne.symm hrq)) (Bool.and_eq_true_iff.mp hi).1
      · rw [if_neg x]; exact ⟨fun _ => by decide, fun b e => by cases e⟩
def grA (p : Nat) (a : zP) (v w : Int32) : aR := match inr p v, inl 1 4 w with
  | some q, some k => if a (4 + q) = k then (-(nI 2), none) else (nI (10 + a (4 + q)), some (zset a (4 + q) k))
  | _, _ => (-(nI 1), none)
theorem grA_ok {v w : Int32} (hc : zCt R S f g) (hw : zWf p S T a) : aok' p S T (grA p a v w) := by
  have hp := hw.1
  unfold grA
  cases z : inr p v with
  | none => exact ⟨fun _ => (show -(nI 1) < 0 by decide), fun b e => by cases e⟩
  | some q =>
    cases y : inl 1 4 w with
    | none => exact ⟨fun _ => (show -(nI 1) < 0 by decide), fun b e => by cases e⟩
    | some k =>
      obtain ⟨hq, -⟩ := inr_s (by omega) z
      obtain ⟨-, hk, -⟩ := inl_s (by decide) (by decide) y
      dsimp only
      by_cases x : a (4 + q) = k
      · rw [if_pos x]; exact ⟨fun _ => by decide, fun b e => by cases e⟩
      · rw [if_neg x]
        have h2 := hw.2.1 q (by omega)
        exact ⟨fun e => (by cases e), fun b e => by cases e; exact ⟨nI_pos (by omega), hw.reach hq hk⟩⟩
/-! the class's acts -/
theorem s163 (hc : zCt R S f g) (hI : cCt I R S f g) (hA : cSt I 15 p a) (hw : zWf p S T a) : ∃ I', cal d 163 [.ref 1] (I, L, rR ru dr sr rd rl, 65, x) = some (some (.int (paA p a).1), (I', L, rR ru dr sr rd rl, 65, x)) ∧ cSt I' 15 p ((paA p a).2.getD a) ∧ fW [15] I I' := by
  have hp := hw.1
  have h24 := hw.2.2.2.1
  unfold paA
  rw [k163, s68 (s := 14) (Or.inl rfl) hA, bI_i, e163_3]
  by_cases z : p = 0
  · rw [if_pos z, if_pos ((nI_z (by omega)).mpr z)]
    exact ⟨I, rfl, hA, fW.rf⟩
  · rw [if_neg z, if_neg (by rw [nI_z (by omega)]; exact z), s88 (s := 14) (Or.inl rfl) hA hp (by omega), bV_n, e163_9]
    have h2 := hA.put (k := 1) (v := nxt p a) (by omega) (by omega)
    refine ⟨_, ?_, h2, fW.up (by decide) (by decide) (by decide)⟩
    have := s69 (s := 14) (d := d) (L := L) (ru := ru) (dr := dr) (sr := sr) (rd := rd) (rl := rl) (x := x) (Or.inl rfl) h2
    rw [show zset a (cx 1) (nxt p a) 24 = nxt p a from zset_self _ _ _] at this
    rw [this, bI_i, e163_12]
theorem s164 {v w : Int32} (hc : zCt R S f g) (hI : cCt I R S f g) (hA : cSt I 15 p a) (hw : zWf p S T a) : ∃ I', cal d 164 [.ref 1, .int v, .int w] (I, L, rR ru dr sr rd rl, 65, x) = some (some (.int (tkA S p a v w).1), (I', L, rR ru dr sr rd rl, 65, x)) ∧ cSt I' 15 p ((tkA S p a v w).2.getD a) ∧ fW [15] I I' := by
  have hp := hw.1
  have hS := hc.S16
  unfold tkA
  cases z : inr p v with
  | none =>
    refine ⟨I, ?_, hA, fW.rf⟩
    rw [k164, s71f (s := 14) (Or.inl rfl) hA hp (inr_n (by omega) z), bI_i, e164_4, if_pos (show nI 0 = 0 from rfl)]
  | some q =>
    obtain ⟨hq, rfl⟩ := inr_s (by omega) z
    cases y : inr S w with
    | none =>
      refine ⟨I, ?_, hA, fW.rf⟩
      rw [k164, s71t (s := 14) (Or.inl rfl) hA hp hq, bI_i, e164_4, if_neg (by decide), s16f hc hI (inr_n (by omega) y), bI_i, e164_9, if_pos (show nI 0 = 0 from rfl)]
    | some s =>
      obtain ⟨hs, rfl⟩ := inr_s (by omega) y
      have h2 := hw.2.1 q (by omega)
      rw [k164, s71t (s := 14) (Or.inl rfl) hA hp hq, bI_i, e164_4, if_neg (by decide), s16t hc hI hs, bI_i, e164_9, if_neg (by decide), s72 (s := 14) (Or.inl rfl) hA (by omega), bI_i, e164_17, cv_23]
      dsimp only
      by_cases x' : a (20 + q) = 0
      · rw [if_pos x', if_pos ((nI_z (by omega)).mpr x')]
        exact ⟨I, rfl, hA, fW.rf⟩
      · rw [if_neg x', if_neg (by rw [nI_z (by omega)]; exact x'), s78 (s := 14) hc hI (Or.inl rfl) hA hw hs, bI_i, e164_26]
        have ho := own_le a s p 0 (by omega)
        by_cases u' : own a s p 0 = 4
        · have hA1 := hA.put (k := 23 + q) (v := a (20 + q) - 1) (by omega) (by omega)
          rw [cx_23] at hA1
          have hA2 := hA1.put (k := 15 + q) (v := a (12 + q) ||| 2 ^ s) (by omega) (by omega)
          rw [cx_15] at hA2
          have hh : a (12 + q) ||| 2 ^ s < 65536 := p16 hS (zor_lt h2.2.2.2.1 (Nat.pow_lt_pow_right (by decide) hs))
          rw [if_pos u', if_pos (by rw [u']), s72 (s := 14) (Or.inl rfl) hA (by omega), bI_i, e164_35, s18t hc hI hs, bI_i, e164_39, cv_15, zsub (by omega), s73 (s := 14) (Or.inl rfl) (by omega), bV_n, e164_49, fa_or, s73 (s := 14) (Or.inl rfl) (by omega), bV_n, e164_55, s296 hh, bI_i, e164_57]
          exact ⟨_, rfl, hA2, (fW.up (by decide) (by decide) (by decide)).tr (fW.up (by decide) (by decide) (by decide))⟩
        · rw [if_neg u', if_neg (by rw [nI_eq (by omega) (by omega)]; exact u')]
          exact ⟨I, rfl, hA, fW.rf⟩
theorem s165 {v w : Int32} (hc : zCt R S f g) (hI : cCt I R S f g) (hA : cSt I 15 p a) (hw : zWf p S T a) : ∃ I', cal d 165 [.ref 1, .int v, .int w] (I, L, rR ru dr sr rd rl, 65, x) = some (some (.int (lvA S p a v w).1), (I', L, rR ru dr sr rd rl, 65, x)) ∧ cSt I' 15 p ((lvA S p a v w).2.getD a) ∧ fW [15] I I' := by
  have hp := hw.1
  have hS := hc.S16
  unfold lvA
  cases z : inr p v with
  | none =>
    refine ⟨I, ?_, hA, fW.rf⟩
    rw [k165, s71f (s := 14) (Or.inl rfl) hA hp (inr_n (by omega) z), bI_i, e165_4, if_pos (show nI 0 = 0 from rfl)]
  | some q =>
    obtain ⟨hq, rfl⟩ := inr_s (by omega) z
    cases y : inr S w with
    | none =>
      refine ⟨I, ?_, hA, fW.rf⟩
      rw [k165, s71t (s := 14) (Or.inl rfl) hA hp hq, bI_i, e165_4, if_neg (by decide), s16f hc hI (inr_n (by omega) y), bI_i, e165_9, if_pos (show nI 0 = 0 from rfl)]
    | some s =>
      obtain ⟨hs, rfl⟩ := inr_s (by omega) y
      have h2 := hw.2.1 q (by omega)
      have ho := own_le a s p 0 (by omega)
      have hoq := own_q (s := s) hw hq
      rw [k165, s71t (s := 14) (Or.inl rfl) hA hp hq, bI_i, e165_4, if_neg (by decide), s16t hc hI hs, bI_i, e165_9, if_neg (by decide), s78 (s := 14) hc hI (Or.inl rfl) hA hw hs, bI_i, e165_16]
      dsimp only
      by_cases x' : (a (12 + q)).testBit s = true
      · have hA2 := hA.put (k := 15 + q) (v := zdif (a (12 + q)) (2 ^ s)) (by omega) (by omega)
        rw [cx_15] at hA2
        have hh : zdif (a (12 + q)) (2 ^ s) < 65536 := p16 hS (Nat.lt_of_le_of_lt (zdif_le _ _) h2.2.2.2.1)
        rw [if_pos x', if_pos (by rw [hoq.mpr x']), s72 (s := 14) (Or.inl rfl) hA (by omega), bI_i, e165_25, s18t hc hI hs, bI_i, e165_29, cv_15, znot, s73 (s := 14) (Or.inl rfl) (by omega), bV_n, e165_39, s296 hh, bI_i, e165_41]
        exact ⟨_, rfl, hA2, fW.up (by decide) (by decide) (by decide)⟩
      · rw [if_neg x', if_neg (by rw [nI_eq (by omega) (by omega)]; exact fun e => x' (hoq.mp e))]
        exact ⟨I, rfl, hA, fW.rf⟩
theorem s166 {v w : Int32} (hc : zCt R S f g) (hI : cCt I R S f g) (hA : cSt I 15 p a) (hw : zWf p S T a) : ∃ I', cal d 166 [.ref 1, .int v, .int w] (I, L, rR ru dr sr rd rl, 65, x) = some (some (.int (grA p a v w).1), (I', L, rR ru dr sr rd rl, 65, x)) ∧ cSt I' 15 p ((grA p a v w).2.getD a) ∧ fW [15] I I' := by
  have hp := hw.1
  unfold grA
  cases z : inr p v with
  | none =>
    refine ⟨I, ?_, hA, fW.rf⟩
    rw [k166, s71f (s := 14) (Or.inl rfl) hA hp (inr_n (by omega) z), bI_i, e166_4, if_pos (show nI 0 = 0 from rfl)]
  | some q =>
    obtain ⟨hq, rfl⟩ := inr_s (by omega) z
    cases y : inl 1 4 w with
    | none =>
      refine ⟨I, ?_, hA, fW.rf⟩
      rw [k166, s71t (s := 14) (Or.inl rfl) hA hp hq, bI_i, e166_4, if_neg (by decide)]
      by_cases y1 : w < nI 1
      · rw [if_pos y1]
      · rw [if_neg y1, if_neg (fun e => (inl_n y).elim y1 (fun y2 => (fa_of_lt y2).2.1 e))]
    | some k =>
      obtain ⟨hk1, hk2, rfl⟩ := inl_s (by decide) (by decide) y
      have h2 := hw.2.1 q (by omega)
      rw [k166, s71t (s := 14) (Or.inl rfl) hA hp hq, bI_i, e166_4, if_neg (by decide), if_neg (by rw [nI_ltI (by omega) (by omega)]; omega), if_pos (by rw [nI_leI (by omega) (by omega)]; omega), s72 (s := 14) (Or.inl rfl) hA (by omega), bI_i, e166_18, cv_3 (by omega)]
      dsimp only
      by_cases x' : a (4 + q) = k
      · rw [if_pos x', if_pos (by rw [x'])]
        exact ⟨I, rfl, hA, fW.rf⟩
      · have hA2 := hA.put (k := 3 + q) (v := k) (by omega) (by omega)
        rw [cx_3 (by omega)] at hA2
        rw [if_neg x', if_neg (by rw [nI_eq (by omega) (by omega)]; exact x'), s73 (s := 14) (Or.inl rfl) (by omega), bV_n, e166_30, nI_add]
        exact ⟨_, rfl, hA2, fW.up (by decide) (by decide) (by decide)⟩

theorem o117f (h : cInv I L ru dr R S f g p a n t l u kp cl si cs) (hw : wInv R S f g p a T u kp) (hr : (paA p a).2 = none) : ∃ I', cal d 117 [.ref 1] (I, L, rR ru dr sr rd rl, 65, x) = some (some (.int (paA p a).1), (I', L, rR ru dr sr rd rl, 65, x)) ∧ cInv I' L ru dr R S f g p a n t l u kp cl si cs := by
  have h0 := h
  have hw0 := hw
  obtain ⟨hI, hA, hT, hO, hP, hC, hS, hQ, hR⟩ := h
  obtain ⟨hc, hw, hu, hk⟩ := hw
  obtain ⟨I1, e1, h1, f1⟩ := s65 (d := d) (L := L) (ru := ru) (dr := dr) (sr := sr) (rd := rd) (rl := rl) (x := x) (s0 := 18) (s := 14) (Or.inr (Or.inr rfl)) (Or.inl rfl) hA
  have hA1 : cSt I1 15 p a := f1.st (s := 14) (Or.inl rfl) hA (by decide)
  have hI1 := f1.ct hI (by decide)
  obtain ⟨I2, e2, h2, f2⟩ := s163 (d := d) (L := L) (ru := ru) (dr := dr) (sr := sr) (rd := rd) (rl := rl) (x := x)  hc hI1 hA1 hw
  rw [hr] at h2
  have hn := (paA_ok  hc hw).1 hr
  have f3 : fW [15, 19] I I2 := (f1.mono (by decide)).tr (f2.mono (by decide))
  refine ⟨I2, ?_, ⟨f3.ct hI (by decide), h2, f3.tx hT (by decide), f3.to hO (by decide) rfl, f3.pa hP (by decide), f3.clu hC (by decide), f3.sig hS (by decide), hQ, f3.cs (zRD.q hQ) hR (zRD.nn hQ (by decide))⟩⟩
  rw [k117, e1, bV_n, e117_5, e2, bI_i, e117_8, k162, if_pos hn, e162_7, bI_i, e117_9]
theorem o117t {b : zP} (h : cInv I L ru dr R S f g p a n t l u kp cl si cs) (hw : wInv R S f g p a T u kp) (hr : (paA p a).2 = some b) : ∃ I', cal d 117 [.ref 1] (I, L, rR ru dr sr rd rl, 65, x) = some (some (.int (paA p a).1), (I', L, rR ru dr sr rd rl, 65, x)) ∧ cInv I' L ru dr R S f g p b n t l ((a :: u).take 12) kp cl si cs := by
  obtain ⟨hI, hA, hT, hO, hP, hC, hS, hQ, hR⟩ := h
  obtain ⟨hc, hw, hu, hk⟩ := hw
  obtain ⟨I1, e1, h1, f1⟩ := s65 (d := d) (L := L) (ru := ru) (dr := dr) (sr := sr) (rd := rd) (rl := rl) (x := x) (s0 := 18) (s := 14) (Or.inr (Or.inr rfl)) (Or.inl rfl) hA
  have hA1 : cSt I1 15 p a := f1.st (s := 14) (Or.inl rfl) hA (by decide)
  have hI1 := f1.ct hI (by decide)
  obtain ⟨I2, e2, h2, f2⟩ := s163 (d := d) (L := L) (ru := ru) (dr := dr) (sr := sr) (rd := rd) (rl := rl) (x := x)  hc hI1 hA1 hw
  rw [hr] at h2
  have hn := ((paA_ok  hc hw).2 b hr).1
  have f3 : fW [15, 19] I I2 := (f1.mono (by decide)).tr (f2.mono (by decide))
  have hB := f2.st (s := 18) (Or.inr (Or.inr rfl)) h1 (by decide)
  have hP2 := f3.pa hP (by decide)
  obtain ⟨I3, e3, h3, f4⟩ := s26 (d := d) (L := L) (ru := ru) (dr := dr) (sr := sr) (rd := rd) (rl := rl) (x := x) (s := 18) (Or.inr (Or.inr rfl)) hB hP2
  have f5 : fW [15, 19, 20, 21] I I3 := (f3.mono (by decide)).tr (f4.mono (by decide))
  refine ⟨I3, ?_, ⟨f5.ct hI (by decide), f4.st (s := 14) (Or.inl rfl) h2 (by decide), f5.tx hT (by decide), f5.to hO (by decide) rfl, h3, f5.clu hC (by decide), f5.sig hS (by decide), hQ, f5.cs (zRD.q hQ) hR (zRD.nn hQ (by decide))⟩⟩
  rw [k117, e1, bV_n, e117_5, e2, bI_i, e117_8, k162, if_neg hn, e3, bV_n, e162_7, bI_i, e117_9]

theorem o118f {v w : Int32} (h : cInv I L ru dr R S f g p a n t l u kp cl si cs) (hw : wInv R S f g p a T u kp) (hr : (tkA S p a v w).2 = none) : ∃ I', cal d 118 [.ref 1, .int v, .int w] (I, L, rR ru dr sr rd rl, 65, x) = some (some (.int (tkA S p a v w).1), (I', L, rR ru dr sr rd rl, 65, x)) ∧ cInv I' L ru dr R S f g p a n t l u kp cl si cs := by
  have h0 := h
  have hw0 := hw
  obtain ⟨hI, hA, hT, hO, hP, hC, hS, hQ, hR⟩ := h
  obtain ⟨hc, hw, hu, hk⟩ := hw
  obtain ⟨I1, e1, h1, f1⟩ := s65 (d := d) (L := L) (ru := ru) (dr := dr) (sr := sr) (rd := rd) (rl := rl) (x := x) (s0 := 18) (s := 14) (Or.inr (Or.inr rfl)) (Or.inl rfl) hA
  have hA1 : cSt I1 15 p a := f1.st (s := 14) (Or.inl rfl) hA (by decide)
  have hI1 := f1.ct hI (by decide)
  obtain ⟨I2, e2, h2, f2⟩ := s164 (d := d) (L := L) (ru := ru) (dr := dr) (sr := sr) (rd := rd) (rl := rl) (x := x) (v := v) (w := w) hc hI1 hA1 hw
  rw [hr] at h2
  have hn := (tkA_ok   hc hw).1 hr
  have f3 : fW [15, 19] I I2 := (f1.mono (by decide)).tr (f2.mono (by decide))
  refine ⟨I2, ?_, ⟨f3.ct hI (by decide), h2, f3.tx hT (by decide), f3.to hO (by decide) rfl, f3.pa hP (by decide), f3.clu hC (by decide), f3.sig hS (by decide), hQ, f3.cs (zRD.q hQ) hR (zRD.nn hQ (by decide))⟩⟩
  rw [k118, e1, bV_n, e118_5, e2, bI_i, e118_10, k162, if_pos hn, e162_7, bI_i, e118_11]
theorem o118t {v w : Int32} {b : zP} (h : cInv I L ru dr R S f g p a n t l u kp cl si cs) (hw : wInv R S f g p a T u kp) (hr : (tkA S p a v w).2 = some b) : ∃ I', cal d 118 [.ref 1, .int v, .int w] (I, L, rR ru dr sr rd rl, 65, x) = some (some (.int (tkA S p a v w).1), (I', L, rR ru dr sr rd rl, 65, x)) ∧ cInv I' L ru dr R S f g p b n t l ((a :: u).take 12) kp cl si cs := by
  obtain ⟨hI, hA, hT, hO, hP, hC, hS, hQ, hR⟩ := h
  obtain ⟨hc, hw, hu, hk⟩ := hw
  obtain ⟨I1, e1, h1, f1⟩ := s65 (d := d) (L := L) (ru := ru) (dr := dr) (sr := sr) (rd := rd) (rl := rl) (x := x) (s0 := 18) (s := 14) (Or.inr (Or.inr rfl)) (Or.inl rfl) hA
  have hA1 : cSt I1 15 p a := f1.st (s := 14) (Or.inl rfl) hA (by decide)
  have hI1 := f1.ct hI (by decide)
  obtain ⟨I2, e2, h2, f2⟩ := s164 (d := d) (L := L) (ru := ru) (dr := dr) (sr := sr) (rd := rd) (rl := rl) (x := x) (v := v) (w := w) hc hI1 hA1 hw
  rw [hr] at h2
  have hn := ((tkA_ok   hc hw).2 b hr).1
  have f3 : fW [15, 19] I I2 := (f1.mono (by decide)).tr (f2.mono (by decide))
  have hB := f2.st (s := 18) (Or.inr (Or.inr rfl)) h1 (by decide)
  have hP2 := f3.pa hP (by decide)
  obtain ⟨I3, e3, h3, f4⟩ := s26 (d := d) (L := L) (ru := ru) (dr := dr) (sr := sr) (rd := rd) (rl := rl) (x := x) (s := 18) (Or.inr (Or.inr rfl)) hB hP2
  have f5 : fW [15, 19, 20, 21] I I3 := (f3.mono (by decide)).tr (f4.mono (by decide))
  refine ⟨I3, ?_, ⟨f5.ct hI (by decide), f4.st (s := 14) (Or.inl rfl) h2 (by decide), f5.tx hT (by decide), f5.to hO (by decide) rfl, h3, f5.clu hC (by decide), f5.sig hS (by decide), hQ, f5.cs (zRD.q hQ) hR (zRD.nn hQ (by decide))⟩⟩
  rw [k118, e1, bV_n, e118_5, e2, bI_i, e118_10, k162, if_neg hn, e3, bV_n, e162_7, bI_i, e118_11]

theorem o119f {v w : Int32} (h : cInv I L ru dr R S f g p a n t l u kp cl si cs) (hw : wInv R S f g p a T u kp) (hr : (lvA S p a v w).2 = none) : ∃ I', cal d 119 [.ref 1, .int v, .int w] (I, L, rR ru dr sr rd rl, 65, x) = some (some (.int (lvA S p a v w).1), (I', L, rR ru dr sr rd rl, 65, x)) ∧ cInv I' L ru dr R S f g p a n t l u kp cl si cs := by
  have h0 := h
  have hw0 := hw
  obtain ⟨hI, hA, hT, hO, hP, hC, hS, hQ, hR⟩ := h
  obtain ⟨hc, hw, hu, hk⟩ := hw
  obtain ⟨I1, e1, h1, f1⟩ := s65 (d := d) (L := L) (ru := ru) (dr := dr) (sr := sr) (rd := rd) (rl := rl) (x := x) (s0 := 18) (s := 14) (Or.inr (Or.inr rfl)) (Or.inl rfl) hA
  have hA1 : cSt I1 15 p a := f1.st (s := 14) (Or.inl rfl) hA (by decide)
  have hI1 := f1.ct hI (by decide)
  obtain ⟨I2, e2, h2, f2⟩ := s165 (d := d) (L := L) (ru := ru) (dr := dr) (sr := sr) (rd := rd) (rl := rl) (x := x) (v := v) (w := w) hc hI1 hA1 hw
  rw [hr] at h2
  have hn := (lvA_ok   hc hw).1 hr
  have f3 : fW [15, 19] I I2 := (f1.mono (by decide)).tr (f2.mono (by decide))
  refine ⟨I2, ?_, ⟨f3.ct hI (by decide), h2, f3.tx hT (by decide), f3.to hO (by decide) rfl, f3.pa hP (by decide), f3.clu hC (by decide), f3.sig hS (by decide), hQ, f3.cs (zRD.q hQ) hR (zRD.nn hQ (by decide))⟩⟩
  rw [k119, e1, bV_n, e119_5, e2, bI_i, e119_10, k162, if_pos hn, e162_7, bI_i, e119_11]
theorem o119t {v w : Int32} {b : zP} (h : cInv I L ru dr R S f g p a n t l u kp cl si cs) (hw : wInv R S f g p a T u kp) (hr : (lvA S p a v w).2 = some b) : ∃ I', cal d 119 [.ref 1, .int v, .int w] (I, L, rR ru dr sr rd rl, 65, x) = some (some (.int (lvA S p a v w).1), (I', L, rR ru dr sr rd rl, 65, x)) ∧ cInv I' L ru dr R S f g p b n t l ((a :: u).take 12) kp cl si cs := by
  obtain ⟨hI, hA, hT, hO, hP, hC, hS, hQ, hR⟩ := h
  obtain ⟨hc, hw, hu, hk⟩ := hw
  obtain ⟨I1, e1, h1, f1⟩ := s65 (d := d) (L := L) (ru := ru) (dr := dr) (sr := sr) (rd := rd) (rl := rl) (x := x) (s0 := 18) (s := 14) (Or.inr (Or.inr rfl)) (Or.inl rfl) hA
  have hA1 : cSt I1 15 p a := f1.st (s := 14) (Or.inl rfl) hA (by decide)
  have hI1 := f1.ct hI (by decide)
  obtain ⟨I2, e2, h2, f2⟩ := s165 (d := d) (L := L) (ru := ru) (dr := dr) (sr := sr) (rd := rd) (rl := rl) (x := x) (v := v) (w := w) hc hI1 hA1 hw
  rw [hr] at h2
  have hn := ((lvA_ok   hc hw).2 b hr).1
  have f3 : fW [15, 19] I I2 := (f1.mono (by decide)).tr (f2.mono (by decide))
  have hB := f2.st (s := 18) (Or.inr (Or.inr rfl)) h1 (by decide)
  have hP2 := f3.pa hP (by decide)
  obtain ⟨I3, e3, h3, f4⟩ := s26 (d := d) (L := L) (ru := ru) (dr := dr) (sr := sr) (rd := rd) (rl := rl) (x := x) (s := 18) (Or.inr (Or.inr rfl)) hB hP2
  have f5 : fW [15, 19, 20, 21] I I3 := (f3.mono (by decide)).tr (f4.mono (by decide))
  refine ⟨I3, ?_, ⟨f5.ct hI (by decide), f4.st (s := 14) (Or.inl rfl) h2 (by decide), f5.tx hT (by decide), f5.to hO (by decide) rfl, h3, f5.clu hC (by decide), f5.sig hS (by decide), hQ, f5.cs (zRD.q hQ) hR (zRD.nn hQ (by decide))⟩⟩
  rw [k119, e1, bV_n, e119_5, e2, bI_i, e119_10, k162, if_neg hn, e3, bV_n, e162_7, bI_i, e119_11]

theorem o120f {v w : Int32} (h : cInv I L ru dr R S f g p a n t l u kp cl si cs) (hw : wInv R S f g p a T u kp) (hr : (grA p a v w).2 = none) : ∃ I', cal d 120 [.ref 1, .int v, .int w] (I, L, rR ru dr sr rd rl, 65, x) = some (some (.int (grA p a v w).1), (I', L, rR ru dr sr rd rl, 65, x)) ∧ cInv I' L ru dr R S f g p a n t l u kp cl si cs := by
  have h0 := h
  have hw0 := hw
  obtain ⟨hI, hA, hT, hO, hP, hC, hS, hQ, hR⟩ := h
  obtain ⟨hc, hw, hu, hk⟩ := hw
  obtain ⟨I1, e1, h1, f1⟩ := s65 (d := d) (L := L) (ru := ru) (dr := dr) (sr := sr) (rd := rd) (rl := rl) (x := x) (s0 := 18) (s := 14) (Or.inr (Or.inr rfl)) (Or.inl rfl) hA
  have hA1 : cSt I1 15 p a := f1.st (s := 14) (Or.inl rfl) hA (by decide)
  have hI1 := f1.ct hI (by decide)
  obtain ⟨I2, e2, h2, f2⟩ := s166 (d := d) (L := L) (ru := ru) (dr := dr) (sr := sr) (rd := rd) (rl := rl) (x := x) (v := v) (w := w) hc hI1 hA1 hw
  rw [hr] at h2
  have hn := (grA_ok   hc hw).1 hr
  have f3 : fW [15, 19] I I2 := (f1.mono (by decide)).tr (f2.mono (by decide))
  refine ⟨I2, ?_, ⟨f3.ct hI (by decide), h2, f3.tx hT (by decide), f3.to hO (by decide) rfl, f3.pa hP (by decide), f3.clu hC (by decide), f3.sig hS (by decide), hQ, f3.cs (zRD.q hQ) hR (zRD.nn hQ (by decide))⟩⟩
  rw [k120, e1, bV_n, e120_5, e2, bI_i, e120_10, k162, if_pos hn, e162_7, bI_i, e120_11]
theorem o120t {v w : Int32} {b : zP} (h : cInv I L ru dr R S f g p a n t l u kp cl si cs) (hw : wInv R S f g p a T u kp) (hr : (grA p a v w).2 = some b) : ∃ I', cal d 120 [.ref 1, .int v, .int w] (I, L, rR ru dr sr rd rl, 65, x) = some (some (.int (grA p a v w).1), (I', L, rR ru dr sr rd rl, 65, x)) ∧ cInv I' L ru dr R S f g p b n t l ((a :: u).take 12) kp cl si cs := by
  obtain ⟨hI, hA, hT, hO, hP, hC, hS, hQ, hR⟩ := h
  obtain ⟨hc, hw, hu, hk⟩ := hw
  obtain ⟨I1, e1, h1, f1⟩ := s65 (d := d) (L := L) (ru := ru) (dr := dr) (sr := sr) (rd := rd) (rl := rl) (x := x) (s0 := 18) (s := 14) (Or.inr (Or.inr rfl)) (Or.inl rfl) hA
  have hA1 : cSt I1 15 p a := f1.st (s := 14) (Or.inl rfl) hA (by decide)
  have hI1 := f1.ct hI (by decide)
  obtain ⟨I2, e2, h2, f2⟩ := s166 (d := d) (L := L) (ru := ru) (dr := dr) (sr := sr) (rd := rd) (rl := rl) (x := x) (v := v) (w := w) hc hI1 hA1 hw
  rw [hr] at h2
  have hn := ((grA_ok   hc hw).2 b hr).1
  have f3 : fW [15, 19] I I2 := (f1.mono (by decide)).tr (f2.mono (by decide))
  have hB := f2.st (s := 18) (Or.inr (Or.inr rfl)) h1 (by decide)
  have hP2 := f3.pa hP (by decide)
  obtain ⟨I3, e3, h3, f4⟩ := s26 (d := d) (L := L) (ru := ru) (dr := dr) (sr := sr) (rd := rd) (rl := rl) (x := x) (s := 18) (Or.inr (Or.inr rfl)) hB hP2
  have f5 : fW [15, 19, 20, 21] I I3 := (f3.mono (by decide)).tr (f4.mono (by decide))
  refine ⟨I3, ?_, ⟨f5.ct hI (by decide), f4.st (s := 14) (Or.inl rfl) h2 (by decide), f5.tx hT (by decide), f5.to hO (by decide) rfl, h3, f5.clu hC (by decide), f5.sig hS (by decide), hQ, f5.cs (zRD.q hQ) hR (zRD.nn hQ (by decide))⟩⟩
  rw [k120, e1, bV_n, e120_5, e2, bI_i, e120_10, k162, if_neg hn, e3, bV_n, e162_7, bI_i, e120_11]

end
