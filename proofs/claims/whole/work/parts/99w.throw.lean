section
variable {I : Nat → Nat → Int32} {L : Nat → Nat → Int64} {ru dr : Nat} {sr : Nat → Option Nat} {rd : Option Nat} {rl x : Nat}

def cx (k : Nat) : Nat := if k = 1 then 24 else if k = 2 then 25 else if k < 7 then k + 1 else if k < 11 then k - 7 else k - 3
theorem cv_cx {p : Nat} {a : Nat → Nat} {k : Nat} (h : 0 < k) : cv p a k = a (cx k) := by
  unfold cv cx
  rw [if_neg (by omega)]
  repeat' split
  all_goals rfl
theorem cx_inj {j k : Nat} (hj : 0 < j) (hj2 : j < 27) (hk : 0 < k) (hk2 : k < 27) (h : cx j = cx k) : j = k := by
  unfold cx at h
  repeat' split at h
  all_goals omega
theorem cSt.put {I : Nat → Nat → Int32} {c p k v : Nat} {a : Nat → Nat} (h : cSt I c p a) (hk : 0 < k) (hk2 : k < 27) : cSt (zup I c k (nI v)) c p (zset a (cx k) v) := by
  intro j hj
  rw [zup_v]
  by_cases z : j = k
  · rw [if_pos z, z, cv_cx hk, zset_self]
  · rw [if_neg z, h j hj]
    by_cases y : j = 0
    · rw [y]; rfl
    · rw [cv_cx (by omega), cv_cx (by omega), zset_ne _ _ (fun q => z (cx_inj (by omega) hj hk hk2 q))]
theorem cx_h {k : Nat} (h : 11 ≤ k) : cx k = k - 3 := by unfold cx; rw [if_neg (by omega), if_neg (by omega), if_neg (by omega), if_neg (by omega)]
theorem cx_11 (q : Nat) : cx (11 + q) = 8 + q := by rw [cx_h (by omega)]; omega
theorem cx_15 (q : Nat) : cx (15 + q) = 12 + q := by rw [cx_h (by omega)]; omega
theorem cx_19 (q : Nat) : cx (19 + q) = 16 + q := by rw [cx_h (by omega)]; omega
theorem cx_23 (q : Nat) : cx (23 + q) = 20 + q := by rw [cx_h (by omega)]; omega
theorem cx_7 {q : Nat} (h : q < 4) : cx (7 + q) = q := by unfold cx; rw [if_neg (by omega), if_neg (by omega), if_neg (by omega), if_pos (by omega)]; omega
theorem cx_3 {q : Nat} (h : q < 4) : cx (3 + q) = 4 + q := by unfold cx; rw [if_neg (by omega), if_neg (by omega), if_pos (by omega)]; omega
theorem zWf.aim {p S T q v : Nat} {a : Nat → Nat} (hw : zWf p S T a) (hq : q < p) (hv : v ≤ 9) : zWf p S T (zset a (q) v) := by
  have hp := hw.1
  have e0 : ∀ k, k ≠ q → zset a (q) v k = a k := fun k hk => zset_ne _ _ hk
  refine ⟨hw.1, fun r hr => ?_, fun r hr hr2 => ?_, ?_, ?_, hw.2.2.2.2.2.1, fun r1 r2 h1 h2 h3 => ?_⟩
  · have h := hw.2.1 r hr
    by_cases z : r = q
    · subst z
      rw [zset_self, e0 (4 + r) (by omega), e0 (8 + r) (by omega), e0 (12 + r) (by omega), e0 (16 + r) (by omega), e0 (20 + r) (by omega)]
      exact ⟨hv, h.2.1, h.2.2.1, h.2.2.2.1, h.2.2.2.2.1, h.2.2.2.2.2⟩
    · rw [e0 (r) (by omega), e0 (4 + r) (by omega), e0 (8 + r) (by omega), e0 (12 + r) (by omega), e0 (16 + r) (by omega), e0 (20 + r) (by omega)]
      exact h
  · have h := hw.2.2.1 r hr hr2
    rw [e0 (r) (by omega), e0 (4 + r) (by omega), e0 (8 + r) (by omega), e0 (12 + r) (by omega), e0 (16 + r) (by omega), e0 (20 + r) (by omega)]
    exact h
  · rw [e0 24 (by omega)]; exact hw.2.2.2.1
  · rw [e0 25 (by omega)]; exact hw.2.2.2.2.1
  · rw [e0 (12 + r1) (by omega), e0 (12 + r2) (by omega)]; exact hw.2.2.2.2.2.2 r1 r2 h1 h2 h3
theorem zWf.reach {p S T q v : Nat} {a : Nat → Nat} (hw : zWf p S T a) (hq : q < p) (hv : v ≤ 4) : zWf p S T (zset a (4 + q) v) := by
  have hp := hw.1
  have e0 : ∀ k, k ≠ 4 + q → zset a (4 + q) v k = a k := fun k hk => zset_ne _ _ hk
  refine ⟨hw.1, fun r hr => ?_, fun r hr hr2 => ?_, ?_, ?_, hw.2.2.2.2.2.1, fun r1 r2 h1 h2 h3 => ?_⟩
  · have h := hw.2.1 r hr
    by_cases z : r = q
    · subst z
      rw [e0 (r) (by omega), zset_self, e0 (8 + r) (by omega), e0 (12 + r) (by omega), e0 (16 + r) (by omega), e0 (20 + r) (by omega)]
      exact ⟨h.1, hv, h.2.2.1, h.2.2.2.1, h.2.2.2.2.1, h.2.2.2.2.2⟩
    · rw [e0 (r) (by omega), e0 (4 + r) (by omega), e0 (8 + r) (by omega), e0 (12 + r) (by omega), e0 (16 + r) (by omega), e0 (20 + r) (by omega)]
      exact h
  · have h := hw.2.2.1 r hr hr2
    rw [e0 (r) (by omega), e0 (4 + r) (by omega), e0 (8 + r) (by omega), e0 (12 + r) (by omega), e0 (16 + r) (by omega), e0 (20 + r) (by omega)]
    exact h
  · rw [e0 24 (by omega)]; exact hw.2.2.2.1
  · rw [e0 25 (by omega)]; exact hw.2.2.2.2.1
  · rw [e0 (12 + r1) (by omega), e0 (12 + r2) (by omega)]; exact hw.2.2.2.2.2.2 r1 r2 h1 h2 h3
theorem zWf.place {p S T q v : Nat} {a : Nat → Nat} (hw : zWf p S T a) (hq : q < p) (hv : v < S) : zWf p S T (zset a (8 + q) v) := by
  have hp := hw.1
  have e0 : ∀ k, k ≠ 8 + q → zset a (8 + q) v k = a k := fun k hk => zset_ne _ _ hk
  refine ⟨hw.1, fun r hr => ?_, fun r hr hr2 => ?_, ?_, ?_, hw.2.2.2.2.2.1, fun r1 r2 h1 h2 h3 => ?_⟩
  · have h := hw.2.1 r hr
    by_cases z : r = q
    · subst z
      rw [e0 (r) (by omega), e0 (4 + r) (by omega), zset_self, e0 (12 + r) (by omega), e0 (16 + r) (by omega), e0 (20 + r) (by omega)]
      exact ⟨h.1, h.2.1, hv, h.2.2.2.1, h.2.2.2.2.1, h.2.2.2.2.2⟩
    · rw [e0 (r) (by omega), e0 (4 + r) (by omega), e0 (8 + r) (by omega), e0 (12 + r) (by omega), e0 (16 + r) (by omega), e0 (20 + r) (by omega)]
      exact h
  · have h := hw.2.2.1 r hr hr2
    rw [e0 (r) (by omega), e0 (4 + r) (by omega), e0 (8 + r) (by omega), e0 (12 + r) (by omega), e0 (16 + r) (by omega), e0 (20 + r) (by omega)]
    exact h
  · rw [e0 24 (by omega)]; exact hw.2.2.2.1
  · rw [e0 25 (by omega)]; exact hw.2.2.2.2.1
  · rw [e0 (12 + r1) (by omega), e0 (12 + r2) (by omega)]; exact hw.2.2.2.2.2.2 r1 r2 h1 h2 h3
theorem zWf.fault {p S T q v : Nat} {a : Nat → Nat} (hw : zWf p S T a) (hq : q < p) (hv : v ≤ 99) : zWf p S T (zset a (16 + q) v) := by
  have hp := hw.1
  have e0 : ∀ k, k ≠ 16 + q → zset a (16 + q) v k = a k := fun k hk => zset_ne _ _ hk
  refine ⟨hw.1, fun r hr => ?_, fun r hr hr2 => ?_, ?_, ?_, hw.2.2.2.2.2.1, fun r1 r2 h1 h2 h3 => ?_⟩
  · have h := hw.2.1 r hr
    by_cases z : r = q
    · subst z
      rw [e0 (r) (by omega), e0 (4 + r) (by omega), e0 (8 + r) (by omega), e0 (12 + r) (by omega), zset_self, e0 (20 + r) (by omega)]
      exact ⟨h.1, h.2.1, h.2.2.1, h.2.2.2.1, hv, h.2.2.2.2.2⟩
    · rw [e0 (r) (by omega), e0 (4 + r) (by omega), e0 (8 + r) (by omega), e0 (12 + r) (by omega), e0 (16 + r) (by omega), e0 (20 + r) (by omega)]
      exact h
  · have h := hw.2.2.1 r hr hr2
    rw [e0 (r) (by omega), e0 (4 + r) (by omega), e0 (8 + r) (by omega), e0 (12 + r) (by omega), e0 (16 + r) (by omega), e0 (20 + r) (by omega)]
    exact h
  · rw [e0 24 (by omega)]; exact hw.2.2.2.1
  · rw [e0 25 (by omega)]; exact hw.2.2.2.2.1
  · rw [e0 (12 + r1) (by omega), e0 (12 + r2) (by omega)]; exact hw.2.2.2.2.2.2 r1 r2 h1 h2 h3
theorem zWf.right {p S T q v : Nat} {a : Nat → Nat} (hw : zWf p S T a) (hq : q < p) (hv : v ≤ 9) : zWf p S T (zset a (20 + q) v) := by
  have hp := hw.1
  have e0 : ∀ k, k ≠ 20 + q → zset a (20 + q) v k = a k := fun k hk => zset_ne _ _ hk
  refine ⟨hw.1, fun r hr => ?_, fun r hr hr2 => ?_, ?_, ?_, hw.2.2.2.2.2.1, fun r1 r2 h1 h2 h3 => ?_⟩
  · have h := hw.2.1 r hr
    by_cases z : r = q
    · subst z
      rw [e0 (r) (by omega), e0 (4 + r) (by omega), e0 (8 + r) (by omega), e0 (12 + r) (by omega), e0 (16 + r) (by omega), zset_self]
      exact ⟨h.1, h.2.1, h.2.2.1, h.2.2.2.1, h.2.2.2.2.1, hv⟩
    · rw [e0 (r) (by omega), e0 (4 + r) (by omega), e0 (8 + r) (by omega), e0 (12 + r) (by omega), e0 (16 + r) (by omega), e0 (20 + r) (by omega)]
      exact h
  · have h := hw.2.2.1 r hr hr2
    rw [e0 (r) (by omega), e0 (4 + r) (by omega), e0 (8 + r) (by omega), e0 (12 + r) (by omega), e0 (16 + r) (by omega), e0 (20 + r) (by omega)]
    exact h
  · rw [e0 24 (by omega)]; exact hw.2.2.2.1
  · rw [e0 25 (by omega)]; exact hw.2.2.2.2.1
  · rw [e0 (12 + r1) (by omega), e0 (12 + r2) (by omega)]; exact hw.2.2.2.2.2.2 r1 r2 h1 h2 h3

theorem zWf.turn {p S T v : Nat} {a : Nat → Nat} (hw : zWf p S T a) (hv : v < p) : zWf p S T (zset a 24 v) := by
  have e0 : ∀ k, k ≠ 24 → zset a 24 v k = a k := fun k hk => zset_ne _ _ hk
  refine ⟨hw.1, fun r hr => ?_, fun r hr hr2 => ?_, ?_, ?_, hw.2.2.2.2.2.1, fun r1 r2 h1 h2 h3 => ?_⟩
  · rw [e0 r (by omega), e0 (4 + r) (by omega), e0 (8 + r) (by omega), e0 (12 + r) (by omega), e0 (16 + r) (by omega), e0 (20 + r) (by omega)]
    exact hw.2.1 r hr
  · rw [e0 r (by omega), e0 (4 + r) (by omega), e0 (8 + r) (by omega), e0 (12 + r) (by omega), e0 (16 + r) (by omega), e0 (20 + r) (by omega)]
    exact hw.2.2.1 r hr hr2
  · rw [zset_self]; exact Or.inl hv
  · rw [e0 25 (by omega)]; exact hw.2.2.2.2.1
  · rw [e0 (12 + r1) (by omega), e0 (12 + r2) (by omega)]; exact hw.2.2.2.2.2.2 r1 r2 h1 h2 h3
theorem zWf.thrown {p S T T' v : Nat} {a : Nat → Nat} (hw : zWf p S T a) (hv : v ≤ T') (hT : T' < 2 ^ 24) : zWf p S T' (zset a 25 v) := by
  have e0 : ∀ k, k ≠ 25 → zset a 25 v k = a k := fun k hk => zset_ne _ _ hk
  refine ⟨hw.1, fun r hr => ?_, fun r hr hr2 => ?_, ?_, ?_, hT, fun r1 r2 h1 h2 h3 => ?_⟩
  · rw [e0 r (by omega), e0 (4 + r) (by omega), e0 (8 + r) (by omega), e0 (12 + r) (by omega), e0 (16 + r) (by omega), e0 (20 + r) (by omega)]
    exact hw.2.1 r hr
  · rw [e0 r (by omega), e0 (4 + r) (by omega), e0 (8 + r) (by omega), e0 (12 + r) (by omega), e0 (16 + r) (by omega), e0 (20 + r) (by omega)]
    exact hw.2.2.1 r hr hr2
  · rw [e0 24 (by omega)]; exact hw.2.2.2.1
  · rw [zset_self]; exact hv
  · rw [e0 (12 + r1) (by omega), e0 (12 + r2) (by omega)]; exact hw.2.2.2.2.2.2 r1 r2 h1 h2 h3
theorem zWf.more {p S T T' : Nat} {a : Nat → Nat} (hw : zWf p S T a) (h : T ≤ T') (hT : T' < 2 ^ 24) : zWf p S T' a := ⟨hw.1, hw.2.1, hw.2.2.1, hw.2.2.2.1, Nat.le_trans hw.2.2.2.2.1 h, hT, hw.2.2.2.2.2.2⟩
/-- a right throw -/
def rgt (R S : Nat) (f : Nat → Nat) (a : Nat → Nat) (q : Nat) : Bool := decide (gol S a q < S) && can R S f a q (2 ^ gol S a q) (a (4 + q))
def goR (S : Nat) (a : Nat → Nat) (q : Nat) : Nat → Nat := if gol S (zset a (8 + q) (gol S a q + 1)) q < S then zset a (8 + q) (gol S a q + 1) else zset (zset (zset a (8 + q) (gol S a q + 1)) (20 + q) (min 9 (a (20 + q) + 1))) (8 + q) 0
def nxt (p : Nat) (a : Nat → Nat) : Nat := if a 24 + 1 < p then a 24 + 1 else 0
theorem oth_set {a : Nat → Nat} {j v q : Nat} (h : j < 12 ∨ 15 < j) : oth (zset a j v) q = oth a q := orl_cong fun o ho => by rw [zset_ne _ _ (by omega)]
theorem goR_wf {R S : Nat} {f g : Nat → Nat} (hc : zCt R S f g) {p T q : Nat} {a : Nat → Nat} (hw : zWf p S T a) (hq : q < p) : zWf p S T (goR S a q) := by
  have hp := hw.1
  have hS : 0 < S := by
    have := (hc.le R (Nat.le_refl _)).2
    have := hc.1
    have := hc.2.2.2.1
    omega
  unfold goR
  split
  · rename_i h
    have h1 := (gl_le (oth (zset a (8 + q) (gol S a q + 1)) q) (S - zset a (8 + q) (gol S a q + 1) (8 + q)) (zset a (8 + q) (gol S a q + 1) (8 + q))).1
    have h2 : zset a (8 + q) (gol S a q + 1) (8 + q) ≤ gol S (zset a (8 + q) (gol S a q + 1)) q := h1
    rw [zset_self] at h2
    exact hw.place hq (by omega)
  · have e : zset (zset (zset a (8 + q) (gol S a q + 1)) (20 + q) (min 9 (a (20 + q) + 1))) (8 + q) 0 = zset (zset a (20 + q) (min 9 (a (20 + q) + 1))) (8 + q) 0 := by
      funext k
      unfold zset
      by_cases h1 : k = 8 + q
      · rw [if_pos h1, if_pos h1]
      · rw [if_neg h1, if_neg h1, if_neg h1]
    rw [e]
    exact (hw.right hq (Nat.min_le_left _ _)).place hq hS
def fS (s : Nat) (I I' : Nat → Nat → Int32) : Prop := ∀ c, c ≠ s + 1 → (c < 9 ∨ 13 < c) → I' c = I c
theorem fS.tr {s : Nat} {I I1 I2 : Nat → Nat → Int32} (h : fS s I I1) (h2 : fS s I1 I2) : fS s I I2 := fun c a b => (h2 c a b).trans (h c a b)
theorem fP.S {s : Nat} {I I' : Nat → Nat → Int32} (h : fP I I') : fS s I I' := fun c _ b => h c b
theorem fS.up {s k : Nat} {I : Nat → Nat → Int32} {v : Int32} : fS s I (zup I (s + 1) k v) := fun c a _ => zup_ne _ _ _ a
theorem fS.ct {s : Nat} (hs : zS s) {I I' : Nat → Nat → Int32} (h : fS s I I') {R S : Nat} {f g : Nat → Nat} (hI : cCt I R S f g) : cCt I' R S f g := by
  rcases hs with rfl | rfl | rfl <;> exact hI.congr (h 6 (by omega) (by omega)) (h 7 (by omega) (by omega)) (h 8 (by omega) (by omega))
theorem s87 {R S d : Nat} {f g : Nat → Nat} (hc : zCt R S f g) (hI : cCt I R S f g) {s p : Nat} {a : Nat → Nat} (hs : zS s) (hA : cSt I (s + 1) p a) {T : Nat} (hw : zWf p S T a) {q : Nat} (hq : q < p) : ∃ I', cal d 87 [.ref s, .int (nI q)] (I, L, rR ru dr sr rd rl, 65, x) = some (some (.int (nI (if rgt R S f a q = true then 1 else 0))), (I', L, rR ru dr sr rd rl, 65, x)) ∧ cSt I' (s + 1) p (if rgt R S f a q = true then goR S a q else a) ∧ fS s I I' := by
  have hp := hw.1
  have hS := hc.S16
  have hr := (hw.2.1 q (by omega)).2.1
  have hg := gol_le hw (q := q) (by omega)
  by_cases z : gol S a q < S
  · obtain ⟨I1, e1, -, f1⟩ := s82 (d := d) (L := L) (ru := ru) (dr := dr) (sr := sr) (rd := rd) (rl := rl) (x := x) hc hI hs hA hw (q := q) (m := 2 ^ gol S a q) (k := a (4 + q)) (by omega) (by omega)
    have hrgt : rgt R S f a q = can R S f a q (2 ^ gol S a q) (a (4 + q)) := by unfold rgt; rw [decide_eq_true z, Bool.true_and]
    have e0 : ∀ X, cal d 87 [.ref s, .int (nI q)] (I, L, rR ru dr sr rd rl, 65, x) = X ↔ (if nI (if can R S f a q (2 ^ gol S a q) (a (4 + q)) = true then 1 else 0) = 0 then some (some (.int (nI 0)), (I1, L, rR ru dr sr rd rl, 65, x)) else bV (cal d 73 [.ref s, .int (nI 11), .int (nI q), .int (nI (gol S a q + 1))] (I1, L, rR ru dr sr rd rl, 65, x)) fun h1 => res d 87 30 [.ref s, .int (nI q), .int (nI (gol S a q))] [] h1) = X := fun X => by
      simp (disch := omega) only [k87 hs, e87_3 hs, e87_8 hs, e87_15 hs hs, e87_19 hs hs, nI_leI, nI_ltI, nI_eq, nI_z, nI_n0, nI_0l, nI_l0, nI_0g, nI_m1, nI_clamp, nI_add, zb0, zb1, ite_true, ite_false, if_true, if_false, eq_self, bI_i, bL_l, bV_n, not_true, not_false_eq_true, s79 hc hI hs hA hw, s16t hc hI, s18t hc hI, s72 hs hA, cv_3]
      rw [if_neg (by decide), e1, bI_i, e87_20 hs, if_pos zb0, nI_add]
    rw [hrgt]
    cases y : can R S f a q (2 ^ gol S a q) (a (4 + q)) with
    | false =>
      refine ⟨I1, (e0 _).mpr ?_, f1.st hs hA, f1.S⟩
      rw [y]
      rfl
    | true =>
      have hI1 := f1.ct hI
      have hA1 := f1.st hs hA
      have hA2 := hA1.put (k := 11 + q) (v := gol S a q + 1) (by omega) (by omega)
      rw [cx_11] at hA2
      have f2 : fS s I1 (zup I1 (s + 1) (11 + q) (nI (gol S a q + 1))) := fS.up
      have hI2 := f2.ct hs hI1
      have ho : oth (zset a (8 + q) (gol S a q + 1)) q < 65536 := by rw [oth_set (by omega)]; exact p16 hS (oth_lt hw q)
      have h79 := s79' (d := d) (L := L) (ru := ru) (dr := dr) (sr := sr) (rd := rd) (rl := rl) (x := x) hc hI2 hs hA2 (q := q) (by omega) (by rw [zset_self]; omega) ho
      have hg2 := gl_le (oth (zset a (8 + q) (gol S a q + 1)) q) (S - zset a (8 + q) (gol S a q + 1) (8 + q)) (zset a (8 + q) (gol S a q + 1) (8 + q))
      rw [zset_self] at hg2
      have hg2 : gol S (zset a (8 + q) (gol S a q + 1)) q ≤ S := by
        have : gol S (zset a (8 + q) (gol S a q + 1)) q = gl (oth (zset a (8 + q) (gol S a q + 1)) q) (S - (gol S a q + 1)) (gol S a q + 1) := by unfold gol; rw [zset_self]
        omega
      by_cases w : gol S (zset a (8 + q) (gol S a q + 1)) q < S
      · refine ⟨_, (e0 _).mpr ?_, ?_, f1.S.tr f2⟩
        · rw [y, if_pos rfl, if_neg (by decide), s73 hs (by omega), bV_n, e87_30 hs, h79, bI_i, e87_35 hs, s16t hc hI2 w, bI_i, e87_36 hs, if_neg (by decide), e87_54 hs, if_pos zb1]
        · rw [if_pos rfl, goR, if_pos w]; exact hA2
      · have hnR : zset a (8 + q) (gol S a q + 1) (20 + q) = a (20 + q) := zset_ne _ _ (by omega)
        have hrr := (hw.2.1 q (by omega)).2.2.2.2.2
        have hA3 := hA2.put (k := 23 + q) (v := min 9 (a (20 + q) + 1)) (by omega) (by omega)
        rw [cx_23] at hA3
        have hA4 := hA3.put (k := 11 + q) (v := 0) (by omega) (by omega)
        rw [cx_11] at hA4
        refine ⟨_, (e0 _).mpr ?_, ?_, (f1.S.tr f2).tr ((fS.up (k := 23 + q) (v := nI (min 9 (a (20 + q) + 1)))).tr (fS.up (k := 11 + q) (v := nI 0)))⟩
        · rw [y, if_pos rfl, if_neg (by decide), s73 hs (by omega), bV_n, e87_30 hs, h79, bI_i, e87_35 hs, s16f hc hI2 (fun k hk e => by rw [nI_eq (by omega) (by omega)] at e; omega), bI_i, e87_36 hs, if_pos (show nI 0 = 0 from rfl), s72 hs hA2 (by omega), bI_i, cv_23, hnR, e87_45 hs hs, nI_add, zmin_n (by omega) (by omega), s73 hs (by omega), bV_n, e87_49 hs, s73 hs (by omega), bV_n, e87_54 hs, if_pos zb1]
        · rw [if_pos rfl, goR, if_neg w]; exact hA4
  · have hrgt : rgt R S f a q = false := by unfold rgt; rw [decide_eq_false z, Bool.false_and]
    rw [hrgt]
    refine ⟨I, ?_, hA, fun _ _ _ => rfl⟩
    simp (disch := omega) only [k87 hs, e87_3 hs, e87_8 hs, nI_leI, nI_ltI, nI_eq, nI_z, nI_n0, nI_0l, nI_l0, nI_0g, nI_m1, nI_clamp, nI_add, zb0, zb1, ite_true, ite_false, if_true, if_false, eq_self, bI_i, bL_l, bV_n, not_true, not_false_eq_true, s79 hc hI hs hA hw, s16f hc hI (fun k hk e => absurd ((nI_eq (show gol S a q < 2 ^ 31 by omega) (by omega)).mp e) (by omega))]
    rfl
theorem s88 {d : Nat} {s p : Nat} {a : Nat → Nat} (hs : zS s) (hA : cSt I (s + 1) p a) (hp : p ≤ 4) (ht : a 24 < 4) : cal d 88 [.ref s] (I, L, rR ru dr sr rd rl, 65, x) = some (none, (zup I (s + 1) 1 (nI (nxt p a)), L, rR ru dr sr rd rl, 65, x)) := by
  simp (disch := omega) only [k88 hs, e88_5 hs, e88_9 hs, e88_12 hs, nI_leI, nI_ltI, nI_eq, nI_z, nI_n0, nI_0l, nI_l0, nI_0g, nI_m1, nI_clamp, nI_add, zb0, zb1, ite_true, ite_false, if_true, if_false, eq_self, bI_i, bL_l, bV_n, not_true, not_false_eq_true, s69 hs hA, s68 hs hA, ak_s hs]
  unfold nxt
  by_cases z : a 24 + 1 < p
  · rw [if_neg (by omega), if_pos z]
  · rw [if_pos (by omega), if_neg z]
def thr (R S : Nat) (f g : Nat → Nat) (cs : List (Bool × Nat)) (p : Nat) (a : Nat → Nat) : Nat → Nat :=
  if (decide (ofv (fun c => nI (th S g a (a 24) c)) cs = 0) && rgt R S f a (a 24)) = true then zset (goR S a (a 24)) 25 (a 25 + 1) else zset (zset (zset a (16 + a 24) (min 99 (a (16 + a 24) + 1))) 24 (nxt p a)) 25 (a 25 + 1)
def thb (R S : Nat) (f g : Nat → Nat) (cs : List (Bool × Nat)) (a : Nat → Nat) : Bool := decide (ofv (fun c => nI (th S g a (a 24) c)) cs = 0) && rgt R S f a (a 24)

end
