section
variable {I : Nat → Nat → Int32} {L : Nat → Nat → Int64} {ru dr : Nat} {sr : Nat → Option Nat} {rd : Option Nat} {rl x : Nat}

/-! ===== a rule's steps worked off ===== -/
def stv : Bool × Nat → Int32
  | (true, n) => nI n
  | (false, c) => -(nI c)
def isl (c : Nat) : Bool := decide (c = 97 ∨ c = 116 ∨ c = 114 ∨ c = 104 ∨ c = 102 ∨ c = 105 ∨ c = 110)
def jn (c : Nat) (l r : Int32) : Int32 := if c = 42 then l * r else if c = 43 then l + r else if c = 45 then l - r else if c = 47 then (if r = 0 then 0 else l / r) else if c = 60 then (if r ≤ l then nI 0 else nI 1) else if c = 62 then (if l ≤ r then nI 0 else nI 1) else if l = r then nI 1 else nI 0
def hd0 : List Int32 → Int32
  | [] => 0
  | v :: _ => v
def st1 (t : Nat → Int32) (e : Bool × Nat) (st : List Int32) : List Int32 := match e with
  | (true, n) => nI n :: st
  | (false, c) => if isl c = true then t c :: st else if c = 126 then -(hd0 st) :: st.tail else jn c (hd0 st.tail) (hd0 st) :: st.tail.tail
def rn (t : Nat → Int32) : List (Bool × Nat) → List Int32 → List Int32
  | [], st => st
  | e :: cs, st => rn t cs (st1 t e st)
theorem rn_app (t : Nat → Int32) : ∀ (as bs : List (Bool × Nat)) (st : List Int32), rn t (as ++ bs) st = rn t bs (rn t as st)
  | [], _, _ => rfl
  | e :: as, bs, st => rn_app t as bs (st1 t e st)
def ofv (t : Nat → Int32) (cs : List (Bool × Nat)) : Int32 := zmax (-(nI 3)) (zmin (nI 3) (hd0 (rn t cs [])))
/-- a step that a text can have -/
def stk (e : Bool × Nat) : Prop := match e with
  | (true, n) => n < 1000
  | (false, c) => 0 < c ∧ c < 128
def sk (r : Nat → Int32) : List Int32 → Prop
  | [] => True
  | v :: st => r st.length = v ∧ sk r st
theorem sk_set {r : Nat → Int32} {k : Nat} {v : Int32} : ∀ {st : List Int32}, sk r st → st.length ≤ k → sk (zset r k v) st
  | [], _, _ => trivial
  | w :: st, h, hk => by
    have hk : st.length + 1 ≤ k := hk
    exact ⟨by rw [zset_ne _ _ (by omega)]; exact h.1, sk_set h.2 (by omega)⟩
def cRu (I : Nat → Nat → Int32) (q : Nat) (cs : List (Bool × Nat)) : Prop := I q 2 = nI cs.length ∧ cs.length ≤ 40 ∧ (∀ e ∈ cs, stk e) ∧ ∀ i e, cs[i]? = some e → I (q + 1) i = stv e
def fR (q : Nat) (I I' : Nat → Nat → Int32) : Prop := (∀ c, c ≠ q → c ≠ q + 2 → I' c = I c) ∧ ∀ k, k ≠ 3 → I' q k = I q k
theorem fR.rf (q : Nat) (I : Nat → Nat → Int32) : fR q I I := ⟨fun _ _ _ => rfl, fun _ _ => rfl⟩
theorem fR.tr {q : Nat} {I I1 I2 : Nat → Nat → Int32} (h : fR q I I1) (h2 : fR q I1 I2) : fR q I I2 := ⟨fun c a b => (h2.1 c a b).trans (h.1 c a b), fun k a => (h2.2 k a).trans (h.2 k a)⟩
theorem fR.cs {q : Nat} {I I' : Nat → Nat → Int32} {cs : List (Bool × Nat)} (h : fR q I I') (hr : cRu I q cs) : cRu I' q cs := by
  refine ⟨by rw [h.2 2 (by omega)]; exact hr.1, hr.2.1, hr.2.2.1, fun i e he => ?_⟩
  rw [h.1 (q + 1) (by omega) (by omega)]
  exact hr.2.2.2 i e he
theorem fR.ct {q : Nat} (hq : zQ q) {I I' : Nat → Nat → Int32} (h : fR q I I') {R S : Nat} {f g : Nat → Nat} (hI : cCt I R S f g) : cCt I' R S f g := by
  rcases hq with rfl | rfl <;> exact hI.congr (h.1 6 (by omega) (by omega)) (h.1 7 (by omega) (by omega)) (h.1 8 (by omega) (by omega))
theorem fR.st {q : Nat} (hq : zQ q) {I I' : Nat → Nat → Int32} (h : fR q I I') {s p : Nat} {a : Nat → Nat} (hs : zS s) (hA : cSt I (s + 1) p a) : cSt I' (s + 1) p a := by
  refine hA.congr (h.1 (s + 1) ?_ ?_) <;> (rcases hq with rfl | rfl <;> rcases hs with rfl | rfl | rfl <;> omega)
theorem s52 {d q : Nat} (hq : zQ q) {v : Int32} {st : List Int32} (h3 : I q 3 = nI st.length) (hk : sk (I (q + 2)) st) (hl : st.length < 40) : ∃ I', cal d 52 [.ref q, .int v] (I, L, rR ru dr sr rd rl, 65, x) = some (none, (I', L, rR ru dr sr rd rl, 65, x)) ∧ I' q 3 = nI (st.length + 1) ∧ sk (I' (q + 2)) (v :: st) ∧ fR q I I' := by
  refine ⟨zup (zup I (q + 2) st.length v) q 3 (nI (st.length + 1)), ?_, ?_, ?_, ?_⟩
  · rw [k52 hq, h3]
    simp (disch := omega) only [nI_leI, nI_ltI, nI_eq, nI_z, nI_n0, nI_0l, nI_l0, nI_0g, nI_m1, nI_clamp, nI_add, zb0, zb1, ite_true, ite_false, if_true, if_false, eq_self, bI_i, bL_l, bV_n, not_true, not_false_eq_true, ak_q2 hq]
    rw [if_neg (by omega)]
  · rw [zup_v, if_pos rfl]
  · rw [zup_ne _ _ _ (by omega), zup_self]
    exact ⟨zset_self _ _ _, sk_set hk (Nat.le_refl _)⟩
  · refine ⟨fun c a b => by rw [zup_ne _ _ _ a, zup_ne _ _ _ b], fun k a => by rw [zup_v, if_neg a, zup_ne _ _ _ (by omega)]⟩
theorem s53 {d q : Nat} (hq : zQ q) {st : List Int32} (h3 : I q 3 = nI st.length) (hk : sk (I (q + 2)) st) (hl : st.length ≤ 40) : ∃ I', cal d 53 [.ref q] (I, L, rR ru dr sr rd rl, 65, x) = some (some (.int (hd0 st)), (I', L, rR ru dr sr rd rl, 65, x)) ∧ I' q 3 = nI st.tail.length ∧ sk (I' (q + 2)) st.tail ∧ fR q I I' := by
  cases st with
  | nil =>
    refine ⟨I, ?_, h3, trivial, fR.rf q I⟩
    rw [k53 hq, h3]
    rfl
  | cons v st =>
    have hl : st.length + 1 ≤ 40 := hl
    have h3 : I q 3 = nI (st.length + 1) := h3
    refine ⟨zup I q 3 (nI st.length), ?_, ?_, ?_, ?_⟩
    · rw [k53 hq, h3]
      simp (disch := omega) only [nI_leI, nI_ltI, nI_eq, nI_z, nI_n0, nI_0l, nI_l0, nI_0g, nI_m1, nI_clamp, nI_add, zb0, zb1, ite_true, ite_false, if_true, if_false, eq_self, bI_i, bL_l, bV_n, not_true, not_false_eq_true, zup_v, zsub, Nat.add_sub_cancel, ak_q2 hq, hk.1]
      rw [if_pos (by omega)]
      rfl
    · rw [zup_v, if_pos rfl]; rfl
    · rw [zup_ne _ _ _ (by omega)]; exact hk.2
    · exact ⟨fun c a b => zup_ne _ _ _ a, fun k a => by rw [zup_v, if_neg a]⟩
theorem s54 {d c : Nat} (hc : c < 128) {l r : Int32} : cal d 54 [.int (nI c), .int l, .int r] (I, L, rR ru dr sr rd rl, 65, x) = some (some (.int (jn c l r)), (I, L, rR ru dr sr rd rl, 65, x)) := by
  have e : ∀ k, k < 128 → ((nI c = nI k) ↔ c = k) := fun k hk => nI_eq (by omega) (by omega)
  rw [k54, jn]
  by_cases h42 : c = 42
  · rw [if_pos ((e 42 (by decide)).mpr h42), if_pos h42]
  rw [if_neg (fun q => h42 ((e 42 (by decide)).mp q)), if_neg h42]
  by_cases h43 : c = 43
  · rw [if_pos ((e 43 (by decide)).mpr h43), if_pos h43]
  rw [if_neg (fun q => h43 ((e 43 (by decide)).mp q)), if_neg h43]
  by_cases h45 : c = 45
  · rw [if_pos ((e 45 (by decide)).mpr h45), if_pos h45]
  rw [if_neg (fun q => h45 ((e 45 (by decide)).mp q)), if_neg h45]
  by_cases h47 : c = 47
  · rw [if_pos ((e 47 (by decide)).mpr h47), if_pos h47]
    by_cases z : r = 0
    · rw [if_pos z, if_pos z]; rfl
    · rw [if_neg z, if_neg z, if_neg z]
  rw [if_neg (fun q => h47 ((e 47 (by decide)).mp q)), if_neg h47]
  by_cases h60 : c = 60
  · rw [if_pos ((e 60 (by decide)).mpr h60), if_pos h60]
    by_cases z : r ≤ l
    · rw [if_pos z, if_pos z]
    · rw [if_neg z, if_neg z]
  rw [if_neg (fun q => h60 ((e 60 (by decide)).mp q)), if_neg h60]
  by_cases h62 : c = 62
  · rw [if_pos ((e 62 (by decide)).mpr h62), if_pos h62]
    by_cases z : l ≤ r
    · rw [if_pos z, if_pos z]
    · rw [if_neg z, if_neg z]
  rw [if_neg (fun q => h62 ((e 62 (by decide)).mp q)), if_neg h62]
  by_cases z : l = r
  · rw [if_pos z, if_pos z]
  · rw [if_neg z, if_neg z]
theorem s50t {d c : Nat} (h : isl c = true) : cal d 50 [.int (nI c)] (I, L, rR ru dr sr rd rl, 65, x) = some (some (.int (nI 1)), (I, L, rR ru dr sr rd rl, 65, x)) := by
  rcases of_decide_eq_true h with rfl | rfl | rfl | rfl | rfl | rfl | rfl <;> exact k50
theorem s50f {d : Nat} {v : Int32} (h : ∀ k, isl k = true → v ≠ nI k) : cal d 50 [.int v] (I, L, rR ru dr sr rd rl, 65, x) = some (some (.int (nI 0)), (I, L, rR ru dr sr rd rl, 65, x)) := by
  rw [k50]
  rw [if_neg (h 97 rfl)]
  by_cases h98 : v = nI 98
  · rw [if_pos h98]; exact if_pos zb0
  rw [if_neg h98]
  by_cases h99 : v = nI 99
  · rw [if_pos h99]; exact if_pos zb0
  rw [if_neg h99]
  by_cases h100 : v = nI 100
  · rw [if_pos h100]; exact if_pos zb0
  rw [if_neg h100]
  by_cases h101 : v = nI 101
  · rw [if_pos h101]; exact if_pos zb0
  rw [if_neg h101]
  rw [if_neg (h 102 rfl)]
  by_cases h103 : v = nI 103
  · rw [if_pos h103]; exact if_pos zb0
  rw [if_neg h103]
  rw [if_neg (h 104 rfl)]
  rw [if_neg (h 105 rfl)]
  by_cases h106 : v = nI 106
  · rw [if_pos h106]; exact if_pos zb0
  rw [if_neg h106]
  by_cases h107 : v = nI 107
  · rw [if_pos h107]; exact if_pos zb0
  rw [if_neg h107]
  by_cases h108 : v = nI 108
  · rw [if_pos h108]; exact if_pos zb0
  rw [if_neg h108]
  by_cases h109 : v = nI 109
  · rw [if_pos h109]; exact if_pos zb0
  rw [if_neg h109]
  rw [if_neg (h 110 rfl)]
  by_cases h111 : v = nI 111
  · rw [if_pos h111]; exact if_pos zb0
  rw [if_neg h111]
  by_cases h112 : v = nI 112
  · rw [if_pos h112]; exact if_pos zb0
  rw [if_neg h112]
  by_cases h113 : v = nI 113
  · rw [if_pos h113]; exact if_pos zb0
  rw [if_neg h113]
  rw [if_neg (h 114 rfl)]
  by_cases h115 : v = nI 115
  · rw [if_pos h115]; exact if_pos zb0
  rw [if_neg h115]
  rw [if_neg (h 116 rfl)]
  exact if_pos zb0

end
