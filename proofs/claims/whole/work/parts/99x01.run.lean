section
variable {I : Nat → Nat → Int32} {L : Nat → Nat → Int64} {ru dr : Nat} {sr : Nat → Option Nat} {rd : Option Nat} {rl x : Nat}

def scr (c : Nat) : Bool := (Nat.ble 9 c && Nat.ble c 13) || Nat.beq c 30 || Nat.beq c 32 || Nat.beq c 33 || Nat.beq c 35
theorem scr_n {c : Nat} (b : scr c = false) : c < 9 ∨ 13 < c := by
  rcases Nat.lt_or_ge c 9 with h | h
  · exact Or.inl h
  · rcases Nat.lt_or_ge 13 c with h2 | h2
    · exact Or.inr h2
    · rcases (show c = 9 ∨ c = 10 ∨ c = 11 ∨ c = 12 ∨ c = 13 by omega) with rfl | rfl | rfl | rfl | rfl <;> exact absurd b (by decide)
/-- a frame: cells in W and scratch may change -/
def fW (W : List Nat) (I I' : Nat → Nat → Int32) : Prop := (∀ c, c ∉ W → scr c = false → I' c = I c) ∧ (∀ k, k ≠ 3 → I' 30 k = I 30 k) ∧ ∀ k, k ≠ 3 → I' 33 k = I 33 k
theorem fW.rf {W : List Nat} {I : Nat → Nat → Int32} : fW W I I := ⟨fun _ _ _ => rfl, fun _ _ => rfl, fun _ _ => rfl⟩
theorem fW.tr {W : List Nat} {I I1 I2 : Nat → Nat → Int32} (h : fW W I I1) (h2 : fW W I1 I2) : fW W I I2 := ⟨fun c a b => (h2.1 c a b).trans (h.1 c a b), fun k a => (h2.2.1 k a).trans (h.2.1 k a), fun k a => (h2.2.2 k a).trans (h.2.2 k a)⟩
theorem fW.mono {W W' : List Nat} {I I' : Nat → Nat → Int32} (h : fW W I I') (hm : ∀ c ∈ W, c ∈ W') : fW W' I I' := ⟨fun c a b => h.1 c (fun q => a (hm c q)) b, h.2.1, h.2.2⟩
theorem fW.ct {W : List Nat} {I I' : Nat → Nat → Int32} (h : fW W I I') {R S : Nat} {f g : Nat → Nat} (hI : cCt I R S f g) (hm : 6 ∉ W ∧ 7 ∉ W ∧ 8 ∉ W) : cCt I' R S f g := hI.congr (h.1 6 hm.1 rfl) (h.1 7 hm.2.1 rfl) (h.1 8 hm.2.2 rfl)
theorem fW.st {W : List Nat} {I I' : Nat → Nat → Int32} (h : fW W I I') {s p : Nat} {a : Nat → Nat} (hs : zS s) (hA : cSt I (s + 1) p a) (hm : s + 1 ∉ W) : cSt I' (s + 1) p a := hA.congr (h.1 (s + 1) hm (by rcases hs with rfl | rfl | rfl <;> rfl))
theorem fW.cs {W : List Nat} {I I' : Nat → Nat → Int32} (h : fW W I I') {q : Nat} {cs : List (Bool × Nat)} (hq : zQ q) (hr : cRu I q cs) (hm : q + 1 ∉ W) : cRu I' q cs := by
  obtain ⟨r1, r2, r3, r4⟩ := hr
  rcases hq with rfl | rfl
  · exact ⟨by rw [h.2.1 2 (by omega)]; exact r1, r2, r3, fun i e he => by rw [h.1 (30 + 1) hm rfl]; exact r4 i e he⟩
  · exact ⟨by rw [h.2.2 2 (by omega)]; exact r1, r2, r3, fun i e he => by rw [h.1 (33 + 1) hm rfl]; exact r4 i e he⟩
theorem fW.up {W : List Nat} {I : Nat → Nat → Int32} {c k : Nat} {v : Int32} (hm : c ∈ W) (h1 : c ≠ 30) (h2 : c ≠ 33) : fW W I (zup I c k v) := ⟨fun b a _ => zup_ne _ _ _ (fun q => a (q ▸ hm)), fun _ _ => by rw [zup_ne _ _ _ (Ne.symm h1)], fun _ _ => by rw [zup_ne _ _ _ (Ne.symm h2)]⟩
theorem fW.row {W : List Nat} {I : Nat → Nat → Int32} {c : Nat} {r : Nat → Int32} (hm : c ∈ W) (h1 : c ≠ 30) (h2 : c ≠ 33) : fW W I (zrow I c r) := ⟨fun b a _ => zrow_ne _ _ (fun q => a (q ▸ hm)), fun _ _ => by rw [zrow_ne _ _ (Ne.symm h1)], fun _ _ => by rw [zrow_ne _ _ (Ne.symm h2)]⟩
theorem fP.W {W : List Nat} {I I' : Nat → Nat → Int32} (h : fP I I') : fW W I I' := ⟨fun c _ b => h c (scr_n b), fun k _ => by rw [h 30 (by omega)], fun k _ => by rw [h 33 (by omega)]⟩
theorem fS.W {W : List Nat} {s : Nat} (hs : zS s) {I I' : Nat → Nat → Int32} (h : fS s I I') (hm : s + 1 ∈ W) : fW W I I' := ⟨fun c a b => h c (fun q => a (q ▸ hm)) (scr_n b), fun k _ => by rw [h 30 (by rcases hs with rfl | rfl | rfl <;> omega) (by omega)], fun k _ => by rw [h 33 (by rcases hs with rfl | rfl | rfl <;> omega) (by omega)]⟩
theorem fR.W {W : List Nat} {q : Nat} (hq : zQ q) {I I' : Nat → Nat → Int32} (h : fR q I I') : fW W I I' := by
  rcases hq with rfl | rfl
  · exact ⟨fun c _ b => h.1 c (fun e => by rw [e] at b; exact absurd b (by decide)) (fun e => by rw [e] at b; exact absurd b (by decide)), h.2, fun k _ => by rw [h.1 33 (by omega) (by omega)]⟩
  · exact ⟨fun c _ b => h.1 c (fun e => by rw [e] at b; exact absurd b (by decide)) (fun e => by rw [e] at b; exact absurd b (by decide)), fun k _ => by rw [h.1 30 (by omega) (by omega)], h.2⟩
theorem zS.n {s : Nat} (hs : zS s) : s + 1 ≠ 30 ∧ s + 1 ≠ 33 ∧ 6 ∉ [s + 1] ∧ 7 ∉ [s + 1] ∧ 8 ∉ [s + 1] ∧ 31 ∉ [s + 1] ∧ 34 ∉ [s + 1] := by rcases hs with rfl | rfl | rfl <;> decide
theorem zQ.n {s q : Nat} (hs : zS s) (hq : zQ q) : q + 1 ∉ [s + 1] := by rcases hs with rfl | rfl | rfl <;> rcases hq with rfl | rfl <;> decide
theorem fW.ctS {s : Nat} (hs : zS s) {I I' : Nat → Nat → Int32} (h : fW [s + 1] I I') {R S : Nat} {f g : Nat → Nat} (hI : cCt I R S f g) : cCt I' R S f g := h.ct hI ⟨hs.n.2.2.1, hs.n.2.2.2.1, hs.n.2.2.2.2.1⟩
theorem goR_25 (S : Nat) (a : Nat → Nat) {q k : Nat} (hk : k ≠ 8 + q) (hk2 : k ≠ 20 + q) : goR S a q k = a k := by
  unfold goR
  split
  · rw [zset_ne _ _ hk]
  · rw [zset_ne _ _ hk, zset_ne _ _ hk2, zset_ne _ _ hk]
theorem nxt_lt {p : Nat} {a : Nat → Nat} (hp : 0 < p) : nxt p a < p := by unfold nxt; split <;> omega
theorem zWf.t {p S T : Nat} {a : Nat → Nat} (hw : zWf p S T a) (hp : 0 < p) : a 24 < p := by rcases hw.2.2.2.1 with h | h <;> omega
theorem thr_wf {R S : Nat} {f g : Nat → Nat} (hc : zCt R S f g) {p T : Nat} {a : Nat → Nat} (hw : zWf p S T a) (hp : 0 < p) (hT : T + 1 < 2 ^ 24) (cs : List (Bool × Nat)) : zWf p S (T + 1) (thr R S f g cs p a) := by
  have h24 := hw.t hp
  have h25 := hw.2.2.2.2.1
  unfold thr
  split
  · exact (goR_wf hc hw h24).thrown (by omega) hT
  · exact ((hw.fault h24 (Nat.min_le_left _ _)).turn (nxt_lt hp)).thrown (by omega) hT
theorem thr_25 (R S : Nat) (f g : Nat → Nat) (cs : List (Bool × Nat)) (p : Nat) (a : Nat → Nat) : thr R S f g cs p a 25 = a 25 + 1 := by unfold thr; split <;> exact zset_self _ _ _
theorem s86t {d : Nat} {s p : Nat} {a : Nat → Nat} (hs : zS s) (hA : cSt I (s + 1) p a) {q t v : Nat} {w : Value} (hq : zQ q) (hv : v ≤ 1) : res d 86 37 [.ref s, .ref q, .int (nI t), .int (nI v)] [] (I, L, rR ru dr sr rd rl, 65, x) = some (some (.int (nI v)), (zup I (s + 1) 2 (nI (a 25 + 1)), L, rR ru dr sr rd rl, 65, x)) := by
  have e := hA 2 (by omega)
  rw [e86_37 hs hq, if_pos (ak_s hs (by omega)), if_pos (ak_s hs (by omega)), show (nI 2).toNatClampNeg = 2 from rfl, e, show cv p a 2 = a 25 from rfl, nI_add, if_pos (by rcases Nat.le_one_iff_eq_zero_or_eq_one.mp hv with rfl | rfl <;> rfl)]
theorem s86f {R S d : Nat} {f g : Nat → Nat} (hc : zCt R S f g) (hI : cCt I R S f g) {s p : Nat} {a : Nat → Nat} (hs : zS s) (hA : cSt I (s + 1) p a) {T : Nat} (hw : zWf p S T a) {q : Nat} {w : Value} (hq : zQ q) (hp : 0 < p) : ∃ I', res d 86 20 [.ref s, .ref q, .int (nI (a 24)), w] [.int (nI 0)] (I, L, rR ru dr sr rd rl, 65, x) = some (some (.int (nI 0)), (I', L, rR ru dr sr rd rl, 65, x)) ∧ cSt I' (s + 1) p (zset (zset (zset a (16 + a 24) (min 99 (a (16 + a 24) + 1))) 24 (nxt p a)) 25 (a 25 + 1)) ∧ fW [s + 1] I I' := by
  have hp4 := hw.1
  have h24 := hw.t hp
  have hA2 := hA.put (k := 19 + a 24) (v := min 99 (a (16 + a 24) + 1)) (by omega) (by omega)
  rw [cx_19] at hA2
  have e24 : zset a (16 + a 24) (min 99 (a (16 + a 24) + 1)) 24 = a 24 := zset_ne _ _ (by omega)
  have enx : nxt p (zset a (16 + a 24) (min 99 (a (16 + a 24) + 1))) = nxt p a := by unfold nxt; rw [e24]
  have hA3 := hA2.put (k := 1) (v := nxt p a) (by omega) (by omega)
  have hA4 := hA3.put (k := 2) (v := a 25 + 1) (by omega) (by omega)
  have e25 : zset (zset a (16 + a 24) (min 99 (a (16 + a 24) + 1))) (cx 1) (nxt p a) 25 = a 25 := by rw [zset_ne _ _ (by decide), zset_ne _ _ (by omega)]
  have hf := (hw.2.1 (a 24) (by omega)).2.2.2.2.1
  refine ⟨_, ?_, hA4, ((fW.up (List.mem_singleton.mpr rfl) hs.n.1 hs.n.2.1).tr (fW.up (List.mem_singleton.mpr rfl) hs.n.1 hs.n.2.1)).tr (fW.up (List.mem_singleton.mpr rfl) hs.n.1 hs.n.2.1)⟩
  have e88 := s88 (d := d) (L := L) (ru := ru) (dr := dr) (sr := sr) (rd := rd) (rl := rl) (x := x) hs hA2 hp4 (by rw [e24]; omega)
  rw [enx] at e88
  rw [e86_20 hs hq, if_pos (show nI 0 = 0 from rfl), s72 hs hA (by omega), bI_i, cv_19, e86_31 hs hq hs, nI_add, zmin_n (by omega) (by omega), s73 hs (by omega), bV_n, e86_35 hs hq, e88, bV_n]
  have := s86t (d := d) (t := a 24) (L := L) (ru := ru) (dr := dr) (sr := sr) (rd := rd) (rl := rl) (x := x) (w := w) hs hA3 hq (Nat.zero_le 1)
  rw [e25] at this
  exact this
theorem s86 {R S d : Nat} {f g : Nat → Nat} (hc : zCt R S f g) (hI : cCt I R S f g) {s p : Nat} {a : Nat → Nat} (hs : zS s) (hA : cSt I (s + 1) p a) {T : Nat} (hw : zWf p S T a) {q : Nat} {cs : List (Bool × Nat)} (hq : zQ q) (hp : 0 < p) (hR : cRu I q cs) : ∃ I', cal d 86 [.ref s, .ref q] (I, L, rR ru dr sr rd rl, 65, x) = some (some (.int (nI (if thb R S f g cs a = true then 1 else 0))), (I', L, rR ru dr sr rd rl, 65, x)) ∧ cSt I' (s + 1) p (thr R S f g cs p a) ∧ fW [s + 1] I I' := by
  have hp4 := hw.1
  have h24 := hw.t hp
  obtain ⟨I1, e1, f1⟩ := s51 (d := d) (L := L) (ru := ru) (dr := dr) (sr := sr) (rd := rd) (rl := rl) (x := x) hc hI hs hA hw (m := a 24) hq (by omega) hR
  have hI1 := f1.ct hq hI
  have hA1 := f1.st hq hs hA
  have e0 : cal d 86 [.ref s, .ref q] (I, L, rR ru dr sr rd rl, 65, x) = res d 86 12 [.ref s, .ref q, .int (nI (a 24)), .null] [.int (ofv (fun c => nI (th S g a (a 24) c)) cs)] (I1, L, rR ru dr sr rd rl, 65, x) := by
    rw [k86 hs hq, s68 hs hA, bI_i, e86_2 hs hq, if_neg (by rw [nI_z (by omega)]; omega), s69 hs hA, bI_i, e86_7 hs hq, e1, bI_i]
  rw [e0, e86_12 hs hq]
  unfold thr thb
  by_cases z : ofv (fun c => nI (th S g a (a 24) c)) cs = 0
  · rw [if_pos z, decide_eq_true z, Bool.true_and]
    obtain ⟨I2, e2, hA2, f2⟩ := s87 (d := d) (L := L) (ru := ru) (dr := dr) (sr := sr) (rd := rd) (rl := rl) (x := x) hc hI1 hs hA1 hw (q := a 24) h24
    rw [e2, bI_i]
    have f3 : fW [s + 1] I I2 := (f1.W hq).tr (f2.W hs (List.mem_singleton.mpr rfl))
    cases y : rgt R S f a (a 24) with
    | true =>
      rw [y] at hA2
      rw [if_pos rfl] at hA2 ⊢
      rw [if_pos rfl]
      have hA4 := hA2.put (k := 2) (v := a 25 + 1) (by omega) (by omega)
      refine ⟨_, ?_, hA4, f3.tr (fW.up (List.mem_singleton.mpr rfl) hs.n.1 hs.n.2.1)⟩
      have := s86t (d := d) (t := a 24) (L := L) (ru := ru) (dr := dr) (sr := sr) (rd := rd) (rl := rl) (x := x) (w := .null) hs hA2 hq (Nat.le_refl 1)
      rw [goR_25 _ _ (by omega) (by omega)] at this
      rw [e86_16 hs hq, if_neg (by decide), e86_20 hs hq, if_neg (by decide)]
      exact this
    | false =>
      rw [y] at hA2
      rw [if_neg (by decide)] at hA2 ⊢
      rw [if_neg (by decide)]
      obtain ⟨I3, e3, hA3, f4⟩ := s86f (d := d) (w := .null) (L := L) (ru := ru) (dr := dr) (sr := sr) (rd := rd) (rl := rl) (x := x) hc (f2.ct hs hI1) hs hA2 hw hq hp
      exact ⟨I3, by rw [e86_16 hs hq, if_pos (show nI 0 = 0 from rfl), e86_19 hs hq]; exact e3, hA3, f3.tr f4⟩
  · rw [if_neg z, decide_eq_false z, Bool.false_and, if_neg (by decide), if_neg (by decide)]
    obtain ⟨I3, e3, hA3, f4⟩ := s86f (d := d) (w := .null) (L := L) (ru := ru) (dr := dr) (sr := sr) (rd := rd) (rl := rl) (x := x) hc hI1 hs hA1 hw hq hp
    exact ⟨I3, by rw [e86_19 hs hq]; exact e3, hA3, (f1.W hq).tr f4⟩
/-- n throws, and how many of them are right -/
def tn (R S : Nat) (f g : Nat → Nat) (cs : List (Bool × Nat)) (p : Nat) : Nat → (Nat → Nat) → Nat → Nat
  | 0, a => a
  | n + 1, a => tn R S f g cs p n (thr R S f g cs p a)
def tc (R S : Nat) (f g : Nat → Nat) (cs : List (Bool × Nat)) (p : Nat) : Nat → (Nat → Nat) → Nat
  | 0, _ => 0
  | n + 1, a => (if thb R S f g cs a = true then 1 else 0) + tc R S f g cs p n (thr R S f g cs p a)
theorem tc_le (R S : Nat) (f g : Nat → Nat) (cs : List (Bool × Nat)) (p : Nat) : ∀ n a, tc R S f g cs p n a ≤ n
  | 0, _ => Nat.le_refl 0
  | n + 1, a => by
    have := tc_le R S f g cs p n (thr R S f g cs p a)
    unfold tc
    split <;> omega
theorem tn_wf {R S : Nat} {f g : Nat → Nat} (hc : zCt R S f g) {p : Nat} (hp : 0 < p) (cs : List (Bool × Nat)) : ∀ n T (a : Nat → Nat), zWf p S T a → T + n < 2 ^ 24 → zWf p S (T + n) (tn R S f g cs p n a)
  | 0, _, _, hw, _ => hw
  | n + 1, T, a, hw, h => by
    have := tn_wf hc hp cs n (T + 1) _ (thr_wf hc hw hp (by omega) cs) (by omega)
    rw [show T + (n + 1) = T + 1 + n by omega]
    exact this
theorem l167 {d R S : Nat} {f g : Nat → Nat} (hc : zCt R S f g) {s q p N : Nat} {cs : List (Bool × Nat)} (hs : zS s) (hq : zQ q) (hp : 0 < p) (hN : N < 1000) : ∀ n T v c (a : Nat → Nat) (I : Nat → Nat → Int32), v + n = N → c ≤ v → zWf p S T a → T + n < 2 ^ 24 → cCt I R S f g → cSt I (s + 1) p a → cRu I q cs → ∃ I', res d 167 4 [.ref s, .ref q, .int (nI N), .int (nI c), .int (nI v)] [] (I, L, rR ru dr sr rd rl, 65, x) = some (some (.int (nI (c + tc R S f g cs p n a))), (I', L, rR ru dr sr rd rl, 65, x)) ∧ cSt I' (s + 1) p (tn R S f g cs p n a) ∧ fW [s + 1] I I'
  | 0, T, v, c, a, I, hv, hcv, hw, hT, hI, hA, hR => by
    refine ⟨I, ?_, hA, fW.rf⟩
    rw [l167_4 hs hq, if_pos (by rw [nI_leI (by omega) (by omega)]; omega)]
    rfl
  | n + 1, T, v, c, a, I, hv, hcv, hw, hT, hI, hA, hR => by
    obtain ⟨I1, e1, hA1, f1⟩ := s86 (d := d) (L := L) (ru := ru) (dr := dr) (sr := sr) (rd := rd) (rl := rl) (x := x) hc hI hs hA hw hq hp hR
    have hR1 := f1.cs hq hR (zQ.n hs hq)
    have hI1 := f1.ctS hs hI
    rw [l167_4 hs hq, if_neg (by rw [nI_leI (by omega) (by omega)]; omega), e1, bI_i, e167_11 hs hq]
    unfold tc tn
    cases y : thb R S f g cs a with
    | true =>
      obtain ⟨I2, e2, hA2, f2⟩ := l167 hc hs hq hp hN n (T + 1) (v + 1) (c + 1) _ I1 (by omega) (by omega) (thr_wf hc hw hp (by omega) cs) (by omega) hI1 hA1 hR1
      refine ⟨I2, ?_, hA2, f1.tr f2⟩
      rw [if_pos rfl, if_neg (by decide), nI_add, nI_add, e2, Nat.add_assoc]
    | false =>
      obtain ⟨I2, e2, hA2, f2⟩ := l167 hc hs hq hp hN n (T + 1) (v + 1) c _ I1 (by omega) (by omega) (thr_wf hc hw hp (by omega) cs) (by omega) hI1 hA1 hR1
      refine ⟨I2, ?_, hA2, f1.tr f2⟩
      rw [if_neg Bool.false_ne_true, if_pos (show nI 0 = 0 from rfl), nI_add, nI_add, Nat.add_zero, e2, Nat.zero_add]
theorem s167 {R S d : Nat} {f g : Nat → Nat} (hc : zCt R S f g) (hI : cCt I R S f g) {s p : Nat} {a : Nat → Nat} (hs : zS s) (hA : cSt I (s + 1) p a) {T : Nat} (hw : zWf p S T a) {q n : Nat} {cs : List (Bool × Nat)} (hq : zQ q) (hp : 0 < p) (hR : cRu I q cs) (hn : n < 1000) (hT : T + n < 2 ^ 24) : ∃ I', cal d 167 [.ref s, .ref q, .int (nI n)] (I, L, rR ru dr sr rd rl, 65, x) = some (some (.int (nI (tc R S f g cs p n a))), (I', L, rR ru dr sr rd rl, 65, x)) ∧ cSt I' (s + 1) p (tn R S f g cs p n a) ∧ fW [s + 1] I I' := by
  obtain ⟨I', e, h1, h2⟩ := l167 (d := d) (L := L) (ru := ru) (dr := dr) (sr := sr) (rd := rd) (rl := rl) (x := x) hc hs hq hp hn n T 0 0 a I (by omega) (by omega) hw hT hI hA hR
  exact ⟨I', by rw [k167 hs hq, e, Nat.zero_add], h1, h2⟩

end
