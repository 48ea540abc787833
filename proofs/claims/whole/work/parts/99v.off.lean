section
variable {I : Nat → Nat → Int32} {L : Nat → Nat → Int64} {ru dr : Nat} {sr : Nat → Option Nat} {rd : Option Nat} {rl x : Nat}

theorem nneg {c : Nat} (h0 : 0 < c) (h : c < 2 ^ 31) : -(nI c) < 0 := by
  rw [Int32.lt_iff_toInt_lt, fb_negI (by rw [nI_toInt h]; omega), nI_toInt h]
  show -(c : Int) < 0
  omega
theorem l51 {R S d : Nat} {f g : Nat → Nat} (hc : zCt R S f g) {s p q : Nat} {a : Nat → Nat} (hs : zS s) (hq : zQ q) {T : Nat} (hw : zWf p S T a) {m : Nat} (hm : m < 4) {cs : List (Bool × Nat)} : ∀ (rest : List (Bool × Nat)) (i : Nat) (st : List Int32) (I : Nat → Nat → Int32) (w4 w5 : Value), i + rest.length = cs.length → (∀ j e, rest[j]? = some e → cs[i + j]? = some e) → st.length ≤ i → cRu I q cs → cCt I R S f g → cSt I (s + 1) p a → I q 3 = nI st.length → sk (I (q + 2)) st →
    ∃ I', res d 51 5 [.ref q, .ref s, .int (nI m), .int (nI i), w4, w5] [] (I, L, rR ru dr sr rd rl, 65, x) = some (some (.int (zmax (-(nI 3)) (zmin (nI 3) (hd0 (rn (fun c => nI (th S g a m c)) rest st))))), (I', L, rR ru dr sr rd rl, 65, x)) ∧ fR q I I'
  | [], i, st, I, w4, w5, e, hr, hl, hR, hI, hA, h3, hk => by
    have e : i = cs.length := e
    have hl2 := hR.2.1
    obtain ⟨I1, e1, -, -, f1⟩ := s53 (d := d) (L := L) (ru := ru) (dr := dr) (sr := sr) (rd := rd) (rl := rl) (x := x) hq h3 hk (by omega)
    refine ⟨I1, ?_, f1⟩
    rw [l51_5 hq hs, hR.1, if_pos (nI_le (by omega) (by omega)), e51_58 hq hs, e1, bI_i, e51_62 hq hs]
    rfl
  | b :: rest, i, st, I, w4, w5, e, hr, hl, hR, hI, hA, h3, hk => by
    have e : i + (rest.length + 1) = cs.length := e
    have hl2 := hR.2.1
    have hb := hr 0 b rfl
    have hv := hR.2.2.2 i b hb
    have hok := hR.2.2.1 b (List.mem_of_getElem? hb)
    have hr2 : ∀ j e, rest[j]? = some e → cs[i + 1 + j]? = some e := fun j e h => by
      have := hr (j + 1) e (by rw [List.getElem?_cons_succ]; exact h)
      rw [show i + 1 + j = i + (j + 1) by omega]
      exact this
    rw [l51_5 hq hs, hR.1, if_neg (nI_ge (by omega) (by omega)), if_neg (nI_ge (by omega) (by omega)), if_pos (ak_q1 hq (by omega)), nI_clamp (by omega), hv]
    obtain ⟨k, n⟩ := b
    cases k with
    | true =>
      have hok : n < 1000 := hok
      obtain ⟨I1, e1, a1, a2, f1⟩ := s52 (d := d) (L := L) (ru := ru) (dr := dr) (sr := sr) (rd := rd) (rl := rl) (x := x) hq (v := nI n) h3 hk (by omega)
      obtain ⟨I', e2, f2⟩ := l51 (d := d) hc hs hq hw hm rest (i + 1) (nI n :: st) I1 (.int (nI n)) w5 (by omega) hr2 (by show st.length + 1 ≤ i + 1; omega) (f1.cs hR) (f1.ct hq hI) (f1.st hq hs hA) a1 a2
      refine ⟨I', ?_, f1.tr f2⟩
      rw [show stv (true, n) = nI n from rfl, if_neg (nI_pos (by omega)), e1, bV_n, e51_22 hq hs, e51_56 hq hs, nI_add]
      exact e2
    | false =>
      obtain ⟨hok1, hok2⟩ : 0 < n ∧ n < 128 := hok
      rw [show stv (false, n) = -(nI n) from rfl, if_pos (nneg hok1 (by omega)), Int32.neg_neg]
      cases z : isl n with
      | true =>
        obtain ⟨I1, e1, a1, a2, f1⟩ := s52 (d := d) (L := L) (ru := ru) (dr := dr) (sr := sr) (rd := rd) (rl := rl) (x := x) hq (v := nI (th S g a m n)) h3 hk (by omega)
        obtain ⟨I', e2, f2⟩ := l51 (d := d) hc hs hq hw hm rest (i + 1) (nI (th S g a m n) :: st) I1 (.int (-(nI n))) w5 (by omega) hr2 (by show st.length + 1 ≤ i + 1; omega) (f1.cs hR) (f1.ct hq hI) (f1.st hq hs hA) a1 a2
        refine ⟨I', ?_, f1.tr f2⟩
        rw [s50t z, bI_i, e51_26 hq hs, if_neg (by decide), Int32.neg_neg, s85 hc hI hs hA hw hm (of_decide_eq_true z), bI_i, e51_33 hq hs hq, e1, bV_n, e51_34 hq hs, e51_56 hq hs, nI_add, e2, rn, st1, z]
        rfl
      | false =>
        have hno : ∀ k, isl k = true → nI n ≠ nI k := fun k hk1 h => by
          have : k < 128 := by rcases of_decide_eq_true hk1 with h | h | h | h | h | h | h <;> omega
          rw [nI_eq (by omega) (by omega)] at h
          rw [h, hk1] at z
          cases z
        rw [s50f hno, bI_i, e51_26 hq hs, if_pos (show nI 0 = 0 from rfl), Int32.neg_neg]
        obtain ⟨I1, e1, a1, a2, f1⟩ := s53 (d := d) (L := L) (ru := ru) (dr := dr) (sr := sr) (rd := rd) (rl := rl) (x := x) hq h3 hk (by omega)
        have ht : st.tail.length ≤ st.length := by rw [List.length_tail]; omega
        have ht2 : st.tail.tail.length ≤ st.tail.length := by rw [List.length_tail]; omega
        by_cases y : n = 126
        · obtain ⟨I2, e2, b1, b2, f2⟩ := s52 (I := I1) (d := d) (L := L) (ru := ru) (dr := dr) (sr := sr) (rd := rd) (rl := rl) (x := x) hq (v := -(hd0 st)) a1 a2 (by omega)
          obtain ⟨I', e3, f3⟩ := l51 (d := d) hc hs hq hw hm rest (i + 1) (-(hd0 st) :: st.tail) I2 (.int (-(nI n))) w5 (by omega) hr2 (by show st.tail.length + 1 ≤ i + 1; omega) ((f1.tr f2).cs hR) ((f1.tr f2).ct hq hI) ((f1.tr f2).st hq hs hA) b1 b2
          refine ⟨I', ?_, (f1.tr f2).tr f3⟩
          rw [if_pos (by rw [y]), e1, bI_i, e51_42 hq hs hq, e2, bV_n, e51_44 hq hs, e51_56 hq hs, nI_add, e3, rn, st1, z, if_neg (by decide), if_pos y]
        · obtain ⟨I2, e2, b1, b2, f2⟩ := s53 (I := I1) (d := d) (L := L) (ru := ru) (dr := dr) (sr := sr) (rd := rd) (rl := rl) (x := x) hq a1 a2 (by omega)
          obtain ⟨I3, e3, c1, c2, f3⟩ := s52 (I := I2) (d := d) (L := L) (ru := ru) (dr := dr) (sr := sr) (rd := rd) (rl := rl) (x := x) hq (v := jn n (hd0 st.tail) (hd0 st)) b1 b2 (by omega)
          obtain ⟨I', e4, f4⟩ := l51 (d := d) hc hs hq hw hm rest (i + 1) (jn n (hd0 st.tail) (hd0 st) :: st.tail.tail) I3 (.int (-(nI n))) (.int (hd0 st)) (by omega) hr2 (by show st.tail.tail.length + 1 ≤ i + 1; omega) (((f1.tr f2).tr f3).cs hR) (((f1.tr f2).tr f3).ct hq hI) (((f1.tr f2).tr f3).st hq hs hA) c1 c2
          refine ⟨I', ?_, ((f1.tr f2).tr f3).tr f4⟩
          rw [if_neg (fun h => y ((nI_eq (by omega) (by omega)).mp h)), e1, bI_i, e51_47 hq hs, e2, bI_i, e51_53 hq hs hq, Int32.neg_neg, s54 hok2, bI_i, e51_55 hq hs hq, e3, bV_n, e51_56 hq hs, nI_add, e4, rn, st1, z, if_neg (by decide), if_neg y]
theorem s51 {R S d : Nat} {f g : Nat → Nat} (hc : zCt R S f g) (hI : cCt I R S f g) {s p : Nat} {a : Nat → Nat} (hs : zS s) (hA : cSt I (s + 1) p a) {T : Nat} (hw : zWf p S T a) {q m : Nat} (hq : zQ q) (hm : m < 4) {cs : List (Bool × Nat)} (hR : cRu I q cs) : ∃ I', cal d 51 [.ref q, .ref s, .int (nI m)] (I, L, rR ru dr sr rd rl, 65, x) = some (some (.int (ofv (fun c => nI (th S g a m c)) cs)), (I', L, rR ru dr sr rd rl, 65, x)) ∧ fR q I I' := by
  have f0 : fR q I (zup I q 3 (nI 0)) := ⟨fun c a b => zup_ne _ _ _ a, fun k a => by rw [zup_v, if_neg a]⟩
  obtain ⟨I', e, f1⟩ := l51 (d := d) (L := L) (ru := ru) (dr := dr) (sr := sr) (rd := rd) (rl := rl) (x := x) hc hs hq hw hm cs 0 [] (zup I q 3 (nI 0)) .null .null (by omega) (fun j e h => by rw [Nat.zero_add]; exact h) (Nat.le_refl 0) (f0.cs hR) (f0.ct hq hI) (f0.st hq hs hA) (by rw [zup_v, if_pos rfl]; rfl) trivial
  exact ⟨I', by rw [k51 hq hs]; exact e, f0.tr f1⟩

end
