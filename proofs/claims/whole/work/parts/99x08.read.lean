section
variable {I : Nat → Nat → Int32} {L : Nat → Nat → Int64} {ru dr : Nat} {sr : Nat → Option Nat} {rd : Option Nat} {rl x : Nat}

def rSt (I : Nat → Nat → Int32) (q : Nat) (s : zC) : Prop := I q 2 = nI s.length ∧ ∀ i e, s[i]? = some e → I (q + 1) i = stv e
def fQ (q : Nat) (I I' : Nat → Nat → Int32) : Prop := (∀ c, c ≠ q → c ≠ q + 1 → I' c = I c) ∧ ∀ k, k ≠ 2 → k ≠ 5 → I' q k = I q k
theorem fQ.rf {q : Nat} {I : Nat → Nat → Int32} : fQ q I I := ⟨fun _ _ _ => rfl, fun _ _ _ => rfl⟩
theorem fQ.tr {q : Nat} {I I1 I2 : Nat → Nat → Int32} (h : fQ q I I1) (h2 : fQ q I1 I2) : fQ q I I2 := ⟨fun c a b => (h2.1 c a b).trans (h.1 c a b), fun k a b => (h2.2 k a b).trans (h.2 k a b)⟩
theorem fQ.tx {q n : Nat} {t : Nat → Nat} {I I' : Nat → Nat → Int32} (hq : zQ q) (h : fQ q I I') (hT : cTx I n t) : cTx I' n t := by
  rcases hq with rfl | rfl <;> exact hT.congr (h.1 2 (by decide) (by decide)) (h.1 3 (by decide) (by decide))
theorem fQ.at5 {q : Nat} {v : Int32} {I : Nat → Nat → Int32} : fQ q I (zup I q 5 v) := ⟨fun c a _ => zup_ne _ _ _ a, fun k _ b => by rw [zup_v, if_neg b]⟩
def rPo (q : Nat) (I I' : Nat → Nat → Int32) (s0 : zC) (r : zR) : Prop := fQ q I I' ∧ I' q 5 = nI r.1 ∧ (∃ j, j ≤ 40 ∧ I' q 2 = nI j) ∧ ∀ s, r.2 = some s → rSt I' q (s0 ++ s)
theorem rPo.at5 {q k k' : Nat} {I I' : Nat → Nat → Int32} {s0 : zC} {o : Option zC} (h : rPo q I I' s0 (k, o)) : rPo q I (zup I' q 5 (nI k')) s0 (k', o) := by
  refine ⟨h.1.tr fQ.at5, by rw [zup_v, if_pos rfl], ?_, fun s e => ?_⟩
  · obtain ⟨j, hj, e⟩ := h.2.2.1
    exact ⟨j, hj, by rw [zup_v, if_neg (by decide)]; exact e⟩
  · obtain ⟨h1, h2⟩ := h.2.2.2 s e
    exact ⟨by rw [zup_v, if_neg (by decide)]; exact h1, fun i e' he => by rw [zup_ne _ _ _ (by omega)]; exact h2 i e' he⟩
def rok (r : zR) : Int32 := match r.2 with
  | none => nI 0
  | some _ => nI 1
theorem rok_n {r : zR} (h : r.2 = none) : rok r = nI 0 := by unfold rok; rw [h]
theorem rok_s {r : zR} {s : zC} (h : r.2 = some s) : rok r = nI 1 := by unfold rok; rw [h]
def rSp (L : Nat → Nat → Int64) (ru dr : Nat) (sr : Nat → Option Nat) (rd : Option Nat) (rl x n m : Nat) (t : Nat → Nat) (d q mid : Nat) (ar : List Value) (F : Nat → zR) : Prop := ∀ (I : Nat → Nat → Int32) (k : Nat) (s0 : zC), k ≤ m → s0.length ≤ k → cTx I n t → I q 5 = nI k → I q 6 = nI m → rSt I q s0 → (∃ j, j ≤ 40 ∧ I q 2 = nI j) → ∃ I', cal d mid ar (I, L, rR ru dr sr rd rl, 65, x) = some (some (.int (rok (F k))), (I', L, rR ru dr sr rd rl, 65, x)) ∧ rPo q I I' s0 (F k)
theorem sgn_eq {I : Nat → Nat → Int32} {t : Nat → Nat} {n m k c : Nat} (hm : m ≤ n) (hT : cTx I n t) (hc : c < 256) : sgn t m k = nI c ↔ cu t m k = c := by
  unfold sgn cu
  by_cases z : k < m
  · have := (hT.2.2 k (by omega)).2
    rw [if_pos z, if_pos z, nI_eq (by omega) (by omega)]
  · rw [if_neg z, if_neg z]
    refine ⟨fun q => ?_, fun q => by omega⟩
    have := (nI_m1 (show c < 2 ^ 31 by omega)).mp q.symm
    exact this.elim
theorem s42 {d q n m k : Nat} {t : Nat → Nat} (hq : zQ q) (hsr : sr q = some 2) (hm : m ≤ n) (hT : cTx I n t) (h5 : I q 5 = nI k) (h6 : I q 6 = nI m) (hk : k < 1000) : cal d 42 [.ref q] (I, L, rR ru dr sr rd rl, 65, x) = some (some (.int (sgn t m k)), (I, L, rR ru dr sr rd rl, 65, x)) := by
  rw [k42 hq, hsr]
  dsimp only
  rw [if_pos (show zrc 8 [Value.ref 2, Value.int (I q 5), Value.int (I q 6)] 65 = true from rfl), h5, h6, s98 hT hm hk, bI_i, e42_12 hq]
theorem s39 {d q : Nat} {v : Int32} (hq : zQ q) (hj : ∃ j, j ≤ 40 ∧ I q 2 = nI j) : ∃ I', cal d 39 [.ref q, .int v] (I, L, rR ru dr sr rd rl, 65, x) = some (none, (I', L, rR ru dr sr rd rl, 65, x)) ∧ fQ q I I' ∧ I' q 5 = I q 5 ∧ (∃ j, j ≤ 40 ∧ I' q 2 = nI j) ∧ ∀ (s0 : zC) e, v = stv e → rSt I q s0 → s0.length < 40 → rSt I' q (s0 ++ [e]) := by
  obtain ⟨j, hj, e⟩ := hj
  by_cases z : j < 40
  · refine ⟨zup (zup I (q + 1) j v) q 2 (nI (j + 1)), ?_, ⟨fun c a b => by rw [zup_ne _ _ _ a, zup_ne _ _ _ b], fun k a b => by rw [zup_v, if_neg a, zup_ne _ _ _ (by omega)]⟩, by rw [zup_v, if_neg (by decide), zup_ne _ _ _ (by omega)], ⟨j + 1, by omega, by rw [zup_v, if_pos rfl]⟩, fun s0 e' he hR hl => ?_⟩
    · rw [k39 hq, e, if_neg (by rw [nI_leI (by omega) (by omega)]; omega), if_pos (ak_q1 hq z), nI_clamp (by omega), nI_add]
    · have hjl : j = s0.length := by
        have := hR.1
        rw [e, nI_eq (by omega) (by omega)] at this
        exact this
      refine ⟨by rw [zup_v, if_pos rfl, List.length_append, hjl]; rfl, fun i e2 h2 => ?_⟩
      rw [zup_ne _ _ _ (by omega), zup_v]
      by_cases y : i = j
      · rw [if_pos y, he]
        rw [y, hjl, List.getElem?_append_right (Nat.le_refl _), Nat.sub_self] at h2
        cases h2
        rfl
      · have hlt : i < s0.length := by
          have := (List.getElem?_eq_some_iff.mp h2).1
          rw [List.length_append] at this
          have h1 : i < s0.length + 1 := this
          omega
        rw [if_neg y]
        rw [List.getElem?_append_left hlt] at h2
        exact hR.2 i e2 h2
  · refine ⟨I, ?_, fQ.rf, rfl, ⟨j, hj, e⟩, fun s0 e' he hR hl => ?_⟩
    · rw [k39 hq, e, if_pos (by rw [nI_leI (by omega) (by omega)]; omega)]
    · have := hR.1
      rw [e, nI_eq (by omega) (by omega)] at this
      omega
theorem s40 {d q c : Nat} (hq : zQ q) (hj : ∃ j, j ≤ 40 ∧ I q 2 = nI j) : ∃ I', cal d 40 [.ref q, .int (nI c)] (I, L, rR ru dr sr rd rl, 65, x) = some (none, (I', L, rR ru dr sr rd rl, 65, x)) ∧ fQ q I I' ∧ I' q 5 = I q 5 ∧ (∃ j, j ≤ 40 ∧ I' q 2 = nI j) ∧ ∀ s0, rSt I q s0 → s0.length < 40 → rSt I' q (s0 ++ [(false, c)]) := by
  obtain ⟨I', e, h1, h2, h3, h4⟩ := s39 (d := d) (v := -(nI c)) (L := L) (ru := ru) (dr := dr) (sr := sr) (rd := rd) (rl := rl) (x := x) hq hj
  exact ⟨I', by rw [k40 hq, e, bV_n, e40_4 hq], h1, h2, h3, fun s0 a b => h4 s0 (false, c) rfl a b⟩
def f5 (q : Nat) (I I' : Nat → Nat → Int32) : Prop := (∀ c, c ≠ q → I' c = I c) ∧ ∀ k, k ≠ 5 → I' q k = I q k
theorem f5.rf {q : Nat} {I : Nat → Nat → Int32} : f5 q I I := ⟨fun _ _ => rfl, fun _ _ => rfl⟩
theorem f5.tr {q : Nat} {I I1 I2 : Nat → Nat → Int32} (h : f5 q I I1) (h2 : f5 q I1 I2) : f5 q I I2 := ⟨fun c a => (h2.1 c a).trans (h.1 c a), fun k a => (h2.2 k a).trans (h.2 k a)⟩
theorem f5.up {q : Nat} {v : Int32} {I : Nat → Nat → Int32} : f5 q I (zup I q 5 v) := ⟨fun c a => zup_ne _ _ _ a, fun k b => by rw [zup_v, if_neg b]⟩
theorem f5.Q {q : Nat} {I I' : Nat → Nat → Int32} (h : f5 q I I') : fQ q I I' := ⟨fun c a _ => h.1 c a, fun k _ b => h.2 k b⟩
theorem f5.st {q : Nat} {s : zC} {I I' : Nat → Nat → Int32} (h : f5 q I I') (hR : rSt I q s) : rSt I' q s := ⟨by rw [h.2 2 (by decide)]; exact hR.1, fun i e he => by rw [h.1 (q + 1) (by omega)]; exact hR.2 i e he⟩
theorem f5.j {q : Nat} {I I' : Nat → Nat → Int32} (h : f5 q I I') (hj : ∃ j, j ≤ 40 ∧ I q 2 = nI j) : ∃ j, j ≤ 40 ∧ I' q 2 = nI j := by rw [h.2 2 (by decide)]; exact hj
theorem s158g {d n m k : Nat} {t : Nat → Nat} (hm : m ≤ n) (hT : cTx I n t) : cal d 158 [.int (sgn t m k)] (I, L, rR ru dr sr rd rl, 65, x) = some (some (.int (nI (if dgt (cu t m k) = true then 1 else 0))), (I, L, rR ru dr sr rd rl, 65, x)) := by
  unfold sgn cu
  by_cases z : k < m
  · rw [if_pos z, if_pos z, s158 (hT.2.2 k (by omega)).2]
  · rw [if_neg z, if_neg z, s158m]
    rfl
theorem l48 {d q n m : Nat} {t : Nat → Nat} (hq : zQ q) (hsr : sr q = some 2) (hm : m ≤ n) (hm4 : m ≤ 40) : ∀ j i k v (I : Nat → Nat → Int32), i + j = 3 → k ≤ m → cTx I n t → I q 5 = nI k → I q 6 = nI m → ∃ I' i', res d 48 4 [.ref q, .int (nI v), .int (nI i)] [] (I, L, rR ru dr sr rd rl, 65, x) = res d 48 28 [.ref q, .int (nI (pNm (cu t m) j k v).2), .int (nI i')] [] (I', L, rR ru dr sr rd rl, 65, x) ∧ I' q 5 = nI (pNm (cu t m) j k v).1 ∧ f5 q I I'
  | 0, i, k, v, I, hj, hk, hT, h5, h6 => ⟨I, i, by rw [l48_4 hq, if_pos (by rw [nI_leI (by omega) (by omega)]; omega)]; rfl, h5, f5.rf⟩
  | j + 1, i, k, v, I, hj, hk, hT, h5, h6 => by
    have e42 := s42 (d := d) (L := L) (ru := ru) (dr := dr) (sr := sr) (rd := rd) (rl := rl) (x := x) hq hsr hm hT h5 h6 (by omega)
    rw [l48_4 hq, if_neg (by rw [nI_leI (by omega) (by omega)]; omega), e42, bI_i, e48_9 hq, s158g hm hT, bI_i, e48_10 hq]
    unfold pNm
    cases z : dgt (cu t m k) with
    | false => exact ⟨I, i, by rw [if_neg Bool.false_ne_true, if_pos (show nI 0 = 0 from rfl), if_neg (by decide)], by rw [if_neg (by decide)]; exact h5, f5.rf⟩
    | true =>
      have hkm := dgt_lt z
      have hd := of_decide_eq_true z
      have ecu : sgn t m k = nI (cu t m k) := by unfold sgn cu; rw [if_pos hkm, if_pos hkm]
      obtain ⟨I', i', e', h', f'⟩ := l48 hq hsr hm hm4 j (i + 1) (k + 1) (10 * v + (cu t m k - 48)) (zup I q 5 (nI (k + 1))) (by omega) (by omega) (f5.up.Q.tx hq hT) (by rw [zup_v, if_pos rfl]) (by rw [zup_v, if_neg (by decide)]; exact h6)
      refine ⟨I', i', ?_, ?_, f5.up.tr f'⟩
      · rw [if_pos rfl, if_neg (by decide), e42, bI_i, e48_16 hq, ecu, zmul, nI_add, zsub (by omega), nI_add, h5, nI_add, show 10 * v + cu t m k - 48 = 10 * v + (cu t m k - 48) by omega, e', if_pos rfl]
      · rw [if_pos rfl]; exact h'
theorem s48 {d q n m k : Nat} {t : Nat → Nat} {s0 : zC} (hq : zQ q) (hsr : sr q = some 2) (hm : m ≤ n) (hm4 : m ≤ 40) (hk : k < m) (h0 : s0.length ≤ k) (hT : cTx I n t) (h5 : I q 5 = nI k) (h6 : I q 6 = nI m) (hR : rSt I q s0) (hj : ∃ j, j ≤ 40 ∧ I q 2 = nI j) : ∃ I', cal d 48 [.ref q] (I, L, rR ru dr sr rd rl, 65, x) = some (none, (I', L, rR ru dr sr rd rl, 65, x)) ∧ rPo q I I' s0 ((pNm (cu t m) 3 k 0).1, some [(true, (pNm (cu t m) 3 k 0).2)]) := by
  obtain ⟨I1, i', e1, h1, f1⟩ := l48 (d := d) (L := L) (ru := ru) (dr := dr) (sr := sr) (rd := rd) (rl := rl) (x := x) hq hsr hm hm4 3 0 k 0 I (by omega) (by omega) hT h5 h6
  obtain ⟨I2, e2, f2, g2, g3, g4⟩ := s39 (d := d) (v := nI (pNm (cu t m) 3 k 0).2) (L := L) (ru := ru) (dr := dr) (sr := sr) (rd := rd) (rl := rl) (x := x) hq (f1.j hj)
  refine ⟨I2, by rw [k48 hq, e1, e48_28 hq, e2, bV_n, e48_31 hq], f1.Q.tr f2, by rw [g2]; exact h1, g3, fun s e => ?_⟩
  cases e
  exact g4 s0 _ rfl (f1.st hR) (by omega)
theorem s50g {d n m k : Nat} {t : Nat → Nat} (hm : m ≤ n) (hT : cTx I n t) : cal d 50 [.int (sgn t m k)] (I, L, rR ru dr sr rd rl, 65, x) = some (some (.int (nI (if isl (cu t m k) = true then 1 else 0))), (I, L, rR ru dr sr rd rl, 65, x)) := by
  cases z : isl (cu t m k) with
  | true =>
    have hkm := isl_lt z
    have ecu : sgn t m k = nI (cu t m k) := by unfold sgn cu; rw [if_pos hkm, if_pos hkm]
    rw [ecu, s50t z, if_pos rfl]
  | false =>
    rw [s50f (fun j hj e => ?_), if_neg (by decide)]
    have h1 := of_decide_eq_true hj
    rw [sgn_eq hm hT (by omega)] at e
    rw [e, hj] at z
    cases z
theorem s47 {d q n m dep : Nat} {t : Nat → Nat} {E : Option (Nat → zR)} (hq : zQ q) (hsr : sr q = some 2) (hm : m ≤ n) (hm4 : m ≤ 40) (hE : (E = none ∧ dep = 4) ∨ ∃ F, E = some F ∧ dep < 4 ∧ Gd m F ∧ rSp L ru dr sr rd rl x n m t d q 43 [.ref q, .int (nI (dep + 1))] F) : rSp L ru dr sr rd rl x n m t (d + 1) q 47 [.ref q, .int (nI dep)] (pT (cu t m) E) := by
  intro I k s0 hk h0 hT h5 h6 hR hj
  have e42 := s42 (d := d + 1) (L := L) (ru := ru) (dr := dr) (sr := sr) (rd := rd) (rl := rl) (x := x) hq hsr hm hT h5 h6 (by omega)
  rw [k47 hq, e42, bI_i, e47_2 hq, s158g hm hT, bI_i, e47_5 hq]
  unfold pT
  cases z : dgt (cu t m k) with
  | true =>
    have hkm := dgt_lt z
    obtain ⟨I1, e1, p1⟩ := s48 (d := d + 1) (L := L) (ru := ru) (dr := dr) (sr := sr) (rd := rd) (rl := rl) (x := x) hq hsr hm hm4 hkm h0 hT h5 h6 hR hj
    refine ⟨I1, ?_, ?_⟩
    · rw [if_pos rfl, if_neg (by decide), e1, bV_n, e47_8 hq, if_pos zb1, if_pos rfl]; rfl
    · rw [if_pos rfl]; exact p1
  | false =>
    rw [if_neg Bool.false_ne_true, if_pos (show nI 0 = 0 from rfl)]
    rw [if_neg (show ¬ false = true by decide)]
    by_cases y : cu t m k = 40
    · rw [if_pos y, if_pos ((sgn_eq hm hT (by decide)).mpr y)]
      have hkm := cu_lt y (by decide)
      rw [k49 hq]
      rcases hE with ⟨rfl, rfl⟩ | ⟨F, rfl, hdep, hF, hS⟩
      · refine ⟨I, ?_, fQ.rf, h5, hj, fun s e => by cases e⟩
        rw [if_neg (by decide), if_pos zb0, bI_i, e47_16 hq, if_pos zb0]
        rfl
      · have f1 : f5 q I (zup I q 5 (nI (k + 1))) := f5.up
        obtain ⟨I2, e2, p2⟩ := hS (zup I q 5 (nI (k + 1))) (k + 1) s0 (by omega) (by omega) (f1.Q.tx hq hT) (by rw [zup_v, if_pos rfl]) (by rw [zup_v, if_neg (by decide)]; exact h6) (f1.st hR) (f1.j hj)
        obtain ⟨g1, g2, g3⟩ := hF (k + 1) (by omega)
        rw [if_pos (by rw [nI_ltI (by omega) (by omega)]; omega), nI_add, h5, nI_add, e2, bI_i, e49_16 hq]
        dsimp only
        unfold pBr
        cases w : (F (k + 1)).2 with
        | none =>
          refine ⟨I2, ?_, f1.Q.tr p2.1, p2.2.1, p2.2.2.1, fun s e => by cases e⟩
          rw [rok_n w, if_pos (show nI 0 = 0 from rfl), if_pos zb0, bI_i, e47_16 hq, if_pos zb0]
          rfl
        | some s =>
          have hT2 := (f1.Q.tr p2.1).tx hq hT
          have h62 : I2 q 6 = nI m := by rw [(f1.Q.tr p2.1).2 6 (by decide) (by decide)]; exact h6
          have e43 := s42 (d := d + 1) (L := L) (ru := ru) (dr := dr) (sr := sr) (rd := rd) (rl := rl) (x := x) hq hsr hm hT2 p2.2.1 h62 (by omega)
          rw [rok_s w, if_neg (by decide), e43, bI_i, e49_19 hq]
          dsimp only
          by_cases v : cu t m (F (k + 1)).1 = 41
          · rw [if_pos v, if_pos ((sgn_eq hm hT2 (by decide)).mpr v), if_pos zb1, bI_i, e47_16 hq, if_pos zb1, p2.2.1, nI_add]
            have p3 : rPo q I I2 s0 ((F (k + 1)).1, some s) := ⟨f1.Q.tr p2.1, p2.2.1, p2.2.2.1, fun s' e => by cases e; exact p2.2.2.2 s w⟩
            exact ⟨_, rfl, p3.at5⟩
          · rw [if_neg v, if_neg (fun u => v ((sgn_eq hm hT2 (by decide)).mp u)), if_pos zb0, bI_i, e47_16 hq, if_pos zb0]
            exact ⟨I2, rfl, f1.Q.tr p2.1, p2.2.1, p2.2.2.1, fun s e => by cases e⟩
    · rw [if_neg y, if_neg (fun u => y ((sgn_eq hm hT (by decide)).mp u)), s50g hm hT, bI_i, e47_19 hq]
      cases w : isl (cu t m k) with
      | false =>
        rw [if_neg Bool.false_ne_true, if_pos (show nI 0 = 0 from rfl), if_pos zb0]
        rw [if_neg (by decide)]
        exact ⟨I, rfl, fQ.rf, h5, hj, fun s e => by cases e⟩
      | true =>
        have hkm := isl_lt w
        have ecu : sgn t m k = nI (cu t m k) := by unfold sgn cu; rw [if_pos hkm, if_pos hkm]
        obtain ⟨I3, e3, f3, g3, g4, g5⟩ := s40 (d := d + 1) (c := cu t m k) (L := L) (ru := ru) (dr := dr) (sr := sr) (rd := rd) (rl := rl) (x := x) hq hj
        rw [if_pos rfl, if_neg (by decide), ecu, e3, bV_n, e47_25 hq, if_pos zb1, g3, h5, nI_add]
        rw [if_pos rfl]
        have p3 : rPo q I I3 s0 (k, some [(false, cu t m k)]) := ⟨f3, by rw [g3]; exact h5, g4, fun s' e => by cases e; exact g5 s0 hR (by omega)⟩
        exact ⟨_, rfl, p3.at5⟩
theorem l46 {d q n m : Nat} {t : Nat → Nat} {v : Int32} (hq : zQ q) (hsr : sr q = some 2) (hm : m ≤ n) (hm4 : m ≤ 40) : ∀ j k (b : Bool) (I : Nat → Nat → Int32), m ≤ k + j → k ≤ m → cTx I n t → I q 5 = nI k → I q 6 = nI m → ∃ I', res d 46 2 [.ref q, .int v, .int (nI (if b = true then 1 else 0))] [] (I, L, rR ru dr sr rd rl, 65, x) = res d 46 24 [.ref q, .int v, .int (nI (if (pMn (cu t m) j k b).2 = true then 1 else 0))] [] (I', L, rR ru dr sr rd rl, 65, x) ∧ I' q 5 = nI (pMn (cu t m) j k b).1 ∧ f5 q I I'
  | 0, k, b, I, hj, hk, hT, h5, h6 => ⟨I, by rw [l46_2 hq, h6, h5, if_pos (by rw [nI_leI (by omega) (by omega)]; omega)]; rfl, h5, f5.rf⟩
  | j + 1, k, b, I, hj, hk, hT, h5, h6 => by
    unfold pMn
    by_cases hkm : k < m
    · have e42 := s42 (d := d) (L := L) (ru := ru) (dr := dr) (sr := sr) (rd := rd) (rl := rl) (x := x) hq hsr hm hT h5 h6 (by omega)
      rw [l46_2 hq, h6, h5, if_neg (by rw [nI_leI (by omega) (by omega)]; omega), e42, bI_i, e46_9 hq]
      by_cases z : cu t m k = 45
      · obtain ⟨I', e', h', f'⟩ := l46 (d := d) (v := v) hq hsr hm hm4 j (k + 1) (!b) (zup I q 5 (nI (k + 1))) (by omega) (by omega) (f5.up.Q.tx hq hT) (by rw [zup_v, if_pos rfl]) (by rw [zup_v, if_neg (by decide)]; exact h6)
        rw [if_pos z]
        refine ⟨I', ?_, h', f5.up.tr f'⟩
        rw [if_pos ((sgn_eq hm hT (by decide)).mpr z), h5, nI_add]
        cases b with
        | true => rw [if_pos rfl, if_neg (by decide)]; exact e'
        | false => rw [if_neg Bool.false_ne_true, if_pos (show nI 0 = 0 from rfl)]; exact e'
      · rw [if_neg z]
        exact ⟨I, by rw [if_neg (fun u => z ((sgn_eq hm hT (by decide)).mp u))], h5, f5.rf⟩
    · rw [if_neg (show ¬ cu t m k = 45 by rw [cu_m (by omega)]; decide)]
      exact ⟨I, by rw [l46_2 hq, h6, h5, if_pos (by rw [nI_leI (by omega) (by omega)]; omega)], h5, f5.rf⟩
theorem s46 {d q n m : Nat} {t : Nat → Nat} {F : Nat → zR} {vv : Int32} (hq : zQ q) (hsr : sr q = some 2) (hm : m ≤ n) (hm4 : m ≤ 40) (hF : Gd m F) (hS : rSp L ru dr sr rd rl x n m t d q 47 [.ref q, .int vv] F) : rSp L ru dr sr rd rl x n m t d q 46 [.ref q, .int vv] (pU (cu t m) m F) := by
  intro I k s0 hk h0 hT h5 h6 hR hj
  obtain ⟨I1, e1, h1, f1⟩ := l46 (d := d) (v := vv) (L := L) (ru := ru) (dr := dr) (sr := sr) (rd := rd) (rl := rl) (x := x) hq hsr hm hm4 (m - k) k false I (by omega) hk hT h5 h6
  obtain ⟨i1, i2, i3⟩ := pMn_g (t := t) (m - k) k false hk
  obtain ⟨g1, g2, g3⟩ := hF _ i2
  obtain ⟨I2, e2, p2⟩ := hS I1 (pMn (cu t m) (m - k) k false).1 s0 i2 (by omega) (f1.Q.tx hq hT) h1 (by rw [f1.2 6 (by decide)]; exact h6) (f1.st hR) (f1.j hj)
  rw [k46 hq]
  rw [if_neg (by decide)] at e1
  rw [e1, e46_24 hq, e2, bI_i, e46_27 hq]
  unfold pU
  cases y : (F (pMn (cu t m) (m - k) k false).1).2 with
  | none =>
    refine ⟨I2, ?_, f1.Q.tr p2.1, p2.2.1, p2.2.2.1, fun s e => by cases e⟩
    rw [rok_n y, if_pos (show nI 0 = 0 from rfl), if_pos zb0]
    rfl
  | some s =>
    obtain ⟨g4, g5⟩ := g3 s y
    rw [rok_s y, if_neg (by decide)]
    dsimp only
    by_cases z : (pMn (cu t m) (m - k) k false).2 = true
    · obtain ⟨I3, e3, f3, j3, j4, j5⟩ := s40 (d := d) (c := 126) (L := L) (ru := ru) (dr := dr) (sr := sr) (rd := rd) (rl := rl) (x := x) hq p2.2.2.1
      have := i3 (by rw [z]; decide)
      have := g5.1
      refine ⟨I3, ?_, (f1.Q.tr p2.1).tr f3, by rw [j3]; exact p2.2.1, j4, fun s' e => ?_⟩
      · rw [if_pos z, if_neg (by decide), e3, bV_n, e46_35 hq, if_pos zb1]
        rfl
      · rw [if_pos z] at e
        cases e
        rw [← List.append_assoc]
        exact j5 _ (p2.2.2.2 s y) (by rw [List.length_append]; omega)
    · refine ⟨I2, ?_, f1.Q.tr p2.1, p2.2.1, p2.2.2.1, fun s' e => ?_⟩
      · rw [if_neg z, if_pos (show nI 0 = 0 from rfl), e46_35 hq, if_pos zb1]
        rfl
      · rw [if_neg z] at e
        cases e
        exact p2.2.2.2 s y

theorem l44 {d q n m k0 : Nat} {t : Nat → Nat} {V : Value} {F : Nat → zR} (hq : zQ q) (hsr : sr q = some 2) (hm : m ≤ n) (hm4 : m ≤ 40) (hF : Gd m F) (hS : rSp L ru dr sr rd rl x n m t d q 45 [.ref q, V] F) {vv : Int32} (hV : V = .int vv) : ∀ j k (I0 I : Nat → Nat → Int32) (s0 s : zC) (w3 : Value), m ≤ k + j → k ≤ m → s0.length ≤ k0 → k0 < k → gS (k - k0) s → cTx I n t → I q 6 = nI m → rPo q I0 I s0 (k, some s) → ∃ I', res d 44 4 [.ref q, V, .int (nI 1), w3] [] (I, L, rR ru dr sr rd rl, 65, x) = some (some (.int (rok (pLp 43 45 (cu t m) F j k s))), (I', L, rR ru dr sr rd rl, 65, x)) ∧ rPo q I0 I' s0 (pLp 43 45 (cu t m) F j k s)
  | 0, k, I0, I, s0, s, w3, hj, hk, h0, hk0, hs, hT, h6, hP => by
    subst hV
    refine ⟨I, ?_, hP⟩
    rw [l44_4 hq, if_neg (by decide), h6, hP.2.1, if_pos (by rw [nI_leI (by omega) (by show k < _; omega)]; show m ≤ k; omega), if_pos zb1]
    rfl
  | j + 1, k, I0, I, s0, s, w3, hj, hk, h0, hk0, hs, hT, h6, hP => by
    subst hV
    have h5 : I q 5 = nI k := hP.2.1
    unfold pLp
    by_cases hkm : k < m
    · have e42 := s42 (d := d) (L := L) (ru := ru) (dr := dr) (sr := sr) (rd := rd) (rl := rl) (x := x) hq hsr hm hT h5 h6 (by omega)
      rw [l44_4 hq, if_neg (by decide), h6, h5, if_neg (by rw [nI_leI (by omega) (by omega)]; omega), e42, bI_i, e44_13 hq]
      by_cases z : cu t m k = 43 ∨ cu t m k = 45
      · rw [if_pos z]
        have e0 : (if sgn t m k = nI 43 then res d 44 19 [.ref q, .int vv, .int (nI 1), w3] [] (I, L, rR ru dr sr rd rl, 65, x) else bI (cal d 42 [.ref q] (I, L, rR ru dr sr rd rl, 65, x)) fun r1 h1 => res d 44 17 [.ref q, .int vv, .int (nI 1), w3] [.int r1] h1) = res d 44 19 [.ref q, .int vv, .int (nI 1), w3] [] (I, L, rR ru dr sr rd rl, 65, x) := by
          rcases z with z | z
          · rw [if_pos ((sgn_eq hm hT (by decide)).mpr z)]
          · rw [if_neg (fun y => by rw [sgn_eq hm hT (by decide), z] at y; exact absurd y (by decide)), e42, bI_i, e44_17 hq, if_pos ((sgn_eq hm hT (by decide)).mpr z)]
        rw [e0, e44_19 hq, e42, bI_i, e44_21 hq, h5, nI_add]
        have f1 : fQ q I (zup I q 5 (nI (k + 1))) := fQ.at5
        have hP1 := hP.at5 (k' := k + 1)
        have hkn := (hT.2.2 k (by omega)).2
        have ecu : sgn t m k = nI (cu t m k) := by unfold sgn cu; rw [if_pos hkm, if_pos hkm]
        have hcl : cu t m k < 256 := by unfold cu; rw [if_pos hkm]; exact hkn
        obtain ⟨I2, e2, p2⟩ := hS (zup I q 5 (nI (k + 1))) (k + 1) (s0 ++ s) (by omega) (by rw [List.length_append]; have := hs.1; omega) (f1.tx hq hT) (by rw [zup_v, if_pos rfl]) (by rw [zup_v, if_neg (by decide)]; exact h6) (hP1.2.2.2 s rfl) hP1.2.2.1
        rw [e2, bI_i, e44_31 hq, ecu]
        obtain ⟨I3, e3, f3, g3, g4, g5⟩ := s40 (d := d) (c := cu t m k) (L := L) (ru := ru) (dr := dr) (sr := sr) (rd := rd) (rl := rl) (x := x) hq p2.2.2.1
        obtain ⟨g6, g7, g8⟩ := hF (k + 1) (by omega)
        rw [e3, bV_n, e44_35 hq]
        cases y : (F (k + 1)).2 with
        | none =>
          refine ⟨I3, ?_, (hP1.1.tr (p2.1.tr f3)), ?_, g4, fun s' e => by cases e⟩
          · rw [rok_n y, l44_4 hq, if_pos (show nI 0 = 0 from rfl), if_pos zb0]
            rfl
          · rw [g3]; exact p2.2.1
        | some s2 =>
          obtain ⟨g9, g10⟩ := g8 s2 y
          have hop : opr (cu t m k) := by rcases z with z | z <;> rw [z] <;> exact ⟨by decide, by decide, by decide, by decide⟩
          have hl : (s0 ++ s ++ s2).length < 40 := by
            rw [List.length_append, List.length_append]
            have := hs.1
            have := g10.1
            omega
          rw [rok_s y]
          have hP3 : rPo q I0 I3 s0 ((F (k + 1)).1, some (s ++ s2 ++ [(false, cu t m k)])) := by
            refine ⟨hP1.1.tr (p2.1.tr f3), by rw [g3]; exact p2.2.1, g4, fun s' e => ?_⟩
            cases e
            have := g5 (s0 ++ s ++ s2) (p2.2.2.2 s2 y) hl
            rw [List.append_assoc, List.append_assoc] at this
            rw [List.append_assoc]
            exact this
          obtain ⟨I4, e4, p4⟩ := l44 hq hsr hm hm4 hF hS rfl j (F (k + 1)).1 I0 I3 s0 _ (.int (nI (cu t m k))) (by omega) g7 h0 (by omega) (gS_j hs g10 hop.1 hop.2.1 hop.2.2.1 hop.2.2.2 (by omega)) ((f1.tr (p2.1.tr f3)).tx hq hT) (by rw [(f1.tr (p2.1.tr f3)).2 6 (by decide) (by decide)]; exact h6) hP3
          exact ⟨I4, e4, p4⟩
      · rw [if_neg z]
        refine ⟨I, ?_, hP⟩
        rw [if_neg (fun y => z (Or.inl ((sgn_eq hm hT (by decide)).mp y))), e42, bI_i, e44_17 hq, if_neg (fun y => z (Or.inr ((sgn_eq hm hT (by decide)).mp y))), if_pos zb1]
        rfl
    · rw [if_neg (by rw [cu_m (by omega)]; decide)]
      refine ⟨I, ?_, hP⟩
      rw [l44_4 hq, if_neg (by decide), h6, h5, if_pos (by rw [nI_leI (by omega) (by omega)]; omega), if_pos zb1]
      rfl
theorem s44 {d q n m : Nat} {t : Nat → Nat} {F : Nat → zR} {vv : Int32} (hq : zQ q) (hsr : sr q = some 2) (hm : m ≤ n) (hm4 : m ≤ 40) (hF : Gd m F) (hS : rSp L ru dr sr rd rl x n m t d q 45 [.ref q, .int vv] F) : rSp L ru dr sr rd rl x n m t d q 44 [.ref q, .int vv] (pB 43 45 (cu t m) m F) := by
  intro I k s0 hk h0 hT h5 h6 hR hj
  obtain ⟨I1, e1, p1⟩ := hS I k s0 hk h0 hT h5 h6 hR hj
  obtain ⟨g1, g2, g3⟩ := hF k hk
  rw [k44 hq, e1, bI_i, e44_3 hq]
  unfold pB
  cases y : (F k).2 with
  | none =>
    refine ⟨I1, ?_, p1.1, p1.2.1, p1.2.2.1, fun s' e => by cases e⟩
    rw [rok_n y, l44_4 hq, if_pos (show nI 0 = 0 from rfl), if_pos zb0]
    rfl
  | some s =>
    obtain ⟨g4, g5⟩ := g3 s y
    rw [rok_s y]
    have hP : rPo q I I1 s0 ((F k).1, some s) := ⟨p1.1, p1.2.1, p1.2.2.1, fun s' e => by cases e; exact p1.2.2.2 s y⟩
    exact l44 hq hsr hm hm4 hF hS rfl (m - (F k).1) (F k).1 I I1 s0 s _ (by omega) g2 h0 g4 g5 (p1.1.tx hq hT) (by rw [p1.1.2 6 (by decide) (by decide)]; exact h6) hP

theorem l45 {d q n m k0 : Nat} {t : Nat → Nat} {V : Value} {F : Nat → zR} (hq : zQ q) (hsr : sr q = some 2) (hm : m ≤ n) (hm4 : m ≤ 40) (hF : Gd m F) (hS : rSp L ru dr sr rd rl x n m t d q 46 [.ref q, V] F) {vv : Int32} (hV : V = .int vv) : ∀ j k (I0 I : Nat → Nat → Int32) (s0 s : zC) (w3 : Value), m ≤ k + j → k ≤ m → s0.length ≤ k0 → k0 < k → gS (k - k0) s → cTx I n t → I q 6 = nI m → rPo q I0 I s0 (k, some s) → ∃ I', res d 45 4 [.ref q, V, .int (nI 1), w3] [] (I, L, rR ru dr sr rd rl, 65, x) = some (some (.int (rok (pLp 42 47 (cu t m) F j k s))), (I', L, rR ru dr sr rd rl, 65, x)) ∧ rPo q I0 I' s0 (pLp 42 47 (cu t m) F j k s)
  | 0, k, I0, I, s0, s, w3, hj, hk, h0, hk0, hs, hT, h6, hP => by
    subst hV
    refine ⟨I, ?_, hP⟩
    rw [l45_4 hq, if_neg (by decide), h6, hP.2.1, if_pos (by rw [nI_leI (by omega) (by show k < _; omega)]; show m ≤ k; omega), if_pos zb1]
    rfl
  | j + 1, k, I0, I, s0, s, w3, hj, hk, h0, hk0, hs, hT, h6, hP => by
    subst hV
    have h5 : I q 5 = nI k := hP.2.1
    unfold pLp
    by_cases hkm : k < m
    · have e42 := s42 (d := d) (L := L) (ru := ru) (dr := dr) (sr := sr) (rd := rd) (rl := rl) (x := x) hq hsr hm hT h5 h6 (by omega)
      rw [l45_4 hq, if_neg (by decide), h6, h5, if_neg (by rw [nI_leI (by omega) (by omega)]; omega), e42, bI_i, e45_13 hq]
      by_cases z : cu t m k = 42 ∨ cu t m k = 47
      · rw [if_pos z]
        have e0 : (if sgn t m k = nI 42 then res d 45 19 [.ref q, .int vv, .int (nI 1), w3] [] (I, L, rR ru dr sr rd rl, 65, x) else bI (cal d 42 [.ref q] (I, L, rR ru dr sr rd rl, 65, x)) fun r1 h1 => res d 45 17 [.ref q, .int vv, .int (nI 1), w3] [.int r1] h1) = res d 45 19 [.ref q, .int vv, .int (nI 1), w3] [] (I, L, rR ru dr sr rd rl, 65, x) := by
          rcases z with z | z
          · rw [if_pos ((sgn_eq hm hT (by decide)).mpr z)]
          · rw [if_neg (fun y => by rw [sgn_eq hm hT (by decide), z] at y; exact absurd y (by decide)), e42, bI_i, e45_17 hq, if_pos ((sgn_eq hm hT (by decide)).mpr z)]
        rw [e0, e45_19 hq, e42, bI_i, e45_21 hq, h5, nI_add]
        have f1 : fQ q I (zup I q 5 (nI (k + 1))) := fQ.at5
        have hP1 := hP.at5 (k' := k + 1)
        have hkn := (hT.2.2 k (by omega)).2
        have ecu : sgn t m k = nI (cu t m k) := by unfold sgn cu; rw [if_pos hkm, if_pos hkm]
        have hcl : cu t m k < 256 := by unfold cu; rw [if_pos hkm]; exact hkn
        obtain ⟨I2, e2, p2⟩ := hS (zup I q 5 (nI (k + 1))) (k + 1) (s0 ++ s) (by omega) (by rw [List.length_append]; have := hs.1; omega) (f1.tx hq hT) (by rw [zup_v, if_pos rfl]) (by rw [zup_v, if_neg (by decide)]; exact h6) (hP1.2.2.2 s rfl) hP1.2.2.1
        rw [e2, bI_i, e45_31 hq, ecu]
        obtain ⟨I3, e3, f3, g3, g4, g5⟩ := s40 (d := d) (c := cu t m k) (L := L) (ru := ru) (dr := dr) (sr := sr) (rd := rd) (rl := rl) (x := x) hq p2.2.2.1
        obtain ⟨g6, g7, g8⟩ := hF (k + 1) (by omega)
        rw [e3, bV_n, e45_35 hq]
        cases y : (F (k + 1)).2 with
        | none =>
          refine ⟨I3, ?_, (hP1.1.tr (p2.1.tr f3)), ?_, g4, fun s' e => by cases e⟩
          · rw [rok_n y, l45_4 hq, if_pos (show nI 0 = 0 from rfl), if_pos zb0]
            rfl
          · rw [g3]; exact p2.2.1
        | some s2 =>
          obtain ⟨g9, g10⟩ := g8 s2 y
          have hop : opr (cu t m k) := by rcases z with z | z <;> rw [z] <;> exact ⟨by decide, by decide, by decide, by decide⟩
          have hl : (s0 ++ s ++ s2).length < 40 := by
            rw [List.length_append, List.length_append]
            have := hs.1
            have := g10.1
            omega
          rw [rok_s y]
          have hP3 : rPo q I0 I3 s0 ((F (k + 1)).1, some (s ++ s2 ++ [(false, cu t m k)])) := by
            refine ⟨hP1.1.tr (p2.1.tr f3), by rw [g3]; exact p2.2.1, g4, fun s' e => ?_⟩
            cases e
            have := g5 (s0 ++ s ++ s2) (p2.2.2.2 s2 y) hl
            rw [List.append_assoc, List.append_assoc] at this
            rw [List.append_assoc]
            exact this
          obtain ⟨I4, e4, p4⟩ := l45 hq hsr hm hm4 hF hS rfl j (F (k + 1)).1 I0 I3 s0 _ (.int (nI (cu t m k))) (by omega) g7 h0 (by omega) (gS_j hs g10 hop.1 hop.2.1 hop.2.2.1 hop.2.2.2 (by omega)) ((f1.tr (p2.1.tr f3)).tx hq hT) (by rw [(f1.tr (p2.1.tr f3)).2 6 (by decide) (by decide)]; exact h6) hP3
          exact ⟨I4, e4, p4⟩
      · rw [if_neg z]
        refine ⟨I, ?_, hP⟩
        rw [if_neg (fun y => z (Or.inl ((sgn_eq hm hT (by decide)).mp y))), e42, bI_i, e45_17 hq, if_neg (fun y => z (Or.inr ((sgn_eq hm hT (by decide)).mp y))), if_pos zb1]
        rfl
    · rw [if_neg (by rw [cu_m (by omega)]; decide)]
      refine ⟨I, ?_, hP⟩
      rw [l45_4 hq, if_neg (by decide), h6, h5, if_pos (by rw [nI_leI (by omega) (by omega)]; omega), if_pos zb1]
      rfl
theorem s45 {d q n m : Nat} {t : Nat → Nat} {F : Nat → zR} {vv : Int32} (hq : zQ q) (hsr : sr q = some 2) (hm : m ≤ n) (hm4 : m ≤ 40) (hF : Gd m F) (hS : rSp L ru dr sr rd rl x n m t d q 46 [.ref q, .int vv] F) : rSp L ru dr sr rd rl x n m t d q 45 [.ref q, .int vv] (pB 42 47 (cu t m) m F) := by
  intro I k s0 hk h0 hT h5 h6 hR hj
  obtain ⟨I1, e1, p1⟩ := hS I k s0 hk h0 hT h5 h6 hR hj
  obtain ⟨g1, g2, g3⟩ := hF k hk
  rw [k45 hq, e1, bI_i, e45_3 hq]
  unfold pB
  cases y : (F k).2 with
  | none =>
    refine ⟨I1, ?_, p1.1, p1.2.1, p1.2.2.1, fun s' e => by cases e⟩
    rw [rok_n y, l45_4 hq, if_pos (show nI 0 = 0 from rfl), if_pos zb0]
    rfl
  | some s =>
    obtain ⟨g4, g5⟩ := g3 s y
    rw [rok_s y]
    have hP : rPo q I I1 s0 ((F k).1, some s) := ⟨p1.1, p1.2.1, p1.2.2.1, fun s' e => by cases e; exact p1.2.2.2 s y⟩
    exact l45 hq hsr hm hm4 hF hS rfl (m - (F k).1) (F k).1 I I1 s0 s _ (by omega) g2 h0 g4 g5 (p1.1.tx hq hT) (by rw [p1.1.2 6 (by decide) (by decide)]; exact h6) hP

theorem s43 {d q n m : Nat} {t : Nat → Nat} {F : Nat → zR} {vv : Int32} (hq : zQ q) (hsr : sr q = some 2) (hm : m ≤ n) (hm4 : m ≤ 40) (hF : Gd m F) (hS : rSp L ru dr sr rd rl x n m t d q 44 [.ref q, .int vv] F) : rSp L ru dr sr rd rl x n m t d q 43 [.ref q, .int vv] (pX (cu t m) F) := by
  intro I k s0 hk h0 hT h5 h6 hR hj
  obtain ⟨I1, e1, p1⟩ := hS I k s0 hk h0 hT h5 h6 hR hj
  obtain ⟨g1, g2, g3⟩ := hF k hk
  rw [k43 hq, e1, bI_i, e43_3 hq]
  unfold pX
  cases y : (F k).2 with
  | none =>
    refine ⟨I1, ?_, p1.1, p1.2.1, p1.2.2.1, fun s e => by cases e⟩
    rw [rok_n y, if_pos (show nI 0 = 0 from rfl), if_pos zb0]
    rfl
  | some s =>
    obtain ⟨g4, g5⟩ := g3 s y
    have hT1 := p1.1.tx hq hT
    have h61 : I1 q 6 = nI m := by rw [p1.1.2 6 (by decide) (by decide)]; exact h6
    have e42 := s42 (d := d) (L := L) (ru := ru) (dr := dr) (sr := sr) (rd := rd) (rl := rl) (x := x) hq hsr hm hT1 p1.2.1 h61 (by omega)
    rw [rok_s y, if_neg (by decide), e42, bI_i, e43_8 hq]
    dsimp only
    by_cases z : cu t m (F k).1 = 60 ∨ cu t m (F k).1 = 62 ∨ cu t m (F k).1 = 61
    · rw [if_pos z]
      have hkm : (F k).1 < m := cu_lt (t := t) rfl (by omega)
      have ecu : sgn t m (F k).1 = nI (cu t m (F k).1) := by unfold sgn cu; rw [if_pos hkm, if_pos hkm]
      have e0 : ∀ (X Y : Option zO), (if sgn t m (F k).1 = nI 60 then X else if sgn t m (F k).1 = nI 62 then X else if sgn t m (F k).1 = nI 61 then X else Y) = X := fun X Y => by
        by_cases z1 : sgn t m (F k).1 = nI 60
        · rw [if_pos z1]
        · rw [if_neg z1]
          by_cases z2 : sgn t m (F k).1 = nI 62
          · rw [if_pos z2]
          · rw [if_neg z2, if_pos]
            rw [sgn_eq hm hT1 (by decide)] at z1 z2 ⊢
            omega
      rw [e0, e43_20 hq, p1.2.1, nI_add]
      have f1 : f5 q I1 (zup I1 q 5 (nI ((F k).1 + 1))) := f5.up
      have hR1 := p1.2.2.2 s y
      have hl := g5.1
      obtain ⟨I2, e2, p2⟩ := hS (zup I1 q 5 (nI ((F k).1 + 1))) ((F k).1 + 1) (s0 ++ s) (by omega) (by rw [List.length_append]; omega) (f1.Q.tx hq hT1) (by rw [zup_v, if_pos rfl]) (by rw [zup_v, if_neg (by decide)]; exact h61) (f1.st hR1) (f1.j p1.2.2.1)
      obtain ⟨j1, j2, j3⟩ := hF ((F k).1 + 1) (by omega)
      have ff := p1.1.tr (f1.Q.tr p2.1)
      rw [e2, bI_i, e43_29 hq]
      cases w : (F ((F k).1 + 1)).2 with
      | none =>
        refine ⟨I2, ?_, ff, p2.2.1, p2.2.2.1, fun s e => by cases e⟩
        rw [rok_n w, if_pos (show nI 0 = 0 from rfl), if_pos zb0]
        rfl
      | some s2 =>
        obtain ⟨j4, j5⟩ := j3 s2 w
        have hl2 := j5.1
        obtain ⟨I3, e3, f3, i3, i4, i5⟩ := s40 (d := d) (c := cu t m (F k).1) (L := L) (ru := ru) (dr := dr) (sr := sr) (rd := rd) (rl := rl) (x := x) hq p2.2.2.1
        refine ⟨I3, ?_, ff.tr f3, by rw [i3]; exact p2.2.1, i4, fun s' e => ?_⟩
        · rw [rok_s w, if_neg (by decide), ecu, e3, bV_n, e43_35 hq, if_pos zb1]
          rfl
        · cases e
          have := i5 (s0 ++ s ++ s2) (p2.2.2.2 s2 w) (by rw [List.length_append, List.length_append]; omega)
          rw [List.append_assoc, List.append_assoc] at this
          rw [List.append_assoc]
          exact this
    · rw [if_neg z]
      refine ⟨I1, ?_, p1.1, p1.2.1, p1.2.2.1, fun s' e => by cases e; exact p1.2.2.2 s y⟩
      rw [if_neg (fun u => z (Or.inl ((sgn_eq hm hT1 (by decide)).mp u))), if_neg (fun u => z (Or.inr (Or.inl ((sgn_eq hm hT1 (by decide)).mp u)))), if_neg (fun u => z (Or.inr (Or.inr ((sgn_eq hm hT1 (by decide)).mp u)))), if_pos zb1]
      rfl
theorem s43n {q n m : Nat} {t : Nat → Nat} (hq : zQ q) (hsr : sr q = some 2) (hm : m ≤ n) (hm4 : m ≤ 40) : ∀ j d, j ≤ 4 → j < d → rSp L ru dr sr rd rl x n m t d q 43 [.ref q, .int (nI (4 - j))] (pE (cu t m) m j)
  | 0, d, _, hd => by
    obtain ⟨d, rfl⟩ : ∃ d', d = d' + 1 := ⟨d - 1, by omega⟩
    have g0 := pT_g (t := t) (m := m) (E := none) fun F e => by cases e
    have s0 := s47 (L := L) (ru := ru) (dr := dr) (rd := rd) (rl := rl) (x := x) (d := d) (t := t) (dep := 4) hq hsr hm hm4 (Or.inl ⟨rfl, rfl⟩)
    have o1 : ∀ o, o = 42 ∨ o = 43 ∨ o = 45 ∨ o = 47 → opr o := fun o h => by rcases h with rfl | rfl | rfl | rfl <;> exact ⟨by decide, by decide, by decide, by decide⟩
    have g1 := pU_g (t := t) g0
    have g2 := pB_g (t := t) (o1 42 (by decide)) (o1 47 (by decide)) g1
    have g3 := pB_g (t := t) (o1 43 (by decide)) (o1 45 (by decide)) g2
    exact s43 hq hsr hm hm4 g3 (s44 hq hsr hm hm4 g2 (s45 hq hsr hm hm4 g1 (s46 hq hsr hm hm4 g0 s0)))
  | j + 1, d, hj, hd => by
    obtain ⟨d, rfl⟩ : ∃ d', d = d' + 1 := ⟨d - 1, by omega⟩
    have ih := s43n (t := t) hq hsr hm hm4 j d (by omega) (by omega)
    have g0 := pT_g (t := t) (m := m) (E := some (pE (cu t m) m j)) fun F e => by cases e; exact pE_g j
    have s0 := s47 (L := L) (ru := ru) (dr := dr) (rd := rd) (rl := rl) (x := x) (d := d) (t := t) (dep := 4 - (j + 1)) hq hsr hm hm4 (Or.inr ⟨pE (cu t m) m j, rfl, by omega, pE_g j, by rw [show 4 - (j + 1) + 1 = 4 - j by omega]; exact ih⟩)
    have o1 : ∀ o, o = 42 ∨ o = 43 ∨ o = 45 ∨ o = 47 → opr o := fun o h => by rcases h with rfl | rfl | rfl | rfl <;> exact ⟨by decide, by decide, by decide, by decide⟩
    have g1 := pU_g (t := t) g0
    have g2 := pB_g (t := t) (o1 42 (by decide)) (o1 47 (by decide)) g1
    have g3 := pB_g (t := t) (o1 43 (by decide)) (o1 45 (by decide)) g2
    exact s43 hq hsr hm hm4 g3 (s44 hq hsr hm hm4 g2 (s45 hq hsr hm hm4 g1 (s46 hq hsr hm hm4 g0 s0)))
theorem rR_src {q : Nat} (hq : zQ q) : zup (rR ru dr sr rd rl) q 4 (some 2) = rR ru dr (zset sr q (some 2)) rd rl := by
  funext a k
  rcases hq with rfl | rfl
  · by_cases z : a = 30
    · subst z
      rw [zup_v]
      by_cases y : k = 4
      · subst y; rfl
      · rw [if_neg y]
        unfold rR
        split <;> first | rfl | omega | (split <;> first | rfl | omega)
    · rw [zup_ne _ _ _ z]
      unfold rR
      split <;> first | rfl | omega | (split <;> first | rfl | omega)
  · by_cases z : a = 33
    · subst z
      rw [zup_v]
      by_cases y : k = 4
      · subst y; rfl
      · rw [if_neg y]
        unfold rR
        split <;> first | rfl | omega | (split <;> first | rfl | omega)
    · rw [zup_ne _ _ _ z]
      unfold rR
      split <;> first | rfl | omega | (split <;> first | rfl | omega)
theorem s38 {d q : Nat} (hq : zQ q) : ∃ I', cal d 38 [.ref q] (I, L, rR ru dr sr rd rl, 65, x) = some (none, (I', L, rR ru dr sr rd rl, 65, x)) ∧ cRu I' q usu ∧ (∀ c, c ≠ q → c ≠ q + 1 → I' c = I c) := by
  have r0 : rSt (zup I q 2 (nI 0)) q [] := ⟨by rw [zup_v, if_pos rfl]; rfl, fun i e h => by cases h⟩
  obtain ⟨I1, e1, f1, -, g1, h1⟩ := s40 (d := d) (c := 110) (I := zup I q 2 (nI 0)) (L := L) (ru := ru) (dr := dr) (sr := sr) (rd := rd) (rl := rl) (x := x) hq ⟨0, by omega, by rw [zup_v, if_pos rfl]⟩
  have r1 := h1 [] r0 (by decide)
  obtain ⟨I2, e2, f2, -, g2, h2⟩ := s40 (d := d) (c := 97) (L := L) (ru := ru) (dr := dr) (sr := sr) (rd := rd) (rl := rl) (x := x) hq g1
  have r2 := h2 _ r1 (by decide)
  obtain ⟨I3, e3, f3, -, g3, h3⟩ := s40 (d := d) (c := 62) (L := L) (ru := ru) (dr := dr) (sr := sr) (rd := rd) (rl := rl) (x := x) hq g2
  have r3 := h3 _ r2 (by decide)
  refine ⟨I3, by rw [k38 hq, e1, bV_n, e38_6 hq, e2, bV_n, e38_9 hq, e3, bV_n, e38_12 hq], ⟨r3.1, by decide, fun e he => ?_, r3.2⟩, fun c a b => by rw [f3.1 c a b, f2.1 c a b, f1.1 c a b, zup_ne _ _ _ a]⟩
  simp only [usu, List.mem_cons, List.not_mem_nil, or_false] at he
  rcases he with rfl | rfl | rfl <;> exact ⟨by decide, by decide⟩
def pok (r : zR) : Int32 := match r.2 with
  | none => nI r.1
  | some _ => -(nI 1)
theorem s41 {d q n : Nat} {t : Nat → Nat} (hq : zQ q) (hd : 5 ≤ d) (hT : cTx I n t) : ∃ I', cal d 41 [.ref q, .ref 2] (I, L, rR ru dr sr rd rl, 65, x) = some (some (.int (pok (prs t n))), (I', L, rR ru dr (zset sr q (some 2)) rd rl, 65, x)) ∧ (∀ s, (prs t n).2 = some s → cRu I' q s) ∧ (∀ c, c ≠ q → c ≠ q + 1 → I' c = I c) := by
  have hn := hT.2.1
  have hsr : (zset sr q (some 2)) q = some 2 := zset_self _ _ _
  have q2 : ∀ c, c = 2 ∨ c = 3 → c ≠ q ∧ c ≠ q + 1 := fun c h => by rcases hq with rfl | rfl <;> omega
  have hT1 : cTx (zup I q 5 (nI 0)) n t := hT.congr (zup_ne _ _ _ (q2 2 (by decide)).1) (zup_ne _ _ _ (q2 3 (by decide)).1)
  have hT2 : cTx (zup (zup I q 5 (nI 0)) q 6 (nI (min n 40))) n t := hT1.congr (zup_ne _ _ _ (q2 2 (by decide)).1) (zup_ne _ _ _ (q2 3 (by decide)).1)
  rw [k41 hq, rR_src hq, e41_3 hq, s97 hT1, bI_i, e41_9 hq hq, zmin_n (by omega) (by omega), s97 hT2, bI_i, e41_14 hq]
  unfold prs
  by_cases z : n = 0
  · obtain ⟨I1, e1, r1, f1⟩ := s38 (d := d) (I := zup (zup I q 5 (nI 0)) q 6 (nI (min n 40))) (L := L) (ru := ru) (dr := dr) (sr := zset sr q (some 2)) (rd := rd) (rl := rl) (x := x) hq
    rw [if_pos ((nI_z (by omega)).mpr z), e1, bV_n, e41_17 hq, if_pos z]
    exact ⟨I1, rfl, fun s e => by cases e; exact r1, fun c a b => by rw [f1 c a b, zup_ne _ _ _ a, zup_ne _ _ _ a]⟩
  · rw [if_neg (by rw [nI_z (by omega)]; exact z), if_neg z]
    have hT3 : cTx (zup (zup (zup I q 5 (nI 0)) q 6 (nI (min n 40))) q 2 (nI 0)) n t := hT2.congr (zup_ne _ _ _ (q2 2 (by decide)).1) (zup_ne _ _ _ (q2 3 (by decide)).1)
    obtain ⟨I1, e1, p1⟩ := s43n (L := L) (ru := ru) (dr := dr) (rd := rd) (rl := rl) (x := x) (t := t) (sr := zset sr q (some 2)) (m := min n 40) hq hsr (Nat.min_le_left _ _) (Nat.min_le_right _ _) 4 d (by omega) (by omega) (zup (zup (zup I q 5 (nI 0)) q 6 (nI (min n 40))) q 2 (nI 0)) 0 [] (Nat.zero_le _) (Nat.zero_le _) hT3 (by rw [zup_v, if_neg (by decide), zup_v, if_neg (by decide), zup_v, if_pos rfl]) (by rw [zup_v, if_neg (by decide), zup_v, if_pos rfl]) ⟨by rw [zup_v, if_pos rfl]; rfl, fun i e h => by cases h⟩ ⟨0, by omega, by rw [zup_v, if_pos rfl]⟩
    obtain ⟨g1, g2, g3⟩ := pE_g (t := t) (m := min n 40) 4 0 (Nat.zero_le _)
    have hT4 := p1.1.tx hq hT3
    have fr : ∀ c, c ≠ q → c ≠ q + 1 → I1 c = I c := fun c a b => by rw [p1.1.1 c a b, zup_ne _ _ _ a, zup_ne _ _ _ a, zup_ne _ _ _ a]
    refine ⟨I1, ?_, ?_, fr⟩
    · rw [show nI 0 = nI (4 - 4) from rfl, e1, bI_i, e41_25 hq]
      cases y : (pE (cu t (min n 40)) (min n 40) 4 0).2 with
      | none =>
        rw [rok_n y, if_pos (show nI 0 = 0 from rfl), e41_33 hq, e41_34 hq, if_pos (show nI 0 = 0 from rfl), p1.2.1]
        split
        · unfold pok; rw [y]
        · rfl
      | some s =>
        rw [rok_s y, if_neg (by decide), s97 hT4, bI_i, e41_30 hq, p1.2.1]
        by_cases w : (pE (cu t (min n 40)) (min n 40) 4 0).1 = n
        · rw [if_pos (by rw [w]), e41_34 hq, if_neg (by decide), if_pos w]
          unfold pok; rw [y]
        · rw [if_neg (by rw [nI_eq (by omega) (by omega)]; exact w), e41_33 hq, e41_34 hq, if_pos (show nI 0 = 0 from rfl), if_neg w, p1.2.1]
          rfl
    · intro s e
      split at e
      · obtain ⟨g4, g5⟩ := g3 s e
        have := p1.2.2.2 s e
        rw [List.nil_append] at this
        exact ⟨this.1, by have := g5.1; omega, g5.2.2, this.2⟩
      · cases e

end
