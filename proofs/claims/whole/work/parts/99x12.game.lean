section
variable {I : Nat → Nat → Int32} {L : Nat → Nat → Int64} {ru dr : Nat} {sr : Nat → Option Nat} {rd : Option Nat} {rl x : Nat}
variable {d R S p n T : Nat} {f g : Nat → Nat} {a : zP} {t : Nat → Nat} {l : List Int64} {u : List zP} {kp : Nat → Option zP} {cl : List (Nat × Nat)} {si : List (Nat × Int32)} {cs : zC}

def nd (c : Nat) : Option Nat := if c = 42 then some 0 else if c = 47 then some 0 else if c = 103 then some 2 else if c = 108 then some 3 else if c = 116 then some 3 else none
def ndI (c : Nat) : Int32 := match nd c with
  | some e => nI e
  | none => -(nI 1)
theorem nd_le {c e : Nat} (h : nd c = some e) : e ≤ 3 := by
  unfold nd at h
  repeat' split at h
  all_goals first | (cases h; omega) | cases h
theorem s159 {c : Nat} (hc : c < 256) : cal d 159 [.int (nI c)] (I, L, rR ru dr sr rd rl, 65, x) = some (some (.int (ndI c)), (I, L, rR ru dr sr rd rl, 65, x)) := by
  rw [k159]
  unfold ndI nd
  by_cases z1 : c = 42
  · rw [if_pos (by rw [z1]), if_pos z1]
  rw [if_neg (by rw [nI_eq (by omega) (by omega)]; exact z1), if_neg z1]
  by_cases z2 : c = 47
  · rw [if_pos (by rw [z2]), if_pos z2]
  rw [if_neg (by rw [nI_eq (by omega) (by omega)]; exact z2), if_neg z2]
  by_cases z3 : c = 103
  · rw [if_pos (by rw [z3]), if_pos z3]
  rw [if_neg (by rw [nI_eq (by omega) (by omega)]; exact z3), if_neg z3]
  by_cases z4 : c = 108
  · rw [if_pos (by rw [z4]), if_pos z4]
  rw [if_neg (by rw [nI_eq (by omega) (by omega)]; exact z4), if_neg z4]
  by_cases z5 : c = 116
  · rw [if_pos (by rw [z5]), if_pos z5]
  rw [if_neg (by rw [nI_eq (by omega) (by omega)]; exact z5), if_neg z5]
/-- where a game's text is wrong -/
def gau (t : Nat → Nat) (n m : Nat) : Nat → Nat → Nat → Option Nat
  | 0, _, dg => if 0 < dg ∨ m < n then some m else none
  | j + 1, k, dg => if 0 < dg then (if dgt (t k) = true then gau t n m j (k + 1) (dg - 1) else some k) else (match nd (t k) with
    | none => some k
    | some e => gau t n m j (k + 1) e)
def opI (o : Option Nat) : Int32 := match o with
  | none => -(nI 1)
  | some e => nI e
theorem l160 {m : Nat} (hT : cTx I n t) (hm : m ≤ n) : ∀ j k dg (w4 w5 : Value), k + j = m → dg ≤ 3 → res d 160 10 [.ref 1, .int (nI m), .int (nI dg), .int (nI k), w4, w5] [] (I, L, rR ru dr sr rd rl, 65, x) = some (some (.int (opI (gau t n m j k dg))), (I, L, rR ru dr sr rd rl, 65, x))
  | 0, k, dg, w4, w5, hk, hd => by
    have := hT.2.1
    unfold gau
    rw [l160_10, if_pos (by rw [nI_leI (by omega) (by omega)]; omega)]
    by_cases z : 0 < dg
    · rw [if_pos (by rw [nI_0l (by omega)]; exact z), if_pos (Or.inl z)]
      rfl
    · rw [if_neg (by rw [nI_0l (by omega)]; exact z), s97 hT, bI_i, e160_52]
      by_cases y : m < n
      · rw [if_neg (by rw [nI_leI (by omega) (by omega)]; omega), if_pos (Or.inr y)]
        rfl
      · rw [if_pos (by rw [nI_leI (by omega) (by omega)]; omega), if_neg (fun e => e.elim z y)]
        rfl
  | j + 1, k, dg, w4, w5, hk, hd => by
    have := hT.2.1
    have h2 := (hT.2.2 k (by omega)).2
    have es : sgn t m k = nI (t k) := by unfold sgn; rw [if_pos (by omega)]
    unfold gau
    rw [l160_10, if_neg (by rw [nI_leI (by omega) (by omega)]; omega), s98 hT hm (by omega), es, bI_i, e160_18]
    by_cases z : 0 < dg
    · rw [if_neg (by rw [nI_l0 (by omega)]; omega), s158 h2, bI_i, e160_23, e160_31, if_pos z]
      cases y : dgt (t k) with
      | false =>
        rw [if_pos (show nI (if false = true then 1 else 0) = 0 from rfl), if_neg Bool.false_ne_true]
        rfl
      | true =>
        rw [if_neg (show ¬ nI (if true = true then 1 else 0) = 0 by decide), if_neg (by rw [nI_l0 (by omega)]; omega), zsub (by omega), e160_44, nI_add, l160 hT hm j (k + 1) (dg - 1) _ _ (by omega) (by omega)]
        rw [if_pos rfl]
    · rw [if_pos (by rw [nI_l0 (by omega)]; omega), s159 h2, bI_i, e160_26, if_neg z]
      cases y : nd (t k) with
      | none =>
        rw [show ndI (t k) = -(nI 1) by unfold ndI; rw [y], if_pos rfl, e160_31, if_pos (show nI 0 = 0 from rfl)]
        rfl
      | some e =>
        have he := nd_le y
        rw [show ndI (t k) = nI e by unfold ndI; rw [y], if_neg (by rw [nI_m1 (by omega)]; exact not_false), e160_31, if_neg (by decide), if_pos (by rw [nI_l0 (by omega)]; omega), s159 h2, bI_i, show ndI (t k) = nI e by unfold ndI; rw [y], e160_44, nI_add, l160 hT hm j (k + 1) e _ _ (by omega) he]
def gwr (t : Nat → Nat) (n : Nat) : Option Nat := gau t n (min n 60) (min n 60) 0 0
theorem s160 (hT : cTx I n t) : cal d 160 [.ref 1] (I, L, rR ru dr sr rd rl, 65, x) = some (some (.int (opI (gwr t n))), (I, L, rR ru dr sr rd rl, 65, x)) := by
  have := hT.2.1
  rw [k160, s97 hT, bI_i, e160_3, zmin_n (by omega) (by omega)]
  exact l160 hT (Nat.min_le_left _ _) _ 0 0 _ _ (by omega) (by omega)
theorem gau_dg {m : Nat} : ∀ j k dg, k + j = m → gau t n m j k dg = none → dg ≤ j ∧ (∀ i, i < dg → dgt (t (k + i)) = true) ∧ gau t n m (j - dg) (k + dg) 0 = none
  | 0, k, dg, hk, h => by
    unfold gau at h
    split at h
    · cases h
    · rename_i z
      have hd : dg = 0 := by omega
      subst hd
      refine ⟨Nat.le_refl _, fun i hi => absurd hi (Nat.not_lt_zero _), ?_⟩
      show gau t n m 0 k 0 = none
      unfold gau
      rw [if_neg z]
  | j + 1, k, dg, hk, h => by
    by_cases z : 0 < dg
    · unfold gau at h
      rw [if_pos z] at h
      by_cases y : dgt (t k) = true
      · rw [if_pos y] at h
        obtain ⟨h1, h2, h3⟩ := gau_dg j (k + 1) (dg - 1) (by omega) h
        refine ⟨by omega, fun i hi => ?_, ?_⟩
        · by_cases w : i = 0
          · subst w; exact y
          · have := h2 (i - 1) (by omega)
            rw [show k + 1 + (i - 1) = k + i by omega] at this
            exact this
        · rw [show j + 1 - dg = j - (dg - 1) by omega, show k + dg = k + 1 + (dg - 1) by omega]
          exact h3
      · rw [if_neg y] at h; cases h
    · have hd : dg = 0 := by omega
      subst hd
      exact ⟨Nat.zero_le _, fun i hi => absurd hi (Nat.not_lt_zero _), h⟩
theorem gau_act {m j k : Nat} (hk : k + (j + 1) = m) (h : gau t n m (j + 1) k 0 = none) : ∃ e, nd (t k) = some e ∧ e ≤ j ∧ (∀ i, i < e → dgt (t (k + 1 + i)) = true) ∧ gau t n m (j - e) (k + 1 + e) 0 = none := by
  unfold gau at h
  rw [if_neg (Nat.lt_irrefl 0)] at h
  cases y : nd (t k) with
  | none => rw [y] at h; cases h
  | some e =>
    rw [y] at h
    obtain ⟨h1, h2, h3⟩ := gau_dg j (k + 1) e (by omega) h
    exact ⟨e, rfl, h1, h2, h3⟩
theorem gau_end {m : Nat} : ∀ N j k, j ≤ N → k + j = m → gau t n m j k 0 = none → n ≤ m
  | _, 0, k, _, hk, h => by
    unfold gau at h
    split at h
    · cases h
    · omega
  | 0, j + 1, k, hN, hk, h => absurd hN (by omega)
  | N + 1, j + 1, k, hN, hk, h => by
    obtain ⟨e, -, h2, -, h4⟩ := gau_act hk h
    exact gau_end N (j - e) (k + 1 + e) (by omega) (by omega) h4
theorem gau_le {m e : Nat} : ∀ {j k dg}, k + j ≤ m → m ≤ min n 60 → gau t n m j k dg = some e → e ≤ m
  | 0, k, dg, hk, hm, h => by
    unfold gau at h
    split at h
    · cases h; exact Nat.le_refl _
    · cases h
  | j + 1, k, dg, hk, hm, h => by
    unfold gau at h
    split at h
    · split at h
      · exact gau_le (by omega) hm h
      · cases h; omega
    · split at h
      · cases h; omega
      · exact gau_le (by omega) hm h
/-- an act of a text -/
def gat (R S : Nat) (f g : Nat → Nat) (cs : zC) (p : Nat) (t : Nat → Nat) (n k : Nat) (a : zP) : aR := if t k = 42 then (if p = 0 then (-(nI 1), none) else (nI (if thb R S f g cs a = true then 1 else 0), some (thr R S f g cs p a))) else if t k = 47 then paA p a else if t k = 103 then grA p a (dga t n (k + 1)) (dga t n (k + 2)) else if t k = 108 then lvA S p a (dga t n (k + 1)) (nI 10 * dga t n (k + 2) + dga t n (k + 3)) else if t k = 116 then tkA S p a (dga t n (k + 1)) (nI 10 * dga t n (k + 2) + dga t n (k + 3)) else (-(nI 1), none)
theorem aok'.mono {r : aR} {T' : Nat} (h : aok' p S T r) (h1 : T ≤ T') (h2 : T' < 2 ^ 24) : aok' p S T' r := ⟨h.1, fun b e => ⟨(h.2 b e).1, (h.2 b e).2.more h1 h2⟩⟩
theorem gat_ok {k : Nat} (hc : zCt R S f g) (hw : zWf p S T a) (hT : T + 1 < 2 ^ 24) : aok' p S (T + 1) (gat R S f g cs p t n k a) := by
  unfold gat
  split
  · split
    · exact ⟨fun _ => by decide, fun b e => by cases e⟩
    · refine ⟨fun e => (by cases e), fun b e => ?_⟩
      cases e
      refine ⟨nI_pos (by split <;> decide), thr_wf hc hw (by omega) hT cs⟩
  · split
    · exact (paA_ok hc hw).mono (by omega) hT
    · split
      · exact (grA_ok hc hw).mono (by omega) hT
      · split
        · exact (lvA_ok hc hw).mono (by omega) hT
        · split
          · exact (tkA_ok hc hw).mono (by omega) hT
          · exact ⟨fun _ => by decide, fun b e => by cases e⟩
theorem s161 {k : Nat} (hc : zCt R S f g) (hI : cCt I R S f g) (hA : cSt I 15 p a) (hw : zWf p S T a) (hT : cTx I n t) (hq : zQ ru) (hR : cRu I ru cs) (hk : k < n) : ∃ I', cal d 161 [.ref 1, .int (nI k)] (I, L, rR ru dr sr rd rl, 65, x) = some (some (.int (gat R S f g cs p t n k a).1), (I', L, rR ru dr sr rd rl, 65, x)) ∧ cSt I' 15 p ((gat R S f g cs p t n k a).2.getD a) ∧ fW [15] I I' := by
  have hn := hT.2.1
  have hp := hw.1
  have h2 := (hT.2.2 k hk).2
  have es : sgn t n k = nI (t k) := by unfold sgn; rw [if_pos hk]
  have e0 := k161 (d := d) (v1 := nI k) (L := L) (ru := ru) (dr := dr) (sr := sr) (rd := rd) (rl := rl) (x := x) (I := I)
  rw [nI_add, s99 hT (by omega), bI_i, e161_6, nI_add, s99 hT (by omega), bI_i, e161_13, nI_add, s99 hT (by omega), bI_i, e161_20, s97 hT, bI_i, e161_27, s98 hT (Nat.le_refl _) (by omega), bI_i, es, e161_28] at e0
  rw [e0]
  unfold gat
  by_cases z1 : t k = 42
  · rw [if_pos (by rw [z1]), s68 (s := 14) (Or.inl rfl) hA, bI_i, e161_32]
    rw [if_pos z1]
    by_cases y : p = 0
    · rw [if_pos ((nI_z (by omega)).mpr y), if_pos y]
      exact ⟨I, rfl, hA, fW.rf⟩
    · obtain ⟨I1, e1, h1, f1⟩ := s86 (d := d) (L := L) (ru := ru) (dr := dr) (sr := sr) (rd := rd) (rl := rl) (x := x) (s := 14) hc hI (Or.inl rfl) hA hw hq (by omega) hR
      rw [if_neg (by rw [nI_z (by omega)]; exact y), e1, bI_i, e161_40, if_neg y]
      refine ⟨I1, ?_, h1, f1⟩
      cases thb R S f g cs a with
      | true => rw [if_neg (by decide)]; rfl
      | false => rw [if_pos (show nI (if false = true then 1 else 0) = 0 from rfl)]; rfl
  · rw [if_neg (by rw [nI_eq (by omega) (by omega)]; exact z1), if_neg z1]
    by_cases z2 : t k = 47
    · obtain ⟨I1, e1, h1, f1⟩ := s163 (d := d) (L := L) (ru := ru) (dr := dr) (sr := sr) (rd := rd) (rl := rl) (x := x) hc hI hA hw
      rw [if_pos (by rw [z2]), e1, bI_i, e161_47, if_pos z2]
      exact ⟨I1, rfl, h1, f1⟩
    · rw [if_neg (by rw [nI_eq (by omega) (by omega)]; exact z2), if_neg z2]
      by_cases z3 : t k = 103
      · obtain ⟨I1, e1, h1, f1⟩ := s166 (d := d) (v := dga t n (k + 1)) (w := dga t n (k + 2)) (L := L) (ru := ru) (dr := dr) (sr := sr) (rd := rd) (rl := rl) (x := x) hc hI hA hw
        rw [if_pos (by rw [z3]), e1, bI_i, e161_70, if_pos z3]
        exact ⟨I1, rfl, h1, f1⟩
      · rw [if_neg (by rw [nI_eq (by omega) (by omega)]; exact z3), if_neg z3]
        by_cases z4 : t k = 108
        · obtain ⟨I1, e1, h1, f1⟩ := s165 (d := d) (v := dga t n (k + 1)) (w := nI 10 * dga t n (k + 2) + dga t n (k + 3)) (L := L) (ru := ru) (dr := dr) (sr := sr) (rd := rd) (rl := rl) (x := x) hc hI hA hw
          rw [if_pos (by rw [z4]), e1, bI_i, e161_65, if_pos z4]
          exact ⟨I1, rfl, h1, f1⟩
        · rw [if_neg (by rw [nI_eq (by omega) (by omega)]; exact z4), if_neg z4]
          by_cases z5 : t k = 116
          · obtain ⟨I1, e1, h1, f1⟩ := s164 (d := d) (v := dga t n (k + 1)) (w := nI 10 * dga t n (k + 2) + dga t n (k + 3)) (L := L) (ru := ru) (dr := dr) (sr := sr) (rd := rd) (rl := rl) (x := x) hc hI hA hw
            rw [if_pos (by rw [z5]), e1, bI_i, e161_56, if_pos z5]
            exact ⟨I1, rfl, h1, f1⟩
          · rw [if_neg (by rw [nI_eq (by omega) (by omega)]; exact z5), if_neg z5]
            exact ⟨I, rfl, hA, fW.rf⟩
/-- a game done: where it stopped, the standing, how many acts -/
def grun (A : Nat → zP → aR) (t : Nat → Nat) (n : Nat) : Nat → Nat → zP → Nat → Nat × zP × Nat
  | 0, k, a, dn => (k, a, dn)
  | N + 1, k, a, dn => if k < n then (match (A k a).2 with
    | none => (k, a, dn)
    | some b => grun A t n N (k + 1 + (nd (t k)).getD 0) b (dn + 1)) else (k, a, dn)
theorem grun_wf (hc : zCt R S f g) {T0 : Nat} (hT : T0 + 80 < 2 ^ 24) (hn : n ≤ 80) : ∀ N k a dn, dn ≤ k → k ≤ n ∨ dn ≤ 80 → zWf p S (T0 + dn) a → zWf p S (T0 + (grun (gat R S f g cs p t n) t n N k a dn).2.2) (grun (gat R S f g cs p t n) t n N k a dn).2.1 ∧ dn ≤ (grun (gat R S f g cs p t n) t n N k a dn).2.2
  | 0, k, a, dn, _, _, hw => ⟨hw, Nat.le_refl _⟩
  | N + 1, k, a, dn, hd, hd2, hw => by
    unfold grun
    by_cases z : k < n
    · rw [if_pos z]
      cases y : (gat R S f g cs p t n k a).2 with
      | none => exact ⟨hw, Nat.le_refl _⟩
      | some b =>
        have h1 := ((gat_ok (t := t) (n := n) (k := k) (cs := cs) hc hw (by omega)).2 b y).2
        have := grun_wf hc hT hn N (k + 1 + (nd (t k)).getD 0) b (dn + 1) (by omega) (by omega) h1
        exact ⟨this.1, by have := this.2; show dn ≤ (grun _ t n N _ b (dn + 1)).2.2; omega⟩
    · rw [if_neg z]; exact ⟨hw, Nat.le_refl _⟩
theorem l121 (hc : zCt R S f g) (hq : zQ ru) {T0 : Nat} {v1 : Int32} (hT0 : T0 + 80 < 2 ^ 24) (hn : n ≤ 80) : ∀ N k (a : zP) dn (I : Nat → Nat → Int32) (w5 : Value), n ≤ k + N → k ≤ n → dn ≤ k → gau t n n (n - k) k 0 = none → zWf p S (T0 + dn) a → cCt I R S f g → cSt I 15 p a → cTx I n t → cRu I ru cs → ∃ I' w', res d 121 19 [.ref 1, .int v1, .int (nI dn), .int (nI n), .int (nI k), w5] [] (I, L, rR ru dr sr rd rl, 65, x) = res d 121 45 [.ref 1, .int v1, .int (nI (grun (gat R S f g cs p t n) t n N k a dn).2.2), .int (nI n), .int (nI (grun (gat R S f g cs p t n) t n N k a dn).1), w'] [] (I', L, rR ru dr sr rd rl, 65, x) ∧ cSt I' 15 p (grun (gat R S f g cs p t n) t n N k a dn).2.1 ∧ fW [15] I I' ∧ (grun (gat R S f g cs p t n) t n N k a dn).1 ≤ n ∧ (grun (gat R S f g cs p t n) t n N k a dn).2.2 ≤ (grun (gat R S f g cs p t n) t n N k a dn).1
  | 0, k, a, dn, I, w5, hN, hk, hd, hg, hw, hI, hA, hT, hR => by
    refine ⟨I, w5, ?_, hA, fW.rf, hk, hd⟩
    rw [l121_19, if_pos (by rw [nI_leI (by omega) (by omega)]; omega)]
    rfl
  | N + 1, k, a, dn, I, w5, hN, hk, hd, hg, hw, hI, hA, hT, hR => by
    unfold grun
    by_cases z : k < n
    · rw [if_pos z]
      obtain ⟨I1, e1, h1, f1⟩ := s161 (d := d) (L := L) (ru := ru) (dr := dr) (sr := sr) (rd := rd) (rl := rl) (x := x) hc hI hA hw hT hq hR z
      have hok := gat_ok (t := t) (n := n) (k := k) (cs := cs) hc hw (by omega)
      rw [l121_19, if_neg (by rw [nI_leI (by omega) (by omega)]; omega), e1, bI_i, e121_25]
      cases y : (gat R S f g cs p t n k a).2 with
      | none =>
        rw [y] at h1
        exact ⟨I1, w5, by rw [if_pos (hok.1 y)], h1, f1, hk, hd⟩
      | some b =>
        rw [y] at h1
        have h2 := hok.2 b y
        obtain ⟨j, hj⟩ : ∃ j, n - k = j + 1 := ⟨n - k - 1, by omega⟩
        rw [hj] at hg
        obtain ⟨e, ne, le, -, ge⟩ := gau_act (by omega) hg
        have hT1 := f1.tx hT (by decide)
        have hR1 := f1.cs hq hR (by rcases hq with rfl | rfl <;> decide)
        have es : sgn t n k = nI (t k) := by unfold sgn; rw [if_pos z]
        have hc2 := (hT.2.2 k z).2
        have he := nd_le ne
        have eN : ndI (t k) = nI e := by unfold ndI; rw [ne]
        rw [show j - e = n - (k + 1 + e) by omega] at ge
        obtain ⟨I2, w2, e2, h3, f2, g2, g3⟩ := l121 hc hq (v1 := v1) hT0 hn N (k + 1 + e) b (dn + 1) I1 (.int (nI e)) (by omega) (by omega) (by omega) ge h2.2 (f1.ct hI (by decide)) h1 hT1 hR1
        rw [show (nd (t k)).getD 0 = e by rw [ne]; rfl]
        refine ⟨I2, w2, ?_, h3, f1.tr f2, g2, g3⟩
        rw [if_neg h2.1, s98 hT1 (Nat.le_refl _) (by omega), bI_i, es, e121_31, s159 hc2, bI_i, eN, e121_32]
        by_cases x' : e = 0
        · rw [if_pos (by rw [nI_l0 (by omega)]; exact x'), nI_add, nI_add]
          rw [x', Nat.add_zero] at e2
          rw [x', Nat.add_zero]
          exact e2
        · rw [if_neg (by rw [nI_l0 (by omega)]; exact x'), nI_add, nI_add, nI_add, show k + (1 + e) = k + 1 + e by omega]
          exact e2
    · rw [if_neg z]
      refine ⟨I, w5, ?_, hA, fW.rf, hk, hd⟩
      rw [l121_19, if_pos (by rw [nI_leI (by omega) (by omega)]; omega)]
def grn (R S : Nat) (f g : Nat → Nat) (cs : zC) (p : Nat) (t : Nat → Nat) (n : Nat) (a : zP) : Nat × zP × Nat := grun (gat R S f g cs p t n) t n n 0 a 0
theorem o121f {e : Nat} (h : cInv I L ru dr R S f g p a n t l u kp cl si cs) (hw : wInv R S f g p a T u kp) (hg : gwr t n = some e) : ∃ I', cal d 121 [.ref 1] (I, L, rR ru dr sr rd rl, 65, x) = some (some (.int (-(nI 1) - nI e)), (I', L, rR ru dr sr rd rl, 65, x)) ∧ cInv I' L ru dr R S f g p a 0 t l u kp cl si cs := by
  obtain ⟨hI, hA, hT, hO, hP, hC, hS, hQ, hR⟩ := h
  obtain ⟨hc, hw, hu, hk⟩ := hw
  have f1 : fW [2] I (zup I 2 1 (nI 0)) := fW.up (by decide) (by decide) (by decide)
  have he := gau_le (by omega) (Nat.le_refl _) hg
  have hn80 := hT.2.1
  have e0 := s160 (d := d) (L := L) (ru := ru) (dr := dr) (sr := sr) (rd := rd) (rl := rl) (x := x) hT
  rw [hg, show opI (some e) = nI e from rfl] at e0
  have hne : nI e ≠ -(nI 1) := fun q => ((nI_m1 (by omega)).mp q).elim
  exact ⟨_, by rw [k121, e0, bI_i, e121_2, if_neg hne, e121_71, s96, bV_n, e121_74, if_neg hne], ⟨f1.ct hI (by decide), f1.st (Or.inl rfl) hA (by decide), hT.cut (Nat.zero_le _), f1.to hO (by decide) rfl, f1.pa hP (by decide), f1.clu hC (by decide), f1.sig hS (by decide), hQ, f1.cs (zRD.q hQ) hR (zRD.nn hQ (by decide))⟩⟩
theorem o121t (h : cInv I L ru dr R S f g p a n t l u kp cl si cs) (hw : wInv R S f g p a T u kp) (hg : gwr t n = none) (hT0 : T + 80 < 2 ^ 24) : ∃ I' L', cal d 121 [.ref 1] (I, L, rR ru dr sr rd rl, 65, x) = some (some (.int (nI (grn R S f g cs p t n a).2.2)), (I', L', rR ru dr sr rd rl, 65, x)) ∧ cInv I' L' ru dr R S f g p (grn R S f g cs p t n a).2.1 0 t ([if (grn R S f g cs p t n a).1 < n then lN 1 else lN 0, lN ((grn R S f g cs p t n a).2.1 24)]) (if 0 < (grn R S f g cs p t n a).2.2 then (a :: u).take 12 else u) kp cl si cs := by
  obtain ⟨hI, hA, hT, hO, hP, hC, hS, hQ, hR⟩ := h
  obtain ⟨hc, hw, hu, hk⟩ := hw
  have hn80 := hT.2.1
  have hnm : n ≤ 60 := by
    have := gau_end (t := t) (n := n) (m := min n 60) (min n 60) (min n 60) 0 (Nat.le_refl _) (by omega) hg
    omega
  have hg0 : gau t n n (n - 0) 0 0 = none := by
    have := hg
    unfold gwr at this
    rw [show min n 60 = n by omega] at this
    exact this
  have e0 := s160 (d := d) (L := L) (ru := ru) (dr := dr) (sr := sr) (rd := rd) (rl := rl) (x := x) hT
  rw [hg, show opI none = -(nI 1) from rfl] at e0
  obtain ⟨I1, e1, h1, f1⟩ := s65 (d := d) (L := L) (ru := ru) (dr := dr) (sr := sr) (rd := rd) (rl := rl) (x := x) (s0 := 18) (s := 14) (Or.inr (Or.inr rfl)) (Or.inl rfl) hA
  have hA1 : cSt I1 15 p a := f1.st (s := 14) (Or.inl rfl) hA (by decide)
  have hT1 := f1.tx hT (by decide)
  obtain ⟨I2, w2, e2, h2, f2, g2, g3⟩ := l121 (d := d) (L := L) (ru := ru) (dr := dr) (sr := sr) (rd := rd) (rl := rl) (x := x) hc (zRD.q hQ) (T0 := T) (v1 := -(nI 1)) hT0 hn80 n 0 a 0 I1 .null (by omega) (by omega) (Nat.le_refl _) hg0 hw (f1.ct hI (by decide)) hA1 hT1 (f1.cs (zRD.q hQ) hR (zRD.nn hQ (by decide)))
  have hwg := (grun_wf (cs := cs) (t := t) (p := p) hc hT0 hn80 n 0 a 0 (Nat.le_refl _) (by omega) hw).1
  rw [← show grn R S f g cs p t n a = grun (gat R S f g cs p t n) t n n 0 a 0 from rfl] at e2 h2 g2 g3 hwg
  have f3 : fW [15, 19] I I2 := (f1.mono (by decide)).tr (f2.mono (by decide))
  have hB : cSt I2 19 p a := f2.st (s := 18) (Or.inr (Or.inr rfl)) h1 (by decide)
  have hP2 := f3.pa hP (by decide)
  have h24 : (grn R S f g cs p t n a).2.1 24 < 2 ^ 31 := by
    have := hwg.2.2.2.1
    have := hwg.1
    omega
  obtain ⟨I3, e3, h3, h3', f4⟩ : ∃ I3, res d 121 45 [.ref 1, .int (-(nI 1)), .int (nI (grn R S f g cs p t n a).2.2), .int (nI n), .int (nI (grn R S f g cs p t n a).1), w2] [] (I2, L, rR ru dr sr rd rl, 65, x) = res d 121 52 [.ref 1, .int (-(nI 1)), .int (nI (grn R S f g cs p t n a).2.2), .int (nI n), .int (nI (grn R S f g cs p t n a).1), w2] [] (I3, L, rR ru dr sr rd rl, 65, x) ∧ cPa I3 p (if 0 < (grn R S f g cs p t n a).2.2 then (a :: u).take 12 else u) kp ∧ cSt I3 15 p (grn R S f g cs p t n a).2.1 ∧ fW [20, 21] I2 I3 := by
    by_cases z : 0 < (grn R S f g cs p t n a).2.2
    · obtain ⟨I3, e3, h3, f4⟩ := s26 (d := d) (L := L) (ru := ru) (dr := dr) (sr := sr) (rd := rd) (rl := rl) (x := x) (s := 18) (Or.inr (Or.inr rfl)) hB hP2
      rw [if_pos z]
      exact ⟨I3, by rw [e121_45, if_neg (by rw [nI_l0 (by omega)]; omega), e3, bV_n], h3, f4.st (s := 14) (Or.inl rfl) h2 (by decide), f4⟩
    · rw [if_neg z]
      exact ⟨I2, by rw [e121_45, if_pos (by rw [nI_l0 (by omega)]; omega)], hP2, h2, fW.rf⟩
  obtain ⟨I4, e4, h4, f5⟩ := s101 (d := d) (L := L) (ru := ru) (dr := dr) (sr := sr) (rd := rd) (rl := rl) (x := x) (I := I3)
  obtain ⟨I5, L5, e5, h5, f6, g6⟩ := s102 (d := d) (v := if (grn R S f g cs p t n a).1 < n then lN 1 else lN 0) (ru := ru) (dr := dr) (sr := sr) (rd := rd) (rl := rl) (x := x) h4 (by decide)
  have h36 : cSt I5 15 p _ := (f5.tr f6).st (s := 14) (Or.inl rfl) h3' (by decide)
  obtain ⟨I6, L6, e6, h6, f7, g7⟩ := s102 (d := d) (v := lN ((grn R S f g cs p t n a).2.1 24)) (ru := ru) (dr := dr) (sr := sr) (rd := rd) (rl := rl) (x := x) h5 (show 1 < 8 by decide)
  have f8 : fW [4] I3 I6 := f5.tr (f6.tr f7)
  have f9 : fW [4, 15, 19, 20, 21] I I6 := (f3.mono (by decide)).tr ((f4.mono (by decide)).tr (f8.mono (by decide)))
  have f10 : fW [2] I6 (zup I6 2 1 (nI 0)) := fW.up (by decide) (by decide) (by decide)
  have f11 : fW [2, 4, 15, 19, 20, 21] I (zup I6 2 1 (nI 0)) := (f9.mono (by decide)).tr (f10.mono (by decide))
  refine ⟨_, L6, ?_, ⟨f11.ct hI (by decide), f10.st (s := 14) (Or.inl rfl) (f7.st (s := 14) (Or.inl rfl) h36 (by decide)) (by decide), (f9.tx hT (by decide)).cut (Nat.zero_le _), f10.to h6 (by decide) rfl, f10.pa (f8.pa h3 (by decide)) (by decide), f11.clu hC (by decide), f11.sig hS (by decide), hQ, f11.cs (zRD.q hQ) hR (zRD.nn hQ (by decide))⟩⟩
  have e55 : res d 121 55 [.ref 1, .int (-(nI 1)), .int (nI (grn R S f g cs p t n a).2.2), .int (nI n), .int (nI (grn R S f g cs p t n a).1), w2] [] (I4, L, rR ru dr sr rd rl, 65, x) = res d 121 63 [.ref 1, .int (-(nI 1)), .int (nI (grn R S f g cs p t n a).2.2), .int (nI n), .int (nI (grn R S f g cs p t n a).1), w2] [.long (if (grn R S f g cs p t n a).1 < n then lN 1 else lN 0), .ref 4] (I4, L, rR ru dr sr rd rl, 65, x) := by
    rw [e121_55]
    by_cases z : (grn R S f g cs p t n a).1 < n
    · rw [if_neg (by rw [nI_leI (by omega) (by omega)]; omega), if_pos z]
    · rw [if_pos (by rw [nI_leI (by omega) (by omega)]; omega), if_neg z]
  rw [k121, e0, bI_i, e121_2, if_pos rfl, e1, bV_n, e121_13, s97 hT1, bI_i, e121_16, e2, e3, e121_52, e4, bV_n, e55, e121_63, e5, bV_n, e121_64, s69 (s := 14) (Or.inl rfl) h36, bI_i, e121_69, nI_l h24, e6, bV_n, e121_71, s96, bV_n, e121_74, if_pos rfl]

end
