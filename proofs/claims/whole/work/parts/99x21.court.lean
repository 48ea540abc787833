section
variable {I : Nat → Nat → Int32} {L : Nat → Nat → Int64} {ru dr : Nat} {sr : Nat → Option Nat} {rd : Option Nat} {rl x : Nat}
variable {d R S p n T : Nat} {f g : Nat → Nat} {a : zP} {t : Nat → Nat} {l : List Int64} {u : List zP} {kp : Nat → Option zP} {cl : List (Nat × Nat)} {si : List (Nat × Int32)} {cs : zC}

/-! a court's text -/
def csg (t : Nat → Nat) (k : Nat) : Bool := decide (t k = 49 ∨ t k = 50)
def cwr (t : Nat → Nat) (n : Nat) : Option Nat := if fa_first (fun k => !csg t k) (min n 8) < min n 8 then some (fa_first (fun k => !csg t k) (min n 8)) else if min n 8 = 0 ∨ min n 8 < n then some (min n 8) else none
theorem l11 {m : Nat} (hT : cTx I n t) (hm : m ≤ n) (hm8 : m = min n 8) : ∀ j k (w4 : Value), k + j = m → (∀ i, i < k → csg t i = true) → res d 11 7 [.ref 6, .ref 2, .int (nI m), .int (nI k), w4] [] (I, L, rR ru dr sr rd rl, 65, x) = some (some (.int (opI (cwr t n))), (I, L, rR ru dr sr rd rl, 65, x))
  | 0, k, w4, hk, hy => by
    have := hT.2.1
    have hnf : ¬ fa_first (fun k => !csg t k) m < m := fa_first_end fun j hj => by rw [hy j (by omega)]; rfl
    unfold cwr
    rw [← hm8, if_neg hnf, l11_7, if_pos (by rw [nI_leI (by omega) (by omega)]; omega)]
    by_cases z : m = 0
    · rw [if_pos ((nI_z (by omega)).mpr z), if_pos (Or.inl z)]; rfl
    · rw [if_neg (by rw [nI_z (by omega)]; exact z), s97 hT, bI_i, e11_28]
      by_cases y : m < n
      · rw [if_neg (by rw [nI_leI (by omega) (by omega)]; omega), if_pos (Or.inr y)]; rfl
      · rw [if_pos (by rw [nI_leI (by omega) (by omega)]; omega), if_neg (fun q => q.elim z y)]; rfl
  | j + 1, k, w4, hk, hy => by
    have hn := hT.2.1
    have hc2 := (hT.2.2 k (by omega)).2
    rw [l11_7, if_neg (by rw [nI_leI (by omega) (by omega)]; omega), s99 hT (by omega), bI_i, e11_13]
    have hyes : csg t k = true → ∀ w4, res d 11 7 [.ref 6, .ref 2, .int (nI m), .int (nI k + nI 1), w4] [] (I, L, rR ru dr sr rd rl, 65, x) = some (some (.int (opI (cwr t n))), (I, L, rR ru dr sr rd rl, 65, x)) := fun h w4 => by
      rw [nI_add]
      exact l11 hT hm hm8 j (k + 1) w4 (by omega) (fun i hi => by
        by_cases z : i = k
        · rw [z]; exact h
        · exact hy i (by omega))
    by_cases z1 : t k = 49
    · have ed : dga t n k = nI 1 := by unfold dga; rw [if_pos ⟨by omega, by rw [z1]; rfl⟩, z1]
      rw [ed, if_pos rfl]
      exact hyes (decide_eq_true (Or.inl z1)) _
    · by_cases z2 : t k = 50
      · have ed : dga t n k = nI 2 := by unfold dga; rw [if_pos ⟨by omega, by rw [z2]; rfl⟩, z2]
        rw [ed, if_neg (by decide), if_pos rfl]
        exact hyes (decide_eq_true (Or.inr z2)) _
      · have hno : csg t k = false := decide_eq_false (by omega)
        have hf : fa_first (fun k => !csg t k) m = k := fa_first_at (by omega) (by show (!csg t k) = true; rw [hno]; rfl) (fun i hi => by show (!csg t i) = false; rw [hy i hi]; rfl)
        have ee : opI (cwr t n) = nI k := by
          unfold cwr
          rw [← hm8, hf, if_pos (by omega)]
          rfl
        rw [ee]
        by_cases y : k < n ∧ dgt (t k) = true
        · have hd := of_decide_eq_true y.2
          have ed : dga t n k = nI (t k - 48) := by unfold dga; rw [if_pos y]
          rw [ed, if_neg (by rw [nI_eq (by omega) (by omega)]; omega), if_neg (by rw [nI_eq (by omega) (by omega)]; omega)]
        · have ed : dga t n k = -(nI 1) := by unfold dga; rw [if_neg y]
          rw [ed, if_neg (by decide), if_neg (by decide)]
theorem s11 (hT : cTx I n t) : cal d 11 [.ref 6, .ref 2] (I, L, rR ru dr sr rd rl, 65, x) = some (some (.int (opI (cwr t n))), (I, L, rR ru dr sr rd rl, 65, x)) := by
  have := hT.2.1
  rw [k11, s97 hT, bI_i, e11_2, zmin_n (by omega) (by omega)]
  exact l11 hT (Nat.min_le_left _ _) rfl (min n 8) 0 _ (by omega) (fun i hi => absurd hi (Nat.not_lt_zero _))
theorem cwr_none (h : cwr t n = none) : 1 ≤ n ∧ n ≤ 8 ∧ ∀ k, k < n → t k = 49 ∨ t k = 50 := by
  unfold cwr at h
  split at h
  · cases h
  · rename_i z
    split at h
    · cases h
    · rename_i y
      have hm : min n 8 = n := by omega
      refine ⟨by omega, by omega, fun k hk => ?_⟩
      rw [hm] at z
      have h1 := fa_first_no (fun k => !csg t k) n k (by have := fa_first_le (fun k => !csg t k) n; omega)
      have h2 : csg t k = true := by
        have : (!csg t k) = false := h1
        cases w : csg t k with
        | true => rfl
        | false => rw [w] at this; cases this
      exact of_decide_eq_true h2
theorem cwr_le {e : Nat} (h : cwr t n = some e) : e ≤ 8 := by
  unfold cwr at h
  split at h
  · cases h; omega
  · split at h
    · cases h; omega
    · cases h
/-- the court that a text tells -/
def cff (t : Nat → Nat) (r : Nat) : Nat := fb_sm (fun k => t k - 48) r
def cgg (t : Nat → Nat) (n s : Nat) : Nat := fb_ct (fun r => decide (cff t (r + 1) ≤ s)) n
theorem cff_s (h : ∀ k, k < n → t k = 49 ∨ t k = 50) {r : Nat} (hr : r < n) : cff t r < cff t (r + 1) ∧ cff t (r + 1) ≤ cff t r + 2 := by
  have e : cff t (r + 1) = cff t r + (t r - 48) := rfl
  rcases h r hr with q | q <;> omega
theorem cff_m (h : ∀ k, k < n → t k = 49 ∨ t k = 50) : ∀ j r, r + j ≤ n → cff t r ≤ cff t (r + j)
  | 0, _, _ => Nat.le_refl _
  | j + 1, r, hr => Nat.le_trans (cff_m h j r (by omega)) (Nat.le_of_lt (cff_s h (show r + j < n by omega)).1)
theorem cgg_r (h : ∀ k, k < n → t k = 49 ∨ t k = 50) {r s : Nat} (hr : r < n) (h1 : cff t r ≤ s) (h2 : s < cff t (r + 1)) : cgg t n s = r := by
  unfold cgg
  have e : n = r + (n - r) := by omega
  rw [e, fb_ct_split, fb_ct_all.mpr (fun k hk => decide_eq_true ?_), fb_ct_zero.mpr (fun k hk => decide_eq_false ?_)]
  · rfl
  · have := cff_m h k (r + 1) (by omega)
    rw [show r + 1 + k = r + k + 1 by omega] at this
    omega
  · have := cff_m h (r - (k + 1)) (k + 1) (by omega)
    rw [show k + 1 + (r - (k + 1)) = r by omega] at this
    omega
theorem cct (h1 : 1 ≤ n) (h8 : n ≤ 8) (h : ∀ k, k < n → t k = 49 ∨ t k = 50) : zCt n (cff t n) (cff t) (cgg t n) := by
  refine ⟨h1, h8, rfl, rfl, fun r hr => cff_s h hr, fun r hr s a b => cgg_r h hr a b, ?_⟩
  unfold cgg
  refine fb_ct_all.mpr fun k hk => decide_eq_true ?_
  have := cff_m h (n - (k + 1)) (k + 1) (by omega)
  rw [show k + 1 + (n - (k + 1)) = n by omega] at this
  exact this
/-- k rows laid -/
def cLy (I : Nat → Nat → Int32) (t : Nat → Nat) (n k : Nat) : Prop := I 6 2 = nI k ∧ I 6 3 = nI (cff t k) ∧ (∀ s, s < cff t k → I 7 s = nI (cgg t n s)) ∧ ∀ r, r < k → I 8 r = nI (sqs (cff t) r)
theorem s13 {k : Nat} (h8 : n ≤ 8) (h : ∀ k, k < n → t k = 49 ∨ t k = 50) (hk : k < n) (hL : cLy I t n k) : ∃ I', cal d 13 [.ref 6, .int (nI (t k - 48))] (I, L, rR ru dr sr rd rl, 65, x) = some (none, (I', L, rR ru dr sr rd rl, 65, x)) ∧ cLy I' t n (k + 1) ∧ fW [6, 7, 8] I I' := by
  obtain ⟨l1, l2, l3, l4⟩ := hL
  have hle : cff t k ≤ 2 * k := by
    have := fb_sm_bound (f := fun k => t k - 48) (c := 2) (n := k) (fun j hj => by rcases h j (by omega) with q | q <;> omega)
    show fb_sm _ k ≤ _
    omega
  have eS : cff t (k + 1) = cff t k + (t k - 48) := rfl
  have hu : ∀ (J : Nat → Nat → Int32) (c i : Nat) (w : Int32), c = 6 ∨ c = 7 ∨ c = 8 → fW [6, 7, 8] J (zup J c i w) := fun J c i w hc => by
    rcases hc with rfl | rfl | rfl <;> exact fW.up (by decide) (by decide) (by decide)
  rcases h k hk with q | q
  · rw [q] at eS ⊢
    have g0 : cgg t n (cff t k) = k := cgg_r h hk (Nat.le_refl _) (by omega)
    have es : sqs (cff t) k = 0 ||| 2 ^ cff t k := by
      unfold sqs
      rw [eS, show cff t k + (49 - 48) - cff t k = 1 by omega]
      rfl
    refine ⟨zup (zup (zup (zup (zup I 8 k (nI 0)) 7 (cff t k) (nI k)) 8 k (nI (0 ||| 2 ^ cff t k))) 6 3 (nI (cff t k + 1))) 6 2 (nI (k + 1)), ?_, ⟨?_, ?_, fun s hs => ?_, fun r hr => ?_⟩, ((((hu _ _ _ _ (by decide)).tr (hu _ _ _ _ (by decide))).tr (hu _ _ _ _ (by decide))).tr (hu _ _ _ _ (by decide))).tr (hu _ _ _ _ (by decide))⟩
    · have a1 : (zup I 8 k (nI 0)) 6 2 = nI k := by rw [zup_ne _ _ _ (by decide)]; exact l1
      have a2 : (zup I 8 k (nI 0)) 6 3 = nI (cff t k) := by rw [zup_ne _ _ _ (by decide)]; exact l2
      have a3 : (zup I 8 k (nI 0)) 8 k = nI 0 := by rw [zup_v, if_pos rfl]
      rw [k13, l1, if_pos (by rw [nI_ltI (by omega) (by omega)]; omega), if_pos (ak_8 (by omega)), nI_clamp (by omega), l13_13, if_neg (by decide), a2, if_neg (by rw [nI_leI (by omega) (by omega)]; omega), if_pos (ak_7 (by omega)), a1, if_pos (ak_8 (by omega)), if_pos (ak_8 (by omega)), nI_clamp (by omega), nI_clamp (by omega), a3, zshl1 (by omega), fa_or, nI_add, nI_add, l13_13, if_pos (by decide), e13_47]
      have a4 : (zup (zup (zup (zup I 8 k (nI 0)) 7 (cff t k) (nI k)) 8 k (nI (0 ||| 2 ^ cff t k))) 6 3 (nI (cff t k + 1))) 6 2 = nI k := by rw [zup_v, if_neg (by decide), zup_ne _ _ _ (by decide), zup_ne _ _ _ (by decide)]; exact a1
      rw [a4, nI_add]
    · rw [zup_v, if_pos rfl]
    · rw [zup_v, if_neg (by decide), zup_v, if_pos rfl, eS]
    · rw [zup_ne _ _ _ (by decide), zup_ne _ _ _ (by decide), zup_ne _ _ _ (by decide), zup_v]
      by_cases z : s = cff t k
      · rw [if_pos z, z, g0]
      · rw [if_neg z, zup_ne _ _ _ (by decide)]; exact l3 s (by omega)
    · rw [zup_ne _ _ _ (by decide), zup_ne _ _ _ (by decide), zup_v]
      by_cases z : r = k
      · rw [if_pos z, z, es]
      · rw [if_neg z, zup_ne _ _ _ (by decide), zup_v, if_neg z]; exact l4 r (by omega)
  · rw [q] at eS ⊢
    have g0 : cgg t n (cff t k) = k := cgg_r h hk (Nat.le_refl _) (by omega)
    have g1 : cgg t n (cff t k + 1) = k := cgg_r h hk (by omega) (by omega)
    have es : sqs (cff t) k = 0 ||| 2 ^ cff t k ||| 2 ^ (cff t k + 1) := by
      unfold sqs
      rw [eS, show cff t k + (50 - 48) - cff t k = 2 by omega]
      rfl
    refine ⟨zup (zup (zup (zup (zup (zup (zup (zup I 8 k (nI 0)) 7 (cff t k) (nI k)) 8 k (nI (0 ||| 2 ^ cff t k))) 6 3 (nI (cff t k + 1))) 7 (cff t k + 1) (nI k)) 8 k (nI (0 ||| 2 ^ cff t k ||| 2 ^ (cff t k + 1)))) 6 3 (nI (cff t k + 1 + 1))) 6 2 (nI (k + 1)), ?_, ⟨?_, ?_, fun s hs => ?_, fun r hr => ?_⟩, (((((((hu _ _ _ _ (by decide)).tr (hu _ _ _ _ (by decide))).tr (hu _ _ _ _ (by decide))).tr (hu _ _ _ _ (by decide))).tr (hu _ _ _ _ (by decide))).tr (hu _ _ _ _ (by decide))).tr (hu _ _ _ _ (by decide))).tr (hu _ _ _ _ (by decide))⟩
    · have a1 : (zup I 8 k (nI 0)) 6 2 = nI k := by rw [zup_ne _ _ _ (by decide)]; exact l1
      have a2 : (zup I 8 k (nI 0)) 6 3 = nI (cff t k) := by rw [zup_ne _ _ _ (by decide)]; exact l2
      have a3 : (zup I 8 k (nI 0)) 8 k = nI 0 := by rw [zup_v, if_pos rfl]
      have b1 : (zup (zup (zup (zup I 8 k (nI 0)) 7 (cff t k) (nI k)) 8 k (nI (0 ||| 2 ^ cff t k))) 6 3 (nI (cff t k + 1))) 6 2 = nI k := by rw [zup_v, if_neg (by decide), zup_ne _ _ _ (by decide), zup_ne _ _ _ (by decide)]; exact a1
      have b2 : (zup (zup (zup (zup I 8 k (nI 0)) 7 (cff t k) (nI k)) 8 k (nI (0 ||| 2 ^ cff t k))) 6 3 (nI (cff t k + 1))) 6 3 = nI (cff t k + 1) := by rw [zup_v, if_pos rfl]
      have b3 : (zup (zup (zup (zup I 8 k (nI 0)) 7 (cff t k) (nI k)) 8 k (nI (0 ||| 2 ^ cff t k))) 6 3 (nI (cff t k + 1))) 8 k = nI (0 ||| 2 ^ cff t k) := by rw [zup_ne _ _ _ (by decide), zup_v, if_pos rfl]
      rw [k13, l1, if_pos (by rw [nI_ltI (by omega) (by omega)]; omega), if_pos (ak_8 (by omega)), nI_clamp (by omega), l13_13, if_neg (by decide), a2, if_neg (by rw [nI_leI (by omega) (by omega)]; omega), if_pos (ak_7 (by omega)), a1, if_pos (ak_8 (by omega)), if_pos (ak_8 (by omega)), nI_clamp (by omega), nI_clamp (by omega), a3, zshl1 (by omega), fa_or, nI_add, nI_add, l13_13, if_neg (by decide), b2, if_neg (by rw [nI_leI (by omega) (by omega)]; omega), if_pos (ak_7 (by omega)), b1, if_pos (ak_8 (by omega)), if_pos (ak_8 (by omega)), nI_clamp (by omega), nI_clamp (by omega), b3, zshl1 (by omega), fa_or, nI_add, nI_add, l13_13, if_pos (by decide), e13_47]
      have a4 : (zup (zup (zup (zup (zup (zup (zup I 8 k (nI 0)) 7 (cff t k) (nI k)) 8 k (nI (0 ||| 2 ^ cff t k))) 6 3 (nI (cff t k + 1))) 7 (cff t k + 1) (nI k)) 8 k (nI (0 ||| 2 ^ cff t k ||| 2 ^ (cff t k + 1)))) 6 3 (nI (cff t k + 1 + 1))) 6 2 = nI k := by rw [zup_v, if_neg (by decide), zup_ne _ _ _ (by decide), zup_ne _ _ _ (by decide)]; exact b1
      rw [a4, nI_add]
    · rw [zup_v, if_pos rfl]
    · rw [zup_v, if_neg (by decide), zup_v, if_pos rfl, eS]
    · rw [zup_ne _ _ _ (by decide), zup_ne _ _ _ (by decide), zup_ne _ _ _ (by decide), zup_v]
      by_cases z : s = cff t k + 1
      · rw [if_pos z, z, g1]
      · rw [if_neg z, zup_ne _ _ _ (by decide), zup_ne _ _ _ (by decide), zup_v]
        by_cases y : s = cff t k
        · rw [if_pos y, y, g0]
        · rw [if_neg y, zup_ne _ _ _ (by decide)]; exact l3 s (by omega)
    · rw [zup_ne _ _ _ (by decide), zup_ne _ _ _ (by decide), zup_v]
      by_cases z : r = k
      · rw [if_pos z, z, es]
      · rw [if_neg z, zup_ne _ _ _ (by decide), zup_ne _ _ _ (by decide), zup_v, if_neg z, zup_ne _ _ _ (by decide), zup_v, if_neg z]; exact l4 r (by omega)
theorem l12 (h8 : n ≤ 8) (h : ∀ k, k < n → t k = 49 ∨ t k = 50) : ∀ j k (I : Nat → Nat → Int32), k + j = n → cTx I n t → cLy I t n k → ∃ I', res d 12 8 [.ref 6, .ref 2, .int (nI k)] [] (I, L, rR ru dr sr rd rl, 65, x) = some (none, (I', L, rR ru dr sr rd rl, 65, x)) ∧ cLy I' t n n ∧ fW [6, 7, 8] I I'
  | 0, k, I, hk, hT, hL => by
    have : k = n := by omega
    subst this
    exact ⟨I, by rw [l12_8, s97 hT, bI_i, e12_11, if_pos (by rw [nI_leI (by omega) (by omega)]; omega)], hL, fW.rf⟩
  | j + 1, k, I, hk, hT, hL => by
    have hd : dgt (t k) = true := by rcases h k (by omega) with q | q <;> rw [q] <;> rfl
    obtain ⟨I1, e1, h1, f1⟩ := s13 (d := d) (L := L) (ru := ru) (dr := dr) (sr := sr) (rd := rd) (rl := rl) (x := x) (k := k) h8 h (by omega) hL
    obtain ⟨I2, e2, h2, f2⟩ := l12 h8 h j (k + 1) I1 (by omega) (f1.tx hT (by decide)) h1
    refine ⟨I2, ?_, h2, f1.tr f2⟩
    rw [l12_8, s97 hT, bI_i, e12_11, if_neg (by rw [nI_leI (by omega) (by omega)]; omega), s99 hT (by omega), bI_i, e12_16]
    unfold dga
    rw [if_pos ⟨by omega, hd⟩, e1, bV_n, e12_17, nI_add, e2]
theorem o109f {e : Nat} (h : cInv I L ru dr R S f g p a n t l u kp cl si cs) (hw : wInv R S f g p a T u kp) (hg : cwr t n = some e) : ∃ I', cal d 109 [.ref 1] (I, L, rR ru dr sr rd rl, 65, x) = some (some (.int (-(nI 1) - nI e)), (I', L, rR ru dr sr rd rl, 65, x)) ∧ cInv I' L ru dr R S f g p a 0 t l u kp cl si cs := by
  obtain ⟨hI, hA, hT, hO, hP, hC, hS, hQ, hR⟩ := h
  obtain ⟨hc, hw, hu, hk⟩ := hw
  have he := cwr_le hg
  have f2 : fW [2] I (zup I 2 1 (nI 0)) := fW.up (by decide) (by decide) (by decide)
  have hne : nI e ≠ -(nI 1) := fun q => ((nI_m1 (by omega)).mp q).elim
  exact ⟨_, by rw [k109, s11 hT, hg, show opI (some e) = nI e from rfl, bI_i, e109_5, if_neg hne, e109_26, s96, bV_n, e109_29, if_neg hne], ⟨f2.ct hI (by decide), f2.st (Or.inl rfl) hA (by decide), hT.cut (Nat.zero_le _), f2.to hO (by decide) rfl, f2.pa hP (by decide), f2.clu hC (by decide), f2.sig hS (by decide), hQ, f2.cs (zRD.q hQ) hR (zRD.nn hQ (by decide))⟩⟩
theorem o109t (h : cInv I L ru dr R S f g p a n t l u kp cl si cs) (hw : wInv R S f g p a T u kp) (hg : cwr t n = none) : ∃ I', cal d 109 [.ref 1] (I, L, rR ru dr sr rd rl, 65, x) = some (some (.int (nI (cff t n))), (I', L, rR ru dr sr rd rl, 65, x)) ∧ cInv I' L ru dr n (cff t n) (cff t) (cgg t n) 0 (fun _ => 0) 0 t l [] (fun _ => none) [] [] cs := by
  obtain ⟨hI, hA, hT, hO, hP, hC, hS, hQ, hR⟩ := h
  obtain ⟨hc, hw, hu, hk⟩ := hw
  obtain ⟨n1, n8, hs⟩ := cwr_none hg
  have f0 : fW [6, 7, 8] I (zup (zup I 6 2 (nI 0)) 6 3 (nI 0)) := (fW.up (by decide) (by decide) (by decide)).tr (fW.up (by decide) (by decide) (by decide))
  obtain ⟨I1, e1, h1, f1⟩ := l12 (d := d) (L := L) (ru := ru) (dr := dr) (sr := sr) (rd := rd) (rl := rl) (x := x) n8 hs n 0 (zup (zup I 6 2 (nI 0)) 6 3 (nI 0)) (by omega) (f0.tx hT (by decide)) ⟨by rw [zup_v, if_neg (by decide), zup_v, if_pos rfl], by rw [zup_v, if_pos rfl]; rfl, fun s hs => absurd hs (Nat.not_lt_zero _), fun r hr => absurd hr (Nat.not_lt_zero _)⟩
  have f1' : fW [6, 7, 8] I I1 := f0.tr f1
  obtain ⟨I2, e2, h2, f2⟩ := s64 (d := d) (L := L) (ru := ru) (dr := dr) (sr := sr) (rd := rd) (rl := rl) (x := x) (I := I1) (s := 14) (Or.inl rfl)
  obtain ⟨I3, e3, h3, f3⟩ := s24 (d := d) (L := L) (ru := ru) (dr := dr) (sr := sr) (rd := rd) (rl := rl) (x := x) (I := I2) (p := 0)
  have f23 : fW [6, 7, 8, 15] I I2 := (f1'.mono (by decide)).tr (f2.mono (by decide))
  have h3' := h3 (by
    obtain ⟨-, -, -, ⟨w, hw', e, -⟩, -⟩ := hP
    exact ⟨w, hw', by rw [f23.1 20 (by decide) rfl]; exact e⟩)
  obtain ⟨I4, e4, h4, f4⟩ := s1 (d := d) (L := L) (ru := ru) (dr := dr) (sr := sr) (rd := rd) (rl := rl) (x := x) (I := I3)
  obtain ⟨I5, e5, h5, f5⟩ := s56 (d := d) (L := L) (ru := ru) (dr := dr) (sr := sr) (rd := rd) (rl := rl) (x := x) (I := I4)
  have f6 : fW [2] I5 (zup I5 2 1 (nI 0)) := fW.up (by decide) (by decide) (by decide)
  have f35 : fW [20, 23, 26] I2 I5 := (f3.mono (by decide)).tr ((f4.mono (by decide)).tr (f5.mono (by decide)))
  have f26 : fW [2, 20, 23, 26] I2 (zup I5 2 1 (nI 0)) := (f35.mono (by decide)).tr (f6.mono (by decide))
  have fall : fW [2, 6, 7, 8, 15, 20, 23, 26] I (zup I5 2 1 (nI 0)) := (f23.mono (by decide)).tr (f26.mono (by decide))
  have f12 : fW [2, 15, 20, 23, 26] I1 (zup I5 2 1 (nI 0)) := (f2.mono (by decide)).tr (f26.mono (by decide))
  have hct : cCt I1 n (cff t n) (cff t) (cgg t n) := ⟨h1.1, h1.2.1, h1.2.2.1, h1.2.2.2⟩
  have hct2 := f12.ct hct (by decide)
  have f45 : fW [2, 23, 26] I3 (zup I5 2 1 (nI 0)) := (f4.mono (by decide)).tr ((f5.mono (by decide)).tr (f6.mono (by decide)))
  have f56 : fW [2, 26] I4 (zup I5 2 1 (nI 0)) := (f5.mono (by decide)).tr (f6.mono (by decide))
  refine ⟨zup I5 2 1 (nI 0), ?_, ⟨hct2, f26.st (s := 14) (Or.inl rfl) h2 (by decide), ((f35.tx (f23.tx hT (by decide)) (by decide)).cut (Nat.zero_le _)), fall.to hO (by decide) rfl, f45.pa h3' (by decide), f56.clu h4 (by decide), f6.sig h5 (by decide), hQ, fall.cs (zRD.q hQ) hR (zRD.nn hQ (by decide))⟩⟩
  rw [k109, s11 hT, hg, show opI none = -(nI 1) from rfl, bI_i, e109_5, if_pos rfl, k12, e1, bV_n, e109_14, e2, bV_n, e109_17, e3, bV_n, e109_20, e4, bV_n, e109_23, e5, bV_n, e109_26, s96, bV_n, e109_29, if_pos rfl, s15 (cct n1 n8 hs) hct2, bI_i, e109_35]

end
