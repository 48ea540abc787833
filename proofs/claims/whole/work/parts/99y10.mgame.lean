section
variable {I : Nat → Nat → Int32} {L : Nat → Nat → Int64} {ru dr : Nat} {sr : Nat → Option Nat} {rd : Option Nat} {rl x : Nat}
variable {d R S p n T rn : Nat} {f g rt : Nat → Nat} {a : zP} {t : Nat → Nat} {l : List Int64} {u : List zP} {kp : Nat → Option zP} {cl : List (Nat × Nat)} {si : List (Nat × Int32)} {cs : zC}

theorem ms_7 (I : Nat → Nat → Int32) (k : Nat) (w v : Int32) : zup (ms I k w) 36 7 v = ms (zup I 36 7 v) k w := by
  funext c j
  by_cases z : c = 36
  · subst z
    unfold ms
    simp only [zup_v]
    by_cases y : j = 7
    · rw [if_pos y, if_neg (by omega), if_neg (by omega), if_pos y]
    · rw [if_neg y]
      by_cases w1 : j = 15
      · rw [if_pos w1, if_pos w1]
      · rw [if_neg w1, if_neg w1]
        by_cases w2 : j = 14
        · rw [if_pos w2, if_pos w2]
        · rw [if_neg w2, if_neg w2, if_neg y]
  · rw [zup_ne _ _ _ z, ms_c _ _ _ z, ms_c _ _ _ z, zup_ne _ _ _ z]
theorem ms_z (I : Nat → Nat → Int32) (k : Nat) (w v : Int32) {c0 q : Nat} (h : c0 ≠ 36) : zup (ms I k w) c0 q v = ms (zup I c0 q v) k w := by
  funext c j
  by_cases z : c = 36
  · subst z
    rw [zup_ne _ _ _ (Ne.symm h)]
    unfold ms
    simp only [zup_v, zup_ne _ _ _ (Ne.symm h)]
  · rw [ms_c _ _ _ z]
    by_cases y : c = c0
    · subst y
      rw [zup_v, zup_v, ms_c _ _ _ z]
    · rw [zup_ne _ _ _ y, zup_ne _ _ _ y, ms_c _ _ _ z]
theorem mHd.z {K : Nat → Nat → Int32} {top b c q : Nat} {v : Int32} (h : mHd K n top t b) (h1 : c ≠ 36) (h2 : c ≠ b) : mHd (zup K c q v) n top t b := by
  obtain ⟨a1, a2, a3, a4, a5, a6, a7⟩ := h
  exact ⟨a1, a2, by rw [zup_ne _ _ _ (Ne.symm h1)]; exact a3, by rw [zup_ne _ _ _ (Ne.symm h1)]; exact a4, a5, a6, fun k hk => by rw [zup_ne _ _ _ (Ne.symm h2)]; exact a7 k hk⟩
theorem mHd.same {K K' : Nat → Nat → Int32} {top b : Nat} (h : mHd K n top t b) (h1 : K' 36 = K 36) (h2 : K' b = K b) : mHd K' n top t b := by
  unfold mHd
  rw [h1, h2]
  exact h
def bgn (I : Nat → Nat → Int32) (n top : Nat) : Nat → Nat → Int32 := zup (zup (zup I 36 12 (nI n)) 36 13 (nI top)) 36 7 (nI 0)
theorem bgn_f {W : List Nat} {top : Nat} : fM W [7] I (bgn I n top) := (fM.fld (Or.inr rfl)).tr ((fM.fld (Or.inr rfl)).tr (fM.fld (Or.inl (by decide))))
theorem bgn_H {top : Nat} (hT : mTx I n t) (h : top ≤ 60) : mHd (bgn I n top) n top t 40 := by
  have h8 := hT.2.1
  refine ⟨hT.2.1, h, ?_, ?_, by decide, fun k hk => aok_n rfl rfl (show k < 80 by omega) (by decide), fun k hk => ?_⟩
  · unfold bgn; rw [zup_v, if_neg (by decide), zup_v, if_neg (by decide), zup_v, if_pos rfl]
  · unfold bgn; rw [zup_v, if_neg (by decide), zup_v, if_pos rfl]
  · unfold bgn; rw [zup_ne _ _ _ (by decide), zup_ne _ _ _ (by decide), zup_ne _ _ _ (by decide)]; exact hT.2.2 k hk
theorem m188 {top : Nat} (hT : mTx I n t) : cal d 188 [.ref 36, .int (nI top)] (I, L, rR ru dr sr rd rl, 65, x) = some (none, (ms (bgn I n top) 0 (-(nI 1)), L, rR ru dr sr (some 40) rl, 65, x)) := by
  rw [k188, hT.1, m187, bV_n, e188_7, ms_7]
  rfl
theorem mTx.none {I' : Nat → Nat → Int32} (h : I' 36 7 = nI 0) : mTx I' 0 t := ⟨h, by decide, fun k hk => absurd hk (Nat.not_lt_zero _)⟩
/-! acts read -/
def rdg (t : Nat → Nat) (m : Nat) : Nat → Nat → Nat × Option Nat
  | 0, k => (k, none)
  | e + 1, k => if dgt (cu t m k) = true then rdg t m e (k + 1) else (k, some k)
def rac (t : Nat → Nat) (m k : Nat) : Nat × Option Nat := match nd (cu t m k) with
  | none => (k, some k)
  | some e => rdg t m e (k + 1)
def gto (t : Nat → Nat) (n m : Nat) (r : Nat × Option Nat) : Option Nat := match r.2 with
  | some e => some e
  | none => gau t n m (m - r.1) r.1 0
theorem gau_rdg {m : Nat} : ∀ dg j k, k + j = m → gau t n m j k dg = gto t n m (rdg t m dg k)
  | 0, j, k, h => by
    unfold rdg gto
    rw [show m - k = j by omega]
  | dg + 1, 0, k, h => by
    unfold gau rdg
    rw [if_pos (Or.inl (by omega)), cu_m (show m ≤ k by omega), if_neg (by decide), show k = m by omega]
    rfl
  | dg + 1, j + 1, k, h => by
    unfold gau rdg
    rw [if_pos (by omega), show cu t m k = t k from if_pos (by omega)]
    by_cases z : dgt (t k) = true
    · rw [if_pos z, if_pos z, Nat.add_sub_cancel]
      exact gau_rdg dg j (k + 1) (by omega)
    · rw [if_neg z, if_neg z]
      rfl
theorem gau_rac {m j k : Nat} (h : k + j = m) (hk : k < n) : gau t n m j k 0 = gto t n m (rac t m k) := by
  unfold rac
  cases j with
  | zero =>
    unfold gau
    rw [if_pos (Or.inr (by omega)), cu_m (show m ≤ k by omega), show nd 256 = none from rfl, show k = m by omega]
    rfl
  | succ j =>
    rw [show cu t m k = t k from if_pos (by omega)]
    unfold gau
    rw [if_neg (Nat.lt_irrefl 0)]
    cases nd (t k) with
    | none => rfl
    | some e => exact gau_rdg e j (k + 1) (by omega)
theorem rdg_le {m : Nat} : ∀ e k, k ≤ m → k ≤ (rdg t m e k).1 ∧ (rdg t m e k).1 ≤ m ∧ ((rdg t m e k).2 = none → (rdg t m e k).1 = k + e) ∧ ∀ w, (rdg t m e k).2 = some w → w ≤ m
  | 0, k, h => ⟨Nat.le_refl _, h, fun _ => rfl, fun w q => by cases q⟩
  | e + 1, k, h => by
    unfold rdg
    by_cases z : dgt (cu t m k) = true
    · have hk : k < m := by
        by_cases y : k < m
        · exact y
        · rw [cu_m (show m ≤ k by omega)] at z; exact absurd z (by decide)
      rw [if_pos z]
      obtain ⟨h1, h2, h3, h4⟩ := rdg_le (m := m) e (k + 1) (by omega)
      exact ⟨by omega, h2, fun q => by rw [h3 q]; omega, h4⟩
    · rw [if_neg z]
      exact ⟨Nat.le_refl _, h, fun q => (by cases q), fun w q => by cases q; exact h⟩
def lw (K K' : Nat → Nat → Int32) (i : Nat) : Prop := (∀ c, c ≠ 53 → K' c = K c) ∧ ∀ q, q < 3 * i → K' 53 q = K 53 q
theorem lw.rf {K : Nat → Nat → Int32} {i : Nat} : lw K K i := ⟨fun _ _ => rfl, fun _ _ => rfl⟩
theorem lw.up {K K' : Nat → Nat → Int32} {i q : Nat} {v : Int32} (h : lw K K' i) (hq : 3 * i ≤ q) : lw K (zup K' 53 q v) i := ⟨fun c hc => by rw [zup_ne _ _ _ hc]; exact h.1 c hc, fun r hr => by rw [zup_v, if_neg (by omega)]; exact h.2 r hr⟩
theorem lw.tr {K K1 K2 : Nat → Nat → Int32} {i j : Nat} (h : lw K K1 i) (h2 : lw K1 K2 j) (hij : i ≤ j) : lw K K2 i := ⟨fun c hc => (h2.1 c hc).trans (h.1 c hc), fun q hq => (h2.2 q (by omega)).trans (h.2 q hq)⟩
def acq (J : Nat → Int32) (t : Nat → Nat) (n k i : Nat) : Prop := J (3 * i) = nI (t k) ∧ (t k = 103 → J (3 * i + 1) = dga t n (k + 1) ∧ J (3 * i + 2) = dga t n (k + 2)) ∧ (t k = 108 ∨ t k = 116 → J (3 * i + 1) = dga t n (k + 1) ∧ J (3 * i + 2) = nI 10 * dga t n (k + 2) + dga t n (k + 3))
theorem m194g {K : Nat → Nat → Int32} {k : Nat} (hH : mHd K n 60 t 40) (hk : k < 1000) : cal d 194 [.ref 36, .int (nI 48), .int (nI 10)] (ms K k (-(nI 1)), L, rR ru dr sr (some 40) rl, 65, x) = if dgt (cu t (min n 60) k) = true then some (some (.int (nI (cu t (min n 60) k - 48))), (ms K (k + 1) (-(nI 1)), L, rR ru dr sr (some 40) rl, 65, x)) else some (some (.int (nI 0)), (ms K k (nI k), L, rR ru dr sr (some 40) rl, 65, x)) := by
  by_cases z : dgt (cu t (min n 60) k) = true
  · have := of_decide_eq_true z
    rw [if_pos z, m194t hH (by decide) (by omega)]
  · have : ¬ (48 ≤ cu t (min n 60) k ∧ cu t (min n 60) k ≤ 57) := fun q => z (decide_eq_true q)
    rw [if_neg z, m194f hH hk (by decide) (by omega)]
theorem dd60 {K : Nat → Nat → Int32} {i k e : Nat} {u v2 : Int32} (hi : i < 80) (he : e < 2 ^ 31) : ∃ K', res d 238 60 [.ref 36, .int (nI (3 * i)), .int v2] [.int u, .int (nI (3 * i + 2)), .ref 53] (ms K k (nI e), L, rR ru dr sr (some 40) rl, 65, x) = some (none, (ms K' k (nI e), L, rR ru dr sr (some 40) rl, 65, x)) ∧ lw K K' i := by
  rw [e238_60, if_pos (ak_53 (by omega)), nI_clamp (by omega), ms_z _ _ _ _ (by decide)]
  by_cases z : v2 = nI 103
  · rw [if_pos z]
    exact ⟨_, rfl, lw.rf.up (by omega)⟩
  · rw [if_neg z, nI_add, if_pos (ak_53 (by omega)), m194d (msd he), bI_i, e238_81, if_pos (ak_53 (by omega)), nI_clamp (by omega), ms_z _ _ _ _ (by decide)]
    exact ⟨_, rfl, (lw.rf.up (by omega)).up (by omega)⟩
theorem dd50 {K : Nat → Nat → Int32} {i k e : Nat} {u v2 : Int32} (hi : i < 80) (he : e < 2 ^ 31) : ∃ K', res d 238 50 [.ref 36, .int (nI (3 * i)), .int v2] [.int u, .int (nI (3 * i + 1)), .ref 53] (ms K k (nI e), L, rR ru dr sr (some 40) rl, 65, x) = some (none, (ms K' k (nI e), L, rR ru dr sr (some 40) rl, 65, x)) ∧ lw K K' i := by
  rw [e238_50, if_pos (ak_53 (by omega)), nI_clamp (by omega), ms_z _ _ _ _ (by decide), m194d (msd he), bI_i, nI_add]
  obtain ⟨K', e1, h1⟩ := dd60 (d := d) (L := L) (ru := ru) (dr := dr) (sr := sr) (rl := rl) (x := x) (K := zup K 53 (3 * i + 1) u) (i := i) (k := k) (e := e) (u := nI 0) (v2 := v2) hi he
  exact ⟨K', e1, (lw.rf.up (by omega)).tr h1 (Nat.le_refl _)⟩
theorem dga_c {m k : Nat} (hm : m ≤ n) (h : dgt (cu t m k) = true) : dga t n k = nI (cu t m k - 48) ∧ k < m := by
  have hk : k < m := by
    by_cases y : k < m
    · exact y
    · rw [cu_m (show m ≤ k by omega)] at h; exact absurd h (by decide)
  have e : cu t m k = t k := if_pos hk
  rw [e] at h
  unfold dga
  rw [if_pos ⟨by omega, h⟩, e]
  exact ⟨rfl, hk⟩
theorem m238 {K : Nat → Nat → Int32} {i k : Nat} (hH : mHd K n 60 t 40) (hk : k ≤ min n 60) (hi : i < 80) : ∃ K', cal d 238 [.ref 36, .int (nI (3 * i))] (ms K k (-(nI 1)), L, rR ru dr sr (some 40) rl, 65, x) = some (none, (ms K' (rac t (min n 60) k).1 (opI (rac t (min n 60) k).2), L, rR ru dr sr (some 40) rl, 65, x)) ∧ lw K K' i ∧ ((rac t (min n 60) k).2 = none → acq (K' 53) t n k i) := by
  have hn := hH.1
  have hs : ∀ c, c < 256 → (sgn t (min n 60) k = nI c ↔ cu t (min n 60) k = c) := fun c hc => sgn_e hH hc
  have et : ∀ c, c < 256 → cu t (min n 60) k = c → t k = c := fun c hc e => by
    have : cu t (min n 60) k = t k := if_pos (cu_lt e hc)
    rw [← this]; exact e
  rw [k238, m189 hH (by omega), bI_i, e238_2]
  unfold rac
  -- no digits
  have z0 : ∀ c, c = 42 ∨ c = 47 → cu t (min n 60) k = c → ∃ K', res d 238 23 [.ref 36, .int (nI (3 * i)), .int (sgn t (min n 60) k)] [] (ms K k (-(nI 1)), L, rR ru dr sr (some 40) rl, 65, x) = some (none, (ms K' (k + 1) (-(nI 1)), L, rR ru dr sr (some 40) rl, 65, x)) ∧ lw K K' i ∧ acq (K' 53) t n k i := fun c hc e => by
    have e1 := (hs c (by omega)).mpr e
    have e2 := et c (by omega) e
    refine ⟨zup K 53 (3 * i) (nI c), ?_, lw.rf.up (by omega), by rw [zup_v, if_pos rfl, e2], fun q => by omega, fun q => by omega⟩
    rw [e1, e238_23, if_pos (ak_53 (by omega)), ms_v14, nI_add, ms_14, nI_clamp (by omega), ms_z _ _ _ _ (by decide)]
    rcases hc with rfl | rfl
    · rw [if_pos rfl]
    · rw [if_neg (by decide), if_pos rfl]
  have z1 : ∀ c, c = 103 ∨ c = 108 ∨ c = 116 → cu t (min n 60) k = c → ∃ K', res d 238 23 [.ref 36, .int (nI (3 * i)), .int (sgn t (min n 60) k)] [] (ms K k (-(nI 1)), L, rR ru dr sr (some 40) rl, 65, x) = some (none, (ms K' (rdg t (min n 60) (if c = 103 then 2 else 3) (k + 1)).1 (opI (rdg t (min n 60) (if c = 103 then 2 else 3) (k + 1)).2), L, rR ru dr sr (some 40) rl, 65, x)) ∧ lw K K' i ∧ ((rdg t (min n 60) (if c = 103 then 2 else 3) (k + 1)).2 = none → acq (K' 53) t n k i) := fun c hc e => by
    have e1 := (hs c (by omega)).mpr e
    have e2 := et c (by omega) e
    have hc1 : nI c ≠ nI 42 := by rw [Ne, nI_eq (by omega) (by omega)]; omega
    have hc2 : nI c ≠ nI 47 := by rw [Ne, nI_eq (by omega) (by omega)]; omega
    have H1 := hH.z (c := 53) (q := 3 * i) (v := nI c) (by decide) (by decide)
    rw [e1, e238_23, if_pos (ak_53 (by omega)), ms_v14, nI_add, ms_14, nI_clamp (by omega), ms_z _ _ _ _ (by decide), if_neg hc1, if_neg hc2, m194g H1 (by omega), nI_add]
    rw [show (if c = 103 then 2 else 3) = (if c = 103 then 1 else 2) + 1 by split <;> rfl]
    rw [rdg]
    by_cases y1 : dgt (cu t (min n 60) (k + 1)) = true
    · obtain ⟨a1, b1⟩ := dga_c (n := n) (by omega) y1
      have H2 := H1.z (c := 53) (q := 3 * i + 1) (v := nI (cu t (min n 60) (k + 1) - 48)) (by decide) (by decide)
      rw [if_pos y1, if_pos y1, bI_i, e238_50, if_pos (ak_53 (by omega)), nI_clamp (by omega), ms_z _ _ _ _ (by decide), m194g H2 (by omega), nI_add]
      rw [show (if c = 103 then 1 else 2) = (if c = 103 then 0 else 1) + 1 by split <;> rfl]
      rw [rdg]
      by_cases y2 : dgt (cu t (min n 60) (k + 1 + 1)) = true
      · obtain ⟨a2, b2⟩ := dga_c (n := n) (by omega) y2
        have H3 := H2.z (c := 53) (q := 3 * i + 2) (v := nI (cu t (min n 60) (k + 1 + 1) - 48)) (by decide) (by decide)
        rw [if_pos y2, if_pos y2, bI_i, e238_60, if_pos (ak_53 (by omega)), nI_clamp (by omega), ms_z _ _ _ _ (by decide)]
        by_cases w : c = 103
        · rw [if_pos (by rw [w]), if_pos w]
          refine ⟨_, rfl, ((lw.rf.up (by omega)).up (by omega)).up (by omega), fun _ => ⟨?_, fun _ => ⟨?_, ?_⟩, fun q => by omega⟩⟩
          · rw [zup_v, if_neg (by omega), zup_v, if_neg (by omega), zup_v, if_pos rfl, e2]
          · rw [zup_v, if_neg (by omega), zup_v, if_pos rfl, a1]
          · rw [zup_v, if_pos rfl, ← a2]
        · have e53 : (ms (zup (zup (zup K 53 (3 * i) (nI c)) 53 (3 * i + 1) (nI (cu t (min n 60) (k + 1) - 48))) 53 (3 * i + 2) (nI (cu t (min n 60) (k + 1 + 1) - 48))) (k + 1 + 1 + 1) (-(nI 1))) 53 (3 * i + 2) = nI (cu t (min n 60) (k + 1 + 1) - 48) := by rw [ms_c _ _ _ (by decide), zup_v, if_pos rfl]
          rw [if_neg (by rw [nI_eq (by omega) (by omega)]; exact w), if_neg w, nI_add, if_pos (ak_53 (by omega)), nI_clamp (by omega), e53, m194g H3 (by omega), rdg]
          by_cases y3 : dgt (cu t (min n 60) (k + 1 + 1 + 1)) = true
          · obtain ⟨a3, b3⟩ := dga_c (n := n) (by omega) y3
            rw [if_pos y3, if_pos y3, bI_i, e238_81, if_pos (ak_53 (by omega)), nI_clamp (by omega), ms_z _ _ _ _ (by decide)]
            refine ⟨_, rfl, (((lw.rf.up (by omega)).up (by omega)).up (by omega)).up (by omega), fun _ => ⟨?_, fun q => by omega, fun _ => ⟨?_, ?_⟩⟩⟩
            · rw [zup_v, if_neg (by omega), zup_v, if_neg (by omega), zup_v, if_neg (by omega), zup_v, if_pos rfl, e2]
            · rw [zup_v, if_neg (by omega), zup_v, if_neg (by omega), zup_v, if_pos rfl, a1]
            · rw [zup_v, if_pos rfl, ← a2, ← a3]
          · rw [if_neg y3, if_neg y3, bI_i, e238_81, if_pos (ak_53 (by omega)), nI_clamp (by omega), ms_z _ _ _ _ (by decide)]
            exact ⟨_, rfl, (((lw.rf.up (by omega)).up (by omega)).up (by omega)).up (by omega), fun q => by cases q⟩
      · rw [if_neg y2, if_neg y2, bI_i]
        obtain ⟨K', e3, h3⟩ := dd60 (d := d) (L := L) (ru := ru) (dr := dr) (sr := sr) (rl := rl) (x := x) (K := zup (zup K 53 (3 * i) (nI c)) 53 (3 * i + 1) (nI (cu t (min n 60) (k + 1) - 48))) (i := i) (k := k + 1 + 1) (e := k + 1 + 1) (u := nI 0) (v2 := nI c) hi (by omega)
        exact ⟨K', e3, ((lw.rf.up (by omega)).up (by omega)).tr h3 (Nat.le_refl _), fun q => by cases q⟩
    · rw [if_neg y1, if_neg y1, bI_i]
      obtain ⟨K', e3, h3⟩ := dd50 (d := d) (L := L) (ru := ru) (dr := dr) (sr := sr) (rl := rl) (x := x) (K := zup K 53 (3 * i) (nI c)) (i := i) (k := k + 1) (e := k + 1) (u := nI 0) (v2 := nI c) hi (by omega)
      exact ⟨K', e3, (lw.rf.up (by omega)).tr h3 (Nat.le_refl _), fun q => by cases q⟩
  by_cases c1 : cu t (min n 60) k = 42
  · obtain ⟨K', e, h1, h2⟩ := z0 42 (by omega) c1
    rw [if_pos ((hs 42 (by omega)).mpr c1), e, c1]
    exact ⟨K', rfl, h1, fun _ => h2⟩
  rw [if_neg (fun q => c1 ((hs 42 (by omega)).mp q))]
  by_cases c2 : cu t (min n 60) k = 47
  · obtain ⟨K', e, h1, h2⟩ := z0 47 (by omega) c2
    rw [if_pos ((hs 47 (by omega)).mpr c2), e, c2]
    exact ⟨K', rfl, h1, fun _ => h2⟩
  rw [if_neg (fun q => c2 ((hs 47 (by omega)).mp q))]
  by_cases c3 : cu t (min n 60) k = 116
  · obtain ⟨K', e, h1, h2⟩ := z1 116 (by omega) c3
    rw [if_pos ((hs 116 (by omega)).mpr c3), e, c3]
    exact ⟨K', rfl, h1, h2⟩
  rw [if_neg (fun q => c3 ((hs 116 (by omega)).mp q))]
  by_cases c4 : cu t (min n 60) k = 108
  · obtain ⟨K', e, h1, h2⟩ := z1 108 (by omega) c4
    rw [if_pos ((hs 108 (by omega)).mpr c4), e, c4]
    exact ⟨K', rfl, h1, h2⟩
  rw [if_neg (fun q => c4 ((hs 108 (by omega)).mp q))]
  by_cases c5 : cu t (min n 60) k = 103
  · obtain ⟨K', e, h1, h2⟩ := z1 103 (by omega) c5
    rw [if_pos ((hs 103 (by omega)).mpr c5), e, c5]
    exact ⟨K', rfl, h1, h2⟩
  rw [if_neg (fun q => c5 ((hs 103 (by omega)).mp q)), ms_v14, m191, bV_n, e238_22]
  have hnd : nd (cu t (min n 60) k) = none := by unfold nd; rw [if_neg c1, if_neg c2, if_neg c5, if_neg c4, if_neg c3]
  rw [hnd]
  exact ⟨K, rfl, lw.rf, fun q => by cases q⟩
/-! the text read -/
def acL (J : Nat → Int32) (t : Nat → Nat) (n : Nat) : Nat → Nat → Nat → Nat → Prop
  | 0, k, i, N => i = N ∧ k = n
  | F + 1, k, i, N => if k < n then acq J t n k i ∧ (nd (t k)).isSome = true ∧ acL J t n F (k + 1 + (nd (t k)).getD 0) (i + 1) N else i = N ∧ k = n
theorem acL.same {J J' : Nat → Int32} : ∀ F k i N, (∀ q, J' q = J q) → acL J t n F k i N → acL J' t n F k i N := fun F k i N h => by rw [show J' = J from funext h]; exact id
theorem l237a {w2 : Value} : ∀ F k i (K : Nat → Nat → Int32), min n 60 ≤ k + F → k ≤ min n 60 → i ≤ k → mHd K n 60 t 40 → ∃ K' kk ow N, res d 237 8 [.ref 36, .int (nI i), w2] [] (ms K k (-(nI 1)), L, rR ru dr sr (some 40) rl, 65, x) = res d 237 23 [.ref 36, .int (nI N), w2] [] (ms K' kk (opI ow), L, rR ru dr sr (some 40) rl, 65, x) ∧ lw K K' i ∧ ow = gau t n (min n 60) (min n 60 - k) k 0 ∧ (ow = none → kk = n ∧ n ≤ 60 ∧ N ≤ n ∧ i ≤ N ∧ acL (K' 53) t n F k i N) := by
  intro F
  induction F with
  | zero =>
    intro k i K hF hk hi hH
    have hn := hH.1
    have h12 := hH.2.2.1
    rw [l237_8, m190t, bI_i, e237_10, if_neg (by decide), ms_v _ _ _ (by decide) (by decide), h12, ms_v14]
    have e0 : min n 60 - k = 0 := by omega
    by_cases z : n ≤ k
    · rw [if_pos (by rw [nI_leI (by omega) (by omega)]; exact z)]
      refine ⟨K, k, none, i, rfl, lw.rf, ?_, fun _ => ⟨by omega, by omega, by omega, Nat.le_refl _, rfl, by omega⟩⟩
      rw [e0]
      unfold gau
      rw [if_neg (by omega)]
    · obtain ⟨K1, e1, h1, h2⟩ := m238 (d := d) (L := L) (ru := ru) (dr := dr) (sr := sr) (rl := rl) (x := x) (i := i) hH hk (by omega)
      have er : rac t (min n 60) k = (k, some k) := by unfold rac; rw [cu_m (show min n 60 ≤ k by omega)]; rfl
      rw [er] at e1
      rw [if_neg (by rw [nI_leI (by omega) (by omega)]; omega), zmul, e1, bV_n, e237_21, l237_8, m190f (show ms K1 (k, some k).1 (opI (k, some k).2) 36 15 ≠ -(nI 1) from msd (e := k) (by omega)), bI_i, e237_10, if_pos (show nI 0 = 0 from rfl), nI_add]
      refine ⟨K1, k, some k, i + 1, rfl, h1, ?_, fun q => by cases q⟩
      rw [e0]
      unfold gau
      rw [if_pos (Or.inr (by omega)), show k = min n 60 by omega]
  | succ F ih =>
    intro k i K hF hk hi hH
    have hn := hH.1
    have h12 := hH.2.2.1
    rw [l237_8, m190t, bI_i, e237_10, if_neg (by decide), ms_v _ _ _ (by decide) (by decide), h12, ms_v14]
    by_cases z : n ≤ k
    · rw [if_pos (by rw [nI_leI (by omega) (by omega)]; exact z)]
      refine ⟨K, k, none, i, rfl, lw.rf, ?_, fun _ => ⟨by omega, by omega, by omega, Nat.le_refl _, ?_⟩⟩
      · rw [show min n 60 - k = 0 by omega]
        unfold gau
        rw [if_neg (by omega)]
      · unfold acL
        rw [if_neg (by omega)]
        exact ⟨rfl, by omega⟩
    · obtain ⟨K1, e1, h1, h2⟩ := m238 (d := d) (L := L) (ru := ru) (dr := dr) (sr := sr) (rl := rl) (x := x) (i := i) hH hk (by omega)
      have eg := gau_rac (t := t) (n := n) (m := min n 60) (j := min n 60 - k) (k := k) (by omega) (by omega)
      rw [if_neg (by rw [nI_leI (by omega) (by omega)]; omega), zmul, e1, bV_n, e237_21, nI_add]
      cases y : (rac t (min n 60) k).2 with
      | some e =>
        have he : e < 2 ^ 31 := by
          unfold rac at y
          cases w : nd (cu t (min n 60) k) with
          | none => rw [w] at y; cases y; omega
          | some e' =>
            rw [w] at y
            have hk' : k < min n 60 := by
              by_cases v : k < min n 60
              · exact v
              · rw [cu_m (show min n 60 ≤ k by omega)] at w; cases w
            have := (rdg_le (t := t) e' (k + 1) (show k + 1 ≤ min n 60 by omega)).2.2.2 e y
            omega
        rw [l237_8, m190f (show ms K1 (rac t (min n 60) k).1 (opI (some e)) 36 15 ≠ -(nI 1) from msd he), bI_i, e237_10, if_pos (show nI 0 = 0 from rfl)]
        refine ⟨K1, _, some e, i + 1, rfl, h1, ?_, fun q => by cases q⟩
        rw [eg]
        unfold gto
        rw [y]
      | none =>
        obtain ⟨e', w, hk', hr1⟩ : ∃ e', nd (t k) = some e' ∧ k < min n 60 ∧ (rac t (min n 60) k).1 = k + 1 + e' ∧ (rac t (min n 60) k).1 ≤ min n 60 := by
          have hk' : k < min n 60 := by
            by_cases v : k < min n 60
            · exact v
            · unfold rac at y
              rw [cu_m (show min n 60 ≤ k by omega)] at y; cases y
          have ec : cu t (min n 60) k = t k := if_pos hk'
          unfold rac at y ⊢
          rw [ec] at y ⊢
          cases w : nd (t k) with
          | none => rw [w] at y; cases y
          | some e' =>
            rw [w] at y
            have := rdg_le (t := t) e' (k + 1) (show k + 1 ≤ min n 60 by omega)
            exact ⟨e', rfl, hk', this.2.2.1 y, this.2.1⟩
        have H1 : mHd K1 n 60 t 40 := hH.same (h1.1 36 (by decide)) (h1.1 40 (by decide))
        obtain ⟨K', kk, ow, N, e2, g1, g2, g3⟩ := ih (rac t (min n 60) k).1 (i + 1) K1 (by omega) hr1.2 (by omega) H1
        refine ⟨K', kk, ow, N, e2, h1.tr g1 (by omega), ?_, fun q => ?_⟩
        · rw [g2, eg]
          unfold gto
          rw [y]
        · obtain ⟨q1, q2, q3, q4, q5⟩ := g3 q
          refine ⟨q1, q2, q3, by omega, ?_⟩
          unfold acL
          rw [if_pos (by omega), w]
          refine ⟨?_, rfl, ?_⟩
          · obtain ⟨b1, b2, b3⟩ := h2 y
            unfold acq
            rw [g1.2 _ (by omega), g1.2 _ (by omega), g1.2 _ (by omega)]
            exact ⟨b1, b2, b3⟩
          · show acL (K' 53) t n F (k + 1 + e') (i + 1) N
            rw [← hr1.1]
            exact q5
/-! acts done -/
theorem m239 {k : Nat} {v2 v3 : Int32} (h2 : t k = 103 → v2 = dga t n (k + 1) ∧ v3 = dga t n (k + 2)) (h3 : t k = 108 ∨ t k = 116 → v2 = dga t n (k + 1) ∧ v3 = nI 10 * dga t n (k + 2) + dga t n (k + 3)) (hnd : (nd (t k)).isSome = true) (hd : 41 ≤ d) (hrl : rl = 44 ∨ rl = 45) (hct : zCt R S f g) (hq : mQ I rl 37 R S f g p a rn rt) (hw : zWf p S T a) (hT1 : T + 1 < 2 ^ 24) (hcs : (prs rt rn).2 = some cs) : ∃ I' L' rd', cal d 239 [.ref 36, .int (nI (t k)), .int v2, .int v3] (I, L, rR ru dr sr rd rl, 65, x) = some (some (.int (nI (if (gat R S f g cs p t n k a).2.isSome = true then 1 else 0))), (I', L', rR ru dr sr rd' rl, 65, x)) ∧ mQ I' rl 37 R S f g p ((gat R S f g cs p t n k a).2.getD a) rn rt ∧ fM [37] [] I I' ∧ ∀ b, b ≠ 48 → L' b = L b := by
  have hp := hw.1
  have hr37 : rl ∉ [37] := by rcases hrl with rfl | rfl <;> decide
  have hst : ∀ (J : Nat → Nat → Int32) (b : zP), fM [37] [] I J → mSt J 37 b → mQ J rl 37 R S f g p b rn rt := fun J b hf hb => ⟨hf.ct hq.1 (by decide), hf.fp hq.2.1 (by decide), hb, hf.ru' hrl hq.2.2.2 ⟨by decide, hr37⟩⟩
  have hP := hq.2.1
  rw [k239]
  unfold gat
  by_cases c1 : t k = 42
  · rw [if_pos c1, if_pos (by rw [c1]), hP]
    by_cases y : p = 0
    · rw [if_pos (by rw [y]; decide), if_pos y, e239_10, hP, if_pos (by rw [y]; decide), if_pos zb0]
      exact ⟨I, L, rd, rfl, hq, fM.rf, fun _ _ => rfl⟩
    · obtain ⟨I1, L1, rd1, e1, q1, -, f1, g1⟩ := q225 (d := d) (L := L) (ru := ru) (dr := dr) (sr := sr) (rd := rd) (rl := rl) (x := x) (c := 37) hd hrl hct (Or.inl rfl) hq hw (by omega) hT1 hcs
      rw [if_neg (by rw [nI_l0 (by omega)]; exact y), if_neg y, e1, bI_i, e239_9, e239_10, q1.2.1, if_neg (by rw [nI_l0 (by omega)]; exact y), if_pos zb1]
      exact ⟨I1, L1, rd1, rfl, q1, f1, g1⟩
  have hlt : t k < 256 ∧ (t k = 47 ∨ t k = 103 ∨ t k = 108 ∨ t k = 116) := by
    unfold nd at hnd
    rw [if_neg c1] at hnd
    by_cases w1 : t k = 47
    · omega
    · rw [if_neg w1] at hnd
      by_cases w2 : t k = 103
      · omega
      · rw [if_neg w2] at hnd
        by_cases w3 : t k = 108
        · omega
        · rw [if_neg w3] at hnd
          by_cases w4 : t k = 116
          · omega
          · rw [if_neg w4] at hnd; cases hnd
  rw [if_neg c1, if_neg (by rw [nI_eq (by omega) (by omega)]; exact c1)]
  by_cases c2 : t k = 47
  · rw [if_pos c2, if_pos (by rw [c2]), hP]
    unfold paA
    by_cases y : p = 0
    · rw [if_pos (by rw [y]; decide), if_pos y, e239_24, hP, if_pos (by rw [y]; decide), if_pos zb0]
      exact ⟨I, L, rd, rfl, hq, fM.rf, fun _ _ => rfl⟩
    · have h24 := hw.t (by omega : 0 < p)
      have e1 := m223 (d := d) (L := L) (ru := ru) (dr := dr) (sr := sr) (rd := rd) (rl := rl) (x := x) (Or.inl rfl) hp hP hq.2.2.1 h24
      have f1 : fM [37] [] I (zup I 37 24 (nI (nxt p a))) := fM.up (Or.inl (by decide)) (by decide)
      have q1 := hst _ _ f1 (hq.2.2.1.put (k := 24) (v := nxt p a))
      rw [if_neg (by rw [nI_l0 (by omega)]; exact y), if_neg y, e1, bV_n, e239_24, q1.2.1, if_neg (by rw [nI_l0 (by omega)]; exact y), if_pos zb1]
      exact ⟨_, L, rd, rfl, q1, f1, fun _ _ => rfl⟩
  rw [if_neg c2, if_neg (by rw [nI_eq (by omega) (by omega)]; exact c2)]
  by_cases c4 : t k = 108
  · obtain ⟨rfl, rfl⟩ := h3 (Or.inl c4)
    rw [if_neg (show ¬ t k = 103 by omega), if_pos c4, if_pos (by rw [c4]), m232 hct hq.1 hP hq.2.2.1 hw, bI_i, e239_49]
    cases y : (lvA S p a (dga t n (k + 1)) (nI 10 * dga t n (k + 2) + dga t n (k + 3))).2 with
    | none =>
      rw [if_neg (rfs_n (lvA_ok hct hw) y).2, if_pos zb0]
      exact ⟨I, L, rd, rfl, hq, fM.rf, fun _ _ => rfl⟩
    | some b =>
      obtain ⟨I1, e1, h1, f1⟩ := m233 (d := d) (L := L) (ru := ru) (dr := dr) (sr := sr) (rd := rd) (rl := rl) (x := x) hct.S16 hq.2.2.1 hw y
      rw [rfs_s y, if_pos (show 0 ≤ nI 0 by decide), e1, bI_i, e239_56, if_pos zb1]
      exact ⟨I1, L, rd, rfl, hst _ _ f1 h1, f1, fun _ _ => rfl⟩
  by_cases c5 : t k = 116
  · obtain ⟨rfl, rfl⟩ := h3 (Or.inr c5)
    rw [if_neg (show ¬ t k = 103 by omega), if_neg c4, if_pos c5, if_neg (by rw [nI_eq (by omega) (by omega)]; exact c4), if_pos (by rw [c5]), m229 hct hq.1 hP hq.2.2.1 hw, bI_i, e239_35]
    cases y : (tkA S p a (dga t n (k + 1)) (nI 10 * dga t n (k + 2) + dga t n (k + 3))).2 with
    | none =>
      rw [if_neg (rfs_n (tkA_ok hct hw) y).2, if_pos zb0]
      exact ⟨I, L, rd, rfl, hq, fM.rf, fun _ _ => rfl⟩
    | some b =>
      obtain ⟨I1, e1, h1, f1⟩ := m230 (d := d) (L := L) (ru := ru) (dr := dr) (sr := sr) (rd := rd) (rl := rl) (x := x) hct.S16 hq.2.2.1 hw y
      rw [rfs_s y, if_pos (show 0 ≤ nI 0 by decide), e1, bI_i, e239_42, if_pos zb1]
      exact ⟨I1, L, rd, rfl, hst _ _ f1 h1, f1, fun _ _ => rfl⟩
  have c3 : t k = 103 := by omega
  obtain ⟨rfl, rfl⟩ := h2 c3
  rw [if_pos c3, if_neg (by rw [nI_eq (by omega) (by omega)]; exact c4), if_neg (by rw [nI_eq (by omega) (by omega)]; exact c5), m235 hP hq.2.2.1 hw, bI_i, e239_63]
  cases y : (grA p a (dga t n (k + 1)) (dga t n (k + 2))).2 with
  | none =>
    rw [if_neg (rfs_n (grA_ok hct hw) y).2, if_pos zb0]
    exact ⟨I, L, rd, rfl, hq, fM.rf, fun _ _ => rfl⟩
  | some b =>
    rw [rfs_s y, if_pos (show 0 ≤ nI 0 by decide)]
    obtain ⟨q, e, hqp, ev, ew, he4, rfl, -⟩ := grA_s hp y
    have f1 : fM [37] [] I (zup I 37 (4 + q) (nI e)) := fM.up (Or.inl (by decide)) (by decide)
    rw [ev, ew, nI_add, if_pos (ak_37 (by omega)), if_pos zb1, nI_clamp (by omega)]
    exact ⟨_, L, rd, rfl, hst _ _ f1 (hq.2.2.1.put (k := 4 + q) (v := e)), f1, fun _ _ => rfl⟩
theorem acL.le {J : Nat → Int32} : ∀ F k i N, acL J t n F k i N → i ≤ N ∧ k ≤ n ∧ (k < n → i < N) ∧ (k = n → i = N)
  | 0, k, i, N, h => ⟨by have := h.1; omega, by have := h.2; omega, fun q => (by have := h.2; omega), fun _ => h.1⟩
  | F + 1, k, i, N, h => by
    unfold acL at h
    by_cases z : k < n
    · rw [if_pos z] at h
      have := acL.le F _ _ N h.2.2
      exact ⟨by omega, by omega, fun _ => by omega, fun _ => by omega⟩
    · rw [if_neg z] at h
      obtain ⟨h1, h2⟩ := h
      exact ⟨by omega, by omega, fun q => (by omega), fun _ => h1⟩
theorem l237b {N T0 : Nat} (hd : 41 ≤ d) (hrl : rl = 44 ∨ rl = 45) (hct : zCt R S f g) (hT0 : T0 + 80 < 2 ^ 24) (hN : N ≤ 60) (hcs : (prs rt rn).2 = some cs) : ∀ F k (a : zP) i (I : Nat → Nat → Int32) (L : Nat → Nat → Int64) (rd : Option Nat), n ≤ k + F → acL (I 53) t n F k i N → zWf p S (T0 + i) a → mQ I rl 37 R S f g p a rn rt → ∃ I' L' rd', res d 237 39 [.ref 36, .int (nI N), .int (nI i)] [] (I, L, rR ru dr sr rd rl, 65, x) = res d 237 69 [.ref 36, .int (nI N), .int (nI (grun (gat R S f g cs p t n) t n F k a i).2.2)] [] (I', L', rR ru dr sr rd' rl, 65, x) ∧ mQ I' rl 37 R S f g p (grun (gat R S f g cs p t n) t n F k a i).2.1 rn rt ∧ fM [37] [] I I' ∧ (∀ b, b ≠ 48 → L' b = L b) ∧ ((grun (gat R S f g cs p t n) t n F k a i).1 < n ↔ (grun (gat R S f g cs p t n) t n F k a i).2.2 < N) ∧ (grun (gat R S f g cs p t n) t n F k a i).2.2 ≤ N
  | 0, k, a, i, I, L, rd, hF, hL, hw, hq => by
    have h1 := hL.1
    have h2 := hL.2
    refine ⟨I, L, rd, ?_, hq, fM.rf, fun _ _ => rfl, ?_, ?_⟩
    · rw [l237_39, if_pos (by rw [nI_leI (by omega) (by omega)]; omega)]
      rfl
    · show k < n ↔ i < N
      omega
    · show i ≤ N
      omega
  | F + 1, k, a, i, I, L, rd, hF, hL, hw, hq => by
    have hle := acL.le _ _ _ _ hL
    unfold grun
    unfold acL at hL
    by_cases z : k < n
    · rw [if_pos z]
      rw [if_pos z] at hL
      obtain ⟨⟨a1, a2, a3⟩, hnd, hL2⟩ := hL
      have hok := gat_ok (t := t) (n := n) (k := k) (cs := cs) hct hw (by omega)
      obtain ⟨I1, L1, rd1, e1, q1, f1, g1⟩ := m239 (d := d) (L := L) (ru := ru) (dr := dr) (sr := sr) (rd := rd) (rl := rl) (x := x) (n := n) (t := t) (k := k) a2 a3 hnd hd hrl hct hq hw (by omega) hcs
      rw [l237_39, if_neg (by rw [nI_leI (by omega) (by omega)]; omega), zmul, nI_add, nI_add, if_pos (ak_53 (by omega)), if_pos (ak_53 (by omega)), if_pos (ak_53 (by omega)), nI_clamp (by omega), nI_clamp (by omega), nI_clamp (by omega), a1, e1, bI_i, e237_66]
      cases y : (gat R S f g cs p t n k a).2 with
      | none =>
        rw [y] at q1
        refine ⟨I1, L1, rd1, by rw [if_pos (show nI (if (none : Option zP).isSome = true then 1 else 0) = 0 from rfl)], q1, f1, g1, ?_, ?_⟩
        · show k < n ↔ i < N
          omega
        · show i ≤ N
          omega
      | some b =>
        rw [y] at q1
        have hwb := (hok.2 b y).2
        obtain ⟨I2, L2, rd2, e2, q2, f2, g2, r1, r2⟩ := l237b hd hrl hct hT0 hN hcs F (k + 1 + (nd (t k)).getD 0) b (i + 1) I1 L1 rd1 (by omega) (by rw [f1.1 53 (by decide) rfl]; exact hL2) hwb q1
        refine ⟨I2, L2, rd2, ?_, q2, f1.tr f2, fun c hc => (g2 c hc).trans (g1 c hc), r1, r2⟩
        rw [if_neg (show ¬ nI (if (some b).isSome = true then 1 else 0) = 0 by show ¬ nI 1 = 0; decide), nI_add, e2]
    · rw [if_neg z]
      rw [if_neg z] at hL
      obtain ⟨h1, h2⟩ := hL
      refine ⟨I, L, rd, ?_, hq, fM.rf, fun _ _ => rfl, ?_, ?_⟩
      · rw [l237_39, if_pos (by rw [nI_leI (by omega) (by omega)]; omega)]
      · show k < n ↔ i < N
        omega
      · show i ≤ N
        omega
theorem n237f {e : Nat} (h : mInv I L rl T R S f g p a n t l u kp cl si rn rt) (hw : wInv R S f g p a T u kp) (hg : gwr t n = some e) : ∃ I' rd', cal d 237 [.ref 36] (I, L, rR ru dr sr rd rl, 65, x) = some (some (.int (-(nI 1) - nI e)), (I', L, rR ru dr sr rd' rl, 65, x)) ∧ mInv I' L rl T R S f g p a 0 t l u kp cl si rn rt := by
  obtain ⟨hI, hP, hA, hT, hO, hU, hK, hC, hS, hl, hR⟩ := h
  obtain ⟨hc, hw, hu, hk⟩ := hw
  have f0 : fM [] [] I (zup I 36 10 (nI 0)) := f10
  have hT0 := f0.tx hT (by decide)
  have he := gau_le (by omega) (Nat.le_refl _) hg
  obtain ⟨K', kk, ow, N, e1, h1, h2, -⟩ := l237a (d := d) (L := L) (ru := ru) (dr := dr) (sr := sr) (rl := rl) (x := x) (w2 := .null) (min n 60) 0 0 (bgn (zup I 36 10 (nI 0)) n 60) (by omega) (by omega) (Nat.le_refl _) (bgn_H hT0 (by decide))
  have h2' : ow = some e := by rw [h2]; exact hg
  subst h2'
  have f1 : fM [53] [7] I (ms K' kk (nI e)) := (f0.mono (by decide) (by decide)).tr (bgn_f.tr ((show fM [53] [7] (bgn (zup I 36 10 (nI 0)) n 60) K' from ⟨fun c hc _ => h1.1 c (fun q => hc (by rw [q]; decide)), fun k _ _ => by rw [h1.1 36 (by decide)]⟩).tr fM.ms))
  have e7 : (ms K' kk (nI e)) 36 7 = nI 0 := by
    rw [ms_v _ _ _ (by decide) (by decide), h1.1 36 (by decide)]
    unfold bgn
    rw [zup_v, if_pos rfl]
  refine ⟨_, some 40, ?_, ⟨f1.ct hI (by decide), f1.fp hP (by decide), f1.st hA (by decide) rfl, mTx.none e7, f1.to hO (by decide) rfl, f1.un hU (by decide), f1.kp' hK (by decide), f1.clu hC (by decide), f1.sig hS (by decide), hl, f1.rr hl hR (by decide)⟩⟩
  rw [k237, m188 hT0, bV_n, e237_6, e1, show opI (some e) = nI e from rfl, e237_23, m196d (by omega), bI_i, e237_25, if_pos (show nI 0 = 0 from rfl), ms_v15]
theorem n237t (h : mInv I L rl T R S f g p a n t l u kp cl si rn rt) (hw : wInv R S f g p a T u kp) (hd : 41 ≤ d) (hcs : (prs rt rn).2 = some cs) (hg : gwr t n = none) (hT0 : T + 80 < 2 ^ 24) : ∃ I' L' rd', cal d 237 [.ref 36] (I, L, rR ru dr sr rd rl, 65, x) = some (some (.int (nI (grn R S f g cs p t n a).2.2)), (I', L', rR ru dr sr rd' rl, 65, x)) ∧ mInv I' L' rl T R S f g p ((grn R S f g cs p t n a).2.1) 0 t ([if (grn R S f g cs p t n a).1 < n then lN 1 else lN 0, lN ((grn R S f g cs p t n a).2.1 24)]) (if 0 < (grn R S f g cs p t n a).2.2 then (a :: u).take 12 else u) kp cl si rn rt := by
  have hq := h.q
  obtain ⟨hI, hP, hA, hT, hO, hU, hK, hC, hS, hl, hR⟩ := h
  obtain ⟨hc, hw, hu, hk⟩ := hw
  have f0 : fM [] [] I (zup I 36 10 (nI 0)) := f10
  have hn8 := hT.2.1
  have hTx := f0.tx hT (by decide)
  obtain ⟨K', kk, ow, N, e1, h1, h2, h3⟩ := l237a (d := d) (L := L) (ru := ru) (dr := dr) (sr := sr) (rl := rl) (x := x) (w2 := .null) (min n 60) 0 0 (bgn (zup I 36 10 (nI 0)) n 60) (by omega) (by omega) (Nat.le_refl _) (bgn_H hTx (by decide))
  have h2' : ow = none := by rw [h2]; exact hg
  subst h2'
  obtain ⟨hkk, hn6, hNn, -, hL⟩ := h3 rfl
  subst hkk
  rw [show min kk 60 = kk by omega] at hL
  have h12 : K' 36 12 = nI kk := by
    rw [h1.1 36 (by decide)]
    exact (bgn_H hTx (show 60 ≤ 60 by decide)).2.2.1
  have f1 : fM [53] [7] I (ms K' kk (-(nI 1))) := (f0.mono (by decide) (by decide)).tr (bgn_f.tr ((show fM [53] [7] (bgn (zup I 36 10 (nI 0)) kk 60) K' from ⟨fun c hc _ => h1.1 c (fun q => hc (by rw [q]; decide)), fun k _ _ => by rw [h1.1 36 (by decide)]⟩).tr fM.ms))
  have e7 : (ms K' kk (-(nI 1))) 36 7 = nI 0 := by
    rw [ms_v _ _ _ (by decide) (by decide), h1.1 36 (by decide)]
    unfold bgn
    rw [zup_v, if_pos rfl]
  obtain ⟨I2, e2, h51, f2⟩ := m221s (d := d) (L := L) (ru := ru) (dr := dr) (sr := sr) (rl := rl) (x := x) (rd := some 40) (c0 := 37) (c1 := 51) ⟨rfl, Or.inl rfl⟩ (f1.st hA (by decide) rfl)
  have hrn : ∀ W : List Nat, 44 ∉ W → rl ∉ W := fun W hW => by rw [hl]; exact hW
  have q2 : mQ I2 rl 37 R S f g p a rn rt := (hq.fr (Or.inl hl) rfl f1 (by decide) ⟨by decide, by decide, by decide, hrn _ (by decide)⟩).fr (Or.inl hl) rfl f2 (by decide) ⟨by decide, by decide, by decide, hrn _ (by decide)⟩
  have hL2 : acL (I2 53) t kk kk 0 0 N := by rw [f2.1 53 (by decide) rfl, ms_c _ _ _ (by decide)]; exact hL
  obtain ⟨I3, L3, rd3, e3, q3, f3, g3, r1, r2⟩ := l237b (d := d) (ru := ru) (dr := dr) (sr := sr) (rl := rl) (x := x) (T0 := T) hd (Or.inl hl) hc hT0 (show N ≤ 60 by omega) hcs kk 0 a 0 I2 L (some 40) (by omega) hL2 hw q2
  rw [← show grn R S f g cs p t kk a = grun (gat R S f g cs p t kk) t kk kk 0 a 0 from rfl] at e3 q3 r1 r2
  have hwg := (grun_wf (cs := cs) (t := t) (p := p) hc hT0 hn8 kk 0 a 0 (Nat.le_refl _) (by omega) hw).1
  rw [← show grn R S f g cs p t kk a = grun (gat R S f g cs p t kk) t kk kk 0 a 0 from rfl] at hwg
  have h24 : (grn R S f g cs p t kk a).2.1 24 < 2 ^ 31 := by
    have := hwg.2.2.2.1
    have := hwg.1
    omega
  have f13 : fM [37, 51, 53] [7] I I3 := (f1.mono (by decide) (by decide)).tr ((f2.mono (by decide) (by decide)).tr (f3.mono (by decide) (by decide)))
  have hU3 : mUn I3 u := f13.un hU (by decide)
  have h51' : mSt I3 51 a := f3.st h51 (by decide) rfl
  obtain ⟨I4, e4, hU4, f4⟩ : ∃ I4, res d 237 69 [.ref 36, .int (nI N), .int (nI (grn R S f g cs p t kk a).2.2)] [] (I3, L3, rR ru dr sr rd3 rl, 65, x) = res d 237 75 [.ref 36, .int (nI N), .int (nI (grn R S f g cs p t kk a).2.2)] [] (I4, L3, rR ru dr sr rd3 rl, 65, x) ∧ mUn I4 (if 0 < (grn R S f g cs p t kk a).2.2 then (a :: u).take 12 else u) ∧ fM [50] [27] I3 I4 := by
    by_cases z : 0 < (grn R S f g cs p t kk a).2.2
    · obtain ⟨I4, e4, h4, f4⟩ := m222 (d := d) (L := L3) (ru := ru) (dr := dr) (sr := sr) (rl := rl) (x := x) (rd := rd3) (c := 51) (Or.inr rfl) h51' hU3
      rw [if_pos z]
      exact ⟨I4, by rw [e237_69, if_neg (by rw [nI_l0 (by omega)]; omega), e4, bV_n], h4, f4⟩
    · rw [if_neg z]
      exact ⟨I3, by rw [e237_69, if_pos (by rw [nI_l0 (by omega)]; omega)], hU3, fM.rf⟩
  obtain ⟨I5, L5, e5, h5, f5', g5, i5⟩ := mt1 (d := d) (I := I4) (L := L3) (rd := rd3) (ru := ru) (dr := dr) (sr := sr) (rl := rl) (x := x) (v := if (grn R S f g cs p t kk a).1 < kk then lN 1 else lN 0)
  obtain ⟨I6, L6, e6, h6, f6, g6, i6⟩ := mt2 (d := d) (I := I5) (L := L5) (rd := rd3) (ru := ru) (dr := dr) (sr := sr) (rl := rl) (x := x) (w := lN ((grn R S f g cs p t kk a).2.1 24)) h5
  have f56 : fM [] [9] I4 I6 := f5'.tr f6
  have f5 : fM [37, 50, 51, 53] [7, 9, 27] I I6 := (f13.mono (by decide) (by decide)).tr ((f4.mono (by decide) (by decide)).tr (f56.mono (by decide) (by decide)))
  have hA4 : mSt I4 37 (grn R S f g cs p t kk a).2.1 := f4.st q3.2.2.1 (by decide) rfl
  have k24 : I5 37 24 = nI ((grn R S f g cs p t kk a).2.1 24) := by rw [i5 37 (by decide)]; exact hA4 24 (by decide)
  have e7' : I6 36 7 = nI 0 := by rw [f56.2 7 (by decide) rfl, f4.2 7 (by decide) rfl, f3.2 7 (by decide) rfl, f2.2 7 (by decide) rfl]; exact e7
  have e75 : res d 237 75 [.ref 36, .int (nI N), .int (nI (grn R S f g cs p t kk a).2.2)] [] (I4, L3, rR ru dr sr rd3 rl, 65, x) = res d 237 85 [.ref 36, .int (nI N), .int (nI (grn R S f g cs p t kk a).2.2)] [.long (if (grn R S f g cs p t kk a).1 < kk then lN 1 else lN 0), .ref 36] (zup I4 36 9 (nI 0), L3, rR ru dr sr rd3 rl, 65, x) := by
    rw [e237_75]
    by_cases z : (grn R S f g cs p t kk a).1 < kk
    · have := r1.mp z
      rw [if_neg (by rw [nI_leI (by omega) (by omega)]; omega), if_pos z]
    · have : ¬ (grn R S f g cs p t kk a).2.2 < N := fun q => z (r1.mpr q)
      rw [if_pos (by rw [nI_leI (by omega) (by omega)]; omega), if_neg z]
  refine ⟨I6, L6, rd3, ?_, ⟨f5.ct hI (by decide), f5.fp hP (by decide), f56.st hA4 (by decide) rfl, mTx.none e7', h6, f56.un hU4 (by decide), f5.kp' hK (by decide), f5.clu hC (by decide), f5.sig hS (by decide), hl, f5.rr hl hR (by decide)⟩⟩
  rw [k237, m188 hTx, bV_n, e237_6, e1, show opI none = -(nI 1) from rfl, e237_23, m196 h12 hn8 hn8, if_pos (Nat.le_refl _), if_pos (Nat.le_refl _), bI_i, e237_25, if_neg (by decide), e2, bV_n, e237_37, e3, e4, e75, e237_85, e5, bV_n, e237_86, if_pos (ak_37 (by decide)), nI_clamp (by omega), k24, nI_l h24, e6, bV_n, e237_93]

end
