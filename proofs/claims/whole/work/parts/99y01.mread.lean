section
variable {I : Nat → Nat → Int32} {L : Nat → Nat → Int64} {ru dr : Nat} {sr : Nat → Option Nat} {rd : Option Nat} {rl x : Nat}

/-! the reference: small things -/
theorem m179 {d : Nat} {v lo hi : Int32} : cal d 179 [.int v, .int lo, .int hi] (I, L, rR ru dr sr rd rl, 65, x) = some (some (.int (nI (if lo ≤ v ∧ v ≤ hi then 1 else 0))), (I, L, rR ru dr sr rd rl, 65, x)) := by
  rw [k179]
  by_cases z : v < lo
  · rw [if_pos z, if_pos zb0, if_neg (fun q => (fa_of_lt z).2.1 q.1)]
  · rw [if_neg z]
    by_cases y : hi < v
    · rw [if_pos y, if_pos zb0, if_neg (fun q => (fa_of_lt y).2.1 q.2)]
    · rw [if_neg y, if_pos zb1, if_pos ⟨fa_of_nlt z, fa_of_nlt y⟩]
theorem m179t {d : Nat} {v lo hi : Int32} (h : lo ≤ v ∧ v ≤ hi) : cal d 179 [.int v, .int lo, .int hi] (I, L, rR ru dr sr rd rl, 65, x) = some (some (.int (nI 1)), (I, L, rR ru dr sr rd rl, 65, x)) := by rw [m179, if_pos h]
theorem m179f {d : Nat} {v lo hi : Int32} (h : ¬ (lo ≤ v ∧ v ≤ hi)) : cal d 179 [.int v, .int lo, .int hi] (I, L, rR ru dr sr rd rl, 65, x) = some (some (.int (nI 0)), (I, L, rR ru dr sr rd rl, 65, x)) := by rw [m179, if_neg h]
theorem m180 {d m k : Nat} (hm : m < 2 ^ 31) (hk : k < 32) : cal d 180 [.int (nI m), .int (nI k)] (I, L, rR ru dr sr rd rl, 65, x) = some (some (.int (nI (if m.testBit k = true then 1 else 0))), (I, L, rR ru dr sr rd rl, 65, x)) := by
  rw [k180]
  cases z : m.testBit k with
  | true => rw [if_pos ((zbito hm hk).mpr z), if_pos zb1]; rfl
  | false => rw [if_neg (by rw [zbito hm hk, z]; exact Bool.false_ne_true), if_pos zb0]; rfl
/-! reading -/
def ms (I : Nat → Nat → Int32) (k : Nat) (w : Int32) : Nat → Nat → Int32 := zup (zup I 36 14 (nI k)) 36 15 w
theorem ms_v14 (I : Nat → Nat → Int32) (k : Nat) (w : Int32) : ms I k w 36 14 = nI k := by unfold ms; rw [zup_v, if_neg (by decide), zup_v, if_pos rfl]
theorem ms_v15 (I : Nat → Nat → Int32) (k : Nat) (w : Int32) : ms I k w 36 15 = w := by unfold ms; rw [zup_v, if_pos rfl]
theorem ms_v (I : Nat → Nat → Int32) (k : Nat) (w : Int32) {j : Nat} (h1 : j ≠ 14) (h2 : j ≠ 15) : ms I k w 36 j = I 36 j := by unfold ms; rw [zup_v, if_neg h2, zup_v, if_neg h1]
theorem ms_c (I : Nat → Nat → Int32) (k : Nat) (w : Int32) {c : Nat} (h : c ≠ 36) : ms I k w c = I c := by unfold ms; rw [zup_ne _ _ _ h, zup_ne _ _ _ h]
theorem ms_14 (I : Nat → Nat → Int32) (k k' : Nat) (w : Int32) : zup (ms I k w) 36 14 (nI k') = ms I k' w := by
  funext c j
  by_cases z : c = 36
  · subst z
    unfold ms
    rw [zup_v, zup_v, zup_v, zup_v, zup_v]
    by_cases y : j = 14
    · rw [if_pos y, if_neg (by omega), if_pos y]
    · rw [if_neg y, if_neg y, if_neg y]
  · rw [zup_ne _ _ _ z, ms_c _ _ _ z, ms_c _ _ _ z]
theorem ms_15 (I : Nat → Nat → Int32) (k : Nat) (w w' : Int32) : zup (ms I k w) 36 15 w' = ms I k w' := by
  funext c j
  by_cases z : c = 36
  · subst z
    unfold ms
    simp only [zup_v]
    by_cases y : j = 15
    · rw [if_pos y, if_pos y]
    · rw [if_neg y, if_neg y, if_neg y]
  · rw [zup_ne _ _ _ z, ms_c _ _ _ z, ms_c _ _ _ z]
def mHd (I : Nat → Nat → Int32) (n top : Nat) (t : Nat → Nat) (b : Nat) : Prop := n ≤ 80 ∧ top ≤ 60 ∧ I 36 12 = nI n ∧ I 36 13 = nI top ∧ b ≠ 36 ∧ (∀ k, k < min n top → aok 3 b (nI k) = true) ∧ ∀ k, k < n → I b k = (nI (t k)).toInt8.toInt32 ∧ t k < 256
theorem m189 {I : Nat → Nat → Int32} {d n top b k : Nat} {t : Nat → Nat} {w : Int32} (hH : mHd I n top t b) (hk : k < 1000) : cal d 189 [.ref 36] (ms I k w, L, rR ru dr sr (some b) rl, 65, x) = some (some (.int (sgn t (min n top) k)), (ms I k w, L, rR ru dr sr (some b) rl, 65, x)) := by
  obtain ⟨h1, h2, h3, h4, h5, h6, h7⟩ := hH
  rw [k189, ms_v14, ms_v _ _ _ (by decide) (by decide), ms_v _ _ _ (by decide) (by decide), h3, h4]
  unfold sgn
  by_cases z : n ≤ k
  · rw [if_pos (by rw [nI_leI (by omega) (by omega)]; exact z), if_neg (by omega)]
  · rw [if_neg (by rw [nI_leI (by omega) (by omega)]; exact z)]
    by_cases y : top ≤ k
    · rw [if_pos (by rw [nI_leI (by omega) (by omega)]; exact y), if_neg (by omega)]
    · rw [if_neg (by rw [nI_leI (by omega) (by omega)]; exact y)]
      dsimp only
      rw [if_pos (h6 k (by omega)), nI_clamp (by omega), ms_c _ _ _ h5, (h7 k (by omega)).1, show nI 255 = (255 : Int32) from rfl, bp_b, show (255 : Int32) = nI (2 ^ 8 - 1) from rfl, fa_mask, Nat.mod_eq_of_lt (h7 k (by omega)).2, if_pos (by omega)]
theorem sgn_e {I : Nat → Nat → Int32} {t : Nat → Nat} {n top b k c : Nat} (hH : mHd I n top t b) (hc : c < 256) : sgn t (min n top) k = nI c ↔ cu t (min n top) k = c := by
  unfold sgn cu
  by_cases z : k < min n top
  · have := (hH.2.2.2.2.2.2 k (by omega)).2
    rw [if_pos z, if_pos z, nI_eq (by omega) (by omega)]
  · rw [if_neg z, if_neg z]
    refine ⟨fun q => ?_, fun q => by omega⟩
    exact ((nI_m1 (show c < 2 ^ 31 by omega)).mp q.symm).elim
theorem m190t {I : Nat → Nat → Int32} {d k : Nat} : cal d 190 [.ref 36] (ms I k (-(nI 1)), L, rR ru dr sr rd rl, 65, x) = some (some (.int (nI 1)), (ms I k (-(nI 1)), L, rR ru dr sr rd rl, 65, x)) := by
  rw [k190, ms_v15, if_pos rfl, if_pos zb1]
theorem m190f {d : Nat} (h : I 36 15 ≠ -(nI 1)) : cal d 190 [.ref 36] (I, L, rR ru dr sr rd rl, 65, x) = some (some (.int (nI 0)), (I, L, rR ru dr sr rd rl, 65, x)) := by
  rw [k190, if_neg h, if_pos zb0]
theorem m191 {I : Nat → Nat → Int32} {d k e : Nat} : cal d 191 [.ref 36, .int (nI e)] (ms I k (-(nI 1)), L, rR ru dr sr rd rl, 65, x) = some (none, (ms I k (nI e), L, rR ru dr sr rd rl, 65, x)) := by
  rw [k191, m190t, bI_i, e191_2, if_neg (by decide), ms_15]
theorem m191f {d : Nat} {v : Int32} (h : I 36 15 ≠ -(nI 1)) : cal d 191 [.ref 36, .int v] (I, L, rR ru dr sr rd rl, 65, x) = some (none, (I, L, rR ru dr sr rd rl, 65, x)) := by
  rw [k191, m190f h, bI_i, e191_2, if_pos (show nI 0 = 0 from rfl)]
theorem m192t {I : Nat → Nat → Int32} {d n top b k c : Nat} {t : Nat → Nat} (hH : mHd I n top t b) (hc : c < 256) (h : cu t (min n top) k = c) : cal d 192 [.ref 36, .int (nI c)] (ms I k (-(nI 1)), L, rR ru dr sr (some b) rl, 65, x) = some (some (.int (nI 1)), (ms I (k + 1) (-(nI 1)), L, rR ru dr sr (some b) rl, 65, x)) := by
  have hk := cu_lt h hc
  have := hH.1
  rw [k192, m190t, bI_i, e192_2, if_neg (by decide), m189 hH (by omega), bI_i, e192_5, if_pos ((sgn_e hH hc).mpr h), if_pos zb1, ms_v14, nI_add, ms_14]
theorem m192f {I : Nat → Nat → Int32} {d n top b k c : Nat} {t : Nat → Nat} (hH : mHd I n top t b) (hc : c < 256) (hk : k < 1000) (h : cu t (min n top) k ≠ c) : cal d 192 [.ref 36, .int (nI c)] (ms I k (-(nI 1)), L, rR ru dr sr (some b) rl, 65, x) = some (some (.int (nI 0)), (ms I k (-(nI 1)), L, rR ru dr sr (some b) rl, 65, x)) := by
  rw [k192, m190t, bI_i, e192_2, if_neg (by decide), m189 hH hk, bI_i, e192_5, if_neg (fun q => h ((sgn_e hH hc).mp q)), if_pos zb0]
theorem m192d {d : Nat} {v : Int32} (h : I 36 15 ≠ -(nI 1)) : cal d 192 [.ref 36, .int v] (I, L, rR ru dr sr rd rl, 65, x) = some (some (.int (nI 0)), (I, L, rR ru dr sr rd rl, 65, x)) := by
  rw [k192, m190f h, bI_i, e192_2, if_pos (show nI 0 = 0 from rfl), if_pos zb0]
theorem msd {I : Nat → Nat → Int32} {k e : Nat} (he : e < 2 ^ 31) : ms I k (nI e) 36 15 ≠ -(nI 1) := by rw [ms_v15]; exact fun q => ((nI_m1 he).mp q).elim
theorem m194t {I : Nat → Nat → Int32} {d n top b k c m : Nat} {t : Nat → Nat} (hH : mHd I n top t b) (hc : 1 ≤ m ∧ c + m ≤ 128) (h : c ≤ cu t (min n top) k ∧ cu t (min n top) k < c + m) : cal d 194 [.ref 36, .int (nI c), .int (nI m)] (ms I k (-(nI 1)), L, rR ru dr sr (some b) rl, 65, x) = some (some (.int (nI (cu t (min n top) k - c))), (ms I (k + 1) (-(nI 1)), L, rR ru dr sr (some b) rl, 65, x)) := by
  have hk : k < min n top := cu_lt (t := t) rfl (by omega)
  have h1 := hH.1
  have es : sgn t (min n top) k = nI (cu t (min n top) k) := by unfold sgn cu; rw [if_pos hk, if_pos hk]
  have ec : cu t (min n top) k = t k := by unfold cu; rw [if_pos hk]
  rw [k194, m190t, bI_i, e194_2, if_neg (by decide), m189 hH (by omega), bI_i, e194_7, es, nI_add, zsub (by omega), m179, bI_i, if_pos ⟨(nI_leI (by omega) (by omega)).mpr h.1, (nI_leI (by omega) (by omega)).mpr (by omega)⟩, e194_14, if_neg (by decide)]
  dsimp only
  rw [ms_v14, nI_add, ms_14, ms_v14, zsub (by omega), Nat.add_sub_cancel, if_pos (hH.2.2.2.2.2.1 k hk), nI_clamp (by omega), ms_c _ _ _ hH.2.2.2.2.1, (hH.2.2.2.2.2.2 k (by omega)).1, ec, fa_byte_small (by omega), zsub (by omega)]
theorem m194f {I : Nat → Nat → Int32} {d n top b k c m : Nat} {t : Nat → Nat} (hH : mHd I n top t b) (hk : k < 1000) (hc : 1 ≤ m ∧ c + m ≤ 128) (h : ¬ (c ≤ cu t (min n top) k ∧ cu t (min n top) k < c + m)) : cal d 194 [.ref 36, .int (nI c), .int (nI m)] (ms I k (-(nI 1)), L, rR ru dr sr (some b) rl, 65, x) = some (some (.int (nI 0)), (ms I k (nI k), L, rR ru dr sr (some b) rl, 65, x)) := by
  rw [k194, m190t, bI_i, e194_2, if_neg (by decide), m189 hH hk, bI_i, e194_7, nI_add, zsub (by omega), m179, bI_i, if_neg, e194_14, if_pos (show nI 0 = 0 from rfl), ms_v14, m191, bV_n, e194_19]
  unfold sgn
  by_cases z : k < min n top
  · have h2 := (hH.2.2.2.2.2.2 k (by omega)).2
    rw [if_pos z, nI_leI (by omega) (by omega), nI_leI (by omega) (by omega)]
    unfold cu at h
    rw [if_pos z] at h
    omega
  · rw [if_neg z]
    intro q
    have := fa_of_lt (show (-(nI 1) : Int32) < 0 by decide)
    have h3 : nI c ≤ -(nI 1) := q.1
    have h4 : (0 : Int32) ≤ nI c := nI_pos' (by omega)
    rw [fa_le] at h3 h4
    have h5 : (-(nI 1) : Int32).toInt = -1 := by decide
    have h6 : (0 : Int32).toInt = 0 := by decide
    omega
theorem m194d {d : Nat} {v w : Int32} (h : I 36 15 ≠ -(nI 1)) : cal d 194 [.ref 36, .int v, .int w] (I, L, rR ru dr sr rd rl, 65, x) = some (some (.int (nI 0)), (I, L, rR ru dr sr rd rl, 65, x)) := by
  rw [k194, m190f h, bI_i, e194_2, if_pos (show nI 0 = 0 from rfl)]
theorem m196 {I : Nat → Nat → Int32} {d n k : Nat} (h12 : I 36 12 = nI n) (hn : n ≤ 80) (hk : k ≤ 80) : cal d 196 [.ref 36] (ms I k (-(nI 1)), L, rR ru dr sr rd rl, 65, x) = some (some (.int (nI (if n ≤ k then 1 else 0))), (ms I k (if n ≤ k then -(nI 1) else nI k), L, rR ru dr sr rd rl, 65, x)) := by
  rw [k196, ms_v14, ms_v _ _ _ (by decide) (by decide), h12]
  by_cases z : n ≤ k
  · rw [if_pos (by rw [nI_leI (by omega) (by omega)]; exact z), e196_9, m190t, bI_i, e196_11, if_pos zb1, if_pos z, if_pos z]
  · rw [if_neg (by rw [nI_leI (by omega) (by omega)]; exact z), m191, bV_n, e196_9, m190f (msd (by omega)), bI_i, e196_11, if_pos zb0, if_neg z, if_neg z]
theorem m196d {I : Nat → Nat → Int32} {d k e : Nat} (he : e < 2 ^ 31) : cal d 196 [.ref 36] (ms I k (nI e), L, rR ru dr sr rd rl, 65, x) = some (some (.int (nI 0)), (ms I k (nI e), L, rR ru dr sr rd rl, 65, x)) := by
  rw [k196]
  split
  · rw [e196_9, m190f (msd he), bI_i, e196_11, if_pos zb0]
  · rw [m191f (msd he), bV_n, e196_9, m190f (msd he), bI_i, e196_11, if_pos zb0]
/-! a rule read, and worked out -/
def rw' (r : zR) : Int32 := match r.2 with
  | none => nI r.1
  | some _ => -(nI 1)
def mSp (I : Nat → Nat → Int32) (L : Nat → Nat → Int64) (ru dr : Nat) (sr : Nat → Option Nat) (rl x n top b d mid : Nat) (ar : List Value) (F : Nat → zR) (w : Nat → Int32) : Prop := ∀ k, k ≤ min n top → min n top + 1 ≤ d + k → ∃ v, cal d mid ar (ms I k (-(nI 1)), L, rR ru dr sr (some b) rl, 65, x) = some (some (.int v), (ms I (F k).1 (rw' (F k)), L, rR ru dr sr (some b) rl, 65, x)) ∧ ∀ s, (F k).2 = some s → v = evl w s
theorem l195 {I : Nat → Nat → Int32} {d n top b : Nat} {t : Nat → Nat} (hH : mHd I n top t b) : ∀ j i k v, i + j = 3 → k ≤ min n top → ∃ k', k' = (pNm (cu t (min n top)) j k v).1 ∧ res d 195 7 [.ref 36, .int (nI 3), .int (nI v), .int (nI i)] [] (ms I k (-(nI 1)), L, rR ru dr sr (some b) rl, 65, x) = some (some (.int (nI (pNm (cu t (min n top)) j k v).2)), (ms I k' (-(nI 1)), L, rR ru dr sr (some b) rl, 65, x))
  | 0, i, k, v, hi, hk => ⟨k, rfl, by rw [l195_7, if_pos (by rw [nI_leI (by omega) (by omega)]; omega)]; rfl⟩
  | j + 1, i, k, v, hi, hk => by
    have h1 := hH.1
    rw [l195_7, if_neg (by rw [nI_leI (by omega) (by omega)]; omega), m190t, bI_i, e195_12, if_neg (by decide), m189 hH (by omega), bI_i, e195_15]
    unfold pNm
    by_cases z : dgt (cu t (min n top) k) = true
    · have hd := of_decide_eq_true z
      have hkm := dgt_lt z
      have es : sgn t (min n top) k = nI (cu t (min n top) k) := by unfold sgn cu; rw [if_pos hkm, if_pos hkm]
      obtain ⟨k', e1, e2⟩ := l195 hH j (i + 1) (k + 1) (10 * v + (cu t (min n top) k - 48)) (by omega) (by omega)
      rw [if_pos z]
      refine ⟨k', e1, ?_⟩
      rw [es, m179t ⟨(nI_leI (by omega) (by omega)).mpr hd.1, (nI_leI (by omega) (by omega)).mpr hd.2⟩, bI_i, e195_18, if_neg (by decide), m194t hH (by decide) (by omega), bI_i, e195_26, zmul, nI_add, nI_add, e2]
    · rw [if_neg z]
      refine ⟨k, rfl, ?_⟩
      rw [m179f, bI_i, e195_18, if_pos (show nI 0 = 0 from rfl)]
      unfold sgn
      by_cases y : k < min n top
      · have h2 := (hH.2.2.2.2.2.2 k (by omega)).2
        rw [if_pos y, nI_leI (by omega) (by omega), nI_leI (by omega) (by omega)]
        intro q
        unfold cu at z
        rw [if_pos y] at z
        exact z (decide_eq_true q)
      · rw [if_neg y]
        intro q
        exact absurd q.1 (by decide)
def lix (c : Nat) : Nat := if c = 97 then 0 else if c = 116 then 1 else if c = 114 then 2 else if c = 104 then 3 else if c = 102 then 4 else if c = 105 then 5 else 6
theorem m203t {d c : Nat} (h : isl c = true) : cal d 203 [.int (nI c)] (I, L, rR ru dr sr rd rl, 65, x) = some (some (.int (nI (lix c))), (I, L, rR ru dr sr rd rl, 65, x)) := by
  have := of_decide_eq_true h
  rw [k203]
  rcases this with rfl | rfl | rfl | rfl | rfl | rfl | rfl <;> rfl
theorem m203f {d : Nat} {v : Int32} (h : ∀ k, isl k = true → v ≠ nI k) : cal d 203 [.int v] (I, L, rR ru dr sr rd rl, 65, x) = some (some (.int (-(nI 1))), (I, L, rR ru dr sr rd rl, 65, x)) := by
  rw [k203, if_neg (h 97 rfl), if_neg (h 116 rfl), if_neg (h 114 rfl), if_neg (h 104 rfl), if_neg (h 102 rfl), if_neg (h 105 rfl), if_neg (h 110 rfl)]
theorem lix_lt (c : Nat) : lix c < 7 := by
  unfold lix
  repeat' split
  all_goals decide
/-- what letters are while a text is read -/
def ask (I : Nat → Nat → Int32) (w : Nat → Int32) : Prop := (I 36 21 = 0 ∧ ∀ c, isl c = true → w c = nI 0) ∨ (I 36 21 ≠ 0 ∧ ∀ c, isl c = true → I 46 (lix c) = w c)
theorem pMn_not (c : Nat → Nat) : ∀ n k b, pMn c n k (!b) = ((pMn c n k b).1, !(pMn c n k b).2)
  | 0, _, _ => rfl
  | n + 1, k, b => by
    unfold pMn
    by_cases z : c k = 45
    · rw [if_pos z, if_pos z, pMn_not c n (k + 1) (!b)]
    · rw [if_neg z, if_neg z]
theorem m204 {I : Nat → Nat → Int32} {n top b dep : Nat} {t : Nat → Nat} {E : Option (Nat → zR)} {w : Nat → Int32} (hH : mHd I n top t b) (hw : ask I w) (hE : (E = none ∧ dep = 4) ∨ ∃ F, E = some F ∧ dep < 4 ∧ Gd (min n top) F ∧ ∀ d, mSp I L ru dr sr rl x n top b d 200 [.ref 36, .int (nI (dep + 1))] F w) : ∀ j d k, min n top ≤ k + j → k ≤ min n top → min n top + 1 ≤ d + k → ∃ v, cal d 204 [.ref 36, .int (nI dep)] (ms I k (-(nI 1)), L, rR ru dr sr (some b) rl, 65, x) = some (some (.int v), (ms I (pU (cu t (min n top)) (min n top) (pT (cu t (min n top)) E) k).1 (rw' (pU (cu t (min n top)) (min n top) (pT (cu t (min n top)) E) k)), L, rR ru dr sr (some b) rl, 65, x)) ∧ ∀ s, (pU (cu t (min n top)) (min n top) (pT (cu t (min n top)) E) k).2 = some s → v = evl w s
  | j, d, k, hj, hk, hd => by
    have h80 := hH.1
    obtain ⟨d, rfl⟩ : ∃ d', d = d' + 1 := ⟨d - 1, by omega⟩
    by_cases zm : cu t (min n top) k = 45
    · have hkm := cu_lt zm (by decide)
      match j, hj with
      | 0, hj => omega
      | j + 1, hj =>
        obtain ⟨v, e1, h1⟩ := m204 hH hw hE j d (k + 1) (by omega) (by omega) (by omega)
        have eU : ∀ K, pU (cu t (min n top)) (min n top) (pT (cu t (min n top)) E) K = pU (cu t (min n top)) (min n top) (pT (cu t (min n top)) E) K := fun _ => rfl
        have ep : pMn (cu t (min n top)) (min n top - k) k false = ((pMn (cu t (min n top)) (min n top - (k + 1)) (k + 1) false).1, !(pMn (cu t (min n top)) (min n top - (k + 1)) (k + 1) false).2) := by
          rw [show min n top - k = min n top - (k + 1) + 1 by omega, pMn, if_pos zm, pMn_not]
        have g0 := pT_g (t := t) (m := min n top) (E := E) (fun F e => by
          rcases hE with ⟨q, -⟩ | ⟨F', q, -, q2, -⟩
          · rw [q] at e; cases e
          · rw [q] at e; cases e; exact q2)
        have i2 := (pMn_g (t := t) (m := min n top) (min n top - (k + 1)) (k + 1) false (by omega)).2.1
        unfold pU at h1 e1 ⊢
        rw [ep]
        refine ⟨-v, ?_, fun s e => ?_⟩
        · rw [k204, m192t hH (by decide) zm, bI_i, e204_3, if_neg (by decide), e1, bI_i, e204_7]
          dsimp only
          cases (pT (cu t (min n top)) E (pMn (cu t (min n top)) (min n top - (k + 1)) (k + 1) false).1).2 <;> rfl
        · dsimp only at e
          cases y : (pT (cu t (min n top)) E (pMn (cu t (min n top)) (min n top - (k + 1)) (k + 1) false).1).2 with
          | none => rw [y] at e; cases e
          | some s0 =>
            have hv := (g0 _ i2).2.2 s0 y
            rw [y] at e h1
            dsimp only at e h1
            have h2 := h1 _ rfl
            cases e
            cases q : (pMn (cu t (min n top)) (min n top - (k + 1)) (k + 1) false).2 with
            | true =>
              rw [q, if_pos rfl, evl_m hv.2.2.1] at h2
              rw [h2, Int32.neg_neg]
              rfl
            | false =>
              rw [q, if_neg Bool.false_ne_true] at h2
              rw [h2]
              exact (evl_m hv.2.2.1 w).symm
    · have ep : pMn (cu t (min n top)) (min n top - k) k false = (k, false) := by
        cases hq : min n top - k with
        | zero => rfl
        | succ q => rw [pMn, if_neg zm]
      have eu : pU (cu t (min n top)) (min n top) (pT (cu t (min n top)) E) k = pT (cu t (min n top)) E k := by
        unfold pU
        rw [ep]
        dsimp only
        cases y : (pT (cu t (min n top)) E k).2 with
        | none => exact Prod.ext rfl y.symm
        | some s => exact Prod.ext rfl y.symm
      rw [eu, k204, m192f hH (by decide) (by omega) zm, bI_i, e204_3, if_pos (show nI 0 = 0 from rfl), m190t, bI_i, e204_11, if_neg (by decide), m189 hH (by omega), bI_i, e204_16]
      unfold pT
      have e40 : ∀ (w3 : Value), (¬ cu t (min n top) k = 40 ∨ E = none) → ∃ v, res (d + 1) 204 40 [.ref 36, .int (nI dep), .int (sgn t (min n top) k), w3] [] (ms I k (-(nI 1)), L, rR ru dr sr (some b) rl, 65, x) = some (some (.int v), (ms I (if dgt (cu t (min n top) k) = true then ((pNm (cu t (min n top)) 3 k 0).1, some [(true, (pNm (cu t (min n top)) 3 k 0).2)]) else if isl (cu t (min n top) k) = true then (k + 1, some [(false, cu t (min n top) k)]) else (k, none)).1 (rw' (if dgt (cu t (min n top) k) = true then ((pNm (cu t (min n top)) 3 k 0).1, some [(true, (pNm (cu t (min n top)) 3 k 0).2)]) else if isl (cu t (min n top) k) = true then (k + 1, some [(false, cu t (min n top) k)]) else (k, none))), L, rR ru dr sr (some b) rl, 65, x)) ∧ ∀ s, (if dgt (cu t (min n top) k) = true then ((pNm (cu t (min n top)) 3 k 0).1, some [(true, (pNm (cu t (min n top)) 3 k 0).2)]) else if isl (cu t (min n top) k) = true then (k + 1, some [(false, cu t (min n top) k)]) else (k, none)).2 = some s → v = evl w s := fun w3 hE2 => by
        rw [e204_40]
        by_cases z : dgt (cu t (min n top) k) = true
        · have hd' := of_decide_eq_true z
          have hkm := dgt_lt z
          have es : sgn t (min n top) k = nI (cu t (min n top) k) := by unfold sgn cu; rw [if_pos hkm, if_pos hkm]
          obtain ⟨k', e1, e2⟩ := l195 (d := d + 1) (L := L) (ru := ru) (dr := dr) (sr := sr) (rl := rl) (x := x) hH 2 1 (k + 1) (cu t (min n top) k - 48) (by omega) (by omega)
          have en : pNm (cu t (min n top)) 3 k 0 = pNm (cu t (min n top)) 2 (k + 1) (cu t (min n top) k - 48) := by
            rw [pNm, if_pos z, Nat.mul_zero, Nat.zero_add]
          rw [if_pos z]
          refine ⟨_, ?_, fun s e => by cases e; rfl⟩
          rw [es, m179t ⟨(nI_leI (by omega) (by omega)).mpr hd'.1, (nI_leI (by omega) (by omega)).mpr hd'.2⟩, bI_i, e204_44, if_neg (by decide), k195, m194t hH (by decide) (by omega), bI_i, e195_4, e2, bI_i, e204_48, e1, en]
          rfl
        · rw [if_neg z]
          have hno : ¬ (nI 48 ≤ sgn t (min n top) k ∧ sgn t (min n top) k ≤ nI 57) := by
            unfold sgn
            by_cases y : k < min n top
            · have h2 := (hH.2.2.2.2.2.2 k (by omega)).2
              rw [if_pos y, nI_leI (by omega) (by omega), nI_leI (by omega) (by omega)]
              intro q
              unfold cu at z
              rw [if_pos y] at z
              exact z (decide_eq_true q)
            · rw [if_neg y]
              intro q
              exact absurd q.1 (by decide)
          rw [m179f hno, bI_i, e204_44, if_pos (show nI 0 = 0 from rfl)]
          by_cases y : isl (cu t (min n top) k) = true
          · have hkm := isl_lt y
            have es : sgn t (min n top) k = nI (cu t (min n top) k) := by unfold sgn cu; rw [if_pos hkm, if_pos hkm]
            have hlx := lix_lt (cu t (min n top) k)
            have h21 : (zup (ms I k (-(nI 1))) 36 14 (nI (k + 1))) 36 21 = I 36 21 := by rw [ms_14, ms_v _ _ _ (by decide) (by decide)]
            rw [if_pos y, es, m203t y, bI_i, e204_51, if_neg (by rw [nI_m1 (by omega)]; exact not_false), ms_v14, nI_add, h21]
            rcases hw with ⟨q1, q2⟩ | ⟨q1, q2⟩
            · rw [if_pos q1, ms_14]
              exact ⟨_, rfl, fun s e => by cases e; rw [evl_l y, q2 _ y]⟩
            · rw [if_neg q1, m203t y, bI_i, e204_72, if_pos (ak_46 hlx), nI_clamp (by omega), ms_14, ms_c _ _ _ (by decide), q2 _ y]
              exact ⟨_, rfl, fun s e => by cases e; rw [evl_l y]⟩
          · rw [if_neg y, m203f (fun j hj e => by
              have h1 := of_decide_eq_true hj
              rw [sgn_e hH (by omega)] at e
              rw [e] at y
              exact y hj), bI_i, e204_51, if_pos rfl, ms_v14, m191, bV_n, e204_57]
            exact ⟨_, rfl, fun s e => by cases e⟩
      by_cases z : cu t (min n top) k = 40
      · have hkm := cu_lt z (by decide)
        have zd : ¬ dgt (cu t (min n top) k) = true := by rw [z]; decide
        have zl : ¬ isl (cu t (min n top) k) = true := by rw [z]; decide
        rw [if_pos ((sgn_e hH (by decide)).mpr z), if_neg zd, if_pos z]
        rcases hE with ⟨rfl, rfl⟩ | ⟨F, rfl, hdep, hF, hS⟩
        · obtain ⟨v, e1, h1⟩ := e40 .null (Or.inr rfl)
          rw [if_neg zd, if_neg zl] at e1 h1
          rw [if_pos (by decide)]
          exact ⟨v, e1, h1⟩
        · obtain ⟨v, e1, h1⟩ := hS d (k + 1) (by omega) (by omega)
          obtain ⟨g1, g2, g3⟩ := hF (k + 1) (by omega)
          rw [if_neg (by rw [nI_leI (by omega) (by omega)]; omega), ms_v14, nI_add, nI_add, ms_14, e1, bI_i, e204_34]
          dsimp only
          unfold pBr
          cases y : (F (k + 1)).2 with
          | none =>
            have hrw : rw' (F (k + 1)) = nI (F (k + 1)).1 := by unfold rw'; rw [y]
            rw [hrw, k193, m192d (msd (by omega)), bI_i, e193_3, if_pos (show nI 0 = 0 from rfl), m191f (msd (by omega)), bV_n, e193_8, bV_n, e204_38]
            exact ⟨v, rfl, fun s e => by cases e⟩
          | some s =>
            have hrw : rw' (F (k + 1)) = -(nI 1) := by unfold rw'; rw [y]
            rw [hrw, k193]
            dsimp only
            by_cases u' : cu t (min n top) (F (k + 1)).1 = 41
            · rw [if_pos u', m192t hH (by decide) u', bI_i, e193_3, if_neg (by decide), e193_8, bV_n, e204_38]
              exact ⟨v, rfl, fun s' e => by cases e; exact h1 s y⟩
            · rw [if_neg u', m192f hH (by decide) (by omega) u', bI_i, e193_3, if_pos (show nI 0 = 0 from rfl), ms_v14, m191, bV_n, e193_8, bV_n, e204_38]
              exact ⟨v, rfl, fun s' e => by cases e⟩
      · rw [if_neg (fun q => z ((sgn_e hH (by decide)).mp q))]
        obtain ⟨v, e1, h1⟩ := e40 .null (Or.inl z)
        refine ⟨v, ?_, ?_⟩
        · rw [e1]
          by_cases zd : dgt (cu t (min n top) k) = true
          · rw [if_pos zd, if_pos zd]
          · rw [if_neg zd, if_neg zd, if_neg z]
        · intro s e
          refine h1 s ?_
          rw [← e]
          by_cases zd : dgt (cu t (min n top) k) = true
          · rw [if_pos zd, if_pos zd]
          · rw [if_neg zd, if_neg zd, if_neg z]

theorem l202 {I : Nat → Nat → Int32} {d n top b : Nat} {t : Nat → Nat} {F : Nat → zR} {w : Nat → Int32} {dep : Int32} (hH : mHd I n top t b) (hF : Gd (min n top) F) (hS : mSp I L ru dr sr rl x n top b d 204 [.ref 36, .int dep] F w) : ∀ j k (s : zC) (w3 w4 : Value), min n top ≤ k + j → k ≤ min n top → min n top + 1 ≤ d + k → vP s → ∃ v', res d 202 4 [.ref 36, .int dep, .int (evl w s), w3, w4] [] (ms I k (-(nI 1)), L, rR ru dr sr (some b) rl, 65, x) = some (some (.int v'), (ms I (pLp 42 47 (cu t (min n top)) F j k s).1 (rw' (pLp 42 47 (cu t (min n top)) F j k s)), L, rR ru dr sr (some b) rl, 65, x)) ∧ ∀ s', (pLp 42 47 (cu t (min n top)) F j k s).2 = some s' → v' = evl w s' ∧ vP s'
  | 0, k, s, w3, w4, hj, hk, hd, hs => by
    have h80 := hH.1
    refine ⟨evl w s, ?_, fun s' e => by cases e; exact ⟨rfl, hs⟩⟩
    have e89 := m189 (d := d) (L := L) (w := -(nI 1)) (ru := ru) (dr := dr) (sr := sr) (rl := rl) (x := x) hH (k := k) (by omega)
    have hc : cu t (min n top) k = 256 := cu_m (by omega)
    rw [l202_4, m190t, bI_i, e202_6, if_neg (by decide), e89, bI_i, e202_9, if_neg (fun y => by rw [sgn_e hH (by decide), hc] at y; exact absurd y (by decide)), e89, bI_i, e202_13, if_neg (fun y => by rw [sgn_e hH (by decide), hc] at y; exact absurd y (by decide))]
    rfl
  | j + 1, k, s, w3, w4, hj, hk, hd, hs => by
    have h80 := hH.1
    have e89 := m189 (d := d) (L := L) (w := -(nI 1)) (ru := ru) (dr := dr) (sr := sr) (rl := rl) (x := x) hH (k := k) (by omega)
    unfold pLp
    rw [l202_4, m190t, bI_i, e202_6, if_neg (by decide), e89, bI_i, e202_9]
    by_cases z : cu t (min n top) k = 42 ∨ cu t (min n top) k = 47
    · rw [if_pos z]
      have hkm : k < min n top := cu_lt (t := t) rfl (by omega)
      obtain ⟨g1, g2, g3⟩ := hF (k + 1) (by omega)
      obtain ⟨v2, e2, h2⟩ := hS (k + 1) (by omega) (by omega)
      have e14 : ms I k (-(nI 1)) 36 14 + nI 1 = nI (k + 1) := by rw [ms_v14, nI_add]
      have e0 : ∀ (u : Int32), u = nI (if cu t (min n top) k = 42 then 1 else 0) → res d 202 22 [.ref 36, .int dep, .int (evl w s), w3, w4] [.int u] (ms I k (-(nI 1)), L, rR ru dr sr (some b) rl, 65, x) = res d 202 32 [.ref 36, .int dep, .int (evl w s), .int u, w4] [.int v2] (ms I (F (k + 1)).1 (rw' (F (k + 1))), L, rR ru dr sr (some b) rl, 65, x) := fun u hu => by
        rw [e202_22, e14, ms_14, e2, bI_i]
      have e15 : (if sgn t (min n top) k = nI 42 then res d 202 15 [.ref 36, .int dep, .int (evl w s), w3, w4] [] (ms I k (-(nI 1)), L, rR ru dr sr (some b) rl, 65, x) else bI (cal d 189 [.ref 36] (ms I k (-(nI 1)), L, rR ru dr sr (some b) rl, 65, x)) fun r1 h1 => res d 202 13 [.ref 36, .int dep, .int (evl w s), w3, w4] [.int r1] h1) = res d 202 32 [.ref 36, .int dep, .int (evl w s), .int (nI (if cu t (min n top) k = 42 then 1 else 0)), w4] [.int v2] (ms I (F (k + 1)).1 (rw' (F (k + 1))), L, rR ru dr sr (some b) rl, 65, x) := by
        by_cases z1 : cu t (min n top) k = 42
        · rw [if_pos ((sgn_e hH (by decide)).mpr z1), e202_15, e89, bI_i, e202_17, if_pos ((sgn_e hH (by decide)).mpr z1), e0 _ (by rw [if_pos z1]), if_pos z1]
        · have z2 := z.resolve_left z1
          have hn : ¬ sgn t (min n top) k = nI 42 := fun y => z1 ((sgn_e hH (by decide)).mp y)
          rw [if_neg hn, e89, bI_i, e202_13, if_pos ((sgn_e hH (by decide)).mpr z2), e202_15, e89, bI_i, e202_17, if_neg hn, e0 _ (by rw [if_neg z1]), if_neg z1]
      rw [e15]
      cases y : (F (k + 1)).2 with
      | none =>
        have hrw : rw' (F (k + 1)) = nI (F (k + 1)).1 := by unfold rw'; rw [y]
        have dead : ∀ (v w3 w4), res d 202 4 [.ref 36, .int dep, .int v, w3, w4] [] (ms I (F (k + 1)).1 (nI (F (k + 1)).1), L, rR ru dr sr (some b) rl, 65, x) = some (some (.int v), (ms I (F (k + 1)).1 (nI (F (k + 1)).1), L, rR ru dr sr (some b) rl, 65, x)) := fun v w3 w4 => by
          have hb := hH.1
          have hb2 := hH.2.1
          rw [l202_4, m190f (by rw [ms_v15]; exact fun q => ((nI_m1 (by omega)).mp q).elim), bI_i, e202_6, if_pos (show nI 0 = 0 from rfl)]
        rw [hrw, e202_32]
        dsimp only
        by_cases q1 : cu t (min n top) k = 42
        · rw [if_pos q1, if_neg (by decide), dead]
          exact ⟨_, rfl, fun s' e => by cases e⟩
        · rw [if_neg q1, if_pos (show nI 0 = 0 from rfl)]
          by_cases q2 : v2 = 0
          · rw [if_pos q2, dead]
            exact ⟨_, rfl, fun s' e => by cases e⟩
          · rw [if_neg q2, if_neg q2, dead]
            exact ⟨_, rfl, fun s' e => by cases e⟩
      | some s2 =>
        obtain ⟨g4, g5⟩ := g3 s2 y
        have hrw : rw' (F (k + 1)) = -(nI 1) := by unfold rw'; rw [y]
        have hv := h2 s2 y
        have hop : opr (cu t (min n top) k) := by rcases z with z | z <;> rw [z] <;> exact ⟨by decide, by decide, by decide, by decide⟩
        have hvp := vP_j hs g5.2.1 hop.1 hop.2.1
        have hev := evl_j (w := w) hs g5.2.1 hop.1 hop.2.1
        obtain ⟨v3, e3, h3⟩ := l202 hH hF hS j (F (k + 1)).1 (s ++ s2 ++ [(false, cu t (min n top) k)]) (.int (nI (if cu t (min n top) k = 42 then 1 else 0))) (.int v2) (by omega) g2 (by omega) hvp
        refine ⟨v3, ?_, h3⟩
        rw [hrw, e202_32]
        rw [hev] at e3
        rw [hv] at e3 ⊢
        by_cases q1 : cu t (min n top) k = 42
        · rw [if_pos q1] at e3 ⊢
          rw [if_neg (by decide)]
          rw [q1] at e3 ⊢
          exact e3
        · have z2 := z.resolve_left q1
          rw [if_neg q1] at e3 ⊢
          rw [if_pos (show nI 0 = 0 from rfl)]
          rw [z2] at e3 ⊢
          by_cases q2 : evl w s2 = 0
          · rw [if_pos q2]
            rw [show jn 47 (evl w s) (evl w s2) = nI 0 by show (if evl w s2 = 0 then (0 : Int32) else _) = nI 0; rw [if_pos q2]; rfl] at e3
            exact e3
          · rw [if_neg q2, if_neg q2]
            rw [show jn 47 (evl w s) (evl w s2) = evl w s / evl w s2 by show (if evl w s2 = 0 then (0 : Int32) else _) = _; rw [if_neg q2]] at e3
            exact e3
    · have hn1 : ¬ sgn t (min n top) k = nI 42 := fun y => z (Or.inl ((sgn_e hH (by decide)).mp y))
      have hn2 : ¬ sgn t (min n top) k = nI 47 := fun y => z (Or.inr ((sgn_e hH (by decide)).mp y))
      rw [if_neg z, if_neg hn1, e89, bI_i, e202_13, if_neg hn2]
      exact ⟨evl w s, rfl, fun s' e => by cases e; exact ⟨rfl, hs⟩⟩
theorem m202 {I : Nat → Nat → Int32} {d n top b : Nat} {t : Nat → Nat} {F : Nat → zR} {w : Nat → Int32} {dep : Int32} (hH : mHd I n top t b) (hF : Gd (min n top) F) (hS : mSp I L ru dr sr rl x n top b d 204 [.ref 36, .int dep] F w) : mSp I L ru dr sr rl x n top b d 202 [.ref 36, .int dep] (pB 42 47 (cu t (min n top)) (min n top) F) w := by
  intro k hk hd
  obtain ⟨v1, e1, h1⟩ := hS k hk hd
  obtain ⟨g1, g2, g3⟩ := hF k hk
  unfold pB
  rw [k202, e1, bI_i, e202_3]
  cases y : (F k).2 with
  | none =>
    have hrw : rw' (F k) = nI (F k).1 := by unfold rw'; rw [y]
    have hb := hH.1
    refine ⟨v1, ?_, fun s e => by cases e⟩
    rw [hrw, l202_4, m190f (by rw [ms_v15]; exact fun q => ((nI_m1 (by omega)).mp q).elim), bI_i, e202_6, if_pos (show nI 0 = 0 from rfl)]
    rfl
  | some s =>
    have hrw : rw' (F k) = -(nI 1) := by unfold rw'; rw [y]
    obtain ⟨g4, g5⟩ := g3 s y
    obtain ⟨v2, e2, h2⟩ := l202 (d := d) (L := L) (ru := ru) (dr := dr) (sr := sr) (rl := rl) (x := x) hH hF hS (min n top - (F k).1) (F k).1 s .null .null (by omega) g2 (by omega) g5.2.1
    rw [hrw, h1 s y]
    exact ⟨v2, e2, fun s' e => (h2 s' e).1⟩

theorem l201 {I : Nat → Nat → Int32} {d n top b : Nat} {t : Nat → Nat} {F : Nat → zR} {w : Nat → Int32} {dep : Int32} (hH : mHd I n top t b) (hF : Gd (min n top) F) (hS : mSp I L ru dr sr rl x n top b d 202 [.ref 36, .int dep] F w) : ∀ j k (s : zC) (w3 w4 : Value), min n top ≤ k + j → k ≤ min n top → min n top + 1 ≤ d + k → vP s → ∃ v', res d 201 4 [.ref 36, .int dep, .int (evl w s), w3, w4] [] (ms I k (-(nI 1)), L, rR ru dr sr (some b) rl, 65, x) = some (some (.int v'), (ms I (pLp 43 45 (cu t (min n top)) F j k s).1 (rw' (pLp 43 45 (cu t (min n top)) F j k s)), L, rR ru dr sr (some b) rl, 65, x)) ∧ ∀ s', (pLp 43 45 (cu t (min n top)) F j k s).2 = some s' → v' = evl w s' ∧ vP s'
  | 0, k, s, w3, w4, hj, hk, hd, hs => by
    have h80 := hH.1
    refine ⟨evl w s, ?_, fun s' e => by cases e; exact ⟨rfl, hs⟩⟩
    have e89 := m189 (d := d) (L := L) (w := -(nI 1)) (ru := ru) (dr := dr) (sr := sr) (rl := rl) (x := x) hH (k := k) (by omega)
    have hc : cu t (min n top) k = 256 := cu_m (by omega)
    rw [l201_4, m190t, bI_i, e201_6, if_neg (by decide), e89, bI_i, e201_9, if_neg (fun y => by rw [sgn_e hH (by decide), hc] at y; exact absurd y (by decide)), e89, bI_i, e201_13, if_neg (fun y => by rw [sgn_e hH (by decide), hc] at y; exact absurd y (by decide))]
    rfl
  | j + 1, k, s, w3, w4, hj, hk, hd, hs => by
    have h80 := hH.1
    have e89 := m189 (d := d) (L := L) (w := -(nI 1)) (ru := ru) (dr := dr) (sr := sr) (rl := rl) (x := x) hH (k := k) (by omega)
    unfold pLp
    rw [l201_4, m190t, bI_i, e201_6, if_neg (by decide), e89, bI_i, e201_9]
    by_cases z : cu t (min n top) k = 43 ∨ cu t (min n top) k = 45
    · rw [if_pos z]
      have hkm : k < min n top := cu_lt (t := t) rfl (by omega)
      obtain ⟨g1, g2, g3⟩ := hF (k + 1) (by omega)
      obtain ⟨v2, e2, h2⟩ := hS (k + 1) (by omega) (by omega)
      have e14 : ms I k (-(nI 1)) 36 14 + nI 1 = nI (k + 1) := by rw [ms_v14, nI_add]
      have e0 : ∀ (u : Int32), u = nI (if cu t (min n top) k = 43 then 1 else 0) → res d 201 22 [.ref 36, .int dep, .int (evl w s), w3, w4] [.int u] (ms I k (-(nI 1)), L, rR ru dr sr (some b) rl, 65, x) = res d 201 32 [.ref 36, .int dep, .int (evl w s), .int u, w4] [.int v2] (ms I (F (k + 1)).1 (rw' (F (k + 1))), L, rR ru dr sr (some b) rl, 65, x) := fun u hu => by
        rw [e201_22, e14, ms_14, e2, bI_i]
      have e15 : (if sgn t (min n top) k = nI 43 then res d 201 15 [.ref 36, .int dep, .int (evl w s), w3, w4] [] (ms I k (-(nI 1)), L, rR ru dr sr (some b) rl, 65, x) else bI (cal d 189 [.ref 36] (ms I k (-(nI 1)), L, rR ru dr sr (some b) rl, 65, x)) fun r1 h1 => res d 201 13 [.ref 36, .int dep, .int (evl w s), w3, w4] [.int r1] h1) = res d 201 32 [.ref 36, .int dep, .int (evl w s), .int (nI (if cu t (min n top) k = 43 then 1 else 0)), w4] [.int v2] (ms I (F (k + 1)).1 (rw' (F (k + 1))), L, rR ru dr sr (some b) rl, 65, x) := by
        by_cases z1 : cu t (min n top) k = 43
        · rw [if_pos ((sgn_e hH (by decide)).mpr z1), e201_15, e89, bI_i, e201_17, if_pos ((sgn_e hH (by decide)).mpr z1), e0 _ (by rw [if_pos z1]), if_pos z1]
        · have z2 := z.resolve_left z1
          have hn : ¬ sgn t (min n top) k = nI 43 := fun y => z1 ((sgn_e hH (by decide)).mp y)
          rw [if_neg hn, e89, bI_i, e201_13, if_pos ((sgn_e hH (by decide)).mpr z2), e201_15, e89, bI_i, e201_17, if_neg hn, e0 _ (by rw [if_neg z1]), if_neg z1]
      rw [e15]
      cases y : (F (k + 1)).2 with
      | none =>
        have hrw : rw' (F (k + 1)) = nI (F (k + 1)).1 := by unfold rw'; rw [y]
        have dead : ∀ (v w3 w4), res d 201 4 [.ref 36, .int dep, .int v, w3, w4] [] (ms I (F (k + 1)).1 (nI (F (k + 1)).1), L, rR ru dr sr (some b) rl, 65, x) = some (some (.int v), (ms I (F (k + 1)).1 (nI (F (k + 1)).1), L, rR ru dr sr (some b) rl, 65, x)) := fun v w3 w4 => by
          have hb := hH.1
          have hb2 := hH.2.1
          rw [l201_4, m190f (by rw [ms_v15]; exact fun q => ((nI_m1 (by omega)).mp q).elim), bI_i, e201_6, if_pos (show nI 0 = 0 from rfl)]
        rw [hrw, e201_32]
        dsimp only
        by_cases q1 : cu t (min n top) k = 43
        · rw [if_pos q1, if_neg (by decide), dead]
          exact ⟨_, rfl, fun s' e => by cases e⟩
        · rw [if_neg q1, if_pos (show nI 0 = 0 from rfl)]
          rw [dead]
          exact ⟨_, rfl, fun s' e => by cases e⟩
      | some s2 =>
        obtain ⟨g4, g5⟩ := g3 s2 y
        have hrw : rw' (F (k + 1)) = -(nI 1) := by unfold rw'; rw [y]
        have hv := h2 s2 y
        have hop : opr (cu t (min n top) k) := by rcases z with z | z <;> rw [z] <;> exact ⟨by decide, by decide, by decide, by decide⟩
        have hvp := vP_j hs g5.2.1 hop.1 hop.2.1
        have hev := evl_j (w := w) hs g5.2.1 hop.1 hop.2.1
        obtain ⟨v3, e3, h3⟩ := l201 hH hF hS j (F (k + 1)).1 (s ++ s2 ++ [(false, cu t (min n top) k)]) (.int (nI (if cu t (min n top) k = 43 then 1 else 0))) (.int v2) (by omega) g2 (by omega) hvp
        refine ⟨v3, ?_, h3⟩
        rw [hrw, e201_32]
        rw [hev] at e3
        rw [hv] at e3 ⊢
        by_cases q1 : cu t (min n top) k = 43
        · rw [if_pos q1] at e3 ⊢
          rw [if_neg (by decide)]
          rw [q1] at e3 ⊢
          exact e3
        · have z2 := z.resolve_left q1
          rw [if_neg q1] at e3 ⊢
          rw [if_pos (show nI 0 = 0 from rfl)]
          rw [z2] at e3 ⊢
          exact e3
    · have hn1 : ¬ sgn t (min n top) k = nI 43 := fun y => z (Or.inl ((sgn_e hH (by decide)).mp y))
      have hn2 : ¬ sgn t (min n top) k = nI 45 := fun y => z (Or.inr ((sgn_e hH (by decide)).mp y))
      rw [if_neg z, if_neg hn1, e89, bI_i, e201_13, if_neg hn2]
      exact ⟨evl w s, rfl, fun s' e => by cases e; exact ⟨rfl, hs⟩⟩
theorem m201 {I : Nat → Nat → Int32} {d n top b : Nat} {t : Nat → Nat} {F : Nat → zR} {w : Nat → Int32} {dep : Int32} (hH : mHd I n top t b) (hF : Gd (min n top) F) (hS : mSp I L ru dr sr rl x n top b d 202 [.ref 36, .int dep] F w) : mSp I L ru dr sr rl x n top b d 201 [.ref 36, .int dep] (pB 43 45 (cu t (min n top)) (min n top) F) w := by
  intro k hk hd
  obtain ⟨v1, e1, h1⟩ := hS k hk hd
  obtain ⟨g1, g2, g3⟩ := hF k hk
  unfold pB
  rw [k201, e1, bI_i, e201_3]
  cases y : (F k).2 with
  | none =>
    have hrw : rw' (F k) = nI (F k).1 := by unfold rw'; rw [y]
    have hb := hH.1
    refine ⟨v1, ?_, fun s e => by cases e⟩
    rw [hrw, l201_4, m190f (by rw [ms_v15]; exact fun q => ((nI_m1 (by omega)).mp q).elim), bI_i, e201_6, if_pos (show nI 0 = 0 from rfl)]
    rfl
  | some s =>
    have hrw : rw' (F k) = -(nI 1) := by unfold rw'; rw [y]
    obtain ⟨g4, g5⟩ := g3 s y
    obtain ⟨v2, e2, h2⟩ := l201 (d := d) (L := L) (ru := ru) (dr := dr) (sr := sr) (rl := rl) (x := x) hH hF hS (min n top - (F k).1) (F k).1 s .null .null (by omega) g2 (by omega) g5.2.1
    rw [hrw, h1 s y]
    exact ⟨v2, e2, fun s' e => (h2 s' e).1⟩

theorem m200 {I : Nat → Nat → Int32} {d n top b : Nat} {t : Nat → Nat} {F : Nat → zR} {w : Nat → Int32} {dep : Int32} (hH : mHd I n top t b) (hF : Gd (min n top) F) (hS : mSp I L ru dr sr rl x n top b d 201 [.ref 36, .int dep] F w) : mSp I L ru dr sr rl x n top b d 200 [.ref 36, .int dep] (pX (cu t (min n top)) F) w := by
  intro k hk hd
  have h80 := hH.1
  obtain ⟨v1, e1, h1⟩ := hS k hk hd
  obtain ⟨g1, g2, g3⟩ := hF k hk
  unfold pX
  rw [k200, e1, bI_i, e200_3]
  cases y : (F k).2 with
  | none =>
    have hrw : rw' (F k) = nI (F k).1 := by unfold rw'; rw [y]
    refine ⟨v1, ?_, fun s e => by cases e⟩
    rw [hrw, m192d (msd (by omega)), bI_i, e200_7, if_pos (show nI 0 = 0 from rfl), m192d (msd (by omega)), bI_i, e200_20, if_pos (show nI 0 = 0 from rfl), m192d (msd (by omega)), bI_i, e200_33, if_pos (show nI 0 = 0 from rfl)]
    rfl
  | some s =>
    have hrw : rw' (F k) = -(nI 1) := by unfold rw'; rw [y]
    obtain ⟨g4, g5⟩ := g3 s y
    have hv1 := h1 s y
    rw [hrw]
    dsimp only
    have step : ∀ c, c = 60 ∨ c = 62 ∨ c = 61 → cu t (min n top) (F k).1 = c → ∃ v2, cal d 201 [.ref 36, .int dep] (ms I ((F k).1 + 1) (-(nI 1)), L, rR ru dr sr (some b) rl, 65, x) = some (some (.int v2), (ms I (F ((F k).1 + 1)).1 (rw' (F ((F k).1 + 1))), L, rR ru dr sr (some b) rl, 65, x)) ∧ (∀ s2, (F ((F k).1 + 1)).2 = some s2 → v2 = evl w s2 ∧ evl w (s ++ s2 ++ [(false, c)]) = jn c (evl w s) (evl w s2)) := fun c hc hcu => by
      have hkm := cu_lt hcu (by omega)
      obtain ⟨v2, e2, h2⟩ := hS ((F k).1 + 1) (by omega) (by omega)
      obtain ⟨j1, j2, j3⟩ := hF ((F k).1 + 1) (by omega)
      have hop : opr c := by rcases hc with rfl | rfl | rfl <;> exact ⟨by decide, by decide, by decide, by decide⟩
      exact ⟨v2, e2, fun s2 q => ⟨h2 s2 q, evl_j (w := w) g5.2.1 (j3 s2 q).2.2.1 hop.1 hop.2.1⟩⟩
    by_cases z1 : cu t (min n top) (F k).1 = 60
    · obtain ⟨v2, e2, h2⟩ := step 60 (by decide) z1
      rw [if_pos (Or.inl z1), m192t hH (by decide) z1, bI_i, e200_7, if_neg (by decide), e2, bI_i, e200_12, hv1, z1]
      cases q : (F ((F k).1 + 1)).2 with
      | none =>
        have hr : rw' (F ((F k).1 + 1)) = nI (F ((F k).1 + 1)).1 := by unfold rw'; rw [q]
        rw [hr]
        by_cases c : v2 ≤ evl w s
        · rw [if_pos c]; exact ⟨_, rfl, fun s' e => by cases e⟩
        · rw [if_neg c]; exact ⟨_, rfl, fun s' e => by cases e⟩
      | some s2 =>
        have hr : rw' (F ((F k).1 + 1)) = -(nI 1) := by unfold rw'; rw [q]
        obtain ⟨q1, q2⟩ := h2 s2 q
        rw [hr, q1]
        refine ⟨if evl w s2 ≤ evl w s then nI 0 else nI 1, ?_, fun s' e => ?_⟩
        · by_cases c : evl w s2 ≤ evl w s
          · rw [if_pos c, if_pos c]; rfl
          · rw [if_neg c, if_neg c]; rfl
        · cases e; rw [q2]; rfl
    · by_cases z2 : cu t (min n top) (F k).1 = 62
      · obtain ⟨v2, e2, h2⟩ := step 62 (by decide) z2
        rw [if_pos (Or.inr (Or.inl z2)), m192f hH (by decide) (by omega) z1, bI_i, e200_7, if_pos (show nI 0 = 0 from rfl), m192t hH (by decide) z2, bI_i, e200_20, if_neg (by decide), e2, bI_i, e200_25, hv1, z2]
        cases q : (F ((F k).1 + 1)).2 with
        | none =>
          have hr : rw' (F ((F k).1 + 1)) = nI (F ((F k).1 + 1)).1 := by unfold rw'; rw [q]
          rw [hr]
          by_cases c : evl w s ≤ v2
          · rw [if_pos c]; exact ⟨_, rfl, fun s' e => by cases e⟩
          · rw [if_neg c]; exact ⟨_, rfl, fun s' e => by cases e⟩
        | some s2 =>
          have hr : rw' (F ((F k).1 + 1)) = -(nI 1) := by unfold rw'; rw [q]
          obtain ⟨q1, q2⟩ := h2 s2 q
          rw [hr, q1]
          refine ⟨if evl w s ≤ evl w s2 then nI 0 else nI 1, ?_, fun s' e => ?_⟩
          · by_cases c : evl w s ≤ evl w s2
            · rw [if_pos c, if_pos c]; rfl
            · rw [if_neg c, if_neg c]; rfl
          · cases e; rw [q2]; rfl
      · by_cases z3 : cu t (min n top) (F k).1 = 61
        · obtain ⟨v2, e2, h2⟩ := step 61 (by decide) z3
          rw [if_pos (Or.inr (Or.inr z3)), m192f hH (by decide) (by omega) z1, bI_i, e200_7, if_pos (show nI 0 = 0 from rfl), m192f hH (by decide) (by omega) z2, bI_i, e200_20, if_pos (show nI 0 = 0 from rfl), m192t hH (by decide) z3, bI_i, e200_33, if_neg (by decide), e2, bI_i, e200_38, hv1, z3]
          cases q : (F ((F k).1 + 1)).2 with
          | none =>
            have hr : rw' (F ((F k).1 + 1)) = nI (F ((F k).1 + 1)).1 := by unfold rw'; rw [q]
            rw [hr]
            by_cases c : evl w s = v2
            · rw [if_pos c]; exact ⟨_, rfl, fun s' e => by cases e⟩
            · rw [if_neg c]; exact ⟨_, rfl, fun s' e => by cases e⟩
          | some s2 =>
            have hr : rw' (F ((F k).1 + 1)) = -(nI 1) := by unfold rw'; rw [q]
            obtain ⟨q1, q2⟩ := h2 s2 q
            rw [hr, q1]
            refine ⟨if evl w s = evl w s2 then nI 1 else nI 0, ?_, fun s' e => ?_⟩
            · by_cases c : evl w s = evl w s2
              · rw [if_pos c, if_pos c]; rfl
              · rw [if_neg c, if_neg c]; rfl
            · cases e; rw [q2]; rfl
        · rw [if_neg (fun q => q.elim z1 (fun q => q.elim z2 z3)), m192f hH (by decide) (by omega) z1, bI_i, e200_7, if_pos (show nI 0 = 0 from rfl), m192f hH (by decide) (by omega) z2, bI_i, e200_20, if_pos (show nI 0 = 0 from rfl), m192f hH (by decide) (by omega) z3, bI_i, e200_33, if_pos (show nI 0 = 0 from rfl)]
          exact ⟨v1, rfl, fun s' e => by cases e; exact hv1⟩
theorem m200n {I : Nat → Nat → Int32} {n top b : Nat} {t : Nat → Nat} {w : Nat → Int32} (hH : mHd I n top t b) (hw : ask I w) : ∀ j, j ≤ 4 → ∀ d, mSp I L ru dr sr rl x n top b d 200 [.ref 36, .int (nI (4 - j))] (pE (cu t (min n top)) (min n top) j) w
  | 0, _, d => by
    have g0 := pT_g (t := t) (m := min n top) (E := none) fun F e => by cases e
    have o1 : ∀ o, o = 42 ∨ o = 43 ∨ o = 45 ∨ o = 47 → opr o := fun o h => by rcases h with rfl | rfl | rfl | rfl <;> exact ⟨by decide, by decide, by decide, by decide⟩
    have g1 := pU_g (t := t) g0
    have g2 := pB_g (t := t) (o1 42 (by decide)) (o1 47 (by decide)) g1
    have g3 := pB_g (t := t) (o1 43 (by decide)) (o1 45 (by decide)) g2
    have s0 : mSp I L ru dr sr rl x n top b d 204 [.ref 36, .int (nI 4)] (pU (cu t (min n top)) (min n top) (pT (cu t (min n top)) none)) w := fun k hk hd => m204 hH hw (Or.inl ⟨rfl, rfl⟩) (min n top) d k (by omega) hk hd
    exact m200 hH g3 (m201 hH g2 (m202 hH g1 s0))
  | j + 1, hj, d => by
    have ih := m200n hH hw j (by omega)
    have g0 := pT_g (t := t) (m := min n top) (E := some (pE (cu t (min n top)) (min n top) j)) fun F e => by cases e; exact pE_g j
    have o1 : ∀ o, o = 42 ∨ o = 43 ∨ o = 45 ∨ o = 47 → opr o := fun o h => by rcases h with rfl | rfl | rfl | rfl <;> exact ⟨by decide, by decide, by decide, by decide⟩
    have g1 := pU_g (t := t) g0
    have g2 := pB_g (t := t) (o1 42 (by decide)) (o1 47 (by decide)) g1
    have g3 := pB_g (t := t) (o1 43 (by decide)) (o1 45 (by decide)) g2
    have s0 : mSp I L ru dr sr rl x n top b d 204 [.ref 36, .int (nI (4 - (j + 1)))] (pU (cu t (min n top)) (min n top) (pT (cu t (min n top)) (some (pE (cu t (min n top)) (min n top) j)))) w := fun k hk hd => m204 hH hw (Or.inr ⟨_, rfl, by omega, pE_g j, fun d => by rw [show 4 - (j + 1) + 1 = 4 - j by omega]; exact ih d⟩) (min n top) d k (by omega) hk hd
    exact m200 hH g3 (m201 hH g2 (m202 hH g1 s0))

end
