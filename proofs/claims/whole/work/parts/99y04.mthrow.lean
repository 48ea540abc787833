section
variable {I : Nat → Nat → Int32} {L : Nat → Nat → Int64} {ru dr : Nat} {sr : Nat → Option Nat} {rd : Option Nat} {rl x : Nat}

theorem zset_comm {α : Type} (r : Nat → α) {i j : Nat} (v w : α) (h : i ≠ j) : zset (zset r i v) j w = zset (zset r j w) i v := by
  funext k
  unfold zset
  by_cases z : k = j
  · rw [if_pos z, if_neg (by omega), if_pos z]
  · rw [if_neg z]
    by_cases y : k = i
    · rw [if_pos y, if_pos y]
    · rw [if_neg y, if_neg y, if_neg z]
theorem zdif_S {S s x : Nat} (hs : s ≤ S) : zdif (2 ^ S - 1) (x ||| 2 ^ s) = zdif (2 ^ S - 1) (x ||| stn S s) := by
  refine tb_ext fun i => ?_
  unfold stn
  by_cases z : s < S
  · rw [if_pos z]
  · have : s = S := by omega
    subst this
    rw [if_neg z, zdif_tb, zdif_tb, Nat.testBit_two_pow_sub_one, Nat.testBit_or, Nat.testBit_or, Nat.testBit_two_pow, Nat.zero_testBit]
    by_cases y : i < s
    · rw [decide_eq_false (show ¬ s = i by omega)]
    · rw [decide_eq_false y]; rfl
theorem m220 {d R S T c p q s : Nat} {f g : Nat → Nat} {a : zP} (hct : zCt R S f g) (hI : mCt I R S f g) (hc : zA c) (hP : I 36 1 = nI p) (hA : mSt I c a) (hw : zWf p S T a) (hq : q < 4) (hs : s ≤ S) : ∃ I' L', cal d 220 [.ref 36, .ref c, .int (nI q), .int (nI s)] (I, L, rR ru dr sr rd rl, 65, x) = some (some (.int (nI (if can R S f a q (stn S s) (a (4 + q)) = true then 1 else 0))), (I', L', rR ru dr sr rd rl, 65, x)) ∧ (∀ b, b ≤ R + 1 → mV I' L' R (tab R S f a q (stn S s) (a (4 + q)) b) b) ∧ fH I I' L L' := by
  have hS := hct.S16
  have hb := hw.2.1 q hq
  have ho := p16 hS (oth_lt hw q)
  have hh := p16 hS hb.2.2.2.1
  have h2 : 2 ^ s ≤ 2 ^ 16 := Nat.pow_le_pow_right (by decide) (by omega)
  have hor : oth a q ||| 2 ^ s < 2 ^ 17 := Nat.or_lt_two_pow (by omega) (by omega)
  obtain ⟨I1, L1, e1, q1, q2⟩ := m218 (d := d) (L := L) (ru := ru) (dr := dr) (sr := sr) (rd := rd) (rl := rl) (x := x) (k := a (4 + q)) (o := a (12 + q)) (m := oth a q ||| 2 ^ s) hct hI (by omega) (by omega) (by omega)
  rw [zdif_S hs, show hT R (a (4 + q)) (fun b => (2 * rws f (zdif (2 ^ S - 1) (oth a q ||| stn S s)) R).testBit b) (fun b => (2 * rws f (a (12 + q)) R).testBit b) = tab R S f a q (stn S s) (a (4 + q)) from rfl] at e1 q1
  refine ⟨I1, L1, ?_, q1, q2⟩
  rw [k220, nI_add, if_pos (ak_A hc (by omega)), nI_add, if_pos (ak_A hc (by omega)), m207 hc hP hA hw (by omega), bI_i, e220_15, k219, bI_i, e220_17, zshl1 (by omega), fa_or, nI_clamp (by omega), nI_clamp (by omega), hA (4 + q) (by omega), hA (12 + q) (by omega), e1, bI_i, e220_19]
  unfold can
  by_cases z : 0 < (tab R S f a q (stn S s) (a (4 + q)) 0).1
  · rw [if_pos z, decide_eq_true z, if_pos zb1, if_pos rfl]
  · rw [if_neg z, decide_eq_false z, if_pos zb0, if_neg Bool.false_ne_true]
/-! copies -/
theorem l221 {d c0 c1 o : Nat} {a : zP} (h0 : ∀ k, k < 26 → aok 1 c0 (nI k) = true) (h1 : ∀ k, k < 26 → aok 1 c1 (nI (o + k)) = true) (ho : o < 100000) (hne : c0 ≠ c1) : ∀ n k (I : Nat → Nat → Int32), k + n = 26 → mSt I c0 a → (∀ j, j < k → I c1 (o + j) = nI (a j)) → ∃ I', res d 221 2 [.ref c0, .ref c1, .int (nI o), .int (nI k)] [] (I, L, rR ru dr sr rd rl, 65, x) = some (none, (I', L, rR ru dr sr rd rl, 65, x)) ∧ (∀ j, j < 26 → I' c1 (o + j) = nI (a j)) ∧ (∀ j, (j < o ∨ o + 26 ≤ j) → I' c1 j = I c1 j) ∧ ∀ c, c ≠ c1 → I' c = I c
  | 0, k, I, hk, hA, hd => ⟨I, by rw [l221_2, if_pos (by rw [nI_leI (by omega) (by omega)]; omega)], fun j hj => hd j (by omega), fun _ _ => rfl, fun _ _ => rfl⟩
  | n + 1, k, I, hk, hA, hd => by
    obtain ⟨I', e, q1, q2, q3⟩ := l221 (d := d) h0 h1 ho hne n (k + 1) (zup I c1 (o + k) (nI (a k))) (by omega) (hA.congr (zup_ne _ _ _ hne)) (fun j hj => by
      rw [zup_v]
      by_cases z : j = k
      · rw [if_pos (by omega), z]
      · rw [if_neg (by omega)]; exact hd j (by omega))
    refine ⟨I', ?_, q1, fun j hj => by rw [q2 j hj, zup_v, if_neg (by omega)], fun c hc => by rw [q3 c hc, zup_ne _ _ _ hc]⟩
    rw [l221_2, if_neg (by rw [nI_leI (by omega) (by omega)]; omega), if_pos (h0 k (by omega)), nI_add, if_pos (h1 k (by omega)), nI_clamp (by omega), nI_clamp (by omega), hA k (by omega), nI_add]
    exact e
theorem m221 {d c0 c1 o : Nat} {a : zP} (h0 : ∀ k, k < 26 → aok 1 c0 (nI k) = true) (h1 : ∀ k, k < 26 → aok 1 c1 (nI (o + k)) = true) (ho : o < 100000) (hne : c0 ≠ c1) (hA : mSt I c0 a) : ∃ I', cal d 221 [.ref c0, .ref c1, .int (nI o)] (I, L, rR ru dr sr rd rl, 65, x) = some (none, (I', L, rR ru dr sr rd rl, 65, x)) ∧ (∀ j, j < 26 → I' c1 (o + j) = nI (a j)) ∧ (∀ j, (j < o ∨ o + 26 ≤ j) → I' c1 j = I c1 j) ∧ ∀ c, c ≠ c1 → I' c = I c := by
  rw [k221]
  exact l221 h0 h1 ho hne 26 0 I (by omega) hA (fun j hj => absurd hj (Nat.not_lt_zero _))
/-- a standing copied to another row -/
theorem m221s {d c0 c1 : Nat} {a : zP} (h0 : c0 = 37 ∧ (c1 = 51 ∨ c1 = 52)) (hA : mSt I c0 a) : ∃ I', cal d 221 [.ref c0, .ref c1, .int (nI 0)] (I, L, rR ru dr sr rd rl, 65, x) = some (none, (I', L, rR ru dr sr rd rl, 65, x)) ∧ mSt I' c1 a ∧ fM [c1] [] I I' := by
  obtain ⟨I', e, q1, q2, q3⟩ := m221 (d := d) (L := L) (ru := ru) (dr := dr) (sr := sr) (rd := rd) (rl := rl) (x := x) (c0 := c0) (c1 := c1) (o := 0) (by obtain ⟨rfl, -⟩ := h0; exact fun k hk => ak_37 hk) (by obtain ⟨-, rfl | rfl⟩ := h0 <;> exact fun k hk => aok_n rfl rfl (by rw [Nat.zero_add]; exact hk) (by decide)) (by omega) (by obtain ⟨rfl, rfl | rfl⟩ := h0 <;> decide) hA
  exact ⟨I', e, fun k hk => by have := q1 k hk; rw [Nat.zero_add] at this; exact this, fun c h _ => q3 c (fun q => h (List.mem_singleton.mpr q)), fun k _ _ => by rw [q3 36 (by obtain ⟨-, rfl | rfl⟩ := h0 <;> decide)]⟩
/-! what undo brings back -/
def mUn (I : Nat → Nat → Int32) (u : List zP) : Prop := I 36 27 = nI u.length ∧ u.length ≤ 12 ∧ ∀ i b, u[i]? = some b → ∀ k, k < 26 → I 50 (26 * (u.length - 1 - i) + k) = nI (b k)
theorem l222 {d c : Nat} {J : Nat → Nat → Int32} : ∀ n k (I : Nat → Nat → Int32), k + n = 286 → (∀ j, j < k → I 50 j = J 50 (j + 26)) → (∀ j, k ≤ j → I 50 j = J 50 j) → (∀ b, b ≠ 50 → I b = J b) → ∃ I' w', res d 222 6 [.ref 36, .ref c, .int (nI k)] [] (I, L, rR ru dr sr rd rl, 65, x) = res d 222 27 [.ref 36, .ref c, w'] [] (zup I' 36 27 (J 36 27 - nI 1), L, rR ru dr sr rd rl, 65, x) ∧ (∀ j, j < 286 → I' 50 j = J 50 (j + 26)) ∧ ∀ b, b ≠ 50 → I' b = J b
  | 0, k, I, hk, h1, h2, h3 => ⟨I, _, by rw [l222_6, if_pos (by rw [nI_leI (by omega) (by omega)]; omega), h3 36 (by decide)], fun j hj => h1 j (by omega), h3⟩
  | n + 1, k, I, hk, h1, h2, h3 => by
    obtain ⟨I', w', e, q1, q2⟩ := l222 (d := d) (c := c) n (k + 1) (zup I 50 k (J 50 (k + 26))) (by omega) (fun j hj => by
      rw [zup_v]
      by_cases z : j = k
      · rw [if_pos z, z]
      · rw [if_neg z]; exact h1 j (by omega)) (fun j hj => by rw [zup_v, if_neg (by omega)]; exact h2 j (by omega)) (fun b hb => by rw [zup_ne _ _ _ hb]; exact h3 b hb)
    refine ⟨I', w', ?_, q1, q2⟩
    rw [l222_6, if_neg (by rw [nI_leI (by omega) (by omega)]; omega), nI_add, if_pos (ak_50 (by omega)), if_pos (ak_50 (by omega)), nI_clamp (by omega), nI_clamp (by omega), h2 (k + 26) (by omega), nI_add]
    exact e
theorem m222 {d c : Nat} {a : zP} {u : List zP} (hc : c = 37 ∨ c = 51) (hA : mSt I c a) (hU : mUn I u) : ∃ I', cal d 222 [.ref 36, .ref c] (I, L, rR ru dr sr rd rl, 65, x) = some (none, (I', L, rR ru dr sr rd rl, 65, x)) ∧ mUn I' ((a :: u).take 12) ∧ fM [50] [27] I I' := by
  obtain ⟨u1, u2, u3⟩ := hU
  have hac : ∀ k, k < 26 → aok 1 c (nI k) = true := by rcases hc with rfl | rfl <;> exact fun k hk => aok_n rfl rfl hk (by decide)
  have fin : ∀ (J : Nat → Nat → Int32) (m : Nat) (w : Value), m ≤ 11 → m = min 11 u.length → J 36 27 = nI m → (∀ i b, (u.take 11)[i]? = some b → ∀ k, k < 26 → J 50 (26 * (m - 1 - i) + k) = nI (b k)) → mSt J c a → fM [50] [27] I J → ∃ I', res d 222 27 [.ref 36, .ref c, w] [] (J, L, rR ru dr sr rd rl, 65, x) = some (none, (I', L, rR ru dr sr rd rl, 65, x)) ∧ mUn I' ((a :: u).take 12) ∧ fM [50] [27] I I' := fun J m w hm hm2 j1 j2 j3 j4 => by
    obtain ⟨I', e, q1, q2, q3⟩ := m221 (d := d) (L := L) (ru := ru) (dr := dr) (sr := sr) (rd := rd) (rl := rl) (x := x) (I := J) (c0 := c) (c1 := 50) (o := 26 * m) hac (fun k hk => ak_50 (by omega)) (by omega) (by rcases hc with rfl | rfl <;> decide) j3
    have h27 : I' 36 27 = nI m := by rw [q3 36 (by decide)]; exact j1
    have hlen : ((a :: u).take 12).length = m + 1 := by rw [cons12 _ _ u2]; omega
    refine ⟨zup I' 36 27 (nI (m + 1)), ?_, ⟨?_, by rw [hlen]; omega, fun i b hb k hk => ?_⟩, j4.tr ((show fM [50] [27] J I' from ⟨fun b hb _ => q3 b (fun q => hb (List.mem_singleton.mpr q)), fun k _ _ => by rw [q3 36 (by decide)]⟩).tr (fM.fld (Or.inl (by decide))))⟩
    · rw [e222_27, j1, zmul, e, bV_n, e222_35, h27, nI_add]
    · rw [zup_v, if_pos rfl, hlen]
    · rw [zup_ne _ _ _ (by decide), hlen]
      have hi : i < m + 1 := by have := (List.getElem?_eq_some_iff.mp hb).1; omega
      rw [List.getElem?_take_of_lt (by omega)] at hb
      cases i with
      | zero =>
        cases hb
        rw [show m + 1 - 1 - 0 = m by omega]
        exact q1 k hk
      | succ i =>
        rw [List.getElem?_cons_succ] at hb
        rw [q2 _ (by omega), show m + 1 - 1 - (i + 1) = m - 1 - i by omega]
        exact j2 i b (by rw [List.getElem?_take_of_lt (by omega)]; exact hb) k hk
  rw [k222]
  by_cases z : u.length = 12
  · obtain ⟨I1, w1, e1, q1, q2⟩ := l222 (d := d) (c := c) (L := L) (ru := ru) (dr := dr) (sr := sr) (rd := rd) (rl := rl) (x := x) (J := I) 286 0 I (by omega) (fun j hj => absurd hj (Nat.not_lt_zero _)) (fun _ _ => rfl) (fun _ _ => rfl)
    have e27 : I 36 27 - nI 1 = nI 11 := by rw [u1, z]; decide
    rw [e27] at e1
    rw [if_pos (by rw [u1, z]), e1]
    refine fin _ 11 w1 (Nat.le_refl _) (by omega) (by rw [zup_v, if_pos rfl]) (fun i b hb k hk => ?_) ((hA.congr (q2 c (by rcases hc with rfl | rfl <;> decide))).congr (zup_ne _ _ _ (by rcases hc with rfl | rfl <;> decide))) ((show fM [50] [27] I I1 from ⟨fun b hb _ => q2 b (fun q => hb (List.mem_singleton.mpr q)), fun k _ _ => by rw [q2 36 (by decide)]⟩).tr (fM.fld (Or.inl (by decide))))
    have hi : i < 11 := by have := (List.getElem?_eq_some_iff.mp hb).1; rw [List.length_take] at this; omega
    rw [List.getElem?_take_of_lt hi] at hb
    rw [zup_ne _ _ _ (by decide), q1 _ (by omega)]
    have := u3 i b hb k hk
    rw [z] at this
    rw [show 26 * (11 - 1 - i) + k + 26 = 26 * (12 - 1 - i) + k by omega]
    exact this
  · rw [if_neg (by rw [u1, nI_eq (by omega) (by omega)]; exact z)]
    refine fin I u.length .null (by omega) (by omega) u1 (fun i b hb k hk => ?_) hA fM.rf
    have hi : i < 11 := by have := (List.getElem?_eq_some_iff.mp hb).1; rw [List.length_take] at this; omega
    rw [List.getElem?_take_of_lt hi] at hb
    exact u3 i b hb k hk
theorem nxt_mod {p : Nat} {a : zP} (h : a 24 < p) : (a 24 + 1) % p = nxt p a := by
  unfold nxt
  by_cases z : a 24 + 1 < p
  · rw [if_pos z, Nat.mod_eq_of_lt z]
  · rw [if_neg z, show a 24 + 1 = p by omega, Nat.mod_self]
theorem m223 {d c p : Nat} {a : zP} (hc : zA c) (hp : p ≤ 4) (hP : I 36 1 = nI p) (hA : mSt I c a) (h : a 24 < p) : cal d 223 [.ref 36, .ref c] (I, L, rR ru dr sr rd rl, 65, x) = some (none, (zup I c 24 (nI (nxt p a)), L, rR ru dr sr rd rl, 65, x)) := by
  rw [k223, if_pos (ak_A hc (by omega)), hP, if_neg (by rw [nI_z (by omega)]; omega), if_pos (ak_A hc (by omega)), nI_clamp (by omega), hA 24 (by omega), nI_add, zrem (by omega) (by omega) (by omega), nxt_mod h]
theorem m224 {d c p q R S T : Nat} {f g : Nat → Nat} {a : zP} (hct : zCt R S f g) (hI : mCt I R S f g) (hc : zA c) (hP : I 36 1 = nI p) (hA : mSt I c a) (hw : zWf p S T a) (hq : q < p) (hg : gol S a q < S) : ∃ I', cal d 224 [.ref 36, .ref c, .int (nI q)] (I, L, rR ru dr sr rd rl, 65, x) = some (none, (I', L, rR ru dr sr rd rl, 65, x)) ∧ mSt I' c (goR S a q) ∧ ∀ b, b ≠ c → I' b = I b := by
  have hp := hw.1
  have hS := hct.S16
  have hcs := hc.s
  have hA2 := hA.put (k := 8 + q) (v := gol S a q + 1)
  have hP1 : (zup I c (8 + q) (nI (gol S a q + 1))) 36 1 = nI p := by rw [zup_ne _ _ _ (Ne.symm hcs.2.1)]; exact hP
  have h31 : (zup I c (8 + q) (nI (gol S a q + 1))) 36 3 = nI S := by rw [zup_ne _ _ _ (Ne.symm hcs.2.1)]; exact hI.2.1
  have ho : oth (zset a (8 + q) (gol S a q + 1)) q < 65536 := by rw [oth_set (by omega)]; exact p16 hS (oth_lt hw q)
  have hz : ∀ o, p ≤ o → o < 4 → zset a (8 + q) (gol S a q + 1) (12 + o) = 0 := fun o h1 h2 => by rw [zset_ne _ _ (by omega)]; exact (hw.2.2.1 o h2 h1).2.2.2.1
  have e2 := m208 (d := d) (L := L) (ru := ru) (dr := dr) (sr := sr) (rd := rd) (rl := rl) (x := x) hc hp hP1 h31 hS hA2 hz (q := q) (by omega) (by rw [zset_self]; omega) ho
  rw [k224, m208w hct hc hP hI hA hw (by omega), bI_i, nI_add, e224_8, if_pos (ak_A hc (by omega)), nI_clamp (by omega), nI_add, e2, bI_i, e224_15, h31]
  unfold goR
  have hgl : gol S (zset a (8 + q) (gol S a q + 1)) q ≤ S := by
    have h2 := gl_le (oth (zset a (8 + q) (gol S a q + 1)) q) (S - (gol S a q + 1)) (gol S a q + 1)
    have : gol S (zset a (8 + q) (gol S a q + 1)) q = gl (oth (zset a (8 + q) (gol S a q + 1)) q) (S - (gol S a q + 1)) (gol S a q + 1) := by unfold gol; rw [zset_self]
    omega
  by_cases z : gol S (zset a (8 + q) (gol S a q + 1)) q < S
  · rw [if_neg (by rw [nI_leI (by omega) (by omega)]; omega), if_pos z]
    exact ⟨_, rfl, hA2, fun b hb => zup_ne _ _ _ hb⟩
  · have hr := (hw.2.1 q (by omega)).2.2.2.2.2
    have e20 : (zup I c (8 + q) (nI (gol S a q + 1))) c (20 + q) = nI (a (20 + q)) := by
      have := hA2 (20 + q) (by omega)
      rw [zset_ne _ _ (by omega)] at this
      exact this
    have hA3 := hA2.put (k := 20 + q) (v := min 9 (a (20 + q) + 1))
    have hA4 := hA3.put (k := 8 + q) (v := 0)
    rw [if_pos (by rw [nI_leI (by omega) (by omega)]; omega), nI_add, if_pos (ak_A hc (by omega)), if_pos (ak_A hc (by omega)), nI_add, if_pos (ak_A hc (by omega)), nI_clamp (by omega), nI_clamp (by omega), e20, nI_add, zmin_n (by omega) (by omega), if_neg z]
    exact ⟨_, rfl, hA4, fun b hb => by rw [zup_ne _ _ _ hb, zup_ne _ _ _ hb, zup_ne _ _ _ hb]⟩
/-! the rule at work -/
def mRu (I : Nat → Nat → Int32) (rl n : Nat) (t : Nat → Nat) : Prop := I 36 20 = nI n ∧ n ≤ 40 ∧ ∀ k, k < n → I rl k = (nI (t k)).toInt8.toInt32 ∧ t k < 256
theorem fM.ru' {W F : List Nat} {I I' : Nat → Nat → Int32} (h : fM W F I I') {rl n : Nat} {t : Nat → Nat} (hr : rl = 44 ∨ rl = 45) (hR : mRu I rl n t) (hm : 20 ∉ F ∧ rl ∉ W) : mRu I' rl n t := ⟨by rw [h.2 20 hm.1 rfl]; exact hR.1, hR.2.1, fun k hk => by rw [h.1 rl hm.2 (by rcases hr with rfl | rfl <;> rfl)]; exact hR.2.2 k hk⟩
theorem rR_rd {b : Nat} : zup (rR ru dr sr rd rl) 36 11 (some b) = rR ru dr sr (some b) rl := by
  funext a k
  by_cases z : a = 36
  · subst z
    rw [zup_v]
    by_cases y : k = 11
    · subst y; rfl
    · rw [if_neg y]
      unfold rR
      split <;> first | rfl | omega | (split <;> first | rfl | omega)
  · rw [zup_ne _ _ _ z]
    unfold rR
    split <;> first | rfl | omega | (split <;> first | rfl | omega)
theorem m187 {d b n top : Nat} : cal d 187 [.ref 36, .ref b, .int (nI n), .int (nI top)] (I, L, rR ru dr sr rd rl, 65, x) = some (none, (ms (zup (zup I 36 12 (nI n)) 36 13 (nI top)) 0 (-(nI 1)), L, rR ru dr sr (some b) rl, 65, x)) := by
  rw [k187, rR_rd, e187_3]
  rfl
theorem ms_21 (I : Nat → Nat → Int32) (k : Nat) (w v : Int32) : zup (ms I k w) 36 21 v = ms (zup I 36 21 v) k w := by
  funext c j
  by_cases z : c = 36
  · subst z
    unfold ms
    simp only [zup_v]
    by_cases y : j = 21
    · rw [if_pos y, if_neg (by omega), if_neg (by omega), if_pos y]
    · rw [if_neg y]
      by_cases w1 : j = 15
      · rw [if_pos w1, if_pos w1]
      · rw [if_neg w1, if_neg w1]
        by_cases w2 : j = 14
        · rw [if_pos w2, if_pos w2]
        · rw [if_neg w2, if_neg w2, if_neg y]
  · rw [zup_ne _ _ _ z, ms_c _ _ _ z, ms_c _ _ _ z, zup_ne _ _ _ z]
theorem prs_pos {t : Nat → Nat} {n : Nat} {cs : zC} (hn : 0 < n) (hn4 : n ≤ 40) (h : (prs t n).2 = some cs) : (pE (cu t n) n 4 0).2 = some cs ∧ (pE (cu t n) n 4 0).1 = n := by
  unfold prs at h
  rw [if_neg (by omega), show min n 40 = n by omega] at h
  by_cases z : (pE (cu t n) n 4 0).1 = n
  · rw [if_pos z] at h; exact ⟨h, z⟩
  · rw [if_neg z] at h; cases h
theorem m209 {d c p q R S T n : Nat} {f g t : Nat → Nat} {a : zP} {cs : zC} (hd : 41 ≤ d) (hrl : rl = 44 ∨ rl = 45) (hct : zCt R S f g) (hI : mCt I R S f g) (hc : zA c) (hP : I 36 1 = nI p) (hA : mSt I c a) (hw : zWf p S T a) (hq : q < 4) (hR : mRu I rl n t) (hcs : (prs t n).2 = some cs) : ∃ I' rd', cal d 209 [.ref 36, .ref c, .int (nI q)] (I, L, rR ru dr sr rd rl, 65, x) = some (some (.int (ofv (fun c => nI (th S g a q c)) cs)), (I', L, rR ru dr sr rd' rl, 65, x)) ∧ fM [] [] I I' ∧ I' 36 10 = I 36 10 := by
  have hp := hw.1
  have hS := hct.S16
  have hb := hw.2.1 q hq
  have h25 := hw.2.2.2.2
  have hcs' := hc.s
  have hg := gol_le hw hq
  have hgg := hct.gle hg
  have hR8 := hct.2.1
  have hh := p16 hS hb.2.2.2.1
  have hpc := pc_le (a (12 + q))
  obtain ⟨r1, r2, r3⟩ := hR
  have h7 : (7 : Nat) < 2 ^ 31 := by decide
  rw [k209, if_pos (ak_A hc (by omega)), if_neg (by decide), if_pos (ak_A hc (by omega)), nI_clamp (by omega), nI_clamp (by omega), hA 25 (by omega), hA q (by omega), zrem (by omega) (by decide) (by decide)]
  by_cases z : n = 0
  · have ecs : cs = usu := by
      unfold prs at hcs
      rw [if_pos z] at hcs
      cases hcs
      rfl
    have eo : ofv (fun c => nI (th S g a q c)) cs = zmax (-(nI 3)) (zmin (nI 3) (if nI (a 25 % 7) ≤ nI (a q) then nI 0 else nI 1)) := by rw [ecs]; rfl
    rw [eo]
    refine ⟨I, rd, ?_, fM.rf, rfl⟩
    by_cases y : a 25 % 7 ≤ a q
    · rw [if_pos (by rw [nI_leI (by omega) (by omega)]; exact y), e209_12, r1, if_pos (by rw [z]; decide), e209_91, if_pos (by rw [nI_leI (by omega) (by omega)]; exact y)]
    · rw [if_neg (by rw [nI_leI (by omega) (by omega)]; exact y), e209_12, r1, if_pos (by rw [z]; decide), e209_91, if_neg (by rw [nI_leI (by omega) (by omega)]; exact y)]
  · obtain ⟨p1, p2⟩ := prs_pos (by omega) r2 hcs
    have step : ∀ u : Int32, ∃ I' rd', res d 209 12 [.ref 36, .ref c, .int (nI q), .null, .null] [.int u] (I, L, rR ru dr sr rd rl, 65, x) = some (some (.int (ofv (fun c => nI (th S g a q c)) cs)), (I', L, rR ru dr sr rd' rl, 65, x)) ∧ fM [] [] I I' ∧ I' 36 10 = I 36 10 := fun u => by
      have u46 : ∀ (J : Nat → Nat → Int32) (i : Nat) (v : Int32), fM [] [] J (zup J 46 i v) := fun J i v => fM.up (Or.inr ⟨rfl, by decide⟩) (by decide)
      -- the seven rows
      have d46 : ∀ (J : Nat → Nat → Int32) (i : Nat) (v : Int32), (zup J 46 i v) c = J c := fun J i v => zup_ne _ _ _ hcs'.2.2.1
      have f46 : ∀ (J : Nat → Nat → Int32) (i : Nat) (v : Int32), (zup J 46 i v) 36 = J 36 := fun J i v => zup_ne _ _ _ (by decide)
      have g46 : ∀ (J : Nat → Nat → Int32) (i : Nat) (v : Int32), (zup J 46 i v) rl = J rl := fun J i v => zup_ne _ _ _ (by rcases hrl with rfl | rfl <;> decide)
      let J7 := zup (zup (zup (zup (zup (zup (zup I 46 0 (nI (a q))) 46 1 (nI (gol S a q))) 46 2 (nI (g (gol S a q)))) 46 3 (nI (pc (a (12 + q))))) 46 4 (nI (a (16 + q)))) 46 5 (nI q)) 46 6 (nI (a 25 % 7))
      have fJ : fM [] [] I J7 := (u46 _ _ _).tr ((u46 _ _ _).tr ((u46 _ _ _).tr ((u46 _ _ _).tr ((u46 _ _ _).tr ((u46 _ _ _).tr (u46 _ _ _))))))
      have hJ36 : J7 36 = I 36 := by show zup _ 46 _ _ 36 = _; rw [f46, f46, f46, f46, f46, f46, f46]
      have hJrl : J7 rl = I rl := by show zup _ 46 _ _ rl = _; rw [g46, g46, g46, g46, g46, g46, g46]
      let K := zup (zup (zup J7 36 12 (nI n)) 36 13 (nI 40)) 36 21 (nI 1)
      have fK : fM [] [] J7 K := (fM.fld (Or.inr rfl)).tr ((fM.fld (Or.inr rfl)).tr (fM.fld (Or.inr rfl)))
      have hKrl : K rl = I rl := by
        have h36 : rl ≠ 36 := by rcases hrl with rfl | rfl <;> decide
        show zup (zup (zup J7 36 12 (nI n)) 36 13 (nI 40)) 36 21 (nI 1) rl = _
        rw [zup_ne _ _ _ h36, zup_ne _ _ _ h36, zup_ne _ _ _ h36, hJrl]
      have hH : mHd K n 40 t rl := by
        refine ⟨by omega, by decide, ?_, ?_, by rcases hrl with rfl | rfl <;> decide, fun k hk => by rcases hrl with rfl | rfl <;> exact aok_n rfl rfl (by show k < 40; omega) (by decide), fun k hk => by rw [hKrl]; exact r3 k hk⟩
        · show zup (zup (zup J7 36 12 (nI n)) 36 13 (nI 40)) 36 21 (nI 1) 36 12 = _
          rw [zup_v, if_neg (by decide), zup_v, if_neg (by decide), zup_v, if_pos rfl]
        · show zup (zup (zup J7 36 12 (nI n)) 36 13 (nI 40)) 36 21 (nI 1) 36 13 = _
          rw [zup_v, if_neg (by decide), zup_v, if_pos rfl]
      have hK46 : K 46 = J7 46 := by
        show zup (zup (zup J7 36 12 (nI n)) 36 13 (nI 40)) 36 21 (nI 1) 46 = _
        rw [zup_ne _ _ _ (by decide), zup_ne _ _ _ (by decide), zup_ne _ _ _ (by decide)]
      have hask : ask K (fun c => nI (th S g a q c)) := by
        refine Or.inr ⟨?_, fun c' hl => ?_⟩
        · show zup (zup (zup J7 36 12 (nI n)) 36 13 (nI 40)) 36 21 (nI 1) 36 21 ≠ 0
          rw [zup_v, if_pos rfl]
          decide
        · rw [hK46]
          show zup (zup (zup (zup (zup (zup (zup I 46 0 (nI (a q))) 46 1 (nI (gol S a q))) 46 2 (nI (g (gol S a q)))) 46 3 (nI (pc (a (12 + q))))) 46 4 (nI (a (16 + q)))) 46 5 (nI q)) 46 6 (nI (a 25 % 7)) 46 (lix c') = nI (th S g a q c')
          simp only [zup_v]
          rcases of_decide_eq_true hl with rfl | rfl | rfl | rfl | rfl | rfl | rfl <;> rfl
      obtain ⟨v, e1, h1⟩ := m200n (L := L) (ru := ru) (dr := dr) (sr := sr) (rl := rl) (x := x) hH hask 4 (Nat.le_refl _) d 0 (Nat.zero_le _) (by omega)
      rw [show min n 40 = n by omega] at e1 h1
      have hv := h1 cs p1
      have k10 : (zup (ms K (pE (cu t n) n 4 0).1 (rw' (pE (cu t n) n 4 0))) 36 21 (nI 0)) 36 10 = I 36 10 := by
        rw [zup_v, if_neg (by decide)]
        unfold ms
        rw [zup_v, if_neg (by decide), zup_v, if_neg (by decide)]
        show zup (zup (zup J7 36 12 (nI n)) 36 13 (nI 40)) 36 21 (nI 1) 36 10 = _
        rw [zup_v, if_neg (by decide), zup_v, if_neg (by decide), zup_v, if_neg (by decide), hJ36]
      refine ⟨zup (ms K (pE (cu t n) n 4 0).1 (rw' (pE (cu t n) n 4 0))) 36 21 (nI 0), some rl, ?_, fJ.tr (fK.tr (fM.ms.tr (fM.fld (Or.inr rfl)))), k10⟩
      have s1 : ∀ (J : Nat → Nat → Int32), J c = I c → J c (12 + q) = nI (a (12 + q)) ∧ J c (16 + q) = nI (a (16 + q)) ∧ J c 25 = nI (a 25) := fun J hJ => by rw [hJ]; exact ⟨hA _ (by omega), hA _ (by omega), hA _ (by omega)⟩
      have c2 : (zup (zup (zup I 46 0 (nI (a q))) 46 1 (nI (gol S a q))) 46 2 (nI (g (gol S a q)))) c = I c := by rw [d46, d46, d46]
      have c3 : (zup (zup (zup (zup I 46 0 (nI (a q))) 46 1 (nI (gol S a q))) 46 2 (nI (g (gol S a q)))) 46 3 (nI (pc (a (12 + q))))) c = I c := by rw [d46, c2]
      have c4 : (zup (zup (zup (zup (zup (zup I 46 0 (nI (a q))) 46 1 (nI (gol S a q))) 46 2 (nI (g (gol S a q)))) 46 3 (nI (pc (a (12 + q))))) 46 4 (nI (a (16 + q)))) 46 5 (nI q)) c = I c := by rw [d46, d46, c3]
      have c5 : (zup (zup (zup (zup I 46 0 (nI (a q))) 46 1 (nI (gol S a q))) 46 2 (nI (g (gol S a q)))) 46 3 (nI (pc (a (12 + q))))) 36 20 = nI n := by rw [f46, f46, f46, f46]; exact r1
      rw [e209_12, r1, if_neg (by rw [nI_l0 (by omega)]; exact z), m208w hct hc hP hI hA hw hq, bI_i, e209_20, if_pos (ak_A hc (by omega)), if_pos (ak_46 (by omega)), if_pos (ak_46 (by omega)), if_pos (ak_38 (by omega)), if_pos (ak_46 (by omega)), nI_add, if_pos (ak_A hc (by omega)), nI_clamp (by omega), nI_clamp (by omega), nI_clamp (by omega), nI_clamp (by omega), nI_clamp (by omega), nI_clamp (by omega), hA q (by omega), hI.2.2.1 _ hg, (s1 _ c2).1, s296 hh, bI_i, e209_50, if_pos (ak_46 (by omega)), nI_add, if_pos (ak_A hc (by omega)), if_pos (ak_46 (by omega)), if_pos (ak_46 (by omega)), if_pos (ak_A hc (by omega)), if_neg (by decide), if_pos (ak_46 (by omega)), nI_clamp (by omega), nI_clamp (by omega), nI_clamp (by omega), nI_clamp (by omega), nI_clamp (by omega), nI_clamp (by omega), (s1 _ c3).2.1, (s1 _ c4).2.2, zrem (by omega) (by decide) (by decide), c5, m187, bV_n, e209_81, if_pos zb1, ms_21]
      rw [show zup (zup (zup (zup (zup (zup (zup (zup (zup (zup I 46 0 (nI (a q))) 46 1 (nI (gol S a q))) 46 2 (nI (g (gol S a q)))) 46 3 (nI (pc (a (12 + q))))) 46 4 (nI (a (16 + q)))) 46 5 (nI q)) 46 6 (nI (a 25 % 7))) 36 12 (nI n)) 36 13 (nI 40)) 36 21 (nI 1) = K from rfl]
      rw [show nI 0 = nI (4 - 4) from rfl] at *
      rw [e1, bI_i, e209_87, if_pos zb0, e209_91, hv]
      rfl
    by_cases y : a 25 % 7 ≤ a q
    · rw [if_pos (by rw [nI_leI (by omega) (by omega)]; exact y)]
      exact step _
    · rw [if_neg (by rw [nI_leI (by omega) (by omega)]; exact y)]
      exact step _

end
