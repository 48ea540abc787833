section
variable {I : Nat → Nat → Int32} {L : Nat → Nat → Int64} {ru dr : Nat} {sr : Nat → Option Nat} {rd : Option Nat} {rl x : Nat}

/-! the reference: frames, the court, a standing -/
def msf (k : Nat) : Bool := Nat.beq k 10 || Nat.beq k 12 || Nat.beq k 13 || Nat.beq k 14 || Nat.beq k 15 || Nat.beq k 21 || Nat.beq k 30
def msc (c : Nat) : Bool := Nat.beq c 36 || Nat.beq c 46 || Nat.beq c 47 || Nat.beq c 49
def fM (W F : List Nat) (I I' : Nat → Nat → Int32) : Prop := (∀ c, c ∉ W → msc c = false → I' c = I c) ∧ ∀ k, k ∉ F → msf k = false → I' 36 k = I 36 k
theorem fM.rf {W F : List Nat} {I : Nat → Nat → Int32} : fM W F I I := ⟨fun _ _ _ => rfl, fun _ _ _ => rfl⟩
theorem fM.tr {W F : List Nat} {I I1 I2 : Nat → Nat → Int32} (h : fM W F I I1) (h2 : fM W F I1 I2) : fM W F I I2 := ⟨fun c a b => (h2.1 c a b).trans (h.1 c a b), fun k a b => (h2.2 k a b).trans (h.2 k a b)⟩
theorem fM.mono {W W' F F' : List Nat} {I I' : Nat → Nat → Int32} (h : fM W F I I') (hm : ∀ c ∈ W, c ∈ W') (hf : ∀ c ∈ F, c ∈ F') : fM W' F' I I' := ⟨fun c a b => h.1 c (fun q => a (hm c q)) b, fun k a b => h.2 k (fun q => a (hf k q)) b⟩
theorem fM.up {W F : List Nat} {I : Nat → Nat → Int32} {c k : Nat} {v : Int32} (hm : c ∈ W ∨ (msc c = true ∧ c ≠ 36)) (h : c ≠ 36) : fM W F I (zup I c k v) := ⟨fun b a e => zup_ne _ _ _ (fun q => by
  rcases hm with hm | hm
  · exact a (q ▸ hm)
  · rw [q, hm.1] at e; cases e), fun _ _ _ => by rw [zup_ne _ _ _ (Ne.symm h)]⟩
theorem fM.fld {W F : List Nat} {I : Nat → Nat → Int32} {k : Nat} {v : Int32} (hk : k ∈ F ∨ msf k = true) : fM W F I (zup I 36 k v) := ⟨fun b _ e => zup_ne _ _ _ (fun q => by rw [q] at e; cases e), fun j a b => by
  rw [zup_v, if_neg]
  intro q
  rcases hk with hk | hk
  · exact a (q ▸ hk)
  · rw [q, hk] at b; cases b⟩
theorem fM.ms {W F : List Nat} {I : Nat → Nat → Int32} {k : Nat} {w : Int32} : fM W F I (ms I k w) := (fM.fld (Or.inr rfl)).tr (fM.fld (Or.inr rfl))
def mCt (I : Nat → Nat → Int32) (R S : Nat) (f g : Nat → Nat) : Prop := I 36 2 = nI R ∧ I 36 3 = nI S ∧ (∀ s, s ≤ S → I 38 s = nI (g s)) ∧ ∀ r, r ≤ R → I 39 r = nI (f r)
theorem fM.ct {W F : List Nat} {I I' : Nat → Nat → Int32} (h : fM W F I I') {R S : Nat} {f g : Nat → Nat} (hI : mCt I R S f g) (hm : 38 ∉ W ∧ 39 ∉ W ∧ 2 ∉ F ∧ 3 ∉ F) : mCt I' R S f g := by
  obtain ⟨h1, h2, h3, h4⟩ := hI
  exact ⟨by rw [h.2 2 hm.2.2.1 rfl]; exact h1, by rw [h.2 3 hm.2.2.2 rfl]; exact h2, fun s hs => by rw [h.1 38 hm.1 rfl]; exact h3 s hs, fun r hr => by rw [h.1 39 hm.2.1 rfl]; exact h4 r hr⟩
def mSt (I : Nat → Nat → Int32) (c : Nat) (a : zP) : Prop := ∀ k, k < 26 → I c k = nI (a k)
theorem mSt.congr {I I' : Nat → Nat → Int32} {c : Nat} {a : zP} (h : mSt I c a) (e : I' c = I c) : mSt I' c a := fun k hk => by rw [e]; exact h k hk
theorem fM.st {W F : List Nat} {I I' : Nat → Nat → Int32} (h : fM W F I I') {c : Nat} {a : zP} (hA : mSt I c a) (hm : c ∉ W) (hc : msc c = false) : mSt I' c a := hA.congr (h.1 c hm hc)
theorem mSt.put {I : Nat → Nat → Int32} {c k v : Nat} {a : zP} (h : mSt I c a) : mSt (zup I c k (nI v)) c (zset a k v) := fun j hj => by
  rw [zup_v]
  unfold zset
  by_cases z : j = k
  · rw [if_pos z, if_pos z]
  · rw [if_neg z, if_neg z]; exact h j hj
def zA (c : Nat) : Prop := c = 37 ∨ c = 52
theorem ak_A {c k : Nat} (hc : zA c) (h : k < 26) : aok 1 c (nI k) = true := by rcases hc with rfl | rfl <;> exact aok_n rfl rfl h (by decide)
theorem zA.s {c : Nat} (hc : zA c) : msc c = false ∧ c ≠ 36 ∧ c ≠ 46 ∧ c ≠ 38 ∧ c ≠ 39 := by rcases hc with rfl | rfl <;> decide
theorem orl_cut {h : Nat → Nat} {m : Nat} : ∀ n, m ≤ n → (∀ o, m ≤ o → o < n → h o = 0) → orl h n = orl h m
  | 0, hm, _ => by rw [show m = 0 by omega]
  | n + 1, hm, hz => by
    by_cases z : m = n + 1
    · rw [z]
    · rw [orl, hz n (by omega) (by omega), Nat.or_zero]
      exact orl_cut n (by omega) fun o h1 h2 => hz o h1 (by omega)
theorem oth_p {p S T q : Nat} {a : zP} (hw : zWf p S T a) : oth a q = orl (fun o => if o = q then 0 else a (12 + o)) p := by
  have hp := hw.1
  unfold oth
  refine orl_cut 4 hp fun o h1 h2 => ?_
  split
  · rfl
  · exact (hw.2.2.1 o h2 h1).2.2.2.1
theorem l207 {d c p q : Nat} {a : zP} {v : Int32} (hc : zA c) (hp : p ≤ 4) (hP : I 36 1 = nI p) (hA : mSt I c a) (hv : ∀ o, o < 4 → (nI o = v ↔ o = q)) : ∀ n o, o + n = p → res d 207 4 [.ref 36, .ref c, .int v, .int (nI (orl (fun o => if o = q then 0 else a (12 + o)) o)), .int (nI o)] [] (I, L, rR ru dr sr rd rl, 65, x) = some (some (.int (nI (orl (fun o => if o = q then 0 else a (12 + o)) p))), (I, L, rR ru dr sr rd rl, 65, x))
  | 0, o, h => by rw [l207_4, hP, if_pos (by rw [nI_leI (by omega) (by omega)]; omega), show o = p by omega]
  | n + 1, o, h => by
    have ih := l207 (d := d) hc hp hP hA hv n (o + 1) (by omega)
    rw [orl] at ih
    rw [l207_4, hP, if_neg (by rw [nI_leI (by omega) (by omega)]; omega)]
    by_cases z : o = q
    · rw [if_pos z] at ih
      rw [if_pos ((hv o (by omega)).mpr z), fa_or, nI_add]
      exact ih
    · rw [if_neg z] at ih
      rw [if_neg (fun e => z ((hv o (by omega)).mp e)), nI_add, if_pos (ak_A hc (by omega)), nI_clamp (by omega), hA (12 + o) (by omega), fa_or, nI_add]
      exact ih
theorem m207 {d c p q S T : Nat} {a : zP} (hc : zA c) (hP : I 36 1 = nI p) (hA : mSt I c a) (hw : zWf p S T a) (hq : q ≤ 4) : cal d 207 [.ref 36, .ref c, .int (nI q)] (I, L, rR ru dr sr rd rl, 65, x) = some (some (.int (nI (oth a q))), (I, L, rR ru dr sr rd rl, 65, x)) := by
  rw [k207, oth_p hw]
  exact l207 hc hw.1 hP hA (fun o ho => nI_eq (by omega) (by omega)) p 0 (by omega)
theorem m207n {d c p S T : Nat} {a : zP} (hc : zA c) (hP : I 36 1 = nI p) (hA : mSt I c a) (hw : zWf p S T a) : cal d 207 [.ref 36, .ref c, .int (-(nI 1))] (I, L, rR ru dr sr rd rl, 65, x) = some (some (.int (nI (oth a 4))), (I, L, rR ru dr sr rd rl, 65, x)) := by
  rw [k207, oth_p hw]
  exact l207 hc hw.1 hP hA (fun o ho => ⟨fun e => ((nI_m1 (by omega)).mp e).elim, fun e => by omega⟩) p 0 (by omega)
theorem l208 {d c b S : Nat} {v2 : Int32} (h3 : I 36 3 = nI S) (hS : S ≤ 16) (hb : b < 65536) : ∀ n v, v + n = S → res d 208 11 [.ref 36, .ref c, .int v2, .int (nI v), .int (nI b)] [] (I, L, rR ru dr sr rd rl, 65, x) = some (some (.int (nI (gl b n v))), (I, L, rR ru dr sr rd rl, 65, x))
  | 0, v, h => by rw [l208_11, h3, if_pos (by rw [nI_leI (by omega) (by omega)]; omega)]; rfl
  | n + 1, v, h => by
    have ih := l208 (d := d) (c := c) (v2 := v2) h3 hS hb n (v + 1) (by omega)
    rw [l208_11, h3, if_neg (by rw [nI_leI (by omega) (by omega)]; omega), m180 (by omega) (by omega), bI_i, e208_18]
    unfold gl
    cases z : b.testBit v with
    | true =>
      rw [if_neg (show ¬ nI (if true = true then 1 else 0) = 0 by decide), nI_add]
      exact ih
    | false =>
      rw [if_pos (show nI (if false = true then 1 else 0) = 0 from rfl)]
      rfl
theorem m207' {d c p q : Nat} {a : zP} (hc : zA c) (hp : p ≤ 4) (hP : I 36 1 = nI p) (hA : mSt I c a) (hz : ∀ o, p ≤ o → o < 4 → a (12 + o) = 0) (hq : q ≤ 4) : cal d 207 [.ref 36, .ref c, .int (nI q)] (I, L, rR ru dr sr rd rl, 65, x) = some (some (.int (nI (oth a q))), (I, L, rR ru dr sr rd rl, 65, x)) := by
  have : oth a q = orl (fun o => if o = q then 0 else a (12 + o)) p := by
    unfold oth
    refine orl_cut 4 hp fun o h1 h2 => ?_
    split
    · rfl
    · exact hz o h1 h2
  rw [k207, this]
  exact l207 hc hp hP hA (fun o ho => nI_eq (by omega) (by omega)) p 0 (by omega)
theorem m208 {d c p q S : Nat} {a : zP} (hc : zA c) (hp : p ≤ 4) (hP : I 36 1 = nI p) (h3 : I 36 3 = nI S) (hS : S ≤ 16) (hA : mSt I c a) (hz : ∀ o, p ≤ o → o < 4 → a (12 + o) = 0) (hq : q < 4) (h1 : a (8 + q) ≤ S) (h2 : oth a q < 65536) : cal d 208 [.ref 36, .ref c, .int (nI q)] (I, L, rR ru dr sr rd rl, 65, x) = some (some (.int (nI (gol S a q))), (I, L, rR ru dr sr rd rl, 65, x)) := by
  rw [k208, nI_add, if_pos (ak_A hc (by omega)), m207' hc hp hP hA hz (by omega), bI_i, e208_10, nI_clamp (by omega), hA (8 + q) (by omega)]
  exact l208 h3 hS h2 _ _ (by omega)
theorem m208w {d c p q R S T : Nat} {f g : Nat → Nat} {a : zP} (hct : zCt R S f g) (hc : zA c) (hP : I 36 1 = nI p) (hI : mCt I R S f g) (hA : mSt I c a) (hw : zWf p S T a) (hq : q < 4) : cal d 208 [.ref 36, .ref c, .int (nI q)] (I, L, rR ru dr sr rd rl, 65, x) = some (some (.int (nI (gol S a q))), (I, L, rR ru dr sr rd rl, 65, x)) :=
  m208 hc hw.1 hP hI.2.1 hct.S16 hA (fun o h1 h2 => (hw.2.2.1 o h2 h1).2.2.2.1) hq (by have := (hw.2.1 q hq).2.2.1; omega) (p16 hct.S16 (oth_lt hw q))
theorem l210 {d p s : Nat} {a : zP} (hp : p ≤ 4) (hP : I 36 1 = nI p) (hA : mSt I 37 a) (hb : ∀ q, q < 4 → a (12 + q) < 65536) (hs : s < 16) : ∀ n q, q + n = p → res d 210 2 [.ref 36, .int (nI s), .int (nI q)] [] (I, L, rR ru dr sr rd rl, 65, x) = some (some (.int (nI (own a s n q))), (I, L, rR ru dr sr rd rl, 65, x))
  | 0, q, h => by rw [l210_2, hP, if_pos (by rw [nI_leI (by omega) (by omega)]; omega)]; rfl
  | n + 1, q, h => by
    have ih := l210 (d := d) hp hP hA hb hs n (q + 1) (by omega)
    have hbq := hb q (by omega)
    rw [l210_2, hP, if_neg (by rw [nI_leI (by omega) (by omega)]; omega), nI_add, if_pos (ak_37 (by omega)), nI_clamp (by omega), hA (12 + q) (by omega), m180 (by omega) (by omega), bI_i, e210_14]
    unfold own
    cases z : (a (12 + q)).testBit s with
    | true => rw [if_neg (show ¬ nI (if true = true then 1 else 0) = 0 by decide)]; rfl
    | false =>
      rw [if_pos (show nI (if false = true then 1 else 0) = 0 from rfl), nI_add]
      exact ih
theorem m210 {d p s S T : Nat} {a : zP} (hS : S ≤ 16) (hP : I 36 1 = nI p) (hA : mSt I 37 a) (hw : zWf p S T a) (hs : s < S) : cal d 210 [.ref 36, .int (nI s)] (I, L, rR ru dr sr rd rl, 65, x) = some (some (.int (nI (own a s p 0))), (I, L, rR ru dr sr rd rl, 65, x)) := by
  rw [k210]
  exact l210 hw.1 hP hA (fun q hq => p16 hS (hw.2.1 q hq).2.2.2.1) (by omega) p 0 (by omega)
theorem l213 {d c w : Nat} {a : zP} (hc : zA c) (hA : mSt I c a) (hw : w + 4 ≤ 26) : ∀ n q, q + n = 4 → res d 213 4 [.ref c, .int (nI w), .int (nI (fb_sm (fun q => a (w + q)) q)), .int (nI q)] [] (I, L, rR ru dr sr rd rl, 65, x) = some (some (.int (nI (fb_sm (fun q => a (w + q)) 4))), (I, L, rR ru dr sr rd rl, 65, x))
  | 0, q, h => by rw [l213_4, if_pos (by rw [nI_leI (by omega) (by omega)]; omega), show q = 4 by omega]
  | n + 1, q, h => by
    have ih := l213 (d := d) hc hA hw n (q + 1) (by omega)
    rw [l213_4, if_neg (by rw [nI_leI (by omega) (by omega)]; omega), nI_add, if_pos (ak_A hc (by omega)), nI_clamp (by omega), hA (w + q) (by omega), nI_add, nI_add]
    exact ih
theorem sm_cut {b : zP} {w p : Nat} (hp : p ≤ 4) (h : ∀ o, p ≤ o → o < 4 → b (w + o) = 0) : fb_sm (fun q => b (w + q)) 4 = sm b w p := by
  unfold sm
  rcases (show p = 0 ∨ p = 1 ∨ p = 2 ∨ p = 3 ∨ p = 4 by omega) with rfl | rfl | rfl | rfl | rfl
  · simp only [fb_sm, h 0 (by omega) (by omega), h 1 (by omega) (by omega), h 2 (by omega) (by omega), h 3 (by omega) (by omega)]
  · simp only [fb_sm, h 1 (by omega) (by omega), h 2 (by omega) (by omega), h 3 (by omega) (by omega)]
    omega
  · simp only [fb_sm, h 2 (by omega) (by omega), h 3 (by omega) (by omega)]
    omega
  · simp only [fb_sm, h 3 (by omega) (by omega)]
    omega
  · rfl
theorem m213 {d c w p : Nat} {a : zP} (hc : zA c) (hA : mSt I c a) (hw : w + 4 ≤ 26) (hp : p ≤ 4) (h : ∀ o, p ≤ o → o < 4 → a (w + o) = 0) : cal d 213 [.ref c, .int (nI w)] (I, L, rR ru dr sr rd rl, 65, x) = some (some (.int (nI (sm a w p))), (I, L, rR ru dr sr rd rl, 65, x)) := by
  rw [k213, ← sm_cut hp h]
  exact l213 hc hA hw 4 0 (by omega)
/-! hopping through -/
def fre (f : Nat → Nat) (m r : Nat) : Bool := !m.testBit (f r) || !m.testBit (f (r + 1) - 1)
theorem m215 {d R S r m : Nat} {f g : Nat → Nat} (hct : zCt R S f g) (hI : mCt I R S f g) (hm : m < 2 ^ 31) (hr : r < R) : cal d 215 [.ref 36, .int (nI r), .int (nI m)] (I, L, rR ru dr sr rd rl, 65, x) = some (some (.int (nI (if fre f m r = true then 1 else 0))), (I, L, rR ru dr sr rd rl, 65, x)) := by
  have hR := hct.2.1
  have h1 := hct.2.2.2.2.1 r hr
  have hS := hct.S16
  have hl := hct.leS (show r + 1 ≤ R by omega)
  obtain ⟨-, -, -, h4⟩ := hI
  rw [k215, if_pos (ak_39 (by omega)), nI_clamp (by omega), h4 r (by omega), l215_5, nI_add, if_pos (ak_39 (by omega)), nI_clamp (by omega), h4 (r + 1) (by omega), if_neg (by rw [nI_leI (by omega) (by omega)]; omega), m180 hm (by omega), bI_i, e215_16]
  unfold fre
  cases z : m.testBit (f r) with
  | false => rw [if_pos (show nI (if false = true then 1 else 0) = 0 from rfl), if_pos zb1]; rfl
  | true =>
    rw [if_neg (show ¬ nI (if true = true then 1 else 0) = 0 by decide), nI_add, l215_5, nI_add, if_pos (ak_39 (by omega)), nI_clamp (by omega), h4 (r + 1) (by omega)]
    by_cases y : f (r + 1) = f r + 1
    · rw [if_pos (by rw [nI_leI (by omega) (by omega)]; omega), if_pos zb0, y, Nat.add_sub_cancel, z]; rfl
    · have y2 : f (r + 1) = f r + 2 := by omega
      rw [if_neg (by rw [nI_leI (by omega) (by omega)]; omega), m180 hm (by omega), bI_i, e215_16, show f (r + 1) - 1 = f r + 1 by omega]
      cases w : m.testBit (f r + 1) with
      | false => rw [if_pos (show nI (if false = true then 1 else 0) = 0 from rfl), if_pos zb1]; rfl
      | true =>
        rw [if_neg (show ¬ nI (if true = true then 1 else 0) = 0 by decide), nI_add, l215_5, nI_add, if_pos (ak_39 (by omega)), nI_clamp (by omega), h4 (r + 1) (by omega), if_pos (by rw [nI_leI (by omega) (by omega)]; omega), if_pos zb0]; rfl
theorem m216 {d R S r m : Nat} {f g : Nat → Nat} (hct : zCt R S f g) (hI : mCt I R S f g) (hm : m < 2 ^ 31) (hr : r < R) : cal d 216 [.ref 36, .int (nI r), .int (nI m)] (I, L, rR ru dr sr rd rl, 65, x) = some (some (.int (nI (if hit f m r = true then 1 else 0))), (I, L, rR ru dr sr rd rl, 65, x)) := by
  have hR := hct.2.1
  have h1 := hct.2.2.2.2.1 r hr
  have hS := hct.S16
  have hl := hct.leS (show r + 1 ≤ R by omega)
  obtain ⟨-, -, -, h4⟩ := hI
  rw [k216, if_pos (ak_39 (by omega)), nI_clamp (by omega), h4 r (by omega), l216_5, nI_add, if_pos (ak_39 (by omega)), nI_clamp (by omega), h4 (r + 1) (by omega), if_neg (by rw [nI_leI (by omega) (by omega)]; omega), m180 hm (by omega), bI_i, e216_16]
  unfold hit
  cases z : m.testBit (f r) with
  | true => rw [if_neg (show ¬ nI (if true = true then 1 else 0) = 0 by decide), if_pos zb1]; rfl
  | false =>
    rw [if_pos (show nI (if false = true then 1 else 0) = 0 from rfl), nI_add, l216_5, nI_add, if_pos (ak_39 (by omega)), nI_clamp (by omega), h4 (r + 1) (by omega)]
    by_cases y : f (r + 1) = f r + 1
    · rw [if_pos (by rw [nI_leI (by omega) (by omega)]; omega), if_pos zb0, y, Nat.add_sub_cancel, z]; rfl
    · have y2 : f (r + 1) = f r + 2 := by omega
      rw [if_neg (by rw [nI_leI (by omega) (by omega)]; omega), m180 hm (by omega), bI_i, e216_16, show f (r + 1) - 1 = f r + 1 by omega]
      cases w : m.testBit (f r + 1) with
      | true => rw [if_neg (show ¬ nI (if true = true then 1 else 0) = 0 by decide), if_pos zb1]; rfl
      | false =>
        rw [if_pos (show nI (if false = true then 1 else 0) = 0 from rfl), nI_add, l216_5, nI_add, if_pos (ak_39 (by omega)), nI_clamp (by omega), h4 (r + 1) (by omega), if_pos (by rw [nI_leI (by omega) (by omega)]; omega), if_pos zb0]; rfl
theorem tb2 (x b : Nat) : (2 * x).testBit (b + 1) = x.testBit b := by rw [Nat.testBit_succ, Nat.mul_div_cancel_left _ (by decide)]
theorem tb20 (x : Nat) : (2 * x).testBit 0 = false := by rw [Nat.testBit_zero, Nat.mul_mod_right]; rfl
theorem m217 {d R S b k o : Nat} {f g : Nat → Nat} (hct : zCt R S f g) (hI : mCt I R S f g) (ho : o < 2 ^ 31) (hb : b ≤ R) : cal d 217 [.ref 36, .int (nI b), .int (nI k), .int (nI o)] (I, L, rR ru dr sr rd rl, 65, x) = some (some (.int (nI (k + if (2 * rws f o R).testBit b = true then 1 else 0))), (I, L, rR ru dr sr rd rl, 65, x)) := by
  have hR := hct.2.1
  rw [k217]
  cases b with
  | zero => rw [if_pos (by decide), tb20]; rfl
  | succ b =>
    rw [if_neg (by rw [nI_l0 (by omega)]; omega), zsub (by omega), Nat.add_sub_cancel, m216 hct hI ho (by omega), bI_i, e217_8, tb2, rws_tb, decide_eq_true (show b < R by omega), Bool.true_and]
    cases hit f o b with
    | true => rw [if_neg (show ¬ nI (if true = true then 1 else 0) = 0 by decide), nI_add]; rfl
    | false => rw [if_pos (show nI (if false = true then 1 else 0) = 0 from rfl)]; rfl
def FB (f : Nat → Nat) (m : Nat) (b : Nat) : Bool := fre f m (b - 1)
theorem F_eq {R S m b : Nat} {f g : Nat → Nat} (hct : zCt R S f g) (h1 : 1 ≤ b) (h2 : b ≤ R) : (2 * rws f (zdif (2 ^ S - 1) m) R).testBit b = fre f m (b - 1) := by
  obtain ⟨c, rfl⟩ : ∃ c, b = c + 1 := ⟨b - 1, by omega⟩
  have h3 := hct.2.2.2.2.1 c (by omega)
  have h4 := hct.leS (show c + 1 ≤ R by omega)
  rw [tb2, rws_tb, decide_eq_true (show c < R by omega), Bool.true_and, Nat.add_sub_cancel]
  unfold hit fre
  rw [zdif_tb, zdif_tb, Nat.testBit_two_pow_sub_one, Nat.testBit_two_pow_sub_one, decide_eq_true (show f c < S by omega), decide_eq_true (show f (c + 1) - 1 < S by omega)]
  rfl
/-- what the reference's rows say of a place -/
def mV (I : Nat → Nat → Int32) (L : Nat → Nat → Int64) (R : Nat) (v : N4) (b : Nat) : Prop := I 47 b = nI (if v.1 = 0 then 1000000 else v.2.1) ∧ L 48 b = lN v.1 ∧ (if v.1 = 0 then ∃ e, e ≤ R + 1 - b ∧ I 49 b = nI e - nI 1000000 else I 49 b = nI v.2.2.1)
theorem zmaxN {a e : Nat} (ha : a ≤ 100) (he : e ≤ 100) : zmax (nI a) (nI e - nI 1000000) = nI a ∧ zmax (nI e - nI 1000000) (nI a) = nI a := by
  have h : nI e - nI 1000000 < nI a := by
    rw [fa_lt, fb_subI (by rw [nI_toInt (by omega), nI_toInt (by omega)]; omega) (by rw [nI_toInt (by omega), nI_toInt (by omega)]; omega), nI_toInt (by omega), nI_toInt (by omega), nI_toInt (by omega)]
    omega
  unfold zmax
  exact ⟨by rw [if_neg (fa_of_lt h).2.2.1], by rw [if_pos h]⟩
theorem zmaxM {a e : Nat} (ha : a ≤ 100) (he : e ≤ 100) : zmax (nI a - nI 1000000) (nI e - nI 1000000) = nI (max a e) - nI 1000000 := by
  have h : nI a - nI 1000000 < nI e - nI 1000000 ↔ a < e := by
    rw [fa_lt, fb_subI (by rw [nI_toInt (by omega), nI_toInt (by omega)]; omega) (by rw [nI_toInt (by omega), nI_toInt (by omega)]; omega), fb_subI (by rw [nI_toInt (by omega), nI_toInt (by omega)]; omega) (by rw [nI_toInt (by omega), nI_toInt (by omega)]; omega), nI_toInt (by omega), nI_toInt (by omega), nI_toInt (by omega)]
    omega
  unfold zmax
  by_cases z : a < e
  · rw [if_pos (h.mpr z), Nat.max_eq_right (by omega)]
  · rw [if_neg (fun q => z (h.mp q)), Nat.max_eq_left (by omega)]
theorem zmM1 {e : Nat} : nI e - nI 1000000 + nI 1 = nI (e + 1) - nI 1000000 := by
  rw [Int32.sub_eq_add_neg, Int32.add_assoc, Int32.add_comm (-(nI 1000000)), ← Int32.add_assoc, nI_add, ← Int32.sub_eq_add_neg]
/-- one place looked at -/
theorem mV_step {I : Nat → Nat → Int32} {L : Nat → Nat → Int64} {R b c : Nat} {v acc : N4} (hbc : b < c) (hc : c ≤ R + 1) (hR : R ≤ 8) (ha : mV I L R acc b) (hv : mV I L R v c) (h0 : acc.1 = 0 → acc.2.1 = 10 ∧ acc.2.2.1 = 0) (h1 : 0 < acc.1 → acc.2.1 ≤ 10 ∧ acc.2.2.1 ≤ 10) (h2 : 0 < v.1 → v.2.1 ≤ 8 ∧ v.2.2.1 ≤ 9) : mV (zup (zup I 47 b (zmin (I 47 b) (I 47 c + nI 1))) 49 b (zmax (I 49 b) (I 49 c + nI 1))) (zup L 48 b (L 48 b + L 48 c)) R (if 0 < v.1 then hst v acc c else acc) b := by
  obtain ⟨a1, a2, a3⟩ := ha
  obtain ⟨b1, b2, b3⟩ := hv
  have e1 : ∀ (X : Nat → Nat → Int32) y, (zup (zup I 47 b y) 49 b (zmax (I 49 b) (I 49 c + nI 1))) 47 b = y := fun _ y => by rw [zup_ne _ _ _ (by decide), zup_v, if_pos rfl]
  have e2 : ∀ y z, (zup (zup I 47 b y) 49 b z) 49 b = z := fun y z => by rw [zup_v, if_pos rfl]
  unfold mV
  rw [e1 I, e2, zup_v, if_pos rfl, a1, a2, b1, b2, nI_add, lN_add]
  by_cases z : v.1 = 0
  · rw [if_pos z] at b3
    obtain ⟨e, he, b3⟩ := b3
    rw [if_neg (show ¬ 0 < v.1 by omega), z, Nat.add_zero, b3, zmM1, if_pos rfl]
    by_cases y : acc.1 = 0
    · rw [if_pos y] at a3
      obtain ⟨e', he', a3⟩ := a3
      rw [if_pos y, if_pos y, a3, zmin_n (by decide) (by decide), zmaxM (by omega) (by omega)]
      exact ⟨rfl, rfl, max e' (e + 1), by omega, rfl⟩
    · rw [if_neg y] at a3
      have := h1 (by omega)
      rw [if_neg y, if_neg y, a3, zmin_n (by omega) (by decide), (zmaxN (by omega) (by omega)).1, Nat.min_eq_left (by omega)]
      exact ⟨rfl, rfl, rfl⟩
  · rw [if_neg z] at b3
    have hv2 := h2 (by omega)
    have hs1 : (hst v acc c).1 = acc.1 + v.1 := rfl
    have hs2 : (hst v acc c).2.1 = if v.2.1 + 1 < acc.2.1 then v.2.1 + 1 else acc.2.1 := rfl
    have hs3 : (hst v acc c).2.2.1 = max acc.2.2.1 (v.2.2.1 + 1) := rfl
    rw [if_pos (show 0 < v.1 by omega), hs1, hs2, hs3, if_neg (show ¬ acc.1 + v.1 = 0 by omega), if_neg (show ¬ acc.1 + v.1 = 0 by omega), if_neg z, b3, nI_add]
    by_cases y : acc.1 = 0
    · rw [if_pos y] at a3
      obtain ⟨e', he', a3⟩ := a3
      obtain ⟨y1, y2⟩ := h0 y
      rw [if_pos y, a3, y1, y2, zmin_n (by decide) (by omega), (zmaxN (a := v.2.2.1 + 1) (e := e') (by omega) (by omega)).2, if_pos (by omega), Nat.min_eq_right (by omega), Nat.max_eq_right (by omega)]
      exact ⟨rfl, rfl, rfl⟩
    · rw [if_neg y] at a3
      have := h1 (by omega)
      rw [if_neg y, a3, zmin_n (by omega) (by omega), zmax_n (by omega) (by omega)]
      refine ⟨?_, rfl, rfl⟩
      congr 1
      split <;> omega

end
