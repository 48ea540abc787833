section
variable {I : Nat → Nat → Int32} {L : Nat → Nat → Int64} {ru dr : Nat} {sr : Nat → Option Nat} {rd : Option Nat} {rl x : Nat}
variable {d R S p n T rn : Nat} {f g rt : Nat → Nat} {a : zP} {t : Nat → Nat} {l : List Int64} {u : List zP} {kp : Nat → Option zP} {cl : List (Nat × Nat)} {si : List (Nat × Int32)} {cs : zC}

theorem gol_25 {S q v k : Nat} {a : zP} (hk : k ≠ 8 + q) (hk2 : k < 12 ∨ 15 < k) : gol S (zset a k v) q = gol S a q := by
  unfold gol
  rw [oth_set hk2, zset_ne _ _ (Ne.symm hk)]
theorem goR_c {S q v : Nat} {a : zP} (hq : q < 4) : goR S (zset a 25 v) q = zset (goR S a q) 25 v := by
  unfold goR
  have e1 : gol S (zset a 25 v) q = gol S a q := gol_25 (by omega) (by omega)
  have e2 : zset (zset a 25 v) (8 + q) (gol S a q + 1) = zset (zset a (8 + q) (gol S a q + 1)) 25 v := zset_comm _ _ _ (by omega)
  rw [e1, e2, gol_25 (by omega) (by omega), zset_ne _ _ (show 20 + q ≠ 25 by omega)]
  split
  · rfl
  · rw [zset_comm _ _ _ (show 25 ≠ 20 + q by omega), zset_comm _ _ _ (show 25 ≠ 8 + q by omega)]
theorem m225 {c : Nat} (hd : 41 ≤ d) (hrl : rl = 44 ∨ rl = 45) (hct : zCt R S f g) (hI : mCt I R S f g) (hc : zA c) (hP : I 36 1 = nI p) (hA : mSt I c a) (hw : zWf p S T a) (hp0 : 0 < p) (hT1 : T + 1 < 2 ^ 24) (hR : mRu I rl rn rt) (hcs : (prs rt rn).2 = some cs) : ∃ I' L' rd', cal d 225 [.ref 36, .ref c] (I, L, rR ru dr sr rd rl, 65, x) = some (some (.int (nI (if thb R S f g cs a = true then 1 else 0))), (I', L', rR ru dr sr rd' rl, 65, x)) ∧ mSt I' c (thr R S f g cs p a) ∧ I' 36 30 = nI (gol S a (a 24)) + ofv (fun c => nI (th S g a (a 24) c)) cs ∧ fM [c] [] I I' ∧ ∀ b, b ≠ 48 → L' b = L b := by
  have hp := hw.1
  have h24 := hw.t hp0
  have hcs' := hc.s
  have h25 := hw.2.2.2.2
  have hS16 := hct.S16
  obtain ⟨I1, rd1, e1, f1, -⟩ := m209 (d := d) (L := L) (ru := ru) (dr := dr) (sr := sr) (rd := rd) (rl := rl) (x := x) (q := a 24) hd hrl hct hI hc hP hA hw (by omega) hR hcs
  have hgl := gol_le hw (q := a 24) (by omega)
  have hb := hw.2.1 (a 24) (by omega)
  have f2 : fM [] [] I (zup I1 36 30 (nI (gol S a (a 24)) + ofv (fun c => nI (th S g a (a 24) c)) cs)) := f1.tr (fM.fld (Or.inr rfl))
  have f2c : fM [c] [] I (zup I1 36 30 (nI (gol S a (a 24)) + ofv (fun c => nI (th S g a (a 24) c)) cs)) := f2.mono (fun _ h => by cases h) (fun _ h => h)
  have hI2 := f2.ct hI (by decide)
  have hA2 : mSt (zup I1 36 30 (nI (gol S a (a 24)) + ofv (fun c => nI (th S g a (a 24) c)) cs)) c a := f2.st hA (by simp) hcs'.1
  have hP2 : (zup I1 36 30 (nI (gol S a (a 24)) + ofv (fun c => nI (th S g a (a 24) c)) cs)) 36 1 = nI p := by rw [f2.2 1 (by simp) rfl]; exact hP
  have h32 : (zup I1 36 30 (nI (gol S a (a 24)) + ofv (fun c => nI (th S g a (a 24) c)) cs)) 36 3 = nI S := hI2.2.1
  have h30 : (zup I1 36 30 (nI (gol S a (a 24)) + ofv (fun c => nI (th S g a (a 24) c)) cs)) 36 30 = nI (gol S a (a 24)) + ofv (fun c => nI (th S g a (a 24) c)) cs := by rw [zup_v, if_pos rfl]
  have cu' : ∀ {J : Nat → Nat → Int32} {k : Nat} {v : Int32}, fM [c] [] J (zup J c k v) := fM.up (Or.inl (List.mem_singleton.mpr rfl)) hcs'.2.1
  -- the two ends
  have bad : thb R S f g cs a = false → ∀ (J : Nat → Nat → Int32) (L1 : Nat → Nat → Int64) w5, mSt J c a → J 36 1 = nI p → J 36 30 = nI (gol S a (a 24)) + ofv (fun c => nI (th S g a (a 24) c)) cs → fM [c] [] I J → (∀ b, b ≠ 48 → L1 b = L b) → ∃ I' L' rd', res d 225 33 [.ref 36, .ref c, .int (nI (a 24)), .int (nI (gol S a (a 24))), .int (ofv (fun c => nI (th S g a (a 24) c)) cs), w5] [] (J, L1, rR ru dr sr rd1 rl, 65, x) = some (some (.int (nI (if thb R S f g cs a = true then 1 else 0))), (I', L', rR ru dr sr rd' rl, 65, x)) ∧ mSt I' c (thr R S f g cs p a) ∧ I' 36 30 = nI (gol S a (a 24)) + ofv (fun c => nI (th S g a (a 24) c)) cs ∧ fM [c] [] I I' ∧ ∀ b, b ≠ 48 → L' b = L b := fun hb0 J L1 w5 j1 j2 j3 j4 j5 => by
    have s1 := j1.put (k := 25) (v := a 25 + 1)
    have s2 := s1.put (k := 16 + a 24) (v := min 99 (a (16 + a 24) + 1))
    have s3 := s2.put (k := 24) (v := nxt p a)
    have en : nxt p (zset (zset a 25 (a 25 + 1)) (16 + a 24) (min 99 (a (16 + a 24) + 1))) = nxt p a := by
      unfold nxt
      rw [zset_ne _ _ (show 24 ≠ 16 + a 24 by omega), zset_ne _ _ (show 24 ≠ 25 by omega)]
    have h24' : zset (zset a 25 (a 25 + 1)) (16 + a 24) (min 99 (a (16 + a 24) + 1)) 24 < p := by rw [zset_ne _ _ (show 24 ≠ 16 + a 24 by omega), zset_ne _ _ (show 24 ≠ 25 by omega)]; exact h24
    have e16 : (zup J c 25 (nI (a 25 + 1))) c (16 + a 24) = nI (a (16 + a 24)) := by
      have := s1 (16 + a 24) (by omega)
      rw [zset_ne _ _ (by omega)] at this
      exact this
    have hPs : (zup (zup J c 25 (nI (a 25 + 1))) c (16 + a 24) (nI (min 99 (a (16 + a 24) + 1)))) 36 1 = nI p := by rw [zup_ne _ _ _ (Ne.symm hcs'.2.1), zup_ne _ _ _ (Ne.symm hcs'.2.1)]; exact j2
    have e23 := m223 (d := d) (L := L1) (ru := ru) (dr := dr) (sr := sr) (rd := rd1) (rl := rl) (x := x) hc hp hPs s2 h24'
    rw [en] at e23
    have et : thr R S f g cs p a = zset (zset (zset a 25 (a 25 + 1)) (16 + a 24) (min 99 (a (16 + a 24) + 1))) 24 (nxt p a) := by
      unfold thr
      unfold thb at hb0
      rw [hb0, if_neg Bool.false_ne_true, zset_comm _ _ _ (show 25 ≠ 16 + a 24 by omega), zset_comm _ _ _ (show 25 ≠ 24 by omega)]
    refine ⟨_, L1, rd1, ?_, by rw [et]; exact s3, ?_, j4.tr (cu'.tr (cu'.tr cu')), j5⟩
    · rw [e225_33, e225_34, if_pos (ak_A hc (by omega)), if_pos (ak_A hc (by omega)), if_pos (show nI 0 = 0 from rfl), nI_add, if_pos (ak_A hc (by omega)), if_pos (ak_A hc (by omega)), nI_clamp (by omega), nI_clamp (by omega), j1 25 (by omega), nI_add, e16, nI_add, zmin_n (by omega) (by omega), e23, bV_n, e225_66, if_pos zb0, hb0]
      rfl
    · rw [zup_ne _ _ _ (Ne.symm hcs'.2.1), zup_ne _ _ _ (Ne.symm hcs'.2.1), zup_ne _ _ _ (Ne.symm hcs'.2.1)]; exact j3
  rw [k225, if_pos (ak_A hc (by omega)), nI_clamp (by omega), hA 24 (by omega), m208w hct hc hP hI hA hw (by omega), bI_i, e225_8, e1, bI_i, e225_13]
  by_cases z : ofv (fun c => nI (th S g a (a 24) c)) cs = 0
  · rw [if_pos z, h32]
    by_cases y : gol S a (a 24) < S
    · rw [if_neg (by rw [nI_leI (by omega) (by omega)]; omega)]
      obtain ⟨I3, L3, e3, -, f3⟩ := m220 (d := d) (L := L) (ru := ru) (dr := dr) (sr := sr) (rd := rd1) (rl := rl) (x := x) (q := a 24) (s := gol S a (a 24)) hct hI2 hc hP2 hA2 hw (by omega) hgl
      have est : stn S (gol S a (a 24)) = 2 ^ gol S a (a 24) := by unfold stn; rw [if_pos y]
      rw [est] at e3
      have hrg : rgt R S f a (a 24) = can R S f a (a 24) (2 ^ gol S a (a 24)) (a (4 + a 24)) := by unfold rgt; rw [decide_eq_true y, Bool.true_and]
      have htb : thb R S f g cs a = can R S f a (a 24) (2 ^ gol S a (a 24)) (a (4 + a 24)) := by unfold thb; rw [decide_eq_true z, Bool.true_and, hrg]
      have f23 : fM [c] [] I I3 := f2c.tr f3.M
      have hA3 : mSt I3 c a := (f3.M (W := []) (F := [])).st hA2 (by simp) hcs'.1
      have hP3 : I3 36 1 = nI p := by rw [f3.1 36 (by decide) (by decide)]; exact hP2
      have h303 : I3 36 30 = nI (gol S a (a 24)) + ofv (fun c => nI (th S g a (a 24) c)) cs := by rw [f3.1 36 (by decide) (by decide)]; exact h30
      rw [e3, bI_i, e225_30]
      cases w : can R S f a (a 24) (2 ^ gol S a (a 24)) (a (4 + a 24)) with
      | false =>
        rw [if_pos (show nI (if false = true then 1 else 0) = 0 from rfl)]
        exact bad (htb.trans w) I3 L3 _ hA3 hP3 h303 f23 f3.2
      | true =>
        rw [w] at htb
        have s1 := hA3.put (k := 25) (v := a 25 + 1)
        have hP4 : (zup I3 c 25 (nI (a 25 + 1))) 36 1 = nI p := by rw [zup_ne _ _ _ (Ne.symm hcs'.2.1)]; exact hP3
        have hI4 : mCt (zup I3 c 25 (nI (a 25 + 1))) R S f g := by
          have hI3 := f3.ct hI2
          exact (cu' (J := I3) (k := 25) (v := nI (a 25 + 1))).ct hI3 (by rcases hc with rfl | rfl <;> decide)
        have hw4 : zWf p S (T + 1) (zset a 25 (a 25 + 1)) := hw.thrown (by omega) hT1
        obtain ⟨I5, e5, h5, f5⟩ := m224 (d := d) (L := L3) (ru := ru) (dr := dr) (sr := sr) (rd := rd1) (rl := rl) (x := x) (q := a 24) hct hI4 hc hP4 s1 hw4 h24 (by rw [gol_25 (by omega) (by omega)]; exact y)
        rw [goR_c (by omega)] at h5
        have et : thr R S f g cs p a = zset (goR S a (a 24)) 25 (a 25 + 1) := by
          unfold thr
          unfold thb at htb
          rw [htb, if_pos rfl]
        refine ⟨I5, L3, rd1, ?_, by rw [et]; exact h5, ?_, f23.tr (cu'.tr ⟨fun b hb _ => f5 b (fun q => hb (List.mem_singleton.mpr q)), fun k _ _ => by rw [f5 36 (Ne.symm hcs'.2.1)]⟩), f3.2⟩
        · rw [if_neg (show ¬ nI (if true = true then 1 else 0) = 0 by decide), e225_34, if_pos (ak_A hc (by omega)), if_pos (ak_A hc (by omega)), if_neg (by decide), nI_clamp (by omega), hA3 25 (by omega), nI_add, e5, bV_n, e225_48, e225_66, if_pos zb1, htb]
          rfl
        · rw [f5 36 (Ne.symm hcs'.2.1), zup_ne _ _ _ (Ne.symm hcs'.2.1)]; exact h303
    · have htb : thb R S f g cs a = false := by unfold thb rgt; rw [decide_eq_true z, decide_eq_false y]; rfl
      rw [if_pos (by rw [nI_leI (by omega) (by omega)]; omega)]
      exact bad htb _ L _ hA2 hP2 h30 f2c (fun _ _ => rfl)
  · have htb : thb R S f g cs a = false := by unfold thb; rw [decide_eq_false z]; rfl
    rw [if_neg z]
    exact bad htb _ L _ hA2 hP2 h30 f2c (fun _ _ => rfl)

/-! the reference's invariant -/
def mTx (I : Nat → Nat → Int32) (n : Nat) (t : Nat → Nat) : Prop := I 36 7 = nI n ∧ n ≤ 80 ∧ ∀ k, k < n → I 40 k = (nI (t k)).toInt8.toInt32 ∧ t k < 256
def mTo (I : Nat → Nat → Int32) (L : Nat → Nat → Int64) (l : List Int64) : Prop := I 36 9 = nI l.length ∧ l.length ≤ 8 ∧ ∀ i v, l[i]? = some v → L 41 i = v
def mKp (I : Nat → Nat → Int32) (T : Nat) (kp : Nat → Option zP) : Prop := ∃ cm, cm ≤ T ∧ I 36 42 = nI cm ∧ ∀ i, i < 2 → (kp i = none → I 62 i = nI 0 ∨ I 62 i = nI 1 ∧ ∃ c, c < cm ∧ I 63 i = nI c) ∧ ∀ b, kp i = some b → I 62 i = nI 1 ∧ I 63 i = nI cm ∧ ∀ k, k < 26 → I 61 (26 * i + k) = nI (b k)
def mCl (I : Nat → Nat → Int32) (l : List (Nat × Nat)) : Prop := I 36 35 = nI l.length ∧ l.length ≤ 12 ∧ ∀ i w v, l[i]? = some (w, v) → I 55 i = nI w ∧ I 56 i = nI v ∧ w < 5 ∧ v ≤ 9
def mSi (I : Nat → Nat → Int32) (l : List (Nat × Int32)) : Prop := I 36 38 = nI l.length ∧ l.length ≤ 10 ∧ ∀ i w v, l[i]? = some (w, v) → I 57 i = nI w ∧ I 58 i = v ∧ w < 7 ∧ -(nI 1) ≤ v ∧ v ≤ nI 1
def mInv (I : Nat → Nat → Int32) (L : Nat → Nat → Int64) (rl T R S : Nat) (f g : Nat → Nat) (p : Nat) (a : zP) (n : Nat) (t : Nat → Nat) (l : List Int64) (u : List zP) (kp : Nat → Option zP) (cl : List (Nat × Nat)) (si : List (Nat × Int32)) (rn : Nat) (rt : Nat → Nat) : Prop := mCt I R S f g ∧ I 36 1 = nI p ∧ mSt I 37 a ∧ mTx I n t ∧ mTo I L l ∧ mUn I u ∧ mKp I T kp ∧ mCl I cl ∧ mSi I si ∧ rl = 44 ∧ mRu I rl rn rt
theorem fM.fp {W F : List Nat} {I I' : Nat → Nat → Int32} (h : fM W F I I') (hP : I 36 1 = nI p) (hm : 1 ∉ F) : I' 36 1 = nI p := by rw [h.2 1 hm rfl]; exact hP
theorem fM.tx {W F : List Nat} {I I' : Nat → Nat → Int32} (h : fM W F I I') (hT : mTx I n t) (hm : 7 ∉ F ∧ 40 ∉ W) : mTx I' n t := ⟨by rw [h.2 7 hm.1 rfl]; exact hT.1, hT.2.1, fun k hk => by rw [h.1 40 hm.2 rfl]; exact hT.2.2 k hk⟩
theorem fM.to {W F : List Nat} {I I' : Nat → Nat → Int32} {L L' : Nat → Nat → Int64} (h : fM W F I I') (hT : mTo I L l) (hm : 9 ∉ F) (hL : L' 41 = L 41) : mTo I' L' l := ⟨by rw [h.2 9 hm rfl]; exact hT.1, hT.2.1, fun i v e => by rw [hL]; exact hT.2.2 i v e⟩
theorem fM.un {W F : List Nat} {I I' : Nat → Nat → Int32} (h : fM W F I I') (hT : mUn I u) (hm : 27 ∉ F ∧ 50 ∉ W) : mUn I' u := ⟨by rw [h.2 27 hm.1 rfl]; exact hT.1, hT.2.1, fun i b e k hk => by rw [h.1 50 hm.2 rfl]; exact hT.2.2 i b e k hk⟩
theorem fM.kp' {W F : List Nat} {I I' : Nat → Nat → Int32} (h : fM W F I I') (hT : mKp I T kp) (hm : 42 ∉ F ∧ 61 ∉ W ∧ 62 ∉ W ∧ 63 ∉ W) : mKp I' T kp := by
  unfold mKp
  rw [h.2 42 hm.1 rfl, h.1 61 hm.2.1 rfl, h.1 62 hm.2.2.1 rfl, h.1 63 hm.2.2.2 rfl]
  exact hT
theorem mKp.more {T' : Nat} (h : mKp I T kp) (hT : T ≤ T') : mKp I T' kp := by
  obtain ⟨cm, h1, h2⟩ := h
  exact ⟨cm, by omega, h2⟩
theorem fM.clu {W F : List Nat} {I I' : Nat → Nat → Int32} (h : fM W F I I') (hT : mCl I cl) (hm : 35 ∉ F ∧ 55 ∉ W ∧ 56 ∉ W) : mCl I' cl := by
  unfold mCl
  rw [h.2 35 hm.1 rfl, h.1 55 hm.2.1 rfl, h.1 56 hm.2.2 rfl]
  exact hT
theorem fM.sig {W F : List Nat} {I I' : Nat → Nat → Int32} (h : fM W F I I') (hT : mSi I si) (hm : 38 ∉ F ∧ 57 ∉ W ∧ 58 ∉ W) : mSi I' si := by
  unfold mSi
  rw [h.2 38 hm.1 rfl, h.1 57 hm.2.1 rfl, h.1 58 hm.2.2 rfl]
  exact hT
theorem fM.rr {W F : List Nat} {I I' : Nat → Nat → Int32} (h : fM W F I I') (hl : rl = 44) (hR : mRu I rl rn rt) (hm : 20 ∉ F ∧ 44 ∉ W) : mRu I' rl rn rt := h.ru' (Or.inl hl) hR ⟨hm.1, hl ▸ hm.2⟩
theorem m182 {v : Int64} (hO : mTo I L l) (hl : l.length < 8) : ∃ I' L', cal d 182 [.ref 36, .long v] (I, L, rR ru dr sr rd rl, 65, x) = some (none, (I', L', rR ru dr sr rd rl, 65, x)) ∧ mTo I' L' (l ++ [v]) ∧ fM [] [9] I I' ∧ (∀ c, c ≠ 41 → L' c = L c) ∧ ∀ c, c ≠ 36 → I' c = I c := by
  refine ⟨zup I 36 9 (nI (l.length + 1)), zup L 41 l.length v, ?_, ⟨?_, ?_, fun i w h => ?_⟩, fM.fld (Or.inl (by decide)), fun c hc => zup_ne _ _ _ hc, fun c hc => zup_ne _ _ _ hc⟩
  · rw [k182, hO.1, if_pos (ak_41 (by omega)), nI_add, nI_clamp (by omega)]
  · rw [zup_v, if_pos rfl, List.length_append]; rfl
  · rw [List.length_append]; exact hl
  · rw [zup_v]
    by_cases z : i = l.length
    · rw [if_pos z]
      rw [z, List.getElem?_append_right (Nat.le_refl _), Nat.sub_self] at h
      exact Option.some.inj h
    · rw [if_neg z]
      have hlt : i < l.length := by
        have := (List.getElem?_eq_some_iff.mp h).1
        rw [List.length_append] at this
        have h1 : i < l.length + 1 := this
        omega
      rw [List.getElem?_append_left hlt] at h
      exact hO.2.2 i w h
theorem mTo.nil : mTo (zup I 36 9 (nI 0)) L [] := ⟨by rw [zup_v, if_pos rfl]; rfl, by decide, fun i v h => by cases h⟩
theorem fM.f9 {W : List Nat} : fM W [9] I (zup I 36 9 (nI 0)) := fM.fld (Or.inl (by decide))
theorem f10 {W F : List Nat} : fM W F I (zup I 36 10 (nI 0)) := fM.fld (Or.inr rfl)
theorem inr_iff {m : Nat} {v : Int32} (hm : m < 2 ^ 30) : (nI 0 ≤ v ∧ v ≤ nI m - nI 1) ↔ (inr m v).isSome = true := by
  have h1 : v ≤ nI m - nI 1 ↔ v < nI m := by
    rw [fa_le, fa_lt, fb_subI (by rw [nI_toInt (by omega), nI_toInt (by omega)]; omega) (by rw [nI_toInt (by omega), nI_toInt (by omega)]; omega), nI_toInt (by omega), nI_toInt (by omega)]
    omega
  unfold inr
  by_cases z : 0 ≤ v ∧ v < nI m
  · rw [if_pos z]
    exact ⟨fun _ => rfl, fun _ => ⟨z.1, h1.mpr z.2⟩⟩
  · rw [if_neg z]
    exact ⟨fun q => absurd ⟨q.1, h1.mp q.2⟩ z, fun q => by cases q⟩
theorem m179r {m : Nat} {v hi' : Int32} (hm : m < 2 ^ 30) (hh : hi' = nI m - nI 1) : cal d 179 [.int v, .int (nI 0), .int hi'] (I, L, rR ru dr sr rd rl, 65, x) = some (some (.int (nI (if (inr m v).isSome = true then 1 else 0))), (I, L, rR ru dr sr rd rl, 65, x)) := by
  subst hh
  by_cases z : (inr m v).isSome = true
  · rw [m179t ((inr_iff hm).mpr z), if_pos z]
  · rw [m179f (fun q => z ((inr_iff hm).mp q)), if_neg z]
theorem m179z {c : Nat} {v : Int32} (hm : c < 2 ^ 29) : cal d 179 [.int v, .int (nI 0), .int (nI c)] (I, L, rR ru dr sr rd rl, 65, x) = some (some (.int (nI (if (inr (c + 1) v).isSome = true then 1 else 0))), (I, L, rR ru dr sr rd rl, 65, x)) := m179r (by omega) (by rw [zsub (by omega), Nat.add_sub_cancel])
theorem m179l {b c : Nat} {v : Int32} : cal d 179 [.int v, .int (nI b), .int (nI c)] (I, L, rR ru dr sr rd rl, 65, x) = some (some (.int (nI (if (inl b c v).isSome = true then 1 else 0))), (I, L, rR ru dr sr rd rl, 65, x)) := by
  unfold inl
  by_cases z : nI b ≤ v ∧ v ≤ nI c
  · rw [m179t z, if_pos z]; rfl
  · rw [m179f z, if_neg z]; rfl
theorem m183 {v : Int32} (hP : I 36 1 = nI p) (hp : p ≤ 4) : cal d 183 [.ref 36, .int v] (I, L, rR ru dr sr rd rl, 65, x) = some (some (.int (nI (if (inr p v).isSome = true then 1 else 0))), (I, L, rR ru dr sr rd rl, 65, x)) := by
  rw [k183, hP, m179r (by omega) rfl, bI_i, e183_7]
  split <;> rfl
theorem m184 {v : Int32} (h3 : I 36 3 = nI S) (hS : S ≤ 16) : cal d 184 [.ref 36, .int v] (I, L, rR ru dr sr rd rl, 65, x) = some (some (.int (nI (if (inr S v).isSome = true then 1 else 0))), (I, L, rR ru dr sr rd rl, 65, x)) := by
  rw [k184, h3, m179r (by omega) rfl, bI_i, e184_7]
  split <;> rfl
theorem m241 {v : Int32} (h3 : I 36 3 = nI S) (hS : S ≤ 16) : cal d 241 [.ref 36, .int v] (I, L, rR ru dr sr rd rl, 65, x) = some (some (.int (nI (if (inr (S + 1) v).isSome = true then 1 else 0))), (I, L, rR ru dr sr rd rl, 65, x)) := by
  rw [k241, h3, m179z (by omega), bI_i, e241_5]
  split <;> rfl

end
