section
variable {I : Nat → Nat → Int32} {L : Nat → Nat → Int64} {ru dr : Nat} {sr : Nat → Option Nat} {rd : Option Nat} {rl x : Nat}

/-! Past: u is the newest first; kp what is kept -/
abbrev zP : Type := Nat → Nat
def kpb (kp : Nat → Option zP) : Nat := (if (kp 0).isSome = true then 1 else 0) + if (kp 1).isSome = true then 2 else 0
def cPa (I : Nat → Nat → Int32) (p : Nat) (u : List zP) (kp : Nat → Option zP) : Prop := I 20 4 = nI u.length ∧ u.length ≤ 12 ∧ I 20 2 = nI (kpb kp) ∧ (∃ w, w < 12 ∧ I 20 3 = nI w ∧ ∀ i b, u[i]? = some b → ∀ k, k < 27 → I 21 (27 * ((w + 12 - i) % 12) + k) = nI (cv p b k)) ∧ ∀ i b, i < 2 → kp i = some b → ∀ k, k < 27 → I 22 (27 * i + k) = nI (cv p b k)
theorem cPa.congr {I I' : Nat → Nat → Int32} {p : Nat} {u : List zP} {kp : Nat → Option zP} (h : cPa I p u kp) (h0 : I' 20 = I 20) (h1 : I' 21 = I 21) (h2 : I' 22 = I 22) : cPa I' p u kp := by
  unfold cPa
  rw [h0, h1, h2]
  exact h
theorem s24 {d p : Nat} : ∃ I', cal d 24 [.ref 20] (I, L, rR ru dr sr rd rl, 65, x) = some (none, (I', L, rR ru dr sr rd rl, 65, x)) ∧ ((∃ w, w < 12 ∧ I 20 3 = nI w) → cPa I' p [] (fun _ => none)) ∧ fW [20] I I' := by
  refine ⟨_, k24, fun ⟨w, hw, e⟩ => ⟨?_, by decide, ?_, ⟨w, hw, ?_, fun i b h => by cases h⟩, fun i b _ h => by cases h⟩, (fW.up (by decide) (by decide) (by decide)).tr (fW.up (by decide) (by decide) (by decide))⟩
  · rw [zup_v, if_neg (by decide), zup_v, if_pos rfl]; rfl
  · rw [zup_v, if_pos rfl]; rfl
  · rw [zup_v, if_neg (by decide), zup_v, if_neg (by decide)]; exact e
theorem s25 {d p : Nat} {u : List zP} {kp : Nat → Option zP} (h : cPa I p u kp) : cal d 25 [.ref 20] (I, L, rR ru dr sr rd rl, 65, x) = some (some (.int (nI u.length)), (I, L, rR ru dr sr rd rl, 65, x)) := by rw [k25, h.1]
theorem cons12 (b : zP) (u : List zP) (h : u.length ≤ 12) : ((b :: u).take 12).length = min 12 (u.length + 1) := by rw [List.length_take]; rfl
theorem s26 {d : Nat} {s p : Nat} {a : Nat → Nat} (hs : zS s) (hA : cSt I (s + 1) p a) {u : List zP} {kp : Nat → Option zP} (h : cPa I p u kp) : ∃ I', cal d 26 [.ref 20, .ref s] (I, L, rR ru dr sr rd rl, 65, x) = some (none, (I', L, rR ru dr sr rd rl, 65, x)) ∧ cPa I' p ((a :: u).take 12) kp ∧ fW [20, 21] I I' := by
  obtain ⟨h1, h2, h3, ⟨w, hw, h4, h5⟩, h6⟩ := h
  have e3 : (zup I 20 3 (nI ((w + 1) % 12))) 20 3 = nI ((w + 1) % 12) := by rw [zup_v, if_pos rfl]
  have hA1 : cSt (zup I 20 3 (nI ((w + 1) % 12))) (s + 1) p a := hA.congr (zup_ne _ _ _ (by rcases hs with rfl | rfl | rfl <;> decide))
  have hm : (w + 1) % 12 < 12 := Nat.mod_lt _ (by decide)
  obtain ⟨I1, e1, g1, g2, g3⟩ := s66 (d := d) (L := L) (ru := ru) (dr := dr) (sr := sr) (rd := rd) (rl := rl) (x := x) (c := 21) (j := (w + 1) % 12) hs hA1 (Or.inl ⟨rfl, hm⟩)
  have f1 : fW [20, 21] I (zup I 20 3 (nI ((w + 1) % 12))) := fW.up (by decide) (by decide) (by decide)
  have f2 : fW [20, 21] (zup I 20 3 (nI ((w + 1) % 12))) I1 := ⟨fun c hc _ => g3 c (fun q => hc (by rw [q]; decide)), fun k _ => by rw [g3 30 (by decide)], fun k _ => by rw [g3 33 (by decide)]⟩
  refine ⟨zup I1 20 4 (nI (min 12 (u.length + 1))), ?_, ⟨?_, ?_, ?_, ⟨(w + 1) % 12, hm, ?_, fun i b hb k hk => ?_⟩, fun i b hi hb k hk => ?_⟩, (f1.tr f2).tr (fW.up (by decide) (by decide) (by decide))⟩
  · have e4 : I1 20 4 = nI u.length := by rw [g3 20 (by decide), zup_v, if_neg (by decide), h1]
    rw [k26 hs, if_neg (by decide), h4, nI_add, zrem (by omega) (by decide) (by decide), e3, zmul, Nat.mul_comm, e1, bV_n, e26_16 hs, e4, nI_add, zmin_n (by omega) (by omega)]
  · rw [zup_v, if_pos rfl, cons12 _ _ h2]
  · rw [cons12 _ _ h2]; omega
  · rw [zup_v, if_neg (by decide), g3 20 (by decide), zup_v, if_neg (by decide), h3]
  · rw [zup_v, if_neg (by decide), g3 20 (by decide), e3]
  · rw [zup_ne _ _ _ (by decide)]
    have hi : i < 12 := by
      have := (List.getElem?_eq_some_iff.mp hb).1
      rw [cons12 _ _ h2] at this
      omega
    rw [List.getElem?_take_of_lt hi] at hb
    cases i with
    | zero =>
      cases hb
      rw [show ((w + 1) % 12 + 12 - 0) % 12 = (w + 1) % 12 by omega]
      exact g1 k hk
    | succ i =>
      rw [List.getElem?_cons_succ] at hb
      rw [g2 _ (by omega), zup_ne _ _ _ (by decide), show ((w + 1) % 12 + 12 - (i + 1)) % 12 = (w + 12 - i) % 12 by omega]
      exact h5 i b hb k hk
  · rw [zup_ne _ _ _ (by decide), g3 22 (by decide), zup_ne _ _ _ (by decide)]
    exact h6 i b hi hb k hk
theorem s27f {d s p : Nat} (hs : zS s) {kp : Nat → Option zP} (h : cPa I p [] kp) : cal d 27 [.ref 20, .ref s] (I, L, rR ru dr sr rd rl, 65, x) = some (some (.int (nI 0)), (I, L, rR ru dr sr rd rl, 65, x)) := by
  rw [k27 hs, h.1, if_pos (show nI ([] : List zP).length = 0 from rfl), if_pos zb0]
theorem s27t {d s p : Nat} {a : zP} (hs : zS s) {u : List zP} {kp : Nat → Option zP} (h : cPa I p (a :: u) kp) : ∃ I', cal d 27 [.ref 20, .ref s] (I, L, rR ru dr sr rd rl, 65, x) = some (some (.int (nI 1)), (I', L, rR ru dr sr rd rl, 65, x)) ∧ cSt I' (s + 1) p a ∧ cPa I' p u kp ∧ fW [20, s + 1] I I' := by
  obtain ⟨h1, h2, h3, ⟨w, hw, h4, h5⟩, h6⟩ := h
  have h2' : u.length + 1 ≤ 12 := h2
  have h1' : I 20 4 = nI (u.length + 1) := h1
  obtain ⟨I1, e1, g1, f1⟩ := s67 (d := d) (I := I) (L := L) (ru := ru) (dr := dr) (sr := sr) (rd := rd) (rl := rl) (x := x) (c := 21) (j := w) hs (Or.inl ⟨rfl, hw⟩)
  have c20 : I1 20 = I 20 := f1.1 20 (by rcases hs with rfl | rfl | rfl <;> decide) rfl
  have c21 : I1 21 = I 21 := f1.1 21 (by rcases hs with rfl | rfl | rfl <;> decide) rfl
  have c22 : I1 22 = I 22 := f1.1 22 (by rcases hs with rfl | rfl | rfl <;> decide) rfl
  have e0 : I1 20 3 = nI w := by rw [c20, h4]
  have e4 : (zup I1 20 3 (nI ((w + 11) % 12))) 20 4 = nI (u.length + 1) := by rw [zup_v, if_neg (by decide), c20, h1']
  refine ⟨zup (zup I1 20 3 (nI ((w + 11) % 12))) 20 4 (nI u.length), ?_, ?_, ⟨?_, by omega, ?_, ⟨(w + 11) % 12, Nat.mod_lt _ (by decide), ?_, fun i b hb k hk => ?_⟩, fun i b hi hb k hk => ?_⟩, ?_⟩
  · rw [k27 hs, h1', if_neg (by rw [nI_z (by omega)]; omega), h4, zmul, Nat.mul_comm, e1, bV_n, e27_13 hs, if_neg (by decide), if_pos zb1, e0, nI_add, zsub (by omega), zrem (by omega) (by decide) (by decide), show w + 12 - 1 = w + 11 by omega, e4, zsub (by omega), Nat.add_sub_cancel]
  · intro k hk
    rw [zup_ne _ _ _ (by rcases hs with rfl | rfl | rfl <;> decide), zup_ne _ _ _ (by rcases hs with rfl | rfl | rfl <;> decide), g1 k hk]
    have := h5 0 a rfl k hk
    rw [show (w + 12 - 0) % 12 = w by omega] at this
    exact this
  · rw [zup_v, if_pos rfl]
  · rw [zup_v, if_neg (by decide), zup_v, if_neg (by decide), c20, h3]
  · rw [zup_v, if_neg (by decide), zup_v, if_pos rfl]
  · rw [zup_ne _ _ _ (by decide), zup_ne _ _ _ (by decide), c21]
    have hi : i < u.length := (List.getElem?_eq_some_iff.mp hb).1
    have := h5 (i + 1) b hb k hk
    rw [show (w + 12 - (i + 1)) % 12 = ((w + 11) % 12 + 12 - i) % 12 by omega] at this
    exact this
  · rw [zup_ne _ _ _ (by decide), zup_ne _ _ _ (by decide), c22]
    exact h6 i b hi hb k hk
  · exact ((f1.mono (by simp)).tr (fW.up (by simp) (by decide) (by decide))).tr (fW.up (by simp) (by decide) (by decide))
theorem kpb_set (kp : Nat → Option zP) {i : Nat} (hi : i < 2) (a : zP) : kpb kp ||| 2 ^ i = kpb (zset kp i (some a)) := by
  rcases (show i = 0 ∨ i = 1 by omega) with rfl | rfl
  · show _ = 1 + if (kp 1).isSome = true then 2 else 0
    unfold kpb
    cases (kp 0).isSome <;> cases (kp 1).isSome <;> decide
  · show _ = (if (kp 0).isSome = true then 1 else 0) + 2
    unfold kpb
    cases (kp 0).isSome <;> cases (kp 1).isSome <;> decide
theorem kpb_tb (kp : Nat → Option zP) {i : Nat} (hi : i < 2) : (kpb kp).testBit i = (kp i).isSome := by
  unfold kpb
  rcases (show i = 0 ∨ i = 1 by omega) with rfl | rfl
  · cases (kp 0).isSome <;> cases (kp 1).isSome <;> decide
  · cases (kp 0).isSome <;> cases (kp 1).isSome <;> decide
theorem kpb_lt (kp : Nat → Option zP) : kpb kp < 4 := by unfold kpb; split <;> split <;> decide
theorem s28f {d s : Nat} {v : Int32} (hs : zS s) (hv : ∀ k, k < 2 → v ≠ nI k) : cal d 28 [.ref 20, .int v, .ref s] (I, L, rR ru dr sr rd rl, 65, x) = some (some (.int (nI 0)), (I, L, rR ru dr sr rd rl, 65, x)) := by
  rw [k28 hs]
  by_cases z : v < 0
  · rw [if_pos z, if_pos zb0]
  · obtain ⟨j, hj, rfl⟩ := nI_of z
    rw [if_neg z, if_neg (by rw [nI_ltI (by omega) (by omega)]; exact fun q => hv j q rfl), if_pos zb0]
theorem s28t {d i : Nat} {s p : Nat} {a : Nat → Nat} (hs : zS s) (hA : cSt I (s + 1) p a) {u : List zP} {kp : Nat → Option zP} (h : cPa I p u kp) (hi : i < 2) : ∃ I', cal d 28 [.ref 20, .int (nI i), .ref s] (I, L, rR ru dr sr rd rl, 65, x) = some (some (.int (nI 1)), (I', L, rR ru dr sr rd rl, 65, x)) ∧ cPa I' p u (zset kp i (some a)) ∧ fW [20, 22] I I' := by
  obtain ⟨h1, h2, h3, ⟨w, hw, h4, h5⟩, h6⟩ := h
  obtain ⟨I1, e1, g1, g2, g3⟩ := s66 (d := d) (L := L) (ru := ru) (dr := dr) (sr := sr) (rd := rd) (rl := rl) (x := x) (c := 22) (j := i) hs hA (Or.inr ⟨rfl, hi⟩)
  have f2 : fW [20, 22] I I1 := ⟨fun c hc _ => g3 c (fun q => hc (by rw [q]; decide)), fun k _ => by rw [g3 30 (by decide)], fun k _ => by rw [g3 33 (by decide)]⟩
  refine ⟨zup I1 20 2 (nI (kpb (zset kp i (some a)))), ?_, ⟨?_, h2, ?_, ⟨w, hw, ?_, fun j b hb k hk => ?_⟩, fun j b hj hb k hk => ?_⟩, f2.tr (fW.up (by decide) (by decide) (by decide))⟩
  · rw [k28 hs, if_neg (nI_pos (by omega)), if_pos (by rw [nI_ltI (by omega) (by omega)]; omega), zmul, Nat.mul_comm, e1, bV_n, e28_14 hs, if_pos zb1, g3 20 (by decide), h3, zshl1 (by omega), fa_or, kpb_set kp hi a]
  · rw [zup_v, if_neg (by decide), g3 20 (by decide), h1]
  · rw [zup_v, if_pos rfl]
  · rw [zup_v, if_neg (by decide), g3 20 (by decide), h4]
  · rw [zup_ne _ _ _ (by decide), g3 21 (by decide)]
    exact h5 j b hb k hk
  · rw [zup_ne _ _ _ (by decide)]
    by_cases z : j = i
    · rw [z, zset_self] at hb
      cases hb
      rw [z]
      exact g1 k hk
    · rw [zset_ne _ _ z] at hb
      rw [g2 _ (by omega)]
      exact h6 j b hj hb k hk
theorem s29f {d s p : Nat} {v : Int32} (hs : zS s) {u : List zP} {kp : Nat → Option zP} (h : cPa I p u kp) (hv : ∀ k, k < 2 → v = nI k → kp k = none) : cal d 29 [.ref 20, .int v, .ref s] (I, L, rR ru dr sr rd rl, 65, x) = some (some (.int (nI 0)), (I, L, rR ru dr sr rd rl, 65, x)) := by
  rw [k29 hs]
  by_cases z : v < 0
  · rw [if_pos z, if_pos zb0]
  · obtain ⟨j, hj, rfl⟩ := nI_of z
    rw [if_neg z]
    by_cases y : j < 2
    · have := kpb_lt kp
      rw [if_neg (by rw [nI_leI (by omega) (by omega)]; omega), if_pos (by rw [h.2.2.1, zbitz (by omega) (by omega), kpb_tb kp y, hv j y rfl]; rfl), if_pos zb0]
    · rw [if_pos (by rw [nI_leI (by omega) (by omega)]; omega), if_pos zb0]
theorem s29t {d s p i : Nat} {a : zP} (hs : zS s) {u : List zP} {kp : Nat → Option zP} (h : cPa I p u kp) (hi : i < 2) (hk : kp i = some a) : ∃ I', cal d 29 [.ref 20, .int (nI i), .ref s] (I, L, rR ru dr sr rd rl, 65, x) = some (some (.int (nI 1)), (I', L, rR ru dr sr rd rl, 65, x)) ∧ cSt I' (s + 1) p a ∧ cPa I' p [] kp ∧ fW [20, s + 1] I I' := by
  obtain ⟨h1, h2, h3, ⟨w, hw, h4, h5⟩, h6⟩ := h
  obtain ⟨I1, e1, g1, f1⟩ := s67 (d := d) (I := I) (L := L) (ru := ru) (dr := dr) (sr := sr) (rd := rd) (rl := rl) (x := x) (c := 22) (j := i) hs (Or.inr ⟨rfl, hi⟩)
  have c20 : I1 20 = I 20 := f1.1 20 (by rcases hs with rfl | rfl | rfl <;> decide) rfl
  have c22 : I1 22 = I 22 := f1.1 22 (by rcases hs with rfl | rfl | rfl <;> decide) rfl
  have := kpb_lt kp
  refine ⟨zup I1 20 4 (nI 0), ?_, ?_, ⟨?_, by decide, ?_, ⟨w, hw, ?_, fun j b hb => by cases hb⟩, fun j b hj hb k hk => ?_⟩, (f1.mono (by simp)).tr (fW.up (by simp) (by decide) (by decide))⟩
  · rw [k29 hs, if_neg (nI_pos (by omega)), if_neg (by rw [nI_leI (by omega) (by omega)]; omega), if_neg (by rw [h3, zbitz (by omega) (by omega), kpb_tb kp hi, hk]; exact fun q => by cases q), zmul, Nat.mul_comm, e1, bV_n, e29_21 hs, if_pos zb1]
  · intro k hk'
    rw [zup_ne _ _ _ (by rcases hs with rfl | rfl | rfl <;> decide), g1 k hk']
    exact h6 i a hi hk k hk'
  · rw [zup_v, if_pos rfl]; rfl
  · rw [zup_v, if_neg (by decide), c20, h3]
  · rw [zup_v, if_neg (by decide), c20, h4]
  · rw [zup_ne _ _ _ (by decide), c22]
    exact h6 j b hj hb k hk

end
