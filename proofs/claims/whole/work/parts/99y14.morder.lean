section
variable {I : Nat → Nat → Int32} {L : Nat → Nat → Int64} {ru dr : Nat} {sr : Nat → Option Nat} {rd : Option Nat} {rl x : Nat}
variable {d R S p n T rn : Nat} {f g rt : Nat → Nat} {a : zP} {t : Nat → Nat} {l : List Int64} {u : List zP} {kp : Nat → Option zP} {cl : List (Nat × Nat)} {si : List (Nat × Int32)} {cs : zC}

/-! who leads -/
theorem m262 {i j : Nat} (hS : S ≤ 16) (hA : mSt I 37 a) (hw : zWf p S T a) (hi : i < 4) (hj : j < 4) : cal d 262 [.ref 36, .int (nI i), .int (nI j)] (I, L, rR ru dr sr rd rl, 65, x) = some (some (.int (nI (if ahd a i j = true then 1 else 0))), (I, L, rR ru dr sr rd rl, 65, x)) := by
  have b1 := hw.2.1 i hi
  have b2 := hw.2.1 j hj
  have p1 := pc_le (a (12 + i))
  have p2 := pc_le (a (12 + j))
  have h1 := p16 hS b1.2.2.2.1
  have h2 := p16 hS b2.2.2.2.1
  rw [k262, nI_add, if_pos (ak_37 (by omega)), nI_clamp (by omega), hA (12 + i) (by omega), s296 h1, bI_i, e262_7, nI_add, if_pos (ak_37 (by omega)), nI_add, if_pos (ak_37 (by omega)), nI_clamp (by omega), nI_clamp (by omega), hA (20 + i) (by omega), hA (12 + j) (by omega), s296 h2, bI_i, e262_22, nI_add, if_pos (ak_37 (by omega)), nI_clamp (by omega), hA (20 + j) (by omega), nI_add, nI_add]
  have o1 : osc a i = pc (a (12 + i)) + a (20 + i) := rfl
  have o2 : osc a j = pc (a (12 + j)) + a (20 + j) := rfl
  rw [← o1, ← o2]
  have k1 : osc a i ≤ 25 := by omega
  have k2 : osc a j ≤ 25 := by omega
  have ret : ∀ (P : Prop) (hP : ahd a i j = true ↔ P), (P → some (some (Value.int (nI 1)), (I, L, rR ru dr sr rd rl, 65, x)) = some (some (.int (nI (if ahd a i j = true then 1 else 0))), (I, L, rR ru dr sr rd rl, 65, x))) ∧ (¬ P → some (some (Value.int (nI 0)), (I, L, rR ru dr sr rd rl, 65, x)) = some (some (.int (nI (if ahd a i j = true then 1 else 0))), (I, L, rR ru dr sr rd rl, 65, x))) := fun P hP => ⟨fun z => by rw [if_pos (hP.mpr z)], fun z => by rw [if_neg (fun q => z (hP.mp q))]⟩
  have hah : ahd a i j = true ↔ (osc a j < osc a i ∨ osc a i = osc a j ∧ (a (8 + j) < a (8 + i) ∨ a (8 + i) = a (8 + j) ∧ (a (16 + i) < a (16 + j) ∨ a (16 + i) = a (16 + j) ∧ i < j))) := by unfold ahd; exact decide_eq_true_iff
  obtain ⟨ry, rn⟩ := ret _ hah
  by_cases z1 : osc a i = osc a j
  · rw [if_pos (by rw [z1]), nI_add, if_pos (ak_37 (by omega)), nI_add, if_pos (ak_37 (by omega)), nI_clamp (by omega), nI_clamp (by omega), hA (8 + i) (by omega), hA (8 + j) (by omega)]
    by_cases z2 : a (8 + i) = a (8 + j)
    · rw [if_pos (by rw [z2]), nI_add, if_pos (ak_37 (by omega)), nI_add, if_pos (ak_37 (by omega)), nI_clamp (by omega), nI_clamp (by omega), hA (16 + i) (by omega), hA (16 + j) (by omega)]
      by_cases z3 : a (16 + i) = a (16 + j)
      · rw [if_pos (by rw [z3])]
        by_cases z4 : j ≤ i
        · rw [if_pos (by rw [nI_leI (by omega) (by omega)]; exact z4), if_pos zb0]
          exact rn (by omega)
        · rw [if_neg (by rw [nI_leI (by omega) (by omega)]; exact z4), if_pos zb1]
          exact ry (by omega)
      · rw [if_neg (by rw [nI_eq (by omega) (by omega)]; exact z3), if_pos (ak_37 (by omega)), if_pos (ak_37 (by omega))]
        by_cases z4 : a (16 + j) ≤ a (16 + i)
        · rw [if_pos (by rw [nI_leI (by omega) (by omega)]; exact z4), if_pos zb0]
          exact rn (by omega)
        · rw [if_neg (by rw [nI_leI (by omega) (by omega)]; exact z4), if_pos zb1]
          exact ry (by omega)
    · rw [if_neg (by rw [nI_eq (by omega) (by omega)]; exact z2), if_pos (ak_37 (by omega)), if_pos (ak_37 (by omega))]
      by_cases z4 : a (8 + i) ≤ a (8 + j)
      · rw [if_pos (by rw [nI_leI (by omega) (by omega)]; exact z4), if_pos zb0]
        exact rn (by omega)
      · rw [if_neg (by rw [nI_leI (by omega) (by omega)]; exact z4), if_pos zb1]
        exact ry (by omega)
  · rw [if_neg (by rw [nI_eq (by omega) (by omega)]; exact z1)]
    by_cases z4 : osc a i ≤ osc a j
    · rw [if_pos (by rw [nI_leI (by omega) (by omega)]; exact z4), if_pos zb0]
      exact rn (by omega)
    · rw [if_neg (by rw [nI_leI (by omega) (by omega)]; exact z4), if_pos zb1]
      exact ry (by omega)
/-! the order picked one by one -/
def msi (A : Nat → Nat → Bool) (sn : Nat) : Nat → Nat → Option Nat → Option Nat
  | 0, _, nx => nx
  | n + 1, q, nx => if sn.testBit q = true then msi A sn n (q + 1) nx else match nx with
    | none => msi A sn n (q + 1) (some q)
    | some e => if A q e = true then msi A sn n (q + 1) (some q) else msi A sn n (q + 1) (some e)
def mso (A : Nat → Nat → Bool) (p : Nat) : Nat → Nat → List Nat
  | 0, _ => []
  | n + 1, sn => match msi A sn p 0 none with
    | none => []
    | some e => e :: mso A p n (sn ||| 2 ^ e)
def onn (r : Nat → Nat) (h : Nat) : Nat → List Nat
  | 0 => []
  | q + 1 => if r q = h then onn r h q ++ [q] else onn r h q
def oon (r : Nat → Nat) (p : Nat) : Nat → List Nat
  | 0 => []
  | h + 1 => oon r p h ++ onn r h p
def of6 (b01 b02 b03 b12 b13 b23 : Bool) (i j : Nat) : Bool :=
  match i, j with
  | 0, 1 => b01
  | 0, 2 => b02
  | 0, 3 => b03
  | 1, 2 => b12
  | 1, 3 => b13
  | 2, 3 => b23
  | 1, 0 => !b01
  | 2, 0 => !b02
  | 3, 0 => !b03
  | 2, 1 => !b12
  | 3, 1 => !b13
  | 3, 2 => !b23
  | _, _ => false
def tr3 (A : Nat → Nat → Bool) (i j k : Nat) : Bool := !(A i j && A j k) || A i k
def tr6 (A : Nat → Nat → Bool) : Bool := tr3 A 0 1 2 && tr3 A 0 2 1 && tr3 A 1 0 2 && tr3 A 1 2 0 && tr3 A 2 0 1 && tr3 A 2 1 0 && tr3 A 0 1 3 && tr3 A 0 3 1 && tr3 A 1 0 3 && tr3 A 1 3 0 && tr3 A 3 0 1 && tr3 A 3 1 0 && tr3 A 0 2 3 && tr3 A 0 3 2 && tr3 A 2 0 3 && tr3 A 2 3 0 && tr3 A 3 0 2 && tr3 A 3 2 0 && tr3 A 1 2 3 && tr3 A 1 3 2 && tr3 A 2 1 3 && tr3 A 2 3 1 && tr3 A 3 1 2 && tr3 A 3 2 1
theorem ord6 : ∀ b01 b02 b03 b12 b13 b23 : Bool, tr6 (of6 b01 b02 b03 b12 b13 b23) = true → ∀ p, p < 5 → mso (of6 b01 b02 b03 b12 b13 b23) p p 0 = oon (fun q => fb_ct (fun o => of6 b01 b02 b03 b12 b13 b23 o q) p) p p ∧ (mso (of6 b01 b02 b03 b12 b13 b23) p p 0).length = p := by decide +kernel
theorem msi_cong {A B : Nat → Nat → Bool} {sn : Nat} (h : ∀ i j, i < 4 → j < 4 → A i j = B i j) : ∀ n q nx, q + n ≤ 4 → (∀ e, nx = some e → e < 4) → msi A sn n q nx = msi B sn n q nx ∧ ∀ e, msi B sn n q nx = some e → e < 4
  | 0, q, nx, _, hn => ⟨rfl, hn⟩
  | n + 1, q, nx, hq, hn => by
    unfold msi
    by_cases z : sn.testBit q = true
    · rw [if_pos z, if_pos z]
      exact msi_cong h n (q + 1) nx (by omega) hn
    · rw [if_neg z, if_neg z]
      cases nx with
      | none => exact msi_cong h n (q + 1) (some q) (by omega) (fun e he => by cases he; omega)
      | some e =>
        dsimp only
        rw [h q e (by omega) (hn e rfl)]
        by_cases y : B q e = true
        · rw [if_pos y, if_pos y]
          exact msi_cong h n (q + 1) (some q) (by omega) (fun e he => by cases he; omega)
        · rw [if_neg y, if_neg y]
          exact msi_cong h n (q + 1) (some e) (by omega) hn
theorem mso_cong {A B : Nat → Nat → Bool} (h : ∀ i j, i < 4 → j < 4 → A i j = B i j) (hp : p ≤ 4) : ∀ n sn, mso A p n sn = mso B p n sn
  | 0, _ => rfl
  | n + 1, sn => by
    unfold mso
    rw [(msi_cong (sn := sn) h p 0 none (by omega) (fun e he => by cases he)).1]
    cases msi B sn p 0 none with
    | none => rfl
    | some e => exact congrArg (List.cons e) (mso_cong h hp n _)
theorem oin_onn {r r' : Nat → Nat} {h : Nat} : ∀ q, (∀ k, k < q → r k = r' k) → oin r h q = (onn r' h q).map lN
  | 0, _ => rfl
  | q + 1, hr => by
    have ih := oin_onn (r := r) (r' := r') (h := h) q (fun k hk => hr k (by omega))
    unfold oin onn
    rw [hr q (by omega), ih]
    split
    · rw [List.map_append]; rfl
    · rfl
theorem oou_oon {r r' : Nat → Nat} (hr : ∀ k, k < p → r k = r' k) : ∀ h, oou r p h = (oon r' p h).map lN
  | 0 => rfl
  | h + 1 => by rw [oou, oon, List.map_append, oou_oon hr h, oin_onn p hr]
theorem ahd_iff (i j : Nat) : ahd a i j = true ↔ (osc a j < osc a i ∨ osc a i = osc a j ∧ (a (8 + j) < a (8 + i) ∨ a (8 + i) = a (8 + j) ∧ (a (16 + i) < a (16 + j) ∨ a (16 + i) = a (16 + j) ∧ i < j))) := by unfold ahd; exact decide_eq_true_iff
theorem ahd_sw {i j : Nat} (h : i ≠ j) : ahd a j i = !ahd a i j := by
  cases z : ahd a i j with
  | true =>
    rw [ahd_iff] at z
    cases y : ahd a j i with
    | false => rfl
    | true => rw [ahd_iff] at y; omega
  | false =>
    have z' : ¬ ahd a i j = true := by rw [z]; exact Bool.false_ne_true
    rw [ahd_iff] at z'
    have : ahd a j i = true := by rw [ahd_iff]; omega
    rw [this]; rfl
theorem ahd_ii (i : Nat) : ahd a i i = false := by
  cases z : ahd a i i with
  | false => rfl
  | true => rw [ahd_iff] at z; omega
theorem ahd_tr (i j k : Nat) : tr3 (ahd a) i j k = true := by
  unfold tr3
  cases z : ahd a i j with
  | false => rfl
  | true =>
    cases y : ahd a j k with
    | false => rfl
    | true =>
      have : ahd a i k = true := by
        rw [ahd_iff] at z y ⊢
        omega
      rw [this]; rfl
theorem ahd_6 (i j : Nat) (hi : i < 4) (hj : j < 4) : ahd a i j = of6 (ahd a 0 1) (ahd a 0 2) (ahd a 0 3) (ahd a 1 2) (ahd a 1 3) (ahd a 2 3) i j := by
  rcases (show i = 0 ∨ i = 1 ∨ i = 2 ∨ i = 3 by omega) with rfl | rfl | rfl | rfl <;> rcases (show j = 0 ∨ j = 1 ∨ j = 2 ∨ j = 3 by omega) with rfl | rfl | rfl | rfl <;> first | rfl | exact ahd_ii _ | exact ahd_sw (by decide)
theorem tr3_c {A B : Nat → Nat → Bool} {i j k : Nat} (h : ∀ i j, i < 4 → j < 4 → A i j = B i j) (hi : i < 4) (hj : j < 4) (hk : k < 4) : tr3 A i j k = tr3 B i j k := by
  unfold tr3
  rw [h i j hi hj, h j k hj hk, h i k hi hk]
theorem tr6_a : tr6 (of6 (ahd a 0 1) (ahd a 0 2) (ahd a 0 3) (ahd a 1 2) (ahd a 1 3) (ahd a 2 3)) = true := by
  have h : ∀ i j k, i < 4 → j < 4 → k < 4 → tr3 (of6 (ahd a 0 1) (ahd a 0 2) (ahd a 0 3) (ahd a 1 2) (ahd a 1 3) (ahd a 2 3)) i j k = true := fun i j k hi hj hk => by
    rw [← tr3_c ahd_6 hi hj hk]
    exact ahd_tr i j k
  unfold tr6
  simp only [h _ _ _ (show 0 < 4 by decide) (show 1 < 4 by decide) (show 2 < 4 by decide), h _ _ _ (show 0 < 4 by decide) (show 2 < 4 by decide) (show 1 < 4 by decide), h _ _ _ (show 1 < 4 by decide) (show 0 < 4 by decide) (show 2 < 4 by decide), h _ _ _ (show 1 < 4 by decide) (show 2 < 4 by decide) (show 0 < 4 by decide), h _ _ _ (show 2 < 4 by decide) (show 0 < 4 by decide) (show 1 < 4 by decide), h _ _ _ (show 2 < 4 by decide) (show 1 < 4 by decide) (show 0 < 4 by decide), h _ _ _ (show 0 < 4 by decide) (show 1 < 4 by decide) (show 3 < 4 by decide), h _ _ _ (show 0 < 4 by decide) (show 3 < 4 by decide) (show 1 < 4 by decide), h _ _ _ (show 1 < 4 by decide) (show 0 < 4 by decide) (show 3 < 4 by decide), h _ _ _ (show 1 < 4 by decide) (show 3 < 4 by decide) (show 0 < 4 by decide), h _ _ _ (show 3 < 4 by decide) (show 0 < 4 by decide) (show 1 < 4 by decide), h _ _ _ (show 3 < 4 by decide) (show 1 < 4 by decide) (show 0 < 4 by decide), h _ _ _ (show 0 < 4 by decide) (show 2 < 4 by decide) (show 3 < 4 by decide), h _ _ _ (show 0 < 4 by decide) (show 3 < 4 by decide) (show 2 < 4 by decide), h _ _ _ (show 2 < 4 by decide) (show 0 < 4 by decide) (show 3 < 4 by decide), h _ _ _ (show 2 < 4 by decide) (show 3 < 4 by decide) (show 0 < 4 by decide), h _ _ _ (show 3 < 4 by decide) (show 0 < 4 by decide) (show 2 < 4 by decide), h _ _ _ (show 3 < 4 by decide) (show 2 < 4 by decide) (show 0 < 4 by decide), h _ _ _ (show 1 < 4 by decide) (show 2 < 4 by decide) (show 3 < 4 by decide), h _ _ _ (show 1 < 4 by decide) (show 3 < 4 by decide) (show 2 < 4 by decide), h _ _ _ (show 2 < 4 by decide) (show 1 < 4 by decide) (show 3 < 4 by decide), h _ _ _ (show 2 < 4 by decide) (show 3 < 4 by decide) (show 1 < 4 by decide), h _ _ _ (show 3 < 4 by decide) (show 1 < 4 by decide) (show 2 < 4 by decide), h _ _ _ (show 3 < 4 by decide) (show 2 < 4 by decide) (show 1 < 4 by decide), Bool.and_true]
theorem ord_eq (hp : p ≤ 4) : (mso (ahd a) p p 0).map lN = oou (rk a p) p p ∧ (mso (ahd a) p p 0).length = p := by
  obtain ⟨h1, h2⟩ := ord6 _ _ _ _ _ _ (tr6_a (a := a)) p (by omega)
  rw [mso_cong ahd_6 hp]
  refine ⟨?_, h2⟩
  rw [h1, ← oou_oon (r := rk a p) fun k hk => ?_]
  unfold rk
  exact fb_ct_cong fun o ho => ahd_6 o k (by omega) (by omega)
theorem l263i {sn k : Nat} (hS : S ≤ 16) (hP : I 36 1 = nI p) (hA : mSt I 37 a) (hw : zWf p S T a) (hsn : sn < 16) : ∀ n q nx, q + n = p → (∀ e, nx = some e → e < 4) → res d 263 18 [.ref 36, .int (nI sn), .int (nI k), .int (opI nx), .int (nI q)] [] (I, L, rR ru dr sr rd rl, 65, x) = res d 263 18 [.ref 36, .int (nI sn), .int (nI k), .int (opI (msi (ahd a) sn n q nx)), .int (nI p)] [] (I, L, rR ru dr sr rd rl, 65, x)
  | 0, q, nx, h, hn => by rw [show q = p by omega]; rfl
  | n + 1, q, nx, h, hn => by
    have hp := hw.1
    rw [l263_18, hP, if_neg (by rw [nI_leI (by omega) (by omega)]; omega), m180 (by omega) (by omega), bI_i, e263_25]
    unfold msi
    cases z : sn.testBit q with
    | true =>
      rw [if_neg (show ¬ nI (if true = true then 1 else 0) = 0 by decide), if_pos rfl, nI_add]
      exact l263i hS hP hA hw hsn n (q + 1) nx (by omega) hn
    | false =>
      rw [if_pos (show nI (if false = true then 1 else 0) = 0 from rfl), if_neg Bool.false_ne_true]
      cases nx with
      | none =>
        rw [show opI none = -(nI 1) from rfl, if_pos rfl, nI_add]
        exact l263i hS hP hA hw hsn n (q + 1) (some q) (by omega) (fun e he => by cases he; omega)
      | some e =>
        have he := hn e rfl
        dsimp only
        rw [show opI (some e) = nI e from rfl, if_neg (fun q => ((nI_m1 (by omega)).mp q).elim), m262 hS hA hw (by omega) he, bI_i, e263_33]
        cases y : ahd a q e with
        | false =>
          rw [if_pos (show nI (if false = true then 1 else 0) = 0 from rfl), if_neg Bool.false_ne_true, nI_add]
          exact l263i hS hP hA hw hsn n (q + 1) (some e) (by omega) hn
        | true =>
          rw [if_neg (show ¬ nI (if true = true then 1 else 0) = 0 by decide), if_pos rfl, nI_add]
          exact l263i hS hP hA hw hsn n (q + 1) (some q) (by omega) (fun e he => by cases he; omega)
theorem l263 (hS : S ≤ 16) (hw : zWf p S T a) : ∀ n k sn (I : Nat → Nat → Int32) (L : Nat → Nat → Int64) (l : List Int64) (w3 w4 : Value), k + n = p → sn < 16 → (mso (ahd a) p n sn).length = n → l.length = k → I 36 1 = nI p → mSt I 37 a → mTo I L l → ∃ I' L', res d 263 10 [.ref 36, .int (nI sn), .int (nI k), w3, w4] [] (I, L, rR ru dr sr rd rl, 65, x) = some (some (.int (nI p)), (I', L', rR ru dr sr rd rl, 65, x)) ∧ mTo I' L' (l ++ (mso (ahd a) p n sn).map lN) ∧ fM [] [9] I I'
  | 0, k, sn, I, L, l, w3, w4, h, hsn, hm, hl, hP, hA, hO => by
    have hp := hw.1
    refine ⟨I, L, ?_, by rw [show (mso (ahd a) p 0 sn).map lN = [] from rfl, List.append_nil]; exact hO, fM.rf⟩
    rw [l263_10, hP, if_pos (by rw [nI_leI (by omega) (by omega)]; omega)]
  | n + 1, k, sn, I, L, l, w3, w4, h, hsn, hm, hl, hP, hA, hO => by
    have hp := hw.1
    have e0 := l263i (d := d) (L := L) (ru := ru) (dr := dr) (sr := sr) (rd := rd) (rl := rl) (x := x) (sn := sn) (k := k) hS hP hA hw hsn p 0 none (by omega) (fun e he => by cases he)
    have hlt := (msi_cong (A := ahd a) (B := ahd a) (sn := sn) (fun _ _ _ _ => rfl) p 0 none (by omega) (fun e he => by cases he)).2
    unfold mso at hm ⊢
    cases z : msi (ahd a) sn p 0 none with
    | none => rw [z] at hm; cases hm
    | some e =>
      have he := hlt e z
      rw [z] at e0 hm
      have hm' : (mso (ahd a) p n (sn ||| 2 ^ e)).length = n := Nat.succ.inj hm
      have h2 : 2 ^ e < 2 ^ 4 := Nat.pow_lt_pow_right (by decide) he
      have hsn' : sn ||| 2 ^ e < 2 ^ 4 := Nat.or_lt_two_pow hsn h2
      obtain ⟨I1, L1, e1, h1, f1, g1, i1⟩ := m182 (d := d) (v := lN e) (ru := ru) (dr := dr) (sr := sr) (rd := rd) (rl := rl) (x := x) hO (by omega)
      obtain ⟨I2, L2, e2, h2', f2⟩ := l263 hS hw n (k + 1) (sn ||| 2 ^ e) I1 L1 (l ++ [lN e]) (.int (nI e)) (.int (nI p)) (by omega) hsn' hm' (by rw [List.length_append]; show l.length + 1 = _; omega) (f1.fp hP (by decide)) (hA.congr (i1 37 (by decide))) h1
      refine ⟨I2, L2, ?_, ?_, f1.tr f2⟩
      · rw [l263_10, hP, if_neg (by rw [nI_leI (by omega) (by omega)]; omega), show -(nI 1) = opI none from rfl, e0, show opI (some e) = nI e from rfl, l263_18, hP, if_pos (Int32.le_refl _), nI_l (by omega), e1, bV_n, e263_48, zshl1 (by omega), fa_or, nI_add, e2]
      · rw [List.append_assoc] at h2'
        exact h2'
theorem n263 (h : mInv I L rl T R S f g p a n t l u kp cl si rn rt) (hw : wInv R S f g p a T u kp) : ∃ I' L', cal d 263 [.ref 36] (I, L, rR ru dr sr rd rl, 65, x) = some (some (.int (nI p)), (I', L', rR ru dr sr rd rl, 65, x)) ∧ mInv I' L' rl T R S f g p a n t (oou (rk a p) p p) u kp cl si rn rt := by
  obtain ⟨hI, hP, hA, hT, hO, hU, hK, hC, hS, hl, hR⟩ := h
  obtain ⟨hc, hw, hu, hk⟩ := hw
  have f0 : fM [] [] I (zup I 36 10 (nI 0)) := f10
  have hp := hw.1
  obtain ⟨o1, o2⟩ := ord_eq (a := a) hp
  have f9 : fM [] [9] I (zup (zup I 36 10 (nI 0)) 36 9 (nI 0)) := (f0.mono (by decide) (by decide)).tr fM.f9
  obtain ⟨I2, L2, e2, h2, f2⟩ := l263 (d := d) (ru := ru) (dr := dr) (sr := sr) (rd := rd) (rl := rl) (x := x) hc.S16 hw p 0 0 (zup (zup I 36 10 (nI 0)) 36 9 (nI 0)) L [] .null .null (by omega) (by decide) o2 rfl (f9.fp hP (by decide)) (f9.st hA (by decide) rfl) mTo.nil
  rw [o1] at h2
  have ft : fM [] [9] I I2 := f9.tr f2
  have hto : mTo I2 L2 (oou (rk a p) p p) := h2
  refine ⟨I2, L2, ?_, ⟨ft.ct hI (by decide), ft.fp hP (by decide), ft.st hA (by decide) rfl, ft.tx hT (by decide), hto, ft.un hU (by decide), ft.kp' hK (by decide), ft.clu hC (by decide), ft.sig hS (by decide), hl, ft.rr hl hR (by decide)⟩⟩
  rw [k263]
  exact e2

end
