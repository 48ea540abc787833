section
variable {I : Nat → Nat → Int32} {L : Nat → Nat → Int64} {ru dr : Nat} {sr : Nat → Option Nat} {rd : Option Nat} {rl x : Nat}

theorem hin_zero {R : Nat} {F : Nat → Bool} {T : Nat → N4} {b : Nat} (h : ∀ c, hon R F T c = true → 0 < (T c).1) : ∀ t, (hin R F T b t).1 = 0 → hin R F T b t = (0, 10, 0, R + 1)
  | 0, _ => rfl
  | t + 1, e => by
    rw [hin] at e ⊢
    by_cases z : hon R F T (b + t + 1) = true
    · rw [if_pos z] at e
      have h1 := h _ z
      have : (hst (T (b + t + 1)) (hin R F T b t) (b + t + 1)).1 = (hin R F T b t).1 + (T (b + t + 1)).1 := rfl
      omega
    · rw [if_neg z] at e ⊢
      exact hin_zero h t e
/-- only the rows of hops change -/
def fH (I I' : Nat → Nat → Int32) (L L' : Nat → Nat → Int64) : Prop := (∀ c, c ≠ 47 → c ≠ 49 → I' c = I c) ∧ ∀ c, c ≠ 48 → L' c = L c
theorem fH.rf {I : Nat → Nat → Int32} {L : Nat → Nat → Int64} : fH I I L L := ⟨fun _ _ _ => rfl, fun _ _ => rfl⟩
theorem fH.tr {I I1 I2 : Nat → Nat → Int32} {L L1 L2 : Nat → Nat → Int64} (h : fH I I1 L L1) (h2 : fH I1 I2 L1 L2) : fH I I2 L L2 := ⟨fun c a b => (h2.1 c a b).trans (h.1 c a b), fun c a => (h2.2 c a).trans (h.2 c a)⟩
theorem fH.M {W F : List Nat} {I I' : Nat → Nat → Int32} {L L' : Nat → Nat → Int64} (h : fH I I' L L') : fM W F I I' := ⟨fun c _ b => h.1 c (fun q => by rw [q] at b; cases b) (fun q => by rw [q] at b; cases b), fun k _ _ => by rw [h.1 36 (by decide) (by decide)]⟩
theorem fH.ct {I I' : Nat → Nat → Int32} {L L' : Nat → Nat → Int64} (h : fH I I' L L') {R S : Nat} {f g : Nat → Nat} (hI : mCt I R S f g) : mCt I' R S f g := (h.M (W := []) (F := [])).ct hI (by decide)
theorem mV.keep {I I' : Nat → Nat → Int32} {L L' : Nat → Nat → Int64} {R b : Nat} {v : N4} (h : mV I L R v b) (h1 : I' 47 b = I 47 b) (h2 : I' 49 b = I 49 b) (h3 : L' 48 b = L 48 b) : mV I' L' R v b := by
  unfold mV
  rw [h1, h2, h3]
  exact h
theorem l218i {d R S k o m b : Nat} {f g : Nat → Nat} {T : Nat → N4} (hct : zCt R S f g) (hk : k ≤ 100) (hm : m < 2 ^ 31) (hT : hFP R k (fun b => (2 * rws f (zdif (2 ^ S - 1) m) R).testBit b) (fun b => (2 * rws f o R).testBit b) T) (hb : b ≤ R) : ∀ j t (I : Nat → Nat → Int32) (L : Nat → Nat → Int64), t + j = hfar R k (fun b => (2 * rws f o R).testBit b) b → mCt I R S f g → (∀ c, b < c → c ≤ R + 1 → mV I L R (T c) c) → mV I L R (hin R (fun b => (2 * rws f (zdif (2 ^ S - 1) m) R).testBit b) T b t) b → ∃ I' L', res d 218 50 [.ref 36, .int (nI k), .int (nI o), .int (nI m), .int (nI (R + 1)), .int (nI b), .int (nI (k + if (fun b => (2 * rws f o R).testBit b) b = true then 1 else 0)), .int (nI (b + t + 1))] [] (I, L, rR ru dr sr rd rl, 65, x) = res d 218 23 [.ref 36, .int (nI k), .int (nI o), .int (nI m), .int (nI (R + 1)), .int (nI b + -(nI 1)), .int (nI (k + if (fun b => (2 * rws f o R).testBit b) b = true then 1 else 0)), .int (nI (b + hfar R k (fun b => (2 * rws f o R).testBit b) b + 1))] [] (I', L', rR ru dr sr rd rl, 65, x) ∧ mV I' L' R (hin R (fun b => (2 * rws f (zdif (2 ^ S - 1) m) R).testBit b) T b (hfar R k (fun b => (2 * rws f o R).testBit b) b)) b ∧ (∀ c, b < c → c ≤ R + 1 → mV I' L' R (T c) c) ∧ fH I I' L L'
  | 0, t, I, L, ht, hI, hV, hA => by
    have hR := hct.2.1
    have hfl := hfar_le R k (fun b => (2 * rws f o R).testBit b) (b := b) (by omega)
    have hx : (if (fun b => (2 * rws f o R).testBit b) b = true then 1 else 0) ≤ 1 := by split <;> decide
    have ht' : t = hfar R k (fun b => (2 * rws f o R).testBit b) b := by omega
    refine ⟨I, L, ?_, ht' ▸ hA, hV, fH.rf⟩
    rw [l218_50, nI_add, zmin_n (by omega) (by omega), if_pos (by rw [nI_ltI (by omega) (by omega)]; rw [ht']; unfold hfar; omega), ht']
  | j + 1, t, I, L, ht, hI, hV, hA => by
    have hR := hct.2.1
    have hfl := hfar_le R k (fun b => (2 * rws f o R).testBit b) (b := b) (by omega)
    have hx : (if (fun b => (2 * rws f o R).testBit b) b = true then 1 else 0) ≤ 1 := by split <;> decide
    have hlt : b + t + 1 ≤ b + hfar R k (fun b => (2 * rws f o R).testBit b) b := by omega
    have hmin : b + t + 1 ≤ min (R + 1) (b + (k + if (fun b => (2 * rws f o R).testBit b) b = true then 1 else 0)) := by
      have : b + hfar R k (fun b => (2 * rws f o R).testBit b) b ≤ min (R + 1) (b + k + if (fun b => (2 * rws f o R).testBit b) b = true then 1 else 0) := by unfold hfar; omega
      omega
    have hE := hT.1
    have hok : ∀ c, b < c → c ≤ R + 1 → hok R c (T c) := fun c _ h2 => hT.at hR h2
    have hpos : ∀ c, hon R (fun b => (2 * rws f (zdif (2 ^ S - 1) m) R).testBit b) T c = true → 0 < (T c).1 := fun c h => hon_pos hE h
    obtain ⟨i1, i2, i3⟩ := hin_ok (F := (fun b => (2 * rws f (zdif (2 ^ S - 1) m) R).testBit b)) hR hE hb hok t (by omega)
    have hvc := hV (b + t + 1) (by omega) (by omega)
    have hokc := hok (b + t + 1) (by omega) (by omega)
    have e68 : ∃ I' L', res d 218 68 [.ref 36, .int (nI k), .int (nI o), .int (nI m), .int (nI (R + 1)), .int (nI b), .int (nI (k + if (fun b => (2 * rws f o R).testBit b) b = true then 1 else 0)), .int (nI (b + t + 1))] [] (I, L, rR ru dr sr rd rl, 65, x) = res d 218 50 [.ref 36, .int (nI k), .int (nI o), .int (nI m), .int (nI (R + 1)), .int (nI b), .int (nI (k + if (fun b => (2 * rws f o R).testBit b) b = true then 1 else 0)), .int (nI (b + (t + 1) + 1))] [] (I', L', rR ru dr sr rd rl, 65, x) ∧ mV I' L' R (if 0 < (T (b + t + 1)).1 then hst (T (b + t + 1)) (hin R (fun b => (2 * rws f (zdif (2 ^ S - 1) m) R).testBit b) T b t) (b + t + 1) else hin R (fun b => (2 * rws f (zdif (2 ^ S - 1) m) R).testBit b) T b t) b ∧ (∀ c, b < c → c ≤ R + 1 → mV I' L' R (T c) c) ∧ fH I I' L L' := by
      refine ⟨_, _, ?_, mV_step (by omega) (by omega) hR hA hvc (fun h => by rw [hin_zero hpos t h]; exact ⟨rfl, rfl⟩) (fun _ => ⟨i3.2.1, by have := i3.2.2.1; omega⟩) (fun h => by
        have h1 := hokc.2.2.2.1 h
        have h2 := hokc.2.2.1
        exact ⟨by omega, by omega⟩), fun c h1 h2 => ?_, ?_⟩
      · rw [e218_68, if_pos (ak_47 (by omega)), if_pos (ak_47 (by omega)), if_pos (ak_47 (by omega)), if_pos (ak_48 (by omega)), if_pos (ak_48 (by omega)), if_pos (ak_48 (by omega)), if_pos (ak_49 (by omega)), if_pos (ak_49 (by omega)), if_pos (ak_49 (by omega)), nI_clamp (by omega), nI_clamp (by omega), nI_add, show b + t + 1 + 1 = b + (t + 1) + 1 by omega]
      · refine (hV c h1 h2).keep ?_ ?_ ?_
        · rw [zup_ne _ _ _ (by decide), zup_v, if_neg (by omega)]
        · rw [zup_v, if_neg (by omega), zup_ne _ _ _ (by decide)]
        · rw [zup_v, if_neg (by omega)]
      · exact ⟨fun c h1 h2 => by rw [zup_ne _ _ _ h2, zup_ne _ _ _ h1], fun c h1 => zup_ne _ _ _ h1⟩
    have fin : ∀ (I1 : Nat → Nat → Int32) (L1 : Nat → Nat → Int64), mV I1 L1 R (hin R (fun b => (2 * rws f (zdif (2 ^ S - 1) m) R).testBit b) T b (t + 1)) b → (∀ c, b < c → c ≤ R + 1 → mV I1 L1 R (T c) c) → fH I I1 L L1 → ∃ I' L', res d 218 50 [.ref 36, .int (nI k), .int (nI o), .int (nI m), .int (nI (R + 1)), .int (nI b), .int (nI (k + if (fun b => (2 * rws f o R).testBit b) b = true then 1 else 0)), .int (nI (b + (t + 1) + 1))] [] (I1, L1, rR ru dr sr rd rl, 65, x) = res d 218 23 [.ref 36, .int (nI k), .int (nI o), .int (nI m), .int (nI (R + 1)), .int (nI b + -(nI 1)), .int (nI (k + if (fun b => (2 * rws f o R).testBit b) b = true then 1 else 0)), .int (nI (b + hfar R k (fun b => (2 * rws f o R).testBit b) b + 1))] [] (I', L', rR ru dr sr rd rl, 65, x) ∧ mV I' L' R (hin R (fun b => (2 * rws f (zdif (2 ^ S - 1) m) R).testBit b) T b (hfar R k (fun b => (2 * rws f o R).testBit b) b)) b ∧ (∀ c, b < c → c ≤ R + 1 → mV I' L' R (T c) c) ∧ fH I I' L L' := fun I1 L1 h1 h2 h3 => by
      obtain ⟨I2, L2, e2, q1, q2, q3⟩ := l218i hct hk hm hT hb j (t + 1) I1 L1 (by omega) (h3.ct hI) h2 h1
      exact ⟨I2, L2, e2, q1, q2, h3.tr q3⟩
    rw [l218_50, nI_add, zmin_n (by omega) (by omega), if_neg (by rw [nI_ltI (by omega) (by omega)]; omega)]
    by_cases z : b + t + 1 = R + 1
    · have hh : hon R (fun b => (2 * rws f (zdif (2 ^ S - 1) m) R).testBit b) T (b + t + 1) = true := by unfold hon; rw [decide_eq_true z]; rfl
      have h1 := hpos _ hh
      obtain ⟨I1, L1, e1, q1, q2, q3⟩ := e68
      rw [if_pos h1] at q1
      have eh : hin R (fun b => (2 * rws f (zdif (2 ^ S - 1) m) R).testBit b) T b (t + 1) = hst (T (b + t + 1)) (hin R (fun b => (2 * rws f (zdif (2 ^ S - 1) m) R).testBit b) T b t) (b + t + 1) := by rw [hin, if_pos hh]
      rw [← eh] at q1
      rw [if_pos (by rw [nI_leI (by omega) (by omega)]; omega), e1]
      exact fin I1 L1 q1 q2 q3
    · have hF := F_eq (m := m) hct (show 1 ≤ b + t + 1 by omega) (show b + t + 1 ≤ R by omega)
      rw [if_neg (by rw [nI_leI (by omega) (by omega)]; omega), zsub (by omega), m215 hct hI hm (by omega), bI_i, e218_66]
      cases y : fre f m (b + t + 1 - 1) with
      | false =>
        rw [y] at hF
        have hh : hon R (fun b => (2 * rws f (zdif (2 ^ S - 1) m) R).testBit b) T (b + t + 1) = false := by unfold hon; dsimp only; rw [decide_eq_false z, hF]; rfl
        have eh : hin R (fun b => (2 * rws f (zdif (2 ^ S - 1) m) R).testBit b) T b (t + 1) = hin R (fun b => (2 * rws f (zdif (2 ^ S - 1) m) R).testBit b) T b t := by rw [hin, if_neg (by rw [hh]; exact Bool.false_ne_true)]
        rw [if_pos (show nI (if false = true then 1 else 0) = 0 from rfl), nI_add, show b + t + 1 + 1 = b + (t + 1) + 1 by omega]
        exact fin I L (eh ▸ hA) hV fH.rf
      | true =>
        rw [y] at hF
        have hh : hon R (fun b => (2 * rws f (zdif (2 ^ S - 1) m) R).testBit b) T (b + t + 1) = decide (0 < (T (b + t + 1)).1) := by unfold hon; dsimp only; rw [decide_eq_false z, hF]; rfl
        obtain ⟨I1, L1, e1, q1, q2, q3⟩ := e68
        have eh : hin R (fun b => (2 * rws f (zdif (2 ^ S - 1) m) R).testBit b) T b (t + 1) = if 0 < (T (b + t + 1)).1 then hst (T (b + t + 1)) (hin R (fun b => (2 * rws f (zdif (2 ^ S - 1) m) R).testBit b) T b t) (b + t + 1) else hin R (fun b => (2 * rws f (zdif (2 ^ S - 1) m) R).testBit b) T b t := by
          rw [hin, hh]
          by_cases w : 0 < (T (b + t + 1)).1
          · rw [decide_eq_true w, if_pos rfl, if_pos w]
          · rw [decide_eq_false w, if_neg Bool.false_ne_true, if_neg w]
        rw [← eh] at q1
        rw [if_neg (show ¬ nI (if true = true then 1 else 0) = 0 by decide), e1]
        exact fin I1 L1 q1 q2 q3
theorem l218 {d R S k o m : Nat} {f g : Nat → Nat} {T : Nat → N4} (hct : zCt R S f g) (hk : k ≤ 100) (ho : o < 2 ^ 31) (hm : m < 2 ^ 31) (hT : hFP R k (fun b => (2 * rws f (zdif (2 ^ S - 1) m) R).testBit b) (fun b => (2 * rws f o R).testBit b) T) : ∀ b (I : Nat → Nat → Int32) (L : Nat → Nat → Int64) (w6 w7 : Value), b ≤ R → mCt I R S f g → (∀ c, b < c → c ≤ R + 1 → mV I L R (T c) c) → ∃ I' L', res d 218 23 [.ref 36, .int (nI k), .int (nI o), .int (nI m), .int (nI (R + 1)), .int (nI b), w6, w7] [] (I, L, rR ru dr sr rd rl, 65, x) = some (some (.int (nI (if 0 < (T 0).1 then 1 else 0))), (I', L', rR ru dr sr rd rl, 65, x)) ∧ (∀ c, c ≤ R + 1 → mV I' L' R (T c) c) ∧ fH I I' L L'
  | b, I, L, w6, w7, hb, hI, hV => by
    have hR := hct.2.1
    have f0 : fH I (zup (zup I 47 b (nI 1000000)) 49 b (-(nI 1000000))) L (zup L 48 b (lN 0)) := ⟨fun c h1 h2 => by rw [zup_ne _ _ _ h2, zup_ne _ _ _ h1], fun c h1 => zup_ne _ _ _ h1⟩
    have hI0 := f0.ct hI
    have hV0 : ∀ c, b < c → c ≤ R + 1 → mV (zup (zup I 47 b (nI 1000000)) 49 b (-(nI 1000000))) (zup L 48 b (lN 0)) R (T c) c := fun c h1 h2 => by
      refine (hV c h1 h2).keep ?_ ?_ ?_
      · rw [zup_ne _ _ _ (by decide), zup_v, if_neg (by omega)]
      · rw [zup_v, if_neg (by omega), zup_ne _ _ _ (by decide)]
      · rw [zup_v, if_neg (by omega)]
    have hA0 : mV (zup (zup I 47 b (nI 1000000)) 49 b (-(nI 1000000))) (zup L 48 b (lN 0)) R (hin R (fun b => (2 * rws f (zdif (2 ^ S - 1) m) R).testBit b) T b 0) b := by
      refine ⟨by rw [zup_ne _ _ _ (by decide), zup_v, if_pos rfl]; rfl, by rw [zup_v, if_pos rfl]; rfl, ?_⟩
      rw [if_pos (show (hin R (fun b => (2 * rws f (zdif (2 ^ S - 1) m) R).testBit b) T b 0).1 = 0 from rfl)]
      exact ⟨0, Nat.zero_le _, by rw [zup_v, if_pos rfl]; decide⟩
    obtain ⟨I1, L1, e1, q1, q2, q3⟩ := l218i (d := d) (ru := ru) (dr := dr) (sr := sr) (rd := rd) (rl := rl) (x := x) (f := f) (g := g) (S := S) (o := o) hct hk hm hT hb (hfar R k (fun b => (2 * rws f o R).testBit b) b) 0 _ _ (by omega) hI0 hV0 hA0
    have hfix := hT.2 b hb
    rw [← hfix] at q1
    have hV1 : ∀ c, b ≤ c → c ≤ R + 1 → mV I1 L1 R (T c) c := fun c h1 h2 => by
      by_cases z : c = b
      · rw [z]; exact q1
      · exact q2 c (by omega) h2
    have f1 := f0.tr q3
    have e0 : res d 218 23 [.ref 36, .int (nI k), .int (nI o), .int (nI m), .int (nI (R + 1)), .int (nI b), w6, w7] [] (I, L, rR ru dr sr rd rl, 65, x) = res d 218 23 [.ref 36, .int (nI k), .int (nI o), .int (nI m), .int (nI (R + 1)), .int (nI b + -(nI 1)), .int (nI (k + if (fun b => (2 * rws f o R).testBit b) b = true then 1 else 0)), .int (nI (b + hfar R k (fun b => (2 * rws f o R).testBit b) b + 1))] [] (I1, L1, rR ru dr sr rd rl, 65, x) := by
      rw [l218_23, if_neg (nI_pos (by omega)), if_pos (ak_47 (by omega)), if_pos (ak_48 (by omega)), if_pos (ak_49 (by omega)), nI_clamp (by omega), m217 hct hI0 ho hb, bI_i, e218_45, nI_add]
      exact e1
    rw [e0]
    match b, hb, hV1 with
    | 0, _, hV1 =>
      refine ⟨I1, L1, ?_, fun c h => hV1 c (Nat.zero_le _) h, f1⟩
      have h0 := (hV1 0 (Nat.le_refl _) (by omega)).1
      have hok0 := hT.at hR (b := 0) (by omega)
      rw [l218_23, if_pos (by decide), if_pos (ak_47 (by omega)), nI_clamp (by omega), h0]
      by_cases z : (T 0).1 = 0
      · rw [if_pos (by rw [if_pos z, nI_leI (by omega) (by omega)]; omega), if_pos zb0, if_neg (show ¬ 0 < (T 0).1 by omega)]
      · rw [if_neg (by rw [if_neg z, nI_leI (by omega) (by have := hok0.2.1; omega)]; have := hok0.2.1; omega), if_pos zb1, if_pos (show 0 < (T 0).1 by omega)]
    | b + 1, hb, hV1 =>
      obtain ⟨I2, L2, e2, r1, r2⟩ := l218 hct hk ho hm hT b I1 L1 (.int (nI (k + if (fun b => (2 * rws f o R).testBit b) (b + 1) = true then 1 else 0))) (.int (nI (b + 1 + hfar R k (fun b => (2 * rws f o R).testBit b) (b + 1) + 1))) (by omega) (q3.ct hI0) (fun c h1 h2 => hV1 c (by omega) h2)
      refine ⟨I2, L2, ?_, r1, f1.tr r2⟩
      rw [zsub1 (by omega), Nat.add_sub_cancel]
      exact e2
theorem m218 {d R S k o m : Nat} {f g : Nat → Nat} (hct : zCt R S f g) (hI : mCt I R S f g) (hk : k ≤ 100) (ho : o < 2 ^ 31) (hm : m < 2 ^ 31) : ∃ I' L', cal d 218 [.ref 36, .int (nI k), .int (nI o), .int (nI m)] (I, L, rR ru dr sr rd rl, 65, x) = some (some (.int (nI (if 0 < (hT R k (fun b => (2 * rws f (zdif (2 ^ S - 1) m) R).testBit b) (fun b => (2 * rws f o R).testBit b) 0).1 then 1 else 0))), (I', L', rR ru dr sr rd rl, 65, x)) ∧ (∀ c, c ≤ R + 1 → mV I' L' R (hT R k (fun b => (2 * rws f (zdif (2 ^ S - 1) m) R).testBit b) (fun b => (2 * rws f o R).testBit b) c) c) ∧ fH I I' L L' := by
  have hR := hct.2.1
  have f0 : fH I (zup (zup I 47 (R + 1) (nI 0)) 49 (R + 1) (nI 0)) L (zup L 48 (R + 1) (lN 1)) := ⟨fun c h1 h2 => by rw [zup_ne _ _ _ h2, zup_ne _ _ _ h1], fun c h1 => zup_ne _ _ _ h1⟩
  obtain ⟨I1, L1, e1, q1, q2⟩ := l218 (d := d) (ru := ru) (dr := dr) (sr := sr) (rd := rd) (rl := rl) (x := x) (f := f) (g := g) (S := S) hct hk ho hm (hT_FP R k (fun b => (2 * rws f (zdif (2 ^ S - 1) m) R).testBit b) (fun b => (2 * rws f o R).testBit b)) R (zup (zup I 47 (R + 1) (nI 0)) 49 (R + 1) (nI 0)) (zup L 48 (R + 1) (lN 1)) .null .null (Nat.le_refl _) (f0.ct hI) (fun c h1 h2 => by
    rw [show c = R + 1 by omega, hT_end]
    exact ⟨by rw [zup_ne _ _ _ (by decide), zup_v, if_pos rfl]; rfl, by rw [zup_v, if_pos rfl], by rw [if_neg (by decide), zup_v, if_pos rfl]⟩)
  refine ⟨I1, L1, ?_, q1, f0.tr q2⟩
  rw [k218, hI.1, nI_add, if_pos (ak_47 (by omega)), if_pos (ak_48 (by omega)), if_pos (ak_49 (by omega)), nI_clamp (by omega)]
  exact e1

end
