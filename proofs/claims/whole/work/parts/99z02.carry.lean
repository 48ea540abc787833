section
variable {I : Nat → Nat → Int32} {L : Nat → Nat → Int64} {ru dr : Nat} {sr : Nat → Option Nat} {rd : Option Nat} {rl x : Nat}
variable {d R S p n T rn k N : Nat} {f g rt : Nat → Nat} {a : zP} {t : Nat → Nat} {l : List Int64} {u : List zP} {kp : Nat → Option zP} {cl : List (Nat × Nat)} {si : List (Nat × Int32)} {cs : zC} {xs : Nat → Int32}

/-! carried over calls -/
theorem mInv.mr {T' : Nat} (h : mInv I L rl T R S f g p a n t l u kp cl si rn rt) (hT : T ≤ T') : mInv I L rl T' R S f g p a n t l u kp cl si rn rt := by
  obtain ⟨hI, hP, hA, hT, hO, hU, hK, hC, hS, hl, hR⟩ := h
  exact ⟨hI, hP, hA, hT, hO, hU, hK.more (by assumption), hC, hS, hl, hR⟩
theorem mInv.cg {I' : Nat → Nat → Int32} {L' : Nat → Nat → Int64} (h : mInv I L rl T R S f g p a n t l u kp cl si rn rt) (e : ∀ c, 36 ≤ c → c < 64 → I' c = I c) (eL : ∀ c, 36 ≤ c → c < 64 → L' c = L c) : mInv I' L' rl T R S f g p a n t l u kp cl si rn rt := by
  have hl : rl = 44 := h.2.2.2.2.2.2.2.2.2.1
  subst hl
  have e36 := e 36 (by decide) (by decide)
  have e37 := e 37 (by decide) (by decide)
  have e38 := e 38 (by decide) (by decide)
  have e39 := e 39 (by decide) (by decide)
  have e40 := e 40 (by decide) (by decide)
  have e44 := e 44 (by decide) (by decide)
  have e50 := e 50 (by decide) (by decide)
  have e55 := e 55 (by decide) (by decide)
  have e56 := e 56 (by decide) (by decide)
  have e57 := e 57 (by decide) (by decide)
  have e58 := e 58 (by decide) (by decide)
  have e61 := e 61 (by decide) (by decide)
  have e62 := e 62 (by decide) (by decide)
  have e63 := e 63 (by decide) (by decide)
  have e41 := eL 41 (by decide) (by decide)
  unfold mInv mCt mSt mTx mTo mUn mKp mCl mSi mRu at h ⊢
  rw [e36, e37, e38, e39, e40, e44, e50, e55, e56, e57, e58, e61, e62, e63, e41]
  exact h
theorem cInv.cg {I' : Nat → Nat → Int32} {L' : Nat → Nat → Int64} (h : cInv I L ru dr R S f g p a n t l u kp cl si cs) (e : ∀ c, c < 36 → I' c = I c) (eL : ∀ c, c < 36 → L' c = L c) : cInv I' L' ru dr R S f g p a n t l u kp cl si cs := by
  have e2 := e 2 (by decide)
  have e3 := e 3 (by decide)
  have e4 := e 4 (by decide)
  have e6 := e 6 (by decide)
  have e7 := e 7 (by decide)
  have e8 := e 8 (by decide)
  have e15 := e 15 (by decide)
  have e20 := e 20 (by decide)
  have e21 := e 21 (by decide)
  have e22 := e 22 (by decide)
  have e23 := e 23 (by decide)
  have e24 := e 24 (by decide)
  have e25 := e 25 (by decide)
  have e26 := e 26 (by decide)
  have e27 := e 27 (by decide)
  have e28 := e 28 (by decide)
  have l5 := eL 5 (by decide)
  have hr : I' ru = I ru ∧ I' (ru + 1) = I (ru + 1) := by
    rcases h.2.2.2.2.2.2.2.1 with ⟨q, -⟩ | ⟨q, -⟩ <;> rw [q] <;> exact ⟨e _ (by decide), e _ (by decide)⟩
  unfold cInv cCt cSt cTx cTo cPa cCl cSi cRu at h ⊢
  rw [e2, e3, e4, e6, e7, e8, e15, e20, e21, e22, e23, e24, e25, e26, e27, e28, l5, hr.1, hr.2]
  exact h
def dA (c : Nat) : Prop := c < 36
def dB (c : Nat) : Prop := 36 ≤ c ∧ c < 64
def nA (N : Nat) (xs : Nat → Int32) (I : Nat → Nat → Int32) : Prop := I 998 0 = nI N ∧ ∀ j, I 999 j = xs j
def nZ (h : zH) : Prop := zcD dA h ∧ zcD dB h
theorem fr1 {m x1 : Nat} {A : List Value} {o : Option Value} {I1 : Nat → Nat → Int32} {L1 : Nat → Nat → Int64} {Q Q1 : Nat → Nat → Option Nat} (e : cal 90 m A (I, L, Q, 65, x) = some (o, (I1, L1, Q1, 65, x1))) (hA : zvD dA A) (hz : nZ (I, L, Q, 65, x)) : (∀ c, 36 ≤ c → I1 c = I c) ∧ (∀ c, 36 ≤ c → L1 c = L c) ∧ nZ (I1, L1, Q1, 65, x1) := by
  obtain ⟨⟨f1, f2, f3⟩, hc⟩ := cal_frame (D := dA) e hA hz.1
  have nd : ∀ c, 36 ≤ c → ¬ dA c := fun c h q => by unfold dA at q; omega
  exact ⟨fun c hc => f1 c (nd c hc), fun c hc => f2 c (nd c hc), hc, rfl, fun b j v hb hv => hz.2.2 b j v hb (by
    have := f3 b (nd b hb.1)
    rw [← this]
    exact hv)⟩
theorem fr2 {m x1 : Nat} {A : List Value} {o : Option Value} {I1 : Nat → Nat → Int32} {L1 : Nat → Nat → Int64} {Q Q1 : Nat → Nat → Option Nat} (e : cal 90 m A (I, L, Q, 65, x) = some (o, (I1, L1, Q1, 65, x1))) (hA : zvD dB A) (hz : nZ (I, L, Q, 65, x)) : (∀ c, c < 36 ∨ 64 ≤ c → I1 c = I c) ∧ (∀ c, c < 36 ∨ 64 ≤ c → L1 c = L c) ∧ nZ (I1, L1, Q1, 65, x1) := by
  obtain ⟨⟨f1, f2, f3⟩, hc⟩ := cal_frame (D := dB) e hA hz.2
  have nd : ∀ c, c < 36 ∨ 64 ≤ c → ¬ dB c := fun c h q => by unfold dB at q; omega
  exact ⟨fun c hc => f1 c (nd c hc), fun c hc => f2 c (nd c hc), ⟨rfl, fun b j v hb hv => hz.1.2 b j v hb (by
    have := f3 b (nd b (Or.inl hb))
    rw [← this]
    exact hv)⟩, hc⟩
theorem nA.cg {I' : Nat → Nat → Int32} (h : nA N xs I) (e : ∀ c, 64 ≤ c → I' c = I c) : nA N xs I' := ⟨by rw [e 998 (by decide)]; exact h.1, fun j => by rw [e 999 (by decide)]; exact h.2 j⟩
/-- where both stand at a turn of the law's loop -/
def gSt (N : Nat) (xs : Nat → Int32) (k : Nat) (I : Nat → Nat → Int32) (L : Nat → Nat → Int64) (ru dr : Nat) (sr : Nat → Option Nat) (rd : Option Nat) (rl x : Nat) : Prop := nA N xs I ∧ x ≤ k ∧ nZ (I, L, rR ru dr sr rd rl, 65, x) ∧ ∃ (T R S : Nat) (f g : Nat → Nat) (p : Nat) (a : zP) (n : Nat) (t : Nat → Nat) (l : List Int64) (u : List zP) (kp : Nat → Option zP) (cl : List (Nat × Nat)) (si : List (Nat × Int32)) (cs : zC) (rn : Nat) (rt : Nat → Nat), T ≤ 100 * k ∧ cInv I L ru dr R S f g p a n t l u kp cl si cs ∧ mInv I L rl T R S f g p a n t l u kp cl si rn rt ∧ wInv R S f g p a T u kp ∧ (prs rt rn).2 = some cs
/-- one call of both that answer alike -/
def stO (N : Nat) (xs : Nat → Int32) (k cm mm : Nat) (A1 A2 : List Value) (I : Nat → Nat → Int32) (L : Nat → Nat → Int64) (ru dr : Nat) (sr : Nat → Option Nat) (rd : Option Nat) (rl x : Nat) : Prop := ∃ v I1 L1 ru1 dr1 sr1 I2 L2 rd2, cal 90 cm A1 (I, L, rR ru dr sr rd rl, 65, x) = some (some (.int v), (I1, L1, rR ru1 dr1 sr1 rd rl, 65, x)) ∧ nA N xs I1 ∧ cal 90 mm A2 (I1, L1, rR ru1 dr1 sr1 rd rl, 65, x) = some (some (.int v), (I2, L2, rR ru1 dr1 sr1 rd2 rl, 65, x)) ∧ gSt N xs (k + 1) I2 L2 ru1 dr1 sr1 rd2 rl x
theorem comb {cm mm T2 R' S' p' n' rn' ru1 dr1 : Nat} {f' g' t' rt' : Nat → Nat} {a' : zP} {l' : List Int64} {u' : List zP} {kp' : Nat → Option zP} {cl' : List (Nat × Nat)} {si' : List (Nat × Int32)} {cs' : zC} {sr1 : Nat → Option Nat} {v : Int32} {I1 : Nat → Nat → Int32} {L1 : Nat → Nat → Int64} {A1 A2 : List Value} (h9 : nA N xs I) (hx : x ≤ k) (hz : nZ (I, L, rR ru dr sr rd rl, 65, x)) (hTk : T ≤ 100 * k) (hm : mInv I L rl T R S f g p a n t l u kp cl si rn rt) (hA1 : zvD dA A1) (hA2 : zvD dB A2)
    (e1 : cal 90 cm A1 (I, L, rR ru dr sr rd rl, 65, x) = some (some (.int v), (I1, L1, rR ru1 dr1 sr1 rd rl, 65, x))) (hc1 : cInv I1 L1 ru1 dr1 R' S' f' g' p' a' n' t' l' u' kp' cl' si' cs')
    (hm1 : mInv I1 L1 rl T R S f g p a n t l u kp cl si rn rt → ∃ I2 L2 rd2, cal 90 mm A2 (I1, L1, rR ru1 dr1 sr1 rd rl, 65, x) = some (some (.int v), (I2, L2, rR ru1 dr1 sr1 rd2 rl, 65, x)) ∧ mInv I2 L2 rl T2 R' S' f' g' p' a' n' t' l' u' kp' cl' si' rn' rt') (hT2 : T2 ≤ T + 100) (hw : wInv R' S' f' g' p' a' (T + 100) u' kp') (hcs : (prs rt' rn').2 = some cs') : stO N xs k cm mm A1 A2 I L ru dr sr rd rl x := by
  obtain ⟨f1, f2, z1⟩ := fr1 e1 hA1 hz
  have h91 : nA N xs I1 := h9.cg (fun c hc => f1 c (by omega))
  obtain ⟨I2, L2, rd2, e2, hm2⟩ := hm1 (hm.cg (fun c hc _ => f1 c hc) (fun c hc _ => f2 c hc))
  obtain ⟨g1, g2, z2⟩ := fr2 e2 hA2 z1
  exact ⟨v, I1, L1, ru1, dr1, sr1, I2, L2, rd2, e1, h91, e2, h91.cg (fun c hc => g1 c (Or.inr hc)), by omega, z2, T + 100, R', S', f', g', p', a', n', t', l', u', kp', cl', si', cs', rn', rt', by omega, hc1.cg (fun c hc => g1 c (Or.inl hc)) (fun c hc => g2 c (Or.inl hc)), hm2.mr hT2, hw, hcs⟩
/-! what stays well formed -/
theorem wInv.mr {T' : Nat} (h : wInv R S f g p a T u kp) (hT : T ≤ T') (h2 : T' < 2 ^ 24) : wInv R S f g p a T' u kp := ⟨h.1, h.2.1.more hT h2, fun b hb => (h.2.2.1 b hb).more hT h2, fun i b hi hb => (h.2.2.2 i b hi hb).more hT h2⟩
theorem wInv_a {b : zP} (h : wInv R S f g p a T u kp) (hb : zWf p S T b) : wInv R S f g p b T u kp := ⟨h.1, hb, h.2.2.1, h.2.2.2⟩
theorem wInv.act {b : zP} (h : wInv R S f g p a T u kp) (hb : zWf p S T b) : wInv R S f g p b T ((a :: u).take 12) kp := ⟨h.1, hb, fun c hc => by
  rcases List.mem_cons.mp (List.mem_of_mem_take hc) with q | q
  · rw [q]; exact h.2.1
  · exact h.2.2.1 c q, h.2.2.2⟩
theorem wInv.z (h : zCt R S f g) (hT : T < 2 ^ 24) : wInv R S f g 0 (fun _ => 0) T [] (fun _ => none) := by
  have hS : 0 < S := by
    have h1 := (h.le R (Nat.le_refl _)).2
    rw [h.2.2.2.1] at h1
    have := h.1
    omega
  exact ⟨h, ⟨by decide, fun q _ => ⟨Nat.zero_le _, Nat.zero_le _, hS, Nat.two_pow_pos S, Nat.zero_le _, Nat.zero_le _⟩, fun q _ _ => ⟨rfl, rfl, rfl, rfl, rfl, rfl⟩, Or.inr ⟨rfl, rfl⟩, Nat.zero_le _, hT, fun q r _ _ _ => (show (0 : Nat) &&& 0 = 0 by decide)⟩, (fun b hb => by cases hb), (fun i b _ hb => by cases hb)⟩
theorem grun_dn {A : Nat → zP → aR} : ∀ M k (a : zP) dn, (grun A t n M k a dn).2.2 ≤ dn + M
  | 0, k, a, dn => Nat.le_refl _
  | M + 1, k, a, dn => by
    unfold grun
    by_cases z : k < n
    · rw [if_pos z]
      cases (A k a).2 with
      | none => show dn ≤ _; omega
      | some b =>
        have := grun_dn (A := A) M (k + 1 + (nd (t k)).getD 0) b (dn + 1)
        show (grun A t n M (k + 1 + (nd (t k)).getD 0) b (dn + 1)).2.2 ≤ _
        omega
    · rw [if_neg z]; show dn ≤ _; omega
theorem grn_wf (hc : zCt R S f g) (hT : T + 80 < 2 ^ 24) (hn : n ≤ 80) (hw : zWf p S T a) : zWf p S (T + 80) (grn R S f g cs p t n a).2.1 := by
  have h1 := (grun_wf (cs := cs) (t := t) hc hT hn n 0 a 0 (Nat.le_refl _) (Or.inl (Nat.zero_le _)) hw).1
  have h2 := grun_dn (A := gat R S f g cs p t n) (t := t) (n := n) n 0 a 0
  exact h1.more (by omega) hT

end
