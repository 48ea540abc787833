section
variable {I : Nat → Nat → Int32} {L : Nat → Nat → Int64} {ru dr : Nat} {sr : Nat → Option Nat} {rd : Option Nat} {rl x : Nat}

/-! reading a rule: where it stops, and the steps, if it can stand -/
abbrev zC : Type := List (Bool × Nat)
abbrev zR : Type := Nat × Option zC
def cu (t : Nat → Nat) (m k : Nat) : Nat := if k < m then t k else 256
def pLp (o1 o2 : Nat) (c : Nat → Nat) (F : Nat → zR) : Nat → Nat → zC → zR
  | 0, k, st => (k, some st)
  | n + 1, k, st => if c k = o1 ∨ c k = o2 then (match (F (k + 1)).2 with
    | none => ((F (k + 1)).1, none)
    | some s => pLp o1 o2 c F n (F (k + 1)).1 (st ++ s ++ [(false, c k)])) else (k, some st)
def pB (o1 o2 : Nat) (c : Nat → Nat) (m : Nat) (F : Nat → zR) (k : Nat) : zR := match (F k).2 with
  | none => ((F k).1, none)
  | some s => pLp o1 o2 c F (m - (F k).1) (F k).1 s
def pMn (c : Nat → Nat) : Nat → Nat → Bool → Nat × Bool
  | 0, k, b => (k, b)
  | n + 1, k, b => if c k = 45 then pMn c n (k + 1) (!b) else (k, b)
def pU (c : Nat → Nat) (m : Nat) (F : Nat → zR) (k : Nat) : zR := match (F (pMn c (m - k) k false).1).2 with
  | none => ((F (pMn c (m - k) k false).1).1, none)
  | some s => ((F (pMn c (m - k) k false).1).1, some (if (pMn c (m - k) k false).2 = true then s ++ [(false, 126)] else s))
def pNm (c : Nat → Nat) : Nat → Nat → Nat → Nat × Nat
  | 0, k, v => (k, v)
  | n + 1, k, v => if dgt (c k) = true then pNm c n (k + 1) (10 * v + (c k - 48)) else (k, v)
def pBr (c : Nat → Nat) (r : zR) : zR := match r.2 with
  | none => (r.1, none)
  | some s => if c r.1 = 41 then (r.1 + 1, some s) else (r.1, none)
def pT (c : Nat → Nat) (E : Option (Nat → zR)) (k : Nat) : zR := if dgt (c k) = true then ((pNm c 3 k 0).1, some [(true, (pNm c 3 k 0).2)]) else if c k = 40 then (match E with
    | none => (k, none)
    | some F => pBr c (F (k + 1))) else if isl (c k) = true then (k + 1, some [(false, c k)]) else (k, none)
def pX (c : Nat → Nat) (F : Nat → zR) (k : Nat) : zR := match (F k).2 with
  | none => ((F k).1, none)
  | some s => if c (F k).1 = 60 ∨ c (F k).1 = 62 ∨ c (F k).1 = 61 then (match (F ((F k).1 + 1)).2 with
    | none => ((F ((F k).1 + 1)).1, none)
    | some s2 => ((F ((F k).1 + 1)).1, some (s ++ s2 ++ [(false, c (F k).1)]))) else ((F k).1, some s)
def pL (c : Nat → Nat) (m : Nat) (E : Option (Nat → zR)) : Nat → zR := pB 43 45 c m (pB 42 47 c m (pU c m (pT c E)))
def pE (c : Nat → Nat) (m : Nat) : Nat → Nat → zR
  | 0 => pX c (pL c m none)
  | n + 1 => pX c (pL c m (some (pE c m n)))
def pO (c : Nat → Nat) (m n : Nat) : Option (Nat → zR) := if n = 0 then none else some (pE c m (n - 1))
theorem pE_eq (c : Nat → Nat) (m n : Nat) : pE c m n = pX c (pL c m (pO c m n)) := by
  cases n with
  | zero => rfl
  | succ n => rfl
def evl (w : Nat → Int32) (st : zC) : Int32 := hd0 (rn w st [])
def vP (st : zC) : Prop := ∀ w ks, rn w st ks = evl w st :: ks
theorem vP_n (n : Nat) : vP [(true, n)] := fun w ks => rfl
theorem evl_n (w : Nat → Int32) (n : Nat) : evl w [(true, n)] = nI n := rfl
theorem vP_l {c : Nat} (h : isl c = true) : vP [(false, c)] := fun w ks => by
  show (if isl c = true then w c :: ks else _) = hd0 (if isl c = true then [w c] else _) :: ks
  rw [if_pos h, if_pos h]
  rfl
theorem evl_l {c : Nat} (h : isl c = true) (w : Nat → Int32) : evl w [(false, c)] = w c := by
  show hd0 (if isl c = true then [w c] else _) = _
  rw [if_pos h]
  rfl
theorem rn_m {s : zC} (h : vP s) (w : Nat → Int32) (ks : List Int32) : rn w (s ++ [(false, 126)]) ks = -(evl w s) :: ks := by
  rw [rn_app, h w ks]
  rfl
theorem evl_m {s : zC} (h : vP s) (w : Nat → Int32) : evl w (s ++ [(false, 126)]) = -(evl w s) := by unfold evl; rw [rn_m h]; rfl
theorem vP_m {s : zC} (h : vP s) : vP (s ++ [(false, 126)]) := fun w ks => by rw [rn_m h, evl_m h]
theorem rn_j {s s2 : zC} {c : Nat} (h : vP s) (h2 : vP s2) (hc : isl c = false) (hc2 : c ≠ 126) (w : Nat → Int32) (ks : List Int32) : rn w (s ++ s2 ++ [(false, c)]) ks = jn c (evl w s) (evl w s2) :: ks := by
  rw [rn_app, rn_app, h w ks, h2 w]
  show (if isl c = true then _ else if c = 126 then _ else _) = _
  rw [if_neg (by rw [hc]; decide), if_neg hc2]
  rfl
theorem evl_j {s s2 : zC} {c : Nat} (h : vP s) (h2 : vP s2) (hc : isl c = false) (hc2 : c ≠ 126) (w : Nat → Int32) : evl w (s ++ s2 ++ [(false, c)]) = jn c (evl w s) (evl w s2) := by
  rw [show evl w (s ++ s2 ++ [(false, c)]) = hd0 (rn w (s ++ s2 ++ [(false, c)]) []) from rfl, rn_j h h2 hc hc2]
  rfl
theorem vP_j {s s2 : zC} {c : Nat} (h : vP s) (h2 : vP s2) (hc : isl c = false) (hc2 : c ≠ 126) : vP (s ++ s2 ++ [(false, c)]) := fun w ks => by rw [rn_j h h2 hc hc2, evl_j h h2 hc hc2]
/-- steps that come from l signs -/
def gS (l : Nat) (s : zC) : Prop := s.length ≤ l ∧ vP s ∧ ∀ e ∈ s, stk e
def Gd (m : Nat) (F : Nat → zR) : Prop := ∀ k, k ≤ m → k ≤ (F k).1 ∧ (F k).1 ≤ m ∧ ∀ s, (F k).2 = some s → k < (F k).1 ∧ gS ((F k).1 - k) s
theorem gS_j {s s2 : zC} {c l l2 l3 : Nat} (h : gS l s) (h2 : gS l2 s2) (hc : isl c = false) (hc2 : c ≠ 126) (h0 : 0 < c) (h1 : c < 128) (hl : l + l2 + 1 ≤ l3) : gS l3 (s ++ s2 ++ [(false, c)]) := by
  refine ⟨?_, vP_j h.2.1 h2.2.1 hc hc2, fun e he => ?_⟩
  · rw [List.length_append, List.length_append]
    have := h.1
    have := h2.1
    show _ + 1 ≤ _
    omega
  · rcases List.mem_append.mp he with q | q
    · rcases List.mem_append.mp q with r | r
      · exact h.2.2 e r
      · exact h2.2.2 e r
    · rw [List.mem_singleton.mp q]; exact ⟨h0, h1⟩
theorem gS_m {s : zC} {l l2 : Nat} (h : gS l s) (hl : l + 1 ≤ l2) : gS l2 (s ++ [(false, 126)]) := by
  refine ⟨?_, vP_m h.2.1, fun e he => ?_⟩
  · rw [List.length_append]
    have := h.1
    show _ + 1 ≤ _
    omega
  · rcases List.mem_append.mp he with q | q
    · exact h.2.2 e q
    · rw [List.mem_singleton.mp q]; exact ⟨by decide, by decide⟩
theorem gS_le {s : zC} {l l2 : Nat} (h : gS l s) (hl : l ≤ l2) : gS l2 s := ⟨Nat.le_trans h.1 hl, h.2⟩
theorem cu_m {t : Nat → Nat} {m k : Nat} (h : m ≤ k) : cu t m k = 256 := if_neg (by omega)
theorem cu_lt {t : Nat → Nat} {m k j : Nat} (h : cu t m k = j) (hj : j < 256) : k < m := by
  unfold cu at h
  by_cases z : k < m
  · exact z
  · rw [if_neg z] at h; omega
theorem dgt_lt {t : Nat → Nat} {m k : Nat} (h : dgt (cu t m k) = true) : k < m := by
  have := of_decide_eq_true h
  exact cu_lt (t := t) rfl (by omega)
theorem isl_lt {t : Nat → Nat} {m k : Nat} (h : isl (cu t m k) = true) : k < m := by
  have := of_decide_eq_true h
  exact cu_lt (t := t) rfl (by omega)
def opr (o : Nat) : Prop := isl o = false ∧ o ≠ 126 ∧ 0 < o ∧ o < 128
theorem pLp_g {t : Nat → Nat} {m o1 o2 k0 : Nat} {F : Nat → zR} (h1 : opr o1) (h2 : opr o2) (hF : Gd m F) : ∀ n k (s : zC), k ≤ m → k0 < k → gS (k - k0) s → k ≤ (pLp o1 o2 (cu t m) F n k s).1 ∧ (pLp o1 o2 (cu t m) F n k s).1 ≤ m ∧ ∀ s', (pLp o1 o2 (cu t m) F n k s).2 = some s' → gS ((pLp o1 o2 (cu t m) F n k s).1 - k0) s'
  | 0, k, s, hk, h0, hs => ⟨Nat.le_refl _, hk, fun s' e => by cases e; exact hs⟩
  | n + 1, k, s, hk, h0, hs => by
    unfold pLp
    by_cases z : cu t m k = o1 ∨ cu t m k = o2
    · rw [if_pos z]
      have hkm : k < m := by
        have := h1.2.2.2
        have := h2.2.2.2
        exact cu_lt (t := t) rfl (by omega)
      obtain ⟨g1, g2, g3⟩ := hF (k + 1) (by omega)
      cases y : (F (k + 1)).2 with
      | none => exact ⟨by show k ≤ (F (k + 1)).1; omega, g2, fun s' e => by cases e⟩
      | some s2 =>
        obtain ⟨g4, g5⟩ := g3 s2 y
        have hop : opr (cu t m k) := by rcases z with z | z <;> rw [z] <;> assumption
        obtain ⟨i1, i2, i3⟩ := pLp_g (t := t) (k0 := k0) h1 h2 hF n (F (k + 1)).1 (s ++ s2 ++ [(false, cu t m k)]) g2 (by omega) (gS_j hs g5 hop.1 hop.2.1 hop.2.2.1 hop.2.2.2 (by omega))
        exact ⟨by show k ≤ (pLp _ _ _ _ _ _ _).1; omega, i2, i3⟩
    · rw [if_neg z]
      exact ⟨Nat.le_refl _, hk, fun s' e => by cases e; exact hs⟩
theorem pB_g {t : Nat → Nat} {m o1 o2 : Nat} {F : Nat → zR} (h1 : opr o1) (h2 : opr o2) (hF : Gd m F) : Gd m (pB o1 o2 (cu t m) m F) := by
  intro k hk
  obtain ⟨g1, g2, g3⟩ := hF k hk
  unfold pB
  cases y : (F k).2 with
  | none => exact ⟨g1, g2, fun s e => by cases e⟩
  | some s =>
    obtain ⟨g4, g5⟩ := g3 s y
    obtain ⟨i1, i2, i3⟩ := pLp_g (t := t) (k0 := k) h1 h2 hF (m - (F k).1) (F k).1 s g2 g4 g5
    exact ⟨by show k ≤ (pLp _ _ _ _ _ _ _).1; omega, i2, fun s' e => ⟨by show k < (pLp _ _ _ _ _ _ _).1; omega, i3 s' e⟩⟩
theorem pMn_g {t : Nat → Nat} {m : Nat} : ∀ n k b, k ≤ m → k ≤ (pMn (cu t m) n k b).1 ∧ (pMn (cu t m) n k b).1 ≤ m ∧ ((pMn (cu t m) n k b).2 ≠ b → k < (pMn (cu t m) n k b).1)
  | 0, k, b, h => ⟨Nat.le_refl _, h, fun q => absurd rfl q⟩
  | n + 1, k, b, h => by
    unfold pMn
    by_cases z : cu t m k = 45
    · rw [if_pos z]
      have := cu_lt z (by decide)
      obtain ⟨i1, i2, -⟩ := pMn_g (t := t) (m := m) n (k + 1) (!b) (by omega)
      exact ⟨by omega, i2, fun _ => by omega⟩
    · rw [if_neg z]; exact ⟨Nat.le_refl _, h, fun q => absurd rfl q⟩
theorem pU_g {t : Nat → Nat} {m : Nat} {F : Nat → zR} (hF : Gd m F) : Gd m (pU (cu t m) m F) := by
  intro k hk
  obtain ⟨i1, i2, i3⟩ := pMn_g (t := t) (m - k) k false hk
  obtain ⟨g1, g2, g3⟩ := hF _ i2
  unfold pU
  cases y : (F (pMn (cu t m) (m - k) k false).1).2 with
  | none => exact ⟨Nat.le_trans i1 g1, g2, fun s e => by cases e⟩
  | some s =>
    obtain ⟨g4, g5⟩ := g3 s y
    refine ⟨Nat.le_trans i1 g1, g2, fun s' e => ⟨Nat.lt_of_le_of_lt i1 g4, ?_⟩⟩
    cases e
    dsimp only
    by_cases z : (pMn (cu t m) (m - k) k false).2 = true
    · rw [if_pos z]
      have := i3 (by rw [z]; decide)
      exact gS_m g5 (by omega)
    · rw [if_neg z]; exact gS_le g5 (by omega)
theorem pNm_g {t : Nat → Nat} {m : Nat} : ∀ n k v, k ≤ m → k ≤ (pNm (cu t m) n k v).1 ∧ (pNm (cu t m) n k v).1 ≤ m ∧ (pNm (cu t m) n k v).2 < (v + 1) * 10 ^ n
  | 0, k, v, h => ⟨Nat.le_refl _, h, by show v < _; omega⟩
  | n + 1, k, v, h => by
    unfold pNm
    by_cases z : dgt (cu t m k) = true
    · rw [if_pos z]
      have := dgt_lt z
      have h2 := of_decide_eq_true z
      obtain ⟨i1, i2, i3⟩ := pNm_g (t := t) (m := m) n (k + 1) (10 * v + (cu t m k - 48)) (by omega)
      refine ⟨by omega, i2, Nat.lt_of_lt_of_le i3 ?_⟩
      rw [Nat.pow_succ, Nat.mul_comm (10 ^ n) 10, ← Nat.mul_assoc]
      exact Nat.mul_le_mul_right _ (by omega)
    · rw [if_neg z]
      refine ⟨Nat.le_refl _, h, ?_⟩
      have := Nat.pow_pos (n := n + 1) (show 0 < 10 by decide)
      exact Nat.lt_of_lt_of_le (Nat.lt_succ_self v) (Nat.le_mul_of_pos_right _ this)
theorem pNm_d {t : Nat → Nat} {m n k v : Nat} (hk : k ≤ m) (h : dgt (cu t m k) = true) : k < (pNm (cu t m) (n + 1) k v).1 := by
  unfold pNm
  rw [if_pos h]
  have := dgt_lt h
  have := (pNm_g (t := t) n (k + 1) (10 * v + (cu t m k - 48)) (show k + 1 ≤ m by omega)).1
  omega
theorem pT_g {t : Nat → Nat} {m : Nat} {E : Option (Nat → zR)} (hE : ∀ F, E = some F → Gd m F) : Gd m (pT (cu t m) E) := by
  intro k hk
  unfold pT
  by_cases z : dgt (cu t m k) = true
  · rw [if_pos z]
    obtain ⟨i1, i2, i3⟩ := pNm_g (t := t) 3 k 0 hk
    have i4 : k < (pNm (cu t m) 3 k 0).1 := pNm_d (n := 2) (v := 0) hk z
    refine ⟨i1, i2, fun s e => ⟨i4, ?_⟩⟩
    cases e
    refine ⟨by show 1 ≤ (pNm (cu t m) 3 k 0).1 - k; omega, vP_n _, fun e he => ?_⟩
    rw [List.mem_singleton.mp he]
    exact i3
  · rw [if_neg z]
    by_cases y : cu t m k = 40
    · rw [if_pos y]
      have hkm := cu_lt y (by decide)
      cases E with
      | none => exact ⟨Nat.le_refl _, hk, fun s e => by cases e⟩
      | some F =>
        obtain ⟨g1, g2, g3⟩ := hE F rfl (k + 1) (by omega)
        show k ≤ (pBr (cu t m) (F (k + 1))).1 ∧ (pBr (cu t m) (F (k + 1))).1 ≤ m ∧ ∀ s, (pBr (cu t m) (F (k + 1))).2 = some s → k < (pBr (cu t m) (F (k + 1))).1 ∧ gS ((pBr (cu t m) (F (k + 1))).1 - k) s
        unfold pBr
        cases w : (F (k + 1)).2 with
        | none => exact ⟨by show k ≤ (F (k + 1)).1; omega, g2, fun s e => by cases e⟩
        | some s =>
          obtain ⟨g4, g5⟩ := g3 s w
          show k ≤ (if cu t m (F (k + 1)).1 = 41 then ((F (k + 1)).1 + 1, some s) else ((F (k + 1)).1, none)).1 ∧ (if cu t m (F (k + 1)).1 = 41 then ((F (k + 1)).1 + 1, some s) else ((F (k + 1)).1, none)).1 ≤ m ∧ ∀ s', (if cu t m (F (k + 1)).1 = 41 then ((F (k + 1)).1 + 1, some s) else ((F (k + 1)).1, none)).2 = some s' → k < (if cu t m (F (k + 1)).1 = 41 then ((F (k + 1)).1 + 1, some s) else ((F (k + 1)).1, none)).1 ∧ gS ((if cu t m (F (k + 1)).1 = 41 then ((F (k + 1)).1 + 1, some s) else ((F (k + 1)).1, none)).1 - k) s'
          by_cases v : cu t m (F (k + 1)).1 = 41
          · rw [if_pos v]
            have := cu_lt v (by decide)
            exact ⟨by show k ≤ (F (k + 1)).1 + 1; omega, by show (F (k + 1)).1 + 1 ≤ m; omega, fun s' e => by cases e; exact ⟨by show k < (F (k + 1)).1 + 1; omega, gS_le g5 (by show _ ≤ (F (k + 1)).1 + 1 - k; omega)⟩⟩
          · rw [if_neg v]
            exact ⟨by show k ≤ (F (k + 1)).1; omega, g2, fun s' e => by cases e⟩
    · rw [if_neg y]
      by_cases w : isl (cu t m k) = true
      · rw [if_pos w]
        have := isl_lt w
        refine ⟨by show k ≤ k + 1; omega, by show k + 1 ≤ m; omega, fun s e => ⟨by show k < k + 1; omega, ?_⟩⟩
        cases e
        refine ⟨by show 1 ≤ k + 1 - k; omega, vP_l w, fun e he => ?_⟩
        rw [List.mem_singleton.mp he]
        have := of_decide_eq_true w
        show 0 < cu t m k ∧ cu t m k < 128
        omega
      · rw [if_neg w]
        exact ⟨Nat.le_refl _, hk, fun s e => by cases e⟩
theorem pX_g {t : Nat → Nat} {m : Nat} {F : Nat → zR} (hF : Gd m F) : Gd m (pX (cu t m) F) := by
  intro k hk
  obtain ⟨g1, g2, g3⟩ := hF k hk
  unfold pX
  cases y : (F k).2 with
  | none => exact ⟨g1, g2, fun s e => by cases e⟩
  | some s =>
    obtain ⟨g4, g5⟩ := g3 s y
    dsimp only
    by_cases z : cu t m (F k).1 = 60 ∨ cu t m (F k).1 = 62 ∨ cu t m (F k).1 = 61
    · rw [if_pos z]
      have hkm : (F k).1 < m := cu_lt (t := t) rfl (by omega)
      obtain ⟨j1, j2, j3⟩ := hF ((F k).1 + 1) (by omega)
      cases w : (F ((F k).1 + 1)).2 with
      | none => exact ⟨by show k ≤ (F ((F k).1 + 1)).1; omega, j2, fun s e => by cases e⟩
      | some s2 =>
        obtain ⟨j4, j5⟩ := j3 s2 w
        refine ⟨by show k ≤ (F ((F k).1 + 1)).1; omega, j2, fun s' e => ?_⟩
        cases e
        have hop : opr (cu t m (F k).1) := by rcases z with z | z | z <;> rw [z] <;> exact ⟨by decide, by decide, by decide, by decide⟩
        exact ⟨by show k < (F ((F k).1 + 1)).1; omega, gS_j g5 j5 hop.1 hop.2.1 hop.2.2.1 hop.2.2.2 (by show _ ≤ (F ((F k).1 + 1)).1 - k; omega)⟩
    · rw [if_neg z]
      exact ⟨g1, g2, fun s' e => by cases e; exact ⟨g4, g5⟩⟩
theorem pL_g {t : Nat → Nat} {m : Nat} {E : Option (Nat → zR)} (hE : ∀ F, E = some F → Gd m F) : Gd m (pL (cu t m) m E) := pB_g ⟨by decide, by decide, by decide, by decide⟩ ⟨by decide, by decide, by decide, by decide⟩ (pB_g ⟨by decide, by decide, by decide, by decide⟩ ⟨by decide, by decide, by decide, by decide⟩ (pU_g (pT_g hE)))
theorem pE_g {t : Nat → Nat} {m : Nat} : ∀ n, Gd m (pE (cu t m) m n)
  | 0 => pX_g (pL_g fun F e => by cases e)
  | n + 1 => pX_g (pL_g fun F e => by cases e; exact pE_g n)
theorem pO_g {t : Nat → Nat} {m : Nat} (n : Nat) : ∀ F, pO (cu t m) m n = some F → Gd m F := fun F e => by
  unfold pO at e
  split at e
  · cases e
  · cases e; exact pE_g _
/-- the rule that a text tells: where it is wrong, or its steps -/
def usu : zC := [(false, 110), (false, 97), (false, 62)]
def prs (t : Nat → Nat) (n : Nat) : zR := if n = 0 then (0, some usu) else if (pE (cu t (min n 40)) (min n 40) 4 0).1 = n then pE (cu t (min n 40)) (min n 40) 4 0 else ((pE (cu t (min n 40)) (min n 40) 4 0).1, none)

end
