section
variable {I : Nat → Nat → Int32} {L : Nat → Nat → Int64} {ru dr : Nat} {sr : Nat → Option Nat} {rd : Option Nat} {rl x : Nat}
variable {d R S p n T rn k N : Nat} {f g rt : Nat → Nat} {a : zP} {t : Nat → Nat} {l : List Int64} {u : List zP} {kp : Nat → Option zP} {cl : List (Nat × Nat)} {si : List (Nat × Int32)} {cs : zC} {xs : Nat → Int32}
/-! every call of both -/
theorem q0 {v : Int32} (h : gSt N xs k I L ru dr sr rd rl x) (hk : k < 600) : stO N xs k 107 185 [.ref 1, .int v] [.ref 36, .int v] I L ru dr sr rd rl x := by
  obtain ⟨h9, hx, hz, T, R, S, f, g, p, a, n, t, l, u, kp, cl, si, cs, rn, rt, hTk, hc, hm, hw, hcs⟩ := h
  have hT1 : T + 100 < 2 ^ 24 := by omega
  have hwT := hw.mr (Nat.le_add_right T 100) hT1
  by_cases hq : n ≤ 76
  · obtain ⟨I1, e1, c1⟩ := o107t (d := 90) (L := L) (ru := ru) (dr := dr) (sr := sr) (rd := rd) (rl := rl) (x := x) hc hw hq
    exact comb (T2 := T) h9 hx hz hTk hm ⟨(show 1 < 36 by decide), trivial⟩ ⟨⟨(show 36 ≤ 36 by decide), (show 36 < 64 by decide)⟩, trivial⟩ e1 c1 (fun hm1 => by
        obtain ⟨I2, e2, h2⟩ := n185t (d := 90) hm1 hw hq
        exact ⟨I2, _, _, e2, h2⟩) (Nat.le_add_right T 100) hwT hcs
  · have e1 := o107f (d := 90) (L := L) (ru := ru) (dr := dr) (sr := sr) (rd := rd) (rl := rl) (x := x) (v := v) hc hw (by omega)
    exact comb (T2 := T) h9 hx hz hTk hm ⟨(show 1 < 36 by decide), trivial⟩ ⟨⟨(show 36 ≤ 36 by decide), (show 36 < 64 by decide)⟩, trivial⟩ e1 hc (fun hm1 => by
        obtain ⟨I2, e2, h2⟩ := n185f (d := 90) hm1 hw (by omega)
        exact ⟨I2, _, _, e2, h2⟩) (Nat.le_add_right T 100) hwT hcs
theorem q1 {v : Int32} (h : gSt N xs k I L ru dr sr rd rl x) (hk : k < 600) : stO N xs k 108 186 [.ref 1, .int v] [.ref 36, .int v] I L ru dr sr rd rl x := by
  obtain ⟨h9, hx, hz, T, R, S, f, g, p, a, n, t, l, u, kp, cl, si, cs, rn, rt, hTk, hc, hm, hw, hcs⟩ := h
  have hT1 : T + 100 < 2 ^ 24 := by omega
  have hwT := hw.mr (Nat.le_add_right T 100) hT1
  by_cases hq : ∃ j, j ≤ n ∧ v = nI j
  · obtain ⟨j, hj, rfl⟩ := hq
    obtain ⟨I1, e1, c1⟩ := o108t (d := 90) (L := L) (ru := ru) (dr := dr) (sr := sr) (rd := rd) (rl := rl) (x := x) hc hw hj
    exact comb (T2 := T) h9 hx hz hTk hm ⟨(show 1 < 36 by decide), trivial⟩ ⟨⟨(show 36 ≤ 36 by decide), (show 36 < 64 by decide)⟩, trivial⟩ e1 c1 (fun hm1 => by
        obtain ⟨I2, e2, h2⟩ := n186t (d := 90) hm1 hw hj
        exact ⟨I2, _, _, e2, h2⟩) (Nat.le_add_right T 100) hwT hcs
  · have hv : ∀ j, j ≤ n → v ≠ nI j := fun j hj e => hq ⟨j, hj, e⟩
    have e1 := o108f (d := 90) (L := L) (ru := ru) (dr := dr) (sr := sr) (rd := rd) (rl := rl) (x := x) hc hw hv
    exact comb (T2 := T) h9 hx hz hTk hm ⟨(show 1 < 36 by decide), trivial⟩ ⟨⟨(show 36 ≤ 36 by decide), (show 36 < 64 by decide)⟩, trivial⟩ e1 hc (fun hm1 => by
        obtain ⟨I2, e2, h2⟩ := n186f (d := 90) hm1 hw hv
        exact ⟨I2, _, _, e2, h2⟩) (Nat.le_add_right T 100) hwT hcs
theorem q2 (h : gSt N xs k I L ru dr sr rd rl x) (hk : k < 600) : stO N xs k 109 198 [.ref 1] [.ref 36] I L ru dr sr rd rl x := by
  obtain ⟨h9, hx, hz, T, R, S, f, g, p, a, n, t, l, u, kp, cl, si, cs, rn, rt, hTk, hc, hm, hw, hcs⟩ := h
  have hT1 : T + 100 < 2 ^ 24 := by omega
  have hwT := hw.mr (Nat.le_add_right T 100) hT1
  cases hg : cwr t n with
  | some e =>
    obtain ⟨I1, e1, c1⟩ := o109f (d := 90) (L := L) (ru := ru) (dr := dr) (sr := sr) (rd := rd) (rl := rl) (x := x) hc hw hg
    exact comb (T2 := T) h9 hx hz hTk hm ⟨(show 1 < 36 by decide), trivial⟩ ⟨⟨(show 36 ≤ 36 by decide), (show 36 < 64 by decide)⟩, trivial⟩ e1 c1 (fun hm1 => by
        obtain ⟨I2, rd2, e2, h2⟩ := n198f (d := 90) hm1 hw hg
        exact ⟨I2, _, rd2, e2, h2⟩) (Nat.le_add_right T 100) hwT hcs
  | none =>
    have hc3 := cwr_none hg
    obtain ⟨I1, e1, c1⟩ := o109t (d := 90) (L := L) (ru := ru) (dr := dr) (sr := sr) (rd := rd) (rl := rl) (x := x) hc hw hg
    exact comb (T2 := T) h9 hx hz hTk hm ⟨(show 1 < 36 by decide), trivial⟩ ⟨⟨(show 36 ≤ 36 by decide), (show 36 < 64 by decide)⟩, trivial⟩ e1 c1 (fun hm1 => by
        obtain ⟨I2, rd2, e2, h2⟩ := n198t (d := 90) hm1 hw hg
        exact ⟨I2, _, rd2, e2, h2⟩) (Nat.le_add_right T 100) (wInv.z (cct hc3.1 hc3.2.1 hc3.2.2) hT1) hcs
theorem q3 (h : gSt N xs k I L ru dr sr rd rl x) (hk : k < 600) : stO N xs k 110 199 [.ref 1] [.ref 36] I L ru dr sr rd rl x := by
  obtain ⟨h9, hx, hz, T, R, S, f, g, p, a, n, t, l, u, kp, cl, si, cs, rn, rt, hTk, hc, hm, hw, hcs⟩ := h
  have hT1 : T + 100 < 2 ^ 24 := by omega
  have hwT := hw.mr (Nat.le_add_right T 100) hT1
  cases hg : pwr t n p with
  | some e =>
    obtain ⟨I1, e1, c1⟩ := o110f (d := 90) (L := L) (ru := ru) (dr := dr) (sr := sr) (rd := rd) (rl := rl) (x := x) hc hw hg
    exact comb (T2 := T) h9 hx hz hTk hm ⟨(show 1 < 36 by decide), trivial⟩ ⟨⟨(show 36 ≤ 36 by decide), (show 36 < 64 by decide)⟩, trivial⟩ e1 c1 (fun hm1 => by
        obtain ⟨I2, rd2, e2, h2⟩ := n199f (d := 90) hm1 hw hg
        exact ⟨I2, _, rd2, e2, h2⟩) (Nat.le_add_right T 100) hwT hcs
  | none =>
    by_cases hn : n = 0
    · obtain ⟨I1, e1, c1⟩ := o110z (d := 90) (L := L) (ru := ru) (dr := dr) (sr := sr) (rd := rd) (rl := rl) (x := x) hc hw hg hn
      exact comb (T2 := T) h9 hx hz hTk hm ⟨(show 1 < 36 by decide), trivial⟩ ⟨⟨(show 36 ≤ 36 by decide), (show 36 < 64 by decide)⟩, trivial⟩ e1 c1 (fun hm1 => by
          obtain ⟨I2, rd2, e2, h2⟩ := n199z (d := 90) hm1 hw hn
          exact ⟨I2, _, rd2, e2, h2⟩) (Nat.le_add_right T 100) hwT hcs
    · have hn0 : 0 < n := Nat.pos_of_ne_zero hn
      obtain ⟨n11, n3, hall, hpn⟩ := pwr_none hg hn0
      have hpl := pla_wf (N := (n + 1) / 3) hw.2.1 hall (by omega) hpn ((n + 1) / 3) (Nat.le_refl _)
      have hw2 : wInv R S f g (p + (n + 1) / 3) (pla t p a ((n + 1) / 3)) (T + 100) [] (fun _ => none) := ⟨hw.1, hpl.more (Nat.le_add_right T 100) hT1, (fun b hb => by cases hb), (fun i b _ hb => by cases hb)⟩
      obtain ⟨I1, e1, c1⟩ := o110t (d := 90) (L := L) (ru := ru) (dr := dr) (sr := sr) (rd := rd) (rl := rl) (x := x) hc hw hg hn0
      exact comb (T2 := T + 1) h9 hx hz hTk hm ⟨(show 1 < 36 by decide), trivial⟩ ⟨⟨(show 36 ≤ 36 by decide), (show 36 < 64 by decide)⟩, trivial⟩ e1 c1 (fun hm1 => by
          obtain ⟨I2, rd2, e2, h2⟩ := n199t (d := 90) hm1 hw hg hn0
          exact ⟨I2, _, rd2, e2, h2⟩) (by omega) hw2 hcs
theorem q4 (h : gSt N xs k I L ru dr sr rd rl x) (hk : k < 600) : stO N xs k 111 206 [.ref 1] [.ref 36] I L ru dr sr rd rl x := by
  obtain ⟨h9, hx, hz, T, R, S, f, g, p, a, n, t, l, u, kp, cl, si, cs, rn, rt, hTk, hc, hm, hw, hcs⟩ := h
  have hT1 : T + 100 < 2 ^ 24 := by omega
  have hwT := hw.mr (Nat.le_add_right T 100) hT1
  have he := prs_le t n
  cases hg : prs t n with
  | mk e q => cases q with
    | none =>
      have he2 : e < 1000 := by
        rw [hg] at he
        have : e ≤ min n 40 := he
        omega
      obtain ⟨I1, e1, c1⟩ := o111f (d := 90) (L := L) (ru := ru) (dr := dr) (sr := sr) (rd := rd) (rl := rl) (x := x) hc hw (by decide) hg he2
      exact comb (T2 := T) h9 hx hz hTk hm ⟨(show 1 < 36 by decide), trivial⟩ ⟨⟨(show 36 ≤ 36 by decide), (show 36 < 64 by decide)⟩, trivial⟩ e1 c1 (fun hm1 => by
          obtain ⟨I2, rd2, e2, h2⟩ := n206f (d := 90) hm1 hw (by decide) hg
          exact ⟨I2, _, rd2, e2, h2⟩) (Nat.le_add_right T 100) hwT hcs
    | some c2 =>
      obtain ⟨I1, e1, c1⟩ := o111t (d := 90) (L := L) (ru := ru) (dr := dr) (sr := sr) (rd := rd) (rl := rl) (x := x) hc hw (by decide) hg
      exact comb (T2 := T) h9 hx hz hTk hm ⟨(show 1 < 36 by decide), trivial⟩ ⟨⟨(show 36 ≤ 36 by decide), (show 36 < 64 by decide)⟩, trivial⟩ e1 c1 (fun hm1 => by
          obtain ⟨I2, rd2, e2, h2⟩ := n206t (d := 90) hm1 hw (by decide) hg
          exact ⟨I2, _, rd2, e2, h2⟩) (Nat.le_add_right T 100) hwT (by rw [hg])
theorem q7 {v w y z : Int32} (h : gSt N xs k I L ru dr sr rd rl x) (hk : k < 600) : stO N xs k 114 214 [.ref 1, .int v, .int w, .int y, .int z] [.ref 36, .int v, .int w, .int y, .int z] I L ru dr sr rd rl x := by
  obtain ⟨h9, hx, hz, T, R, S, f, g, p, a, n, t, l, u, kp, cl, si, cs, rn, rt, hTk, hc, hm, hw, hcs⟩ := h
  have hT1 : T + 100 < 2 ^ 24 := by omega
  have hwT := hw.mr (Nat.le_add_right T 100) hT1
  obtain ⟨I1, e1, c1⟩ := o114 (d := 90) (L := L) (ru := ru) (dr := dr) (sr := sr) (rd := rd) (rl := rl) (x := x) hc hw
  exact comb (T2 := T) h9 hx hz hTk hm ⟨(show 1 < 36 by decide), trivial⟩ ⟨⟨(show 36 ≤ 36 by decide), (show 36 < 64 by decide)⟩, trivial⟩ e1 c1 (fun hm1 => by
      obtain ⟨I2, e2, h2⟩ := n214 (d := 90) hm1 hw
      exact ⟨I2, _, _, e2, h2⟩) (Nat.le_add_right T 100) (wInv_a hwT (shA_wf hwT.2.1)) hcs
theorem q8 (h : gSt N xs k I L ru dr sr rd rl x) (hk : k < 600) : stO N xs k 115 226 [.ref 1] [.ref 36] I L ru dr sr rd rl x := by
  obtain ⟨h9, hx, hz, T, R, S, f, g, p, a, n, t, l, u, kp, cl, si, cs, rn, rt, hTk, hc, hm, hw, hcs⟩ := h
  have hT1 : T + 100 < 2 ^ 24 := by omega
  have hwT := hw.mr (Nat.le_add_right T 100) hT1
  by_cases hp : p = 0
  · subst hp
    have e1 := o115f (d := 90) (L := L) (ru := ru) (dr := dr) (sr := sr) (rd := rd) (rl := rl) (x := x) hc
    exact comb (T2 := T) h9 hx hz hTk hm ⟨(show 1 < 36 by decide), trivial⟩ ⟨⟨(show 36 ≤ 36 by decide), (show 36 < 64 by decide)⟩, trivial⟩ e1 hc (fun hm1 => by
        obtain ⟨I2, e2, h2⟩ := n226f (d := 90) hm1 hw rfl
        exact ⟨I2, _, _, e2, h2⟩) (Nat.le_add_right T 100) hwT hcs
  · obtain ⟨I1, L1, e1, c1⟩ := o115t (d := 90) (L := L) (ru := ru) (dr := dr) (sr := sr) (rd := rd) (rl := rl) (x := x) hc hw (by omega) (by omega)
    exact comb (T2 := T) h9 hx hz hTk hm ⟨(show 1 < 36 by decide), trivial⟩ ⟨⟨(show 36 ≤ 36 by decide), (show 36 < 64 by decide)⟩, trivial⟩ e1 c1 (fun hm1 => by
        obtain ⟨I2, L2, rd2, e2, h2⟩ := n226t (d := 90) hm1 hw (by decide) hcs (by omega) (by omega)
        exact ⟨I2, L2, rd2, e2, h2⟩) (Nat.le_add_right T 100) (hwT.act ((thr_wf hw.1 hw.2.1 (by omega) (by omega) cs).more (by omega) hT1)) hcs
theorem q9 {v : Int32} (h : gSt N xs k I L ru dr sr rd rl x) (hk : k < 600) : stO N xs k 116 227 [.ref 1, .int v] [.ref 36, .int v] I L ru dr sr rd rl x := by
  obtain ⟨h9, hx, hz, T, R, S, f, g, p, a, n, t, l, u, kp, cl, si, cs, rn, rt, hTk, hc, hm, hw, hcs⟩ := h
  have hT1 : T + 100 < 2 ^ 24 := by omega
  have hwT := hw.mr (Nat.le_add_right T 100) hT1
  by_cases hp : inl 1 60 v = none ∨ p = 0
  · have e1 := o116f (d := 90) (L := L) (ru := ru) (dr := dr) (sr := sr) (rd := rd) (rl := rl) (x := x) hc hw hp
    exact comb (T2 := T) h9 hx hz hTk hm ⟨(show 1 < 36 by decide), trivial⟩ ⟨⟨(show 36 ≤ 36 by decide), (show 36 < 64 by decide)⟩, trivial⟩ e1 hc (fun hm1 => by
        obtain ⟨I2, e2, h2⟩ := n227f (d := 90) hm1 hw hp
        exact ⟨I2, _, _, e2, h2⟩) (Nat.le_add_right T 100) hwT hcs
  · have hp0 : 0 < p := Nat.pos_of_ne_zero fun e => hp (Or.inr e)
    cases hv : inl 1 60 v with
    | none => exact absurd (Or.inl hv) hp
    | some j =>
      have hj := (inl_s (by decide) (by decide) hv).2.1
      obtain ⟨I1, L1, e1, c1⟩ := o116t (d := 90) (L := L) (ru := ru) (dr := dr) (sr := sr) (rd := rd) (rl := rl) (x := x) hc hw hv hp0 (by omega)
      exact comb (T2 := T) h9 hx hz hTk hm ⟨(show 1 < 36 by decide), trivial⟩ ⟨⟨(show 36 ≤ 36 by decide), (show 36 < 64 by decide)⟩, trivial⟩ e1 c1 (fun hm1 => by
          obtain ⟨I2, L2, rd2, e2, h2⟩ := n227t (d := 90) hm1 hw (by decide) hcs hv hp0 hT1
          exact ⟨I2, L2, rd2, e2, h2⟩) (Nat.le_add_right T 100) (hwT.act ((tn_wf hw.1 hp0 cs j T a hw.2.1 (by omega)).more (by omega) hT1)) hcs
theorem q10 (h : gSt N xs k I L ru dr sr rd rl x) (hk : k < 600) : stO N xs k 117 228 [.ref 1] [.ref 36] I L ru dr sr rd rl x := by
  obtain ⟨h9, hx, hz, T, R, S, f, g, p, a, n, t, l, u, kp, cl, si, cs, rn, rt, hTk, hc, hm, hw, hcs⟩ := h
  have hT1 : T + 100 < 2 ^ 24 := by omega
  have hwT := hw.mr (Nat.le_add_right T 100) hT1
  cases hr : (paA p a).2 with
  | none =>
    obtain ⟨I1, e1, c1⟩ := o117f (d := 90) (L := L) (ru := ru) (dr := dr) (sr := sr) (rd := rd) (rl := rl) (x := x) hc hw hr
    exact comb (T2 := T) h9 hx hz hTk hm ⟨(show 1 < 36 by decide), trivial⟩ ⟨⟨(show 36 ≤ 36 by decide), (show 36 < 64 by decide)⟩, trivial⟩ e1 c1 (fun hm1 => by
        obtain ⟨I2, e2, h2⟩ := n228f (d := 90) hm1 hw hr
        exact ⟨I2, _, _, e2, h2⟩) (Nat.le_add_right T 100) hwT hcs
  | some b =>
    have hb := ((paA_ok hwT.1 hwT.2.1).2 b hr).2
    obtain ⟨I1, e1, c1⟩ := o117t (d := 90) (L := L) (ru := ru) (dr := dr) (sr := sr) (rd := rd) (rl := rl) (x := x) hc hw hr
    exact comb (T2 := T) h9 hx hz hTk hm ⟨(show 1 < 36 by decide), trivial⟩ ⟨⟨(show 36 ≤ 36 by decide), (show 36 < 64 by decide)⟩, trivial⟩ e1 c1 (fun hm1 => by
        obtain ⟨I2, e2, h2⟩ := n228t (d := 90) hm1 hw hr
        exact ⟨I2, _, _, e2, h2⟩) (Nat.le_add_right T 100) (hwT.act hb) hcs
theorem q11 {v w : Int32} (h : gSt N xs k I L ru dr sr rd rl x) (hk : k < 600) : stO N xs k 118 231 [.ref 1, .int v, .int w] [.ref 36, .int v, .int w] I L ru dr sr rd rl x := by
  obtain ⟨h9, hx, hz, T, R, S, f, g, p, a, n, t, l, u, kp, cl, si, cs, rn, rt, hTk, hc, hm, hw, hcs⟩ := h
  have hT1 : T + 100 < 2 ^ 24 := by omega
  have hwT := hw.mr (Nat.le_add_right T 100) hT1
  cases hr : (tkA S p a v w).2 with
  | none =>
    obtain ⟨I1, e1, c1⟩ := o118f (d := 90) (L := L) (ru := ru) (dr := dr) (sr := sr) (rd := rd) (rl := rl) (x := x) hc hw hr
    exact comb (T2 := T) h9 hx hz hTk hm ⟨(show 1 < 36 by decide), trivial⟩ ⟨⟨(show 36 ≤ 36 by decide), (show 36 < 64 by decide)⟩, trivial⟩ e1 c1 (fun hm1 => by
        obtain ⟨I2, e2, h2⟩ := n231f (d := 90) hm1 hw hr
        exact ⟨I2, _, _, e2, h2⟩) (Nat.le_add_right T 100) hwT hcs
  | some b =>
    have hb := ((tkA_ok (v := v) (w := w) hwT.1 hwT.2.1).2 b hr).2
    obtain ⟨I1, e1, c1⟩ := o118t (d := 90) (L := L) (ru := ru) (dr := dr) (sr := sr) (rd := rd) (rl := rl) (x := x) hc hw hr
    exact comb (T2 := T) h9 hx hz hTk hm ⟨(show 1 < 36 by decide), trivial⟩ ⟨⟨(show 36 ≤ 36 by decide), (show 36 < 64 by decide)⟩, trivial⟩ e1 c1 (fun hm1 => by
        obtain ⟨I2, e2, h2⟩ := n231t (d := 90) hm1 hw hr
        exact ⟨I2, _, _, e2, h2⟩) (Nat.le_add_right T 100) (hwT.act hb) hcs
theorem q12 {v w : Int32} (h : gSt N xs k I L ru dr sr rd rl x) (hk : k < 600) : stO N xs k 119 234 [.ref 1, .int v, .int w] [.ref 36, .int v, .int w] I L ru dr sr rd rl x := by
  obtain ⟨h9, hx, hz, T, R, S, f, g, p, a, n, t, l, u, kp, cl, si, cs, rn, rt, hTk, hc, hm, hw, hcs⟩ := h
  have hT1 : T + 100 < 2 ^ 24 := by omega
  have hwT := hw.mr (Nat.le_add_right T 100) hT1
  cases hr : (lvA S p a v w).2 with
  | none =>
    obtain ⟨I1, e1, c1⟩ := o119f (d := 90) (L := L) (ru := ru) (dr := dr) (sr := sr) (rd := rd) (rl := rl) (x := x) hc hw hr
    exact comb (T2 := T) h9 hx hz hTk hm ⟨(show 1 < 36 by decide), trivial⟩ ⟨⟨(show 36 ≤ 36 by decide), (show 36 < 64 by decide)⟩, trivial⟩ e1 c1 (fun hm1 => by
        obtain ⟨I2, e2, h2⟩ := n234f (d := 90) hm1 hw hr
        exact ⟨I2, _, _, e2, h2⟩) (Nat.le_add_right T 100) hwT hcs
  | some b =>
    have hb := ((lvA_ok (v := v) (w := w) hwT.1 hwT.2.1).2 b hr).2
    obtain ⟨I1, e1, c1⟩ := o119t (d := 90) (L := L) (ru := ru) (dr := dr) (sr := sr) (rd := rd) (rl := rl) (x := x) hc hw hr
    exact comb (T2 := T) h9 hx hz hTk hm ⟨(show 1 < 36 by decide), trivial⟩ ⟨⟨(show 36 ≤ 36 by decide), (show 36 < 64 by decide)⟩, trivial⟩ e1 c1 (fun hm1 => by
        obtain ⟨I2, e2, h2⟩ := n234t (d := 90) hm1 hw hr
        exact ⟨I2, _, _, e2, h2⟩) (Nat.le_add_right T 100) (hwT.act hb) hcs
theorem q13 {v w : Int32} (h : gSt N xs k I L ru dr sr rd rl x) (hk : k < 600) : stO N xs k 120 236 [.ref 1, .int v, .int w] [.ref 36, .int v, .int w] I L ru dr sr rd rl x := by
  obtain ⟨h9, hx, hz, T, R, S, f, g, p, a, n, t, l, u, kp, cl, si, cs, rn, rt, hTk, hc, hm, hw, hcs⟩ := h
  have hT1 : T + 100 < 2 ^ 24 := by omega
  have hwT := hw.mr (Nat.le_add_right T 100) hT1
  cases hr : (grA p a v w).2 with
  | none =>
    obtain ⟨I1, e1, c1⟩ := o120f (d := 90) (L := L) (ru := ru) (dr := dr) (sr := sr) (rd := rd) (rl := rl) (x := x) hc hw hr
    exact comb (T2 := T) h9 hx hz hTk hm ⟨(show 1 < 36 by decide), trivial⟩ ⟨⟨(show 36 ≤ 36 by decide), (show 36 < 64 by decide)⟩, trivial⟩ e1 c1 (fun hm1 => by
        obtain ⟨I2, e2, h2⟩ := n236f (d := 90) hm1 hw hr
        exact ⟨I2, _, _, e2, h2⟩) (Nat.le_add_right T 100) hwT hcs
  | some b =>
    have hb := ((grA_ok (v := v) (w := w) hwT.1 hwT.2.1).2 b hr).2
    obtain ⟨I1, e1, c1⟩ := o120t (d := 90) (L := L) (ru := ru) (dr := dr) (sr := sr) (rd := rd) (rl := rl) (x := x) hc hw hr
    exact comb (T2 := T) h9 hx hz hTk hm ⟨(show 1 < 36 by decide), trivial⟩ ⟨⟨(show 36 ≤ 36 by decide), (show 36 < 64 by decide)⟩, trivial⟩ e1 c1 (fun hm1 => by
        obtain ⟨I2, e2, h2⟩ := n236t (d := 90) hm1 hw hr
        exact ⟨I2, _, _, e2, h2⟩) (Nat.le_add_right T 100) (hwT.act hb) hcs
theorem q14 (h : gSt N xs k I L ru dr sr rd rl x) (hk : k < 600) : stO N xs k 121 237 [.ref 1] [.ref 36] I L ru dr sr rd rl x := by
  obtain ⟨h9, hx, hz, T, R, S, f, g, p, a, n, t, l, u, kp, cl, si, cs, rn, rt, hTk, hc, hm, hw, hcs⟩ := h
  have hT1 : T + 100 < 2 ^ 24 := by omega
  have hwT := hw.mr (Nat.le_add_right T 100) hT1
  cases hg : gwr t n with
  | some e =>
    obtain ⟨I1, e1, c1⟩ := o121f (d := 90) (L := L) (ru := ru) (dr := dr) (sr := sr) (rd := rd) (rl := rl) (x := x) hc hw hg
    exact comb (T2 := T) h9 hx hz hTk hm ⟨(show 1 < 36 by decide), trivial⟩ ⟨⟨(show 36 ≤ 36 by decide), (show 36 < 64 by decide)⟩, trivial⟩ e1 c1 (fun hm1 => by
        obtain ⟨I2, rd2, e2, h2⟩ := n237f (d := 90) hm1 hw hg
        exact ⟨I2, _, rd2, e2, h2⟩) (Nat.le_add_right T 100) hwT hcs
  | none =>
    have hwg := grn_wf (cs := cs) (t := t) hw.1 (show T + 80 < 2 ^ 24 by omega) hm.2.2.2.1.2.1 hw.2.1
    have hw2 : wInv R S f g p ((grn R S f g cs p t n a).2.1) (T + 100) (if 0 < (grn R S f g cs p t n a).2.2 then (a :: u).take 12 else u) kp := by
      split
      · exact hwT.act (hwg.more (by omega) hT1)
      · exact wInv_a hwT (hwg.more (by omega) hT1)
    obtain ⟨I1, L1, e1, c1⟩ := o121t (d := 90) (L := L) (ru := ru) (dr := dr) (sr := sr) (rd := rd) (rl := rl) (x := x) hc hw hg (by omega)
    exact comb (T2 := T) h9 hx hz hTk hm ⟨(show 1 < 36 by decide), trivial⟩ ⟨⟨(show 36 ≤ 36 by decide), (show 36 < 64 by decide)⟩, trivial⟩ e1 c1 (fun hm1 => by
        obtain ⟨I2, L2, rd2, e2, h2⟩ := n237t (d := 90) hm1 hw (by decide) hcs hg (by omega)
        exact ⟨I2, L2, rd2, e2, h2⟩) (Nat.le_add_right T 100) hw2 hcs
theorem q15 (h : gSt N xs k I L ru dr sr rd rl x) (hk : k < 600) : stO N xs k 122 240 [.ref 1] [.ref 36] I L ru dr sr rd rl x := by
  obtain ⟨h9, hx, hz, T, R, S, f, g, p, a, n, t, l, u, kp, cl, si, cs, rn, rt, hTk, hc, hm, hw, hcs⟩ := h
  have hT1 : T + 100 < 2 ^ 24 := by omega
  have hwT := hw.mr (Nat.le_add_right T 100) hT1
  cases u with
  | nil =>
    have e1 := o122f (d := 90) (L := L) (ru := ru) (dr := dr) (sr := sr) (rd := rd) (rl := rl) (x := x) hc
    exact comb (T2 := T) h9 hx hz hTk hm ⟨(show 1 < 36 by decide), trivial⟩ ⟨⟨(show 36 ≤ 36 by decide), (show 36 < 64 by decide)⟩, trivial⟩ e1 hc (fun hm1 => by
        obtain ⟨I2, e2, h2⟩ := n240f (d := 90) hm1
        exact ⟨I2, _, _, e2, h2⟩) (Nat.le_add_right T 100) hwT hcs
  | cons b u =>
    have hw2 : wInv R S f g p b (T + 100) u kp := ⟨hwT.1, hwT.2.2.1 b (List.mem_cons_self ..), fun c hc => hwT.2.2.1 c (List.mem_cons_of_mem _ hc), hwT.2.2.2⟩
    obtain ⟨I1, e1, c1⟩ := o122t (d := 90) (L := L) (ru := ru) (dr := dr) (sr := sr) (rd := rd) (rl := rl) (x := x) hc
    exact comb (T2 := T) h9 hx hz hTk hm ⟨(show 1 < 36 by decide), trivial⟩ ⟨⟨(show 36 ≤ 36 by decide), (show 36 < 64 by decide)⟩, trivial⟩ e1 c1 (fun hm1 => by
        obtain ⟨I2, e2, h2⟩ := n240t (d := 90) hm1
        exact ⟨I2, _, _, e2, h2⟩) (Nat.le_add_right T 100) hw2 hcs
theorem q16 {v w : Int32} (h : gSt N xs k I L ru dr sr rd rl x) (hk : k < 600) : stO N xs k 123 243 [.ref 1, .int v, .int w] [.ref 36, .int v, .int w] I L ru dr sr rd rl x := by
  obtain ⟨h9, hx, hz, T, R, S, f, g, p, a, n, t, l, u, kp, cl, si, cs, rn, rt, hTk, hc, hm, hw, hcs⟩ := h
  have hT1 : T + 100 < 2 ^ 24 := by omega
  have hwT := hw.mr (Nat.le_add_right T 100) hT1
  obtain ⟨I1, L1, e1, c1⟩ := o123 (d := 90) (L := L) (ru := ru) (dr := dr) (sr := sr) (rd := rd) (rl := rl) (x := x) hc hw
  exact comb (T2 := T) h9 hx hz hTk hm ⟨(show 1 < 36 by decide), trivial⟩ ⟨⟨(show 36 ≤ 36 by decide), (show 36 < 64 by decide)⟩, trivial⟩ e1 c1 (fun hm1 => by
      obtain ⟨I2, L2, e2, h2⟩ := n243 (d := 90) hm1 hw
      exact ⟨I2, L2, _, e2, h2⟩) (Nat.le_add_right T 100) hwT hcs
theorem q17 {v w : Int32} (h : gSt N xs k I L ru dr sr rd rl x) (hk : k < 600) : stO N xs k 124 244 [.ref 1, .int v, .int w] [.ref 36, .int v, .int w] I L ru dr sr rd rl x := by
  obtain ⟨h9, hx, hz, T, R, S, f, g, p, a, n, t, l, u, kp, cl, si, cs, rn, rt, hTk, hc, hm, hw, hcs⟩ := h
  have hT1 : T + 100 < 2 ^ 24 := by omega
  have hwT := hw.mr (Nat.le_add_right T 100) hT1
  obtain ⟨I1, L1, e1, c1⟩ := o124 (d := 90) (L := L) (ru := ru) (dr := dr) (sr := sr) (rd := rd) (rl := rl) (x := x) hc hw
  exact comb (T2 := T) h9 hx hz hTk hm ⟨(show 1 < 36 by decide), trivial⟩ ⟨⟨(show 36 ≤ 36 by decide), (show 36 < 64 by decide)⟩, trivial⟩ e1 c1 (fun hm1 => by
      obtain ⟨I2, L2, e2, h2⟩ := n244 (d := 90) hm1 hw
      exact ⟨I2, L2, _, e2, h2⟩) (Nat.le_add_right T 100) hwT hcs
theorem q18 {v : Int32} (h : gSt N xs k I L ru dr sr rd rl x) (hk : k < 600) : stO N xs k 125 247 [.ref 1, .int v] [.ref 36, .int v] I L ru dr sr rd rl x := by
  obtain ⟨h9, hx, hz, T, R, S, f, g, p, a, n, t, l, u, kp, cl, si, cs, rn, rt, hTk, hc, hm, hw, hcs⟩ := h
  have hT1 : T + 100 < 2 ^ 24 := by omega
  have hwT := hw.mr (Nat.le_add_right T 100) hT1
  obtain ⟨I1, L1, e1, c1⟩ := o125 (d := 90) (L := L) (ru := ru) (dr := dr) (sr := sr) (rd := rd) (rl := rl) (x := x) hc hw
  exact comb (T2 := T) h9 hx hz hTk hm ⟨(show 1 < 36 by decide), trivial⟩ ⟨⟨(show 36 ≤ 36 by decide), (show 36 < 64 by decide)⟩, trivial⟩ e1 c1 (fun hm1 => by
      obtain ⟨I2, L2, e2, h2⟩ := n247 (d := 90) hm1 hw
      exact ⟨I2, L2, _, e2, h2⟩) (Nat.le_add_right T 100) hwT hcs
theorem q19 {v : Int32} (h : gSt N xs k I L ru dr sr rd rl x) (hk : k < 600) : stO N xs k 126 248 [.ref 1, .int v] [.ref 36, .int v] I L ru dr sr rd rl x := by
  obtain ⟨h9, hx, hz, T, R, S, f, g, p, a, n, t, l, u, kp, cl, si, cs, rn, rt, hTk, hc, hm, hw, hcs⟩ := h
  have hT1 : T + 100 < 2 ^ 24 := by omega
  have hwT := hw.mr (Nat.le_add_right T 100) hT1
  obtain ⟨I1, L1, e1, c1⟩ := o126 (d := 90) (L := L) (ru := ru) (dr := dr) (sr := sr) (rd := rd) (rl := rl) (x := x) hc hw
  exact comb (T2 := T) h9 hx hz hTk hm ⟨(show 1 < 36 by decide), trivial⟩ ⟨⟨(show 36 ≤ 36 by decide), (show 36 < 64 by decide)⟩, trivial⟩ e1 c1 (fun hm1 => by
      obtain ⟨I2, L2, e2, h2⟩ := n248 (d := 90) hm1 hw
      exact ⟨I2, L2, _, e2, h2⟩) (Nat.le_add_right T 100) hwT hcs
theorem q20 {v : Int32} (h : gSt N xs k I L ru dr sr rd rl x) (hk : k < 600) : stO N xs k 127 249 [.ref 1, .int v] [.ref 36, .int v] I L ru dr sr rd rl x := by
  obtain ⟨h9, hx, hz, T, R, S, f, g, p, a, n, t, l, u, kp, cl, si, cs, rn, rt, hTk, hc, hm, hw, hcs⟩ := h
  have hT1 : T + 100 < 2 ^ 24 := by omega
  have hwT := hw.mr (Nat.le_add_right T 100) hT1
  obtain ⟨I1, L1, e1, c1⟩ := o127 (d := 90) (L := L) (ru := ru) (dr := dr) (sr := sr) (rd := rd) (rl := rl) (x := x) hc hw
  exact comb (T2 := T) h9 hx hz hTk hm ⟨(show 1 < 36 by decide), trivial⟩ ⟨⟨(show 36 ≤ 36 by decide), (show 36 < 64 by decide)⟩, trivial⟩ e1 c1 (fun hm1 => by
      obtain ⟨I2, L2, e2, h2⟩ := n249 (d := 90) hm1 hw
      exact ⟨I2, L2, _, e2, h2⟩) (Nat.le_add_right T 100) hwT hcs
theorem q21 {v : Int32} (h : gSt N xs k I L ru dr sr rd rl x) (hk : k < 600) : stO N xs k 128 252 [.ref 1, .int v] [.ref 36, .int v] I L ru dr sr rd rl x := by
  obtain ⟨h9, hx, hz, T, R, S, f, g, p, a, n, t, l, u, kp, cl, si, cs, rn, rt, hTk, hc, hm, hw, hcs⟩ := h
  have hT1 : T + 100 < 2 ^ 24 := by omega
  have hwT := hw.mr (Nat.le_add_right T 100) hT1
  obtain ⟨I1, L1, e1, c1⟩ := o128 (d := 90) (L := L) (ru := ru) (dr := dr) (sr := sr) (rd := rd) (rl := rl) (x := x) hc hw
  exact comb (T2 := T) h9 hx hz hTk hm ⟨(show 1 < 36 by decide), trivial⟩ ⟨⟨(show 36 ≤ 36 by decide), (show 36 < 64 by decide)⟩, trivial⟩ e1 c1 (fun hm1 => by
      obtain ⟨I2, L2, e2, h2⟩ := n252 (d := 90) hm1 hw
      exact ⟨I2, L2, _, e2, h2⟩) (Nat.le_add_right T 100) hwT hcs
theorem q22 {v : Int32} (h : gSt N xs k I L ru dr sr rd rl x) (hk : k < 600) : stO N xs k 129 253 [.ref 1, .int v] [.ref 36, .int v] I L ru dr sr rd rl x := by
  obtain ⟨h9, hx, hz, T, R, S, f, g, p, a, n, t, l, u, kp, cl, si, cs, rn, rt, hTk, hc, hm, hw, hcs⟩ := h
  have hT1 : T + 100 < 2 ^ 24 := by omega
  have hwT := hw.mr (Nat.le_add_right T 100) hT1
  obtain ⟨I1, L1, e1, c1⟩ := o129 (d := 90) (L := L) (ru := ru) (dr := dr) (sr := sr) (rd := rd) (rl := rl) (x := x) hc hw
  exact comb (T2 := T) h9 hx hz hTk hm ⟨(show 1 < 36 by decide), trivial⟩ ⟨⟨(show 36 ≤ 36 by decide), (show 36 < 64 by decide)⟩, trivial⟩ e1 c1 (fun hm1 => by
      obtain ⟨I2, L2, e2, h2⟩ := n253 (d := 90) hm1 hw
      exact ⟨I2, L2, _, e2, h2⟩) (Nat.le_add_right T 100) hwT hcs
theorem q23 {v : Int32} (h : gSt N xs k I L ru dr sr rd rl x) (hk : k < 600) : stO N xs k 130 255 [.ref 1, .int v] [.ref 36, .int v] I L ru dr sr rd rl x := by
  obtain ⟨h9, hx, hz, T, R, S, f, g, p, a, n, t, l, u, kp, cl, si, cs, rn, rt, hTk, hc, hm, hw, hcs⟩ := h
  have hT1 : T + 100 < 2 ^ 24 := by omega
  have hwT := hw.mr (Nat.le_add_right T 100) hT1
  obtain ⟨I1, L1, e1, c1⟩ := o130 (d := 90) (L := L) (ru := ru) (dr := dr) (sr := sr) (rd := rd) (rl := rl) (x := x) hc hw
  exact comb (T2 := T) h9 hx hz hTk hm ⟨(show 1 < 36 by decide), trivial⟩ ⟨⟨(show 36 ≤ 36 by decide), (show 36 < 64 by decide)⟩, trivial⟩ e1 c1 (fun hm1 => by
      obtain ⟨I2, L2, e2, h2⟩ := n255 (d := 90) hm1 hw
      exact ⟨I2, L2, _, e2, h2⟩) (Nat.le_add_right T 100) hwT hcs
theorem q24 (h : gSt N xs k I L ru dr sr rd rl x) (hk : k < 600) : stO N xs k 131 256 [.ref 1] [.ref 36] I L ru dr sr rd rl x := by
  obtain ⟨h9, hx, hz, T, R, S, f, g, p, a, n, t, l, u, kp, cl, si, cs, rn, rt, hTk, hc, hm, hw, hcs⟩ := h
  have hT1 : T + 100 < 2 ^ 24 := by omega
  have hwT := hw.mr (Nat.le_add_right T 100) hT1
  obtain ⟨I1, L1, e1, c1⟩ := o131 (d := 90) (L := L) (ru := ru) (dr := dr) (sr := sr) (rd := rd) (rl := rl) (x := x) hc hw
  exact comb (T2 := T) h9 hx hz hTk hm ⟨(show 1 < 36 by decide), trivial⟩ ⟨⟨(show 36 ≤ 36 by decide), (show 36 < 64 by decide)⟩, trivial⟩ e1 c1 (fun hm1 => by
      obtain ⟨I2, L2, e2, h2⟩ := n256 (d := 90) hm1 hw
      exact ⟨I2, L2, _, e2, h2⟩) (Nat.le_add_right T 100) hwT hcs
theorem q29 (h : gSt N xs k I L ru dr sr rd rl x) (hk : k < 600) : stO N xs k 136 263 [.ref 1] [.ref 36] I L ru dr sr rd rl x := by
  obtain ⟨h9, hx, hz, T, R, S, f, g, p, a, n, t, l, u, kp, cl, si, cs, rn, rt, hTk, hc, hm, hw, hcs⟩ := h
  have hT1 : T + 100 < 2 ^ 24 := by omega
  have hwT := hw.mr (Nat.le_add_right T 100) hT1
  obtain ⟨I1, L1, e1, c1⟩ := o136 (d := 90) (L := L) (ru := ru) (dr := dr) (sr := sr) (rd := rd) (rl := rl) (x := x) hc hw
  exact comb (T2 := T) h9 hx hz hTk hm ⟨(show 1 < 36 by decide), trivial⟩ ⟨⟨(show 36 ≤ 36 by decide), (show 36 < 64 by decide)⟩, trivial⟩ e1 c1 (fun hm1 => by
      obtain ⟨I2, L2, e2, h2⟩ := n263 (d := 90) hm1 hw
      exact ⟨I2, L2, _, e2, h2⟩) (Nat.le_add_right T 100) hwT hcs
theorem q32 (h : gSt N xs k I L ru dr sr rd rl x) (hk : k < 600) : stO N xs k 139 270 [.ref 1] [.ref 36] I L ru dr sr rd rl x := by
  obtain ⟨h9, hx, hz, T, R, S, f, g, p, a, n, t, l, u, kp, cl, si, cs, rn, rt, hTk, hc, hm, hw, hcs⟩ := h
  have hT1 : T + 100 < 2 ^ 24 := by omega
  have hwT := hw.mr (Nat.le_add_right T 100) hT1
  obtain ⟨I1, L1, e1, c1⟩ := o139 (d := 90) (L := L) (ru := ru) (dr := dr) (sr := sr) (rd := rd) (rl := rl) (x := x) hc hw
  exact comb (T2 := T) h9 hx hz hTk hm ⟨(show 1 < 36 by decide), trivial⟩ ⟨⟨(show 36 ≤ 36 by decide), (show 36 < 64 by decide)⟩, trivial⟩ e1 c1 (fun hm1 => by
      obtain ⟨I2, L2, e2, h2⟩ := n270 (d := 90) hm1 hw
      exact ⟨I2, L2, _, e2, h2⟩) (Nat.le_add_right T 100) hwT hcs
theorem q33 (h : gSt N xs k I L ru dr sr rd rl x) (hk : k < 600) : stO N xs k 140 271 [.ref 1] [.ref 36] I L ru dr sr rd rl x := by
  obtain ⟨h9, hx, hz, T, R, S, f, g, p, a, n, t, l, u, kp, cl, si, cs, rn, rt, hTk, hc, hm, hw, hcs⟩ := h
  have hT1 : T + 100 < 2 ^ 24 := by omega
  have hwT := hw.mr (Nat.le_add_right T 100) hT1
  obtain ⟨I1, L1, e1, c1⟩ := o140 (d := 90) (L := L) (ru := ru) (dr := dr) (sr := sr) (rd := rd) (rl := rl) (x := x) hc hw
  exact comb (T2 := T) h9 hx hz hTk hm ⟨(show 1 < 36 by decide), trivial⟩ ⟨⟨(show 36 ≤ 36 by decide), (show 36 < 64 by decide)⟩, trivial⟩ e1 c1 (fun hm1 => by
      obtain ⟨I2, L2, e2, h2⟩ := n271 (d := 90) hm1 hw
      exact ⟨I2, L2, _, e2, h2⟩) (Nat.le_add_right T 100) hwT hcs
theorem q36 (h : gSt N xs k I L ru dr sr rd rl x) (hk : k < 600) : stO N xs k 143 276 [.ref 1] [.ref 36] I L ru dr sr rd rl x := by
  obtain ⟨h9, hx, hz, T, R, S, f, g, p, a, n, t, l, u, kp, cl, si, cs, rn, rt, hTk, hc, hm, hw, hcs⟩ := h
  have hT1 : T + 100 < 2 ^ 24 := by omega
  have hwT := hw.mr (Nat.le_add_right T 100) hT1
  obtain ⟨I1, L1, e1, c1⟩ := o143 (d := 90) (L := L) (ru := ru) (dr := dr) (sr := sr) (rd := rd) (rl := rl) (x := x) hc hw
  exact comb (T2 := T) h9 hx hz hTk hm ⟨(show 1 < 36 by decide), trivial⟩ ⟨⟨(show 36 ≤ 36 by decide), (show 36 < 64 by decide)⟩, trivial⟩ e1 c1 (fun hm1 => by
      obtain ⟨I2, L2, e2, h2⟩ := n276 (d := 90) hm1 hw
      exact ⟨I2, L2, _, e2, h2⟩) (Nat.le_add_right T 100) hwT hcs
theorem q37 (h : gSt N xs k I L ru dr sr rd rl x) (hk : k < 600) : stO N xs k 144 277 [.ref 1] [.ref 36] I L ru dr sr rd rl x := by
  obtain ⟨h9, hx, hz, T, R, S, f, g, p, a, n, t, l, u, kp, cl, si, cs, rn, rt, hTk, hc, hm, hw, hcs⟩ := h
  have hT1 : T + 100 < 2 ^ 24 := by omega
  have hwT := hw.mr (Nat.le_add_right T 100) hT1
  obtain ⟨I1, L1, e1, c1⟩ := o144 (d := 90) (L := L) (ru := ru) (dr := dr) (sr := sr) (rd := rd) (rl := rl) (x := x) hc hw
  exact comb (T2 := T) h9 hx hz hTk hm ⟨(show 1 < 36 by decide), trivial⟩ ⟨⟨(show 36 ≤ 36 by decide), (show 36 < 64 by decide)⟩, trivial⟩ e1 c1 (fun hm1 => by
      obtain ⟨I2, L2, e2, h2⟩ := n277 (d := 90) hm1 hw
      exact ⟨I2, L2, _, e2, h2⟩) (Nat.le_add_right T 100) hwT hcs
theorem q40 {v w : Int32} (h : gSt N xs k I L ru dr sr rd rl x) (hk : k < 600) : stO N xs k 147 284 [.ref 1, .int v, .int w] [.ref 36, .int v, .int w] I L ru dr sr rd rl x := by
  obtain ⟨h9, hx, hz, T, R, S, f, g, p, a, n, t, l, u, kp, cl, si, cs, rn, rt, hTk, hc, hm, hw, hcs⟩ := h
  have hT1 : T + 100 < 2 ^ 24 := by omega
  have hwT := hw.mr (Nat.le_add_right T 100) hT1
  obtain ⟨I1, L1, e1, c1⟩ := o147 (d := 90) (L := L) (ru := ru) (dr := dr) (sr := sr) (rd := rd) (rl := rl) (x := x) hc hw
  exact comb (T2 := T) h9 hx hz hTk hm ⟨(show 1 < 36 by decide), trivial⟩ ⟨⟨(show 36 ≤ 36 by decide), (show 36 < 64 by decide)⟩, trivial⟩ e1 c1 (fun hm1 => by
      obtain ⟨I2, L2, e2, h2⟩ := n284 (d := 90) hm1 hw
      exact ⟨I2, L2, _, e2, h2⟩) (Nat.le_add_right T 100) hwT hcs
theorem q41 {v : Int32} (h : gSt N xs k I L ru dr sr rd rl x) (hk : k < 600) : stO N xs k 148 287 [.ref 1, .int v] [.ref 36, .int v] I L ru dr sr rd rl x := by
  obtain ⟨h9, hx, hz, T, R, S, f, g, p, a, n, t, l, u, kp, cl, si, cs, rn, rt, hTk, hc, hm, hw, hcs⟩ := h
  have hT1 : T + 100 < 2 ^ 24 := by omega
  have hwT := hw.mr (Nat.le_add_right T 100) hT1
  obtain ⟨I1, L1, e1, c1⟩ := o148 (d := 90) (L := L) (ru := ru) (dr := dr) (sr := sr) (rd := rd) (rl := rl) (x := x) hc hw
  exact comb (T2 := T) h9 hx hz hTk hm ⟨(show 1 < 36 by decide), trivial⟩ ⟨⟨(show 36 ≤ 36 by decide), (show 36 < 64 by decide)⟩, trivial⟩ e1 c1 (fun hm1 => by
      obtain ⟨I2, L2, e2, h2⟩ := n287 (d := 90) hm1 hw
      exact ⟨I2, L2, _, e2, h2⟩) (Nat.le_add_right T 100) hwT hcs
theorem q25 {v w : Int32} (h : gSt N xs k I L ru dr sr rd rl x) (hk : k < 600) : stO N xs k 132 257 [.ref 1, .int v, .int w] [.ref 36, .int v, .int w] I L ru dr sr rd rl x := by
  obtain ⟨h9, hx, hz, T, R, S, f, g, p, a, n, t, l, u, kp, cl, si, cs, rn, rt, hTk, hc, hm, hw, hcs⟩ := h
  have hT1 : T + 100 < 2 ^ 24 := by omega
  have hwT := hw.mr (Nat.le_add_right T 100) hT1
  obtain ⟨I1, L1, e1, c1⟩ := o132 (d := 90) (L := L) (ru := ru) (dr := dr) (sr := sr) (rd := rd) (rl := rl) (x := x) hc hw hT1
  exact comb (T2 := T) h9 hx hz hTk hm ⟨(show 1 < 36 by decide), trivial⟩ ⟨⟨(show 36 ≤ 36 by decide), (show 36 < 64 by decide)⟩, trivial⟩ e1 c1 (fun hm1 => by
      obtain ⟨I2, L2, rd2, e2, h2⟩ := n257 (d := 90) hm1 hw (by decide) hcs hT1
      exact ⟨I2, L2, rd2, e2, h2⟩) (Nat.le_add_right T 100) hwT hcs
theorem q26 {v : Int32} (h : gSt N xs k I L ru dr sr rd rl x) (hk : k < 600) : stO N xs k 133 258 [.ref 1, .int v] [.ref 36, .int v] I L ru dr sr rd rl x := by
  obtain ⟨h9, hx, hz, T, R, S, f, g, p, a, n, t, l, u, kp, cl, si, cs, rn, rt, hTk, hc, hm, hw, hcs⟩ := h
  have hT1 : T + 100 < 2 ^ 24 := by omega
  have hwT := hw.mr (Nat.le_add_right T 100) hT1
  obtain ⟨I1, L1, e1, c1⟩ := o133 (d := 90) (L := L) (ru := ru) (dr := dr) (sr := sr) (rd := rd) (rl := rl) (x := x) hc hw hT1
  exact comb (T2 := T) h9 hx hz hTk hm ⟨(show 1 < 36 by decide), trivial⟩ ⟨⟨(show 36 ≤ 36 by decide), (show 36 < 64 by decide)⟩, trivial⟩ e1 c1 (fun hm1 => by
      obtain ⟨I2, L2, rd2, e2, h2⟩ := n258 (d := 90) hm1 hw (by decide) hcs hT1
      exact ⟨I2, L2, rd2, e2, h2⟩) (Nat.le_add_right T 100) hwT hcs
theorem q27 {v : Int32} (h : gSt N xs k I L ru dr sr rd rl x) (hk : k < 600) : stO N xs k 134 259 [.ref 1, .int v] [.ref 36, .int v] I L ru dr sr rd rl x := by
  obtain ⟨h9, hx, hz, T, R, S, f, g, p, a, n, t, l, u, kp, cl, si, cs, rn, rt, hTk, hc, hm, hw, hcs⟩ := h
  have hT1 : T + 100 < 2 ^ 24 := by omega
  have hwT := hw.mr (Nat.le_add_right T 100) hT1
  obtain ⟨I1, L1, e1, c1⟩ := o134 (d := 90) (L := L) (ru := ru) (dr := dr) (sr := sr) (rd := rd) (rl := rl) (x := x) hc hw hT1
  exact comb (T2 := T) h9 hx hz hTk hm ⟨(show 1 < 36 by decide), trivial⟩ ⟨⟨(show 36 ≤ 36 by decide), (show 36 < 64 by decide)⟩, trivial⟩ e1 c1 (fun hm1 => by
      obtain ⟨I2, L2, rd2, e2, h2⟩ := n259 (d := 90) hm1 hw (by decide) hcs hT1
      exact ⟨I2, L2, rd2, e2, h2⟩) (Nat.le_add_right T 100) hwT hcs
theorem q28 (h : gSt N xs k I L ru dr sr rd rl x) (hk : k < 600) : stO N xs k 135 261 [.ref 1] [.ref 36] I L ru dr sr rd rl x := by
  obtain ⟨h9, hx, hz, T, R, S, f, g, p, a, n, t, l, u, kp, cl, si, cs, rn, rt, hTk, hc, hm, hw, hcs⟩ := h
  have hT1 : T + 100 < 2 ^ 24 := by omega
  have hwT := hw.mr (Nat.le_add_right T 100) hT1
  obtain ⟨I1, L1, e1, c1⟩ := o135 (d := 90) (L := L) (ru := ru) (dr := dr) (sr := sr) (rd := rd) (rl := rl) (x := x) hc hw hT1
  exact comb (T2 := T) h9 hx hz hTk hm ⟨(show 1 < 36 by decide), trivial⟩ ⟨⟨(show 36 ≤ 36 by decide), (show 36 < 64 by decide)⟩, trivial⟩ e1 c1 (fun hm1 => by
      obtain ⟨I2, L2, rd2, e2, h2⟩ := n261 (d := 90) hm1 hw (by decide) hcs hT1
      exact ⟨I2, L2, rd2, e2, h2⟩) (Nat.le_add_right T 100) hwT hcs
theorem q43 {v w : Int32} (h : gSt N xs k I L ru dr sr rd rl x) (hk : k < 600) : stO N xs k 150 291 [.ref 1, .int v, .int w] [.ref 36, .int v, .int w] I L ru dr sr rd rl x := by
  obtain ⟨h9, hx, hz, T, R, S, f, g, p, a, n, t, l, u, kp, cl, si, cs, rn, rt, hTk, hc, hm, hw, hcs⟩ := h
  have hT1 : T + 100 < 2 ^ 24 := by omega
  have hwT := hw.mr (Nat.le_add_right T 100) hT1
  obtain ⟨I1, L1, e1, c1⟩ := o150 (d := 90) (L := L) (ru := ru) (dr := dr) (sr := sr) (rd := rd) (rl := rl) (x := x) hc hw hT1
  exact comb (T2 := T) h9 hx hz hTk hm ⟨(show 1 < 36 by decide), trivial⟩ ⟨⟨(show 36 ≤ 36 by decide), (show 36 < 64 by decide)⟩, trivial⟩ e1 c1 (fun hm1 => by
      obtain ⟨I2, L2, rd2, e2, h2⟩ := n291 (d := 90) hm1 hw (by decide) hcs hT1
      exact ⟨I2, L2, rd2, e2, h2⟩) (Nat.le_add_right T 100) hwT hcs
theorem q30 {v w : Int32} (h : gSt N xs k I L ru dr sr rd rl x) (hk : k < 600) : stO N xs k 137 266 [.ref 1, .int v, .int w] [.ref 36, .int v, .int w] I L ru dr sr rd rl x := by
  obtain ⟨h9, hx, hz, T, R, S, f, g, p, a, n, t, l, u, kp, cl, si, cs, rn, rt, hTk, hc, hm, hw, hcs⟩ := h
  have hT1 : T + 100 < 2 ^ 24 := by omega
  have hwT := hw.mr (Nat.le_add_right T 100) hT1
  cases he : hrd cl v w with
  | none =>
    have e1 := o137f (d := 90) (L := L) (ru := ru) (dr := dr) (sr := sr) (rd := rd) (rl := rl) (x := x) hc hw he
    exact comb (T2 := T) h9 hx hz hTk hm ⟨(show 1 < 36 by decide), trivial⟩ ⟨⟨(show 36 ≤ 36 by decide), (show 36 < 64 by decide)⟩, trivial⟩ e1 hc (fun hm1 => by
        obtain ⟨I2, e2, h2⟩ := n266f (d := 90) hm1 hw he
        exact ⟨I2, _, _, e2, h2⟩) (Nat.le_add_right T 100) hwT hcs
  | some e =>
    obtain ⟨I1, e1, c1⟩ := o137t (d := 90) (L := L) (ru := ru) (dr := dr) (sr := sr) (rd := rd) (rl := rl) (x := x) hc hw he
    exact comb (T2 := T) h9 hx hz hTk hm ⟨(show 1 < 36 by decide), trivial⟩ ⟨⟨(show 36 ≤ 36 by decide), (show 36 < 64 by decide)⟩, trivial⟩ e1 c1 (fun hm1 => by
        obtain ⟨I2, e2, h2⟩ := n266t (d := 90) hm1 hw he
        exact ⟨I2, _, _, e2, h2⟩) (Nat.le_add_right T 100) hwT hcs
theorem q34 {v w : Int32} (h : gSt N xs k I L ru dr sr rd rl x) (hk : k < 600) : stO N xs k 141 272 [.ref 1, .int v, .int w] [.ref 36, .int v, .int w] I L ru dr sr rd rl x := by
  obtain ⟨h9, hx, hz, T, R, S, f, g, p, a, n, t, l, u, kp, cl, si, cs, rn, rt, hTk, hc, hm, hw, hcs⟩ := h
  have hT1 : T + 100 < 2 ^ 24 := by omega
  have hwT := hw.mr (Nat.le_add_right T 100) hT1
  cases he : sen si v w with
  | none =>
    have e1 := o141f (d := 90) (L := L) (ru := ru) (dr := dr) (sr := sr) (rd := rd) (rl := rl) (x := x) hc hw he
    exact comb (T2 := T) h9 hx hz hTk hm ⟨(show 1 < 36 by decide), trivial⟩ ⟨⟨(show 36 ≤ 36 by decide), (show 36 < 64 by decide)⟩, trivial⟩ e1 hc (fun hm1 => by
        obtain ⟨I2, e2, h2⟩ := n272f (d := 90) hm1 hw he
        exact ⟨I2, _, _, e2, h2⟩) (Nat.le_add_right T 100) hwT hcs
  | some e =>
    obtain ⟨I1, e1, c1⟩ := o141t (d := 90) (L := L) (ru := ru) (dr := dr) (sr := sr) (rd := rd) (rl := rl) (x := x) hc hw he
    exact comb (T2 := T) h9 hx hz hTk hm ⟨(show 1 < 36 by decide), trivial⟩ ⟨⟨(show 36 ≤ 36 by decide), (show 36 < 64 by decide)⟩, trivial⟩ e1 c1 (fun hm1 => by
        obtain ⟨I2, e2, h2⟩ := n272t (d := 90) hm1 hw he
        exact ⟨I2, _, _, e2, h2⟩) (Nat.le_add_right T 100) hwT hcs
theorem q31 (h : gSt N xs k I L ru dr sr rd rl x) (hk : k < 600) : stO N xs k 138 267 [.ref 1] [.ref 36] I L ru dr sr rd rl x := by
  obtain ⟨h9, hx, hz, T, R, S, f, g, p, a, n, t, l, u, kp, cl, si, cs, rn, rt, hTk, hc, hm, hw, hcs⟩ := h
  have hT1 : T + 100 < 2 ^ 24 := by omega
  have hwT := hw.mr (Nat.le_add_right T 100) hT1
  obtain ⟨I1, e1, c1⟩ := o138 (d := 90) (L := L) (ru := ru) (dr := dr) (sr := sr) (rd := rd) (rl := rl) (x := x) hc hw
  exact comb (T2 := T) h9 hx hz hTk hm ⟨(show 1 < 36 by decide), trivial⟩ ⟨⟨(show 36 ≤ 36 by decide), (show 36 < 64 by decide)⟩, trivial⟩ e1 c1 (fun hm1 => by
      obtain ⟨I2, e2, h2⟩ := n267 (d := 90) hm1 hw
      exact ⟨I2, _, _, e2, h2⟩) (Nat.le_add_right T 100) hwT hcs
theorem q35 (h : gSt N xs k I L ru dr sr rd rl x) (hk : k < 600) : stO N xs k 142 273 [.ref 1] [.ref 36] I L ru dr sr rd rl x := by
  obtain ⟨h9, hx, hz, T, R, S, f, g, p, a, n, t, l, u, kp, cl, si, cs, rn, rt, hTk, hc, hm, hw, hcs⟩ := h
  have hT1 : T + 100 < 2 ^ 24 := by omega
  have hwT := hw.mr (Nat.le_add_right T 100) hT1
  obtain ⟨I1, e1, c1⟩ := o142 (d := 90) (L := L) (ru := ru) (dr := dr) (sr := sr) (rd := rd) (rl := rl) (x := x) hc hw
  exact comb (T2 := T) h9 hx hz hTk hm ⟨(show 1 < 36 by decide), trivial⟩ ⟨⟨(show 36 ≤ 36 by decide), (show 36 < 64 by decide)⟩, trivial⟩ e1 c1 (fun hm1 => by
      obtain ⟨I2, e2, h2⟩ := n273 (d := 90) hm1 hw
      exact ⟨I2, _, _, e2, h2⟩) (Nat.le_add_right T 100) hwT hcs
theorem q38 {v w y : Int32} (h : gSt N xs k I L ru dr sr rd rl x) (hk : k < 600) : stO N xs k 145 281 [.ref 1, .int v, .int w, .int y] [.ref 36, .int v, .int w, .int y] I L ru dr sr rd rl x := by
  obtain ⟨h9, hx, hz, T, R, S, f, g, p, a, n, t, l, u, kp, cl, si, cs, rn, rt, hTk, hc, hm, hw, hcs⟩ := h
  have hT1 : T + 100 < 2 ^ 24 := by omega
  have hwT := hw.mr (Nat.le_add_right T 100) hT1
  obtain ⟨I1, L1, e1, c1⟩ := o145 (d := 90) (L := L) (ru := ru) (dr := dr) (sr := sr) (rd := rd) (rl := rl) (x := x) hc hw
  exact comb (T2 := T) h9 hx hz hTk hm ⟨(show 1 < 36 by decide), trivial⟩ ⟨⟨(show 36 ≤ 36 by decide), (show 36 < 64 by decide)⟩, trivial⟩ e1 c1 (fun hm1 => by
      obtain ⟨I2, L2, e2, h2⟩ := n281 (d := 90) hm1 hw (by decide)
      exact ⟨I2, L2, _, e2, h2⟩) (Nat.le_add_right T 100) hwT hcs
theorem q39 {v w y : Int32} (h : gSt N xs k I L ru dr sr rd rl x) (hk : k < 600) : stO N xs k 146 282 [.ref 1, .int v, .int w, .int y] [.ref 36, .int v, .int w, .int y] I L ru dr sr rd rl x := by
  obtain ⟨h9, hx, hz, T, R, S, f, g, p, a, n, t, l, u, kp, cl, si, cs, rn, rt, hTk, hc, hm, hw, hcs⟩ := h
  have hT1 : T + 100 < 2 ^ 24 := by omega
  have hwT := hw.mr (Nat.le_add_right T 100) hT1
  obtain ⟨I1, L1, e1, c1⟩ := o146 (d := 90) (L := L) (ru := ru) (dr := dr) (sr := sr) (rd := rd) (rl := rl) (x := x) hc hw
  exact comb (T2 := T) h9 hx hz hTk hm ⟨(show 1 < 36 by decide), trivial⟩ ⟨⟨(show 36 ≤ 36 by decide), (show 36 < 64 by decide)⟩, trivial⟩ e1 c1 (fun hm1 => by
      obtain ⟨I2, L2, e2, h2⟩ := n282 (d := 90) hm1 hw (by decide)
      exact ⟨I2, L2, _, e2, h2⟩) (Nat.le_add_right T 100) hwT hcs
theorem q42 (h : gSt N xs k I L ru dr sr rd rl x) (hk : k < 600) : stO N xs k 149 289 [.ref 1] [.ref 36] I L ru dr sr rd rl x := by
  obtain ⟨h9, hx, hz, T, R, S, f, g, p, a, n, t, l, u, kp, cl, si, cs, rn, rt, hTk, hc, hm, hw, hcs⟩ := h
  have hT1 : T + 100 < 2 ^ 24 := by omega
  have hwT := hw.mr (Nat.le_add_right T 100) hT1
  have he := prs_le t n
  cases hg : prs t n with
  | mk e q => cases q with
    | none =>
      have he2 : e < 1000 := by
        rw [hg] at he
        have : e ≤ min n 40 := he
        omega
      obtain ⟨I1, e1, c1⟩ := o149f (d := 90) (L := L) (ru := ru) (dr := dr) (sr := sr) (rd := rd) (rl := rl) (x := x) hc hw (by decide) hg he2
      exact comb (T2 := T) h9 hx hz hTk hm ⟨(show 1 < 36 by decide), trivial⟩ ⟨⟨(show 36 ≤ 36 by decide), (show 36 < 64 by decide)⟩, trivial⟩ e1 c1 (fun hm1 => by
          obtain ⟨I2, rd2, e2, h2⟩ := n289f (d := 90) hm1 hw (by decide) hg
          exact ⟨I2, _, rd2, e2, h2⟩) (Nat.le_add_right T 100) hwT hcs
    | some c2 =>
      by_cases hp : p = 0
      · obtain ⟨I1, e1, c1⟩ := o149z (d := 90) (L := L) (ru := ru) (dr := dr) (sr := sr) (rd := rd) (rl := rl) (x := x) hc hw (by decide) hg hp
        exact comb (T2 := T) h9 hx hz hTk hm ⟨(show 1 < 36 by decide), trivial⟩ ⟨⟨(show 36 ≤ 36 by decide), (show 36 < 64 by decide)⟩, trivial⟩ e1 c1 (fun hm1 => by
            obtain ⟨I2, rd2, e2, h2⟩ := n289z (d := 90) hm1 hw (by decide) hg hp
            exact ⟨I2, _, rd2, e2, h2⟩) (Nat.le_add_right T 100) hwT hcs
      · obtain ⟨I1, L1, e1, c1⟩ := o149t (d := 90) (L := L) (ru := ru) (dr := dr) (sr := sr) (rd := rd) (rl := rl) (x := x) hc hw (by decide) hg (by omega) hT1
        exact comb (T2 := T) h9 hx hz hTk hm ⟨(show 1 < 36 by decide), trivial⟩ ⟨⟨(show 36 ≤ 36 by decide), (show 36 < 64 by decide)⟩, trivial⟩ e1 c1 (fun hm1 => by
            obtain ⟨I2, L2, rd2, e2, h2⟩ := n289t (d := 90) hm1 hw (by decide) hcs hT1 hg (by omega)
            exact ⟨I2, L2, rd2, e2, h2⟩) (Nat.le_add_right T 100) hwT hcs
theorem q44 {v : Int32} (h : gSt N xs k I L ru dr sr rd rl x) (hk : k < 600) : stO N xs k 151 292 [.ref 1, .int v] [.ref 36, .int v] I L ru dr sr rd rl x := by
  obtain ⟨h9, hx, hz, T, R, S, f, g, p, a, n, t, l, u, kp, cl, si, cs, rn, rt, hTk, hc, hm, hw, hcs⟩ := h
  have hT1 : T + 100 < 2 ^ 24 := by omega
  have hwT := hw.mr (Nat.le_add_right T 100) hT1
  by_cases hq : ∃ i, i < 2 ∧ v = nI i
  · obtain ⟨i, hi, rfl⟩ := hq
    have hw2 : wInv R S f g p a (T + 100) u (zset kp i (some a)) := ⟨hwT.1, hwT.2.1, hwT.2.2.1, fun j b hj hb => by
      unfold zset at hb
      split at hb
      · cases hb; exact hwT.2.1
      · exact hwT.2.2.2 j b hj hb⟩
    obtain ⟨I1, e1, c1⟩ := o151t (d := 90) (L := L) (ru := ru) (dr := dr) (sr := sr) (rd := rd) (rl := rl) (x := x) hc hw hi
    exact comb (T2 := T) h9 hx hz hTk hm ⟨(show 1 < 36 by decide), trivial⟩ ⟨⟨(show 36 ≤ 36 by decide), (show 36 < 64 by decide)⟩, trivial⟩ e1 c1 (fun hm1 => by
        obtain ⟨I2, e2, h2⟩ := n292t (d := 90) hm1 hw hi
        exact ⟨I2, _, _, e2, h2⟩) (Nat.le_add_right T 100) hw2 hcs
  · have hv : ∀ j, j < 2 → v ≠ nI j := fun j hj e => hq ⟨j, hj, e⟩
    have e1 := o151f (d := 90) (L := L) (ru := ru) (dr := dr) (sr := sr) (rd := rd) (rl := rl) (x := x) (I := I) hv
    exact comb (T2 := T) h9 hx hz hTk hm ⟨(show 1 < 36 by decide), trivial⟩ ⟨⟨(show 36 ≤ 36 by decide), (show 36 < 64 by decide)⟩, trivial⟩ e1 hc (fun hm1 => by
        obtain ⟨I2, e2, h2⟩ := n292f (d := 90) hm1 hw hv
        exact ⟨I2, _, _, e2, h2⟩) (Nat.le_add_right T 100) hwT hcs
theorem q45 {v : Int32} (h : gSt N xs k I L ru dr sr rd rl x) (hk : k < 600) : stO N xs k 152 293 [.ref 1, .int v] [.ref 36, .int v] I L ru dr sr rd rl x := by
  obtain ⟨h9, hx, hz, T, R, S, f, g, p, a, n, t, l, u, kp, cl, si, cs, rn, rt, hTk, hc, hm, hw, hcs⟩ := h
  have hT1 : T + 100 < 2 ^ 24 := by omega
  have hwT := hw.mr (Nat.le_add_right T 100) hT1
  by_cases hq : ∃ i, i < 2 ∧ v = nI i ∧ kp i ≠ none
  · obtain ⟨i, hi, rfl, hne⟩ := hq
    cases hb : kp i with
    | none => exact absurd hb hne
    | some b =>
      have hw2 : wInv R S f g p b (T + 100) [] kp := ⟨hwT.1, hwT.2.2.2 i b hi hb, (fun c hc => by cases hc), hwT.2.2.2⟩
      obtain ⟨I1, e1, c1⟩ := o152t (d := 90) (L := L) (ru := ru) (dr := dr) (sr := sr) (rd := rd) (rl := rl) (x := x) hc hw hi hb
      exact comb (T2 := T) h9 hx hz hTk hm ⟨(show 1 < 36 by decide), trivial⟩ ⟨⟨(show 36 ≤ 36 by decide), (show 36 < 64 by decide)⟩, trivial⟩ e1 c1 (fun hm1 => by
          obtain ⟨I2, e2, h2⟩ := n293t (d := 90) hm1 hw hi hb
          exact ⟨I2, _, _, e2, h2⟩) (Nat.le_add_right T 100) hw2 hcs
  · have hv : ∀ j, j < 2 → v = nI j → kp j = none := fun j hj e => Classical.byContradiction fun q => hq ⟨j, hj, e, q⟩
    have e1 := o152f (d := 90) (L := L) (ru := ru) (dr := dr) (sr := sr) (rd := rd) (rl := rl) (x := x) hc hw hv
    exact comb (T2 := T) h9 hx hz hTk hm ⟨(show 1 < 36 by decide), trivial⟩ ⟨⟨(show 36 ≤ 36 by decide), (show 36 < 64 by decide)⟩, trivial⟩ e1 hc (fun hm1 => by
        obtain ⟨I2, e2, h2⟩ := n293f (d := 90) hm1 hw hv
        exact ⟨I2, _, _, e2, h2⟩) (Nat.le_add_right T 100) hwT hcs
theorem q46 {v : Int32} (h : gSt N xs k I L ru dr sr rd rl x) (hk : k < 600) : stO N xs k 153 294 [.ref 1, .int v] [.ref 36, .int v] I L ru dr sr rd rl x := by
  obtain ⟨h9, hx, hz, T, R, S, f, g, p, a, n, t, l, u, kp, cl, si, cs, rn, rt, hTk, hc, hm, hw, hcs⟩ := h
  have hT1 : T + 100 < 2 ^ 24 := by omega
  have hwT := hw.mr (Nat.le_add_right T 100) hT1
  have e1 := o153 (d := 90) (L := L) (ru := ru) (dr := dr) (sr := sr) (rd := rd) (rl := rl) (x := x) (v := v) hc hw
  exact comb (T2 := T) h9 hx hz hTk hm ⟨(show 1 < 36 by decide), trivial⟩ ⟨⟨(show 36 ≤ 36 by decide), (show 36 < 64 by decide)⟩, trivial⟩ e1 hc (fun hm1 => by
      obtain ⟨I2, e2, h2⟩ := n294 (d := 90) hm1 hw
      exact ⟨I2, _, _, e2, h2⟩) (Nat.le_add_right T 100) hwT hcs
end
