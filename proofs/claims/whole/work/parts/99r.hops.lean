section
variable {I : Nat → Nat → Int32} {L : Nat → Nat → Int64} {ru dr : Nat} {sr : Nat → Option Nat} {rd : Option Nat} {rl x : Nat}

/-! ===== hops: ways, fewest, most, next, by places 0 (START) .. R + 1 (BEYOND) ===== -/
abbrev N4 : Type := Nat × Nat × Nat × Nat
def hst (v acc : N4) (to : Nat) : N4 := (acc.1 + v.1, if v.2.1 + 1 < acc.2.1 then v.2.1 + 1 else acc.2.1, max acc.2.2.1 (v.2.2.1 + 1), if v.2.1 + 1 < acc.2.1 then to else acc.2.2.2)
def hon (R : Nat) (F : Nat → Bool) (T : Nat → N4) (to : Nat) : Bool := decide (to = R + 1) || (F to && decide (0 < (T to).1))
def hin (R : Nat) (F : Nat → Bool) (T : Nat → N4) (b : Nat) : Nat → N4
  | 0 => (0, 10, 0, R + 1)
  | t + 1 => if hon R F T (b + t + 1) = true then hst (T (b + t + 1)) (hin R F T b t) (b + t + 1) else hin R F T b t
def hfar (R k : Nat) (O : Nat → Bool) (b : Nat) : Nat := min (R + 1) (b + k + if O b = true then 1 else 0) - b
def htb (R k : Nat) (F O : Nat → Bool) : Nat → Nat → N4
  | 0 => fun _ => (1, 0, 0, 0)
  | j + 1 => zset (htb R k F O j) (R - j) (hin R F (htb R k F O j) (R - j) (hfar R k O (R - j)))
def hT (R k : Nat) (F O : Nat → Bool) : Nat → N4 := htb R k F O (R + 1)
theorem hon_cong {R : Nat} {F : Nat → Bool} {T T' : Nat → N4} {b : Nat} (h : T b = T' b) : hon R F T b = hon R F T' b := by unfold hon; rw [h]
theorem hin_cong {R : Nat} {F : Nat → Bool} {T T' : Nat → N4} {b : Nat} : ∀ t, (∀ c, b < c → c ≤ b + t → T c = T' c) → hin R F T b t = hin R F T' b t
  | 0, _ => rfl
  | t + 1, h => by
    have e := h (b + t + 1) (by omega) (by omega)
    rw [hin, hin, hon_cong e, hin_cong t (fun c h1 h2 => h c h1 (by omega)), e]
theorem hfar_le (R k : Nat) (O : Nat → Bool) {b : Nat} (hb : b ≤ R + 1) : b + hfar R k O b ≤ R + 1 := by unfold hfar; omega
theorem htb_eq (R k : Nat) (F O : Nat → Bool) {j : Nat} : ∀ n, j + n ≤ R + 1 → ∀ b, R + 1 - j ≤ b → htb R k F O (j + n) b = htb R k F O j b
  | 0, _, b, hb => rfl
  | n + 1, h, b, hb => by
    rw [← Nat.add_assoc, htb, zset_ne _ _ (by omega)]
    exact htb_eq R k F O n (by omega) b hb
theorem hT_fix (R k : Nat) (F O : Nat → Bool) {b : Nat} (hb : b ≤ R) : hT R k F O b = hin R F (hT R k F O) b (hfar R k O b) := by
  have h1 := htb_eq R k F O (j := R - b + 1) b (by omega) b (by omega)
  rw [show R - b + 1 + b = R + 1 by omega] at h1
  rw [show hT R k F O b = htb R k F O (R + 1) b from rfl, h1, htb, show R - (R - b) = b by omega, zset_self]
  refine hin_cong _ fun c h2 h3 => ?_
  have h4 := htb_eq R k F O (j := R - b) (b + 1) (by omega) c (by omega)
  rw [show R - b + (b + 1) = R + 1 by omega] at h4
  exact h4.symm
theorem hT_end (R k : Nat) (F O : Nat → Bool) : hT R k F O (R + 1) = (1, 0, 0, 0) := by
  have h := htb_eq R k F O (j := 0) (R + 1) (by omega) (R + 1) (by omega)
  rw [Nat.zero_add] at h
  exact h
/-- bounds of what is told of a place -/
def hok (R b : Nat) (v : N4) : Prop := v.1 ≤ 2 ^ (R + 1 - b) ∧ v.2.1 ≤ 10 ∧ v.2.2.1 ≤ R + 1 - b ∧ (0 < v.1 → v.2.1 ≤ R + 1 - b ∧ (b ≤ R → 1 ≤ v.2.1 ∧ 1 ≤ v.2.2.1)) ∧ v.2.2.2 ≤ R + 1
theorem hon_pos {R : Nat} {F : Nat → Bool} {T : Nat → N4} {c : Nat} (hE : T (R + 1) = (1, 0, 0, 0)) (h : hon R F T c = true) : 0 < (T c).1 := by
  unfold hon at h
  rw [Bool.or_eq_true, decide_eq_true_eq, Bool.and_eq_true, decide_eq_true_eq] at h
  rcases h with q | q
  · rw [q, hE]; exact Nat.one_pos
  · exact q.2
theorem hin_ok {R : Nat} {F : Nat → Bool} {T : Nat → N4} {b : Nat} (hR : R ≤ 8) (hE : T (R + 1) = (1, 0, 0, 0)) (hb : b ≤ R) (h : ∀ c, b < c → c ≤ R + 1 → hok R c (T c)) : ∀ t, b + t ≤ R + 1 → (hin R F T b t).1 + 2 ^ (R + 1 - b - t) ≤ 2 ^ (R + 1 - b) ∧ ((hin R F T b t).1 = 0 → (hin R F T b t).2.1 = 10) ∧ hok R b (hin R F T b t)
  | 0, _ => by
    rw [hin, Nat.sub_zero]
    exact ⟨by show 0 + _ ≤ _; omega, fun _ => rfl, Nat.zero_le _, by show 10 ≤ 10; omega, Nat.zero_le _, fun q => absurd q (Nat.lt_irrefl 0), Nat.le_refl _⟩
  | t + 1, ht => by
    obtain ⟨i1, i0, i2, i3, i4, i5, i6⟩ := hin_ok (F := F) hR hE hb h t (by omega)
    have hp : 2 ^ (R + 1 - b - t) = 2 ^ (R + 1 - b - (t + 1)) + 2 ^ (R + 1 - b - (t + 1)) := by
      rw [show R + 1 - b - t = R + 1 - b - (t + 1) + 1 by omega, Nat.pow_succ]; omega
    rw [hin]
    split
    · rename_i hon1
      have hpos := hon_pos hE hon1
      obtain ⟨j1, j2, j3, j4, j5⟩ := h (b + t + 1) (by omega) (by omega)
      have j4 := (j4 hpos).1
      rw [show R + 1 - (b + t + 1) = R + 1 - b - (t + 1) by omega] at j1 j3 j4
      have hf : (hst (T (b + t + 1)) (hin R F T b t) (b + t + 1)).2.1 = if (T (b + t + 1)).2.1 + 1 < (hin R F T b t).2.1 then (T (b + t + 1)).2.1 + 1 else (hin R F T b t).2.1 := rfl
      have hn : (hst (T (b + t + 1)) (hin R F T b t) (b + t + 1)).2.2.2 = if (T (b + t + 1)).2.1 + 1 < (hin R F T b t).2.1 then b + t + 1 else (hin R F T b t).2.2.2 := rfl
      have hw : (hst (T (b + t + 1)) (hin R F T b t) (b + t + 1)).1 = (hin R F T b t).1 + (T (b + t + 1)).1 := rfl
      have hm : (hst (T (b + t + 1)) (hin R F T b t) (b + t + 1)).2.2.1 = max (hin R F T b t).2.2.1 ((T (b + t + 1)).2.2.1 + 1) := rfl
      unfold hok
      rw [hf, hn, hw, hm]
      refine ⟨by omega, fun q => by omega, by omega, ?_, by omega, fun _ => ⟨?_, fun _ => ⟨?_, by omega⟩⟩, ?_⟩
      · split <;> omega
      · split <;> omega
      · split
        · omega
        · rcases Nat.eq_zero_or_pos (hin R F T b t).1 with q | q
          · have := i0 q; omega
          · exact ((i5 q).2 hb).1
      · split <;> omega
    · exact ⟨by omega, i0, i2, i3, i4, i5, i6⟩
/-- what a table of hops must be -/
def hFP (R k : Nat) (F O : Nat → Bool) (T : Nat → N4) : Prop := T (R + 1) = (1, 0, 0, 0) ∧ ∀ b, b ≤ R → T b = hin R F T b (hfar R k O b)
theorem hT_FP (R k : Nat) (F O : Nat → Bool) : hFP R k F O (hT R k F O) := ⟨hT_end R k F O, fun _ h => hT_fix R k F O h⟩
theorem hFP.ok {R k : Nat} {F O : Nat → Bool} {T : Nat → N4} (hR : R ≤ 8) (h : hFP R k F O T) : ∀ n b, b + n = R + 1 → ∀ c, b ≤ c → c ≤ R + 1 → hok R c (T c)
  | 0, b, e, c, h1, h2 => by
    rw [show c = R + 1 by omega, h.1, hok, Nat.sub_self]
    exact ⟨Nat.le_refl _, Nat.zero_le _, Nat.le_refl _, fun _ => ⟨Nat.le_refl _, fun q => by omega⟩, Nat.zero_le _⟩
  | n + 1, b, e, c, h1, h2 => by
    rcases Nat.lt_or_ge b c with q | q
    · exact hFP.ok hR h n (b + 1) (by omega) c q h2
    · have hc : c = b := by omega
      subst hc
      rw [h.2 c (by omega)]
      exact (hin_ok hR h.1 (by omega) (fun c' h3 h4 => hFP.ok hR h n (c + 1) (by omega) c' h3 h4) _ (hfar_le R k O (by omega))).2.2
theorem hFP.at {R k : Nat} {F O : Nat → Bool} {T : Nat → N4} (hR : R ≤ 8) (h : hFP R k F O T) {b : Nat} (hb : b ≤ R + 1) : hok R b (T b) := hFP.ok hR h (R + 1) 0 (by omega) b (Nat.zero_le _) hb
/-- the next place: the least of those with the fewest hops left -/
def hnx (R : Nat) (F : Nat → Bool) (T : Nat → N4) (b t : Nat) (v : N4) : Prop := b < v.2.2.2 ∧ v.2.2.2 ≤ b + t ∧ hon R F T v.2.2.2 = true ∧ (T v.2.2.2).2.1 + 1 = v.2.1 ∧ ∀ c, b < c → c ≤ b + t → hon R F T c = true → v.2.1 ≤ (T c).2.1 + 1 ∧ (c < v.2.2.2 → v.2.1 < (T c).2.1 + 1)
theorem hin_nx {R : Nat} {F : Nat → Bool} {T : Nat → N4} {b : Nat} (hR : R ≤ 8) (hE : T (R + 1) = (1, 0, 0, 0)) (hb : b ≤ R) (h : ∀ c, b < c → c ≤ R + 1 → hok R c (T c)) : ∀ t, b + t ≤ R + 1 → ((hin R F T b t).1 = 0 → ∀ c, b < c → c ≤ b + t → hon R F T c = false) ∧ (0 < (hin R F T b t).1 → hnx R F T b t (hin R F T b t))
  | 0, _ => by
    rw [hin]
    exact ⟨fun _ c h1 h2 => by omega, fun q => absurd q (Nat.lt_irrefl 0)⟩
  | t + 1, ht => by
    obtain ⟨i1, i2⟩ := hin_nx (F := F) hR hE hb h t (by omega)
    have i0 := (hin_ok (F := F) hR hE hb h t (by omega)).2.1
    rw [hin]
    split
    · rename_i hon1
      have hpos := hon_pos hE hon1
      obtain ⟨j1, j2, j3, j4, j5⟩ := h (b + t + 1) (by omega) (by omega)
      have j4 := (j4 hpos).1
      have hw : (hst (T (b + t + 1)) (hin R F T b t) (b + t + 1)).1 = (hin R F T b t).1 + (T (b + t + 1)).1 := rfl
      refine ⟨fun q => by rw [hw] at q; omega, fun _ => ?_⟩
      by_cases hlt : (T (b + t + 1)).2.1 + 1 < (hin R F T b t).2.1
      · have hf : (hst (T (b + t + 1)) (hin R F T b t) (b + t + 1)).2.1 = (T (b + t + 1)).2.1 + 1 := if_pos hlt
        have hn : (hst (T (b + t + 1)) (hin R F T b t) (b + t + 1)).2.2.2 = b + t + 1 := if_pos hlt
        unfold hnx
        rw [hf, hn]
        refine ⟨by omega, by omega, hon1, rfl, fun c h1 h2 h3 => ?_⟩
        rcases Nat.eq_zero_or_pos (hin R F T b t).1 with q | q
        · by_cases hc : c = b + t + 1
          · rw [hc]; exact ⟨Nat.le_refl _, fun q => by omega⟩
          · rw [i1 q c h1 (by omega)] at h3; cases h3
        · by_cases hc : c = b + t + 1
          · rw [hc]; exact ⟨Nat.le_refl _, fun q => by omega⟩
          · have := ((i2 q).2.2.2.2 c h1 (by omega) h3).1
            exact ⟨by omega, fun _ => by omega⟩
      · have hf : (hst (T (b + t + 1)) (hin R F T b t) (b + t + 1)).2.1 = (hin R F T b t).2.1 := if_neg hlt
        have hn : (hst (T (b + t + 1)) (hin R F T b t) (b + t + 1)).2.2.2 = (hin R F T b t).2.2.2 := if_neg hlt
        have q : 0 < (hin R F T b t).1 := by
          rcases Nat.eq_zero_or_pos (hin R F T b t).1 with q | q
          · have := i0 q; omega
          · exact q
        obtain ⟨k1, k2, k3, k4, k5⟩ := i2 q
        unfold hnx
        rw [hf, hn]
        refine ⟨k1, by omega, k3, k4, fun c h1 h2 h3 => ?_⟩
        by_cases hc : c = b + t + 1
        · rw [hc]; exact ⟨by omega, fun q => by omega⟩
        · exact k5 c h1 (by omega) h3
    · rename_i hoff
      refine ⟨fun q c h1 h2 => ?_, fun q => ?_⟩
      · by_cases hc : c = b + t + 1
        · rw [hc]; exact Bool.eq_false_iff.mpr hoff
        · exact i1 q c h1 (by omega)
      · obtain ⟨k1, k2, k3, k4, k5⟩ := i2 q
        refine ⟨k1, by omega, k3, k4, fun c h1 h2 h3 => ?_⟩
        by_cases hc : c = b + t + 1
        · rw [hc] at h3; exact absurd h3 hoff
        · exact k5 c h1 (by omega) h3
theorem hFP.nx {R k : Nat} {F O : Nat → Bool} {T : Nat → N4} (hR : R ≤ 8) (h : hFP R k F O T) {b : Nat} (hb : b ≤ R) (hp : 0 < (T b).1) : hnx R F T b (hfar R k O b) (T b) := by
  rw [h.2 b hb] at hp ⊢
  exact (hin_nx hR h.1 hb (fun c h1 h2 => h.at hR h2) _ (hfar_le R k O (by omega))).2 hp

end
