/-! ===== what a run keeps ===== -/
def zKp (h h' : zH) : Prop := h'.1 998 = h.1 998 ∧ h'.1 999 = h.1 999 ∧ h.2.2.2.1 ≤ h'.2.2.2.1 ∧ h.2.2.2.2 ≤ h'.2.2.2.2
theorem zKp.rf (h : zH) : zKp h h := ⟨rfl, rfl, Nat.le_refl _, Nat.le_refl _⟩
theorem zKp.tr {a b c : zH} (h1 : zKp a b) (h2 : zKp b c) : zKp a c := ⟨h2.1.trans h1.1, h2.2.1.trans h1.2.1, Nat.le_trans h1.2.2.1 h2.2.2.1, Nat.le_trans h1.2.2.2 h2.2.2.2⟩
theorem zsl_mono {a b : Nat} (h : a ≤ b) : zsl a ≤ zsl b := by
  obtain ⟨k, rfl⟩ := Nat.le.dest h
  induction k with
  | zero => exact Nat.le_refl _
  | succ k ih => exact Nat.le_trans (ih (Nat.le_add_right _ _)) (Nat.le_add_right _ _)
theorem zKp.cc {a b : zH} (h : zKp a b) : zcc a ≤ zcc b := Nat.add_le_add h.2.2.1 h.2.2.2
theorem zKp.ss {a b : zH} (h : zKp a b) : zss a ≤ zss b := Nat.add_le_add (zsl_mono h.2.2.1) (Nat.mul_le_mul_left 6 h.2.2.2)
theorem zKp_up {h : zH} {a k : Nat} {v : Int32} (hs : shp a ≠ 0) : zKp h (zup h.1 a k v, h.2) := by
  have := (shp_in hs).2
  exact ⟨zup_ne _ _ _ (by omega), zup_ne _ _ _ (by omega), Nat.le_refl _, Nat.le_refl _⟩
theorem zKp_f {h : zH} {a k c : Nat} {v : Int32} (hf : (fok c a && zn h.2.2.2.1 a) = true) : zKp h (zup h.1 a k v, h.2) := by
  rw [Bool.and_eq_true] at hf
  exact zKp_up (by have := fok_shp hf.1; omega)
theorem zKp_a {h : zH} {a k t : Nat} {j v : Int32} (ht : t ≠ 0) (hf : aok t a j = true) : zKp h (zup h.1 a k v, h.2) := zKp_up (by rw [(aok_in hf).1]; exact ht)
theorem zKp_r {h : zH} {R' : Nat → Nat → Option Nat} : zKp h (h.1, h.2.1, R', h.2.2.2) := ⟨rfl, rfl, Nat.le_refl _, Nat.le_refl _⟩
theorem zKp_l {h : zH} {L' : Nat → Nat → Int64} : zKp h (h.1, L', h.2.2) := ⟨rfl, rfl, Nat.le_refl _, Nat.le_refl _⟩
theorem zKp_row {h : zH} {a : Nat} {f : Nat → Int32} (hs : shp a ≠ 0) : zKp h (zrow h.1 a f, h.2) := by
  have := (shp_in hs).2
  exact ⟨zrow_ne _ _ (by omega), zrow_ne _ _ (by omega), Nat.le_refl _, Nat.le_refl _⟩
theorem zKp_c {h : zH} {a0 a : Nat} {sp dp n : Int32} {f : Nat → Int32} (hf : zcp a0 sp a dp n = true) : zKp h (zrow h.1 a f, h.2) := by
  unfold zcp at hf
  simp only [Bool.and_eq_true] at hf
  exact zKp_row (by have := Nat.eq_of_beq_eq_true hf.1.1.1.1.1.2; omega)
theorem zKp_n {h : zH} {L' : Nat → Nat → Int64} {R' : Nat → Nat → Option Nat} {t : Nat} {f : Nat → Int32} (ht : t ≠ 0) (hf : (Nat.beq (shp h.2.2.2.1) t && Nat.beq h.2.2.2.2 0) = true) : zKp h (zrow h.1 h.2.2.2.1 f, L', R', h.2.2.2.1 + 1, h.2.2.2.2) := by
  rw [Bool.and_eq_true] at hf
  have h1 := Nat.eq_of_beq_eq_true hf.1
  have := (shp_in (a := h.2.2.2.1) (by omega)).2
  exact ⟨zrow_ne _ _ (by omega), zrow_ne _ _ (by omega), Nat.le_succ _, Nat.le_refl _⟩
theorem zKp_x {h : zH} : zKp h (h.1, h.2.1, h.2.2.1, h.2.2.2.1, h.2.2.2.2 + 1) := ⟨rfl, rfl, Nat.le_refl _, Nat.le_succ _⟩
theorem zsw_some {f : Nat → Option zO} {x : Int32} {d : Nat} {o : zO} (ts : List Int) (lo : Int) (h : zsw f x lo ts d = some o) : ∃ t, f t = some o := by
  rcases zsw_sel ts lo h with ⟨q, t, -, -, h3⟩ | ⟨-, h3⟩
  · exact ⟨_, h3⟩
  · exact ⟨_, h3⟩
theorem zlk_some {f : Nat → Option zO} {x : Int32} {d : Nat} {o : zO} : ∀ (ts : List (Int × Int)), zlk f x ts d = some o → ∃ t, f t = some o
  | [], h => ⟨_, h⟩
  | (a, t) :: ts, h => by
    unfold zlk at h
    split at h
    · exact ⟨_, h⟩
    · exact zlk_some ts h
set_option maxHeartbeats 4000000 in
theorem stp_keep {g : Bool → Nat → List Value → zH → Option zO} {f : Nat → List Value → List Value → zH → Option zO} {op : Instr} {i : Nat} {lv st : List Value} {h : zH} {o : zO} (hop : ∀ t, op = .newarray t → aty t ≠ 0) (hg : ∀ b m a h o, g b m a h = some o → zKp h o.2) (hf : ∀ i lv st h o, f i lv st h = some o → zKp h o.2) (hs : stp g f op i lv st h = some o) : zKp h o.2 := by
  unfold stp at hs
  split at hs
  all_goals (try (split at hs))
  all_goals (try (split at hs))
  all_goals (try (split at hs))
  all_goals (try (split at hs))
  all_goals (try (split at hs))
  all_goals (try (cases hs; done))
  all_goals (try (exact hf _ _ _ _ _ hs))
  all_goals (try (exact (zKp_f (by assumption)).tr (hf _ _ _ _ _ hs)))
  all_goals (try (refine (zKp_a ?_ (by assumption)).tr (hf _ _ _ _ _ hs); decide; done))
  all_goals (try (exact zKp_r.tr (hf _ _ _ _ _ hs)))
  all_goals (try (exact zKp_l.tr (hf _ _ _ _ _ hs)))
  all_goals (try (exact (zKp_c (by assumption)).tr (hf _ _ _ _ _ hs)))
  all_goals (try (refine (zKp_n ?_ (by assumption)).tr (hf _ _ _ _ _ hs); omega; done))
  all_goals (try (exact (zKp_n (hop _ rfl) (by assumption)).tr (hf _ _ _ _ _ hs)))
  all_goals (try (cases hs; first | exact zKp_x | exact zKp.rf _))
  all_goals (try (obtain ⟨t, ht⟩ := zsw_some _ _ hs; exact hf _ _ _ _ _ ht))
  all_goals (try (obtain ⟨t, ht⟩ := zlk_some _ hs; exact hf _ _ _ _ _ ht))
  all_goals (try (obtain ⟨h1, q1, q2⟩ := bV_some hs; exact (hg _ _ _ _ _ q1).tr (hf _ _ _ _ _ q2)))
  all_goals (try (obtain ⟨v, h1, q1, q2⟩ := bI_some hs; exact (hg _ _ _ _ _ q1).tr (hf _ _ _ _ _ q2)))
  all_goals (try (obtain ⟨v, h1, q1, q2⟩ := bL_some hs; exact (hg _ _ _ _ _ q1).tr (hf _ _ _ _ _ q2)))
  all_goals (try (rcases bT_some hs with ⟨k, h1, q1, q2⟩ | ⟨v, h1, q1, q2⟩ | ⟨v, h1, q1, q2⟩ <;> exact (hg _ _ _ _ _ q1).tr (hf _ _ _ _ _ q2)))
