/-! ===== how the plain machine's cells lie in the heap ===== -/
def zT : List Cond := lw_tbl.filter goodWord
theorem zT_in {w : Cond} (h : w ∈ lw_tbl) (g : goodWord w = true) : w ∈ zT := List.mem_filter.mpr ⟨h, g⟩
theorem zT_ok : GoodIn zT zT := fun _ h => ⟨h, good_of_word (List.mem_filter.mp h).2⟩
def zre (α : Nat → Nat) : Value → Value
  | .ref a => .ref (α a)
  | v => v
theorem zre_cat (α : Nat → Nat) (v : Value) : (zre α v).category = v.category := by cases v <;> rfl
theorem zcat_map (α : Nat → Nat) (l : List Value) : ((l.map (zre α)).map fun v => v.category).sum = zcat l := by
  induction l with
  | nil => rfl
  | cons v l ih =>
    show (zre α v).category + ((l.map (zre α)).map fun v => v.category).sum = v.category + zcat l
    rw [ih, zre_cat]
/-- locals as the kit lists them -/
def zal (α : Nat → Nat) : Nat → List Value → List (Nat × Value)
  | _, [] => []
  | i, v :: r => if v = .null then zal α (i + 1) r else (i, zre α v) :: zal α (i + 1) r
theorem zal_mem {α : Nat → Nat} {q : Nat × Value} : ∀ (lv : List Value) (i : Nat), q ∈ zal α i lv ↔ ∃ v, v ≠ .null ∧ i ≤ q.1 ∧ lv[q.1 - i]? = some v ∧ q.2 = zre α v
  | [], i => by simp [zal]
  | v :: r, i => by
    have ih := zal_mem (α := α) (q := q) r (i + 1)
    unfold zal
    by_cases hv : v = .null
    · rw [if_pos hv, ih]
      constructor
      · rintro ⟨u, h1, h2, h3, h4⟩
        refine ⟨u, h1, by omega, ?_, h4⟩
        rw [show q.1 - i = (q.1 - (i + 1)) + 1 by omega, List.getElem?_cons_succ]
        exact h3
      · rintro ⟨u, h1, h2, h3, h4⟩
        by_cases hi : q.1 = i
        · rw [hi, Nat.sub_self, List.getElem?_cons_zero] at h3
          cases h3
          exact absurd hv h1
        · refine ⟨u, h1, by omega, ?_, h4⟩
          rw [show q.1 - i = (q.1 - (i + 1)) + 1 by omega, List.getElem?_cons_succ] at h3
          exact h3
    · rw [if_neg hv, List.mem_cons, ih]
      constructor
      · rintro (h | ⟨u, h1, h2, h3, h4⟩)
        · subst h
          exact ⟨v, hv, Nat.le_refl _, by simp, rfl⟩
        · refine ⟨u, h1, by omega, ?_, h4⟩
          rw [show q.1 - i = (q.1 - (i + 1)) + 1 by omega, List.getElem?_cons_succ]
          exact h3
      · rintro ⟨u, h1, h2, h3, h4⟩
        by_cases hi : q.1 = i
        · left
          rw [hi, Nat.sub_self, List.getElem?_cons_zero] at h3
          cases h3
          exact Prod.ext hi h4
        · right
          refine ⟨u, h1, by omega, ?_, h4⟩
          rw [show q.1 - i = (q.1 - (i + 1)) + 1 by omega, List.getElem?_cons_succ] at h3
          exact h3
theorem zal_mem0 {α : Nat → Nat} {q : Nat × Value} {lv : List Value} : q ∈ zal α 0 lv ↔ ∃ v, v ≠ .null ∧ lv[q.1]? = some v ∧ q.2 = zre α v := by
  rw [zal_mem]
  constructor
  · rintro ⟨v, h1, -, h3, h4⟩
    exact ⟨v, h1, h3, h4⟩
  · rintro ⟨v, h1, h3, h4⟩
    exact ⟨v, h1, Nat.zero_le _, h3, h4⟩
theorem zlv_at {α : Nat → Nat} {ls : Array Slot} {nL k : Nat} {lv : List Value} {v : Value} (h : lv_has ls nL (zal α 0 lv)) (hv : lv.getD k .null = v) (hn : v ≠ .null) : ls[k]? = some (.val (zre α v)) := by
  refine h.2.2 (k, zre α v) (zal_mem0.mpr ⟨v, hn, ?_, rfl⟩)
  rw [List.getD_eq_getElem?_getD] at hv
  cases hk : lv[k]? with
  | none => rw [hk] at hv; exact absurd hv.symm hn
  | some u => rw [hk] at hv; exact congrArg some hv
theorem lkill_len (lv : List Value) (k : Nat) : (lkill lv k).length = lv.length := by
  cases k with
  | zero => rfl
  | succ k =>
    simp only [lkill]
    split <;> simp
theorem lset_len (lv : List Value) (k : Nat) (v : Value) : (lset lv k v).length = lv.length := by simp [lset, lkill_len]
theorem lset2_len (lv : List Value) (k : Nat) (v : Value) : (lset2 lv k v).length = lv.length := by simp [lset2, lkill_len]
theorem lkill_at {lv : List Value} {k j : Nat} {u : Value} (h : (lkill lv k)[j]? = some u) (hu : u ≠ .null) : lv[j]? = some u ∧ ¬ (j + 1 = k ∧ u.category = 2) := by
  cases k with
  | zero => exact ⟨h, fun q => by omega⟩
  | succ k =>
    simp only [lkill] at h
    have key : ∀ w, lv.getD k .null = w → w.category = 2 → (lv.set k .null)[j]? = some u → lv[j]? = some u ∧ ¬ (j + 1 = k + 1 ∧ u.category = 2) := by
      intro w hw hc h
      rw [List.getElem?_set] at h
      by_cases hj : k = j
      · subst hj
        rw [if_pos rfl] at h
        split at h
        · exact absurd (Option.some.inj h).symm hu
        · cases h
      · rw [if_neg hj] at h
        exact ⟨h, fun q => hj (by omega)⟩
    split at h
    · rename_i x hx
      exact key _ hx rfl h
    · rename_i x hx
      exact key _ hx rfl h
    · rename_i x hx1 hx2
      refine ⟨h, fun q => ?_⟩
      obtain ⟨q1, q2⟩ := q
      have hj : j = k := by omega
      subst hj
      have hw : lv.getD j .null = u := by rw [List.getD_eq_getElem?_getD, h]; rfl
      cases u with
      | long x => exact hx1 x hw
      | double x => exact hx2 x hw
      | _ => simp [Value.category] at q2
theorem zlv_put {α : Nat → Nat} {ls : Array Slot} {nL k : Nat} {lv : List Value} {v : Value} (h : lv_has ls nL ((k, zre α v) :: (zal α 0 lv).filter (fun q => !(q.1 == k) && !(q.1 + 1 == k && q.2.category == 2)))) : lv_has ls nL (zal α 0 (lset lv k v)) := by
  refine ⟨h.1, h.2.1, fun q hq => h.2.2 q ?_⟩
  obtain ⟨u, h1, h2, h3⟩ := zal_mem0.mp hq
  unfold lset at h2
  rw [List.getElem?_set] at h2
  by_cases hk : k = q.1
  · rw [if_pos hk] at h2
    split at h2
    · cases h2
      exact List.mem_cons.mpr (Or.inl (Prod.ext hk.symm h3))
    · cases h2
  · rw [if_neg hk] at h2
    obtain ⟨a1, a2⟩ := lkill_at h2 h1
    refine List.mem_cons_of_mem _ (List.mem_filter.mpr ⟨zal_mem0.mpr ⟨u, h1, a1, h3⟩, ?_⟩)
    have e1 : (q.1 == k) = false := by simpa using fun q => hk q.symm
    have e2 : (q.1 + 1 == k && q.2.category == 2) = false := by
      rw [h3, zre_cat]
      cases hc : (q.1 + 1 == k && u.category == 2) with
      | false => rfl
      | true =>
        simp at hc
        exact absurd hc a2
    simp only [e1, e2]
    rfl
theorem zlv_put2 {α : Nat → Nat} {ls : Array Slot} {nL k : Nat} {lv : List Value} {v : Value} (h : lv_has ls nL ((k, zre α v) :: (zal α 0 lv).filter (fun q => !(q.1 == k) && (!(q.1 == k + 1) && !(q.1 + 1 == k && q.2.category == 2))))) : lv_has ls nL (zal α 0 (lset2 lv k v)) := by
  refine ⟨h.1, h.2.1, fun q hq => h.2.2 q ?_⟩
  obtain ⟨u, h1, h2, h3⟩ := zal_mem0.mp hq
  unfold lset2 at h2
  rw [List.getElem?_set] at h2
  by_cases hk1 : k + 1 = q.1
  · rw [if_pos hk1] at h2
    split at h2
    · exact absurd (Option.some.inj h2).symm h1
    · cases h2
  · rw [if_neg hk1, List.getElem?_set] at h2
    by_cases hk : k = q.1
    · rw [if_pos hk] at h2
      split at h2
      · cases h2
        exact List.mem_cons.mpr (Or.inl (Prod.ext hk.symm h3))
      · cases h2
    · rw [if_neg hk] at h2
      obtain ⟨a1, a2⟩ := lkill_at h2 h1
      refine List.mem_cons_of_mem _ (List.mem_filter.mpr ⟨zal_mem0.mpr ⟨u, h1, a1, h3⟩, ?_⟩)
      have e1 : (q.1 == k) = false := by simpa using fun q => hk q.symm
      have e0 : (q.1 == k + 1) = false := by simpa using fun q => hk1 q.symm
      have e2 : (q.1 + 1 == k && q.2.category == 2) = false := by
        rw [h3, zre_cat]
        cases hc : (q.1 + 1 == k && u.category == 2) with
        | false => rfl
        | true =>
          simp at hc
          exact absurd hc a2
      simp only [e1, e0, e2]
      rfl
theorem lg_cons (v : Value) (vs : List Value) : lg_sl (v :: vs) = (if v.category = 2 then [Slot.val v, Slot.second] else [Slot.val v]) ++ lg_sl vs := by simp [lg_sl]
theorem zslots_len (α : Nat → Nat) : ∀ args : List Value, (lg_sl (args.map (zre α))).length = (zslots args).length ∨ ∃ x, Value.double x ∈ args
  | [] => Or.inl rfl
  | v :: r => by
    rcases zslots_len α r with h | ⟨x, hx⟩
    · rw [List.map_cons, lg_cons, List.length_append, h]
      cases v with
      | double x => exact Or.inr ⟨x, List.mem_cons_self⟩
      | long x => left; simp [zre, zslots, Value.category]; omega
      | _ => left; simp [zre, zslots, Value.category]; omega
    · exact Or.inr ⟨x, List.mem_cons_of_mem _ hx⟩
theorem zslots_args (α : Nat → Nat) : ∀ (args : List Value) (i j : Nat) (v : Value), (zslots args)[j]? = some v → v ≠ .null → (i + j, zre α v) ∈ lv_args i (args.map (zre α)) ∨ ∃ x, Value.double x ∈ args
  | [], i, j, v, h, hn => by simp [zslots] at h
  | w :: r, i, j, v, h, hn => by
    have st : ∀ (k : Nat), (∀ x, w ≠ .double x) → (if (zre α w).category = 2 then i + 2 else i + 1) = i + k → (zslots r)[j - k]? = some v → k ≤ j → (i + j, zre α v) ∈ lv_args i ((w :: r).map (zre α)) ∨ ∃ x, Value.double x ∈ w :: r := by
      intro k hd hk h hle
      rcases zslots_args α r (i + k) (j - k) v h hn with q | ⟨x, hx⟩
      · left
        show _ ∈ (i, zre α w) :: lv_args (if (zre α w).category = 2 then i + 2 else i + 1) (r.map (zre α))
        rw [hk]
        rw [show i + j = i + k + (j - k) by omega]
        exact List.mem_cons_of_mem _ q
      · exact Or.inr ⟨x, List.mem_cons_of_mem _ hx⟩
    have hd0 : j = 0 → w = v → (i + j, zre α v) ∈ lv_args i ((w :: r).map (zre α)) ∨ ∃ x, Value.double x ∈ w :: r := by
      intro hj hw
      subst hj; subst hw
      left
      exact List.mem_cons_self
    cases w with
    | double x => exact Or.inr ⟨x, List.mem_cons_self⟩
    | long x =>
      simp only [zslots] at h
      match j, h with
      | 0, h => exact hd0 rfl (Option.some.inj h)
      | 1, h => exact absurd (Option.some.inj h).symm hn
      | j + 2, h => exact st 2 (fun x h => by cases h) rfl h (by omega)
    | int x =>
      simp only [zslots] at h
      match j, h with
      | 0, h => exact hd0 rfl (Option.some.inj h)
      | j + 1, h => exact st 1 (fun x h => by cases h) rfl h (by omega)
    | float x =>
      simp only [zslots] at h
      match j, h with
      | 0, h => exact hd0 rfl (Option.some.inj h)
      | j + 1, h => exact st 1 (fun x h => by cases h) rfl h (by omega)
    | null =>
      simp only [zslots] at h
      match j, h with
      | 0, h => exact hd0 rfl (Option.some.inj h)
      | j + 1, h => exact st 1 (fun x h => by cases h) rfl h (by omega)
    | ref x =>
      simp only [zslots] at h
      match j, h with
      | 0, h => exact hd0 rfl (Option.some.inj h)
      | j + 1, h => exact st 1 (fun x h => by cases h) rfl h (by omega)
    | retAddr x =>
      simp only [zslots] at h
      match j, h with
      | 0, h => exact hd0 rfl (Option.some.inj h)
      | j + 1, h => exact st 1 (fun x h => by cases h) rfl h (by omega)
theorem znd_no : ∀ {l : List Value}, znd l = true → ¬ ∃ x, Value.double x ∈ l
  | [], _ => by simp
  | v :: r, h => by
    rintro ⟨x, hx⟩
    rcases List.mem_cons.mp hx with q | q
    · subst q; simp [znd] at h
    · cases v <;> first | (simp [znd] at h; done) | exact znd_no (l := r) (by simpa [znd] using h) ⟨x, q⟩
theorem zent_len {maxL : Nat} {args : List Value} (h : (zslots args).length ≤ maxL) : (zent maxL args).length = maxL := by simp [zent]; omega
theorem zlv_entry (α : Nat → Nat) {maxL : Nat} {args : List Value} (hd : znd args = true) (hl : (zslots args).length ≤ maxL) : lv_has ((lg_sl (args.map (zre α)) ++ List.replicate (maxL - (lg_sl (args.map (zre α))).length) Slot.unset).toArray) maxL (zal α 0 (zent maxL args)) := by
  have hlen := (zslots_len α args).resolve_right (znd_no hd)
  have h := lv_entry (args.map (zre α)) (n := maxL) (by rw [hlen]; exact hl)
  refine ⟨h.1, h.2.1, fun q hq => h.2.2 q ?_⟩
  obtain ⟨v, h1, h2, h3⟩ := zal_mem0.mp hq
  unfold zent at h2
  by_cases hj : q.1 < (zslots args).length
  · rw [List.getElem?_append_left hj] at h2
    have := (zslots_args α args 0 q.1 v h2 h1).resolve_right (znd_no hd)
    rw [Nat.zero_add, ← h3] at this
    exact this
  · rw [List.getElem?_append_right (by omega), List.getElem?_replicate] at h2
    split at h2
    · exact absurd (Option.some.inj h2).symm h1
    · cases h2
