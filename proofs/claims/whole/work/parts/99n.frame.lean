/-! ===== what a run can't reach stays as it was ===== -/
def zvD (D : Nat → Prop) : List Value → Prop
  | [] => True
  | .ref a :: r => D a ∧ zvD D r
  | _ :: r => zvD D r
theorem zvD_iff {D : Nat → Prop} : ∀ {l : List Value}, zvD D l ↔ ∀ a, Value.ref a ∈ l → D a
  | [] => by simp [zvD]
  | v :: r => by
    have ih := zvD_iff (D := D) (l := r)
    cases v with
    | ref a =>
      show (D a ∧ zvD D r) ↔ _
      rw [ih]
      constructor
      · rintro ⟨h1, h2⟩ b hb
        rcases List.mem_cons.mp hb with q | q
        · cases q; exact h1
        · exact h2 b q
      · exact fun h => ⟨h a List.mem_cons_self, fun b hb => h b (List.mem_cons_of_mem _ hb)⟩
    | _ =>
      show zvD D r ↔ _
      rw [ih]
      constructor
      · intro h b hb
        rcases List.mem_cons.mp hb with q | q
        · cases q
        · exact h b q
      · exact fun h b hb => h b (List.mem_cons_of_mem _ hb)
theorem zvD_get {D : Nat → Prop} {lv : List Value} {k a : Nat} (h : zvD D lv) (e : lv.getD k .null = .ref a) : D a := by
  refine zvD_iff.mp h a ?_
  rw [List.getD_eq_getElem?_getD] at e
  cases hk : lv[k]? with
  | none => rw [hk] at e; cases e
  | some u => rw [hk] at e; cases e; exact List.mem_of_getElem? hk
theorem zvD_set {D : Nat → Prop} {lv : List Value} {k : Nat} {v : Value} (h : zvD D lv) (hv : ∀ a, v = .ref a → D a) : zvD D (lv.set k v) := by
  refine zvD_iff.mpr fun a ha => ?_
  rcases List.mem_or_eq_of_mem_set ha with q | q
  · exact zvD_iff.mp h a q
  · exact hv a q.symm
theorem zvD_kill {D : Nat → Prop} {lv : List Value} {k : Nat} (h : zvD D lv) : zvD D (lkill lv k) := by
  cases k with
  | zero => exact h
  | succ k =>
    simp only [lkill]
    split
    · exact zvD_set h (fun a q => by cases q)
    · exact zvD_set h (fun a q => by cases q)
    · exact h
theorem zvD_ls {D : Nat → Prop} {lv : List Value} {k : Nat} {v : Value} (h : zvD D lv) (hv : ∀ a, v = .ref a → D a) : zvD D (lset lv k v) := zvD_set (zvD_kill h) hv
theorem zvD_ls2 {D : Nat → Prop} {lv : List Value} {k : Nat} {v : Value} (h : zvD D lv) (hv : ∀ a, v = .ref a → D a) : zvD D (lset2 lv k v) := zvD_set (zvD_set (zvD_kill h) hv) (fun a q => by cases q)
theorem zvD_drop {D : Nat → Prop} {l : List Value} {k : Nat} (h : zvD D l) : zvD D (l.drop k) := zvD_iff.mpr fun a ha => zvD_iff.mp h a (List.mem_of_mem_drop ha)
theorem zvD_take {D : Nat → Prop} {l : List Value} {k : Nat} (h : zvD D l) : zvD D (l.take k).reverse := zvD_iff.mpr fun a ha => zvD_iff.mp h a (List.mem_of_mem_take (List.mem_reverse.mp ha))
theorem zvD_slots {D : Nat → Prop} : ∀ {l : List Value}, zvD D l → zvD D (zslots l)
  | [], _ => trivial
  | v :: r, h => by
    cases v with
    | ref a => exact ⟨h.1, zvD_slots h.2⟩
    | long x => exact zvD_slots (l := r) h
    | _ => exact zvD_slots (l := r) h
theorem zvD_ent {D : Nat → Prop} {l : List Value} {k : Nat} (h : zvD D l) : zvD D (zent k l) := by
  refine zvD_iff.mpr fun a ha => ?_
  rcases List.mem_append.mp ha with q | q
  · exact zvD_iff.mp (zvD_slots h) a q
  · exact absurd (List.eq_of_mem_replicate q) (by simp)
def zFr (D : Nat → Prop) (h h' : zH) : Prop := (∀ a, ¬ D a → h'.1 a = h.1 a) ∧ (∀ a, ¬ D a → h'.2.1 a = h.2.1 a) ∧ (∀ a, ¬ D a → h'.2.2.1 a = h.2.2.1 a)
def zcD (D : Nat → Prop) (h : zH) : Prop := h.2.2.2.1 = 65 ∧ ∀ a k b, D a → h.2.2.1 a k = some b → D b
def zPr (D : Nat → Prop) (h : zH) (o : zO) : Prop := zFr D h o.2 ∧ zcD D o.2
theorem zFr.tr {D : Nat → Prop} {h h1 : zH} {o : zO} (q : zFr D h h1) (r : zPr D h1 o) : zPr D h o :=
  ⟨⟨fun a ha => (r.1.1 a ha).trans (q.1 a ha), fun a ha => (r.1.2.1 a ha).trans (q.2.1 a ha), fun a ha => (r.1.2.2 a ha).trans (q.2.2 a ha)⟩, r.2⟩
theorem zFr.rf {D : Nat → Prop} (h : zH) : zFr D h h := ⟨fun _ _ => rfl, fun _ _ => rfl, fun _ _ => rfl⟩
theorem zFr_r {D : Nat → Prop} {h : zH} {a : Nat} {r : Nat → Int32} (ha : D a) : zFr D h (zrow h.1 a r, h.2) := ⟨fun b hb => zrow_ne _ _ (fun q => hb (by rw [q]; exact ha)), fun _ _ => rfl, fun _ _ => rfl⟩
theorem zFr_i {D : Nat → Prop} {h : zH} {a k : Nat} {v : Int32} (ha : D a) : zFr D h (zup h.1 a k v, h.2) := zFr_r ha
theorem zFr_l {D : Nat → Prop} {h : zH} {a k : Nat} {v : Int64} (ha : D a) : zFr D h (h.1, zup h.2.1 a k v, h.2.2) := ⟨fun _ _ => rfl, fun b hb => zup_ne _ _ _ (fun q => hb (by rw [q]; exact ha)), fun _ _ => rfl⟩
theorem zFr_f {D : Nat → Prop} {h : zH} {a k : Nat} {v : Option Nat} (ha : D a) : zFr D h (h.1, h.2.1, zup h.2.2.1 a k v, h.2.2.2) := ⟨fun _ _ => rfl, fun _ _ => rfl, fun b hb => zup_ne _ _ _ (fun q => hb (by rw [q]; exact ha))⟩
theorem zcD_f {D : Nat → Prop} {h : zH} {a k v : Nat} (hc : zcD D h) (hv : D v) : zcD D (h.1, h.2.1, zup h.2.2.1 a k (some v), h.2.2.2) := by
  refine ⟨hc.1, fun b j w hb e => ?_⟩
  dsimp only at e
  unfold zup zrow zset at e
  split at e
  · dsimp only at e
    split at e
    · cases e; exact hv
    · rename_i q _; subst q; exact hc.2 _ _ _ hb e
  · exact hc.2 _ _ _ hb e
theorem zshp65 {h : zH} {D : Nat → Prop} (hc : zcD D h) : shp h.2.2.2.1 = 0 := by rw [hc.1]; rfl
set_option maxHeartbeats 4000000 in
theorem stp_frame {D : Nat → Prop} {g : Bool → Nat → List Value → zH → Option zO} {f : Nat → List Value → List Value → zH → Option zO} {op : Instr} {i : Nat} {lv st : List Value} {h : zH} {o : zO} (hop : ∀ t, op = .newarray t → aty t ≠ 0)
    (hg : ∀ b m a h o, g b m a h = some o → zvD D a → zcD D h → zPr D h o) (hf : ∀ i lv st h o, f i lv st h = some o → zvD D lv → zvD D st → zcD D h → zPr D h o) (hs : stp g f op i lv st h = some o) (hlv : zvD D lv) (hst : zvD D st) (hc : zcD D h) : zPr D h o := by
  unfold stp at hs
  split at hs
  all_goals (try (split at hs))
  all_goals (try (split at hs))
  all_goals (try (split at hs))
  all_goals (try (split at hs))
  all_goals (try (split at hs))
  all_goals (try (cases hs; done))
  all_goals (try (exact hf _ _ _ _ _ hs hlv hst hc))
  all_goals (try (exact hf _ _ _ _ _ hs hlv hst.2 hc))
  all_goals (try (exact hf _ _ _ _ _ hs hlv ⟨hst.1, hst⟩ hc))
  all_goals (try (exact hf _ _ _ _ _ hs hlv ⟨hst.1, hst.1, hst.2⟩ hc))
  all_goals (try (exact hf _ _ _ _ _ hs hlv ⟨zvD_get hlv (by assumption), hst⟩ hc))
  all_goals (try (exact hf _ _ _ _ _ hs (zvD_ls hlv (fun a q => by cases q)) hst hc))
  all_goals (try (exact hf _ _ _ _ _ hs (zvD_ls2 hlv (fun a q => by cases q)) hst hc))
  all_goals (try (exact hf _ _ _ _ _ hs (zvD_ls hlv (fun a q => by cases q; exact hst.1)) hst.2 hc))
  all_goals (try (exact hf _ _ _ _ _ hs hlv ⟨hc.2 _ _ _ hst.1 (by assumption), hst.2⟩ hc))
  all_goals (try (exact (zFr_i hst.1).tr (hf _ _ _ _ _ hs hlv hst.2 hc)))
  all_goals (try (exact (zFr_l hst.1).tr (hf _ _ _ _ _ hs hlv hst.2 hc)))
  all_goals (try (exact (zFr_f hst.2.1).tr (hf _ _ _ _ _ hs hlv hst.2.2 (zcD_f hc hst.1))))
  all_goals (try (exact (zFr_r hst.1).tr (hf _ _ _ _ _ hs hlv hst.2.2 hc)))
  all_goals (try (cases hs; exact ⟨⟨fun _ _ => rfl, fun _ _ => rfl, fun _ _ => rfl⟩, hc⟩))
  all_goals (try (obtain ⟨t, ht⟩ := zsw_some _ _ hs; exact hf _ _ _ _ _ ht hlv hst hc))
  all_goals (try (obtain ⟨t, ht⟩ := zlk_some _ hs; exact hf _ _ _ _ _ ht hlv hst hc))
  all_goals (try (obtain ⟨h1, q1, q2⟩ := bV_some hs; have q3 := hg _ _ _ _ _ q1 (zvD_take hst) hc; exact q3.1.tr (hf _ _ _ _ _ q2 hlv (zvD_drop hst) q3.2)))
  all_goals (try (obtain ⟨v, h1, q1, q2⟩ := bI_some hs; have q3 := hg _ _ _ _ _ q1 (zvD_take hst) hc; exact q3.1.tr (hf _ _ _ _ _ q2 hlv (zvD_drop hst) q3.2)))
  all_goals (try (obtain ⟨v, h1, q1, q2⟩ := bL_some hs; have q3 := hg _ _ _ _ _ q1 (zvD_take hst) hc; exact q3.1.tr (hf _ _ _ _ _ q2 hlv (zvD_drop hst) q3.2)))
  all_goals (try (rcases bT_some hs with ⟨k, h1, q1, q2⟩ | ⟨v, h1, q1, q2⟩ | ⟨v, h1, q1, q2⟩ <;> (have q3 := hg _ _ _ _ _ q1 (zvD_take hst) hc; first | exact q3.1.tr (hf _ _ _ _ _ q2 hlv (zvD_drop hst) q3.2) | exact q3.1.tr (hf _ _ _ _ _ q2 (zvD_ls hlv (fun a q => by cases q)) trivial q3.2))))
  all_goals (try (rename_i hb; rw [zshp65 hc] at hb; exfalso; simp only [Bool.and_eq_true] at hb; have q2 := Nat.eq_of_beq_eq_true hb.1; omega))
  all_goals (try (rename_i hb _; rw [zshp65 hc] at hb; exfalso; have q1 := hop _ rfl; simp only [Bool.and_eq_true] at hb; have q2 := Nat.eq_of_beq_eq_true hb.1; omega))
theorem ex_frame {D : Nat → Prop} : ∀ n d M i lv st h o, ex n d M i lv st h = some o → zvD D lv → zvD D st → zcD D h → zPr D h o
  | 0, _, _, _, _, _, _, _, q => by cases q
  | n + 1, d, M, i, lv, st, h, o, q => by
    intro h1 h2 h3
    unfold ex at q
    cases hop : nth (codeOf M) i with
    | none => rw [hop] at q; cases q
    | some op =>
      rw [hop] at q
      obtain ⟨r, hr, hop'⟩ := code_rec hop
      refine stp_frame ?_ ?_ (fun i lv st h o => ex_frame n d M i lv st h o) q h1 h2 h3
      · intro t ht
        subst ht
        obtain ⟨ri, len, -, hc, -⟩ := zchk_at hr hop'
        unfold zchk1 at hc
        simp only [Bool.and_eq_true] at hc
        have := Nat.le_of_ble_eq_true hc.1.2
        omega
      · intro b m a h o q ha hc
        cases b with
        | false => exact ex_frame n d m _ _ _ _ _ (gb_some q).2 (zvD_ent ha) trivial hc
        | true => cases d with
          | zero => cases q
          | succ d => exact ex_frame n d m _ _ _ _ _ (gb_some (F := ex n) (d := d) q).2 (zvD_ent ha) trivial hc
/-- a call leaves alone what its arguments don't reach -/
theorem cal_frame {D : Nat → Prop} {d m : Nat} {args : List Value} {h : zH} {o : zO} (q : cal d m args h = some o) (ha : zvD D args) (hc : zcD D h) : zPr D h o := by
  obtain ⟨n, hn⟩ := res_iff.mp (gb_some q).2
  exact ex_frame n d m _ _ _ _ _ hn (zvD_ent ha) trivial hc
