abbrev zGt : Type := Nat × Nat × Nat × (Nat → Int32) × (Nat → ClassId) × va_G
def zad (G : zGt) (id : Nat) : Nat := if id = 999 then G.2.1 else G.1 + id
def zfkL : List (List Nat) := [[1, 1, 0], [1, 1, 0, 0], [1, 1, 0, 0, 0], [1, 1, 1, 1, 0, 0, 0, 0], [1, 1, 0, 0, 1, 0, 0], [1, 1, 0], [1, 1, 1], [1, 0], [1, 0], [1, 1, 1, 1, 1, 1, 1, 1, 1, 1, 1, 1, 1], [1, 0, 0, 0, 1, 1, 1, 0, 1, 0, 0, 1, 0, 0, 0, 0, 1, 1, 1, 1, 0, 2, 1, 1, 1, 1, 1, 0, 1, 1, 0, 1, 1, 1, 1, 0, 1, 1, 0, 1, 1, 0, 0, 1, 1, 1]]
def zfkd (c k : Nat) : Nat := (nth ((nth zfkL c).getD []) k).getD 0
def zNf (c : Nat) : Nat := ((nth zfkL c).getD []).length
def zfv (G : zGt) (h : zH) (id kd k : Nat) : Value := if kd = 1 then (match h.2.2.1 id k with
  | none => .null
  | some b => .ref (zad G b)) else .int (h.1 id k)
def zfs (G : zGt) (h : zH) (id c : Nat) : List Value := (List.range (zNf c)).map (fun k => zfv G h id (zfkd c k) k)
def zE (G : zGt) (h : zH) (id : Nat) : Nat × va_E := (zad G id, if 10 ≤ shp id then .inr (shp id - 10, zfs G h id (shp id - 10)) else if shp id = 2 then .inl (G.2.2.2.2.1 2, sln id, .inr (.inl (h.2.1 id))) else .inl (G.2.2.2.2.1 (shp id), sln id, .inl (h.1 id)))
def ztys (cA : Nat → ClassId) : List (ClassId × FieldType) := [(cA 1, .int), (cA 2, .long), (cA 3, .byte), (cA 4, .char), (cA 5, .boolean)]
def zRep (G : zGt) (h : zH) (H : Heap) : Prop := (∀ id, 1 ≤ id → id < h.2.2.2.1 → va_at G.2.2.2.2.2 vwCl (zE G h id) H) ∧ (h.2.2.2.2 = 0 → H.size = G.1 + h.2.2.2.1) ∧ h.2.2.2.1 ≤ 65
def zsz (id : Nat) : Nat := if 10 ≤ shp id then zNf (shp id - 10) else sln id
def zsl : Nat → Nat
  | 0 => 0
  | n + 1 => zsl n + zsz n
def zcc (h : zH) : Nat := h.2.2.2.1 + h.2.2.2.2
def zss (h : zH) : Nat := zsl h.2.2.2.1 + 6 * h.2.2.2.2
theorem nth_none {α : Type} : ∀ (l : List α) (n : Nat), l.length ≤ n → nth l n = none
  | [], _, _ => rfl
  | _ :: l, 0, h => by simp at h
  | _ :: l, n + 1, h => nth_none l n (by simpa using h)
theorem nth_lt {α : Type} {l : List α} {n : Nat} {a : α} (h : nth l n = some a) : n < l.length := by
  rcases Nat.lt_or_ge n l.length with q | q
  · exact q
  · rw [nth_none l n q] at h; cases h
theorem nth_get {α : Type} : ∀ (l : List α) (n : Nat), nth l n = l[n]?
  | [], _ => by simp [nth]
  | _ :: l, 0 => by simp [nth]
  | _ :: l, n + 1 => by simp [nth, nth_get l n]
theorem shp_in {a : Nat} (h : shp a ≠ 0) : 1 ≤ a ∧ a ≤ 64 := by
  constructor
  · rcases Nat.eq_zero_or_pos a with q | q
    · subst q; exact absurd rfl h
    · exact q
  · rcases Nat.lt_or_ge 64 a with q | q
    · exact absurd (by unfold shp; rw [nth_none zshL a (by show 65 ≤ a; omega)]; rfl) h
    · exact q
theorem zn_lt {n a : Nat} (h : zn n a = true) (ha : a ≤ 64) : a < n := by
  unfold zn at h
  rw [Bool.or_eq_true] at h
  rcases h with q | q
  · have := Nat.le_of_ble_eq_true q; omega
  · exact Nat.le_of_ble_eq_true q
theorem zad_in {G : zGt} {a : Nat} (ha : a ≤ 64) : zad G a = G.1 + a := if_neg (by omega)
theorem zad_ne {G : zGt} {a b : Nat} (ha : a ≤ 64) (hb : b ≤ 64) (h : a ≠ b) : zad G a ≠ zad G b := by rw [zad_in ha, zad_in hb]; omega
theorem zrep_at {G : zGt} {h : zH} {H : Heap} (hR : zRep G h H) {a : Nat} (hs : shp a ≠ 0) (hn : zn h.2.2.2.1 a = true) : va_at G.2.2.2.2.2 vwCl (zE G h a) H := hR.1 a (shp_in hs).1 (zn_lt hn (shp_in hs).2)
theorem zE_congr {G : zGt} {h h' : zH} {id : Nat} (h1 : h'.1 id = h.1 id) (h2 : h'.2.1 id = h.2.1 id) (h3 : h'.2.2.1 id = h.2.2.1 id) : zE G h' id = zE G h id := by
  have e : ∀ c, zfs G h' id c = zfs G h id c := by
    intro c
    unfold zfs
    refine congrArg (fun f => List.map f _) (funext fun k => ?_)
    unfold zfv
    rw [h1, h3]
  unfold zE
  rw [h1, h2, e]
/-- one cell changes -/
theorem zrep_set {G : zGt} {h h' : zH} {H H' : Heap} {a : Nat} (hR : zRep G h H) (hs : shp a ≠ 0) (hz : H'.size = H.size) (ho : ∀ q, q ≠ zad G a → H'[q]? = H[q]?) (hn : h'.2.2.2 = h.2.2.2)
    (h1 : ∀ id, id ≠ a → h'.1 id = h.1 id) (h2 : ∀ id, id ≠ a → h'.2.1 id = h.2.1 id) (h3 : ∀ id, id ≠ a → h'.2.2.1 id = h.2.2.1 id) (he : va_at G.2.2.2.2.2 vwCl (zE G h' a) H') : zRep G h' H' := by
  obtain ⟨r1, r2, r3⟩ := hR
  refine ⟨fun id q1 q2 => ?_, fun q => ?_, by rw [hn]; exact r3⟩
  · rw [hn] at q2
    by_cases hid : id = a
    · subst hid; exact he
    · rw [zE_congr (h1 id hid) (h2 id hid) (h3 id hid)]
      exact (r1 id q1 q2).kept (ho _ (zad_ne (by omega) (shp_in hs).2 hid))
  · rw [hn] at q ⊢
    rw [hz]; exact r2 q
theorem zrow_self {α : Type} (I : Nat → Nat → α) (a : Nat) (r : Nat → α) : zrow I a r a = r := if_pos rfl
theorem zrow_ne {α : Type} (I : Nat → Nat → α) {a b : Nat} (r : Nat → α) (h : b ≠ a) : zrow I a r b = I b := if_neg h
theorem zup_self {α : Type} (I : Nat → Nat → α) (a k : Nat) (v : α) : zup I a k v a = zset (I a) k v := if_pos rfl
theorem zup_ne {α : Type} (I : Nat → Nat → α) {a b : Nat} (k : Nat) (v : α) (h : b ≠ a) : zup I a k v b = I b := if_neg h
theorem zset_self {α : Type} (r : Nat → α) (k : Nat) (v : α) : zset r k v k = v := if_pos rfl
theorem zset_ne {α : Type} (r : Nat → α) {k j : Nat} (v : α) (h : j ≠ k) : zset r k v j = r j := if_neg h
theorem zE_obj {G : zGt} {h : zH} {a c : Nat} (hs : shp a = 10 + c) : zE G h a = (zad G a, .inr (c, zfs G h a c)) := by
  unfold zE
  rw [if_pos (by omega), show shp a - 10 = c by omega]
theorem zE_arr {G : zGt} {h : zH} {a t : Nat} (hs : shp a = t) (h1 : t < 10) (h2 : t ≠ 2) : zE G h a = (zad G a, .inl (G.2.2.2.2.1 t, sln a, .inl (h.1 a))) := by
  unfold zE
  rw [if_neg (by omega), if_neg (by omega), hs]
theorem zE_long {G : zGt} {h : zH} {a : Nat} (hs : shp a = 2) : zE G h a = (zad G a, .inl (G.2.2.2.2.1 2, sln a, .inr (.inl (h.2.1 a)))) := by
  unfold zE
  rw [if_neg (by omega), if_pos hs]
theorem zfs_at {G : zGt} {h : zH} {a c k : Nat} (hk : k < zNf c) : (zfs G h a c)[k]? = some (zfv G h a (zfkd c k) k) := by
  unfold zfs
  rw [List.getElem?_map, List.getElem?_range hk]
  rfl
theorem fok_shp {c a : Nat} (h : fok c a = true) : shp a = 10 + c := Nat.eq_of_beq_eq_true h
theorem inb_in {j : Int32} {n : Nat} (h : inb j n = true) : vp_in j n := by
  unfold inb at h
  simp only [Bool.and_eq_true, Bool.not_eq_true', decide_eq_false_iff_not, decide_eq_true_eq] at h
  unfold vp_in
  rintro (q | q)
  · exact h.1 q
  · omega
theorem aok_in {t a : Nat} {j : Int32} (h : aok t a j = true) : shp a = t ∧ vp_in j (sln a) := by
  unfold aok at h
  rw [Bool.and_eq_true] at h
  exact ⟨Nat.eq_of_beq_eq_true h.1, inb_in h.2⟩
def zpc (r : zM) (i : Nat) : Nat := match nth r.2.2.2.2.2.2 i with
  | some q => q.1
  | none => 0
section ZS
variable (G : zGt) (p : Program) (l : Launch) (e : Env) (R : Room) (s : State) (m : MethodId) (args : Array Value) (below : List Frame) (meth : Method) (c : Code) (Q : State → Prop) (r : zM) (h0 : zH)
/-- what holds at a method's entry and stays -/
def zEnv : Prop := p.tables.exec = Jvm.exec ∧ c.code = r.2.1 ∧ c.maxLocals = r.2.2.1 ∧ s.vm.findClass r.1.cls = some m.cls ∧ (∀ w ∈ zT, w.before args s = true) ∧ va_K G.2.2.2.2.2 vwCl (ztys G.2.2.2.2.1) s ∧ va_X G.2.1 G.2.2.1 G.2.2.2.1 s s.heap ∧ G.2.1 < s.heap.size ∧ G.2.1 ≤ G.1 ∧ (∀ q, s.heap.size ≤ q → G.1 < q) ∧ G.2.2.1 < 2 ^ 31 ∧ (r.1.name = "<init>" → meth.name = "<init>") ∧ zXt (fun q => G.1 < q) s s.heap
/-- a state of the plain machine, as it lies in the real one -/
def zCf (h : zH) (lv : List Value) (ls : Array Slot) (H : Heap) (locs : List Loc) (cells slots : Nat) : Prop := zRep G h H ∧ va_S (fun q => G.1 < q) s.heap H locs ∧ lv_has ls r.2.2.1 (zal (zad G) 0 lv) ∧ lv.length = r.2.2.1 ∧ h.1 998 0 = nI G.2.2.1 ∧ (∀ j, j < G.2.2.1 → h.1 999 j = G.2.2.2.1 j) ∧ cells + zcc h0 = zcc h ∧ slots + zss h0 = zss h
/-- from here it comes to Q -/
def zGo (i : Nat) (lv st : List Value) (h : zH) : Prop := ∀ ls H locs cells slots, zCf G s r h0 h lv ls H locs cells slots → W p l e R s m args below meth c H locs cells slots Q (F0 m (zpc r i) ls (st.map (zre (zad G))))
end ZS
