def R_law : String := "HopCourtsLaw"
def lw_P (b : Addr) (xs : List Int32) (args : Array Value) (s : State) : Prop := args = #[.ref b] ∧ s.IntsAt b xs ∧ xs.length ≤ 2560 ∧ (Jvm.Cond.and given_1 narrow_1).before args s = true
def lw_Q (_ : Array Value) (s : State) (o : Outcome) (t : State) : Prop := o = .returned (some (.int 1)) ∧ Framed s o t [] 601024 7293034
def lw_Z (below : List Frame) (a : Array Value) (s : State) : State → Prop := fun t => ∃ o, t.status = .running ∧ Ended t below o ∧ lw_Q a s o t
/-- the law's own end, with 1 on the stack, nothing written that was there before, its room as the claim has it -/
theorem lw_ret {p : Program} {l : Launch} {e : Env} {s : State} {m : MethodId} {below : List Frame} {meth : Method} {c : Code} {b : Nat} (hx : p.tables.exec = Jvm.exec) (hb : c.code = code) (hr : meth.sig.returnType = ret) (hlocks : meth.locks = false) {pc : Nat} {H : Heap} {ls : Array Slot} (hdg : decode code pc = .ok (.ireturn, 1)) : W p l e room_1 s m #[Value.ref b] below meth c H [] 601024 7293034 (lw_Z below #[Value.ref b] s) (F0 m pc ls [.int 1]) := by
  intro T hT X
  obtain ⟨fs, hret, hrun, hended, hW, hframe⟩ := X.leave (v := some (.int 1)) (hlocks := hlocks) (fun h => by rw [hr] at h; cases h)
  have hmeth' : T.vm.method? m = some meth := X.method'
  refine ⟨T.setFrames fs, ?_, .returned (some (.int 1)), hrun, hended, rfl, ⟨_, rfl⟩, hW, hframe⟩
  jvm_step X.here [X.here.top, hx, hb, hdg, hmeth', hr, ret, narrow_b1]
  (try refine ⟨rfl, ?_⟩); (try refine ⟨rfl, ?_⟩)
  first | (intro acts; rw [hret _ acts rfl rfl rfl]) | rw [hret _ _ rfl rfl rfl]
  exact Steps.refl _
/-- what holds at the law's entry: the machine, the code, the tables' words (any of lw_tbl by 'hts w (by decide +kernel)'), the script of L ints xs at the cell b, what the Statement gives of the start (any of its parts by flat_of_before) -/
def lw_At (p : Program) (s : State) (m : MethodId) (meth : Method) (c : Code) (b L : Nat) (xs : Nat → Int32) : Prop :=
  p.tables.exec = Jvm.exec ∧ c.code = code ∧ meth.sig.returnType = ret ∧ c.maxLocals = 8 ∧ s.vm.findClass R_law = some m.cls ∧ (∀ w ∈ lw_tbl, w.before #[Value.ref b] s = true) ∧ va_X b L xs s s.heap ∧ b < s.heap.size ∧ meth.locks = false ∧ (Jvm.Cond.and given_1 narrow_1).before #[Value.ref b] s = true

theorem zkn_one {s : State} {args : Array Value} (hz : ∀ w ∈ zT, w.before args s = true) {cn : Nat} {C : String} {T : u_T} {N : Nat} {ty : Nat → FieldType} (h : zCls cn C T N ty) : ∃ (cC : ClassId) (iS : Nat → Nat), u_Kn s C T N cC iS := u_known hz h.2.2.1 (hz _ h.2.2.2.2.2.2.1)
theorem zkn_all {s : State} {args : Array Value} (hz : ∀ w ∈ zT, w.before args s = true) : ∀ c : Nat, ∃ D : ClassId × (Nat → Nat), ∀ q : vw_C, vwCl[c]? = some q → u_Kn s q.1 q.2.1 q.2.2 D.1 D.2 := by
  intro c
  match c with
  | 0 => obtain ⟨a, b, h⟩ := zkn_one hz zcls_0; exact ⟨(a, b), fun q hq => by cases hq; exact h⟩
  | 1 => obtain ⟨a, b, h⟩ := zkn_one hz zcls_1; exact ⟨(a, b), fun q hq => by cases hq; exact h⟩
  | 2 => obtain ⟨a, b, h⟩ := zkn_one hz zcls_2; exact ⟨(a, b), fun q hq => by cases hq; exact h⟩
  | 3 => obtain ⟨a, b, h⟩ := zkn_one hz zcls_3; exact ⟨(a, b), fun q hq => by cases hq; exact h⟩
  | 4 => obtain ⟨a, b, h⟩ := zkn_one hz zcls_4; exact ⟨(a, b), fun q hq => by cases hq; exact h⟩
  | 5 => obtain ⟨a, b, h⟩ := zkn_one hz zcls_5; exact ⟨(a, b), fun q hq => by cases hq; exact h⟩
  | 6 => obtain ⟨a, b, h⟩ := zkn_one hz zcls_6; exact ⟨(a, b), fun q hq => by cases hq; exact h⟩
  | 7 => obtain ⟨a, b, h⟩ := zkn_one hz zcls_7; exact ⟨(a, b), fun q hq => by cases hq; exact h⟩
  | 8 => obtain ⟨a, b, h⟩ := zkn_one hz zcls_8; exact ⟨(a, b), fun q hq => by cases hq; exact h⟩
  | 9 => obtain ⟨a, b, h⟩ := zkn_one hz zcls_9; exact ⟨(a, b), fun q hq => by cases hq; exact h⟩
  | 10 => obtain ⟨a, b, h⟩ := zkn_one hz zcls_10; exact ⟨(a, b), fun q hq => by cases hq; exact h⟩
  | c + 11 =>
    obtain ⟨a, b, -⟩ := zkn_one hz zcls_0
    refine ⟨(a, b), fun q hq => ?_⟩
    rw [List.getElem?_eq_none (by show 11 ≤ c + 11; omega)] at hq
    cases hq
theorem zar_one {s : State} {args : Array Value} {ty : FieldType} (h : (Cond.arrayClass ty).before args s = true) : ∃ cA : ClassId, ArrOfT s cA ty ∧ s.vm.findClass ("[" ++ ty.toString) = some cA := by
  obtain ⟨cA, kA, comp, h1, h2, h3⟩ := Cond.arrayClass_spec h
  exact ⟨cA, fun n z => ⟨fun k h => (by cases h), kA, h2, comp, h3⟩, h1⟩
theorem zar_all {s : State} {args : Array Value} (hz : ∀ w ∈ zT, w.before args s = true) : ∃ cA : Nat → ClassId, ∀ (k : Nat) (q : ClassId × FieldType), (ztys cA)[k]? = some q → ArrOfT s q.1 q.2 ∧ va_RA s q.1 q.2 := by
  obtain ⟨c1, a1, b1⟩ := zar_one (hz _ zarc_int)
  obtain ⟨c2, a2, b2⟩ := zar_one (hz _ zarc_long)
  obtain ⟨c3, a3, b3⟩ := zar_one (hz _ zarc_byte)
  obtain ⟨c4, a4, b4⟩ := zar_one (hz _ zarc_char)
  obtain ⟨c5, a5, b5⟩ := zar_one (hz _ zarc_boolean)
  refine ⟨fun t => if t = 1 then c1 else if t = 2 then c2 else if t = 3 then c3 else if t = 4 then c4 else c5, fun k q hq => ?_⟩
  match k, hq with
  | 0, hq => cases hq; exact ⟨a1, b1⟩
  | 1, hq => cases hq; exact ⟨a2, b2⟩
  | 2, hq => cases hq; exact ⟨a3, b3⟩
  | 3, hq => cases hq; exact ⟨a4, b4⟩
  | 4, hq => cases hq; exact ⟨a5, b5⟩
  | k + 5, hq => rw [List.getElem?_eq_none (by show 5 ≤ k + 5; omega)] at hq; cases hq
theorem zXw_in : ∀ w ∈ zXw, w ∈ lw_tbl := by decide +kernel
theorem zStr_in : ∀ q ∈ zStr, Cond.stringRef "HopCourts" q.1 q.2 ∈ lw_tbl := by decide +kernel
theorem zst_in : Cond.laysStatic Bundle.tN "UNASSIGNED_STACK" Bundle.steD ∈ lw_tbl ∧ Cond.laysStatic Bundle.tN "SUPPRESSED_SENTINEL" Bundle.listD ∈ lw_tbl ∧ Cond.initialized Bundle.tN ∈ lw_tbl := by decide +kernel
theorem z300_nj : (o_300.all fun op => match op with
  | .jsr _ => false
  | _ => true) = true := by decide +kernel
def zI0 (L : Nat) (xs : Nat → Int32) : Nat → Nat → Int32 := fun a k => if a = 998 then nI L else if a = 999 then xs k else 0
def zH0 (L : Nat) (xs : Nat → Int32) : zH := (zI0 L xs, fun _ _ => 0, fun _ _ => none, 1, 0)
def zLaw : Prop := ∀ (L : Nat) (xs : Nat → Int32), L ≤ 2560 → ∃ hf : zH, res 90 300 0 (zent 8 [.ref 999]) [] (zH0 L xs) = some (some (.int 1), hf) ∧ zcc hf ≤ 601024 ∧ zss hf ≤ 7293034
set_option maxHeartbeats 4000000 in
theorem zstart (hlaw : zLaw) {p : Program} {e : Env} {s : State} {m : MethodId} {below : List Frame} {meth : Method} {c : Code} (l : Launch) (hflags : l.flags = flags0) {b L : Nat} {xs : Nat → Int32} (hL : L ≤ 2560) (C0 : lw_At p s m meth c b L xs) : W p l e room_1 s m #[Value.ref b] below meth c s.heap [] 0 0 (lw_Z below #[Value.ref b] s) (entryFrame m ([Value.ref b] : List Value).toArray 8) := by
  obtain ⟨hx, hb, hret, hml, hown, hts, hX, hbl, hlk, hgv⟩ := C0
  have hl : l.stackTraces = false := by
    unfold Launch.stackTraces
    rw [hflags]
    decide +kernel
  have hz : ∀ w ∈ zT, w.before #[Value.ref b] s = true := fun w hw => hts w (List.mem_filter.mp hw).1
  obtain ⟨D, hD⟩ := Classical.axiomOfChoice (zkn_all hz)
  obtain ⟨cA, hcA⟩ := zar_all hz
  obtain ⟨B, hB⟩ : ∃ B, B + 1 = s.heap.size := ⟨s.heap.size - 1, by omega⟩
  have hs := flat_of_before _ hgv
  have hA : ∀ a : Nat, a < s.heap.size → ¬ B < a := fun a ha hq => by omega
  have hXt : zXt (fun q => B < q) s s.heap := by
    refine ⟨fun w hw => va_Nw.of (zXw_ok w hw).1 (hts w (zXw_in w hw)), vx_Zqof (hts _ zst_in.1) (hts _ zst_in.2.2) (hs _ (by decide +kernel)) hA, vx_Zqof (hts _ zst_in.2.1) (hts _ zst_in.2.2) (hs _ (by decide +kernel)) hA, fun q hq => ?_⟩
    have h1 := hts _ (zStr_in q hq)
    have h2 : (Cond.exactly (Term.string "HopCourts" q.1) "java/lang/String").before #[Value.ref b] s = true := by
      have key : ∀ q ∈ zStr, Cond.exactly (Term.string "HopCourts" q.1) "java/lang/String" ∈ flatC (Cond.and given_1 narrow_1) := by decide +kernel
      exact hs _ (key q hq)
    obtain ⟨a, c0, cell, k, q1, -⟩ := Cond.exactly_spec h2
    exact ⟨a, vk_R.of h1 q1⟩
  let G : zGt := (B, b, L, xs, cA, (fun c => (D c).1, fun c => (D c).2))
  have hp : zPre G (zH0 L xs) s := by
    refine ⟨⟨fun id h1 h2 => absurd h2 (by show ¬ id < 1; omega), fun _ => hB.symm, by show 1 ≤ 65; omega⟩, ⟨hD, hcA⟩, hX, hbl, by show b ≤ B; omega, fun q hq => by show B < q; omega, by show L < 2 ^ 31; omega, rfl, fun j hj => rfl, hXt⟩
  have hr : nth zall 300 = some z_300 := rfl
  have E : zEnv G p s m #[Value.ref b] meth c z_300 := by
    obtain ⟨q1, q2, q3, q4, q5, q6, q7, q8, q9, q10⟩ := hp
    exact ⟨hx, hb, hml, hown, hz, q2, q3, q4, q5, q6, q7, fun q => absurd q (by decide), q10⟩
  obtain ⟨hf, hres, hc1, hc2⟩ := hlaw L xs hL
  obtain ⟨n, hn⟩ := res_iff.mp hres
  have key := zbody G l n (fun k _ => zpc_all G l hl k) 90 300 z_300 hr 0 _ [] (zH0 L xs) _ hf hn (e := e) (R := room_1) (below := below) (Q := lw_Z below #[Value.ref b] s) (h0 := zH0 L xs) E (by decide) (by decide) ⟨Nat.le_trans hc1 (Nat.le_add_right _ _), Nat.le_trans hc2 (Nat.le_add_right _ _)⟩
    (by
      intro i lv st h op hop hend ls H locs cells slots C
      obtain ⟨ri, len, hd, hc, -⟩ := zchk_at hr hop
      have c1 := C.2.2.2.2.2.2.1
      have c2 := C.2.2.2.2.2.2.2
      unfold zEnd at hend
      split at hend
      · obtain ⟨x, rfl, hv, rfl⟩ := hend
        cases hv
        obtain ⟨h1, h2⟩ := zbq hc
        obtain ⟨rfl, rfl⟩ := zeq1 h1
        exact absurd (of_decide_eq_true h2) (by decide)
      · obtain ⟨x, hb0, rfl, hv, rfl⟩ := hend
        cases hv
        obtain ⟨h1, h2⟩ := zbq hc
        obtain ⟨rfl, rfl⟩ := zeq1 h1
        refine va_forget (fun q hq => ?_) (W.widen (k := 601024) (n := 7293034) ?_ ?_ (lw_ret hx hb hret hlk hd))
        · have := C.2.1.2.2 q hq
          have h3 : B < q.base := this
          omega
        · omega
        · omega
      · obtain ⟨x, -, hv, -⟩ := hend
        cases hv
      · obtain ⟨-, hv, -⟩ := hend
        cases hv
      · obtain ⟨-, hv, -⟩ := hend
        cases hv
      · exact hend.elim)
    (fun k hk _ i lv st h z hzz => by
      exfalso
      have h1 := List.all_eq_true.mp z300_nj _ (by rw [nth_get] at hzz; exact List.mem_of_getElem? hzz)
      cases h1) _ _ _ _ _ (zcf0 (As := [.ref 999]) hp rfl (by decide))
  rw [(zall_p0 z_300 (zmem_all hr)).1] at key
  rw [lg_entry_eq]
  exact key
