def zws (r : zM) : List Cond := Cond.code r.1 r.2.1 r.2.2.1 r.2.2.2.1 :: zT
def zrm (r : zM) (d mc ms : Nat) : Room := { frames := r.2.2.2.2.1.1 + 8 * d, cells := mc, slots := ms, locals := 41 * (r.2.2.2.2.1.1 + 8 * d) }
def zPre (G : zGt) (h : zH) (U : State) : Prop := zRep G h U.heap ∧ va_K G.2.2.2.2.2 vwCl (ztys G.2.2.2.2.1) U ∧ va_X G.2.1 G.2.2.1 G.2.2.2.1 U U.heap ∧ G.2.1 < U.heap.size ∧ G.2.1 ≤ G.1 ∧ (∀ q, U.heap.size ≤ q → G.1 < q) ∧ G.2.2.1 < 2 ^ 31 ∧ h.1 998 0 = nI G.2.2.1 ∧ (∀ j, j < G.2.2.1 → h.1 999 j = G.2.2.2.1 j) ∧ zXt (fun q => G.1 < q) U U.heap
def zQo (G : zGt) (v : Option Value) (hf : zH) : Array Value → State → Outcome → State → Prop := match v with
  | some (.int x) => va_Qi (fun y (_ : Unit) => y = x) (fun _ t => zRep G hf t.heap) (fun q => G.1 < q)
  | some (.long x) => va_Ql (fun y (_ : Unit) => y = x) (fun _ t => zRep G hf t.heap) (fun q => G.1 < q)
  | _ => va_Qv (fun (_ : Unit) => True) (fun _ t => zRep G hf t.heap) (fun q => G.1 < q)
def zMet (G : zGt) (l : Launch) (r : zM) (d : Nat) (args : List Value) (h : zH) (v : Option Value) (hf : zH) (mc ms : Nat) : Prop := Met l r.1 (zws r) (zrm r d mc ms) (va_Pc (args.map (zre (zad G))) (zPre G h)) (zQo G v hf) mc ms (fun q => G.1 < q)
/-- an answer that a call may give: an int, a long, nothing -/
def zan : Option Value → Bool
  | some (.int _) => true
  | some (.long _) => true
  | none => true
  | _ => false
theorem zblind (G : zGt) (h : zH) (av : List Value) : FrameBlind (va_Pc av (zPre G h)) := by
  intro a U g mk q
  obtain ⟨q1, q2, q3, q4, q5, q6, q7, q8, q9, q10, q11⟩ := q
  exact ⟨q1, q2, va_K.moved (u := U) (U := U.calling g mk a) (Vm.Alike.refl U.vm) q3, va_X.moved (u := U) (U := U.calling g mk a) (Vm.Alike.refl U.vm) q4, q5, q6, q7, q8, q9, q10, zXt.same (u := U) (U := U.calling g mk a) rfl q11⟩
section ZCL
variable {G : zGt} {p : Program} {l : Launch} {e : Env} {R : Room} {s : State} {m : MethodId} {args : Array Value} {below : List Frame} {meth : Method} {c : Code} {Q : State → Prop} {r : zM} {h0 : zH} {i : Nat} {lv : List Value} {h : zH}
theorem zpre_at (E : zEnv G p s m args meth c r) {ls : Array Slot} {H : Heap} {locs : List Loc} {cells slots : Nat} (C0 : zCf G s r h0 h lv ls H locs cells slots) : ∀ U : State, U.heap = H → s.WarmedH U.vm → zPre G h U := by
  intro U hU hW
  refine ⟨by rw [hU]; exact C0.1, va_K.moved hW.alike E.2.2.2.2.2.1, va_X.moved hW.alike (E.2.2.2.2.2.2.1.kept ?_), ?_, E.2.2.2.2.2.2.2.2.1, fun q hq => ?_, E.2.2.2.2.2.2.2.2.2.2.1, C0.2.2.2.2.1, C0.2.2.2.2.2.1, ?_⟩
  · rw [hU]
    exact C0.2.1.2.1 _ E.2.2.2.2.2.2.2.1 (Nat.not_lt.mpr E.2.2.2.2.2.2.2.2.1)
  · rw [hU]
    exact Nat.lt_of_lt_of_le E.2.2.2.2.2.2.2.1 C0.2.1.1
  · rw [hU] at hq
    exact E.2.2.2.2.2.2.2.2.2.1 q (Nat.le_trans C0.2.1.1 hq)
  · rw [hU]
    exact E.2.2.2.2.2.2.2.2.2.2.2.2.warm hW (fun a h1 h2 => C0.2.1.2.1 a h1 h2)
/-- behind a call -/
theorem zs_back {ls : Array Slot} {H : Heap} {locs : List Loc} {cells slots mc ms : Nat} {st0 rest : List Value} {v : Option Value} {hf : zH} {aa : Array Value} (hv : zan v = true) (C0 : zCf G s r h0 h lv ls H locs cells slots)
    (hrun : va_Run p l e R s m args below meth c H locs cells slots mc ms (F0 m (zpc r i) ls st0) (rest.map (zre (zad G))) (zQo G v hf aa) (fun q => G.1 < q)) (hn : zpc r (i + 1) = zpc r i + 3) (hmc : zcc hf = zcc h + mc) (hms : zss hf = zss h + ms) (hk8 : hf.1 998 = h.1 998) (hk9 : hf.1 999 = h.1 999)
    (k : zGo G p l e R s m args below meth c Q r h0 (i + 1) lv (v.toList ++ rest) hf) : W p l e R s m args below meth c H locs cells slots Q (F0 m (zpc r i) ls st0) := by
  have c1 := C0.2.2.2.2.2.2.1
  have c2 := C0.2.2.2.2.2.2.2
  have key : ∀ (H1 : Heap) (locs1 : List Loc) (w : Option Value), zRep G hf H1 → va_S (fun q => G.1 < q) s.heap H1 locs1 → W p l e R s m args below meth c H1 locs1 (cells + mc) (slots + ms) Q (F0 m (zpc r i + 3) ls ((v.toList ++ rest).map (zre (zad G)))) := by
    intro H1 locs1 w hB hS
    have kk := k ls H1 locs1 (cells + mc) (slots + ms) ⟨hB, hS, C0.2.2.1, C0.2.2.2.1, by rw [hk8]; exact C0.2.2.2.2.1, fun j hj => by rw [hk9]; exact C0.2.2.2.2.2.1 j hj, by omega, by omega⟩
    rw [hn] at kk
    exact kk
  unfold zQo at hrun
  cases v with
  | none =>
    exact va_callv hrun C0.2.1 (fun q _ h => h) (fun q h => h) (fun u t H1 locs1 ht hvm hp hB hz hk hS => key H1 locs1 none (by rw [← ht]; exact hB) hS)
  | some v =>
    cases v with
    | int x => exact va_calli hrun C0.2.1 (fun q _ h => h) (fun q h => h) (fun y u t H1 locs1 ht hvm hp hB hz hk hS => by subst hp; exact key H1 locs1 none (by rw [← ht]; exact hB) hS)
    | long x => exact va_calll hrun C0.2.1 (fun q _ h => h) (fun q h => h) (fun y u t H1 locs1 ht hvm hp hB hz hk hS => by subst hp; exact key H1 locs1 none (by rw [← ht]; exact hB) hS)
    | _ => cases hv
variable {r' : zM} {d' mc ms idx : Nat} {v : Option Value} {hf : zH} {rest : List Value}
/-- what a called method must have among the tables' words -/
def zcw (r' : zM) : Prop := Cond.code r'.1 r'.2.1 r'.2.2.1 r'.2.2.2.1 ∈ zT ∧ Cond.initialized r'.1.cls ∈ zT ∧ (r'.1.cls ≠ "java/lang/invoke/MethodHandle" ∧ r'.1.cls ≠ "java/lang/invoke/VarHandle") ∧ (parseMethodDescriptor r'.1.desc).map (fun d => d.parameters.length) = some r'.2.2.2.2.1.2.2
theorem zws_good (h : zcw r') : GoodIn zT (zws r') := fun w hw => (List.mem_cons.mp hw).elim (fun q => by rw [q]; exact zT_ok _ h.1) (zT_ok w)
theorem zroom (hfr : r'.2.2.2.2.1.1 + 8 * d' + 1 ≤ R.frames) (hlo : 41 * (r'.2.2.2.2.1.1 + 8 * d' + 1) ≤ R.locals) (hmx : r'.2.2.1 ≤ 22) : (zrm r' d' mc ms).frames + 1 ≤ R.frames ∧ 8 + (r'.2.2.1 + 11) + (zrm r' d' mc ms).locals ≤ R.locals := by
  unfold zrm
  constructor
  · exact hfr
  · dsimp only
    omega
theorem zcallB (E : zEnv G p s m args meth c r) (W0 : zcw r') (hl : Cond.methodLink r.1.cls idx r'.1 ∈ zT) (hfr : r'.2.2.2.2.1.1 + 8 * d' + 1 ≤ R.frames) (hlo : 41 * (r'.2.2.2.2.1.1 + 8 * d' + 1) ≤ R.locals) (hmx : r'.2.2.1 ≤ 22) : CallB R s args r.1.cls idx r'.1 r'.2.1 r'.2.2.1 r'.2.2.2.1 (zws r') (zrm r' d' mc ms) mc ms r'.2.2.2.2.1.2.2 :=
  callB_of _ E.2.2.2.2.1 (zws_good W0) rfl rfl rfl (E.2.2.2.2.1 _ W0.2.1) (E.2.2.2.2.1 _ hl) ⟨W0.2.2.1.1, W0.2.2.1.2, W0.2.2.2⟩ (zroom hfr hlo hmx)
theorem zcallN (E : zEnv G p s m args meth c r) {host : String} (W0 : zcw r') (hl : Cond.methodLinkNest r.1.cls idx r'.1 host ∈ zXw) (hfr : r'.2.2.2.2.1.1 + 8 * d' + 1 ≤ R.frames) (hlo : 41 * (r'.2.2.2.2.1.1 + 8 * d' + 1) ≤ R.locals) (hmx : r'.2.2.1 ≤ 22) : va_CN R s args r.1.cls idx r'.1 host r'.2.1 r'.2.2.1 r'.2.2.2.1 (zws r') (zrm r' d' mc ms) mc ms r'.2.2.2.2.1.2.2 :=
  va_cnB _ E.2.2.2.2.1 (zws_good W0) rfl rfl rfl (E.2.2.2.2.2.2.2.2.2.2.2.2.1 _ hl) (E.2.2.2.2.1 _ W0.2.1) ⟨W0.2.2.1.1, W0.2.2.1.2, W0.2.2.2⟩ (zroom hfr hlo hmx)
theorem zs_callV (E : zEnv G p s m args meth c r) {a cn N : Nat} {T : u_T} {As : List Value} (hM : zMet G l r' d' (.ref a :: As) h v hf mc ms) (hv : zan v = true) (hd : decode r.2.1 (zpc r i) = .ok (.invokevirtual idx, 3)) (hn : zpc r (i + 1) = zpc r i + 3) (W0 : zcw r') (hl : Cond.methodLink r.1.cls idx r'.1 ∈ zT) (hi : Cond.instanceMethod r'.1 ∈ zT) (hse : Cond.selects r'.1.cls r'.1 r'.1 ∈ zT) (hcn : vwCl[cn]? = some (r'.1.cls, T, N)) (hAs : As.length = r'.2.2.2.2.1.2.2)
    (hrc : (fok cn a && zn h.2.2.2.1 a) = true) (hfr : r'.2.2.2.2.1.1 + 8 * d' + 1 ≤ R.frames) (hlo : 41 * (r'.2.2.2.2.1.1 + 8 * d' + 1) ≤ R.locals) (hmx : r'.2.2.1 ≤ 22) (hz : Nat.ble (zcat rest) 8 = true) (hcap : zcc hf ≤ R.cells + zcc h0 ∧ zss hf ≤ R.slots + zss h0) (hmc : zcc hf = zcc h + mc) (hms : zss hf = zss h + ms) (hk8 : hf.1 998 = h.1 998) (hk9 : hf.1 999 = h.1 999)
    (k : zGo G p l e R s m args below meth c Q r h0 (i + 1) lv (v.toList ++ rest) hf) : zGo G p l e R s m args below meth c Q r h0 i lv (As.reverse ++ .ref a :: rest) h := by
  intro ls H locs cells slots C0
  have c1 := C0.2.2.2.2.2.2.1
  have c2 := C0.2.2.2.2.2.2.2
  have h8 := Nat.le_of_ble_eq_true hz
  rw [Bool.and_eq_true] at hrc
  have hs := fok_shp hrc.1
  have hat := zrep_at C0.1 (by omega) hrc.2
  rw [zE_obj hs] at hat
  rw [show (As.reverse ++ Value.ref a :: rest).map (zre (zad G)) = (As.map (zre (zad G))).reverse ++ .ref (zad G a) :: rest.map (zre (zad G)) by simp [zre]]
  refine zs_back hv C0 (va_runV (As := As.map (zre (zad G))) ⟨E.1, E.2.1, E.2.2.1, E.2.2.2.1, E.2.2.2.2.1⟩ hM ⟨zcallB E W0 hl hfr hlo hmx, E.2.2.2.2.1 _ hi, E.2.2.2.2.1 _ hse⟩ ⟨zblind G h _, va_recv E.2.2.2.2.2.1 (zP1 hat) hcn (q0 := 0) rfl, fun U hU hW => ⟨rfl, zpre_at E C0 U hU hW⟩⟩ rfl (by rw [List.length_map]; exact hAs) C0.2.2.1.1 rfl (lv_room (by rw [zcat_map]; exact h8)) hd ⟨by omega, by omega⟩) hn hmc hms hk8 hk9 k
theorem zs_callS (E : zEnv G p s m args meth c r) {As : List Value} (hM : zMet G l r' d' As h v hf mc ms) (hv : zan v = true) (hd : decode r.2.1 (zpc r i) = .ok (.invokestatic idx, 3)) (hn : zpc r (i + 1) = zpc r i + 3) (W0 : zcw r') (hl : Cond.methodLink r.1.cls idx r'.1 ∈ zT) (hi : Cond.static r'.1 ∈ zT) (hAs : As.length = r'.2.2.2.2.1.2.2)
    (hfr : r'.2.2.2.2.1.1 + 8 * d' + 1 ≤ R.frames) (hlo : 41 * (r'.2.2.2.2.1.1 + 8 * d' + 1) ≤ R.locals) (hmx : r'.2.2.1 ≤ 22) (hz : Nat.ble (zcat rest) 8 = true) (hcap : zcc hf ≤ R.cells + zcc h0 ∧ zss hf ≤ R.slots + zss h0) (hmc : zcc hf = zcc h + mc) (hms : zss hf = zss h + ms) (hk8 : hf.1 998 = h.1 998) (hk9 : hf.1 999 = h.1 999)
    (k : zGo G p l e R s m args below meth c Q r h0 (i + 1) lv (v.toList ++ rest) hf) : zGo G p l e R s m args below meth c Q r h0 i lv (As.reverse ++ rest) h := by
  intro ls H locs cells slots C0
  have c1 := C0.2.2.2.2.2.2.1
  have c2 := C0.2.2.2.2.2.2.2
  have h8 := Nat.le_of_ble_eq_true hz
  rw [show (As.reverse ++ rest).map (zre (zad G)) = (As.map (zre (zad G))).reverse ++ rest.map (zre (zad G)) by simp]
  refine zs_back hv C0 (va_runS (As := As.map (zre (zad G))) ⟨E.1, E.2.1, E.2.2.1, E.2.2.2.1, E.2.2.2.2.1⟩ hM ⟨zcallB E W0 hl hfr hlo hmx, E.2.2.2.2.1 _ hi⟩ ⟨zblind G h _, fun U hU hW => ⟨rfl, zpre_at E C0 U hU hW⟩⟩ rfl (by rw [List.length_map]; exact hAs) C0.2.2.1.1 rfl (lv_room (by rw [zcat_map]; exact h8)) hd ⟨by omega, by omega⟩) hn hmc hms hk8 hk9 k
theorem zs_callSN (E : zEnv G p s m args meth c r) {host : String} {As : List Value} (hM : zMet G l r' d' As h v hf mc ms) (hv : zan v = true) (hd : decode r.2.1 (zpc r i) = .ok (.invokestatic idx, 3)) (hn : zpc r (i + 1) = zpc r i + 3) (W0 : zcw r') (hl : Cond.methodLinkNest r.1.cls idx r'.1 host ∈ zXw) (hi : Cond.static r'.1 ∈ zT) (hAs : As.length = r'.2.2.2.2.1.2.2)
    (hfr : r'.2.2.2.2.1.1 + 8 * d' + 1 ≤ R.frames) (hlo : 41 * (r'.2.2.2.2.1.1 + 8 * d' + 1) ≤ R.locals) (hmx : r'.2.2.1 ≤ 22) (hz : Nat.ble (zcat rest) 8 = true) (hcap : zcc hf ≤ R.cells + zcc h0 ∧ zss hf ≤ R.slots + zss h0) (hmc : zcc hf = zcc h + mc) (hms : zss hf = zss h + ms) (hk8 : hf.1 998 = h.1 998) (hk9 : hf.1 999 = h.1 999)
    (k : zGo G p l e R s m args below meth c Q r h0 (i + 1) lv (v.toList ++ rest) hf) : zGo G p l e R s m args below meth c Q r h0 i lv (As.reverse ++ rest) h := by
  intro ls H locs cells slots C0
  have c1 := C0.2.2.2.2.2.2.1
  have c2 := C0.2.2.2.2.2.2.2
  have h8 := Nat.le_of_ble_eq_true hz
  rw [show (As.reverse ++ rest).map (zre (zad G)) = (As.map (zre (zad G))).reverse ++ rest.map (zre (zad G)) by simp]
  refine zs_back hv C0 (va_runSN (As := As.map (zre (zad G))) ⟨E.1, E.2.1, E.2.2.1, E.2.2.2.1, E.2.2.2.2.1⟩ hM ⟨zcallN E W0 hl hfr hlo hmx, E.2.2.2.2.1 _ hi, trivial⟩ ⟨zblind G h _, fun U hU hW => ⟨rfl, zpre_at E C0 U hU hW⟩⟩ rfl (by rw [List.length_map]; exact hAs) C0.2.2.1.1 rfl (lv_room (by rw [zcat_map]; exact h8)) hd ⟨by omega, by omega⟩) hn hmc hms hk8 hk9 k
theorem zs_callI (E : zEnv G p s m args meth c r) {a : Nat} {As : List Value} (hM : zMet G l r' d' (.ref a :: As) h v hf mc ms) (hv : zan v = true) (hd : decode r.2.1 (zpc r i) = .ok (.invokespecial idx, 3)) (hn : zpc r (i + 1) = zpc r i + 3) (W0 : zcw r') (hrt : r'.2.2.2.1 = none) (hl : Cond.methodLink r.1.cls idx r'.1 ∈ zT) (hi : Cond.instanceMethod r'.1 ∈ zT) (hy1 : r'.1.name = "<init>") (hAs : As.length = r'.2.2.2.2.1.2.2)
    (hfr : r'.2.2.2.2.1.1 + 8 * d' + 1 ≤ R.frames) (hlo : 41 * (r'.2.2.2.2.1.1 + 8 * d' + 1) ≤ R.locals) (hmx : r'.2.2.1 ≤ 22) (hz : Nat.ble (zcat rest) 8 = true) (hcap : zcc hf ≤ R.cells + zcc h0 ∧ zss hf ≤ R.slots + zss h0) (hmc : zcc hf = zcc h + mc) (hms : zss hf = zss h + ms) (hk8 : hf.1 998 = h.1 998) (hk9 : hf.1 999 = h.1 999)
    (k : zGo G p l e R s m args below meth c Q r h0 (i + 1) lv (v.toList ++ rest) hf) : zGo G p l e R s m args below meth c Q r h0 i lv (As.reverse ++ .ref a :: rest) h := by
  intro ls H locs cells slots C0
  have c1 := C0.2.2.2.2.2.2.1
  have c2 := C0.2.2.2.2.2.2.2
  have h8 := Nat.le_of_ble_eq_true hz
  have hcb := zcallB (d' := d') (mc := mc) (ms := ms) E W0 hl hfr hlo hmx
  rw [hrt] at hcb
  rw [show (As.reverse ++ Value.ref a :: rest).map (zre (zad G)) = (As.map (zre (zad G))).reverse ++ .ref (zad G a) :: rest.map (zre (zad G)) by simp [zre]]
  refine zs_back hv C0 (va_runI (As := As.map (zre (zad G))) ⟨E.1, E.2.1, E.2.2.1, E.2.2.2.1, E.2.2.2.2.1⟩ hM ⟨hcb, hy1, E.2.2.2.2.1 _ hi⟩ ⟨zblind G h _, fun U hU hW => ⟨rfl, zpre_at E C0 U hU hW⟩⟩ rfl (by rw [List.length_map]; exact hAs) C0.2.2.1.1 rfl (lv_room (by rw [zcat_map]; exact h8)) hd ⟨by omega, by omega⟩) hn hmc hms hk8 hk9 k
theorem zs_callIN (E : zEnv G p s m args meth c r) {host : String} {a : Nat} {As : List Value} (hM : zMet G l r' d' (.ref a :: As) h v hf mc ms) (hv : zan v = true) (hd : decode r.2.1 (zpc r i) = .ok (.invokespecial idx, 3)) (hn : zpc r (i + 1) = zpc r i + 3) (W0 : zcw r') (hrt : r'.2.2.2.1 = none) (hl : Cond.methodLinkNest r.1.cls idx r'.1 host ∈ zXw) (hi : Cond.instanceMethod r'.1 ∈ zT) (hy1 : r'.1.name = "<init>") (hAs : As.length = r'.2.2.2.2.1.2.2)
    (hfr : r'.2.2.2.2.1.1 + 8 * d' + 1 ≤ R.frames) (hlo : 41 * (r'.2.2.2.2.1.1 + 8 * d' + 1) ≤ R.locals) (hmx : r'.2.2.1 ≤ 22) (hz : Nat.ble (zcat rest) 8 = true) (hcap : zcc hf ≤ R.cells + zcc h0 ∧ zss hf ≤ R.slots + zss h0) (hmc : zcc hf = zcc h + mc) (hms : zss hf = zss h + ms) (hk8 : hf.1 998 = h.1 998) (hk9 : hf.1 999 = h.1 999)
    (k : zGo G p l e R s m args below meth c Q r h0 (i + 1) lv (v.toList ++ rest) hf) : zGo G p l e R s m args below meth c Q r h0 i lv (As.reverse ++ .ref a :: rest) h := by
  intro ls H locs cells slots C0
  have c1 := C0.2.2.2.2.2.2.1
  have c2 := C0.2.2.2.2.2.2.2
  have h8 := Nat.le_of_ble_eq_true hz
  have hcb := zcallN (d' := d') (mc := mc) (ms := ms) E W0 hl hfr hlo hmx
  rw [hrt] at hcb
  rw [show (As.reverse ++ Value.ref a :: rest).map (zre (zad G)) = (As.map (zre (zad G))).reverse ++ .ref (zad G a) :: rest.map (zre (zad G)) by simp [zre]]
  refine zs_back hv C0 (va_runIN (As := As.map (zre (zad G))) ⟨E.1, E.2.1, E.2.2.1, E.2.2.2.1, E.2.2.2.2.1⟩ hM ⟨hcb, hy1, E.2.2.2.2.1 _ hi⟩ ⟨zblind G h _, fun U hU hW => ⟨rfl, zpre_at E C0 U hU hW⟩⟩ rfl (by rw [List.length_map]; exact hAs) C0.2.2.1.1 rfl (lv_room (by rw [zcat_map]; exact h8)) hd ⟨by omega, by omega⟩) hn hmc hms hk8 hk9 k
end ZCL
