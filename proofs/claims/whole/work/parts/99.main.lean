theorem zeq1 {ri op : Instr} {len k : Nat} (h : (zeqI ri op && Nat.beq len k) = true) : ri = op ∧ len = k := by
  rw [Bool.and_eq_true] at h
  exact ⟨of_decide_eq_true h.1, Nat.eq_of_beq_eq_true h.2⟩
theorem zbq {a b : Bool} (h : (a && b) = true) : a = true ∧ b = true := by rw [Bool.and_eq_true] at h; exact h
theorem zjmp_ok {r : zM} {pc : Nat} {off t : Int} (h : zjmp r pc off t = true) : (pc : Int) + off = (zpc r t.toNat : Int) := by
  unfold zjmp at h
  rw [Bool.and_eq_true] at h
  exact of_decide_eq_true h.2
/-- a call's contract: of a plain method, or of a wrapper of the law -/
def zwsW (r : zM) (hh : List (Nat × Nat × Nat × Nat)) : List Cond := Cond.codeWith r.1 r.2.1 r.2.2.1 r.2.2.2.1 hh :: zT
def zMetW (G : zGt) (l : Launch) (r : zM) (hh : List (Nat × Nat × Nat × Nat)) (d : Nat) (args : List Value) (h : zH) (v : Option Value) (hf : zH) (mc ms : Nat) : Prop := Met l r.1 (zwsW r hh) (zrm r d mc ms) (va_Pc (args.map (zre (zad G))) (zPre G h)) (zQo G v hf) mc ms (fun q => G.1 < q)
def zCall (G : zGt) (l : Launch) (r : zM) (d : Nat) (args : List Value) (h : zH) (v : Option Value) (hf : zH) : Prop := ∃ mc ms, zcc hf = zcc h + mc ∧ zss hf = zss h + ms ∧ hf.1 998 = h.1 998 ∧ hf.1 999 = h.1 999 ∧ (r.2.2.2.2.1.2.1 ≠ 11 → zMet G l r d args h v hf mc ms) ∧ (r.2.2.2.2.1.2.1 = 11 → r.2.2.1 ≠ 8 → zMetW G l r (zhh r) d args h v hf mc ms)
def zEnd (op : Instr) (st : List Value) (h : zH) (v : Option Value) (hf : zH) : Prop := match op with
  | .ireturn => ∃ x, st = [.int x] ∧ v = some (.int x) ∧ hf = h
  | .areturn => ∃ x, zb x = true ∧ st = [.int x] ∧ v = some (.int x) ∧ hf = h
  | .lreturn => ∃ x, st = [.long x] ∧ v = some (.long x) ∧ hf = h
  | .return_ => st = [] ∧ v = none ∧ hf = h
  | .athrow => st = [] ∧ v = some (.retAddr 0) ∧ hf = (h.1, h.2.1, h.2.2.1, h.2.2.2.1, h.2.2.2.2 + 1)
  | _ => False
theorem zfs_putI {G : zGt} {h : zH} {a c k : Nat} {x : Int32} (hk : zfkd c k ≠ 1) : zfs G (zup h.1 a k x, h.2) a c = (zfs G h a c).set k (.int x) := by
  refine zfs_put ?_ (fun j hj => ?_)
  · unfold zfv
    rw [if_neg hk]
    dsimp only
    rw [zup_self, zset_self]
  · unfold zfv
    dsimp only
    rw [zup_self, zset_ne _ _ hj]
theorem zfs_putR {G : zGt} {h : zH} {a c k b : Nat} (hk : zfkd c k = 1) : zfs G (h.1, h.2.1, zup h.2.2.1 a k (some b), h.2.2.2) a c = (zfs G h a c).set k (.ref (zad G b)) := by
  refine zfs_put ?_ (fun j hj => ?_)
  · unfold zfv
    rw [if_pos hk]
    dsimp only
    rw [zup_self, zset_self]
  · unfold zfv
    dsimp only
    rw [zup_self, zset_ne _ _ hj]
theorem sln_le (n : Nat) : sln n ≤ 10000 := by
  unfold sln
  rcases Nat.lt_or_ge n 65 with q | q
  · exact (show ∀ n, n < 65 → (nth zlnL n).getD 0 ≤ 10000 by decide +kernel) n q
  · rw [nth_none zlnL n q]
    exact Nat.zero_le _
theorem zWL_8 : ∀ e ∈ zWL, ∀ r' : zM, nth zall e.2 = some r' → r'.2.2.1 ≠ 8 := by
  have h : ∀ e ∈ zWL, (match nth zall e.2 with
    | some r' => !(Nat.beq r'.2.2.1 8)
    | none => true) = true := by decide +kernel
  intro e he r' hr q
  have h1 := h e he
  rw [hr] at h1
  dsimp only at h1
  rw [q] at h1
  cases h1
section ZMN
variable {G : zGt} {p : Program} {l : Launch} {e : Env} {R : Room} {s : State} {m : MethodId} {args : Array Value} {below : List Frame} {meth : Method} {c : Code} {Q : State → Prop} {r : zM} {h0 : zH}
theorem zs_callSW (E : zEnv G p s m args meth c r) {i M idx d' mc ms : Nat} {lv As rest : List Value} {h hf : zH} {v : Option Value} {r' : zM} (h11 : r.2.2.2.2.1.2.1 = 11) (hown : nth zcn r.2.2.2.2.1.2.1 = some r.1.cls) (hw : (idx, M) ∈ zWL) (hM : nth zall M = some r') (hmw : r'.2.2.2.2.1.2.1 = 11 → r'.2.2.1 ≠ 8 → zMetW G l r' (zhh r') d' As h v hf mc ms) (hv : zan v = true) (hd : decode r.2.1 (zpc r i) = .ok (.invokestatic idx, 3)) (hn : zpc r (i + 1) = zpc r i + 3) (hAs : As.length = r'.2.2.2.2.1.2.2)
    (hfr : r'.2.2.2.2.1.1 + 8 * d' + 1 ≤ R.frames) (hlo : 41 * (r'.2.2.2.2.1.1 + 8 * d' + 1) ≤ R.locals) (hz : Nat.ble (zcat rest) 8 = true) (hcap : zcc hf ≤ R.cells + zcc h0 ∧ zss hf ≤ R.slots + zss h0) (hmc : zcc hf = zcc h + mc) (hms : zss hf = zss h + ms) (hk8 : hf.1 998 = h.1 998) (hk9 : hf.1 999 = h.1 999)
    (k : zGo G p l e R s m args below meth c Q r h0 (i + 1) lv (v.toList ++ rest) hf) : zGo G p l e R s m args below meth c Q r h0 i lv (As.reverse ++ rest) h := by
  obtain ⟨r2, g1, g2, g3, g4, g5, g6, g7, g8, g9⟩ := zWL_ok _ hw
  cases Option.some.inj (g1.symm.trans hM)
  have hO : r.1.cls = "HopCourtsLaw" := by rw [h11] at hown; exact (Option.some.inj hown).symm
  intro ls H locs cells slots C0
  have c1 := C0.2.2.2.2.2.2.1
  have c2 := C0.2.2.2.2.2.2.2
  have h8 := Nat.le_of_ble_eq_true hz
  have hG : GoodIn zT (zwsW r' (zhh r')) := fun w hw => (List.mem_cons.mp hw).elim (fun q => by rw [q]; exact zT_ok _ g3) (zT_ok w)
  have hr := zroom (r' := r') (d' := d') (mc := mc) (ms := ms) hfr hlo g9
  rw [show (As.reverse ++ rest).map (zre (zad G)) = (As.map (zre (zad G))).reverse ++ rest.map (zre (zad G)) by simp]
  refine zs_back hv C0 (vx_runSW (hh := zhh r') (own := r.1.cls) (index := idx) (n := r'.2.2.2.2.1.2.2) (As := As.map (zre (zad G))) ⟨E.1, E.2.1, E.2.2.1, E.2.2.2.1, E.2.2.2.2.1⟩ (hmw g2 (zWL_8 _ hw r' g1)) ⟨⟨rfl, rfl, hr.1, hr.2, pay_in E.2.2.2.2.1 hG, List.mem_cons_self⟩, E.2.2.2.2.1 _ g3, E.2.2.2.2.1 _ g6, g7, fun sig hsig => ?_, ?_, E.2.2.2.2.1 _ g5⟩ ⟨zblind G h _, fun U hU hW => ⟨rfl, zpre_at E C0 U hU hW⟩⟩ rfl (by rw [List.length_map]; exact hAs) C0.2.2.1.1 rfl (lv_room (by rw [zcat_map]; exact h8)) hd ⟨by omega, by omega⟩) hn hmc hms hk8 hk9 k
  · rw [hsig] at g8
    exact (Option.some.inj g8).symm
  · rw [hO]
    exact E.2.2.2.2.1 _ g4
/-- a call by one of the links -/
theorem zs_call (E : zEnv G p s m args meth c r) (hown : nth zcn r.2.2.2.2.1.2.1 = some r.1.cls) {i M q d d' b len : Nat} {lv st : List Value} {h hf : zH} {ri : Instr} {v : Option Value} {r' : zM} (hM : nth zall M = some r') (hc : zchkC r ri len M q b = true) (hd : decode r.2.1 (zpc r i) = .ok (ri, len)) (hn : zpc r (i + 1) = zpc r i + len) (hbd : b + 8 * d' ≤ 8 * d) (hfr : r.2.2.2.2.1.1 + 8 * d ≤ R.frames) (hlo : 41 * (r.2.2.2.2.1.1 + 8 * d) ≤ R.locals)
    (hz : (Nat.ble (zcat (st.drop (q % 64 / 4))) 8 && Nat.ble (q % 64 / 4) st.length) = true) (hrc : zrc (q / 64) (st.take (q % 64 / 4)).reverse h.2.2.2.1 = true) (hC : zCall G l r' d' (st.take (q % 64 / 4)).reverse h v hf) (hv : zan v = true) (hcap : zcc hf ≤ R.cells + zcc h0 ∧ zss hf ≤ R.slots + zss h0)
    (k : zGo G p l e R s m args below meth c Q r h0 (i + 1) lv (v.toList ++ st.drop (q % 64 / 4)) hf) : zGo G p l e R s m args below meth c Q r h0 i lv st h := by
  obtain ⟨mc, ms, hmc, hms, hk8, hk9, hme, hmw⟩ := hC
  obtain ⟨hz8, hlen⟩ := zbq hz
  clear hz
  have hlen := Nat.le_of_ble_eq_true hlen
  unfold zchkC at hc
  rw [hM] at hc
  dsimp only at hc
  rw [Bool.and_eq_true, Bool.and_eq_true] at hc
  obtain ⟨⟨hl3, hrk⟩, hc⟩ := hc
  have hl3 := Nat.eq_of_beq_eq_true hl3
  have hrk : r'.2.2.2.2.1.1 < r.2.2.2.2.1.1 + b := Nat.le_of_ble_eq_true hrk
  subst hl3
  have hfr' : r'.2.2.2.2.1.1 + 8 * d' + 1 ≤ R.frames := by omega
  have hlo' : 41 * (r'.2.2.2.2.1.1 + 8 * d' + 1) ≤ R.locals := Nat.le_trans (Nat.mul_le_mul_left 41 (by omega)) hlo
  have hst : st = (st.take (q % 64 / 4)).reverse.reverse ++ st.drop (q % 64 / 4) := by rw [List.reverse_reverse, List.take_append_drop]
  have hal : ((st.take (q % 64 / 4)).reverse).length = q % 64 / 4 := by rw [List.length_reverse, List.length_take]; omega
  generalize (st.take (q % 64 / 4)).reverse = As at hst hal hrc hme hmw
  generalize st.drop (q % 64 / 4) = rest at hst hz8 k
  subst hst
  split at hc
  · rename_i idx
    simp only [Bool.and_eq_true] at hc
    obtain ⟨⟨h1, h2⟩, h3⟩ := hc
    obtain ⟨O, r2, g1, g2, g3, g4, g4n, g5, g6, g7, T, N, g8⟩ := zML_ok _ (of_decide_eq_true h1)
    cases Option.some.inj (g2.symm.trans hM)
    cases Option.some.inj (g1.symm.trans hown)
    have h2 := Nat.eq_of_beq_eq_true h2
    have h3 := Nat.eq_of_beq_eq_true h3
    cases As with
    | nil => simp at hal; omega
    | cons a As =>
      rw [h2] at hrc
      unfold zrc at hrc
      dsimp only at hrc
      split at hrc
      · rename_i a' As' he
        cases he
        rw [List.reverse_cons, List.append_assoc, List.singleton_append]
        exact zs_callV E (hme g4n) hv hd hn g3 g5 g6 g7 g8 (by simp at hal; omega) hrc hfr' hlo' g4 hz8 hcap hmc hms hk8 hk9 k
      · cases hrc
  · rename_i idx
    simp only [Bool.and_eq_true, Bool.or_eq_true] at hc
    obtain ⟨⟨h1, h2⟩, h3⟩ := hc
    have h3 := Nat.eq_of_beq_eq_true h3
    rcases h1 with (h1 | h1) | ⟨h0, h1⟩
    · obtain ⟨O, r2, g1, g2, g3, g4, g4n, g5, g6⟩ := zML_ok _ (of_decide_eq_true h1)
      cases Option.some.inj (g2.symm.trans hM)
      cases Option.some.inj (g1.symm.trans hown)
      exact zs_callS E (hme g4n) hv hd hn g3 g5 g6 (by omega) hfr' hlo' g4 hz8 hcap hmc hms hk8 hk9 k
    · obtain ⟨O, r2, g1, g2, g3, g4, g4n, ⟨host, g5⟩, g6⟩ := zML_ok _ (of_decide_eq_true h1)
      cases Option.some.inj (g2.symm.trans hM)
      cases Option.some.inj (g1.symm.trans hown)
      exact zs_callSN E (hme g4n) hv hd hn g3 g5 g6 (by omega) hfr' hlo' g4 hz8 hcap hmc hms hk8 hk9 k
    · exact zs_callSW E (Nat.eq_of_beq_eq_true h0) hown (of_decide_eq_true h1) hM hmw hv hd hn (by omega) hfr' hlo' hz8 hcap hmc hms hk8 hk9 k
  · rename_i idx
    simp only [Bool.and_eq_true, Bool.or_eq_true] at hc
    obtain ⟨⟨h1, h2⟩, h3⟩ := hc
    have h2 := Nat.eq_of_beq_eq_true h2
    have h3 := Nat.eq_of_beq_eq_true h3
    cases As with
    | nil => simp at hal; omega
    | cons a As =>
      rw [h2] at hrc
      unfold zrc at hrc
      dsimp only at hrc
      split at hrc
      · rename_i a' As' he
        cases he
        rw [List.reverse_cons, List.append_assoc, List.singleton_append]
        rcases h1 with h1 | h1
        · obtain ⟨O, r2, g1, g2, g3, g4, g4n, g5, g6, g7, g8⟩ := zML_ok _ (of_decide_eq_true h1)
          cases Option.some.inj (g2.symm.trans hM)
          cases Option.some.inj (g1.symm.trans hown)
          exact zs_callI E (hme g4n) hv hd hn g3 g8 g5 g6 g7 (by simp at hal; omega) hfr' hlo' g4 hz8 hcap hmc hms hk8 hk9 k
        · obtain ⟨O, r2, g1, g2, g3, g4, g4n, ⟨host, g5⟩, g6, g7, g8⟩ := zML_ok _ (of_decide_eq_true h1)
          cases Option.some.inj (g2.symm.trans hM)
          cases Option.some.inj (g1.symm.trans hown)
          exact zs_callIN E (hme g4n) hv hd hn g3 g8 g5 g6 g7 (by simp at hal; omega) hfr' hlo' g4 hz8 hcap hmc hms hk8 hk9 k
      · cases hrc
  · cases hc
theorem zF_of {idx q : Nat} (hown : nth zcn r.2.2.2.2.1.2.1 = some r.1.cls) (h : decide ((r.2.2.2.2.1.2.1, idx, q) ∈ zFL) = true) : ∃ (C : String) (T : u_T) (N : Nat) (ty : Nat → FieldType), zCls (q / 64) C T N ty ∧ q % 64 < N ∧ Cond.fieldLink r.1.cls idx (T (q % 64)).1 (T (q % 64)).2.1 (T (q % 64)).2.2.1 ∈ zT := by
  obtain ⟨O, C, T, N, ty, g1, g2, g3, g4⟩ := zFL_ok _ (of_decide_eq_true h)
  cases Option.some.inj (g1.symm.trans hown)
  exact ⟨C, T, N, ty, g2, g3, g4⟩
theorem zfinal_ok {q N : Nat} {C : String} {T : u_T} (hc : vwCl[q / 64]? = some (C, T, N)) (h : zfinal r q = true) : (T (q % 64)).2.2.2 = false ∨ ((T (q % 64)).2.2.2 = true ∧ r.1.name = "<init>" ∧ (T (q % 64)).1 = r.1.cls) := by
  unfold zfinal at h
  rw [hc] at h
  dsimp only at h
  cases hf : (T (q % 64)).2.2.2 with
  | false => exact Or.inl rfl
  | true =>
    rw [hf] at h
    simp at h
    exact Or.inr ⟨rfl, h⟩
set_option maxHeartbeats 4000000 in
theorem zstep (E : zEnv G p s m args meth c r) (hown : nth zcn r.2.2.2.2.1.2.1 = some r.1.cls) {d : Nat} (hfr : r.2.2.2.2.1.1 + 8 * d ≤ R.frames) (hlo : 41 * (r.2.2.2.2.1.1 + 8 * d) ≤ R.locals) (hrk : 0 < r.2.2.2.2.1.1) {v : Option Value} {hf : zH} {g : Bool → Nat → List Value → zH → Option zO} {f : Nat → List Value → List Value → zH → Option zO}
    (kf : ∀ i lv st h, f i lv st h = some (v, hf) → zGo G p l e R s m args below meth c Q r h0 i lv st h) (kk : ∀ i lv st h, f i lv st h = some (v, hf) → zKp h hf)
    (kg : ∀ b M As h1 v1 h2, g b M As h1 = some (v1, h2) → zan v1 = true → ∃ (r' : zM) (d' : Nat), nth zall M = some r' ∧ (if b = true then 8 else 0) + 8 * d' ≤ 8 * d ∧ zCall G l r' d' As h1 v1 h2)
    (hcap : zcc hf ≤ R.cells + zcc h0 ∧ zss hf ≤ R.slots + zss h0) (Ko : ∀ i lv st h op, nth r.2.2.2.2.2.1 i = some op → zEnd op st h v hf → zGo G p l e R s m args below meth c Q r h0 i lv st h)
    (Jo : ∀ i lv st h z, nth r.2.2.2.2.2.1 i = some (.jsr z) → stp g f (.jsr z) i lv st h = some (v, hf) → zGo G p l e R s m args below meth c Q r h0 i lv st h)
    {i len : Nat} {op ri : Instr} {lv st : List Value} {h : zH} (hop : nth r.2.2.2.2.2.1 i = some op) (hd : decode r.2.1 (zpc r i) = .ok (ri, len)) (hc : zchk1 r i (zpc r i) ri len op = true) (hnx : zfall op = true → zpc r (i + 1) = zpc r i + len) (hs : stp g f op i lv st h = some (v, hf)) : zGo G p l e R s m args below meth c Q r h0 i lv st h := by
  have hl41 : 41 ≤ R.locals := Nat.le_trans (by omega) hlo
  have hf1 : 1 ≤ R.frames := by omega
  have cap : ∀ {h' : zH}, zKp h' hf → zcc h' ≤ R.cells + zcc h0 ∧ zss h' ≤ R.slots + zss h0 := fun q => ⟨Nat.le_trans q.cc hcap.1, Nat.le_trans q.ss hcap.2⟩
  cases op with
  | iadd =>
    simp only [stp] at hs
    split at hs
    · obtain ⟨rfl, rfl⟩ := zeq1 hc
      exact zs_iadd E hd (hnx rfl) (kf _ _ _ _ hs)
    · cases hs
  | isub =>
    simp only [stp] at hs
    split at hs
    · obtain ⟨rfl, rfl⟩ := zeq1 hc
      exact zs_isub E hd (hnx rfl) (kf _ _ _ _ hs)
    · cases hs
  | imul =>
    simp only [stp] at hs
    split at hs
    · obtain ⟨rfl, rfl⟩ := zeq1 hc
      exact zs_imul E hd (hnx rfl) (kf _ _ _ _ hs)
    · cases hs
  | iand =>
    simp only [stp] at hs
    split at hs
    · obtain ⟨rfl, rfl⟩ := zeq1 hc
      exact zs_iand E hd (hnx rfl) (kf _ _ _ _ hs)
    · cases hs
  | ior =>
    simp only [stp] at hs
    split at hs
    · obtain ⟨rfl, rfl⟩ := zeq1 hc
      exact zs_ior E hd (hnx rfl) (kf _ _ _ _ hs)
    · cases hs
  | ixor =>
    simp only [stp] at hs
    split at hs
    · obtain ⟨rfl, rfl⟩ := zeq1 hc
      exact zs_ixor E hd (hnx rfl) (kf _ _ _ _ hs)
    · cases hs
  | ishl =>
    simp only [stp] at hs
    split at hs
    · obtain ⟨rfl, rfl⟩ := zeq1 hc
      exact zs_ishl E hd (hnx rfl) (kf _ _ _ _ hs)
    · cases hs
  | ishr =>
    simp only [stp] at hs
    split at hs
    · obtain ⟨rfl, rfl⟩ := zeq1 hc
      exact zs_ishr E hd (hnx rfl) (kf _ _ _ _ hs)
    · cases hs
  | iushr =>
    simp only [stp] at hs
    split at hs
    · obtain ⟨rfl, rfl⟩ := zeq1 hc
      exact zs_iushr E hd (hnx rfl) (kf _ _ _ _ hs)
    · cases hs
  | ineg =>
    simp only [stp] at hs
    split at hs
    · obtain ⟨rfl, rfl⟩ := zeq1 hc
      exact zs_ineg E hd (hnx rfl) (kf _ _ _ _ hs)
    · cases hs
  | ladd =>
    simp only [stp] at hs
    split at hs
    · obtain ⟨rfl, rfl⟩ := zeq1 hc
      exact zs_ladd E hd (hnx rfl) (kf _ _ _ _ hs)
    · cases hs
  | lmul =>
    simp only [stp] at hs
    split at hs
    · obtain ⟨rfl, rfl⟩ := zeq1 hc
      exact zs_lmul E hd (hnx rfl) (kf _ _ _ _ hs)
    · cases hs
  | lcmp =>
    simp only [stp] at hs
    split at hs
    · obtain ⟨rfl, rfl⟩ := zeq1 hc
      exact zs_lcmp E hd (hnx rfl) (kf _ _ _ _ hs)
    · cases hs
  | i2l =>
    simp only [stp] at hs
    split at hs
    · obtain ⟨rfl, rfl⟩ := zeq1 hc
      exact zs_i2l E hd (hnx rfl) (kf _ _ _ _ hs)
    · cases hs
  | l2i =>
    simp only [stp] at hs
    split at hs
    · obtain ⟨rfl, rfl⟩ := zeq1 hc
      exact zs_l2i E hd (hnx rfl) (kf _ _ _ _ hs)
    · cases hs
  | i2b =>
    simp only [stp] at hs
    split at hs
    · obtain ⟨rfl, rfl⟩ := zeq1 hc
      exact zs_i2b E hd (hnx rfl) (kf _ _ _ _ hs)
    · cases hs
  | i2s =>
    simp only [stp] at hs
    split at hs
    · obtain ⟨rfl, rfl⟩ := zeq1 hc
      exact zs_i2s E hd (hnx rfl) (kf _ _ _ _ hs)
    · cases hs
  | i2c =>
    simp only [stp] at hs
    split at hs
    · obtain ⟨rfl, rfl⟩ := zeq1 hc
      exact zs_i2c E hd (hnx rfl) (kf _ _ _ _ hs)
    · cases hs
  | pop =>
    simp only [stp] at hs
    split at hs
    · obtain ⟨rfl, rfl⟩ := zeq1 hc
      exact zs_pop E hd (hnx rfl) (kf _ _ _ _ hs)
    · cases hs
  | dup2 =>
    simp only [stp] at hs
    split at hs
    · obtain ⟨rfl, rfl⟩ := zeq1 hc
      exact zs_dup2 E hd (hnx rfl) (kf _ _ _ _ hs)
    · cases hs
  | dup_x1 =>
    simp only [stp] at hs
    split at hs
    · obtain ⟨rfl, rfl⟩ := zeq1 hc
      exact zs_dupx1 E hd (hnx rfl) (kf _ _ _ _ hs)
    · cases hs
  | idiv =>
    simp only [stp] at hs
    split at hs
    · split at hs
      · cases hs
      · rename_i hne
        obtain ⟨rfl, rfl⟩ := zeq1 hc
        exact zs_idiv E hd (hnx rfl) hne (kf _ _ _ _ hs)
    · cases hs
  | irem =>
    simp only [stp] at hs
    split at hs
    · split at hs
      · cases hs
      · rename_i hne
        obtain ⟨rfl, rfl⟩ := zeq1 hc
        exact zs_irem E hd (hnx rfl) hne (kf _ _ _ _ hs)
    · cases hs
  | ldiv =>
    simp only [stp] at hs
    split at hs
    · split at hs
      · cases hs
      · rename_i hne
        obtain ⟨rfl, rfl⟩ := zeq1 hc
        exact zs_ldiv E hd (hnx rfl) hne (kf _ _ _ _ hs)
    · cases hs
  | lrem =>
    simp only [stp] at hs
    split at hs
    · split at hs
      · cases hs
      · rename_i hne
        obtain ⟨rfl, rfl⟩ := zeq1 hc
        exact zs_lrem E hd (hnx rfl) hne (kf _ _ _ _ hs)
    · cases hs
  | dup =>
    simp only [stp] at hs
    split at hs
    · obtain ⟨rfl, rfl⟩ := zeq1 hc
      exact zs_dupi E hd (hnx rfl) (kf _ _ _ _ hs)
    · obtain ⟨rfl, rfl⟩ := zeq1 hc
      exact zs_dupr E hd (hnx rfl) (kf _ _ _ _ hs)
    · cases hs
  | sipush v0 =>
    simp only [stp] at hs
    unfold zchk1 at hc
    dsimp only at hc
    split at hc
    · obtain ⟨a1, a2⟩ := zbq hc
      cases Nat.eq_of_beq_eq_true a2
      exact zs_iconst E hd (hnx rfl) (of_decide_eq_true a1) (kf _ _ _ _ hs)
    · obtain ⟨a1, a2⟩ := zbq hc
      cases Nat.eq_of_beq_eq_true a2
      exact zs_bipush E hd (hnx rfl) (of_decide_eq_true a1) (kf _ _ _ _ hs)
    · obtain ⟨a1, a2⟩ := zbq hc
      cases Nat.eq_of_beq_eq_true a2
      exact zs_sipush E hd (hnx rfl) (of_decide_eq_true a1) (kf _ _ _ _ hs)
    · obtain ⟨a1, a2⟩ := zbq hc
      cases Nat.eq_of_beq_eq_true a2
      obtain ⟨O, g1, g2⟩ := zCI_ok _ (of_decide_eq_true a1)
      cases Option.some.inj (g1.symm.trans hown)
      exact zs_ldc E hd (hnx rfl) g2 (kf _ _ _ _ hs)
    · obtain ⟨a1, a2⟩ := zbq hc
      cases Nat.eq_of_beq_eq_true a2
      obtain ⟨O, g1, g2⟩ := zCI_ok _ (of_decide_eq_true a1)
      cases Option.some.inj (g1.symm.trans hown)
      exact zs_ldcw E hd (hnx rfl) g2 (kf _ _ _ _ hs)
    · cases hc
  | goto_w v0 =>
    simp only [stp] at hs
    unfold zchk1 at hc
    dsimp only at hc
    split at hc
    · obtain ⟨a1, a2⟩ := zbq hc
      cases Nat.eq_of_beq_eq_true a2
      exact zs_lconst E hd (hnx rfl) (of_decide_eq_true a1) (kf _ _ _ _ hs)
    · obtain ⟨a1, a2⟩ := zbq hc
      cases Nat.eq_of_beq_eq_true a2
      obtain ⟨O, g1, g2⟩ := zCJ_ok _ (of_decide_eq_true a1)
      cases Option.some.inj (g1.symm.trans hown)
      exact zs_ldc2 E hd (hnx rfl) g2 (kf _ _ _ _ hs)
    · cases hc
  | iload k =>
    simp only [stp] at hs
    unfold zchk1 at hc
    dsimp only at hc
    split at hs
    · rename_i x hx
      split at hc
      · obtain ⟨a1, a2⟩ := zbq hc
        cases Nat.eq_of_beq_eq_true a2
        cases Nat.eq_of_beq_eq_true a1
        exact zs_iload E hd (hnx rfl) hx (kf _ _ _ _ hs)
      · obtain ⟨a1, a2⟩ := zbq hc
        cases Nat.eq_of_beq_eq_true a2
        exact zs_iloadn E hd (hnx rfl) (Nat.eq_of_beq_eq_true a1) hx (kf _ _ _ _ hs)
      · cases hc
    · cases hs
  | istore k =>
    simp only [stp] at hs
    unfold zchk1 at hc
    dsimp only at hc
    obtain ⟨a0, hc⟩ := zbq hc
    have a0 := Nat.le_of_ble_eq_true a0
    split at hs
    · split at hc
      · obtain ⟨a1, a2⟩ := zbq hc
        cases Nat.eq_of_beq_eq_true a2
        cases Nat.eq_of_beq_eq_true a1
        exact zs_istore E hd (hnx rfl) a0 (kf _ _ _ _ hs)
      · obtain ⟨a1, a2⟩ := zbq hc
        cases Nat.eq_of_beq_eq_true a2
        exact zs_istoren E hd (hnx rfl) (Nat.eq_of_beq_eq_true a1) a0 (kf _ _ _ _ hs)
      · cases hc
    · cases hs
  | lload k =>
    simp only [stp] at hs
    unfold zchk1 at hc
    dsimp only at hc
    split at hs
    · rename_i x hx
      split at hc
      · obtain ⟨a1, a2⟩ := zbq hc
        cases Nat.eq_of_beq_eq_true a2
        cases Nat.eq_of_beq_eq_true a1
        exact zs_lload E hd (hnx rfl) hx (kf _ _ _ _ hs)
      · obtain ⟨a1, a2⟩ := zbq hc
        cases Nat.eq_of_beq_eq_true a2
        exact zs_lloadn E hd (hnx rfl) (Nat.eq_of_beq_eq_true a1) hx (kf _ _ _ _ hs)
      · cases hc
    · cases hs
  | lstore k =>
    simp only [stp] at hs
    unfold zchk1 at hc
    dsimp only at hc
    obtain ⟨a0, hc⟩ := zbq hc
    have a0 := Nat.le_of_ble_eq_true a0
    split at hs
    · split at hc
      · obtain ⟨a1, a2⟩ := zbq hc
        cases Nat.eq_of_beq_eq_true a2
        cases Nat.eq_of_beq_eq_true a1
        exact zs_lstore E hd (hnx rfl) a0 (kf _ _ _ _ hs)
      · obtain ⟨a1, a2⟩ := zbq hc
        cases Nat.eq_of_beq_eq_true a2
        exact zs_lstoren E hd (hnx rfl) (Nat.eq_of_beq_eq_true a1) a0 (kf _ _ _ _ hs)
      · cases hc
    · cases hs
  | aload k =>
    simp only [stp] at hs
    unfold zchk1 at hc
    dsimp only at hc
    split at hs
    · rename_i x hx
      split at hc
      · obtain ⟨a1, a2⟩ := zbq hc
        cases Nat.eq_of_beq_eq_true a2
        cases Nat.eq_of_beq_eq_true a1
        exact zs_aload E hd (hnx rfl) hx (kf _ _ _ _ hs)
      · obtain ⟨a1, a2⟩ := zbq hc
        cases Nat.eq_of_beq_eq_true a2
        exact zs_aloadn E hd (hnx rfl) (Nat.eq_of_beq_eq_true a1) hx (kf _ _ _ _ hs)
      · cases hc
    · cases hs
  | astore k =>
    simp only [stp] at hs
    unfold zchk1 at hc
    dsimp only at hc
    obtain ⟨a0, hc⟩ := zbq hc
    have a0 := Nat.le_of_ble_eq_true a0
    split at hs
    · split at hc
      · obtain ⟨a1, a2⟩ := zbq hc
        cases Nat.eq_of_beq_eq_true a2
        cases Nat.eq_of_beq_eq_true a1
        exact zs_astore E hd (hnx rfl) a0 (kf _ _ _ _ hs)
      · obtain ⟨a1, a2⟩ := zbq hc
        cases Nat.eq_of_beq_eq_true a2
        exact zs_astoren E hd (hnx rfl) (Nat.eq_of_beq_eq_true a1) a0 (kf _ _ _ _ hs)
      · cases hc
    · cases hs
  | iinc k n =>
    simp only [stp] at hs
    unfold zchk1 at hc
    dsimp only at hc
    rw [Bool.and_assoc] at hc
    obtain ⟨a0, hc⟩ := zbq hc
    have a0 := Nat.le_of_ble_eq_true a0
    obtain ⟨rfl, rfl⟩ := zeq1 hc
    split at hs
    · rename_i x hx
      exact zs_iinc E hd (hnx rfl) hx (by rw [kI_of]) a0 (kf _ _ _ _ hs)
    · cases hs
  | getfield q =>
    simp only [stp] at hs
    unfold zchk1 at hc
    dsimp only at hc
    split at hc
    · simp only [Bool.and_eq_true] at hc
      obtain ⟨⟨a1, a2⟩, a3⟩ := hc
      cases Nat.eq_of_beq_eq_true a3
      obtain ⟨C, T, N, ty, g1, g2, g3⟩ := zF_of hown a1
      split at hs
      · split at hs
        · rename_i hq
          exact zs_getf E g1.1 g2 g1.2.1 g1.2.2.1 g3 (by intro q; rw [q] at a2; exact absurd a2 (by decide)) hd (hnx rfl) hq (kf _ _ _ _ hs)
        · cases hs
      · cases hs
    · cases hc
  | getstatic q =>
    simp only [stp] at hs
    unfold zchk1 at hc
    dsimp only at hc
    split at hc
    · simp only [Bool.and_eq_true] at hc
      obtain ⟨⟨a1, a2⟩, a3⟩ := hc
      cases Nat.eq_of_beq_eq_true a3
      obtain ⟨C, T, N, ty, g1, g2, g3⟩ := zF_of hown a1
      split at hs
      · split at hs
        · rename_i hq
          split at hs
          · rename_i b hb
            exact zs_getr E g1.1 g2 g1.2.1 g1.2.2.1 g3 (Nat.eq_of_beq_eq_true a2) hb hd (hnx rfl) hq (kf _ _ _ _ hs)
          · rename_i hb
            exact zs_getn E g1.1 g2 g1.2.1 g1.2.2.1 g3 (Nat.eq_of_beq_eq_true a2) hb hd (hnx rfl) hq (kf _ _ _ _ hs)
        · cases hs
      · cases hs
    · cases hc
  | putfield q =>
    simp only [stp] at hs
    unfold zchk1 at hc
    dsimp only at hc
    split at hc
    · simp only [Bool.and_eq_true] at hc
      obtain ⟨⟨⟨a1, a2⟩, a4⟩, a3⟩ := hc
      cases Nat.eq_of_beq_eq_true a3
      obtain ⟨C, T, N, ty, g1, g2, g3⟩ := zF_of hown a1
      have a2 := Nat.eq_of_beq_eq_true a2
      have hty := (g1.2.2.2.2.2.1 _ g2).2.1 a2
      split at hs
      · split at hs
        · rename_i hq
          exact zs_put E g1.1 g2 g1.2.1 g1.2.2.1 g3 ty g1.2.2.2.1 g1.2.2.2.2.1 (zfinal_ok g1.1 a4) (by rw [hty]; rfl) (by rw [hty]; rfl) hd (hnx rfl) hq (by rfl) (by intro id hid; exact zup_ne _ _ _ hid) (by intro _ _; rfl) (by intro _ _; rfl) (by exact zfs_putI (by omega)) (kf _ _ _ _ hs)
        · cases hs
      · cases hs
    · cases hc
  | fstore q =>
    simp only [stp] at hs
    unfold zchk1 at hc
    dsimp only at hc
    split at hc
    · simp only [Bool.and_eq_true] at hc
      obtain ⟨⟨⟨a1, a2⟩, a4⟩, a3⟩ := hc
      cases Nat.eq_of_beq_eq_true a3
      obtain ⟨C, T, N, ty, g1, g2, g3⟩ := zF_of hown a1
      have a2 := Nat.eq_of_beq_eq_true a2
      have hty := (g1.2.2.2.2.2.1 _ g2).2.2.1 a2
      split at hs
      · split at hs
        · rename_i x a rr bb hq
          split at hs
          · rename_i hb
            have hv01 : x = 0 ∨ x = 1 := by simpa [zb] using hb
            exact zs_put E g1.1 g2 g1.2.1 g1.2.2.1 g3 ty g1.2.2.2.1 g1.2.2.2.2.1 (zfinal_ok g1.1 a4) (by rw [hty]; rcases hv01 with rfl | rfl <;> rfl) (by rw [hty]; rcases hv01 with rfl | rfl <;> rfl) hd (hnx rfl) hq (by rfl) (by intro id hid; exact zup_ne _ _ _ hid) (by intro _ _; rfl) (by intro _ _; rfl) (by exact zfs_putI (by omega)) (kf _ _ _ _ hs)
          · cases hs
        · cases hs
      · cases hs
    · cases hc
  | putstatic q =>
    simp only [stp] at hs
    unfold zchk1 at hc
    dsimp only at hc
    split at hc
    · simp only [Bool.and_eq_true] at hc
      obtain ⟨⟨⟨a1, a2⟩, a4⟩, a3⟩ := hc
      cases Nat.eq_of_beq_eq_true a3
      obtain ⟨C, T, N, ty, g1, g2, g3⟩ := zF_of hown a1
      have a2 := Nat.eq_of_beq_eq_true a2
      have hty := (g1.2.2.2.2.2.1 _ g2).1 a2
      split at hs
      · split at hs
        · rename_i hq
          exact zs_put E g1.1 g2 g1.2.1 g1.2.2.1 g3 ty g1.2.2.2.1 g1.2.2.2.2.1 (zfinal_ok g1.1 a4) (hty _).1 (hty _).2 hd (hnx rfl) hq (by rfl) (by intro _ _; rfl) (by intro _ _; rfl) (by intro id hid; exact zup_ne _ _ _ hid) (by exact zfs_putR a2) (kf _ _ _ _ hs)
        · cases hs
      · cases hs
    · cases hc
  | iaload =>
    simp only [stp] at hs
    split at hs
    · split at hs
      · rename_i hz
        split at hs
        · rename_i hq
          obtain ⟨rfl, rfl⟩ := zeq1 hc
          exact zs_iald E hd (hnx rfl) hz hq (kf _ _ _ _ hs)
        · cases hs
      · cases hs
    · cases hs
  | baload =>
    simp only [stp] at hs
    split at hs
    · split at hs
      · rename_i hz
        split at hs
        · rename_i hq
          obtain ⟨rfl, rfl⟩ := zeq1 hc
          exact zs_bald E hd (hnx rfl) hz hq (kf _ _ _ _ hs)
        · cases hs
      · cases hs
    · cases hs
  | caload =>
    simp only [stp] at hs
    split at hs
    · split at hs
      · rename_i hz
        split at hs
        · rename_i hq
          obtain ⟨rfl, rfl⟩ := zeq1 hc
          exact zs_cald E hd (hnx rfl) hz hq (kf _ _ _ _ hs)
        · cases hs
      · cases hs
    · cases hs
  | laload =>
    simp only [stp] at hs
    split at hs
    · split at hs
      · rename_i hz
        split at hs
        · rename_i hq
          obtain ⟨rfl, rfl⟩ := zeq1 hc
          exact zs_lald E hd (hnx rfl) hz hq (kf _ _ _ _ hs)
        · cases hs
      · cases hs
    · cases hs
  | saload =>
    simp only [stp] at hs
    split at hs
    · split at hs
      · rename_i hz
        split at hs
        · rename_i hq
          obtain ⟨rfl, rfl⟩ := zeq1 hc
          exact zs_zald E hd (hnx rfl) hz hq (kf _ _ _ _ hs)
        · cases hs
      · cases hs
    · cases hs
  | iastore =>
    simp only [stp] at hs
    split at hs
    · split at hs
      · rename_i hz
        split at hs
        · rename_i hq
          obtain ⟨rfl, rfl⟩ := zeq1 hc
          exact zs_iast E hd (hnx rfl) hz hq (kf _ _ _ _ hs)
        · cases hs
      · cases hs
    · cases hs
  | bastore =>
    simp only [stp] at hs
    split at hs
    · split at hs
      · rename_i hz
        split at hs
        · rename_i hq
          obtain ⟨rfl, rfl⟩ := zeq1 hc
          exact zs_bast E hd (hnx rfl) hz hq (kf _ _ _ _ hs)
        · cases hs
      · cases hs
    · cases hs
  | castore =>
    simp only [stp] at hs
    split at hs
    · split at hs
      · rename_i hz
        split at hs
        · rename_i hq
          obtain ⟨rfl, rfl⟩ := zeq1 hc
          exact zs_cast E hd (hnx rfl) hz hq (kf _ _ _ _ hs)
        · cases hs
      · cases hs
    · cases hs
  | lastore =>
    simp only [stp] at hs
    split at hs
    · split at hs
      · rename_i hz
        split at hs
        · rename_i hq
          obtain ⟨rfl, rfl⟩ := zeq1 hc
          exact zs_last E hd (hnx rfl) hz hq (kf _ _ _ _ hs)
        · cases hs
      · cases hs
    · cases hs
  | sastore =>
    simp only [stp] at hs
    split at hs
    · split at hs
      · rename_i hz
        split at hs
        · rename_i hb
          split at hs
          · rename_i hq
            obtain ⟨rfl, rfl⟩ := zeq1 hc
            exact zs_zast E hd (hnx rfl) hb hz hq (kf _ _ _ _ hs)
          · cases hs
        · cases hs
      · cases hs
    · cases hs
  | arraylength =>
    simp only [stp] at hs
    split at hs
    · split at hs
      · rename_i hz
        split at hs
        · rename_i hq
          obtain ⟨rfl, rfl⟩ := zeq1 hc
          exact zs_alen E hd (hnx rfl) hz hq (kf _ _ _ _ hs)
        · cases hs
      · cases hs
    · cases hs
  | f2i =>
    simp only [stp] at hs
    split at hs
    · obtain ⟨rfl, rfl⟩ := zeq1 hc
      exact zs_slen E hd (hnx rfl) (kf _ _ _ _ hs)
    · cases hs
  | faload =>
    simp only [stp] at hs
    split at hs
    · split at hs
      · rename_i hq
        obtain ⟨rfl, rfl⟩ := zeq1 hc
        exact zs_sld E hd (hnx rfl) hq (kf _ _ _ _ hs)
      · cases hs
    · cases hs
  | if_icmp cd t =>
    unfold zchk1 at hc
    dsimp only at hc
    split at hc
    · rename_i cd' off
      simp only [Bool.and_eq_true] at hc
      obtain ⟨⟨a1, a2⟩, a3⟩ := hc
      cases Nat.eq_of_beq_eq_true a3
      cases of_decide_eq_true a1
      have ht := zjmp_ok a2
      cases cd with
      | eq =>
        simp only [stp] at hs
        split at hs
        · exact zs_icmp_eq E hd (hnx rfl) ht (fun q => kf _ _ _ _ (by rw [if_pos q] at hs; exact hs)) (fun q => kf _ _ _ _ (by rw [if_neg q] at hs; exact hs))
        · cases hs
      | ne =>
        simp only [stp] at hs
        split at hs
        · exact zs_icmp_ne E hd (hnx rfl) ht (fun q => kf _ _ _ _ (by rw [if_neg q] at hs; exact hs)) (fun q => kf _ _ _ _ (by rw [if_pos q] at hs; exact hs))
        · cases hs
      | lt =>
        simp only [stp] at hs
        split at hs
        · exact zs_icmp_lt E hd (hnx rfl) ht (fun q => kf _ _ _ _ (by rw [if_pos q] at hs; exact hs)) (fun q => kf _ _ _ _ (by rw [if_neg q] at hs; exact hs))
        · cases hs
      | ge =>
        simp only [stp] at hs
        split at hs
        · exact zs_icmp_ge E hd (hnx rfl) ht (fun q => kf _ _ _ _ (by rw [if_pos q] at hs; exact hs)) (fun q => kf _ _ _ _ (by rw [if_neg q] at hs; exact hs))
        · cases hs
      | gt =>
        simp only [stp] at hs
        split at hs
        · exact zs_icmp_gt E hd (hnx rfl) ht (fun q => kf _ _ _ _ (by rw [if_pos q] at hs; exact hs)) (fun q => kf _ _ _ _ (by rw [if_neg q] at hs; exact hs))
        · cases hs
      | le =>
        simp only [stp] at hs
        split at hs
        · exact zs_icmp_le E hd (hnx rfl) ht (fun q => kf _ _ _ _ (by rw [if_pos q] at hs; exact hs)) (fun q => kf _ _ _ _ (by rw [if_neg q] at hs; exact hs))
        · cases hs
    · cases hc
  | ifCond cd t =>
    unfold zchk1 at hc
    dsimp only at hc
    split at hc
    · rename_i cd' off
      simp only [Bool.and_eq_true] at hc
      obtain ⟨⟨a1, a2⟩, a3⟩ := hc
      cases Nat.eq_of_beq_eq_true a3
      cases of_decide_eq_true a1
      have ht := zjmp_ok a2
      cases cd with
      | eq =>
        simp only [stp] at hs
        split at hs
        · exact zs_if_eq E hd (hnx rfl) ht (fun q => kf _ _ _ _ (by rw [if_pos q] at hs; exact hs)) (fun q => kf _ _ _ _ (by rw [if_neg q] at hs; exact hs))
        · cases hs
      | ne =>
        simp only [stp] at hs
        split at hs
        · exact zs_if_ne E hd (hnx rfl) ht (fun q => kf _ _ _ _ (by rw [if_neg q] at hs; exact hs)) (fun q => kf _ _ _ _ (by rw [if_pos q] at hs; exact hs))
        · cases hs
      | lt =>
        simp only [stp] at hs
        split at hs
        · exact zs_if_lt E hd (hnx rfl) ht (fun q => kf _ _ _ _ (by rw [if_pos q] at hs; exact hs)) (fun q => kf _ _ _ _ (by rw [if_neg q] at hs; exact hs))
        · cases hs
      | ge =>
        simp only [stp] at hs
        split at hs
        · exact zs_if_ge E hd (hnx rfl) ht (fun q => kf _ _ _ _ (by rw [if_pos q] at hs; exact hs)) (fun q => kf _ _ _ _ (by rw [if_neg q] at hs; exact hs))
        · cases hs
      | gt =>
        simp only [stp] at hs
        split at hs
        · exact zs_if_gt E hd (hnx rfl) ht (fun q => kf _ _ _ _ (by rw [if_pos q] at hs; exact hs)) (fun q => kf _ _ _ _ (by rw [if_neg q] at hs; exact hs))
        · cases hs
      | le =>
        simp only [stp] at hs
        split at hs
        · exact zs_if_le E hd (hnx rfl) ht (fun q => kf _ _ _ _ (by rw [if_pos q] at hs; exact hs)) (fun q => kf _ _ _ _ (by rw [if_neg q] at hs; exact hs))
        · cases hs
    · cases hc
  | goto t =>
    simp only [stp] at hs
    unfold zchk1 at hc
    dsimp only at hc
    split at hc
    · obtain ⟨a1, a3⟩ := zbq hc
      cases Nat.eq_of_beq_eq_true a3
      exact zs_goto E hd (zjmp_ok a1) (kf _ _ _ _ hs)
    · cases hc
  | ifnonnull t =>
    simp only [stp] at hs
    unfold zchk1 at hc
    dsimp only at hc
    split at hc
    · obtain ⟨a1, a3⟩ := zbq hc
      cases Nat.eq_of_beq_eq_true a3
      split at hs
      · exact zs_ifnn E hd (zjmp_ok a1) (kf _ _ _ _ hs)
      · exact zs_ifnnN E hd (hnx rfl) (kf _ _ _ _ hs)
      · cases hs
    · cases hc
  | tableswitch dd lo hi ts =>
    simp only [stp] at hs
    unfold zchk1 at hc
    dsimp only at hc
    split at hc
    · rename_i d' lo' hi' offs
      simp only [Bool.and_eq_true] at hc
      obtain ⟨⟨⟨⟨⟨⟨a1, a2⟩, a3⟩, a4⟩, a5⟩, a6⟩, a7⟩ := hc
      cases of_decide_eq_true a1
      split at hs
      · refine zs_tsw E hd (of_decide_eq_true a2) (of_decide_eq_true a3) (of_decide_eq_true a4) (Nat.eq_of_beq_eq_true a5) (zjmp_ok a6) (fun q off t h1 h2 => ?_) hs (fun t ht => kf _ _ _ _ ht)
        rw [List.all_eq_true] at a7
        exact zjmp_ok (a7 (off, t) (List.mem_of_getElem? (i := q) (by rw [List.getElem?_zip_eq_some]; exact ⟨by rw [Array.getElem?_toList]; exact h1, h2⟩)))
      · cases hs
    · cases hc
  | lookupswitch dd ps =>
    simp only [stp] at hs
    unfold zchk1 at hc
    dsimp only at hc
    split at hc
    · rename_i d' rs
      simp only [Bool.and_eq_true] at hc
      obtain ⟨⟨⟨a1, a2⟩, a3⟩, a4⟩ := hc
      split at hs
      · refine zs_lsw E hd a1 (zjmp_ok a2) (Nat.eq_of_beq_eq_true a3) (fun q a b h1 h2 => ?_) hs (fun t ht => kf _ _ _ _ ht)
        rw [List.all_eq_true] at a4
        have a5 := a4 (a, b) (List.mem_of_getElem? (i := q) (by rw [List.getElem?_zip_eq_some]; exact ⟨h1, h2⟩))
        simp only [Bool.and_eq_true] at a5
        exact ⟨of_decide_eq_true a5.1.1.1, of_decide_eq_true a5.1.1.2, of_decide_eq_true a5.1.2, zjmp_ok a5.2⟩
      · cases hs
    · cases hc
  | new cn =>
    simp only [stp] at hs
    unfold zchk1 at hc
    dsimp only at hc
    split at hc
    · rename_i idx
      obtain ⟨a1, a3⟩ := zbq hc
      cases Nat.eq_of_beq_eq_true a3
      obtain ⟨O, C, T, N, ty, g1, g2, g3⟩ := zNW_ok _ (of_decide_eq_true a1)
      cases Option.some.inj (g1.symm.trans hown)
      split at hs
      · rename_i hq
        obtain ⟨q1, q2⟩ := zbq hq
        have q1 := Nat.eq_of_beq_eq_true q1
        have q2 := Nat.eq_of_beq_eq_true q2
        have hcp := cap (kk _ _ _ _ hs)
        have hz5 : zsz h.2.2.2.1 = N := by unfold zsz; rw [if_pos (by omega), show shp h.2.2.2.1 - 10 = cn by omega]; exact g2.2.1
        refine zs_new E hd (hnx rfl) g2.1 g2.2.1 g2.2.2.1 ty g2.2.2.2.1 (fun k hk => (g2.2.2.2.2.2.1 k hk).2.2.2) g3 g2.2.2.2.2.2.2.1 g2.2.2.2.2.2.2.2 q1 q2 ?_ (kf _ _ _ _ hs)
        have e1 : zcc (zrow h.1 h.2.2.2.1 (fun _ => 0), h.2.1, zrow h.2.2.1 h.2.2.2.1 (fun _ => none), h.2.2.2.1 + 1, h.2.2.2.2) = zcc h + 1 := by unfold zcc; dsimp only; omega
        have e2 : zss (zrow h.1 h.2.2.2.1 (fun _ => 0), h.2.1, zrow h.2.2.1 h.2.2.2.1 (fun _ => none), h.2.2.2.1 + 1, h.2.2.2.2) = zss h + N := by unfold zss; dsimp only; rw [show zsl (h.2.2.2.1 + 1) = zsl h.2.2.2.1 + zsz h.2.2.2.1 from rfl, hz5]; omega
        rw [e1, e2] at hcp
        exact hcp
      · cases hs
    · cases hc
  | newarray t =>
    simp only [stp] at hs
    unfold zchk1 at hc
    dsimp only at hc
    simp only [Bool.and_eq_true] at hc
    obtain ⟨⟨a1, a2⟩, a3⟩ := hc
    cases Nat.eq_of_beq_eq_true a3
    cases (of_decide_eq_true a1 : ri = .newarray t)
    have a2 : 0 < aty t := Nat.le_of_ble_eq_true a2
    split at hs
    · split at hs
      · rename_i hq
        obtain ⟨q1, q2⟩ := zbq hq
        have q1 := Nat.eq_of_beq_eq_true q1
        have q2 := Nat.eq_of_beq_eq_true q2
        split at hs
        · rename_i hx
          have hcp := cap (kk _ _ _ _ hs)
          have ha5 : aty t ≤ 5 := by cases t <;> decide
          have hz5 : zsz h.2.2.2.1 = sln h.2.2.2.1 := by unfold zsz; rw [if_neg (by omega)]
          have e1 : zcc (zrow h.1 h.2.2.2.1 (fun _ => 0), zrow h.2.1 h.2.2.2.1 (fun _ => 0), h.2.2.1, h.2.2.2.1 + 1, h.2.2.2.2) = zcc h + 1 := by unfold zcc; dsimp only; omega
          have e2 : zss (zrow h.1 h.2.2.2.1 (fun _ => 0), zrow h.2.1 h.2.2.2.1 (fun _ => 0), h.2.2.1, h.2.2.2.1 + 1, h.2.2.2.2) = zss h + sln h.2.2.2.1 := by unfold zss; dsimp only; rw [show zsl (h.2.2.2.1 + 1) = zsl h.2.2.2.1 + zsz h.2.2.2.1 from rfl, hz5]; omega
          rw [e1, e2] at hcp
          have kn := kf _ _ _ _ hs
          cases t with
          | int => exact zs_newa (t0 := 0) E hd (hnx rfl) zarc_int rfl (by decide) ⟨fun _ => by first | rfl | (rename_i q; exact absurd q (by decide)), fun q => by first | rfl | cases q⟩ rfl (by decide) (fun C q => by cases q) q1 q2 hx hcp (sln_le _) kn
          | long => exact zs_newa (t0 := 1) E hd (hnx rfl) zarc_long rfl (by decide) ⟨fun _ => by first | rfl | (rename_i q; exact absurd q (by decide)), fun q => by first | rfl | cases q⟩ rfl (by decide) (fun C q => by cases q) q1 q2 hx hcp (sln_le _) kn
          | byte => exact zs_newa (t0 := 2) E hd (hnx rfl) zarc_byte rfl (by decide) ⟨fun _ => by first | rfl | (rename_i q; exact absurd q (by decide)), fun q => by first | rfl | cases q⟩ rfl (by decide) (fun C q => by cases q) q1 q2 hx hcp (sln_le _) kn
          | char => exact zs_newa (t0 := 3) E hd (hnx rfl) zarc_char rfl (by decide) ⟨fun _ => by first | rfl | (rename_i q; exact absurd q (by decide)), fun q => by first | rfl | cases q⟩ rfl (by decide) (fun C q => by cases q) q1 q2 hx hcp (sln_le _) kn
          | boolean => exact zs_newa (t0 := 4) E hd (hnx rfl) zarc_boolean rfl (by decide) ⟨fun _ => by first | rfl | (rename_i q; exact absurd q (by decide)), fun q => by first | rfl | cases q⟩ rfl (by decide) (fun C q => by cases q) q1 q2 hx hcp (sln_le _) kn
          | _ => exact absurd a2 (by decide)
        · cases hs
      · cases hs
    · cases hs
  | invokedynamic k =>
    match k, hc, hs, hnx with
    | 0, hc, hs, hnx =>
      simp only [stp] at hs
      simp only [zchk1] at hc
      split at hc
      · obtain ⟨a1, a3⟩ := zbq hc
        cases Nat.eq_of_beq_eq_true a3
        obtain ⟨O, g1, g2⟩ := zNT_ok _ (of_decide_eq_true a1)
        cases Option.some.inj (g1.symm.trans hown)
        split at hs
        · split at hs
          · rename_i hz
            exact zs_oinit E hd (hnx rfl) g2 zoi1 zoi2 hf1 hl41 hz (kf _ _ _ _ hs)
          · cases hs
        · cases hs
      · cases hc
    | 1, hc, hs, hnx =>
      simp only [stp] at hs
      simp only [zchk1] at hc
      split at hc
      · obtain ⟨a1, a3⟩ := zbq hc
        cases Nat.eq_of_beq_eq_true a3
        obtain ⟨O, g1, g2⟩ := zNT_ok _ (of_decide_eq_true a1)
        cases Option.some.inj (g1.symm.trans hown)
        split at hs
        · split at hs
          · rename_i hz
            exact zs_max E hd (hnx rfl) g2 zmax1 zmth zmax2 hf1 hl41 (cap (kk _ _ _ _ hs)) hz (kf _ _ _ _ hs)
          · cases hs
        · cases hs
      · cases hc
    | 2, hc, hs, hnx =>
      simp only [stp] at hs
      simp only [zchk1] at hc
      split at hc
      · obtain ⟨a1, a3⟩ := zbq hc
        cases Nat.eq_of_beq_eq_true a3
        obtain ⟨O, g1, g2⟩ := zNT_ok _ (of_decide_eq_true a1)
        cases Option.some.inj (g1.symm.trans hown)
        split at hs
        · split at hs
          · rename_i hz
            exact zs_min E hd (hnx rfl) g2 zmin1 zmth zmin2 hf1 hl41 (cap (kk _ _ _ _ hs)) hz (kf _ _ _ _ hs)
          · cases hs
        · cases hs
      · cases hc
    | 3, hc, hs, hnx =>
      simp only [stp] at hs
      simp only [zchk1] at hc
      split at hc
      · obtain ⟨a1, a3⟩ := zbq hc
        cases Nat.eq_of_beq_eq_true a3
        obtain ⟨O, g1, g2⟩ := zNT_ok _ (of_decide_eq_true a1)
        cases Option.some.inj (g1.symm.trans hown)
        split at hs
        · split at hs
          · rename_i hz
            split at hs
            · rename_i hq
              exact zs_copy E hd (hnx rfl) g2 zac1 zac2 zac3 hf1 hl41 hz hq (kf _ _ _ _ hs)
            · cases hs
          · cases hs
        · cases hs
      · cases hc
    | k + 4, hc, hs, hnx => simp [stp] at hs
  | invokeinterface M q =>
    simp only [stp] at hs
    split at hs
    · rename_i hz
      split at hs
      · rename_i hrc
        split at hs
        · obtain ⟨h1, q1, q2⟩ := bV_some hs
          obtain ⟨r', d', g1, g2, g3⟩ := kg _ _ _ _ _ _ q1 rfl
          exact zs_call (b := 0) E hown g1 hc hd (hnx rfl) g2 hfr hlo hz hrc g3 rfl (cap (kk _ _ _ _ q2)) (kf _ _ _ _ q2)
        · obtain ⟨v1, h1, q1, q2⟩ := bI_some hs
          obtain ⟨r', d', g1, g2, g3⟩ := kg _ _ _ _ _ _ q1 rfl
          exact zs_call (b := 0) E hown g1 hc hd (hnx rfl) g2 hfr hlo hz hrc g3 rfl (cap (kk _ _ _ _ q2)) (kf _ _ _ _ q2)
        · obtain ⟨v1, h1, q1, q2⟩ := bL_some hs
          obtain ⟨r', d', g1, g2, g3⟩ := kg _ _ _ _ _ _ q1 rfl
          exact zs_call (b := 0) E hown g1 hc hd (hnx rfl) g2 hfr hlo hz hrc g3 rfl (cap (kk _ _ _ _ q2)) (kf _ _ _ _ q2)
      · cases hs
    · cases hs
  | multianewarray M q =>
    simp only [stp] at hs
    split at hs
    · rename_i hz
      split at hs
      · rename_i hrc
        split at hs
        · obtain ⟨h1, q1, q2⟩ := bV_some hs
          obtain ⟨r', d', g1, g2, g3⟩ := kg _ _ _ _ _ _ q1 rfl
          exact zs_call (b := 8) E hown g1 hc hd (hnx rfl) g2 hfr hlo hz hrc g3 rfl (cap (kk _ _ _ _ q2)) (kf _ _ _ _ q2)
        · obtain ⟨v1, h1, q1, q2⟩ := bI_some hs
          obtain ⟨r', d', g1, g2, g3⟩ := kg _ _ _ _ _ _ q1 rfl
          exact zs_call (b := 8) E hown g1 hc hd (hnx rfl) g2 hfr hlo hz hrc g3 rfl (cap (kk _ _ _ _ q2)) (kf _ _ _ _ q2)
        · obtain ⟨v1, h1, q1, q2⟩ := bL_some hs
          obtain ⟨r', d', g1, g2, g3⟩ := kg _ _ _ _ _ _ q1 rfl
          exact zs_call (b := 8) E hown g1 hc hd (hnx rfl) g2 hfr hlo hz hrc g3 rfl (cap (kk _ _ _ _ q2)) (kf _ _ _ _ q2)
      · cases hs
    · cases hs
  | jsr z =>
    exact Jo _ _ _ _ _ hop hs
  | athrow =>
    simp only [stp] at hs
    split at hs
    · cases hs
      exact Ko _ _ _ _ _ hop ⟨rfl, rfl, rfl⟩
    · cases hs
  | ireturn =>
    simp only [stp] at hs
    split at hs
    · cases hs
      exact Ko _ _ _ _ _ hop ⟨_, rfl, rfl, rfl⟩
    · cases hs
  | areturn =>
    simp only [stp] at hs
    split at hs
    · split at hs
      · rename_i hb
        cases hs
        exact Ko _ _ _ _ _ hop ⟨_, hb, rfl, rfl, rfl⟩
      · cases hs
    · cases hs
  | lreturn =>
    simp only [stp] at hs
    split at hs
    · cases hs
      exact Ko _ _ _ _ _ hop ⟨_, rfl, rfl, rfl⟩
    · cases hs
  | return_ =>
    simp only [stp] at hs
    split at hs
    · cases hs
      exact Ko _ _ _ _ _ hop ⟨rfl, rfl, rfl⟩
    · cases hs
  | _ => exact absurd hs (by simp [stp])
end ZMN
