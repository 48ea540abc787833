theorem code_rec {M i : Nat} {op : Instr} (h : nth (codeOf M) i = some op) : ∃ r, nth zall M = some r ∧ nth r.2.2.2.2.2.1 i = some op := by
  unfold codeOf at h
  cases hr : nth zall M with
  | none => rw [hr] at h; simp [nth] at h
  | some r => rw [hr] at h; exact ⟨r, rfl, h⟩
theorem code_of {M : Nat} {r : zM} (h : nth zall M = some r) : codeOf M = r.2.2.2.2.2.1 := by unfold codeOf; rw [h]
theorem max_of {M : Nat} {r : zM} (h : nth zall M = some r) : maxOf M = r.2.2.1 := by unfold maxOf; rw [h]
theorem zmem_all {M : Nat} {r : zM} (h : nth zall M = some r) : r ∈ zall := by rw [nth_get] at h; exact List.mem_of_getElem? h
theorem zall_p0 : ∀ r ∈ zall, zpc r 0 = 0 ∧ plainName r.1.cls = true := by decide +kernel
def isJ : Instr → Bool
  | .jsr _ => true
  | _ => false
def isX : Instr → Bool
  | .athrow => true
  | _ => false
theorem zall_j : ∀ r ∈ zall, r.2.2.2.2.1.2.1 = 11 ∨ (r.2.2.2.2.2.1.all fun op => !(isJ op)) = true := by decide +kernel
theorem zall_nj {M : Nat} {r : zM} (h : nth zall M = some r) (h11 : r.2.2.2.2.1.2.1 ≠ 11) {i : Nat} {z : Int} : nth r.2.2.2.2.2.1 i ≠ some (.jsr z) := by
  intro q
  rcases zall_j r (zmem_all h) with q1 | q1
  · exact h11 q1
  · rw [List.all_eq_true] at q1
    rw [nth_get] at q
    have := q1 _ (List.mem_of_getElem? q)
    simp [isJ] at this
theorem zchk_at {M i : Nat} {r : zM} {op : Instr} (hr : nth zall M = some r) (hop : nth r.2.2.2.2.2.1 i = some op) : ∃ (ri : Instr) (len : Nat), decode r.2.1 (zpc r i) = .ok (ri, len) ∧ zchk1 r i (zpc r i) ri len op = true ∧ (zfall op = true → zpc r (i + 1) = zpc r i + len) := by
  obtain ⟨h1, h2⟩ := zok_at hr
  unfold zchkM at h1
  simp only [Bool.and_eq_true] at h1
  obtain ⟨⟨⟨-, h3⟩, -⟩, -⟩ := h1
  rw [List.all_eq_true] at h3
  have h4 := h3 i (List.mem_range.mpr (nth_lt hop))
  unfold zchkI at h4
  rw [hop] at h4
  dsimp only at h4
  cases hq : nth r.2.2.2.2.2.2 i with
  | none => rw [hq] at h4; cases h4
  | some q =>
    obtain ⟨pc, ri, len⟩ := q
    rw [hq] at h4
    dsimp only at h4
    obtain ⟨h5, h6⟩ := zbq h4
    have hpc : zpc r i = pc := by unfold zpc; rw [hq]
    rw [hpc]
    refine ⟨ri, len, h2 (pc, ri, len) (by rw [nth_get] at hq; exact List.mem_of_getElem? hq), h5, fun hf => ?_⟩
    rw [hf] at h6
    unfold zpc
    cases hq2 : nth r.2.2.2.2.2.2 (i + 1) with
    | none => rw [hq2] at h6; simp at h6
    | some q2 =>
      rw [hq2] at h6
      simp only [Bool.not_true, Bool.false_or] at h6
      exact Nat.eq_of_beq_eq_true h6
theorem ex_keep : ∀ n d M i lv st h o, ex n d M i lv st h = some o → zKp h o.2
  | 0, _, _, _, _, _, _, _, q => by cases q
  | n + 1, d, M, i, lv, st, h, o, q => by
    unfold ex at q
    cases hop : nth (codeOf M) i with
    | none => rw [hop] at q; cases q
    | some op =>
      rw [hop] at q
      obtain ⟨r, hr, hop'⟩ := code_rec hop
      refine stp_keep ?_ ?_ (fun i lv st h o => ex_keep n d M i lv st h o) q
      · intro t ht
        subst ht
        obtain ⟨ri, len, -, hc, -⟩ := zchk_at hr hop'
        unfold zchk1 at hc
        simp only [Bool.and_eq_true] at hc
        have := Nat.le_of_ble_eq_true hc.1.2
        omega
      · intro b m a h o q
        cases b with
        | false => exact ex_keep n d m _ _ _ _ _ (gb_some q).2
        | true => cases d with
          | zero => cases q
          | succ d => exact ex_keep n d m _ _ _ _ _ (gb_some (F := ex n) (d := d) q).2
/-- calls at less fuel meet their contracts -/
def zPc (G : zGt) (l : Launch) (k : Nat) : Prop := ∀ d M r As h v hf, nth zall M = some r → gb (ex k) d M As h = some (v, hf) → zan v = true → zCall G l r d As h v hf
set_option maxHeartbeats 4000000 in
theorem zbody (G : zGt) (l : Launch) : ∀ n, (∀ k, k < n → zPc G l k) → ∀ d M r, nth zall M = some r → ∀ i lv st h v hf, ex n d M i lv st h = some (v, hf) → ∀ {p : Program} {e : Env} {R : Room} {s : State} {m : MethodId} {args : Array Value} {below : List Frame} {meth : Method} {c : Code} {Q : State → Prop} {h0 : zH}, zEnv G p s m args meth c r → r.2.2.2.2.1.1 + 8 * d ≤ R.frames → 41 * (r.2.2.2.2.1.1 + 8 * d) ≤ R.locals → (zcc hf ≤ R.cells + zcc h0 ∧ zss hf ≤ R.slots + zss h0) →
    (∀ i lv st h op, nth r.2.2.2.2.2.1 i = some op → zEnd op st h v hf → zGo G p l e R s m args below meth c Q r h0 i lv st h) →
    (∀ k, k < n → (∀ i lv st h, ex k d M i lv st h = some (v, hf) → zGo G p l e R s m args below meth c Q r h0 i lv st h) → ∀ i lv st h z, nth r.2.2.2.2.2.1 i = some (.jsr z) → stp (gg (ex k) d) (ex k d M) (.jsr z) i lv st h = some (v, hf) → zGo G p l e R s m args below meth c Q r h0 i lv st h) →
    zGo G p l e R s m args below meth c Q r h0 i lv st h
  | 0, _, _, _, _, _, _, _, _, _, _, _, q => by cases q
  | n + 1, hP, d, M, r, hr, i, lv, st, h, v, hf, q => by
    rename_i p e R s m args below meth c Q h0
    intro E hfr hlo hcap Ko JJ
    unfold ex at q
    rw [code_of hr] at q
    cases hop : nth r.2.2.2.2.2.1 i with
    | none => rw [hop] at q; cases q
    | some op =>
      rw [hop] at q
      obtain ⟨ri, len, hd, hc, hnx⟩ := zchk_at hr hop
      obtain ⟨h1, -⟩ := zok_at hr
      unfold zchkM at h1
      simp only [Bool.and_eq_true] at h1
      have hown := of_decide_eq_true h1.1.2
      have hrk : 0 < r.2.2.2.2.1.1 := Nat.le_of_ble_eq_true h1.2
      have kf : ∀ i lv st h, ex n d M i lv st h = some (v, hf) → zGo G p l e R s m args below meth c Q r h0 i lv st h := fun i lv st h hx => zbody G l n (fun k hk => hP k (by omega)) d M r hr i lv st h v hf hx E hfr hlo hcap Ko (fun k hk => JJ k (by omega))
      refine zstep E hown hfr hlo hrk kf (fun i lv st h hx => ex_keep n d M i lv st h _ hx) ?_ hcap Ko (JJ n (by omega) kf) hop hd hc hnx q
      intro b M' As h1 v1 h2 hg hv
      have key : ∀ d', gb (ex n) d' M' As h1 = some (v1, h2) → ∃ r', nth zall M' = some r' ∧ zCall G l r' d' As h1 v1 h2 := by
        intro d' hq
        cases hr' : nth zall M' with
        | none =>
          have := (gb_some hq).2
          cases n with
          | zero => cases this
          | succ n =>
            unfold ex codeOf at this
            rw [hr'] at this
            simp [nth] at this
        | some r' => exact ⟨r', rfl, hP n (by omega) d' M' r' As h1 v1 h2 hr' hq hv⟩
      cases b with
      | false =>
        obtain ⟨r', g1, g2⟩ := key d hg
        exact ⟨r', d, g1, by simp, g2⟩
      | true => cases d with
        | zero => cases hg
        | succ d =>
          obtain ⟨r', g1, g2⟩ := key d hg
          exact ⟨r', d, g1, by simp; omega, g2⟩
/-- the environment out of a body -/
theorem zenv_of {G : zGt} {p : Program} {l : Launch} {e : Env} {s s₁ : State} {m : MethodId} {below : List Frame} {meth : Method} {c : Code} {r : zM} {rm : Room} {ws : List Cond} {av : List Value} {h : zH} (hws : ∀ w ∈ zT, w ∈ ws) (B : BodyLoose p l r.1 (headSpec ws rm) r.2.1 r.2.2.1 r.2.2.2.1 e s m av.toArray below meth c s₁) (hml : c.maxLocals = r.2.2.1) (hp : zPre G h s) : zEnv G p s m av.toArray meth c r := by
  obtain ⟨q1, q2, q3, q4, q5, q6, q7, q8, q9, q10⟩ := hp
  have hts := atoms_spec (ws := ws) B.pre
  exact ⟨B.exec, B.bytes, hml, findClass_of_methodNamed B.named, fun w hw => hts w (hws w hw), q2, q3, q4, q5, q6, q7, fun q => ((name_of_methodNamed B.named B.method).1).trans q, q10⟩
theorem zcf0 {G : zGt} {s : State} {r : zM} {h : zH} {As : List Value} (hp : zPre G h s) (hd : znd As = true) (hl : (zslots As).length ≤ r.2.2.1) : zCf G s r h h (zent r.2.2.1 As) ((lg_sl (As.map (zre (zad G))) ++ List.replicate (r.2.2.1 - (lg_sl (As.map (zre (zad G)))).length) Slot.unset).toArray) s.heap [] 0 0 := by
  obtain ⟨q1, q2, q3, q4, q5, q6, q7, q8, q9, q10⟩ := hp
  exact ⟨q1, va_S.rf, zlv_entry (zad G) hd hl, zent_len hl, q8, q9, Nat.zero_add _, Nat.zero_add _⟩
/-- the ends of a body -/
theorem zko {G : zGt} {p : Program} {l : Launch} {e : Env} {R : Room} {s : State} {m : MethodId} {args : Array Value} {below : List Frame} {meth : Method} {c : Code} {M : Nat} {r : zM} {h0 hf : zH} {v : Option Value} {mc ms : Nat} (E : zEnv G p s m args meth c r) (hr : nth zall M = some r) (hret : meth.sig.returnType = r.2.2.2.1) (hlocks : meth.locks = false) (hv : zan v = true) (hmc : zcc hf = zcc h0 + mc) (hms : zss hf = zss h0 + ms) : ∀ i lv st h op, nth r.2.2.2.2.2.1 i = some op → zEnd op st h v hf → zGo G p l e R s m args below meth c (MQ below (zQo G v hf) args s mc ms (fun q => G.1 < q)) r h0 i lv st h := by
  intro i lv st h op hop hend
  obtain ⟨ri, len, hd, hc, -⟩ := zchk_at hr hop
  intro ls H locs cells slots C
  have c1 := C.2.2.2.2.2.2.1
  have c2 := C.2.2.2.2.2.2.2
  unfold zEnd at hend
  split at hend
  · obtain ⟨x, rfl, rfl, rfl⟩ := hend
    obtain ⟨h1, h2⟩ := zbq hc
    obtain ⟨rfl, rfl⟩ := zeq1 h1
    have e1 : cells = mc := by omega
    have e2 : slots = ms := by omega
    subst e1; subst e2
    exact W.iret E.1 E.2.1 (hret.trans (of_decide_eq_true h2)) (fun t ht hW => ⟨⟨x, (), rfl, rfl, by show zRep G _ t.heap; rw [ht]; exact C.1⟩, C.2.1.F ht⟩) C.2.1.2.2 hd hlocks
  · obtain ⟨x, hb, rfl, rfl, rfl⟩ := hend
    obtain ⟨h1, h2⟩ := zbq hc
    obtain ⟨rfl, rfl⟩ := zeq1 h1
    have e1 : cells = mc := by omega
    have e2 : slots = ms := by omega
    subst e1; subst e2
    have hq : x = 0 ∨ x = 1 := by simpa [zb] using hb
    exact W.zret E.1 E.2.1 (hret.trans (of_decide_eq_true h2)) (by rcases hq with rfl | rfl <;> rfl) (fun t ht hW => ⟨⟨x, (), rfl, rfl, by show zRep G _ t.heap; rw [ht]; exact C.1⟩, C.2.1.F ht⟩) C.2.1.2.2 hd hlocks
  · obtain ⟨x, rfl, rfl, rfl⟩ := hend
    obtain ⟨h1, h2⟩ := zbq hc
    obtain ⟨rfl, rfl⟩ := zeq1 h1
    have e1 : cells = mc := by omega
    have e2 : slots = ms := by omega
    subst e1; subst e2
    exact W.lret E.1 E.2.1 (hret.trans (of_decide_eq_true h2)) (fun t ht hW => ⟨⟨x, (), rfl, rfl, by show zRep G _ t.heap; rw [ht]; exact C.1⟩, C.2.1.F ht⟩) C.2.1.2.2 hd hlocks
  · obtain ⟨rfl, rfl, rfl⟩ := hend
    obtain ⟨h1, h2⟩ := zbq hc
    obtain ⟨rfl, rfl⟩ := zeq1 h1
    have e1 : cells = mc := by omega
    have e2 : slots = ms := by omega
    subst e1; subst e2
    exact W.vret E.1 E.2.1 (hret.trans (of_decide_eq_true h2)) (fun t ht hW => ⟨⟨(), rfl, trivial, by show zRep G _ t.heap; rw [ht]; exact C.1⟩, C.2.1.F ht⟩) C.2.1.2.2 hd hlocks
  · obtain ⟨-, rfl, -⟩ := hend
    cases hv
  · exact hend.elim
theorem zs_ws (r : zM) : ∀ w ∈ zT, w ∈ zws r := fun w h => List.mem_cons_of_mem _ h
theorem zs_wsW (r : zM) (hh : List (Nat × Nat × Nat × Nat)) : ∀ w ∈ zT, w ∈ zwsW r hh := fun w h => List.mem_cons_of_mem _ h
theorem zwide_room {a b : Nat} (h : a ≤ b) : b = a + (b - a) := by omega
/-- plain methods -/
theorem zmet_plain (G : zGt) (l : Launch) {n d M : Nat} {r : zM} {As : List Value} {h hf : zH} {v : Option Value} (hP : ∀ k, k < n → zPc G l k) (hr : nth zall M = some r) (h11 : r.2.2.2.2.1.2.1 ≠ 11) (hg : gb (ex n) d M As h = some (v, hf)) (hv : zan v = true) : zMet G l r d As h v hf (zcc hf - zcc h) (zss hf - zss h) := by
  obtain ⟨hgd, hex⟩ := gb_some hg
  obtain ⟨hnd, hle⟩ := zbq hgd
  have hle := Nat.le_of_ble_eq_true hle
  rw [max_of hr] at hle hex
  have hkp := ex_keep _ _ _ _ _ _ _ _ hex
  have hm1 : zcc hf = zcc h + (zcc hf - zcc h) := zwide_room hkp.cc
  have hm2 : zss hf = zss h + (zss hf - zss h) := zwide_room hkp.ss
  generalize zcc hf - zcc h = mc at hm1 ⊢
  generalize zss hf - zss h = ms at hm2 ⊢
  unfold zMet
  refine Met.ofW (cc := r.2.1) (maxL := r.2.2.1) (ret := r.2.2.2.1) (zall_p0 r (zmem_all hr)).2 rfl ?_
  intro p e s m args below meth c s₁ B hml hv0
  obtain ⟨rfl, hp⟩ := hv0
  have E := zenv_of (zs_ws r) B hml hp
  have key := zbody G l n hP d M r hr 0 _ [] h v hf hex (e := e) (R := (headSpec (zws r) (zrm r d mc ms)).room) (below := below) (Q := MQ below (zQo G v hf) _ s mc ms (fun q => G.1 < q)) (h0 := h) E (Nat.le_refl _) (Nat.le_refl _) ⟨by show _ ≤ mc + _; omega, by show _ ≤ ms + _; omega⟩ (zko E hr B.returns B.notSynchronized hv hm1 hm2) (fun k hk _ i lv st h z hz => absurd hz (zall_nj hr h11)) _ _ _ _ _ (zcf0 hp hnd hle)
  rw [(zall_p0 r (zmem_all hr)).1] at key
  rw [lg_entry_eq]
  exact key
