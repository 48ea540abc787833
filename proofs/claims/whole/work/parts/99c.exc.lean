/-! ===== throws, and their catching by the law's wrappers ===== -/
theorem z_at_good : ∀ w ∈ (zAtS).filter goodWord, w ∈ lw_tbl := by decide +kernel
theorem z_at_bad : ∀ w ∈ (zAtS).filter (fun w => !goodWord w), w ∈ zXw := by decide +kernel
theorem z_at_ot : ∀ w ∈ Cond.classLink "HopCourts" 128 "java/util/NoSuchElementException" :: Cond.initialized "java/util/NoSuchElementException" :: zAtS, vx_ot w = true := by decide +kernel
theorem z_cl128 : Cond.classLink "HopCourts" 128 "java/util/NoSuchElementException" ∈ zT := zt4 (List.mem_of_getElem? (i := 220) rfl) rfl
theorem z_cl13 : Cond.classLink "HopCourtsLaw" 13 "java/util/NoSuchElementException" ∈ zT := zt4 (List.mem_of_getElem? (i := 215) rfl) rfl
theorem z_ini : Cond.initialized "java/util/NoSuchElementException" ∈ zT := zt1 (List.mem_of_getElem? (i := 16) rfl) rfl
theorem z_cast : Cond.castable "java/util/NoSuchElementException" "java/util/NoSuchElementException" ∈ zXw := List.mem_of_getElem? (i := 14) rfl
def zXC (G : zGt) (hf : zH) : String → State → State → Prop := vx_X (fun (_ : Unit) => True) (fun E _ t => E = "java/util/NoSuchElementException" ∧ zRep G hf t.heap) (fun q => G.1 < q)
def zQn (G : zGt) : Array Value → State → Outcome → State → Prop := va_Qi (fun _ (_ : Unit) => False) (fun _ _ => False) (fun q => G.1 < q)
def zMetX (G : zGt) (l : Launch) (r : zM) (d : Nat) (args : List Value) (h hf : zH) (mc ms : Nat) : Prop := vx_Met l r.1 (zws r) (zrm r d mc ms) (va_Pc (args.map (zre (zad G))) (zPre G h)) (zQn G) (zXC G hf) mc ms (fun q => G.1 < q)
theorem zrep_more {G : zGt} {h : zH} {H H1 : Heap} (hR : zRep G h H) (hk : ∀ q : Nat, q < H.size → H1[q]? = H[q]?) : zRep G (h.1, h.2.1, h.2.2.1, h.2.2.2.1, h.2.2.2.2 + 1) H1 := by
  refine ⟨fun id g1 g2 => ?_, fun q => by simp at q, hR.2.2⟩
  have ec : zE G (h.1, h.2.1, h.2.2.1, h.2.2.2.1, h.2.2.2.2 + 1) id = zE G h id := zE_congr rfl rfl rfl
  rw [ec]
  have ha := hR.1 id g1 g2
  exact ha.kept (hk _ ha.lt)
section ZTH
variable {G : zGt} {p : Program} {l : Launch} {e : Env} {R : Room} {s : State} {m : MethodId} {args : Array Value} {below : List Frame} {meth : Method} {c : Code} {r : zM} {h0 : zH} {i : Nat} {lv : List Value} {h : zH} {mc ms : Nat} {Qc : Array Value → State → Outcome → State → Prop}
theorem zs_thr (E : zEnv G p s m args meth c r) (hO : r.1.cls = "HopCourts") (hl : l.stackTraces = false) {is : Nat} {text : String} (hst : (is, text) ∈ zStr) (d0 : decode r.2.1 (zpc r i) = .ok (.new 128, 3)) (d3 : decode r.2.1 (zpc r i + 3) = .ok (.dup, 1)) (d4 : (decode r.2.1 (zpc r i + 4) = .ok (.ldc is, 2) ∧ decode r.2.1 (zpc r i + 6) = .ok (.invokespecial 132, 3) ∧ decode r.2.1 (zpc r i + 9) = .ok (.athrow, 1)) ∨ (decode r.2.1 (zpc r i + 4) = .ok (.ldc_w is, 3) ∧ decode r.2.1 (zpc r i + 7) = .ok (.invokespecial 132, 3) ∧ decode r.2.1 (zpc r i + 10) = .ok (.athrow, 1)))
    (hout : ∀ x ∈ c.exceptionTable.toList, False) (hlocks : meth.locks = false) (hfr : 12 ≤ R.frames) (hlo : 41 * 12 ≤ R.locals) (hmc : zcc h + 1 = zcc h0 + mc) (hms : zss h + 6 = zss h0 + ms) (hcap : zcc h + 1 ≤ R.cells + zcc h0 ∧ zss h + 6 ≤ R.slots + zss h0) : zGo G p l e R s m args below meth c (vx_MQ below Qc (zXC G (h.1, h.2.1, h.2.2.1, h.2.2.2.1, h.2.2.2.2 + 1)) args s mc ms (fun q => G.1 < q)) r h0 i lv [] h := by
  intro ls H locs cells slots C
  have c1 := C.2.2.2.2.2.2.1
  have c2 := C.2.2.2.2.2.2.2
  obtain ⟨x1, x2, x3, x4⟩ := E.2.2.2.2.2.2.2.2.2.2.2.2
  obtain ⟨sa, hsa⟩ := x4 _ hst
  have hat : ∀ w ∈ zAtS, w.before args s = true := vx_hat (fun w hw => E.2.2.2.2.1 w (zT_in (z_at_good w hw) (List.mem_filter.mp hw).2)) z_at_bad (fun w hw => va_Nw.use (zXw_ok w hw).1 (x1 w hw))
  have hx : ∀ t : State, s.vm.Alike t.vm → H.size ≤ t.heap.size → (∀ q : Nat, q < H.size → t.heap[q]? = H[q]?) → zXC G (h.1, h.2.1, h.2.2.1, h.2.2.2.1, h.2.2.2.2 + 1) "java/util/NoSuchElementException" s t := by
    intro t _ hz hk
    exact ⟨(), trivial, ⟨rfl, zrep_more C.1 hk⟩, Nat.le_trans C.2.1.1 hz, fun q g1 g2 => (hk q (Nat.lt_of_lt_of_le g1 C.2.1.1)).trans (C.2.1.2.1 q g1 g2)⟩
  rcases d4 with ⟨d4, d6, d9⟩ | ⟨d4, d6, d9⟩
  · exact zthrS (rest := []) E.1 E.2.1 hl (by rw [← hO]; exact E.2.2.2.1) (E.2.2.2.2.1 _ z_cl128) (E.2.2.2.2.1 _ z_ini) hsa hat z_at_ot x2 x3 C.2.1 (by rw [E.2.2.1]; exact C.2.2.1.1) d0 d3 d4 d6 d9 (fun x hx => (hout x hx).elim) (by show 5 < _; omega) (by show 0 + 82 ≤ _; omega) (by omega) (by omega) hlocks hx C.2.1.2.2 (by omega) (by omega)
  · exact zthrW (rest := []) E.1 E.2.1 hl (by rw [← hO]; exact E.2.2.2.1) (E.2.2.2.2.1 _ z_cl128) (E.2.2.2.2.1 _ z_ini) hsa hat z_at_ot x2 x3 C.2.1 (by rw [E.2.2.1]; exact C.2.2.1.1) d0 d3 d4 d6 d9 (fun x hx => (hout x hx).elim) (by show 5 < _; omega) (by show 0 + 82 ≤ _; omega) (by omega) (by omega) hlocks hx C.2.1.2.2 (by omega) (by omega)
end ZTH
def zxf (r : zM) (i is : Nat) : Prop := decode r.2.1 (zpc r i) = .ok (.new 128, 3) ∧ decode r.2.1 (zpc r i + 3) = .ok (.dup, 1) ∧ ((decode r.2.1 (zpc r i + 4) = .ok (.ldc is, 2) ∧ decode r.2.1 (zpc r i + 6) = .ok (.invokespecial 132, 3) ∧ decode r.2.1 (zpc r i + 9) = .ok (.athrow, 1)) ∨ (decode r.2.1 (zpc r i + 4) = .ok (.ldc_w is, 3) ∧ decode r.2.1 (zpc r i + 7) = .ok (.invokespecial 132, 3) ∧ decode r.2.1 (zpc r i + 10) = .ok (.athrow, 1)))
theorem zxf_112_5 : zxf z_112 5 130 := ⟨by decide +kernel, by decide +kernel, Or.inl ⟨by decide +kernel, by decide +kernel, by decide +kernel⟩⟩
theorem zxf_112_27 : zxf z_112 27 145 := ⟨by decide +kernel, by decide +kernel, Or.inl ⟨by decide +kernel, by decide +kernel, by decide +kernel⟩⟩
theorem zxi_112 : ∀ i, i < 32 → nth o_112 i = some .athrow → i = 5 ∨ i = 27 := by decide +kernel
theorem zxf_113_5 : zxf z_113 5 150 := ⟨by decide +kernel, by decide +kernel, Or.inl ⟨by decide +kernel, by decide +kernel, by decide +kernel⟩⟩
theorem zxf_113_62 : zxf z_113 62 163 := ⟨by decide +kernel, by decide +kernel, Or.inl ⟨by decide +kernel, by decide +kernel, by decide +kernel⟩⟩
theorem zxi_113 : ∀ i, i < 67 → nth o_113 i = some .athrow → i = 5 ∨ i = 62 := by decide +kernel
theorem zxf_154_5 : zxf z_154 5 351 := ⟨by decide +kernel, by decide +kernel, Or.inr ⟨by decide +kernel, by decide +kernel, by decide +kernel⟩⟩
theorem zxi_154 : ∀ i, i < 15 → nth o_154 i = some .athrow → i = 5 := by decide +kernel
theorem zx_at {M i : Nat} {r : zM} (hM : M = 112 ∨ M = 113 ∨ M = 154) (hr : nth zall M = some r) (hop : nth r.2.2.2.2.2.1 i = some .athrow) : r.1.cls = "HopCourts" ∧ r.2.2.2.2.1.2.1 ≠ 11 ∧ 12 ≤ r.2.2.2.2.1.1 ∧ ∃ (is : Nat) (text : String), (is, text) ∈ zStr ∧ zxf r i is := by
  rcases hM with rfl | rfl | rfl
  · cases Option.some.inj ((rfl : nth zall 112 = some z_112).symm.trans hr)
    refine ⟨rfl, by decide, by decide, ?_⟩
    rcases zxi_112 i (nth_lt hop) hop with rfl | rfl
    · exact ⟨130, "no such square", by decide, zxf_112_5⟩
    · exact ⟨145, "nothing such is told of a square", by decide, zxf_112_27⟩
  · cases Option.some.inj ((rfl : nth zall 113 = some z_113).symm.trans hr)
    refine ⟨rfl, by decide, by decide, ?_⟩
    rcases zxi_113 i (nth_lt hop) hop with rfl | rfl
    · exact ⟨150, "no such player", by decide, zxf_113_5⟩
    · exact ⟨163, "nothing such is told of a player", by decide, zxf_113_62⟩
  · cases Option.some.inj ((rfl : nth zall 154 = some z_154).symm.trans hr)
    refine ⟨rfl, by decide, by decide, ?_⟩
    cases zxi_154 i (nth_lt hop) hop
    exact ⟨351, "no such number is told", by decide, zxf_154_5⟩
theorem zmet_x (G : zGt) (l : Launch) (hl : l.stackTraces = false) {n d M a : Nat} {r : zM} {As : List Value} {h hf : zH} (hP : ∀ k, k < n → zPc G l k) (hM : M = 112 ∨ M = 113 ∨ M = 154) (hr : nth zall M = some r) (h11 : r.2.2.2.2.1.2.1 ≠ 11) (hg : gb (ex n) d M As h = some (some (.retAddr a), hf)) : zMetX G l r d As h hf (zcc hf - zcc h) (zss hf - zss h) := by
  obtain ⟨hgd, hex⟩ := gb_some hg
  obtain ⟨hnd, hle⟩ := zbq hgd
  have hle := Nat.le_of_ble_eq_true hle
  rw [max_of hr] at hle hex
  have hkp := ex_keep _ _ _ _ _ _ _ _ hex
  have hm1 : zcc hf = zcc h + (zcc hf - zcc h) := zwide_room hkp.cc
  have hm2 : zss hf = zss h + (zss hf - zss h) := zwide_room hkp.ss
  generalize zcc hf - zcc h = mc at hm1 ⊢
  generalize zss hf - zss h = ms at hm2 ⊢
  unfold zMetX
  refine vx_ofW (cc := r.2.1) (maxL := r.2.2.1) (ret := r.2.2.2.1) (zall_p0 r (zmem_all hr)).2 rfl ?_
  intro p e s m args below meth c s₁ B hml hne hv0
  obtain ⟨rfl, hp⟩ := hv0
  have E := zenv_of (zs_ws r) B hml hp
  have hko : ∀ i lv st h' op, nth r.2.2.2.2.2.1 i = some op → zEnd op st h' (some (.retAddr a)) hf → zGo G p l e (headSpec (zws r) (zrm r d mc ms)).room s m (As.map (zre (zad G))).toArray below meth c (vx_MQ below (zQn G) (zXC G hf) (As.map (zre (zad G))).toArray s mc ms (fun q => G.1 < q)) r h i lv st h' := by
    intro i lv st h' op hop hend
    unfold zEnd at hend
    split at hend
    · obtain ⟨x, -, q, -⟩ := hend; cases q
    · obtain ⟨x, -, -, q, -⟩ := hend; cases q
    · obtain ⟨x, -, q, -⟩ := hend; cases q
    · obtain ⟨-, q, -⟩ := hend; cases q
    · obtain ⟨rfl, -, rfl⟩ := hend
      obtain ⟨hO, -, hrk, is, text, g1, g2, g3, g4⟩ := zx_at hM hr hop
      have e1 : zcc (h'.1, h'.2.1, h'.2.2.1, h'.2.2.2.1, h'.2.2.2.2 + 1) = zcc h' + 1 := by unfold zcc; dsimp only; omega
      have e2 : zss (h'.1, h'.2.1, h'.2.2.1, h'.2.2.2.1, h'.2.2.2.2 + 1) = zss h' + 6 := by unfold zss; dsimp only; omega
      rw [e1] at hm1
      rw [e2] at hm2
      have hR1 : 12 ≤ (headSpec (zws r) (zrm r d mc ms)).room.frames := by show 12 ≤ r.2.2.2.2.1.1 + 8 * d; omega
      have hR2 : 41 * 12 ≤ (headSpec (zws r) (zrm r d mc ms)).room.locals := by show 41 * 12 ≤ 41 * (r.2.2.2.2.1.1 + 8 * d); omega
      exact zs_thr E hO hl g1 g2 g3 g4 hne B.notSynchronized hR1 hR2 hm1 hm2 ⟨by show _ ≤ mc + _; omega, by show _ ≤ ms + _; omega⟩
    · exact hend.elim
  have key := zbody G l n hP d M r hr 0 _ [] h (some (.retAddr a)) hf hex (e := e) (R := (headSpec (zws r) (zrm r d mc ms)).room) (below := below) (Q := vx_MQ below (zQn G) (zXC G hf) _ s mc ms (fun q => G.1 < q)) (h0 := h) E (Nat.le_refl _) (Nat.le_refl _) ⟨by show _ ≤ mc + _; omega, by show _ ≤ ms + _; omega⟩ hko (fun k hk _ i lv st h z hz => absurd hz (zall_nj hr h11)) _ _ _ _ _ (zcf0 hp hnd hle)
  rw [(zall_p0 r (zmem_all hr)).1] at key
  rw [lg_entry_eq]
  exact key
/-- what a wrapper of the law is, at its call -/
def zjf (r : zM) (i : Nat) (z : Int) (M' : Nat) (r' : zM) : Prop := ∃ idx : Nat, nth zall M' = some r' ∧ (M' = 112 ∨ M' = 113 ∨ M' = 154) ∧ r'.2.2.2.2.1.2.1 = 9 ∧ z.toNat / 4096 = M' ∧ decode r.2.1 (zpc r i) = .ok (.invokevirtual idx, 3) ∧ zpc r (i + 1) = zpc r i + 3 ∧ (11, idx, 0, M') ∈ zML ∧ z.toNat / 64 % 64 / 4 = r'.2.2.2.2.1.2.2 + 1 ∧ r'.2.2.2.2.1.1 < r.2.2.2.2.1.1 ∧ r.1.cls = "HopCourtsLaw" ∧ ∃ en hp : Nat, tableOf (zhh r) = [⟨0, en, hp, 13⟩] ∧ covers ⟨0, en, hp, 13⟩ (zpc r i) = true ∧ 0 < r.2.2.1 ∧ ((decode r.2.1 hp = .ok (.astore (r.2.2.1 - 1), 2) ∧ zpc r (z.toNat % 64) = hp + 2) ∨ (∃ q : Fin 4, (q : Nat) = r.2.2.1 - 1 ∧ decode r.2.1 hp = .ok (.astore_n q, 1) ∧ zpc r (z.toNat % 64) = hp + 1))
theorem zjf_297 : zjf z_297 5 459594 112 z_112 := ⟨7, rfl, by decide, rfl, by decide, by decide +kernel, by decide +kernel, by decide +kernel, by decide, by decide, rfl, 10, 13, by decide, by decide +kernel, by decide, Or.inl ⟨by decide +kernel, by decide +kernel⟩⟩
theorem zji_297 : ∀ i, i < 14 → ∀ op, nth o_297 i = some op → isJ op = true → i = 5 := by
  intro i hi
  have h : ∀ i, i < 14 → (match nth o_297 i with
    | some op => (!(isJ op)) || Nat.beq i 5
    | none => true) = true := by decide +kernel
  intro op hop hj
  have h2 := h i hi
  rw [hop] at h2
  simp only [hj, Bool.not_true, Bool.false_or] at h2
  exact Nat.eq_of_beq_eq_true h2
theorem zjf_298 : zjf z_298 5 463690 113 z_113 := ⟨15, rfl, by decide, rfl, by decide, by decide +kernel, by decide +kernel, by decide +kernel, by decide, by decide, rfl, 10, 13, by decide, by decide +kernel, by decide, Or.inl ⟨by decide +kernel, by decide +kernel⟩⟩
theorem zji_298 : ∀ i, i < 14 → ∀ op, nth o_298 i = some op → isJ op = true → i = 5 := by
  intro i hi
  have h : ∀ i, i < 14 → (match nth o_298 i with
    | some op => (!(isJ op)) || Nat.beq i 5
    | none => true) = true := by decide +kernel
  intro op hop hj
  have h2 := h i hi
  rw [hop] at h2
  simp only [hj, Bool.not_true, Bool.false_or] at h2
  exact Nat.eq_of_beq_eq_true h2
theorem zjf_299 : zjf z_299 4 631432 154 z_154 := ⟨18, rfl, by decide, rfl, by decide, by decide +kernel, by decide +kernel, by decide +kernel, by decide, by decide, rfl, 8, 11, by decide, by decide +kernel, by decide, Or.inr ⟨3, rfl, by decide +kernel, by decide +kernel⟩⟩
theorem zji_299 : ∀ i, i < 12 → ∀ op, nth o_299 i = some op → isJ op = true → i = 4 := by
  intro i hi
  have h : ∀ i, i < 12 → (match nth o_299 i with
    | some op => (!(isJ op)) || Nat.beq i 4
    | none => true) = true := by decide +kernel
  intro op hop hj
  have h2 := h i hi
  rw [hop] at h2
  simp only [hj, Bool.not_true, Bool.false_or] at h2
  exact Nat.eq_of_beq_eq_true h2
theorem zj_at {M i : Nat} {r : zM} {z : Int} (hM : M = 297 ∨ M = 298 ∨ M = 299) (hr : nth zall M = some r) (hop : nth r.2.2.2.2.2.1 i = some (.jsr z)) : ∃ M' r', zjf r i z M' r' := by
  rcases hM with rfl | rfl | rfl
  · cases Option.some.inj ((rfl : nth zall 297 = some z_297).symm.trans hr)
    cases zji_297 i (nth_lt hop) _ hop rfl
    cases Option.some.inj ((rfl : nth o_297 5 = some (.jsr 459594)).symm.trans hop)
    exact ⟨112, z_112, zjf_297⟩
  · cases Option.some.inj ((rfl : nth zall 298 = some z_298).symm.trans hr)
    cases zji_298 i (nth_lt hop) _ hop rfl
    cases Option.some.inj ((rfl : nth o_298 5 = some (.jsr 463690)).symm.trans hop)
    exact ⟨113, z_113, zjf_298⟩
  · cases Option.some.inj ((rfl : nth zall 299 = some z_299).symm.trans hr)
    cases zji_299 i (nth_lt hop) _ hop rfl
    cases Option.some.inj ((rfl : nth o_299 4 = some (.jsr 631432)).symm.trans hop)
    exact ⟨154, z_154, zjf_299⟩
theorem zall_11 : ∀ M, M < 301 → (match nth zall M with
    | some r => (!(Nat.beq r.2.2.2.2.1.2.1 11)) || Nat.beq M 297 || Nat.beq M 298 || Nat.beq M 299 || Nat.beq M 300
    | none => true) = true := by decide +kernel
theorem zw_of {M : Nat} {r : zM} (hr : nth zall M = some r) (h11 : r.2.2.2.2.1.2.1 = 11) : M = 297 ∨ M = 298 ∨ M = 299 ∨ M = 300 := by
  have hl : M < 301 := Nat.lt_of_lt_of_le (nth_lt hr) (by decide +kernel)
  have h := zall_11 M hl
  rw [hr] at h
  simp only [h11, show Nat.beq 11 11 = true from rfl, Bool.not_true, Bool.false_or, Bool.or_eq_true] at h
  rcases h with ((h | h) | h) | h
  · exact Or.inl (Nat.eq_of_beq_eq_true h)
  · exact Or.inr (Or.inl (Nat.eq_of_beq_eq_true h))
  · exact Or.inr (Or.inr (Or.inl (Nat.eq_of_beq_eq_true h)))
  · exact Or.inr (Or.inr (Or.inr (Nat.eq_of_beq_eq_true h)))
theorem zlv_null {α : Nat → Nat} {ls : Array Slot} {nL k q : Nat} {lv : List Value} (h : lv_has ls nL ((k, .ref q) :: (zal α 0 lv).filter (fun q => !(q.1 == k) && !(q.1 + 1 == k && q.2.category == 2)))) : lv_has ls nL (zal α 0 (lset lv k .null)) := by
  refine ⟨h.1, h.2.1, fun q hq => h.2.2 q ?_⟩
  obtain ⟨u, h1, h2, h3⟩ := zal_mem0.mp hq
  unfold lset at h2
  rw [List.getElem?_set] at h2
  by_cases hk : k = q.1
  · rw [if_pos hk] at h2
    split at h2
    · exact absurd (Option.some.inj h2).symm h1
    · cases h2
  · rw [if_neg hk] at h2
    obtain ⟨a1, a2⟩ := lkill_at h2 h1
    refine List.mem_cons_of_mem _ (List.mem_filter.mpr ⟨zal_mem0.mpr ⟨u, h1, a1, h3⟩, ?_⟩)
    have e1 : (q.1 == k) = false := by simpa using fun q => hk q.symm
    have e2 : (q.1 + 1 == k && q.2.category == 2) = false := by
      rw [h3, zre_cat]
      cases hc : (q.1 + 1 == k && u.category == 2) with
      | false => rfl
      | true =>
        simp at hc
        exact absurd hc a2
    simp only [e1, e2]
    rfl
set_option maxHeartbeats 4000000 in
theorem zs_jsr {G : zGt} {p : Program} {l : Launch} {e : Env} {R : Room} {s : State} {m : MethodId} {args : Array Value} {below : List Frame} {meth : Method} {c : Code} {Q : State → Prop} {r : zM} {h0 : zH} (hl : l.stackTraces = false) (E : zEnv G p s m args meth c r) {k d M i : Nat} {z : Int} {lv st : List Value} {h hf : zH} {v : Option Value} (hP : ∀ j, j ≤ k → zPc G l j) (hM : M = 297 ∨ M = 298 ∨ M = 299) (hr : nth zall M = some r) (htab : c.exceptionTable.toList = tableOf (zhh r)) (hfr : r.2.2.2.2.1.1 + 8 * d ≤ R.frames) (hlo : 41 * (r.2.2.2.2.1.1 + 8 * d) ≤ R.locals) (hcap : zcc hf ≤ R.cells + zcc h0 ∧ zss hf ≤ R.slots + zss h0)
    (kf : ∀ i lv st h, ex k d M i lv st h = some (v, hf) → zGo G p l e R s m args below meth c Q r h0 i lv st h) (hop : nth r.2.2.2.2.2.1 i = some (.jsr z)) (hs : stp (gg (ex k) d) (ex k d M) (.jsr z) i lv st h = some (v, hf)) : zGo G p l e R s m args below meth c Q r h0 i lv st h := by
  obtain ⟨M', r', idx, f1, f2, f3, f4, f5, f6, f7, f8, f9, f10, en, hp, f11, f12, f13, f14⟩ := zj_at hM hr hop
  obtain ⟨O, r2, g1, g2, g3, g4, g4n, g5, g6, g7, T, N, g8⟩ := zML_ok _ f7
  cases Option.some.inj (g2.symm.trans f1)
  have hO : r.1.cls = O := by
    rw [f10]
    exact Option.some.inj ((rfl : nth zcn 11 = some "HopCourtsLaw").symm.trans g1)
  subst hO
  simp only [stp] at hs
  split at hs
  · rename_i hz
    obtain ⟨hz8, hlen⟩ := zbq hz
    clear hz
    have hlen := Nat.le_of_ble_eq_true hlen
    split at hs
    · rename_i hrc
      rw [f4] at hs
      have hst : st = (st.take (z.toNat / 64 % 64 / 4)).reverse.reverse ++ st.drop (z.toNat / 64 % 64 / 4) := by rw [List.reverse_reverse, List.take_append_drop]
      have hal : ((st.take (z.toNat / 64 % 64 / 4)).reverse).length = z.toNat / 64 % 64 / 4 := by rw [List.length_reverse, List.length_take]; omega
      generalize (st.take (z.toNat / 64 % 64 / 4)).reverse = As at hst hal hrc hs
      generalize st.drop (z.toNat / 64 % 64 / 4) = rest at hst hz8 hs
      subst hst
      have hfr' : r'.2.2.2.2.1.1 + 8 * d + 1 ≤ R.frames := by omega
      have hlo' : 41 * (r'.2.2.2.2.1.1 + 8 * d + 1) ≤ R.locals := Nat.le_trans (Nat.mul_le_mul_left 41 (by omega)) hlo
      cases As with
      | nil => simp at hal; omega
      | cons a As =>
        unfold zrc at hrc
        dsimp only at hrc
        split at hrc
        · rename_i a' As' he
          cases he
          rw [List.reverse_cons, List.append_assoc, List.singleton_append]
          have hAs : As.length = r'.2.2.2.2.1.2.2 := by simp at hal; omega
          rw [f3] at g8
          have norm : ∀ v1 h1, zan (some v1) = true → gg (ex k) d false M' (.ref a' :: As) h = some (some v1, h1) → ex k d M (i + 1) lv (v1 :: rest) h1 = some (v, hf) → zGo G p l e R s m args below meth c Q r h0 i lv (As.reverse ++ .ref a' :: rest) h := by
            intro v1 h1 hv1 q1 q2
            obtain ⟨mc, ms, e1, e2, e3, e4, e5, -⟩ := hP k (Nat.le_refl k) d M' r' _ h _ h1 f1 q1 hv1
            have hk := ex_keep _ _ _ _ _ _ _ _ q2
            exact zs_callV E (e5 g4n) hv1 f5 f6 g3 g5 g6 g7 g8 hAs hrc hfr' hlo' g4 hz8 ⟨Nat.le_trans hk.cc hcap.1, Nat.le_trans hk.ss hcap.2⟩ e1 e2 e3 e4 (kf _ _ _ _ q2)
          rcases bT_some hs with ⟨ka, h1, q1, q2⟩ | ⟨v1, h1, q1, q2⟩ | ⟨v1, h1, q1, q2⟩
          · have hkp := ex_keep _ _ _ _ _ _ _ _ (gb_some (F := ex k) (d := d) q1).2
            have hkp2 := ex_keep _ _ _ _ _ _ _ _ q2
            have hX := zmet_x G l hl (fun j hj => hP j (by omega)) f2 f1 (by omega) q1
            have hm1 : zcc h1 = zcc h + (zcc h1 - zcc h) := zwide_room hkp.cc
            have hm2 : zss h1 = zss h + (zss h1 - zss h) := zwide_room hkp.ss
            generalize zcc h1 - zcc h = mc at hm1 hX
            generalize zss h1 - zss h = ms at hm2 hX
            have k2 := kf _ _ _ _ q2
            intro ls H locs cells slots C0
            have c1 := C0.2.2.2.2.2.2.1
            have c2 := C0.2.2.2.2.2.2.2
            have w1 : zcc h1 ≤ zcc hf := hkp2.cc
            have w2 : zss h1 ≤ zss hf := hkp2.ss
            have h8 := Nat.le_of_ble_eq_true hz8
            rw [Bool.and_eq_true] at hrc
            have hs9 := fok_shp hrc.1
            have hat := zrep_at C0.1 (by omega) hrc.2
            rw [zE_obj hs9] at hat
            rw [show (As.reverse ++ Value.ref a' :: rest).map (zre (zad G)) = (As.map (zre (zad G))).reverse ++ .ref (zad G a') :: rest.map (zre (zad G)) by simp [zre]]
            refine vx_calli (vx_runV (As := As.map (zre (zad G))) (rest := rest.map (zre (zad G))) ⟨E.1, E.2.1, E.2.2.1, E.2.2.2.1, E.2.2.2.2.1⟩ hX ⟨zcallB E g3 g5 hfr' hlo' g4, E.2.2.2.2.1 _ g6, E.2.2.2.2.1 _ g7⟩ ⟨zblind G h _, va_recv E.2.2.2.2.2.1 (zP1 hat) g8 (q0 := 0) rfl, fun U hU hW => ⟨rfl, zpre_at E C0 U hU hW⟩⟩ rfl (by rw [List.length_map]; exact hAs) C0.2.2.1.1 rfl (lv_room (by rw [zcat_map]; exact h8)) f5 ⟨by omega, by omega⟩) C0.2.1 (fun q _ h => h) (fun q h => h) (fun q _ h => h) ?_ (fun y u t H1 locs1 ht hvm hp => hp.elim)
            intro E' ce q9 u t H1 locs1 ht hvm hpx hB hsz hkeep hS hcell hcv hcl
            obtain ⟨rfl, hrep⟩ := hB
            rw [ht] at hrep
            have C1 : zCf G s r h0 h1 lv ls H1 locs1 (cells + mc) (slots + ms) := ⟨hrep, hS, C0.2.2.1, C0.2.2.2.1, by rw [hkp.1]; exact C0.2.2.2.2.1, fun j hj => by rw [hkp.2.1]; exact C0.2.2.2.2.2.1 j hj, by omega, by omega⟩
            refine vx_catch E.2.2.2.1 [] ⟨0, en, hp, 13⟩ [] (by rw [htab, f11]; rfl) (fun z hz => by cases hz) f12 (show (13 : Nat) ≠ 0 by decide) (name := "java/util/NoSuchElementException") (by rw [f10]; exact E.2.2.2.2.1 _ z_cl13) (va_Nw.use rfl (E.2.2.2.2.2.2.2.2.2.2.2.2.1 _ z_cast)) hcell hcv hcl ?_
            have fin : ∀ ls2, lv_has ls2 r.2.2.1 (zal (zad G) 0 (lset lv (lv.length - 1) .null)) → W p l e R s m args below meth c H1 locs1 (cells + mc) (slots + ms) Q (F0 m (zpc r (z.toNat % 64)) ls2 []) := fun ls2 hl2 => k2 ls2 H1 locs1 _ _ ⟨C1.1, C1.2.1, hl2, by rw [lset_len]; exact C1.2.2.2.1, C1.2.2.2.2⟩
            rw [C0.2.2.2.1] at fin
            rcases f14 with ⟨a1, a2⟩ | ⟨q, a0, a1, a2⟩
            · refine lv_astore E.1 E.2.1 a1 C1.2.2.1 (by omega) rfl (fun ls2 hl2 => ?_)
              have := fin ls2 (zlv_null hl2)
              rw [a2] at this
              exact this
            · refine lv_astore_n E.1 E.2.1 a1 a0 C1.2.2.1 (by omega) rfl (fun ls2 hl2 => ?_)
              have := fin ls2 (zlv_null hl2)
              rw [a2] at this
              exact this
          · exact norm _ _ rfl q1 q2
          · exact norm _ _ rfl q1 q2
        · cases hrc
    · cases hs
  · cases hs
theorem met_of_vx {l : Launch} {y : MethodName} {ws : List Cond} {rm : Room} {Pc : Array Value → State → Prop} {Qc : Array Value → State → Outcome → State → Prop} {mc ms : Nat} {free : Addr → Prop} (h : vx_Met l y ws rm Pc Qc (fun _ _ _ => False) mc ms free) : Met l y ws rm Pc Qc mc ms free := by
  intro p e h1 h2 h3 s m args below h4 h5 h6 h7
  obtain ⟨n, o, a1, a2, a3, a4⟩ := h p e h1 h2 h3 s m args below h4 h5 h6 h7
  rcases a4 with a4 | ⟨q, -, E, ce, L, hx, -⟩
  · exact ⟨n, o, a1, a2, a3, a4⟩
  · exact hx.elim
theorem zmet_w (G : zGt) (l : Launch) (hl : l.stackTraces = false) {n d M : Nat} {r : zM} {As : List Value} {h hf : zH} {v : Option Value} (hP : ∀ k, k < n → zPc G l k) (hM : M = 297 ∨ M = 298 ∨ M = 299) (hr : nth zall M = some r) (hg : gb (ex n) d M As h = some (v, hf)) (hv : zan v = true) : zMetW G l r (zhh r) d As h v hf (zcc hf - zcc h) (zss hf - zss h) := by
  obtain ⟨hgd, hex⟩ := gb_some hg
  obtain ⟨hnd, hle⟩ := zbq hgd
  have hle := Nat.le_of_ble_eq_true hle
  rw [max_of hr] at hle hex
  have hkp := ex_keep _ _ _ _ _ _ _ _ hex
  have hm1 : zcc hf = zcc h + (zcc hf - zcc h) := zwide_room hkp.cc
  have hm2 : zss hf = zss h + (zss hf - zss h) := zwide_room hkp.ss
  generalize zcc hf - zcc h = mc at hm1 ⊢
  generalize zss hf - zss h = ms at hm2 ⊢
  unfold zMetW
  refine met_of_vx (vx_ofWH (cc := r.2.1) (maxL := r.2.2.1) (ret := r.2.2.2.1) (hh := zhh r) (zall_p0 r (zmem_all hr)).2 rfl ?_)
  intro p e s m args below meth c s₁ B hml hv0
  obtain ⟨rfl, hp⟩ := hv0
  have E := zenv_of (zs_wsW r (zhh r)) B hml hp
  have htab : c.exceptionTable.toList = tableOf (zhh r) := vx_table (x := r.1) B (atoms_spec (ws := zwsW r (zhh r)) B.pre _ List.mem_cons_self)
  have hcp : zcc hf ≤ (headSpec (zwsW r (zhh r)) (zrm r d mc ms)).room.cells + zcc h ∧ zss hf ≤ (headSpec (zwsW r (zhh r)) (zrm r d mc ms)).room.slots + zss h := ⟨by show _ ≤ mc + _; omega, by show _ ≤ ms + _; omega⟩
  have key := zbody G l n hP d M r hr 0 _ [] h v hf hex (e := e) (R := (headSpec (zwsW r (zhh r)) (zrm r d mc ms)).room) (below := below) (Q := vx_MQ below (zQo G v hf) (fun _ _ _ => False) _ s mc ms (fun q => G.1 < q)) (h0 := h) E (Nat.le_refl _) (Nat.le_refl _) hcp (fun i lv st h' op hop hend ls H locs cells slots C => vx_ret (zko E hr B.returns B.notSynchronized hv hm1 hm2 i lv st h' op hop hend ls H locs cells slots C)) (fun k hk kf i lv st h' z hz hs => zs_jsr hl E (fun j hj => hP j (by omega)) hM hr htab (Nat.le_refl _) (Nat.le_refl _) hcp kf hz hs) _ _ _ _ _ (zcf0 hp hnd hle)
  rw [(zall_p0 r (zmem_all hr)).1] at key
  rw [lg_entry_eq]
  exact key

