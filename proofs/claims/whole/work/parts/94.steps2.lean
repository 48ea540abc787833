theorem kI_of (v : Int) : kI v = Int32.ofInt v := by
  cases v with
  | ofNat n => rfl
  | negSucc n =>
    show -(nI (n + 1)) = Int32.ofInt (Int.negSucc n)
    rw [show Int.negSucc n = -((n + 1 : Nat) : Int) from rfl, Int32.ofInt_neg]
    rfl
theorem zsw_sel {f : Nat → Option zO} {x : Int32} {d : Nat} {o : zO} : ∀ (ts : List Int) (lo : Int), zsw f x lo ts d = some o → (∃ (q : Nat) (t : Int), ts[q]? = some t ∧ x = kI (lo + q) ∧ f t.toNat = some o) ∨ ((∀ q : Nat, q < ts.length → x ≠ kI (lo + q)) ∧ f d = some o)
  | [], lo, h => Or.inr ⟨fun q hq => by simp at hq, h⟩
  | t :: ts, lo, h => by
    unfold zsw at h
    by_cases c : x = kI lo
    · rw [if_pos c] at h
      exact Or.inl ⟨0, t, rfl, by simpa using c, h⟩
    · rw [if_neg c] at h
      rcases zsw_sel ts (lo + 1) h with ⟨q, t', h1, h2, h3⟩ | ⟨h1, h2⟩
      · exact Or.inl ⟨q + 1, t', h1, by rw [h2]; congr 1; omega, h3⟩
      · refine Or.inr ⟨fun q hq => ?_, h2⟩
        cases q with
        | zero => simpa using c
        | succ q =>
          have := h1 q (by simpa using hq)
          rw [show lo + ((q + 1 : Nat) : Int) = lo + 1 + (q : Int) by omega]
          exact this
theorem zlk_sel {f : Nat → Option zO} {x : Int32} {d : Nat} {o : zO} {pc : Int} {P : Nat → Int} {dflt : Int} (hdf : pc + dflt = P d) : ∀ (ps rs : List (Int × Int)), ps.length = rs.length → (∀ (q : Nat) (a b : Int × Int), ps[q]? = some a → rs[q]? = some b → a.1 = b.1 ∧ -2 ^ 31 ≤ a.1 ∧ a.1 < 2 ^ 31 ∧ pc + b.2 = P a.2.toNat) → zlk f x ps d = some o → ∃ t, pc + Op.lookupswitch.offset rs dflt x.toInt = P t ∧ f t = some o
  | [], [], _, _, h => ⟨d, hdf, h⟩
  | [], _ :: _, hl, _, _ => by simp at hl
  | _ :: _, [], hl, _, _ => by simp at hl
  | (m, t) :: ps, (a, b) :: rs, hl, hq, h => by
    obtain ⟨e1, e2, e3, e4⟩ := hq 0 _ _ rfl rfl
    dsimp only at e1 e2 e3 e4
    subst e1
    unfold zlk at h
    have hk : (kI m).toInt = m := by rw [kI_of]; exact Int32.toInt_ofInt_of_le e2 e3
    by_cases c : x = kI m
    · rw [if_pos c] at h
      refine ⟨t.toNat, ?_, h⟩
      rw [Op.lookupswitch.offset_cons, if_pos (by rw [c, hk])]
      exact e4
    · rw [if_neg c] at h
      rw [lv_osw c hk]
      exact zlk_sel hdf ps rs (by simpa using hl) (fun q a b h1 h2 => hq (q + 1) a b h1 h2) h
section ZST2
variable {G : zGt} {p : Program} {l : Launch} {e : Env} {R : Room} {s : State} {m : MethodId} {args : Array Value} {below : List Frame} {meth : Method} {c : Code} {Q : State → Prop} {r : zM} {h0 : zH} {i : Nat} {lv st : List Value} {h : zH}
theorem zs_alen (E : zEnv G p s m args meth c r) {a : Nat} (hd : decode r.2.1 (zpc r i) = .ok (.arraylength, 1)) (hn : zpc r (i + 1) = zpc r i + 1) (hz : zn h.2.2.2.1 a = true) (hf : (Nat.blt 0 (shp a) && Nat.blt (shp a) 6) = true) (k : zGo G p l e R s m args below meth c Q r h0 (i + 1) lv (.int (nI (sln a)) :: st) h) : zGo G p l e R s m args below meth c Q r h0 i lv (.ref a :: st) h := by
  intro ls H locs cells slots C0
  have kk := k ls H locs cells slots C0
  rw [hn] at kk
  rw [Bool.and_eq_true] at hf
  have h1 : 0 < shp a := Nat.le_of_ble_eq_true hf.1
  have h2 : shp a < 6 := Nat.le_of_ble_eq_true hf.2
  have hat := zrep_at C0.1 (by omega) hz
  rcases (show shp a = 2 ∨ shp a = 1 ∨ shp a = 3 ∨ shp a = 4 ∨ shp a = 5 by omega) with hs | hs | hs | hs | hs
  · rw [zE_long hs] at hat
    exact va_alen E.1 E.2.1 E.2.2.2.2.2.1 (zP1 hat) 0 1 rfl rfl rfl hd kk
  · rw [zE_arr hs (by decide) (by decide)] at hat
    exact va_alen E.1 E.2.1 E.2.2.2.2.2.1 (zP1 hat) 0 0 rfl rfl rfl hd kk
  · rw [zE_arr hs (by decide) (by decide)] at hat
    exact va_alen E.1 E.2.1 E.2.2.2.2.2.1 (zP1 hat) 0 2 rfl rfl rfl hd kk
  · rw [zE_arr hs (by decide) (by decide)] at hat
    exact va_alen E.1 E.2.1 E.2.2.2.2.2.1 (zP1 hat) 0 3 rfl rfl rfl hd kk
  · rw [zE_arr hs (by decide) (by decide)] at hat
    exact va_alen E.1 E.2.1 E.2.2.2.2.2.1 (zP1 hat) 0 4 rfl rfl rfl hd kk
theorem zs_slen (E : zEnv G p s m args meth c r) (hd : decode r.2.1 (zpc r i) = .ok (.arraylength, 1)) (hn : zpc r (i + 1) = zpc r i + 1) (k : zGo G p l e R s m args below meth c Q r h0 (i + 1) lv (.int (h.1 998 0) :: st) h) : zGo G p l e R s m args below meth c Q r h0 i lv (.ref 999 :: st) h := by
  intro ls H locs cells slots C0
  have kk := k ls H locs cells slots C0
  rw [hn] at kk
  refine va_slen (A := fun q => G.1 < q) E.1 E.2.1 E.2.2.2.2.2.2.1 E.2.2.2.2.2.2.2.1 (Nat.not_lt.mpr E.2.2.2.2.2.2.2.2.1) C0.2.1 hd ?_
  rw [show h.1 998 0 = Int32.ofNat G.2.2.1 from C0.2.2.2.2.1] at kk
  exact kk
theorem zs_sld (E : zEnv G p s m args meth c r) {j : Int32} (hd : decode r.2.1 (zpc r i) = .ok (.iaload, 1)) (hn : zpc r (i + 1) = zpc r i + 1) (hf : inb j (h.1 998 0).toNatClampNeg = true) (k : zGo G p l e R s m args below meth c Q r h0 (i + 1) lv (.int (h.1 999 j.toNatClampNeg) :: st) h) : zGo G p l e R s m args below meth c Q r h0 i lv (.int j :: .ref 999 :: st) h := by
  intro ls H locs cells slots C0
  have kk := k ls H locs cells slots C0
  rw [hn] at kk
  rw [C0.2.2.2.2.1, nI_clamp E.2.2.2.2.2.2.2.2.2.2.1] at hf
  have hj := inb_in hf
  refine va_sld (A := fun q => G.1 < q) E.1 E.2.1 E.2.2.2.2.2.2.1 E.2.2.2.2.2.2.2.1 (Nat.not_lt.mpr E.2.2.2.2.2.2.2.2.1) C0.2.1 hj hd ?_
  rw [C0.2.2.2.2.2.1 _ (Nat.not_le.mp fun q => hj (Or.inr q))] at kk
  exact kk
theorem zs_tsw (E : zEnv G p s m args meth c r) {dflt lo hi : Int} {offs : Array Int} {len : Nat} {x : Int32} {d : Nat} {ts : List Int} {o : zO} {f : Nat → Option zO} (hd : decode r.2.1 (zpc r i) = .ok (.tableswitch dflt lo hi offs, len)) (hhi : hi = lo + offs.size - 1) (hlo : -2 ^ 31 ≤ lo) (hhi2 : hi < 2 ^ 31) (hl : offs.size = ts.length) (hdf : (zpc r i : Int) + dflt = (zpc r d : Int))
    (ht : ∀ (q : Nat) (off t : Int), offs[q]? = some off → ts[q]? = some t → (zpc r i : Int) + off = (zpc r t.toNat : Int)) (hs : zsw f x lo ts d = some o) (k : ∀ t, f t = some o → zGo G p l e R s m args below meth c Q r h0 t lv st h) : zGo G p l e R s m args below meth c Q r h0 i lv (.int x :: st) h := by
  intro ls H locs cells slots C0
  rcases zsw_sel ts lo hs with ⟨q, t, h1, h2, h3⟩ | ⟨h1, h2⟩
  · have hq : q < ts.length := (List.getElem?_eq_some_iff.mp h1).1
    have hx : x.toInt = lo + q := by rw [h2, kI_of]; exact Int32.toInt_ofInt_of_le (by omega) (by omega)
    have ho : offs[q]? = some offs[q] := Array.getElem?_eq_getElem (by omega)
    refine lv_tableIn E.1 E.2.1 hd (off := offs[q]) (by omega) (by omega) ?_ (ht q _ _ ho h1) (k _ h3 ls H locs cells slots C0)
    rw [show (x.toInt - lo).toNat = q by omega]
    exact ho
  · refine lv_tableOut E.1 E.2.1 hd ?_ hdf (k _ h2 ls H locs cells slots C0)
    rcases Int.lt_or_le x.toInt lo with q | q
    · exact Or.inl q
    · rcases Int.lt_or_le hi x.toInt with q2 | q2
      · exact Or.inr q2
      · refine absurd ?_ (h1 (x.toInt - lo).toNat (by omega))
        rw [show lo + ((x.toInt - lo).toNat : Int) = x.toInt by omega, kI_of, Int32.ofInt_toInt]
theorem zs_lsw (E : zEnv G p s m args meth c r) {dflt : Int} {rs : Array (Int × Int)} {len : Nat} {x : Int32} {d : Nat} {ps : List (Int × Int)} {o : zO} {f : Nat → Option zO} (hd : decode r.2.1 (zpc r i) = .ok (.lookupswitch dflt rs, len)) (hsort : (rs.toList.zip (rs.toList.drop 1)).all (fun (a, next) => a.1 < next.1) = true) (hdf : (zpc r i : Int) + dflt = (zpc r d : Int)) (hl : ps.length = rs.toList.length)
    (ht : ∀ (q : Nat) (a b : Int × Int), ps[q]? = some a → rs.toList[q]? = some b → a.1 = b.1 ∧ -2 ^ 31 ≤ a.1 ∧ a.1 < 2 ^ 31 ∧ (zpc r i : Int) + b.2 = (zpc r a.2.toNat : Int)) (hs : zlk f x ps d = some o) (k : ∀ t, f t = some o → zGo G p l e R s m args below meth c Q r h0 t lv st h) : zGo G p l e R s m args below meth c Q r h0 i lv (.int x :: st) h := by
  intro ls H locs cells slots C0
  obtain ⟨t, h1, h2⟩ := zlk_sel (P := fun t => (zpc r t : Int)) hdf ps rs.toList hl ht hs
  exact lv_lookup E.1 E.2.1 hd hsort rfl h1 (k _ h2 ls H locs cells slots C0)
theorem zs_oinit (E : zEnv G p s m args meth c r) {a idx : Nat} (hd : decode r.2.1 (zpc r i) = .ok (.invokespecial idx, 3)) (hn : zpc r (i + 1) = zpc r i + 3) (hw : Cond.methodLink r.1.cls idx Lib.objectInit ∈ zT) (hw2 : Cond.instanceMethod Lib.objectInit ∈ zT) (hw3 : Cond.code Lib.objectInit ⟨#[0xb1]⟩ 1 none ∈ zT) (hfr : 1 ≤ R.frames) (hlo : 41 ≤ R.locals) (hz : Nat.ble (zcat st) 8 = true) (k : zGo G p l e R s m args below meth c Q r h0 (i + 1) lv st h) : zGo G p l e R s m args below meth c Q r h0 i lv (.ref a :: st) h := by
  intro ls H locs cells slots C0
  have kk := k ls H locs cells slots C0
  rw [hn] at kk
  have h8 := Nat.le_of_ble_eq_true hz
  exact W.objInit E.1 E.2.1 E.2.2.2.1 (E.2.2.2.2.1 _ hw) (E.2.2.2.2.1 _ hw2) (E.2.2.2.2.1 _ hw3) rfl (by rw [E.2.2.1]; exact C0.2.2.1.1) rfl hd hfr (by rw [zcat_map]; show 2 * 0 + _ + _ ≤ _; omega) kk
theorem zs_max (E : zEnv G p s m args meth c r) {x y : Int32} {idx : Nat} (hd : decode r.2.1 (zpc r i) = .ok (.invokestatic idx, 3)) (hn : zpc r (i + 1) = zpc r i + 3) (hw : Cond.methodLink r.1.cls idx Lib.Math.max.name ∈ zT) (hw2 : Cond.static Lib.Math.max.name ∈ zT) (hw3 : Cond.initialized "java/lang/Math" ∈ zT) (hw4 : Cond.code Lib.Math.max.name Lib.Math.max.code 2 (some .int) ∈ zT) (hfr : 1 ≤ R.frames) (hlo : 41 ≤ R.locals) (hcap : zcc h ≤ R.cells + zcc h0 ∧ zss h ≤ R.slots + zss h0) (hz : Nat.ble (zcat st) 8 = true) (k : zGo G p l e R s m args below meth c Q r h0 (i + 1) lv (.int (zmax x y) :: st) h) : zGo G p l e R s m args below meth c Q r h0 i lv (.int y :: .int x :: st) h := by
  intro ls H locs cells slots C0
  have kk := k ls H locs cells slots C0
  rw [hn] at kk
  have h8 := Nat.le_of_ble_eq_true hz
  have c1 := C0.2.2.2.2.2.2.1
  have c2 := C0.2.2.2.2.2.2.2
  exact va_mmax E.1 E.2.1 (by rw [E.2.2.1]; exact C0.2.2.1.1.symm) E.2.2.2.1 (E.2.2.2.2.1 _ hw) (E.2.2.2.2.1 _ hw2) (E.2.2.2.2.1 _ hw3) (E.2.2.2.2.1 _ hw4) hfr (by rw [zcat_map]; omega) (by omega) (by omega) hd kk
theorem zs_min (E : zEnv G p s m args meth c r) {x y : Int32} {idx : Nat} (hd : decode r.2.1 (zpc r i) = .ok (.invokestatic idx, 3)) (hn : zpc r (i + 1) = zpc r i + 3) (hw : Cond.methodLink r.1.cls idx Lib.Math.min.name ∈ zT) (hw2 : Cond.static Lib.Math.min.name ∈ zT) (hw3 : Cond.initialized "java/lang/Math" ∈ zT) (hw4 : Cond.code Lib.Math.min.name Lib.Math.min.code 2 (some .int) ∈ zT) (hfr : 1 ≤ R.frames) (hlo : 41 ≤ R.locals) (hcap : zcc h ≤ R.cells + zcc h0 ∧ zss h ≤ R.slots + zss h0) (hz : Nat.ble (zcat st) 8 = true) (k : zGo G p l e R s m args below meth c Q r h0 (i + 1) lv (.int (zmin x y) :: st) h) : zGo G p l e R s m args below meth c Q r h0 i lv (.int y :: .int x :: st) h := by
  intro ls H locs cells slots C0
  have kk := k ls H locs cells slots C0
  rw [hn] at kk
  have h8 := Nat.le_of_ble_eq_true hz
  have c1 := C0.2.2.2.2.2.2.1
  have c2 := C0.2.2.2.2.2.2.2
  exact va_mmin E.1 E.2.1 (by rw [E.2.2.1]; exact C0.2.2.1.1.symm) E.2.2.2.1 (E.2.2.2.2.1 _ hw) (E.2.2.2.2.1 _ hw2) (E.2.2.2.2.1 _ hw3) (E.2.2.2.2.1 _ hw4) hfr (by rw [zcat_map]; omega) (by omega) (by omega) hd kk
theorem zs_new (E : zEnv G p s m args meth c r) {idx cn N : Nat} {C : String} {T : u_T} (hd : decode r.2.1 (zpc r i) = .ok (.new idx, 3)) (hn : zpc r (i + 1) = zpc r i + 3) (hc : vwCl[cn]? = some (C, T, N)) (hNf : zNf cn = N) (hin : ∀ w ∈ u_ws C T N, w ∈ zT) (ty : Nat → FieldType) (hty : ∀ k, k < N → parseFieldDescriptor (T k).2.2.1 = some (ty k)) (hdv : ∀ k, k < N → defaultValue (ty k) = if zfkd cn k = 1 then .null else .int 0)
    (hw : Cond.classLink r.1.cls idx C ∈ zT) (hw2 : Cond.instantiable C N ∈ zT) (hw3 : Cond.initialized C ∈ zT) (hs : shp h.2.2.2.1 = 10 + cn) (hx0 : h.2.2.2.2 = 0) (hcap : zcc h + 1 ≤ R.cells + zcc h0 ∧ zss h + N ≤ R.slots + zss h0)
    (k : zGo G p l e R s m args below meth c Q r h0 (i + 1) lv (.ref h.2.2.2.1 :: st) (zrow h.1 h.2.2.2.1 (fun _ => 0), h.2.1, zrow h.2.2.1 h.2.2.2.1 (fun _ => none), h.2.2.2.1 + 1, h.2.2.2.2)) : zGo G p l e R s m args below meth c Q r h0 i lv st h := by
  intro ls H locs cells slots C0
  have hsn := shp_in (a := h.2.2.2.1) (by omega)
  have hz : H.size = G.1 + h.2.2.2.1 := C0.1.2.1 hx0
  have hKn := E.2.2.2.2.2.1.1 cn _ hc
  have c1 := C0.2.2.2.2.2.2.1
  have c2 := C0.2.2.2.2.2.2.2
  refine W.newcK E.1 E.2.1 E.2.2.2.1 (E.2.2.2.2.1 _ hw) (E.2.2.2.2.1 _ hw2) (E.2.2.2.2.1 _ hw3) rfl hd (by omega) (by omega) hKn.2.1 rfl fun H1 kC hkC e1 z1 o1 => ?_
  have hlt : ∀ id, 1 ≤ id → id < h.2.2.2.1 → zad G id < H.size := fun id g1 g2 => by rw [hz, zad_in (by omega)]; omega
  have kk := k ls H1 locs (cells + 1) (slots + N) ⟨⟨fun id g1 g2 => ?_, fun _ => ?_, ?_⟩, ⟨Nat.le_trans C0.2.1.1 (by omega), fun x g1 g2 => (o1 x (Nat.lt_of_lt_of_le g1 C0.2.1.1)).trans (C0.2.1.2.1 x g1 g2), C0.2.1.2.2⟩, C0.2.2.1, C0.2.2.2.1, ?_, ?_, ?_, ?_⟩
  · rw [hn] at kk
    have ea : Array.size H = zad G h.2.2.2.1 := by rw [hz, zad_in hsn.2]
    show W p l e R s m args below meth c H1 locs (cells + 1) (slots + N) Q (F0 m (zpc r i + 3) ls (.ref (Array.size H) :: st.map (zre (zad G))))
    rw [ea]
    exact kk
  · dsimp only at g2
    by_cases hid : id = h.2.2.2.1
    · subst hid
      rw [zE_obj hs]
      refine ⟨_, hc, ?_⟩
      have hb := u_born ty E.2.2.2.2.1 hin hKn hkC e1 hty
      rw [show H.size = zad G h.2.2.2.1 by rw [hz, zad_in hsn.2]] at hb
      refine hb.to (fun j hj => ?_)
      dsimp only at hj ⊢
      unfold vp_V
      rw [hdv j hj, List.getD_eq_getElem?_getD, zfs_at (by rw [hNf]; exact hj)]
      show _ = zfv _ _ _ _ _
      unfold zfv
      dsimp only
      rw [zrow_self, zrow_self]
    · have hid2 : id < h.2.2.2.1 := by omega
      have ec : zE G (zrow h.1 h.2.2.2.1 (fun _ => 0), h.2.1, zrow h.2.2.1 h.2.2.2.1 (fun _ => none), h.2.2.2.1 + 1, h.2.2.2.2) id = zE G h id := zE_congr (zrow_ne _ _ hid) rfl (zrow_ne _ _ hid)
      rw [ec]
      exact (C0.1.1 id g1 hid2).kept (o1 _ (hlt id g1 hid2))
  · show H1.size = G.1 + (h.2.2.2.1 + 1)
    omega
  · show h.2.2.2.1 + 1 ≤ 65
    omega
  · show zrow h.1 h.2.2.2.1 (fun _ => (0 : Int32)) 998 0 = _
    rw [zrow_ne _ _ (by omega)]
    exact C0.2.2.2.2.1
  · intro j hj
    show zrow h.1 h.2.2.2.1 (fun _ => (0 : Int32)) 999 j = _
    rw [zrow_ne _ _ (by omega)]
    exact C0.2.2.2.2.2.1 j hj
  · show cells + 1 + zcc h0 = h.2.2.2.1 + 1 + h.2.2.2.2
    have : zcc h = h.2.2.2.1 + h.2.2.2.2 := rfl
    omega
  · show slots + N + zss h0 = zsl h.2.2.2.1 + zsz h.2.2.2.1 + 6 * h.2.2.2.2
    have : zss h = zsl h.2.2.2.1 + 6 * h.2.2.2.2 := rfl
    have h5 : zsz h.2.2.2.1 = N := by unfold zsz; rw [if_pos (by omega), show shp h.2.2.2.1 - 10 = cn by omega, hNf]
    omega
theorem zs_newa (E : zEnv G p s m args meth c r) {atype : ArrayType} {t0 : Nat} {x : Int32} (hd : decode r.2.1 (zpc r i) = .ok (.newarray atype, 2)) (hn : zpc r (i + 1) = zpc r i + 2) (hw : Cond.arrayClass (newarray.typeOf atype) ∈ zT) (ht : (ztys G.2.2.2.2.1)[t0]? = some (G.2.2.2.2.1 (aty atype), newarray.typeOf atype)) (hat : aty atype = 1 ∨ aty atype = 2 ∨ aty atype = 3 ∨ aty atype = 4 ∨ aty atype = 5) (hat2 : aty atype = 2 ↔ newarray.typeOf atype = .long) (hdv : defaultValue (newarray.typeOf atype) = if aty atype = 2 then .long 0 else .int 0) (hcb : componentBytes (newarray.typeOf atype) ≤ 8) (hnk : ∀ C, newarray.typeOf atype ≠ .object C)
    (hs : shp h.2.2.2.1 = aty atype) (hx0 : h.2.2.2.2 = 0) (hx : x = nI (sln h.2.2.2.1)) (hcap : zcc h + 1 ≤ R.cells + zcc h0 ∧ zss h + sln h.2.2.2.1 ≤ R.slots + zss h0) (hsl : sln h.2.2.2.1 ≤ 10000)
    (k : zGo G p l e R s m args below meth c Q r h0 (i + 1) lv (.ref h.2.2.2.1 :: st) (zrow h.1 h.2.2.2.1 (fun _ => 0), zrow h.2.1 h.2.2.2.1 (fun _ => 0), h.2.2.1, h.2.2.2.1 + 1, h.2.2.2.2)) : zGo G p l e R s m args below meth c Q r h0 i lv (.int x :: st) h := by
  intro ls H locs cells slots C0
  have hsn := shp_in (a := h.2.2.2.1) (by omega)
  have hz : H.size = G.1 + h.2.2.2.1 := C0.1.2.1 hx0
  have c1 := C0.2.2.2.2.2.2.1
  have c2 := C0.2.2.2.2.2.2.2
  have hN : x.toNatClampNeg = sln h.2.2.2.1 := by rw [hx]; exact nI_clamp (by omega)
  refine va_newaK (atype := atype) (N := sln h.2.2.2.1) E.1 E.2.1 (E.2.2.2.2.1 _ hw) rfl hd rfl (by rw [hx]; exact nI_pos (by omega)) hN (Nat.le_trans (Nat.mul_le_mul hsl hcb) (Nat.le_of_ble_eq_true rfl)) (by omega) (by omega) rfl fun H1 cA e1 z1 o1 hAr hNm => ?_
  have hcA : cA = G.2.2.2.2.1 (aty atype) := by
    have h1 := (E.2.2.2.2.2.1.2 t0 _ ht).2
    dsimp only at h1
    unfold va_RA at h1
    split at h1
    · rename_i C hC
      exact absurd hC (hnk C)
    · exact Option.some.inj (hNm.symm.trans h1)
  subst hcA
  have hlt : ∀ id, 1 ≤ id → id < h.2.2.2.1 → zad G id < H.size := fun id g1 g2 => by rw [hz, zad_in (by omega)]; omega
  have kk := k ls H1 locs (cells + 1) (slots + sln h.2.2.2.1) ⟨⟨fun id g1 g2 => ?_, fun _ => ?_, ?_⟩, ⟨Nat.le_trans C0.2.1.1 (by omega), fun x g1 g2 => (o1 x (Nat.lt_of_lt_of_le g1 C0.2.1.1)).trans (C0.2.1.2.1 x g1 g2), C0.2.1.2.2⟩, C0.2.2.1, C0.2.2.2.1, ?_, ?_, ?_, ?_⟩
  · rw [hn] at kk
    have ea : Array.size H = zad G h.2.2.2.1 := by rw [hz, zad_in hsn.2]
    show W p l e R s m args below meth c H1 locs (cells + 1) (slots + sln h.2.2.2.1) Q (F0 m (zpc r i + 2) ls (.ref (Array.size H) :: st.map (zre (zad G))))
    rw [ea]
    exact kk
  · dsimp only at g2
    by_cases hid : id = h.2.2.2.1
    · subst hid
      rw [show H.size = zad G h.2.2.2.1 by rw [hz, zad_in hsn.2]] at e1
      by_cases h2 : aty atype = 2
      · rw [zE_long (by rw [hs, h2])]
        show H1[zad G h.2.2.2.1]? = some (vp_cell _ _)
        rw [e1, vp_cell_l, hdv, if_pos h2, h2]
        dsimp only
        rw [zrow_self]
      · rw [zE_arr hs (by omega) h2]
        show H1[zad G h.2.2.2.1]? = some (vp_cell _ _)
        rw [e1, vp_cell_i, hdv, if_neg h2]
        dsimp only
        rw [zrow_self]
    · have hid2 : id < h.2.2.2.1 := by omega
      have ec : zE G (zrow h.1 h.2.2.2.1 (fun _ => 0), zrow h.2.1 h.2.2.2.1 (fun _ => 0), h.2.2.1, h.2.2.2.1 + 1, h.2.2.2.2) id = zE G h id := zE_congr (zrow_ne _ _ hid) (zrow_ne _ _ hid) rfl
      rw [ec]
      exact (C0.1.1 id g1 hid2).kept (o1 _ (hlt id g1 hid2))
  · show H1.size = G.1 + (h.2.2.2.1 + 1)
    omega
  · show h.2.2.2.1 + 1 ≤ 65
    omega
  · show zrow h.1 h.2.2.2.1 (fun _ => (0 : Int32)) 998 0 = _
    rw [zrow_ne _ _ (by omega)]
    exact C0.2.2.2.2.1
  · intro j hj
    show zrow h.1 h.2.2.2.1 (fun _ => (0 : Int32)) 999 j = _
    rw [zrow_ne _ _ (by omega)]
    exact C0.2.2.2.2.2.1 j hj
  · show cells + 1 + zcc h0 = h.2.2.2.1 + 1 + h.2.2.2.2
    have : zcc h = h.2.2.2.1 + h.2.2.2.2 := rfl
    omega
  · show slots + sln h.2.2.2.1 + zss h0 = zsl h.2.2.2.1 + zsz h.2.2.2.1 + 6 * h.2.2.2.2
    have : zss h = zsl h.2.2.2.1 + 6 * h.2.2.2.2 := rfl
    have h5 : zsz h.2.2.2.1 = sln h.2.2.2.1 := by unfold zsz; rw [if_neg (by omega)]
    omega
theorem zs_copy (E : zEnv G p s m args meth c r) {a a0 idx : Nat} {sp dp n : Int32} (hd : decode r.2.1 (zpc r i) = .ok (.invokestatic idx, 3)) (hn : zpc r (i + 1) = zpc r i + 3) (hw : Cond.methodLink r.1.cls idx arraycopyName ∈ zT) (hw2 : Cond.native arraycopyName ∈ zT) (hw3 : Cond.static arraycopyName ∈ zT) (hw4 : Cond.initialized "java/lang/System" ∈ zT) (hfr : 1 ≤ R.frames) (hlo : 41 ≤ R.locals) (hz : (Nat.ble (zcat st) 8 && zn h.2.2.2.1 a && zn h.2.2.2.1 a0) = true) (hf : zcp a0 sp a dp n = true)
    (k : zGo G p l e R s m args below meth c Q r h0 (i + 1) lv st (zrow h.1 a (va_cpy (h.1 a0) (h.1 a) sp.toNatClampNeg dp.toNatClampNeg n.toNatClampNeg), h.2)) : zGo G p l e R s m args below meth c Q r h0 i lv (.int n :: .int dp :: .ref a :: .int sp :: .ref a0 :: st) h := by
  intro ls H locs cells slots C0
  simp only [Bool.and_eq_true] at hz
  obtain ⟨⟨hz8, hza⟩, hz0⟩ := hz
  have h8 := Nat.le_of_ble_eq_true hz8
  unfold zcp at hf
  simp only [Bool.and_eq_true, Bool.not_eq_true', decide_eq_false_iff_not, decide_eq_true_eq] at hf
  obtain ⟨⟨⟨⟨⟨⟨g0, g1⟩, h1⟩, h2⟩, h3⟩, h4⟩, h5⟩ := hf
  have hs0 : shp a0 = 1 := Nat.eq_of_beq_eq_true g0
  have hs1 : shp a = 1 := Nat.eq_of_beq_eq_true g1
  have hsa : shp a ≠ 0 := by omega
  have hat0 := zrep_at C0.1 (by omega) hz0
  have hat1 := zrep_at C0.1 hsa hza
  rw [zE_arr hs0 (by decide) (by decide)] at hat0
  rw [zE_arr hs1 (by decide) (by decide)] at hat1
  have hc0 : H[zad G a0]? = some (vp_cell (G.2.2.2.2.1 1) (sln a0, .inl (h.1 a0))) := hat0
  have hc1 : H[zad G a]? = some (vp_cell (G.2.2.2.2.1 1) (sln a, .inl (h.1 a))) := hat1
  have nn : ∀ z : Int32, ¬ z < 0 → z.toInt = (z.toNatClampNeg : Int) := by
    intro z hz
    have hz0 : (0 : Int) ≤ z.toInt := by
      have := Int32.not_lt.mp hz
      simpa using Int32.le_iff_toInt_le.mp this
    show z.toInt = ((z.toInt.toNat : Nat) : Int)
    omega
  have hnf : nativeFrameWords "java/lang/System" "arraycopy" 5 + 11 ≤ 33 := by decide +kernel
  intro T hT X
  obtain ⟨-, k0, hk0, cm0, hkk0⟩ := (E.2.2.2.2.2.1.2 0 _ rfl).1 (sln a0) (fun j => .int (h.1 a0 j))
  obtain ⟨-, k1, hk1, cm1, hkk1⟩ := (E.2.2.2.2.2.1.2 0 _ rfl).1 (sln a) (fun j => .int (h.1 a j))
  obtain ⟨vm', X', step⟩ := X.arraycopy E.1 E.2.2.2.1 (E.2.2.2.2.1 _ hw) (E.2.2.2.2.1 _ hw2) (E.2.2.2.2.1 _ hw3) (E.2.2.2.2.1 _ hw4) (src := zad G a0) (dst := zad G a) (cs := vp_cell (G.2.2.2.2.1 1) (sln a0, .inl (h.1 a0))) (cd := vp_cell (G.2.2.2.2.1 1) (sln a, .inl (h.1 a))) (srcPos := sp) (destPos := dp) (n := n) (by rw [hT]; exact hc0) (by rw [hT]; exact hc1)
    (fun _ h => by cases h) (fun _ h => by cases h) (fun h => by cases h) (fun h => by cases h) hk0 hk1 hkk0 hkk1 (by simp [refKind]) h1 h2 h3
    (by rw [nn sp h1, nn n h3]; show ¬ _ > ((arrV _ (sln a0) (fun j => .int (h.1 a0 j))).slots.size : Int); rw [arrV_size]; omega)
    (by rw [nn dp h2, nn n h3]; show ¬ _ > ((arrV _ (sln a) (fun j => .int (h.1 a j))).slots.size : Int); rw [arrV_size]; omega)
    (fun vm₁ _ i hi => by
      have e : (vp_cell (G.2.2.2.2.1 1) (sln a0, .inl (h.1 a0))).slots.getD (sp.toNatClampNeg + i) .null = .int (h.1 a0 (sp.toNatClampNeg + i)) := by
        show (arrV _ (sln a0) (fun j => .int (h.1 a0 j))).slots.getD _ _ = _
        rw [Array.getD_eq_getD_getElem?, arrV_read _ _ (by omega)]
        rfl
      refine ⟨?_, ?_⟩
      · rw [e]
        rfl
      · rw [e]
        exact trivial)
    (g := F0 m (zpc r i) ls (.int n :: .int dp :: .ref (zad G a) :: .int sp :: .ref (zad G a0) :: st.map (zre (zad G)))) rfl (by rw [E.2.2.1]; exact C0.2.2.1.1) (rest := st.map (zre (zad G))) rfl (by rw [E.2.1]; exact hd) hfr (by rw [zcat_map]; show 2 * 0 + _ + _ ≤ _; omega)
  have e1 : copied (vp_cell (G.2.2.2.2.1 1) (sln a0, .inl (h.1 a0))) (vp_cell (G.2.2.2.2.1 1) (sln a, .inl (h.1 a))) sp dp n = vp_cell (G.2.2.2.2.1 1) (sln a, .inl (va_cpy (h.1 a0) (h.1 a) sp.toNatClampNeg dp.toNatClampNeg n.toNatClampNeg)) := va_copied (fun z => .int z) _ _ _ _ h4
  rw [e1] at X' step
  have hl : zad G a < H.size := (Array.getElem?_eq_some_iff.mp hc1).1
  have hheap : ((T.setVm vm').setCell (zad G a) (vp_cell (G.2.2.2.2.1 1) (sln a, .inl (va_cpy (h.1 a0) (h.1 a) sp.toNatClampNeg dp.toNatClampNeg n.toNatClampNeg)))).heap = H.setIfInBounds (zad G a) (vp_cell (G.2.2.2.2.1 1) (sln a, .inl (va_cpy (h.1 a0) (h.1 a) sp.toNatClampNeg dp.toNatClampNeg n.toNatClampNeg))) := by rw [← hT]; rfl
  have oq : ∀ q : Nat, q ≠ zad G a → (H.setIfInBounds (zad G a) (vp_cell (G.2.2.2.2.1 1) (sln a, .inl (va_cpy (h.1 a0) (h.1 a) sp.toNatClampNeg dp.toNatClampNeg n.toNatClampNeg))))[q]? = H[q]? := fun q hq => by simp [Array.getElem?_setIfInBounds, Ne.symm hq]
  have hAa : G.1 < zad G a := by rw [zad_in (shp_in hsa).2]; have := (shp_in hsa).1; omega
  obtain ⟨t, a1, b1⟩ := k ls _ _ cells slots ⟨zrep_set C0.1 hsa (by simp) oq rfl (fun id hid => zrow_ne _ _ hid) (fun _ _ => rfl) (fun _ _ => rfl) (by
      rw [zE_arr hs1 (by decide) (by decide)]
      show (H.setIfInBounds (zad G a) _)[zad G a]? = some _
      dsimp only
      rw [zrow_self]
      simp [Array.getElem?_setIfInBounds, hl]), ⟨by simp; exact C0.2.1.1, fun q g1 g2 => by
      rw [oq q (fun e => g2 (by rw [e]; exact hAa))]
      exact C0.2.1.2.1 q g1 g2, fun q hq => by
      rcases List.mem_append.mp hq with h | h
      · exact C0.2.1.2.2 q h
      · obtain ⟨z, -, hz⟩ := List.mem_map.mp h
        rw [← hz]
        exact hAa⟩, C0.2.2.1, C0.2.2.2.1, by
      show zrow h.1 a _ 998 0 = _
      rw [zrow_ne _ _ (by have := (shp_in hsa).2; omega)]
      exact C0.2.2.2.2.1, fun j hj => by
      show zrow h.1 a _ 999 j = _
      rw [zrow_ne _ _ (by have := (shp_in hsa).2; omega)]
      exact C0.2.2.2.2.2.1 j hj, C0.2.2.2.2.2.2.1, C0.2.2.2.2.2.2.2⟩ _ hheap X'
  rw [hn] at a1
  exact ⟨t, step t a1, b1⟩
end ZST2
