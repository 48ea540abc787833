theorem zP1 {D : va_G} {cl : List vw_C} {H : Heap} {e : Nat × va_E} (h : va_at D cl e H) : va_P D cl [e] H := by
  intro k q hk
  cases k with
  | zero => cases hk; exact h
  | succ k => simp at hk
section ZST
variable {G : zGt} {p : Program} {l : Launch} {e : Env} {R : Room} {s : State} {m : MethodId} {args : Array Value} {below : List Frame} {meth : Method} {c : Code} {Q : State → Prop} {r : zM} {h0 : zH} {i : Nat} {lv st : List Value} {h : zH}
theorem zs_iadd (E : zEnv G p s m args meth c r) {x y : Int32} (hd : decode r.2.1 (zpc r i) = .ok (.iadd, 1)) (hn : zpc r (i + 1) = zpc r i + 1) (k : zGo G p l e R s m args below meth c Q r h0 (i + 1) lv (.int (x + y) :: st) h) : zGo G p l e R s m args below meth c Q r h0 i lv (.int y :: .int x :: st) h := by
  intro ls H locs cells slots C
  have kk := k ls H locs cells slots C
  rw [hn] at kk
  exact lv_iadd E.1 E.2.1 hd kk
theorem zs_isub (E : zEnv G p s m args meth c r) {x y : Int32} (hd : decode r.2.1 (zpc r i) = .ok (.isub, 1)) (hn : zpc r (i + 1) = zpc r i + 1) (k : zGo G p l e R s m args below meth c Q r h0 (i + 1) lv (.int (x - y) :: st) h) : zGo G p l e R s m args below meth c Q r h0 i lv (.int y :: .int x :: st) h := by
  intro ls H locs cells slots C
  have kk := k ls H locs cells slots C
  rw [hn] at kk
  exact lv_isub E.1 E.2.1 hd kk
theorem zs_imul (E : zEnv G p s m args meth c r) {x y : Int32} (hd : decode r.2.1 (zpc r i) = .ok (.imul, 1)) (hn : zpc r (i + 1) = zpc r i + 1) (k : zGo G p l e R s m args below meth c Q r h0 (i + 1) lv (.int (x * y) :: st) h) : zGo G p l e R s m args below meth c Q r h0 i lv (.int y :: .int x :: st) h := by
  intro ls H locs cells slots C
  have kk := k ls H locs cells slots C
  rw [hn] at kk
  exact lv_imul E.1 E.2.1 hd kk
theorem zs_iand (E : zEnv G p s m args meth c r) {x y : Int32} (hd : decode r.2.1 (zpc r i) = .ok (.iand, 1)) (hn : zpc r (i + 1) = zpc r i + 1) (k : zGo G p l e R s m args below meth c Q r h0 (i + 1) lv (.int (x &&& y) :: st) h) : zGo G p l e R s m args below meth c Q r h0 i lv (.int y :: .int x :: st) h := by
  intro ls H locs cells slots C
  have kk := k ls H locs cells slots C
  rw [hn] at kk
  exact lv_iand E.1 E.2.1 hd kk
theorem zs_ior (E : zEnv G p s m args meth c r) {x y : Int32} (hd : decode r.2.1 (zpc r i) = .ok (.ior, 1)) (hn : zpc r (i + 1) = zpc r i + 1) (k : zGo G p l e R s m args below meth c Q r h0 (i + 1) lv (.int (x ||| y) :: st) h) : zGo G p l e R s m args below meth c Q r h0 i lv (.int y :: .int x :: st) h := by
  intro ls H locs cells slots C
  have kk := k ls H locs cells slots C
  rw [hn] at kk
  exact lv_ior E.1 E.2.1 hd kk
theorem zs_ixor (E : zEnv G p s m args meth c r) {x y : Int32} (hd : decode r.2.1 (zpc r i) = .ok (.ixor, 1)) (hn : zpc r (i + 1) = zpc r i + 1) (k : zGo G p l e R s m args below meth c Q r h0 (i + 1) lv (.int (x ^^^ y) :: st) h) : zGo G p l e R s m args below meth c Q r h0 i lv (.int y :: .int x :: st) h := by
  intro ls H locs cells slots C
  have kk := k ls H locs cells slots C
  rw [hn] at kk
  exact lv_ixor E.1 E.2.1 hd kk
theorem zs_ishl (E : zEnv G p s m args meth c r) {x y : Int32} (hd : decode r.2.1 (zpc r i) = .ok (.ishl, 1)) (hn : zpc r (i + 1) = zpc r i + 1) (k : zGo G p l e R s m args below meth c Q r h0 (i + 1) lv (.int (x <<< (y &&& 31)) :: st) h) : zGo G p l e R s m args below meth c Q r h0 i lv (.int y :: .int x :: st) h := by
  intro ls H locs cells slots C
  have kk := k ls H locs cells slots C
  rw [hn] at kk
  exact lv_ishl E.1 E.2.1 hd kk
theorem zs_ishr (E : zEnv G p s m args meth c r) {x y : Int32} (hd : decode r.2.1 (zpc r i) = .ok (.ishr, 1)) (hn : zpc r (i + 1) = zpc r i + 1) (k : zGo G p l e R s m args below meth c Q r h0 (i + 1) lv (.int (x >>> (y &&& 31)) :: st) h) : zGo G p l e R s m args below meth c Q r h0 i lv (.int y :: .int x :: st) h := by
  intro ls H locs cells slots C
  have kk := k ls H locs cells slots C
  rw [hn] at kk
  exact lv_ishr E.1 E.2.1 hd kk
theorem zs_iushr (E : zEnv G p s m args meth c r) {x y : Int32} (hd : decode r.2.1 (zpc r i) = .ok (.iushr, 1)) (hn : zpc r (i + 1) = zpc r i + 1) (k : zGo G p l e R s m args below meth c Q r h0 (i + 1) lv (.int (x.toUInt32 >>> (y.toUInt32 &&& Int32.toUInt32 31)).toInt32 :: st) h) : zGo G p l e R s m args below meth c Q r h0 i lv (.int y :: .int x :: st) h := by
  intro ls H locs cells slots C
  have kk := k ls H locs cells slots C
  rw [hn] at kk
  exact lv_iushr E.1 E.2.1 hd rfl kk
theorem zs_idiv (E : zEnv G p s m args meth c r) {x y : Int32} (hd : decode r.2.1 (zpc r i) = .ok (.idiv, 1)) (hn : zpc r (i + 1) = zpc r i + 1) (hne : ¬ y = 0) (k : zGo G p l e R s m args below meth c Q r h0 (i + 1) lv (.int (x / y) :: st) h) : zGo G p l e R s m args below meth c Q r h0 i lv (.int y :: .int x :: st) h := by
  intro ls H locs cells slots C
  have kk := k ls H locs cells slots C
  rw [hn] at kk
  exact lv_idiv E.1 E.2.1 hd hne kk
theorem zs_irem (E : zEnv G p s m args meth c r) {x y : Int32} (hd : decode r.2.1 (zpc r i) = .ok (.irem, 1)) (hn : zpc r (i + 1) = zpc r i + 1) (hne : ¬ y = 0) (k : zGo G p l e R s m args below meth c Q r h0 (i + 1) lv (.int (x - x / y * y) :: st) h) : zGo G p l e R s m args below meth c Q r h0 i lv (.int y :: .int x :: st) h := by
  intro ls H locs cells slots C
  have kk := k ls H locs cells slots C
  rw [hn] at kk
  exact lv_irem E.1 E.2.1 hd hne kk
theorem zs_ineg (E : zEnv G p s m args meth c r) {x : Int32} (hd : decode r.2.1 (zpc r i) = .ok (.ineg, 1)) (hn : zpc r (i + 1) = zpc r i + 1) (k : zGo G p l e R s m args below meth c Q r h0 (i + 1) lv (.int (-x) :: st) h) : zGo G p l e R s m args below meth c Q r h0 i lv (.int x :: st) h := by
  intro ls H locs cells slots C
  have kk := k ls H locs cells slots C
  rw [hn] at kk
  exact lv_ineg E.1 E.2.1 hd kk
theorem zs_ladd (E : zEnv G p s m args meth c r) {x y : Int64} (hd : decode r.2.1 (zpc r i) = .ok (.ladd, 1)) (hn : zpc r (i + 1) = zpc r i + 1) (k : zGo G p l e R s m args below meth c Q r h0 (i + 1) lv (.long (x + y) :: st) h) : zGo G p l e R s m args below meth c Q r h0 i lv (.long y :: .long x :: st) h := by
  intro ls H locs cells slots C
  have kk := k ls H locs cells slots C
  rw [hn] at kk
  exact lv_ladd E.1 E.2.1 hd kk
theorem zs_lmul (E : zEnv G p s m args meth c r) {x y : Int64} (hd : decode r.2.1 (zpc r i) = .ok (.lmul, 1)) (hn : zpc r (i + 1) = zpc r i + 1) (k : zGo G p l e R s m args below meth c Q r h0 (i + 1) lv (.long (x * y) :: st) h) : zGo G p l e R s m args below meth c Q r h0 i lv (.long y :: .long x :: st) h := by
  intro ls H locs cells slots C
  have kk := k ls H locs cells slots C
  rw [hn] at kk
  exact lv_lmul E.1 E.2.1 hd kk
theorem zs_ldiv (E : zEnv G p s m args meth c r) {x y : Int64} (hd : decode r.2.1 (zpc r i) = .ok (.ldiv, 1)) (hn : zpc r (i + 1) = zpc r i + 1) (hne : ¬ y = 0) (k : zGo G p l e R s m args below meth c Q r h0 (i + 1) lv (.long (x / y) :: st) h) : zGo G p l e R s m args below meth c Q r h0 i lv (.long y :: .long x :: st) h := by
  intro ls H locs cells slots C
  have kk := k ls H locs cells slots C
  rw [hn] at kk
  exact lv_ldiv E.1 E.2.1 hd hne kk
theorem zs_lrem (E : zEnv G p s m args meth c r) {x y : Int64} (hd : decode r.2.1 (zpc r i) = .ok (.lrem, 1)) (hn : zpc r (i + 1) = zpc r i + 1) (hne : ¬ y = 0) (k : zGo G p l e R s m args below meth c Q r h0 (i + 1) lv (.long (x - x / y * y) :: st) h) : zGo G p l e R s m args below meth c Q r h0 i lv (.long y :: .long x :: st) h := by
  intro ls H locs cells slots C
  have kk := k ls H locs cells slots C
  rw [hn] at kk
  exact lv_lrem E.1 E.2.1 hd hne kk
theorem zs_lcmp (E : zEnv G p s m args meth c r) {x y : Int64} (hd : decode r.2.1 (zpc r i) = .ok (.lcmp, 1)) (hn : zpc r (i + 1) = zpc r i + 1) (k : zGo G p l e R s m args below meth c Q r h0 (i + 1) lv (.int (lg_cmp x y) :: st) h) : zGo G p l e R s m args below meth c Q r h0 i lv (.long y :: .long x :: st) h := by
  intro ls H locs cells slots C
  have kk := k ls H locs cells slots C
  rw [hn] at kk
  exact W.lcmp E.1 E.2.1 hd kk
theorem zs_i2l (E : zEnv G p s m args meth c r) {x : Int32} (hd : decode r.2.1 (zpc r i) = .ok (.i2l, 1)) (hn : zpc r (i + 1) = zpc r i + 1) (k : zGo G p l e R s m args below meth c Q r h0 (i + 1) lv (.long x.toInt64 :: st) h) : zGo G p l e R s m args below meth c Q r h0 i lv (.int x :: st) h := by
  intro ls H locs cells slots C
  have kk := k ls H locs cells slots C
  rw [hn] at kk
  exact lv_i2l E.1 E.2.1 hd rfl kk
theorem zs_l2i (E : zEnv G p s m args meth c r) {x : Int64} (hd : decode r.2.1 (zpc r i) = .ok (.l2i, 1)) (hn : zpc r (i + 1) = zpc r i + 1) (k : zGo G p l e R s m args below meth c Q r h0 (i + 1) lv (.int x.toInt32 :: st) h) : zGo G p l e R s m args below meth c Q r h0 i lv (.long x :: st) h := by
  intro ls H locs cells slots C
  have kk := k ls H locs cells slots C
  rw [hn] at kk
  exact lv_l2i E.1 E.2.1 hd rfl kk
theorem zs_i2b (E : zEnv G p s m args meth c r) {x : Int32} (hd : decode r.2.1 (zpc r i) = .ok (.i2b, 1)) (hn : zpc r (i + 1) = zpc r i + 1) (k : zGo G p l e R s m args below meth c Q r h0 (i + 1) lv (.int x.toInt8.toInt32 :: st) h) : zGo G p l e R s m args below meth c Q r h0 i lv (.int x :: st) h := by
  intro ls H locs cells slots C
  have kk := k ls H locs cells slots C
  rw [hn] at kk
  exact lv_i2b E.1 E.2.1 hd rfl kk
theorem zs_i2s (E : zEnv G p s m args meth c r) {x : Int32} (hd : decode r.2.1 (zpc r i) = .ok (.i2s, 1)) (hn : zpc r (i + 1) = zpc r i + 1) (k : zGo G p l e R s m args below meth c Q r h0 (i + 1) lv (.int x.toInt16.toInt32 :: st) h) : zGo G p l e R s m args below meth c Q r h0 i lv (.int x :: st) h := by
  intro ls H locs cells slots C
  have kk := k ls H locs cells slots C
  rw [hn] at kk
  exact lv_i2s E.1 E.2.1 hd rfl kk
theorem zs_i2c (E : zEnv G p s m args meth c r) {x : Int32} (hd : decode r.2.1 (zpc r i) = .ok (.i2c, 1)) (hn : zpc r (i + 1) = zpc r i + 1) (k : zGo G p l e R s m args below meth c Q r h0 (i + 1) lv (.int (x.toUInt32 % 65536).toInt32 :: st) h) : zGo G p l e R s m args below meth c Q r h0 i lv (.int x :: st) h := by
  intro ls H locs cells slots C
  have kk := k ls H locs cells slots C
  rw [hn] at kk
  exact lv_i2c E.1 E.2.1 hd rfl kk
theorem zs_dupi (E : zEnv G p s m args meth c r) {x : Int32} (hd : decode r.2.1 (zpc r i) = .ok (.dup, 1)) (hn : zpc r (i + 1) = zpc r i + 1) (k : zGo G p l e R s m args below meth c Q r h0 (i + 1) lv (.int x :: .int x :: st) h) : zGo G p l e R s m args below meth c Q r h0 i lv (.int x :: st) h := by
  intro ls H locs cells slots C
  have kk := k ls H locs cells slots C
  rw [hn] at kk
  exact lv_dup E.1 E.2.1 hd rfl kk
theorem zs_dupr (E : zEnv G p s m args meth c r) {x : Nat} (hd : decode r.2.1 (zpc r i) = .ok (.dup, 1)) (hn : zpc r (i + 1) = zpc r i + 1) (k : zGo G p l e R s m args below meth c Q r h0 (i + 1) lv (.ref x :: .ref x :: st) h) : zGo G p l e R s m args below meth c Q r h0 i lv (.ref x :: st) h := by
  intro ls H locs cells slots C
  have kk := k ls H locs cells slots C
  rw [hn] at kk
  exact lv_dup E.1 E.2.1 hd rfl kk
theorem zs_dup2 (E : zEnv G p s m args meth c r) {y : Int32} {x : Nat} (hd : decode r.2.1 (zpc r i) = .ok (.dup2, 1)) (hn : zpc r (i + 1) = zpc r i + 1) (k : zGo G p l e R s m args below meth c Q r h0 (i + 1) lv (.int y :: .ref x :: .int y :: .ref x :: st) h) : zGo G p l e R s m args below meth c Q r h0 i lv (.int y :: .ref x :: st) h := by
  intro ls H locs cells slots C
  have kk := k ls H locs cells slots C
  rw [hn] at kk
  exact lv_dup2_11 E.1 E.2.1 hd rfl rfl kk
theorem zs_dupx1 (E : zEnv G p s m args meth c r) {y : Int32} {x : Nat} (hd : decode r.2.1 (zpc r i) = .ok (.dup_x1, 1)) (hn : zpc r (i + 1) = zpc r i + 1) (k : zGo G p l e R s m args below meth c Q r h0 (i + 1) lv (.int y :: .ref x :: .int y :: st) h) : zGo G p l e R s m args below meth c Q r h0 i lv (.int y :: .ref x :: st) h := by
  intro ls H locs cells slots C
  have kk := k ls H locs cells slots C
  rw [hn] at kk
  exact lv_dup_x1 E.1 E.2.1 hd rfl rfl kk
theorem zs_pop (E : zEnv G p s m args meth c r) {x : Int32} (hd : decode r.2.1 (zpc r i) = .ok (.pop, 1)) (hn : zpc r (i + 1) = zpc r i + 1) (k : zGo G p l e R s m args below meth c Q r h0 (i + 1) lv (st) h) : zGo G p l e R s m args below meth c Q r h0 i lv (.int x :: st) h := by
  intro ls H locs cells slots C
  have kk := k ls H locs cells slots C
  rw [hn] at kk
  exact lv_pop E.1 E.2.1 hd rfl kk
theorem zs_iconst (E : zEnv G p s m args meth c r) {n : Int} {v : Int32} (hd : decode r.2.1 (zpc r i) = .ok (.iconst n, 1)) (hn : zpc r (i + 1) = zpc r i + 1) (hv : Int32.ofInt n = v) (k : zGo G p l e R s m args below meth c Q r h0 (i + 1) lv (.int v :: st) h) : zGo G p l e R s m args below meth c Q r h0 i lv (st) h := by
  intro ls H locs cells slots C
  have kk := k ls H locs cells slots C
  rw [hn] at kk
  exact lv_iconst E.1 E.2.1 hd hv kk
theorem zs_bipush (E : zEnv G p s m args meth c r) {n : Int} {v : Int32} (hd : decode r.2.1 (zpc r i) = .ok (.bipush n, 2)) (hn : zpc r (i + 1) = zpc r i + 2) (hv : (Int8.ofInt n).toInt32 = v) (k : zGo G p l e R s m args below meth c Q r h0 (i + 1) lv (.int v :: st) h) : zGo G p l e R s m args below meth c Q r h0 i lv (st) h := by
  intro ls H locs cells slots C
  have kk := k ls H locs cells slots C
  rw [hn] at kk
  exact lv_bipush E.1 E.2.1 hd hv kk
theorem zs_sipush (E : zEnv G p s m args meth c r) {n : Int} {v : Int32} (hd : decode r.2.1 (zpc r i) = .ok (.sipush n, 3)) (hn : zpc r (i + 1) = zpc r i + 3) (hv : (Int16.ofInt n).toInt32 = v) (k : zGo G p l e R s m args below meth c Q r h0 (i + 1) lv (.int v :: st) h) : zGo G p l e R s m args below meth c Q r h0 i lv (st) h := by
  intro ls H locs cells slots C
  have kk := k ls H locs cells slots C
  rw [hn] at kk
  exact lv_sipush E.1 E.2.1 hd hv kk
theorem zs_ldc (E : zEnv G p s m args meth c r) {n : Nat} {v : Int32} (hd : decode r.2.1 (zpc r i) = .ok (.ldc n, 2)) (hn : zpc r (i + 1) = zpc r i + 2) (hv : Jvm.Cond.constant r.1.cls n v ∈ zT) (k : zGo G p l e R s m args below meth c Q r h0 (i + 1) lv (.int v :: st) h) : zGo G p l e R s m args below meth c Q r h0 i lv (st) h := by
  intro ls H locs cells slots C
  have kk := k ls H locs cells slots C
  rw [hn] at kk
  exact lv_ldc E.1 E.2.1 E.2.2.2.1 (E.2.2.2.2.1 _ hv) hd kk
theorem zs_ldcw (E : zEnv G p s m args meth c r) {n : Nat} {v : Int32} (hd : decode r.2.1 (zpc r i) = .ok (.ldc_w n, 3)) (hn : zpc r (i + 1) = zpc r i + 3) (hv : Jvm.Cond.constant r.1.cls n v ∈ zT) (k : zGo G p l e R s m args below meth c Q r h0 (i + 1) lv (.int v :: st) h) : zGo G p l e R s m args below meth c Q r h0 i lv (st) h := by
  intro ls H locs cells slots C
  have kk := k ls H locs cells slots C
  rw [hn] at kk
  exact lv_ldcw E.1 E.2.1 E.2.2.2.1 (E.2.2.2.2.1 _ hv) hd kk
theorem zs_lconst (E : zEnv G p s m args meth c r) {n : Fin 2} {v : Int64} (hd : decode r.2.1 (zpc r i) = .ok (.lconst n, 1)) (hn : zpc r (i + 1) = zpc r i + 1) (hv : Int64.ofNat (n : Nat) = v) (k : zGo G p l e R s m args below meth c Q r h0 (i + 1) lv (.long v :: st) h) : zGo G p l e R s m args below meth c Q r h0 i lv (st) h := by
  intro ls H locs cells slots C
  have kk := k ls H locs cells slots C
  rw [hn] at kk
  exact lv_lconst E.1 E.2.1 hd hv kk
theorem zs_ldc2 (E : zEnv G p s m args meth c r) {n : Nat} {v : Int64} (hd : decode r.2.1 (zpc r i) = .ok (.ldc2_w n, 3)) (hn : zpc r (i + 1) = zpc r i + 3) (hv : Jvm.Cond.constantLong r.1.cls n v ∈ zT) (k : zGo G p l e R s m args below meth c Q r h0 (i + 1) lv (.long v :: st) h) : zGo G p l e R s m args below meth c Q r h0 i lv (st) h := by
  intro ls H locs cells slots C
  have kk := k ls H locs cells slots C
  rw [hn] at kk
  exact lv_ldc2 E.1 E.2.1 E.2.2.2.1 (E.2.2.2.2.1 _ hv) hd kk
theorem zs_iload (E : zEnv G p s m args meth c r) {j : Nat} {x : Int32} (hd : decode r.2.1 (zpc r i) = .ok (.iload j, 2)) (hn : zpc r (i + 1) = zpc r i + 2) (hx : lv.getD j .null = .int x) (k : zGo G p l e R s m args below meth c Q r h0 (i + 1) lv (.int x :: st) h) : zGo G p l e R s m args below meth c Q r h0 i lv (st) h := by
  intro ls H locs cells slots C
  have kk := k ls H locs cells slots C
  rw [hn] at kk
  exact lv_iload E.1 E.2.1 hd (zlv_at C.2.2.1 hx (by intro q; cases q)) kk
theorem zs_iloadn (E : zEnv G p s m args meth c r) {q : Fin 4} {j : Nat} {x : Int32} (hd : decode r.2.1 (zpc r i) = .ok (.iload_n q, 1)) (hn : zpc r (i + 1) = zpc r i + 1) (hj : (q : Nat) = j) (hx : lv.getD j .null = .int x) (k : zGo G p l e R s m args below meth c Q r h0 (i + 1) lv (.int x :: st) h) : zGo G p l e R s m args below meth c Q r h0 i lv (st) h := by
  intro ls H locs cells slots C
  have kk := k ls H locs cells slots C
  rw [hn] at kk
  exact lv_iload_n E.1 E.2.1 hd hj (zlv_at C.2.2.1 hx (by intro q; cases q)) kk
theorem zs_istore (E : zEnv G p s m args meth c r) {j : Nat} {x : Int32} (hd : decode r.2.1 (zpc r i) = .ok (.istore j, 2)) (hn : zpc r (i + 1) = zpc r i + 2) (hl : j < r.2.2.1) (k : zGo G p l e R s m args below meth c Q r h0 (i + 1) (lset lv j (.int x)) st h) : zGo G p l e R s m args below meth c Q r h0 i lv (.int x :: st) h := by
  intro ls H locs cells slots C
  refine lv_istore E.1 E.2.1 hd C.2.2.1 hl rfl (fun ls2 hl2 => ?_)
  have kk := k ls2 H locs cells slots ⟨C.1, C.2.1, zlv_put (v := .int x) hl2, by rw [lset_len]; exact C.2.2.2.1, C.2.2.2.2⟩
  rw [hn] at kk
  exact kk
theorem zs_istoren (E : zEnv G p s m args meth c r) {q : Fin 4} {j : Nat} {x : Int32} (hd : decode r.2.1 (zpc r i) = .ok (.istore_n q, 1)) (hn : zpc r (i + 1) = zpc r i + 1) (hj : (q : Nat) = j) (hl : j < r.2.2.1) (k : zGo G p l e R s m args below meth c Q r h0 (i + 1) (lset lv j (.int x)) st h) : zGo G p l e R s m args below meth c Q r h0 i lv (.int x :: st) h := by
  intro ls H locs cells slots C
  refine lv_istore_n E.1 E.2.1 hd hj C.2.2.1 hl rfl (fun ls2 hl2 => ?_)
  have kk := k ls2 H locs cells slots ⟨C.1, C.2.1, zlv_put (v := .int x) hl2, by rw [lset_len]; exact C.2.2.2.1, C.2.2.2.2⟩
  rw [hn] at kk
  exact kk
theorem zs_lload (E : zEnv G p s m args meth c r) {j : Nat} {x : Int64} (hd : decode r.2.1 (zpc r i) = .ok (.lload j, 2)) (hn : zpc r (i + 1) = zpc r i + 2) (hx : lv.getD j .null = .long x) (k : zGo G p l e R s m args below meth c Q r h0 (i + 1) lv (.long x :: st) h) : zGo G p l e R s m args below meth c Q r h0 i lv (st) h := by
  intro ls H locs cells slots C
  have kk := k ls H locs cells slots C
  rw [hn] at kk
  exact lv_lload E.1 E.2.1 hd (zlv_at C.2.2.1 hx (by intro q; cases q)) kk
theorem zs_lloadn (E : zEnv G p s m args meth c r) {q : Fin 4} {j : Nat} {x : Int64} (hd : decode r.2.1 (zpc r i) = .ok (.lload_n q, 1)) (hn : zpc r (i + 1) = zpc r i + 1) (hj : (q : Nat) = j) (hx : lv.getD j .null = .long x) (k : zGo G p l e R s m args below meth c Q r h0 (i + 1) lv (.long x :: st) h) : zGo G p l e R s m args below meth c Q r h0 i lv (st) h := by
  intro ls H locs cells slots C
  have kk := k ls H locs cells slots C
  rw [hn] at kk
  exact lv_lload_n E.1 E.2.1 hd hj (zlv_at C.2.2.1 hx (by intro q; cases q)) kk
theorem zs_lstore (E : zEnv G p s m args meth c r) {j : Nat} {x : Int64} (hd : decode r.2.1 (zpc r i) = .ok (.lstore j, 2)) (hn : zpc r (i + 1) = zpc r i + 2) (hl : j + 1 < r.2.2.1) (k : zGo G p l e R s m args below meth c Q r h0 (i + 1) (lset2 lv j (.long x)) st h) : zGo G p l e R s m args below meth c Q r h0 i lv (.long x :: st) h := by
  intro ls H locs cells slots C
  refine lv_lstore E.1 E.2.1 hd C.2.2.1 hl rfl (fun ls2 hl2 => ?_)
  have kk := k ls2 H locs cells slots ⟨C.1, C.2.1, zlv_put2 (v := .long x) hl2, by rw [lset2_len]; exact C.2.2.2.1, C.2.2.2.2⟩
  rw [hn] at kk
  exact kk
theorem zs_lstoren (E : zEnv G p s m args meth c r) {q : Fin 4} {j : Nat} {x : Int64} (hd : decode r.2.1 (zpc r i) = .ok (.lstore_n q, 1)) (hn : zpc r (i + 1) = zpc r i + 1) (hj : (q : Nat) = j) (hl : j + 1 < r.2.2.1) (k : zGo G p l e R s m args below meth c Q r h0 (i + 1) (lset2 lv j (.long x)) st h) : zGo G p l e R s m args below meth c Q r h0 i lv (.long x :: st) h := by
  intro ls H locs cells slots C
  refine lv_lstore_n E.1 E.2.1 hd hj C.2.2.1 hl rfl (fun ls2 hl2 => ?_)
  have kk := k ls2 H locs cells slots ⟨C.1, C.2.1, zlv_put2 (v := .long x) hl2, by rw [lset2_len]; exact C.2.2.2.1, C.2.2.2.2⟩
  rw [hn] at kk
  exact kk
theorem zs_aload (E : zEnv G p s m args meth c r) {j : Nat} {x : Nat} (hd : decode r.2.1 (zpc r i) = .ok (.aload j, 2)) (hn : zpc r (i + 1) = zpc r i + 2) (hx : lv.getD j .null = .ref x) (k : zGo G p l e R s m args below meth c Q r h0 (i + 1) lv (.ref x :: st) h) : zGo G p l e R s m args below meth c Q r h0 i lv (st) h := by
  intro ls H locs cells slots C
  have kk := k ls H locs cells slots C
  rw [hn] at kk
  exact lv_aload E.1 E.2.1 hd (zlv_at C.2.2.1 hx (by intro q; cases q)) kk
theorem zs_aloadn (E : zEnv G p s m args meth c r) {q : Fin 4} {j : Nat} {x : Nat} (hd : decode r.2.1 (zpc r i) = .ok (.aload_n q, 1)) (hn : zpc r (i + 1) = zpc r i + 1) (hj : (q : Nat) = j) (hx : lv.getD j .null = .ref x) (k : zGo G p l e R s m args below meth c Q r h0 (i + 1) lv (.ref x :: st) h) : zGo G p l e R s m args below meth c Q r h0 i lv (st) h := by
  intro ls H locs cells slots C
  have kk := k ls H locs cells slots C
  rw [hn] at kk
  exact lv_aload_n E.1 E.2.1 hd hj (zlv_at C.2.2.1 hx (by intro q; cases q)) kk
theorem zs_astore (E : zEnv G p s m args meth c r) {j : Nat} {x : Nat} (hd : decode r.2.1 (zpc r i) = .ok (.astore j, 2)) (hn : zpc r (i + 1) = zpc r i + 2) (hl : j < r.2.2.1) (k : zGo G p l e R s m args below meth c Q r h0 (i + 1) (lset lv j (.ref x)) st h) : zGo G p l e R s m args below meth c Q r h0 i lv (.ref x :: st) h := by
  intro ls H locs cells slots C
  refine lv_astore E.1 E.2.1 hd C.2.2.1 hl rfl (fun ls2 hl2 => ?_)
  have kk := k ls2 H locs cells slots ⟨C.1, C.2.1, zlv_put (v := .ref x) hl2, by rw [lset_len]; exact C.2.2.2.1, C.2.2.2.2⟩
  rw [hn] at kk
  exact kk
theorem zs_astoren (E : zEnv G p s m args meth c r) {q : Fin 4} {j : Nat} {x : Nat} (hd : decode r.2.1 (zpc r i) = .ok (.astore_n q, 1)) (hn : zpc r (i + 1) = zpc r i + 1) (hj : (q : Nat) = j) (hl : j < r.2.2.1) (k : zGo G p l e R s m args below meth c Q r h0 (i + 1) (lset lv j (.ref x)) st h) : zGo G p l e R s m args below meth c Q r h0 i lv (.ref x :: st) h := by
  intro ls H locs cells slots C
  refine lv_astore_n E.1 E.2.1 hd hj C.2.2.1 hl rfl (fun ls2 hl2 => ?_)
  have kk := k ls2 H locs cells slots ⟨C.1, C.2.1, zlv_put (v := .ref x) hl2, by rw [lset_len]; exact C.2.2.2.1, C.2.2.2.2⟩
  rw [hn] at kk
  exact kk
theorem zs_iinc (E : zEnv G p s m args meth c r) {j : Nat} {n : Int} {x v : Int32} (hd : decode r.2.1 (zpc r i) = .ok (.iinc j n, 3)) (hn : zpc r (i + 1) = zpc r i + 3) (hx : lv.getD j .null = .int x) (hv : x + Int32.ofInt n = v) (hl : j < r.2.2.1) (k : zGo G p l e R s m args below meth c Q r h0 (i + 1) (lset lv j (.int v)) st h) : zGo G p l e R s m args below meth c Q r h0 i lv st h := by
  intro ls H locs cells slots C
  obtain ⟨q, hq⟩ : ∃ q : Nat, (zal (zad G) 0 lv)[q]? = some (j, Value.int x) := by
    have hm : (j, Value.int x) ∈ zal (zad G) 0 lv := by
      refine zal_mem0.mpr ⟨.int x, (by intro q; cases q), ?_, rfl⟩
      rw [List.getD_eq_getElem?_getD] at hx
      cases hk : lv[j]? with
      | none => rw [hk] at hx; cases hx
      | some u => rw [hk] at hx; exact congrArg some hx
    exact List.getElem?_of_mem hm
  refine lv_iinc E.1 E.2.1 hd C.2.2.1 hq hv hl rfl (fun ls2 hl2 => ?_)
  have kk := k ls2 H locs cells slots ⟨C.1, C.2.1, zlv_put (v := .int v) hl2, by rw [lset_len]; exact C.2.2.2.1, C.2.2.2.2⟩
  rw [hn] at kk
  exact kk
theorem zs_icmp_eq (E : zEnv G p s m args meth c r) {x y : Int32} {off : Int} {t : Nat} (hd : decode r.2.1 (zpc r i) = .ok (.if_icmp .eq off, 3)) (hn : zpc r (i + 1) = zpc r i + 3) (ht : (zpc r i : Int) + off = (zpc r t : Int)) (kt : x = y → zGo G p l e R s m args below meth c Q r h0 t lv st h) (kf : ¬ x = y → zGo G p l e R s m args below meth c Q r h0 (i + 1) lv st h) : zGo G p l e R s m args below meth c Q r h0 i lv (.int y :: .int x :: st) h := by
  intro ls H locs cells slots C
  refine lv_icmp_eq E.1 E.2.1 hd ht (fun q => kt q ls H locs cells slots C) (fun q => ?_)
  have kk := kf q ls H locs cells slots C
  rw [hn] at kk
  exact kk
theorem zs_if_eq (E : zEnv G p s m args meth c r) {x : Int32} {off : Int} {t : Nat} (hd : decode r.2.1 (zpc r i) = .ok (.ifCond .eq off, 3)) (hn : zpc r (i + 1) = zpc r i + 3) (ht : (zpc r i : Int) + off = (zpc r t : Int)) (kt : x = 0 → zGo G p l e R s m args below meth c Q r h0 t lv st h) (kf : ¬ x = 0 → zGo G p l e R s m args below meth c Q r h0 (i + 1) lv st h) : zGo G p l e R s m args below meth c Q r h0 i lv (.int x :: st) h := by
  intro ls H locs cells slots C
  refine lv_if_eq E.1 E.2.1 hd ht (fun q => kt q ls H locs cells slots C) (fun q => ?_)
  have kk := kf q ls H locs cells slots C
  rw [hn] at kk
  exact kk
theorem zs_icmp_ne (E : zEnv G p s m args meth c r) {x y : Int32} {off : Int} {t : Nat} (hd : decode r.2.1 (zpc r i) = .ok (.if_icmp .ne off, 3)) (hn : zpc r (i + 1) = zpc r i + 3) (ht : (zpc r i : Int) + off = (zpc r t : Int)) (kt : ¬ x = y → zGo G p l e R s m args below meth c Q r h0 t lv st h) (kf : x = y → zGo G p l e R s m args below meth c Q r h0 (i + 1) lv st h) : zGo G p l e R s m args below meth c Q r h0 i lv (.int y :: .int x :: st) h := by
  intro ls H locs cells slots C
  refine lv_icmp_ne E.1 E.2.1 hd ht (fun q => kt q ls H locs cells slots C) (fun q => ?_)
  have kk := kf q ls H locs cells slots C
  rw [hn] at kk
  exact kk
theorem zs_if_ne (E : zEnv G p s m args meth c r) {x : Int32} {off : Int} {t : Nat} (hd : decode r.2.1 (zpc r i) = .ok (.ifCond .ne off, 3)) (hn : zpc r (i + 1) = zpc r i + 3) (ht : (zpc r i : Int) + off = (zpc r t : Int)) (kt : ¬ x = 0 → zGo G p l e R s m args below meth c Q r h0 t lv st h) (kf : x = 0 → zGo G p l e R s m args below meth c Q r h0 (i + 1) lv st h) : zGo G p l e R s m args below meth c Q r h0 i lv (.int x :: st) h := by
  intro ls H locs cells slots C
  refine lv_if_ne E.1 E.2.1 hd ht (fun q => kt q ls H locs cells slots C) (fun q => ?_)
  have kk := kf q ls H locs cells slots C
  rw [hn] at kk
  exact kk
theorem zs_icmp_lt (E : zEnv G p s m args meth c r) {x y : Int32} {off : Int} {t : Nat} (hd : decode r.2.1 (zpc r i) = .ok (.if_icmp .lt off, 3)) (hn : zpc r (i + 1) = zpc r i + 3) (ht : (zpc r i : Int) + off = (zpc r t : Int)) (kt : x < y → zGo G p l e R s m args below meth c Q r h0 t lv st h) (kf : ¬ x < y → zGo G p l e R s m args below meth c Q r h0 (i + 1) lv st h) : zGo G p l e R s m args below meth c Q r h0 i lv (.int y :: .int x :: st) h := by
  intro ls H locs cells slots C
  refine lv_icmp_lt E.1 E.2.1 hd ht (fun q => kt q ls H locs cells slots C) (fun q => ?_)
  have kk := kf q ls H locs cells slots C
  rw [hn] at kk
  exact kk
theorem zs_if_lt (E : zEnv G p s m args meth c r) {x : Int32} {off : Int} {t : Nat} (hd : decode r.2.1 (zpc r i) = .ok (.ifCond .lt off, 3)) (hn : zpc r (i + 1) = zpc r i + 3) (ht : (zpc r i : Int) + off = (zpc r t : Int)) (kt : x < 0 → zGo G p l e R s m args below meth c Q r h0 t lv st h) (kf : ¬ x < 0 → zGo G p l e R s m args below meth c Q r h0 (i + 1) lv st h) : zGo G p l e R s m args below meth c Q r h0 i lv (.int x :: st) h := by
  intro ls H locs cells slots C
  refine lv_if_lt E.1 E.2.1 hd ht (fun q => kt q ls H locs cells slots C) (fun q => ?_)
  have kk := kf q ls H locs cells slots C
  rw [hn] at kk
  exact kk
theorem zs_icmp_ge (E : zEnv G p s m args meth c r) {x y : Int32} {off : Int} {t : Nat} (hd : decode r.2.1 (zpc r i) = .ok (.if_icmp .ge off, 3)) (hn : zpc r (i + 1) = zpc r i + 3) (ht : (zpc r i : Int) + off = (zpc r t : Int)) (kt : y ≤ x → zGo G p l e R s m args below meth c Q r h0 t lv st h) (kf : ¬ y ≤ x → zGo G p l e R s m args below meth c Q r h0 (i + 1) lv st h) : zGo G p l e R s m args below meth c Q r h0 i lv (.int y :: .int x :: st) h := by
  intro ls H locs cells slots C
  refine lv_icmp_ge E.1 E.2.1 hd ht (fun q => kt q ls H locs cells slots C) (fun q => ?_)
  have kk := kf q ls H locs cells slots C
  rw [hn] at kk
  exact kk
theorem zs_if_ge (E : zEnv G p s m args meth c r) {x : Int32} {off : Int} {t : Nat} (hd : decode r.2.1 (zpc r i) = .ok (.ifCond .ge off, 3)) (hn : zpc r (i + 1) = zpc r i + 3) (ht : (zpc r i : Int) + off = (zpc r t : Int)) (kt : 0 ≤ x → zGo G p l e R s m args below meth c Q r h0 t lv st h) (kf : ¬ 0 ≤ x → zGo G p l e R s m args below meth c Q r h0 (i + 1) lv st h) : zGo G p l e R s m args below meth c Q r h0 i lv (.int x :: st) h := by
  intro ls H locs cells slots C
  refine lv_if_ge E.1 E.2.1 hd ht (fun q => kt q ls H locs cells slots C) (fun q => ?_)
  have kk := kf q ls H locs cells slots C
  rw [hn] at kk
  exact kk
theorem zs_icmp_gt (E : zEnv G p s m args meth c r) {x y : Int32} {off : Int} {t : Nat} (hd : decode r.2.1 (zpc r i) = .ok (.if_icmp .gt off, 3)) (hn : zpc r (i + 1) = zpc r i + 3) (ht : (zpc r i : Int) + off = (zpc r t : Int)) (kt : y < x → zGo G p l e R s m args below meth c Q r h0 t lv st h) (kf : ¬ y < x → zGo G p l e R s m args below meth c Q r h0 (i + 1) lv st h) : zGo G p l e R s m args below meth c Q r h0 i lv (.int y :: .int x :: st) h := by
  intro ls H locs cells slots C
  refine lv_icmp_gt E.1 E.2.1 hd ht (fun q => kt q ls H locs cells slots C) (fun q => ?_)
  have kk := kf q ls H locs cells slots C
  rw [hn] at kk
  exact kk
theorem zs_if_gt (E : zEnv G p s m args meth c r) {x : Int32} {off : Int} {t : Nat} (hd : decode r.2.1 (zpc r i) = .ok (.ifCond .gt off, 3)) (hn : zpc r (i + 1) = zpc r i + 3) (ht : (zpc r i : Int) + off = (zpc r t : Int)) (kt : 0 < x → zGo G p l e R s m args below meth c Q r h0 t lv st h) (kf : ¬ 0 < x → zGo G p l e R s m args below meth c Q r h0 (i + 1) lv st h) : zGo G p l e R s m args below meth c Q r h0 i lv (.int x :: st) h := by
  intro ls H locs cells slots C
  refine lv_if_gt E.1 E.2.1 hd ht (fun q => kt q ls H locs cells slots C) (fun q => ?_)
  have kk := kf q ls H locs cells slots C
  rw [hn] at kk
  exact kk
theorem zs_icmp_le (E : zEnv G p s m args meth c r) {x y : Int32} {off : Int} {t : Nat} (hd : decode r.2.1 (zpc r i) = .ok (.if_icmp .le off, 3)) (hn : zpc r (i + 1) = zpc r i + 3) (ht : (zpc r i : Int) + off = (zpc r t : Int)) (kt : x ≤ y → zGo G p l e R s m args below meth c Q r h0 t lv st h) (kf : ¬ x ≤ y → zGo G p l e R s m args below meth c Q r h0 (i + 1) lv st h) : zGo G p l e R s m args below meth c Q r h0 i lv (.int y :: .int x :: st) h := by
  intro ls H locs cells slots C
  refine lv_icmp_le E.1 E.2.1 hd ht (fun q => kt q ls H locs cells slots C) (fun q => ?_)
  have kk := kf q ls H locs cells slots C
  rw [hn] at kk
  exact kk
theorem zs_if_le (E : zEnv G p s m args meth c r) {x : Int32} {off : Int} {t : Nat} (hd : decode r.2.1 (zpc r i) = .ok (.ifCond .le off, 3)) (hn : zpc r (i + 1) = zpc r i + 3) (ht : (zpc r i : Int) + off = (zpc r t : Int)) (kt : x ≤ 0 → zGo G p l e R s m args below meth c Q r h0 t lv st h) (kf : ¬ x ≤ 0 → zGo G p l e R s m args below meth c Q r h0 (i + 1) lv st h) : zGo G p l e R s m args below meth c Q r h0 i lv (.int x :: st) h := by
  intro ls H locs cells slots C
  refine lv_if_le E.1 E.2.1 hd ht (fun q => kt q ls H locs cells slots C) (fun q => ?_)
  have kk := kf q ls H locs cells slots C
  rw [hn] at kk
  exact kk
theorem zs_goto (E : zEnv G p s m args meth c r) {off : Int} {t : Nat} (hd : decode r.2.1 (zpc r i) = .ok (.goto off, 3)) (ht : (zpc r i : Int) + off = (zpc r t : Int)) (kt : zGo G p l e R s m args below meth c Q r h0 t lv st h) : zGo G p l e R s m args below meth c Q r h0 i lv st h := by
  intro ls H locs cells slots C
  exact lv_goto E.1 E.2.1 hd ht (kt ls H locs cells slots C)
theorem zs_ifnn (E : zEnv G p s m args meth c r) {off : Int} {t x : Nat} (hd : decode r.2.1 (zpc r i) = .ok (.ifnonnull off, 3)) (ht : (zpc r i : Int) + off = (zpc r t : Int)) (kt : zGo G p l e R s m args below meth c Q r h0 t lv st h) : zGo G p l e R s m args below meth c Q r h0 i lv (.ref x :: st) h := by
  intro ls H locs cells slots C
  exact lv_ifnonnull E.1 E.2.1 hd ht (kt ls H locs cells slots C)
theorem zs_ifnnN (E : zEnv G p s m args meth c r) {off : Int} (hd : decode r.2.1 (zpc r i) = .ok (.ifnonnull off, 3)) (hn : zpc r (i + 1) = zpc r i + 3) (kt : zGo G p l e R s m args below meth c Q r h0 (i + 1) lv st h) : zGo G p l e R s m args below meth c Q r h0 i lv (.null :: st) h := by
  intro ls H locs cells slots C
  have kk := kt ls H locs cells slots C
  rw [hn] at kk
  exact lv_ifnonnullN E.1 E.2.1 hd kk
theorem zs_getf (E : zEnv G p s m args meth c r) {a : Nat} {idx q N : Nat} {C : String} {T : u_T} (hc : vwCl[q / 64]? = some (C, T, N)) (hkN : q % 64 < N) (hNf : zNf (q / 64) = N) (hin : ∀ w ∈ u_ws C T N, w ∈ zT) (hw : Cond.fieldLink r.1.cls idx (T (q % 64)).1 (T (q % 64)).2.1 (T (q % 64)).2.2.1 ∈ zT) (hkd : zfkd (q / 64) (q % 64) ≠ 1) (hd : decode r.2.1 (zpc r i) = .ok (.getfield idx, 3)) (hn : zpc r (i + 1) = zpc r i + 3) (hf : (fok (q / 64) a && zn h.2.2.2.1 a) = true) (k : zGo G p l e R s m args below meth c Q r h0 (i + 1) lv (.int (h.1 a (q % 64)) :: st) h) : zGo G p l e R s m args below meth c Q r h0 i lv (.ref a :: st) h := by
  intro ls H locs cells slots C0
  have kk := k ls H locs cells slots C0
  rw [hn] at kk
  rw [Bool.and_eq_true] at hf
  have hs := fok_shp hf.1
  have hat := zrep_at C0.1 (by omega) hf.2
  rw [zE_obj hs] at hat
  refine va_get (q0 := 0) (ci := q / 64) (v := .int (h.1 a (q % 64))) E.1 E.2.1 E.2.2.2.2.1 hin E.2.2.2.1 E.2.2.2.2.2.1 (zP1 hat) rfl hc (q % 64) hkN (E.2.2.2.2.1 _ hw) (fun _ h => h) ?_ hd kk
  rw [zfs_at (by rw [hNf]; exact hkN)]
  simp [zfv, hkd]
theorem zs_getr (E : zEnv G p s m args meth c r) {a : Nat} {idx q N : Nat} {C : String} {T : u_T} (hc : vwCl[q / 64]? = some (C, T, N)) (hkN : q % 64 < N) (hNf : zNf (q / 64) = N) (hin : ∀ w ∈ u_ws C T N, w ∈ zT) (hw : Cond.fieldLink r.1.cls idx (T (q % 64)).1 (T (q % 64)).2.1 (T (q % 64)).2.2.1 ∈ zT) {b : Nat} (hkd : zfkd (q / 64) (q % 64) = 1) (hb : h.2.2.1 a (q % 64) = some b) (hd : decode r.2.1 (zpc r i) = .ok (.getfield idx, 3)) (hn : zpc r (i + 1) = zpc r i + 3) (hf : (fok (q / 64) a && zn h.2.2.2.1 a) = true) (k : zGo G p l e R s m args below meth c Q r h0 (i + 1) lv (.ref b :: st) h) : zGo G p l e R s m args below meth c Q r h0 i lv (.ref a :: st) h := by
  intro ls H locs cells slots C0
  have kk := k ls H locs cells slots C0
  rw [hn] at kk
  rw [Bool.and_eq_true] at hf
  have hs := fok_shp hf.1
  have hat := zrep_at C0.1 (by omega) hf.2
  rw [zE_obj hs] at hat
  refine va_get (q0 := 0) (ci := q / 64) (v := .ref (zad G b)) E.1 E.2.1 E.2.2.2.2.1 hin E.2.2.2.1 E.2.2.2.2.2.1 (zP1 hat) rfl hc (q % 64) hkN (E.2.2.2.2.1 _ hw) (fun _ h => h) ?_ hd kk
  rw [zfs_at (by rw [hNf]; exact hkN)]
  simp [zfv, hkd, hb]
theorem zs_getn (E : zEnv G p s m args meth c r) {a : Nat} {idx q N : Nat} {C : String} {T : u_T} (hc : vwCl[q / 64]? = some (C, T, N)) (hkN : q % 64 < N) (hNf : zNf (q / 64) = N) (hin : ∀ w ∈ u_ws C T N, w ∈ zT) (hw : Cond.fieldLink r.1.cls idx (T (q % 64)).1 (T (q % 64)).2.1 (T (q % 64)).2.2.1 ∈ zT) (hkd : zfkd (q / 64) (q % 64) = 1) (hb : h.2.2.1 a (q % 64) = none) (hd : decode r.2.1 (zpc r i) = .ok (.getfield idx, 3)) (hn : zpc r (i + 1) = zpc r i + 3) (hf : (fok (q / 64) a && zn h.2.2.2.1 a) = true) (k : zGo G p l e R s m args below meth c Q r h0 (i + 1) lv (.null :: st) h) : zGo G p l e R s m args below meth c Q r h0 i lv (.ref a :: st) h := by
  intro ls H locs cells slots C0
  have kk := k ls H locs cells slots C0
  rw [hn] at kk
  rw [Bool.and_eq_true] at hf
  have hs := fok_shp hf.1
  have hat := zrep_at C0.1 (by omega) hf.2
  rw [zE_obj hs] at hat
  refine va_get (q0 := 0) (ci := q / 64) (v := .null) E.1 E.2.1 E.2.2.2.2.1 hin E.2.2.2.1 E.2.2.2.2.2.1 (zP1 hat) rfl hc (q % 64) hkN (E.2.2.2.2.1 _ hw) (fun _ h => h) ?_ hd kk
  rw [zfs_at (by rw [hNf]; exact hkN)]
  simp [zfv, hkd, hb]
theorem zfs_put {G : zGt} {h h' : zH} {a c k : Nat} {v : Value} (hk : zfv G h' a (zfkd c k) k = v) (ho : ∀ j, j ≠ k → zfv G h' a (zfkd c j) j = zfv G h a (zfkd c j) j) : zfs G h' a c = (zfs G h a c).set k v := by
  unfold zfs
  apply List.ext_getElem?
  intro j
  rw [List.getElem?_set]
  by_cases hj : k = j
  · subst hj
    rw [if_pos rfl, List.getElem?_map]
    by_cases hl : k < zNf c
    · rw [List.getElem?_range hl, if_pos (by simpa using hl)]
      exact congrArg some hk
    · rw [if_neg (by simpa using hl), List.getElem?_eq_none (by simpa using hl)]
      rfl
  · rw [if_neg hj, List.getElem?_map, List.getElem?_map]
    cases hr : (List.range (zNf c))[j]? with
    | none => rfl
    | some x =>
      have : x = j := by
        obtain ⟨h1, h2⟩ := List.getElem?_eq_some_iff.mp hr
        simpa using h2.symm
      subst this
      exact congrArg some (ho x (fun q => hj q.symm))
theorem zs_put (E : zEnv G p s m args meth c r) {a : Nat} {v : Value} {h' : zH} {idx q N : Nat} {C : String} {T : u_T} (hc : vwCl[q / 64]? = some (C, T, N)) (hkN : q % 64 < N) (hNf : zNf (q / 64) = N) (hin : ∀ w ∈ u_ws C T N, w ∈ zT) (hw : Cond.fieldLink r.1.cls idx (T (q % 64)).1 (T (q % 64)).2.1 (T (q % 64)).2.2.1 ∈ zT) (ty : Nat → FieldType) (hty : ∀ k, k < N → parseFieldDescriptor (T k).2.2.1 = some (ty k)) (hnm : ∀ a, a < N → ∀ b, b < N → a ≠ b → (T a).2.1 ≠ (T b).2.1) (hfin : (T (q % 64)).2.2.2 = false ∨ ((T (q % 64)).2.2.2 = true ∧ r.1.name = "<init>" ∧ (T (q % 64)).1 = r.1.cls)) (hna : narrow (ty (q % 64)) (zre (zad G) v) = zre (zad G) v) (hfi : fits (ty (q % 64)) (zre (zad G) v) = true)
    (hd : decode r.2.1 (zpc r i) = .ok (.putfield idx, 3)) (hn : zpc r (i + 1) = zpc r i + 3) (hf : (fok (q / 64) a && zn h.2.2.2.1 a) = true) (hn' : h'.2.2.2 = h.2.2.2) (h1 : ∀ id, id ≠ a → h'.1 id = h.1 id) (h2 : ∀ id, id ≠ a → h'.2.1 id = h.2.1 id) (h3 : ∀ id, id ≠ a → h'.2.2.1 id = h.2.2.1 id) (hfs : zfs G h' a (q / 64) = (zfs G h a (q / 64)).set (q % 64) (zre (zad G) v)) (k : zGo G p l e R s m args below meth c Q r h0 (i + 1) lv st h') : zGo G p l e R s m args below meth c Q r h0 i lv (v :: .ref a :: st) h := by
  intro ls H locs cells slots C0
  rw [Bool.and_eq_true] at hf
  have hs := fok_shp hf.1
  have hs0 : shp a ≠ 0 := by omega
  have hat := zrep_at C0.1 hs0 hf.2
  rw [zE_obj hs] at hat
  obtain ⟨r0, g1, cell, q1, q2, q3, q4⟩ := hat
  have hr0 : r0 = (C, T, N) := Option.some.inj (g1.symm.trans hc)
  subst hr0
  have hap := va_apart (own := r.1.cls) E.2.2.2.2.1 hin ty hty hnm E.2.2.2.2.2.1 hc
  obtain ⟨hS, hfc, kC, hkC, hkind⟩ := E.2.2.2.2.2.1.1 (q / 64) _ hc
  obtain ⟨cf, kf, fi, f, hi, hsl⟩ := hS (q % 64) hkN
  have hlay := E.2.2.2.2.1 _ (hin _ (u_in_lay hkN))
  have hst := (u_facts hfc hkC (u_lays E.2.2.2.2.1 hin hkN) hi).1
  have key : ∀ (H' : Heap), H'[zad G a]? = some (cell.setSlot f.slot (zre (zad G) v)) → H'.size = H.size → (∀ q, q ≠ zad G a → H'[q]? = H[q]?) → W p l e R s m args below meth c H' (locs ++ [⟨zad G a, f.slot⟩]) cells slots Q (F0 m (zpc r i + 3) ls (st.map (zre (zad G)))) := by
    intro H' e1 e2 e3
    have kk := k ls H' (locs ++ [⟨zad G a, f.slot⟩]) cells slots ⟨zrep_set C0.1 hs0 e2 e3 hn' h1 h2 h3 ?_, C0.2.1.put e2 e3 (by rw [zad_in (shp_in hs0).2]; have := (shp_in hs0).1; omega), C0.2.2.1, C0.2.2.2.1, by rw [h1 998 (by have := (shp_in hs0).2; omega)]; exact C0.2.2.2.2.1, fun j hj => by rw [h1 999 (by have := (shp_in hs0).2; omega)]; exact C0.2.2.2.2.2.1 j hj, by unfold zcc; rw [hn']; exact C0.2.2.2.2.2.2.1, by unfold zss; rw [hn']; exact C0.2.2.2.2.2.2.2⟩
    · rw [hn] at kk
      exact kk
    · rw [zE_obj hs, hfs]
      rw [hsl] at e1
      exact ⟨_, hc, t_OB.to (V := updV (vp_V (zfs G h a (q / 64))) (q % 64) (zre (zad G) v)) ⟨_, e1, q2, q3, t_set q4 hap hkN _⟩ (fun j _ => vp_updV_set (by simp [zfs, hNf]; exact hkN) _ j)⟩
  rcases hfin with hfin | ⟨hfin, hini, hdecl⟩
  · unfold u_lay at hlay
    rw [if_neg (by rw [hfin]; decide)] at hlay
    have h6 := u_store hfc hkC hkind hlay hi (hty _ hkN) hna hfi
    exact W.putK E.1 E.2.1 (f := f) ⟨E.2.2.2.1, E.2.2.2.2.1 _ hw, ⟨_, _, _, hi⟩, hst⟩ (by rw [q2]; exact h6) q1 q3 (by rw [hsl]; exact k2_hasslot (q4 _ hkN)) rfl rfl hd key
  · unfold u_lay at hlay
    rw [if_pos hfin] at hlay
    have hcf : m.cls = cf := by
      obtain ⟨_, _, c', _, _, _, -, -, hf', -, -, -, hown2, -⟩ := Cond.laysFinal_spec hlay
      have e1 : c' = cf := by have := hi.symm.trans hf'; simp at this; exact this.1.symm
      rw [hdecl] at hown2
      rw [← e1]; exact Option.some.inj (E.2.2.2.1.symm.trans hown2)
    have h6 := u_fits hfc hkC hkind (Or.inr hlay) hi (hty _ hkN) hna hfi
    exact W.putFinK E.1 E.2.1 E.2.2.2.1 (E.2.2.2.2.1 _ hw) hi hst hcf (E.2.2.2.2.2.2.2.2.2.2.2.1 hini) (by rw [q2]; exact h6) q1 q3 (by rw [hsl]; exact k2_hasslot (q4 _ hkN)) rfl rfl hd key
theorem zs_iald (E : zEnv G p s m args meth c r) {a : Nat} {j : Int32} (hd : decode r.2.1 (zpc r i) = .ok (.iaload, 1)) (hn : zpc r (i + 1) = zpc r i + 1) (hz : zn h.2.2.2.1 a = true) (hf : aok 1 a j = true) (k : zGo G p l e R s m args below meth c Q r h0 (i + 1) lv (.int (h.1 a j.toNatClampNeg) :: st) h) : zGo G p l e R s m args below meth c Q r h0 i lv (.int j :: .ref a :: st) h := by
  intro ls H locs cells slots C0
  have kk := k ls H locs cells slots C0
  rw [hn] at kk
  obtain ⟨hs, hj⟩ := aok_in hf
  have hat := zrep_at C0.1 (by omega) hz
  rw [zE_arr hs (by decide) (by decide)] at hat
  exact va_iald E.1 E.2.1 E.2.2.2.2.2.1 (zP1 hat) 0 0 rfl rfl hj hd kk
theorem zs_bald (E : zEnv G p s m args meth c r) {a : Nat} {j : Int32} (hd : decode r.2.1 (zpc r i) = .ok (.baload, 1)) (hn : zpc r (i + 1) = zpc r i + 1) (hz : zn h.2.2.2.1 a = true) (hf : aok 3 a j = true) (k : zGo G p l e R s m args below meth c Q r h0 (i + 1) lv (.int (h.1 a j.toNatClampNeg) :: st) h) : zGo G p l e R s m args below meth c Q r h0 i lv (.int j :: .ref a :: st) h := by
  intro ls H locs cells slots C0
  have kk := k ls H locs cells slots C0
  rw [hn] at kk
  obtain ⟨hs, hj⟩ := aok_in hf
  have hat := zrep_at C0.1 (by omega) hz
  rw [zE_arr hs (by decide) (by decide)] at hat
  exact va_bald E.1 E.2.1 E.2.2.2.2.2.1 (zP1 hat) 0 2 rfl rfl hj hd kk
theorem zs_cald (E : zEnv G p s m args meth c r) {a : Nat} {j : Int32} (hd : decode r.2.1 (zpc r i) = .ok (.caload, 1)) (hn : zpc r (i + 1) = zpc r i + 1) (hz : zn h.2.2.2.1 a = true) (hf : aok 4 a j = true) (k : zGo G p l e R s m args below meth c Q r h0 (i + 1) lv (.int (h.1 a j.toNatClampNeg) :: st) h) : zGo G p l e R s m args below meth c Q r h0 i lv (.int j :: .ref a :: st) h := by
  intro ls H locs cells slots C0
  have kk := k ls H locs cells slots C0
  rw [hn] at kk
  obtain ⟨hs, hj⟩ := aok_in hf
  have hat := zrep_at C0.1 (by omega) hz
  rw [zE_arr hs (by decide) (by decide)] at hat
  exact va_cald E.1 E.2.1 E.2.2.2.2.2.1 (zP1 hat) 0 3 rfl rfl hj hd kk
theorem zs_zald (E : zEnv G p s m args meth c r) {a : Nat} {j : Int32} (hd : decode r.2.1 (zpc r i) = .ok (.baload, 1)) (hn : zpc r (i + 1) = zpc r i + 1) (hz : zn h.2.2.2.1 a = true) (hf : aok 5 a j = true) (k : zGo G p l e R s m args below meth c Q r h0 (i + 1) lv (.int (h.1 a j.toNatClampNeg) :: st) h) : zGo G p l e R s m args below meth c Q r h0 i lv (.int j :: .ref a :: st) h := by
  intro ls H locs cells slots C0
  have kk := k ls H locs cells slots C0
  rw [hn] at kk
  obtain ⟨hs, hj⟩ := aok_in hf
  have hat := zrep_at C0.1 (by omega) hz
  rw [zE_arr hs (by decide) (by decide)] at hat
  exact va_zald E.1 E.2.1 E.2.2.2.2.2.1 (zP1 hat) 0 4 rfl rfl hj hd kk
theorem zs_lald (E : zEnv G p s m args meth c r) {a : Nat} {j : Int32} (hd : decode r.2.1 (zpc r i) = .ok (.laload, 1)) (hn : zpc r (i + 1) = zpc r i + 1) (hz : zn h.2.2.2.1 a = true) (hf : aok 2 a j = true) (k : zGo G p l e R s m args below meth c Q r h0 (i + 1) lv (.long (h.2.1 a j.toNatClampNeg) :: st) h) : zGo G p l e R s m args below meth c Q r h0 i lv (.int j :: .ref a :: st) h := by
  intro ls H locs cells slots C0
  have kk := k ls H locs cells slots C0
  rw [hn] at kk
  obtain ⟨hs, hj⟩ := aok_in hf
  have hat := zrep_at C0.1 (by omega) hz
  rw [zE_long hs] at hat
  exact va_lald E.1 E.2.1 E.2.2.2.2.2.1 (zP1 hat) 0 1 rfl rfl hj hd kk
theorem zs_iast (E : zEnv G p s m args meth c r) {a : Nat} {j v : Int32} (hd : decode r.2.1 (zpc r i) = .ok (.iastore, 1)) (hn : zpc r (i + 1) = zpc r i + 1) (hz : zn h.2.2.2.1 a = true) (hf : aok 1 a j = true) (k : zGo G p l e R s m args below meth c Q r h0 (i + 1) lv st (zup h.1 a j.toNatClampNeg (v), h.2)) : zGo G p l e R s m args below meth c Q r h0 i lv (.int v :: .int j :: .ref a :: st) h := by
  intro ls H locs cells slots C0
  obtain ⟨hs, hj⟩ := aok_in hf
  have hs0 : shp a ≠ 0 := by omega
  have hat := zrep_at C0.1 hs0 hz
  rw [zE_arr hs (by decide) (by decide)] at hat
  have hnr : narrow (.int) (.int v) = .int (v) := by
    first | rfl | (have hq : v = 0 ∨ v = 1 := by simpa [zb] using hb01
                   rcases hq with rfl | rfl <;> rfl)
  refine W.iast E.1 E.2.1 hat ((E.2.2.2.2.2.1.2 0 _ rfl).1 (sln a) (fun j => .int (h.1 a j))) (fun q => by cases q) (by show ¬ (j < 0 ∨ (arrV _ _ _).slots.size ≤ _); rw [arrV_size]; exact hj) rfl rfl hd fun H1 e1 e2 e3 => ?_
  have kk := k ls H1 (locs ++ [⟨zad G a, j.toNatClampNeg⟩]) cells slots ⟨zrep_set C0.1 hs0 e2 e3 rfl (fun id hid => zup_ne _ _ _ hid) (fun _ _ => rfl) (fun _ _ => rfl) ?_, C0.2.1.put e2 e3 (by rw [zad_in (shp_in hs0).2]; have := (shp_in hs0).1; omega), C0.2.2.1, C0.2.2.2.1, by rw [show (zup h.1 a j.toNatClampNeg (v), h.2).1 998 = h.1 998 from zup_ne _ _ _ (by have := (shp_in hs0).2; omega)]; exact C0.2.2.2.2.1, fun q hq => by rw [show (zup h.1 a j.toNatClampNeg (v), h.2).1 999 = h.1 999 from zup_ne _ _ _ (by have := (shp_in hs0).2; omega)]; exact C0.2.2.2.2.2.1 q hq, C0.2.2.2.2.2.2.1, C0.2.2.2.2.2.2.2⟩
  · rw [hn] at kk
    exact kk
  · rw [zE_arr hs (by decide) (by decide)]
    show H1[zad G a]? = some (vp_cell _ _)
    rw [e1]
    rw [vp_cell_i, vp_cell_i, arrV_store]
    congr 2
    funext q
    show updV _ _ _ _ = Value.int (zup h.1 a j.toNatClampNeg (v) a q)
    rw [zup_self]
    by_cases hq : q = j.toNatClampNeg
    · subst hq
      rw [zset_self]
      simp only [updV, if_true]
      all_goals (first | rfl | exact hnr)
    · rw [zset_ne _ _ hq]
      simp [updV, hq]
theorem zs_bast (E : zEnv G p s m args meth c r) {a : Nat} {j v : Int32} (hd : decode r.2.1 (zpc r i) = .ok (.bastore, 1)) (hn : zpc r (i + 1) = zpc r i + 1) (hz : zn h.2.2.2.1 a = true) (hf : aok 3 a j = true) (k : zGo G p l e R s m args below meth c Q r h0 (i + 1) lv st (zup h.1 a j.toNatClampNeg (v.toInt8.toInt32), h.2)) : zGo G p l e R s m args below meth c Q r h0 i lv (.int v :: .int j :: .ref a :: st) h := by
  intro ls H locs cells slots C0
  obtain ⟨hs, hj⟩ := aok_in hf
  have hs0 : shp a ≠ 0 := by omega
  have hat := zrep_at C0.1 hs0 hz
  rw [zE_arr hs (by decide) (by decide)] at hat
  have hnr : narrow (.byte) (.int v) = .int (v.toInt8.toInt32) := by
    first | rfl | (have hq : v = 0 ∨ v = 1 := by simpa [zb] using hb01
                   rcases hq with rfl | rfl <;> rfl)
  refine W.bast E.1 E.2.1 hat ((E.2.2.2.2.2.1.2 2 _ rfl).1 (sln a) (fun j => .int (h.1 a j))) (fun q => by cases q) (by show ¬ (j < 0 ∨ (arrV _ _ _).slots.size ≤ _); rw [arrV_size]; exact hj) rfl rfl hd fun H1 e1 e2 e3 => ?_
  have kk := k ls H1 (locs ++ [⟨zad G a, j.toNatClampNeg⟩]) cells slots ⟨zrep_set C0.1 hs0 e2 e3 rfl (fun id hid => zup_ne _ _ _ hid) (fun _ _ => rfl) (fun _ _ => rfl) ?_, C0.2.1.put e2 e3 (by rw [zad_in (shp_in hs0).2]; have := (shp_in hs0).1; omega), C0.2.2.1, C0.2.2.2.1, by rw [show (zup h.1 a j.toNatClampNeg (v.toInt8.toInt32), h.2).1 998 = h.1 998 from zup_ne _ _ _ (by have := (shp_in hs0).2; omega)]; exact C0.2.2.2.2.1, fun q hq => by rw [show (zup h.1 a j.toNatClampNeg (v.toInt8.toInt32), h.2).1 999 = h.1 999 from zup_ne _ _ _ (by have := (shp_in hs0).2; omega)]; exact C0.2.2.2.2.2.1 q hq, C0.2.2.2.2.2.2.1, C0.2.2.2.2.2.2.2⟩
  · rw [hn] at kk
    exact kk
  · rw [zE_arr hs (by decide) (by decide)]
    show H1[zad G a]? = some (vp_cell _ _)
    rw [e1]
    rw [vp_cell_i, vp_cell_i, arrV_store]
    congr 2
    funext q
    show updV _ _ _ _ = Value.int (zup h.1 a j.toNatClampNeg (v.toInt8.toInt32) a q)
    rw [zup_self]
    by_cases hq : q = j.toNatClampNeg
    · subst hq
      rw [zset_self]
      simp only [updV, if_true]
      all_goals (first | rfl | exact hnr)
    · rw [zset_ne _ _ hq]
      simp [updV, hq]
theorem zs_cast (E : zEnv G p s m args meth c r) {a : Nat} {j v : Int32} (hd : decode r.2.1 (zpc r i) = .ok (.castore, 1)) (hn : zpc r (i + 1) = zpc r i + 1) (hz : zn h.2.2.2.1 a = true) (hf : aok 4 a j = true) (k : zGo G p l e R s m args below meth c Q r h0 (i + 1) lv st (zup h.1 a j.toNatClampNeg ((v.toUInt32 % 65536).toInt32), h.2)) : zGo G p l e R s m args below meth c Q r h0 i lv (.int v :: .int j :: .ref a :: st) h := by
  intro ls H locs cells slots C0
  obtain ⟨hs, hj⟩ := aok_in hf
  have hs0 : shp a ≠ 0 := by omega
  have hat := zrep_at C0.1 hs0 hz
  rw [zE_arr hs (by decide) (by decide)] at hat
  have hnr : narrow (.char) (.int v) = .int ((v.toUInt32 % 65536).toInt32) := by
    first | rfl | (have hq : v = 0 ∨ v = 1 := by simpa [zb] using hb01
                   rcases hq with rfl | rfl <;> rfl)
  refine W.cast E.1 E.2.1 hat ((E.2.2.2.2.2.1.2 3 _ rfl).1 (sln a) (fun j => .int (h.1 a j))) (fun q => by cases q) (by show ¬ (j < 0 ∨ (arrV _ _ _).slots.size ≤ _); rw [arrV_size]; exact hj) rfl rfl hd fun H1 e1 e2 e3 => ?_
  have kk := k ls H1 (locs ++ [⟨zad G a, j.toNatClampNeg⟩]) cells slots ⟨zrep_set C0.1 hs0 e2 e3 rfl (fun id hid => zup_ne _ _ _ hid) (fun _ _ => rfl) (fun _ _ => rfl) ?_, C0.2.1.put e2 e3 (by rw [zad_in (shp_in hs0).2]; have := (shp_in hs0).1; omega), C0.2.2.1, C0.2.2.2.1, by rw [show (zup h.1 a j.toNatClampNeg ((v.toUInt32 % 65536).toInt32), h.2).1 998 = h.1 998 from zup_ne _ _ _ (by have := (shp_in hs0).2; omega)]; exact C0.2.2.2.2.1, fun q hq => by rw [show (zup h.1 a j.toNatClampNeg ((v.toUInt32 % 65536).toInt32), h.2).1 999 = h.1 999 from zup_ne _ _ _ (by have := (shp_in hs0).2; omega)]; exact C0.2.2.2.2.2.1 q hq, C0.2.2.2.2.2.2.1, C0.2.2.2.2.2.2.2⟩
  · rw [hn] at kk
    exact kk
  · rw [zE_arr hs (by decide) (by decide)]
    show H1[zad G a]? = some (vp_cell _ _)
    rw [e1]
    rw [vp_cell_i, vp_cell_i, arrV_store]
    congr 2
    funext q
    show updV _ _ _ _ = Value.int (zup h.1 a j.toNatClampNeg ((v.toUInt32 % 65536).toInt32) a q)
    rw [zup_self]
    by_cases hq : q = j.toNatClampNeg
    · subst hq
      rw [zset_self]
      simp only [updV, if_true]
      all_goals (first | rfl | exact hnr)
    · rw [zset_ne _ _ hq]
      simp [updV, hq]
theorem zs_zast (E : zEnv G p s m args meth c r) {a : Nat} {j v : Int32} (hd : decode r.2.1 (zpc r i) = .ok (.bastore, 1)) (hn : zpc r (i + 1) = zpc r i + 1) (hb01 : zb v = true) (hz : zn h.2.2.2.1 a = true) (hf : aok 5 a j = true) (k : zGo G p l e R s m args below meth c Q r h0 (i + 1) lv st (zup h.1 a j.toNatClampNeg (v), h.2)) : zGo G p l e R s m args below meth c Q r h0 i lv (.int v :: .int j :: .ref a :: st) h := by
  intro ls H locs cells slots C0
  obtain ⟨hs, hj⟩ := aok_in hf
  have hs0 : shp a ≠ 0 := by omega
  have hat := zrep_at C0.1 hs0 hz
  rw [zE_arr hs (by decide) (by decide)] at hat
  have hnr : narrow (.boolean) (.int v) = .int (v) := by
    first | rfl | (have hq : v = 0 ∨ v = 1 := by simpa [zb] using hb01
                   rcases hq with rfl | rfl <;> rfl)
  refine W.zast E.1 E.2.1 hat ((E.2.2.2.2.2.1.2 4 _ rfl).1 (sln a) (fun j => .int (h.1 a j))) (fun q => by cases q) (by show ¬ (j < 0 ∨ (arrV _ _ _).slots.size ≤ _); rw [arrV_size]; exact hj) rfl rfl hd fun H1 e1 e2 e3 => ?_
  have kk := k ls H1 (locs ++ [⟨zad G a, j.toNatClampNeg⟩]) cells slots ⟨zrep_set C0.1 hs0 e2 e3 rfl (fun id hid => zup_ne _ _ _ hid) (fun _ _ => rfl) (fun _ _ => rfl) ?_, C0.2.1.put e2 e3 (by rw [zad_in (shp_in hs0).2]; have := (shp_in hs0).1; omega), C0.2.2.1, C0.2.2.2.1, by rw [show (zup h.1 a j.toNatClampNeg (v), h.2).1 998 = h.1 998 from zup_ne _ _ _ (by have := (shp_in hs0).2; omega)]; exact C0.2.2.2.2.1, fun q hq => by rw [show (zup h.1 a j.toNatClampNeg (v), h.2).1 999 = h.1 999 from zup_ne _ _ _ (by have := (shp_in hs0).2; omega)]; exact C0.2.2.2.2.2.1 q hq, C0.2.2.2.2.2.2.1, C0.2.2.2.2.2.2.2⟩
  · rw [hn] at kk
    exact kk
  · rw [zE_arr hs (by decide) (by decide)]
    show H1[zad G a]? = some (vp_cell _ _)
    rw [e1]
    rw [vp_cell_i, vp_cell_i, arrV_store]
    congr 2
    funext q
    show updV _ _ _ _ = Value.int (zup h.1 a j.toNatClampNeg (v) a q)
    rw [zup_self]
    by_cases hq : q = j.toNatClampNeg
    · subst hq
      rw [zset_self]
      simp only [updV, if_true]
      all_goals (first | rfl | exact hnr)
    · rw [zset_ne _ _ hq]
      simp [updV, hq]
theorem zs_last (E : zEnv G p s m args meth c r) {a : Nat} {j : Int32} {v : Int64} (hd : decode r.2.1 (zpc r i) = .ok (.lastore, 1)) (hn : zpc r (i + 1) = zpc r i + 1) (hz : zn h.2.2.2.1 a = true) (hf : aok 2 a j = true) (k : zGo G p l e R s m args below meth c Q r h0 (i + 1) lv st (h.1, zup h.2.1 a j.toNatClampNeg v, h.2.2)) : zGo G p l e R s m args below meth c Q r h0 i lv (.long v :: .int j :: .ref a :: st) h := by
  intro ls H locs cells slots C0
  obtain ⟨hs, hj⟩ := aok_in hf
  have hs0 : shp a ≠ 0 := by omega
  have hat := zrep_at C0.1 hs0 hz
  rw [zE_long hs] at hat
  refine W.last E.1 E.2.1 hat ((E.2.2.2.2.2.1.2 1 _ rfl).1 (sln a) (fun j => .long (h.2.1 a j))) (fun q => by cases q) (by show ¬ (j < 0 ∨ (arrV _ _ _).slots.size ≤ _); rw [arrV_size]; exact hj) rfl rfl hd fun H1 e1 e2 e3 => ?_
  have kk := k ls H1 (locs ++ [⟨zad G a, j.toNatClampNeg⟩]) cells slots ⟨zrep_set C0.1 hs0 e2 e3 rfl (fun _ _ => rfl) (fun id hid => zup_ne _ _ _ hid) (fun _ _ => rfl) ?_, C0.2.1.put e2 e3 (by rw [zad_in (shp_in hs0).2]; have := (shp_in hs0).1; omega), C0.2.2.1, C0.2.2.2.1, C0.2.2.2.2.1, C0.2.2.2.2.2.1, C0.2.2.2.2.2.2.1, C0.2.2.2.2.2.2.2⟩
  · rw [hn] at kk
    exact kk
  · rw [zE_long hs]
    show H1[zad G a]? = some (vp_cell _ _)
    rw [e1]
    rw [vp_cell_l, vp_cell_l, arrV_store]
    congr 2
    funext q
    show updV _ _ _ _ = Value.long (zup h.2.1 a j.toNatClampNeg v a q)
    rw [zup_self]
    by_cases hq : q = j.toNatClampNeg
    · subst hq
      rw [zset_self]
      simp [updV]
    · rw [zset_ne _ _ hq]
      simp [updV, hq]
end ZST
