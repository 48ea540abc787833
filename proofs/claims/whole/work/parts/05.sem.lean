def codeOf (m : Nat) : List Instr := match nth zall m with
  | some r => r.2.2.2.2.2.1
  | none => []
def maxOf (m : Nat) : Nat := match nth zall m with
  | some r => r.2.2.1
  | none => 0
def gb (F : Nat → Nat → Nat → List Value → List Value → zH → Option zO) (d m : Nat) (args : List Value) (h : zH) : Option zO := match znd args && Nat.ble (zslots args).length (maxOf m) with
  | true => F d m 0 (zent (maxOf m) args) [] h
  | false => none
def gg (F : Nat → Nat → Nat → List Value → List Value → zH → Option zO) (d : Nat) : Bool → Nat → List Value → zH → Option zO
  | false => fun m args h => gb F d m args h
  | true => fun m args h => match d with
    | 0 => none
    | d' + 1 => gb F d' m args h
def ex : Nat → Nat → Nat → Nat → List Value → List Value → zH → Option zO
  | 0 => fun _ _ _ _ _ _ => none
  | n + 1 => fun d m i lv st h => match nth (codeOf m) i with
    | none => none
    | some op => stp (gg (ex n) d) (ex n d m) op i lv st h
theorem bI_some {c : Option zO} {f : Int32 → zH → Option zO} {o : zO} (h : bI c f = some o) : ∃ v h1, c = some (some (.int v), h1) ∧ f v h1 = some o := by
  unfold bI at h
  split at h
  · exact ⟨_, _, rfl, h⟩
  · cases h
theorem bL_some {c : Option zO} {f : Int64 → zH → Option zO} {o : zO} (h : bL c f = some o) : ∃ v h1, c = some (some (.long v), h1) ∧ f v h1 = some o := by
  unfold bL at h
  split at h
  · exact ⟨_, _, rfl, h⟩
  · cases h
theorem bV_some {c : Option zO} {f : zH → Option zO} {o : zO} (h : bV c f = some o) : ∃ h1, c = some (none, h1) ∧ f h1 = some o := by
  unfold bV at h
  split at h
  · exact ⟨_, rfl, h⟩
  · cases h
theorem bT_some {c : Option zO} {t : zH → Option zO} {f : Value → zH → Option zO} {o : zO} (h : bT c t f = some o) : (∃ k h1, c = some (some (.retAddr k), h1) ∧ t h1 = some o) ∨ (∃ v h1, c = some (some (.int v), h1) ∧ f (.int v) h1 = some o) ∨ (∃ v h1, c = some (some (.long v), h1) ∧ f (.long v) h1 = some o) := by
  unfold bT at h
  split at h
  · exact Or.inl ⟨_, _, rfl, h⟩
  · exact Or.inr (Or.inl ⟨_, _, rfl, h⟩)
  · exact Or.inr (Or.inr ⟨_, _, rfl, h⟩)
  · cases h
/-- what a step's answer rests on: nothing, one going on, or a call and one going on -/
def Use (g : Bool → Nat → List Value → zH → Option zO) (f : Nat → List Value → List Value → zH → Option zO) (S : (Bool → Nat → List Value → zH → Option zO) → (Nat → List Value → List Value → zH → Option zO) → Option zO) (o : zO) : Prop :=
  (∀ g' f', S g' f' = some o) ∨ (∃ i lv st h, f i lv st h = some o ∧ ∀ g' f', f' i lv st h = some o → S g' f' = some o) ∨
  (∃ b m a h o1 i lv st h1, g b m a h = some o1 ∧ f i lv st h1 = some o ∧ ∀ g' f', g' b m a h = some o1 → f' i lv st h1 = some o → S g' f' = some o)
theorem use_f {g f S o} {i : Nat} {lv st : List Value} {h : zH} (e : ∀ g' f', S g' f' = f' i lv st h) (hs : S g f = some o) : Use g f S o := Or.inr (Or.inl ⟨i, lv, st, h, by rw [← e g f]; exact hs, fun g' f' q => by rw [e]; exact q⟩)
theorem use_n {g f S o} (e : ∀ g' f', S g' f' = none) (hs : S g f = some o) : Use g f S o := by rw [e] at hs; cases hs
theorem use_o {g f S o} {x : Option zO} (e : ∀ g' f', S g' f' = x) (hs : S g f = some o) : Use g f S o := Or.inl fun g' f' => by rw [e, ← e g f]; exact hs
theorem use_I {g f S o} {b m a h i lv} {st : Int32 → List Value} (e : ∀ g' f', S g' f' = bI (g' b m a h) (fun v h' => f' i lv (st v) h')) (hs : S g f = some o) : Use g f S o := by
  rw [e] at hs
  obtain ⟨v, h1, q1, q2⟩ := bI_some hs
  exact Or.inr (Or.inr ⟨b, m, a, h, _, i, lv, st v, h1, q1, q2, fun g' f' q3 q4 => by rw [e, q3]; exact q4⟩)
theorem use_L {g f S o} {b m a h i lv} {st : Int64 → List Value} (e : ∀ g' f', S g' f' = bL (g' b m a h) (fun v h' => f' i lv (st v) h')) (hs : S g f = some o) : Use g f S o := by
  rw [e] at hs
  obtain ⟨v, h1, q1, q2⟩ := bL_some hs
  exact Or.inr (Or.inr ⟨b, m, a, h, _, i, lv, st v, h1, q1, q2, fun g' f' q3 q4 => by rw [e, q3]; exact q4⟩)
theorem use_V {g f S o} {b m a h i lv} {st : List Value} (e : ∀ g' f', S g' f' = bV (g' b m a h) (fun h' => f' i lv st h')) (hs : S g f = some o) : Use g f S o := by
  rw [e] at hs
  obtain ⟨h1, q1, q2⟩ := bV_some hs
  exact Or.inr (Or.inr ⟨b, m, a, h, _, i, lv, st, h1, q1, q2, fun g' f' q3 q4 => by rw [e, q3]; exact q4⟩)
theorem use_T {g f S o} {b m a h i j lv lw} {st : List Value} (e : ∀ g' f', S g' f' = bT (g' b m a h) (fun h' => f' j lw [] h') (fun v h' => f' i lv (v :: st) h')) (hs : S g f = some o) : Use g f S o := by
  rw [e] at hs
  rcases bT_some hs with ⟨k, h1, q1, q2⟩ | ⟨v, h1, q1, q2⟩ | ⟨v, h1, q1, q2⟩
  · exact Or.inr (Or.inr ⟨b, m, a, h, _, j, lw, _, h1, q1, q2, fun g' f' q3 q4 => by rw [e, q3]; exact q4⟩)
  · exact Or.inr (Or.inr ⟨b, m, a, h, _, i, lv, _, h1, q1, q2, fun g' f' q3 q4 => by rw [e, q3]; exact q4⟩)
  · exact Or.inr (Or.inr ⟨b, m, a, h, _, i, lv, _, h1, q1, q2, fun g' f' q3 q4 => by rw [e, q3]; exact q4⟩)
theorem use_sw {g : Bool → Nat → List Value → zH → Option zO} {f : Nat → List Value → List Value → zH → Option zO} {o} {lv r h x d} : ∀ (ts : List Int) (lo : Int), zsw (fun t => f t lv r h) x lo ts d = some o → Use g f (fun _ f' => zsw (fun t => f' t lv r h) x lo ts d) o
  | [], lo, hs => use_f (fun _ _ => rfl) hs
  | t :: ts, lo, hs => by
    unfold zsw at hs ⊢
    by_cases c : x = kI lo
    · simp only [if_pos c] at hs ⊢
      exact use_f (fun _ _ => rfl) hs
    · simp only [if_neg c] at hs ⊢
      exact use_sw ts (lo + 1) hs
theorem use_lk {g : Bool → Nat → List Value → zH → Option zO} {f : Nat → List Value → List Value → zH → Option zO} {o} {lv r h x d} : ∀ (ts : List (Int × Int)), zlk (fun t => f t lv r h) x ts d = some o → Use g f (fun _ f' => zlk (fun t => f' t lv r h) x ts d) o
  | [], hs => use_f (fun _ _ => rfl) hs
  | (m, t) :: ts, hs => by
    unfold zlk at hs ⊢
    by_cases c : x = kI m
    · simp only [if_pos c] at hs ⊢
      exact use_f (fun _ _ => rfl) hs
    · simp only [if_neg c] at hs ⊢
      exact use_lk ts hs
set_option maxHeartbeats 4000000 in
theorem stp_use (g : Bool → Nat → List Value → zH → Option zO) (f : Nat → List Value → List Value → zH → Option zO) (op : Instr) (i : Nat) (lv st : List Value) (h : zH) (o : zO) (hs : stp g f op i lv st h = some o) : Use g f (fun g f => stp g f op i lv st h) o := by
  unfold stp at hs ⊢
  split at hs
  all_goals (try dsimp only)
  all_goals (try (split at hs))
  all_goals (try (split at hs))
  all_goals (try (split at hs))
  all_goals (try (split at hs))
  all_goals (try (split at hs))
  all_goals (try (cases hs; done))
  all_goals (first | exact use_f (fun _ _ => rfl) hs | exact use_n (fun _ _ => rfl) hs | exact use_o (fun _ _ => rfl) hs | exact use_sw _ _ hs | exact use_lk _ hs | exact use_I (fun _ _ => rfl) hs | exact use_L (fun _ _ => rfl) hs | exact use_V (fun _ _ => rfl) hs | exact use_T (fun _ _ => rfl) hs | skip)
  all_goals (try simp only [*, if_true, if_false, ite_true, ite_false])
  all_goals (first | exact Or.inl (fun _ _ => rfl) | exact use_f (fun _ _ => rfl) hs | exact use_n (fun _ _ => rfl) hs | exact use_o (fun _ _ => rfl) hs | exact use_sw _ _ hs | exact use_lk _ hs | exact use_I (fun _ _ => rfl) hs | exact use_L (fun _ _ => rfl) hs | exact use_V (fun _ _ => rfl) hs | exact use_T (fun _ _ => rfl) hs | exact Or.inl (fun _ _ => rfl))
theorem stp_mono {g g' : Bool → Nat → List Value → zH → Option zO} {f f' : Nat → List Value → List Value → zH → Option zO} (hg : ∀ b m a h o, g b m a h = some o → g' b m a h = some o) (hf : ∀ i lv st h o, f i lv st h = some o → f' i lv st h = some o) {op : Instr} {i : Nat} {lv st : List Value} {h : zH} {o : zO} (hs : stp g f op i lv st h = some o) : stp g' f' op i lv st h = some o := by
  rcases stp_use g f op i lv st h o hs with q | ⟨i, lv, st, h, q1, q2⟩ | ⟨b, m, a, h, o1, i, lv, st, h1, q1, q2, q3⟩
  · exact q g' f'
  · exact q2 g' f' (hf _ _ _ _ _ q1)
  · exact q3 g' f' (hg _ _ _ _ _ q1) (hf _ _ _ _ _ q2)
theorem gb_some {F : Nat → Nat → Nat → List Value → List Value → zH → Option zO} {d m : Nat} {a : List Value} {h : zH} {o : zO} (q : gb F d m a h = some o) : (znd a && Nat.ble (zslots a).length (maxOf m)) = true ∧ F d m 0 (zent (maxOf m) a) [] h = some o := by
  unfold gb at q
  split at q
  · rename_i hc
    exact ⟨hc, q⟩
  · cases q
theorem gb_of {F : Nat → Nat → Nat → List Value → List Value → zH → Option zO} {d m : Nat} {a : List Value} {h : zH} {o : zO} (hc : (znd a && Nat.ble (zslots a).length (maxOf m)) = true) (q : F d m 0 (zent (maxOf m) a) [] h = some o) : gb F d m a h = some o := by
  unfold gb
  rw [hc]
  exact q
theorem gg_mono {F F' : Nat → Nat → Nat → List Value → List Value → zH → Option zO} (hF : ∀ d m i lv st h o, F d m i lv st h = some o → F' d m i lv st h = some o) (d : Nat) : ∀ b m a h o, gg F d b m a h = some o → gg F' d b m a h = some o := by
  intro b m a h o q
  cases b with
  | false => exact gb_of (gb_some q).1 (hF _ _ _ _ _ _ _ (gb_some q).2)
  | true => cases d with
    | zero => cases q
    | succ d => exact gb_of (F := F') (d := d) (gb_some (F := F) (d := d) q).1 (hF _ _ _ _ _ _ _ (gb_some (F := F) (d := d) q).2)
theorem ex_mono : ∀ n d m i lv st h o, ex n d m i lv st h = some o → ex (n + 1) d m i lv st h = some o
  | 0, _, _, _, _, _, _, _, q => by cases q
  | n + 1, d, m, i, lv, st, h, o, q => by
    unfold ex at q ⊢
    cases hop : nth (codeOf m) i with
    | none => rw [hop] at q; cases q
    | some op =>
      rw [hop] at q
      exact stp_mono (gg_mono (ex_mono n) d) (fun i lv st h o => ex_mono n d m i lv st h o) q
theorem ex_le {n k d m i lv st h o} (q : ex n d m i lv st h = some o) (hk : n ≤ k) : ex k d m i lv st h = some o := by
  obtain ⟨j, rfl⟩ := Nat.le.dest hk
  induction j with
  | zero => exact q
  | succ j ih => exact ex_mono _ _ _ _ _ _ _ _ (ih (Nat.le_add_right _ _))
noncomputable def res (d m i : Nat) (lv st : List Value) (h : zH) : Option zO := @dite _ (∃ o, ∃ n, ex n d m i lv st h = some o) (Classical.propDecidable _) (fun q => some (Classical.choose q)) (fun _ => none)
theorem res_iff {d m i lv st h o} : res d m i lv st h = some o ↔ ∃ n, ex n d m i lv st h = some o := by
  unfold res
  constructor
  · intro q
    split at q
    · rename_i hq
      have hc := Classical.choose_spec hq
      rw [Option.some.inj q] at hc
      exact hc
    · cases q
  · rintro ⟨n, hn⟩
    have hq : ∃ o, ∃ n, ex n d m i lv st h = some o := ⟨o, n, hn⟩
    rw [dif_pos hq]
    obtain ⟨k, hk⟩ := Classical.choose_spec hq
    have h1 := ex_le hn (Nat.le_max_left n k)
    have h2 := ex_le hk (Nat.le_max_right n k)
    rw [h1] at h2
    exact h2.symm
theorem gg_res {d b m a h o} (q : gg res d b m a h = some o) : ∃ n, gg (ex n) d b m a h = some o := by
  cases b with
  | false =>
    obtain ⟨n, hn⟩ := res_iff.mp (gb_some q).2
    exact ⟨n, gb_of (gb_some q).1 hn⟩
  | true => cases d with
    | zero => cases q
    | succ d =>
      obtain ⟨n, hn⟩ := res_iff.mp (gb_some (F := res) (d := d) q).2
      exact ⟨n, gb_of (F := ex n) (d := d) (gb_some (F := res) (d := d) q).1 hn⟩
theorem res_fix {d m i lv st h op} (hop : nth (codeOf m) i = some op) : res d m i lv st h = stp (gg res d) (res d m) op i lv st h := by
  apply Option.ext
  intro o
  constructor
  · intro q
    obtain ⟨n, hn⟩ := res_iff.mp q
    cases n with
    | zero => cases hn
    | succ n =>
      unfold ex at hn
      rw [hop] at hn
      exact stp_mono (gg_mono (fun d m i lv st h o q => res_iff.mpr ⟨n, q⟩) d) (fun i lv st h o q => res_iff.mpr ⟨n, q⟩) hn
  · intro q
    have key : ∀ n, stp (gg (ex n) d) (ex n d m) op i lv st h = some o → res d m i lv st h = some o := fun n hn => res_iff.mpr ⟨n + 1, by unfold ex; rw [hop]; exact hn⟩
    rcases stp_use _ _ op i lv st h o q with q | ⟨i, lv, st, h, q1, q2⟩ | ⟨b, m1, a, h, o1, i, lv, st, h1, q1, q2, q3⟩
    · exact key 0 (q _ _)
    · obtain ⟨n, hn⟩ := res_iff.mp q1
      exact key n (q2 _ _ hn)
    · obtain ⟨n, hn⟩ := res_iff.mp q2
      obtain ⟨k, hk⟩ := gg_res q1
      have h1 := ex_le hn (Nat.le_max_left n k)
      have h2 : gg (ex (max n k)) d b m1 a h = some o1 := gg_mono (F := ex k) (fun d m i lv st h o q => ex_le q (Nat.le_max_right n k)) d _ _ _ _ _ hk
      exact key _ (q3 _ _ h2 h1)
noncomputable def cal (d m : Nat) (args : List Value) (h : zH) : Option zO := gb res d m args h
def zin : Nat → List Nat → Bool
  | _, [] => false
  | a, b :: l => match Nat.beq a b with
    | true => true
    | false => zin a l
noncomputable def rt (code : List Instr) (cut : List Nat) (d m : Nat) : Nat → Nat → List Value → List Value → zH → Option zO
  | 0 => fun i lv st h => res d m i lv st h
  | k + 1 => fun i lv st h => match nth code i with
    | none => none
    | some op => stp (gg res d) (fun i lv st h => match zin i cut with
      | true => res d m i lv st h
      | false => rt code cut d m k i lv st h) op i lv st h
theorem res_none {d m i lv st h} (hop : nth (codeOf m) i = none) : res d m i lv st h = none := by
  cases hr : res d m i lv st h with
  | none => rfl
  | some o =>
    obtain ⟨n, hn⟩ := res_iff.mp hr
    cases n with
    | zero => cases hn
    | succ n =>
      unfold ex at hn
      rw [hop] at hn
      cases hn
theorem rt_eq {code : List Instr} {cut : List Nat} {d m : Nat} (hc : codeOf m = code) : ∀ k i lv st h, rt code cut d m k i lv st h = res d m i lv st h
  | 0, _, _, _, _ => rfl
  | k + 1, i, lv, st, h => by
    unfold rt
    cases hop : nth code i with
    | none => exact (res_none (by rw [hc]; exact hop)).symm
    | some op =>
      rw [res_fix (by rw [hc]; exact hop)]
      dsimp only
      have e : (fun i lv st h => match zin i cut with
        | true => res d m i lv st h
        | false => rt code cut d m k i lv st h) = res d m := by
        funext i lv st h
        cases zin i cut with
        | true => rfl
        | false => exact rt_eq hc k i lv st h
      rw [e]
theorem rt_go {code : List Instr} (cut : List Nat) {d m : Nat} (hc : codeOf m = code) (k : Nat) {i : Nat} {lv st : List Value} {h : zH} {X : Option zO} (e : rt code cut d m k i lv st h = X) : res d m i lv st h = X := (rt_eq hc k i lv st h).symm.trans e
