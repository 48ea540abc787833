section
variable {I : Nat → Nat → Int32} {L : Nat → Nat → Int64} {ru dr : Nat} {sr : Nat → Option Nat} {rd : Option Nat} {rl x : Nat}

/-! ===== how many bits ===== -/
def pc (n : Nat) : Nat := fb_ct (fun i => n.testBit i) 16
def pq (n : Nat) : Nat := Nat.add (Nat.add (Nat.add (Nat.add (Nat.add (Nat.add (Nat.add (Nat.add (Nat.add (Nat.add (Nat.add (Nat.add (Nat.add (Nat.add (Nat.add (Nat.mod n 2) (Nat.mod (Nat.div n 2) 2)) (Nat.mod (Nat.div n 4) 2)) (Nat.mod (Nat.div n 8) 2)) (Nat.mod (Nat.div n 16) 2)) (Nat.mod (Nat.div n 32) 2)) (Nat.mod (Nat.div n 64) 2)) (Nat.mod (Nat.div n 128) 2)) (Nat.mod (Nat.div n 256) 2)) (Nat.mod (Nat.div n 512) 2)) (Nat.mod (Nat.div n 1024) 2)) (Nat.mod (Nat.div n 2048) 2)) (Nat.mod (Nat.div n 4096) 2)) (Nat.mod (Nat.div n 8192) 2)) (Nat.mod (Nat.div n 16384) 2)) (Nat.mod (Nat.div n 32768) 2)
def bc1 (n : Nat) : Nat := Nat.sub n (Nat.land (Nat.shiftRight n 1) 1431655765)
def bc2 (n : Nat) : Nat := Nat.add (Nat.land (bc1 n) 858993459) (Nat.land (Nat.shiftRight (bc1 n) 2) 858993459)
def bc3 (n : Nat) : Nat := Nat.land (Nat.add (bc2 n) (Nat.shiftRight (bc2 n) 4)) 252645135
def bc4 (n : Nat) : Nat := Nat.add (bc3 n) (Nat.shiftRight (bc3 n) 8)
def bc5 (n : Nat) : Nat := Nat.land (Nat.add (bc4 n) (Nat.shiftRight (bc4 n) 16)) 63
def zand (a b : Bool) : Bool := match a with
  | true => b
  | false => false
theorem zand_t {a b : Bool} (h : zand a b = true) : a = true ∧ b = true := by cases a <;> simp_all [zand]
def bck (n : Nat) : Bool := zand (Nat.ble (Nat.land (Nat.shiftRight n 1) 1431655765) n) (zand (Nat.ble (bc1 n) 65535) (zand (Nat.ble (bc2 n) 65535) (zand (Nat.ble (bc3 n) 65535) (zand (Nat.ble (bc4 n) 65535) (Nat.beq (bc5 n) (pq n))))))
theorem pq_eq (n : Nat) : pq n = pc n := by
  unfold pq pc
  simp only [fb_ct, Nat.testBit_eq_decide_div_mod_eq, decide_eq_true_eq]
  have e : ∀ m : Nat, (if m % 2 = 1 then 1 else 0) = m % 2 := fun m => by split <;> omega
  simp only [e]
  simp only [Nat.pow_zero, Nat.div_one, Nat.zero_add]
  rfl
def bcl (p : Nat → Bool) : Nat → Bool
  | 0 => true
  | n + 1 => zand (p n) (bcl p n)
theorem bcl_at {p : Nat → Bool} : ∀ {n : Nat}, bcl p n = true → ∀ k, k < n → p k = true
  | n + 1, h, k, hk => by
    rw [bcl] at h
    have h := zand_t h
    rcases Nat.lt_or_ge k n with q | q
    · exact bcl_at h.2 k q
    · rw [show k = n by omega]; exact h.1
theorem bck_0 : bcl (fun a => bcl (fun b => bck (Nat.add (Nat.mul 256 (Nat.add 0 a)) b)) 256) 32 = true := by decide +kernel
theorem bck_1 : bcl (fun a => bcl (fun b => bck (Nat.add (Nat.mul 256 (Nat.add 32 a)) b)) 256) 32 = true := by decide +kernel
theorem bck_2 : bcl (fun a => bcl (fun b => bck (Nat.add (Nat.mul 256 (Nat.add 64 a)) b)) 256) 32 = true := by decide +kernel
theorem bck_3 : bcl (fun a => bcl (fun b => bck (Nat.add (Nat.mul 256 (Nat.add 96 a)) b)) 256) 32 = true := by decide +kernel
theorem bck_4 : bcl (fun a => bcl (fun b => bck (Nat.add (Nat.mul 256 (Nat.add 128 a)) b)) 256) 32 = true := by decide +kernel
theorem bck_5 : bcl (fun a => bcl (fun b => bck (Nat.add (Nat.mul 256 (Nat.add 160 a)) b)) 256) 32 = true := by decide +kernel
theorem bck_6 : bcl (fun a => bcl (fun b => bck (Nat.add (Nat.mul 256 (Nat.add 192 a)) b)) 256) 32 = true := by decide +kernel
theorem bck_7 : bcl (fun a => bcl (fun b => bck (Nat.add (Nat.mul 256 (Nat.add 224 a)) b)) 256) 32 = true := by decide +kernel
theorem bck_at {n : Nat} (h : n < 65536) : bck n = true := by
  have key : ∀ i, i < 8 → bcl (fun a => bcl (fun b => bck (256 * (32 * i + a) + b)) 256) 32 = true := by
    intro i hi
    match i, hi with
    | 0, _ => exact bck_0
    | 1, _ => exact bck_1
    | 2, _ => exact bck_2
    | 3, _ => exact bck_3
    | 4, _ => exact bck_4
    | 5, _ => exact bck_5
    | 6, _ => exact bck_6
    | 7, _ => exact bck_7
  have h1 := bcl_at (bcl_at (key (n / 8192) (by omega)) (n / 256 % 32) (by omega)) (n % 256) (by omega)
  rw [show 256 * (32 * (n / 8192) + n / 256 % 32) + n % 256 = n by omega] at h1
  exact h1
theorem s296 {d n : Nat} (hn : n < 65536) : cal d 296 [.int (nI n)] (I, L, rR ru dr sr rd rl, 65, x) = some (some (.int (nI (pc n))), (I, L, rR ru dr sr rd rl, 65, x)) := by
  have h := bck_at hn
  unfold bck at h
  obtain ⟨h1, h⟩ := zand_t h
  obtain ⟨h2, h⟩ := zand_t h
  obtain ⟨h3, h⟩ := zand_t h
  obtain ⟨h4, h⟩ := zand_t h
  obtain ⟨h5, h6⟩ := zand_t h
  have h1 : n >>> 1 &&& 1431655765 ≤ n := Nat.le_of_ble_eq_true h1
  have h2 : bc1 n < 65536 := Nat.lt_succ_of_le (Nat.le_of_ble_eq_true h2)
  have h3 : bc2 n < 65536 := Nat.lt_succ_of_le (Nat.le_of_ble_eq_true h3)
  have h4 : bc3 n < 65536 := Nat.lt_succ_of_le (Nat.le_of_ble_eq_true h4)
  have h5 : bc4 n < 65536 := Nat.lt_succ_of_le (Nat.le_of_ble_eq_true h5)
  have h6 := (Nat.eq_of_beq_eq_true h6).trans (pq_eq n)
  rw [k296, nx_ush hn (by decide), nx_and, zsub h1]
  show some (some (Value.int ((((((nI (bc1 n) &&& nI 858993459) + (((nI (bc1 n)).toUInt32 >>> ((nI 2).toUInt32 &&& Int32.toUInt32 31)).toInt32 &&& nI 858993459) + (((nI (bc1 n) &&& nI 858993459) + (((nI (bc1 n)).toUInt32 >>> ((nI 2).toUInt32 &&& Int32.toUInt32 31)).toInt32 &&& nI 858993459)).toUInt32 >>> ((nI 4).toUInt32 &&& Int32.toUInt32 31)).toInt32) &&& nI 252645135) + ((((nI (bc1 n) &&& nI 858993459) + (((nI (bc1 n)).toUInt32 >>> ((nI 2).toUInt32 &&& Int32.toUInt32 31)).toInt32 &&& nI 858993459) + (((nI (bc1 n) &&& nI 858993459) + (((nI (bc1 n)).toUInt32 >>> ((nI 2).toUInt32 &&& Int32.toUInt32 31)).toInt32 &&& nI 858993459)).toUInt32 >>> ((nI 4).toUInt32 &&& Int32.toUInt32 31)).toInt32) &&& nI 252645135).toUInt32 >>> ((nI 8).toUInt32 &&& Int32.toUInt32 31)).toInt32) + (((((nI (bc1 n) &&& nI 858993459) + (((nI (bc1 n)).toUInt32 >>> ((nI 2).toUInt32 &&& Int32.toUInt32 31)).toInt32 &&& nI 858993459) + (((nI (bc1 n) &&& nI 858993459) + (((nI (bc1 n)).toUInt32 >>> ((nI 2).toUInt32 &&& Int32.toUInt32 31)).toInt32 &&& nI 858993459)).toUInt32 >>> ((nI 4).toUInt32 &&& Int32.toUInt32 31)).toInt32) &&& nI 252645135) + ((((nI (bc1 n) &&& nI 858993459) + (((nI (bc1 n)).toUInt32 >>> ((nI 2).toUInt32 &&& Int32.toUInt32 31)).toInt32 &&& nI 858993459) + (((nI (bc1 n) &&& nI 858993459) + (((nI (bc1 n)).toUInt32 >>> ((nI 2).toUInt32 &&& Int32.toUInt32 31)).toInt32 &&& nI 858993459)).toUInt32 >>> ((nI 4).toUInt32 &&& Int32.toUInt32 31)).toInt32) &&& nI 252645135).toUInt32 >>> ((nI 8).toUInt32 &&& Int32.toUInt32 31)).toInt32).toUInt32 >>> ((nI 16).toUInt32 &&& Int32.toUInt32 31)).toInt32) &&& nI 63)), _) = _
  rw [nx_ush h2 (by decide), nx_and, nx_and, nI_add]
  rw [show (bc1 n &&& 858993459) + (bc1 n >>> 2 &&& 858993459) = bc2 n from rfl, nx_ush h3 (by decide), nI_add, nx_and, show bc2 n + bc2 n >>> 4 &&& 252645135 = bc3 n from rfl, nx_ush h4 (by decide), nI_add, show bc3 n + bc3 n >>> 8 = bc4 n from rfl, nx_ush h5 (by decide), nI_add, nx_and, show bc4 n + bc4 n >>> 16 &&& 63 = bc5 n from rfl, h6]
theorem pc_le (n : Nat) : pc n ≤ 16 := fb_ct_le _ 16
theorem pc_or {a b : Nat} (h : a &&& b = 0) : pc (a ||| b) = pc a + pc b := by
  unfold pc
  rw [← fb_ct_or (fun k _ q => ?_)]
  · exact fb_ct_cong fun k _ => Nat.testBit_or a b k
  · have := congrArg (fun y => y.testBit k) h
    simp only [Nat.testBit_and, q.1, q.2, Nat.zero_testBit] at this
    exact absurd this (by decide)
theorem pc_sub {a b : Nat} (h : ∀ i, a.testBit i = true → b.testBit i = true) : pc a ≤ pc b := fb_ct_sub fun k _ => h k
theorem pc_0 : pc 0 = 0 := by decide

end
