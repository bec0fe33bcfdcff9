def bt (x : Int32) (i : Nat) : Bool := x.toBitVec.getLsbD i
theorem b_ext {x y : Int32} (h : ∀ i, i < 32 → bt x i = bt y i) : x = y := Int32.toBitVec_inj.mp (BitVec.eq_of_getLsbD_eq (fun i hi => h i hi))
theorem b_or (x y : Int32) (i : Nat) : bt (x ||| y) i = (bt x i || bt y i) := by unfold bt; rw [Int32.toBitVec_or, BitVec.getLsbD_or]
theorem b_and (x y : Int32) (i : Nat) : bt (x &&& y) i = (bt x i && bt y i) := by unfold bt; rw [Int32.toBitVec_and, BitVec.getLsbD_and]
theorem b_xor (x y : Int32) (i : Nat) : bt (x ^^^ y) i = (bt x i ^^ bt y i) := by unfold bt; rw [Int32.toBitVec_xor, BitVec.getLsbD_xor]
theorem b_big {x : Int32} {i : Nat} (h : 32 ≤ i) : bt x i = false := BitVec.getLsbD_of_ge _ _ h
theorem b_255 (i : Nat) : bt 255 i = decide (i < 8) := by
  rcases Nat.lt_or_ge i 32 with h | h
  · exact (by decide +kernel : ∀ i, i < 32 → bt 255 i = decide (i < 8)) i h
  · rw [b_big h, decide_eq_false (by omega)]
theorem b_65535 (i : Nat) : bt 65535 i = decide (i < 16) := by
  rcases Nat.lt_or_ge i 32 with h | h
  · exact (by decide +kernel : ∀ i, i < 32 → bt 65535 i = decide (i < 16)) i h
  · rw [b_big h, decide_eq_false (by omega)]
theorem b_m1 : ∀ i, i < 32 → bt (-1) i = true := by decide +kernel
theorem b_0 (i : Nat) : bt 0 i = false := BitVec.getLsbD_zero
theorem s_l : ∀ n, n < 32 → ((nI n &&& 31).toBitVec.smod 32).toNat = n := by decide +kernel
theorem s_u : ∀ n, n < 32 → (((nI n).toUInt32 &&& Int32.toUInt32 31).toBitVec % 32).toNat = n := by decide +kernel
theorem b_shl (n : Nat) (hn : n < 32) (x : Int32) {i : Nat} (hi : i < 32) : bt (x <<< (nI n &&& 31)) i = (decide (n ≤ i) && bt x (i - n)) := by
  unfold bt
  rw [Int32.toBitVec_shiftLeft]
  show (x.toBitVec <<< ((nI n &&& 31).toBitVec.smod 32).toNat).getLsbD i = _
  rw [s_l n hn, BitVec.getLsbD_shiftLeft]
  rcases Nat.lt_or_ge i n with h | h
  · simp [h, Nat.not_le.mpr h]
  · simp [hi, h, Nat.not_lt.mpr h]
theorem b_ushr (n : Nat) (hn : n < 32) (x : Int32) (i : Nat) : bt ((x.toUInt32 >>> ((nI n).toUInt32 &&& Int32.toUInt32 31)).toInt32) i = bt x (n + i) := by
  show (x.toUInt32 >>> ((nI n).toUInt32 &&& Int32.toUInt32 31)).toBitVec.getLsbD i = x.toUInt32.toBitVec.getLsbD (n + i)
  rw [UInt32.toBitVec_shiftRight]
  show (x.toUInt32.toBitVec >>> (((nI n).toUInt32 &&& Int32.toUInt32 31).toBitVec % 32).toNat).getLsbD i = _
  rw [s_u n hn, BitVec.getLsbD_ushiftRight]
theorem b_sshr (n : Nat) (hn : n < 32) (x : Int32) {i : Nat} (hi : i < 32) : bt (x >>> (nI n &&& 31)) i = if n + i < 32 then bt x (n + i) else bt x 31 := by
  unfold bt
  rw [Int32.toBitVec_shiftRight]
  show (x.toBitVec.sshiftRight ((nI n &&& 31).toBitVec.smod 32).toNat).getLsbD i = _
  rw [s_l n hn, BitVec.getLsbD_sshiftRight, BitVec.msb_eq_getLsbD_last]
  simp [hi]
theorem b_one {e : Nat} (he : e < 32) (i : Nat) (hi : i < 32) : bt ((1 : Int32) <<< (nI e &&& 31)) i = decide (i = e) := by
  rw [b_shl e he 1 hi]
  have h1 : ∀ j, j < 32 → bt 1 j = decide (j = 0) := by decide +kernel
  by_cases h : e ≤ i
  · rw [h1 (i - e) (by omega)]
    by_cases h2 : i = e
    · subst h2; simp
    · have h3 : ¬ (i - e = 0) := by omega
      simp [h2, h3]
  · have h2 : ¬ i = e := by omega
    simp [h, h2]
theorem b_test {x : Int32} {e : Nat} (he : e < 32) : ((x &&& ((1 : Int32) <<< (nI e &&& 31))) = 0) ↔ bt x e = false := by
  constructor
  · intro h
    have h1 := congrArg (fun q => bt q e) h
    simp only [b_and, b_one he e he, b_0, decide_true, Bool.and_true] at h1
    exact h1
  · intro h
    apply b_ext
    intro i hi
    rw [b_and, b_one he i hi, b_0]
    by_cases h2 : i = e
    · subst h2; rw [h]; rfl
    · simp [h2]
theorem b_low {y : Int32} : (y &&& 1) = 0 ↔ bt y 0 = false := by
  have h1 : ∀ i, i < 32 → bt 1 i = decide (i = 0) := by decide +kernel
  constructor
  · intro h
    have h2 := congrArg (fun q => bt q 0) h
    simp only [b_and, h1 0 (by omega), b_0, decide_true, Bool.and_true] at h2
    exact h2
  · intro h
    apply b_ext
    intro i hi
    rw [b_and, h1 i hi, b_0]
    by_cases h2 : i = 0
    · subst h2; rw [h]; rfl
    · simp [h2]
theorem b_low1 {y : Int32} : (y &&& 1) = 1 ↔ bt y 0 = true := by
  have h1 : ∀ i, i < 32 → bt 1 i = decide (i = 0) := by decide +kernel
  constructor
  · intro h
    have h2 := congrArg (fun q => bt q 0) h
    simp only [b_and, h1 0 (by omega), decide_true, Bool.and_true] at h2
    exact h2
  · intro h
    apply b_ext
    intro i hi
    rw [b_and, h1 i hi]
    by_cases h2 : i = 0
    · subst h2; rw [h]; rfl
    · simp [h2]
theorem b_shr0 {x : Int32} {e : Nat} (he : e < 32) : bt (x >>> (nI e &&& 31)) 0 = bt x e := by
  rw [b_sshr e he x (by omega), Nat.add_zero, if_pos he]
theorem b_tst0 {x : Int32} {e : Nat} (he : e < 32) : (((x >>> (nI e &&& 31)) &&& 1) = 0) ↔ bt x e = false := by rw [b_low, b_shr0 he]
theorem b_tst1 {x : Int32} {e : Nat} (he : e < 32) : (((x >>> (nI e &&& 31)) &&& 1) = 1) ↔ bt x e = true := by rw [b_low1, b_shr0 he]
theorem b_off {x : Int32} {e : Nat} (he : e < 32) (i : Nat) (hi : i < 32) : bt (x &&& (((1 : Int32) <<< (nI e &&& 31)) ^^^ (-1))) i = (bt x i && !decide (i = e)) := by
  rw [b_and, b_xor, b_one he i hi, b_m1 i hi]
  simp
theorem b_on {x : Int32} {e : Nat} (he : e < 32) (i : Nat) (hi : i < 32) : bt (x ||| ((1 : Int32) <<< (nI e &&& 31))) i = (bt x i || decide (i = e)) := by
  rw [b_or, b_one he i hi]
def allB (n : Nat) : Int32 := nI (2 ^ n - 1)
theorem all_is : ∀ n, n < 13 → ((1 : Int32) <<< (nI n &&& 31)) - 1 = allB n := by decide +kernel
theorem b_all : ∀ n, n < 13 → ∀ i, i < 32 → bt (allB n) i = decide (i < n) := by decide +kernel
/-- a mask within the first n places -/
def mIn (x : Int32) (n : Nat) : Prop := ∀ i, i < 32 → bt x i = true → i < n
set_option maxRecDepth 100000 in
theorem all_sub0 : ∀ n, n < 13 → ∀ s, s < 2 ^ n → allB n - nI s = allB n ^^^ nI s := by decide +kernel
