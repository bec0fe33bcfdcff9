/-! the heaps of the class (17: the slope's own, 21: for trials) -/
theorem rf_h {kh : Nat} (h : kh = 17 ∨ kh = 21) : rf kh 0 = 1 ∧ rf kh 1 = kh + 1 ∧ rf kh 2 = kh + 2 ∧ rf kh 3 = kh + 3 := by
  rcases h with rfl | rfl
  · exact ⟨rfs.2.2.2.2.2.2.2.2.2.2.2.2.2.2.2.2.1, by decide +kernel, by decide +kernel, by decide +kernel⟩
  · exact ⟨by decide +kernel, by decide +kernel, by decide +kernel, by decide +kernel⟩
theorem rf_11 : rf 1 1 = 3 := by decide +kernel
theorem rf_12 : rf 1 2 = 16 := by decide +kernel
def ld (w : Nat → Nat → Nat) (p : Nat) : Nat := sN (w p) 15
def due (w : Nat → Nat → Nat) (g : Nat → Nat) (p : Nat) : Bool := decide (0 < ld w p ∧ ld w p ≤ g p)
def CG (S : St) (kh n : Nat) (g : Nat → Nat) : Prop := ∀ p, p < n → S.1 (kh + 1) p = nI (g p)
def BG (n : Nat) (g : Nat → Nat) : Prop := ∀ p, p < n → g p ≤ 2000000
def tms (w : Nat → Nat → Nat) (kd : Nat → Nat) (g : Nat → Nat) (p : Nat) : Nat := cond (due w g p) (cond (isK (kd p) 1) (g p / ld w p) 1) 0
def ovf (w : Nat → Nat → Nat) (g : Nat → Nat) (t p n : Nat) : Bool := anyB (fun e => decide (1000000 < g e + t * w p e)) n 0
/-- a heap behind a slide of p, t times at once -/
def sld (w : Nat → Nat → Nat) (g : Nat → Nat) (t p : Nat) : Nat → Nat := fun e => (if e = p then g p - t * ld w p else g e) + t * w p e
section
variable {S : St} {n kh : Nat} {kd : Nat → Nat} {w : Nat → Nat → Nat} {g : Nat → Nat}
theorem ISl.ld_le (h : ISl n kd w) {p : Nat} (hp : p < 12) : ld w p ≤ 5000 := h.2.2.1 p hp
theorem tms_le (hi : ISl n kd w) (hb : BG n g) {p : Nat} (hp : p < n) : tms w kd g p * ld w p ≤ g p ∧ tms w kd g p ≤ 2000000 := by
  unfold tms
  have h1 := hb p hp
  cases hd : due w g p with
  | false => simp
  | true =>
    have h2 : 0 < ld w p ∧ ld w p ≤ g p := of_decide_eq_true hd
    cases isK (kd p) 1 with
    | false => simp only [cond_true, cond_false, Nat.one_mul]; omega
    | true =>
      simp only [cond_true]
      exact ⟨Nat.div_mul_le_self _ _, Nat.le_trans (Nat.div_le_self _ _) h1⟩
theorem isDue_ok (hk : kh = 17 ∨ kh = 21) (h : CSl S n kd w) (hi : ISl n kd w) (hg : CG S kh n g) (hb : BG n g) {p : Nat} (hp : p < n) : X2_isDue S kh (nI p) = some (S, b1 (due w g p = true)) := by
  unfold X2_isDue
  have hn := hi.1
  have h1 := hi.ld_le (show p < 12 by omega)
  have h2 := hb p hp
  obtain ⟨r0, r1, -, -⟩ := rf_h hk
  have e1 : S.1 16 p = nI (ld w p) := h.2.2.2 p (by omega)
  simp only [lt_e, r0, r1, rf_12, ck_n (show p < 12 by omega) (by omega), ix_n (show p < 2147483648 by omega), e1, hg p hp, le32, lt32, lits, nT (show ld w p < 2147483648 by omega), nT (show g p < 2147483648 by omega)]
  unfold b1 due
  simp only [decide_eq_true_eq]
  repeat' split
  all_goals first | rfl | (exfalso; omega)
theorem countDue_4_ok (hk : kh = 17 ∨ kh = 21) (h : CSl S n kd w) (hi : ISl n kd w) (hg : CG S kh n g) (hb : BG n g) (K : St → Int32 → Int32 → Option (St × Int32)) : ∀ (j m i a : Nat), i + j = n → j < m → X2_countDue_4 kh K m S (nI a) (nI i) = K S (nI (a + cntB (due w g) j i)) (nI n)
  | 0, 0, _, _, _, h => absurd h (by omega)
  | j + 1, 0, _, _, _, h => absurd h (by omega)
  | 0, m + 1, i, a, hij, _ => by
    rw [show i = n by omega, X2_countDue_4, (rf_h hk).1, if_pos (by rw [h.1]; exact Int32.le_refl _)]
    rfl
  | j + 1, m + 1, i, a, hij, hm => by
    have hn := hi.1
    have e1 : nI i + (1 : Int32) = nI (i + 1) := nI_1 i
    have e2 : nI a + (1 : Int32) = nI (a + 1) := nI_1 a
    rw [X2_countDue_4, (rf_h hk).1, if_neg (by rw [h.1]; exact nI_ge (by omega) (by omega)), isDue_ok hk h hi hg hb (show i < n by omega), bd_s]
    simp only [lt_e, e1, e2, ite_b1z, cntB]
    cases hd : due w g i with
    | false =>
      rw [if_neg (by decide), countDue_4_ok hk h hi hg hb K j m (i + 1) a (by omega) (by omega), if_neg (by decide), Nat.zero_add]
    | true =>
      rw [if_pos rfl, countDue_4_ok hk h hi hg hb K j m (i + 1) (a + 1) (by omega) (by omega), if_pos rfl, Nat.add_assoc]
theorem countDue_ok (hk : kh = 17 ∨ kh = 21) (h : CSl S n kd w) (hi : ISl n kd w) (hg : CG S kh n g) (hb : BG n g) : X2_countDue S kh = some (S, nI (cntB (due w g) n 0)) := by
  unfold X2_countDue
  have := hi.1
  rw [show (0 : Int32) = nI 0 from rfl, countDue_4_ok hk h hi hg hb _ n FU 0 0 (by omega) (by unfold FU; omega), Nat.zero_add]
/-- an answer: a number, or -1 -/
def oI (o : Option Nat) : Int32 := match o with
  | none => -1
  | some p => nI p
theorem lowestDue_2_ok (hk : kh = 17 ∨ kh = 21) (h : CSl S n kd w) (hi : ISl n kd w) (hg : CG S kh n g) (hb : BG n g) (K : St → Int32 → Option (St × Int32)) (hK : K S (nI n) = some (S, -1)) : ∀ (j m i : Nat), i + j = n → j < m → X2_lowestDue_2 kh K m S (nI i) = some (S, oI (fstB (due w g) j i))
  | 0, 0, _, _, h => absurd h (by omega)
  | j + 1, 0, _, _, h => absurd h (by omega)
  | 0, m + 1, i, hij, _ => by
    rw [show i = n by omega, X2_lowestDue_2, (rf_h hk).1, if_pos (by rw [h.1]; exact Int32.le_refl _), hK]
    rfl
  | j + 1, m + 1, i, hij, hm => by
    have hn := hi.1
    have e1 : nI i + (1 : Int32) = nI (i + 1) := nI_1 i
    rw [X2_lowestDue_2, (rf_h hk).1, if_neg (by rw [h.1]; exact nI_ge (by omega) (by omega)), isDue_ok hk h hi hg hb (show i < n by omega), bd_s]
    simp only [lt_e, e1, ite_b1z, fstB]
    cases hd : due w g i with
    | false =>
      rw [if_neg (by decide), lowestDue_2_ok hk h hi hg hb K hK j m (i + 1) (by omega) (by omega), if_neg (by decide)]
    | true =>
      rw [if_pos rfl, if_pos rfl]
      rfl
theorem lowestDue_ok (hk : kh = 17 ∨ kh = 21) (h : CSl S n kd w) (hi : ISl n kd w) (hg : CG S kh n g) (hb : BG n g) : X2_lowestDue S kh = some (S, oI (fstB (due w g) n 0)) := by
  unfold X2_lowestDue
  have := hi.1
  rw [show (0 : Int32) = nI 0 from rfl, lowestDue_2_ok hk h hi hg hb _ rfl n FU 0 (by omega) (by unfold FU; omega)]
theorem fstB_lt {P : Nat → Bool} : ∀ {j i q : Nat}, fstB P j i = some q → i ≤ q ∧ q < i + j ∧ P q = true
  | 0, _, _, h => by cases h
  | j + 1, i, q, h => by
    rw [fstB] at h
    split at h
    · next hp => cases h; exact ⟨Nat.le_refl _, by omega, hp⟩
    · have := fstB_lt h; exact ⟨by omega, by omega, this.2.2⟩
theorem oI_m1 {o : Option Nat} (h : ∀ q, o = some q → q < 12) : (oI o = -1) ↔ o = none := by
  cases o with
  | none => simp [oI]
  | some q =>
    have hq := h q rfl
    simp only [oI, reduceCtorEq, iff_false]
    rw [eq32, nT (by omega)]
    simp only [lits]
    omega
theorem stands_ok (hk : kh = 17 ∨ kh = 21) (h : CSl S n kd w) (hi : ISl n kd w) (hg : CG S kh n g) (hb : BG n g) : X2_stands S kh = some (S, b1 (fstB (due w g) n 0 = none)) := by
  unfold X2_stands
  have hn := hi.1
  rw [lowestDue_ok hk h hi hg hb, bd_s]
  have e := oI_m1 (o := fstB (due w g) n 0) (fun q hq => by have := fstB_lt hq; omega)
  by_cases hq : fstB (due w g) n 0 = none
  · rw [if_neg (fun q => q (e.mpr hq)), b1_t hq]
  · rw [if_pos (fun q => hq (e.mp q)), b1_f hq]
theorem sum_4_ok (hk : kh = 17 ∨ kh = 21) (h : CSl S n kd w) (hi : ISl n kd w) (hg : CG S kh n g) (K : St → Int32 → Int32 → Option (St × Int32)) : ∀ (j m i a : Nat), i + j = n → j < m → X2_sum_4 kh K m S (nI a) (nI i) = K S (nI (a + sumF g j i)) (nI n)
  | 0, 0, _, _, _, h => absurd h (by omega)
  | j + 1, 0, _, _, _, h => absurd h (by omega)
  | 0, m + 1, i, a, hij, _ => by
    rw [show i = n by omega, X2_sum_4, (rf_h hk).1, if_pos (by rw [h.1]; exact Int32.le_refl _)]
    rfl
  | j + 1, m + 1, i, a, hij, hm => by
    have hn := hi.1
    have e1 : nI i + (1 : Int32) = nI (i + 1) := nI_1 i
    rw [X2_sum_4, (rf_h hk).1, if_neg (by rw [h.1]; exact nI_ge (by omega) (by omega))]
    simp only [lt_e, e1, (rf_h hk).2.1, ck_n (show i < 12 by omega) (by omega), ix_n (show i < 2147483648 by omega), hg i (by omega), nI_add]
    rw [sum_4_ok hk h hi hg K j m (i + 1) (a + g i) (by omega) (by omega), sumF, Nat.add_assoc]
theorem sum_ok (hk : kh = 17 ∨ kh = 21) (h : CSl S n kd w) (hi : ISl n kd w) (hg : CG S kh n g) : X2_sum S kh = some (S, nI (sumF g n 0)) := by
  unfold X2_sum
  have := hi.1
  rw [show (0 : Int32) = nI 0 from rfl, sum_4_ok hk h hi hg _ n FU 0 0 (by omega) (by unfold FU; omega), Nat.zero_add]
theorem timesAtOnce_ok (hk : kh = 17 ∨ kh = 21) (h : CSl S n kd w) (hi : ISl n kd w) (hg : CG S kh n g) (hb : BG n g) {p : Nat} (hp : p < n) : X2_timesAtOnce S kh (nI p) = some (S, nI (tms w kd g p)) := by
  unfold X2_timesAtOnce tms
  have hn := hi.1
  have h1 := hi.ld_le (show p < 12 by omega)
  have h2 := hb p hp
  obtain ⟨r0, r1, -, -⟩ := rf_h hk
  have e1 : S.1 16 p = nI (ld w p) := h.2.2.2 p (by omega)
  rw [isDue_ok hk h hi hg hb hp, bd_s, ite_b1n, r0, show (1 : Int32) = nI 1 from rfl, isOf_ok h hi hp (by omega), bd_s, ite_b1z]
  cases hd : due w g p with
  | false => rw [if_neg (by decide)]; rfl
  | true =>
    have h3 : 0 < ld w p ∧ ld w p ≤ g p := of_decide_eq_true hd
    rw [if_pos rfl]
    cases isK (kd p) 1 with
    | false => rw [if_neg (by decide)]; rfl
    | true =>
      rw [if_pos rfl]
      simp only [r1, rf_12, ck_n (show p < 12 by omega) (by omega), ix_n (show p < 2147483648 by omega), e1, hg p hp, cond_true]
      rw [gu_t (nI_ne0 h3.1 (by omega)), pk_div (by omega) h3.1 (by omega)]
theorem wouldOverfill_8_ok (hk : kh = 17 ∨ kh = 21) (h : CSl S n kd w) (hi : ISl n kd w) (hg : CG S kh n g) (hb : BG n g) {p t : Nat} (hp : p < n) (ht : t ≤ 2000000) (K : St → Int32 → Option (St × Int32)) : ∀ (j m i : Nat), i + j = n → j < m → X2_wouldOverfill_8 kh (nI p) (nI t) K m S (nI i) = cond (anyB (fun e => decide (1000000 < g e + t * w p e)) j i) (some (S, 1)) (K S (nI n))
  | 0, 0, _, _, h => absurd h (by omega)
  | j + 1, 0, _, _, h => absurd h (by omega)
  | 0, m + 1, i, hij, _ => by
    rw [show i = n by omega, X2_wouldOverfill_8, (rf_h hk).1, if_pos (by rw [h.1]; exact Int32.le_refl _)]
    rfl
  | j + 1, m + 1, i, hij, hm => by
    have hn := hi.1
    have e1 : nI i + (1 : Int32) = nI (i + 1) := nI_1 i
    have w1 := hi.w_le (show p < 12 by omega) (show i < 15 by omega)
    have g1 := hb i (by omega)
    have m1 : t * w p i ≤ 2000000 * 5000 := Nat.mul_le_mul ht w1
    rw [X2_wouldOverfill_8, (rf_h hk).1, if_neg (by rw [h.1]; exact nI_ge (by omega) (by omega))]
    simp only [lt_e, e1, (rf_h hk).2.1, rf_11, rf_3, ck_n (show i < 12 by omega) (by omega), ck_n (show p < 12 by omega) (by omega), ck_n (show i < 15 by omega) (by omega), ix_n (show i < 2147483648 by omega), ix_n (show p < 2147483648 by omega), hg i (by omega), h.2.2.1 p i (by omega) (by omega), nI_l (show g i < 2 ^ 31 by omega), nI_l (show t < 2 ^ 31 by omega), nI_l (show w p i < 2 ^ 31 by omega), lN_mul, lN_add, show (1000000 : Int64) = lN 1000000 from rfl, pk_lLE (show g i + t * w p i < 2 ^ 63 by omega) (show 1000000 < 2 ^ 63 by omega), anyB]
    by_cases h0 : g i + t * w p i ≤ 1000000
    · rw [if_pos h0, wouldOverfill_8_ok hk h hi hg hb hp ht K j m (i + 1) (by omega) (by omega), decide_eq_false (by omega), Bool.false_or]
    · rw [if_neg h0, decide_eq_true (by omega)]; rfl
theorem wouldOverfill_ok (hk : kh = 17 ∨ kh = 21) (h : CSl S n kd w) (hi : ISl n kd w) (hg : CG S kh n g) (hb : BG n g) {p : Nat} (hp : p < n) : X2_wouldOverfill S kh (nI p) = some (S, b1 (ovf w g (tms w kd g p) p n = true)) := by
  unfold X2_wouldOverfill
  have := hi.1
  rw [timesAtOnce_ok hk h hi hg hb hp, bd_s, show (0 : Int32) = nI 0 from rfl, wouldOverfill_8_ok hk h hi hg hb hp (tms_le hi hb hp).2 _ n FU 0 (by omega) (by unfold FU; omega)]
  unfold ovf b1
  cases anyB (fun e => decide (1000000 < g e + tms w kd g p * w p e)) n 0 <;> rfl
end
