/-! the slope: places, kinds, ways; the class's cells and the reference's -/
def CSl (S : St) (n : Nat) (kd : Nat → Nat) (w : Nat → Nat → Nat) : Prop := S.1 1 3 = nI n ∧ (∀ p, p < n → S.1 2 p = nI (kd p)) ∧ (∀ p e, p < 12 → e < 15 → S.1 (4 + p) e = nI (w p e)) ∧ ∀ p, p < 12 → S.1 16 p = nI (sN (w p) 15)
def MSl (S : St) (n : Nat) (kd : Nat → Nat) (w : Nat → Nat → Nat) : Prop := S.1 173 0 = nI n ∧ (∀ p, p < n → S.1 174 p = nI (kd p)) ∧ ∀ p e, p < 12 → e < 15 → S.1 175 (15 * p + e) = nI (w p e)
def ISl (n : Nat) (kd : Nat → Nat) (w : Nat → Nat → Nat) : Prop := n ≤ 12 ∧ (∀ p, p < n → kd p < 5) ∧ (∀ p, p < 12 → sN (w p) 15 ≤ 5000) ∧ ∀ p, p < 12 → w p p = 0
theorem CSl.go {S S1 : St} {n : Nat} {kd : Nat → Nat} {w : Nat → Nat → Nat} {T : Nat → Prop} (h : CSl S n kd w) (hs : Same T S S1) (hT : ∀ k, 1 ≤ k → k ≤ 16 → ¬ T k) : CSl S1 n kd w := by
  obtain ⟨h1, h2, h3, h4⟩ := h
  refine ⟨?_, fun p hp => ?_, fun p e hp he => ?_, fun p hp => ?_⟩
  · rw [(hs 1 (hT 1 (by omega) (by omega))).1]; exact h1
  · rw [(hs 2 (hT 2 (by omega) (by omega))).1]; exact h2 p hp
  · rw [(hs (4 + p) (hT _ (by omega) (by omega))).1]; exact h3 p e hp he
  · rw [(hs 16 (hT 16 (by omega) (by omega))).1]; exact h4 p hp
theorem MSl.go {S S1 : St} {n : Nat} {kd : Nat → Nat} {w : Nat → Nat → Nat} {T : Nat → Prop} (h : MSl S n kd w) (hs : Same T S S1) (hT : ∀ k, 173 ≤ k → k ≤ 175 → ¬ T k) : MSl S1 n kd w := by
  obtain ⟨h1, h2, h3⟩ := h
  refine ⟨?_, fun p hp => ?_, fun p e hp he => ?_⟩
  · rw [(hs 173 (hT _ (by omega) (by omega))).1]; exact h1
  · rw [(hs 174 (hT _ (by omega) (by omega))).1]; exact h2 p hp
  · rw [(hs 175 (hT _ (by omega) (by omega))).1]; exact h3 p e hp he
theorem ISl.w_le {n : Nat} {kd : Nat → Nat} {w : Nat → Nat → Nat} (h : ISl n kd w) {p e : Nat} (hp : p < 12) (he : e < 15) : w p e ≤ 5000 := Nat.le_trans (sN_le (f := w p) he) (h.2.2.1 p hp)
/-- over the j numbers from i on: whether one is such; the first; how many; the sum -/
def anyB (P : Nat → Bool) : Nat → Nat → Bool
  | 0, _ => false
  | j + 1, i => P i || anyB P j (i + 1)
def fstB (P : Nat → Bool) : Nat → Nat → Option Nat
  | 0, _ => none
  | j + 1, i => if P i = true then some i else fstB P j (i + 1)
def cntB (P : Nat → Bool) : Nat → Nat → Nat
  | 0, _ => 0
  | j + 1, i => (if P i = true then 1 else 0) + cntB P j (i + 1)
def sumF (f : Nat → Nat) : Nat → Nat → Nat
  | 0, _ => 0
  | j + 1, i => f i + sumF f j (i + 1)
-- ---- the class
section
variable {S : St} {n : Nat} {kd : Nat → Nat} {w : Nat → Nat → Nat}
theorem has_ok (hs : S.1 1 3 = nI n) (hn : n ≤ 12) (v : Int32) : X7_has S 1 v = some (S, b1 (inN v n)) := by
  unfold X7_has b1 inN
  simp only [lt_e, hs, lt32, le32, lits, nT (show n < 2147483648 by omega)]
  repeat' split
  all_goals first | rfl | (exfalso; omega)
theorem isDitch_ok (v : Int32) : X7_isDitch S 1 v = some (S, b1 (inD v)) := by
  unfold X7_isDitch b1 inD
  simp only [lt_e, lt32, le32, lits]
  repeat' split
  all_goals first | rfl | (exfalso; omega)
theorem hasEnd_ok (hs : S.1 1 3 = nI n) (hn : n ≤ 12) (v : Int32) : X7_hasEnd S 1 v = some (S, b1 (inN v n ∨ inD v)) := by
  unfold X7_hasEnd
  rw [has_ok hs hn, bd_s]
  simp only [lt_e, ite_b1n]
  rw [isDitch_ok, bd_s, ite_b1z]
  by_cases h1 : inN v n
  · rw [if_pos h1, b1_t (Or.inl h1)]
  · rw [if_neg h1]
    by_cases h2 : inD v
    · rw [if_pos h2, b1_t (Or.inr h2)]
    · rw [if_neg h2, b1_f (fun q => q.elim h1 h2)]
/-- an end's column: of a place its number, of ditch d 12 + d -/
def col (v : Int32) : Nat := if 0 ≤ v.toInt then v.toInt.toNat else (11 - v.toInt).toNat
theorem endOf_ok {v : Int32} (h : inN v 12 ∨ inD v) : X7_endOf S 1 v = some (S, nI (col v)) := by
  unfold X7_endOf
  have key : ∀ j : Nat, j < 15 → (11 : Int32) - nI j = nI (11 - j) ∨ True := fun _ _ => Or.inr trivial
  rcases h with h | h
  · obtain ⟨j, hj, rfl⟩ := inN_of h (by omega)
    have e : col (nI j) = j := by unfold col; rw [nT (by omega)]; simp
    rw [e, if_neg (nI_pos (by omega))]
  · have h0 : v < 0 := by rw [lt32, lits.1]; exact h.2
    rw [if_pos h0]
    have e : v = -1 ∨ v = -2 ∨ v = -3 := by
      have e1 : (-1 : Int32).toInt = -1 := by decide
      have e2 : (-2 : Int32).toInt = -2 := by decide
      have e3 : (-3 : Int32).toInt = -3 := by decide
      simp only [eq32, e1, e2, e3]
      omega
    rcases e with rfl | rfl | rfl <;> rfl
theorem col_lt {v : Int32} (h : inN v 12 ∨ inD v) : col v < 15 := by
  unfold col
  split
  · omega
  · omega
theorem bitsOfAll_ok (hs : S.1 1 3 = nI n) (hn : n ≤ 12) : X7_bitsOfAll S 1 = some (S, allB n) := by
  unfold X7_bitsOfAll
  rw [hs, all_is n (by omega)]
theorem hasDitch_2_ok (h : CSl S n kd w) (hi : ISl n kd w) {p : Nat} (hp : p < 12) (K : St → Int32 → Option (St × Int32)) : ∀ (j m i : Nat), i + j = 3 → j < m → X7_hasDitch_2 1 (nI p) K m S (nI i) = cond (anyB (fun d => decide (0 < w p (12 + d))) j i) (some (S, 1)) (K S 3)
  | 0, 0, _, _, h => absurd h (by omega)
  | j + 1, 0, _, _, h => absurd h (by omega)
  | 0, m + 1, i, hij, _ => by
    rw [show i = 3 by omega, X7_hasDitch_2, if_pos (by decide)]
    rfl
  | j + 1, m + 1, i, hij, hm => by
    rw [X7_hasDitch_2, if_neg (by simp only [le32, lits, nT (show i < 2147483648 by omega)]; omega)]
    have e0 : (12 : Int32) + nI i = nI (12 + i) := nI_add 12 i
    simp only [rfs, rf_3, ck_n (show p < 12 by omega) (by omega), e0, ck_n (show 12 + i < 15 by omega) (by omega), ix_n (show p < 2147483648 by omega), ix_n (show 12 + i < 2147483648 by omega)]
    rw [h.2.2.1 p (12 + i) hp (by omega)]
    have hw := hi.w_le hp (show 12 + i < 15 by omega)
    have e1 : nI i + (1 : Int32) = nI (i + 1) := nI_1 i
    simp only [le32, lits, nT (show w p (12 + i) < 2147483648 by omega), lt_e, e1, anyB]
    by_cases h0 : 0 < w p (12 + i)
    · rw [if_neg (by omega), decide_eq_true h0]; rfl
    · rw [if_pos (by omega), hasDitch_2_ok h hi hp K j m (i + 1) (by omega) (by omega), decide_eq_false h0, Bool.false_or]
def dit (w : Nat → Nat → Nat) (p : Nat) : Bool := anyB (fun d => decide (0 < w p (12 + d))) 3 0
theorem hasDitch_ok (h : CSl S n kd w) (hi : ISl n kd w) {p : Nat} (hp : p < 12) : X7_hasDitch S 1 (nI p) = some (S, b1 (dit w p = true)) := by
  unfold X7_hasDitch
  rw [show (0 : Int32) = nI 0 from rfl, hasDitch_2_ok h hi hp _ 3 FU 0 (by omega) (by decide)]
  unfold b1 dit
  cases anyB (fun d => decide (0 < w p (12 + d))) 3 0 <;> rfl
/-- the weight from p to those places of the first j + i whose bit stands -/
def wtp (w : Nat → Nat → Nat) (b : Int32) (p : Nat) (j i : Nat) : Nat := sumF (fun e => if bt b e = true then w p e else 0) j i
theorem wtp_5_ok (h : CSl S n kd w) (hi : ISl n kd w) {p : Nat} (hp : p < 12) (b : Int32) (K : St → Int32 → Int32 → Option (St × Int32)) : ∀ (j m i a : Nat), i + j = n → j < m → X7_weightToPlaces_5 1 (nI p) b K m S (nI a) (nI i) = K S (nI (a + wtp w b p j i)) (nI n)
  | 0, 0, _, _, _, h => absurd h (by omega)
  | j + 1, 0, _, _, _, h => absurd h (by omega)
  | 0, m + 1, i, a, hij, _ => by
    rw [show i = n by omega, X7_weightToPlaces_5, if_pos (by rw [h.1]; exact Int32.le_refl _)]
    rfl
  | j + 1, m + 1, i, a, hij, hm => by
    have hn := hi.1
    rw [X7_weightToPlaces_5, if_neg (by rw [h.1]; exact nI_ge (by omega) (by omega))]
    have e1 : nI i + (1 : Int32) = nI (i + 1) := nI_1 i
    simp only [lt_e, e1, b_test (show i < 32 by omega), rfs, rf_3, ck_n (show p < 12 by omega) (by omega), ck_n (show i < 15 by omega) (by omega), ix_n (show p < 2147483648 by omega), ix_n (show i < 2147483648 by omega), h.2.2.1 p i hp (by omega), nI_add]
    have e2 : ∀ x : Nat, x = (if bt b i = true then w p i else 0) → a + x + wtp w b p j (i + 1) = a + wtp w b p (j + 1) i := by
      intro x hx
      unfold wtp
      rw [sumF, ← hx]
      omega
    cases hb : bt b i with
    | false =>
      have e3 := e2 0 (by rw [hb]; rfl)
      rw [Nat.add_zero] at e3
      rw [if_pos rfl, wtp_5_ok h hi hp b K j m (i + 1) a (by omega) (by omega), e3]
    | true =>
      rw [if_neg (by decide), wtp_5_ok h hi hp b K j m (i + 1) (a + w p i) (by omega) (by omega), e2 _ (by rw [hb]; rfl)]
theorem weightToPlaces_ok (h : CSl S n kd w) (hi : ISl n kd w) {p : Nat} (hp : p < 12) (b : Int32) : X7_weightToPlaces S 1 (nI p) b = some (S, nI (wtp w b p n 0)) := by
  unfold X7_weightToPlaces
  have := hi.1
  rw [show (0 : Int32) = nI 0 from rfl, wtp_5_ok h hi hp b _ n FU 0 0 (by omega) (by unfold FU; omega), Nat.zero_add]
theorem sumF_sN (f : Nat → Nat) : ∀ j i : Nat, sumF f j i + sN f i = sN f (i + j)
  | 0, i => by simp [sumF]
  | j + 1, i => by
    rw [sumF]
    have := sumF_sN f j (i + 1)
    have e : sN f (i + 1) = sN f i + f i := rfl
    rw [show i + (j + 1) = i + 1 + j by omega, ← this, e]
    omega
theorem sumF_le {f g : Nat → Nat} : ∀ {j i : Nat}, (∀ d, i ≤ d → d < i + j → f d ≤ g d) → sumF f j i ≤ sumF g j i
  | 0, _, _ => Nat.le_refl _
  | j + 1, i, h => by
    rw [sumF, sumF]
    have h1 := h i (Nat.le_refl _) (by omega)
    have h2 := sumF_le (f := f) (g := g) (j := j) (i := i + 1) (fun d a b => h d (by omega) (by omega))
    omega
theorem wtp_le (hi : ISl n kd w) {p : Nat} (hp : p < 12) (b : Int32) : wtp w b p n 0 ≤ 5000 := by
  have h1 : wtp w b p n 0 ≤ sumF (w p) n 0 := sumF_le (fun d _ _ => by split <;> omega)
  have h2 := sumF_sN (w p) n 0
  have h3 : sN (w p) (0 + n) ≤ sN (w p) 15 := sN_mono (by have := hi.1; omega)
  have h4 := hi.2.2.1 p hp
  have h5 : sN (w p) 0 = 0 := rfl
  omega
/-- a kind is another one, or under it -/
def isK (a b : Nat) : Bool := b == 0 || a == b || (decide (b < a) && decide (a < 4))
theorem isOf_10_ok (m : Nat) (K : St → Int32 → Int32 → Option (St × Int32)) (hK : ∀ a b, K S a b = some (S, 0)) : ∀ a, a < 5 → ∀ b, b < 5 → X7_isOf_10 (nI b) K (m + 10) S (nI a) 0 = some (S, b1 (isK a b = true)) := by
  intro a ha b hb
  rcases (show a = 0 ∨ a = 1 ∨ a = 2 ∨ a = 3 ∨ a = 4 by omega) with rfl | rfl | rfl | rfl | rfl <;> rcases (show b = 0 ∨ b = 1 ∨ b = 2 ∨ b = 3 ∨ b = 4 by omega) with rfl | rfl | rfl | rfl | rfl <;> first | rfl | exact hK _ _
theorem isOf_ok (h : CSl S n kd w) (hi : ISl n kd w) {p : Nat} (hp : p < n) {b : Nat} (hb : b < 5) : X7_isOf S 1 (nI p) (nI b) = some (S, b1 (isK (kd p) b = true)) := by
  unfold X7_isOf
  have := hi.1
  obtain ⟨m, hm⟩ := FU_is 10 (by decide)
  rw [ck_n (show p < 12 by omega) (by omega), lt_e, rfs.2.2.2.2.2.2.2.2.2.2.2.2.2.1, ix_n (by omega), h.2.1 p hp, hm, isOf_10_ok m _ (fun _ _ => rfl) _ (hi.2.1 p hp) b hb]
theorem isTwoWay_12_ok (h : CSl S n kd w) (hi : ISl n kd w) {p : Nat} (hp : p < n) (K : St → Int32 → Option (St × Int32)) : ∀ (j m i : Nat), i + j = p → j < m → X7_isTwoWay_12 1 (nI p) K m S (nI i) = cond (anyB (fun e => decide (w p e ≠ w e p)) j i) (some (S, 0)) (K S (nI p))
  | 0, 0, _, _, h => absurd h (by omega)
  | j + 1, 0, _, _, h => absurd h (by omega)
  | 0, m + 1, i, hij, _ => by
    rw [show i = p by omega, X7_isTwoWay_12, if_pos (Int32.le_refl _)]
    rfl
  | j + 1, m + 1, i, hij, hm => by
    have hn := hi.1
    rw [X7_isTwoWay_12, if_neg (nI_ge (by omega) (by omega))]
    have e1 : nI i + (1 : Int32) = nI (i + 1) := nI_1 i
    have w1 := hi.w_le (show p < 12 by omega) (show i < 15 by omega)
    have w2 := hi.w_le (show i < 12 by omega) (show p < 15 by omega)
    simp only [lt_e, e1, rfs, rf_3, ck_n (show p < 12 by omega) (by omega), ck_n (show i < 12 by omega) (by omega), ck_n (show i < 15 by omega) (by omega), ck_n (show p < 15 by omega) (by omega), ix_n (show p < 2147483648 by omega), ix_n (show i < 2147483648 by omega), h.2.2.1 p i (by omega) (by omega), h.2.2.1 i p (by omega) (by omega), nI_eq (show w p i < 2 ^ 31 by omega) (show w i p < 2 ^ 31 by omega), anyB]
    by_cases h0 : w p i = w i p
    · rw [if_pos h0, isTwoWay_12_ok h hi hp K j m (i + 1) (by omega) (by omega), decide_eq_false (fun q => q h0), Bool.false_or]
    · rw [if_neg h0, decide_eq_true h0]; rfl
theorem isTwoWay_2_ok (h : CSl S n kd w) (hi : ISl n kd w) (K : St → Int32 → Option (St × Int32)) : ∀ (j m i : Nat), i + j = n → j < m → X7_isTwoWay_2 1 K m S (nI i) = cond (anyB (fun p => anyB (fun e => decide (w p e ≠ w e p)) p 0) j i) (some (S, 0)) (K S (nI n))
  | 0, 0, _, _, h => absurd h (by omega)
  | j + 1, 0, _, _, h => absurd h (by omega)
  | 0, m + 1, i, hij, _ => by
    rw [show i = n by omega, X7_isTwoWay_2, if_pos (by rw [h.1]; exact Int32.le_refl _)]
    rfl
  | j + 1, m + 1, i, hij, hm => by
    have hn := hi.1
    rw [X7_isTwoWay_2, if_neg (by rw [h.1]; exact nI_ge (by omega) (by omega)), show (0 : Int32) = nI 0 from rfl, isTwoWay_12_ok h hi (show i < n by omega) _ i FU 0 (by omega) (by unfold FU; omega)]
    have e1 : nI i + (1 : Int32) = nI (i + 1) := nI_1 i
    simp only [lt_e, e1]
    rw [anyB]
    cases hb : anyB (fun e => decide (w i e ≠ w e i)) i 0 with
    | true => rfl
    | false =>
      rw [isTwoWay_2_ok h hi K j m (i + 1) (by omega) (by omega), Bool.false_or]
      rfl
def two (w : Nat → Nat → Nat) (n : Nat) : Bool := !anyB (fun p => anyB (fun e => decide (w p e ≠ w e p)) p 0) n 0
theorem isTwoWay_ok (h : CSl S n kd w) (hi : ISl n kd w) : X7_isTwoWay S 1 = some (S, b1 (two w n = true)) := by
  unfold X7_isTwoWay
  have := hi.1
  rw [show (0 : Int32) = nI 0 from rfl, isTwoWay_2_ok h hi _ n FU 0 (by omega) (by unfold FU; omega)]
  unfold b1 two
  cases anyB (fun p => anyB (fun e => decide (w p e ≠ w e p)) p 0) n 0 <;> rfl
theorem weightBetween_ok (h : CSl S n kd w) {p : Nat} (hp : p < 12) {v : Int32} (hv : inN v 12 ∨ inD v) : X7_weightBetween S 1 (nI p) v = some (S, nI (w p (col v))) := by
  unfold X7_weightBetween
  have hc := col_lt hv
  simp only [endOf_ok hv, bd_s, rfs, rf_3, ck_n hp (by omega), ck_n hc (by omega), ix_n (show p < 2147483648 by omega), ix_n (show col v < 2147483648 by omega), h.2.2.1 p (col v) hp hc]
end
