/-! the slope of the reference -/
section
variable {S : St} {n : Nat} {kd : Nat → Nat} {w : Nat → Nat → Nat}
theorem in_ok (v a b : Int32) : X11_in S v a b = some (S, b1 (a.toInt ≤ v.toInt ∧ v.toInt ≤ b.toInt)) := by
  unfold X11_in b1
  simp only [lt_e, lt32]
  repeat' split
  all_goals first | rfl | (exfalso; omega)
theorem isPlace_ok (hs : S.1 173 0 = nI n) (hn : n ≤ 12) (v : Int32) : X11_isPlace S 173 v = some (S, b1 (inN v n)) := by
  unfold X11_isPlace
  have e : (nI n - (1 : Int32)).toInt = (n : Int) - 1 := by
    rw [i_sub (by rw [nT (by omega), lits.2.1]; omega) (by rw [nT (by omega), lits.2.1]; omega), nT (by omega), lits.2.1]
  rw [hs, in_ok, bd_s, b1_g]
  simp only [lits, e]
  congr 2
  unfold b1
  by_cases h : inN v n
  · rw [if_pos h, if_pos (by unfold inN at h; omega)]
  · rw [if_neg h, if_neg (by unfold inN at h; omega)]
theorem weightOf_ok (h : MSl S n kd w) {p e : Nat} (hp : p < 12) (he : e < 15) : X11_weightOf S 173 (nI p) (nI e) = some (S, nI (w p e)) := by
  unfold X11_weightOf
  have e0 : (15 : Int32) * nI p + nI e = nI (15 * p + e) := by
    rw [show (15 : Int32) = nI 15 from rfl, pk_mul, nI_add]
  rw [e0, ck_n (show 15 * p + e < 180 by omega) (by omega), ix_n (by omega), rfm.2.1, h.2.2 p e hp he]
theorem load_4_ok (h : MSl S n kd w) {p : Nat} (hp : p < 12) (K : St → Int32 → Int32 → Option (St × Int32)) : ∀ (j m i a : Nat), i + j = 15 → j < m → X11_load_4 173 (nI p) K m S (nI a) (nI i) = K S (nI (a + sumF (w p) j i)) (nI 15)
  | 0, 0, _, _, _, h => absurd h (by omega)
  | j + 1, 0, _, _, _, h => absurd h (by omega)
  | 0, m + 1, i, a, hij, _ => by
    rw [show i = 15 by omega, X11_load_4, if_pos (by decide)]
    rfl
  | j + 1, m + 1, i, a, hij, hm => by
    rw [X11_load_4, if_neg (by rw [show (15 : Int32) = nI 15 from rfl]; exact nI_ge (by omega) (by omega)), weightOf_ok h hp (by omega), bd_s]
    have e1 : nI i + (1 : Int32) = nI (i + 1) := nI_1 i
    simp only [lt_e, e1, nI_add]
    rw [load_4_ok h hp K j m (i + 1) (a + w p i) (by omega) (by omega), sumF, Nat.add_assoc]
theorem load_ok (h : MSl S n kd w) {p : Nat} (hp : p < 12) : X11_load S 173 (nI p) = some (S, nI (sN (w p) 15)) := by
  unfold X11_load
  rw [show (0 : Int32) = nI 0 from rfl, load_4_ok h hp _ 15 FU 0 0 (by omega) (by decide), Nat.zero_add]
  have := sumF_sN (w p) 15 0
  have e : sN (w p) 0 = 0 := rfl
  rw [e, Nat.add_zero, Nat.zero_add] at this
  rw [this]
theorem isShelf_ok (h : MSl S n kd w) (hi : ISl n kd w) {p : Nat} (hp : p < n) : X11_isShelf S 173 (nI p) = some (S, b1 (0 < kd p ∧ kd p < 4)) := by
  unfold X11_isShelf b1
  have := hi.1
  have hk := hi.2.1 p hp
  simp only [lt_e, rfm, ck_n (show p < 12 by omega) (by omega), ix_n (show p < 2147483648 by omega), h.2.1 p hp, le32, lits, nT (show kd p < 2147483648 by omega)]
  repeat' split
  all_goals first | rfl | (exfalso; omega)
theorem isDueM_ok (g ld : Nat) (hg : g < 9223372036854775808) (hl : ld < 2147483648) : X11_isDue S (lN g) (nI ld) = some (S, b1 (0 < ld ∧ ld ≤ g)) := by
  unfold X11_isDue b1
  simp only [lt_e, nI_l (show ld < 2 ^ 31 by omega), le32, lits, nT hl, pk_lLT (show g < 2 ^ 63 by omega) (show ld < 2 ^ 63 by omega)]
  repeat' split
  all_goals first | rfl | (exfalso; omega)
theorem isTwoWayM_12_ok (h : MSl S n kd w) (hi : ISl n kd w) {p : Nat} (hp : p < n) (K : St → Int32 → Option (St × Int32)) : ∀ (j m i : Nat), i + j = p → j < m → X11_isTwoWay_12 173 (nI p) K m S (nI i) = cond (anyB (fun e => decide (w p e ≠ w e p)) j i) (some (S, 0)) (K S (nI p))
  | 0, 0, _, _, h => absurd h (by omega)
  | j + 1, 0, _, _, h => absurd h (by omega)
  | 0, m + 1, i, hij, _ => by
    rw [show i = p by omega, X11_isTwoWay_12, if_pos (Int32.le_refl _)]
    rfl
  | j + 1, m + 1, i, hij, hm => by
    have hn := hi.1
    have w1 := hi.w_le (show p < 12 by omega) (show i < 15 by omega)
    have w2 := hi.w_le (show i < 12 by omega) (show p < 15 by omega)
    have e1 : nI i + (1 : Int32) = nI (i + 1) := nI_1 i
    rw [X11_isTwoWay_12, if_neg (nI_ge (by omega) (by omega)), weightOf_ok h (show p < 12 by omega) (show i < 15 by omega), bd_s, weightOf_ok h (show i < 12 by omega) (show p < 15 by omega), bd_s]
    simp only [lt_e, e1, nI_eq (show w p i < 2 ^ 31 by omega) (show w i p < 2 ^ 31 by omega), anyB]
    by_cases h0 : w p i = w i p
    · rw [if_pos h0, isTwoWayM_12_ok h hi hp K j m (i + 1) (by omega) (by omega), decide_eq_false (fun q => q h0), Bool.false_or]
    · rw [if_neg h0, decide_eq_true h0]; rfl
theorem isTwoWayM_2_ok (h : MSl S n kd w) (hi : ISl n kd w) (K : St → Int32 → Option (St × Int32)) : ∀ (j m i : Nat), i + j = n → j < m → X11_isTwoWay_2 173 K m S (nI i) = cond (anyB (fun p => anyB (fun e => decide (w p e ≠ w e p)) p 0) j i) (some (S, 0)) (K S (nI n))
  | 0, 0, _, _, h => absurd h (by omega)
  | j + 1, 0, _, _, h => absurd h (by omega)
  | 0, m + 1, i, hij, _ => by
    rw [show i = n by omega, X11_isTwoWay_2, if_pos (by rw [h.1]; exact Int32.le_refl _)]
    rfl
  | j + 1, m + 1, i, hij, hm => by
    have hn := hi.1
    rw [X11_isTwoWay_2, if_neg (by rw [h.1]; exact nI_ge (by omega) (by omega)), show (0 : Int32) = nI 0 from rfl, isTwoWayM_12_ok h hi (show i < n by omega) _ i FU 0 (by omega) (by unfold FU; omega)]
    have e1 : nI i + (1 : Int32) = nI (i + 1) := nI_1 i
    simp only [lt_e, e1]
    rw [anyB]
    cases hb : anyB (fun e => decide (w i e ≠ w e i)) i 0 with
    | true => rfl
    | false =>
      rw [isTwoWayM_2_ok h hi K j m (i + 1) (by omega) (by omega), Bool.false_or]
      rfl
theorem isTwoWayM_ok (h : MSl S n kd w) (hi : ISl n kd w) : X11_isTwoWay S 173 = some (S, b1 (two w n = true)) := by
  unfold X11_isTwoWay
  have := hi.1
  rw [show (0 : Int32) = nI 0 from rfl, isTwoWayM_2_ok h hi _ n FU 0 (by omega) (by unfold FU; omega)]
  unfold b1 two
  cases anyB (fun p => anyB (fun e => decide (w p e ≠ w e p)) p 0) n 0 <;> rfl
end
