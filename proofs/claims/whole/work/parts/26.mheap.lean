/-! grains of the reference: row 176 (the slope's), row 194 (work) -/
def MG (S : St) (kr n : Nat) (g : Nat → Nat) : Prop := ∀ p, p < n → S.2 kr p = lN (g p)
def B1 (n : Nat) (g : Nat → Nat) : Prop := ∀ p, p < n → g p ≤ 1000000
section
variable {S : St} {n kr : Nat} {kd : Nat → Nat} {w : Nat → Nat → Nat} {g : Nat → Nat}
theorem B1.b (h : B1 n g) : BG n g := fun p hp => by have := h p hp; omega
theorem lN0 : (0 : Int64) = lN 0 := rfl
theorem isK1 : ∀ a, a < 5 → (isK a 1 = true ↔ (0 < a ∧ a < 4)) := by decide
theorem times_ok (h : MSl S n kd w) (hi : ISl n kd w) (hg : MG S kr n g) (hb : BG n g) {p : Nat} (hp : p < n) (hd : due w g p = true) : X11_times S 173 kr (nI p) = some (S, lN (tms w kd g p)) := by
  unfold X11_times tms
  have hn := hi.1
  have hk := hi.2.1 p hp
  have h2 := hb p hp
  have h1 := hi.ld_le (show p < 12 by omega)
  have h3 : 0 < ld w p ∧ ld w p ≤ g p := of_decide_eq_true hd
  rw [isShelf_ok h hi hp, bd_s, ite_b1z, hd, cond_true]
  by_cases hs : 0 < kd p ∧ kd p < 4
  · have e1 : sN (w p) 15 = ld w p := rfl
    rw [if_pos hs, (isK1 _ hk).mpr hs, ck_n (show p < 15 by omega) (by omega), load_ok h (show p < 12 by omega), bd_s, e1, nI_l (by omega), ix_n (by omega), hg p hp, gu_t (by rw [lN0, pk_lEQ (by omega) (by omega)]; omega), pk_lDiv (by omega) h3.1 (by omega)]
    rfl
  · rw [if_neg hs]
    have e1 : isK (kd p) 1 = false := by
      cases hq : isK (kd p) 1 with
      | false => rfl
      | true => exact absurd ((isK1 _ hk).mp hq) hs
    rw [e1]
    rfl
theorem tooMuch_10_ok (h : MSl S n kd w) (hi : ISl n kd w) (hg : MG S kr n g) (hb : BG n g) {p t : Nat} (hp : p < n) (hgp : g p ≤ 1000000) (ht : t ≤ 2000000) (K : St → Int32 → Option (St × Int32)) : ∀ (j m i : Nat), i + j = n → j < m → X11_isTooMuch_10 173 kr (nI p) (lN t) K m S (nI i) = cond (anyB (fun e => decide (1000000 < g e + t * w p e)) j i) (some (S, 1)) (K S (nI n))
  | 0, 0, _, _, h => absurd h (by omega)
  | j + 1, 0, _, _, h => absurd h (by omega)
  | 0, m + 1, i, hij, _ => by
    rw [show i = n by omega, X11_isTooMuch_10, if_pos (by rw [h.1]; exact Int32.le_refl _)]
    rfl
  | j + 1, m + 1, i, hij, hm => by
    have hn := hi.1
    have e1 : nI i + (1 : Int32) = nI (i + 1) := nI_1 i
    have w1 := hi.w_le (show p < 12 by omega) (show i < 15 by omega)
    have g1 := hb i (by omega)
    have m1 : t * w p i ≤ 2000000 * 5000 := Nat.mul_le_mul ht w1
    rw [X11_isTooMuch_10, if_neg (by rw [h.1]; exact nI_ge (by omega) (by omega)), ck_n (show i < 15 by omega) (by omega), weightOf_ok h (show p < 12 by omega) (show i < 15 by omega), bd_s]
    simp only [lt_e, e1, ix_n (show i < 2147483648 by omega), hg i (by omega), nI_l (show w p i < 2 ^ 31 by omega), lN_mul, lN_add, show (1000000 : Int64) = lN 1000000 from rfl, pk_lLE (show g i + t * w p i < 2 ^ 63 by omega) (show 1000000 < 2 ^ 63 by omega), nI_eq (show i < 2 ^ 31 by omega) (show p < 2 ^ 31 by omega), anyB]
    by_cases h0 : g i + t * w p i ≤ 1000000
    · rw [if_pos h0, tooMuch_10_ok h hi hg hb hp hgp ht K j m (i + 1) (by omega) (by omega), decide_eq_false (by omega), Bool.false_or]
    · have hne : ¬ i = p := by
        rintro rfl
        rw [hi.2.2.2 i (by omega), Nat.mul_zero] at h0
        omega
      rw [if_neg h0, if_neg hne, decide_eq_true (by omega)]; rfl
theorem tooMuch_ok (h : MSl S n kd w) (hi : ISl n kd w) (hg : MG S kr n g) (hb : BG n g) {p : Nat} (hp : p < n) (hgp : g p ≤ 1000000) (hd : due w g p = true) : X11_isTooMuch S 173 kr (nI p) = some (S, b1 (ovf w g (tms w kd g p) p n = true)) := by
  unfold X11_isTooMuch
  have := hi.1
  rw [times_ok h hi hg hb hp hd, bd_s, show (0 : Int32) = nI 0 from rfl, tooMuch_10_ok h hi hg hb hp hgp (tms_le hi hb hp).2 _ n FU 0 (by omega) (by unfold FU; omega)]
  unfold ovf b1
  cases anyB (fun e => decide (1000000 < g e + tms w kd g p * w p e)) n 0 <;> rfl
theorem slides_24_ok {p t : Nat} (hi : ISl n kd w) (hp : p < n) (hr : kr = 176 ∨ kr = 194) (K : St → Int32 → Option (St × Int64)) : ∀ (j m i : Nat) (S : St), i + j = 15 → j < m → MSl S n kd w → ∃ S2, X11_slides_24 173 kr (nI p) (lN t) K m S (nI i) = K S2 (nI 15) ∧ Same (fun k => k = kr) S S2 ∧ S2.1 = S.1 ∧ ∀ e, e < 15 → S2.2 kr e = if i ≤ e then S.2 kr e + lN (t * w p e) else S.2 kr e
  | 0, 0, _, _, _, h, _ => absurd h (by omega)
  | j + 1, 0, _, _, _, h, _ => absurd h (by omega)
  | 0, m + 1, i, S, hij, _, h => by
    refine ⟨S, ?_, Same.rf, rfl, fun d hd => ?_⟩
    · rw [show i = 15 by omega, X11_slides_24, if_pos (by decide)]
    · rw [if_neg (by omega)]
  | j + 1, m + 1, i, S, hij, hm, h => by
    have hn := hi.1
    have e1 : nI i + (1 : Int32) = nI (i + 1) := nI_1 i
    have w1 := hi.w_le (show p < 12 by omega) (show i < 15 by omega)
    have hs := same_J S kr i (S.2 kr i + lN (t * w p i))
    obtain ⟨S2, q1, q2, q3, q4⟩ := slides_24_ok (p := p) (t := t) hi hp hr K j m (i + 1) (setJ S kr i (S.2 kr i + lN (t * w p i))) (by omega) (by omega) (h.go hs (by intro k h1 h2 h3; omega))
    refine ⟨S2, ?_, (hs.tr q2).mo (fun k hk => by omega), q3, fun d hd => ?_⟩
    · rw [X11_slides_24, if_neg (by rw [show (15 : Int32) = nI 15 from rfl]; exact nI_ge (by omega) (by omega)), ck_n (show i < 15 by omega) (by omega), weightOf_ok h (show p < 12 by omega) (show i < 15 by omega), bd_s, ck_n (show i < 15 by omega) (by omega)]
      simp only [lt_e, e1, ix_n (show i < 2147483648 by omega), nI_l (show w p i < 2 ^ 31 by omega), lN_mul]
      exact q1
    · rw [q4 d hd]
      by_cases h1 : d = i
      · subst h1
        rw [if_neg (by omega), sJ2, if_pos ⟨rfl, rfl⟩, if_pos (Nat.le_refl _)]
      · have e9 : (setJ S kr i (S.2 kr i + lN (t * w p i))).2 kr d = S.2 kr d := by rw [sJ2, if_neg (fun q => h1 q.2)]
        rw [e9]
        by_cases h2 : i ≤ d
        · rw [if_pos (by omega), if_pos h2]
        · rw [if_neg (by omega), if_neg h2]
theorem slides_ok (h : MSl S n kd w) (hi : ISl n kd w) (hr : kr = 176 ∨ kr = 194) (hg : MG S kr n g) (hb : BG n g) {p : Nat} (hp : p < n) (hd : due w g p = true) : ∃ S2, X11_slides S 173 kr (nI p) = some (S2, lN (tms w kd g p)) ∧ Same (fun k => k = kr) S S2 ∧ S2.1 = S.1 ∧ MG S2 kr n (sld w g (tms w kd g p) p) ∧ ∀ d, d < 3 → S2.2 kr (12 + d) = S.2 kr (12 + d) + lN (tms w kd g p * w p (12 + d)) := by
  have hn := hi.1
  obtain ⟨t1, t2⟩ := tms_le hi hb hp
  have h1 := hi.ld_le (show p < 12 by omega)
  have e1 : sN (w p) 15 = ld w p := rfl
  unfold X11_slides
  rw [times_ok h hi hg hb hp hd, bd_s, ck_n (show p < 15 by omega) (by omega), load_ok h (show p < 12 by omega), bd_s, ck_n (show p < 15 by omega) (by omega), e1]
  generalize hT : tms w kd g p = t at t1 t2 ⊢
  simp only [lt_e, ix_n (show p < 2147483648 by omega), hg p hp, nI_l (show ld w p < 2 ^ 31 by omega), lN_mul, lN_sub t1]
  have hs := same_J S kr p (lN (g p - t * ld w p))
  obtain ⟨S2, a1, a2, a3, a4⟩ := slides_24_ok (p := p) (t := t) hi hp hr (fun S30 _ => some (S30, lN t)) 15 FU 0 (setJ S kr p (lN (g p - t * ld w p))) (by omega) (by decide) (h.go hs (by intro k h1 h2 h3; omega))
  refine ⟨S2, a1, (hs.tr a2).mo (fun k hk => by omega), a3, fun e he => ?_, fun d hd => ?_⟩
  · rw [a4 e (by omega), if_pos (Nat.zero_le _), sJ2]
    unfold sld
    by_cases h3 : e = p
    · rw [if_pos ⟨rfl, h3⟩, if_pos h3, lN_add]
    · rw [if_neg (fun q => h3 q.2), if_neg h3, hg e he, lN_add]
  · rw [a4 (12 + d) (by omega), if_pos (Nat.zero_le _), sJ2, if_neg (fun q => by omega)]
theorem dueMany_4_ok (h : MSl S n kd w) (hi : ISl n kd w) (hg : MG S 176 n g) (hb : BG n g) (K : St → Int32 → Int32 → Option (St × Int32)) : ∀ (j m i a : Nat), i + j = n → j < m → X11_dueMany_4 173 K m S (nI a) (nI i) = K S (nI (a + cntB (due w g) j i)) (nI n)
  | 0, 0, _, _, _, h => absurd h (by omega)
  | j + 1, 0, _, _, _, h => absurd h (by omega)
  | 0, m + 1, i, a, hij, _ => by
    rw [show i = n by omega, X11_dueMany_4, if_pos (by rw [h.1]; exact Int32.le_refl _)]
    rfl
  | j + 1, m + 1, i, a, hij, hm => by
    have hn := hi.1
    have e1 : nI i + (1 : Int32) = nI (i + 1) := nI_1 i
    have h1 := hi.ld_le (show i < 12 by omega)
    have h2 := hb i (by omega)
    have e3 : sN (w i) 15 = ld w i := rfl
    rw [X11_dueMany_4, if_neg (by rw [h.1]; exact nI_ge (by omega) (by omega)), ck_n (show i < 15 by omega) (by omega), load_ok h (show i < 12 by omega), bd_s, rfm.2.2.1, ix_n (by omega), hg i (by omega), e3, isDueM_ok _ _ (by omega) (by omega), bd_s]
    simp only [lt_e, e1, ite_b1z, cntB]
    by_cases hd : 0 < ld w i ∧ ld w i ≤ g i
    · have e4 : due w g i = true := decide_eq_true hd
      rw [if_pos hd, show nI a + (1 : Int32) = nI (a + 1) from nI_1 a, dueMany_4_ok h hi hg hb K j m (i + 1) (a + 1) (by omega) (by omega), e4, if_pos rfl, Nat.add_assoc]
    · have e4 : due w g i = false := decide_eq_false hd
      rw [if_neg hd, show nI a + (0 : Int32) = nI (a + 0) from nI_add a 0, dueMany_4_ok h hi hg hb K j m (i + 1) (a + 0) (by omega) (by omega), e4, if_neg (by decide), Nat.add_zero, Nat.zero_add]
theorem dueMany_ok (h : MSl S n kd w) (hi : ISl n kd w) (hg : MG S 176 n g) (hb : BG n g) : X11_dueMany S 173 = some (S, nI (cntB (due w g) n 0)) := by
  unfold X11_dueMany
  have := hi.1
  rw [show (0 : Int32) = nI 0 from rfl, dueMany_4_ok h hi hg hb _ n FU 0 0 (by omega) (by unfold FU; omega), Nat.zero_add]
end
