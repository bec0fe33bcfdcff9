/-! slidings until all stands, in manner 0, at most so many slides -/
theorem anyB_f {P : Nat → Bool} : ∀ {j i : Nat}, anyB P j i = false → ∀ d, i ≤ d → d < i + j → P d = false
  | 0, _, _, d, h1, h2 => absurd h2 (by omega)
  | j + 1, i, h, d, h1, h2 => by
    rw [anyB, Bool.or_eq_false_iff] at h
    by_cases e : d = i
    · rw [e]; exact h.1
    · exact anyB_f h.2 d (by omega) (by omega)
theorem anyB_t {P : Nat → Bool} : ∀ {j i : Nat}, anyB P j i = true → ∃ d, i ≤ d ∧ d < i + j ∧ P d = true
  | 0, _, h => by cases h
  | j + 1, i, h => by
    rw [anyB, Bool.or_eq_true] at h
    rcases h with h | h
    · exact ⟨i, Nat.le_refl _, by omega, h⟩
    · obtain ⟨d, h1, h2, h3⟩ := anyB_t h
      exact ⟨d, by omega, by omega, h3⟩
theorem fstB_some {P : Nat → Bool} : ∀ {j i p : Nat}, (∀ d, i ≤ d → d < p → P d = false) → P p = true → i ≤ p → p < i + j → fstB P j i = some p
  | 0, _, _, _, _, h1, h2 => absurd h2 (by omega)
  | j + 1, i, p, h, hp, h1, h2 => by
    rw [fstB]
    by_cases e : i = p
    · rw [e, if_pos hp]
    · rw [h i (Nat.le_refl _) (by omega), if_neg (by decide)]
      exact fstB_some (fun d a b => h d (by omega) b) hp (by omega) (by omega)
theorem fstB_none {P : Nat → Bool} : ∀ {j i : Nat}, (∀ d, i ≤ d → d < i + j → P d = false) → fstB P j i = none
  | 0, _, _ => rfl
  | j + 1, i, h => by
    rw [fstB, h i (Nat.le_refl _) (by omega), if_neg (by decide)]
    exact fstB_none (fun d a b => h d (by omega) (by omega))
def stl (w : Nat → Nat → Nat) (kd : Nat → Nat) (n : Nat) : Nat → (Nat → Nat) → Option (Nat → Nat)
  | 0, g => match fstB (due w g) n 0 with
    | none => some g
    | some _ => none
  | k + 1, g => match fstB (due w g) n 0 with
    | none => some g
    | some p => cond (ovf w g (tms w kd g p) p n) none (stl w kd n k (sld w g (tms w kd g p) p))
def stlT (w : Nat → Nat → Nat) (kd : Nat → Nat) (n : Nat) (g : Nat → Nat) : Option (Nat → Nat) := cond (anyB (fun p => decide (1000000 < g p)) n 0) none (stl w kd n 20000 g)
section
variable {n kh : Nat} {kd : Nat → Nat} {w : Nat → Nat → Nat}
theorem stl_none {g : Nat → Nat} (k : Nat) (h : fstB (due w g) n 0 = none) : stl w kd n k g = some g := by cases k <;> simp [stl, h]
theorem B1.sld {g : Nat → Nat} {t p : Nat} (h : B1 n g) (ho : ovf w g t p n = false) : B1 n (sld w g t p) := by
  intro e he
  have h1 := anyB_f ho e (Nat.zero_le _) (by omega)
  have h2 : ¬ 1000000 < g e + t * w p e := of_decide_eq_false h1
  show (if e = p then g p - t * ld w p else g e) + t * w p e ≤ 1000000
  split
  · next q => subst q; omega
  · omega
theorem stl_ok {g g1 : Nat → Nat} : ∀ {k : Nat}, B1 n g → stl w kd n k g = some g1 → B1 n g1 ∧ fstB (due w g1) n 0 = none := by
  intro k
  induction k generalizing g with
  | zero =>
    intro hb h
    rw [stl] at h
    cases hf : fstB (due w g) n 0 with
    | none => rw [hf] at h; cases h; exact ⟨hb, hf⟩
    | some p => rw [hf] at h; cases h
  | succ k ih =>
    intro hb h
    rw [stl] at h
    cases hf : fstB (due w g) n 0 with
    | none => rw [hf] at h; cases h; exact ⟨hb, hf⟩
    | some p =>
      rw [hf] at h
      simp only at h
      cases ho : ovf w g (tms w kd g p) p n with
      | true => rw [ho] at h; cases h
      | false => rw [ho] at h; exact ih (hb.sld ho) h
theorem settle_11_ok (hk : kh = 17 ∨ kh = 21) (hi : ISl n kd w) (K : St → Int32 → Option (St × Int32)) (hK : ∀ S v, K S v = bd (X2_stands S kh) fun S32 v33 => gu (v33 = 0 ∨ v33 = 1) (some (S32, v33))) : ∀ (k m i : Nat) (S : St) (g : Nat → Nat), i + k = 20000 → k < m → CSl S n kd w → CG S kh n g → B1 n g → ∃ S2, X2_settle_11 kh K m S (nI i) = some (S2, b1 ((stl w kd n k g).isSome = true)) ∧ Same (fun q => q = kh + 1 ∨ q = kh + 2 ∨ q = kh + 3) S S2 ∧ ∀ g1, stl w kd n k g = some g1 → CG S2 kh n g1
  | 0, 0, _, _, _, _, h, _, _, _ => absurd h (by omega)
  | k + 1, 0, _, _, _, _, h, _, _, _ => absurd h (by omega)
  | 0, m + 1, i, S, g, hik, _, h, hg, hb => by
    refine ⟨S, ?_, Same.rf, fun g1 h1 => ?_⟩
    · rw [show i = 20000 by omega, X2_settle_11, if_pos (by decide), hK, stands_ok hk h hi hg hb.b, bd_s, b1_g]
      cases hf : fstB (due w g) n 0 with
      | none => rw [stl_none 0 hf]; rfl
      | some p => simp only [stl, hf]; rfl
    · rw [stl] at h1
      cases hf : fstB (due w g) n 0 with
      | none => rw [hf] at h1; cases h1; exact hg
      | some p => rw [hf] at h1; cases h1
  | k + 1, m + 1, i, S, g, hik, hm, h, hg, hb => by
    have hn := hi.1
    have e1 : nI i + (1 : Int32) = nI (i + 1) := nI_1 i
    rw [X2_settle_11, if_neg (by rw [show (20000 : Int32) = nI 20000 from rfl]; exact nI_ge (by omega) (by omega)), lowestDue_ok hk h hi hg hb.b, bd_s]
    cases hf : fstB (due w g) n 0 with
    | none =>
      refine ⟨S, ?_, Same.rf, fun g1 h1 => ?_⟩
      · rw [if_neg (fun q => q rfl), stl_none (k + 1) hf]; rfl
      · rw [stl_none (k + 1) hf] at h1; cases h1; exact hg
    | some p =>
      have hp := fstB_lt hf
      have hpn : p < n := by omega
      have ne : ¬ oI (some p) = -1 := fun q => by
        have := (oI_m1 (o := some p) (fun q hq => by cases hq; omega)).mp q
        cases this
      rw [if_pos ne]
      show ∃ S2, bd (X2_wouldOverfill S kh (nI p)) _ = _ ∧ _
      rw [wouldOverfill_ok hk h hi hg hb.b hpn, bd_s, ite_b1z, stl, hf]
      cases ho : ovf w g (tms w kd g p) p n with
      | true =>
        refine ⟨S, ?_, Same.rf, fun g1 h1 => ?_⟩
        · rw [if_pos rfl]; simp only [ho, cond_true]; rfl
        · simp only [ho, cond_true] at h1; cases h1
      | false =>
        rw [if_neg (by decide)]
        obtain ⟨S1, a1, a2, a3, -, -⟩ := letSlide_ok hk h hi hg hb.b hpn
        show ∃ S2, bd (X2_letSlide S kh (nI p)) _ = _ ∧ _
        rw [a1, bd_s]
        simp only [lt_e, e1, ho, cond_false]
        obtain ⟨S2, b1', b2, b3⟩ := settle_11_ok hk hi K hK k m (i + 1) S1 (sld w g (tms w kd g p) p) (by omega) (by omega) (h.go a2 (by intro q h1 h2 h3; omega)) a3 (hb.sld ho)
        exact ⟨S2, b1', (a2.tr b2).mo (fun q hq => by omega), b3⟩
theorem isOver_2_ok {S : St} {g : Nat → Nat} (hk : kh = 17 ∨ kh = 21) (h : CSl S n kd w) (hi : ISl n kd w) (hg : CG S kh n g) (hb : BG n g) (K : St → Int32 → Option (St × Int32)) : ∀ (j m i : Nat), i + j = n → j < m → X2_isOverfilled_2 kh K m S (nI i) = cond (anyB (fun p => decide (1000000 < g p)) j i) (some (S, 1)) (K S (nI n))
  | 0, 0, _, _, h => absurd h (by omega)
  | j + 1, 0, _, _, h => absurd h (by omega)
  | 0, m + 1, i, hij, _ => by
    rw [show i = n by omega, X2_isOverfilled_2, (rf_h hk).1, if_pos (by rw [h.1]; exact Int32.le_refl _)]
    rfl
  | j + 1, m + 1, i, hij, hm => by
    have hn := hi.1
    have e1 : nI i + (1 : Int32) = nI (i + 1) := nI_1 i
    have g1 := hb i (by omega)
    rw [X2_isOverfilled_2, (rf_h hk).1, if_neg (by rw [h.1]; exact nI_ge (by omega) (by omega))]
    simp only [lt_e, e1, (rf_h hk).2.1, ck_n (show i < 12 by omega) (by omega), ix_n (show i < 2147483648 by omega), hg i (by omega), le32, lits, nT (show g i < 2147483648 by omega), anyB]
    by_cases h0 : g i ≤ 1000000
    · rw [if_pos (by omega), isOver_2_ok hk h hi hg hb K j m (i + 1) (by omega) (by omega), decide_eq_false (by omega), Bool.false_or]
    · rw [if_neg (by omega), decide_eq_true (by omega)]; rfl
theorem over_B1 {g : Nat → Nat} (h : anyB (fun p => decide (1000000 < g p)) n 0 = false) : B1 n g := fun p hp => by
  have := anyB_f h p (Nat.zero_le _) (by omega)
  have h2 : ¬ 1000000 < g p := of_decide_eq_false this
  omega
theorem settle_ok {S : St} {g : Nat → Nat} (hk : kh = 17 ∨ kh = 21) (h : CSl S n kd w) (hi : ISl n kd w) (hg : CG S kh n g) (hb : BG n g) : ∃ S2, X2_settle S kh = some (S2, b1 ((stlT w kd n g).isSome = true)) ∧ Same (fun q => q = kh + 1 ∨ q = kh + 2 ∨ q = kh + 3) S S2 ∧ ∀ g1, stlT w kd n g = some g1 → CG S2 kh n g1 := by
  unfold X2_settle stlT
  have hn := hi.1
  unfold X2_isOverfilled
  rw [show (0 : Int32) = nI 0 from rfl, isOver_2_ok hk h hi hg hb _ n FU 0 (by omega) (by unfold FU; omega)]
  cases ho : anyB (fun p => decide (1000000 < g p)) n 0 with
  | true =>
    refine ⟨S, ?_, Same.rf, fun g1 h1 => by cases h1⟩
    rw [cond_true, bd_s, if_neg (by decide)]; rfl
  | false =>
    rw [cond_false, bd_s, if_pos rfl]
    exact settle_11_ok hk hi _ (fun _ _ => rfl) 20000 FU 0 S g (by omega) (by unfold FU; omega) h hg (over_B1 ho)
-- ---- the reference
theorem settlesM_57_ok (hi : ISl n kd w) (K : St → Int32 → Int32 → Option (St × Int32)) (hK : ∀ S a b, K S a b = some (S, 1)) : ∀ (k m i j p : Nat) (S : St) (g : Nat → Nat), i + k = 20000 → p + j = n → 14 * k + j < m → MSl S n kd w → MG S 194 n g → B1 n g → (∀ q, q < p → due w g q = false) → ∃ S2, X11_settles_57 173 K m S (nI i) (nI p) = some (S2, b1 ((stl w kd n k g).isSome = true)) ∧ Same (fun q => q = 194) S S2 ∧ S2.1 = S.1 ∧ ∀ g1, stl w kd n k g = some g1 → MG S2 194 n g1 := by
  intro k m
  induction m generalizing k with
  | zero => intro i j p S g _ _ h; exact absurd h (by omega)
  | succ m ih =>
    intro i j p S g hik hpj hm h hg hb hq
    have hn := hi.1
    rw [X11_settles_57]
    by_cases hj : j = 0
    · have hpn : p = n := by omega
      have hf : fstB (due w g) n 0 = none := fstB_none (fun d _ hd => hq d (by omega))
      rw [hpn, if_pos (by rw [h.1]; exact Int32.le_refl _), hK, stl_none k hf]
      exact ⟨S, rfl, Same.rf, rfl, fun g1 h1 => by cases h1; exact hg⟩
    · have hpn : p < n := by omega
      have e1 : nI p + (1 : Int32) = nI (p + 1) := nI_1 p
      have e2 : nI i + (1 : Int32) = nI (i + 1) := nI_1 i
      have h1 := hi.ld_le (show p < 12 by omega)
      have h2 := hb p hpn
      have e3 : sN (w p) 15 = ld w p := rfl
      rw [if_neg (by rw [h.1]; exact nI_ge hpn (by omega)), ck_n (show p < 15 by omega) (by omega), load_ok h (show p < 12 by omega), bd_s, show rf 173 32 = 194 from rfm.2.2.2.2.2.2.2.2.2.2.2.2.2.2.2.2.2.2.2.2.1, ix_n (by omega), hg p hpn, e3, isDueM_ok _ _ (by omega) (by omega), bd_s, ite_b1n]
      by_cases hd : 0 < ld w p ∧ ld w p ≤ g p
      · have hd2 : due w g p = true := decide_eq_true hd
        have hf : fstB (due w g) n 0 = some p := fstB_some (fun d _ h3 => hq d h3) hd2 (Nat.zero_le _) (by omega)
        rw [if_pos hd]
        simp only [lt_e, e2]
        cases k with
        | zero =>
          rw [if_pos (by rw [show i = 20000 by omega]; rfl)]
          refine ⟨S, ?_, Same.rf, rfl, fun g1 h3 => ?_⟩
          · simp only [stl, hf]; rfl
          · simp only [stl, hf] at h3; cases h3
        | succ k =>
          rw [if_neg (by rw [show (20000 : Int32) = nI 20000 from rfl, nI_eq (by omega) (by omega)]; omega), tooMuch_ok h hi hg hb.b hpn h2 hd2, bd_s, ite_b1z, stl, hf]
          cases ho : ovf w g (tms w kd g p) p n with
          | true =>
            refine ⟨S, ?_, Same.rf, rfl, fun g1 h3 => ?_⟩
            · rw [if_pos rfl]; simp only [ho, cond_true]; rfl
            · simp only [ho, cond_true] at h3; cases h3
          | false =>
            rw [if_neg (by decide)]
            obtain ⟨S1, a1, a2, a3, a4, -⟩ := slides_ok h hi (Or.inr rfl) hg hb.b hpn hd2
            rw [a1, bd_s]
            simp only [ho, cond_false]
            obtain ⟨S2, b1', b2, b3, b4⟩ := ih k (i + 1) n 0 S1 (sld w g (tms w kd g p) p) (by omega) (by omega) (by omega) (h.go a2 (by intro q h1 h2 h3; omega)) a4 (hb.sld ho) (fun q h3 => absurd h3 (by omega))
            exact ⟨S2, b1', (a2.tr b2).mo (fun q hq => by omega), b3.trans a3, b4⟩
      · rw [if_neg hd]
        simp only [lt_e, e1]
        exact ih k i (j - 1) (p + 1) S g hik (by omega) (by omega) h hg hb (fun q h3 => by
          by_cases e : q = p
          · rw [e]; exact decide_eq_false hd
          · exact hq q (by omega))
theorem settlesM_24_ok {S : St} {g : Nat → Nat} (h : MSl S n kd w) (hi : ISl n kd w) (hg : MG S 194 n g) (hb : BG n g) (K : St → Int32 → Option (St × Int32)) : ∀ (j m i : Nat), i + j = n → j < m → X11_settles_24 173 K m S (nI i) = cond (anyB (fun p => decide (1000000 < g p)) j i) (some (S, 0)) (K S (nI n))
  | 0, 0, _, _, h => absurd h (by omega)
  | j + 1, 0, _, _, h => absurd h (by omega)
  | 0, m + 1, i, hij, _ => by
    rw [show i = n by omega, X11_settles_24, if_pos (by rw [h.1]; exact Int32.le_refl _)]
    rfl
  | j + 1, m + 1, i, hij, hm => by
    have hn := hi.1
    have e1 : nI i + (1 : Int32) = nI (i + 1) := nI_1 i
    have g1 := hb i (by omega)
    rw [X11_settles_24, if_neg (by rw [h.1]; exact nI_ge (by omega) (by omega)), show rf 173 32 = 194 from rfm.2.2.2.2.2.2.2.2.2.2.2.2.2.2.2.2.2.2.2.2.1]
    simp only [lt_e, e1, ck_n (show i < 15 by omega) (by omega), ix_n (show i < 2147483648 by omega), hg i (by omega), show (1000000 : Int64) = lN 1000000 from rfl, pk_lLE (show g i < 2 ^ 63 by omega) (show 1000000 < 2 ^ 63 by omega), anyB]
    by_cases h0 : g i ≤ 1000000
    · rw [if_pos h0, settlesM_24_ok h hi hg hb K j m (i + 1) (by omega) (by omega), decide_eq_false (by omega), Bool.false_or]
    · rw [if_neg h0, decide_eq_true (by omega)]; rfl
theorem settlesM_ok {S : St} {g : Nat → Nat} (h : MSl S n kd w) (hi : ISl n kd w) (hg : MG S 194 n g) (hb : BG n g) : ∃ S2, X11_settles S 173 = some (S2, b1 ((stlT w kd n g).isSome = true)) ∧ Same (fun q => q = 194) S S2 ∧ S2.1 = S.1 ∧ ∀ g1, stlT w kd n g = some g1 → MG S2 194 n g1 := by
  have hn := hi.1
  have r : rf 173 32 = 194 := rfm.2.2.2.2.2.2.2.2.2.2.2.2.2.2.2.2.2.2.2.2.1
  unfold X11_settles
  obtain ⟨m, hm⟩ := FU_is 4 (by decide)
  have key : ∀ (K : St → Int32 → Option (St × Int32)), X11_settles_3 173 K FU S 12 = K (setJ (setJ (setJ S 194 12 0) 194 13 0) 194 14 0) 15 := by
    intro K
    rw [hm]
    show X11_settles_3 173 K (m + 3 + 1) S (nI 12) = _
    rw [X11_settles_3, if_neg (by decide), ck_n (show 12 < 15 by decide) (by decide), r]
    simp only [lt_e]
    show X11_settles_3 173 K (m + 2 + 1) _ (nI 13) = _
    rw [X11_settles_3, if_neg (by decide), ck_n (show 13 < 15 by decide) (by decide), r]
    simp only [lt_e]
    show X11_settles_3 173 K (m + 1 + 1) _ (nI 14) = _
    rw [X11_settles_3, if_neg (by decide), ck_n (show 14 < 15 by decide) (by decide), r]
    simp only [lt_e]
    show X11_settles_3 173 K (m + 1) _ (nI 15) = _
    rw [X11_settles_3, if_pos (by decide)]
    rfl
  rw [key]
  have hs : Same (fun q => q = 194) S (setJ (setJ (setJ S 194 12 0) 194 13 0) 194 14 0) := (((same_J S 194 12 0).tr (same_J _ 194 13 0)).tr (same_J _ 194 14 0)).mo (fun q hq => by omega)
  have hS1 : (setJ (setJ (setJ S 194 12 0) 194 13 0) 194 14 0).1 = S.1 := rfl
  have hg1 : MG (setJ (setJ (setJ S 194 12 0) 194 13 0) 194 14 0) 194 n g := fun p hp => by
    rw [sJ2, if_neg (by omega), sJ2, if_neg (by omega), sJ2, if_neg (by omega)]
    exact hg p hp
  have h1 := h.go hs (by intro q a b c; omega)
  generalize setJ (setJ (setJ S 194 12 0) 194 13 0) 194 14 0 = S1 at hs hS1 hg1 h1 ⊢
  rw [show (0 : Int32) = nI 0 from rfl, settlesM_24_ok h1 hi hg1 hb _ n FU 0 (by omega) (by unfold FU; omega)]
  unfold stlT
  cases ho : anyB (fun p => decide (1000000 < g p)) n 0 with
  | true => exact ⟨S1, rfl, hs, hS1, fun g1 h2 => by cases h2⟩
  | false =>
    rw [cond_false, cond_false]
    obtain ⟨S2, a1, a2, a3, a4⟩ := settlesM_57_ok hi (fun S45 _ _ => some (S45, 1)) (fun _ _ _ => rfl) 20000 FU 0 n 0 S1 g (by omega) (by omega) (by unfold FU; omega) h1 hg1 (over_B1 ho) (fun q h3 => absurd h3 (by omega))
    exact ⟨S2, a1, (hs.tr a2).mo (fun q hq => by omega), a3.trans hS1, a4⟩
end
