/-! slides of the class's heaps -/
section
variable {n kh : Nat} {kd : Nat → Nat} {w : Nat → Nat → Nat}
theorem ls28_ok (hk : kh = 17 ∨ kh = 21) (hi : ISl n kd w) {p t : Nat} (hp : p < n) (K : St → Int32 → Option (St × Int32)) : ∀ (j m i : Nat) (S : St) (a : Nat → Nat), i + j = n → j < m → CSl S n kd w → (∀ e, e < n → S.1 (kh + 1) e = nI (a e)) → ∃ S2, X2_letSlide_28 kh (nI p) (nI t) K m S (nI i) = K S2 (nI n) ∧ Same (fun k => k = kh + 1) S S2 ∧ ∀ e, e < n → S2.1 (kh + 1) e = nI (if i ≤ e then a e + t * w p e else a e)
  | 0, 0, _, _, _, _, h, _, _ => absurd h (by omega)
  | j + 1, 0, _, _, _, _, h, _, _ => absurd h (by omega)
  | 0, m + 1, i, S, a, hij, _, h, ha => by
    refine ⟨S, ?_, Same.rf, fun e he => ?_⟩
    · rw [show i = n by omega, X2_letSlide_28, (rf_h hk).1, if_pos (by rw [h.1]; exact Int32.le_refl _)]
    · rw [ha e he, if_neg (by omega)]
  | j + 1, m + 1, i, S, a, hij, hm, h, ha => by
    have hn := hi.1
    have e1 : nI i + (1 : Int32) = nI (i + 1) := nI_1 i
    have hs := same_I S (kh + 1) i (nI (a i + t * w p i))
    obtain ⟨S2, q1, q2, q3⟩ := ls28_ok hk hi (t := t) hp K j m (i + 1) (setI S (kh + 1) i (nI (a i + t * w p i))) (fun e => if e = i then a i + t * w p i else a e) (by omega) (by omega) (h.go hs (by intro k h1 h2 h3; omega)) (fun e he => by
      rw [sI1]
      by_cases h1 : e = i
      · rw [if_pos ⟨rfl, h1⟩, if_pos h1]
      · rw [if_neg (fun q => h1 q.2), if_neg h1, ha e he])
    refine ⟨S2, ?_, (hs.tr q2).mo (fun k hk => by omega), fun e he => ?_⟩
    · rw [X2_letSlide_28, (rf_h hk).1, if_neg (by rw [h.1]; exact nI_ge (by omega) (by omega))]
      simp only [lt_e, e1, (rf_h hk).2.1, rf_11, rf_3, ck_n (show i < 12 by omega) (by omega), ck_n (show p < 12 by omega) (by omega), ck_n (show i < 15 by omega) (by omega), ix_n (show i < 2147483648 by omega), ix_n (show p < 2147483648 by omega), ha i (by omega), h.2.2.1 p i (by omega) (by omega), pk_mul, nI_add]
      exact q1
    · rw [q3 e he]
      by_cases h1 : e = i
      · subst h1
        rw [if_neg (by omega), if_pos rfl, if_pos (Nat.le_refl _)]
      · rw [if_neg h1]
        by_cases h2 : i ≤ e
        · rw [if_pos (by omega), if_pos h2]
        · rw [if_neg (by omega), if_neg h2]
theorem ls69_ok (hk : kh = 17 ∨ kh = 21) (hi : ISl n kd w) {p t : Nat} (hp : p < n) (ht : t ≤ 2000000) (K : St → Int32 → Option (St × Int32)) : ∀ (j m i : Nat) (S : St), i + j = 3 → j < m → CSl S n kd w → ∃ S2, X2_letSlide_69 kh (nI p) (nI t) K m S (nI i) = K S2 (nI 3) ∧ Same (fun k => k = kh + 2) S S2 ∧ S2.1 = S.1 ∧ ∀ d, d < 3 → S2.2 (kh + 2) d = if i ≤ d then S.2 (kh + 2) d + lN (t * w p (12 + d)) else S.2 (kh + 2) d
  | 0, 0, _, _, _, h, _ => absurd h (by omega)
  | j + 1, 0, _, _, _, h, _ => absurd h (by omega)
  | 0, m + 1, i, S, hij, _, h => by
    refine ⟨S, ?_, Same.rf, rfl, fun d hd => ?_⟩
    · rw [show i = 3 by omega, X2_letSlide_69, if_pos (by decide)]
    · rw [if_neg (by omega)]
  | j + 1, m + 1, i, S, hij, hm, h => by
    have hn := hi.1
    have e1 : nI i + (1 : Int32) = nI (i + 1) := nI_1 i
    have e0 : (12 : Int32) + nI i = nI (12 + i) := nI_add 12 i
    have w1 := hi.w_le (show p < 12 by omega) (show 12 + i < 15 by omega)
    have hs := same_J S (kh + 2) i (S.2 (kh + 2) i + lN (t * w p (12 + i)))
    obtain ⟨S2, q1, q2, q3, q4⟩ := ls69_ok hk hi hp ht K j m (i + 1) (setJ S (kh + 2) i (S.2 (kh + 2) i + lN (t * w p (12 + i)))) (by omega) (by omega) (h.go hs (by intro k h1 h2 h3; omega))
    refine ⟨S2, ?_, (hs.tr q2).mo (fun k hk => by omega), q3, fun d hd => ?_⟩
    · rw [X2_letSlide_69, if_neg (by rw [show (3 : Int32) = nI 3 from rfl]; exact nI_ge (by omega) (by omega))]
      simp only [lt_e, e1, e0, (rf_h hk).1, (rf_h hk).2.2.1, rf_11, rf_3, ck_n (show i < 3 by omega) (by omega), ck_n (show p < 12 by omega) (by omega), ck_n (show 12 + i < 15 by omega) (by omega), ix_n (show i < 2147483648 by omega), ix_n (show p < 2147483648 by omega), ix_n (show 12 + i < 2147483648 by omega), h.2.2.1 p (12 + i) (by omega) (by omega), nI_l (show t < 2 ^ 31 by omega), nI_l (show w p (12 + i) < 2 ^ 31 by omega), lN_mul]
      exact q1
    · rw [q4 d hd]
      by_cases h1 : d = i
      · subst h1
        rw [if_neg (by omega), sJ2, if_pos ⟨rfl, rfl⟩, if_pos (Nat.le_refl _)]
      · have e9 : (setJ S (kh + 2) i (S.2 (kh + 2) i + lN (t * w p (12 + i)))).2 (kh + 2) d = S.2 (kh + 2) d := by rw [sJ2, if_neg (fun q => h1 q.2)]
        rw [e9]
        by_cases h2 : i ≤ d
        · rw [if_pos (by omega), if_pos h2]
        · rw [if_neg (by omega), if_neg h2]
theorem letSlide_ok {S : St} {g : Nat → Nat} (hk : kh = 17 ∨ kh = 21) (h : CSl S n kd w) (hi : ISl n kd w) (hg : CG S kh n g) (hb : BG n g) {p : Nat} (hp : p < n) : ∃ S2, X2_letSlide S kh (nI p) = some (S2, nI (tms w kd g p)) ∧ Same (fun k => k = kh + 1 ∨ k = kh + 2 ∨ k = kh + 3) S S2 ∧ CG S2 kh n (sld w g (tms w kd g p) p) ∧ (∀ d, d < 3 → S2.2 (kh + 2) d = S.2 (kh + 2) d + lN (tms w kd g p * w p (12 + d))) ∧ ∀ q, S2.2 (kh + 3) q = if q = p then S.2 (kh + 3) p + lN (tms w kd g p) else S.2 (kh + 3) q := by
  have hn := hi.1
  obtain ⟨t1, t2⟩ := tms_le hi hb hp
  have e1 : S.1 16 p = nI (ld w p) := h.2.2.2 p (by omega)
  unfold X2_letSlide
  rw [timesAtOnce_ok hk h hi hg hb hp, bd_s]
  generalize hT : tms w kd g p = t at t1 t2 ⊢
  obtain ⟨r0, r1, r2, r3⟩ := rf_h hk
  have hs := same_I S (kh + 1) p (nI (g p - t * ld w p))
  simp only [lt_e, r0, r1, r3, rf_12, ck_n (show p < 12 by omega) (by omega), ix_n (show p < 2147483648 by omega), e1, hg p hp, pk_mul, pk_sub t1]
  have h1 := h.go hs (by intro k h1 h2 h3; omega)
  obtain ⟨S2, a1, a2, a3⟩ := ls28_ok hk hi (t := t) hp (fun S35 _ => X2_letSlide_69 kh (nI p) (nI t) (fun S44 _ => some (setJ S44 (kh + 3) p (S44.2 (kh + 3) p + Int32.toInt64 (nI t)), nI t)) FU S35 0) n FU 0 (setI S (kh + 1) p (nI (g p - t * ld w p))) (fun e => if e = p then g p - t * ld w p else g e) (by omega) (by unfold FU; omega) h1 (fun e he => by
    rw [sI1]
    by_cases h3 : e = p
    · rw [if_pos ⟨rfl, h3⟩, if_pos h3]
    · rw [if_neg (fun q => h3 q.2), if_neg h3, hg e he])
  have h2 := h1.go a2 (by intro k h1 h2 h3; omega)
  obtain ⟨S3, b1', b2, b3, b4⟩ := ls69_ok hk hi hp t2 (fun S44 _ => some (setJ S44 (kh + 3) p (S44.2 (kh + 3) p + Int32.toInt64 (nI t)), nI t)) 3 FU 0 S2 (by omega) (by decide) h2
  have hs3 := same_J S3 (kh + 3) p (S3.2 (kh + 3) p + Int32.toInt64 (nI t))
  refine ⟨_, a1.trans (b1'.trans rfl), (((hs.tr a2).tr b2).tr hs3).mo (fun k hk => by omega), fun e he => ?_, fun d hd => ?_, fun q => ?_⟩
  · rw [sJ1, b3, a3 e he, if_pos (Nat.zero_le _)]
    rfl
  · rw [sJ2, if_neg (fun q => by omega), b4 d hd, if_pos (Nat.zero_le _), (a2 (kh + 2) (by omega)).2]
    rfl
  · rw [sJ2]
    have e3 : ∀ x, S3.2 (kh + 3) x = S.2 (kh + 3) x := fun x => by rw [(b2 (kh + 3) (by omega)).2, (a2 (kh + 3) (by omega)).2]; rfl
    rw [e3, e3, nI_l (by omega)]
    by_cases h3 : q = p
    · rw [if_pos ⟨rfl, h3⟩, if_pos h3]
    · rw [if_neg (fun z => h3 z.2), if_neg h3]
end
