/-! copy, spread -/
abbrev strP (a b : Int32) (l : Nat) : Prop := 0 ≤ a.toInt ∧ 0 ≤ b.toInt ∧ a.toInt + b.toInt ≤ l
section
variable {S : St} {c : Nat}
theorem str_c {a b : Int32} {l : Nat} (hl : l < 1000) : X10_isStretch S a b (nI l) = some (S, b1 (strP a b l)) := by
  have lN' := nT (show l < 2147483648 by omega)
  have hb := b.toInt_lt
  have hb2 := b.le_toInt
  unfold X10_isStretch b1
  simp only [lt_e, lt32, lits, lN']
  by_cases z1 : a.toInt < 0
  · rw [if_pos z1, if_neg (fun y => by omega)]
  · rw [if_neg z1]
    by_cases z2 : b.toInt < 0
    · rw [if_pos z2, if_neg (fun y => by omega)]
    · rw [if_neg z2]
      have e1 : (nI l - b).toInt = (l : Int) - b.toInt := by
        rw [i_sub (by rw [lN']; omega) (by rw [lN']; omega), lN']
      rw [e1]
      by_cases z3 : (l : Int) < b.toInt
      · rw [if_pos z3, if_neg (fun y => by omega)]
      · rw [if_neg z3]
        by_cases z4 : (l : Int) - b.toInt < a.toInt
        · rw [if_pos z4, if_neg (fun y => by omega)]
        · rw [if_neg z4, if_pos (by omega)]
theorem t64 (a : Int32) : (Int32.toInt64 a).toInt = a.toInt := Int32.toInt_toInt64 a
theorem add64 (a b : Int32) : (Int32.toInt64 a + Int32.toInt64 b).toInt = a.toInt + b.toInt := by
  have h1 := a.toInt_lt
  have h2 := a.le_toInt
  have h3 := b.toInt_lt
  have h4 := b.le_toInt
  rw [l_add (by rw [t64, t64]; omega) (by rw [t64, t64]; omega), t64, t64]
theorem op_copy (h : RelX S c) (u v x y z : Int32) : Ok S c (fun S => X10_copy S 0 u v x y z) (fun S => X11_copy S 173 u v x y z) := by
  obtain ⟨n, kd, w, bg, g, mn, hR⟩ := h
  have hR0 := hR
  obtain ⟨⟨a1, a2, a3, a4, a5, a6⟩, ⟨b1', b2, b3, b4⟩, ⟨c1, c2, c3, c4⟩, d1, d2⟩ := hR0
  have hn := a3.1
  have nN := nT (show n < 2147483648 by omega)
  have has := has_ok a1.1 hn
  have ha0 := a1.1
  have cb := b1'.1
  by_cases q1 : inN u 4
  · by_cases q2 : inN x 4
    · obtain ⟨t, ht, rfl⟩ := inN_of q1 (by omega)
      obtain ⟨s, hs, rfl⟩ := inN_of q2 (by omega)
      obtain ⟨b, l, hb, hl, t1, t2, t3, t4, t5⟩ := d1 t ht
      obtain ⟨b', l', hb', hl', t1', t2', t3', t4', t5'⟩ := d1 s hs
      have ms := miss_c (S := S) (show b < 100 by omega) t1
      have ms' := miss_c (S := S) (show b' < 100 by omega) t1'
      have bz : (nI b = 0) ↔ b = 0 := by rw [show (0 : Int32) = nI 0 from rfl, nI_eq (by omega) (by omega)]
      have bz' : (nI b' = 0) ↔ b' = 0 := by rw [show (0 : Int32) = nI 0 from rfl, nI_eq (by omega) (by omega)]
      have lN' := nT (show l < 2147483648 by omega)
      have lN2 := nT (show l' < 2147483648 by omega)
      by_cases q3 : b = 0
      · refine Ok.fd hR (v := -2) ?_ ?_
        · show X10_copy S 0 (nI t) v (nI s) y z = _
          simp only [X10_copy, isTer_c, bd_s, lt_e, ite_b1z, ite_b1n, if_pos q1, if_pos q2, ck_n ht (show 4 < 2147483648 by omega), rfs, rf_161, ix_n (show t < 2147483648 by omega), ms, if_pos q3, found_c]
        · intro S1 q
          show X11_copy S1 173 (nI t) v (nI s) y z = _
          simp only [X11_copy, isTer_m, bd_s, lt_e, ite_b1z, ite_b1n, if_pos q1, if_pos q2, ck_n ht (show 4 < 2147483648 by omega), rfm, ix_n (show t < 2147483648 by omega), q.i (show 173 ≤ 184 by omega), t2, if_pos (bz.mpr q3), found_m]
      · by_cases q4 : b' = 0
        · refine Ok.fd hR (v := -2) ?_ ?_
          · show X10_copy S 0 (nI t) v (nI s) y z = _
            simp only [X10_copy, isTer_c, bd_s, lt_e, ite_b1z, ite_b1n, if_pos q1, if_pos q2, ck_n ht (show 4 < 2147483648 by omega), ck_n hs (show 4 < 2147483648 by omega), rfs, rf_161, ix_n (show t < 2147483648 by omega), ix_n (show s < 2147483648 by omega), ms, ms', if_neg q3, if_pos q4, found_c]
          · intro S1 q
            show X11_copy S1 173 (nI t) v (nI s) y z = _
            simp only [X11_copy, isTer_m, bd_s, lt_e, ite_b1z, ite_b1n, if_pos q1, if_pos q2, ck_n ht (show 4 < 2147483648 by omega), ck_n hs (show 4 < 2147483648 by omega), rfm, ix_n (show t < 2147483648 by omega), ix_n (show s < 2147483648 by omega), q.i (show 173 ≤ 184 by omega), t2, t2', if_neg (fun y => q3 (bz.mp y)), if_neg (show ¬ ¬ nI b' = 0 from fun y => y (bz'.mpr q4)), found_m]
        · by_cases q5 : b = b'
          · subst q5
            by_cases q6 : strP v z l
            · by_cases q7 : strP y z l'
              · obtain ⟨f, hf, rfl⟩ := inN_of (show inN v 17 by unfold inN; unfold strP at q6; omega) (by omega)
                obtain ⟨e, he, rfl⟩ := inN_of (show inN y 17 by unfold inN; unfold strP at q7; omega) (by omega)
                obtain ⟨k, hk, rfl⟩ := inN_of (show inN z 17 by unfold inN; unfold strP at q6; omega) (by omega)
                have fN := nT (show f < 2147483648 by omega)
                have eN := nT (show e < 2147483648 by omega)
                have kN := nT (show k < 2147483648 by omega)
                have w1 : f + k ≤ l := by have := q6.2.2; rw [fN, kN] at this; omega
                have w2 : e + k ≤ l' := by have := q7.2.2; rw [eN, kN] at this; omega
                have hsa := sm_L S (163 + 2 * s) (va_cpy (S.2 (163 + 2 * t)) (S.2 (163 + 2 * s)) f e k)
                have q : CT S (setL S (163 + 2 * s) (va_cpy (S.2 (163 + 2 * t)) (S.2 (163 + 2 * s)) f e k)) := hsa.mo (by intro k j hk; omega)
                obtain ⟨Sb, p1, p2, p3⟩ := copy_125_ok ht (show f + k ≤ 16 by omega) (nI s) (nI e) k FU 0 (setL S (163 + 2 * s) (va_cpy (S.2 (163 + 2 * t)) (S.2 (163 + 2 * s)) f e k)) (by omega) (by unfold FU; omega)
                obtain ⟨Sc, r1, r2, r3⟩ := copy_162_ok hs (show e + k ≤ 16 by omega) k FU 0 Sb (by omega) (by unfold FU; omega)
                rw [nI_0] at p1 r1
                have hss := (hsa.tr p2).tr r2
                refine ⟨setL S (163 + 2 * s) (va_cpy (S.2 (163 + 2 * t)) (S.2 (163 + 2 * s)) f e k), Sc, nI k, ?_, ?_, ?_⟩
                · show X10_copy S 0 (nI t) (nI f) (nI s) (nI e) (nI k) = _
                  simp only [X10_copy, isTer_c, bd_s, lt_e, ite_b1z, ite_b1n, if_pos q1, if_pos q2, ck_n ht (show 4 < 2147483648 by omega), ck_n hs (show 4 < 2147483648 by omega), rfs, rf_161, rf_ter ht, rf_ter hs, ix_n (show t < 2147483648 by omega), ix_n (show s < 2147483648 by omega), ix_n (show f < 2147483648 by omega), ix_n (show e < 2147483648 by omega), ix_n (show k < 2147483648 by omega), ms, ms', if_neg q3, if_neg q4, t1, t1', t3, t3', if_true, str_c (show l < 1000 by omega), str_c (show l' < 1000 by omega), if_pos q6, if_pos q7]
                  rw [gu_t]
                  exact ⟨nI_pos (by omega), nI_pos (by omega), nI_pos (by omega), by rw [ix_n (by omega), ix_n (by omega)]; omega, by rw [ix_n (by omega), ix_n (by omega)]; omega⟩
                · show X11_copy _ 173 (nI t) (nI f) (nI s) (nI e) (nI k) = _
                  generalize setL S (163 + 2 * s) (va_cpy (S.2 (163 + 2 * t)) (S.2 (163 + 2 * s)) f e k) = S1 at q p1 ⊢
                  simp only [X11_copy, isTer_m, bd_s, lt_e, ite_b1z, ite_b1n, if_pos q1, if_pos q2, ck_n ht (show 4 < 2147483648 by omega), ck_n hs (show 4 < 2147483648 by omega), rfm, ix_n (show t < 2147483648 by omega), ix_n (show s < 2147483648 by omega), q.i (show 173 ≤ 184 by omega), q.i (show 173 ≤ 185 by omega), t2, t2', t4, t4', if_neg (fun y => q3 (bz.mp y)), if_pos (fun y => q4 (bz'.mp y)), if_true, if_neg (nI_pos (show f < 2 ^ 31 by omega)), if_neg (nI_pos (show e < 2 ^ 31 by omega)), if_neg (nI_pos (show k < 2 ^ 31 by omega)), nI_l (show l < 2 ^ 31 by omega), nI_l (show l' < 2 ^ 31 by omega), nI_l (show f < 2 ^ 31 by omega), nI_l (show e < 2 ^ 31 by omega), nI_l (show k < 2 ^ 31 by omega), lN_add, pk_lLT (show l < 2 ^ 63 by omega) (show f + k < 2 ^ 63 by omega), pk_lLE (show e + k < 2 ^ 63 by omega) (show l' < 2 ^ 63 by omega), if_neg (show ¬ l < f + k by omega), if_pos w2]
                  rw [p1]
                  exact r1 _
                · refine (Rel.re hR hss (by intro k j hk hq; omega) (by intro k j hk hq; omega) a6 (Or.inl (by intro k j hk hq; omega)) (Or.inl ⟨rfl, by intro k j hk hq; omega⟩) (Or.inl (by intro k j hk hq; omega)) (Or.inl ⟨rfl, by intro k j hk hq; omega⟩) (Or.inl ⟨rfl, by intro k j hk hq; omega⟩) (Or.inl (by intro k j hk hq; omega)) (Or.inl (by intro k j hk hq; omega)) (Or.inl (by intro k j hk hq; omega)) (Or.inr (fun r hr => ?_)) (Or.inl (by intro k j hk hq; omega))).x
                  by_cases g1 : r = s
                  · subst g1
                    refine ⟨b, l', hb', hl', ?_, ?_, ?_, ?_, fun i hi => ?_⟩
                    · rw [(hss _ _ (fun z => by omega)).1]; exact t1'
                    · rw [(hss _ _ (fun z => by omega)).1]; exact t2'
                    · rw [(hss _ _ (fun z => by omega)).1]; exact t3'
                    · rw [(hss _ _ (fun z => by omega)).1]; exact t4'
                    · rw [(r2 _ _ (fun z => by omega)).2, (p2 _ _ (fun z => by omega)).2, sL_s]
                      by_cases g2 : e ≤ i ∧ i < e + k
                      · have g3 := r3 (i - e) (by omega) (by omega)
                        rw [show 16 * r + e + (i - e) = 16 * r + i by omega] at g3
                        have g4 := t5 (f + (i - e)) (by omega)
                        rw [pk_cpy_in g2.1 g2.2, g3, p3 (i - e) (by omega) (by omega), q.l (by omega), show 16 * t + f + (i - e) = 16 * t + (f + (i - e)) by omega]
                        exact g4
                      · rw [pk_cpy_out (by omega), (r2 _ _ (fun z => by omega)).2, (p2 _ _ (fun z => by omega)).2, q.l (by omega)]
                        exact t5' i hi
                  · exact (d1 r hr).gs hss (by intro k j hk hq; omega)
              · refine Ok.fd hR (v := -1) ?_ ?_
                · show X10_copy S 0 (nI t) v (nI s) y z = _
                  simp only [X10_copy, isTer_c, bd_s, lt_e, ite_b1z, ite_b1n, if_pos q1, if_pos q2, ck_n ht (show 4 < 2147483648 by omega), ck_n hs (show 4 < 2147483648 by omega), rfs, rf_161, ix_n (show t < 2147483648 by omega), ix_n (show s < 2147483648 by omega), ms, ms', if_neg q3, if_neg q4, t1, t1', t3, t3', if_true, str_c (show l < 1000 by omega), str_c (show l' < 1000 by omega), if_pos q6, if_neg q7, found_c]
                · intro S1 q
                  show X11_copy S1 173 (nI t) v (nI s) y z = _
                  simp only [X11_copy, isTer_m, bd_s, lt_e, ite_b1z, ite_b1n, if_pos q1, if_pos q2, ck_n ht (show 4 < 2147483648 by omega), ck_n hs (show 4 < 2147483648 by omega), rfm, ix_n (show t < 2147483648 by omega), ix_n (show s < 2147483648 by omega), q.i (show 173 ≤ 184 by omega), q.i (show 173 ≤ 185 by omega), t2, t2', t4, t4', if_neg (fun y => q3 (bz.mp y)), if_pos (fun y => q4 (bz'.mp y)), if_true, lt32, lt64, le64, add64, t64, lits, lN', lN2, found_m]
                  unfold strP at q6 q7
                  (repeat' split) <;> first | rfl | contradiction | (exfalso; omega)
            · refine Ok.fd hR (v := -1) ?_ ?_
              · show X10_copy S 0 (nI t) v (nI s) y z = _
                simp only [X10_copy, isTer_c, bd_s, lt_e, ite_b1z, ite_b1n, if_pos q1, if_pos q2, ck_n ht (show 4 < 2147483648 by omega), ck_n hs (show 4 < 2147483648 by omega), rfs, rf_161, ix_n (show t < 2147483648 by omega), ix_n (show s < 2147483648 by omega), ms, ms', if_neg q3, if_neg q4, t1, t1', t3, if_true, str_c (show l < 1000 by omega), if_neg q6, found_c]
              · intro S1 q
                show X11_copy S1 173 (nI t) v (nI s) y z = _
                simp only [X11_copy, isTer_m, bd_s, lt_e, ite_b1z, ite_b1n, if_pos q1, if_pos q2, ck_n ht (show 4 < 2147483648 by omega), ck_n hs (show 4 < 2147483648 by omega), rfm, ix_n (show t < 2147483648 by omega), ix_n (show s < 2147483648 by omega), q.i (show 173 ≤ 184 by omega), q.i (show 173 ≤ 185 by omega), t2, t2', t4, t4', if_neg (fun y => q3 (bz.mp y)), if_pos (fun y => q4 (bz'.mp y)), if_true, lt32, lt64, le64, add64, t64, lits, lN', lN2, found_m]
                unfold strP at q6
                (repeat' split) <;> first | rfl | contradiction | (exfalso; omega)
          · have bne : ¬ nI b = nI b' := fun y => q5 ((nI_eq (by omega) (by omega)).mp y)
            refine Ok.fd hR (v := -4) ?_ ?_
            · show X10_copy S 0 (nI t) v (nI s) y z = _
              simp only [X10_copy, isTer_c, bd_s, lt_e, ite_b1z, ite_b1n, if_pos q1, if_pos q2, ck_n ht (show 4 < 2147483648 by omega), ck_n hs (show 4 < 2147483648 by omega), rfs, rf_161, ix_n (show t < 2147483648 by omega), ix_n (show s < 2147483648 by omega), ms, ms', if_neg q3, if_neg q4, t1, t1', if_neg bne, found_c]
            · intro S1 q
              show X11_copy S1 173 (nI t) v (nI s) y z = _
              simp only [X11_copy, isTer_m, bd_s, lt_e, ite_b1z, ite_b1n, if_pos q1, if_pos q2, ck_n ht (show 4 < 2147483648 by omega), ck_n hs (show 4 < 2147483648 by omega), rfm, ix_n (show t < 2147483648 by omega), ix_n (show s < 2147483648 by omega), q.i (show 173 ≤ 184 by omega), t2, t2', if_neg (fun y => q3 (bz.mp y)), if_pos (fun y => q4 (bz'.mp y)), if_neg bne, found_m]
    · refine Ok.fd hR (v := -1) ?_ ?_
      · show X10_copy S 0 u v x y z = _
        simp only [X10_copy, isTer_c, bd_s, lt_e, ite_b1z, ite_b1n, if_pos q1, if_neg q2, found_c]
      · intro S1 q
        show X11_copy S1 173 u v x y z = _
        simp only [X11_copy, isTer_m, bd_s, lt_e, ite_b1z, ite_b1n, if_pos q1, if_neg q2, found_m]
  · refine Ok.fd hR (v := -1) ?_ ?_
    · show X10_copy S 0 u v x y z = _
      simp only [X10_copy, isTer_c, bd_s, lt_e, ite_b1z, if_neg q1, found_c]
    · intro S1 q
      show X11_copy S1 173 u v x y z = _
      simp only [X11_copy, isTer_m, bd_s, lt_e, ite_b1z, if_neg q1, found_m]
-- ---- spread
theorem debt_2_ok {k0 f l : Nat} (hf : f + l ≤ 16) (K : St → Int32 → Option (St × Int32)) : ∀ (j m i : Nat), i + j = f + l → j < m → X10_hasDebt_2 k0 (nI f) (nI l) K m S (nI i) = cond (anyB (fun d => decide ((S.2 k0 d).toInt < 0)) j i) (some (S, 1)) (K S (nI (f + l)))
  | 0, 0, _, _, h => absurd h (by omega)
  | j + 1, 0, _, _, h => absurd h (by omega)
  | 0, m + 1, i, hij, _ => by
    rw [show i = f + l by omega, X10_hasDebt_2, nI_add, if_pos (Int32.le_refl _)]
    rfl
  | j + 1, m + 1, i, hij, hm => by
    have e1 : nI i + (1 : Int32) = nI (i + 1) := nI_1 i
    rw [X10_hasDebt_2, nI_add, if_neg (nI_ge (show i < f + l by omega) (by omega)), ck_n (show i < 16 by omega) (by omega), ix_n (by omega), lt_e, e1, anyB, debt_2_ok hf K j m (i + 1) (by omega) (by omega)]
    by_cases z : (S.2 k0 i).toInt < 0
    · rw [if_neg (by rw [le64, show (0 : Int64).toInt = 0 from rfl]; omega), decide_eq_true z, Bool.true_or]; rfl
    · rw [if_pos (by rw [le64, show (0 : Int64).toInt = 0 from rfl]; omega), decide_eq_false z, Bool.false_or]
theorem debtM_ok {t f l : Nat} (ht : t < 4) (hf : f + l ≤ 16) (v4 : Int32) (K : St → Int32 → Option (St × Int32)) : ∀ (j m i : Nat), i + j = l → j < m → X11_spread_102 173 (nI t) (nI f) (nI l) v4 K m S (nI i) = cond (anyB (fun d => decide ((S.2 186 (16 * t + d)).toInt < 0)) j (f + i)) (some (setI S 173 24 (S.1 173 24 + 1), -13)) (K S (nI l))
  | 0, 0, _, _, h => absurd h (by omega)
  | j + 1, 0, _, _, h => absurd h (by omega)
  | 0, m + 1, i, hij, _ => by
    rw [show i = l by omega, X11_spread_102, if_pos (Int32.le_refl _)]
    rfl
  | j + 1, m + 1, i, hij, hm => by
    have e1 : nI i + (1 : Int32) = nI (i + 1) := nI_1 i
    have e0 : (16 : Int32) * nI t + nI f + nI i = nI (16 * t + (f + i)) := by rw [show (16 : Int32) = nI 16 from rfl, pk_mul, nI_add, nI_add, Nat.add_assoc]
    rw [X11_spread_102, if_neg (nI_ge (show i < l by omega) (by omega)), e0, ck_n (show 16 * t + (f + i) < 64 by omega) (by omega), ix_n (by omega), lt_e, e1, anyB, debtM_ok ht hf v4 K j m (i + 1) (by omega) (by omega), show rf 173 21 = 186 by decide +kernel, found_m, bd_s, Nat.add_assoc]
    by_cases z : (S.2 186 (16 * t + (f + i))).toInt < 0
    · rw [if_neg (by rw [le64, show (0 : Int64).toInt = 0 from rfl]; omega), decide_eq_true z, Bool.true_or]; rfl
    · rw [if_pos (by rw [le64, show (0 : Int64).toInt = 0 from rfl]; omega), decide_eq_false z, Bool.false_or]
theorem full_c {n t f l p : Nat} {g : Nat → Nat} (hn : n ≤ 12) (hf : f + l ≤ 16) (hp : p + l ≤ n) (hg : CG S 17 n g) (hb : B1 n g) (K : St → Int32 → Option (St × Int32)) : ∀ (j m i : Nat), i + j = l → j < m → X10_spread_116 0 (nI f) (nI l) (nI p) (163 + 2 * t) K m S (nI i) = cond (anyB (fun d => decide ((1000000 : Int) - g (p + d) < (S.2 (163 + 2 * t) (f + d)).toInt)) j i) (some (setI S 0 15 (S.1 0 15 + 1), -5)) (K S (nI l))
  | 0, 0, _, _, h => absurd h (by omega)
  | j + 1, 0, _, _, h => absurd h (by omega)
  | 0, m + 1, i, hij, _ => by
    rw [show i = l by omega, X10_spread_116, if_pos (Int32.le_refl _)]
    rfl
  | j + 1, m + 1, i, hij, hm => by
    have e1 : nI i + (1 : Int32) = nI (i + 1) := nI_1 i
    have gb := hb (p + i) (by omega)
    have gg : S.1 18 (p + i) = nI (g (p + i)) := hg (p + i) (by omega)
    rw [X10_spread_116, if_neg (nI_ge (show i < l by omega) (by omega)), nI_add, nI_add, ck_n (show f + i < 16 by omega) (by omega), ck_n (show p + i < 12 by omega) (by omega), ix_n (by omega), ix_n (by omega), lt_e, e1, anyB, full_c hn hf hp hg hb K j m (i + 1) (by omega) (by omega), found_c, bd_s, show rf (rf 0 1) 1 = 18 by decide +kernel, gg, show (1000000 : Int32) = nI 1000000 from rfl, pk_sub gb, nI_l (by omega)]
    have e2 : (lN (1000000 - g (p + i))).toInt = 1000000 - g (p + i) := by rw [pk_lT (by omega)]; omega
    by_cases z : (1000000 : Int) - g (p + i) < (S.2 (163 + 2 * t) (f + i)).toInt
    · rw [if_neg (by rw [le64, e2]; omega), decide_eq_true z, Bool.true_or]; rfl
    · rw [if_pos (by rw [le64, e2]; omega), decide_eq_false z, Bool.false_or]
theorem full_m {n t f l p : Nat} {g : Nat → Nat} (ht : t < 4) (hn : n ≤ 12) (hf : f + l ≤ 16) (hp : p + l ≤ n) (hg : MG S 176 n g) (hb : B1 n g) (K : St → Int32 → Option (St × Int32)) : ∀ (j m i : Nat), i + j = l → j < m → X11_spread_143 173 (nI t) (nI f) (nI l) (nI p) K m S (nI i) = cond (anyB (fun d => decide ((1000000 : Int) - g (p + d) < (S.2 186 (16 * t + (f + d))).toInt)) j i) (some (setI S 173 24 (S.1 173 24 + 1), -5)) (K S (nI l))
  | 0, 0, _, _, h => absurd h (by omega)
  | j + 1, 0, _, _, h => absurd h (by omega)
  | 0, m + 1, i, hij, _ => by
    rw [show i = l by omega, X11_spread_143, if_pos (Int32.le_refl _)]
    rfl
  | j + 1, m + 1, i, hij, hm => by
    have e1 : nI i + (1 : Int32) = nI (i + 1) := nI_1 i
    have e0 : (16 : Int32) * nI t + nI f + nI i = nI (16 * t + (f + i)) := by rw [show (16 : Int32) = nI 16 from rfl, pk_mul, nI_add, nI_add, Nat.add_assoc]
    have gb := hb (p + i) (by omega)
    rw [X11_spread_143, if_neg (nI_ge (show i < l by omega) (by omega)), e0, nI_add, ck_n (show 16 * t + (f + i) < 64 by omega) (by omega), ck_n (show p + i < 15 by omega) (by omega), ix_n (by omega), ix_n (by omega), lt_e, e1, anyB, full_m ht hn hf hp hg hb K j m (i + 1) (by omega) (by omega), found_m, bd_s, show rf 173 21 = 186 by decide +kernel, show rf 173 4 = 176 by decide +kernel, hg (p + i) (by omega), show (1000000 : Int64) = lN 1000000 from rfl, lN_sub gb]
    have e2 : (lN (1000000 - g (p + i))).toInt = 1000000 - g (p + i) := by rw [pk_lT (by omega)]; omega
    by_cases z : (1000000 : Int) - g (p + i) < (S.2 186 (16 * t + (f + i))).toInt
    · rw [if_neg (by rw [le64, e2]; omega), decide_eq_true z, Bool.true_or]; rfl
    · rw [if_pos (by rw [le64, e2]; omega), decide_eq_false z, Bool.false_or]
theorem spread_246_ok {n : Nat} {g : Nat → Nat} (h0 : S.1 173 0 = nI n) (hn : n ≤ 12) (hg : MG S 176 n g) (K : St → Int64 → Int32 → Option (St × Int32)) : ∀ (j m i a : Nat), i + j = n → j < m → X11_spread_246 173 K m S (lN a) (nI i) = K S (lN (a + sumF g j i)) (nI n)
  | 0, 0, _, _, _, h => absurd h (by omega)
  | j + 1, 0, _, _, _, h => absurd h (by omega)
  | 0, m + 1, i, a, hij, _ => by
    rw [show i = n by omega, X11_spread_246, if_pos (by rw [h0]; exact Int32.le_refl _)]
    rfl
  | j + 1, m + 1, i, a, hij, hm => by
    have e1 : nI i + (1 : Int32) = nI (i + 1) := nI_1 i
    rw [X11_spread_246, if_neg (by rw [h0]; exact nI_ge (by omega) (by omega))]
    simp only [lt_e, e1, rfm, ck_n (show i < 15 by omega) (show 15 < 2147483648 by omega), ix_n (show i < 2147483648 by omega), hg i (by omega), lN_add]
    rw [spread_246_ok h0 hn hg K j m (i + 1) (a + g i) (by omega) (by omega), sumF, Nat.add_assoc]
theorem op_spread (h : RelX S c) (u v x y : Int32) : Ok S c (fun S => X10_spread S 0 u v x y) (fun S => X11_spread S 173 u v x y) := by
  obtain ⟨n, kd, w, bg, g, mn, hR⟩ := h
  have hR0 := hR
  obtain ⟨⟨a1, a2, a3, a4, a5, a6⟩, ⟨b1', b2, b3, b4⟩, ⟨c1, c2, c3, c4⟩, d1, d2⟩ := hR0
  have hn := a3.1
  have nN := nT (show n < 2147483648 by omega)
  have has := has_ok a1.1 hn
  have ha0 := a1.1
  have cb := b1'.1
  by_cases q1 : inN u 4
  · obtain ⟨t, ht, rfl⟩ := inN_of q1 (by omega)
    obtain ⟨b, l, hb, hl, t1, t2, t3, t4, t5⟩ := d1 t ht
    have ms := miss_c (S := S) (show b < 100 by omega) t1
    have bz : (nI b = 0) ↔ b = 0 := by rw [show (0 : Int32) = nI 0 from rfl, nI_eq (by omega) (by omega)]
    have lN' := nT (show l < 2147483648 by omega)
    by_cases q3 : b = 0
    · refine Ok.fd hR (v := -2) ?_ ?_
      · show X10_spread S 0 (nI t) v x y = _
        simp only [X10_spread, isTer_c, bd_s, lt_e, ite_b1z, ite_b1n, if_pos q1, ck_n ht (show 4 < 2147483648 by omega), rfs, rf_161, ix_n (show t < 2147483648 by omega), ms, if_pos q3, found_c]
      · intro S1 q
        show X11_spread S1 173 (nI t) v x y = _
        simp only [X11_spread, isTer_m, bd_s, lt_e, ite_b1z, ite_b1n, if_pos q1, ck_n ht (show 4 < 2147483648 by omega), rfm, ix_n (show t < 2147483648 by omega), q.i (show 173 ≤ 184 by omega), t2, if_neg (show ¬ ¬ nI b = 0 from fun y => y (bz.mpr q3)), found_m]
    · have bnz : ¬ nI b = 0 := fun z => q3 (bz.mp z)
      by_cases q6 : strP v x l ∧ strP y x n
      · obtain ⟨q6, q7⟩ := q6
        obtain ⟨f, hf, rfl⟩ := inN_of (show inN v 17 by unfold inN; unfold strP at q6; omega) (by omega)
        obtain ⟨e, he, rfl⟩ := inN_of (show inN y 17 by unfold inN; unfold strP at q7; omega) (by omega)
        obtain ⟨k, hk, rfl⟩ := inN_of (show inN x 17 by unfold inN; unfold strP at q6; omega) (by omega)
        have fN := nT (show f < 2147483648 by omega)
        have eN := nT (show e < 2147483648 by omega)
        have kN := nT (show k < 2147483648 by omega)
        have w1 : f + k ≤ l := by have := q6.2.2; rw [fN, kN] at this; omega
        have w2 : e + k ≤ n := by have := q7.2.2; rw [eN, kN] at this; omega
        have cE : X10_spread S 0 (nI t) (nI f) (nI k) (nI e) = if ¬ (S.1 0 13) = 0 then (bd (X10_hasDebt S (163 + 2 * t) (nI f) (nI k)) fun S44 v45 => if v45 = 0 then (X10_spread_116 0 (nI f) (nI k) (nI e) (163 + 2 * t) (fun (S51 : St) (v52 : Int32) => bd (X3_note S51 28 17 25) fun S56 _ => X10_spread_182 0 (nI f) (nI k) (nI e) (163 + 2 * t) (fun (S61 : St) (v62 : Int32) => bd (X2_sum S61 17) fun S64 v65 => some (S64, v65)) FU S56 (0 : Int32)) FU S44 (0 : Int32)) else some (setI S44 0 15 (S44.1 0 15 + 1), -13)) else some (setI S 0 15 (S.1 0 15 + 1), -8) := by
          simp only [X10_spread, isTer_c, bd_s, lt_e, ite_b1z, ite_b1n, if_pos q1, ck_n ht (show 4 < 2147483648 by omega), rfs, rf_161, rf_ter ht, ix_n (show t < 2147483648 by omega), ms, if_neg q3, t3, ha0, str_c (show l < 1000 by omega), str_c (show n < 1000 by omega), if_pos q6, if_pos q7, found_c]
        have mE : ∀ S1, CT S S1 → X11_spread S1 173 (nI t) (nI f) (nI k) (nI e) = if ¬ (S1.1 173 3) = 0 then (X11_spread_102 173 (nI t) (nI f) (nI k) (nI e) (fun (S37 : St) (v38 : Int32) => X11_spread_143 173 (nI t) (nI f) (nI k) (nI e) (fun (S44 : St) (v45 : Int32) => bd (X11_store S44 173) fun S46 _ => X11_spread_204 173 (nI t) (nI f) (nI k) (nI e) (0 : Int64) (fun (S51 : St) (v52 : Int32) => X11_spread_246 173 (fun (S56 : St) (v57 : Int64) (v58 : Int32) => some (S56, Int64.toInt32 v57)) FU S51 (0 : Int64) (0 : Int32)) FU S46 (0 : Int32)) FU S37 (0 : Int32)) FU S1 (0 : Int32)) else some (setI S1 173 24 (S1.1 173 24 + 1), -8) := by
          intro S1 q
          have m2 := a2.gs q (by intro k j hk hq; omega)
          have isp := isPlace_ok m2.1 hn
          have mz := m2.1
          have mb : S1.1 173 3 = bi _ := (q.i (by omega)).trans b1'.2.1
          simp only [X11_spread, isTer_m, bd_s, lt_e, ite_b1z, ite_b1n, if_pos q1, ck_n ht (show 4 < 2147483648 by omega), rfm, ix_n (show t < 2147483648 by omega), q.i (show 173 ≤ 184 by omega), q.i (show 173 ≤ 185 by omega), t2, t4, mz, if_pos bnz, if_neg (nI_pos (show f < 2 ^ 31 by omega)), if_neg (nI_pos (show e < 2 ^ 31 by omega)), if_neg (nI_pos (show k < 2 ^ 31 by omega)), nI_l (show l < 2 ^ 31 by omega), nI_l (show n < 2 ^ 31 by omega), nI_l (show f < 2 ^ 31 by omega), nI_l (show e < 2 ^ 31 by omega), nI_l (show k < 2 ^ 31 by omega), lN_add, pk_lLE (show f + k < 2 ^ 63 by omega) (show l < 2 ^ 63 by omega), pk_lLE (show e + k < 2 ^ 63 by omega) (show n < 2 ^ 63 by omega), if_pos w1, if_pos w2, found_m]
        cases bg with
        | false =>
          refine Ok.fd hR (v := -8) ?_ ?_
          · show X10_spread S 0 (nI t) (nI f) (nI k) (nI e) = _
            rw [cE, cb, if_neg (by decide)]
          · intro S1 q
            have m2 := a2.gs q (by intro k j hk hq; omega)
            have isp := isPlace_ok m2.1 hn
            have mz := m2.1
            have mb : S1.1 173 3 = bi _ := (q.i (by omega)).trans b1'.2.1
            show X11_spread S1 173 (nI t) (nI f) (nI k) (nI e) = _
            rw [mE S1 q, mb, if_neg (by decide)]
        | true =>
          have hdc : X10_hasDebt S (163 + 2 * t) (nI f) (nI k) = cond (anyB (fun d => decide ((S.2 (163 + 2 * t) d).toInt < 0)) k f) (some (S, 1)) (some (S, 0)) := by
            unfold X10_hasDebt
            rw [debt_2_ok (show f + k ≤ 16 by omega) _ k FU f (by omega) (by unfold FU; omega)]
          have hdm : ∀ S1, CT S S1 → anyB (fun d => decide ((S1.2 186 (16 * t + d)).toInt < 0)) k (f + 0) = anyB (fun d => decide ((S.2 (163 + 2 * t) d).toInt < 0)) k f := fun S1 q => anyB_congr (fun d h1 h2 => by rw [q.l (by omega), t5 d (by omega)])
          have hfm : ∀ S1, CT S S1 → anyB (fun d => decide ((1000000 : Int) - g (e + d) < (S1.2 186 (16 * t + (f + d))).toInt)) k 0 = anyB (fun d => decide ((1000000 : Int) - g (e + d) < (S.2 (163 + 2 * t) (f + d)).toInt)) k 0 := fun S1 q => anyB_congr (fun d h1 h2 => by rw [q.l (by omega), t5 (f + d) (by omega)])
          cases hD : anyB (fun d => decide ((S.2 (163 + 2 * t) d).toInt < 0)) k f with
          | true =>
            refine Ok.fd hR (v := -13) ?_ ?_
            · show X10_spread S 0 (nI t) (nI f) (nI k) (nI e) = _
              rw [cE, cb, if_pos (by decide), hdc, hD]
              rfl
            · intro S1 q
              have m2 := a2.gs q (by intro k j hk hq; omega)
              have isp := isPlace_ok m2.1 hn
              have mz := m2.1
              have mb : S1.1 173 3 = bi _ := (q.i (by omega)).trans b1'.2.1
              show X11_spread S1 173 (nI t) (nI f) (nI k) (nI e) = _
              rw [mE S1 q, mb, if_pos (by decide), show (0 : Int32) = nI 0 from rfl, debtM_ok ht (show f + k ≤ 16 by omega) _ _ k FU 0 (by omega) (by unfold FU; omega), hdm S1 q, hD]
              rfl
          | false =>
            cases hF : anyB (fun d => decide ((1000000 : Int) - g (e + d) < (S.2 (163 + 2 * t) (f + d)).toInt)) k 0 with
            | true =>
              refine Ok.fd hR (v := -5) ?_ ?_
              · show X10_spread S 0 (nI t) (nI f) (nI k) (nI e) = _
                rw [cE, cb, if_pos (by decide), hdc, hD, cond_false, bd_s, if_pos rfl, show (0 : Int32) = nI 0 from rfl, full_c hn (show f + k ≤ 16 by omega) w2 b2.1 b2.2.2.1 _ k FU 0 (by omega) (by unfold FU; omega), hF]
                rfl
              · intro S1 q
                have m2 := a2.gs q (by intro k j hk hq; omega)
                have isp := isPlace_ok m2.1 hn
                have mz := m2.1
                have mb : S1.1 173 3 = bi _ := (q.i (by omega)).trans b1'.2.1
                show X11_spread S1 173 (nI t) (nI f) (nI k) (nI e) = _
                rw [mE S1 q, mb, if_pos (by decide), show (0 : Int32) = nI 0 from rfl, debtM_ok ht (show f + k ≤ 16 by omega) _ _ k FU 0 (by omega) (by unfold FU; omega), hdm S1 q, hD, cond_false, full_m ht hn (show f + k ≤ 16 by omega) w2 (q.mg b2) b2.2.2.1 _ k FU 0 (by omega) (by unfold FU; omega), hfm S1 q, hF]
                rfl
            | false =>
              have hv : ∀ d, d < k → ∃ a : Nat, a ≤ 1000000 - g (e + d) ∧ S.2 (163 + 2 * t) (f + d) = lN a := by
                intro d hd
                have h1 := anyB_f hD (f + d) (by omega) (by omega)
                have h2 := anyB_f hF d (by omega) (by omega)
                have h1' : ¬ (S.2 (163 + 2 * t) (f + d)).toInt < 0 := of_decide_eq_false h1
                have h2' : ¬ (1000000 : Int) - g (e + d) < (S.2 (163 + 2 * t) (f + d)).toInt := of_decide_eq_false h2
                obtain ⟨a, ha, ea⟩ := pk_lOf (x := S.2 (163 + 2 * t) (f + d)) (by rw [lt64]; exact h1')
                refine ⟨a, ?_, ea⟩
                rw [ea, pk_lT ha] at h2'
                omega
              have hval : ∃ a : Nat → Nat, ∀ d, d < k → a d ≤ 1000000 - g (e + d) ∧ S.2 (163 + 2 * t) (f + d) = lN (a d) :=
                ⟨fun d => if hd : d < k then (hv d hd).choose else 0, fun d hd => by simp only [hd, dif_pos]; exact (hv d hd).choose_spec⟩
              obtain ⟨a, ha⟩ := hval
              obtain ⟨Sa, n1, n2, nx⟩ := hist_ok c1 hn rfl b2 b4
              obtain ⟨S1, p1, p2, p3⟩ := spread_182_ok (t := t) (show f + k ≤ 16 by omega) (show e + k ≤ 12 by omega) k FU 0 Sa (by omega) (by unfold FU; omega)
              obtain ⟨Sb, s1, s2, sx⟩ := nx S1 (p2.mo (by intro k j hk; omega))
              have q : CT S S1 := (n2.tr p2).mo (by intro k j hk; omega)
              obtain ⟨Sc, r1, r2, r3⟩ := spread_204_ok ht (show f + k ≤ 16 by omega) (show e + k ≤ 12 by omega) 0 k FU 0 Sb (by omega) (by unfold FU; omega)
              have hs2 := s2.tr r2
              have hss := (n2.tr p2).tr hs2
              have gS1 : CG S1 17 n (fun z => if e ≤ z ∧ z < e + k then g z + a (z - e) else g z) := by
                intro z hz
                show S1.1 18 z = nI (if e ≤ z ∧ z < e + k then g z + a (z - e) else g z)
                by_cases y1 : e ≤ z ∧ z < e + k
                · have h3 := p3 (z - e) (by omega) (by omega)
                  have h4 := (ha (z - e) (by omega)).2
                  rw [show e + (z - e) = z by omega, (n2 _ _ (fun z => by omega)).1, (n2 _ _ (fun z => by omega)).2, h4, lN_i, b2.1 z hz, nI_add] at h3
                  rw [h3, if_pos y1]
                · rw [if_neg y1, (p2 _ _ (fun z => by omega)).1, (n2 _ _ (fun z => by omega)).1]
                  exact b2.1 z hz
              have gSc : MG Sc 176 n (fun z => if e ≤ z ∧ z < e + k then g z + a (z - e) else g z) := by
                intro z hz
                show Sc.2 176 z = lN (if e ≤ z ∧ z < e + k then g z + a (z - e) else g z)
                have hg0 : Sb.2 176 z = lN (g z) := by rw [(s2 _ _ (fun z => by omega)).2]; exact q.mg b2 z hz
                by_cases y1 : e ≤ z ∧ z < e + k
                · have h3 := r3 (z - e) (by omega) (by omega)
                  have h4 := (ha (z - e) (by omega)).2
                  have h5 := t5 (f + (z - e)) (by omega)
                  rw [show e + (z - e) = z by omega, hg0, (s2 _ _ (fun z => by omega)).2, q.l (by omega), show 16 * t + f + (z - e) = 16 * t + (f + (z - e)) by omega, ← h5, h4, lN_add] at h3
                  rw [h3, if_pos y1]
                · rw [if_neg y1, (r2 _ _ (fun z => by omega)).2]
                  exact hg0
              have gB : B1 n (fun z => if e ≤ z ∧ z < e + k then g z + a (z - e) else g z) := by
                intro z hz
                show (if e ≤ z ∧ z < e + k then g z + a (z - e) else g z) ≤ 1000000
                have h6 := b2.2.2.1 z hz
                split
                · next y1 =>
                  have h4 := (ha (z - e) (by omega)).1
                  rw [show e + (z - e) = z by omega] at h4
                  omega
                · exact h6
              generalize (fun z => if e ≤ z ∧ z < e + k then g z + a (z - e) else g z) = gg at gS1 gSc gB
              refine ⟨S1, Sc, nI (sumF gg n 0), ?_, ?_, ?_⟩
              · show X10_spread S 0 (nI t) (nI f) (nI k) (nI e) = _
                rw [cE, cb, if_pos (by decide), hdc, hD, cond_false, bd_s, if_pos rfl, show (0 : Int32) = nI 0 from rfl, full_c hn (show f + k ≤ 16 by omega) w2 b2.1 b2.2.2.1 _ k FU 0 (by omega) (by unfold FU; omega), hF, cond_false]
                simp only [n1, bd_s]
                rw [p1, sum_ok (Or.inl rfl) (a1.gs (n2.tr p2) (by intro k j hk hq; omega)) a3 gS1, bd_s]
              · show X11_spread S1 173 (nI t) (nI f) (nI k) (nI e) = _
                have m2 := a2.gs q (by intro k j hk hq; omega)
                have isp := isPlace_ok m2.1 hn
                have mz := m2.1
                have mb : S1.1 173 3 = bi _ := (q.i (by omega)).trans b1'.2.1
                rw [mE S1 q, mb, if_pos (by decide), show (0 : Int32) = nI 0 from rfl, debtM_ok ht (show f + k ≤ 16 by omega) _ _ k FU 0 (by omega) (by unfold FU; omega), hdm S1 q, hD, cond_false, full_m ht hn (show f + k ≤ 16 by omega) w2 (q.mg b2) b2.2.2.1 _ k FU 0 (by omega) (by unfold FU; omega), hfm S1 q, hF, cond_false]
                simp only [s1, bd_s]
                rw [r1, show (0 : Int64) = lN 0 from rfl, spread_246_ok ((hs2 _ _ (fun z => by omega)).1.trans mz) hn gSc _ n FU 0 0 (by omega) (by unfold FU; omega), lN_i, Nat.zero_add]
              · have hr : RH Sc n gg := by
                  refine ⟨fun z hz => ?_, fun z hz => ?_, gB, fun d hd => ?_, fun z hz => ?_, fun z hz hz2 => ?_⟩
                  · rw [(hs2 18 z (fun y => by omega)).1]; exact gS1 z hz
                  · rw [Nat.zero_add]; exact gSc z hz
                  · rw [(hss 19 d (fun z => by omega)).2, (hss 176 (0 + 12 + d) (fun z => by omega)).2]; exact b2.2.2.2.1 d hd
                  · rw [(hss 20 z (fun y => by omega)).2, (hss 177 (0 + z) (fun y => by omega)).2]; exact b2.2.2.2.2.1 z hz
                  · rw [(hss 177 (0 + z) (fun y => by omega)).2]; exact b2.2.2.2.2.2 z hz hz2
                exact (Rel.re hR hss (by intro k j hk hq; omega) (by intro k j hk hq; omega) a6 (Or.inl (by intro k j hk hq; omega)) (Or.inr hr) (Or.inr rfl) (Or.inl ⟨rfl, by intro k j hk hq; omega⟩) (Or.inr (sx _ (r2.mo (by intro k j hk; omega)))) (Or.inl (by intro k j hk hq; omega)) (Or.inl (by intro k j hk hq; omega)) (Or.inl (by intro k j hk hq; omega)) (Or.inl (by intro k j hk hq; omega)) (Or.inl (by intro k j hk hq; omega))).x
      · refine Ok.fd hR (v := -1) ?_ ?_
        · show X10_spread S 0 (nI t) v x y = _
          simp only [X10_spread, isTer_c, bd_s, lt_e, ite_b1z, ite_b1n, if_pos q1, ck_n ht (show 4 < 2147483648 by omega), rfs, rf_161, ix_n (show t < 2147483648 by omega), ms, if_neg q3, t3, ha0, str_c (show l < 1000 by omega), str_c (show n < 1000 by omega), found_c]
          by_cases q7 : strP v x l
          · rw [if_pos q7, if_neg (fun z => q6 ⟨q7, z⟩)]
          · rw [if_neg q7]
        · intro S1 q
          have m2 := a2.gs q (by intro k j hk hq; omega)
          have isp := isPlace_ok m2.1 hn
          have mz := m2.1
          have mb : S1.1 173 3 = bi _ := (q.i (by omega)).trans b1'.2.1
          show X11_spread S1 173 (nI t) v x y = _
          simp only [X11_spread, isTer_m, bd_s, lt_e, ite_b1z, ite_b1n, if_pos q1, ck_n ht (show 4 < 2147483648 by omega), rfm, ix_n (show t < 2147483648 by omega), q.i (show 173 ≤ 184 by omega), q.i (show 173 ≤ 185 by omega), t2, t4, mz, if_pos bnz, lt32, le64, add64, t64, lits, lN', nN, found_m]
          unfold strP at q6
          (repeat' split) <;> first | rfl | contradiction | (exfalso; omega)
  · refine Ok.fd hR (v := -1) ?_ ?_
    · show X10_spread S 0 u v x y = _
      simp only [X10_spread, isTer_c, bd_s, ite_b1n, if_neg q1, found_c]
    · intro S1 q
      show X11_spread S1 173 u v x y = _
      simp only [X11_spread, isTer_m, bd_s, ite_b1n, if_neg q1, found_m]
end
