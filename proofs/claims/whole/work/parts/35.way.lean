section
variable {S : St} {c : Nat}
theorem isK2 : ∀ a, a < 5 → (isK a 2 = true ↔ (a = 2 ∨ a = 3)) := by decide
theorem isK3 : ∀ a, a < 5 → (isK a 3 = true ↔ a = 3) := by decide
theorem col_ne {v : Int32} {p : Nat} (hp : p < 12) (h : inN v 12 ∨ inD v) (hne : ¬ v = nI p) : col v ≠ p := by
  intro e
  apply hne
  rcases h with h | h
  · obtain ⟨j, hj, rfl⟩ := inN_of h (by omega)
    unfold col at e
    rw [nT (show j < 2147483648 by omega)] at e
    rw [if_pos (by omega)] at e
    rw [show j = p by omega]
  · exfalso
    unfold inD at h
    unfold col at e
    rw [if_neg (by omega)] at e
    omega
theorem op_way (h : RelX S c) (hc : c < 512) (u v x : Int32) : Ok S c (fun S => X10_way S 0 u v x) (fun S => X11_way S 173 u v x) := by
  obtain ⟨n, kd, w, bg, g, mn, hR⟩ := h
  have hR0 := hR
  obtain ⟨⟨a1, a2, a3, a4, a5, a6⟩, ⟨b1', b2, b3, b4⟩, ⟨c1, c2, c3, c4⟩, d1, d2⟩ := hR0
  have hn := a3.1
  have nN := nT (show n < 2147483648 by omega)
  have has := has_ok a1.1 hn
  have ha0 := a1.1
  have cb := b1'.1
  have he := hasEnd_ok a1.1 hn
  cases bg with
  | true =>
    refine Ok.fd hR (v := -6) ?_ ?_
    · show X10_way S 0 u v x = _
      simp only [X10_way, cb, bi_t, i10, if_false, found_c, bd_s]
    · intro S1 q
      have m2 := a2.gs q (by intro k j hk hq; omega)
      have isp := isPlace_ok m2.1 hn
      have mz := m2.1
      have mb : S1.1 173 3 = bi _ := (q.i (by omega)).trans b1'.2.1
      show X11_way S1 173 u v x = _
      simp only [X11_way, mb, bi_t, i10, if_false, found_m, bd_s]
  | false =>
    by_cases q1 : inN u n ∧ (inN v n ∨ inD v) ∧ ¬ v = u ∧ 1 ≤ x.toInt ∧ x.toInt ≤ 9
    · obtain ⟨q1, q2, q3, q4, q5⟩ := q1
      obtain ⟨p, hp, rfl⟩ := inN_of q1 (by omega)
      have q6 : ¬ x < 1 := by simp only [lt32, lits]; omega
      have q7 : x ≤ 9 := by simp only [le32, lits]; omega
      have kp := a3.2.1 p hp
      have kN := nT (show kd p < 2147483648 by omega)
      have io2 := isOf_ok a1 a3 hp (show 2 < 5 by omega)
      have io3 := isOf_ok a1 a3 hp (show 3 < 5 by omega)
      by_cases q8 : (x = 1 ∨ kd p = 2 ∨ kd p = 3) ∧ (inN v n ∨ kd p = 3)
      · have qv : inN v 12 ∨ inD v := q2.elim (fun z => Or.inl (by unfold inN at z ⊢; omega)) Or.inr
        obtain ⟨k, hk, rfl⟩ := inN_of (show inN x 10 by unfold inN; omega) (by omega)
        have k1 : 1 ≤ k := by rw [nT (by omega)] at q4; omega
        have hcol := col_lt qv
        have hne : col v ≠ p := col_ne (by omega) qv q3
        have m0 : mn = 0 := a6 rfl
        have hL := a4 p (by omega)
        have eS : sN (fun e => if e = col v then w p e + k else w p e) 15 = sN (w p) 15 + k := by rw [sN_upd, if_pos hcol]
        have e1 : X10_way S 0 (nI p) v (nI k) = some (setI (setI S (4 + p) (col v) (nI (w p (col v) + k))) 16 p (nI (sN (w p) 15 + k)), nI (sN (w p) 15 + k)) := by
          have f1 : X7_addWay S 1 (nI p) v (nI k) = some (setI (setI S (4 + p) (col v) (nI (w p (col v) + k))) 16 p (nI (sN (w p) 15 + k)), nI (sN (w p) 15 + k)) := by
            simp only [X7_addWay, endOf_ok qv, bd_s, lt_e, rfs, rf_3, ck_n (show p < 12 by omega) (show 12 < 2147483648 by omega), ck_n hcol (show 15 < 2147483648 by omega), ix_n (show p < 2147483648 by omega), ix_n (show col v < 2147483648 by omega), a1.2.2.1 p (col v) (by omega) hcol, nI_add, sI_s, sI_n (show ¬ (16 = 4 + p ∧ p = col v) by omega), a1.2.2.2 p (by omega)]
          have f2 : ∀ (j : St → Option (St × Int32)), (if nI k = 1 then j S else if isK (kd p) 2 = true then j S else some (setI S 0 15 (S.1 0 15 + 1), -4)) = j S := by
            intro j
            by_cases z : nI k = 1
            · rw [if_pos z]
            · rw [if_neg z, if_pos ((isK2 _ kp).mpr (q8.1.resolve_left z))]
          have f3 : ∀ (j : St → Option (St × Int32)), (if 0 ≤ v then j S else if isK (kd p) 3 = true then j S else some (setI S 0 15 (S.1 0 15 + 1), -4)) = j S := by
            intro j
            by_cases z : 0 ≤ v
            · rw [if_pos z]
            · rw [if_neg z, if_pos ((isK3 _ kp).mpr (q8.2.resolve_left (fun y => z (by rw [le32, lits.1]; exact y.1))))]
          simp only [X10_way, cb, bi_f, if_true, rfs, has, he, bd_s, lt_e, ite_b1z, ite_b1n, if_pos q1, if_pos q2, if_pos q3, if_neg q6, if_pos q7, show (2 : Int32) = nI 2 from rfl, show (3 : Int32) = nI 3 from rfl, io2, io3, found_c, f1]
          rw [f2 (fun S => if 0 ≤ v then some (setI (setI S (4 + p) (col v) (nI (w p (col v) + k))) 16 p (nI (sN (w p) 15 + k)), nI (sN (w p) 15 + k)) else if isK (kd p) 3 = true then some (setI (setI S (4 + p) (col v) (nI (w p (col v) + k))) 16 p (nI (sN (w p) 15 + k)), nI (sN (w p) 15 + k)) else some (setI S 0 15 (S.1 0 15 + 1), -4)), f3 (fun S => some (setI (setI S (4 + p) (col v) (nI (w p (col v) + k))) 16 p (nI (sN (w p) 15 + k)), nI (sN (w p) 15 + k)))]
        have q : CT S (setI (setI S (4 + p) (col v) (nI (w p (col v) + k))) 16 p (nI (sN (w p) 15 + k))) := ((sm_I S (4 + p) (col v) (nI (w p (col v) + k))).tr (sm_I _ 16 p (nI (sN (w p) 15 + k)))).mo (by intro k j hk; omega)
        have hs := ((sm_I S (4 + p) (col v) (nI (w p (col v) + k))).tr (sm_I (setI S (4 + p) (col v) (nI (w p (col v) + k))) 16 p (nI (sN (w p) 15 + k)))).tr (sm_I (setI (setI S (4 + p) (col v) (nI (w p (col v) + k))) 16 p (nI (sN (w p) 15 + k))) 175 (15 * p + col v) (nI (w p (col v) + k)))
        have hC : CSl (setI (setI S (4 + p) (col v) (nI (w p (col v) + k))) 16 p (nI (sN (w p) 15 + k))) n kd (fun a e => if a = p then (if e = col v then w p e + k else w p e) else w a e) := by
          refine ⟨?_, fun p1 hp1 => ?_, fun p1 e hp1 he => ?_, fun p1 hp1 => ?_⟩
          · rw [sI_n (by omega), sI_n (by omega)]; exact a1.1
          · rw [sI_n (by omega), sI_n (by omega)]; exact a1.2.1 p1 hp1
          · rw [sI_n (by omega), sI1]
            show _ = nI (if p1 = p then (if e = col v then w p e + k else w p e) else w p1 e)
            by_cases z : p1 = p
            · subst z
              by_cases y : e = col v
              · rw [if_pos ⟨rfl, y⟩, if_pos rfl, if_pos y, y]
              · rw [if_neg (fun t => y t.2), if_pos rfl, if_neg y]; exact a1.2.2.1 p1 e hp1 he
            · rw [if_neg (by omega), if_neg z]; exact a1.2.2.1 p1 e hp1 he
          · rw [sI1]
            show _ = nI (sN (fun e => if p1 = p then (if e = col v then w p e + k else w p e) else w p1 e) 15)
            by_cases z : p1 = p
            · subst z
              rw [if_pos ⟨rfl, rfl⟩]
              simp only [if_true]
              rw [eS]
            · rw [if_neg (fun t => z t.2), sI_n (by omega)]
              simp only [if_neg z]
              exact a1.2.2.2 p1 hp1
        generalize setI (setI S (4 + p) (col v) (nI (w p (col v) + k))) 16 p (nI (sN (w p) 15 + k)) = S1 at e1 q hs hC ⊢
        have m2 := a2.gs q (by intro k j hk hq; omega)
        have hM : MSl (setI S1 175 (15 * p + col v) (nI (w p (col v) + k))) n kd (fun a e => if a = p then (if e = col v then w p e + k else w p e) else w a e) := by
          refine ⟨?_, fun p1 hp1 => ?_, fun p1 e hp1 he => ?_⟩
          · rw [sI_n (by omega)]; exact m2.1
          · rw [sI_n (by omega)]; exact m2.2.1 p1 hp1
          · rw [sI1]
            show _ = nI (if p1 = p then (if e = col v then w p e + k else w p e) else w p1 e)
            by_cases z : p1 = p
            · subst z
              by_cases y : e = col v
              · rw [if_pos ⟨rfl, by omega⟩, if_pos rfl, if_pos y, y]
              · rw [if_neg (by omega), if_pos rfl, if_neg y]; exact m2.2.2 p1 e hp1 he
            · rw [if_neg (by omega), if_neg z]; exact m2.2.2 p1 e hp1 he
        refine ⟨S1, setI S1 175 (15 * p + col v) (nI (w p (col v) + k)), nI (sN (w p) 15 + k), e1, ?_, ?_⟩
        · show X11_way S1 173 (nI p) v (nI k) = _
          have isp := isPlace_ok m2.1 hn
          have mb : S1.1 173 3 = bi false := (q.i (by omega)).trans b1'.2.1
          have hl := load_ok hM (show p < 12 by omega)
          have eL : sN (fun e => if p = p then (if e = col v then w p e + k else w p e) else w p e) 15 = sN (w p) 15 + k := by
            simp only [if_true]
            exact eS
          rw [eL] at hl
          have hkd := m2.2.1 p hp
          have f9 : ∀ (cc : Int32), cc = nI (col v) → ck ((15 : Int32) * nI p + cc) 180 (ck ((15 : Int32) * nI p + cc) 180 (bd (X11_load (setI S1 175 (ix ((15 : Int32) * nI p + cc)) (S1.1 175 (ix ((15 : Int32) * nI p + cc)) + nI k)) 173 (nI p)) fun S50 v51 => some (S50, v51))) = some (setI S1 175 (15 * p + col v) (nI (w p (col v) + k)), nI (sN (w p) 15 + k)) := by
            intro cc hcc
            have e0 : (15 : Int32) * nI p + cc = nI (15 * p + col v) := by rw [hcc, show (15 : Int32) = nI 15 from rfl, pk_mul, nI_add]
            rw [e0, ck_n (show 15 * p + col v < 180 by omega) (by omega), ck_n (show 15 * p + col v < 180 by omega) (by omega), ix_n (by omega), m2.2.2 p (col v) (by omega) hcol, nI_add, hl, bd_s]
          unfold X11_way
          rw [mb, if_pos bi_f, in_ok, bd_s, isp, bd_s]
          simp only [lt_e, isp, bd_s, in_ok, ite_b1z, ite_b1n, if_pos q1, lits, found_m, rfm, ck_n (show p < 12 by omega) (show 12 < 2147483648 by omega), ix_n (show p < 2147483648 by omega), hkd, if_neg q3]
          have g1 : (if 1 ≤ (nI k).toInt ∧ (nI k).toInt ≤ 9 then True else False) := by rw [if_pos ⟨q4, q5⟩]; trivial
          by_cases zD : inD v
          · have z1 : -3 ≤ v.toInt ∧ v.toInt ≤ -1 := by unfold inD at zD; omega
            have z2 : ¬ inN v n := by unfold inN inD at *; omega
            have z3 : kd p = 3 := q8.2.resolve_left z2
            have z4 : 11 - v = nI (col v) := by
              have := @endOf_ok S1 v qv
              unfold X7_endOf at this
              rw [if_pos (by rw [lt32, lits.1]; exact zD.2)] at this
              injection this with this
              injection this
            simp only [if_pos z1, if_pos (show 1 ≤ (nI k).toInt ∧ (nI k).toInt ≤ 9 from ⟨q4, q5⟩), z3]
            have f10 := f9 (11 - v) z4
            rw [show (nI 3 : Int32) = 3 from rfl, if_neg (show ¬ (3 : Int32) = 2 by decide), if_neg (show ¬ ¬ (3 : Int32) = 3 by decide), if_neg (show ¬ (1 : Int32) = 0 by decide), if_pos (show (3 : Int32) = 3 from rfl)]
            rw [f10]
            simp only [ite_self]
          · have z2 : inN v n := q2.resolve_right zD
            have z1 : ¬ (-3 ≤ v.toInt ∧ v.toInt ≤ -1) := by unfold inN at z2; omega
            have z4 : v = nI (col v) := by
              have := @endOf_ok S1 v qv
              unfold X7_endOf at this
              rw [if_neg (by rw [lt32, lits.1]; unfold inN at z2; omega)] at this
              injection this with this
              injection this
            have f10 := f9 v z4
            simp only [if_neg z1, if_pos z2, if_pos (show 1 ≤ (nI k).toInt ∧ (nI k).toInt ≤ 9 from ⟨q4, q5⟩), f10]
            have kk : kd p = 0 ∨ kd p = 1 ∨ kd p = 2 ∨ kd p = 3 ∨ kd p = 4 := by omega
            by_cases z5 : nI k = 1
            · simp only [if_pos z5, ite_self]
            · have z6 : kd p = 2 ∨ kd p = 3 := q8.1.resolve_left z5
              simp only [if_neg z5]
              rcases z6 with z6 | z6 <;> rw [z6] <;> rfl
        · subst m0
          refine ⟨n, kd, fun a e => if a = p then (if e = col v then w p e + k else w p e) else w a e, false, g, 0, ⟨⟨hC.gs (sm_I S1 _ _ _) (by intro k j hk hq; omega), hM, ⟨hn, a3.2.1, fun p1 hp1 => ?_, fun p1 hp1 => ?_⟩, fun p1 hp1 => ?_, fun z => absurd z (by decide), fun _ => rfl⟩, ⟨b1'.gs hs (by intro k j hk hq; omega), b2.gs hn hs (by intro k j hk hq; omega), b3.gs hs (by intro k j hk hq; omega), b4.gs hn hs (by intro k j hk hq; omega)⟩, ⟨c1.gs hn hs (by intro k j hk hq; omega), c2.gs hs (by intro k j hk hq; omega), c3.gs hn hs (by intro k j hk hq; omega), c4.nb.gs hs (by intro k j hk hq; omega)⟩, d1.gs hs (by intro k j hk hq; omega), d2.gs hs (by intro k j hk hq; omega)⟩⟩
          · by_cases z : p1 = p
            · subst z
              simp only [if_true]
              rw [eS]; omega
            · simp only [if_neg z]; exact a3.2.2.1 p1 hp1
          · show (if p1 = p then (if p1 = col v then w p p1 + k else w p p1) else w p1 p1) = 0
            by_cases z : p1 = p
            · subst z
              rw [if_pos rfl, if_neg (fun y => hne y.symm)]
              exact a3.2.2.2 p1 hp1
            · rw [if_neg z]; exact a3.2.2.2 p1 hp1
          · by_cases z : p1 = p
            · subst z
              simp only [if_true]
              rw [eS]; omega
            · simp only [if_neg z]
              exact Nat.le_trans (a4 p1 hp1) (by omega)
      · refine Ok.fd hR (v := -4) ?_ ?_
        · show X10_way S 0 (nI p) v x = _
          simp only [X10_way, cb, bi_f, if_true, rfs, has, he, bd_s, lt_e, ite_b1z, ite_b1n, if_pos q1, if_pos q2, if_pos q3, if_neg q6, if_pos q7, show (2 : Int32) = nI 2 from rfl, show (3 : Int32) = nI 3 from rfl, io2, io3, found_c, isK2 _ kp, isK3 _ kp]
          by_cases z1 : x = 1
          · have z2 : ¬ inN v n ∧ ¬ kd p = 3 := ⟨fun y => q8 ⟨Or.inl z1, Or.inl y⟩, fun y => q8 ⟨Or.inl z1, Or.inr y⟩⟩
            have z3 := q2.resolve_left z2.1
            rw [if_pos z1, if_neg (show ¬ (0 : Int32) ≤ v by rw [le32, lits.1]; unfold inD at z3; omega), if_neg z2.2]
          · rw [if_neg z1]
            by_cases z4 : kd p = 2 ∨ kd p = 3
            · have z2 : ¬ inN v n ∧ ¬ kd p = 3 := ⟨fun y => q8 ⟨Or.inr z4, Or.inl y⟩, fun y => q8 ⟨Or.inr z4, Or.inr y⟩⟩
              have z3 := q2.resolve_left z2.1
              rw [if_pos z4, if_neg (show ¬ (0 : Int32) ≤ v by rw [le32, lits.1]; unfold inD at z3; omega), if_neg z2.2]
            · rw [if_neg z4]
        · intro S1 q
          have m2 := a2.gs q (by intro k j hk hq; omega)
          have isp := isPlace_ok m2.1 hn
          have mz := m2.1
          have mb : S1.1 173 3 = bi _ := (q.i (by omega)).trans b1'.2.1
          have hkd := m2.2.1 p hp
          have hk2 : (nI (kd p) = 2) ↔ kd p = 2 := nI_eq (show kd p < 2 ^ 31 by omega) (show 2 < 2 ^ 31 by omega)
          have hk3 : (nI (kd p) = 3) ↔ kd p = 3 := nI_eq (show kd p < 2 ^ 31 by omega) (show 3 < 2 ^ 31 by omega)
          show X11_way S1 173 (nI p) v x = _
          unfold X11_way
          rw [mb, if_pos bi_f, in_ok, bd_s, isp, bd_s]
          simp only [lt_e, isp, bd_s, in_ok, ite_b1z, ite_b1n, if_pos q1, lits, found_m, rfm, ck_n (show p < 12 by omega) (show 12 < 2147483648 by omega), ix_n (show p < 2147483648 by omega), hkd, if_neg q3, if_pos (show 1 ≤ x.toInt ∧ x.toInt ≤ 9 from ⟨q4, q5⟩), hk2, hk3, i10, if_false]
          by_cases zD : inD v
          · have z1 : -3 ≤ v.toInt ∧ v.toInt ≤ -1 := by unfold inD at zD; omega
            have z2 : ¬ inN v n := by unfold inN inD at *; omega
            simp only [if_pos z1]
            by_cases z3 : kd p = 3
            · have z4 : ¬ x = 1 := fun y => q8 ⟨Or.inl y, Or.inr z3⟩
              exact absurd ⟨Or.inr (Or.inr z3), Or.inr z3⟩ q8
            · simp only [if_neg z3]
              by_cases z5 : x = 1
              · simp only [if_pos z5, ite_self]
              · simp only [if_neg z5, ite_self]
          · have z2 : inN v n := q2.resolve_right zD
            have z1 : ¬ (-3 ≤ v.toInt ∧ v.toInt ≤ -1) := by unfold inN at z2; omega
            have z5 : ¬ x = 1 := fun y => q8 ⟨Or.inl y, Or.inl z2⟩
            have z6 : ¬ kd p = 2 := fun y => q8 ⟨Or.inr (Or.inl y), Or.inl z2⟩
            have z7 : ¬ kd p = 3 := fun y => q8 ⟨Or.inr (Or.inr y), Or.inl z2⟩
            rw [if_neg z1, if_pos z2, if_neg z6, if_pos z7, if_neg z5, if_pos trivial]
    · refine Ok.fd hR (v := -1) ?_ ?_
      · show X10_way S 0 u v x = _
        simp only [X10_way, cb, bi_f, if_true, rfs, has, he, bd_s, lt_e, ite_b1z, ite_b1n, found_c]
        by_cases z1 : inN u n
        · by_cases z2 : inN v n ∨ inD v
          · by_cases z3 : ¬ v = u
            · rw [if_pos z1, if_pos z2, if_pos z3]
              by_cases z4 : x < 1
              · rw [if_pos z4]
              · rw [if_neg z4, if_neg (fun z5 => q1 ⟨z1, z2, z3, by simp only [lt32, le32, lits] at z4 z5; omega, by simp only [lt32, le32, lits] at z4 z5; omega⟩)]
            · rw [if_pos z1, if_pos z2, if_neg z3]
          · rw [if_pos z1, if_neg z2]
        · rw [if_neg z1]
      · intro S1 q
        have m2 := a2.gs q (by intro k j hk hq; omega)
        have isp := isPlace_ok m2.1 hn
        have mz := m2.1
        have mb : S1.1 173 3 = bi _ := (q.i (by omega)).trans b1'.2.1
        show X11_way S1 173 u v x = _
        unfold X11_way
        rw [mb, if_pos bi_f, in_ok, bd_s, isp, bd_s]
        simp only [lt_e, isp, bd_s, in_ok, ite_b1z, ite_b1n, lits, found_m]
        by_cases z1 : inN u n
        · rw [if_pos z1]
          by_cases z2 : inN v n ∨ inD v
          · have z5 : (v = u) ∨ ¬ (1 ≤ x.toInt ∧ x.toInt ≤ 9) := by
              by_cases z3 : v = u
              · exact Or.inl z3
              · exact Or.inr (fun y => q1 ⟨z1, z2, z3, y.1, y.2⟩)
            rcases z5 with z5 | z5
            · simp only [if_pos z5]
              by_cases z6 : -3 ≤ v.toInt ∧ v.toInt ≤ -1
              · rw [if_pos z6]
              · rw [if_neg z6, if_pos (z2.resolve_right (fun y => z6 (by unfold inD at y; omega)))]
            · simp only [if_neg z5, ite_self]
          · rw [if_neg (fun y => z2 (Or.inr (by unfold inD; omega))), if_neg (fun y => z2 (Or.inl y))]
        · rw [if_neg z1]
end
