/-! calls that only look -/
section
variable {S : St} {c : Nat}
theorem op_as (h : RelX S c) (u v : Int32) : Ok S c (fun S => X10_as S 0 u v) (fun S => X11_as S 173 u v) := by
  obtain ⟨n, kd, w, bg, g, mn, hR⟩ := h
  have hR0 := hR
  obtain ⟨⟨a1, a2, a3, a4, a5, a6⟩, ⟨b1', b2, b3, b4⟩, ⟨c1, c2, c3, c4⟩, d1, d2⟩ := hR0
  have hn := a3.1
  have nN := nT (show n < 2147483648 by omega)
  have has := has_ok a1.1 hn
  have ha0 := a1.1
  have cb := b1'.1
  by_cases q1 : inN u n
  · obtain ⟨p, hp, rfl⟩ := inN_of q1 (by omega)
    by_cases q2 : inN v 5
    · obtain ⟨b, hb, rfl⟩ := inN_of q2 (by omega)
      have io := isOf_ok a1 a3 hp hb
      have hk := a3.2.1 p hp
      have kN := nT (show kd p < 2147483648 by omega)
      have bN := nT (show b < 2147483648 by omega)
      have mk : ∀ S1, CT S S1 → X11_as S1 173 (nI p) (nI b) = if isK (kd p) b = true then some (S1, nI p) else some (setI S1 173 24 (S1.1 173 24 + 1), -4) := by
        intro S1 q
        have m2 := a2.gs q (by intro k j hk hq; omega)
        have isp := isPlace_ok m2.1 hn
        have mz := m2.1
        have mb : S1.1 173 3 = bi _ := (q.i (by omega)).trans b1'.2.1
        have hkd := m2.2.1 p hp
        unfold X11_as
        rw [isp, bd_s, in_ok]
        simp only [bd_s, lt_e, ite_b1z, ite_b1n, if_pos q1, rfm, ck_n (show p < 12 by omega) (show 12 < 2147483648 by omega), ix_n (show p < 2147483648 by omega), hkd, found_m, lits]
        simp only [eq32, le32, lt32, lits, kN, bN, isK, Bool.or_eq_true, Bool.and_eq_true, beq_iff_eq, decide_eq_true_eq]
        (repeat' split) <;> first | rfl | contradiction | (exfalso; omega)
      by_cases q3 : isK (kd p) b = true
      · refine Ok.no hR (v := nI p) ?_ (fun S1 q => by show X11_as S1 173 (nI p) (nI b) = _; rw [mk S1 q, if_pos q3])
        show X10_as S 0 (nI p) (nI b) = _
        simp only [X10_as, rfs, has, bd_s, lt_e, ite_b1z, if_pos q1, lt32, lits, bN, io, if_pos q3]
        (repeat' split) <;> first | rfl | contradiction | (exfalso; omega)
      · refine Ok.fd hR (v := -4) ?_ (fun S1 q => by show X11_as S1 173 (nI p) (nI b) = _; rw [mk S1 q, if_neg q3])
        show X10_as S 0 (nI p) (nI b) = _
        simp only [X10_as, rfs, has, bd_s, lt_e, ite_b1z, if_pos q1, lt32, lits, bN, io, if_neg q3, found_c]
        (repeat' split) <;> first | rfl | contradiction | (exfalso; omega)
    · refine Ok.fd hR (v := -1) ?_ ?_
      · show X10_as S 0 (nI p) v = _
        simp only [X10_as, rfs, has, bd_s, lt_e, ite_b1z, if_pos q1, lt32, lits, found_c]
        (repeat' split) <;> first | rfl | contradiction | (exfalso; omega)
      · intro S1 q
        have m2 := a2.gs q (by intro k j hk hq; omega)
        have isp := isPlace_ok m2.1 hn
        have mz := m2.1
        have mb : S1.1 173 3 = bi _ := (q.i (by omega)).trans b1'.2.1
        show X11_as S1 173 (nI p) v = _
        unfold X11_as
        rw [isp, bd_s, in_ok]
        simp only [bd_s, lt_e, ite_b1z, ite_b1n, if_pos q1, found_m, lits]
        rw [if_neg (by unfold inN at q2; omega)]
  · refine Ok.fd hR (v := -1) ?_ ?_
    · show X10_as S 0 u v = _
      simp only [X10_as, rfs, has, bd_s, lt_e, ite_b1z, if_neg q1, found_c]
    · intro S1 q
      have m2 := a2.gs q (by intro k j hk hq; omega)
      have isp := isPlace_ok m2.1 hn
      have mz := m2.1
      have mb : S1.1 173 3 = bi _ := (q.i (by omega)).trans b1'.2.1
      show X11_as S1 173 u v = _
      unfold X11_as
      rw [isp, bd_s]
      simp only [bd_s, lt_e, ite_b1z, if_neg q1, found_m]
theorem op_weight (h : RelX S c) (u v : Int32) : Ok S c (fun S => X10_weight S 0 u v) (fun S => X11_weight S 173 u v) := by
  obtain ⟨n, kd, w, bg, g, mn, hR⟩ := h
  have hR0 := hR
  obtain ⟨⟨a1, a2, a3, a4, a5, a6⟩, ⟨b1', b2, b3, b4⟩, ⟨c1, c2, c3, c4⟩, d1, d2⟩ := hR0
  have hn := a3.1
  have nN := nT (show n < 2147483648 by omega)
  have has := has_ok a1.1 hn
  have ha0 := a1.1
  have cb := b1'.1
  have he := hasEnd_ok a1.1 hn
  by_cases q1 : inN u n
  · obtain ⟨p, hp, rfl⟩ := inN_of q1 (by omega)
    by_cases q2 : inN v n ∨ inD v
    · have q3 : inN v 12 ∨ inD v := q2.elim (fun z => Or.inl (by unfold inN at z ⊢; omega)) Or.inr
      have wb := weightBetween_ok a1 (show p < 12 by omega) q3
      refine Ok.no hR (v := nI (w p (col v))) ?_ ?_
      · show X10_weight S 0 (nI p) v = _
        simp only [X10_weight, rfs, has, he, bd_s, lt_e, ite_b1z, ite_b1n, if_pos q1, if_pos q2, wb]
      · intro S1 q
        have m2 := a2.gs q (by intro k j hk hq; omega)
        have isp := isPlace_ok m2.1 hn
        have mz := m2.1
        have mb : S1.1 173 3 = bi _ := (q.i (by omega)).trans b1'.2.1
        show X11_weight S1 173 (nI p) v = _
        have e1 : (if 0 ≤ v then (bd (X11_weightOf S1 173 (nI p) v) fun S34 v35 => some (S34, v35)) else bd (X11_weightOf S1 173 (nI p) (11 - v)) fun S34 v35 => some (S34, v35)) = some (S1, nI (w p (col v))) := by
          have e2 := @endOf_ok S1 v q3
          unfold X7_endOf at e2
          by_cases z : 0 ≤ v
          · rw [if_pos z]
            rw [if_neg (by simp only [lt32, le32, lits] at z ⊢; omega)] at e2
            have e3 : v = nI (col v) := by injection e2 with e2; injection e2
            have e4 := weightOf_ok m2 (show p < 12 by omega) (col_lt q3)
            rw [← e3] at e4
            rw [e4, bd_s]
          · rw [if_neg z]
            rw [if_pos (by simp only [lt32, le32, lits] at z ⊢; omega)] at e2
            have e3 : 11 - v = nI (col v) := by injection e2 with e2; injection e2
            rw [e3, weightOf_ok m2 (show p < 12 by omega) (col_lt q3), bd_s]
        unfold X11_weight
        rw [isp, bd_s]
        simp only [isp, in_ok, bd_s, lt_e, ite_b1z, ite_b1n, if_pos q1, e1, lits]
        by_cases z : inN v n
        · rw [if_pos z]
        · rw [if_neg z, if_pos (by rcases q2 with q2 | q2 <;> simp only [inN, inD] at q2 z <;> omega)]
    · refine Ok.fd hR (v := -1) ?_ ?_
      · show X10_weight S 0 (nI p) v = _
        simp only [X10_weight, rfs, has, he, bd_s, lt_e, ite_b1z, ite_b1n, if_pos q1, if_neg q2, found_c]
      · intro S1 q
        have m2 := a2.gs q (by intro k j hk hq; omega)
        have isp := isPlace_ok m2.1 hn
        have mz := m2.1
        have mb : S1.1 173 3 = bi _ := (q.i (by omega)).trans b1'.2.1
        show X11_weight S1 173 (nI p) v = _
        unfold X11_weight
        rw [isp, bd_s]
        simp only [isp, in_ok, bd_s, lt_e, ite_b1z, ite_b1n, if_pos q1, found_m, lits]
        rw [if_neg (fun z => q2 (Or.inl z)), if_neg (fun z => q2 (Or.inr (by unfold inD; omega)))]
  · refine Ok.fd hR (v := -1) ?_ ?_
    · show X10_weight S 0 u v = _
      simp only [X10_weight, rfs, has, bd_s, lt_e, ite_b1z, if_neg q1, found_c]
    · intro S1 q
      have m2 := a2.gs q (by intro k j hk hq; omega)
      have isp := isPlace_ok m2.1 hn
      have mz := m2.1
      have mb : S1.1 173 3 = bi _ := (q.i (by omega)).trans b1'.2.1
      show X11_weight S1 173 u v = _
      unfold X11_weight
      rw [isp, bd_s]
      simp only [bd_s, lt_e, ite_b1z, if_neg q1, found_m]
theorem CT.mg {S S1 : St} {n : Nat} {g : Nat → Nat} (q : CT S S1) (h : RH S n g) : MG S1 176 n g := fun p hp => by
  have := h.2.1 p hp
  rw [Nat.zero_add] at this
  rw [q.l (by omega), this]
theorem op_due (h : RelX S c) : Ok S c (fun S => X10_due S 0) (fun S => X11_due S 173) := by
  obtain ⟨n, kd, w, bg, g, mn, hR⟩ := h
  have hR0 := hR
  obtain ⟨⟨a1, a2, a3, a4, a5, a6⟩, ⟨b1', b2, b3, b4⟩, ⟨c1, c2, c3, c4⟩, d1, d2⟩ := hR0
  have hn := a3.1
  have nN := nT (show n < 2147483648 by omega)
  have has := has_ok a1.1 hn
  have ha0 := a1.1
  have cb := b1'.1
  have hb : BG n g := B1.b b2.2.2.1
  refine Ok.no hR (v := nI (cntB (due w g) n 0)) ?_ ?_
  · show X10_due S 0 = _
    unfold X10_due
    rw [show rf 0 1 = 17 from rfs.2.1, countDue_ok (Or.inl rfl) a1 a3 b2.1 hb, bd_s]
  · intro S1 q
    have m2 := a2.gs q (by intro k j hk hq; omega)
    have isp := isPlace_ok m2.1 hn
    have mz := m2.1
    have mb : S1.1 173 3 = bi _ := (q.i (by omega)).trans b1'.2.1
    show X11_due S1 173 = _
    unfold X11_due
    rw [dueMany_ok m2 a3 (q.mg b2) hb, bd_s]
theorem op_twoWay (h : RelX S c) : Ok S c (fun S => X10_twoWay S 0) (fun S => X11_twoWay S 173) := by
  obtain ⟨n, kd, w, bg, g, mn, hR⟩ := h
  have hR0 := hR
  obtain ⟨⟨a1, a2, a3, a4, a5, a6⟩, ⟨b1', b2, b3, b4⟩, ⟨c1, c2, c3, c4⟩, d1, d2⟩ := hR0
  have hn := a3.1
  have nN := nT (show n < 2147483648 by omega)
  have has := has_ok a1.1 hn
  have ha0 := a1.1
  have cb := b1'.1
  cases bg with
  | false =>
    refine Ok.fd hR (v := -8) ?_ ?_
    · show X10_twoWay S 0 = _
      simp only [X10_twoWay, cb, bi_f, found_c, bd_s]
      rfl
    · intro S1 q
      have m2 := a2.gs q (by intro k j hk hq; omega)
      have isp := isPlace_ok m2.1 hn
      have mz := m2.1
      have mb : S1.1 173 3 = bi _ := (q.i (by omega)).trans b1'.2.1
      show X11_twoWay S1 173 = _
      simp only [X11_twoWay, mb, bi_f, found_m, bd_s]
      rfl
  | true =>
    refine Ok.no hR (v := b1 (two w n = true)) ?_ ?_
    · show X10_twoWay S 0 = _
      simp only [X10_twoWay, cb, bi_t, i10, not_false_iff, if_true, rfs, isTwoWay_ok a1 a3, bd_s, ite_b1z]
      unfold b1
      (repeat' split) <;> first | rfl | contradiction | (exfalso; omega)
    · intro S1 q
      have m2 := a2.gs q (by intro k j hk hq; omega)
      have isp := isPlace_ok m2.1 hn
      have mz := m2.1
      have mb : S1.1 173 3 = bi _ := (q.i (by omega)).trans b1'.2.1
      show X11_twoWay S1 173 = _
      simp only [X11_twoWay, mb, bi_t, i10, not_false_iff, if_true, isTwoWayM_ok m2 a3, bd_s, ite_b1z]
      unfold b1
      (repeat' split) <;> first | rfl | contradiction | (exfalso; omega)
theorem op_odometer (h : RelX S c) (u : Int32) : Ok S c (fun S => X10_odometer S 0 u) (fun S => X11_odometer S 173 u) := by
  obtain ⟨n, kd, w, bg, g, mn, hR⟩ := h
  have hR0 := hR
  obtain ⟨⟨a1, a2, a3, a4, a5, a6⟩, ⟨b1', b2, b3, b4⟩, ⟨c1, c2, c3, c4⟩, d1, d2⟩ := hR0
  have hn := a3.1
  have nN := nT (show n < 2147483648 by omega)
  have has := has_ok a1.1 hn
  have ha0 := a1.1
  have cb := b1'.1
  by_cases q1 : inN u n
  · obtain ⟨p, hp, rfl⟩ := inN_of q1 (by omega)
    refine Ok.no hR (v := S.2 20 p) ?_ ?_
    · show X10_odometer S 0 (nI p) = _
      simp only [X10_odometer, rfs, has, bd_s, ite_b1n, if_pos q1, ck_n (show p < 12 by omega) (show 12 < 2147483648 by omega), ix_n (show p < 2147483648 by omega)]
    · intro S1 q
      have m2 := a2.gs q (by intro k j hk hq; omega)
      have isp := isPlace_ok m2.1 hn
      have mz := m2.1
      have mb : S1.1 173 3 = bi _ := (q.i (by omega)).trans b1'.2.1
      show X11_odometer S1 173 (nI p) = _
      have e := b2.2.2.2.2.1 p (by omega)
      rw [Nat.zero_add, ← q.l (k := 177) (by omega)] at e
      simp only [X11_odometer, rfm, isp, bd_s, ite_b1z, if_pos q1, ck_n (show p < 12 by omega) (show 12 < 2147483648 by omega), ix_n (show p < 2147483648 by omega), e]
  · refine Ok.fd hR (v := Int32.toInt64 (-1)) ?_ ?_
    · show X10_odometer S 0 u = _
      simp only [X10_odometer, rfs, has, bd_s, ite_b1n, if_neg q1, found_c]
    · intro S1 q
      have m2 := a2.gs q (by intro k j hk hq; omega)
      have isp := isPlace_ok m2.1 hn
      have mz := m2.1
      have mb : S1.1 173 3 = bi _ := (q.i (by omega)).trans b1'.2.1
      show X11_odometer S1 173 u = _
      simp only [X11_odometer, isp, bd_s, ite_b1z, if_neg q1, found_m]
theorem op_grains (h : RelX S c) (u : Int32) : Ok S c (fun S => X10_grains S 0 u) (fun S => X11_grains S 173 u) := by
  obtain ⟨n, kd, w, bg, g, mn, hR⟩ := h
  have hR0 := hR
  obtain ⟨⟨a1, a2, a3, a4, a5, a6⟩, ⟨b1', b2, b3, b4⟩, ⟨c1, c2, c3, c4⟩, d1, d2⟩ := hR0
  have hn := a3.1
  have nN := nT (show n < 2147483648 by omega)
  have has := has_ok a1.1 hn
  have ha0 := a1.1
  have cb := b1'.1
  have hd := @isDitch_ok S
  by_cases q1 : inN u n
  · obtain ⟨p, hp, rfl⟩ := inN_of q1 (by omega)
    have g1 := b2.2.2.1 p hp
    refine Ok.no hR (v := lN (g p)) ?_ ?_
    · show X10_grains S 0 (nI p) = _
      simp only [X10_grains, rfs, has, bd_s, ite_b1z, if_pos q1, ck_n (show p < 12 by omega) (show 12 < 2147483648 by omega), ix_n (show p < 2147483648 by omega), b2.1 p hp, nI_l (show g p < 2 ^ 31 by omega)]
    · intro S1 q
      have m2 := a2.gs q (by intro k j hk hq; omega)
      have isp := isPlace_ok m2.1 hn
      have mz := m2.1
      have mb : S1.1 173 3 = bi _ := (q.i (by omega)).trans b1'.2.1
      show X11_grains S1 173 (nI p) = _
      simp only [X11_grains, lt_e, rfm, isp, bd_s, ite_b1n, if_pos q1, if_pos (show (0 : Int32) ≤ nI p by rw [le32, lits.1, nT (by omega)]; omega), ck_n (show p < 15 by omega) (show 15 < 2147483648 by omega), ix_n (show p < 2147483648 by omega), q.mg b2 p hp]
  · by_cases q2 : inD u
    · have e : u = -1 ∨ u = -2 ∨ u = -3 := by
        have e1 : (-1 : Int32).toInt = -1 := by decide
        have e2 : (-2 : Int32).toInt = -2 := by decide
        have e3 : (-3 : Int32).toInt = -3 := by decide
        simp only [eq32, e1, e2, e3]
        unfold inD at q2
        omega
      have e2 : ∃ d : Nat, d < 3 ∧ -1 - u = nI d ∧ 11 - u = nI (12 + d) := by
        rcases e with rfl | rfl | rfl
        · exact ⟨0, by decide⟩
        · exact ⟨1, by decide⟩
        · exact ⟨2, by decide⟩
      obtain ⟨d, h1, h2, h3⟩ := e2
      refine Ok.no hR (v := S.2 19 d) ?_ ?_
      · show X10_grains S 0 u = _
        simp only [X10_grains, rfs, has, hd, bd_s, ite_b1z, if_neg q1, if_pos q2, h2, ck_n h1 (show 3 < 2147483648 by omega), ix_n (show d < 2147483648 by omega)]
      · intro S1 q
        have m2 := a2.gs q (by intro k j hk hq; omega)
        have isp := isPlace_ok m2.1 hn
        have mz := m2.1
        have mb : S1.1 173 3 = bi _ := (q.i (by omega)).trans b1'.2.1
        show X11_grains S1 173 u = _
        have e := b2.2.2.2.1 d h1
        rw [Nat.zero_add, ← q.l (k := 176) (by omega)] at e
        simp only [X11_grains, lt_e, rfm, isp, in_ok, bd_s, ite_b1n, if_neg q1, h3, ck_n (show 12 + d < 15 by omega) (show 15 < 2147483648 by omega), ix_n (show 12 + d < 2147483648 by omega), e, lits]
        rw [if_pos (by unfold inD at q2; omega), if_neg (by rw [le32, lits.1]; unfold inD at q2; omega)]
    · refine Ok.fd hR (v := Int32.toInt64 (-1)) ?_ ?_
      · show X10_grains S 0 u = _
        simp only [X10_grains, rfs, has, hd, bd_s, ite_b1z, if_neg q1, if_neg q2, found_c]
      · intro S1 q
        have m2 := a2.gs q (by intro k j hk hq; omega)
        have isp := isPlace_ok m2.1 hn
        have mz := m2.1
        have mb : S1.1 173 3 = bi _ := (q.i (by omega)).trans b1'.2.1
        show X11_grains S1 173 u = _
        simp only [X11_grains, lt_e, isp, in_ok, bd_s, ite_b1n, if_neg q1, lits, found_m]
        rw [if_neg (by unfold inD at q2; omega)]
theorem op_burnt (h : RelX S c) (u : Int32) : Ok S c (fun S => X10_burnt S 0 u) (fun S => X11_burnt S 173 u) := by
  obtain ⟨n, kd, w, bg, g, mn, hR⟩ := h
  have hR0 := hR
  obtain ⟨⟨a1, a2, a3, a4, a5, a6⟩, ⟨b1', b2, b3, b4⟩, ⟨c1, c2, c3, c4⟩, d1, d2⟩ := hR0
  have hn := a3.1
  have nN := nT (show n < 2147483648 by omega)
  have has := has_ok a1.1 hn
  have ha0 := a1.1
  have cb := b1'.1
  obtain ⟨f, f1, f2, f3, f4, f5⟩ := c2
  have fN := nT (show f < 2147483648 by omega)
  have e1 : (nI f - (1 : Int32)).toInt = (f : Int) - 1 := by
    rw [i_sub (by rw [fN, lits.2.1]; omega) (by rw [fN, lits.2.1]; omega), fN, lits.2.1]
  by_cases q0 : u.toInt = -1
  · have q0' : u = -1 := by rw [eq32, q0]; rfl
    refine Ok.no hR (v := S.1 130 2) ?_ ?_
    · show X10_burnt S 0 u = _
      simp only [X10_burnt, rfs, q0', not_true, if_false]
    · intro S1 q
      show X11_burnt S1 173 u = _
      unfold X11_burnt
      rw [in_ok, bd_s]
      simp only [q.i (show 173 ≤ 173 by omega), f3, f4, e1, ite_b1n, le32, lits, q0]
      (repeat' split) <;> first | rfl | contradiction | (exfalso; omega)
  · by_cases q1 : inN u f
    · obtain ⟨p, hp, rfl⟩ := inN_of q1 (by omega)
      have pN := nT (show p < 2147483648 by omega)
      refine Ok.no hR (v := S.1 131 p) ?_ ?_
      · show X10_burnt S 0 (nI p) = _
        simp only [X10_burnt, rfs, lt_e, f2, eq32, lt32, pN, fN, lits, ck_n (show p < 12 by omega) (show 12 < 2147483648 by omega), ix_n (show p < 2147483648 by omega)]
        (repeat' split) <;> first | rfl | contradiction | (exfalso; omega)
      · intro S1 q
        show X11_burnt S1 173 (nI p) = _
        unfold X11_burnt
        rw [in_ok, bd_s]
        simp only [q.i (show 173 ≤ 173 by omega), q.i (show 173 ≤ 180 by omega), rfm, f3, e1, ite_b1n, le32, lits, pN, ck_n (show p < 12 by omega) (show 12 < 2147483648 by omega), ix_n (show p < 2147483648 by omega), f5 p hp]
        (repeat' split) <;> first | rfl | contradiction | (exfalso; omega)
    · refine Ok.fd hR (v := -11) ?_ ?_
      · show X10_burnt S 0 u = _
        simp only [X10_burnt, rfs, lt_e, f2, eq32, lt32, fN, lits, found_c, bd_s]
        (repeat' split) <;> first | rfl | contradiction | (exfalso; omega)
      · intro S1 q
        show X11_burnt S1 173 u = _
        unfold X11_burnt
        rw [in_ok, bd_s]
        simp only [q.i (show 173 ≤ 173 by omega), f3, e1, ite_b1n, le32, lits, found_m, bd_s]
        (repeat' split) <;> first | rfl | contradiction | (exfalso; omega)
theorem op_listed (h : RelX S c) (u v : Int32) : Ok S c (fun S => X10_listed S 0 u v) (fun S => X11_listed S 173 u v) := by
  obtain ⟨n, kd, w, bg, g, mn, hR⟩ := h
  have hR0 := hR
  obtain ⟨⟨a1, a2, a3, a4, a5, a6⟩, ⟨b1', b2, b3, b4⟩, ⟨c1, c2, c3, c4⟩, d1, d2⟩ := hR0
  have hn := a3.1
  have nN := nT (show n < 2147483648 by omega)
  have has := has_ok a1.1 hn
  have ha0 := a1.1
  have cb := b1'.1
  obtain ⟨f, f1, f2, f3, f4, f5⟩ := c4
  have fN := nT (show f < 2147483648 by omega)
  have e1 : (nI f - (1 : Int32)).toInt = (f : Int) - 1 := by
    rw [i_sub (by rw [fN, lits.2.1]; omega) (by rw [fN, lits.2.1]; omega), fN, lits.2.1]
  by_cases q1 : inN u f
  · obtain ⟨i, hi, rfl⟩ := inN_of q1 (by omega)
    have iN := nT (show i < 2147483648 by omega)
    by_cases q2 : inN v n
    · obtain ⟨p, hp, rfl⟩ := inN_of q2 (by omega)
      have e2 : nI i * (12 : Int32) + nI p = nI (12 * i + p) := by rw [show (12 : Int32) = nI 12 from rfl, pk_mul, nI_add, Nat.mul_comm]
      have e3 : (12 : Int32) * nI i + nI p = nI (12 * i + p) := by rw [show (12 : Int32) = nI 12 from rfl, pk_mul, nI_add]
      refine Ok.no hR (v := S.1 136 (12 * i + p)) ?_ ?_
      · show X10_listed S 0 (nI i) (nI p) = _
        simp only [X10_listed, X6_grainsOf, rfs, has, bd_s, lt_e, f2, lt32, iN, fN, lits, e2, ck_n (show 12 * i + p < 2400 by omega) (show 2400 < 2147483648 by omega), ix_n (show 12 * i + p < 2147483648 by omega), ite_b1n, if_pos q2]
        (repeat' split) <;> first | rfl | contradiction | (exfalso; omega)
      · intro S1 q
        have m2 := a2.gs q (by intro k j hk hq; omega)
        have isp := isPlace_ok m2.1 hn
        have mz := m2.1
        have mb : S1.1 173 3 = bi _ := (q.i (by omega)).trans b1'.2.1
        show X11_listed S1 173 (nI i) (nI p) = _
        unfold X11_listed
        rw [in_ok, bd_s]
        simp only [isp, bd_s, q.i (show 173 ≤ 173 by omega), q.i (show 173 ≤ 183 by omega), rfm, f3, e1, ite_b1n, ite_b1z, lits, iN, e3, ck_n (show 12 * i + p < 2400 by omega) (show 2400 < 2147483648 by omega), ix_n (show 12 * i + p < 2147483648 by omega), if_pos q2, f5 i p hi hp]
        (repeat' split) <;> first | rfl | contradiction | (exfalso; omega)
    · refine Ok.fd hR (v := -1) ?_ ?_
      · show X10_listed S 0 (nI i) v = _
        simp only [X10_listed, rfs, has, bd_s, lt_e, f2, lt32, iN, fN, lits, ite_b1n, if_neg q2, found_c]
        (repeat' split) <;> first | rfl | contradiction | (exfalso; omega)
      · intro S1 q
        have m2 := a2.gs q (by intro k j hk hq; omega)
        have isp := isPlace_ok m2.1 hn
        have mz := m2.1
        have mb : S1.1 173 3 = bi _ := (q.i (by omega)).trans b1'.2.1
        show X11_listed S1 173 (nI i) v = _
        unfold X11_listed
        rw [in_ok, bd_s]
        simp only [isp, bd_s, q.i (show 173 ≤ 173 by omega), f3, e1, ite_b1n, ite_b1z, lits, iN, if_neg q2, found_m]
        (repeat' split) <;> first | rfl | contradiction | (exfalso; omega)
  · refine Ok.fd hR (v := -11) ?_ ?_
    · show X10_listed S 0 u v = _
      simp only [X10_listed, rfs, has, bd_s, lt_e, f2, lt32, fN, lits, found_c]
      (repeat' split) <;> first | rfl | contradiction | (exfalso; omega)
    · intro S1 q
      show X11_listed S1 173 u v = _
      unfold X11_listed
      rw [in_ok, bd_s]
      simp only [q.i (show 173 ≤ 173 by omega), f3, e1, ite_b1n, lits, found_m, bd_s]
      (repeat' split) <;> first | rfl | contradiction | (exfalso; omega)
end
