/-! calls that build the slope; numbers told; terraces -/
theorem sN_upd (f : Nat → Nat) (x v : Nat) : ∀ k, sN (fun e => if e = x then f e + v else f e) k = sN f k + (if x < k then v else 0)
  | 0 => rfl
  | k + 1 => by
    show sN (fun e => if e = x then f e + v else f e) k + (if k = x then f k + v else f k) = sN f k + f k + _
    rw [sN_upd f x v k]
    repeat' split
    all_goals omega
section
variable {S : St} {c : Nat}
theorem op_place (h : RelX S c) (v : Int32) : Ok S c (fun S => X10_place S 0 v) (fun S => X11_place S 173 v) := by
  obtain ⟨n, kd, w, bg, g, mn, hR⟩ := h
  have hR0 := hR
  obtain ⟨⟨a1, a2, a3, a4, a5, a6⟩, ⟨b1', b2, b3, b4⟩, ⟨c1, c2, c3, c4⟩, d1, d2⟩ := hR0
  have hn := a3.1
  have nN := nT (show n < 2147483648 by omega)
  have has := has_ok a1.1 hn
  have ha0 := a1.1
  have cb := b1'.1
  cases bg with
  | true =>
    refine Ok.fd hR (v := -6) ?_ ?_
    · show X10_place S 0 v = _
      simp only [X10_place, cb, bi_t, i10, if_false, found_c, bd_s]
    · intro S1 q
      have m2 := a2.gs q (by intro k j hk hq; omega)
      have isp := isPlace_ok m2.1 hn
      have mz := m2.1
      have mb : S1.1 173 3 = bi _ := (q.i (by omega)).trans b1'.2.1
      show X11_place S1 173 v = _
      simp only [X11_place, mb, bi_t, i10, if_false, found_m, bd_s]
  | false =>
    by_cases q2 : inN v 5
    · have q4 : ¬ v < 0 := by rw [lt32, lits.1]; unfold inN at q2; omega
      have q5 : v < 5 := by simp only [lt32, lits]; unfold inN at q2; omega
      by_cases q3 : n = 12
      · refine Ok.fd hR (v := -5) ?_ ?_
        · show X10_place S 0 v = _
          simp only [X10_place, cb, bi_f, if_true, rfs, lt_e, if_neg q4, if_pos q5, ha0, q3, found_c, bd_s]
          rfl
        · intro S1 q
          have m2 := a2.gs q (by intro k j hk hq; omega)
          have isp := isPlace_ok m2.1 hn
          have mz := m2.1
          have mb : S1.1 173 3 = bi _ := (q.i (by omega)).trans b1'.2.1
          show X11_place S1 173 v = _
          unfold X11_place
          rw [mb, if_pos bi_f, in_ok, bd_s, ite_b1n, if_pos (by simp only [lits]; unfold inN at q2; omega), mz, if_neg (fun z => z (by rw [q3]; rfl)), found_m, bd_s]
      · obtain ⟨k, hk, rfl⟩ := inN_of q2 (by omega)
        have m0 : mn = 0 := a6 rfl
        have hlt : n < 12 := by omega
        have e1 : nI n + (1 : Int32) = nI (n + 1) := nI_1 n
        have e2 : nI (n + 1) - (1 : Int32) = nI n := nI_pred n
        have q : CT S (setI (setI S 2 n (nI k)) 1 3 (nI (n + 1))) := ((sm_I S 2 n (nI k)).tr (sm_I _ 1 3 (nI (n + 1)))).mo (by intro k j hk; omega)
        refine ⟨setI (setI S 2 n (nI k)) 1 3 (nI (n + 1)), setI (setI (setI (setI S 2 n (nI k)) 1 3 (nI (n + 1))) 174 n (nI k)) 173 0 (nI (n + 1)), nI n, ?_, ?_, ?_⟩
        · show X10_place S 0 (nI k) = _
          simp only [X10_place, X7_addPlace, cb, bi_f, if_true, rfs, lt_e, if_neg q4, if_pos q5, ha0, if_pos (show nI n < 12 by rw [show (12 : Int32) = nI 12 from rfl]; exact nI_lt hlt (by omega)), ck_n hlt (show 12 < 2147483648 by omega), ix_n (show n < 2147483648 by omega), sI_s, sI_n (show ¬ (1 = 2 ∧ 3 = n) by omega), e1, bd_s, e2]
        · show X11_place _ 173 (nI k) = _
          generalize setI (setI S 2 n (nI k)) 1 3 (nI (n + 1)) = S1 at q ⊢
          have m2 := a2.gs q (by intro k j hk hq; omega)
          have isp := isPlace_ok m2.1 hn
          have mz := m2.1
          have mb : S1.1 173 3 = bi _ := (q.i (by omega)).trans b1'.2.1
          unfold X11_place
          rw [mb, if_pos bi_f, in_ok, bd_s, ite_b1n, if_pos (by simp only [lits]; unfold inN at q2; omega), mz, if_pos (by rw [show (12 : Int32) = nI 12 from rfl, nI_eq (by omega) (by omega)]; exact q3), ck_n hlt (by omega), rfm.1, ix_n (by omega)]
          simp only [lt_e]
          have f3 : (setI S1 174 n (nI k)).1 173 0 = nI n := by rw [sI1, if_neg (by omega)]; exact mz
          rw [f3, e1]
          simp only [sI_s, e2]
        · have hs := (((sm_I S 2 n (nI k)).tr (sm_I (setI S 2 n (nI k)) 1 3 (nI (n + 1)))).tr (sm_I (setI (setI S 2 n (nI k)) 1 3 (nI (n + 1))) 174 n (nI k))).tr (sm_I (setI (setI (setI S 2 n (nI k)) 1 3 (nI (n + 1))) 174 n (nI k)) 173 0 (nI (n + 1)))
          have n0 := b3 rfl n hlt
          subst m0
          refine ⟨n + 1, fun p => if p = n then k else kd p, w, false, fun p => if p = n then 0 else g p, 0, ⟨⟨⟨?_, fun p hp => ?_, fun p e hp he => ?_, fun p hp => ?_⟩, ⟨?_, fun p hp => ?_, fun p e hp he => ?_⟩, ⟨by omega, fun p hp => ?_, a3.2.2.1, a3.2.2.2⟩, fun p hp => by have := a4 p hp; omega, fun q => absurd q (by decide), fun _ => rfl⟩, ⟨b1'.gs hs ?_, (b2.ext1 n0.1 n0.2).gs (by omega) hs ?_, b3.gs hs ?_, b4.nb.gs (by omega) hs ?_⟩, ⟨c1.nb.gs (by omega) hs ?_, c2.gs hs ?_, c3.nb.gs (by omega) hs ?_, c4.nb.gs hs ?_⟩, d1.gs hs ?_, d2.gs hs ?_⟩⟩
          case refine_1 => simp [sI1]
          case refine_2 =>
            show _ = nI (if p = n then k else kd p)
            by_cases e : p = n
            · simp [sI1, e]
            · rw [if_neg e, ← a1.2.1 p (by omega)]
              simp [sI1, e]
          case refine_3 =>
            rw [← a1.2.2.1 p e hp he]
            have z1 : ¬ (4 + p = 1) := by omega
            have z2 : ¬ (4 + p = 2) := by omega
            have z3 : ¬ (4 + p = 174) := by omega
            have z4 : ¬ (4 + p = 173) := by omega
            simp [sI1, z1, z2, z3, z4]
          case refine_4 => rw [← a1.2.2.2 p hp]; simp [sI1]
          case refine_5 => simp [sI1]
          case refine_6 =>
            show _ = nI (if p = n then k else kd p)
            by_cases e : p = n
            · simp [sI1, e]
            · rw [if_neg e, ← a2.2.1 p (by omega)]
              simp [sI1, e]
          case refine_7 => rw [← a2.2.2 p e hp he]; simp [sI1]
          case refine_8 =>
            show (if p = n then k else kd p) < 5
            split
            · exact hk
            · exact a3.2.1 p (by omega)
          all_goals
            intro k j hk hq
            omega
    · refine Ok.fd hR (v := -1) ?_ ?_
      · show X10_place S 0 v = _
        simp only [X10_place, cb, bi_f, if_true, rfs, lt_e, ha0, found_c, bd_s, lt32, lits]
        (repeat' split) <;> first | rfl | contradiction | (exfalso; omega)
      · intro S1 q
        have m2 := a2.gs q (by intro k j hk hq; omega)
        have isp := isPlace_ok m2.1 hn
        have mz := m2.1
        have mb : S1.1 173 3 = bi _ := (q.i (by omega)).trans b1'.2.1
        show X11_place S1 173 v = _
        unfold X11_place
        rw [mb, if_pos bi_f, in_ok, bd_s, ite_b1n, if_neg (by simp only [lits]; unfold inN at q2; omega), found_m, bd_s]
theorem op_tell (h : RelX S c) (v : Int32) : Ok S c (fun S => X10_tell S 0 v) (fun S => X11_tell S 173 v) := by
  obtain ⟨n, kd, w, bg, g, mn, hR⟩ := h
  have hR0 := hR
  obtain ⟨⟨a1, a2, a3, a4, a5, a6⟩, ⟨b1', b2, b3, b4⟩, ⟨c1, c2, c3, c4⟩, d1, d2⟩ := hR0
  have hn := a3.1
  have nN := nT (show n < 2147483648 by omega)
  have has := has_ok a1.1 hn
  have ha0 := a1.1
  have cb := b1'.1
  obtain ⟨r, f1, f2, f3, f4⟩ := d2
  by_cases q1 : r = 200
  · refine Ok.fd hR (v := -5) ?_ ?_
    · show X10_tell S 0 v = _
      simp only [X10_tell, rfs, f2, q1, found_c, bd_s]
      rfl
    · intro S1 q
      show X11_tell S1 173 v = _
      simp only [X11_tell, q.i (show 173 ≤ 173 by omega), f3, q1, found_m, bd_s]
      rfl
  · have hr : r < 200 := by omega
    have e1 : nI r + (1 : Int32) = nI (r + 1) := nI_1 r
    have q : CT S (setI (setI S 171 r v) 170 1 (nI (r + 1))) := ((sm_I S 171 r v).tr (sm_I _ 170 1 (nI (r + 1)))).mo (by intro k j hk; omega)
    refine ⟨setI (setI S 171 r v) 170 1 (nI (r + 1)), setI (setI (setI (setI S 171 r v) 170 1 (nI (r + 1))) 187 r v) 173 23 (nI (r + 1)), nI (r + 1), ?_, ?_, ?_⟩
    · show X10_tell S 0 v = _
      simp only [X10_tell, X5_add, rfs, f2, if_pos (show nI r < 200 by rw [show (200 : Int32) = nI 200 from rfl]; exact nI_lt hr (by omega)), lt_e, ck_n hr (show 200 < 2147483648 by omega), ix_n (show r < 2147483648 by omega), sI_s, sI_n (show ¬ (170 = 171 ∧ 1 = r) by omega), e1, bd_s]
    · show X11_tell _ 173 v = _
      have m1 : (setI (setI S 171 r v) 170 1 (nI (r + 1))).1 173 23 = nI r := (q.i (by omega)).trans f3
      generalize setI (setI S 171 r v) 170 1 (nI (r + 1)) = S1 at q m1 ⊢
      simp only [X11_tell, m1, rfm, if_pos (show ¬ nI r = 200 by rw [show (200 : Int32) = nI 200 from rfl, nI_eq (by omega) (by omega)]; omega), lt_e, ck_n hr (show 200 < 2147483648 by omega), ix_n (show r < 2147483648 by omega), sI_s, sI_n (show ¬ (173 = 187 ∧ 23 = r) by omega), e1]
    · have hs := (((sm_I S 171 r v).tr (sm_I (setI S 171 r v) 170 1 (nI (r + 1)))).tr (sm_I (setI (setI S 171 r v) 170 1 (nI (r + 1))) 187 r v)).tr (sm_I (setI (setI (setI S 171 r v) 170 1 (nI (r + 1))) 187 r v) 173 23 (nI (r + 1)))
      refine (Rel.re hR hs (by intro k j hk hq; omega) (by intro k j hk hq; omega) a6 (Or.inl (by intro k j hk hq; omega)) (Or.inl ⟨rfl, by intro k j hk hq; omega⟩) (Or.inl (by intro k j hk hq; omega)) (Or.inl ⟨rfl, by intro k j hk hq; omega⟩) (Or.inl ⟨rfl, by intro k j hk hq; omega⟩) (Or.inl (by intro k j hk hq; omega)) (Or.inl (by intro k j hk hq; omega)) (Or.inl (by intro k j hk hq; omega)) (Or.inl (by intro k j hk hq; omega)) (Or.inr ⟨r + 1, by omega, ?_, ?_, fun i hi => ?_⟩)).x
      · simp [sI1]
      · simp [sI1]
      · by_cases e : i = r
        · simp [sI1, e]
        · have := f4 i (by omega)
          simp [sI1, e, this]
theorem isTer_c (u : Int32) : X10_isTerrace S u = some (S, b1 (inN u 4)) := by
  unfold X10_isTerrace b1 inN
  simp only [lt_e, lt32, le32, lits]
  repeat' split
  all_goals first | rfl | (exfalso; omega)
theorem b1_iff {a b : Prop} [Decidable a] [Decidable b] (h : a ↔ b) : b1 a = b1 b := by
  unfold b1
  by_cases z : a
  · rw [if_pos z, if_pos (h.mp z)]
  · rw [if_neg z, if_neg (fun y => z (h.mpr y))]
theorem isTer_m (u : Int32) : X11_isTerrace S u = some (S, b1 (inN u 4)) := by
  unfold X11_isTerrace
  rw [in_ok, bd_s, b1_g]
  simp only [lits]
  rw [b1_iff (show (0 ≤ u.toInt ∧ u.toInt ≤ 3) ↔ inN u 4 by unfold inN; omega)]
theorem isSlot_c (u : Int32) : X10_isSlot S u = some (S, b1 (inN u 8)) := by
  unfold X10_isSlot b1 inN
  simp only [lt_e, lt32, le32, lits]
  repeat' split
  all_goals first | rfl | (exfalso; omega)
theorem isSlot_m (u : Int32) : X11_isSlot S u = some (S, b1 (inN u 8)) := by
  unfold X11_isSlot
  rw [in_ok, bd_s, b1_g]
  simp only [lits]
  rw [b1_iff (show (0 ≤ u.toInt ∧ u.toInt ≤ 7) ↔ inN u 8 by unfold inN; omega)]
abbrev wid (v : Int32) : Prop := v = 0 ∨ v = 8 ∨ v = 16 ∨ v = 32 ∨ v = 64
theorem wid_ite {α : Type} {v : Int32} (h : wid v) (a b : α) : (if v = 0 then a else if v = 8 then a else if v = 16 then a else if v = 32 then a else if v = 64 then a else b) = a := by
  rcases h with rfl | rfl | rfl | rfl | rfl <;> rfl
theorem isWidth_c (u : Int32) : X10_isWidth S u = some (S, b1 (wid u)) := by
  unfold X10_isWidth b1 wid
  simp only [lt_e, eq32, lits]
  repeat' split
  all_goals first | rfl | (exfalso; omega)
theorem build_ok {t b l : Nat} (ht : t < 4) (hb : b < 100) (S : St) : ∃ S2, X9_build S (162 + 2 * t) (nI b) (nI l) = some (S2, nI (if b = 0 then 0 else l)) ∧ Sm (fun k _ => k = 162 + 2 * t ∨ k = 163 + 2 * t) S S2 ∧ S2.1 (162 + 2 * t) 1 = nI b ∧ S2.1 (162 + 2 * t) 2 = nI (if b = 0 then 0 else l) ∧ ∀ i, i < 16 → S2.2 (163 + 2 * t) i = 0 := by
  obtain ⟨Sa, p1, p2, p3⟩ := build_2_ok ht (nI b) (nI l) 16 FU 0 S (by omega) (by decide)
  have p2' := (p2.tr (sm_I Sa (162 + 2 * t) 1 (nI b))).tr (sm_I (setI Sa (162 + 2 * t) 1 (nI b)) (162 + 2 * t) 2 (nI (if b = 0 then 0 else l)))
  refine ⟨setI (setI Sa (162 + 2 * t) 1 (nI b)) (162 + 2 * t) 2 (nI (if b = 0 then 0 else l)), ?_, p2'.mo (by intro k j hk; omega), ?_, sI_s _ _ _ _, fun i hi => ?_⟩
  · unfold X9_build
    rw [show (0 : Int32) = nI 0 from rfl, p1]
    simp only [lt_e, nI_eq (show b < 2 ^ 31 by omega) (show 0 < 2 ^ 31 by omega), sI_s]
    by_cases z : b = 0
    · rw [if_neg (fun y => y z), if_pos z]
    · rw [if_pos z, if_neg z]
  · rw [sI_n (by omega), sI_s]
  · exact p3 i (by omega) hi
theorem op_terrace (h : RelX S c) (u v x : Int32) : Ok S c (fun S => X10_terrace S 0 u v x) (fun S => X11_terrace S 173 u v x) := by
  obtain ⟨n, kd, w, bg, g, mn, hR⟩ := h
  have hR0 := hR
  obtain ⟨⟨a1, a2, a3, a4, a5, a6⟩, ⟨b1', b2, b3, b4⟩, ⟨c1, c2, c3, c4⟩, d1, d2⟩ := hR0
  have hn := a3.1
  have nN := nT (show n < 2147483648 by omega)
  have has := has_ok a1.1 hn
  have ha0 := a1.1
  have cb := b1'.1
  by_cases q1 : inN u 4
  · obtain ⟨t, ht, rfl⟩ := inN_of q1 (by omega)
    by_cases q2 : wid v
    · by_cases q3 : x.toInt < 0
      · refine Ok.fd hR (v := -3) ?_ ?_
        · show X10_terrace S 0 (nI t) v x = _
          simp only [X10_terrace, isTer_c, isWidth_c, bd_s, lt_e, ite_b1z, ite_b1n, if_pos q1, if_pos q2, found_c, le32, lits]
          (repeat' split) <;> first | rfl | contradiction | (exfalso; omega)
        · intro S1 q
          show X11_terrace S1 173 (nI t) v x = _
          simp only [X11_terrace, isTer_m, bd_s, lt_e, ite_b1z, if_pos q1, found_m, le32, lits, if_neg (show ¬ 0 ≤ x.toInt by omega), ite_self]
          rw [wid_ite q2]
      · by_cases q4 : 16 < x.toInt
        · refine Ok.fd hR (v := -1) ?_ ?_
          · show X10_terrace S 0 (nI t) v x = _
            simp only [X10_terrace, isTer_c, isWidth_c, bd_s, lt_e, ite_b1z, ite_b1n, if_pos q1, if_pos q2, found_c, le32, lits]
            (repeat' split) <;> first | rfl | contradiction | (exfalso; omega)
          · intro S1 q
            show X11_terrace S1 173 (nI t) v x = _
            simp only [X11_terrace, isTer_m, bd_s, lt_e, ite_b1z, if_pos q1, found_m, le32, lits, if_pos (show 0 ≤ x.toInt by omega), if_neg (show ¬ x.toInt ≤ 16 by omega)]
            rw [wid_ite q2]
        · obtain ⟨l, hl, rfl⟩ := inN_of (show inN x 17 by unfold inN; omega) (by omega)
          have lN' := nT (show l < 2147483648 by omega)
          have q5 : (0 : Int32) ≤ nI l := by rw [le32, lits.1, lN']; omega
          have q6 : nI l ≤ (16 : Int32) := by simp only [le32, lits, lN']; omega
          have hv : ∃ b, (b = 0 ∨ b = 8 ∨ b = 16 ∨ b = 32 ∨ b = 64) ∧ v = nI b := by
            rcases q2 with rfl | rfl | rfl | rfl | rfl
            · exact ⟨0, by decide⟩
            · exact ⟨8, by decide⟩
            · exact ⟨16, by decide⟩
            · exact ⟨32, by decide⟩
            · exact ⟨64, by decide⟩
          obtain ⟨b, hb, rfl⟩ := hv
          obtain ⟨S1, p1, p2, p3, p4, p5⟩ := build_ok (l := l) ht (show b < 100 by omega) S
          have q : CT S S1 := p2.mo (by intro k j hk; omega)
          generalize hl1 : (if b = 0 then 0 else l) = l1 at p1 p4
          have hl2 : l1 ≤ 16 := by rw [← hl1]; split <;> omega
          obtain ⟨Sb, r1, r2, r3⟩ := terrace_89_ok ht 16 FU 0 (setI (setI S1 184 t (nI b)) 185 t (nI l1)) (by omega) (by decide)
          have e9 : Sb.1 185 t = nI l1 := by
            rw [(r2 185 t (fun z => by omega)).1, sI_s]
          refine ⟨S1, Sb, nI l1, ?_, ?_, ?_⟩
          · show X10_terrace S 0 (nI t) (nI b) (nI l) = _
            simp only [X10_terrace, isTer_c, isWidth_c, bd_s, lt_e, ite_b1z, ite_b1n, if_pos q1, if_pos q2, if_pos q5, if_pos q6, ck_n ht (show 4 < 2147483648 by omega), rfs, rf_161, ix_n (show t < 2147483648 by omega), p1]
          · show X11_terrace S1 173 (nI t) (nI b) (nI l) = _
            have e10 : (if ¬ nI b = 0 then nI l else 0) = nI l1 := by
              rw [← hl1]
              by_cases z : b = 0
              · subst z; rfl
              · rw [if_pos (nI_ne0 (by omega) (by omega)), if_neg z]
            have e11 : X11_terrace S1 173 (nI t) (nI b) (nI l) = X11_terrace_89 173 (nI t) (fun (S39 : St) (_ : Int32) => some (S39, S39.1 185 t)) FU (setI (setI S1 184 t (nI b)) 185 t (if ¬ nI b = 0 then nI l else 0)) 0 := by
              unfold wid at q2
              simp only [X11_terrace, isTer_m, bd_s, lt_e, ite_b1z, if_pos q1, if_pos q5, if_pos q6, ck_n ht (show 4 < 2147483648 by omega), rfm, ix_n (show t < 2147483648 by omega)]
              by_cases z : nI b = 0
              · rw [if_pos z, if_neg (fun y => y z), if_neg (fun y => y z)]
              · simp only [if_neg z, if_pos z]
                rcases hb with rfl | rfl | rfl | rfl | rfl
                · exact absurd rfl z
                · rw [if_pos (by decide)]
                · rw [if_neg (by decide), if_pos (by decide)]
                · rw [if_neg (by decide), if_neg (by decide), if_pos (by decide)]
                · rw [if_neg (by decide), if_neg (by decide), if_neg (by decide), if_pos (by decide)]
            rw [e11, e10]
            rw [show (0 : Int32) = nI 0 from rfl, r1, e9]
          · have hs := ((p2.tr (sm_I S1 184 t (nI b))).tr (sm_I (setI S1 184 t (nI b)) 185 t (nI l1))).tr r2
            refine (Rel.re hR hs (by intro k j hk hq; omega) (by intro k j hk hq; omega) a6 (Or.inl (by intro k j hk hq; omega)) (Or.inl ⟨rfl, by intro k j hk hq; omega⟩) (Or.inl (by intro k j hk hq; omega)) (Or.inl ⟨rfl, by intro k j hk hq; omega⟩) (Or.inl ⟨rfl, by intro k j hk hq; omega⟩) (Or.inl (by intro k j hk hq; omega)) (Or.inl (by intro k j hk hq; omega)) (Or.inl (by intro k j hk hq; omega)) (Or.inr (fun t2 ht2 => ?_)) (Or.inl (by intro k j hk hq; omega))).x
            by_cases e : t2 = t
            · subst e
              refine ⟨b, l1, hb, hl2, ?_, ?_, ?_, e9, fun i hi => ?_⟩
              · rw [(r2 _ _ (fun z => by omega)).1, sI_n (by omega), sI_n (by omega), p3]
              · rw [(r2 _ _ (fun z => by omega)).1, sI_n (by omega), sI_s]
              · rw [(r2 _ _ (fun z => by omega)).1, sI_n (by omega), sI_n (by omega), p4]
              · rw [r3 i (by omega) hi, (r2 _ _ (fun z => by omega)).2]
                exact p5 i hi
            · exact (d1 t2 ht2).gs hs (by intro k j hk hq; omega)
    · refine Ok.fd hR (v := -1) ?_ ?_
      · show X10_terrace S 0 (nI t) v x = _
        simp only [X10_terrace, isTer_c, isWidth_c, bd_s, lt_e, ite_b1z, ite_b1n, if_pos q1, if_neg q2, found_c]
      · intro S1 q
        show X11_terrace S1 173 (nI t) v x = _
        simp only [X11_terrace, isTer_m, bd_s, lt_e, ite_b1z, if_pos q1, found_m]
        unfold wid at q2
        rw [if_neg (fun z => q2 (Or.inl z)), if_neg (fun z => q2 (Or.inr (Or.inl z))), if_neg (fun z => q2 (Or.inr (Or.inr (Or.inl z)))), if_neg (fun z => q2 (Or.inr (Or.inr (Or.inr (Or.inl z))))), if_neg (fun z => q2 (Or.inr (Or.inr (Or.inr (Or.inr z)))))]
  · refine Ok.fd hR (v := -1) ?_ ?_
    · show X10_terrace S 0 u v x = _
      simp only [X10_terrace, isTer_c, bd_s, lt_e, ite_b1z, if_neg q1, found_c]
    · intro S1 q
      show X11_terrace S1 173 u v x = _
      simp only [X11_terrace, isTer_m, bd_s, lt_e, ite_b1z, if_neg q1, found_m]
end
