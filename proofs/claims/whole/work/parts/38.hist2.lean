/-! calls that undo can take back: lay, slide; and undo itself -/
theorem hist_ok {S : St} {n mn : Nat} {bg : Bool} {g : Nat → Nat} (c1 : RHist S n mn bg) (hn : n ≤ 12) (hb : bg = true) (b2 : RH S n g) (b4 : RCh S n mn) : ∃ Sa, X3_note S 28 17 25 = some (Sa, ()) ∧ Sm (fun k _ => 28 ≤ k ∧ k ≤ 129) S Sa ∧ ∀ S1, Sm (fun k _ => k < 28 ∨ (130 ≤ k ∧ k < 173)) Sa S1 → ∃ Sb, X11_store S1 173 = some (Sb, ()) ∧ Sm (fun k j => (188 ≤ k ∧ k ≤ 192) ∨ (k = 173 ∧ j = 30)) S1 Sb ∧ ∀ Sf, Sm (fun k j => ¬ (28 ≤ k ∧ k ≤ 129) ∧ ¬ (188 ≤ k ∧ k ≤ 192) ∧ ¬ (k = 173 ∧ j = 30)) Sb Sf → RHist Sf n mn bg := by
  have c1' := c1
  obtain ⟨h0, x0, z1, z2, z3, z4, z5, z6, z7⟩ := c1'
  obtain ⟨Sa, n1, n2, n3⟩ := note_ok z2 z1 z5 z3
  refine ⟨Sa, n1, n2.mo (by intro k j hk; omega), fun S1 hS1 => ?_⟩
  have q : CT S S1 := (n2.tr hS1).mo (by intro k j hk; omega)
  obtain ⟨Sb, s1, s2, s3⟩ := store_ok (S := S1) z1 ((q.i (by omega)).trans z4)
  refine ⟨Sb, s1, s2, fun Sf hSf => ?_⟩
  exact c1.push hn hb b2 b4 z5 z3 z2 z1 (n3.gs z2 ((hS1.tr s2).tr hSf) (by intro k j hk hq; omega)) ((StoF.base q s3).gs hSf (by intro k j hk hq; omega))
section
variable {S : St} {c : Nat}
theorem op_lay (h : RelX S c) (u v : Int32) : Ok S c (fun S => X10_lay S 0 u v) (fun S => X11_lay S 173 u v) := by
  obtain ⟨n, kd, w, bg, g, mn, hR⟩ := h
  have hR0 := hR
  obtain ⟨⟨a1, a2, a3, a4, a5, a6⟩, ⟨b1', b2, b3, b4⟩, ⟨c1, c2, c3, c4⟩, d1, d2⟩ := hR0
  have hn := a3.1
  have nN := nT (show n < 2147483648 by omega)
  have has := has_ok a1.1 hn
  have ha0 := a1.1
  have cb := b1'.1
  by_cases q1 : inN u n
  · obtain ⟨p, hp, rfl⟩ := inN_of q1 (by omega)
    cases bg with
    | false =>
      refine Ok.fd hR (v := -8) ?_ ?_
      · show X10_lay S 0 (nI p) v = _
        simp only [X10_lay, rfs, has, bd_s, ite_b1n, if_pos q1, cb, bi_f, not_true, if_false, found_c]
      · intro S1 q
        have m2 := a2.gs q (by intro k j hk hq; omega)
        have isp := isPlace_ok m2.1 hn
        have mz := m2.1
        have mb : S1.1 173 3 = bi _ := (q.i (by omega)).trans b1'.2.1
        show X11_lay S1 173 (nI p) v = _
        simp only [X11_lay, isp, bd_s, ite_b1n, if_pos q1, mb, bi_f, not_true, if_false, found_m]
    | true =>
      have gp : S.1 18 p = nI (g p) := b2.1 p hp
      have gm : ∀ S1, CT S S1 → S1.2 176 p = lN (g p) := fun S1 q => q.mg b2 p hp
      have gb := b2.2.2.1 p hp
      have gl : Int32.toInt64 (nI (g p)) = lN (g p) := nI_l (by omega)
      generalize hy : lN (g p) + Int32.toInt64 v = y at *
      by_cases y1 : 0 ≤ y
      · by_cases y2 : y ≤ 1000000
        · obtain ⟨k, hk, rfl⟩ := pk_lOf (x := y) (by rw [lt64]; rw [le64] at y1; omega)
          have hk2 : k ≤ 1000000 := by
            rw [show (1000000 : Int64) = lN 1000000 from rfl, pk_lLE hk (by omega)] at y2
            exact y2
          obtain ⟨Sa, n1, n2, nx⟩ := hist_ok c1 hn rfl b2 b4
          obtain ⟨Sb, s1, s2, sx⟩ := nx (setI Sa 18 p (nI k)) ((sm_I Sa 18 p (nI k)).mo (by intro k j hk; omega))
          have q : CT S (setI Sa 18 p (nI k)) := (n2.tr (sm_I Sa 18 p (nI k))).mo (by intro k j hk; omega)
          refine ⟨setI Sa 18 p (nI k), setJ Sb 176 p (lN k), nI k, ?_, ?_, ?_⟩
          · show X10_lay S 0 (nI p) v = _
            simp only [X10_lay, rfs, has, bd_s, ite_b1n, if_pos q1, cb, bi_t, i10, not_false_iff, if_true, lt_e, gp, gl, hy, if_pos y1, if_pos y2, n1, ck_n (show p < 12 by omega) (show 12 < 2147483648 by omega), ix_n (show p < 2147483648 by omega), sI_s, lN_i]
          · show X11_lay _ 173 (nI p) v = _
            generalize hS1 : setI Sa 18 p (nI k) = S1 at q s1 s2 ⊢
            have m2 := a2.gs q (by intro k j hk hq; omega)
            have isp := isPlace_ok m2.1 hn
            have mz := m2.1
            have mb : S1.1 173 3 = bi _ := (q.i (by omega)).trans b1'.2.1
            simp only [X11_lay, isp, bd_s, ite_b1n, if_pos q1, mb, bi_t, i10, not_false_iff, if_true, lt_e, rfm, gm S1 q, hy, if_pos y1, if_pos y2, s1, ck_n (show p < 15 by omega) (show 15 < 2147483648 by omega), ix_n (show p < 2147483648 by omega), lN_i]
          · have hs := ((n2.tr (sm_I Sa 18 p (nI k))).tr s2).tr (sm_J Sb 176 p (lN k))
            have hr : RH (setJ Sb 176 p (lN k)) n (fun q => if q = p then k else g q) := by
              refine ⟨fun e he => ?_, fun e he => ?_, fun e he => ?_, fun d hd => ?_, fun e he => ?_, fun e he he2 => ?_⟩
              · rw [sJr, (s2 _ _ (fun z => by omega)).1]
                by_cases z : e = p
                · rw [z, sI_s]; simp
                · rw [sI_n (by omega), (n2 _ _ (fun z => by omega)).1, b2.1 e he]; simp [z]
              · rw [Nat.zero_add]
                by_cases z : e = p
                · rw [z, sJ_s]; simp
                · rw [sJ_n (by omega), (s2 _ _ (fun z => by omega)).2, sIr, (n2 _ _ (fun z => by omega)).2]
                  have := b2.2.1 e he
                  rw [Nat.zero_add] at this
                  rw [this]; simp [z]
              · show (if e = p then k else g e) ≤ 1000000
                split
                · exact hk2
                · exact b2.2.2.1 e he
              · rw [(hs 19 d (fun z => by omega)).2, (hs 176 (0 + 12 + d) (fun z => by omega)).2]; exact b2.2.2.2.1 d hd
              · rw [(hs 20 e (fun z => by omega)).2, (hs 177 (0 + e) (fun z => by omega)).2]; exact b2.2.2.2.2.1 e he
              · rw [(hs 177 (0 + e) (fun z => by omega)).2]; exact b2.2.2.2.2.2 e he he2
            exact (Rel.re hR hs (by intro k j hk hq; omega) (by intro k j hk hq; omega) a6 (Or.inl (by intro k j hk hq; omega)) (Or.inr hr) (Or.inr rfl) (Or.inl ⟨rfl, by intro k j hk hq; omega⟩) (Or.inr (sx _ ((sm_J Sb 176 p (lN k)).mo (by intro k j hk; omega)))) (Or.inl (by intro k j hk hq; omega)) (Or.inl (by intro k j hk hq; omega)) (Or.inl (by intro k j hk hq; omega)) (Or.inl (by intro k j hk hq; omega)) (Or.inl (by intro k j hk hq; omega))).x
        · refine Ok.fd hR (v := -5) ?_ ?_
          · show X10_lay S 0 (nI p) v = _
            simp only [X10_lay, rfs, has, bd_s, ite_b1n, if_pos q1, cb, bi_t, i10, not_false_iff, if_true, lt_e, gp, gl, hy, if_pos y1, if_neg y2, found_c, ck_n (show p < 12 by omega) (show 12 < 2147483648 by omega), ix_n (show p < 2147483648 by omega)]
          · intro S1 q
            have m2 := a2.gs q (by intro k j hk hq; omega)
            have isp := isPlace_ok m2.1 hn
            have mz := m2.1
            have mb : S1.1 173 3 = bi _ := (q.i (by omega)).trans b1'.2.1
            show X11_lay S1 173 (nI p) v = _
            simp only [X11_lay, isp, bd_s, ite_b1n, if_pos q1, mb, bi_t, i10, not_false_iff, if_true, lt_e, rfm, gm S1 q, hy, if_pos y1, if_neg y2, found_m, ck_n (show p < 15 by omega) (show 15 < 2147483648 by omega), ix_n (show p < 2147483648 by omega)]
      · refine Ok.fd hR (v := -13) ?_ ?_
        · show X10_lay S 0 (nI p) v = _
          simp only [X10_lay, rfs, has, bd_s, ite_b1n, if_pos q1, cb, bi_t, i10, not_false_iff, if_true, lt_e, gp, gl, hy, if_neg y1, found_c, ck_n (show p < 12 by omega) (show 12 < 2147483648 by omega), ix_n (show p < 2147483648 by omega)]
        · intro S1 q
          have m2 := a2.gs q (by intro k j hk hq; omega)
          have isp := isPlace_ok m2.1 hn
          have mz := m2.1
          have mb : S1.1 173 3 = bi _ := (q.i (by omega)).trans b1'.2.1
          show X11_lay S1 173 (nI p) v = _
          simp only [X11_lay, isp, bd_s, ite_b1n, if_pos q1, mb, bi_t, i10, not_false_iff, if_true, lt_e, rfm, gm S1 q, hy, if_neg y1, found_m, ck_n (show p < 15 by omega) (show 15 < 2147483648 by omega), ix_n (show p < 2147483648 by omega)]
  · refine Ok.fd hR (v := -1) ?_ ?_
    · show X10_lay S 0 u v = _
      simp only [X10_lay, rfs, has, bd_s, ite_b1n, if_neg q1, found_c]
    · intro S1 q
      have m2 := a2.gs q (by intro k j hk hq; omega)
      have isp := isPlace_ok m2.1 hn
      have mz := m2.1
      have mb : S1.1 173 3 = bi _ := (q.i (by omega)).trans b1'.2.1
      show X11_lay S1 173 u v = _
      simp only [X11_lay, isp, bd_s, ite_b1n, if_neg q1, found_m]
/-- one slide, done by the class from S to S1, by the reference from S1 (its rows as S has them) to S2 -/
theorem RH.sld {S S1 S2 : St} {n p t : Nat} {w : Nat → Nat → Nat} {g : Nat → Nat} (hp : p < n) (hn : n ≤ 12) (b2 : RH S n g) (hb : B1 n (sld w g t p)) (k1 : CG S1 17 n (sld w g t p)) (k2 : ∀ d, d < 3 → S1.2 19 d = S.2 19 d + lN (t * w p (12 + d))) (k3 : ∀ q, q < 12 → S1.2 20 q = if q = p then S.2 20 p + lN t else S.2 20 q) (e1 : ∀ q, q < n → S2.1 18 q = S1.1 18 q) (e2 : ∀ q, q < 12 → S2.2 19 q = S1.2 19 q ∧ S2.2 20 q = S1.2 20 q) (m1 : MG S2 176 n (sld w g t p)) (m2 : ∀ d, d < 3 → S2.2 176 (12 + d) = S.2 176 (12 + d) + lN (t * w p (12 + d))) (m3 : ∀ q, q < 12 → S2.2 177 q = if q = p then S.2 177 p + lN t else S.2 177 q) : RH S2 n (sld w g t p) := by
  obtain ⟨f1, f2, f3, f4, f5, f6⟩ := b2
  refine ⟨fun e he => ?_, fun e he => ?_, hb, fun d hd => ?_, fun e he => ?_, fun e he he2 => ?_⟩
  · rw [e1 e he]; exact k1 e he
  · rw [Nat.zero_add]; exact m1 e he
  · have := f4 d hd
    rw [Nat.zero_add] at this ⊢
    rw [(e2 d (by omega)).1, k2 d hd, m2 d hd, this]
  · have h1 := f5 e he
    have h2 := f5 p (by omega)
    rw [Nat.zero_add] at h1 h2 ⊢
    rw [(e2 e he).2, k3 e he, m3 e he, h1, h2]
  · have h1 := f6 e he he2
    rw [Nat.zero_add] at h1 ⊢
    rw [m3 e he2, if_neg (by omega)]; exact h1
theorem op_slide (h : RelX S c) (u : Int32) : Ok S c (fun S => X10_slide S 0 u) (fun S => X11_slide S 173 u) := by
  obtain ⟨n, kd, w, bg, g, mn, hR⟩ := h
  have hR0 := hR
  obtain ⟨⟨a1, a2, a3, a4, a5, a6⟩, ⟨b1', b2, b3, b4⟩, ⟨c1, c2, c3, c4⟩, d1, d2⟩ := hR0
  have hn := a3.1
  have nN := nT (show n < 2147483648 by omega)
  have has := has_ok a1.1 hn
  have ha0 := a1.1
  have cb := b1'.1
  have hb : BG n g := B1.b b2.2.2.1
  by_cases q1 : inN u n
  · obtain ⟨p, hp, rfl⟩ := inN_of q1 (by omega)
    have hlp := a3.ld_le (show p < 12 by omega)
    have gb := b2.2.2.1 p hp
    have id := isDue_ok (Or.inl rfl) a1 a3 b2.1 hb hp
    have ww := wouldOverfill_ok (Or.inl rfl) a1 a3 b2.1 hb hp
    cases hd : due w g p with
    | false =>
      have hd' : ¬ (0 < ld w p ∧ ld w p ≤ g p) := of_decide_eq_false hd
      refine Ok.fd hR (v := -8) ?_ ?_
      · show X10_slide S 0 (nI p) = _
        simp only [X10_slide, rfs, has, bd_s, ite_b1n, if_pos q1, id, hd, Bool.false_eq_true, if_false, found_c]
      · intro S1 q
        have m2 := a2.gs q (by intro k j hk hq; omega)
        have isp := isPlace_ok m2.1 hn
        have mz := m2.1
        have mb : S1.1 173 3 = bi _ := (q.i (by omega)).trans b1'.2.1
        show X11_slide S1 173 (nI p) = _
        simp only [X11_slide, isp, bd_s, ite_b1n, if_pos q1, rfm, load_ok m2 (show p < 12 by omega), ld_is, ix_n (show p < 2147483648 by omega), q.mg b2 p hp, isDueM_ok (g p) (ld w p) (by omega) (by omega), if_neg hd', found_m, ck_n (show p < 15 by omega) (show 15 < 2147483648 by omega)]
    | true =>
      have hd' : (0 < ld w p ∧ ld w p ≤ g p) := of_decide_eq_true hd
      have hbg : bg = true := by
        cases bg with
        | true => rfl
        | false =>
          have h0 := (b3 rfl p (by omega)).1
          rw [b2.1 p hp, show (0 : Int32) = nI 0 from rfl, nI_eq (by omega) (by omega)] at h0
          omega
      subst hbg
      cases ho : ovf w g (tms w kd g p) p n with
      | true =>
        refine Ok.fd hR (v := -5) ?_ ?_
        · show X10_slide S 0 (nI p) = _
          simp only [X10_slide, rfs, has, bd_s, ite_b1n, ite_b1z, if_pos q1, id, hd, if_true, ww, ho, found_c]
        · intro S1 q
          have m2 := a2.gs q (by intro k j hk hq; omega)
          have isp := isPlace_ok m2.1 hn
          have mz := m2.1
          have mb : S1.1 173 3 = bi _ := (q.i (by omega)).trans b1'.2.1
          show X11_slide S1 173 (nI p) = _
          simp only [X11_slide, isp, bd_s, ite_b1n, ite_b1z, if_pos q1, rfm, load_ok m2 (show p < 12 by omega), ld_is, ix_n (show p < 2147483648 by omega), q.mg b2 p hp, isDueM_ok (g p) (ld w p) (by omega) (by omega), if_pos hd', tooMuch_ok m2 a3 (q.mg b2) hb hp gb hd, ho, if_true, found_m, ck_n (show p < 15 by omega) (show 15 < 2147483648 by omega)]
      | false =>
        obtain ⟨Sa, n1, n2, nx⟩ := hist_ok c1 hn rfl b2 b4
        have a1a := a1.gs n2 (by intro k j hk hq; omega)
        have ga : CG Sa 17 n g := fun e he => (n2 18 e (fun z => by omega)).1.trans (b2.1 e he)
        obtain ⟨S1, l1, l2, l3, l4, l5⟩ := letSlide_ok (Or.inl rfl) a1a a3 ga hb hp
        have l2s := Sm.of l2
        obtain ⟨Sb, s1, s2, sx⟩ := nx S1 (l2s.mo (by intro k j hk; omega))
        have q : CT S S1 := (n2.tr l2s).mo (by intro k j hk; omega)
        have m2' := (a2.gs q (by intro k j hk hq; omega)).gs s2 (by intro k j hk hq; omega)
        have gmb : MG Sb 176 n g := fun e he => by rw [(s2 _ _ (fun z => by omega)).2]; exact q.mg b2 e he
        obtain ⟨Sc, t1, t2, t3, t4, t5⟩ := slides_ok m2' a3 (Or.inl rfl) gmb hb hp hd
        have t2s := Sm.of t2
        generalize hT : tms w kd g p = t at *
        refine ⟨S1, setJ Sc 177 p (Sc.2 177 p + lN t), nI t, ?_, ?_, ?_⟩
        · show X10_slide S 0 (nI p) = _
          simp only [X10_slide, rfs, has, bd_s, ite_b1n, ite_b1z, if_pos q1, id, hd, if_true, ww, ho, Bool.false_eq_true, if_false, n1, l1]
        · show X11_slide S1 173 (nI p) = _
          have m2 := a2.gs q (by intro k j hk hq; omega)
          have isp := isPlace_ok m2.1 hn
          have mz := m2.1
          have mb : S1.1 173 3 = bi _ := (q.i (by omega)).trans b1'.2.1
          simp only [X11_slide, isp, bd_s, ite_b1n, ite_b1z, if_pos q1, rfm, load_ok m2 (show p < 12 by omega), ld_is, ix_n (show p < 2147483648 by omega), q.mg b2 p hp, isDueM_ok (g p) (ld w p) (by omega) (by omega), if_pos hd', tooMuch_ok m2 a3 (q.mg b2) hb hp gb hd, hT, ho, Bool.false_eq_true, if_false, s1, t1, lt_e, lN_i, ck_n (show p < 15 by omega) (show 15 < 2147483648 by omega), ck_n (show p < 12 by omega) (show 12 < 2147483648 by omega)]
        · have hs2 := (s2.tr t2s).tr (sm_J Sc 177 p (Sc.2 177 p + lN t))
          have hs := (n2.tr l2s).tr hs2
          have hr : RH (setJ Sc 177 p (Sc.2 177 p + lN t)) n (sld w g t p) := by
            refine RH.sld hp hn b2 (B1.sld b2.2.2.1 ho) l3 (fun d hd => ?_) (fun e he => ?_) (fun e he => (hs2 18 e (fun z => by omega)).1) (fun e he => ⟨(hs2 19 e (fun z => by omega)).2, (hs2 20 e (fun z => by omega)).2⟩) (fun e he => ?_) (fun d hd => ?_) (fun e he => ?_)
            · rw [l4 d hd, (n2 19 d (fun z => by omega)).2]
            · have := l5 e
              rw [(n2 20 e (fun z => by omega)).2, (n2 20 p (fun z => by omega)).2] at this
              exact this
            · rw [sJ_n (by omega)]; exact t4 e he
            · rw [sJ_n (by omega), t5 d hd, (s2 _ _ (fun z => by omega)).2, q.l (by omega)]
            · have e9 : ∀ x, Sc.2 177 x = S.2 177 x := fun x => by rw [(t2s _ _ (fun z => by omega)).2, (s2 _ _ (fun z => by omega)).2, q.l (by omega)]
              by_cases z : e = p
              · rw [z, sJ_s, if_pos rfl, e9]
              · rw [sJ_n (by omega), if_neg z, e9]
          exact (Rel.re hR hs (by intro k j hk hq; omega) (by intro k j hk hq; omega) a6 (Or.inl (by intro k j hk hq; omega)) (Or.inr hr) (Or.inr rfl) (Or.inl ⟨rfl, by intro k j hk hq; omega⟩) (Or.inr (sx _ ((t2s.tr (sm_J Sc 177 p (Sc.2 177 p + lN t))).mo (by intro k j hk; omega)))) (Or.inl (by intro k j hk hq; omega)) (Or.inl (by intro k j hk hq; omega)) (Or.inl (by intro k j hk hq; omega)) (Or.inl (by intro k j hk hq; omega)) (Or.inl (by intro k j hk hq; omega))).x
  · refine Ok.fd hR (v := -1) ?_ ?_
    · show X10_slide S 0 u = _
      simp only [X10_slide, rfs, has, bd_s, ite_b1n, if_neg q1, found_c]
    · intro S1 q
      have m2 := a2.gs q (by intro k j hk hq; omega)
      have isp := isPlace_ok m2.1 hn
      have mz := m2.1
      have mb : S1.1 173 3 = bi _ := (q.i (by omega)).trans b1'.2.1
      show X11_slide S1 173 u = _
      simp only [X11_slide, isp, bd_s, ite_b1n, if_neg q1, found_m]
end
