/-! nought, contrary -/
section
variable {S : St} {c : Nat}
theorem Ok.fdS {n mn : Nat} {kd : Nat → Nat} {w : Nat → Nat → Nat} {g : Nat → Nat} {bg : Bool} {ρ : Type} {f m : St → Option (St × ρ)} {v : ρ} (hR : Rel S c n kd w bg g mn) {Sx : St} (hx : Sm (fun k _ => (21 ≤ k ∧ k ≤ 24) ∨ (133 ≤ k ∧ k ≤ 135) ∨ (137 ≤ k ∧ k ≤ 150) ∨ k = 172) S Sx) (hf : f S = some (setI Sx 0 15 (Sx.1 0 15 + 1), v)) (hm : ∀ S1, CT S S1 → ∃ Sy, Sm (fun k _ => 193 ≤ k) S1 Sy ∧ m S1 = some (setI Sy 173 24 (Sy.1 173 24 + 1), v)) : Ok S c f m := by
  have hR0 := hR
  obtain ⟨⟨a1, a2, a3, a4, a5, a6⟩, ⟨b1', b2, b3, b4⟩, ⟨c1, c2, c3, c4⟩, d1, d2⟩ := hR0
  have hs1 := hx.tr (sm_I Sx 0 15 (Sx.1 0 15 + 1))
  have q : CT S (setI Sx 0 15 (Sx.1 0 15 + 1)) := hs1.mo (by intro k j hk; omega)
  obtain ⟨Sy, y1, y2⟩ := hm _ q
  have hs := (hs1.tr y1).tr (sm_I Sy 173 24 (Sy.1 173 24 + 1))
  refine ⟨_, _, v, hf, y2, ?_⟩
  refine (Rel.re hR hs (by intro k j hk hq; omega) (by intro k j hk hq; omega) a6 (Or.inr ⟨?_, ?_, ?_, ?_⟩) (Or.inl ⟨rfl, by intro k j hk hq; omega⟩) (Or.inl (by intro k j hk hq; omega)) (Or.inl ⟨rfl, by intro k j hk hq; omega⟩) (Or.inl ⟨rfl, by intro k j hk hq; omega⟩) (Or.inl (by intro k j hk hq; omega)) (Or.inl (by intro k j hk hq; omega)) (Or.inl (by intro k j hk hq; omega)) (Or.inl (by intro k j hk hq; omega)) (Or.inl (by intro k j hk hq; omega))).x
  · rw [(hs 0 13 (fun z => by omega)).1]; exact b1'.1
  · rw [(hs 173 3 (fun z => by omega)).1]; exact b1'.2.1
  · rw [(hs 0 14 (fun z => by omega)).1, (hs 173 7 (fun z => by omega)).1]; exact b1'.2.2.1
  · rw [sI_s, sI_n (by omega), (y1 _ _ (fun z => by omega)).1, sI_s, (y1 _ _ (fun z => by omega)).1, q.i (by omega), (hx _ _ (fun z => by omega)).1, b1'.2.2.2]
def grt (w : Nat → Nat → Nat) (p : Nat) : Nat := 2 * (ld w p - 1)
theorem stlT_ok {n : Nat} {kd : Nat → Nat} {w : Nat → Nat → Nat} {g a : Nat → Nat} (hld : ∀ p, p < n → 0 < ld w p) (h : stlT w kd n g = some a) : B1 n a ∧ ∀ p, p < n → a p < ld w p := by
  unfold stlT at h
  cases hov : anyB (fun p => decide (1000000 < g p)) n 0 with
  | true => rw [hov] at h; cases h
  | false =>
    rw [hov] at h
    obtain ⟨h1, h2⟩ := stl_ok (over_B1 hov) h
    refine ⟨h1, fun p hp => ?_⟩
    have h3 := fst_none h2 p (by omega) (by omega)
    have h4 : ¬ (0 < ld w p ∧ ld w p ≤ a p) := of_decide_eq_false h3
    have := hld p hp
    omega
theorem e_grt {w : Nat → Nat → Nat} {p : Nat} (h : 0 < ld w p) : (2 : Int32) * (nI (ld w p) - 1) = nI (grt w p) := by
  rw [show (1 : Int32) = nI 1 from rfl, pk_sub h, show (2 : Int32) = nI 2 from rfl, pk_mul]; rfl
theorem e_grtM {w : Nat → Nat → Nat} {p : Nat} (h : 0 < ld w p) (h2 : ld w p ≤ 5000) : (2 : Int64) * Int32.toInt64 (nI (sN (w p) 15) - 1) = lN (grt w p) := by
  rw [ld_is, show (1 : Int32) = nI 1 from rfl, pk_sub h, nI_l (by omega), show (2 : Int64) = lN 2 from rfl, lN_mul]; rfl
theorem BG_grt {n : Nat} {kd : Nat → Nat} {w : Nat → Nat → Nat} (hi : ISl n kd w) : BG n (grt w) := fun p hp => by
  have := hi.ld_le (show p < 12 by have := hi.1; omega)
  unfold grt
  omega
theorem findA_ok {n : Nat} {kd : Nat → Nat} {w : Nat → Nat → Nat} (h : CSl S n kd w) (hi : ISl n kd w) (hld : ∀ p, p < n → 0 < ld w p) : ∃ S2, X10_findLeftOfA S 0 = some (S2, b1 ((stlT w kd n (grt w)).isSome = true)) ∧ Sm (fun k _ => (21 ≤ k ∧ k ≤ 24) ∨ k = 172) S S2 ∧ ∀ a, stlT w kd n (grt w) = some a → ∀ p, p < n → S2.1 172 p = nI (grt w p - a p) := by
  have hn := hi.1
  obtain ⟨Sa, p1, p2, p3⟩ := findA_2_ok hn n FU 0 S (by omega) (by unfold FU; omega) h.1
  rw [nI_0] at p1
  have hsb := sm_R Sa 22 (va_cpy (Sa.1 172) (Sa.1 22) 0 0 12)
  have ga : ∀ p, p < n → Sa.1 172 p = nI (grt w p) := fun p hp => by
    rw [p3 p (by omega) hp, h.2.2.2 p (by omega), ld_is, e_grt (hld p hp)]
  have gb : CG (setR Sa 22 (va_cpy (Sa.1 172) (Sa.1 22) 0 0 12)) 21 n (grt w) := fun p hp => by
    show (setR Sa 22 (va_cpy (Sa.1 172) (Sa.1 22) 0 0 12)).1 22 p = _
    rw [sR_s, cpy0 (by omega)]; exact ga p hp
  have h2 := (h.gs p2 (by intro k j hk hq; omega)).gs hsb (by intro k j hk hq; omega)
  obtain ⟨Sc, t1, t2, t3⟩ := settle_ok (Or.inr rfl) h2 hi gb (BG_grt hi)
  have t2s := Sm.of t2
  have e0 : X10_findLeftOfA S 0 = bd (X2_settle (setR Sa 22 (va_cpy (Sa.1 172) (Sa.1 22) 0 0 12)) 21) fun S33 v34 => if ¬ v34 = 0 then X10_findLeftOfA_63 0 (fun S41 v42 => some (S41, (1 : Int32))) FU S33 0 else some (S33, 0) := by
    unfold X10_findLeftOfA
    rw [p1]
    simp only [X2_takeGrains, rfs, gu_t (show cpOk 0 0 12 12 12 by decide), lt_e, bd_s, ix0, ix12]
  rw [e0, t1, bd_s]
  have hss := (p2.tr hsb).tr t2s
  cases ho : stlT w kd n (grt w) with
  | none =>
    refine ⟨Sc, ?_, hss.mo (by intro k j hk; omega), fun a ha => by cases ha⟩
    rfl
  | some a =>
    obtain ⟨Sd, u1, u2, u3⟩ := findA_63_ok hn n FU 0 Sc (by omega) (by unfold FU; omega) (h2.gs t2s (by intro k j hk hq; omega)).1
    rw [nI_0] at u1
    refine ⟨Sd, ?_, (hss.tr u2).mo (by intro k j hk; omega), fun a2 ha p hp => ?_⟩
    · rw [if_pos (by rw [b1_z]; exact fun q => q rfl), u1]
      rfl
    · cases ha
      have h5 := (stlT_ok hld ho).2 p hp
      rw [u3 p (by omega) hp, (t2s _ _ (fun z => by omega)).1, sR_n (by omega), ga p hp, show Sc.1 22 p = nI (a p) from t3 a ho p hp, pk_sub (by unfold grt; omega)]
theorem greatest_ok {n : Nat} {kd : Nat → Nat} {w : Nat → Nat → Nat} (h : MSl S n kd w) (hi : ISl n kd w) (hld : ∀ p, p < n → 0 < ld w p) : ∃ S2, X11_greatest S 173 = some (S2, ()) ∧ Sm (fun k _ => k = 194) S S2 ∧ MG S2 194 n (grt w) := by
  have hn := hi.1
  obtain ⟨Sa, p1, p2, p3⟩ := greatest_2_ok hn n FU 0 S (by omega) (by unfold FU; omega) h
  rw [nI_0] at p1
  refine ⟨Sa, ?_, p2.mo (by intro k j hk; omega), fun p hp => ?_⟩
  · unfold X11_greatest
    rw [p1]
  · rw [p3 p (by omega) hp, e_grtM (hld p hp) (hi.ld_le (by omega))]
theorem op_nought (h : RelX S c) (u : Int32) : Ok S c (fun S => X10_nought S 0 u) (fun S => X11_nought S 173 u) := by
  obtain ⟨n, kd, w, bg, g, mn, hR⟩ := h
  have hR0 := hR
  obtain ⟨⟨a1, a2, a3, a4, a5, a6⟩, ⟨b1', b2, b3, b4⟩, ⟨c1, c2, c3, c4⟩, d1, d2⟩ := hR0
  have hn := a3.1
  have nN := nT (show n < 2147483648 by omega)
  have has := has_ok a1.1 hn
  have ha0 := a1.1
  have cb := b1'.1
  by_cases q1 : inN u 8
  · obtain ⟨s, hs, rfl⟩ := inN_of q1 (by omega)
    cases bg with
    | false =>
      refine Ok.fd hR (v := -8) ?_ ?_
      · show X10_nought S 0 (nI s) = _
        simp only [X10_nought, isSlot_c, bd_s, ite_b1n, if_pos q1, cb, bi_f, not_true, if_false, found_c]
      · intro S1 q
        have m2 := a2.gs q (by intro k j hk hq; omega)
        have isp := isPlace_ok m2.1 hn
        have mz := m2.1
        have mb : S1.1 173 3 = bi _ := (q.i (by omega)).trans b1'.2.1
        show X11_nought S1 173 (nI s) = _
        simp only [X11_nought, isSlot_m, bd_s, ite_b1n, if_pos q1, mb, bi_f, not_true, if_false, found_m]
    | true =>
      obtain ⟨hn0, hld, -⟩ := a5 rfl
      have tw := isTwoWay_ok a1 a3
      by_cases q2 : two w n = true
      · obtain ⟨Sx, x1, x2, x3⟩ := findA_ok a1 a3 hld
        cases ho : stlT w kd n (grt w) with
        | none =>
          refine Ok.fdS hR (v := -5) (x2.mo (by intro k j hk; omega)) ?_ (fun S1 q => ?_)
          · show X10_nought S 0 (nI s) = _
            rw [ho] at x1
            simp only [X10_nought, isSlot_c, bd_s, ite_b1n, if_pos q1, cb, bi_t, i10, not_false_iff, if_true, rfs, tw, if_pos q2, x1]
            rfl
          · have m2 := a2.gs q (by intro k j hk hq; omega)
            have isp := isPlace_ok m2.1 hn
            have mz := m2.1
            have mb : S1.1 173 3 = bi _ := (q.i (by omega)).trans b1'.2.1
            obtain ⟨Sa, p1, p2, p3⟩ := greatest_ok m2 a3 hld
            obtain ⟨Sb, t1, t2, t3, t4⟩ := settlesM_ok (m2.gs p2 (by intro k j hk hq; omega)) a3 p3 (BG_grt a3)
            rw [ho] at t1
            refine ⟨Sb, (p2.tr (Sm.of t2)).mo (by intro k j hk; omega), ?_⟩
            show X11_nought S1 173 (nI s) = _
            simp only [X11_nought, isSlot_m, bd_s, ite_b1n, if_pos q1, mb, bi_t, i10, not_false_iff, if_true, isTwoWayM_ok m2 a3, if_pos q2, p1, t1]
            rfl
        | some a =>
          obtain ⟨-, a9⟩ := stlT_ok hld ho
          have hsx := sm_R Sx 22 (va_cpy (Sx.1 172) (Sx.1 22) 0 0 12)
          refine fin_ok hR hs (gg := fun p => grt w p - a p) (fun p hp => ?_) ((x2.tr hsx).mo (by intro k j hk; omega)) (fun p hp => ?_) (f := fun S => X10_nought S 0 (nI s)) (m := fun S => X11_nought S 173 (nI s)) ?_ (fun S1 q => ?_)
          · have := BG_grt a3 p hp
            show grt w p - a p ≤ 2000000
            omega
          · show (setR Sx 22 (va_cpy (Sx.1 172) (Sx.1 22) 0 0 12)).1 22 p = _
            rw [sR_s, cpy0 (by omega)]; exact x3 a ho p hp
          · show X10_nought S 0 (nI s) = _
            rw [ho] at x1
            have x1' : X10_findLeftOfA S 0 = some (Sx, 1) := x1
            simp only [X10_nought, X2_takeGrains, isSlot_c, bd_s, lt_e, ite_b1n, if_pos q1, cb, bi_t, i10, not_false_iff, if_true, rfs, tw, if_pos q2, x1', gu_t (show cpOk 0 0 12 12 12 by decide), ix0, ix12]
          · have m2 := a2.gs q (by intro k j hk hq; omega)
            have isp := isPlace_ok m2.1 hn
            have mz := m2.1
            have mb : S1.1 173 3 = bi _ := (q.i (by omega)).trans b1'.2.1
            obtain ⟨Sa, p1, p2, p3⟩ := greatest_ok m2 a3 hld
            have m2a := m2.gs p2 (by intro k j hk hq; omega)
            obtain ⟨Sb, t1, t2, t3, t4⟩ := settlesM_ok m2a a3 p3 (BG_grt a3)
            have t2s := Sm.of t2
            rw [ho] at t1
            have t1' : X11_settles Sa 173 = some (Sb, 1) := t1
            have m2b := m2a.gs t2s (by intro k j hk hq; omega)
            obtain ⟨Sd, u1, u2, u3⟩ := nought_61_ok hn (nI s) n FU 0 Sb (by omega) (by unfold FU; omega) m2b
            rw [nI_0] at u1
            refine ⟨Sd, ?_, ((p2.tr t2s).tr u2).mo (by intro k j hk; omega), fun p hp => ?_⟩
            · show X11_nought S1 173 (nI s) = _
              simp only [X11_nought, isSlot_m, bd_s, ite_b1n, if_pos q1, mb, bi_t, i10, not_false_iff, if_true, isTwoWayM_ok m2 a3, if_pos q2, p1, t1', rfm]
              exact u1 _
            · have h5 := a9 p hp
              rw [u3 p (by omega) hp, e_grtM (hld p hp) (a3.ld_le (by omega)), t4 a ho p hp, lN_sub (by unfold grt; omega)]
      · refine Ok.fd hR (v := -12) ?_ ?_
        · show X10_nought S 0 (nI s) = _
          simp only [X10_nought, isSlot_c, bd_s, ite_b1n, if_pos q1, cb, bi_t, i10, not_false_iff, if_true, rfs, tw, if_neg q2, found_c]
        · intro S1 q
          have m2 := a2.gs q (by intro k j hk hq; omega)
          have isp := isPlace_ok m2.1 hn
          have mz := m2.1
          have mb : S1.1 173 3 = bi _ := (q.i (by omega)).trans b1'.2.1
          show X11_nought S1 173 (nI s) = _
          simp only [X11_nought, isSlot_m, bd_s, ite_b1n, if_pos q1, mb, bi_t, i10, not_false_iff, if_true, isTwoWayM_ok m2 a3, if_neg q2, found_m]
  · refine Ok.fd hR (v := -1) ?_ ?_
    · show X10_nought S 0 u = _
      simp only [X10_nought, isSlot_c, bd_s, ite_b1n, if_neg q1, found_c]
    · intro S1 q
      show X11_nought S1 173 u = _
      simp only [X11_nought, isSlot_m, bd_s, ite_b1n, if_neg q1, found_m]
theorem op_contrary (h : RelX S c) (u v : Int32) : Ok S c (fun S => X10_contrary S 0 u v) (fun S => X11_contrary S 173 u v) := by
  obtain ⟨n, kd, w, bg, g, mn, hR⟩ := h
  have hR0 := hR
  obtain ⟨⟨a1, a2, a3, a4, a5, a6⟩, ⟨b1', b2, b3, b4⟩, ⟨c1, c2, c3, c4⟩, d1, d2⟩ := hR0
  have hn := a3.1
  have nN := nT (show n < 2147483648 by omega)
  have has := has_ok a1.1 hn
  have ha0 := a1.1
  have cb := b1'.1
  by_cases q1 : inN u 8
  · by_cases q3 : inN v 8
    · obtain ⟨s, hs, rfl⟩ := inN_of q1 (by omega)
      obtain ⟨t, ht, rfl⟩ := inN_of q3 (by omega)
      obtain ⟨fl, y1, y2, y3⟩ := c3 s hs
      cases fl with
      | false =>
        refine Ok.fd hR (v := -11) ?_ ?_
        · show X10_contrary S 0 (nI s) (nI t) = _
          simp only [X10_contrary, isSlot_c, bd_s, lt_e, ite_b1z, ite_b1n, if_pos q1, if_pos q3, rfs, ix_n (show s < 2147483648 by omega), y1, bi_f, not_true, if_false, found_c, ck_n hs (show 8 < 2147483648 by omega)]
        · intro S1 q
          show X11_contrary S1 173 (nI s) (nI t) = _
          simp only [X11_contrary, isSlot_m, bd_s, lt_e, ite_b1z, ite_b1n, if_pos q1, if_pos q3, rfm, ix_n (show s < 2147483648 by omega), q.i (show 173 ≤ 182 by omega), y2, bi_f, not_true, if_false, found_m, ck_n hs (show 8 < 2147483648 by omega)]
      | true =>
        obtain ⟨hbt, g1, gb1, gs1⟩ := y3 rfl
        subst hbt
        obtain ⟨hn0, hld, -⟩ := a5 rfl
        have tw := isTwoWay_ok a1 a3
        by_cases q2 : two w n = true
        · obtain ⟨Sx, x1, x2, x3⟩ := findA_ok a1 a3 hld
          cases ho : stlT w kd n (grt w) with
          | none =>
            refine Ok.fdS hR (v := -5) (x2.mo (by intro k j hk; omega)) ?_ (fun S1 q => ?_)
            · show X10_contrary S 0 (nI s) (nI t) = _
              rw [ho] at x1
              simp only [X10_contrary, isSlot_c, bd_s, lt_e, ite_b1z, ite_b1n, if_pos q1, if_pos q3, rfs, ix_n (show s < 2147483648 by omega), y1, cb, bi_t, i10, not_false_iff, if_true, tw, if_pos q2, x1, ck_n hs (show 8 < 2147483648 by omega)]
              rfl
            · have m2 := a2.gs q (by intro k j hk hq; omega)
              have isp := isPlace_ok m2.1 hn
              have mz := m2.1
              have mb : S1.1 173 3 = bi _ := (q.i (by omega)).trans b1'.2.1
              obtain ⟨Sa, p1, p2, p3⟩ := greatest_ok m2 a3 hld
              obtain ⟨Sb, t1, t2, t3, t4⟩ := settlesM_ok (m2.gs p2 (by intro k j hk hq; omega)) a3 p3 (BG_grt a3)
              rw [ho] at t1
              refine ⟨Sb, (p2.tr (Sm.of t2)).mo (by intro k j hk; omega), ?_⟩
              show X11_contrary S1 173 (nI s) (nI t) = _
              simp only [X11_contrary, isSlot_m, bd_s, lt_e, ite_b1z, ite_b1n, if_pos q1, if_pos q3, rfm, ix_n (show s < 2147483648 by omega), q.i (show 173 ≤ 182 by omega), y2, mb, bi_t, i10, not_false_iff, if_true, isTwoWayM_ok m2 a3, if_pos q2, p1, t1, ck_n hs (show 8 < 2147483648 by omega)]
              rfl
          | some a =>
            obtain ⟨-, a9⟩ := stlT_ok hld ho
            rw [ho] at x1
            have x1' : X10_findLeftOfA S 0 = some (Sx, 1) := x1
            have hsx := sm_R Sx 22 (va_cpy (Sx.1 (152 + s)) (Sx.1 22) 0 0 12)
            have gx : CG (setR Sx 22 (va_cpy (Sx.1 (152 + s)) (Sx.1 22) 0 0 12)) 21 n g1 := fun p hp => by
              show (setR Sx 22 (va_cpy (Sx.1 (152 + s)) (Sx.1 22) 0 0 12)).1 22 p = _
              rw [sR_s, cpy0 (by omega), (x2 _ _ (fun z => by omega)).1]; exact (gs1 p hp).1
            have a1x := (a1.gs x2 (by intro k j hk hq; omega)).gs hsx (by intro k j hk hq; omega)
            obtain ⟨Sz, z1, z2, z3⟩ := settle_ok (Or.inr rfl) a1x a3 gx gb1.b
            have z2s := Sm.of z2
            have hxz := (x2.tr hsx).tr z2s
            have mk : ∀ S1, CT S S1 → ∃ Se, MSl Se n kd w ∧ Sm (fun k _ => k = 194 ∨ k = 195) S1 Se ∧ (∀ p, p < n → Se.2 195 p = lN (grt w p - a p)) ∧ (∀ b, stlT w kd n g1 = some b → MG Se 194 n b) ∧ X11_contrary S1 173 (nI s) (nI t) = (if (stlT w kd n g1).isSome = true then (X11_contrary_172 173 (nI t) (fun (S56 : St) (v57 : Int32) => bd (X11_settles S56 173) fun S58 v59 => if v59 = 0 then (bd (X11_found S58 173 (-5 : Int32)) fun S60 v61 => some (S60, v61)) else (bd (X11_stored S58 173 (nI t) (rf 173 32)) fun S63 v64 => some (S63, v64))) FU Se (0 : Int32)) else some (setI Se 173 24 (Se.1 173 24 + 1), -5)) := by
              intro S1 q
              have m2 := a2.gs q (by intro k j hk hq; omega)
              have isp := isPlace_ok m2.1 hn
              have mz := m2.1
              have mb : S1.1 173 3 = bi _ := (q.i (by omega)).trans b1'.2.1
              obtain ⟨Sa, p1, p2, p3⟩ := greatest_ok m2 a3 hld
              have m2a := m2.gs p2 (by intro k j hk hq; omega)
              obtain ⟨Sb, t1, t2, t3, t4⟩ := settlesM_ok m2a a3 p3 (BG_grt a3)
              have t2s := Sm.of t2
              rw [ho] at t1
              have t1' : X11_settles Sa 173 = some (Sb, 1) := t1
              have m2b := m2a.gs t2s (by intro k j hk hq; omega)
              obtain ⟨Sc, u1, u2, u3⟩ := contr_84_ok hn (nI s) (nI t) n FU 0 Sb (by omega) (by unfold FU; omega) m2b
              rw [nI_0] at u1
              have m2c := m2b.gs u2 (by intro k j hk hq; omega)
              obtain ⟨Sd, v1, v2, v3⟩ := contr_125_ok hn hs (nI t) n FU 0 Sc (by omega) (by unfold FU; omega) m2c.1
              rw [nI_0] at v1
              have m2d := m2c.gs v2 (by intro k j hk hq; omega)
              have hcd := ((p2.tr t2s).tr u2).tr v2
              have gd : MG Sd 194 n g1 := fun p hp => by
                rw [v3 p (by omega) hp, (u2 _ _ (fun z => by omega)).2, (t2s _ _ (fun z => by omega)).2, (p2 _ _ (fun z => by omega)).2, q.l (by omega)]; exact (gs1 p hp).2
              obtain ⟨Se, w1, w2, w3, w4⟩ := settlesM_ok m2d a3 gd gb1.b
              have w2s := Sm.of w2
              refine ⟨Se, m2d.gs w2s (by intro k j hk hq; omega), (hcd.tr w2s).mo (by intro k j hk; omega), fun p hp => ?_, fun b hb => w4 b hb, ?_⟩
              · have h5 := a9 p hp
                rw [(w2s _ _ (fun z => by omega)).2, (v2 _ _ (fun z => by omega)).2, u3 p (by omega) hp, e_grtM (hld p hp) (a3.ld_le (by omega)), t4 a ho p hp, lN_sub (by unfold grt; omega)]
              · simp only [X11_contrary, isSlot_m, bd_s, lt_e, ite_b1z, ite_b1n, if_pos q1, if_pos q3, show rf 173 16 = 182 by decide +kernel, ix_n (show s < 2147483648 by omega), q.i (show 173 ≤ 182 by omega), y2, mb, bi_t, i10, not_false_iff, if_true, isTwoWayM_ok m2 a3, if_pos q2, p1, t1', ck_n hs (show 8 < 2147483648 by omega)]
                rw [u1]
                rw [v1]
                simp only [w1, bd_s, ite_b1n, found_m]
            have ck0 : X10_contrary S 0 (nI s) (nI t) = (if (stlT w kd n g1).isSome = true then (X10_contrary_113 0 (nI t) (fun (S51 : St) (v52 : Int32) => bd (X10_settleInto S51 0 (nI t)) fun S53 v54 => some (S53, v54)) FU Sz (0 : Int32)) else some (setI Sz 0 15 (Sz.1 0 15 + 1), -5)) := by
              simp only [X10_contrary, X2_takeGrains, isSlot_c, bd_s, lt_e, ite_b1z, ite_b1n, if_pos q1, if_pos q3, rfs, rf_151, ix_n (show s < 2147483648 by omega), y1, cb, bi_t, i10, not_false_iff, if_true, tw, if_pos q2, x1', gu_t (show cpOk 0 0 12 12 12 by decide), ix0, ix12, z1, found_c, ck_n hs (show 8 < 2147483648 by omega)]
            cases ho2 : stlT w kd n g1 with
            | none =>
              rw [ho2] at ck0
              refine Ok.fdS hR (v := -5) (hxz.mo (by intro k j hk; omega)) ?_ (fun S1 q => ?_)
              · show X10_contrary S 0 (nI s) (nI t) = _
                rw [ck0]; rfl
              · obtain ⟨Se, -, e2, -, -, e5⟩ := mk S1 q
                refine ⟨Se, e2.mo (by intro k j hk; omega), ?_⟩
                show X11_contrary S1 173 (nI s) (nI t) = _
                rw [e5, ho2]; rfl
            | some b =>
              rw [ho2] at ck0
              obtain ⟨-, b9⟩ := stlT_ok hld ho2
              obtain ⟨Sw, r1, r2, r3⟩ := contr_113_ok hn (nI t) n FU 0 Sz (by omega) (by unfold FU; omega) (a1x.gs z2s (by intro k j hk hq; omega)).1
              rw [nI_0] at r1
              refine fin_ok hR ht (gg := fun p => 2 * (grt w p - a p) - b p) (fun p hp => ?_) ((hxz.tr r2).mo (by intro k j hk; omega)) (fun p hp => ?_) (f := fun S => X10_contrary S 0 (nI s) (nI t)) (m := fun S => X11_contrary S 173 (nI s) (nI t)) ?_ (fun S1 q => ?_)
              · have := BG_grt a3 p hp
                have := a3.ld_le (show p < 12 by omega)
                show 2 * (grt w p - a p) - b p ≤ 2000000
                unfold grt at *
                omega
              · have h5 := a9 p hp
                have h6 := b9 p hp
                show Sw.1 22 p = _
                rw [r3 p (by omega) hp, (z2s _ _ (fun z => by omega)).1, sR_n (by omega), x3 a ho p hp, show Sz.1 22 p = nI (b p) from z3 b ho2 p hp, show (2 : Int32) = nI 2 from rfl, pk_mul, pk_sub (by unfold grt; omega)]
              · show X10_contrary S 0 (nI s) (nI t) = _
                rw [ck0, if_pos (by rfl)]
                exact r1 _
              · obtain ⟨Se, e1, e2, e3, e4, e5⟩ := mk S1 q
                obtain ⟨Sv, j1, j2, j3⟩ := contr_172_ok hn (nI t) n FU 0 Se (by omega) (by unfold FU; omega) e1.1
                rw [nI_0] at j1
                refine ⟨Sv, ?_, (e2.tr j2).mo (by intro k j hk; omega), fun p hp => ?_⟩
                · show X11_contrary S1 173 (nI s) (nI t) = _
                  rw [e5, ho2, if_pos (by rfl), show rf 173 32 = 194 by decide +kernel]
                  exact j1 _
                · have h5 := a9 p hp
                  have h6 := b9 p hp
                  rw [j3 p (by omega) hp, e3 p hp, e4 b ho2 p hp, show (2 : Int64) = lN 2 from rfl, lN_mul, lN_sub (by unfold grt; omega)]
        · refine Ok.fd hR (v := -12) ?_ ?_
          · show X10_contrary S 0 (nI s) (nI t) = _
            simp only [X10_contrary, isSlot_c, bd_s, lt_e, ite_b1z, ite_b1n, if_pos q1, if_pos q3, rfs, ix_n (show s < 2147483648 by omega), y1, cb, bi_t, i10, not_false_iff, if_true, tw, if_neg q2, found_c, ck_n hs (show 8 < 2147483648 by omega)]
          · intro S1 q
            have m2 := a2.gs q (by intro k j hk hq; omega)
            have isp := isPlace_ok m2.1 hn
            have mz := m2.1
            have mb : S1.1 173 3 = bi _ := (q.i (by omega)).trans b1'.2.1
            show X11_contrary S1 173 (nI s) (nI t) = _
            simp only [X11_contrary, isSlot_m, bd_s, lt_e, ite_b1z, ite_b1n, if_pos q1, if_pos q3, rfm, ix_n (show s < 2147483648 by omega), q.i (show 173 ≤ 182 by omega), y2, mb, bi_t, i10, not_false_iff, if_true, isTwoWayM_ok m2 a3, if_neg q2, found_m, ck_n hs (show 8 < 2147483648 by omega)]
    · refine Ok.fd hR (v := -1) ?_ ?_
      · show X10_contrary S 0 u v = _
        simp only [X10_contrary, isSlot_c, bd_s, lt_e, ite_b1z, ite_b1n, if_pos q1, if_neg q3, found_c]
      · intro S1 q
        show X11_contrary S1 173 u v = _
        simp only [X11_contrary, isSlot_m, bd_s, lt_e, ite_b1z, ite_b1n, if_pos q1, if_neg q3, found_m]
  · refine Ok.fd hR (v := -1) ?_ ?_
    · show X10_contrary S 0 u v = _
      simp only [X10_contrary, isSlot_c, bd_s, lt_e, ite_b1z, if_neg q1, found_c]
    · intro S1 q
      show X11_contrary S1 173 u v = _
      simp only [X11_contrary, isSlot_m, bd_s, lt_e, ite_b1z, if_neg q1, found_m]
end
