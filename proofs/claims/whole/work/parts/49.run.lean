/-! run -/
def runA (w : Nat → Nat → Nat) (kd : Nat → Nat) (n mn : Nat) (od : Nat → Nat) : Nat → Nat → (Nat → Nat) → (Nat → Int64) → (Nat → Int64) → Nat → List Nat → Int32 × (Nat → Nat) × (Nat → Int64) × (Nat → Int64) × Nat × List Nat
  | 0, i, g, D, O, sd, row => (if fstB (due w g) n 0 = none then nI i else -9, g, D, O, sd, row)
  | k + 1, i, g, D, O, sd, row => if fstB (due w g) n 0 = none then (nI i, g, D, O, sd, row) else (match (chs w n mn od g sd row).1 with
    | none => (0, g, D, O, sd, row)
    | some p => cond (ovf w g (tms w kd g p) p n) (-5, g, D, O, (chs w n mn od g sd row).2.1, (chs w n mn od g sd row).2.2) (runA w kd n mn od k (i + 1) (sld w g (tms w kd g p) p) (fun d => D d + lN (tms w kd g p * w p (12 + d))) (fun q => if q = p then O p + lN (tms w kd g p) else O q) (chs w n mn od g sd row).2.1 (if mn = 4 then hea w kd n p (chs w n mn od g sd row).2.2 else (chs w n mn od g sd row).2.2)))
def CAp (S : St) (n mn : Nat) (g : Nat → Nat) (D O : Nat → Int64) (sd : Nat) (row : List Nat) : Prop := CG S 17 n g ∧ (∀ d, d < 3 → S.2 19 d = D d) ∧ (∀ q, q < 12 → S.2 20 q = O q) ∧ S.2 25 6 = lN sd ∧ (mn = 4 → RC S row)
def MAp (S : St) (n mn : Nat) (g : Nat → Nat) (D O : Nat → Int64) (sd : Nat) (row : List Nat) : Prop := MG S 176 n g ∧ (∀ d, d < 3 → S.2 176 (12 + d) = D d) ∧ (∀ q, q < 12 → S.2 177 q = O q) ∧ S.2 173 8 = lN sd ∧ (mn = 4 → RM S row)
/-- what holds of the places' numbers all along -/
def IAp (n mn : Nat) (g : Nat → Nat) (sd : Nat) (row : List Nat) : Prop := B1 n g ∧ sd < 2147483648 ∧ (mn = 4 → ND n row)
def fdR (r : Int32) : Bool := decide (r = -5) || decide (r = -9)
theorem RC.gs {S S1 : St} {l : List Nat} {T : Nat → Nat → Prop} (h : RC S l) (hs : Sm T S S1) (hT : ∀ k j, ((k = 25 ∧ j = 4) ∨ k = 27) → ¬ T k j) : RC S1 l := ⟨(hs _ _ (hT _ _ (by omega))).1.trans h.1, fun i hi => (hs _ _ (hT _ _ (by omega))).1.trans (h.2 i hi)⟩
theorem RM.gs {S S1 : St} {l : List Nat} {T : Nat → Nat → Prop} (h : RM S l) (hs : Sm T S S1) (hT : ∀ k j, ((k = 173 ∧ j = 11) ∨ k = 179) → ¬ T k j) : RM S1 l := ⟨(hs _ _ (hT _ _ (by omega))).1.trans h.1, fun i hi => (hs _ _ (hT _ _ (by omega))).1.trans (h.2 i hi)⟩
theorem nI_fd {i : Nat} (h : i < 2147483648) : fdR (nI i) = false := by
  unfold fdR
  rw [decide_eq_false (by rw [eq32, nT h, lits2.2.2.1]; omega), decide_eq_false (by rw [eq32, nT h, show (-9 : Int32).toInt = -9 by decide]; omega)]
  rfl
section
variable {n mn N : Nat} {kd : Nat → Nat} {w : Nat → Nat → Nat} {od : Nat → Nat}
theorem runA_z {k i : Nat} {g : Nat → Nat} {D O : Nat → Int64} {sd : Nat} {row : List Nat} (hd : fstB (due w g) n 0 = none) : runA w kd n mn od k i g D O sd row = (nI i, g, D, O, sd, row) := by
  cases k with
  | zero => rw [runA, if_pos hd]
  | succ k => rw [runA, if_pos hd]
theorem runA_t {k i p : Nat} {g : Nat → Nat} {D O : Nat → Int64} {sd : Nat} {row : List Nat} (hd : ¬ fstB (due w g) n 0 = none) (hp : (chs w n mn od g sd row).1 = some p) (ho : ovf w g (tms w kd g p) p n = true) : runA w kd n mn od (k + 1) i g D O sd row = (-5, g, D, O, (chs w n mn od g sd row).2.1, (chs w n mn od g sd row).2.2) := by
  rw [runA, if_neg hd, hp]
  show cond (ovf w g (tms w kd g p) p n) _ _ = _
  rw [ho]
  rfl
theorem runA_f {k i p : Nat} {g : Nat → Nat} {D O : Nat → Int64} {sd : Nat} {row : List Nat} (hd : ¬ fstB (due w g) n 0 = none) (hp : (chs w n mn od g sd row).1 = some p) (ho : ovf w g (tms w kd g p) p n = false) : runA w kd n mn od (k + 1) i g D O sd row = runA w kd n mn od k (i + 1) (sld w g (tms w kd g p) p) (fun d => D d + lN (tms w kd g p * w p (12 + d))) (fun q => if q = p then O p + lN (tms w kd g p) else O q) (chs w n mn od g sd row).2.1 (if mn = 4 then hea w kd n p (chs w n mn od g sd row).2.2 else (chs w n mn od g sd row).2.2) := by
  rw [runA, if_neg hd, hp]
  show cond (ovf w g (tms w kd g p) p n) _ _ = _
  rw [ho]
  rfl
theorem hea_nd (hn : n ≤ 12) {p : Nat} (hp : p < n) : ∀ {l : List Nat}, ND n l → ND n (hea w kd n p l) := by
  have hB : ∀ j i l, i + j = n → ND n l → ND n (bhd (w p) j i l) := by
    intro j
    induction j with
    | zero => intro i l _ h; exact h
    | succ j ih =>
      intro i l hij h
      rw [bhd]
      refine ih (i + 1) _ (by omega) ?_
      cases hw : nwE (w p) l i with
      | false => exact h
      | true => exact h.app (by omega) (nw_new hw)
  have hA : ∀ k l, k ≤ n → ND n l → ND n (ahd (w p) k l) := by
    intro k
    induction k with
    | zero => intro l _ h; exact h
    | succ k ih =>
      intro l hk h
      rw [ahd]
      refine ih _ (by omega) ?_
      cases hw : nwE (w p) l k with
      | false => exact h
      | true => exact h.cns (by omega) (nw_new hw)
  intro l h
  unfold hea
  split
  · exact hA n l (by omega) h
  · exact hB n 0 l (by omega) h
theorem runA_ok (hi : ISl n kd w) (ho : mn = 2 → (∀ i, i < n → od i < n) ∧ ∀ p, p < n → ∃ i, i < n ∧ od i = p) : ∀ (k i : Nat) (g : Nat → Nat) (D O : Nat → Int64) (sd : Nat) (row : List Nat), IAp n mn g sd row → IAp n mn (runA w kd n mn od k i g D O sd row).2.1 (runA w kd n mn od k i g D O sd row).2.2.2.2.1 (runA w kd n mn od k i g D O sd row).2.2.2.2.2 ∧ ∀ q, n ≤ q → (runA w kd n mn od k i g D O sd row).2.2.2.1 q = O q
  | 0, i, g, D, O, sd, row, h => ⟨h, fun q _ => rfl⟩
  | k + 1, i, g, D, O, sd, row, h => by
    by_cases hd : fstB (due w g) n 0 = none
    · rw [runA_z hd]; exact ⟨h, fun q _ => rfl⟩
    · obtain ⟨p, c1, c2, c3, c4, c5⟩ := chs_ok hd h.2.1 ho h.2.2 (row := row)
      cases hov : ovf w g (tms w kd g p) p n with
      | true =>
        rw [runA_t hd c1 hov]
        exact ⟨⟨h.1, c4, c5⟩, fun q _ => rfl⟩
      | false =>
        rw [runA_f hd c1 hov]
        have ih := runA_ok hi ho k (i + 1) (sld w g (tms w kd g p) p) (fun d => D d + lN (tms w kd g p * w p (12 + d))) (fun q => if q = p then O p + lN (tms w kd g p) else O q) (chs w n mn od g sd row).2.1 (if mn = 4 then hea w kd n p (chs w n mn od g sd row).2.2 else (chs w n mn od g sd row).2.2) ⟨h.1.sld hov, c4, fun z => by rw [if_pos z]; exact hea_nd hi.1 c2 (c5 z)⟩
        refine ⟨ih.1, fun q hq => ?_⟩
        rw [ih.2 q hq, if_neg (by omega)]
theorem run_c (hi : ISl n kd w) (hmn : mn < 5) (hN : N ≤ 5000) (ho : mn = 2 → (∀ i, i < n → od i < n) ∧ ∀ p, p < n → ∃ i, i < n ∧ od i = p) : ∀ (k m i : Nat) (S : St) (g : Nat → Nat) (D O : Nat → Int64) (sd : Nat) (row : List Nat), i + k = N → k < m → CSl S n kd w → S.1 25 5 = nI mn → (mn = 2 → ∀ i, i < n → S.1 26 i = nI (od i)) → IAp n mn g sd row → CAp S n mn g D O sd row → ∃ S2, X10_run_49 0 (nI N) (fun (S43 : St) (v44 : Int32) => bd (X2_stands S43 17) fun S46 v47 => if v47 = 0 then (bd (X10_found S46 0 (-9 : Int32)) fun S48 v49 => some (S48, v49)) else (some (S46, nI N))) m S (nI i) = some (cond (fdR (runA w kd n mn od k i g D O sd row).1) (setI S2 0 15 (S2.1 0 15 + 1)) S2, (runA w kd n mn od k i g D O sd row).1) ∧ Sm (fun k j => k = 18 ∨ k = 19 ∨ k = 20 ∨ k = 27 ∨ (k = 25 ∧ (j = 4 ∨ j = 6))) S S2 ∧ CAp S2 n mn (runA w kd n mn od k i g D O sd row).2.1 (runA w kd n mn od k i g D O sd row).2.2.1 (runA w kd n mn od k i g D O sd row).2.2.2.1 (runA w kd n mn od k i g D O sd row).2.2.2.2.1 (runA w kd n mn od k i g D O sd row).2.2.2.2.2
  | 0, 0, _, _, _, _, _, _, _, _, h, _, _, _, _, _ => absurd h (by omega)
  | k + 1, 0, _, _, _, _, _, _, _, _, h, _, _, _, _, _ => absurd h (by omega)
  | 0, m + 1, i, S, g, D, O, sd, row, hik, _, h, h5, h26, hI, hC => by
    have hn := hi.1
    refine ⟨S, ?_, Sm.rf, hC⟩
    rw [X10_run_49, if_pos (by rw [show i = N by omega]; exact Int32.le_refl _), stands_ok (Or.inl rfl) h hi hC.1 hI.1.b, bd_x, ite_b1z, runA]
    by_cases hd : fstB (due w g) n 0 = none
    · simp only [if_pos hd]
      rw [nI_fd (by omega), cond_false, show i = N by omega]
    · simp only [if_neg hd]
      rfl
  | k + 1, m + 1, i, S, g, D, O, sd, row, hik, hm, h, h5, h26, hI, hC => by
    have hn := hi.1
    have e1 : nI i + (1 : Int32) = nI (i + 1) := nI_1 i
    obtain ⟨hC1, hC2, hC3, hC4, hC5⟩ := hC
    rw [X10_run_49, if_neg (nI_ge (by omega) (by omega)), show rf 0 3 = 25 by decide +kernel, show rf 0 1 = 17 by decide +kernel]
    by_cases hd : fstB (due w g) n 0 = none
    · have hcz : X0_chooseNext S 25 = some (S, -1) := by
        unfold X0_chooseNext
        rw [show rf 25 1 = 17 by decide +kernel, countDue_ok (Or.inl rfl) h hi hC1 hI.1.b, bd_s, cnt_0.mpr hd, if_neg (fun z => z rfl)]
      rw [runA_z hd, hcz, bd_x, if_neg (fun z => z rfl)]
      refine ⟨S, ?_, Sm.rf, hC1, hC2, hC3, hC4, hC5⟩
      rw [nI_fd (by omega)]
      rfl
    · obtain ⟨p, c1, c2, c3, c4, c5⟩ := chs_ok hd hI.2.1 ho hI.2.2 (row := row)
      obtain ⟨Sa, t1, t2, t3, t4⟩ := choose_c (od := od) h hi hC1 hI.1.b h5 hmn hC4 hI.2.1 (fun z i hi => ⟨h26 z i hi, (ho z).1 i hi⟩) (fun z => ⟨hC5 z, hI.2.2 z⟩) hd
      have ne : ¬ oI (some p) = -1 := fun q => by
        have := (oI_m1 (o := some p) (fun q hq => by cases hq; omega)).mp q
        cases this
      have ha := h.gs t2 (by intro k j hk hq; omega)
      have ga : CG Sa 17 n g := fun e he => (t2 18 e (fun z => by omega)).1.trans (hC1 e he)
      rw [t1, bd_x, c1, if_pos ne, show oI (some p) = nI p from rfl, wouldOverfill_ok (Or.inl rfl) ha hi ga hI.1.b c2, bd_x, ite_b1z]
      cases hov : ovf w g (tms w kd g p) p n with
      | true =>
        rw [if_pos rfl, found_c, bd_x, runA_t hd c1 hov]
        refine ⟨Sa, rfl, t2.mo (by intro k j z; omega), ga, fun d hd => ?_, fun q hq => ?_, t3, t4⟩
        · rw [(t2 _ _ (fun z => by omega)).2]; exact hC2 d hd
        · rw [(t2 _ _ (fun z => by omega)).2]; exact hC3 q hq
      | false =>
        rw [if_neg (by decide), runA_f hd c1 hov]
        obtain ⟨Sb, l1, l2, l3, l4, l5⟩ := letSlide_ok (Or.inl rfl) ha hi ga hI.1.b c2
        have l2s := Sm.of l2
        have hb := ha.gs l2s (by intro k j hk hq; omega)
        have hs2 := t2.tr l2s
        have b5 : Sb.1 25 5 = nI mn := (hs2 _ _ (fun z => by omega)).1.trans h5
        have kD : ∀ d, d < 3 → Sb.2 19 d = D d + lN (tms w kd g p * w p (12 + d)) := fun d hd => by
          rw [l4 d hd, (t2 _ _ (fun z => by omega)).2, hC2 d hd]
        have kO : ∀ q, q < 12 → Sb.2 20 q = if q = p then O p + lN (tms w kd g p) else O q := fun q hq => by
          have := l5 q
          rw [(t2 20 q (fun z => by omega)).2, (t2 20 p (fun z => by omega)).2, hC3 q hq, hC3 p (by omega)] at this
          exact this
        have kS : Sb.2 25 6 = lN (chs w n mn od g sd row).2.1 := (l2s _ _ (fun z => by omega)).2.trans t3
        rw [l1, bd_x]
        have hH : ∃ Sc, X0_hearOfSlide Sb 25 (nI p) = some (Sc, ()) ∧ Sm (fun k j => k = 27 ∨ (k = 25 ∧ j = 4)) Sb Sc ∧ (mn = 4 → RC Sc (hea w kd n p (chs w n mn od g sd row).2.2)) := by
          by_cases m4 : mn = 4
          · have rb : RC Sb (chs w n mn od g sd row).2.2 := (t4 m4).gs l2s (by intro k j hk hq; omega)
            obtain ⟨Sc, y1, y2, y3, y4⟩ := hear_c hb hi c2 (by rw [b5, m4]) (c5 m4) rb
            exact ⟨Sc, y1, y2, fun _ => y3⟩
          · refine ⟨Sb, ?_, Sm.rf, fun z => absurd z m4⟩
            unfold X0_hearOfSlide
            rw [b5, if_neg (show ¬ nI mn = 4 from fun z => m4 ((nI_eq (b := 4) (by omega) (by omega)).mp z))]
        obtain ⟨Sc, y1, y2, y3⟩ := hH
        rw [y1, bd_x, lt_x, e1]
        obtain ⟨S2, z1, z2, z3⟩ := run_c hi hmn hN ho k m (i + 1) Sc (sld w g (tms w kd g p) p) (fun d => D d + lN (tms w kd g p * w p (12 + d))) (fun q => if q = p then O p + lN (tms w kd g p) else O q) (chs w n mn od g sd row).2.1 (if mn = 4 then hea w kd n p (chs w n mn od g sd row).2.2 else (chs w n mn od g sd row).2.2) (by omega) (by omega) (hb.gs y2 (by intro k j hk hq; omega)) ((y2 _ _ (fun z => by omega)).1.trans b5) (fun z i hi => by rw [((hs2.tr y2) _ _ (fun z => by omega)).1]; exact h26 z i hi) ⟨hI.1.sld hov, c4, fun z => by rw [if_pos z]; exact hea_nd hn c2 (c5 z)⟩ ⟨fun e he => by rw [(y2 _ _ (fun z => by omega)).1]; exact l3 e he, fun d hd => by rw [(y2 _ _ (fun z => by omega)).2]; exact kD d hd, fun q hq => by rw [(y2 _ _ (fun z => by omega)).2]; exact kO q hq, by rw [(y2 _ _ (fun z => by omega)).2]; exact kS, fun z => by rw [if_pos z]; exact y3 z⟩
        exact ⟨S2, z1, ((hs2.tr y2).tr z2).mo (by intro k j z; omega), z3⟩
theorem run_m (hi : ISl n kd w) (hmn : mn < 5) (hN : N ≤ 5000) (ho : mn = 2 → (∀ i, i < n → od i < n) ∧ ∀ p, p < n → ∃ i, i < n ∧ od i = p) : ∀ (k m i : Nat) (S : St) (g : Nat → Nat) (D O : Nat → Int64) (sd : Nat) (row : List Nat), i + k = N → k < m → MSl S n kd w → S.1 173 6 = nI mn → (mn = 2 → ∀ i, i < n → S.1 178 i = nI (od i)) → IAp n mn g sd row → MAp S n mn g D O sd row → ∃ S2, X11_run_37 173 (nI N) (fun (S42 : St) (v43 : Int32) => bd (X11_dueMany S42 173) fun S44 v45 => if v45 ≤ 0 then (some (S44, v43)) else (bd (X11_found S44 173 (-9 : Int32)) fun S46 v47 => some (S46, v47))) m S (nI i) = some (cond (fdR (runA w kd n mn od k i g D O sd row).1) (setI S2 173 24 (S2.1 173 24 + 1)) S2, (runA w kd n mn od k i g D O sd row).1) ∧ Sm (fun k j => k = 176 ∨ k = 177 ∨ k = 179 ∨ (k = 173 ∧ (j = 8 ∨ j = 11))) S S2 ∧ MAp S2 n mn (runA w kd n mn od k i g D O sd row).2.1 (runA w kd n mn od k i g D O sd row).2.2.1 (runA w kd n mn od k i g D O sd row).2.2.2.1 (runA w kd n mn od k i g D O sd row).2.2.2.2.1 (runA w kd n mn od k i g D O sd row).2.2.2.2.2
  | 0, 0, _, _, _, _, _, _, _, _, h, _, _, _, _, _ => absurd h (by omega)
  | k + 1, 0, _, _, _, _, _, _, _, _, h, _, _, _, _, _ => absurd h (by omega)
  | 0, m + 1, i, S, g, D, O, sd, row, hik, _, h, h5, h26, hI, hC => by
    have hn := hi.1
    have cle := cnt_le (P := due w g) (j := n) (i := 0)
    have dz : (nI (cntB (due w g) n 0) ≤ 0) ↔ fstB (due w g) n 0 = none := by
      rw [le32, lits.1, nT (by omega), ← cnt_0]
      omega
    refine ⟨S, ?_, Sm.rf, hC⟩
    rw [X11_run_37, dueMany_ok h hi hC.1 hI.1.b, bd_x, runA]
    by_cases hd : fstB (due w g) n 0 = none
    · rw [if_pos (dz.mpr hd), dueMany_ok h hi hC.1 hI.1.b, bd_x, if_pos (dz.mpr hd)]
      simp only [if_pos hd]
      rw [nI_fd (by omega), cond_false]
    · rw [if_neg (fun z => hd (dz.mp z)), if_pos (by rw [show i = N by omega]; exact Int32.le_refl _), dueMany_ok h hi hC.1 hI.1.b, bd_x, if_neg (fun z => hd (dz.mp z)), found_m, bd_x]
      simp only [if_neg hd]
      rfl
  | k + 1, m + 1, i, S, g, D, O, sd, row, hik, hm, h, h5, h26, hI, hC => by
    have hn := hi.1
    have e1 : nI i + (1 : Int32) = nI (i + 1) := nI_1 i
    have cle := cnt_le (P := due w g) (j := n) (i := 0)
    have dz : (nI (cntB (due w g) n 0) ≤ 0) ↔ fstB (due w g) n 0 = none := by
      rw [le32, lits.1, nT (by omega), ← cnt_0]
      omega
    obtain ⟨hC1, hC2, hC3, hC4, hC5⟩ := hC
    rw [X11_run_37, dueMany_ok h hi hC1 hI.1.b, bd_x]
    by_cases hd : fstB (due w g) n 0 = none
    · rw [if_pos (dz.mpr hd), dueMany_ok h hi hC1 hI.1.b, bd_x, if_pos (dz.mpr hd), runA_z hd]
      refine ⟨S, ?_, Sm.rf, hC1, hC2, hC3, hC4, hC5⟩
      rw [nI_fd (by omega)]
      rfl
    · rw [if_neg (fun z => hd (dz.mp z)), if_neg (nI_ge (by omega) (by omega))]
      obtain ⟨p, c1, c2, c3, c4, c5⟩ := chs_ok hd hI.2.1 ho hI.2.2 (row := row)
      obtain ⟨Sa, t1, t2, t3, t4⟩ := choose_m (od := od) h hi hC1 hI.1.b h5 hmn hC4 hI.2.1 (fun z i hi => ⟨h26 z i hi, (ho z).1 i hi⟩) (fun z => ⟨hC5 z, hI.2.2 z⟩) hd
      have ha := h.gs t2 (by intro k j hk hq; omega)
      have ga : MG Sa 176 n g := fun e he => (t2 176 e (fun z => by omega)).2.trans (hC1 e he)
      rw [t1, bd_x, c1, show oI (some p) = nI p from rfl, show rf 173 4 = 176 by decide +kernel, show rf 173 5 = 177 by decide +kernel, tooMuch_ok ha hi ga hI.1.b c2 (hI.1 p c2) c3, bd_x, ite_b1z]
      cases hov : ovf w g (tms w kd g p) p n with
      | true =>
        rw [if_pos rfl, found_m, bd_x, runA_t hd c1 hov]
        refine ⟨Sa, rfl, t2.mo (by intro k j z; omega), ga, fun d hd => ?_, fun q hq => ?_, t3, t4⟩
        · rw [(t2 _ _ (fun z => by omega)).2]; exact hC2 d hd
        · rw [(t2 _ _ (fun z => by omega)).2]; exact hC3 q hq
      | false =>
        rw [if_neg (by decide), runA_f hd c1 hov]
        obtain ⟨Sx, l1, l2, l3', l3, l4⟩ := slides_ok ha hi (Or.inl rfl) ga hI.1.b c2 c3
        have l2s := Sm.of l2
        have aO : ∀ q, q < 12 → Sa.2 177 q = O q := fun q hq => by rw [(t2 _ _ (fun z => by omega)).2]; exact hC3 q hq
        have hsb := l2s.tr (sm_J Sx 177 p (O p + lN (tms w kd g p)))
        have hb := ha.gs hsb (by intro k j hk hq; omega)
        have hs2 := t2.tr hsb
        have b5 : (setJ Sx 177 p (O p + lN (tms w kd g p))).1 173 6 = nI mn := (hs2 _ _ (fun z => by omega)).1.trans h5
        have kG : MG (setJ Sx 177 p (O p + lN (tms w kd g p))) 176 n (sld w g (tms w kd g p) p) := fun e he => by rw [sJ_n (by omega)]; exact l3 e he
        have kD : ∀ d, d < 3 → (setJ Sx 177 p (O p + lN (tms w kd g p))).2 176 (12 + d) = D d + lN (tms w kd g p * w p (12 + d)) := fun d hd => by
          rw [sJ_n (by omega), l4 d hd, (t2 _ _ (fun z => by omega)).2, hC2 d hd]
        have kO : ∀ q, q < 12 → (setJ Sx 177 p (O p + lN (tms w kd g p))).2 177 q = if q = p then O p + lN (tms w kd g p) else O q := fun q hq => by
          by_cases z : q = p
          · rw [z, sJ_s, if_pos rfl]
          · rw [sJ_n (by omega), if_neg z, (l2s _ _ (fun z => by omega)).2]; exact aO q hq
        have kS : (setJ Sx 177 p (O p + lN (tms w kd g p))).2 173 8 = lN (chs w n mn od g sd row).2.1 := by
          rw [sJ_n (by omega), (l2s _ _ (fun z => by omega)).2]; exact t3
        rw [ck_n (show p < 12 by omega) (by omega), l1, bd_x, ck_n (show p < 12 by omega) (by omega), ix_n (by omega), aO p (by omega), lt_x, lt_x]
        generalize setJ Sx 177 p (O p + lN (tms w kd g p)) = Sb at hsb hb hs2 b5 kG kD kO kS ⊢
        have hH : ∃ Sc, (if ¬ (Sb.1 173 6) = (4 : Int32) then (fun (S37 : St)  => lt (nI i + (1 : Int32)) fun v38 => X11_run_37 173 (nI N) (fun (S42 : St) (v43 : Int32) => bd (X11_dueMany S42 173) fun S44 v45 => if v45 ≤ 0 then (some (S44, v43)) else (bd (X11_found S44 173 (-9 : Int32)) fun S46 v47 => some (S46, v47))) m S37 v38) Sb else (bd (X11_asks Sb 173 (nI p)) fun S39 _ => (fun (S37 : St)  => lt (nI i + (1 : Int32)) fun v38 => X11_run_37 173 (nI N) (fun (S42 : St) (v43 : Int32) => bd (X11_dueMany S42 173) fun S44 v45 => if v45 ≤ 0 then (some (S44, v43)) else (bd (X11_found S44 173 (-9 : Int32)) fun S46 v47 => some (S46, v47))) m S37 v38) S39)) = X11_run_37 173 (nI N) (fun (S42 : St) (v43 : Int32) => bd (X11_dueMany S42 173) fun S44 v45 => if v45 ≤ 0 then (some (S44, v43)) else (bd (X11_found S44 173 (-9 : Int32)) fun S46 v47 => some (S46, v47))) m Sc (nI (i + 1)) ∧ Sm (fun k j => k = 179 ∨ (k = 173 ∧ j = 11)) Sb Sc ∧ (mn = 4 → RM Sc (hea w kd n p (chs w n mn od g sd row).2.2)) := by
          by_cases m4 : mn = 4
          · have rb : RM Sb (chs w n mn od g sd row).2.2 := (t4 m4).gs hsb (by intro k j hk hq; omega)
            obtain ⟨Sc, y1, y2, y3⟩ := asks_ok hb hi c2 (c5 m4) rb
            refine ⟨Sc, ?_, y2, fun _ => y3⟩
            rw [b5, if_neg (fun z => z (by rw [m4]; rfl)), y1, bd_x]
            dsimp only
            rw [lt_x, e1]
          · refine ⟨Sb, ?_, Sm.rf, fun z => absurd z m4⟩
            rw [b5, if_pos (show ¬ nI mn = 4 from fun z => m4 ((nI_eq (b := 4) (by omega) (by omega)).mp z))]
            dsimp only
            rw [lt_x, e1]
        obtain ⟨Sc, y1, y2, y3⟩ := hH
        rw [y1]
        obtain ⟨S2, z1, z2, z3⟩ := run_m hi hmn hN ho k m (i + 1) Sc (sld w g (tms w kd g p) p) (fun d => D d + lN (tms w kd g p * w p (12 + d))) (fun q => if q = p then O p + lN (tms w kd g p) else O q) (chs w n mn od g sd row).2.1 (if mn = 4 then hea w kd n p (chs w n mn od g sd row).2.2 else (chs w n mn od g sd row).2.2) (by omega) (by omega) (hb.gs y2 (by intro k j hk hq; omega)) ((y2 _ _ (fun z => by omega)).1.trans b5) (fun z i hi => by rw [((hs2.tr y2) _ _ (fun z => by omega)).1]; exact h26 z i hi) ⟨hI.1.sld hov, c4, fun z => by rw [if_pos z]; exact hea_nd hn c2 (c5 z)⟩ ⟨fun e he => by rw [(y2 _ _ (fun z => by omega)).2]; exact kG e he, fun d hd => by rw [(y2 _ _ (fun z => by omega)).2]; exact kD d hd, fun q hq => by rw [(y2 _ _ (fun z => by omega)).2]; exact kO q hq, by rw [(y2 _ _ (fun z => by omega)).2]; exact kS, fun z => by rw [if_pos z]; exact y3 z⟩
        exact ⟨S2, z1, ((hs2.tr y2).tr z2).mo (by intro k j z; omega), z3⟩
end
theorem gd_map {r i : Nat} {q : Nat → Nat} (h : i < r) : gd ((List.range r).map q) i = q i := by
  unfold gd
  simp [h]
section
variable {S : St} {c : Nat}
theorem op_run (h : RelX S c) (u : Int32) : Ok S c (fun S => X10_run S 0 u) (fun S => X11_run S 173 u) := by
  obtain ⟨n, kd, w, bg, g, mn, hR⟩ := h
  have hR0 := hR
  obtain ⟨⟨a1, a2, a3, a4, a5, a6⟩, ⟨b1', b2, b3, b4⟩, ⟨c1, c2, c3, c4⟩, d1, d2⟩ := hR0
  have hn := a3.1
  have nN := nT (show n < 2147483648 by omega)
  have has := has_ok a1.1 hn
  have ha0 := a1.1
  have cb := b1'.1
  by_cases q1 : 1 ≤ u.toInt ∧ u.toInt ≤ 5000
  · have k1 : ¬ u < 1 := by simp only [lt32, lits]; omega
    have k2 : u ≤ 5000 := by simp only [le32, lits]; omega
    cases bg with
    | false =>
      refine Ok.fd hR (v := -8) ?_ ?_
      · show X10_run S 0 u = _
        simp only [X10_run, lt_x, if_neg k1, if_pos k2, cb, bi_f, not_true, if_false, found_c, bd_x]
      · intro S1 q
        have m2 := a2.gs q (by intro k j hk hq; omega)
        have isp := isPlace_ok m2.1 hn
        have mz := m2.1
        have mb : S1.1 173 3 = bi _ := (q.i (by omega)).trans b1'.2.1
        show X11_run S1 173 u = _
        simp only [X11_run, in_ok, bd_x, ite_b1n, lits, if_pos q1, mb, bi_f, not_true, if_false, found_m]
    | true =>
      obtain ⟨N, hN, rfl⟩ := inN_of (show inN u 5001 by unfold inN; omega) (by omega)
      obtain ⟨Sa, n1, n2, nx⟩ := hist_ok c1 hn rfl b2 b4
      obtain ⟨w1, w2, w3, ⟨sd, w4, w5, w6⟩, w7, w8⟩ := b4
      have hod : ∃ od : Nat → Nat, mn = 2 → (∀ i, i < n → S.1 26 i = nI (od i) ∧ S.1 178 i = nI (od i) ∧ od i < n) ∧ ∀ p, p < n → ∃ i, i < n ∧ od i = p := by
        by_cases m2 : mn = 2
        · obtain ⟨od, y1, y2⟩ := w7 m2
          exact ⟨od, fun _ => ⟨y1, y2⟩⟩
        · exact ⟨fun _ => 0, fun z => absurd z m2⟩
      obtain ⟨od, hod⟩ := hod
      have hrow : ∃ row : List Nat, mn = 4 → ND n row ∧ RC S row ∧ RM S row := by
        by_cases m4 : mn = 4
        · obtain ⟨r, q, y1, y2, y3, y4, y5⟩ := w8 m4
          have hl : ((List.range r).map q).length = r := by simp
          refine ⟨(List.range r).map q, fun _ => ⟨⟨fun i hi => ?_, fun i j hi hj e => ?_⟩, ⟨by rw [hl]; exact y2, fun i hi => ?_⟩, ⟨by rw [hl]; exact y3, fun i hi => ?_⟩⟩⟩
          · rw [hl] at hi
            rw [gd_map hi]; exact (y4 i hi).2.2
          · rw [hl] at hi hj
            rw [gd_map hi, gd_map hj] at e
            exact y5 i j hi hj e
          · rw [hl] at hi
            rw [gd_map hi]; exact (y4 i hi).1
          · rw [hl] at hi
            have := (y4 i hi).2.1
            rw [Nat.zero_add] at this
            rw [gd_map hi]; exact this
        · exact ⟨[], fun z => absurd z m4⟩
      obtain ⟨row, hrow⟩ := hrow
      have ho : mn = 2 → (∀ i, i < n → od i < n) ∧ ∀ p, p < n → ∃ i, i < n ∧ od i = p := fun z => ⟨fun i hi => ((hod z).1 i hi).2.2, (hod z).2⟩
      have hI : IAp n mn g sd row := ⟨b2.2.2.1, w4, fun z => (hrow z).1⟩
      have a1a := a1.gs n2 (by intro k j hk hq; omega)
      obtain ⟨Sb, r1, r2, r3⟩ := run_c (mn := mn) (N := N) (od := od) a3 w1 (by omega) ho N FU 0 Sa g (S.2 19) (S.2 20) sd row (by omega) (by unfold FU; omega) a1a ((n2 _ _ (fun z => by omega)).1.trans w2) (fun z i hi => (n2 _ _ (fun z => by omega)).1.trans ((hod z).1 i hi).1) hI ⟨fun e he => (n2 _ _ (fun z => by omega)).1.trans (b2.1 e he), fun d hd => (n2 _ _ (fun z => by omega)).2, fun q hq => (n2 _ _ (fun z => by omega)).2, (n2 _ _ (fun z => by omega)).2.trans w5, fun z => (hrow z).2.1.gs n2 (by intro k j hk hq; omega)⟩
      have hRA := runA_ok (mn := mn) (od := od) a3 ho N 0 g (S.2 19) (S.2 20) sd row hI
      generalize hF : runA w kd n mn od N 0 g (S.2 19) (S.2 20) sd row = F at r1 r3 hRA
      rw [nI_0] at r1
      have hs1 := (n2.tr r2).tr (sm_I Sb 0 15 (Sb.1 0 15 + 1))
      have hfin : ∀ S1, (S1 = cond (fdR F.1) (setI Sb 0 15 (Sb.1 0 15 + 1)) Sb) → Ok S c (fun S => X10_run S 0 (nI N)) (fun S => X11_run S 173 (nI N)) := by
        intro S1 hS1
        have hb1 : Sm (fun k j => k = 0 ∧ j = 15) Sb S1 := by
          rw [hS1]
          cases fdR F.1 with
          | true => exact sm_I _ _ _ _
          | false => exact Sm.rf
        have hsa := r2.tr hb1
        obtain ⟨Sc, s1, s2, sx⟩ := nx S1 (hsa.mo (by intro k j hk; omega))
        have hs1' := n2.tr hsa
        have q : CT S S1 := hs1'.mo (by intro k j hk; omega)
        have a2c := (a2.gs q (by intro k j hk hq; omega)).gs s2 (by intro k j hk hq; omega)
        have qc : ∀ k j, 173 ≤ k → ¬ ((188 ≤ k ∧ k ≤ 192) ∨ (k = 173 ∧ j = 30)) → Sc.1 k j = S.1 k j ∧ Sc.2 k j = S.2 k j := fun k j hk hz => ⟨(s2 k j hz).1.trans (q.i hk), (s2 k j hz).2.trans (q.l hk)⟩
        obtain ⟨Sd, t1, t2, t3⟩ := run_m (mn := mn) (N := N) (od := od) a3 w1 (by omega) ho N FU 0 Sc g (S.2 19) (S.2 20) sd row (by omega) (by unfold FU; omega) a2c ((qc _ _ (by omega) (by omega)).1.trans w3) (fun z i hi => (qc _ _ (by omega) (by omega)).1.trans ((hod z).1 i hi).2.1) hI ⟨fun e he => by
            have := b2.2.1 e he
            rw [Nat.zero_add] at this
            exact (qc _ _ (by omega) (by omega)).2.trans this, fun d hd => by
            have := b2.2.2.2.1 d hd
            rw [Nat.zero_add] at this
            exact (qc _ _ (by omega) (by omega)).2.trans this.symm, fun q hq => by
            have := b2.2.2.2.2.1 q hq
            rw [Nat.zero_add] at this
            exact (qc _ _ (by omega) (by omega)).2.trans this.symm, (qc _ _ (by omega) (by omega)).2.trans w6, fun z => ⟨(qc _ _ (by omega) (by omega)).1.trans (hrow z).2.2.1, fun i hi => (qc _ _ (by omega) (by omega)).1.trans ((hrow z).2.2.2 i hi)⟩⟩
        rw [hF] at t1 t3
        rw [nI_0] at t1
        refine ⟨S1, cond (fdR F.1) (setI Sd 173 24 (Sd.1 173 24 + 1)) Sd, F.1, ?_, ?_, ?_⟩
        · show X10_run S 0 (nI N) = _
          simp only [X10_run, lt_x, if_neg k1, if_pos k2, cb, bi_t, i10, not_false_iff, if_true, rfs, n1, bd_x]
          rw [r1, hS1]
        · show X11_run S1 173 (nI N) = _
          have m2 := a2.gs q (by intro k j hk hq; omega)
          have isp := isPlace_ok m2.1 hn
          have mz := m2.1
          have mb : S1.1 173 3 = bi _ := (q.i (by omega)).trans b1'.2.1
          simp only [X11_run, in_ok, bd_x, ite_b1n, lits, if_pos q1, mb, bi_t, i10, not_false_iff, if_true, s1]
          exact t1
        · have hd1 : Sm (fun k j => k = 173 ∧ j = 24) Sd (cond (fdR F.1) (setI Sd 173 24 (Sd.1 173 24 + 1)) Sd) := by
            cases fdR F.1 with
            | true => exact sm_I _ _ _ _
            | false => exact Sm.rf
          have h15 : (cond (fdR F.1) (setI Sd 173 24 (Sd.1 173 24 + 1)) Sd).1 0 15 = (cond (fdR F.1) (setI Sd 173 24 (Sd.1 173 24 + 1)) Sd).1 173 24 := by
            have e1 : Sd.1 173 24 = S.1 173 24 := (t2 _ _ (fun z => by omega)).1.trans (qc _ _ (by omega) (by omega)).1
            have e2 : Sd.1 0 15 = S1.1 0 15 := ((s2.tr t2) _ _ (fun z => by omega)).1
            have e3 : Sb.1 0 15 = S.1 0 15 := ((n2.tr r2) _ _ (fun z => by omega)).1
            cases hfd : fdR F.1 with
            | true =>
              rw [hfd] at hS1
              simp only [cond_true] at hS1 ⊢
              rw [sI_n (by omega), sI_s, e1, e2, hS1, sI_s, e3, b1'.2.2.2]
            | false =>
              rw [hfd] at hS1
              simp only [cond_false] at hS1 ⊢
              rw [e1, e2, hS1, e3, b1'.2.2.2]
          generalize cond (fdR F.1) (setI Sd 173 24 (Sd.1 173 24 + 1)) Sd = Sf at hd1 h15
          have hs2 := (s2.tr t2).tr hd1
          have hss := hs1'.tr hs2
          obtain ⟨m1, m2, m3, m4, m5⟩ := t3
          obtain ⟨j1, j2, j3, j4, j5⟩ := r3
          obtain ⟨⟨i1, i2, i3⟩, i4⟩ := hRA
          have lc : ∀ k j, k < 173 → ¬ (k = 0 ∧ j = 15) → Sf.1 k j = Sb.1 k j ∧ Sf.2 k j = Sb.2 k j := fun k j hk hz => ⟨(hs2 k j (fun z => by omega)).1.trans (hb1 k j hz).1, (hs2 k j (fun z => by omega)).2.trans (hb1 k j hz).2⟩
          have lm : ∀ k j, 173 ≤ k → ¬ (k = 173 ∧ j = 24) → Sf.1 k j = Sd.1 k j ∧ Sf.2 k j = Sd.2 k j := fun k j hk hz => hd1 k j hz
          have hr : RH Sf n F.2.1 := by
            refine ⟨fun e he => ?_, fun e he => ?_, i1, fun d hd => ?_, fun e he => ?_, fun e he he2 => ?_⟩
            · rw [(lc _ _ (by omega) (by omega)).1]; exact j1 e he
            · rw [Nat.zero_add, (lm _ _ (by omega) (by omega)).2]; exact m1 e he
            · rw [Nat.zero_add, (lc _ _ (by omega) (by omega)).2, (lm _ _ (by omega) (by omega)).2, j2 d hd, m2 d hd]
            · rw [Nat.zero_add, (lc _ _ (by omega) (by omega)).2, (lm _ _ (by omega) (by omega)).2, j3 e he, m3 e he]
            · have h0 := b2.2.2.2.2.2 e he he2
              have h1 := b2.2.2.2.2.1 e he2
              rw [Nat.zero_add] at h0 h1 ⊢
              rw [(lm _ _ (by omega) (by omega)).2, m3 e he2, i4 e he, h1, h0]
          have hch : RCh Sf n mn := by
            refine ⟨w1, ?_, ?_, ⟨F.2.2.2.2.1, i2, ?_, ?_⟩, fun z => ⟨od, fun i hi => ⟨?_, ?_, ((hod z).1 i hi).2.2⟩, (hod z).2⟩, fun z => ⟨F.2.2.2.2.2.length, gd F.2.2.2.2.2, (i3 z).len, ?_, ?_, fun i hi => ⟨?_, ?_, (i3 z).1 i hi⟩, (i3 z).2⟩⟩
            · rw [(hss _ _ (fun z => by omega)).1]; exact w2
            · rw [(hss _ _ (fun z => by omega)).1]; exact w3
            · rw [(lc _ _ (by omega) (by omega)).2]; exact j4
            · rw [(lm _ _ (by omega) (by omega)).2]; exact m4
            · rw [(hss _ _ (fun z => by omega)).1]; exact ((hod z).1 i hi).1
            · rw [(hss _ _ (fun z => by omega)).1]; exact ((hod z).1 i hi).2.1
            · rw [(lc _ _ (by omega) (by omega)).1]; exact (j5 z).1
            · rw [(lm _ _ (by omega) (by omega)).1]; exact (m5 z).1
            · rw [(lc _ _ (by omega) (by omega)).1]; exact (j5 z).2 i hi
            · rw [Nat.zero_add, (lm _ _ (by omega) (by omega)).1]; exact (m5 z).2 i hi
          refine (Rel.re hR hss (by intro k j hk hq; omega) (by intro k j hk hq; omega) a6 (Or.inr ⟨?_, ?_, ?_, h15⟩) (Or.inr hr) (Or.inr rfl) (Or.inr hch) (Or.inr (sx _ ((t2.tr hd1).mo (by intro k j hk; omega)))) (Or.inl (by intro k j hk hq; omega)) (Or.inl (by intro k j hk hq; omega)) (Or.inl (by intro k j hk hq; omega)) (Or.inl (by intro k j hk hq; omega)) (Or.inl (by intro k j hk hq; omega))).x
          · rw [(hss 0 13 (fun z => by omega)).1]; exact b1'.1
          · rw [(hss 173 3 (fun z => by omega)).1]; exact b1'.2.1
          · rw [(hss 0 14 (fun z => by omega)).1, (hss 173 7 (fun z => by omega)).1]; exact b1'.2.2.1
      exact hfin _ rfl
  · refine Ok.fd hR (v := -1) ?_ ?_
    · show X10_run S 0 u = _
      simp only [X10_run, lt_x, found_c, bd_x]
      by_cases z : u < 1
      · rw [if_pos z]
      · rw [if_neg z, if_neg (by simp only [lt32, le32, lits] at z ⊢; omega)]
    · intro S1 q
      show X11_run S1 173 u = _
      simp only [X11_run, in_ok, bd_x, ite_b1n, lits, if_neg q1, found_m]
end
