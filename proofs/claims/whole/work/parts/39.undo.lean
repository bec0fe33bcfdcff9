/-! undo, reset, anew -/
/-- these two are not taken as definitional by simp: their proofs hold up where a loop's fuel stands at the head -/
theorem lt_x {α β : Type} (x : α) (f : α → β) : lt x f = f x := Eq.trans rfl rfl
theorem bd_x {ρ σ : Type} (S : St) (r : ρ) (b : St → ρ → Option (St × σ)) : bd (some (S, r)) b = b S r := Eq.trans rfl rfl
theorem give_ok (S : St) {x : Nat} (hx : x < 20) : ∃ S1, X4_giveTo S (30 + 5 * x) 17 25 = some (S1, ()) ∧ Sm (fun k j => k = 18 ∨ k = 19 ∨ k = 20 ∨ k = 27 ∨ (k = 25 ∧ (j = 4 ∨ j = 6))) S S1 ∧ (∀ p, p < 12 → S1.1 18 p = S.1 (31 + 5 * x) p) ∧ (∀ d, d < 3 → S1.2 19 d = S.2 (32 + 5 * x) d) ∧ (∀ q, q < 12 → S1.2 20 q = S.2 (33 + 5 * x) q) ∧ (∀ i, i < 12 → S1.1 27 i = S.1 (34 + 5 * x) i) ∧ S1.1 25 4 = S.1 (30 + 5 * x) 4 ∧ S1.2 25 6 = S.2 (30 + 5 * x) 5 := by
  unfold X4_giveTo
  obtain ⟨r0, r1, r2, r3⟩ := rf_mom hx
  simp only [lt_e, gu_t (show cpOk 0 0 12 12 12 by decide), gu_t (show cpOk 0 0 3 3 3 by decide), r0, r1, r2, r3, rfs, ix0, ix3, ix12]
  refine ⟨_, rfl, ?_, fun p hp => ?_, fun p hp => ?_, fun p hp => ?_, fun p hp => ?_, ?_, ?_⟩
  · exact ((((((sm_R S _ _).tr (sm_L _ _ _)).tr (sm_L _ _ _)).tr (sm_R _ _ _)).tr (sm_I _ _ _ _)).tr (sm_J _ _ _ _)).mo (by intro k j hk; omega)
  · rw [sJr, sI_n (by omega), sR_n (by omega), sLr, sLr, sR_s, cpy0 hp]
  · rw [sJ_n (by omega), sIr, sRr, sL_n (by omega), sL_s, cpy0 hp, sRr]
  · rw [sJ_n (by omega), sIr, sRr, sL_s, cpy0 hp, sL_n (by omega), sRr]
  · rw [sJr, sI_n (by omega), sR_s, cpy0 hp, sLr, sLr, sR_n (by omega)]
  · rw [sJr, sI_s, sR_n (by omega), sLr, sLr, sR_n (by omega)]
  · rw [sJ_s, sIr, sRr, sL_n (by omega), sL_n (by omega), sRr]
section
variable {S : St} {c : Nat}
theorem op_undo (h : RelX S c) : Ok S c (fun S => X10_undo S 0) (fun S => X11_undo S 173) := by
  obtain ⟨n, kd, w, bg, g, mn, hR⟩ := h
  have hR0 := hR
  obtain ⟨⟨a1, a2, a3, a4, a5, a6⟩, ⟨b1', b2, b3, b4⟩, ⟨c1, c2, c3, c4⟩, d1, d2⟩ := hR0
  have hn := a3.1
  have nN := nT (show n < 2147483648 by omega)
  have has := has_ok a1.1 hn
  have ha0 := a1.1
  have cb := b1'.1
  have c1' := c1
  obtain ⟨h0, x0, z1, z2, z3, z4, z5, z6, z7⟩ := c1'
  cases h0 with
  | zero =>
    refine Ok.fd hR (v := -11) ?_ ?_
    · show X10_undo S 0 = _
      simp only [X10_undo, rfs, z3, show nI 0 = 0 from rfl, not_true, if_false, found_c, bd_s]
    · intro S1 q
      show X11_undo S1 173 = _
      simp only [X11_undo, q.i (show 173 ≤ 173 by omega), z4, show nI 0 = 0 from rfl, not_true, if_false, found_m, bd_s]
  | succ h1 =>
    have hbt : bg = true := z6 (by omega)
    subst hbt
    have ex : (x0 + 20 - (h1 + 1) + h1) % 20 = (x0 + 19) % 20 := by congr 1; omega
    have zz := z7 h1 (by omega)
    rw [ex] at zz
    have hx1 : (x0 + 19) % 20 < 20 := Nat.mod_lt _ (by omega)
    have e2 : nI x0 + (20 : Int32) = nI (x0 + 20) := nI_add x0 20
    have e3 : nI (x0 + 20) - (1 : Int32) = nI (x0 + 19) := nI_pred (x0 + 19)
    have e4 : irem (nI (x0 + 19)) 20 = nI ((x0 + 19) % 20) := by
      unfold irem
      rw [show (20 : Int32) = nI 20 from rfl, pk_rem (by omega) (by omega) (by omega)]
    have e5 : nI (h1 + 1) - (1 : Int32) = nI h1 := nI_pred h1
    have hring : ∀ j, (((x0 + 19) % 20) + 20 - h1 + j) % 20 = (x0 + 20 - (h1 + 1) + j) % 20 := fun j => by omega
    generalize (x0 + 19) % 20 = x1 at zz hx1 e4 hring
    obtain ⟨Sa, g1, g2, g3, g4, g5, g6, g7, g8⟩ := give_ok (setI (setI S 28 1 (nI x1)) 28 2 (nI h1)) hx1
    have hsa := ((sm_I S 28 1 (nI x1)).tr (sm_I (setI S 28 1 (nI x1)) 28 2 (nI h1))).tr g2
    have q : CT S Sa := hsa.mo (by intro k j hk; omega)
    have o28 : ∀ k j, k ≠ 28 → (setI (setI S 28 1 (nI x1)) 28 2 (nI h1)).1 k j = S.1 k j := fun k j hk => by rw [sI_n (by omega), sI_n (by omega)]
    have a28 : Sa.1 28 2 = nI h1 := by rw [(g2 _ _ (fun z => by omega)).1, sI_s]
    have b28 : Sa.1 28 1 = nI x1 := by rw [(g2 _ _ (fun z => by omega)).1, sI_n (by omega), sI_s]
    obtain ⟨Sb, p1, p2, p3⟩ := undo_26_ok (show h1 < 20 by omega) 15 FU 0 (setI Sa 173 30 (nI h1)) (by omega) (by decide) (sI_s _ _ _ _)
    have kb : Sb.1 173 30 = nI h1 := by rw [(p2 _ _ (fun z => by omega)).1, sI_s]
    obtain ⟨Sc, r1, r2, r3⟩ := undo_60_ok (show h1 < 20 by omega) 12 FU 0 Sb (by omega) (by decide) kb
    have kc : Sc.1 173 30 = nI h1 := by rw [(r2 _ _ (fun z => by omega)).1, kb]
    obtain ⟨Sd, u1, u2, u3⟩ := undo_94_ok (show h1 < 20 by omega) 12 FU 0 Sc (by omega) (by decide) kc
    have kd' : Sd.1 173 30 = nI h1 := by rw [(u2 _ _ (fun z => by omega)).1, kc]
    have hsm := ((((sm_I Sa 173 30 (nI h1)).tr p2).tr r2).tr u2)
    refine ⟨Sa, setI (setJ Sd 173 8 (Sd.2 190 h1)) 173 11 (Sd.1 192 h1), nI h1, ?_, ?_, ?_⟩
    · show X10_undo S 0 = _
      simp only [X10_undo, X3_goBack, rfs, z3, if_pos (nI_ne0 (show 0 < h1 + 1 by omega) (by omega)), if_neg (nI_nle (show 0 < h1 + 1 by omega) (by omega)), gu_t (show ¬ (20 : Int32) = 0 by decide), lt_e, z5, e2, e3, e4, sI_n (show ¬ (28 = 28 ∧ 2 = 1) by omega), e5, sI_n (show ¬ (28 = 28 ∧ 1 = 2) by omega), sI_s, ck_n hx1 (show 20 < 2147483648 by omega), ix_n (show x1 < 2147483648 by omega), rf_29, g1, bd_s, a28]
    · show X11_undo Sa 173 = _
      have mz : Sa.1 173 30 = nI (h1 + 1) := (q.i (by omega)).trans z4
      have kz : (setJ Sd 173 8 (Sd.2 190 h1)).1 173 30 = nI h1 := kd'
      unfold X11_undo
      rw [mz, if_pos (nI_ne0 (show 0 < h1 + 1 by omega) (by omega)), lt_e, e5, show (0 : Int32) = nI 0 from rfl, p1, r1, u1]
      simp only [lt_e, kd', kz, rfm, ck_n (show h1 < 20 by omega) (show 20 < 2147483648 by omega), ix_n (show h1 < 2147483648 by omega), sJr, sI_n (show ¬ (173 = 173 ∧ 30 = 11) by omega)]
    · have hsf := ((hsm.tr (sm_J Sd 173 8 (Sd.2 190 h1))).tr (sm_I (setJ Sd 173 8 (Sd.2 190 h1)) 173 11 (Sd.1 192 h1)))
      have hs := hsa.tr hsf
      obtain ⟨⟨gg, m1, m2, m3, m4, m5, m6⟩, ⟨sd, t1, t2, t3⟩, mr⟩ := zz
      have hr : RH (setI (setJ Sd 173 8 (Sd.2 190 h1)) 173 11 (Sd.1 192 h1)) n gg := by
        refine ⟨fun e he => ?_, fun e he => ?_, m3, fun d hd => ?_, fun e he => ?_, fun e he he2 => ?_⟩
        · rw [(hsf 18 e (fun z => by omega)).1, g3 e (by omega), o28 _ _ (by omega)]; exact m1 e he
        · rw [Nat.zero_add, sIr, sJ_n (by omega), (u2 _ _ (fun z => by omega)).2, (r2 _ _ (fun z => by omega)).2, p3 e (by omega) (by omega), sIr, q.l (by omega)]; exact m2 e he
        · rw [(hsf 19 d (fun z => by omega)).2, g4 d hd, Nat.zero_add, sIr, sIr, sIr, sJ_n (by omega), (u2 _ _ (fun z => by omega)).2, (r2 _ _ (fun z => by omega)).2, p3 (12 + d) (by omega) (by omega), sIr, q.l (by omega), ← Nat.add_assoc]; exact m4 d hd
        · rw [(hsf 20 e (fun z => by omega)).2, g5 e he, Nat.zero_add, sIr, sIr, sIr, sJ_n (by omega), (u2 _ _ (fun z => by omega)).2, r3 e (by omega) he, (p2 _ _ (fun z => by omega)).2, sIr, q.l (by omega)]; exact m5 e he
        · rw [Nat.zero_add, sIr, sJ_n (by omega), (u2 _ _ (fun z => by omega)).2, r3 e (by omega) he2, (p2 _ _ (fun z => by omega)).2, sIr, q.l (by omega)]; exact m6 e he he2
      have sdm : Sd.2 190 h1 = S.2 190 h1 := by rw [(hsm 190 h1 (fun z => by omega)).2, q.l (by omega)]
      have rwm : Sd.1 192 h1 = S.1 192 h1 := by rw [(hsm 192 h1 (fun z => by omega)).1, q.i (by omega)]
      have hch : RCh (setI (setJ Sd 173 8 (Sd.2 190 h1)) 173 11 (Sd.1 192 h1)) n mn := by
        obtain ⟨w1, w2, w3, -, w5, w6⟩ := b4
        refine ⟨w1, ?_, ?_, ⟨sd, t1, ?_, ?_⟩, fun hm => ?_, fun hm => ?_⟩
        · rw [(hs 25 5 (fun z => by omega)).1]; exact w2
        · rw [(hs 173 6 (fun z => by omega)).1]; exact w3
        · rw [(hsf 25 6 (fun z => by omega)).2, g8, sIr, sIr]; exact t2
        · rw [sIr, sJ_s, sdm]; exact t3
        · obtain ⟨od, y1, y2⟩ := w5 hm
          exact ⟨od, fun i hi => by rw [(hs 26 i (fun z => by omega)).1, (hs 178 i (fun z => by omega)).1]; exact y1 i hi, y2⟩
        · obtain ⟨r, qq, y1, y2, y3, y4, y5⟩ := mr hm
          refine ⟨r, qq, y1, ?_, ?_, fun i hi => ?_, y5⟩
          · rw [(hsf 25 4 (fun z => by omega)).1, g7, o28 _ _ (by omega)]; exact y2
          · rw [sI_s, rwm]; exact y3
          · have := y4 i hi
            rw [(hsf 27 i (fun z => by omega)).1, g6 i (by omega), o28 _ _ (by omega), Nat.zero_add, sI_n (by omega), sJr, u3 i (by omega) (by omega), (r2 _ _ (fun z => by omega)).1, (p2 _ _ (fun z => by omega)).1, sI_n (by omega), q.i (by omega)]
            exact this
      have hh : RHist (setI (setJ Sd 173 8 (Sd.2 190 h1)) 173 11 (Sd.1 192 h1)) n mn true := by
        refine ⟨h1, x1, by omega, hx1, ?_, ?_, ?_, fun _ => rfl, fun j hj => ?_⟩
        · rw [(hsf 28 2 (fun z => by omega)).1]; exact a28
        · rw [sI_n (by omega), sJr]; exact kd'
        · rw [(hsf 28 1 (fun z => by omega)).1]; exact b28
        · rw [hring]
          have hlt := Nat.mod_lt (x0 + 20 - (h1 + 1) + j) (show 0 < 20 by omega)
          exact (z7 j (by omega)).gs hn hlt (by omega) hs (by intro k i hk hq; omega)
      exact (Rel.re hR hs (by intro k j hk hq; omega) (by intro k j hk hq; omega) a6 (Or.inl (by intro k j hk hq; omega)) (Or.inr hr) (Or.inr rfl) (Or.inr hch) (Or.inr hh) (Or.inl (by intro k j hk hq; omega)) (Or.inl (by intro k j hk hq; omega)) (Or.inl (by intro k j hk hq; omega)) (Or.inl (by intro k j hk hq; omega)) (Or.inl (by intro k j hk hq; omega))).x
theorem cnt_congr {P Q : Nat → Bool} : ∀ {j i : Nat}, (∀ d, i ≤ d → d < i + j → P d = Q d) → cntB P j i = cntB Q j i
  | 0, _, _ => rfl
  | j + 1, i, h => by
    rw [cntB, cntB, h i (Nat.le_refl _) (by omega), cnt_congr (fun d a b => h d (by omega) (by omega))]
theorem cnt_add {P : Nat → Bool} : ∀ {j k i : Nat}, cntB P (j + k) i = cntB P j i + cntB P k (i + j)
  | 0, k, i => by rw [Nat.zero_add, cntB, Nat.zero_add, Nat.add_zero]
  | j + 1, k, i => by
    rw [show j + 1 + k = j + k + 1 by omega, cntB, cntB, cnt_add, show i + 1 + j = i + (j + 1) by omega, Nat.add_assoc]
theorem cnt_none {P : Nat → Bool} : ∀ {j i : Nat}, (∀ d, i ≤ d → d < i + j → P d = false) → cntB P j i = 0
  | 0, _, _ => rfl
  | j + 1, i, h => by
    rw [cntB, h i (Nat.le_refl _) (by omega), if_neg (by decide), Nat.zero_add]
    exact cnt_none (fun d a b => h d (by omega) (by omega))
def nz (f : Nat → Int64) (p : Nat) : Bool := decide (f p ≠ 0)
theorem reset_c {n : Nat} (hn : n ≤ 12) (K : St → Int32 → Int32 → Option (St × Int32)) : ∀ (j m i a : Nat) (S : St), i + j = n → j < m → S.1 1 3 = nI n → ∃ S2, X10_reset_4 0 K m S (nI a) (nI i) = K S2 (nI (a + cntB (nz (S.2 20)) j i)) (nI n) ∧ Sm (fun k q => k = 20 ∧ i ≤ q ∧ q < n) S S2 ∧ ∀ e, i ≤ e → e < n → S2.2 20 e = 0
  | 0, 0, _, _, _, _, h, _ => absurd h (by omega)
  | j + 1, 0, _, _, _, _, h, _ => absurd h (by omega)
  | 0, m + 1, i, a, S, hij, _, hH => by
    refine ⟨S, ?_, Sm.rf, fun e h1 h2 => absurd h2 (by omega)⟩
    rw [show i = n by omega, X10_reset_4]
    simp only [rfs, hH]
    rw [if_pos (Int32.le_refl _)]
    rfl
  | j + 1, m + 1, i, a, S, hij, hm, hH => by
    have e1 : nI i + (1 : Int32) = nI (i + 1) := nI_1 i
    have e2 : nI a + (1 : Int32) = nI (a + 1) := nI_1 a
    have key : ∀ a2, a2 = a + (if nz (S.2 20) i = true then 1 else 0) → ∃ S2, X10_reset_4 0 K m (setJ S 20 i 0) (nI a2) (nI (i + 1)) = K S2 (nI (a + cntB (nz (S.2 20)) (j + 1) i)) (nI n) ∧ Sm (fun k q => k = 20 ∧ i ≤ q ∧ q < n) S S2 ∧ ∀ e, i ≤ e → e < n → S2.2 20 e = 0 := by
      intro a2 ha
      obtain ⟨S2, q1, q2, q3⟩ := reset_c hn K j m (i + 1) a2 (setJ S 20 i 0) (by omega) (by omega) hH
      refine ⟨S2, ?_, ((sm_J S _ _ _).tr q2).mo (fun k q z => by omega), fun e h1 h2 => ?_⟩
      · rw [q1, cntB, cnt_congr (P := nz ((setJ S 20 i 0).2 20)) (Q := nz (S.2 20)) (fun d h1 h2 => by unfold nz; rw [sJ_n (by omega)]), ha, Nat.add_assoc]
      · by_cases he : e = i
        · rw [he, (q2 _ _ (fun z => by omega)).2, sJ_s]
        · exact q3 e (by omega) h2
    rw [X10_reset_4]
    simp only [lt_e, rfs, hH, e1, e2, ck_n (show i < 12 by omega) (show 12 < 2147483648 by omega), ix_n (show i < 2147483648 by omega)]
    rw [if_neg (nI_ge (show i < n by omega) (by omega))]
    by_cases z : S.2 20 i = 0
    · rw [if_pos z]
      exact key a (by unfold nz; simp [z])
    · rw [if_neg z]
      exact key (a + 1) (by unfold nz; simp [z])
theorem reset_m (K : St → Int32 → Int32 → Option (St × Int32)) : ∀ (j m i a : Nat) (S : St), i + j = 12 → j < m → ∃ S2, X11_reset_4 173 K m S (nI a) (nI i) = K S2 (nI (a + cntB (nz (S.2 177)) j i)) (nI 12) ∧ Sm (fun k q => k = 177 ∧ i ≤ q ∧ q < 12) S S2 ∧ ∀ e, i ≤ e → e < 12 → S2.2 177 e = 0
  | 0, 0, _, _, _, _, h => absurd h (by omega)
  | j + 1, 0, _, _, _, _, h => absurd h (by omega)
  | 0, m + 1, i, a, S, hij, _ => by
    refine ⟨S, ?_, Sm.rf, fun e h1 h2 => absurd h2 (by omega)⟩
    rw [show i = 12 by omega, X11_reset_4, if_pos (by decide)]
    rfl
  | j + 1, m + 1, i, a, S, hij, hm => by
    have e1 : nI i + (1 : Int32) = nI (i + 1) := nI_1 i
    have e2 : nI a + (1 : Int32) = nI (a + 1) := nI_1 a
    have e3 : nI a + (0 : Int32) = nI a := nI_add a 0
    have key : ∀ a2, a2 = a + (if nz (S.2 177) i = true then 1 else 0) → ∃ S2, X11_reset_4 173 K m (setJ S 177 i 0) (nI a2) (nI (i + 1)) = K S2 (nI (a + cntB (nz (S.2 177)) (j + 1) i)) (nI 12) ∧ Sm (fun k q => k = 177 ∧ i ≤ q ∧ q < 12) S S2 ∧ ∀ e, i ≤ e → e < 12 → S2.2 177 e = 0 := by
      intro a2 ha
      obtain ⟨S2, q1, q2, q3⟩ := reset_m K j m (i + 1) a2 (setJ S 177 i 0) (by omega) (by omega)
      refine ⟨S2, ?_, ((sm_J S _ _ _).tr q2).mo (fun k q z => by omega), fun e h1 h2 => ?_⟩
      · rw [q1, cntB, cnt_congr (P := nz ((setJ S 177 i 0).2 177)) (Q := nz (S.2 177)) (fun d h1 h2 => by unfold nz; rw [sJ_n (by omega)]), ha, Nat.add_assoc]
      · by_cases he : e = i
        · rw [he, (q2 _ _ (fun z => by omega)).2, sJ_s]
        · exact q3 e (by omega) h2
    rw [X11_reset_4]
    simp only [lt_e, rfm, e1, e2, e3, ck_n (show i < 12 by omega) (show 12 < 2147483648 by omega), ix_n (show i < 2147483648 by omega)]
    rw [if_neg (by rw [show (12 : Int32) = nI 12 from rfl]; exact nI_ge (show i < 12 by omega) (by omega))]
    by_cases z : S.2 177 i = 0
    · rw [if_pos z]
      exact key a (by unfold nz; simp [z])
    · rw [if_neg z]
      exact key (a + 1) (by unfold nz; simp [z])
theorem RHist.none {S : St} {n mn : Nat} {bg : Bool} (h1 : S.1 28 2 = 0) (h2 : S.1 173 30 = 0) (h3 : S.1 28 1 = 0) : RHist S n mn bg := ⟨0, 0, by omega, by omega, h1, h2, h3, fun z => absurd z (by omega), fun j hj => absurd hj (by omega)⟩
theorem op_reset (h : RelX S c) : Ok S c (fun S => X10_reset S 0) (fun S => X11_reset S 173) := by
  obtain ⟨n, kd, w, bg, g, mn, hR⟩ := h
  have hR0 := hR
  obtain ⟨⟨a1, a2, a3, a4, a5, a6⟩, ⟨b1', b2, b3, b4⟩, ⟨c1, c2, c3, c4⟩, d1, d2⟩ := hR0
  have hn := a3.1
  have nN := nT (show n < 2147483648 by omega)
  have has := has_ok a1.1 hn
  have ha0 := a1.1
  have cb := b1'.1
  obtain ⟨Sa, p1, p2, p3⟩ := reset_c hn (fun S32 v33 v34 => bd (X3_clear S32 (rf 0 4)) fun S36 _ => some (S36, v33)) n FU 0 0 S (by omega) (by unfold FU; omega) ha0
  rw [nI_0] at p1
  have hs1 := (p2.tr (sm_I Sa 28 1 0)).tr (sm_I (setI Sa 28 1 0) 28 2 0)
  have q : CT S (setI (setI Sa 28 1 0) 28 2 0) := hs1.mo (by intro k j hk; omega)
  generalize hS1 : setI (setI Sa 28 1 0) 28 2 0 = S1 at q hs1
  obtain ⟨Sb, r1, r2, r3⟩ := reset_m (fun S29 v30 v31 => lt (setI S29 173 30 (0 : Int32)) fun S32 => some (S32, v30)) 12 FU 0 0 S1 (by omega) (by decide)
  rw [nI_0] at r1
  have ec : cntB (nz (S1.2 177)) 12 0 = cntB (nz (S.2 20)) n 0 := by
    rw [cnt_congr (P := nz (S1.2 177)) (Q := nz (S.2 20)) (fun d h1 h2 => by
      have := b2.2.2.2.2.1 d (by omega)
      rw [Nat.zero_add] at this
      unfold nz
      rw [q.l (by omega), this]), show 12 = n + (12 - n) by omega, cnt_add, cnt_none (j := 12 - n) (fun d h1 h2 => by
      have h3 := b2.2.2.2.2.1 d (by omega)
      have h4 := b2.2.2.2.2.2 d (by omega) (by omega)
      unfold nz
      rw [h3, h4]; simp), Nat.add_zero]
  refine ⟨S1, setI Sb 173 30 0, nI (cntB (nz (S.2 20)) n 0), ?_, ?_, ?_⟩
  · show X10_reset S 0 = _
    unfold X10_reset
    rw [p1]
    simp only [X3_clear, rfs, lt_e, bd_s, hS1, Nat.zero_add]
  · show X11_reset S1 173 = _
    unfold X11_reset
    rw [r1]
    simp only [lt_e, ec, Nat.zero_add]
  · have hs2 := r2.tr (sm_I Sb 173 30 0)
    have hs := hs1.tr hs2
    have k1 : S1.1 28 2 = 0 := by rw [← hS1, sI_s]
    have k2 : S1.1 28 1 = 0 := by rw [← hS1, sI_n (by omega), sI_s]
    have k3 : ∀ e, S1.2 20 e = Sa.2 20 e := fun e => by rw [← hS1]; rfl
    have hh : RHist (setI Sb 173 30 0) n mn bg := RHist.none (by rw [(hs2 28 2 (fun z => by omega)).1]; exact k1) (sI_s _ _ _ _) (by rw [(hs2 28 1 (fun z => by omega)).1]; exact k2)
    have hr : RH (setI Sb 173 30 0) n g := by
      refine ⟨fun e he => ?_, fun e he => ?_, b2.2.2.1, fun d hd => ?_, fun e he => ?_, fun e he he2 => ?_⟩
      · rw [(hs 18 e (fun z => by omega)).1]; exact b2.1 e he
      · rw [(hs 176 (0 + e) (fun z => by omega)).2]; exact b2.2.1 e he
      · rw [(hs 19 d (fun z => by omega)).2, (hs 176 (0 + 12 + d) (fun z => by omega)).2]; exact b2.2.2.2.1 d hd
      · rw [(hs2 20 e (fun z => by omega)).2, k3, Nat.zero_add, sIr, r3 e (by omega) he]
        by_cases z : e < n
        · exact p3 e (by omega) z
        · rw [(p2 20 e (fun z => by omega)).2, b2.2.2.2.2.1 e he]
          exact b2.2.2.2.2.2 e (by omega) he
      · rw [Nat.zero_add, sIr]; exact r3 e (by omega) he2
    exact (Rel.re hR hs (by intro k j hk hq; omega) (by intro k j hk hq; omega) a6 (Or.inl (by intro k j hk hq; omega)) (Or.inr hr) (Or.inl (by intro k j hk hq; omega)) (Or.inl ⟨rfl, by intro k j hk hq; omega⟩) (Or.inr hh) (Or.inl (by intro k j hk hq; omega)) (Or.inl (by intro k j hk hq; omega)) (Or.inl (by intro k j hk hq; omega)) (Or.inl (by intro k j hk hq; omega)) (Or.inl (by intro k j hk hq; omega))).x
theorem clear_2_ok : ∀ (j m i : Nat) (S : St), i + j = 12 → j < m → ∃ S2, (∀ K : St → Int32 → Option (St × Unit), X7_clear_2 1 K m S (nI i) = K S2 (nI 12)) ∧ Sm (fun k q => (k = 2 ∧ i ≤ q) ∨ (k = 16 ∧ i ≤ q) ∨ (4 + i ≤ k ∧ k ≤ 15)) S S2 ∧ ∀ p, i ≤ p → p < 12 → S2.1 16 p = 0 ∧ ∀ e, e < 15 → S2.1 (4 + p) e = 0
  | 0, 0, _, _, _, h => absurd h (by omega)
  | j + 1, 0, _, _, _, h => absurd h (by omega)
  | 0, m + 1, i, S, hij, _ => by
    refine ⟨S, fun K => ?_, Sm.rf, fun e h1 h2 => absurd h2 (by omega)⟩
    rw [show i = 12 by omega, X7_clear_2, if_pos (by decide)]
  | j + 1, m + 1, i, S, hij, hm => by
    have e1 : nI i + (1 : Int32) = nI (i + 1) := nI_1 i
    obtain ⟨Sa, p1, p2, p3⟩ := clear_24_ok (show i < 12 by omega) 15 FU 0 (setI (setI S 2 i 0) 16 i 0) (by omega) (by decide)
    rw [nI_0] at p1
    obtain ⟨S2, q1, q2, q3⟩ := clear_2_ok j m (i + 1) Sa (by omega) (by omega)
    have hs := ((sm_I S 2 i 0).tr (sm_I (setI S 2 i 0) 16 i 0)).tr p2
    refine ⟨S2, fun K => ?_, (hs.tr q2).mo (fun k q z => by omega), fun p h1 h2 => ?_⟩
    · rw [X7_clear_2, if_neg (by rw [show (12 : Int32) = nI 12 from rfl]; exact nI_ge (show i < 12 by omega) (by omega))]
      simp only [lt_e, rfs, ck_n (show i < 12 by omega) (show 12 < 2147483648 by omega), ix_n (show i < 2147483648 by omega)]
      rw [p1]
      simp only [e1]
      exact q1 K
    · by_cases he : p = i
      · subst he
        refine ⟨?_, fun e he => ?_⟩
        · rw [(q2 _ _ (fun z => by omega)).1, (p2 _ _ (fun z => by omega)).1, sI_s]
        · rw [(q2 _ _ (fun z => by omega)).1]; exact p3 e (by omega) he
      · exact q3 p (by omega) h2
theorem clearH_2_ok : ∀ (j m i : Nat) (S : St), i + j = 12 → j < m → ∃ S2, (∀ K : St → Int32 → Option (St × Unit), X2_clear_2 17 K m S (nI i) = K S2 (nI 12)) ∧ Sm (fun k q => (k = 18 ∧ i ≤ q) ∨ (k = 20 ∧ i ≤ q)) S S2 ∧ ∀ p, i ≤ p → p < 12 → S2.1 18 p = 0 ∧ S2.2 20 p = 0
  | 0, 0, _, _, _, h => absurd h (by omega)
  | j + 1, 0, _, _, _, h => absurd h (by omega)
  | 0, m + 1, i, S, hij, _ => by
    refine ⟨S, fun K => ?_, Sm.rf, fun e h1 h2 => absurd h2 (by omega)⟩
    rw [show i = 12 by omega, X2_clear_2, if_pos (by decide)]
  | j + 1, m + 1, i, S, hij, hm => by
    have e1 : nI i + (1 : Int32) = nI (i + 1) := nI_1 i
    obtain ⟨S2, q1, q2, q3⟩ := clearH_2_ok j m (i + 1) (setJ (setI S 18 i 0) 20 i 0) (by omega) (by omega)
    have hs := ((sm_I S 18 i 0).tr (sm_J (setI S 18 i 0) 20 i 0))
    refine ⟨S2, fun K => ?_, (hs.tr q2).mo (fun k q z => by omega), fun p h1 h2 => ?_⟩
    · rw [X2_clear_2, if_neg (by rw [show (12 : Int32) = nI 12 from rfl]; exact nI_ge (show i < 12 by omega) (by omega))]
      simp only [lt_e, rfs, ck_n (show i < 12 by omega) (show 12 < 2147483648 by omega), ix_n (show i < 2147483648 by omega), e1]
      exact q1 K
    · by_cases he : p = i
      · subst he
        refine ⟨?_, ?_⟩
        · rw [(q2 _ _ (fun z => by omega)).1, sJr, sI_s]
        · rw [(q2 _ _ (fun z => by omega)).2, sJ_s]
      · exact q3 p (by omega) h2
theorem sN_zero : ∀ k, sN (fun _ => 0) k = 0
  | 0 => rfl
  | k + 1 => by show sN (fun _ => 0) k + 0 = 0; rw [sN_zero k]
theorem op_anew (h : RelX S c) : Ok S c (fun S => X10_anew S 0) (fun S => X11_anew S 173) := by
  obtain ⟨n, kd, w, bg, g, mn, hR⟩ := h
  have hR0 := hR
  obtain ⟨⟨a1, a2, a3, a4, a5, a6⟩, ⟨b1', b2, b3, b4⟩, ⟨c1, c2, c3, c4⟩, d1, d2⟩ := hR0
  have hn := a3.1
  have nN := nT (show n < 2147483648 by omega)
  have has := has_ok a1.1 hn
  have ha0 := a1.1
  have cb := b1'.1
  obtain ⟨Sa, p1, p2, p3⟩ := clear_2_ok 12 FU 0 S (by omega) (by decide)
  rw [nI_0] at p1
  obtain ⟨Sb, r1, r2, r3⟩ := clearH_2_ok 12 FU 0 (setI Sa 1 3 0) (by omega) (by decide)
  rw [nI_0] at r1
  obtain ⟨Sc, u1, u2, u3⟩ := clear_30_ok 3 FU 0 Sb (by omega) (by decide)
  rw [nI_0] at u1
  have x1 := ((((((sm_I Sc 25 4 0).tr (sm_I _ 25 5 0)).tr (sm_J _ 25 6 1)).tr (sm_I _ 28 1 0)).tr (sm_I _ 28 2 0)).tr (sm_I _ 130 1 0)).tr (sm_I _ 130 2 0) |>.tr (sm_I _ 132 3 0)
  generalize hSd : setI (setI (setI (setI (setI (setJ (setI (setI Sc 25 4 0) 25 5 0) 25 6 1) 28 1 0) 28 2 0) 130 1 0) 130 2 0) 132 3 0 = Sd at x1
  have d1' : Sd.1 25 5 = 0 ∧ Sd.2 25 6 = 1 ∧ Sd.1 28 1 = 0 ∧ Sd.1 28 2 = 0 ∧ Sd.1 130 1 = 0 ∧ Sd.1 130 2 = 0 ∧ Sd.1 132 3 = 0 := by
    rw [← hSd]
    refine ⟨?_, ?_, ?_, ?_, ?_, ?_, ?_⟩ <;> simp [sI1, sJ2, sI2, sJ1]
  obtain ⟨Se, v1, v2, v3⟩ := anew_44_ok 8 FU 0 Sd (by omega) (by decide)
  rw [nI_0] at v1
  have x2 := (sm_I Se 0 13 0).tr (sm_I (setI Se 0 13 0) 0 14 0)
  have hsc := (((((p2.tr (sm_I Sa 1 3 0)).tr r2).tr u2).tr x1).tr v2).tr x2
  generalize hS1 : setI (setI Se 0 13 0) 0 14 0 = S1 at x2 hsc
  have q : CT S S1 := hsc.mo (by intro k j hk; omega)
  have d2' : S1.1 0 13 = 0 ∧ S1.1 0 14 = 0 := by rw [← hS1]; simp [sI1]
  obtain ⟨Ma, w1, w2, w3⟩ := anew_7_ok 180 FU 0 (setI S1 173 0 0) (by omega) (by decide)
  rw [nI_0] at w1
  obtain ⟨Mb, y1, y2, y3⟩ := anew_29_ok 15 FU 0 Ma (by omega) (by decide)
  rw [nI_0] at y1
  obtain ⟨Mc, z1, z2, z3⟩ := anew_50_ok 12 FU 0 Mb (by omega) (by decide)
  rw [nI_0] at z1
  have x3 := (((((((sm_I Mc 173 3 0).tr (sm_I _ 173 6 0)).tr (sm_J _ 173 8 1)).tr (sm_I _ 173 7 0)).tr (sm_I _ 173 11 0)).tr (sm_I _ 173 13 0)).tr (sm_I _ 173 14 0)) |>.tr (sm_I _ 173 18 0)
  generalize hMd : setI (setI (setI (setI (setI (setJ (setI (setI Mc 173 3 0) 173 6 0) 173 8 1) 173 7 0) 173 11 0) 173 13 0) 173 14 0) 173 18 0 = Md at x3
  have d3' : Md.1 173 3 = 0 ∧ Md.1 173 6 = 0 ∧ Md.2 173 8 = 1 ∧ Md.1 173 7 = 0 ∧ Md.1 173 13 = 0 ∧ Md.1 173 14 = 0 ∧ Md.1 173 18 = 0 := by
    rw [← hMd]
    refine ⟨?_, ?_, ?_, ?_, ?_, ?_, ?_⟩ <;> simp [sI1, sJ2, sI2, sJ1]
  obtain ⟨Me, o1, o2, o3⟩ := anew_111_ok 8 FU 0 Md (by omega) (by decide)
  rw [nI_0] at o1
  have hsm := (((((sm_I S1 173 0 0).tr w2).tr y2).tr z2).tr x3).tr o2 |>.tr (sm_I Me 173 30 0)
  have hs := hsc.tr hsm
  refine ⟨S1, setI Me 173 30 0, 0, ?_, ?_, ?_⟩
  · show X10_anew S 0 = _
    have e1 : X7_clear S 1 = some (setI Sa 1 3 0, ()) := by
      unfold X7_clear
      rw [p1]
      rfl
    have e2 : X2_clear (setI Sa 1 3 0) 17 = some (Sc, ()) := by
      unfold X2_clear
      rw [r1]
      rw [u1]
    simp only [X10_anew, rfs, e1, e2, bd_x, X0_clear, X3_clear, X1_clear, X6_clear, lt_x, hSd]
    rw [v1, hS1]
  · show X11_anew S1 173 = _
    unfold X11_anew
    rw [lt_e]
    rw [w1]
    rw [y1]
    rw [z1]
    simp only [lt_x, hMd]
    rw [o1]
  · have gc : ∀ k j, k < 173 → (setI Me 173 30 0).1 k j = S1.1 k j ∧ (setI Me 173 30 0).2 k j = S1.2 k j := fun k j hk => hsm k j (fun z => by omega)
    have v2x := v2.tr (show Sm (fun k j => k = 0) Se S1 from x2.mo (by intro k j hk; omega))
    have u2x := (u2.tr x1).tr v2x
    have x1x := x1.tr v2x
    have md : ∀ j, j ≠ 30 → (setI Me 173 30 0).1 173 j = Md.1 173 j ∧ (setI Me 173 30 0).2 173 j = Md.2 173 j := fun j hj => (o2.tr (sm_I Me 173 30 0)) 173 j (fun z => by omega)
    refine ⟨0, fun _ => 0, fun _ _ => 0, false, fun _ => 0, 0, ⟨⟨⟨?_, fun p hp => absurd hp (by omega), fun p e hp he => ?_, fun p hp => ?_⟩, ⟨?_, fun p hp => absurd hp (by omega), fun p e hp he => ?_⟩, ⟨by omega, fun p hp => absurd hp (by omega), fun p hp => by rw [sN_zero]; omega, fun _ _ => rfl⟩, fun p hp => by rw [sN_zero]; omega, fun z => absurd z (by decide), fun _ => rfl⟩, ⟨⟨?_, ?_, ?_, ?_⟩, ⟨fun p hp => absurd hp (by omega), fun p hp => absurd hp (by omega), fun p hp => absurd hp (by omega), fun d hd => ?_, fun e he => ?_, fun e he he2 => ?_⟩, fun _ p hp => ⟨?_, ?_⟩, ⟨by omega, ?_, ?_, ⟨1, by omega, ?_, ?_⟩, fun z => absurd z (by decide), fun z => absurd z (by decide)⟩⟩, ⟨RHist.none ?_ (sI_s _ _ _ _) ?_, ⟨0, by omega, ?_, ?_, ?_, fun i hi => absurd hi (by omega)⟩, fun s h8 => ⟨false, ?_, ?_, fun z => absurd z (by decide)⟩, ⟨0, by omega, ?_, ?_, fun z => absurd z (by omega), fun i p hi => absurd hi (by omega)⟩⟩, d1.gs hs ?_, d2.gs hs ?_⟩⟩
    · rw [(gc _ _ (by omega)).1, ((r2.tr u2x) 1 3 (fun z => by omega)).1, sI_s]; rfl
    · rw [(gc _ _ (by omega)).1, ((r2.tr u2x) (4 + p) e (fun z => by omega)).1, sI_n (by omega), (p3 p (by omega) hp).2 e he]; rfl
    · rw [(gc _ _ (by omega)).1, ((r2.tr u2x) 16 p (fun z => by omega)).1, sI_n (by omega), (p3 p (by omega) hp).1, sN_zero]; rfl
    · rw [(md 0 (by omega)).1, (x3 173 0 (fun z => by omega)).1, (z2 173 0 (fun z => by omega)).1, (y2 173 0 (fun z => by omega)).1, (w2 173 0 (fun z => by omega)).1, sI_s]; rfl
    · rw [sI_n (by omega), (o2 175 _ (fun z => by omega)).1, (x3 175 _ (fun z => by omega)).1, (z2 175 _ (fun z => by omega)).1, (y2 175 _ (fun z => by omega)).1, w3 (15 * p + e) (by omega) (by omega)]; rfl
    · rw [(gc _ _ (by omega)).1, d2'.1]; rfl
    · rw [(md 3 (by omega)).1, d3'.1]; rfl
    · rw [(gc _ _ (by omega)).1, d2'.2, (md 7 (by omega)).1, d3'.2.2.2.1]
    · rw [(hs 0 15 (fun z => by omega)).1, (hs 173 24 (fun z => by omega)).1]; exact b1'.2.2.2
    · rw [(gc _ _ (by omega)).2, (x1x 19 d (fun z => by omega)).2, u3 d (by omega) hd, Nat.zero_add, sIr, (o2 176 _ (fun z => by omega)).2, (x3 176 _ (fun z => by omega)).2, (z2 176 _ (fun z => by omega)).2, y3 (12 + d) (by omega) (by omega)]
    · rw [(gc _ _ (by omega)).2, (u2x 20 e (fun z => by omega)).2, (r3 e (by omega) he).2, Nat.zero_add, sIr, (o2 177 _ (fun z => by omega)).2, (x3 177 _ (fun z => by omega)).2, z3 e (by omega) he]
    · rw [Nat.zero_add, sIr, (o2 177 _ (fun z => by omega)).2, (x3 177 _ (fun z => by omega)).2, z3 e (by omega) he2]
    · rw [(gc _ _ (by omega)).1, (u2x 18 p (fun z => by omega)).1, (r3 p (by omega) hp).1]
    · rw [sIr, (o2 176 _ (fun z => by omega)).2, (x3 176 _ (fun z => by omega)).2, (z2 176 _ (fun z => by omega)).2, y3 p (by omega) (by omega)]
    · rw [(gc _ _ (by omega)).1, (v2x 25 5 (fun z => by omega)).1, d1'.1]; rfl
    · rw [(md 6 (by omega)).1, d3'.2.1]; rfl
    · rw [(gc _ _ (by omega)).2, (v2x 25 6 (fun z => by omega)).2, d1'.2.1]; rfl
    · rw [(md 8 (by omega)).2, d3'.2.2.1]; rfl
    · rw [(gc _ _ (by omega)).1, (v2x 28 2 (fun z => by omega)).1, d1'.2.2.2.1]
    · rw [(gc _ _ (by omega)).1, (v2x 28 1 (fun z => by omega)).1, d1'.2.2.1]
    · rw [(gc _ _ (by omega)).1, (v2x 130 1 (fun z => by omega)).1, d1'.2.2.2.2.1]; rfl
    · rw [(md 13 (by omega)).1, d3'.2.2.2.2.1]; rfl
    · rw [(gc _ _ (by omega)).1, (v2x 130 2 (fun z => by omega)).1, d1'.2.2.2.2.2.1, (md 14 (by omega)).1, d3'.2.2.2.2.2.1]
    · rw [(gc _ _ (by omega)).1, (x2 160 s (fun z => by omega)).1, v3 s (by omega) h8]; rfl
    · rw [sI_n (by omega), o3 s (by omega) h8]; rfl
    · rw [(gc _ _ (by omega)).1, (v2x 132 3 (fun z => by omega)).1, d1'.2.2.2.2.2.2]; rfl
    · rw [(md 18 (by omega)).1, d3'.2.2.2.2.2.2]; rfl
    · intro k j hk hq; omega
    · intro k j hk hq; omega
end
