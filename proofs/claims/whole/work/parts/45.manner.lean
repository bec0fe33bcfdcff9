/-! manner -/
def inx (v : Int32) : Nat := v.toInt.toNat
def onS (s : Nat → Bool) (x : Nat) : Nat → Bool := fun q => s q || decide (q = x)
def stM (x : Nat → Int32) (n : Nat) : Nat → Nat → (Nat → Bool) → (Nat → Bool)
  | 0, _, s => s
  | j + 1, i, s => stM x n j (i + 1) (if inN (x i) n then onS s (inx (x i)) else s)
def stC (x : Nat → Int32) (n : Nat) : Nat → Nat → (Nat → Bool) → Bool
  | 0, _, _ => true
  | j + 1, i, s => if inN (x i) n ∧ s (inx (x i)) = false then stC x n j (i + 1) (onS s (inx (x i))) else false
theorem cnt_onN {s : Nat → Bool} {x n : Nat} (hx : x < n) (h : s x = false) : cntB (onS s x) n 0 = cntB s n 0 + 1 := by
  have h1 := cnt_off (l := onS s x) (x := x) (j := n) (i := 0) (by omega) (by omega) (by unfold onS; simp)
  have e : lsO (onS s x) x = s := by
    funext q
    unfold lsO onS
    by_cases e : q = x
    · rw [e, h]; simp
    · simp [e]
  rw [e] at h1
  exact h1.symm
theorem onS_t {s : Nat → Bool} {x : Nat} (h : s x = true) : onS s x = s := by
  funext q
  unfold onS
  by_cases e : q = x
  · rw [e, h]; simp
  · simp [e]
theorem stM_le {x : Nat → Int32} {n : Nat} : ∀ (j i : Nat) (s : Nat → Bool), cntB (stM x n j i s) n 0 ≤ cntB s n 0 + j
  | 0, _, _ => by rw [stM]; omega
  | j + 1, i, s => by
    rw [stM]
    split
    · next h =>
      have ih := stM_le (x := x) (n := n) j (i + 1) (onS s (inx (x i)))
      cases hs : s (inx (x i)) with
      | true => rw [onS_t hs] at ih ⊢; omega
      | false =>
        rw [cnt_onN (by have := h.2; unfold inx; have := h.1; omega) hs] at ih
        omega
    · have ih := stM_le (x := x) (n := n) j (i + 1) s
      omega
theorem stC_cnt {x : Nat → Int32} {n : Nat} : ∀ (j i : Nat) (s : Nat → Bool), (stC x n j i s = true → cntB (stM x n j i s) n 0 = cntB s n 0 + j) ∧ (stC x n j i s = false → cntB (stM x n j i s) n 0 < cntB s n 0 + j)
  | 0, _, _ => ⟨fun _ => rfl, fun h => by cases h⟩
  | j + 1, i, s => by
    rw [stM, stC]
    by_cases h : inN (x i) n
    · rw [if_pos h]
      cases hs : s (inx (x i)) with
      | true =>
        rw [if_neg (fun z => by cases z.2), onS_t hs]
        have := stM_le (x := x) (n := n) j (i + 1) s
        exact ⟨fun z => Bool.noConfusion z, fun _ => by omega⟩
      | false =>
        rw [if_pos ⟨h, rfl⟩]
        have ih := stC_cnt (x := x) (n := n) j (i + 1) (onS s (inx (x i)))
        rw [cnt_onN (by have := h.2; unfold inx; have := h.1; omega) hs] at ih
        exact ⟨fun z => by have := ih.1 z; omega, fun z => by have := ih.2 z; omega⟩
    · rw [if_neg h, if_neg (fun z => h z.1)]
      have := stM_le (x := x) (n := n) j (i + 1) s
      exact ⟨fun z => Bool.noConfusion z, fun _ => by omega⟩
theorem cnt_all {P : Nat → Bool} : ∀ {j i : Nat}, (∀ d, i ≤ d → d < i + j → P d = true) → cntB P j i = j
  | 0, _, _ => rfl
  | j + 1, i, h => by
    rw [cntB, h i (Nat.le_refl _) (by omega), if_pos rfl, cnt_all (fun d a b => h d (by omega) (by omega))]
    omega
theorem cnt_full {P : Nat → Bool} : ∀ {j i : Nat}, cntB P j i = j → ∀ d, i ≤ d → d < i + j → P d = true
  | 0, _, _, d, h1, h2 => absurd h2 (by omega)
  | j + 1, i, h, d, h1, h2 => by
    rw [cntB] at h
    have h3 := cnt_le (P := P) (j := j) (i := i + 1)
    have h4 : P i = true := by
      cases hp : P i with
      | true => rfl
      | false => rw [hp, if_neg (by decide)] at h; omega
    by_cases e : d = i
    · rw [e]; exact h4
    · rw [h4, if_pos rfl] at h
      exact cnt_full (j := j) (i := i + 1) (by omega) d (by omega) (by omega)
theorem stM_lt {x : Nat → Int32} {n : Nat} : ∀ (j i : Nat) (s : Nat → Bool), (∀ b, s b = true → b < n) → ∀ b, stM x n j i s b = true → b < n
  | 0, _, _, h => h
  | j + 1, i, s, h => by
    rw [stM]
    refine stM_lt j (i + 1) _ ?_
    split
    · next h2 =>
      intro b hb
      unfold onS at hb
      rw [Bool.or_eq_true, decide_eq_true_eq] at hb
      rcases hb with hb | hb
      · exact h b hb
      · have := h2.2
        have := h2.1
        unfold inx at hb
        omega
    · exact h
theorem stM_ex {x : Nat → Int32} {n : Nat} : ∀ (j i : Nat) (s : Nat → Bool) (b : Nat), stM x n j i s b = true → s b = true ∨ ∃ d, i ≤ d ∧ d < i + j ∧ inx (x d) = b
  | 0, _, _, _, h => Or.inl h
  | j + 1, i, s, b, h => by
    rw [stM] at h
    rcases stM_ex j (i + 1) _ b h with h2 | ⟨d, h3, h4, h5⟩
    · split at h2
      · unfold onS at h2
        rw [Bool.or_eq_true, decide_eq_true_eq] at h2
        rcases h2 with h2 | h2
        · exact Or.inl h2
        · exact Or.inr ⟨i, by omega, by omega, h2.symm⟩
      · exact Or.inl h2
    · exact Or.inr ⟨d, by omega, by omega, h5⟩
theorem stC_in {x : Nat → Int32} {n : Nat} : ∀ (j i : Nat) (s : Nat → Bool), stC x n j i s = true → ∀ d, i ≤ d → d < i + j → inN (x d) n
  | 0, _, _, _, d, h1, h2 => absurd h2 (by omega)
  | j + 1, i, s, h, d, h1, h2 => by
    rw [stC] at h
    split at h
    · next h3 =>
      by_cases e : d = i
      · rw [e]; exact h3.1
      · exact stC_in j (i + 1) _ h d (by omega) (by omega)
    · cases h
section
variable {S : St} {c : Nat}
theorem order_20_ok {n q : Nat} {x : Nat → Int32} (hn : n ≤ 12) (hq : q ≤ 200) (h0 : S.1 170 1 = nI q) (hx : ∀ i, i < q → S.1 171 i = x i) : ∀ (j m i : Nat) (L : Int32) (s : Nat → Bool), i + j = q → j < m → (∀ b, b < 32 → bt L b = s b) → X5_isOrderOf_20 170 (nI n) (fun (S31 : St) (v32 : Int32) (v33 : Int32) => some (S31, (1 : Int32))) m S L (nI i) = some (S, bi (stC x n j i s))
  | 0, 0, _, _, _, _, h, _ => absurd h (by omega)
  | j + 1, 0, _, _, _, _, h, _ => absurd h (by omega)
  | 0, m + 1, i, L, s, hij, _, hL => by
    rw [show i = q by omega, X5_isOrderOf_20, if_pos (by rw [h0]; exact Int32.le_refl _)]
    rfl
  | j + 1, m + 1, i, L, s, hij, hm, hL => by
    have e1 : nI i + (1 : Int32) = nI (i + 1) := nI_1 i
    rw [X5_isOrderOf_20, if_neg (by rw [h0]; exact nI_ge (by omega) (by omega))]
    simp only [rfs, lt_e, e1, ck_n (show i < 200 by omega) (show 200 < 2147483648 by omega), ix_n (show i < 2147483648 by omega), hx i (by omega), stC]
    by_cases h : inN (x i) n
    · obtain ⟨ep, lp⟩ := inN_is h hn
      have ei : inx (x i) = (x i).toInt.toNat := rfl
      rw [ei]
      generalize (x i).toInt.toNat = p at ep lp ⊢
      rw [ep] at h ⊢
      rw [if_neg (nI_pos (by omega)), if_neg (nI_ge lp (by omega))]
      simp only [b_test (show p < 32 by omega), hL p (by omega)]
      cases hs : s p with
      | true => rw [if_neg (by decide), if_neg (fun z => by cases z.2)]; rfl
      | false =>
        rw [if_pos rfl, if_pos ⟨h, rfl⟩]
        exact order_20_ok hn hq h0 hx j m (i + 1) _ (onS s p) (by omega) (by omega) (fun b hb => by rw [b_on (show p < 32 by omega) b hb, hL b hb]; rfl)
    · rw [if_neg (show ¬ (inN (x i) n ∧ s (inx (x i)) = false) from fun z => h z.1)]
      by_cases z : x i < 0
      · rw [if_pos z]; rfl
      · rw [if_neg z, if_pos (by rw [le32, nT (by omega)]; rw [lt32, lits.1] at z; unfold inN at h; omega)]; rfl
theorem manner_48_ok {n q : Nat} {x : Nat → Int32} (hn : n ≤ 12) (hq : q ≤ 200) (hz : S.1 173 0 = nI n) (h0 : S.1 173 23 = nI q) (hx : ∀ i, i < q → S.1 187 i = x i) (v1 v2 : Int32) (K : St → Int32 → Int32 → Option (St × Int32)) : ∀ (j m i : Nat) (L : Int32) (s : Nat → Bool), i + j = q → j < m → (∀ b, b < 32 → bt L b = s b) → ∃ L2, X11_manner_48 173 v1 v2 K m S L (nI i) = K S L2 (nI q) ∧ ∀ b, b < 32 → bt L2 b = stM x n j i s b
  | 0, 0, _, _, _, _, h, _ => absurd h (by omega)
  | j + 1, 0, _, _, _, _, h, _ => absurd h (by omega)
  | 0, m + 1, i, L, s, hij, _, hL => by
    refine ⟨L, ?_, hL⟩
    rw [show i = q by omega, X11_manner_48, if_pos (by rw [h0]; exact Int32.le_refl _)]
  | j + 1, m + 1, i, L, s, hij, hm, hL => by
    have e1 : nI i + (1 : Int32) = nI (i + 1) := nI_1 i
    rw [X11_manner_48, if_neg (by rw [h0]; exact nI_ge (by omega) (by omega)), ck_n (show i < 200 by omega) (by omega), isPlace_ok hz hn, bd_s]
    simp only [rfm, lt_e, ite_b1z, e1, ck_n (show i < 200 by omega) (show 200 < 2147483648 by omega), ix_n (show i < 2147483648 by omega), hx i (by omega), stM]
    by_cases h : inN (x i) n
    · rw [if_pos h, if_pos h]
      obtain ⟨ep, lp⟩ := inN_is h hn
      have ei : inx (x i) = (x i).toInt.toNat := rfl
      rw [ei]
      generalize (x i).toInt.toNat = p at ep lp ⊢
      rw [ep]
      exact manner_48_ok hn hq hz h0 hx v1 v2 K j m (i + 1) _ (onS s p) (by omega) (by omega) (fun b hb => by rw [b_on (show p < 32 by omega) b hb, hL b hb]; rfl)
    · rw [if_neg h, if_neg h]
      exact manner_48_ok hn hq hz h0 hx v1 v2 K j m (i + 1) L s (by omega) (by omega) hL
theorem man_fin {n mn k : Nat} {kd : Nat → Nat} {w : Nat → Nat → Nat} {g : Nat → Nat} {Sf : St} (hR : Rel S c n kd w true g mn) (hk : k < 5) (hs : Sm (fun k j => (k = 25 ∧ 4 ≤ j) ∨ k = 26 ∨ (k = 28 ∧ (j = 1 ∨ j = 2)) ∨ (k = 170 ∧ j = 1) ∨ (k = 173 ∧ (j = 6 ∨ j = 8 ∨ j = 11 ∨ j = 23 ∨ j = 30)) ∨ k = 178) S Sf) (h1 : Sf.1 25 5 = nI k) (h2 : Sf.1 173 6 = nI k) (h3 : ∃ sd, sd < 2147483648 ∧ Sf.2 25 6 = lN sd ∧ Sf.2 173 8 = lN sd) (h4 : k = 2 → ∃ od : Nat → Nat, (∀ i, i < n → Sf.1 26 i = nI (od i) ∧ Sf.1 178 i = nI (od i) ∧ od i < n) ∧ ∀ p, p < n → ∃ i, i < n ∧ od i = p) (h5 : k = 4 → Sf.1 25 4 = 0 ∧ Sf.1 173 11 = 0) (h6 : Sf.1 28 1 = 0) (h7 : Sf.1 28 2 = 0) (h8 : Sf.1 173 30 = 0) (h9 : RQ Sf) : RelX Sf (c + 1) := by
  refine (Rel.re hR hs (by intro k j hk hq; omega) (by intro k j hk hq; omega) (fun z => absurd z (by decide)) (Or.inl (by intro k j hk hq; omega)) (Or.inl ⟨rfl, by intro k j hk hq; omega⟩) (Or.inl (by intro k j hk hq; omega)) (Or.inr (⟨hk, h1, h2, h3, h4, fun z => ?_⟩ : RCh Sf n k)) (Or.inr (RHist.none h7 h8 h6)) (Or.inl (by intro k j hk hq; omega)) (Or.inl (by intro k j hk hq; omega)) (Or.inl (by intro k j hk hq; omega)) (Or.inl (by intro k j hk hq; omega)) (Or.inr h9)).x
  exact ⟨0, fun _ => 0, by omega, (h5 z).1, (h5 z).2, fun i hi => absurd hi (by omega), fun i j hi => absurd hi (by omega)⟩
theorem op_manner (h : RelX S c) (u v : Int32) : Ok S c (fun S => X10_manner S 0 u v) (fun S => X11_manner S 173 u v) := by
  obtain ⟨n, kd, w, bg, g, mn, hR⟩ := h
  have hR0 := hR
  obtain ⟨⟨a1, a2, a3, a4, a5, a6⟩, ⟨b1', b2, b3, b4⟩, ⟨c1, c2, c3, c4⟩, d1, d2⟩ := hR0
  have hn := a3.1
  have nN := nT (show n < 2147483648 by omega)
  have has := has_ok a1.1 hn
  have ha0 := a1.1
  have cb := b1'.1
  by_cases q1 : inN u 5
  · obtain ⟨k, hk, rfl⟩ := inN_of q1 (by omega)
    have kN := nT (show k < 2147483648 by omega)
    have k0 : ¬ nI k < 0 := nI_pos (by omega)
    have k4 : ¬ (4 : Int32) < nI k := by simp only [lt32, lits, kN]; omega
    have e2 : (nI k = 2) ↔ k = 2 := by rw [show (2 : Int32) = nI 2 from rfl, nI_eq (by omega) (by omega)]
    have e3 : (nI k = 3) ↔ k = 3 := by rw [show (3 : Int32) = nI 3 from rfl, nI_eq (by omega) (by omega)]
    have e4 : (nI k = 4) ↔ k = 4 := by rw [show (4 : Int32) = nI 4 from rfl, nI_eq (by omega) (by omega)]
    have mi : (0 ≤ (k : Int) ∧ (k : Int) ≤ 4) := by omega
    by_cases q2 : k = 3 ∧ v.toInt < 0
    · obtain ⟨q2, q3⟩ := q2
      have q4 : ¬ 0 ≤ v := by rw [le32, lits.1]; omega
      refine Ok.fd hR (v := -1) ?_ ?_
      · show X10_manner S 0 (nI k) v = _
        simp only [X10_manner, lt_e, if_neg k0, if_neg k4, if_neg (show ¬ ¬ nI k = 3 from fun z => z (e3.mpr q2)), if_neg q4, found_c, bd_s]
      · intro S1 q
        show X11_manner S1 173 (nI k) v = _
        simp only [X11_manner, in_ok, bd_s, lt_e, ite_b1z, lits, kN, if_pos mi, if_neg (show ¬ ¬ nI k = 3 from fun z => z (e3.mpr q2)), if_neg q4, found_m]
    · have q5 : ¬ k = 3 ∨ 0 ≤ v := by
        rw [le32, lits.1]
        omega
      cases bg with
      | false =>
        refine Ok.fd hR (v := -8) ?_ ?_
        · show X10_manner S 0 (nI k) v = _
          simp only [X10_manner, lt_e, if_neg k0, if_neg k4, e3, cb, bi_f, not_true, if_false, found_c, bd_s]
          rcases q5 with z | z
          · rw [if_pos z]
          · rw [if_pos z, ite_self]
        · intro S1 q
          have m2 := a2.gs q (by intro k j hk hq; omega)
          have isp := isPlace_ok m2.1 hn
          have mz := m2.1
          have mb : S1.1 173 3 = bi _ := (q.i (by omega)).trans b1'.2.1
          show X11_manner S1 173 (nI k) v = _
          simp only [X11_manner, in_ok, bd_s, lt_e, ite_b1z, lits, kN, if_pos mi, e3, mb, bi_f, not_true, if_false, found_m]
          rcases q5 with z | z
          · rw [if_pos z]
          · rw [if_pos z, ite_self]
      | true =>
        obtain ⟨w1, w2, w3, ⟨sd, w4, w5, w6⟩, w7, w8⟩ := b4
        obtain ⟨r, f1, f2, f3, f4⟩ := d2
        by_cases k2 : k = 2
        · have k2n : ¬ ¬ nI k = 2 := fun z => z (e2.mpr k2)
          have k3' : ¬ nI k = 3 := fun z => by have := e3.mp z; omega
          have k4' : ¬ nI k = 4 := fun z => by have := e4.mp z; omega
          have hord := order_20_ok (S := S) (x := S.1 171) hn f1 f2 (fun _ _ => rfl) r FU 0 0 (fun _ => false) (by omega) (by unfold FU; omega) (fun b _ => b_0 b)
          rw [nI_0] at hord
          have cO : X5_isOrderOf S 170 (nI n) = some (S, bi (decide (r = n) && stC (S.1 171) n r 0 (fun _ => false))) := by
            unfold X5_isOrderOf
            simp only [lt_x, f2, nI_eq (show r < 2 ^ 31 by omega) (show n < 2 ^ 31 by omega)]
            rw [if_pos (show nI n ≤ 12 by simp only [le32, lits, nN]; omega), hord]
            by_cases z : r = n
            · rw [if_neg (fun y => y z), decide_eq_true z, Bool.true_and]
            · rw [if_pos z, decide_eq_false z, Bool.false_and]; rfl
          have cE : X10_manner S 0 (nI k) v = if (bi (decide (r = n) && stC (S.1 171) n r 0 (fun _ => false))) = 0 then some (setI S 0 15 (S.1 0 15 + 1), -1) else some (setI (setI (setI (setI (setI (setR S 26 (va_cpy (S.1 171) (S.1 26) 0 0 12)) 170 1 0) 25 4 0) 25 5 (nI k)) 28 1 0) 28 2 0, nI mn) := by
            simp only [X10_manner, X0_takeOrder, X5_clear, X3_clear, lt_e, if_neg k0, if_neg k4, if_pos k3', if_neg k2n, not_false_iff, if_true, cb, bi_t, i10, rfs, ha0, cO, bd_s, gu_t (show cpOk 0 0 12 200 12 by decide), ix0, ix12, w2, found_c]
            by_cases z : bi (decide (r = n) && stC (S.1 171) n r 0 (fun _ => false)) = 0
            · rw [if_neg (fun y => y z), if_pos z]
            · rw [if_pos z, if_neg z]
          have mE : ∀ S1, CT S S1 → ∃ Sa, Sm (fun k _ => k = 178) S1 Sa ∧ (∀ i, i < n → Sa.1 178 i = S1.1 187 i) ∧ X11_manner S1 173 (nI k) v = if (decide (r = n) && stC (S.1 171) n r 0 (fun _ => false)) = true then some (setI (setI (setI Sa 173 23 0) 173 6 (nI k)) 173 30 0, nI mn) else some (setI S1 173 24 (S1.1 173 24 + 1), -1) := by
            intro S1 q
            have m2 := a2.gs q (by intro k j hk hq; omega)
            have isp := isPlace_ok m2.1 hn
            have mz := m2.1
            have mb : S1.1 173 3 = bi _ := (q.i (by omega)).trans b1'.2.1
            have hxm : ∀ i, i < r → S1.1 187 i = S.1 171 i := fun i hi => by rw [q.i (by omega), f4 i hi]
            have z23 : S1.1 173 23 = nI r := (q.i (by omega)).trans f3
            obtain ⟨Sa, p1, p2, p3⟩ := manner_121_ok hn (nI k) v n FU 0 S1 (by omega) (by unfold FU; omega) mz
            rw [nI_0] at p1
            have pz : Sa.1 173 6 = nI mn := by rw [(p2 _ _ (fun z => by omega)).1, q.i (by omega), w3]
            refine ⟨Sa, p2.mo (by intro k j hk; omega), fun i hi => p3 i (by omega) hi, ?_⟩
            obtain ⟨L2, l1, l2⟩ := manner_48_ok hn f1 mz z23 hxm (nI k) v (fun (S49 : St) (v50 : Int32) (v51 : Int32) =>
              lt (fun (S53 : St) => bd (X11_found S53 173 (-1 : Int32)) fun S54 v55 => some (S54, v55)) fun (j52 : St → Option (St × Int32)) =>
              if ¬ (S49.1 173 23) = (S49.1 173 0) then (j52 S49) else (
                if v50 = (((1 : Int32) <<< ((S49.1 173 0) &&& 31)) - (1 : Int32)) then (
                  X11_manner_121 173 (nI k) v (fun (S60 : St) (v61 : Int32) =>
                    lt (setI S60 173 23 (0 : Int32)) fun S62 =>
                    lt (S62.1 173 6) fun v31 =>
                    lt (setI S62 173 6 (nI k)) fun S32 =>
                    lt (setI S32 173 30 (0 : Int32)) fun S37 =>
                    some (S37, v31)) FU S49 (0 : Int32))
                else (j52 S49))) r FU 0 0 (fun _ => false) (by omega) (by unfold FU; omega) (fun b _ => b_0 b)
            rw [nI_0] at l1
            have e9 : X11_manner S1 173 (nI k) v = X11_manner_48 173 (nI k) v (fun (S49 : St) (v50 : Int32) (v51 : Int32) =>
              lt (fun (S53 : St) => bd (X11_found S53 173 (-1 : Int32)) fun S54 v55 => some (S54, v55)) fun (j52 : St → Option (St × Int32)) =>
              if ¬ (S49.1 173 23) = (S49.1 173 0) then (j52 S49) else (
                if v50 = (((1 : Int32) <<< ((S49.1 173 0) &&& 31)) - (1 : Int32)) then (
                  X11_manner_121 173 (nI k) v (fun (S60 : St) (v61 : Int32) =>
                    lt (setI S60 173 23 (0 : Int32)) fun S62 =>
                    lt (S62.1 173 6) fun v31 =>
                    lt (setI S62 173 6 (nI k)) fun S32 =>
                    lt (setI S32 173 30 (0 : Int32)) fun S37 =>
                    some (S37, v31)) FU S49 (0 : Int32))
                else (j52 S49))) FU S1 0 0 := by
              unfold X11_manner
              rw [in_ok, bd_s]
              simp only [lt_x, ite_b1z, lits, kN, if_pos mi, mb, bi_t, i10, not_false_iff, if_true, if_pos k3', if_neg k2n, if_pos k4']
            rw [e9, l1]
            simp only [lt_x, z23, mz, all_is n (show n < 13 by omega), found_m, bd_x, nI_eq (show r < 2 ^ 31 by omega) (show n < 2 ^ 31 by omega)]
            by_cases z : r = n
            · rw [if_neg (fun y => y z), decide_eq_true z, Bool.true_and]
              have hc := stC_cnt (x := S.1 171) (n := n) r 0 (fun _ => false)
              rw [cnt_none (P := fun _ => false) (fun _ _ _ => rfl), Nat.zero_add] at hc
              have hlt := stM_lt (x := S.1 171) (n := n) r 0 (fun _ => false) (fun b z => by cases z)
              cases hC : stC (S.1 171) n r 0 (fun _ => false) with
              | true =>
                have hfull := cnt_full (j := n) (i := 0) (by rw [hc.1 hC, z])
                have eL : L2 = allB n := b_ext (fun b hb => by
                  rw [l2 b hb, b_all n (by omega) b hb]
                  by_cases y : b < n
                  · rw [decide_eq_true y]; exact hfull b (by omega) (by omega)
                  · rw [decide_eq_false y]
                    cases hm : stM (S.1 171) n r 0 (fun _ => false) b with
                    | false => rfl
                    | true => exact absurd (hlt b hm) y)
                rw [if_pos eL, if_pos rfl, p1]
                simp only [lt_e, sI_n (show ¬ (173 = 173 ∧ 6 = 23) by omega), pz]
              | false =>
                have hlt2 := hc.2 hC
                rw [if_neg (fun y => ?_), if_neg (by decide)]
                have hall := cnt_all (P := stM (S.1 171) n r 0 (fun _ => false)) (j := n) (i := 0) (fun d _ h2 => by
                  rw [← l2 d (by omega), y, b_all n (by omega) d (by omega)]
                  exact decide_eq_true (by omega))
                omega
            · rw [if_pos z, decide_eq_false z, Bool.false_and, if_neg (by decide)]
          cases hC : (decide (r = n) && stC (S.1 171) n r 0 (fun _ => false)) with
          | false =>
            rw [hC] at cE
            refine Ok.fd hR (v := -1) ?_ (fun S1 q => ?_)
            · show X10_manner S 0 (nI k) v = _
              rw [cE]; rfl
            · obtain ⟨Sa, -, -, m3⟩ := mE S1 q
              show X11_manner S1 173 (nI k) v = _
              rw [m3, hC]; rfl
          | true =>
            rw [hC] at cE
            have hs1 := ((((sm_R S 26 (va_cpy (S.1 171) (S.1 26) 0 0 12)).tr (sm_I _ 170 1 0)).tr (sm_I _ 25 4 0)).tr (sm_I _ 25 5 (nI k))).tr (sm_I _ 28 1 0) |>.tr (sm_I _ 28 2 0)
            have v26 : ∀ i, i < 12 → (setI (setI (setI (setI (setI (setR S 26 (va_cpy (S.1 171) (S.1 26) 0 0 12)) 170 1 0) 25 4 0) 25 5 (nI k)) 28 1 0) 28 2 0).1 26 i = S.1 171 i := fun i hi => by
              rw [sI_n (by omega), sI_n (by omega), sI_n (by omega), sI_n (by omega), sI_n (by omega), sR_s, cpy0 hi]
            have v25 : (setI (setI (setI (setI (setI (setR S 26 (va_cpy (S.1 171) (S.1 26) 0 0 12)) 170 1 0) 25 4 0) 25 5 (nI k)) 28 1 0) 28 2 0).1 25 5 = nI k ∧ (setI (setI (setI (setI (setI (setR S 26 (va_cpy (S.1 171) (S.1 26) 0 0 12)) 170 1 0) 25 4 0) 25 5 (nI k)) 28 1 0) 28 2 0).1 28 1 = 0 ∧ (setI (setI (setI (setI (setI (setR S 26 (va_cpy (S.1 171) (S.1 26) 0 0 12)) 170 1 0) 25 4 0) 25 5 (nI k)) 28 1 0) 28 2 0).1 28 2 = 0 ∧ (setI (setI (setI (setI (setI (setR S 26 (va_cpy (S.1 171) (S.1 26) 0 0 12)) 170 1 0) 25 4 0) 25 5 (nI k)) 28 1 0) 28 2 0).1 170 1 = 0 := by
              refine ⟨?_, ?_, ?_, ?_⟩
              · rw [sI_n (by omega), sI_n (by omega), sI_s]
              · rw [sI_n (by omega), sI_s]
              · rw [sI_s]
              · rw [sI_n (by omega), sI_n (by omega), sI_n (by omega), sI_n (by omega), sI_s]
            generalize setI (setI (setI (setI (setI (setR S 26 (va_cpy (S.1 171) (S.1 26) 0 0 12)) 170 1 0) 25 4 0) 25 5 (nI k)) 28 1 0) 28 2 0 = S1 at hs1 v26 v25 cE
            have q : CT S S1 := hs1.mo (by intro k j hk; omega)
            obtain ⟨Sa, m1, m2, m3⟩ := mE S1 q
            rw [hC, if_pos rfl] at m3
            rw [Bool.and_eq_true, decide_eq_true_eq] at hC
            obtain ⟨hrn, hC⟩ := hC
            have hs2 := ((m1.tr (sm_I Sa 173 23 0)).tr (sm_I (setI Sa 173 23 0) 173 6 (nI k))).tr (sm_I (setI (setI Sa 173 23 0) 173 6 (nI k)) 173 30 0)
            have hss := hs1.tr hs2
            have hin := stC_in r 0 _ hC
            refine ⟨S1, setI (setI (setI Sa 173 23 0) 173 6 (nI k)) 173 30 0, nI mn, cE, m3, ?_⟩
            refine man_fin hR hk (hss.mo (by intro k j hk; omega)) ?_ ?_ ⟨sd, w4, ?_, ?_⟩ (fun _ => ⟨fun i => inx (S.1 171 i), fun i hi => ?_, fun p hp => ?_⟩) (fun z => absurd z (by omega)) ?_ ?_ (sI_s _ _ _ _) ⟨0, by omega, ?_, ?_, fun i hi => absurd hi (by omega)⟩
            · rw [(hs2 _ _ (fun z => by omega)).1]; exact v25.1
            · rw [sI_n (by omega), sI_s]
            · rw [(hss _ _ (fun z => by omega)).2]; exact w5
            · rw [(hss _ _ (fun z => by omega)).2]; exact w6
            · obtain ⟨y1, y2⟩ := inN_is (hin i (by omega) (by omega)) hn
              refine ⟨?_, ?_, y2⟩
              · rw [(hs2 _ _ (fun z => by omega)).1, v26 i (by omega)]; exact y1
              · rw [sI_n (by omega), sI_n (by omega), sI_n (by omega), m2 i hi, q.i (by omega), ← f4 i (by omega)]; exact y1
            · have hc := (stC_cnt (x := S.1 171) (n := n) r 0 (fun _ => false)).1 hC
              rw [cnt_none (P := fun _ => false) (fun _ _ _ => rfl), Nat.zero_add] at hc
              have hfull := cnt_full (j := n) (i := 0) (by rw [hc, hrn]) p (by omega) (by omega)
              rcases stM_ex r 0 _ p hfull with y | ⟨d, y1, y2, y3⟩
              · cases y
              · exact ⟨d, by omega, y3⟩
            · rw [(hs2 _ _ (fun z => by omega)).1]; exact v25.2.1
            · rw [(hs2 _ _ (fun z => by omega)).1]; exact v25.2.2.1
            · rw [(hs2 _ _ (fun z => by omega)).1]; exact v25.2.2.2
            · rw [sI_n (by omega), sI_n (by omega), sI_s]; rfl
        · have k2' : ¬ nI k = 2 := fun z => k2 (e2.mp z)
          have hq : RQ S := ⟨r, f1, f2, f3, f4⟩
          by_cases k3 : k = 3
          · have v0 : 0 ≤ v := q5.resolve_left (fun z => z k3)
            have hv : ∃ b, b < 2147483648 ∧ Int32.toInt64 v = lN b := by
              obtain ⟨b, hb, rfl⟩ := nI_of (x := v) (by rw [lt32]; rw [le32] at v0; omega)
              exact ⟨b, by omega, nI_l hb⟩
            obtain ⟨b, hb, eb⟩ := hv
            have hs1 := (((((sm_J S 25 6 (lN b)).tr (sm_I _ 25 4 0)).tr (sm_I _ 25 5 (nI k))).tr (sm_I _ 28 1 0)).tr (sm_I _ 28 2 0))
            have q : CT S (setI (setI (setI (setI (setJ S 25 6 (lN b)) 25 4 0) 25 5 (nI k)) 28 1 0) 28 2 0) := hs1.mo (by intro k j hk; omega)
            have cE : X10_manner S 0 (nI k) v = some (setI (setI (setI (setI (setJ S 25 6 (lN b)) 25 4 0) 25 5 (nI k)) 28 1 0) 28 2 0, nI mn) := by
              simp only [X10_manner, X3_clear, lt_e, if_neg k0, if_neg k4, if_neg (show ¬ ¬ nI k = 3 from fun z => z (e3.mpr k3)), if_pos k2', if_pos v0, cb, bi_t, i10, not_false_iff, if_true, rfs, w2, eb, bd_s]
            have v25 : (setI (setI (setI (setI (setJ S 25 6 (lN b)) 25 4 0) 25 5 (nI k)) 28 1 0) 28 2 0).1 25 5 = nI k ∧ (setI (setI (setI (setI (setJ S 25 6 (lN b)) 25 4 0) 25 5 (nI k)) 28 1 0) 28 2 0).1 28 1 = 0 ∧ (setI (setI (setI (setI (setJ S 25 6 (lN b)) 25 4 0) 25 5 (nI k)) 28 1 0) 28 2 0).1 28 2 = 0 ∧ (setI (setI (setI (setI (setJ S 25 6 (lN b)) 25 4 0) 25 5 (nI k)) 28 1 0) 28 2 0).2 25 6 = lN b := by
              refine ⟨?_, ?_, ?_, ?_⟩
              · rw [sI_n (by omega), sI_n (by omega), sI_s]
              · rw [sI_n (by omega), sI_s]
              · rw [sI_s]
              · rw [sIr, sIr, sIr, sIr, sJ_s]
            generalize setI (setI (setI (setI (setJ S 25 6 (lN b)) 25 4 0) 25 5 (nI k)) 28 1 0) 28 2 0 = S1 at hs1 q cE v25
            have hs2 := ((sm_I S1 173 6 (nI k)).tr (sm_J (setI S1 173 6 (nI k)) 173 8 (lN b))).tr (sm_I (setJ (setI S1 173 6 (nI k)) 173 8 (lN b)) 173 30 0)
            have hss := hs1.tr hs2
            refine ⟨S1, setI (setJ (setI S1 173 6 (nI k)) 173 8 (lN b)) 173 30 0, nI mn, cE, ?_, man_fin hR hk (hss.mo (by intro k j hk; omega)) ?_ ?_ ⟨b, hb, ?_, ?_⟩ (fun z => absurd z k2) (fun z => absurd z (by omega)) ?_ ?_ (sI_s _ _ _ _) (hq.gs hss (by intro k j hk hq; omega))⟩
            · show X11_manner S1 173 (nI k) v = _
              have m2 := a2.gs q (by intro k j hk hq; omega)
              have isp := isPlace_ok m2.1 hn
              have mz := m2.1
              have mb : S1.1 173 3 = bi _ := (q.i (by omega)).trans b1'.2.1
              have z6 : S1.1 173 6 = nI mn := (q.i (by omega)).trans w3
              simp only [X11_manner, in_ok, bd_s, lt_e, ite_b1z, lits, kN, if_pos mi, mb, bi_t, i10, if_neg (show ¬ ¬ nI k = 3 from fun z => z (e3.mpr k3)), if_pos k2', if_pos (show ¬ nI k = 4 from fun z => by have := e4.mp z; omega), not_false_iff, if_true, if_pos v0, z6, eb]
            · rw [(hs2 _ _ (fun z => by omega)).1]; exact v25.1
            · rw [sI_n (by omega), sJr, sI_s]
            · rw [(hs2 _ _ (fun z => by omega)).2]; exact v25.2.2.2
            · rw [sIr, sJ_s]
            · rw [(hs2 _ _ (fun z => by omega)).1]; exact v25.2.1
            · rw [(hs2 _ _ (fun z => by omega)).1]; exact v25.2.2.1
          · have hs1 := ((((sm_I S 25 4 0).tr (sm_I _ 25 5 (nI k))).tr (sm_I _ 28 1 0)).tr (sm_I _ 28 2 0))
            have q : CT S (setI (setI (setI (setI S 25 4 0) 25 5 (nI k)) 28 1 0) 28 2 0) := hs1.mo (by intro k j hk; omega)
            have k3' : ¬ nI k = 3 := fun z => k3 (e3.mp z)
            have cE : X10_manner S 0 (nI k) v = some (setI (setI (setI (setI S 25 4 0) 25 5 (nI k)) 28 1 0) 28 2 0, nI mn) := by
              simp only [X10_manner, X3_clear, lt_e, if_neg k0, if_neg k4, if_pos k3', if_pos k2', cb, bi_t, i10, not_false_iff, if_true, rfs, w2, bd_s]
            have v25 : (setI (setI (setI (setI S 25 4 0) 25 5 (nI k)) 28 1 0) 28 2 0).1 25 5 = nI k ∧ (setI (setI (setI (setI S 25 4 0) 25 5 (nI k)) 28 1 0) 28 2 0).1 28 1 = 0 ∧ (setI (setI (setI (setI S 25 4 0) 25 5 (nI k)) 28 1 0) 28 2 0).1 28 2 = 0 ∧ (setI (setI (setI (setI S 25 4 0) 25 5 (nI k)) 28 1 0) 28 2 0).1 25 4 = 0 := by
              refine ⟨?_, ?_, ?_, ?_⟩
              · rw [sI_n (by omega), sI_n (by omega), sI_s]
              · rw [sI_n (by omega), sI_s]
              · rw [sI_s]
              · rw [sI_n (by omega), sI_n (by omega), sI_n (by omega), sI_s]
            generalize setI (setI (setI (setI S 25 4 0) 25 5 (nI k)) 28 1 0) 28 2 0 = S1 at hs1 q cE v25
            by_cases k5 : k = 4
            · have hs2 := ((sm_I S1 173 6 (nI k)).tr (sm_I (setI S1 173 6 (nI k)) 173 11 0)).tr (sm_I (setI (setI S1 173 6 (nI k)) 173 11 0) 173 30 0)
              have hss := hs1.tr hs2
              refine ⟨S1, setI (setI (setI S1 173 6 (nI k)) 173 11 0) 173 30 0, nI mn, cE, ?_, man_fin hR hk (hss.mo (by intro k j hk; omega)) ?_ ?_ ⟨sd, w4, ?_, ?_⟩ (fun z => absurd z k2) (fun _ => ⟨?_, ?_⟩) ?_ ?_ (sI_s _ _ _ _) (hq.gs hss (by intro k j hk hq; omega))⟩
              · show X11_manner S1 173 (nI k) v = _
                have m2 := a2.gs q (by intro k j hk hq; omega)
                have isp := isPlace_ok m2.1 hn
                have mz := m2.1
                have mb : S1.1 173 3 = bi _ := (q.i (by omega)).trans b1'.2.1
                have z6 : S1.1 173 6 = nI mn := (q.i (by omega)).trans w3
                have k5' : ¬ ¬ nI k = 4 := fun z => z (e4.mpr k5)
                simp only [X11_manner, in_ok, bd_s, lt_e, ite_b1z, lits, kN, if_pos mi, mb, bi_t, i10, if_pos k3', if_pos k2', if_neg k5', not_false_iff, if_true, z6]
              · rw [(hs2 _ _ (fun z => by omega)).1]; exact v25.1
              · rw [sI_n (by omega), sI_n (by omega), sI_s]
              · rw [(hss _ _ (fun z => by omega)).2]; exact w5
              · rw [(hss _ _ (fun z => by omega)).2]; exact w6
              · rw [(hs2 _ _ (fun z => by omega)).1]; exact v25.2.2.2
              · rw [sI_n (by omega), sI_s]
              · rw [(hs2 _ _ (fun z => by omega)).1]; exact v25.2.1
              · rw [(hs2 _ _ (fun z => by omega)).1]; exact v25.2.2.1
            · have hs2 := ((sm_I S1 173 6 (nI k))).tr (sm_I (setI S1 173 6 (nI k)) 173 30 0)
              have hss := hs1.tr hs2
              refine ⟨S1, setI (setI S1 173 6 (nI k)) 173 30 0, nI mn, cE, ?_, man_fin hR hk (hss.mo (by intro k j hk; omega)) ?_ ?_ ⟨sd, w4, ?_, ?_⟩ (fun z => absurd z k2) (fun z => absurd z k5) ?_ ?_ (sI_s _ _ _ _) (hq.gs hss (by intro k j hk hq; omega))⟩
              · show X11_manner S1 173 (nI k) v = _
                have m2 := a2.gs q (by intro k j hk hq; omega)
                have isp := isPlace_ok m2.1 hn
                have mz := m2.1
                have mb : S1.1 173 3 = bi _ := (q.i (by omega)).trans b1'.2.1
                have z6 : S1.1 173 6 = nI mn := (q.i (by omega)).trans w3
                have k5' : ¬ nI k = 4 := fun z => k5 (e4.mp z)
                simp only [X11_manner, in_ok, bd_s, lt_e, ite_b1z, lits, kN, if_pos mi, mb, bi_t, i10, if_pos k3', if_pos k2', if_pos k5', not_false_iff, if_true, z6]
              · rw [(hs2 _ _ (fun z => by omega)).1]; exact v25.1
              · rw [sI_n (by omega), sI_s]
              · rw [(hss _ _ (fun z => by omega)).2]; exact w5
              · rw [(hss _ _ (fun z => by omega)).2]; exact w6
              · rw [(hs2 _ _ (fun z => by omega)).1]; exact v25.2.1
              · rw [(hs2 _ _ (fun z => by omega)).1]; exact v25.2.2.1
  · refine Ok.fd hR (v := -1) ?_ ?_
    · show X10_manner S 0 u v = _
      simp only [X10_manner, lt_e, found_c, bd_s]
      by_cases z : u < 0
      · rw [if_pos z]
      · rw [if_neg z, if_pos (by simp only [lt32, lits] at z ⊢; unfold inN at q1; omega)]
    · intro S1 q
      show X11_manner S1 173 u v = _
      simp only [X11_manner, in_ok, bd_s, lt_e, ite_b1z, lits, found_m]
      rw [if_neg (by unfold inN at q1; omega)]
end
