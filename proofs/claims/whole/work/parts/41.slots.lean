/-! slots: keep, bring, plus, nought, contrary -/
theorem fst_none {P : Nat → Bool} {j i : Nat} (h : fstB P j i = none) : ∀ d, i ≤ d → d < i + j → P d = false := cnt_0f (cnt_0.mpr h)
section
variable {S : St} {n : Nat} {kd : Nat → Nat} {w : Nat → Nat → Nat} {g : Nat → Nat}
theorem fillSlot_ok {kh s : Nat} (hk : kh = 17 ∨ kh = 21) (hs : s < 8) (h : CSl S n kd w) (hi : ISl n kd w) (hg : CG S kh n g) : ∃ S2, X10_fillSlot S 0 (nI s) kh = some (S2, nI (sumF g n 0)) ∧ Sm (fun k j => k = 152 + s ∨ (k = 160 ∧ j = s)) S S2 ∧ S2.1 160 s = 1 ∧ ∀ p, p < n → S2.1 (152 + s) p = nI (g p) := by
  have hn := hi.1
  have hsm := (sm_R S (152 + s) (va_cpy (S.1 (kh + 1)) (S.1 (152 + s)) 0 0 12)).tr (sm_I (setR S (152 + s) (va_cpy (S.1 (kh + 1)) (S.1 (152 + s)) 0 0 12)) 160 s 1)
  have e0 : ∀ p, p < 12 → (setI (setR S (152 + s) (va_cpy (S.1 (kh + 1)) (S.1 (152 + s)) 0 0 12)) 160 s 1).1 (152 + s) p = S.1 (kh + 1) p := fun p hp => by rw [sI_n (by omega), sR_s, cpy0 hp]
  refine ⟨setI (setR S (152 + s) (va_cpy (S.1 (kh + 1)) (S.1 (152 + s)) 0 0 12)) 160 s 1, ?_, hsm.mo (by intro k j hk; omega), sI_s _ _ _ _, fun p hp => by rw [e0 p (by omega)]; exact hg p hp⟩
  unfold X10_fillSlot
  simp only [lt_e, gu_t (show cpOk 0 0 12 12 12 by decide), rfs, rf_151, (rf_h hk).2.1, ix0, ix12, ck_n hs (show 8 < 2147483648 by omega), ix_n (show s < 2147483648 by omega)]
  rw [sum_ok hk (h.gs hsm (by intro k j hk hq; omega)) hi (g := g) (fun p hp => by rw [(hsm (kh + 1) p (fun z => by omega)).1]; exact hg p hp), bd_s]
theorem stored_5_ok {kr s : Nat} (hr : kr = 176 ∨ kr = 194) (hs : s < 8) (hi : ISl n kd w) (K : St → Int64 → Int32 → Option (St × Int32)) : ∀ (j m i a : Nat) (S : St), i + j = 12 → j < m → S.1 173 0 = nI n → MG S kr n g → ∃ S2, X11_stored_5 173 (nI s) kr K m S (lN a) (nI i) = K S2 (lN (a + sumF g (n - i) i)) (nI 12) ∧ Sm (fun k q => k = 181 ∧ 12 * s + i ≤ q ∧ q < 12 * s + 12) S S2 ∧ ∀ e, i ≤ e → e < n → S2.2 181 (12 * s + e) = lN (g e)
  | 0, 0, _, _, _, _, h, _, _ => absurd h (by omega)
  | j + 1, 0, _, _, _, _, h, _, _ => absurd h (by omega)
  | 0, m + 1, i, a, S, hij, _, h0, hg => by
    have hn := hi.1
    refine ⟨S, ?_, Sm.rf, fun e h1 h2 => absurd h2 (by omega)⟩
    rw [show i = 12 by omega, X11_stored_5, if_pos (by decide), show n - 12 = 0 by omega]
    rfl
  | j + 1, m + 1, i, a, S, hij, hm, h0, hg => by
    have hn := hi.1
    have e1 : nI i + (1 : Int32) = nI (i + 1) := nI_1 i
    have e0 : (12 : Int32) * nI s + nI i = nI (12 * s + i) := by rw [show (12 : Int32) = nI 12 from rfl, pk_mul, nI_add]
    have key : ∀ v, ∃ S2, X11_stored_5 173 (nI s) kr K m (setJ S 181 (12 * s + i) (lN v)) (lN (a + v)) (nI (i + 1)) = K S2 (lN (a + v + sumF g (n - (i + 1)) (i + 1))) (nI 12) ∧ Sm (fun k q => k = 181 ∧ 12 * s + i ≤ q ∧ q < 12 * s + 12) S S2 ∧ (∀ e, i + 1 ≤ e → e < n → S2.2 181 (12 * s + e) = lN (g e)) ∧ S2.2 181 (12 * s + i) = lN v := by
      intro v
      obtain ⟨S2, q1, q2, q3⟩ := stored_5_ok hr hs hi K j m (i + 1) (a + v) (setJ S 181 (12 * s + i) (lN v)) (by omega) (by omega) h0 (fun p hp => by rw [sJ_n (by omega)]; exact hg p hp)
      exact ⟨S2, q1, ((sm_J S _ _ _).tr q2).mo (by intro k q z; omega), q3, by rw [(q2 _ _ (fun z => by omega)).2, sJ_s]⟩
    rw [X11_stored_5, if_neg (by rw [show (12 : Int32) = nI 12 from rfl]; exact nI_ge (show i < 12 by omega) (by omega))]
    simp only [lt_e, rfm, e0, e1, h0, sJ_s, ck_n (show 12 * s + i < 96 by omega) (show 96 < 2147483648 by omega), ix_n (show 12 * s + i < 2147483648 by omega), ck_n (show i < 15 by omega) (show 15 < 2147483648 by omega), ix_n (show i < 2147483648 by omega)]
    by_cases z : i < n
    · rw [if_neg (nI_ge z (by omega)), hg i z, lN_add]
      obtain ⟨S2, q1, q2, q3, q4⟩ := key (g i)
      refine ⟨S2, ?_, q2, fun e h1 h2 => ?_⟩
      · rw [q1, show n - i = n - (i + 1) + 1 by omega, sumF, Nat.add_assoc]
      · by_cases y : e = i
        · rw [y]; exact q4
        · exact q3 e (by omega) h2
    · rw [if_pos (nI_le (by omega) (by omega)), show (0 : Int64) = lN 0 from rfl, lN_add]
      obtain ⟨S2, q1, q2, q3, q4⟩ := key 0
      refine ⟨S2, ?_, q2, fun e h1 h2 => absurd h2 (by omega)⟩
      rw [q1, show n - i = 0 by omega, show n - (i + 1) = 0 by omega]
      rfl
theorem stored_ok {kr s : Nat} (hr : kr = 176 ∨ kr = 194) (hs : s < 8) (hi : ISl n kd w) (h0 : S.1 173 0 = nI n) (hg : MG S kr n g) : ∃ S2, X11_stored S 173 (nI s) kr = some (S2, nI (sumF g n 0)) ∧ Sm (fun k j => (k = 181 ∧ 12 * s ≤ j ∧ j < 12 * s + 12) ∨ (k = 182 ∧ j = s)) S S2 ∧ S2.1 182 s = 1 ∧ ∀ p, p < n → S2.2 181 (12 * s + p) = lN (g p) := by
  obtain ⟨S2, q1, q2, q3⟩ := stored_5_ok hr hs hi (fun S29 v30 v31 => ck (nI s) 8 (lt (setI S29 (rf 173 16) (ix (nI s)) (1 : Int32)) fun S33 => some (S33, Int64.toInt32 v30))) 12 FU 0 0 S (by omega) (by decide) h0 hg
  refine ⟨setI S2 182 s 1, ?_, (q2.tr (sm_I S2 182 s 1)).mo (by intro k j z; omega), sI_s _ _ _ _, fun p hp => q3 p (by omega) hp⟩
  unfold X11_stored
  rw [show (0 : Int64) = lN 0 from rfl, show (0 : Int32) = nI 0 from rfl, q1]
  simp only [lt_e, rfm, ck_n hs (show 8 < 2147483648 by omega), ix_n (show s < 2147483648 by omega), lN_i, Nat.zero_add, Nat.sub_zero]
theorem RSlots.fill {Sf : St} {s : Nat} {T : Nat → Nat → Prop} (h : RSlots S n true) (hn : n ≤ 12) (hs : s < 8) (hb : B1 n g) (hT : Sm T S Sf) (h0 : ∀ k j, ((152 ≤ k ∧ k ≤ 159 ∧ k ≠ 152 + s) ∨ (k = 160 ∧ j ≠ s) ∨ (k = 182 ∧ j ≠ s) ∨ (k = 181 ∧ ¬ (12 * s ≤ j ∧ j < 12 * s + 12))) → ¬ T k j) (h1 : Sf.1 160 s = 1) (h2 : Sf.1 182 s = 1) (h3 : ∀ p, p < n → Sf.1 (152 + s) p = nI (g p)) (h4 : ∀ p, p < n → Sf.2 181 (12 * s + p) = lN (g p)) : RSlots Sf n true := by
  intro t ht
  by_cases e : t = s
  · subst e
    exact ⟨true, h1, h2, fun _ => ⟨rfl, g, hb, fun p hp => ⟨h3 p hp, h4 p hp⟩⟩⟩
  · exact (h t ht).gs hn hT (fun k j hk => h0 k j (by omega))
end
section
variable {S : St} {c : Nat}
theorem op_keep (h : RelX S c) (u : Int32) : Ok S c (fun S => X10_keep S 0 u) (fun S => X11_keep S 173 u) := by
  obtain ⟨n, kd, w, bg, g, mn, hR⟩ := h
  have hR0 := hR
  obtain ⟨⟨a1, a2, a3, a4, a5, a6⟩, ⟨b1', b2, b3, b4⟩, ⟨c1, c2, c3, c4⟩, d1, d2⟩ := hR0
  have hn := a3.1
  have nN := nT (show n < 2147483648 by omega)
  have has := has_ok a1.1 hn
  have ha0 := a1.1
  have cb := b1'.1
  by_cases q1 : inN u 8
  · obtain ⟨s, hs, rfl⟩ := inN_of q1 (by omega)
    cases bg with
    | false =>
      refine Ok.fd hR (v := -8) ?_ ?_
      · show X10_keep S 0 (nI s) = _
        simp only [X10_keep, isSlot_c, bd_s, ite_b1n, if_pos q1, cb, bi_f, not_true, if_false, found_c]
      · intro S1 q
        have m2 := a2.gs q (by intro k j hk hq; omega)
        have isp := isPlace_ok m2.1 hn
        have mz := m2.1
        have mb : S1.1 173 3 = bi _ := (q.i (by omega)).trans b1'.2.1
        show X11_keep S1 173 (nI s) = _
        simp only [X11_keep, isSlot_m, bd_s, ite_b1n, if_pos q1, mb, bi_f, not_true, if_false, found_m]
    | true =>
      obtain ⟨S1, f1, f2, f3, f4⟩ := fillSlot_ok (Or.inl rfl) hs a1 a3 b2.1
      have q : CT S S1 := f2.mo (by intro k j hk; omega)
      obtain ⟨Sb, s1, s2, s3, s4⟩ := stored_ok (S := S1) (Or.inl rfl) hs a3 ((q.i (by omega)).trans a2.1) (q.mg b2)
      refine ⟨S1, Sb, nI (sumF g n 0), ?_, ?_, ?_⟩
      · show X10_keep S 0 (nI s) = _
        simp only [X10_keep, isSlot_c, bd_s, ite_b1n, if_pos q1, cb, bi_t, i10, not_false_iff, if_true, rfs, f1]
      · show X11_keep S1 173 (nI s) = _
        have m2 := a2.gs q (by intro k j hk hq; omega)
        have isp := isPlace_ok m2.1 hn
        have mz := m2.1
        have mb : S1.1 173 3 = bi _ := (q.i (by omega)).trans b1'.2.1
        simp only [X11_keep, isSlot_m, bd_s, ite_b1n, if_pos q1, mb, bi_t, i10, not_false_iff, if_true, rfm, s1]
      · have hss := f2.tr s2
        refine (Rel.re hR hss (by intro k j hk hq; omega) (by intro k j hk hq; omega) a6 (Or.inl (by intro k j hk hq; omega)) (Or.inl ⟨rfl, by intro k j hk hq; omega⟩) (Or.inl (by intro k j hk hq; omega)) (Or.inl ⟨rfl, by intro k j hk hq; omega⟩) (Or.inl ⟨rfl, by intro k j hk hq; omega⟩) (Or.inl (by intro k j hk hq; omega)) (Or.inr (c3.fill hn hs b2.2.2.1 hss (by intro k j hk hq; omega) ?_ s3 (fun p hp => ?_) s4)) (Or.inl (by intro k j hk hq; omega)) (Or.inl (by intro k j hk hq; omega)) (Or.inl (by intro k j hk hq; omega))).x
        · rw [(s2 _ _ (fun z => by omega)).1]; exact f3
        · rw [(s2 _ _ (fun z => by omega)).1]; exact f4 p hp
  · refine Ok.fd hR (v := -1) ?_ ?_
    · show X10_keep S 0 u = _
      simp only [X10_keep, isSlot_c, bd_s, ite_b1n, if_neg q1, found_c]
    · intro S1 q
      show X11_keep S1 173 u = _
      simp only [X11_keep, isSlot_m, bd_s, ite_b1n, if_neg q1, found_m]
theorem bring_48_ok {n s : Nat} {g : Nat → Nat} (hn : n ≤ 12) (hs : s < 8) (K : St → Int64 → Int32 → Option (St × Int32)) : ∀ (j m i a : Nat) (S : St), i + j = n → j < m → S.1 173 0 = nI n → (∀ p, p < n → S.2 181 (12 * s + p) = lN (g p)) → ∃ S2, X11_bring_48 173 (nI s) K m S (lN a) (nI i) = K S2 (lN (a + sumF g j i)) (nI n) ∧ Sm (fun k q => k = 176 ∧ i ≤ q ∧ q < n) S S2 ∧ ∀ e, i ≤ e → e < n → S2.2 176 e = lN (g e)
  | 0, 0, _, _, _, _, h, _, _ => absurd h (by omega)
  | j + 1, 0, _, _, _, _, h, _, _ => absurd h (by omega)
  | 0, m + 1, i, a, S, hij, _, h0, hg => by
    refine ⟨S, ?_, Sm.rf, fun e h1 h2 => absurd h2 (by omega)⟩
    rw [show i = n by omega, X11_bring_48, if_pos (by rw [h0]; exact Int32.le_refl _)]
    rfl
  | j + 1, m + 1, i, a, S, hij, hm, h0, hg => by
    have e1 : nI i + (1 : Int32) = nI (i + 1) := nI_1 i
    have e0 : (12 : Int32) * nI s + nI i = nI (12 * s + i) := by rw [show (12 : Int32) = nI 12 from rfl, pk_mul, nI_add]
    obtain ⟨S2, q1, q2, q3⟩ := bring_48_ok hn hs K j m (i + 1) (a + g i) (setJ S 176 i (lN (g i))) (by omega) (by omega) h0 (fun p hp => by rw [sJ_n (by omega)]; exact hg p hp)
    refine ⟨S2, ?_, ((sm_J S _ _ _).tr q2).mo (by intro k q z; omega), fun e h1 h2 => ?_⟩
    · rw [X11_bring_48, if_neg (by rw [h0]; exact nI_ge (show i < n by omega) (by omega))]
      simp only [lt_e, rfm, e0, e1, hg i (by omega), sJ_s, lN_add, ck_n (show 12 * s + i < 96 by omega) (show 96 < 2147483648 by omega), ix_n (show 12 * s + i < 2147483648 by omega), ck_n (show i < 15 by omega) (show 15 < 2147483648 by omega), ix_n (show i < 2147483648 by omega)]
      rw [q1, sumF, Nat.add_assoc]
    · by_cases y : e = i
      · rw [y, (q2 _ _ (fun z => by omega)).2, sJ_s]
      · exact q3 e (by omega) h2
theorem op_bring (h : RelX S c) (u : Int32) : Ok S c (fun S => X10_bring S 0 u) (fun S => X11_bring S 173 u) := by
  obtain ⟨n, kd, w, bg, g, mn, hR⟩ := h
  have hR0 := hR
  obtain ⟨⟨a1, a2, a3, a4, a5, a6⟩, ⟨b1', b2, b3, b4⟩, ⟨c1, c2, c3, c4⟩, d1, d2⟩ := hR0
  have hn := a3.1
  have nN := nT (show n < 2147483648 by omega)
  have has := has_ok a1.1 hn
  have ha0 := a1.1
  have cb := b1'.1
  by_cases q1 : inN u 8
  · obtain ⟨s, hs, rfl⟩ := inN_of q1 (by omega)
    obtain ⟨fl, y1, y2, y3⟩ := c3 s hs
    cases fl with
    | false =>
      refine Ok.fd hR (v := -11) ?_ ?_
      · show X10_bring S 0 (nI s) = _
        simp only [X10_bring, isSlot_c, bd_s, ite_b1n, if_pos q1, rfs, ix_n (show s < 2147483648 by omega), y1, bi_f, not_true, if_false, found_c, ck_n hs (show 8 < 2147483648 by omega)]
      · intro S1 q
        show X11_bring S1 173 (nI s) = _
        simp only [X11_bring, isSlot_m, bd_s, ite_b1n, if_pos q1, rfm, ix_n (show s < 2147483648 by omega), q.i (show 173 ≤ 182 by omega), y2, bi_f, not_true, if_false, found_m, ck_n hs (show 8 < 2147483648 by omega)]
    | true =>
      obtain ⟨hbt, gg, gb, gs⟩ := y3 rfl
      subst hbt
      have hs1 := ((sm_R S 18 (va_cpy (S.1 (152 + s)) (S.1 18) 0 0 12)).tr (sm_I (setR S 18 (va_cpy (S.1 (152 + s)) (S.1 18) 0 0 12)) 28 1 0)).tr (sm_I (setI (setR S 18 (va_cpy (S.1 (152 + s)) (S.1 18) 0 0 12)) 28 1 0) 28 2 0)
      have q : CT S (setI (setI (setR S 18 (va_cpy (S.1 (152 + s)) (S.1 18) 0 0 12)) 28 1 0) 28 2 0) := hs1.mo (by intro k j hk; omega)
      have f4 : CG (setI (setI (setR S 18 (va_cpy (S.1 (152 + s)) (S.1 18) 0 0 12)) 28 1 0) 28 2 0) 17 n gg := fun p hp => by
        show (setI (setI (setR S 18 (va_cpy (S.1 (152 + s)) (S.1 18) 0 0 12)) 28 1 0) 28 2 0).1 18 p = _
        rw [sI_n (by omega), sI_n (by omega), sR_s, cpy0 (by omega)]; exact (gs p hp).1
      have f5 : (setI (setI (setR S 18 (va_cpy (S.1 (152 + s)) (S.1 18) 0 0 12)) 28 1 0) 28 2 0).1 28 1 = 0 ∧ (setI (setI (setR S 18 (va_cpy (S.1 (152 + s)) (S.1 18) 0 0 12)) 28 1 0) 28 2 0).1 28 2 = 0 := ⟨by rw [sI_n (by omega), sI_s], by rw [sI_s]⟩
      have e9 : X10_bring S 0 (nI s) = bd (X2_sum (setI (setI (setR S 18 (va_cpy (S.1 (152 + s)) (S.1 18) 0 0 12)) 28 1 0) 28 2 0) 17) fun S32 v33 => some (S32, v33) := by
        simp only [X10_bring, X2_takeGrains, X3_clear, isSlot_c, bd_x, ite_b1n, if_pos q1, rfs, rf_151, ix0, ix12, ix_n (show s < 2147483648 by omega), y1, bi_t, i10, not_false_iff, if_true, cb, gu_t (show cpOk 0 0 12 12 12 by decide), lt_x, ck_n hs (show 8 < 2147483648 by omega)]
      generalize setI (setI (setR S 18 (va_cpy (S.1 (152 + s)) (S.1 18) 0 0 12)) 28 1 0) 28 2 0 = S1 at hs1 q f4 f5 e9
      obtain ⟨Sb, s1, s2, s3⟩ := bring_48_ok (g := gg) hn hs (fun (S30 : St) (v31 : Int64) (v32 : Int32) => lt (setI S30 173 30 (0 : Int32)) fun S33 => some (S33, Int64.toInt32 v31)) n FU 0 0 S1 (by omega) (by unfold FU; omega) ((q.i (by omega)).trans a2.1) (fun p hp => by rw [q.l (by omega)]; exact (gs p hp).2)
      rw [nI_0, show lN 0 = (0 : Int64) from rfl] at s1
      refine ⟨S1, setI Sb 173 30 0, nI (sumF gg n 0), ?_, ?_, ?_⟩
      · show X10_bring S 0 (nI s) = _
        rw [e9, sum_ok (Or.inl rfl) (a1.gs hs1 (by intro k j hk hq; omega)) a3 f4, bd_s]
      · show X11_bring S1 173 (nI s) = _
        have m2 := a2.gs q (by intro k j hk hq; omega)
        have isp := isPlace_ok m2.1 hn
        have mz := m2.1
        have mb : S1.1 173 3 = bi _ := (q.i (by omega)).trans b1'.2.1
        simp only [X11_bring, isSlot_m, bd_s, ite_b1n, if_pos q1, rfm, ix_n (show s < 2147483648 by omega), q.i (show 173 ≤ 182 by omega), y2, bi_t, i10, not_false_iff, if_true, mb, ck_n hs (show 8 < 2147483648 by omega)]
        rw [s1]
        simp only [lt_e, lN_i, Nat.zero_add]
      · have hs2 := s2.tr (sm_I Sb 173 30 0)
        have hss := hs1.tr hs2
        have hr : RH (setI Sb 173 30 0) n gg := by
          refine ⟨fun e he => ?_, fun e he => ?_, gb, fun d hd => ?_, fun e he => ?_, fun e he he2 => ?_⟩
          · rw [(hs2 18 e (fun z => by omega)).1]; exact f4 e he
          · rw [Nat.zero_add, sIr]; exact s3 e (by omega) he
          · rw [(hss 19 d (fun z => by omega)).2, (hss 176 (0 + 12 + d) (fun z => by omega)).2]; exact b2.2.2.2.1 d hd
          · rw [(hss 20 e (fun z => by omega)).2, (hss 177 (0 + e) (fun z => by omega)).2]; exact b2.2.2.2.2.1 e he
          · rw [(hss 177 (0 + e) (fun z => by omega)).2]; exact b2.2.2.2.2.2 e he he2
        have hh : RHist (setI Sb 173 30 0) n mn true := RHist.none (by rw [(hs2 28 2 (fun z => by omega)).1]; exact f5.2) (sI_s _ _ _ _) (by rw [(hs2 28 1 (fun z => by omega)).1]; exact f5.1)
        exact (Rel.re hR hss (by intro k j hk hq; omega) (by intro k j hk hq; omega) a6 (Or.inl (by intro k j hk hq; omega)) (Or.inr hr) (Or.inr rfl) (Or.inl ⟨rfl, by intro k j hk hq; omega⟩) (Or.inr hh) (Or.inl (by intro k j hk hq; omega)) (Or.inl (by intro k j hk hq; omega)) (Or.inl (by intro k j hk hq; omega)) (Or.inl (by intro k j hk hq; omega)) (Or.inl (by intro k j hk hq; omega))).x
  · refine Ok.fd hR (v := -1) ?_ ?_
    · show X10_bring S 0 u = _
      simp only [X10_bring, isSlot_c, bd_s, ite_b1n, if_neg q1, found_c]
    · intro S1 q
      show X11_bring S1 173 u = _
      simp only [X11_bring, isSlot_m, bd_s, ite_b1n, if_neg q1, found_m]
/-- the end of plus, nought and contrary: rows gg in the class's trial heap and in the reference's work -/
theorem fin_ok {n mn s : Nat} {kd : Nat → Nat} {w : Nat → Nat → Nat} {g gg : Nat → Nat} {f m : St → Option (St × Int32)} (hR : Rel S c n kd w true g mn) (hs8 : s < 8) (hb : BG n gg) {Sx : St} (hx : Sm (fun k _ => (21 ≤ k ∧ k ≤ 24) ∨ k = 172) S Sx) (hg : CG Sx 21 n gg) (hf : f S = bd (X10_settleInto Sx 0 (nI s)) (fun S r => some (S, r))) (hm : ∀ S1, CT S S1 → ∃ Sy, m S1 = (bd (X11_settles Sy 173) fun S44 v45 => if v45 = 0 then (bd (X11_found S44 173 (-5 : Int32)) fun S46 v47 => some (S46, v47)) else (bd (X11_stored S44 173 (nI s) 194) fun S49 v50 => some (S49, v50))) ∧ Sm (fun k _ => k = 194 ∨ k = 195) S1 Sy ∧ MG Sy 194 n gg) : Ok S c f m := by
  have hR0 := hR
  obtain ⟨⟨a1, a2, a3, a4, a5, a6⟩, ⟨b1', b2, b3, b4⟩, ⟨c1, c2, c3, c4⟩, d1, d2⟩ := hR0
  have hn := a3.1
  have a1x := a1.gs hx (by intro k j hk hq; omega)
  obtain ⟨Sz, t1, t2, t3⟩ := settle_ok (Or.inr rfl) a1x a3 hg hb
  have t2s := Sm.of t2
  cases ho : stlT w kd n gg with
  | none =>
    rw [ho] at t1
    have hs1 := (hx.tr t2s).tr (sm_I Sz 0 15 (Sz.1 0 15 + 1))
    have q : CT S (setI Sz 0 15 (Sz.1 0 15 + 1)) := hs1.mo (by intro k j hk; omega)
    obtain ⟨Sy, m1, m2, m3⟩ := hm _ q
    have a2y := (a2.gs q (by intro k j hk hq; omega)).gs m2 (by intro k j hk hq; omega)
    obtain ⟨Sw, u1, u2, u3, u4⟩ := settlesM_ok a2y a3 m3 hb
    rw [ho] at u1
    have u2s := Sm.of u2
    have hss := (hs1.tr m2).tr u2s |>.tr (sm_I Sw 173 24 (Sw.1 173 24 + 1))
    refine ⟨setI Sz 0 15 (Sz.1 0 15 + 1), setI Sw 173 24 (Sw.1 173 24 + 1), -5, ?_, ?_, ?_⟩
    · rw [hf]
      unfold X10_settleInto
      rw [rfs.2.2.1, t1]
      simp only [bd_s, found_c]
      rfl
    · rw [m1, u1]
      simp only [bd_s, found_m]
      rfl
    · refine (Rel.re hR hss (by intro k j hk hq; omega) (by intro k j hk hq; omega) a6 (Or.inr ⟨?_, ?_, ?_, ?_⟩) (Or.inl ⟨rfl, by intro k j hk hq; omega⟩) (Or.inl (by intro k j hk hq; omega)) (Or.inl ⟨rfl, by intro k j hk hq; omega⟩) (Or.inl ⟨rfl, by intro k j hk hq; omega⟩) (Or.inl (by intro k j hk hq; omega)) (Or.inl (by intro k j hk hq; omega)) (Or.inl (by intro k j hk hq; omega)) (Or.inl (by intro k j hk hq; omega)) (Or.inl (by intro k j hk hq; omega))).x
      · rw [(hss 0 13 (fun z => by omega)).1]; exact b1'.1
      · rw [(hss 173 3 (fun z => by omega)).1]; exact b1'.2.1
      · rw [(hss 0 14 (fun z => by omega)).1, (hss 173 7 (fun z => by omega)).1]; exact b1'.2.2.1
      · rw [sI_s, sI_n (by omega), (u2s _ _ (fun z => by omega)).1, (m2 _ _ (fun z => by omega)).1, sI_s, (u2s _ _ (fun z => by omega)).1, (m2 _ _ (fun z => by omega)).1, q.i (by omega), (t2s _ _ (fun z => by omega)).1, (hx _ _ (fun z => by omega)).1, b1'.2.2.2]
  | some ge =>
    rw [ho] at t1
    have gb : B1 n ge := by
      unfold stlT at ho
      cases hov : anyB (fun p => decide (1000000 < gg p)) n 0 with
      | true => rw [hov] at ho; cases ho
      | false => rw [hov] at ho; exact (stl_ok (over_B1 hov) ho).1
    obtain ⟨S1, f1, f2, f3, f4⟩ := fillSlot_ok (Or.inr rfl) hs8 (a1x.gs t2s (by intro k j hk hq; omega)) a3 (t3 ge ho)
    have hs1 := (hx.tr t2s).tr f2
    have q : CT S S1 := hs1.mo (by intro k j hk; omega)
    obtain ⟨Sy, m1, m2, m3⟩ := hm _ q
    have a2y := (a2.gs q (by intro k j hk hq; omega)).gs m2 (by intro k j hk hq; omega)
    obtain ⟨Sw, u1, u2, u3, u4⟩ := settlesM_ok a2y a3 m3 hb
    rw [ho] at u1
    have u2s := Sm.of u2
    have a2w := a2y.gs u2s (by intro k j hk hq; omega)
    obtain ⟨Sb, s1, s2, s3, s4⟩ := stored_ok (S := Sw) (Or.inr rfl) hs8 a3 a2w.1 (u4 ge ho)
    have hs2 := (m2.tr u2s).tr s2
    have hss := hs1.tr hs2
    refine ⟨S1, Sb, nI (sumF ge n 0), ?_, ?_, ?_⟩
    · rw [hf]
      unfold X10_settleInto
      rw [rfs.2.2.1, t1]
      simp only [bd_s, f1]
      rfl
    · rw [m1, u1]
      simp only [bd_s, s1]
      rfl
    · refine (Rel.re hR hss (by intro k j hk hq; omega) (by intro k j hk hq; omega) a6 (Or.inl (by intro k j hk hq; omega)) (Or.inl ⟨rfl, by intro k j hk hq; omega⟩) (Or.inl (by intro k j hk hq; omega)) (Or.inl ⟨rfl, by intro k j hk hq; omega⟩) (Or.inl ⟨rfl, by intro k j hk hq; omega⟩) (Or.inl (by intro k j hk hq; omega)) (Or.inr (c3.fill hn hs8 gb hss (by intro k j hk hq; omega) ?_ s3 (fun p hp => ?_) s4)) (Or.inl (by intro k j hk hq; omega)) (Or.inl (by intro k j hk hq; omega)) (Or.inl (by intro k j hk hq; omega))).x
      · rw [(hs2 _ _ (fun z => by omega)).1]; exact f3
      · rw [(hs2 _ _ (fun z => by omega)).1]; exact f4 p hp
theorem op_plus (h : RelX S c) (u v x : Int32) : Ok S c (fun S => X10_plus S 0 u v x) (fun S => X11_plus S 173 u v x) := by
  obtain ⟨n, kd, w, bg, g, mn, hR⟩ := h
  have hR0 := hR
  obtain ⟨⟨a1, a2, a3, a4, a5, a6⟩, ⟨b1', b2, b3, b4⟩, ⟨c1, c2, c3, c4⟩, d1, d2⟩ := hR0
  have hn := a3.1
  have nN := nT (show n < 2147483648 by omega)
  have has := has_ok a1.1 hn
  have ha0 := a1.1
  have cb := b1'.1
  by_cases q1 : inN u 8
  · by_cases q2 : inN v 8
    · by_cases q3 : inN x 8
      · obtain ⟨s, hs, rfl⟩ := inN_of q1 (by omega)
        obtain ⟨t, ht, rfl⟩ := inN_of q2 (by omega)
        obtain ⟨e, he, rfl⟩ := inN_of q3 (by omega)
        obtain ⟨fl, y1, y2, y3⟩ := c3 s hs
        obtain ⟨fl2, x1, x2, x3⟩ := c3 t ht
        cases fl with
        | false =>
          refine Ok.fd hR (v := -11) ?_ ?_
          · show X10_plus S 0 (nI s) (nI t) (nI e) = _
            simp only [X10_plus, isSlot_c, bd_s, lt_e, ite_b1z, ite_b1n, if_pos q1, if_pos q2, if_pos q3, rfs, ix_n (show s < 2147483648 by omega), y1, bi_f, if_true, found_c, ck_n hs (show 8 < 2147483648 by omega)]
          · intro S1 q
            show X11_plus S1 173 (nI s) (nI t) (nI e) = _
            simp only [X11_plus, isSlot_m, bd_s, lt_e, ite_b1z, ite_b1n, if_pos q1, if_pos q2, if_pos q3, rfm, ix_n (show s < 2147483648 by omega), q.i (show 173 ≤ 182 by omega), y2, bi_f, if_true, found_m, ck_n hs (show 8 < 2147483648 by omega)]
        | true =>
          cases fl2 with
          | false =>
            refine Ok.fd hR (v := -11) ?_ ?_
            · show X10_plus S 0 (nI s) (nI t) (nI e) = _
              simp only [X10_plus, isSlot_c, bd_s, lt_e, ite_b1z, ite_b1n, if_pos q1, if_pos q2, if_pos q3, rfs, ix_n (show s < 2147483648 by omega), ix_n (show t < 2147483648 by omega), y1, x1, bi_f, bi_t, i10, not_true, if_false, found_c, ck_n hs (show 8 < 2147483648 by omega), ck_n ht (show 8 < 2147483648 by omega)]
            · intro S1 q
              show X11_plus S1 173 (nI s) (nI t) (nI e) = _
              simp only [X11_plus, isSlot_m, bd_s, lt_e, ite_b1z, ite_b1n, if_pos q1, if_pos q2, if_pos q3, rfm, ix_n (show s < 2147483648 by omega), ix_n (show t < 2147483648 by omega), q.i (show 173 ≤ 182 by omega), y2, x2, bi_f, bi_t, i10, not_true, if_false, found_m, ck_n hs (show 8 < 2147483648 by omega), ck_n ht (show 8 < 2147483648 by omega)]
          | true =>
            obtain ⟨hbt, g1, gb1, gs1⟩ := y3 rfl
            obtain ⟨-, g2, gb2, gs2⟩ := x3 rfl
            subst hbt
            obtain ⟨Sx, p1, p2, p3⟩ := plus_69_ok hn hs ht (nI e) n FU 0 S (by omega) (by unfold FU; omega) ha0
            rw [nI_0] at p1
            refine fin_ok hR he (gg := fun p => g1 p + g2 p) (fun p hp => ?_) (p2.mo (by intro k j hk; omega)) (fun p hp => ?_) (f := fun S => X10_plus S 0 (nI s) (nI t) (nI e)) (m := fun S => X11_plus S 173 (nI s) (nI t) (nI e)) ?_ (fun S1 q => ?_)
            · show g1 p + g2 p ≤ 2000000
              have := gb1 p hp
              have := gb2 p hp
              omega
            · show Sx.1 22 p = nI (g1 p + g2 p)
              rw [p3 p (by omega) hp, (gs1 p hp).1, (gs2 p hp).1, nI_add]
            · show X10_plus S 0 (nI s) (nI t) (nI e) = _
              simp only [X10_plus, isSlot_c, bd_s, lt_e, ite_b1z, ite_b1n, if_pos q1, if_pos q2, if_pos q3, rfs, ix_n (show s < 2147483648 by omega), ix_n (show t < 2147483648 by omega), y1, x1, bi_t, i10, not_false_iff, if_true, if_false, cb, ck_n hs (show 8 < 2147483648 by omega), ck_n ht (show 8 < 2147483648 by omega)]
              exact p1 _
            · have m2 := a2.gs q (by intro k j hk hq; omega)
              have isp := isPlace_ok m2.1 hn
              have mz := m2.1
              have mb : S1.1 173 3 = bi _ := (q.i (by omega)).trans b1'.2.1
              obtain ⟨Sy, r1, r2, r3⟩ := plusM_69_ok hn hs ht (nI e) n FU 0 S1 (by omega) (by unfold FU; omega) mz
              rw [nI_0] at r1
              refine ⟨Sy, ?_, r2.mo (by intro k j hk; omega), fun p hp => ?_⟩
              · show X11_plus S1 173 (nI s) (nI t) (nI e) = _
                simp only [X11_plus, isSlot_m, bd_s, lt_e, ite_b1z, ite_b1n, if_pos q1, if_pos q2, if_pos q3, rfm, ix_n (show s < 2147483648 by omega), ix_n (show t < 2147483648 by omega), q.i (show 173 ≤ 182 by omega), y2, x2, bi_t, i10, not_false_iff, if_true, if_false, mb, ck_n hs (show 8 < 2147483648 by omega), ck_n ht (show 8 < 2147483648 by omega)]
                exact r1 _
              · rw [r3 p (by omega) hp, q.l (by omega), q.l (by omega), (gs1 p hp).2, (gs2 p hp).2, lN_add]
      · refine Ok.fd hR (v := -1) ?_ ?_
        · show X10_plus S 0 u v x = _
          simp only [X10_plus, isSlot_c, bd_s, lt_e, ite_b1z, ite_b1n, if_pos q1, if_pos q2, if_neg q3, found_c]
        · intro S1 q
          show X11_plus S1 173 u v x = _
          simp only [X11_plus, isSlot_m, bd_s, lt_e, ite_b1z, ite_b1n, if_pos q1, if_pos q2, if_neg q3, found_m]
    · refine Ok.fd hR (v := -1) ?_ ?_
      · show X10_plus S 0 u v x = _
        simp only [X10_plus, isSlot_c, bd_s, lt_e, ite_b1z, ite_b1n, if_pos q1, if_neg q2, found_c]
      · intro S1 q
        show X11_plus S1 173 u v x = _
        simp only [X11_plus, isSlot_m, bd_s, lt_e, ite_b1z, ite_b1n, if_pos q1, if_neg q2, found_m]
  · refine Ok.fd hR (v := -1) ?_ ?_
    · show X10_plus S 0 u v x = _
      simp only [X10_plus, isSlot_c, bd_s, lt_e, ite_b1z, if_neg q1, found_c]
    · intro S1 q
      show X11_plus S1 173 u v x = _
      simp only [X11_plus, isSlot_m, bd_s, lt_e, ite_b1z, if_neg q1, found_m]
end
