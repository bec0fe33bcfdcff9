/-! loops that write one row -/
theorem build_2_ok {t : Nat} (ht : t < 4) (a b : Int32) : ∀ (j m i : Nat) (S : St), i + j = 16 → j < m → ∃ S2, (∀ K : St → Int32 → Option (St × Int32), X9_build_2 (162 + 2 * t) a b K m S (nI i) = K S2 (nI (16))) ∧ Sm (fun k q => k = 163 + 2 * t ∧ i ≤ q ∧ q < 16) S S2 ∧ ∀ e, i ≤ e → e < 16 → S2.2 (163 + 2 * t) (e) = 0
  | 0, 0, _, _, _, h => absurd h (by omega)
  | j + 1, 0, _, _, _, h => absurd h (by omega)
  | 0, m + 1, i, S, hij, _ => by
    refine ⟨S, fun K => ?_, Sm.rf, fun e h1 h2 => absurd h2 (by omega)⟩
    rw [show i = 16 by omega, X9_build_2, if_pos (by exact Int32.le_refl _)]
  | j + 1, m + 1, i, S, hij, hm => by
    have e1 : nI i + (1 : Int32) = nI (i + 1) := nI_1 i
    obtain ⟨S2, q1, q2, q3⟩ := build_2_ok (t := t) ht a b j m (i + 1) (setJ S (163 + 2 * t) (i) (0)) (by omega) (by omega)
    refine ⟨S2, fun K => ?_, ((sm_J S _ _ _).tr q2).mo (fun k q z => by omega), fun e h1 h2 => ?_⟩
    · rw [X9_build_2, if_neg (by rw [show (16 : Int32) = nI 16 from rfl]; exact nI_ge (by omega) (by omega))]
      simp only [lt_e, e1, rf_ter ht, ck_n (show i < 16 by omega) (show 16 < 2147483648 by omega), ix_n (show i < 2147483648 by omega)]
      exact q1 K
    · by_cases he : e = i
      · subst he
        rw [(q2 (163 + 2 * t) (e) (fun z => by omega)).2, sJ2, if_pos ⟨rfl, rfl⟩]
      · refine (q3 e (by omega) h2).trans ?_
        first | rfl | (simp only [sI1, sI2, sJ1, sJ2]; first | done | rfl | (repeat rw [if_neg (by omega)]))
theorem terrace_89_ok {t : Nat} (ht : t < 4) : ∀ (j m i : Nat) (S : St), i + j = 16 → j < m → ∃ S2, (∀ K : St → Int32 → Option (St × Int32), X11_terrace_89 173 (nI t) K m S (nI i) = K S2 (nI (16))) ∧ Sm (fun k q => k = 186 ∧ 16 * t + i ≤ q ∧ q < 16 * t + 16) S S2 ∧ ∀ e, i ≤ e → e < 16 → S2.2 (186) (16 * t + e) = 0
  | 0, 0, _, _, _, h => absurd h (by omega)
  | j + 1, 0, _, _, _, h => absurd h (by omega)
  | 0, m + 1, i, S, hij, _ => by
    refine ⟨S, fun K => ?_, Sm.rf, fun e h1 h2 => absurd h2 (by omega)⟩
    rw [show i = 16 by omega, X11_terrace_89, if_pos (by exact Int32.le_refl _)]
  | j + 1, m + 1, i, S, hij, hm => by
    have e1 : nI i + (1 : Int32) = nI (i + 1) := nI_1 i
    have e0 : (16 : Int32) * nI t + nI i = nI (16 * t + i) := by rw [show (16 : Int32) = nI 16 from rfl, pk_mul, nI_add]
    obtain ⟨S2, q1, q2, q3⟩ := terrace_89_ok (t := t) ht j m (i + 1) (setJ S (186) (16 * t + i) (0)) (by omega) (by omega)
    refine ⟨S2, fun K => ?_, ((sm_J S _ _ _).tr q2).mo (fun k q z => by omega), fun e h1 h2 => ?_⟩
    · rw [X11_terrace_89, if_neg (by rw [show (16 : Int32) = nI 16 from rfl]; exact nI_ge (by omega) (by omega))]
      simp only [lt_e, e1, rfm, e0, ck_n (show 16 * t + i < 64 by omega) (show 64 < 2147483648 by omega), ix_n (show 16 * t + i < 2147483648 by omega)]
      exact q1 K
    · by_cases he : e = i
      · subst he
        rw [(q2 (186) (16 * t + e) (fun z => by omega)).2, sJ2, if_pos ⟨rfl, rfl⟩]
      · refine (q3 e (by omega) h2).trans ?_
        first | rfl | (simp only [sI1, sI2, sJ1, sJ2]; first | done | rfl | (repeat rw [if_neg (by omega)]))
theorem anew_7_ok  : ∀ (j m i : Nat) (S : St), i + j = 180 → j < m → ∃ S2, (∀ K : St → Int32 → Option (St × Int32), X11_anew_7 173 K m S (nI i) = K S2 (nI (180))) ∧ Sm (fun k q => k = 175 ∧ i ≤ q ∧ q < 180) S S2 ∧ ∀ e, i ≤ e → e < 180 → S2.1 (175) (e) = 0
  | 0, 0, _, _, _, h => absurd h (by omega)
  | j + 1, 0, _, _, _, h => absurd h (by omega)
  | 0, m + 1, i, S, hij, _ => by
    refine ⟨S, fun K => ?_, Sm.rf, fun e h1 h2 => absurd h2 (by omega)⟩
    rw [show i = 180 by omega, X11_anew_7, if_pos (by exact Int32.le_refl _)]
  | j + 1, m + 1, i, S, hij, hm => by
    have e1 : nI i + (1 : Int32) = nI (i + 1) := nI_1 i
    obtain ⟨S2, q1, q2, q3⟩ := anew_7_ok  j m (i + 1) (setI S (175) (i) (0)) (by omega) (by omega)
    refine ⟨S2, fun K => ?_, ((sm_I S _ _ _).tr q2).mo (fun k q z => by omega), fun e h1 h2 => ?_⟩
    · rw [X11_anew_7, if_neg (by rw [show (180 : Int32) = nI 180 from rfl]; exact nI_ge (by omega) (by omega))]
      simp only [lt_e, e1, rfm, ck_n (show i < 180 by omega) (show 180 < 2147483648 by omega), ix_n (show i < 2147483648 by omega)]
      exact q1 K
    · by_cases he : e = i
      · subst he
        rw [(q2 (175) (e) (fun z => by omega)).1, sI1, if_pos ⟨rfl, rfl⟩]
      · refine (q3 e (by omega) h2).trans ?_
        first | rfl | (simp only [sI1, sI2, sJ1, sJ2]; first | done | rfl | (repeat rw [if_neg (by omega)]))
theorem anew_29_ok  : ∀ (j m i : Nat) (S : St), i + j = 15 → j < m → ∃ S2, (∀ K : St → Int32 → Option (St × Int32), X11_anew_29 173 K m S (nI i) = K S2 (nI (15))) ∧ Sm (fun k q => k = 176 ∧ i ≤ q ∧ q < 15) S S2 ∧ ∀ e, i ≤ e → e < 15 → S2.2 (176) (e) = 0
  | 0, 0, _, _, _, h => absurd h (by omega)
  | j + 1, 0, _, _, _, h => absurd h (by omega)
  | 0, m + 1, i, S, hij, _ => by
    refine ⟨S, fun K => ?_, Sm.rf, fun e h1 h2 => absurd h2 (by omega)⟩
    rw [show i = 15 by omega, X11_anew_29, if_pos (by exact Int32.le_refl _)]
  | j + 1, m + 1, i, S, hij, hm => by
    have e1 : nI i + (1 : Int32) = nI (i + 1) := nI_1 i
    obtain ⟨S2, q1, q2, q3⟩ := anew_29_ok  j m (i + 1) (setJ S (176) (i) (0)) (by omega) (by omega)
    refine ⟨S2, fun K => ?_, ((sm_J S _ _ _).tr q2).mo (fun k q z => by omega), fun e h1 h2 => ?_⟩
    · rw [X11_anew_29, if_neg (by rw [show (15 : Int32) = nI 15 from rfl]; exact nI_ge (by omega) (by omega))]
      simp only [lt_e, e1, rfm, ck_n (show i < 15 by omega) (show 15 < 2147483648 by omega), ix_n (show i < 2147483648 by omega)]
      exact q1 K
    · by_cases he : e = i
      · subst he
        rw [(q2 (176) (e) (fun z => by omega)).2, sJ2, if_pos ⟨rfl, rfl⟩]
      · refine (q3 e (by omega) h2).trans ?_
        first | rfl | (simp only [sI1, sI2, sJ1, sJ2]; first | done | rfl | (repeat rw [if_neg (by omega)]))
theorem anew_50_ok  : ∀ (j m i : Nat) (S : St), i + j = 12 → j < m → ∃ S2, (∀ K : St → Int32 → Option (St × Int32), X11_anew_50 173 K m S (nI i) = K S2 (nI (12))) ∧ Sm (fun k q => k = 177 ∧ i ≤ q ∧ q < 12) S S2 ∧ ∀ e, i ≤ e → e < 12 → S2.2 (177) (e) = 0
  | 0, 0, _, _, _, h => absurd h (by omega)
  | j + 1, 0, _, _, _, h => absurd h (by omega)
  | 0, m + 1, i, S, hij, _ => by
    refine ⟨S, fun K => ?_, Sm.rf, fun e h1 h2 => absurd h2 (by omega)⟩
    rw [show i = 12 by omega, X11_anew_50, if_pos (by exact Int32.le_refl _)]
  | j + 1, m + 1, i, S, hij, hm => by
    have e1 : nI i + (1 : Int32) = nI (i + 1) := nI_1 i
    obtain ⟨S2, q1, q2, q3⟩ := anew_50_ok  j m (i + 1) (setJ S (177) (i) (0)) (by omega) (by omega)
    refine ⟨S2, fun K => ?_, ((sm_J S _ _ _).tr q2).mo (fun k q z => by omega), fun e h1 h2 => ?_⟩
    · rw [X11_anew_50, if_neg (by rw [show (12 : Int32) = nI 12 from rfl]; exact nI_ge (by omega) (by omega))]
      simp only [lt_e, e1, rfm, ck_n (show i < 12 by omega) (show 12 < 2147483648 by omega), ix_n (show i < 2147483648 by omega)]
      exact q1 K
    · by_cases he : e = i
      · subst he
        rw [(q2 (177) (e) (fun z => by omega)).2, sJ2, if_pos ⟨rfl, rfl⟩]
      · refine (q3 e (by omega) h2).trans ?_
        first | rfl | (simp only [sI1, sI2, sJ1, sJ2]; first | done | rfl | (repeat rw [if_neg (by omega)]))
theorem anew_111_ok  : ∀ (j m i : Nat) (S : St), i + j = 8 → j < m → ∃ S2, (∀ K : St → Int32 → Option (St × Int32), X11_anew_111 173 K m S (nI i) = K S2 (nI (8))) ∧ Sm (fun k q => k = 182 ∧ i ≤ q ∧ q < 8) S S2 ∧ ∀ e, i ≤ e → e < 8 → S2.1 (182) (e) = 0
  | 0, 0, _, _, _, h => absurd h (by omega)
  | j + 1, 0, _, _, _, h => absurd h (by omega)
  | 0, m + 1, i, S, hij, _ => by
    refine ⟨S, fun K => ?_, Sm.rf, fun e h1 h2 => absurd h2 (by omega)⟩
    rw [show i = 8 by omega, X11_anew_111, if_pos (by exact Int32.le_refl _)]
  | j + 1, m + 1, i, S, hij, hm => by
    have e1 : nI i + (1 : Int32) = nI (i + 1) := nI_1 i
    obtain ⟨S2, q1, q2, q3⟩ := anew_111_ok  j m (i + 1) (setI S (182) (i) (0)) (by omega) (by omega)
    refine ⟨S2, fun K => ?_, ((sm_I S _ _ _).tr q2).mo (fun k q z => by omega), fun e h1 h2 => ?_⟩
    · rw [X11_anew_111, if_neg (by rw [show (8 : Int32) = nI 8 from rfl]; exact nI_ge (by omega) (by omega))]
      simp only [lt_e, e1, rfm, ck_n (show i < 8 by omega) (show 8 < 2147483648 by omega), ix_n (show i < 2147483648 by omega)]
      exact q1 K
    · by_cases he : e = i
      · subst he
        rw [(q2 (182) (e) (fun z => by omega)).1, sI1, if_pos ⟨rfl, rfl⟩]
      · refine (q3 e (by omega) h2).trans ?_
        first | rfl | (simp only [sI1, sI2, sJ1, sJ2]; first | done | rfl | (repeat rw [if_neg (by omega)]))
theorem anew_44_ok  : ∀ (j m i : Nat) (S : St), i + j = 8 → j < m → ∃ S2, (∀ K : St → Int32 → Option (St × Int32), X10_anew_44 0 K m S (nI i) = K S2 (nI (8))) ∧ Sm (fun k q => k = 160 ∧ i ≤ q ∧ q < 8) S S2 ∧ ∀ e, i ≤ e → e < 8 → S2.1 (160) (e) = 0
  | 0, 0, _, _, _, h => absurd h (by omega)
  | j + 1, 0, _, _, _, h => absurd h (by omega)
  | 0, m + 1, i, S, hij, _ => by
    refine ⟨S, fun K => ?_, Sm.rf, fun e h1 h2 => absurd h2 (by omega)⟩
    rw [show i = 8 by omega, X10_anew_44, if_pos (by exact Int32.le_refl _)]
  | j + 1, m + 1, i, S, hij, hm => by
    have e1 : nI i + (1 : Int32) = nI (i + 1) := nI_1 i
    obtain ⟨S2, q1, q2, q3⟩ := anew_44_ok  j m (i + 1) (setI S (160) (i) (0)) (by omega) (by omega)
    refine ⟨S2, fun K => ?_, ((sm_I S _ _ _).tr q2).mo (fun k q z => by omega), fun e h1 h2 => ?_⟩
    · rw [X10_anew_44, if_neg (by rw [show (8 : Int32) = nI 8 from rfl]; exact nI_ge (by omega) (by omega))]
      simp only [lt_e, e1, rfs, ck_n (show i < 8 by omega) (show 8 < 2147483648 by omega), ix_n (show i < 2147483648 by omega)]
      exact q1 K
    · by_cases he : e = i
      · subst he
        rw [(q2 (160) (e) (fun z => by omega)).1, sI1, if_pos ⟨rfl, rfl⟩]
      · refine (q3 e (by omega) h2).trans ?_
        first | rfl | (simp only [sI1, sI2, sJ1, sJ2]; first | done | rfl | (repeat rw [if_neg (by omega)]))
theorem clear_24_ok {p : Nat} (hp : p < 12) : ∀ (j m i : Nat) (S : St), i + j = 15 → j < m → ∃ S2, (∀ K : St → Int32 → Option (St × Unit), X7_clear_24 1 (nI p) K m S (nI i) = K S2 (nI (15))) ∧ Sm (fun k q => k = 4 + p ∧ i ≤ q ∧ q < 15) S S2 ∧ ∀ e, i ≤ e → e < 15 → S2.1 (4 + p) (e) = 0
  | 0, 0, _, _, _, h => absurd h (by omega)
  | j + 1, 0, _, _, _, h => absurd h (by omega)
  | 0, m + 1, i, S, hij, _ => by
    refine ⟨S, fun K => ?_, Sm.rf, fun e h1 h2 => absurd h2 (by omega)⟩
    rw [show i = 15 by omega, X7_clear_24, if_pos (by exact Int32.le_refl _)]
  | j + 1, m + 1, i, S, hij, hm => by
    have e1 : nI i + (1 : Int32) = nI (i + 1) := nI_1 i
    obtain ⟨S2, q1, q2, q3⟩ := clear_24_ok (p := p) hp j m (i + 1) (setI S (4 + p) (i) (0)) (by omega) (by omega)
    refine ⟨S2, fun K => ?_, ((sm_I S _ _ _).tr q2).mo (fun k q z => by omega), fun e h1 h2 => ?_⟩
    · rw [X7_clear_24, if_neg (by rw [show (15 : Int32) = nI 15 from rfl]; exact nI_ge (by omega) (by omega))]
      simp only [lt_e, e1, rfs, rf_3, ck_n (show p < 12 by omega) (show 12 < 2147483648 by omega), ix_n (show p < 2147483648 by omega), ck_n (show i < 15 by omega) (show 15 < 2147483648 by omega), ix_n (show i < 2147483648 by omega)]
      exact q1 K
    · by_cases he : e = i
      · subst he
        rw [(q2 (4 + p) (e) (fun z => by omega)).1, sI1, if_pos ⟨rfl, rfl⟩]
      · refine (q3 e (by omega) h2).trans ?_
        first | rfl | (simp only [sI1, sI2, sJ1, sJ2]; first | done | rfl | (repeat rw [if_neg (by omega)]))
theorem clear_30_ok  : ∀ (j m i : Nat) (S : St), i + j = 3 → j < m → ∃ S2, (∀ K : St → Int32 → Option (St × Unit), X2_clear_30 17 K m S (nI i) = K S2 (nI (3))) ∧ Sm (fun k q => k = 19 ∧ i ≤ q ∧ q < 3) S S2 ∧ ∀ e, i ≤ e → e < 3 → S2.2 (19) (e) = 0
  | 0, 0, _, _, _, h => absurd h (by omega)
  | j + 1, 0, _, _, _, h => absurd h (by omega)
  | 0, m + 1, i, S, hij, _ => by
    refine ⟨S, fun K => ?_, Sm.rf, fun e h1 h2 => absurd h2 (by omega)⟩
    rw [show i = 3 by omega, X2_clear_30, if_pos (by exact Int32.le_refl _)]
  | j + 1, m + 1, i, S, hij, hm => by
    have e1 : nI i + (1 : Int32) = nI (i + 1) := nI_1 i
    obtain ⟨S2, q1, q2, q3⟩ := clear_30_ok  j m (i + 1) (setJ S (19) (i) (0)) (by omega) (by omega)
    refine ⟨S2, fun K => ?_, ((sm_J S _ _ _).tr q2).mo (fun k q z => by omega), fun e h1 h2 => ?_⟩
    · rw [X2_clear_30, if_neg (by rw [show (3 : Int32) = nI 3 from rfl]; exact nI_ge (by omega) (by omega))]
      simp only [lt_e, e1, rfs, ck_n (show i < 3 by omega) (show 3 < 2147483648 by omega), ix_n (show i < 2147483648 by omega)]
      exact q1 K
    · by_cases he : e = i
      · subst he
        rw [(q2 (19) (e) (fun z => by omega)).2, sJ2, if_pos ⟨rfl, rfl⟩]
      · refine (q3 e (by omega) h2).trans ?_
        first | rfl | (simp only [sI1, sI2, sJ1, sJ2]; first | done | rfl | (repeat rw [if_neg (by omega)]))
theorem store_163_ok {h : Nat} (hh : h < 20) : ∀ (j m i : Nat) (S : St), i + j = 15 → j < m → (S.1 173 30 = nI h) → ∃ S2, (∀ K : St → Int32 → Option (St × Unit), X11_store_163 173 K m S (nI i) = K S2 (nI (15))) ∧ Sm (fun k q => k = 188 ∧ 15 * h + i ≤ q ∧ q < 15 * h + 15) S S2 ∧ ∀ e, i ≤ e → e < 15 → S2.2 (188) (15 * h + e) = S.2 176 e
  | 0, 0, _, _, _, h, _ => absurd h (by omega)
  | j + 1, 0, _, _, _, h, _ => absurd h (by omega)
  | 0, m + 1, i, S, hij, _, hH => by
    refine ⟨S, fun K => ?_, Sm.rf, fun e h1 h2 => absurd h2 (by omega)⟩
    rw [show i = 15 by omega, X11_store_163, if_pos (by exact Int32.le_refl _)]
  | j + 1, m + 1, i, S, hij, hm, hH => by
    have e1 : nI i + (1 : Int32) = nI (i + 1) := nI_1 i
    have e0 : (15 : Int32) * nI h + nI i = nI (15 * h + i) := by rw [show (15 : Int32) = nI 15 from rfl, pk_mul, nI_add]
    obtain ⟨S2, q1, q2, q3⟩ := store_163_ok (h := h) hh j m (i + 1) (setJ S (188) (15 * h + i) (S.2 176 i)) (by omega) (by omega) (hH)
    refine ⟨S2, fun K => ?_, ((sm_J S _ _ _).tr q2).mo (fun k q z => by omega), fun e h1 h2 => ?_⟩
    · rw [X11_store_163, if_neg (by rw [show (15 : Int32) = nI 15 from rfl]; exact nI_ge (by omega) (by omega))]
      simp only [lt_e, e1, rfm, hH, e0, ck_n (show i < 15 by omega) (show 15 < 2147483648 by omega), ix_n (show i < 2147483648 by omega), ck_n (show 15 * h + i < 300 by omega) (show 300 < 2147483648 by omega), ix_n (show 15 * h + i < 2147483648 by omega)]
      exact q1 K
    · by_cases he : e = i
      · subst he
        rw [(q2 (188) (15 * h + e) (fun z => by omega)).2, sJ2, if_pos ⟨rfl, rfl⟩]
      · refine (q3 e (by omega) h2).trans ?_
        first | rfl | (simp only [sI1, sI2, sJ1, sJ2]; first | done | rfl | (repeat rw [if_neg (by omega)]))
theorem store_197_ok {h : Nat} (hh : h < 20) : ∀ (j m i : Nat) (S : St), i + j = 12 → j < m → (S.1 173 30 = nI h) → ∃ S2, (∀ K : St → Int32 → Option (St × Unit), X11_store_197 173 K m S (nI i) = K S2 (nI (12))) ∧ Sm (fun k q => k = 189 ∧ 12 * h + i ≤ q ∧ q < 12 * h + 12) S S2 ∧ ∀ e, i ≤ e → e < 12 → S2.2 (189) (12 * h + e) = S.2 177 e
  | 0, 0, _, _, _, h, _ => absurd h (by omega)
  | j + 1, 0, _, _, _, h, _ => absurd h (by omega)
  | 0, m + 1, i, S, hij, _, hH => by
    refine ⟨S, fun K => ?_, Sm.rf, fun e h1 h2 => absurd h2 (by omega)⟩
    rw [show i = 12 by omega, X11_store_197, if_pos (by exact Int32.le_refl _)]
  | j + 1, m + 1, i, S, hij, hm, hH => by
    have e1 : nI i + (1 : Int32) = nI (i + 1) := nI_1 i
    have e0 : (12 : Int32) * nI h + nI i = nI (12 * h + i) := by rw [show (12 : Int32) = nI 12 from rfl, pk_mul, nI_add]
    obtain ⟨S2, q1, q2, q3⟩ := store_197_ok (h := h) hh j m (i + 1) (setJ S (189) (12 * h + i) (S.2 177 i)) (by omega) (by omega) (hH)
    refine ⟨S2, fun K => ?_, ((sm_J S _ _ _).tr q2).mo (fun k q z => by omega), fun e h1 h2 => ?_⟩
    · rw [X11_store_197, if_neg (by rw [show (12 : Int32) = nI 12 from rfl]; exact nI_ge (by omega) (by omega))]
      simp only [lt_e, e1, rfm, hH, e0, ck_n (show i < 12 by omega) (show 12 < 2147483648 by omega), ix_n (show i < 2147483648 by omega), ck_n (show 12 * h + i < 240 by omega) (show 240 < 2147483648 by omega), ix_n (show 12 * h + i < 2147483648 by omega)]
      exact q1 K
    · by_cases he : e = i
      · subst he
        rw [(q2 (189) (12 * h + e) (fun z => by omega)).2, sJ2, if_pos ⟨rfl, rfl⟩]
      · refine (q3 e (by omega) h2).trans ?_
        first | rfl | (simp only [sI1, sI2, sJ1, sJ2]; first | done | rfl | (repeat rw [if_neg (by omega)]))
theorem store_231_ok {h : Nat} (hh : h < 20) : ∀ (j m i : Nat) (S : St), i + j = 12 → j < m → (S.1 173 30 = nI h) → ∃ S2, (∀ K : St → Int32 → Option (St × Unit), X11_store_231 173 K m S (nI i) = K S2 (nI (12))) ∧ Sm (fun k q => k = 191 ∧ 12 * h + i ≤ q ∧ q < 12 * h + 12) S S2 ∧ ∀ e, i ≤ e → e < 12 → S2.1 (191) (12 * h + e) = S.1 179 e
  | 0, 0, _, _, _, h, _ => absurd h (by omega)
  | j + 1, 0, _, _, _, h, _ => absurd h (by omega)
  | 0, m + 1, i, S, hij, _, hH => by
    refine ⟨S, fun K => ?_, Sm.rf, fun e h1 h2 => absurd h2 (by omega)⟩
    rw [show i = 12 by omega, X11_store_231, if_pos (by exact Int32.le_refl _)]
  | j + 1, m + 1, i, S, hij, hm, hH => by
    have e1 : nI i + (1 : Int32) = nI (i + 1) := nI_1 i
    have e0 : (12 : Int32) * nI h + nI i = nI (12 * h + i) := by rw [show (12 : Int32) = nI 12 from rfl, pk_mul, nI_add]
    obtain ⟨S2, q1, q2, q3⟩ := store_231_ok (h := h) hh j m (i + 1) (setI S (191) (12 * h + i) (S.1 179 i)) (by omega) (by omega) (by rw [sI1, if_neg (by omega)]; exact hH)
    refine ⟨S2, fun K => ?_, ((sm_I S _ _ _).tr q2).mo (fun k q z => by omega), fun e h1 h2 => ?_⟩
    · rw [X11_store_231, if_neg (by rw [show (12 : Int32) = nI 12 from rfl]; exact nI_ge (by omega) (by omega))]
      simp only [lt_e, e1, rfm, hH, e0, ck_n (show i < 12 by omega) (show 12 < 2147483648 by omega), ix_n (show i < 2147483648 by omega), ck_n (show 12 * h + i < 240 by omega) (show 240 < 2147483648 by omega), ix_n (show 12 * h + i < 2147483648 by omega)]
      exact q1 K
    · by_cases he : e = i
      · subst he
        rw [(q2 (191) (12 * h + e) (fun z => by omega)).1, sI1, if_pos ⟨rfl, rfl⟩]
      · refine (q3 e (by omega) h2).trans ?_
        first | rfl | (simp only [sI1, sI2, sJ1, sJ2]; first | done | rfl | (repeat rw [if_neg (by omega)]))
theorem store_11_ok  : ∀ (j m i : Nat) (S : St), i + j = 285 → j < m → ∃ S2, (∀ K : St → Int32 → Option (St × Unit), X11_store_11 173 K m S (nI i) = K S2 (nI (285))) ∧ Sm (fun k q => k = 188 ∧ i ≤ q ∧ q < 285) S S2 ∧ ∀ e, i ≤ e → e < 285 → S2.2 (188) (e) = S.2 188 (e + 15)
  | 0, 0, _, _, _, h => absurd h (by omega)
  | j + 1, 0, _, _, _, h => absurd h (by omega)
  | 0, m + 1, i, S, hij, _ => by
    refine ⟨S, fun K => ?_, Sm.rf, fun e h1 h2 => absurd h2 (by omega)⟩
    rw [show i = 285 by omega, X11_store_11, if_pos (by exact Int32.le_refl _)]
  | j + 1, m + 1, i, S, hij, hm => by
    have e1 : nI i + (1 : Int32) = nI (i + 1) := nI_1 i
    have e2 : nI i + (15 : Int32) = nI (i + 15) := nI_add i 15
    obtain ⟨S2, q1, q2, q3⟩ := store_11_ok  j m (i + 1) (setJ S (188) (i) (S.2 188 (i + 15))) (by omega) (by omega)
    refine ⟨S2, fun K => ?_, ((sm_J S _ _ _).tr q2).mo (fun k q z => by omega), fun e h1 h2 => ?_⟩
    · rw [X11_store_11, if_neg (by rw [show (285 : Int32) = nI 285 from rfl]; exact nI_ge (by omega) (by omega))]
      simp only [lt_e, e1, rfm, e2, ck_n (show i + 15 < 300 by omega) (show 300 < 2147483648 by omega), ix_n (show i + 15 < 2147483648 by omega), ck_n (show i < 300 by omega) (show 300 < 2147483648 by omega), ix_n (show i < 2147483648 by omega)]
      exact q1 K
    · by_cases he : e = i
      · subst he
        rw [(q2 (188) (e) (fun z => by omega)).2, sJ2, if_pos ⟨rfl, rfl⟩]
      · refine (q3 e (by omega) h2).trans ?_
        first | rfl | (simp only [sI1, sI2, sJ1, sJ2]; first | done | rfl | (repeat rw [if_neg (by omega)]))
theorem store_41_ok  : ∀ (j m i : Nat) (S : St), i + j = 228 → j < m → ∃ S2, (∀ K : St → Int32 → Option (St × Unit), X11_store_41 173 K m S (nI i) = K S2 (nI (228))) ∧ Sm (fun k q => k = 189 ∧ i ≤ q ∧ q < 228) S S2 ∧ ∀ e, i ≤ e → e < 228 → S2.2 (189) (e) = S.2 189 (e + 12)
  | 0, 0, _, _, _, h => absurd h (by omega)
  | j + 1, 0, _, _, _, h => absurd h (by omega)
  | 0, m + 1, i, S, hij, _ => by
    refine ⟨S, fun K => ?_, Sm.rf, fun e h1 h2 => absurd h2 (by omega)⟩
    rw [show i = 228 by omega, X11_store_41, if_pos (by exact Int32.le_refl _)]
  | j + 1, m + 1, i, S, hij, hm => by
    have e1 : nI i + (1 : Int32) = nI (i + 1) := nI_1 i
    have e2 : nI i + (12 : Int32) = nI (i + 12) := nI_add i 12
    obtain ⟨S2, q1, q2, q3⟩ := store_41_ok  j m (i + 1) (setJ S (189) (i) (S.2 189 (i + 12))) (by omega) (by omega)
    refine ⟨S2, fun K => ?_, ((sm_J S _ _ _).tr q2).mo (fun k q z => by omega), fun e h1 h2 => ?_⟩
    · rw [X11_store_41, if_neg (by rw [show (228 : Int32) = nI 228 from rfl]; exact nI_ge (by omega) (by omega))]
      simp only [lt_e, e1, rfm, e2, ck_n (show i + 12 < 240 by omega) (show 240 < 2147483648 by omega), ix_n (show i + 12 < 2147483648 by omega), ck_n (show i < 240 by omega) (show 240 < 2147483648 by omega), ix_n (show i < 2147483648 by omega)]
      exact q1 K
    · by_cases he : e = i
      · subst he
        rw [(q2 (189) (e) (fun z => by omega)).2, sJ2, if_pos ⟨rfl, rfl⟩]
      · refine (q3 e (by omega) h2).trans ?_
        first | rfl | (simp only [sI1, sI2, sJ1, sJ2]; first | done | rfl | (repeat rw [if_neg (by omega)]))
theorem store_71_ok  : ∀ (j m i : Nat) (S : St), i + j = 228 → j < m → ∃ S2, (∀ K : St → Int32 → Option (St × Unit), X11_store_71 173 K m S (nI i) = K S2 (nI (228))) ∧ Sm (fun k q => k = 191 ∧ i ≤ q ∧ q < 228) S S2 ∧ ∀ e, i ≤ e → e < 228 → S2.1 (191) (e) = S.1 191 (e + 12)
  | 0, 0, _, _, _, h => absurd h (by omega)
  | j + 1, 0, _, _, _, h => absurd h (by omega)
  | 0, m + 1, i, S, hij, _ => by
    refine ⟨S, fun K => ?_, Sm.rf, fun e h1 h2 => absurd h2 (by omega)⟩
    rw [show i = 228 by omega, X11_store_71, if_pos (by exact Int32.le_refl _)]
  | j + 1, m + 1, i, S, hij, hm => by
    have e1 : nI i + (1 : Int32) = nI (i + 1) := nI_1 i
    have e2 : nI i + (12 : Int32) = nI (i + 12) := nI_add i 12
    obtain ⟨S2, q1, q2, q3⟩ := store_71_ok  j m (i + 1) (setI S (191) (i) (S.1 191 (i + 12))) (by omega) (by omega)
    refine ⟨S2, fun K => ?_, ((sm_I S _ _ _).tr q2).mo (fun k q z => by omega), fun e h1 h2 => ?_⟩
    · rw [X11_store_71, if_neg (by rw [show (228 : Int32) = nI 228 from rfl]; exact nI_ge (by omega) (by omega))]
      simp only [lt_e, e1, rfm, e2, ck_n (show i + 12 < 240 by omega) (show 240 < 2147483648 by omega), ix_n (show i + 12 < 2147483648 by omega), ck_n (show i < 240 by omega) (show 240 < 2147483648 by omega), ix_n (show i < 2147483648 by omega)]
      exact q1 K
    · by_cases he : e = i
      · subst he
        rw [(q2 (191) (e) (fun z => by omega)).1, sI1, if_pos ⟨rfl, rfl⟩]
      · refine (q3 e (by omega) h2).trans ?_
        first | rfl | (simp only [sI1, sI2, sJ1, sJ2]; first | done | rfl | (repeat rw [if_neg (by omega)]))
theorem store_101_ok  : ∀ (j m i : Nat) (S : St), i + j = 19 → j < m → ∃ S2, (∀ K : St → Int32 → Option (St × Unit), X11_store_101 173 K m S (nI i) = K S2 (nI (19))) ∧ Sm (fun k q => k = 190 ∧ i ≤ q ∧ q < 19) S S2 ∧ ∀ e, i ≤ e → e < 19 → S2.2 (190) (e) = S.2 190 (e + 1)
  | 0, 0, _, _, _, h => absurd h (by omega)
  | j + 1, 0, _, _, _, h => absurd h (by omega)
  | 0, m + 1, i, S, hij, _ => by
    refine ⟨S, fun K => ?_, Sm.rf, fun e h1 h2 => absurd h2 (by omega)⟩
    rw [show i = 19 by omega, X11_store_101, if_pos (by exact Int32.le_refl _)]
  | j + 1, m + 1, i, S, hij, hm => by
    have e1 : nI i + (1 : Int32) = nI (i + 1) := nI_1 i
    obtain ⟨S2, q1, q2, q3⟩ := store_101_ok  j m (i + 1) (setJ S (190) (i) (S.2 190 (i + 1))) (by omega) (by omega)
    refine ⟨S2, fun K => ?_, ((sm_J S _ _ _).tr q2).mo (fun k q z => by omega), fun e h1 h2 => ?_⟩
    · rw [X11_store_101, if_neg (by rw [show (19 : Int32) = nI 19 from rfl]; exact nI_ge (by omega) (by omega))]
      simp only [lt_e, e1, rfm, ck_n (show i + 1 < 20 by omega) (show 20 < 2147483648 by omega), ix_n (show i + 1 < 2147483648 by omega), ck_n (show i < 20 by omega) (show 20 < 2147483648 by omega), ix_n (show i < 2147483648 by omega)]
      exact q1 K
    · by_cases he : e = i
      · subst he
        rw [(q2 (190) (e) (fun z => by omega)).2, sJ2, if_pos ⟨rfl, rfl⟩]
      · refine (q3 e (by omega) h2).trans ?_
        first | rfl | (simp only [sI1, sI2, sJ1, sJ2]; first | done | rfl | (repeat rw [if_neg (by omega)]))
theorem store_129_ok  : ∀ (j m i : Nat) (S : St), i + j = 19 → j < m → ∃ S2, (∀ K : St → Int32 → Option (St × Unit), X11_store_129 173 K m S (nI i) = K S2 (nI (19))) ∧ Sm (fun k q => k = 192 ∧ i ≤ q ∧ q < 19) S S2 ∧ ∀ e, i ≤ e → e < 19 → S2.1 (192) (e) = S.1 192 (e + 1)
  | 0, 0, _, _, _, h => absurd h (by omega)
  | j + 1, 0, _, _, _, h => absurd h (by omega)
  | 0, m + 1, i, S, hij, _ => by
    refine ⟨S, fun K => ?_, Sm.rf, fun e h1 h2 => absurd h2 (by omega)⟩
    rw [show i = 19 by omega, X11_store_129, if_pos (by exact Int32.le_refl _)]
  | j + 1, m + 1, i, S, hij, hm => by
    have e1 : nI i + (1 : Int32) = nI (i + 1) := nI_1 i
    obtain ⟨S2, q1, q2, q3⟩ := store_129_ok  j m (i + 1) (setI S (192) (i) (S.1 192 (i + 1))) (by omega) (by omega)
    refine ⟨S2, fun K => ?_, ((sm_I S _ _ _).tr q2).mo (fun k q z => by omega), fun e h1 h2 => ?_⟩
    · rw [X11_store_129, if_neg (by rw [show (19 : Int32) = nI 19 from rfl]; exact nI_ge (by omega) (by omega))]
      simp only [lt_e, e1, rfm, ck_n (show i + 1 < 20 by omega) (show 20 < 2147483648 by omega), ix_n (show i + 1 < 2147483648 by omega), ck_n (show i < 20 by omega) (show 20 < 2147483648 by omega), ix_n (show i < 2147483648 by omega)]
      exact q1 K
    · by_cases he : e = i
      · subst he
        rw [(q2 (192) (e) (fun z => by omega)).1, sI1, if_pos ⟨rfl, rfl⟩]
      · refine (q3 e (by omega) h2).trans ?_
        first | rfl | (simp only [sI1, sI2, sJ1, sJ2]; first | done | rfl | (repeat rw [if_neg (by omega)]))
theorem undo_26_ok {h : Nat} (hh : h < 20) : ∀ (j m i : Nat) (S : St), i + j = 15 → j < m → (S.1 173 30 = nI h) → ∃ S2, (∀ K : St → Int32 → Option (St × Int32), X11_undo_26 173 K m S (nI i) = K S2 (nI (15))) ∧ Sm (fun k q => k = 176 ∧ i ≤ q ∧ q < 15) S S2 ∧ ∀ e, i ≤ e → e < 15 → S2.2 (176) (e) = S.2 188 (15 * h + e)
  | 0, 0, _, _, _, h, _ => absurd h (by omega)
  | j + 1, 0, _, _, _, h, _ => absurd h (by omega)
  | 0, m + 1, i, S, hij, _, hH => by
    refine ⟨S, fun K => ?_, Sm.rf, fun e h1 h2 => absurd h2 (by omega)⟩
    rw [show i = 15 by omega, X11_undo_26, if_pos (by exact Int32.le_refl _)]
  | j + 1, m + 1, i, S, hij, hm, hH => by
    have e1 : nI i + (1 : Int32) = nI (i + 1) := nI_1 i
    have e0 : (15 : Int32) * nI h + nI i = nI (15 * h + i) := by rw [show (15 : Int32) = nI 15 from rfl, pk_mul, nI_add]
    obtain ⟨S2, q1, q2, q3⟩ := undo_26_ok (h := h) hh j m (i + 1) (setJ S (176) (i) (S.2 188 (15 * h + i))) (by omega) (by omega) (hH)
    refine ⟨S2, fun K => ?_, ((sm_J S _ _ _).tr q2).mo (fun k q z => by omega), fun e h1 h2 => ?_⟩
    · rw [X11_undo_26, if_neg (by rw [show (15 : Int32) = nI 15 from rfl]; exact nI_ge (by omega) (by omega))]
      simp only [lt_e, e1, rfm, hH, e0, ck_n (show i < 15 by omega) (show 15 < 2147483648 by omega), ix_n (show i < 2147483648 by omega), ck_n (show 15 * h + i < 300 by omega) (show 300 < 2147483648 by omega), ix_n (show 15 * h + i < 2147483648 by omega)]
      exact q1 K
    · by_cases he : e = i
      · subst he
        rw [(q2 (176) (e) (fun z => by omega)).2, sJ2, if_pos ⟨rfl, rfl⟩]
      · refine (q3 e (by omega) h2).trans ?_
        first | rfl | (simp only [sI1, sI2, sJ1, sJ2]; first | done | rfl | (repeat rw [if_neg (by omega)]))
theorem undo_60_ok {h : Nat} (hh : h < 20) : ∀ (j m i : Nat) (S : St), i + j = 12 → j < m → (S.1 173 30 = nI h) → ∃ S2, (∀ K : St → Int32 → Option (St × Int32), X11_undo_60 173 K m S (nI i) = K S2 (nI (12))) ∧ Sm (fun k q => k = 177 ∧ i ≤ q ∧ q < 12) S S2 ∧ ∀ e, i ≤ e → e < 12 → S2.2 (177) (e) = S.2 189 (12 * h + e)
  | 0, 0, _, _, _, h, _ => absurd h (by omega)
  | j + 1, 0, _, _, _, h, _ => absurd h (by omega)
  | 0, m + 1, i, S, hij, _, hH => by
    refine ⟨S, fun K => ?_, Sm.rf, fun e h1 h2 => absurd h2 (by omega)⟩
    rw [show i = 12 by omega, X11_undo_60, if_pos (by exact Int32.le_refl _)]
  | j + 1, m + 1, i, S, hij, hm, hH => by
    have e1 : nI i + (1 : Int32) = nI (i + 1) := nI_1 i
    have e0 : (12 : Int32) * nI h + nI i = nI (12 * h + i) := by rw [show (12 : Int32) = nI 12 from rfl, pk_mul, nI_add]
    obtain ⟨S2, q1, q2, q3⟩ := undo_60_ok (h := h) hh j m (i + 1) (setJ S (177) (i) (S.2 189 (12 * h + i))) (by omega) (by omega) (hH)
    refine ⟨S2, fun K => ?_, ((sm_J S _ _ _).tr q2).mo (fun k q z => by omega), fun e h1 h2 => ?_⟩
    · rw [X11_undo_60, if_neg (by rw [show (12 : Int32) = nI 12 from rfl]; exact nI_ge (by omega) (by omega))]
      simp only [lt_e, e1, rfm, hH, e0, ck_n (show i < 12 by omega) (show 12 < 2147483648 by omega), ix_n (show i < 2147483648 by omega), ck_n (show 12 * h + i < 240 by omega) (show 240 < 2147483648 by omega), ix_n (show 12 * h + i < 2147483648 by omega)]
      exact q1 K
    · by_cases he : e = i
      · subst he
        rw [(q2 (177) (e) (fun z => by omega)).2, sJ2, if_pos ⟨rfl, rfl⟩]
      · refine (q3 e (by omega) h2).trans ?_
        first | rfl | (simp only [sI1, sI2, sJ1, sJ2]; first | done | rfl | (repeat rw [if_neg (by omega)]))
theorem undo_94_ok {h : Nat} (hh : h < 20) : ∀ (j m i : Nat) (S : St), i + j = 12 → j < m → (S.1 173 30 = nI h) → ∃ S2, (∀ K : St → Int32 → Option (St × Int32), X11_undo_94 173 K m S (nI i) = K S2 (nI (12))) ∧ Sm (fun k q => k = 179 ∧ i ≤ q ∧ q < 12) S S2 ∧ ∀ e, i ≤ e → e < 12 → S2.1 (179) (e) = S.1 191 (12 * h + e)
  | 0, 0, _, _, _, h, _ => absurd h (by omega)
  | j + 1, 0, _, _, _, h, _ => absurd h (by omega)
  | 0, m + 1, i, S, hij, _, hH => by
    refine ⟨S, fun K => ?_, Sm.rf, fun e h1 h2 => absurd h2 (by omega)⟩
    rw [show i = 12 by omega, X11_undo_94, if_pos (by exact Int32.le_refl _)]
  | j + 1, m + 1, i, S, hij, hm, hH => by
    have e1 : nI i + (1 : Int32) = nI (i + 1) := nI_1 i
    have e0 : (12 : Int32) * nI h + nI i = nI (12 * h + i) := by rw [show (12 : Int32) = nI 12 from rfl, pk_mul, nI_add]
    obtain ⟨S2, q1, q2, q3⟩ := undo_94_ok (h := h) hh j m (i + 1) (setI S (179) (i) (S.1 191 (12 * h + i))) (by omega) (by omega) (by rw [sI1, if_neg (by omega)]; exact hH)
    refine ⟨S2, fun K => ?_, ((sm_I S _ _ _).tr q2).mo (fun k q z => by omega), fun e h1 h2 => ?_⟩
    · rw [X11_undo_94, if_neg (by rw [show (12 : Int32) = nI 12 from rfl]; exact nI_ge (by omega) (by omega))]
      simp only [lt_e, e1, rfm, hH, e0, ck_n (show i < 12 by omega) (show 12 < 2147483648 by omega), ix_n (show i < 2147483648 by omega), ck_n (show 12 * h + i < 240 by omega) (show 240 < 2147483648 by omega), ix_n (show 12 * h + i < 2147483648 by omega)]
      exact q1 K
    · by_cases he : e = i
      · subst he
        rw [(q2 (179) (e) (fun z => by omega)).1, sI1, if_pos ⟨rfl, rfl⟩]
      · refine (q3 e (by omega) h2).trans ?_
        first | rfl | (simp only [sI1, sI2, sJ1, sJ2]; first | done | rfl | (repeat rw [if_neg (by omega)]))
theorem manner_121_ok {n : Nat} (hn : n ≤ 12) (a b : Int32) : ∀ (j m i : Nat) (S : St), i + j = n → j < m → (S.1 173 0 = nI n) → ∃ S2, (∀ K : St → Int32 → Option (St × Int32), X11_manner_121 173 a b K m S (nI i) = K S2 (nI (n))) ∧ Sm (fun k q => k = 178 ∧ i ≤ q ∧ q < n) S S2 ∧ ∀ e, i ≤ e → e < n → S2.1 (178) (e) = S.1 187 e
  | 0, 0, _, _, _, h, _ => absurd h (by omega)
  | j + 1, 0, _, _, _, h, _ => absurd h (by omega)
  | 0, m + 1, i, S, hij, _, hH => by
    refine ⟨S, fun K => ?_, Sm.rf, fun e h1 h2 => absurd h2 (by omega)⟩
    rw [show i = n by omega, X11_manner_121, if_pos (by rw [hH]; exact Int32.le_refl _)]
  | j + 1, m + 1, i, S, hij, hm, hH => by
    have e1 : nI i + (1 : Int32) = nI (i + 1) := nI_1 i
    obtain ⟨S2, q1, q2, q3⟩ := manner_121_ok (n := n) hn a b j m (i + 1) (setI S (178) (i) (S.1 187 i)) (by omega) (by omega) (by rw [sI1, if_neg (by omega)]; exact hH)
    refine ⟨S2, fun K => ?_, ((sm_I S _ _ _).tr q2).mo (fun k q z => by omega), fun e h1 h2 => ?_⟩
    · rw [X11_manner_121, if_neg (by rw [hH]; exact nI_ge (by omega) (by omega))]
      simp only [lt_e, e1, rfm, ck_n (show i < 200 by omega) (show 200 < 2147483648 by omega), ck_n (show i < 12 by omega) (show 12 < 2147483648 by omega), ix_n (show i < 2147483648 by omega)]
      exact q1 K
    · by_cases he : e = i
      · subst he
        rw [(q2 (178) (e) (fun z => by omega)).1, sI1, if_pos ⟨rfl, rfl⟩]
      · refine (q3 e (by omega) h2).trans ?_
        first | rfl | (simp only [sI1, sI2, sJ1, sJ2]; first | done | rfl | (repeat rw [if_neg (by omega)]))
theorem copy_125_ok {t f l : Nat} (ht : t < 4) (hf : f + l ≤ 16) (u v : Int32) : ∀ (j m i : Nat) (S : St), i + j = l → j < m → ∃ S2, (∀ K : St → Int32 → Option (St × Int32), X11_copy_125 173 (nI t) (nI f) u v (nI l) K m S (nI i) = K S2 (nI (l))) ∧ Sm (fun k q => k = 198 ∧ i ≤ q ∧ q < l) S S2 ∧ ∀ e, i ≤ e → e < l → S2.2 (198) (e) = S.2 186 (16 * t + f + e)
  | 0, 0, _, _, _, h => absurd h (by omega)
  | j + 1, 0, _, _, _, h => absurd h (by omega)
  | 0, m + 1, i, S, hij, _ => by
    refine ⟨S, fun K => ?_, Sm.rf, fun e h1 h2 => absurd h2 (by omega)⟩
    rw [show i = l by omega, X11_copy_125, if_pos (by exact Int32.le_refl _)]
  | j + 1, m + 1, i, S, hij, hm => by
    have e1 : nI i + (1 : Int32) = nI (i + 1) := nI_1 i
    have e0 : (16 : Int32) * nI t + nI f + nI i = nI (16 * t + f + i) := by rw [show (16 : Int32) = nI 16 from rfl, pk_mul, nI_add, nI_add]
    obtain ⟨S2, q1, q2, q3⟩ := copy_125_ok (t := t) (f := f) (l := l) ht hf u v j m (i + 1) (setJ S (198) (i) (S.2 186 (16 * t + f + i))) (by omega) (by omega)
    refine ⟨S2, fun K => ?_, ((sm_J S _ _ _).tr q2).mo (fun k q z => by omega), fun e h1 h2 => ?_⟩
    · rw [X11_copy_125, if_neg (by exact nI_ge (by omega) (by omega))]
      simp only [lt_e, e1, rfm, e0, ck_n (show 16 * t + f + i < 64 by omega) (show 64 < 2147483648 by omega), ix_n (show 16 * t + f + i < 2147483648 by omega), ck_n (show i < 16 by omega) (show 16 < 2147483648 by omega), ix_n (show i < 2147483648 by omega)]
      exact q1 K
    · by_cases he : e = i
      · subst he
        rw [(q2 (198) (e) (fun z => by omega)).2, sJ2, if_pos ⟨rfl, rfl⟩]
      · refine (q3 e (by omega) h2).trans ?_
        first | rfl | (simp only [sI1, sI2, sJ1, sJ2]; first | done | rfl | (repeat rw [if_neg (by omega)]))
theorem copy_162_ok {t f l : Nat} (ht : t < 4) (hf : f + l ≤ 16) : ∀ (j m i : Nat) (S : St), i + j = l → j < m → ∃ S2, (∀ K : St → Int32 → Option (St × Int32), X11_copy_162 173 (nI t) (nI f) (nI l) K m S (nI i) = K S2 (nI (l))) ∧ Sm (fun k q => k = 186 ∧ 16 * t + f + i ≤ q ∧ q < 16 * t + f + l) S S2 ∧ ∀ e, i ≤ e → e < l → S2.2 (186) (16 * t + f + e) = S.2 198 e
  | 0, 0, _, _, _, h => absurd h (by omega)
  | j + 1, 0, _, _, _, h => absurd h (by omega)
  | 0, m + 1, i, S, hij, _ => by
    refine ⟨S, fun K => ?_, Sm.rf, fun e h1 h2 => absurd h2 (by omega)⟩
    rw [show i = l by omega, X11_copy_162, if_pos (by exact Int32.le_refl _)]
  | j + 1, m + 1, i, S, hij, hm => by
    have e1 : nI i + (1 : Int32) = nI (i + 1) := nI_1 i
    have e0 : (16 : Int32) * nI t + nI f + nI i = nI (16 * t + f + i) := by rw [show (16 : Int32) = nI 16 from rfl, pk_mul, nI_add, nI_add]
    obtain ⟨S2, q1, q2, q3⟩ := copy_162_ok (t := t) (f := f) (l := l) ht hf j m (i + 1) (setJ S (186) (16 * t + f + i) (S.2 198 i)) (by omega) (by omega)
    refine ⟨S2, fun K => ?_, ((sm_J S _ _ _).tr q2).mo (fun k q z => by omega), fun e h1 h2 => ?_⟩
    · rw [X11_copy_162, if_neg (by exact nI_ge (by omega) (by omega))]
      simp only [lt_e, e1, rfm, e0, ck_n (show 16 * t + f + i < 64 by omega) (show 64 < 2147483648 by omega), ix_n (show 16 * t + f + i < 2147483648 by omega), ck_n (show i < 16 by omega) (show 16 < 2147483648 by omega), ix_n (show i < 2147483648 by omega)]
      exact q1 K
    · by_cases he : e = i
      · subst he
        rw [(q2 (186) (16 * t + f + e) (fun z => by omega)).2, sJ2, if_pos ⟨rfl, rfl⟩]
      · refine (q3 e (by omega) h2).trans ?_
        first | rfl | (simp only [sI1, sI2, sJ1, sJ2]; first | done | rfl | (repeat rw [if_neg (by omega)]))
theorem plus_69_ok {n a b : Nat} (hn : n ≤ 12) (ha : a < 8) (hb : b < 8) (v : Int32) : ∀ (j m i : Nat) (S : St), i + j = n → j < m → (S.1 1 3 = nI n) → ∃ S2, (∀ K : St → Int32 → Option (St × Int32), X10_plus_69 0 (nI a) (nI b) v K m S (nI i) = K S2 (nI (n))) ∧ Sm (fun k q => k = 22 ∧ i ≤ q ∧ q < n) S S2 ∧ ∀ e, i ≤ e → e < n → S2.1 (22) (e) = S.1 (152 + a) e + S.1 (152 + b) e
  | 0, 0, _, _, _, h, _ => absurd h (by omega)
  | j + 1, 0, _, _, _, h, _ => absurd h (by omega)
  | 0, m + 1, i, S, hij, _, hH => by
    refine ⟨S, fun K => ?_, Sm.rf, fun e h1 h2 => absurd h2 (by omega)⟩
    rw [show i = n by omega, X10_plus_69, if_pos (by simp only [rfs, hH]; exact Int32.le_refl _)]
  | j + 1, m + 1, i, S, hij, hm, hH => by
    have e1 : nI i + (1 : Int32) = nI (i + 1) := nI_1 i
    obtain ⟨S2, q1, q2, q3⟩ := plus_69_ok (n := n) (a := a) (b := b) hn ha hb v j m (i + 1) (setI S (22) (i) (S.1 (152 + a) i + S.1 (152 + b) i)) (by omega) (by omega) (by rw [sI1, if_neg (by omega)]; exact hH)
    refine ⟨S2, fun K => ?_, ((sm_I S _ _ _).tr q2).mo (fun k q z => by omega), fun e h1 h2 => ?_⟩
    · rw [X10_plus_69, if_neg (by simp only [rfs, hH]; exact nI_ge (by omega) (by omega))]
      simp only [lt_e, e1, rfs, rf_151, ck_n (show a < 8 by omega) (show 8 < 2147483648 by omega), ix_n (show a < 2147483648 by omega), ck_n (show b < 8 by omega) (show 8 < 2147483648 by omega), ix_n (show b < 2147483648 by omega), ck_n (show i < 12 by omega) (show 12 < 2147483648 by omega), ix_n (show i < 2147483648 by omega)]
      exact q1 K
    · by_cases he : e = i
      · subst he
        rw [(q2 (22) (e) (fun z => by omega)).1, sI1, if_pos ⟨rfl, rfl⟩]
      · refine (q3 e (by omega) h2).trans ?_
        first | rfl | (simp only [sI1, sI2, sJ1, sJ2]; first | done | rfl | (repeat rw [if_neg (by omega)]))
theorem plusM_69_ok {n a b : Nat} (hn : n ≤ 12) (ha : a < 8) (hb : b < 8) (v : Int32) : ∀ (j m i : Nat) (S : St), i + j = n → j < m → (S.1 173 0 = nI n) → ∃ S2, (∀ K : St → Int32 → Option (St × Int32), X11_plus_69 173 (nI a) (nI b) v K m S (nI i) = K S2 (nI (n))) ∧ Sm (fun k q => k = 194 ∧ i ≤ q ∧ q < n) S S2 ∧ ∀ e, i ≤ e → e < n → S2.2 (194) (e) = S.2 181 (12 * a + e) + S.2 181 (12 * b + e)
  | 0, 0, _, _, _, h, _ => absurd h (by omega)
  | j + 1, 0, _, _, _, h, _ => absurd h (by omega)
  | 0, m + 1, i, S, hij, _, hH => by
    refine ⟨S, fun K => ?_, Sm.rf, fun e h1 h2 => absurd h2 (by omega)⟩
    rw [show i = n by omega, X11_plus_69, if_pos (by rw [hH]; exact Int32.le_refl _)]
  | j + 1, m + 1, i, S, hij, hm, hH => by
    have e1 : nI i + (1 : Int32) = nI (i + 1) := nI_1 i
    have e0 : (12 : Int32) * nI a + nI i = nI (12 * a + i) := by rw [show (12 : Int32) = nI 12 from rfl, pk_mul, nI_add]
    have e2 : (12 : Int32) * nI b + nI i = nI (12 * b + i) := by rw [show (12 : Int32) = nI 12 from rfl, pk_mul, nI_add]
    obtain ⟨S2, q1, q2, q3⟩ := plusM_69_ok (n := n) (a := a) (b := b) hn ha hb v j m (i + 1) (setJ S (194) (i) (S.2 181 (12 * a + i) + S.2 181 (12 * b + i))) (by omega) (by omega) (hH)
    refine ⟨S2, fun K => ?_, ((sm_J S _ _ _).tr q2).mo (fun k q z => by omega), fun e h1 h2 => ?_⟩
    · rw [X11_plus_69, if_neg (by rw [hH]; exact nI_ge (by omega) (by omega))]
      simp only [lt_e, e1, rfm, e0, e2, ck_n (show 12 * a + i < 96 by omega) (show 96 < 2147483648 by omega), ix_n (show 12 * a + i < 2147483648 by omega), ck_n (show 12 * b + i < 96 by omega) (show 96 < 2147483648 by omega), ix_n (show 12 * b + i < 2147483648 by omega), ck_n (show i < 15 by omega) (show 15 < 2147483648 by omega), ix_n (show i < 2147483648 by omega)]
      exact q1 K
    · by_cases he : e = i
      · subst he
        rw [(q2 (194) (e) (fun z => by omega)).2, sJ2, if_pos ⟨rfl, rfl⟩]
      · refine (q3 e (by omega) h2).trans ?_
        first | rfl | (simp only [sI1, sI2, sJ1, sJ2]; first | done | rfl | (repeat rw [if_neg (by omega)]))
theorem findA_2_ok {n : Nat} (hn : n ≤ 12) : ∀ (j m i : Nat) (S : St), i + j = n → j < m → (S.1 1 3 = nI n) → ∃ S2, (∀ K : St → Int32 → Option (St × Int32), X10_findLeftOfA_2 0 K m S (nI i) = K S2 (nI (n))) ∧ Sm (fun k q => k = 172 ∧ i ≤ q ∧ q < n) S S2 ∧ ∀ e, i ≤ e → e < n → S2.1 (172) (e) = 2 * (S.1 16 e - 1)
  | 0, 0, _, _, _, h, _ => absurd h (by omega)
  | j + 1, 0, _, _, _, h, _ => absurd h (by omega)
  | 0, m + 1, i, S, hij, _, hH => by
    refine ⟨S, fun K => ?_, Sm.rf, fun e h1 h2 => absurd h2 (by omega)⟩
    rw [show i = n by omega, X10_findLeftOfA_2, if_pos (by simp only [rfs, hH]; exact Int32.le_refl _)]
  | j + 1, m + 1, i, S, hij, hm, hH => by
    have e1 : nI i + (1 : Int32) = nI (i + 1) := nI_1 i
    obtain ⟨S2, q1, q2, q3⟩ := findA_2_ok (n := n) hn j m (i + 1) (setI S (172) (i) (2 * (S.1 16 i - 1))) (by omega) (by omega) (by rw [sI1, if_neg (by omega)]; exact hH)
    refine ⟨S2, fun K => ?_, ((sm_I S _ _ _).tr q2).mo (fun k q z => by omega), fun e h1 h2 => ?_⟩
    · rw [X10_findLeftOfA_2, if_neg (by simp only [rfs, hH]; exact nI_ge (by omega) (by omega))]
      simp only [lt_e, e1, rfs, ck_n (show i < 12 by omega) (show 12 < 2147483648 by omega), ix_n (show i < 2147483648 by omega)]
      exact q1 K
    · by_cases he : e = i
      · subst he
        rw [(q2 (172) (e) (fun z => by omega)).1, sI1, if_pos ⟨rfl, rfl⟩]
      · refine (q3 e (by omega) h2).trans ?_
        first | rfl | (simp only [sI1, sI2, sJ1, sJ2]; first | done | rfl | (repeat rw [if_neg (by omega)]))
theorem findA_63_ok {n : Nat} (hn : n ≤ 12) : ∀ (j m i : Nat) (S : St), i + j = n → j < m → (S.1 1 3 = nI n) → ∃ S2, (∀ K : St → Int32 → Option (St × Int32), X10_findLeftOfA_63 0 K m S (nI i) = K S2 (nI (n))) ∧ Sm (fun k q => k = 172 ∧ i ≤ q ∧ q < n) S S2 ∧ ∀ e, i ≤ e → e < n → S2.1 (172) (e) = S.1 172 e - S.1 22 e
  | 0, 0, _, _, _, h, _ => absurd h (by omega)
  | j + 1, 0, _, _, _, h, _ => absurd h (by omega)
  | 0, m + 1, i, S, hij, _, hH => by
    refine ⟨S, fun K => ?_, Sm.rf, fun e h1 h2 => absurd h2 (by omega)⟩
    rw [show i = n by omega, X10_findLeftOfA_63, if_pos (by simp only [rfs, hH]; exact Int32.le_refl _)]
  | j + 1, m + 1, i, S, hij, hm, hH => by
    have e1 : nI i + (1 : Int32) = nI (i + 1) := nI_1 i
    obtain ⟨S2, q1, q2, q3⟩ := findA_63_ok (n := n) hn j m (i + 1) (setI S (172) (i) (S.1 172 i - S.1 22 i)) (by omega) (by omega) (by rw [sI1, if_neg (by omega)]; exact hH)
    refine ⟨S2, fun K => ?_, ((sm_I S _ _ _).tr q2).mo (fun k q z => by omega), fun e h1 h2 => ?_⟩
    · rw [X10_findLeftOfA_63, if_neg (by simp only [rfs, hH]; exact nI_ge (by omega) (by omega))]
      simp only [lt_e, e1, rfs, ck_n (show i < 12 by omega) (show 12 < 2147483648 by omega), ix_n (show i < 2147483648 by omega)]
      exact q1 K
    · by_cases he : e = i
      · subst he
        rw [(q2 (172) (e) (fun z => by omega)).1, sI1, if_pos ⟨rfl, rfl⟩]
      · refine (q3 e (by omega) h2).trans ?_
        first | rfl | (simp only [sI1, sI2, sJ1, sJ2]; first | done | rfl | (repeat rw [if_neg (by omega)]))
theorem contr_113_ok {n : Nat} (hn : n ≤ 12) (v : Int32) : ∀ (j m i : Nat) (S : St), i + j = n → j < m → (S.1 1 3 = nI n) → ∃ S2, (∀ K : St → Int32 → Option (St × Int32), X10_contrary_113 0 v K m S (nI i) = K S2 (nI (n))) ∧ Sm (fun k q => k = 22 ∧ i ≤ q ∧ q < n) S S2 ∧ ∀ e, i ≤ e → e < n → S2.1 (22) (e) = 2 * S.1 172 e - S.1 22 e
  | 0, 0, _, _, _, h, _ => absurd h (by omega)
  | j + 1, 0, _, _, _, h, _ => absurd h (by omega)
  | 0, m + 1, i, S, hij, _, hH => by
    refine ⟨S, fun K => ?_, Sm.rf, fun e h1 h2 => absurd h2 (by omega)⟩
    rw [show i = n by omega, X10_contrary_113, if_pos (by simp only [rfs, hH]; exact Int32.le_refl _)]
  | j + 1, m + 1, i, S, hij, hm, hH => by
    have e1 : nI i + (1 : Int32) = nI (i + 1) := nI_1 i
    obtain ⟨S2, q1, q2, q3⟩ := contr_113_ok (n := n) hn v j m (i + 1) (setI S (22) (i) (2 * S.1 172 i - S.1 22 i)) (by omega) (by omega) (by rw [sI1, if_neg (by omega)]; exact hH)
    refine ⟨S2, fun K => ?_, ((sm_I S _ _ _).tr q2).mo (fun k q z => by omega), fun e h1 h2 => ?_⟩
    · rw [X10_contrary_113, if_neg (by simp only [rfs, hH]; exact nI_ge (by omega) (by omega))]
      simp only [lt_e, e1, rfs, ck_n (show i < 12 by omega) (show 12 < 2147483648 by omega), ix_n (show i < 2147483648 by omega)]
      exact q1 K
    · by_cases he : e = i
      · subst he
        rw [(q2 (22) (e) (fun z => by omega)).1, sI1, if_pos ⟨rfl, rfl⟩]
      · refine (q3 e (by omega) h2).trans ?_
        first | rfl | (simp only [sI1, sI2, sJ1, sJ2]; first | done | rfl | (repeat rw [if_neg (by omega)]))
theorem greatest_2_ok {n : Nat} {kd : Nat → Nat} {w : Nat → Nat → Nat} (hn : n ≤ 12) : ∀ (j m i : Nat) (S : St), i + j = n → j < m → (MSl S n kd w) → ∃ S2, (∀ K : St → Int32 → Option (St × Unit), X11_greatest_2 173 K m S (nI i) = K S2 (nI (n))) ∧ Sm (fun k q => k = 194 ∧ i ≤ q ∧ q < n) S S2 ∧ ∀ e, i ≤ e → e < n → S2.2 (194) (e) = 2 * Int32.toInt64 (nI (sN (w e) 15) - 1)
  | 0, 0, _, _, _, h, _ => absurd h (by omega)
  | j + 1, 0, _, _, _, h, _ => absurd h (by omega)
  | 0, m + 1, i, S, hij, _, hH => by
    refine ⟨S, fun K => ?_, Sm.rf, fun e h1 h2 => absurd h2 (by omega)⟩
    rw [show i = n by omega, X11_greatest_2, if_pos (by rw [hH.1]; exact Int32.le_refl _)]
  | j + 1, m + 1, i, S, hij, hm, hH => by
    have e1 : nI i + (1 : Int32) = nI (i + 1) := nI_1 i
    have e3 := load_ok hH (show i < 12 by omega)
    obtain ⟨S2, q1, q2, q3⟩ := greatest_2_ok (n := n) (kd := kd) (w := w) hn j m (i + 1) (setJ S (194) (i) (2 * Int32.toInt64 (nI (sN (w i) 15) - 1))) (by omega) (by omega) (hH.gs (sm_J S _ _ _) (by intro k j hk hq; omega))
    refine ⟨S2, fun K => ?_, ((sm_J S _ _ _).tr q2).mo (fun k q z => by omega), fun e h1 h2 => ?_⟩
    · rw [X11_greatest_2, if_neg (by rw [hH.1]; exact nI_ge (by omega) (by omega))]
      simp only [lt_e, e1, rfm, e3, bd_s, ck_n (show i < 15 by omega) (show 15 < 2147483648 by omega), ix_n (show i < 2147483648 by omega)]
      exact q1 K
    · by_cases he : e = i
      · subst he
        rw [(q2 (194) (e) (fun z => by omega)).2, sJ2, if_pos ⟨rfl, rfl⟩]
      · refine (q3 e (by omega) h2).trans ?_
        first | rfl | (simp only [sI1, sI2, sJ1, sJ2]; first | done | rfl | (repeat rw [if_neg (by omega)]))
theorem nought_61_ok {n : Nat} {kd : Nat → Nat} {w : Nat → Nat → Nat} (hn : n ≤ 12) (v : Int32) : ∀ (j m i : Nat) (S : St), i + j = n → j < m → (MSl S n kd w) → ∃ S2, (∀ K : St → Int32 → Option (St × Int32), X11_nought_61 173 v K m S (nI i) = K S2 (nI (n))) ∧ Sm (fun k q => k = 194 ∧ i ≤ q ∧ q < n) S S2 ∧ ∀ e, i ≤ e → e < n → S2.2 (194) (e) = 2 * Int32.toInt64 (nI (sN (w e) 15) - 1) - S.2 194 e
  | 0, 0, _, _, _, h, _ => absurd h (by omega)
  | j + 1, 0, _, _, _, h, _ => absurd h (by omega)
  | 0, m + 1, i, S, hij, _, hH => by
    refine ⟨S, fun K => ?_, Sm.rf, fun e h1 h2 => absurd h2 (by omega)⟩
    rw [show i = n by omega, X11_nought_61, if_pos (by rw [hH.1]; exact Int32.le_refl _)]
  | j + 1, m + 1, i, S, hij, hm, hH => by
    have e1 : nI i + (1 : Int32) = nI (i + 1) := nI_1 i
    have e3 := load_ok hH (show i < 12 by omega)
    obtain ⟨S2, q1, q2, q3⟩ := nought_61_ok (n := n) (kd := kd) (w := w) hn v j m (i + 1) (setJ S (194) (i) (2 * Int32.toInt64 (nI (sN (w i) 15) - 1) - S.2 194 i)) (by omega) (by omega) (hH.gs (sm_J S _ _ _) (by intro k j hk hq; omega))
    refine ⟨S2, fun K => ?_, ((sm_J S _ _ _).tr q2).mo (fun k q z => by omega), fun e h1 h2 => ?_⟩
    · rw [X11_nought_61, if_neg (by rw [hH.1]; exact nI_ge (by omega) (by omega))]
      simp only [lt_e, e1, rfm, e3, bd_s, ck_n (show i < 15 by omega) (show 15 < 2147483648 by omega), ix_n (show i < 2147483648 by omega)]
      exact q1 K
    · by_cases he : e = i
      · subst he
        rw [(q2 (194) (e) (fun z => by omega)).2, sJ2, if_pos ⟨rfl, rfl⟩]
      · refine (q3 e (by omega) h2).trans ?_
        first | rfl | (simp only [sI1, sI2, sJ1, sJ2]; first | done | rfl | (repeat rw [if_neg (by omega)]))
theorem contr_84_ok {n : Nat} {kd : Nat → Nat} {w : Nat → Nat → Nat} (hn : n ≤ 12) (u v : Int32) : ∀ (j m i : Nat) (S : St), i + j = n → j < m → (MSl S n kd w) → ∃ S2, (∀ K : St → Int32 → Option (St × Int32), X11_contrary_84 173 u v K m S (nI i) = K S2 (nI (n))) ∧ Sm (fun k q => k = 195 ∧ i ≤ q ∧ q < n) S S2 ∧ ∀ e, i ≤ e → e < n → S2.2 (195) (e) = 2 * Int32.toInt64 (nI (sN (w e) 15) - 1) - S.2 194 e
  | 0, 0, _, _, _, h, _ => absurd h (by omega)
  | j + 1, 0, _, _, _, h, _ => absurd h (by omega)
  | 0, m + 1, i, S, hij, _, hH => by
    refine ⟨S, fun K => ?_, Sm.rf, fun e h1 h2 => absurd h2 (by omega)⟩
    rw [show i = n by omega, X11_contrary_84, if_pos (by rw [hH.1]; exact Int32.le_refl _)]
  | j + 1, m + 1, i, S, hij, hm, hH => by
    have e1 : nI i + (1 : Int32) = nI (i + 1) := nI_1 i
    have e3 := load_ok hH (show i < 12 by omega)
    obtain ⟨S2, q1, q2, q3⟩ := contr_84_ok (n := n) (kd := kd) (w := w) hn u v j m (i + 1) (setJ S (195) (i) (2 * Int32.toInt64 (nI (sN (w i) 15) - 1) - S.2 194 i)) (by omega) (by omega) (hH.gs (sm_J S _ _ _) (by intro k j hk hq; omega))
    refine ⟨S2, fun K => ?_, ((sm_J S _ _ _).tr q2).mo (fun k q z => by omega), fun e h1 h2 => ?_⟩
    · rw [X11_contrary_84, if_neg (by rw [hH.1]; exact nI_ge (by omega) (by omega))]
      simp only [lt_e, e1, rfm, e3, bd_s, ck_n (show i < 15 by omega) (show 15 < 2147483648 by omega), ix_n (show i < 2147483648 by omega)]
      exact q1 K
    · by_cases he : e = i
      · subst he
        rw [(q2 (195) (e) (fun z => by omega)).2, sJ2, if_pos ⟨rfl, rfl⟩]
      · refine (q3 e (by omega) h2).trans ?_
        first | rfl | (simp only [sI1, sI2, sJ1, sJ2]; first | done | rfl | (repeat rw [if_neg (by omega)]))
theorem contr_125_ok {n a : Nat} (hn : n ≤ 12) (ha : a < 8) (v : Int32) : ∀ (j m i : Nat) (S : St), i + j = n → j < m → (S.1 173 0 = nI n) → ∃ S2, (∀ K : St → Int32 → Option (St × Int32), X11_contrary_125 173 (nI a) v K m S (nI i) = K S2 (nI (n))) ∧ Sm (fun k q => k = 194 ∧ i ≤ q ∧ q < n) S S2 ∧ ∀ e, i ≤ e → e < n → S2.2 (194) (e) = S.2 181 (12 * a + e)
  | 0, 0, _, _, _, h, _ => absurd h (by omega)
  | j + 1, 0, _, _, _, h, _ => absurd h (by omega)
  | 0, m + 1, i, S, hij, _, hH => by
    refine ⟨S, fun K => ?_, Sm.rf, fun e h1 h2 => absurd h2 (by omega)⟩
    rw [show i = n by omega, X11_contrary_125, if_pos (by rw [hH]; exact Int32.le_refl _)]
  | j + 1, m + 1, i, S, hij, hm, hH => by
    have e1 : nI i + (1 : Int32) = nI (i + 1) := nI_1 i
    have e0 : (12 : Int32) * nI a + nI i = nI (12 * a + i) := by rw [show (12 : Int32) = nI 12 from rfl, pk_mul, nI_add]
    obtain ⟨S2, q1, q2, q3⟩ := contr_125_ok (n := n) (a := a) hn ha v j m (i + 1) (setJ S (194) (i) (S.2 181 (12 * a + i))) (by omega) (by omega) (hH)
    refine ⟨S2, fun K => ?_, ((sm_J S _ _ _).tr q2).mo (fun k q z => by omega), fun e h1 h2 => ?_⟩
    · rw [X11_contrary_125, if_neg (by rw [hH]; exact nI_ge (by omega) (by omega))]
      simp only [lt_e, e1, rfm, e0, ck_n (show 12 * a + i < 96 by omega) (show 96 < 2147483648 by omega), ix_n (show 12 * a + i < 2147483648 by omega), ck_n (show i < 15 by omega) (show 15 < 2147483648 by omega), ix_n (show i < 2147483648 by omega)]
      exact q1 K
    · by_cases he : e = i
      · subst he
        rw [(q2 (194) (e) (fun z => by omega)).2, sJ2, if_pos ⟨rfl, rfl⟩]
      · refine (q3 e (by omega) h2).trans ?_
        first | rfl | (simp only [sI1, sI2, sJ1, sJ2]; first | done | rfl | (repeat rw [if_neg (by omega)]))
theorem contr_172_ok {n : Nat} (hn : n ≤ 12) (v : Int32) : ∀ (j m i : Nat) (S : St), i + j = n → j < m → (S.1 173 0 = nI n) → ∃ S2, (∀ K : St → Int32 → Option (St × Int32), X11_contrary_172 173 v K m S (nI i) = K S2 (nI (n))) ∧ Sm (fun k q => k = 194 ∧ i ≤ q ∧ q < n) S S2 ∧ ∀ e, i ≤ e → e < n → S2.2 (194) (e) = 2 * S.2 195 e - S.2 194 e
  | 0, 0, _, _, _, h, _ => absurd h (by omega)
  | j + 1, 0, _, _, _, h, _ => absurd h (by omega)
  | 0, m + 1, i, S, hij, _, hH => by
    refine ⟨S, fun K => ?_, Sm.rf, fun e h1 h2 => absurd h2 (by omega)⟩
    rw [show i = n by omega, X11_contrary_172, if_pos (by rw [hH]; exact Int32.le_refl _)]
  | j + 1, m + 1, i, S, hij, hm, hH => by
    have e1 : nI i + (1 : Int32) = nI (i + 1) := nI_1 i
    obtain ⟨S2, q1, q2, q3⟩ := contr_172_ok (n := n) hn v j m (i + 1) (setJ S (194) (i) (2 * S.2 195 i - S.2 194 i)) (by omega) (by omega) (hH)
    refine ⟨S2, fun K => ?_, ((sm_J S _ _ _).tr q2).mo (fun k q z => by omega), fun e h1 h2 => ?_⟩
    · rw [X11_contrary_172, if_neg (by rw [hH]; exact nI_ge (by omega) (by omega))]
      simp only [lt_e, e1, rfm, ck_n (show i < 15 by omega) (show 15 < 2147483648 by omega), ix_n (show i < 2147483648 by omega)]
      exact q1 K
    · by_cases he : e = i
      · subst he
        rw [(q2 (194) (e) (fun z => by omega)).2, sJ2, if_pos ⟨rfl, rfl⟩]
      · refine (q3 e (by omega) h2).trans ?_
        first | rfl | (simp only [sI1, sI2, sJ1, sJ2]; first | done | rfl | (repeat rw [if_neg (by omega)]))
theorem check_26_ok (v : Int32) : ∀ (j m i : Nat) (S : St), i + j = 15 → j < m → ∃ S2, (∀ K : St → Int32 → Option (St × Int32), X11_check_26 173 v K m S (nI i) = K S2 (nI (15))) ∧ Sm (fun k q => k = 194 ∧ i ≤ q ∧ q < 15) S S2 ∧ ∀ e, i ≤ e → e < 15 → S2.2 (194) (e) = S.2 176 e
  | 0, 0, _, _, _, h => absurd h (by omega)
  | j + 1, 0, _, _, _, h => absurd h (by omega)
  | 0, m + 1, i, S, hij, _ => by
    refine ⟨S, fun K => ?_, Sm.rf, fun e h1 h2 => absurd h2 (by omega)⟩
    rw [show i = 15 by omega, X11_check_26, if_pos (by exact Int32.le_refl _)]
  | j + 1, m + 1, i, S, hij, hm => by
    have e1 : nI i + (1 : Int32) = nI (i + 1) := nI_1 i
    obtain ⟨S2, q1, q2, q3⟩ := check_26_ok v j m (i + 1) (setJ S (194) (i) (S.2 176 i)) (by omega) (by omega)
    refine ⟨S2, fun K => ?_, ((sm_J S _ _ _).tr q2).mo (fun k q z => by omega), fun e h1 h2 => ?_⟩
    · rw [X11_check_26, if_neg (by rw [show (15 : Int32) = nI 15 from rfl]; exact nI_ge (by omega) (by omega))]
      simp only [lt_e, e1, rfm, ck_n (show i < 15 by omega) (show 15 < 2147483648 by omega), ix_n (show i < 2147483648 by omega)]
      exact q1 K
    · by_cases he : e = i
      · subst he
        rw [(q2 (194) (e) (fun z => by omega)).2, sJ2, if_pos ⟨rfl, rfl⟩]
      · refine (q3 e (by omega) h2).trans ?_
        first | rfl | (simp only [sI1, sI2, sJ1, sJ2]; first | done | rfl | (repeat rw [if_neg (by omega)]))
theorem list_34_ok {n : Nat} (hn : n ≤ 12) (u v : Int32) : ∀ (j m i : Nat) (S : St), i + j = n → j < m → (S.1 173 0 = nI n) → ∃ S2, (∀ K : St → Int32 → Option (St × Int32), X11_list_34 173 u v K m S (nI i) = K S2 (nI (n))) ∧ Sm (fun k q => k = 194 ∧ i ≤ q ∧ q < n) S S2 ∧ ∀ e, i ≤ e → e < n → S2.2 (194) (e) = 0
  | 0, 0, _, _, _, h, _ => absurd h (by omega)
  | j + 1, 0, _, _, _, h, _ => absurd h (by omega)
  | 0, m + 1, i, S, hij, _, hH => by
    refine ⟨S, fun K => ?_, Sm.rf, fun e h1 h2 => absurd h2 (by omega)⟩
    rw [show i = n by omega, X11_list_34, if_pos (by rw [hH]; exact Int32.le_refl _)]
  | j + 1, m + 1, i, S, hij, hm, hH => by
    have e1 : nI i + (1 : Int32) = nI (i + 1) := nI_1 i
    obtain ⟨S2, q1, q2, q3⟩ := list_34_ok (n := n) hn u v j m (i + 1) (setJ S (194) (i) (0)) (by omega) (by omega) (hH)
    refine ⟨S2, fun K => ?_, ((sm_J S _ _ _).tr q2).mo (fun k q z => by omega), fun e h1 h2 => ?_⟩
    · rw [X11_list_34, if_neg (by rw [hH]; exact nI_ge (by omega) (by omega))]
      simp only [lt_e, e1, rfm, ck_n (show i < 15 by omega) (show 15 < 2147483648 by omega), ix_n (show i < 2147483648 by omega)]
      exact q1 K
    · by_cases he : e = i
      · subst he
        rw [(q2 (194) (e) (fun z => by omega)).2, sJ2, if_pos ⟨rfl, rfl⟩]
      · refine (q3 e (by omega) h2).trans ?_
        first | rfl | (simp only [sI1, sI2, sJ1, sJ2]; first | done | rfl | (repeat rw [if_neg (by omega)]))
theorem list_83_ok {n r : Nat} (hn : n ≤ 12) (hr : r ≤ 200) (v : Int32) : ∀ (j m i : Nat) (S : St), i + j = n → j < m → (S.1 173 0 = nI n) → ∃ S2, (∀ K : St → Int32 → Option (St × Int32), X11_list_83 173 (nI r) v K m S (nI i) = K S2 (nI (n))) ∧ Sm (fun k q => k = 197 ∧ 12 * r + i ≤ q ∧ q < 12 * r + n) S S2 ∧ ∀ e, i ≤ e → e < n → S2.1 (197) (12 * r + e) = Int64.toInt32 (S.2 194 e)
  | 0, 0, _, _, _, h, _ => absurd h (by omega)
  | j + 1, 0, _, _, _, h, _ => absurd h (by omega)
  | 0, m + 1, i, S, hij, _, hH => by
    refine ⟨S, fun K => ?_, Sm.rf, fun e h1 h2 => absurd h2 (by omega)⟩
    rw [show i = n by omega, X11_list_83, if_pos (by rw [hH]; exact Int32.le_refl _)]
  | j + 1, m + 1, i, S, hij, hm, hH => by
    have e1 : nI i + (1 : Int32) = nI (i + 1) := nI_1 i
    have e0 : (12 : Int32) * nI r + nI i = nI (12 * r + i) := by rw [show (12 : Int32) = nI 12 from rfl, pk_mul, nI_add]
    obtain ⟨S2, q1, q2, q3⟩ := list_83_ok (n := n) (r := r) hn hr v j m (i + 1) (setI S (197) (12 * r + i) (Int64.toInt32 (S.2 194 i))) (by omega) (by omega) (by rw [sI1, if_neg (by omega)]; exact hH)
    refine ⟨S2, fun K => ?_, ((sm_I S _ _ _).tr q2).mo (fun k q z => by omega), fun e h1 h2 => ?_⟩
    · rw [X11_list_83, if_neg (by rw [hH]; exact nI_ge (by omega) (by omega))]
      simp only [lt_e, e1, rfm, e0, ck_n (show i < 15 by omega) (show 15 < 2147483648 by omega), ix_n (show i < 2147483648 by omega), ck_n (show 12 * r + i < 2412 by omega) (show 2412 < 2147483648 by omega), ix_n (show 12 * r + i < 2147483648 by omega)]
      exact q1 K
    · by_cases he : e = i
      · subst he
        rw [(q2 (197) (12 * r + e) (fun z => by omega)).1, sI1, if_pos ⟨rfl, rfl⟩]
      · refine (q3 e (by omega) h2).trans ?_
        first | rfl | (simp only [sI1, sI2, sJ1, sJ2]; first | done | rfl | (repeat rw [if_neg (by omega)]))
theorem list_278_ok {r : Nat} (hr : r ≤ 200) : ∀ (j m i : Nat) (S : St), i + j = 12 * r → j < m → ∃ S2, (∀ K : St → Int32 → Option (St × Int32), X11_list_278 173 (nI r) K m S (nI i) = K S2 (nI (12 * r))) ∧ Sm (fun k q => k = 183 ∧ i ≤ q ∧ q < 12 * r) S S2 ∧ ∀ e, i ≤ e → e < 12 * r → S2.1 (183) (e) = S.1 197 e
  | 0, 0, _, _, _, h => absurd h (by omega)
  | j + 1, 0, _, _, _, h => absurd h (by omega)
  | 0, m + 1, i, S, hij, _ => by
    refine ⟨S, fun K => ?_, Sm.rf, fun e h1 h2 => absurd h2 (by omega)⟩
    rw [show i = 12 * r by omega, X11_list_278, if_pos (by rw [show (12 : Int32) = nI 12 from rfl, pk_mul]; exact Int32.le_refl _)]
  | j + 1, m + 1, i, S, hij, hm => by
    have e1 : nI i + (1 : Int32) = nI (i + 1) := nI_1 i
    obtain ⟨S2, q1, q2, q3⟩ := list_278_ok (r := r) hr j m (i + 1) (setI S (183) (i) (S.1 197 i)) (by omega) (by omega)
    refine ⟨S2, fun K => ?_, ((sm_I S _ _ _).tr q2).mo (fun k q z => by omega), fun e h1 h2 => ?_⟩
    · rw [X11_list_278, if_neg (by rw [show (12 : Int32) = nI 12 from rfl, pk_mul]; exact nI_ge (by omega) (by omega))]
      simp only [lt_e, e1, rfm, ck_n (show i < 2412 by omega) (show 2412 < 2147483648 by omega), ix_n (show i < 2147483648 by omega), ck_n (show i < 2400 by omega) (show 2400 < 2147483648 by omega)]
      exact q1 K
    · by_cases he : e = i
      · subst he
        rw [(q2 (183) (e) (fun z => by omega)).1, sI1, if_pos ⟨rfl, rfl⟩]
      · refine (q3 e (by omega) h2).trans ?_
        first | rfl | (simp only [sI1, sI2, sJ1, sJ2]; first | done | rfl | (repeat rw [if_neg (by omega)]))
theorem burn_81_ok {f : Nat} (hf : f ≤ 12) (v : Int32) : ∀ (j m i : Nat) (S : St), i + j = f → j < m → (S.1 173 13 = nI f) → ∃ S2, (∀ K : St → Int32 → Option (St × Int32), X11_burn_81 173 v K m S (nI i) = K S2 (nI (f))) ∧ Sm (fun k q => k = 180 ∧ i ≤ q ∧ q < f) S S2 ∧ ∀ e, i ≤ e → e < f → S2.1 (180) (e) = S.1 193 e
  | 0, 0, _, _, _, h, _ => absurd h (by omega)
  | j + 1, 0, _, _, _, h, _ => absurd h (by omega)
  | 0, m + 1, i, S, hij, _, hH => by
    refine ⟨S, fun K => ?_, Sm.rf, fun e h1 h2 => absurd h2 (by omega)⟩
    rw [show i = f by omega, X11_burn_81, if_pos (by rw [hH]; exact Int32.le_refl _)]
  | j + 1, m + 1, i, S, hij, hm, hH => by
    have e1 : nI i + (1 : Int32) = nI (i + 1) := nI_1 i
    obtain ⟨S2, q1, q2, q3⟩ := burn_81_ok (f := f) hf v j m (i + 1) (setI S (180) (i) (S.1 193 i)) (by omega) (by omega) (by rw [sI1, if_neg (by omega)]; exact hH)
    refine ⟨S2, fun K => ?_, ((sm_I S _ _ _).tr q2).mo (fun k q z => by omega), fun e h1 h2 => ?_⟩
    · rw [X11_burn_81, if_neg (by rw [hH]; exact nI_ge (by omega) (by omega))]
      simp only [lt_e, e1, rfm, ck_n (show i < 12 by omega) (show 12 < 2147483648 by omega), ix_n (show i < 2147483648 by omega)]
      exact q1 K
    · by_cases he : e = i
      · subst he
        rw [(q2 (180) (e) (fun z => by omega)).1, sI1, if_pos ⟨rfl, rfl⟩]
      · refine (q3 e (by omega) h2).trans ?_
        first | rfl | (simp only [sI1, sI2, sJ1, sJ2]; first | done | rfl | (repeat rw [if_neg (by omega)]))
theorem askAll_2_ok {n : Nat} (hn : n ≤ 12) : ∀ (j m i : Nat) (S : St), i + j = n → j < m → (S.1 1 3 = nI n) → ∃ S2, (∀ K : St → Int32 → Option (St × Unit), X0_askAll_2 25 K m S (nI i) = K S2 (nI (n))) ∧ Sm (fun k q => k = 27 ∧ i ≤ q ∧ q < n) S S2 ∧ ∀ e, i ≤ e → e < n → S2.1 (27) (e) = nI e
  | 0, 0, _, _, _, h, _ => absurd h (by omega)
  | j + 1, 0, _, _, _, h, _ => absurd h (by omega)
  | 0, m + 1, i, S, hij, _, hH => by
    refine ⟨S, fun K => ?_, Sm.rf, fun e h1 h2 => absurd h2 (by omega)⟩
    rw [show i = n by omega, X0_askAll_2, if_pos (by simp only [rfs, hH]; exact Int32.le_refl _)]
  | j + 1, m + 1, i, S, hij, hm, hH => by
    have e1 : nI i + (1 : Int32) = nI (i + 1) := nI_1 i
    obtain ⟨S2, q1, q2, q3⟩ := askAll_2_ok (n := n) hn j m (i + 1) (setI S (27) (i) (nI i)) (by omega) (by omega) (by rw [sI1, if_neg (by omega)]; exact hH)
    refine ⟨S2, fun K => ?_, ((sm_I S _ _ _).tr q2).mo (fun k q z => by omega), fun e h1 h2 => ?_⟩
    · rw [X0_askAll_2, if_neg (by simp only [rfs, hH]; exact nI_ge (by omega) (by omega))]
      simp only [lt_e, e1, rfs, ck_n (show i < 12 by omega) (show 12 < 2147483648 by omega), ix_n (show i < 2147483648 by omega)]
      exact q1 K
    · by_cases he : e = i
      · subst he
        rw [(q2 (27) (e) (fun z => by omega)).1, sI1, if_pos ⟨rfl, rfl⟩]
      · refine (q3 e (by omega) h2).trans ?_
        first | rfl | (simp only [sI1, sI2, sJ1, sJ2]; first | done | rfl | (repeat rw [if_neg (by omega)]))
theorem next_280_ok {n : Nat} (hn : n ≤ 12) (v : Int32) : ∀ (j m i : Nat) (S : St), i + j = n → j < m → (S.1 173 0 = nI n) → ∃ S2, (∀ K : St → Int32 → Option (St × Int32), X11_next_280 173 v K m S (nI i) = K S2 (nI (n))) ∧ Sm (fun k q => k = 179 ∧ i ≤ q ∧ q < n) S S2 ∧ ∀ e, i ≤ e → e < n → S2.1 (179) (e) = nI e
  | 0, 0, _, _, _, h, _ => absurd h (by omega)
  | j + 1, 0, _, _, _, h, _ => absurd h (by omega)
  | 0, m + 1, i, S, hij, _, hH => by
    refine ⟨S, fun K => ?_, Sm.rf, fun e h1 h2 => absurd h2 (by omega)⟩
    rw [show i = n by omega, X11_next_280, if_pos (by rw [hH]; exact Int32.le_refl _)]
  | j + 1, m + 1, i, S, hij, hm, hH => by
    have e1 : nI i + (1 : Int32) = nI (i + 1) := nI_1 i
    obtain ⟨S2, q1, q2, q3⟩ := next_280_ok (n := n) hn v j m (i + 1) (setI S (179) (i) (nI i)) (by omega) (by omega) (by rw [sI1, if_neg (by omega)]; exact hH)
    refine ⟨S2, fun K => ?_, ((sm_I S _ _ _).tr q2).mo (fun k q z => by omega), fun e h1 h2 => ?_⟩
    · rw [X11_next_280, if_neg (by rw [hH]; exact nI_ge (by omega) (by omega))]
      simp only [lt_e, e1, rfm, ck_n (show i < 12 by omega) (show 12 < 2147483648 by omega), ix_n (show i < 2147483648 by omega)]
      exact q1 K
    · by_cases he : e = i
      · subst he
        rw [(q2 (179) (e) (fun z => by omega)).1, sI1, if_pos ⟨rfl, rfl⟩]
      · refine (q3 e (by omega) h2).trans ?_
        first | rfl | (simp only [sI1, sI2, sJ1, sJ2]; first | done | rfl | (repeat rw [if_neg (by omega)]))
theorem least_2_ok {n : Nat} (hn : n ≤ 12) (v : Int32) : ∀ (j m i : Nat) (S : St), i + j = n → j < m → (S.1 1 3 = nI n) → ∃ S2, (∀ K : St → Int32 → Option (St × Unit), X6_leastFrom_2 132 1 v K m S (nI i) = K S2 (nI (n))) ∧ Sm (fun k q => k = 135 ∧ i ≤ q ∧ q < n) S S2 ∧ ∀ e, i ≤ e → e < n → S2.1 (135) (e) = S.1 16 e - 1
  | 0, 0, _, _, _, h, _ => absurd h (by omega)
  | j + 1, 0, _, _, _, h, _ => absurd h (by omega)
  | 0, m + 1, i, S, hij, _, hH => by
    refine ⟨S, fun K => ?_, Sm.rf, fun e h1 h2 => absurd h2 (by omega)⟩
    rw [show i = n by omega, X6_leastFrom_2, if_pos (by simp only [rfs, hH]; exact Int32.le_refl _)]
  | j + 1, m + 1, i, S, hij, hm, hH => by
    have e1 : nI i + (1 : Int32) = nI (i + 1) := nI_1 i
    obtain ⟨S2, q1, q2, q3⟩ := least_2_ok (n := n) hn v j m (i + 1) (setI S (135) (i) (S.1 16 i - 1)) (by omega) (by omega) (by rw [sI1, if_neg (by omega)]; exact hH)
    refine ⟨S2, fun K => ?_, ((sm_I S _ _ _).tr q2).mo (fun k q z => by omega), fun e h1 h2 => ?_⟩
    · rw [X6_leastFrom_2, if_neg (by simp only [rfs, hH]; exact nI_ge (by omega) (by omega))]
      simp only [lt_e, e1, rfs, ck_n (show i < 12 by omega) (show 12 < 2147483648 by omega), ix_n (show i < 2147483648 by omega)]
      exact q1 K
    · by_cases he : e = i
      · subst he
        rw [(q2 (135) (e) (fun z => by omega)).1, sI1, if_pos ⟨rfl, rfl⟩]
      · refine (q3 e (by omega) h2).trans ?_
        first | rfl | (simp only [sI1, sI2, sJ1, sJ2]; first | done | rfl | (repeat rw [if_neg (by omega)]))
theorem spread_182_ok {t f l p : Nat} (hf : f + l ≤ 16) (hp : p + l ≤ 12) : ∀ (j m i : Nat) (S : St), i + j = l → j < m → ∃ S2, (∀ K : St → Int32 → Option (St × Int32), X10_spread_182 0 (nI f) (nI l) (nI p) (163 + 2 * t) K m S (nI i) = K S2 (nI (l))) ∧ Sm (fun k q => k = 18 ∧ p + i ≤ q ∧ q < p + l) S S2 ∧ ∀ e, i ≤ e → e < l → S2.1 (18) (p + e) = S.1 18 (p + e) + Int64.toInt32 (S.2 (163 + 2 * t) (f + e))
  | 0, 0, _, _, _, h => absurd h (by omega)
  | j + 1, 0, _, _, _, h => absurd h (by omega)
  | 0, m + 1, i, S, hij, _ => by
    refine ⟨S, fun K => ?_, Sm.rf, fun e h1 h2 => absurd h2 (by omega)⟩
    rw [show i = l by omega, X10_spread_182, if_pos (by exact Int32.le_refl _)]
  | j + 1, m + 1, i, S, hij, hm => by
    have e1 : nI i + (1 : Int32) = nI (i + 1) := nI_1 i
    have e2 : nI f + nI i = nI (f + i) := nI_add f i
    have e4 : nI p + nI i = nI (p + i) := nI_add p i
    obtain ⟨S2, q1, q2, q3⟩ := spread_182_ok (t := t) (f := f) (l := l) (p := p) hf hp j m (i + 1) (setI S (18) (p + i) (S.1 18 (p + i) + Int64.toInt32 (S.2 (163 + 2 * t) (f + i)))) (by omega) (by omega)
    refine ⟨S2, fun K => ?_, ((sm_I S _ _ _).tr q2).mo (fun k q z => by omega), fun e h1 h2 => ?_⟩
    · rw [X10_spread_182, if_neg (by exact nI_ge (by omega) (by omega))]
      simp only [lt_e, e1, rfs, e2, e4, ck_n (show p + i < 12 by omega) (show 12 < 2147483648 by omega), ix_n (show p + i < 2147483648 by omega), ck_n (show f + i < 16 by omega) (show 16 < 2147483648 by omega), ix_n (show f + i < 2147483648 by omega)]
      exact q1 K
    · by_cases he : e = i
      · subst he
        rw [(q2 (18) (p + e) (fun z => by omega)).1, sI1, if_pos ⟨rfl, rfl⟩]
      · refine (q3 e (by omega) h2).trans ?_
        first | rfl | (simp only [sI1, sI2, sJ1, sJ2]; first | done | rfl | (repeat rw [if_neg (by omega)]))
theorem spread_204_ok {t f l p : Nat} (ht : t < 4) (hf : f + l ≤ 16) (hp : p + l ≤ 12) (v : Int64) : ∀ (j m i : Nat) (S : St), i + j = l → j < m → ∃ S2, (∀ K : St → Int32 → Option (St × Int32), X11_spread_204 173 (nI t) (nI f) (nI l) (nI p) v K m S (nI i) = K S2 (nI (l))) ∧ Sm (fun k q => k = 176 ∧ p + i ≤ q ∧ q < p + l) S S2 ∧ ∀ e, i ≤ e → e < l → S2.2 (176) (p + e) = S.2 176 (p + e) + S.2 186 (16 * t + f + e)
  | 0, 0, _, _, _, h => absurd h (by omega)
  | j + 1, 0, _, _, _, h => absurd h (by omega)
  | 0, m + 1, i, S, hij, _ => by
    refine ⟨S, fun K => ?_, Sm.rf, fun e h1 h2 => absurd h2 (by omega)⟩
    rw [show i = l by omega, X11_spread_204, if_pos (by exact Int32.le_refl _)]
  | j + 1, m + 1, i, S, hij, hm => by
    have e1 : nI i + (1 : Int32) = nI (i + 1) := nI_1 i
    have e0 : (16 : Int32) * nI t + nI f + nI i = nI (16 * t + f + i) := by rw [show (16 : Int32) = nI 16 from rfl, pk_mul, nI_add, nI_add]
    have e4 : nI p + nI i = nI (p + i) := nI_add p i
    obtain ⟨S2, q1, q2, q3⟩ := spread_204_ok (t := t) (f := f) (l := l) (p := p) ht hf hp v j m (i + 1) (setJ S (176) (p + i) (S.2 176 (p + i) + S.2 186 (16 * t + f + i))) (by omega) (by omega)
    refine ⟨S2, fun K => ?_, ((sm_J S _ _ _).tr q2).mo (fun k q z => by omega), fun e h1 h2 => ?_⟩
    · rw [X11_spread_204, if_neg (by exact nI_ge (by omega) (by omega))]
      simp only [lt_e, e1, rfm, e0, e4, ck_n (show 16 * t + f + i < 64 by omega) (show 64 < 2147483648 by omega), ix_n (show 16 * t + f + i < 2147483648 by omega), ck_n (show p + i < 15 by omega) (show 15 < 2147483648 by omega), ix_n (show p + i < 2147483648 by omega)]
      exact q1 K
    · by_cases he : e = i
      · subst he
        rw [(q2 (176) (p + e) (fun z => by omega)).2, sJ2, if_pos ⟨rfl, rfl⟩]
      · refine (q3 e (by omega) h2).trans ?_
        first | rfl | (simp only [sI1, sI2, sJ1, sJ2]; first | done | rfl | (repeat rw [if_neg (by omega)]))
