/-! the reference's choice; the row of asked places after a slide -/
def orO (a b : Option Nat) : Option Nat := match a with
  | some x => some x
  | none => b
theorem fst_snoc {P : Nat → Bool} : ∀ (k i : Nat), fstB P (k + 1) i = orO (fstB P k i) (if P (i + k) = true then some (i + k) else none)
  | 0, i => by rw [fstB, fstB, Nat.add_zero]; rfl
  | k + 1, i => by
    rw [fstB, fst_snoc k (i + 1), fstB]
    by_cases h : P i = true
    · rw [if_pos h, if_pos h]; rfl
    · rw [if_neg h, if_neg h, show i + 1 + k = i + (k + 1) by omega]
theorem orO_or (a b : Option Nat) (c : Prop) [Decidable c] (x : Nat) : orO (orO a (if c then some x else none)) b = orO a (if c then some x else b) := by
  cases a with
  | some y => rfl
  | none =>
    by_cases h : c
    · simp only [orO, if_pos h]
    · simp only [orO, if_neg h]
theorem orO_map (a b : Option Nat) (f : Nat → Nat) : (orO a b).map f = orO (a.map f) (b.map f) := by cases a <;> rfl
theorem i_m1 (x : Int32) : x + (-1) = x - 1 := by rw [Int32.sub_eq_add_neg]
section
variable {S : St} {n : Nat} {kd : Nat → Nat} {w : Nat → Nat → Nat} {g : Nat → Nat}
theorem next_43_ok (h : MSl S n kd w) (hi : ISl n kd w) (hg : MG S 176 n g) (hb : BG n g) (K : St → Int32 → Int32 → Option (St × Int32)) : ∀ (k m : Nat) (b : Option Nat), k ≤ n → k < m → X11_next_43 173 K m S (oI b) (nI k - 1) = K S (oI (orO (fstB (due w g) k 0) b)) (-1)
  | 0, 0, _, _, h => absurd h (by omega)
  | k + 1, 0, _, _, h => absurd h (by omega)
  | 0, m + 1, b, _, _ => by
    rw [show nI 0 - 1 = (-1 : Int32) by decide, X11_next_43, if_pos (by decide)]
    rfl
  | k + 1, m + 1, b, hk, hm => by
    have hn := hi.1
    have hl := hi.ld_le (show k < 12 by omega)
    have gb := hb k (by omega)
    have lo := load_ok h (show k < 12 by omega)
    rw [ld_is] at lo
    rw [nI_pred, X11_next_43, if_neg (nI_pos (by omega)), ck_n (show k < 15 by omega) (by omega), lo, bd_s, show rf 173 4 = 176 by decide +kernel, ix_n (by omega), hg k (by omega), isDueM_ok _ _ (by omega) (by omega), bd_s, lt_x, ite_b1z, fst_snoc, Nat.zero_add, orO_or]
    simp only [lt_x, i_m1]
    by_cases hd : 0 < ld w k ∧ ld w k ≤ g k
    · rw [if_pos hd, if_pos (show due w g k = true from decide_eq_true hd)]
      exact next_43_ok h hi hg hb K k m (some k) (by omega) (by omega)
    · rw [if_neg hd, if_neg (show ¬ due w g k = true from fun z => hd (of_decide_eq_true z))]
      exact next_43_ok h hi hg hb K k m b (by omega) (by omega)
theorem next_138_ok {od : Nat → Nat} (h : MSl S n kd w) (hi : ISl n kd w) (hg : MG S 176 n g) (hb : BG n g) (ho : ∀ i, i < n → S.1 178 i = nI (od i) ∧ od i < n) (K : St → Int32 → Int32 → Option (St × Int32)) : ∀ (k m : Nat) (b : Option Nat), k ≤ n → k < m → X11_next_138 173 K m S (oI b) (nI k - 1) = K S (oI (orO ((fstB (fun i => due w g (od i)) k 0).map od) b)) (-1)
  | 0, 0, _, _, h => absurd h (by omega)
  | k + 1, 0, _, _, h => absurd h (by omega)
  | 0, m + 1, b, _, _ => by
    rw [show nI 0 - 1 = (-1 : Int32) by decide, X11_next_138, if_pos (by decide)]
    rfl
  | k + 1, m + 1, b, hk, hm => by
    have hn := hi.1
    obtain ⟨o1, o2⟩ := ho k (by omega)
    have hl := hi.ld_le (show od k < 12 by omega)
    have gb := hb (od k) (by omega)
    have lo := load_ok h (show od k < 12 by omega)
    rw [ld_is] at lo
    rw [nI_pred, X11_next_138, if_neg (nI_pos (by omega)), ck_n (show k < 12 by omega) (by omega), show rf 173 9 = 178 by decide +kernel, ix_n (show k < 2147483648 by omega), o1, ck_n (show od k < 15 by omega) (by omega), ck_n (show k < 12 by omega) (by omega), lo, bd_s, show rf 173 4 = 176 by decide +kernel, ix_n (show od k < 2147483648 by omega), hg (od k) (by omega), isDueM_ok _ _ (by omega) (by omega), bd_s, lt_x, ite_b1z, fst_snoc, Nat.zero_add, orO_map, ck_n (show k < 12 by omega) (by omega), lt_x, o1]
    simp only [lt_x, i_m1]
    by_cases hd : 0 < ld w (od k) ∧ ld w (od k) ≤ g (od k)
    · rw [if_pos hd, if_pos (show due w g (od k) = true from decide_eq_true hd)]
      rw [show nI (od k) = oI (some (od k)) from rfl, next_138_ok h hi hg hb ho K k m (some (od k)) (by omega) (by omega)]
      congr 2
      cases (fstB (fun i => due w g (od i)) k 0) <;> rfl
    · rw [if_neg hd, if_neg (show ¬ due w g (od k) = true from fun z => hd (of_decide_eq_true z))]
      rw [next_138_ok h hi hg hb ho K k m b (by omega) (by omega)]
      congr 2
      cases (fstB (fun i => due w g (od i)) k 0) <;> rfl
theorem next_76_ok (h : MSl S n kd w) (hi : ISl n kd w) (hg : MG S 176 n g) (hb : BG n g) (K : St → Int32 → Int32 → Option (St × Int32)) : ∀ (j m i : Nat) (b : Option Nat), i + j = n → j < m → (∀ q, b = some q → q < n) → X11_next_76 173 K m S (oI b) (nI i) = K S (oI (fll g (due w g) j i b)) (nI n)
  | 0, 0, _, _, _, h, _ => absurd h (by omega)
  | j + 1, 0, _, _, _, h, _ => absurd h (by omega)
  | 0, m + 1, i, b, hij, _, _ => by
    rw [show i = n by omega, X11_next_76, if_pos (by rw [h.1]; exact Int32.le_refl _)]
    rfl
  | j + 1, m + 1, i, b, hij, hm, hbl => by
    have hn := hi.1
    have e1 : nI i + (1 : Int32) = nI (i + 1) := nI_1 i
    have gb := hb i (by omega)
    have hl := hi.ld_le (show i < 12 by omega)
    have lo := load_ok h (show i < 12 by omega)
    rw [ld_is] at lo
    have ih := fun b2 hb2 => next_76_ok h hi hg hb K j m (i + 1) b2 (by omega) (by omega) hb2
    have eb := oI_nn (o := b) (fun q hq => by have := hbl q hq; omega)
    rw [X11_next_76, if_neg (by rw [h.1]; exact nI_ge (by omega) (by omega)), ck_n (show i < 15 by omega) (by omega), lo, bd_s, show rf 173 4 = 176 by decide +kernel, ix_n (by omega), hg i (by omega), isDueM_ok _ _ (by omega) (by omega), bd_s, lt_x, ite_b1z, fll, lt_x]
    simp only [lt_x, e1, ck_n (show i < 15 by omega) (show 15 < 2147483648 by omega), hg i (show i < n by omega)]
    by_cases hd : 0 < ld w i ∧ ld w i ≤ g i
    · rw [if_pos hd, show due w g i = true from decide_eq_true hd, cond_true]
      have i2 := ih (some i) (fun q hq => by cases hq; omega)
      rw [show oI (some i) = nI i from rfl] at i2
      cases b with
      | none =>
        rw [if_pos (eb.mpr rfl)]
        exact i2
      | some q =>
        have hq := hbl q rfl
        have gbq := hb q hq
        have i3 := ih (some q) (fun q2 hq2 => by cases hq2; exact hq)
        rw [show oI (some q) = nI q from rfl] at i3
        rw [if_neg (fun z => by have := eb.mp z; cases this), show oI (some q) = nI q from rfl, ck_n (show q < 15 by omega) (by omega), ix_n (by omega), hg q hq]
        have lle := pk_lLE (show g i < 2 ^ 63 by omega) (show g q < 2 ^ 63 by omega)
        by_cases z : g i ≤ g q
        · rw [if_pos (lle.mpr z), i3]; simp only [fl1, if_pos z]
        · rw [if_neg (fun y => z (lle.mp y)), i2]; simp only [fl1, if_neg z]
    · rw [if_neg hd, show due w g i = false from decide_eq_false hd, cond_false]
      exact ih b hbl
theorem next_222_ok (h : MSl S n kd w) (hi : ISl n kd w) (hg : MG S 176 n g) (hb : BG n g) (v1 : Int32) : ∀ (j m i k : Nat), i + j = n → j < m → k < 1000000 → X11_next_222 173 v1 (fun (S84 : St) (v85 : Int32) (v86 : Int32) => some (S84, (-1 : Int32))) m S (nI k) (nI i) = some (S, oI (nth (due w g) j i k))
  | 0, 0, _, _, _, h, _ => absurd h (by omega)
  | j + 1, 0, _, _, _, h, _ => absurd h (by omega)
  | 0, m + 1, i, k, hij, _, _ => by
    rw [show i = n by omega, X11_next_222, if_pos (by rw [h.1]; exact Int32.le_refl _)]
    rfl
  | j + 1, m + 1, i, k, hij, hm, hk => by
    have hn := hi.1
    have e1 : nI i + (1 : Int32) = nI (i + 1) := nI_1 i
    have gb := hb i (by omega)
    have hl := hi.ld_le (show i < 12 by omega)
    have lo := load_ok h (show i < 12 by omega)
    rw [ld_is] at lo
    have ih := fun k2 hk2 => next_222_ok h hi hg hb v1 j m (i + 1) k2 (by omega) (by omega) hk2
    rw [X11_next_222, if_neg (by rw [h.1]; exact nI_ge (by omega) (by omega)), ck_n (show i < 15 by omega) (by omega), lo, bd_s, show rf 173 4 = 176 by decide +kernel, ix_n (by omega), hg i (by omega), isDueM_ok _ _ (by omega) (by omega), bd_s, lt_x, ite_b1n, nth]
    simp only [lt_x, e1]
    by_cases hd : 0 < ld w i ∧ ld w i ≤ g i
    · rw [if_pos hd, show due w g i = true from decide_eq_true hd, cond_true]
      cases k with
      | zero => rw [if_neg (fun z => z rfl), if_pos rfl]; rfl
      | succ k => rw [if_pos (nI_ne0 (by omega) (by omega)), if_neg (show ¬ k + 1 = 0 by omega), pk_m1, show k + 1 - 1 = k by omega, ih k (by omega)]
    · rw [if_neg hd, show due w g i = false from decide_eq_false hd, cond_false]
      exact ih k hk
theorem next_318_ok {r : Nat} {v1 v2 : Int32} (hr : r ≤ 12) (K : St → Int32 → Option (St × Int32)) : ∀ (j m i : Nat) (S : St), i + 1 + j = r → j < m → S.1 173 11 = nI r → ∃ S2, X11_next_318 173 v1 v2 K m S (nI (i + 1)) = K S2 (nI r) ∧ Sm (fun k q => k = 179 ∧ i ≤ q ∧ q < r) S S2 ∧ ∀ e, i ≤ e → e + 1 < r → S2.1 179 e = S.1 179 (e + 1)
  | 0, 0, _, _, _, h, _ => absurd h (by omega)
  | j + 1, 0, _, _, _, h, _ => absurd h (by omega)
  | 0, m + 1, i, S, hij, _, h0 => by
    refine ⟨S, ?_, Sm.rf, fun e h1 h2 => absurd h2 (by omega)⟩
    rw [show i + 1 = r by omega, X11_next_318, if_pos (by rw [h0]; exact Int32.le_refl _)]
  | j + 1, m + 1, i, S, hij, hm, h0 => by
    have e1 : nI (i + 1) + (1 : Int32) = nI (i + 1 + 1) := nI_1 (i + 1)
    have e2 : nI (i + 1) - (1 : Int32) = nI i := nI_pred i
    obtain ⟨S2, q1, q2, q3⟩ := next_318_ok (v1 := v1) (v2 := v2) hr K j m (i + 1) (setI S 179 i (S.1 179 (i + 1))) (by omega) (by omega) (by rw [sI_n (by omega)]; exact h0)
    refine ⟨S2, ?_, ((sm_I S _ _ _).tr q2).mo (by intro k q z; omega), fun e h1 h2 => ?_⟩
    · rw [X11_next_318, if_neg (by rw [h0]; exact nI_ge (by omega) (by omega))]
      simp only [lt_x, rfm, e1, e2, ck_n (show i + 1 < 12 by omega) (show 12 < 2147483648 by omega), ck_n (show i < 12 by omega) (show 12 < 2147483648 by omega), ix_n (show i < 2147483648 by omega), ix_n (show i + 1 < 2147483648 by omega)]
      exact q1
    · by_cases he : e = i
      · rw [he, (q2 _ _ (fun z => by omega)).1, sI_s]
      · rw [q3 e (by omega) h2, sI_n (by omega)]
theorem next_A (hi : ISl n kd w) (hb : BG n g) (K : St → Int32 → Option (St × Int32)) : ∀ (l : List Nat) (m : Nat) (S : St), MSl S n kd w → MG S 176 n g → ND n l → RM S l → l.length + 1 < m → (∀ p t, askL (due w g) l = some (p, t) → ∃ S2, X11_next_267 173 K m S (-1) = K S2 (nI p) ∧ Sm (fun k j => k = 179 ∨ (k = 173 ∧ j = 11)) S S2 ∧ RM S2 t) ∧ (askL (due w g) l = none → ∃ S2 m2, m = m2 + l.length ∧ X11_next_267 173 K m S (-1) = X11_next_267 173 K m2 S2 (-1) ∧ Sm (fun k j => k = 179 ∨ (k = 173 ∧ j = 11)) S S2 ∧ RM S2 [])
  | [], m, S, _, _, _, hr, _ => ⟨fun p t h => (by cases h), fun _ => ⟨S, m, rfl, rfl, Sm.rf, hr⟩⟩
  | q :: l, 0, _, _, _, _, _, h => absurd h (by omega)
  | q :: l, m + 1, S, h, hg, hnd, hr, hm => by
    have hn := hi.1
    obtain ⟨n1, n2⟩ := hnd.tl
    have nl := hnd.len
    rw [List.length_cons] at hm nl
    obtain ⟨hr1, hr2⟩ := hr
    rw [List.length_cons] at hr1 hr2
    have e0 : S.1 179 0 = nI q := hr2 0 (by omega)
    have gq := hb q n1
    have hl := hi.ld_le (show q < 12 by omega)
    have e2 : nI (l.length + 1) - (1 : Int32) = nI l.length := nI_pred _
    obtain ⟨Sa, p1, p2, p3⟩ := next_318_ok (v1 := -1) (v2 := nI q) (show l.length + 1 ≤ 12 by omega) (fun (S96 : St) (v97 : Int32) =>
          lt (setI S96 173 11 ((S96.1 173 11) - (1 : Int32))) fun S98 =>
          ck (nI q) 15 (
          bd (X11_load S98 173 (nI q)) fun S100 v101 =>
          bd (X11_isDue S100 (S98.2 (rf 173 4) (ix (nI q))) v101) fun S102 v103 =>
          lt (fun (S105 : St) (v106 : Int32) =>
            X11_next_267 173 K m S105 v106) fun (j104 : St → Int32 → Option (St × Int32)) =>
          if v103 = 0 then (
            j104 S102 (-1))
          else (
            j104 S102 (nI q)))) l.length FU 0 S (by omega) (by unfold FU; omega) hr1
    rw [show nI (0 + 1) = (1 : Int32) from rfl] at p1
    have a4 : Sa.1 173 11 = nI (l.length + 1) := (p2 _ _ (fun z => by omega)).1.trans hr1
    have hs := p2.tr (sm_I Sa 173 11 (nI l.length))
    have ha := h.gs hs (by intro k j hk hq; omega)
    have ga : MG (setI Sa 173 11 (nI l.length)) 176 n g := fun e he => by rw [(hs _ _ (fun z => by omega)).2]; exact hg e he
    have ra : RM (setI Sa 173 11 (nI l.length)) l := ⟨sI_s _ _ _ _, fun i hi => by rw [sI_n (by omega), p3 i (by omega) (by omega), hr2 (i + 1) (by omega)]; rfl⟩
    have lo := load_ok ha (show q < 12 by omega)
    rw [ld_is] at lo
    have e9 : X11_next_267 173 K (m + 1) S (-1) = X11_next_267 173 K m (setI Sa 173 11 (nI l.length)) (if 0 < ld w q ∧ ld w q ≤ g q then nI q else -1) := by
      rw [X11_next_267, if_neg (by decide), lt_x, if_pos (by rw [hr1]; exact nI_ne0 (by omega) (by omega))]
      dsimp only
      rw [ck0 (show 0 < 12 by omega) (by omega), show rf 173 10 = 179 by decide +kernel, ix0, e0, lt_x, p1, lt_x, a4, e2, ck_n (show q < 15 by omega) (by omega), lo, bd_x, show rf 173 4 = 176 by decide +kernel, ix_n (by omega), ga q n1, isDueM_ok _ _ (by omega) (by omega), bd_x, lt_x, ite_b1z]
      by_cases z : 0 < ld w q ∧ ld w q ≤ g q
      · rw [if_pos z, if_pos z]
      · rw [if_neg z, if_neg z]
    have ih := next_A hi hb K l m (setI Sa 173 11 (nI l.length)) ha ga n2 ra (by omega)
    rw [askL, e9]
    by_cases hd : 0 < ld w q ∧ ld w q ≤ g q
    · rw [show due w g q = true from decide_eq_true hd, cond_true, if_pos hd]
      refine ⟨fun p t e => ?_, fun e => (by cases e)⟩
      cases e
      refine ⟨_, ?_, hs.mo (by intro k j z; omega), ra⟩
      cases m with
      | zero => omega
      | succ m => rw [X11_next_267, if_pos (nI_pos' (by omega))]
    · rw [show due w g q = false from decide_eq_false hd, cond_false, if_neg hd]
      refine ⟨fun p t e => ?_, fun e => ?_⟩
      · obtain ⟨S2, y1, y2, y3⟩ := ih.1 p t e
        exact ⟨S2, y1, (hs.tr y2).mo (by intro k j z; omega), y3⟩
      · obtain ⟨S2, m2, y0, y1, y2, y3⟩ := ih.2 e
        exact ⟨S2, m2, by rw [List.length_cons]; omega, y1, (hs.tr y2).mo (by intro k j z; omega), y3⟩
theorem next_267_ok {l : List Nat} (h : MSl S n kd w) (hi : ISl n kd w) (hg : MG S 176 n g) (hb : BG n g) (hnd : ND n l) (hr : RM S l) (hd : fstB (due w g) n 0 ≠ none) : ∃ S2, X11_next_267 173 (fun (S113 : St) (v114 : Int32) => some (S113, v114)) FU S (-1) = some (S2, oI (askd (due w g) n l).1) ∧ Sm (fun k j => k = 179 ∨ (k = 173 ∧ j = 11)) S S2 ∧ RM S2 (askd (due w g) n l).2 := by
  have hn := hi.1
  have hl := hnd.len
  have A := next_A hi hb (fun (S113 : St) (v114 : Int32) => some (S113, v114)) l FU S h hg hnd hr (by unfold FU; omega)
  obtain ⟨p, t, hp, -, hpn, -⟩ := askd_ok hnd hd
  cases ha : askL (due w g) l with
  | some x =>
    obtain ⟨p2, t2⟩ := x
    have e : askd (due w g) n l = (some p2, t2) := by unfold askd; rw [ha]
    rw [e]
    exact A.1 p2 t2 ha
  | none =>
    obtain ⟨Sa, m2, y0, y1, y2, y3⟩ := A.2 ha
    rw [y1]
    have ha1 := h.gs y2 (by intro k j hk hq; omega)
    have ga : MG Sa 176 n g := fun e he => by rw [(y2 _ _ (fun z => by omega)).2]; exact hg e he
    obtain ⟨Sb, p1, p2, p3⟩ := next_280_ok hn (-1) n FU 0 Sa (by omega) (by unfold FU; omega) ha1.1
    rw [nI_0] at p1
    have hs := p2.tr (sm_I Sb 173 11 (nI n))
    have hb1 := ha1.gs hs (by intro k j hk hq; omega)
    have gb : MG (setI Sb 173 11 (nI n)) 176 n g := fun e he => by rw [(hs _ _ (fun z => by omega)).2]; exact ga e he
    have rb : RM (setI Sb 173 11 (nI n)) (List.range n) := ⟨by rw [sI_s, List.length_range], fun i hi => by rw [List.length_range] at hi; rw [sI_n (by omega), p3 i (by omega) hi, gd_range hi]⟩
    have eb : Sb.1 173 0 = nI n := (p2 _ _ (fun z => by omega)).1.trans ha1.1
    have hm2 : ∃ m3, m2 = m3 + 1 := ⟨m2 - 1, by unfold FU at y0; omega⟩
    obtain ⟨m3, rfl⟩ := hm2
    have e1 : X11_next_267 173 (fun (S113 : St) (v114 : Int32) => some (S113, v114)) (m3 + 1) Sa (-1) = X11_next_267 173 (fun (S113 : St) (v114 : Int32) => some (S113, v114)) (m3 + 1) (setI Sb 173 11 (nI n)) (-1) := by
      have hne : ¬ (setI Sb 173 11 (nI n)).1 173 11 = 0 := by rw [sI_s]; exact nI_ne0 (by omega) (by omega)
      have he : ¬ ¬ Sa.1 173 11 = 0 := fun z => z y3.1
      rw [X11_next_267, if_neg (by decide), lt_x, if_neg he, p1, lt_x, eb, X11_next_267, if_neg (by decide), lt_x, if_pos hne]
    rw [e1]
    have B := next_A hi hb (fun (S113 : St) (v114 : Int32) => some (S113, v114)) (List.range n) (m3 + 1) (setI Sb 173 11 (nI n)) hb1 gb (ND_range n) rb (by rw [List.length_range]; unfold FU at y0; omega)
    cases hc : askL (due w g) (List.range n) with
    | some x =>
      obtain ⟨p2', t2⟩ := x
      have e : askd (due w g) n l = (some p2', t2) := by unfold askd; rw [ha, hc]
      obtain ⟨S2, z1, z2, z3⟩ := B.1 p2' t2 hc
      rw [e]
      exact ⟨S2, z1, ((y2.tr hs).tr z2).mo (by intro k j z; omega), z3⟩
    | none =>
      have e : askd (due w g) n l = (none, []) := by unfold askd; rw [ha, hc]
      rw [e] at hp
      cases hp
theorem choose_m {mn sd : Nat} {od : Nat → Nat} {row : List Nat} (h : MSl S n kd w) (hi : ISl n kd w) (hg : MG S 176 n g) (hb : BG n g) (hm : S.1 173 6 = nI mn) (hmn : mn < 5) (hsd : S.2 173 8 = lN sd) (hsd2 : sd < 2147483648) (ho : mn = 2 → ∀ i, i < n → S.1 178 i = nI (od i) ∧ od i < n) (hr : mn = 4 → RM S row ∧ ND n row) (hd : fstB (due w g) n 0 ≠ none) : ∃ S2, X11_next S 173 = some (S2, oI (chs w n mn od g sd row).1) ∧ Sm (fun k j => k = 179 ∨ (k = 173 ∧ (j = 8 ∨ j = 11))) S S2 ∧ S2.2 173 8 = lN (chs w n mn od g sd row).2.1 ∧ (mn = 4 → RM S2 (chs w n mn od g sd row).2.2) := by
  have hn := hi.1
  have cle := cnt_le (P := due w g) (j := n) (i := 0)
  have hc : 0 < cntB (due w g) n 0 := by
    rcases Nat.eq_zero_or_pos (cntB (due w g) n 0) with e | e
    · exact absurd (cnt_0.mp e) hd
    · exact e
  have em : ∀ k, k < 5 → ((nI mn = nI k) ↔ mn = k) := fun k hk => nI_eq (by omega) (by omega)
  have em0 : ((nI mn = 0) ↔ mn = 0) := em 0 (by omega)
  have em1 : ((nI mn = 1) ↔ mn = 1) := em 1 (by omega)
  have em2 : ((nI mn = 2) ↔ mn = 2) := em 2 (by omega)
  have em3 : ((nI mn = 3) ↔ mn = 3) := em 3 (by omega)
  unfold X11_next
  rw [hm, h.1]
  unfold chs
  by_cases m1 : mn = 1
  · rw [if_neg (fun z => by have := em0.mp z; omega), if_pos (em1.mpr m1), if_pos m1]
    have key := next_76_ok h hi hg hb (fun (S48 : St) (v49 : Int32) (v50 : Int32) => some (S48, v49)) n FU 0 none (by omega) (by unfold FU; omega) (fun q hq => by cases hq)
    rw [nI_0, show oI none = (-1 : Int32) from rfl] at key
    exact ⟨S, key, Sm.rf, hsd, fun z => absurd z (by omega)⟩
  · rw [if_neg m1]
    by_cases m2 : mn = 2
    · rw [if_neg (fun z => by have := em0.mp z; omega), if_neg (fun z => m1 (em1.mp z)), if_pos (em2.mpr m2), if_pos m2, lt_x]
      have key := next_138_ok h hi hg hb (ho m2) (fun (S66 : St) (v67 : Int32) (v68 : Int32) => some (S66, v67)) n FU none (by omega) (by unfold FU; omega)
      rw [show oI none = (-1 : Int32) from rfl] at key
      refine ⟨S, ?_, Sm.rf, hsd, fun z => absurd z (by omega)⟩
      rw [key]
      cases (fstB (fun i => due w g (od i)) n 0) <;> rfl
    · rw [if_neg m2]
      by_cases m3 : mn = 3
      · rw [if_neg (fun z => by have := em0.mp z; omega), if_neg (fun z => m1 (em1.mp z)), if_neg (fun z => m2 (em2.mp z)), if_pos (em3.mpr m3), if_pos m3]
        have hs := sm_J S 173 8 (lN (lot sd))
        have h2 := h.gs hs (by intro k j hk hq; omega)
        have g2 : MG (setJ S 173 8 (lN (lot sd))) 176 n g := fun e he => by rw [sJ_n (by omega)]; exact hg e he
        have hlt : lot sd / 256 % cntB (due w g) n 0 < cntB (due w g) n 0 := Nat.mod_lt _ hc
        have key := next_222_ok h2 hi g2 hb (-1) n FU 0 (lot sd / 256 % cntB (due w g) n 0) (by omega) (by unfold FU; omega) (by omega)
        rw [nI_0] at key
        refine ⟨setJ S 173 8 (lN (lot sd)), ?_, hs.mo (by intro k j z; omega), sJ_s _ _ _ _, fun z => absurd z (by omega)⟩
        rw [gu_t (show ¬ (2147483648 : Int64) = 0 by decide), hsd, lot_c hsd2, lt_x, gu_t (show ¬ (256 : Int64) = 0 by decide), dueMany_ok h2 hi g2 hb, bd_x, gu_t (by rw [nI_l (by omega), lN0, pk_lEQ (by omega) (by omega)]; omega), lt_x, sJ_s, skp_c hc (by omega), lN_i, key]
      · rw [if_neg m3]
        by_cases m4 : mn = 4
        · rw [if_neg (fun z => by have := em0.mp z; omega), if_neg (fun z => m1 (em1.mp z)), if_neg (fun z => m2 (em2.mp z)), if_neg (fun z => m3 (em3.mp z)), if_pos m4]
          obtain ⟨r1, r2⟩ := hr m4
          obtain ⟨S2, y1, y2, y3⟩ := next_267_ok h hi hg hb r2 r1 hd
          exact ⟨S2, y1, y2.mo (by intro k j z; omega), (y2 _ _ (fun z => by omega)).2.trans hsd, fun _ => y3⟩
        · rw [if_pos (em0.mpr (by omega)), if_neg m4, lt_x]
          have key := next_43_ok h hi hg hb (fun (S31 : St) (v32 : Int32) (v33 : Int32) => some (S31, v32)) n FU none (by omega) (by unfold FU; omega)
          rw [show oI none = (-1 : Int32) from rfl] at key
          refine ⟨S, ?_, Sm.rf, hsd, fun z => absurd z m4⟩
          rw [key]
          cases (fstB (due w g) n 0) <;> rfl
-- ---- after a slide
def nwE (wp : Nat → Nat) (l : List Nat) (e : Nat) : Bool := decide (wp e ≠ 0) && !anyB (fun i => decide (gd l i = e)) l.length 0
def bhd (wp : Nat → Nat) : Nat → Nat → List Nat → List Nat
  | 0, _, l => l
  | j + 1, i, l => bhd wp j (i + 1) (cond (nwE wp l i) (l ++ [i]) l)
def ahd (wp : Nat → Nat) : Nat → List Nat → List Nat
  | 0, l => l
  | k + 1, l => ahd wp k (cond (nwE wp l k) (k :: l) l)
theorem nw_new {wp : Nat → Nat} {l : List Nat} {e : Nat} (h : nwE wp l e = true) : ∀ i, i < l.length → gd l i ≠ e := by
  unfold nwE at h
  rw [Bool.and_eq_true] at h
  have h2 := h.2
  rw [Bool.not_eq_true'] at h2
  intro i hi
  exact of_decide_eq_false (anyB_f h2 i (by omega) (by omega))
theorem nd_new {l : List Nat} {e : Nat} (h : ND n l) (he : e < n) (hnew : ∀ i, i < l.length → gd l i ≠ e) : l.length < n := by
  have := pig n (l.length + 1) (fun i => if i < l.length then gd l i else e) (fun i hi => by
    show (if i < l.length then gd l i else e) < n
    split
    · next z => exact h.1 i z
    · exact he) (fun i j hi hj q => by
    have q : (if i < l.length then gd l i else e) = (if j < l.length then gd l j else e) := q
    by_cases z1 : i < l.length
    · by_cases z2 : j < l.length
      · rw [if_pos z1, if_pos z2] at q
        exact h.2 i j z1 z2 q
      · rw [if_pos z1, if_neg z2] at q
        exact absurd q (hnew i z1)
    · by_cases z2 : j < l.length
      · rw [if_neg z1, if_pos z2] at q
        exact absurd q.symm (hnew j z2)
      · omega)
  omega
theorem gd_app (l : List Nat) (e i : Nat) : gd (l ++ [e]) i = if i < l.length then gd l i else if i = l.length then e else 0 := by
  unfold gd
  by_cases z : i < l.length
  · rw [if_pos z]; simp [List.getD_eq_getElem?_getD, List.getElem?_append_left z]
  · rw [if_neg z]
    by_cases y : i = l.length
    · rw [if_pos y, y]; simp [List.getD_eq_getElem?_getD]
    · rw [if_neg y]
      simp [List.getD_eq_getElem?_getD]
      rw [List.getElem?_eq_none (by simp; omega)]
      rfl
theorem ND.app {l : List Nat} {e : Nat} (h : ND n l) (he : e < n) (hnew : ∀ i, i < l.length → gd l i ≠ e) : ND n (l ++ [e]) := by
  have hl : (l ++ [e]).length = l.length + 1 := by simp
  refine ⟨fun i hi => ?_, fun i j hi hj q => ?_⟩
  · rw [gd_app]
    split
    · next z => exact h.1 i z
    · rw [if_pos (by omega)]; exact he
  · rw [gd_app, gd_app] at q
    by_cases z1 : i < l.length
    · by_cases z2 : j < l.length
      · rw [if_pos z1, if_pos z2] at q
        exact h.2 i j z1 z2 q
      · rw [if_pos z1, if_neg z2, if_pos (by omega)] at q
        exact absurd q (hnew i z1)
    · by_cases z2 : j < l.length
      · rw [if_neg z1, if_pos (by omega), if_pos z2] at q
        exact absurd q.symm (hnew j z2)
      · omega
theorem ND.cns {l : List Nat} {e : Nat} (h : ND n l) (he : e < n) (hnew : ∀ i, i < l.length → gd l i ≠ e) : ND n (e :: l) := by
  refine ⟨fun i hi => ?_, fun i j hi hj q => ?_⟩
  · cases i with
    | zero => exact he
    | succ i => exact h.1 i (by rw [List.length_cons] at hi; omega)
  · rw [List.length_cons] at hi hj
    cases i with
    | zero =>
      cases j with
      | zero => rfl
      | succ j => exact absurd q.symm (hnew j (by omega))
    | succ i =>
      cases j with
      | zero => exact absurd q (hnew i (by omega))
      | succ j =>
        have := h.2 i j (by omega) (by omega) q
        omega
theorem newEnd_27_ok {l : List Nat} {e : Nat} (hl : l.length ≤ 12) (hr : RC S l) (hll : ∀ i, i < l.length → gd l i < 12) (he : e < 12) (K : St → Int32 → Option (St × Int32)) : ∀ (j m i : Nat), i + j = l.length → j < m → X0_isNewEnd_27 25 (nI e) K m S (nI i) = cond (anyB (fun i => decide (gd l i = e)) j i) (some (S, 0)) (K S (nI l.length))
  | 0, 0, _, _, h => absurd h (by omega)
  | j + 1, 0, _, _, h => absurd h (by omega)
  | 0, m + 1, i, hij, _ => by
    rw [show i = l.length by omega, X0_isNewEnd_27, if_pos (by rw [hr.1]; exact Int32.le_refl _)]
    rfl
  | j + 1, m + 1, i, hij, hm => by
    have e1 : nI i + (1 : Int32) = nI (i + 1) := nI_1 i
    have hlt := hll i (by omega)
    rw [X0_isNewEnd_27, if_neg (by rw [hr.1]; exact nI_ge (by omega) (by omega)), ck_n (show i < 12 by omega) (by omega), show rf 25 3 = 27 by decide +kernel, ix_n (by omega), hr.2 i (by omega), lt_x, e1, newEnd_27_ok hl hr hll he K j m (i + 1) (by omega) (by omega), anyB]
    by_cases z : gd l i = e
    · rw [if_neg (fun y => y (by rw [z])), decide_eq_true z, Bool.true_or]; rfl
    · rw [if_pos (fun y => z ((nI_eq (by omega) (by omega)).mp y)), decide_eq_false z, Bool.false_or]
theorem newEnd_ok {l : List Nat} {p e : Nat} (h : CSl S n kd w) (hi : ISl n kd w) (hp : p < n) (he : e < n) (hnd : ND n l) (hr : RC S l) : X0_isNewEnd S 25 (nI p) (nI e) = some (S, bi (nwE (w p) l e)) := by
  have hn := hi.1
  have hl := hnd.len
  have hw := hi.w_le (show p < 12 by omega) (show e < 15 by omega)
  have key := newEnd_27_ok (e := e) (show l.length ≤ 12 by omega) hr (fun i hi => by have := hnd.1 i hi; omega) (by omega) (fun (S29 : St) (v30 : Int32) => some (S29, (1 : Int32))) l.length FU 0 (by omega) (by unfold FU; omega)
  rw [nI_0] at key
  unfold X0_isNewEnd nwE
  simp only [lt_x, rfs, rf_3, ck_n (show p < 12 by omega) (show 12 < 2147483648 by omega), ck_n (show e < 15 by omega) (show 15 < 2147483648 by omega), ix_n (show p < 2147483648 by omega), ix_n (show e < 2147483648 by omega), h.2.2.1 p e (by omega) (by omega), hr.1]
  by_cases z : w p e = 0
  · rw [if_pos (by rw [z]; rfl), decide_eq_false (fun y => y z), Bool.false_and]; rfl
  · rw [if_neg (nI_ne0 (by omega) (by omega)), decide_eq_true z, Bool.true_and]
    by_cases z2 : l.length < 12
    · rw [if_pos (by rw [show (12 : Int32) = nI 12 from rfl]; exact nI_lt z2 (by omega)), key]
      cases anyB (fun i => decide (gd l i = e)) l.length 0 <;> rfl
    · rw [if_neg (by rw [show (12 : Int32) = nI 12 from rfl]; exact nI_nlt (by omega) (by omega))]
      cases ha : anyB (fun i => decide (gd l i = e)) l.length 0 with
      | true => rfl
      | false =>
        have := nd_new hnd he (fun i hi => of_decide_eq_false (anyB_f ha i (by omega) (by omega)))
        omega
theorem behind_ok {p : Nat} (hi : ISl n kd w) (hp : p < n) (K : St → Int32 → Option (St × Unit)) : ∀ (j m i : Nat) (l : List Nat) (S : St), i + j = n → j < m → CSl S n kd w → ND n l → RC S l → ∃ S2, X0_askBehind_2 25 (nI p) K m S (nI i) = K S2 (nI n) ∧ Sm (fun k j => k = 27 ∨ (k = 25 ∧ j = 4)) S S2 ∧ RC S2 (bhd (w p) j i l) ∧ ND n (bhd (w p) j i l)
  | 0, 0, _, _, _, _, h, _, _, _ => absurd h (by omega)
  | j + 1, 0, _, _, _, _, h, _, _, _ => absurd h (by omega)
  | 0, m + 1, i, l, S, hij, _, h, hnd, hr => by
    refine ⟨S, ?_, Sm.rf, hr, hnd⟩
    rw [show i = n by omega, X0_askBehind_2, show rf 25 0 = 1 by decide +kernel, if_pos (by rw [h.1]; exact Int32.le_refl _)]
  | j + 1, m + 1, i, l, S, hij, hm, h, hnd, hr => by
    have hn := hi.1
    have e1 : nI i + (1 : Int32) = nI (i + 1) := nI_1 i
    rw [X0_askBehind_2, show rf 25 0 = 1 by decide +kernel, if_neg (by rw [h.1]; exact nI_ge (by omega) (by omega)), newEnd_ok h hi hp (show i < n by omega) hnd hr, bd_x, lt_x, bhd]
    cases hw : nwE (w p) l i with
    | false =>
      rw [if_pos (show bi false = 0 from rfl), cond_false]
      dsimp only
      rw [lt_x, e1]
      exact behind_ok hi hp K j m (i + 1) l S (by omega) (by omega) h hnd hr
    | true =>
      have hnew := nw_new hw
      have hlt := nd_new hnd (show i < n by omega) hnew
      have hs := (sm_I S 27 l.length (nI i)).tr (sm_I (setI S 27 l.length (nI i)) 25 4 (nI (l.length + 1)))
      rw [if_neg (show ¬ bi true = 0 by decide), cond_true, hr.1, ck_n (show l.length < 12 by omega) (by omega), lt_x, show rf 25 3 = 27 by decide +kernel, ix_n (by omega), sI_n (show ¬ (25 = 27 ∧ 4 = l.length) by omega), hr.1, nI_1, lt_x]
      dsimp only
      rw [lt_x, e1]
      have rl : RC (setI (setI S 27 l.length (nI i)) 25 4 (nI (l.length + 1))) (l ++ [i]) := by
        refine ⟨by rw [sI_s]; simp, fun q hq => ?_⟩
        have hq2 : q < l.length + 1 := by simpa using hq
        rw [sI_n (by omega), gd_app]
        by_cases z : q < l.length
        · rw [sI_n (by omega), if_pos z]; exact hr.2 q z
        · rw [show q = l.length by omega, sI_s, if_neg (by omega), if_pos rfl]
      obtain ⟨S2, y1, y2, y3, y4⟩ := behind_ok hi hp K j m (i + 1) (l ++ [i]) _ (by omega) (by omega) (h.gs hs (by intro k j hk hq; omega)) (hnd.app (by omega) hnew) rl
      exact ⟨S2, y1, (hs.tr y2).mo (by intro k j z; omega), y3, y4⟩
theorem shift_28_ok {v1 v2 : Int32} (K : St → Int32 → Option (St × Unit)) : ∀ (k m : Nat) (S : St), k < 12 → k < m → ∃ S2, X0_askAhead_28 25 v1 v2 K m S (nI k) = K S2 (nI 0) ∧ Sm (fun a b => a = 27 ∧ 1 ≤ b ∧ b ≤ k) S S2 ∧ ∀ e, e < k → S2.1 27 (e + 1) = S.1 27 e
  | 0, 0, _, _, h => absurd h (by omega)
  | k + 1, 0, _, _, h => absurd h (by omega)
  | 0, m + 1, S, _, _ => by
    refine ⟨S, ?_, Sm.rf, fun e h1 => absurd h1 (by omega)⟩
    rw [X0_askAhead_28, if_pos (by decide)]
  | k + 1, m + 1, S, hk, hm => by
    obtain ⟨S2, q1, q2, q3⟩ := shift_28_ok (v1 := v1) (v2 := v2) K k m (setI S 27 (k + 1) (S.1 27 k)) (by omega) (by omega)
    refine ⟨S2, ?_, ((sm_I S _ _ _).tr q2).mo (by intro k q z; omega), fun e h1 => ?_⟩
    · rw [X0_askAhead_28, if_neg (nI_nle (by omega) (by omega)), nI_pred, ck_n (show k < 12 by omega) (by omega), ck_n (show k + 1 < 12 by omega) (by omega), lt_x, lt_x, pk_m1, show rf 25 3 = 27 by decide +kernel, ix_n (by omega), ix_n (by omega)]
      exact q1
    · by_cases he : e = k
      · rw [he, (q2 _ _ (fun z => by omega)).1, sI_s]
      · rw [q3 e (by omega), sI_n (by omega)]
theorem ahead_ok {p : Nat} (hi : ISl n kd w) (hp : p < n) (K : St → Int32 → Option (St × Unit)) : ∀ (k m : Nat) (l : List Nat) (S : St), k ≤ n → k < m → CSl S n kd w → ND n l → RC S l → ∃ S2, X0_askAhead_10 25 (nI p) K m S (nI k - 1) = K S2 (-1) ∧ Sm (fun k j => k = 27 ∨ (k = 25 ∧ j = 4)) S S2 ∧ RC S2 (ahd (w p) k l) ∧ ND n (ahd (w p) k l)
  | 0, 0, _, _, _, h, _, _, _ => absurd h (by omega)
  | k + 1, 0, _, _, _, h, _, _, _ => absurd h (by omega)
  | 0, m + 1, l, S, _, _, h, hnd, hr => by
    refine ⟨S, ?_, Sm.rf, hr, hnd⟩
    rw [show nI 0 - 1 = (-1 : Int32) by decide, X0_askAhead_10, if_pos (by decide)]
  | k + 1, m + 1, l, S, hk, hm, h, hnd, hr => by
    have hn := hi.1
    rw [nI_pred, X0_askAhead_10, if_neg (nI_pos (by omega)), newEnd_ok h hi hp (show k < n by omega) hnd hr, bd_x, lt_x, ahd]
    cases hw : nwE (w p) l k with
    | false =>
      rw [if_pos (show bi false = 0 from rfl), cond_false]
      dsimp only
      rw [lt_x, i_m1]
      exact ahead_ok hi hp K k m l S (by omega) (by omega) h hnd hr
    | true =>
      have hnew := nw_new hw
      have hlt := nd_new hnd (show k < n by omega) hnew
      obtain ⟨Sa, p1, p2, p3⟩ := shift_28_ok (v1 := nI p) (v2 := nI k) (fun (S33 : St) (v34 : Int32) =>
          ck (0 : Int32) 12 (lt (setI S33 (rf 25 3) (ix (0 : Int32)) (nI k)) fun S36 =>
          lt (setI S36 25 4 ((S36.1 25 4) + (1 : Int32))) fun S37 =>
          (fun (S26 : St)  => lt (nI k + (-1 : Int32)) fun v27 => X0_askAhead_10 25 (nI p) K m S26 v27) S37)) l.length FU S (by omega) (by unfold FU; omega)
      have a4 : Sa.1 25 4 = nI l.length := (p2 _ _ (fun z => by omega)).1.trans hr.1
      have hs := (p2.tr (sm_I Sa 27 0 (nI k))).tr (sm_I (setI Sa 27 0 (nI k)) 25 4 (nI (l.length + 1)))
      rw [if_neg (show ¬ bi true = 0 by decide), cond_true, lt_x, hr.1, p1, ck0 (by omega) (by omega), lt_x, show rf 25 3 = 27 by decide +kernel, ix0, sI_n (show ¬ (25 = 27 ∧ 4 = 0) by omega), a4, nI_1, lt_x]
      dsimp only
      rw [lt_x, i_m1]
      have rl : RC (setI (setI Sa 27 0 (nI k)) 25 4 (nI (l.length + 1))) (k :: l) := by
        refine ⟨by rw [sI_s]; simp, fun q hq => ?_⟩
        rw [sI_n (by omega)]
        cases q with
        | zero => rw [sI_s]; rfl
        | succ q =>
          have hq2 : q < l.length := by simpa using hq
          rw [sI_n (by omega), p3 q hq2]; exact hr.2 q hq2
      obtain ⟨S2, y1, y2, y3, y4⟩ := ahead_ok hi hp K k m (k :: l) _ (by omega) (by omega) (h.gs hs (by intro k j hk hq; omega)) (hnd.cns (by omega) hnew) rl
      exact ⟨S2, y1, (hs.tr y2).mo (by intro k j z; omega), y3, y4⟩
def hea (w : Nat → Nat → Nat) (kd : Nat → Nat) (n p : Nat) (l : List Nat) : List Nat := if kd p = 4 then ahd (w p) n l else bhd (w p) n 0 l
theorem isK4 : ∀ a, a < 5 → (isK a 4 = true ↔ a = 4) := by decide
theorem hear_c {p : Nat} {l : List Nat} (h : CSl S n kd w) (hi : ISl n kd w) (hp : p < n) (hm : S.1 25 5 = nI 4) (hnd : ND n l) (hr : RC S l) : ∃ S2, X0_hearOfSlide S 25 (nI p) = some (S2, ()) ∧ Sm (fun k j => k = 27 ∨ (k = 25 ∧ j = 4)) S S2 ∧ RC S2 (hea w kd n p l) ∧ ND n (hea w kd n p l) := by
  have hn := hi.1
  have hk := hi.2.1 p hp
  have hio := isOf_ok h hi hp (show 4 < 5 by omega)
  unfold X0_hearOfSlide hea
  rw [hm, if_pos (show nI 4 = 4 from rfl), show rf 25 0 = 1 by decide +kernel, show (4 : Int32) = nI 4 from rfl, hio, bd_x, ite_b1z]
  by_cases z : kd p = 4
  · rw [if_pos ((isK4 _ hk).mpr z), if_pos z]
    obtain ⟨S2, y1, y2, y3, y4⟩ := ahead_ok hi hp (fun (S38 : St) (v39 : Int32) => some (S38, ())) n FU l S (by omega) (by unfold FU; omega) h hnd hr
    refine ⟨S2, ?_, y2, y3, y4⟩
    unfold X0_askAhead
    rw [show rf 25 0 = 1 by decide +kernel, h.1, lt_x, y1, bd_s]
  · rw [if_neg (fun y => z ((isK4 _ hk).mp y)), if_neg z]
    obtain ⟨S2, y1, y2, y3, y4⟩ := behind_ok hi hp (fun (S30 : St) (v31 : Int32) => some (S30, ())) n FU 0 l S (by omega) (by unfold FU; omega) h hnd hr
    rw [nI_0] at y1
    refine ⟨S2, ?_, y2, y3, y4⟩
    unfold X0_askBehind
    rw [y1, bd_s]
-- ---- the reference
theorem asked_2_ok {l : List Nat} {e : Nat} (hl : l.length ≤ 12) (hr : RM S l) (hll : ∀ i, i < l.length → gd l i < 12) (he : e < 12) : ∀ (j m i : Nat), i + j = l.length → j < m → X11_isAsked_2 173 (nI e) (fun (S23 : St) (v24 : Int32) => some (S23, (0 : Int32))) m S (nI i) = some (S, bi (anyB (fun i => decide (gd l i = e)) j i))
  | 0, 0, _, _, h => absurd h (by omega)
  | j + 1, 0, _, _, h => absurd h (by omega)
  | 0, m + 1, i, hij, _ => by
    rw [show i = l.length by omega, X11_isAsked_2, if_pos (by rw [hr.1]; exact Int32.le_refl _)]
    rfl
  | j + 1, m + 1, i, hij, hm => by
    have e1 : nI i + (1 : Int32) = nI (i + 1) := nI_1 i
    have hlt := hll i (by omega)
    rw [X11_isAsked_2, if_neg (by rw [hr.1]; exact nI_ge (by omega) (by omega)), ck_n (show i < 12 by omega) (by omega), show rf 173 10 = 179 by decide +kernel, ix_n (by omega), hr.2 i (by omega), lt_x, e1, asked_2_ok hl hr hll he j m (i + 1) (by omega) (by omega), anyB]
    by_cases z : gd l i = e
    · rw [if_neg (fun y => y (by rw [z])), decide_eq_true z, Bool.true_or]; rfl
    · rw [if_pos (fun y => z ((nI_eq (by omega) (by omega)).mp y)), decide_eq_false z, Bool.false_or]
theorem isAsked_ok {l : List Nat} {e : Nat} (hn : n ≤ 12) (he : e < n) (hnd : ND n l) (hr : RM S l) : X11_isAsked S 173 (nI e) = some (S, bi (anyB (fun i => decide (gd l i = e)) l.length 0)) := by
  have hl := hnd.len
  have key := asked_2_ok (e := e) (show l.length ≤ 12 by omega) hr (fun i hi => by have := hnd.1 i hi; omega) (by omega) l.length FU 0 (by omega) (by unfold FU; omega)
  rw [nI_0] at key
  unfold X11_isAsked
  rw [key]
theorem nw_cases (wp : Nat → Nat) (l : List Nat) (e : Nat) : (wp e = 0 ∧ nwE wp l e = false) ∨ (¬ wp e = 0 ∧ nwE wp l e = !anyB (fun i => decide (gd l i = e)) l.length 0) := by
  unfold nwE
  by_cases z : wp e = 0
  · left; exact ⟨z, by rw [decide_eq_false (fun y => y z), Bool.false_and]⟩
  · right; exact ⟨z, by rw [decide_eq_true z, Bool.true_and]⟩
theorem asks_98_ok {p : Nat} (hi : ISl n kd w) (hp : p < n) (K : St → Int32 → Option (St × Unit)) : ∀ (j m i : Nat) (l : List Nat) (S : St), i + j = n → j < m → MSl S n kd w → ND n l → RM S l → ∃ S2, X11_asks_98 173 (nI p) K m S (nI i) = K S2 (nI n) ∧ Sm (fun k j => k = 179 ∨ (k = 173 ∧ j = 11)) S S2 ∧ RM S2 (bhd (w p) j i l)
  | 0, 0, _, _, _, _, h, _, _, _ => absurd h (by omega)
  | j + 1, 0, _, _, _, _, h, _, _, _ => absurd h (by omega)
  | 0, m + 1, i, l, S, hij, _, h, hnd, hr => by
    refine ⟨S, ?_, Sm.rf, hr⟩
    rw [show i = n by omega, X11_asks_98, if_pos (by rw [h.1]; exact Int32.le_refl _)]
  | j + 1, m + 1, i, l, S, hij, hm, h, hnd, hr => by
    have hn := hi.1
    have e1 : nI i + (1 : Int32) = nI (i + 1) := nI_1 i
    have hw := hi.w_le (show p < 12 by omega) (show i < 15 by omega)
    have skip : nwE (w p) l i = false → ∃ S2, X11_asks_98 173 (nI p) K m S (nI (i + 1)) = K S2 (nI n) ∧ Sm (fun k j => k = 179 ∨ (k = 173 ∧ j = 11)) S S2 ∧ RM S2 (bhd (w p) (j + 1) i l) := fun z => by
      rw [bhd, z, cond_false]
      exact asks_98_ok hi hp K j m (i + 1) l S (by omega) (by omega) h hnd hr
    rw [X11_asks_98, if_neg (by rw [h.1]; exact nI_ge (by omega) (by omega)), weightOf_ok h (show p < 12 by omega) (show i < 15 by omega), bd_x, lt_x]
    rcases nw_cases (w p) l i with ⟨z1, z2⟩ | ⟨z1, z2⟩
    · rw [if_pos (by rw [z1]; rfl)]
      dsimp only
      rw [lt_x, e1]
      exact skip z2
    · rw [if_neg (nI_ne0 (by omega) (by omega)), isAsked_ok hn (show i < n by omega) hnd hr, bd_x]
      cases ha : anyB (fun q => decide (gd l q = i)) l.length 0 with
      | true =>
        rw [if_neg (show ¬ bi true = 0 by decide)]
        dsimp only
        rw [lt_x, e1]
        exact skip (by rw [z2, ha]; rfl)
      | false =>
        have hwt : nwE (w p) l i = true := by rw [z2, ha]; rfl
        have hnew := nw_new hwt
        have hlt := nd_new hnd (show i < n by omega) hnew
        have hs := (sm_I S 179 l.length (nI i)).tr (sm_I (setI S 179 l.length (nI i)) 173 11 (nI (l.length + 1)))
        rw [if_pos (show bi false = 0 from rfl), hr.1, ck_n (show l.length < 12 by omega) (by omega), lt_x, show rf 173 10 = 179 by decide +kernel, ix_n (by omega), sI_n (show ¬ (173 = 179 ∧ 11 = l.length) by omega), hr.1, nI_1, lt_x, bhd, hwt, cond_true]
        dsimp only
        rw [lt_x, e1]
        have rl : RM (setI (setI S 179 l.length (nI i)) 173 11 (nI (l.length + 1))) (l ++ [i]) := by
          refine ⟨by rw [sI_s]; simp, fun q hq => ?_⟩
          have hq2 : q < l.length + 1 := by simpa using hq
          rw [sI_n (by omega), gd_app]
          by_cases z : q < l.length
          · rw [sI_n (by omega), if_pos z]; exact hr.2 q z
          · rw [show q = l.length by omega, sI_s, if_neg (by omega), if_pos rfl]
        obtain ⟨S2, y1, y2, y3⟩ := asks_98_ok hi hp K j m (i + 1) (l ++ [i]) _ (by omega) (by omega) (h.gs hs (by intro k j hk hq; omega)) (hnd.app (by omega) hnew) rl
        exact ⟨S2, y1, (hs.tr y2).mo (by intro k j z; omega), y3⟩
theorem asks_46_ok {v1 v2 : Int32} (K : St → Int32 → Option (St × Unit)) : ∀ (k m : Nat) (S : St), k < 12 → k < m → ∃ S2, X11_asks_46 173 v1 v2 K m S (nI k) = K S2 (nI 0) ∧ Sm (fun a b => a = 179 ∧ 1 ≤ b ∧ b ≤ k) S S2 ∧ ∀ e, e < k → S2.1 179 (e + 1) = S.1 179 e
  | 0, 0, _, _, h => absurd h (by omega)
  | k + 1, 0, _, _, h => absurd h (by omega)
  | 0, m + 1, S, _, _ => by
    refine ⟨S, ?_, Sm.rf, fun e h1 => absurd h1 (by omega)⟩
    rw [X11_asks_46, if_pos (by decide)]
  | k + 1, m + 1, S, hk, hm => by
    obtain ⟨S2, q1, q2, q3⟩ := asks_46_ok (v1 := v1) (v2 := v2) K k m (setI S 179 (k + 1) (S.1 179 k)) (by omega) (by omega)
    refine ⟨S2, ?_, ((sm_I S _ _ _).tr q2).mo (by intro k q z; omega), fun e h1 => ?_⟩
    · rw [X11_asks_46, if_neg (nI_nle (by omega) (by omega)), nI_pred, ck_n (show k < 12 by omega) (by omega), ck_n (show k + 1 < 12 by omega) (by omega), lt_x, lt_x, pk_m1, show rf 173 10 = 179 by decide +kernel, ix_n (by omega), ix_n (by omega)]
      exact q1
    · by_cases he : e = k
      · rw [he, (q2 _ _ (fun z => by omega)).1, sI_s]
      · rw [q3 e (by omega), sI_n (by omega)]
theorem asks_17_ok {p : Nat} (hi : ISl n kd w) (hp : p < n) (K : St → Int32 → Option (St × Unit)) : ∀ (k m : Nat) (l : List Nat) (S : St), k ≤ n → k < m → MSl S n kd w → ND n l → RM S l → ∃ S2, X11_asks_17 173 (nI p) K m S (nI k - 1) = K S2 (-1) ∧ Sm (fun k j => k = 179 ∨ (k = 173 ∧ j = 11)) S S2 ∧ RM S2 (ahd (w p) k l)
  | 0, 0, _, _, _, h, _, _, _ => absurd h (by omega)
  | k + 1, 0, _, _, _, h, _, _, _ => absurd h (by omega)
  | 0, m + 1, l, S, _, _, h, hnd, hr => by
    refine ⟨S, ?_, Sm.rf, hr⟩
    rw [show nI 0 - 1 = (-1 : Int32) by decide, X11_asks_17, if_pos (by decide)]
  | k + 1, m + 1, l, S, hk, hm, h, hnd, hr => by
    have hn := hi.1
    have hw := hi.w_le (show p < 12 by omega) (show k < 15 by omega)
    have skip : nwE (w p) l k = false → ∃ S2, X11_asks_17 173 (nI p) K m S (nI k - 1) = K S2 (-1) ∧ Sm (fun k j => k = 179 ∨ (k = 173 ∧ j = 11)) S S2 ∧ RM S2 (ahd (w p) (k + 1) l) := fun z => by
      rw [ahd, z, cond_false]
      exact asks_17_ok hi hp K k m l S (by omega) (by omega) h hnd hr
    rw [nI_pred, X11_asks_17, if_neg (nI_pos (by omega)), weightOf_ok h (show p < 12 by omega) (show k < 15 by omega), bd_x, lt_x]
    rcases nw_cases (w p) l k with ⟨z1, z2⟩ | ⟨z1, z2⟩
    · rw [if_pos (by rw [z1]; rfl)]
      dsimp only
      rw [lt_x, i_m1]
      exact skip z2
    · rw [if_neg (nI_ne0 (by omega) (by omega)), isAsked_ok hn (show k < n by omega) hnd hr, bd_x]
      cases ha : anyB (fun q => decide (gd l q = k)) l.length 0 with
      | true =>
        rw [if_neg (show ¬ bi true = 0 by decide)]
        dsimp only
        rw [lt_x, i_m1]
        exact skip (by rw [z2, ha]; rfl)
      | false =>
        have hwt : nwE (w p) l k = true := by rw [z2, ha]; rfl
        have hnew := nw_new hwt
        have hlt := nd_new hnd (show k < n by omega) hnew
        obtain ⟨Sa, p1, p2, p3⟩ := asks_46_ok (v1 := nI p) (v2 := nI k) (fun (S47 : St) (v48 : Int32) =>
            ck (0 : Int32) 12 (lt (setI S47 (rf 173 10) (ix (0 : Int32)) (nI k)) fun S50 =>
            lt (setI S50 173 11 ((S50.1 173 11) + (1 : Int32))) fun S51 =>
            (fun (S38 : St)  => lt (nI k + (-1 : Int32)) fun v39 => X11_asks_17 173 (nI p) K m S38 v39) S51)) l.length FU S (by omega) (by unfold FU; omega)
        have a4 : Sa.1 173 11 = nI l.length := (p2 _ _ (fun z => by omega)).1.trans hr.1
        have hs := (p2.tr (sm_I Sa 179 0 (nI k))).tr (sm_I (setI Sa 179 0 (nI k)) 173 11 (nI (l.length + 1)))
        rw [if_pos (show bi false = 0 from rfl), lt_x, hr.1, p1, ck0 (by omega) (by omega), lt_x, show rf 173 10 = 179 by decide +kernel, ix0, sI_n (show ¬ (173 = 179 ∧ 11 = 0) by omega), a4, nI_1, lt_x, ahd, hwt, cond_true]
        dsimp only
        rw [lt_x, i_m1]
        have rl : RM (setI (setI Sa 179 0 (nI k)) 173 11 (nI (l.length + 1))) (k :: l) := by
          refine ⟨by rw [sI_s]; simp, fun q hq => ?_⟩
          rw [sI_n (by omega)]
          cases q with
          | zero => rw [sI_s]; rfl
          | succ q =>
            have hq2 : q < l.length := by simpa using hq
            rw [sI_n (by omega), p3 q hq2]; exact hr.2 q hq2
        obtain ⟨S2, y1, y2, y3⟩ := asks_17_ok hi hp K k m (k :: l) _ (by omega) (by omega) (h.gs hs (by intro k j hk hq; omega)) (hnd.cns (by omega) hnew) rl
        exact ⟨S2, y1, (hs.tr y2).mo (by intro k j z; omega), y3⟩
theorem asks_ok {p : Nat} {l : List Nat} (h : MSl S n kd w) (hi : ISl n kd w) (hp : p < n) (hnd : ND n l) (hr : RM S l) : ∃ S2, X11_asks S 173 (nI p) = some (S2, ()) ∧ Sm (fun k j => k = 179 ∨ (k = 173 ∧ j = 11)) S S2 ∧ RM S2 (hea w kd n p l) := by
  have hn := hi.1
  have hk := hi.2.1 p hp
  have e4 : (nI (kd p) = 4) ↔ kd p = 4 := nI_eq (b := 4) (by omega) (by omega)
  unfold X11_asks hea
  rw [ck_n (show p < 12 by omega) (by omega), show rf 173 1 = 174 by decide +kernel, ix_n (by omega), h.2.1 p hp]
  by_cases z : kd p = 4
  · rw [if_neg (fun y => y (e4.mpr z)), if_pos z, h.1, lt_x]
    obtain ⟨S2, y1, y2, y3⟩ := asks_17_ok hi hp (fun (S52 : St) (v53 : Int32) => some (S52, ())) n FU l S (by omega) (by unfold FU; omega) h hnd hr
    exact ⟨S2, y1, y2, y3⟩
  · rw [if_pos (fun y => z (e4.mp y)), if_neg z]
    obtain ⟨S2, y1, y2, y3⟩ := asks_98_ok hi hp (fun (S32 : St) (v33 : Int32) => some (S32, ())) n FU 0 l S (by omega) (by unfold FU; omega) h hnd hr
    rw [nI_0] at y1
    exact ⟨S2, y1, y2, y3⟩
end
