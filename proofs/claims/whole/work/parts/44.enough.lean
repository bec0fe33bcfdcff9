/-! enough, check -/
section
variable {S : St} {c : Nat}
/-- the numbers that wait are gone; a finding or not -/
theorem Ok.q0 {n mn : Nat} {kd : Nat → Nat} {w : Nat → Nat → Nat} {g : Nat → Nat} {bg : Bool} {f m : St → Option (St × Int32)} {v : Int32} (fd : Bool) (hR : Rel S c n kd w bg g mn) {Sx : St} (hx : Sm (fun k _ => 21 ≤ k ∧ k ≤ 24) S Sx) (hf : f S = some (cond fd (setI (setI Sx 170 1 0) 0 15 (Sx.1 0 15 + 1)) (setI Sx 170 1 0), v)) (hm : ∀ S1, CT S S1 → ∃ Sy, Sm (fun k j => (k = 173 ∧ j = 23) ∨ 193 ≤ k) S1 Sy ∧ Sy.1 173 23 = 0 ∧ m S1 = some (cond fd (setI Sy 173 24 (Sy.1 173 24 + 1)) Sy, v)) : Ok S c f m := by
  have hR0 := hR
  obtain ⟨⟨a1, a2, a3, a4, a5, a6⟩, ⟨b1', b2, b3, b4⟩, ⟨c1, c2, c3, c4⟩, d1, d2⟩ := hR0
  have hs0 := hx.tr (sm_I Sx 170 1 0)
  cases fd with
  | true =>
    have hs1 := hs0.tr (sm_I (setI Sx 170 1 0) 0 15 (Sx.1 0 15 + 1))
    have q : CT S (setI (setI Sx 170 1 0) 0 15 (Sx.1 0 15 + 1)) := hs1.mo (by intro k j hk; omega)
    obtain ⟨Sy, y1, y3, y2⟩ := hm _ q
    have hs := (hs1.tr y1).tr (sm_I Sy 173 24 (Sy.1 173 24 + 1))
    refine ⟨_, _, v, hf, y2, ?_⟩
    show RelX (setI Sy 173 24 (Sy.1 173 24 + 1)) (c + 1)
    refine (Rel.re hR hs (by intro k j hk hq; omega) (by intro k j hk hq; omega) a6 (Or.inr ⟨?_, ?_, ?_, ?_⟩) (Or.inl ⟨rfl, by intro k j hk hq; omega⟩) (Or.inl (by intro k j hk hq; omega)) (Or.inl ⟨rfl, by intro k j hk hq; omega⟩) (Or.inl ⟨rfl, by intro k j hk hq; omega⟩) (Or.inl (by intro k j hk hq; omega)) (Or.inl (by intro k j hk hq; omega)) (Or.inl (by intro k j hk hq; omega)) (Or.inl (by intro k j hk hq; omega)) (Or.inr ⟨0, by omega, ?_, ?_, fun i hi => absurd hi (by omega)⟩)).x
    · rw [(hs 0 13 (fun z => by omega)).1]; exact b1'.1
    · rw [(hs 173 3 (fun z => by omega)).1]; exact b1'.2.1
    · rw [(hs 0 14 (fun z => by omega)).1, (hs 173 7 (fun z => by omega)).1]; exact b1'.2.2.1
    · rw [sI_s, sI_n (by omega), (y1 _ _ (fun z => by omega)).1, sI_s, (y1 _ _ (fun z => by omega)).1, q.i (by omega), (hx _ _ (fun z => by omega)).1, b1'.2.2.2]
    · rw [sI_n (by omega), (y1 _ _ (fun z => by omega)).1, sI_n (by omega), sI_s]; rfl
    · rw [sI_n (by omega), y3]; rfl
  | false =>
    have q : CT S (setI Sx 170 1 0) := hs0.mo (by intro k j hk; omega)
    obtain ⟨Sy, y1, y3, y2⟩ := hm _ q
    have hs := hs0.tr y1
    refine ⟨_, _, v, hf, y2, ?_⟩
    show RelX Sy (c + 1)
    refine (Rel.re hR hs (by intro k j hk hq; omega) (by intro k j hk hq; omega) a6 (Or.inl (by intro k j hk hq; omega)) (Or.inl ⟨rfl, by intro k j hk hq; omega⟩) (Or.inl (by intro k j hk hq; omega)) (Or.inl ⟨rfl, by intro k j hk hq; omega⟩) (Or.inl ⟨rfl, by intro k j hk hq; omega⟩) (Or.inl (by intro k j hk hq; omega)) (Or.inl (by intro k j hk hq; omega)) (Or.inl (by intro k j hk hq; omega)) (Or.inl (by intro k j hk hq; omega)) (Or.inr ⟨0, by omega, ?_, ?_, fun i hi => absurd hi (by omega)⟩)).x
    · rw [(y1 _ _ (fun z => by omega)).1, sI_s]; rfl
    · rw [y3]; rfl
-- ---- enough
def bad (x : Nat → Int32) (d : Nat) : Bool := decide ((x d).toInt < 0 ∨ 1000000 < (x d).toInt)
theorem weigh_22_ok {q : Nat} {x : Nat → Int32} (hq : q ≤ 200) (h0 : S.1 170 1 = nI q) (hx : ∀ i, i < q → S.1 171 i = x i) (K : St → Int32 → Option (St × Int32)) : ∀ (j m i : Nat), i + j = q → j < m → X10_weighCounts_22 0 K m S (nI i) = cond (anyB (bad x) j i) (some (S, -13)) (K S (nI q))
  | 0, 0, _, _, h => absurd h (by omega)
  | j + 1, 0, _, _, h => absurd h (by omega)
  | 0, m + 1, i, hij, _ => by
    rw [show i = q by omega, X10_weighCounts_22]
    simp only [rfs, h0]
    rw [if_pos (Int32.le_refl _)]
    rfl
  | j + 1, m + 1, i, hij, hm => by
    have e1 : nI i + (1 : Int32) = nI (i + 1) := nI_1 i
    have ih := weigh_22_ok hq h0 hx K j m (i + 1) (by omega) (by omega)
    rw [X10_weighCounts_22]
    simp only [rfs, h0, lt_e, e1, ck_n (show i < 200 by omega) (show 200 < 2147483648 by omega), ix_n (show i < 2147483648 by omega), hx i (by omega), ih, lt32, le32, lits, anyB]
    rw [if_neg (show ¬ (nI q).toInt ≤ (nI i).toInt by rw [nT (by omega), nT (by omega)]; omega)]
    by_cases z1 : (x i).toInt < 0
    · rw [if_pos z1, show bad x i = true from decide_eq_true (Or.inl z1), Bool.true_or]; rfl
    · rw [if_neg z1]
      by_cases z2 : (x i).toInt ≤ 1000000
      · rw [if_pos z2, show bad x i = false from decide_eq_false (by omega), Bool.false_or]
      · rw [if_neg z2, show bad x i = true from decide_eq_true (Or.inr (by omega)), Bool.true_or]; rfl
def afd (x : Nat → Int32) (w : Nat → Nat → Nat) (p : Nat) : Nat → Nat → Int64 → Int64
  | 0, _, a => a
  | j + 1, i, a => afd x w p j (i + 1) (a + Int32.toInt64 (x i) * lN (w i p))
def aft (x : Nat → Int32) (w : Nat → Nat → Nat) (g : Nat → Nat) (n p : Nat) : Int64 := afd x w p n 0 (lN (g p) - Int32.toInt64 (x p) * lN (ld w p))
theorem gac_36_ok {n p : Nat} {kd : Nat → Nat} {w : Nat → Nat → Nat} {x : Nat → Int32} (h : CSl S n kd w) (hi : ISl n kd w) (hp : p < n) (hx : ∀ i, i < n → S.1 171 i = x i) (K : St → Int64 → Int32 → Option (St × Int64)) : ∀ (j m i : Nat) (a : Int64), i + j = n → j < m → X10_grainsAfterCounts_36 0 (nI p) K m S a (nI i) = K S (afd x w p j i a) (nI n)
  | 0, 0, _, _, _, h => absurd h (by omega)
  | j + 1, 0, _, _, _, h => absurd h (by omega)
  | 0, m + 1, i, a, hij, _ => by
    rw [show i = n by omega, X10_grainsAfterCounts_36]
    simp only [rfs, h.1]
    rw [if_pos (Int32.le_refl _)]
    rfl
  | j + 1, m + 1, i, a, hij, hm => by
    have hn := hi.1
    have e1 : nI i + (1 : Int32) = nI (i + 1) := nI_1 i
    have hw := hi.w_le (show i < 12 by omega) (show p < 15 by omega)
    rw [X10_grainsAfterCounts_36]
    simp only [rfs, rf_3, h.1, lt_e, e1, ck_n (show i < 200 by omega) (show 200 < 2147483648 by omega), ck_n (show i < 12 by omega) (show 12 < 2147483648 by omega), ck_n (show p < 15 by omega) (show 15 < 2147483648 by omega), ix_n (show i < 2147483648 by omega), ix_n (show p < 2147483648 by omega), hx i (by omega), h.2.2.1 i p (by omega) (by omega), nI_l (show w i p < 2 ^ 31 by omega)]
    rw [if_neg (nI_ge (show i < n by omega) (by omega)), gac_36_ok h hi hp hx K j m (i + 1) _ (by omega) (by omega), afd]
theorem gac_ok {n p : Nat} {kd : Nat → Nat} {w : Nat → Nat → Nat} {x : Nat → Int32} {g : Nat → Nat} (h : CSl S n kd w) (hi : ISl n kd w) (hp : p < n) (hx : ∀ i, i < n → S.1 171 i = x i) (hg : CG S 17 n g) (hb : BG n g) : X10_grainsAfterCounts S 0 (nI p) = some (S, aft x w g n p) := by
  have hn := hi.1
  have hl := hi.ld_le (show p < 12 by omega)
  have gb := hb p hp
  have gp : S.1 18 p = nI (g p) := hg p hp
  have e1 : S.1 16 p = nI (ld w p) := h.2.2.2 p (by omega)
  have key := gac_36_ok h hi hp hx (fun S37 v38 v39 => some (S37, v38)) n FU 0 (lN (g p) - Int32.toInt64 (x p) * lN (ld w p)) (by omega) (by unfold FU; omega)
  rw [nI_0] at key
  unfold X10_grainsAfterCounts
  simp only [rfs, lt_x, ck_n (show p < 12 by omega) (show 12 < 2147483648 by omega), ck_n (show p < 200 by omega) (show 200 < 2147483648 by omega), ix_n (show p < 2147483648 by omega), gp, e1, hx p hp, nI_l (show g p < 2 ^ 31 by omega), nI_l (show ld w p < 2 ^ 31 by omega)]
  rw [key]
  rfl
def ovr (x : Nat → Int32) (w : Nat → Nat → Nat) (g : Nat → Nat) (n p : Nat) : Bool := decide (lN (ld w p) ≤ aft x w g n p)
theorem nlt64 {a b : Int64} : ¬ a < b ↔ b ≤ a := by rw [lt64, le64]; omega
theorem weigh_71_ok {n : Nat} {kd : Nat → Nat} {w : Nat → Nat → Nat} {x : Nat → Int32} {g : Nat → Nat} (h : CSl S n kd w) (hi : ISl n kd w) (hx : ∀ i, i < n → S.1 171 i = x i) (hg : CG S 17 n g) (hb : BG n g) (K : St → Int32 → Option (St × Int32)) : ∀ (j m i : Nat), i + j = n → j < m → X10_weighCounts_71 0 K m S (nI i) = cond (anyB (ovr x w g n) j i) (some (S, 0)) (K S (nI n))
  | 0, 0, _, _, h => absurd h (by omega)
  | j + 1, 0, _, _, h => absurd h (by omega)
  | 0, m + 1, i, hij, _ => by
    rw [show i = n by omega, X10_weighCounts_71]
    simp only [rfs, h.1]
    rw [if_pos (Int32.le_refl _)]
    rfl
  | j + 1, m + 1, i, hij, hm => by
    have hn := hi.1
    have e1 : nI i + (1 : Int32) = nI (i + 1) := nI_1 i
    have e2 : S.1 16 i = nI (ld w i) := h.2.2.2 i (by omega)
    have hl := hi.ld_le (show i < 12 by omega)
    have ih := weigh_71_ok h hi hx hg hb K j m (i + 1) (by omega) (by omega)
    rw [X10_weighCounts_71, gac_ok h hi (show i < n by omega) hx hg hb, bd_s]
    simp only [rfs, h.1, lt_e, e1, ck_n (show i < 12 by omega) (show 12 < 2147483648 by omega), ix_n (show i < 2147483648 by omega), e2, nI_l (show ld w i < 2 ^ 31 by omega), ih, anyB]
    rw [if_neg (nI_ge (show i < n by omega) (by omega))]
    by_cases z : lN (ld w i) ≤ aft x w g n i
    · rw [if_neg (nlt64.mpr z), show ovr x w g n i = true from decide_eq_true z, Bool.true_or]; rfl
    · rw [if_pos (by rw [lt64]; rw [le64] at z; omega), show ovr x w g n i = false from decide_eq_false z, Bool.false_or]
theorem enough_41_ok {q : Nat} {x : Nat → Int32} (hq : q ≤ 200) (hx : ∀ i, i < q → S.1 187 i = x i) (K : St → Int32 → Option (St × Int32)) : ∀ (j m i : Nat), i + j = q → j < m → X11_enough_41 173 (nI q) K m S (nI i) = cond (anyB (bad x) j i) (some (setI S 173 24 (S.1 173 24 + 1), -13)) (K S (nI q))
  | 0, 0, _, _, h => absurd h (by omega)
  | j + 1, 0, _, _, h => absurd h (by omega)
  | 0, m + 1, i, hij, _ => by
    rw [show i = q by omega, X11_enough_41, if_pos (Int32.le_refl _)]
    rfl
  | j + 1, m + 1, i, hij, hm => by
    have e1 : nI i + (1 : Int32) = nI (i + 1) := nI_1 i
    have ih := enough_41_ok hq hx K j m (i + 1) (by omega) (by omega)
    rw [X11_enough_41, if_neg (nI_ge (show i < q by omega) (by omega)), ck_n (show i < 200 by omega) (by omega), show rf 173 22 = 187 by decide +kernel, ix_n (by omega), hx i (by omega), in_ok, bd_s, ite_b1n, lt_e, e1, ih, found_m, bd_s, anyB]
    simp only [lits]
    by_cases z : 0 ≤ (x i).toInt ∧ (x i).toInt ≤ 1000000
    · rw [if_pos z, show bad x i = false from decide_eq_false (by omega), Bool.false_or]
    · rw [if_neg z, show bad x i = true from decide_eq_true (by omega), Bool.true_or]; rfl
theorem enough_109_ok {n p : Nat} {kd : Nat → Nat} {w : Nat → Nat → Nat} {x : Nat → Int32} (h : MSl S n kd w) (hi : ISl n kd w) (hp : p < n) (hx : ∀ i, i < n → S.1 187 i = x i) (K : St → Int64 → Int32 → Option (St × Int32)) : ∀ (j m i : Nat) (a : Int64), i + j = n → j < m → X11_enough_109 173 (nI p) K m S a (nI i) = K S (afd x w p j i a) (nI n)
  | 0, 0, _, _, _, h => absurd h (by omega)
  | j + 1, 0, _, _, _, h => absurd h (by omega)
  | 0, m + 1, i, a, hij, _ => by
    rw [show i = n by omega, X11_enough_109, if_pos (by rw [h.1]; exact Int32.le_refl _)]
    rfl
  | j + 1, m + 1, i, a, hij, hm => by
    have hn := hi.1
    have e1 : nI i + (1 : Int32) = nI (i + 1) := nI_1 i
    have hw := hi.w_le (show i < 12 by omega) (show p < 15 by omega)
    rw [X11_enough_109, if_neg (by rw [h.1]; exact nI_ge (show i < n by omega) (by omega)), weightOf_ok h (show i < 12 by omega) (show p < 15 by omega), bd_s]
    simp only [rfm, lt_e, e1, ck_n (show i < 200 by omega) (show 200 < 2147483648 by omega), ix_n (show i < 2147483648 by omega), hx i (by omega), nI_l (show w i p < 2 ^ 31 by omega)]
    rw [enough_109_ok h hi hp hx K j m (i + 1) _ (by omega) (by omega), afd]
theorem isDueM2 (v : Int64) (l : Nat) (hl : l < 2147483648) : X11_isDue S v (nI l) = some (S, b1 (0 < l ∧ lN l ≤ v)) := by
  unfold X11_isDue b1
  simp only [lt_e, nI_l (show l < 2 ^ 31 by omega), le32, lits, nT hl]
  by_cases z1 : 0 < l
  · rw [if_neg (by omega)]
    by_cases z2 : lN l ≤ v
    · rw [if_neg (nlt64.mpr z2), if_pos ⟨z1, z2⟩]
    · rw [if_pos (by rw [lt64]; rw [le64] at z2; omega), if_neg (fun y => z2 y.2)]
  · rw [if_pos (by omega), if_neg (fun y => z1 y.1)]
theorem enough_76_ok {n : Nat} {kd : Nat → Nat} {w : Nat → Nat → Nat} {x : Nat → Int32} {g : Nat → Nat} (h : MSl S n kd w) (hi : ISl n kd w) (hld : ∀ p, p < n → 0 < ld w p) (hx : ∀ i, i < n → S.1 187 i = x i) (hg : MG S 176 n g) (K : St → Int32 → Option (St × Int32)) : ∀ (j m i : Nat), i + j = n → j < m → X11_enough_76 173 K m S (nI i) = cond (anyB (ovr x w g n) j i) (some (S, 0)) (K S (nI n))
  | 0, 0, _, _, h => absurd h (by omega)
  | j + 1, 0, _, _, h => absurd h (by omega)
  | 0, m + 1, i, hij, _ => by
    rw [show i = n by omega, X11_enough_76, if_pos (by rw [h.1]; exact Int32.le_refl _)]
    rfl
  | j + 1, m + 1, i, hij, hm => by
    have hn := hi.1
    have e1 : nI i + (1 : Int32) = nI (i + 1) := nI_1 i
    have hl := hi.ld_le (show i < 12 by omega)
    have ih := enough_76_ok h hi hld hx hg K j m (i + 1) (by omega) (by omega)
    have lo := load_ok h (show i < 12 by omega)
    rw [ld_is] at lo
    have key := fun K2 => enough_109_ok h hi (show i < n by omega) hx K2 n FU 0 (lN (g i) - Int32.toInt64 (x i) * lN (ld w i)) (by omega) (by unfold FU; omega)
    rw [nI_0] at key
    rw [X11_enough_76, if_neg (by rw [h.1]; exact nI_ge (show i < n by omega) (by omega)), ck_n (show i < 15 by omega) (by omega), ck_n (show i < 200 by omega) (by omega), lo, bd_s, lt_e, show rf 173 4 = 176 by decide +kernel, show rf 173 22 = 187 by decide +kernel, ix_n (by omega), hg i (by omega), hx i (by omega), nI_l (show ld w i < 2 ^ 31 by omega), key, lo, bd_s, isDueM2 _ _ (by omega), bd_s, ite_b1z, lt_e, e1, ih, anyB]
    have z0 := hld i (by omega)
    by_cases z : lN (ld w i) ≤ aft x w g n i
    · rw [if_pos ⟨z0, z⟩, show ovr x w g n i = true from decide_eq_true z, Bool.true_or]; rfl
    · rw [if_neg (fun y => z y.2), show ovr x w g n i = false from decide_eq_false z, Bool.false_or]
theorem op_enough (h : RelX S c) : Ok S c (fun S => X10_enough S 0) (fun S => X11_enough S 173) := by
  obtain ⟨n, kd, w, bg, g, mn, hR⟩ := h
  have hR0 := hR
  obtain ⟨⟨a1, a2, a3, a4, a5, a6⟩, ⟨b1', b2, b3, b4⟩, ⟨c1, c2, c3, c4⟩, d1, d2⟩ := hR0
  have hn := a3.1
  have nN := nT (show n < 2147483648 by omega)
  have has := has_ok a1.1 hn
  have ha0 := a1.1
  have cb := b1'.1
  obtain ⟨r, f1, f2, f3, f4⟩ := d2
  have hb : BG n g := B1.b b2.2.2.1
  have m23 : ∀ S1, CT S S1 → Sm (fun k j => (k = 173 ∧ j = 23) ∨ 193 ≤ k) S1 (setI S1 173 23 0) := fun S1 q => (sm_I S1 173 23 0).mo (by intro k j hk; omega)
  cases bg with
  | false =>
    refine Ok.q0 true hR (v := -8) Sm.rf ?_ (fun S1 q => ⟨setI S1 173 23 0, m23 S1 q, sI_s _ _ _ _, ?_⟩)
    · show X10_enough S 0 = _
      simp only [X10_enough, X5_clear, lt_e, cb, bi_f, if_true, bd_s, rfs, found_c, sI_n (show ¬ (0 = 170 ∧ 15 = 1) by omega), cond_true]
      rfl
    · have m2 := a2.gs q (by intro k j hk hq; omega)
      have isp := isPlace_ok m2.1 hn
      have mz := m2.1
      have mb : S1.1 173 3 = bi _ := (q.i (by omega)).trans b1'.2.1
      show X11_enough S1 173 = _
      simp only [X11_enough, lt_e, sI_n (show ¬ (173 = 173 ∧ 3 = 23) by omega), mb, bi_f, not_true, if_false, found_m, bd_s, cond_true]
  | true =>
    obtain ⟨hn0, hld, -⟩ := a5 rfl
    have rz : (nI r = nI n) ↔ r = n := nI_eq (by omega) (by omega)
    have cE : X10_enough S 0 = bd (X10_weighCounts S 0) fun S28 v29 => if 0 ≤ v29 then some (setI S28 170 1 0, v29) else some (setI (setI S28 170 1 0) 0 15 (S28.1 0 15 + 1), v29) := by
      simp only [X10_enough, X5_clear, lt_x, cb, bi_t, i10, if_false, bd_x, rfs, found_c, sI_n (show ¬ (0 = 170 ∧ 15 = 1) by omega)]
    have mE : ∀ S1, CT S S1 → X11_enough S1 173 = if nI r = nI n then (X11_enough_41 173 (nI r) (fun (S29 : St) (v30 : Int32) => X11_enough_76 173 (fun (S49 : St) (v50 : Int32) => some (S49, (1 : Int32))) FU S29 (0 : Int32)) FU (setI S1 173 23 0) (0 : Int32)) else some (setI (setI S1 173 23 0) 173 24 ((setI S1 173 23 0).1 173 24 + 1), -3) := by
      intro S1 q
      have m2 := a2.gs q (by intro k j hk hq; omega)
      have isp := isPlace_ok m2.1 hn
      have mz := m2.1
      have mb : S1.1 173 3 = bi _ := (q.i (by omega)).trans b1'.2.1
      simp only [X11_enough, lt_x, sI_n (show ¬ (173 = 173 ∧ 3 = 23) by omega), sI_n (show ¬ (173 = 173 ∧ 0 = 23) by omega), mb, mz, bi_t, i10, not_false_iff, if_true, q.i (show 173 ≤ 173 by omega), f3, found_m, bd_x]
    by_cases q1 : r = n
    · subst q1
      have hx : ∀ i, i < r → S.1 171 i = S.1 171 i := fun _ _ => rfl
      have hxm : ∀ S1, CT S S1 → ∀ i, i < r → (setI S1 173 23 0).1 187 i = S.1 171 i := fun S1 q i hi => by rw [sI_n (by omega), q.i (by omega), f4 i hi]
      have k1 := weigh_22_ok (S := S) f1 f2 hx (fun (S31 : St) (v32 : Int32) => X10_weighCounts_71 0 (fun (S39 : St) (v40 : Int32) => some (S39, (1 : Int32))) FU S31 (0 : Int32)) r FU 0 (by omega) (by unfold FU; omega)
      have k2 := weigh_71_ok a1 a3 hx b2.1 hb (fun (S39 : St) (v40 : Int32) => some (S39, (1 : Int32))) r FU 0 (by omega) (by unfold FU; omega)
      rw [nI_0] at k1 k2
      have cW : X10_weighCounts S 0 = cond (anyB (bad (S.1 171)) r 0) (some (S, -13)) (cond (anyB (ovr (S.1 171) w g r) r 0) (some (S, 0)) (some (S, 1))) := by
        unfold X10_weighCounts
        simp only [rfs, f2, ha0, if_true]
        rw [k1, k2]
      have mW : ∀ S1, CT S S1 → X11_enough S1 173 = cond (anyB (bad (S.1 171)) r 0) (some (setI (setI S1 173 23 0) 173 24 ((setI S1 173 23 0).1 173 24 + 1), -13)) (cond (anyB (ovr (S.1 171) w g r) r 0) (some (setI S1 173 23 0, 0)) (some (setI S1 173 23 0, 1))) := by
        intro S1 q
        have m2 := a2.gs q (by intro k j hk hq; omega)
        have isp := isPlace_ok m2.1 hn
        have mz := m2.1
        have mb : S1.1 173 3 = bi _ := (q.i (by omega)).trans b1'.2.1
        have m2' := m2.gs (sm_I S1 173 23 0) (by intro k j hk hq; omega)
        have k3 := enough_41_ok f1 (hxm S1 q) (fun (S29 : St) (v30 : Int32) => X11_enough_76 173 (fun (S49 : St) (v50 : Int32) => some (S49, (1 : Int32))) FU S29 (0 : Int32)) r FU 0 (by omega) (by unfold FU; omega)
        have k4 := enough_76_ok m2' a3 hld (hxm S1 q) (g := g) (fun p hp => q.mg b2 p hp) (fun (S49 : St) (v50 : Int32) => some (S49, (1 : Int32))) r FU 0 (by omega) (by unfold FU; omega)
        rw [nI_0] at k3 k4
        rw [mE S1 q, if_pos rfl, k3, k4]
      cases hB : anyB (bad (S.1 171)) r 0 with
      | true =>
        refine Ok.q0 true hR (v := -13) Sm.rf ?_ (fun S1 q => ⟨setI S1 173 23 0, m23 S1 q, sI_s _ _ _ _, ?_⟩)
        · show X10_enough S 0 = _
          rw [cE, cW, hB]; rfl
        · show X11_enough S1 173 = _
          rw [mW S1 q, hB]; rfl
      | false =>
        cases hO : anyB (ovr (S.1 171) w g r) r 0 with
        | true =>
          refine Ok.q0 false hR (v := 0) Sm.rf ?_ (fun S1 q => ⟨setI S1 173 23 0, m23 S1 q, sI_s _ _ _ _, ?_⟩)
          · show X10_enough S 0 = _
            rw [cE, cW, hB, hO]; rfl
          · show X11_enough S1 173 = _
            rw [mW S1 q, hB, hO]; rfl
        | false =>
          refine Ok.q0 false hR (v := 1) Sm.rf ?_ (fun S1 q => ⟨setI S1 173 23 0, m23 S1 q, sI_s _ _ _ _, ?_⟩)
          · show X10_enough S 0 = _
            rw [cE, cW, hB, hO]; rfl
          · show X11_enough S1 173 = _
            rw [mW S1 q, hB, hO]; rfl
    · refine Ok.q0 true hR (v := -3) Sm.rf ?_ (fun S1 q => ⟨setI S1 173 23 0, m23 S1 q, sI_s _ _ _ _, ?_⟩)
      · show X10_enough S 0 = _
        have cW : X10_weighCounts S 0 = some (S, -3) := by
          unfold X10_weighCounts
          simp only [rfs, f2, ha0]
          rw [if_neg (fun z => q1 (rz.mp z))]
        rw [cE, cW]; rfl
      · show X11_enough S1 173 = _
        rw [mE S1 q, if_neg (fun z => q1 (rz.mp z))]; rfl
-- ---- check
def chk (w : Nat → Nat → Nat) (kd : Nat → Nat) (n : Nat) (x : Nat → Int32) (q : Nat) : Nat → Nat → (Nat → Nat) → Int32
  | 0, _, _ => 0
  | f + 1, k, g => if q ≤ 2 * k then (if fstB (due w g) n 0 = none then 0 else 1000) else if q = 2 * k + 1 then nI (k + 1) else if inN (x (2 * k)) n ∧ due w g (x (2 * k)).toInt.toNat = true ∧ nI (g (x (2 * k)).toInt.toNat) = x (2 * k + 1) then cond (ovf w g (tms w kd g (x (2 * k)).toInt.toNat) (x (2 * k)).toInt.toNat n) (-5) (chk w kd n x q f (k + 1) (sld w g (tms w kd g (x (2 * k)).toInt.toNat) (x (2 * k)).toInt.toNat)) else nI (k + 1)
theorem chk_sgn {w : Nat → Nat → Nat} {kd : Nat → Nat} {n q : Nat} {x : Nat → Int32} : ∀ (f k : Nat) (g : Nat → Nat), k + f ≤ 1000 → chk w kd n x q f k g = -5 ∨ (0 ≤ chk w kd n x q f k g ∧ ¬ chk w kd n x q f k g = -5)
  | 0, _, _, _ => Or.inr (by rw [chk]; decide)
  | f + 1, k, g, h => by
    have e : 0 ≤ nI (k + 1) ∧ ¬ nI (k + 1) = -5 := ⟨nI_pos' (by omega), by rw [eq32, nT (by omega), lits2.2.2.1]; omega⟩
    rw [chk]
    split
    · right
      split
      · decide
      · decide
    · split
      · exact Or.inr e
      · split
        · cases ovf w g (tms w kd g (x (2 * k)).toInt.toNat) (x (2 * k)).toInt.toNat n with
          | true => exact Or.inl rfl
          | false => exact chk_sgn f (k + 1) _ (by omega)
        · exact Or.inr e
theorem inN_is {x : Int32} {n : Nat} (h : inN x n) (hn : n ≤ 12) : x = nI x.toInt.toNat ∧ x.toInt.toNat < n := by
  obtain ⟨j, hj, rfl⟩ := inN_of h (by omega)
  rw [nT (by omega)]
  exact ⟨by simp, by omega⟩
theorem follow_ok {n q : Nat} {kd : Nat → Nat} {w : Nat → Nat → Nat} {x : Nat → Int32} (hi : ISl n kd w) (hq : q ≤ 200) : ∀ (f m k : Nat) (S : St) (g : Nat → Nat), k + f ≤ 1000 → q < 2 * (k + f) → f ≤ m → 0 < f → CSl S n kd w → CG S 21 n g → B1 n g → S.1 170 1 = nI q → (∀ i, i < q → S.1 171 i = x i) → ∃ S2, X10_followPairs_16 0 (fun (S50 : St) (v51 : Int32) => bd (X2_stands S50 21) fun S53 v54 => if v54 = 0 then (some (S53, (1000 : Int32))) else (some (S53, (0 : Int32)))) m S (nI (2 * k)) = some (S2, chk w kd n x q f k g) ∧ Sm (fun k _ => 21 ≤ k ∧ k ≤ 24) S S2
  | 0, _, _, _, _, _, _, _, h, _, _, _, _, _ => absurd h (by omega)
  | f + 1, 0, _, _, _, _, _, h, _, _, _, _, _, _ => absurd h (by omega)
  | f + 1, m + 1, k, S, g, hkf, hf, hm, _, h, hg, hb, h0, hx => by
    have hn := hi.1
    by_cases hk : q ≤ 2 * k
    · refine ⟨S, ?_, Sm.rf⟩
      rw [X10_followPairs_16, chk, if_pos hk]
      simp only [rfs, h0]
      rw [if_pos (nI_le hk (by omega)), stands_ok (Or.inr rfl) h hi hg hb.b, bd_s, ite_b1z]
      split <;> rfl
    · have e1 : nI (2 * k) + (1 : Int32) = nI (2 * k + 1) := nI_1 (2 * k)
      have e2 : nI (2 * k) + (2 : Int32) = nI (2 * (k + 1)) := nI_add (2 * k) 2
      have e3 : nI (2 * k) / (2 : Int32) + (1 : Int32) = nI (k + 1) := by
        rw [show (2 : Int32) = nI 2 from rfl, pk_div (by omega) (by omega) (by omega), show 2 * k / 2 = k by omega, nI_1]
      have hx0 := hx (2 * k) (by omega)
      rw [X10_followPairs_16, chk, if_neg hk]
      simp only [rfs, h0, gu_t (show ¬ (2 : Int32) = 0 by decide), e1, e2, e3, lt_e]
      rw [if_neg (nI_ge (show 2 * k < q by omega) (by omega))]
      by_cases hk1 : q = 2 * k + 1
      · rw [if_neg (by rw [hk1]; exact nI_nlt (Nat.le_refl _) (by omega)), if_pos hk1]
        exact ⟨S, rfl, Sm.rf⟩
      · have hx1 := hx (2 * k + 1) (by omega)
        rw [if_pos (nI_lt (by omega) (by omega)), if_neg hk1, ck_n (show 2 * k < 200 by omega) (by omega), ix_n (by omega), hx0, has_ok h.1 hn, bd_s, ite_b1z]
        by_cases p1 : inN (x (2 * k)) n
        · rw [if_pos p1]
          obtain ⟨ep, lp⟩ := inN_is p1 hn
          generalize hp : (x (2 * k)).toInt.toNat = p at ep lp ⊢
          rw [ep, isDue_ok (Or.inr rfl) h hi hg hb.b lp, bd_s, ite_b1n]
          cases hd : due w g p with
          | false =>
            rw [if_neg (by decide), if_neg (fun z => by cases z.2.1)]
            exact ⟨S, rfl, Sm.rf⟩
          | true =>
            have gp : S.1 22 p = nI (g p) := hg p lp
            rw [if_pos rfl, ck_n (show p < 12 by omega) (by omega), ck_n (show 2 * k + 1 < 200 by omega) (by omega), ix_n (by omega), ix_n (by omega), hx1, gp]
            by_cases p2 : nI (g p) = x (2 * k + 1)
            · rw [if_pos p2, wouldOverfill_ok (Or.inr rfl) h hi hg hb.b lp, bd_s, ite_b1z, if_pos (show inN (nI p) n ∧ true = true ∧ nI (g p) = x (2 * k + 1) from ⟨ep ▸ p1, rfl, p2⟩)]
              cases ho : ovf w g (tms w kd g p) p n with
              | true =>
                rw [if_pos rfl]
                exact ⟨S, rfl, Sm.rf⟩
              | false =>
                rw [if_neg (by decide)]
                obtain ⟨S1, l1, l2, l3, -, -⟩ := letSlide_ok (Or.inr rfl) h hi hg hb.b lp
                have l2s := Sm.of l2
                rw [l1, bd_s]
                obtain ⟨S2, t1, t2⟩ := follow_ok hi hq f m (k + 1) S1 (sld w g (tms w kd g p) p) (by omega) (by omega) (by omega) (by omega) (h.gs l2s (by intro k j hk hq; omega)) l3 (hb.sld ho) ((l2s _ _ (fun z => by omega)).1.trans h0) (fun i hi => (l2s _ _ (fun z => by omega)).1.trans (hx i hi))
                exact ⟨S2, t1, (l2s.tr t2).mo (by intro k j hk; omega)⟩
            · rw [if_neg p2, if_neg (fun z => p2 z.2.2)]
              exact ⟨S, rfl, Sm.rf⟩
        · rw [if_neg p1, if_neg (fun z => p1 z.1)]
          exact ⟨S, rfl, Sm.rf⟩
theorem check_169_ok {n : Nat} {kd : Nat → Nat} {w : Nat → Nat → Nat} {g : Nat → Nat} (h : MSl S n kd w) (hi : ISl n kd w) (hg : MG S 194 n g) (hb : BG n g) (K : St → Int32 → Option (St × Int32)) : ∀ (j m i : Nat), i + j = n → j < m → X11_check_169 173 K m S (nI i) = (if fstB (due w g) j i = none then K S (nI n) else some (S, 1000))
  | 0, 0, _, _, h => absurd h (by omega)
  | j + 1, 0, _, _, h => absurd h (by omega)
  | 0, m + 1, i, hij, _ => by
    rw [show i = n by omega, X11_check_169, if_pos (by rw [h.1]; exact Int32.le_refl _), if_pos (by rfl)]
  | j + 1, m + 1, i, hij, hm => by
    have hn := hi.1
    have e1 : nI i + (1 : Int32) = nI (i + 1) := nI_1 i
    have hl := hi.ld_le (show i < 12 by omega)
    have gb := hb i (by omega)
    have lo := load_ok h (show i < 12 by omega)
    rw [ld_is] at lo
    rw [X11_check_169, if_neg (by rw [h.1]; exact nI_ge (show i < n by omega) (by omega)), ck_n (show i < 15 by omega) (by omega), lo, bd_s, show rf 173 32 = 194 by decide +kernel, ix_n (by omega), hg i (by omega), isDueM_ok _ _ (by omega) (by omega), bd_s, ite_b1z, lt_e, e1, check_169_ok h hi hg hb K j m (i + 1) (by omega) (by omega), fstB]
    by_cases z : 0 < ld w i ∧ ld w i ≤ g i
    · rw [if_pos z, if_pos (show due w g i = true from decide_eq_true z), if_neg (by intro y; cases y)]
    · rw [if_neg z, if_neg (show ¬ due w g i = true from fun y => z (of_decide_eq_true y))]
theorem t64_inj {a b : Int32} : (Int32.toInt64 a = Int32.toInt64 b) ↔ a = b := by rw [eq64, eq32, t64, t64]
theorem check_52_ok {n q : Nat} {kd : Nat → Nat} {w : Nat → Nat → Nat} {x : Nat → Int32} (hi : ISl n kd w) (hq : q ≤ 200) : ∀ (f m k : Nat) (S : St) (g : Nat → Nat), k + f ≤ 1000 → q < 2 * (k + f) → f ≤ m → 0 < f → MSl S n kd w → MG S 194 n g → B1 n g → (∀ i, i < q → S.1 187 i = x i) → ∃ S2, X11_check_52 173 (nI q) (fun (S51 : St) (v52 : Int32) => X11_check_169 173 (fun (S59 : St) (v60 : Int32) => some (S59, (0 : Int32))) FU S51 (0 : Int32)) m S (nI k) = some (cond (decide (chk w kd n x q f k g = -5)) (setI S2 173 24 (S2.1 173 24 + 1)) S2, chk w kd n x q f k g) ∧ Sm (fun k _ => k = 194) S S2
  | 0, _, _, _, _, _, _, _, h, _, _, _, _ => absurd h (by omega)
  | f + 1, 0, _, _, _, _, _, h, _, _, _, _, _ => absurd h (by omega)
  | f + 1, m + 1, k, S, g, hkf, hf, hm, _, h, hg, hb, hx => by
    have hn := hi.1
    have e2 : (2 : Int32) * nI k = nI (2 * k) := by rw [show (2 : Int32) = nI 2 from rfl, pk_mul]
    have ne : ¬ nI (k + 1) = -5 := by rw [eq32, nT (by omega), lits2.2.2.1]; omega
    by_cases hk : q ≤ 2 * k
    · refine ⟨S, ?_, Sm.rf⟩
      have key := check_169_ok h hi hg hb.b (fun (S59 : St) (v60 : Int32) => some (S59, (0 : Int32))) n FU 0 (by omega) (by unfold FU; omega)
      rw [nI_0] at key
      rw [X11_check_52, chk, if_pos hk, e2, if_pos (nI_le hk (by omega)), key]
      by_cases z : fstB (due w g) n 0 = none
      · rw [if_pos z, if_pos z]; rfl
      · rw [if_neg z, if_neg z]; rfl
    · have e1 : nI (2 * k) + (1 : Int32) = nI (2 * k + 1) := nI_1 (2 * k)
      have e3 : nI k + (1 : Int32) = nI (k + 1) := nI_1 k
      have hx0 := hx (2 * k) (by omega)
      have wrong : ∀ S : St, some (S, nI (k + 1)) = some (cond (decide (nI (k + 1) = -5)) (setI S 173 24 (S.1 173 24 + 1)) S, nI (k + 1)) := fun S => by rw [decide_eq_false ne]; rfl
      rw [X11_check_52, chk, if_neg hk, e2, if_neg (nI_ge (show 2 * k < q by omega) (by omega)), e1, e3]
      simp only [lt_e]
      by_cases hk1 : q = 2 * k + 1
      · rw [if_neg (fun z => z (by rw [hk1])), if_pos hk1]
        exact ⟨S, wrong S, Sm.rf⟩
      · have hx1 := hx (2 * k + 1) (by omega)
        rw [if_pos (by rw [nI_eq (by omega) (by omega)]; omega), if_neg hk1, ck_n (show 2 * k < 200 by omega) (by omega), show rf 173 22 = 187 by decide +kernel, ix_n (by omega), hx0, isPlace_ok h.1 hn, bd_s, ite_b1z]
        by_cases p1 : inN (x (2 * k)) n
        · rw [if_pos p1]
          obtain ⟨ep, lp⟩ := inN_is p1 hn
          generalize hp : (x (2 * k)).toInt.toNat = p at ep lp ⊢
          have hl := hi.ld_le (show p < 12 by omega)
          have gb := hb p lp
          have lo := load_ok h (show p < 12 by omega)
          rw [ld_is] at lo
          rw [ep, ck_n (show p < 15 by omega) (by omega), lo, bd_s, show rf 173 32 = 194 by decide +kernel, ix_n (show p < 2147483648 by omega), hg p lp, isDueM_ok _ _ (by omega) (by omega), bd_s, ite_b1z]
          by_cases hd : 0 < ld w p ∧ ld w p ≤ g p
          · have hd2 : due w g p = true := decide_eq_true hd
            rw [if_pos hd, ck_n (show p < 15 by omega) (by omega), ck_n (show 2 * k + 1 < 200 by omega) (by omega), ix_n (show 2 * k + 1 < 2147483648 by omega), hx1, hg p lp, ← nI_l (show g p < 2 ^ 31 by omega)]
            by_cases p2 : nI (g p) = x (2 * k + 1)
            · rw [if_pos (t64_inj.mpr p2), tooMuch_ok h hi hg hb.b lp gb hd2, bd_s, ite_b1z, if_pos (show inN (nI p) n ∧ due w g p = true ∧ nI (g p) = x (2 * k + 1) from ⟨ep ▸ p1, hd2, p2⟩)]
              cases ho : ovf w g (tms w kd g p) p n with
              | true =>
                rw [if_pos rfl, found_m, bd_s]
                exact ⟨S, rfl, Sm.rf⟩
              | false =>
                rw [if_neg (by decide)]
                obtain ⟨S1, l1, l2, l3, l4, -⟩ := slides_ok h hi (Or.inr rfl) hg hb.b lp hd2
                have l2s := Sm.of l2
                rw [l1, bd_s]
                obtain ⟨S2, t1, t2⟩ := check_52_ok hi hq f m (k + 1) S1 (sld w g (tms w kd g p) p) (by omega) (by omega) (by omega) (by omega) (h.gs l2s (by intro k j hk hq; omega)) l4 (hb.sld ho) (fun i hi => (l2s _ _ (fun z => by omega)).1.trans (hx i hi))
                exact ⟨S2, t1, (l2s.tr t2).mo (by intro k j hk; omega)⟩
            · rw [if_neg (fun z => p2 (t64_inj.mp z)), if_neg (fun z => p2 z.2.2)]
              exact ⟨S, wrong S, Sm.rf⟩
          · rw [if_neg hd, if_neg (fun z => hd (of_decide_eq_true z.2.1))]
            exact ⟨S, wrong S, Sm.rf⟩
        · rw [if_neg p1, if_neg (fun z => p1 z.1)]
          exact ⟨S, wrong S, Sm.rf⟩
theorem op_check (h : RelX S c) : Ok S c (fun S => X10_check S 0) (fun S => X11_check S 173) := by
  obtain ⟨n, kd, w, bg, g, mn, hR⟩ := h
  have hR0 := hR
  obtain ⟨⟨a1, a2, a3, a4, a5, a6⟩, ⟨b1', b2, b3, b4⟩, ⟨c1, c2, c3, c4⟩, d1, d2⟩ := hR0
  have hn := a3.1
  have nN := nT (show n < 2147483648 by omega)
  have has := has_ok a1.1 hn
  have ha0 := a1.1
  have cb := b1'.1
  obtain ⟨r, f1, f2, f3, f4⟩ := d2
  have m23 : ∀ S1, CT S S1 → Sm (fun k j => (k = 173 ∧ j = 23) ∨ 193 ≤ k) S1 (setI S1 173 23 0) := fun S1 q => (sm_I S1 173 23 0).mo (by intro k j hk; omega)
  cases bg with
  | false =>
    refine Ok.q0 true hR (v := -8) Sm.rf ?_ (fun S1 q => ⟨setI S1 173 23 0, m23 S1 q, sI_s _ _ _ _, ?_⟩)
    · show X10_check S 0 = _
      simp only [X10_check, X5_clear, lt_e, cb, bi_f, if_true, bd_s, rfs, found_c, sI_n (show ¬ (0 = 170 ∧ 15 = 1) by omega), cond_true]
      rfl
    · have m2 := a2.gs q (by intro k j hk hq; omega)
      have isp := isPlace_ok m2.1 hn
      have mz := m2.1
      have mb : S1.1 173 3 = bi _ := (q.i (by omega)).trans b1'.2.1
      show X11_check S1 173 = _
      simp only [X11_check, lt_e, sI_n (show ¬ (173 = 173 ∧ 3 = 23) by omega), mb, bi_f, not_true, if_false, found_m, bd_s, cond_true]
  | true =>
    have hsx := sm_R S 22 (va_cpy (S.1 18) (S.1 22) 0 0 12)
    have gx : CG (setR S 22 (va_cpy (S.1 18) (S.1 22) 0 0 12)) 21 n g := fun p hp => by
      show (setR S 22 (va_cpy (S.1 18) (S.1 22) 0 0 12)).1 22 p = _
      rw [sR_s, cpy0 (by omega)]; exact b2.1 p hp
    obtain ⟨Sx, x1, x2⟩ := follow_ok (x := S.1 171) a3 f1 201 FU 0 (setR S 22 (va_cpy (S.1 18) (S.1 22) 0 0 12)) g (by omega) (by omega) (by unfold FU; omega) (by omega) (a1.gs hsx (by intro k j hk hq; omega)) gx b2.2.2.1 (by rw [sR_n (by omega)]; exact f2) (fun i hi => by rw [sR_n (by omega)])
    rw [show nI (2 * 0) = (0 : Int32) from rfl] at x1
    have cE : X10_check S 0 = if 0 ≤ chk w kd n (S.1 171) r 201 0 g then some (setI Sx 170 1 0, chk w kd n (S.1 171) r 201 0 g) else some (setI (setI Sx 170 1 0) 0 15 (Sx.1 0 15 + 1), chk w kd n (S.1 171) r 201 0 g) := by
      have e1 : X10_followPairs S 0 = some (Sx, chk w kd n (S.1 171) r 201 0 g) := by
        simp only [X10_followPairs, X2_takeGrains, rfs, gu_t (show cpOk 0 0 12 12 12 by decide), lt_x, bd_x, ix0, ix12]
        exact x1
      simp only [X10_check, X5_clear, lt_x, cb, bi_t, i10, if_false, bd_x, rfs, e1, found_c, sI_n (show ¬ (0 = 170 ∧ 15 = 1) by omega)]
    have mE : ∀ S1, CT S S1 → ∃ Sy, Sm (fun k j => (k = 173 ∧ j = 23) ∨ 193 ≤ k) S1 Sy ∧ Sy.1 173 23 = 0 ∧ X11_check S1 173 = some (cond (decide (chk w kd n (S.1 171) r 201 0 g = -5)) (setI Sy 173 24 (Sy.1 173 24 + 1)) Sy, chk w kd n (S.1 171) r 201 0 g) := by
      intro S1 q
      have m2 := a2.gs q (by intro k j hk hq; omega)
      have isp := isPlace_ok m2.1 hn
      have mz := m2.1
      have mb : S1.1 173 3 = bi _ := (q.i (by omega)).trans b1'.2.1
      have hs1 := sm_I S1 173 23 0
      have m2' := m2.gs hs1 (by intro k j hk hq; omega)
      obtain ⟨Sa, p1, p2, p3⟩ := check_26_ok (nI r) 15 FU 0 (setI S1 173 23 0) (by omega) (by decide)
      obtain ⟨Sb, r1, r2⟩ := check_52_ok (x := S.1 171) a3 f1 201 FU 0 Sa g (by omega) (by omega) (by unfold FU; omega) (by omega) (m2'.gs p2 (by intro k j hk hq; omega)) (fun p hp => by rw [p3 p (by omega) (by omega), sIr]; exact q.mg b2 p hp) b2.2.2.1 (fun i hi => by rw [(p2 _ _ (fun z => by omega)).1, sI_n (by omega), q.i (by omega), f4 i hi])
      rw [nI_0] at p1 r1
      have hss := (hs1.tr p2).tr r2
      refine ⟨Sb, hss.mo (by intro k j hk; omega), ?_, ?_⟩
      · rw [(r2 _ _ (fun z => by omega)).1, (p2 _ _ (fun z => by omega)).1, sI_s]
      · simp only [X11_check, lt_x, sI_n (show ¬ (173 = 173 ∧ 3 = 23) by omega), mb, bi_t, i10, not_false_iff, if_true, q.i (show 173 ≤ 173 by omega), f3]
        rw [p1]
        exact r1
    rcases chk_sgn (w := w) (kd := kd) (n := n) (q := r) (x := S.1 171) 201 0 g (by omega) with e | ⟨e1, e2⟩
    · rw [e] at cE
      refine Ok.q0 true hR (v := -5) ((hsx.tr x2).mo (by intro k j hk; omega)) ?_ (fun S1 q => ?_)
      · show X10_check S 0 = _
        rw [cE]; rfl
      · obtain ⟨Sy, y1, y2, y3⟩ := mE S1 q
        rw [e] at y3
        exact ⟨Sy, y1, y2, y3⟩
    · refine Ok.q0 false hR (v := chk w kd n (S.1 171) r 201 0 g) ((hsx.tr x2).mo (by intro k j hk; omega)) ?_ (fun S1 q => ?_)
      · show X10_check S 0 = _
        rw [cE, if_pos e1]; rfl
      · obtain ⟨Sy, y1, y2, y3⟩ := mE S1 q
        rw [decide_eq_false e2] at y3
        exact ⟨Sy, y1, y2, y3⟩
end
