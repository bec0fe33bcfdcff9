/-! which place slides next -/
def gd (l : List Nat) (i : Nat) : Nat := l.getD i 0
def fl1 (g : Nat → Nat) (b : Option Nat) (i : Nat) : Option Nat := match b with
  | none => some i
  | some q => if g i ≤ g q then some q else some i
def fll (g : Nat → Nat) (P : Nat → Bool) : Nat → Nat → Option Nat → Option Nat
  | 0, _, b => b
  | j + 1, i, b => fll g P j (i + 1) (cond (P i) (fl1 g b i) b)
def nth (P : Nat → Bool) : Nat → Nat → Nat → Option Nat
  | 0, _, _ => none
  | j + 1, i, k => cond (P i) (if k = 0 then some i else nth P j (i + 1) (k - 1)) (nth P j (i + 1) k)
def lot (sd : Nat) : Nat := (sd * 1103515245 + 12345) % 2147483648
def askL (P : Nat → Bool) : List Nat → Option (Nat × List Nat)
  | [] => none
  | p :: t => cond (P p) (some (p, t)) (askL P t)
def askd (P : Nat → Bool) (n : Nat) (row : List Nat) : Option Nat × List Nat := match askL P row with
  | some (p, t) => (some p, t)
  | none => match askL P (List.range n) with
    | some (p, t) => (some p, t)
    | none => (none, [])
def chs (w : Nat → Nat → Nat) (n mn : Nat) (od : Nat → Nat) (g : Nat → Nat) (sd : Nat) (row : List Nat) : Option Nat × Nat × List Nat :=
  if mn = 1 then (fll g (due w g) n 0 none, sd, row)
  else if mn = 2 then ((fstB (fun i => due w g (od i)) n 0).map od, sd, row)
  else if mn = 3 then (nth (due w g) n 0 (lot sd / 256 % cntB (due w g) n 0), lot sd, row)
  else if mn = 4 then ((askd (due w g) n row).1, sd, (askd (due w g) n row).2)
  else (fstB (due w g) n 0, sd, row)
theorem fll_ok {g : Nat → Nat} {P : Nat → Bool} : ∀ (j i : Nat) (b : Option Nat), (∀ q, b = some q → P q = true ∧ q < i) → (∀ q, fll g P j i b = some q → P q = true ∧ q < i + j) ∧ (fll g P j i b = none → b = none ∧ ∀ d, i ≤ d → d < i + j → P d = false)
  | 0, i, b, h => ⟨fun q hq => h q hq, fun hb => ⟨hb, fun d h1 h2 => absurd h2 (by omega)⟩⟩
  | j + 1, i, b, h => by
    rw [fll]
    cases hp : P i with
    | false =>
      have ih := fll_ok (g := g) (P := P) j (i + 1) b (fun q hq => ⟨(h q hq).1, by have := (h q hq).2; omega⟩)
      refine ⟨fun q hq => ⟨(ih.1 q hq).1, by have := (ih.1 q hq).2; omega⟩, fun hb => ⟨(ih.2 hb).1, fun d h1 h2 => ?_⟩⟩
      by_cases e : d = i
      · rw [e]; exact hp
      · exact (ih.2 hb).2 d (by omega) (by omega)
    | true =>
      rw [cond_true]
      have key : ∀ b2, (∃ q, b2 = some q ∧ P q = true ∧ q < i + 1) → (∀ q, fll g P j (i + 1) b2 = some q → P q = true ∧ q < i + (j + 1)) ∧ (fll g P j (i + 1) b2 = none → b = none ∧ ∀ d, i ≤ d → d < i + (j + 1) → P d = false) := by
        intro b2 ⟨q0, hq0, hq1, hq2⟩
        have ih := fll_ok (g := g) (P := P) j (i + 1) b2 (fun q hq => by rw [hq0] at hq; cases hq; exact ⟨hq1, hq2⟩)
        refine ⟨fun q hq => ⟨(ih.1 q hq).1, by have := (ih.1 q hq).2; omega⟩, fun hb => ?_⟩
        have := (ih.2 hb).1
        rw [hq0] at this
        cases this
      apply key
      cases b with
      | none => exact ⟨i, rfl, hp, by omega⟩
      | some q =>
        have hq := h q rfl
        by_cases z : g i ≤ g q
        · exact ⟨q, by simp only [fl1, if_pos z], hq.1, by omega⟩
        · exact ⟨i, by simp only [fl1, if_neg z], hp, by omega⟩
theorem nth_ok {P : Nat → Bool} : ∀ (j i k : Nat), k < cntB P j i → ∃ p, nth P j i k = some p ∧ P p = true ∧ i ≤ p ∧ p < i + j
  | 0, _, _, h => absurd h (by simp [cntB])
  | j + 1, i, k, h => by
    rw [cntB] at h
    rw [nth]
    cases hp : P i with
    | true =>
      rw [hp, if_pos rfl] at h
      cases k with
      | zero => exact ⟨i, rfl, hp, by omega, by omega⟩
      | succ k =>
        obtain ⟨p, h1, h2, h3, h4⟩ := nth_ok (P := P) j (i + 1) k (by omega)
        exact ⟨p, h1, h2, by omega, by omega⟩
    | false =>
      rw [hp, if_neg (by decide), Nat.zero_add] at h
      obtain ⟨p, h1, h2, h3, h4⟩ := nth_ok (P := P) j (i + 1) k h
      exact ⟨p, h1, h2, by omega, by omega⟩
/-- no place twice, all below n -/
def ND (n : Nat) (l : List Nat) : Prop := (∀ i, i < l.length → gd l i < n) ∧ ∀ i j, i < l.length → j < l.length → gd l i = gd l j → i = j
theorem gd_s (p : Nat) (t : List Nat) (i : Nat) : gd (p :: t) (i + 1) = gd t i := rfl
theorem gd_0 (p : Nat) (t : List Nat) : gd (p :: t) 0 = p := rfl
theorem ND.tl {n p : Nat} {t : List Nat} (h : ND n (p :: t)) : p < n ∧ ND n t := by
  refine ⟨h.1 0 (by simp), fun i hi => h.1 (i + 1) (by simp; omega), fun i j hi hj e => ?_⟩
  have := h.2 (i + 1) (j + 1) (by simp; omega) (by simp; omega) e
  omega
theorem gd_range {n i : Nat} (h : i < n) : gd (List.range n) i = i := by
  unfold gd
  simp [h]
theorem ND_range (n : Nat) : ND n (List.range n) := by
  refine ⟨fun i hi => ?_, fun i j hi hj e => ?_⟩
  · rw [List.length_range] at hi
    rw [gd_range hi]; exact hi
  · rw [List.length_range] at hi hj
    rw [gd_range hi, gd_range hj] at e
    exact e
theorem pig : ∀ (n r : Nat) (f : Nat → Nat), (∀ i, i < r → f i < n) → (∀ i j, i < r → j < r → f i = f j → i = j) → r ≤ n
  | 0, r, f, h1, _ => by
    rcases Nat.eq_zero_or_pos r with e | e
    · omega
    · exact absurd (h1 0 e) (by omega)
  | n + 1, r, f, h1, h2 => by
    by_cases z : ∃ i, i < r ∧ f i = n
    · obtain ⟨i0, hi0, e0⟩ := z
      have := pig n (r - 1) (fun i => if i = i0 then f (r - 1) else f i) (fun i hi => by
        show (if i = i0 then f (r - 1) else f i) < n
        split
        · next e =>
          have h3 := h1 (r - 1) (by omega)
          by_cases h4 : f (r - 1) = n
          · have := h2 (r - 1) i0 (by omega) hi0 (by omega)
            omega
          · omega
        · next e =>
          have h3 := h1 i (by omega)
          by_cases h4 : f i = n
          · have := h2 i i0 (by omega) hi0 (by omega)
            omega
          · omega) (fun i j hi hj e => by
        have e : (if i = i0 then f (r - 1) else f i) = (if j = i0 then f (r - 1) else f j) := e
        by_cases z1 : i = i0
        · by_cases z2 : j = i0
          · omega
          · rw [if_pos z1, if_neg z2] at e
            have := h2 (r - 1) j (by omega) (by omega) e
            omega
        · by_cases z2 : j = i0
          · rw [if_neg z1, if_pos z2] at e
            have := h2 i (r - 1) (by omega) (by omega) e
            omega
          · rw [if_neg z1, if_neg z2] at e
            exact h2 i j (by omega) (by omega) e)
      omega
    · have := pig n r f (fun i hi => by
        have h3 := h1 i hi
        by_cases h4 : f i = n
        · exact absurd ⟨i, hi, h4⟩ z
        · omega) h2
      omega
theorem ND.len {n : Nat} {l : List Nat} (h : ND n l) : l.length ≤ n := pig n l.length (gd l) h.1 h.2
theorem askL_ok {P : Nat → Bool} {n : Nat} : ∀ (l : List Nat), ND n l → (∀ p t, askL P l = some (p, t) → P p = true ∧ p < n ∧ ND n t ∧ t.length < l.length) ∧ (askL P l = none → ∀ i, i < l.length → P (gd l i) = false)
  | [], _ => ⟨fun p t h => (by cases h), fun _ i hi => absurd hi (by simp)⟩
  | q :: l, h => by
    have ih := askL_ok (P := P) l h.tl.2
    rw [askL]
    cases hp : P q with
    | true =>
      refine ⟨fun p t e => ?_, fun e => (by cases e)⟩
      cases e
      exact ⟨hp, h.tl.1, h.tl.2, by simp⟩
    | false =>
      refine ⟨fun p t e => ?_, fun e i hi => ?_⟩
      · obtain ⟨h1, h2, h3, h4⟩ := ih.1 p t e
        exact ⟨h1, h2, h3, by rw [List.length_cons]; omega⟩
      · cases i with
        | zero => exact hp
        | succ i => exact ih.2 e i (by rw [List.length_cons] at hi; omega)
theorem askd_ok {P : Nat → Bool} {n : Nat} {l : List Nat} (h : ND n l) (hd : fstB P n 0 ≠ none) : ∃ p t, askd P n l = (some p, t) ∧ P p = true ∧ p < n ∧ ND n t := by
  unfold askd
  cases ha : askL P l with
  | some x =>
    obtain ⟨p, t⟩ := x
    obtain ⟨h1, h2, h3, -⟩ := (askL_ok l h).1 p t ha
    exact ⟨p, t, rfl, h1, h2, h3⟩
  | none =>
    cases hb : askL P (List.range n) with
    | some x =>
      obtain ⟨p, t⟩ := x
      obtain ⟨h1, h2, h3, -⟩ := (askL_ok _ (ND_range n)).1 p t hb
      exact ⟨p, t, rfl, h1, h2, h3⟩
    | none =>
      have h1 := (askL_ok _ (ND_range n)).2 hb
      exact absurd (fstB_none (fun d _ h3 => by
        have := h1 d (by rw [List.length_range]; omega)
        rw [gd_range (by omega)] at this
        exact this)) hd
theorem chs_ok {w : Nat → Nat → Nat} {n mn : Nat} {od : Nat → Nat} {g : Nat → Nat} {sd : Nat} {row : List Nat} (hd : fstB (due w g) n 0 ≠ none) (hsd : sd < 2147483648) (ho : mn = 2 → (∀ i, i < n → od i < n) ∧ ∀ p, p < n → ∃ i, i < n ∧ od i = p) (hr : mn = 4 → ND n row) : ∃ p, (chs w n mn od g sd row).1 = some p ∧ p < n ∧ due w g p = true ∧ (chs w n mn od g sd row).2.1 < 2147483648 ∧ (mn = 4 → ND n (chs w n mn od g sd row).2.2) := by
  have hex : ∃ p, p < n ∧ due w g p = true := by
    cases hf : fstB (due w g) n 0 with
    | none => exact absurd hf hd
    | some p =>
      have := fstB_lt hf
      exact ⟨p, by omega, this.2.2⟩
  unfold chs
  by_cases m1 : mn = 1
  · rw [if_pos m1]
    have hf := fll_ok (g := g) (P := due w g) n 0 none (fun q hq => by cases hq)
    cases he : fll g (due w g) n 0 none with
    | none =>
      obtain ⟨p, hp1, hp2⟩ := hex
      have := (hf.2 he).2 p (by omega) (by omega)
      rw [hp2] at this
      cases this
    | some p =>
      have := hf.1 p he
      exact ⟨p, rfl, by omega, this.1, hsd, fun z => absurd z (by omega)⟩
  · rw [if_neg m1]
    by_cases m2 : mn = 2
    · rw [if_pos m2]
      obtain ⟨ho1, ho2⟩ := ho m2
      cases he : fstB (fun i => due w g (od i)) n 0 with
      | none =>
        obtain ⟨p, hp1, hp2⟩ := hex
        obtain ⟨i, hi1, hi2⟩ := ho2 p hp1
        have := fst_none he i (by omega) (by omega)
        rw [hi2, hp2] at this
        cases this
      | some i =>
        have := fstB_lt he
        exact ⟨od i, rfl, ho1 i (by omega), this.2.2, hsd, fun z => absurd z (by omega)⟩
    · rw [if_neg m2]
      by_cases m3 : mn = 3
      · rw [if_pos m3]
        have hc : 0 < cntB (due w g) n 0 := by
          rcases Nat.eq_zero_or_pos (cntB (due w g) n 0) with e | e
          · exact absurd (cnt_0.mp e) hd
          · exact e
        obtain ⟨p, h1, h2, h3, h4⟩ := nth_ok (P := due w g) n 0 (lot sd / 256 % cntB (due w g) n 0) (Nat.mod_lt _ hc)
        exact ⟨p, h1, by omega, h2, Nat.mod_lt _ (by omega), fun z => absurd z (by omega)⟩
      · rw [if_neg m3]
        by_cases m4 : mn = 4
        · rw [if_pos m4]
          obtain ⟨p, t, h1, h2, h3, h4⟩ := askd_ok (hr m4) hd
          rw [h1]
          exact ⟨p, rfl, h3, h2, hsd, fun _ => h4⟩
        · rw [if_neg m4]
          cases hf : fstB (due w g) n 0 with
          | none => exact absurd hf hd
          | some p =>
            have := fstB_lt hf
            exact ⟨p, rfl, by omega, this.2.2, hsd, fun z => absurd z m4⟩
-- ---- the class
section
variable {S : St} {n : Nat} {kd : Nat → Nat} {w : Nat → Nat → Nat} {g : Nat → Nat}
theorem oI_nn {o : Option Nat} (h : ∀ q, o = some q → q < 12) : (oI o < 0) ↔ o = none := by
  cases o with
  | none => simp only [oI, iff_true]; decide
  | some q =>
    have hq := h q rfl
    simp only [oI, reduceCtorEq, iff_false]
    exact nI_pos (by omega)
theorem fullest_4_ok (h : CSl S n kd w) (hi : ISl n kd w) (hg : CG S 17 n g) (hb : BG n g) (K : St → Int32 → Int32 → Option (St × Int32)) : ∀ (j m i : Nat) (b : Option Nat), i + j = n → j < m → (∀ q, b = some q → q < n) → X2_fullestDue_4 17 K m S (oI b) (nI i) = K S (oI (fll g (due w g) j i b)) (nI n)
  | 0, 0, _, _, _, h, _ => absurd h (by omega)
  | j + 1, 0, _, _, _, h, _ => absurd h (by omega)
  | 0, m + 1, i, b, hij, _, _ => by
    rw [show i = n by omega, X2_fullestDue_4, (rf_h (Or.inl rfl)).1, if_pos (by rw [h.1]; exact Int32.le_refl _)]
    rfl
  | j + 1, m + 1, i, b, hij, hm, hbl => by
    have hn := hi.1
    have e1 : nI i + (1 : Int32) = nI (i + 1) := nI_1 i
    have gi : S.1 18 i = nI (g i) := hg i (by omega)
    have gb := hb i (by omega)
    have ih := fun b2 hb2 => fullest_4_ok h hi hg hb K j m (i + 1) b2 (by omega) (by omega) hb2
    have eb := oI_m1 (o := b) (fun q hq => by have := hbl q hq; omega)
    rw [X2_fullestDue_4, (rf_h (Or.inl rfl)).1, if_neg (by rw [h.1]; exact nI_ge (by omega) (by omega)), isDue_ok (Or.inl rfl) h hi hg hb (show i < n by omega), bd_s]
    simp only [lt_x, e1, ite_b1z, fll, rfs, ck_n (show i < 12 by omega) (show 12 < 2147483648 by omega), ix_n (show i < 2147483648 by omega), gi]
    cases hd : due w g i with
    | false => rw [if_neg (by decide), cond_false]; exact ih b hbl
    | true =>
      rw [if_pos rfl, cond_true]
      have i2 := ih (some i) (fun q hq => by cases hq; omega)
      rw [show oI (some i) = nI i from rfl] at i2
      cases b with
      | none =>
        rw [if_pos (show oI none = -1 from rfl)]
        exact i2
      | some q =>
        have hq := hbl q rfl
        have gq : S.1 18 q = nI (g q) := hg q hq
        have gbq := hb q hq
        have i3 := ih (some q) (fun q2 hq2 => by cases hq2; exact hq)
        rw [show oI (some q) = nI q from rfl] at i3
        rw [if_neg (fun z => by have := eb.mp z; cases this), show oI (some q) = nI q from rfl, ck_n (show q < 12 by omega) (by omega), ix_n (by omega), gq]
        by_cases z : g i ≤ g q
        · rw [if_pos (nI_le z (by omega)), i3]; simp only [fl1, if_pos z]
        · rw [if_neg (nI_ge (by omega) (by omega)), i2]; simp only [fl1, if_neg z]
theorem order_2_ok {od : Nat → Nat} (h : CSl S n kd w) (hi : ISl n kd w) (hg : CG S 17 n g) (hb : BG n g) (ho : ∀ i, i < n → S.1 26 i = nI (od i) ∧ od i < n) : ∀ (j m i : Nat), i + j = n → j < m → X0_firstInOrder_2 25 (fun (S28 : St) (v29 : Int32) => some (S28, (-1 : Int32))) m S (nI i) = some (S, oI ((fstB (fun i => due w g (od i)) j i).map od))
  | 0, 0, _, _, h => absurd h (by omega)
  | j + 1, 0, _, _, h => absurd h (by omega)
  | 0, m + 1, i, hij, _ => by
    rw [show i = n by omega, X0_firstInOrder_2]
    simp only [rfs, h.1]
    rw [if_pos (Int32.le_refl _)]
    rfl
  | j + 1, m + 1, i, hij, hm => by
    have hn := hi.1
    have e1 : nI i + (1 : Int32) = nI (i + 1) := nI_1 i
    obtain ⟨o1, o2⟩ := ho i (by omega)
    have ih := order_2_ok h hi hg hb ho j m (i + 1) (by omega) (by omega)
    rw [X0_firstInOrder_2]
    simp only [rfs, h.1, lt_x, e1, ck_n (show i < 12 by omega) (show 12 < 2147483648 by omega), ix_n (show i < 2147483648 by omega), o1, isDue_ok (Or.inl rfl) h hi hg hb o2, bd_x, ite_b1z, ih, fstB]
    rw [if_neg (nI_ge (show i < n by omega) (by omega))]
    by_cases hd : due w g (od i) = true
    · rw [if_pos hd, if_pos hd]; rfl
    · rw [if_neg hd, if_neg hd]
theorem draw_43_ok (h : CSl S n kd w) (hi : ISl n kd w) (hg : CG S 17 n g) (hb : BG n g) : ∀ (j m i k : Nat), i + j = n → j < m → k < 1000000 → X0_drawLot_43 25 (fun (S34 : St) (v35 : Int64) (v36 : Int32) => some (S34, (-1 : Int32))) m S (lN k) (nI i) = some (S, oI (nth (due w g) j i k))
  | 0, 0, _, _, _, h, _ => absurd h (by omega)
  | j + 1, 0, _, _, _, h, _ => absurd h (by omega)
  | 0, m + 1, i, k, hij, _, _ => by
    rw [show i = n by omega, X0_drawLot_43]
    simp only [rfs, h.1]
    rw [if_pos (Int32.le_refl _)]
    rfl
  | j + 1, m + 1, i, k, hij, hm, hk => by
    have hn := hi.1
    have e1 : nI i + (1 : Int32) = nI (i + 1) := nI_1 i
    have ih := fun k2 hk2 => draw_43_ok h hi hg hb j m (i + 1) k2 (by omega) (by omega) hk2
    rw [X0_drawLot_43]
    simp only [rfs, h.1, lt_x, e1, isDue_ok (Or.inl rfl) h hi hg hb (show i < n by omega), bd_x, ite_b1z, nth]
    rw [if_neg (nI_ge (show i < n by omega) (by omega))]
    cases hd : due w g i with
    | false => rw [if_neg (by decide), ih k hk, cond_false]
    | true =>
      rw [if_pos rfl, cond_true]
      cases k with
      | zero => rw [if_neg (fun z => z rfl), if_pos rfl]; rfl
      | succ k =>
        rw [if_neg (show ¬ k + 1 = 0 by omega), if_pos (by rw [lN0, pk_lEQ (by omega) (by omega)]; omega), show (1 : Int64) = lN 1 from rfl, lN_sub (by omega), show k + 1 - 1 = k by omega, ih k (by omega)]
theorem lot_c {sd : Nat} (hs : sd < 2147483648) : lrem (lN sd * (1103515245 : Int64) + (12345 : Int64)) (2147483648 : Int64) = lN (lot sd) := by
  unfold lrem
  rw [show (1103515245 : Int64) = lN 1103515245 from rfl, show (12345 : Int64) = lN 12345 from rfl, show (2147483648 : Int64) = lN 2147483648 from rfl, lN_mul, lN_add, pk_lRem (by omega) (by omega) (by omega)]
  rfl
theorem skp_c {sd k : Nat} (hk : 0 < k) (hk2 : k ≤ 12) : lrem (lN (lot sd) / (256 : Int64)) (Int32.toInt64 (nI k)) = lN (lot sd / 256 % k) := by
  have h1 : lot sd < 2147483648 := Nat.mod_lt _ (by omega)
  rw [nI_l (by omega), show (256 : Int64) = lN 256 from rfl, pk_lDiv (by omega) (by omega) (by omega)]
  unfold lrem
  rw [pk_lRem (by omega) hk (by omega)]
/-- the row of asked places, in the class and in the reference -/
def RC (S : St) (l : List Nat) : Prop := S.1 25 4 = nI l.length ∧ ∀ i, i < l.length → S.1 27 i = nI (gd l i)
def RM (S : St) (l : List Nat) : Prop := S.1 173 11 = nI l.length ∧ ∀ i, i < l.length → S.1 179 i = nI (gd l i)
theorem ck0 {σ : Type} {n : Nat} (h : 0 < n) (hn : n < 2147483648) (o : Option σ) : ck (0 : Int32) n o = o := by
  rw [← nI_0]
  exact ck_n h hn o
theorem take_9_ok {r : Nat} {v : Int32} (hr : r ≤ 12) (K : St → Int32 → Option (St × Int32)) : ∀ (j m i : Nat) (S : St), i + 1 + j = r → j < m → S.1 25 4 = nI r → ∃ S2, X0_takeFirst_9 25 v K m S (nI (i + 1)) = K S2 (nI r) ∧ Sm (fun k q => k = 27 ∧ i ≤ q ∧ q < r) S S2 ∧ ∀ e, i ≤ e → e + 1 < r → S2.1 27 e = S.1 27 (e + 1)
  | 0, 0, _, _, _, h, _ => absurd h (by omega)
  | j + 1, 0, _, _, _, h, _ => absurd h (by omega)
  | 0, m + 1, i, S, hij, _, h0 => by
    refine ⟨S, ?_, Sm.rf, fun e h1 h2 => absurd h2 (by omega)⟩
    rw [show i + 1 = r by omega, X0_takeFirst_9, if_pos (by rw [h0]; exact Int32.le_refl _)]
  | j + 1, m + 1, i, S, hij, hm, h0 => by
    have e1 : nI (i + 1) + (1 : Int32) = nI (i + 1 + 1) := nI_1 (i + 1)
    have e2 : nI (i + 1) - (1 : Int32) = nI i := nI_pred i
    obtain ⟨S2, q1, q2, q3⟩ := take_9_ok (v := v) hr K j m (i + 1) (setI S 27 i (S.1 27 (i + 1))) (by omega) (by omega) (by rw [sI_n (by omega)]; exact h0)
    refine ⟨S2, ?_, ((sm_I S _ _ _).tr q2).mo (by intro k q z; omega), fun e h1 h2 => ?_⟩
    · rw [X0_takeFirst_9, if_neg (by rw [h0]; exact nI_ge (by omega) (by omega))]
      simp only [lt_x, rfs, e1, e2, ck_n (show i + 1 < 12 by omega) (show 12 < 2147483648 by omega), ck_n (show i < 12 by omega) (show 12 < 2147483648 by omega), ix_n (show i < 2147483648 by omega), ix_n (show i + 1 < 2147483648 by omega)]
      exact q1
    · by_cases he : e = i
      · rw [he, (q2 _ _ (fun z => by omega)).1, sI_s]
      · rw [q3 e (by omega) h2, sI_n (by omega)]
theorem take_f_ok {p : Nat} {t : List Nat} (hl : t.length < 12) (h : RC S (p :: t)) : ∃ S2, X0_takeFirst S 25 = some (S2, nI p) ∧ Sm (fun k j => k = 27 ∨ (k = 25 ∧ j = 4)) S S2 ∧ RC S2 t := by
  obtain ⟨h1, h2⟩ := h
  rw [List.length_cons] at h1 h2
  have e0 : S.1 27 0 = nI p := h2 0 (by omega)
  obtain ⟨Sa, p1, p2, p3⟩ := take_9_ok (v := nI p) (show t.length + 1 ≤ 12 by omega) (fun (S27 : St) (v28 : Int32) => lt (setI S27 25 4 (if (0 : Int32) < ((S27.1 25 4) - (1 : Int32)) then ((S27.1 25 4) - (1 : Int32)) else (0 : Int32))) fun S29 => some (S29, nI p)) t.length FU 0 S (by omega) (by unfold FU; omega) h1
  have a4 : Sa.1 25 4 = nI (t.length + 1) := (p2 _ _ (fun z => by omega)).1.trans h1
  have e2 : nI (t.length + 1) - (1 : Int32) = nI t.length := nI_pred _
  have e3 : (if (0 : Int32) < nI t.length then nI t.length else 0) = nI t.length := by
    rcases Nat.eq_zero_or_pos t.length with z | z
    · rw [z]; rfl
    · rw [if_pos (by rw [show (0 : Int32) = nI 0 from rfl]; exact nI_lt z (by omega))]
  rw [show nI (0 + 1) = (1 : Int32) from rfl] at p1
  refine ⟨setI Sa 25 4 (nI t.length), ?_, (p2.tr (sm_I Sa 25 4 _)).mo (by intro k j z; omega), sI_s _ _ _ _, fun i hi => ?_⟩
  · unfold X0_takeFirst
    rw [ck0 (show 0 < 12 by omega) (by omega), lt_x]
    simp only [rfs, ix0, e0]
    rw [p1]
    simp only [lt_e, a4, e2, e3]
  · rw [sI_n (by omega), p3 i (by omega) (by omega), h2 (i + 1) (by omega)]
    rfl
theorem askAll_ok (h : CSl S n kd w) (hn : n ≤ 12) : ∃ S2, X0_askAll S 25 = some (S2, ()) ∧ Sm (fun k j => k = 27 ∨ (k = 25 ∧ j = 4)) S S2 ∧ RC S2 (List.range n) := by
  obtain ⟨Sa, p1, p2, p3⟩ := askAll_2_ok hn n FU 0 S (by omega) (by unfold FU; omega) h.1
  rw [nI_0] at p1
  refine ⟨setI Sa 25 4 (nI n), ?_, (p2.tr (sm_I Sa 25 4 _)).mo (by intro k j z; omega), ?_, fun i hi => ?_⟩
  · unfold X0_askAll
    rw [p1]
    simp only [lt_e, rfs, show Sa.1 1 3 = nI n from (p2 _ _ (fun z => by omega)).1.trans h.1]
  · rw [sI_s, List.length_range]
  · rw [List.length_range] at hi
    rw [sI_n (by omega), p3 i (by omega) hi, gd_range hi]
theorem askOn_A (hi : ISl n kd w) (hb : BG n g) : ∀ (l : List Nat) (m i : Nat) (S : St), CSl S n kd w → CG S 17 n g → ND n l → RC S l → i + l.length ≤ 24 → l.length < m → (∀ p t, askL (due w g) l = some (p, t) → ∃ S2, X0_askOn_2 25 (fun (S30 : St) (v31 : Int32) => some (S30, (-1 : Int32))) m S (nI i) = some (S2, nI p) ∧ Sm (fun k j => k = 27 ∨ (k = 25 ∧ j = 4)) S S2 ∧ RC S2 t) ∧ (askL (due w g) l = none → ∃ S2 m2, m = m2 + l.length ∧ X0_askOn_2 25 (fun (S30 : St) (v31 : Int32) => some (S30, (-1 : Int32))) m S (nI i) = X0_askOn_2 25 (fun (S30 : St) (v31 : Int32) => some (S30, (-1 : Int32))) m2 S2 (nI (i + l.length)) ∧ Sm (fun k j => k = 27 ∨ (k = 25 ∧ j = 4)) S S2 ∧ RC S2 [])
  | [], m, i, S, _, _, _, hr, _, _ => ⟨fun p t h => (by cases h), fun _ => ⟨S, m, rfl, rfl, Sm.rf, hr⟩⟩
  | q :: l, 0, _, _, _, _, _, _, _, h => absurd h (by omega)
  | q :: l, m + 1, i, S, h, hg, hnd, hr, hil, hm => by
    have hn := hi.1
    obtain ⟨n1, n2⟩ := hnd.tl
    have nl := hnd.len
    rw [List.length_cons] at hil hm nl
    obtain ⟨Sa, t1, t2, t3⟩ := take_f_ok (show l.length < 12 by omega) hr
    have e1 : nI i + (1 : Int32) = nI (i + 1) := nI_1 i
    have ha := h.gs t2 (by intro k j hk hq; omega)
    have ga : CG Sa 17 n g := fun e he => (t2 18 e (fun z => by omega)).1.trans (hg e he)
    have e0 : X0_askOn_2 25 (fun (S30 : St) (v31 : Int32) => some (S30, (-1 : Int32))) (m + 1) S (nI i) = if due w g q = true then some (Sa, nI q) else X0_askOn_2 25 (fun (S30 : St) (v31 : Int32) => some (S30, (-1 : Int32))) m Sa (nI (i + 1)) := by
      rw [X0_askOn_2, if_neg (by rw [show (24 : Int32) = nI 24 from rfl]; exact nI_ge (by omega) (by omega)), lt_x]
      have hne : ¬ S.1 25 4 = 0 := by rw [hr.1, List.length_cons]; exact nI_ne0 (by omega) (by omega)
      rw [if_pos hne]
      dsimp only
      rw [t1, bd_x, show rf 25 1 = 17 by decide +kernel, isDue_ok (Or.inl rfl) ha hi ga hb n1, bd_x, ite_b1z, lt_x, e1]
    have ih := askOn_A hi hb l m (i + 1) Sa ha ga n2 t3 (by omega) (by omega)
    rw [askL, e0]
    cases hd : due w g q with
    | true =>
      refine ⟨fun p t e => ?_, fun e => (by cases e)⟩
      cases e
      exact ⟨Sa, by rw [if_pos rfl], t2, t3⟩
    | false =>
      rw [if_neg (by decide)]
      refine ⟨fun p t e => ?_, fun e => ?_⟩
      · obtain ⟨S2, y1, y2, y3⟩ := ih.1 p t e
        exact ⟨S2, y1, (t2.tr y2).mo (by intro k j z; omega), y3⟩
      · obtain ⟨S2, m2, y0, y1, y2, y3⟩ := ih.2 e
        refine ⟨S2, m2, by rw [List.length_cons]; omega, ?_, (t2.tr y2).mo (by intro k j z; omega), y3⟩
        rw [y1, List.length_cons, show i + 1 + l.length = i + (l.length + 1) by omega]
theorem askOn_ok {l : List Nat} (h : CSl S n kd w) (hi : ISl n kd w) (hg : CG S 17 n g) (hb : BG n g) (hnd : ND n l) (hr : RC S l) (hd : fstB (due w g) n 0 ≠ none) : ∃ S2, X0_askOn S 25 = some (S2, oI (askd (due w g) n l).1) ∧ Sm (fun k j => k = 27 ∨ (k = 25 ∧ j = 4)) S S2 ∧ RC S2 (askd (due w g) n l).2 := by
  have hn := hi.1
  have hl := hnd.len
  have A := askOn_A hi hb l FU 0 S h hg hnd hr (by omega) (by unfold FU; omega)
  rw [nI_0] at A
  unfold X0_askOn
  obtain ⟨p, t, hp, -, hpn, -⟩ := askd_ok hnd hd
  cases ha : askL (due w g) l with
  | some x =>
    obtain ⟨p2, t2⟩ := x
    have e : askd (due w g) n l = (some p2, t2) := by unfold askd; rw [ha]
    rw [e]
    exact A.1 p2 t2 ha
  | none =>
    obtain ⟨Sa, m2, y0, y1, y2, y3⟩ := A.2 ha
    rw [y1, Nat.zero_add]
    have ha1 := h.gs y2 (by intro k j hk hq; omega)
    have ga : CG Sa 17 n g := fun e he => (y2 18 e (fun z => by omega)).1.trans (hg e he)
    obtain ⟨Sb, b1', b2, b3⟩ := askAll_ok ha1 hn
    have hb1 := ha1.gs b2 (by intro k j hk hq; omega)
    have gb : CG Sb 17 n g := fun e he => (b2 18 e (fun z => by omega)).1.trans (ga e he)
    have hm2 : ∃ m3, m2 = m3 + 1 := ⟨m2 - 1, by unfold FU at y0; omega⟩
    obtain ⟨m3, rfl⟩ := hm2
    have e1 : X0_askOn_2 25 (fun (S30 : St) (v31 : Int32) => some (S30, (-1 : Int32))) (m3 + 1) Sa (nI l.length) = X0_askOn_2 25 (fun (S30 : St) (v31 : Int32) => some (S30, (-1 : Int32))) (m3 + 1) Sb (nI l.length) := by
      have hne : ¬ Sb.1 25 4 = 0 := by rw [b3.1, List.length_range]; exact nI_ne0 (by omega) (by omega)
      have he : ¬ ¬ Sa.1 25 4 = 0 := fun z => z y3.1
      have hle : ¬ (24 : Int32) ≤ nI l.length := by rw [show (24 : Int32) = nI 24 from rfl]; exact nI_ge (by omega) (by omega)
      rw [X0_askOn_2, if_neg hle, lt_x, if_neg he, b1', bd_x, X0_askOn_2, if_neg hle, lt_x, if_pos hne]
    rw [e1]
    have B := askOn_A hi hb (List.range n) (m3 + 1) l.length Sb hb1 gb (ND_range n) b3 (by rw [List.length_range]; omega) (by rw [List.length_range]; unfold FU at y0; omega)
    cases hc : askL (due w g) (List.range n) with
    | some x =>
      obtain ⟨p2, t2⟩ := x
      have e : askd (due w g) n l = (some p2, t2) := by unfold askd; rw [ha, hc]
      obtain ⟨S2, z1, z2, z3⟩ := B.1 p2 t2 hc
      rw [e]
      exact ⟨S2, z1, ((y2.tr b2).tr z2).mo (by intro k j z; omega), z3⟩
    | none =>
      have e : askd (due w g) n l = (none, []) := by unfold askd; rw [ha, hc]
      rw [e] at hp
      cases hp
theorem choose_c {mn sd : Nat} {od : Nat → Nat} {row : List Nat} (h : CSl S n kd w) (hi : ISl n kd w) (hg : CG S 17 n g) (hb : BG n g) (hm : S.1 25 5 = nI mn) (hmn : mn < 5) (hsd : S.2 25 6 = lN sd) (hsd2 : sd < 2147483648) (ho : mn = 2 → ∀ i, i < n → S.1 26 i = nI (od i) ∧ od i < n) (hr : mn = 4 → RC S row ∧ ND n row) (hd : fstB (due w g) n 0 ≠ none) : ∃ S2, X0_chooseNext S 25 = some (S2, oI (chs w n mn od g sd row).1) ∧ Sm (fun k j => k = 27 ∨ (k = 25 ∧ (j = 4 ∨ j = 6))) S S2 ∧ S2.2 25 6 = lN (chs w n mn od g sd row).2.1 ∧ (mn = 4 → RC S2 (chs w n mn od g sd row).2.2) := by
  have hn := hi.1
  have cle := cnt_le (P := due w g) (j := n) (i := 0)
  have hc : 0 < cntB (due w g) n 0 := by
    rcases Nat.eq_zero_or_pos (cntB (due w g) n 0) with e | e
    · exact absurd (cnt_0.mp e) hd
    · exact e
  have em : ∀ k, k < 5 → ((nI mn = nI k) ↔ mn = k) := fun k hk => nI_eq (by omega) (by omega)
  unfold X0_chooseNext
  rw [show rf 25 1 = 17 by decide +kernel, countDue_ok (Or.inl rfl) h hi hg hb, bd_s, if_pos (nI_ne0 hc (by omega)), hm]
  simp only [show (1 : Int32) = nI 1 from rfl, show (2 : Int32) = nI 2 from rfl, show (3 : Int32) = nI 3 from rfl, show (4 : Int32) = nI 4 from rfl, em 1 (by omega), em 2 (by omega), em 3 (by omega), em 4 (by omega)]
  unfold chs
  by_cases m1 : mn = 1
  · rw [if_pos m1, if_pos m1]
    have key := fullest_4_ok h hi hg hb (fun (S32 : St) (v33 : Int32) (v34 : Int32) => some (S32, v33)) n FU 0 none (by omega) (by unfold FU; omega) (fun q hq => by cases hq)
    rw [nI_0, show oI none = (-1 : Int32) from rfl] at key
    refine ⟨S, ?_, Sm.rf, hsd, fun z => absurd z (by omega)⟩
    unfold X2_fullestDue
    rw [key, bd_s]
  · rw [if_neg m1, if_neg m1]
    by_cases m2 : mn = 2
    · rw [if_pos m2, if_pos m2]
      have key := order_2_ok h hi hg hb (ho m2) n FU 0 (by omega) (by unfold FU; omega)
      rw [nI_0] at key
      refine ⟨S, ?_, Sm.rf, hsd, fun z => absurd z (by omega)⟩
      unfold X0_firstInOrder
      rw [key, bd_s]
    · rw [if_neg m2, if_neg m2]
      by_cases m3 : mn = 3
      · rw [if_pos m3, if_pos m3]
        have hs := sm_J S 25 6 (lN (lot sd))
        have hlt : lot sd / 256 % cntB (due w g) n 0 < cntB (due w g) n 0 := Nat.mod_lt _ hc
        have key := draw_43_ok (S := setJ S 25 6 (lN (lot sd))) (h.gs hs (by intro k j hk hq; omega)) hi (fun e he => hg e he) hb n FU 0 (lot sd / 256 % cntB (due w g) n 0) (by omega) (by unfold FU; omega) (by omega)
        rw [nI_0] at key
        refine ⟨setJ S 25 6 (lN (lot sd)), ?_, hs.mo (by intro k j z; omega), sJ_s _ _ _ _, fun z => absurd z (by omega)⟩
        unfold X0_drawLot
        rw [gu_t (show ¬ (2147483648 : Int64) = 0 by decide), hsd, lot_c hsd2, lt_x, lt_x, if_neg (nI_nle hc (by omega)), gu_t (show ¬ (256 : Int64) = 0 by decide), gu_t (by rw [nI_l (by omega), lN0, pk_lEQ (by omega) (by omega)]; omega), sJ_s, skp_c hc (by omega)]
        dsimp only
        rw [key, bd_s]
      · rw [if_neg m3, if_neg m3]
        by_cases m4 : mn = 4
        · rw [if_pos m4, if_pos m4]
          obtain ⟨r1, r2⟩ := hr m4
          obtain ⟨S2, y1, y2, y3⟩ := askOn_ok h hi hg hb r2 r1 hd
          refine ⟨S2, by rw [y1, bd_s], y2.mo (by intro k j z; omega), (y2 _ _ (fun z => by omega)).2.trans hsd, fun _ => y3⟩
        · rw [if_neg m4, if_neg m4]
          refine ⟨S, ?_, Sm.rf, hsd, fun z => absurd z m4⟩
          rw [lowestDue_ok (Or.inl rfl) h hi hg hb, bd_s]
end
