/-! begin: which places are lost -/
theorem anyB_congr {P Q : Nat → Bool} : ∀ {j i : Nat}, (∀ d, i ≤ d → d < i + j → P d = Q d) → anyB P j i = anyB Q j i
  | 0, _, _ => rfl
  | j + 1, i, h => by
    rw [anyB, anyB, h i (Nat.le_refl _) (by omega), anyB_congr (fun d a b => h d (by omega) (by omega))]
theorem anyB_add {P : Nat → Bool} : ∀ {j k i : Nat}, anyB P (j + k) i = (anyB P j i || anyB P k (i + j))
  | 0, k, i => by rw [Nat.zero_add, anyB, Bool.false_or, Nat.add_zero]
  | j + 1, k, i => by
    rw [show j + 1 + k = j + k + 1 by omega, anyB, anyB, anyB_add, Bool.or_assoc, show i + 1 + j = i + (j + 1) by omega]
theorem anyB_none {P : Nat → Bool} : ∀ {j i : Nat}, (∀ d, i ≤ d → d < i + j → P d = false) → anyB P j i = false
  | 0, _, _ => rfl
  | j + 1, i, h => by
    rw [anyB, h i (Nat.le_refl _) (by omega), Bool.false_or]
    exact anyB_none (fun d a b => h d (by omega) (by omega))
theorem anyB_some {P : Nat → Bool} : ∀ {j i d : Nat}, i ≤ d → d < i + j → P d = true → anyB P j i = true
  | 0, _, _, h1, h2, _ => absurd h2 (by omega)
  | j + 1, i, d, h1, h2, h3 => by
    rw [anyB]
    by_cases e : d = i
    · rw [← e, h3, Bool.true_or]
    · rw [anyB_some (show i + 1 ≤ d by omega) (by omega) h3, Bool.or_true]
/-- whether a place is led to a ditch, those that are lost being l -/
def okS (w : Nat → Nat → Nat) (n : Nat) (l : Nat → Bool) (i : Nat) : Bool := dit w i || anyB (fun e => decide (0 < w i e) && !l e) n 0
def lsO (l : Nat → Bool) (i : Nat) : Nat → Bool := fun q => l q && !decide (q = i)
def psF (w : Nat → Nat → Nat) (n : Nat) : Nat → Nat → (Nat → Bool) → (Nat → Bool)
  | 0, _, l => l
  | j + 1, i, l => psF w n j (i + 1) (cond (okS w n l i) (lsO l i) l)
def itF (w : Nat → Nat → Nat) (n : Nat) : Nat → (Nat → Bool) → (Nat → Bool)
  | 0, l => l
  | r + 1, l => itF w n r (psF w n n 0 l)
def MK (n : Nat) (L : Int32) (l : Nat → Bool) : Prop := ∀ i, i < 32 → bt L i = (decide (i < n) && l i)
theorem lsO_f {l : Nat → Bool} {i : Nat} (h : l i = false) : lsO l i = l := by
  funext q
  unfold lsO
  by_cases e : q = i
  · rw [e, h]; rfl
  · simp [e]
section
variable {S : St} {n : Nat} {kd : Nat → Nat} {w : Nat → Nat → Nat}
theorem wtp_pos (b : Int32) (p : Nat) : ∀ j i, (0 < wtp w b p j i) ↔ anyB (fun e => decide (0 < w p e) && bt b e) j i = true
  | 0, i => by simp [wtp, sumF, anyB]
  | j + 1, i => by
    have ih := wtp_pos b p j (i + 1)
    have e : wtp w b p (j + 1) i = (if bt b i = true then w p i else 0) + wtp w b p j (i + 1) := rfl
    rw [e, anyB, Bool.or_eq_true, ← ih, Bool.and_eq_true, decide_eq_true_eq]
    cases hb : bt b i with
    | true => simp only [if_true, and_true]; omega
    | false => simp only [Bool.false_eq_true, if_false, and_false, false_or]; omega
theorem led_ok {L : Int32} {l : Nat → Bool} (hn : n ≤ 12) (hL : MK n L l) {p : Nat} : (0 < wtp w (allB n &&& (L ^^^ (-1))) p n 0) ↔ anyB (fun e => decide (0 < w p e) && !l e) n 0 = true := by
  rw [wtp_pos, anyB_congr (Q := fun e => decide (0 < w p e) && !l e) (fun d h1 h2 => ?_)]
  show (decide (0 < w p d) && bt (allB n &&& (L ^^^ (-1))) d) = _
  rw [b_and, b_xor, b_all n (by omega) d (by omega), b_m1 d (by omega), hL d (by omega), decide_eq_true (show d < n by omega), Bool.true_and, Bool.true_and, Bool.xor_true]
theorem MK.off {L : Int32} {l : Nat → Bool} (hL : MK n L l) {i : Nat} (hi : i < 32) : MK n (L &&& (((1 : Int32) <<< (nI i &&& 31)) ^^^ (-1))) (lsO l i) := fun q hq => by
  rw [b_off hi q hq, hL q hq]
  unfold lsO
  rw [Bool.and_assoc]
theorem lost_17_ok (h : CSl S n kd w) (hi : ISl n kd w) (v2 : Int32) (K : St → Int32 → Int32 → Option (St × Int32)) : ∀ (j m i : Nat) (L : Int32) (l : Nat → Bool), i + j = n → j < m → MK n L l → ∃ L2, X7_bitsOfLost_17 1 v2 K m S L (nI i) = K S L2 (nI n) ∧ MK n L2 (psF w n j i l)
  | 0, 0, _, _, _, _, h, _ => absurd h (by omega)
  | j + 1, 0, _, _, _, _, h, _ => absurd h (by omega)
  | 0, m + 1, i, L, l, hij, _, hL => by
    refine ⟨L, ?_, hL⟩
    rw [show i = n by omega, X7_bitsOfLost_17, if_pos (by rw [h.1]; exact Int32.le_refl _)]
  | j + 1, m + 1, i, L, l, hij, hm, hL => by
    have hn := hi.1
    have e1 : nI i + (1 : Int32) = nI (i + 1) := nI_1 i
    have hw := wtp_le hi (show i < 12 by omega) (allB n &&& (L ^^^ (-1)))
    rw [X7_bitsOfLost_17, if_neg (by rw [h.1]; exact nI_ge (by omega) (by omega)), bitsOfAll_ok h.1 hn, bd_s]
    simp only [lt_e, hasDitch_ok h hi (show i < 12 by omega), bd_s, ite_b1n, weightToPlaces_ok h hi (show i < 12 by omega), e1, psF]
    have e2 : (nI (wtp w (allB n &&& (L ^^^ (-1))) i n 0) ≤ 0) ↔ ¬ (anyB (fun e => decide (0 < w i e) && !l e) n 0 = true) := by
      rw [← led_ok hn hL, le32, lits.1, nT (by omega)]
      omega
    have key1 := lost_17_ok h hi v2 K j m (i + 1) (L &&& (((1 : Int32) <<< (nI i &&& 31)) ^^^ (-1))) (lsO l i) (by omega) (by omega) (hL.off (by omega))
    have key2 := lost_17_ok h hi v2 K j m (i + 1) L l (by omega) (by omega) hL
    unfold okS
    cases hd : dit w i with
    | true =>
      rw [if_pos rfl, Bool.true_or]
      exact key1
    | false =>
      rw [if_neg (by decide), Bool.false_or]
      cases ha : anyB (fun e => decide (0 < w i e) && !l e) n 0 with
      | true =>
        rw [if_neg (by rw [e2, ha]; decide)]
        exact key1
      | false =>
        rw [if_pos (by rw [e2, ha]; decide)]
        exact key2
theorem lost_7_ok (h : CSl S n kd w) (hi : ISl n kd w) (K : St → Int32 → Int32 → Option (St × Int32)) : ∀ (j m i : Nat) (L : Int32) (l : Nat → Bool), i + j = n → j < m → MK n L l → ∃ L2, X7_bitsOfLost_7 1 K m S L (nI i) = K S L2 (nI n) ∧ MK n L2 (itF w n j l)
  | 0, 0, _, _, _, _, h, _ => absurd h (by omega)
  | j + 1, 0, _, _, _, _, h, _ => absurd h (by omega)
  | 0, m + 1, i, L, l, hij, _, hL => by
    refine ⟨L, ?_, hL⟩
    rw [show i = n by omega, X7_bitsOfLost_7, if_pos (by rw [h.1]; exact Int32.le_refl _)]
  | j + 1, m + 1, i, L, l, hij, hm, hL => by
    have hn := hi.1
    have e1 : nI i + (1 : Int32) = nI (i + 1) := nI_1 i
    rw [X7_bitsOfLost_7, if_neg (by rw [h.1]; exact nI_ge (by omega) (by omega))]
    obtain ⟨L1, q1, q2⟩ := lost_17_ok h hi (nI i) (fun (S37 : St) (v38 : Int32) (v39 : Int32) => lt (nI i + (1 : Int32)) fun v40 => X7_bitsOfLost_7 1 K m S37 v38 v40) n FU 0 L l (by omega) (by unfold FU; omega) hL
    obtain ⟨L2, r1, r2⟩ := lost_7_ok h hi K j m (i + 1) L1 (psF w n n 0 l) (by omega) (by omega) q2
    refine ⟨L2, ?_, r2⟩
    rw [show (0 : Int32) = nI 0 from rfl, q1, lt_e, e1]
    exact r1
theorem bitsOfLost_ok (h : CSl S n kd w) (hi : ISl n kd w) : ∃ L, X7_bitsOfLost S 1 = some (S, L) ∧ MK n L (itF w n n (fun _ => true)) := by
  have hn := hi.1
  obtain ⟨L, q1, q2⟩ := lost_7_ok h hi (fun S41 v42 v43 => some (S41, v42)) n FU 0 (allB n) (fun _ => true) (by omega) (by unfold FU; omega) (fun i hi => by rw [b_all n (by omega) i hi, Bool.and_true])
  refine ⟨L, ?_, q2⟩
  unfold X7_bitsOfLost
  rw [bitsOfAll_ok h.1 hn, bd_s, show (0 : Int32) = nI 0 from rfl, q1]
-- ---- the reference
def MS (n : Nat) (s : Int32) (l : Nat → Bool) : Prop := ∀ i, i < 32 → bt s i = (decide (i < n) && !l i)
theorem bi_or (a b : Bool) : bi (a || b) = if bi a = 0 then bi b else 1 := by cases a <;> cases b <;> rfl
theorem begin_66_ok (h : MSl S n kd w) (hi : ISl n kd w) {p : Nat} (hp : p < 12) (s v2 : Int32) (K : St → Int32 → Int32 → Option (St × Int32)) : ∀ (j m i : Nat) (a : Bool), i + j = 15 → j < m → X11_begin_66 173 s v2 (nI p) K m S (bi a) (nI i) = K S (bi (a || anyB (fun k => decide (0 < w p k) && (decide (11 < k) || bt s k)) j i)) (nI 15)
  | 0, 0, _, _, _, h => absurd h (by omega)
  | j + 1, 0, _, _, _, h => absurd h (by omega)
  | 0, m + 1, i, a, hij, _ => by
    rw [show i = 15 by omega, X11_begin_66, if_pos (by decide), anyB, Bool.or_false]
  | j + 1, m + 1, i, a, hij, hm => by
    have e1 : nI i + (1 : Int32) = nI (i + 1) := nI_1 i
    have hw := hi.w_le hp (show i < 15 by omega)
    have ih := fun b => begin_66_ok h hi hp s v2 K j m (i + 1) b (by omega) (by omega)
    have i1 := ih true
    have i0 := ih false
    rw [show bi true = 1 from rfl, Bool.true_or] at i1
    rw [show bi false = 0 from rfl, Bool.false_or] at i0
    rw [X11_begin_66, if_neg (by rw [show (15 : Int32) = nI 15 from rfl]; exact nI_ge (by omega) (by omega)), weightOf_ok h hp (show i < 15 by omega)]
    simp only [lt_e, bd_s, e1, i1, i0, b_tst1 (show i < 32 by omega), le32, lt32, lits, lits2, nT (show w p i < 2147483648 by omega), nT (show i < 2147483648 by omega), anyB]
    cases a with
    | true => rw [if_pos (by decide), Bool.true_or]
    | false =>
      rw [if_neg (by decide), Bool.false_or]
      by_cases z1 : 0 < w p i
      · rw [if_neg (by omega), decide_eq_true z1, Bool.true_and]
        by_cases z2 : 11 < i
        · rw [if_pos (by omega), decide_eq_true z2, Bool.true_or, Bool.true_or]
        · rw [if_neg (by omega), decide_eq_false z2, Bool.false_or]
          cases bt s i with
          | true => rw [if_neg (by decide), Bool.true_or]
          | false => rw [if_pos (by decide), Bool.false_or]
      · rw [if_pos (by omega), decide_eq_false z1, Bool.false_and, Bool.false_or]
theorem okM {s : Int32} {l : Nat → Bool} (hn : n ≤ 12) (hs : MS n s l) (p : Nat) : anyB (fun k => decide (0 < w p k) && (decide (11 < k) || bt s k)) 15 0 = okS w n l p := by
  rw [show 15 = n + ((12 - n) + 3) by omega, anyB_add, anyB_add (j := 12 - n) (k := 3), anyB_none (j := 12 - n) (fun d h1 h2 => by
    show (decide (0 < w p d) && (decide (11 < d) || bt s d)) = false
    rw [decide_eq_false (show ¬ 11 < d by omega), hs d (by omega), decide_eq_false (show ¬ d < n by omega)]; simp), Bool.false_or, show 0 + n + (12 - n) = 12 by omega, anyB_congr (Q := fun e => decide (0 < w p e) && !l e) (fun d h1 h2 => by
    show (decide (0 < w p d) && (decide (11 < d) || bt s d)) = _
    rw [decide_eq_false (show ¬ 11 < d by omega), hs d (by omega), decide_eq_true (show d < n by omega)]; simp)]
  unfold okS dit
  rw [Bool.or_comm]
  congr 1
  simp [anyB]
theorem cnt_off {l : Nat → Bool} {x : Nat} : ∀ {j i : Nat}, i ≤ x → x < i + j → l x = true → cntB (lsO l x) j i + 1 = cntB l j i
  | 0, _, h1, h2, _ => absurd h2 (by omega)
  | j + 1, i, h1, h2, h3 => by
    rw [cntB, cntB]
    by_cases e : i = x
    · subst e
      rw [cnt_congr (P := lsO l i) (Q := l) (fun d a b => by unfold lsO; rw [decide_eq_false (by omega)]; simp), h3, if_neg (by unfold lsO; simp), if_pos rfl]
      omega
    · have := cnt_off (l := l) (x := x) (j := j) (i := i + 1) (by omega) (by omega) h3
      have e2 : lsO l x i = l i := by unfold lsO; rw [decide_eq_false e]; simp
      rw [e2]
      omega
theorem psF_cases (l : Nat → Bool) : ∀ (j i : Nat), i + j ≤ n → ∀ l, psF w n j i l = l ∨ cntB (psF w n j i l) n 0 < cntB l n 0
  | 0, _, _, _ => Or.inl rfl
  | j + 1, i, h, l => by
    rw [psF]
    cases ho : okS w n l i with
    | false => exact psF_cases l j (i + 1) (by omega) l
    | true =>
      rw [cond_true]
      cases hl : l i with
      | false =>
        rw [lsO_f hl]
        exact psF_cases l j (i + 1) (by omega) l
      | true =>
        right
        have h1 := cnt_off (l := l) (x := i) (j := n) (i := 0) (by omega) (by omega) hl
        rcases psF_cases l j (i + 1) (by omega) (lsO l i) with e | e
        · rw [e]; omega
        · omega
theorem begin_40_ok (h : MSl S n kd w) (hi : ISl n kd w) (K : St → Int32 → Int32 → Int32 → Option (St × Int32)) : ∀ (j m i : Nat) (s : Int32) (b : Bool) (l : Nat → Bool), i + j = n → j < m → MS n s l → ∃ s2 b2, X11_begin_40 173 K m S s (bi b) (nI i) = K S s2 (bi b2) (nI n) ∧ MS n s2 (psF w n j i l) ∧ (b2 = false → b = false ∧ psF w n j i l = l) ∧ (b2 = true → b = true ∨ cntB (psF w n j i l) n 0 < cntB l n 0)
  | 0, 0, _, _, _, _, _, h, _ => absurd h (by omega)
  | j + 1, 0, _, _, _, _, _, h, _ => absurd h (by omega)
  | 0, m + 1, i, s, b, l, hij, _, hs => by
    refine ⟨s, b, ?_, hs, fun z => ⟨z, rfl⟩, fun z => Or.inl z⟩
    rw [show i = n by omega, X11_begin_40, if_pos (by rw [h.1]; exact Int32.le_refl _)]
  | j + 1, m + 1, i, s, b, l, hij, hm, hs => by
    have hn := hi.1
    have e1 : nI i + (1 : Int32) = nI (i + 1) := nI_1 i
    rw [X11_begin_40, if_neg (by rw [h.1]; exact nI_ge (by omega) (by omega))]
    have e2 : ∀ K2, X11_begin_66 173 s (bi b) (nI i) K2 FU S 0 0 = K2 S (bi (okS w n l i)) (nI 15) := fun K2 => by
      have := begin_66_ok h hi (show i < 12 by omega) s (bi b) K2 15 FU 0 false (by omega) (by decide)
      rw [Bool.false_or, okM hn hs] at this
      exact this
    simp only [lt_e, e1, e2, b_tst1 (show i < 32 by omega), hs i (by omega), decide_eq_true (show i < n by omega), Bool.true_and, psF]
    cases hl : l i with
    | false =>
      rw [if_neg (by decide), lsO_f hl, Bool.cond_self]
      exact begin_40_ok h hi K j m (i + 1) s b l (by omega) (by omega) hs
    | true =>
      rw [if_pos (by decide)]
      cases ho : okS w n l i with
      | false =>
        rw [if_neg (by decide), cond_false]
        exact begin_40_ok h hi K j m (i + 1) s b l (by omega) (by omega) hs
      | true =>
        rw [if_pos (by decide), cond_true]
        obtain ⟨s2, b2, q1, q2, q3, q4⟩ := begin_40_ok h hi K j m (i + 1) (s ||| ((1 : Int32) <<< (nI i &&& 31))) true (lsO l i) (by omega) (by omega) (fun q hq => by
          rw [b_on (show i < 32 by omega) q hq, hs q hq]
          unfold lsO
          by_cases e : q = i
          · subst e
            rw [decide_eq_true (show q < n by omega)]
            simp
          · rw [decide_eq_false e]
            simp)
        refine ⟨s2, b2, q1, q2, fun z => ?_, fun z => Or.inr ?_⟩
        · have := (q3 z).1
          cases this
        · have h1 := cnt_off (l := l) (x := i) (j := n) (i := 0) (by omega) (by omega) hl
          rcases psF_cases (w := w) (n := n) l j (i + 1) (by omega) (lsO l i) with e | e
          · rw [e]; omega
          · omega
theorem begin_32_ok (h : MSl S n kd w) (hi : ISl n kd w) (K : St → Int32 → Int32 → Option (St × Int32)) : ∀ (m : Nat) (s : Int32) (l : Nat → Bool), cntB l n 0 + 2 ≤ m → MS n s l → ∃ r s2, X11_begin_32 173 K m S s 1 = K S s2 0 ∧ MS n s2 (itF w n r l) ∧ psF w n n 0 (itF w n r l) = itF w n r l
  | 0, _, _, h, _ => absurd h (by omega)
  | m + 1, s, l, hm, hs => by
    obtain ⟨s2, b2, q1, q2, q3, q4⟩ := begin_40_ok h hi (fun (S40 : St) (v41 : Int32) (v42 : Int32) (v43 : Int32) => X11_begin_32 173 K m S40 v41 v42) n FU 0 s false l (by omega) (by have := hi.1; unfold FU; omega) hs
    have e0 : X11_begin_32 173 K (m + 1) S s 1 = X11_begin_32 173 K m S s2 (bi b2) := by
      rw [X11_begin_32, if_neg (by decide)]
      exact q1
    cases b2 with
    | false =>
      obtain ⟨-, e⟩ := q3 rfl
      rw [e] at q2
      refine ⟨0, s2, ?_, q2, e⟩
      rw [e0]
      cases m with
      | zero => omega
      | succ m => rw [X11_begin_32, if_pos (show bi false = 0 from rfl)]; rfl
    | true =>
      have h1 : cntB (psF w n n 0 l) n 0 < cntB l n 0 := by
        rcases q4 rfl with e | e
        · cases e
        · exact e
      obtain ⟨r, s3, p1, p2, p3⟩ := begin_32_ok h hi K m s2 (psF w n n 0 l) (by omega) q2
      exact ⟨r + 1, s3, e0.trans p1, p2, p3⟩
theorem itF_fix {l : Nat → Bool} (h : psF w n n 0 l = l) : ∀ r, itF w n r l = l
  | 0 => rfl
  | r + 1 => by rw [itF, h]; exact itF_fix h r
theorem itF_add (l : Nat → Bool) : ∀ a b, itF w n (a + b) l = itF w n b (itF w n a l) := by
  intro a
  induction a generalizing l with
  | zero => intro b; rw [Nat.zero_add]; rfl
  | succ a ih => intro b; rw [show a + 1 + b = a + b + 1 by omega, itF, itF]; exact ih _ b
theorem itF_dec : ∀ r l, psF w n n 0 (itF w n r l) = itF w n r l ∨ cntB (itF w n r l) n 0 + r ≤ cntB l n 0
  | 0, l => Or.inr (by rw [itF]; omega)
  | r + 1, l => by
    rw [itF]
    rcases psF_cases (w := w) (n := n) l n 0 (by omega) l with e | e
    · left
      rw [e, itF_fix e]; exact e
    · rcases itF_dec r (psF w n n 0 l) with e2 | e2
      · exact Or.inl e2
      · right; omega
theorem psF_zero : ∀ j i (l : Nat → Bool), i + j ≤ n → (∀ d, d < n → l d = false) → psF w n j i l = l
  | 0, _, _, _, _ => rfl
  | j + 1, i, l, h, hl => by
    rw [psF, lsO_f (hl i (by omega)), Bool.cond_self]
    exact psF_zero j (i + 1) l (by omega) hl
theorem cnt_0f {P : Nat → Bool} : ∀ {j i : Nat}, cntB P j i = 0 → ∀ d, i ≤ d → d < i + j → P d = false
  | 0, _, _, d, h1, h2 => absurd h2 (by omega)
  | j + 1, i, h, d, h1, h2 => by
    rw [cntB] at h
    by_cases e : d = i
    · subst e
      cases hp : P d with
      | false => rfl
      | true => rw [hp, if_pos rfl] at h; omega
    · exact cnt_0f (j := j) (i := i + 1) (by omega) d (by omega) (by omega)
theorem itF_n (l : Nat → Bool) : psF w n n 0 (itF w n n l) = itF w n n l := by
  rcases itF_dec (w := w) (n := n) n l with e | e
  · exact e
  · have h1 := cnt_le (P := l) (j := n) (i := 0)
    have h2 : cntB (itF w n n l) n 0 = 0 := by omega
    exact psF_zero n 0 _ (by omega) (fun d hd => cnt_0f h2 d (by omega) (by omega))
theorem itF_same {l : Nat → Bool} {r : Nat} (h : psF w n n 0 (itF w n r l) = itF w n r l) : itF w n r l = itF w n n l := by
  rcases Nat.le_total r n with e | e
  · have := itF_add (w := w) (n := n) l r (n - r)
    rw [show r + (n - r) = n by omega, itF_fix h] at this
    exact this.symm
  · have := itF_add (w := w) (n := n) l n (r - n)
    rw [show n + (r - n) = r by omega, itF_fix (itF_n l)] at this
    exact this
/-- a place that is not lost has a load -/
theorem ok_ld {l : Nat → Bool} {i : Nat} (hn : n ≤ 12) (h : okS w n l i = true) : 0 < ld w i := by
  have key : ∀ e, e < 15 → 0 < w i e → 0 < ld w i := fun e he h => Nat.lt_of_lt_of_le h (sN_le (f := w i) he)
  unfold okS at h
  rw [Bool.or_eq_true] at h
  rcases h with h | h
  · obtain ⟨d, h1, h2, h3⟩ := anyB_t h
    exact key (12 + d) (by omega) (of_decide_eq_true h3)
  · obtain ⟨d, h1, h2, h3⟩ := anyB_t h
    rw [Bool.and_eq_true] at h3
    exact key d (by omega) (of_decide_eq_true h3.1)
theorem psF_ld (hn : n ≤ 12) : ∀ j i (l : Nat → Bool), (∀ p, p < n → l p = false → 0 < ld w p) → ∀ p, p < n → psF w n j i l p = false → 0 < ld w p
  | 0, _, _, h => h
  | j + 1, i, l, h => by
    rw [psF]
    cases ho : okS w n l i with
    | false => exact psF_ld hn j (i + 1) l h
    | true =>
      refine psF_ld hn j (i + 1) (lsO l i) (fun p hp hl => ?_)
      by_cases e : p = i
      · rw [e]; exact ok_ld hn ho
      · unfold lsO at hl
        rw [decide_eq_false e] at hl
        exact h p hp (by simpa using hl)
theorem itF_ld (hn : n ≤ 12) : ∀ r (l : Nat → Bool), (∀ p, p < n → l p = false → 0 < ld w p) → ∀ p, p < n → itF w n r l p = false → 0 < ld w p
  | 0, _, h => h
  | r + 1, l, h => itF_ld hn r _ (psF_ld hn n 0 l h)
end
section
variable {n : Nat} {w : Nat → Nat → Nat}
theorem sN_part {f : Nat → Nat} {U : Nat → Bool} : ∀ k, sN (fun e => if U e = true then f e else 0) k ≤ sN f k ∧ (sN (fun e => if U e = true then f e else 0) k = sN f k → ∀ e, e < k → U e = false → f e = 0)
  | 0 => ⟨Nat.le_refl _, fun _ e h => absurd h (by omega)⟩
  | k + 1 => by
    obtain ⟨h1, h2⟩ := sN_part (f := f) (U := U) k
    have e1 : sN (fun e => if U e = true then f e else 0) (k + 1) = sN (fun e => if U e = true then f e else 0) k + (if U k = true then f k else 0) := rfl
    have e2 : sN f (k + 1) = sN f k + f k := rfl
    rw [e1, e2]
    refine ⟨by split <;> omega, fun h e he hU => ?_⟩
    by_cases z : e = k
    · subst z
      rw [hU, if_neg (by decide)] at h
      omega
    · exact h2 (by split at h <;> omega) e (by omega) hU
theorem keep_zero (hn : n ≤ 12) {U : Nat → Bool} {p : Nat} (h : ¬ wUs w n U p < ld w p) : (∀ e, e < n → U e = false → w p e = 0) ∧ ∀ e, n ≤ e → e < 15 → w p e = 0 := by
  have h1 := sN_part (f := w p) (U := U) n
  have h2 : sN (w p) n ≤ sN (w p) 15 := sN_mono (by omega)
  have h3 : sN (fun e => if U e = true then w p e else 0) n = sN (w p) n := by
    have h4 : ¬ sN (fun e => if U e = true then w p e else 0) n < sN (w p) 15 := h
    omega
  have h5 : sN (w p) n = sN (w p) 15 := by
    have h4 : ¬ sN (fun e => if U e = true then w p e else 0) n < sN (w p) 15 := h
    omega
  refine ⟨h1.2 h3, fun e he he2 => ?_⟩
  have h6 : sN (w p) (e + 1) ≤ sN (w p) 15 := sN_mono (by omega)
  have h7 : sN (w p) n ≤ sN (w p) e := sN_mono he
  have h8 : sN (w p) (e + 1) = sN (w p) e + w p e := rfl
  omega
theorem psF_keep (hn : n ≤ 12) {U : Nat → Bool} (hU : ∀ p, p < n → U p = true → ¬ wUs w n U p < ld w p) : ∀ j i (l : Nat → Bool), i + j ≤ n → (∀ p, p < n → U p = true → l p = true) → ∀ p, p < n → U p = true → psF w n j i l p = true
  | 0, _, _, _, h => h
  | j + 1, i, l, hij, h => by
    rw [psF]
    cases ho : okS w n l i with
    | false => exact psF_keep hn hU j (i + 1) l (by omega) h
    | true =>
      refine psF_keep hn hU j (i + 1) (lsO l i) (by omega) (fun p hp hp2 => ?_)
      by_cases e : p = i
      · subst e
        exfalso
        obtain ⟨k1, k2⟩ := keep_zero hn (hU p hp hp2)
        unfold okS at ho
        rw [Bool.or_eq_true] at ho
        rcases ho with ho | ho
        · obtain ⟨d, d1, d2, d3⟩ := anyB_t ho
          have d4 : 0 < w p (12 + d) := of_decide_eq_true d3
          have := k2 (12 + d) (by omega) (by omega)
          omega
        · obtain ⟨d, d1, d2, d3⟩ := anyB_t ho
          rw [Bool.and_eq_true] at d3
          have d4 : 0 < w p d := of_decide_eq_true d3.1
          cases hd : U d with
          | true =>
            have := h d (by omega) hd
            rw [this] at d3
            cases d3.2
          | false =>
            have := k1 d (by omega) hd
            omega
      · unfold lsO
        rw [h p hp hp2, decide_eq_false e]
        rfl
theorem itF_keep (hn : n ≤ 12) {U : Nat → Bool} (hU : ∀ p, p < n → U p = true → ¬ wUs w n U p < ld w p) : ∀ r (l : Nat → Bool), (∀ p, p < n → U p = true → l p = true) → ∀ p, p < n → U p = true → itF w n r l p = true
  | 0, _, h => h
  | r + 1, l, h => itF_keep hn hU r _ (psF_keep hn hU n 0 l (by omega) h)
theorem itF_nl (hn : n ≤ 12) (h : ∀ p, p < n → itF w n n (fun _ => true) p = false) : NoL w n := by
  intro U ⟨p, hp, hp2⟩
  apply Classical.byContradiction
  intro hc
  have := itF_keep hn (U := U) (fun q hq hq2 z => hc ⟨q, hq, hq2, z⟩) n (fun _ => true) (fun _ _ _ => rfl) p hp hp2
  rw [h p hp] at this
  cases this
end
theorem mask_nat {s : Int32} {n : Nat} (hn : n ≤ 12) (h : ∀ i, i < 32 → bt s i = true → i < n) : ∃ k, k < 2 ^ n ∧ s = nI k := by
  refine ⟨s.toBitVec.toNat, Nat.lt_pow_two_of_testBit _ (fun i hi => ?_), ?_⟩
  · rcases Nat.lt_or_ge i 32 with h2 | h2
    · cases hb : s.toBitVec.toNat.testBit i with
      | false => rfl
      | true => exact absurd (h i h2 hb) (by omega)
    · exact Nat.testBit_lt_two_pow (Nat.lt_of_lt_of_le s.toBitVec.isLt (Nat.pow_le_pow_right (by omega) h2))
  · apply Int32.toBitVec_inj.mp
    apply BitVec.eq_of_toNat_eq
    rw [pk_tn s.toBitVec.isLt]
theorem mask_sub {s : Int32} {n : Nat} (hn : n ≤ 12) (h : ∀ i, i < 32 → bt s i = true → i < n) : allB n - s = allB n ^^^ s := by
  obtain ⟨k, hk, rfl⟩ := mask_nat hn h
  exact all_sub0 n (by omega) k hk
theorem MS_lost {n : Nat} {s L : Int32} {l : Nat → Bool} (hn : n ≤ 12) (hs : MS n s l) (hL : MK n L l) : allB n - s = L := by
  rw [mask_sub hn (fun i hi hb => by
    rw [hs i hi, Bool.and_eq_true] at hb
    exact of_decide_eq_true hb.1)]
  apply b_ext
  intro i hi
  rw [b_xor, b_all n (by omega) i hi, hs i hi, hL i hi]
  cases decide (i < n) <;> cases l i <;> rfl
section
variable {S : St} {c : Nat}
theorem op_begin (h : RelX S c) : Ok S c (fun S => X10_begin S 0) (fun S => X11_begin S 173) := by
  obtain ⟨n, kd, w, bg, g, mn, hR⟩ := h
  have hR0 := hR
  obtain ⟨⟨a1, a2, a3, a4, a5, a6⟩, ⟨b1', b2, b3, b4⟩, ⟨c1, c2, c3, c4⟩, d1, d2⟩ := hR0
  have hn := a3.1
  have nN := nT (show n < 2147483648 by omega)
  have has := has_ok a1.1 hn
  have ha0 := a1.1
  have cb := b1'.1
  cases bg with
  | true =>
    refine Ok.fd hR (v := -6) ?_ ?_
    · show X10_begin S 0 = _
      simp only [X10_begin, cb, bi_t, i10, if_false, found_c, bd_s]
    · intro S1 q
      have m2 := a2.gs q (by intro k j hk hq; omega)
      have isp := isPlace_ok m2.1 hn
      have mz := m2.1
      have mb : S1.1 173 3 = bi _ := (q.i (by omega)).trans b1'.2.1
      show X11_begin S1 173 = _
      simp only [X11_begin, mb, bi_t, i10, if_false, found_m, bd_s]
  | false =>
    by_cases hn0 : n = 0
    · refine Ok.fd hR (v := -11) ?_ ?_
      · show X10_begin S 0 = _
        simp only [X10_begin, cb, bi_f, if_true, rfs, ha0, hn0, show nI 0 = 0 from rfl, not_true, if_false, found_c, bd_s]
      · intro S1 q
        have m2 := a2.gs q (by intro k j hk hq; omega)
        have isp := isPlace_ok m2.1 hn
        have mz := m2.1
        have mb : S1.1 173 3 = bi _ := (q.i (by omega)).trans b1'.2.1
        show X11_begin S1 173 = _
        simp only [X11_begin, mb, bi_f, if_true, mz, hn0, show nI 0 = 0 from rfl, not_true, if_false, found_m, bd_s]
    · have hne := nI_ne0 (show 0 < n by omega) (by omega)
      obtain ⟨L, l1, l2⟩ := bitsOfLost_ok a1 a3
      have mk : ∀ S1, CT S S1 → X11_begin S1 173 = if L = 0 then some (setI S1 173 3 1, nI n) else some (setI (setI S1 173 7 L) 173 24 (S1.1 173 24 + 1), -7) := by
        intro S1 q
        have m2 := a2.gs q (by intro k j hk hq; omega)
        have isp := isPlace_ok m2.1 hn
        have mz := m2.1
        have mb : S1.1 173 3 = bi _ := (q.i (by omega)).trans b1'.2.1
        obtain ⟨r, s, r1, r2, r3⟩ := begin_32_ok m2 a3 (fun (S44 : St) (v45 : Int32) (v46 : Int32) =>
          lt ((((1 : Int32) <<< ((S44.1 173 0) &&& 31)) - (1 : Int32)) - v45) fun v47 =>
          if v47 = 0 then (
            lt (setI S44 173 3 (1 : Int32)) fun S48 =>
            some (S48, S48.1 173 0))
          else (
            lt (setI S44 173 7 v47) fun S49 =>
            bd (X11_found S49 173 (-7 : Int32)) fun S50 v51 =>
            some (S50, v51))) FU 0 (fun _ => true) (by have := cnt_le (P := fun _ => true) (j := n) (i := 0); unfold FU; omega) (fun i hi => by rw [b_0]; simp)
        unfold X11_begin
        rw [mb, if_pos bi_f, mz, if_pos hne, r1]
        simp only [lt_e, mz, all_is n (show n < 13 by omega), MS_lost hn r2 (by rw [itF_same r3]; exact l2), found_m, bd_s, sI_n (show ¬ (173 = 173 ∧ 0 = 3) by omega), sI_n (show ¬ (173 = 173 ∧ 24 = 7) by omega)]
      by_cases hL : L = 0
      · refine ⟨setI S 0 13 1, setI (setI S 0 13 1) 173 3 1, nI n, ?_, ?_, ?_⟩
        · show X10_begin S 0 = _
          simp only [X10_begin, cb, bi_f, if_true, rfs, ha0, if_pos hne, l1, bd_s, if_pos hL, lt_e, sI_n (show ¬ (1 = 0 ∧ 3 = 13) by omega)]
        · show X11_begin (setI S 0 13 1) 173 = _
          rw [mk _ ((sm_I S 0 13 1).mo (by intro k j hk; omega)), if_pos hL]
        · have hs := (sm_I S 0 13 1).tr (sm_I (setI S 0 13 1) 173 3 1)
          have hld : ∀ p, p < n → 0 < ld w p := fun p hp => itF_ld hn n (fun _ => true) (fun p _ z => by cases z) p hp (by
            have := l2 p (by omega)
            rw [hL, b_0, decide_eq_true hp, Bool.true_and] at this
            exact this.symm)
          have hnl : NoL w n := itF_nl hn (fun p hp => by
            have := l2 p (by omega)
            rw [hL, b_0, decide_eq_true hp, Bool.true_and] at this
            exact this.symm)
          refine ⟨n, kd, w, true, g, mn, ⟨⟨a1.gs hs ?_, a2.gs hs ?_, a3, fun p hp => by have := a4 p hp; omega, fun _ => ⟨by omega, hld, hnl⟩, fun z => absurd z (by decide)⟩, ⟨⟨?_, ?_, ?_, ?_⟩, b2.gs hn hs ?_, fun z => absurd z (by decide), b4.gs hn hs ?_⟩, ⟨?_, c2.gs hs ?_, ?_, ?_⟩, d1.gs hs ?_, d2.gs hs ?_⟩⟩
          case refine_3 => rw [sI_n (by omega), sI_s]; rfl
          case refine_4 => rw [sI_s]; rfl
          case refine_5 => rw [sI_n (by omega), sI_n (by omega), sI_n (by omega), sI_n (by omega)]; exact b1'.2.2.1
          case refine_6 => rw [sI_n (by omega), sI_n (by omega), sI_n (by omega), sI_n (by omega)]; exact b1'.2.2.2
          case refine_9 =>
            have c1n := c1.gs hn hs (by intro k j hk hq; omega)
            obtain ⟨h0, x0, z1, z2, z3, z4, z5, z6, z7⟩ := c1n
            exact ⟨h0, x0, z1, z2, z3, z4, z5, fun _ => rfl, z7⟩
          case refine_11 =>
            have c3n := c3.gs hn hs (by intro k j hk hq; omega)
            intro s hs8
            obtain ⟨fl, y1, y2, y3⟩ := c3n s hs8
            exact ⟨fl, y1, y2, fun hf => absurd (y3 hf).1 (by decide)⟩
          case refine_12 =>
            have c4n := c4.gs hs (by intro k j hk hq; omega)
            obtain ⟨r, y1, y2, y3, y4, y5⟩ := c4n
            exact ⟨r, y1, y2, y3, fun z => absurd (y4 z).1 (by decide), y5⟩
          all_goals
            intro k j hk hq
            omega
      · refine ⟨setI (setI S 0 14 L) 0 15 (S.1 0 15 + 1), setI (setI (setI (setI S 0 14 L) 0 15 (S.1 0 15 + 1)) 173 7 L) 173 24 (S.1 173 24 + 1), -7, ?_, ?_, ?_⟩
        · show X10_begin S 0 = _
          simp only [X10_begin, cb, bi_f, if_true, rfs, ha0, if_pos hne, l1, bd_s, if_neg hL, lt_e, found_c, sI_n (show ¬ (0 = 0 ∧ 15 = 14) by omega)]
        · show X11_begin _ 173 = _
          rw [mk _ (((sm_I S 0 14 L).tr (sm_I _ 0 15 _)).mo (by intro k j hk; omega)), if_neg hL, sI_n (by omega), sI_n (by omega)]
        · have hs := (((sm_I S 0 14 L).tr (sm_I (setI S 0 14 L) 0 15 (S.1 0 15 + 1))).tr (sm_I (setI (setI S 0 14 L) 0 15 (S.1 0 15 + 1)) 173 7 L)).tr (sm_I (setI (setI (setI S 0 14 L) 0 15 (S.1 0 15 + 1)) 173 7 L) 173 24 (S.1 173 24 + 1))
          refine (Rel.re hR hs (by intro k j hk hq; omega) (by intro k j hk hq; omega) a6 (Or.inr ⟨?_, ?_, ?_, ?_⟩) (Or.inl ⟨rfl, by intro k j hk hq; omega⟩) (Or.inl (by intro k j hk hq; omega)) (Or.inl ⟨rfl, by intro k j hk hq; omega⟩) (Or.inl ⟨rfl, by intro k j hk hq; omega⟩) (Or.inl (by intro k j hk hq; omega)) (Or.inl (by intro k j hk hq; omega)) (Or.inl (by intro k j hk hq; omega)) (Or.inl (by intro k j hk hq; omega)) (Or.inl (by intro k j hk hq; omega))).x
          · rw [(hs 0 13 (fun z => by omega)).1]; exact cb
          · rw [(hs 173 3 (fun z => by omega)).1]; exact b1'.2.1
          · rw [sI_n (by omega), sI_n (by omega), sI_n (by omega), sI_s, sI_n (by omega), sI_s]
          · rw [sI_n (by omega), sI_n (by omega), sI_s, sI_s, b1'.2.2.2]
end
