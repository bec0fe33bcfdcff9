/-! rows that come again: what burning says of sets, and the order of the rows -/
def ClS (w : Nat → Nat → Nat) (n : Nat) (g : Nat → Nat) (hd : Nat) (U : Nat → Bool) : Prop := ∀ p, p < n → U p = true → p ≠ hd → g p < wUs w n U p
section
variable {w : Nat → Nat → Nat} {n : Nat} {g : Nat → Nat} {hd : Nat}
theorem wtp_wUs (u : Int32) (p : Nat) : wtp w u p n 0 = wUs w n (bt u) p := by
  have h := sumF_sN (fun e => if bt u e = true then w p e else 0) n 0
  have h0 : sN (fun e => if bt u e = true then w p e else 0) 0 = 0 := rfl
  rw [h0, Nat.add_zero, Nat.zero_add] at h
  exact h
theorem sN_lep {f h : Nat → Nat} : ∀ k, (∀ e, e < k → f e ≤ h e) → sN f k ≤ sN h k
  | 0, _ => Nat.le_refl _
  | k + 1, hh => by
    show sN f k + f k ≤ sN h k + h k
    have := sN_lep k (fun e he => hh e (by omega))
    have := hh k (by omega)
    omega
theorem wUs_mono {U V : Nat → Bool} (p : Nat) (h : ∀ e, e < n → U e = true → V e = true) : wUs w n U p ≤ wUs w n V p := sN_lep n (fun e he => by
  cases hu : U e with
  | false => simp
  | true => rw [h e he hu]; simp)
theorem fir_closed (hn : n ≤ 12) : ClS w n g hd (bt (fir w n g hd n (allB n)).1) := by
  have h := fir_end (w := w) (g := g) (hd := hd) hn n (allB n) (by rw [cnt_allB hn]; exact Nat.le_refl _)
  intro p hp hu hne
  have h2 := fst_none h p (by omega) (by omega)
  rw [hu, Bool.true_and, decide_eq_true hne, Bool.true_and] at h2
  have h3 : ¬ wtp w (fir w n g hd n (allB n)).1 p n 0 ≤ g p := of_decide_eq_false h2
  rw [wtp_wUs] at h3
  omega
theorem fir_max (hn : n ≤ 12) {U : Nat → Bool} (hU : ClS w n g hd U) : ∀ (k : Nat) (v : Int32), (∀ p, p < n → U p = true → bt v p = true) → ∀ p, p < n → U p = true → bt (fir w n g hd k v).1 p = true
  | 0, v, h => h
  | k + 1, v, h => by
    rw [fir]
    cases hb : nbn w n g hd v with
    | none => exact h
    | some q =>
      obtain ⟨q1, q2, q3, q4⟩ := nbn_lt hb
      refine fir_max hn hU k (offB v q) (fun p hp hp2 => ?_)
      rw [off_bt (by omega) p (by omega), h p hp hp2]
      by_cases e : p = q
      · subst e
        exfalso
        have h1 := hU p hp hp2 q3
        have h2 := wUs_mono (w := w) p h
        rw [wtp_wUs] at q4
        omega
      · rw [decide_eq_false e]; rfl
theorem fir_big (hn : n ≤ 12) {U : Nat → Bool} (hU : ClS w n g hd U) {p : Nat} (hp : p < n) (hp2 : U p = true) : bt (fir w n g hd n (allB n)).1 p = true := fir_max hn hU n (allB n) (fun q hq _ => by rw [b_all n (by omega) q (by omega)]; exact decide_eq_true hq) p hp hp2
theorem fir_bits (hn : n ≤ 12) (b : Nat) (hb : b < 32) (h : bt (fir w n g hd n (allB n)).1 b = true) : b < n := by
  have := fir_in hn n (allB n) b hb h
  rw [b_all n (by omega) b hb] at this
  exact of_decide_eq_true this
theorem brn_iff (hn : n ≤ 12) : brn w n g = true ↔ ∀ U, ClS w n g 99 U → ∀ p, p < n → U p = false := by
  unfold brn
  rw [decide_eq_true_eq]
  constructor
  · intro h U hU p hp
    cases hu : U p with
    | false => rfl
    | true =>
      have := fir_big hn hU hp hu
      rw [h, b_0] at this
      cases this
  · intro h
    have h1 := h _ (fir_closed hn)
    apply b_ext
    intro i hi
    rw [b_0]
    cases hb : bt (fir w n g 99 n (allB n)).1 i with
    | false => rfl
    | true =>
      have := h1 i (fir_bits hn i hi hb)
      rw [hb] at this
      cases this
/-- the least grains at a with which the row still comes again -/
def mnl (w : Nat → Nat → Nat) (n : Nat) (r : Nat → Nat) (a : Nat) : Nat := wtp w (fir w n (mxr w r a) a n (allB n)).1 a n 0
theorem mxr_up (r : Nat → Nat) (a v p : Nat) (h : p ≠ a) : mxr w (upR r a v) (a + 1) p = mxr w r a p := by
  unfold mxr upR
  by_cases z : a + 1 ≤ p
  · rw [if_pos z, if_pos (by omega)]
  · rw [if_neg z, if_neg h, if_neg (by omega)]
theorem mxr_at (r : Nat → Nat) (a v : Nat) : mxr w (upR r a v) (a + 1) a = v := by
  unfold mxr upR
  rw [if_neg (by omega), if_pos rfl]
theorem mxr_same (r : Nat → Nat) (a : Nat) : mxr w (upR r a (ld w a - 1)) (a + 1) = mxr w r a := by
  funext p
  by_cases h : p = a
  · rw [h, mxr_at]
    unfold mxr
    rw [if_pos (Nat.le_refl _)]
  · exact mxr_up r a _ p h
theorem mnl_iff (hn : n ≤ 12) {r : Nat → Nat} {a : Nat} (ha : a < n) (hb : brn w n (mxr w r a) = true) (v : Nat) : brn w n (mxr w (upR r a v) (a + 1)) = true ↔ mnl w n r a ≤ v := by
  have hM := (brn_iff hn).mp hb
  have hcl := fir_closed (w := w) (g := mxr w r a) (hd := a) hn
  have hin : bt (fir w n (mxr w r a) a n (allB n)).1 a = true := fir_big hn (U := fun p => decide (p = a)) (fun p _ hp2 hp3 => absurd (of_decide_eq_true hp2) hp3) ha (decide_eq_true rfl)
  have hm : mnl w n r a = wUs w n (bt (fir w n (mxr w r a) a n (allB n)).1) a := wtp_wUs _ _
  constructor
  · intro h
    apply Classical.byContradiction
    intro hv
    have h2 := (brn_iff hn).mp h (bt (fir w n (mxr w r a) a n (allB n)).1) (fun p hp hp2 hp3 => by
      by_cases e : p = a
      · rw [e, mxr_at]; omega
      · rw [mxr_up r a v p e]; exact hcl p hp hp2 e) a ha
    rw [hin] at h2
    cases h2
  · intro hv
    rw [brn_iff hn]
    intro U hU
    cases hua : U a with
    | false =>
      refine hM U (fun p hp hp2 hp3 => ?_)
      have e : p ≠ a := fun e => by rw [e, hua] at hp2; cases hp2
      have := hU p hp hp2 hp3
      rw [mxr_up r a v p e] at this
      exact this
    | true =>
      exfalso
      have h1 : ClS w n (mxr w r a) a U := fun p hp hp2 hp3 => by
        have := hU p hp hp2 (by omega)
        rw [mxr_up r a v p hp3] at this
        exact this
      have h2 := wUs_mono (w := w) (n := n) (U := U) (V := bt (fir w n (mxr w r a) a n (allB n)).1) a (fun e he he2 => fir_big hn h1 he he2)
      have h3 := hU a ha hua (by omega)
      rw [mxr_at] at h3
      omega
theorem mnl_le (hn : n ≤ 12) {r : Nat → Nat} {a : Nat} (ha : a < n) (hb : brn w n (mxr w r a) = true) : mnl w n r a ≤ ld w a - 1 := (mnl_iff hn ha hb _).mp (by rw [mxr_same]; exact hb)
theorem brn_max (hn : n ≤ 12) (hl : NoL w n) (r : Nat → Nat) : brn w n (mxr w r 0) = true := by
  rw [brn_iff hn]
  intro U hU p hp
  cases hu : U p with
  | false => rfl
  | true =>
    exfalso
    obtain ⟨q, q1, q2, q3⟩ := hl U ⟨p, hp, hu⟩
    have := hU q q1 q2 (by omega)
    unfold mxr at this
    rw [if_pos (by omega)] at this
    omega
-- ---- the order of the rows
def EqN (n : Nat) (f h : Nat → Nat) : Prop := ∀ p, p < n → f p = h p
def lea (w : Nat → Nat → Nat) (n : Nat) : Nat → Nat → (Nat → Nat) → (Nat → Nat)
  | 0, _, r => r
  | j + 1, a, r => lea w n j (a + 1) (upR r a (mnl w n r a))
theorem mxr_pre {r s : Nat → Nat} {a : Nat} (h : ∀ p, p < a → r p = s p) : mxr w r a = mxr w s a := by
  funext p
  unfold mxr
  by_cases z : a ≤ p
  · rw [if_pos z, if_pos z]
  · rw [if_neg z, if_neg z, h p (by omega)]
theorem mnl_pre {r s : Nat → Nat} {a : Nat} (h : ∀ p, p < a → r p = s p) : mnl w n r a = mnl w n s a := by
  unfold mnl
  rw [mxr_pre h]
theorem lea_pre : ∀ (j a : Nat) (r s : Nat → Nat), (∀ p, p < a → r p = s p) → ∀ p, p < a + j → lea w n j a r p = lea w n j a s p
  | 0, a, r, s, h, p, hp => h p (by omega)
  | j + 1, a, r, s, h, p, hp => by
    rw [lea, lea]
    refine lea_pre j (a + 1) _ _ (fun q hq => ?_) p (by omega)
    unfold upR
    rw [mnl_pre h]
    split
    · rfl
    · exact h q (by omega)
theorem lea_low : ∀ (j a : Nat) (r : Nat → Nat) (p : Nat), p < a → lea w n j a r p = r p
  | 0, _, _, _, _ => rfl
  | j + 1, a, r, p, hp => by
    rw [lea, lea_low j (a + 1) _ p (by omega)]
    unfold upR
    rw [if_neg (by omega)]
def hib (P : Nat → Bool) : Nat → Option Nat
  | 0 => none
  | k + 1 => if P k = true then some k else hib P k
theorem hib_ok {P : Nat → Bool} : ∀ {k b : Nat}, hib P k = some b → b < k ∧ P b = true ∧ ∀ c, b < c → c < k → P c = false
  | 0, _, h => by cases h
  | k + 1, b, h => by
    rw [hib] at h
    by_cases z : P k = true
    · rw [if_pos z] at h
      cases h
      exact ⟨by omega, z, fun c h1 h2 => absurd h2 (by omega)⟩
    · rw [if_neg z] at h
      obtain ⟨h1, h2, h3⟩ := hib_ok h
      refine ⟨by omega, h2, fun c c1 c2 => ?_⟩
      by_cases e : c = k
      · rw [e]
        cases hp : P k with
        | true => exact absurd hp z
        | false => rfl
      · exact h3 c c1 (by omega)
theorem hib_is {P : Nat → Bool} : ∀ {k b : Nat}, b < k → P b = true → (∀ c, b < c → c < k → P c = false) → hib P k = some b
  | 0, _, h, _, _ => absurd h (by omega)
  | k + 1, b, h1, h2, h3 => by
    rw [hib]
    by_cases e : b = k
    · rw [← e, if_pos h2]
    · rw [h3 k (by omega) (by omega), if_neg (by decide)]
      exact hib_is (by omega) h2 (fun c c1 c2 => h3 c c1 (by omega))
def les (w : Nat → Nat → Nat) (x : Nat → Nat) (b : Nat) : Bool := decide (x b < ld w b - 1)
/-- the next row, if the place that steps on is not below a -/
def stA (w : Nat → Nat → Nat) (n a : Nat) (x : Nat → Nat) : Option (Nat → Nat) := match hib (les w x) n with
  | none => none
  | some b => if a ≤ b then some (lea w n (n - (b + 1)) (b + 1) (upR x b (x b + 1))) else none
def Chx (w : Nat → Nat → Nat) (n a : Nat) : (Nat → Nat) → List (Nat → Nat) → (Nat → Nat) → Prop
  | x, [], e => x = e
  | x, y :: t, e => (∃ z, stA w n a x = some z ∧ EqN n z y) ∧ Chx w n a y t e
theorem stA_mono {a b : Nat} {x z : Nat → Nat} (hab : b ≤ a) (h : stA w n a x = some z) : stA w n b x = some z := by
  unfold stA at h ⊢
  cases hh : hib (les w x) n with
  | none => rw [hh] at h; cases h
  | some c =>
    rw [hh] at h
    simp only at h ⊢
    by_cases z2 : a ≤ c
    · rw [if_pos z2] at h
      rw [if_pos (by omega)]; exact h
    · rw [if_neg z2] at h; cases h
theorem Chx.mono {a b : Nat} (hab : b ≤ a) : ∀ {t : List (Nat → Nat)} {x e : Nat → Nat}, Chx w n a x t e → Chx w n b x t e
  | [], _, _, h => h
  | y :: t, x, e, h => ⟨by obtain ⟨z, h1, h2⟩ := h.1; exact ⟨z, stA_mono hab h1, h2⟩, Chx.mono hab h.2⟩
theorem Chx.app {a : Nat} {y f : Nat → Nat} {s : List (Nat → Nat)} : ∀ {t : List (Nat → Nat)} {x e : Nat → Nat}, Chx w n a x t e → (∃ z, stA w n a e = some z ∧ EqN n z y) → Chx w n a y s f → Chx w n a x (t ++ y :: s) f
  | [], x, e, h, hz, hs => by
    have h : x = e := h
    rw [← h] at hz
    exact ⟨hz, hs⟩
  | q :: t, x, e, h, hz, hs => ⟨h.1, Chx.app h.2 hz hs⟩
/-- a list of rows that goes on from a beginning r of a places: its head is the least, each next one is the next row, and behind the last nothing steps on from a on -/
def Seg (w : Nat → Nat → Nat) (n a : Nat) (r : Nat → Nat) (l : List (Nat → Nat)) (h0 : Nat → Nat) : Prop := ∃ x t e, l = x :: t ∧ EqN n x h0 ∧ Chx w n a x t e ∧ (∀ p, p < a → e p = r p) ∧ ∀ p, a ≤ p → p < n → e p = ld w p - 1
theorem seg_rwv {j a : Nat} {r : Nat → Nat} (hn : n ≤ 12) (hja : a + (j + 1) = n) (hld : ∀ p, p < n → 0 < ld w p) (f : Nat → List (Nat → Nat)) (b : Nat → Bool) (hb : ∀ v, b v = true ↔ mnl w n r a ≤ v) (hf : ∀ v, mnl w n r a ≤ v → Seg w n (a + 1) (upR r a v) (f v) (lea w n j (a + 1) (upR r a v))) : ∀ (c v : Nat), 0 < c → v + c = ld w a → mnl w n r a ≤ v → Seg w n a r (rwv f b c v) (lea w n j (a + 1) (upR r a v))
  | 0, _, h, _, _ => absurd h (by omega)
  | c + 1, v, _, hvc, hv => by
    obtain ⟨x, t, e, e1, e2, e3, e4, e5⟩ := hf v hv
    have ev : e a = v := by
      rw [e4 a (by omega)]
      unfold upR
      rw [if_pos rfl]
    have elo : ∀ p, p < a → e p = r p := fun p hp => by
      rw [e4 p (by omega)]
      unfold upR
      rw [if_neg (by omega)]
    rw [rwv, (hb v).mpr hv, cond_true, e1]
    rcases Nat.eq_zero_or_pos c with z | z
    · rw [z, rwv, List.append_nil]
      refine ⟨x, t, e, rfl, e2, e3.mono (by omega), elo, fun p h1 h2 => ?_⟩
      by_cases y : p = a
      · rw [y, ev]; omega
      · exact e5 p (by omega) h2
    · obtain ⟨x2, t2, f2, g1, g2, g3, g4, g5⟩ := seg_rwv hn hja hld f b hb hf c (v + 1) z (by omega) (by omega)
      rw [g1]
      refine ⟨x, t ++ x2 :: t2, f2, rfl, e2, (e3.mono (by omega)).app ⟨lea w n (n - (a + 1)) (a + 1) (upR e a (e a + 1)), ?_, fun p hp => ?_⟩ g3, g4, g5⟩
      · unfold stA
        have hh : hib (les w e) n = some a := hib_is (by omega) (show les w e a = true from decide_eq_true (by rw [ev]; omega)) (fun q h1 h2 => show les w e q = false from decide_eq_false (by rw [e5 q (by omega) h2]; omega))
        rw [hh]
        simp only [if_pos (Nat.le_refl a)]
      · rw [g2 p hp, show n - (a + 1) = j by omega]
        refine lea_pre j (a + 1) _ _ (fun q hq => ?_) p (by omega)
        unfold upR
        by_cases y : q = a
        · rw [if_pos y, if_pos y, ev]
        · rw [if_neg y, if_neg y, elo q (by omega)]
theorem rwv_skip {f : Nat → List (Nat → Nat)} {b : Nat → Bool} {m : Nat} (hb : ∀ v, b v = true ↔ m ≤ v) : ∀ (d v c : Nat), v + d = m → rwv f b (d + c) v = rwv f b c m
  | 0, v, c, h => by rw [Nat.zero_add, show v = m by omega]
  | d + 1, v, c, h => by
    have e : b v = false := by
      cases hv : b v with
      | false => rfl
      | true => exact absurd ((hb v).mp hv) (by omega)
    rw [show d + 1 + c = d + c + 1 by omega, rwv, e, cond_false, List.nil_append]
    exact rwv_skip hb d (v + 1) c (by omega)
theorem seg_rws (hn : n ≤ 12) (hld : ∀ p, p < n → 0 < ld w p) : ∀ (j a : Nat) (r : Nat → Nat), a + j = n → brn w n (mxr w r a) = true → Seg w n a r (rws w n j a r) (lea w n j a r)
  | 0, a, r, hja, _ => ⟨r, [], r, rfl, fun _ _ => rfl, rfl, fun _ _ => rfl, fun p h1 h2 => absurd h2 (by omega)⟩
  | j + 1, a, r, hja, hb => by
    have hm := mnl_le hn (show a < n by omega) hb
    have hi := mnl_iff hn (show a < n by omega) hb
    have hl := hld a (by omega)
    rw [rws, lea, show ld w a = mnl w n r a + (ld w a - mnl w n r a) by omega, rwv_skip hi (mnl w n r a) 0 _ (by omega)]
    exact seg_rwv hn (by omega) hld _ _ hi (fun v hv => seg_rws hn hld j (a + 1) (upR r a v) (by omega) ((hi v).mpr hv)) _ _ (by omega) (by omega) (Nat.le_refl _)
theorem rws_pos (hn : n ≤ 12) (hld : ∀ p, p < n → 0 < ld w p) {j a : Nat} {r : Nat → Nat} (hja : a + j = n) (hb : brn w n (mxr w r a) = true) : 0 < (rws w n j a r).length := by
  obtain ⟨x, t, e, e1, -⟩ := seg_rws hn hld j a r hja hb
  rw [e1]
  simp
end
