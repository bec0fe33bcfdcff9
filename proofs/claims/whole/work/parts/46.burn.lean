/-! burning -/
def cnd (w : Nat → Nat → Nat) (n : Nat) (g : Nat → Nat) (hd : Nat) (u : Int32) (p : Nat) : Bool := bt u p && (decide (p ≠ hd) && decide (wtp w u p n 0 ≤ g p))
theorem nbn_is (w : Nat → Nat → Nat) (n : Nat) (g : Nat → Nat) (hd : Nat) (u : Int32) : nbn w n g hd u = fstB (cnd w n g hd u) n 0 := rfl
theorem off_bt {u : Int32} {p : Nat} (hp : p < 32) (i : Nat) (hi : i < 32) : bt (offB u p) i = (bt u i && !decide (i = p)) := b_off hp i hi
theorem off_cnt {u : Int32} {p n : Nat} (hn : n ≤ 12) (hp : p < n) (hu : bt u p = true) : cntB (bt (offB u p)) n 0 + 1 = cntB (bt u) n 0 := by
  rw [cnt_congr (P := bt (offB u p)) (Q := lsO (bt u) p) (fun d _ h2 => by rw [off_bt (by omega) d (by omega)]; rfl)]
  exact cnt_off (by omega) (by omega) hu
section
variable {w : Nat → Nat → Nat} {n hd : Nat} {g : Nat → Nat}
theorem nbn_lt {u : Int32} {p : Nat} (h : nbn w n g hd u = some p) : p < n ∧ bt u p = true ∧ p ≠ hd ∧ wtp w u p n 0 ≤ g p := by
  have h1 := fstB_lt h
  refine ⟨by omega, ?_⟩
  have h2 := h1.2.2
  rw [Bool.and_eq_true, Bool.and_eq_true, decide_eq_true_eq, decide_eq_true_eq] at h2
  exact h2
theorem fir_cnt (hn : n ≤ 12) : ∀ (k : Nat) (u : Int32), cntB (bt (fir w n g hd k u).1) n 0 + (fir w n g hd k u).2.length = cntB (bt u) n 0
  | 0, u => rfl
  | k + 1, u => by
    rw [fir]
    cases hb : nbn w n g hd u with
    | none => rfl
    | some p =>
      obtain ⟨h1, h2, -, -⟩ := nbn_lt hb
      have := fir_cnt hn k (offB u p)
      have := off_cnt hn h1 h2
      simp only [List.length_cons]
      omega
theorem fir_in (hn : n ≤ 12) : ∀ (k : Nat) (u : Int32) (i : Nat), i < 32 → bt (fir w n g hd k u).1 i = true → bt u i = true
  | 0, u, i, _, h => h
  | k + 1, u, i, hi, h => by
    rw [fir] at h
    cases hb : nbn w n g hd u with
    | none => rw [hb] at h; exact h
    | some p =>
      rw [hb] at h
      have h1 := (nbn_lt hb).1
      have h2 := fir_in hn k (offB u p) i hi h
      rw [off_bt (by omega) i hi, Bool.and_eq_true] at h2
      exact h2.1
theorem fir_lt (hn : n ≤ 12) : ∀ (k : Nat) (u : Int32), ∀ p ∈ (fir w n g hd k u).2, p < n
  | 0, u, p, h => by cases h
  | k + 1, u, p, h => by
    rw [fir] at h
    cases hb : nbn w n g hd u with
    | none => rw [hb] at h; cases h
    | some q =>
      rw [hb] at h
      rcases List.mem_cons.mp h with e | e
      · rw [e]; exact (nbn_lt hb).1
      · exact fir_lt hn k _ p e
theorem nbn_zero {u : Int32} (h : cntB (bt u) n 0 = 0) : nbn w n g hd u = none := fstB_none (fun d h1 h2 => by
  rw [cnt_0f h d h1 h2]; rfl)
theorem fir_end (hn : n ≤ 12) : ∀ (k : Nat) (u : Int32), cntB (bt u) n 0 ≤ k → nbn w n g hd (fir w n g hd k u).1 = none
  | 0, u, h => nbn_zero (show cntB (bt u) n 0 = 0 by omega)
  | k + 1, u, h => by
    rw [fir]
    cases hb : nbn w n g hd u with
    | none => exact hb
    | some p =>
      obtain ⟨h1, h2, -, -⟩ := nbn_lt hb
      have := off_cnt hn h1 h2
      exact fir_end hn k _ (by omega)
end
section
variable {S : St} {n hd : Nat} {kd : Nat → Nat} {w : Nat → Nat → Nat} {g : Nat → Nat}
theorem ntb_3_ok {k0 k2 : Nat} {u v3 : Int32} (h : CSl S n kd w) (hi : ISl n kd w) (hu : S.1 k0 2 = u) (hg : ∀ p, p < n → S.1 k2 p = nI (g p)) (hb : BG n g) (hv : ∀ p, p < 12 → ((nI p = v3) ↔ p = hd)) : ∀ (j m i : Nat), i + j = n → j < m → X1_nextToBurn_3 k0 1 k2 v3 (fun (S29 : St) (v30 : Int32) => some (S29, (-1 : Int32))) m S (nI i) = some (S, oI (fstB (cnd w n g hd u) j i))
  | 0, 0, _, _, h => absurd h (by omega)
  | j + 1, 0, _, _, h => absurd h (by omega)
  | 0, m + 1, i, hij, _ => by
    rw [show i = n by omega, X1_nextToBurn_3, if_pos (by rw [h.1]; exact Int32.le_refl _)]
    rfl
  | j + 1, m + 1, i, hij, hm => by
    have hn := hi.1
    have e1 : nI i + (1 : Int32) = nI (i + 1) := nI_1 i
    have hw := wtp_le hi (show i < 12 by omega) u
    have gb := hb i (by omega)
    have ih := ntb_3_ok h hi hu hg hb hv j m (i + 1) (by omega) (by omega)
    rw [X1_nextToBurn_3, if_neg (by rw [h.1]; exact nI_ge (by omega) (by omega))]
    cases hbt : bt u i with
    | false =>
      have t := (b_test (x := u) (show i < 32 by omega)).mpr hbt
      have hc : cnd w n g hd u i = false := by unfold cnd; rw [hbt]; rfl
      simp only [lt_e, e1, hu, ih, t, not_true, if_false, i10, not_false_iff, if_true, fstB, hc, Bool.false_eq_true]
    | true =>
      have t : ¬ (u &&& ((1 : Int32) <<< (nI i &&& 31))) = 0 := fun z => by
        have := (b_test (x := u) (show i < 32 by omega)).mp z
        rw [hbt] at this
        cases this
      have hc : cnd w n g hd u i = (decide (i ≠ hd) && decide (wtp w u i n 0 ≤ g i)) := by unfold cnd; rw [hbt]; rfl
      simp only [lt_e, e1, hu, ih, if_pos t, not_true, if_false, ck_n (show i < 12 by omega) (show 12 < 2147483648 by omega), ix_n (show i < 2147483648 by omega), weightToPlaces_ok h hi (show i < 12 by omega), bd_s, hg i (by omega), hv i (by omega), nI_ltI (show g i < 2 ^ 31 by omega) (show wtp w u i n 0 < 2 ^ 31 by omega), fstB, hc]
      by_cases z1 : i = hd
      · rw [if_pos z1, decide_eq_false (fun y => y z1), Bool.false_and, if_neg (by decide)]
      · rw [if_neg z1, decide_eq_true z1, Bool.true_and]
        by_cases z2 : g i < wtp w u i n 0
        · rw [if_pos z2, decide_eq_false (by omega), if_neg (by decide)]
        · rw [if_neg z2, decide_eq_true (by omega), if_pos rfl]; rfl
theorem ntb_ok {k0 k2 : Nat} {u v3 : Int32} (h : CSl S n kd w) (hi : ISl n kd w) (hu : S.1 k0 2 = u) (hg : ∀ p, p < n → S.1 k2 p = nI (g p)) (hb : BG n g) (hv : ∀ p, p < 12 → ((nI p = v3) ↔ p = hd)) : X1_nextToBurn S k0 1 k2 v3 = some (S, oI (nbn w n g hd u)) := by
  have key := ntb_3_ok h hi hu hg hb hv n FU 0 (by omega) (by have := hi.1; unfold FU; omega)
  rw [nI_0] at key
  unfold X1_nextToBurn
  rw [key]
  rfl
theorem light_16_ok {k0 k2 : Nat} {v3 : Int32} (hk : k0 = 130 ∨ k0 = 133) (hk2 : k2 = 18 ∨ k2 = 135) (hi : ISl n kd w) (hb : BG n g) (hv : ∀ p, p < 12 → ((nI p = v3) ↔ p = hd)) (K : St → Int32 → Option (St × Unit)) (hK : ∀ S v, K S v = some (S, ())) : ∀ (k m i : Nat) (S : St) (u : Int32), i + k = n → k < m → CSl S n kd w → S.1 k0 1 = nI i → S.1 k0 2 = u → (∀ p, p < n → S.1 k2 p = nI (g p)) → ∃ S2, X1_light_16 k0 1 k2 v3 K m S (nI i) = some (S2, ()) ∧ Sm (fun a b => (a = k0 ∧ (b = 1 ∨ b = 2)) ∨ (a = k0 + 1 ∧ i ≤ b)) S S2 ∧ S2.1 k0 1 = nI (i + (fir w n g hd k u).2.length) ∧ S2.1 k0 2 = (fir w n g hd k u).1 ∧ ∀ b, b < (fir w n g hd k u).2.length → S2.1 (k0 + 1) (i + b) = nI ((fir w n g hd k u).2.getD b 0)
  | 0, 0, _, _, _, _, h, _, _, _, _ => absurd h (by omega)
  | k + 1, 0, _, _, _, _, h, _, _, _, _ => absurd h (by omega)
  | 0, m + 1, i, S, u, hij, _, h, h1, h2, hg => by
    refine ⟨S, ?_, Sm.rf, h1, h2, fun b hb => absurd hb (by simp [fir])⟩
    rw [show i = n by omega, X1_light_16, if_pos (by rw [h.1]; exact Int32.le_refl _), hK]
  | k + 1, m + 1, i, S, u, hij, hm, h, h1, h2, hg => by
    have hn := hi.1
    have e1 : nI i + (1 : Int32) = nI (i + 1) := nI_1 i
    have r0 : rf k0 0 = k0 + 1 := by rcases hk with rfl | rfl <;> decide +kernel
    rw [X1_light_16, if_neg (by rw [h.1]; exact nI_ge (by omega) (by omega)), ntb_ok h hi h2 hg hb hv, bd_s, fir]
    cases hbn : nbn w n g hd u with
    | none =>
      refine ⟨S, ?_, Sm.rf, h1, h2, fun b hb => absurd hb (by simp)⟩
      rw [if_neg (fun z => z rfl)]
    | some p =>
      obtain ⟨p1, -, -, -⟩ := nbn_lt hbn
      have ne : ¬ oI (some p) = -1 := fun q => by
        have := (oI_m1 (o := some p) (fun q hq => by cases hq; omega)).mp q
        cases this
      rw [if_pos ne]
      have op : oI (some p) = nI p := rfl
      rw [op, h1, ck_n (show i < 12 by omega) (by omega), r0, ix_n (by omega)]
      have hs := ((sm_I S (k0 + 1) i (nI p)).tr (sm_I (setI S (k0 + 1) i (nI p)) k0 1 (nI (i + 1)))).tr (sm_I (setI (setI S (k0 + 1) i (nI p)) k0 1 (nI (i + 1))) k0 2 (offB u p))
      obtain ⟨S2, q1, q2, q3, q4, q5⟩ := light_16_ok hk hk2 hi hb hv K hK k m (i + 1) (setI (setI (setI S (k0 + 1) i (nI p)) k0 1 (nI (i + 1))) k0 2 (offB u p)) (offB u p) (by omega) (by omega) (h.gs hs (by intro a b ha hq; omega)) (by rw [sI_n (by omega), sI_s]) (sI_s _ _ _ _) (fun q hq => by rw [(hs _ _ (fun z => by omega)).1]; exact hg q hq)
      refine ⟨S2, ?_, (hs.tr q2).mo (by intro a b z; omega), ?_, q4, fun b hb2 => ?_⟩
      · simp only [lt_e, sI_n (show ¬ (k0 = k0 + 1 ∧ 1 = i) by omega), h1, e1, sI_n (show ¬ (k0 = k0 ∧ 2 = 1) by omega), sI_n (show ¬ (k0 = k0 + 1 ∧ 2 = i) by omega), h2]
        exact q1
      · rw [q3, List.length_cons]
        congr 1
        omega
      · cases b with
        | zero =>
          show S2.1 (k0 + 1) i = nI p
          rw [(q2 _ _ (fun z => by omega)).1, sI_n (by omega), sI_n (by omega), sI_s]
        | succ b =>
          have := q5 b (by rw [List.length_cons] at hb2; omega)
          rw [show i + (b + 1) = i + 1 + b by omega, this]
          rfl
theorem light_ok {k0 k2 : Nat} {v3 : Int32} (hk : k0 = 130 ∨ k0 = 133) (hk2 : k2 = 18 ∨ k2 = 135) (h : CSl S n kd w) (hi : ISl n kd w) (hb : BG n g) (hv : ∀ p, p < 12 → ((nI p = v3) ↔ p = hd)) (hg : ∀ p, p < n → S.1 k2 p = nI (g p)) : ∃ S2, X1_light S k0 1 k2 v3 = some (S2, ()) ∧ Sm (fun a _ => a = k0 ∨ a = k0 + 1) S S2 ∧ S2.1 k0 1 = nI (fir w n g hd n (allB n)).2.length ∧ S2.1 k0 2 = (fir w n g hd n (allB n)).1 ∧ ∀ b, b < (fir w n g hd n (allB n)).2.length → S2.1 (k0 + 1) b = nI ((fir w n g hd n (allB n)).2.getD b 0) := by
  have hn := hi.1
  have hs := (sm_I S k0 1 0).tr (sm_I (setI S k0 1 0) k0 2 (allB n))
  obtain ⟨S2, q1, q2, q3, q4, q5⟩ := light_16_ok hk hk2 hi hb hv (fun (S32 : St) (v33 : Int32) => some (S32, ())) (fun _ _ => rfl) n FU 0 (setI (setI S k0 1 0) k0 2 (allB n)) (allB n) (by omega) (by unfold FU; omega) (h.gs hs (by intro a b ha hq; omega)) (by rw [sI_n (by omega), sI_s]; rfl) (sI_s _ _ _ _) (fun q hq => by rw [(hs _ _ (fun z => by omega)).1]; exact hg q hq)
  rw [nI_0] at q1
  refine ⟨S2, ?_, (hs.tr q2).mo (by intro a b z; omega), by rw [q3, Nat.zero_add], q4, fun b hb2 => by have := q5 b hb2; rw [Nat.zero_add] at this; exact this⟩
  unfold X1_light
  rw [lt_e, bitsOfAll_ok (S := setI S k0 1 0) (n := n) (by rw [sI_n (by omega)]; exact h.1) hn, bd_s, lt_e]
  exact q1
-- ---- the reference
def CoM (n : Nat) (s u : Int32) : Prop := ∀ b, b < 32 → bt s b = (decide (b < n) && !bt u b)
theorem burns_22_ok {kr : Nat} {s u v3 : Int32} {p : Nat} (h : MSl S n kd w) (hi : ISl n kd w) (hs : CoM n s u) (hp : p < 12) (K : St → Int64 → Int32 → Option (St × Int32)) : ∀ (j m i a : Nat), i + j = n → j < m → X11_burns_22 173 kr s v3 (nI p) K m S (lN a) (nI i) = K S (lN (a + wtp w u p j i)) (nI n)
  | 0, 0, _, _, _, h => absurd h (by omega)
  | j + 1, 0, _, _, _, h => absurd h (by omega)
  | 0, m + 1, i, a, hij, _ => by
    rw [show i = n by omega, X11_burns_22, if_pos (by rw [h.1]; exact Int32.le_refl _)]
    rfl
  | j + 1, m + 1, i, a, hij, hm => by
    have hn := hi.1
    have e1 : nI i + (1 : Int32) = nI (i + 1) := nI_1 i
    have hw := hi.w_le hp (show i < 15 by omega)
    have e2 : wtp w u p (j + 1) i = (if bt u i = true then w p i else 0) + wtp w u p j (i + 1) := rfl
    rw [X11_burns_22, if_neg (by rw [h.1]; exact nI_ge (by omega) (by omega)), weightOf_ok h hp (show i < 15 by omega)]
    simp only [lt_e, bd_s, e1, b_tst0 (show i < 32 by omega), hs i (by omega), decide_eq_true (show i < n by omega), Bool.true_and, nI_l (show w p i < 2 ^ 31 by omega), lN_add]
    cases hb : bt u i with
    | true =>
      rw [if_neg (by decide), burns_22_ok h hi hs hp K j m (i + 1) (a + w p i) (by omega) (by omega), e2, hb, if_pos rfl, Nat.add_assoc]
    | false =>
      rw [if_pos (by decide), burns_22_ok h hi hs hp K j m (i + 1) a (by omega) (by omega), e2, hb, if_neg (by decide), Nat.zero_add]
theorem burns_7_ok {kr : Nat} (hr : kr = 176 ∨ kr = 195) (hi : ISl n kd w) (hb : BG n g) (K : St → Int32 → Int32 → Int32 → Option (St × Int32)) : ∀ (m k j p c : Nat) (S : St) (s u : Int32), 14 * k + j < m → p + j = n → cntB (bt u) n 0 ≤ k → c + cntB (bt u) n 0 ≤ n → CoM n s u → (∀ q, q < p → cnd w n g 99 u q = false) → MSl S n kd w → MG S kr n g → ∃ S2 s2, X11_burns_7 173 kr K m S s (nI c) (nI p) = K S2 s2 (nI (c + (fir w n g 99 k u).2.length)) (nI n) ∧ Sm (fun a b => a = 193 ∧ c ≤ b) S S2 ∧ CoM n s2 (fir w n g 99 k u).1 ∧ ∀ b, b < (fir w n g 99 k u).2.length → S2.1 193 (c + b) = nI ((fir w n g 99 k u).2.getD b 0) := by
  intro m
  induction m with
  | zero => intro k j p c S s u h; exact absurd h (by omega)
  | succ m ih =>
    intro k j p c S s u hm hpj hk hc hs hq h hg
    have hn := hi.1
    by_cases hj : j = 0
    · have hpn : p = n := by omega
      have hf : nbn w n g 99 u = none := fstB_none (fun d _ hd => hq d (by omega))
      have e : fir w n g 99 k u = (u, []) := by cases k <;> simp [fir, hf]
      refine ⟨S, s, ?_, Sm.rf, by rw [e]; exact hs, fun b hb2 => by rw [e] at hb2; exact absurd hb2 (by simp)⟩
      rw [hpn, X11_burns_7, if_pos (by rw [h.1]; exact Int32.le_refl _), e]
      rfl
    · have hpn : p < n := by omega
      have e1 : nI p + (1 : Int32) = nI (p + 1) := nI_1 p
      have e2 : nI c + (1 : Int32) = nI (c + 1) := nI_1 c
      have hw := wtp_le hi (show p < 12 by omega) u
      have gb := hb p hpn
      have key := fun K2 => burns_22_ok (kr := kr) (v3 := nI c) h hi hs (show p < 12 by omega) K2 n FU 0 0 (by omega) (by unfold FU; omega)
      rw [nI_0, show lN 0 = (0 : Int64) from rfl] at key
      rw [X11_burns_7, if_neg (by rw [h.1]; exact nI_ge hpn (by omega)), key]
      simp only [lt_x, b_tst1 (show p < 32 by omega), hs p (by omega), decide_eq_true (show p < n by omega), Bool.true_and, ck_n (show p < 15 by omega) (show 15 < 2147483648 by omega), ix_n (show p < 2147483648 by omega), hg p hpn, Nat.zero_add, pk_lLE (show wtp w u p n 0 < 2 ^ 63 by omega) (show g p < 2 ^ 63 by omega), e1, e2]
      have skip : cnd w n g 99 u p = false → ∃ S2 s2, X11_burns_7 173 kr K m S s (nI c) (nI (p + 1)) = K S2 s2 (nI (c + (fir w n g 99 k u).2.length)) (nI n) ∧ Sm (fun a b => a = 193 ∧ c ≤ b) S S2 ∧ CoM n s2 (fir w n g 99 k u).1 ∧ ∀ b, b < (fir w n g 99 k u).2.length → S2.1 193 (c + b) = nI ((fir w n g 99 k u).2.getD b 0) := fun hf => ih k (j - 1) (p + 1) c S s u (by omega) (by omega) hk hc hs (fun q h3 => by
        by_cases e : q = p
        · rw [e]; exact hf
        · exact hq q (by omega)) h hg
      cases hbt : bt u p with
      | false =>
        rw [if_pos (by decide)]
        exact skip (by unfold cnd; rw [hbt]; rfl)
      | true =>
        rw [if_neg (by decide)]
        by_cases z : wtp w u p n 0 ≤ g p
        · have hcd : cnd w n g 99 u p = true := by unfold cnd; rw [hbt, decide_eq_true z, decide_eq_true (show p ≠ 99 by omega)]; rfl
          have hf : nbn w n g 99 u = some p := fstB_some (fun d _ h3 => hq d h3) hcd (by omega) (by omega)
          have hcn := off_cnt hn hpn hbt
          cases k with
          | zero => omega
          | succ k =>
            have hf2 : fir w n g 99 (k + 1) u = ((fir w n g 99 k (offB u p)).1, p :: (fir w n g 99 k (offB u p)).2) := by rw [fir, hf]
            have hss := sm_I S 193 c (nI p)
            obtain ⟨S2, s2, t1, t2, t3, t4⟩ := ih k n 0 (c + 1) (setI S 193 c (nI p)) (s ||| ((1 : Int32) <<< (nI p &&& 31))) (offB u p) (by omega) (by omega) (by omega) (by omega) (fun b hb2 => by
              rw [b_on (show p < 32 by omega) b hb2, hs b hb2, off_bt (by omega) b hb2]
              by_cases e : b = p
              · rw [decide_eq_true e, decide_eq_true (show b < n by omega)]; simp
              · rw [decide_eq_false e]; simp) (fun q h3 => absurd h3 (by omega)) (h.gs hss (by intro a b ha hq; omega)) (fun q hq2 => by rw [sIr]; exact hg q hq2)
            rw [nI_0] at t1
            rw [if_pos z, show rf 173 31 = 193 by decide +kernel, ck_n (show c < 12 by omega) (by omega), ix_n (show c < 2147483648 by omega), hf2]
            refine ⟨S2, s2, ?_, (hss.tr t2).mo (by intro a b z; omega), t3, fun b hb2 => ?_⟩
            · rw [List.length_cons, show c + ((fir w n g 99 k (offB u p)).2.length + 1) = c + 1 + (fir w n g 99 k (offB u p)).2.length by omega]
              exact t1
            · cases b with
              | zero =>
                show S2.1 193 c = nI p
                rw [(t2 _ _ (fun z => by omega)).1, sI_s]
              | succ b =>
                have := t4 b (by rw [List.length_cons] at hb2; omega)
                rw [show c + (b + 1) = c + 1 + b by omega, this]
                rfl
        · rw [if_neg z]
          exact skip (by unfold cnd; rw [hbt, decide_eq_false z]; simp)
theorem cnt_allB (hn : n ≤ 12) : cntB (bt (allB n)) n 0 = n := cnt_all (fun d _ h2 => by rw [b_all n (by omega) d (by omega)]; exact decide_eq_true (by omega))
theorem burns_ok {kr : Nat} (hr : kr = 176 ∨ kr = 195) (h : MSl S n kd w) (hi : ISl n kd w) (hb : BG n g) (hg : MG S kr n g) : ∃ S2 s2, X11_burns S 173 kr = some (S2, s2) ∧ Sm (fun a _ => a = 193) S S2 ∧ CoM n s2 (fir w n g 99 n (allB n)).1 ∧ ∀ b, b < (fir w n g 99 n (allB n)).2.length → S2.1 193 b = nI ((fir w n g 99 n (allB n)).2.getD b 0) := by
  have hn := hi.1
  have hc := cnt_allB hn
  obtain ⟨S2, s2, t1, t2, t3, t4⟩ := burns_7_ok hr hi hb (fun (S38 : St) (v39 : Int32) (v40 : Int32) (v41 : Int32) => some (S38, v39)) FU n n 0 0 S 0 (allB n) (by unfold FU; omega) (by omega) (by omega) (by omega) (fun b hb2 => by rw [b_0, b_all n (by omega) b hb2]; simp) (fun q h3 => absurd h3 (by omega)) h hg
  rw [nI_0] at t1
  refine ⟨S2, s2, ?_, t2.mo (by intro a b z; omega), t3, fun b hb2 => by have := t4 b hb2; rw [Nat.zero_add] at this; exact this⟩
  unfold X11_burns
  rw [t1]
theorem CoM_sub {s u : Int32} (hn : n ≤ 12) (hs : CoM n s u) (hu : ∀ b, b < 32 → bt u b = true → b < n) : allB n - s = u := by
  rw [mask_sub hn (fun i hi hb => by
    rw [hs i hi, Bool.and_eq_true] at hb
    exact of_decide_eq_true hb.1)]
  apply b_ext
  intro i hi
  rw [b_xor, b_all n (by omega) i hi, hs i hi]
  cases hd : decide (i < n) with
  | true => cases bt u i <;> rfl
  | false =>
    cases hb : bt u i with
    | false => rfl
    | true => exact absurd (hu i hi hb) (of_decide_eq_false hd)
theorem burn_51_ok {s : Int32} (K : St → Int32 → Option (St × Int32)) (hn : n ≤ 12) : ∀ (j m i a : Nat) (S : St), i + j = n → j < m → S.1 173 0 = nI n → S.1 173 13 = nI a → ∃ S2, X11_burn_51 173 s K m S (nI i) = K S2 (nI n) ∧ Sm (fun k q => k = 173 ∧ q = 13) S S2 ∧ S2.1 173 13 = nI (a + cntB (bt s) j i)
  | 0, 0, _, _, _, _, h, _, _ => absurd h (by omega)
  | j + 1, 0, _, _, _, _, h, _, _ => absurd h (by omega)
  | 0, m + 1, i, a, S, hij, _, h0, h1 => by
    refine ⟨S, ?_, Sm.rf, h1⟩
    rw [show i = n by omega, X11_burn_51, if_pos (by rw [h0]; exact Int32.le_refl _)]
  | j + 1, m + 1, i, a, S, hij, hm, h0, h1 => by
    have e1 : nI i + (1 : Int32) = nI (i + 1) := nI_1 i
    have e2 : (s >>> (nI i &&& 31)) &&& (1 : Int32) = nI (if bt s i = true then 1 else 0) := by
      cases hb : bt s i with
      | true => exact (b_tst1 (show i < 32 by omega)).mpr hb
      | false => exact (b_tst0 (show i < 32 by omega)).mpr hb
    have hs := sm_I S 173 13 (nI (a + (if bt s i = true then 1 else 0)))
    obtain ⟨S2, q1, q2, q3⟩ := burn_51_ok K hn j m (i + 1) (a + (if bt s i = true then 1 else 0)) (setI S 173 13 (nI (a + (if bt s i = true then 1 else 0)))) (by omega) (by omega) (by rw [sI_n (by omega)]; exact h0) (sI_s _ _ _ _)
    refine ⟨S2, ?_, (hs.tr q2).mo (by intro k q z; omega), ?_⟩
    · rw [X11_burn_51, if_neg (by rw [h0]; exact nI_ge (by omega) (by omega)), h1, e2, nI_add, lt_e, lt_e, e1]
      exact q1
    · rw [q3, cntB, Nat.add_assoc]
end
section
variable {S : St} {c : Nat}
theorem op_burn (h : RelX S c) : Ok S c (fun S => X10_burn S 0) (fun S => X11_burn S 173) := by
  obtain ⟨n, kd, w, bg, g, mn, hR⟩ := h
  have hR0 := hR
  obtain ⟨⟨a1, a2, a3, a4, a5, a6⟩, ⟨b1', b2, b3, b4⟩, ⟨c1, c2, c3, c4⟩, d1, d2⟩ := hR0
  have hn := a3.1
  have nN := nT (show n < 2147483648 by omega)
  have has := has_ok a1.1 hn
  have ha0 := a1.1
  have cb := b1'.1
  have hb : BG n g := B1.b b2.2.2.1
  have cle := cnt_le (P := due w g) (j := n) (i := 0)
  cases bg with
  | false =>
    refine Ok.fd hR (v := -8) ?_ ?_
    · show X10_burn S 0 = _
      simp only [X10_burn, lt_x, cb, bi_f, if_true, found_c, bd_x]
    · intro S1 q
      have m2 := a2.gs q (by intro k j hk hq; omega)
      have isp := isPlace_ok m2.1 hn
      have mz := m2.1
      have mb : S1.1 173 3 = bi _ := (q.i (by omega)).trans b1'.2.1
      show X11_burn S1 173 = _
      simp only [X11_burn, lt_x, mb, bi_f, if_true, found_m, bd_x]
  | true =>
    have st := stands_ok (Or.inl rfl) a1 a3 b2.1 hb
    have dz : (nI (cntB (due w g) n 0) ≤ 0) ↔ fstB (due w g) n 0 = none := by
      rw [le32, lits.1, nT (by omega), ← cnt_0]
      omega
    by_cases q1 : fstB (due w g) n 0 = none
    · by_cases q2 : two w n = true
      · obtain ⟨Sx, x1, x2, x3, x4, x5⟩ := light_ok (hd := 99) (v3 := -1) (Or.inl rfl) (Or.inl rfl) a1 a3 hb (fun p hp => by rw [eq32, nT (by omega), show (-1 : Int32).toInt = -1 by decide]; omega) b2.1
        have q : CT S Sx := x2.mo (by intro k j hk; omega)
        have hcl := fir_cnt (w := w) (g := g) (hd := 99) hn n (allB n)
        rw [cnt_allB hn] at hcl
        have hui : ∀ b, b < 32 → bt (fir w n g 99 n (allB n)).1 b = true → b < n := fun b hb2 h2 => by
          have := fir_in hn n (allB n) b hb2 h2
          rw [b_all n (by omega) b hb2] at this
          exact of_decide_eq_true this
        generalize hF : fir w n g 99 n (allB n) = F at *
        have a2x := a2.gs q (by intro k j hk hq; omega)
        obtain ⟨Sy, s, y1, y2, y3, y4⟩ := burns_ok (Or.inl rfl) a2x a3 hb (q.mg b2)
        rw [hF] at y3 y4
        have a2y := a2x.gs y2 (by intro k j hk hq; omega)
        obtain ⟨Sz, z1, z2, z3⟩ := burn_51_ok (s := s) (fun (S35 : St) (v36 : Int32) => X11_burn_81 173 s (fun (S41 : St) (v42 : Int32) => lt (setI S41 173 14 ((((1 : Int32) <<< ((S41.1 173 0) &&& 31)) - (1 : Int32)) - s)) fun S43 => if ¬ (S43.1 173 14) = 0 then (some (S43, (0 : Int32))) else (some (S43, (1 : Int32)))) FU S35 (0 : Int32)) hn n FU 0 0 (setI Sy 173 13 0) (by omega) (by unfold FU; omega) (by rw [sI_n (by omega)]; exact a2y.1) (sI_s _ _ _ _)
        have hcs : cntB (bt s) n 0 = F.2.length := by
          have h1 : cntB (bt s) n 0 + cntB (bt F.1) n 0 = n := by
            have key : ∀ j i, i + j ≤ n → cntB (bt s) j i + cntB (bt F.1) j i = j := by
              intro j
              induction j with
              | zero => intro i _; rfl
              | succ j ih =>
                intro i hi
                rw [cntB, cntB]
                have := ih (i + 1) (by omega)
                have e := y3 i (by omega)
                rw [decide_eq_true (show i < n by omega), Bool.true_and] at e
                rw [e]
                cases bt F.1 i <;> simp <;> omega
            exact key n 0 (by omega)
          omega
        rw [hcs, Nat.zero_add] at z3
        obtain ⟨Sw, w1, w2, w3⟩ := burn_81_ok (show F.2.length ≤ 12 by omega) s F.2.length FU 0 Sz (by omega) (by unfold FU; omega) z3
        rw [nI_0] at z1 w1
        have hs2 := (((y2.tr (sm_I Sy 173 13 0)).tr z2).tr w2)
        have hs3 := hs2.tr (sm_I Sw 173 14 F.1)
        have hss := x2.tr hs3
        have ew : Sw.1 173 0 = nI n := by rw [(hs2 _ _ (fun z => by omega)).1]; exact a2x.1
        have eU : allB n - s = F.1 := CoM_sub hn y3 hui
        refine ⟨Sx, setI Sw 173 14 F.1, b1 (F.1 = 0), ?_, ?_, ?_⟩
        · show X10_burn S 0 = _
          simp only [X10_burn, lt_x, cb, bi_t, i10, if_false, rfs, st, bd_x, ite_b1n, if_pos q1, isTwoWay_ok a1 a3, if_pos q2, x1, x4]
          unfold b1
          (repeat' split) <;> first | rfl | contradiction | (exfalso; omega)
        · show X11_burn Sx 173 = _
          have m2 := a2x
          have mb : Sx.1 173 3 = bi true := (q.i (by omega)).trans b1'.2.1
          simp only [X11_burn, lt_x, mb, bi_t, i10, if_false, dueMany_ok m2 a3 (q.mg b2) hb, bd_x, if_pos (dz.mpr q1), isTwoWayM_ok m2 a3, ite_b1n, if_pos q2, show rf 173 4 = 176 by decide +kernel, y1]
          simp only [lt_x] at z1
          rw [z1, w1, ew, all_is n (by omega), eU, sI_s]
          unfold b1
          (repeat' split) <;> first | rfl | contradiction | (exfalso; omega)
        · refine (Rel.re hR hss (by intro k j hk hq; omega) (by intro k j hk hq; omega) a6 (Or.inl (by intro k j hk hq; omega)) (Or.inl ⟨rfl, by intro k j hk hq; omega⟩) (Or.inl (by intro k j hk hq; omega)) (Or.inl ⟨rfl, by intro k j hk hq; omega⟩) (Or.inl ⟨rfl, by intro k j hk hq; omega⟩) (Or.inr ⟨F.2.length, by omega, ?_, ?_, ?_, fun i hi => ?_⟩) (Or.inl (by intro k j hk hq; omega)) (Or.inl (by intro k j hk hq; omega)) (Or.inl (by intro k j hk hq; omega)) (Or.inl (by intro k j hk hq; omega))).x
          · rw [(hs3 _ _ (fun z => by omega)).1]; exact x3
          · rw [sI_n (by omega), (w2 _ _ (fun z => by omega)).1]; exact z3
          · rw [(hs3 _ _ (fun z => by omega)).1, x4, sI_s]
          · rw [(hs3 _ _ (fun z => by omega)).1, x5 i hi, sI_n (by omega), w3 i (by omega) hi, (z2 _ _ (fun z => by omega)).1, sI_n (by omega), y4 i hi]
      · refine Ok.fd hR (v := -12) ?_ ?_
        · show X10_burn S 0 = _
          simp only [X10_burn, lt_x, cb, bi_t, i10, if_false, rfs, st, bd_x, ite_b1n, if_pos q1, isTwoWay_ok a1 a3, if_neg q2, found_c]
        · intro S1 q
          have m2 := a2.gs q (by intro k j hk hq; omega)
          have isp := isPlace_ok m2.1 hn
          have mz := m2.1
          have mb : S1.1 173 3 = bi _ := (q.i (by omega)).trans b1'.2.1
          show X11_burn S1 173 = _
          simp only [X11_burn, lt_x, mb, bi_t, i10, if_false, dueMany_ok m2 a3 (q.mg b2) hb, bd_x, if_pos (dz.mpr q1), isTwoWayM_ok m2 a3, ite_b1n, if_neg q2, found_m]
    · refine Ok.fd hR (v := -8) ?_ ?_
      · show X10_burn S 0 = _
        simp only [X10_burn, lt_x, cb, bi_t, i10, if_false, rfs, st, bd_x, ite_b1n, if_neg q1, found_c]
      · intro S1 q
        have m2 := a2.gs q (by intro k j hk hq; omega)
        have isp := isPlace_ok m2.1 hn
        have mz := m2.1
        have mb : S1.1 173 3 = bi _ := (q.i (by omega)).trans b1'.2.1
        show X11_burn S1 173 = _
        simp only [X11_burn, lt_x, mb, bi_t, i10, if_false, dueMany_ok m2 a3 (q.mg b2) hb, bd_x, if_neg (fun z => q1 (dz.mp z)), found_m]
end
