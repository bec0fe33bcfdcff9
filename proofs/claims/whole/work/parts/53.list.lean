/-! list -/
def gl (l : List (Nat → Nat)) (i : Nat) : Nat → Nat := l.getD i (fun _ => 0)
section
variable {n : Nat} {kd : Nat → Nat} {w : Nat → Nat → Nat}
theorem mnl_le2 (hi : ISl n kd w) {r : Nat → Nat} {a : Nat} (ha : a < 12) : mnl w n r a ≤ 5000 := wtp_le hi ha _
theorem lea_le (hi : ISl n kd w) : ∀ (j a : Nat) (r : Nat → Nat), a + j ≤ 12 → (∀ p, p < n → r p ≤ 5000) → ∀ p, p < n → lea w n j a r p ≤ 5000
  | 0, _, _, _, h => h
  | j + 1, a, r, hja, h => by
    rw [lea]
    refine lea_le hi j (a + 1) _ (by omega) (fun p hp => ?_)
    unfold upR
    split
    · exact mnl_le2 hi (by omega)
    · exact h p hp
theorem mxr_le (hi : ISl n kd w) {r : Nat → Nat} {a : Nat} (h : ∀ p, p < n → r p ≤ 5000) : BG n (mxr w r a) := fun p hp => by
  have hl := hi.ld_le (show p < 12 by have := hi.1; omega)
  have := h p hp
  unfold mxr
  split <;> omega
theorem least_32_ok (hi : ISl n kd w) (K : St → Int32 → Option (St × Unit)) : ∀ (j m a : Nat) (S : St) (r : Nat → Nat), a + j = n → j < m → CSl S n kd w → (∀ p, p < n → S.1 135 p = nI (mxr w r a p)) → (∀ p, p < n → r p ≤ 5000) → ∃ S2, X6_leastFrom_32 132 1 K m S (nI a) = K S2 (nI n) ∧ Sm (fun k _ => 133 ≤ k ∧ k ≤ 135) S S2 ∧ ∀ p, p < n → S2.1 135 p = nI (lea w n j a r p)
  | 0, 0, _, _, _, _, h, _, _, _ => absurd h (by omega)
  | j + 1, 0, _, _, _, _, h, _, _, _ => absurd h (by omega)
  | 0, m + 1, a, S, r, haj, _, h, hr, hb => by
    refine ⟨S, ?_, Sm.rf, fun p hp => ?_⟩
    · rw [show a = n by omega, X6_leastFrom_32, if_pos (by rw [h.1]; exact Int32.le_refl _)]
    · rw [hr p hp]
      unfold mxr
      rw [if_neg (by omega)]
      rfl
  | j + 1, m + 1, a, S, r, haj, hm, h, hr, hb => by
    have hn := hi.1
    have e1 : nI a + (1 : Int32) = nI (a + 1) := nI_1 a
    obtain ⟨Sa, l1, l2, l3, l4, l5⟩ := light_ok (S := S) (hd := a) (v3 := nI a) (Or.inr rfl) (Or.inr rfl) h hi (mxr_le hi hb) (fun p hp => nI_eq (by omega) (by omega)) hr
    have ha := h.gs l2 (by intro a b ha hq; omega)
    have hwt : X7_weightToPlaces Sa 1 (nI a) (Sa.1 133 2) = some (Sa, nI (mnl w n r a)) := by
      rw [l4, weightToPlaces_ok ha hi (show a < 12 by omega)]
      rfl
    have hs := l2.tr (sm_I Sa 135 a (nI (mnl w n r a)))
    obtain ⟨S2, q1, q2, q3⟩ := least_32_ok hi K j m (a + 1) (setI Sa 135 a (nI (mnl w n r a))) (upR r a (mnl w n r a)) (by omega) (by omega) (h.gs hs (by intro a b ha hq; omega)) (fun p hp => by
      by_cases z : p = a
      · rw [z, sI_s, mxr_at]
      · rw [sI_n (by omega), (l2 _ _ (fun y => by omega)).1, hr p hp, mxr_up r a _ p z]) (fun p hp => by
      unfold upR
      split
      · exact mnl_le2 hi (by omega)
      · exact hb p hp)
    refine ⟨S2, ?_, (hs.tr q2).mo (by intro a b z; omega), fun p hp => by rw [q3 p hp, lea]⟩
    rw [X6_leastFrom_32, if_neg (by rw [h.1]; exact nI_ge (by omega) (by omega)), show rf 132 0 = 133 by decide +kernel, show rf 132 1 = 135 by decide +kernel, l1, bd_x, hwt, bd_x, ck_n (show a < 12 by omega) (by omega), ix_n (by omega), lt_x, lt_x, e1]
    exact q1
theorem least_ok {S : St} (h : CSl S n kd w) (hi : ISl n kd w) (hld : ∀ p, p < n → 0 < ld w p) {x : Nat → Nat} {a : Nat} (ha : a ≤ n) (hx : ∀ p, p < a → S.1 135 p = nI (x p)) (hb : ∀ p, p < n → x p ≤ 5000) : ∃ S2, X6_leastFrom S 132 1 (nI a) = some (S2, ()) ∧ Sm (fun k _ => 133 ≤ k ∧ k ≤ 135) S S2 ∧ ∀ p, p < n → S2.1 135 p = nI (lea w n (n - a) a x p) := by
  have hn := hi.1
  obtain ⟨Sa, p1, p2, p3⟩ := least_2_ok hn (nI a) (n - a) FU a S (by omega) (by unfold FU; omega) h.1
  have hs := p2.mo (U := fun k _ => 133 ≤ k ∧ k ≤ 135) (by intro a b z; omega)
  obtain ⟨S2, q1, q2, q3⟩ := least_32_ok hi (fun (S36 : St) (v37 : Int32) => some (S36, ())) (n - a) FU a Sa x (by omega) (by unfold FU; omega) (h.gs p2 (by intro a b ha hq; omega)) (fun p hp => by
    by_cases z : a ≤ p
    · have hl := hld p hp
      rw [p3 p z hp, h.2.2.2 p (by omega), ld_is, show (1 : Int32) = nI 1 from rfl, pk_sub hl]
      unfold mxr
      rw [if_pos z]
    · rw [(p2 _ _ (fun y => by omega)).1, hx p (by omega)]
      unfold mxr
      rw [if_neg z]) hb
  refine ⟨S2, ?_, (hs.tr q2).mo (by intro a b z; omega), q3⟩
  unfold X6_leastFrom
  rw [p1, q1]
theorem step_7_ok {S : St} (h : CSl S n kd w) (hi : ISl n kd w) (hld : ∀ p, p < n → 0 < ld w p) {x : Nat → Nat} (hx : ∀ p, p < n → S.1 135 p = nI (x p)) (hb : ∀ p, p < n → x p ≤ 5000) : ∀ (k m : Nat), k ≤ n → k < m → (hib (les w x) k = none → X6_stepOn_7 132 1 (fun (S28 : St) (v29 : Int32) => some (S28, (0 : Int32))) m S (nI k - 1) = some (S, 0)) ∧ ∀ b, hib (les w x) k = some b → ∃ S2, X6_stepOn_7 132 1 (fun (S28 : St) (v29 : Int32) => some (S28, (0 : Int32))) m S (nI k - 1) = some (S2, 1) ∧ Sm (fun k _ => 133 ≤ k ∧ k ≤ 135) S S2 ∧ ∀ p, p < n → S2.1 135 p = nI (lea w n (n - (b + 1)) (b + 1) (upR x b (x b + 1)) p)
  | 0, 0, _, h => absurd h (by omega)
  | k + 1, 0, _, h => absurd h (by omega)
  | 0, m + 1, _, _ => by
    refine ⟨fun _ => ?_, fun b hb => by cases hb⟩
    rw [show nI 0 - 1 = (-1 : Int32) by decide, X6_stepOn_7, if_pos (by decide)]
  | k + 1, m + 1, hk, hm => by
    have hn := hi.1
    have hl := hld k (by omega)
    have hl2 := hi.ld_le (show k < 12 by omega)
    have hxk := hb k (by omega)
    have ih := step_7_ok h hi hld hx hb k m (by omega) (by omega)
    have e1 : nI k + (1 : Int32) = nI (k + 1) := nI_1 k
    have e2 : nI (x k) + (1 : Int32) = nI (x k + 1) := nI_1 _
    rw [nI_pred, X6_stepOn_7, if_neg (nI_pos (by omega)), ck_n (show k < 12 by omega) (by omega), ck_n (show k < 12 by omega) (by omega), ck_n (show k < 12 by omega) (by omega), ck_n (show k < 12 by omega) (by omega), show rf 1 2 = 16 by decide +kernel, show rf 132 1 = 135 by decide +kernel, ix_n (by omega), h.2.2.2 k (by omega), ld_is, hx k (by omega), show nI (ld w k) - 1 = nI (ld w k - 1) from pk_sub (b := 1) hl, lt_x, lt_x, i_m1, e2, e1, hib]
    by_cases z : les w x k = true
    · have z2 : x k < ld w k - 1 := of_decide_eq_true z
      rw [if_neg (nI_ge z2 (by omega)), if_pos z]
      have hs := sm_I S 135 k (nI (x k + 1))
      obtain ⟨S2, q1, q2, q3⟩ := least_ok (S := setI S 135 k (nI (x k + 1))) (h.gs hs (by intro a b ha hq; omega)) hi hld (x := upR x k (x k + 1)) (show k + 1 ≤ n by omega) (fun p hp => by
        unfold upR
        by_cases y : p = k
        · rw [y, sI_s, if_pos rfl]
        · rw [sI_n (by omega), if_neg y]; exact hx p (by omega)) (fun p hp => by
        unfold upR
        split
        · omega
        · exact hb p hp)
      refine ⟨fun y => (by cases y), fun b hb2 => ?_⟩
      cases hb2
      refine ⟨S2, ?_, (hs.tr q2).mo (by intro a b z; omega), q3⟩
      rw [q1, bd_x]
    · have z2 : ¬ x k < ld w k - 1 := fun y => z (decide_eq_true y)
      rw [if_pos (nI_le (by omega) (by omega)), if_neg z]
      exact ih
theorem stepOn_ok {S : St} (h : CSl S n kd w) (hi : ISl n kd w) (hld : ∀ p, p < n → 0 < ld w p) {x : Nat → Nat} (hx : ∀ p, p < n → S.1 135 p = nI (x p)) (hb : ∀ p, p < n → x p ≤ 5000) : (stA w n 0 x = none → X6_stepOn S 132 1 = some (S, 0)) ∧ ∀ z, stA w n 0 x = some z → ∃ S2, X6_stepOn S 132 1 = some (S2, 1) ∧ Sm (fun k _ => 133 ≤ k ∧ k ≤ 135) S S2 ∧ (∀ p, p < n → S2.1 135 p = nI (z p)) ∧ ∀ p, p < n → z p ≤ 5000 := by
  have hn := hi.1
  have key := step_7_ok h hi hld hx hb n FU (by omega) (by unfold FU; omega)
  have e0 : X6_stepOn S 132 1 = X6_stepOn_7 132 1 (fun (S28 : St) (v29 : Int32) => some (S28, (0 : Int32))) FU S (nI n - 1) := by
    unfold X6_stepOn
    rw [lt_x, h.1]
  rw [e0]
  unfold stA
  cases hh : hib (les w x) n with
  | none => exact ⟨fun _ => key.1 hh, fun z hz => by cases hz⟩
  | some b =>
    have hbn := (hib_ok hh).1
    have hbl : x b < ld w b - 1 := of_decide_eq_true (hib_ok hh).2.1
    have hl2 := hi.ld_le (show b < 12 by omega)
    refine ⟨fun y => (by simp only [if_pos (Nat.zero_le b)] at y; cases y), fun z hz => ?_⟩
    simp only [if_pos (Nat.zero_le b)] at hz
    cases hz
    obtain ⟨S2, q1, q2, q3⟩ := key.2 b hh
    exact ⟨S2, q1, q2, q3, lea_le hi _ _ _ (by omega) (fun p hp => by
      unfold upR
      split
      · omega
      · exact hb p hp)⟩
theorem gather_8_ok (hi : ISl n kd w) (hld : ∀ p, p < n → 0 < ld w p) : ∀ (t : List (Nat → Nat)) (m i : Nat) (S : St) (x e : Nat → Nat), i ≤ 200 → 200 < m + i → CSl S n kd w → (∀ p, p < n → S.1 135 p = nI (x p)) → (∀ p, p < n → x p ≤ 5000) → Chx w n 0 x t e → stA w n 0 e = none → (i + t.length + 1 ≤ 200 → ∃ S2, X6_gather_8 132 1 (fun (S29 : St) (v30 : Int32) => some (S29, (0 : Int32))) m S (nI i) = some (S2, 1) ∧ Sm (fun k j => (133 ≤ k ∧ k ≤ 135) ∨ (k = 136 ∧ 12 * i ≤ j) ∨ (k = 132 ∧ j = 3)) S S2 ∧ S2.1 132 3 = nI (i + t.length + 1) ∧ ∀ s p, s < t.length + 1 → p < n → S2.1 136 (12 * (i + s) + p) = nI (gl (x :: t) s p)) ∧ (200 < i + t.length + 1 → ∃ S2, X6_gather_8 132 1 (fun (S29 : St) (v30 : Int32) => some (S29, (0 : Int32))) m S (nI i) = some (S2, 0) ∧ Sm (fun k _ => 133 ≤ k ∧ k ≤ 136) S S2) := by
  intro t m
  induction m generalizing t with
  | zero => intro i S x e h1 h2; exact absurd h2 (by omega)
  | succ m ih =>
    intro i S x e hi200 hm h hx hb hc he
    have hn := hi.1
    by_cases hz : i = 200
    · refine ⟨fun y => absurd y (by omega), fun _ => ⟨S, ?_, Sm.rf⟩⟩
      rw [hz, X6_gather_8, if_pos (by decide)]
    · have e1 : nI i + (1 : Int32) = nI (i + 1) := nI_1 i
      have e12 : nI i * (12 : Int32) = nI (12 * i) := by rw [show (12 : Int32) = nI 12 from rfl, pk_mul, Nat.mul_comm]
      have hsa := sm_R S 136 (va_cpy (S.1 135) (S.1 136) 0 (12 * i) 12)
      have hsa2 : Sm (fun k j => k = 136 ∧ 12 * i ≤ j ∧ j < 12 * i + 12) S (setR S 136 (va_cpy (S.1 135) (S.1 136) 0 (12 * i) 12)) := fun k j hk => by
        refine ⟨?_, rfl⟩
        by_cases y : k = 136
        · rw [y, sR_s, pk_cpy_out (by omega)]
        · rw [sR_n y]
      have hrow : ∀ p, p < n → (setR S 136 (va_cpy (S.1 135) (S.1 136) 0 (12 * i) 12)).1 136 (12 * i + p) = nI (x p) := fun p hp => by
        rw [sR_s, pk_cpy_in (by omega) (by omega), show 0 + (12 * i + p - 12 * i) = p by omega]; exact hx p hp
      have eU : ∀ K, X6_gather_8 132 1 K (m + 1) S (nI i) = bd (X6_stepOn (setR S 136 (va_cpy (S.1 135) (S.1 136) 0 (12 * i) 12)) 132 1) fun S25 v26 => if ¬ v26 = 0 then X6_gather_8 132 1 K m S25 (nI (i + 1)) else some (setI S25 132 3 (nI (i + 1)), (1 : Int32)) := fun K => by
        rw [X6_gather_8, if_neg (by rw [show (200 : Int32) = nI 200 from rfl]; exact nI_ge (by omega) (by omega)), e12, gu_t (show cpOk 0 (nI (12 * i)) 12 12 2400 from ⟨by decide, nI_pos (by omega), by decide, by decide, by rw [ix_n (by omega), ix12]; omega⟩), lt_x, show rf 132 2 = 136 by decide +kernel, show rf 132 1 = 135 by decide +kernel, ix0, ix12, ix_n (by omega)]
        simp only [lt_x, e1]
      rw [eU]
      have hs1 := stepOn_ok (h.gs hsa (by intro a b ha hq; omega)) hi hld (x := x) (fun p hp => by rw [sR_n (by omega)]; exact hx p hp) hb
      generalize setR S 136 (va_cpy (S.1 135) (S.1 136) 0 (12 * i) 12) = Sa at hsa hsa2 hrow hs1
      cases t with
      | nil =>
        have hxe : x = e := hc
        rw [← hxe] at he
        rw [hs1.1 he, bd_x, if_neg (fun y => y rfl)]
        refine ⟨fun _ => ⟨setI Sa 132 3 (nI (i + 1)), rfl, (hsa2.tr (sm_I Sa 132 3 _)).mo (by intro a b z; omega), sI_s _ _ _ _, fun s p hs hp => ?_⟩, fun y => absurd y (by simp; omega)⟩
        rw [List.length_nil] at hs
        rw [show s = 0 by omega, Nat.add_zero, sI_n (by omega)]
        exact hrow p hp
      | cons y t =>
        obtain ⟨⟨z, z1, z2⟩, hc2⟩ := hc
        obtain ⟨Sb, s1, s2, s3, s4⟩ := hs1.2 z z1
        rw [s1, bd_x, if_pos (by decide), List.length_cons]
        have hsb := hsa.tr s2
        obtain ⟨k1, k2⟩ := ih t (i + 1) Sb y e (by omega) (by omega) (h.gs hsb (by intro a b ha hq; omega)) (fun p hp => by rw [s3 p hp, z2 p hp]) (fun p hp => by rw [← z2 p hp]; exact s4 p hp) hc2 he
        have hsb2 := hsa2.tr s2
        refine ⟨fun hl => ?_, fun hl => ?_⟩
        · obtain ⟨S2, g1, g2, g3, g4⟩ := k1 (by omega)
          refine ⟨S2, g1, (hsb2.tr g2).mo (by intro a b z; omega), by rw [g3]; congr 1; omega, fun s p hs hp => ?_⟩
          cases s with
          | zero =>
            rw [Nat.add_zero, (g2 _ _ (fun z => by omega)).1, (s2 _ _ (fun z => by omega)).1]
            exact hrow p hp
          | succ s =>
            have := g4 s p (by omega) hp
            rw [show i + 1 + s = i + (s + 1) by omega] at this
            exact this
        · obtain ⟨S2, g1, g2⟩ := k2 (by omega)
          exact ⟨S2, g1, (hsb.tr g2).mo (by intro a b z; omega)⟩
-- ---- the reference
theorem list_181_ok {v1 : Int32} {a : Nat} (hi : ISl n kd w) (hld : ∀ p, p < n → 0 < ld w p) (ha : a < n) : ∀ (j m i : Nat) (S : St), i + j = n → j < m → MSl S n kd w → ∃ S2, (∀ K : St → Int32 → Option (St × Int32), X11_list_181 173 v1 (nI a) K m S (nI i) = K S2 (nI n)) ∧ Sm (fun k b => k = 195 ∧ i ≤ b) S S2 ∧ ∀ e, i ≤ e → e < n → S2.2 195 e = if e ≤ a then S.2 194 e else lN (ld w e - 1)
  | 0, 0, _, _, _, h, _ => absurd h (by omega)
  | j + 1, 0, _, _, _, h, _ => absurd h (by omega)
  | 0, m + 1, i, S, hij, _, h => by
    refine ⟨S, fun K => ?_, Sm.rf, fun e h1 h2 => absurd h2 (by omega)⟩
    rw [show i = n by omega, X11_list_181, if_pos (by rw [h.1]; exact Int32.le_refl _)]
  | j + 1, m + 1, i, S, hij, hm, h => by
    have hn := hi.1
    have hl := hld i (by omega)
    have hl2 := hi.ld_le (show i < 12 by omega)
    have e1 : nI i + (1 : Int32) = nI (i + 1) := nI_1 i
    have lo := load_ok h (show i < 12 by omega)
    rw [ld_is] at lo
    have hs := sm_J S 195 i (if i ≤ a then S.2 194 i else lN (ld w i - 1))
    obtain ⟨S2, q1, q2, q3⟩ := list_181_ok (v1 := v1) hi hld ha j m (i + 1) (setJ S 195 i (if i ≤ a then S.2 194 i else lN (ld w i - 1))) (by omega) (by omega) (h.gs hs (by intro a b ha hq; omega))
    refine ⟨S2, fun K => ?_, (hs.tr q2).mo (by intro a b z; omega), fun e h1 h2 => ?_⟩
    · rw [X11_list_181, if_neg (by rw [h.1]; exact nI_ge (by omega) (by omega)), lt_x]
      by_cases z : i ≤ a
      · rw [if_pos (nI_le z (by omega)), ck_n (show i < 15 by omega) (by omega)]
        dsimp only
        rw [ck_n (show i < 15 by omega) (by omega), lt_x, lt_x, e1, show rf 173 33 = 195 by decide +kernel, show rf 173 32 = 194 by decide +kernel, ix_n (by omega)]
        rw [if_pos z] at q1
        exact q1 K
      · rw [if_neg (nI_ge (by omega) (by omega)), lo, bd_x]
        dsimp only
        rw [ck_n (show i < 15 by omega) (by omega), lt_x, lt_x, e1, show rf 173 33 = 195 by decide +kernel, ix_n (by omega), show nI (ld w i) - 1 = nI (ld w i - 1) from pk_sub (b := 1) hl, nI_l (by omega)]
        rw [if_neg z] at q1
        exact q1 K
    · by_cases he : e = i
      · rw [he, (q2 _ _ (fun z => by omega)).2, sJ_s]
      · rw [q3 e (by omega) h2, sJ_n (by omega)]
theorem com_all {s u : Int32} (hn : n ≤ 12) (hs : CoM n s u) (hu : ∀ b, b < 32 → bt u b = true → b < n) : (s = allB n) ↔ u = 0 := by
  constructor
  · intro h
    have := CoM_sub hn hs hu
    rw [h, Int32.sub_self] at this
    exact this.symm
  · intro h
    apply b_ext
    intro i hi
    rw [hs i hi, h, b_0, b_all n (by omega) i hi]
    simp
theorem try_ok {S : St} {K : St → Int32 → Int32 → Option (St × Int32)} {a v k : Nat} {r : Nat → Nat} (h : MSl S n kd w) (hi : ISl n kd w) (hld : ∀ p, p < n → 0 < ld w p) (ha : a < n) (hv : v < ld w a) (hr : ∀ p, p < a → S.2 194 p = lN (r p)) (hb : ∀ p, p < n → r p ≤ 5000) (hw : S.2 194 a = lN v) : ∃ S2, Sm (fun k' b => k' = 193 ∨ k' = 195 ∨ (k' = 194 ∧ a ≤ b)) S S2 ∧ (∀ p, p < a → S2.2 194 p = lN (r p)) ∧ (brn w n (mxr w (upR r a v) (a + 1)) = true → (∀ m, X11_list_55 173 K (m + 1) S (nI k) (nI a) = X11_list_55 173 K m S2 (nI k) (nI (a + 1))) ∧ S2.2 194 a = lN v ∧ (a + 1 < n → S2.2 194 (a + 1) = lN 0)) ∧ (brn w n (mxr w (upR r a v) (a + 1)) = false → (∀ m, X11_list_55 173 K (m + 1) S (nI k) (nI a) = X11_list_55 173 K m S2 (nI k) (nI a)) ∧ S2.2 194 a = lN (v + 1)) := by
  have hn := hi.1
  have hl2 := hi.ld_le (show a < 12 by omega)
  have hl := hld a ha
  have e1 : nI a + (1 : Int32) = nI (a + 1) := nI_1 a
  have lo := load_ok h (show a < 12 by omega)
  rw [ld_is] at lo
  obtain ⟨Sa, p1, p2, p3⟩ := list_181_ok (v1 := nI k) hi hld ha n FU 0 S (by omega) (by unfold FU; omega) h
  rw [nI_0] at p1
  have ha1 := h.gs p2 (by intro a b ha hq; omega)
  have hub : ∀ p, p < n → upR r a v p ≤ 5000 := fun p hp => by
    unfold upR
    split
    · omega
    · exact hb p hp
  obtain ⟨Sb, s, b1', b2, b3, b4⟩ := burns_ok (g := mxr w (upR r a v) (a + 1)) (Or.inr rfl) ha1 hi (mxr_le hi hub) (fun p hp => by
    rw [p3 p (by omega) hp]
    by_cases z : p ≤ a
    · rw [if_pos z]
      by_cases y : p = a
      · rw [y, mxr_at, hw]
      · rw [hr p (by omega)]
        unfold mxr upR
        rw [if_neg (by omega), if_neg y]
    · rw [if_neg z]
      unfold mxr
      rw [if_pos (by omega)])
  have hiff := com_all hn b3 (fun b hb2 h2 => fir_bits hn b hb2 h2)
  have hsb := p2.tr b2
  have hb1 : Sb.1 173 0 = nI n := (hsb _ _ (fun z => by omega)).1.trans h.1
  have w194 : ∀ p, Sb.2 194 p = S.2 194 p := fun p => (hsb _ _ (fun z => by omega)).2
  have e0 : ∀ m, X11_list_55 173 K (m + 1) S (nI k) (nI a) = if s = allB n then (if nI n ≤ nI (a + 1) then X11_list_55 173 K m Sb (nI k) (nI (a + 1)) else X11_list_55 173 K m (setJ Sb 194 (a + 1) 0) (nI k) (nI (a + 1))) else X11_list_55 173 K m (setJ Sb 194 a (lN (v + 1))) (nI k) (nI a) := by
    intro m
    have hne : ¬ nI a = nI n := fun z => by have := (nI_eq (by omega) (by omega)).mp z; omega
    rw [X11_list_55, if_neg (nI_pos (by omega)), h.1, if_pos hne, ck_n (show a < 15 by omega) (by omega), lo, bd_x, show rf 173 32 = 194 by decide +kernel, ix_n (show a < 2147483648 by omega), hw, show nI (ld w a) - 1 = nI (ld w a - 1) from pk_sub (b := 1) hl, nI_l (show ld w a - 1 < 2 ^ 31 by omega), if_pos ((pk_lLE (by omega) (by omega)).mpr (by omega))]
    rw [p1, show rf 173 33 = 195 by decide +kernel, b1', bd_x, hb1, all_is n (by omega), lt_x, e1, ck_n (show a + 1 < 15 by omega) (by omega), lt_x, ix_n (show a + 1 < 2147483648 by omega), ck_n (show a < 15 by omega) (by omega), ck_n (show a < 15 by omega) (by omega), lt_x, w194, hw, lN_1]
  have hbrn : (brn w n (mxr w (upR r a v) (a + 1)) = true) ↔ s = allB n := by
    rw [hiff]
    unfold brn
    rw [decide_eq_true_eq]
  cases hq : brn w n (mxr w (upR r a v) (a + 1)) with
  | true =>
    have e0 : ∀ m, _ := fun m => (e0 m).trans (if_pos (hbrn.mp hq))
    by_cases z : a + 1 < n
    · have e0 : ∀ m, _ := fun m => (e0 m).trans (if_neg (nI_ge z (by omega)))
      refine ⟨setJ Sb 194 (a + 1) 0, (hsb.tr (sm_J Sb 194 (a + 1) 0)).mo (by intro x y z; omega), fun p hp => by rw [sJ_n (by omega), w194]; exact hr p hp, fun _ => ⟨e0, by rw [sJ_n (by omega), w194]; exact hw, fun _ => by rw [sJ_s]; rfl⟩, fun y => (by cases y)⟩
    · have e0 : ∀ m, _ := fun m => (e0 m).trans (if_pos (nI_le (by omega) (by omega)))
      exact ⟨Sb, hsb.mo (by intro x y z; omega), fun p hp => by rw [w194]; exact hr p hp, fun _ => ⟨e0, by rw [w194]; exact hw, fun y => absurd y z⟩, fun y => (by cases y)⟩
  | false =>
    have e0 : ∀ m, _ := fun m => (e0 m).trans (if_neg (fun y => by rw [hbrn.mpr y] at hq; cases hq))
    exact ⟨setJ Sb 194 a (lN (v + 1)), (hsb.tr (sm_J Sb 194 a _)).mo (by intro x y z; omega), fun p hp => by rw [sJ_n (by omega), w194]; exact hr p hp, fun y => (by cases y), fun _ => ⟨e0, sJ_s _ _ _ _⟩⟩
theorem over_ok {S : St} {K : St → Int32 → Int32 → Option (St × Int32)} {a k : Nat} {r : Nat → Nat} (h : MSl S n kd w) (hi : ISl n kd w) (hld : ∀ p, p < n → 0 < ld w p) (ha : a < n) (hr : ∀ p, p < a → S.2 194 p = lN (r p)) (hw : S.2 194 a = lN (ld w a)) : ∃ S2, (∀ m, X11_list_55 173 K (m + 1) S (nI k) (nI a) = X11_list_55 173 K m S2 (nI k) (nI a - 1)) ∧ Sm (fun k' b => k' = 194 ∧ a ≤ b + 1) S S2 ∧ (0 < a → S2.2 194 (a - 1) = lN (r (a - 1) + 1)) := by
  have hn := hi.1
  have hl2 := hi.ld_le (show a < 12 by omega)
  have hl := hld a ha
  have lo := load_ok h (show a < 12 by omega)
  rw [ld_is] at lo
  have hne : ¬ nI a = nI n := fun z => by have := (nI_eq (by omega) (by omega)).mp z; omega
  have e0 : ∀ m, X11_list_55 173 K (m + 1) S (nI k) (nI a) = if nI a - 1 < 0 then X11_list_55 173 K m (setJ S 194 a 0) (nI k) (nI a - 1) else ck (nI a - 1) 15 (ck (nI a - 1) 15 (X11_list_55 173 K m (setJ (setJ S 194 a 0) 194 (ix (nI a - 1)) ((setJ S 194 a 0).2 194 (ix (nI a - 1)) + 1)) (nI k) (nI a - 1))) := fun m => by
    rw [X11_list_55, if_neg (nI_pos (by omega)), h.1, if_pos hne, ck_n (show a < 15 by omega) (by omega), lo, bd_x, show rf 173 32 = 194 by decide +kernel, ix_n (show a < 2147483648 by omega), hw, show nI (ld w a) - 1 = nI (ld w a - 1) from pk_sub (b := 1) hl, nI_l (show ld w a - 1 < 2 ^ 31 by omega), if_neg (fun z => by have := (pk_lLE (by omega) (by omega)).mp z; omega), ck_n (show a < 15 by omega) (by omega), lt_x, lt_x, i_m1, lt_x]
  cases a with
  | zero => exact ⟨setJ S 194 0 0, fun m => (e0 m).trans (if_pos (by decide)), (sm_J S 194 0 0).mo (by intro x y z; omega), fun z => absurd z (by omega)⟩
  | succ a =>
    refine ⟨setJ (setJ S 194 (a + 1) 0) 194 a (lN (r a + 1)), fun m => ?_, ((sm_J S 194 (a + 1) 0).tr (sm_J _ 194 a _)).mo (by intro x y z; omega), fun _ => sJ_s _ _ _ _⟩
    rw [e0 m, nI_pred, if_neg (nI_pos (by omega)), ck_n (show a < 15 by omega) (by omega), ck_n (show a < 15 by omega) (by omega), ix_n (show a < 2147483648 by omega), sJ_n (show ¬ (194 = 194 ∧ a = a + 1) by omega), hr a (by omega), lN_1]
theorem leaf_ok {S : St} {K : St → Int32 → Int32 → Option (St × Int32)} {k : Nat} {r : Nat → Nat} (h : MSl S n kd w) (hi : ISl n kd w) (hn0 : 0 < n) (hk : k < 200) (hr : ∀ p, p < n → S.2 194 p = lN (r p)) : ∃ S2, (∀ m, X11_list_55 173 K (m + 1) S (nI k) (nI n) = X11_list_55 173 K m S2 (nI (k + 1)) (nI n - 1)) ∧ Sm (fun k' b => (k' = 194 ∧ n ≤ b + 1) ∨ (k' = 197 ∧ 12 * k ≤ b)) S S2 ∧ S2.2 194 (n - 1) = lN (r (n - 1) + 1) ∧ ∀ p, p < n → S2.1 197 (12 * k + p) = nI (r p) := by
  have hn := hi.1
  have e1 : nI k + (1 : Int32) = nI (k + 1) := nI_1 k
  obtain ⟨Sa, p1, p2, p3⟩ := list_83_ok hn (show k ≤ 200 by omega) (nI n) n FU 0 S (by omega) (by unfold FU; omega) h.1
  rw [nI_0] at p1
  have hne : ¬ nI k = 200 := fun z => by have := (nI_eq (b := 200) (by omega) (by omega)).mp z; omega
  obtain ⟨q, rfl⟩ : ∃ q, n = q + 1 := ⟨n - 1, by omega⟩
  have w194 : ∀ p, Sa.2 194 p = S.2 194 p := fun p => (p2 _ _ (fun z => by omega)).2
  refine ⟨setJ Sa 194 q (lN (r q + 1)), fun m => ?_, (p2.tr (sm_J Sa 194 q _)).mo (by intro x y z; omega), sJ_s _ _ _ _, fun p hp => ?_⟩
  · rw [X11_list_55, if_neg (nI_pos (by omega)), h.1, if_neg (fun z => z rfl), if_pos hne, p1, lt_x, lt_x, e1, i_m1, nI_pred, ck_n (show q < 15 by omega) (by omega), ck_n (show q < 15 by omega) (by omega), lt_x, show rf 173 32 = 194 by decide +kernel, ix_n (show q < 2147483648 by omega), w194, hr q (by omega), lN_1]
  · rw [sJr, p3 p (by omega) hp, hr p hp, lN_i]
/-- one level of the search, and all below it -/
def LvP (w : Nat → Nat → Nat) (n : Nat) (kd : Nat → Nat) (K : St → Int32 → Int32 → Option (St × Int32)) (a k B : Nat) (r : Nat → Nat) (S : St) (s0 : Int32) (l : List (Nat → Nat)) (F : Nat) : Prop :=
  (k + l.length ≤ 200 → ∃ S2 q, q ≤ B * l.length + F ∧ (∀ m, X11_list_55 173 K (m + q) S (nI k) s0 = X11_list_55 173 K m S2 (nI (k + l.length)) (nI a - 1)) ∧ Sm (fun k' b => k' = 193 ∨ k' = 195 ∨ (k' = 194 ∧ a ≤ b + 1) ∨ (k' = 197 ∧ 12 * k ≤ b)) S S2 ∧ (0 < a → S2.2 194 (a - 1) = lN (r (a - 1) + 1)) ∧ ∀ s p, s < l.length → p < n → S2.1 197 (12 * (k + s) + p) = nI (gl l s p)) ∧
  (200 < k + l.length → ∀ m, B * (201 - k) + F ≤ m → ∃ S2, X11_list_55 173 K m S (nI k) s0 = some (setI S2 173 24 (S2.1 173 24 + 1), -10) ∧ Sm (fun k' _ => 193 ≤ k') S S2)
theorem gl_l {s t : List (Nat → Nat)} {i : Nat} (h : i < s.length) : gl (s ++ t) i = gl s i := by
  unfold gl
  simp [List.getD_eq_getElem?_getD, List.getElem?_append_left h]
theorem gl_r {s t : List (Nat → Nat)} {i : Nat} : gl (s ++ t) (s.length + i) = gl t i := by
  unfold gl
  rw [List.getD_eq_getElem?_getD, List.getD_eq_getElem?_getD, List.getElem?_append_right (by omega), show s.length + i - s.length = i by omega]
theorem level_ok {K : St → Int32 → Int32 → Option (St × Int32)} {j a B : Nat} {r : Nat → Nat} (hi : ISl n kd w) (hld : ∀ p, p < n → 0 < ld w p) (haj : a + (j + 1) = n) (hb : ∀ p, p < n → r p ≤ 5000) (hP : ∀ (v k : Nat) (S : St), v < ld w a → brn w n (mxr w (upR r a v) (a + 1)) = true → k ≤ 200 → MSl S n kd w → (∀ p, p < a + 1 → S.2 194 p = lN (upR r a v p)) → (a + 1 < n → S.2 194 (a + 1) = lN 0) → LvP w n kd K (a + 1) k B (upR r a v) S (nI (a + 1)) (rws w n j (a + 1) (upR r a v)) 1) : ∀ (c v k : Nat) (S : St), v + c = ld w a → k ≤ 200 → MSl S n kd w → (∀ p, p < a → S.2 194 p = lN (r p)) → S.2 194 a = lN v → LvP w n kd K a k (B + 1) r S (nI a) (rwv (fun v => rws w n j (a + 1) (upR r a v)) (fun v => brn w n (mxr w (upR r a v) (a + 1))) c v) (c + 1)
  | 0, v, k, S, hvc, hk, h, hr, hw => by
    rw [rwv]
    refine ⟨fun _ => ?_, fun y => absurd y (by simp; omega)⟩
    obtain ⟨S2, q1, q2, q3⟩ := over_ok (K := K) (k := k) h hi hld (show a < n by omega) hr (by rw [hw, show v = ld w a by omega])
    exact ⟨S2, 1, by simp, q1, q2.mo (by intro x y z; omega), q3, fun s p hs => absurd hs (by simp)⟩
  | c + 1, v, k, S, hvc, hk, h, hr, hw => by
    have hn := hi.1
    obtain ⟨S2, t1, t2, t3, t4⟩ := try_ok (K := K) (k := k) h hi hld (show a < n by omega) (show v < ld w a by omega) hr hb hw
    have h2 := h.gs t1 (by intro a b ha hq; omega)
    rw [rwv]
    cases hq : brn w n (mxr w (upR r a v) (a + 1)) with
    | false =>
      rw [cond_false, List.nil_append]
      obtain ⟨g1, g2⟩ := t4 hq
      obtain ⟨i1, i2⟩ := level_ok hi hld haj hb hP c (v + 1) k S2 (by omega) hk h2 t2 g2
      refine ⟨fun hl => ?_, fun hl m hm => ?_⟩
      · obtain ⟨S3, q, j1, j2, j3, j4, j5⟩ := i1 hl
        refine ⟨S3, q + 1, by omega, fun m => by rw [← j2 m, ← g1 (m + q)]; rfl, (t1.tr j3).mo (by intro x y z; omega), j4, j5⟩
      · obtain ⟨m1, rfl⟩ : ∃ m1, m = m1 + 1 := ⟨m - 1, by omega⟩
        obtain ⟨S3, j1, j2⟩ := i2 hl m1 (by omega)
        exact ⟨S3, by rw [g1 m1, j1], (t1.tr j2).mo (by intro x y z; omega)⟩
    | true =>
      rw [cond_true]
      obtain ⟨g1, g2, g3⟩ := t3 hq
      have hL1 := rws_pos hn hld (show (a + 1) + j = n by omega) hq
      obtain ⟨i1, i2⟩ := hP v k S2 (by omega) hq hk h2 (fun p hp => by
        unfold upR
        by_cases z : p = a
        · rw [if_pos z, z]; exact g2
        · rw [if_neg z]; exact t2 p (by omega)) g3
      generalize hl1 : rws w n j (a + 1) (upR r a v) = l1 at hL1 i1 i2
      have ih := fun (k2 : Nat) (S3 : St) => level_ok hi hld haj hb hP c (v + 1) k2 S3 (by omega)
      generalize hl2 : rwv (fun v => rws w n j (a + 1) (upR r a v)) (fun v => brn w n (mxr w (upR r a v) (a + 1))) c (v + 1) = l2 at ih
      have ec : (B + 1) * l1.length = B * l1.length + l1.length := by rw [Nat.add_mul, Nat.one_mul]
      have next : k + l1.length ≤ 200 → ∃ S3 q, q ≤ B * l1.length + 1 ∧ (∀ m, X11_list_55 173 K (m + q + 1) S (nI k) (nI a) = X11_list_55 173 K m S3 (nI (k + l1.length)) (nI a)) ∧ Sm (fun k' b => k' = 193 ∨ k' = 195 ∨ (k' = 194 ∧ a ≤ b) ∨ (k' = 197 ∧ 12 * k ≤ b)) S S3 ∧ (∀ s p, s < l1.length → p < n → S3.1 197 (12 * (k + s) + p) = nI (gl l1 s p)) ∧ LvP w n kd K a (k + l1.length) (B + 1) r S3 (nI a) l2 (c + 1) := by
        intro hle
        obtain ⟨S3, q, j1, j2, j3, j4, j5⟩ := i1 hle
        have hs3 := (t1.tr j3).mo (U := fun k' b => k' = 193 ∨ k' = 195 ∨ (k' = 194 ∧ a ≤ b) ∨ (k' = 197 ∧ 12 * k ≤ b)) (by intro x y z; omega)
        refine ⟨S3, q, j1, fun m => ?_, hs3, j5, ih (k + l1.length) S3 hle (h.gs hs3 (by intro a b ha hq; omega)) (fun p hp => by rw [(hs3 _ _ (fun z => by omega)).2]; exact hr p hp) ?_⟩
        · rw [g1 (m + q), j2 m, nI_pred]
        · have := j4 (by omega)
          rw [show a + 1 - 1 = a by omega] at this
          rw [this]
          unfold upR
          rw [if_pos rfl]
      refine ⟨fun hl => ?_, fun hl m hm => ?_⟩
      · rw [List.length_append] at hl
        obtain ⟨S3, q, j1, j2, j3, j4, j5⟩ := next (by omega)
        obtain ⟨S4, q2, k1, k2, k3, k4, k5⟩ := j5.1 (by omega)
        refine ⟨S4, q2 + q + 1, ?_, fun m => ?_, (j3.tr k3).mo (by intro x y z; omega), k4, fun s p hs hp => ?_⟩
        · rw [List.length_append, Nat.mul_add, ec]
          omega
        · rw [show m + (q2 + q + 1) = m + q2 + q + 1 by omega, j2 (m + q2), k2 m, List.length_append, Nat.add_assoc]
        · rw [List.length_append] at hs
          by_cases z : s < l1.length
          · rw [gl_l z, (k3 _ _ (fun y => by omega)).1]
            exact j4 s p z hp
          · have := k5 (s - l1.length) p (by omega) hp
            rw [show k + l1.length + (s - l1.length) = k + s by omega] at this
            rw [this, show s = l1.length + (s - l1.length) by omega, gl_r, show l1.length + (s - l1.length) - l1.length = s - l1.length by omega]
      · rw [List.length_append] at hl
        rcases Nat.lt_or_ge 200 (k + l1.length) with z | z
        · obtain ⟨m1, rfl⟩ : ∃ m1, m = m1 + 1 := ⟨m - 1, by omega⟩
          have eb : (B + 1) * (201 - k) = B * (201 - k) + (201 - k) := by rw [Nat.add_mul, Nat.one_mul]
          obtain ⟨S3, j1, j2⟩ := i2 z m1 (by omega)
          exact ⟨S3, by rw [g1 m1, j1], (t1.tr j2).mo (by intro x y z; omega)⟩
        · obtain ⟨S3, q, j1, j2, j3, j4, j5⟩ := next z
          have eb : (B + 1) * (201 - k) = (B + 1) * (201 - (k + l1.length)) + (B + 1) * l1.length := by rw [← Nat.mul_add]; congr 1; omega
          obtain ⟨m1, rfl⟩ : ∃ m1, m = m1 + q + 1 := ⟨m - q - 1, by omega⟩
          obtain ⟨S4, k1, k2⟩ := j5.2 (by omega) m1 (by omega)
          exact ⟨S4, by rw [j2 m1, k1], (j3.tr k2).mo (by intro x y z; omega)⟩
theorem search_ok {K : St → Int32 → Int32 → Option (St × Int32)} (hi : ISl n kd w) (hn0 : 0 < n) (hld : ∀ p, p < n → 0 < ld w p) : ∀ (j a k : Nat) (r : Nat → Nat) (S : St), a + j = n → k ≤ 200 → MSl S n kd w → (∀ p, p < n → r p ≤ 5000) → (∀ p, p < a → S.2 194 p = lN (r p)) → (0 < j → S.2 194 a = lN 0) → brn w n (mxr w r a) = true → LvP w n kd K a k (5002 * j) r S (nI a) (rws w n j a r) 1
  | 0, a, k, r, S, haj, hk, h, hb, hr, _, _ => by
    have han : a = n := by omega
    subst han
    rw [rws]
    refine ⟨fun hl => ?_, fun hl m hm => ?_⟩
    · obtain ⟨S2, q1, q2, q3, q4⟩ := leaf_ok (K := K) h hi hn0 (show k < 200 by have h9 : k + 1 ≤ 200 := hl; omega) hr
      refine ⟨S2, 1, by omega, q1, q2.mo (by intro x y z; omega), fun _ => q3, fun s p hs hp => ?_⟩
      have : s = 0 := by simpa using hs
      rw [this, Nat.add_zero]
      exact q4 p hp
    · have hk2 : k = 200 := by have : 200 < k + 1 := hl; omega
      obtain ⟨m1, rfl⟩ : ∃ m1, m = m1 + 1 := ⟨m - 1, by omega⟩
      refine ⟨S, ?_, Sm.rf⟩
      rw [X11_list_55, if_neg (nI_pos (by have := hi.1; omega)), h.1, if_neg (fun z => z rfl), if_neg (fun z => z (by rw [hk2]; rfl)), found_m, bd_x]
  | j + 1, a, k, r, S, haj, hk, h, hb, hr, hw, hbr => by
    have hn := hi.1
    have hl2 := hi.ld_le (show a < 12 by omega)
    have hL := rws_pos hn hld haj hbr
    have key := level_ok (K := K) (B := 5002 * j) hi hld haj hb (fun v k S hv hq hk h hp hz => search_ok hi hn0 hld j (a + 1) k (upR r a v) S (by omega) hk h (fun p hp => by
      unfold upR
      split
      · omega
      · exact hb p hp) hp (fun hj => hz (by omega)) hq) (ld w a) 0 k S (by omega) hk h hr (hw (by omega))
    have e0 : rws w n (j + 1) a r = rwv (fun v => rws w n j (a + 1) (upR r a v)) (fun v => brn w n (mxr w (upR r a v) (a + 1))) (ld w a) 0 := rfl
    rw [← e0] at key
    generalize rws w n (j + 1) a r = l at hL key
    have eA : (5002 * j + 1) * l.length = 5002 * j * l.length + l.length := by rw [Nat.add_mul, Nat.one_mul]
    have eB : 5002 * (j + 1) * l.length = 5002 * j * l.length + 5002 * l.length := by rw [Nat.mul_add, Nat.mul_one, Nat.add_mul]
    have eC : (5002 * j + 1) * (201 - k) = 5002 * j * (201 - k) + (201 - k) := by rw [Nat.add_mul, Nat.one_mul]
    have eD : 5002 * (j + 1) * (201 - k) = 5002 * j * (201 - k) + 5002 * (201 - k) := by rw [Nat.mul_add, Nat.mul_one, Nat.add_mul]
    refine ⟨fun hl => ?_, fun hl m hm => ?_⟩
    · obtain ⟨S2, q, j1, j2⟩ := key.1 hl
      exact ⟨S2, q, by omega, j2⟩
    · exact key.2 hl m (by omega)
theorem hib_no {P : Nat → Bool} : ∀ {k : Nat}, (∀ c, c < k → P c = false) → hib P k = none
  | 0, _ => rfl
  | k + 1, h => by
    rw [hib, h k (by omega), if_neg (by decide)]
    exact hib_no (fun c hc => h c (by omega))
end
section
variable {S : St} {c : Nat}
theorem op_list (h : RelX S c) : Ok S c (fun S => X10_list S 0) (fun S => X11_list S 173) := by
  obtain ⟨n, kd, w, bg, g, mn, hR⟩ := h
  have hR0 := hR
  obtain ⟨⟨a1, a2, a3, a4, a5, a6⟩, ⟨b1', b2, b3, b4⟩, ⟨c1, c2, c3, c4⟩, d1, d2⟩ := hR0
  have hn := a3.1
  have nN := nT (show n < 2147483648 by omega)
  have has := has_ok a1.1 hn
  have ha0 := a1.1
  have cb := b1'.1
  cases bg with
  | false =>
    refine Ok.fd hR (v := -8) ?_ ?_
    · show X10_list S 0 = _
      simp only [X10_list, cb, bi_f, not_true, if_false, found_c, bd_x]
    · intro S1 q
      have m2 := a2.gs q (by intro k j hk hq; omega)
      have isp := isPlace_ok m2.1 hn
      have mz := m2.1
      have mb : S1.1 173 3 = bi _ := (q.i (by omega)).trans b1'.2.1
      show X11_list S1 173 = _
      simp only [X11_list, mb, bi_f, not_true, if_false, found_m, bd_x]
  | true =>
    obtain ⟨hn0, hld, hnl⟩ := a5 rfl
    by_cases q2 : two w n = true
    · have hbr := brn_max (w := w) hn hnl (fun _ => 0)
      obtain ⟨x, t, e, l1, l2, l3, l4, l5⟩ := seg_rws hn hld n 0 (fun _ => 0) (by omega) hbr
      have hen : stA w n 0 e = none := by
        unfold stA
        rw [hib_no (fun b hb => show les w e b = false from decide_eq_false (by rw [l5 b (by omega) hb]; omega))]
      obtain ⟨Sa, p1, p2, p3⟩ := least_ok (x := fun _ => 0) a1 a3 hld (show 0 ≤ n by omega) (fun p hp => absurd hp (by omega)) (fun p hp => by omega)
      rw [nI_0] at p1
      have hxb : ∀ p, p < n → x p ≤ 5000 := fun p hp => by rw [l2 p hp]; exact lea_le a3 n 0 _ (by omega) (fun p hp => by omega) p hp
      obtain ⟨g1, g2⟩ := gather_8_ok a3 hld t FU 0 Sa x e (by omega) (by unfold FU; omega) (a1.gs p2 (by intro a b ha hq; omega)) (fun p hp => by rw [p3 p hp, l2 p hp]; rfl) hxb l3 hen
      rw [nI_0] at g1 g2
      have hlen : (rws w n n 0 (fun _ => 0)).length = t.length + 1 := by rw [l1]; simp
      have cG : ∀ S2 b, X6_gather_8 132 1 (fun (S29 : St) (v30 : Int32) => some (S29, (0 : Int32))) FU Sa 0 = some (S2, b) → X10_list S 0 = if b = 0 then some (setI S2 0 15 (S2.1 0 15 + 1), -10) else some (S2, S2.1 132 3) := fun S2 b hb => by
        have e1 : X6_gather S 132 1 = some (S2, b) := by
          unfold X6_gather
          rw [p1, bd_x]
          exact hb
        simp only [X10_list, cb, bi_t, i10, not_false_iff, if_true, rfs, isTwoWay_ok a1 a3, bd_x, ite_b1n, if_pos q2, e1, found_c]
      have mG : ∀ S1, CT S S1 → ∃ Sb, Sm (fun k b => k = 194) S1 Sb ∧ MSl Sb n kd w ∧ LvP w n kd (fun (S67 : St) (v68 : Int32) (v69 : Int32) => X11_list_278 173 v68 (fun (S74 : St) (v75 : Int32) => lt (setI S74 173 18 v68) fun S76 => some (S76, v68)) FU S67 (0 : Int32)) 0 0 (5002 * n) (fun _ => 0) Sb (nI 0) (rws w n n 0 (fun _ => 0)) 1 ∧ X11_list S1 173 = X11_list_55 173 (fun (S67 : St) (v68 : Int32) (v69 : Int32) => X11_list_278 173 v68 (fun (S74 : St) (v75 : Int32) => lt (setI S74 173 18 v68) fun S76 => some (S76, v68)) FU S67 (0 : Int32)) FU Sb (0 : Int32) (0 : Int32) := by
        intro S1 q
        have m2 := a2.gs q (by intro k j hk hq; omega)
        have isp := isPlace_ok m2.1 hn
        have mz := m2.1
        have mb : S1.1 173 3 = bi _ := (q.i (by omega)).trans b1'.2.1
        obtain ⟨Sb, r1, r2, r3⟩ := list_34_ok hn 0 0 n FU 0 S1 (by omega) (by unfold FU; omega) mz
        rw [nI_0] at r1
        have m2b := m2.gs r2 (by intro a b ha hq; omega)
        refine ⟨Sb, r2.mo (by intro x y z; omega), m2b, search_ok a3 hn0 hld n 0 0 (fun _ => 0) Sb (by omega) (by omega) m2b (fun p hp => by omega) (fun p hp => absurd hp (by omega)) (fun _ => by rw [r3 0 (by omega) hn0]; rfl) hbr, ?_⟩
        simp only [X11_list, mb, bi_t, i10, not_false_iff, if_true, isTwoWayM_ok m2 a3, bd_x, ite_b1n, if_pos q2]
        rw [r1]
      have hnB : 5002 * n ≤ 60024 := by omega
      rcases Nat.lt_or_ge 200 (t.length + 1) with z | z
      · obtain ⟨Sx, x1, x2⟩ := g2 (by omega)
        have hs1 := (p2.tr x2).tr (sm_I Sx 0 15 (Sx.1 0 15 + 1))
        have q : CT S (setI Sx 0 15 (Sx.1 0 15 + 1)) := hs1.mo (by intro k j hk; omega)
        obtain ⟨Sb, b1, b2', b3', b4'⟩ := mG _ q
        obtain ⟨Sy, y1, y2⟩ := b3'.2 (by rw [hlen]; omega) FU (by
          have : 5002 * n * (201 - 0) ≤ 60024 * 201 := Nat.mul_le_mul hnB (by omega)
          unfold FU; omega)
        rw [nI_0] at y1
        have hss := ((hs1.tr b1).tr y2).tr (sm_I Sy 173 24 (Sy.1 173 24 + 1))
        have hs2 := b1.tr y2
        refine ⟨setI Sx 0 15 (Sx.1 0 15 + 1), setI Sy 173 24 (Sy.1 173 24 + 1), -10, ?_, ?_, ?_⟩
        · exact (cG Sx 0 x1).trans (if_pos rfl)
        · exact b4'.trans y1
        · have hr0 : RRost (setI Sy 173 24 (Sy.1 173 24 + 1)) n w true := by
            obtain ⟨r, y1, y2, y3, y4, y5⟩ := c4
            have hr : r = 0 := by
              rcases Nat.eq_zero_or_pos r with e | e
              · exact e
              · have := (y4 e).2
                unfold LOK at this
                rw [hlen] at this
                omega
            refine ⟨r, y1, ?_, ?_, y4, fun i p hi => absurd hi (by omega)⟩
            · rw [(hss _ _ (fun z => by omega)).1]; exact y2
            · rw [(hss _ _ (fun z => by omega)).1]; exact y3
          refine (Rel.re hR hss (by intro k j hk hq; omega) (by intro k j hk hq; omega) a6 (Or.inr ⟨?_, ?_, ?_, ?_⟩) (Or.inl ⟨rfl, by intro k j hk hq; omega⟩) (Or.inl (by intro k j hk hq; omega)) (Or.inl ⟨rfl, by intro k j hk hq; omega⟩) (Or.inl ⟨rfl, by intro k j hk hq; omega⟩) (Or.inl (by intro k j hk hq; omega)) (Or.inl (by intro k j hk hq; omega)) (Or.inr hr0) (Or.inl (by intro k j hk hq; omega)) (Or.inl (by intro k j hk hq; omega))).x
          · rw [(hss 0 13 (fun z => by omega)).1]; exact b1'.1
          · rw [(hss 173 3 (fun z => by omega)).1]; exact b1'.2.1
          · rw [(hss 0 14 (fun z => by omega)).1, (hss 173 7 (fun z => by omega)).1]; exact b1'.2.2.1
          · rw [sI_s, sI_n (by omega), (hs2 _ _ (fun z => by omega)).1, sI_s, (hs2 _ _ (fun z => by omega)).1, q.i (by omega), ((p2.tr x2) _ _ (fun z => by omega)).1, b1'.2.2.2]
      · obtain ⟨Sx, x1, x2, x3, x4⟩ := g1 (by omega)
        have hs1 := p2.tr x2
        have q : CT S Sx := hs1.mo (by intro k j hk; omega)
        obtain ⟨Sb, b1, b2', b3', b4'⟩ := mG _ q
        obtain ⟨Sy, qq, y1, y2, y3, -, y5⟩ := b3'.1 (by rw [hlen]; omega)
        rw [hlen] at y1 y2 y5
        have hq2 : 5002 * n * (t.length + 1) ≤ 60024 * 200 := Nat.mul_le_mul hnB z
        obtain ⟨mm, hmm⟩ : ∃ mm, FU = (mm + 1) + qq := ⟨FU - qq - 1, by unfold FU; omega⟩
        obtain ⟨Sw, w1, w2, w3⟩ := list_278_ok (show t.length + 1 ≤ 200 by omega) (12 * (t.length + 1)) FU 0 Sy (by omega) (by unfold FU; omega)
        rw [nI_0] at w1
        have hsm := ((b1.tr y3).tr w2).tr (sm_I Sw 173 18 (nI (t.length + 1)))
        have hss := hs1.tr hsm
        refine ⟨Sx, setI Sw 173 18 (nI (t.length + 1)), nI (t.length + 1), ?_, ?_, ?_⟩
        · refine (cG Sx 1 x1).trans ?_
          rw [if_neg (by decide), x3, Nat.zero_add]
        · refine b4'.trans ?_
          have e2 := y2 (mm + 1)
          rw [← hmm, nI_0, Nat.zero_add, show (0 : Int32) - 1 = -1 by decide] at e2
          rw [e2, X11_list_55, if_pos (by decide), w1, lt_x]
        · refine (Rel.re hR hss (by intro k j hk hq; omega) (by intro k j hk hq; omega) a6 (Or.inl (by intro k j hk hq; omega)) (Or.inl ⟨rfl, by intro k j hk hq; omega⟩) (Or.inl (by intro k j hk hq; omega)) (Or.inl ⟨rfl, by intro k j hk hq; omega⟩) (Or.inl ⟨rfl, by intro k j hk hq; omega⟩) (Or.inl (by intro k j hk hq; omega)) (Or.inl (by intro k j hk hq; omega)) (Or.inr ⟨t.length + 1, by omega, ?_, sI_s _ _ _ _, fun _ => ⟨rfl, by unfold LOK; rw [hlen]; omega⟩, fun i p hi hp => ?_⟩) (Or.inl (by intro k j hk hq; omega)) (Or.inl (by intro k j hk hq; omega))).x
          · rw [(hsm _ _ (fun z => by omega)).1, x3, Nat.zero_add]
          · have := x4 i p hi hp
            have h5 := y5 i p hi hp
            rw [Nat.zero_add] at this h5
            rw [(hsm _ _ (fun z => by omega)).1, this, sI_n (by omega), w3 (12 * i + p) (by omega) (by omega), h5, l1]
    · refine Ok.fd hR (v := -12) ?_ ?_
      · show X10_list S 0 = _
        simp only [X10_list, cb, bi_t, i10, not_false_iff, if_true, rfs, isTwoWay_ok a1 a3, bd_x, ite_b1n, if_neg q2, found_c]
      · intro S1 q
        have m2 := a2.gs q (by intro k j hk hq; omega)
        have isp := isPlace_ok m2.1 hn
        have mz := m2.1
        have mb : S1.1 173 3 = bi _ := (q.i (by omega)).trans b1'.2.1
        show X11_list S1 173 = _
        simp only [X11_list, mb, bi_t, i10, not_false_iff, if_true, isTwoWayM_ok m2 a3, bd_x, ite_b1n, if_neg q2, found_m]
end
