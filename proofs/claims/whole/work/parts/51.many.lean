/-! many -/
def prT (p : Nat) : Nat → Nat → Bool
  | 0, _ => true
  | j + 1, d => if p < d * d then true else if p % d = 0 then false else prT p j (d + 1)
theorem prT_ok {p : Nat} : ∀ (j d : Nat), 0 < d → prT p j d = true → ∀ e, d ≤ e → e < d + j → e * e ≤ p → ¬ p % e = 0
  | 0, d, _, _, e, h1, h2, _ => absurd h2 (by omega)
  | j + 1, d, hd, h, e, h1, h2, h3 => by
    rw [prT] at h
    by_cases z : p < d * d
    · have := Nat.mul_le_mul h1 h1
      omega
    · rw [if_neg z] at h
      by_cases y : p % d = 0
      · rw [if_pos y] at h; cases h
      · rw [if_neg y] at h
        by_cases x : e = d
        · rw [x]; exact y
        · exact prT_ok j (d + 1) (by omega) h e (by omega) (by omega) h3
theorem prT_pr {p : Nat} (h1 : 2 ≤ p) (h2 : p ≤ 30011) (h : prT p 200 2 = true) : Pr p := by
  refine ⟨h1, fun d hd hdd => ?_⟩
  rcases Nat.lt_or_ge d 202 with z | z
  · exact prT_ok 200 2 (by omega) h d hd (by omega) hdd
  · have := Nat.mul_le_mul z z
    omega
section
variable {S : St}
theorem irem_n {a d : Nat} (ha : a < 2147483648) (h0 : 0 < d) (hd : d < 2147483648) : irem (nI a) (nI d) = nI (a % d) := by
  unfold irem
  rw [pk_rem (by omega) h0 (by omega)]
theorem lrem_n {a d : Nat} (ha : a < 9223372036854775808) (h0 : 0 < d) (hd : d < 2147483648) : lrem (lN a) (Int32.toInt64 (nI d)) = lN (a % d) := by
  unfold lrem
  rw [nI_l (by omega), pk_lRem (by omega) h0 (by omega)]
theorem prime_c {p : Nat} (hp : p ≤ 30011) : ∀ (j m d : Nat), 0 < d → d + j = 202 → j < m → X10_isPrimeInRange_16 (nI p) (fun (S24 : St) (v25 : Int32) => some (S24, (1 : Int32))) m S (nI d) = some (S, bi (prT p j d))
  | 0, 0, _, _, _, h => absurd h (by omega)
  | j + 1, 0, _, _, _, h => absurd h (by omega)
  | 0, m + 1, d, _, hd, _ => by
    rw [show d = 202 by omega, X10_isPrimeInRange_16, pk_mul, if_pos (nI_lt (by omega) (by omega))]
    rfl
  | j + 1, m + 1, d, h0, hd, hm => by
    have hdd : d * d ≤ 202 * 202 := Nat.mul_le_mul (by omega) (by omega)
    rw [X10_isPrimeInRange_16, pk_mul, gu_t (nI_ne0 h0 (by omega)), irem_n (by omega) h0 (by omega), lt_x, nI_1, prime_c hp j m (d + 1) (by omega) (by omega) (by omega), prT]
    have lm : p % d ≤ p := Nat.mod_le _ _
    by_cases z : p < d * d
    · rw [if_pos (nI_lt z (by omega)), if_pos z]; rfl
    · rw [if_neg (nI_nlt (by omega) (by omega)), if_neg z]
      by_cases y : p % d = 0
      · rw [if_neg (fun x => x (by rw [y]; rfl)), if_pos y]; rfl
      · rw [if_pos (nI_ne0 (by omega) (by omega)), if_neg y]
theorem prime_m {p : Nat} (hp2 : 2 ≤ p) (hp : p ≤ 30011) : ∀ (j m d : Nat), 0 < d → d + j = 202 → j < m → X11_isPrime_2 (nI p) (fun (S22 : St) (v23 : Int32) => if (nI p) ≤ (1 : Int32) then (some (S22, (0 : Int32))) else (some (S22, (1 : Int32)))) m S (nI d) = some (S, bi (prT p j d))
  | 0, 0, _, _, _, h => absurd h (by omega)
  | j + 1, 0, _, _, _, h => absurd h (by omega)
  | 0, m + 1, d, _, hd, _ => by
    rw [show d = 202 by omega, X11_isPrime_2, pk_mul, if_pos (nI_lt (by omega) (by omega)), if_neg (by rw [show (1 : Int32) = nI 1 from rfl]; exact nI_ge (by omega) (by omega))]
    rfl
  | j + 1, m + 1, d, h0, hd, hm => by
    have hdd : d * d ≤ 202 * 202 := Nat.mul_le_mul (by omega) (by omega)
    rw [X11_isPrime_2, pk_mul, gu_t (nI_ne0 h0 (by omega)), irem_n (by omega) h0 (by omega), lt_x, nI_1, prime_m hp2 hp j m (d + 1) (by omega) (by omega) (by omega), prT]
    have lm : p % d ≤ p := Nat.mod_le _ _
    by_cases z : p < d * d
    · rw [if_pos (nI_lt z (by omega)), if_pos z, if_neg (by rw [show (1 : Int32) = nI 1 from rfl]; exact nI_ge (by omega) (by omega))]; rfl
    · rw [if_neg (nI_nlt (by omega) (by omega)), if_neg z]
      by_cases y : p % d = 0
      · rw [if_neg (fun x => x (by rw [y]; rfl)), if_pos y]; rfl
      · rw [if_pos (nI_ne0 (by omega) (by omega)), if_neg y]
-- ---- entries
theorem neg_toInt {x : Nat} (h : x < 2147483648) : (-(nI x)).toInt = -(x : Int) := by
  rw [Int32.toInt_neg, nT h]
  exact Int.bmod_eq_of_le (by simp; omega) (by simp; omega)
theorem sgn_bt (z : Int32) : (0 ≤ z) ↔ bt z 31 = false := by
  rw [le32, lits.1]
  have h := BitVec.toInt_eq_msb_cond z.toBitVec
  have h2 : z.toInt = z.toBitVec.toInt := rfl
  have h3 : z.toBitVec.msb = bt z 31 := BitVec.msb_eq_getLsbD_last z.toBitVec
  have h4 := z.toBitVec.isLt
  rw [h2, h, h3]
  cases bt z 31 with
  | false => simp
  | true => simp; omega
theorem irem_neg {x p : Nat} (hx : x < 2147483648) (h0 : 0 < p) (hp : p < 2147483648) : irem (-(nI x)) (nI p) = -(nI (x % p)) := by
  have e1 : (-(nI x)) / nI p = -(nI (x / p)) := by
    have hd : x / p ≤ x := Nat.div_le_self _ _
    have hdi : 0 ≤ (x : Int) / (p : Int) := Int.ediv_nonneg (by omega) (by omega)
    apply Int32.toInt_inj.mp
    rw [neg_toInt (by omega), Int32.toInt_div, neg_toInt hx, nT hp, Int.neg_tdiv, show (x : Int).tdiv p = ((x / p : Nat) : Int) from rfl]
    exact Int.bmod_eq_of_le (by simp; omega) (by simp; omega)
  have e2 : x / p * p ≤ x := Nat.div_mul_le_self _ _
  have e3 : x % p = x - x / p * p := by have := Nat.div_add_mod x p; rw [Nat.mul_comm] at this; omega
  unfold irem
  rw [e1, Int32.neg_mul, pk_mul, e3, ← pk_sub e2]
  rw [Int32.sub_eq_add_neg, Int32.neg_neg, Int32.neg_sub, Int32.add_comm, Int32.sub_eq_add_neg]
theorem negp {y p : Nat} (h : y ≤ p) : -(nI y) + nI p = nI (p - y) := by
  rw [Int32.add_comm, ← Int32.sub_eq_add_neg, pk_sub h]
def ent (w : Nat → Nat → Nat) (p i k : Nat) : Nat := if i = k then ld w i % p else (p - w i k % p) % p
theorem fm_pos {x p : Nat} (hx : x < 2147483648) (h0 : 0 < p) (hp : p < 2147483648) : Math_floorMod S (nI x) (nI p) = some (S, nI (x % p)) := by
  have hb : ∀ y : Nat, y < 2147483648 → bt (nI y) 31 = false := fun y hy => (sgn_bt _).mp (nI_pos' (by omega))
  unfold Math_floorMod
  rw [gu_t (nI_ne0 h0 (by omega)), irem_n hx h0 hp, lt_x, lt_x, if_pos ((sgn_bt _).mpr (by rw [b_xor, hb x hx, hb p hp]; rfl))]
theorem fm_neg {x p : Nat} (hx : x < 2147483648) (h0 : 0 < p) (hp : p < 2147483648) : Math_floorMod S (-(nI x)) (nI p) = some (S, nI ((p - x % p) % p)) := by
  have hm : x % p < p := Nat.mod_lt _ h0
  have hb : bt (nI p) 31 = false := (sgn_bt _).mp (nI_pos' (by omega))
  unfold Math_floorMod
  rw [gu_t (nI_ne0 h0 (by omega)), irem_neg hx h0 hp, lt_x, lt_x]
  by_cases z : x % p = 0
  · have e : -(nI (x % p)) = 0 := by rw [z]; decide
    rw [e, if_pos rfl, ite_self, z, Nat.sub_zero, Nat.mod_self]
    rfl
  · have hx0 : 0 < x := by
      rcases Nat.eq_zero_or_pos x with y | y
      · rw [y, Nat.zero_mod] at z; exact absurd rfl z
      · exact y
    have hneg : bt (-(nI x)) 31 = true := by
      cases hc : bt (-(nI x)) 31 with
      | true => rfl
      | false =>
        have := (sgn_bt _).mpr hc
        rw [le32, lits.1, neg_toInt hx] at this
        omega
    have hne : ¬ -(nI (x % p)) = 0 := by rw [eq32, neg_toInt (by omega), lits.1]; omega
    rw [if_neg (fun y => by
      have := (sgn_bt _).mp y
      rw [b_xor, hneg, hb] at this
      cases this), if_neg hne, negp (by omega), Nat.mod_eq_of_lt (show p - x % p < p by omega)]
theorem ref_pos {x p : Nat} (hx : x < 1000000) (h0 : 0 < p) (hp : p < 1000000) : irem (irem (nI x) (nI p) + nI p) (nI p) = nI (x % p) := by
  have hm : x % p < p := Nat.mod_lt _ h0
  rw [irem_n (by omega) h0 (by omega), nI_add, irem_n (by omega) h0 (by omega), Nat.add_mod_right, Nat.mod_mod]
theorem ref_neg {x p : Nat} (hx : x < 1000000) (h0 : 0 < p) (hp : p < 1000000) : irem (irem (-(nI x)) (nI p) + nI p) (nI p) = nI ((p - x % p) % p) := by
  have hm : x % p < p := Nat.mod_lt _ h0
  rw [irem_neg (by omega) h0 (by omega), negp (by omega), irem_n (by omega) h0 (by omega)]
def CM (S : St) (n : Nat) (A : Nat → Nat → Nat) : Prop := ∀ i k, i < n → k < n → S.2 (139 + i) k = lN (A i k)
def MM (S : St) (n : Nat) (A : Nat → Nat → Nat) : Prop := ∀ i k, i < n → k < n → S.2 196 (12 * i + k) = lN (A i k)
def AB (n p : Nat) (A : Nat → Nat → Nat) : Prop := ∀ i k, i < n → k < n → A i k < p
theorem mi12 (i k : Nat) : (12 : Int32) * nI i + nI k = nI (12 * i + k) := by rw [show (12 : Int32) = nI 12 from rfl, pk_mul, nI_add]
section
variable {n p : Nat} {kd : Nat → Nat} {w : Nat → Nat → Nat}
theorem fill_13_ok (hi : ISl n kd w) (h0 : 0 < p) (hp : p ≤ 30011) {i : Nat} (hin : i < n) (K : St → Int32 → Option (St × Unit)) : ∀ (j m k : Nat) (S : St), k + j = n → j < m → CSl S n kd w → ∃ S2, X8_fill_13 137 1 (nI p) (nI i) K m S (nI k) = K S2 (nI n) ∧ Sm (fun a b => a = 139 + i ∧ k ≤ b) S S2 ∧ ∀ e, k ≤ e → e < n → S2.2 (139 + i) e = lN (ent w p i e)
  | 0, 0, _, _, _, h, _ => absurd h (by omega)
  | j + 1, 0, _, _, _, h, _ => absurd h (by omega)
  | 0, m + 1, k, S, hkj, _, h => by
    refine ⟨S, ?_, Sm.rf, fun e h1 h2 => absurd h2 (by omega)⟩
    rw [show k = n by omega, X8_fill_13, if_pos (by rw [h.1]; exact Int32.le_refl _)]
  | j + 1, m + 1, k, S, hkj, hm, h => by
    have hn := hi.1
    have hl := hi.ld_le (show i < 12 by omega)
    have hw := hi.w_le (show i < 12 by omega) (show k < 15 by omega)
    have e1 : nI k + (1 : Int32) = nI (k + 1) := nI_1 k
    have el : S.1 16 i = nI (ld w i) := h.2.2.2 i (by omega)
    have hs := sm_J S (139 + i) k (lN (ent w p i k))
    obtain ⟨S2, q1, q2, q3⟩ := fill_13_ok hi h0 hp hin K j m (k + 1) (setJ S (139 + i) k (lN (ent w p i k))) (by omega) (by omega) (h.gs hs (by intro a b ha hq; omega))
    have hm1 : ld w i % p < p := Nat.mod_lt _ h0
    have hm2 : (p - w i k % p) % p < p := Nat.mod_lt _ h0
    refine ⟨S2, ?_, (hs.tr q2).mo (by intro a b z; omega), fun e h1 h2 => ?_⟩
    · rw [X8_fill_13, if_neg (by rw [h.1]; exact nI_ge (by omega) (by omega)), lt_x]
      by_cases z : i = k
      · rw [if_neg (fun y => y (by rw [z])), ck_n (show i < 12 by omega) (by omega), show rf 1 2 = 16 by decide +kernel, ix_n (show i < 2147483648 by omega), el]
        dsimp only
        rw [ck_n (show i < 12 by omega) (by omega), fm_pos (by omega) h0 (by omega), bd_x, ck_n (show k < 12 by omega) (by omega), lt_x, lt_x, e1, show rf 137 0 = 138 by decide +kernel, rf_138, ix_n (show k < 2147483648 by omega), nI_l (by omega)]
        have : ent w p i k = ld w i % p := by unfold ent; rw [if_pos z]
        rw [this] at q1
        exact q1
      · rw [if_pos (fun y => z ((nI_eq (by omega) (by omega)).mp y)), ck_n (show i < 12 by omega) (by omega), ck_n (show k < 15 by omega) (by omega), show rf 1 1 = 3 by decide +kernel, ix_n (show i < 2147483648 by omega), ix_n (show k < 2147483648 by omega), rf_3, h.2.2.1 i k (by omega) (by omega)]
        dsimp only
        rw [ck_n (show i < 12 by omega) (by omega), fm_neg (by omega) h0 (by omega), bd_x, ck_n (show k < 12 by omega) (by omega), lt_x, lt_x, e1, show rf 137 0 = 138 by decide +kernel, rf_138, nI_l (by omega)]
        have : ent w p i k = (p - w i k % p) % p := by unfold ent; rw [if_neg z]
        rw [this] at q1
        exact q1
    · by_cases he : e = k
      · rw [he, (q2 _ _ (fun z => by omega)).2, sJ_s]
      · exact q3 e (by omega) h2
theorem fill_2_ok (hi : ISl n kd w) (h0 : 0 < p) (hp : p ≤ 30011) (K : St → Int32 → Option (St × Unit)) : ∀ (j m i : Nat) (S : St), i + j = n → j < m → CSl S n kd w → ∃ S2, X8_fill_2 137 1 (nI p) K m S (nI i) = K S2 (nI n) ∧ Sm (fun a _ => 139 + i ≤ a ∧ a < 139 + n) S S2 ∧ ∀ r e, i ≤ r → r < n → e < n → S2.2 (139 + r) e = lN (ent w p r e)
  | 0, 0, _, _, _, h, _ => absurd h (by omega)
  | j + 1, 0, _, _, _, h, _ => absurd h (by omega)
  | 0, m + 1, i, S, hij, _, h => by
    refine ⟨S, ?_, Sm.rf, fun r e h1 h2 => absurd h2 (by omega)⟩
    rw [show i = n by omega, X8_fill_2, if_pos (by rw [h.1]; exact Int32.le_refl _)]
  | j + 1, m + 1, i, S, hij, hm, h => by
    have hn := hi.1
    have e1 : nI i + (1 : Int32) = nI (i + 1) := nI_1 i
    obtain ⟨Sa, p1, p2, p3⟩ := fill_13_ok hi h0 hp (show i < n by omega) (fun (S35 : St) (v36 : Int32) => lt (nI i + (1 : Int32)) fun v37 => X8_fill_2 137 1 (nI p) K m S35 v37) n FU 0 S (by omega) (by unfold FU; omega) h
    rw [nI_0] at p1
    obtain ⟨S2, q1, q2, q3⟩ := fill_2_ok hi h0 hp K j m (i + 1) Sa (by omega) (by omega) (h.gs p2 (by intro a b ha hq; omega))
    refine ⟨S2, ?_, (p2.tr q2).mo (by intro a b z; omega), fun r e h1 h2 h3 => ?_⟩
    · rw [X8_fill_2, if_neg (by rw [h.1]; exact nI_ge (by omega) (by omega)), p1, lt_x, e1]
      exact q1
    · by_cases he : r = i
      · rw [he, (q2 _ _ (fun z => by omega)).2]; exact p3 e (by omega) h3
      · exact q3 r e (by omega) h2 h3
theorem many_64_ok (hi : ISl n kd w) (h0 : 0 < p) (hp : p ≤ 30011) {i : Nat} (hin : i < n) (K : St → Int32 → Option (St × Int32)) : ∀ (j m k : Nat) (S : St), k + j = n → j < m → MSl S n kd w → ∃ S2, X11_many_64 173 (nI p) (nI i) K m S (nI k) = K S2 (nI n) ∧ Sm (fun a b => a = 196 ∧ 12 * i + k ≤ b ∧ b < 12 * i + n) S S2 ∧ ∀ e, k ≤ e → e < n → S2.2 196 (12 * i + e) = lN (ent w p i e)
  | 0, 0, _, _, _, h, _ => absurd h (by omega)
  | j + 1, 0, _, _, _, h, _ => absurd h (by omega)
  | 0, m + 1, k, S, hkj, _, h => by
    refine ⟨S, ?_, Sm.rf, fun e h1 h2 => absurd h2 (by omega)⟩
    rw [show k = n by omega, X11_many_64, if_pos (by rw [h.1]; exact Int32.le_refl _)]
  | j + 1, m + 1, k, S, hkj, hm, h => by
    have hn := hi.1
    have hl := hi.ld_le (show i < 12 by omega)
    have hw := hi.w_le (show i < 12 by omega) (show k < 15 by omega)
    have e1 : nI k + (1 : Int32) = nI (k + 1) := nI_1 k
    have lo := load_ok h (show i < 12 by omega)
    rw [ld_is] at lo
    have hs := sm_J S 196 (12 * i + k) (lN (ent w p i k))
    obtain ⟨S2, q1, q2, q3⟩ := many_64_ok hi h0 hp hin K j m (k + 1) (setJ S 196 (12 * i + k) (lN (ent w p i k))) (by omega) (by omega) (h.gs hs (by intro a b ha hq; omega))
    have hm1 : ld w i % p < p := Nat.mod_lt _ h0
    have hm2 : (p - w i k % p) % p < p := Nat.mod_lt _ h0
    have hpz := nI_ne0 h0 (show p < 2 ^ 31 by omega)
    refine ⟨S2, ?_, (hs.tr q2).mo (by intro a b z; omega), fun e h1 h2 => ?_⟩
    · rw [X11_many_64, if_neg (by rw [h.1]; exact nI_ge (by omega) (by omega)), lt_x]
      by_cases z : i = k
      · rw [if_neg (fun y => y (by rw [z])), lo, bd_x]
        dsimp only
        rw [gu_t hpz, gu_t hpz, mi12, ck_n (show 12 * i + k < 144 by omega) (by omega), lt_x, lt_x, e1, show rf 173 34 = 196 by decide +kernel, ix_n (by omega), ref_pos (by omega) h0 (by omega), nI_l (by omega)]
        have : ent w p i k = ld w i % p := by unfold ent; rw [if_pos z]
        rw [this] at q1
        exact q1
      · rw [if_pos (fun y => z ((nI_eq (by omega) (by omega)).mp y)), weightOf_ok h (show i < 12 by omega) (show k < 15 by omega), bd_x]
        dsimp only
        rw [gu_t hpz, gu_t hpz, mi12, ck_n (show 12 * i + k < 144 by omega) (by omega), lt_x, lt_x, e1, show rf 173 34 = 196 by decide +kernel, ix_n (by omega), ref_neg (by omega) h0 (by omega), nI_l (by omega)]
        have : ent w p i k = (p - w i k % p) % p := by unfold ent; rw [if_neg z]
        rw [this] at q1
        exact q1
    · by_cases he : e = k
      · rw [he, (q2 _ _ (fun z => by omega)).2, sJ_s]
      · exact q3 e (by omega) h2
theorem many_54_ok (hi : ISl n kd w) (h0 : 0 < p) (hp : p ≤ 30011) (K : St → Int32 → Option (St × Int32)) : ∀ (j m i : Nat) (S : St), i + j = n → j < m → MSl S n kd w → ∃ S2, X11_many_54 173 (nI p) K m S (nI i) = K S2 (nI n) ∧ Sm (fun a b => a = 196 ∧ 12 * i ≤ b) S S2 ∧ ∀ r e, i ≤ r → r < n → e < n → S2.2 196 (12 * r + e) = lN (ent w p r e)
  | 0, 0, _, _, _, h, _ => absurd h (by omega)
  | j + 1, 0, _, _, _, h, _ => absurd h (by omega)
  | 0, m + 1, i, S, hij, _, h => by
    refine ⟨S, ?_, Sm.rf, fun r e h1 h2 => absurd h2 (by omega)⟩
    rw [show i = n by omega, X11_many_54, if_pos (by rw [h.1]; exact Int32.le_refl _)]
  | j + 1, m + 1, i, S, hij, hm, h => by
    have hn := hi.1
    have e1 : nI i + (1 : Int32) = nI (i + 1) := nI_1 i
    obtain ⟨Sa, p1, p2, p3⟩ := many_64_ok hi h0 hp (show i < n by omega) (fun (S41 : St) (v42 : Int32) => lt (nI i + (1 : Int32)) fun v43 => X11_many_54 173 (nI p) K m S41 v43) n FU 0 S (by omega) (by unfold FU; omega) h
    rw [nI_0] at p1
    obtain ⟨S2, q1, q2, q3⟩ := many_54_ok hi h0 hp K j m (i + 1) Sa (by omega) (by omega) (h.gs p2 (by intro a b ha hq; omega))
    refine ⟨S2, ?_, (p2.tr q2).mo (by intro a b z; omega), fun r e h1 h2 h3 => ?_⟩
    · rw [X11_many_54, if_neg (by rw [h.1]; exact nI_ge (by omega) (by omega)), p1, lt_x, e1]
      exact q1
    · by_cases he : r = i
      · rw [he, (q2 _ _ (fun z => by omega)).2]; exact p3 e (by omega) h3
      · exact q3 r e (by omega) h2 h3
-- ---- the elimination
def pvt (A : Nat → Nat → Nat) (n c : Nat) : Option Nat := fstB (fun l => decide (A l c ≠ 0)) (n - c) c
def swp (A : Nat → Nat → Nat) (q c : Nat) : Nat → Nat → Nat := fun i k => if i = c then A q k else if i = q then A c k else A i k
def ivs (p a : Nat) : Nat := a ^ (p - 2) % p
def elm (p : Nat) (A : Nat → Nat → Nat) (c iv r : Nat) : Nat → Nat → Nat := fun i k => if i = r ∧ c ≤ k then (A r k + (p - A r c * iv % p) * A c k) % p else A i k
def clr (p c iv : Nat) : Nat → Nat → (Nat → Nat → Nat) → (Nat → Nat → Nat)
  | 0, _, A => A
  | j + 1, r, A => clr p c iv j (r + 1) (elm p A c iv r)
def dtm (p n : Nat) : Nat → Nat → Nat → (Nat → Nat → Nat) → Nat
  | 0, _, v, _ => v
  | j + 1, c, v, A => match pvt A n c with
    | none => 0
    | some q => dtm p n j (c + 1) ((if q = c then v else p - v) * swp A q c c c % p) (clr p c (ivs p (swp A q c c c)) (n - (c + 1)) (c + 1) (swp A q c))
theorem AB.swp {A : Nat → Nat → Nat} {q c : Nat} (h : AB n p A) (hq : q < n) (hc : c < n) : AB n p (swp A q c) := fun i k hi hk => by
  show (if i = c then A q k else if i = q then A c k else A i k) < p
  split
  · exact h q k hq hk
  · split
    · exact h c k hc hk
    · exact h i k hi hk
theorem AB.elm {A : Nat → Nat → Nat} {c iv r : Nat} (h0 : 0 < p) (h : AB n p A) : AB n p (elm p A c iv r) := fun i k hi hk => by
  show (if i = r ∧ c ≤ k then (A r k + (p - A r c * iv % p) * A c k) % p else A i k) < p
  split
  · exact Nat.mod_lt _ h0
  · exact h i k hi hk
theorem AB.clr {c iv : Nat} (h0 : 0 < p) : ∀ (j r : Nat) (A : Nat → Nat → Nat), AB n p A → AB n p (clr p c iv j r A)
  | 0, _, _, h => h
  | j + 1, r, A, h => AB.clr h0 j (r + 1) _ (h.elm h0)
theorem pvt_ok {A : Nat → Nat → Nat} {c q : Nat} (hc : c ≤ n) (h : pvt A n c = some q) : c ≤ q ∧ q < n ∧ A q c ≠ 0 := by
  have := fstB_lt h
  exact ⟨this.1, by omega, of_decide_eq_true this.2.2⟩
theorem pivot_c {A : Nat → Nat → Nat} {c : Nat} (hn : n ≤ 12) (hc : c < n) (hC : CM S n A) (hB : AB n p A) (hp : p ≤ 30011) : ∀ (j m l : Nat), l + j = n → j < m → X8_pivotOf_2 137 (nI c) (nI n) (fun (S25 : St) (v26 : Int32) => some (S25, (-1 : Int32))) m S (nI l) = some (S, oI (fstB (fun l => decide (A l c ≠ 0)) j l))
  | 0, 0, _, _, h => absurd h (by omega)
  | j + 1, 0, _, _, h => absurd h (by omega)
  | 0, m + 1, l, hlj, _ => by
    rw [show l = n by omega, X8_pivotOf_2, if_pos (Int32.le_refl _)]
    rfl
  | j + 1, m + 1, l, hlj, hm => by
    have hb := hB l c (by omega) hc
    rw [X8_pivotOf_2, if_neg (nI_ge (by omega) (by omega)), ck_n (show l < 12 by omega) (by omega), ck_n (show c < 12 by omega) (by omega), show rf 137 0 = 138 by decide +kernel, rf_138, ix_n (by omega), ix_n (by omega), hC l c (by omega) hc, lt_x, nI_1, pivot_c hn hc hC hB hp j m (l + 1) (by omega) (by omega), fstB]
    have le : lN (A l c) = (0 : Int64) ↔ A l c = 0 := pk_lEQ (b := 0) (show A l c < 2 ^ 63 by omega) (show 0 < 2 ^ 63 by omega)
    by_cases z : A l c = 0
    · rw [if_pos (le.mpr z), if_neg (show ¬ decide (A l c ≠ 0) = true from fun y => (of_decide_eq_true y) z)]
    · rw [if_neg (fun y => z (le.mp y)), if_pos (show decide (A l c ≠ 0) = true from decide_eq_true z)]; rfl
theorem swap_c {q c : Nat} (hn : n ≤ 12) (hq : q < n) (hc : c < n) (hqc : q ≠ c) (K : St → Int32 → Option (St × Unit)) : ∀ (j m k : Nat) (S : St), k + j = n → j < m → ∃ S2, X8_swapRows_3 137 (nI q) (nI c) (nI n) K m S (nI k) = K S2 (nI n) ∧ Sm (fun a b => (a = 139 + q ∨ a = 139 + c) ∧ k ≤ b) S S2 ∧ ∀ e, k ≤ e → e < n → S2.2 (139 + q) e = S.2 (139 + c) e ∧ S2.2 (139 + c) e = S.2 (139 + q) e
  | 0, 0, _, _, _, h => absurd h (by omega)
  | j + 1, 0, _, _, _, h => absurd h (by omega)
  | 0, m + 1, k, S, hkj, _ => by
    refine ⟨S, ?_, Sm.rf, fun e h1 h2 => absurd h2 (by omega)⟩
    rw [show k = n by omega, X8_swapRows_3, if_pos (Int32.le_refl _)]
  | j + 1, m + 1, k, S, hkj, hm => by
    have e1 : nI k + (1 : Int32) = nI (k + 1) := nI_1 k
    have hs := (sm_J S (139 + q) k (S.2 (139 + c) k)).tr (sm_J (setJ S (139 + q) k (S.2 (139 + c) k)) (139 + c) k (S.2 (139 + q) k))
    obtain ⟨S2, q1, q2, q3⟩ := swap_c hn hq hc hqc K j m (k + 1) (setJ (setJ S (139 + q) k (S.2 (139 + c) k)) (139 + c) k (S.2 (139 + q) k)) (by omega) (by omega)
    refine ⟨S2, ?_, (hs.tr q2).mo (by intro a b z; omega), fun e h1 h2 => ?_⟩
    · rw [X8_swapRows_3, if_neg (nI_ge (by omega) (by omega))]
      simp only [lt_x, show rf 137 0 = 138 by decide +kernel, rf_138, e1, ck_n (show q < 12 by omega) (show 12 < 2147483648 by omega), ck_n (show c < 12 by omega) (show 12 < 2147483648 by omega), ck_n (show k < 12 by omega) (show 12 < 2147483648 by omega), ix_n (show q < 2147483648 by omega), ix_n (show c < 2147483648 by omega), ix_n (show k < 2147483648 by omega)]
      exact q1
    · by_cases he : e = k
      · rw [he, (q2 _ _ (fun z => by omega)).2, (q2 _ _ (fun z => by omega)).2]
        refine ⟨?_, sJ_s _ _ _ _⟩
        rw [sJ_n (by omega), sJ_s]
      · have := q3 e (by omega) h2
        rw [sJ_n (by omega), sJ_n (by omega), sJ_n (by omega), sJ_n (by omega)] at this
        exact this
theorem power_ok (hp2 : 2 ≤ p) (hp : p ≤ 30011) (K : St → Int64 → Int64 → Int32 → Option (St × Int64)) : ∀ (m e r s : Nat), e < m → e < 2147483648 → r < p → s < p → ∃ y s2 e2, X8_power_9 (nI p) K m S (lN r) (lN s) (nI e) = K S (lN y) s2 e2 ∧ y < p ∧ y = r * s ^ e % p
  | 0, _, _, _, h, _, _, _ => absurd h (by omega)
  | m + 1, e, r, s, hm, he, hr, hs => by
    have hpz : ¬ Int32.toInt64 (nI p) = 0 := by rw [nI_l (by omega), lN0, pk_lEQ (by omega) (by omega)]; omega
    rcases Nat.eq_zero_or_pos e with z | z
    · refine ⟨r, lN s, nI 0, ?_, hr, ?_⟩
      · rw [z, X8_power_9, if_pos (by decide)]
      · rw [z, Nat.pow_zero, Nat.mul_one, Nat.mod_eq_of_lt hr]
    · have hrs : r * s ≤ 30011 * 30011 := Nat.mul_le_mul (by omega) (by omega)
      have hss : s * s ≤ 30011 * 30011 := Nat.mul_le_mul (by omega) (by omega)
      have e1 : nI e >>> ((1 : Int32) &&& 31) = nI (e / 2) := pk_shrN (by omega) _ 1 (by decide +kernel)
      have e2 : (nI e &&& 1) = nI (e % 2) := pk_andN (by omega) 1 (by decide +kernel)
      have e3 : lrem (lN s * lN s) (Int32.toInt64 (nI p)) = lN (s * s % p) := by rw [lN_mul, lrem_n (by omega) (by omega) (by omega)]
      have e4 : lrem (lN r * lN s) (Int32.toInt64 (nI p)) = lN (r * s % p) := by rw [lN_mul, lrem_n (by omega) (by omega) (by omega)]
      have hs2 : s * s % p < p := Nat.mod_lt _ (by omega)
      have hr2 : r * s % p < p := Nat.mod_lt _ (by omega)
      have key : ∀ x, (s * s % p) ^ (e / 2) * x % p = s ^ (2 * (e / 2)) * x % p := fun x => by
        rw [Nat.mul_mod, ← Nat.pow_mod, ← Nat.mul_mod, Nat.pow_mul, Nat.pow_two]
      rw [X8_power_9, if_neg (nI_nle z (by omega)), lt_x, e2, e3, e1, e4]
      rcases Nat.mod_two_eq_zero_or_one e with y | y
      · rw [y, if_pos (show nI 0 = 0 from rfl)]
        dsimp only
        rw [gu_t hpz, lt_x, lt_x]
        obtain ⟨v, s3, e5, v1, v2, v3⟩ := power_ok hp2 hp K m (e / 2) r (s * s % p) (by omega) (by omega) hr hs2
        refine ⟨v, s3, e5, v1, v2, ?_⟩
        rw [v3, Nat.mul_comm r, key, Nat.mul_comm _ r, show 2 * (e / 2) = e by omega]
      · rw [y, if_neg (by decide), gu_t hpz, lt_x]
        dsimp only
        rw [gu_t hpz, lt_x, lt_x]
        obtain ⟨v, s3, e5, v1, v2, v3⟩ := power_ok hp2 hp K m (e / 2) (r * s % p) (s * s % p) (by omega) (by omega) hr2 hs2
        refine ⟨v, s3, e5, v1, v2, ?_⟩
        rw [v3, Nat.mul_comm (r * s % p), key, Nat.mul_comm _ (r * s % p), Nat.mod_mul_mod, Nat.mul_assoc, ← Nat.pow_succ', show (2 * (e / 2)).succ = e by omega]
theorem below_48_ok {c r f : Nat} {iv : Int64} {x y : Nat → Nat} (hp2 : 2 ≤ p) (hp : p ≤ 30011) (hn : n ≤ 12) (hc : c < n) (hr : r < n) (hrc : r ≠ c) (hf : f < p) (K : St → Int32 → Option (St × Unit)) : ∀ (j m k : Nat) (S : St), k + j = n → j < m → (∀ e, k ≤ e → e < n → S.2 (139 + r) e = lN (x e) ∧ x e < p) → (∀ e, k ≤ e → e < n → S.2 (139 + c) e = lN (y e) ∧ y e < p) → ∃ S2, X8_clearBelow_48 137 (nI c) (nI n) (nI p) iv (nI r) (lN f) K m S (nI k) = K S2 (nI n) ∧ Sm (fun a b => a = 139 + r ∧ k ≤ b) S S2 ∧ ∀ e, k ≤ e → e < n → S2.2 (139 + r) e = lN ((x e + (p - f) * y e) % p)
  | 0, 0, _, _, _, h, _, _ => absurd h (by omega)
  | j + 1, 0, _, _, _, h, _, _ => absurd h (by omega)
  | 0, m + 1, k, S, hkj, _, _, _ => by
    refine ⟨S, ?_, Sm.rf, fun e h1 h2 => absurd h2 (by omega)⟩
    rw [show k = n by omega, X8_clearBelow_48, if_pos (Int32.le_refl _)]
  | j + 1, m + 1, k, S, hkj, hm, hx, hy => by
    have e1 : nI k + (1 : Int32) = nI (k + 1) := nI_1 k
    obtain ⟨x1, x2⟩ := hx k (by omega) (by omega)
    obtain ⟨y1, y2⟩ := hy k (by omega) (by omega)
    have hpz : ¬ Int32.toInt64 (nI p) = 0 := by rw [nI_l (by omega), lN0, pk_lEQ (by omega) (by omega)]; omega
    have hfy : f * y k ≤ 30011 * 30011 := Nat.mul_le_mul (by omega) (by omega)
    have hz : f * y k % p < p := Nat.mod_lt _ (by omega)
    have hs := sm_J S (139 + r) k (lN ((x k + (p - f) * y k) % p))
    obtain ⟨S2, q1, q2, q3⟩ := below_48_ok (iv := iv) (x := x) (y := y) hp2 hp hn hc hr hrc hf K j m (k + 1) (setJ S (139 + r) k (lN ((x k + (p - f) * y k) % p))) (by omega) (by omega) (fun e h1 h2 => by rw [sJ_n (by omega)]; exact hx e (by omega) h2) (fun e h1 h2 => by rw [sJ_n (by omega)]; exact hy e (by omega) h2)
    refine ⟨S2, ?_, (hs.tr q2).mo (by intro a b z; omega), fun e h1 h2 => ?_⟩
    · rw [X8_clearBelow_48, if_neg (nI_ge (by omega) (by omega)), ck_n (show r < 12 by omega) (by omega), ck_n (show k < 12 by omega) (by omega), ck_n (show c < 12 by omega) (by omega), ck_n (show k < 12 by omega) (by omega), gu_t hpz, lt_x, ck_n (show r < 12 by omega) (by omega), lt_x, show rf 137 0 = 138 by decide +kernel, ix_n (show r < 2147483648 by omega), ix_n (show c < 2147483648 by omega), ix_n (show k < 2147483648 by omega), rf_138, rf_138, x1, y1, lN_mul, lrem_n (by omega) (by omega) (by omega)]
      have lo := less_ok (a := y k) hp2 hf x2
      have tI : (lN (x k) - lN (f * y k % p)).toInt = (x k : Int) - (f * y k % p : Nat) := by
        rw [l_sub (by rw [pk_lT (by omega), pk_lT (by omega)]; omega) (by rw [pk_lT (by omega), pk_lT (by omega)]; omega), pk_lT (by omega), pk_lT (by omega)]
      by_cases z : f * y k % p ≤ x k
      · rw [if_pos z] at lo
        rw [if_pos (by rw [le64, tI, show (0 : Int64).toInt = 0 from rfl]; omega)]
        dsimp only
        rw [ck_n (show k < 12 by omega) (by omega), lt_x, lt_x, e1, lN_sub z, ← lo]
        exact q1
      · rw [if_neg z] at lo
        rw [if_neg (by rw [le64, tI, show (0 : Int64).toInt = 0 from rfl]; omega)]
        dsimp only
        have e9 : lN (x k) - lN (f * y k % p) + Int32.toInt64 (nI p) = lN (x k + p - f * y k % p) := by
          rw [nI_l (by omega), ← lN_sub (by omega), ← lN_add, Int64.sub_eq_add_neg, Int64.sub_eq_add_neg, Int64.add_assoc, Int64.add_comm (-(lN (f * y k % p))), ← Int64.add_assoc]
        rw [ck_n (show k < 12 by omega) (by omega), lt_x, lt_x, e1, e9, ← lo]
        exact q1
    · by_cases he : e = k
      · rw [he, (q2 _ _ (fun z => by omega)).2, sJ_s]
      · exact q3 e (by omega) h2
theorem below_22_ok {c iv : Nat} (hp2 : 2 ≤ p) (hp : p ≤ 30011) (hn : n ≤ 12) (hc : c < n) (hiv : iv < p) (K : St → Int32 → Option (St × Unit)) : ∀ (j m r : Nat) (S : St) (A : Nat → Nat → Nat), r + j = n → j < m → c < r → CM S n A → AB n p A → ∃ S2, X8_clearBelow_22 137 (nI c) (nI n) (nI p) (lN iv) K m S (nI r) = K S2 (nI n) ∧ Sm (fun a _ => 139 ≤ a ∧ a < 139 + n) S S2 ∧ CM S2 n (clr p c iv j r A)
  | 0, 0, _, _, _, _, h, _, _, _ => absurd h (by omega)
  | j + 1, 0, _, _, _, _, h, _, _, _ => absurd h (by omega)
  | 0, m + 1, r, S, A, hrj, _, _, hC, _ => by
    refine ⟨S, ?_, Sm.rf, hC⟩
    rw [show r = n by omega, X8_clearBelow_22, if_pos (Int32.le_refl _)]
  | j + 1, m + 1, r, S, A, hrj, hm, hcr, hC, hB => by
    have e1 : nI r + (1 : Int32) = nI (r + 1) := nI_1 r
    have hpz : ¬ Int32.toInt64 (nI p) = 0 := by rw [nI_l (by omega), lN0, pk_lEQ (by omega) (by omega)]; omega
    have b1' := hB r c (by omega) hc
    have hai : A r c * iv ≤ 30011 * 30011 := Nat.mul_le_mul (by omega) (by omega)
    have hf : A r c * iv % p < p := Nat.mod_lt _ (by omega)
    obtain ⟨Sa, p1, p2, p3⟩ := below_48_ok (iv := lN iv) (x := A r) (y := A c) hp2 hp hn hc (show r < n by omega) (show r ≠ c by omega) hf (fun (S46 : St) (v47 : Int32) => lt (nI r + (1 : Int32)) fun v48 => X8_clearBelow_22 137 (nI c) (nI n) (nI p) (lN iv) K m S46 v48) (n - c) FU c S (by omega) (by unfold FU; omega) (fun e h1 h2 => ⟨hC r e (by omega) h2, hB r e (by omega) h2⟩) (fun e h1 h2 => ⟨hC c e hc h2, hB c e hc h2⟩)
    have hCa : CM Sa n (elm p A c iv r) := by
      intro i k hi hk
      show Sa.2 (139 + i) k = lN (if i = r ∧ c ≤ k then (A r k + (p - A r c * iv % p) * A c k) % p else A i k)
      by_cases z : i = r ∧ c ≤ k
      · rw [if_pos z, z.1]; exact p3 k z.2 hk
      · rw [if_neg z, (p2 _ _ (fun y => by omega)).2]; exact hC i k hi hk
    obtain ⟨S2, q1, q2, q3⟩ := below_22_ok hp2 hp hn hc hiv K j m (r + 1) Sa (elm p A c iv r) (by omega) (by omega) (by omega) hCa (hB.elm (by omega))
    refine ⟨S2, ?_, (p2.tr q2).mo (by intro a b z; omega), q3⟩
    rw [X8_clearBelow_22, if_neg (nI_ge (by omega) (by omega)), ck_n (show r < 12 by omega) (by omega), ck_n (show c < 12 by omega) (by omega), gu_t hpz, lt_x, show rf 137 0 = 138 by decide +kernel, ix_n (show r < 2147483648 by omega), ix_n (show c < 2147483648 by omega), rf_138, hC r c (by omega) hc, lN_mul, lrem_n (by omega) (by omega) (by omega), p1, lt_x, e1]
    exact q1
theorem below_ok {c : Nat} {A : Nat → Nat → Nat} (hp2 : 2 ≤ p) (hp : p ≤ 30011) (hn : n ≤ 12) (hc : c < n) (hC : CM S n A) (hB : AB n p A) : ∃ S2, X8_clearBelow S 137 (nI c) (nI n) (nI p) = some (S2, ()) ∧ Sm (fun a _ => 139 ≤ a ∧ a < 139 + n) S S2 ∧ CM S2 n (clr p c (ivs p (A c c)) (n - (c + 1)) (c + 1) A) := by
  have hcc := hB c c hc hc
  obtain ⟨y, s2, e2, v1, v2, v3⟩ := power_ok (S := S) hp2 hp (fun (S27 : St) (v28 : Int64) (v29 : Int64) (v30 : Int32) => some (S27, v28)) FU (p - 2) 1 (A c c) (by unfold FU; omega) (by omega) (by omega) hcc
  have ey : y = ivs p (A c c) := by rw [v3, Nat.one_mul]; rfl
  rw [ey] at v1 v2
  have e3 : X8_power S (lN (A c c)) (nI p - 2) (nI p) = some (S, lN (ivs p (A c c))) := by
    unfold X8_power
    rw [show (2 : Int32) = nI 2 from rfl, pk_sub (by omega), show (1 : Int64) = lN 1 from rfl, v1]
  obtain ⟨S2, q1, q2, q3⟩ := below_22_ok hp2 hp hn hc v2 (fun (S49 : St) (v50 : Int32) => some (S49, ())) (n - (c + 1)) FU (c + 1) S A (by omega) (by unfold FU; omega) (by omega) hC hB
  refine ⟨S2, ?_, q2, q3⟩
  unfold X8_clearBelow
  rw [ck_n (show c < 12 by omega) (by omega), ck_n (show c < 12 by omega) (by omega), show rf 137 0 = 138 by decide +kernel, ix_n (show c < 2147483648 by omega), rf_138, hC c c hc hc, e3, bd_x, lt_x, nI_1, q1]
theorem count_18_ok (hpr : Pr p) (hp : p ≤ 30011) (hi : ISl n kd w) : ∀ (j m c v : Nat) (S : St) (A : Nat → Nat → Nat), c + j = n → j < m → 0 < v → v < p → CSl S n kd w → CM S n A → AB n p A → ∃ S2, X8_countRows_18 137 1 (nI p) (fun (S35 : St) (v36 : Int64) (v37 : Int32) => some (S35, Int64.toInt32 v36)) m S (lN v) (nI c) = some (S2, nI (dtm p n j c v A)) ∧ Sm (fun a _ => 139 ≤ a ∧ a < 139 + n) S S2
  | 0, 0, _, _, _, _, _, h, _, _, _, _, _ => absurd h (by omega)
  | j + 1, 0, _, _, _, _, _, h, _, _, _, _, _ => absurd h (by omega)
  | 0, m + 1, c, v, S, A, hcj, _, _, _, h, _, _ => by
    refine ⟨S, ?_, Sm.rf⟩
    rw [show c = n by omega, X8_countRows_18, if_pos (by rw [h.1]; exact Int32.le_refl _), lN_i]
    rfl
  | j + 1, m + 1, c, v, S, A, hcj, hm, hv0, hv1, h, hC, hB => by
    have hn := hi.1
    have hp2 := hpr.1
    have hpz : ¬ Int32.toInt64 (nI p) = 0 := by rw [nI_l (by omega), lN0, pk_lEQ (by omega) (by omega)]; omega
    have e1 : nI c + (1 : Int32) = nI (c + 1) := nI_1 c
    have key := pivot_c hn (show c < n by omega) hC hB hp (n - c) FU c (by omega) (by unfold FU; omega)
    have e2 : X8_pivotOf S 137 (nI c) (nI n) = some (S, oI (pvt A n c)) := by
      unfold X8_pivotOf
      rw [key]
      rfl
    rw [X8_countRows_18, if_neg (by rw [h.1]; exact nI_ge (by omega) (by omega)), h.1, e2, bd_x, dtm]
    cases hq : pvt A n c with
    | none =>
      rw [if_neg (fun z => z rfl)]
      exact ⟨S, rfl, Sm.rf⟩
    | some q =>
      obtain ⟨q1, q2, q3⟩ := pvt_ok (by omega) hq
      have ne : ¬ oI (some q) = -1 := fun z => by
        have := (oI_m1 (o := some q) (fun q hq => by cases hq; omega)).mp z
        cases this
      rw [if_pos ne, show oI (some q) = nI q from rfl, lt_x]
      have hB1 := hB.swp q2 (show c < n by omega)
      have hcc : swp A q c c c = A q c := by unfold swp; rw [if_pos rfl]
      have hpos : 0 < swp A q c c c := by rw [hcc]; omega
      have hlt := hB1 c c (by omega) (by omega)
      have step : ∀ (Sa : St) (v1 : Nat), 0 < v1 → v1 < p → CSl Sa n kd w → CM Sa n (swp A q c) → ∃ S2, (fun (S25 : St) (v26 : Int64) => ck (nI c) 12 (ck (nI c) 12 (gu (¬ (Int32.toInt64 (nI p)) = 0) (lt (lrem (v26 * (S25.2 (rf (rf 137 0) (ix (nI c))) (ix (nI c)))) (Int32.toInt64 (nI p))) fun v30 => bd (X8_clearBelow S25 137 (nI c) (S25.1 1 3) (nI p)) fun S31 _ => lt (nI c + (1 : Int32)) fun v32 => X8_countRows_18 137 1 (nI p) (fun (S35 : St) (v36 : Int64) (v37 : Int32) => some (S35, Int64.toInt32 v36)) m S31 v30 v32)))) Sa (lN v1) = some (S2, nI (dtm p n j (c + 1) (v1 * swp A q c c c % p) (clr p c (ivs p (swp A q c c c)) (n - (c + 1)) (c + 1) (swp A q c)))) ∧ Sm (fun a _ => 139 ≤ a ∧ a < 139 + n) Sa S2 := by
        intro Sa v1 h1 h2 h3 h4
        have hvm : v1 * swp A q c c c ≤ 30011 * 30011 := Nat.mul_le_mul (by omega) (by omega)
        obtain ⟨Sb, b1', b2, b3⟩ := below_ok hp2 hp hn (show c < n by omega) h4 hB1
        obtain ⟨S2, t1, t2⟩ := count_18_ok hpr hp hi j m (c + 1) (v1 * swp A q c c c % p) Sb _ (by omega) (by omega) (hpr.nz h1 h2 hpos hlt) (Nat.mod_lt _ (by omega)) (h3.gs b2 (by intro a b ha hq; omega)) b3 (AB.clr (by omega) _ _ _ hB1)
        refine ⟨S2, ?_, (b2.tr t2).mo (by intro a b z; omega)⟩
        dsimp only
        rw [ck_n (show c < 12 by omega) (by omega), ck_n (show c < 12 by omega) (by omega), gu_t hpz, lt_x, h3.1, b1', bd_x, lt_x, e1, show rf 137 0 = 138 by decide +kernel, ix_n (show c < 2147483648 by omega), rf_138, h4 c c (by omega) (by omega), lN_mul, lrem_n (by omega) (by omega) (by omega)]
        exact t1
      by_cases z : q = c
      · rw [if_pos (show nI q = nI c by rw [z])]
        have := step S v hv0 hv1 h (fun i k hi hk => by
          unfold swp
          rw [z]
          by_cases y : i = c
          · rw [if_pos y, ← y]; exact hC i k hi hk
          · rw [if_neg y, if_neg y]; exact hC i k hi hk)
        simp only [if_pos z]
        exact this
      · rw [if_neg (show ¬ nI q = nI c from fun y => z ((nI_eq (by omega) (by omega)).mp y))]
        obtain ⟨Sa, s1, s2, s3⟩ := swap_c hn q2 (show c < n by omega) z (fun (S37 : St) (v38 : Int32) => some (S37, ())) n FU 0 S (by omega) (by unfold FU; omega)
        rw [nI_0] at s1
        have e9 : X8_swapRows S 137 (nI q) (nI c) (nI n) = some (Sa, ()) := by
          unfold X8_swapRows
          rw [s1]
        obtain ⟨S2, t1, t2⟩ := step Sa (p - v) (by omega) (by omega) (h.gs s2 (by intro a b ha hq; omega)) (fun i k hi hk => by
          unfold swp
          by_cases y : i = c
          · rw [if_pos y, y, (s3 k (by omega) hk).2]; exact hC q k q2 hk
          · rw [if_neg y]
            by_cases x : i = q
            · rw [if_pos x, x, (s3 k (by omega) hk).1]; exact hC c k (by omega) hk
            · rw [if_neg x, (s2 _ _ (fun z => by omega)).2]; exact hC i k hi hk)
        rw [h.1, e9, bd_x, lt_x, nI_l (show p < 2 ^ 31 by omega), lN_sub (by omega)]
        simp only [if_neg z]
        rw [nI_l (show p < 2 ^ 31 by omega)] at t1
        exact ⟨S2, t1, (s2.tr t2).mo (by intro a b z; omega)⟩
-- ---- the reference
theorem many_140_ok {A : Nat → Nat → Nat} {c : Nat} {v2 : Int64} (hn : n ≤ 12) (hc : c < n) (h0 : S.1 173 0 = nI n) (hC : MM S n A) (hB : AB n p A) (hp : p ≤ 30011) (K : St → Int32 → Option (St × Int32)) : ∀ (j m l : Nat), l + j = n → j < m → X11_many_140 173 (nI p) v2 (nI c) K m S (nI l) = K S (nI ((fstB (fun l => decide (A l c ≠ 0)) j l).getD n))
  | 0, 0, _, _, h => absurd h (by omega)
  | j + 1, 0, _, _, h => absurd h (by omega)
  | 0, m + 1, l, hlj, _ => by
    rw [show l = n by omega, X11_many_140, if_pos (by rw [h0]; exact Int32.le_refl _)]
    rfl
  | j + 1, m + 1, l, hlj, hm => by
    have hb := hB l c (by omega) hc
    rw [X11_many_140, if_neg (by rw [h0]; exact nI_ge (by omega) (by omega)), mi12, ck_n (show 12 * l + c < 144 by omega) (by omega), show rf 173 34 = 196 by decide +kernel, ix_n (by omega), hC l c (by omega) hc, lt_x, nI_1, many_140_ok hn hc h0 hC hB hp K j m (l + 1) (by omega) (by omega), fstB]
    have le : lN (A l c) = (0 : Int64) ↔ A l c = 0 := pk_lEQ (b := 0) (show A l c < 2 ^ 63 by omega) (show 0 < 2 ^ 63 by omega)
    by_cases z : A l c = 0
    · rw [if_neg (fun y => y (le.mpr z)), if_neg (show ¬ decide (A l c ≠ 0) = true from fun y => (of_decide_eq_true y) z)]
    · rw [if_pos (fun y => z (le.mp y)), if_pos (show decide (A l c ≠ 0) = true from decide_eq_true z)]; rfl
theorem swap_m {q c : Nat} {v2 : Int64} (hn : n ≤ 12) (hq : q < n) (hc : c < n) (K : St → Int32 → Option (St × Int32)) : ∀ (j m k : Nat) (S : St), k + j = n → j < m → S.1 173 0 = nI n → ∃ S2, X11_many_202 173 (nI p) v2 (nI c) (nI q) K m S (nI k) = K S2 (nI n) ∧ Sm (fun a b => a = 196 ∧ ((12 * q + k ≤ b ∧ b < 12 * q + n) ∨ (12 * c + k ≤ b ∧ b < 12 * c + n))) S S2 ∧ ∀ e, k ≤ e → e < n → S2.2 196 (12 * q + e) = S.2 196 (12 * c + e) ∧ S2.2 196 (12 * c + e) = S.2 196 (12 * q + e)
  | 0, 0, _, _, _, h, _ => absurd h (by omega)
  | j + 1, 0, _, _, _, h, _ => absurd h (by omega)
  | 0, m + 1, k, S, hkj, _, h0 => by
    refine ⟨S, ?_, Sm.rf, fun e h1 h2 => absurd h2 (by omega)⟩
    rw [show k = n by omega, X11_many_202, if_pos (by rw [h0]; exact Int32.le_refl _)]
  | j + 1, m + 1, k, S, hkj, hm, h0 => by
    have e1 : nI k + (1 : Int32) = nI (k + 1) := nI_1 k
    have hs := (sm_J S 196 (12 * q + k) (S.2 196 (12 * c + k))).tr (sm_J (setJ S 196 (12 * q + k) (S.2 196 (12 * c + k))) 196 (12 * c + k) (S.2 196 (12 * q + k)))
    obtain ⟨S2, q1, q2, q3⟩ := swap_m (v2 := v2) hn hq hc K j m (k + 1) (setJ (setJ S 196 (12 * q + k) (S.2 196 (12 * c + k))) 196 (12 * c + k) (S.2 196 (12 * q + k))) (by omega) (by omega) h0
    refine ⟨S2, ?_, (hs.tr q2).mo (by intro a b z; omega), fun e h1 h2 => ?_⟩
    · rw [X11_many_202, if_neg (by rw [h0]; exact nI_ge (by omega) (by omega))]
      simp only [lt_x, mi12, show rf 173 34 = 196 by decide +kernel, e1, ck_n (show 12 * q + k < 144 by omega) (show 144 < 2147483648 by omega), ck_n (show 12 * c + k < 144 by omega) (show 144 < 2147483648 by omega), ix_n (show 12 * q + k < 2147483648 by omega), ix_n (show 12 * c + k < 2147483648 by omega)]
      exact q1
    · by_cases he : e = k
      · rw [he, (q2 _ _ (fun z => by omega)).2, (q2 _ _ (fun z => by omega)).2]
        refine ⟨?_, sJ_s _ _ _ _⟩
        by_cases z : q = c
        · rw [z, sJ_s]
        · rw [sJ_n (by omega), sJ_s]
      · have := q3 e (by omega) h2
        rw [sJ_n (by omega), sJ_n (by omega), sJ_n (by omega), sJ_n (by omega)] at this
        exact this
theorem many_295_ok {A : Nat → Nat → Nat} {c iv : Nat} {v2 : Int64} (hp2 : 2 ≤ p) (hp : p ≤ 30011) (hn : n ≤ 12) (hc : c < n) (hC : MM S n A) (hB : AB n p A) (hiv : iv < p) (h1 : iv * A c c % p = 1) (K : St → Int64 → Option (St × Int32)) : ∀ (d m t : Nat), t + d = iv → d < m → X11_many_295 173 (nI p) v2 (nI c) K m S (lN t) = K S (lN iv)
  | 0, 0, _, _, h => absurd h (by omega)
  | d + 1, 0, _, _, h => absurd h (by omega)
  | 0, m + 1, t, ht, _ => by
    have hcc := hB c c hc hc
    have hpz : ¬ Int32.toInt64 (nI p) = 0 := by rw [nI_l (by omega), lN0, pk_lEQ (by omega) (by omega)]; omega
    have hb : iv * A c c ≤ 30011 * 30011 := Nat.mul_le_mul (by omega) (by omega)
    rw [show t = iv by omega, X11_many_295, mi12, ck_n (show 12 * c + c < 144 by omega) (by omega), gu_t hpz, show rf 173 34 = 196 by decide +kernel, ix_n (by omega), hC c c hc hc, lN_mul, lrem_n (by omega) (by omega) (by omega), h1, if_pos (show lN 1 = (1 : Int64) from rfl)]
  | d + 1, m + 1, t, ht, hm => by
    have hcc := hB c c hc hc
    have hpz : ¬ Int32.toInt64 (nI p) = 0 := by rw [nI_l (by omega), lN0, pk_lEQ (by omega) (by omega)]; omega
    have hb : t * A c c ≤ 30011 * 30011 := Nat.mul_le_mul (by omega) (by omega)
    have hlt : t * A c c % p < p := Nat.mod_lt _ (by omega)
    have hne : ¬ t * A c c % p = 1 := fun z => by
      have := inv_uniq hp2 (show t < p by omega) hiv z h1
      omega
    rw [X11_many_295, mi12, ck_n (show 12 * c + c < 144 by omega) (by omega), gu_t hpz, show rf 173 34 = 196 by decide +kernel, ix_n (by omega), hC c c hc hc, lN_mul, lrem_n (by omega) (by omega) (by omega), if_neg (show ¬ lN (t * A c c % p) = (1 : Int64) from fun z => hne ((pk_lEQ (b := 1) (by omega) (by omega)).mp z)), lt_x, lN_1]
    exact many_295_ok hp2 hp hn hc hC hB hiv h1 K d m (t + 1) (by omega) (by omega)
theorem many_368_ok {c r f : Nat} {v2 v6 : Int64} {x y : Nat → Nat} (hp2 : 2 ≤ p) (hp : p ≤ 30011) (hn : n ≤ 12) (hc : c < n) (hr : r < n) (hrc : r ≠ c) (hf : f < p) (K : St → Int32 → Option (St × Int32)) : ∀ (j m k : Nat) (S : St), k + j = n → j < m → S.1 173 0 = nI n → (∀ e, k ≤ e → e < n → S.2 196 (12 * r + e) = lN (x e) ∧ x e < p) → (∀ e, k ≤ e → e < n → S.2 196 (12 * c + e) = lN (y e) ∧ y e < p) → ∃ S2, X11_many_368 173 (nI p) v2 (nI c) v6 (nI r) (lN f) K m S (nI k) = K S2 (nI n) ∧ Sm (fun a b => a = 196 ∧ 12 * r + k ≤ b ∧ b < 12 * r + n) S S2 ∧ ∀ e, k ≤ e → e < n → S2.2 196 (12 * r + e) = lN ((x e + (p - f) * y e) % p)
  | 0, 0, _, _, _, h, _, _, _ => absurd h (by omega)
  | j + 1, 0, _, _, _, h, _, _, _ => absurd h (by omega)
  | 0, m + 1, k, S, hkj, _, h0, _, _ => by
    refine ⟨S, ?_, Sm.rf, fun e h1 h2 => absurd h2 (by omega)⟩
    rw [show k = n by omega, X11_many_368, if_pos (by rw [h0]; exact Int32.le_refl _)]
  | j + 1, m + 1, k, S, hkj, hm, h0, hx, hy => by
    have e1 : nI k + (1 : Int32) = nI (k + 1) := nI_1 k
    obtain ⟨x1, x2⟩ := hx k (by omega) (by omega)
    obtain ⟨y1, y2⟩ := hy k (by omega) (by omega)
    have hpz : ¬ Int32.toInt64 (nI p) = 0 := by rw [nI_l (by omega), lN0, pk_lEQ (by omega) (by omega)]; omega
    have hfy : (p - f) * y k ≤ 30011 * 30011 := Nat.mul_le_mul (by omega) (by omega)
    have hs := sm_J S 196 (12 * r + k) (lN ((x k + (p - f) * y k) % p))
    obtain ⟨S2, q1, q2, q3⟩ := many_368_ok (v2 := v2) (v6 := v6) (x := x) (y := y) hp2 hp hn hc hr hrc hf K j m (k + 1) (setJ S 196 (12 * r + k) (lN ((x k + (p - f) * y k) % p))) (by omega) (by omega) h0 (fun e h1 h2 => by rw [sJ_n (by omega)]; exact hx e (by omega) h2) (fun e h1 h2 => by rw [sJ_n (by omega)]; exact hy e (by omega) h2)
    refine ⟨S2, ?_, (hs.tr q2).mo (by intro a b z; omega), fun e h1 h2 => ?_⟩
    · have e9 : (Int32.toInt64 (nI p) - lN f) * lN (y k) = lN ((p - f) * y k) := by rw [nI_l (by omega), lN_sub (by omega), lN_mul]
      rw [X11_many_368, if_neg (by rw [h0]; exact nI_ge (by omega) (by omega)), mi12, mi12, ck_n (show 12 * r + k < 144 by omega) (by omega), ck_n (show 12 * c + k < 144 by omega) (by omega), gu_t hpz, ck_n (show 12 * r + k < 144 by omega) (by omega), lt_x, lt_x, e1, show rf 173 34 = 196 by decide +kernel, ix_n (show 12 * r + k < 2147483648 by omega), ix_n (show 12 * c + k < 2147483648 by omega), x1, y1, e9, lN_add, lrem_n (by omega) (by omega) (by omega)]
      exact q1
    · by_cases he : e = k
      · rw [he, (q2 _ _ (fun z => by omega)).2, sJ_s]
      · exact q3 e (by omega) h2
theorem many_334_ok {c iv : Nat} {v2 : Int64} (hp2 : 2 ≤ p) (hp : p ≤ 30011) (hn : n ≤ 12) (hc : c < n) (hiv : iv < p) (K : St → Int32 → Option (St × Int32)) : ∀ (j m r : Nat) (S : St) (A : Nat → Nat → Nat), r + j = n → j < m → c < r → S.1 173 0 = nI n → MM S n A → AB n p A → ∃ S2, X11_many_334 173 (nI p) v2 (nI c) (lN iv) K m S (nI r) = K S2 (nI n) ∧ Sm (fun a _ => a = 196) S S2 ∧ MM S2 n (clr p c iv j r A)
  | 0, 0, _, _, _, _, h, _, _, _, _ => absurd h (by omega)
  | j + 1, 0, _, _, _, _, h, _, _, _, _ => absurd h (by omega)
  | 0, m + 1, r, S, A, hrj, _, _, h0, hC, _ => by
    refine ⟨S, ?_, Sm.rf, hC⟩
    rw [show r = n by omega, X11_many_334, if_pos (by rw [h0]; exact Int32.le_refl _)]
  | j + 1, m + 1, r, S, A, hrj, hm, hcr, h0, hC, hB => by
    have e1 : nI r + (1 : Int32) = nI (r + 1) := nI_1 r
    have hpz : ¬ Int32.toInt64 (nI p) = 0 := by rw [nI_l (by omega), lN0, pk_lEQ (by omega) (by omega)]; omega
    have b1' := hB r c (by omega) hc
    have hai : A r c * iv ≤ 30011 * 30011 := Nat.mul_le_mul (by omega) (by omega)
    have hf : A r c * iv % p < p := Nat.mod_lt _ (by omega)
    obtain ⟨Sa, p1, p2, p3⟩ := many_368_ok (v2 := v2) (v6 := lN iv) (x := A r) (y := A c) hp2 hp hn hc (show r < n by omega) (show r ≠ c by omega) hf (fun (S77 : St) (v78 : Int32) => lt (nI r + (1 : Int32)) fun v79 => X11_many_334 173 (nI p) v2 (nI c) (lN iv) K m S77 v79) (n - c) FU c S (by omega) (by unfold FU; omega) h0 (fun e h1 h2 => ⟨hC r e (by omega) h2, hB r e (by omega) h2⟩) (fun e h1 h2 => ⟨hC c e hc h2, hB c e hc h2⟩)
    have hCa : MM Sa n (elm p A c iv r) := by
      intro i k hi hk
      show Sa.2 196 (12 * i + k) = lN (if i = r ∧ c ≤ k then (A r k + (p - A r c * iv % p) * A c k) % p else A i k)
      by_cases z : i = r ∧ c ≤ k
      · rw [if_pos z, z.1]; exact p3 k z.2 hk
      · rw [if_neg z, (p2 _ _ (fun y => by omega)).2]; exact hC i k hi hk
    obtain ⟨S2, q1, q2, q3⟩ := many_334_ok (v2 := v2) hp2 hp hn hc hiv K j m (r + 1) Sa (elm p A c iv r) (by omega) (by omega) (by omega) ((p2 _ _ (fun z => by omega)).1.trans h0) hCa (hB.elm (by omega))
    refine ⟨S2, ?_, (p2.tr q2).mo (by intro a b z; omega), q3⟩
    rw [X11_many_334, if_neg (by rw [h0]; exact nI_ge (by omega) (by omega)), mi12, ck_n (show 12 * r + c < 144 by omega) (by omega), gu_t hpz, lt_x, show rf 173 34 = 196 by decide +kernel, ix_n (show 12 * r + c < 2147483648 by omega), hC r c (by omega) hc, lN_mul, lrem_n (by omega) (by omega) (by omega), p1, lt_x, e1]
    exact q1
theorem many_127_ok (hpr : Pr p) (hp : p ≤ 30011) (hn : n ≤ 12) : ∀ (j m c v : Nat) (S : St) (A : Nat → Nat → Nat), c + j = n → j < m → 0 < v → v < p → S.1 173 0 = nI n → MM S n A → AB n p A → ∃ S2, X11_many_127 173 (nI p) (fun (S84 : St) (v85 : Int64) (v86 : Int32) => some (S84, Int64.toInt32 v85)) m S (lN v) (nI c) = some (S2, nI (dtm p n j c v A)) ∧ Sm (fun a _ => a = 196) S S2
  | 0, 0, _, _, _, _, _, h, _, _, _, _, _ => absurd h (by omega)
  | j + 1, 0, _, _, _, _, _, h, _, _, _, _, _ => absurd h (by omega)
  | 0, m + 1, c, v, S, A, hcj, _, _, _, h0, _, _ => by
    refine ⟨S, ?_, Sm.rf⟩
    rw [show c = n by omega, X11_many_127, if_pos (by rw [h0]; exact Int32.le_refl _), lN_i]
    rfl
  | j + 1, m + 1, c, v, S, A, hcj, hm, hv0, hv1, h0, hC, hB => by
    have hp2 := hpr.1
    have hpz : ¬ Int32.toInt64 (nI p) = 0 := by rw [nI_l (by omega), lN0, pk_lEQ (by omega) (by omega)]; omega
    have e1 : nI c + (1 : Int32) = nI (c + 1) := nI_1 c
    rw [X11_many_127, if_neg (by rw [h0]; exact nI_ge (by omega) (by omega)), many_140_ok hn (show c < n by omega) h0 hC hB hp _ (n - c) FU c (by omega) (by unfold FU; omega), h0, show fstB (fun l => decide (A l c ≠ 0)) (n - c) c = pvt A n c from rfl, dtm]
    cases hq : pvt A n c with
    | none =>
      rw [if_neg (fun z => z rfl)]
      exact ⟨S, rfl, Sm.rf⟩
    | some q =>
      obtain ⟨q1, q2, q3⟩ := pvt_ok (by omega) hq
      rw [show (some q : Option Nat).getD n = q from rfl, if_pos (show ¬ nI q = nI n from fun z => by have := (nI_eq (by omega) (by omega)).mp z; omega), lt_x]
      have hB1 := hB.swp q2 (show c < n by omega)
      have hcc : swp A q c c c = A q c := by unfold swp; rw [if_pos rfl]
      have hpos : 0 < swp A q c c c := by rw [hcc]; omega
      have hlt := hB1 c c (by omega) (by omega)
      have hinv : ivs p (swp A q c c c) * swp A q c c c % p = 1 := hpr.inv hpos hlt
      have hiv : ivs p (swp A q c c c) < p := Nat.mod_lt _ (by omega)
      have hiv0 : 0 < ivs p (swp A q c c c) := by
        rcases Nat.eq_zero_or_pos (ivs p (swp A q c c c)) with z | z
        · rw [z, Nat.zero_mul, Nat.zero_mod] at hinv; omega
        · exact z
      have step : ∀ (v1 : Nat), 0 < v1 → v1 < p → ∃ S2, (fun (S51 : St) (v52 : Int64) => X11_many_202 173 (nI p) v52 (nI c) (nI q) (fun (S61 : St) (v62 : Int32) => ck (((12 : Int32) * nI c) + nI c) 144 (gu (¬ (Int32.toInt64 (nI p)) = 0) (lt (lrem (v52 * (S61.2 (rf 173 34) (ix (((12 : Int32) * nI c) + nI c)))) (Int32.toInt64 (nI p))) fun v64 => X11_many_295 173 (nI p) v64 (nI c) (fun (S67 : St) (v68 : Int64) => lt (nI c + (1 : Int32)) fun v69 => X11_many_334 173 (nI p) v64 (nI c) v68 (fun (S80 : St) (v81 : Int32) => lt (nI c + (1 : Int32)) fun v82 => X11_many_127 173 (nI p) (fun (S84 : St) (v85 : Int64) (v86 : Int32) => some (S84, Int64.toInt32 v85)) m S80 v64 v82) FU S67 v69) FU S61 (1 : Int64)))) FU S51 (0 : Int32)) S (lN v1) = some (S2, nI (dtm p n j (c + 1) (v1 * swp A q c c c % p) (clr p c (ivs p (swp A q c c c)) (n - (c + 1)) (c + 1) (swp A q c)))) ∧ Sm (fun a _ => a = 196) S S2 := by
        intro v1 h1 h2
        have hvm : v1 * swp A q c c c ≤ 30011 * 30011 := Nat.mul_le_mul (by omega) (by omega)
        obtain ⟨Sa, s1, s2, s3⟩ := swap_m (p := p) (v2 := lN v1) hn q2 (show c < n by omega) (fun (S61 : St) (v62 : Int32) => ck (((12 : Int32) * nI c) + nI c) 144 (gu (¬ (Int32.toInt64 (nI p)) = 0) (lt (lrem (lN v1 * (S61.2 (rf 173 34) (ix (((12 : Int32) * nI c) + nI c)))) (Int32.toInt64 (nI p))) fun v64 => X11_many_295 173 (nI p) v64 (nI c) (fun (S67 : St) (v68 : Int64) => lt (nI c + (1 : Int32)) fun v69 => X11_many_334 173 (nI p) v64 (nI c) v68 (fun (S80 : St) (v81 : Int32) => lt (nI c + (1 : Int32)) fun v82 => X11_many_127 173 (nI p) (fun (S84 : St) (v85 : Int64) (v86 : Int32) => some (S84, Int64.toInt32 v85)) m S80 v64 v82) FU S67 v69) FU S61 (1 : Int64)))) n FU 0 S (by omega) (by unfold FU; omega) h0
        rw [nI_0] at s1
        have hCa : MM Sa n (swp A q c) := fun i k hi hk => by
          unfold swp
          by_cases y : i = c
          · rw [if_pos y, y, (s3 k (by omega) hk).2]; exact hC q k q2 hk
          · rw [if_neg y]
            by_cases x : i = q
            · rw [if_pos x, x, (s3 k (by omega) hk).1]; exact hC c k (by omega) hk
            · rw [if_neg x, (s2 _ _ (fun z => by omega)).2]; exact hC i k hi hk
        have h0a : Sa.1 173 0 = nI n := (s2 _ _ (fun z => by omega)).1.trans h0
        obtain ⟨Sb, b1', b2, b3⟩ := many_334_ok (v2 := lN (v1 * swp A q c c c % p)) hp2 hp hn (show c < n by omega) hiv (fun (S80 : St) (v81 : Int32) => lt (nI c + (1 : Int32)) fun v82 => X11_many_127 173 (nI p) (fun (S84 : St) (v85 : Int64) (v86 : Int32) => some (S84, Int64.toInt32 v85)) m S80 (lN (v1 * swp A q c c c % p)) v82) (n - (c + 1)) FU (c + 1) Sa (swp A q c) (by omega) (by unfold FU; omega) (by omega) h0a hCa hB1
        rw [e1] at b1'
        obtain ⟨S2, t1, t2⟩ := many_127_ok hpr hp hn j m (c + 1) (v1 * swp A q c c c % p) Sb _ (by omega) (by omega) (hpr.nz h1 h2 hpos hlt) (Nat.mod_lt _ (by omega)) ((b2 _ _ (fun z => by omega)).1.trans h0a) b3 (AB.clr (by omega) _ _ _ hB1)
        refine ⟨S2, ?_, ((s2.tr b2).tr t2).mo (by intro a b z; omega)⟩
        dsimp only
        rw [s1, mi12, ck_n (show 12 * c + c < 144 by omega) (by omega), gu_t hpz, lt_x, show rf 173 34 = 196 by decide +kernel, ix_n (show 12 * c + c < 2147483648 by omega), hCa c c (by omega) (by omega), lN_mul, lrem_n (by omega) (by omega) (by omega), show (1 : Int64) = lN 1 from rfl, many_295_ok hp2 hp hn (show c < n by omega) hCa hB1 hiv hinv _ (ivs p (swp A q c c c) - 1) FU 1 (by omega) (by unfold FU; omega), lt_x, e1, b1', lt_x]
        exact t1
      by_cases z : q = c
      · rw [if_pos (show nI q = nI c by rw [z])]
        have := step v hv0 hv1
        simp only [if_pos z]
        exact this
      · rw [if_neg (show ¬ nI q = nI c from fun y => z ((nI_eq (by omega) (by omega)).mp y)), gu_t hpz, lt_x]
        have := step (p - v) (by omega) (by omega)
        rw [nI_l (show p < 2 ^ 31 by omega), lN_sub (by omega)] 
        rw [nI_l (show p < 2 ^ 31 by omega)] at this
        have e9 : lrem (lN (p - v)) (lN p) = lN (p - v) := by
          have := lrem_n (a := p - v) (d := p) (by omega) (by omega) (by omega)
          rw [nI_l (by omega), Nat.mod_eq_of_lt (by omega)] at this
          exact this
        rw [e9]
        simp only [if_neg z]
        exact this
end
end
section
variable {S : St} {c : Nat}
theorem Ok.noS {n mn : Nat} {kd : Nat → Nat} {w : Nat → Nat → Nat} {g : Nat → Nat} {bg : Bool} {ρ : Type} {f m : St → Option (St × ρ)} {v : ρ} (hR : Rel S c n kd w bg g mn) {Sx : St} (hx : Sm (fun k _ => (21 ≤ k ∧ k ≤ 24) ∨ (133 ≤ k ∧ k ≤ 135) ∨ (137 ≤ k ∧ k ≤ 150) ∨ k = 172) S Sx) (hf : f S = some (Sx, v)) (hm : ∀ S1, CT S S1 → ∃ Sy, Sm (fun k _ => 193 ≤ k) S1 Sy ∧ m S1 = some (Sy, v)) : Ok S c f m := by
  have q : CT S Sx := hx.mo (by intro k j hk; omega)
  obtain ⟨Sy, y1, y2⟩ := hm _ q
  refine ⟨Sx, Sy, v, hf, y2, ?_⟩
  exact (hR.gs ((hx.tr y1).mo (by intro k j hk; unfold scr; omega))).x
theorem op_many (h : RelX S c) (u : Int32) : Ok S c (fun S => X10_many S 0 u) (fun S => X11_many S 173 u) := by
  obtain ⟨n, kd, w, bg, g, mn, hR⟩ := h
  have hR0 := hR
  obtain ⟨⟨a1, a2, a3, a4, a5, a6⟩, ⟨b1', b2, b3, b4⟩, ⟨c1, c2, c3, c4⟩, d1, d2⟩ := hR0
  have hn := a3.1
  have nN := nT (show n < 2147483648 by omega)
  have has := has_ok a1.1 hn
  have ha0 := a1.1
  have cb := b1'.1
  by_cases q1 : 2 ≤ u.toInt ∧ u.toInt ≤ 30011
  · obtain ⟨p, hp, rfl⟩ := inN_of (show inN u 30012 by unfold inN; omega) (by omega)
    have pN := nT (show p < 2147483648 by omega)
    rw [pN] at q1
    have hp2 : 2 ≤ p := by omega
    have kc := prime_c (S := S) (show p ≤ 30011 by omega) 200 FU 2 (by omega) (by omega) (by decide)
    have cP : X10_isPrimeInRange S (nI p) = some (S, bi (prT p 200 2)) := by
      unfold X10_isPrimeInRange
      rw [lt_x, if_neg (by rw [lt32, pN, show (2 : Int32).toInt = 2 by decide]; omega), if_pos (by rw [le32, pN, show (30011 : Int32).toInt = 30011 by decide]; omega)]
      exact kc
    have mP : ∀ S1, X11_isPrime S1 (nI p) = some (S1, bi (prT p 200 2)) := fun S1 => prime_m (S := S1) hp2 (show p ≤ 30011 by omega) 200 FU 2 (by omega) (by omega) (by decide)
    cases hpt : prT p 200 2 with
    | false =>
      rw [hpt] at cP mP
      refine Ok.fd hR (v := -1) ?_ ?_
      · show X10_many S 0 (nI p) = _
        simp only [X10_many, cP, bd_x, bi_f, not_true, if_false, found_c]
      · intro S1 q
        show X11_many S1 173 (nI p) = _
        simp only [X11_many, in_ok, bd_x, lt_x, ite_b1z, lits, pN, show (2 : Int32).toInt = 2 by decide, if_pos q1, mP, bi_f, not_true, if_false, found_m]
    | true =>
      have hpr := prT_pr hp2 (by omega) hpt
      rw [hpt] at cP mP
      cases bg with
      | false =>
        refine Ok.fd hR (v := -8) ?_ ?_
        · show X10_many S 0 (nI p) = _
          simp only [X10_many, cP, bd_x, bi_t, i10, not_false_iff, if_true, cb, bi_f, not_true, if_false, found_c]
        · intro S1 q
          have m2 := a2.gs q (by intro k j hk hq; omega)
          have isp := isPlace_ok m2.1 hn
          have mz := m2.1
          have mb : S1.1 173 3 = bi _ := (q.i (by omega)).trans b1'.2.1
          show X11_many S1 173 (nI p) = _
          simp only [X11_many, in_ok, bd_x, lt_x, ite_b1z, lits, pN, if_pos q1, mP, bi_t, i10, not_false_iff, if_true, mb, bi_f, not_true, if_false, found_m]
      | true =>
        by_cases q2 : two w n = true
        · have hAB : AB n p (ent w p) := fun i k _ _ => by
            unfold ent
            split <;> exact Nat.mod_lt _ (by omega)
          obtain ⟨Sa, f1, f2, f3⟩ := fill_2_ok a3 (show 0 < p by omega) (show p ≤ 30011 by omega) (fun (S38 : St) (v39 : Int32) => some (S38, ())) n FU 0 S (by omega) (by unfold FU; omega) a1
          obtain ⟨Sx, x1, x2⟩ := count_18_ok hpr (show p ≤ 30011 by omega) a3 n FU 0 1 Sa (ent w p) (by omega) (by unfold FU; omega) (by omega) (by omega) (a1.gs f2 (by intro a b ha hq; omega)) (fun i k hi hk => f3 i k (by omega) hi hk) hAB
          rw [nI_0] at f1 x1
          refine Ok.noS hR (v := nI (dtm p n n 0 1 (ent w p))) ((f2.tr x2).mo (by intro k j hk; omega)) ?_ (fun S1 q => ?_)
          · show X10_many S 0 (nI p) = _
            have cR : X8_countRows S 137 1 (nI p) = some (Sx, nI (dtm p n n 0 1 (ent w p))) := by
              unfold X8_countRows X8_fill
              rw [if_pos (by rw [le32, pN, show (2 : Int32).toInt = 2 by decide]; omega), f1, bd_x]
              exact x1
            simp only [X10_many, cP, bd_x, bi_t, i10, not_false_iff, if_true, cb, rfs, isTwoWay_ok a1 a3, ite_b1n, if_pos q2, cR]
          · have m2 := a2.gs q (by intro k j hk hq; omega)
            have isp := isPlace_ok m2.1 hn
            have mz := m2.1
            have mb : S1.1 173 3 = bi _ := (q.i (by omega)).trans b1'.2.1
            obtain ⟨Sb, g1, g2, g3⟩ := many_54_ok a3 (show 0 < p by omega) (show p ≤ 30011 by omega) (fun (S44 : St) (v45 : Int32) => X11_many_127 173 (nI p) (fun (S84 : St) (v85 : Int64) (v86 : Int32) => some (S84, Int64.toInt32 v85)) FU S44 (1 : Int64) (0 : Int32)) n FU 0 S1 (by omega) (by unfold FU; omega) m2
            obtain ⟨Sy, y1, y2⟩ := many_127_ok hpr (show p ≤ 30011 by omega) hn n FU 0 1 Sb (ent w p) (by omega) (by unfold FU; omega) (by omega) (by omega) ((g2 _ _ (fun z => by omega)).1.trans mz) (fun i k hi hk => g3 i k (by omega) hi hk) hAB
            rw [nI_0] at g1 y1
            refine ⟨Sy, (g2.tr y2).mo (by intro k j hk; omega), ?_⟩
            show X11_many S1 173 (nI p) = _
            simp only [X11_many, in_ok, bd_x, lt_x, ite_b1z, ite_b1n, lits, pN, if_pos q1, mP, bi_t, i10, not_false_iff, if_true, mb, isTwoWayM_ok m2 a3, if_pos q2]
            rw [g1]
            exact y1
        · refine Ok.fd hR (v := -12) ?_ ?_
          · show X10_many S 0 (nI p) = _
            simp only [X10_many, cP, bd_x, bi_t, i10, not_false_iff, if_true, cb, rfs, isTwoWay_ok a1 a3, ite_b1n, if_neg q2, found_c]
          · intro S1 q
            have m2 := a2.gs q (by intro k j hk hq; omega)
            have isp := isPlace_ok m2.1 hn
            have mz := m2.1
            have mb : S1.1 173 3 = bi _ := (q.i (by omega)).trans b1'.2.1
            show X11_many S1 173 (nI p) = _
            simp only [X11_many, in_ok, bd_x, lt_x, ite_b1z, ite_b1n, lits, pN, if_pos q1, mP, bi_t, i10, not_false_iff, if_true, mb, isTwoWayM_ok m2 a3, if_neg q2, found_m]
  · refine Ok.fd hR (v := -1) ?_ ?_
    · show X10_many S 0 u = _
      have cP : X10_isPrimeInRange S u = some (S, 0) := by
        unfold X10_isPrimeInRange
        rw [lt_x]
        by_cases z : u < 2
        · rw [if_pos z]
        · rw [if_neg z, if_neg (by simp only [lt32, le32, lits] at z ⊢; omega)]
      simp only [X10_many, cP, bd_x, not_true, if_false, found_c]
    · intro S1 q
      show X11_many S1 173 u = _
      simp only [X11_many, in_ok, bd_x, lt_x, ite_b1z, lits, if_neg q1, found_m]
end
