/-! primes and inverses -/
def bc : Nat → Nat → Nat
  | _, 0 => 1
  | 0, _ + 1 => 0
  | n + 1, k + 1 => bc n k + bc n (k + 1)
theorem bc_0 (n : Nat) : bc n 0 = 1 := by cases n <;> rfl
theorem bc_s (n k : Nat) : bc (n + 1) (k + 1) = bc n k + bc n (k + 1) := rfl
theorem bc_big : ∀ (n k : Nat), n < k → bc n k = 0
  | 0, 0, h => absurd h (by omega)
  | 0, k + 1, _ => rfl
  | n + 1, 0, h => absurd h (by omega)
  | n + 1, k + 1, h => by rw [bc_s, bc_big n k (by omega), bc_big n (k + 1) (by omega)]
theorem bc_nn : ∀ n, bc n n = 1
  | 0 => rfl
  | n + 1 => by rw [bc_s, bc_nn n, bc_big n (n + 1) (by omega)]
theorem bc_id : ∀ (n k : Nat), (k + 1) * bc (n + 1) (k + 1) = (n + 1) * bc n k
  | 0, 0 => rfl
  | 0, k + 1 => by rw [bc_s, bc_big 0 (k + 1) (by omega), bc_big 0 (k + 1 + 1) (by omega)]; simp
  | n + 1, 0 => by
    have h := bc_id n 0
    rw [bc_0] at h
    rw [bc_s, bc_0, Nat.mul_add, h]
    omega
  | n + 1, k + 1 => by
    have h1 := bc_id n (k + 1)
    have h2 := bc_id n k
    rw [bc_s (n + 1) (k + 1), Nat.mul_add, h1]
    have e : (k + 1 + 1) * bc (n + 1) (k + 1) = (k + 1) * bc (n + 1) (k + 1) + bc (n + 1) (k + 1) := by rw [Nat.succ_mul]
    rw [e, h2]
    have e2 : (n + 1 + 1) * bc (n + 1) (k + 1) = (n + 1) * bc (n + 1) (k + 1) + bc (n + 1) (k + 1) := by rw [Nat.succ_mul]
    rw [e2]
    have e3 : (n + 1) * bc (n + 1) (k + 1) = (n + 1) * bc n k + (n + 1) * bc n (k + 1) := by rw [bc_s, Nat.mul_add]
    rw [e3]
    omega
theorem sN_front (f : Nat → Nat) : ∀ m, sN f (m + 1) = f 0 + sN (fun k => f (k + 1)) m
  | 0 => by show 0 + f 0 = f 0 + 0; omega
  | m + 1 => by
    show sN f (m + 1) + f (m + 1) = f 0 + (sN (fun k => f (k + 1)) m + f (m + 1))
    rw [sN_front f m]
    omega
theorem sN_plus (f g : Nat → Nat) : ∀ m, sN (fun k => f k + g k) m = sN f m + sN g m
  | 0 => rfl
  | m + 1 => by
    show sN (fun k => f k + g k) m + (f m + g m) = (sN f m + f m) + (sN g m + g m)
    rw [sN_plus f g m]
    omega
theorem sN_times (a : Nat) (f : Nat → Nat) : ∀ m, sN (fun k => a * f k) m = a * sN f m
  | 0 => rfl
  | m + 1 => by
    show sN (fun k => a * f k) m + a * f m = a * (sN f m + f m)
    rw [sN_times a f m, Nat.mul_add]
theorem binom (a : Nat) : ∀ n, sN (fun k => bc n k * a ^ k) (n + 1) = (a + 1) ^ n
  | 0 => by show 0 + bc 0 0 * a ^ 0 = 1; rw [bc_0]; simp
  | n + 1 => by
    have ih := binom a n
    rw [sN_front]
    have e1 : sN (fun k => bc (n + 1) (k + 1) * a ^ (k + 1)) (n + 1) = sN (fun k => a * (bc n k * a ^ k) + bc n (k + 1) * a ^ (k + 1)) (n + 1) := sN_congr (fun k _ => by
      rw [bc_s, Nat.add_mul, Nat.pow_succ]
      congr 1
      rw [Nat.mul_comm (a ^ k) a, ← Nat.mul_assoc, Nat.mul_comm (bc n k) a, Nat.mul_assoc])
    rw [e1, sN_plus, sN_times, ih]
    have e2 : (bc (n + 1) 0 * a ^ 0) + sN (fun k => bc n (k + 1) * a ^ (k + 1)) (n + 1) = (a + 1) ^ n := by
      have h := sN_front (fun k => bc n k * a ^ k) (n + 1)
      have h2 : sN (fun k => bc n k * a ^ k) (n + 1 + 1) = sN (fun k => bc n k * a ^ k) (n + 1) + bc n (n + 1) * a ^ (n + 1) := rfl
      rw [h2, bc_big n (n + 1) (by omega), ih] at h
      rw [bc_0] at h ⊢
      omega
    rw [Nat.pow_succ, Nat.mul_add, Nat.mul_one, Nat.mul_comm ((a + 1) ^ n) a]
    omega
def Pr (p : Nat) : Prop := 2 ≤ p ∧ ∀ d, 2 ≤ d → d * d ≤ p → ¬ p % d = 0
theorem Pr.div {p d : Nat} (h : Pr p) (hd : d ∣ p) : d = 1 ∨ d = p := by
  obtain ⟨e, he⟩ := hd
  have h2 := h.1
  rcases Nat.lt_or_ge d 2 with z | z
  · rcases Nat.eq_zero_or_pos d with y | y
    · rw [y, Nat.zero_mul] at he; omega
    · left; omega
  · rcases Nat.lt_or_ge e 2 with x | x
    · rcases Nat.eq_zero_or_pos e with y | y
      · rw [y, Nat.mul_zero] at he; omega
      · right
        rw [show e = 1 by omega, Nat.mul_one] at he
        exact he.symm
    · exfalso
      rcases Nat.le_total d e with y | y
      · exact h.2 d z (by rw [he]; exact Nat.mul_le_mul_left d y) (by rw [he]; exact Nat.mul_mod_right d e)
      · exact h.2 e x (by rw [he]; exact Nat.mul_le_mul_right e y) (by rw [he]; exact Nat.mul_mod_left d e)
theorem Pr.euc {p a b : Nat} (h : Pr p) (hd : p ∣ a * b) : p ∣ a ∨ p ∣ b := by
  rcases h.div (Nat.gcd_dvd_left p b) with e | e
  · left
    exact Nat.Coprime.dvd_of_dvd_mul_right (show Nat.Coprime p b from e) hd
  · right
    rw [← e]; exact Nat.gcd_dvd_right p b
theorem Pr.bcd {p k : Nat} (h : Pr p) (h1 : 0 < k) (h2 : k < p) : p ∣ bc p k := by
  obtain ⟨q, rfl⟩ : ∃ q, p = q + 1 := ⟨p - 1, by omega⟩
  obtain ⟨j, rfl⟩ : ∃ j, k = j + 1 := ⟨k - 1, by omega⟩
  have e := bc_id q j
  rcases h.euc (show (q + 1) ∣ (j + 1) * bc (q + 1) (j + 1) from ⟨_, e⟩) with z | z
  · exact absurd (Nat.le_of_dvd (by omega) z) (by omega)
  · exact z
theorem sN_dvd {p : Nat} {f : Nat → Nat} : ∀ m, (∀ k, k < m → p ∣ f k) → p ∣ sN f m
  | 0, _ => ⟨0, rfl⟩
  | m + 1, h => by
    show p ∣ sN f m + f m
    exact Nat.dvd_add (sN_dvd m (fun k hk => h k (by omega))) (h m (by omega))
theorem Pr.step {p : Nat} (h : Pr p) (a : Nat) : (a + 1) ^ p % p = (a ^ p + 1) % p := by
  have h2 := h.1
  have e := binom a p
  obtain ⟨q, hq⟩ : ∃ q, p = q + 1 := ⟨p - 1, by omega⟩
  have e2 : sN (fun k => bc p k * a ^ k) (p + 1) = sN (fun k => bc p k * a ^ k) p + bc p p * a ^ p := rfl
  have e3 : sN (fun k => bc p k * a ^ k) p = 1 + sN (fun k => bc p (k + 1) * a ^ (k + 1)) q := by
    rw [show sN (fun k => bc p k * a ^ k) p = sN (fun k => bc p k * a ^ k) (q + 1) by rw [← hq], sN_front, bc_0]
    rw [Nat.pow_zero]
  have e4 : p ∣ sN (fun k => bc p (k + 1) * a ^ (k + 1)) q := sN_dvd q (fun k hk => Nat.dvd_mul_right_of_dvd (h.bcd (by omega) (by omega)) _)
  obtain ⟨z, hz⟩ := e4
  rw [← e, e2, e3, hz, bc_nn, Nat.one_mul, show 1 + p * z + a ^ p = a ^ p + 1 + p * z by omega, Nat.add_mul_mod_self_left]
theorem Pr.fer {p : Nat} (h : Pr p) : ∀ a, a ^ p % p = a % p
  | 0 => by rw [Nat.zero_pow (by have := h.1; omega)]
  | a + 1 => by rw [h.step, Nat.add_mod, h.fer a, ← Nat.add_mod]
theorem dvd_sub {p a b : Nat} (h : a % p = b % p) (hab : a ≤ b) : p ∣ b - a := ⟨b / p - a / p, by
  rw [Nat.mul_sub]
  have h1 := Nat.div_add_mod a p
  have h2 := Nat.div_add_mod b p
  omega⟩
theorem Pr.inv {p a : Nat} (h : Pr p) (h1 : 0 < a) (h2 : a < p) : a ^ (p - 2) % p * a % p = 1 := by
  have hp := h.1
  have e1 : a ^ (p - 2) % p * a % p = a ^ (p - 1) % p := by
    rw [Nat.mod_mul_mod, ← Nat.pow_succ, show (p - 2).succ = p - 1 by omega]
  rw [e1]
  have e2 := h.fer a
  have e3 : a ^ p = a * a ^ (p - 1) := by rw [Nat.mul_comm, ← Nat.pow_succ, show (p - 1).succ = p by omega]
  have pos : 0 < a ^ (p - 1) := Nat.pow_pos h1
  have e4 : p ∣ a * (a ^ (p - 1) - 1) := by
    have h5 : (a * a ^ (p - 1)) % p = a % p := by rw [← e3]; exact e2
    have h6 : a ≤ a * a ^ (p - 1) := Nat.le_mul_of_pos_right a pos
    have h7 := dvd_sub h5.symm h6
    rw [Nat.mul_sub, Nat.mul_one]
    exact h7
  rcases h.euc e4 with z | z
  · exact absurd (Nat.le_of_dvd h1 z) (by omega)
  · obtain ⟨q, hq⟩ := z
    rw [show a ^ (p - 1) = 1 + p * q by omega, Nat.add_mul_mod_self_left]
    exact Nat.mod_eq_of_lt (by omega)
theorem inv_uniq {p a s t : Nat} (hp : 2 ≤ p) (hs : s < p) (ht : t < p) (h1 : s * a % p = 1) (h2 : t * a % p = 1) : s = t := by
  have e1 : s * (t * a) % p = s % p := by rw [Nat.mul_mod, h2, Nat.mul_one, Nat.mod_mod]
  have e2 : t * (s * a) % p = t % p := by rw [Nat.mul_mod, h1, Nat.mul_one, Nat.mod_mod]
  have e3 : s * (t * a) = t * (s * a) := by rw [← Nat.mul_assoc, ← Nat.mul_assoc, Nat.mul_comm s t]
  rw [e3, e2, Nat.mod_eq_of_lt hs, Nat.mod_eq_of_lt ht] at e1
  exact e1.symm
theorem Pr.nz {p a b : Nat} (h : Pr p) (ha : 0 < a) (ha2 : a < p) (hb : 0 < b) (hb2 : b < p) : 0 < a * b % p := by
  rcases Nat.eq_zero_or_pos (a * b % p) with z | z
  · rcases h.euc (Nat.dvd_of_mod_eq_zero z) with y | y
    · exact absurd (Nat.le_of_dvd ha y) (by omega)
    · exact absurd (Nat.le_of_dvd hb y) (by omega)
  · exact z
/-- taking f times a from x, modulo p, in the two ways that there are -/
theorem less_ok {p f a x : Nat} (hp : 2 ≤ p) (hf : f < p) (hx : x < p) : (x + (p - f) * a) % p = if f * a % p ≤ x then x - f * a % p else x + p - f * a % p := by
  have hy : f * a % p < p := Nat.mod_lt _ (by omega)
  have e1 : (p - f) * a + f * a = p * a := by rw [← Nat.add_mul, show p - f + f = p by omega]
  have e2 : ((p - f) * a % p + f * a % p) % p = 0 := by rw [← Nat.add_mod, e1]; exact Nat.mul_mod_right p a
  have hT : (p - f) * a % p < p := Nat.mod_lt _ (by omega)
  rw [Nat.add_mod]
  rw [Nat.mod_eq_of_lt hx]
  generalize (p - f) * a % p = T at e2 hT ⊢
  generalize f * a % p = y at e2 hy ⊢
  have e3 : T + y = 0 ∨ T + y = p := by
    rcases Nat.lt_or_ge (T + y) p with z | z
    · rw [Nat.mod_eq_of_lt z] at e2; exact Or.inl e2
    · right
      have : T + y = (T + y - p) + p := by omega
      rw [this, Nat.add_mod_right, Nat.mod_eq_of_lt (by omega)] at e2
      omega
  split
  · next z =>
    rcases e3 with w | w
    · rw [show T = 0 by omega, Nat.add_zero, Nat.mod_eq_of_lt hx]; omega
    · rcases Nat.eq_zero_or_pos y with v | v
      · omega
      · rw [show x + T = (x - y) + p by omega, Nat.add_mod_right, Nat.mod_eq_of_lt (by omega)]
  · next z =>
    rw [show x + T = x + p - y by omega, Nat.mod_eq_of_lt (by omega)]
