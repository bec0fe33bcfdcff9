/-! tools for the pure functions -/
theorem lt_e {α β : Type} (x : α) (f : α → β) : lt x f = f x := rfl
theorem bd_s {ρ σ : Type} (S : St) (r : ρ) (b : St → ρ → Option (St × σ)) : bd (some (S, r)) b = b S r := rfl
theorem gu_t {σ : Type} {c : Prop} [Decidable c] (h : c) (o : Option σ) : gu c o = o := if_pos h
theorem ck_n {σ : Type} {i n : Nat} (h : i < n) (hn : n < 2147483648) (o : Option σ) : ck (nI i) n o = o := if_neg (vp_in_nI h hn)
theorem ck_v {σ : Type} {i : Int32} {n : Nat} (h : vp_in i n) (o : Option σ) : ck i n o = o := if_neg h
theorem ix_n {i : Nat} (h : i < 2147483648) : ix (nI i) = i := nI_clamp h
theorem sI1 (S : St) (k j : Nat) (v : Int32) (a b : Nat) : (setI S k j v).1 a b = if a = k ∧ b = j then v else S.1 a b := rfl
theorem sI2 (S : St) (k j : Nat) (v : Int32) : (setI S k j v).2 = S.2 := rfl
theorem sJ1 (S : St) (k j : Nat) (v : Int64) : (setJ S k j v).1 = S.1 := rfl
theorem sJ2 (S : St) (k j : Nat) (v : Int64) (a b : Nat) : (setJ S k j v).2 a b = if a = k ∧ b = j then v else S.2 a b := rfl
theorem sR1 (S : St) (k : Nat) (f : Nat → Int32) (a b : Nat) : (setR S k f).1 a b = if a = k then f b else S.1 a b := rfl
theorem sR2 (S : St) (k : Nat) (f : Nat → Int32) : (setR S k f).2 = S.2 := rfl
theorem sL1 (S : St) (k : Nat) (f : Nat → Int64) : (setL S k f).1 = S.1 := rfl
theorem sL2 (S : St) (k : Nat) (f : Nat → Int64) (a b : Nat) : (setL S k f).2 a b = if a = k then f b else S.2 a b := rfl
theorem FU_is (k : Nat) (h : k ≤ 1000000000000) : ∃ m, FU = m + k := ⟨1000000000000 - k, by unfold FU; omega⟩
/-- cells outside T are as they were -/
def Same (T : Nat → Prop) (S S1 : St) : Prop := ∀ k, ¬ T k → S1.1 k = S.1 k ∧ S1.2 k = S.2 k
theorem Same.rf {T : Nat → Prop} {S : St} : Same T S S := fun _ _ => ⟨rfl, rfl⟩
theorem Same.tr {T U : Nat → Prop} {S S1 S2 : St} (h1 : Same T S S1) (h2 : Same U S1 S2) : Same (fun k => T k ∨ U k) S S2 := fun k hk => ⟨(h2 k (fun q => hk (Or.inr q))).1.trans (h1 k (fun q => hk (Or.inl q))).1, (h2 k (fun q => hk (Or.inr q))).2.trans (h1 k (fun q => hk (Or.inl q))).2⟩
theorem Same.mo {T U : Nat → Prop} {S S1 : St} (h1 : Same T S S1) (h : ∀ k, T k → U k) : Same U S S1 := fun k hk => h1 k (fun q => hk (h k q))
theorem same_I (S : St) (k j : Nat) (v : Int32) : Same (fun a => a = k) S (setI S k j v) := fun _ h => ⟨setI_ne h, rfl⟩
theorem same_J (S : St) (k j : Nat) (v : Int64) : Same (fun a => a = k) S (setJ S k j v) := fun _ h => ⟨rfl, setJ_ne h⟩
theorem same_R (S : St) (k : Nat) (f : Nat → Int32) : Same (fun a => a = k) S (setR S k f) := fun _ h => ⟨setR_ne h, rfl⟩
theorem same_L (S : St) (k : Nat) (f : Nat → Int64) : Same (fun a => a = k) S (setL S k f) := fun _ h => ⟨rfl, setL_ne h⟩
/-- 1 or 0 -/
def b1 (c : Prop) [Decidable c] : Int32 := if c then 1 else 0
theorem b1_t {c : Prop} [Decidable c] (h : c) : b1 c = 1 := if_pos h
theorem b1_f {c : Prop} [Decidable c] (h : ¬ c) : b1 c = 0 := if_neg h
theorem b1_z {c : Prop} [Decidable c] : (b1 c = 0) ↔ ¬ c := by
  unfold b1
  by_cases h : c
  · simp only [h, if_true, not_true, iff_false]; decide
  · simp [h]
theorem b1_g {c : Prop} [Decidable c] {σ : Type} (o : Option σ) : gu (b1 c = 0 ∨ b1 c = 1) o = o := gu_t (by
  by_cases h : c
  · exact Or.inr (b1_t h)
  · exact Or.inl (b1_f h)) o
theorem ite_b1z {c : Prop} [Decidable c] {α : Type} (a b : α) : (if b1 c = 0 then a else b) = if c then b else a := by
  by_cases h : c
  · rw [if_neg (by rw [b1_z]; exact fun q => q h), if_pos h]
  · rw [if_pos (b1_z.mpr h), if_neg h]
theorem ite_b1n {c : Prop} [Decidable c] {α : Type} (a b : α) : (if ¬ b1 c = 0 then a else b) = if c then a else b := by
  by_cases h : c
  · rw [if_pos (by rw [b1_z]; exact fun q => q h), if_pos h]
  · rw [if_neg (by rw [b1_z]; exact fun q => q h), if_neg h]
theorem lits : (0 : Int32).toInt = 0 ∧ (1 : Int32).toInt = 1 ∧ (2 : Int32).toInt = 2 ∧ (3 : Int32).toInt = 3 ∧ (4 : Int32).toInt = 4 ∧ (5 : Int32).toInt = 5 ∧ (6 : Int32).toInt = 6 ∧ (7 : Int32).toInt = 7 ∧ (8 : Int32).toInt = 8 ∧ (9 : Int32).toInt = 9 ∧ (12 : Int32).toInt = 12 ∧ (15 : Int32).toInt = 15 ∧ (16 : Int32).toInt = 16 ∧ (20 : Int32).toInt = 20 ∧ (32 : Int32).toInt = 32 ∧ (64 : Int32).toInt = 64 ∧ (200 : Int32).toInt = 200 ∧ (5000 : Int32).toInt = 5000 ∧ (-1 : Int32).toInt = -1 ∧ (-3 : Int32).toInt = -3 ∧ (30011 : Int32).toInt = 30011 ∧ (1000000 : Int32).toInt = 1000000 := by decide
theorem lt32 {x y : Int32} : x < y ↔ x.toInt < y.toInt := Int32.lt_iff_toInt_lt
theorem le32 {x y : Int32} : x ≤ y ↔ x.toInt ≤ y.toInt := Int32.le_iff_toInt_le
theorem eq32 {x y : Int32} : x = y ↔ x.toInt = y.toInt := Int32.toInt_inj.symm
theorem lt64 {x y : Int64} : x < y ↔ x.toInt < y.toInt := Int64.lt_iff_toInt_lt
theorem le64 {x y : Int64} : x ≤ y ↔ x.toInt ≤ y.toInt := Int64.le_iff_toInt_le
theorem eq64 {x y : Int64} : x = y ↔ x.toInt = y.toInt := Int64.toInt_inj.symm
theorem nT {n : Nat} (h : n < 2147483648) : (nI n).toInt = n := nI_toInt h
/-- an int among the first n -/
abbrev inN (v : Int32) (n : Nat) : Prop := 0 ≤ v.toInt ∧ v.toInt < n
abbrev inD (v : Int32) : Prop := -3 ≤ v.toInt ∧ v.toInt < 0
theorem inN_of {v : Int32} {n : Nat} (h : inN v n) (hn : n < 2147483648) : ∃ j, j < n ∧ v = nI j := vp_in_of (vp_in_iff.mpr h) hn
theorem inN_nI {i n : Nat} (h : i < n) (hn : n < 2147483648) : inN (nI i) n := by
  unfold inN
  rw [nT (by omega)]
  omega
theorem i_add {x y : Int32} (h1 : -2147483648 ≤ x.toInt + y.toInt) (h2 : x.toInt + y.toInt ≤ 2147483647) : (x + y).toInt = x.toInt + y.toInt := by
  rw [Int32.toInt_add]
  exact Int.bmod_eq_of_le (by simp; omega) (by simp; omega)
theorem i_sub {x y : Int32} (h1 : -2147483648 ≤ x.toInt - y.toInt) (h2 : x.toInt - y.toInt ≤ 2147483647) : (x - y).toInt = x.toInt - y.toInt := by
  rw [Int32.toInt_sub]
  exact Int.bmod_eq_of_le (by simp; omega) (by simp; omega)
theorem l_add {x y : Int64} (h1 : -9223372036854775808 ≤ x.toInt + y.toInt) (h2 : x.toInt + y.toInt ≤ 9223372036854775807) : (x + y).toInt = x.toInt + y.toInt := by
  rw [Int64.toInt_add]
  exact Int.bmod_eq_of_le (by simp; omega) (by simp; omega)
theorem l_sub {x y : Int64} (h1 : -9223372036854775808 ≤ x.toInt - y.toInt) (h2 : x.toInt - y.toInt ≤ 9223372036854775807) : (x - y).toInt = x.toInt - y.toInt := by
  rw [Int64.toInt_sub]
  exact Int.bmod_eq_of_le (by simp; omega) (by simp; omega)
/-- sums over the first k -/
def sN (f : Nat → Nat) : Nat → Nat
  | 0 => 0
  | k + 1 => sN f k + f k
theorem sN_congr {f g : Nat → Nat} : ∀ {k : Nat}, (∀ i, i < k → f i = g i) → sN f k = sN g k
  | 0, _ => rfl
  | k + 1, h => by
    show sN f k + f k = sN g k + g k
    rw [sN_congr (fun i hi => h i (by omega)), h k (by omega)]
theorem sN_le {f : Nat → Nat} : ∀ {k i : Nat}, i < k → f i ≤ sN f k
  | 0, _, h => absurd h (by omega)
  | k + 1, i, h => by
    show f i ≤ sN f k + f k
    by_cases e : i = k
    · rw [e]; omega
    · have := sN_le (f := f) (k := k) (i := i) (by omega)
      omega
theorem sN_mono {f : Nat → Nat} : ∀ {k j : Nat}, j ≤ k → sN f j ≤ sN f k
  | 0, j, h => by rw [show j = 0 by omega]; exact Nat.le_refl _
  | k + 1, j, h => by
    by_cases e : j = k + 1
    · rw [e]; exact Nat.le_refl _
    · have := sN_mono (f := f) (k := k) (j := j) (by omega)
      show sN f j ≤ sN f k + f k
      omega
/-- the layout of the two systems -/
theorem rfs : rf 0 0 = 1 ∧ rf 0 1 = 17 ∧ rf 0 2 = 21 ∧ rf 0 3 = 25 ∧ rf 0 4 = 28 ∧ rf 0 5 = 130 ∧ rf 0 6 = 132 ∧ rf 0 7 = 137 ∧ rf 0 8 = 151 ∧ rf 0 9 = 160 ∧ rf 0 10 = 161 ∧ rf 0 11 = 170 ∧ rf 0 12 = 172 ∧ rf 1 0 = 2 ∧ rf 1 1 = 3 ∧ rf 1 2 = 16 ∧ rf 17 0 = 1 ∧ rf 17 1 = 18 ∧ rf 17 2 = 19 ∧ rf 17 3 = 20 ∧ rf 21 0 = 1 ∧ rf 21 1 = 22 ∧ rf 21 2 = 23 ∧ rf 21 3 = 24 ∧ rf 25 0 = 1 ∧ rf 25 1 = 17 ∧ rf 25 2 = 26 ∧ rf 25 3 = 27 ∧ rf 28 0 = 29 ∧ rf 130 0 = 131 ∧ rf 132 0 = 133 ∧ rf 132 1 = 135 ∧ rf 132 2 = 136 ∧ rf 133 0 = 134 ∧ rf 137 0 = 138 ∧ rf 170 0 = 171 := by decide +kernel
theorem rfm : rf 173 1 = 174 ∧ rf 173 2 = 175 ∧ rf 173 4 = 176 ∧ rf 173 5 = 177 ∧ rf 173 9 = 178 ∧ rf 173 10 = 179 ∧ rf 173 12 = 180 ∧ rf 173 15 = 181 ∧ rf 173 16 = 182 ∧ rf 173 17 = 183 ∧ rf 173 19 = 184 ∧ rf 173 20 = 185 ∧ rf 173 21 = 186 ∧ rf 173 22 = 187 ∧ rf 173 25 = 188 ∧ rf 173 26 = 189 ∧ rf 173 27 = 190 ∧ rf 173 28 = 191 ∧ rf 173 29 = 192 ∧ rf 173 31 = 193 ∧ rf 173 32 = 194 ∧ rf 173 33 = 195 ∧ rf 173 34 = 196 ∧ rf 173 35 = 197 ∧ rf 173 36 = 198 := by decide +kernel
theorem rf_3 (i : Nat) : rf 3 i = 4 + i := by simp [rf]
theorem rf_29 (i : Nat) : rf 29 i = 30 + 5 * i := by simp [rf]
theorem rf_138 (i : Nat) : rf 138 i = 139 + i := by simp [rf]
theorem rf_151 (i : Nat) : rf 151 i = 152 + i := by simp [rf]
theorem rf_161 (i : Nat) : rf 161 i = 162 + 2 * i := by simp [rf]
theorem rf_mom {i : Nat} (h : i < 20) : rf (30 + 5 * i) 0 = 31 + 5 * i ∧ rf (30 + 5 * i) 1 = 32 + 5 * i ∧ rf (30 + 5 * i) 2 = 33 + 5 * i ∧ rf (30 + 5 * i) 3 = 34 + 5 * i := (by decide +kernel : ∀ i, i < 20 → rf (30 + 5 * i) 0 = 31 + 5 * i ∧ rf (30 + 5 * i) 1 = 32 + 5 * i ∧ rf (30 + 5 * i) 2 = 33 + 5 * i ∧ rf (30 + 5 * i) 3 = 34 + 5 * i) i h
theorem rf_ter {i : Nat} (h : i < 4) : rf (162 + 2 * i) 0 = 163 + 2 * i := (by decide +kernel : ∀ i, i < 4 → rf (162 + 2 * i) 0 = 163 + 2 * i) i h
