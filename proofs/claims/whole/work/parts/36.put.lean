/-! put, reset, told, anew -/
theorem put8 (x : Int64) : (x <<< (Int32.toInt64 ((64 : Int32) - nI 8) &&& 63)) >>> (Int32.toInt64 ((64 : Int32) - nI 8) &&& 63) = Int32.toInt64 (Int8.toInt32 (Int32.toInt8 (Int64.toInt32 x))) := by
  have e : Int32.toInt64 ((64 : Int32) - nI 8) &&& 63 = 56 := by decide +kernel
  rw [e]
  apply Int64.toBitVec_inj.mp
  rw [Int64.toBitVec_shiftRight, Int64.toBitVec_shiftLeft, Int32.toBitVec_toInt64, Int8.toBitVec_toInt32, Int32.toBitVec_toInt8, Int64.toBitVec_toInt32]
  show (x.toBitVec <<< ((56 : Int64).toBitVec.smod 64).toNat).sshiftRight ((56 : Int64).toBitVec.smod 64).toNat = (((x.toBitVec.signExtend 32).signExtend 8).signExtend 32).signExtend 64
  rw [show ((56 : Int64).toBitVec.smod 64).toNat = 56 by decide +kernel]
  apply BitVec.eq_of_getLsbD_eq
  intro i hi
  rw [BitVec.getLsbD_sshiftRight]
  simp only [BitVec.getLsbD_signExtend, BitVec.msb_eq_getLsbD_last, BitVec.getLsbD_shiftLeft]
  rcases Nat.lt_or_ge i 8 with h | h
  · simp [h, hi, show i < 32 by omega, show 56 + i < 64 by omega, show ¬ 64 ≤ i by omega, show ¬ 56 + i < 56 by omega]
  · rcases Nat.lt_or_ge i 32 with h2 | h2
    · simp [hi, h2, show ¬ i < 8 by omega, show ¬ 56 + i < 64 by omega]
    · simp [hi, show ¬ i < 32 by omega, show ¬ i < 8 by omega, show ¬ 56 + i < 64 by omega]
theorem put16 (x : Int64) : (x <<< (Int32.toInt64 ((64 : Int32) - nI 16) &&& 63)) >>> (Int32.toInt64 ((64 : Int32) - nI 16) &&& 63) = Int32.toInt64 (Int16.toInt32 (Int32.toInt16 (Int64.toInt32 x))) := by
  have e : Int32.toInt64 ((64 : Int32) - nI 16) &&& 63 = 48 := by decide +kernel
  rw [e]
  apply Int64.toBitVec_inj.mp
  rw [Int64.toBitVec_shiftRight, Int64.toBitVec_shiftLeft, Int32.toBitVec_toInt64, Int16.toBitVec_toInt32, Int32.toBitVec_toInt16, Int64.toBitVec_toInt32]
  show (x.toBitVec <<< ((48 : Int64).toBitVec.smod 64).toNat).sshiftRight ((48 : Int64).toBitVec.smod 64).toNat = (((x.toBitVec.signExtend 32).signExtend 16).signExtend 32).signExtend 64
  rw [show ((48 : Int64).toBitVec.smod 64).toNat = 48 by decide +kernel]
  apply BitVec.eq_of_getLsbD_eq
  intro i hi
  rw [BitVec.getLsbD_sshiftRight]
  simp only [BitVec.getLsbD_signExtend, BitVec.msb_eq_getLsbD_last, BitVec.getLsbD_shiftLeft]
  rcases Nat.lt_or_ge i 16 with h | h
  · simp [h, hi, show i < 32 by omega, show 48 + i < 64 by omega, show ¬ 64 ≤ i by omega, show ¬ 48 + i < 48 by omega]
  · rcases Nat.lt_or_ge i 32 with h2 | h2
    · simp [hi, h2, show ¬ i < 16 by omega, show ¬ 48 + i < 64 by omega]
    · simp [hi, show ¬ i < 32 by omega, show ¬ i < 16 by omega, show ¬ 48 + i < 64 by omega]
theorem put32 (x : Int64) : (x <<< (Int32.toInt64 ((64 : Int32) - nI 32) &&& 63)) >>> (Int32.toInt64 ((64 : Int32) - nI 32) &&& 63) = Int32.toInt64 (Int64.toInt32 x) := by
  have e : Int32.toInt64 ((64 : Int32) - nI 32) &&& 63 = 32 := by decide +kernel
  rw [e]
  apply Int64.toBitVec_inj.mp
  rw [Int64.toBitVec_shiftRight, Int64.toBitVec_shiftLeft, Int32.toBitVec_toInt64, Int64.toBitVec_toInt32]
  show (x.toBitVec <<< ((32 : Int64).toBitVec.smod 64).toNat).sshiftRight ((32 : Int64).toBitVec.smod 64).toNat = (x.toBitVec.signExtend 32).signExtend 64
  rw [show ((32 : Int64).toBitVec.smod 64).toNat = 32 by decide +kernel]
  apply BitVec.eq_of_getLsbD_eq
  intro i hi
  rw [BitVec.getLsbD_sshiftRight]
  simp only [BitVec.getLsbD_signExtend, BitVec.msb_eq_getLsbD_last, BitVec.getLsbD_shiftLeft]
  rcases Nat.lt_or_ge i 32 with h | h
  · simp [h, hi, show 32 + i < 64 by omega, show ¬ 64 ≤ i by omega, show ¬ 32 + i < 32 by omega]
  · simp [hi, show ¬ i < 32 by omega, show ¬ 32 + i < 64 by omega]
theorem put64 (x : Int64) : (x <<< (Int32.toInt64 ((64 : Int32) - nI 64) &&& 63)) >>> (Int32.toInt64 ((64 : Int32) - nI 64) &&& 63) = x := by
  have e : Int32.toInt64 ((64 : Int32) - nI 64) &&& 63 = 0 := by decide +kernel
  rw [e]
  apply Int64.toBitVec_inj.mp
  rw [Int64.toBitVec_shiftRight, Int64.toBitVec_shiftLeft]
  show (x.toBitVec <<< ((0 : Int64).toBitVec.smod 64).toNat).sshiftRight ((0 : Int64).toBitVec.smod 64).toNat = x.toBitVec
  rw [show ((0 : Int64).toBitVec.smod 64).toNat = 0 by decide +kernel]
  simp
section
variable {S : St} {c : Nat}
theorem miss_c {k b : Nat} (hb : b < 100) (h : S.1 k 1 = nI b) : X9_isMissing S k = some (S, b1 (b = 0)) := by
  unfold X9_isMissing b1
  simp only [h, show (0 : Int32) = nI 0 from rfl, nI_eq (show b < 2 ^ 31 by omega) (show 0 < 2 ^ 31 by omega)]
  repeat' split
  all_goals first | rfl | contradiction
theorem op_put (h : RelX S c) (u v : Int32) (x : Int64) : Ok S c (fun S => X10_put S 0 u v x) (fun S => X11_put S 173 u v x) := by
  obtain ⟨n, kd, w, bg, g, mn, hR⟩ := h
  have hR0 := hR
  obtain ⟨⟨a1, a2, a3, a4, a5, a6⟩, ⟨b1', b2, b3, b4⟩, ⟨c1, c2, c3, c4⟩, d1, d2⟩ := hR0
  have hn := a3.1
  have nN := nT (show n < 2147483648 by omega)
  have has := has_ok a1.1 hn
  have ha0 := a1.1
  have cb := b1'.1
  by_cases q1 : inN u 4
  · obtain ⟨t, ht, rfl⟩ := inN_of q1 (by omega)
    obtain ⟨b, l, hb, hl, t1, t2, t3, t4, t5⟩ := d1 t ht
    have ms := miss_c (S := S) (show b < 100 by omega) t1
    have lN' := nT (show l < 2147483648 by omega)
    have el : (nI l - (1 : Int32)).toInt = (l : Int) - 1 := by
      rw [i_sub (by rw [lN', lits.2.1]; omega) (by rw [lN', lits.2.1]; omega), lN', lits.2.1]
    have mt2 : ∀ S1, CT S S1 → S1.1 184 t = nI b ∧ S1.1 185 t = nI l := fun S1 q => ⟨(q.i (by omega)).trans t2, (q.i (by omega)).trans t4⟩
    by_cases q2 : b = 0
    · refine Ok.fd hR (v := -9223372036854775808) ?_ ?_
      · show X10_put S 0 (nI t) v x = _
        simp only [X10_put, X10_foundByPut, isTer_c, bd_s, lt_e, ite_b1z, ite_b1n, if_pos q1, ck_n ht (show 4 < 2147483648 by omega), rfs, rf_161, ix_n (show t < 2147483648 by omega), ms, if_pos q2, found_c]
      · intro S1 q
        show X11_put S1 173 (nI t) v x = _
        simp only [X11_put, isTer_m, bd_s, lt_e, ite_b1z, if_pos q1, ck_n ht (show 4 < 2147483648 by omega), rfm, ix_n (show t < 2147483648 by omega), (mt2 S1 q).1, q2]
        rfl
    · have bne : ¬ nI b = 0 := nI_ne0 (by omega) (by omega)
      by_cases q3 : inN v l
      · obtain ⟨i, hi, rfl⟩ := inN_of q3 (by omega)
        have iN := nT (show i < 2147483648 by omega)
        have e0 : (16 : Int32) * nI t + nI i = nI (16 * t + i) := by rw [show (16 : Int32) = nI 16 from rfl, pk_mul, nI_add]
        have k1 : ¬ nI i < 0 := nI_pos (by omega)
        have k2 : nI i < nI l := nI_lt hi (by omega)
        obtain ⟨y, hy1, hy2⟩ : ∃ y, (x <<< (Int32.toInt64 ((64 : Int32) - nI b) &&& 63)) >>> (Int32.toInt64 ((64 : Int32) - nI b) &&& 63) = y ∧ ∀ S1, CT S S1 → X11_put S1 173 (nI t) (nI i) x = some (setJ S1 186 (16 * t + i) y, y) := by
          refine ⟨_, rfl, fun S1 q => ?_⟩
          obtain ⟨z1, z2⟩ := mt2 S1 q
          unfold X11_put
          rw [isTer_m, bd_s]
          simp only [lt_e, ite_b1z, if_pos q1, ck_n ht (show 4 < 2147483648 by omega), rfm, ix_n (show t < 2147483648 by omega), z1, if_neg bne, z2, in_ok, bd_s, ite_b1n, lits, el, iN, if_pos (show 0 ≤ (i : Int) ∧ (i : Int) ≤ (l : Int) - 1 by omega), e0, ck_n (show 16 * t + i < 64 by omega) (show 64 < 2147483648 by omega), ix_n (show 16 * t + i < 2147483648 by omega)]
          rcases hb with rfl | rfl | rfl | rfl | rfl
          · exact absurd rfl q2
          · rw [if_neg (show ¬ ¬ nI 8 = 8 by decide), put8]
          · rw [if_pos (show ¬ nI 16 = 8 by decide), if_neg (show ¬ ¬ nI 16 = 16 by decide), put16]
          · rw [if_pos (show ¬ nI 32 = 8 by decide), if_pos (show ¬ nI 32 = 16 by decide), if_neg (show ¬ ¬ nI 32 = 32 by decide), put32]
          · rw [if_pos (show ¬ nI 64 = 8 by decide), if_pos (show ¬ nI 64 = 16 by decide), if_pos (show ¬ nI 64 = 32 by decide), put64]
        have q : CT S (setJ S (163 + 2 * t) i y) := (sm_J S _ _ _).mo (by intro k j hk; omega)
        refine ⟨setJ S (163 + 2 * t) i y, _, y, ?_, hy2 _ q, ?_⟩
        · show X10_put S 0 (nI t) (nI i) x = _
          simp only [X10_put, X9_store, isTer_c, bd_s, lt_e, ite_b1z, ite_b1n, if_pos q1, ck_n ht (show 4 < 2147483648 by omega), rfs, rf_161, rf_ter ht, ix_n (show t < 2147483648 by omega), ms, if_neg q2, if_neg k1, t3, if_pos k2, t1, hy1, ck_n (show i < 16 by omega) (show 16 < 2147483648 by omega), ix_n (show i < 2147483648 by omega), sJ_s]
        · have hs := (sm_J S (163 + 2 * t) i y).tr (sm_J (setJ S (163 + 2 * t) i y) 186 (16 * t + i) y)
          refine (Rel.re hR hs (by intro k j hk hq; omega) (by intro k j hk hq; omega) a6 (Or.inl (by intro k j hk hq; omega)) (Or.inl ⟨rfl, by intro k j hk hq; omega⟩) (Or.inl (by intro k j hk hq; omega)) (Or.inl ⟨rfl, by intro k j hk hq; omega⟩) (Or.inl ⟨rfl, by intro k j hk hq; omega⟩) (Or.inl (by intro k j hk hq; omega)) (Or.inl (by intro k j hk hq; omega)) (Or.inl (by intro k j hk hq; omega)) (Or.inr (fun u hu => ?_)) (Or.inl (by intro k j hk hq; omega))).x
          by_cases e : u = t
          · subst e
            refine ⟨b, l, hb, hl, t1, t2, t3, t4, fun j hj => ?_⟩
            by_cases z : j = i
            · subst z
              rw [sJ_s, sJ_n (by omega), sJ_s]
            · rw [sJ_n (by omega), sJ_n (by omega), sJ_n (by omega), sJ_n (by omega)]
              exact t5 j hj
          · exact (d1 u hu).gs hs (by intro k j hk hq; omega)
      · refine Ok.fd hR (v := -9223372036854775808) ?_ ?_
        · show X10_put S 0 (nI t) v x = _
          simp only [X10_put, X10_foundByPut, isTer_c, bd_s, lt_e, ite_b1z, ite_b1n, if_pos q1, ck_n ht (show 4 < 2147483648 by omega), rfs, rf_161, ix_n (show t < 2147483648 by omega), ms, if_neg q2, found_c, t3, lt32, lN', lits]
          by_cases z : v.toInt < 0
          · rw [if_pos z]
          · rw [if_neg z, if_neg (by unfold inN at q3; omega)]
        · intro S1 q
          show X11_put S1 173 (nI t) v x = _
          simp only [X11_put, isTer_m, bd_s, lt_e, ite_b1z, if_pos q1, ck_n ht (show 4 < 2147483648 by omega), rfm, ix_n (show t < 2147483648 by omega), (mt2 S1 q).1, if_neg bne, (mt2 S1 q).2, in_ok, ite_b1n, lits, el]
          rw [if_neg (by unfold inN at q3; omega)]
  · refine Ok.fd hR (v := -9223372036854775808) ?_ ?_
    · show X10_put S 0 u v x = _
      simp only [X10_put, X10_foundByPut, isTer_c, bd_s, ite_b1n, if_neg q1, found_c]
    · intro S1 q
      show X11_put S1 173 u v x = _
      simp only [X11_put, isTer_m, bd_s, lt_e, ite_b1z, if_neg q1]
theorem told_100_ok {n : Nat} {g : Nat → Nat} (h0 : S.1 173 0 = nI n) (hn : n ≤ 12) (hg : MG S 176 n g) (K : St → Int64 → Int32 → Option (St × Int32)) : ∀ (j m i a : Nat), i + j = n → j < m → X11_told_100 173 K m S (lN a) (nI i) = K S (lN (a + sumF g j i)) (nI n)
  | 0, 0, _, _, _, h => absurd h (by omega)
  | j + 1, 0, _, _, _, h => absurd h (by omega)
  | 0, m + 1, i, a, hij, _ => by
    rw [show i = n by omega, X11_told_100, if_pos (by rw [h0]; exact Int32.le_refl _)]
    rfl
  | j + 1, m + 1, i, a, hij, hm => by
    have e1 : nI i + (1 : Int32) = nI (i + 1) := nI_1 i
    rw [X11_told_100, if_neg (by rw [h0]; exact nI_ge (by omega) (by omega))]
    simp only [lt_e, e1, rfm, ck_n (show i < 15 by omega) (show 15 < 2147483648 by omega), ix_n (show i < 2147483648 by omega), hg i (by omega), lN_add]
    rw [told_100_ok h0 hn hg K j m (i + 1) (a + g i) (by omega) (by omega), sumF, Nat.add_assoc]
theorem cnt_0 {P : Nat → Bool} : ∀ {j i : Nat}, cntB P j i = 0 ↔ fstB P j i = none
  | 0, _ => by simp [cntB, fstB]
  | j + 1, i => by
    rw [cntB, fstB]
    by_cases h : P i = true
    · rw [if_pos h, if_pos h]
      simp only [reduceCtorEq, iff_false]
      omega
    · rw [if_neg h, if_neg h, Nat.zero_add]
      exact cnt_0
theorem cnt_le {P : Nat → Bool} : ∀ {j i : Nat}, cntB P j i ≤ j
  | 0, _ => Nat.le_refl _
  | j + 1, i => by
    rw [cntB]
    have := cnt_le (P := P) (j := j) (i := i + 1)
    split <;> omega
theorem op_told (h : RelX S c) (u : Int32) : Ok S c (fun S => X10_told S 0 u) (fun S => X11_told S 173 u) := by
  obtain ⟨n, kd, w, bg, g, mn, hR⟩ := h
  have hR0 := hR
  obtain ⟨⟨a1, a2, a3, a4, a5, a6⟩, ⟨b1', b2, b3, b4⟩, ⟨c1, c2, c3, c4⟩, d1, d2⟩ := hR0
  have hn := a3.1
  have nN := nT (show n < 2147483648 by omega)
  have has := has_ok a1.1 hn
  have ha0 := a1.1
  have cb := b1'.1
  have hb : BG n g := B1.b b2.2.2.1
  by_cases t0 : u = 0
  · refine Ok.no hR (v := S.1 0 14) ?_ ?_
    · show X10_told S 0 u = _
      rw [X10_told, if_pos t0]
    · intro S1 q
      show X11_told S1 173 u = _
      rw [X11_told, if_pos t0, q.i (by omega), b1'.2.2.1]
  by_cases t1 : u = 1
  · refine Ok.no hR (v := nI n) ?_ ?_
    · show X10_told S 0 u = _
      rw [X10_told, if_neg t0, if_pos t1, rfs.1, ha0]
    · intro S1 q
      have m2 := a2.gs q (by intro k j hk hq; omega)
      have isp := isPlace_ok m2.1 hn
      have mz := m2.1
      have mb : S1.1 173 3 = bi _ := (q.i (by omega)).trans b1'.2.1
      show X11_told S1 173 u = _
      rw [X11_told, if_neg t0, if_pos t1, mz]
  by_cases t2 : u = 2
  · refine Ok.no hR (v := bi bg) ?_ ?_
    · show X10_told S 0 u = _
      rw [X10_told, if_neg t0, if_neg t1, if_pos t2, cb]
      cases bg <;> rfl
    · intro S1 q
      have m2 := a2.gs q (by intro k j hk hq; omega)
      have isp := isPlace_ok m2.1 hn
      have mz := m2.1
      have mb : S1.1 173 3 = bi _ := (q.i (by omega)).trans b1'.2.1
      show X11_told S1 173 u = _
      rw [X11_told, if_neg t0, if_neg t1, if_pos t2, mb]
      cases bg <;> rfl
  by_cases t3 : u = 3
  · refine Ok.no hR (v := b1 (bg = true ∧ fstB (due w g) n 0 = none)) ?_ ?_
    · show X10_told S 0 u = _
      rw [X10_told, if_neg t0, if_neg t1, if_neg t2, if_pos t3]
      simp only [lt_e, cb, rfs, stands_ok (Or.inl rfl) a1 a3 b2.1 hb, bd_s, ite_b1z]
      unfold b1
      cases bg with
      | false => rfl
      | true =>
        rw [if_neg (show ¬ bi true = 0 by decide)]
        by_cases z : fstB (due w g) n 0 = none
        · rw [if_pos z, if_pos ⟨rfl, z⟩]
        · rw [if_neg z, if_neg (fun y => z y.2)]
    · intro S1 q
      have m2 := a2.gs q (by intro k j hk hq; omega)
      have isp := isPlace_ok m2.1 hn
      have mz := m2.1
      have mb : S1.1 173 3 = bi _ := (q.i (by omega)).trans b1'.2.1
      show X11_told S1 173 u = _
      rw [X11_told, if_neg t0, if_neg t1, if_neg t2, if_pos t3]
      simp only [lt_e, mb, dueMany_ok m2 a3 (q.mg b2) hb, bd_s, show (0 : Int32) = nI 0 from rfl, nI_eq (show cntB (due w g) n 0 < 2 ^ 31 by have := cnt_le (P := due w g) (j := n) (i := 0); omega) (show 0 < 2 ^ 31 by omega), cnt_0]
      unfold b1
      cases bg with
      | false => rfl
      | true =>
        rw [if_neg (show ¬ bi true = nI 0 by decide)]
        by_cases z : fstB (due w g) n 0 = none
        · rw [if_neg (fun y => y z), if_pos ⟨rfl, z⟩]
        · rw [if_pos z, if_neg (fun y => z y.2)]; rfl
  by_cases t4 : u = 4
  · refine Ok.no hR (v := nI (sumF g n 0)) ?_ ?_
    · show X10_told S 0 u = _
      rw [X10_told, if_neg t0, if_neg t1, if_neg t2, if_neg t3, if_pos t4, rfs.2.1, sum_ok (Or.inl rfl) a1 a3 b2.1, bd_s]
    · intro S1 q
      have m2 := a2.gs q (by intro k j hk hq; omega)
      have isp := isPlace_ok m2.1 hn
      have mz := m2.1
      have mb : S1.1 173 3 = bi _ := (q.i (by omega)).trans b1'.2.1
      show X11_told S1 173 u = _
      rw [X11_told, if_neg t0, if_neg t1, if_neg t2, if_neg t3, if_pos t4]
      rw [show (0 : Int32) = nI 0 from rfl, show (0 : Int64) = lN 0 from rfl, told_100_ok mz hn (q.mg b2) _ n FU 0 0 (by omega) (by unfold FU; omega), lN_i, Nat.zero_add]
  by_cases t5 : u = 5
  · obtain ⟨r, f1, f2, f3, f4⟩ := d2
    refine Ok.no hR (v := nI r) ?_ ?_
    · show X10_told S 0 u = _
      rw [X10_told, if_neg t0, if_neg t1, if_neg t2, if_neg t3, if_neg t4, if_pos t5]
      simp only [rfs, f2]
    · intro S1 q
      show X11_told S1 173 u = _
      rw [X11_told, if_neg t0, if_neg t1, if_neg t2, if_neg t3, if_neg t4, if_pos t5, q.i (by omega), f3]
  by_cases t6 : u = 6
  · obtain ⟨-, -, -, ⟨sd, s1, s2, s3⟩, -⟩ := b4
    refine Ok.no hR (v := Int64.toInt32 (lN sd)) ?_ ?_
    · show X10_told S 0 u = _
      rw [X10_told, if_neg t0, if_neg t1, if_neg t2, if_neg t3, if_neg t4, if_neg t5, if_pos t6]
      simp only [rfs, s2]
    · intro S1 q
      show X11_told S1 173 u = _
      rw [X11_told, if_neg t0, if_neg t1, if_neg t2, if_neg t3, if_neg t4, if_neg t5, if_pos t6, q.l (by omega), s3]
  by_cases t7 : u = 7
  · obtain ⟨r, f1, f2, f3, -, -⟩ := c4
    refine Ok.no hR (v := nI r) ?_ ?_
    · show X10_told S 0 u = _
      rw [X10_told, if_neg t0, if_neg t1, if_neg t2, if_neg t3, if_neg t4, if_neg t5, if_neg t6, if_pos t7]
      simp only [rfs, f2]
    · intro S1 q
      show X11_told S1 173 u = _
      rw [X11_told, if_neg t0, if_neg t1, if_neg t2, if_neg t3, if_neg t4, if_neg t5, if_neg t6, if_pos t7, q.i (by omega), f3]
  by_cases t8 : u = 8
  · refine Ok.no hR (v := S.1 0 15) ?_ ?_
    · show X10_told S 0 u = _
      rw [X10_told, if_neg t0, if_neg t1, if_neg t2, if_neg t3, if_neg t4, if_neg t5, if_neg t6, if_neg t7, if_pos t8]
    · intro S1 q
      show X11_told S1 173 u = _
      rw [X11_told, if_neg t0, if_neg t1, if_neg t2, if_neg t3, if_neg t4, if_neg t5, if_neg t6, if_neg t7, if_pos t8, q.i (by omega), b1'.2.2.2]
  · refine Ok.fd hR (v := -1) ?_ ?_
    · show X10_told S 0 u = _
      rw [X10_told, if_neg t0, if_neg t1, if_neg t2, if_neg t3, if_neg t4, if_neg t5, if_neg t6, if_neg t7, if_neg t8, found_c, bd_s]
    · intro S1 q
      show X11_told S1 173 u = _
      rw [X11_told, if_neg t0, if_neg t1, if_neg t2, if_neg t3, if_neg t4, if_neg t5, if_neg t6, if_neg t7, if_neg t8, found_m, bd_s]
end
