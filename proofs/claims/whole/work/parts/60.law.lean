/-! the law: every script's calls are answered alike -/
theorem Ok.go {ρ : Type} [DecidableEq ρ] {S : St} {c : Nat} {f m : St → Option (St × ρ)} (h : Ok S c f m) (j : St → Option (St × Unit)) : ∃ S2, RelX S2 (c + 1) ∧ (bd (f S) fun S1 r1 => bd (m S1) fun S2 r2 => if r1 = r2 then j S2 else none) = j S2 := by
  obtain ⟨S1, S2, r, h1, h2, h3⟩ := h
  exact ⟨S2, h3, by rw [h1, bd_x, h2, bd_x, if_pos rfl]⟩
theorem rel_0 : RelX S0 0 := by
  refine ⟨0, fun _ => 0, fun _ _ => 0, false, fun _ => 0, 0, ⟨⟨⟨rfl, fun p hp => absurd hp (by omega), fun p e hp he => rfl, fun p hp => ?_⟩, ⟨rfl, fun p hp => absurd hp (by omega), fun p e hp he => rfl⟩, ⟨by omega, fun p hp => absurd hp (by omega), fun p hp => by rw [sN_zero]; omega, fun _ _ => rfl⟩, fun p hp => by rw [sN_zero]; omega, fun z => absurd z (by decide), fun _ => rfl⟩, ⟨⟨rfl, rfl, rfl, rfl⟩, ⟨fun p hp => absurd hp (by omega), fun p hp => absurd hp (by omega), fun p hp => absurd hp (by omega), fun d hd => ?_, fun e he => ?_, fun e he he2 => ?_⟩, fun _ p hp => ⟨rfl, ?_⟩, ⟨by omega, rfl, rfl, ⟨1, by omega, rfl, rfl⟩, fun z => absurd z (by decide), fun z => absurd z (by decide)⟩⟩, ⟨RHist.none rfl rfl rfl, ⟨0, by omega, rfl, rfl, rfl, fun i hi => absurd hi (by omega)⟩, fun s h8 => ⟨false, rfl, rfl, fun z => absurd z (by decide)⟩, ⟨0, by omega, rfl, rfl, fun z => absurd z (by omega), fun i p hi => absurd hi (by omega)⟩⟩, fun t ht => ⟨0, 0, Or.inl rfl, by omega, rfl, rfl, rfl, rfl, fun i hi => ?_⟩, ⟨0, by omega, rfl, rfl, fun i hi => absurd hi (by omega)⟩⟩⟩
  · rw [sN_zero]; rfl
  · simp [S0]
  · simp [S0]
  · simp [S0]
  · simp [S0]
  · have z : ∀ k j, k ≠ 25 → k ≠ 173 → S0.2 k j = 0 := fun k j h1 h2 => by
      simp only [S0]
      rw [if_neg (fun q => h1 q.1), if_neg (fun q => h2 q.1)]
    rw [z _ _ (by omega) (by omega), z _ _ (by omega) (by omega)]
theorem law_ok {L : Nat} {xs : Nat → Int32} (hL : L ≤ 3072) : ∀ (m c : Nat) (S : St), 520 < m + c → c ≤ 512 → RelX S c → ∃ S1, L_18 L xs 0 173 (fun S _ => some (S, ())) m S (nI (6 * c)) = some (S1, ())
  | 0, c, S, h1, h2, _ => absurd h1 (by omega)
  | m + 1, c, S, h1, h2, h => by
    have e0 : (Int32.ofNat L - (6 : Int32)).toInt = (L : Int) - 6 := by
      have e1 : (Int32.ofNat L).toInt = (L : Int) := nT (show L < 2147483648 by omega)
      rw [i_sub (by rw [e1, show (6 : Int32).toInt = 6 by decide]; omega) (by rw [e1, show (6 : Int32).toInt = 6 by decide]; omega), e1, show (6 : Int32).toInt = 6 by decide]
    have e6 : nI (6 * c) + (6 : Int32) = nI (6 * (c + 1)) := nI_add (6 * c) 6
    by_cases hc : (L : Int) - 6 < 6 * c
    · rw [L_18, if_pos (by rw [lt32, e0, nT (by omega)]; omega)]
      exact ⟨S, rfl⟩
    · have ih := fun S2 (h3 : RelX S2 (c + 1)) => law_ok (xs := xs) hL m (c + 1) S2 (by omega) (by omega) h3
      rw [← e6] at ih
      have k1 : ∀ {σ : Type} (o : Option σ), ck (nI (6 * c) + (1 : Int32)) L o = o := fun o => by rw [show nI (6 * c) + (1 : Int32) = nI (6 * c + 1) from nI_add _ 1]; exact ck_n (by omega) (by omega) o
      have k2 : ∀ {σ : Type} (o : Option σ), ck (nI (6 * c) + (2 : Int32)) L o = o := fun o => by rw [show nI (6 * c) + (2 : Int32) = nI (6 * c + 2) from nI_add _ 2]; exact ck_n (by omega) (by omega) o
      have k3 : ∀ {σ : Type} (o : Option σ), ck (nI (6 * c) + (3 : Int32)) L o = o := fun o => by rw [show nI (6 * c) + (3 : Int32) = nI (6 * c + 3) from nI_add _ 3]; exact ck_n (by omega) (by omega) o
      have k4 : ∀ {σ : Type} (o : Option σ), ck (nI (6 * c) + (4 : Int32)) L o = o := fun o => by rw [show nI (6 * c) + (4 : Int32) = nI (6 * c + 4) from nI_add _ 4]; exact ck_n (by omega) (by omega) o
      have k5 : ∀ {σ : Type} (o : Option σ), ck (nI (6 * c) + (5 : Int32)) L o = o := fun o => by rw [show nI (6 * c) + (5 : Int32) = nI (6 * c + 5) from nI_add _ 5]; exact ck_n (by omega) (by omega) o
      have fin : ∀ {ρ : Type} [DecidableEq ρ] {f g : St → Option (St × ρ)}, Ok S c f g → ∃ S1, (bd (f S) fun S1 r1 => bd (g S1) fun S2 r2 => if r1 = r2 then (fun (S22 : St) => lt (nI (6 * c) + (6 : Int32)) fun v23 => L_18 L xs 0 173 (fun S _ => some (S, ())) m S22 v23) S2 else none) = some (S1, ()) := fun ho => by
        obtain ⟨S2, g1, g2⟩ := ho.go (fun (S22 : St) => lt (nI (6 * c) + (6 : Int32)) fun v23 => L_18 L xs 0 173 (fun S _ => some (S, ())) m S22 v23)
        obtain ⟨S3, g3⟩ := ih S2 g1
        refine ⟨S3, ?_⟩
        rw [g2]
        exact (lt_x _ _).trans g3
      rw [L_18, if_neg (by rw [lt32, e0, nT (by omega)]; omega), ck_n (show 6 * c < L by omega) (by omega), lt_x]
      generalize xs (ix (nI (6 * c))) &&& (63 : Int32) = op
      by_cases z0 : op = 0
      · rw [if_pos z0]
        simp only [k1]
        exact fin (op_place h _)
      rw [if_neg z0]
      by_cases z1 : op = 1
      · rw [if_pos z1]
        simp only [k1, k2, k3]
        exact fin (op_way h (by omega) _ _ _)
      rw [if_neg z1]
      by_cases z2 : op = 2
      · rw [if_pos z2]
        exact fin (op_begin h)
      rw [if_neg z2]
      by_cases z3 : op = 3
      · rw [if_pos z3]
        exact fin (f := fun S => X10_anew S 0) (g := fun S => X11_anew S 173) (op_anew h)
      rw [if_neg z3]
      by_cases z4 : op = 4
      · rw [if_pos z4]
        simp only [k1, k2]
        exact fin (op_as h _ _)
      rw [if_neg z4]
      by_cases z5 : op = 5
      · rw [if_pos z5]
        simp only [k1, k2]
        exact fin (op_weight h _ _)
      rw [if_neg z5]
      by_cases z6 : op = 6
      · rw [if_pos z6]
        simp only [k1, k2]
        exact fin (op_lay h _ _)
      rw [if_neg z6]
      by_cases z7 : op = 7
      · rw [if_pos z7]
        simp only [k1]
        exact fin (op_grains h _)
      rw [if_neg z7]
      by_cases z8 : op = 8
      · rw [if_pos z8]
        exact fin (op_due h)
      rw [if_neg z8]
      by_cases z9 : op = 9
      · rw [if_pos z9]
        simp only [k1]
        exact fin (op_slide h _)
      rw [if_neg z9]
      by_cases z10 : op = 10
      · rw [if_pos z10]
        simp only [k1, k2]
        exact fin (op_manner h _ _)
      rw [if_neg z10]
      by_cases z11 : op = 11
      · rw [if_pos z11]
        simp only [k1]
        exact fin (op_run h _)
      rw [if_neg z11]
      by_cases z12 : op = 12
      · rw [if_pos z12]
        simp only [k1]
        exact fin (op_odometer h _)
      rw [if_neg z12]
      by_cases z13 : op = 13
      · rw [if_pos z13]
        exact fin (op_reset h)
      rw [if_neg z13]
      by_cases z14 : op = 14
      · rw [if_pos z14]
        exact fin (op_twoWay h)
      rw [if_neg z14]
      by_cases z15 : op = 15
      · rw [if_pos z15]
        exact fin (op_burn h)
      rw [if_neg z15]
      by_cases z16 : op = 16
      · rw [if_pos z16]
        simp only [k1]
        exact fin (op_burnt h _)
      rw [if_neg z16]
      by_cases z17 : op = 17
      · rw [if_pos z17]
        simp only [k1]
        exact fin (op_keep h _)
      rw [if_neg z17]
      by_cases z18 : op = 18
      · rw [if_pos z18]
        simp only [k1]
        exact fin (op_bring h _)
      rw [if_neg z18]
      by_cases z19 : op = 19
      · rw [if_pos z19]
        simp only [k1, k2, k3]
        exact fin (op_plus h _ _ _)
      rw [if_neg z19]
      by_cases z20 : op = 20
      · rw [if_pos z20]
        simp only [k1]
        exact fin (op_nought h _)
      rw [if_neg z20]
      by_cases z21 : op = 21
      · rw [if_pos z21]
        simp only [k1, k2]
        exact fin (op_contrary h _ _)
      rw [if_neg z21]
      by_cases z22 : op = 22
      · rw [if_pos z22]
        simp only [k1]
        exact fin (op_many h _)
      rw [if_neg z22]
      by_cases z23 : op = 23
      · rw [if_pos z23]
        exact fin (op_list h)
      rw [if_neg z23]
      by_cases z24 : op = 24
      · rw [if_pos z24]
        simp only [k1, k2]
        exact fin (op_listed h _ _)
      rw [if_neg z24]
      by_cases z25 : op = 25
      · rw [if_pos z25]
        simp only [k1, k2, k3]
        exact fin (op_terrace h _ _ _)
      rw [if_neg z25]
      by_cases z26 : op = 26
      · rw [if_pos z26]
        simp only [k1, k2, k3, k4]
        exact fin (op_put h _ _ _)
      rw [if_neg z26]
      by_cases z27 : op = 27
      · rw [if_pos z27]
        simp only [k1, k2, k3, k4, k5]
        exact fin (op_copy h _ _ _ _ _)
      rw [if_neg z27]
      by_cases z28 : op = 28
      · rw [if_pos z28]
        simp only [k1, k2, k3, k4]
        exact fin (op_spread h _ _ _ _)
      rw [if_neg z28]
      by_cases z29 : op = 29
      · rw [if_pos z29]
        simp only [k1]
        exact fin (op_tell h _)
      rw [if_neg z29]
      by_cases z30 : op = 30
      · rw [if_pos z30]
        exact fin (op_enough h)
      rw [if_neg z30]
      by_cases z31 : op = 31
      · rw [if_pos z31]
        exact fin (op_check h)
      rw [if_neg z31]
      by_cases z32 : op = 32
      · rw [if_pos z32]
        exact fin (op_undo h)
      rw [if_neg z32]
      by_cases z33 : op = 33
      · rw [if_pos z33]
        simp only [k1]
        exact fin (op_told h _)
      rw [if_neg z33]
      obtain ⟨n, kd, w, bg, g, mn, hR⟩ := h
      obtain ⟨S3, g3⟩ := ih S hR.x
      exact ⟨S3, (lt_x _ _).trans g3⟩
theorem pure_law : PureLaw := by
  intro L xs hL
  have := law_ok (xs := xs) hL FU 0 S0 (by decide) (by omega) rel_0
  exact this
