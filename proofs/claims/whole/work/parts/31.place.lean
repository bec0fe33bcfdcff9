section
variable {S : St} {c n mn n2 mn2 : Nat} {kd : Nat → Nat} {w w2 : Nat → Nat → Nat} {bg : Bool} {g : Nat → Nat}
theorem RHist.nb (h : RHist S n mn false) : RHist S n2 mn2 false := by
  obtain ⟨q, x, h1, h2, h3, h4, h5, h6, h7⟩ := h
  have h0 : q = 0 := by
    rcases Nat.eq_zero_or_pos q with e | e
    · exact e
    · exact absurd (h6 e) (by decide)
  exact ⟨q, x, h1, h2, h3, h4, h5, h6, fun j hj => absurd hj (by omega)⟩
theorem RSlots.nb (h : RSlots S n false) : RSlots S n2 false := fun s hs => by
  obtain ⟨fl, h1, h2, h3⟩ := h s hs
  exact ⟨fl, h1, h2, fun hf => absurd (h3 hf).1 (by decide)⟩
theorem RRost.nb (h : RRost S n w false) : RRost S n2 w2 false := by
  obtain ⟨r, h1, h2, h3, h4, h5⟩ := h
  have h0 : r = 0 := by
    rcases Nat.eq_zero_or_pos r with e | e
    · exact e
    · exact absurd (h4 e).1 (by decide)
  exact ⟨r, h1, h2, h3, fun q => absurd (h4 q).1 (by decide), fun i p hi => absurd hi (by omega)⟩
theorem RCh.nb (h : RCh S n 0) : RCh S n2 0 := by
  obtain ⟨h1, h2, h3, h4, h5, h6⟩ := h
  exact ⟨h1, h2, h3, h4, fun q => absurd q (by decide), fun q => absurd q (by decide)⟩
theorem Snp.ext1 (h : RH S n g) (h0 : S.1 18 n = 0) (h1 : S.2 176 n = 0) : RH S (n + 1) (fun p => if p = n then 0 else g p) := by
  obtain ⟨a1, a2, a3, a4, a5, a6⟩ := h
  refine ⟨fun p hp => ?_, fun p hp => ?_, fun p hp => ?_, a4, a5, fun q hq hq2 => a6 q (by omega) hq2⟩
  · by_cases e : p = n
    · rw [if_pos e, e, h0]; rfl
    · rw [if_neg e]; exact a1 p (by omega)
  · by_cases e : p = n
    · rw [if_pos e, e, Nat.zero_add, h1]; rfl
    · rw [if_neg e]; exact a2 p (by omega)
  · show (if p = n then 0 else g p) ≤ 1000000
    split
    · omega
    · exact a3 p (by omega)
theorem op_place (h : RelX S c) (hc : c < 512) (v : Int32) : Ok S c (fun S => X10_place S 0 v) (fun S => X11_place S 173 v) := by
  obtain ⟨n, kd, w, bg, g, mn, h⟩ := h
  have hR := h
  obtain ⟨⟨a1, a2, a3, a4, a5, a6⟩, ⟨b1', b2, b3, b4⟩, ⟨c1, c2, c3, c4⟩, d1, d2⟩ := h
  have hn := a3.1
  have e24 : ∀ x, (setI S 0 15 x).1 173 3 = bi bg := fun x => by simp only [sI1]; exact b1'.2.1
  have e0 : ∀ x, (setI S 0 15 x).1 173 0 = nI n := fun x => by simp only [sI1]; exact a2.1
  have hm : ∀ x, X11_place (setI S 0 15 x) 173 v = if bi bg = 0 then (if inN v 5 then (if ¬ nI n = 12 then X11_place (setI S 0 15 x) 173 v else bd (X11_found (setI S 0 15 x) 173 (-5)) (fun S r => some (S, r))) else bd (X11_found (setI S 0 15 x) 173 (-1)) (fun S r => some (S, r))) else bd (X11_found (setI S 0 15 x) 173 (-6)) (fun S r => some (S, r)) := by
    intro x
    by_cases q1 : bi bg = 0
    · rw [if_pos q1]
      by_cases q2 : inN v 5
      · rw [if_pos q2]
        by_cases q3 : ¬ nI n = 12
        · rw [if_pos q3]
        · rw [if_neg q3]
          unfold X11_place
          rw [e24, if_pos q1, in_ok, bd_s, ite_b1n, if_pos (by simp only [lits]; unfold inN at q2; omega), e0, if_neg q3]
      · rw [if_neg q2]
        unfold X11_place
        rw [e24, if_pos q1, in_ok, bd_s, ite_b1n, if_neg (by simp only [lits]; unfold inN at q2; omega)]
    · rw [if_neg q1]
      unfold X11_place
      rw [e24, if_neg q1]
  have hf : X10_place S 0 v = if bi bg = 0 then (if inN v 5 then (if nI n < 12 then bd (X7_addPlace S 1 v) (fun S r => some (S, r)) else bd (X10_found S 0 (-5)) (fun S r => some (S, r))) else bd (X10_found S 0 (-1)) (fun S r => some (S, r))) else bd (X10_found S 0 (-6)) (fun S r => some (S, r)) := by
    unfold X10_place
    simp only [b1'.1, rfs, a1.1, lt_e]
    by_cases q1 : bi bg = 0
    · rw [if_pos q1, if_pos q1]
      by_cases q2 : inN v 5
      · rw [if_pos q2, if_neg (by rw [lt32, lits.1]; unfold inN at q2; omega), if_pos (by simp only [lt32, lits]; unfold inN at q2; omega)]
      · rw [if_neg q2]
        by_cases q3 : v < 0
        · rw [if_pos q3]
        · rw [if_neg q3, if_neg (by simp only [lt32, lits] at q3 ⊢; unfold inN at q2; omega)]
    · rw [if_neg q1, if_neg q1]
  cases bg with
  | true =>
    refine Ok.found2 hR (v := -6) ?_ ?_
    · show X10_place S 0 v = _
      rw [hf, if_neg (by decide)]
    · show X11_place _ 173 v = _
      rw [hm, if_neg (by decide)]
  | false =>
    by_cases q2 : inN v 5
    · by_cases q3 : n = 12
      · refine Ok.found2 hR (v := -5) ?_ ?_
        · show X10_place S 0 v = _
          rw [hf, if_pos rfl, if_pos q2, if_neg (by rw [q3]; decide)]
        · show X11_place _ 173 v = _
          rw [hm, if_pos rfl, if_pos q2, if_neg (fun q => q (by rw [q3]; rfl))]
      · obtain ⟨k, hk, rfl⟩ := inN_of q2 (by omega)
        have m0 : mn = 0 := a6 rfl
        have hlt : n < 12 := by omega
        have e1 : nI n + (1 : Int32) = nI (n + 1) := nI_1 n
        have e2 : nI (n + 1) - (1 : Int32) = nI n := nI_pred n
        refine ⟨setI (setI S 2 n (nI k)) 1 3 (nI (n + 1)), setI (setI (setI (setI S 2 n (nI k)) 1 3 (nI (n + 1))) 174 n (nI k)) 173 0 (nI (n + 1)), nI n, ?_, ?_, ?_⟩
        · show X10_place S 0 (nI k) = _
          rw [hf, if_pos rfl, if_pos q2, if_pos (by rw [show (12 : Int32) = nI 12 from rfl]; exact nI_lt hlt (by omega))]
          unfold X7_addPlace
          rw [a1.1, ck_n hlt (by omega), rfs.2.2.2.2.2.2.2.2.2.2.2.2.2.1, ix_n (by omega)]
          simp only [lt_e, sI1, a1.1]
          rw [if_neg (by omega), a1.1, e1, bd_s]
          simp [e2]
        · show X11_place _ 173 (nI k) = _
          unfold X11_place
          have f1 : (setI (setI S 2 n (nI k)) 1 3 (nI (n + 1))).1 173 3 = bi false := by simp only [sI1]; exact b1'.2.1
          have f2 : (setI (setI S 2 n (nI k)) 1 3 (nI (n + 1))).1 173 0 = nI n := by simp only [sI1]; exact a2.1
          rw [f1, if_pos rfl, in_ok, bd_s, ite_b1n, if_pos (by simp only [lits]; unfold inN at q2; omega), f2, if_pos (by rw [show (12 : Int32) = nI 12 from rfl, nI_eq (by omega) (by omega)]; exact q3), ck_n hlt (by omega), rfm.1, ix_n (by omega)]
          simp only [lt_e]
          have f3 : ∀ x, (setI (setI (setI S 2 n (nI k)) 1 3 (nI (n + 1))) 174 n x).1 173 0 = nI n := fun x => by rw [sI1, if_neg (by omega)]; exact f2
          rw [f3, e1]
          simp [sI1, e2]
        · have hs := (((sm_I S 2 n (nI k)).tr (sm_I (setI S 2 n (nI k)) 1 3 (nI (n + 1)))).tr (sm_I (setI (setI S 2 n (nI k)) 1 3 (nI (n + 1))) 174 n (nI k))).tr (sm_I (setI (setI (setI S 2 n (nI k)) 1 3 (nI (n + 1))) 174 n (nI k)) 173 0 (nI (n + 1)))
          have n0 := b3 rfl n hlt
          subst m0
          refine ⟨n + 1, fun p => if p = n then k else kd p, w, false, fun p => if p = n then 0 else g p, 0, ⟨⟨⟨?_, fun p hp => ?_, fun p e hp he => ?_, fun p hp => ?_⟩, ⟨?_, fun p hp => ?_, fun p e hp he => ?_⟩, ⟨by omega, fun p hp => ?_, a3.2.2.1, a3.2.2.2⟩, fun p hp => by have := a4 p hp; omega, fun q => absurd q (by decide), fun _ => rfl⟩, ⟨b1'.gs hs ?_, (b2.ext1 n0.1 n0.2).gs (by omega) hs ?_, b3.gs hs ?_, b4.nb.gs (by omega) hs ?_⟩, ⟨c1.nb.gs (by omega) hs ?_, c2.gs hs ?_, c3.nb.gs (by omega) hs ?_, c4.nb.gs hs ?_⟩, d1.gs hs ?_, d2.gs hs ?_⟩⟩
          case refine_1 => simp [sI1]
          case refine_2 =>
            by_cases e : p = n
            · simp [sI1, e]
            · simp only [if_neg e]
              rw [← a1.2.1 p (by omega)]
              simp [sI1, e]
          case refine_3 =>
            rw [← a1.2.2.1 p e hp he]
            have z1 : ¬ (4 + p = 1) := by omega
            have z2 : ¬ (4 + p = 2) := by omega
            have z3 : ¬ (4 + p = 174) := by omega
            have z4 : ¬ (4 + p = 173) := by omega
            simp [sI1, z1, z2, z3, z4]
          case refine_4 => rw [← a1.2.2.2 p hp]; simp [sI1]
          case refine_5 => simp [sI1]
          case refine_6 =>
            by_cases e : p = n
            · simp [sI1, e]
            · simp only [if_neg e]
              rw [← a2.2.1 p (by omega)]
              simp [sI1, e]
          case refine_7 => rw [← a2.2.2 p e hp he]; simp [sI1]
          case refine_8 =>
            show (if p = n then k else kd p) < 5
            split
            · exact hk
            · exact a3.2.1 p (by omega)
          all_goals
            intro k j hk hq
            omega
    · refine Ok.found2 hR (v := -1) ?_ ?_
      · show X10_place S 0 v = _
        rw [hf, if_pos rfl, if_neg q2]
      · show X11_place _ 173 v = _
        rw [hm, if_pos rfl, if_neg q2]
end
