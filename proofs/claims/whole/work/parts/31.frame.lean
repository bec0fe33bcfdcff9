/-! how an operation's proof is put together -/
/-- only the class's cells were touched -/
abbrev CT (S S1 : St) : Prop := Sm (fun k _ => k < 173) S S1
theorem CT.i {S S1 : St} (q : CT S S1) {k j : Nat} (h : 173 ≤ k) : S1.1 k j = S.1 k j := (q k j (fun z => by omega)).1
theorem CT.l {S S1 : St} (q : CT S S1) {k j : Nat} (h : 173 ≤ k) : S1.2 k j = S.2 k j := (q k j (fun z => by omega)).2
section
variable {S S1 : St} {c n mn n2 mn1 mn2 : Nat} {kd : Nat → Nat} {w w2 : Nat → Nat → Nat} {bg : Bool} {g g1 : Nat → Nat}
theorem Ok.fd {ρ : Type} {f m : St → Option (St × ρ)} {v : ρ} (h : Rel S c n kd w bg g mn) (hf : f S = some (setI S 0 15 (S.1 0 15 + 1), v)) (hm : ∀ S1, CT S S1 → m S1 = some (setI S1 173 24 (S1.1 173 24 + 1), v)) : Ok S c f m := by
  refine ⟨_, _, v, hf, hm _ ((sm_I S 0 15 _).mo (by intro k j hk; omega)), ?_⟩
  have e : (setI S 0 15 (S.1 0 15 + 1)).1 173 24 = S.1 173 24 := by simp only [sI1]; rfl
  rw [e]
  exact h.found.x
theorem Ok.no {ρ : Type} {f m : St → Option (St × ρ)} {v : ρ} (h : Rel S c n kd w bg g mn) (hf : f S = some (S, v)) (hm : ∀ S1, CT S S1 → m S1 = some (S1, v)) : Ok S c f m := ⟨S, S, v, hf, hm S Sm.rf, h.x⟩
theorem RHist.nb (h : RHist S n mn false) : RHist S n2 mn2 false := by
  obtain ⟨q, x, h1, h2, h3, h4, h5, h6, h7⟩ := h
  have h0 : q = 0 := by
    rcases Nat.eq_zero_or_pos q with e | e
    · exact e
    · exact absurd (h6 e) (by decide)
  exact ⟨q, x, h1, h2, h3, h4, h5, h6, fun j hj => absurd hj (by omega)⟩
theorem RSlots.nb (h : RSlots S n false) : RSlots S n2 false := fun s hs => by
  obtain ⟨fl, h1, h2, h3⟩ := h s hs
  exact ⟨fl, h1, h2, fun hf => absurd (h3 hf).1 (by decide)⟩
theorem RRost.nb (h : RRost S n w false) : RRost S n2 w2 false := by
  obtain ⟨r, h1, h2, h3, h4, h5⟩ := h
  have h0 : r = 0 := by
    rcases Nat.eq_zero_or_pos r with e | e
    · exact e
    · exact absurd (h4 e).1 (by decide)
  exact ⟨r, h1, h2, h3, fun q => absurd (h4 q).1 (by decide), fun i p hi => absurd hi (by omega)⟩
theorem RCh.nb (h : RCh S n 0) : RCh S n2 0 := by
  obtain ⟨h1, h2, h3, h4, h5, h6⟩ := h
  exact ⟨h1, h2, h3, h4, fun q => absurd q (by decide), fun q => absurd q (by decide)⟩
theorem Snp.ext1 (h : RH S n g) (h0 : S.1 18 n = 0) (h1 : S.2 176 n = 0) : RH S (n + 1) (fun p => if p = n then 0 else g p) := by
  obtain ⟨a1, a2, a3, a4, a5, a6⟩ := h
  refine ⟨fun p hp => ?_, fun p hp => ?_, fun p hp => ?_, a4, a5, fun q hq hq2 => a6 q (by omega) hq2⟩
  · show S.1 18 p = nI (if p = n then 0 else g p)
    by_cases e : p = n
    · rw [if_pos e, e, h0]; rfl
    · rw [if_neg e]; exact a1 p (by omega)
  · show S.2 176 (0 + p) = lN (if p = n then 0 else g p)
    by_cases e : p = n
    · rw [if_pos e, e, Nat.zero_add, h1]; rfl
    · rw [if_neg e]; exact a2 p (by omega)
  · show (if p = n then 0 else g p) ≤ 1000000
    split
    · omega
    · exact a3 p (by omega)
/-- some cells have changed: each group is as it was, or shown anew -/
theorem Rel.re {T : Nat → Nat → Prop} (h : Rel S c n kd w bg g mn) (hs : Sm T S S1)
    (s1 : ∀ k j, (1 ≤ k ∧ k ≤ 16) → ¬ T k j) (s2 : ∀ k j, ((k = 173 ∧ j = 0) ∨ k = 174 ∨ k = 175) → ¬ T k j) (s3 : bg = false → mn1 = 0)
    (x1 : (∀ k j, ((k = 0 ∧ 13 ≤ j) ∨ (k = 173 ∧ (j = 3 ∨ j = 7 ∨ j = 24))) → ¬ T k j) ∨ RSc S1 bg)
    (x2 : (g1 = g ∧ ∀ k j, (k = 18 ∨ k = 19 ∨ k = 20 ∨ (k = 176 ∧ 0 ≤ j ∧ j < 0 + 15) ∨ (k = 177 ∧ 0 ≤ j ∧ j < 0 + 12)) → ¬ T k j) ∨ RH S1 n g1)
    (x3 : (∀ k j, (k = 18 ∨ k = 176) → ¬ T k j) ∨ bg = true)
    (x4 : (mn1 = mn ∧ ∀ k j, ((k = 25 ∧ 4 ≤ j) ∨ k = 26 ∨ k = 27 ∨ (k = 173 ∧ (j = 6 ∨ j = 8 ∨ j = 11)) ∨ k = 178 ∨ k = 179) → ¬ T k j) ∨ RCh S1 n mn1)
    (x5 : (mn1 = mn ∧ ∀ k j, ((28 ≤ k ∧ k ≤ 129) ∨ (k = 173 ∧ j = 30) ∨ (188 ≤ k ∧ k ≤ 192)) → ¬ T k j) ∨ RHist S1 n mn1 bg)
    (x6 : (∀ k j, (k = 130 ∨ k = 131 ∨ (k = 173 ∧ (j = 13 ∨ j = 14)) ∨ k = 180) → ¬ T k j) ∨ RFire S1)
    (x7 : (∀ k j, ((152 ≤ k ∧ k ≤ 160) ∨ k = 181 ∨ k = 182) → ¬ T k j) ∨ RSlots S1 n bg)
    (x8 : (∀ k j, ((k = 132 ∧ j = 3) ∨ k = 136 ∨ (k = 173 ∧ j = 18) ∨ k = 183) → ¬ T k j) ∨ RRost S1 n w bg)
    (x9 : (∀ k j, ((162 ≤ k ∧ k ≤ 169) ∨ (184 ≤ k ∧ k ≤ 186)) → ¬ T k j) ∨ RTer S1)
    (x10 : (∀ k j, ((k = 170 ∧ j = 1) ∨ k = 171 ∨ (k = 173 ∧ j = 23) ∨ k = 187) → ¬ T k j) ∨ RQ S1) : Rel S1 c n kd w bg g1 mn1 := by
  obtain ⟨⟨a1, a2, a3, a4, a5, a6⟩, ⟨b1', b2, b3, b4⟩, ⟨c1, c2, c3, c4⟩, d1, d2⟩ := h
  have hn := a3.1
  refine ⟨⟨a1.gs hs s1, a2.gs hs s2, a3, a4, a5, s3⟩, ⟨x1.elim (fun t => b1'.gs hs t) id, x2.elim (fun t => t.1 ▸ b2.gs hn hs t.2) id, x3.elim (fun t => b3.gs hs t) (fun t z => absurd (t.symm.trans z) (by decide)), x4.elim (fun t => t.1 ▸ b4.gs hn hs t.2) id⟩, ⟨x5.elim (fun t => t.1 ▸ c1.gs hn hs t.2) id, x6.elim (fun t => c2.gs hs t) id, x7.elim (fun t => c3.gs hn hs t) id, x8.elim (fun t => c4.gs hs t) id⟩, x9.elim (fun t => d1.gs hs t) id, x10.elim (fun t => d2.gs hs t) id⟩
theorem i10 : ((1 : Int32) = 0) ↔ False := by decide
theorem sI_s (S : St) (k j : Nat) (v : Int32) : (setI S k j v).1 k j = v := if_pos ⟨rfl, rfl⟩
theorem sJ_s (S : St) (k j : Nat) (v : Int64) : (setJ S k j v).2 k j = v := if_pos ⟨rfl, rfl⟩
theorem sI_n {S : St} {k j a b : Nat} {v : Int32} (h : ¬ (a = k ∧ b = j)) : (setI S k j v).1 a b = S.1 a b := if_neg h
theorem sJ_n {S : St} {k j a b : Nat} {v : Int64} (h : ¬ (a = k ∧ b = j)) : (setJ S k j v).2 a b = S.2 a b := if_neg h
theorem bd_id {ρ : Type} (o : Option (St × ρ)) : bd o (fun S r => some (S, r)) = o := by
  cases o with
  | none => rfl
  | some x => rfl
theorem bi_f : bi false = 0 := rfl
theorem bi_t : bi true = 1 := rfl
theorem ld_is (p : Nat) : sN (w p) 15 = ld w p := rfl
theorem lits2 : (-2 : Int32).toInt = -2 ∧ (-4 : Int32).toInt = -4 ∧ (-5 : Int32).toInt = -5 ∧ (10 : Int32).toInt = 10 ∧ (11 : Int32).toInt = 11 ∧ (14 : Int32).toInt = 14 ∧ (19 : Int32).toInt = 19 := by decide
end
