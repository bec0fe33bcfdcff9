/-! operations, one by one: both answer the same, and the relation holds again -/
def RelX (S : St) (c : Nat) : Prop := ∃ n kd w bg g mn, Rel S c n kd w bg g mn
def Ok {ρ : Type} (S : St) (c : Nat) (f m : St → Option (St × ρ)) : Prop := ∃ S1 S2 r, f S = some (S1, r) ∧ m S1 = some (S2, r) ∧ RelX S2 (c + 1)
section
variable {S : St} {c n mn : Nat} {kd : Nat → Nat} {w : Nat → Nat → Nat} {bg : Bool} {g : Nat → Nat}
theorem Rel.up (h : Rel S c n kd w bg g mn) : Rel S (c + 1) n kd w bg g mn := by
  obtain ⟨⟨a1, a2, a3, a4, a5, a6⟩, h2⟩ := h
  exact ⟨⟨a1, a2, a3, fun p hp => by have := a4 p hp; omega, a5, a6⟩, h2⟩
theorem Rel.x (h : Rel S c n kd w bg g mn) : RelX S (c + 1) := ⟨n, kd, w, bg, g, mn, h.up⟩
theorem found_c (v : Int32) : X10_found S 0 v = some (setI S 0 15 (S.1 0 15 + 1), v) := rfl
theorem found_m (v : Int32) : X11_found S 173 v = some (setI S 173 24 (S.1 173 24 + 1), v) := rfl
/-- cells and slots that neither side's groups share with a list of slots -/
theorem Rel.found (h : Rel S c n kd w bg g mn) : Rel (setI (setI S 0 15 (S.1 0 15 + 1)) 173 24 (S.1 173 24 + 1)) c n kd w bg g mn := by
  obtain ⟨⟨a1, a2, a3, a4, a5, a6⟩, ⟨b1', b2, b3, b4⟩, ⟨c1, c2, c3, c4⟩, d1, d2⟩ := h
  have hn := a3.1
  have hs := ((sm_I S 0 15 (S.1 0 15 + 1)).tr (sm_I (setI S 0 15 (S.1 0 15 + 1)) 173 24 (S.1 173 24 + 1)))
  refine ⟨⟨a1.gs hs ?_, a2.gs hs ?_, a3, a4, a5, a6⟩, ⟨⟨?_, ?_, ?_, ?_⟩, b2.gs hn hs ?_, b3.gs hs ?_, b4.gs hn hs ?_⟩, ⟨c1.gs hn hs ?_, c2.gs hs ?_, c3.gs hn hs ?_, c4.gs hs ?_⟩, d1.gs hs ?_, d2.gs hs ?_⟩
  case refine_3 => simp only [sI1]; exact b1'.1
  case refine_4 => simp only [sI1]; exact b1'.2.1
  case refine_5 => simp only [sI1]; exact b1'.2.2.1
  case refine_6 =>
    have := b1'.2.2.2
    simp only [sI1, this]
    rfl
  all_goals
    intro k j hk hq
    omega
theorem bi_0 : (bi bg = 0) ↔ bg = false := by cases bg <;> decide
theorem Ok.found2 {f m : St → Option (St × Int32)} {v : Int32} (h : Rel S c n kd w bg g mn) (hf : f S = bd (X10_found S 0 v) (fun S r => some (S, r))) (hm : m (setI S 0 15 (S.1 0 15 + 1)) = bd (X11_found (setI S 0 15 (S.1 0 15 + 1)) 173 v) (fun S r => some (S, r))) : Ok S c f m := by
  refine ⟨_, _, v, hf, hm, ?_⟩
  have e : (setI S 0 15 (S.1 0 15 + 1)).1 173 24 = S.1 173 24 := by simp only [sI1]; rfl
  rw [e]
  exact h.found.x
end
