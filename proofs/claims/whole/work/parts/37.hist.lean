/-! what undo brings back -/
def NoteF (S Sf : St) (x h : Nat) : Prop := (∀ k j, 30 ≤ k → k ≤ 129 → ¬ (30 + 5 * x ≤ k ∧ k ≤ 34 + 5 * x) → Sf.1 k j = S.1 k j ∧ Sf.2 k j = S.2 k j) ∧ (∀ p, p < 12 → Sf.1 (31 + 5 * x) p = S.1 18 p) ∧ (∀ d, d < 3 → Sf.2 (32 + 5 * x) d = S.2 19 d) ∧ (∀ q, q < 12 → Sf.2 (33 + 5 * x) q = S.2 20 q) ∧ (∀ i, i < 12 → Sf.1 (34 + 5 * x) i = S.1 27 i) ∧ Sf.1 (30 + 5 * x) 4 = S.1 25 4 ∧ Sf.2 (30 + 5 * x) 5 = S.2 25 6 ∧ Sf.1 28 1 = nI ((x + 1) % 20) ∧ Sf.1 28 2 = nI (if h = 20 then 20 else h + 1)
theorem NoteF.gs {S S1 S2 : St} {x h : Nat} {T : Nat → Nat → Prop} (hx : x < 20) (n : NoteF S S1 x h) (hs : Sm T S1 S2) (hT : ∀ k j, 28 ≤ k ∧ k ≤ 129 → ¬ T k j) : NoteF S S2 x h := by
  obtain ⟨n1, n2, n3, n4, n5, n6, n7, n8, n9⟩ := n
  refine ⟨fun k j h1 h2 h3 => ?_, fun p hp => ?_, fun d hd => ?_, fun q hq => ?_, fun i hi => ?_, ?_, ?_, ?_, ?_⟩
  · have := hs k j (hT _ _ (by omega))
    rw [this.1, this.2]; exact n1 k j h1 h2 h3
  · rw [(hs _ _ (hT _ _ (by omega))).1]; exact n2 p hp
  · rw [(hs _ _ (hT _ _ (by omega))).2]; exact n3 d hd
  · rw [(hs _ _ (hT _ _ (by omega))).2]; exact n4 q hq
  · rw [(hs _ _ (hT _ _ (by omega))).1]; exact n5 i hi
  · rw [(hs _ _ (hT _ _ (by omega))).1]; exact n6
  · rw [(hs _ _ (hT _ _ (by omega))).2]; exact n7
  · rw [(hs _ _ (hT _ _ (by omega))).1]; exact n8
  · rw [(hs _ _ (hT _ _ (by omega))).1]; exact n9
/-- the reference's: h0 the place that is filled, s how far the others have come down -/
def StoF (S Sf : St) (h0 s : Nat) : Prop := (∀ j, j < h0 → (∀ e, e < 15 → Sf.2 188 (15 * j + e) = S.2 188 (15 * (j + s) + e)) ∧ (∀ e, e < 12 → Sf.2 189 (12 * j + e) = S.2 189 (12 * (j + s) + e)) ∧ Sf.2 190 j = S.2 190 (j + s) ∧ (∀ e, e < 12 → Sf.1 191 (12 * j + e) = S.1 191 (12 * (j + s) + e)) ∧ Sf.1 192 j = S.1 192 (j + s)) ∧ ((∀ e, e < 15 → Sf.2 188 (15 * h0 + e) = S.2 176 e) ∧ (∀ e, e < 12 → Sf.2 189 (12 * h0 + e) = S.2 177 e) ∧ Sf.2 190 h0 = S.2 173 8 ∧ (∀ e, e < 12 → Sf.1 191 (12 * h0 + e) = S.1 179 e) ∧ Sf.1 192 h0 = S.1 173 11) ∧ Sf.1 173 30 = nI (h0 + 1)
theorem StoF.gs {S S1 S2 : St} {h0 s : Nat} {T : Nat → Nat → Prop} (n : StoF S S1 h0 s) (hs : Sm T S1 S2) (hT : ∀ k j, (188 ≤ k ∧ k ≤ 192) ∨ (k = 173 ∧ j = 30) → ¬ T k j) : StoF S S2 h0 s := by
  obtain ⟨n1, ⟨n2, n3, n4, n5, n6⟩, n7⟩ := n
  refine ⟨fun j hj => ?_, ⟨fun e he => ?_, fun e he => ?_, ?_, fun e he => ?_, ?_⟩, ?_⟩
  · obtain ⟨m1, m2, m3, m4, m5⟩ := n1 j hj
    refine ⟨fun e he => ?_, fun e he => ?_, ?_, fun e he => ?_, ?_⟩
    · rw [(hs _ _ (hT _ _ (by omega))).2]; exact m1 e he
    · rw [(hs _ _ (hT _ _ (by omega))).2]; exact m2 e he
    · rw [(hs _ _ (hT _ _ (by omega))).2]; exact m3
    · rw [(hs _ _ (hT _ _ (by omega))).1]; exact m4 e he
    · rw [(hs _ _ (hT _ _ (by omega))).1]; exact m5
  · rw [(hs _ _ (hT _ _ (by omega))).2]; exact n2 e he
  · rw [(hs _ _ (hT _ _ (by omega))).2]; exact n3 e he
  · rw [(hs _ _ (hT _ _ (by omega))).2]; exact n4
  · rw [(hs _ _ (hT _ _ (by omega))).1]; exact n5 e he
  · rw [(hs _ _ (hT _ _ (by omega))).1]; exact n6
  · rw [(hs _ _ (hT _ _ (by omega))).1]; exact n7
theorem StoF.base {S S1 S2 : St} {h0 s : Nat} (q : CT S S1) (n : StoF S1 S2 h0 s) : StoF S S2 h0 s := by
  obtain ⟨n1, ⟨n2, n3, n4, n5, n6⟩, n7⟩ := n
  refine ⟨fun j hj => ?_, ⟨fun e he => ?_, fun e he => ?_, ?_, fun e he => ?_, ?_⟩, n7⟩
  · obtain ⟨m1, m2, m3, m4, m5⟩ := n1 j hj
    refine ⟨fun e he => ?_, fun e he => ?_, ?_, fun e he => ?_, ?_⟩
    · rw [m1 e he, q.l (by omega)]
    · rw [m2 e he, q.l (by omega)]
    · rw [m3, q.l (by omega)]
    · rw [m4 e he, q.i (by omega)]
    · rw [m5, q.i (by omega)]
  · rw [n2 e he, q.l (by omega)]
  · rw [n3 e he, q.l (by omega)]
  · rw [n4, q.l (by omega)]
  · rw [n5 e he, q.i (by omega)]
  · rw [n6, q.i (by omega)]
theorem sR_n {S : St} {k a b : Nat} {f : Nat → Int32} (h : ¬ a = k) : (setR S k f).1 a b = S.1 a b := if_neg h
theorem sR_s (S : St) (k b : Nat) (f : Nat → Int32) : (setR S k f).1 k b = f b := if_pos rfl
theorem sL_n {S : St} {k a b : Nat} {f : Nat → Int64} (h : ¬ a = k) : (setL S k f).2 a b = S.2 a b := if_neg h
theorem sL_s (S : St) (k b : Nat) (f : Nat → Int64) : (setL S k f).2 k b = f b := if_pos rfl
theorem sIr (S : St) (k j : Nat) (v : Int32) (a b : Nat) : (setI S k j v).2 a b = S.2 a b := rfl
theorem sJr (S : St) (k j : Nat) (v : Int64) (a b : Nat) : (setJ S k j v).1 a b = S.1 a b := rfl
theorem sRr (S : St) (k : Nat) (f : Nat → Int32) (a b : Nat) : (setR S k f).2 a b = S.2 a b := rfl
theorem sLr (S : St) (k : Nat) (f : Nat → Int64) (a b : Nat) : (setL S k f).1 a b = S.1 a b := rfl
theorem cpy0 {α : Type} {f g : Nat → α} {n j : Nat} (h : j < n) : va_cpy f g 0 0 n j = f j := by
  rw [pk_cpy_in (Nat.zero_le _) (by omega), Nat.zero_add, Nat.sub_zero]
theorem ix0 : ix (0 : Int32) = 0 := by decide
theorem ix3 : ix (3 : Int32) = 3 := by decide
theorem ix12 : ix (12 : Int32) = 12 := by decide
theorem take_ok (S : St) {x : Nat} (hx : x < 20) : ∃ S1, X4_takeFrom S (30 + 5 * x) 17 25 = some (S1, ()) ∧ Sm (fun k _ => 30 + 5 * x ≤ k ∧ k ≤ 34 + 5 * x) S S1 ∧ (∀ p, p < 12 → S1.1 (31 + 5 * x) p = S.1 18 p) ∧ (∀ d, d < 3 → S1.2 (32 + 5 * x) d = S.2 19 d) ∧ (∀ q, q < 12 → S1.2 (33 + 5 * x) q = S.2 20 q) ∧ (∀ i, i < 12 → S1.1 (34 + 5 * x) i = S.1 27 i) ∧ S1.1 (30 + 5 * x) 4 = S.1 25 4 ∧ S1.2 (30 + 5 * x) 5 = S.2 25 6 := by
  unfold X4_takeFrom
  obtain ⟨r0, r1, r2, r3⟩ := rf_mom hx
  simp only [lt_e, gu_t (show cpOk 0 0 12 12 12 by decide), gu_t (show cpOk 0 0 3 3 3 by decide), r0, r1, r2, r3, rfs, ix0, ix3, ix12]
  refine ⟨_, rfl, ?_, fun p hp => ?_, fun p hp => ?_, fun p hp => ?_, fun p hp => ?_, ?_, ?_⟩
  · exact ((((((sm_R S _ _).tr (sm_L _ _ _)).tr (sm_L _ _ _)).tr (sm_R _ _ _)).tr (sm_I _ _ _ _)).tr (sm_J _ _ _ _)).mo (by intro k j hk; omega)
  · rw [sJr, sI_n (by omega), sR_n (by omega), sLr, sLr, sR_s, cpy0 hp]
  · rw [sJ_n (by omega), sIr, sRr, sL_n (by omega), sL_s, cpy0 hp, sRr]
  · rw [sJ_n (by omega), sIr, sRr, sL_s, cpy0 hp, sL_n (by omega), sRr]
  · rw [sJr, sI_n (by omega), sR_s, cpy0 hp, sLr, sLr, sR_n (by omega)]
  · rw [sJr, sI_s, sR_n (by omega), sLr, sLr, sR_n (by omega)]
  · rw [sJ_s, sIr, sRr, sL_n (by omega), sL_n (by omega), sRr]
theorem note_ok {S : St} {x h : Nat} (hx : x < 20) (hh : h ≤ 20) (h1 : S.1 28 1 = nI x) (h2 : S.1 28 2 = nI h) : ∃ S1, X3_note S 28 17 25 = some (S1, ()) ∧ Sm (fun k j => (30 + 5 * x ≤ k ∧ k ≤ 34 + 5 * x) ∨ (k = 28 ∧ (j = 1 ∨ j = 2))) S S1 ∧ NoteF S S1 x h := by
  obtain ⟨Sa, t1, t2, t3, t4, t5, t6, t7, t8⟩ := take_ok S hx
  have e1 : nI x + (1 : Int32) = nI (x + 1) := nI_1 x
  have e2 : nI h + (1 : Int32) = nI (h + 1) := nI_1 h
  have e3 : irem (nI (x + 1)) 20 = nI ((x + 1) % 20) := by
    unfold irem
    rw [show (20 : Int32) = nI 20 from rfl, pk_rem (by omega) (by omega) (by omega)]
  have e4 : (if (20 : Int32) < nI (h + 1) then (20 : Int32) else nI (h + 1)) = nI (if h = 20 then 20 else h + 1) := by
    rw [show (20 : Int32) = nI 20 from rfl]
    by_cases z : h = 20
    · rw [if_pos z, if_pos (nI_lt (by omega) (by omega))]
    · rw [if_neg z, if_neg (nI_nlt (by omega) (by omega))]
  have g1 : Sa.1 28 1 = nI x := (t2 28 1 (fun z => by omega)).1.trans h1
  have g2 : Sa.1 28 2 = nI h := (t2 28 2 (fun z => by omega)).1.trans h2
  have hs := (t2.tr (sm_I Sa 28 1 (nI ((x + 1) % 20)))).tr (sm_I (setI Sa 28 1 (nI ((x + 1) % 20))) 28 2 (nI (if h = 20 then 20 else h + 1)))
  refine ⟨setI (setI Sa 28 1 (nI ((x + 1) % 20))) 28 2 (nI (if h = 20 then 20 else h + 1)), ?_, hs.mo (by intro k j hk; omega), ⟨fun k j q1 q2 q3 => hs k j (fun z => by omega), fun p hp => ?_, fun p hp => ?_, fun p hp => ?_, fun p hp => ?_, ?_, ?_, ?_, ?_⟩⟩
  · unfold X3_note
    rw [h1, ck_n hx (by omega), show rf 28 0 = 29 by decide +kernel, ix_n (by omega), rf_29, t1, bd_s, gu_t (by decide)]
    simp only [lt_e, g1, e1, e3, sI_n (show ¬ (28 = 28 ∧ 2 = 1) by omega), g2, e2, e4]
  · rw [sI_n (by omega), sI_n (by omega)]; exact t3 p hp
  · exact t4 p hp
  · exact t5 p hp
  · rw [sI_n (by omega), sI_n (by omega)]; exact t6 p hp
  · rw [sI_n (by omega), sI_n (by omega)]; exact t7
  · exact t8
  · rw [sI_n (by omega), sI_s]
  · rw [sI_s]
theorem append_ok {S : St} {h : Nat} (hh : h < 20) (h1 : S.1 173 30 = nI h) : ∃ S2, (∃ Sa Sb Sc, (∀ K : St → Int32 → Option (St × Unit), X11_store_163 173 K FU S (nI 0) = K Sa (nI 15)) ∧ (∀ K : St → Int32 → Option (St × Unit), X11_store_197 173 K FU Sa (nI 0) = K Sb (nI 12)) ∧ (∀ K : St → Int32 → Option (St × Unit), X11_store_231 173 K FU Sb (nI 0) = K Sc (nI 12)) ∧ Sc.1 173 30 = nI h ∧ S2 = setI (setI (setJ Sc 190 h (Sc.2 173 8)) 192 h (Sc.1 173 11)) 173 30 (nI (h + 1))) ∧ Sm (fun k j => (k = 188 ∧ 15 * h ≤ j ∧ j < 15 * h + 15) ∨ (k = 189 ∧ 12 * h ≤ j ∧ j < 12 * h + 12) ∨ (k = 190 ∧ j = h) ∨ (k = 191 ∧ 12 * h ≤ j ∧ j < 12 * h + 12) ∨ (k = 192 ∧ j = h) ∨ (k = 173 ∧ j = 30)) S S2 ∧ ((∀ e, e < 15 → S2.2 188 (15 * h + e) = S.2 176 e) ∧ (∀ e, e < 12 → S2.2 189 (12 * h + e) = S.2 177 e) ∧ S2.2 190 h = S.2 173 8 ∧ (∀ e, e < 12 → S2.1 191 (12 * h + e) = S.1 179 e) ∧ S2.1 192 h = S.1 173 11) ∧ S2.1 173 30 = nI (h + 1) := by
  obtain ⟨Sa, p1, p2, p3⟩ := store_163_ok hh 15 FU 0 S (by omega) (by decide) h1
  have h2 : Sa.1 173 30 = nI h := (p2 _ _ (fun z => by omega)).1.trans h1
  obtain ⟨Sb, r1, r2, r3⟩ := store_197_ok hh 12 FU 0 Sa (by omega) (by decide) h2
  have h3 : Sb.1 173 30 = nI h := (r2 _ _ (fun z => by omega)).1.trans h2
  obtain ⟨Sc, u1, u2, u3⟩ := store_231_ok hh 12 FU 0 Sb (by omega) (by decide) h3
  have h4 : Sc.1 173 30 = nI h := (u2 _ _ (fun z => by omega)).1.trans h3
  have e1 : nI h + (1 : Int32) = nI (h + 1) := nI_1 h
  have hs := ((((p2.tr r2).tr u2).tr (sm_J Sc 190 h (Sc.2 173 8))).tr (sm_I (setJ Sc 190 h (Sc.2 173 8)) 192 h (Sc.1 173 11))).tr (sm_I (setI (setJ Sc 190 h (Sc.2 173 8)) 192 h (Sc.1 173 11)) 173 30 (nI (h + 1)))
  refine ⟨setI (setI (setJ Sc 190 h (Sc.2 173 8)) 192 h (Sc.1 173 11)) 173 30 (nI (h + 1)), ?_, hs.mo (by intro k j hk; omega), ⟨fun e he => ?_, fun e he => ?_, ?_, fun e he => ?_, ?_⟩, sI_s _ _ _ _⟩
  · exact ⟨Sa, Sb, Sc, p1, r1, u1, h4, rfl⟩
  · rw [sIr, sIr, sJ_n (by omega), (u2 _ _ (fun z => by omega)).2, (r2 _ _ (fun z => by omega)).2]
    exact p3 e (by omega) he
  · rw [sIr, sIr, sJ_n (by omega), (u2 _ _ (fun z => by omega)).2, r3 e (by omega) he, (p2 _ _ (fun z => by omega)).2]
  · rw [sIr, sIr, sJ_s, (u2 _ _ (fun z => by omega)).2, (r2 _ _ (fun z => by omega)).2, (p2 _ _ (fun z => by omega)).2]
  · rw [sI_n (by omega), sI_n (by omega), sJr, u3 e (by omega) he, (r2 _ _ (fun z => by omega)).1, (p2 _ _ (fun z => by omega)).1]
  · rw [sI_n (by omega), sI_s, (u2 _ _ (fun z => by omega)).1, (r2 _ _ (fun z => by omega)).1, (p2 _ _ (fun z => by omega)).1]
theorem store_ok {S : St} {h : Nat} (hh : h ≤ 20) (h1 : S.1 173 30 = nI h) : ∃ S2, X11_store S 173 = some (S2, ()) ∧ Sm (fun k j => (188 ≤ k ∧ k ≤ 192) ∨ (k = 173 ∧ j = 30)) S S2 ∧ StoF S S2 (if h = 20 then 19 else h) (if h = 20 then 1 else 0) := by
  unfold X11_store
  rw [lt_e, h1]
  by_cases z : h = 20
  · subst z
    rw [if_neg (fun y => y rfl), show (0 : Int32) = nI 0 from rfl]
    obtain ⟨Sa, p1, p2, p3⟩ := store_11_ok 285 FU 0 S (by omega) (by decide)
    obtain ⟨Sb, r1, r2, r3⟩ := store_41_ok 228 FU 0 Sa (by omega) (by decide)
    obtain ⟨Sc, u1, u2, u3⟩ := store_71_ok 228 FU 0 Sb (by omega) (by decide)
    obtain ⟨Sd, v1, v2, v3⟩ := store_101_ok 19 FU 0 Sc (by omega) (by decide)
    obtain ⟨Se, x1, x2, x3⟩ := store_129_ok 19 FU 0 Sd (by omega) (by decide)
    obtain ⟨Sf, ⟨Ga, Gb, Gc, g1, g2, g3, g4, g5⟩, y2, ⟨y3, y4, y5, y6, y7⟩, y8⟩ := append_ok (S := setI Se 173 30 (nI 19)) (show 19 < 20 by omega) (sI_s _ _ _ _)
    have e1 : nI 19 + (1 : Int32) = nI (19 + 1) := nI_1 19
    have hs := (((((p2.tr r2).tr u2).tr v2).tr x2).tr (sm_I Se 173 30 (nI 19))).tr y2
    refine ⟨Sf, ?_, hs.mo (by intro k j hk; omega), ⟨fun j hj => ⟨fun e he => ?_, fun e he => ?_, ?_, fun e he => ?_, ?_⟩, ⟨fun e he => ?_, fun e he => ?_, ?_, fun e he => ?_, ?_⟩, y8⟩⟩
    · rw [p1, r1, u1, v1, x1, lt_e, show (19 : Int32) = nI 19 from rfl]
      dsimp only
      rw [g1, g2, g3]
      simp only [lt_e, g4, ck_n (show 19 < 20 by omega) (show 20 < 2147483648 by omega), ix_n (show 19 < 2147483648 by omega), rfm, sJr, sI_n (show ¬ (173 = 192 ∧ 30 = 19) by omega), e1, g5]
    · rw [if_pos rfl] at hj ⊢
      rw [(y2 _ _ (fun z => by omega)).2, sIr, (x2 _ _ (fun z => by omega)).2, (v2 _ _ (fun z => by omega)).2, (u2 _ _ (fun z => by omega)).2, (r2 _ _ (fun z => by omega)).2, p3 _ (by omega) (by omega), show 15 * j + e + 15 = 15 * (j + 1) + e by omega]
    · rw [if_pos rfl] at hj ⊢
      rw [(y2 _ _ (fun z => by omega)).2, sIr, (x2 _ _ (fun z => by omega)).2, (v2 _ _ (fun z => by omega)).2, (u2 _ _ (fun z => by omega)).2, r3 _ (by omega) (by omega), (p2 _ _ (fun z => by omega)).2, show 12 * j + e + 12 = 12 * (j + 1) + e by omega]
    · rw [if_pos rfl] at hj ⊢
      rw [(y2 _ _ (fun z => by omega)).2, sIr, (x2 _ _ (fun z => by omega)).2, v3 _ (by omega) (by omega), (u2 _ _ (fun z => by omega)).2, (r2 _ _ (fun z => by omega)).2, (p2 _ _ (fun z => by omega)).2]
    · rw [if_pos rfl] at hj ⊢
      rw [(y2 _ _ (fun z => by omega)).1, sI_n (by omega), (x2 _ _ (fun z => by omega)).1, (v2 _ _ (fun z => by omega)).1, u3 _ (by omega) (by omega), (r2 _ _ (fun z => by omega)).1, (p2 _ _ (fun z => by omega)).1, show 12 * j + e + 12 = 12 * (j + 1) + e by omega]
    · rw [if_pos rfl] at hj ⊢
      rw [(y2 _ _ (fun z => by omega)).1, sI_n (by omega), x3 _ (by omega) (by omega), (v2 _ _ (fun z => by omega)).1, (u2 _ _ (fun z => by omega)).1, (r2 _ _ (fun z => by omega)).1, (p2 _ _ (fun z => by omega)).1]
    · rw [if_pos rfl, y3 e he, sIr, (x2 _ _ (fun z => by omega)).2, (v2 _ _ (fun z => by omega)).2, (u2 _ _ (fun z => by omega)).2, (r2 _ _ (fun z => by omega)).2, (p2 _ _ (fun z => by omega)).2]
    · rw [if_pos rfl, y4 e he, sIr, (x2 _ _ (fun z => by omega)).2, (v2 _ _ (fun z => by omega)).2, (u2 _ _ (fun z => by omega)).2, (r2 _ _ (fun z => by omega)).2, (p2 _ _ (fun z => by omega)).2]
    · rw [if_pos rfl, y5, sIr, (x2 _ _ (fun z => by omega)).2, (v2 _ _ (fun z => by omega)).2, (u2 _ _ (fun z => by omega)).2, (r2 _ _ (fun z => by omega)).2, (p2 _ _ (fun z => by omega)).2]
    · rw [if_pos rfl, y6 e he, sI_n (by omega), (x2 _ _ (fun z => by omega)).1, (v2 _ _ (fun z => by omega)).1, (u2 _ _ (fun z => by omega)).1, (r2 _ _ (fun z => by omega)).1, (p2 _ _ (fun z => by omega)).1]
    · rw [if_pos rfl, y7, sI_n (by omega), (x2 _ _ (fun z => by omega)).1, (v2 _ _ (fun z => by omega)).1, (u2 _ _ (fun z => by omega)).1, (r2 _ _ (fun z => by omega)).1, (p2 _ _ (fun z => by omega)).1]
  · obtain ⟨Sf, ⟨Ga, Gb, Gc, g1, g2, g3, g4, g5⟩, y2, y3, y8⟩ := append_ok (S := S) (show h < 20 by omega) h1
    have e1 : nI h + (1 : Int32) = nI (h + 1) := nI_1 h
    rw [if_pos (by rw [show (20 : Int32) = nI 20 from rfl, nI_eq (by omega) (by omega)]; exact z), if_neg z, if_neg z, show (0 : Int32) = nI 0 from rfl]
    dsimp only
    rw [g1, g2, g3]
    simp only [lt_e, g4, ck_n (show h < 20 by omega) (show 20 < 2147483648 by omega), ix_n (show h < 2147483648 by omega), rfm, sJr, sI_n (show ¬ (173 = 192 ∧ 30 = h) by omega), e1, ← g5]
    exact ⟨Sf, rfl, y2.mo (by intro k j hk; omega), ⟨fun j hj => ⟨fun e he => by rw [(y2 _ _ (fun z => by omega)).2, Nat.add_zero], fun e he => by rw [(y2 _ _ (fun z => by omega)).2, Nat.add_zero], by rw [(y2 _ _ (fun z => by omega)).2, Nat.add_zero], fun e he => by rw [(y2 _ _ (fun z => by omega)).1, Nat.add_zero], by rw [(y2 _ _ (fun z => by omega)).1, Nat.add_zero]⟩, y3, y8⟩⟩
section
variable {S Sf : St} {n mn : Nat} {bg : Bool} {g : Nat → Nat}
theorem RMom.mv {c j j2 : Nat} (h : RMom S n mn c j) (hn : n ≤ 12) (hc : ∀ k i, 30 + 5 * c ≤ k ∧ k ≤ 34 + 5 * c → Sf.1 k i = S.1 k i ∧ Sf.2 k i = S.2 k i) (m1 : ∀ e, e < 15 → Sf.2 188 (15 * j2 + e) = S.2 188 (15 * j + e)) (m2 : ∀ e, e < 12 → Sf.2 189 (12 * j2 + e) = S.2 189 (12 * j + e)) (m3 : Sf.2 190 j2 = S.2 190 j) (m4 : ∀ e, e < 12 → Sf.1 191 (12 * j2 + e) = S.1 191 (12 * j + e)) (m5 : Sf.1 192 j2 = S.1 192 j) : RMom Sf n mn c j2 := by
  obtain ⟨⟨g, s1, s2, s3, s4, s5, s6⟩, ⟨sd, t1, t2, t3⟩, t4⟩ := h
  refine ⟨⟨g, fun p hp => ?_, fun p hp => ?_, s3, fun d hd => ?_, fun q hq => ?_, fun q hq hq2 => ?_⟩, ⟨sd, t1, ?_, ?_⟩, fun hm => ?_⟩
  · rw [(hc _ _ (by omega)).1]; exact s1 p hp
  · rw [m1 p (by omega)]; exact s2 p hp
  · rw [(hc _ _ (by omega)).2, Nat.add_assoc, m1 (12 + d) (by omega), ← Nat.add_assoc]; exact s4 d hd
  · rw [(hc _ _ (by omega)).2, m2 q hq]; exact s5 q hq
  · rw [m2 q hq2]; exact s6 q hq hq2
  · rw [(hc _ _ (by omega)).2]; exact t2
  · rw [m3]; exact t3
  · obtain ⟨r, q, r1, r2, r3, r4, r5⟩ := t4 hm
    refine ⟨r, q, r1, ?_, ?_, fun i hi => ?_, r5⟩
    · rw [(hc _ _ (by omega)).1]; exact r2
    · rw [m5]; exact r3
    · rw [(hc _ _ (by omega)).1, m4 i (by omega)]; exact r4 i hi
theorem RHist.push {x h : Nat} (hist : RHist S n mn bg) (hn : n ≤ 12) (hb : bg = true) (rh : RH S n g) (ch : RCh S n mn) (e1 : S.1 28 1 = nI x) (e2 : S.1 28 2 = nI h) (hx : x < 20) (hh : h ≤ 20) (nf : NoteF S Sf x h) (sf : StoF S Sf (if h = 20 then 19 else h) (if h = 20 then 1 else 0)) : RHist Sf n mn bg := by
  obtain ⟨h', x', h1, h2, h3, h4, h5, h6, h7⟩ := hist
  have ex : x' = x := (nI_eq (by omega) (by omega)).mp (h5.symm.trans e1)
  have eh : h' = h := (nI_eq (by omega) (by omega)).mp (h3.symm.trans e2)
  subst ex eh
  obtain ⟨n1, n2, n3, n4, n5, n6, n7, n8, n9⟩ := nf
  obtain ⟨f1, ⟨f2, f3, f4, f5, f6⟩, f7⟩ := sf
  have new : RMom Sf n mn x' (if h' = 20 then 19 else h') := by
    obtain ⟨s1, s2, s3, s4, s5, s6⟩ := rh
    obtain ⟨-, -, -, ⟨sd, t1, t2, t3⟩, -, t5⟩ := ch
    refine ⟨⟨g, fun p hp => ?_, fun p hp => ?_, s3, fun d hd => ?_, fun q hq => ?_, fun q hq hq2 => ?_⟩, ⟨sd, t1, ?_, ?_⟩, fun hm => ?_⟩
    · rw [n2 p (by omega)]; exact s1 p hp
    · rw [f2 p (by omega)]; have := s2 p hp; rw [Nat.zero_add] at this; exact this
    · rw [n3 d hd, Nat.add_assoc, f2 (12 + d) (by omega)]; have := s4 d hd; rw [Nat.zero_add] at this; exact this
    · rw [n4 q hq, f3 q hq]; have := s5 q hq; rw [Nat.zero_add] at this; exact this
    · rw [f3 q hq2]; have := s6 q hq hq2; rw [Nat.zero_add] at this; exact this
    · rw [n7]; exact t2
    · rw [f4]; exact t3
    · obtain ⟨r, q, r1, r2, r3, r4, r5⟩ := t5 hm
      refine ⟨r, q, r1, ?_, ?_, fun i hi => ?_, r5⟩
      · rw [n6]; exact r2
      · rw [f6]; exact r3
      · rw [n5 i (by omega), f5 i (by omega)]
        have := r4 i hi
        rw [Nat.zero_add] at this
        exact this
  refine ⟨if h' = 20 then 20 else h' + 1, (x' + 1) % 20, by split <;> omega, Nat.mod_lt _ (by omega), n9, ?_, n8, fun _ => hb, fun j hj => ?_⟩
  · rw [f7]
    congr 1
    split <;> omega
  · by_cases z : h' = 20
    · rw [if_pos z] at hj new f1 ⊢
      rw [if_pos z] at f1
      by_cases y : j = 19
      · have e9 : ((x' + 1) % 20 + 20 - 20 + j) % 20 = x' := by omega
        rw [e9, y]; exact new
      · have hm := h7 (j + 1) (by omega)
        have e9 : ((x' + 1) % 20 + 20 - 20 + j) % 20 = (x' + 20 - h' + (j + 1)) % 20 := by omega
        have e10 : (x' + 20 - h' + (j + 1)) % 20 ≠ x' := by omega
        obtain ⟨m1, m2, m3, m4, m5⟩ := f1 j (by omega)
        rw [e9]
        have hlt := Nat.mod_lt (x' + 20 - h' + (j + 1)) (show 0 < 20 by omega)
        generalize (x' + 20 - h' + (j + 1)) % 20 = cc at hm e10 hlt ⊢
        exact hm.mv hn (fun k i hk => n1 k i (by omega) (by omega) (by omega)) m1 m2 m3 m4 m5
    · rw [if_neg z] at hj new f1 ⊢
      rw [if_neg z] at f1
      by_cases y : j = h'
      · have e9 : ((x' + 1) % 20 + 20 - (h' + 1) + j) % 20 = x' := by omega
        rw [e9, y]; exact new
      · have hm := h7 j (by omega)
        have e9 : ((x' + 1) % 20 + 20 - (h' + 1) + j) % 20 = (x' + 20 - h' + j) % 20 := by omega
        have e10 : (x' + 20 - h' + j) % 20 ≠ x' := by omega
        obtain ⟨m1, m2, m3, m4, m5⟩ := f1 j (by omega)
        rw [e9]
        have hlt := Nat.mod_lt (x' + 20 - h' + j) (show 0 < 20 by omega)
        generalize (x' + 20 - h' + j) % 20 = cc at hm e10 hlt ⊢
        exact hm.mv hn (fun k i hk => n1 k i (by omega) (by omega) (by omega)) m1 m2 m3 m4 m5
end
