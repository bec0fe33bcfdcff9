/-! the relation between the class's cells and the reference's -/
def Sm (T : Nat → Nat → Prop) (S S1 : St) : Prop := ∀ k j, ¬ T k j → S1.1 k j = S.1 k j ∧ S1.2 k j = S.2 k j
theorem Sm.rf {T : Nat → Nat → Prop} {S : St} : Sm T S S := fun _ _ _ => ⟨rfl, rfl⟩
theorem Sm.of {T : Nat → Prop} {S S1 : St} (h : Same T S S1) : Sm (fun k _ => T k) S S1 := fun k j hk => ⟨congrFun (h k hk).1 j, congrFun (h k hk).2 j⟩
theorem Sm.tr {T U : Nat → Nat → Prop} {S S1 S2 : St} (h1 : Sm T S S1) (h2 : Sm U S1 S2) : Sm (fun k j => T k j ∨ U k j) S S2 := fun k j hk => ⟨(h2 k j (fun q => hk (Or.inr q))).1.trans (h1 k j (fun q => hk (Or.inl q))).1, (h2 k j (fun q => hk (Or.inr q))).2.trans (h1 k j (fun q => hk (Or.inl q))).2⟩
theorem Sm.mo {T U : Nat → Nat → Prop} {S S1 : St} (h1 : Sm T S S1) (h : ∀ k j, T k j → U k j) : Sm U S S1 := fun k j hk => h1 k j (fun q => hk (h k j q))
theorem sm_I (S : St) (k j : Nat) (v : Int32) : Sm (fun a b => a = k ∧ b = j) S (setI S k j v) := fun a b h => ⟨by rw [sI1, if_neg h], rfl⟩
theorem sm_J (S : St) (k j : Nat) (v : Int64) : Sm (fun a b => a = k ∧ b = j) S (setJ S k j v) := fun a b h => ⟨rfl, by rw [sJ2, if_neg h]⟩
theorem sm_R (S : St) (k : Nat) (f : Nat → Int32) : Sm (fun a _ => a = k) S (setR S k f) := fun a b h => ⟨by rw [sR1, if_neg h], rfl⟩
theorem sm_L (S : St) (k : Nat) (f : Nat → Int64) : Sm (fun a _ => a = k) S (setL S k f) := fun a b h => ⟨rfl, by rw [sL2, if_neg h]⟩
def bi (b : Bool) : Int32 := cond b 1 0
theorem CSl.gs {S S1 : St} {n : Nat} {kd : Nat → Nat} {w : Nat → Nat → Nat} {T : Nat → Nat → Prop} (h : CSl S n kd w) (hs : Sm T S S1) (hT : ∀ k j, (1 ≤ k ∧ k ≤ 16) → ¬ T k j) : CSl S1 n kd w := by
  obtain ⟨h1, h2, h3, h4⟩ := h
  refine ⟨?_, fun p hp => ?_, fun p e hp he => ?_, fun p hp => ?_⟩
  · rw [(hs 1 3 (hT _ _ (by omega))).1]; exact h1
  · rw [(hs 2 p (hT _ _ (by omega))).1]; exact h2 p hp
  · rw [(hs (4 + p) e (hT _ _ (by omega))).1]; exact h3 p e hp he
  · rw [(hs 16 p (hT _ _ (by omega))).1]; exact h4 p hp
theorem MSl.gs {S S1 : St} {n : Nat} {kd : Nat → Nat} {w : Nat → Nat → Nat} {T : Nat → Nat → Prop} (h : MSl S n kd w) (hs : Sm T S S1) (hT : ∀ k j, ((k = 173 ∧ j = 0) ∨ k = 174 ∨ k = 175) → ¬ T k j) : MSl S1 n kd w := by
  obtain ⟨h1, h2, h3⟩ := h
  refine ⟨?_, fun p hp => ?_, fun p e hp he => ?_⟩
  · rw [(hs 173 0 (hT _ _ (by omega))).1]; exact h1
  · rw [(hs 174 p (hT _ _ (by omega))).1]; exact h2 p hp
  · rw [(hs 175 (15 * p + e) (hT _ _ (by omega))).1]; exact h3 p e hp he
/-- begun, the lost bits, the findings -/
def RSc (S : St) (bg : Bool) : Prop := S.1 0 13 = bi bg ∧ S.1 173 3 = bi bg ∧ S.1 0 14 = S.1 173 7 ∧ S.1 0 15 = S.1 173 24
theorem RSc.gs {S S1 : St} {bg : Bool} {T : Nat → Nat → Prop} (h : RSc S bg) (hs : Sm T S S1) (hT : ∀ k j, ((k = 0 ∧ 13 ≤ j) ∨ (k = 173 ∧ (j = 3 ∨ j = 7 ∨ j = 24))) → ¬ T k j) : RSc S1 bg := by
  obtain ⟨h1, h2, h3, h4⟩ := h
  refine ⟨?_, ?_, ?_, ?_⟩
  · rw [(hs 0 13 (hT _ _ (by omega))).1]; exact h1
  · rw [(hs 173 3 (hT _ _ (by omega))).1]; exact h2
  · rw [(hs 0 14 (hT _ _ (by omega))).1, (hs 173 7 (hT _ _ (by omega))).1]; exact h3
  · rw [(hs 0 15 (hT _ _ (by omega))).1, (hs 173 24 (hT _ _ (by omega))).1]; exact h4
/-- a moment: grains, ditches, odometer in both; the class's rows, the reference's and the place in them -/
def Snp (S : St) (n : Nat) (g : Nat → Nat) (gk dk sk mg og mo oo : Nat) : Prop := (∀ p, p < n → S.1 gk p = nI (g p)) ∧ (∀ p, p < n → S.2 mg (og + p) = lN (g p)) ∧ B1 n g ∧ (∀ d, d < 3 → S.2 dk d = S.2 mg (og + 12 + d)) ∧ (∀ q, q < 12 → S.2 sk q = S.2 mo (oo + q)) ∧ ∀ q, n ≤ q → q < 12 → S.2 mo (oo + q) = 0
theorem Snp.gs {S S1 : St} {n : Nat} {g : Nat → Nat} {gk dk sk mg og mo oo : Nat} {T : Nat → Nat → Prop} (h : Snp S n g gk dk sk mg og mo oo) (hn : n ≤ 12) (hs : Sm T S S1) (hT : ∀ k j, (k = gk ∨ k = dk ∨ k = sk ∨ (k = mg ∧ og ≤ j ∧ j < og + 15) ∨ (k = mo ∧ oo ≤ j ∧ j < oo + 12)) → ¬ T k j) : Snp S1 n g gk dk sk mg og mo oo := by
  obtain ⟨h1, h2, h3, h4, h5, h6⟩ := h
  refine ⟨fun p hp => ?_, fun p hp => ?_, h3, fun d hd => ?_, fun q hq => ?_, fun q hq hq2 => ?_⟩
  · rw [(hs gk p (hT _ _ (by omega))).1]; exact h1 p hp
  · rw [(hs mg (og + p) (hT _ _ (by omega))).2]; exact h2 p hp
  · rw [(hs dk d (hT _ _ (by omega))).2, (hs mg (og + 12 + d) (hT _ _ (by omega))).2]; exact h4 d hd
  · rw [(hs sk q (hT _ _ (by omega))).2, (hs mo (oo + q) (hT _ _ (by omega))).2]; exact h5 q hq
  · rw [(hs mo (oo + q) (hT _ _ (by omega))).2]; exact h6 q hq hq2
abbrev RH (S : St) (n : Nat) (g : Nat → Nat) : Prop := Snp S n g 18 19 20 176 0 177 0
/-- before it has begun all grains are 0 -/
def RNb (S : St) (bg : Bool) : Prop := bg = false → ∀ p, p < 12 → S.1 18 p = 0 ∧ S.2 176 p = 0
theorem RNb.gs {S S1 : St} {bg : Bool} {T : Nat → Nat → Prop} (h : RNb S bg) (hs : Sm T S S1) (hT : ∀ k j, (k = 18 ∨ k = 176) → ¬ T k j) : RNb S1 bg := fun hb p hp => by
  rw [(hs 18 p (hT _ _ (by omega))).1, (hs 176 p (hT _ _ (by omega))).2]
  exact h hb p hp
/-- a row of asked places: no place twice -/
def RRow (S : St) (n : Nat) (rk rc rj mk mo mc mj : Nat) : Prop := ∃ (r : Nat) (q : Nat → Nat), r ≤ n ∧ S.1 rc rj = nI r ∧ S.1 mc mj = nI r ∧ (∀ i, i < r → S.1 rk i = nI (q i) ∧ S.1 mk (mo + i) = nI (q i) ∧ q i < n) ∧ ∀ i j, i < r → j < r → q i = q j → i = j
theorem RRow.gs {S S1 : St} {n rk rc rj mk mo mc mj : Nat} {T : Nat → Nat → Prop} (h : RRow S n rk rc rj mk mo mc mj) (hn : n ≤ 12) (hs : Sm T S S1) (hT : ∀ k j, ((k = rk ∧ j < 12) ∨ (k = rc ∧ j = rj) ∨ (k = mk ∧ mo ≤ j ∧ j < mo + 12) ∨ (k = mc ∧ j = mj)) → ¬ T k j) : RRow S1 n rk rc rj mk mo mc mj := by
  obtain ⟨r, q, h1, h2, h3, h4, h5⟩ := h
  refine ⟨r, q, h1, ?_, ?_, fun i hi => ?_, h5⟩
  · rw [(hs rc rj (hT _ _ (by omega))).1]; exact h2
  · rw [(hs mc mj (hT _ _ (by omega))).1]; exact h3
  · rw [(hs rk i (hT _ _ (by omega))).1, (hs mk (mo + i) (hT _ _ (by omega))).1]; exact h4 i hi
/-- the manner, the seed, the order, the row of asked places -/
def RCh (S : St) (n mn : Nat) : Prop := mn < 5 ∧ S.1 25 5 = nI mn ∧ S.1 173 6 = nI mn ∧ (∃ sd, sd < 2147483648 ∧ S.2 25 6 = lN sd ∧ S.2 173 8 = lN sd) ∧ (mn = 2 → ∃ od : Nat → Nat, (∀ i, i < n → S.1 26 i = nI (od i) ∧ S.1 178 i = nI (od i) ∧ od i < n) ∧ ∀ p, p < n → ∃ i, i < n ∧ od i = p) ∧ (mn = 4 → RRow S n 27 25 4 179 0 173 11)
theorem RCh.gs {S S1 : St} {n mn : Nat} {T : Nat → Nat → Prop} (h : RCh S n mn) (hn : n ≤ 12) (hs : Sm T S S1) (hT : ∀ k j, ((k = 25 ∧ 4 ≤ j) ∨ k = 26 ∨ k = 27 ∨ (k = 173 ∧ (j = 6 ∨ j = 8 ∨ j = 11)) ∨ k = 178 ∨ k = 179) → ¬ T k j) : RCh S1 n mn := by
  obtain ⟨h1, h2, h3, ⟨sd, h4, h5, h6⟩, h7, h8⟩ := h
  refine ⟨h1, ?_, ?_, ⟨sd, h4, ?_, ?_⟩, fun hm => ?_, fun hm => (h8 hm).gs hn hs (fun k j hk => hT k j (by omega))⟩
  · rw [(hs 25 5 (hT _ _ (by omega))).1]; exact h2
  · rw [(hs 173 6 (hT _ _ (by omega))).1]; exact h3
  · rw [(hs 25 6 (hT _ _ (by omega))).2]; exact h5
  · rw [(hs 173 8 (hT _ _ (by omega))).2]; exact h6
  · obtain ⟨od, q1, q2⟩ := h7 hm
    exact ⟨od, fun i hi => by rw [(hs 26 i (hT _ _ (by omega))).1, (hs 178 i (hT _ _ (by omega))).1]; exact q1 i hi, q2⟩
/-- one remembered moment: ring place c, the reference's place j -/
def RMom (S : St) (n mn c j : Nat) : Prop := (∃ g, Snp S n g (31 + 5 * c) (32 + 5 * c) (33 + 5 * c) 188 (15 * j) 189 (12 * j)) ∧ (∃ sd, sd < 2147483648 ∧ S.2 (30 + 5 * c) 5 = lN sd ∧ S.2 190 j = lN sd) ∧ (mn = 4 → RRow S n (34 + 5 * c) (30 + 5 * c) 4 191 (12 * j) 192 j)
theorem RMom.gs {S S1 : St} {n mn c j : Nat} {T : Nat → Nat → Prop} (h : RMom S n mn c j) (hn : n ≤ 12) (hc : c < 20) (hj : j < 20) (hs : Sm T S S1) (hT : ∀ k i, ((30 + 5 * c ≤ k ∧ k ≤ 34 + 5 * c) ∨ (k = 188 ∧ 15 * j ≤ i ∧ i < 15 * j + 15) ∨ (k = 189 ∧ 12 * j ≤ i ∧ i < 12 * j + 12) ∨ (k = 190 ∧ i = j) ∨ (k = 191 ∧ 12 * j ≤ i ∧ i < 12 * j + 12) ∨ (k = 192 ∧ i = j)) → ¬ T k i) : RMom S1 n mn c j := by
  obtain ⟨⟨g, h1⟩, ⟨sd, h2, h3, h4⟩, h5⟩ := h
  refine ⟨⟨g, h1.gs hn hs (fun k i hk => hT k i (by omega))⟩, ⟨sd, h2, ?_, ?_⟩, fun hm => (h5 hm).gs hn hs (fun k i hk => hT k i (by omega))⟩
  · rw [(hs (30 + 5 * c) 5 (hT _ _ (by omega))).2]; exact h3
  · rw [(hs 190 j (hT _ _ (by omega))).2]; exact h4
def RHist (S : St) (n mn : Nat) (bg : Bool) : Prop := ∃ h x, h ≤ 20 ∧ x < 20 ∧ S.1 28 2 = nI h ∧ S.1 173 30 = nI h ∧ S.1 28 1 = nI x ∧ (0 < h → bg = true) ∧ ∀ j, j < h → RMom S n mn ((x + 20 - h + j) % 20) j
theorem RHist.gs {S S1 : St} {n mn : Nat} {bg : Bool} {T : Nat → Nat → Prop} (h : RHist S n mn bg) (hn : n ≤ 12) (hs : Sm T S S1) (hT : ∀ k j, ((28 ≤ k ∧ k ≤ 129) ∨ (k = 173 ∧ j = 30) ∨ (188 ≤ k ∧ k ≤ 192)) → ¬ T k j) : RHist S1 n mn bg := by
  obtain ⟨h, x, h1, h2, h3, h4, h5, h6, h7⟩ := h
  refine ⟨h, x, h1, h2, ?_, ?_, ?_, h6, fun j hj => (h7 j hj).gs hn (Nat.mod_lt _ (by omega)) (by omega) hs (fun k i hk => hT k i ?_)⟩
  · rw [(hs 28 2 (hT _ _ (by omega))).1]; exact h3
  · rw [(hs 173 30 (hT _ _ (by omega))).1]; exact h4
  · rw [(hs 28 1 (hT _ _ (by omega))).1]; exact h5
  · have := Nat.mod_lt (x + 20 - h + j) (show 0 < 20 by omega)
    omega
def RFire (S : St) : Prop := ∃ f, f ≤ 12 ∧ S.1 130 1 = nI f ∧ S.1 173 13 = nI f ∧ S.1 130 2 = S.1 173 14 ∧ ∀ i, i < f → S.1 131 i = S.1 180 i
theorem RFire.gs {S S1 : St} {T : Nat → Nat → Prop} (h : RFire S) (hs : Sm T S S1) (hT : ∀ k j, (k = 130 ∨ k = 131 ∨ (k = 173 ∧ (j = 13 ∨ j = 14)) ∨ k = 180) → ¬ T k j) : RFire S1 := by
  obtain ⟨f, h1, h2, h3, h4, h5⟩ := h
  refine ⟨f, h1, ?_, ?_, ?_, fun i hi => ?_⟩
  · rw [(hs 130 1 (hT _ _ (by omega))).1]; exact h2
  · rw [(hs 173 13 (hT _ _ (by omega))).1]; exact h3
  · rw [(hs 130 2 (hT _ _ (by omega))).1, (hs 173 14 (hT _ _ (by omega))).1]; exact h4
  · rw [(hs 131 i (hT _ _ (by omega))).1, (hs 180 i (hT _ _ (by omega))).1]; exact h5 i hi
/-- a slot: filled or not; its row -/
def RSlot (S : St) (n : Nat) (bg : Bool) (s : Nat) : Prop := ∃ fl, S.1 160 s = bi fl ∧ S.1 182 s = bi fl ∧ (fl = true → bg = true ∧ ∃ g, B1 n g ∧ ∀ p, p < n → S.1 (152 + s) p = nI (g p) ∧ S.2 181 (12 * s + p) = lN (g p))
def RSlots (S : St) (n : Nat) (bg : Bool) : Prop := ∀ s, s < 8 → RSlot S n bg s
theorem RSlot.gs {S S1 : St} {n s : Nat} {bg : Bool} {T : Nat → Nat → Prop} (h : RSlot S n bg s) (hn : n ≤ 12) (hs : Sm T S S1) (hT : ∀ k j, ((k = 160 ∧ j = s) ∨ (k = 182 ∧ j = s) ∨ k = 152 + s ∨ (k = 181 ∧ 12 * s ≤ j ∧ j < 12 * s + 12)) → ¬ T k j) : RSlot S1 n bg s := by
  obtain ⟨fl, h1, h2, h3⟩ := h
  refine ⟨fl, ?_, ?_, fun hf => ?_⟩
  · rw [(hs 160 s (hT _ _ (by omega))).1]; exact h1
  · rw [(hs 182 s (hT _ _ (by omega))).1]; exact h2
  · obtain ⟨hb, g, q1, q2⟩ := h3 hf
    exact ⟨hb, g, q1, fun p hp => by rw [(hs (152 + s) p (hT _ _ (by omega))).1, (hs 181 (12 * s + p) (hT _ _ (by omega))).2]; exact q2 p hp⟩
theorem RSlots.gs {S S1 : St} {n : Nat} {bg : Bool} {T : Nat → Nat → Prop} (h : RSlots S n bg) (hn : n ≤ 12) (hs : Sm T S S1) (hT : ∀ k j, ((152 ≤ k ∧ k ≤ 160) ∨ k = 181 ∨ k = 182) → ¬ T k j) : RSlots S1 n bg := fun s h8 => (h s h8).gs hn hs (fun k j hk => hT k j (by omega))
/-- burning: the unburnt as bits, the next one to burn, the order -/
def nbn (w : Nat → Nat → Nat) (n : Nat) (g : Nat → Nat) (hd : Nat) (u : Int32) : Option Nat := fstB (fun p => bt u p && (decide (p ≠ hd) && decide (wtp w u p n 0 ≤ g p))) n 0
def offB (u : Int32) (p : Nat) : Int32 := u &&& (((1 : Int32) <<< (nI p &&& 31)) ^^^ (-1))
def fir (w : Nat → Nat → Nat) (n : Nat) (g : Nat → Nat) (hd : Nat) : Nat → Int32 → Int32 × List Nat
  | 0, u => (u, [])
  | k + 1, u => match nbn w n g hd u with
    | none => (u, [])
    | some p => ((fir w n g hd k (offB u p)).1, p :: (fir w n g hd k (offB u p)).2)
/-- whether all burn -/
def brn (w : Nat → Nat → Nat) (n : Nat) (g : Nat → Nat) : Bool := decide ((fir w n g 99 n (allB n)).1 = 0)
/-- rows that come again, by place 0 first: those that go on from a beginning -/
def upR (r : Nat → Nat) (a v : Nat) : Nat → Nat := fun p => if p = a then v else r p
def mxr (w : Nat → Nat → Nat) (r : Nat → Nat) (a : Nat) : Nat → Nat := fun p => if a ≤ p then ld w p - 1 else r p
def rwv (f : Nat → List (Nat → Nat)) (b : Nat → Bool) : Nat → Nat → List (Nat → Nat)
  | 0, _ => []
  | c + 1, v => cond (b v) (f v) [] ++ rwv f b c (v + 1)
def rws (w : Nat → Nat → Nat) (n : Nat) : Nat → Nat → (Nat → Nat) → List (Nat → Nat)
  | 0, _, r => [r]
  | j + 1, a, r => rwv (fun v => rws w n j (a + 1) (upR r a v)) (fun v => brn w n (mxr w (upR r a v) (a + 1))) (ld w a) 0
/-- the weight from p to a set of places; no set of places keeps all its weight -/
def wUs (w : Nat → Nat → Nat) (n : Nat) (U : Nat → Bool) (p : Nat) : Nat := sN (fun e => if U e = true then w p e else 0) n
def NoL (w : Nat → Nat → Nat) (n : Nat) : Prop := ∀ U : Nat → Bool, (∃ p, p < n ∧ U p = true) → ∃ p, p < n ∧ U p = true ∧ wUs w n U p < ld w p
def LOK (w : Nat → Nat → Nat) (n : Nat) : Prop := (rws w n n 0 (fun _ => 0)).length ≤ 200
def RRost (S : St) (n : Nat) (w : Nat → Nat → Nat) (bg : Bool) : Prop := ∃ r, r ≤ 200 ∧ S.1 132 3 = nI r ∧ S.1 173 18 = nI r ∧ (0 < r → bg = true ∧ LOK w n) ∧ ∀ i p, i < r → p < n → S.1 136 (12 * i + p) = S.1 183 (12 * i + p)
theorem RRost.gs {S S1 : St} {n : Nat} {w : Nat → Nat → Nat} {bg : Bool} {T : Nat → Nat → Prop} (h : RRost S n w bg) (hs : Sm T S S1) (hT : ∀ k j, ((k = 132 ∧ j = 3) ∨ k = 136 ∨ (k = 173 ∧ j = 18) ∨ k = 183) → ¬ T k j) : RRost S1 n w bg := by
  obtain ⟨r, h1, h2, h3, h4, h5⟩ := h
  refine ⟨r, h1, ?_, ?_, h4, fun i p hi hp => ?_⟩
  · rw [(hs 132 3 (hT _ _ (by omega))).1]; exact h2
  · rw [(hs 173 18 (hT _ _ (by omega))).1]; exact h3
  · rw [(hs 136 (12 * i + p) (hT _ _ (by omega))).1, (hs 183 (12 * i + p) (hT _ _ (by omega))).1]; exact h5 i p hi hp
def RTe (S : St) (t : Nat) : Prop := ∃ b l, (b = 0 ∨ b = 8 ∨ b = 16 ∨ b = 32 ∨ b = 64) ∧ l ≤ 16 ∧ S.1 (162 + 2 * t) 1 = nI b ∧ S.1 184 t = nI b ∧ S.1 (162 + 2 * t) 2 = nI l ∧ S.1 185 t = nI l ∧ ∀ i, i < 16 → S.2 (163 + 2 * t) i = S.2 186 (16 * t + i)
def RTer (S : St) : Prop := ∀ t, t < 4 → RTe S t
theorem RTe.gs {S S1 : St} {t : Nat} {T : Nat → Nat → Prop} (h : RTe S t) (hs : Sm T S S1) (hT : ∀ k j, (k = 162 + 2 * t ∨ k = 163 + 2 * t ∨ (k = 184 ∧ j = t) ∨ (k = 185 ∧ j = t) ∨ (k = 186 ∧ 16 * t ≤ j ∧ j < 16 * t + 16)) → ¬ T k j) : RTe S1 t := by
  obtain ⟨b, l, h1, h2, h3, h4, h5, h6, h7⟩ := h
  refine ⟨b, l, h1, h2, ?_, ?_, ?_, ?_, fun i hi => ?_⟩
  · rw [(hs (162 + 2 * t) 1 (hT _ _ (by omega))).1]; exact h3
  · rw [(hs 184 t (hT _ _ (by omega))).1]; exact h4
  · rw [(hs (162 + 2 * t) 2 (hT _ _ (by omega))).1]; exact h5
  · rw [(hs 185 t (hT _ _ (by omega))).1]; exact h6
  · rw [(hs (163 + 2 * t) i (hT _ _ (by omega))).2, (hs 186 (16 * t + i) (hT _ _ (by omega))).2]; exact h7 i hi
theorem RTer.gs {S S1 : St} {T : Nat → Nat → Prop} (h : RTer S) (hs : Sm T S S1) (hT : ∀ k j, ((162 ≤ k ∧ k ≤ 169) ∨ (184 ≤ k ∧ k ≤ 186)) → ¬ T k j) : RTer S1 := fun t ht => (h t ht).gs hs (fun k j hk => hT k j (by omega))
def RQ (S : St) : Prop := ∃ q, q ≤ 200 ∧ S.1 170 1 = nI q ∧ S.1 173 23 = nI q ∧ ∀ i, i < q → S.1 171 i = S.1 187 i
theorem RQ.gs {S S1 : St} {T : Nat → Nat → Prop} (h : RQ S) (hs : Sm T S S1) (hT : ∀ k j, ((k = 170 ∧ j = 1) ∨ k = 171 ∨ (k = 173 ∧ j = 23) ∨ k = 187) → ¬ T k j) : RQ S1 := by
  obtain ⟨q, h1, h2, h3, h4⟩ := h
  refine ⟨q, h1, ?_, ?_, fun i hi => ?_⟩
  · rw [(hs 170 1 (hT _ _ (by omega))).1]; exact h2
  · rw [(hs 173 23 (hT _ _ (by omega))).1]; exact h3
  · rw [(hs 171 i (hT _ _ (by omega))).1, (hs 187 i (hT _ _ (by omega))).1]; exact h4 i hi
/-- all of it; c calls have been made -/
def Rel (S : St) (c : Nat) (n : Nat) (kd : Nat → Nat) (w : Nat → Nat → Nat) (bg : Bool) (g : Nat → Nat) (mn : Nat) : Prop :=
  (CSl S n kd w ∧ MSl S n kd w ∧ ISl n kd w ∧ (∀ p, p < 12 → sN (w p) 15 ≤ 9 * c) ∧ (bg = true → 0 < n ∧ (∀ p, p < n → 0 < ld w p) ∧ NoL w n) ∧ (bg = false → mn = 0)) ∧ (RSc S bg ∧ RH S n g ∧ RNb S bg ∧ RCh S n mn) ∧ (RHist S n mn bg ∧ RFire S ∧ RSlots S n bg ∧ RRost S n w bg) ∧ RTer S ∧ RQ S
/-- what only scratch cells see -/
def scr (k j : Nat) : Prop := (21 ≤ k ∧ k ≤ 24) ∨ k = 133 ∨ k = 134 ∨ k = 135 ∨ (137 ≤ k ∧ k ≤ 150) ∨ k = 172 ∨ (193 ≤ k)
theorem Rel.gs {S S1 : St} {c n mn : Nat} {kd : Nat → Nat} {w : Nat → Nat → Nat} {bg : Bool} {g : Nat → Nat} (h : Rel S c n kd w bg g mn) (hs : Sm scr S S1) : Rel S1 c n kd w bg g mn := by
  obtain ⟨⟨a1, a2, a3, a4, a5, a6⟩, ⟨b1', b2, b3, b4⟩, ⟨c1, c2, c3, c4⟩, d1, d2⟩ := h
  have hn := a3.1
  refine ⟨⟨a1.gs hs ?_, a2.gs hs ?_, a3, a4, a5, a6⟩, ⟨b1'.gs hs ?_, b2.gs hn hs ?_, b3.gs hs ?_, b4.gs hn hs ?_⟩, ⟨c1.gs hn hs ?_, c2.gs hs ?_, c3.gs hn hs ?_, c4.gs hs ?_⟩, d1.gs hs ?_, d2.gs hs ?_⟩
  all_goals
    intro k j hk hq
    unfold scr at hq
    omega
