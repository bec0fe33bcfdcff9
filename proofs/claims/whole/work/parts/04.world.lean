/-! the law's own cells: a static layout of 199 cells from an address 'base' on; their numbers are two functions -/
abbrev St : Type := (Nat → Nat → Int32) × (Nat → Nat → Int64)
def setI (S : St) (k j : Nat) (v : Int32) : St := (fun a b => if a = k ∧ b = j then v else S.1 a b, S.2)
def setJ (S : St) (k j : Nat) (v : Int64) : St := (S.1, fun a b => if a = k ∧ b = j then v else S.2 a b)
def setR (S : St) (k : Nat) (f : Nat → Int32) : St := (fun a b => if a = k then f b else S.1 a b, S.2)
def setL (S : St) (k : Nat) (f : Nat → Int64) : St := (S.1, fun a b => if a = k then f b else S.2 a b)
abbrev ix (i : Int32) : Nat := i.toNatClampNeg
def lt {α β : Type} (x : α) (f : α → β) : β := f x
def bd {ρ σ : Type} (o : Option (St × ρ)) (b : St → ρ → Option (St × σ)) : Option (St × σ) := match o with
  | none => none
  | some q => b q.1 q.2
def ck {σ : Type} (i : Int32) (n : Nat) (o : Option σ) : Option σ := if i < 0 ∨ n ≤ i.toNatClampNeg then none else o
def gu {σ : Type} (c : Prop) [Decidable c] (o : Option σ) : Option σ := if c then o else none
def irem (x y : Int32) : Int32 := x - x / y * y
def lrem (x y : Int64) : Int64 := x - x / y * y
def clsL : List Nat := [10, 7, 12, 17, 12, 12, 12, 12, 12, 12, 12, 12, 12, 12, 12, 12, 12, 2, 12, 13, 13, 2, 12, 13, 13, 0, 12, 12, 3, 15, 4, 12, 13, 13, 12, 4, 12, 13, 13, 12, 4, 12, 13, 13, 12, 4, 12, 13, 13, 12, 4, 12, 13, 13, 12, 4, 12, 13, 13, 12, 4, 12, 13, 13, 12, 4, 12, 13, 13, 12, 4, 12, 13, 13, 12, 4, 12, 13, 13, 12, 4, 12, 13, 13, 12, 4, 12, 13, 13, 12, 4, 12, 13, 13, 12, 4, 12, 13, 13, 12, 4, 12, 13, 13, 12, 4, 12, 13, 13, 12, 4, 12, 13, 13, 12, 4, 12, 13, 13, 12, 4, 12, 13, 13, 12, 4, 12, 13, 13, 12, 1, 12, 6, 1, 12, 12, 12, 8, 18, 13, 13, 13, 13, 13, 13, 13, 13, 13, 13, 13, 13, 17, 12, 12, 12, 12, 12, 12, 12, 12, 14, 16, 9, 13, 9, 13, 9, 13, 9, 13, 5, 12, 12, 11, 12, 12, 13, 13, 12, 12, 12, 13, 14, 12, 12, 12, 13, 12, 13, 13, 13, 12, 12, 12, 13, 13, 13, 12, 13]
def lenL : List Nat := [0, 0, 12, 12, 15, 15, 15, 15, 15, 15, 15, 15, 15, 15, 15, 15, 12, 0, 12, 3, 12, 0, 12, 3, 12, 0, 12, 12, 0, 20, 0, 12, 3, 12, 12, 0, 12, 3, 12, 12, 0, 12, 3, 12, 12, 0, 12, 3, 12, 12, 0, 12, 3, 12, 12, 0, 12, 3, 12, 12, 0, 12, 3, 12, 12, 0, 12, 3, 12, 12, 0, 12, 3, 12, 12, 0, 12, 3, 12, 12, 0, 12, 3, 12, 12, 0, 12, 3, 12, 12, 0, 12, 3, 12, 12, 0, 12, 3, 12, 12, 0, 12, 3, 12, 12, 0, 12, 3, 12, 12, 0, 12, 3, 12, 12, 0, 12, 3, 12, 12, 0, 12, 3, 12, 12, 0, 12, 3, 12, 12, 0, 12, 0, 0, 12, 12, 2400, 0, 12, 12, 12, 12, 12, 12, 12, 12, 12, 12, 12, 12, 12, 8, 12, 12, 12, 12, 12, 12, 12, 12, 8, 4, 0, 16, 0, 16, 0, 16, 0, 16, 0, 200, 12, 0, 12, 180, 15, 12, 12, 12, 12, 96, 8, 2400, 4, 4, 64, 200, 300, 240, 20, 240, 20, 12, 15, 15, 144, 2412, 16]
def rfL : List (List Nat) := [[1, 17, 21, 25, 28, 130, 132, 137, 151, 160, 161, 170, 172], [2, 3, 16], [], [], [], [], [], [], [], [], [], [], [], [], [], [], [], [1, 18, 19, 20], [], [], [], [1, 22, 23, 24], [], [], [], [1, 17, 26, 27], [], [], [29], [], [31, 32, 33, 34], [], [], [], [], [36, 37, 38, 39], [], [], [], [], [41, 42, 43, 44], [], [], [], [], [46, 47, 48, 49], [], [], [], [], [51, 52, 53, 54], [], [], [], [], [56, 57, 58, 59], [], [], [], [], [61, 62, 63, 64], [], [], [], [], [66, 67, 68, 69], [], [], [], [], [71, 72, 73, 74], [], [], [], [], [76, 77, 78, 79], [], [], [], [], [81, 82, 83, 84], [], [], [], [], [86, 87, 88, 89], [], [], [], [], [91, 92, 93, 94], [], [], [], [], [96, 97, 98, 99], [], [], [], [], [101, 102, 103, 104], [], [], [], [], [106, 107, 108, 109], [], [], [], [], [111, 112, 113, 114], [], [], [], [], [116, 117, 118, 119], [], [], [], [], [121, 122, 123, 124], [], [], [], [], [126, 127, 128, 129], [], [], [], [], [131], [], [133, 135, 136], [134], [], [], [], [138], [], [], [], [], [], [], [], [], [], [], [], [], [], [], [], [], [], [], [], [], [], [], [], [], [163], [], [165], [], [167], [], [169], [], [171], [], [], [0, 174, 175, 0, 176, 177, 0, 0, 0, 178, 179, 0, 180, 0, 0, 181, 182, 183, 0, 184, 185, 186, 187, 0, 0, 188, 189, 190, 191, 192, 0, 193, 194, 195, 196, 197, 198], [], [], [], [], [], [], [], [], [], [], [], [], [], [], [], [], [], [], [], [], [], [], [], [], []]
def cls (k : Nat) : Nat := clsL.getD k 99
def len (k : Nat) : Nat := lenL.getD k 0
def rf (k j : Nat) : Nat := if k = 3 then 4 + 1 * j else if k = 29 then 30 + 5 * j else if k = 138 then 139 + 1 * j else if k = 151 then 152 + 1 * j else if k = 161 then 162 + 2 * j else (rfL.getD k []).getD j 0
def fl_0 (base : Nat) (S : St) (k : Nat) : List Value := [.ref (base + rf k 0), .ref (base + rf k 1), .ref (base + rf k 2), .ref (base + rf k 3), .int (S.1 k 4), .int (S.1 k 5), .long (S.2 k 6)]
def fl_1 (base : Nat) (S : St) (k : Nat) : List Value := [.ref (base + rf k 0), .int (S.1 k 1), .int (S.1 k 2)]
def fl_2 (base : Nat) (S : St) (k : Nat) : List Value := [.ref (base + rf k 0), .ref (base + rf k 1), .ref (base + rf k 2), .ref (base + rf k 3)]
def fl_3 (base : Nat) (S : St) (k : Nat) : List Value := [.ref (base + rf k 0), .int (S.1 k 1), .int (S.1 k 2)]
def fl_4 (base : Nat) (S : St) (k : Nat) : List Value := [.ref (base + rf k 0), .ref (base + rf k 1), .ref (base + rf k 2), .ref (base + rf k 3), .int (S.1 k 4), .long (S.2 k 5)]
def fl_5 (base : Nat) (S : St) (k : Nat) : List Value := [.ref (base + rf k 0), .int (S.1 k 1)]
def fl_6 (base : Nat) (S : St) (k : Nat) : List Value := [.ref (base + rf k 0), .ref (base + rf k 1), .ref (base + rf k 2), .int (S.1 k 3)]
def fl_7 (base : Nat) (S : St) (k : Nat) : List Value := [.ref (base + rf k 0), .ref (base + rf k 1), .ref (base + rf k 2), .int (S.1 k 3)]
def fl_8 (base : Nat) (S : St) (k : Nat) : List Value := [.ref (base + rf k 0)]
def fl_9 (base : Nat) (S : St) (k : Nat) : List Value := [.ref (base + rf k 0), .int (S.1 k 1), .int (S.1 k 2)]
def fl_10 (base : Nat) (S : St) (k : Nat) : List Value := [.ref (base + rf k 0), .ref (base + rf k 1), .ref (base + rf k 2), .ref (base + rf k 3), .ref (base + rf k 4), .ref (base + rf k 5), .ref (base + rf k 6), .ref (base + rf k 7), .ref (base + rf k 8), .ref (base + rf k 9), .ref (base + rf k 10), .ref (base + rf k 11), .ref (base + rf k 12), .int (S.1 k 13), .int (S.1 k 14), .int (S.1 k 15)]
def fl_11 (base : Nat) (S : St) (k : Nat) : List Value := [.int (S.1 k 0), .ref (base + rf k 1), .ref (base + rf k 2), .int (S.1 k 3), .ref (base + rf k 4), .ref (base + rf k 5), .int (S.1 k 6), .int (S.1 k 7), .long (S.2 k 8), .ref (base + rf k 9), .ref (base + rf k 10), .int (S.1 k 11), .ref (base + rf k 12), .int (S.1 k 13), .int (S.1 k 14), .ref (base + rf k 15), .ref (base + rf k 16), .ref (base + rf k 17), .int (S.1 k 18), .ref (base + rf k 19), .ref (base + rf k 20), .ref (base + rf k 21), .ref (base + rf k 22), .int (S.1 k 23), .int (S.1 k 24), .ref (base + rf k 25), .ref (base + rf k 26), .ref (base + rf k 27), .ref (base + rf k 28), .ref (base + rf k 29), .int (S.1 k 30), .ref (base + rf k 31), .ref (base + rf k 32), .ref (base + rf k 33), .ref (base + rf k 34), .ref (base + rf k 35), .ref (base + rf k 36)]
def rend (cy : Nat → ClassId) (base : Nat) (S : St) (k : Nat) : va_E :=
  if cls k = 0 then .inr (0, fl_0 base S k) else
  if cls k = 1 then .inr (1, fl_1 base S k) else
  if cls k = 2 then .inr (2, fl_2 base S k) else
  if cls k = 3 then .inr (3, fl_3 base S k) else
  if cls k = 4 then .inr (4, fl_4 base S k) else
  if cls k = 5 then .inr (5, fl_5 base S k) else
  if cls k = 6 then .inr (6, fl_6 base S k) else
  if cls k = 7 then .inr (7, fl_7 base S k) else
  if cls k = 8 then .inr (8, fl_8 base S k) else
  if cls k = 9 then .inr (9, fl_9 base S k) else
  if cls k = 10 then .inr (10, fl_10 base S k) else
  if cls k = 11 then .inr (11, fl_11 base S k) else
  if cls k = 12 then .inl (cy 0, len k, .inl (S.1 k)) else
  if cls k = 13 then .inl (cy 1, len k, .inr (.inl (S.2 k))) else
  if cls k = 14 then .inl (cy 2, len k, .inl (S.1 k)) else
  if cls k = 15 then .inl (cy 3, len k, .inr (.inr (.inr (.inr (fun i => some (base + rf k i)))))) else
  if cls k = 16 then .inl (cy 4, len k, .inr (.inr (.inr (.inr (fun i => some (base + rf k i)))))) else
  if cls k = 17 then .inl (cy 5, len k, .inr (.inr (.inr (.inr (fun i => some (base + rf k i)))))) else
  .inl (cy 6, len k, .inr (.inr (.inr (.inr (fun i => some (base + rf k i))))))
theorem rd_0 {cy : Nat → ClassId} {base k : Nat} {S : St} (h : cls k = 0) : rend cy base S k = .inr (0, fl_0 base S k) := by simp [rend, h]
theorem rd_1 {cy : Nat → ClassId} {base k : Nat} {S : St} (h : cls k = 1) : rend cy base S k = .inr (1, fl_1 base S k) := by simp [rend, h]
theorem rd_2 {cy : Nat → ClassId} {base k : Nat} {S : St} (h : cls k = 2) : rend cy base S k = .inr (2, fl_2 base S k) := by simp [rend, h]
theorem rd_3 {cy : Nat → ClassId} {base k : Nat} {S : St} (h : cls k = 3) : rend cy base S k = .inr (3, fl_3 base S k) := by simp [rend, h]
theorem rd_4 {cy : Nat → ClassId} {base k : Nat} {S : St} (h : cls k = 4) : rend cy base S k = .inr (4, fl_4 base S k) := by simp [rend, h]
theorem rd_5 {cy : Nat → ClassId} {base k : Nat} {S : St} (h : cls k = 5) : rend cy base S k = .inr (5, fl_5 base S k) := by simp [rend, h]
theorem rd_6 {cy : Nat → ClassId} {base k : Nat} {S : St} (h : cls k = 6) : rend cy base S k = .inr (6, fl_6 base S k) := by simp [rend, h]
theorem rd_7 {cy : Nat → ClassId} {base k : Nat} {S : St} (h : cls k = 7) : rend cy base S k = .inr (7, fl_7 base S k) := by simp [rend, h]
theorem rd_8 {cy : Nat → ClassId} {base k : Nat} {S : St} (h : cls k = 8) : rend cy base S k = .inr (8, fl_8 base S k) := by simp [rend, h]
theorem rd_9 {cy : Nat → ClassId} {base k : Nat} {S : St} (h : cls k = 9) : rend cy base S k = .inr (9, fl_9 base S k) := by simp [rend, h]
theorem rd_10 {cy : Nat → ClassId} {base k : Nat} {S : St} (h : cls k = 10) : rend cy base S k = .inr (10, fl_10 base S k) := by simp [rend, h]
theorem rd_11 {cy : Nat → ClassId} {base k : Nat} {S : St} (h : cls k = 11) : rend cy base S k = .inr (11, fl_11 base S k) := by simp [rend, h]
theorem rd_12 {cy : Nat → ClassId} {base k n : Nat} {S : St} (h : cls k = 12 ∧ len k = n) : rend cy base S k = .inl (cy 0, n, .inl (S.1 k)) := by simp [rend, h.1, h.2]
theorem rd_13 {cy : Nat → ClassId} {base k n : Nat} {S : St} (h : cls k = 13 ∧ len k = n) : rend cy base S k = .inl (cy 1, n, .inr (.inl (S.2 k))) := by simp [rend, h.1, h.2]
theorem rd_14 {cy : Nat → ClassId} {base k n : Nat} {S : St} (h : cls k = 14 ∧ len k = n) : rend cy base S k = .inl (cy 2, n, .inl (S.1 k)) := by simp [rend, h.1, h.2]
theorem rd_15 {cy : Nat → ClassId} {base k n : Nat} {S : St} (h : cls k = 15 ∧ len k = n) : rend cy base S k = .inl (cy 3, n, .inr (.inr (.inr (.inr (fun i => some (base + rf k i)))))) := by simp [rend, h.1, h.2]
theorem rd_16 {cy : Nat → ClassId} {base k n : Nat} {S : St} (h : cls k = 16 ∧ len k = n) : rend cy base S k = .inl (cy 4, n, .inr (.inr (.inr (.inr (fun i => some (base + rf k i)))))) := by simp [rend, h.1, h.2]
theorem rd_17 {cy : Nat → ClassId} {base k n : Nat} {S : St} (h : cls k = 17 ∧ len k = n) : rend cy base S k = .inl (cy 5, n, .inr (.inr (.inr (.inr (fun i => some (base + rf k i)))))) := by simp [rend, h.1, h.2]
theorem rd_18 {cy : Nat → ClassId} {base k n : Nat} {S : St} (h : cls k = 18 ∧ len k = n) : rend cy base S k = .inl (cy 6, n, .inr (.inr (.inr (.inr (fun i => some (base + rf k i)))))) := by simp [rend, h.1, h.2]
theorem cls_lt {k c : Nat} (h : cls k = c) (hc : c < 99) : k < 199 := by
  by_cases hk : k < 199
  · exact hk
  · have h2 : clsL.length ≤ k := Nat.le_trans (by decide +kernel) (Nat.le_of_not_lt hk)
    have h3 : cls k = 99 := by unfold cls; rw [List.getD_eq_getElem?_getD, List.getElem?_eq_none h2]; rfl
    omega
theorem rend_congr {cy : Nat → ClassId} {base k : Nat} {S S' : St} (h1 : S.1 k = S'.1 k) (h2 : S.2 k = S'.2 k) : rend cy base S k = rend cy base S' k := by
  simp only [rend, fl_0, fl_1, fl_2, fl_3, fl_4, fl_5, fl_6, fl_7, fl_8, fl_9, fl_10, fl_11, h1, h2]
def LL (base : Nat) : List Nat := (List.range 199).map (fun k => base + k)
def wld (cy : Nat → ClassId) (base : Nat) (S : St) : va_W := (LL base).map (fun a => (a, rend cy base S (a - base)))
def AA (base : Nat) : Nat → Prop := fun q => base ≤ q
theorem wget (cy : Nat → ClassId) (base : Nat) (S : St) {k : Nat} (hk : k < 199) : (wld cy base S)[k]? = some (base + k, rend cy base S k) := by
  unfold wld LL
  rw [List.getElem?_map, List.getElem?_map, List.getElem?_range hk]
  simp
theorem wlen (cy : Nat → ClassId) (base : Nat) (S : St) : (wld cy base S).length = 199 := by simp [wld, LL]
theorem wset {cy : Nat → ClassId} {base : Nat} {S S' : St} {k : Nat} {e : va_E} (hk : k < 199) (h1 : rend cy base S' k = e) (h2 : ∀ j, j ≠ k → rend cy base S' j = rend cy base S j) : (wld cy base S).set k (base + k, e) = wld cy base S' := by
  apply List.ext_getElem?
  intro i
  by_cases hi : i < 199
  · rw [wget cy base S' hi]
    by_cases e1 : i = k
    · subst e1
      rw [List.getElem?_set_self (by rw [wlen]; exact hi), h1]
    · rw [List.getElem?_set_ne (Ne.symm e1), wget cy base S hi, h2 i e1]
  · rw [List.getElem?_eq_none (by rw [List.length_set, wlen]; omega), List.getElem?_eq_none (by rw [wlen]; omega)]
theorem wD (cy : Nat → ClassId) (base : Nat) (S : St) : va_D (AA base) (wld cy base S) := by
  have key : ∀ (i : Nat) (p : Nat × va_E), (wld cy base S)[i]? = some p → p.1 = base + i := by
    intro i p h
    have hi : i < 199 := by
      have := (List.getElem?_eq_some_iff.mp h).1
      rwa [wlen] at this
    rw [wget cy base S hi] at h
    cases h
    rfl
  refine ⟨fun i j p q hi hj h => ?_, fun i p h => ?_⟩
  · have h1 := key i p hi
    have h2 := key j q hj
    omega
  · have h1 := key i p h
    show base ≤ p.1
    omega
def gw : List Cond := lw_tbl.filter goodWord
def isNest : Cond → Bool
  | .fieldLinkNest _ _ _ _ _ _ => true
  | .methodLinkNest _ _ _ _ => true
  | _ => false
def nw : List Cond := lw_tbl.filter isNest
theorem mem_gw {w : Cond} (i : Nat) (h : lw_tbl[i]? = some w) (hg : goodWord w = true) : w ∈ gw := List.mem_filter.mpr ⟨List.mem_of_getElem? h, hg⟩
theorem mem_nw {w : Cond} (i : Nat) (h : lw_tbl[i]? = some w) (hg : isNest w = true) : w ∈ nw := List.mem_filter.mpr ⟨List.mem_of_getElem? h, hg⟩
abbrev wsY (y : MethodName) (cc : ByteArray) (maxL : Nat) (ret : Option FieldType) : List Cond := .code y cc maxL ret :: gw
theorem gdIn {ws : List Cond} (h : ∀ w ∈ ws, w ∈ gw) : GoodIn gw ws := fun w hw => ⟨h w hw, good_of_word (List.mem_filter.mp (h w hw)).2⟩
def tys (cy : Nat → ClassId) : List (ClassId × FieldType) := [(cy 0, .int), (cy 1, .long), (cy 2, .boolean), (cy 3, .object RX4), (cy 4, .object RX9), (cy 5, .array .int), (cy 6, .array .long)]
def aboveF : Nat → Value := fun j => .int (([-1, 0, 1, 2, 0] : List Int32).getD j 0)
def above (j : Nat) : Int32 := ([-1, 0, 1, 2, 0] : List Int32).getD j 0
/-- what the tables and the statics say, at a state -/
def EnvW (D : va_G) (cy : Nat → ClassId) (base tS : Nat) (U : State) : Prop := va_K D vwCl (tys cy) U ∧ (∀ w ∈ nw, va_Nw w U) ∧ va_Z "ScreeCourt" "ABOVE" "[I" (.ref tS) (AA base) U U.heap ∧ va_T .int tS 5 aboveF (AA base) U U.heap
def World (D : va_G) (cy : Nat → ClassId) (base tS : Nat) (S : St) (U : State) : Prop := va_P D vwCl (wld cy base S) U.heap ∧ EnvW D cy base tS U
theorem nw_warm {s U : State} (hW : s.WarmedH U.vm) (h : ∀ w ∈ nw, va_Nw w s) : ∀ w ∈ nw, va_Nw w U := by
  intro w hw
  have h1 := h w hw
  have h2 : isNest w = true := (List.mem_filter.mp hw).2
  cases w <;> first | exact va_Nw.warmF hW h1 | exact va_Nw.warmM hW h1 | (exact absurd h2 (by simp [isNest]))
theorem EnvW.go {D : va_G} {cy : Nat → ClassId} {base tS : Nat} {s U : State} {H : Heap} {locs : List Loc} (h : EnvW D cy base tS s) (hW : s.WarmedH U.vm) (hU : U.heap = H) (hS : va_S (AA base) s.heap H locs) : EnvW D cy base tS U := by
  obtain ⟨h1, h2, h3, h4⟩ := h
  have hq : ∀ a : Nat, a < s.heap.size → ¬ AA base a → U.heap[a]? = s.heap[a]? := fun a ha hn => by rw [hU]; exact hS.2.1 a ha hn
  exact ⟨va_K.moved hW.alike h1, nw_warm hW h2, va_Z.moved hW.alike (h3.kept hq), va_T.moved hW.alike (h4.kept hq)⟩
theorem EnvW.blind {D : va_G} {cy : Nat → ClassId} {base tS : Nat} {U : State} (g : JFrame) (mk : MethodId) (a : Array Value) (h : EnvW D cy base tS U) : EnvW D cy base tS (U.calling g mk a) := by
  obtain ⟨h1, h2, h3, h4⟩ := h
  refine ⟨va_K.moved (u := U) (Vm.Alike.refl U.vm) h1, fun w hw => ?_, va_Z.moved (u := U) (Vm.Alike.refl U.vm) h3, va_T.moved (u := U) (Vm.Alike.refl U.vm) h4⟩
  have h5 := h2 w hw
  have h6 : isNest w = true := (List.mem_filter.mp hw).2
  cases w <;> first | exact va_Nw.same rfl rfl h5 | (exact absurd h6 (by simp [isNest]))
theorem World.blind {D : va_G} {cy : Nat → ClassId} {base tS : Nat} {S : St} {As : List Value} : FrameBlind (va_Pc As (World D cy base tS S)) := fun a U g mk q => ⟨q.1, q.2.1, q.2.2.blind g mk a⟩
section SIM
variable {p : Program} {l : Launch} {e : Env} {R : Room} {s : State} {m : MethodId} {args : Array Value} {below : List Frame} {meth : Method} {c : Code} {D : va_G} {cy : Nat → ClassId} {base tS : Nat} {cc : ByteArray} {own : String} {nL pc : Nat} {ls : Array Slot} {rest : List Value} {S : St} {ρ σ : Type} {nc ns : Nat} {Q : St → ρ → State → Prop} {o : Option (St × ρ)}
def Cx (p : Program) (R : Room) (s : State) (m : MethodId) (args : Array Value) (c : Code) (own : String) (cc : ByteArray) (nL : Nat) (D : va_G) (cy : Nat → ClassId) (base tS nc ns : Nat) : Prop := p.tables.exec = Jvm.exec ∧ c.code = cc ∧ c.maxLocals = nL ∧ s.vm.findClass own = some m.cls ∧ (∀ w ∈ gw, w.before args s = true) ∧ EnvW D cy base tS s ∧ nc ≤ R.cells ∧ ns ≤ R.slots
/-- whenever the pure answer is there, the machine comes to it from every heap that holds the cells S -/
def Sim (p : Program) (l : Launch) (e : Env) (R : Room) (s : State) (m : MethodId) (args : Array Value) (below : List Frame) (meth : Method) (c : Code) (D : va_G) (cy : Nat → ClassId) (base nc ns : Nat) {ρ : Type} (Q : St → ρ → State → Prop) (o : Option (St × ρ)) (S : St) (g : JFrame) : Prop :=
  ∀ (S' : St) (r : ρ), o = some (S', r) → ∀ (H : Heap) (locs : List Loc), va_P D vwCl (wld cy base S) H → va_S (AA base) s.heap H locs → W p l e R s m args below meth c H locs nc ns (Q S' r) g
theorem Cx.ex (C : Cx p R s m args c own cc nL D cy base tS nc ns) : p.tables.exec = Jvm.exec := C.1
theorem Cx.by (C : Cx p R s m args c own cc nL D cy base tS nc ns) : c.code = cc := C.2.1
theorem Cx.ow (C : Cx p R s m args c own cc nL D cy base tS nc ns) : s.vm.findClass own = some m.cls := C.2.2.2.1
theorem Cx.ts (C : Cx p R s m args c own cc nL D cy base tS nc ns) : ∀ w ∈ gw, w.before args s = true := C.2.2.2.2.1
theorem Cx.K (C : Cx p R s m args c own cc nL D cy base tS nc ns) : va_K D vwCl (tys cy) s := C.2.2.2.2.2.1.1
theorem Cx.nest (C : Cx p R s m args c own cc nL D cy base tS nc ns) {w : Cond} (hw : w ∈ nw) : va_Nw w s := C.2.2.2.2.2.1.2.1 w hw
theorem Cx.fix (C : Cx p R s m args c own cc nL D cy base tS nc ns) : CallFix p m c cc nL s args gw own := ⟨C.1, C.2.1, C.2.2.1, C.2.2.2.1, C.2.2.2.2.1⟩
theorem Sim.none {S : St} {g : JFrame} : Sim p l e R s m args below meth c D cy base nc ns Q none S g := fun _ _ h => by cases h
theorem Sim.eq {o2 : Option (St × ρ)} {S : St} {g : JFrame} (h : o = o2) (k : Sim p l e R s m args below meth c D cy base nc ns Q o2 S g) : Sim p l e R s m args below meth c D cy base nc ns Q o S g := h ▸ k
theorem r_iconst (C : Cx p R s m args c own cc nL D cy base tS nc ns) {n : Int} (v : Int32) (hd : decode cc pc = .ok (.iconst n, 1)) (hv : Int32.ofInt n = v) (k : Sim p l e R s m args below meth c D cy base nc ns Q o S (F0 m (pc + 1) ls (.int v :: rest))) : Sim p l e R s m args below meth c D cy base nc ns Q o S (F0 m pc ls rest) := fun S2 r2 h2 H locs hP hS => lv_iconst C.ex C.by hd hv (k S2 r2 h2 H locs hP hS)
theorem r_bipush (C : Cx p R s m args c own cc nL D cy base tS nc ns) {n : Int} (v : Int32) (hd : decode cc pc = .ok (.bipush n, 2)) (hv : (Int8.ofInt n).toInt32 = v) (k : Sim p l e R s m args below meth c D cy base nc ns Q o S (F0 m (pc + 2) ls (.int v :: rest))) : Sim p l e R s m args below meth c D cy base nc ns Q o S (F0 m pc ls rest) := fun S2 r2 h2 H locs hP hS => lv_bipush C.ex C.by hd hv (k S2 r2 h2 H locs hP hS)
theorem r_sipush (C : Cx p R s m args c own cc nL D cy base tS nc ns) {n : Int} (v : Int32) (hd : decode cc pc = .ok (.sipush n, 3)) (hv : (Int16.ofInt n).toInt32 = v) (k : Sim p l e R s m args below meth c D cy base nc ns Q o S (F0 m (pc + 3) ls (.int v :: rest))) : Sim p l e R s m args below meth c D cy base nc ns Q o S (F0 m pc ls rest) := fun S2 r2 h2 H locs hP hS => lv_sipush C.ex C.by hd hv (k S2 r2 h2 H locs hP hS)
theorem r_lconst (C : Cx p R s m args c own cc nL D cy base tS nc ns) {n : Fin 2} (v : Int64) (hd : decode cc pc = .ok (.lconst n, 1)) (hv : Int64.ofNat (n : Nat) = v) (k : Sim p l e R s m args below meth c D cy base nc ns Q o S (F0 m (pc + 1) ls (.long v :: rest))) : Sim p l e R s m args below meth c D cy base nc ns Q o S (F0 m pc ls rest) := fun S2 r2 h2 H locs hP hS => lv_lconst C.ex C.by hd hv (k S2 r2 h2 H locs hP hS)
theorem r_ldc (C : Cx p R s m args c own cc nL D cy base tS nc ns) {index : Nat} (v : Int32) (hw : Cond.constant own index v ∈ gw) (hd : decode cc pc = .ok (.ldc index, 2)) (k : Sim p l e R s m args below meth c D cy base nc ns Q o S (F0 m (pc + 2) ls (.int v :: rest))) : Sim p l e R s m args below meth c D cy base nc ns Q o S (F0 m pc ls rest) := fun S2 r2 h2 H locs hP hS => lv_ldc C.ex C.by C.ow (C.ts _ hw) hd (k S2 r2 h2 H locs hP hS)
theorem r_ldcw (C : Cx p R s m args c own cc nL D cy base tS nc ns) {index : Nat} (v : Int32) (hw : Cond.constant own index v ∈ gw) (hd : decode cc pc = .ok (.ldc_w index, 3)) (k : Sim p l e R s m args below meth c D cy base nc ns Q o S (F0 m (pc + 3) ls (.int v :: rest))) : Sim p l e R s m args below meth c D cy base nc ns Q o S (F0 m pc ls rest) := fun S2 r2 h2 H locs hP hS => lv_ldcw C.ex C.by C.ow (C.ts _ hw) hd (k S2 r2 h2 H locs hP hS)
theorem r_ldc2 (C : Cx p R s m args c own cc nL D cy base tS nc ns) {index : Nat} (v : Int64) (hw : Cond.constantLong own index v ∈ gw) (hd : decode cc pc = .ok (.ldc2_w index, 3)) (k : Sim p l e R s m args below meth c D cy base nc ns Q o S (F0 m (pc + 3) ls (.long v :: rest))) : Sim p l e R s m args below meth c D cy base nc ns Q o S (F0 m pc ls rest) := fun S2 r2 h2 H locs hP hS => lv_ldc2 C.ex C.by C.ow (C.ts _ hw) hd (k S2 r2 h2 H locs hP hS)
theorem r_iload_n (C : Cx p R s m args c own cc nL D cy base tS nc ns) {k : Fin 4} {i : Nat} {x : Int32} (hd : decode cc pc = .ok (.iload_n k, 1)) (hi : (k : Nat) = i) (hl : ls[i]? = some (.val (.int x))) (kk : Sim p l e R s m args below meth c D cy base nc ns Q o S (F0 m (pc + 1) ls (.int x :: rest))) : Sim p l e R s m args below meth c D cy base nc ns Q o S (F0 m pc ls rest) := fun S2 r2 h2 H locs hP hS => lv_iload_n C.ex C.by hd hi hl (kk S2 r2 h2 H locs hP hS)
theorem r_iload (C : Cx p R s m args c own cc nL D cy base tS nc ns) {i : Nat} {x : Int32} (hd : decode cc pc = .ok (.iload i, 2)) (hl : ls[i]? = some (.val (.int x))) (kk : Sim p l e R s m args below meth c D cy base nc ns Q o S (F0 m (pc + 2) ls (.int x :: rest))) : Sim p l e R s m args below meth c D cy base nc ns Q o S (F0 m pc ls rest) := fun S2 r2 h2 H locs hP hS => lv_iload C.ex C.by hd hl (kk S2 r2 h2 H locs hP hS)
theorem r_istore_n (C : Cx p R s m args c own cc nL D cy base tS nc ns) {k : Fin 4} {i : Nat} {x : Int32} {lv lv2 : List (Nat × Value)} (hd : decode cc pc = .ok (.istore_n k, 1)) (hi : (k : Nat) = i) (h : lv_has ls nL lv) (hn : i < nL) (hl : (i, Value.int x) :: lv.filter (fun q => !(q.1 == i) && !(q.1 + 1 == i && q.2.category == 2)) = lv2) (kk : ∀ ls2 : Array Slot, lv_has ls2 nL lv2 → Sim p l e R s m args below meth c D cy base nc ns Q o S (F0 m (pc + 1) ls2 rest)) : Sim p l e R s m args below meth c D cy base nc ns Q o S (F0 m pc ls (.int x :: rest)) := fun S2 r2 h2 H locs hP hS => lv_istore_n C.ex C.by hd hi h hn hl (fun ls2 hl2 => kk ls2 hl2 S2 r2 h2 H locs hP hS)
theorem r_istore (C : Cx p R s m args c own cc nL D cy base tS nc ns) {i : Nat} {x : Int32} {lv lv2 : List (Nat × Value)} (hd : decode cc pc = .ok (.istore i, 2)) (h : lv_has ls nL lv) (hn : i < nL) (hl : (i, Value.int x) :: lv.filter (fun q => !(q.1 == i) && !(q.1 + 1 == i && q.2.category == 2)) = lv2) (kk : ∀ ls2 : Array Slot, lv_has ls2 nL lv2 → Sim p l e R s m args below meth c D cy base nc ns Q o S (F0 m (pc + 2) ls2 rest)) : Sim p l e R s m args below meth c D cy base nc ns Q o S (F0 m pc ls (.int x :: rest)) := fun S2 r2 h2 H locs hP hS => lv_istore C.ex C.by hd h hn hl (fun ls2 hl2 => kk ls2 hl2 S2 r2 h2 H locs hP hS)
theorem r_lload_n (C : Cx p R s m args c own cc nL D cy base tS nc ns) {k : Fin 4} {i : Nat} {x : Int64} (hd : decode cc pc = .ok (.lload_n k, 1)) (hi : (k : Nat) = i) (hl : ls[i]? = some (.val (.long x))) (kk : Sim p l e R s m args below meth c D cy base nc ns Q o S (F0 m (pc + 1) ls (.long x :: rest))) : Sim p l e R s m args below meth c D cy base nc ns Q o S (F0 m pc ls rest) := fun S2 r2 h2 H locs hP hS => lv_lload_n C.ex C.by hd hi hl (kk S2 r2 h2 H locs hP hS)
theorem r_lload (C : Cx p R s m args c own cc nL D cy base tS nc ns) {i : Nat} {x : Int64} (hd : decode cc pc = .ok (.lload i, 2)) (hl : ls[i]? = some (.val (.long x))) (kk : Sim p l e R s m args below meth c D cy base nc ns Q o S (F0 m (pc + 2) ls (.long x :: rest))) : Sim p l e R s m args below meth c D cy base nc ns Q o S (F0 m pc ls rest) := fun S2 r2 h2 H locs hP hS => lv_lload C.ex C.by hd hl (kk S2 r2 h2 H locs hP hS)
theorem r_lstore_n (C : Cx p R s m args c own cc nL D cy base tS nc ns) {k : Fin 4} {i : Nat} {x : Int64} {lv lv2 : List (Nat × Value)} (hd : decode cc pc = .ok (.lstore_n k, 1)) (hi : (k : Nat) = i) (h : lv_has ls nL lv) (hn : i + 1 < nL) (hl : (i, Value.long x) :: lv.filter (fun q => !(q.1 == i) && (!(q.1 == i + 1) && !(q.1 + 1 == i && q.2.category == 2))) = lv2) (kk : ∀ ls2 : Array Slot, lv_has ls2 nL lv2 → Sim p l e R s m args below meth c D cy base nc ns Q o S (F0 m (pc + 1) ls2 rest)) : Sim p l e R s m args below meth c D cy base nc ns Q o S (F0 m pc ls (.long x :: rest)) := fun S2 r2 h2 H locs hP hS => lv_lstore_n C.ex C.by hd hi h hn hl (fun ls2 hl2 => kk ls2 hl2 S2 r2 h2 H locs hP hS)
theorem r_lstore (C : Cx p R s m args c own cc nL D cy base tS nc ns) {i : Nat} {x : Int64} {lv lv2 : List (Nat × Value)} (hd : decode cc pc = .ok (.lstore i, 2)) (h : lv_has ls nL lv) (hn : i + 1 < nL) (hl : (i, Value.long x) :: lv.filter (fun q => !(q.1 == i) && (!(q.1 == i + 1) && !(q.1 + 1 == i && q.2.category == 2))) = lv2) (kk : ∀ ls2 : Array Slot, lv_has ls2 nL lv2 → Sim p l e R s m args below meth c D cy base nc ns Q o S (F0 m (pc + 2) ls2 rest)) : Sim p l e R s m args below meth c D cy base nc ns Q o S (F0 m pc ls (.long x :: rest)) := fun S2 r2 h2 H locs hP hS => lv_lstore C.ex C.by hd h hn hl (fun ls2 hl2 => kk ls2 hl2 S2 r2 h2 H locs hP hS)
theorem r_aload_n (C : Cx p R s m args c own cc nL D cy base tS nc ns) {k : Fin 4} {i : Nat} {x : Nat} (hd : decode cc pc = .ok (.aload_n k, 1)) (hi : (k : Nat) = i) (hl : ls[i]? = some (.val (.ref x))) (kk : Sim p l e R s m args below meth c D cy base nc ns Q o S (F0 m (pc + 1) ls (.ref x :: rest))) : Sim p l e R s m args below meth c D cy base nc ns Q o S (F0 m pc ls rest) := fun S2 r2 h2 H locs hP hS => lv_aload_n C.ex C.by hd hi hl (kk S2 r2 h2 H locs hP hS)
theorem r_aload (C : Cx p R s m args c own cc nL D cy base tS nc ns) {i : Nat} {x : Nat} (hd : decode cc pc = .ok (.aload i, 2)) (hl : ls[i]? = some (.val (.ref x))) (kk : Sim p l e R s m args below meth c D cy base nc ns Q o S (F0 m (pc + 2) ls (.ref x :: rest))) : Sim p l e R s m args below meth c D cy base nc ns Q o S (F0 m pc ls rest) := fun S2 r2 h2 H locs hP hS => lv_aload C.ex C.by hd hl (kk S2 r2 h2 H locs hP hS)
theorem r_astore_n (C : Cx p R s m args c own cc nL D cy base tS nc ns) {k : Fin 4} {i : Nat} {x : Nat} {lv lv2 : List (Nat × Value)} (hd : decode cc pc = .ok (.astore_n k, 1)) (hi : (k : Nat) = i) (h : lv_has ls nL lv) (hn : i < nL) (hl : (i, Value.ref x) :: lv.filter (fun q => !(q.1 == i) && !(q.1 + 1 == i && q.2.category == 2)) = lv2) (kk : ∀ ls2 : Array Slot, lv_has ls2 nL lv2 → Sim p l e R s m args below meth c D cy base nc ns Q o S (F0 m (pc + 1) ls2 rest)) : Sim p l e R s m args below meth c D cy base nc ns Q o S (F0 m pc ls (.ref x :: rest)) := fun S2 r2 h2 H locs hP hS => lv_astore_n C.ex C.by hd hi h hn hl (fun ls2 hl2 => kk ls2 hl2 S2 r2 h2 H locs hP hS)
theorem r_astore (C : Cx p R s m args c own cc nL D cy base tS nc ns) {i : Nat} {x : Nat} {lv lv2 : List (Nat × Value)} (hd : decode cc pc = .ok (.astore i, 2)) (h : lv_has ls nL lv) (hn : i < nL) (hl : (i, Value.ref x) :: lv.filter (fun q => !(q.1 == i) && !(q.1 + 1 == i && q.2.category == 2)) = lv2) (kk : ∀ ls2 : Array Slot, lv_has ls2 nL lv2 → Sim p l e R s m args below meth c D cy base nc ns Q o S (F0 m (pc + 2) ls2 rest)) : Sim p l e R s m args below meth c D cy base nc ns Q o S (F0 m pc ls (.ref x :: rest)) := fun S2 r2 h2 H locs hP hS => lv_astore C.ex C.by hd h hn hl (fun ls2 hl2 => kk ls2 hl2 S2 r2 h2 H locs hP hS)
theorem r_topi {x : Int32} {b : Int32 → Option (St × ρ)} (k : ∀ y : Int32, Sim p l e R s m args below meth c D cy base nc ns Q (b y) S (F0 m pc ls (.int y :: rest))) : Sim p l e R s m args below meth c D cy base nc ns Q (lt x b) S (F0 m pc ls (.int x :: rest)) := k x
theorem r_topl {x : Int64} {b : Int64 → Option (St × ρ)} (k : ∀ y : Int64, Sim p l e R s m args below meth c D cy base nc ns Q (b y) S (F0 m pc ls (.long y :: rest))) : Sim p l e R s m args below meth c D cy base nc ns Q (lt x b) S (F0 m pc ls (.long x :: rest)) := k x
theorem r_iinc (C : Cx p R s m args c own cc nL D cy base tS nc ns) {i k : Nat} {n : Int} {x : Int32} {b : Int32 → Option (St × ρ)} (v : Int32) {lv : List (Nat × Value)} (lv2 : Int32 → List (Nat × Value)) (hd : decode cc pc = .ok (.iinc i n, 3)) (h : lv_has ls nL lv) (hk : lv[k]? = some (i, .int x)) (hv : Int32.ofInt n = v) (hn : i < nL) (hl : ∀ y : Int32, (i, Value.int y) :: lv.filter (fun q => !(q.1 == i) && !(q.1 + 1 == i && q.2.category == 2)) = lv2 y) (kk : ∀ (y : Int32) (ls2 : Array Slot), lv_has ls2 nL (lv2 y) → Sim p l e R s m args below meth c D cy base nc ns Q (b y) S (F0 m (pc + 3) ls2 rest)) : Sim p l e R s m args below meth c D cy base nc ns Q (lt (x + v) b) S (F0 m pc ls rest) := fun S2 r2 h2 H locs hP hS => lv_iinc (v := x + v) C.ex C.by hd h hk (by rw [hv]) hn (hl (x + v)) (fun ls2 hl2 => kk (x + v) ls2 hl2 S2 r2 h2 H locs hP hS)
theorem r_iadd (C : Cx p R s m args c own cc nL D cy base tS nc ns) {x y : Int32} (hd : decode cc pc = .ok (.iadd, 1)) (k : Sim p l e R s m args below meth c D cy base nc ns Q o S (F0 m (pc + 1) ls (.int (x + y) :: rest))) : Sim p l e R s m args below meth c D cy base nc ns Q o S (F0 m pc ls (.int y :: .int x :: rest)) := fun S2 r2 h2 H locs hP hS => lv_iadd C.ex C.by hd (k S2 r2 h2 H locs hP hS)
theorem r_isub (C : Cx p R s m args c own cc nL D cy base tS nc ns) {x y : Int32} (hd : decode cc pc = .ok (.isub, 1)) (k : Sim p l e R s m args below meth c D cy base nc ns Q o S (F0 m (pc + 1) ls (.int (x - y) :: rest))) : Sim p l e R s m args below meth c D cy base nc ns Q o S (F0 m pc ls (.int y :: .int x :: rest)) := fun S2 r2 h2 H locs hP hS => lv_isub C.ex C.by hd (k S2 r2 h2 H locs hP hS)
theorem r_imul (C : Cx p R s m args c own cc nL D cy base tS nc ns) {x y : Int32} (hd : decode cc pc = .ok (.imul, 1)) (k : Sim p l e R s m args below meth c D cy base nc ns Q o S (F0 m (pc + 1) ls (.int (x * y) :: rest))) : Sim p l e R s m args below meth c D cy base nc ns Q o S (F0 m pc ls (.int y :: .int x :: rest)) := fun S2 r2 h2 H locs hP hS => lv_imul C.ex C.by hd (k S2 r2 h2 H locs hP hS)
theorem r_iand (C : Cx p R s m args c own cc nL D cy base tS nc ns) {x y : Int32} (hd : decode cc pc = .ok (.iand, 1)) (k : Sim p l e R s m args below meth c D cy base nc ns Q o S (F0 m (pc + 1) ls (.int (x &&& y) :: rest))) : Sim p l e R s m args below meth c D cy base nc ns Q o S (F0 m pc ls (.int y :: .int x :: rest)) := fun S2 r2 h2 H locs hP hS => lv_iand C.ex C.by hd (k S2 r2 h2 H locs hP hS)
theorem r_ior (C : Cx p R s m args c own cc nL D cy base tS nc ns) {x y : Int32} (hd : decode cc pc = .ok (.ior, 1)) (k : Sim p l e R s m args below meth c D cy base nc ns Q o S (F0 m (pc + 1) ls (.int (x ||| y) :: rest))) : Sim p l e R s m args below meth c D cy base nc ns Q o S (F0 m pc ls (.int y :: .int x :: rest)) := fun S2 r2 h2 H locs hP hS => lv_ior C.ex C.by hd (k S2 r2 h2 H locs hP hS)
theorem r_ixor (C : Cx p R s m args c own cc nL D cy base tS nc ns) {x y : Int32} (hd : decode cc pc = .ok (.ixor, 1)) (k : Sim p l e R s m args below meth c D cy base nc ns Q o S (F0 m (pc + 1) ls (.int (x ^^^ y) :: rest))) : Sim p l e R s m args below meth c D cy base nc ns Q o S (F0 m pc ls (.int y :: .int x :: rest)) := fun S2 r2 h2 H locs hP hS => lv_ixor C.ex C.by hd (k S2 r2 h2 H locs hP hS)
theorem r_ishl (C : Cx p R s m args c own cc nL D cy base tS nc ns) {x y : Int32} (hd : decode cc pc = .ok (.ishl, 1)) (k : Sim p l e R s m args below meth c D cy base nc ns Q o S (F0 m (pc + 1) ls (.int (x <<< (y &&& 31)) :: rest))) : Sim p l e R s m args below meth c D cy base nc ns Q o S (F0 m pc ls (.int y :: .int x :: rest)) := fun S2 r2 h2 H locs hP hS => lv_ishl C.ex C.by hd (k S2 r2 h2 H locs hP hS)
theorem r_ishr (C : Cx p R s m args c own cc nL D cy base tS nc ns) {x y : Int32} (hd : decode cc pc = .ok (.ishr, 1)) (k : Sim p l e R s m args below meth c D cy base nc ns Q o S (F0 m (pc + 1) ls (.int (x >>> (y &&& 31)) :: rest))) : Sim p l e R s m args below meth c D cy base nc ns Q o S (F0 m pc ls (.int y :: .int x :: rest)) := fun S2 r2 h2 H locs hP hS => lv_ishr C.ex C.by hd (k S2 r2 h2 H locs hP hS)
theorem r_ladd (C : Cx p R s m args c own cc nL D cy base tS nc ns) {x y : Int64} (hd : decode cc pc = .ok (.ladd, 1)) (k : Sim p l e R s m args below meth c D cy base nc ns Q o S (F0 m (pc + 1) ls (.long (x + y) :: rest))) : Sim p l e R s m args below meth c D cy base nc ns Q o S (F0 m pc ls (.long y :: .long x :: rest)) := fun S2 r2 h2 H locs hP hS => lv_ladd C.ex C.by hd (k S2 r2 h2 H locs hP hS)
theorem r_lsub (C : Cx p R s m args c own cc nL D cy base tS nc ns) {x y : Int64} (hd : decode cc pc = .ok (.lsub, 1)) (k : Sim p l e R s m args below meth c D cy base nc ns Q o S (F0 m (pc + 1) ls (.long (x - y) :: rest))) : Sim p l e R s m args below meth c D cy base nc ns Q o S (F0 m pc ls (.long y :: .long x :: rest)) := fun S2 r2 h2 H locs hP hS => lv_lsub C.ex C.by hd (k S2 r2 h2 H locs hP hS)
theorem r_lmul (C : Cx p R s m args c own cc nL D cy base tS nc ns) {x y : Int64} (hd : decode cc pc = .ok (.lmul, 1)) (k : Sim p l e R s m args below meth c D cy base nc ns Q o S (F0 m (pc + 1) ls (.long (x * y) :: rest))) : Sim p l e R s m args below meth c D cy base nc ns Q o S (F0 m pc ls (.long y :: .long x :: rest)) := fun S2 r2 h2 H locs hP hS => lv_lmul C.ex C.by hd (k S2 r2 h2 H locs hP hS)
theorem r_land (C : Cx p R s m args c own cc nL D cy base tS nc ns) {x y : Int64} (hd : decode cc pc = .ok (.land, 1)) (k : Sim p l e R s m args below meth c D cy base nc ns Q o S (F0 m (pc + 1) ls (.long (x &&& y) :: rest))) : Sim p l e R s m args below meth c D cy base nc ns Q o S (F0 m pc ls (.long y :: .long x :: rest)) := fun S2 r2 h2 H locs hP hS => lv_land C.ex C.by hd (k S2 r2 h2 H locs hP hS)
theorem r_lor (C : Cx p R s m args c own cc nL D cy base tS nc ns) {x y : Int64} (hd : decode cc pc = .ok (.lor, 1)) (k : Sim p l e R s m args below meth c D cy base nc ns Q o S (F0 m (pc + 1) ls (.long (x ||| y) :: rest))) : Sim p l e R s m args below meth c D cy base nc ns Q o S (F0 m pc ls (.long y :: .long x :: rest)) := fun S2 r2 h2 H locs hP hS => lv_lor C.ex C.by hd (k S2 r2 h2 H locs hP hS)
theorem r_idiv (C : Cx p R s m args c own cc nL D cy base tS nc ns) {x y : Int32} (hd : decode cc pc = .ok (.idiv, 1)) (k : ¬ y = 0 → Sim p l e R s m args below meth c D cy base nc ns Q o S (F0 m (pc + 1) ls (.int (x / y) :: rest))) : Sim p l e R s m args below meth c D cy base nc ns Q (gu (¬ y = 0) o) S (F0 m pc ls (.int y :: .int x :: rest)) := by
  intro S2 r2 h2 H locs hP hS
  unfold gu at h2
  split at h2
  · next hy => exact lv_idiv C.ex C.by hd hy (k hy S2 r2 h2 H locs hP hS)
  · cases h2
theorem r_irem (C : Cx p R s m args c own cc nL D cy base tS nc ns) {x y : Int32} (hd : decode cc pc = .ok (.irem, 1)) (k : ¬ y = 0 → Sim p l e R s m args below meth c D cy base nc ns Q o S (F0 m (pc + 1) ls (.int (irem x y) :: rest))) : Sim p l e R s m args below meth c D cy base nc ns Q (gu (¬ y = 0) o) S (F0 m pc ls (.int y :: .int x :: rest)) := by
  intro S2 r2 h2 H locs hP hS
  unfold gu at h2
  split at h2
  · next hy => exact lv_irem C.ex C.by hd hy (k hy S2 r2 h2 H locs hP hS)
  · cases h2
theorem r_ldiv (C : Cx p R s m args c own cc nL D cy base tS nc ns) {x y : Int64} (hd : decode cc pc = .ok (.ldiv, 1)) (k : ¬ y = 0 → Sim p l e R s m args below meth c D cy base nc ns Q o S (F0 m (pc + 1) ls (.long (x / y) :: rest))) : Sim p l e R s m args below meth c D cy base nc ns Q (gu (¬ y = 0) o) S (F0 m pc ls (.long y :: .long x :: rest)) := by
  intro S2 r2 h2 H locs hP hS
  unfold gu at h2
  split at h2
  · next hy => exact lv_ldiv C.ex C.by hd hy (k hy S2 r2 h2 H locs hP hS)
  · cases h2
theorem r_lrem (C : Cx p R s m args c own cc nL D cy base tS nc ns) {x y : Int64} (hd : decode cc pc = .ok (.lrem, 1)) (k : ¬ y = 0 → Sim p l e R s m args below meth c D cy base nc ns Q o S (F0 m (pc + 1) ls (.long (lrem x y) :: rest))) : Sim p l e R s m args below meth c D cy base nc ns Q (gu (¬ y = 0) o) S (F0 m pc ls (.long y :: .long x :: rest)) := by
  intro S2 r2 h2 H locs hP hS
  unfold gu at h2
  split at h2
  · next hy => exact lv_lrem C.ex C.by hd hy (k hy S2 r2 h2 H locs hP hS)
  · cases h2
theorem r_ineg (C : Cx p R s m args c own cc nL D cy base tS nc ns) {x : Int32} (hd : decode cc pc = .ok (.ineg, 1)) (k : Sim p l e R s m args below meth c D cy base nc ns Q o S (F0 m (pc + 1) ls (.int (-x) :: rest))) : Sim p l e R s m args below meth c D cy base nc ns Q o S (F0 m pc ls (.int x :: rest)) := fun S2 r2 h2 H locs hP hS => lv_ineg C.ex C.by hd (k S2 r2 h2 H locs hP hS)
theorem r_i2l (C : Cx p R s m args c own cc nL D cy base tS nc ns) {x : Int32} (hd : decode cc pc = .ok (.i2l, 1)) (k : Sim p l e R s m args below meth c D cy base nc ns Q o S (F0 m (pc + 1) ls (.long (x.toInt64) :: rest))) : Sim p l e R s m args below meth c D cy base nc ns Q o S (F0 m pc ls (.int x :: rest)) := fun S2 r2 h2 H locs hP hS => lv_i2l C.ex C.by hd rfl (k S2 r2 h2 H locs hP hS)
theorem r_l2i (C : Cx p R s m args c own cc nL D cy base tS nc ns) {x : Int64} (hd : decode cc pc = .ok (.l2i, 1)) (k : Sim p l e R s m args below meth c D cy base nc ns Q o S (F0 m (pc + 1) ls (.int (x.toInt32) :: rest))) : Sim p l e R s m args below meth c D cy base nc ns Q o S (F0 m pc ls (.long x :: rest)) := fun S2 r2 h2 H locs hP hS => lv_l2i C.ex C.by hd rfl (k S2 r2 h2 H locs hP hS)
theorem r_i2b (C : Cx p R s m args c own cc nL D cy base tS nc ns) {x : Int32} (hd : decode cc pc = .ok (.i2b, 1)) (k : Sim p l e R s m args below meth c D cy base nc ns Q o S (F0 m (pc + 1) ls (.int (x.toInt8.toInt32) :: rest))) : Sim p l e R s m args below meth c D cy base nc ns Q o S (F0 m pc ls (.int x :: rest)) := fun S2 r2 h2 H locs hP hS => lv_i2b C.ex C.by hd rfl (k S2 r2 h2 H locs hP hS)
theorem r_i2s (C : Cx p R s m args c own cc nL D cy base tS nc ns) {x : Int32} (hd : decode cc pc = .ok (.i2s, 1)) (k : Sim p l e R s m args below meth c D cy base nc ns Q o S (F0 m (pc + 1) ls (.int (x.toInt16.toInt32) :: rest))) : Sim p l e R s m args below meth c D cy base nc ns Q o S (F0 m pc ls (.int x :: rest)) := fun S2 r2 h2 H locs hP hS => lv_i2s C.ex C.by hd rfl (k S2 r2 h2 H locs hP hS)
theorem r_lshl (C : Cx p R s m args c own cc nL D cy base tS nc ns) {x : Int64} {y : Int32} (hd : decode cc pc = .ok (.lshl, 1)) (k : Sim p l e R s m args below meth c D cy base nc ns Q o S (F0 m (pc + 1) ls (.long (x <<< (y.toInt64 &&& 63)) :: rest))) : Sim p l e R s m args below meth c D cy base nc ns Q o S (F0 m pc ls (.int y :: .long x :: rest)) := fun S2 r2 h2 H locs hP hS => lv_lshl C.ex C.by hd rfl (k S2 r2 h2 H locs hP hS)
theorem r_lshr (C : Cx p R s m args c own cc nL D cy base tS nc ns) {x : Int64} {y : Int32} (hd : decode cc pc = .ok (.lshr, 1)) (k : Sim p l e R s m args below meth c D cy base nc ns Q o S (F0 m (pc + 1) ls (.long (x >>> (y.toInt64 &&& 63)) :: rest))) : Sim p l e R s m args below meth c D cy base nc ns Q o S (F0 m pc ls (.int y :: .long x :: rest)) := fun S2 r2 h2 H locs hP hS => lv_lshr C.ex C.by hd rfl (k S2 r2 h2 H locs hP hS)
theorem r_dup (C : Cx p R s m args c own cc nL D cy base tS nc ns) {va : Value} (hd : decode cc pc = .ok (.dup, 1)) (hva : va.category = 1) (k : Sim p l e R s m args below meth c D cy base nc ns Q o S (F0 m (pc + 1) ls (va :: va :: rest))) : Sim p l e R s m args below meth c D cy base nc ns Q o S (F0 m pc ls (va :: rest)) := fun S2 r2 h2 H locs hP hS => lv_dup C.ex C.by hd hva (k S2 r2 h2 H locs hP hS)
theorem r_dup_x1 (C : Cx p R s m args c own cc nL D cy base tS nc ns) {va vb : Value} (hd : decode cc pc = .ok (.dup_x1, 1)) (hva : va.category = 1) (hvb : vb.category = 1) (k : Sim p l e R s m args below meth c D cy base nc ns Q o S (F0 m (pc + 1) ls (va :: vb :: va :: rest))) : Sim p l e R s m args below meth c D cy base nc ns Q o S (F0 m pc ls (va :: vb :: rest)) := fun S2 r2 h2 H locs hP hS => lv_dup_x1 C.ex C.by hd hva hvb (k S2 r2 h2 H locs hP hS)
theorem r_dup2_11 (C : Cx p R s m args c own cc nL D cy base tS nc ns) {va vb : Value} (hd : decode cc pc = .ok (.dup2, 1)) (hva : va.category = 1) (hvb : vb.category = 1) (k : Sim p l e R s m args below meth c D cy base nc ns Q o S (F0 m (pc + 1) ls (va :: vb :: va :: vb :: rest))) : Sim p l e R s m args below meth c D cy base nc ns Q o S (F0 m pc ls (va :: vb :: rest)) := fun S2 r2 h2 H locs hP hS => lv_dup2_11 C.ex C.by hd hva hvb (k S2 r2 h2 H locs hP hS)
theorem r_pop (C : Cx p R s m args c own cc nL D cy base tS nc ns) {va : Value} (hd : decode cc pc = .ok (.pop, 1)) (hva : va.category = 1) (k : Sim p l e R s m args below meth c D cy base nc ns Q o S (F0 m (pc + 1) ls rest)) : Sim p l e R s m args below meth c D cy base nc ns Q o S (F0 m pc ls (va :: rest)) := fun S2 r2 h2 H locs hP hS => lv_pop C.ex C.by hd hva (k S2 r2 h2 H locs hP hS)
theorem r_goto (C : Cx p R s m args c own cc nL D cy base tS nc ns) {off : Int} {tgt : Nat} (hd : decode cc pc = .ok (.goto off, 3)) (ht : (pc : Int) + off = (tgt : Int)) (k : Sim p l e R s m args below meth c D cy base nc ns Q o S (F0 m tgt ls rest)) : Sim p l e R s m args below meth c D cy base nc ns Q o S (F0 m pc ls rest) := fun S2 r2 h2 H locs hP hS => lv_goto C.ex C.by hd ht (k S2 r2 h2 H locs hP hS)
theorem r_if_eq (C : Cx p R s m args c own cc nL D cy base tS nc ns) {x : Int32} {o1 o2 : Option (St × ρ)} {off : Int} {tgt : Nat} (hd : decode cc pc = .ok (.ifCond .eq off, 3)) (ht : (pc : Int) + off = (tgt : Int)) (kt : x = 0 → Sim p l e R s m args below meth c D cy base nc ns Q o1 S (F0 m tgt ls rest)) (kf : ¬ (x = 0) → Sim p l e R s m args below meth c D cy base nc ns Q o2 S (F0 m (pc + 3) ls rest)) : Sim p l e R s m args below meth c D cy base nc ns Q (if x = 0 then o1 else o2) S (F0 m pc ls (.int x :: rest)) := by
  intro S2 r2 h2 H locs hP hS
  by_cases h : x = 0
  · rw [if_pos h] at h2
    exact lv_if_eq C.ex C.by hd ht (fun _ => kt h S2 r2 h2 H locs hP hS) (fun q => by first | exact absurd h q | exact absurd q h)
  · rw [if_neg h] at h2
    exact lv_if_eq C.ex C.by hd ht (fun q => absurd q h) (fun _ => kf h S2 r2 h2 H locs hP hS)
theorem r_icmp_eq (C : Cx p R s m args c own cc nL D cy base tS nc ns) {x y : Int32} {o1 o2 : Option (St × ρ)} {off : Int} {tgt : Nat} (hd : decode cc pc = .ok (.if_icmp .eq off, 3)) (ht : (pc : Int) + off = (tgt : Int)) (kt : x = y → Sim p l e R s m args below meth c D cy base nc ns Q o1 S (F0 m tgt ls rest)) (kf : ¬ (x = y) → Sim p l e R s m args below meth c D cy base nc ns Q o2 S (F0 m (pc + 3) ls rest)) : Sim p l e R s m args below meth c D cy base nc ns Q (if x = y then o1 else o2) S (F0 m pc ls (.int y :: .int x :: rest)) := by
  intro S2 r2 h2 H locs hP hS
  by_cases h : x = y
  · rw [if_pos h] at h2
    exact lv_icmp_eq C.ex C.by hd ht (fun _ => kt h S2 r2 h2 H locs hP hS) (fun q => by first | exact absurd h q | exact absurd q h)
  · rw [if_neg h] at h2
    exact lv_icmp_eq C.ex C.by hd ht (fun q => absurd q h) (fun _ => kf h S2 r2 h2 H locs hP hS)
theorem lc_eq (x y : Int64) : ((lg_cmp x y) = 0) ↔ (x = y) := lg_cmp_eq x y
theorem r_lcmp_eq (C : Cx p R s m args c own cc nL D cy base tS nc ns) {x y : Int64} {o1 o2 : Option (St × ρ)} {off : Int} {tgt : Nat} (hd0 : decode cc pc = .ok (.lcmp, 1)) (hd : decode cc (pc + 1) = .ok (.ifCond .eq off, 3)) (ht : ((pc + 1 : Nat) : Int) + off = (tgt : Int)) (kt : x = y → Sim p l e R s m args below meth c D cy base nc ns Q o1 S (F0 m tgt ls rest)) (kf : ¬ (x = y) → Sim p l e R s m args below meth c D cy base nc ns Q o2 S (F0 m (pc + 4) ls rest)) : Sim p l e R s m args below meth c D cy base nc ns Q (if x = y then o1 else o2) S (F0 m pc ls (.long y :: .long x :: rest)) := by
  intro S2 r2 h2 H locs hP hS
  refine W.lcmp C.ex C.by hd0 ?_
  by_cases h : x = y
  · rw [if_pos h] at h2
    exact lv_if_eq C.ex C.by hd ht (fun _ => kt h S2 r2 h2 H locs hP hS) (fun q => by first | exact absurd ((lc_eq x y).mpr h) q | exact absurd q ((lc_eq x y).mpr h))
  · rw [if_neg h] at h2
    exact lv_if_eq C.ex C.by hd ht (fun q => absurd ((lc_eq x y).mp q) h) (fun _ => kf h S2 r2 h2 H locs hP hS)
theorem r_if_ne (C : Cx p R s m args c own cc nL D cy base tS nc ns) {x : Int32} {o1 o2 : Option (St × ρ)} {off : Int} {tgt : Nat} (hd : decode cc pc = .ok (.ifCond .ne off, 3)) (ht : (pc : Int) + off = (tgt : Int)) (kt : ¬ x = 0 → Sim p l e R s m args below meth c D cy base nc ns Q o1 S (F0 m tgt ls rest)) (kf : ¬ (¬ x = 0) → Sim p l e R s m args below meth c D cy base nc ns Q o2 S (F0 m (pc + 3) ls rest)) : Sim p l e R s m args below meth c D cy base nc ns Q (if ¬ x = 0 then o1 else o2) S (F0 m pc ls (.int x :: rest)) := by
  intro S2 r2 h2 H locs hP hS
  by_cases h : ¬ x = 0
  · rw [if_pos h] at h2
    exact lv_if_ne C.ex C.by hd ht (fun _ => kt h S2 r2 h2 H locs hP hS) (fun q => by first | exact absurd h q | exact absurd q h)
  · rw [if_neg h] at h2
    exact lv_if_ne C.ex C.by hd ht (fun q => absurd q h) (fun _ => kf h S2 r2 h2 H locs hP hS)
theorem r_icmp_ne (C : Cx p R s m args c own cc nL D cy base tS nc ns) {x y : Int32} {o1 o2 : Option (St × ρ)} {off : Int} {tgt : Nat} (hd : decode cc pc = .ok (.if_icmp .ne off, 3)) (ht : (pc : Int) + off = (tgt : Int)) (kt : ¬ x = y → Sim p l e R s m args below meth c D cy base nc ns Q o1 S (F0 m tgt ls rest)) (kf : ¬ (¬ x = y) → Sim p l e R s m args below meth c D cy base nc ns Q o2 S (F0 m (pc + 3) ls rest)) : Sim p l e R s m args below meth c D cy base nc ns Q (if ¬ x = y then o1 else o2) S (F0 m pc ls (.int y :: .int x :: rest)) := by
  intro S2 r2 h2 H locs hP hS
  by_cases h : ¬ x = y
  · rw [if_pos h] at h2
    exact lv_icmp_ne C.ex C.by hd ht (fun _ => kt h S2 r2 h2 H locs hP hS) (fun q => by first | exact absurd h q | exact absurd q h)
  · rw [if_neg h] at h2
    exact lv_icmp_ne C.ex C.by hd ht (fun q => absurd q h) (fun _ => kf h S2 r2 h2 H locs hP hS)
theorem lc_ne (x y : Int64) : (¬ (lg_cmp x y) = 0) ↔ (¬ x = y) := not_congr (lg_cmp_eq x y)
theorem r_lcmp_ne (C : Cx p R s m args c own cc nL D cy base tS nc ns) {x y : Int64} {o1 o2 : Option (St × ρ)} {off : Int} {tgt : Nat} (hd0 : decode cc pc = .ok (.lcmp, 1)) (hd : decode cc (pc + 1) = .ok (.ifCond .ne off, 3)) (ht : ((pc + 1 : Nat) : Int) + off = (tgt : Int)) (kt : ¬ x = y → Sim p l e R s m args below meth c D cy base nc ns Q o1 S (F0 m tgt ls rest)) (kf : ¬ (¬ x = y) → Sim p l e R s m args below meth c D cy base nc ns Q o2 S (F0 m (pc + 4) ls rest)) : Sim p l e R s m args below meth c D cy base nc ns Q (if ¬ x = y then o1 else o2) S (F0 m pc ls (.long y :: .long x :: rest)) := by
  intro S2 r2 h2 H locs hP hS
  refine W.lcmp C.ex C.by hd0 ?_
  by_cases h : ¬ x = y
  · rw [if_pos h] at h2
    exact lv_if_ne C.ex C.by hd ht (fun _ => kt h S2 r2 h2 H locs hP hS) (fun q => by first | exact absurd ((lc_ne x y).mpr h) q | exact absurd q ((lc_ne x y).mpr h))
  · rw [if_neg h] at h2
    exact lv_if_ne C.ex C.by hd ht (fun q => absurd ((lc_ne x y).mp q) h) (fun _ => kf h S2 r2 h2 H locs hP hS)
theorem r_if_lt (C : Cx p R s m args c own cc nL D cy base tS nc ns) {x : Int32} {o1 o2 : Option (St × ρ)} {off : Int} {tgt : Nat} (hd : decode cc pc = .ok (.ifCond .lt off, 3)) (ht : (pc : Int) + off = (tgt : Int)) (kt : x < 0 → Sim p l e R s m args below meth c D cy base nc ns Q o1 S (F0 m tgt ls rest)) (kf : ¬ (x < 0) → Sim p l e R s m args below meth c D cy base nc ns Q o2 S (F0 m (pc + 3) ls rest)) : Sim p l e R s m args below meth c D cy base nc ns Q (if x < 0 then o1 else o2) S (F0 m pc ls (.int x :: rest)) := by
  intro S2 r2 h2 H locs hP hS
  by_cases h : x < 0
  · rw [if_pos h] at h2
    exact lv_if_lt C.ex C.by hd ht (fun _ => kt h S2 r2 h2 H locs hP hS) (fun q => by first | exact absurd h q | exact absurd q h)
  · rw [if_neg h] at h2
    exact lv_if_lt C.ex C.by hd ht (fun q => absurd q h) (fun _ => kf h S2 r2 h2 H locs hP hS)
theorem r_icmp_lt (C : Cx p R s m args c own cc nL D cy base tS nc ns) {x y : Int32} {o1 o2 : Option (St × ρ)} {off : Int} {tgt : Nat} (hd : decode cc pc = .ok (.if_icmp .lt off, 3)) (ht : (pc : Int) + off = (tgt : Int)) (kt : x < y → Sim p l e R s m args below meth c D cy base nc ns Q o1 S (F0 m tgt ls rest)) (kf : ¬ (x < y) → Sim p l e R s m args below meth c D cy base nc ns Q o2 S (F0 m (pc + 3) ls rest)) : Sim p l e R s m args below meth c D cy base nc ns Q (if x < y then o1 else o2) S (F0 m pc ls (.int y :: .int x :: rest)) := by
  intro S2 r2 h2 H locs hP hS
  by_cases h : x < y
  · rw [if_pos h] at h2
    exact lv_icmp_lt C.ex C.by hd ht (fun _ => kt h S2 r2 h2 H locs hP hS) (fun q => by first | exact absurd h q | exact absurd q h)
  · rw [if_neg h] at h2
    exact lv_icmp_lt C.ex C.by hd ht (fun q => absurd q h) (fun _ => kf h S2 r2 h2 H locs hP hS)
theorem lc_lt (x y : Int64) : ((lg_cmp x y) < 0) ↔ (x < y) := lg_cmp_lt x y
theorem r_lcmp_lt (C : Cx p R s m args c own cc nL D cy base tS nc ns) {x y : Int64} {o1 o2 : Option (St × ρ)} {off : Int} {tgt : Nat} (hd0 : decode cc pc = .ok (.lcmp, 1)) (hd : decode cc (pc + 1) = .ok (.ifCond .lt off, 3)) (ht : ((pc + 1 : Nat) : Int) + off = (tgt : Int)) (kt : x < y → Sim p l e R s m args below meth c D cy base nc ns Q o1 S (F0 m tgt ls rest)) (kf : ¬ (x < y) → Sim p l e R s m args below meth c D cy base nc ns Q o2 S (F0 m (pc + 4) ls rest)) : Sim p l e R s m args below meth c D cy base nc ns Q (if x < y then o1 else o2) S (F0 m pc ls (.long y :: .long x :: rest)) := by
  intro S2 r2 h2 H locs hP hS
  refine W.lcmp C.ex C.by hd0 ?_
  by_cases h : x < y
  · rw [if_pos h] at h2
    exact lv_if_lt C.ex C.by hd ht (fun _ => kt h S2 r2 h2 H locs hP hS) (fun q => by first | exact absurd ((lc_lt x y).mpr h) q | exact absurd q ((lc_lt x y).mpr h))
  · rw [if_neg h] at h2
    exact lv_if_lt C.ex C.by hd ht (fun q => absurd ((lc_lt x y).mp q) h) (fun _ => kf h S2 r2 h2 H locs hP hS)
theorem r_if_ge (C : Cx p R s m args c own cc nL D cy base tS nc ns) {x : Int32} {o1 o2 : Option (St × ρ)} {off : Int} {tgt : Nat} (hd : decode cc pc = .ok (.ifCond .ge off, 3)) (ht : (pc : Int) + off = (tgt : Int)) (kt : 0 ≤ x → Sim p l e R s m args below meth c D cy base nc ns Q o1 S (F0 m tgt ls rest)) (kf : ¬ (0 ≤ x) → Sim p l e R s m args below meth c D cy base nc ns Q o2 S (F0 m (pc + 3) ls rest)) : Sim p l e R s m args below meth c D cy base nc ns Q (if 0 ≤ x then o1 else o2) S (F0 m pc ls (.int x :: rest)) := by
  intro S2 r2 h2 H locs hP hS
  by_cases h : 0 ≤ x
  · rw [if_pos h] at h2
    exact lv_if_ge C.ex C.by hd ht (fun _ => kt h S2 r2 h2 H locs hP hS) (fun q => by first | exact absurd h q | exact absurd q h)
  · rw [if_neg h] at h2
    exact lv_if_ge C.ex C.by hd ht (fun q => absurd q h) (fun _ => kf h S2 r2 h2 H locs hP hS)
theorem r_icmp_ge (C : Cx p R s m args c own cc nL D cy base tS nc ns) {x y : Int32} {o1 o2 : Option (St × ρ)} {off : Int} {tgt : Nat} (hd : decode cc pc = .ok (.if_icmp .ge off, 3)) (ht : (pc : Int) + off = (tgt : Int)) (kt : y ≤ x → Sim p l e R s m args below meth c D cy base nc ns Q o1 S (F0 m tgt ls rest)) (kf : ¬ (y ≤ x) → Sim p l e R s m args below meth c D cy base nc ns Q o2 S (F0 m (pc + 3) ls rest)) : Sim p l e R s m args below meth c D cy base nc ns Q (if y ≤ x then o1 else o2) S (F0 m pc ls (.int y :: .int x :: rest)) := by
  intro S2 r2 h2 H locs hP hS
  by_cases h : y ≤ x
  · rw [if_pos h] at h2
    exact lv_icmp_ge C.ex C.by hd ht (fun _ => kt h S2 r2 h2 H locs hP hS) (fun q => by first | exact absurd h q | exact absurd q h)
  · rw [if_neg h] at h2
    exact lv_icmp_ge C.ex C.by hd ht (fun q => absurd q h) (fun _ => kf h S2 r2 h2 H locs hP hS)
theorem lc_ge (x y : Int64) : (0 ≤ (lg_cmp x y)) ↔ (y ≤ x) := lg_cmp_ge x y
theorem r_lcmp_ge (C : Cx p R s m args c own cc nL D cy base tS nc ns) {x y : Int64} {o1 o2 : Option (St × ρ)} {off : Int} {tgt : Nat} (hd0 : decode cc pc = .ok (.lcmp, 1)) (hd : decode cc (pc + 1) = .ok (.ifCond .ge off, 3)) (ht : ((pc + 1 : Nat) : Int) + off = (tgt : Int)) (kt : y ≤ x → Sim p l e R s m args below meth c D cy base nc ns Q o1 S (F0 m tgt ls rest)) (kf : ¬ (y ≤ x) → Sim p l e R s m args below meth c D cy base nc ns Q o2 S (F0 m (pc + 4) ls rest)) : Sim p l e R s m args below meth c D cy base nc ns Q (if y ≤ x then o1 else o2) S (F0 m pc ls (.long y :: .long x :: rest)) := by
  intro S2 r2 h2 H locs hP hS
  refine W.lcmp C.ex C.by hd0 ?_
  by_cases h : y ≤ x
  · rw [if_pos h] at h2
    exact lv_if_ge C.ex C.by hd ht (fun _ => kt h S2 r2 h2 H locs hP hS) (fun q => by first | exact absurd ((lc_ge x y).mpr h) q | exact absurd q ((lc_ge x y).mpr h))
  · rw [if_neg h] at h2
    exact lv_if_ge C.ex C.by hd ht (fun q => absurd ((lc_ge x y).mp q) h) (fun _ => kf h S2 r2 h2 H locs hP hS)
theorem r_if_gt (C : Cx p R s m args c own cc nL D cy base tS nc ns) {x : Int32} {o1 o2 : Option (St × ρ)} {off : Int} {tgt : Nat} (hd : decode cc pc = .ok (.ifCond .gt off, 3)) (ht : (pc : Int) + off = (tgt : Int)) (kt : 0 < x → Sim p l e R s m args below meth c D cy base nc ns Q o1 S (F0 m tgt ls rest)) (kf : ¬ (0 < x) → Sim p l e R s m args below meth c D cy base nc ns Q o2 S (F0 m (pc + 3) ls rest)) : Sim p l e R s m args below meth c D cy base nc ns Q (if 0 < x then o1 else o2) S (F0 m pc ls (.int x :: rest)) := by
  intro S2 r2 h2 H locs hP hS
  by_cases h : 0 < x
  · rw [if_pos h] at h2
    exact lv_if_gt C.ex C.by hd ht (fun _ => kt h S2 r2 h2 H locs hP hS) (fun q => by first | exact absurd h q | exact absurd q h)
  · rw [if_neg h] at h2
    exact lv_if_gt C.ex C.by hd ht (fun q => absurd q h) (fun _ => kf h S2 r2 h2 H locs hP hS)
theorem r_icmp_gt (C : Cx p R s m args c own cc nL D cy base tS nc ns) {x y : Int32} {o1 o2 : Option (St × ρ)} {off : Int} {tgt : Nat} (hd : decode cc pc = .ok (.if_icmp .gt off, 3)) (ht : (pc : Int) + off = (tgt : Int)) (kt : y < x → Sim p l e R s m args below meth c D cy base nc ns Q o1 S (F0 m tgt ls rest)) (kf : ¬ (y < x) → Sim p l e R s m args below meth c D cy base nc ns Q o2 S (F0 m (pc + 3) ls rest)) : Sim p l e R s m args below meth c D cy base nc ns Q (if y < x then o1 else o2) S (F0 m pc ls (.int y :: .int x :: rest)) := by
  intro S2 r2 h2 H locs hP hS
  by_cases h : y < x
  · rw [if_pos h] at h2
    exact lv_icmp_gt C.ex C.by hd ht (fun _ => kt h S2 r2 h2 H locs hP hS) (fun q => by first | exact absurd h q | exact absurd q h)
  · rw [if_neg h] at h2
    exact lv_icmp_gt C.ex C.by hd ht (fun q => absurd q h) (fun _ => kf h S2 r2 h2 H locs hP hS)
theorem lc_gt (x y : Int64) : (0 < (lg_cmp x y)) ↔ (y < x) := lg_cmp_gt x y
theorem r_lcmp_gt (C : Cx p R s m args c own cc nL D cy base tS nc ns) {x y : Int64} {o1 o2 : Option (St × ρ)} {off : Int} {tgt : Nat} (hd0 : decode cc pc = .ok (.lcmp, 1)) (hd : decode cc (pc + 1) = .ok (.ifCond .gt off, 3)) (ht : ((pc + 1 : Nat) : Int) + off = (tgt : Int)) (kt : y < x → Sim p l e R s m args below meth c D cy base nc ns Q o1 S (F0 m tgt ls rest)) (kf : ¬ (y < x) → Sim p l e R s m args below meth c D cy base nc ns Q o2 S (F0 m (pc + 4) ls rest)) : Sim p l e R s m args below meth c D cy base nc ns Q (if y < x then o1 else o2) S (F0 m pc ls (.long y :: .long x :: rest)) := by
  intro S2 r2 h2 H locs hP hS
  refine W.lcmp C.ex C.by hd0 ?_
  by_cases h : y < x
  · rw [if_pos h] at h2
    exact lv_if_gt C.ex C.by hd ht (fun _ => kt h S2 r2 h2 H locs hP hS) (fun q => by first | exact absurd ((lc_gt x y).mpr h) q | exact absurd q ((lc_gt x y).mpr h))
  · rw [if_neg h] at h2
    exact lv_if_gt C.ex C.by hd ht (fun q => absurd ((lc_gt x y).mp q) h) (fun _ => kf h S2 r2 h2 H locs hP hS)
theorem r_if_le (C : Cx p R s m args c own cc nL D cy base tS nc ns) {x : Int32} {o1 o2 : Option (St × ρ)} {off : Int} {tgt : Nat} (hd : decode cc pc = .ok (.ifCond .le off, 3)) (ht : (pc : Int) + off = (tgt : Int)) (kt : x ≤ 0 → Sim p l e R s m args below meth c D cy base nc ns Q o1 S (F0 m tgt ls rest)) (kf : ¬ (x ≤ 0) → Sim p l e R s m args below meth c D cy base nc ns Q o2 S (F0 m (pc + 3) ls rest)) : Sim p l e R s m args below meth c D cy base nc ns Q (if x ≤ 0 then o1 else o2) S (F0 m pc ls (.int x :: rest)) := by
  intro S2 r2 h2 H locs hP hS
  by_cases h : x ≤ 0
  · rw [if_pos h] at h2
    exact lv_if_le C.ex C.by hd ht (fun _ => kt h S2 r2 h2 H locs hP hS) (fun q => by first | exact absurd h q | exact absurd q h)
  · rw [if_neg h] at h2
    exact lv_if_le C.ex C.by hd ht (fun q => absurd q h) (fun _ => kf h S2 r2 h2 H locs hP hS)
theorem r_icmp_le (C : Cx p R s m args c own cc nL D cy base tS nc ns) {x y : Int32} {o1 o2 : Option (St × ρ)} {off : Int} {tgt : Nat} (hd : decode cc pc = .ok (.if_icmp .le off, 3)) (ht : (pc : Int) + off = (tgt : Int)) (kt : x ≤ y → Sim p l e R s m args below meth c D cy base nc ns Q o1 S (F0 m tgt ls rest)) (kf : ¬ (x ≤ y) → Sim p l e R s m args below meth c D cy base nc ns Q o2 S (F0 m (pc + 3) ls rest)) : Sim p l e R s m args below meth c D cy base nc ns Q (if x ≤ y then o1 else o2) S (F0 m pc ls (.int y :: .int x :: rest)) := by
  intro S2 r2 h2 H locs hP hS
  by_cases h : x ≤ y
  · rw [if_pos h] at h2
    exact lv_icmp_le C.ex C.by hd ht (fun _ => kt h S2 r2 h2 H locs hP hS) (fun q => by first | exact absurd h q | exact absurd q h)
  · rw [if_neg h] at h2
    exact lv_icmp_le C.ex C.by hd ht (fun q => absurd q h) (fun _ => kf h S2 r2 h2 H locs hP hS)
theorem lc_le (x y : Int64) : ((lg_cmp x y) ≤ 0) ↔ (x ≤ y) := lg_cmp_le x y
theorem r_lcmp_le (C : Cx p R s m args c own cc nL D cy base tS nc ns) {x y : Int64} {o1 o2 : Option (St × ρ)} {off : Int} {tgt : Nat} (hd0 : decode cc pc = .ok (.lcmp, 1)) (hd : decode cc (pc + 1) = .ok (.ifCond .le off, 3)) (ht : ((pc + 1 : Nat) : Int) + off = (tgt : Int)) (kt : x ≤ y → Sim p l e R s m args below meth c D cy base nc ns Q o1 S (F0 m tgt ls rest)) (kf : ¬ (x ≤ y) → Sim p l e R s m args below meth c D cy base nc ns Q o2 S (F0 m (pc + 4) ls rest)) : Sim p l e R s m args below meth c D cy base nc ns Q (if x ≤ y then o1 else o2) S (F0 m pc ls (.long y :: .long x :: rest)) := by
  intro S2 r2 h2 H locs hP hS
  refine W.lcmp C.ex C.by hd0 ?_
  by_cases h : x ≤ y
  · rw [if_pos h] at h2
    exact lv_if_le C.ex C.by hd ht (fun _ => kt h S2 r2 h2 H locs hP hS) (fun q => by first | exact absurd ((lc_le x y).mpr h) q | exact absurd q ((lc_le x y).mpr h))
  · rw [if_neg h] at h2
    exact lv_if_le C.ex C.by hd ht (fun q => absurd ((lc_le x y).mp q) h) (fun _ => kf h S2 r2 h2 H locs hP hS)
end SIM
