section CTOR
theorem arrO_moved {t : FieldType} {u U : State} (hvm : u.vm.Alike U.vm) (h : (Cond.arrayOver (.array t)).before #[] u = true) : (Cond.arrayOver (.array t)).before #[] U = true := arrayOver_alikeB hvm h
def ow (U : State) : Prop := va_AO RX4 U ∧ va_AO RX9 U ∧ (Cond.arrayOver (.array .int)).before #[] U = true ∧ (Cond.arrayOver (.array .long)).before #[] U = true
theorem ow_moved {u U : State} (hvm : u.vm.Alike U.vm) (h : ow u) : ow U := ⟨h.1.moved hvm, h.2.1.moved hvm, arrO_moved hvm h.2.2.1, arrO_moved hvm h.2.2.2⟩
def wl (base : Nat) (hs : List va_E) : va_W := hs.mapIdx (fun i e => (base + i, e))
theorem wl_get (base : Nat) (hs : List va_E) (i : Nat) : (wl base hs)[i]? = (hs[i]?).map (fun e => (base + i, e)) := by unfold wl; rw [List.getElem?_mapIdx]
theorem wl_at {base : Nat} {hs : List va_E} {i : Nat} {e : va_E} (h : hs[i]? = some e) : (wl base hs)[i]? = some (base + i, e) := by rw [wl_get, h]; rfl
theorem wl_app (base : Nat) (hs : List va_E) (e : va_E) : wl base hs ++ [(base + hs.length, e)] = wl base (hs ++ [e]) := by
  unfold wl
  rw [List.mapIdx_append]
  simp
theorem wl_set {base : Nat} {hs : List va_E} {k : Nat} {e : va_E} : (wl base hs).set k (base + k, e) = wl base (hs.set k e) := by
  apply List.ext_getElem?
  intro i
  rw [wl_get]
  by_cases h : i = k
  · subst h
    by_cases hl : i < hs.length
    · rw [List.getElem?_set_self (by simp [wl]; exact hl), List.getElem?_set_self hl]; rfl
    · rw [List.getElem?_eq_none (by simp [wl]; omega), List.getElem?_eq_none (by simp; omega)]; rfl
  · rw [List.getElem?_set_ne (Ne.symm h), List.getElem?_set_ne (Ne.symm h), wl_get]
theorem wl_D (base : Nat) (hs : List va_E) : va_D (AA base) (wl base hs) := by
  have key : ∀ (i : Nat) (p : Nat × va_E), (wl base hs)[i]? = some p → p.1 = base + i := by
    intro i p h
    rw [wl_get] at h
    cases hq : hs[i]? with
    | none => rw [hq] at h; cases h
    | some e => rw [hq] at h; cases h; rfl
  refine ⟨fun i j p q hi hj h => ?_, fun i p h => ?_⟩
  · have h1 := key i p hi
    have h2 := key j q hj
    omega
  · have h1 := key i p h
    show base ≤ p.1
    omega
def CW (D : va_G) (base : Nat) (hs : List va_E) (H : Heap) : Prop := va_P D vwCl (wl base hs) H
def EnvC (D : va_G) (cy : Nat → ClassId) (U : State) : Prop := va_K D vwCl (tys cy) U ∧ (∀ w ∈ nw, va_Nw w U) ∧ ow U
def WorldC (D : va_G) (cy : Nat → ClassId) (base : Nat) (hs : List va_E) (U : State) : Prop := CW D base hs U.heap ∧ EnvC D cy U ∧ U.heap.size = base + hs.length
theorem EnvC.go {D : va_G} {cy : Nat → ClassId} {s U : State} (h : EnvC D cy s) (hW : s.WarmedH U.vm) : EnvC D cy U := ⟨va_K.moved hW.alike h.1, nw_warm hW h.2.1, ow_moved hW.alike h.2.2⟩
theorem EnvC.blind {D : va_G} {cy : Nat → ClassId} {U : State} (g : JFrame) (mk : MethodId) (a : Array Value) (h : EnvC D cy U) : EnvC D cy (U.calling g mk a) := by
  obtain ⟨h1, h2, h3⟩ := h
  refine ⟨va_K.moved (u := U) (Vm.Alike.refl U.vm) h1, fun w hw => ?_, ow_moved (u := U) (Vm.Alike.refl U.vm) h3⟩
  have h5 := h2 w hw
  have h6 : isNest w = true := (List.mem_filter.mp hw).2
  cases w <;> first | exact va_Nw.same rfl rfl h5 | (exact absurd h6 (by simp [isNest]))
theorem WorldC.blind {D : va_G} {cy : Nat → ClassId} {base : Nat} {hs : List va_E} {As : List Value} : FrameBlind (va_Pc As (WorldC D cy base hs)) := fun a U g mk q => ⟨q.1, q.2.1, q.2.2.1.blind g mk a, q.2.2.2⟩
variable {p : Program} {l : Launch} {e : Env} {R : Room} {s : State} {m : MethodId} {args : Array Value} {below : List Frame} {meth : Method} {c : Code} {D : va_G} {cy : Nat → ClassId} {base : Nat} {cc : ByteArray} {own : String} {nL pc : Nat} {ls : Array Slot} {rest : List Value} {cells slots : Nat} {Q : State → Prop} {hs pre l0 : List va_E}
def Cy (p : Program) (R : Room) (s : State) (m : MethodId) (args : Array Value) (c : Code) (own : String) (cc : ByteArray) (nL : Nat) (D : va_G) (cy : Nat → ClassId) (base : Nat) : Prop := p.tables.exec = Jvm.exec ∧ c.code = cc ∧ c.maxLocals = nL ∧ s.vm.findClass own = some m.cls ∧ (∀ w ∈ gw, w.before args s = true) ∧ EnvC D cy s ∧ base ≤ s.heap.size
theorem Cy.ex (C : Cy p R s m args c own cc nL D cy base) : p.tables.exec = Jvm.exec := C.1
theorem Cy.by (C : Cy p R s m args c own cc nL D cy base) : c.code = cc := C.2.1
theorem Cy.ow (C : Cy p R s m args c own cc nL D cy base) : s.vm.findClass own = some m.cls := C.2.2.2.1
theorem Cy.ts (C : Cy p R s m args c own cc nL D cy base) : ∀ w ∈ gw, w.before args s = true := C.2.2.2.2.1
theorem Cy.env (C : Cy p R s m args c own cc nL D cy base) : EnvC D cy s := C.2.2.2.2.2.1
theorem Cy.K (C : Cy p R s m args c own cc nL D cy base) : va_K D vwCl (tys cy) s := C.2.2.2.2.2.1.1
theorem Cy.nest (C : Cy p R s m args c own cc nL D cy base) {w : Cond} (hw : w ∈ nw) : va_Nw w s := C.2.2.2.2.2.1.2.1 w hw
theorem Cy.A (C : Cy p R s m args c own cc nL D cy base) : ∀ q, s.heap.size ≤ q → AA base q := fun q h => Nat.le_trans C.2.2.2.2.2.2 h
theorem Cy.fix (C : Cy p R s m args c own cc nL D cy base) : CallFix p m c cc nL s args gw own := ⟨C.1, C.2.1, C.2.2.1, C.2.2.2.1, C.2.2.2.2.1⟩
def CSim (p : Program) (l : Launch) (e : Env) (R : Room) (s : State) (m : MethodId) (args : Array Value) (below : List Frame) (meth : Method) (c : Code) (D : va_G) (base : Nat) (cells slots : Nat) (Q : State → Prop) (hs : List va_E) (g : JFrame) : Prop :=
  ∀ (H : Heap) (locs : List Loc), CW D base hs H → va_S (AA base) s.heap H locs → W p l e R s m args below meth c H locs cells slots Q g
theorem CSim.eq {h2 : List va_E} {g : JFrame} (h : hs = h2) (k : CSim p l e R s m args below meth c D base cells slots Q h2 g) : CSim p l e R s m args below meth c D base cells slots Q hs g := h ▸ k
theorem c_iconst (C : Cy p R s m args c own cc nL D cy base) {n : Int} (v : Int32) (hd : decode cc pc = .ok (.iconst n, 1)) (hv : Int32.ofInt n = v) (k : CSim p l e R s m args below meth c D base cells slots Q hs (F0 m (pc + 1) ls (.int v :: rest))) : CSim p l e R s m args below meth c D base cells slots Q hs (F0 m pc ls rest) := fun H locs hP hS => lv_iconst C.ex C.by hd hv (k H locs hP hS)
theorem c_bipush (C : Cy p R s m args c own cc nL D cy base) {n : Int} (v : Int32) (hd : decode cc pc = .ok (.bipush n, 2)) (hv : (Int8.ofInt n).toInt32 = v) (k : CSim p l e R s m args below meth c D base cells slots Q hs (F0 m (pc + 2) ls (.int v :: rest))) : CSim p l e R s m args below meth c D base cells slots Q hs (F0 m pc ls rest) := fun H locs hP hS => lv_bipush C.ex C.by hd hv (k H locs hP hS)
theorem c_sipush (C : Cy p R s m args c own cc nL D cy base) {n : Int} (v : Int32) (hd : decode cc pc = .ok (.sipush n, 3)) (hv : (Int16.ofInt n).toInt32 = v) (k : CSim p l e R s m args below meth c D base cells slots Q hs (F0 m (pc + 3) ls (.int v :: rest))) : CSim p l e R s m args below meth c D base cells slots Q hs (F0 m pc ls rest) := fun H locs hP hS => lv_sipush C.ex C.by hd hv (k H locs hP hS)
theorem c_lconst (C : Cy p R s m args c own cc nL D cy base) {n : Fin 2} (v : Int64) (hd : decode cc pc = .ok (.lconst n, 1)) (hv : Int64.ofNat (n : Nat) = v) (k : CSim p l e R s m args below meth c D base cells slots Q hs (F0 m (pc + 1) ls (.long v :: rest))) : CSim p l e R s m args below meth c D base cells slots Q hs (F0 m pc ls rest) := fun H locs hP hS => lv_lconst C.ex C.by hd hv (k H locs hP hS)
theorem c_aload_n (C : Cy p R s m args c own cc nL D cy base) {k : Fin 4} {i x : Nat} (hd : decode cc pc = .ok (.aload_n k, 1)) (hi : (k : Nat) = i) (hl : ls[i]? = some (.val (.ref x))) (kk : CSim p l e R s m args below meth c D base cells slots Q hs (F0 m (pc + 1) ls (.ref x :: rest))) : CSim p l e R s m args below meth c D base cells slots Q hs (F0 m pc ls rest) := fun H locs hP hS => lv_aload_n C.ex C.by hd hi hl (kk H locs hP hS)
theorem c_iload_n (C : Cy p R s m args c own cc nL D cy base) {k : Fin 4} {i : Nat} {x : Int32} (hd : decode cc pc = .ok (.iload_n k, 1)) (hi : (k : Nat) = i) (hl : ls[i]? = some (.val (.int x))) (kk : CSim p l e R s m args below meth c D base cells slots Q hs (F0 m (pc + 1) ls (.int x :: rest))) : CSim p l e R s m args below meth c D base cells slots Q hs (F0 m pc ls rest) := fun H locs hP hS => lv_iload_n C.ex C.by hd hi hl (kk H locs hP hS)
theorem c_istore_n (C : Cy p R s m args c own cc nL D cy base) {k : Fin 4} {i : Nat} {x : Int32} {lv lv2 : List (Nat × Value)} (hd : decode cc pc = .ok (.istore_n k, 1)) (hi : (k : Nat) = i) (h : lv_has ls nL lv) (hn : i < nL) (hl : (i, Value.int x) :: lv.filter (fun q => !(q.1 == i) && !(q.1 + 1 == i && q.2.category == 2)) = lv2) (kk : ∀ ls2 : Array Slot, lv_has ls2 nL lv2 → CSim p l e R s m args below meth c D base cells slots Q hs (F0 m (pc + 1) ls2 rest)) : CSim p l e R s m args below meth c D base cells slots Q hs (F0 m pc ls (.int x :: rest)) := fun H locs hP hS => lv_istore_n C.ex C.by hd hi h hn hl (fun ls2 hl2 => kk ls2 hl2 H locs hP hS)
theorem c_astore_n (C : Cy p R s m args c own cc nL D cy base) {k : Fin 4} {i x : Nat} {lv lv2 : List (Nat × Value)} (hd : decode cc pc = .ok (.astore_n k, 1)) (hi : (k : Nat) = i) (h : lv_has ls nL lv) (hn : i < nL) (hl : (i, Value.ref x) :: lv.filter (fun q => !(q.1 == i) && !(q.1 + 1 == i && q.2.category == 2)) = lv2) (kk : ∀ ls2 : Array Slot, lv_has ls2 nL lv2 → CSim p l e R s m args below meth c D base cells slots Q hs (F0 m (pc + 1) ls2 rest)) : CSim p l e R s m args below meth c D base cells slots Q hs (F0 m pc ls (.ref x :: rest)) := fun H locs hP hS => lv_astore_n C.ex C.by hd hi h hn hl (fun ls2 hl2 => kk ls2 hl2 H locs hP hS)
theorem c_iinc (C : Cy p R s m args c own cc nL D cy base) {i k : Nat} {n : Int} {x v : Int32} {lv lv2 : List (Nat × Value)} (hd : decode cc pc = .ok (.iinc i n, 3)) (h : lv_has ls nL lv) (hk : lv[k]? = some (i, .int x)) (hv : x + Int32.ofInt n = v) (hn : i < nL) (hl : (i, Value.int v) :: lv.filter (fun q => !(q.1 == i) && !(q.1 + 1 == i && q.2.category == 2)) = lv2) (kk : ∀ ls2 : Array Slot, lv_has ls2 nL lv2 → CSim p l e R s m args below meth c D base cells slots Q hs (F0 m (pc + 3) ls2 rest)) : CSim p l e R s m args below meth c D base cells slots Q hs (F0 m pc ls rest) := fun H locs hP hS => lv_iinc C.ex C.by hd h hk hv hn hl (fun ls2 hl2 => kk ls2 hl2 H locs hP hS)
theorem c_dup (C : Cy p R s m args c own cc nL D cy base) {va : Value} (hd : decode cc pc = .ok (.dup, 1)) (hva : va.category = 1) (k : CSim p l e R s m args below meth c D base cells slots Q hs (F0 m (pc + 1) ls (va :: va :: rest))) : CSim p l e R s m args below meth c D base cells slots Q hs (F0 m pc ls (va :: rest)) := fun H locs hP hS => lv_dup C.ex C.by hd hva (k H locs hP hS)
theorem c_goto (C : Cy p R s m args c own cc nL D cy base) {off : Int} {tgt : Nat} (hd : decode cc pc = .ok (.goto off, 3)) (ht : (pc : Int) + off = (tgt : Int)) (k : CSim p l e R s m args below meth c D base cells slots Q hs (F0 m tgt ls rest)) : CSim p l e R s m args below meth c D base cells slots Q hs (F0 m pc ls rest) := fun H locs hP hS => lv_goto C.ex C.by hd ht (k H locs hP hS)
theorem c_icmp_ge (C : Cy p R s m args c own cc nL D cy base) {x y : Int32} {off : Int} {tgt : Nat} (hd : decode cc pc = .ok (.if_icmp .ge off, 3)) (ht : (pc : Int) + off = (tgt : Int)) (kt : y ≤ x → CSim p l e R s m args below meth c D base cells slots Q hs (F0 m tgt ls rest)) (kf : ¬ y ≤ x → CSim p l e R s m args below meth c D base cells slots Q hs (F0 m (pc + 3) ls rest)) : CSim p l e R s m args below meth c D base cells slots Q hs (F0 m pc ls (.int y :: .int x :: rest)) := fun H locs hP hS => lv_icmp_ge C.ex C.by hd ht (fun h => kt h H locs hP hS) (fun h => kf h H locs hP hS)
theorem c_obj (C : Cy p R s m args c own cc nL D cy base) {idx a : Nat} (w1 : Cond.methodLink own idx Lib.objectInit ∈ gw) (w2 : Cond.instanceMethod Lib.objectInit ∈ gw) (w3 : Cond.code Lib.objectInit ⟨#[0xb1]⟩ 1 none ∈ gw) (hl : ls.size = nL) (hd : decode cc pc = .ok (.invokespecial idx, 3)) (hR : 1 ≤ R.frames) (hR2 : (rest.map fun v => v.category).sum + 12 ≤ R.locals) (k : CSim p l e R s m args below meth c D base cells slots Q hs (F0 m (pc + 3) ls rest)) : CSim p l e R s m args below meth c D base cells slots Q hs (F0 m pc ls (.ref a :: rest)) := fun H locs hP hS => W.objInit C.ex C.by C.ow (C.ts _ w1) (C.ts _ w2) (C.ts _ w3) rfl (hl.trans C.2.2.1.symm) rfl hd hR (by show 2 * 0 + _ + 12 ≤ _; omega) (k H locs hP hS)
theorem g_at {pre L : List va_E} {n j : Nat} {e1 : va_E} (hpre : pre.length = n) (h : L[j]? = some e1) : (pre ++ L)[n + j]? = some e1 := by
  rw [List.getElem?_append_right (by omega), ← hpre, Nat.add_sub_cancel_left]; exact h
theorem s_at {pre L L2 : List va_E} {n j : Nat} {e1 : va_E} (hpre : pre.length = n) (h : L.set j e1 = L2) : (pre ++ L).set (n + j) e1 = pre ++ L2 := by
  rw [List.set_append_right _ _ (by omega), ← hpre, Nat.add_sub_cancel_left, h]
theorem len_at {pre L : List va_E} {n j : Nat} (hpre : pre.length = n) (h : L.length = j) : (pre ++ L).length = n + j := by rw [List.length_append, hpre, h]
theorem g_this (pre : List va_E) (o : va_E) (l : List va_E) : (pre ++ o :: l)[pre.length]? = some o := by simp
theorem s_this (pre : List va_E) (o o2 : va_E) (l : List va_E) : (pre ++ o :: l).set pre.length o2 = pre ++ o2 :: l := by
  rw [List.set_append_right _ _ (Nat.le_refl _), Nat.sub_self]; rfl
theorem c_get (C : Cy p R s m args c own cc nL D cy base) {ci N index k : Nat} {Cn ref : String} {T : u_T} {fs : List Value} (hg : hs[k]? = some (.inr (ci, fs))) (hin : ∀ w ∈ u_ws Cn T N, w ∈ gw) (hc : vwCl[ci]? = some (Cn, T, N)) (j : Nat) (hj : j < N) (hw : Cond.fieldLink own index ref (T j).2.1 (T j).2.2.1 ∈ gw) (hsame : (T j).1 = ref) {v : Value} (hv : fs[j]? = some v) (hd : decode cc pc = .ok (.getfield index, 3)) (kk : CSim p l e R s m args below meth c D base cells slots Q hs (F0 m (pc + 3) ls (v :: rest))) : CSim p l e R s m args below meth c D base cells slots Q hs (F0 m pc ls (.ref (base + k) :: rest)) :=
  fun H locs hP hS => va_get C.ex C.by C.ts hin C.ow C.K hP k (wl_at hg) hc j hj (C.ts _ hw) (fun x hx => by rw [← hsame]; exact hx) hv hd (kk H locs hP hS)
theorem c_putF (C : Cy p R s m args c own cc nL D cy base) {ci N index k : Nat} {Cn ref : String} {T : u_T} {ty0 : Nat → FieldType} {fs : List Value} {h2 : List va_E} {v : Value} (hg : hs[k]? = some (.inr (ci, fs))) (j : Nat) (h2e : hs.set k (.inr (ci, fs.set j v)) = h2) (hin : ∀ w ∈ u_ws Cn T N, w ∈ gw) (hc : vwCl[ci]? = some (Cn, T, N)) (hty : ∀ k, k < N → parseFieldDescriptor (T k).2.2.1 = some (ty0 k)) (hnm : ∀ a, a < N → ∀ b, b < N → a ≠ b → (T a).2.1 ≠ (T b).2.1) (hj : j < N) (hw : Cond.fieldLink own index ref (T j).2.1 (T j).2.2.1 ∈ gw) (hsame : (T j).1 = ref) (hfin : (T j).2.2.2 = true) (hin2 : meth.name = "<init>") (hdecl : (T j).1 = own) {ty : FieldType} (hd1 : parseFieldDescriptor (T j).2.2.1 = some ty) (hn : narrow ty v = v) (hfit : fits ty v = true) (hl : j < fs.length) (hd : decode cc pc = .ok (.putfield index, 3)) (kk : CSim p l e R s m args below meth c D base cells slots Q h2 (F0 m (pc + 3) ls rest)) : CSim p l e R s m args below meth c D base cells slots Q hs (F0 m pc ls (v :: .ref (base + k) :: rest)) :=
  fun H locs hP hS => va_putF C.ex C.by C.ts hin ty0 hty hnm C.ow C.K hP (wl_D base hs) hS k (wl_at hg) hc j hj (C.ts _ hw) (fun x hx => by rw [← hsame]; exact hx) hfin hin2 hdecl hd1 hn hfit hl hd (fun H1 locs1 hP1 _ hS1 => kk H1 locs1 (by rw [wl_set, h2e] at hP1; exact hP1) hS1)
theorem c_put (C : Cy p R s m args c own cc nL D cy base) {ci N index k : Nat} {Cn ref : String} {T : u_T} {ty0 : Nat → FieldType} {fs : List Value} {h2 : List va_E} {v : Value} (hg : hs[k]? = some (.inr (ci, fs))) (j : Nat) (h2e : hs.set k (.inr (ci, fs.set j v)) = h2) (hin : ∀ w ∈ u_ws Cn T N, w ∈ gw) (hc : vwCl[ci]? = some (Cn, T, N)) (hty : ∀ k, k < N → parseFieldDescriptor (T k).2.2.1 = some (ty0 k)) (hnm : ∀ a, a < N → ∀ b, b < N → a ≠ b → (T a).2.1 ≠ (T b).2.1) (hj : j < N) (hw : Cond.fieldLink own index ref (T j).2.1 (T j).2.2.1 ∈ gw) (hsame : (T j).1 = ref) (hfin : (T j).2.2.2 = false) {ty : FieldType} (hd1 : parseFieldDescriptor (T j).2.2.1 = some ty) (hn : narrow ty v = v) (hfit : fits ty v = true) (hl : j < fs.length) (hd : decode cc pc = .ok (.putfield index, 3)) (kk : CSim p l e R s m args below meth c D base cells slots Q h2 (F0 m (pc + 3) ls rest)) : CSim p l e R s m args below meth c D base cells slots Q hs (F0 m pc ls (v :: .ref (base + k) :: rest)) :=
  fun H locs hP hS => va_put C.ex C.by C.ts hin ty0 hty hnm C.ow C.K hP (wl_D base hs) hS k (wl_at hg) hc j hj (C.ts _ hw) (fun x hx => by rw [← hsame]; exact hx) hfin hd1 hn hfit hl hd (fun H1 locs1 hP1 _ hS1 => kk H1 locs1 (by rw [wl_set, h2e] at hP1; exact hP1) hS1)
theorem W_sized {H : Heap} {locs : List Loc} {g : JFrame} (k : H.size ≤ s.heap.size + cells → W p l e R s m args below meth c H locs cells slots Q g) : W p l e R s m args below meth c H locs cells slots Q g := fun T hT X => k (by rw [← hT]; exact X.same.2.2.1) T hT X
theorem wl_size (C : Cy p R s m args c own cc nL D cy base) {H : Heap} {locs : List Loc} (hP : va_P D vwCl (wl base hs) H) (hS : va_S (AA base) s.heap H locs) (hz : s.heap.size + cells = base + hs.length) (hle : H.size ≤ s.heap.size + cells) : H.size = base + hs.length := by
  have hge : base + hs.length ≤ H.size := by
    by_cases h0 : hs.length = 0
    · rw [h0]
      exact Nat.le_trans C.2.2.2.2.2.2 hS.1
    · have hl : hs.length - 1 < hs.length := by omega
      have h1 := (hP _ _ (wl_at (List.getElem?_eq_getElem hl))).lt
      have h2 : base + (hs.length - 1) < H.size := h1
      omega
  omega
theorem wl_push {H H1 : Heap} {e1 : va_E} (hP : va_P D vwCl (wl base hs) H) (hz : H.size = base + hs.length) (ho : ∀ q, q < H.size → H1[q]? = H[q]?) (he : va_at D vwCl (base + hs.length, e1) H1) : va_P D vwCl (wl base (hs ++ [e1])) H1 := by
  rw [← wl_app]
  refine va_P.app (hP.kept (fun k x hx => ho x.1 ((hP k x hx).lt))) (fun k x hx => ?_)
  have hk : k < 1 := (List.getElem?_eq_some_iff.mp hx).1
  rw [show k = 0 by omega] at hx
  cases hx
  exact he
theorem va_S_new {H H1 : Heap} {locs : List Loc} (hS : va_S (AA base) s.heap H locs) (h1 : H.size ≤ H1.size) (ho : ∀ q, q < H.size → H1[q]? = H[q]?) : va_S (AA base) s.heap H1 locs := ⟨Nat.le_trans hS.1 h1, fun q h2 h3 => (ho q (Nat.lt_of_lt_of_le h2 hS.1)).trans (hS.2.1 q h2 h3), hS.2.2⟩
theorem c_newaC (C : Cy p R s m args c own cc nL D cy base) {atype : ArrayType} {ty : FieldType} {v : Int32} {N tq : Nat} {cA : ClassId} {a0 : vp_A} (hty : newarray.typeOf atype = ty) (w : Cond.arrayClass ty ∈ gw) (ht : (tys cy)[tq]? = some (cA, ty)) (hnm : va_RA s cA ty = (s.vm.findClass ("[" ++ ty.toString) = some cA)) (ha : ∀ cA : ClassId, vp_cell cA a0 = arrV cA N (fun _ => defaultValue ty)) (hn : ¬ v < 0) (hN : v.toNatClampNeg = N) (hb : N * componentBytes ty ≤ 536870912) (q : Nat) (hq : hs.length = q) (hz : s.heap.size + cells = base + q) (hc : cells + 1 ≤ R.cells) (hsl : slots + N ≤ R.slots) (hd : decode cc pc = .ok (.newarray atype, 2)) (kk : CSim p l e R s m args below meth c D base (cells + 1) (slots + N) Q (hs ++ [.inl (cA, a0)]) (F0 m (pc + 2) ls (.ref (base + q) :: rest))) : CSim p l e R s m args below meth c D base cells slots Q hs (F0 m pc ls (.int v :: rest)) := by
  subst hq
  intro H locs hP hS
  refine W_sized (fun hle => ?_)
  have hsz := wl_size C hP hS hz hle
  subst hty
  refine va_newaK C.ex C.by (C.ts _ w) rfl hd rfl hn hN hb hc hsl hsz fun H1 cB e1 z1 o1 hAr hNm => ?_
  have h1 : s.vm.findClass ("[" ++ (newarray.typeOf atype).toString) = some cA := by rw [← hnm]; exact (C.K.2 tq _ ht).2
  have h2 : cB = cA := Option.some.inj (hNm.symm.trans h1)
  subst h2
  have ho : ∀ q, q < H.size → H1[q]? = H[q]? := fun q hq => o1 q (by omega)
  refine kk H1 locs (wl_push hP hsz ho ?_) (va_S_new hS (by omega) ho)
  show H1[base + hs.length]? = some (vp_cell _ _)
  rw [ha]
  exact e1
theorem c_newI (C : Cy p R s m args c own cc nL D cy base) {v : Int32} {N : Nat} (w : Cond.arrayClass .int ∈ gw) (hn : ¬ v < 0) (hN : v.toNatClampNeg = N) (hb : N * 4 ≤ 536870912) (q : Nat) (hq : hs.length = q) (hz : s.heap.size + cells = base + q) (hc : cells + 1 ≤ R.cells) (hsl : slots + N ≤ R.slots) (hd : decode cc pc = .ok (.newarray .int, 2)) (kk : CSim p l e R s m args below meth c D base (cells + 1) (slots + N) Q (hs ++ [.inl (cy 0, N, .inl (fun _ => 0))]) (F0 m (pc + 2) ls (.ref (base + q) :: rest))) : CSim p l e R s m args below meth c D base cells slots Q hs (F0 m pc ls (.int v :: rest)) := c_newaC C (atype := .int) rfl w (tq := 0) rfl rfl (fun _ => rfl) hn hN hb q hq hz hc hsl hd kk
theorem c_newJ (C : Cy p R s m args c own cc nL D cy base) {v : Int32} {N : Nat} (w : Cond.arrayClass .long ∈ gw) (hn : ¬ v < 0) (hN : v.toNatClampNeg = N) (hb : N * 8 ≤ 536870912) (q : Nat) (hq : hs.length = q) (hz : s.heap.size + cells = base + q) (hc : cells + 1 ≤ R.cells) (hsl : slots + N ≤ R.slots) (hd : decode cc pc = .ok (.newarray .long, 2)) (kk : CSim p l e R s m args below meth c D base (cells + 1) (slots + N) Q (hs ++ [.inl (cy 1, N, .inr (.inl (fun _ => 0)))]) (F0 m (pc + 2) ls (.ref (base + q) :: rest))) : CSim p l e R s m args below meth c D base cells slots Q hs (F0 m pc ls (.int v :: rest)) := c_newaC C (atype := .long) rfl w (tq := 1) rfl rfl (fun _ => rfl) hn hN hb q hq hz hc hsl hd kk
theorem c_newZ (C : Cy p R s m args c own cc nL D cy base) {v : Int32} {N : Nat} (w : Cond.arrayClass .boolean ∈ gw) (hn : ¬ v < 0) (hN : v.toNatClampNeg = N) (hb : N * 1 ≤ 536870912) (q : Nat) (hq : hs.length = q) (hz : s.heap.size + cells = base + q) (hc : cells + 1 ≤ R.cells) (hsl : slots + N ≤ R.slots) (hd : decode cc pc = .ok (.newarray .boolean, 2)) (kk : CSim p l e R s m args below meth c D base (cells + 1) (slots + N) Q (hs ++ [.inl (cy 2, N, .inl (fun _ => 0))]) (F0 m (pc + 2) ls (.ref (base + q) :: rest))) : CSim p l e R s m args below meth c D base cells slots Q hs (F0 m pc ls (.int v :: rest)) := c_newaC C (atype := .boolean) rfl w (tq := 2) rfl rfl (fun _ => rfl) hn hN hb q hq hz hc hsl hd kk
theorem c_new (C : Cy p R s m args c own cc nL D cy base) {ci N index : Nat} {Cn : String} {T : u_T} {ty0 : Nat → FieldType} {fs : List Value} (hin : ∀ w ∈ u_ws Cn T N, w ∈ gw) (hc : vwCl[ci]? = some (Cn, T, N)) (hty : ∀ k, k < N → parseFieldDescriptor (T k).2.2.1 = some (ty0 k)) (hfs : ∀ j, j < N → defaultValue (ty0 j) = vp_V fs j) (w1 : Cond.classLink own index Cn ∈ gw) (w2 : Cond.instantiable Cn N ∈ gw) (w3 : Cond.initialized Cn ∈ gw) (q : Nat) (hq : hs.length = q) (hz : s.heap.size + cells = base + q) (hcl : cells + 1 ≤ R.cells) (hsl : slots + N ≤ R.slots) (hd : decode cc pc = .ok (.new index, 3)) (kk : CSim p l e R s m args below meth c D base (cells + 1) (slots + N) Q (hs ++ [.inr (ci, fs)]) (F0 m (pc + 3) ls (.ref (base + q) :: rest))) : CSim p l e R s m args below meth c D base cells slots Q hs (F0 m pc ls rest) := by
  subst hq
  intro H locs hP hS
  refine W_sized (fun hle => ?_)
  have hsz := wl_size C hP hS hz hle
  have hKn := C.K.1 ci _ hc
  refine W.newcK C.ex C.by C.ow (C.ts _ w1) (C.ts _ w2) (C.ts _ w3) rfl hd hcl hsl hKn.2.1 hsz fun H1 kC hkC e1 z1 o1 => ?_
  have ho : ∀ q, q < H.size → H1[q]? = H[q]? := fun q hq => o1 q (by omega)
  exact kk H1 locs (wl_push hP hsz ho ⟨_, hc, (u_born ty0 C.ts hin hKn hkC e1 hty).to hfs⟩) (va_S_new hS (by omega) ho)
theorem c_newq (C : Cy p R s m args c own cc nL D cy base) {index tq : Nat} {Cn : String} {v : Int32} {N : Nat} {cA : ClassId} (w1 : Cond.classLink own index Cn ∈ gw) (hover : va_AO Cn s) (ht : (tys cy)[tq]? = some (cA, .object Cn)) (hn : ¬ v < 0) (hN : v.toNatClampNeg = N) (hb : N * 4 ≤ 536870912) (q : Nat) (hq : hs.length = q) (hz : s.heap.size + cells = base + q) (hc : cells + 1 ≤ R.cells) (hsl : slots + N ≤ R.slots) (hd : decode cc pc = .ok (.anewarray index, 3)) (kk : CSim p l e R s m args below meth c D base (cells + 1) (slots + N) Q (hs ++ [.inl (cA, N, .inr (.inr (.inr (.inr (fun _ => none)))))]) (F0 m (pc + 3) ls (.ref (base + q) :: rest))) : CSim p l e R s m args below meth c D base cells slots Q hs (F0 m pc ls (.int v :: rest)) := by
  subst hq
  intro H locs hP hS
  refine W_sized (fun hle => ?_)
  have hsz := wl_size C hP hS hz hle
  subst hN
  refine W.anew C.ex C.by C.ow (C.ts _ w1) (va_AO.use hover) rfl hd rfl hn hb hc hsl fun cB kA comp f1 f2 f3 f4 => ?_
  have hRA : va_RA s cA (.object Cn) := (C.K.2 tq _ ht).2
  obtain ⟨kA2, comp2, a1, a2, a3, a4⟩ := hRA
  have h2 : cB = cA := Option.some.inj (f1.symm.trans a4)
  subst h2
  generalize hH1 : H.push ({ cls := cB, slots := Array.replicate v.toNatClampNeg .null, vm := .none } : Cell) = H1
  have z1 : H1.size = H.size + 1 := by rw [← hH1, Array.size_push]
  have e1 : H1[H.size]? = some (arrV cB v.toNatClampNeg (fun _ => .null)) := by rw [← hH1, Array.getElem?_push_size, ← arrV_new]
  have o1 : ∀ q : Nat, q < H.size → H1[q]? = H[q]? := fun q hq => by rw [← hH1, Array.getElem?_push, if_neg (Nat.ne_of_lt hq)]
  have key := kk H1 locs (wl_push hP hsz o1 (by show H1[base + hs.length]? = some (vp_cell _ _); rw [vp_cell_q, ← hsz]; exact e1)) (va_S_new hS (by omega) o1)
  rw [hsz]
  exact key
theorem wl_rows {H H1 : Heap} {e1 : va_E} (n : Nat) (hP : va_P D vwCl (wl base hs) H1) (he : ∀ j, j < n → va_at D vwCl (base + (hs.length + j), e1) H1) : va_P D vwCl (wl base (hs ++ List.replicate n e1)) H1 := by
  intro k x hx
  rw [wl_get] at hx
  by_cases hk : k < hs.length
  · rw [List.getElem?_append_left hk] at hx
    exact hP k x (by rw [wl_get]; exact hx)
  · rw [List.getElem?_append_right (by omega), List.getElem?_replicate] at hx
    split at hx
    · next hk2 =>
      cases hx
      have h1 := he (k - hs.length) hk2
      rw [show hs.length + (k - hs.length) = k by omega] at h1
      exact h1
    · cases hx
theorem arrV_congr {cA : ClassId} {N : Nat} {f g : Nat → Value} (h : ∀ j, j < N → f j = g j) : arrV cA N f = arrV cA N g := by
  unfold arrV
  congr 1
  apply Array.ext
  · simp
  · intro i h1 h2
    simp only [Array.getElem_ofFn]
    exact h i (by simpa using h1)
theorem outer_eq (c : ClassId) (N h0 : Nat) : ∀ i : Nat, Jvm.Free.Multi.outerC c N h0 i = arrV c N (fun j => va_rf (if j < i then some (h0 + 1 + j) else none))
  | 0 => by
    show ({ cls := c, slots := Array.replicate N .null, vm := .none } : Cell) = _
    rw [arrV_new]
    refine congrArg (arrV c N) (funext fun j => ?_)
    simp [va_rf]
  | i + 1 => by
    show (Jvm.Free.Multi.outerC c N h0 i).setSlot i (.ref (h0 + 1 + i)) = _
    rw [outer_eq c N h0 i, arrV_store]
    refine congrArg (arrV c N) (funext fun j => ?_)
    by_cases e : j = i
    · subst e
      simp [updV, va_rf]
    · by_cases h : j < i
      · simp [updV, e, h, Nat.lt_succ_of_lt h]
      · simp [updV, e, h, show ¬ j < i + 1 by omega]
theorem c_mna (C : Cy p R s m args c own cc nL D cy base) {index t0 t1 : Nat} {ty : FieldType} {v w : Int32} {N M : Nat} {cA cB : ClassId} {z : vp_A} (w1 : Cond.classLink own index ("[" ++ (FieldType.array ty).toString) ∈ gw) (w2 : Cond.arrayClass ty ∈ gw) (hover : (Cond.arrayOver (.array ty)).before args s = true) (ht0 : (tys cy)[t0]? = some (cA, .array ty)) (ht1 : (tys cy)[t1]? = some (cB, ty)) (hnm : va_RA s cB ty = (s.vm.findClass ("[" ++ ty.toString) = some cB)) (hts : (FieldType.array ty).toString = "[" ++ ty.toString) (hn : ¬ v < 0) (hm : ¬ w < 0) (hN : v.toNatClampNeg = N) (hM : w.toNatClampNeg = M) (hb1 : N * 4 ≤ 536870912) (hb2 : M * componentBytes ty ≤ 536870912) (hb3 : M ≤ 536870912) (hdf : fits ty (defaultValue ty) = true) (hdd : (defaultValue ty).isDefault = true) (hi : ∀ c : ClassId, Jvm.Free.Multi.innerC c M (defaultValue ty) = vp_cell c z) (q : Nat) (hq : hs.length = q) (hz : s.heap.size + cells = base + q) (hc : cells + (1 + N) ≤ R.cells) (hsl : slots + (N + N * M) ≤ R.slots) (hd : decode cc pc = .ok (.multianewarray index 2, 4)) (kk : CSim p l e R s m args below meth c D base (cells + 1 + N) (slots + N + N * M) Q (hs ++ ([.inl (cA, N, .inr (.inr (.inr (.inr (fun i => some (base + (q + 1 + i)))))))] ++ List.replicate N (.inl (cB, z)))) (F0 m (pc + 4) ls (.ref (base + q) :: rest))) : CSim p l e R s m args below meth c D base cells slots Q hs (F0 m pc ls (.int w :: .int v :: rest)) := by
  subst hq
  intro H locs hP hS
  refine W_sized (fun hle => ?_)
  have hsz := wl_size C hP hS hz hle
  subst hN
  subst hM
  intro T hT Xs
  obtain ⟨vm₁, cA2, comp, -, fA, fC, hO, -, X', step⟩ := Xs.multianewarray2F C.ex C.ow (C.ts _ w1) hover (C.ts _ w2) (g := F0 m pc ls (.int w :: .int v :: rest)) rfl (by rw [C.by]; exact hd) rfl hn hm hb1 hb2 hb3 hdf hdd hc hsl
  have e1 : s.vm.findClass ("[" ++ (FieldType.array ty).toString) = some cA := (C.K.2 t0 _ ht0).2
  have e2 : s.vm.findClass ("[" ++ ty.toString) = some cB := by rw [← hnm]; exact (C.K.2 t1 _ ht1).2
  have q1 : cA2 = cA := Option.some.inj (fA.symm.trans e1)
  have q2 : comp = cB := Option.some.inj (fC.symm.trans (by rw [hts]; exact e2))
  subst q1; subst q2
  generalize hF : Jvm.Free.Multi.fill (T.setVm vm₁) cA2 comp v.toNatClampNeg w.toNatClampNeg (defaultValue ty) v.toNatClampNeg = F at X' step
  have hTh : (T.setVm vm₁).heap = H := hT
  obtain ⟨f1, f2, -, -⟩ := Jvm.Free.Multi.fill_facts (T.setVm vm₁) cA2 comp v.toNatClampNeg w.toNatClampNeg (defaultValue ty) v.toNatClampNeg
  rw [hF, hTh] at f1 f2
  have hold : ∀ x : Nat, x < H.size → F.heap[x]? = H[x]? := fun x hx => by
    have := Jvm.Free.Multi.fill_old (T.setVm vm₁) cA2 comp v.toNatClampNeg w.toNatClampNeg (defaultValue ty) (a := x) (by rw [hTh]; exact hx) v.toNatClampNeg
    rw [hF, hTh] at this
    exact this
  have hrow : ∀ j : Nat, j < v.toNatClampNeg → F.heap[H.size + 1 + j]? = some (vp_cell comp z) := fun j hj => by
    have := Jvm.Free.Multi.fill_inner (T.setVm vm₁) cA2 comp v.toNatClampNeg w.toNatClampNeg (defaultValue ty) v.toNatClampNeg j hj
    rw [hF, hTh, hi] at this
    exact this
  have hP1 : va_P D vwCl (wl base (hs ++ [.inl (cA2, v.toNatClampNeg, .inr (.inr (.inr (.inr (fun i => some (base + (hs.length + 1 + i)))))))])) F.heap := by
    refine wl_push hP hsz hold ?_
    show F.heap[base + hs.length]? = some (vp_cell _ _)
    rw [vp_cell_q, ← hsz, f2, outer_eq]
    refine congrArg some (arrV_congr fun j hj => ?_)
    rw [if_pos hj]
    exact congrArg Value.ref (show (H.size + 1 + j : Nat) = base + (hs.length + 1 + j) by omega)
  have hP2 := wl_rows (H := H) v.toNatClampNeg hP1 (e1 := .inl (comp, z)) (fun j hj => by
    show F.heap[_]? = some (vp_cell _ _)
    have e9 : base + ((hs ++ [(Sum.inl (cA2, v.toNatClampNeg, .inr (.inr (.inr (.inr (fun i => some (base + (hs.length + 1 + i))))))) : va_E)]).length + j) = H.size + 1 + j := by rw [List.length_append, hsz]; show base + (hs.length + 1 + j) = _; omega
    rw [e9]
    exact hrow j hj)
  rw [List.append_assoc] at hP2
  obtain ⟨t, a1, b1⟩ := kk F.heap locs hP2 (va_S_new hS (by omega) hold) F rfl X'
  refine ⟨t, step t ?_, b1⟩
  have e : T.heap.size = base + hs.length := by rw [hT]; exact hsz
  rw [e]
  exact a1
theorem c_aast (C : Cy p R s m args c own cc nL D cy base) {k kv ci N tq n : Nat} {Cn : String} {T : u_T} {fs : List Value} {f : Nat → Option Nat} {cA : ClassId} {i : Int32} {h2 : List va_E} (hg : hs[k]? = some (.inl (cA, n, .inr (.inr (.inr (.inr f)))))) (ht : (tys cy)[tq]? = some (cA, .object Cn)) (hv : hs[kv]? = some (.inr (ci, fs))) (hc : vwCl[ci]? = some (Cn, T, N)) (hin : vp_in i n) (h2e : hs.set k (.inl (cA, n, .inr (.inr (.inr (.inr (va_up f i.toNatClampNeg (some (base + kv)))))))) = h2) (hd : decode cc pc = .ok (.aastore, 1)) (kk : CSim p l e R s m args below meth c D base cells slots Q h2 (F0 m (pc + 1) ls rest)) : CSim p l e R s m args below meth c D base cells slots Q hs (F0 m pc ls (.ref (base + kv) :: .int i :: .ref (base + k) :: rest)) :=
  fun H locs hP hS => va_astq C.ex C.by C.K hP (wl_D base hs) hS k tq kv ci (wl_at hg) ht (wl_at hv) hc hin hd (fun H1 locs1 hP1 _ hS1 => kk H1 locs1 (by rw [wl_set, h2e] at hP1; exact hP1) hS1)
abbrev QcC (D : va_G) (cy : Nat → ClassId) (base : Nat) (h2 : List va_E) : Array Value → State → Outcome → State → Prop := va_Qv (fun (h3 : List va_E) => h3 = h2) (WorldC D cy base) (AA base)
theorem c_vret (C : Cy p R s m args c own cc nL D cy base) (q : Nat) (hq : hs.length = q) (hz : s.heap.size + cells = base + q) (hr : meth.sig.returnType = none) (hk : meth.locks = false) (hd : decode cc pc = .ok (.return_, 1)) : CSim p l e R s m args below meth c D base cells slots (MQ below (QcC D cy base hs) args s cells slots (AA base)) hs (F0 m pc ls []) := by
  subst hq
  intro H locs hP hS
  refine W_sized (fun hle => ?_)
  have hsz := wl_size C hP hS hz hle
  exact W.vret C.ex C.by hr (fun t ht hW => ⟨⟨_, rfl, rfl, by show va_P _ _ _ t.heap; rw [ht]; exact hP, C.env.go hW, by rw [ht]; exact hsz⟩, hS.F ht⟩) hS.2.2 hd hk
theorem c_callI (C : Cy p R s m args c own cc nL D cy base) {n index maxL mc ms : Nat} {y : MethodName} {b2 : ByteArray} {rm : Room} {As st0 : List Value} {h2 : List va_E} {k : Nat} (q : Nat) (hq : hs.length = q) (hz : s.heap.size + cells = base + q) (hl : ls.size = nL) (hM : Met l y (wsY y b2 maxL none) rm (va_Pc (.ref (base + k) :: As) (WorldC D cy base hs)) (QcC D cy base h2) mc ms (AA base)) (hlk : (Cond.methodLink own index y ∈ gw)) (w2 : Cond.instanceMethod y ∈ gw) (w4 : Cond.initialized y.cls ∈ gw) (w5 : Cond.code y b2 maxL none ∈ gw) (hrc : rm.cells = mc) (hrs : rm.slots = ms) (hy1 : y.name = "<init>") (hd : y.cls ≠ "java/lang/invoke/MethodHandle" ∧ y.cls ≠ "java/lang/invoke/VarHandle" ∧ (parseMethodDescriptor y.desc).map (fun d => d.parameters.length) = some n) (hR : rm.frames + 1 ≤ R.frames ∧ 8 + (maxL + 11) + rm.locals ≤ R.locals) (hn : As.length = n) (hst : st0 = As.reverse ++ .ref (base + k) :: rest) (hroom : (rest.map fun v => v.category).sum ≤ 8) (hcl : cells + mc ≤ R.cells) (hsl : slots + ms ≤ R.slots) (hdg : decode cc pc = .ok (.invokespecial index, 3)) (kk : CSim p l e R s m args below meth c D base (cells + mc) (slots + ms) Q h2 (F0 m (pc + 3) ls rest)) : CSim p l e R s m args below meth c D base cells slots Q hs (F0 m pc ls st0) := by
  subst hq
  intro H locs hP hS
  refine W_sized (fun hle => ?_)
  have hsz := wl_size C hP hS hz hle
  refine va_callv (va_runI (As := As) (rest := rest) C.fix hM (cwI n C.ts (gdIn (fun w hw => (List.mem_cons.mp hw).elim (fun e => e ▸ w5) id)) rfl hrc hrs (C.ts _ w4) (C.ts _ hlk) (C.ts _ w2) hy1 hd hR) ⟨WorldC.blind, fun U hU hW => ⟨rfl, by show va_P _ _ _ U.heap; rw [hU]; exact hP, C.env.go hW, by rw [hU]; exact hsz⟩⟩ rfl hn hl hst (lv_room hroom) hdg ⟨hcl, hsl⟩) hS (fun _ _ h => h) (fun _ h => h) (fun u t H1 locs1 ht hvm hw hB _ _ hS1 => ?_)
  subst hw
  exact kk H1 locs1 (by rw [← ht]; exact hB.1) hS1
theorem c_callIN (C : Cy p R s m args c own cc nL D cy base) {n index maxL mc ms : Nat} {host : String} {y : MethodName} {b2 : ByteArray} {rm : Room} {As st0 : List Value} {h2 : List va_E} {k : Nat} (q : Nat) (hq : hs.length = q) (hz : s.heap.size + cells = base + q) (hl : ls.size = nL) (hM : Met l y (wsY y b2 maxL none) rm (va_Pc (.ref (base + k) :: As) (WorldC D cy base hs)) (QcC D cy base h2) mc ms (AA base)) (hlk : (Cond.methodLinkNest own index y host ∈ nw)) (w2 : Cond.instanceMethod y ∈ gw) (w4 : Cond.initialized y.cls ∈ gw) (w5 : Cond.code y b2 maxL none ∈ gw) (hrc : rm.cells = mc) (hrs : rm.slots = ms) (hy1 : y.name = "<init>") (hd : y.cls ≠ "java/lang/invoke/MethodHandle" ∧ y.cls ≠ "java/lang/invoke/VarHandle" ∧ (parseMethodDescriptor y.desc).map (fun d => d.parameters.length) = some n) (hR : rm.frames + 1 ≤ R.frames ∧ 8 + (maxL + 11) + rm.locals ≤ R.locals) (hn : As.length = n) (hst : st0 = As.reverse ++ .ref (base + k) :: rest) (hroom : (rest.map fun v => v.category).sum ≤ 8) (hcl : cells + mc ≤ R.cells) (hsl : slots + ms ≤ R.slots) (hdg : decode cc pc = .ok (.invokespecial index, 3)) (kk : CSim p l e R s m args below meth c D base (cells + mc) (slots + ms) Q h2 (F0 m (pc + 3) ls rest)) : CSim p l e R s m args below meth c D base cells slots Q hs (F0 m pc ls st0) := by
  subst hq
  intro H locs hP hS
  refine W_sized (fun hle => ?_)
  have hsz := wl_size C hP hS hz hle
  refine va_callv (va_runIN (As := As) (rest := rest) C.fix hM ⟨va_cnB n C.ts (gdIn (fun w hw => (List.mem_cons.mp hw).elim (fun e => e ▸ w5) id)) rfl hrc hrs (C.nest hlk) (C.ts _ w4) hd hR, hy1, C.ts _ w2⟩ ⟨WorldC.blind, fun U hU hW => ⟨rfl, by show va_P _ _ _ U.heap; rw [hU]; exact hP, C.env.go hW, by rw [hU]; exact hsz⟩⟩ rfl hn hl hst (lv_room hroom) hdg ⟨hcl, hsl⟩) hS (fun _ _ h => h) (fun _ h => h) (fun u t H1 locs1 ht hvm hw hB _ _ hS1 => ?_)
  subst hw
  exact kk H1 locs1 (by rw [← ht]; exact hB.1) hS1
theorem conC {y : MethodName} {maxL mc ms : Nat} {rm : Room} {As : List Value} {h2 : List va_E} (hy : plainName y.cls = true) (hlen : (lg_sl As).length ≤ maxL)
    (body : ∀ (p : Program) (e : Env) (s : State) (m : MethodId) (args : Array Value) (below : List Frame) (meth : Method) (c : Code) (ls : Array Slot), Cy p rm s m args c y.cls cc maxL D cy base → s.heap.size = base + hs.length → meth.sig.returnType = none → meth.locks = false → meth.name = y.name → lv_has ls maxL (lv_args 0 As) → CSim p l e rm s m args below meth c D base 0 0 (MQ below (QcC D cy base h2) args s mc ms (AA base)) hs (F0 m 0 ls [])) : Met l y (wsY y cc maxL none) rm (va_Pc As (WorldC D cy base hs)) (QcC D cy base h2) mc ms (AA base) := by
  refine Met.ofW (cc := cc) (maxL := maxL) (ret := none) hy rfl ?_
  intro p e s m args below meth c s₁ B hml hv
  obtain ⟨rfl, hw⟩ := hv
  have hts := atoms_spec (ws := wsY y cc maxL none) B.pre
  have C : Cy p rm s m As.toArray c y.cls cc maxL D cy base := ⟨B.exec, B.bytes, hml, findClass_of_methodNamed B.named, fun w h => hts w (List.mem_cons_of_mem _ h), hw.2.1, by rw [hw.2.2]; exact Nat.le_add_right _ _⟩
  have hl := lv_entry As (n := maxL) hlen
  rw [lg_entry_eq]
  exact body p e s m As.toArray below meth c _ C hw.2.2 B.returns B.notSynchronized (name_of_methodNamed B.named B.method).1 hl s.heap [] hw.1 va_S.rf
end CTOR
