section SIM3
variable {l : Launch} {D : va_G} {cy : Nat → ClassId} {base tS : Nat} {cc : ByteArray} {S : St}
/-- a body's walk gives the contract, also of a method in a class some of whose methods are run by entries -/
theorem MetofWF {y : MethodName} {ws ws2 : List Cond} {rm : Room} {Pc : Array Value → State → Prop} {Qc : Array Value → State → Outcome → State → Prop} {mc ms : Nat} {free : Addr → Prop} {maxL : Nat} {ret : Option FieldType} (hy : plainFor y = true) (hw : ws = Cond.code y cc maxL ret :: ws2)
    (body : ∀ p e s m args below meth c s₁, BodyLoose p l y (headSpec ws rm) cc maxL ret e s m args below meth c s₁ → c.maxLocals = maxL → Pc args s → W p l e (headSpec ws rm).room s m args below meth c s.heap [] 0 0 (MQ below Qc args s mc ms free) (entryFrame m args maxL)) : Met l y ws rm Pc Qc mc ms free := by
  refine MetFree.of_bodySF (code := cc) (maxLocals := maxL) (ret := ret) hy ?_ ?_
  · intro args s m h hn
    obtain ⟨meth, c, h1, h2, h3, h4, h5, h6, -, -⟩ := Cond.code_spec hn (atoms_spec (ws := ws) h _ (by rw [hw]; exact List.mem_cons_self))
    exact ⟨meth, c, h1, h2, h3, h4, h5, h6⟩
  · intro p e s m args below meth c s₁ B hml hP _
    have hh0 : s₁.heap = s.heap := by rw [B.state]; rfl
    obtain ⟨t, a1, o, b1, b2, b3⟩ := body p e s m args below meth c s₁ B hml hP s₁ hh0 (Stand.of_body B)
    exact ⟨t, o, a1, b1, b2, ⟨b3.1, b3.2⟩⟩
theorem conIF {y : MethodName} {maxL : Nat} {ret : Option FieldType} {rm : Room} {As : List Value} {o : Option (St × Int32)} (hrc : rm.cells = 0) (hrs : rm.slots = 0) (hy : plainFor y = true) (hlen : (lg_sl As).length ≤ maxL)
    (body : ∀ (p : Program) (e : Env) (s : State) (m : MethodId) (args : Array Value) (below : List Frame) (meth : Method) (c : Code) (ls : Array Slot), Cx p rm s m args c y.cls cc maxL D cy base tS 0 0 → meth.sig.returnType = ret → meth.locks = false → lv_has ls maxL (lv_args 0 As) → Sim p l e rm s m args below meth c D cy base 0 0 (fun S1 r => MQ below (QcI D cy base tS S1 r) args s 0 0 (AA base)) o S (F0 m 0 ls [])) {S1 : St} {r1 : Int32} (h : o = some (S1, r1)) : Met l y (wsY y cc maxL ret) rm (va_Pc As (World D cy base tS S)) (QcI D cy base tS S1 r1) 0 0 (AA base) := by
  refine MetofWF (cc := cc) (maxL := maxL) (ret := ret) hy rfl ?_
  intro p e s m args below meth c s₁ B hml hv
  obtain ⟨rfl, hw⟩ := hv
  have hts := atoms_spec (ws := wsY y cc maxL ret) B.pre
  have C : Cx p rm s m As.toArray c y.cls cc maxL D cy base tS 0 0 := ⟨B.exec, B.bytes, hml, findClass_of_methodNamed B.named, fun w h => hts w (List.mem_cons_of_mem _ h), hw.2, Nat.zero_le _, Nat.zero_le _⟩
  have hl := lv_entry As (n := maxL) hlen
  rw [lg_entry_eq]
  exact body p e s m As.toArray below meth c _ C B.returns B.notSynchronized hl S1 r1 h s.heap [] hw.1 va_S.rf
end SIM3
