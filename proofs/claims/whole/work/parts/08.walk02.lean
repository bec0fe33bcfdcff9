abbrev rm_X2_isOverfilled : Room := { frames := 0, cells := 0, slots := 0, locals := 0 }
set_option maxHeartbeats 4000000 in
set_option maxRecDepth 100000 in
theorem lp_X2_isOverfilled_2 {p : Program} {l : Launch} {e : Env} {s : State} {m : MethodId} {args : Array Value} {below : List Frame} {meth : Method} {c : Code} {D : va_G} {cy : Nat → ClassId} {base tS : Nat} {ls : Array Slot} (C : Cx p rm_X2_isOverfilled s m args c RX2 cX2_isOverfilled 2 D cy base tS 0 0) (hr : meth.sig.returnType = (some .boolean)) (hk : meth.locks = false) {k0 : Nat} (t0 : cls k0 = 2) {K : St → Int32 → Option (St × Int32)} (hK : ∀ (S : St) (v1 : Int32) (ls : Array Slot), lv_has ls 2 [(0, .ref (base + k0)), (1, .int v1)] → Sim p l e rm_X2_isOverfilled s m args below meth c D cy base 0 0 (fun S1 r => MQ below (QcI D cy base tS S1 r) args s 0 0 (AA base)) (K S v1) S (F0 m 32 ls [])) : ∀ (n : Nat) (S : St) (v1 : Int32) (ls : Array Slot), lv_has ls 2 [(0, .ref (base + k0)), (1, .int v1)] → Sim p l e rm_X2_isOverfilled s m args below meth c D cy base 0 0 (fun S1 r => MQ below (QcI D cy base tS S1 r) args s 0 0 (AA base)) (X2_isOverfilled_2 k0 K n S v1) S (F0 m 2 ls []) := by
  intro n
  induction n with
  | zero => intro S v1 ls hl; exact Sim.none
  | succ n ih =>
    intro S v1 ls hl
    rw [X2_isOverfilled_2]
    refine r_iload_n (pc := 2) C dX2_isOverfilled_2 rfl (lv_at hl 1 rfl) ?_
    refine r_aload_n (pc := 3) C dX2_isOverfilled_3 rfl (lv_at hl 0 rfl) ?_
    refine gf_X2_22 (pc := 4) C t0 dX2_isOverfilled_4 ?_
    have t21 := ft_2_0 t0
    refine gf_X2_32 (pc := 7) C t21 dX2_isOverfilled_7 ?_
    refine r_icmp_ge (pc := 10) C (tgt := 32) dX2_isOverfilled_10 (by decide) (fun _ => ?_) (fun _ => ?_)
    · exact hK S v1 _ (lv_sub hl [0, 1] rfl)
    · refine r_aload_n (pc := 13) C dX2_isOverfilled_13 rfl (lv_at hl 0 rfl) ?_
      refine gf_X2_9 (pc := 14) C t0 dX2_isOverfilled_14 ?_
      have t22 := ft_2_1 t0
      refine r_iload_n (pc := 17) C dX2_isOverfilled_17 rfl (lv_at hl 1 rfl) ?_
      refine r_iald (pc := 18) C t22 dX2_isOverfilled_18 ?_
      refine r_ldc (pc := 19) C (1000000 : Int32) wd_119 dX2_isOverfilled_19 ?_
      refine r_icmp_le (pc := 21) C (tgt := 26) dX2_isOverfilled_21 (by decide) (fun _ => ?_) (fun _ => ?_)
      · refine r_iinc (pc := 26) C (k := 1) (1 : Int32) (fun v23 => [(1, .int v23), (0, .ref (base + k0))]) dX2_isOverfilled_26 hl rfl (by decide) (Nat.le_of_ble_eq_true rfl) (fun _ => rfl) (fun v23 ls hl => ?_)
        refine r_goto (pc := 29) C (tgt := 2) dX2_isOverfilled_29 (by decide) ?_
        exact ih S v23 _ (lv_sub hl [1, 0] rfl)
      · refine r_iconst (pc := 24) C (1 : Int32) dX2_isOverfilled_24 (by decide) ?_
        exact r_zret (pc := 25) C rfl hr hk dX2_isOverfilled_25

set_option maxHeartbeats 4000000 in
set_option maxRecDepth 100000 in
theorem sm_X2_isOverfilled {p : Program} {l : Launch} {e : Env} {s : State} {m : MethodId} {args : Array Value} {below : List Frame} {meth : Method} {c : Code} {D : va_G} {cy : Nat → ClassId} {base tS : Nat} {S : St} {k0 : Nat} {ls : Array Slot} (C : Cx p rm_X2_isOverfilled s m args c RX2 cX2_isOverfilled 2 D cy base tS 0 0) (hr : meth.sig.returnType = (some .boolean)) (hk : meth.locks = false) (t0 : cls k0 = 2) (hl : lv_has ls 2 [(0, .ref (base + k0))]) : Sim p l e rm_X2_isOverfilled s m args below meth c D cy base 0 0 (fun S1 r => MQ below (QcI D cy base tS S1 r) args s 0 0 (AA base)) (X2_isOverfilled S k0) S (F0 m 0 ls []) := by
  unfold X2_isOverfilled
  refine r_iconst (pc := 0) C (0 : Int32) dX2_isOverfilled_0 (by decide) ?_
  refine r_istore_n (lv2 := [(1, .int (0 : Int32)), (0, .ref (base + k0))]) (pc := 1) C dX2_isOverfilled_1 rfl hl (Nat.le_of_ble_eq_true rfl) rfl (fun ls hl => ?_)
  refine lp_X2_isOverfilled_2 (ls := ls) C hr hk t0 (fun S24 v25 ls hl => ?_) FU S (0 : Int32) _ (lv_sub hl [1, 0] rfl)
  refine r_iconst (pc := 32) C (0 : Int32) dX2_isOverfilled_32 (by decide) ?_
  exact r_zret (pc := 33) C rfl hr hk dX2_isOverfilled_33

theorem ct_X2_isOverfilled (l : Launch) {D : va_G} {cy : Nat → ClassId} {base tS : Nat} {S : St} {k0 : Nat} (t0 : cls k0 = 2) {S1 : St} {r1 : Int32} (h : X2_isOverfilled S k0 = some (S1, r1)) : Met l yX2_isOverfilled (wsY yX2_isOverfilled cX2_isOverfilled 2 (some .boolean)) rm_X2_isOverfilled (va_Pc [.ref (base + k0)] (World D cy base tS S)) (QcI D cy base tS S1 r1) 0 0 (AA base) := conI rfl rfl (by decide) (Nat.le_of_ble_eq_true rfl) (fun p e s m args below meth c ls C hr hk hl => sm_X2_isOverfilled C hr hk t0 hl) h
theorem cv_X2_64 {p : Program} {l : Launch} {e : Env} {R : Room} {s : State} {m : MethodId} {args : Array Value} {below : List Frame} {meth : Method} {c : Code} {D : va_G} {cy : Nat → ClassId} {base tS nc ns : Nat} {cc : ByteArray} {nL pc : Nat} {ls : Array Slot} {rest : List Value} {S : St} {ρ : Type} {Q : St → ρ → State → Prop} (C : Cx p R s m args c RX2 cc nL D cy base tS nc ns) {k0 : Nat} (t0 : cls k0 = 2) (hl : ls.size = nL) (hR : rm_X2_isOverfilled.frames + 1 ≤ R.frames ∧ 8 + (2 + 11) + rm_X2_isOverfilled.locals ≤ R.locals) {b : St → Int32 → Option (St × ρ)} (hroom : (rest.map fun v => v.category).sum ≤ 8) (hd : decode cc pc = .ok (.invokevirtual 64, 3)) (kk : ∀ (S1 : St) (r : Int32), Sim p l e R s m args below meth c D cy base nc ns Q (b S1 r) S1 (F0 m (pc + 3) ls (.int r :: rest))) : Sim p l e R s m args below meth c D cy base nc ns Q (bd (X2_isOverfilled S k0) b) S (F0 m pc ls (.ref (base + k0) :: rest)) := r_callVI (n := 0) (As := []) C hl (rd_2 t0) (cls_lt t0 (by decide)) rfl (fun S1 r1 h => ct_X2_isOverfilled l t0 h) wd_380 wd_381 wd_382 wd_231 wd_383 rfl rfl (by decide +kernel) hR rfl rfl hroom hd kk
abbrev rm_X2_settle : Room := { frames := 3, cells := 0, slots := 0, locals := 68 }
set_option maxHeartbeats 4000000 in
set_option maxRecDepth 100000 in
theorem lp_X2_settle_11 {p : Program} {l : Launch} {e : Env} {s : State} {m : MethodId} {args : Array Value} {below : List Frame} {meth : Method} {c : Code} {D : va_G} {cy : Nat → ClassId} {base tS : Nat} {ls : Array Slot} (C : Cx p rm_X2_settle s m args c RX2 cX2_settle 3 D cy base tS 0 0) (hr : meth.sig.returnType = (some .boolean)) (hk : meth.locks = false) {k0 : Nat} (t0 : cls k0 = 2) {K : St → Int32 → Option (St × Int32)} (hK : ∀ (S : St) (v1 : Int32) (ls : Array Slot), lv_has ls 3 [(0, .ref (base + k0)), (1, .int v1)] → Sim p l e rm_X2_settle s m args below meth c D cy base 0 0 (fun S1 r => MQ below (QcI D cy base tS S1 r) args s 0 0 (AA base)) (K S v1) S (F0 m 52 ls [])) : ∀ (n : Nat) (S : St) (v1 : Int32) (ls : Array Slot), lv_has ls 3 [(0, .ref (base + k0)), (1, .int v1)] → Sim p l e rm_X2_settle s m args below meth c D cy base 0 0 (fun S1 r => MQ below (QcI D cy base tS S1 r) args s 0 0 (AA base)) (X2_settle_11 k0 K n S v1) S (F0 m 11 ls []) := by
  intro n
  induction n with
  | zero => intro S v1 ls hl; exact Sim.none
  | succ n ih =>
    intro S v1 ls hl
    rw [X2_settle_11]
    refine r_iload_n (pc := 11) C dX2_settle_11 rfl (lv_at hl 1 rfl) ?_
    refine r_sipush (pc := 12) C (20000 : Int32) dX2_settle_12 (by decide) ?_
    refine r_icmp_ge (pc := 15) C (tgt := 52) dX2_settle_15 (by decide) (fun _ => ?_) (fun _ => ?_)
    · exact hK S v1 _ (lv_sub hl [0, 1] rfl)
    · refine r_aload_n (pc := 18) C dX2_settle_18 rfl (lv_at hl 0 rfl) ?_
      refine cv_X2_45 (pc := 19) C t0 hl.1 ⟨Nat.le_of_ble_eq_true rfl, Nat.le_of_ble_eq_true rfl⟩ (Nat.le_of_ble_eq_true rfl) dX2_settle_19 (fun S23 v24 => ?_)
      refine r_istore_n (lv2 := [(2, .int v24), (0, .ref (base + k0)), (1, .int v1)]) (pc := 22) C dX2_settle_22 rfl hl (Nat.le_of_ble_eq_true rfl) rfl (fun ls hl => ?_)
      refine r_iload_n (pc := 23) C dX2_settle_23 rfl (lv_at hl 0 rfl) ?_
      refine r_iconst (pc := 24) C (-1 : Int32) dX2_settle_24 (by decide) ?_
      refine r_icmp_ne (pc := 25) C (tgt := 30) dX2_settle_25 (by decide) (fun _ => ?_) (fun _ => ?_)
      · refine r_aload_n (pc := 30) C dX2_settle_30 rfl (lv_at hl 1 rfl) ?_
        refine r_iload_n (pc := 31) C dX2_settle_31 rfl (lv_at hl 0 rfl) ?_
        refine cv_X2_68 (pc := 32) C t0 hl.1 ⟨Nat.le_of_ble_eq_true rfl, Nat.le_of_ble_eq_true rfl⟩ (Nat.le_of_ble_eq_true rfl) dX2_settle_32 (fun S25 v26 => ?_)
        refine r_if_eq (pc := 35) C (tgt := 40) dX2_settle_35 (by decide) (fun _ => ?_) (fun _ => ?_)
        · refine r_aload_n (pc := 40) C dX2_settle_40 rfl (lv_at hl 1 rfl) ?_
          refine r_iload_n (pc := 41) C dX2_settle_41 rfl (lv_at hl 0 rfl) ?_
          refine cv_X2_71 (pc := 42) C t0 hl.1 ⟨Nat.le_of_ble_eq_true rfl, Nat.le_of_ble_eq_true rfl⟩ (Nat.le_of_ble_eq_true rfl) dX2_settle_42 (fun S27 v28 => ?_)
          refine r_pop (pc := 45) C dX2_settle_45 rfl ?_
          refine r_iinc (pc := 46) C (k := 2) (1 : Int32) (fun v29 => [(1, .int v29), (2, .int v24), (0, .ref (base + k0))]) dX2_settle_46 hl rfl (by decide) (Nat.le_of_ble_eq_true rfl) (fun _ => rfl) (fun v29 ls hl => ?_)
          refine r_goto (pc := 49) C (tgt := 11) dX2_settle_49 (by decide) ?_
          exact ih S27 v29 _ (lv_sub hl [2, 0] rfl)
        · refine r_iconst (pc := 38) C (0 : Int32) dX2_settle_38 (by decide) ?_
          exact r_zret (pc := 39) C rfl hr hk dX2_settle_39
      · refine r_iconst (pc := 28) C (1 : Int32) dX2_settle_28 (by decide) ?_
        exact r_zret (pc := 29) C rfl hr hk dX2_settle_29

set_option maxHeartbeats 4000000 in
set_option maxRecDepth 100000 in
theorem sm_X2_settle {p : Program} {l : Launch} {e : Env} {s : State} {m : MethodId} {args : Array Value} {below : List Frame} {meth : Method} {c : Code} {D : va_G} {cy : Nat → ClassId} {base tS : Nat} {S : St} {k0 : Nat} {ls : Array Slot} (C : Cx p rm_X2_settle s m args c RX2 cX2_settle 3 D cy base tS 0 0) (hr : meth.sig.returnType = (some .boolean)) (hk : meth.locks = false) (t0 : cls k0 = 2) (hl : lv_has ls 3 [(0, .ref (base + k0))]) : Sim p l e rm_X2_settle s m args below meth c D cy base 0 0 (fun S1 r => MQ below (QcI D cy base tS S1 r) args s 0 0 (AA base)) (X2_settle S k0) S (F0 m 0 ls []) := by
  unfold X2_settle
  refine r_aload_n (pc := 0) C dX2_settle_0 rfl (lv_at hl 0 rfl) ?_
  refine cv_X2_64 (pc := 1) C t0 hl.1 ⟨Nat.le_of_ble_eq_true rfl, Nat.le_of_ble_eq_true rfl⟩ (Nat.le_of_ble_eq_true rfl) dX2_settle_1 (fun S21 v22 => ?_)
  refine r_if_eq (pc := 4) C (tgt := 9) dX2_settle_4 (by decide) (fun _ => ?_) (fun _ => ?_)
  · refine r_iconst (pc := 9) C (0 : Int32) dX2_settle_9 (by decide) ?_
    refine r_istore_n (lv2 := [(1, .int (0 : Int32)), (0, .ref (base + k0))]) (pc := 10) C dX2_settle_10 rfl hl (Nat.le_of_ble_eq_true rfl) rfl (fun ls hl => ?_)
    refine lp_X2_settle_11 (ls := ls) C hr hk t0 (fun S30 v31 ls hl => ?_) FU S21 (0 : Int32) _ (lv_sub hl [1, 0] rfl)
    refine r_aload_n (pc := 52) C dX2_settle_52 rfl (lv_at hl 0 rfl) ?_
    refine cv_X2_74 (pc := 53) C t0 hl.1 ⟨Nat.le_of_ble_eq_true rfl, Nat.le_of_ble_eq_true rfl⟩ (Nat.le_of_ble_eq_true rfl) dX2_settle_53 (fun S32 v33 => ?_)
    exact r_zretG (pc := 56) C hr hk dX2_settle_56
  · refine r_iconst (pc := 7) C (0 : Int32) dX2_settle_7 (by decide) ?_
    exact r_zret (pc := 8) C rfl hr hk dX2_settle_8

theorem ct_X2_settle (l : Launch) {D : va_G} {cy : Nat → ClassId} {base tS : Nat} {S : St} {k0 : Nat} (t0 : cls k0 = 2) {S1 : St} {r1 : Int32} (h : X2_settle S k0 = some (S1, r1)) : Met l yX2_settle (wsY yX2_settle cX2_settle 3 (some .boolean)) rm_X2_settle (va_Pc [.ref (base + k0)] (World D cy base tS S)) (QcI D cy base tS S1 r1) 0 0 (AA base) := conI rfl rfl (by decide) (Nat.le_of_ble_eq_true rfl) (fun p e s m args below meth c ls C hr hk hl => sm_X2_settle C hr hk t0 hl) h
theorem cv_X10_237 {p : Program} {l : Launch} {e : Env} {R : Room} {s : State} {m : MethodId} {args : Array Value} {below : List Frame} {meth : Method} {c : Code} {D : va_G} {cy : Nat → ClassId} {base tS nc ns : Nat} {cc : ByteArray} {nL pc : Nat} {ls : Array Slot} {rest : List Value} {S : St} {ρ : Type} {Q : St → ρ → State → Prop} (C : Cx p R s m args c RX10 cc nL D cy base tS nc ns) {k0 : Nat} (t0 : cls k0 = 2) (hl : ls.size = nL) (hR : rm_X2_settle.frames + 1 ≤ R.frames ∧ 8 + (3 + 11) + rm_X2_settle.locals ≤ R.locals) {b : St → Int32 → Option (St × ρ)} (hroom : (rest.map fun v => v.category).sum ≤ 8) (hd : decode cc pc = .ok (.invokevirtual 237, 3)) (kk : ∀ (S1 : St) (r : Int32), Sim p l e R s m args below meth c D cy base nc ns Q (b S1 r) S1 (F0 m (pc + 3) ls (.int r :: rest))) : Sim p l e R s m args below meth c D cy base nc ns Q (bd (X2_settle S k0) b) S (F0 m pc ls (.ref (base + k0) :: rest)) := r_callVI (n := 0) (As := []) C hl (rd_2 t0) (cls_lt t0 (by decide)) rfl (fun S1 r1 h => ct_X2_settle l t0 h) wd_384 wd_385 wd_386 wd_231 wd_387 rfl rfl (by decide +kernel) hR rfl rfl hroom hd kk
abbrev rm_X10_settleInto : Room := { frames := 4, cells := 0, slots := 0, locals := 90 }
set_option maxHeartbeats 4000000 in
set_option maxRecDepth 100000 in
theorem sm_X10_settleInto {p : Program} {l : Launch} {e : Env} {s : State} {m : MethodId} {args : Array Value} {below : List Frame} {meth : Method} {c : Code} {D : va_G} {cy : Nat → ClassId} {base tS : Nat} {S : St} {k0 : Nat} {v1 : Int32} {ls : Array Slot} (C : Cx p rm_X10_settleInto s m args c RX10 cX10_settleInto 2 D cy base tS 0 0) (hr : meth.sig.returnType = (some .int)) (hk : meth.locks = false) (t0 : cls k0 = 10) (hl : lv_has ls 2 [(0, .ref (base + k0)), (1, .int v1)]) : Sim p l e rm_X10_settleInto s m args below meth c D cy base 0 0 (fun S1 r => MQ below (QcI D cy base tS S1 r) args s 0 0 (AA base)) (X10_settleInto S k0 v1) S (F0 m 0 ls []) := by
  unfold X10_settleInto
  refine r_aload_n (pc := 0) C dX10_settleInto_0 rfl (lv_at hl 0 rfl) ?_
  refine gf_X10_25 (pc := 1) C t0 dX10_settleInto_1 ?_
  have t21 := ft_10_2 t0
  refine cv_X10_237 (pc := 4) C t21 hl.1 ⟨Nat.le_of_ble_eq_true rfl, Nat.le_of_ble_eq_true rfl⟩ (Nat.le_of_ble_eq_true rfl) dX10_settleInto_4 (fun S22 v23 => ?_)
  refine r_if_eq (pc := 7) C (tgt := 22) dX10_settleInto_7 (by decide) (fun _ => ?_) (fun _ => ?_)
  · refine r_aload_n (pc := 22) C dX10_settleInto_22 rfl (lv_at hl 0 rfl) ?_
    refine r_bipush (pc := 23) C (-5 : Int32) dX10_settleInto_23 (by decide) ?_
    refine cv_X10_96 (pc := 25) C t0 hl.1 ⟨Nat.le_of_ble_eq_true rfl, Nat.le_of_ble_eq_true rfl⟩ (Nat.le_of_ble_eq_true rfl) dX10_settleInto_25 (fun S24 v25 => ?_)
    exact r_iret (pc := 28) C hr hk dX10_settleInto_28
  · refine r_aload_n (pc := 10) C dX10_settleInto_10 rfl (lv_at hl 0 rfl) ?_
    refine r_iload_n (pc := 11) C dX10_settleInto_11 rfl (lv_at hl 1 rfl) ?_
    refine r_aload_n (pc := 12) C dX10_settleInto_12 rfl (lv_at hl 0 rfl) ?_
    refine gf_X10_25 (pc := 13) C t0 dX10_settleInto_13 ?_
    have t26 := ft_10_2 t0
    refine cv_X10_220 (pc := 16) C t0 t26 hl.1 ⟨Nat.le_of_ble_eq_true rfl, Nat.le_of_ble_eq_true rfl⟩ (Nat.le_of_ble_eq_true rfl) dX10_settleInto_16 (fun S27 v28 => ?_)
    refine r_goto (pc := 19) C (tgt := 28) dX10_settleInto_19 (by decide) ?_
    exact r_iret (pc := 28) C hr hk dX10_settleInto_28

theorem ct_X10_settleInto (l : Launch) {D : va_G} {cy : Nat → ClassId} {base tS : Nat} {S : St} {k0 : Nat} {v1 : Int32} (t0 : cls k0 = 10) {S1 : St} {r1 : Int32} (h : X10_settleInto S k0 v1 = some (S1, r1)) : Met l yX10_settleInto (wsY yX10_settleInto cX10_settleInto 2 (some .int)) rm_X10_settleInto (va_Pc [.ref (base + k0), .int v1] (World D cy base tS S)) (QcI D cy base tS S1 r1) 0 0 (AA base) := conI rfl rfl (by decide) (Nat.le_of_ble_eq_true rfl) (fun p e s m args below meth c ls C hr hk hl => sm_X10_settleInto C hr hk t0 hl) h
theorem cv_X10_231 {p : Program} {l : Launch} {e : Env} {R : Room} {s : State} {m : MethodId} {args : Array Value} {below : List Frame} {meth : Method} {c : Code} {D : va_G} {cy : Nat → ClassId} {base tS nc ns : Nat} {cc : ByteArray} {nL pc : Nat} {ls : Array Slot} {rest : List Value} {S : St} {ρ : Type} {Q : St → ρ → State → Prop} (C : Cx p R s m args c RX10 cc nL D cy base tS nc ns) {k0 : Nat} {v1 : Int32} (t0 : cls k0 = 10) (hl : ls.size = nL) (hR : rm_X10_settleInto.frames + 1 ≤ R.frames ∧ 8 + (2 + 11) + rm_X10_settleInto.locals ≤ R.locals) {b : St → Int32 → Option (St × ρ)} (hroom : (rest.map fun v => v.category).sum ≤ 8) (hd : decode cc pc = .ok (.invokevirtual 231, 3)) (kk : ∀ (S1 : St) (r : Int32), Sim p l e R s m args below meth c D cy base nc ns Q (b S1 r) S1 (F0 m (pc + 3) ls (.int r :: rest))) : Sim p l e R s m args below meth c D cy base nc ns Q (bd (X10_settleInto S k0 v1) b) S (F0 m pc ls (.int v1 :: .ref (base + k0) :: rest)) := r_callVI (n := 1) (As := [.int v1]) C hl (rd_10 t0) (cls_lt t0 (by decide)) rfl (fun S1 r1 h => ct_X10_settleInto l t0 h) wd_388 wd_389 wd_390 wd_164 wd_391 rfl rfl (by decide +kernel) hR rfl rfl hroom hd kk
abbrev rm_X10_plus : Room := { frames := 5, cells := 0, slots := 0, locals := 111 }
set_option maxHeartbeats 4000000 in
set_option maxRecDepth 100000 in
theorem lp_X10_plus_69 {p : Program} {l : Launch} {e : Env} {s : State} {m : MethodId} {args : Array Value} {below : List Frame} {meth : Method} {c : Code} {D : va_G} {cy : Nat → ClassId} {base tS : Nat} {ls : Array Slot} (C : Cx p rm_X10_plus s m args c RX10 cX10_plus 5 D cy base tS 0 0) (hr : meth.sig.returnType = (some .int)) (hk : meth.locks = false) {k0 : Nat} {v1 : Int32} {v2 : Int32} {v3 : Int32} (t0 : cls k0 = 10) {K : St → Int32 → Option (St × Int32)} (hK : ∀ (S : St) (v4 : Int32) (ls : Array Slot), lv_has ls 5 [(0, .ref (base + k0)), (1, .int v1), (2, .int v2), (3, .int v3), (4, .int v4)] → Sim p l e rm_X10_plus s m args below meth c D cy base 0 0 (fun S1 r => MQ below (QcI D cy base tS S1 r) args s 0 0 (AA base)) (K S v4) S (F0 m 116 ls [])) : ∀ (n : Nat) (S : St) (v4 : Int32) (ls : Array Slot), lv_has ls 5 [(0, .ref (base + k0)), (1, .int v1), (2, .int v2), (3, .int v3), (4, .int v4)] → Sim p l e rm_X10_plus s m args below meth c D cy base 0 0 (fun S1 r => MQ below (QcI D cy base tS S1 r) args s 0 0 (AA base)) (X10_plus_69 k0 v1 v2 v3 K n S v4) S (F0 m 69 ls []) := by
  intro n
  induction n with
  | zero => intro S v4 ls hl; exact Sim.none
  | succ n ih =>
    intro S v4 ls hl
    rw [X10_plus_69]
    refine r_iload (pc := 69) C dX10_plus_69 (lv_at hl 4 rfl) ?_
    refine r_aload_n (pc := 71) C dX10_plus_71 rfl (lv_at hl 0 rfl) ?_
    refine gf_X10_10 (pc := 72) C t0 dX10_plus_72 ?_
    have t37 := ft_10_0 t0
    refine gf_X10_100 (pc := 75) C t37 dX10_plus_75 ?_
    refine r_icmp_ge (pc := 78) C (tgt := 116) dX10_plus_78 (by decide) (fun _ => ?_) (fun _ => ?_)
    · exact hK S v4 _ (lv_sub hl [0, 1, 2, 3, 4] rfl)
    · refine r_aload_n (pc := 81) C dX10_plus_81 rfl (lv_at hl 0 rfl) ?_
      refine gf_X10_25 (pc := 82) C t0 dX10_plus_82 ?_
      have t38 := ft_10_2 t0
      refine gf_X10_141 (pc := 85) C t38 dX10_plus_85 ?_
      have t39 := ft_2_1 t38
      refine r_iload (pc := 88) C dX10_plus_88 (lv_at hl 4 rfl) ?_
      refine r_aload_n (pc := 90) C dX10_plus_90 rfl (lv_at hl 0 rfl) ?_
      refine gf_X10_67 (pc := 91) C t0 dX10_plus_91 ?_
      have t40 := ft_10_8 t0
      refine r_iload_n (pc := 94) C dX10_plus_94 rfl (lv_at hl 1 rfl) ?_
      refine r_aald17 (pc := 95) C t40 dX10_plus_95 (fun b42 => ?_)
      have t41 := et_17_8 t40 b42
      refine r_iload (pc := 96) C dX10_plus_96 (lv_at hl 4 rfl) ?_
      refine r_iald (pc := 98) C t41 dX10_plus_98 ?_
      refine r_aload_n (pc := 99) C dX10_plus_99 rfl (lv_at hl 0 rfl) ?_
      refine gf_X10_67 (pc := 100) C t0 dX10_plus_100 ?_
      have t43 := ft_10_8 t0
      refine r_iload_n (pc := 103) C dX10_plus_103 rfl (lv_at hl 2 rfl) ?_
      refine r_aald17 (pc := 104) C t43 dX10_plus_104 (fun b45 => ?_)
      have t44 := et_17_8 t43 b45
      refine r_iload (pc := 105) C dX10_plus_105 (lv_at hl 4 rfl) ?_
      refine r_iald (pc := 107) C t44 dX10_plus_107 ?_
      refine r_iadd (pc := 108) C dX10_plus_108 ?_
      refine r_iast (pc := 109) C t39 dX10_plus_109 (fun S46 => ?_)
      refine r_iinc (pc := 110) C (k := 4) (1 : Int32) (fun v47 => [(4, .int v47), (0, .ref (base + k0)), (1, .int v1), (2, .int v2), (3, .int v3)]) dX10_plus_110 hl rfl (by decide) (Nat.le_of_ble_eq_true rfl) (fun _ => rfl) (fun v47 ls hl => ?_)
      refine r_goto (pc := 113) C (tgt := 69) dX10_plus_113 (by decide) ?_
      exact ih S46 v47 _ (lv_sub hl [1, 2, 3, 4, 0] rfl)

set_option maxHeartbeats 4000000 in
set_option maxRecDepth 100000 in
theorem sm_X10_plus {p : Program} {l : Launch} {e : Env} {s : State} {m : MethodId} {args : Array Value} {below : List Frame} {meth : Method} {c : Code} {D : va_G} {cy : Nat → ClassId} {base tS : Nat} {S : St} {k0 : Nat} {v1 : Int32} {v2 : Int32} {v3 : Int32} {ls : Array Slot} (C : Cx p rm_X10_plus s m args c RX10 cX10_plus 5 D cy base tS 0 0) (hr : meth.sig.returnType = (some .int)) (hk : meth.locks = false) (t0 : cls k0 = 10) (hl : lv_has ls 5 [(0, .ref (base + k0)), (1, .int v1), (2, .int v2), (3, .int v3)]) : Sim p l e rm_X10_plus s m args below meth c D cy base 0 0 (fun S1 r => MQ below (QcI D cy base tS S1 r) args s 0 0 (AA base)) (X10_plus S k0 v1 v2 v3) S (F0 m 0 ls []) := by
  unfold X10_plus
  refine r_iload_n (pc := 0) C dX10_plus_0 rfl (lv_at hl 1 rfl) ?_
  refine cv_X10_217 (pc := 1) C  hl.1 ⟨Nat.le_of_ble_eq_true rfl, Nat.le_of_ble_eq_true rfl⟩ (Nat.le_of_ble_eq_true rfl) dX10_plus_1 (fun S21 v22 => ?_)
  refine r_join (fun (j : St → Option (St × Int32)) => ∀ (S24 : St)  (ls : Array Slot), lv_has ls 5 [(0, .ref (base + k0))] → Sim p l e rm_X10_plus s m args below meth c D cy base 0 0 (fun S1 r => MQ below (QcI D cy base tS S1 r) args s 0 0 (AA base)) (j S24) S24 (F0 m 21 ls [])) ?_ (fun j23 hj23 => ?_)
  · intro S24 ls hl
    refine r_aload_n (pc := 21) C dX10_plus_21 rfl (lv_at hl 0 rfl) ?_
    refine r_iconst (pc := 22) C (-1 : Int32) dX10_plus_22 (by decide) ?_
    refine cv_X10_96 (pc := 23) C t0 hl.1 ⟨Nat.le_of_ble_eq_true rfl, Nat.le_of_ble_eq_true rfl⟩ (Nat.le_of_ble_eq_true rfl) dX10_plus_23 (fun S25 v26 => ?_)
    exact r_iret (pc := 26) C hr hk dX10_plus_26
  refine r_if_eq (pc := 4) C (tgt := 21) dX10_plus_4 (by decide) (fun _ => ?_) (fun _ => ?_)
  · exact hj23 S21  _ (lv_sub hl [0] rfl)
  · refine r_iload_n (pc := 7) C dX10_plus_7 rfl (lv_at hl 2 rfl) ?_
    refine cv_X10_217 (pc := 8) C  hl.1 ⟨Nat.le_of_ble_eq_true rfl, Nat.le_of_ble_eq_true rfl⟩ (Nat.le_of_ble_eq_true rfl) dX10_plus_8 (fun S27 v28 => ?_)
    refine r_if_eq (pc := 11) C (tgt := 21) dX10_plus_11 (by decide) (fun _ => ?_) (fun _ => ?_)
    · exact hj23 S27  _ (lv_sub hl [0] rfl)
    · refine r_iload_n (pc := 14) C dX10_plus_14 rfl (lv_at hl 3 rfl) ?_
      refine cv_X10_217 (pc := 15) C  hl.1 ⟨Nat.le_of_ble_eq_true rfl, Nat.le_of_ble_eq_true rfl⟩ (Nat.le_of_ble_eq_true rfl) dX10_plus_15 (fun S29 v30 => ?_)
      refine r_if_ne (pc := 18) C (tgt := 27) dX10_plus_18 (by decide) (fun _ => ?_) (fun _ => ?_)
      · refine r_aload_n (pc := 27) C dX10_plus_27 rfl (lv_at hl 0 rfl) ?_
        refine gf_X10_70 (pc := 28) C t0 dX10_plus_28 ?_
        have t31 := ft_10_9 t0
        refine r_iload_n (pc := 31) C dX10_plus_31 rfl (lv_at hl 1 rfl) ?_
        refine r_zald (pc := 32) C t31 dX10_plus_32 ?_
        refine r_join (fun (j : St → Option (St × Int32)) => ∀ (S33 : St)  (ls : Array Slot), lv_has ls 5 [(0, .ref (base + k0))] → Sim p l e rm_X10_plus s m args below meth c D cy base 0 0 (fun S1 r => MQ below (QcI D cy base tS S1 r) args s 0 0 (AA base)) (j S33) S33 (F0 m 45 ls [])) ?_ (fun j32 hj32 => ?_)
        · intro S33 ls hl
          refine r_aload_n (pc := 45) C dX10_plus_45 rfl (lv_at hl 0 rfl) ?_
          refine r_bipush (pc := 46) C (-11 : Int32) dX10_plus_46 (by decide) ?_
          refine cv_X10_96 (pc := 48) C t0 hl.1 ⟨Nat.le_of_ble_eq_true rfl, Nat.le_of_ble_eq_true rfl⟩ (Nat.le_of_ble_eq_true rfl) dX10_plus_48 (fun S34 v35 => ?_)
          exact r_iret (pc := 51) C hr hk dX10_plus_51
        refine r_if_eq (pc := 33) C (tgt := 45) dX10_plus_33 (by decide) (fun _ => ?_) (fun _ => ?_)
        · exact hj32 S29  _ (lv_sub hl [0] rfl)
        · refine r_aload_n (pc := 36) C dX10_plus_36 rfl (lv_at hl 0 rfl) ?_
          refine gf_X10_70 (pc := 37) C t0 dX10_plus_37 ?_
          have t36 := ft_10_9 t0
          refine r_iload_n (pc := 40) C dX10_plus_40 rfl (lv_at hl 2 rfl) ?_
          refine r_zald (pc := 41) C t36 dX10_plus_41 ?_
          refine r_if_ne (pc := 42) C (tgt := 52) dX10_plus_42 (by decide) (fun _ => ?_) (fun _ => ?_)
          · refine r_aload_n (pc := 52) C dX10_plus_52 rfl (lv_at hl 0 rfl) ?_
            refine gf_X10_92 (pc := 53) C t0 dX10_plus_53 ?_
            refine r_if_ne (pc := 56) C (tgt := 66) dX10_plus_56 (by decide) (fun _ => ?_) (fun _ => ?_)
            · refine r_iconst (pc := 66) C (0 : Int32) dX10_plus_66 (by decide) ?_
              refine r_istore (lv2 := [(4, .int (0 : Int32)), (0, .ref (base + k0)), (1, .int v1), (2, .int v2), (3, .int v3)]) (pc := 67) C dX10_plus_67 hl (Nat.le_of_ble_eq_true rfl) rfl (fun ls hl => ?_)
              refine lp_X10_plus_69 (ls := ls) C hr hk t0 (fun S48 v49 ls hl => ?_) FU S29 (0 : Int32) _ (lv_sub hl [1, 2, 3, 4, 0] rfl)
              refine r_aload_n (pc := 116) C dX10_plus_116 rfl (lv_at hl 0 rfl) ?_
              refine r_iload_n (pc := 117) C dX10_plus_117 rfl (lv_at hl 3 rfl) ?_
              refine cv_X10_231 (pc := 118) C t0 hl.1 ⟨Nat.le_of_ble_eq_true rfl, Nat.le_of_ble_eq_true rfl⟩ (Nat.le_of_ble_eq_true rfl) dX10_plus_118 (fun S50 v51 => ?_)
              exact r_iret (pc := 121) C hr hk dX10_plus_121
            · refine r_aload_n (pc := 59) C dX10_plus_59 rfl (lv_at hl 0 rfl) ?_
              refine r_bipush (pc := 60) C (-8 : Int32) dX10_plus_60 (by decide) ?_
              refine cv_X10_96 (pc := 62) C t0 hl.1 ⟨Nat.le_of_ble_eq_true rfl, Nat.le_of_ble_eq_true rfl⟩ (Nat.le_of_ble_eq_true rfl) dX10_plus_62 (fun S52 v53 => ?_)
              exact r_iret (pc := 65) C hr hk dX10_plus_65
          · exact hj32 S29  _ (lv_sub hl [0] rfl)
      · exact hj23 S29  _ (lv_sub hl [0] rfl)

theorem ct_X10_plus (l : Launch) {D : va_G} {cy : Nat → ClassId} {base tS : Nat} {S : St} {k0 : Nat} {v1 : Int32} {v2 : Int32} {v3 : Int32} (t0 : cls k0 = 10) {S1 : St} {r1 : Int32} (h : X10_plus S k0 v1 v2 v3 = some (S1, r1)) : Met l yX10_plus (wsY yX10_plus cX10_plus 5 (some .int)) rm_X10_plus (va_Pc [.ref (base + k0), .int v1, .int v2, .int v3] (World D cy base tS S)) (QcI D cy base tS S1 r1) 0 0 (AA base) := conI rfl rfl (by decide) (Nat.le_of_ble_eq_true rfl) (fun p e s m args below meth c ls C hr hk hl => sm_X10_plus C hr hk t0 hl) h
abbrev rm_X10_findLeftOfA : Room := { frames := 4, cells := 0, slots := 0, locals := 90 }
set_option maxHeartbeats 4000000 in
set_option maxRecDepth 100000 in
theorem lp_X10_findLeftOfA_2 {p : Program} {l : Launch} {e : Env} {s : State} {m : MethodId} {args : Array Value} {below : List Frame} {meth : Method} {c : Code} {D : va_G} {cy : Nat → ClassId} {base tS : Nat} {ls : Array Slot} (C : Cx p rm_X10_findLeftOfA s m args c RX10 cX10_findLeftOfA 2 D cy base tS 0 0) (hr : meth.sig.returnType = (some .boolean)) (hk : meth.locks = false) {k0 : Nat} (t0 : cls k0 = 10) {K : St → Int32 → Option (St × Int32)} (hK : ∀ (S : St) (v1 : Int32) (ls : Array Slot), lv_has ls 2 [(0, .ref (base + k0)), (1, .int v1)] → Sim p l e rm_X10_findLeftOfA s m args below meth c D cy base 0 0 (fun S1 r => MQ below (QcI D cy base tS S1 r) args s 0 0 (AA base)) (K S v1) S (F0 m 38 ls [])) : ∀ (n : Nat) (S : St) (v1 : Int32) (ls : Array Slot), lv_has ls 2 [(0, .ref (base + k0)), (1, .int v1)] → Sim p l e rm_X10_findLeftOfA s m args below meth c D cy base 0 0 (fun S1 r => MQ below (QcI D cy base tS S1 r) args s 0 0 (AA base)) (X10_findLeftOfA_2 k0 K n S v1) S (F0 m 2 ls []) := by
  intro n
  induction n with
  | zero => intro S v1 ls hl; exact Sim.none
  | succ n ih =>
    intro S v1 ls hl
    rw [X10_findLeftOfA_2]
    refine r_iload_n (pc := 2) C dX10_findLeftOfA_2 rfl (lv_at hl 1 rfl) ?_
    refine r_aload_n (pc := 3) C dX10_findLeftOfA_3 rfl (lv_at hl 0 rfl) ?_
    refine gf_X10_10 (pc := 4) C t0 dX10_findLeftOfA_4 ?_
    have t21 := ft_10_0 t0
    refine gf_X10_100 (pc := 7) C t21 dX10_findLeftOfA_7 ?_
    refine r_icmp_ge (pc := 10) C (tgt := 38) dX10_findLeftOfA_10 (by decide) (fun _ => ?_) (fun _ => ?_)
    · exact hK S v1 _ (lv_sub hl [0, 1] rfl)
    · refine r_aload_n (pc := 13) C dX10_findLeftOfA_13 rfl (lv_at hl 0 rfl) ?_
      refine gf_X10_88 (pc := 14) C t0 dX10_findLeftOfA_14 ?_
      have t22 := ft_10_12 t0
      refine r_iload_n (pc := 17) C dX10_findLeftOfA_17 rfl (lv_at hl 1 rfl) ?_
      refine r_iconst (pc := 18) C (2 : Int32) dX10_findLeftOfA_18 (by decide) ?_
      refine r_aload_n (pc := 19) C dX10_findLeftOfA_19 rfl (lv_at hl 0 rfl) ?_
      refine gf_X10_10 (pc := 20) C t0 dX10_findLeftOfA_20 ?_
      have t23 := ft_10_0 t0
      refine gf_X10_320 (pc := 23) C t23 dX10_findLeftOfA_23 ?_
      have t24 := ft_7_2 t23
      refine r_iload_n (pc := 26) C dX10_findLeftOfA_26 rfl (lv_at hl 1 rfl) ?_
      refine r_iald (pc := 27) C t24 dX10_findLeftOfA_27 ?_
      refine r_iconst (pc := 28) C (1 : Int32) dX10_findLeftOfA_28 (by decide) ?_
      refine r_isub (pc := 29) C dX10_findLeftOfA_29 ?_
      refine r_imul (pc := 30) C dX10_findLeftOfA_30 ?_
      refine r_iast (pc := 31) C t22 dX10_findLeftOfA_31 (fun S25 => ?_)
      refine r_iinc (pc := 32) C (k := 1) (1 : Int32) (fun v26 => [(1, .int v26), (0, .ref (base + k0))]) dX10_findLeftOfA_32 hl rfl (by decide) (Nat.le_of_ble_eq_true rfl) (fun _ => rfl) (fun v26 ls hl => ?_)
      refine r_goto (pc := 35) C (tgt := 2) dX10_findLeftOfA_35 (by decide) ?_
      exact ih S25 v26 _ (lv_sub hl [1, 0] rfl)

set_option maxHeartbeats 4000000 in
set_option maxRecDepth 100000 in
theorem lp_X10_findLeftOfA_63 {p : Program} {l : Launch} {e : Env} {s : State} {m : MethodId} {args : Array Value} {below : List Frame} {meth : Method} {c : Code} {D : va_G} {cy : Nat → ClassId} {base tS : Nat} {ls : Array Slot} (C : Cx p rm_X10_findLeftOfA s m args c RX10 cX10_findLeftOfA 2 D cy base tS 0 0) (hr : meth.sig.returnType = (some .boolean)) (hk : meth.locks = false) {k0 : Nat} (t0 : cls k0 = 10) {K : St → Int32 → Option (St × Int32)} (hK : ∀ (S : St) (v1 : Int32) (ls : Array Slot), lv_has ls 2 [(0, .ref (base + k0)), (1, .int v1)] → Sim p l e rm_X10_findLeftOfA s m args below meth c D cy base 0 0 (fun S1 r => MQ below (QcI D cy base tS S1 r) args s 0 0 (AA base)) (K S v1) S (F0 m 98 ls [])) : ∀ (n : Nat) (S : St) (v1 : Int32) (ls : Array Slot), lv_has ls 2 [(0, .ref (base + k0)), (1, .int v1)] → Sim p l e rm_X10_findLeftOfA s m args below meth c D cy base 0 0 (fun S1 r => MQ below (QcI D cy base tS S1 r) args s 0 0 (AA base)) (X10_findLeftOfA_63 k0 K n S v1) S (F0 m 63 ls []) := by
  intro n
  induction n with
  | zero => intro S v1 ls hl; exact Sim.none
  | succ n ih =>
    intro S v1 ls hl
    rw [X10_findLeftOfA_63]
    refine r_iload_n (pc := 63) C dX10_findLeftOfA_63 rfl (lv_at hl 1 rfl) ?_
    refine r_aload_n (pc := 64) C dX10_findLeftOfA_64 rfl (lv_at hl 0 rfl) ?_
    refine gf_X10_10 (pc := 65) C t0 dX10_findLeftOfA_65 ?_
    have t35 := ft_10_0 t0
    refine gf_X10_100 (pc := 68) C t35 dX10_findLeftOfA_68 ?_
    refine r_icmp_ge (pc := 71) C (tgt := 98) dX10_findLeftOfA_71 (by decide) (fun _ => ?_) (fun _ => ?_)
    · exact hK S v1 _ (lv_sub hl [0, 1] rfl)
    · refine r_aload_n (pc := 74) C dX10_findLeftOfA_74 rfl (lv_at hl 0 rfl) ?_
      refine gf_X10_88 (pc := 75) C t0 dX10_findLeftOfA_75 ?_
      have t36 := ft_10_12 t0
      refine r_iload_n (pc := 78) C dX10_findLeftOfA_78 rfl (lv_at hl 1 rfl) ?_
      refine r_dup2_11 (pc := 79) C dX10_findLeftOfA_79 rfl rfl ?_
      refine r_iald (pc := 80) C t36 dX10_findLeftOfA_80 ?_
      refine r_aload_n (pc := 81) C dX10_findLeftOfA_81 rfl (lv_at hl 0 rfl) ?_
      refine gf_X10_25 (pc := 82) C t0 dX10_findLeftOfA_82 ?_
      have t37 := ft_10_2 t0
      refine gf_X10_141 (pc := 85) C t37 dX10_findLeftOfA_85 ?_
      have t38 := ft_2_1 t37
      refine r_iload_n (pc := 88) C dX10_findLeftOfA_88 rfl (lv_at hl 1 rfl) ?_
      refine r_iald (pc := 89) C t38 dX10_findLeftOfA_89 ?_
      refine r_isub (pc := 90) C dX10_findLeftOfA_90 ?_
      refine r_iast (pc := 91) C t36 dX10_findLeftOfA_91 (fun S39 => ?_)
      refine r_iinc (pc := 92) C (k := 1) (1 : Int32) (fun v40 => [(1, .int v40), (0, .ref (base + k0))]) dX10_findLeftOfA_92 hl rfl (by decide) (Nat.le_of_ble_eq_true rfl) (fun _ => rfl) (fun v40 ls hl => ?_)
      refine r_goto (pc := 95) C (tgt := 63) dX10_findLeftOfA_95 (by decide) ?_
      exact ih S39 v40 _ (lv_sub hl [1, 0] rfl)

set_option maxHeartbeats 4000000 in
set_option maxRecDepth 100000 in
theorem sm_X10_findLeftOfA {p : Program} {l : Launch} {e : Env} {s : State} {m : MethodId} {args : Array Value} {below : List Frame} {meth : Method} {c : Code} {D : va_G} {cy : Nat → ClassId} {base tS : Nat} {S : St} {k0 : Nat} {ls : Array Slot} (C : Cx p rm_X10_findLeftOfA s m args c RX10 cX10_findLeftOfA 2 D cy base tS 0 0) (hr : meth.sig.returnType = (some .boolean)) (hk : meth.locks = false) (t0 : cls k0 = 10) (hl : lv_has ls 2 [(0, .ref (base + k0))]) : Sim p l e rm_X10_findLeftOfA s m args below meth c D cy base 0 0 (fun S1 r => MQ below (QcI D cy base tS S1 r) args s 0 0 (AA base)) (X10_findLeftOfA S k0) S (F0 m 0 ls []) := by
  unfold X10_findLeftOfA
  refine r_iconst (pc := 0) C (0 : Int32) dX10_findLeftOfA_0 (by decide) ?_
  refine r_istore_n (lv2 := [(1, .int (0 : Int32)), (0, .ref (base + k0))]) (pc := 1) C dX10_findLeftOfA_1 rfl hl (Nat.le_of_ble_eq_true rfl) rfl (fun ls hl => ?_)
  refine lp_X10_findLeftOfA_2 (ls := ls) C hr hk t0 (fun S27 v28 ls hl => ?_) FU S (0 : Int32) _ (lv_sub hl [1, 0] rfl)
  refine r_aload_n (pc := 38) C dX10_findLeftOfA_38 rfl (lv_at hl 0 rfl) ?_
  refine gf_X10_25 (pc := 39) C t0 dX10_findLeftOfA_39 ?_
  have t29 := ft_10_2 t0
  refine r_aload_n (pc := 42) C dX10_findLeftOfA_42 rfl (lv_at hl 0 rfl) ?_
  refine gf_X10_88 (pc := 43) C t0 dX10_findLeftOfA_43 ?_
  have t30 := ft_10_12 t0
  refine cv_X10_224 (pc := 46) C t29 t30 hl.1 ⟨Nat.le_of_ble_eq_true rfl, Nat.le_of_ble_eq_true rfl⟩ (Nat.le_of_ble_eq_true rfl) dX10_findLeftOfA_46 (fun S31 _ => ?_)
  refine r_aload_n (pc := 49) C dX10_findLeftOfA_49 rfl (lv_at hl 0 rfl) ?_
  refine gf_X10_25 (pc := 50) C t0 dX10_findLeftOfA_50 ?_
  have t32 := ft_10_2 t0
  refine cv_X10_237 (pc := 53) C t32 hl.1 ⟨Nat.le_of_ble_eq_true rfl, Nat.le_of_ble_eq_true rfl⟩ (Nat.le_of_ble_eq_true rfl) dX10_findLeftOfA_53 (fun S33 v34 => ?_)
  refine r_if_ne (pc := 56) C (tgt := 61) dX10_findLeftOfA_56 (by decide) (fun _ => ?_) (fun _ => ?_)
  · refine r_iconst (pc := 61) C (0 : Int32) dX10_findLeftOfA_61 (by decide) ?_
    refine r_istore_n (lv2 := [(1, .int (0 : Int32)), (0, .ref (base + k0))]) (pc := 62) C dX10_findLeftOfA_62 rfl hl (Nat.le_of_ble_eq_true rfl) rfl (fun ls hl => ?_)
    refine lp_X10_findLeftOfA_63 (ls := ls) C hr hk t0 (fun S41 v42 ls hl => ?_) FU S33 (0 : Int32) _ (lv_sub hl [1, 0] rfl)
    refine r_iconst (pc := 98) C (1 : Int32) dX10_findLeftOfA_98 (by decide) ?_
    exact r_zret (pc := 99) C rfl hr hk dX10_findLeftOfA_99
  · refine r_iconst (pc := 59) C (0 : Int32) dX10_findLeftOfA_59 (by decide) ?_
    exact r_zret (pc := 60) C rfl hr hk dX10_findLeftOfA_60

theorem ct_X10_findLeftOfA (l : Launch) {D : va_G} {cy : Nat → ClassId} {base tS : Nat} {S : St} {k0 : Nat} (t0 : cls k0 = 10) {S1 : St} {r1 : Int32} (h : X10_findLeftOfA S k0 = some (S1, r1)) : Met l yX10_findLeftOfA (wsY yX10_findLeftOfA cX10_findLeftOfA 2 (some .boolean)) rm_X10_findLeftOfA (va_Pc [.ref (base + k0)] (World D cy base tS S)) (QcI D cy base tS S1 r1) 0 0 (AA base) := conI rfl rfl (by decide) (Nat.le_of_ble_eq_true rfl) (fun p e s m args below meth c ls C hr hk hl => sm_X10_findLeftOfA C hr hk t0 hl) h
theorem cv_X10_234 {p : Program} {l : Launch} {e : Env} {R : Room} {s : State} {m : MethodId} {args : Array Value} {below : List Frame} {meth : Method} {c : Code} {D : va_G} {cy : Nat → ClassId} {base tS nc ns : Nat} {cc : ByteArray} {nL pc : Nat} {ls : Array Slot} {rest : List Value} {S : St} {ρ : Type} {Q : St → ρ → State → Prop} (C : Cx p R s m args c RX10 cc nL D cy base tS nc ns) {k0 : Nat} (t0 : cls k0 = 10) (hl : ls.size = nL) (hR : rm_X10_findLeftOfA.frames + 1 ≤ R.frames ∧ 8 + (2 + 11) + rm_X10_findLeftOfA.locals ≤ R.locals) {b : St → Int32 → Option (St × ρ)} (hroom : (rest.map fun v => v.category).sum ≤ 8) (hd : decode cc pc = .ok (.invokevirtual 234, 3)) (kk : ∀ (S1 : St) (r : Int32), Sim p l e R s m args below meth c D cy base nc ns Q (b S1 r) S1 (F0 m (pc + 3) ls (.int r :: rest))) : Sim p l e R s m args below meth c D cy base nc ns Q (bd (X10_findLeftOfA S k0) b) S (F0 m pc ls (.ref (base + k0) :: rest)) := r_callVI (n := 0) (As := []) C hl (rd_10 t0) (cls_lt t0 (by decide)) rfl (fun S1 r1 h => ct_X10_findLeftOfA l t0 h) wd_392 wd_393 wd_394 wd_164 wd_395 rfl rfl (by decide +kernel) hR rfl rfl hroom hd kk
abbrev rm_X10_nought : Room := { frames := 5, cells := 0, slots := 0, locals := 111 }
set_option maxHeartbeats 4000000 in
set_option maxRecDepth 100000 in
theorem sm_X10_nought {p : Program} {l : Launch} {e : Env} {s : State} {m : MethodId} {args : Array Value} {below : List Frame} {meth : Method} {c : Code} {D : va_G} {cy : Nat → ClassId} {base tS : Nat} {S : St} {k0 : Nat} {v1 : Int32} {ls : Array Slot} (C : Cx p rm_X10_nought s m args c RX10 cX10_nought 2 D cy base tS 0 0) (hr : meth.sig.returnType = (some .int)) (hk : meth.locks = false) (t0 : cls k0 = 10) (hl : lv_has ls 2 [(0, .ref (base + k0)), (1, .int v1)]) : Sim p l e rm_X10_nought s m args below meth c D cy base 0 0 (fun S1 r => MQ below (QcI D cy base tS S1 r) args s 0 0 (AA base)) (X10_nought S k0 v1) S (F0 m 0 ls []) := by
  unfold X10_nought
  refine r_iload_n (pc := 0) C dX10_nought_0 rfl (lv_at hl 1 rfl) ?_
  refine cv_X10_217 (pc := 1) C  hl.1 ⟨Nat.le_of_ble_eq_true rfl, Nat.le_of_ble_eq_true rfl⟩ (Nat.le_of_ble_eq_true rfl) dX10_nought_1 (fun S21 v22 => ?_)
  refine r_if_ne (pc := 4) C (tgt := 13) dX10_nought_4 (by decide) (fun _ => ?_) (fun _ => ?_)
  · refine r_aload_n (pc := 13) C dX10_nought_13 rfl (lv_at hl 0 rfl) ?_
    refine gf_X10_92 (pc := 14) C t0 dX10_nought_14 ?_
    refine r_if_ne (pc := 17) C (tgt := 27) dX10_nought_17 (by decide) (fun _ => ?_) (fun _ => ?_)
    · refine r_aload_n (pc := 27) C dX10_nought_27 rfl (lv_at hl 0 rfl) ?_
      refine gf_X10_10 (pc := 28) C t0 dX10_nought_28 ?_
      have t23 := ft_10_0 t0
      refine cv_X10_201 (pc := 31) C t23 hl.1 ⟨Nat.le_of_ble_eq_true rfl, Nat.le_of_ble_eq_true rfl⟩ (Nat.le_of_ble_eq_true rfl) dX10_nought_31 (fun S24 v25 => ?_)
      refine r_if_ne (pc := 34) C (tgt := 44) dX10_nought_34 (by decide) (fun _ => ?_) (fun _ => ?_)
      · refine r_aload_n (pc := 44) C dX10_nought_44 rfl (lv_at hl 0 rfl) ?_
        refine cv_X10_234 (pc := 45) C t0 hl.1 ⟨Nat.le_of_ble_eq_true rfl, Nat.le_of_ble_eq_true rfl⟩ (Nat.le_of_ble_eq_true rfl) dX10_nought_45 (fun S26 v27 => ?_)
        refine r_if_ne (pc := 48) C (tgt := 58) dX10_nought_48 (by decide) (fun _ => ?_) (fun _ => ?_)
        · refine r_aload_n (pc := 58) C dX10_nought_58 rfl (lv_at hl 0 rfl) ?_
          refine gf_X10_25 (pc := 59) C t0 dX10_nought_59 ?_
          have t28 := ft_10_2 t0
          refine r_aload_n (pc := 62) C dX10_nought_62 rfl (lv_at hl 0 rfl) ?_
          refine gf_X10_88 (pc := 63) C t0 dX10_nought_63 ?_
          have t29 := ft_10_12 t0
          refine cv_X10_224 (pc := 66) C t28 t29 hl.1 ⟨Nat.le_of_ble_eq_true rfl, Nat.le_of_ble_eq_true rfl⟩ (Nat.le_of_ble_eq_true rfl) dX10_nought_66 (fun S30 _ => ?_)
          refine r_aload_n (pc := 69) C dX10_nought_69 rfl (lv_at hl 0 rfl) ?_
          refine r_iload_n (pc := 70) C dX10_nought_70 rfl (lv_at hl 1 rfl) ?_
          refine cv_X10_231 (pc := 71) C t0 hl.1 ⟨Nat.le_of_ble_eq_true rfl, Nat.le_of_ble_eq_true rfl⟩ (Nat.le_of_ble_eq_true rfl) dX10_nought_71 (fun S31 v32 => ?_)
          exact r_iret (pc := 74) C hr hk dX10_nought_74
        · refine r_aload_n (pc := 51) C dX10_nought_51 rfl (lv_at hl 0 rfl) ?_
          refine r_bipush (pc := 52) C (-5 : Int32) dX10_nought_52 (by decide) ?_
          refine cv_X10_96 (pc := 54) C t0 hl.1 ⟨Nat.le_of_ble_eq_true rfl, Nat.le_of_ble_eq_true rfl⟩ (Nat.le_of_ble_eq_true rfl) dX10_nought_54 (fun S33 v34 => ?_)
          exact r_iret (pc := 57) C hr hk dX10_nought_57
      · refine r_aload_n (pc := 37) C dX10_nought_37 rfl (lv_at hl 0 rfl) ?_
        refine r_bipush (pc := 38) C (-12 : Int32) dX10_nought_38 (by decide) ?_
        refine cv_X10_96 (pc := 40) C t0 hl.1 ⟨Nat.le_of_ble_eq_true rfl, Nat.le_of_ble_eq_true rfl⟩ (Nat.le_of_ble_eq_true rfl) dX10_nought_40 (fun S35 v36 => ?_)
        exact r_iret (pc := 43) C hr hk dX10_nought_43
    · refine r_aload_n (pc := 20) C dX10_nought_20 rfl (lv_at hl 0 rfl) ?_
      refine r_bipush (pc := 21) C (-8 : Int32) dX10_nought_21 (by decide) ?_
      refine cv_X10_96 (pc := 23) C t0 hl.1 ⟨Nat.le_of_ble_eq_true rfl, Nat.le_of_ble_eq_true rfl⟩ (Nat.le_of_ble_eq_true rfl) dX10_nought_23 (fun S37 v38 => ?_)
      exact r_iret (pc := 26) C hr hk dX10_nought_26
  · refine r_aload_n (pc := 7) C dX10_nought_7 rfl (lv_at hl 0 rfl) ?_
    refine r_iconst (pc := 8) C (-1 : Int32) dX10_nought_8 (by decide) ?_
    refine cv_X10_96 (pc := 9) C t0 hl.1 ⟨Nat.le_of_ble_eq_true rfl, Nat.le_of_ble_eq_true rfl⟩ (Nat.le_of_ble_eq_true rfl) dX10_nought_9 (fun S39 v40 => ?_)
    exact r_iret (pc := 12) C hr hk dX10_nought_12

theorem ct_X10_nought (l : Launch) {D : va_G} {cy : Nat → ClassId} {base tS : Nat} {S : St} {k0 : Nat} {v1 : Int32} (t0 : cls k0 = 10) {S1 : St} {r1 : Int32} (h : X10_nought S k0 v1 = some (S1, r1)) : Met l yX10_nought (wsY yX10_nought cX10_nought 2 (some .int)) rm_X10_nought (va_Pc [.ref (base + k0), .int v1] (World D cy base tS S)) (QcI D cy base tS S1 r1) 0 0 (AA base) := conI rfl rfl (by decide) (Nat.le_of_ble_eq_true rfl) (fun p e s m args below meth c ls C hr hk hl => sm_X10_nought C hr hk t0 hl) h
abbrev rm_X10_contrary : Room := { frames := 5, cells := 0, slots := 0, locals := 111 }
set_option maxHeartbeats 4000000 in
set_option maxRecDepth 100000 in
theorem lp_X10_contrary_113 {p : Program} {l : Launch} {e : Env} {s : State} {m : MethodId} {args : Array Value} {below : List Frame} {meth : Method} {c : Code} {D : va_G} {cy : Nat → ClassId} {base tS : Nat} {ls : Array Slot} (C : Cx p rm_X10_contrary s m args c RX10 cX10_contrary 4 D cy base tS 0 0) (hr : meth.sig.returnType = (some .int)) (hk : meth.locks = false) {k0 : Nat} {v2 : Int32} (t0 : cls k0 = 10) {K : St → Int32 → Option (St × Int32)} (hK : ∀ (S : St) (v3 : Int32) (ls : Array Slot), lv_has ls 4 [(0, .ref (base + k0)), (2, .int v2), (3, .int v3)] → Sim p l e rm_X10_contrary s m args below meth c D cy base 0 0 (fun S1 r => MQ below (QcI D cy base tS S1 r) args s 0 0 (AA base)) (K S v3) S (F0 m 157 ls [])) : ∀ (n : Nat) (S : St) (v3 : Int32) (ls : Array Slot), lv_has ls 4 [(0, .ref (base + k0)), (2, .int v2), (3, .int v3)] → Sim p l e rm_X10_contrary s m args below meth c D cy base 0 0 (fun S1 r => MQ below (QcI D cy base tS S1 r) args s 0 0 (AA base)) (X10_contrary_113 k0 v2 K n S v3) S (F0 m 113 ls []) := by
  intro n
  induction n with
  | zero => intro S v3 ls hl; exact Sim.none
  | succ n ih =>
    intro S v3 ls hl
    rw [X10_contrary_113]
    refine r_iload_n (pc := 113) C dX10_contrary_113 rfl (lv_at hl 2 rfl) ?_
    refine r_aload_n (pc := 114) C dX10_contrary_114 rfl (lv_at hl 0 rfl) ?_
    refine gf_X10_10 (pc := 115) C t0 dX10_contrary_115 ?_
    have t43 := ft_10_0 t0
    refine gf_X10_100 (pc := 118) C t43 dX10_contrary_118 ?_
    refine r_icmp_ge (pc := 121) C (tgt := 157) dX10_contrary_121 (by decide) (fun _ => ?_) (fun _ => ?_)
    · exact hK S v3 _ (lv_sub hl [0, 1, 2] rfl)
    · refine r_aload_n (pc := 124) C dX10_contrary_124 rfl (lv_at hl 0 rfl) ?_
      refine gf_X10_25 (pc := 125) C t0 dX10_contrary_125 ?_
      have t44 := ft_10_2 t0
      refine gf_X10_141 (pc := 128) C t44 dX10_contrary_128 ?_
      have t45 := ft_2_1 t44
      refine r_iload_n (pc := 131) C dX10_contrary_131 rfl (lv_at hl 2 rfl) ?_
      refine r_iconst (pc := 132) C (2 : Int32) dX10_contrary_132 (by decide) ?_
      refine r_aload_n (pc := 133) C dX10_contrary_133 rfl (lv_at hl 0 rfl) ?_
      refine gf_X10_88 (pc := 134) C t0 dX10_contrary_134 ?_
      have t46 := ft_10_12 t0
      refine r_iload_n (pc := 137) C dX10_contrary_137 rfl (lv_at hl 2 rfl) ?_
      refine r_iald (pc := 138) C t46 dX10_contrary_138 ?_
      refine r_imul (pc := 139) C dX10_contrary_139 ?_
      refine r_aload_n (pc := 140) C dX10_contrary_140 rfl (lv_at hl 0 rfl) ?_
      refine gf_X10_25 (pc := 141) C t0 dX10_contrary_141 ?_
      have t47 := ft_10_2 t0
      refine gf_X10_141 (pc := 144) C t47 dX10_contrary_144 ?_
      have t48 := ft_2_1 t47
      refine r_iload_n (pc := 147) C dX10_contrary_147 rfl (lv_at hl 2 rfl) ?_
      refine r_iald (pc := 148) C t48 dX10_contrary_148 ?_
      refine r_isub (pc := 149) C dX10_contrary_149 ?_
      refine r_iast (pc := 150) C t45 dX10_contrary_150 (fun S49 => ?_)
      refine r_iinc (pc := 151) C (k := 2) (1 : Int32) (fun v50 => [(3, .int v50), (0, .ref (base + k0)), (2, .int v2)]) dX10_contrary_151 hl rfl (by decide) (Nat.le_of_ble_eq_true rfl) (fun _ => rfl) (fun v50 ls hl => ?_)
      refine r_goto (pc := 154) C (tgt := 113) dX10_contrary_154 (by decide) ?_
      exact ih S49 v50 _ (lv_sub hl [1, 2, 0] rfl)

set_option maxHeartbeats 4000000 in
set_option maxRecDepth 100000 in
theorem sm_X10_contrary {p : Program} {l : Launch} {e : Env} {s : State} {m : MethodId} {args : Array Value} {below : List Frame} {meth : Method} {c : Code} {D : va_G} {cy : Nat → ClassId} {base tS : Nat} {S : St} {k0 : Nat} {v1 : Int32} {v2 : Int32} {ls : Array Slot} (C : Cx p rm_X10_contrary s m args c RX10 cX10_contrary 4 D cy base tS 0 0) (hr : meth.sig.returnType = (some .int)) (hk : meth.locks = false) (t0 : cls k0 = 10) (hl : lv_has ls 4 [(0, .ref (base + k0)), (1, .int v1), (2, .int v2)]) : Sim p l e rm_X10_contrary s m args below meth c D cy base 0 0 (fun S1 r => MQ below (QcI D cy base tS S1 r) args s 0 0 (AA base)) (X10_contrary S k0 v1 v2) S (F0 m 0 ls []) := by
  unfold X10_contrary
  refine r_iload_n (pc := 0) C dX10_contrary_0 rfl (lv_at hl 1 rfl) ?_
  refine cv_X10_217 (pc := 1) C  hl.1 ⟨Nat.le_of_ble_eq_true rfl, Nat.le_of_ble_eq_true rfl⟩ (Nat.le_of_ble_eq_true rfl) dX10_contrary_1 (fun S21 v22 => ?_)
  refine r_join (fun (j : St → Option (St × Int32)) => ∀ (S24 : St)  (ls : Array Slot), lv_has ls 4 [(0, .ref (base + k0))] → Sim p l e rm_X10_contrary s m args below meth c D cy base 0 0 (fun S1 r => MQ below (QcI D cy base tS S1 r) args s 0 0 (AA base)) (j S24) S24 (F0 m 14 ls [])) ?_ (fun j23 hj23 => ?_)
  · intro S24 ls hl
    refine r_aload_n (pc := 14) C dX10_contrary_14 rfl (lv_at hl 0 rfl) ?_
    refine r_iconst (pc := 15) C (-1 : Int32) dX10_contrary_15 (by decide) ?_
    refine cv_X10_96 (pc := 16) C t0 hl.1 ⟨Nat.le_of_ble_eq_true rfl, Nat.le_of_ble_eq_true rfl⟩ (Nat.le_of_ble_eq_true rfl) dX10_contrary_16 (fun S25 v26 => ?_)
    exact r_iret (pc := 19) C hr hk dX10_contrary_19
  refine r_if_eq (pc := 4) C (tgt := 14) dX10_contrary_4 (by decide) (fun _ => ?_) (fun _ => ?_)
  · exact hj23 S21  _ (lv_sub hl [0] rfl)
  · refine r_iload_n (pc := 7) C dX10_contrary_7 rfl (lv_at hl 2 rfl) ?_
    refine cv_X10_217 (pc := 8) C  hl.1 ⟨Nat.le_of_ble_eq_true rfl, Nat.le_of_ble_eq_true rfl⟩ (Nat.le_of_ble_eq_true rfl) dX10_contrary_8 (fun S27 v28 => ?_)
    refine r_if_ne (pc := 11) C (tgt := 20) dX10_contrary_11 (by decide) (fun _ => ?_) (fun _ => ?_)
    · refine r_aload_n (pc := 20) C dX10_contrary_20 rfl (lv_at hl 0 rfl) ?_
      refine gf_X10_70 (pc := 21) C t0 dX10_contrary_21 ?_
      have t29 := ft_10_9 t0
      refine r_iload_n (pc := 24) C dX10_contrary_24 rfl (lv_at hl 1 rfl) ?_
      refine r_zald (pc := 25) C t29 dX10_contrary_25 ?_
      refine r_if_ne (pc := 26) C (tgt := 36) dX10_contrary_26 (by decide) (fun _ => ?_) (fun _ => ?_)
      · refine r_aload_n (pc := 36) C dX10_contrary_36 rfl (lv_at hl 0 rfl) ?_
        refine gf_X10_92 (pc := 37) C t0 dX10_contrary_37 ?_
        refine r_if_ne (pc := 40) C (tgt := 50) dX10_contrary_40 (by decide) (fun _ => ?_) (fun _ => ?_)
        · refine r_aload_n (pc := 50) C dX10_contrary_50 rfl (lv_at hl 0 rfl) ?_
          refine gf_X10_10 (pc := 51) C t0 dX10_contrary_51 ?_
          have t30 := ft_10_0 t0
          refine cv_X10_201 (pc := 54) C t30 hl.1 ⟨Nat.le_of_ble_eq_true rfl, Nat.le_of_ble_eq_true rfl⟩ (Nat.le_of_ble_eq_true rfl) dX10_contrary_54 (fun S31 v32 => ?_)
          refine r_if_ne (pc := 57) C (tgt := 67) dX10_contrary_57 (by decide) (fun _ => ?_) (fun _ => ?_)
          · refine r_aload_n (pc := 67) C dX10_contrary_67 rfl (lv_at hl 0 rfl) ?_
            refine cv_X10_234 (pc := 68) C t0 hl.1 ⟨Nat.le_of_ble_eq_true rfl, Nat.le_of_ble_eq_true rfl⟩ (Nat.le_of_ble_eq_true rfl) dX10_contrary_68 (fun S33 v34 => ?_)
            refine r_if_ne (pc := 71) C (tgt := 81) dX10_contrary_71 (by decide) (fun _ => ?_) (fun _ => ?_)
            · refine r_aload_n (pc := 81) C dX10_contrary_81 rfl (lv_at hl 0 rfl) ?_
              refine gf_X10_25 (pc := 82) C t0 dX10_contrary_82 ?_
              have t35 := ft_10_2 t0
              refine r_aload_n (pc := 85) C dX10_contrary_85 rfl (lv_at hl 0 rfl) ?_
              refine gf_X10_67 (pc := 86) C t0 dX10_contrary_86 ?_
              have t36 := ft_10_8 t0
              refine r_iload_n (pc := 89) C dX10_contrary_89 rfl (lv_at hl 1 rfl) ?_
              refine r_aald17 (pc := 90) C t36 dX10_contrary_90 (fun b38 => ?_)
              have t37 := et_17_8 t36 b38
              refine cv_X10_224 (pc := 91) C t35 t37 hl.1 ⟨Nat.le_of_ble_eq_true rfl, Nat.le_of_ble_eq_true rfl⟩ (Nat.le_of_ble_eq_true rfl) dX10_contrary_91 (fun S39 _ => ?_)
              refine r_aload_n (pc := 94) C dX10_contrary_94 rfl (lv_at hl 0 rfl) ?_
              refine gf_X10_25 (pc := 95) C t0 dX10_contrary_95 ?_
              have t40 := ft_10_2 t0
              refine cv_X10_237 (pc := 98) C t40 hl.1 ⟨Nat.le_of_ble_eq_true rfl, Nat.le_of_ble_eq_true rfl⟩ (Nat.le_of_ble_eq_true rfl) dX10_contrary_98 (fun S41 v42 => ?_)
              refine r_if_ne (pc := 101) C (tgt := 111) dX10_contrary_101 (by decide) (fun _ => ?_) (fun _ => ?_)
              · refine r_iconst (pc := 111) C (0 : Int32) dX10_contrary_111 (by decide) ?_
                refine r_istore_n (lv2 := [(3, .int (0 : Int32)), (0, .ref (base + k0)), (1, .int v1), (2, .int v2)]) (pc := 112) C dX10_contrary_112 rfl hl (Nat.le_of_ble_eq_true rfl) rfl (fun ls hl => ?_)
                refine lp_X10_contrary_113 (ls := ls) C hr hk t0 (fun S51 v52 ls hl => ?_) FU S41 (0 : Int32) _ (lv_sub hl [1, 3, 0] rfl)
                refine r_aload_n (pc := 157) C dX10_contrary_157 rfl (lv_at hl 0 rfl) ?_
                refine r_iload_n (pc := 158) C dX10_contrary_158 rfl (lv_at hl 1 rfl) ?_
                refine cv_X10_231 (pc := 159) C t0 hl.1 ⟨Nat.le_of_ble_eq_true rfl, Nat.le_of_ble_eq_true rfl⟩ (Nat.le_of_ble_eq_true rfl) dX10_contrary_159 (fun S53 v54 => ?_)
                exact r_iret (pc := 162) C hr hk dX10_contrary_162
              · refine r_aload_n (pc := 104) C dX10_contrary_104 rfl (lv_at hl 0 rfl) ?_
                refine r_bipush (pc := 105) C (-5 : Int32) dX10_contrary_105 (by decide) ?_
                refine cv_X10_96 (pc := 107) C t0 hl.1 ⟨Nat.le_of_ble_eq_true rfl, Nat.le_of_ble_eq_true rfl⟩ (Nat.le_of_ble_eq_true rfl) dX10_contrary_107 (fun S55 v56 => ?_)
                exact r_iret (pc := 110) C hr hk dX10_contrary_110
            · refine r_aload_n (pc := 74) C dX10_contrary_74 rfl (lv_at hl 0 rfl) ?_
              refine r_bipush (pc := 75) C (-5 : Int32) dX10_contrary_75 (by decide) ?_
              refine cv_X10_96 (pc := 77) C t0 hl.1 ⟨Nat.le_of_ble_eq_true rfl, Nat.le_of_ble_eq_true rfl⟩ (Nat.le_of_ble_eq_true rfl) dX10_contrary_77 (fun S57 v58 => ?_)
              exact r_iret (pc := 80) C hr hk dX10_contrary_80
          · refine r_aload_n (pc := 60) C dX10_contrary_60 rfl (lv_at hl 0 rfl) ?_
            refine r_bipush (pc := 61) C (-12 : Int32) dX10_contrary_61 (by decide) ?_
            refine cv_X10_96 (pc := 63) C t0 hl.1 ⟨Nat.le_of_ble_eq_true rfl, Nat.le_of_ble_eq_true rfl⟩ (Nat.le_of_ble_eq_true rfl) dX10_contrary_63 (fun S59 v60 => ?_)
            exact r_iret (pc := 66) C hr hk dX10_contrary_66
        · refine r_aload_n (pc := 43) C dX10_contrary_43 rfl (lv_at hl 0 rfl) ?_
          refine r_bipush (pc := 44) C (-8 : Int32) dX10_contrary_44 (by decide) ?_
          refine cv_X10_96 (pc := 46) C t0 hl.1 ⟨Nat.le_of_ble_eq_true rfl, Nat.le_of_ble_eq_true rfl⟩ (Nat.le_of_ble_eq_true rfl) dX10_contrary_46 (fun S61 v62 => ?_)
          exact r_iret (pc := 49) C hr hk dX10_contrary_49
      · refine r_aload_n (pc := 29) C dX10_contrary_29 rfl (lv_at hl 0 rfl) ?_
        refine r_bipush (pc := 30) C (-11 : Int32) dX10_contrary_30 (by decide) ?_
        refine cv_X10_96 (pc := 32) C t0 hl.1 ⟨Nat.le_of_ble_eq_true rfl, Nat.le_of_ble_eq_true rfl⟩ (Nat.le_of_ble_eq_true rfl) dX10_contrary_32 (fun S63 v64 => ?_)
        exact r_iret (pc := 35) C hr hk dX10_contrary_35
    · exact hj23 S27  _ (lv_sub hl [0] rfl)

theorem ct_X10_contrary (l : Launch) {D : va_G} {cy : Nat → ClassId} {base tS : Nat} {S : St} {k0 : Nat} {v1 : Int32} {v2 : Int32} (t0 : cls k0 = 10) {S1 : St} {r1 : Int32} (h : X10_contrary S k0 v1 v2 = some (S1, r1)) : Met l yX10_contrary (wsY yX10_contrary cX10_contrary 4 (some .int)) rm_X10_contrary (va_Pc [.ref (base + k0), .int v1, .int v2] (World D cy base tS S)) (QcI D cy base tS S1 r1) 0 0 (AA base) := conI rfl rfl (by decide) (Nat.le_of_ble_eq_true rfl) (fun p e s m args below meth c ls C hr hk hl => sm_X10_contrary C hr hk t0 hl) h
abbrev rm_X10_isPrimeInRange : Room := { frames := 0, cells := 0, slots := 0, locals := 0 }
set_option maxHeartbeats 4000000 in
set_option maxRecDepth 100000 in
theorem lp_X10_isPrimeInRange_16 {p : Program} {l : Launch} {e : Env} {s : State} {m : MethodId} {args : Array Value} {below : List Frame} {meth : Method} {c : Code} {D : va_G} {cy : Nat → ClassId} {base tS : Nat} {ls : Array Slot} (C : Cx p rm_X10_isPrimeInRange s m args c RX10 cX10_isPrimeInRange 2 D cy base tS 0 0) (hr : meth.sig.returnType = (some .boolean)) (hk : meth.locks = false) {v0 : Int32}  {K : St → Int32 → Option (St × Int32)} (hK : ∀ (S : St) (v1 : Int32) (ls : Array Slot), lv_has ls 2 [(0, .int v0), (1, .int v1)] → Sim p l e rm_X10_isPrimeInRange s m args below meth c D cy base 0 0 (fun S1 r => MQ below (QcI D cy base tS S1 r) args s 0 0 (AA base)) (K S v1) S (F0 m 37 ls [])) : ∀ (n : Nat) (S : St) (v1 : Int32) (ls : Array Slot), lv_has ls 2 [(0, .int v0), (1, .int v1)] → Sim p l e rm_X10_isPrimeInRange s m args below meth c D cy base 0 0 (fun S1 r => MQ below (QcI D cy base tS S1 r) args s 0 0 (AA base)) (X10_isPrimeInRange_16 v0 K n S v1) S (F0 m 16 ls []) := by
  intro n
  induction n with
  | zero => intro S v1 ls hl; exact Sim.none
  | succ n ih =>
    intro S v1 ls hl
    rw [X10_isPrimeInRange_16]
    refine r_iload_n (pc := 16) C dX10_isPrimeInRange_16 rfl (lv_at hl 1 rfl) ?_
    refine r_iload_n (pc := 17) C dX10_isPrimeInRange_17 rfl (lv_at hl 1 rfl) ?_
    refine r_imul (pc := 18) C dX10_isPrimeInRange_18 ?_
    refine r_iload_n (pc := 19) C dX10_isPrimeInRange_19 rfl (lv_at hl 0 rfl) ?_
    refine r_icmp_gt (pc := 20) C (tgt := 37) dX10_isPrimeInRange_20 (by decide) (fun _ => ?_) (fun _ => ?_)
    · exact hK S v1 _ (lv_sub hl [0, 1] rfl)
    · refine r_iload_n (pc := 23) C dX10_isPrimeInRange_23 rfl (lv_at hl 0 rfl) ?_
      refine r_iload_n (pc := 24) C dX10_isPrimeInRange_24 rfl (lv_at hl 1 rfl) ?_
      refine r_irem (pc := 25) C dX10_isPrimeInRange_25 (fun _ => ?_)
      refine r_if_ne (pc := 26) C (tgt := 31) dX10_isPrimeInRange_26 (by decide) (fun _ => ?_) (fun _ => ?_)
      · refine r_iinc (pc := 31) C (k := 1) (1 : Int32) (fun v23 => [(1, .int v23), (0, .int v0)]) dX10_isPrimeInRange_31 hl rfl (by decide) (Nat.le_of_ble_eq_true rfl) (fun _ => rfl) (fun v23 ls hl => ?_)
        refine r_goto (pc := 34) C (tgt := 16) dX10_isPrimeInRange_34 (by decide) ?_
        exact ih S v23 _ (lv_sub hl [1, 0] rfl)
      · refine r_iconst (pc := 29) C (0 : Int32) dX10_isPrimeInRange_29 (by decide) ?_
        exact r_zret (pc := 30) C rfl hr hk dX10_isPrimeInRange_30

set_option maxHeartbeats 4000000 in
set_option maxRecDepth 100000 in
theorem sm_X10_isPrimeInRange {p : Program} {l : Launch} {e : Env} {s : State} {m : MethodId} {args : Array Value} {below : List Frame} {meth : Method} {c : Code} {D : va_G} {cy : Nat → ClassId} {base tS : Nat} {S : St} {v0 : Int32} {ls : Array Slot} (C : Cx p rm_X10_isPrimeInRange s m args c RX10 cX10_isPrimeInRange 2 D cy base tS 0 0) (hr : meth.sig.returnType = (some .boolean)) (hk : meth.locks = false)  (hl : lv_has ls 2 [(0, .int v0)]) : Sim p l e rm_X10_isPrimeInRange s m args below meth c D cy base 0 0 (fun S1 r => MQ below (QcI D cy base tS S1 r) args s 0 0 (AA base)) (X10_isPrimeInRange S v0) S (F0 m 0 ls []) := by
  unfold X10_isPrimeInRange
  refine r_iload_n (pc := 0) C dX10_isPrimeInRange_0 rfl (lv_at hl 0 rfl) ?_
  refine r_iconst (pc := 1) C (2 : Int32) dX10_isPrimeInRange_1 (by decide) ?_
  refine r_join (fun (j : St → Option (St × Int32)) => ∀ (S22 : St)  (ls : Array Slot), lv_has ls 2 [] → Sim p l e rm_X10_isPrimeInRange s m args below meth c D cy base 0 0 (fun S1 r => MQ below (QcI D cy base tS S1 r) args s 0 0 (AA base)) (j S22) S22 (F0 m 12 ls [])) ?_ (fun j21 hj21 => ?_)
  · intro S22 ls hl
    refine r_iconst (pc := 12) C (0 : Int32) dX10_isPrimeInRange_12 (by decide) ?_
    exact r_zret (pc := 13) C rfl hr hk dX10_isPrimeInRange_13
  refine r_icmp_lt (pc := 2) C (tgt := 12) dX10_isPrimeInRange_2 (by decide) (fun _ => ?_) (fun _ => ?_)
  · exact hj21 S  _ (lv_sub hl [] rfl)
  · refine r_iload_n (pc := 5) C dX10_isPrimeInRange_5 rfl (lv_at hl 0 rfl) ?_
    refine r_sipush (pc := 6) C (30011 : Int32) dX10_isPrimeInRange_6 (by decide) ?_
    refine r_icmp_le (pc := 9) C (tgt := 14) dX10_isPrimeInRange_9 (by decide) (fun _ => ?_) (fun _ => ?_)
    · refine r_iconst (pc := 14) C (2 : Int32) dX10_isPrimeInRange_14 (by decide) ?_
      refine r_istore_n (lv2 := [(1, .int (2 : Int32)), (0, .int v0)]) (pc := 15) C dX10_isPrimeInRange_15 rfl hl (Nat.le_of_ble_eq_true rfl) rfl (fun ls hl => ?_)
      refine lp_X10_isPrimeInRange_16 (ls := ls) C hr hk  (fun S24 v25 ls hl => ?_) FU S (2 : Int32) _ (lv_sub hl [1, 0] rfl)
      refine r_iconst (pc := 37) C (1 : Int32) dX10_isPrimeInRange_37 (by decide) ?_
      exact r_zret (pc := 38) C rfl hr hk dX10_isPrimeInRange_38
    · exact hj21 S  _ (lv_sub hl [] rfl)

theorem ct_X10_isPrimeInRange (l : Launch) {D : va_G} {cy : Nat → ClassId} {base tS : Nat} {S : St} {v0 : Int32}  {S1 : St} {r1 : Int32} (h : X10_isPrimeInRange S v0 = some (S1, r1)) : Met l yX10_isPrimeInRange (wsY yX10_isPrimeInRange cX10_isPrimeInRange 2 (some .boolean)) rm_X10_isPrimeInRange (va_Pc [.int v0] (World D cy base tS S)) (QcI D cy base tS S1 r1) 0 0 (AA base) := conI rfl rfl (by decide) (Nat.le_of_ble_eq_true rfl) (fun p e s m args below meth c ls C hr hk hl => sm_X10_isPrimeInRange C hr hk  hl) h
theorem cv_X10_240 {p : Program} {l : Launch} {e : Env} {R : Room} {s : State} {m : MethodId} {args : Array Value} {below : List Frame} {meth : Method} {c : Code} {D : va_G} {cy : Nat → ClassId} {base tS nc ns : Nat} {cc : ByteArray} {nL pc : Nat} {ls : Array Slot} {rest : List Value} {S : St} {ρ : Type} {Q : St → ρ → State → Prop} (C : Cx p R s m args c RX10 cc nL D cy base tS nc ns) {v0 : Int32}  (hl : ls.size = nL) (hR : rm_X10_isPrimeInRange.frames + 1 ≤ R.frames ∧ 8 + (2 + 11) + rm_X10_isPrimeInRange.locals ≤ R.locals) {b : St → Int32 → Option (St × ρ)} (hroom : (rest.map fun v => v.category).sum ≤ 8) (hd : decode cc pc = .ok (.invokestatic 240, 3)) (kk : ∀ (S1 : St) (r : Int32), Sim p l e R s m args below meth c D cy base nc ns Q (b S1 r) S1 (F0 m (pc + 3) ls (.int r :: rest))) : Sim p l e R s m args below meth c D cy base nc ns Q (bd (X10_isPrimeInRange S v0) b) S (F0 m pc ls (.int v0 :: rest)) := r_callSI (n := 1) (As := [.int v0]) C hl (fun S1 r1 h => ct_X10_isPrimeInRange l  h) wd_396 wd_397 wd_164 wd_398 rfl rfl (by decide +kernel) hR rfl rfl hroom hd kk
abbrev rm_X8_power : Room := { frames := 0, cells := 0, slots := 0, locals := 0 }
set_option maxHeartbeats 4000000 in
set_option maxRecDepth 100000 in
theorem lp_X8_power_9 {p : Program} {l : Launch} {e : Env} {s : State} {m : MethodId} {args : Array Value} {below : List Frame} {meth : Method} {c : Code} {D : va_G} {cy : Nat → ClassId} {base tS : Nat} {ls : Array Slot} (C : Cx p rm_X8_power s m args c RX8 cX8_power 9 D cy base tS 0 0) (hr : meth.sig.returnType = (some .long)) (hk : meth.locks = false) {v3 : Int32}  {K : St → Int64 → Int64 → Int32 → Option (St × Int64)} (hK : ∀ (S : St) (v4 : Int64) (v6 : Int64) (v8 : Int32) (ls : Array Slot), lv_has ls 9 [(3, .int v3), (4, .long v4), (6, .long v6), (8, .int v8)] → Sim p l e rm_X8_power s m args below meth c D cy base 0 0 (fun S1 r => MQ below (QcJ D cy base tS S1 r) args s 0 0 (AA base)) (K S v4 v6 v8) S (F0 m 50 ls [])) : ∀ (n : Nat) (S : St) (v4 : Int64) (v6 : Int64) (v8 : Int32) (ls : Array Slot), lv_has ls 9 [(3, .int v3), (4, .long v4), (6, .long v6), (8, .int v8)] → Sim p l e rm_X8_power s m args below meth c D cy base 0 0 (fun S1 r => MQ below (QcJ D cy base tS S1 r) args s 0 0 (AA base)) (X8_power_9 v3 K n S v4 v6 v8) S (F0 m 9 ls []) := by
  intro n
  induction n with
  | zero => intro S v4 v6 v8 ls hl; exact Sim.none
  | succ n ih =>
    intro S v4 v6 v8 ls hl
    rw [X8_power_9]
    refine r_iload (pc := 9) C dX8_power_9 (lv_at hl 3 rfl) ?_
    refine r_if_le (pc := 11) C (tgt := 50) dX8_power_11 (by decide) (fun _ => ?_) (fun _ => ?_)
    · exact hK S v4 v6 v8 _ (lv_sub hl [0, 1, 2, 3] rfl)
    · refine r_iload (pc := 14) C dX8_power_14 (lv_at hl 3 rfl) ?_
      refine r_iconst (pc := 16) C (1 : Int32) dX8_power_16 (by decide) ?_
      refine r_iand (pc := 17) C dX8_power_17 ?_
      refine r_join (fun (j : St → Int64 → Option (St × Int64)) => ∀ (S22 : St) (v23 : Int64) (ls : Array Slot), lv_has ls 9 [(3, .int v3), (4, .long v23), (6, .long v6), (8, .int v8)] → Sim p l e rm_X8_power s m args below meth c D cy base 0 0 (fun S1 r => MQ below (QcJ D cy base tS S1 r) args s 0 0 (AA base)) (j S22 v23) S22 (F0 m 31 ls [])) ?_ (fun j21 hj21 => ?_)
      · intro S22 v23 ls hl
        refine r_lload (pc := 31) C dX8_power_31 (lv_at hl 2 rfl) ?_
        refine r_lload (pc := 33) C dX8_power_33 (lv_at hl 2 rfl) ?_
        refine r_lmul (pc := 35) C dX8_power_35 ?_
        refine r_iload_n (pc := 36) C dX8_power_36 rfl (lv_at hl 0 rfl) ?_
        refine r_i2l (pc := 37) C dX8_power_37 ?_
        refine r_lrem (pc := 38) C dX8_power_38 (fun _ => ?_)
        refine r_topl (fun v24 => ?_)
        refine r_lstore (lv2 := [(6, .long v24), (3, .int v3), (4, .long v23), (8, .int v8)]) (pc := 39) C dX8_power_39 hl (Nat.le_of_ble_eq_true rfl) rfl (fun ls hl => ?_)
        refine r_iload (pc := 41) C dX8_power_41 (lv_at hl 3 rfl) ?_
        refine r_iconst (pc := 43) C (1 : Int32) dX8_power_43 (by decide) ?_
        refine r_ishr (pc := 44) C dX8_power_44 ?_
        refine r_topi (fun v25 => ?_)
        refine r_istore (lv2 := [(8, .int v25), (6, .long v24), (3, .int v3), (4, .long v23)]) (pc := 45) C dX8_power_45 hl (Nat.le_of_ble_eq_true rfl) rfl (fun ls hl => ?_)
        refine r_goto (pc := 47) C (tgt := 9) dX8_power_47 (by decide) ?_
        exact ih S22 v23 v24 v25 _ (lv_sub hl [2, 3, 1, 0] rfl)
      refine r_if_eq (pc := 18) C (tgt := 31) dX8_power_18 (by decide) (fun _ => ?_) (fun _ => ?_)
      · exact hj21 S v4 _ (lv_sub hl [0, 1, 2, 3] rfl)
      · refine r_lload (pc := 21) C dX8_power_21 (lv_at hl 1 rfl) ?_
        refine r_lload (pc := 23) C dX8_power_23 (lv_at hl 2 rfl) ?_
        refine r_lmul (pc := 25) C dX8_power_25 ?_
        refine r_iload_n (pc := 26) C dX8_power_26 rfl (lv_at hl 0 rfl) ?_
        refine r_i2l (pc := 27) C dX8_power_27 ?_
        refine r_lrem (pc := 28) C dX8_power_28 (fun _ => ?_)
        refine r_topl (fun v26 => ?_)
        refine r_lstore (lv2 := [(4, .long v26), (3, .int v3), (6, .long v6), (8, .int v8)]) (pc := 29) C dX8_power_29 hl (Nat.le_of_ble_eq_true rfl) rfl (fun ls hl => ?_)
        exact hj21 S v26 _ (lv_sub hl [1, 0, 2, 3] rfl)

set_option maxHeartbeats 4000000 in
set_option maxRecDepth 100000 in
theorem sm_X8_power {p : Program} {l : Launch} {e : Env} {s : State} {m : MethodId} {args : Array Value} {below : List Frame} {meth : Method} {c : Code} {D : va_G} {cy : Nat → ClassId} {base tS : Nat} {S : St} {v0 : Int64} {v2 : Int32} {v3 : Int32} {ls : Array Slot} (C : Cx p rm_X8_power s m args c RX8 cX8_power 9 D cy base tS 0 0) (hr : meth.sig.returnType = (some .long)) (hk : meth.locks = false)  (hl : lv_has ls 9 [(0, .long v0), (2, .int v2), (3, .int v3)]) : Sim p l e rm_X8_power s m args below meth c D cy base 0 0 (fun S1 r => MQ below (QcJ D cy base tS S1 r) args s 0 0 (AA base)) (X8_power S v0 v2 v3) S (F0 m 0 ls []) := by
  unfold X8_power
  refine r_lconst (pc := 0) C (1 : Int64) dX8_power_0 (by decide) ?_
  refine r_lstore (lv2 := [(4, .long (1 : Int64)), (0, .long v0), (2, .int v2), (3, .int v3)]) (pc := 1) C dX8_power_1 hl (Nat.le_of_ble_eq_true rfl) rfl (fun ls hl => ?_)
  refine r_lload_n (pc := 3) C dX8_power_3 rfl (lv_at hl 1 rfl) ?_
  refine r_lstore (lv2 := [(6, .long v0), (4, .long (1 : Int64)), (0, .long v0), (2, .int v2), (3, .int v3)]) (pc := 4) C dX8_power_4 hl (Nat.le_of_ble_eq_true rfl) rfl (fun ls hl => ?_)
  refine r_iload_n (pc := 6) C dX8_power_6 rfl (lv_at hl 3 rfl) ?_
  refine r_istore (lv2 := [(8, .int v2), (6, .long v0), (4, .long (1 : Int64)), (0, .long v0), (2, .int v2), (3, .int v3)]) (pc := 7) C dX8_power_7 hl (Nat.le_of_ble_eq_true rfl) rfl (fun ls hl => ?_)
  refine lp_X8_power_9 (ls := ls) C hr hk  (fun S27 v28 v29 v30 ls hl => ?_) FU S (1 : Int64) v0 v2 _ (lv_sub hl [5, 2, 1, 0] rfl)
  refine r_lload (pc := 50) C dX8_power_50 (lv_at hl 1 rfl) ?_
  exact r_lret (pc := 52) C hr hk dX8_power_52

theorem ct_X8_power (l : Launch) {D : va_G} {cy : Nat → ClassId} {base tS : Nat} {S : St} {v0 : Int64} {v2 : Int32} {v3 : Int32}  {S1 : St} {r1 : Int64} (h : X8_power S v0 v2 v3 = some (S1, r1)) : Met l yX8_power (wsY yX8_power cX8_power 9 (some .long)) rm_X8_power (va_Pc [.long v0, .int v2, .int v3] (World D cy base tS S)) (QcJ D cy base tS S1 r1) 0 0 (AA base) := conJ rfl rfl (by decide) (Nat.le_of_ble_eq_true rfl) (fun p e s m args below meth c ls C hr hk hl => sm_X8_power C hr hk  hl) h
theorem cv_X8_50 {p : Program} {l : Launch} {e : Env} {R : Room} {s : State} {m : MethodId} {args : Array Value} {below : List Frame} {meth : Method} {c : Code} {D : va_G} {cy : Nat → ClassId} {base tS nc ns : Nat} {cc : ByteArray} {nL pc : Nat} {ls : Array Slot} {rest : List Value} {S : St} {ρ : Type} {Q : St → ρ → State → Prop} (C : Cx p R s m args c RX8 cc nL D cy base tS nc ns) {v0 : Int64} {v2 : Int32} {v3 : Int32}  (hl : ls.size = nL) (hR : rm_X8_power.frames + 1 ≤ R.frames ∧ 8 + (9 + 11) + rm_X8_power.locals ≤ R.locals) {b : St → Int64 → Option (St × ρ)} (hroom : (rest.map fun v => v.category).sum ≤ 8) (hd : decode cc pc = .ok (.invokestatic 50, 3)) (kk : ∀ (S1 : St) (r : Int64), Sim p l e R s m args below meth c D cy base nc ns Q (b S1 r) S1 (F0 m (pc + 3) ls (.long r :: rest))) : Sim p l e R s m args below meth c D cy base nc ns Q (bd (X8_power S v0 v2 v3) b) S (F0 m pc ls (.int v3 :: .int v2 :: .long v0 :: rest)) := r_callSJ (n := 3) (As := [.long v0, .int v2, .int v3]) C hl (fun S1 r1 h => ct_X8_power l  h) wd_399 wd_400 wd_401 wd_402 rfl rfl (by decide +kernel) hR rfl rfl hroom hd kk
abbrev rm_X8_clearBelow : Room := { frames := 1, cells := 0, slots := 0, locals := 28 }
set_option maxHeartbeats 4000000 in
set_option maxRecDepth 100000 in
theorem lp_X8_clearBelow_48 {p : Program} {l : Launch} {e : Env} {s : State} {m : MethodId} {args : Array Value} {below : List Frame} {meth : Method} {c : Code} {D : va_G} {cy : Nat → ClassId} {base tS : Nat} {ls : Array Slot} (C : Cx p rm_X8_clearBelow s m args c RX8 cX8_clearBelow 12 D cy base tS 0 0) (hr : meth.sig.returnType = none) (hk : meth.locks = false) {k0 : Nat} {v1 : Int32} {v2 : Int32} {v3 : Int32} {v4 : Int64} {v6 : Int32} {v7 : Int64} (t0 : cls k0 = 8) {K : St → Int32 → Option (St × Unit)} (hK : ∀ (S : St) (v9 : Int32) (ls : Array Slot), lv_has ls 12 [(0, .ref (base + k0)), (1, .int v1), (2, .int v2), (3, .int v3), (4, .long v4), (6, .int v6), (7, .long v7), (9, .int v9)] → Sim p l e rm_X8_clearBelow s m args below meth c D cy base 0 0 (fun S1 r => MQ below (QcV D cy base tS S1 r) args s 0 0 (AA base)) (K S v9) S (F0 m 115 ls [])) : ∀ (n : Nat) (S : St) (v9 : Int32) (ls : Array Slot), lv_has ls 12 [(0, .ref (base + k0)), (1, .int v1), (2, .int v2), (3, .int v3), (4, .long v4), (6, .int v6), (7, .long v7), (9, .int v9)] → Sim p l e rm_X8_clearBelow s m args below meth c D cy base 0 0 (fun S1 r => MQ below (QcV D cy base tS S1 r) args s 0 0 (AA base)) (X8_clearBelow_48 k0 v1 v2 v3 v4 v6 v7 K n S v9) S (F0 m 48 ls []) := by
  intro n
  induction n with
  | zero => intro S v9 ls hl; exact Sim.none
  | succ n ih =>
    intro S v9 ls hl
    rw [X8_clearBelow_48]
    refine r_iload (pc := 48) C dX8_clearBelow_48 (lv_at hl 7 rfl) ?_
    refine r_iload_n (pc := 50) C dX8_clearBelow_50 rfl (lv_at hl 2 rfl) ?_
    refine r_icmp_ge (pc := 51) C (tgt := 115) dX8_clearBelow_51 (by decide) (fun _ => ?_) (fun _ => ?_)
    · exact hK S v9 _ (lv_sub hl [0, 1, 2, 3, 4, 5, 6, 7] rfl)
    · refine r_aload_n (pc := 54) C dX8_clearBelow_54 rfl (lv_at hl 0 rfl) ?_
      refine gf_X8_11 (pc := 55) C t0 dX8_clearBelow_55 ?_
      have t31 := ft_8_0 t0
      refine r_iload (pc := 58) C dX8_clearBelow_58 (lv_at hl 5 rfl) ?_
      refine r_aald18 (pc := 60) C t31 dX8_clearBelow_60 (fun b33 => ?_)
      have t32 := et_18_12 t31 b33
      refine r_iload (pc := 61) C dX8_clearBelow_61 (lv_at hl 7 rfl) ?_
      refine r_lald (pc := 63) C t32 dX8_clearBelow_63 ?_
      refine r_lload (pc := 64) C dX8_clearBelow_64 (lv_at hl 6 rfl) ?_
      refine r_aload_n (pc := 66) C dX8_clearBelow_66 rfl (lv_at hl 0 rfl) ?_
      refine gf_X8_11 (pc := 67) C t0 dX8_clearBelow_67 ?_
      have t34 := ft_8_0 t0
      refine r_iload_n (pc := 70) C dX8_clearBelow_70 rfl (lv_at hl 1 rfl) ?_
      refine r_aald18 (pc := 71) C t34 dX8_clearBelow_71 (fun b36 => ?_)
      have t35 := et_18_12 t34 b36
      refine r_iload (pc := 72) C dX8_clearBelow_72 (lv_at hl 7 rfl) ?_
      refine r_lald (pc := 74) C t35 dX8_clearBelow_74 ?_
      refine r_lmul (pc := 75) C dX8_clearBelow_75 ?_
      refine r_iload_n (pc := 76) C dX8_clearBelow_76 rfl (lv_at hl 3 rfl) ?_
      refine r_i2l (pc := 77) C dX8_clearBelow_77 ?_
      refine r_lrem (pc := 78) C dX8_clearBelow_78 (fun _ => ?_)
      refine r_lsub (pc := 79) C dX8_clearBelow_79 ?_
      refine r_topl (fun v37 => ?_)
      refine r_lstore (lv2 := [(10, .long v37), (0, .ref (base + k0)), (1, .int v1), (2, .int v2), (3, .int v3), (4, .long v4), (6, .int v6), (7, .long v7), (9, .int v9)]) (pc := 80) C dX8_clearBelow_80 hl (Nat.le_of_ble_eq_true rfl) rfl (fun ls hl => ?_)
      refine r_aload_n (pc := 82) C dX8_clearBelow_82 rfl (lv_at hl 1 rfl) ?_
      refine gf_X8_11 (pc := 83) C t0 dX8_clearBelow_83 ?_
      have t38 := ft_8_0 t0
      refine r_iload (pc := 86) C dX8_clearBelow_86 (lv_at hl 6 rfl) ?_
      refine r_aald18 (pc := 88) C t38 dX8_clearBelow_88 (fun b40 => ?_)
      have t39 := et_18_12 t38 b40
      refine r_iload (pc := 89) C dX8_clearBelow_89 (lv_at hl 8 rfl) ?_
      refine r_lload (pc := 91) C dX8_clearBelow_91 (lv_at hl 0 rfl) ?_
      refine r_lconst (pc := 93) C (0 : Int64) dX8_clearBelow_93 (by decide) ?_
      refine r_join (fun (j : St → Int64 → Option (St × Unit)) => ∀ (S42 : St) (v43 : Int64) (ls : Array Slot), lv_has ls 12 [(0, .ref (base + k0)), (1, .int v1), (2, .int v2), (3, .int v3), (4, .long v4), (6, .int v6), (7, .long v7), (9, .int v9)] → Sim p l e rm_X8_clearBelow s m args below meth c D cy base 0 0 (fun S1 r => MQ below (QcV D cy base tS S1 r) args s 0 0 (AA base)) (j S42 v43) S42 (F0 m 108 ls [.long v43, .int v9, .ref (base + (rf (rf k0 0) (ix v6)))])) ?_ (fun j41 hj41 => ?_)
      · intro S42 v43 ls hl
        refine r_last (pc := 108) C t39 dX8_clearBelow_108 (fun S44 => ?_)
        refine r_iinc (pc := 109) C (k := 7) (1 : Int32) (fun v45 => [(9, .int v45), (0, .ref (base + k0)), (1, .int v1), (2, .int v2), (3, .int v3), (4, .long v4), (6, .int v6), (7, .long v7)]) dX8_clearBelow_109 hl rfl (by decide) (Nat.le_of_ble_eq_true rfl) (fun _ => rfl) (fun v45 ls hl => ?_)
        refine r_goto (pc := 112) C (tgt := 48) dX8_clearBelow_112 (by decide) ?_
        exact ih S44 v45 _ (lv_sub hl [1, 2, 3, 4, 5, 6, 7, 0] rfl)
      refine r_lcmp_ge (pc := 94) C (tgt := 106) dX8_clearBelow_94 dX8_clearBelow_95 (by decide) (fun _ => ?_) (fun _ => ?_)
      · refine r_lload (pc := 106) C dX8_clearBelow_106 (lv_at hl 0 rfl) ?_
        exact hj41 S v37 _ (lv_sub hl [1, 2, 3, 4, 5, 6, 7, 8] rfl)
      · refine r_lload (pc := 98) C dX8_clearBelow_98 (lv_at hl 0 rfl) ?_
        refine r_iload_n (pc := 100) C dX8_clearBelow_100 rfl (lv_at hl 4 rfl) ?_
        refine r_i2l (pc := 101) C dX8_clearBelow_101 ?_
        refine r_ladd (pc := 102) C dX8_clearBelow_102 ?_
        refine r_goto (pc := 103) C (tgt := 108) dX8_clearBelow_103 (by decide) ?_
        exact hj41 S (v37 + (Int32.toInt64 v3)) _ (lv_sub hl [1, 2, 3, 4, 5, 6, 7, 8] rfl)

set_option maxHeartbeats 4000000 in
set_option maxRecDepth 100000 in
theorem lp_X8_clearBelow_22 {p : Program} {l : Launch} {e : Env} {s : State} {m : MethodId} {args : Array Value} {below : List Frame} {meth : Method} {c : Code} {D : va_G} {cy : Nat → ClassId} {base tS : Nat} {ls : Array Slot} (C : Cx p rm_X8_clearBelow s m args c RX8 cX8_clearBelow 12 D cy base tS 0 0) (hr : meth.sig.returnType = none) (hk : meth.locks = false) {k0 : Nat} {v1 : Int32} {v2 : Int32} {v3 : Int32} {v4 : Int64} (t0 : cls k0 = 8) {K : St → Int32 → Option (St × Unit)} (hK : ∀ (S : St) (v6 : Int32) (ls : Array Slot), lv_has ls 12 [(0, .ref (base + k0)), (1, .int v1), (2, .int v2), (3, .int v3), (4, .long v4), (6, .int v6)] → Sim p l e rm_X8_clearBelow s m args below meth c D cy base 0 0 (fun S1 r => MQ below (QcV D cy base tS S1 r) args s 0 0 (AA base)) (K S v6) S (F0 m 121 ls [])) : ∀ (n : Nat) (S : St) (v6 : Int32) (ls : Array Slot), lv_has ls 12 [(0, .ref (base + k0)), (1, .int v1), (2, .int v2), (3, .int v3), (4, .long v4), (6, .int v6)] → Sim p l e rm_X8_clearBelow s m args below meth c D cy base 0 0 (fun S1 r => MQ below (QcV D cy base tS S1 r) args s 0 0 (AA base)) (X8_clearBelow_22 k0 v1 v2 v3 v4 K n S v6) S (F0 m 22 ls []) := by
  intro n
  induction n with
  | zero => intro S v6 ls hl; exact Sim.none
  | succ n ih =>
    intro S v6 ls hl
    rw [X8_clearBelow_22]
    refine r_iload (pc := 22) C dX8_clearBelow_22 (lv_at hl 5 rfl) ?_
    refine r_iload_n (pc := 24) C dX8_clearBelow_24 rfl (lv_at hl 2 rfl) ?_
    refine r_icmp_ge (pc := 25) C (tgt := 121) dX8_clearBelow_25 (by decide) (fun _ => ?_) (fun _ => ?_)
    · exact hK S v6 _ (lv_sub hl [0, 1, 2, 3, 4, 5] rfl)
    · refine r_aload_n (pc := 28) C dX8_clearBelow_28 rfl (lv_at hl 0 rfl) ?_
      refine gf_X8_11 (pc := 29) C t0 dX8_clearBelow_29 ?_
      have t27 := ft_8_0 t0
      refine r_iload (pc := 32) C dX8_clearBelow_32 (lv_at hl 5 rfl) ?_
      refine r_aald18 (pc := 34) C t27 dX8_clearBelow_34 (fun b29 => ?_)
      have t28 := et_18_12 t27 b29
      refine r_iload_n (pc := 35) C dX8_clearBelow_35 rfl (lv_at hl 1 rfl) ?_
      refine r_lald (pc := 36) C t28 dX8_clearBelow_36 ?_
      refine r_lload (pc := 37) C dX8_clearBelow_37 (lv_at hl 4 rfl) ?_
      refine r_lmul (pc := 39) C dX8_clearBelow_39 ?_
      refine r_iload_n (pc := 40) C dX8_clearBelow_40 rfl (lv_at hl 3 rfl) ?_
      refine r_i2l (pc := 41) C dX8_clearBelow_41 ?_
      refine r_lrem (pc := 42) C dX8_clearBelow_42 (fun _ => ?_)
      refine r_topl (fun v30 => ?_)
      refine r_lstore (lv2 := [(7, .long v30), (0, .ref (base + k0)), (1, .int v1), (2, .int v2), (3, .int v3), (4, .long v4), (6, .int v6)]) (pc := 43) C dX8_clearBelow_43 hl (Nat.le_of_ble_eq_true rfl) rfl (fun ls hl => ?_)
      refine r_iload_n (pc := 45) C dX8_clearBelow_45 rfl (lv_at hl 2 rfl) ?_
      refine r_istore (lv2 := [(9, .int v1), (7, .long v30), (0, .ref (base + k0)), (1, .int v1), (2, .int v2), (3, .int v3), (4, .long v4), (6, .int v6)]) (pc := 46) C dX8_clearBelow_46 hl (Nat.le_of_ble_eq_true rfl) rfl (fun ls hl => ?_)
      refine lp_X8_clearBelow_48 (ls := ls) C hr hk t0 (fun S46 v47 ls hl => ?_) FU S v1 _ (lv_sub hl [2, 3, 4, 5, 6, 7, 1, 0] rfl)
      refine r_iinc (pc := 115) C (k := 5) (1 : Int32) (fun v48 => [(6, .int v48), (0, .ref (base + k0)), (1, .int v1), (2, .int v2), (3, .int v3), (4, .long v4), (7, .long v30), (9, .int v47)]) dX8_clearBelow_115 hl rfl (by decide) (Nat.le_of_ble_eq_true rfl) (fun _ => rfl) (fun v48 ls hl => ?_)
      refine r_goto (pc := 118) C (tgt := 22) dX8_clearBelow_118 (by decide) ?_
      exact ih S46 v48 _ (lv_sub hl [1, 2, 3, 4, 5, 0] rfl)

set_option maxHeartbeats 4000000 in
set_option maxRecDepth 100000 in
theorem sm_X8_clearBelow {p : Program} {l : Launch} {e : Env} {s : State} {m : MethodId} {args : Array Value} {below : List Frame} {meth : Method} {c : Code} {D : va_G} {cy : Nat → ClassId} {base tS : Nat} {S : St} {k0 : Nat} {v1 : Int32} {v2 : Int32} {v3 : Int32} {ls : Array Slot} (C : Cx p rm_X8_clearBelow s m args c RX8 cX8_clearBelow 12 D cy base tS 0 0) (hr : meth.sig.returnType = none) (hk : meth.locks = false) (t0 : cls k0 = 8) (hl : lv_has ls 12 [(0, .ref (base + k0)), (1, .int v1), (2, .int v2), (3, .int v3)]) : Sim p l e rm_X8_clearBelow s m args below meth c D cy base 0 0 (fun S1 r => MQ below (QcV D cy base tS S1 r) args s 0 0 (AA base)) (X8_clearBelow S k0 v1 v2 v3) S (F0 m 0 ls []) := by
  unfold X8_clearBelow
  refine r_aload_n (pc := 0) C dX8_clearBelow_0 rfl (lv_at hl 0 rfl) ?_
  refine gf_X8_11 (pc := 1) C t0 dX8_clearBelow_1 ?_
  have t21 := ft_8_0 t0
  refine r_iload_n (pc := 4) C dX8_clearBelow_4 rfl (lv_at hl 1 rfl) ?_
  refine r_aald18 (pc := 5) C t21 dX8_clearBelow_5 (fun b23 => ?_)
  have t22 := et_18_12 t21 b23
  refine r_iload_n (pc := 6) C dX8_clearBelow_6 rfl (lv_at hl 1 rfl) ?_
  refine r_lald (pc := 7) C t22 dX8_clearBelow_7 ?_
  refine r_iload_n (pc := 8) C dX8_clearBelow_8 rfl (lv_at hl 3 rfl) ?_
  refine r_iconst (pc := 9) C (2 : Int32) dX8_clearBelow_9 (by decide) ?_
  refine r_isub (pc := 10) C dX8_clearBelow_10 ?_
  refine r_iload_n (pc := 11) C dX8_clearBelow_11 rfl (lv_at hl 3 rfl) ?_
  refine cv_X8_50 (pc := 12) C  hl.1 ⟨Nat.le_of_ble_eq_true rfl, Nat.le_of_ble_eq_true rfl⟩ (Nat.le_of_ble_eq_true rfl) dX8_clearBelow_12 (fun S24 v25 => ?_)
  refine r_lstore (lv2 := [(4, .long v25), (0, .ref (base + k0)), (1, .int v1), (2, .int v2), (3, .int v3)]) (pc := 15) C dX8_clearBelow_15 hl (Nat.le_of_ble_eq_true rfl) rfl (fun ls hl => ?_)
  refine r_iload_n (pc := 17) C dX8_clearBelow_17 rfl (lv_at hl 2 rfl) ?_
  refine r_iconst (pc := 18) C (1 : Int32) dX8_clearBelow_18 (by decide) ?_
  refine r_iadd (pc := 19) C dX8_clearBelow_19 ?_
  refine r_topi (fun v26 => ?_)
  refine r_istore (lv2 := [(6, .int v26), (4, .long v25), (0, .ref (base + k0)), (1, .int v1), (2, .int v2), (3, .int v3)]) (pc := 20) C dX8_clearBelow_20 hl (Nat.le_of_ble_eq_true rfl) rfl (fun ls hl => ?_)
  refine lp_X8_clearBelow_22 (ls := ls) C hr hk t0 (fun S49 v50 ls hl => ?_) FU S24 v26 _ (lv_sub hl [2, 3, 4, 5, 1, 0] rfl)
  exact r_vret (pc := 121) C hr hk dX8_clearBelow_121

theorem ct_X8_clearBelow (l : Launch) {D : va_G} {cy : Nat → ClassId} {base tS : Nat} {S : St} {k0 : Nat} {v1 : Int32} {v2 : Int32} {v3 : Int32} (t0 : cls k0 = 8) {S1 : St} {r1 : Unit} (h : X8_clearBelow S k0 v1 v2 v3 = some (S1, r1)) : Met l yX8_clearBelow (wsY yX8_clearBelow cX8_clearBelow 12 none) rm_X8_clearBelow (va_Pc [.ref (base + k0), .int v1, .int v2, .int v3] (World D cy base tS S)) (QcV D cy base tS S1 r1) 0 0 (AA base) := conV rfl rfl (by decide) (Nat.le_of_ble_eq_true rfl) (fun p e s m args below meth c ls C hr hk hl => sm_X8_clearBelow C hr hk t0 hl) h
theorem cv_X8_34 {p : Program} {l : Launch} {e : Env} {R : Room} {s : State} {m : MethodId} {args : Array Value} {below : List Frame} {meth : Method} {c : Code} {D : va_G} {cy : Nat → ClassId} {base tS nc ns : Nat} {cc : ByteArray} {nL pc : Nat} {ls : Array Slot} {rest : List Value} {S : St} {ρ : Type} {Q : St → ρ → State → Prop} (C : Cx p R s m args c RX8 cc nL D cy base tS nc ns) {k0 : Nat} {v1 : Int32} {v2 : Int32} {v3 : Int32} (t0 : cls k0 = 8) (hl : ls.size = nL) (hR : rm_X8_clearBelow.frames + 1 ≤ R.frames ∧ 8 + (12 + 11) + rm_X8_clearBelow.locals ≤ R.locals) {b : St → Unit → Option (St × ρ)} (hroom : (rest.map fun v => v.category).sum ≤ 8) (hd : decode cc pc = .ok (.invokevirtual 34, 3)) (kk : ∀ (S1 : St) (r : Unit), Sim p l e R s m args below meth c D cy base nc ns Q (b S1 r) S1 (F0 m (pc + 3) ls (rest))) : Sim p l e R s m args below meth c D cy base nc ns Q (bd (X8_clearBelow S k0 v1 v2 v3) b) S (F0 m pc ls (.int v3 :: .int v2 :: .int v1 :: .ref (base + k0) :: rest)) := r_callVV (n := 3) (As := [.int v1, .int v2, .int v3]) C hl (rd_8 t0) (cls_lt t0 (by decide)) rfl (fun S1 r1 h => ct_X8_clearBelow l t0 h) wd_403 wd_404 wd_405 wd_401 wd_406 rfl rfl (by decide +kernel) hR rfl rfl hroom hd kk
abbrev rm_Math_floorMod : Room := { frames := 0, cells := 0, slots := 0, locals := 0 }
set_option maxHeartbeats 4000000 in
set_option maxRecDepth 100000 in
theorem sm_Math_floorMod {p : Program} {l : Launch} {e : Env} {s : State} {m : MethodId} {args : Array Value} {below : List Frame} {meth : Method} {c : Code} {D : va_G} {cy : Nat → ClassId} {base tS : Nat} {S : St} {v0 : Int32} {v1 : Int32} {ls : Array Slot} (C : Cx p rm_Math_floorMod s m args c "java/lang/Math" cMath_floorMod 3 D cy base tS 0 0) (hr : meth.sig.returnType = (some .int)) (hk : meth.locks = false)  (hl : lv_has ls 3 [(0, .int v0), (1, .int v1)]) : Sim p l e rm_Math_floorMod s m args below meth c D cy base 0 0 (fun S1 r => MQ below (QcI D cy base tS S1 r) args s 0 0 (AA base)) (Math_floorMod S v0 v1) S (F0 m 0 ls []) := by
  unfold Math_floorMod
  refine r_iload_n (pc := 0) C dMath_floorMod_0 rfl (lv_at hl 0 rfl) ?_
  refine r_iload_n (pc := 1) C dMath_floorMod_1 rfl (lv_at hl 1 rfl) ?_
  refine r_irem (pc := 2) C dMath_floorMod_2 (fun _ => ?_)
  refine r_topi (fun v21 => ?_)
  refine r_istore_n (lv2 := [(2, .int v21), (0, .int v0), (1, .int v1)]) (pc := 3) C dMath_floorMod_3 rfl hl (Nat.le_of_ble_eq_true rfl) rfl (fun ls hl => ?_)
  refine r_iload_n (pc := 4) C dMath_floorMod_4 rfl (lv_at hl 1 rfl) ?_
  refine r_iload_n (pc := 5) C dMath_floorMod_5 rfl (lv_at hl 2 rfl) ?_
  refine r_ixor (pc := 6) C dMath_floorMod_6 ?_
  refine r_join (fun (j : St → Option (St × Int32)) => ∀ (S23 : St)  (ls : Array Slot), lv_has ls 3 [(2, .int v21)] → Sim p l e rm_Math_floorMod s m args below meth c D cy base 0 0 (fun S1 r => MQ below (QcI D cy base tS S1 r) args s 0 0 (AA base)) (j S23) S23 (F0 m 18 ls [])) ?_ (fun j22 hj22 => ?_)
  · intro S23 ls hl
    refine r_iload_n (pc := 18) C dMath_floorMod_18 rfl (lv_at hl 0 rfl) ?_
    exact r_iret (pc := 19) C hr hk dMath_floorMod_19
  refine r_if_ge (pc := 7) C (tgt := 18) dMath_floorMod_7 (by decide) (fun _ => ?_) (fun _ => ?_)
  · exact hj22 S  _ (lv_sub hl [0] rfl)
  · refine r_iload_n (pc := 10) C dMath_floorMod_10 rfl (lv_at hl 0 rfl) ?_
    refine r_if_eq (pc := 11) C (tgt := 18) dMath_floorMod_11 (by decide) (fun _ => ?_) (fun _ => ?_)
    · exact hj22 S  _ (lv_sub hl [0] rfl)
    · refine r_iload_n (pc := 14) C dMath_floorMod_14 rfl (lv_at hl 0 rfl) ?_
      refine r_iload_n (pc := 15) C dMath_floorMod_15 rfl (lv_at hl 2 rfl) ?_
      refine r_iadd (pc := 16) C dMath_floorMod_16 ?_
      exact r_iret (pc := 17) C hr hk dMath_floorMod_17

theorem ct_Math_floorMod (l : Launch) {D : va_G} {cy : Nat → ClassId} {base tS : Nat} {S : St} {v0 : Int32} {v1 : Int32}  {S1 : St} {r1 : Int32} (h : Math_floorMod S v0 v1 = some (S1, r1)) : Met l yMath_floorMod (wsY yMath_floorMod cMath_floorMod 3 (some .int)) rm_Math_floorMod (va_Pc [.int v0, .int v1] (World D cy base tS S)) (QcI D cy base tS S1 r1) 0 0 (AA base) := conIF rfl rfl (by decide +kernel) (Nat.le_of_ble_eq_true rfl) (fun p e s m args below meth c ls C hr hk hl => sm_Math_floorMod C hr hk  hl) h
theorem cv_X8_45 {p : Program} {l : Launch} {e : Env} {R : Room} {s : State} {m : MethodId} {args : Array Value} {below : List Frame} {meth : Method} {c : Code} {D : va_G} {cy : Nat → ClassId} {base tS nc ns : Nat} {cc : ByteArray} {nL pc : Nat} {ls : Array Slot} {rest : List Value} {S : St} {ρ : Type} {Q : St → ρ → State → Prop} (C : Cx p R s m args c RX8 cc nL D cy base tS nc ns) {v0 : Int32} {v1 : Int32}  (hl : ls.size = nL) (hR : rm_Math_floorMod.frames + 1 ≤ R.frames ∧ 8 + (3 + 11) + rm_Math_floorMod.locals ≤ R.locals) {b : St → Int32 → Option (St × ρ)} (hroom : (rest.map fun v => v.category).sum ≤ 8) (hd : decode cc pc = .ok (.invokestatic 45, 3)) (kk : ∀ (S1 : St) (r : Int32), Sim p l e R s m args below meth c D cy base nc ns Q (b S1 r) S1 (F0 m (pc + 3) ls (.int r :: rest))) : Sim p l e R s m args below meth c D cy base nc ns Q (bd (Math_floorMod S v0 v1) b) S (F0 m pc ls (.int v1 :: .int v0 :: rest)) := r_callSI (n := 2) (As := [.int v0, .int v1]) C hl (fun S1 r1 h => ct_Math_floorMod l  h) wd_407 wd_408 wd_103 wd_409 rfl rfl (by decide +kernel) hR rfl rfl hroom hd kk
abbrev rm_X8_fill : Room := { frames := 1, cells := 0, slots := 0, locals := 22 }
set_option maxHeartbeats 4000000 in
set_option maxRecDepth 100000 in
theorem lp_X8_fill_13 {p : Program} {l : Launch} {e : Env} {s : State} {m : MethodId} {args : Array Value} {below : List Frame} {meth : Method} {c : Code} {D : va_G} {cy : Nat → ClassId} {base tS : Nat} {ls : Array Slot} (C : Cx p rm_X8_fill s m args c RX8 cX8_fill 6 D cy base tS 0 0) (hr : meth.sig.returnType = none) (hk : meth.locks = false) {k0 : Nat} {k1 : Nat} {v2 : Int32} {v3 : Int32} (t0 : cls k0 = 8) (t1 : cls k1 = 7) {K : St → Int32 → Option (St × Unit)} (hK : ∀ (S : St) (v4 : Int32) (ls : Array Slot), lv_has ls 6 [(0, .ref (base + k0)), (1, .ref (base + k1)), (2, .int v2), (3, .int v3), (4, .int v4)] → Sim p l e rm_X8_fill s m args below meth c D cy base 0 0 (fun S1 r => MQ below (QcV D cy base tS S1 r) args s 0 0 (AA base)) (K S v4) S (F0 m 71 ls [])) : ∀ (n : Nat) (S : St) (v4 : Int32) (ls : Array Slot), lv_has ls 6 [(0, .ref (base + k0)), (1, .ref (base + k1)), (2, .int v2), (3, .int v3), (4, .int v4)] → Sim p l e rm_X8_fill s m args below meth c D cy base 0 0 (fun S1 r => MQ below (QcV D cy base tS S1 r) args s 0 0 (AA base)) (X8_fill_13 k0 k1 v2 v3 K n S v4) S (F0 m 13 ls []) := by
  intro n
  induction n with
  | zero => intro S v4 ls hl; exact Sim.none
  | succ n ih =>
    intro S v4 ls hl
    rw [X8_fill_13]
    refine r_iload (pc := 13) C dX8_fill_13 (lv_at hl 4 rfl) ?_
    refine r_aload_n (pc := 15) C dX8_fill_15 rfl (lv_at hl 1 rfl) ?_
    refine gf_X8_20 (pc := 16) C t1 dX8_fill_16 ?_
    refine r_icmp_ge (pc := 19) C (tgt := 71) dX8_fill_19 (by decide) (fun _ => ?_) (fun _ => ?_)
    · exact hK S v4 _ (lv_sub hl [0, 1, 2, 3, 4] rfl)
    · refine r_iload_n (pc := 22) C dX8_fill_22 rfl (lv_at hl 3 rfl) ?_
      refine r_iload (pc := 23) C dX8_fill_23 (lv_at hl 4 rfl) ?_
      refine r_join (fun (j : St → Int32 → Option (St × Unit)) => ∀ (S22 : St) (v23 : Int32) (ls : Array Slot), lv_has ls 6 [(0, .ref (base + k0)), (1, .ref (base + k1)), (2, .int v2), (3, .int v3), (4, .int v4)] → Sim p l e rm_X8_fill s m args below meth c D cy base 0 0 (fun S1 r => MQ below (QcV D cy base tS S1 r) args s 0 0 (AA base)) (j S22 v23) S22 (F0 m 47 ls [.int v23])) ?_ (fun j21 hj21 => ?_)
      · intro S22 v23 ls hl
        refine r_istore (lv2 := [(5, .int v23), (0, .ref (base + k0)), (1, .ref (base + k1)), (2, .int v2), (3, .int v3), (4, .int v4)]) (pc := 47) C dX8_fill_47 hl (Nat.le_of_ble_eq_true rfl) rfl (fun ls hl => ?_)
        refine r_aload_n (pc := 49) C dX8_fill_49 rfl (lv_at hl 1 rfl) ?_
        refine gf_X8_11 (pc := 50) C t0 dX8_fill_50 ?_
        have t24 := ft_8_0 t0
        refine r_iload_n (pc := 53) C dX8_fill_53 rfl (lv_at hl 4 rfl) ?_
        refine r_aald18 (pc := 54) C t24 dX8_fill_54 (fun b26 => ?_)
        have t25 := et_18_12 t24 b26
        refine r_iload (pc := 55) C dX8_fill_55 (lv_at hl 5 rfl) ?_
        refine r_iload (pc := 57) C dX8_fill_57 (lv_at hl 0 rfl) ?_
        refine r_iload_n (pc := 59) C dX8_fill_59 rfl (lv_at hl 3 rfl) ?_
        refine cv_X8_45 (pc := 60) C  hl.1 ⟨Nat.le_of_ble_eq_true rfl, Nat.le_of_ble_eq_true rfl⟩ (Nat.le_of_ble_eq_true rfl) dX8_fill_60 (fun S27 v28 => ?_)
        refine r_i2l (pc := 63) C dX8_fill_63 ?_
        refine r_last (pc := 64) C t25 dX8_fill_64 (fun S29 => ?_)
        refine r_iinc (pc := 65) C (k := 5) (1 : Int32) (fun v30 => [(4, .int v30), (5, .int v23), (0, .ref (base + k0)), (1, .ref (base + k1)), (2, .int v2), (3, .int v3)]) dX8_fill_65 hl rfl (by decide) (Nat.le_of_ble_eq_true rfl) (fun _ => rfl) (fun v30 ls hl => ?_)
        refine r_goto (pc := 68) C (tgt := 13) dX8_fill_68 (by decide) ?_
        exact ih S29 v30 _ (lv_sub hl [2, 3, 4, 5, 0] rfl)
      refine r_icmp_ne (pc := 25) C (tgt := 37) dX8_fill_25 (by decide) (fun _ => ?_) (fun _ => ?_)
      · refine r_aload_n (pc := 37) C dX8_fill_37 rfl (lv_at hl 1 rfl) ?_
        refine gf_X8_41 (pc := 38) C t1 dX8_fill_38 ?_
        have t31 := ft_7_1 t1
        refine r_iload_n (pc := 41) C dX8_fill_41 rfl (lv_at hl 3 rfl) ?_
        refine r_aald17 (pc := 42) C t31 dX8_fill_42 (fun b33 => ?_)
        have t32 := et_17_12 t31 b33
        refine r_iload (pc := 43) C dX8_fill_43 (lv_at hl 4 rfl) ?_
        refine r_iald (pc := 45) C t32 dX8_fill_45 ?_
        refine r_ineg (pc := 46) C dX8_fill_46 ?_
        exact hj21 S (-(S.1 (rf (rf k1 1) (ix v3)) (ix v4))) _ (lv_sub hl [0, 1, 2, 3, 4] rfl)
      · refine r_aload_n (pc := 28) C dX8_fill_28 rfl (lv_at hl 1 rfl) ?_
        refine gf_X8_37 (pc := 29) C t1 dX8_fill_29 ?_
        have t34 := ft_7_2 t1
        refine r_iload_n (pc := 32) C dX8_fill_32 rfl (lv_at hl 3 rfl) ?_
        refine r_iald (pc := 33) C t34 dX8_fill_33 ?_
        refine r_goto (pc := 34) C (tgt := 47) dX8_fill_34 (by decide) ?_
        exact hj21 S (S.1 (rf k1 2) (ix v3)) _ (lv_sub hl [0, 1, 2, 3, 4] rfl)

set_option maxHeartbeats 4000000 in
set_option maxRecDepth 100000 in
theorem lp_X8_fill_2 {p : Program} {l : Launch} {e : Env} {s : State} {m : MethodId} {args : Array Value} {below : List Frame} {meth : Method} {c : Code} {D : va_G} {cy : Nat → ClassId} {base tS : Nat} {ls : Array Slot} (C : Cx p rm_X8_fill s m args c RX8 cX8_fill 6 D cy base tS 0 0) (hr : meth.sig.returnType = none) (hk : meth.locks = false) {k0 : Nat} {k1 : Nat} {v2 : Int32} (t0 : cls k0 = 8) (t1 : cls k1 = 7) {K : St → Int32 → Option (St × Unit)} (hK : ∀ (S : St) (v3 : Int32) (ls : Array Slot), lv_has ls 6 [(0, .ref (base + k0)), (1, .ref (base + k1)), (2, .int v2), (3, .int v3)] → Sim p l e rm_X8_fill s m args below meth c D cy base 0 0 (fun S1 r => MQ below (QcV D cy base tS S1 r) args s 0 0 (AA base)) (K S v3) S (F0 m 77 ls [])) : ∀ (n : Nat) (S : St) (v3 : Int32) (ls : Array Slot), lv_has ls 6 [(0, .ref (base + k0)), (1, .ref (base + k1)), (2, .int v2), (3, .int v3)] → Sim p l e rm_X8_fill s m args below meth c D cy base 0 0 (fun S1 r => MQ below (QcV D cy base tS S1 r) args s 0 0 (AA base)) (X8_fill_2 k0 k1 v2 K n S v3) S (F0 m 2 ls []) := by
  intro n
  induction n with
  | zero => intro S v3 ls hl; exact Sim.none
  | succ n ih =>
    intro S v3 ls hl
    rw [X8_fill_2]
    refine r_iload_n (pc := 2) C dX8_fill_2 rfl (lv_at hl 3 rfl) ?_
    refine r_aload_n (pc := 3) C dX8_fill_3 rfl (lv_at hl 1 rfl) ?_
    refine gf_X8_20 (pc := 4) C t1 dX8_fill_4 ?_
    refine r_icmp_ge (pc := 7) C (tgt := 77) dX8_fill_7 (by decide) (fun _ => ?_) (fun _ => ?_)
    · exact hK S v3 _ (lv_sub hl [0, 1, 2, 3] rfl)
    · refine r_iconst (pc := 10) C (0 : Int32) dX8_fill_10 (by decide) ?_
      refine r_istore (lv2 := [(4, .int (0 : Int32)), (0, .ref (base + k0)), (1, .ref (base + k1)), (2, .int v2), (3, .int v3)]) (pc := 11) C dX8_fill_11 hl (Nat.le_of_ble_eq_true rfl) rfl (fun ls hl => ?_)
      refine lp_X8_fill_13 (ls := ls) C hr hk t0 t1 (fun S35 v36 ls hl => ?_) FU S (0 : Int32) _ (lv_sub hl [1, 2, 3, 4, 0] rfl)
      refine r_iinc (pc := 71) C (k := 3) (1 : Int32) (fun v37 => [(3, .int v37), (0, .ref (base + k0)), (1, .ref (base + k1)), (2, .int v2), (4, .int v36)]) dX8_fill_71 hl rfl (by decide) (Nat.le_of_ble_eq_true rfl) (fun _ => rfl) (fun v37 ls hl => ?_)
      refine r_goto (pc := 74) C (tgt := 2) dX8_fill_74 (by decide) ?_
      exact ih S35 v37 _ (lv_sub hl [1, 2, 3, 0] rfl)

set_option maxHeartbeats 4000000 in
set_option maxRecDepth 100000 in
theorem sm_X8_fill {p : Program} {l : Launch} {e : Env} {s : State} {m : MethodId} {args : Array Value} {below : List Frame} {meth : Method} {c : Code} {D : va_G} {cy : Nat → ClassId} {base tS : Nat} {S : St} {k0 : Nat} {k1 : Nat} {v2 : Int32} {ls : Array Slot} (C : Cx p rm_X8_fill s m args c RX8 cX8_fill 6 D cy base tS 0 0) (hr : meth.sig.returnType = none) (hk : meth.locks = false) (t0 : cls k0 = 8) (t1 : cls k1 = 7) (hl : lv_has ls 6 [(0, .ref (base + k0)), (1, .ref (base + k1)), (2, .int v2)]) : Sim p l e rm_X8_fill s m args below meth c D cy base 0 0 (fun S1 r => MQ below (QcV D cy base tS S1 r) args s 0 0 (AA base)) (X8_fill S k0 k1 v2) S (F0 m 0 ls []) := by
  unfold X8_fill
  refine r_iconst (pc := 0) C (0 : Int32) dX8_fill_0 (by decide) ?_
  refine r_istore_n (lv2 := [(3, .int (0 : Int32)), (0, .ref (base + k0)), (1, .ref (base + k1)), (2, .int v2)]) (pc := 1) C dX8_fill_1 rfl hl (Nat.le_of_ble_eq_true rfl) rfl (fun ls hl => ?_)
  refine lp_X8_fill_2 (ls := ls) C hr hk t0 t1 (fun S38 v39 ls hl => ?_) FU S (0 : Int32) _ (lv_sub hl [1, 2, 3, 0] rfl)
  exact r_vret (pc := 77) C hr hk dX8_fill_77

theorem ct_X8_fill (l : Launch) {D : va_G} {cy : Nat → ClassId} {base tS : Nat} {S : St} {k0 : Nat} {k1 : Nat} {v2 : Int32} (t0 : cls k0 = 8) (t1 : cls k1 = 7) {S1 : St} {r1 : Unit} (h : X8_fill S k0 k1 v2 = some (S1, r1)) : Met l yX8_fill (wsY yX8_fill cX8_fill 6 none) rm_X8_fill (va_Pc [.ref (base + k0), .ref (base + k1), .int v2] (World D cy base tS S)) (QcV D cy base tS S1 r1) 0 0 (AA base) := conV rfl rfl (by decide) (Nat.le_of_ble_eq_true rfl) (fun p e s m args below meth c ls C hr hk hl => sm_X8_fill C hr hk t0 t1 hl) h
theorem cv_X8_16 {p : Program} {l : Launch} {e : Env} {R : Room} {s : State} {m : MethodId} {args : Array Value} {below : List Frame} {meth : Method} {c : Code} {D : va_G} {cy : Nat → ClassId} {base tS nc ns : Nat} {cc : ByteArray} {nL pc : Nat} {ls : Array Slot} {rest : List Value} {S : St} {ρ : Type} {Q : St → ρ → State → Prop} (C : Cx p R s m args c RX8 cc nL D cy base tS nc ns) {k0 : Nat} {k1 : Nat} {v2 : Int32} (t0 : cls k0 = 8) (t1 : cls k1 = 7) (hl : ls.size = nL) (hR : rm_X8_fill.frames + 1 ≤ R.frames ∧ 8 + (6 + 11) + rm_X8_fill.locals ≤ R.locals) {b : St → Unit → Option (St × ρ)} (hroom : (rest.map fun v => v.category).sum ≤ 8) (hd : decode cc pc = .ok (.invokevirtual 16, 3)) (kk : ∀ (S1 : St) (r : Unit), Sim p l e R s m args below meth c D cy base nc ns Q (b S1 r) S1 (F0 m (pc + 3) ls (rest))) : Sim p l e R s m args below meth c D cy base nc ns Q (bd (X8_fill S k0 k1 v2) b) S (F0 m pc ls (.int v2 :: .ref (base + k1) :: .ref (base + k0) :: rest)) := r_callVV (n := 2) (As := [.ref (base + k1), .int v2]) C hl (rd_8 t0) (cls_lt t0 (by decide)) rfl (fun S1 r1 h => ct_X8_fill l t0 t1 h) wd_410 wd_411 wd_412 wd_401 wd_413 rfl rfl (by decide +kernel) hR rfl rfl hroom hd kk
abbrev rm_X8_pivotOf : Room := { frames := 0, cells := 0, slots := 0, locals := 0 }
set_option maxHeartbeats 4000000 in
set_option maxRecDepth 100000 in
theorem lp_X8_pivotOf_2 {p : Program} {l : Launch} {e : Env} {s : State} {m : MethodId} {args : Array Value} {below : List Frame} {meth : Method} {c : Code} {D : va_G} {cy : Nat → ClassId} {base tS : Nat} {ls : Array Slot} (C : Cx p rm_X8_pivotOf s m args c RX8 cX8_pivotOf 4 D cy base tS 0 0) (hr : meth.sig.returnType = (some .int)) (hk : meth.locks = false) {k0 : Nat} {v1 : Int32} {v2 : Int32} (t0 : cls k0 = 8) {K : St → Int32 → Option (St × Int32)} (hK : ∀ (S : St) (v3 : Int32) (ls : Array Slot), lv_has ls 4 [(0, .ref (base + k0)), (1, .int v1), (2, .int v2), (3, .int v3)] → Sim p l e rm_X8_pivotOf s m args below meth c D cy base 0 0 (fun S1 r => MQ below (QcI D cy base tS S1 r) args s 0 0 (AA base)) (K S v3) S (F0 m 28 ls [])) : ∀ (n : Nat) (S : St) (v3 : Int32) (ls : Array Slot), lv_has ls 4 [(0, .ref (base + k0)), (1, .int v1), (2, .int v2), (3, .int v3)] → Sim p l e rm_X8_pivotOf s m args below meth c D cy base 0 0 (fun S1 r => MQ below (QcI D cy base tS S1 r) args s 0 0 (AA base)) (X8_pivotOf_2 k0 v1 v2 K n S v3) S (F0 m 2 ls []) := by
  intro n
  induction n with
  | zero => intro S v3 ls hl; exact Sim.none
  | succ n ih =>
    intro S v3 ls hl
    rw [X8_pivotOf_2]
    refine r_iload_n (pc := 2) C dX8_pivotOf_2 rfl (lv_at hl 3 rfl) ?_
    refine r_iload_n (pc := 3) C dX8_pivotOf_3 rfl (lv_at hl 2 rfl) ?_
    refine r_icmp_ge (pc := 4) C (tgt := 28) dX8_pivotOf_4 (by decide) (fun _ => ?_) (fun _ => ?_)
    · exact hK S v3 _ (lv_sub hl [0, 1, 2, 3] rfl)
    · refine r_aload_n (pc := 7) C dX8_pivotOf_7 rfl (lv_at hl 0 rfl) ?_
      refine gf_X8_11 (pc := 8) C t0 dX8_pivotOf_8 ?_
      have t21 := ft_8_0 t0
      refine r_iload_n (pc := 11) C dX8_pivotOf_11 rfl (lv_at hl 3 rfl) ?_
      refine r_aald18 (pc := 12) C t21 dX8_pivotOf_12 (fun b23 => ?_)
      have t22 := et_18_12 t21 b23
      refine r_iload_n (pc := 13) C dX8_pivotOf_13 rfl (lv_at hl 1 rfl) ?_
      refine r_lald (pc := 14) C t22 dX8_pivotOf_14 ?_
      refine r_lconst (pc := 15) C (0 : Int64) dX8_pivotOf_15 (by decide) ?_
      refine r_lcmp_eq (pc := 16) C (tgt := 22) dX8_pivotOf_16 dX8_pivotOf_17 (by decide) (fun _ => ?_) (fun _ => ?_)
      · refine r_iinc (pc := 22) C (k := 3) (1 : Int32) (fun v24 => [(3, .int v24), (0, .ref (base + k0)), (1, .int v1), (2, .int v2)]) dX8_pivotOf_22 hl rfl (by decide) (Nat.le_of_ble_eq_true rfl) (fun _ => rfl) (fun v24 ls hl => ?_)
        refine r_goto (pc := 25) C (tgt := 2) dX8_pivotOf_25 (by decide) ?_
        exact ih S v24 _ (lv_sub hl [1, 2, 3, 0] rfl)
      · refine r_iload_n (pc := 20) C dX8_pivotOf_20 rfl (lv_at hl 3 rfl) ?_
        exact r_iret (pc := 21) C hr hk dX8_pivotOf_21

set_option maxHeartbeats 4000000 in
set_option maxRecDepth 100000 in
theorem sm_X8_pivotOf {p : Program} {l : Launch} {e : Env} {s : State} {m : MethodId} {args : Array Value} {below : List Frame} {meth : Method} {c : Code} {D : va_G} {cy : Nat → ClassId} {base tS : Nat} {S : St} {k0 : Nat} {v1 : Int32} {v2 : Int32} {ls : Array Slot} (C : Cx p rm_X8_pivotOf s m args c RX8 cX8_pivotOf 4 D cy base tS 0 0) (hr : meth.sig.returnType = (some .int)) (hk : meth.locks = false) (t0 : cls k0 = 8) (hl : lv_has ls 4 [(0, .ref (base + k0)), (1, .int v1), (2, .int v2)]) : Sim p l e rm_X8_pivotOf s m args below meth c D cy base 0 0 (fun S1 r => MQ below (QcI D cy base tS S1 r) args s 0 0 (AA base)) (X8_pivotOf S k0 v1 v2) S (F0 m 0 ls []) := by
  unfold X8_pivotOf
  refine r_iload_n (pc := 0) C dX8_pivotOf_0 rfl (lv_at hl 1 rfl) ?_
  refine r_istore_n (lv2 := [(3, .int v1), (0, .ref (base + k0)), (1, .int v1), (2, .int v2)]) (pc := 1) C dX8_pivotOf_1 rfl hl (Nat.le_of_ble_eq_true rfl) rfl (fun ls hl => ?_)
  refine lp_X8_pivotOf_2 (ls := ls) C hr hk t0 (fun S25 v26 ls hl => ?_) FU S v1 _ (lv_sub hl [1, 2, 3, 0] rfl)
  refine r_iconst (pc := 28) C (-1 : Int32) dX8_pivotOf_28 (by decide) ?_
  exact r_iret (pc := 29) C hr hk dX8_pivotOf_29

theorem ct_X8_pivotOf (l : Launch) {D : va_G} {cy : Nat → ClassId} {base tS : Nat} {S : St} {k0 : Nat} {v1 : Int32} {v2 : Int32} (t0 : cls k0 = 8) {S1 : St} {r1 : Int32} (h : X8_pivotOf S k0 v1 v2 = some (S1, r1)) : Met l yX8_pivotOf (wsY yX8_pivotOf cX8_pivotOf 4 (some .int)) rm_X8_pivotOf (va_Pc [.ref (base + k0), .int v1, .int v2] (World D cy base tS S)) (QcI D cy base tS S1 r1) 0 0 (AA base) := conI rfl rfl (by decide) (Nat.le_of_ble_eq_true rfl) (fun p e s m args below meth c ls C hr hk hl => sm_X8_pivotOf C hr hk t0 hl) h
theorem cv_X8_26 {p : Program} {l : Launch} {e : Env} {R : Room} {s : State} {m : MethodId} {args : Array Value} {below : List Frame} {meth : Method} {c : Code} {D : va_G} {cy : Nat → ClassId} {base tS nc ns : Nat} {cc : ByteArray} {nL pc : Nat} {ls : Array Slot} {rest : List Value} {S : St} {ρ : Type} {Q : St → ρ → State → Prop} (C : Cx p R s m args c RX8 cc nL D cy base tS nc ns) {k0 : Nat} {v1 : Int32} {v2 : Int32} (t0 : cls k0 = 8) (hl : ls.size = nL) (hR : rm_X8_pivotOf.frames + 1 ≤ R.frames ∧ 8 + (4 + 11) + rm_X8_pivotOf.locals ≤ R.locals) {b : St → Int32 → Option (St × ρ)} (hroom : (rest.map fun v => v.category).sum ≤ 8) (hd : decode cc pc = .ok (.invokevirtual 26, 3)) (kk : ∀ (S1 : St) (r : Int32), Sim p l e R s m args below meth c D cy base nc ns Q (b S1 r) S1 (F0 m (pc + 3) ls (.int r :: rest))) : Sim p l e R s m args below meth c D cy base nc ns Q (bd (X8_pivotOf S k0 v1 v2) b) S (F0 m pc ls (.int v2 :: .int v1 :: .ref (base + k0) :: rest)) := r_callVI (n := 2) (As := [.int v1, .int v2]) C hl (rd_8 t0) (cls_lt t0 (by decide)) rfl (fun S1 r1 h => ct_X8_pivotOf l t0 h) wd_414 wd_415 wd_416 wd_401 wd_417 rfl rfl (by decide +kernel) hR rfl rfl hroom hd kk
abbrev rm_X8_swapRows : Room := { frames := 0, cells := 0, slots := 0, locals := 0 }
set_option maxHeartbeats 4000000 in
set_option maxRecDepth 100000 in
theorem lp_X8_swapRows_3 {p : Program} {l : Launch} {e : Env} {s : State} {m : MethodId} {args : Array Value} {below : List Frame} {meth : Method} {c : Code} {D : va_G} {cy : Nat → ClassId} {base tS : Nat} {ls : Array Slot} (C : Cx p rm_X8_swapRows s m args c RX8 cX8_swapRows 7 D cy base tS 0 0) (hr : meth.sig.returnType = none) (hk : meth.locks = false) {k0 : Nat} {v1 : Int32} {v2 : Int32} {v3 : Int32} (t0 : cls k0 = 8) {K : St → Int32 → Option (St × Unit)} (hK : ∀ (S : St) (v4 : Int32) (ls : Array Slot), lv_has ls 7 [(0, .ref (base + k0)), (1, .int v1), (2, .int v2), (3, .int v3), (4, .int v4)] → Sim p l e rm_X8_swapRows s m args below meth c D cy base 0 0 (fun S1 r => MQ below (QcV D cy base tS S1 r) args s 0 0 (AA base)) (K S v4) S (F0 m 55 ls [])) : ∀ (n : Nat) (S : St) (v4 : Int32) (ls : Array Slot), lv_has ls 7 [(0, .ref (base + k0)), (1, .int v1), (2, .int v2), (3, .int v3), (4, .int v4)] → Sim p l e rm_X8_swapRows s m args below meth c D cy base 0 0 (fun S1 r => MQ below (QcV D cy base tS S1 r) args s 0 0 (AA base)) (X8_swapRows_3 k0 v1 v2 v3 K n S v4) S (F0 m 3 ls []) := by
  intro n
  induction n with
  | zero => intro S v4 ls hl; exact Sim.none
  | succ n ih =>
    intro S v4 ls hl
    rw [X8_swapRows_3]
    refine r_iload (pc := 3) C dX8_swapRows_3 (lv_at hl 4 rfl) ?_
    refine r_iload_n (pc := 5) C dX8_swapRows_5 rfl (lv_at hl 3 rfl) ?_
    refine r_icmp_ge (pc := 6) C (tgt := 55) dX8_swapRows_6 (by decide) (fun _ => ?_) (fun _ => ?_)
    · exact hK S v4 _ (lv_sub hl [0, 1, 2, 3, 4] rfl)
    · refine r_aload_n (pc := 9) C dX8_swapRows_9 rfl (lv_at hl 0 rfl) ?_
      refine gf_X8_11 (pc := 10) C t0 dX8_swapRows_10 ?_
      have t21 := ft_8_0 t0
      refine r_iload_n (pc := 13) C dX8_swapRows_13 rfl (lv_at hl 1 rfl) ?_
      refine r_aald18 (pc := 14) C t21 dX8_swapRows_14 (fun b23 => ?_)
      have t22 := et_18_12 t21 b23
      refine r_iload (pc := 15) C dX8_swapRows_15 (lv_at hl 4 rfl) ?_
      refine r_lald (pc := 17) C t22 dX8_swapRows_17 ?_
      refine r_topl (fun v24 => ?_)
      refine r_lstore (lv2 := [(5, .long v24), (0, .ref (base + k0)), (1, .int v1), (2, .int v2), (3, .int v3), (4, .int v4)]) (pc := 18) C dX8_swapRows_18 hl (Nat.le_of_ble_eq_true rfl) rfl (fun ls hl => ?_)
      refine r_aload_n (pc := 20) C dX8_swapRows_20 rfl (lv_at hl 1 rfl) ?_
      refine gf_X8_11 (pc := 21) C t0 dX8_swapRows_21 ?_
      have t25 := ft_8_0 t0
      refine r_iload_n (pc := 24) C dX8_swapRows_24 rfl (lv_at hl 2 rfl) ?_
      refine r_aald18 (pc := 25) C t25 dX8_swapRows_25 (fun b27 => ?_)
      have t26 := et_18_12 t25 b27
      refine r_iload (pc := 26) C dX8_swapRows_26 (lv_at hl 5 rfl) ?_
      refine r_aload_n (pc := 28) C dX8_swapRows_28 rfl (lv_at hl 1 rfl) ?_
      refine gf_X8_11 (pc := 29) C t0 dX8_swapRows_29 ?_
      have t28 := ft_8_0 t0
      refine r_iload_n (pc := 32) C dX8_swapRows_32 rfl (lv_at hl 3 rfl) ?_
      refine r_aald18 (pc := 33) C t28 dX8_swapRows_33 (fun b30 => ?_)
      have t29 := et_18_12 t28 b30
      refine r_iload (pc := 34) C dX8_swapRows_34 (lv_at hl 5 rfl) ?_
      refine r_lald (pc := 36) C t29 dX8_swapRows_36 ?_
      refine r_last (pc := 37) C t26 dX8_swapRows_37 (fun S31 => ?_)
      refine r_aload_n (pc := 38) C dX8_swapRows_38 rfl (lv_at hl 1 rfl) ?_
      refine gf_X8_11 (pc := 39) C t0 dX8_swapRows_39 ?_
      have t32 := ft_8_0 t0
      refine r_iload_n (pc := 42) C dX8_swapRows_42 rfl (lv_at hl 3 rfl) ?_
      refine r_aald18 (pc := 43) C t32 dX8_swapRows_43 (fun b34 => ?_)
      have t33 := et_18_12 t32 b34
      refine r_iload (pc := 44) C dX8_swapRows_44 (lv_at hl 5 rfl) ?_
      refine r_lload (pc := 46) C dX8_swapRows_46 (lv_at hl 0 rfl) ?_
      refine r_last (pc := 48) C t33 dX8_swapRows_48 (fun S35 => ?_)
      refine r_iinc (pc := 49) C (k := 5) (1 : Int32) (fun v36 => [(4, .int v36), (5, .long v24), (0, .ref (base + k0)), (1, .int v1), (2, .int v2), (3, .int v3)]) dX8_swapRows_49 hl rfl (by decide) (Nat.le_of_ble_eq_true rfl) (fun _ => rfl) (fun v36 ls hl => ?_)
      refine r_goto (pc := 52) C (tgt := 3) dX8_swapRows_52 (by decide) ?_
      exact ih S35 v36 _ (lv_sub hl [2, 3, 4, 5, 0] rfl)

set_option maxHeartbeats 4000000 in
set_option maxRecDepth 100000 in
theorem sm_X8_swapRows {p : Program} {l : Launch} {e : Env} {s : State} {m : MethodId} {args : Array Value} {below : List Frame} {meth : Method} {c : Code} {D : va_G} {cy : Nat → ClassId} {base tS : Nat} {S : St} {k0 : Nat} {v1 : Int32} {v2 : Int32} {v3 : Int32} {ls : Array Slot} (C : Cx p rm_X8_swapRows s m args c RX8 cX8_swapRows 7 D cy base tS 0 0) (hr : meth.sig.returnType = none) (hk : meth.locks = false) (t0 : cls k0 = 8) (hl : lv_has ls 7 [(0, .ref (base + k0)), (1, .int v1), (2, .int v2), (3, .int v3)]) : Sim p l e rm_X8_swapRows s m args below meth c D cy base 0 0 (fun S1 r => MQ below (QcV D cy base tS S1 r) args s 0 0 (AA base)) (X8_swapRows S k0 v1 v2 v3) S (F0 m 0 ls []) := by
  unfold X8_swapRows
  refine r_iconst (pc := 0) C (0 : Int32) dX8_swapRows_0 (by decide) ?_
  refine r_istore (lv2 := [(4, .int (0 : Int32)), (0, .ref (base + k0)), (1, .int v1), (2, .int v2), (3, .int v3)]) (pc := 1) C dX8_swapRows_1 hl (Nat.le_of_ble_eq_true rfl) rfl (fun ls hl => ?_)
  refine lp_X8_swapRows_3 (ls := ls) C hr hk t0 (fun S37 v38 ls hl => ?_) FU S (0 : Int32) _ (lv_sub hl [1, 2, 3, 4, 0] rfl)
  exact r_vret (pc := 55) C hr hk dX8_swapRows_55

theorem ct_X8_swapRows (l : Launch) {D : va_G} {cy : Nat → ClassId} {base tS : Nat} {S : St} {k0 : Nat} {v1 : Int32} {v2 : Int32} {v3 : Int32} (t0 : cls k0 = 8) {S1 : St} {r1 : Unit} (h : X8_swapRows S k0 v1 v2 v3 = some (S1, r1)) : Met l yX8_swapRows (wsY yX8_swapRows cX8_swapRows 7 none) rm_X8_swapRows (va_Pc [.ref (base + k0), .int v1, .int v2, .int v3] (World D cy base tS S)) (QcV D cy base tS S1 r1) 0 0 (AA base) := conV rfl rfl (by decide) (Nat.le_of_ble_eq_true rfl) (fun p e s m args below meth c ls C hr hk hl => sm_X8_swapRows C hr hk t0 hl) h
theorem cv_X8_30 {p : Program} {l : Launch} {e : Env} {R : Room} {s : State} {m : MethodId} {args : Array Value} {below : List Frame} {meth : Method} {c : Code} {D : va_G} {cy : Nat → ClassId} {base tS nc ns : Nat} {cc : ByteArray} {nL pc : Nat} {ls : Array Slot} {rest : List Value} {S : St} {ρ : Type} {Q : St → ρ → State → Prop} (C : Cx p R s m args c RX8 cc nL D cy base tS nc ns) {k0 : Nat} {v1 : Int32} {v2 : Int32} {v3 : Int32} (t0 : cls k0 = 8) (hl : ls.size = nL) (hR : rm_X8_swapRows.frames + 1 ≤ R.frames ∧ 8 + (7 + 11) + rm_X8_swapRows.locals ≤ R.locals) {b : St → Unit → Option (St × ρ)} (hroom : (rest.map fun v => v.category).sum ≤ 8) (hd : decode cc pc = .ok (.invokevirtual 30, 3)) (kk : ∀ (S1 : St) (r : Unit), Sim p l e R s m args below meth c D cy base nc ns Q (b S1 r) S1 (F0 m (pc + 3) ls (rest))) : Sim p l e R s m args below meth c D cy base nc ns Q (bd (X8_swapRows S k0 v1 v2 v3) b) S (F0 m pc ls (.int v3 :: .int v2 :: .int v1 :: .ref (base + k0) :: rest)) := r_callVV (n := 3) (As := [.int v1, .int v2, .int v3]) C hl (rd_8 t0) (cls_lt t0 (by decide)) rfl (fun S1 r1 h => ct_X8_swapRows l t0 h) wd_418 wd_419 wd_420 wd_401 wd_421 rfl rfl (by decide +kernel) hR rfl rfl hroom hd kk
abbrev rm_X8_countRows : Room := { frames := 2, cells := 0, slots := 0, locals := 59 }
set_option maxHeartbeats 4000000 in
set_option maxRecDepth 100000 in
theorem lp_X8_countRows_18 {p : Program} {l : Launch} {e : Env} {s : State} {m : MethodId} {args : Array Value} {below : List Frame} {meth : Method} {c : Code} {D : va_G} {cy : Nat → ClassId} {base tS : Nat} {ls : Array Slot} (C : Cx p rm_X8_countRows s m args c RX8 cX8_countRows 7 D cy base tS 0 0) (hr : meth.sig.returnType = (some .int)) (hk : meth.locks = false) {k0 : Nat} {k1 : Nat} {v2 : Int32} (t0 : cls k0 = 8) (t1 : cls k1 = 7) {K : St → Int64 → Int32 → Option (St × Int32)} (hK : ∀ (S : St) (v3 : Int64) (v5 : Int32) (ls : Array Slot), lv_has ls 7 [(0, .ref (base + k0)), (1, .ref (base + k1)), (2, .int v2), (3, .long v3), (5, .int v5)] → Sim p l e rm_X8_countRows s m args below meth c D cy base 0 0 (fun S1 r => MQ below (QcI D cy base tS S1 r) args s 0 0 (AA base)) (K S v3 v5) S (F0 m 104 ls [])) : ∀ (n : Nat) (S : St) (v3 : Int64) (v5 : Int32) (ls : Array Slot), lv_has ls 7 [(0, .ref (base + k0)), (1, .ref (base + k1)), (2, .int v2), (3, .long v3), (5, .int v5)] → Sim p l e rm_X8_countRows s m args below meth c D cy base 0 0 (fun S1 r => MQ below (QcI D cy base tS S1 r) args s 0 0 (AA base)) (X8_countRows_18 k0 k1 v2 K n S v3 v5) S (F0 m 18 ls []) := by
  intro n
  induction n with
  | zero => intro S v3 v5 ls hl; exact Sim.none
  | succ n ih =>
    intro S v3 v5 ls hl
    rw [X8_countRows_18]
    refine r_iload (pc := 18) C dX8_countRows_18 (lv_at hl 4 rfl) ?_
    refine r_aload_n (pc := 20) C dX8_countRows_20 rfl (lv_at hl 1 rfl) ?_
    refine gf_X8_20 (pc := 21) C t1 dX8_countRows_21 ?_
    refine r_icmp_ge (pc := 24) C (tgt := 104) dX8_countRows_24 (by decide) (fun _ => ?_) (fun _ => ?_)
    · exact hK S v3 v5 _ (lv_sub hl [0, 1, 2, 3, 4] rfl)
    · refine r_aload_n (pc := 27) C dX8_countRows_27 rfl (lv_at hl 0 rfl) ?_
      refine r_iload (pc := 28) C dX8_countRows_28 (lv_at hl 4 rfl) ?_
      refine r_aload_n (pc := 30) C dX8_countRows_30 rfl (lv_at hl 1 rfl) ?_
      refine gf_X8_20 (pc := 31) C t1 dX8_countRows_31 ?_
      refine cv_X8_26 (pc := 34) C t0 hl.1 ⟨Nat.le_of_ble_eq_true rfl, Nat.le_of_ble_eq_true rfl⟩ (Nat.le_of_ble_eq_true rfl) dX8_countRows_34 (fun S22 v23 => ?_)
      refine r_istore (lv2 := [(6, .int v23), (0, .ref (base + k0)), (1, .ref (base + k1)), (2, .int v2), (3, .long v3), (5, .int v5)]) (pc := 37) C dX8_countRows_37 hl (Nat.le_of_ble_eq_true rfl) rfl (fun ls hl => ?_)
      refine r_iload (pc := 39) C dX8_countRows_39 (lv_at hl 0 rfl) ?_
      refine r_iconst (pc := 41) C (-1 : Int32) dX8_countRows_41 (by decide) ?_
      refine r_icmp_ne (pc := 42) C (tgt := 47) dX8_countRows_42 (by decide) (fun _ => ?_) (fun _ => ?_)
      · refine r_iload (pc := 47) C dX8_countRows_47 (lv_at hl 0 rfl) ?_
        refine r_iload (pc := 49) C dX8_countRows_49 (lv_at hl 5 rfl) ?_
        refine r_join (fun (j : St → Int64 → Option (St × Int32)) => ∀ (S25 : St) (v26 : Int64) (ls : Array Slot), lv_has ls 7 [(0, .ref (base + k0)), (1, .ref (base + k1)), (2, .int v2), (3, .long v26), (5, .int v5)] → Sim p l e rm_X8_countRows s m args below meth c D cy base 0 0 (fun S1 r => MQ below (QcI D cy base tS S1 r) args s 0 0 (AA base)) (j S25 v26) S25 (F0 m 71 ls [])) ?_ (fun j24 hj24 => ?_)
        · intro S25 v26 ls hl
          refine r_lload_n (pc := 71) C dX8_countRows_71 rfl (lv_at hl 3 rfl) ?_
          refine r_aload_n (pc := 72) C dX8_countRows_72 rfl (lv_at hl 0 rfl) ?_
          refine gf_X8_11 (pc := 73) C t0 dX8_countRows_73 ?_
          have t27 := ft_8_0 t0
          refine r_iload (pc := 76) C dX8_countRows_76 (lv_at hl 4 rfl) ?_
          refine r_aald18 (pc := 78) C t27 dX8_countRows_78 (fun b29 => ?_)
          have t28 := et_18_12 t27 b29
          refine r_iload (pc := 79) C dX8_countRows_79 (lv_at hl 4 rfl) ?_
          refine r_lald (pc := 81) C t28 dX8_countRows_81 ?_
          refine r_lmul (pc := 82) C dX8_countRows_82 ?_
          refine r_iload_n (pc := 83) C dX8_countRows_83 rfl (lv_at hl 2 rfl) ?_
          refine r_i2l (pc := 84) C dX8_countRows_84 ?_
          refine r_lrem (pc := 85) C dX8_countRows_85 (fun _ => ?_)
          refine r_topl (fun v30 => ?_)
          refine r_lstore_n (lv2 := [(3, .long v30), (0, .ref (base + k0)), (1, .ref (base + k1)), (2, .int v2), (5, .int v5)]) (pc := 86) C dX8_countRows_86 rfl hl (Nat.le_of_ble_eq_true rfl) rfl (fun ls hl => ?_)
          refine r_aload_n (pc := 87) C dX8_countRows_87 rfl (lv_at hl 1 rfl) ?_
          refine r_iload (pc := 88) C dX8_countRows_88 (lv_at hl 4 rfl) ?_
          refine r_aload_n (pc := 90) C dX8_countRows_90 rfl (lv_at hl 2 rfl) ?_
          refine gf_X8_20 (pc := 91) C t1 dX8_countRows_91 ?_
          refine r_iload_n (pc := 94) C dX8_countRows_94 rfl (lv_at hl 3 rfl) ?_
          refine cv_X8_34 (pc := 95) C t0 hl.1 ⟨Nat.le_of_ble_eq_true rfl, Nat.le_of_ble_eq_true rfl⟩ (Nat.le_of_ble_eq_true rfl) dX8_countRows_95 (fun S31 _ => ?_)
          refine r_iinc (pc := 98) C (k := 4) (1 : Int32) (fun v32 => [(5, .int v32), (3, .long v30), (0, .ref (base + k0)), (1, .ref (base + k1)), (2, .int v2)]) dX8_countRows_98 hl rfl (by decide) (Nat.le_of_ble_eq_true rfl) (fun _ => rfl) (fun v32 ls hl => ?_)
          refine r_goto (pc := 101) C (tgt := 18) dX8_countRows_101 (by decide) ?_
          exact ih S31 v30 v32 _ (lv_sub hl [2, 3, 4, 1, 0] rfl)
        refine r_icmp_eq (pc := 51) C (tgt := 71) dX8_countRows_51 (by decide) (fun _ => ?_) (fun _ => ?_)
        · exact hj24 S22 v3 _ (lv_sub hl [1, 2, 3, 4, 5] rfl)
        · refine r_aload_n (pc := 54) C dX8_countRows_54 rfl (lv_at hl 1 rfl) ?_
          refine r_iload (pc := 55) C dX8_countRows_55 (lv_at hl 0 rfl) ?_
          refine r_iload (pc := 57) C dX8_countRows_57 (lv_at hl 5 rfl) ?_
          refine r_aload_n (pc := 59) C dX8_countRows_59 rfl (lv_at hl 2 rfl) ?_
          refine gf_X8_20 (pc := 60) C t1 dX8_countRows_60 ?_
          refine cv_X8_30 (pc := 63) C t0 hl.1 ⟨Nat.le_of_ble_eq_true rfl, Nat.le_of_ble_eq_true rfl⟩ (Nat.le_of_ble_eq_true rfl) dX8_countRows_63 (fun S33 _ => ?_)
          refine r_iload_n (pc := 66) C dX8_countRows_66 rfl (lv_at hl 3 rfl) ?_
          refine r_i2l (pc := 67) C dX8_countRows_67 ?_
          refine r_lload_n (pc := 68) C dX8_countRows_68 rfl (lv_at hl 4 rfl) ?_
          refine r_lsub (pc := 69) C dX8_countRows_69 ?_
          refine r_topl (fun v34 => ?_)
          refine r_lstore_n (lv2 := [(3, .long v34), (6, .int v23), (0, .ref (base + k0)), (1, .ref (base + k1)), (2, .int v2), (5, .int v5)]) (pc := 70) C dX8_countRows_70 rfl hl (Nat.le_of_ble_eq_true rfl) rfl (fun ls hl => ?_)
          exact hj24 S33 v34 _ (lv_sub hl [2, 3, 4, 0, 5] rfl)
      · refine r_iconst (pc := 45) C (0 : Int32) dX8_countRows_45 (by decide) ?_
        exact r_iret (pc := 46) C hr hk dX8_countRows_46

set_option maxHeartbeats 4000000 in
set_option maxRecDepth 100000 in
theorem sm_X8_countRows {p : Program} {l : Launch} {e : Env} {s : State} {m : MethodId} {args : Array Value} {below : List Frame} {meth : Method} {c : Code} {D : va_G} {cy : Nat → ClassId} {base tS : Nat} {S : St} {k0 : Nat} {k1 : Nat} {v2 : Int32} {ls : Array Slot} (C : Cx p rm_X8_countRows s m args c RX8 cX8_countRows 7 D cy base tS 0 0) (hr : meth.sig.returnType = (some .int)) (hk : meth.locks = false) (t0 : cls k0 = 8) (t1 : cls k1 = 7) (hl : lv_has ls 7 [(0, .ref (base + k0)), (1, .ref (base + k1)), (2, .int v2)]) : Sim p l e rm_X8_countRows s m args below meth c D cy base 0 0 (fun S1 r => MQ below (QcI D cy base tS S1 r) args s 0 0 (AA base)) (X8_countRows S k0 k1 v2) S (F0 m 0 ls []) := by
  unfold X8_countRows
  refine r_iload_n (pc := 0) C dX8_countRows_0 rfl (lv_at hl 2 rfl) ?_
  refine r_iconst (pc := 1) C (2 : Int32) dX8_countRows_1 (by decide) ?_
  refine r_icmp_ge (pc := 2) C (tgt := 7) dX8_countRows_2 (by decide) (fun _ => ?_) (fun _ => ?_)
  · refine r_aload_n (pc := 7) C dX8_countRows_7 rfl (lv_at hl 0 rfl) ?_
    refine r_aload_n (pc := 8) C dX8_countRows_8 rfl (lv_at hl 1 rfl) ?_
    refine r_iload_n (pc := 9) C dX8_countRows_9 rfl (lv_at hl 2 rfl) ?_
    refine cv_X8_16 (pc := 10) C t0 t1 hl.1 ⟨Nat.le_of_ble_eq_true rfl, Nat.le_of_ble_eq_true rfl⟩ (Nat.le_of_ble_eq_true rfl) dX8_countRows_10 (fun S21 _ => ?_)
    refine r_lconst (pc := 13) C (1 : Int64) dX8_countRows_13 (by decide) ?_
    refine r_lstore_n (lv2 := [(3, .long (1 : Int64)), (0, .ref (base + k0)), (1, .ref (base + k1)), (2, .int v2)]) (pc := 14) C dX8_countRows_14 rfl hl (Nat.le_of_ble_eq_true rfl) rfl (fun ls hl => ?_)
    refine r_iconst (pc := 15) C (0 : Int32) dX8_countRows_15 (by decide) ?_
    refine r_istore (lv2 := [(5, .int (0 : Int32)), (3, .long (1 : Int64)), (0, .ref (base + k0)), (1, .ref (base + k1)), (2, .int v2)]) (pc := 16) C dX8_countRows_16 hl (Nat.le_of_ble_eq_true rfl) rfl (fun ls hl => ?_)
    refine lp_X8_countRows_18 (ls := ls) C hr hk t0 t1 (fun S35 v36 v37 ls hl => ?_) FU S21 (1 : Int64) (0 : Int32) _ (lv_sub hl [2, 3, 4, 1, 0] rfl)
    refine r_lload_n (pc := 104) C dX8_countRows_104 rfl (lv_at hl 3 rfl) ?_
    refine r_l2i (pc := 105) C dX8_countRows_105 ?_
    exact r_iret (pc := 106) C hr hk dX8_countRows_106
  · refine r_iconst (pc := 5) C (0 : Int32) dX8_countRows_5 (by decide) ?_
    exact r_iret (pc := 6) C hr hk dX8_countRows_6

theorem ct_X8_countRows (l : Launch) {D : va_G} {cy : Nat → ClassId} {base tS : Nat} {S : St} {k0 : Nat} {k1 : Nat} {v2 : Int32} (t0 : cls k0 = 8) (t1 : cls k1 = 7) {S1 : St} {r1 : Int32} (h : X8_countRows S k0 k1 v2 = some (S1, r1)) : Met l yX8_countRows (wsY yX8_countRows cX8_countRows 7 (some .int)) rm_X8_countRows (va_Pc [.ref (base + k0), .ref (base + k1), .int v2] (World D cy base tS S)) (QcI D cy base tS S1 r1) 0 0 (AA base) := conI rfl rfl (by decide) (Nat.le_of_ble_eq_true rfl) (fun p e s m args below meth c ls C hr hk hl => sm_X8_countRows C hr hk t0 t1 hl) h
theorem cv_X10_243 {p : Program} {l : Launch} {e : Env} {R : Room} {s : State} {m : MethodId} {args : Array Value} {below : List Frame} {meth : Method} {c : Code} {D : va_G} {cy : Nat → ClassId} {base tS nc ns : Nat} {cc : ByteArray} {nL pc : Nat} {ls : Array Slot} {rest : List Value} {S : St} {ρ : Type} {Q : St → ρ → State → Prop} (C : Cx p R s m args c RX10 cc nL D cy base tS nc ns) {k0 : Nat} {k1 : Nat} {v2 : Int32} (t0 : cls k0 = 8) (t1 : cls k1 = 7) (hl : ls.size = nL) (hR : rm_X8_countRows.frames + 1 ≤ R.frames ∧ 8 + (7 + 11) + rm_X8_countRows.locals ≤ R.locals) {b : St → Int32 → Option (St × ρ)} (hroom : (rest.map fun v => v.category).sum ≤ 8) (hd : decode cc pc = .ok (.invokevirtual 243, 3)) (kk : ∀ (S1 : St) (r : Int32), Sim p l e R s m args below meth c D cy base nc ns Q (b S1 r) S1 (F0 m (pc + 3) ls (.int r :: rest))) : Sim p l e R s m args below meth c D cy base nc ns Q (bd (X8_countRows S k0 k1 v2) b) S (F0 m pc ls (.int v2 :: .ref (base + k1) :: .ref (base + k0) :: rest)) := r_callVI (n := 2) (As := [.ref (base + k1), .int v2]) C hl (rd_8 t0) (cls_lt t0 (by decide)) rfl (fun S1 r1 h => ct_X8_countRows l t0 t1 h) wd_422 wd_423 wd_424 wd_401 wd_425 rfl rfl (by decide +kernel) hR rfl rfl hroom hd kk
abbrev rm_X10_many : Room := { frames := 3, cells := 0, slots := 0, locals := 85 }
set_option maxHeartbeats 4000000 in
set_option maxRecDepth 100000 in
theorem sm_X10_many {p : Program} {l : Launch} {e : Env} {s : State} {m : MethodId} {args : Array Value} {below : List Frame} {meth : Method} {c : Code} {D : va_G} {cy : Nat → ClassId} {base tS : Nat} {S : St} {k0 : Nat} {v1 : Int32} {ls : Array Slot} (C : Cx p rm_X10_many s m args c RX10 cX10_many 2 D cy base tS 0 0) (hr : meth.sig.returnType = (some .int)) (hk : meth.locks = false) (t0 : cls k0 = 10) (hl : lv_has ls 2 [(0, .ref (base + k0)), (1, .int v1)]) : Sim p l e rm_X10_many s m args below meth c D cy base 0 0 (fun S1 r => MQ below (QcI D cy base tS S1 r) args s 0 0 (AA base)) (X10_many S k0 v1) S (F0 m 0 ls []) := by
  unfold X10_many
  refine r_iload_n (pc := 0) C dX10_many_0 rfl (lv_at hl 1 rfl) ?_
  refine cv_X10_240 (pc := 1) C  hl.1 ⟨Nat.le_of_ble_eq_true rfl, Nat.le_of_ble_eq_true rfl⟩ (Nat.le_of_ble_eq_true rfl) dX10_many_1 (fun S21 v22 => ?_)
  refine r_if_ne (pc := 4) C (tgt := 13) dX10_many_4 (by decide) (fun _ => ?_) (fun _ => ?_)
  · refine r_aload_n (pc := 13) C dX10_many_13 rfl (lv_at hl 0 rfl) ?_
    refine gf_X10_92 (pc := 14) C t0 dX10_many_14 ?_
    refine r_if_ne (pc := 17) C (tgt := 27) dX10_many_17 (by decide) (fun _ => ?_) (fun _ => ?_)
    · refine r_aload_n (pc := 27) C dX10_many_27 rfl (lv_at hl 0 rfl) ?_
      refine gf_X10_10 (pc := 28) C t0 dX10_many_28 ?_
      have t23 := ft_10_0 t0
      refine cv_X10_201 (pc := 31) C t23 hl.1 ⟨Nat.le_of_ble_eq_true rfl, Nat.le_of_ble_eq_true rfl⟩ (Nat.le_of_ble_eq_true rfl) dX10_many_31 (fun S24 v25 => ?_)
      refine r_if_ne (pc := 34) C (tgt := 44) dX10_many_34 (by decide) (fun _ => ?_) (fun _ => ?_)
      · refine r_aload_n (pc := 44) C dX10_many_44 rfl (lv_at hl 0 rfl) ?_
        refine gf_X10_61 (pc := 45) C t0 dX10_many_45 ?_
        have t26 := ft_10_7 t0
        refine r_aload_n (pc := 48) C dX10_many_48 rfl (lv_at hl 0 rfl) ?_
        refine gf_X10_10 (pc := 49) C t0 dX10_many_49 ?_
        have t27 := ft_10_0 t0
        refine r_iload_n (pc := 52) C dX10_many_52 rfl (lv_at hl 1 rfl) ?_
        refine cv_X10_243 (pc := 53) C t26 t27 hl.1 ⟨Nat.le_of_ble_eq_true rfl, Nat.le_of_ble_eq_true rfl⟩ (Nat.le_of_ble_eq_true rfl) dX10_many_53 (fun S28 v29 => ?_)
        exact r_iret (pc := 56) C hr hk dX10_many_56
      · refine r_aload_n (pc := 37) C dX10_many_37 rfl (lv_at hl 0 rfl) ?_
        refine r_bipush (pc := 38) C (-12 : Int32) dX10_many_38 (by decide) ?_
        refine cv_X10_96 (pc := 40) C t0 hl.1 ⟨Nat.le_of_ble_eq_true rfl, Nat.le_of_ble_eq_true rfl⟩ (Nat.le_of_ble_eq_true rfl) dX10_many_40 (fun S30 v31 => ?_)
        exact r_iret (pc := 43) C hr hk dX10_many_43
    · refine r_aload_n (pc := 20) C dX10_many_20 rfl (lv_at hl 0 rfl) ?_
      refine r_bipush (pc := 21) C (-8 : Int32) dX10_many_21 (by decide) ?_
      refine cv_X10_96 (pc := 23) C t0 hl.1 ⟨Nat.le_of_ble_eq_true rfl, Nat.le_of_ble_eq_true rfl⟩ (Nat.le_of_ble_eq_true rfl) dX10_many_23 (fun S32 v33 => ?_)
      exact r_iret (pc := 26) C hr hk dX10_many_26
  · refine r_aload_n (pc := 7) C dX10_many_7 rfl (lv_at hl 0 rfl) ?_
    refine r_iconst (pc := 8) C (-1 : Int32) dX10_many_8 (by decide) ?_
    refine cv_X10_96 (pc := 9) C t0 hl.1 ⟨Nat.le_of_ble_eq_true rfl, Nat.le_of_ble_eq_true rfl⟩ (Nat.le_of_ble_eq_true rfl) dX10_many_9 (fun S34 v35 => ?_)
    exact r_iret (pc := 12) C hr hk dX10_many_12

theorem ct_X10_many (l : Launch) {D : va_G} {cy : Nat → ClassId} {base tS : Nat} {S : St} {k0 : Nat} {v1 : Int32} (t0 : cls k0 = 10) {S1 : St} {r1 : Int32} (h : X10_many S k0 v1 = some (S1, r1)) : Met l yX10_many (wsY yX10_many cX10_many 2 (some .int)) rm_X10_many (va_Pc [.ref (base + k0), .int v1] (World D cy base tS S)) (QcI D cy base tS S1 r1) 0 0 (AA base) := conI rfl rfl (by decide) (Nat.le_of_ble_eq_true rfl) (fun p e s m args below meth c ls C hr hk hl => sm_X10_many C hr hk t0 hl) h
abbrev rm_X6_leastFrom : Room := { frames := 3, cells := 0, slots := 0, locals := 74 }
set_option maxHeartbeats 4000000 in
set_option maxRecDepth 100000 in
theorem lp_X6_leastFrom_2 {p : Program} {l : Launch} {e : Env} {s : State} {m : MethodId} {args : Array Value} {below : List Frame} {meth : Method} {c : Code} {D : va_G} {cy : Nat → ClassId} {base tS : Nat} {ls : Array Slot} (C : Cx p rm_X6_leastFrom s m args c RX6 cX6_leastFrom 4 D cy base tS 0 0) (hr : meth.sig.returnType = none) (hk : meth.locks = false) {k0 : Nat} {k1 : Nat} {v2 : Int32} (t0 : cls k0 = 6) (t1 : cls k1 = 7) {K : St → Int32 → Option (St × Unit)} (hK : ∀ (S : St) (v3 : Int32) (ls : Array Slot), lv_has ls 4 [(0, .ref (base + k0)), (1, .ref (base + k1)), (2, .int v2), (3, .int v3)] → Sim p l e rm_X6_leastFrom s m args below meth c D cy base 0 0 (fun S1 r => MQ below (QcV D cy base tS S1 r) args s 0 0 (AA base)) (K S v3) S (F0 m 30 ls [])) : ∀ (n : Nat) (S : St) (v3 : Int32) (ls : Array Slot), lv_has ls 4 [(0, .ref (base + k0)), (1, .ref (base + k1)), (2, .int v2), (3, .int v3)] → Sim p l e rm_X6_leastFrom s m args below meth c D cy base 0 0 (fun S1 r => MQ below (QcV D cy base tS S1 r) args s 0 0 (AA base)) (X6_leastFrom_2 k0 k1 v2 K n S v3) S (F0 m 2 ls []) := by
  intro n
  induction n with
  | zero => intro S v3 ls hl; exact Sim.none
  | succ n ih =>
    intro S v3 ls hl
    rw [X6_leastFrom_2]
    refine r_iload_n (pc := 2) C dX6_leastFrom_2 rfl (lv_at hl 3 rfl) ?_
    refine r_aload_n (pc := 3) C dX6_leastFrom_3 rfl (lv_at hl 1 rfl) ?_
    refine gf_X6_43 (pc := 4) C t1 dX6_leastFrom_4 ?_
    refine r_icmp_ge (pc := 7) C (tgt := 30) dX6_leastFrom_7 (by decide) (fun _ => ?_) (fun _ => ?_)
    · exact hK S v3 _ (lv_sub hl [0, 1, 2, 3] rfl)
    · refine r_aload_n (pc := 10) C dX6_leastFrom_10 rfl (lv_at hl 0 rfl) ?_
      refine gf_X6_18 (pc := 11) C t0 dX6_leastFrom_11 ?_
      have t21 := ft_6_1 t0
      refine r_iload_n (pc := 14) C dX6_leastFrom_14 rfl (lv_at hl 3 rfl) ?_
      refine r_aload_n (pc := 15) C dX6_leastFrom_15 rfl (lv_at hl 1 rfl) ?_
      refine gf_X6_48 (pc := 16) C t1 dX6_leastFrom_16 ?_
      have t22 := ft_7_2 t1
      refine r_iload_n (pc := 19) C dX6_leastFrom_19 rfl (lv_at hl 3 rfl) ?_
      refine r_iald (pc := 20) C t22 dX6_leastFrom_20 ?_
      refine r_iconst (pc := 21) C (1 : Int32) dX6_leastFrom_21 (by decide) ?_
      refine r_isub (pc := 22) C dX6_leastFrom_22 ?_
      refine r_iast (pc := 23) C t21 dX6_leastFrom_23 (fun S23 => ?_)
      refine r_iinc (pc := 24) C (k := 3) (1 : Int32) (fun v24 => [(3, .int v24), (0, .ref (base + k0)), (1, .ref (base + k1)), (2, .int v2)]) dX6_leastFrom_24 hl rfl (by decide) (Nat.le_of_ble_eq_true rfl) (fun _ => rfl) (fun v24 ls hl => ?_)
      refine r_goto (pc := 27) C (tgt := 2) dX6_leastFrom_27 (by decide) ?_
      exact ih S23 v24 _ (lv_sub hl [1, 2, 3, 0] rfl)

set_option maxHeartbeats 4000000 in
set_option maxRecDepth 100000 in
theorem lp_X6_leastFrom_32 {p : Program} {l : Launch} {e : Env} {s : State} {m : MethodId} {args : Array Value} {below : List Frame} {meth : Method} {c : Code} {D : va_G} {cy : Nat → ClassId} {base tS : Nat} {ls : Array Slot} (C : Cx p rm_X6_leastFrom s m args c RX6 cX6_leastFrom 4 D cy base tS 0 0) (hr : meth.sig.returnType = none) (hk : meth.locks = false) {k0 : Nat} {k1 : Nat} (t0 : cls k0 = 6) (t1 : cls k1 = 7) {K : St → Int32 → Option (St × Unit)} (hK : ∀ (S : St) (v3 : Int32) (ls : Array Slot), lv_has ls 4 [(0, .ref (base + k0)), (1, .ref (base + k1)), (3, .int v3)] → Sim p l e rm_X6_leastFrom s m args below meth c D cy base 0 0 (fun S1 r => MQ below (QcV D cy base tS S1 r) args s 0 0 (AA base)) (K S v3) S (F0 m 77 ls [])) : ∀ (n : Nat) (S : St) (v3 : Int32) (ls : Array Slot), lv_has ls 4 [(0, .ref (base + k0)), (1, .ref (base + k1)), (3, .int v3)] → Sim p l e rm_X6_leastFrom s m args below meth c D cy base 0 0 (fun S1 r => MQ below (QcV D cy base tS S1 r) args s 0 0 (AA base)) (X6_leastFrom_32 k0 k1 K n S v3) S (F0 m 32 ls []) := by
  intro n
  induction n with
  | zero => intro S v3 ls hl; exact Sim.none
  | succ n ih =>
    intro S v3 ls hl
    rw [X6_leastFrom_32]
    refine r_iload_n (pc := 32) C dX6_leastFrom_32 rfl (lv_at hl 2 rfl) ?_
    refine r_aload_n (pc := 33) C dX6_leastFrom_33 rfl (lv_at hl 1 rfl) ?_
    refine gf_X6_43 (pc := 34) C t1 dX6_leastFrom_34 ?_
    refine r_icmp_ge (pc := 37) C (tgt := 77) dX6_leastFrom_37 (by decide) (fun _ => ?_) (fun _ => ?_)
    · exact hK S v3 _ (lv_sub hl [0, 1, 2] rfl)
    · refine r_aload_n (pc := 40) C dX6_leastFrom_40 rfl (lv_at hl 0 rfl) ?_
      refine gf_X6_12 (pc := 41) C t0 dX6_leastFrom_41 ?_
      have t27 := ft_6_0 t0
      refine r_aload_n (pc := 44) C dX6_leastFrom_44 rfl (lv_at hl 1 rfl) ?_
      refine r_aload_n (pc := 45) C dX6_leastFrom_45 rfl (lv_at hl 0 rfl) ?_
      refine gf_X6_18 (pc := 46) C t0 dX6_leastFrom_46 ?_
      have t28 := ft_6_1 t0
      refine r_iload_n (pc := 49) C dX6_leastFrom_49 rfl (lv_at hl 2 rfl) ?_
      refine cv_X6_51 (pc := 50) C t27 t1 t28 hl.1 ⟨Nat.le_of_ble_eq_true rfl, Nat.le_of_ble_eq_true rfl⟩ (Nat.le_of_ble_eq_true rfl) dX6_leastFrom_50 (fun S29 _ => ?_)
      refine r_aload_n (pc := 53) C dX6_leastFrom_53 rfl (lv_at hl 0 rfl) ?_
      refine gf_X6_18 (pc := 54) C t0 dX6_leastFrom_54 ?_
      have t30 := ft_6_1 t0
      refine r_iload_n (pc := 57) C dX6_leastFrom_57 rfl (lv_at hl 2 rfl) ?_
      refine r_aload_n (pc := 58) C dX6_leastFrom_58 rfl (lv_at hl 1 rfl) ?_
      refine r_iload_n (pc := 59) C dX6_leastFrom_59 rfl (lv_at hl 2 rfl) ?_
      refine r_aload_n (pc := 60) C dX6_leastFrom_60 rfl (lv_at hl 0 rfl) ?_
      refine gf_X6_12 (pc := 61) C t0 dX6_leastFrom_61 ?_
      have t31 := ft_6_0 t0
      refine gf_X6_55 (pc := 64) C t31 dX6_leastFrom_64 ?_
      refine cv_X6_58 (pc := 67) C t1 hl.1 ⟨Nat.le_of_ble_eq_true rfl, Nat.le_of_ble_eq_true rfl⟩ (Nat.le_of_ble_eq_true rfl) dX6_leastFrom_67 (fun S32 v33 => ?_)
      refine r_iast (pc := 70) C t30 dX6_leastFrom_70 (fun S34 => ?_)
      refine r_iinc (pc := 71) C (k := 2) (1 : Int32) (fun v35 => [(3, .int v35), (0, .ref (base + k0)), (1, .ref (base + k1))]) dX6_leastFrom_71 hl rfl (by decide) (Nat.le_of_ble_eq_true rfl) (fun _ => rfl) (fun v35 ls hl => ?_)
      refine r_goto (pc := 74) C (tgt := 32) dX6_leastFrom_74 (by decide) ?_
      exact ih S34 v35 _ (lv_sub hl [1, 2, 0] rfl)

set_option maxHeartbeats 4000000 in
set_option maxRecDepth 100000 in
theorem sm_X6_leastFrom {p : Program} {l : Launch} {e : Env} {s : State} {m : MethodId} {args : Array Value} {below : List Frame} {meth : Method} {c : Code} {D : va_G} {cy : Nat → ClassId} {base tS : Nat} {S : St} {k0 : Nat} {k1 : Nat} {v2 : Int32} {ls : Array Slot} (C : Cx p rm_X6_leastFrom s m args c RX6 cX6_leastFrom 4 D cy base tS 0 0) (hr : meth.sig.returnType = none) (hk : meth.locks = false) (t0 : cls k0 = 6) (t1 : cls k1 = 7) (hl : lv_has ls 4 [(0, .ref (base + k0)), (1, .ref (base + k1)), (2, .int v2)]) : Sim p l e rm_X6_leastFrom s m args below meth c D cy base 0 0 (fun S1 r => MQ below (QcV D cy base tS S1 r) args s 0 0 (AA base)) (X6_leastFrom S k0 k1 v2) S (F0 m 0 ls []) := by
  unfold X6_leastFrom
  refine r_iload_n (pc := 0) C dX6_leastFrom_0 rfl (lv_at hl 2 rfl) ?_
  refine r_istore_n (lv2 := [(3, .int v2), (0, .ref (base + k0)), (1, .ref (base + k1)), (2, .int v2)]) (pc := 1) C dX6_leastFrom_1 rfl hl (Nat.le_of_ble_eq_true rfl) rfl (fun ls hl => ?_)
  refine lp_X6_leastFrom_2 (ls := ls) C hr hk t0 t1 (fun S25 v26 ls hl => ?_) FU S v2 _ (lv_sub hl [1, 2, 3, 0] rfl)
  refine r_iload_n (pc := 30) C dX6_leastFrom_30 rfl (lv_at hl 2 rfl) ?_
  refine r_istore_n (lv2 := [(3, .int v2), (0, .ref (base + k0)), (1, .ref (base + k1)), (2, .int v2)]) (pc := 31) C dX6_leastFrom_31 rfl hl (Nat.le_of_ble_eq_true rfl) rfl (fun ls hl => ?_)
  refine lp_X6_leastFrom_32 (ls := ls) C hr hk t0 t1 (fun S36 v37 ls hl => ?_) FU S25 v2 _ (lv_sub hl [1, 2, 0] rfl)
  exact r_vret (pc := 77) C hr hk dX6_leastFrom_77

theorem ct_X6_leastFrom (l : Launch) {D : va_G} {cy : Nat → ClassId} {base tS : Nat} {S : St} {k0 : Nat} {k1 : Nat} {v2 : Int32} (t0 : cls k0 = 6) (t1 : cls k1 = 7) {S1 : St} {r1 : Unit} (h : X6_leastFrom S k0 k1 v2 = some (S1, r1)) : Met l yX6_leastFrom (wsY yX6_leastFrom cX6_leastFrom 4 none) rm_X6_leastFrom (va_Pc [.ref (base + k0), .ref (base + k1), .int v2] (World D cy base tS S)) (QcV D cy base tS S1 r1) 0 0 (AA base) := conV rfl rfl (by decide) (Nat.le_of_ble_eq_true rfl) (fun p e s m args below meth c ls C hr hk hl => sm_X6_leastFrom C hr hk t0 t1 hl) h
theorem cv_X6_29 {p : Program} {l : Launch} {e : Env} {R : Room} {s : State} {m : MethodId} {args : Array Value} {below : List Frame} {meth : Method} {c : Code} {D : va_G} {cy : Nat → ClassId} {base tS nc ns : Nat} {cc : ByteArray} {nL pc : Nat} {ls : Array Slot} {rest : List Value} {S : St} {ρ : Type} {Q : St → ρ → State → Prop} (C : Cx p R s m args c RX6 cc nL D cy base tS nc ns) {k0 : Nat} {k1 : Nat} {v2 : Int32} (t0 : cls k0 = 6) (t1 : cls k1 = 7) (hl : ls.size = nL) (hR : rm_X6_leastFrom.frames + 1 ≤ R.frames ∧ 8 + (4 + 11) + rm_X6_leastFrom.locals ≤ R.locals) {b : St → Unit → Option (St × ρ)} (hroom : (rest.map fun v => v.category).sum ≤ 8) (hd : decode cc pc = .ok (.invokevirtual 29, 3)) (kk : ∀ (S1 : St) (r : Unit), Sim p l e R s m args below meth c D cy base nc ns Q (b S1 r) S1 (F0 m (pc + 3) ls (rest))) : Sim p l e R s m args below meth c D cy base nc ns Q (bd (X6_leastFrom S k0 k1 v2) b) S (F0 m pc ls (.int v2 :: .ref (base + k1) :: .ref (base + k0) :: rest)) := r_callVV (n := 2) (As := [.ref (base + k1), .int v2]) C hl (rd_6 t0) (cls_lt t0 (by decide)) rfl (fun S1 r1 h => ct_X6_leastFrom l t0 t1 h) wd_426 wd_427 wd_428 wd_241 wd_429 rfl rfl (by decide +kernel) hR rfl rfl hroom hd kk
abbrev rm_X6_stepOn : Room := { frames := 4, cells := 0, slots := 0, locals := 97 }
set_option maxHeartbeats 4000000 in
set_option maxRecDepth 100000 in
theorem lp_X6_stepOn_7 {p : Program} {l : Launch} {e : Env} {s : State} {m : MethodId} {args : Array Value} {below : List Frame} {meth : Method} {c : Code} {D : va_G} {cy : Nat → ClassId} {base tS : Nat} {ls : Array Slot} (C : Cx p rm_X6_stepOn s m args c RX6 cX6_stepOn 3 D cy base tS 0 0) (hr : meth.sig.returnType = (some .boolean)) (hk : meth.locks = false) {k0 : Nat} {k1 : Nat} (t0 : cls k0 = 6) (t1 : cls k1 = 7) {K : St → Int32 → Option (St × Int32)} (hK : ∀ (S : St) (v2 : Int32) (ls : Array Slot), lv_has ls 3 [(0, .ref (base + k0)), (1, .ref (base + k1)), (2, .int v2)] → Sim p l e rm_X6_stepOn s m args below meth c D cy base 0 0 (fun S1 r => MQ below (QcI D cy base tS S1 r) args s 0 0 (AA base)) (K S v2) S (F0 m 54 ls [])) : ∀ (n : Nat) (S : St) (v2 : Int32) (ls : Array Slot), lv_has ls 3 [(0, .ref (base + k0)), (1, .ref (base + k1)), (2, .int v2)] → Sim p l e rm_X6_stepOn s m args below meth c D cy base 0 0 (fun S1 r => MQ below (QcI D cy base tS S1 r) args s 0 0 (AA base)) (X6_stepOn_7 k0 k1 K n S v2) S (F0 m 7 ls []) := by
  intro n
  induction n with
  | zero => intro S v2 ls hl; exact Sim.none
  | succ n ih =>
    intro S v2 ls hl
    rw [X6_stepOn_7]
    refine r_iload_n (pc := 7) C dX6_stepOn_7 rfl (lv_at hl 2 rfl) ?_
    refine r_if_lt (pc := 8) C (tgt := 54) dX6_stepOn_8 (by decide) (fun _ => ?_) (fun _ => ?_)
    · exact hK S v2 _ (lv_sub hl [0, 1, 2] rfl)
    · refine r_aload_n (pc := 11) C dX6_stepOn_11 rfl (lv_at hl 0 rfl) ?_
      refine gf_X6_18 (pc := 12) C t0 dX6_stepOn_12 ?_
      have t22 := ft_6_1 t0
      refine r_iload_n (pc := 15) C dX6_stepOn_15 rfl (lv_at hl 2 rfl) ?_
      refine r_iald (pc := 16) C t22 dX6_stepOn_16 ?_
      refine r_aload_n (pc := 17) C dX6_stepOn_17 rfl (lv_at hl 1 rfl) ?_
      refine gf_X6_48 (pc := 18) C t1 dX6_stepOn_18 ?_
      have t23 := ft_7_2 t1
      refine r_iload_n (pc := 21) C dX6_stepOn_21 rfl (lv_at hl 2 rfl) ?_
      refine r_iald (pc := 22) C t23 dX6_stepOn_22 ?_
      refine r_iconst (pc := 23) C (1 : Int32) dX6_stepOn_23 (by decide) ?_
      refine r_isub (pc := 24) C dX6_stepOn_24 ?_
      refine r_icmp_ge (pc := 25) C (tgt := 48) dX6_stepOn_25 (by decide) (fun _ => ?_) (fun _ => ?_)
      · refine r_iinc (pc := 48) C (k := 2) (-1 : Int32) (fun v24 => [(2, .int v24), (0, .ref (base + k0)), (1, .ref (base + k1))]) dX6_stepOn_48 hl rfl (by decide) (Nat.le_of_ble_eq_true rfl) (fun _ => rfl) (fun v24 ls hl => ?_)
        refine r_goto (pc := 51) C (tgt := 7) dX6_stepOn_51 (by decide) ?_
        exact ih S v24 _ (lv_sub hl [1, 2, 0] rfl)
      · refine r_aload_n (pc := 28) C dX6_stepOn_28 rfl (lv_at hl 0 rfl) ?_
        refine gf_X6_18 (pc := 29) C t0 dX6_stepOn_29 ?_
        have t25 := ft_6_1 t0
        refine r_iload_n (pc := 32) C dX6_stepOn_32 rfl (lv_at hl 2 rfl) ?_
        refine r_dup2_11 (pc := 33) C dX6_stepOn_33 rfl rfl ?_
        refine r_iald (pc := 34) C t25 dX6_stepOn_34 ?_
        refine r_iconst (pc := 35) C (1 : Int32) dX6_stepOn_35 (by decide) ?_
        refine r_iadd (pc := 36) C dX6_stepOn_36 ?_
        refine r_iast (pc := 37) C t25 dX6_stepOn_37 (fun S26 => ?_)
        refine r_aload_n (pc := 38) C dX6_stepOn_38 rfl (lv_at hl 0 rfl) ?_
        refine r_aload_n (pc := 39) C dX6_stepOn_39 rfl (lv_at hl 1 rfl) ?_
        refine r_iload_n (pc := 40) C dX6_stepOn_40 rfl (lv_at hl 2 rfl) ?_
        refine r_iconst (pc := 41) C (1 : Int32) dX6_stepOn_41 (by decide) ?_
        refine r_iadd (pc := 42) C dX6_stepOn_42 ?_
        refine cv_X6_29 (pc := 43) C t0 t1 hl.1 ⟨Nat.le_of_ble_eq_true rfl, Nat.le_of_ble_eq_true rfl⟩ (Nat.le_of_ble_eq_true rfl) dX6_stepOn_43 (fun S27 _ => ?_)
        refine r_iconst (pc := 46) C (1 : Int32) dX6_stepOn_46 (by decide) ?_
        exact r_zret (pc := 47) C rfl hr hk dX6_stepOn_47

set_option maxHeartbeats 4000000 in
set_option maxRecDepth 100000 in
theorem sm_X6_stepOn {p : Program} {l : Launch} {e : Env} {s : State} {m : MethodId} {args : Array Value} {below : List Frame} {meth : Method} {c : Code} {D : va_G} {cy : Nat → ClassId} {base tS : Nat} {S : St} {k0 : Nat} {k1 : Nat} {ls : Array Slot} (C : Cx p rm_X6_stepOn s m args c RX6 cX6_stepOn 3 D cy base tS 0 0) (hr : meth.sig.returnType = (some .boolean)) (hk : meth.locks = false) (t0 : cls k0 = 6) (t1 : cls k1 = 7) (hl : lv_has ls 3 [(0, .ref (base + k0)), (1, .ref (base + k1))]) : Sim p l e rm_X6_stepOn s m args below meth c D cy base 0 0 (fun S1 r => MQ below (QcI D cy base tS S1 r) args s 0 0 (AA base)) (X6_stepOn S k0 k1) S (F0 m 0 ls []) := by
  unfold X6_stepOn
  refine r_aload_n (pc := 0) C dX6_stepOn_0 rfl (lv_at hl 1 rfl) ?_
  refine gf_X6_43 (pc := 1) C t1 dX6_stepOn_1 ?_
  refine r_iconst (pc := 4) C (1 : Int32) dX6_stepOn_4 (by decide) ?_
  refine r_isub (pc := 5) C dX6_stepOn_5 ?_
  refine r_topi (fun v21 => ?_)
  refine r_istore_n (lv2 := [(2, .int v21), (0, .ref (base + k0)), (1, .ref (base + k1))]) (pc := 6) C dX6_stepOn_6 rfl hl (Nat.le_of_ble_eq_true rfl) rfl (fun ls hl => ?_)
  refine lp_X6_stepOn_7 (ls := ls) C hr hk t0 t1 (fun S28 v29 ls hl => ?_) FU S v21 _ (lv_sub hl [1, 2, 0] rfl)
  refine r_iconst (pc := 54) C (0 : Int32) dX6_stepOn_54 (by decide) ?_
  exact r_zret (pc := 55) C rfl hr hk dX6_stepOn_55

theorem ct_X6_stepOn (l : Launch) {D : va_G} {cy : Nat → ClassId} {base tS : Nat} {S : St} {k0 : Nat} {k1 : Nat} (t0 : cls k0 = 6) (t1 : cls k1 = 7) {S1 : St} {r1 : Int32} (h : X6_stepOn S k0 k1 = some (S1, r1)) : Met l yX6_stepOn (wsY yX6_stepOn cX6_stepOn 3 (some .boolean)) rm_X6_stepOn (va_Pc [.ref (base + k0), .ref (base + k1)] (World D cy base tS S)) (QcI D cy base tS S1 r1) 0 0 (AA base) := conI rfl rfl (by decide) (Nat.le_of_ble_eq_true rfl) (fun p e s m args below meth c ls C hr hk hl => sm_X6_stepOn C hr hk t0 t1 hl) h
theorem cv_X6_39 {p : Program} {l : Launch} {e : Env} {R : Room} {s : State} {m : MethodId} {args : Array Value} {below : List Frame} {meth : Method} {c : Code} {D : va_G} {cy : Nat → ClassId} {base tS nc ns : Nat} {cc : ByteArray} {nL pc : Nat} {ls : Array Slot} {rest : List Value} {S : St} {ρ : Type} {Q : St → ρ → State → Prop} (C : Cx p R s m args c RX6 cc nL D cy base tS nc ns) {k0 : Nat} {k1 : Nat} (t0 : cls k0 = 6) (t1 : cls k1 = 7) (hl : ls.size = nL) (hR : rm_X6_stepOn.frames + 1 ≤ R.frames ∧ 8 + (3 + 11) + rm_X6_stepOn.locals ≤ R.locals) {b : St → Int32 → Option (St × ρ)} (hroom : (rest.map fun v => v.category).sum ≤ 8) (hd : decode cc pc = .ok (.invokevirtual 39, 3)) (kk : ∀ (S1 : St) (r : Int32), Sim p l e R s m args below meth c D cy base nc ns Q (b S1 r) S1 (F0 m (pc + 3) ls (.int r :: rest))) : Sim p l e R s m args below meth c D cy base nc ns Q (bd (X6_stepOn S k0 k1) b) S (F0 m pc ls (.ref (base + k1) :: .ref (base + k0) :: rest)) := r_callVI (n := 1) (As := [.ref (base + k1)]) C hl (rd_6 t0) (cls_lt t0 (by decide)) rfl (fun S1 r1 h => ct_X6_stepOn l t0 t1 h) wd_430 wd_431 wd_432 wd_241 wd_433 rfl rfl (by decide +kernel) hR rfl rfl hroom hd kk
abbrev rm_X6_gather : Room := { frames := 5, cells := 0, slots := 0, locals := 119 }
set_option maxHeartbeats 4000000 in
set_option maxRecDepth 100000 in
theorem lp_X6_gather_8 {p : Program} {l : Launch} {e : Env} {s : State} {m : MethodId} {args : Array Value} {below : List Frame} {meth : Method} {c : Code} {D : va_G} {cy : Nat → ClassId} {base tS : Nat} {ls : Array Slot} (C : Cx p rm_X6_gather s m args c RX6 cX6_gather 3 D cy base tS 0 0) (hr : meth.sig.returnType = (some .boolean)) (hk : meth.locks = false) {k0 : Nat} {k1 : Nat} (t0 : cls k0 = 6) (t1 : cls k1 = 7) {K : St → Int32 → Option (St × Int32)} (hK : ∀ (S : St) (v2 : Int32) (ls : Array Slot), lv_has ls 3 [(0, .ref (base + k0)), (1, .ref (base + k1)), (2, .int v2)] → Sim p l e rm_X6_gather s m args below meth c D cy base 0 0 (fun S1 r => MQ below (QcI D cy base tS S1 r) args s 0 0 (AA base)) (K S v2) S (F0 m 56 ls [])) : ∀ (n : Nat) (S : St) (v2 : Int32) (ls : Array Slot), lv_has ls 3 [(0, .ref (base + k0)), (1, .ref (base + k1)), (2, .int v2)] → Sim p l e rm_X6_gather s m args below meth c D cy base 0 0 (fun S1 r => MQ below (QcI D cy base tS S1 r) args s 0 0 (AA base)) (X6_gather_8 k0 k1 K n S v2) S (F0 m 8 ls []) := by
  intro n
  induction n with
  | zero => intro S v2 ls hl; exact Sim.none
  | succ n ih =>
    intro S v2 ls hl
    rw [X6_gather_8]
    refine r_iload_n (pc := 8) C dX6_gather_8 rfl (lv_at hl 2 rfl) ?_
    refine r_sipush (pc := 9) C (200 : Int32) dX6_gather_9 (by decide) ?_
    refine r_icmp_ge (pc := 12) C (tgt := 56) dX6_gather_12 (by decide) (fun _ => ?_) (fun _ => ?_)
    · exact hK S v2 _ (lv_sub hl [0, 1, 2] rfl)
    · refine r_aload_n (pc := 15) C dX6_gather_15 rfl (lv_at hl 0 rfl) ?_
      refine gf_X6_18 (pc := 16) C t0 dX6_gather_16 ?_
      have t22 := ft_6_1 t0
      refine r_iconst (pc := 19) C (0 : Int32) dX6_gather_19 (by decide) ?_
      refine r_aload_n (pc := 20) C dX6_gather_20 rfl (lv_at hl 0 rfl) ?_
      refine gf_X6_22 (pc := 21) C t0 dX6_gather_21 ?_
      have t23 := ft_6_2 t0
      refine r_iload_n (pc := 24) C dX6_gather_24 rfl (lv_at hl 2 rfl) ?_
      refine r_bipush (pc := 25) C (12 : Int32) dX6_gather_25 (by decide) ?_
      refine r_imul (pc := 27) C dX6_gather_27 ?_
      refine r_bipush (pc := 28) C (12 : Int32) dX6_gather_28 (by decide) ?_
      refine r_cpyI (rest := []) (pc := 30) C t22 t23 hl.1 wd_144 wd_31 wd_32 wd_33 (Nat.le_of_ble_eq_true rfl) (by decide) dX6_gather_30 (fun S24 => ?_)
      refine r_aload_n (pc := 33) C dX6_gather_33 rfl (lv_at hl 0 rfl) ?_
      refine r_aload_n (pc := 34) C dX6_gather_34 rfl (lv_at hl 1 rfl) ?_
      refine cv_X6_39 (pc := 35) C t0 t1 hl.1 ⟨Nat.le_of_ble_eq_true rfl, Nat.le_of_ble_eq_true rfl⟩ (Nat.le_of_ble_eq_true rfl) dX6_gather_35 (fun S25 v26 => ?_)
      refine r_if_ne (pc := 38) C (tgt := 50) dX6_gather_38 (by decide) (fun _ => ?_) (fun _ => ?_)
      · refine r_iinc (pc := 50) C (k := 2) (1 : Int32) (fun v27 => [(2, .int v27), (0, .ref (base + k0)), (1, .ref (base + k1))]) dX6_gather_50 hl rfl (by decide) (Nat.le_of_ble_eq_true rfl) (fun _ => rfl) (fun v27 ls hl => ?_)
        refine r_goto (pc := 53) C (tgt := 8) dX6_gather_53 (by decide) ?_
        exact ih S25 v27 _ (lv_sub hl [1, 2, 0] rfl)
      · refine r_aload_n (pc := 41) C dX6_gather_41 rfl (lv_at hl 0 rfl) ?_
        refine r_iload_n (pc := 42) C dX6_gather_42 rfl (lv_at hl 2 rfl) ?_
        refine r_iconst (pc := 43) C (1 : Int32) dX6_gather_43 (by decide) ?_
        refine r_iadd (pc := 44) C dX6_gather_44 ?_
        refine pf_X6_25 (pc := 45) C t0 dX6_gather_45 (fun S28 => ?_)
        refine r_iconst (pc := 48) C (1 : Int32) dX6_gather_48 (by decide) ?_
        exact r_zret (pc := 49) C rfl hr hk dX6_gather_49

set_option maxHeartbeats 4000000 in
set_option maxRecDepth 100000 in
theorem sm_X6_gather {p : Program} {l : Launch} {e : Env} {s : State} {m : MethodId} {args : Array Value} {below : List Frame} {meth : Method} {c : Code} {D : va_G} {cy : Nat → ClassId} {base tS : Nat} {S : St} {k0 : Nat} {k1 : Nat} {ls : Array Slot} (C : Cx p rm_X6_gather s m args c RX6 cX6_gather 3 D cy base tS 0 0) (hr : meth.sig.returnType = (some .boolean)) (hk : meth.locks = false) (t0 : cls k0 = 6) (t1 : cls k1 = 7) (hl : lv_has ls 3 [(0, .ref (base + k0)), (1, .ref (base + k1))]) : Sim p l e rm_X6_gather s m args below meth c D cy base 0 0 (fun S1 r => MQ below (QcI D cy base tS S1 r) args s 0 0 (AA base)) (X6_gather S k0 k1) S (F0 m 0 ls []) := by
  unfold X6_gather
  refine r_aload_n (pc := 0) C dX6_gather_0 rfl (lv_at hl 0 rfl) ?_
  refine r_aload_n (pc := 1) C dX6_gather_1 rfl (lv_at hl 1 rfl) ?_
  refine r_iconst (pc := 2) C (0 : Int32) dX6_gather_2 (by decide) ?_
  refine cv_X6_29 (pc := 3) C t0 t1 hl.1 ⟨Nat.le_of_ble_eq_true rfl, Nat.le_of_ble_eq_true rfl⟩ (Nat.le_of_ble_eq_true rfl) dX6_gather_3 (fun S21 _ => ?_)
  refine r_iconst (pc := 6) C (0 : Int32) dX6_gather_6 (by decide) ?_
  refine r_istore_n (lv2 := [(2, .int (0 : Int32)), (0, .ref (base + k0)), (1, .ref (base + k1))]) (pc := 7) C dX6_gather_7 rfl hl (Nat.le_of_ble_eq_true rfl) rfl (fun ls hl => ?_)
  refine lp_X6_gather_8 (ls := ls) C hr hk t0 t1 (fun S29 v30 ls hl => ?_) FU S21 (0 : Int32) _ (lv_sub hl [1, 2, 0] rfl)
  refine r_iconst (pc := 56) C (0 : Int32) dX6_gather_56 (by decide) ?_
  exact r_zret (pc := 57) C rfl hr hk dX6_gather_57

theorem ct_X6_gather (l : Launch) {D : va_G} {cy : Nat → ClassId} {base tS : Nat} {S : St} {k0 : Nat} {k1 : Nat} (t0 : cls k0 = 6) (t1 : cls k1 = 7) {S1 : St} {r1 : Int32} (h : X6_gather S k0 k1 = some (S1, r1)) : Met l yX6_gather (wsY yX6_gather cX6_gather 3 (some .boolean)) rm_X6_gather (va_Pc [.ref (base + k0), .ref (base + k1)] (World D cy base tS S)) (QcI D cy base tS S1 r1) 0 0 (AA base) := conI rfl rfl (by decide) (Nat.le_of_ble_eq_true rfl) (fun p e s m args below meth c ls C hr hk hl => sm_X6_gather C hr hk t0 t1 hl) h
theorem cv_X10_247 {p : Program} {l : Launch} {e : Env} {R : Room} {s : State} {m : MethodId} {args : Array Value} {below : List Frame} {meth : Method} {c : Code} {D : va_G} {cy : Nat → ClassId} {base tS nc ns : Nat} {cc : ByteArray} {nL pc : Nat} {ls : Array Slot} {rest : List Value} {S : St} {ρ : Type} {Q : St → ρ → State → Prop} (C : Cx p R s m args c RX10 cc nL D cy base tS nc ns) {k0 : Nat} {k1 : Nat} (t0 : cls k0 = 6) (t1 : cls k1 = 7) (hl : ls.size = nL) (hR : rm_X6_gather.frames + 1 ≤ R.frames ∧ 8 + (3 + 11) + rm_X6_gather.locals ≤ R.locals) {b : St → Int32 → Option (St × ρ)} (hroom : (rest.map fun v => v.category).sum ≤ 8) (hd : decode cc pc = .ok (.invokevirtual 247, 3)) (kk : ∀ (S1 : St) (r : Int32), Sim p l e R s m args below meth c D cy base nc ns Q (b S1 r) S1 (F0 m (pc + 3) ls (.int r :: rest))) : Sim p l e R s m args below meth c D cy base nc ns Q (bd (X6_gather S k0 k1) b) S (F0 m pc ls (.ref (base + k1) :: .ref (base + k0) :: rest)) := r_callVI (n := 1) (As := [.ref (base + k1)]) C hl (rd_6 t0) (cls_lt t0 (by decide)) rfl (fun S1 r1 h => ct_X6_gather l t0 t1 h) wd_434 wd_435 wd_436 wd_241 wd_437 rfl rfl (by decide +kernel) hR rfl rfl hroom hd kk
abbrev rm_X10_list : Room := { frames := 6, cells := 0, slots := 0, locals := 141 }
set_option maxHeartbeats 4000000 in
set_option maxRecDepth 100000 in
theorem sm_X10_list {p : Program} {l : Launch} {e : Env} {s : State} {m : MethodId} {args : Array Value} {below : List Frame} {meth : Method} {c : Code} {D : va_G} {cy : Nat → ClassId} {base tS : Nat} {S : St} {k0 : Nat} {ls : Array Slot} (C : Cx p rm_X10_list s m args c RX10 cX10_list 1 D cy base tS 0 0) (hr : meth.sig.returnType = (some .int)) (hk : meth.locks = false) (t0 : cls k0 = 10) (hl : lv_has ls 1 [(0, .ref (base + k0))]) : Sim p l e rm_X10_list s m args below meth c D cy base 0 0 (fun S1 r => MQ below (QcI D cy base tS S1 r) args s 0 0 (AA base)) (X10_list S k0) S (F0 m 0 ls []) := by
  unfold X10_list
  refine r_aload_n (pc := 0) C dX10_list_0 rfl (lv_at hl 0 rfl) ?_
  refine gf_X10_92 (pc := 1) C t0 dX10_list_1 ?_
  refine r_if_ne (pc := 4) C (tgt := 14) dX10_list_4 (by decide) (fun _ => ?_) (fun _ => ?_)
  · refine r_aload_n (pc := 14) C dX10_list_14 rfl (lv_at hl 0 rfl) ?_
    refine gf_X10_10 (pc := 15) C t0 dX10_list_15 ?_
    have t21 := ft_10_0 t0
    refine cv_X10_201 (pc := 18) C t21 hl.1 ⟨Nat.le_of_ble_eq_true rfl, Nat.le_of_ble_eq_true rfl⟩ (Nat.le_of_ble_eq_true rfl) dX10_list_18 (fun S22 v23 => ?_)
    refine r_if_ne (pc := 21) C (tgt := 31) dX10_list_21 (by decide) (fun _ => ?_) (fun _ => ?_)
    · refine r_aload_n (pc := 31) C dX10_list_31 rfl (lv_at hl 0 rfl) ?_
      refine gf_X10_54 (pc := 32) C t0 dX10_list_32 ?_
      have t24 := ft_10_6 t0
      refine r_aload_n (pc := 35) C dX10_list_35 rfl (lv_at hl 0 rfl) ?_
      refine gf_X10_10 (pc := 36) C t0 dX10_list_36 ?_
      have t25 := ft_10_0 t0
      refine cv_X10_247 (pc := 39) C t24 t25 hl.1 ⟨Nat.le_of_ble_eq_true rfl, Nat.le_of_ble_eq_true rfl⟩ (Nat.le_of_ble_eq_true rfl) dX10_list_39 (fun S26 v27 => ?_)
      refine r_if_eq (pc := 42) C (tgt := 55) dX10_list_42 (by decide) (fun _ => ?_) (fun _ => ?_)
      · refine r_aload_n (pc := 55) C dX10_list_55 rfl (lv_at hl 0 rfl) ?_
        refine r_bipush (pc := 56) C (-10 : Int32) dX10_list_56 (by decide) ?_
        refine cv_X10_96 (pc := 58) C t0 hl.1 ⟨Nat.le_of_ble_eq_true rfl, Nat.le_of_ble_eq_true rfl⟩ (Nat.le_of_ble_eq_true rfl) dX10_list_58 (fun S28 v29 => ?_)
        exact r_iret (pc := 61) C hr hk dX10_list_61
      · refine r_aload_n (pc := 45) C dX10_list_45 rfl (lv_at hl 0 rfl) ?_
        refine gf_X10_54 (pc := 46) C t0 dX10_list_46 ?_
        have t30 := ft_10_6 t0
        refine gf_X10_251 (pc := 49) C t30 dX10_list_49 ?_
        refine r_goto (pc := 52) C (tgt := 61) dX10_list_52 (by decide) ?_
        exact r_iret (pc := 61) C hr hk dX10_list_61
    · refine r_aload_n (pc := 24) C dX10_list_24 rfl (lv_at hl 0 rfl) ?_
      refine r_bipush (pc := 25) C (-12 : Int32) dX10_list_25 (by decide) ?_
      refine cv_X10_96 (pc := 27) C t0 hl.1 ⟨Nat.le_of_ble_eq_true rfl, Nat.le_of_ble_eq_true rfl⟩ (Nat.le_of_ble_eq_true rfl) dX10_list_27 (fun S31 v32 => ?_)
      exact r_iret (pc := 30) C hr hk dX10_list_30
  · refine r_aload_n (pc := 7) C dX10_list_7 rfl (lv_at hl 0 rfl) ?_
    refine r_bipush (pc := 8) C (-8 : Int32) dX10_list_8 (by decide) ?_
    refine cv_X10_96 (pc := 10) C t0 hl.1 ⟨Nat.le_of_ble_eq_true rfl, Nat.le_of_ble_eq_true rfl⟩ (Nat.le_of_ble_eq_true rfl) dX10_list_10 (fun S33 v34 => ?_)
    exact r_iret (pc := 13) C hr hk dX10_list_13

theorem ct_X10_list (l : Launch) {D : va_G} {cy : Nat → ClassId} {base tS : Nat} {S : St} {k0 : Nat} (t0 : cls k0 = 10) {S1 : St} {r1 : Int32} (h : X10_list S k0 = some (S1, r1)) : Met l yX10_list (wsY yX10_list cX10_list 1 (some .int)) rm_X10_list (va_Pc [.ref (base + k0)] (World D cy base tS S)) (QcI D cy base tS S1 r1) 0 0 (AA base) := conI rfl rfl (by decide) (Nat.le_of_ble_eq_true rfl) (fun p e s m args below meth c ls C hr hk hl => sm_X10_list C hr hk t0 hl) h
abbrev rm_X6_grainsOf : Room := { frames := 0, cells := 0, slots := 0, locals := 0 }
set_option maxHeartbeats 4000000 in
set_option maxRecDepth 100000 in
theorem sm_X6_grainsOf {p : Program} {l : Launch} {e : Env} {s : State} {m : MethodId} {args : Array Value} {below : List Frame} {meth : Method} {c : Code} {D : va_G} {cy : Nat → ClassId} {base tS : Nat} {S : St} {k0 : Nat} {v1 : Int32} {v2 : Int32} {ls : Array Slot} (C : Cx p rm_X6_grainsOf s m args c RX6 cX6_grainsOf 3 D cy base tS 0 0) (hr : meth.sig.returnType = (some .int)) (hk : meth.locks = false) (t0 : cls k0 = 6) (hl : lv_has ls 3 [(0, .ref (base + k0)), (1, .int v1), (2, .int v2)]) : Sim p l e rm_X6_grainsOf s m args below meth c D cy base 0 0 (fun S1 r => MQ below (QcI D cy base tS S1 r) args s 0 0 (AA base)) (X6_grainsOf S k0 v1 v2) S (F0 m 0 ls []) := by
  unfold X6_grainsOf
  refine r_aload_n (pc := 0) C dX6_grainsOf_0 rfl (lv_at hl 0 rfl) ?_
  refine gf_X6_22 (pc := 1) C t0 dX6_grainsOf_1 ?_
  have t21 := ft_6_2 t0
  refine r_iload_n (pc := 4) C dX6_grainsOf_4 rfl (lv_at hl 1 rfl) ?_
  refine r_bipush (pc := 5) C (12 : Int32) dX6_grainsOf_5 (by decide) ?_
  refine r_imul (pc := 7) C dX6_grainsOf_7 ?_
  refine r_iload_n (pc := 8) C dX6_grainsOf_8 rfl (lv_at hl 2 rfl) ?_
  refine r_iadd (pc := 9) C dX6_grainsOf_9 ?_
  refine r_iald (pc := 10) C t21 dX6_grainsOf_10 ?_
  exact r_iret (pc := 11) C hr hk dX6_grainsOf_11

theorem ct_X6_grainsOf (l : Launch) {D : va_G} {cy : Nat → ClassId} {base tS : Nat} {S : St} {k0 : Nat} {v1 : Int32} {v2 : Int32} (t0 : cls k0 = 6) {S1 : St} {r1 : Int32} (h : X6_grainsOf S k0 v1 v2 = some (S1, r1)) : Met l yX6_grainsOf (wsY yX6_grainsOf cX6_grainsOf 3 (some .int)) rm_X6_grainsOf (va_Pc [.ref (base + k0), .int v1, .int v2] (World D cy base tS S)) (QcI D cy base tS S1 r1) 0 0 (AA base) := conI rfl rfl (by decide) (Nat.le_of_ble_eq_true rfl) (fun p e s m args below meth c ls C hr hk hl => sm_X6_grainsOf C hr hk t0 hl) h
theorem cv_X10_252 {p : Program} {l : Launch} {e : Env} {R : Room} {s : State} {m : MethodId} {args : Array Value} {below : List Frame} {meth : Method} {c : Code} {D : va_G} {cy : Nat → ClassId} {base tS nc ns : Nat} {cc : ByteArray} {nL pc : Nat} {ls : Array Slot} {rest : List Value} {S : St} {ρ : Type} {Q : St → ρ → State → Prop} (C : Cx p R s m args c RX10 cc nL D cy base tS nc ns) {k0 : Nat} {v1 : Int32} {v2 : Int32} (t0 : cls k0 = 6) (hl : ls.size = nL) (hR : rm_X6_grainsOf.frames + 1 ≤ R.frames ∧ 8 + (3 + 11) + rm_X6_grainsOf.locals ≤ R.locals) {b : St → Int32 → Option (St × ρ)} (hroom : (rest.map fun v => v.category).sum ≤ 8) (hd : decode cc pc = .ok (.invokevirtual 252, 3)) (kk : ∀ (S1 : St) (r : Int32), Sim p l e R s m args below meth c D cy base nc ns Q (b S1 r) S1 (F0 m (pc + 3) ls (.int r :: rest))) : Sim p l e R s m args below meth c D cy base nc ns Q (bd (X6_grainsOf S k0 v1 v2) b) S (F0 m pc ls (.int v2 :: .int v1 :: .ref (base + k0) :: rest)) := r_callVI (n := 2) (As := [.int v1, .int v2]) C hl (rd_6 t0) (cls_lt t0 (by decide)) rfl (fun S1 r1 h => ct_X6_grainsOf l t0 h) wd_438 wd_439 wd_440 wd_241 wd_441 rfl rfl (by decide +kernel) hR rfl rfl hroom hd kk
abbrev rm_X10_listed : Room := { frames := 1, cells := 0, slots := 0, locals := 22 }
set_option maxHeartbeats 4000000 in
set_option maxRecDepth 100000 in
theorem sm_X10_listed {p : Program} {l : Launch} {e : Env} {s : State} {m : MethodId} {args : Array Value} {below : List Frame} {meth : Method} {c : Code} {D : va_G} {cy : Nat → ClassId} {base tS : Nat} {S : St} {k0 : Nat} {v1 : Int32} {v2 : Int32} {ls : Array Slot} (C : Cx p rm_X10_listed s m args c RX10 cX10_listed 3 D cy base tS 0 0) (hr : meth.sig.returnType = (some .int)) (hk : meth.locks = false) (t0 : cls k0 = 10) (hl : lv_has ls 3 [(0, .ref (base + k0)), (1, .int v1), (2, .int v2)]) : Sim p l e rm_X10_listed s m args below meth c D cy base 0 0 (fun S1 r => MQ below (QcI D cy base tS S1 r) args s 0 0 (AA base)) (X10_listed S k0 v1 v2) S (F0 m 0 ls []) := by
  unfold X10_listed
  refine r_iload_n (pc := 0) C dX10_listed_0 rfl (lv_at hl 1 rfl) ?_
  refine r_join (fun (j : St → Option (St × Int32)) => ∀ (S22 : St)  (ls : Array Slot), lv_has ls 3 [(0, .ref (base + k0))] → Sim p l e rm_X10_listed s m args below meth c D cy base 0 0 (fun S1 r => MQ below (QcI D cy base tS S1 r) args s 0 0 (AA base)) (j S22) S22 (F0 m 15 ls [])) ?_ (fun j21 hj21 => ?_)
  · intro S22 ls hl
    refine r_aload_n (pc := 15) C dX10_listed_15 rfl (lv_at hl 0 rfl) ?_
    refine r_bipush (pc := 16) C (-11 : Int32) dX10_listed_16 (by decide) ?_
    refine cv_X10_96 (pc := 18) C t0 hl.1 ⟨Nat.le_of_ble_eq_true rfl, Nat.le_of_ble_eq_true rfl⟩ (Nat.le_of_ble_eq_true rfl) dX10_listed_18 (fun S23 v24 => ?_)
    exact r_iret (pc := 21) C hr hk dX10_listed_21
  refine r_if_lt (pc := 1) C (tgt := 15) dX10_listed_1 (by decide) (fun _ => ?_) (fun _ => ?_)
  · exact hj21 S  _ (lv_sub hl [0] rfl)
  · refine r_iload_n (pc := 4) C dX10_listed_4 rfl (lv_at hl 1 rfl) ?_
    refine r_aload_n (pc := 5) C dX10_listed_5 rfl (lv_at hl 0 rfl) ?_
    refine gf_X10_54 (pc := 6) C t0 dX10_listed_6 ?_
    have t25 := ft_10_6 t0
    refine gf_X10_251 (pc := 9) C t25 dX10_listed_9 ?_
    refine r_icmp_lt (pc := 12) C (tgt := 22) dX10_listed_12 (by decide) (fun _ => ?_) (fun _ => ?_)
    · refine r_aload_n (pc := 22) C dX10_listed_22 rfl (lv_at hl 0 rfl) ?_
      refine gf_X10_10 (pc := 23) C t0 dX10_listed_23 ?_
      have t26 := ft_10_0 t0
      refine r_iload_n (pc := 26) C dX10_listed_26 rfl (lv_at hl 2 rfl) ?_
      refine cv_X10_107 (pc := 27) C t26 hl.1 ⟨Nat.le_of_ble_eq_true rfl, Nat.le_of_ble_eq_true rfl⟩ (Nat.le_of_ble_eq_true rfl) dX10_listed_27 (fun S27 v28 => ?_)
      refine r_if_ne (pc := 30) C (tgt := 39) dX10_listed_30 (by decide) (fun _ => ?_) (fun _ => ?_)
      · refine r_aload_n (pc := 39) C dX10_listed_39 rfl (lv_at hl 0 rfl) ?_
        refine gf_X10_54 (pc := 40) C t0 dX10_listed_40 ?_
        have t29 := ft_10_6 t0
        refine r_iload_n (pc := 43) C dX10_listed_43 rfl (lv_at hl 1 rfl) ?_
        refine r_iload_n (pc := 44) C dX10_listed_44 rfl (lv_at hl 2 rfl) ?_
        refine cv_X10_252 (pc := 45) C t29 hl.1 ⟨Nat.le_of_ble_eq_true rfl, Nat.le_of_ble_eq_true rfl⟩ (Nat.le_of_ble_eq_true rfl) dX10_listed_45 (fun S30 v31 => ?_)
        exact r_iret (pc := 48) C hr hk dX10_listed_48
      · refine r_aload_n (pc := 33) C dX10_listed_33 rfl (lv_at hl 0 rfl) ?_
        refine r_iconst (pc := 34) C (-1 : Int32) dX10_listed_34 (by decide) ?_
        refine cv_X10_96 (pc := 35) C t0 hl.1 ⟨Nat.le_of_ble_eq_true rfl, Nat.le_of_ble_eq_true rfl⟩ (Nat.le_of_ble_eq_true rfl) dX10_listed_35 (fun S32 v33 => ?_)
        exact r_iret (pc := 38) C hr hk dX10_listed_38
    · exact hj21 S  _ (lv_sub hl [0] rfl)

theorem ct_X10_listed (l : Launch) {D : va_G} {cy : Nat → ClassId} {base tS : Nat} {S : St} {k0 : Nat} {v1 : Int32} {v2 : Int32} (t0 : cls k0 = 10) {S1 : St} {r1 : Int32} (h : X10_listed S k0 v1 v2 = some (S1, r1)) : Met l yX10_listed (wsY yX10_listed cX10_listed 3 (some .int)) rm_X10_listed (va_Pc [.ref (base + k0), .int v1, .int v2] (World D cy base tS S)) (QcI D cy base tS S1 r1) 0 0 (AA base) := conI rfl rfl (by decide) (Nat.le_of_ble_eq_true rfl) (fun p e s m args below meth c ls C hr hk hl => sm_X10_listed C hr hk t0 hl) h
abbrev rm_X10_isTerrace : Room := { frames := 0, cells := 0, slots := 0, locals := 0 }
set_option maxHeartbeats 4000000 in
set_option maxRecDepth 100000 in
theorem sm_X10_isTerrace {p : Program} {l : Launch} {e : Env} {s : State} {m : MethodId} {args : Array Value} {below : List Frame} {meth : Method} {c : Code} {D : va_G} {cy : Nat → ClassId} {base tS : Nat} {S : St} {v0 : Int32} {ls : Array Slot} (C : Cx p rm_X10_isTerrace s m args c RX10 cX10_isTerrace 1 D cy base tS 0 0) (hr : meth.sig.returnType = (some .boolean)) (hk : meth.locks = false)  (hl : lv_has ls 1 [(0, .int v0)]) : Sim p l e rm_X10_isTerrace s m args below meth c D cy base 0 0 (fun S1 r => MQ below (QcI D cy base tS S1 r) args s 0 0 (AA base)) (X10_isTerrace S v0) S (F0 m 0 ls []) := by
  unfold X10_isTerrace
  refine r_iload_n (pc := 0) C dX10_isTerrace_0 rfl (lv_at hl 0 rfl) ?_
  refine r_join (fun (j : St → Option (St × Int32)) => ∀ (S22 : St)  (ls : Array Slot), lv_has ls 1 [] → Sim p l e rm_X10_isTerrace s m args below meth c D cy base 0 0 (fun S1 r => MQ below (QcI D cy base tS S1 r) args s 0 0 (AA base)) (j S22) S22 (F0 m 13 ls [])) ?_ (fun j21 hj21 => ?_)
  · intro S22 ls hl
    refine r_iconst (pc := 13) C (0 : Int32) dX10_isTerrace_13 (by decide) ?_
    exact r_zret (pc := 14) C rfl hr hk dX10_isTerrace_14
  refine r_if_lt (pc := 1) C (tgt := 13) dX10_isTerrace_1 (by decide) (fun _ => ?_) (fun _ => ?_)
  · exact hj21 S  _ (lv_sub hl [] rfl)
  · refine r_iload_n (pc := 4) C dX10_isTerrace_4 rfl (lv_at hl 0 rfl) ?_
    refine r_iconst (pc := 5) C (4 : Int32) dX10_isTerrace_5 (by decide) ?_
    refine r_icmp_ge (pc := 6) C (tgt := 13) dX10_isTerrace_6 (by decide) (fun _ => ?_) (fun _ => ?_)
    · exact hj21 S  _ (lv_sub hl [] rfl)
    · refine r_iconst (pc := 9) C (1 : Int32) dX10_isTerrace_9 (by decide) ?_
      refine r_goto (pc := 10) C (tgt := 14) dX10_isTerrace_10 (by decide) ?_
      exact r_zret (pc := 14) C rfl hr hk dX10_isTerrace_14

theorem ct_X10_isTerrace (l : Launch) {D : va_G} {cy : Nat → ClassId} {base tS : Nat} {S : St} {v0 : Int32}  {S1 : St} {r1 : Int32} (h : X10_isTerrace S v0 = some (S1, r1)) : Met l yX10_isTerrace (wsY yX10_isTerrace cX10_isTerrace 1 (some .boolean)) rm_X10_isTerrace (va_Pc [.int v0] (World D cy base tS S)) (QcI D cy base tS S1 r1) 0 0 (AA base) := conI rfl rfl (by decide) (Nat.le_of_ble_eq_true rfl) (fun p e s m args below meth c ls C hr hk hl => sm_X10_isTerrace C hr hk  hl) h
theorem cv_X10_255 {p : Program} {l : Launch} {e : Env} {R : Room} {s : State} {m : MethodId} {args : Array Value} {below : List Frame} {meth : Method} {c : Code} {D : va_G} {cy : Nat → ClassId} {base tS nc ns : Nat} {cc : ByteArray} {nL pc : Nat} {ls : Array Slot} {rest : List Value} {S : St} {ρ : Type} {Q : St → ρ → State → Prop} (C : Cx p R s m args c RX10 cc nL D cy base tS nc ns) {v0 : Int32}  (hl : ls.size = nL) (hR : rm_X10_isTerrace.frames + 1 ≤ R.frames ∧ 8 + (1 + 11) + rm_X10_isTerrace.locals ≤ R.locals) {b : St → Int32 → Option (St × ρ)} (hroom : (rest.map fun v => v.category).sum ≤ 8) (hd : decode cc pc = .ok (.invokestatic 255, 3)) (kk : ∀ (S1 : St) (r : Int32), Sim p l e R s m args below meth c D cy base nc ns Q (b S1 r) S1 (F0 m (pc + 3) ls (.int r :: rest))) : Sim p l e R s m args below meth c D cy base nc ns Q (bd (X10_isTerrace S v0) b) S (F0 m pc ls (.int v0 :: rest)) := r_callSI (n := 1) (As := [.int v0]) C hl (fun S1 r1 h => ct_X10_isTerrace l  h) wd_442 wd_443 wd_164 wd_444 rfl rfl (by decide +kernel) hR rfl rfl hroom hd kk
abbrev rm_X10_isWidth : Room := { frames := 0, cells := 0, slots := 0, locals := 0 }
set_option maxHeartbeats 4000000 in
set_option maxRecDepth 100000 in
theorem sm_X10_isWidth {p : Program} {l : Launch} {e : Env} {s : State} {m : MethodId} {args : Array Value} {below : List Frame} {meth : Method} {c : Code} {D : va_G} {cy : Nat → ClassId} {base tS : Nat} {S : St} {v0 : Int32} {ls : Array Slot} (C : Cx p rm_X10_isWidth s m args c RX10 cX10_isWidth 1 D cy base tS 0 0) (hr : meth.sig.returnType = (some .boolean)) (hk : meth.locks = false)  (hl : lv_has ls 1 [(0, .int v0)]) : Sim p l e rm_X10_isWidth s m args below meth c D cy base 0 0 (fun S1 r => MQ below (QcI D cy base tS S1 r) args s 0 0 (AA base)) (X10_isWidth S v0) S (F0 m 0 ls []) := by
  unfold X10_isWidth
  refine r_iload_n (pc := 0) C dX10_isWidth_0 rfl (lv_at hl 0 rfl) ?_
  refine r_join (fun (j : St → Option (St × Int32)) => ∀ (S22 : St)  (ls : Array Slot), lv_has ls 1 [] → Sim p l e rm_X10_isWidth s m args below meth c D cy base 0 0 (fun S1 r => MQ below (QcI D cy base tS S1 r) args s 0 0 (AA base)) (j S22) S22 (F0 m 28 ls [])) ?_ (fun j21 hj21 => ?_)
  · intro S22 ls hl
    refine r_iconst (pc := 28) C (1 : Int32) dX10_isWidth_28 (by decide) ?_
    refine r_goto (pc := 29) C (tgt := 33) dX10_isWidth_29 (by decide) ?_
    exact r_zret (pc := 33) C rfl hr hk dX10_isWidth_33
  refine r_if_eq (pc := 1) C (tgt := 28) dX10_isWidth_1 (by decide) (fun _ => ?_) (fun _ => ?_)
  · exact hj21 S  _ (lv_sub hl [] rfl)
  · refine r_iload_n (pc := 4) C dX10_isWidth_4 rfl (lv_at hl 0 rfl) ?_
    refine r_bipush (pc := 5) C (8 : Int32) dX10_isWidth_5 (by decide) ?_
    refine r_icmp_eq (pc := 7) C (tgt := 28) dX10_isWidth_7 (by decide) (fun _ => ?_) (fun _ => ?_)
    · exact hj21 S  _ (lv_sub hl [] rfl)
    · refine r_iload_n (pc := 10) C dX10_isWidth_10 rfl (lv_at hl 0 rfl) ?_
      refine r_bipush (pc := 11) C (16 : Int32) dX10_isWidth_11 (by decide) ?_
      refine r_icmp_eq (pc := 13) C (tgt := 28) dX10_isWidth_13 (by decide) (fun _ => ?_) (fun _ => ?_)
      · exact hj21 S  _ (lv_sub hl [] rfl)
      · refine r_iload_n (pc := 16) C dX10_isWidth_16 rfl (lv_at hl 0 rfl) ?_
        refine r_bipush (pc := 17) C (32 : Int32) dX10_isWidth_17 (by decide) ?_
        refine r_icmp_eq (pc := 19) C (tgt := 28) dX10_isWidth_19 (by decide) (fun _ => ?_) (fun _ => ?_)
        · exact hj21 S  _ (lv_sub hl [] rfl)
        · refine r_iload_n (pc := 22) C dX10_isWidth_22 rfl (lv_at hl 0 rfl) ?_
          refine r_bipush (pc := 23) C (64 : Int32) dX10_isWidth_23 (by decide) ?_
          refine r_icmp_ne (pc := 25) C (tgt := 32) dX10_isWidth_25 (by decide) (fun _ => ?_) (fun _ => ?_)
          · refine r_iconst (pc := 32) C (0 : Int32) dX10_isWidth_32 (by decide) ?_
            exact r_zret (pc := 33) C rfl hr hk dX10_isWidth_33
          · exact hj21 S  _ (lv_sub hl [] rfl)

theorem ct_X10_isWidth (l : Launch) {D : va_G} {cy : Nat → ClassId} {base tS : Nat} {S : St} {v0 : Int32}  {S1 : St} {r1 : Int32} (h : X10_isWidth S v0 = some (S1, r1)) : Met l yX10_isWidth (wsY yX10_isWidth cX10_isWidth 1 (some .boolean)) rm_X10_isWidth (va_Pc [.int v0] (World D cy base tS S)) (QcI D cy base tS S1 r1) 0 0 (AA base) := conI rfl rfl (by decide) (Nat.le_of_ble_eq_true rfl) (fun p e s m args below meth c ls C hr hk hl => sm_X10_isWidth C hr hk  hl) h
theorem cv_X10_258 {p : Program} {l : Launch} {e : Env} {R : Room} {s : State} {m : MethodId} {args : Array Value} {below : List Frame} {meth : Method} {c : Code} {D : va_G} {cy : Nat → ClassId} {base tS nc ns : Nat} {cc : ByteArray} {nL pc : Nat} {ls : Array Slot} {rest : List Value} {S : St} {ρ : Type} {Q : St → ρ → State → Prop} (C : Cx p R s m args c RX10 cc nL D cy base tS nc ns) {v0 : Int32}  (hl : ls.size = nL) (hR : rm_X10_isWidth.frames + 1 ≤ R.frames ∧ 8 + (1 + 11) + rm_X10_isWidth.locals ≤ R.locals) {b : St → Int32 → Option (St × ρ)} (hroom : (rest.map fun v => v.category).sum ≤ 8) (hd : decode cc pc = .ok (.invokestatic 258, 3)) (kk : ∀ (S1 : St) (r : Int32), Sim p l e R s m args below meth c D cy base nc ns Q (b S1 r) S1 (F0 m (pc + 3) ls (.int r :: rest))) : Sim p l e R s m args below meth c D cy base nc ns Q (bd (X10_isWidth S v0) b) S (F0 m pc ls (.int v0 :: rest)) := r_callSI (n := 1) (As := [.int v0]) C hl (fun S1 r1 h => ct_X10_isWidth l  h) wd_445 wd_446 wd_164 wd_447 rfl rfl (by decide +kernel) hR rfl rfl hroom hd kk
abbrev rm_X9_build : Room := { frames := 0, cells := 0, slots := 0, locals := 0 }
set_option maxHeartbeats 4000000 in
set_option maxRecDepth 100000 in
theorem lp_X9_build_2 {p : Program} {l : Launch} {e : Env} {s : State} {m : MethodId} {args : Array Value} {below : List Frame} {meth : Method} {c : Code} {D : va_G} {cy : Nat → ClassId} {base tS : Nat} {ls : Array Slot} (C : Cx p rm_X9_build s m args c RX9 cX9_build 4 D cy base tS 0 0) (hr : meth.sig.returnType = (some .int)) (hk : meth.locks = false) {k0 : Nat} {v1 : Int32} {v2 : Int32} (t0 : cls k0 = 9) {K : St → Int32 → Option (St × Int32)} (hK : ∀ (S : St) (v3 : Int32) (ls : Array Slot), lv_has ls 4 [(0, .ref (base + k0)), (1, .int v1), (2, .int v2), (3, .int v3)] → Sim p l e rm_X9_build s m args below meth c D cy base 0 0 (fun S1 r => MQ below (QcI D cy base tS S1 r) args s 0 0 (AA base)) (K S v3) S (F0 m 21 ls [])) : ∀ (n : Nat) (S : St) (v3 : Int32) (ls : Array Slot), lv_has ls 4 [(0, .ref (base + k0)), (1, .int v1), (2, .int v2), (3, .int v3)] → Sim p l e rm_X9_build s m args below meth c D cy base 0 0 (fun S1 r => MQ below (QcI D cy base tS S1 r) args s 0 0 (AA base)) (X9_build_2 k0 v1 v2 K n S v3) S (F0 m 2 ls []) := by
  intro n
  induction n with
  | zero => intro S v3 ls hl; exact Sim.none
  | succ n ih =>
    intro S v3 ls hl
    rw [X9_build_2]
    refine r_iload_n (pc := 2) C dX9_build_2 rfl (lv_at hl 3 rfl) ?_
    refine r_bipush (pc := 3) C (16 : Int32) dX9_build_3 (by decide) ?_
    refine r_icmp_ge (pc := 5) C (tgt := 21) dX9_build_5 (by decide) (fun _ => ?_) (fun _ => ?_)
    · exact hK S v3 _ (lv_sub hl [0, 1, 2, 3] rfl)
    · refine r_aload_n (pc := 8) C dX9_build_8 rfl (lv_at hl 0 rfl) ?_
      refine gf_X9_9 (pc := 9) C t0 dX9_build_9 ?_
      have t21 := ft_9_0 t0
      refine r_iload_n (pc := 12) C dX9_build_12 rfl (lv_at hl 3 rfl) ?_
      refine r_lconst (pc := 13) C (0 : Int64) dX9_build_13 (by decide) ?_
      refine r_last (pc := 14) C t21 dX9_build_14 (fun S22 => ?_)
      refine r_iinc (pc := 15) C (k := 3) (1 : Int32) (fun v23 => [(3, .int v23), (0, .ref (base + k0)), (1, .int v1), (2, .int v2)]) dX9_build_15 hl rfl (by decide) (Nat.le_of_ble_eq_true rfl) (fun _ => rfl) (fun v23 ls hl => ?_)
      refine r_goto (pc := 18) C (tgt := 2) dX9_build_18 (by decide) ?_
      exact ih S22 v23 _ (lv_sub hl [1, 2, 3, 0] rfl)

set_option maxHeartbeats 4000000 in
set_option maxRecDepth 100000 in
theorem sm_X9_build {p : Program} {l : Launch} {e : Env} {s : State} {m : MethodId} {args : Array Value} {below : List Frame} {meth : Method} {c : Code} {D : va_G} {cy : Nat → ClassId} {base tS : Nat} {S : St} {k0 : Nat} {v1 : Int32} {v2 : Int32} {ls : Array Slot} (C : Cx p rm_X9_build s m args c RX9 cX9_build 4 D cy base tS 0 0) (hr : meth.sig.returnType = (some .int)) (hk : meth.locks = false) (t0 : cls k0 = 9) (hl : lv_has ls 4 [(0, .ref (base + k0)), (1, .int v1), (2, .int v2)]) : Sim p l e rm_X9_build s m args below meth c D cy base 0 0 (fun S1 r => MQ below (QcI D cy base tS S1 r) args s 0 0 (AA base)) (X9_build S k0 v1 v2) S (F0 m 0 ls []) := by
  unfold X9_build
  refine r_iconst (pc := 0) C (0 : Int32) dX9_build_0 (by decide) ?_
  refine r_istore_n (lv2 := [(3, .int (0 : Int32)), (0, .ref (base + k0)), (1, .int v1), (2, .int v2)]) (pc := 1) C dX9_build_1 rfl hl (Nat.le_of_ble_eq_true rfl) rfl (fun ls hl => ?_)
  refine lp_X9_build_2 (ls := ls) C hr hk t0 (fun S24 v25 ls hl => ?_) FU S (0 : Int32) _ (lv_sub hl [1, 2, 3, 0] rfl)
  refine r_aload_n (pc := 21) C dX9_build_21 rfl (lv_at hl 0 rfl) ?_
  refine r_iload_n (pc := 22) C dX9_build_22 rfl (lv_at hl 1 rfl) ?_
  refine pf_X9_15 (pc := 23) C t0 dX9_build_23 (fun S26 => ?_)
  refine r_aload_n (pc := 26) C dX9_build_26 rfl (lv_at hl 0 rfl) ?_
  refine r_iload_n (pc := 27) C dX9_build_27 rfl (lv_at hl 1 rfl) ?_
  refine r_join (fun (j : St → Int32 → Option (St × Int32)) => ∀ (S28 : St) (v29 : Int32) (ls : Array Slot), lv_has ls 4 [(0, .ref (base + k0))] → Sim p l e rm_X9_build s m args below meth c D cy base 0 0 (fun S1 r => MQ below (QcI D cy base tS S1 r) args s 0 0 (AA base)) (j S28 v29) S28 (F0 m 36 ls [.int v29, .ref (base + k0)])) ?_ (fun j27 hj27 => ?_)
  · intro S28 v29 ls hl
    refine pf_X9_19 (pc := 36) C t0 dX9_build_36 (fun S30 => ?_)
    refine r_aload_n (pc := 39) C dX9_build_39 rfl (lv_at hl 0 rfl) ?_
    refine gf_X9_19 (pc := 40) C t0 dX9_build_40 ?_
    exact r_iret (pc := 43) C hr hk dX9_build_43
  refine r_if_ne (pc := 28) C (tgt := 35) dX9_build_28 (by decide) (fun _ => ?_) (fun _ => ?_)
  · refine r_iload_n (pc := 35) C dX9_build_35 rfl (lv_at hl 2 rfl) ?_
    exact hj27 S26 v2 _ (lv_sub hl [0] rfl)
  · refine r_iconst (pc := 31) C (0 : Int32) dX9_build_31 (by decide) ?_
    refine r_goto (pc := 32) C (tgt := 36) dX9_build_32 (by decide) ?_
    exact hj27 S26 (0 : Int32) _ (lv_sub hl [0] rfl)

theorem ct_X9_build (l : Launch) {D : va_G} {cy : Nat → ClassId} {base tS : Nat} {S : St} {k0 : Nat} {v1 : Int32} {v2 : Int32} (t0 : cls k0 = 9) {S1 : St} {r1 : Int32} (h : X9_build S k0 v1 v2 = some (S1, r1)) : Met l yX9_build (wsY yX9_build cX9_build 4 (some .int)) rm_X9_build (va_Pc [.ref (base + k0), .int v1, .int v2] (World D cy base tS S)) (QcI D cy base tS S1 r1) 0 0 (AA base) := conI rfl rfl (by decide) (Nat.le_of_ble_eq_true rfl) (fun p e s m args below meth c ls C hr hk hl => sm_X9_build C hr hk t0 hl) h
theorem cv_X10_261 {p : Program} {l : Launch} {e : Env} {R : Room} {s : State} {m : MethodId} {args : Array Value} {below : List Frame} {meth : Method} {c : Code} {D : va_G} {cy : Nat → ClassId} {base tS nc ns : Nat} {cc : ByteArray} {nL pc : Nat} {ls : Array Slot} {rest : List Value} {S : St} {ρ : Type} {Q : St → ρ → State → Prop} (C : Cx p R s m args c RX10 cc nL D cy base tS nc ns) {k0 : Nat} {v1 : Int32} {v2 : Int32} (t0 : cls k0 = 9) (hl : ls.size = nL) (hR : rm_X9_build.frames + 1 ≤ R.frames ∧ 8 + (4 + 11) + rm_X9_build.locals ≤ R.locals) {b : St → Int32 → Option (St × ρ)} (hroom : (rest.map fun v => v.category).sum ≤ 8) (hd : decode cc pc = .ok (.invokevirtual 261, 3)) (kk : ∀ (S1 : St) (r : Int32), Sim p l e R s m args below meth c D cy base nc ns Q (b S1 r) S1 (F0 m (pc + 3) ls (.int r :: rest))) : Sim p l e R s m args below meth c D cy base nc ns Q (bd (X9_build S k0 v1 v2) b) S (F0 m pc ls (.int v2 :: .int v1 :: .ref (base + k0) :: rest)) := r_callVI (n := 2) (As := [.int v1, .int v2]) C hl (rd_9 t0) (cls_lt t0 (by decide)) rfl (fun S1 r1 h => ct_X9_build l t0 h) wd_448 wd_449 wd_450 wd_451 wd_452 rfl rfl (by decide +kernel) hR rfl rfl hroom hd kk
abbrev rm_X10_terrace : Room := { frames := 1, cells := 0, slots := 0, locals := 23 }
set_option maxHeartbeats 4000000 in
set_option maxRecDepth 100000 in
theorem sm_X10_terrace {p : Program} {l : Launch} {e : Env} {s : State} {m : MethodId} {args : Array Value} {below : List Frame} {meth : Method} {c : Code} {D : va_G} {cy : Nat → ClassId} {base tS : Nat} {S : St} {k0 : Nat} {v1 : Int32} {v2 : Int32} {v3 : Int32} {ls : Array Slot} (C : Cx p rm_X10_terrace s m args c RX10 cX10_terrace 4 D cy base tS 0 0) (hr : meth.sig.returnType = (some .int)) (hk : meth.locks = false) (t0 : cls k0 = 10) (hl : lv_has ls 4 [(0, .ref (base + k0)), (1, .int v1), (2, .int v2), (3, .int v3)]) : Sim p l e rm_X10_terrace s m args below meth c D cy base 0 0 (fun S1 r => MQ below (QcI D cy base tS S1 r) args s 0 0 (AA base)) (X10_terrace S k0 v1 v2 v3) S (F0 m 0 ls []) := by
  unfold X10_terrace
  refine r_iload_n (pc := 0) C dX10_terrace_0 rfl (lv_at hl 1 rfl) ?_
  refine cv_X10_255 (pc := 1) C  hl.1 ⟨Nat.le_of_ble_eq_true rfl, Nat.le_of_ble_eq_true rfl⟩ (Nat.le_of_ble_eq_true rfl) dX10_terrace_1 (fun S21 v22 => ?_)
  refine r_join (fun (j : St → Option (St × Int32)) => ∀ (S24 : St)  (ls : Array Slot), lv_has ls 4 [(0, .ref (base + k0))] → Sim p l e rm_X10_terrace s m args below meth c D cy base 0 0 (fun S1 r => MQ below (QcI D cy base tS S1 r) args s 0 0 (AA base)) (j S24) S24 (F0 m 14 ls [])) ?_ (fun j23 hj23 => ?_)
  · intro S24 ls hl
    refine r_aload_n (pc := 14) C dX10_terrace_14 rfl (lv_at hl 0 rfl) ?_
    refine r_iconst (pc := 15) C (-1 : Int32) dX10_terrace_15 (by decide) ?_
    refine cv_X10_96 (pc := 16) C t0 hl.1 ⟨Nat.le_of_ble_eq_true rfl, Nat.le_of_ble_eq_true rfl⟩ (Nat.le_of_ble_eq_true rfl) dX10_terrace_16 (fun S25 v26 => ?_)
    exact r_iret (pc := 19) C hr hk dX10_terrace_19
  refine r_if_eq (pc := 4) C (tgt := 14) dX10_terrace_4 (by decide) (fun _ => ?_) (fun _ => ?_)
  · exact hj23 S21  _ (lv_sub hl [0] rfl)
  · refine r_iload_n (pc := 7) C dX10_terrace_7 rfl (lv_at hl 2 rfl) ?_
    refine cv_X10_258 (pc := 8) C  hl.1 ⟨Nat.le_of_ble_eq_true rfl, Nat.le_of_ble_eq_true rfl⟩ (Nat.le_of_ble_eq_true rfl) dX10_terrace_8 (fun S27 v28 => ?_)
    refine r_if_ne (pc := 11) C (tgt := 20) dX10_terrace_11 (by decide) (fun _ => ?_) (fun _ => ?_)
    · refine r_iload_n (pc := 20) C dX10_terrace_20 rfl (lv_at hl 3 rfl) ?_
      refine r_if_ge (pc := 21) C (tgt := 31) dX10_terrace_21 (by decide) (fun _ => ?_) (fun _ => ?_)
      · refine r_iload_n (pc := 31) C dX10_terrace_31 rfl (lv_at hl 3 rfl) ?_
        refine r_bipush (pc := 32) C (16 : Int32) dX10_terrace_32 (by decide) ?_
        refine r_icmp_le (pc := 34) C (tgt := 43) dX10_terrace_34 (by decide) (fun _ => ?_) (fun _ => ?_)
        · refine r_aload_n (pc := 43) C dX10_terrace_43 rfl (lv_at hl 0 rfl) ?_
          refine gf_X10_76 (pc := 44) C t0 dX10_terrace_44 ?_
          have t29 := ft_10_10 t0
          refine r_iload_n (pc := 47) C dX10_terrace_47 rfl (lv_at hl 1 rfl) ?_
          refine r_aald16 (pc := 48) C t29 dX10_terrace_48 (fun b31 => ?_)
          have t30 := et_16_4 t29 b31
          refine r_iload_n (pc := 49) C dX10_terrace_49 rfl (lv_at hl 2 rfl) ?_
          refine r_iload_n (pc := 50) C dX10_terrace_50 rfl (lv_at hl 3 rfl) ?_
          refine cv_X10_261 (pc := 51) C t30 hl.1 ⟨Nat.le_of_ble_eq_true rfl, Nat.le_of_ble_eq_true rfl⟩ (Nat.le_of_ble_eq_true rfl) dX10_terrace_51 (fun S32 v33 => ?_)
          exact r_iret (pc := 54) C hr hk dX10_terrace_54
        · refine r_aload_n (pc := 37) C dX10_terrace_37 rfl (lv_at hl 0 rfl) ?_
          refine r_iconst (pc := 38) C (-1 : Int32) dX10_terrace_38 (by decide) ?_
          refine cv_X10_96 (pc := 39) C t0 hl.1 ⟨Nat.le_of_ble_eq_true rfl, Nat.le_of_ble_eq_true rfl⟩ (Nat.le_of_ble_eq_true rfl) dX10_terrace_39 (fun S34 v35 => ?_)
          exact r_iret (pc := 42) C hr hk dX10_terrace_42
      · refine r_aload_n (pc := 24) C dX10_terrace_24 rfl (lv_at hl 0 rfl) ?_
        refine r_bipush (pc := 25) C (-3 : Int32) dX10_terrace_25 (by decide) ?_
        refine cv_X10_96 (pc := 27) C t0 hl.1 ⟨Nat.le_of_ble_eq_true rfl, Nat.le_of_ble_eq_true rfl⟩ (Nat.le_of_ble_eq_true rfl) dX10_terrace_27 (fun S36 v37 => ?_)
        exact r_iret (pc := 30) C hr hk dX10_terrace_30
    · exact hj23 S27  _ (lv_sub hl [0] rfl)

theorem ct_X10_terrace (l : Launch) {D : va_G} {cy : Nat → ClassId} {base tS : Nat} {S : St} {k0 : Nat} {v1 : Int32} {v2 : Int32} {v3 : Int32} (t0 : cls k0 = 10) {S1 : St} {r1 : Int32} (h : X10_terrace S k0 v1 v2 v3 = some (S1, r1)) : Met l yX10_terrace (wsY yX10_terrace cX10_terrace 4 (some .int)) rm_X10_terrace (va_Pc [.ref (base + k0), .int v1, .int v2, .int v3] (World D cy base tS S)) (QcI D cy base tS S1 r1) 0 0 (AA base) := conI rfl rfl (by decide) (Nat.le_of_ble_eq_true rfl) (fun p e s m args below meth c ls C hr hk hl => sm_X10_terrace C hr hk t0 hl) h
