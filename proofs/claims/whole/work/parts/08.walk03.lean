abbrev rm_X10_foundByPut : Room := { frames := 1, cells := 0, slots := 0, locals := 21 }
set_option maxHeartbeats 4000000 in
set_option maxRecDepth 100000 in
theorem sm_X10_foundByPut {p : Program} {l : Launch} {e : Env} {s : State} {m : MethodId} {args : Array Value} {below : List Frame} {meth : Method} {c : Code} {D : va_G} {cy : Nat → ClassId} {base tS : Nat} {S : St} {k0 : Nat} {v1 : Int32} {ls : Array Slot} (C : Cx p rm_X10_foundByPut s m args c RX10 cX10_foundByPut 2 D cy base tS 0 0) (hr : meth.sig.returnType = (some .long)) (hk : meth.locks = false) (t0 : cls k0 = 10) (hl : lv_has ls 2 [(0, .ref (base + k0)), (1, .int v1)]) : Sim p l e rm_X10_foundByPut s m args below meth c D cy base 0 0 (fun S1 r => MQ below (QcJ D cy base tS S1 r) args s 0 0 (AA base)) (X10_foundByPut S k0 v1) S (F0 m 0 ls []) := by
  unfold X10_foundByPut
  refine r_aload_n (pc := 0) C dX10_foundByPut_0 rfl (lv_at hl 0 rfl) ?_
  refine r_iload_n (pc := 1) C dX10_foundByPut_1 rfl (lv_at hl 1 rfl) ?_
  refine cv_X10_96 (pc := 2) C t0 hl.1 ⟨Nat.le_of_ble_eq_true rfl, Nat.le_of_ble_eq_true rfl⟩ (Nat.le_of_ble_eq_true rfl) dX10_foundByPut_2 (fun S21 v22 => ?_)
  refine r_pop (pc := 5) C dX10_foundByPut_5 rfl ?_
  refine r_ldc2 (pc := 6) C (-9223372036854775808 : Int64) wd_38 dX10_foundByPut_6 ?_
  exact r_lret (pc := 9) C hr hk dX10_foundByPut_9

theorem ct_X10_foundByPut (l : Launch) {D : va_G} {cy : Nat → ClassId} {base tS : Nat} {S : St} {k0 : Nat} {v1 : Int32} (t0 : cls k0 = 10) {S1 : St} {r1 : Int64} (h : X10_foundByPut S k0 v1 = some (S1, r1)) : Met l yX10_foundByPut (wsY yX10_foundByPut cX10_foundByPut 2 (some .long)) rm_X10_foundByPut (va_Pc [.ref (base + k0), .int v1] (World D cy base tS S)) (QcJ D cy base tS S1 r1) 0 0 (AA base) := conJ rfl rfl (by decide) (Nat.le_of_ble_eq_true rfl) (fun p e s m args below meth c ls C hr hk hl => sm_X10_foundByPut C hr hk t0 hl) h
theorem cv_X10_264 {p : Program} {l : Launch} {e : Env} {R : Room} {s : State} {m : MethodId} {args : Array Value} {below : List Frame} {meth : Method} {c : Code} {D : va_G} {cy : Nat → ClassId} {base tS nc ns : Nat} {cc : ByteArray} {nL pc : Nat} {ls : Array Slot} {rest : List Value} {S : St} {ρ : Type} {Q : St → ρ → State → Prop} (C : Cx p R s m args c RX10 cc nL D cy base tS nc ns) {k0 : Nat} {v1 : Int32} (t0 : cls k0 = 10) (hl : ls.size = nL) (hR : rm_X10_foundByPut.frames + 1 ≤ R.frames ∧ 8 + (2 + 11) + rm_X10_foundByPut.locals ≤ R.locals) {b : St → Int64 → Option (St × ρ)} (hroom : (rest.map fun v => v.category).sum ≤ 8) (hd : decode cc pc = .ok (.invokevirtual 264, 3)) (kk : ∀ (S1 : St) (r : Int64), Sim p l e R s m args below meth c D cy base nc ns Q (b S1 r) S1 (F0 m (pc + 3) ls (.long r :: rest))) : Sim p l e R s m args below meth c D cy base nc ns Q (bd (X10_foundByPut S k0 v1) b) S (F0 m pc ls (.int v1 :: .ref (base + k0) :: rest)) := r_callVJ (n := 1) (As := [.int v1]) C hl (rd_10 t0) (cls_lt t0 (by decide)) rfl (fun S1 r1 h => ct_X10_foundByPut l t0 h) wd_453 wd_454 wd_455 wd_164 wd_456 rfl rfl (by decide +kernel) hR rfl rfl hroom hd kk
abbrev rm_X9_isMissing : Room := { frames := 0, cells := 0, slots := 0, locals := 0 }
set_option maxHeartbeats 4000000 in
set_option maxRecDepth 100000 in
theorem sm_X9_isMissing {p : Program} {l : Launch} {e : Env} {s : State} {m : MethodId} {args : Array Value} {below : List Frame} {meth : Method} {c : Code} {D : va_G} {cy : Nat → ClassId} {base tS : Nat} {S : St} {k0 : Nat} {ls : Array Slot} (C : Cx p rm_X9_isMissing s m args c RX9 cX9_isMissing 1 D cy base tS 0 0) (hr : meth.sig.returnType = (some .boolean)) (hk : meth.locks = false) (t0 : cls k0 = 9) (hl : lv_has ls 1 [(0, .ref (base + k0))]) : Sim p l e rm_X9_isMissing s m args below meth c D cy base 0 0 (fun S1 r => MQ below (QcI D cy base tS S1 r) args s 0 0 (AA base)) (X9_isMissing S k0) S (F0 m 0 ls []) := by
  unfold X9_isMissing
  refine r_aload_n (pc := 0) C dX9_isMissing_0 rfl (lv_at hl 0 rfl) ?_
  refine gf_X9_15 (pc := 1) C t0 dX9_isMissing_1 ?_
  refine r_if_ne (pc := 4) C (tgt := 11) dX9_isMissing_4 (by decide) (fun _ => ?_) (fun _ => ?_)
  · refine r_iconst (pc := 11) C (0 : Int32) dX9_isMissing_11 (by decide) ?_
    exact r_zret (pc := 12) C rfl hr hk dX9_isMissing_12
  · refine r_iconst (pc := 7) C (1 : Int32) dX9_isMissing_7 (by decide) ?_
    refine r_goto (pc := 8) C (tgt := 12) dX9_isMissing_8 (by decide) ?_
    exact r_zret (pc := 12) C rfl hr hk dX9_isMissing_12

theorem ct_X9_isMissing (l : Launch) {D : va_G} {cy : Nat → ClassId} {base tS : Nat} {S : St} {k0 : Nat} (t0 : cls k0 = 9) {S1 : St} {r1 : Int32} (h : X9_isMissing S k0 = some (S1, r1)) : Met l yX9_isMissing (wsY yX9_isMissing cX9_isMissing 1 (some .boolean)) rm_X9_isMissing (va_Pc [.ref (base + k0)] (World D cy base tS S)) (QcI D cy base tS S1 r1) 0 0 (AA base) := conI rfl rfl (by decide) (Nat.le_of_ble_eq_true rfl) (fun p e s m args below meth c ls C hr hk hl => sm_X9_isMissing C hr hk t0 hl) h
theorem cv_X10_268 {p : Program} {l : Launch} {e : Env} {R : Room} {s : State} {m : MethodId} {args : Array Value} {below : List Frame} {meth : Method} {c : Code} {D : va_G} {cy : Nat → ClassId} {base tS nc ns : Nat} {cc : ByteArray} {nL pc : Nat} {ls : Array Slot} {rest : List Value} {S : St} {ρ : Type} {Q : St → ρ → State → Prop} (C : Cx p R s m args c RX10 cc nL D cy base tS nc ns) {k0 : Nat} (t0 : cls k0 = 9) (hl : ls.size = nL) (hR : rm_X9_isMissing.frames + 1 ≤ R.frames ∧ 8 + (1 + 11) + rm_X9_isMissing.locals ≤ R.locals) {b : St → Int32 → Option (St × ρ)} (hroom : (rest.map fun v => v.category).sum ≤ 8) (hd : decode cc pc = .ok (.invokevirtual 268, 3)) (kk : ∀ (S1 : St) (r : Int32), Sim p l e R s m args below meth c D cy base nc ns Q (b S1 r) S1 (F0 m (pc + 3) ls (.int r :: rest))) : Sim p l e R s m args below meth c D cy base nc ns Q (bd (X9_isMissing S k0) b) S (F0 m pc ls (.ref (base + k0) :: rest)) := r_callVI (n := 0) (As := []) C hl (rd_9 t0) (cls_lt t0 (by decide)) rfl (fun S1 r1 h => ct_X9_isMissing l t0 h) wd_457 wd_458 wd_459 wd_451 wd_460 rfl rfl (by decide +kernel) hR rfl rfl hroom hd kk
abbrev rm_X9_store : Room := { frames := 0, cells := 0, slots := 0, locals := 0 }
set_option maxHeartbeats 4000000 in
set_option maxRecDepth 100000 in
theorem sm_X9_store {p : Program} {l : Launch} {e : Env} {s : State} {m : MethodId} {args : Array Value} {below : List Frame} {meth : Method} {c : Code} {D : va_G} {cy : Nat → ClassId} {base tS : Nat} {S : St} {k0 : Nat} {v1 : Int32} {v2 : Int64} {ls : Array Slot} (C : Cx p rm_X9_store s m args c RX9 cX9_store 5 D cy base tS 0 0) (hr : meth.sig.returnType = (some .long)) (hk : meth.locks = false) (t0 : cls k0 = 9) (hl : lv_has ls 5 [(0, .ref (base + k0)), (1, .int v1), (2, .long v2)]) : Sim p l e rm_X9_store s m args below meth c D cy base 0 0 (fun S1 r => MQ below (QcJ D cy base tS S1 r) args s 0 0 (AA base)) (X9_store S k0 v1 v2) S (F0 m 0 ls []) := by
  unfold X9_store
  refine r_bipush (pc := 0) C (64 : Int32) dX9_store_0 (by decide) ?_
  refine r_aload_n (pc := 2) C dX9_store_2 rfl (lv_at hl 0 rfl) ?_
  refine gf_X9_15 (pc := 3) C t0 dX9_store_3 ?_
  refine r_isub (pc := 6) C dX9_store_6 ?_
  refine r_topi (fun v21 => ?_)
  refine r_istore (lv2 := [(4, .int v21), (0, .ref (base + k0)), (1, .int v1), (2, .long v2)]) (pc := 7) C dX9_store_7 hl (Nat.le_of_ble_eq_true rfl) rfl (fun ls hl => ?_)
  refine r_aload_n (pc := 9) C dX9_store_9 rfl (lv_at hl 1 rfl) ?_
  refine gf_X9_9 (pc := 10) C t0 dX9_store_10 ?_
  have t22 := ft_9_0 t0
  refine r_iload_n (pc := 13) C dX9_store_13 rfl (lv_at hl 2 rfl) ?_
  refine r_lload_n (pc := 14) C dX9_store_14 rfl (lv_at hl 3 rfl) ?_
  refine r_iload (pc := 15) C dX9_store_15 (lv_at hl 0 rfl) ?_
  refine r_lshl (pc := 17) C dX9_store_17 ?_
  refine r_iload (pc := 18) C dX9_store_18 (lv_at hl 0 rfl) ?_
  refine r_lshr (pc := 20) C dX9_store_20 ?_
  refine r_last (pc := 21) C t22 dX9_store_21 (fun S23 => ?_)
  refine r_aload_n (pc := 22) C dX9_store_22 rfl (lv_at hl 1 rfl) ?_
  refine gf_X9_9 (pc := 23) C t0 dX9_store_23 ?_
  have t24 := ft_9_0 t0
  refine r_iload_n (pc := 26) C dX9_store_26 rfl (lv_at hl 2 rfl) ?_
  refine r_lald (pc := 27) C t24 dX9_store_27 ?_
  exact r_lret (pc := 28) C hr hk dX9_store_28

theorem ct_X9_store (l : Launch) {D : va_G} {cy : Nat → ClassId} {base tS : Nat} {S : St} {k0 : Nat} {v1 : Int32} {v2 : Int64} (t0 : cls k0 = 9) {S1 : St} {r1 : Int64} (h : X9_store S k0 v1 v2 = some (S1, r1)) : Met l yX9_store (wsY yX9_store cX9_store 5 (some .long)) rm_X9_store (va_Pc [.ref (base + k0), .int v1, .long v2] (World D cy base tS S)) (QcJ D cy base tS S1 r1) 0 0 (AA base) := conJ rfl rfl (by decide) (Nat.le_of_ble_eq_true rfl) (fun p e s m args below meth c ls C hr hk hl => sm_X9_store C hr hk t0 hl) h
theorem cv_X10_274 {p : Program} {l : Launch} {e : Env} {R : Room} {s : State} {m : MethodId} {args : Array Value} {below : List Frame} {meth : Method} {c : Code} {D : va_G} {cy : Nat → ClassId} {base tS nc ns : Nat} {cc : ByteArray} {nL pc : Nat} {ls : Array Slot} {rest : List Value} {S : St} {ρ : Type} {Q : St → ρ → State → Prop} (C : Cx p R s m args c RX10 cc nL D cy base tS nc ns) {k0 : Nat} {v1 : Int32} {v2 : Int64} (t0 : cls k0 = 9) (hl : ls.size = nL) (hR : rm_X9_store.frames + 1 ≤ R.frames ∧ 8 + (5 + 11) + rm_X9_store.locals ≤ R.locals) {b : St → Int64 → Option (St × ρ)} (hroom : (rest.map fun v => v.category).sum ≤ 8) (hd : decode cc pc = .ok (.invokevirtual 274, 3)) (kk : ∀ (S1 : St) (r : Int64), Sim p l e R s m args below meth c D cy base nc ns Q (b S1 r) S1 (F0 m (pc + 3) ls (.long r :: rest))) : Sim p l e R s m args below meth c D cy base nc ns Q (bd (X9_store S k0 v1 v2) b) S (F0 m pc ls (.long v2 :: .int v1 :: .ref (base + k0) :: rest)) := r_callVJ (n := 2) (As := [.int v1, .long v2]) C hl (rd_9 t0) (cls_lt t0 (by decide)) rfl (fun S1 r1 h => ct_X9_store l t0 h) wd_461 wd_462 wd_463 wd_451 wd_464 rfl rfl (by decide +kernel) hR rfl rfl hroom hd kk
abbrev rm_X10_put : Room := { frames := 2, cells := 0, slots := 0, locals := 42 }
set_option maxHeartbeats 4000000 in
set_option maxRecDepth 100000 in
theorem sm_X10_put {p : Program} {l : Launch} {e : Env} {s : State} {m : MethodId} {args : Array Value} {below : List Frame} {meth : Method} {c : Code} {D : va_G} {cy : Nat → ClassId} {base tS : Nat} {S : St} {k0 : Nat} {v1 : Int32} {v2 : Int32} {v3 : Int64} {ls : Array Slot} (C : Cx p rm_X10_put s m args c RX10 cX10_put 5 D cy base tS 0 0) (hr : meth.sig.returnType = (some .long)) (hk : meth.locks = false) (t0 : cls k0 = 10) (hl : lv_has ls 5 [(0, .ref (base + k0)), (1, .int v1), (2, .int v2), (3, .long v3)]) : Sim p l e rm_X10_put s m args below meth c D cy base 0 0 (fun S1 r => MQ below (QcJ D cy base tS S1 r) args s 0 0 (AA base)) (X10_put S k0 v1 v2 v3) S (F0 m 0 ls []) := by
  unfold X10_put
  refine r_iload_n (pc := 0) C dX10_put_0 rfl (lv_at hl 1 rfl) ?_
  refine cv_X10_255 (pc := 1) C  hl.1 ⟨Nat.le_of_ble_eq_true rfl, Nat.le_of_ble_eq_true rfl⟩ (Nat.le_of_ble_eq_true rfl) dX10_put_1 (fun S21 v22 => ?_)
  refine r_if_ne (pc := 4) C (tgt := 13) dX10_put_4 (by decide) (fun _ => ?_) (fun _ => ?_)
  · refine r_aload_n (pc := 13) C dX10_put_13 rfl (lv_at hl 0 rfl) ?_
    refine gf_X10_76 (pc := 14) C t0 dX10_put_14 ?_
    have t23 := ft_10_10 t0
    refine r_iload_n (pc := 17) C dX10_put_17 rfl (lv_at hl 1 rfl) ?_
    refine r_aald16 (pc := 18) C t23 dX10_put_18 (fun b25 => ?_)
    have t24 := et_16_4 t23 b25
    refine cv_X10_268 (pc := 19) C t24 hl.1 ⟨Nat.le_of_ble_eq_true rfl, Nat.le_of_ble_eq_true rfl⟩ (Nat.le_of_ble_eq_true rfl) dX10_put_19 (fun S26 v27 => ?_)
    refine r_if_eq (pc := 22) C (tgt := 32) dX10_put_22 (by decide) (fun _ => ?_) (fun _ => ?_)
    · refine r_iload_n (pc := 32) C dX10_put_32 rfl (lv_at hl 2 rfl) ?_
      refine r_join (fun (j : St → Option (St × Int64)) => ∀ (S29 : St)  (ls : Array Slot), lv_has ls 5 [(0, .ref (base + k0))] → Sim p l e rm_X10_put s m args below meth c D cy base 0 0 (fun S1 r => MQ below (QcJ D cy base tS S1 r) args s 0 0 (AA base)) (j S29) S29 (F0 m 49 ls [])) ?_ (fun j28 hj28 => ?_)
      · intro S29 ls hl
        refine r_aload_n (pc := 49) C dX10_put_49 rfl (lv_at hl 0 rfl) ?_
        refine r_iconst (pc := 50) C (-1 : Int32) dX10_put_50 (by decide) ?_
        refine cv_X10_264 (pc := 51) C t0 hl.1 ⟨Nat.le_of_ble_eq_true rfl, Nat.le_of_ble_eq_true rfl⟩ (Nat.le_of_ble_eq_true rfl) dX10_put_51 (fun S30 v31 => ?_)
        exact r_lret (pc := 54) C hr hk dX10_put_54
      refine r_if_lt (pc := 33) C (tgt := 49) dX10_put_33 (by decide) (fun _ => ?_) (fun _ => ?_)
      · exact hj28 S26  _ (lv_sub hl [0] rfl)
      · refine r_iload_n (pc := 36) C dX10_put_36 rfl (lv_at hl 2 rfl) ?_
        refine r_aload_n (pc := 37) C dX10_put_37 rfl (lv_at hl 0 rfl) ?_
        refine gf_X10_76 (pc := 38) C t0 dX10_put_38 ?_
        have t32 := ft_10_10 t0
        refine r_iload_n (pc := 41) C dX10_put_41 rfl (lv_at hl 1 rfl) ?_
        refine r_aald16 (pc := 42) C t32 dX10_put_42 (fun b34 => ?_)
        have t33 := et_16_4 t32 b34
        refine gf_X10_271 (pc := 43) C t33 dX10_put_43 ?_
        refine r_icmp_lt (pc := 46) C (tgt := 55) dX10_put_46 (by decide) (fun _ => ?_) (fun _ => ?_)
        · refine r_aload_n (pc := 55) C dX10_put_55 rfl (lv_at hl 0 rfl) ?_
          refine gf_X10_76 (pc := 56) C t0 dX10_put_56 ?_
          have t35 := ft_10_10 t0
          refine r_iload_n (pc := 59) C dX10_put_59 rfl (lv_at hl 1 rfl) ?_
          refine r_aald16 (pc := 60) C t35 dX10_put_60 (fun b37 => ?_)
          have t36 := et_16_4 t35 b37
          refine r_iload_n (pc := 61) C dX10_put_61 rfl (lv_at hl 2 rfl) ?_
          refine r_lload_n (pc := 62) C dX10_put_62 rfl (lv_at hl 3 rfl) ?_
          refine cv_X10_274 (pc := 63) C t36 hl.1 ⟨Nat.le_of_ble_eq_true rfl, Nat.le_of_ble_eq_true rfl⟩ (Nat.le_of_ble_eq_true rfl) dX10_put_63 (fun S38 v39 => ?_)
          exact r_lret (pc := 66) C hr hk dX10_put_66
        · exact hj28 S26  _ (lv_sub hl [0] rfl)
    · refine r_aload_n (pc := 25) C dX10_put_25 rfl (lv_at hl 0 rfl) ?_
      refine r_bipush (pc := 26) C (-2 : Int32) dX10_put_26 (by decide) ?_
      refine cv_X10_264 (pc := 28) C t0 hl.1 ⟨Nat.le_of_ble_eq_true rfl, Nat.le_of_ble_eq_true rfl⟩ (Nat.le_of_ble_eq_true rfl) dX10_put_28 (fun S40 v41 => ?_)
      exact r_lret (pc := 31) C hr hk dX10_put_31
  · refine r_aload_n (pc := 7) C dX10_put_7 rfl (lv_at hl 0 rfl) ?_
    refine r_iconst (pc := 8) C (-1 : Int32) dX10_put_8 (by decide) ?_
    refine cv_X10_264 (pc := 9) C t0 hl.1 ⟨Nat.le_of_ble_eq_true rfl, Nat.le_of_ble_eq_true rfl⟩ (Nat.le_of_ble_eq_true rfl) dX10_put_9 (fun S42 v43 => ?_)
    exact r_lret (pc := 12) C hr hk dX10_put_12

theorem ct_X10_put (l : Launch) {D : va_G} {cy : Nat → ClassId} {base tS : Nat} {S : St} {k0 : Nat} {v1 : Int32} {v2 : Int32} {v3 : Int64} (t0 : cls k0 = 10) {S1 : St} {r1 : Int64} (h : X10_put S k0 v1 v2 v3 = some (S1, r1)) : Met l yX10_put (wsY yX10_put cX10_put 5 (some .long)) rm_X10_put (va_Pc [.ref (base + k0), .int v1, .int v2, .long v3] (World D cy base tS S)) (QcJ D cy base tS S1 r1) 0 0 (AA base) := conJ rfl rfl (by decide) (Nat.le_of_ble_eq_true rfl) (fun p e s m args below meth c ls C hr hk hl => sm_X10_put C hr hk t0 hl) h
abbrev rm_X10_isStretch : Room := { frames := 0, cells := 0, slots := 0, locals := 0 }
set_option maxHeartbeats 4000000 in
set_option maxRecDepth 100000 in
theorem sm_X10_isStretch {p : Program} {l : Launch} {e : Env} {s : State} {m : MethodId} {args : Array Value} {below : List Frame} {meth : Method} {c : Code} {D : va_G} {cy : Nat → ClassId} {base tS : Nat} {S : St} {v0 : Int32} {v1 : Int32} {v2 : Int32} {ls : Array Slot} (C : Cx p rm_X10_isStretch s m args c RX10 cX10_isStretch 3 D cy base tS 0 0) (hr : meth.sig.returnType = (some .boolean)) (hk : meth.locks = false)  (hl : lv_has ls 3 [(0, .int v0), (1, .int v1), (2, .int v2)]) : Sim p l e rm_X10_isStretch s m args below meth c D cy base 0 0 (fun S1 r => MQ below (QcI D cy base tS S1 r) args s 0 0 (AA base)) (X10_isStretch S v0 v1 v2) S (F0 m 0 ls []) := by
  unfold X10_isStretch
  refine r_iload_n (pc := 0) C dX10_isStretch_0 rfl (lv_at hl 0 rfl) ?_
  refine r_join (fun (j : St → Option (St × Int32)) => ∀ (S22 : St)  (ls : Array Slot), lv_has ls 3 [] → Sim p l e rm_X10_isStretch s m args below meth c D cy base 0 0 (fun S1 r => MQ below (QcI D cy base tS S1 r) args s 0 0 (AA base)) (j S22) S22 (F0 m 24 ls [])) ?_ (fun j21 hj21 => ?_)
  · intro S22 ls hl
    refine r_iconst (pc := 24) C (0 : Int32) dX10_isStretch_24 (by decide) ?_
    exact r_zret (pc := 25) C rfl hr hk dX10_isStretch_25
  refine r_if_lt (pc := 1) C (tgt := 24) dX10_isStretch_1 (by decide) (fun _ => ?_) (fun _ => ?_)
  · exact hj21 S  _ (lv_sub hl [] rfl)
  · refine r_iload_n (pc := 4) C dX10_isStretch_4 rfl (lv_at hl 1 rfl) ?_
    refine r_if_lt (pc := 5) C (tgt := 24) dX10_isStretch_5 (by decide) (fun _ => ?_) (fun _ => ?_)
    · exact hj21 S  _ (lv_sub hl [] rfl)
    · refine r_iload_n (pc := 8) C dX10_isStretch_8 rfl (lv_at hl 1 rfl) ?_
      refine r_iload_n (pc := 9) C dX10_isStretch_9 rfl (lv_at hl 2 rfl) ?_
      refine r_icmp_gt (pc := 10) C (tgt := 24) dX10_isStretch_10 (by decide) (fun _ => ?_) (fun _ => ?_)
      · exact hj21 S  _ (lv_sub hl [] rfl)
      · refine r_iload_n (pc := 13) C dX10_isStretch_13 rfl (lv_at hl 0 rfl) ?_
        refine r_iload_n (pc := 14) C dX10_isStretch_14 rfl (lv_at hl 2 rfl) ?_
        refine r_iload_n (pc := 15) C dX10_isStretch_15 rfl (lv_at hl 1 rfl) ?_
        refine r_isub (pc := 16) C dX10_isStretch_16 ?_
        refine r_icmp_gt (pc := 17) C (tgt := 24) dX10_isStretch_17 (by decide) (fun _ => ?_) (fun _ => ?_)
        · exact hj21 S  _ (lv_sub hl [] rfl)
        · refine r_iconst (pc := 20) C (1 : Int32) dX10_isStretch_20 (by decide) ?_
          refine r_goto (pc := 21) C (tgt := 25) dX10_isStretch_21 (by decide) ?_
          exact r_zret (pc := 25) C rfl hr hk dX10_isStretch_25

theorem ct_X10_isStretch (l : Launch) {D : va_G} {cy : Nat → ClassId} {base tS : Nat} {S : St} {v0 : Int32} {v1 : Int32} {v2 : Int32}  {S1 : St} {r1 : Int32} (h : X10_isStretch S v0 v1 v2 = some (S1, r1)) : Met l yX10_isStretch (wsY yX10_isStretch cX10_isStretch 3 (some .boolean)) rm_X10_isStretch (va_Pc [.int v0, .int v1, .int v2] (World D cy base tS S)) (QcI D cy base tS S1 r1) 0 0 (AA base) := conI rfl rfl (by decide) (Nat.le_of_ble_eq_true rfl) (fun p e s m args below meth c ls C hr hk hl => sm_X10_isStretch C hr hk  hl) h
theorem cv_X10_281 {p : Program} {l : Launch} {e : Env} {R : Room} {s : State} {m : MethodId} {args : Array Value} {below : List Frame} {meth : Method} {c : Code} {D : va_G} {cy : Nat → ClassId} {base tS nc ns : Nat} {cc : ByteArray} {nL pc : Nat} {ls : Array Slot} {rest : List Value} {S : St} {ρ : Type} {Q : St → ρ → State → Prop} (C : Cx p R s m args c RX10 cc nL D cy base tS nc ns) {v0 : Int32} {v1 : Int32} {v2 : Int32}  (hl : ls.size = nL) (hR : rm_X10_isStretch.frames + 1 ≤ R.frames ∧ 8 + (3 + 11) + rm_X10_isStretch.locals ≤ R.locals) {b : St → Int32 → Option (St × ρ)} (hroom : (rest.map fun v => v.category).sum ≤ 8) (hd : decode cc pc = .ok (.invokestatic 281, 3)) (kk : ∀ (S1 : St) (r : Int32), Sim p l e R s m args below meth c D cy base nc ns Q (b S1 r) S1 (F0 m (pc + 3) ls (.int r :: rest))) : Sim p l e R s m args below meth c D cy base nc ns Q (bd (X10_isStretch S v0 v1 v2) b) S (F0 m pc ls (.int v2 :: .int v1 :: .int v0 :: rest)) := r_callSI (n := 3) (As := [.int v0, .int v1, .int v2]) C hl (fun S1 r1 h => ct_X10_isStretch l  h) wd_465 wd_466 wd_164 wd_467 rfl rfl (by decide +kernel) hR rfl rfl hroom hd kk
abbrev rm_X10_copy : Room := { frames := 1, cells := 0, slots := 0, locals := 30 }
set_option maxHeartbeats 4000000 in
set_option maxRecDepth 100000 in
theorem sm_X10_copy {p : Program} {l : Launch} {e : Env} {s : State} {m : MethodId} {args : Array Value} {below : List Frame} {meth : Method} {c : Code} {D : va_G} {cy : Nat → ClassId} {base tS : Nat} {S : St} {k0 : Nat} {v1 : Int32} {v2 : Int32} {v3 : Int32} {v4 : Int32} {v5 : Int32} {ls : Array Slot} (C : Cx p rm_X10_copy s m args c RX10 cX10_copy 6 D cy base tS 0 0) (hr : meth.sig.returnType = (some .int)) (hk : meth.locks = false) (t0 : cls k0 = 10) (hl : lv_has ls 6 [(0, .ref (base + k0)), (1, .int v1), (2, .int v2), (3, .int v3), (4, .int v4), (5, .int v5)]) : Sim p l e rm_X10_copy s m args below meth c D cy base 0 0 (fun S1 r => MQ below (QcI D cy base tS S1 r) args s 0 0 (AA base)) (X10_copy S k0 v1 v2 v3 v4 v5) S (F0 m 0 ls []) := by
  unfold X10_copy
  refine r_iload_n (pc := 0) C dX10_copy_0 rfl (lv_at hl 1 rfl) ?_
  refine cv_X10_255 (pc := 1) C  hl.1 ⟨Nat.le_of_ble_eq_true rfl, Nat.le_of_ble_eq_true rfl⟩ (Nat.le_of_ble_eq_true rfl) dX10_copy_1 (fun S21 v22 => ?_)
  refine r_join (fun (j : St → Option (St × Int32)) => ∀ (S24 : St)  (ls : Array Slot), lv_has ls 6 [(0, .ref (base + k0))] → Sim p l e rm_X10_copy s m args below meth c D cy base 0 0 (fun S1 r => MQ below (QcI D cy base tS S1 r) args s 0 0 (AA base)) (j S24) S24 (F0 m 14 ls [])) ?_ (fun j23 hj23 => ?_)
  · intro S24 ls hl
    refine r_aload_n (pc := 14) C dX10_copy_14 rfl (lv_at hl 0 rfl) ?_
    refine r_iconst (pc := 15) C (-1 : Int32) dX10_copy_15 (by decide) ?_
    refine cv_X10_96 (pc := 16) C t0 hl.1 ⟨Nat.le_of_ble_eq_true rfl, Nat.le_of_ble_eq_true rfl⟩ (Nat.le_of_ble_eq_true rfl) dX10_copy_16 (fun S25 v26 => ?_)
    exact r_iret (pc := 19) C hr hk dX10_copy_19
  refine r_if_eq (pc := 4) C (tgt := 14) dX10_copy_4 (by decide) (fun _ => ?_) (fun _ => ?_)
  · exact hj23 S21  _ (lv_sub hl [0] rfl)
  · refine r_iload_n (pc := 7) C dX10_copy_7 rfl (lv_at hl 3 rfl) ?_
    refine cv_X10_255 (pc := 8) C  hl.1 ⟨Nat.le_of_ble_eq_true rfl, Nat.le_of_ble_eq_true rfl⟩ (Nat.le_of_ble_eq_true rfl) dX10_copy_8 (fun S27 v28 => ?_)
    refine r_if_ne (pc := 11) C (tgt := 20) dX10_copy_11 (by decide) (fun _ => ?_) (fun _ => ?_)
    · refine r_aload_n (pc := 20) C dX10_copy_20 rfl (lv_at hl 0 rfl) ?_
      refine gf_X10_76 (pc := 21) C t0 dX10_copy_21 ?_
      have t29 := ft_10_10 t0
      refine r_iload_n (pc := 24) C dX10_copy_24 rfl (lv_at hl 1 rfl) ?_
      refine r_aald16 (pc := 25) C t29 dX10_copy_25 (fun b31 => ?_)
      have t30 := et_16_4 t29 b31
      refine cv_X10_268 (pc := 26) C t30 hl.1 ⟨Nat.le_of_ble_eq_true rfl, Nat.le_of_ble_eq_true rfl⟩ (Nat.le_of_ble_eq_true rfl) dX10_copy_26 (fun S32 v33 => ?_)
      refine r_join (fun (j : St → Option (St × Int32)) => ∀ (S35 : St)  (ls : Array Slot), lv_has ls 6 [(0, .ref (base + k0))] → Sim p l e rm_X10_copy s m args below meth c D cy base 0 0 (fun S1 r => MQ below (QcI D cy base tS S1 r) args s 0 0 (AA base)) (j S35) S35 (F0 m 44 ls [])) ?_ (fun j34 hj34 => ?_)
      · intro S35 ls hl
        refine r_aload_n (pc := 44) C dX10_copy_44 rfl (lv_at hl 0 rfl) ?_
        refine r_bipush (pc := 45) C (-2 : Int32) dX10_copy_45 (by decide) ?_
        refine cv_X10_96 (pc := 47) C t0 hl.1 ⟨Nat.le_of_ble_eq_true rfl, Nat.le_of_ble_eq_true rfl⟩ (Nat.le_of_ble_eq_true rfl) dX10_copy_47 (fun S36 v37 => ?_)
        exact r_iret (pc := 50) C hr hk dX10_copy_50
      refine r_if_ne (pc := 29) C (tgt := 44) dX10_copy_29 (by decide) (fun _ => ?_) (fun _ => ?_)
      · exact hj34 S32  _ (lv_sub hl [0] rfl)
      · refine r_aload_n (pc := 32) C dX10_copy_32 rfl (lv_at hl 0 rfl) ?_
        refine gf_X10_76 (pc := 33) C t0 dX10_copy_33 ?_
        have t38 := ft_10_10 t0
        refine r_iload_n (pc := 36) C dX10_copy_36 rfl (lv_at hl 3 rfl) ?_
        refine r_aald16 (pc := 37) C t38 dX10_copy_37 (fun b40 => ?_)
        have t39 := et_16_4 t38 b40
        refine cv_X10_268 (pc := 38) C t39 hl.1 ⟨Nat.le_of_ble_eq_true rfl, Nat.le_of_ble_eq_true rfl⟩ (Nat.le_of_ble_eq_true rfl) dX10_copy_38 (fun S41 v42 => ?_)
        refine r_if_eq (pc := 41) C (tgt := 51) dX10_copy_41 (by decide) (fun _ => ?_) (fun _ => ?_)
        · refine r_aload_n (pc := 51) C dX10_copy_51 rfl (lv_at hl 0 rfl) ?_
          refine gf_X10_76 (pc := 52) C t0 dX10_copy_52 ?_
          have t43 := ft_10_10 t0
          refine r_iload_n (pc := 55) C dX10_copy_55 rfl (lv_at hl 1 rfl) ?_
          refine r_aald16 (pc := 56) C t43 dX10_copy_56 (fun b45 => ?_)
          have t44 := et_16_4 t43 b45
          refine gf_X10_278 (pc := 57) C t44 dX10_copy_57 ?_
          refine r_aload_n (pc := 60) C dX10_copy_60 rfl (lv_at hl 0 rfl) ?_
          refine gf_X10_76 (pc := 61) C t0 dX10_copy_61 ?_
          have t46 := ft_10_10 t0
          refine r_iload_n (pc := 64) C dX10_copy_64 rfl (lv_at hl 3 rfl) ?_
          refine r_aald16 (pc := 65) C t46 dX10_copy_65 (fun b48 => ?_)
          have t47 := et_16_4 t46 b48
          refine gf_X10_278 (pc := 66) C t47 dX10_copy_66 ?_
          refine r_icmp_eq (pc := 69) C (tgt := 79) dX10_copy_69 (by decide) (fun _ => ?_) (fun _ => ?_)
          · refine r_iload_n (pc := 79) C dX10_copy_79 rfl (lv_at hl 2 rfl) ?_
            refine r_iload (pc := 80) C dX10_copy_80 (lv_at hl 5 rfl) ?_
            refine r_aload_n (pc := 82) C dX10_copy_82 rfl (lv_at hl 0 rfl) ?_
            refine gf_X10_76 (pc := 83) C t0 dX10_copy_83 ?_
            have t49 := ft_10_10 t0
            refine r_iload_n (pc := 86) C dX10_copy_86 rfl (lv_at hl 1 rfl) ?_
            refine r_aald16 (pc := 87) C t49 dX10_copy_87 (fun b51 => ?_)
            have t50 := et_16_4 t49 b51
            refine gf_X10_271 (pc := 88) C t50 dX10_copy_88 ?_
            refine cv_X10_281 (pc := 91) C  hl.1 ⟨Nat.le_of_ble_eq_true rfl, Nat.le_of_ble_eq_true rfl⟩ (Nat.le_of_ble_eq_true rfl) dX10_copy_91 (fun S52 v53 => ?_)
            refine r_join (fun (j : St → Option (St × Int32)) => ∀ (S55 : St)  (ls : Array Slot), lv_has ls 6 [(0, .ref (base + k0))] → Sim p l e rm_X10_copy s m args below meth c D cy base 0 0 (fun S1 r => MQ below (QcI D cy base tS S1 r) args s 0 0 (AA base)) (j S55) S55 (F0 m 116 ls [])) ?_ (fun j54 hj54 => ?_)
            · intro S55 ls hl
              refine r_aload_n (pc := 116) C dX10_copy_116 rfl (lv_at hl 0 rfl) ?_
              refine r_iconst (pc := 117) C (-1 : Int32) dX10_copy_117 (by decide) ?_
              refine cv_X10_96 (pc := 118) C t0 hl.1 ⟨Nat.le_of_ble_eq_true rfl, Nat.le_of_ble_eq_true rfl⟩ (Nat.le_of_ble_eq_true rfl) dX10_copy_118 (fun S56 v57 => ?_)
              exact r_iret (pc := 121) C hr hk dX10_copy_121
            refine r_if_eq (pc := 94) C (tgt := 116) dX10_copy_94 (by decide) (fun _ => ?_) (fun _ => ?_)
            · exact hj54 S52  _ (lv_sub hl [0] rfl)
            · refine r_iload (pc := 97) C dX10_copy_97 (lv_at hl 4 rfl) ?_
              refine r_iload (pc := 99) C dX10_copy_99 (lv_at hl 5 rfl) ?_
              refine r_aload_n (pc := 101) C dX10_copy_101 rfl (lv_at hl 0 rfl) ?_
              refine gf_X10_76 (pc := 102) C t0 dX10_copy_102 ?_
              have t58 := ft_10_10 t0
              refine r_iload_n (pc := 105) C dX10_copy_105 rfl (lv_at hl 3 rfl) ?_
              refine r_aald16 (pc := 106) C t58 dX10_copy_106 (fun b60 => ?_)
              have t59 := et_16_4 t58 b60
              refine gf_X10_271 (pc := 107) C t59 dX10_copy_107 ?_
              refine cv_X10_281 (pc := 110) C  hl.1 ⟨Nat.le_of_ble_eq_true rfl, Nat.le_of_ble_eq_true rfl⟩ (Nat.le_of_ble_eq_true rfl) dX10_copy_110 (fun S61 v62 => ?_)
              refine r_if_ne (pc := 113) C (tgt := 122) dX10_copy_113 (by decide) (fun _ => ?_) (fun _ => ?_)
              · refine r_aload_n (pc := 122) C dX10_copy_122 rfl (lv_at hl 0 rfl) ?_
                refine gf_X10_76 (pc := 123) C t0 dX10_copy_123 ?_
                have t63 := ft_10_10 t0
                refine r_iload_n (pc := 126) C dX10_copy_126 rfl (lv_at hl 1 rfl) ?_
                refine r_aald16 (pc := 127) C t63 dX10_copy_127 (fun b65 => ?_)
                have t64 := et_16_4 t63 b65
                refine gf_X10_285 (pc := 128) C t64 dX10_copy_128 ?_
                have t66 := ft_9_0 t64
                refine r_iload_n (pc := 131) C dX10_copy_131 rfl (lv_at hl 2 rfl) ?_
                refine r_aload_n (pc := 132) C dX10_copy_132 rfl (lv_at hl 0 rfl) ?_
                refine gf_X10_76 (pc := 133) C t0 dX10_copy_133 ?_
                have t67 := ft_10_10 t0
                refine r_iload_n (pc := 136) C dX10_copy_136 rfl (lv_at hl 3 rfl) ?_
                refine r_aald16 (pc := 137) C t67 dX10_copy_137 (fun b69 => ?_)
                have t68 := et_16_4 t67 b69
                refine gf_X10_285 (pc := 138) C t68 dX10_copy_138 ?_
                have t70 := ft_9_0 t68
                refine r_iload (pc := 141) C dX10_copy_141 (lv_at hl 4 rfl) ?_
                refine r_iload (pc := 143) C dX10_copy_143 (lv_at hl 5 rfl) ?_
                refine r_cpyJ (rest := []) (pc := 145) C t66 t70 hl.1 wd_30 wd_31 wd_32 wd_33 (Nat.le_of_ble_eq_true rfl) (by decide) dX10_copy_145 (fun S71 => ?_)
                refine r_iload (pc := 148) C dX10_copy_148 (lv_at hl 5 rfl) ?_
                exact r_iret (pc := 150) C hr hk dX10_copy_150
              · exact hj54 S61  _ (lv_sub hl [0] rfl)
          · refine r_aload_n (pc := 72) C dX10_copy_72 rfl (lv_at hl 0 rfl) ?_
            refine r_bipush (pc := 73) C (-4 : Int32) dX10_copy_73 (by decide) ?_
            refine cv_X10_96 (pc := 75) C t0 hl.1 ⟨Nat.le_of_ble_eq_true rfl, Nat.le_of_ble_eq_true rfl⟩ (Nat.le_of_ble_eq_true rfl) dX10_copy_75 (fun S72 v73 => ?_)
            exact r_iret (pc := 78) C hr hk dX10_copy_78
        · exact hj34 S41  _ (lv_sub hl [0] rfl)
    · exact hj23 S27  _ (lv_sub hl [0] rfl)

theorem ct_X10_copy (l : Launch) {D : va_G} {cy : Nat → ClassId} {base tS : Nat} {S : St} {k0 : Nat} {v1 : Int32} {v2 : Int32} {v3 : Int32} {v4 : Int32} {v5 : Int32} (t0 : cls k0 = 10) {S1 : St} {r1 : Int32} (h : X10_copy S k0 v1 v2 v3 v4 v5 = some (S1, r1)) : Met l yX10_copy (wsY yX10_copy cX10_copy 6 (some .int)) rm_X10_copy (va_Pc [.ref (base + k0), .int v1, .int v2, .int v3, .int v4, .int v5] (World D cy base tS S)) (QcI D cy base tS S1 r1) 0 0 (AA base) := conI rfl rfl (by decide) (Nat.le_of_ble_eq_true rfl) (fun p e s m args below meth c ls C hr hk hl => sm_X10_copy C hr hk t0 hl) h
abbrev rm_X10_hasDebt : Room := { frames := 0, cells := 0, slots := 0, locals := 0 }
set_option maxHeartbeats 4000000 in
set_option maxRecDepth 100000 in
theorem lp_X10_hasDebt_2 {p : Program} {l : Launch} {e : Env} {s : State} {m : MethodId} {args : Array Value} {below : List Frame} {meth : Method} {c : Code} {D : va_G} {cy : Nat → ClassId} {base tS : Nat} {ls : Array Slot} (C : Cx p rm_X10_hasDebt s m args c RX10 cX10_hasDebt 4 D cy base tS 0 0) (hr : meth.sig.returnType = (some .boolean)) (hk : meth.locks = false) {k0 : Nat} {v1 : Int32} {v2 : Int32} (t0 : cls k0 = 13 ∧ len k0 = 16) {K : St → Int32 → Option (St × Int32)} (hK : ∀ (S : St) (v3 : Int32) (ls : Array Slot), lv_has ls 4 [(0, .ref (base + k0)), (1, .int v1), (2, .int v2), (3, .int v3)] → Sim p l e rm_X10_hasDebt s m args below meth c D cy base 0 0 (fun S1 r => MQ below (QcI D cy base tS S1 r) args s 0 0 (AA base)) (K S v3) S (F0 m 25 ls [])) : ∀ (n : Nat) (S : St) (v3 : Int32) (ls : Array Slot), lv_has ls 4 [(0, .ref (base + k0)), (1, .int v1), (2, .int v2), (3, .int v3)] → Sim p l e rm_X10_hasDebt s m args below meth c D cy base 0 0 (fun S1 r => MQ below (QcI D cy base tS S1 r) args s 0 0 (AA base)) (X10_hasDebt_2 k0 v1 v2 K n S v3) S (F0 m 2 ls []) := by
  intro n
  induction n with
  | zero => intro S v3 ls hl; exact Sim.none
  | succ n ih =>
    intro S v3 ls hl
    rw [X10_hasDebt_2]
    refine r_iload_n (pc := 2) C dX10_hasDebt_2 rfl (lv_at hl 3 rfl) ?_
    refine r_iload_n (pc := 3) C dX10_hasDebt_3 rfl (lv_at hl 1 rfl) ?_
    refine r_iload_n (pc := 4) C dX10_hasDebt_4 rfl (lv_at hl 2 rfl) ?_
    refine r_iadd (pc := 5) C dX10_hasDebt_5 ?_
    refine r_icmp_ge (pc := 6) C (tgt := 25) dX10_hasDebt_6 (by decide) (fun _ => ?_) (fun _ => ?_)
    · exact hK S v3 _ (lv_sub hl [0, 1, 2, 3] rfl)
    · refine r_aload_n (pc := 9) C dX10_hasDebt_9 rfl (lv_at hl 0 rfl) ?_
      refine r_iload_n (pc := 10) C dX10_hasDebt_10 rfl (lv_at hl 3 rfl) ?_
      refine r_lald (pc := 11) C t0 dX10_hasDebt_11 ?_
      refine r_lconst (pc := 12) C (0 : Int64) dX10_hasDebt_12 (by decide) ?_
      refine r_lcmp_ge (pc := 13) C (tgt := 19) dX10_hasDebt_13 dX10_hasDebt_14 (by decide) (fun _ => ?_) (fun _ => ?_)
      · refine r_iinc (pc := 19) C (k := 3) (1 : Int32) (fun v21 => [(3, .int v21), (0, .ref (base + k0)), (1, .int v1), (2, .int v2)]) dX10_hasDebt_19 hl rfl (by decide) (Nat.le_of_ble_eq_true rfl) (fun _ => rfl) (fun v21 ls hl => ?_)
        refine r_goto (pc := 22) C (tgt := 2) dX10_hasDebt_22 (by decide) ?_
        exact ih S v21 _ (lv_sub hl [1, 2, 3, 0] rfl)
      · refine r_iconst (pc := 17) C (1 : Int32) dX10_hasDebt_17 (by decide) ?_
        exact r_zret (pc := 18) C rfl hr hk dX10_hasDebt_18

set_option maxHeartbeats 4000000 in
set_option maxRecDepth 100000 in
theorem sm_X10_hasDebt {p : Program} {l : Launch} {e : Env} {s : State} {m : MethodId} {args : Array Value} {below : List Frame} {meth : Method} {c : Code} {D : va_G} {cy : Nat → ClassId} {base tS : Nat} {S : St} {k0 : Nat} {v1 : Int32} {v2 : Int32} {ls : Array Slot} (C : Cx p rm_X10_hasDebt s m args c RX10 cX10_hasDebt 4 D cy base tS 0 0) (hr : meth.sig.returnType = (some .boolean)) (hk : meth.locks = false) (t0 : cls k0 = 13 ∧ len k0 = 16) (hl : lv_has ls 4 [(0, .ref (base + k0)), (1, .int v1), (2, .int v2)]) : Sim p l e rm_X10_hasDebt s m args below meth c D cy base 0 0 (fun S1 r => MQ below (QcI D cy base tS S1 r) args s 0 0 (AA base)) (X10_hasDebt S k0 v1 v2) S (F0 m 0 ls []) := by
  unfold X10_hasDebt
  refine r_iload_n (pc := 0) C dX10_hasDebt_0 rfl (lv_at hl 1 rfl) ?_
  refine r_istore_n (lv2 := [(3, .int v1), (0, .ref (base + k0)), (1, .int v1), (2, .int v2)]) (pc := 1) C dX10_hasDebt_1 rfl hl (Nat.le_of_ble_eq_true rfl) rfl (fun ls hl => ?_)
  refine lp_X10_hasDebt_2 (ls := ls) C hr hk t0 (fun S22 v23 ls hl => ?_) FU S v1 _ (lv_sub hl [1, 2, 3, 0] rfl)
  refine r_iconst (pc := 25) C (0 : Int32) dX10_hasDebt_25 (by decide) ?_
  exact r_zret (pc := 26) C rfl hr hk dX10_hasDebt_26

theorem ct_X10_hasDebt (l : Launch) {D : va_G} {cy : Nat → ClassId} {base tS : Nat} {S : St} {k0 : Nat} {v1 : Int32} {v2 : Int32} (t0 : cls k0 = 13 ∧ len k0 = 16) {S1 : St} {r1 : Int32} (h : X10_hasDebt S k0 v1 v2 = some (S1, r1)) : Met l yX10_hasDebt (wsY yX10_hasDebt cX10_hasDebt 4 (some .boolean)) rm_X10_hasDebt (va_Pc [.ref (base + k0), .int v1, .int v2] (World D cy base tS S)) (QcI D cy base tS S1 r1) 0 0 (AA base) := conI rfl rfl (by decide) (Nat.le_of_ble_eq_true rfl) (fun p e s m args below meth c ls C hr hk hl => sm_X10_hasDebt C hr hk t0 hl) h
theorem cv_X10_294 {p : Program} {l : Launch} {e : Env} {R : Room} {s : State} {m : MethodId} {args : Array Value} {below : List Frame} {meth : Method} {c : Code} {D : va_G} {cy : Nat → ClassId} {base tS nc ns : Nat} {cc : ByteArray} {nL pc : Nat} {ls : Array Slot} {rest : List Value} {S : St} {ρ : Type} {Q : St → ρ → State → Prop} (C : Cx p R s m args c RX10 cc nL D cy base tS nc ns) {k0 : Nat} {v1 : Int32} {v2 : Int32} (t0 : cls k0 = 13 ∧ len k0 = 16) (hl : ls.size = nL) (hR : rm_X10_hasDebt.frames + 1 ≤ R.frames ∧ 8 + (4 + 11) + rm_X10_hasDebt.locals ≤ R.locals) {b : St → Int32 → Option (St × ρ)} (hroom : (rest.map fun v => v.category).sum ≤ 8) (hd : decode cc pc = .ok (.invokestatic 294, 3)) (kk : ∀ (S1 : St) (r : Int32), Sim p l e R s m args below meth c D cy base nc ns Q (b S1 r) S1 (F0 m (pc + 3) ls (.int r :: rest))) : Sim p l e R s m args below meth c D cy base nc ns Q (bd (X10_hasDebt S k0 v1 v2) b) S (F0 m pc ls (.int v2 :: .int v1 :: .ref (base + k0) :: rest)) := r_callSI (n := 3) (As := [.ref (base + k0), .int v1, .int v2]) C hl (fun S1 r1 h => ct_X10_hasDebt l t0 h) wd_468 wd_469 wd_164 wd_470 rfl rfl (by decide +kernel) hR rfl rfl hroom hd kk
abbrev rm_X10_spread : Room := { frames := 3, cells := 0, slots := 0, locals := 74 }
set_option maxHeartbeats 4000000 in
set_option maxRecDepth 100000 in
theorem lp_X10_spread_116 {p : Program} {l : Launch} {e : Env} {s : State} {m : MethodId} {args : Array Value} {below : List Frame} {meth : Method} {c : Code} {D : va_G} {cy : Nat → ClassId} {base tS : Nat} {ls : Array Slot} (C : Cx p rm_X10_spread s m args c RX10 cX10_spread 7 D cy base tS 0 0) (hr : meth.sig.returnType = (some .int)) (hk : meth.locks = false) {k0 : Nat} {v2 : Int32} {v3 : Int32} {v4 : Int32} {k5 : Nat} (t0 : cls k0 = 10) (t5 : cls k5 = 13 ∧ len k5 = 16) {K : St → Int32 → Option (St × Int32)} (hK : ∀ (S : St) (v6 : Int32) (ls : Array Slot), lv_has ls 7 [(0, .ref (base + k0)), (2, .int v2), (3, .int v3), (4, .int v4), (5, .ref (base + k5)), (6, .int v6)] → Sim p l e rm_X10_spread s m args below meth c D cy base 0 0 (fun S1 r => MQ below (QcI D cy base tS S1 r) args s 0 0 (AA base)) (K S v6) S (F0 m 164 ls [])) : ∀ (n : Nat) (S : St) (v6 : Int32) (ls : Array Slot), lv_has ls 7 [(0, .ref (base + k0)), (2, .int v2), (3, .int v3), (4, .int v4), (5, .ref (base + k5)), (6, .int v6)] → Sim p l e rm_X10_spread s m args below meth c D cy base 0 0 (fun S1 r => MQ below (QcI D cy base tS S1 r) args s 0 0 (AA base)) (X10_spread_116 k0 v2 v3 v4 k5 K n S v6) S (F0 m 116 ls []) := by
  intro n
  induction n with
  | zero => intro S v6 ls hl; exact Sim.none
  | succ n ih =>
    intro S v6 ls hl
    rw [X10_spread_116]
    refine r_iload (pc := 116) C dX10_spread_116 (lv_at hl 5 rfl) ?_
    refine r_iload_n (pc := 118) C dX10_spread_118 rfl (lv_at hl 2 rfl) ?_
    refine r_icmp_ge (pc := 119) C (tgt := 164) dX10_spread_119 (by decide) (fun _ => ?_) (fun _ => ?_)
    · exact hK S v6 _ (lv_sub hl [0, 1, 2, 3, 4, 5] rfl)
    · refine r_aload (pc := 122) C dX10_spread_122 (lv_at hl 4 rfl) ?_
      refine r_iload_n (pc := 124) C dX10_spread_124 rfl (lv_at hl 1 rfl) ?_
      refine r_iload (pc := 125) C dX10_spread_125 (lv_at hl 5 rfl) ?_
      refine r_iadd (pc := 127) C dX10_spread_127 ?_
      refine r_lald (pc := 128) C t5 dX10_spread_128 ?_
      refine r_ldcw (pc := 129) C (1000000 : Int32) wd_34 dX10_spread_129 ?_
      refine r_aload_n (pc := 132) C dX10_spread_132 rfl (lv_at hl 0 rfl) ?_
      refine gf_X10_21 (pc := 133) C t0 dX10_spread_133 ?_
      have t46 := ft_10_1 t0
      refine gf_X10_141 (pc := 136) C t46 dX10_spread_136 ?_
      have t47 := ft_2_1 t46
      refine r_iload (pc := 139) C dX10_spread_139 (lv_at hl 3 rfl) ?_
      refine r_iload (pc := 141) C dX10_spread_141 (lv_at hl 5 rfl) ?_
      refine r_iadd (pc := 143) C dX10_spread_143 ?_
      refine r_iald (pc := 144) C t47 dX10_spread_144 ?_
      refine r_isub (pc := 145) C dX10_spread_145 ?_
      refine r_i2l (pc := 146) C dX10_spread_146 ?_
      refine r_lcmp_le (pc := 147) C (tgt := 158) dX10_spread_147 dX10_spread_148 (by decide) (fun _ => ?_) (fun _ => ?_)
      · refine r_iinc (pc := 158) C (k := 5) (1 : Int32) (fun v48 => [(6, .int v48), (0, .ref (base + k0)), (2, .int v2), (3, .int v3), (4, .int v4), (5, .ref (base + k5))]) dX10_spread_158 hl rfl (by decide) (Nat.le_of_ble_eq_true rfl) (fun _ => rfl) (fun v48 ls hl => ?_)
        refine r_goto (pc := 161) C (tgt := 116) dX10_spread_161 (by decide) ?_
        exact ih S v48 _ (lv_sub hl [1, 2, 3, 4, 5, 0] rfl)
      · refine r_aload_n (pc := 151) C dX10_spread_151 rfl (lv_at hl 0 rfl) ?_
        refine r_bipush (pc := 152) C (-5 : Int32) dX10_spread_152 (by decide) ?_
        refine cv_X10_96 (pc := 154) C t0 hl.1 ⟨Nat.le_of_ble_eq_true rfl, Nat.le_of_ble_eq_true rfl⟩ (Nat.le_of_ble_eq_true rfl) dX10_spread_154 (fun S49 v50 => ?_)
        exact r_iret (pc := 157) C hr hk dX10_spread_157

set_option maxHeartbeats 4000000 in
set_option maxRecDepth 100000 in
theorem lp_X10_spread_182 {p : Program} {l : Launch} {e : Env} {s : State} {m : MethodId} {args : Array Value} {below : List Frame} {meth : Method} {c : Code} {D : va_G} {cy : Nat → ClassId} {base tS : Nat} {ls : Array Slot} (C : Cx p rm_X10_spread s m args c RX10 cX10_spread 7 D cy base tS 0 0) (hr : meth.sig.returnType = (some .int)) (hk : meth.locks = false) {k0 : Nat} {v2 : Int32} {v3 : Int32} {v4 : Int32} {k5 : Nat} (t0 : cls k0 = 10) (t5 : cls k5 = 13 ∧ len k5 = 16) {K : St → Int32 → Option (St × Int32)} (hK : ∀ (S : St) (v6 : Int32) (ls : Array Slot), lv_has ls 7 [(0, .ref (base + k0)), (2, .int v2), (3, .int v3), (4, .int v4), (5, .ref (base + k5)), (6, .int v6)] → Sim p l e rm_X10_spread s m args below meth c D cy base 0 0 (fun S1 r => MQ below (QcI D cy base tS S1 r) args s 0 0 (AA base)) (K S v6) S (F0 m 218 ls [])) : ∀ (n : Nat) (S : St) (v6 : Int32) (ls : Array Slot), lv_has ls 7 [(0, .ref (base + k0)), (2, .int v2), (3, .int v3), (4, .int v4), (5, .ref (base + k5)), (6, .int v6)] → Sim p l e rm_X10_spread s m args below meth c D cy base 0 0 (fun S1 r => MQ below (QcI D cy base tS S1 r) args s 0 0 (AA base)) (X10_spread_182 k0 v2 v3 v4 k5 K n S v6) S (F0 m 182 ls []) := by
  intro n
  induction n with
  | zero => intro S v6 ls hl; exact Sim.none
  | succ n ih =>
    intro S v6 ls hl
    rw [X10_spread_182]
    refine r_iload (pc := 182) C dX10_spread_182 (lv_at hl 5 rfl) ?_
    refine r_iload_n (pc := 184) C dX10_spread_184 rfl (lv_at hl 2 rfl) ?_
    refine r_icmp_ge (pc := 185) C (tgt := 218) dX10_spread_185 (by decide) (fun _ => ?_) (fun _ => ?_)
    · exact hK S v6 _ (lv_sub hl [0, 1, 2, 3, 4, 5] rfl)
    · refine r_aload_n (pc := 188) C dX10_spread_188 rfl (lv_at hl 0 rfl) ?_
      refine gf_X10_21 (pc := 189) C t0 dX10_spread_189 ?_
      have t57 := ft_10_1 t0
      refine gf_X10_141 (pc := 192) C t57 dX10_spread_192 ?_
      have t58 := ft_2_1 t57
      refine r_iload (pc := 195) C dX10_spread_195 (lv_at hl 3 rfl) ?_
      refine r_iload (pc := 197) C dX10_spread_197 (lv_at hl 5 rfl) ?_
      refine r_iadd (pc := 199) C dX10_spread_199 ?_
      refine r_dup2_11 (pc := 200) C dX10_spread_200 rfl rfl ?_
      refine r_iald (pc := 201) C t58 dX10_spread_201 ?_
      refine r_aload (pc := 202) C dX10_spread_202 (lv_at hl 4 rfl) ?_
      refine r_iload_n (pc := 204) C dX10_spread_204 rfl (lv_at hl 1 rfl) ?_
      refine r_iload (pc := 205) C dX10_spread_205 (lv_at hl 5 rfl) ?_
      refine r_iadd (pc := 207) C dX10_spread_207 ?_
      refine r_lald (pc := 208) C t5 dX10_spread_208 ?_
      refine r_l2i (pc := 209) C dX10_spread_209 ?_
      refine r_iadd (pc := 210) C dX10_spread_210 ?_
      refine r_iast (pc := 211) C t58 dX10_spread_211 (fun S59 => ?_)
      refine r_iinc (pc := 212) C (k := 5) (1 : Int32) (fun v60 => [(6, .int v60), (0, .ref (base + k0)), (2, .int v2), (3, .int v3), (4, .int v4), (5, .ref (base + k5))]) dX10_spread_212 hl rfl (by decide) (Nat.le_of_ble_eq_true rfl) (fun _ => rfl) (fun v60 ls hl => ?_)
      refine r_goto (pc := 215) C (tgt := 182) dX10_spread_215 (by decide) ?_
      exact ih S59 v60 _ (lv_sub hl [1, 2, 3, 4, 5, 0] rfl)

set_option maxHeartbeats 4000000 in
set_option maxRecDepth 100000 in
theorem sm_X10_spread {p : Program} {l : Launch} {e : Env} {s : State} {m : MethodId} {args : Array Value} {below : List Frame} {meth : Method} {c : Code} {D : va_G} {cy : Nat → ClassId} {base tS : Nat} {S : St} {k0 : Nat} {v1 : Int32} {v2 : Int32} {v3 : Int32} {v4 : Int32} {ls : Array Slot} (C : Cx p rm_X10_spread s m args c RX10 cX10_spread 7 D cy base tS 0 0) (hr : meth.sig.returnType = (some .int)) (hk : meth.locks = false) (t0 : cls k0 = 10) (hl : lv_has ls 7 [(0, .ref (base + k0)), (1, .int v1), (2, .int v2), (3, .int v3), (4, .int v4)]) : Sim p l e rm_X10_spread s m args below meth c D cy base 0 0 (fun S1 r => MQ below (QcI D cy base tS S1 r) args s 0 0 (AA base)) (X10_spread S k0 v1 v2 v3 v4) S (F0 m 0 ls []) := by
  unfold X10_spread
  refine r_iload_n (pc := 0) C dX10_spread_0 rfl (lv_at hl 1 rfl) ?_
  refine cv_X10_255 (pc := 1) C  hl.1 ⟨Nat.le_of_ble_eq_true rfl, Nat.le_of_ble_eq_true rfl⟩ (Nat.le_of_ble_eq_true rfl) dX10_spread_1 (fun S21 v22 => ?_)
  refine r_if_ne (pc := 4) C (tgt := 13) dX10_spread_4 (by decide) (fun _ => ?_) (fun _ => ?_)
  · refine r_aload_n (pc := 13) C dX10_spread_13 rfl (lv_at hl 0 rfl) ?_
    refine gf_X10_76 (pc := 14) C t0 dX10_spread_14 ?_
    have t23 := ft_10_10 t0
    refine r_iload_n (pc := 17) C dX10_spread_17 rfl (lv_at hl 1 rfl) ?_
    refine r_aald16 (pc := 18) C t23 dX10_spread_18 (fun b25 => ?_)
    have t24 := et_16_4 t23 b25
    refine cv_X10_268 (pc := 19) C t24 hl.1 ⟨Nat.le_of_ble_eq_true rfl, Nat.le_of_ble_eq_true rfl⟩ (Nat.le_of_ble_eq_true rfl) dX10_spread_19 (fun S26 v27 => ?_)
    refine r_if_eq (pc := 22) C (tgt := 32) dX10_spread_22 (by decide) (fun _ => ?_) (fun _ => ?_)
    · refine r_iload_n (pc := 32) C dX10_spread_32 rfl (lv_at hl 2 rfl) ?_
      refine r_iload_n (pc := 33) C dX10_spread_33 rfl (lv_at hl 3 rfl) ?_
      refine r_aload_n (pc := 34) C dX10_spread_34 rfl (lv_at hl 0 rfl) ?_
      refine gf_X10_76 (pc := 35) C t0 dX10_spread_35 ?_
      have t28 := ft_10_10 t0
      refine r_iload_n (pc := 38) C dX10_spread_38 rfl (lv_at hl 1 rfl) ?_
      refine r_aald16 (pc := 39) C t28 dX10_spread_39 (fun b30 => ?_)
      have t29 := et_16_4 t28 b30
      refine gf_X10_271 (pc := 40) C t29 dX10_spread_40 ?_
      refine cv_X10_281 (pc := 43) C  hl.1 ⟨Nat.le_of_ble_eq_true rfl, Nat.le_of_ble_eq_true rfl⟩ (Nat.le_of_ble_eq_true rfl) dX10_spread_43 (fun S31 v32 => ?_)
      refine r_join (fun (j : St → Option (St × Int32)) => ∀ (S34 : St)  (ls : Array Slot), lv_has ls 7 [(0, .ref (base + k0))] → Sim p l e rm_X10_spread s m args below meth c D cy base 0 0 (fun S1 r => MQ below (QcI D cy base tS S1 r) args s 0 0 (AA base)) (j S34) S34 (F0 m 65 ls [])) ?_ (fun j33 hj33 => ?_)
      · intro S34 ls hl
        refine r_aload_n (pc := 65) C dX10_spread_65 rfl (lv_at hl 0 rfl) ?_
        refine r_iconst (pc := 66) C (-1 : Int32) dX10_spread_66 (by decide) ?_
        refine cv_X10_96 (pc := 67) C t0 hl.1 ⟨Nat.le_of_ble_eq_true rfl, Nat.le_of_ble_eq_true rfl⟩ (Nat.le_of_ble_eq_true rfl) dX10_spread_67 (fun S35 v36 => ?_)
        exact r_iret (pc := 70) C hr hk dX10_spread_70
      refine r_if_eq (pc := 46) C (tgt := 65) dX10_spread_46 (by decide) (fun _ => ?_) (fun _ => ?_)
      · exact hj33 S31  _ (lv_sub hl [0] rfl)
      · refine r_iload (pc := 49) C dX10_spread_49 (lv_at hl 4 rfl) ?_
        refine r_iload_n (pc := 51) C dX10_spread_51 rfl (lv_at hl 3 rfl) ?_
        refine r_aload_n (pc := 52) C dX10_spread_52 rfl (lv_at hl 0 rfl) ?_
        refine gf_X10_10 (pc := 53) C t0 dX10_spread_53 ?_
        have t37 := ft_10_0 t0
        refine gf_X10_100 (pc := 56) C t37 dX10_spread_56 ?_
        refine cv_X10_281 (pc := 59) C  hl.1 ⟨Nat.le_of_ble_eq_true rfl, Nat.le_of_ble_eq_true rfl⟩ (Nat.le_of_ble_eq_true rfl) dX10_spread_59 (fun S38 v39 => ?_)
        refine r_if_ne (pc := 62) C (tgt := 71) dX10_spread_62 (by decide) (fun _ => ?_) (fun _ => ?_)
        · refine r_aload_n (pc := 71) C dX10_spread_71 rfl (lv_at hl 0 rfl) ?_
          refine gf_X10_92 (pc := 72) C t0 dX10_spread_72 ?_
          refine r_if_ne (pc := 75) C (tgt := 85) dX10_spread_75 (by decide) (fun _ => ?_) (fun _ => ?_)
          · refine r_aload_n (pc := 85) C dX10_spread_85 rfl (lv_at hl 0 rfl) ?_
            refine gf_X10_76 (pc := 86) C t0 dX10_spread_86 ?_
            have t40 := ft_10_10 t0
            refine r_iload_n (pc := 89) C dX10_spread_89 rfl (lv_at hl 1 rfl) ?_
            refine r_aald16 (pc := 90) C t40 dX10_spread_90 (fun b42 => ?_)
            have t41 := et_16_4 t40 b42
            refine gf_X10_285 (pc := 91) C t41 dX10_spread_91 ?_
            have t43 := ft_9_0 t41
            refine r_astore (lv2 := [(5, .ref (base + (rf (rf (rf k0 10) (ix v1)) 0))), (0, .ref (base + k0)), (1, .int v1), (2, .int v2), (3, .int v3), (4, .int v4)]) (pc := 94) C dX10_spread_94 hl (Nat.le_of_ble_eq_true rfl) rfl (fun ls hl => ?_)
            refine r_aload (pc := 96) C dX10_spread_96 (lv_at hl 0 rfl) ?_
            refine r_iload_n (pc := 98) C dX10_spread_98 rfl (lv_at hl 3 rfl) ?_
            refine r_iload_n (pc := 99) C dX10_spread_99 rfl (lv_at hl 4 rfl) ?_
            refine cv_X10_294 (pc := 100) C t43 hl.1 ⟨Nat.le_of_ble_eq_true rfl, Nat.le_of_ble_eq_true rfl⟩ (Nat.le_of_ble_eq_true rfl) dX10_spread_100 (fun S44 v45 => ?_)
            refine r_if_eq (pc := 103) C (tgt := 113) dX10_spread_103 (by decide) (fun _ => ?_) (fun _ => ?_)
            · refine r_iconst (pc := 113) C (0 : Int32) dX10_spread_113 (by decide) ?_
              refine r_istore (lv2 := [(6, .int (0 : Int32)), (5, .ref (base + (rf (rf (rf k0 10) (ix v1)) 0))), (0, .ref (base + k0)), (1, .int v1), (2, .int v2), (3, .int v3), (4, .int v4)]) (pc := 114) C dX10_spread_114 hl (Nat.le_of_ble_eq_true rfl) rfl (fun ls hl => ?_)
              refine lp_X10_spread_116 (ls := ls) C hr hk t0 t43 (fun S51 v52 ls hl => ?_) FU S44 (0 : Int32) _ (lv_sub hl [2, 4, 5, 6, 1, 0] rfl)
              refine r_aload_n (pc := 164) C dX10_spread_164 rfl (lv_at hl 0 rfl) ?_
              refine gf_X10_40 (pc := 165) C t0 dX10_spread_165 ?_
              have t53 := ft_10_4 t0
              refine r_aload_n (pc := 168) C dX10_spread_168 rfl (lv_at hl 0 rfl) ?_
              refine gf_X10_21 (pc := 169) C t0 dX10_spread_169 ?_
              have t54 := ft_10_1 t0
              refine r_aload_n (pc := 172) C dX10_spread_172 rfl (lv_at hl 0 rfl) ?_
              refine gf_X10_33 (pc := 173) C t0 dX10_spread_173 ?_
              have t55 := ft_10_3 t0
              refine cv_X10_146 (pc := 176) C t53 t54 t55 hl.1 ⟨Nat.le_of_ble_eq_true rfl, Nat.le_of_ble_eq_true rfl⟩ (Nat.le_of_ble_eq_true rfl) dX10_spread_176 (fun S56 _ => ?_)
              refine r_iconst (pc := 179) C (0 : Int32) dX10_spread_179 (by decide) ?_
              refine r_istore (lv2 := [(6, .int (0 : Int32)), (0, .ref (base + k0)), (2, .int v2), (3, .int v3), (4, .int v4), (5, .ref (base + (rf (rf (rf k0 10) (ix v1)) 0)))]) (pc := 180) C dX10_spread_180 hl (Nat.le_of_ble_eq_true rfl) rfl (fun ls hl => ?_)
              refine lp_X10_spread_182 (ls := ls) C hr hk t0 t43 (fun S61 v62 ls hl => ?_) FU S56 (0 : Int32) _ (lv_sub hl [1, 2, 3, 4, 5, 0] rfl)
              refine r_aload_n (pc := 218) C dX10_spread_218 rfl (lv_at hl 0 rfl) ?_
              refine gf_X10_21 (pc := 219) C t0 dX10_spread_219 ?_
              have t63 := ft_10_1 t0
              refine cv_X10_228 (pc := 222) C t63 hl.1 ⟨Nat.le_of_ble_eq_true rfl, Nat.le_of_ble_eq_true rfl⟩ (Nat.le_of_ble_eq_true rfl) dX10_spread_222 (fun S64 v65 => ?_)
              exact r_iret (pc := 225) C hr hk dX10_spread_225
            · refine r_aload_n (pc := 106) C dX10_spread_106 rfl (lv_at hl 1 rfl) ?_
              refine r_bipush (pc := 107) C (-13 : Int32) dX10_spread_107 (by decide) ?_
              refine cv_X10_96 (pc := 109) C t0 hl.1 ⟨Nat.le_of_ble_eq_true rfl, Nat.le_of_ble_eq_true rfl⟩ (Nat.le_of_ble_eq_true rfl) dX10_spread_109 (fun S66 v67 => ?_)
              exact r_iret (pc := 112) C hr hk dX10_spread_112
          · refine r_aload_n (pc := 78) C dX10_spread_78 rfl (lv_at hl 0 rfl) ?_
            refine r_bipush (pc := 79) C (-8 : Int32) dX10_spread_79 (by decide) ?_
            refine cv_X10_96 (pc := 81) C t0 hl.1 ⟨Nat.le_of_ble_eq_true rfl, Nat.le_of_ble_eq_true rfl⟩ (Nat.le_of_ble_eq_true rfl) dX10_spread_81 (fun S68 v69 => ?_)
            exact r_iret (pc := 84) C hr hk dX10_spread_84
        · exact hj33 S38  _ (lv_sub hl [0] rfl)
    · refine r_aload_n (pc := 25) C dX10_spread_25 rfl (lv_at hl 0 rfl) ?_
      refine r_bipush (pc := 26) C (-2 : Int32) dX10_spread_26 (by decide) ?_
      refine cv_X10_96 (pc := 28) C t0 hl.1 ⟨Nat.le_of_ble_eq_true rfl, Nat.le_of_ble_eq_true rfl⟩ (Nat.le_of_ble_eq_true rfl) dX10_spread_28 (fun S70 v71 => ?_)
      exact r_iret (pc := 31) C hr hk dX10_spread_31
  · refine r_aload_n (pc := 7) C dX10_spread_7 rfl (lv_at hl 0 rfl) ?_
    refine r_iconst (pc := 8) C (-1 : Int32) dX10_spread_8 (by decide) ?_
    refine cv_X10_96 (pc := 9) C t0 hl.1 ⟨Nat.le_of_ble_eq_true rfl, Nat.le_of_ble_eq_true rfl⟩ (Nat.le_of_ble_eq_true rfl) dX10_spread_9 (fun S72 v73 => ?_)
    exact r_iret (pc := 12) C hr hk dX10_spread_12

theorem ct_X10_spread (l : Launch) {D : va_G} {cy : Nat → ClassId} {base tS : Nat} {S : St} {k0 : Nat} {v1 : Int32} {v2 : Int32} {v3 : Int32} {v4 : Int32} (t0 : cls k0 = 10) {S1 : St} {r1 : Int32} (h : X10_spread S k0 v1 v2 v3 v4 = some (S1, r1)) : Met l yX10_spread (wsY yX10_spread cX10_spread 7 (some .int)) rm_X10_spread (va_Pc [.ref (base + k0), .int v1, .int v2, .int v3, .int v4] (World D cy base tS S)) (QcI D cy base tS S1 r1) 0 0 (AA base) := conI rfl rfl (by decide) (Nat.le_of_ble_eq_true rfl) (fun p e s m args below meth c ls C hr hk hl => sm_X10_spread C hr hk t0 hl) h
abbrev rm_X5_add : Room := { frames := 0, cells := 0, slots := 0, locals := 0 }
set_option maxHeartbeats 4000000 in
set_option maxRecDepth 100000 in
theorem sm_X5_add {p : Program} {l : Launch} {e : Env} {s : State} {m : MethodId} {args : Array Value} {below : List Frame} {meth : Method} {c : Code} {D : va_G} {cy : Nat → ClassId} {base tS : Nat} {S : St} {k0 : Nat} {v1 : Int32} {ls : Array Slot} (C : Cx p rm_X5_add s m args c RX5 cX5_add 2 D cy base tS 0 0) (hr : meth.sig.returnType = (some .int)) (hk : meth.locks = false) (t0 : cls k0 = 5) (hl : lv_has ls 2 [(0, .ref (base + k0)), (1, .int v1)]) : Sim p l e rm_X5_add s m args below meth c D cy base 0 0 (fun S1 r => MQ below (QcI D cy base tS S1 r) args s 0 0 (AA base)) (X5_add S k0 v1) S (F0 m 0 ls []) := by
  unfold X5_add
  refine r_aload_n (pc := 0) C dX5_add_0 rfl (lv_at hl 0 rfl) ?_
  refine gf_X5_9 (pc := 1) C t0 dX5_add_1 ?_
  have t21 := ft_5_0 t0
  refine r_aload_n (pc := 4) C dX5_add_4 rfl (lv_at hl 0 rfl) ?_
  refine gf_X5_15 (pc := 5) C t0 dX5_add_5 ?_
  refine r_iload_n (pc := 8) C dX5_add_8 rfl (lv_at hl 1 rfl) ?_
  refine r_iast (pc := 9) C t21 dX5_add_9 (fun S22 => ?_)
  refine r_aload_n (pc := 10) C dX5_add_10 rfl (lv_at hl 0 rfl) ?_
  refine r_dup (pc := 11) C dX5_add_11 rfl ?_
  refine gf_X5_15 (pc := 12) C t0 dX5_add_12 ?_
  refine r_iconst (pc := 15) C (1 : Int32) dX5_add_15 (by decide) ?_
  refine r_iadd (pc := 16) C dX5_add_16 ?_
  refine pf_X5_15 (pc := 17) C t0 dX5_add_17 (fun S23 => ?_)
  refine r_aload_n (pc := 20) C dX5_add_20 rfl (lv_at hl 0 rfl) ?_
  refine gf_X5_15 (pc := 21) C t0 dX5_add_21 ?_
  exact r_iret (pc := 24) C hr hk dX5_add_24

theorem ct_X5_add (l : Launch) {D : va_G} {cy : Nat → ClassId} {base tS : Nat} {S : St} {k0 : Nat} {v1 : Int32} (t0 : cls k0 = 5) {S1 : St} {r1 : Int32} (h : X5_add S k0 v1 = some (S1, r1)) : Met l yX5_add (wsY yX5_add cX5_add 2 (some .int)) rm_X5_add (va_Pc [.ref (base + k0), .int v1] (World D cy base tS S)) (QcI D cy base tS S1 r1) 0 0 (AA base) := conI rfl rfl (by decide) (Nat.le_of_ble_eq_true rfl) (fun p e s m args below meth c ls C hr hk hl => sm_X5_add C hr hk t0 hl) h
theorem cv_X10_300 {p : Program} {l : Launch} {e : Env} {R : Room} {s : State} {m : MethodId} {args : Array Value} {below : List Frame} {meth : Method} {c : Code} {D : va_G} {cy : Nat → ClassId} {base tS nc ns : Nat} {cc : ByteArray} {nL pc : Nat} {ls : Array Slot} {rest : List Value} {S : St} {ρ : Type} {Q : St → ρ → State → Prop} (C : Cx p R s m args c RX10 cc nL D cy base tS nc ns) {k0 : Nat} {v1 : Int32} (t0 : cls k0 = 5) (hl : ls.size = nL) (hR : rm_X5_add.frames + 1 ≤ R.frames ∧ 8 + (2 + 11) + rm_X5_add.locals ≤ R.locals) {b : St → Int32 → Option (St × ρ)} (hroom : (rest.map fun v => v.category).sum ≤ 8) (hd : decode cc pc = .ok (.invokevirtual 300, 3)) (kk : ∀ (S1 : St) (r : Int32), Sim p l e R s m args below meth c D cy base nc ns Q (b S1 r) S1 (F0 m (pc + 3) ls (.int r :: rest))) : Sim p l e R s m args below meth c D cy base nc ns Q (bd (X5_add S k0 v1) b) S (F0 m pc ls (.int v1 :: .ref (base + k0) :: rest)) := r_callVI (n := 1) (As := [.int v1]) C hl (rd_5 t0) (cls_lt t0 (by decide)) rfl (fun S1 r1 h => ct_X5_add l t0 h) wd_471 wd_472 wd_473 wd_292 wd_474 rfl rfl (by decide +kernel) hR rfl rfl hroom hd kk
abbrev rm_X10_tell : Room := { frames := 1, cells := 0, slots := 0, locals := 21 }
set_option maxHeartbeats 4000000 in
set_option maxRecDepth 100000 in
theorem sm_X10_tell {p : Program} {l : Launch} {e : Env} {s : State} {m : MethodId} {args : Array Value} {below : List Frame} {meth : Method} {c : Code} {D : va_G} {cy : Nat → ClassId} {base tS : Nat} {S : St} {k0 : Nat} {v1 : Int32} {ls : Array Slot} (C : Cx p rm_X10_tell s m args c RX10 cX10_tell 2 D cy base tS 0 0) (hr : meth.sig.returnType = (some .int)) (hk : meth.locks = false) (t0 : cls k0 = 10) (hl : lv_has ls 2 [(0, .ref (base + k0)), (1, .int v1)]) : Sim p l e rm_X10_tell s m args below meth c D cy base 0 0 (fun S1 r => MQ below (QcI D cy base tS S1 r) args s 0 0 (AA base)) (X10_tell S k0 v1) S (F0 m 0 ls []) := by
  unfold X10_tell
  refine r_aload_n (pc := 0) C dX10_tell_0 rfl (lv_at hl 0 rfl) ?_
  refine gf_X10_84 (pc := 1) C t0 dX10_tell_1 ?_
  have t21 := ft_10_11 t0
  refine gf_X10_299 (pc := 4) C t21 dX10_tell_4 ?_
  refine r_sipush (pc := 7) C (200 : Int32) dX10_tell_7 (by decide) ?_
  refine r_icmp_lt (pc := 10) C (tgt := 20) dX10_tell_10 (by decide) (fun _ => ?_) (fun _ => ?_)
  · refine r_aload_n (pc := 20) C dX10_tell_20 rfl (lv_at hl 0 rfl) ?_
    refine gf_X10_84 (pc := 21) C t0 dX10_tell_21 ?_
    have t22 := ft_10_11 t0
    refine r_iload_n (pc := 24) C dX10_tell_24 rfl (lv_at hl 1 rfl) ?_
    refine cv_X10_300 (pc := 25) C t22 hl.1 ⟨Nat.le_of_ble_eq_true rfl, Nat.le_of_ble_eq_true rfl⟩ (Nat.le_of_ble_eq_true rfl) dX10_tell_25 (fun S23 v24 => ?_)
    exact r_iret (pc := 28) C hr hk dX10_tell_28
  · refine r_aload_n (pc := 13) C dX10_tell_13 rfl (lv_at hl 0 rfl) ?_
    refine r_bipush (pc := 14) C (-5 : Int32) dX10_tell_14 (by decide) ?_
    refine cv_X10_96 (pc := 16) C t0 hl.1 ⟨Nat.le_of_ble_eq_true rfl, Nat.le_of_ble_eq_true rfl⟩ (Nat.le_of_ble_eq_true rfl) dX10_tell_16 (fun S25 v26 => ?_)
    exact r_iret (pc := 19) C hr hk dX10_tell_19

theorem ct_X10_tell (l : Launch) {D : va_G} {cy : Nat → ClassId} {base tS : Nat} {S : St} {k0 : Nat} {v1 : Int32} (t0 : cls k0 = 10) {S1 : St} {r1 : Int32} (h : X10_tell S k0 v1 = some (S1, r1)) : Met l yX10_tell (wsY yX10_tell cX10_tell 2 (some .int)) rm_X10_tell (va_Pc [.ref (base + k0), .int v1] (World D cy base tS S)) (QcI D cy base tS S1 r1) 0 0 (AA base) := conI rfl rfl (by decide) (Nat.le_of_ble_eq_true rfl) (fun p e s m args below meth c ls C hr hk hl => sm_X10_tell C hr hk t0 hl) h
abbrev rm_X10_grainsAfterCounts : Room := { frames := 0, cells := 0, slots := 0, locals := 0 }
set_option maxHeartbeats 4000000 in
set_option maxRecDepth 100000 in
theorem lp_X10_grainsAfterCounts_36 {p : Program} {l : Launch} {e : Env} {s : State} {m : MethodId} {args : Array Value} {below : List Frame} {meth : Method} {c : Code} {D : va_G} {cy : Nat → ClassId} {base tS : Nat} {ls : Array Slot} (C : Cx p rm_X10_grainsAfterCounts s m args c RX10 cX10_grainsAfterCounts 5 D cy base tS 0 0) (hr : meth.sig.returnType = (some .long)) (hk : meth.locks = false) {k0 : Nat} {v1 : Int32} (t0 : cls k0 = 10) {K : St → Int64 → Int32 → Option (St × Int64)} (hK : ∀ (S : St) (v2 : Int64) (v4 : Int32) (ls : Array Slot), lv_has ls 5 [(0, .ref (base + k0)), (1, .int v1), (2, .long v2), (4, .int v4)] → Sim p l e rm_X10_grainsAfterCounts s m args below meth c D cy base 0 0 (fun S1 r => MQ below (QcJ D cy base tS S1 r) args s 0 0 (AA base)) (K S v2 v4) S (F0 m 82 ls [])) : ∀ (n : Nat) (S : St) (v2 : Int64) (v4 : Int32) (ls : Array Slot), lv_has ls 5 [(0, .ref (base + k0)), (1, .int v1), (2, .long v2), (4, .int v4)] → Sim p l e rm_X10_grainsAfterCounts s m args below meth c D cy base 0 0 (fun S1 r => MQ below (QcJ D cy base tS S1 r) args s 0 0 (AA base)) (X10_grainsAfterCounts_36 k0 v1 K n S v2 v4) S (F0 m 36 ls []) := by
  intro n
  induction n with
  | zero => intro S v2 v4 ls hl; exact Sim.none
  | succ n ih =>
    intro S v2 v4 ls hl
    rw [X10_grainsAfterCounts_36]
    refine r_iload (pc := 36) C dX10_grainsAfterCounts_36 (lv_at hl 3 rfl) ?_
    refine r_aload_n (pc := 38) C dX10_grainsAfterCounts_38 rfl (lv_at hl 0 rfl) ?_
    refine gf_X10_10 (pc := 39) C t0 dX10_grainsAfterCounts_39 ?_
    have t28 := ft_10_0 t0
    refine gf_X10_100 (pc := 42) C t28 dX10_grainsAfterCounts_42 ?_
    refine r_icmp_ge (pc := 45) C (tgt := 82) dX10_grainsAfterCounts_45 (by decide) (fun _ => ?_) (fun _ => ?_)
    · exact hK S v2 v4 _ (lv_sub hl [0, 1, 2, 3] rfl)
    · refine r_lload_n (pc := 48) C dX10_grainsAfterCounts_48 rfl (lv_at hl 2 rfl) ?_
      refine r_aload_n (pc := 49) C dX10_grainsAfterCounts_49 rfl (lv_at hl 0 rfl) ?_
      refine gf_X10_84 (pc := 50) C t0 dX10_grainsAfterCounts_50 ?_
      have t29 := ft_10_11 t0
      refine gf_X10_323 (pc := 53) C t29 dX10_grainsAfterCounts_53 ?_
      have t30 := ft_5_0 t29
      refine r_iload (pc := 56) C dX10_grainsAfterCounts_56 (lv_at hl 3 rfl) ?_
      refine r_iald (pc := 58) C t30 dX10_grainsAfterCounts_58 ?_
      refine r_i2l (pc := 59) C dX10_grainsAfterCounts_59 ?_
      refine r_aload_n (pc := 60) C dX10_grainsAfterCounts_60 rfl (lv_at hl 0 rfl) ?_
      refine gf_X10_10 (pc := 61) C t0 dX10_grainsAfterCounts_61 ?_
      have t31 := ft_10_0 t0
      refine gf_X10_328 (pc := 64) C t31 dX10_grainsAfterCounts_64 ?_
      have t32 := ft_7_1 t31
      refine r_iload (pc := 67) C dX10_grainsAfterCounts_67 (lv_at hl 3 rfl) ?_
      refine r_aald17 (pc := 69) C t32 dX10_grainsAfterCounts_69 (fun b34 => ?_)
      have t33 := et_17_12 t32 b34
      refine r_iload_n (pc := 70) C dX10_grainsAfterCounts_70 rfl (lv_at hl 1 rfl) ?_
      refine r_iald (pc := 71) C t33 dX10_grainsAfterCounts_71 ?_
      refine r_i2l (pc := 72) C dX10_grainsAfterCounts_72 ?_
      refine r_lmul (pc := 73) C dX10_grainsAfterCounts_73 ?_
      refine r_ladd (pc := 74) C dX10_grainsAfterCounts_74 ?_
      refine r_topl (fun v35 => ?_)
      refine r_lstore_n (lv2 := [(2, .long v35), (0, .ref (base + k0)), (1, .int v1), (4, .int v4)]) (pc := 75) C dX10_grainsAfterCounts_75 rfl hl (Nat.le_of_ble_eq_true rfl) rfl (fun ls hl => ?_)
      refine r_iinc (pc := 76) C (k := 3) (1 : Int32) (fun v36 => [(4, .int v36), (2, .long v35), (0, .ref (base + k0)), (1, .int v1)]) dX10_grainsAfterCounts_76 hl rfl (by decide) (Nat.le_of_ble_eq_true rfl) (fun _ => rfl) (fun v36 ls hl => ?_)
      refine r_goto (pc := 79) C (tgt := 36) dX10_grainsAfterCounts_79 (by decide) ?_
      exact ih S v35 v36 _ (lv_sub hl [2, 3, 1, 0] rfl)

set_option maxHeartbeats 4000000 in
set_option maxRecDepth 100000 in
theorem sm_X10_grainsAfterCounts {p : Program} {l : Launch} {e : Env} {s : State} {m : MethodId} {args : Array Value} {below : List Frame} {meth : Method} {c : Code} {D : va_G} {cy : Nat → ClassId} {base tS : Nat} {S : St} {k0 : Nat} {v1 : Int32} {ls : Array Slot} (C : Cx p rm_X10_grainsAfterCounts s m args c RX10 cX10_grainsAfterCounts 5 D cy base tS 0 0) (hr : meth.sig.returnType = (some .long)) (hk : meth.locks = false) (t0 : cls k0 = 10) (hl : lv_has ls 5 [(0, .ref (base + k0)), (1, .int v1)]) : Sim p l e rm_X10_grainsAfterCounts s m args below meth c D cy base 0 0 (fun S1 r => MQ below (QcJ D cy base tS S1 r) args s 0 0 (AA base)) (X10_grainsAfterCounts S k0 v1) S (F0 m 0 ls []) := by
  unfold X10_grainsAfterCounts
  refine r_aload_n (pc := 0) C dX10_grainsAfterCounts_0 rfl (lv_at hl 0 rfl) ?_
  refine gf_X10_21 (pc := 1) C t0 dX10_grainsAfterCounts_1 ?_
  have t21 := ft_10_1 t0
  refine gf_X10_141 (pc := 4) C t21 dX10_grainsAfterCounts_4 ?_
  have t22 := ft_2_1 t21
  refine r_iload_n (pc := 7) C dX10_grainsAfterCounts_7 rfl (lv_at hl 1 rfl) ?_
  refine r_iald (pc := 8) C t22 dX10_grainsAfterCounts_8 ?_
  refine r_i2l (pc := 9) C dX10_grainsAfterCounts_9 ?_
  refine r_aload_n (pc := 10) C dX10_grainsAfterCounts_10 rfl (lv_at hl 0 rfl) ?_
  refine gf_X10_84 (pc := 11) C t0 dX10_grainsAfterCounts_11 ?_
  have t23 := ft_10_11 t0
  refine gf_X10_323 (pc := 14) C t23 dX10_grainsAfterCounts_14 ?_
  have t24 := ft_5_0 t23
  refine r_iload_n (pc := 17) C dX10_grainsAfterCounts_17 rfl (lv_at hl 1 rfl) ?_
  refine r_iald (pc := 18) C t24 dX10_grainsAfterCounts_18 ?_
  refine r_i2l (pc := 19) C dX10_grainsAfterCounts_19 ?_
  refine r_aload_n (pc := 20) C dX10_grainsAfterCounts_20 rfl (lv_at hl 0 rfl) ?_
  refine gf_X10_10 (pc := 21) C t0 dX10_grainsAfterCounts_21 ?_
  have t25 := ft_10_0 t0
  refine gf_X10_320 (pc := 24) C t25 dX10_grainsAfterCounts_24 ?_
  have t26 := ft_7_2 t25
  refine r_iload_n (pc := 27) C dX10_grainsAfterCounts_27 rfl (lv_at hl 1 rfl) ?_
  refine r_iald (pc := 28) C t26 dX10_grainsAfterCounts_28 ?_
  refine r_i2l (pc := 29) C dX10_grainsAfterCounts_29 ?_
  refine r_lmul (pc := 30) C dX10_grainsAfterCounts_30 ?_
  refine r_lsub (pc := 31) C dX10_grainsAfterCounts_31 ?_
  refine r_topl (fun v27 => ?_)
  refine r_lstore_n (lv2 := [(2, .long v27), (0, .ref (base + k0)), (1, .int v1)]) (pc := 32) C dX10_grainsAfterCounts_32 rfl hl (Nat.le_of_ble_eq_true rfl) rfl (fun ls hl => ?_)
  refine r_iconst (pc := 33) C (0 : Int32) dX10_grainsAfterCounts_33 (by decide) ?_
  refine r_istore (lv2 := [(4, .int (0 : Int32)), (2, .long v27), (0, .ref (base + k0)), (1, .int v1)]) (pc := 34) C dX10_grainsAfterCounts_34 hl (Nat.le_of_ble_eq_true rfl) rfl (fun ls hl => ?_)
  refine lp_X10_grainsAfterCounts_36 (ls := ls) C hr hk t0 (fun S37 v38 v39 ls hl => ?_) FU S v27 (0 : Int32) _ (lv_sub hl [2, 3, 1, 0] rfl)
  refine r_lload_n (pc := 82) C dX10_grainsAfterCounts_82 rfl (lv_at hl 2 rfl) ?_
  exact r_lret (pc := 83) C hr hk dX10_grainsAfterCounts_83

theorem ct_X10_grainsAfterCounts (l : Launch) {D : va_G} {cy : Nat → ClassId} {base tS : Nat} {S : St} {k0 : Nat} {v1 : Int32} (t0 : cls k0 = 10) {S1 : St} {r1 : Int64} (h : X10_grainsAfterCounts S k0 v1 = some (S1, r1)) : Met l yX10_grainsAfterCounts (wsY yX10_grainsAfterCounts cX10_grainsAfterCounts 5 (some .long)) rm_X10_grainsAfterCounts (va_Pc [.ref (base + k0), .int v1] (World D cy base tS S)) (QcJ D cy base tS S1 r1) 0 0 (AA base) := conJ rfl rfl (by decide) (Nat.le_of_ble_eq_true rfl) (fun p e s m args below meth c ls C hr hk hl => sm_X10_grainsAfterCounts C hr hk t0 hl) h
theorem cv_X10_325 {p : Program} {l : Launch} {e : Env} {R : Room} {s : State} {m : MethodId} {args : Array Value} {below : List Frame} {meth : Method} {c : Code} {D : va_G} {cy : Nat → ClassId} {base tS nc ns : Nat} {cc : ByteArray} {nL pc : Nat} {ls : Array Slot} {rest : List Value} {S : St} {ρ : Type} {Q : St → ρ → State → Prop} (C : Cx p R s m args c RX10 cc nL D cy base tS nc ns) {k0 : Nat} {v1 : Int32} (t0 : cls k0 = 10) (hl : ls.size = nL) (hR : rm_X10_grainsAfterCounts.frames + 1 ≤ R.frames ∧ 8 + (5 + 11) + rm_X10_grainsAfterCounts.locals ≤ R.locals) {b : St → Int64 → Option (St × ρ)} (hroom : (rest.map fun v => v.category).sum ≤ 8) (hd : decode cc pc = .ok (.invokevirtual 325, 3)) (kk : ∀ (S1 : St) (r : Int64), Sim p l e R s m args below meth c D cy base nc ns Q (b S1 r) S1 (F0 m (pc + 3) ls (.long r :: rest))) : Sim p l e R s m args below meth c D cy base nc ns Q (bd (X10_grainsAfterCounts S k0 v1) b) S (F0 m pc ls (.int v1 :: .ref (base + k0) :: rest)) := r_callVJ (n := 1) (As := [.int v1]) C hl (rd_10 t0) (cls_lt t0 (by decide)) rfl (fun S1 r1 h => ct_X10_grainsAfterCounts l t0 h) wd_475 wd_476 wd_477 wd_164 wd_478 rfl rfl (by decide +kernel) hR rfl rfl hroom hd kk
abbrev rm_X10_weighCounts : Room := { frames := 1, cells := 0, slots := 0, locals := 24 }
set_option maxHeartbeats 4000000 in
set_option maxRecDepth 100000 in
theorem lp_X10_weighCounts_22 {p : Program} {l : Launch} {e : Env} {s : State} {m : MethodId} {args : Array Value} {below : List Frame} {meth : Method} {c : Code} {D : va_G} {cy : Nat → ClassId} {base tS : Nat} {ls : Array Slot} (C : Cx p rm_X10_weighCounts s m args c RX10 cX10_weighCounts 2 D cy base tS 0 0) (hr : meth.sig.returnType = (some .int)) (hk : meth.locks = false) {k0 : Nat} (t0 : cls k0 = 10) {K : St → Int32 → Option (St × Int32)} (hK : ∀ (S : St) (v1 : Int32) (ls : Array Slot), lv_has ls 2 [(0, .ref (base + k0)), (1, .int v1)] → Sim p l e rm_X10_weighCounts s m args below meth c D cy base 0 0 (fun S1 r => MQ below (QcI D cy base tS S1 r) args s 0 0 (AA base)) (K S v1) S (F0 m 69 ls [])) : ∀ (n : Nat) (S : St) (v1 : Int32) (ls : Array Slot), lv_has ls 2 [(0, .ref (base + k0)), (1, .int v1)] → Sim p l e rm_X10_weighCounts s m args below meth c D cy base 0 0 (fun S1 r => MQ below (QcI D cy base tS S1 r) args s 0 0 (AA base)) (X10_weighCounts_22 k0 K n S v1) S (F0 m 22 ls []) := by
  intro n
  induction n with
  | zero => intro S v1 ls hl; exact Sim.none
  | succ n ih =>
    intro S v1 ls hl
    rw [X10_weighCounts_22]
    refine r_iload_n (pc := 22) C dX10_weighCounts_22 rfl (lv_at hl 1 rfl) ?_
    refine r_aload_n (pc := 23) C dX10_weighCounts_23 rfl (lv_at hl 0 rfl) ?_
    refine gf_X10_84 (pc := 24) C t0 dX10_weighCounts_24 ?_
    have t23 := ft_10_11 t0
    refine gf_X10_299 (pc := 27) C t23 dX10_weighCounts_27 ?_
    refine r_icmp_ge (pc := 30) C (tgt := 69) dX10_weighCounts_30 (by decide) (fun _ => ?_) (fun _ => ?_)
    · exact hK S v1 _ (lv_sub hl [0, 1] rfl)
    · refine r_aload_n (pc := 33) C dX10_weighCounts_33 rfl (lv_at hl 0 rfl) ?_
      refine gf_X10_84 (pc := 34) C t0 dX10_weighCounts_34 ?_
      have t24 := ft_10_11 t0
      refine gf_X10_323 (pc := 37) C t24 dX10_weighCounts_37 ?_
      have t25 := ft_5_0 t24
      refine r_iload_n (pc := 40) C dX10_weighCounts_40 rfl (lv_at hl 1 rfl) ?_
      refine r_iald (pc := 41) C t25 dX10_weighCounts_41 ?_
      refine r_join (fun (j : St → Option (St × Int32)) => ∀ (S27 : St)  (ls : Array Slot), lv_has ls 2 [] → Sim p l e rm_X10_weighCounts s m args below meth c D cy base 0 0 (fun S1 r => MQ below (QcI D cy base tS S1 r) args s 0 0 (AA base)) (j S27) S27 (F0 m 60 ls [])) ?_ (fun j26 hj26 => ?_)
      · intro S27 ls hl
        refine r_bipush (pc := 60) C (-13 : Int32) dX10_weighCounts_60 (by decide) ?_
        exact r_iret (pc := 62) C hr hk dX10_weighCounts_62
      refine r_if_lt (pc := 42) C (tgt := 60) dX10_weighCounts_42 (by decide) (fun _ => ?_) (fun _ => ?_)
      · exact hj26 S  _ (lv_sub hl [] rfl)
      · refine r_aload_n (pc := 45) C dX10_weighCounts_45 rfl (lv_at hl 0 rfl) ?_
        refine gf_X10_84 (pc := 46) C t0 dX10_weighCounts_46 ?_
        have t28 := ft_10_11 t0
        refine gf_X10_323 (pc := 49) C t28 dX10_weighCounts_49 ?_
        have t29 := ft_5_0 t28
        refine r_iload_n (pc := 52) C dX10_weighCounts_52 rfl (lv_at hl 1 rfl) ?_
        refine r_iald (pc := 53) C t29 dX10_weighCounts_53 ?_
        refine r_ldcw (pc := 54) C (1000000 : Int32) wd_34 dX10_weighCounts_54 ?_
        refine r_icmp_le (pc := 57) C (tgt := 63) dX10_weighCounts_57 (by decide) (fun _ => ?_) (fun _ => ?_)
        · refine r_iinc (pc := 63) C (k := 1) (1 : Int32) (fun v30 => [(1, .int v30), (0, .ref (base + k0))]) dX10_weighCounts_63 hl rfl (by decide) (Nat.le_of_ble_eq_true rfl) (fun _ => rfl) (fun v30 ls hl => ?_)
          refine r_goto (pc := 66) C (tgt := 22) dX10_weighCounts_66 (by decide) ?_
          exact ih S v30 _ (lv_sub hl [1, 0] rfl)
        · exact hj26 S  _ (lv_sub hl [] rfl)

set_option maxHeartbeats 4000000 in
set_option maxRecDepth 100000 in
theorem lp_X10_weighCounts_71 {p : Program} {l : Launch} {e : Env} {s : State} {m : MethodId} {args : Array Value} {below : List Frame} {meth : Method} {c : Code} {D : va_G} {cy : Nat → ClassId} {base tS : Nat} {ls : Array Slot} (C : Cx p rm_X10_weighCounts s m args c RX10 cX10_weighCounts 2 D cy base tS 0 0) (hr : meth.sig.returnType = (some .int)) (hk : meth.locks = false) {k0 : Nat} (t0 : cls k0 = 10) {K : St → Int32 → Option (St × Int32)} (hK : ∀ (S : St) (v1 : Int32) (ls : Array Slot), lv_has ls 2 [(0, .ref (base + k0)), (1, .int v1)] → Sim p l e rm_X10_weighCounts s m args below meth c D cy base 0 0 (fun S1 r => MQ below (QcI D cy base tS S1 r) args s 0 0 (AA base)) (K S v1) S (F0 m 109 ls [])) : ∀ (n : Nat) (S : St) (v1 : Int32) (ls : Array Slot), lv_has ls 2 [(0, .ref (base + k0)), (1, .int v1)] → Sim p l e rm_X10_weighCounts s m args below meth c D cy base 0 0 (fun S1 r => MQ below (QcI D cy base tS S1 r) args s 0 0 (AA base)) (X10_weighCounts_71 k0 K n S v1) S (F0 m 71 ls []) := by
  intro n
  induction n with
  | zero => intro S v1 ls hl; exact Sim.none
  | succ n ih =>
    intro S v1 ls hl
    rw [X10_weighCounts_71]
    refine r_iload_n (pc := 71) C dX10_weighCounts_71 rfl (lv_at hl 1 rfl) ?_
    refine r_aload_n (pc := 72) C dX10_weighCounts_72 rfl (lv_at hl 0 rfl) ?_
    refine gf_X10_10 (pc := 73) C t0 dX10_weighCounts_73 ?_
    have t33 := ft_10_0 t0
    refine gf_X10_100 (pc := 76) C t33 dX10_weighCounts_76 ?_
    refine r_icmp_ge (pc := 79) C (tgt := 109) dX10_weighCounts_79 (by decide) (fun _ => ?_) (fun _ => ?_)
    · exact hK S v1 _ (lv_sub hl [0, 1] rfl)
    · refine r_aload_n (pc := 82) C dX10_weighCounts_82 rfl (lv_at hl 0 rfl) ?_
      refine r_iload_n (pc := 83) C dX10_weighCounts_83 rfl (lv_at hl 1 rfl) ?_
      refine cv_X10_325 (pc := 84) C t0 hl.1 ⟨Nat.le_of_ble_eq_true rfl, Nat.le_of_ble_eq_true rfl⟩ (Nat.le_of_ble_eq_true rfl) dX10_weighCounts_84 (fun S34 v35 => ?_)
      refine r_aload_n (pc := 87) C dX10_weighCounts_87 rfl (lv_at hl 0 rfl) ?_
      refine gf_X10_10 (pc := 88) C t0 dX10_weighCounts_88 ?_
      have t36 := ft_10_0 t0
      refine gf_X10_320 (pc := 91) C t36 dX10_weighCounts_91 ?_
      have t37 := ft_7_2 t36
      refine r_iload_n (pc := 94) C dX10_weighCounts_94 rfl (lv_at hl 1 rfl) ?_
      refine r_iald (pc := 95) C t37 dX10_weighCounts_95 ?_
      refine r_i2l (pc := 96) C dX10_weighCounts_96 ?_
      refine r_lcmp_lt (pc := 97) C (tgt := 103) dX10_weighCounts_97 dX10_weighCounts_98 (by decide) (fun _ => ?_) (fun _ => ?_)
      · refine r_iinc (pc := 103) C (k := 1) (1 : Int32) (fun v38 => [(1, .int v38), (0, .ref (base + k0))]) dX10_weighCounts_103 hl rfl (by decide) (Nat.le_of_ble_eq_true rfl) (fun _ => rfl) (fun v38 ls hl => ?_)
        refine r_goto (pc := 106) C (tgt := 71) dX10_weighCounts_106 (by decide) ?_
        exact ih S34 v38 _ (lv_sub hl [1, 0] rfl)
      · refine r_iconst (pc := 101) C (0 : Int32) dX10_weighCounts_101 (by decide) ?_
        exact r_iret (pc := 102) C hr hk dX10_weighCounts_102

set_option maxHeartbeats 4000000 in
set_option maxRecDepth 100000 in
theorem sm_X10_weighCounts {p : Program} {l : Launch} {e : Env} {s : State} {m : MethodId} {args : Array Value} {below : List Frame} {meth : Method} {c : Code} {D : va_G} {cy : Nat → ClassId} {base tS : Nat} {S : St} {k0 : Nat} {ls : Array Slot} (C : Cx p rm_X10_weighCounts s m args c RX10 cX10_weighCounts 2 D cy base tS 0 0) (hr : meth.sig.returnType = (some .int)) (hk : meth.locks = false) (t0 : cls k0 = 10) (hl : lv_has ls 2 [(0, .ref (base + k0))]) : Sim p l e rm_X10_weighCounts s m args below meth c D cy base 0 0 (fun S1 r => MQ below (QcI D cy base tS S1 r) args s 0 0 (AA base)) (X10_weighCounts S k0) S (F0 m 0 ls []) := by
  unfold X10_weighCounts
  refine r_aload_n (pc := 0) C dX10_weighCounts_0 rfl (lv_at hl 0 rfl) ?_
  refine gf_X10_84 (pc := 1) C t0 dX10_weighCounts_1 ?_
  have t21 := ft_10_11 t0
  refine gf_X10_299 (pc := 4) C t21 dX10_weighCounts_4 ?_
  refine r_aload_n (pc := 7) C dX10_weighCounts_7 rfl (lv_at hl 0 rfl) ?_
  refine gf_X10_10 (pc := 8) C t0 dX10_weighCounts_8 ?_
  have t22 := ft_10_0 t0
  refine gf_X10_100 (pc := 11) C t22 dX10_weighCounts_11 ?_
  refine r_icmp_eq (pc := 14) C (tgt := 20) dX10_weighCounts_14 (by decide) (fun _ => ?_) (fun _ => ?_)
  · refine r_iconst (pc := 20) C (0 : Int32) dX10_weighCounts_20 (by decide) ?_
    refine r_istore_n (lv2 := [(1, .int (0 : Int32)), (0, .ref (base + k0))]) (pc := 21) C dX10_weighCounts_21 rfl hl (Nat.le_of_ble_eq_true rfl) rfl (fun ls hl => ?_)
    refine lp_X10_weighCounts_22 (ls := ls) C hr hk t0 (fun S31 v32 ls hl => ?_) FU S (0 : Int32) _ (lv_sub hl [1, 0] rfl)
    refine r_iconst (pc := 69) C (0 : Int32) dX10_weighCounts_69 (by decide) ?_
    refine r_istore_n (lv2 := [(1, .int (0 : Int32)), (0, .ref (base + k0))]) (pc := 70) C dX10_weighCounts_70 rfl hl (Nat.le_of_ble_eq_true rfl) rfl (fun ls hl => ?_)
    refine lp_X10_weighCounts_71 (ls := ls) C hr hk t0 (fun S39 v40 ls hl => ?_) FU S31 (0 : Int32) _ (lv_sub hl [1, 0] rfl)
    refine r_iconst (pc := 109) C (1 : Int32) dX10_weighCounts_109 (by decide) ?_
    exact r_iret (pc := 110) C hr hk dX10_weighCounts_110
  · refine r_bipush (pc := 17) C (-3 : Int32) dX10_weighCounts_17 (by decide) ?_
    exact r_iret (pc := 19) C hr hk dX10_weighCounts_19

theorem ct_X10_weighCounts (l : Launch) {D : va_G} {cy : Nat → ClassId} {base tS : Nat} {S : St} {k0 : Nat} (t0 : cls k0 = 10) {S1 : St} {r1 : Int32} (h : X10_weighCounts S k0 = some (S1, r1)) : Met l yX10_weighCounts (wsY yX10_weighCounts cX10_weighCounts 2 (some .int)) rm_X10_weighCounts (va_Pc [.ref (base + k0)] (World D cy base tS S)) (QcI D cy base tS S1 r1) 0 0 (AA base) := conI rfl rfl (by decide) (Nat.le_of_ble_eq_true rfl) (fun p e s m args below meth c ls C hr hk hl => sm_X10_weighCounts C hr hk t0 hl) h
theorem cv_X10_303 {p : Program} {l : Launch} {e : Env} {R : Room} {s : State} {m : MethodId} {args : Array Value} {below : List Frame} {meth : Method} {c : Code} {D : va_G} {cy : Nat → ClassId} {base tS nc ns : Nat} {cc : ByteArray} {nL pc : Nat} {ls : Array Slot} {rest : List Value} {S : St} {ρ : Type} {Q : St → ρ → State → Prop} (C : Cx p R s m args c RX10 cc nL D cy base tS nc ns) {k0 : Nat} (t0 : cls k0 = 10) (hl : ls.size = nL) (hR : rm_X10_weighCounts.frames + 1 ≤ R.frames ∧ 8 + (2 + 11) + rm_X10_weighCounts.locals ≤ R.locals) {b : St → Int32 → Option (St × ρ)} (hroom : (rest.map fun v => v.category).sum ≤ 8) (hd : decode cc pc = .ok (.invokevirtual 303, 3)) (kk : ∀ (S1 : St) (r : Int32), Sim p l e R s m args below meth c D cy base nc ns Q (b S1 r) S1 (F0 m (pc + 3) ls (.int r :: rest))) : Sim p l e R s m args below meth c D cy base nc ns Q (bd (X10_weighCounts S k0) b) S (F0 m pc ls (.ref (base + k0) :: rest)) := r_callVI (n := 0) (As := []) C hl (rd_10 t0) (cls_lt t0 (by decide)) rfl (fun S1 r1 h => ct_X10_weighCounts l t0 h) wd_479 wd_480 wd_481 wd_164 wd_482 rfl rfl (by decide +kernel) hR rfl rfl hroom hd kk
abbrev rm_X10_enough : Room := { frames := 2, cells := 0, slots := 0, locals := 45 }
set_option maxHeartbeats 4000000 in
set_option maxRecDepth 100000 in
theorem sm_X10_enough {p : Program} {l : Launch} {e : Env} {s : State} {m : MethodId} {args : Array Value} {below : List Frame} {meth : Method} {c : Code} {D : va_G} {cy : Nat → ClassId} {base tS : Nat} {S : St} {k0 : Nat} {ls : Array Slot} (C : Cx p rm_X10_enough s m args c RX10 cX10_enough 2 D cy base tS 0 0) (hr : meth.sig.returnType = (some .int)) (hk : meth.locks = false) (t0 : cls k0 = 10) (hl : lv_has ls 2 [(0, .ref (base + k0))]) : Sim p l e rm_X10_enough s m args below meth c D cy base 0 0 (fun S1 r => MQ below (QcI D cy base tS S1 r) args s 0 0 (AA base)) (X10_enough S k0) S (F0 m 0 ls []) := by
  unfold X10_enough
  refine r_bipush (pc := 0) C (-8 : Int32) dX10_enough_0 (by decide) ?_
  refine r_istore_n (lv2 := [(1, .int (-8 : Int32)), (0, .ref (base + k0))]) (pc := 2) C dX10_enough_2 rfl hl (Nat.le_of_ble_eq_true rfl) rfl (fun ls hl => ?_)
  refine r_aload_n (pc := 3) C dX10_enough_3 rfl (lv_at hl 1 rfl) ?_
  refine gf_X10_92 (pc := 4) C t0 dX10_enough_4 ?_
  refine r_join (fun (j : St → Int32 → Option (St × Int32)) => ∀ (S22 : St) (v23 : Int32) (ls : Array Slot), lv_has ls 2 [(0, .ref (base + k0)), (1, .int v23)] → Sim p l e rm_X10_enough s m args below meth c D cy base 0 0 (fun S1 r => MQ below (QcI D cy base tS S1 r) args s 0 0 (AA base)) (j S22 v23) S22 (F0 m 15 ls [])) ?_ (fun j21 hj21 => ?_)
  · intro S22 v23 ls hl
    refine r_aload_n (pc := 15) C dX10_enough_15 rfl (lv_at hl 0 rfl) ?_
    refine gf_X10_84 (pc := 16) C t0 dX10_enough_16 ?_
    have t24 := ft_10_11 t0
    refine cv_X10_179 (pc := 19) C t24 hl.1 ⟨Nat.le_of_ble_eq_true rfl, Nat.le_of_ble_eq_true rfl⟩ (Nat.le_of_ble_eq_true rfl) dX10_enough_19 (fun S25 _ => ?_)
    refine r_iload_n (pc := 22) C dX10_enough_22 rfl (lv_at hl 1 rfl) ?_
    refine r_if_ge (pc := 23) C (tgt := 34) dX10_enough_23 (by decide) (fun _ => ?_) (fun _ => ?_)
    · refine r_iload_n (pc := 34) C dX10_enough_34 rfl (lv_at hl 1 rfl) ?_
      exact r_iret (pc := 35) C hr hk dX10_enough_35
    · refine r_aload_n (pc := 26) C dX10_enough_26 rfl (lv_at hl 0 rfl) ?_
      refine r_iload_n (pc := 27) C dX10_enough_27 rfl (lv_at hl 1 rfl) ?_
      refine cv_X10_96 (pc := 28) C t0 hl.1 ⟨Nat.le_of_ble_eq_true rfl, Nat.le_of_ble_eq_true rfl⟩ (Nat.le_of_ble_eq_true rfl) dX10_enough_28 (fun S26 v27 => ?_)
      refine r_goto (pc := 31) C (tgt := 35) dX10_enough_31 (by decide) ?_
      exact r_iret (pc := 35) C hr hk dX10_enough_35
  refine r_if_eq (pc := 7) C (tgt := 15) dX10_enough_7 (by decide) (fun _ => ?_) (fun _ => ?_)
  · exact hj21 S (-8 : Int32) _ (lv_sub hl [1, 0] rfl)
  · refine r_aload_n (pc := 10) C dX10_enough_10 rfl (lv_at hl 1 rfl) ?_
    refine cv_X10_303 (pc := 11) C t0 hl.1 ⟨Nat.le_of_ble_eq_true rfl, Nat.le_of_ble_eq_true rfl⟩ (Nat.le_of_ble_eq_true rfl) dX10_enough_11 (fun S28 v29 => ?_)
    refine r_istore_n (lv2 := [(1, .int v29), (0, .ref (base + k0))]) (pc := 14) C dX10_enough_14 rfl hl (Nat.le_of_ble_eq_true rfl) rfl (fun ls hl => ?_)
    exact hj21 S28 v29 _ (lv_sub hl [1, 0] rfl)

theorem ct_X10_enough (l : Launch) {D : va_G} {cy : Nat → ClassId} {base tS : Nat} {S : St} {k0 : Nat} (t0 : cls k0 = 10) {S1 : St} {r1 : Int32} (h : X10_enough S k0 = some (S1, r1)) : Met l yX10_enough (wsY yX10_enough cX10_enough 2 (some .int)) rm_X10_enough (va_Pc [.ref (base + k0)] (World D cy base tS S)) (QcI D cy base tS S1 r1) 0 0 (AA base) := conI rfl rfl (by decide) (Nat.le_of_ble_eq_true rfl) (fun p e s m args below meth c ls C hr hk hl => sm_X10_enough C hr hk t0 hl) h
abbrev rm_X10_followPairs : Room := { frames := 3, cells := 0, slots := 0, locals := 68 }
set_option maxHeartbeats 4000000 in
set_option maxRecDepth 100000 in
theorem lp_X10_followPairs_16 {p : Program} {l : Launch} {e : Env} {s : State} {m : MethodId} {args : Array Value} {below : List Frame} {meth : Method} {c : Code} {D : va_G} {cy : Nat → ClassId} {base tS : Nat} {ls : Array Slot} (C : Cx p rm_X10_followPairs s m args c RX10 cX10_followPairs 4 D cy base tS 0 0) (hr : meth.sig.returnType = (some .int)) (hk : meth.locks = false) {k0 : Nat} (t0 : cls k0 = 10) {K : St → Int32 → Option (St × Int32)} (hK : ∀ (S : St) (v1 : Int32) (ls : Array Slot), lv_has ls 4 [(0, .ref (base + k0)), (1, .int v1)] → Sim p l e rm_X10_followPairs s m args below meth c D cy base 0 0 (fun S1 r => MQ below (QcI D cy base tS S1 r) args s 0 0 (AA base)) (K S v1) S (F0 m 136 ls [])) : ∀ (n : Nat) (S : St) (v1 : Int32) (ls : Array Slot), lv_has ls 4 [(0, .ref (base + k0)), (1, .int v1)] → Sim p l e rm_X10_followPairs s m args below meth c D cy base 0 0 (fun S1 r => MQ below (QcI D cy base tS S1 r) args s 0 0 (AA base)) (X10_followPairs_16 k0 K n S v1) S (F0 m 16 ls []) := by
  intro n
  induction n with
  | zero => intro S v1 ls hl; exact Sim.none
  | succ n ih =>
    intro S v1 ls hl
    rw [X10_followPairs_16]
    refine r_iload_n (pc := 16) C dX10_followPairs_16 rfl (lv_at hl 1 rfl) ?_
    refine r_aload_n (pc := 17) C dX10_followPairs_17 rfl (lv_at hl 0 rfl) ?_
    refine gf_X10_84 (pc := 18) C t0 dX10_followPairs_18 ?_
    have t25 := ft_10_11 t0
    refine gf_X10_299 (pc := 21) C t25 dX10_followPairs_21 ?_
    refine r_icmp_ge (pc := 24) C (tgt := 136) dX10_followPairs_24 (by decide) (fun _ => ?_) (fun _ => ?_)
    · exact hK S v1 _ (lv_sub hl [0, 1] rfl)
    · refine r_iload_n (pc := 27) C dX10_followPairs_27 rfl (lv_at hl 1 rfl) ?_
      refine r_iconst (pc := 28) C (2 : Int32) dX10_followPairs_28 (by decide) ?_
      refine r_idiv (pc := 29) C dX10_followPairs_29 (fun _ => ?_)
      refine r_iconst (pc := 30) C (1 : Int32) dX10_followPairs_30 (by decide) ?_
      refine r_iadd (pc := 31) C dX10_followPairs_31 ?_
      refine r_topi (fun v26 => ?_)
      refine r_istore_n (lv2 := [(2, .int v26), (0, .ref (base + k0)), (1, .int v1)]) (pc := 32) C dX10_followPairs_32 rfl hl (Nat.le_of_ble_eq_true rfl) rfl (fun ls hl => ?_)
      refine r_iload_n (pc := 33) C dX10_followPairs_33 rfl (lv_at hl 2 rfl) ?_
      refine r_iconst (pc := 34) C (1 : Int32) dX10_followPairs_34 (by decide) ?_
      refine r_iadd (pc := 35) C dX10_followPairs_35 ?_
      refine r_aload_n (pc := 36) C dX10_followPairs_36 rfl (lv_at hl 1 rfl) ?_
      refine gf_X10_84 (pc := 37) C t0 dX10_followPairs_37 ?_
      have t27 := ft_10_11 t0
      refine gf_X10_299 (pc := 40) C t27 dX10_followPairs_40 ?_
      refine r_icmp_lt (pc := 43) C (tgt := 48) dX10_followPairs_43 (by decide) (fun _ => ?_) (fun _ => ?_)
      · refine r_aload_n (pc := 48) C dX10_followPairs_48 rfl (lv_at hl 1 rfl) ?_
        refine gf_X10_84 (pc := 49) C t0 dX10_followPairs_49 ?_
        have t28 := ft_10_11 t0
        refine gf_X10_323 (pc := 52) C t28 dX10_followPairs_52 ?_
        have t29 := ft_5_0 t28
        refine r_iload_n (pc := 55) C dX10_followPairs_55 rfl (lv_at hl 2 rfl) ?_
        refine r_iald (pc := 56) C t29 dX10_followPairs_56 ?_
        refine r_topi (fun v30 => ?_)
        refine r_istore_n (lv2 := [(3, .int v30), (2, .int v26), (0, .ref (base + k0)), (1, .int v1)]) (pc := 57) C dX10_followPairs_57 rfl hl (Nat.le_of_ble_eq_true rfl) rfl (fun ls hl => ?_)
        refine r_aload_n (pc := 58) C dX10_followPairs_58 rfl (lv_at hl 2 rfl) ?_
        refine gf_X10_10 (pc := 59) C t0 dX10_followPairs_59 ?_
        have t31 := ft_10_0 t0
        refine r_iload_n (pc := 62) C dX10_followPairs_62 rfl (lv_at hl 0 rfl) ?_
        refine cv_X10_107 (pc := 63) C t31 hl.1 ⟨Nat.le_of_ble_eq_true rfl, Nat.le_of_ble_eq_true rfl⟩ (Nat.le_of_ble_eq_true rfl) dX10_followPairs_63 (fun S32 v33 => ?_)
        refine r_join (fun (j : St → Option (St × Int32)) => ∀ (S35 : St)  (ls : Array Slot), lv_has ls 4 [(2, .int v26)] → Sim p l e rm_X10_followPairs s m args below meth c D cy base 0 0 (fun S1 r => MQ below (QcI D cy base tS S1 r) args s 0 0 (AA base)) (j S35) S35 (F0 m 80 ls [])) ?_ (fun j34 hj34 => ?_)
        · intro S35 ls hl
          refine r_iload_n (pc := 80) C dX10_followPairs_80 rfl (lv_at hl 0 rfl) ?_
          exact r_iret (pc := 81) C hr hk dX10_followPairs_81
        refine r_if_eq (pc := 66) C (tgt := 80) dX10_followPairs_66 (by decide) (fun _ => ?_) (fun _ => ?_)
        · exact hj34 S32  _ (lv_sub hl [1] rfl)
        · refine r_aload_n (pc := 69) C dX10_followPairs_69 rfl (lv_at hl 2 rfl) ?_
          refine gf_X10_25 (pc := 70) C t0 dX10_followPairs_70 ?_
          have t36 := ft_10_2 t0
          refine r_iload_n (pc := 73) C dX10_followPairs_73 rfl (lv_at hl 0 rfl) ?_
          refine cv_X10_160 (pc := 74) C t36 hl.1 ⟨Nat.le_of_ble_eq_true rfl, Nat.le_of_ble_eq_true rfl⟩ (Nat.le_of_ble_eq_true rfl) dX10_followPairs_74 (fun S37 v38 => ?_)
          refine r_if_ne (pc := 77) C (tgt := 82) dX10_followPairs_77 (by decide) (fun _ => ?_) (fun _ => ?_)
          · refine r_aload_n (pc := 82) C dX10_followPairs_82 rfl (lv_at hl 2 rfl) ?_
            refine gf_X10_25 (pc := 83) C t0 dX10_followPairs_83 ?_
            have t39 := ft_10_2 t0
            refine gf_X10_141 (pc := 86) C t39 dX10_followPairs_86 ?_
            have t40 := ft_2_1 t39
            refine r_iload_n (pc := 89) C dX10_followPairs_89 rfl (lv_at hl 0 rfl) ?_
            refine r_iald (pc := 90) C t40 dX10_followPairs_90 ?_
            refine r_aload_n (pc := 91) C dX10_followPairs_91 rfl (lv_at hl 2 rfl) ?_
            refine gf_X10_84 (pc := 92) C t0 dX10_followPairs_92 ?_
            have t41 := ft_10_11 t0
            refine gf_X10_323 (pc := 95) C t41 dX10_followPairs_95 ?_
            have t42 := ft_5_0 t41
            refine r_iload_n (pc := 98) C dX10_followPairs_98 rfl (lv_at hl 3 rfl) ?_
            refine r_iconst (pc := 99) C (1 : Int32) dX10_followPairs_99 (by decide) ?_
            refine r_iadd (pc := 100) C dX10_followPairs_100 ?_
            refine r_iald (pc := 101) C t42 dX10_followPairs_101 ?_
            refine r_icmp_eq (pc := 102) C (tgt := 107) dX10_followPairs_102 (by decide) (fun _ => ?_) (fun _ => ?_)
            · refine r_aload_n (pc := 107) C dX10_followPairs_107 rfl (lv_at hl 2 rfl) ?_
              refine gf_X10_25 (pc := 108) C t0 dX10_followPairs_108 ?_
              have t43 := ft_10_2 t0
              refine r_iload_n (pc := 111) C dX10_followPairs_111 rfl (lv_at hl 0 rfl) ?_
              refine cv_X10_163 (pc := 112) C t43 hl.1 ⟨Nat.le_of_ble_eq_true rfl, Nat.le_of_ble_eq_true rfl⟩ (Nat.le_of_ble_eq_true rfl) dX10_followPairs_112 (fun S44 v45 => ?_)
              refine r_if_eq (pc := 115) C (tgt := 121) dX10_followPairs_115 (by decide) (fun _ => ?_) (fun _ => ?_)
              · refine r_aload_n (pc := 121) C dX10_followPairs_121 rfl (lv_at hl 2 rfl) ?_
                refine gf_X10_25 (pc := 122) C t0 dX10_followPairs_122 ?_
                have t46 := ft_10_2 t0
                refine r_iload_n (pc := 125) C dX10_followPairs_125 rfl (lv_at hl 0 rfl) ?_
                refine cv_X10_166 (pc := 126) C t46 hl.1 ⟨Nat.le_of_ble_eq_true rfl, Nat.le_of_ble_eq_true rfl⟩ (Nat.le_of_ble_eq_true rfl) dX10_followPairs_126 (fun S47 v48 => ?_)
                refine r_pop (pc := 129) C dX10_followPairs_129 rfl ?_
                refine r_iinc (pc := 130) C (k := 3) (2 : Int32) (fun v49 => [(1, .int v49), (3, .int v30), (2, .int v26), (0, .ref (base + k0))]) dX10_followPairs_130 hl rfl (by decide) (Nat.le_of_ble_eq_true rfl) (fun _ => rfl) (fun v49 ls hl => ?_)
                refine r_goto (pc := 133) C (tgt := 16) dX10_followPairs_133 (by decide) ?_
                exact ih S47 v49 _ (lv_sub hl [3, 0] rfl)
              · refine r_bipush (pc := 118) C (-5 : Int32) dX10_followPairs_118 (by decide) ?_
                exact r_iret (pc := 120) C hr hk dX10_followPairs_120
            · refine r_iload_n (pc := 105) C dX10_followPairs_105 rfl (lv_at hl 1 rfl) ?_
              exact r_iret (pc := 106) C hr hk dX10_followPairs_106
          · exact hj34 S37  _ (lv_sub hl [1] rfl)
      · refine r_iload_n (pc := 46) C dX10_followPairs_46 rfl (lv_at hl 0 rfl) ?_
        exact r_iret (pc := 47) C hr hk dX10_followPairs_47

set_option maxHeartbeats 4000000 in
set_option maxRecDepth 100000 in
theorem sm_X10_followPairs {p : Program} {l : Launch} {e : Env} {s : State} {m : MethodId} {args : Array Value} {below : List Frame} {meth : Method} {c : Code} {D : va_G} {cy : Nat → ClassId} {base tS : Nat} {S : St} {k0 : Nat} {ls : Array Slot} (C : Cx p rm_X10_followPairs s m args c RX10 cX10_followPairs 4 D cy base tS 0 0) (hr : meth.sig.returnType = (some .int)) (hk : meth.locks = false) (t0 : cls k0 = 10) (hl : lv_has ls 4 [(0, .ref (base + k0))]) : Sim p l e rm_X10_followPairs s m args below meth c D cy base 0 0 (fun S1 r => MQ below (QcI D cy base tS S1 r) args s 0 0 (AA base)) (X10_followPairs S k0) S (F0 m 0 ls []) := by
  unfold X10_followPairs
  refine r_aload_n (pc := 0) C dX10_followPairs_0 rfl (lv_at hl 0 rfl) ?_
  refine gf_X10_25 (pc := 1) C t0 dX10_followPairs_1 ?_
  have t21 := ft_10_2 t0
  refine r_aload_n (pc := 4) C dX10_followPairs_4 rfl (lv_at hl 0 rfl) ?_
  refine gf_X10_21 (pc := 5) C t0 dX10_followPairs_5 ?_
  have t22 := ft_10_1 t0
  refine gf_X10_141 (pc := 8) C t22 dX10_followPairs_8 ?_
  have t23 := ft_2_1 t22
  refine cv_X10_224 (pc := 11) C t21 t23 hl.1 ⟨Nat.le_of_ble_eq_true rfl, Nat.le_of_ble_eq_true rfl⟩ (Nat.le_of_ble_eq_true rfl) dX10_followPairs_11 (fun S24 _ => ?_)
  refine r_iconst (pc := 14) C (0 : Int32) dX10_followPairs_14 (by decide) ?_
  refine r_istore_n (lv2 := [(1, .int (0 : Int32)), (0, .ref (base + k0))]) (pc := 15) C dX10_followPairs_15 rfl hl (Nat.le_of_ble_eq_true rfl) rfl (fun ls hl => ?_)
  refine lp_X10_followPairs_16 (ls := ls) C hr hk t0 (fun S50 v51 ls hl => ?_) FU S24 (0 : Int32) _ (lv_sub hl [1, 0] rfl)
  refine r_aload_n (pc := 136) C dX10_followPairs_136 rfl (lv_at hl 0 rfl) ?_
  refine gf_X10_25 (pc := 137) C t0 dX10_followPairs_137 ?_
  have t52 := ft_10_2 t0
  refine cv_X10_194 (pc := 140) C t52 hl.1 ⟨Nat.le_of_ble_eq_true rfl, Nat.le_of_ble_eq_true rfl⟩ (Nat.le_of_ble_eq_true rfl) dX10_followPairs_140 (fun S53 v54 => ?_)
  refine r_if_eq (pc := 143) C (tgt := 150) dX10_followPairs_143 (by decide) (fun _ => ?_) (fun _ => ?_)
  · refine r_sipush (pc := 150) C (1000 : Int32) dX10_followPairs_150 (by decide) ?_
    exact r_iret (pc := 153) C hr hk dX10_followPairs_153
  · refine r_iconst (pc := 146) C (0 : Int32) dX10_followPairs_146 (by decide) ?_
    refine r_goto (pc := 147) C (tgt := 153) dX10_followPairs_147 (by decide) ?_
    exact r_iret (pc := 153) C hr hk dX10_followPairs_153

theorem ct_X10_followPairs (l : Launch) {D : va_G} {cy : Nat → ClassId} {base tS : Nat} {S : St} {k0 : Nat} (t0 : cls k0 = 10) {S1 : St} {r1 : Int32} (h : X10_followPairs S k0 = some (S1, r1)) : Met l yX10_followPairs (wsY yX10_followPairs cX10_followPairs 4 (some .int)) rm_X10_followPairs (va_Pc [.ref (base + k0)] (World D cy base tS S)) (QcI D cy base tS S1 r1) 0 0 (AA base) := conI rfl rfl (by decide) (Nat.le_of_ble_eq_true rfl) (fun p e s m args below meth c ls C hr hk hl => sm_X10_followPairs C hr hk t0 hl) h
theorem cv_X10_306 {p : Program} {l : Launch} {e : Env} {R : Room} {s : State} {m : MethodId} {args : Array Value} {below : List Frame} {meth : Method} {c : Code} {D : va_G} {cy : Nat → ClassId} {base tS nc ns : Nat} {cc : ByteArray} {nL pc : Nat} {ls : Array Slot} {rest : List Value} {S : St} {ρ : Type} {Q : St → ρ → State → Prop} (C : Cx p R s m args c RX10 cc nL D cy base tS nc ns) {k0 : Nat} (t0 : cls k0 = 10) (hl : ls.size = nL) (hR : rm_X10_followPairs.frames + 1 ≤ R.frames ∧ 8 + (4 + 11) + rm_X10_followPairs.locals ≤ R.locals) {b : St → Int32 → Option (St × ρ)} (hroom : (rest.map fun v => v.category).sum ≤ 8) (hd : decode cc pc = .ok (.invokevirtual 306, 3)) (kk : ∀ (S1 : St) (r : Int32), Sim p l e R s m args below meth c D cy base nc ns Q (b S1 r) S1 (F0 m (pc + 3) ls (.int r :: rest))) : Sim p l e R s m args below meth c D cy base nc ns Q (bd (X10_followPairs S k0) b) S (F0 m pc ls (.ref (base + k0) :: rest)) := r_callVI (n := 0) (As := []) C hl (rd_10 t0) (cls_lt t0 (by decide)) rfl (fun S1 r1 h => ct_X10_followPairs l t0 h) wd_483 wd_484 wd_485 wd_164 wd_486 rfl rfl (by decide +kernel) hR rfl rfl hroom hd kk
abbrev rm_X10_check : Room := { frames := 4, cells := 0, slots := 0, locals := 91 }
set_option maxHeartbeats 4000000 in
set_option maxRecDepth 100000 in
theorem sm_X10_check {p : Program} {l : Launch} {e : Env} {s : State} {m : MethodId} {args : Array Value} {below : List Frame} {meth : Method} {c : Code} {D : va_G} {cy : Nat → ClassId} {base tS : Nat} {S : St} {k0 : Nat} {ls : Array Slot} (C : Cx p rm_X10_check s m args c RX10 cX10_check 2 D cy base tS 0 0) (hr : meth.sig.returnType = (some .int)) (hk : meth.locks = false) (t0 : cls k0 = 10) (hl : lv_has ls 2 [(0, .ref (base + k0))]) : Sim p l e rm_X10_check s m args below meth c D cy base 0 0 (fun S1 r => MQ below (QcI D cy base tS S1 r) args s 0 0 (AA base)) (X10_check S k0) S (F0 m 0 ls []) := by
  unfold X10_check
  refine r_bipush (pc := 0) C (-8 : Int32) dX10_check_0 (by decide) ?_
  refine r_istore_n (lv2 := [(1, .int (-8 : Int32)), (0, .ref (base + k0))]) (pc := 2) C dX10_check_2 rfl hl (Nat.le_of_ble_eq_true rfl) rfl (fun ls hl => ?_)
  refine r_aload_n (pc := 3) C dX10_check_3 rfl (lv_at hl 1 rfl) ?_
  refine gf_X10_92 (pc := 4) C t0 dX10_check_4 ?_
  refine r_join (fun (j : St → Int32 → Option (St × Int32)) => ∀ (S22 : St) (v23 : Int32) (ls : Array Slot), lv_has ls 2 [(0, .ref (base + k0)), (1, .int v23)] → Sim p l e rm_X10_check s m args below meth c D cy base 0 0 (fun S1 r => MQ below (QcI D cy base tS S1 r) args s 0 0 (AA base)) (j S22 v23) S22 (F0 m 15 ls [])) ?_ (fun j21 hj21 => ?_)
  · intro S22 v23 ls hl
    refine r_aload_n (pc := 15) C dX10_check_15 rfl (lv_at hl 0 rfl) ?_
    refine gf_X10_84 (pc := 16) C t0 dX10_check_16 ?_
    have t24 := ft_10_11 t0
    refine cv_X10_179 (pc := 19) C t24 hl.1 ⟨Nat.le_of_ble_eq_true rfl, Nat.le_of_ble_eq_true rfl⟩ (Nat.le_of_ble_eq_true rfl) dX10_check_19 (fun S25 _ => ?_)
    refine r_iload_n (pc := 22) C dX10_check_22 rfl (lv_at hl 1 rfl) ?_
    refine r_if_ge (pc := 23) C (tgt := 34) dX10_check_23 (by decide) (fun _ => ?_) (fun _ => ?_)
    · refine r_iload_n (pc := 34) C dX10_check_34 rfl (lv_at hl 1 rfl) ?_
      exact r_iret (pc := 35) C hr hk dX10_check_35
    · refine r_aload_n (pc := 26) C dX10_check_26 rfl (lv_at hl 0 rfl) ?_
      refine r_iload_n (pc := 27) C dX10_check_27 rfl (lv_at hl 1 rfl) ?_
      refine cv_X10_96 (pc := 28) C t0 hl.1 ⟨Nat.le_of_ble_eq_true rfl, Nat.le_of_ble_eq_true rfl⟩ (Nat.le_of_ble_eq_true rfl) dX10_check_28 (fun S26 v27 => ?_)
      refine r_goto (pc := 31) C (tgt := 35) dX10_check_31 (by decide) ?_
      exact r_iret (pc := 35) C hr hk dX10_check_35
  refine r_if_eq (pc := 7) C (tgt := 15) dX10_check_7 (by decide) (fun _ => ?_) (fun _ => ?_)
  · exact hj21 S (-8 : Int32) _ (lv_sub hl [1, 0] rfl)
  · refine r_aload_n (pc := 10) C dX10_check_10 rfl (lv_at hl 1 rfl) ?_
    refine cv_X10_306 (pc := 11) C t0 hl.1 ⟨Nat.le_of_ble_eq_true rfl, Nat.le_of_ble_eq_true rfl⟩ (Nat.le_of_ble_eq_true rfl) dX10_check_11 (fun S28 v29 => ?_)
    refine r_istore_n (lv2 := [(1, .int v29), (0, .ref (base + k0))]) (pc := 14) C dX10_check_14 rfl hl (Nat.le_of_ble_eq_true rfl) rfl (fun ls hl => ?_)
    exact hj21 S28 v29 _ (lv_sub hl [1, 0] rfl)

theorem ct_X10_check (l : Launch) {D : va_G} {cy : Nat → ClassId} {base tS : Nat} {S : St} {k0 : Nat} (t0 : cls k0 = 10) {S1 : St} {r1 : Int32} (h : X10_check S k0 = some (S1, r1)) : Met l yX10_check (wsY yX10_check cX10_check 2 (some .int)) rm_X10_check (va_Pc [.ref (base + k0)] (World D cy base tS S)) (QcI D cy base tS S1 r1) 0 0 (AA base) := conI rfl rfl (by decide) (Nat.le_of_ble_eq_true rfl) (fun p e s m args below meth c ls C hr hk hl => sm_X10_check C hr hk t0 hl) h
abbrev rm_X4_giveTo : Room := { frames := 1, cells := 0, slots := 0, locals := 30 }
set_option maxHeartbeats 4000000 in
set_option maxRecDepth 100000 in
theorem sm_X4_giveTo {p : Program} {l : Launch} {e : Env} {s : State} {m : MethodId} {args : Array Value} {below : List Frame} {meth : Method} {c : Code} {D : va_G} {cy : Nat → ClassId} {base tS : Nat} {S : St} {k0 : Nat} {k1 : Nat} {k2 : Nat} {ls : Array Slot} (C : Cx p rm_X4_giveTo s m args c RX4 cX4_giveTo 3 D cy base tS 0 0) (hr : meth.sig.returnType = none) (hk : meth.locks = false) (t0 : cls k0 = 4) (t1 : cls k1 = 2) (t2 : cls k2 = 0) (hl : lv_has ls 3 [(0, .ref (base + k0)), (1, .ref (base + k1)), (2, .ref (base + k2))]) : Sim p l e rm_X4_giveTo s m args below meth c D cy base 0 0 (fun S1 r => MQ below (QcV D cy base tS S1 r) args s 0 0 (AA base)) (X4_giveTo S k0 k1 k2) S (F0 m 0 ls []) := by
  unfold X4_giveTo
  refine r_aload_n (pc := 0) C dX4_giveTo_0 rfl (lv_at hl 0 rfl) ?_
  refine gf_X4_9 (pc := 1) C t0 dX4_giveTo_1 ?_
  have t21 := ft_4_0 t0
  refine r_iconst (pc := 4) C (0 : Int32) dX4_giveTo_4 (by decide) ?_
  refine r_aload_n (pc := 5) C dX4_giveTo_5 rfl (lv_at hl 1 rfl) ?_
  refine gf_X4_25 (pc := 6) C t1 dX4_giveTo_6 ?_
  have t22 := ft_2_1 t1
  refine r_iconst (pc := 9) C (0 : Int32) dX4_giveTo_9 (by decide) ?_
  refine r_bipush (pc := 10) C (12 : Int32) dX4_giveTo_10 (by decide) ?_
  refine r_cpyI (rest := []) (pc := 12) C t21 t22 hl.1 wd_128 wd_31 wd_32 wd_33 (Nat.le_of_ble_eq_true rfl) (by decide) dX4_giveTo_12 (fun S23 => ?_)
  refine r_aload_n (pc := 15) C dX4_giveTo_15 rfl (lv_at hl 0 rfl) ?_
  refine gf_X4_15 (pc := 16) C t0 dX4_giveTo_16 ?_
  have t24 := ft_4_1 t0
  refine r_iconst (pc := 19) C (0 : Int32) dX4_giveTo_19 (by decide) ?_
  refine r_aload_n (pc := 20) C dX4_giveTo_20 rfl (lv_at hl 1 rfl) ?_
  refine gf_X4_34 (pc := 21) C t1 dX4_giveTo_21 ?_
  have t25 := ft_2_2 t1
  refine r_iconst (pc := 24) C (0 : Int32) dX4_giveTo_24 (by decide) ?_
  refine r_iconst (pc := 25) C (3 : Int32) dX4_giveTo_25 (by decide) ?_
  refine r_cpyJ (rest := []) (pc := 26) C t24 t25 hl.1 wd_128 wd_31 wd_32 wd_33 (Nat.le_of_ble_eq_true rfl) (by decide) dX4_giveTo_26 (fun S26 => ?_)
  refine r_aload_n (pc := 29) C dX4_giveTo_29 rfl (lv_at hl 0 rfl) ?_
  refine gf_X4_19 (pc := 30) C t0 dX4_giveTo_30 ?_
  have t27 := ft_4_2 t0
  refine r_iconst (pc := 33) C (0 : Int32) dX4_giveTo_33 (by decide) ?_
  refine r_aload_n (pc := 34) C dX4_giveTo_34 rfl (lv_at hl 1 rfl) ?_
  refine gf_X4_35 (pc := 35) C t1 dX4_giveTo_35 ?_
  have t28 := ft_2_3 t1
  refine r_iconst (pc := 38) C (0 : Int32) dX4_giveTo_38 (by decide) ?_
  refine r_bipush (pc := 39) C (12 : Int32) dX4_giveTo_39 (by decide) ?_
  refine r_cpyJ (rest := []) (pc := 41) C t27 t28 hl.1 wd_128 wd_31 wd_32 wd_33 (Nat.le_of_ble_eq_true rfl) (by decide) dX4_giveTo_41 (fun S29 => ?_)
  refine r_aload_n (pc := 44) C dX4_giveTo_44 rfl (lv_at hl 0 rfl) ?_
  refine gf_X4_22 (pc := 45) C t0 dX4_giveTo_45 ?_
  have t30 := ft_4_3 t0
  refine r_iconst (pc := 48) C (0 : Int32) dX4_giveTo_48 (by decide) ?_
  refine r_aload_n (pc := 49) C dX4_giveTo_49 rfl (lv_at hl 2 rfl) ?_
  refine gf_X4_36 (pc := 50) C t2 dX4_giveTo_50 ?_
  have t31 := ft_0_3 t2
  refine r_iconst (pc := 53) C (0 : Int32) dX4_giveTo_53 (by decide) ?_
  refine r_bipush (pc := 54) C (12 : Int32) dX4_giveTo_54 (by decide) ?_
  refine r_cpyI (rest := []) (pc := 56) C t30 t31 hl.1 wd_128 wd_31 wd_32 wd_33 (Nat.le_of_ble_eq_true rfl) (by decide) dX4_giveTo_56 (fun S32 => ?_)
  refine r_aload_n (pc := 59) C dX4_giveTo_59 rfl (lv_at hl 2 rfl) ?_
  refine r_aload_n (pc := 60) C dX4_giveTo_60 rfl (lv_at hl 0 rfl) ?_
  refine gf_X4_43 (pc := 61) C t0 dX4_giveTo_61 ?_
  refine pf_X4_39 (pc := 64) C t2 dX4_giveTo_64 (fun S33 => ?_)
  refine r_aload_n (pc := 67) C dX4_giveTo_67 rfl (lv_at hl 2 rfl) ?_
  refine r_aload_n (pc := 68) C dX4_giveTo_68 rfl (lv_at hl 0 rfl) ?_
  refine gf_X4_48 (pc := 69) C t0 dX4_giveTo_69 ?_
  refine pf_X4_44 (pc := 72) C t2 dX4_giveTo_72 (fun S34 => ?_)
  exact r_vret (pc := 75) C hr hk dX4_giveTo_75

theorem ct_X4_giveTo (l : Launch) {D : va_G} {cy : Nat → ClassId} {base tS : Nat} {S : St} {k0 : Nat} {k1 : Nat} {k2 : Nat} (t0 : cls k0 = 4) (t1 : cls k1 = 2) (t2 : cls k2 = 0) {S1 : St} {r1 : Unit} (h : X4_giveTo S k0 k1 k2 = some (S1, r1)) : Met l yX4_giveTo (wsY yX4_giveTo cX4_giveTo 3 none) rm_X4_giveTo (va_Pc [.ref (base + k0), .ref (base + k1), .ref (base + k2)] (World D cy base tS S)) (QcV D cy base tS S1 r1) 0 0 (AA base) := conV rfl rfl (by decide) (Nat.le_of_ble_eq_true rfl) (fun p e s m args below meth c ls C hr hk hl => sm_X4_giveTo C hr hk t0 t1 t2 hl) h
theorem cv_X3_35 {p : Program} {l : Launch} {e : Env} {R : Room} {s : State} {m : MethodId} {args : Array Value} {below : List Frame} {meth : Method} {c : Code} {D : va_G} {cy : Nat → ClassId} {base tS nc ns : Nat} {cc : ByteArray} {nL pc : Nat} {ls : Array Slot} {rest : List Value} {S : St} {ρ : Type} {Q : St → ρ → State → Prop} (C : Cx p R s m args c RX3 cc nL D cy base tS nc ns) {k0 : Nat} {k1 : Nat} {k2 : Nat} (t0 : cls k0 = 4) (t1 : cls k1 = 2) (t2 : cls k2 = 0) (hl : ls.size = nL) (hR : rm_X4_giveTo.frames + 1 ≤ R.frames ∧ 8 + (3 + 11) + rm_X4_giveTo.locals ≤ R.locals) {b : St → Unit → Option (St × ρ)} (hroom : (rest.map fun v => v.category).sum ≤ 8) (hd : decode cc pc = .ok (.invokevirtual 35, 3)) (kk : ∀ (S1 : St) (r : Unit), Sim p l e R s m args below meth c D cy base nc ns Q (b S1 r) S1 (F0 m (pc + 3) ls (rest))) : Sim p l e R s m args below meth c D cy base nc ns Q (bd (X4_giveTo S k0 k1 k2) b) S (F0 m pc ls (.ref (base + k2) :: .ref (base + k1) :: .ref (base + k0) :: rest)) := r_callVV (n := 2) (As := [.ref (base + k1), .ref (base + k2)]) C hl (rd_4 t0) (cls_lt t0 (by decide)) rfl (fun S1 r1 h => ct_X4_giveTo l t0 t1 t2 h) wd_487 wd_488 wd_489 wd_254 wd_490 rfl rfl (by decide +kernel) hR rfl rfl hroom hd kk
abbrev rm_X3_goBack : Room := { frames := 2, cells := 0, slots := 0, locals := 52 }
set_option maxHeartbeats 4000000 in
set_option maxRecDepth 100000 in
theorem sm_X3_goBack {p : Program} {l : Launch} {e : Env} {s : State} {m : MethodId} {args : Array Value} {below : List Frame} {meth : Method} {c : Code} {D : va_G} {cy : Nat → ClassId} {base tS : Nat} {S : St} {k0 : Nat} {k1 : Nat} {k2 : Nat} {ls : Array Slot} (C : Cx p rm_X3_goBack s m args c RX3 cX3_goBack 3 D cy base tS 0 0) (hr : meth.sig.returnType = none) (hk : meth.locks = false) (t0 : cls k0 = 3) (t1 : cls k1 = 2) (t2 : cls k2 = 0) (hl : lv_has ls 3 [(0, .ref (base + k0)), (1, .ref (base + k1)), (2, .ref (base + k2))]) : Sim p l e rm_X3_goBack s m args below meth c D cy base 0 0 (fun S1 r => MQ below (QcV D cy base tS S1 r) args s 0 0 (AA base)) (X3_goBack S k0 k1 k2) S (F0 m 0 ls []) := by
  unfold X3_goBack
  refine r_aload_n (pc := 0) C dX3_goBack_0 rfl (lv_at hl 0 rfl) ?_
  refine gf_X3_22 (pc := 1) C t0 dX3_goBack_1 ?_
  refine r_if_le (pc := 4) C (tgt := 47) dX3_goBack_4 (by decide) (fun _ => ?_) (fun _ => ?_)
  · exact r_vret (pc := 47) C hr hk dX3_goBack_47
  · refine r_aload_n (pc := 7) C dX3_goBack_7 rfl (lv_at hl 0 rfl) ?_
    refine r_aload_n (pc := 8) C dX3_goBack_8 rfl (lv_at hl 0 rfl) ?_
    refine gf_X3_18 (pc := 9) C t0 dX3_goBack_9 ?_
    refine r_bipush (pc := 12) C (20 : Int32) dX3_goBack_12 (by decide) ?_
    refine r_iadd (pc := 14) C dX3_goBack_14 ?_
    refine r_iconst (pc := 15) C (1 : Int32) dX3_goBack_15 (by decide) ?_
    refine r_isub (pc := 16) C dX3_goBack_16 ?_
    refine r_bipush (pc := 17) C (20 : Int32) dX3_goBack_17 (by decide) ?_
    refine r_irem (pc := 19) C dX3_goBack_19 (fun _ => ?_)
    refine pf_X3_18 (pc := 20) C t0 dX3_goBack_20 (fun S21 => ?_)
    refine r_aload_n (pc := 23) C dX3_goBack_23 rfl (lv_at hl 0 rfl) ?_
    refine r_dup (pc := 24) C dX3_goBack_24 rfl ?_
    refine gf_X3_22 (pc := 25) C t0 dX3_goBack_25 ?_
    refine r_iconst (pc := 28) C (1 : Int32) dX3_goBack_28 (by decide) ?_
    refine r_isub (pc := 29) C dX3_goBack_29 ?_
    refine pf_X3_22 (pc := 30) C t0 dX3_goBack_30 (fun S22 => ?_)
    refine r_aload_n (pc := 33) C dX3_goBack_33 rfl (lv_at hl 0 rfl) ?_
    refine gf_X3_11 (pc := 34) C t0 dX3_goBack_34 ?_
    have t23 := ft_3_0 t0
    refine r_aload_n (pc := 37) C dX3_goBack_37 rfl (lv_at hl 0 rfl) ?_
    refine gf_X3_18 (pc := 38) C t0 dX3_goBack_38 ?_
    refine r_aald15 (pc := 41) C t23 dX3_goBack_41 (fun b25 => ?_)
    have t24 := et_15_20 t23 b25
    refine r_aload_n (pc := 42) C dX3_goBack_42 rfl (lv_at hl 1 rfl) ?_
    refine r_aload_n (pc := 43) C dX3_goBack_43 rfl (lv_at hl 2 rfl) ?_
    refine cv_X3_35 (pc := 44) C t24 t1 t2 hl.1 ⟨Nat.le_of_ble_eq_true rfl, Nat.le_of_ble_eq_true rfl⟩ (Nat.le_of_ble_eq_true rfl) dX3_goBack_44 (fun S26 _ => ?_)
    exact r_vret (pc := 47) C hr hk dX3_goBack_47

theorem ct_X3_goBack (l : Launch) {D : va_G} {cy : Nat → ClassId} {base tS : Nat} {S : St} {k0 : Nat} {k1 : Nat} {k2 : Nat} (t0 : cls k0 = 3) (t1 : cls k1 = 2) (t2 : cls k2 = 0) {S1 : St} {r1 : Unit} (h : X3_goBack S k0 k1 k2 = some (S1, r1)) : Met l yX3_goBack (wsY yX3_goBack cX3_goBack 3 none) rm_X3_goBack (va_Pc [.ref (base + k0), .ref (base + k1), .ref (base + k2)] (World D cy base tS S)) (QcV D cy base tS S1 r1) 0 0 (AA base) := conV rfl rfl (by decide) (Nat.le_of_ble_eq_true rfl) (fun p e s m args below meth c ls C hr hk hl => sm_X3_goBack C hr hk t0 t1 t2 hl) h
theorem cv_X10_310 {p : Program} {l : Launch} {e : Env} {R : Room} {s : State} {m : MethodId} {args : Array Value} {below : List Frame} {meth : Method} {c : Code} {D : va_G} {cy : Nat → ClassId} {base tS nc ns : Nat} {cc : ByteArray} {nL pc : Nat} {ls : Array Slot} {rest : List Value} {S : St} {ρ : Type} {Q : St → ρ → State → Prop} (C : Cx p R s m args c RX10 cc nL D cy base tS nc ns) {k0 : Nat} {k1 : Nat} {k2 : Nat} (t0 : cls k0 = 3) (t1 : cls k1 = 2) (t2 : cls k2 = 0) (hl : ls.size = nL) (hR : rm_X3_goBack.frames + 1 ≤ R.frames ∧ 8 + (3 + 11) + rm_X3_goBack.locals ≤ R.locals) {b : St → Unit → Option (St × ρ)} (hroom : (rest.map fun v => v.category).sum ≤ 8) (hd : decode cc pc = .ok (.invokevirtual 310, 3)) (kk : ∀ (S1 : St) (r : Unit), Sim p l e R s m args below meth c D cy base nc ns Q (b S1 r) S1 (F0 m (pc + 3) ls (rest))) : Sim p l e R s m args below meth c D cy base nc ns Q (bd (X3_goBack S k0 k1 k2) b) S (F0 m pc ls (.ref (base + k2) :: .ref (base + k1) :: .ref (base + k0) :: rest)) := r_callVV (n := 2) (As := [.ref (base + k1), .ref (base + k2)]) C hl (rd_3 t0) (cls_lt t0 (by decide)) rfl (fun S1 r1 h => ct_X3_goBack l t0 t1 t2 h) wd_491 wd_492 wd_493 wd_236 wd_494 rfl rfl (by decide +kernel) hR rfl rfl hroom hd kk
abbrev rm_X10_undo : Room := { frames := 3, cells := 0, slots := 0, locals := 74 }
set_option maxHeartbeats 4000000 in
set_option maxRecDepth 100000 in
theorem sm_X10_undo {p : Program} {l : Launch} {e : Env} {s : State} {m : MethodId} {args : Array Value} {below : List Frame} {meth : Method} {c : Code} {D : va_G} {cy : Nat → ClassId} {base tS : Nat} {S : St} {k0 : Nat} {ls : Array Slot} (C : Cx p rm_X10_undo s m args c RX10 cX10_undo 1 D cy base tS 0 0) (hr : meth.sig.returnType = (some .int)) (hk : meth.locks = false) (t0 : cls k0 = 10) (hl : lv_has ls 1 [(0, .ref (base + k0))]) : Sim p l e rm_X10_undo s m args below meth c D cy base 0 0 (fun S1 r => MQ below (QcI D cy base tS S1 r) args s 0 0 (AA base)) (X10_undo S k0) S (F0 m 0 ls []) := by
  unfold X10_undo
  refine r_aload_n (pc := 0) C dX10_undo_0 rfl (lv_at hl 0 rfl) ?_
  refine gf_X10_40 (pc := 1) C t0 dX10_undo_1 ?_
  have t21 := ft_10_4 t0
  refine gf_X10_309 (pc := 4) C t21 dX10_undo_4 ?_
  refine r_if_ne (pc := 7) C (tgt := 17) dX10_undo_7 (by decide) (fun _ => ?_) (fun _ => ?_)
  · refine r_aload_n (pc := 17) C dX10_undo_17 rfl (lv_at hl 0 rfl) ?_
    refine gf_X10_40 (pc := 18) C t0 dX10_undo_18 ?_
    have t22 := ft_10_4 t0
    refine r_aload_n (pc := 21) C dX10_undo_21 rfl (lv_at hl 0 rfl) ?_
    refine gf_X10_21 (pc := 22) C t0 dX10_undo_22 ?_
    have t23 := ft_10_1 t0
    refine r_aload_n (pc := 25) C dX10_undo_25 rfl (lv_at hl 0 rfl) ?_
    refine gf_X10_33 (pc := 26) C t0 dX10_undo_26 ?_
    have t24 := ft_10_3 t0
    refine cv_X10_310 (pc := 29) C t22 t23 t24 hl.1 ⟨Nat.le_of_ble_eq_true rfl, Nat.le_of_ble_eq_true rfl⟩ (Nat.le_of_ble_eq_true rfl) dX10_undo_29 (fun S25 _ => ?_)
    refine r_aload_n (pc := 32) C dX10_undo_32 rfl (lv_at hl 0 rfl) ?_
    refine gf_X10_40 (pc := 33) C t0 dX10_undo_33 ?_
    have t26 := ft_10_4 t0
    refine gf_X10_309 (pc := 36) C t26 dX10_undo_36 ?_
    exact r_iret (pc := 39) C hr hk dX10_undo_39
  · refine r_aload_n (pc := 10) C dX10_undo_10 rfl (lv_at hl 0 rfl) ?_
    refine r_bipush (pc := 11) C (-11 : Int32) dX10_undo_11 (by decide) ?_
    refine cv_X10_96 (pc := 13) C t0 hl.1 ⟨Nat.le_of_ble_eq_true rfl, Nat.le_of_ble_eq_true rfl⟩ (Nat.le_of_ble_eq_true rfl) dX10_undo_13 (fun S27 v28 => ?_)
    exact r_iret (pc := 16) C hr hk dX10_undo_16

theorem ct_X10_undo (l : Launch) {D : va_G} {cy : Nat → ClassId} {base tS : Nat} {S : St} {k0 : Nat} (t0 : cls k0 = 10) {S1 : St} {r1 : Int32} (h : X10_undo S k0 = some (S1, r1)) : Met l yX10_undo (wsY yX10_undo cX10_undo 1 (some .int)) rm_X10_undo (va_Pc [.ref (base + k0)] (World D cy base tS S)) (QcI D cy base tS S1 r1) 0 0 (AA base) := conI rfl rfl (by decide) (Nat.le_of_ble_eq_true rfl) (fun p e s m args below meth c ls C hr hk hl => sm_X10_undo C hr hk t0 hl) h
abbrev rm_X10_told : Room := { frames := 3, cells := 0, slots := 0, locals := 63 }
set_option maxHeartbeats 4000000 in
set_option maxRecDepth 100000 in
theorem sm_X10_told {p : Program} {l : Launch} {e : Env} {s : State} {m : MethodId} {args : Array Value} {below : List Frame} {meth : Method} {c : Code} {D : va_G} {cy : Nat → ClassId} {base tS : Nat} {S : St} {k0 : Nat} {v1 : Int32} {ls : Array Slot} (C : Cx p rm_X10_told s m args c RX10 cX10_told 2 D cy base tS 0 0) (hr : meth.sig.returnType = (some .int)) (hk : meth.locks = false) (t0 : cls k0 = 10) (hl : lv_has ls 2 [(0, .ref (base + k0)), (1, .int v1)]) : Sim p l e rm_X10_told s m args below meth c D cy base 0 0 (fun S1 r => MQ below (QcI D cy base tS S1 r) args s 0 0 (AA base)) (X10_told S k0 v1) S (F0 m 0 ls []) := by
  unfold X10_told
  refine r_iload_n (pc := 0) C dX10_told_0 rfl (lv_at hl 1 rfl) ?_
  refine r_ite (fun h21 => ?_) (fun h21 => ?_)
  · refine r_tblIn (pc := 1) C (tgt := 52) (0 : Int32) h21 dX10_told_1 (by decide) (by decide) rfl (by decide) ?_
    refine r_aload_n (pc := 52) C dX10_told_52 rfl (lv_at hl 0 rfl) ?_
    refine gf_X10_126 (pc := 53) C t0 dX10_told_53 ?_
    exact r_iret (pc := 56) C hr hk dX10_told_56
  refine r_ite (fun h23 => ?_) (fun h23 => ?_)
  · refine r_tblIn (pc := 1) C (tgt := 57) (1 : Int32) h23 dX10_told_1 (by decide) (by decide) rfl (by decide) ?_
    refine r_aload_n (pc := 57) C dX10_told_57 rfl (lv_at hl 0 rfl) ?_
    refine gf_X10_10 (pc := 58) C t0 dX10_told_58 ?_
    have t22 := ft_10_0 t0
    refine gf_X10_100 (pc := 61) C t22 dX10_told_61 ?_
    exact r_iret (pc := 64) C hr hk dX10_told_64
  refine r_ite (fun h24 => ?_) (fun h24 => ?_)
  · refine r_tblIn (pc := 1) C (tgt := 65) (2 : Int32) h24 dX10_told_1 (by decide) (by decide) rfl (by decide) ?_
    refine r_aload_n (pc := 65) C dX10_told_65 rfl (lv_at hl 0 rfl) ?_
    refine gf_X10_92 (pc := 66) C t0 dX10_told_66 ?_
    refine r_if_eq (pc := 69) C (tgt := 76) dX10_told_69 (by decide) (fun _ => ?_) (fun _ => ?_)
    · refine r_iconst (pc := 76) C (0 : Int32) dX10_told_76 (by decide) ?_
      exact r_iret (pc := 77) C hr hk dX10_told_77
    · refine r_iconst (pc := 72) C (1 : Int32) dX10_told_72 (by decide) ?_
      refine r_goto (pc := 73) C (tgt := 77) dX10_told_73 (by decide) ?_
      exact r_iret (pc := 77) C hr hk dX10_told_77
  refine r_ite (fun h30 => ?_) (fun h30 => ?_)
  · refine r_tblIn (pc := 1) C (tgt := 78) (3 : Int32) h30 dX10_told_1 (by decide) (by decide) rfl (by decide) ?_
    refine r_aload_n (pc := 78) C dX10_told_78 rfl (lv_at hl 0 rfl) ?_
    refine gf_X10_92 (pc := 79) C t0 dX10_told_79 ?_
    refine r_join (fun (j : St → Option (St × Int32)) => ∀ (S26 : St)  (ls : Array Slot), lv_has ls 2 [] → Sim p l e rm_X10_told s m args below meth c D cy base 0 0 (fun S1 r => MQ below (QcI D cy base tS S1 r) args s 0 0 (AA base)) (j S26) S26 (F0 m 99 ls [])) ?_ (fun j25 hj25 => ?_)
    · intro S26 ls hl
      refine r_iconst (pc := 99) C (0 : Int32) dX10_told_99 (by decide) ?_
      exact r_iret (pc := 100) C hr hk dX10_told_100
    refine r_if_eq (pc := 82) C (tgt := 99) dX10_told_82 (by decide) (fun _ => ?_) (fun _ => ?_)
    · exact hj25 S  _ (lv_sub hl [] rfl)
    · refine r_aload_n (pc := 85) C dX10_told_85 rfl (lv_at hl 0 rfl) ?_
      refine gf_X10_21 (pc := 86) C t0 dX10_told_86 ?_
      have t27 := ft_10_1 t0
      refine cv_X10_194 (pc := 89) C t27 hl.1 ⟨Nat.le_of_ble_eq_true rfl, Nat.le_of_ble_eq_true rfl⟩ (Nat.le_of_ble_eq_true rfl) dX10_told_89 (fun S28 v29 => ?_)
      refine r_if_eq (pc := 92) C (tgt := 99) dX10_told_92 (by decide) (fun _ => ?_) (fun _ => ?_)
      · exact hj25 S28  _ (lv_sub hl [] rfl)
      · refine r_iconst (pc := 95) C (1 : Int32) dX10_told_95 (by decide) ?_
        refine r_goto (pc := 96) C (tgt := 100) dX10_told_96 (by decide) ?_
        exact r_iret (pc := 100) C hr hk dX10_told_100
  refine r_ite (fun h34 => ?_) (fun h34 => ?_)
  · refine r_tblIn (pc := 1) C (tgt := 101) (4 : Int32) h34 dX10_told_1 (by decide) (by decide) rfl (by decide) ?_
    refine r_aload_n (pc := 101) C dX10_told_101 rfl (lv_at hl 0 rfl) ?_
    refine gf_X10_21 (pc := 102) C t0 dX10_told_102 ?_
    have t31 := ft_10_1 t0
    refine cv_X10_228 (pc := 105) C t31 hl.1 ⟨Nat.le_of_ble_eq_true rfl, Nat.le_of_ble_eq_true rfl⟩ (Nat.le_of_ble_eq_true rfl) dX10_told_105 (fun S32 v33 => ?_)
    exact r_iret (pc := 108) C hr hk dX10_told_108
  refine r_ite (fun h36 => ?_) (fun h36 => ?_)
  · refine r_tblIn (pc := 1) C (tgt := 109) (5 : Int32) h36 dX10_told_1 (by decide) (by decide) rfl (by decide) ?_
    refine r_aload_n (pc := 109) C dX10_told_109 rfl (lv_at hl 0 rfl) ?_
    refine gf_X10_84 (pc := 110) C t0 dX10_told_110 ?_
    have t35 := ft_10_11 t0
    refine gf_X10_299 (pc := 113) C t35 dX10_told_113 ?_
    exact r_iret (pc := 116) C hr hk dX10_told_116
  refine r_ite (fun h38 => ?_) (fun h38 => ?_)
  · refine r_tblIn (pc := 1) C (tgt := 117) (6 : Int32) h38 dX10_told_1 (by decide) (by decide) rfl (by decide) ?_
    refine r_aload_n (pc := 117) C dX10_told_117 rfl (lv_at hl 0 rfl) ?_
    refine gf_X10_33 (pc := 118) C t0 dX10_told_118 ?_
    have t37 := ft_10_3 t0
    refine gf_X10_180 (pc := 121) C t37 dX10_told_121 ?_
    refine r_l2i (pc := 124) C dX10_told_124 ?_
    exact r_iret (pc := 125) C hr hk dX10_told_125
  refine r_ite (fun h40 => ?_) (fun h40 => ?_)
  · refine r_tblIn (pc := 1) C (tgt := 126) (7 : Int32) h40 dX10_told_1 (by decide) (by decide) rfl (by decide) ?_
    refine r_aload_n (pc := 126) C dX10_told_126 rfl (lv_at hl 0 rfl) ?_
    refine gf_X10_54 (pc := 127) C t0 dX10_told_127 ?_
    have t39 := ft_10_6 t0
    refine gf_X10_251 (pc := 130) C t39 dX10_told_130 ?_
    exact r_iret (pc := 133) C hr hk dX10_told_133
  refine r_ite (fun h41 => ?_) (fun h41 => ?_)
  · refine r_tblIn (pc := 1) C (tgt := 134) (8 : Int32) h41 dX10_told_1 (by decide) (by decide) rfl (by decide) ?_
    refine r_aload_n (pc := 134) C dX10_told_134 rfl (lv_at hl 0 rfl) ?_
    refine gf_X10_313 (pc := 135) C t0 dX10_told_135 ?_
    exact r_iret (pc := 138) C hr hk dX10_told_138
  refine r_tblOut (pc := 1) C (tgt := 139) dX10_told_1 (by have g0 : ¬ (v1).toInt = 0 := i32ne h21; have g1 : ¬ (v1).toInt = 1 := i32ne h23; have g2 : ¬ (v1).toInt = 2 := i32ne h24; have g3 : ¬ (v1).toInt = 3 := i32ne h30; have g4 : ¬ (v1).toInt = 4 := i32ne h34; have g5 : ¬ (v1).toInt = 5 := i32ne h36; have g6 : ¬ (v1).toInt = 6 := i32ne h38; have g7 : ¬ (v1).toInt = 7 := i32ne h40; have g8 : ¬ (v1).toInt = 8 := i32ne h41; omega) (by decide) ?_
  refine r_aload_n (pc := 139) C dX10_told_139 rfl (lv_at hl 0 rfl) ?_
  refine r_iconst (pc := 140) C (-1 : Int32) dX10_told_140 (by decide) ?_
  refine cv_X10_96 (pc := 141) C t0 hl.1 ⟨Nat.le_of_ble_eq_true rfl, Nat.le_of_ble_eq_true rfl⟩ (Nat.le_of_ble_eq_true rfl) dX10_told_141 (fun S42 v43 => ?_)
  exact r_iret (pc := 144) C hr hk dX10_told_144

theorem ct_X10_told (l : Launch) {D : va_G} {cy : Nat → ClassId} {base tS : Nat} {S : St} {k0 : Nat} {v1 : Int32} (t0 : cls k0 = 10) {S1 : St} {r1 : Int32} (h : X10_told S k0 v1 = some (S1, r1)) : Met l yX10_told (wsY yX10_told cX10_told 2 (some .int)) rm_X10_told (va_Pc [.ref (base + k0), .int v1] (World D cy base tS S)) (QcI D cy base tS S1 r1) 0 0 (AA base) := conI rfl rfl (by decide) (Nat.le_of_ble_eq_true rfl) (fun p e s m args below meth c ls C hr hk hl => sm_X10_told C hr hk t0 hl) h
abbrev rm_X11_in : Room := { frames := 0, cells := 0, slots := 0, locals := 0 }
set_option maxHeartbeats 4000000 in
set_option maxRecDepth 100000 in
theorem sm_X11_in {p : Program} {l : Launch} {e : Env} {s : State} {m : MethodId} {args : Array Value} {below : List Frame} {meth : Method} {c : Code} {D : va_G} {cy : Nat → ClassId} {base tS : Nat} {S : St} {v0 : Int32} {v1 : Int32} {v2 : Int32} {ls : Array Slot} (C : Cx p rm_X11_in s m args c RX11 cX11_in 3 D cy base tS 0 0) (hr : meth.sig.returnType = (some .boolean)) (hk : meth.locks = false)  (hl : lv_has ls 3 [(0, .int v0), (1, .int v1), (2, .int v2)]) : Sim p l e rm_X11_in s m args below meth c D cy base 0 0 (fun S1 r => MQ below (QcI D cy base tS S1 r) args s 0 0 (AA base)) (X11_in S v0 v1 v2) S (F0 m 0 ls []) := by
  unfold X11_in
  refine r_iload_n (pc := 0) C dX11_in_0 rfl (lv_at hl 0 rfl) ?_
  refine r_iload_n (pc := 1) C dX11_in_1 rfl (lv_at hl 1 rfl) ?_
  refine r_join (fun (j : St → Option (St × Int32)) => ∀ (S22 : St)  (ls : Array Slot), lv_has ls 3 [] → Sim p l e rm_X11_in s m args below meth c D cy base 0 0 (fun S1 r => MQ below (QcI D cy base tS S1 r) args s 0 0 (AA base)) (j S22) S22 (F0 m 14 ls [])) ?_ (fun j21 hj21 => ?_)
  · intro S22 ls hl
    refine r_iconst (pc := 14) C (0 : Int32) dX11_in_14 (by decide) ?_
    exact r_zret (pc := 15) C rfl hr hk dX11_in_15
  refine r_icmp_lt (pc := 2) C (tgt := 14) dX11_in_2 (by decide) (fun _ => ?_) (fun _ => ?_)
  · exact hj21 S  _ (lv_sub hl [] rfl)
  · refine r_iload_n (pc := 5) C dX11_in_5 rfl (lv_at hl 0 rfl) ?_
    refine r_iload_n (pc := 6) C dX11_in_6 rfl (lv_at hl 2 rfl) ?_
    refine r_icmp_gt (pc := 7) C (tgt := 14) dX11_in_7 (by decide) (fun _ => ?_) (fun _ => ?_)
    · exact hj21 S  _ (lv_sub hl [] rfl)
    · refine r_iconst (pc := 10) C (1 : Int32) dX11_in_10 (by decide) ?_
      refine r_goto (pc := 11) C (tgt := 15) dX11_in_11 (by decide) ?_
      exact r_zret (pc := 15) C rfl hr hk dX11_in_15

theorem ct_X11_in (l : Launch) {D : va_G} {cy : Nat → ClassId} {base tS : Nat} {S : St} {v0 : Int32} {v1 : Int32} {v2 : Int32}  {S1 : St} {r1 : Int32} (h : X11_in S v0 v1 v2 = some (S1, r1)) : Met l yX11_in (wsY yX11_in cX11_in 3 (some .boolean)) rm_X11_in (va_Pc [.int v0, .int v1, .int v2] (World D cy base tS S)) (QcI D cy base tS S1 r1) 0 0 (AA base) := conI rfl rfl (by decide) (Nat.le_of_ble_eq_true rfl) (fun p e s m args below meth c ls C hr hk hl => sm_X11_in C hr hk  hl) h
theorem cv_X11_98 {p : Program} {l : Launch} {e : Env} {R : Room} {s : State} {m : MethodId} {args : Array Value} {below : List Frame} {meth : Method} {c : Code} {D : va_G} {cy : Nat → ClassId} {base tS nc ns : Nat} {cc : ByteArray} {nL pc : Nat} {ls : Array Slot} {rest : List Value} {S : St} {ρ : Type} {Q : St → ρ → State → Prop} (C : Cx p R s m args c RX11 cc nL D cy base tS nc ns) {v0 : Int32} {v1 : Int32} {v2 : Int32}  (hl : ls.size = nL) (hR : rm_X11_in.frames + 1 ≤ R.frames ∧ 8 + (3 + 11) + rm_X11_in.locals ≤ R.locals) {b : St → Int32 → Option (St × ρ)} (hroom : (rest.map fun v => v.category).sum ≤ 8) (hd : decode cc pc = .ok (.invokestatic 98, 3)) (kk : ∀ (S1 : St) (r : Int32), Sim p l e R s m args below meth c D cy base nc ns Q (b S1 r) S1 (F0 m (pc + 3) ls (.int r :: rest))) : Sim p l e R s m args below meth c D cy base nc ns Q (bd (X11_in S v0 v1 v2) b) S (F0 m pc ls (.int v2 :: .int v1 :: .int v0 :: rest)) := r_callSI (n := 3) (As := [.int v0, .int v1, .int v2]) C hl (fun S1 r1 h => ct_X11_in l  h) wd_495 wd_496 wd_497 wd_498 rfl rfl (by decide +kernel) hR rfl rfl hroom hd kk
abbrev rm_X11_found : Room := { frames := 0, cells := 0, slots := 0, locals := 0 }
set_option maxHeartbeats 4000000 in
set_option maxRecDepth 100000 in
theorem sm_X11_found {p : Program} {l : Launch} {e : Env} {s : State} {m : MethodId} {args : Array Value} {below : List Frame} {meth : Method} {c : Code} {D : va_G} {cy : Nat → ClassId} {base tS : Nat} {S : St} {k0 : Nat} {v1 : Int32} {ls : Array Slot} (C : Cx p rm_X11_found s m args c RX11 cX11_found 2 D cy base tS 0 0) (hr : meth.sig.returnType = (some .int)) (hk : meth.locks = false) (t0 : cls k0 = 11) (hl : lv_has ls 2 [(0, .ref (base + k0)), (1, .int v1)]) : Sim p l e rm_X11_found s m args below meth c D cy base 0 0 (fun S1 r => MQ below (QcI D cy base tS S1 r) args s 0 0 (AA base)) (X11_found S k0 v1) S (F0 m 0 ls []) := by
  unfold X11_found
  refine r_aload_n (pc := 0) C dX11_found_0 rfl (lv_at hl 0 rfl) ?_
  refine r_dup (pc := 1) C dX11_found_1 rfl ?_
  refine gf_X11_91 (pc := 2) C t0 dX11_found_2 ?_
  refine r_iconst (pc := 5) C (1 : Int32) dX11_found_5 (by decide) ?_
  refine r_iadd (pc := 6) C dX11_found_6 ?_
  refine pf_X11_91 (pc := 7) C t0 dX11_found_7 (fun S21 => ?_)
  refine r_iload_n (pc := 10) C dX11_found_10 rfl (lv_at hl 1 rfl) ?_
  exact r_iret (pc := 11) C hr hk dX11_found_11

theorem ct_X11_found (l : Launch) {D : va_G} {cy : Nat → ClassId} {base tS : Nat} {S : St} {k0 : Nat} {v1 : Int32} (t0 : cls k0 = 11) {S1 : St} {r1 : Int32} (h : X11_found S k0 v1 = some (S1, r1)) : Met l yX11_found (wsY yX11_found cX11_found 2 (some .int)) rm_X11_found (va_Pc [.ref (base + k0), .int v1] (World D cy base tS S)) (QcI D cy base tS S1 r1) 0 0 (AA base) := conI rfl rfl (by decide) (Nat.le_of_ble_eq_true rfl) (fun p e s m args below meth c ls C hr hk hl => sm_X11_found C hr hk t0 hl) h
theorem cv_X11_118 {p : Program} {l : Launch} {e : Env} {R : Room} {s : State} {m : MethodId} {args : Array Value} {below : List Frame} {meth : Method} {c : Code} {D : va_G} {cy : Nat → ClassId} {base tS nc ns : Nat} {cc : ByteArray} {nL pc : Nat} {ls : Array Slot} {rest : List Value} {S : St} {ρ : Type} {Q : St → ρ → State → Prop} (C : Cx p R s m args c RX11 cc nL D cy base tS nc ns) {k0 : Nat} {v1 : Int32} (t0 : cls k0 = 11) (hl : ls.size = nL) (hR : rm_X11_found.frames + 1 ≤ R.frames ∧ 8 + (2 + 11) + rm_X11_found.locals ≤ R.locals) {b : St → Int32 → Option (St × ρ)} (hroom : (rest.map fun v => v.category).sum ≤ 8) (hd : decode cc pc = .ok (.invokevirtual 118, 3)) (kk : ∀ (S1 : St) (r : Int32), Sim p l e R s m args below meth c D cy base nc ns Q (b S1 r) S1 (F0 m (pc + 3) ls (.int r :: rest))) : Sim p l e R s m args below meth c D cy base nc ns Q (bd (X11_found S k0 v1) b) S (F0 m pc ls (.int v1 :: .ref (base + k0) :: rest)) := r_callVI (n := 1) (As := [.int v1]) C hl (rd_11 t0) (cls_lt t0 (by decide)) rfl (fun S1 r1 h => ct_X11_found l t0 h) wd_499 wd_500 wd_501 wd_497 wd_502 rfl rfl (by decide +kernel) hR rfl rfl hroom hd kk
abbrev rm_X11_isPlace : Room := { frames := 1, cells := 0, slots := 0, locals := 22 }
set_option maxHeartbeats 4000000 in
set_option maxRecDepth 100000 in
theorem sm_X11_isPlace {p : Program} {l : Launch} {e : Env} {s : State} {m : MethodId} {args : Array Value} {below : List Frame} {meth : Method} {c : Code} {D : va_G} {cy : Nat → ClassId} {base tS : Nat} {S : St} {k0 : Nat} {v1 : Int32} {ls : Array Slot} (C : Cx p rm_X11_isPlace s m args c RX11 cX11_isPlace 2 D cy base tS 0 0) (hr : meth.sig.returnType = (some .boolean)) (hk : meth.locks = false) (t0 : cls k0 = 11) (hl : lv_has ls 2 [(0, .ref (base + k0)), (1, .int v1)]) : Sim p l e rm_X11_isPlace s m args below meth c D cy base 0 0 (fun S1 r => MQ below (QcI D cy base tS S1 r) args s 0 0 (AA base)) (X11_isPlace S k0 v1) S (F0 m 0 ls []) := by
  unfold X11_isPlace
  refine r_iload_n (pc := 0) C dX11_isPlace_0 rfl (lv_at hl 1 rfl) ?_
  refine r_iconst (pc := 1) C (0 : Int32) dX11_isPlace_1 (by decide) ?_
  refine r_aload_n (pc := 2) C dX11_isPlace_2 rfl (lv_at hl 0 rfl) ?_
  refine gf_X11_95 (pc := 3) C t0 dX11_isPlace_3 ?_
  refine r_iconst (pc := 6) C (1 : Int32) dX11_isPlace_6 (by decide) ?_
  refine r_isub (pc := 7) C dX11_isPlace_7 ?_
  refine cv_X11_98 (pc := 8) C  hl.1 ⟨Nat.le_of_ble_eq_true rfl, Nat.le_of_ble_eq_true rfl⟩ (Nat.le_of_ble_eq_true rfl) dX11_isPlace_8 (fun S21 v22 => ?_)
  exact r_zretG (pc := 11) C hr hk dX11_isPlace_11

theorem ct_X11_isPlace (l : Launch) {D : va_G} {cy : Nat → ClassId} {base tS : Nat} {S : St} {k0 : Nat} {v1 : Int32} (t0 : cls k0 = 11) {S1 : St} {r1 : Int32} (h : X11_isPlace S k0 v1 = some (S1, r1)) : Met l yX11_isPlace (wsY yX11_isPlace cX11_isPlace 2 (some .boolean)) rm_X11_isPlace (va_Pc [.ref (base + k0), .int v1] (World D cy base tS S)) (QcI D cy base tS S1 r1) 0 0 (AA base) := conI rfl rfl (by decide) (Nat.le_of_ble_eq_true rfl) (fun p e s m args below meth c ls C hr hk hl => sm_X11_isPlace C hr hk t0 hl) h
theorem cv_X11_121 {p : Program} {l : Launch} {e : Env} {R : Room} {s : State} {m : MethodId} {args : Array Value} {below : List Frame} {meth : Method} {c : Code} {D : va_G} {cy : Nat → ClassId} {base tS nc ns : Nat} {cc : ByteArray} {nL pc : Nat} {ls : Array Slot} {rest : List Value} {S : St} {ρ : Type} {Q : St → ρ → State → Prop} (C : Cx p R s m args c RX11 cc nL D cy base tS nc ns) {k0 : Nat} {v1 : Int32} (t0 : cls k0 = 11) (hl : ls.size = nL) (hR : rm_X11_isPlace.frames + 1 ≤ R.frames ∧ 8 + (2 + 11) + rm_X11_isPlace.locals ≤ R.locals) {b : St → Int32 → Option (St × ρ)} (hroom : (rest.map fun v => v.category).sum ≤ 8) (hd : decode cc pc = .ok (.invokevirtual 121, 3)) (kk : ∀ (S1 : St) (r : Int32), Sim p l e R s m args below meth c D cy base nc ns Q (b S1 r) S1 (F0 m (pc + 3) ls (.int r :: rest))) : Sim p l e R s m args below meth c D cy base nc ns Q (bd (X11_isPlace S k0 v1) b) S (F0 m pc ls (.int v1 :: .ref (base + k0) :: rest)) := r_callVI (n := 1) (As := [.int v1]) C hl (rd_11 t0) (cls_lt t0 (by decide)) rfl (fun S1 r1 h => ct_X11_isPlace l t0 h) wd_503 wd_504 wd_505 wd_497 wd_506 rfl rfl (by decide +kernel) hR rfl rfl hroom hd kk
abbrev rm_X11_weightOf : Room := { frames := 0, cells := 0, slots := 0, locals := 0 }
set_option maxHeartbeats 4000000 in
set_option maxRecDepth 100000 in
theorem sm_X11_weightOf {p : Program} {l : Launch} {e : Env} {s : State} {m : MethodId} {args : Array Value} {below : List Frame} {meth : Method} {c : Code} {D : va_G} {cy : Nat → ClassId} {base tS : Nat} {S : St} {k0 : Nat} {v1 : Int32} {v2 : Int32} {ls : Array Slot} (C : Cx p rm_X11_weightOf s m args c RX11 cX11_weightOf 3 D cy base tS 0 0) (hr : meth.sig.returnType = (some .int)) (hk : meth.locks = false) (t0 : cls k0 = 11) (hl : lv_has ls 3 [(0, .ref (base + k0)), (1, .int v1), (2, .int v2)]) : Sim p l e rm_X11_weightOf s m args below meth c D cy base 0 0 (fun S1 r => MQ below (QcI D cy base tS S1 r) args s 0 0 (AA base)) (X11_weightOf S k0 v1 v2) S (F0 m 0 ls []) := by
  unfold X11_weightOf
  refine r_aload_n (pc := 0) C dX11_weightOf_0 rfl (lv_at hl 0 rfl) ?_
  refine gf_X11_13 (pc := 1) C t0 dX11_weightOf_1 ?_
  have t21 := ft_11_2 t0
  refine r_bipush (pc := 4) C (15 : Int32) dX11_weightOf_4 (by decide) ?_
  refine r_iload_n (pc := 6) C dX11_weightOf_6 rfl (lv_at hl 1 rfl) ?_
  refine r_imul (pc := 7) C dX11_weightOf_7 ?_
  refine r_iload_n (pc := 8) C dX11_weightOf_8 rfl (lv_at hl 2 rfl) ?_
  refine r_iadd (pc := 9) C dX11_weightOf_9 ?_
  refine r_iald (pc := 10) C t21 dX11_weightOf_10 ?_
  exact r_iret (pc := 11) C hr hk dX11_weightOf_11

theorem ct_X11_weightOf (l : Launch) {D : va_G} {cy : Nat → ClassId} {base tS : Nat} {S : St} {k0 : Nat} {v1 : Int32} {v2 : Int32} (t0 : cls k0 = 11) {S1 : St} {r1 : Int32} (h : X11_weightOf S k0 v1 v2 = some (S1, r1)) : Met l yX11_weightOf (wsY yX11_weightOf cX11_weightOf 3 (some .int)) rm_X11_weightOf (va_Pc [.ref (base + k0), .int v1, .int v2] (World D cy base tS S)) (QcI D cy base tS S1 r1) 0 0 (AA base) := conI rfl rfl (by decide) (Nat.le_of_ble_eq_true rfl) (fun p e s m args below meth c ls C hr hk hl => sm_X11_weightOf C hr hk t0 hl) h
theorem cv_X11_102 {p : Program} {l : Launch} {e : Env} {R : Room} {s : State} {m : MethodId} {args : Array Value} {below : List Frame} {meth : Method} {c : Code} {D : va_G} {cy : Nat → ClassId} {base tS nc ns : Nat} {cc : ByteArray} {nL pc : Nat} {ls : Array Slot} {rest : List Value} {S : St} {ρ : Type} {Q : St → ρ → State → Prop} (C : Cx p R s m args c RX11 cc nL D cy base tS nc ns) {k0 : Nat} {v1 : Int32} {v2 : Int32} (t0 : cls k0 = 11) (hl : ls.size = nL) (hR : rm_X11_weightOf.frames + 1 ≤ R.frames ∧ 8 + (3 + 11) + rm_X11_weightOf.locals ≤ R.locals) {b : St → Int32 → Option (St × ρ)} (hroom : (rest.map fun v => v.category).sum ≤ 8) (hd : decode cc pc = .ok (.invokevirtual 102, 3)) (kk : ∀ (S1 : St) (r : Int32), Sim p l e R s m args below meth c D cy base nc ns Q (b S1 r) S1 (F0 m (pc + 3) ls (.int r :: rest))) : Sim p l e R s m args below meth c D cy base nc ns Q (bd (X11_weightOf S k0 v1 v2) b) S (F0 m pc ls (.int v2 :: .int v1 :: .ref (base + k0) :: rest)) := r_callVI (n := 2) (As := [.int v1, .int v2]) C hl (rd_11 t0) (cls_lt t0 (by decide)) rfl (fun S1 r1 h => ct_X11_weightOf l t0 h) wd_507 wd_508 wd_509 wd_497 wd_510 rfl rfl (by decide +kernel) hR rfl rfl hroom hd kk
abbrev rm_X11_load : Room := { frames := 1, cells := 0, slots := 0, locals := 22 }
set_option maxHeartbeats 4000000 in
set_option maxRecDepth 100000 in
theorem lp_X11_load_4 {p : Program} {l : Launch} {e : Env} {s : State} {m : MethodId} {args : Array Value} {below : List Frame} {meth : Method} {c : Code} {D : va_G} {cy : Nat → ClassId} {base tS : Nat} {ls : Array Slot} (C : Cx p rm_X11_load s m args c RX11 cX11_load 4 D cy base tS 0 0) (hr : meth.sig.returnType = (some .int)) (hk : meth.locks = false) {k0 : Nat} {v1 : Int32} (t0 : cls k0 = 11) {K : St → Int32 → Int32 → Option (St × Int32)} (hK : ∀ (S : St) (v2 : Int32) (v3 : Int32) (ls : Array Slot), lv_has ls 4 [(0, .ref (base + k0)), (1, .int v1), (2, .int v2), (3, .int v3)] → Sim p l e rm_X11_load s m args below meth c D cy base 0 0 (fun S1 r => MQ below (QcI D cy base tS S1 r) args s 0 0 (AA base)) (K S v2 v3) S (F0 m 25 ls [])) : ∀ (n : Nat) (S : St) (v2 : Int32) (v3 : Int32) (ls : Array Slot), lv_has ls 4 [(0, .ref (base + k0)), (1, .int v1), (2, .int v2), (3, .int v3)] → Sim p l e rm_X11_load s m args below meth c D cy base 0 0 (fun S1 r => MQ below (QcI D cy base tS S1 r) args s 0 0 (AA base)) (X11_load_4 k0 v1 K n S v2 v3) S (F0 m 4 ls []) := by
  intro n
  induction n with
  | zero => intro S v2 v3 ls hl; exact Sim.none
  | succ n ih =>
    intro S v2 v3 ls hl
    rw [X11_load_4]
    refine r_iload_n (pc := 4) C dX11_load_4 rfl (lv_at hl 3 rfl) ?_
    refine r_bipush (pc := 5) C (15 : Int32) dX11_load_5 (by decide) ?_
    refine r_icmp_ge (pc := 7) C (tgt := 25) dX11_load_7 (by decide) (fun _ => ?_) (fun _ => ?_)
    · exact hK S v2 v3 _ (lv_sub hl [0, 1, 2, 3] rfl)
    · refine r_iload_n (pc := 10) C dX11_load_10 rfl (lv_at hl 2 rfl) ?_
      refine r_aload_n (pc := 11) C dX11_load_11 rfl (lv_at hl 0 rfl) ?_
      refine r_iload_n (pc := 12) C dX11_load_12 rfl (lv_at hl 1 rfl) ?_
      refine r_iload_n (pc := 13) C dX11_load_13 rfl (lv_at hl 3 rfl) ?_
      refine cv_X11_102 (pc := 14) C t0 hl.1 ⟨Nat.le_of_ble_eq_true rfl, Nat.le_of_ble_eq_true rfl⟩ (Nat.le_of_ble_eq_true rfl) dX11_load_14 (fun S21 v22 => ?_)
      refine r_iadd (pc := 17) C dX11_load_17 ?_
      refine r_topi (fun v23 => ?_)
      refine r_istore_n (lv2 := [(2, .int v23), (0, .ref (base + k0)), (1, .int v1), (3, .int v3)]) (pc := 18) C dX11_load_18 rfl hl (Nat.le_of_ble_eq_true rfl) rfl (fun ls hl => ?_)
      refine r_iinc (pc := 19) C (k := 3) (1 : Int32) (fun v24 => [(3, .int v24), (2, .int v23), (0, .ref (base + k0)), (1, .int v1)]) dX11_load_19 hl rfl (by decide) (Nat.le_of_ble_eq_true rfl) (fun _ => rfl) (fun v24 ls hl => ?_)
      refine r_goto (pc := 22) C (tgt := 4) dX11_load_22 (by decide) ?_
      exact ih S21 v23 v24 _ (lv_sub hl [2, 3, 1, 0] rfl)

set_option maxHeartbeats 4000000 in
set_option maxRecDepth 100000 in
theorem sm_X11_load {p : Program} {l : Launch} {e : Env} {s : State} {m : MethodId} {args : Array Value} {below : List Frame} {meth : Method} {c : Code} {D : va_G} {cy : Nat → ClassId} {base tS : Nat} {S : St} {k0 : Nat} {v1 : Int32} {ls : Array Slot} (C : Cx p rm_X11_load s m args c RX11 cX11_load 4 D cy base tS 0 0) (hr : meth.sig.returnType = (some .int)) (hk : meth.locks = false) (t0 : cls k0 = 11) (hl : lv_has ls 4 [(0, .ref (base + k0)), (1, .int v1)]) : Sim p l e rm_X11_load s m args below meth c D cy base 0 0 (fun S1 r => MQ below (QcI D cy base tS S1 r) args s 0 0 (AA base)) (X11_load S k0 v1) S (F0 m 0 ls []) := by
  unfold X11_load
  refine r_iconst (pc := 0) C (0 : Int32) dX11_load_0 (by decide) ?_
  refine r_istore_n (lv2 := [(2, .int (0 : Int32)), (0, .ref (base + k0)), (1, .int v1)]) (pc := 1) C dX11_load_1 rfl hl (Nat.le_of_ble_eq_true rfl) rfl (fun ls hl => ?_)
  refine r_iconst (pc := 2) C (0 : Int32) dX11_load_2 (by decide) ?_
  refine r_istore_n (lv2 := [(3, .int (0 : Int32)), (2, .int (0 : Int32)), (0, .ref (base + k0)), (1, .int v1)]) (pc := 3) C dX11_load_3 rfl hl (Nat.le_of_ble_eq_true rfl) rfl (fun ls hl => ?_)
  refine lp_X11_load_4 (ls := ls) C hr hk t0 (fun S25 v26 v27 ls hl => ?_) FU S (0 : Int32) (0 : Int32) _ (lv_sub hl [2, 3, 1, 0] rfl)
  refine r_iload_n (pc := 25) C dX11_load_25 rfl (lv_at hl 2 rfl) ?_
  exact r_iret (pc := 26) C hr hk dX11_load_26

theorem ct_X11_load (l : Launch) {D : va_G} {cy : Nat → ClassId} {base tS : Nat} {S : St} {k0 : Nat} {v1 : Int32} (t0 : cls k0 = 11) {S1 : St} {r1 : Int32} (h : X11_load S k0 v1 = some (S1, r1)) : Met l yX11_load (wsY yX11_load cX11_load 4 (some .int)) rm_X11_load (va_Pc [.ref (base + k0), .int v1] (World D cy base tS S)) (QcI D cy base tS S1 r1) 0 0 (AA base) := conI rfl rfl (by decide) (Nat.le_of_ble_eq_true rfl) (fun p e s m args below meth c ls C hr hk hl => sm_X11_load C hr hk t0 hl) h
theorem cv_X11_106 {p : Program} {l : Launch} {e : Env} {R : Room} {s : State} {m : MethodId} {args : Array Value} {below : List Frame} {meth : Method} {c : Code} {D : va_G} {cy : Nat → ClassId} {base tS nc ns : Nat} {cc : ByteArray} {nL pc : Nat} {ls : Array Slot} {rest : List Value} {S : St} {ρ : Type} {Q : St → ρ → State → Prop} (C : Cx p R s m args c RX11 cc nL D cy base tS nc ns) {k0 : Nat} {v1 : Int32} (t0 : cls k0 = 11) (hl : ls.size = nL) (hR : rm_X11_load.frames + 1 ≤ R.frames ∧ 8 + (4 + 11) + rm_X11_load.locals ≤ R.locals) {b : St → Int32 → Option (St × ρ)} (hroom : (rest.map fun v => v.category).sum ≤ 8) (hd : decode cc pc = .ok (.invokevirtual 106, 3)) (kk : ∀ (S1 : St) (r : Int32), Sim p l e R s m args below meth c D cy base nc ns Q (b S1 r) S1 (F0 m (pc + 3) ls (.int r :: rest))) : Sim p l e R s m args below meth c D cy base nc ns Q (bd (X11_load S k0 v1) b) S (F0 m pc ls (.int v1 :: .ref (base + k0) :: rest)) := r_callVI (n := 1) (As := [.int v1]) C hl (rd_11 t0) (cls_lt t0 (by decide)) rfl (fun S1 r1 h => ct_X11_load l t0 h) wd_511 wd_512 wd_513 wd_497 wd_514 rfl rfl (by decide +kernel) hR rfl rfl hroom hd kk
abbrev rm_X11_isShelf : Room := { frames := 0, cells := 0, slots := 0, locals := 0 }
set_option maxHeartbeats 4000000 in
set_option maxRecDepth 100000 in
theorem sm_X11_isShelf {p : Program} {l : Launch} {e : Env} {s : State} {m : MethodId} {args : Array Value} {below : List Frame} {meth : Method} {c : Code} {D : va_G} {cy : Nat → ClassId} {base tS : Nat} {S : St} {k0 : Nat} {v1 : Int32} {ls : Array Slot} (C : Cx p rm_X11_isShelf s m args c RX11 cX11_isShelf 2 D cy base tS 0 0) (hr : meth.sig.returnType = (some .boolean)) (hk : meth.locks = false) (t0 : cls k0 = 11) (hl : lv_has ls 2 [(0, .ref (base + k0)), (1, .int v1)]) : Sim p l e rm_X11_isShelf s m args below meth c D cy base 0 0 (fun S1 r => MQ below (QcI D cy base tS S1 r) args s 0 0 (AA base)) (X11_isShelf S k0 v1) S (F0 m 0 ls []) := by
  unfold X11_isShelf
  refine r_aload_n (pc := 0) C dX11_isShelf_0 rfl (lv_at hl 0 rfl) ?_
  refine gf_X11_7 (pc := 1) C t0 dX11_isShelf_1 ?_
  have t21 := ft_11_1 t0
  refine r_iload_n (pc := 4) C dX11_isShelf_4 rfl (lv_at hl 1 rfl) ?_
  refine r_iald (pc := 5) C t21 dX11_isShelf_5 ?_
  refine r_join (fun (j : St → Option (St × Int32)) => ∀ (S23 : St)  (ls : Array Slot), lv_has ls 2 [] → Sim p l e rm_X11_isShelf s m args below meth c D cy base 0 0 (fun S1 r => MQ below (QcI D cy base tS S1 r) args s 0 0 (AA base)) (j S23) S23 (F0 m 23 ls [])) ?_ (fun j22 hj22 => ?_)
  · intro S23 ls hl
    refine r_iconst (pc := 23) C (0 : Int32) dX11_isShelf_23 (by decide) ?_
    exact r_zret (pc := 24) C rfl hr hk dX11_isShelf_24
  refine r_if_le (pc := 6) C (tgt := 23) dX11_isShelf_6 (by decide) (fun _ => ?_) (fun _ => ?_)
  · exact hj22 S  _ (lv_sub hl [] rfl)
  · refine r_aload_n (pc := 9) C dX11_isShelf_9 rfl (lv_at hl 0 rfl) ?_
    refine gf_X11_7 (pc := 10) C t0 dX11_isShelf_10 ?_
    have t24 := ft_11_1 t0
    refine r_iload_n (pc := 13) C dX11_isShelf_13 rfl (lv_at hl 1 rfl) ?_
    refine r_iald (pc := 14) C t24 dX11_isShelf_14 ?_
    refine r_iconst (pc := 15) C (4 : Int32) dX11_isShelf_15 (by decide) ?_
    refine r_icmp_ge (pc := 16) C (tgt := 23) dX11_isShelf_16 (by decide) (fun _ => ?_) (fun _ => ?_)
    · exact hj22 S  _ (lv_sub hl [] rfl)
    · refine r_iconst (pc := 19) C (1 : Int32) dX11_isShelf_19 (by decide) ?_
      refine r_goto (pc := 20) C (tgt := 24) dX11_isShelf_20 (by decide) ?_
      exact r_zret (pc := 24) C rfl hr hk dX11_isShelf_24

theorem ct_X11_isShelf (l : Launch) {D : va_G} {cy : Nat → ClassId} {base tS : Nat} {S : St} {k0 : Nat} {v1 : Int32} (t0 : cls k0 = 11) {S1 : St} {r1 : Int32} (h : X11_isShelf S k0 v1 = some (S1, r1)) : Met l yX11_isShelf (wsY yX11_isShelf cX11_isShelf 2 (some .boolean)) rm_X11_isShelf (va_Pc [.ref (base + k0), .int v1] (World D cy base tS S)) (QcI D cy base tS S1 r1) 0 0 (AA base) := conI rfl rfl (by decide) (Nat.le_of_ble_eq_true rfl) (fun p e s m args below meth c ls C hr hk hl => sm_X11_isShelf C hr hk t0 hl) h
theorem cv_X11_155 {p : Program} {l : Launch} {e : Env} {R : Room} {s : State} {m : MethodId} {args : Array Value} {below : List Frame} {meth : Method} {c : Code} {D : va_G} {cy : Nat → ClassId} {base tS nc ns : Nat} {cc : ByteArray} {nL pc : Nat} {ls : Array Slot} {rest : List Value} {S : St} {ρ : Type} {Q : St → ρ → State → Prop} (C : Cx p R s m args c RX11 cc nL D cy base tS nc ns) {k0 : Nat} {v1 : Int32} (t0 : cls k0 = 11) (hl : ls.size = nL) (hR : rm_X11_isShelf.frames + 1 ≤ R.frames ∧ 8 + (2 + 11) + rm_X11_isShelf.locals ≤ R.locals) {b : St → Int32 → Option (St × ρ)} (hroom : (rest.map fun v => v.category).sum ≤ 8) (hd : decode cc pc = .ok (.invokevirtual 155, 3)) (kk : ∀ (S1 : St) (r : Int32), Sim p l e R s m args below meth c D cy base nc ns Q (b S1 r) S1 (F0 m (pc + 3) ls (.int r :: rest))) : Sim p l e R s m args below meth c D cy base nc ns Q (bd (X11_isShelf S k0 v1) b) S (F0 m pc ls (.int v1 :: .ref (base + k0) :: rest)) := r_callVI (n := 1) (As := [.int v1]) C hl (rd_11 t0) (cls_lt t0 (by decide)) rfl (fun S1 r1 h => ct_X11_isShelf l t0 h) wd_515 wd_516 wd_517 wd_497 wd_518 rfl rfl (by decide +kernel) hR rfl rfl hroom hd kk
abbrev rm_X11_isDue : Room := { frames := 0, cells := 0, slots := 0, locals := 0 }
set_option maxHeartbeats 4000000 in
set_option maxRecDepth 100000 in
theorem sm_X11_isDue {p : Program} {l : Launch} {e : Env} {s : State} {m : MethodId} {args : Array Value} {below : List Frame} {meth : Method} {c : Code} {D : va_G} {cy : Nat → ClassId} {base tS : Nat} {S : St} {v0 : Int64} {v2 : Int32} {ls : Array Slot} (C : Cx p rm_X11_isDue s m args c RX11 cX11_isDue 3 D cy base tS 0 0) (hr : meth.sig.returnType = (some .boolean)) (hk : meth.locks = false)  (hl : lv_has ls 3 [(0, .long v0), (2, .int v2)]) : Sim p l e rm_X11_isDue s m args below meth c D cy base 0 0 (fun S1 r => MQ below (QcI D cy base tS S1 r) args s 0 0 (AA base)) (X11_isDue S v0 v2) S (F0 m 0 ls []) := by
  unfold X11_isDue
  refine r_iload_n (pc := 0) C dX11_isDue_0 rfl (lv_at hl 1 rfl) ?_
  refine r_join (fun (j : St → Option (St × Int32)) => ∀ (S22 : St)  (ls : Array Slot), lv_has ls 3 [] → Sim p l e rm_X11_isDue s m args below meth c D cy base 0 0 (fun S1 r => MQ below (QcI D cy base tS S1 r) args s 0 0 (AA base)) (j S22) S22 (F0 m 15 ls [])) ?_ (fun j21 hj21 => ?_)
  · intro S22 ls hl
    refine r_iconst (pc := 15) C (0 : Int32) dX11_isDue_15 (by decide) ?_
    exact r_zret (pc := 16) C rfl hr hk dX11_isDue_16
  refine r_if_le (pc := 1) C (tgt := 15) dX11_isDue_1 (by decide) (fun _ => ?_) (fun _ => ?_)
  · exact hj21 S  _ (lv_sub hl [] rfl)
  · refine r_lload_n (pc := 4) C dX11_isDue_4 rfl (lv_at hl 0 rfl) ?_
    refine r_iload_n (pc := 5) C dX11_isDue_5 rfl (lv_at hl 1 rfl) ?_
    refine r_i2l (pc := 6) C dX11_isDue_6 ?_
    refine r_lcmp_lt (pc := 7) C (tgt := 15) dX11_isDue_7 dX11_isDue_8 (by decide) (fun _ => ?_) (fun _ => ?_)
    · exact hj21 S  _ (lv_sub hl [] rfl)
    · refine r_iconst (pc := 11) C (1 : Int32) dX11_isDue_11 (by decide) ?_
      refine r_goto (pc := 12) C (tgt := 16) dX11_isDue_12 (by decide) ?_
      exact r_zret (pc := 16) C rfl hr hk dX11_isDue_16

theorem ct_X11_isDue (l : Launch) {D : va_G} {cy : Nat → ClassId} {base tS : Nat} {S : St} {v0 : Int64} {v2 : Int32}  {S1 : St} {r1 : Int32} (h : X11_isDue S v0 v2 = some (S1, r1)) : Met l yX11_isDue (wsY yX11_isDue cX11_isDue 3 (some .boolean)) rm_X11_isDue (va_Pc [.long v0, .int v2] (World D cy base tS S)) (QcI D cy base tS S1 r1) 0 0 (AA base) := conI rfl rfl (by decide) (Nat.le_of_ble_eq_true rfl) (fun p e s m args below meth c ls C hr hk hl => sm_X11_isDue C hr hk  hl) h
theorem cv_X11_110 {p : Program} {l : Launch} {e : Env} {R : Room} {s : State} {m : MethodId} {args : Array Value} {below : List Frame} {meth : Method} {c : Code} {D : va_G} {cy : Nat → ClassId} {base tS nc ns : Nat} {cc : ByteArray} {nL pc : Nat} {ls : Array Slot} {rest : List Value} {S : St} {ρ : Type} {Q : St → ρ → State → Prop} (C : Cx p R s m args c RX11 cc nL D cy base tS nc ns) {v0 : Int64} {v2 : Int32}  (hl : ls.size = nL) (hR : rm_X11_isDue.frames + 1 ≤ R.frames ∧ 8 + (3 + 11) + rm_X11_isDue.locals ≤ R.locals) {b : St → Int32 → Option (St × ρ)} (hroom : (rest.map fun v => v.category).sum ≤ 8) (hd : decode cc pc = .ok (.invokestatic 110, 3)) (kk : ∀ (S1 : St) (r : Int32), Sim p l e R s m args below meth c D cy base nc ns Q (b S1 r) S1 (F0 m (pc + 3) ls (.int r :: rest))) : Sim p l e R s m args below meth c D cy base nc ns Q (bd (X11_isDue S v0 v2) b) S (F0 m pc ls (.int v2 :: .long v0 :: rest)) := r_callSI (n := 2) (As := [.long v0, .int v2]) C hl (fun S1 r1 h => ct_X11_isDue l  h) wd_519 wd_520 wd_497 wd_521 rfl rfl (by decide +kernel) hR rfl rfl hroom hd kk
abbrev rm_X11_dueMany : Room := { frames := 2, cells := 0, slots := 0, locals := 45 }
set_option maxHeartbeats 4000000 in
set_option maxRecDepth 100000 in
theorem lp_X11_dueMany_4 {p : Program} {l : Launch} {e : Env} {s : State} {m : MethodId} {args : Array Value} {below : List Frame} {meth : Method} {c : Code} {D : va_G} {cy : Nat → ClassId} {base tS : Nat} {ls : Array Slot} (C : Cx p rm_X11_dueMany s m args c RX11 cX11_dueMany 3 D cy base tS 0 0) (hr : meth.sig.returnType = (some .int)) (hk : meth.locks = false) {k0 : Nat} (t0 : cls k0 = 11) {K : St → Int32 → Int32 → Option (St × Int32)} (hK : ∀ (S : St) (v1 : Int32) (v2 : Int32) (ls : Array Slot), lv_has ls 3 [(0, .ref (base + k0)), (1, .int v1), (2, .int v2)] → Sim p l e rm_X11_dueMany s m args below meth c D cy base 0 0 (fun S1 r => MQ below (QcI D cy base tS S1 r) args s 0 0 (AA base)) (K S v1 v2) S (F0 m 43 ls [])) : ∀ (n : Nat) (S : St) (v1 : Int32) (v2 : Int32) (ls : Array Slot), lv_has ls 3 [(0, .ref (base + k0)), (1, .int v1), (2, .int v2)] → Sim p l e rm_X11_dueMany s m args below meth c D cy base 0 0 (fun S1 r => MQ below (QcI D cy base tS S1 r) args s 0 0 (AA base)) (X11_dueMany_4 k0 K n S v1 v2) S (F0 m 4 ls []) := by
  intro n
  induction n with
  | zero => intro S v1 v2 ls hl; exact Sim.none
  | succ n ih =>
    intro S v1 v2 ls hl
    rw [X11_dueMany_4]
    refine r_iload_n (pc := 4) C dX11_dueMany_4 rfl (lv_at hl 2 rfl) ?_
    refine r_aload_n (pc := 5) C dX11_dueMany_5 rfl (lv_at hl 0 rfl) ?_
    refine gf_X11_95 (pc := 6) C t0 dX11_dueMany_6 ?_
    refine r_icmp_ge (pc := 9) C (tgt := 43) dX11_dueMany_9 (by decide) (fun _ => ?_) (fun _ => ?_)
    · exact hK S v1 v2 _ (lv_sub hl [0, 1, 2] rfl)
    · refine r_iload_n (pc := 12) C dX11_dueMany_12 rfl (lv_at hl 1 rfl) ?_
      refine r_aload_n (pc := 13) C dX11_dueMany_13 rfl (lv_at hl 0 rfl) ?_
      refine gf_X11_16 (pc := 14) C t0 dX11_dueMany_14 ?_
      have t21 := ft_11_4 t0
      refine r_iload_n (pc := 17) C dX11_dueMany_17 rfl (lv_at hl 2 rfl) ?_
      refine r_lald (pc := 18) C t21 dX11_dueMany_18 ?_
      refine r_aload_n (pc := 19) C dX11_dueMany_19 rfl (lv_at hl 0 rfl) ?_
      refine r_iload_n (pc := 20) C dX11_dueMany_20 rfl (lv_at hl 2 rfl) ?_
      refine cv_X11_106 (pc := 21) C t0 hl.1 ⟨Nat.le_of_ble_eq_true rfl, Nat.le_of_ble_eq_true rfl⟩ (Nat.le_of_ble_eq_true rfl) dX11_dueMany_21 (fun S22 v23 => ?_)
      refine cv_X11_110 (pc := 24) C  hl.1 ⟨Nat.le_of_ble_eq_true rfl, Nat.le_of_ble_eq_true rfl⟩ (Nat.le_of_ble_eq_true rfl) dX11_dueMany_24 (fun S24 v25 => ?_)
      refine r_join (fun (j : St → Int32 → Option (St × Int32)) => ∀ (S27 : St) (v28 : Int32) (ls : Array Slot), lv_has ls 3 [(0, .ref (base + k0)), (2, .int v2)] → Sim p l e rm_X11_dueMany s m args below meth c D cy base 0 0 (fun S1 r => MQ below (QcI D cy base tS S1 r) args s 0 0 (AA base)) (j S27 v28) S27 (F0 m 35 ls [.int v28, .int v1])) ?_ (fun j26 hj26 => ?_)
      · intro S27 v28 ls hl
        refine r_iadd (pc := 35) C dX11_dueMany_35 ?_
        refine r_topi (fun v29 => ?_)
        refine r_istore_n (lv2 := [(1, .int v29), (0, .ref (base + k0)), (2, .int v2)]) (pc := 36) C dX11_dueMany_36 rfl hl (Nat.le_of_ble_eq_true rfl) rfl (fun ls hl => ?_)
        refine r_iinc (pc := 37) C (k := 2) (1 : Int32) (fun v30 => [(2, .int v30), (1, .int v29), (0, .ref (base + k0))]) dX11_dueMany_37 hl rfl (by decide) (Nat.le_of_ble_eq_true rfl) (fun _ => rfl) (fun v30 ls hl => ?_)
        refine r_goto (pc := 40) C (tgt := 4) dX11_dueMany_40 (by decide) ?_
        exact ih S27 v29 v30 _ (lv_sub hl [2, 1, 0] rfl)
      refine r_if_eq (pc := 27) C (tgt := 34) dX11_dueMany_27 (by decide) (fun _ => ?_) (fun _ => ?_)
      · refine r_iconst (pc := 34) C (0 : Int32) dX11_dueMany_34 (by decide) ?_
        exact hj26 S24 (0 : Int32) _ (lv_sub hl [0, 2] rfl)
      · refine r_iconst (pc := 30) C (1 : Int32) dX11_dueMany_30 (by decide) ?_
        refine r_goto (pc := 31) C (tgt := 35) dX11_dueMany_31 (by decide) ?_
        exact hj26 S24 (1 : Int32) _ (lv_sub hl [0, 2] rfl)

set_option maxHeartbeats 4000000 in
set_option maxRecDepth 100000 in
theorem sm_X11_dueMany {p : Program} {l : Launch} {e : Env} {s : State} {m : MethodId} {args : Array Value} {below : List Frame} {meth : Method} {c : Code} {D : va_G} {cy : Nat → ClassId} {base tS : Nat} {S : St} {k0 : Nat} {ls : Array Slot} (C : Cx p rm_X11_dueMany s m args c RX11 cX11_dueMany 3 D cy base tS 0 0) (hr : meth.sig.returnType = (some .int)) (hk : meth.locks = false) (t0 : cls k0 = 11) (hl : lv_has ls 3 [(0, .ref (base + k0))]) : Sim p l e rm_X11_dueMany s m args below meth c D cy base 0 0 (fun S1 r => MQ below (QcI D cy base tS S1 r) args s 0 0 (AA base)) (X11_dueMany S k0) S (F0 m 0 ls []) := by
  unfold X11_dueMany
  refine r_iconst (pc := 0) C (0 : Int32) dX11_dueMany_0 (by decide) ?_
  refine r_istore_n (lv2 := [(1, .int (0 : Int32)), (0, .ref (base + k0))]) (pc := 1) C dX11_dueMany_1 rfl hl (Nat.le_of_ble_eq_true rfl) rfl (fun ls hl => ?_)
  refine r_iconst (pc := 2) C (0 : Int32) dX11_dueMany_2 (by decide) ?_
  refine r_istore_n (lv2 := [(2, .int (0 : Int32)), (1, .int (0 : Int32)), (0, .ref (base + k0))]) (pc := 3) C dX11_dueMany_3 rfl hl (Nat.le_of_ble_eq_true rfl) rfl (fun ls hl => ?_)
  refine lp_X11_dueMany_4 (ls := ls) C hr hk t0 (fun S31 v32 v33 ls hl => ?_) FU S (0 : Int32) (0 : Int32) _ (lv_sub hl [2, 1, 0] rfl)
  refine r_iload_n (pc := 43) C dX11_dueMany_43 rfl (lv_at hl 1 rfl) ?_
  exact r_iret (pc := 44) C hr hk dX11_dueMany_44

theorem ct_X11_dueMany (l : Launch) {D : va_G} {cy : Nat → ClassId} {base tS : Nat} {S : St} {k0 : Nat} (t0 : cls k0 = 11) {S1 : St} {r1 : Int32} (h : X11_dueMany S k0 = some (S1, r1)) : Met l yX11_dueMany (wsY yX11_dueMany cX11_dueMany 3 (some .int)) rm_X11_dueMany (va_Pc [.ref (base + k0)] (World D cy base tS S)) (QcI D cy base tS S1 r1) 0 0 (AA base) := conI rfl rfl (by decide) (Nat.le_of_ble_eq_true rfl) (fun p e s m args below meth c ls C hr hk hl => sm_X11_dueMany C hr hk t0 hl) h
theorem cv_X11_151 {p : Program} {l : Launch} {e : Env} {R : Room} {s : State} {m : MethodId} {args : Array Value} {below : List Frame} {meth : Method} {c : Code} {D : va_G} {cy : Nat → ClassId} {base tS nc ns : Nat} {cc : ByteArray} {nL pc : Nat} {ls : Array Slot} {rest : List Value} {S : St} {ρ : Type} {Q : St → ρ → State → Prop} (C : Cx p R s m args c RX11 cc nL D cy base tS nc ns) {k0 : Nat} (t0 : cls k0 = 11) (hl : ls.size = nL) (hR : rm_X11_dueMany.frames + 1 ≤ R.frames ∧ 8 + (3 + 11) + rm_X11_dueMany.locals ≤ R.locals) {b : St → Int32 → Option (St × ρ)} (hroom : (rest.map fun v => v.category).sum ≤ 8) (hd : decode cc pc = .ok (.invokevirtual 151, 3)) (kk : ∀ (S1 : St) (r : Int32), Sim p l e R s m args below meth c D cy base nc ns Q (b S1 r) S1 (F0 m (pc + 3) ls (.int r :: rest))) : Sim p l e R s m args below meth c D cy base nc ns Q (bd (X11_dueMany S k0) b) S (F0 m pc ls (.ref (base + k0) :: rest)) := r_callVI (n := 0) (As := []) C hl (rd_11 t0) (cls_lt t0 (by decide)) rfl (fun S1 r1 h => ct_X11_dueMany l t0 h) wd_522 wd_523 wd_524 wd_497 wd_525 rfl rfl (by decide +kernel) hR rfl rfl hroom hd kk
abbrev rm_X11_place : Room := { frames := 1, cells := 0, slots := 0, locals := 22 }
set_option maxHeartbeats 4000000 in
set_option maxRecDepth 100000 in
theorem sm_X11_place {p : Program} {l : Launch} {e : Env} {s : State} {m : MethodId} {args : Array Value} {below : List Frame} {meth : Method} {c : Code} {D : va_G} {cy : Nat → ClassId} {base tS : Nat} {S : St} {k0 : Nat} {v1 : Int32} {ls : Array Slot} (C : Cx p rm_X11_place s m args c RX11 cX11_place 2 D cy base tS 0 0) (hr : meth.sig.returnType = (some .int)) (hk : meth.locks = false) (t0 : cls k0 = 11) (hl : lv_has ls 2 [(0, .ref (base + k0)), (1, .int v1)]) : Sim p l e rm_X11_place s m args below meth c D cy base 0 0 (fun S1 r => MQ below (QcI D cy base tS S1 r) args s 0 0 (AA base)) (X11_place S k0 v1) S (F0 m 0 ls []) := by
  unfold X11_place
  refine r_aload_n (pc := 0) C dX11_place_0 rfl (lv_at hl 0 rfl) ?_
  refine gf_X11_114 (pc := 1) C t0 dX11_place_1 ?_
  refine r_if_eq (pc := 4) C (tgt := 14) dX11_place_4 (by decide) (fun _ => ?_) (fun _ => ?_)
  · refine r_iload_n (pc := 14) C dX11_place_14 rfl (lv_at hl 1 rfl) ?_
    refine r_iconst (pc := 15) C (0 : Int32) dX11_place_15 (by decide) ?_
    refine r_iconst (pc := 16) C (4 : Int32) dX11_place_16 (by decide) ?_
    refine cv_X11_98 (pc := 17) C  hl.1 ⟨Nat.le_of_ble_eq_true rfl, Nat.le_of_ble_eq_true rfl⟩ (Nat.le_of_ble_eq_true rfl) dX11_place_17 (fun S21 v22 => ?_)
    refine r_if_ne (pc := 20) C (tgt := 29) dX11_place_20 (by decide) (fun _ => ?_) (fun _ => ?_)
    · refine r_aload_n (pc := 29) C dX11_place_29 rfl (lv_at hl 0 rfl) ?_
      refine gf_X11_95 (pc := 30) C t0 dX11_place_30 ?_
      refine r_bipush (pc := 33) C (12 : Int32) dX11_place_33 (by decide) ?_
      refine r_icmp_ne (pc := 35) C (tgt := 45) dX11_place_35 (by decide) (fun _ => ?_) (fun _ => ?_)
      · refine r_aload_n (pc := 45) C dX11_place_45 rfl (lv_at hl 0 rfl) ?_
        refine gf_X11_7 (pc := 46) C t0 dX11_place_46 ?_
        have t23 := ft_11_1 t0
        refine r_aload_n (pc := 49) C dX11_place_49 rfl (lv_at hl 0 rfl) ?_
        refine gf_X11_95 (pc := 50) C t0 dX11_place_50 ?_
        refine r_iload_n (pc := 53) C dX11_place_53 rfl (lv_at hl 1 rfl) ?_
        refine r_iast (pc := 54) C t23 dX11_place_54 (fun S24 => ?_)
        refine r_aload_n (pc := 55) C dX11_place_55 rfl (lv_at hl 0 rfl) ?_
        refine r_dup (pc := 56) C dX11_place_56 rfl ?_
        refine gf_X11_95 (pc := 57) C t0 dX11_place_57 ?_
        refine r_iconst (pc := 60) C (1 : Int32) dX11_place_60 (by decide) ?_
        refine r_iadd (pc := 61) C dX11_place_61 ?_
        refine pf_X11_95 (pc := 62) C t0 dX11_place_62 (fun S25 => ?_)
        refine r_aload_n (pc := 65) C dX11_place_65 rfl (lv_at hl 0 rfl) ?_
        refine gf_X11_95 (pc := 66) C t0 dX11_place_66 ?_
        refine r_iconst (pc := 69) C (1 : Int32) dX11_place_69 (by decide) ?_
        refine r_isub (pc := 70) C dX11_place_70 ?_
        exact r_iret (pc := 71) C hr hk dX11_place_71
      · refine r_aload_n (pc := 38) C dX11_place_38 rfl (lv_at hl 0 rfl) ?_
        refine r_bipush (pc := 39) C (-5 : Int32) dX11_place_39 (by decide) ?_
        refine cv_X11_118 (pc := 41) C t0 hl.1 ⟨Nat.le_of_ble_eq_true rfl, Nat.le_of_ble_eq_true rfl⟩ (Nat.le_of_ble_eq_true rfl) dX11_place_41 (fun S26 v27 => ?_)
        exact r_iret (pc := 44) C hr hk dX11_place_44
    · refine r_aload_n (pc := 23) C dX11_place_23 rfl (lv_at hl 0 rfl) ?_
      refine r_iconst (pc := 24) C (-1 : Int32) dX11_place_24 (by decide) ?_
      refine cv_X11_118 (pc := 25) C t0 hl.1 ⟨Nat.le_of_ble_eq_true rfl, Nat.le_of_ble_eq_true rfl⟩ (Nat.le_of_ble_eq_true rfl) dX11_place_25 (fun S28 v29 => ?_)
      exact r_iret (pc := 28) C hr hk dX11_place_28
  · refine r_aload_n (pc := 7) C dX11_place_7 rfl (lv_at hl 0 rfl) ?_
    refine r_bipush (pc := 8) C (-6 : Int32) dX11_place_8 (by decide) ?_
    refine cv_X11_118 (pc := 10) C t0 hl.1 ⟨Nat.le_of_ble_eq_true rfl, Nat.le_of_ble_eq_true rfl⟩ (Nat.le_of_ble_eq_true rfl) dX11_place_10 (fun S30 v31 => ?_)
    exact r_iret (pc := 13) C hr hk dX11_place_13

theorem ct_X11_place (l : Launch) {D : va_G} {cy : Nat → ClassId} {base tS : Nat} {S : St} {k0 : Nat} {v1 : Int32} (t0 : cls k0 = 11) {S1 : St} {r1 : Int32} (h : X11_place S k0 v1 = some (S1, r1)) : Met l yX11_place (wsY yX11_place cX11_place 2 (some .int)) rm_X11_place (va_Pc [.ref (base + k0), .int v1] (World D cy base tS S)) (QcI D cy base tS S1 r1) 0 0 (AA base) := conI rfl rfl (by decide) (Nat.le_of_ble_eq_true rfl) (fun p e s m args below meth c ls C hr hk hl => sm_X11_place C hr hk t0 hl) h
abbrev rm_X11_way : Room := { frames := 2, cells := 0, slots := 0, locals := 45 }
set_option maxHeartbeats 4000000 in
set_option maxRecDepth 100000 in
theorem sm_X11_way {p : Program} {l : Launch} {e : Env} {s : State} {m : MethodId} {args : Array Value} {below : List Frame} {meth : Method} {c : Code} {D : va_G} {cy : Nat → ClassId} {base tS : Nat} {S : St} {k0 : Nat} {v1 : Int32} {v2 : Int32} {v3 : Int32} {ls : Array Slot} (C : Cx p rm_X11_way s m args c RX11 cX11_way 6 D cy base tS 0 0) (hr : meth.sig.returnType = (some .int)) (hk : meth.locks = false) (t0 : cls k0 = 11) (hl : lv_has ls 6 [(0, .ref (base + k0)), (1, .int v1), (2, .int v2), (3, .int v3)]) : Sim p l e rm_X11_way s m args below meth c D cy base 0 0 (fun S1 r => MQ below (QcI D cy base tS S1 r) args s 0 0 (AA base)) (X11_way S k0 v1 v2 v3) S (F0 m 0 ls []) := by
  unfold X11_way
  refine r_aload_n (pc := 0) C dX11_way_0 rfl (lv_at hl 0 rfl) ?_
  refine gf_X11_114 (pc := 1) C t0 dX11_way_1 ?_
  refine r_if_eq (pc := 4) C (tgt := 14) dX11_way_4 (by decide) (fun _ => ?_) (fun _ => ?_)
  · refine r_iload_n (pc := 14) C dX11_way_14 rfl (lv_at hl 2 rfl) ?_
    refine r_bipush (pc := 15) C (-3 : Int32) dX11_way_15 (by decide) ?_
    refine r_iconst (pc := 17) C (-1 : Int32) dX11_way_17 (by decide) ?_
    refine cv_X11_98 (pc := 18) C  hl.1 ⟨Nat.le_of_ble_eq_true rfl, Nat.le_of_ble_eq_true rfl⟩ (Nat.le_of_ble_eq_true rfl) dX11_way_18 (fun S21 v22 => ?_)
    refine r_istore (lv2 := [(4, .int v22), (0, .ref (base + k0)), (1, .int v1), (2, .int v2), (3, .int v3)]) (pc := 21) C dX11_way_21 hl (Nat.le_of_ble_eq_true rfl) rfl (fun ls hl => ?_)
    refine r_aload_n (pc := 23) C dX11_way_23 rfl (lv_at hl 1 rfl) ?_
    refine r_iload_n (pc := 24) C dX11_way_24 rfl (lv_at hl 2 rfl) ?_
    refine cv_X11_121 (pc := 25) C t0 hl.1 ⟨Nat.le_of_ble_eq_true rfl, Nat.le_of_ble_eq_true rfl⟩ (Nat.le_of_ble_eq_true rfl) dX11_way_25 (fun S23 v24 => ?_)
    refine r_join (fun (j : St → Option (St × Int32)) => ∀ (S26 : St)  (ls : Array Slot), lv_has ls 6 [(0, .ref (base + k0))] → Sim p l e rm_X11_way s m args below meth c D cy base 0 0 (fun S1 r => MQ below (QcI D cy base tS S1 r) args s 0 0 (AA base)) (j S26) S26 (F0 m 59 ls [])) ?_ (fun j25 hj25 => ?_)
    · intro S26 ls hl
      refine r_aload_n (pc := 59) C dX11_way_59 rfl (lv_at hl 0 rfl) ?_
      refine r_iconst (pc := 60) C (-1 : Int32) dX11_way_60 (by decide) ?_
      refine cv_X11_118 (pc := 61) C t0 hl.1 ⟨Nat.le_of_ble_eq_true rfl, Nat.le_of_ble_eq_true rfl⟩ (Nat.le_of_ble_eq_true rfl) dX11_way_61 (fun S27 v28 => ?_)
      exact r_iret (pc := 64) C hr hk dX11_way_64
    refine r_if_eq (pc := 28) C (tgt := 59) dX11_way_28 (by decide) (fun _ => ?_) (fun _ => ?_)
    · exact hj25 S23  _ (lv_sub hl [1] rfl)
    · refine r_iload (pc := 31) C dX11_way_31 (lv_at hl 0 rfl) ?_
      refine r_join (fun (j : St → Option (St × Int32)) => ∀ (S30 : St)  (ls : Array Slot), lv_has ls 6 [(0, .ref (base + k0)), (1, .int v1), (2, .int v2), (3, .int v3), (4, .int v22)] → Sim p l e rm_X11_way s m args below meth c D cy base 0 0 (fun S1 r => MQ below (QcI D cy base tS S1 r) args s 0 0 (AA base)) (j S30) S30 (F0 m 44 ls [])) ?_ (fun j29 hj29 => ?_)
      · intro S30 ls hl
        refine r_iload_n (pc := 44) C dX11_way_44 rfl (lv_at hl 2 rfl) ?_
        refine r_iload_n (pc := 45) C dX11_way_45 rfl (lv_at hl 1 rfl) ?_
        refine r_icmp_eq (pc := 46) C (tgt := 59) dX11_way_46 (by decide) (fun _ => ?_) (fun _ => ?_)
        · exact hj25 S30  _ (lv_sub hl [0] rfl)
        · refine r_iload_n (pc := 49) C dX11_way_49 rfl (lv_at hl 3 rfl) ?_
          refine r_iconst (pc := 50) C (1 : Int32) dX11_way_50 (by decide) ?_
          refine r_bipush (pc := 51) C (9 : Int32) dX11_way_51 (by decide) ?_
          refine cv_X11_98 (pc := 53) C  hl.1 ⟨Nat.le_of_ble_eq_true rfl, Nat.le_of_ble_eq_true rfl⟩ (Nat.le_of_ble_eq_true rfl) dX11_way_53 (fun S31 v32 => ?_)
          refine r_if_ne (pc := 56) C (tgt := 65) dX11_way_56 (by decide) (fun _ => ?_) (fun _ => ?_)
          · refine r_aload_n (pc := 65) C dX11_way_65 rfl (lv_at hl 0 rfl) ?_
            refine gf_X11_7 (pc := 66) C t0 dX11_way_66 ?_
            have t33 := ft_11_1 t0
            refine r_iload_n (pc := 69) C dX11_way_69 rfl (lv_at hl 1 rfl) ?_
            refine r_iald (pc := 70) C t33 dX11_way_70 ?_
            refine r_iconst (pc := 71) C (2 : Int32) dX11_way_71 (by decide) ?_
            refine r_join (fun (j : St → Int32 → Option (St × Int32)) => ∀ (S35 : St) (v36 : Int32) (ls : Array Slot), lv_has ls 6 [(0, .ref (base + k0)), (1, .int v1), (2, .int v2), (3, .int v3), (4, .int v22)] → Sim p l e rm_X11_way s m args below meth c D cy base 0 0 (fun S1 r => MQ below (QcI D cy base tS S1 r) args s 0 0 (AA base)) (j S35 v36) S35 (F0 m 90 ls [.int v36])) ?_ (fun j34 hj34 => ?_)
            · intro S35 v36 ls hl
              refine r_istore (lv2 := [(5, .int v36), (0, .ref (base + k0)), (1, .int v1), (2, .int v2), (3, .int v3), (4, .int v22)]) (pc := 90) C dX11_way_90 hl (Nat.le_of_ble_eq_true rfl) rfl (fun ls hl => ?_)
              refine r_iload_n (pc := 92) C dX11_way_92 rfl (lv_at hl 4 rfl) ?_
              refine r_iconst (pc := 93) C (1 : Int32) dX11_way_93 (by decide) ?_
              refine r_join (fun (j : St → Option (St × Int32)) => ∀ (S38 : St)  (ls : Array Slot), lv_has ls 6 [(0, .ref (base + k0))] → Sim p l e rm_X11_way s m args below meth c D cy base 0 0 (fun S1 r => MQ below (QcI D cy base tS S1 r) args s 0 0 (AA base)) (j S38) S38 (F0 m 117 ls [])) ?_ (fun j37 hj37 => ?_)
              · intro S38 ls hl
                refine r_aload_n (pc := 117) C dX11_way_117 rfl (lv_at hl 0 rfl) ?_
                refine r_bipush (pc := 118) C (-4 : Int32) dX11_way_118 (by decide) ?_
                refine cv_X11_118 (pc := 120) C t0 hl.1 ⟨Nat.le_of_ble_eq_true rfl, Nat.le_of_ble_eq_true rfl⟩ (Nat.le_of_ble_eq_true rfl) dX11_way_120 (fun S39 v40 => ?_)
                exact r_iret (pc := 123) C hr hk dX11_way_123
              refine r_join (fun (j : St → Option (St × Int32)) => ∀ (S42 : St)  (ls : Array Slot), lv_has ls 6 [(0, .ref (base + k0)), (1, .int v1), (2, .int v2), (3, .int v3), (4, .int v22)] → Sim p l e rm_X11_way s m args below meth c D cy base 0 0 (fun S1 r => MQ below (QcI D cy base tS S1 r) args s 0 0 (AA base)) (j S42) S42 (F0 m 102 ls [])) ?_ (fun j41 hj41 => ?_)
              · intro S42 ls hl
                refine r_iload (pc := 102) C dX11_way_102 (lv_at hl 4 rfl) ?_
                refine r_join (fun (j : St → Option (St × Int32)) => ∀ (S44 : St)  (ls : Array Slot), lv_has ls 6 [(0, .ref (base + k0)), (1, .int v1), (2, .int v2), (3, .int v3), (4, .int v22)] → Sim p l e rm_X11_way s m args below meth c D cy base 0 0 (fun S1 r => MQ below (QcI D cy base tS S1 r) args s 0 0 (AA base)) (j S44) S44 (F0 m 124 ls [])) ?_ (fun j43 hj43 => ?_)
                · intro S44 ls hl
                  refine r_aload_n (pc := 124) C dX11_way_124 rfl (lv_at hl 0 rfl) ?_
                  refine gf_X11_13 (pc := 125) C t0 dX11_way_125 ?_
                  have t45 := ft_11_2 t0
                  refine r_bipush (pc := 128) C (15 : Int32) dX11_way_128 (by decide) ?_
                  refine r_iload_n (pc := 130) C dX11_way_130 rfl (lv_at hl 1 rfl) ?_
                  refine r_imul (pc := 131) C dX11_way_131 ?_
                  refine r_iload (pc := 132) C dX11_way_132 (lv_at hl 4 rfl) ?_
                  refine r_join (fun (j : St → Int32 → Option (St × Int32)) => ∀ (S47 : St) (v48 : Int32) (ls : Array Slot), lv_has ls 6 [(0, .ref (base + k0)), (1, .int v1), (3, .int v3)] → Sim p l e rm_X11_way s m args below meth c D cy base 0 0 (fun S1 r => MQ below (QcI D cy base tS S1 r) args s 0 0 (AA base)) (j S47 v48) S47 (F0 m 145 ls [.int v48, .int ((15 : Int32) * v1), .ref (base + (rf k0 2))])) ?_ (fun j46 hj46 => ?_)
                  · intro S47 v48 ls hl
                    refine r_iadd (pc := 145) C dX11_way_145 ?_
                    refine r_dup2_11 (pc := 146) C dX11_way_146 rfl rfl ?_
                    refine r_iald (pc := 147) C t45 dX11_way_147 ?_
                    refine r_iload_n (pc := 148) C dX11_way_148 rfl (lv_at hl 2 rfl) ?_
                    refine r_iadd (pc := 149) C dX11_way_149 ?_
                    refine r_iast (pc := 150) C t45 dX11_way_150 (fun S49 => ?_)
                    refine r_aload_n (pc := 151) C dX11_way_151 rfl (lv_at hl 0 rfl) ?_
                    refine r_iload_n (pc := 152) C dX11_way_152 rfl (lv_at hl 1 rfl) ?_
                    refine cv_X11_106 (pc := 153) C t0 hl.1 ⟨Nat.le_of_ble_eq_true rfl, Nat.le_of_ble_eq_true rfl⟩ (Nat.le_of_ble_eq_true rfl) dX11_way_153 (fun S50 v51 => ?_)
                    exact r_iret (pc := 156) C hr hk dX11_way_156
                  refine r_if_eq (pc := 134) C (tgt := 144) dX11_way_134 (by decide) (fun _ => ?_) (fun _ => ?_)
                  · refine r_iload_n (pc := 144) C dX11_way_144 rfl (lv_at hl 2 rfl) ?_
                    exact hj46 S44 v2 _ (lv_sub hl [0, 1, 3] rfl)
                  · refine r_bipush (pc := 137) C (11 : Int32) dX11_way_137 (by decide) ?_
                    refine r_iload_n (pc := 139) C dX11_way_139 rfl (lv_at hl 2 rfl) ?_
                    refine r_isub (pc := 140) C dX11_way_140 ?_
                    refine r_goto (pc := 141) C (tgt := 145) dX11_way_141 (by decide) ?_
                    exact hj46 S44 ((11 : Int32) - v2) _ (lv_sub hl [0, 1, 3] rfl)
                refine r_if_eq (pc := 104) C (tgt := 124) dX11_way_104 (by decide) (fun _ => ?_) (fun _ => ?_)
                · exact hj43 S42  _ (lv_sub hl [0, 1, 2, 3, 4] rfl)
                · refine r_aload_n (pc := 107) C dX11_way_107 rfl (lv_at hl 0 rfl) ?_
                  refine gf_X11_7 (pc := 108) C t0 dX11_way_108 ?_
                  have t52 := ft_11_1 t0
                  refine r_iload_n (pc := 111) C dX11_way_111 rfl (lv_at hl 1 rfl) ?_
                  refine r_iald (pc := 112) C t52 dX11_way_112 ?_
                  refine r_iconst (pc := 113) C (3 : Int32) dX11_way_113 (by decide) ?_
                  refine r_icmp_eq (pc := 114) C (tgt := 124) dX11_way_114 (by decide) (fun _ => ?_) (fun _ => ?_)
                  · exact hj43 S42  _ (lv_sub hl [0, 1, 2, 3, 4] rfl)
                  · exact hj37 S42  _ (lv_sub hl [0] rfl)
              refine r_icmp_eq (pc := 94) C (tgt := 102) dX11_way_94 (by decide) (fun _ => ?_) (fun _ => ?_)
              · exact hj41 S35  _ (lv_sub hl [1, 2, 3, 4, 5] rfl)
              · refine r_iload (pc := 97) C dX11_way_97 (lv_at hl 0 rfl) ?_
                refine r_if_eq (pc := 99) C (tgt := 117) dX11_way_99 (by decide) (fun _ => ?_) (fun _ => ?_)
                · exact hj37 S35  _ (lv_sub hl [1] rfl)
                · exact hj41 S35  _ (lv_sub hl [1, 2, 3, 4, 5] rfl)
            refine r_join (fun (j : St → Option (St × Int32)) => ∀ (S54 : St)  (ls : Array Slot), lv_has ls 6 [(0, .ref (base + k0)), (1, .int v1), (2, .int v2), (3, .int v3), (4, .int v22)] → Sim p l e rm_X11_way s m args below meth c D cy base 0 0 (fun S1 r => MQ below (QcI D cy base tS S1 r) args s 0 0 (AA base)) (j S54) S54 (F0 m 85 ls [])) ?_ (fun j53 hj53 => ?_)
            · intro S54 ls hl
              refine r_iconst (pc := 85) C (1 : Int32) dX11_way_85 (by decide) ?_
              refine r_goto (pc := 86) C (tgt := 90) dX11_way_86 (by decide) ?_
              exact hj34 S54 (1 : Int32) _ (lv_sub hl [0, 1, 2, 3, 4] rfl)
            refine r_icmp_eq (pc := 72) C (tgt := 85) dX11_way_72 (by decide) (fun _ => ?_) (fun _ => ?_)
            · exact hj53 S31  _ (lv_sub hl [0, 1, 2, 3, 4] rfl)
            · refine r_aload_n (pc := 75) C dX11_way_75 rfl (lv_at hl 0 rfl) ?_
              refine gf_X11_7 (pc := 76) C t0 dX11_way_76 ?_
              have t55 := ft_11_1 t0
              refine r_iload_n (pc := 79) C dX11_way_79 rfl (lv_at hl 1 rfl) ?_
              refine r_iald (pc := 80) C t55 dX11_way_80 ?_
              refine r_iconst (pc := 81) C (3 : Int32) dX11_way_81 (by decide) ?_
              refine r_icmp_ne (pc := 82) C (tgt := 89) dX11_way_82 (by decide) (fun _ => ?_) (fun _ => ?_)
              · refine r_iconst (pc := 89) C (0 : Int32) dX11_way_89 (by decide) ?_
                exact hj34 S31 (0 : Int32) _ (lv_sub hl [0, 1, 2, 3, 4] rfl)
              · exact hj53 S31  _ (lv_sub hl [0, 1, 2, 3, 4] rfl)
          · exact hj25 S31  _ (lv_sub hl [0] rfl)
      refine r_if_ne (pc := 33) C (tgt := 44) dX11_way_33 (by decide) (fun _ => ?_) (fun _ => ?_)
      · exact hj29 S23  _ (lv_sub hl [1, 2, 3, 4, 0] rfl)
      · refine r_aload_n (pc := 36) C dX11_way_36 rfl (lv_at hl 1 rfl) ?_
        refine r_iload_n (pc := 37) C dX11_way_37 rfl (lv_at hl 3 rfl) ?_
        refine cv_X11_121 (pc := 38) C t0 hl.1 ⟨Nat.le_of_ble_eq_true rfl, Nat.le_of_ble_eq_true rfl⟩ (Nat.le_of_ble_eq_true rfl) dX11_way_38 (fun S56 v57 => ?_)
        refine r_if_eq (pc := 41) C (tgt := 59) dX11_way_41 (by decide) (fun _ => ?_) (fun _ => ?_)
        · exact hj25 S56  _ (lv_sub hl [1] rfl)
        · exact hj29 S56  _ (lv_sub hl [1, 2, 3, 4, 0] rfl)
  · refine r_aload_n (pc := 7) C dX11_way_7 rfl (lv_at hl 0 rfl) ?_
    refine r_bipush (pc := 8) C (-6 : Int32) dX11_way_8 (by decide) ?_
    refine cv_X11_118 (pc := 10) C t0 hl.1 ⟨Nat.le_of_ble_eq_true rfl, Nat.le_of_ble_eq_true rfl⟩ (Nat.le_of_ble_eq_true rfl) dX11_way_10 (fun S58 v59 => ?_)
    exact r_iret (pc := 13) C hr hk dX11_way_13

theorem ct_X11_way (l : Launch) {D : va_G} {cy : Nat → ClassId} {base tS : Nat} {S : St} {k0 : Nat} {v1 : Int32} {v2 : Int32} {v3 : Int32} (t0 : cls k0 = 11) {S1 : St} {r1 : Int32} (h : X11_way S k0 v1 v2 v3 = some (S1, r1)) : Met l yX11_way (wsY yX11_way cX11_way 6 (some .int)) rm_X11_way (va_Pc [.ref (base + k0), .int v1, .int v2, .int v3] (World D cy base tS S)) (QcI D cy base tS S1 r1) 0 0 (AA base) := conI rfl rfl (by decide) (Nat.le_of_ble_eq_true rfl) (fun p e s m args below meth c ls C hr hk hl => sm_X11_way C hr hk t0 hl) h
