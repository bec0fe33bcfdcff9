abbrev rm_X10_found : Room := { frames := 0, cells := 0, slots := 0, locals := 0 }
set_option maxHeartbeats 4000000 in
set_option maxRecDepth 100000 in
theorem sm_X10_found {p : Program} {l : Launch} {e : Env} {s : State} {m : MethodId} {args : Array Value} {below : List Frame} {meth : Method} {c : Code} {D : va_G} {cy : Nat → ClassId} {base tS : Nat} {S : St} {k0 : Nat} {v1 : Int32} {ls : Array Slot} (C : Cx p rm_X10_found s m args c RX10 cX10_found 2 D cy base tS 0 0) (hr : meth.sig.returnType = (some .int)) (hk : meth.locks = false) (t0 : cls k0 = 10) (hl : lv_has ls 2 [(0, .ref (base + k0)), (1, .int v1)]) : Sim p l e rm_X10_found s m args below meth c D cy base 0 0 (fun S1 r => MQ below (QcI D cy base tS S1 r) args s 0 0 (AA base)) (X10_found S k0 v1) S (F0 m 0 ls []) := by
  unfold X10_found
  refine r_aload_n (pc := 0) C dX10_found_0 rfl (lv_at hl 0 rfl) ?_
  refine r_dup (pc := 1) C dX10_found_1 rfl ?_
  refine gf_X10_313 (pc := 2) C t0 dX10_found_2 ?_
  refine r_iconst (pc := 5) C (1 : Int32) dX10_found_5 (by decide) ?_
  refine r_iadd (pc := 6) C dX10_found_6 ?_
  refine pf_X10_313 (pc := 7) C t0 dX10_found_7 (fun S21 => ?_)
  refine r_iload_n (pc := 10) C dX10_found_10 rfl (lv_at hl 1 rfl) ?_
  exact r_iret (pc := 11) C hr hk dX10_found_11

theorem ct_X10_found (l : Launch) {D : va_G} {cy : Nat → ClassId} {base tS : Nat} {S : St} {k0 : Nat} {v1 : Int32} (t0 : cls k0 = 10) {S1 : St} {r1 : Int32} (h : X10_found S k0 v1 = some (S1, r1)) : Met l yX10_found (wsY yX10_found cX10_found 2 (some .int)) rm_X10_found (va_Pc [.ref (base + k0), .int v1] (World D cy base tS S)) (QcI D cy base tS S1 r1) 0 0 (AA base) := conI rfl rfl (by decide) (Nat.le_of_ble_eq_true rfl) (fun p e s m args below meth c ls C hr hk hl => sm_X10_found C hr hk t0 hl) h
theorem cv_X10_96 {p : Program} {l : Launch} {e : Env} {R : Room} {s : State} {m : MethodId} {args : Array Value} {below : List Frame} {meth : Method} {c : Code} {D : va_G} {cy : Nat → ClassId} {base tS nc ns : Nat} {cc : ByteArray} {nL pc : Nat} {ls : Array Slot} {rest : List Value} {S : St} {ρ : Type} {Q : St → ρ → State → Prop} (C : Cx p R s m args c RX10 cc nL D cy base tS nc ns) {k0 : Nat} {v1 : Int32} (t0 : cls k0 = 10) (hl : ls.size = nL) (hR : rm_X10_found.frames + 1 ≤ R.frames ∧ 8 + (2 + 11) + rm_X10_found.locals ≤ R.locals) {b : St → Int32 → Option (St × ρ)} (hroom : (rest.map fun v => v.category).sum ≤ 8) (hd : decode cc pc = .ok (.invokevirtual 96, 3)) (kk : ∀ (S1 : St) (r : Int32), Sim p l e R s m args below meth c D cy base nc ns Q (b S1 r) S1 (F0 m (pc + 3) ls (.int r :: rest))) : Sim p l e R s m args below meth c D cy base nc ns Q (bd (X10_found S k0 v1) b) S (F0 m pc ls (.int v1 :: .ref (base + k0) :: rest)) := r_callVI (n := 1) (As := [.int v1]) C hl (rd_10 t0) (cls_lt t0 (by decide)) rfl (fun S1 r1 h => ct_X10_found l t0 h) wd_161 wd_162 wd_163 wd_164 wd_165 rfl rfl (by decide +kernel) hR rfl rfl hroom hd kk
abbrev rm_X7_addPlace : Room := { frames := 0, cells := 0, slots := 0, locals := 0 }
set_option maxHeartbeats 4000000 in
set_option maxRecDepth 100000 in
theorem sm_X7_addPlace {p : Program} {l : Launch} {e : Env} {s : State} {m : MethodId} {args : Array Value} {below : List Frame} {meth : Method} {c : Code} {D : va_G} {cy : Nat → ClassId} {base tS : Nat} {S : St} {k0 : Nat} {v1 : Int32} {ls : Array Slot} (C : Cx p rm_X7_addPlace s m args c RX7 cX7_addPlace 2 D cy base tS 0 0) (hr : meth.sig.returnType = (some .int)) (hk : meth.locks = false) (t0 : cls k0 = 7) (hl : lv_has ls 2 [(0, .ref (base + k0)), (1, .int v1)]) : Sim p l e rm_X7_addPlace s m args below meth c D cy base 0 0 (fun S1 r => MQ below (QcI D cy base tS S1 r) args s 0 0 (AA base)) (X7_addPlace S k0 v1) S (F0 m 0 ls []) := by
  unfold X7_addPlace
  refine r_aload_n (pc := 0) C dX7_addPlace_0 rfl (lv_at hl 0 rfl) ?_
  refine gf_X7_9 (pc := 1) C t0 dX7_addPlace_1 ?_
  have t21 := ft_7_0 t0
  refine r_aload_n (pc := 4) C dX7_addPlace_4 rfl (lv_at hl 0 rfl) ?_
  refine gf_X7_23 (pc := 5) C t0 dX7_addPlace_5 ?_
  refine r_iload_n (pc := 8) C dX7_addPlace_8 rfl (lv_at hl 1 rfl) ?_
  refine r_iast (pc := 9) C t21 dX7_addPlace_9 (fun S22 => ?_)
  refine r_aload_n (pc := 10) C dX7_addPlace_10 rfl (lv_at hl 0 rfl) ?_
  refine r_dup (pc := 11) C dX7_addPlace_11 rfl ?_
  refine gf_X7_23 (pc := 12) C t0 dX7_addPlace_12 ?_
  refine r_iconst (pc := 15) C (1 : Int32) dX7_addPlace_15 (by decide) ?_
  refine r_iadd (pc := 16) C dX7_addPlace_16 ?_
  refine pf_X7_23 (pc := 17) C t0 dX7_addPlace_17 (fun S23 => ?_)
  refine r_aload_n (pc := 20) C dX7_addPlace_20 rfl (lv_at hl 0 rfl) ?_
  refine gf_X7_23 (pc := 21) C t0 dX7_addPlace_21 ?_
  refine r_iconst (pc := 24) C (1 : Int32) dX7_addPlace_24 (by decide) ?_
  refine r_isub (pc := 25) C dX7_addPlace_25 ?_
  exact r_iret (pc := 26) C hr hk dX7_addPlace_26

theorem ct_X7_addPlace (l : Launch) {D : va_G} {cy : Nat → ClassId} {base tS : Nat} {S : St} {k0 : Nat} {v1 : Int32} (t0 : cls k0 = 7) {S1 : St} {r1 : Int32} (h : X7_addPlace S k0 v1 = some (S1, r1)) : Met l yX7_addPlace (wsY yX7_addPlace cX7_addPlace 2 (some .int)) rm_X7_addPlace (va_Pc [.ref (base + k0), .int v1] (World D cy base tS S)) (QcI D cy base tS S1 r1) 0 0 (AA base) := conI rfl rfl (by decide) (Nat.le_of_ble_eq_true rfl) (fun p e s m args below meth c ls C hr hk hl => sm_X7_addPlace C hr hk t0 hl) h
theorem cv_X10_104 {p : Program} {l : Launch} {e : Env} {R : Room} {s : State} {m : MethodId} {args : Array Value} {below : List Frame} {meth : Method} {c : Code} {D : va_G} {cy : Nat → ClassId} {base tS nc ns : Nat} {cc : ByteArray} {nL pc : Nat} {ls : Array Slot} {rest : List Value} {S : St} {ρ : Type} {Q : St → ρ → State → Prop} (C : Cx p R s m args c RX10 cc nL D cy base tS nc ns) {k0 : Nat} {v1 : Int32} (t0 : cls k0 = 7) (hl : ls.size = nL) (hR : rm_X7_addPlace.frames + 1 ≤ R.frames ∧ 8 + (2 + 11) + rm_X7_addPlace.locals ≤ R.locals) {b : St → Int32 → Option (St × ρ)} (hroom : (rest.map fun v => v.category).sum ≤ 8) (hd : decode cc pc = .ok (.invokevirtual 104, 3)) (kk : ∀ (S1 : St) (r : Int32), Sim p l e R s m args below meth c D cy base nc ns Q (b S1 r) S1 (F0 m (pc + 3) ls (.int r :: rest))) : Sim p l e R s m args below meth c D cy base nc ns Q (bd (X7_addPlace S k0 v1) b) S (F0 m pc ls (.int v1 :: .ref (base + k0) :: rest)) := r_callVI (n := 1) (As := [.int v1]) C hl (rd_7 t0) (cls_lt t0 (by decide)) rfl (fun S1 r1 h => ct_X7_addPlace l t0 h) wd_166 wd_167 wd_168 wd_169 wd_170 rfl rfl (by decide +kernel) hR rfl rfl hroom hd kk
abbrev rm_X10_place : Room := { frames := 1, cells := 0, slots := 0, locals := 21 }
set_option maxHeartbeats 4000000 in
set_option maxRecDepth 100000 in
theorem sm_X10_place {p : Program} {l : Launch} {e : Env} {s : State} {m : MethodId} {args : Array Value} {below : List Frame} {meth : Method} {c : Code} {D : va_G} {cy : Nat → ClassId} {base tS : Nat} {S : St} {k0 : Nat} {v1 : Int32} {ls : Array Slot} (C : Cx p rm_X10_place s m args c RX10 cX10_place 2 D cy base tS 0 0) (hr : meth.sig.returnType = (some .int)) (hk : meth.locks = false) (t0 : cls k0 = 10) (hl : lv_has ls 2 [(0, .ref (base + k0)), (1, .int v1)]) : Sim p l e rm_X10_place s m args below meth c D cy base 0 0 (fun S1 r => MQ below (QcI D cy base tS S1 r) args s 0 0 (AA base)) (X10_place S k0 v1) S (F0 m 0 ls []) := by
  unfold X10_place
  refine r_aload_n (pc := 0) C dX10_place_0 rfl (lv_at hl 0 rfl) ?_
  refine gf_X10_92 (pc := 1) C t0 dX10_place_1 ?_
  refine r_if_eq (pc := 4) C (tgt := 14) dX10_place_4 (by decide) (fun _ => ?_) (fun _ => ?_)
  · refine r_iload_n (pc := 14) C dX10_place_14 rfl (lv_at hl 1 rfl) ?_
    refine r_join (fun (j : St → Option (St × Int32)) => ∀ (S22 : St)  (ls : Array Slot), lv_has ls 2 [(0, .ref (base + k0))] → Sim p l e rm_X10_place s m args below meth c D cy base 0 0 (fun S1 r => MQ below (QcI D cy base tS S1 r) args s 0 0 (AA base)) (j S22) S22 (F0 m 23 ls [])) ?_ (fun j21 hj21 => ?_)
    · intro S22 ls hl
      refine r_aload_n (pc := 23) C dX10_place_23 rfl (lv_at hl 0 rfl) ?_
      refine r_iconst (pc := 24) C (-1 : Int32) dX10_place_24 (by decide) ?_
      refine cv_X10_96 (pc := 25) C t0 hl.1 ⟨Nat.le_of_ble_eq_true rfl, Nat.le_of_ble_eq_true rfl⟩ (Nat.le_of_ble_eq_true rfl) dX10_place_25 (fun S23 v24 => ?_)
      exact r_iret (pc := 28) C hr hk dX10_place_28
    refine r_if_lt (pc := 15) C (tgt := 23) dX10_place_15 (by decide) (fun _ => ?_) (fun _ => ?_)
    · exact hj21 S  _ (lv_sub hl [0] rfl)
    · refine r_iload_n (pc := 18) C dX10_place_18 rfl (lv_at hl 1 rfl) ?_
      refine r_iconst (pc := 19) C (5 : Int32) dX10_place_19 (by decide) ?_
      refine r_icmp_lt (pc := 20) C (tgt := 29) dX10_place_20 (by decide) (fun _ => ?_) (fun _ => ?_)
      · refine r_aload_n (pc := 29) C dX10_place_29 rfl (lv_at hl 0 rfl) ?_
        refine gf_X10_10 (pc := 30) C t0 dX10_place_30 ?_
        have t25 := ft_10_0 t0
        refine gf_X10_100 (pc := 33) C t25 dX10_place_33 ?_
        refine r_bipush (pc := 36) C (12 : Int32) dX10_place_36 (by decide) ?_
        refine r_icmp_lt (pc := 38) C (tgt := 48) dX10_place_38 (by decide) (fun _ => ?_) (fun _ => ?_)
        · refine r_aload_n (pc := 48) C dX10_place_48 rfl (lv_at hl 0 rfl) ?_
          refine gf_X10_10 (pc := 49) C t0 dX10_place_49 ?_
          have t26 := ft_10_0 t0
          refine r_iload_n (pc := 52) C dX10_place_52 rfl (lv_at hl 1 rfl) ?_
          refine cv_X10_104 (pc := 53) C t26 hl.1 ⟨Nat.le_of_ble_eq_true rfl, Nat.le_of_ble_eq_true rfl⟩ (Nat.le_of_ble_eq_true rfl) dX10_place_53 (fun S27 v28 => ?_)
          exact r_iret (pc := 56) C hr hk dX10_place_56
        · refine r_aload_n (pc := 41) C dX10_place_41 rfl (lv_at hl 0 rfl) ?_
          refine r_bipush (pc := 42) C (-5 : Int32) dX10_place_42 (by decide) ?_
          refine cv_X10_96 (pc := 44) C t0 hl.1 ⟨Nat.le_of_ble_eq_true rfl, Nat.le_of_ble_eq_true rfl⟩ (Nat.le_of_ble_eq_true rfl) dX10_place_44 (fun S29 v30 => ?_)
          exact r_iret (pc := 47) C hr hk dX10_place_47
      · exact hj21 S  _ (lv_sub hl [0] rfl)
  · refine r_aload_n (pc := 7) C dX10_place_7 rfl (lv_at hl 0 rfl) ?_
    refine r_bipush (pc := 8) C (-6 : Int32) dX10_place_8 (by decide) ?_
    refine cv_X10_96 (pc := 10) C t0 hl.1 ⟨Nat.le_of_ble_eq_true rfl, Nat.le_of_ble_eq_true rfl⟩ (Nat.le_of_ble_eq_true rfl) dX10_place_10 (fun S31 v32 => ?_)
    exact r_iret (pc := 13) C hr hk dX10_place_13

theorem ct_X10_place (l : Launch) {D : va_G} {cy : Nat → ClassId} {base tS : Nat} {S : St} {k0 : Nat} {v1 : Int32} (t0 : cls k0 = 10) {S1 : St} {r1 : Int32} (h : X10_place S k0 v1 = some (S1, r1)) : Met l yX10_place (wsY yX10_place cX10_place 2 (some .int)) rm_X10_place (va_Pc [.ref (base + k0), .int v1] (World D cy base tS S)) (QcI D cy base tS S1 r1) 0 0 (AA base) := conI rfl rfl (by decide) (Nat.le_of_ble_eq_true rfl) (fun p e s m args below meth c ls C hr hk hl => sm_X10_place C hr hk t0 hl) h
abbrev rm_X7_endOf : Room := { frames := 0, cells := 0, slots := 0, locals := 0 }
set_option maxHeartbeats 4000000 in
set_option maxRecDepth 100000 in
theorem sm_X7_endOf {p : Program} {l : Launch} {e : Env} {s : State} {m : MethodId} {args : Array Value} {below : List Frame} {meth : Method} {c : Code} {D : va_G} {cy : Nat → ClassId} {base tS : Nat} {S : St} {k0 : Nat} {v1 : Int32} {ls : Array Slot} (C : Cx p rm_X7_endOf s m args c RX7 cX7_endOf 2 D cy base tS 0 0) (hr : meth.sig.returnType = (some .int)) (hk : meth.locks = false) (t0 : cls k0 = 7) (hl : lv_has ls 2 [(0, .ref (base + k0)), (1, .int v1)]) : Sim p l e rm_X7_endOf s m args below meth c D cy base 0 0 (fun S1 r => MQ below (QcI D cy base tS S1 r) args s 0 0 (AA base)) (X7_endOf S k0 v1) S (F0 m 0 ls []) := by
  unfold X7_endOf
  refine r_iload_n (pc := 0) C dX7_endOf_0 rfl (lv_at hl 1 rfl) ?_
  refine r_if_lt (pc := 1) C (tgt := 8) dX7_endOf_1 (by decide) (fun _ => ?_) (fun _ => ?_)
  · refine r_bipush (pc := 8) C (11 : Int32) dX7_endOf_8 (by decide) ?_
    refine r_iload_n (pc := 10) C dX7_endOf_10 rfl (lv_at hl 1 rfl) ?_
    refine r_isub (pc := 11) C dX7_endOf_11 ?_
    exact r_iret (pc := 12) C hr hk dX7_endOf_12
  · refine r_iload_n (pc := 4) C dX7_endOf_4 rfl (lv_at hl 1 rfl) ?_
    refine r_goto (pc := 5) C (tgt := 12) dX7_endOf_5 (by decide) ?_
    exact r_iret (pc := 12) C hr hk dX7_endOf_12

theorem ct_X7_endOf (l : Launch) {D : va_G} {cy : Nat → ClassId} {base tS : Nat} {S : St} {k0 : Nat} {v1 : Int32} (t0 : cls k0 = 7) {S1 : St} {r1 : Int32} (h : X7_endOf S k0 v1 = some (S1, r1)) : Met l yX7_endOf (wsY yX7_endOf cX7_endOf 2 (some .int)) rm_X7_endOf (va_Pc [.ref (base + k0), .int v1] (World D cy base tS S)) (QcI D cy base tS S1 r1) 0 0 (AA base) := conI rfl rfl (by decide) (Nat.le_of_ble_eq_true rfl) (fun p e s m args below meth c ls C hr hk hl => sm_X7_endOf C hr hk t0 hl) h
theorem cv_X7_34 {p : Program} {l : Launch} {e : Env} {R : Room} {s : State} {m : MethodId} {args : Array Value} {below : List Frame} {meth : Method} {c : Code} {D : va_G} {cy : Nat → ClassId} {base tS nc ns : Nat} {cc : ByteArray} {nL pc : Nat} {ls : Array Slot} {rest : List Value} {S : St} {ρ : Type} {Q : St → ρ → State → Prop} (C : Cx p R s m args c RX7 cc nL D cy base tS nc ns) {k0 : Nat} {v1 : Int32} (t0 : cls k0 = 7) (hl : ls.size = nL) (hR : rm_X7_endOf.frames + 1 ≤ R.frames ∧ 8 + (2 + 11) + rm_X7_endOf.locals ≤ R.locals) {b : St → Int32 → Option (St × ρ)} (hroom : (rest.map fun v => v.category).sum ≤ 8) (hd : decode cc pc = .ok (.invokevirtual 34, 3)) (kk : ∀ (S1 : St) (r : Int32), Sim p l e R s m args below meth c D cy base nc ns Q (b S1 r) S1 (F0 m (pc + 3) ls (.int r :: rest))) : Sim p l e R s m args below meth c D cy base nc ns Q (bd (X7_endOf S k0 v1) b) S (F0 m pc ls (.int v1 :: .ref (base + k0) :: rest)) := r_callVI (n := 1) (As := [.int v1]) C hl (rd_7 t0) (cls_lt t0 (by decide)) rfl (fun S1 r1 h => ct_X7_endOf l t0 h) wd_171 wd_172 wd_173 wd_169 wd_174 rfl rfl (by decide +kernel) hR rfl rfl hroom hd kk
abbrev rm_X7_addWay : Room := { frames := 1, cells := 0, slots := 0, locals := 21 }
set_option maxHeartbeats 4000000 in
set_option maxRecDepth 100000 in
theorem sm_X7_addWay {p : Program} {l : Launch} {e : Env} {s : State} {m : MethodId} {args : Array Value} {below : List Frame} {meth : Method} {c : Code} {D : va_G} {cy : Nat → ClassId} {base tS : Nat} {S : St} {k0 : Nat} {v1 : Int32} {v2 : Int32} {v3 : Int32} {ls : Array Slot} (C : Cx p rm_X7_addWay s m args c RX7 cX7_addWay 4 D cy base tS 0 0) (hr : meth.sig.returnType = (some .int)) (hk : meth.locks = false) (t0 : cls k0 = 7) (hl : lv_has ls 4 [(0, .ref (base + k0)), (1, .int v1), (2, .int v2), (3, .int v3)]) : Sim p l e rm_X7_addWay s m args below meth c D cy base 0 0 (fun S1 r => MQ below (QcI D cy base tS S1 r) args s 0 0 (AA base)) (X7_addWay S k0 v1 v2 v3) S (F0 m 0 ls []) := by
  unfold X7_addWay
  refine r_aload_n (pc := 0) C dX7_addWay_0 rfl (lv_at hl 0 rfl) ?_
  refine gf_X7_17 (pc := 1) C t0 dX7_addWay_1 ?_
  have t21 := ft_7_1 t0
  refine r_iload_n (pc := 4) C dX7_addWay_4 rfl (lv_at hl 1 rfl) ?_
  refine r_aald17 (pc := 5) C t21 dX7_addWay_5 (fun b23 => ?_)
  have t22 := et_17_12 t21 b23
  refine r_aload_n (pc := 6) C dX7_addWay_6 rfl (lv_at hl 0 rfl) ?_
  refine r_iload_n (pc := 7) C dX7_addWay_7 rfl (lv_at hl 2 rfl) ?_
  refine cv_X7_34 (pc := 8) C t0 hl.1 ⟨Nat.le_of_ble_eq_true rfl, Nat.le_of_ble_eq_true rfl⟩ (Nat.le_of_ble_eq_true rfl) dX7_addWay_8 (fun S24 v25 => ?_)
  refine r_dup2_11 (pc := 11) C dX7_addWay_11 rfl rfl ?_
  refine r_iald (pc := 12) C t22 dX7_addWay_12 ?_
  refine r_iload_n (pc := 13) C dX7_addWay_13 rfl (lv_at hl 3 rfl) ?_
  refine r_iadd (pc := 14) C dX7_addWay_14 ?_
  refine r_iast (pc := 15) C t22 dX7_addWay_15 (fun S26 => ?_)
  refine r_aload_n (pc := 16) C dX7_addWay_16 rfl (lv_at hl 0 rfl) ?_
  refine gf_X7_20 (pc := 17) C t0 dX7_addWay_17 ?_
  have t27 := ft_7_2 t0
  refine r_iload_n (pc := 20) C dX7_addWay_20 rfl (lv_at hl 1 rfl) ?_
  refine r_dup2_11 (pc := 21) C dX7_addWay_21 rfl rfl ?_
  refine r_iald (pc := 22) C t27 dX7_addWay_22 ?_
  refine r_iload_n (pc := 23) C dX7_addWay_23 rfl (lv_at hl 3 rfl) ?_
  refine r_iadd (pc := 24) C dX7_addWay_24 ?_
  refine r_iast (pc := 25) C t27 dX7_addWay_25 (fun S28 => ?_)
  refine r_aload_n (pc := 26) C dX7_addWay_26 rfl (lv_at hl 0 rfl) ?_
  refine gf_X7_20 (pc := 27) C t0 dX7_addWay_27 ?_
  have t29 := ft_7_2 t0
  refine r_iload_n (pc := 30) C dX7_addWay_30 rfl (lv_at hl 1 rfl) ?_
  refine r_iald (pc := 31) C t29 dX7_addWay_31 ?_
  exact r_iret (pc := 32) C hr hk dX7_addWay_32

theorem ct_X7_addWay (l : Launch) {D : va_G} {cy : Nat → ClassId} {base tS : Nat} {S : St} {k0 : Nat} {v1 : Int32} {v2 : Int32} {v3 : Int32} (t0 : cls k0 = 7) {S1 : St} {r1 : Int32} (h : X7_addWay S k0 v1 v2 v3 = some (S1, r1)) : Met l yX7_addWay (wsY yX7_addWay cX7_addWay 4 (some .int)) rm_X7_addWay (va_Pc [.ref (base + k0), .int v1, .int v2, .int v3] (World D cy base tS S)) (QcI D cy base tS S1 r1) 0 0 (AA base) := conI rfl rfl (by decide) (Nat.le_of_ble_eq_true rfl) (fun p e s m args below meth c ls C hr hk hl => sm_X7_addWay C hr hk t0 hl) h
theorem cv_X10_118 {p : Program} {l : Launch} {e : Env} {R : Room} {s : State} {m : MethodId} {args : Array Value} {below : List Frame} {meth : Method} {c : Code} {D : va_G} {cy : Nat → ClassId} {base tS nc ns : Nat} {cc : ByteArray} {nL pc : Nat} {ls : Array Slot} {rest : List Value} {S : St} {ρ : Type} {Q : St → ρ → State → Prop} (C : Cx p R s m args c RX10 cc nL D cy base tS nc ns) {k0 : Nat} {v1 : Int32} {v2 : Int32} {v3 : Int32} (t0 : cls k0 = 7) (hl : ls.size = nL) (hR : rm_X7_addWay.frames + 1 ≤ R.frames ∧ 8 + (4 + 11) + rm_X7_addWay.locals ≤ R.locals) {b : St → Int32 → Option (St × ρ)} (hroom : (rest.map fun v => v.category).sum ≤ 8) (hd : decode cc pc = .ok (.invokevirtual 118, 3)) (kk : ∀ (S1 : St) (r : Int32), Sim p l e R s m args below meth c D cy base nc ns Q (b S1 r) S1 (F0 m (pc + 3) ls (.int r :: rest))) : Sim p l e R s m args below meth c D cy base nc ns Q (bd (X7_addWay S k0 v1 v2 v3) b) S (F0 m pc ls (.int v3 :: .int v2 :: .int v1 :: .ref (base + k0) :: rest)) := r_callVI (n := 3) (As := [.int v1, .int v2, .int v3]) C hl (rd_7 t0) (cls_lt t0 (by decide)) rfl (fun S1 r1 h => ct_X7_addWay l t0 h) wd_175 wd_176 wd_177 wd_169 wd_178 rfl rfl (by decide +kernel) hR rfl rfl hroom hd kk
abbrev rm_X7_has : Room := { frames := 0, cells := 0, slots := 0, locals := 0 }
set_option maxHeartbeats 4000000 in
set_option maxRecDepth 100000 in
theorem sm_X7_has {p : Program} {l : Launch} {e : Env} {s : State} {m : MethodId} {args : Array Value} {below : List Frame} {meth : Method} {c : Code} {D : va_G} {cy : Nat → ClassId} {base tS : Nat} {S : St} {k0 : Nat} {v1 : Int32} {ls : Array Slot} (C : Cx p rm_X7_has s m args c RX7 cX7_has 2 D cy base tS 0 0) (hr : meth.sig.returnType = (some .boolean)) (hk : meth.locks = false) (t0 : cls k0 = 7) (hl : lv_has ls 2 [(0, .ref (base + k0)), (1, .int v1)]) : Sim p l e rm_X7_has s m args below meth c D cy base 0 0 (fun S1 r => MQ below (QcI D cy base tS S1 r) args s 0 0 (AA base)) (X7_has S k0 v1) S (F0 m 0 ls []) := by
  unfold X7_has
  refine r_iload_n (pc := 0) C dX7_has_0 rfl (lv_at hl 1 rfl) ?_
  refine r_join (fun (j : St → Option (St × Int32)) => ∀ (S22 : St)  (ls : Array Slot), lv_has ls 2 [] → Sim p l e rm_X7_has s m args below meth c D cy base 0 0 (fun S1 r => MQ below (QcI D cy base tS S1 r) args s 0 0 (AA base)) (j S22) S22 (F0 m 16 ls [])) ?_ (fun j21 hj21 => ?_)
  · intro S22 ls hl
    refine r_iconst (pc := 16) C (0 : Int32) dX7_has_16 (by decide) ?_
    exact r_zret (pc := 17) C rfl hr hk dX7_has_17
  refine r_if_lt (pc := 1) C (tgt := 16) dX7_has_1 (by decide) (fun _ => ?_) (fun _ => ?_)
  · exact hj21 S  _ (lv_sub hl [] rfl)
  · refine r_iload_n (pc := 4) C dX7_has_4 rfl (lv_at hl 1 rfl) ?_
    refine r_aload_n (pc := 5) C dX7_has_5 rfl (lv_at hl 0 rfl) ?_
    refine gf_X7_23 (pc := 6) C t0 dX7_has_6 ?_
    refine r_icmp_ge (pc := 9) C (tgt := 16) dX7_has_9 (by decide) (fun _ => ?_) (fun _ => ?_)
    · exact hj21 S  _ (lv_sub hl [] rfl)
    · refine r_iconst (pc := 12) C (1 : Int32) dX7_has_12 (by decide) ?_
      refine r_goto (pc := 13) C (tgt := 17) dX7_has_13 (by decide) ?_
      exact r_zret (pc := 17) C rfl hr hk dX7_has_17

theorem ct_X7_has (l : Launch) {D : va_G} {cy : Nat → ClassId} {base tS : Nat} {S : St} {k0 : Nat} {v1 : Int32} (t0 : cls k0 = 7) {S1 : St} {r1 : Int32} (h : X7_has S k0 v1 = some (S1, r1)) : Met l yX7_has (wsY yX7_has cX7_has 2 (some .boolean)) rm_X7_has (va_Pc [.ref (base + k0), .int v1] (World D cy base tS S)) (QcI D cy base tS S1 r1) 0 0 (AA base) := conI rfl rfl (by decide) (Nat.le_of_ble_eq_true rfl) (fun p e s m args below meth c ls C hr hk hl => sm_X7_has C hr hk t0 hl) h
theorem cv_X10_107 {p : Program} {l : Launch} {e : Env} {R : Room} {s : State} {m : MethodId} {args : Array Value} {below : List Frame} {meth : Method} {c : Code} {D : va_G} {cy : Nat → ClassId} {base tS nc ns : Nat} {cc : ByteArray} {nL pc : Nat} {ls : Array Slot} {rest : List Value} {S : St} {ρ : Type} {Q : St → ρ → State → Prop} (C : Cx p R s m args c RX10 cc nL D cy base tS nc ns) {k0 : Nat} {v1 : Int32} (t0 : cls k0 = 7) (hl : ls.size = nL) (hR : rm_X7_has.frames + 1 ≤ R.frames ∧ 8 + (2 + 11) + rm_X7_has.locals ≤ R.locals) {b : St → Int32 → Option (St × ρ)} (hroom : (rest.map fun v => v.category).sum ≤ 8) (hd : decode cc pc = .ok (.invokevirtual 107, 3)) (kk : ∀ (S1 : St) (r : Int32), Sim p l e R s m args below meth c D cy base nc ns Q (b S1 r) S1 (F0 m (pc + 3) ls (.int r :: rest))) : Sim p l e R s m args below meth c D cy base nc ns Q (bd (X7_has S k0 v1) b) S (F0 m pc ls (.int v1 :: .ref (base + k0) :: rest)) := r_callVI (n := 1) (As := [.int v1]) C hl (rd_7 t0) (cls_lt t0 (by decide)) rfl (fun S1 r1 h => ct_X7_has l t0 h) wd_179 wd_180 wd_181 wd_169 wd_182 rfl rfl (by decide +kernel) hR rfl rfl hroom hd kk
theorem cv_X7_27 {p : Program} {l : Launch} {e : Env} {R : Room} {s : State} {m : MethodId} {args : Array Value} {below : List Frame} {meth : Method} {c : Code} {D : va_G} {cy : Nat → ClassId} {base tS nc ns : Nat} {cc : ByteArray} {nL pc : Nat} {ls : Array Slot} {rest : List Value} {S : St} {ρ : Type} {Q : St → ρ → State → Prop} (C : Cx p R s m args c RX7 cc nL D cy base tS nc ns) {k0 : Nat} {v1 : Int32} (t0 : cls k0 = 7) (hl : ls.size = nL) (hR : rm_X7_has.frames + 1 ≤ R.frames ∧ 8 + (2 + 11) + rm_X7_has.locals ≤ R.locals) {b : St → Int32 → Option (St × ρ)} (hroom : (rest.map fun v => v.category).sum ≤ 8) (hd : decode cc pc = .ok (.invokevirtual 27, 3)) (kk : ∀ (S1 : St) (r : Int32), Sim p l e R s m args below meth c D cy base nc ns Q (b S1 r) S1 (F0 m (pc + 3) ls (.int r :: rest))) : Sim p l e R s m args below meth c D cy base nc ns Q (bd (X7_has S k0 v1) b) S (F0 m pc ls (.int v1 :: .ref (base + k0) :: rest)) := r_callVI (n := 1) (As := [.int v1]) C hl (rd_7 t0) (cls_lt t0 (by decide)) rfl (fun S1 r1 h => ct_X7_has l t0 h) wd_183 wd_180 wd_181 wd_169 wd_182 rfl rfl (by decide +kernel) hR rfl rfl hroom hd kk
abbrev rm_X7_isDitch : Room := { frames := 0, cells := 0, slots := 0, locals := 0 }
set_option maxHeartbeats 4000000 in
set_option maxRecDepth 100000 in
theorem sm_X7_isDitch {p : Program} {l : Launch} {e : Env} {s : State} {m : MethodId} {args : Array Value} {below : List Frame} {meth : Method} {c : Code} {D : va_G} {cy : Nat → ClassId} {base tS : Nat} {S : St} {k0 : Nat} {v1 : Int32} {ls : Array Slot} (C : Cx p rm_X7_isDitch s m args c RX7 cX7_isDitch 2 D cy base tS 0 0) (hr : meth.sig.returnType = (some .boolean)) (hk : meth.locks = false) (t0 : cls k0 = 7) (hl : lv_has ls 2 [(0, .ref (base + k0)), (1, .int v1)]) : Sim p l e rm_X7_isDitch s m args below meth c D cy base 0 0 (fun S1 r => MQ below (QcI D cy base tS S1 r) args s 0 0 (AA base)) (X7_isDitch S k0 v1) S (F0 m 0 ls []) := by
  unfold X7_isDitch
  refine r_iload_n (pc := 0) C dX7_isDitch_0 rfl (lv_at hl 1 rfl) ?_
  refine r_join (fun (j : St → Option (St × Int32)) => ∀ (S22 : St)  (ls : Array Slot), lv_has ls 2 [] → Sim p l e rm_X7_isDitch s m args below meth c D cy base 0 0 (fun S1 r => MQ below (QcI D cy base tS S1 r) args s 0 0 (AA base)) (j S22) S22 (F0 m 14 ls [])) ?_ (fun j21 hj21 => ?_)
  · intro S22 ls hl
    refine r_iconst (pc := 14) C (0 : Int32) dX7_isDitch_14 (by decide) ?_
    exact r_zret (pc := 15) C rfl hr hk dX7_isDitch_15
  refine r_if_ge (pc := 1) C (tgt := 14) dX7_isDitch_1 (by decide) (fun _ => ?_) (fun _ => ?_)
  · exact hj21 S  _ (lv_sub hl [] rfl)
  · refine r_iload_n (pc := 4) C dX7_isDitch_4 rfl (lv_at hl 1 rfl) ?_
    refine r_bipush (pc := 5) C (-3 : Int32) dX7_isDitch_5 (by decide) ?_
    refine r_icmp_lt (pc := 7) C (tgt := 14) dX7_isDitch_7 (by decide) (fun _ => ?_) (fun _ => ?_)
    · exact hj21 S  _ (lv_sub hl [] rfl)
    · refine r_iconst (pc := 10) C (1 : Int32) dX7_isDitch_10 (by decide) ?_
      refine r_goto (pc := 11) C (tgt := 15) dX7_isDitch_11 (by decide) ?_
      exact r_zret (pc := 15) C rfl hr hk dX7_isDitch_15

theorem ct_X7_isDitch (l : Launch) {D : va_G} {cy : Nat → ClassId} {base tS : Nat} {S : St} {k0 : Nat} {v1 : Int32} (t0 : cls k0 = 7) {S1 : St} {r1 : Int32} (h : X7_isDitch S k0 v1 = some (S1, r1)) : Met l yX7_isDitch (wsY yX7_isDitch cX7_isDitch 2 (some .boolean)) rm_X7_isDitch (va_Pc [.ref (base + k0), .int v1] (World D cy base tS S)) (QcI D cy base tS S1 r1) 0 0 (AA base) := conI rfl rfl (by decide) (Nat.le_of_ble_eq_true rfl) (fun p e s m args below meth c ls C hr hk hl => sm_X7_isDitch C hr hk t0 hl) h
theorem cv_X10_150 {p : Program} {l : Launch} {e : Env} {R : Room} {s : State} {m : MethodId} {args : Array Value} {below : List Frame} {meth : Method} {c : Code} {D : va_G} {cy : Nat → ClassId} {base tS nc ns : Nat} {cc : ByteArray} {nL pc : Nat} {ls : Array Slot} {rest : List Value} {S : St} {ρ : Type} {Q : St → ρ → State → Prop} (C : Cx p R s m args c RX10 cc nL D cy base tS nc ns) {k0 : Nat} {v1 : Int32} (t0 : cls k0 = 7) (hl : ls.size = nL) (hR : rm_X7_isDitch.frames + 1 ≤ R.frames ∧ 8 + (2 + 11) + rm_X7_isDitch.locals ≤ R.locals) {b : St → Int32 → Option (St × ρ)} (hroom : (rest.map fun v => v.category).sum ≤ 8) (hd : decode cc pc = .ok (.invokevirtual 150, 3)) (kk : ∀ (S1 : St) (r : Int32), Sim p l e R s m args below meth c D cy base nc ns Q (b S1 r) S1 (F0 m (pc + 3) ls (.int r :: rest))) : Sim p l e R s m args below meth c D cy base nc ns Q (bd (X7_isDitch S k0 v1) b) S (F0 m pc ls (.int v1 :: .ref (base + k0) :: rest)) := r_callVI (n := 1) (As := [.int v1]) C hl (rd_7 t0) (cls_lt t0 (by decide)) rfl (fun S1 r1 h => ct_X7_isDitch l t0 h) wd_184 wd_185 wd_186 wd_169 wd_187 rfl rfl (by decide +kernel) hR rfl rfl hroom hd kk
theorem cv_X7_31 {p : Program} {l : Launch} {e : Env} {R : Room} {s : State} {m : MethodId} {args : Array Value} {below : List Frame} {meth : Method} {c : Code} {D : va_G} {cy : Nat → ClassId} {base tS nc ns : Nat} {cc : ByteArray} {nL pc : Nat} {ls : Array Slot} {rest : List Value} {S : St} {ρ : Type} {Q : St → ρ → State → Prop} (C : Cx p R s m args c RX7 cc nL D cy base tS nc ns) {k0 : Nat} {v1 : Int32} (t0 : cls k0 = 7) (hl : ls.size = nL) (hR : rm_X7_isDitch.frames + 1 ≤ R.frames ∧ 8 + (2 + 11) + rm_X7_isDitch.locals ≤ R.locals) {b : St → Int32 → Option (St × ρ)} (hroom : (rest.map fun v => v.category).sum ≤ 8) (hd : decode cc pc = .ok (.invokevirtual 31, 3)) (kk : ∀ (S1 : St) (r : Int32), Sim p l e R s m args below meth c D cy base nc ns Q (b S1 r) S1 (F0 m (pc + 3) ls (.int r :: rest))) : Sim p l e R s m args below meth c D cy base nc ns Q (bd (X7_isDitch S k0 v1) b) S (F0 m pc ls (.int v1 :: .ref (base + k0) :: rest)) := r_callVI (n := 1) (As := [.int v1]) C hl (rd_7 t0) (cls_lt t0 (by decide)) rfl (fun S1 r1 h => ct_X7_isDitch l t0 h) wd_188 wd_185 wd_186 wd_169 wd_187 rfl rfl (by decide +kernel) hR rfl rfl hroom hd kk
abbrev rm_X7_hasEnd : Room := { frames := 1, cells := 0, slots := 0, locals := 21 }
set_option maxHeartbeats 4000000 in
set_option maxRecDepth 100000 in
theorem sm_X7_hasEnd {p : Program} {l : Launch} {e : Env} {s : State} {m : MethodId} {args : Array Value} {below : List Frame} {meth : Method} {c : Code} {D : va_G} {cy : Nat → ClassId} {base tS : Nat} {S : St} {k0 : Nat} {v1 : Int32} {ls : Array Slot} (C : Cx p rm_X7_hasEnd s m args c RX7 cX7_hasEnd 2 D cy base tS 0 0) (hr : meth.sig.returnType = (some .boolean)) (hk : meth.locks = false) (t0 : cls k0 = 7) (hl : lv_has ls 2 [(0, .ref (base + k0)), (1, .int v1)]) : Sim p l e rm_X7_hasEnd s m args below meth c D cy base 0 0 (fun S1 r => MQ below (QcI D cy base tS S1 r) args s 0 0 (AA base)) (X7_hasEnd S k0 v1) S (F0 m 0 ls []) := by
  unfold X7_hasEnd
  refine r_aload_n (pc := 0) C dX7_hasEnd_0 rfl (lv_at hl 0 rfl) ?_
  refine r_iload_n (pc := 1) C dX7_hasEnd_1 rfl (lv_at hl 1 rfl) ?_
  refine cv_X7_27 (pc := 2) C t0 hl.1 ⟨Nat.le_of_ble_eq_true rfl, Nat.le_of_ble_eq_true rfl⟩ (Nat.le_of_ble_eq_true rfl) dX7_hasEnd_2 (fun S21 v22 => ?_)
  refine r_join (fun (j : St → Option (St × Int32)) => ∀ (S24 : St)  (ls : Array Slot), lv_has ls 2 [] → Sim p l e rm_X7_hasEnd s m args below meth c D cy base 0 0 (fun S1 r => MQ below (QcI D cy base tS S1 r) args s 0 0 (AA base)) (j S24) S24 (F0 m 16 ls [])) ?_ (fun j23 hj23 => ?_)
  · intro S24 ls hl
    refine r_iconst (pc := 16) C (1 : Int32) dX7_hasEnd_16 (by decide) ?_
    refine r_goto (pc := 17) C (tgt := 21) dX7_hasEnd_17 (by decide) ?_
    exact r_zret (pc := 21) C rfl hr hk dX7_hasEnd_21
  refine r_if_ne (pc := 5) C (tgt := 16) dX7_hasEnd_5 (by decide) (fun _ => ?_) (fun _ => ?_)
  · exact hj23 S21  _ (lv_sub hl [] rfl)
  · refine r_aload_n (pc := 8) C dX7_hasEnd_8 rfl (lv_at hl 0 rfl) ?_
    refine r_iload_n (pc := 9) C dX7_hasEnd_9 rfl (lv_at hl 1 rfl) ?_
    refine cv_X7_31 (pc := 10) C t0 hl.1 ⟨Nat.le_of_ble_eq_true rfl, Nat.le_of_ble_eq_true rfl⟩ (Nat.le_of_ble_eq_true rfl) dX7_hasEnd_10 (fun S25 v26 => ?_)
    refine r_if_eq (pc := 13) C (tgt := 20) dX7_hasEnd_13 (by decide) (fun _ => ?_) (fun _ => ?_)
    · refine r_iconst (pc := 20) C (0 : Int32) dX7_hasEnd_20 (by decide) ?_
      exact r_zret (pc := 21) C rfl hr hk dX7_hasEnd_21
    · exact hj23 S25  _ (lv_sub hl [] rfl)

theorem ct_X7_hasEnd (l : Launch) {D : va_G} {cy : Nat → ClassId} {base tS : Nat} {S : St} {k0 : Nat} {v1 : Int32} (t0 : cls k0 = 7) {S1 : St} {r1 : Int32} (h : X7_hasEnd S k0 v1 = some (S1, r1)) : Met l yX7_hasEnd (wsY yX7_hasEnd cX7_hasEnd 2 (some .boolean)) rm_X7_hasEnd (va_Pc [.ref (base + k0), .int v1] (World D cy base tS S)) (QcI D cy base tS S1 r1) 0 0 (AA base) := conI rfl rfl (by decide) (Nat.le_of_ble_eq_true rfl) (fun p e s m args below meth c ls C hr hk hl => sm_X7_hasEnd C hr hk t0 hl) h
theorem cv_X10_111 {p : Program} {l : Launch} {e : Env} {R : Room} {s : State} {m : MethodId} {args : Array Value} {below : List Frame} {meth : Method} {c : Code} {D : va_G} {cy : Nat → ClassId} {base tS nc ns : Nat} {cc : ByteArray} {nL pc : Nat} {ls : Array Slot} {rest : List Value} {S : St} {ρ : Type} {Q : St → ρ → State → Prop} (C : Cx p R s m args c RX10 cc nL D cy base tS nc ns) {k0 : Nat} {v1 : Int32} (t0 : cls k0 = 7) (hl : ls.size = nL) (hR : rm_X7_hasEnd.frames + 1 ≤ R.frames ∧ 8 + (2 + 11) + rm_X7_hasEnd.locals ≤ R.locals) {b : St → Int32 → Option (St × ρ)} (hroom : (rest.map fun v => v.category).sum ≤ 8) (hd : decode cc pc = .ok (.invokevirtual 111, 3)) (kk : ∀ (S1 : St) (r : Int32), Sim p l e R s m args below meth c D cy base nc ns Q (b S1 r) S1 (F0 m (pc + 3) ls (.int r :: rest))) : Sim p l e R s m args below meth c D cy base nc ns Q (bd (X7_hasEnd S k0 v1) b) S (F0 m pc ls (.int v1 :: .ref (base + k0) :: rest)) := r_callVI (n := 1) (As := [.int v1]) C hl (rd_7 t0) (cls_lt t0 (by decide)) rfl (fun S1 r1 h => ct_X7_hasEnd l t0 h) wd_189 wd_190 wd_191 wd_169 wd_192 rfl rfl (by decide +kernel) hR rfl rfl hroom hd kk
abbrev rm_X7_isOf : Room := { frames := 0, cells := 0, slots := 0, locals := 0 }
set_option maxHeartbeats 4000000 in
set_option maxRecDepth 100000 in
theorem lp_X7_isOf_10 {p : Program} {l : Launch} {e : Env} {s : State} {m : MethodId} {args : Array Value} {below : List Frame} {meth : Method} {c : Code} {D : va_G} {cy : Nat → ClassId} {base tS : Nat} {ls : Array Slot} (C : Cx p rm_X7_isOf s m args c RX7 cX7_isOf 5 D cy base tS 0 0) (hr : meth.sig.returnType = (some .boolean)) (hk : meth.locks = false) {v2 : Int32}  {K : St → Int32 → Int32 → Option (St × Int32)} (hK : ∀ (S : St) (v3 : Int32) (v4 : Int32) (ls : Array Slot), lv_has ls 5 [(2, .int v2), (3, .int v3), (4, .int v4)] → Sim p l e rm_X7_isOf s m args below meth c D cy base 0 0 (fun S1 r => MQ below (QcI D cy base tS S1 r) args s 0 0 (AA base)) (K S v3 v4) S (F0 m 39 ls [])) : ∀ (n : Nat) (S : St) (v3 : Int32) (v4 : Int32) (ls : Array Slot), lv_has ls 5 [(2, .int v2), (3, .int v3), (4, .int v4)] → Sim p l e rm_X7_isOf s m args below meth c D cy base 0 0 (fun S1 r => MQ below (QcI D cy base tS S1 r) args s 0 0 (AA base)) (X7_isOf_10 v2 K n S v3 v4) S (F0 m 10 ls []) := by
  intro n
  induction n with
  | zero => intro S v3 v4 ls hl; exact Sim.none
  | succ n ih =>
    intro S v3 v4 ls hl
    rw [X7_isOf_10]
    refine r_iload (pc := 10) C dX7_isOf_10 (lv_at hl 2 rfl) ?_
    refine r_iconst (pc := 12) C (5 : Int32) dX7_isOf_12 (by decide) ?_
    refine r_icmp_ge (pc := 13) C (tgt := 39) dX7_isOf_13 (by decide) (fun _ => ?_) (fun _ => ?_)
    · exact hK S v3 v4 _ (lv_sub hl [0, 1, 2] rfl)
    · refine r_iload_n (pc := 16) C dX7_isOf_16 rfl (lv_at hl 1 rfl) ?_
      refine r_if_lt (pc := 17) C (tgt := 39) dX7_isOf_17 (by decide) (fun _ => ?_) (fun _ => ?_)
      · exact hK S v3 v4 _ (lv_sub hl [0, 1, 2] rfl)
      · refine r_iload_n (pc := 20) C dX7_isOf_20 rfl (lv_at hl 1 rfl) ?_
        refine r_iload_n (pc := 21) C dX7_isOf_21 rfl (lv_at hl 0 rfl) ?_
        refine r_icmp_ne (pc := 22) C (tgt := 27) dX7_isOf_22 (by decide) (fun _ => ?_) (fun _ => ?_)
        · refine r_above (pc := 27) C wd_153 dX7_isOf_27 ?_
          refine r_iload_n (pc := 30) C dX7_isOf_30 rfl (lv_at hl 1 rfl) ?_
          refine r_tald (pc := 31) C dX7_isOf_31 ?_
          refine r_topi (fun v23 => ?_)
          refine r_istore_n (lv2 := [(3, .int v23), (2, .int v2), (4, .int v4)]) (pc := 32) C dX7_isOf_32 rfl hl (Nat.le_of_ble_eq_true rfl) rfl (fun ls hl => ?_)
          refine r_iinc (pc := 33) C (k := 2) (1 : Int32) (fun v24 => [(4, .int v24), (3, .int v23), (2, .int v2)]) dX7_isOf_33 hl rfl (by decide) (Nat.le_of_ble_eq_true rfl) (fun _ => rfl) (fun v24 ls hl => ?_)
          refine r_goto (pc := 36) C (tgt := 10) dX7_isOf_36 (by decide) ?_
          exact ih S v23 v24 _ (lv_sub hl [2, 1, 0] rfl)
        · refine r_iconst (pc := 25) C (1 : Int32) dX7_isOf_25 (by decide) ?_
          exact r_zret (pc := 26) C rfl hr hk dX7_isOf_26

set_option maxHeartbeats 4000000 in
set_option maxRecDepth 100000 in
theorem sm_X7_isOf {p : Program} {l : Launch} {e : Env} {s : State} {m : MethodId} {args : Array Value} {below : List Frame} {meth : Method} {c : Code} {D : va_G} {cy : Nat → ClassId} {base tS : Nat} {S : St} {k0 : Nat} {v1 : Int32} {v2 : Int32} {ls : Array Slot} (C : Cx p rm_X7_isOf s m args c RX7 cX7_isOf 5 D cy base tS 0 0) (hr : meth.sig.returnType = (some .boolean)) (hk : meth.locks = false) (t0 : cls k0 = 7) (hl : lv_has ls 5 [(0, .ref (base + k0)), (1, .int v1), (2, .int v2)]) : Sim p l e rm_X7_isOf s m args below meth c D cy base 0 0 (fun S1 r => MQ below (QcI D cy base tS S1 r) args s 0 0 (AA base)) (X7_isOf S k0 v1 v2) S (F0 m 0 ls []) := by
  unfold X7_isOf
  refine r_aload_n (pc := 0) C dX7_isOf_0 rfl (lv_at hl 0 rfl) ?_
  refine gf_X7_9 (pc := 1) C t0 dX7_isOf_1 ?_
  have t21 := ft_7_0 t0
  refine r_iload_n (pc := 4) C dX7_isOf_4 rfl (lv_at hl 1 rfl) ?_
  refine r_iald (pc := 5) C t21 dX7_isOf_5 ?_
  refine r_topi (fun v22 => ?_)
  refine r_istore_n (lv2 := [(3, .int v22), (0, .ref (base + k0)), (1, .int v1), (2, .int v2)]) (pc := 6) C dX7_isOf_6 rfl hl (Nat.le_of_ble_eq_true rfl) rfl (fun ls hl => ?_)
  refine r_iconst (pc := 7) C (0 : Int32) dX7_isOf_7 (by decide) ?_
  refine r_istore (lv2 := [(4, .int (0 : Int32)), (3, .int v22), (0, .ref (base + k0)), (1, .int v1), (2, .int v2)]) (pc := 8) C dX7_isOf_8 hl (Nat.le_of_ble_eq_true rfl) rfl (fun ls hl => ?_)
  refine lp_X7_isOf_10 (ls := ls) C hr hk  (fun S25 v26 v27 ls hl => ?_) FU S v22 (0 : Int32) _ (lv_sub hl [4, 1, 0] rfl)
  refine r_iconst (pc := 39) C (0 : Int32) dX7_isOf_39 (by decide) ?_
  exact r_zret (pc := 40) C rfl hr hk dX7_isOf_40

theorem ct_X7_isOf (l : Launch) {D : va_G} {cy : Nat → ClassId} {base tS : Nat} {S : St} {k0 : Nat} {v1 : Int32} {v2 : Int32} (t0 : cls k0 = 7) {S1 : St} {r1 : Int32} (h : X7_isOf S k0 v1 v2 = some (S1, r1)) : Met l yX7_isOf (wsY yX7_isOf cX7_isOf 5 (some .boolean)) rm_X7_isOf (va_Pc [.ref (base + k0), .int v1, .int v2] (World D cy base tS S)) (QcI D cy base tS S1 r1) 0 0 (AA base) := conI rfl rfl (by decide) (Nat.le_of_ble_eq_true rfl) (fun p e s m args below meth c ls C hr hk hl => sm_X7_isOf C hr hk t0 hl) h
theorem cv_X10_114 {p : Program} {l : Launch} {e : Env} {R : Room} {s : State} {m : MethodId} {args : Array Value} {below : List Frame} {meth : Method} {c : Code} {D : va_G} {cy : Nat → ClassId} {base tS nc ns : Nat} {cc : ByteArray} {nL pc : Nat} {ls : Array Slot} {rest : List Value} {S : St} {ρ : Type} {Q : St → ρ → State → Prop} (C : Cx p R s m args c RX10 cc nL D cy base tS nc ns) {k0 : Nat} {v1 : Int32} {v2 : Int32} (t0 : cls k0 = 7) (hl : ls.size = nL) (hR : rm_X7_isOf.frames + 1 ≤ R.frames ∧ 8 + (5 + 11) + rm_X7_isOf.locals ≤ R.locals) {b : St → Int32 → Option (St × ρ)} (hroom : (rest.map fun v => v.category).sum ≤ 8) (hd : decode cc pc = .ok (.invokevirtual 114, 3)) (kk : ∀ (S1 : St) (r : Int32), Sim p l e R s m args below meth c D cy base nc ns Q (b S1 r) S1 (F0 m (pc + 3) ls (.int r :: rest))) : Sim p l e R s m args below meth c D cy base nc ns Q (bd (X7_isOf S k0 v1 v2) b) S (F0 m pc ls (.int v2 :: .int v1 :: .ref (base + k0) :: rest)) := r_callVI (n := 2) (As := [.int v1, .int v2]) C hl (rd_7 t0) (cls_lt t0 (by decide)) rfl (fun S1 r1 h => ct_X7_isOf l t0 h) wd_193 wd_194 wd_195 wd_169 wd_196 rfl rfl (by decide +kernel) hR rfl rfl hroom hd kk
theorem cv_X0_99 {p : Program} {l : Launch} {e : Env} {R : Room} {s : State} {m : MethodId} {args : Array Value} {below : List Frame} {meth : Method} {c : Code} {D : va_G} {cy : Nat → ClassId} {base tS nc ns : Nat} {cc : ByteArray} {nL pc : Nat} {ls : Array Slot} {rest : List Value} {S : St} {ρ : Type} {Q : St → ρ → State → Prop} (C : Cx p R s m args c RX0 cc nL D cy base tS nc ns) {k0 : Nat} {v1 : Int32} {v2 : Int32} (t0 : cls k0 = 7) (hl : ls.size = nL) (hR : rm_X7_isOf.frames + 1 ≤ R.frames ∧ 8 + (5 + 11) + rm_X7_isOf.locals ≤ R.locals) {b : St → Int32 → Option (St × ρ)} (hroom : (rest.map fun v => v.category).sum ≤ 8) (hd : decode cc pc = .ok (.invokevirtual 99, 3)) (kk : ∀ (S1 : St) (r : Int32), Sim p l e R s m args below meth c D cy base nc ns Q (b S1 r) S1 (F0 m (pc + 3) ls (.int r :: rest))) : Sim p l e R s m args below meth c D cy base nc ns Q (bd (X7_isOf S k0 v1 v2) b) S (F0 m pc ls (.int v2 :: .int v1 :: .ref (base + k0) :: rest)) := r_callVI (n := 2) (As := [.int v1, .int v2]) C hl (rd_7 t0) (cls_lt t0 (by decide)) rfl (fun S1 r1 h => ct_X7_isOf l t0 h) wd_197 wd_194 wd_195 wd_169 wd_196 rfl rfl (by decide +kernel) hR rfl rfl hroom hd kk
theorem cv_X2_49 {p : Program} {l : Launch} {e : Env} {R : Room} {s : State} {m : MethodId} {args : Array Value} {below : List Frame} {meth : Method} {c : Code} {D : va_G} {cy : Nat → ClassId} {base tS nc ns : Nat} {cc : ByteArray} {nL pc : Nat} {ls : Array Slot} {rest : List Value} {S : St} {ρ : Type} {Q : St → ρ → State → Prop} (C : Cx p R s m args c RX2 cc nL D cy base tS nc ns) {k0 : Nat} {v1 : Int32} {v2 : Int32} (t0 : cls k0 = 7) (hl : ls.size = nL) (hR : rm_X7_isOf.frames + 1 ≤ R.frames ∧ 8 + (5 + 11) + rm_X7_isOf.locals ≤ R.locals) {b : St → Int32 → Option (St × ρ)} (hroom : (rest.map fun v => v.category).sum ≤ 8) (hd : decode cc pc = .ok (.invokevirtual 49, 3)) (kk : ∀ (S1 : St) (r : Int32), Sim p l e R s m args below meth c D cy base nc ns Q (b S1 r) S1 (F0 m (pc + 3) ls (.int r :: rest))) : Sim p l e R s m args below meth c D cy base nc ns Q (bd (X7_isOf S k0 v1 v2) b) S (F0 m pc ls (.int v2 :: .int v1 :: .ref (base + k0) :: rest)) := r_callVI (n := 2) (As := [.int v1, .int v2]) C hl (rd_7 t0) (cls_lt t0 (by decide)) rfl (fun S1 r1 h => ct_X7_isOf l t0 h) wd_198 wd_194 wd_195 wd_169 wd_196 rfl rfl (by decide +kernel) hR rfl rfl hroom hd kk
abbrev rm_X10_way : Room := { frames := 2, cells := 0, slots := 0, locals := 44 }
set_option maxHeartbeats 4000000 in
set_option maxRecDepth 100000 in
theorem sm_X10_way {p : Program} {l : Launch} {e : Env} {s : State} {m : MethodId} {args : Array Value} {below : List Frame} {meth : Method} {c : Code} {D : va_G} {cy : Nat → ClassId} {base tS : Nat} {S : St} {k0 : Nat} {v1 : Int32} {v2 : Int32} {v3 : Int32} {ls : Array Slot} (C : Cx p rm_X10_way s m args c RX10 cX10_way 4 D cy base tS 0 0) (hr : meth.sig.returnType = (some .int)) (hk : meth.locks = false) (t0 : cls k0 = 10) (hl : lv_has ls 4 [(0, .ref (base + k0)), (1, .int v1), (2, .int v2), (3, .int v3)]) : Sim p l e rm_X10_way s m args below meth c D cy base 0 0 (fun S1 r => MQ below (QcI D cy base tS S1 r) args s 0 0 (AA base)) (X10_way S k0 v1 v2 v3) S (F0 m 0 ls []) := by
  unfold X10_way
  refine r_aload_n (pc := 0) C dX10_way_0 rfl (lv_at hl 0 rfl) ?_
  refine gf_X10_92 (pc := 1) C t0 dX10_way_1 ?_
  refine r_if_eq (pc := 4) C (tgt := 14) dX10_way_4 (by decide) (fun _ => ?_) (fun _ => ?_)
  · refine r_aload_n (pc := 14) C dX10_way_14 rfl (lv_at hl 0 rfl) ?_
    refine gf_X10_10 (pc := 15) C t0 dX10_way_15 ?_
    have t21 := ft_10_0 t0
    refine r_iload_n (pc := 18) C dX10_way_18 rfl (lv_at hl 1 rfl) ?_
    refine cv_X10_107 (pc := 19) C t21 hl.1 ⟨Nat.le_of_ble_eq_true rfl, Nat.le_of_ble_eq_true rfl⟩ (Nat.le_of_ble_eq_true rfl) dX10_way_19 (fun S22 v23 => ?_)
    refine r_join (fun (j : St → Option (St × Int32)) => ∀ (S25 : St)  (ls : Array Slot), lv_has ls 4 [(0, .ref (base + k0))] → Sim p l e rm_X10_way s m args below meth c D cy base 0 0 (fun S1 r => MQ below (QcI D cy base tS S1 r) args s 0 0 (AA base)) (j S25) S25 (F0 m 41 ls [])) ?_ (fun j24 hj24 => ?_)
    · intro S25 ls hl
      refine r_aload_n (pc := 41) C dX10_way_41 rfl (lv_at hl 0 rfl) ?_
      refine r_iconst (pc := 42) C (-1 : Int32) dX10_way_42 (by decide) ?_
      refine cv_X10_96 (pc := 43) C t0 hl.1 ⟨Nat.le_of_ble_eq_true rfl, Nat.le_of_ble_eq_true rfl⟩ (Nat.le_of_ble_eq_true rfl) dX10_way_43 (fun S26 v27 => ?_)
      exact r_iret (pc := 46) C hr hk dX10_way_46
    refine r_if_eq (pc := 22) C (tgt := 41) dX10_way_22 (by decide) (fun _ => ?_) (fun _ => ?_)
    · exact hj24 S22  _ (lv_sub hl [0] rfl)
    · refine r_aload_n (pc := 25) C dX10_way_25 rfl (lv_at hl 0 rfl) ?_
      refine gf_X10_10 (pc := 26) C t0 dX10_way_26 ?_
      have t28 := ft_10_0 t0
      refine r_iload_n (pc := 29) C dX10_way_29 rfl (lv_at hl 2 rfl) ?_
      refine cv_X10_111 (pc := 30) C t28 hl.1 ⟨Nat.le_of_ble_eq_true rfl, Nat.le_of_ble_eq_true rfl⟩ (Nat.le_of_ble_eq_true rfl) dX10_way_30 (fun S29 v30 => ?_)
      refine r_if_eq (pc := 33) C (tgt := 41) dX10_way_33 (by decide) (fun _ => ?_) (fun _ => ?_)
      · exact hj24 S29  _ (lv_sub hl [0] rfl)
      · refine r_iload_n (pc := 36) C dX10_way_36 rfl (lv_at hl 2 rfl) ?_
        refine r_iload_n (pc := 37) C dX10_way_37 rfl (lv_at hl 1 rfl) ?_
        refine r_icmp_ne (pc := 38) C (tgt := 47) dX10_way_38 (by decide) (fun _ => ?_) (fun _ => ?_)
        · refine r_iload_n (pc := 47) C dX10_way_47 rfl (lv_at hl 3 rfl) ?_
          refine r_iconst (pc := 48) C (1 : Int32) dX10_way_48 (by decide) ?_
          refine r_join (fun (j : St → Option (St × Int32)) => ∀ (S32 : St)  (ls : Array Slot), lv_has ls 4 [(0, .ref (base + k0))] → Sim p l e rm_X10_way s m args below meth c D cy base 0 0 (fun S1 r => MQ below (QcI D cy base tS S1 r) args s 0 0 (AA base)) (j S32) S32 (F0 m 58 ls [])) ?_ (fun j31 hj31 => ?_)
          · intro S32 ls hl
            refine r_aload_n (pc := 58) C dX10_way_58 rfl (lv_at hl 0 rfl) ?_
            refine r_iconst (pc := 59) C (-1 : Int32) dX10_way_59 (by decide) ?_
            refine cv_X10_96 (pc := 60) C t0 hl.1 ⟨Nat.le_of_ble_eq_true rfl, Nat.le_of_ble_eq_true rfl⟩ (Nat.le_of_ble_eq_true rfl) dX10_way_60 (fun S33 v34 => ?_)
            exact r_iret (pc := 63) C hr hk dX10_way_63
          refine r_icmp_lt (pc := 49) C (tgt := 58) dX10_way_49 (by decide) (fun _ => ?_) (fun _ => ?_)
          · exact hj31 S29  _ (lv_sub hl [0] rfl)
          · refine r_iload_n (pc := 52) C dX10_way_52 rfl (lv_at hl 3 rfl) ?_
            refine r_bipush (pc := 53) C (9 : Int32) dX10_way_53 (by decide) ?_
            refine r_icmp_le (pc := 55) C (tgt := 64) dX10_way_55 (by decide) (fun _ => ?_) (fun _ => ?_)
            · refine r_iload_n (pc := 64) C dX10_way_64 rfl (lv_at hl 3 rfl) ?_
              refine r_iconst (pc := 65) C (1 : Int32) dX10_way_65 (by decide) ?_
              refine r_join (fun (j : St → Option (St × Int32)) => ∀ (S36 : St)  (ls : Array Slot), lv_has ls 4 [(0, .ref (base + k0)), (1, .int v1), (2, .int v2), (3, .int v3)] → Sim p l e rm_X10_way s m args below meth c D cy base 0 0 (fun S1 r => MQ below (QcI D cy base tS S1 r) args s 0 0 (AA base)) (j S36) S36 (F0 m 88 ls [])) ?_ (fun j35 hj35 => ?_)
              · intro S36 ls hl
                refine r_iload_n (pc := 88) C dX10_way_88 rfl (lv_at hl 2 rfl) ?_
                refine r_join (fun (j : St → Option (St × Int32)) => ∀ (S38 : St)  (ls : Array Slot), lv_has ls 4 [(0, .ref (base + k0)), (1, .int v1), (2, .int v2), (3, .int v3)] → Sim p l e rm_X10_way s m args below meth c D cy base 0 0 (fun S1 r => MQ below (QcI D cy base tS S1 r) args s 0 0 (AA base)) (j S38) S38 (F0 m 111 ls [])) ?_ (fun j37 hj37 => ?_)
                · intro S38 ls hl
                  refine r_aload_n (pc := 111) C dX10_way_111 rfl (lv_at hl 0 rfl) ?_
                  refine gf_X10_10 (pc := 112) C t0 dX10_way_112 ?_
                  have t39 := ft_10_0 t0
                  refine r_iload_n (pc := 115) C dX10_way_115 rfl (lv_at hl 1 rfl) ?_
                  refine r_iload_n (pc := 116) C dX10_way_116 rfl (lv_at hl 2 rfl) ?_
                  refine r_iload_n (pc := 117) C dX10_way_117 rfl (lv_at hl 3 rfl) ?_
                  refine cv_X10_118 (pc := 118) C t39 hl.1 ⟨Nat.le_of_ble_eq_true rfl, Nat.le_of_ble_eq_true rfl⟩ (Nat.le_of_ble_eq_true rfl) dX10_way_118 (fun S40 v41 => ?_)
                  exact r_iret (pc := 121) C hr hk dX10_way_121
                refine r_if_ge (pc := 89) C (tgt := 111) dX10_way_89 (by decide) (fun _ => ?_) (fun _ => ?_)
                · exact hj37 S36  _ (lv_sub hl [0, 1, 2, 3] rfl)
                · refine r_aload_n (pc := 92) C dX10_way_92 rfl (lv_at hl 0 rfl) ?_
                  refine gf_X10_10 (pc := 93) C t0 dX10_way_93 ?_
                  have t42 := ft_10_0 t0
                  refine r_iload_n (pc := 96) C dX10_way_96 rfl (lv_at hl 1 rfl) ?_
                  refine r_iconst (pc := 97) C (3 : Int32) dX10_way_97 (by decide) ?_
                  refine cv_X10_114 (pc := 98) C t42 hl.1 ⟨Nat.le_of_ble_eq_true rfl, Nat.le_of_ble_eq_true rfl⟩ (Nat.le_of_ble_eq_true rfl) dX10_way_98 (fun S43 v44 => ?_)
                  refine r_if_ne (pc := 101) C (tgt := 111) dX10_way_101 (by decide) (fun _ => ?_) (fun _ => ?_)
                  · exact hj37 S43  _ (lv_sub hl [0, 1, 2, 3] rfl)
                  · refine r_aload_n (pc := 104) C dX10_way_104 rfl (lv_at hl 0 rfl) ?_
                    refine r_bipush (pc := 105) C (-4 : Int32) dX10_way_105 (by decide) ?_
                    refine cv_X10_96 (pc := 107) C t0 hl.1 ⟨Nat.le_of_ble_eq_true rfl, Nat.le_of_ble_eq_true rfl⟩ (Nat.le_of_ble_eq_true rfl) dX10_way_107 (fun S45 v46 => ?_)
                    exact r_iret (pc := 110) C hr hk dX10_way_110
              refine r_icmp_eq (pc := 66) C (tgt := 88) dX10_way_66 (by decide) (fun _ => ?_) (fun _ => ?_)
              · exact hj35 S29  _ (lv_sub hl [0, 1, 2, 3] rfl)
              · refine r_aload_n (pc := 69) C dX10_way_69 rfl (lv_at hl 0 rfl) ?_
                refine gf_X10_10 (pc := 70) C t0 dX10_way_70 ?_
                have t47 := ft_10_0 t0
                refine r_iload_n (pc := 73) C dX10_way_73 rfl (lv_at hl 1 rfl) ?_
                refine r_iconst (pc := 74) C (2 : Int32) dX10_way_74 (by decide) ?_
                refine cv_X10_114 (pc := 75) C t47 hl.1 ⟨Nat.le_of_ble_eq_true rfl, Nat.le_of_ble_eq_true rfl⟩ (Nat.le_of_ble_eq_true rfl) dX10_way_75 (fun S48 v49 => ?_)
                refine r_if_ne (pc := 78) C (tgt := 88) dX10_way_78 (by decide) (fun _ => ?_) (fun _ => ?_)
                · exact hj35 S48  _ (lv_sub hl [0, 1, 2, 3] rfl)
                · refine r_aload_n (pc := 81) C dX10_way_81 rfl (lv_at hl 0 rfl) ?_
                  refine r_bipush (pc := 82) C (-4 : Int32) dX10_way_82 (by decide) ?_
                  refine cv_X10_96 (pc := 84) C t0 hl.1 ⟨Nat.le_of_ble_eq_true rfl, Nat.le_of_ble_eq_true rfl⟩ (Nat.le_of_ble_eq_true rfl) dX10_way_84 (fun S50 v51 => ?_)
                  exact r_iret (pc := 87) C hr hk dX10_way_87
            · exact hj31 S29  _ (lv_sub hl [0] rfl)
        · exact hj24 S29  _ (lv_sub hl [0] rfl)
  · refine r_aload_n (pc := 7) C dX10_way_7 rfl (lv_at hl 0 rfl) ?_
    refine r_bipush (pc := 8) C (-6 : Int32) dX10_way_8 (by decide) ?_
    refine cv_X10_96 (pc := 10) C t0 hl.1 ⟨Nat.le_of_ble_eq_true rfl, Nat.le_of_ble_eq_true rfl⟩ (Nat.le_of_ble_eq_true rfl) dX10_way_10 (fun S52 v53 => ?_)
    exact r_iret (pc := 13) C hr hk dX10_way_13

theorem ct_X10_way (l : Launch) {D : va_G} {cy : Nat → ClassId} {base tS : Nat} {S : St} {k0 : Nat} {v1 : Int32} {v2 : Int32} {v3 : Int32} (t0 : cls k0 = 10) {S1 : St} {r1 : Int32} (h : X10_way S k0 v1 v2 v3 = some (S1, r1)) : Met l yX10_way (wsY yX10_way cX10_way 4 (some .int)) rm_X10_way (va_Pc [.ref (base + k0), .int v1, .int v2, .int v3] (World D cy base tS S)) (QcI D cy base tS S1 r1) 0 0 (AA base) := conI rfl rfl (by decide) (Nat.le_of_ble_eq_true rfl) (fun p e s m args below meth c ls C hr hk hl => sm_X10_way C hr hk t0 hl) h
abbrev rm_X7_bitsOfAll : Room := { frames := 0, cells := 0, slots := 0, locals := 0 }
set_option maxHeartbeats 4000000 in
set_option maxRecDepth 100000 in
theorem sm_X7_bitsOfAll {p : Program} {l : Launch} {e : Env} {s : State} {m : MethodId} {args : Array Value} {below : List Frame} {meth : Method} {c : Code} {D : va_G} {cy : Nat → ClassId} {base tS : Nat} {S : St} {k0 : Nat} {ls : Array Slot} (C : Cx p rm_X7_bitsOfAll s m args c RX7 cX7_bitsOfAll 1 D cy base tS 0 0) (hr : meth.sig.returnType = (some .int)) (hk : meth.locks = false) (t0 : cls k0 = 7) (hl : lv_has ls 1 [(0, .ref (base + k0))]) : Sim p l e rm_X7_bitsOfAll s m args below meth c D cy base 0 0 (fun S1 r => MQ below (QcI D cy base tS S1 r) args s 0 0 (AA base)) (X7_bitsOfAll S k0) S (F0 m 0 ls []) := by
  unfold X7_bitsOfAll
  refine r_iconst (pc := 0) C (1 : Int32) dX7_bitsOfAll_0 (by decide) ?_
  refine r_aload_n (pc := 1) C dX7_bitsOfAll_1 rfl (lv_at hl 0 rfl) ?_
  refine gf_X7_23 (pc := 2) C t0 dX7_bitsOfAll_2 ?_
  refine r_ishl (pc := 5) C dX7_bitsOfAll_5 ?_
  refine r_iconst (pc := 6) C (1 : Int32) dX7_bitsOfAll_6 (by decide) ?_
  refine r_isub (pc := 7) C dX7_bitsOfAll_7 ?_
  exact r_iret (pc := 8) C hr hk dX7_bitsOfAll_8

theorem ct_X7_bitsOfAll (l : Launch) {D : va_G} {cy : Nat → ClassId} {base tS : Nat} {S : St} {k0 : Nat} (t0 : cls k0 = 7) {S1 : St} {r1 : Int32} (h : X7_bitsOfAll S k0 = some (S1, r1)) : Met l yX7_bitsOfAll (wsY yX7_bitsOfAll cX7_bitsOfAll 1 (some .int)) rm_X7_bitsOfAll (va_Pc [.ref (base + k0)] (World D cy base tS S)) (QcI D cy base tS S1 r1) 0 0 (AA base) := conI rfl rfl (by decide) (Nat.le_of_ble_eq_true rfl) (fun p e s m args below meth c ls C hr hk hl => sm_X7_bitsOfAll C hr hk t0 hl) h
theorem cv_X1_22 {p : Program} {l : Launch} {e : Env} {R : Room} {s : State} {m : MethodId} {args : Array Value} {below : List Frame} {meth : Method} {c : Code} {D : va_G} {cy : Nat → ClassId} {base tS nc ns : Nat} {cc : ByteArray} {nL pc : Nat} {ls : Array Slot} {rest : List Value} {S : St} {ρ : Type} {Q : St → ρ → State → Prop} (C : Cx p R s m args c RX1 cc nL D cy base tS nc ns) {k0 : Nat} (t0 : cls k0 = 7) (hl : ls.size = nL) (hR : rm_X7_bitsOfAll.frames + 1 ≤ R.frames ∧ 8 + (1 + 11) + rm_X7_bitsOfAll.locals ≤ R.locals) {b : St → Int32 → Option (St × ρ)} (hroom : (rest.map fun v => v.category).sum ≤ 8) (hd : decode cc pc = .ok (.invokevirtual 22, 3)) (kk : ∀ (S1 : St) (r : Int32), Sim p l e R s m args below meth c D cy base nc ns Q (b S1 r) S1 (F0 m (pc + 3) ls (.int r :: rest))) : Sim p l e R s m args below meth c D cy base nc ns Q (bd (X7_bitsOfAll S k0) b) S (F0 m pc ls (.ref (base + k0) :: rest)) := r_callVI (n := 0) (As := []) C hl (rd_7 t0) (cls_lt t0 (by decide)) rfl (fun S1 r1 h => ct_X7_bitsOfAll l t0 h) wd_199 wd_200 wd_201 wd_169 wd_202 rfl rfl (by decide +kernel) hR rfl rfl hroom hd kk
theorem cv_X7_41 {p : Program} {l : Launch} {e : Env} {R : Room} {s : State} {m : MethodId} {args : Array Value} {below : List Frame} {meth : Method} {c : Code} {D : va_G} {cy : Nat → ClassId} {base tS nc ns : Nat} {cc : ByteArray} {nL pc : Nat} {ls : Array Slot} {rest : List Value} {S : St} {ρ : Type} {Q : St → ρ → State → Prop} (C : Cx p R s m args c RX7 cc nL D cy base tS nc ns) {k0 : Nat} (t0 : cls k0 = 7) (hl : ls.size = nL) (hR : rm_X7_bitsOfAll.frames + 1 ≤ R.frames ∧ 8 + (1 + 11) + rm_X7_bitsOfAll.locals ≤ R.locals) {b : St → Int32 → Option (St × ρ)} (hroom : (rest.map fun v => v.category).sum ≤ 8) (hd : decode cc pc = .ok (.invokevirtual 41, 3)) (kk : ∀ (S1 : St) (r : Int32), Sim p l e R s m args below meth c D cy base nc ns Q (b S1 r) S1 (F0 m (pc + 3) ls (.int r :: rest))) : Sim p l e R s m args below meth c D cy base nc ns Q (bd (X7_bitsOfAll S k0) b) S (F0 m pc ls (.ref (base + k0) :: rest)) := r_callVI (n := 0) (As := []) C hl (rd_7 t0) (cls_lt t0 (by decide)) rfl (fun S1 r1 h => ct_X7_bitsOfAll l t0 h) wd_203 wd_200 wd_201 wd_169 wd_202 rfl rfl (by decide +kernel) hR rfl rfl hroom hd kk
abbrev rm_X7_hasDitch : Room := { frames := 0, cells := 0, slots := 0, locals := 0 }
set_option maxHeartbeats 4000000 in
set_option maxRecDepth 100000 in
theorem lp_X7_hasDitch_2 {p : Program} {l : Launch} {e : Env} {s : State} {m : MethodId} {args : Array Value} {below : List Frame} {meth : Method} {c : Code} {D : va_G} {cy : Nat → ClassId} {base tS : Nat} {ls : Array Slot} (C : Cx p rm_X7_hasDitch s m args c RX7 cX7_hasDitch 3 D cy base tS 0 0) (hr : meth.sig.returnType = (some .boolean)) (hk : meth.locks = false) {k0 : Nat} {v1 : Int32} (t0 : cls k0 = 7) {K : St → Int32 → Option (St × Int32)} (hK : ∀ (S : St) (v2 : Int32) (ls : Array Slot), lv_has ls 3 [(0, .ref (base + k0)), (1, .int v1), (2, .int v2)] → Sim p l e rm_X7_hasDitch s m args below meth c D cy base 0 0 (fun S1 r => MQ below (QcI D cy base tS S1 r) args s 0 0 (AA base)) (K S v2) S (F0 m 29 ls [])) : ∀ (n : Nat) (S : St) (v2 : Int32) (ls : Array Slot), lv_has ls 3 [(0, .ref (base + k0)), (1, .int v1), (2, .int v2)] → Sim p l e rm_X7_hasDitch s m args below meth c D cy base 0 0 (fun S1 r => MQ below (QcI D cy base tS S1 r) args s 0 0 (AA base)) (X7_hasDitch_2 k0 v1 K n S v2) S (F0 m 2 ls []) := by
  intro n
  induction n with
  | zero => intro S v2 ls hl; exact Sim.none
  | succ n ih =>
    intro S v2 ls hl
    rw [X7_hasDitch_2]
    refine r_iload_n (pc := 2) C dX7_hasDitch_2 rfl (lv_at hl 2 rfl) ?_
    refine r_iconst (pc := 3) C (3 : Int32) dX7_hasDitch_3 (by decide) ?_
    refine r_icmp_ge (pc := 4) C (tgt := 29) dX7_hasDitch_4 (by decide) (fun _ => ?_) (fun _ => ?_)
    · exact hK S v2 _ (lv_sub hl [0, 1, 2] rfl)
    · refine r_aload_n (pc := 7) C dX7_hasDitch_7 rfl (lv_at hl 0 rfl) ?_
      refine gf_X7_17 (pc := 8) C t0 dX7_hasDitch_8 ?_
      have t21 := ft_7_1 t0
      refine r_iload_n (pc := 11) C dX7_hasDitch_11 rfl (lv_at hl 1 rfl) ?_
      refine r_aald17 (pc := 12) C t21 dX7_hasDitch_12 (fun b23 => ?_)
      have t22 := et_17_12 t21 b23
      refine r_bipush (pc := 13) C (12 : Int32) dX7_hasDitch_13 (by decide) ?_
      refine r_iload_n (pc := 15) C dX7_hasDitch_15 rfl (lv_at hl 2 rfl) ?_
      refine r_iadd (pc := 16) C dX7_hasDitch_16 ?_
      refine r_iald (pc := 17) C t22 dX7_hasDitch_17 ?_
      refine r_if_le (pc := 18) C (tgt := 23) dX7_hasDitch_18 (by decide) (fun _ => ?_) (fun _ => ?_)
      · refine r_iinc (pc := 23) C (k := 2) (1 : Int32) (fun v24 => [(2, .int v24), (0, .ref (base + k0)), (1, .int v1)]) dX7_hasDitch_23 hl rfl (by decide) (Nat.le_of_ble_eq_true rfl) (fun _ => rfl) (fun v24 ls hl => ?_)
        refine r_goto (pc := 26) C (tgt := 2) dX7_hasDitch_26 (by decide) ?_
        exact ih S v24 _ (lv_sub hl [1, 2, 0] rfl)
      · refine r_iconst (pc := 21) C (1 : Int32) dX7_hasDitch_21 (by decide) ?_
        exact r_zret (pc := 22) C rfl hr hk dX7_hasDitch_22

set_option maxHeartbeats 4000000 in
set_option maxRecDepth 100000 in
theorem sm_X7_hasDitch {p : Program} {l : Launch} {e : Env} {s : State} {m : MethodId} {args : Array Value} {below : List Frame} {meth : Method} {c : Code} {D : va_G} {cy : Nat → ClassId} {base tS : Nat} {S : St} {k0 : Nat} {v1 : Int32} {ls : Array Slot} (C : Cx p rm_X7_hasDitch s m args c RX7 cX7_hasDitch 3 D cy base tS 0 0) (hr : meth.sig.returnType = (some .boolean)) (hk : meth.locks = false) (t0 : cls k0 = 7) (hl : lv_has ls 3 [(0, .ref (base + k0)), (1, .int v1)]) : Sim p l e rm_X7_hasDitch s m args below meth c D cy base 0 0 (fun S1 r => MQ below (QcI D cy base tS S1 r) args s 0 0 (AA base)) (X7_hasDitch S k0 v1) S (F0 m 0 ls []) := by
  unfold X7_hasDitch
  refine r_iconst (pc := 0) C (0 : Int32) dX7_hasDitch_0 (by decide) ?_
  refine r_istore_n (lv2 := [(2, .int (0 : Int32)), (0, .ref (base + k0)), (1, .int v1)]) (pc := 1) C dX7_hasDitch_1 rfl hl (Nat.le_of_ble_eq_true rfl) rfl (fun ls hl => ?_)
  refine lp_X7_hasDitch_2 (ls := ls) C hr hk t0 (fun S25 v26 ls hl => ?_) FU S (0 : Int32) _ (lv_sub hl [1, 2, 0] rfl)
  refine r_iconst (pc := 29) C (0 : Int32) dX7_hasDitch_29 (by decide) ?_
  exact r_zret (pc := 30) C rfl hr hk dX7_hasDitch_30

theorem ct_X7_hasDitch (l : Launch) {D : va_G} {cy : Nat → ClassId} {base tS : Nat} {S : St} {k0 : Nat} {v1 : Int32} (t0 : cls k0 = 7) {S1 : St} {r1 : Int32} (h : X7_hasDitch S k0 v1 = some (S1, r1)) : Met l yX7_hasDitch (wsY yX7_hasDitch cX7_hasDitch 3 (some .boolean)) rm_X7_hasDitch (va_Pc [.ref (base + k0), .int v1] (World D cy base tS S)) (QcI D cy base tS S1 r1) 0 0 (AA base) := conI rfl rfl (by decide) (Nat.le_of_ble_eq_true rfl) (fun p e s m args below meth c ls C hr hk hl => sm_X7_hasDitch C hr hk t0 hl) h
theorem cv_X7_45 {p : Program} {l : Launch} {e : Env} {R : Room} {s : State} {m : MethodId} {args : Array Value} {below : List Frame} {meth : Method} {c : Code} {D : va_G} {cy : Nat → ClassId} {base tS nc ns : Nat} {cc : ByteArray} {nL pc : Nat} {ls : Array Slot} {rest : List Value} {S : St} {ρ : Type} {Q : St → ρ → State → Prop} (C : Cx p R s m args c RX7 cc nL D cy base tS nc ns) {k0 : Nat} {v1 : Int32} (t0 : cls k0 = 7) (hl : ls.size = nL) (hR : rm_X7_hasDitch.frames + 1 ≤ R.frames ∧ 8 + (3 + 11) + rm_X7_hasDitch.locals ≤ R.locals) {b : St → Int32 → Option (St × ρ)} (hroom : (rest.map fun v => v.category).sum ≤ 8) (hd : decode cc pc = .ok (.invokevirtual 45, 3)) (kk : ∀ (S1 : St) (r : Int32), Sim p l e R s m args below meth c D cy base nc ns Q (b S1 r) S1 (F0 m (pc + 3) ls (.int r :: rest))) : Sim p l e R s m args below meth c D cy base nc ns Q (bd (X7_hasDitch S k0 v1) b) S (F0 m pc ls (.int v1 :: .ref (base + k0) :: rest)) := r_callVI (n := 1) (As := [.int v1]) C hl (rd_7 t0) (cls_lt t0 (by decide)) rfl (fun S1 r1 h => ct_X7_hasDitch l t0 h) wd_204 wd_205 wd_206 wd_169 wd_207 rfl rfl (by decide +kernel) hR rfl rfl hroom hd kk
abbrev rm_X7_weightToPlaces : Room := { frames := 0, cells := 0, slots := 0, locals := 0 }
set_option maxHeartbeats 4000000 in
set_option maxRecDepth 100000 in
theorem lp_X7_weightToPlaces_5 {p : Program} {l : Launch} {e : Env} {s : State} {m : MethodId} {args : Array Value} {below : List Frame} {meth : Method} {c : Code} {D : va_G} {cy : Nat → ClassId} {base tS : Nat} {ls : Array Slot} (C : Cx p rm_X7_weightToPlaces s m args c RX7 cX7_weightToPlaces 5 D cy base tS 0 0) (hr : meth.sig.returnType = (some .int)) (hk : meth.locks = false) {k0 : Nat} {v1 : Int32} {v2 : Int32} (t0 : cls k0 = 7) {K : St → Int32 → Int32 → Option (St × Int32)} (hK : ∀ (S : St) (v3 : Int32) (v4 : Int32) (ls : Array Slot), lv_has ls 5 [(0, .ref (base + k0)), (1, .int v1), (2, .int v2), (3, .int v3), (4, .int v4)] → Sim p l e rm_X7_weightToPlaces s m args below meth c D cy base 0 0 (fun S1 r => MQ below (QcI D cy base tS S1 r) args s 0 0 (AA base)) (K S v3 v4) S (F0 m 41 ls [])) : ∀ (n : Nat) (S : St) (v3 : Int32) (v4 : Int32) (ls : Array Slot), lv_has ls 5 [(0, .ref (base + k0)), (1, .int v1), (2, .int v2), (3, .int v3), (4, .int v4)] → Sim p l e rm_X7_weightToPlaces s m args below meth c D cy base 0 0 (fun S1 r => MQ below (QcI D cy base tS S1 r) args s 0 0 (AA base)) (X7_weightToPlaces_5 k0 v1 v2 K n S v3 v4) S (F0 m 5 ls []) := by
  intro n
  induction n with
  | zero => intro S v3 v4 ls hl; exact Sim.none
  | succ n ih =>
    intro S v3 v4 ls hl
    rw [X7_weightToPlaces_5]
    refine r_iload (pc := 5) C dX7_weightToPlaces_5 (lv_at hl 4 rfl) ?_
    refine r_aload_n (pc := 7) C dX7_weightToPlaces_7 rfl (lv_at hl 0 rfl) ?_
    refine gf_X7_23 (pc := 8) C t0 dX7_weightToPlaces_8 ?_
    refine r_icmp_ge (pc := 11) C (tgt := 41) dX7_weightToPlaces_11 (by decide) (fun _ => ?_) (fun _ => ?_)
    · exact hK S v3 v4 _ (lv_sub hl [0, 1, 2, 3, 4] rfl)
    · refine r_iload_n (pc := 14) C dX7_weightToPlaces_14 rfl (lv_at hl 2 rfl) ?_
      refine r_iconst (pc := 15) C (1 : Int32) dX7_weightToPlaces_15 (by decide) ?_
      refine r_iload (pc := 16) C dX7_weightToPlaces_16 (lv_at hl 4 rfl) ?_
      refine r_ishl (pc := 18) C dX7_weightToPlaces_18 ?_
      refine r_iand (pc := 19) C dX7_weightToPlaces_19 ?_
      refine r_join (fun (j : St → Int32 → Option (St × Int32)) => ∀ (S22 : St) (v23 : Int32) (ls : Array Slot), lv_has ls 5 [(0, .ref (base + k0)), (1, .int v1), (2, .int v2), (3, .int v23), (4, .int v4)] → Sim p l e rm_X7_weightToPlaces s m args below meth c D cy base 0 0 (fun S1 r => MQ below (QcI D cy base tS S1 r) args s 0 0 (AA base)) (j S22 v23) S22 (F0 m 35 ls [])) ?_ (fun j21 hj21 => ?_)
      · intro S22 v23 ls hl
        refine r_iinc (pc := 35) C (k := 4) (1 : Int32) (fun v24 => [(4, .int v24), (0, .ref (base + k0)), (1, .int v1), (2, .int v2), (3, .int v23)]) dX7_weightToPlaces_35 hl rfl (by decide) (Nat.le_of_ble_eq_true rfl) (fun _ => rfl) (fun v24 ls hl => ?_)
        refine r_goto (pc := 38) C (tgt := 5) dX7_weightToPlaces_38 (by decide) ?_
        exact ih S22 v23 v24 _ (lv_sub hl [1, 2, 3, 4, 0] rfl)
      refine r_if_eq (pc := 20) C (tgt := 35) dX7_weightToPlaces_20 (by decide) (fun _ => ?_) (fun _ => ?_)
      · exact hj21 S v3 _ (lv_sub hl [0, 1, 2, 3, 4] rfl)
      · refine r_iload_n (pc := 23) C dX7_weightToPlaces_23 rfl (lv_at hl 3 rfl) ?_
        refine r_aload_n (pc := 24) C dX7_weightToPlaces_24 rfl (lv_at hl 0 rfl) ?_
        refine gf_X7_17 (pc := 25) C t0 dX7_weightToPlaces_25 ?_
        have t25 := ft_7_1 t0
        refine r_iload_n (pc := 28) C dX7_weightToPlaces_28 rfl (lv_at hl 1 rfl) ?_
        refine r_aald17 (pc := 29) C t25 dX7_weightToPlaces_29 (fun b27 => ?_)
        have t26 := et_17_12 t25 b27
        refine r_iload (pc := 30) C dX7_weightToPlaces_30 (lv_at hl 4 rfl) ?_
        refine r_iald (pc := 32) C t26 dX7_weightToPlaces_32 ?_
        refine r_iadd (pc := 33) C dX7_weightToPlaces_33 ?_
        refine r_topi (fun v28 => ?_)
        refine r_istore_n (lv2 := [(3, .int v28), (0, .ref (base + k0)), (1, .int v1), (2, .int v2), (4, .int v4)]) (pc := 34) C dX7_weightToPlaces_34 rfl hl (Nat.le_of_ble_eq_true rfl) rfl (fun ls hl => ?_)
        exact hj21 S v28 _ (lv_sub hl [1, 2, 3, 0, 4] rfl)

set_option maxHeartbeats 4000000 in
set_option maxRecDepth 100000 in
theorem sm_X7_weightToPlaces {p : Program} {l : Launch} {e : Env} {s : State} {m : MethodId} {args : Array Value} {below : List Frame} {meth : Method} {c : Code} {D : va_G} {cy : Nat → ClassId} {base tS : Nat} {S : St} {k0 : Nat} {v1 : Int32} {v2 : Int32} {ls : Array Slot} (C : Cx p rm_X7_weightToPlaces s m args c RX7 cX7_weightToPlaces 5 D cy base tS 0 0) (hr : meth.sig.returnType = (some .int)) (hk : meth.locks = false) (t0 : cls k0 = 7) (hl : lv_has ls 5 [(0, .ref (base + k0)), (1, .int v1), (2, .int v2)]) : Sim p l e rm_X7_weightToPlaces s m args below meth c D cy base 0 0 (fun S1 r => MQ below (QcI D cy base tS S1 r) args s 0 0 (AA base)) (X7_weightToPlaces S k0 v1 v2) S (F0 m 0 ls []) := by
  unfold X7_weightToPlaces
  refine r_iconst (pc := 0) C (0 : Int32) dX7_weightToPlaces_0 (by decide) ?_
  refine r_istore_n (lv2 := [(3, .int (0 : Int32)), (0, .ref (base + k0)), (1, .int v1), (2, .int v2)]) (pc := 1) C dX7_weightToPlaces_1 rfl hl (Nat.le_of_ble_eq_true rfl) rfl (fun ls hl => ?_)
  refine r_iconst (pc := 2) C (0 : Int32) dX7_weightToPlaces_2 (by decide) ?_
  refine r_istore (lv2 := [(4, .int (0 : Int32)), (3, .int (0 : Int32)), (0, .ref (base + k0)), (1, .int v1), (2, .int v2)]) (pc := 3) C dX7_weightToPlaces_3 hl (Nat.le_of_ble_eq_true rfl) rfl (fun ls hl => ?_)
  refine lp_X7_weightToPlaces_5 (ls := ls) C hr hk t0 (fun S29 v30 v31 ls hl => ?_) FU S (0 : Int32) (0 : Int32) _ (lv_sub hl [2, 3, 4, 1, 0] rfl)
  refine r_iload_n (pc := 41) C dX7_weightToPlaces_41 rfl (lv_at hl 3 rfl) ?_
  exact r_iret (pc := 42) C hr hk dX7_weightToPlaces_42

theorem ct_X7_weightToPlaces (l : Launch) {D : va_G} {cy : Nat → ClassId} {base tS : Nat} {S : St} {k0 : Nat} {v1 : Int32} {v2 : Int32} (t0 : cls k0 = 7) {S1 : St} {r1 : Int32} (h : X7_weightToPlaces S k0 v1 v2 = some (S1, r1)) : Met l yX7_weightToPlaces (wsY yX7_weightToPlaces cX7_weightToPlaces 5 (some .int)) rm_X7_weightToPlaces (va_Pc [.ref (base + k0), .int v1, .int v2] (World D cy base tS S)) (QcI D cy base tS S1 r1) 0 0 (AA base) := conI rfl rfl (by decide) (Nat.le_of_ble_eq_true rfl) (fun p e s m args below meth c ls C hr hk hl => sm_X7_weightToPlaces C hr hk t0 hl) h
theorem cv_X1_35 {p : Program} {l : Launch} {e : Env} {R : Room} {s : State} {m : MethodId} {args : Array Value} {below : List Frame} {meth : Method} {c : Code} {D : va_G} {cy : Nat → ClassId} {base tS nc ns : Nat} {cc : ByteArray} {nL pc : Nat} {ls : Array Slot} {rest : List Value} {S : St} {ρ : Type} {Q : St → ρ → State → Prop} (C : Cx p R s m args c RX1 cc nL D cy base tS nc ns) {k0 : Nat} {v1 : Int32} {v2 : Int32} (t0 : cls k0 = 7) (hl : ls.size = nL) (hR : rm_X7_weightToPlaces.frames + 1 ≤ R.frames ∧ 8 + (5 + 11) + rm_X7_weightToPlaces.locals ≤ R.locals) {b : St → Int32 → Option (St × ρ)} (hroom : (rest.map fun v => v.category).sum ≤ 8) (hd : decode cc pc = .ok (.invokevirtual 35, 3)) (kk : ∀ (S1 : St) (r : Int32), Sim p l e R s m args below meth c D cy base nc ns Q (b S1 r) S1 (F0 m (pc + 3) ls (.int r :: rest))) : Sim p l e R s m args below meth c D cy base nc ns Q (bd (X7_weightToPlaces S k0 v1 v2) b) S (F0 m pc ls (.int v2 :: .int v1 :: .ref (base + k0) :: rest)) := r_callVI (n := 2) (As := [.int v1, .int v2]) C hl (rd_7 t0) (cls_lt t0 (by decide)) rfl (fun S1 r1 h => ct_X7_weightToPlaces l t0 h) wd_208 wd_209 wd_210 wd_169 wd_211 rfl rfl (by decide +kernel) hR rfl rfl hroom hd kk
theorem cv_X6_58 {p : Program} {l : Launch} {e : Env} {R : Room} {s : State} {m : MethodId} {args : Array Value} {below : List Frame} {meth : Method} {c : Code} {D : va_G} {cy : Nat → ClassId} {base tS nc ns : Nat} {cc : ByteArray} {nL pc : Nat} {ls : Array Slot} {rest : List Value} {S : St} {ρ : Type} {Q : St → ρ → State → Prop} (C : Cx p R s m args c RX6 cc nL D cy base tS nc ns) {k0 : Nat} {v1 : Int32} {v2 : Int32} (t0 : cls k0 = 7) (hl : ls.size = nL) (hR : rm_X7_weightToPlaces.frames + 1 ≤ R.frames ∧ 8 + (5 + 11) + rm_X7_weightToPlaces.locals ≤ R.locals) {b : St → Int32 → Option (St × ρ)} (hroom : (rest.map fun v => v.category).sum ≤ 8) (hd : decode cc pc = .ok (.invokevirtual 58, 3)) (kk : ∀ (S1 : St) (r : Int32), Sim p l e R s m args below meth c D cy base nc ns Q (b S1 r) S1 (F0 m (pc + 3) ls (.int r :: rest))) : Sim p l e R s m args below meth c D cy base nc ns Q (bd (X7_weightToPlaces S k0 v1 v2) b) S (F0 m pc ls (.int v2 :: .int v1 :: .ref (base + k0) :: rest)) := r_callVI (n := 2) (As := [.int v1, .int v2]) C hl (rd_7 t0) (cls_lt t0 (by decide)) rfl (fun S1 r1 h => ct_X7_weightToPlaces l t0 h) wd_212 wd_209 wd_210 wd_169 wd_211 rfl rfl (by decide +kernel) hR rfl rfl hroom hd kk
theorem cv_X7_48 {p : Program} {l : Launch} {e : Env} {R : Room} {s : State} {m : MethodId} {args : Array Value} {below : List Frame} {meth : Method} {c : Code} {D : va_G} {cy : Nat → ClassId} {base tS nc ns : Nat} {cc : ByteArray} {nL pc : Nat} {ls : Array Slot} {rest : List Value} {S : St} {ρ : Type} {Q : St → ρ → State → Prop} (C : Cx p R s m args c RX7 cc nL D cy base tS nc ns) {k0 : Nat} {v1 : Int32} {v2 : Int32} (t0 : cls k0 = 7) (hl : ls.size = nL) (hR : rm_X7_weightToPlaces.frames + 1 ≤ R.frames ∧ 8 + (5 + 11) + rm_X7_weightToPlaces.locals ≤ R.locals) {b : St → Int32 → Option (St × ρ)} (hroom : (rest.map fun v => v.category).sum ≤ 8) (hd : decode cc pc = .ok (.invokevirtual 48, 3)) (kk : ∀ (S1 : St) (r : Int32), Sim p l e R s m args below meth c D cy base nc ns Q (b S1 r) S1 (F0 m (pc + 3) ls (.int r :: rest))) : Sim p l e R s m args below meth c D cy base nc ns Q (bd (X7_weightToPlaces S k0 v1 v2) b) S (F0 m pc ls (.int v2 :: .int v1 :: .ref (base + k0) :: rest)) := r_callVI (n := 2) (As := [.int v1, .int v2]) C hl (rd_7 t0) (cls_lt t0 (by decide)) rfl (fun S1 r1 h => ct_X7_weightToPlaces l t0 h) wd_213 wd_209 wd_210 wd_169 wd_211 rfl rfl (by decide +kernel) hR rfl rfl hroom hd kk
abbrev rm_X7_bitsOfLost : Room := { frames := 1, cells := 0, slots := 0, locals := 24 }
set_option maxHeartbeats 4000000 in
set_option maxRecDepth 100000 in
theorem lp_X7_bitsOfLost_17 {p : Program} {l : Launch} {e : Env} {s : State} {m : MethodId} {args : Array Value} {below : List Frame} {meth : Method} {c : Code} {D : va_G} {cy : Nat → ClassId} {base tS : Nat} {ls : Array Slot} (C : Cx p rm_X7_bitsOfLost s m args c RX7 cX7_bitsOfLost 5 D cy base tS 0 0) (hr : meth.sig.returnType = (some .int)) (hk : meth.locks = false) {k0 : Nat} {v2 : Int32} (t0 : cls k0 = 7) {K : St → Int32 → Int32 → Option (St × Int32)} (hK : ∀ (S : St) (v1 : Int32) (v3 : Int32) (ls : Array Slot), lv_has ls 5 [(0, .ref (base + k0)), (1, .int v1), (2, .int v2), (3, .int v3)] → Sim p l e rm_X7_bitsOfLost s m args below meth c D cy base 0 0 (fun S1 r => MQ below (QcI D cy base tS S1 r) args s 0 0 (AA base)) (K S v1 v3) S (F0 m 67 ls [])) : ∀ (n : Nat) (S : St) (v1 : Int32) (v3 : Int32) (ls : Array Slot), lv_has ls 5 [(0, .ref (base + k0)), (1, .int v1), (2, .int v2), (3, .int v3)] → Sim p l e rm_X7_bitsOfLost s m args below meth c D cy base 0 0 (fun S1 r => MQ below (QcI D cy base tS S1 r) args s 0 0 (AA base)) (X7_bitsOfLost_17 k0 v2 K n S v1 v3) S (F0 m 17 ls []) := by
  intro n
  induction n with
  | zero => intro S v1 v3 ls hl; exact Sim.none
  | succ n ih =>
    intro S v1 v3 ls hl
    rw [X7_bitsOfLost_17]
    refine r_iload_n (pc := 17) C dX7_bitsOfLost_17 rfl (lv_at hl 3 rfl) ?_
    refine r_aload_n (pc := 18) C dX7_bitsOfLost_18 rfl (lv_at hl 0 rfl) ?_
    refine gf_X7_23 (pc := 19) C t0 dX7_bitsOfLost_19 ?_
    refine r_icmp_ge (pc := 22) C (tgt := 67) dX7_bitsOfLost_22 (by decide) (fun _ => ?_) (fun _ => ?_)
    · exact hK S v1 v3 _ (lv_sub hl [0, 1, 2, 3] rfl)
    · refine r_aload_n (pc := 25) C dX7_bitsOfLost_25 rfl (lv_at hl 0 rfl) ?_
      refine cv_X7_41 (pc := 26) C t0 hl.1 ⟨Nat.le_of_ble_eq_true rfl, Nat.le_of_ble_eq_true rfl⟩ (Nat.le_of_ble_eq_true rfl) dX7_bitsOfLost_26 (fun S23 v24 => ?_)
      refine r_iload_n (pc := 29) C dX7_bitsOfLost_29 rfl (lv_at hl 1 rfl) ?_
      refine r_iconst (pc := 30) C (-1 : Int32) dX7_bitsOfLost_30 (by decide) ?_
      refine r_ixor (pc := 31) C dX7_bitsOfLost_31 ?_
      refine r_iand (pc := 32) C dX7_bitsOfLost_32 ?_
      refine r_topi (fun v25 => ?_)
      refine r_istore (lv2 := [(4, .int v25), (0, .ref (base + k0)), (1, .int v1), (2, .int v2), (3, .int v3)]) (pc := 33) C dX7_bitsOfLost_33 hl (Nat.le_of_ble_eq_true rfl) rfl (fun ls hl => ?_)
      refine r_aload_n (pc := 35) C dX7_bitsOfLost_35 rfl (lv_at hl 1 rfl) ?_
      refine r_iload_n (pc := 36) C dX7_bitsOfLost_36 rfl (lv_at hl 4 rfl) ?_
      refine cv_X7_45 (pc := 37) C t0 hl.1 ⟨Nat.le_of_ble_eq_true rfl, Nat.le_of_ble_eq_true rfl⟩ (Nat.le_of_ble_eq_true rfl) dX7_bitsOfLost_37 (fun S26 v27 => ?_)
      refine r_join (fun (j : St → Int32 → Option (St × Int32)) => ∀ (S29 : St) (v30 : Int32) (ls : Array Slot), lv_has ls 5 [(0, .ref (base + k0)), (1, .int v30), (2, .int v2), (3, .int v3)] → Sim p l e rm_X7_bitsOfLost s m args below meth c D cy base 0 0 (fun S1 r => MQ below (QcI D cy base tS S1 r) args s 0 0 (AA base)) (j S29 v30) S29 (F0 m 61 ls [])) ?_ (fun j28 hj28 => ?_)
      · intro S29 v30 ls hl
        refine r_iinc (pc := 61) C (k := 3) (1 : Int32) (fun v31 => [(3, .int v31), (0, .ref (base + k0)), (1, .int v30), (2, .int v2)]) dX7_bitsOfLost_61 hl rfl (by decide) (Nat.le_of_ble_eq_true rfl) (fun _ => rfl) (fun v31 ls hl => ?_)
        refine r_goto (pc := 64) C (tgt := 17) dX7_bitsOfLost_64 (by decide) ?_
        exact ih S29 v30 v31 _ (lv_sub hl [1, 2, 3, 0] rfl)
      refine r_join (fun (j : St → Option (St × Int32)) => ∀ (S33 : St)  (ls : Array Slot), lv_has ls 5 [(0, .ref (base + k0)), (1, .int v1), (2, .int v2), (3, .int v3)] → Sim p l e rm_X7_bitsOfLost s m args below meth c D cy base 0 0 (fun S1 r => MQ below (QcI D cy base tS S1 r) args s 0 0 (AA base)) (j S33) S33 (F0 m 53 ls [])) ?_ (fun j32 hj32 => ?_)
      · intro S33 ls hl
        refine r_iload_n (pc := 53) C dX7_bitsOfLost_53 rfl (lv_at hl 1 rfl) ?_
        refine r_iconst (pc := 54) C (1 : Int32) dX7_bitsOfLost_54 (by decide) ?_
        refine r_iload_n (pc := 55) C dX7_bitsOfLost_55 rfl (lv_at hl 3 rfl) ?_
        refine r_ishl (pc := 56) C dX7_bitsOfLost_56 ?_
        refine r_iconst (pc := 57) C (-1 : Int32) dX7_bitsOfLost_57 (by decide) ?_
        refine r_ixor (pc := 58) C dX7_bitsOfLost_58 ?_
        refine r_iand (pc := 59) C dX7_bitsOfLost_59 ?_
        refine r_topi (fun v34 => ?_)
        refine r_istore_n (lv2 := [(1, .int v34), (0, .ref (base + k0)), (2, .int v2), (3, .int v3)]) (pc := 60) C dX7_bitsOfLost_60 rfl hl (Nat.le_of_ble_eq_true rfl) rfl (fun ls hl => ?_)
        exact hj28 S33 v34 _ (lv_sub hl [1, 0, 2, 3] rfl)
      refine r_if_ne (pc := 40) C (tgt := 53) dX7_bitsOfLost_40 (by decide) (fun _ => ?_) (fun _ => ?_)
      · exact hj32 S26  _ (lv_sub hl [1, 2, 3, 4] rfl)
      · refine r_aload_n (pc := 43) C dX7_bitsOfLost_43 rfl (lv_at hl 1 rfl) ?_
        refine r_iload_n (pc := 44) C dX7_bitsOfLost_44 rfl (lv_at hl 4 rfl) ?_
        refine r_iload (pc := 45) C dX7_bitsOfLost_45 (lv_at hl 0 rfl) ?_
        refine cv_X7_48 (pc := 47) C t0 hl.1 ⟨Nat.le_of_ble_eq_true rfl, Nat.le_of_ble_eq_true rfl⟩ (Nat.le_of_ble_eq_true rfl) dX7_bitsOfLost_47 (fun S35 v36 => ?_)
        refine r_if_le (pc := 50) C (tgt := 61) dX7_bitsOfLost_50 (by decide) (fun _ => ?_) (fun _ => ?_)
        · exact hj28 S35 v1 _ (lv_sub hl [1, 2, 3, 4] rfl)
        · exact hj32 S35  _ (lv_sub hl [1, 2, 3, 4] rfl)

set_option maxHeartbeats 4000000 in
set_option maxRecDepth 100000 in
theorem lp_X7_bitsOfLost_7 {p : Program} {l : Launch} {e : Env} {s : State} {m : MethodId} {args : Array Value} {below : List Frame} {meth : Method} {c : Code} {D : va_G} {cy : Nat → ClassId} {base tS : Nat} {ls : Array Slot} (C : Cx p rm_X7_bitsOfLost s m args c RX7 cX7_bitsOfLost 5 D cy base tS 0 0) (hr : meth.sig.returnType = (some .int)) (hk : meth.locks = false) {k0 : Nat} (t0 : cls k0 = 7) {K : St → Int32 → Int32 → Option (St × Int32)} (hK : ∀ (S : St) (v1 : Int32) (v2 : Int32) (ls : Array Slot), lv_has ls 5 [(0, .ref (base + k0)), (1, .int v1), (2, .int v2)] → Sim p l e rm_X7_bitsOfLost s m args below meth c D cy base 0 0 (fun S1 r => MQ below (QcI D cy base tS S1 r) args s 0 0 (AA base)) (K S v1 v2) S (F0 m 73 ls [])) : ∀ (n : Nat) (S : St) (v1 : Int32) (v2 : Int32) (ls : Array Slot), lv_has ls 5 [(0, .ref (base + k0)), (1, .int v1), (2, .int v2)] → Sim p l e rm_X7_bitsOfLost s m args below meth c D cy base 0 0 (fun S1 r => MQ below (QcI D cy base tS S1 r) args s 0 0 (AA base)) (X7_bitsOfLost_7 k0 K n S v1 v2) S (F0 m 7 ls []) := by
  intro n
  induction n with
  | zero => intro S v1 v2 ls hl; exact Sim.none
  | succ n ih =>
    intro S v1 v2 ls hl
    rw [X7_bitsOfLost_7]
    refine r_iload_n (pc := 7) C dX7_bitsOfLost_7 rfl (lv_at hl 2 rfl) ?_
    refine r_aload_n (pc := 8) C dX7_bitsOfLost_8 rfl (lv_at hl 0 rfl) ?_
    refine gf_X7_23 (pc := 9) C t0 dX7_bitsOfLost_9 ?_
    refine r_icmp_ge (pc := 12) C (tgt := 73) dX7_bitsOfLost_12 (by decide) (fun _ => ?_) (fun _ => ?_)
    · exact hK S v1 v2 _ (lv_sub hl [0, 1, 2] rfl)
    · refine r_iconst (pc := 15) C (0 : Int32) dX7_bitsOfLost_15 (by decide) ?_
      refine r_istore_n (lv2 := [(3, .int (0 : Int32)), (0, .ref (base + k0)), (1, .int v1), (2, .int v2)]) (pc := 16) C dX7_bitsOfLost_16 rfl hl (Nat.le_of_ble_eq_true rfl) rfl (fun ls hl => ?_)
      refine lp_X7_bitsOfLost_17 (ls := ls) C hr hk t0 (fun S37 v38 v39 ls hl => ?_) FU S v1 (0 : Int32) _ (lv_sub hl [1, 2, 3, 0] rfl)
      refine r_iinc (pc := 67) C (k := 2) (1 : Int32) (fun v40 => [(2, .int v40), (0, .ref (base + k0)), (1, .int v38), (3, .int v39)]) dX7_bitsOfLost_67 hl rfl (by decide) (Nat.le_of_ble_eq_true rfl) (fun _ => rfl) (fun v40 ls hl => ?_)
      refine r_goto (pc := 70) C (tgt := 7) dX7_bitsOfLost_70 (by decide) ?_
      exact ih S37 v38 v40 _ (lv_sub hl [1, 2, 0] rfl)

set_option maxHeartbeats 4000000 in
set_option maxRecDepth 100000 in
theorem sm_X7_bitsOfLost {p : Program} {l : Launch} {e : Env} {s : State} {m : MethodId} {args : Array Value} {below : List Frame} {meth : Method} {c : Code} {D : va_G} {cy : Nat → ClassId} {base tS : Nat} {S : St} {k0 : Nat} {ls : Array Slot} (C : Cx p rm_X7_bitsOfLost s m args c RX7 cX7_bitsOfLost 5 D cy base tS 0 0) (hr : meth.sig.returnType = (some .int)) (hk : meth.locks = false) (t0 : cls k0 = 7) (hl : lv_has ls 5 [(0, .ref (base + k0))]) : Sim p l e rm_X7_bitsOfLost s m args below meth c D cy base 0 0 (fun S1 r => MQ below (QcI D cy base tS S1 r) args s 0 0 (AA base)) (X7_bitsOfLost S k0) S (F0 m 0 ls []) := by
  unfold X7_bitsOfLost
  refine r_aload_n (pc := 0) C dX7_bitsOfLost_0 rfl (lv_at hl 0 rfl) ?_
  refine cv_X7_41 (pc := 1) C t0 hl.1 ⟨Nat.le_of_ble_eq_true rfl, Nat.le_of_ble_eq_true rfl⟩ (Nat.le_of_ble_eq_true rfl) dX7_bitsOfLost_1 (fun S21 v22 => ?_)
  refine r_istore_n (lv2 := [(1, .int v22), (0, .ref (base + k0))]) (pc := 4) C dX7_bitsOfLost_4 rfl hl (Nat.le_of_ble_eq_true rfl) rfl (fun ls hl => ?_)
  refine r_iconst (pc := 5) C (0 : Int32) dX7_bitsOfLost_5 (by decide) ?_
  refine r_istore_n (lv2 := [(2, .int (0 : Int32)), (1, .int v22), (0, .ref (base + k0))]) (pc := 6) C dX7_bitsOfLost_6 rfl hl (Nat.le_of_ble_eq_true rfl) rfl (fun ls hl => ?_)
  refine lp_X7_bitsOfLost_7 (ls := ls) C hr hk t0 (fun S41 v42 v43 ls hl => ?_) FU S21 v22 (0 : Int32) _ (lv_sub hl [2, 1, 0] rfl)
  refine r_iload_n (pc := 73) C dX7_bitsOfLost_73 rfl (lv_at hl 1 rfl) ?_
  exact r_iret (pc := 74) C hr hk dX7_bitsOfLost_74

theorem ct_X7_bitsOfLost (l : Launch) {D : va_G} {cy : Nat → ClassId} {base tS : Nat} {S : St} {k0 : Nat} (t0 : cls k0 = 7) {S1 : St} {r1 : Int32} (h : X7_bitsOfLost S k0 = some (S1, r1)) : Met l yX7_bitsOfLost (wsY yX7_bitsOfLost cX7_bitsOfLost 5 (some .int)) rm_X7_bitsOfLost (va_Pc [.ref (base + k0)] (World D cy base tS S)) (QcI D cy base tS S1 r1) 0 0 (AA base) := conI rfl rfl (by decide) (Nat.le_of_ble_eq_true rfl) (fun p e s m args below meth c ls C hr hk hl => sm_X7_bitsOfLost C hr hk t0 hl) h
theorem cv_X10_122 {p : Program} {l : Launch} {e : Env} {R : Room} {s : State} {m : MethodId} {args : Array Value} {below : List Frame} {meth : Method} {c : Code} {D : va_G} {cy : Nat → ClassId} {base tS nc ns : Nat} {cc : ByteArray} {nL pc : Nat} {ls : Array Slot} {rest : List Value} {S : St} {ρ : Type} {Q : St → ρ → State → Prop} (C : Cx p R s m args c RX10 cc nL D cy base tS nc ns) {k0 : Nat} (t0 : cls k0 = 7) (hl : ls.size = nL) (hR : rm_X7_bitsOfLost.frames + 1 ≤ R.frames ∧ 8 + (5 + 11) + rm_X7_bitsOfLost.locals ≤ R.locals) {b : St → Int32 → Option (St × ρ)} (hroom : (rest.map fun v => v.category).sum ≤ 8) (hd : decode cc pc = .ok (.invokevirtual 122, 3)) (kk : ∀ (S1 : St) (r : Int32), Sim p l e R s m args below meth c D cy base nc ns Q (b S1 r) S1 (F0 m (pc + 3) ls (.int r :: rest))) : Sim p l e R s m args below meth c D cy base nc ns Q (bd (X7_bitsOfLost S k0) b) S (F0 m pc ls (.ref (base + k0) :: rest)) := r_callVI (n := 0) (As := []) C hl (rd_7 t0) (cls_lt t0 (by decide)) rfl (fun S1 r1 h => ct_X7_bitsOfLost l t0 h) wd_214 wd_215 wd_216 wd_169 wd_217 rfl rfl (by decide +kernel) hR rfl rfl hroom hd kk
abbrev rm_X10_begin : Room := { frames := 2, cells := 0, slots := 0, locals := 48 }
set_option maxHeartbeats 4000000 in
set_option maxRecDepth 100000 in
theorem sm_X10_begin {p : Program} {l : Launch} {e : Env} {s : State} {m : MethodId} {args : Array Value} {below : List Frame} {meth : Method} {c : Code} {D : va_G} {cy : Nat → ClassId} {base tS : Nat} {S : St} {k0 : Nat} {ls : Array Slot} (C : Cx p rm_X10_begin s m args c RX10 cX10_begin 2 D cy base tS 0 0) (hr : meth.sig.returnType = (some .int)) (hk : meth.locks = false) (t0 : cls k0 = 10) (hl : lv_has ls 2 [(0, .ref (base + k0))]) : Sim p l e rm_X10_begin s m args below meth c D cy base 0 0 (fun S1 r => MQ below (QcI D cy base tS S1 r) args s 0 0 (AA base)) (X10_begin S k0) S (F0 m 0 ls []) := by
  unfold X10_begin
  refine r_aload_n (pc := 0) C dX10_begin_0 rfl (lv_at hl 0 rfl) ?_
  refine gf_X10_92 (pc := 1) C t0 dX10_begin_1 ?_
  refine r_if_eq (pc := 4) C (tgt := 14) dX10_begin_4 (by decide) (fun _ => ?_) (fun _ => ?_)
  · refine r_aload_n (pc := 14) C dX10_begin_14 rfl (lv_at hl 0 rfl) ?_
    refine gf_X10_10 (pc := 15) C t0 dX10_begin_15 ?_
    have t21 := ft_10_0 t0
    refine gf_X10_100 (pc := 18) C t21 dX10_begin_18 ?_
    refine r_if_ne (pc := 21) C (tgt := 31) dX10_begin_21 (by decide) (fun _ => ?_) (fun _ => ?_)
    · refine r_aload_n (pc := 31) C dX10_begin_31 rfl (lv_at hl 0 rfl) ?_
      refine gf_X10_10 (pc := 32) C t0 dX10_begin_32 ?_
      have t22 := ft_10_0 t0
      refine cv_X10_122 (pc := 35) C t22 hl.1 ⟨Nat.le_of_ble_eq_true rfl, Nat.le_of_ble_eq_true rfl⟩ (Nat.le_of_ble_eq_true rfl) dX10_begin_35 (fun S23 v24 => ?_)
      refine r_istore_n (lv2 := [(1, .int v24), (0, .ref (base + k0))]) (pc := 38) C dX10_begin_38 rfl hl (Nat.le_of_ble_eq_true rfl) rfl (fun ls hl => ?_)
      refine r_iload_n (pc := 39) C dX10_begin_39 rfl (lv_at hl 0 rfl) ?_
      refine r_if_eq (pc := 40) C (tgt := 55) dX10_begin_40 (by decide) (fun _ => ?_) (fun _ => ?_)
      · refine r_aload_n (pc := 55) C dX10_begin_55 rfl (lv_at hl 1 rfl) ?_
        refine r_iconst (pc := 56) C (1 : Int32) dX10_begin_56 (by decide) ?_
        refine pf_X10_92 (pc := 57) C t0 rfl rfl dX10_begin_57 (fun S25 => ?_)
        refine r_aload_n (pc := 60) C dX10_begin_60 rfl (lv_at hl 1 rfl) ?_
        refine gf_X10_10 (pc := 61) C t0 dX10_begin_61 ?_
        have t26 := ft_10_0 t0
        refine gf_X10_100 (pc := 64) C t26 dX10_begin_64 ?_
        exact r_iret (pc := 67) C hr hk dX10_begin_67
      · refine r_aload_n (pc := 43) C dX10_begin_43 rfl (lv_at hl 1 rfl) ?_
        refine r_iload_n (pc := 44) C dX10_begin_44 rfl (lv_at hl 0 rfl) ?_
        refine pf_X10_126 (pc := 45) C t0 dX10_begin_45 (fun S27 => ?_)
        refine r_aload_n (pc := 48) C dX10_begin_48 rfl (lv_at hl 1 rfl) ?_
        refine r_bipush (pc := 49) C (-7 : Int32) dX10_begin_49 (by decide) ?_
        refine cv_X10_96 (pc := 51) C t0 hl.1 ⟨Nat.le_of_ble_eq_true rfl, Nat.le_of_ble_eq_true rfl⟩ (Nat.le_of_ble_eq_true rfl) dX10_begin_51 (fun S28 v29 => ?_)
        exact r_iret (pc := 54) C hr hk dX10_begin_54
    · refine r_aload_n (pc := 24) C dX10_begin_24 rfl (lv_at hl 0 rfl) ?_
      refine r_bipush (pc := 25) C (-11 : Int32) dX10_begin_25 (by decide) ?_
      refine cv_X10_96 (pc := 27) C t0 hl.1 ⟨Nat.le_of_ble_eq_true rfl, Nat.le_of_ble_eq_true rfl⟩ (Nat.le_of_ble_eq_true rfl) dX10_begin_27 (fun S30 v31 => ?_)
      exact r_iret (pc := 30) C hr hk dX10_begin_30
  · refine r_aload_n (pc := 7) C dX10_begin_7 rfl (lv_at hl 0 rfl) ?_
    refine r_bipush (pc := 8) C (-6 : Int32) dX10_begin_8 (by decide) ?_
    refine cv_X10_96 (pc := 10) C t0 hl.1 ⟨Nat.le_of_ble_eq_true rfl, Nat.le_of_ble_eq_true rfl⟩ (Nat.le_of_ble_eq_true rfl) dX10_begin_10 (fun S32 v33 => ?_)
    exact r_iret (pc := 13) C hr hk dX10_begin_13

theorem ct_X10_begin (l : Launch) {D : va_G} {cy : Nat → ClassId} {base tS : Nat} {S : St} {k0 : Nat} (t0 : cls k0 = 10) {S1 : St} {r1 : Int32} (h : X10_begin S k0 = some (S1, r1)) : Met l yX10_begin (wsY yX10_begin cX10_begin 2 (some .int)) rm_X10_begin (va_Pc [.ref (base + k0)] (World D cy base tS S)) (QcI D cy base tS S1 r1) 0 0 (AA base) := conI rfl rfl (by decide) (Nat.le_of_ble_eq_true rfl) (fun p e s m args below meth c ls C hr hk hl => sm_X10_begin C hr hk t0 hl) h
abbrev rm_X0_clear : Room := { frames := 0, cells := 0, slots := 0, locals := 0 }
set_option maxHeartbeats 4000000 in
set_option maxRecDepth 100000 in
theorem sm_X0_clear {p : Program} {l : Launch} {e : Env} {s : State} {m : MethodId} {args : Array Value} {below : List Frame} {meth : Method} {c : Code} {D : va_G} {cy : Nat → ClassId} {base tS : Nat} {S : St} {k0 : Nat} {ls : Array Slot} (C : Cx p rm_X0_clear s m args c RX0 cX0_clear 1 D cy base tS 0 0) (hr : meth.sig.returnType = none) (hk : meth.locks = false) (t0 : cls k0 = 0) (hl : lv_has ls 1 [(0, .ref (base + k0))]) : Sim p l e rm_X0_clear s m args below meth c D cy base 0 0 (fun S1 r => MQ below (QcV D cy base tS S1 r) args s 0 0 (AA base)) (X0_clear S k0) S (F0 m 0 ls []) := by
  unfold X0_clear
  refine r_aload_n (pc := 0) C dX0_clear_0 rfl (lv_at hl 0 rfl) ?_
  refine r_iconst (pc := 1) C (0 : Int32) dX0_clear_1 (by decide) ?_
  refine pf_X0_34 (pc := 2) C t0 dX0_clear_2 (fun S21 => ?_)
  refine r_aload_n (pc := 5) C dX0_clear_5 rfl (lv_at hl 0 rfl) ?_
  refine r_iconst (pc := 6) C (0 : Int32) dX0_clear_6 (by decide) ?_
  refine pf_X0_18 (pc := 7) C t0 dX0_clear_7 (fun S22 => ?_)
  refine r_aload_n (pc := 10) C dX0_clear_10 rfl (lv_at hl 0 rfl) ?_
  refine r_lconst (pc := 11) C (1 : Int64) dX0_clear_11 (by decide) ?_
  refine pf_X0_22 (pc := 12) C t0 dX0_clear_12 (fun S23 => ?_)
  exact r_vret (pc := 15) C hr hk dX0_clear_15

theorem ct_X0_clear (l : Launch) {D : va_G} {cy : Nat → ClassId} {base tS : Nat} {S : St} {k0 : Nat} (t0 : cls k0 = 0) {S1 : St} {r1 : Unit} (h : X0_clear S k0 = some (S1, r1)) : Met l yX0_clear (wsY yX0_clear cX0_clear 1 none) rm_X0_clear (va_Pc [.ref (base + k0)] (World D cy base tS S)) (QcV D cy base tS S1 r1) 0 0 (AA base) := conV rfl rfl (by decide) (Nat.le_of_ble_eq_true rfl) (fun p e s m args below meth c ls C hr hk hl => sm_X0_clear C hr hk t0 hl) h
theorem cv_X10_133 {p : Program} {l : Launch} {e : Env} {R : Room} {s : State} {m : MethodId} {args : Array Value} {below : List Frame} {meth : Method} {c : Code} {D : va_G} {cy : Nat → ClassId} {base tS nc ns : Nat} {cc : ByteArray} {nL pc : Nat} {ls : Array Slot} {rest : List Value} {S : St} {ρ : Type} {Q : St → ρ → State → Prop} (C : Cx p R s m args c RX10 cc nL D cy base tS nc ns) {k0 : Nat} (t0 : cls k0 = 0) (hl : ls.size = nL) (hR : rm_X0_clear.frames + 1 ≤ R.frames ∧ 8 + (1 + 11) + rm_X0_clear.locals ≤ R.locals) {b : St → Unit → Option (St × ρ)} (hroom : (rest.map fun v => v.category).sum ≤ 8) (hd : decode cc pc = .ok (.invokevirtual 133, 3)) (kk : ∀ (S1 : St) (r : Unit), Sim p l e R s m args below meth c D cy base nc ns Q (b S1 r) S1 (F0 m (pc + 3) ls (rest))) : Sim p l e R s m args below meth c D cy base nc ns Q (bd (X0_clear S k0) b) S (F0 m pc ls (.ref (base + k0) :: rest)) := r_callVV (n := 0) (As := []) C hl (rd_0 t0) (cls_lt t0 (by decide)) rfl (fun S1 r1 h => ct_X0_clear l t0 h) wd_218 wd_219 wd_220 wd_221 wd_222 rfl rfl (by decide +kernel) hR rfl rfl hroom hd kk
abbrev rm_X1_clear : Room := { frames := 0, cells := 0, slots := 0, locals := 0 }
set_option maxHeartbeats 4000000 in
set_option maxRecDepth 100000 in
theorem sm_X1_clear {p : Program} {l : Launch} {e : Env} {s : State} {m : MethodId} {args : Array Value} {below : List Frame} {meth : Method} {c : Code} {D : va_G} {cy : Nat → ClassId} {base tS : Nat} {S : St} {k0 : Nat} {ls : Array Slot} (C : Cx p rm_X1_clear s m args c RX1 cX1_clear 1 D cy base tS 0 0) (hr : meth.sig.returnType = none) (hk : meth.locks = false) (t0 : cls k0 = 1) (hl : lv_has ls 1 [(0, .ref (base + k0))]) : Sim p l e rm_X1_clear s m args below meth c D cy base 0 0 (fun S1 r => MQ below (QcV D cy base tS S1 r) args s 0 0 (AA base)) (X1_clear S k0) S (F0 m 0 ls []) := by
  unfold X1_clear
  refine r_aload_n (pc := 0) C dX1_clear_0 rfl (lv_at hl 0 rfl) ?_
  refine r_iconst (pc := 1) C (0 : Int32) dX1_clear_1 (by decide) ?_
  refine pf_X1_15 (pc := 2) C t0 dX1_clear_2 (fun S21 => ?_)
  refine r_aload_n (pc := 5) C dX1_clear_5 rfl (lv_at hl 0 rfl) ?_
  refine r_iconst (pc := 6) C (0 : Int32) dX1_clear_6 (by decide) ?_
  refine pf_X1_19 (pc := 7) C t0 dX1_clear_7 (fun S22 => ?_)
  exact r_vret (pc := 10) C hr hk dX1_clear_10

theorem ct_X1_clear (l : Launch) {D : va_G} {cy : Nat → ClassId} {base tS : Nat} {S : St} {k0 : Nat} (t0 : cls k0 = 1) {S1 : St} {r1 : Unit} (h : X1_clear S k0 = some (S1, r1)) : Met l yX1_clear (wsY yX1_clear cX1_clear 1 none) rm_X1_clear (va_Pc [.ref (base + k0)] (World D cy base tS S)) (QcV D cy base tS S1 r1) 0 0 (AA base) := conV rfl rfl (by decide) (Nat.le_of_ble_eq_true rfl) (fun p e s m args below meth c ls C hr hk hl => sm_X1_clear C hr hk t0 hl) h
theorem cv_X10_135 {p : Program} {l : Launch} {e : Env} {R : Room} {s : State} {m : MethodId} {args : Array Value} {below : List Frame} {meth : Method} {c : Code} {D : va_G} {cy : Nat → ClassId} {base tS nc ns : Nat} {cc : ByteArray} {nL pc : Nat} {ls : Array Slot} {rest : List Value} {S : St} {ρ : Type} {Q : St → ρ → State → Prop} (C : Cx p R s m args c RX10 cc nL D cy base tS nc ns) {k0 : Nat} (t0 : cls k0 = 1) (hl : ls.size = nL) (hR : rm_X1_clear.frames + 1 ≤ R.frames ∧ 8 + (1 + 11) + rm_X1_clear.locals ≤ R.locals) {b : St → Unit → Option (St × ρ)} (hroom : (rest.map fun v => v.category).sum ≤ 8) (hd : decode cc pc = .ok (.invokevirtual 135, 3)) (kk : ∀ (S1 : St) (r : Unit), Sim p l e R s m args below meth c D cy base nc ns Q (b S1 r) S1 (F0 m (pc + 3) ls (rest))) : Sim p l e R s m args below meth c D cy base nc ns Q (bd (X1_clear S k0) b) S (F0 m pc ls (.ref (base + k0) :: rest)) := r_callVV (n := 0) (As := []) C hl (rd_1 t0) (cls_lt t0 (by decide)) rfl (fun S1 r1 h => ct_X1_clear l t0 h) wd_223 wd_224 wd_225 wd_226 wd_227 rfl rfl (by decide +kernel) hR rfl rfl hroom hd kk
abbrev rm_X2_clear : Room := { frames := 0, cells := 0, slots := 0, locals := 0 }
set_option maxHeartbeats 4000000 in
set_option maxRecDepth 100000 in
theorem lp_X2_clear_2 {p : Program} {l : Launch} {e : Env} {s : State} {m : MethodId} {args : Array Value} {below : List Frame} {meth : Method} {c : Code} {D : va_G} {cy : Nat → ClassId} {base tS : Nat} {ls : Array Slot} (C : Cx p rm_X2_clear s m args c RX2 cX2_clear 2 D cy base tS 0 0) (hr : meth.sig.returnType = none) (hk : meth.locks = false) {k0 : Nat} (t0 : cls k0 = 2) {K : St → Int32 → Option (St × Unit)} (hK : ∀ (S : St) (v1 : Int32) (ls : Array Slot), lv_has ls 2 [(0, .ref (base + k0)), (1, .int v1)] → Sim p l e rm_X2_clear s m args below meth c D cy base 0 0 (fun S1 r => MQ below (QcV D cy base tS S1 r) args s 0 0 (AA base)) (K S v1) S (F0 m 28 ls [])) : ∀ (n : Nat) (S : St) (v1 : Int32) (ls : Array Slot), lv_has ls 2 [(0, .ref (base + k0)), (1, .int v1)] → Sim p l e rm_X2_clear s m args below meth c D cy base 0 0 (fun S1 r => MQ below (QcV D cy base tS S1 r) args s 0 0 (AA base)) (X2_clear_2 k0 K n S v1) S (F0 m 2 ls []) := by
  intro n
  induction n with
  | zero => intro S v1 ls hl; exact Sim.none
  | succ n ih =>
    intro S v1 ls hl
    rw [X2_clear_2]
    refine r_iload_n (pc := 2) C dX2_clear_2 rfl (lv_at hl 1 rfl) ?_
    refine r_bipush (pc := 3) C (12 : Int32) dX2_clear_3 (by decide) ?_
    refine r_icmp_ge (pc := 5) C (tgt := 28) dX2_clear_5 (by decide) (fun _ => ?_) (fun _ => ?_)
    · exact hK S v1 _ (lv_sub hl [0, 1] rfl)
    · refine r_aload_n (pc := 8) C dX2_clear_8 rfl (lv_at hl 0 rfl) ?_
      refine gf_X2_9 (pc := 9) C t0 dX2_clear_9 ?_
      have t21 := ft_2_1 t0
      refine r_iload_n (pc := 12) C dX2_clear_12 rfl (lv_at hl 1 rfl) ?_
      refine r_iconst (pc := 13) C (0 : Int32) dX2_clear_13 (by decide) ?_
      refine r_iast (pc := 14) C t21 dX2_clear_14 (fun S22 => ?_)
      refine r_aload_n (pc := 15) C dX2_clear_15 rfl (lv_at hl 0 rfl) ?_
      refine gf_X2_19 (pc := 16) C t0 dX2_clear_16 ?_
      have t23 := ft_2_3 t0
      refine r_iload_n (pc := 19) C dX2_clear_19 rfl (lv_at hl 1 rfl) ?_
      refine r_lconst (pc := 20) C (0 : Int64) dX2_clear_20 (by decide) ?_
      refine r_last (pc := 21) C t23 dX2_clear_21 (fun S24 => ?_)
      refine r_iinc (pc := 22) C (k := 1) (1 : Int32) (fun v25 => [(1, .int v25), (0, .ref (base + k0))]) dX2_clear_22 hl rfl (by decide) (Nat.le_of_ble_eq_true rfl) (fun _ => rfl) (fun v25 ls hl => ?_)
      refine r_goto (pc := 25) C (tgt := 2) dX2_clear_25 (by decide) ?_
      exact ih S24 v25 _ (lv_sub hl [1, 0] rfl)

set_option maxHeartbeats 4000000 in
set_option maxRecDepth 100000 in
theorem lp_X2_clear_30 {p : Program} {l : Launch} {e : Env} {s : State} {m : MethodId} {args : Array Value} {below : List Frame} {meth : Method} {c : Code} {D : va_G} {cy : Nat → ClassId} {base tS : Nat} {ls : Array Slot} (C : Cx p rm_X2_clear s m args c RX2 cX2_clear 2 D cy base tS 0 0) (hr : meth.sig.returnType = none) (hk : meth.locks = false) {k0 : Nat} (t0 : cls k0 = 2) {K : St → Int32 → Option (St × Unit)} (hK : ∀ (S : St) (v1 : Int32) (ls : Array Slot), lv_has ls 2 [(0, .ref (base + k0)), (1, .int v1)] → Sim p l e rm_X2_clear s m args below meth c D cy base 0 0 (fun S1 r => MQ below (QcV D cy base tS S1 r) args s 0 0 (AA base)) (K S v1) S (F0 m 48 ls [])) : ∀ (n : Nat) (S : St) (v1 : Int32) (ls : Array Slot), lv_has ls 2 [(0, .ref (base + k0)), (1, .int v1)] → Sim p l e rm_X2_clear s m args below meth c D cy base 0 0 (fun S1 r => MQ below (QcV D cy base tS S1 r) args s 0 0 (AA base)) (X2_clear_30 k0 K n S v1) S (F0 m 30 ls []) := by
  intro n
  induction n with
  | zero => intro S v1 ls hl; exact Sim.none
  | succ n ih =>
    intro S v1 ls hl
    rw [X2_clear_30]
    refine r_iload_n (pc := 30) C dX2_clear_30 rfl (lv_at hl 1 rfl) ?_
    refine r_iconst (pc := 31) C (3 : Int32) dX2_clear_31 (by decide) ?_
    refine r_icmp_ge (pc := 32) C (tgt := 48) dX2_clear_32 (by decide) (fun _ => ?_) (fun _ => ?_)
    · exact hK S v1 _ (lv_sub hl [0, 1] rfl)
    · refine r_aload_n (pc := 35) C dX2_clear_35 rfl (lv_at hl 0 rfl) ?_
      refine gf_X2_15 (pc := 36) C t0 dX2_clear_36 ?_
      have t28 := ft_2_2 t0
      refine r_iload_n (pc := 39) C dX2_clear_39 rfl (lv_at hl 1 rfl) ?_
      refine r_lconst (pc := 40) C (0 : Int64) dX2_clear_40 (by decide) ?_
      refine r_last (pc := 41) C t28 dX2_clear_41 (fun S29 => ?_)
      refine r_iinc (pc := 42) C (k := 1) (1 : Int32) (fun v30 => [(1, .int v30), (0, .ref (base + k0))]) dX2_clear_42 hl rfl (by decide) (Nat.le_of_ble_eq_true rfl) (fun _ => rfl) (fun v30 ls hl => ?_)
      refine r_goto (pc := 45) C (tgt := 30) dX2_clear_45 (by decide) ?_
      exact ih S29 v30 _ (lv_sub hl [1, 0] rfl)

set_option maxHeartbeats 4000000 in
set_option maxRecDepth 100000 in
theorem sm_X2_clear {p : Program} {l : Launch} {e : Env} {s : State} {m : MethodId} {args : Array Value} {below : List Frame} {meth : Method} {c : Code} {D : va_G} {cy : Nat → ClassId} {base tS : Nat} {S : St} {k0 : Nat} {ls : Array Slot} (C : Cx p rm_X2_clear s m args c RX2 cX2_clear 2 D cy base tS 0 0) (hr : meth.sig.returnType = none) (hk : meth.locks = false) (t0 : cls k0 = 2) (hl : lv_has ls 2 [(0, .ref (base + k0))]) : Sim p l e rm_X2_clear s m args below meth c D cy base 0 0 (fun S1 r => MQ below (QcV D cy base tS S1 r) args s 0 0 (AA base)) (X2_clear S k0) S (F0 m 0 ls []) := by
  unfold X2_clear
  refine r_iconst (pc := 0) C (0 : Int32) dX2_clear_0 (by decide) ?_
  refine r_istore_n (lv2 := [(1, .int (0 : Int32)), (0, .ref (base + k0))]) (pc := 1) C dX2_clear_1 rfl hl (Nat.le_of_ble_eq_true rfl) rfl (fun ls hl => ?_)
  refine lp_X2_clear_2 (ls := ls) C hr hk t0 (fun S26 v27 ls hl => ?_) FU S (0 : Int32) _ (lv_sub hl [1, 0] rfl)
  refine r_iconst (pc := 28) C (0 : Int32) dX2_clear_28 (by decide) ?_
  refine r_istore_n (lv2 := [(1, .int (0 : Int32)), (0, .ref (base + k0))]) (pc := 29) C dX2_clear_29 rfl hl (Nat.le_of_ble_eq_true rfl) rfl (fun ls hl => ?_)
  refine lp_X2_clear_30 (ls := ls) C hr hk t0 (fun S31 v32 ls hl => ?_) FU S26 (0 : Int32) _ (lv_sub hl [1, 0] rfl)
  exact r_vret (pc := 48) C hr hk dX2_clear_48

theorem ct_X2_clear (l : Launch) {D : va_G} {cy : Nat → ClassId} {base tS : Nat} {S : St} {k0 : Nat} (t0 : cls k0 = 2) {S1 : St} {r1 : Unit} (h : X2_clear S k0 = some (S1, r1)) : Met l yX2_clear (wsY yX2_clear cX2_clear 2 none) rm_X2_clear (va_Pc [.ref (base + k0)] (World D cy base tS S)) (QcV D cy base tS S1 r1) 0 0 (AA base) := conV rfl rfl (by decide) (Nat.le_of_ble_eq_true rfl) (fun p e s m args below meth c ls C hr hk hl => sm_X2_clear C hr hk t0 hl) h
theorem cv_X10_132 {p : Program} {l : Launch} {e : Env} {R : Room} {s : State} {m : MethodId} {args : Array Value} {below : List Frame} {meth : Method} {c : Code} {D : va_G} {cy : Nat → ClassId} {base tS nc ns : Nat} {cc : ByteArray} {nL pc : Nat} {ls : Array Slot} {rest : List Value} {S : St} {ρ : Type} {Q : St → ρ → State → Prop} (C : Cx p R s m args c RX10 cc nL D cy base tS nc ns) {k0 : Nat} (t0 : cls k0 = 2) (hl : ls.size = nL) (hR : rm_X2_clear.frames + 1 ≤ R.frames ∧ 8 + (2 + 11) + rm_X2_clear.locals ≤ R.locals) {b : St → Unit → Option (St × ρ)} (hroom : (rest.map fun v => v.category).sum ≤ 8) (hd : decode cc pc = .ok (.invokevirtual 132, 3)) (kk : ∀ (S1 : St) (r : Unit), Sim p l e R s m args below meth c D cy base nc ns Q (b S1 r) S1 (F0 m (pc + 3) ls (rest))) : Sim p l e R s m args below meth c D cy base nc ns Q (bd (X2_clear S k0) b) S (F0 m pc ls (.ref (base + k0) :: rest)) := r_callVV (n := 0) (As := []) C hl (rd_2 t0) (cls_lt t0 (by decide)) rfl (fun S1 r1 h => ct_X2_clear l t0 h) wd_228 wd_229 wd_230 wd_231 wd_232 rfl rfl (by decide +kernel) hR rfl rfl hroom hd kk
abbrev rm_X3_clear : Room := { frames := 0, cells := 0, slots := 0, locals := 0 }
set_option maxHeartbeats 4000000 in
set_option maxRecDepth 100000 in
theorem sm_X3_clear {p : Program} {l : Launch} {e : Env} {s : State} {m : MethodId} {args : Array Value} {below : List Frame} {meth : Method} {c : Code} {D : va_G} {cy : Nat → ClassId} {base tS : Nat} {S : St} {k0 : Nat} {ls : Array Slot} (C : Cx p rm_X3_clear s m args c RX3 cX3_clear 1 D cy base tS 0 0) (hr : meth.sig.returnType = none) (hk : meth.locks = false) (t0 : cls k0 = 3) (hl : lv_has ls 1 [(0, .ref (base + k0))]) : Sim p l e rm_X3_clear s m args below meth c D cy base 0 0 (fun S1 r => MQ below (QcV D cy base tS S1 r) args s 0 0 (AA base)) (X3_clear S k0) S (F0 m 0 ls []) := by
  unfold X3_clear
  refine r_aload_n (pc := 0) C dX3_clear_0 rfl (lv_at hl 0 rfl) ?_
  refine r_iconst (pc := 1) C (0 : Int32) dX3_clear_1 (by decide) ?_
  refine pf_X3_18 (pc := 2) C t0 dX3_clear_2 (fun S21 => ?_)
  refine r_aload_n (pc := 5) C dX3_clear_5 rfl (lv_at hl 0 rfl) ?_
  refine r_iconst (pc := 6) C (0 : Int32) dX3_clear_6 (by decide) ?_
  refine pf_X3_22 (pc := 7) C t0 dX3_clear_7 (fun S22 => ?_)
  exact r_vret (pc := 10) C hr hk dX3_clear_10

theorem ct_X3_clear (l : Launch) {D : va_G} {cy : Nat → ClassId} {base tS : Nat} {S : St} {k0 : Nat} (t0 : cls k0 = 3) {S1 : St} {r1 : Unit} (h : X3_clear S k0 = some (S1, r1)) : Met l yX3_clear (wsY yX3_clear cX3_clear 1 none) rm_X3_clear (va_Pc [.ref (base + k0)] (World D cy base tS S)) (QcV D cy base tS S1 r1) 0 0 (AA base) := conV rfl rfl (by decide) (Nat.le_of_ble_eq_true rfl) (fun p e s m args below meth c ls C hr hk hl => sm_X3_clear C hr hk t0 hl) h
theorem cv_X10_134 {p : Program} {l : Launch} {e : Env} {R : Room} {s : State} {m : MethodId} {args : Array Value} {below : List Frame} {meth : Method} {c : Code} {D : va_G} {cy : Nat → ClassId} {base tS nc ns : Nat} {cc : ByteArray} {nL pc : Nat} {ls : Array Slot} {rest : List Value} {S : St} {ρ : Type} {Q : St → ρ → State → Prop} (C : Cx p R s m args c RX10 cc nL D cy base tS nc ns) {k0 : Nat} (t0 : cls k0 = 3) (hl : ls.size = nL) (hR : rm_X3_clear.frames + 1 ≤ R.frames ∧ 8 + (1 + 11) + rm_X3_clear.locals ≤ R.locals) {b : St → Unit → Option (St × ρ)} (hroom : (rest.map fun v => v.category).sum ≤ 8) (hd : decode cc pc = .ok (.invokevirtual 134, 3)) (kk : ∀ (S1 : St) (r : Unit), Sim p l e R s m args below meth c D cy base nc ns Q (b S1 r) S1 (F0 m (pc + 3) ls (rest))) : Sim p l e R s m args below meth c D cy base nc ns Q (bd (X3_clear S k0) b) S (F0 m pc ls (.ref (base + k0) :: rest)) := r_callVV (n := 0) (As := []) C hl (rd_3 t0) (cls_lt t0 (by decide)) rfl (fun S1 r1 h => ct_X3_clear l t0 h) wd_233 wd_234 wd_235 wd_236 wd_237 rfl rfl (by decide +kernel) hR rfl rfl hroom hd kk
abbrev rm_X6_clear : Room := { frames := 0, cells := 0, slots := 0, locals := 0 }
set_option maxHeartbeats 4000000 in
set_option maxRecDepth 100000 in
theorem sm_X6_clear {p : Program} {l : Launch} {e : Env} {s : State} {m : MethodId} {args : Array Value} {below : List Frame} {meth : Method} {c : Code} {D : va_G} {cy : Nat → ClassId} {base tS : Nat} {S : St} {k0 : Nat} {ls : Array Slot} (C : Cx p rm_X6_clear s m args c RX6 cX6_clear 1 D cy base tS 0 0) (hr : meth.sig.returnType = none) (hk : meth.locks = false) (t0 : cls k0 = 6) (hl : lv_has ls 1 [(0, .ref (base + k0))]) : Sim p l e rm_X6_clear s m args below meth c D cy base 0 0 (fun S1 r => MQ below (QcV D cy base tS S1 r) args s 0 0 (AA base)) (X6_clear S k0) S (F0 m 0 ls []) := by
  unfold X6_clear
  refine r_aload_n (pc := 0) C dX6_clear_0 rfl (lv_at hl 0 rfl) ?_
  refine r_iconst (pc := 1) C (0 : Int32) dX6_clear_1 (by decide) ?_
  refine pf_X6_25 (pc := 2) C t0 dX6_clear_2 (fun S21 => ?_)
  exact r_vret (pc := 5) C hr hk dX6_clear_5

theorem ct_X6_clear (l : Launch) {D : va_G} {cy : Nat → ClassId} {base tS : Nat} {S : St} {k0 : Nat} (t0 : cls k0 = 6) {S1 : St} {r1 : Unit} (h : X6_clear S k0 = some (S1, r1)) : Met l yX6_clear (wsY yX6_clear cX6_clear 1 none) rm_X6_clear (va_Pc [.ref (base + k0)] (World D cy base tS S)) (QcV D cy base tS S1 r1) 0 0 (AA base) := conV rfl rfl (by decide) (Nat.le_of_ble_eq_true rfl) (fun p e s m args below meth c ls C hr hk hl => sm_X6_clear C hr hk t0 hl) h
theorem cv_X10_136 {p : Program} {l : Launch} {e : Env} {R : Room} {s : State} {m : MethodId} {args : Array Value} {below : List Frame} {meth : Method} {c : Code} {D : va_G} {cy : Nat → ClassId} {base tS nc ns : Nat} {cc : ByteArray} {nL pc : Nat} {ls : Array Slot} {rest : List Value} {S : St} {ρ : Type} {Q : St → ρ → State → Prop} (C : Cx p R s m args c RX10 cc nL D cy base tS nc ns) {k0 : Nat} (t0 : cls k0 = 6) (hl : ls.size = nL) (hR : rm_X6_clear.frames + 1 ≤ R.frames ∧ 8 + (1 + 11) + rm_X6_clear.locals ≤ R.locals) {b : St → Unit → Option (St × ρ)} (hroom : (rest.map fun v => v.category).sum ≤ 8) (hd : decode cc pc = .ok (.invokevirtual 136, 3)) (kk : ∀ (S1 : St) (r : Unit), Sim p l e R s m args below meth c D cy base nc ns Q (b S1 r) S1 (F0 m (pc + 3) ls (rest))) : Sim p l e R s m args below meth c D cy base nc ns Q (bd (X6_clear S k0) b) S (F0 m pc ls (.ref (base + k0) :: rest)) := r_callVV (n := 0) (As := []) C hl (rd_6 t0) (cls_lt t0 (by decide)) rfl (fun S1 r1 h => ct_X6_clear l t0 h) wd_238 wd_239 wd_240 wd_241 wd_242 rfl rfl (by decide +kernel) hR rfl rfl hroom hd kk
abbrev rm_X7_clear : Room := { frames := 0, cells := 0, slots := 0, locals := 0 }
set_option maxHeartbeats 4000000 in
set_option maxRecDepth 100000 in
theorem lp_X7_clear_24 {p : Program} {l : Launch} {e : Env} {s : State} {m : MethodId} {args : Array Value} {below : List Frame} {meth : Method} {c : Code} {D : va_G} {cy : Nat → ClassId} {base tS : Nat} {ls : Array Slot} (C : Cx p rm_X7_clear s m args c RX7 cX7_clear 3 D cy base tS 0 0) (hr : meth.sig.returnType = none) (hk : meth.locks = false) {k0 : Nat} {v1 : Int32} (t0 : cls k0 = 7) {K : St → Int32 → Option (St × Unit)} (hK : ∀ (S : St) (v2 : Int32) (ls : Array Slot), lv_has ls 3 [(0, .ref (base + k0)), (1, .int v1), (2, .int v2)] → Sim p l e rm_X7_clear s m args below meth c D cy base 0 0 (fun S1 r => MQ below (QcV D cy base tS S1 r) args s 0 0 (AA base)) (K S v2) S (F0 m 45 ls [])) : ∀ (n : Nat) (S : St) (v2 : Int32) (ls : Array Slot), lv_has ls 3 [(0, .ref (base + k0)), (1, .int v1), (2, .int v2)] → Sim p l e rm_X7_clear s m args below meth c D cy base 0 0 (fun S1 r => MQ below (QcV D cy base tS S1 r) args s 0 0 (AA base)) (X7_clear_24 k0 v1 K n S v2) S (F0 m 24 ls []) := by
  intro n
  induction n with
  | zero => intro S v2 ls hl; exact Sim.none
  | succ n ih =>
    intro S v2 ls hl
    rw [X7_clear_24]
    refine r_iload_n (pc := 24) C dX7_clear_24 rfl (lv_at hl 2 rfl) ?_
    refine r_bipush (pc := 25) C (15 : Int32) dX7_clear_25 (by decide) ?_
    refine r_icmp_ge (pc := 27) C (tgt := 45) dX7_clear_27 (by decide) (fun _ => ?_) (fun _ => ?_)
    · exact hK S v2 _ (lv_sub hl [0, 1, 2] rfl)
    · refine r_aload_n (pc := 30) C dX7_clear_30 rfl (lv_at hl 0 rfl) ?_
      refine gf_X7_17 (pc := 31) C t0 dX7_clear_31 ?_
      have t25 := ft_7_1 t0
      refine r_iload_n (pc := 34) C dX7_clear_34 rfl (lv_at hl 1 rfl) ?_
      refine r_aald17 (pc := 35) C t25 dX7_clear_35 (fun b27 => ?_)
      have t26 := et_17_12 t25 b27
      refine r_iload_n (pc := 36) C dX7_clear_36 rfl (lv_at hl 2 rfl) ?_
      refine r_iconst (pc := 37) C (0 : Int32) dX7_clear_37 (by decide) ?_
      refine r_iast (pc := 38) C t26 dX7_clear_38 (fun S28 => ?_)
      refine r_iinc (pc := 39) C (k := 2) (1 : Int32) (fun v29 => [(2, .int v29), (0, .ref (base + k0)), (1, .int v1)]) dX7_clear_39 hl rfl (by decide) (Nat.le_of_ble_eq_true rfl) (fun _ => rfl) (fun v29 ls hl => ?_)
      refine r_goto (pc := 42) C (tgt := 24) dX7_clear_42 (by decide) ?_
      exact ih S28 v29 _ (lv_sub hl [1, 2, 0] rfl)

set_option maxHeartbeats 4000000 in
set_option maxRecDepth 100000 in
theorem lp_X7_clear_2 {p : Program} {l : Launch} {e : Env} {s : State} {m : MethodId} {args : Array Value} {below : List Frame} {meth : Method} {c : Code} {D : va_G} {cy : Nat → ClassId} {base tS : Nat} {ls : Array Slot} (C : Cx p rm_X7_clear s m args c RX7 cX7_clear 3 D cy base tS 0 0) (hr : meth.sig.returnType = none) (hk : meth.locks = false) {k0 : Nat} (t0 : cls k0 = 7) {K : St → Int32 → Option (St × Unit)} (hK : ∀ (S : St) (v1 : Int32) (ls : Array Slot), lv_has ls 3 [(0, .ref (base + k0)), (1, .int v1)] → Sim p l e rm_X7_clear s m args below meth c D cy base 0 0 (fun S1 r => MQ below (QcV D cy base tS S1 r) args s 0 0 (AA base)) (K S v1) S (F0 m 51 ls [])) : ∀ (n : Nat) (S : St) (v1 : Int32) (ls : Array Slot), lv_has ls 3 [(0, .ref (base + k0)), (1, .int v1)] → Sim p l e rm_X7_clear s m args below meth c D cy base 0 0 (fun S1 r => MQ below (QcV D cy base tS S1 r) args s 0 0 (AA base)) (X7_clear_2 k0 K n S v1) S (F0 m 2 ls []) := by
  intro n
  induction n with
  | zero => intro S v1 ls hl; exact Sim.none
  | succ n ih =>
    intro S v1 ls hl
    rw [X7_clear_2]
    refine r_iload_n (pc := 2) C dX7_clear_2 rfl (lv_at hl 1 rfl) ?_
    refine r_bipush (pc := 3) C (12 : Int32) dX7_clear_3 (by decide) ?_
    refine r_icmp_ge (pc := 5) C (tgt := 51) dX7_clear_5 (by decide) (fun _ => ?_) (fun _ => ?_)
    · exact hK S v1 _ (lv_sub hl [0, 1] rfl)
    · refine r_aload_n (pc := 8) C dX7_clear_8 rfl (lv_at hl 0 rfl) ?_
      refine gf_X7_9 (pc := 9) C t0 dX7_clear_9 ?_
      have t21 := ft_7_0 t0
      refine r_iload_n (pc := 12) C dX7_clear_12 rfl (lv_at hl 1 rfl) ?_
      refine r_iconst (pc := 13) C (0 : Int32) dX7_clear_13 (by decide) ?_
      refine r_iast (pc := 14) C t21 dX7_clear_14 (fun S22 => ?_)
      refine r_aload_n (pc := 15) C dX7_clear_15 rfl (lv_at hl 0 rfl) ?_
      refine gf_X7_20 (pc := 16) C t0 dX7_clear_16 ?_
      have t23 := ft_7_2 t0
      refine r_iload_n (pc := 19) C dX7_clear_19 rfl (lv_at hl 1 rfl) ?_
      refine r_iconst (pc := 20) C (0 : Int32) dX7_clear_20 (by decide) ?_
      refine r_iast (pc := 21) C t23 dX7_clear_21 (fun S24 => ?_)
      refine r_iconst (pc := 22) C (0 : Int32) dX7_clear_22 (by decide) ?_
      refine r_istore_n (lv2 := [(2, .int (0 : Int32)), (0, .ref (base + k0)), (1, .int v1)]) (pc := 23) C dX7_clear_23 rfl hl (Nat.le_of_ble_eq_true rfl) rfl (fun ls hl => ?_)
      refine lp_X7_clear_24 (ls := ls) C hr hk t0 (fun S30 v31 ls hl => ?_) FU S24 (0 : Int32) _ (lv_sub hl [1, 2, 0] rfl)
      refine r_iinc (pc := 45) C (k := 1) (1 : Int32) (fun v32 => [(1, .int v32), (0, .ref (base + k0)), (2, .int v31)]) dX7_clear_45 hl rfl (by decide) (Nat.le_of_ble_eq_true rfl) (fun _ => rfl) (fun v32 ls hl => ?_)
      refine r_goto (pc := 48) C (tgt := 2) dX7_clear_48 (by decide) ?_
      exact ih S30 v32 _ (lv_sub hl [1, 0] rfl)

set_option maxHeartbeats 4000000 in
set_option maxRecDepth 100000 in
theorem sm_X7_clear {p : Program} {l : Launch} {e : Env} {s : State} {m : MethodId} {args : Array Value} {below : List Frame} {meth : Method} {c : Code} {D : va_G} {cy : Nat → ClassId} {base tS : Nat} {S : St} {k0 : Nat} {ls : Array Slot} (C : Cx p rm_X7_clear s m args c RX7 cX7_clear 3 D cy base tS 0 0) (hr : meth.sig.returnType = none) (hk : meth.locks = false) (t0 : cls k0 = 7) (hl : lv_has ls 3 [(0, .ref (base + k0))]) : Sim p l e rm_X7_clear s m args below meth c D cy base 0 0 (fun S1 r => MQ below (QcV D cy base tS S1 r) args s 0 0 (AA base)) (X7_clear S k0) S (F0 m 0 ls []) := by
  unfold X7_clear
  refine r_iconst (pc := 0) C (0 : Int32) dX7_clear_0 (by decide) ?_
  refine r_istore_n (lv2 := [(1, .int (0 : Int32)), (0, .ref (base + k0))]) (pc := 1) C dX7_clear_1 rfl hl (Nat.le_of_ble_eq_true rfl) rfl (fun ls hl => ?_)
  refine lp_X7_clear_2 (ls := ls) C hr hk t0 (fun S33 v34 ls hl => ?_) FU S (0 : Int32) _ (lv_sub hl [1, 0] rfl)
  refine r_aload_n (pc := 51) C dX7_clear_51 rfl (lv_at hl 0 rfl) ?_
  refine r_iconst (pc := 52) C (0 : Int32) dX7_clear_52 (by decide) ?_
  refine pf_X7_23 (pc := 53) C t0 dX7_clear_53 (fun S35 => ?_)
  exact r_vret (pc := 56) C hr hk dX7_clear_56

theorem ct_X7_clear (l : Launch) {D : va_G} {cy : Nat → ClassId} {base tS : Nat} {S : St} {k0 : Nat} (t0 : cls k0 = 7) {S1 : St} {r1 : Unit} (h : X7_clear S k0 = some (S1, r1)) : Met l yX7_clear (wsY yX7_clear cX7_clear 3 none) rm_X7_clear (va_Pc [.ref (base + k0)] (World D cy base tS S)) (QcV D cy base tS S1 r1) 0 0 (AA base) := conV rfl rfl (by decide) (Nat.le_of_ble_eq_true rfl) (fun p e s m args below meth c ls C hr hk hl => sm_X7_clear C hr hk t0 hl) h
theorem cv_X10_129 {p : Program} {l : Launch} {e : Env} {R : Room} {s : State} {m : MethodId} {args : Array Value} {below : List Frame} {meth : Method} {c : Code} {D : va_G} {cy : Nat → ClassId} {base tS nc ns : Nat} {cc : ByteArray} {nL pc : Nat} {ls : Array Slot} {rest : List Value} {S : St} {ρ : Type} {Q : St → ρ → State → Prop} (C : Cx p R s m args c RX10 cc nL D cy base tS nc ns) {k0 : Nat} (t0 : cls k0 = 7) (hl : ls.size = nL) (hR : rm_X7_clear.frames + 1 ≤ R.frames ∧ 8 + (3 + 11) + rm_X7_clear.locals ≤ R.locals) {b : St → Unit → Option (St × ρ)} (hroom : (rest.map fun v => v.category).sum ≤ 8) (hd : decode cc pc = .ok (.invokevirtual 129, 3)) (kk : ∀ (S1 : St) (r : Unit), Sim p l e R s m args below meth c D cy base nc ns Q (b S1 r) S1 (F0 m (pc + 3) ls (rest))) : Sim p l e R s m args below meth c D cy base nc ns Q (bd (X7_clear S k0) b) S (F0 m pc ls (.ref (base + k0) :: rest)) := r_callVV (n := 0) (As := []) C hl (rd_7 t0) (cls_lt t0 (by decide)) rfl (fun S1 r1 h => ct_X7_clear l t0 h) wd_243 wd_244 wd_245 wd_169 wd_246 rfl rfl (by decide +kernel) hR rfl rfl hroom hd kk
abbrev rm_X10_anew : Room := { frames := 1, cells := 0, slots := 0, locals := 22 }
set_option maxHeartbeats 4000000 in
set_option maxRecDepth 100000 in
theorem lp_X10_anew_44 {p : Program} {l : Launch} {e : Env} {s : State} {m : MethodId} {args : Array Value} {below : List Frame} {meth : Method} {c : Code} {D : va_G} {cy : Nat → ClassId} {base tS : Nat} {ls : Array Slot} (C : Cx p rm_X10_anew s m args c RX10 cX10_anew 2 D cy base tS 0 0) (hr : meth.sig.returnType = (some .int)) (hk : meth.locks = false) {k0 : Nat} (t0 : cls k0 = 10) {K : St → Int32 → Option (St × Int32)} (hK : ∀ (S : St) (v1 : Int32) (ls : Array Slot), lv_has ls 2 [(0, .ref (base + k0)), (1, .int v1)] → Sim p l e rm_X10_anew s m args below meth c D cy base 0 0 (fun S1 r => MQ below (QcI D cy base tS S1 r) args s 0 0 (AA base)) (K S v1) S (F0 m 63 ls [])) : ∀ (n : Nat) (S : St) (v1 : Int32) (ls : Array Slot), lv_has ls 2 [(0, .ref (base + k0)), (1, .int v1)] → Sim p l e rm_X10_anew s m args below meth c D cy base 0 0 (fun S1 r => MQ below (QcI D cy base tS S1 r) args s 0 0 (AA base)) (X10_anew_44 k0 K n S v1) S (F0 m 44 ls []) := by
  intro n
  induction n with
  | zero => intro S v1 ls hl; exact Sim.none
  | succ n ih =>
    intro S v1 ls hl
    rw [X10_anew_44]
    refine r_iload_n (pc := 44) C dX10_anew_44 rfl (lv_at hl 1 rfl) ?_
    refine r_bipush (pc := 45) C (8 : Int32) dX10_anew_45 (by decide) ?_
    refine r_icmp_ge (pc := 47) C (tgt := 63) dX10_anew_47 (by decide) (fun _ => ?_) (fun _ => ?_)
    · exact hK S v1 _ (lv_sub hl [0, 1] rfl)
    · refine r_aload_n (pc := 50) C dX10_anew_50 rfl (lv_at hl 0 rfl) ?_
      refine gf_X10_70 (pc := 51) C t0 dX10_anew_51 ?_
      have t33 := ft_10_9 t0
      refine r_iload_n (pc := 54) C dX10_anew_54 rfl (lv_at hl 1 rfl) ?_
      refine r_iconst (pc := 55) C (0 : Int32) dX10_anew_55 (by decide) ?_
      refine r_zast (pc := 56) C t33 rfl dX10_anew_56 (fun S34 => ?_)
      refine r_iinc (pc := 57) C (k := 1) (1 : Int32) (fun v35 => [(1, .int v35), (0, .ref (base + k0))]) dX10_anew_57 hl rfl (by decide) (Nat.le_of_ble_eq_true rfl) (fun _ => rfl) (fun v35 ls hl => ?_)
      refine r_goto (pc := 60) C (tgt := 44) dX10_anew_60 (by decide) ?_
      exact ih S34 v35 _ (lv_sub hl [1, 0] rfl)

set_option maxHeartbeats 4000000 in
set_option maxRecDepth 100000 in
theorem sm_X10_anew {p : Program} {l : Launch} {e : Env} {s : State} {m : MethodId} {args : Array Value} {below : List Frame} {meth : Method} {c : Code} {D : va_G} {cy : Nat → ClassId} {base tS : Nat} {S : St} {k0 : Nat} {ls : Array Slot} (C : Cx p rm_X10_anew s m args c RX10 cX10_anew 2 D cy base tS 0 0) (hr : meth.sig.returnType = (some .int)) (hk : meth.locks = false) (t0 : cls k0 = 10) (hl : lv_has ls 2 [(0, .ref (base + k0))]) : Sim p l e rm_X10_anew s m args below meth c D cy base 0 0 (fun S1 r => MQ below (QcI D cy base tS S1 r) args s 0 0 (AA base)) (X10_anew S k0) S (F0 m 0 ls []) := by
  unfold X10_anew
  refine r_aload_n (pc := 0) C dX10_anew_0 rfl (lv_at hl 0 rfl) ?_
  refine gf_X10_10 (pc := 1) C t0 dX10_anew_1 ?_
  have t21 := ft_10_0 t0
  refine cv_X10_129 (pc := 4) C t21 hl.1 ⟨Nat.le_of_ble_eq_true rfl, Nat.le_of_ble_eq_true rfl⟩ (Nat.le_of_ble_eq_true rfl) dX10_anew_4 (fun S22 _ => ?_)
  refine r_aload_n (pc := 7) C dX10_anew_7 rfl (lv_at hl 0 rfl) ?_
  refine gf_X10_21 (pc := 8) C t0 dX10_anew_8 ?_
  have t23 := ft_10_1 t0
  refine cv_X10_132 (pc := 11) C t23 hl.1 ⟨Nat.le_of_ble_eq_true rfl, Nat.le_of_ble_eq_true rfl⟩ (Nat.le_of_ble_eq_true rfl) dX10_anew_11 (fun S24 _ => ?_)
  refine r_aload_n (pc := 14) C dX10_anew_14 rfl (lv_at hl 0 rfl) ?_
  refine gf_X10_33 (pc := 15) C t0 dX10_anew_15 ?_
  have t25 := ft_10_3 t0
  refine cv_X10_133 (pc := 18) C t25 hl.1 ⟨Nat.le_of_ble_eq_true rfl, Nat.le_of_ble_eq_true rfl⟩ (Nat.le_of_ble_eq_true rfl) dX10_anew_18 (fun S26 _ => ?_)
  refine r_aload_n (pc := 21) C dX10_anew_21 rfl (lv_at hl 0 rfl) ?_
  refine gf_X10_40 (pc := 22) C t0 dX10_anew_22 ?_
  have t27 := ft_10_4 t0
  refine cv_X10_134 (pc := 25) C t27 hl.1 ⟨Nat.le_of_ble_eq_true rfl, Nat.le_of_ble_eq_true rfl⟩ (Nat.le_of_ble_eq_true rfl) dX10_anew_25 (fun S28 _ => ?_)
  refine r_aload_n (pc := 28) C dX10_anew_28 rfl (lv_at hl 0 rfl) ?_
  refine gf_X10_47 (pc := 29) C t0 dX10_anew_29 ?_
  have t29 := ft_10_5 t0
  refine cv_X10_135 (pc := 32) C t29 hl.1 ⟨Nat.le_of_ble_eq_true rfl, Nat.le_of_ble_eq_true rfl⟩ (Nat.le_of_ble_eq_true rfl) dX10_anew_32 (fun S30 _ => ?_)
  refine r_aload_n (pc := 35) C dX10_anew_35 rfl (lv_at hl 0 rfl) ?_
  refine gf_X10_54 (pc := 36) C t0 dX10_anew_36 ?_
  have t31 := ft_10_6 t0
  refine cv_X10_136 (pc := 39) C t31 hl.1 ⟨Nat.le_of_ble_eq_true rfl, Nat.le_of_ble_eq_true rfl⟩ (Nat.le_of_ble_eq_true rfl) dX10_anew_39 (fun S32 _ => ?_)
  refine r_iconst (pc := 42) C (0 : Int32) dX10_anew_42 (by decide) ?_
  refine r_istore_n (lv2 := [(1, .int (0 : Int32)), (0, .ref (base + k0))]) (pc := 43) C dX10_anew_43 rfl hl (Nat.le_of_ble_eq_true rfl) rfl (fun ls hl => ?_)
  refine lp_X10_anew_44 (ls := ls) C hr hk t0 (fun S36 v37 ls hl => ?_) FU S32 (0 : Int32) _ (lv_sub hl [1, 0] rfl)
  refine r_aload_n (pc := 63) C dX10_anew_63 rfl (lv_at hl 0 rfl) ?_
  refine r_iconst (pc := 64) C (0 : Int32) dX10_anew_64 (by decide) ?_
  refine pf_X10_92 (pc := 65) C t0 rfl rfl dX10_anew_65 (fun S38 => ?_)
  refine r_aload_n (pc := 68) C dX10_anew_68 rfl (lv_at hl 0 rfl) ?_
  refine r_iconst (pc := 69) C (0 : Int32) dX10_anew_69 (by decide) ?_
  refine pf_X10_126 (pc := 70) C t0 dX10_anew_70 (fun S39 => ?_)
  refine r_iconst (pc := 73) C (0 : Int32) dX10_anew_73 (by decide) ?_
  exact r_iret (pc := 74) C hr hk dX10_anew_74

theorem ct_X10_anew (l : Launch) {D : va_G} {cy : Nat → ClassId} {base tS : Nat} {S : St} {k0 : Nat} (t0 : cls k0 = 10) {S1 : St} {r1 : Int32} (h : X10_anew S k0 = some (S1, r1)) : Met l yX10_anew (wsY yX10_anew cX10_anew 2 (some .int)) rm_X10_anew (va_Pc [.ref (base + k0)] (World D cy base tS S)) (QcI D cy base tS S1 r1) 0 0 (AA base) := conI rfl rfl (by decide) (Nat.le_of_ble_eq_true rfl) (fun p e s m args below meth c ls C hr hk hl => sm_X10_anew C hr hk t0 hl) h
abbrev rm_X10_as : Room := { frames := 1, cells := 0, slots := 0, locals := 24 }
set_option maxHeartbeats 4000000 in
set_option maxRecDepth 100000 in
theorem sm_X10_as {p : Program} {l : Launch} {e : Env} {s : State} {m : MethodId} {args : Array Value} {below : List Frame} {meth : Method} {c : Code} {D : va_G} {cy : Nat → ClassId} {base tS : Nat} {S : St} {k0 : Nat} {v1 : Int32} {v2 : Int32} {ls : Array Slot} (C : Cx p rm_X10_as s m args c RX10 cX10_as 3 D cy base tS 0 0) (hr : meth.sig.returnType = (some .int)) (hk : meth.locks = false) (t0 : cls k0 = 10) (hl : lv_has ls 3 [(0, .ref (base + k0)), (1, .int v1), (2, .int v2)]) : Sim p l e rm_X10_as s m args below meth c D cy base 0 0 (fun S1 r => MQ below (QcI D cy base tS S1 r) args s 0 0 (AA base)) (X10_as S k0 v1 v2) S (F0 m 0 ls []) := by
  unfold X10_as
  refine r_aload_n (pc := 0) C dX10_as_0 rfl (lv_at hl 0 rfl) ?_
  refine gf_X10_10 (pc := 1) C t0 dX10_as_1 ?_
  have t21 := ft_10_0 t0
  refine r_iload_n (pc := 4) C dX10_as_4 rfl (lv_at hl 1 rfl) ?_
  refine cv_X10_107 (pc := 5) C t21 hl.1 ⟨Nat.le_of_ble_eq_true rfl, Nat.le_of_ble_eq_true rfl⟩ (Nat.le_of_ble_eq_true rfl) dX10_as_5 (fun S22 v23 => ?_)
  refine r_join (fun (j : St → Option (St × Int32)) => ∀ (S25 : St)  (ls : Array Slot), lv_has ls 3 [(0, .ref (base + k0))] → Sim p l e rm_X10_as s m args below meth c D cy base 0 0 (fun S1 r => MQ below (QcI D cy base tS S1 r) args s 0 0 (AA base)) (j S25) S25 (F0 m 20 ls [])) ?_ (fun j24 hj24 => ?_)
  · intro S25 ls hl
    refine r_aload_n (pc := 20) C dX10_as_20 rfl (lv_at hl 0 rfl) ?_
    refine r_iconst (pc := 21) C (-1 : Int32) dX10_as_21 (by decide) ?_
    refine cv_X10_96 (pc := 22) C t0 hl.1 ⟨Nat.le_of_ble_eq_true rfl, Nat.le_of_ble_eq_true rfl⟩ (Nat.le_of_ble_eq_true rfl) dX10_as_22 (fun S26 v27 => ?_)
    exact r_iret (pc := 25) C hr hk dX10_as_25
  refine r_if_eq (pc := 8) C (tgt := 20) dX10_as_8 (by decide) (fun _ => ?_) (fun _ => ?_)
  · exact hj24 S22  _ (lv_sub hl [0] rfl)
  · refine r_iload_n (pc := 11) C dX10_as_11 rfl (lv_at hl 2 rfl) ?_
    refine r_if_lt (pc := 12) C (tgt := 20) dX10_as_12 (by decide) (fun _ => ?_) (fun _ => ?_)
    · exact hj24 S22  _ (lv_sub hl [0] rfl)
    · refine r_iload_n (pc := 15) C dX10_as_15 rfl (lv_at hl 2 rfl) ?_
      refine r_iconst (pc := 16) C (5 : Int32) dX10_as_16 (by decide) ?_
      refine r_icmp_lt (pc := 17) C (tgt := 26) dX10_as_17 (by decide) (fun _ => ?_) (fun _ => ?_)
      · refine r_aload_n (pc := 26) C dX10_as_26 rfl (lv_at hl 0 rfl) ?_
        refine gf_X10_10 (pc := 27) C t0 dX10_as_27 ?_
        have t28 := ft_10_0 t0
        refine r_iload_n (pc := 30) C dX10_as_30 rfl (lv_at hl 1 rfl) ?_
        refine r_iload_n (pc := 31) C dX10_as_31 rfl (lv_at hl 2 rfl) ?_
        refine cv_X10_114 (pc := 32) C t28 hl.1 ⟨Nat.le_of_ble_eq_true rfl, Nat.le_of_ble_eq_true rfl⟩ (Nat.le_of_ble_eq_true rfl) dX10_as_32 (fun S29 v30 => ?_)
        refine r_if_eq (pc := 35) C (tgt := 42) dX10_as_35 (by decide) (fun _ => ?_) (fun _ => ?_)
        · refine r_aload_n (pc := 42) C dX10_as_42 rfl (lv_at hl 0 rfl) ?_
          refine r_bipush (pc := 43) C (-4 : Int32) dX10_as_43 (by decide) ?_
          refine cv_X10_96 (pc := 45) C t0 hl.1 ⟨Nat.le_of_ble_eq_true rfl, Nat.le_of_ble_eq_true rfl⟩ (Nat.le_of_ble_eq_true rfl) dX10_as_45 (fun S31 v32 => ?_)
          exact r_iret (pc := 48) C hr hk dX10_as_48
        · refine r_iload_n (pc := 38) C dX10_as_38 rfl (lv_at hl 1 rfl) ?_
          refine r_goto (pc := 39) C (tgt := 48) dX10_as_39 (by decide) ?_
          exact r_iret (pc := 48) C hr hk dX10_as_48
      · exact hj24 S22  _ (lv_sub hl [0] rfl)

theorem ct_X10_as (l : Launch) {D : va_G} {cy : Nat → ClassId} {base tS : Nat} {S : St} {k0 : Nat} {v1 : Int32} {v2 : Int32} (t0 : cls k0 = 10) {S1 : St} {r1 : Int32} (h : X10_as S k0 v1 v2 = some (S1, r1)) : Met l yX10_as (wsY yX10_as cX10_as 3 (some .int)) rm_X10_as (va_Pc [.ref (base + k0), .int v1, .int v2] (World D cy base tS S)) (QcI D cy base tS S1 r1) 0 0 (AA base) := conI rfl rfl (by decide) (Nat.le_of_ble_eq_true rfl) (fun p e s m args below meth c ls C hr hk hl => sm_X10_as C hr hk t0 hl) h
abbrev rm_X7_weightBetween : Room := { frames := 1, cells := 0, slots := 0, locals := 21 }
set_option maxHeartbeats 4000000 in
set_option maxRecDepth 100000 in
theorem sm_X7_weightBetween {p : Program} {l : Launch} {e : Env} {s : State} {m : MethodId} {args : Array Value} {below : List Frame} {meth : Method} {c : Code} {D : va_G} {cy : Nat → ClassId} {base tS : Nat} {S : St} {k0 : Nat} {v1 : Int32} {v2 : Int32} {ls : Array Slot} (C : Cx p rm_X7_weightBetween s m args c RX7 cX7_weightBetween 3 D cy base tS 0 0) (hr : meth.sig.returnType = (some .int)) (hk : meth.locks = false) (t0 : cls k0 = 7) (hl : lv_has ls 3 [(0, .ref (base + k0)), (1, .int v1), (2, .int v2)]) : Sim p l e rm_X7_weightBetween s m args below meth c D cy base 0 0 (fun S1 r => MQ below (QcI D cy base tS S1 r) args s 0 0 (AA base)) (X7_weightBetween S k0 v1 v2) S (F0 m 0 ls []) := by
  unfold X7_weightBetween
  refine r_aload_n (pc := 0) C dX7_weightBetween_0 rfl (lv_at hl 0 rfl) ?_
  refine gf_X7_17 (pc := 1) C t0 dX7_weightBetween_1 ?_
  have t21 := ft_7_1 t0
  refine r_iload_n (pc := 4) C dX7_weightBetween_4 rfl (lv_at hl 1 rfl) ?_
  refine r_aald17 (pc := 5) C t21 dX7_weightBetween_5 (fun b23 => ?_)
  have t22 := et_17_12 t21 b23
  refine r_aload_n (pc := 6) C dX7_weightBetween_6 rfl (lv_at hl 0 rfl) ?_
  refine r_iload_n (pc := 7) C dX7_weightBetween_7 rfl (lv_at hl 2 rfl) ?_
  refine cv_X7_34 (pc := 8) C t0 hl.1 ⟨Nat.le_of_ble_eq_true rfl, Nat.le_of_ble_eq_true rfl⟩ (Nat.le_of_ble_eq_true rfl) dX7_weightBetween_8 (fun S24 v25 => ?_)
  refine r_iald (pc := 11) C t22 dX7_weightBetween_11 ?_
  exact r_iret (pc := 12) C hr hk dX7_weightBetween_12

theorem ct_X7_weightBetween (l : Launch) {D : va_G} {cy : Nat → ClassId} {base tS : Nat} {S : St} {k0 : Nat} {v1 : Int32} {v2 : Int32} (t0 : cls k0 = 7) {S1 : St} {r1 : Int32} (h : X7_weightBetween S k0 v1 v2 = some (S1, r1)) : Met l yX7_weightBetween (wsY yX7_weightBetween cX7_weightBetween 3 (some .int)) rm_X7_weightBetween (va_Pc [.ref (base + k0), .int v1, .int v2] (World D cy base tS S)) (QcI D cy base tS S1 r1) 0 0 (AA base) := conI rfl rfl (by decide) (Nat.le_of_ble_eq_true rfl) (fun p e s m args below meth c ls C hr hk hl => sm_X7_weightBetween C hr hk t0 hl) h
theorem cv_X10_137 {p : Program} {l : Launch} {e : Env} {R : Room} {s : State} {m : MethodId} {args : Array Value} {below : List Frame} {meth : Method} {c : Code} {D : va_G} {cy : Nat → ClassId} {base tS nc ns : Nat} {cc : ByteArray} {nL pc : Nat} {ls : Array Slot} {rest : List Value} {S : St} {ρ : Type} {Q : St → ρ → State → Prop} (C : Cx p R s m args c RX10 cc nL D cy base tS nc ns) {k0 : Nat} {v1 : Int32} {v2 : Int32} (t0 : cls k0 = 7) (hl : ls.size = nL) (hR : rm_X7_weightBetween.frames + 1 ≤ R.frames ∧ 8 + (3 + 11) + rm_X7_weightBetween.locals ≤ R.locals) {b : St → Int32 → Option (St × ρ)} (hroom : (rest.map fun v => v.category).sum ≤ 8) (hd : decode cc pc = .ok (.invokevirtual 137, 3)) (kk : ∀ (S1 : St) (r : Int32), Sim p l e R s m args below meth c D cy base nc ns Q (b S1 r) S1 (F0 m (pc + 3) ls (.int r :: rest))) : Sim p l e R s m args below meth c D cy base nc ns Q (bd (X7_weightBetween S k0 v1 v2) b) S (F0 m pc ls (.int v2 :: .int v1 :: .ref (base + k0) :: rest)) := r_callVI (n := 2) (As := [.int v1, .int v2]) C hl (rd_7 t0) (cls_lt t0 (by decide)) rfl (fun S1 r1 h => ct_X7_weightBetween l t0 h) wd_247 wd_248 wd_249 wd_169 wd_250 rfl rfl (by decide +kernel) hR rfl rfl hroom hd kk
abbrev rm_X10_weight : Room := { frames := 2, cells := 0, slots := 0, locals := 43 }
set_option maxHeartbeats 4000000 in
set_option maxRecDepth 100000 in
theorem sm_X10_weight {p : Program} {l : Launch} {e : Env} {s : State} {m : MethodId} {args : Array Value} {below : List Frame} {meth : Method} {c : Code} {D : va_G} {cy : Nat → ClassId} {base tS : Nat} {S : St} {k0 : Nat} {v1 : Int32} {v2 : Int32} {ls : Array Slot} (C : Cx p rm_X10_weight s m args c RX10 cX10_weight 3 D cy base tS 0 0) (hr : meth.sig.returnType = (some .int)) (hk : meth.locks = false) (t0 : cls k0 = 10) (hl : lv_has ls 3 [(0, .ref (base + k0)), (1, .int v1), (2, .int v2)]) : Sim p l e rm_X10_weight s m args below meth c D cy base 0 0 (fun S1 r => MQ below (QcI D cy base tS S1 r) args s 0 0 (AA base)) (X10_weight S k0 v1 v2) S (F0 m 0 ls []) := by
  unfold X10_weight
  refine r_aload_n (pc := 0) C dX10_weight_0 rfl (lv_at hl 0 rfl) ?_
  refine gf_X10_10 (pc := 1) C t0 dX10_weight_1 ?_
  have t21 := ft_10_0 t0
  refine r_iload_n (pc := 4) C dX10_weight_4 rfl (lv_at hl 1 rfl) ?_
  refine cv_X10_107 (pc := 5) C t21 hl.1 ⟨Nat.le_of_ble_eq_true rfl, Nat.le_of_ble_eq_true rfl⟩ (Nat.le_of_ble_eq_true rfl) dX10_weight_5 (fun S22 v23 => ?_)
  refine r_join (fun (j : St → Option (St × Int32)) => ∀ (S25 : St)  (ls : Array Slot), lv_has ls 3 [(0, .ref (base + k0))] → Sim p l e rm_X10_weight s m args below meth c D cy base 0 0 (fun S1 r => MQ below (QcI D cy base tS S1 r) args s 0 0 (AA base)) (j S25) S25 (F0 m 22 ls [])) ?_ (fun j24 hj24 => ?_)
  · intro S25 ls hl
    refine r_aload_n (pc := 22) C dX10_weight_22 rfl (lv_at hl 0 rfl) ?_
    refine r_iconst (pc := 23) C (-1 : Int32) dX10_weight_23 (by decide) ?_
    refine cv_X10_96 (pc := 24) C t0 hl.1 ⟨Nat.le_of_ble_eq_true rfl, Nat.le_of_ble_eq_true rfl⟩ (Nat.le_of_ble_eq_true rfl) dX10_weight_24 (fun S26 v27 => ?_)
    exact r_iret (pc := 27) C hr hk dX10_weight_27
  refine r_if_eq (pc := 8) C (tgt := 22) dX10_weight_8 (by decide) (fun _ => ?_) (fun _ => ?_)
  · exact hj24 S22  _ (lv_sub hl [0] rfl)
  · refine r_aload_n (pc := 11) C dX10_weight_11 rfl (lv_at hl 0 rfl) ?_
    refine gf_X10_10 (pc := 12) C t0 dX10_weight_12 ?_
    have t28 := ft_10_0 t0
    refine r_iload_n (pc := 15) C dX10_weight_15 rfl (lv_at hl 2 rfl) ?_
    refine cv_X10_111 (pc := 16) C t28 hl.1 ⟨Nat.le_of_ble_eq_true rfl, Nat.le_of_ble_eq_true rfl⟩ (Nat.le_of_ble_eq_true rfl) dX10_weight_16 (fun S29 v30 => ?_)
    refine r_if_ne (pc := 19) C (tgt := 28) dX10_weight_19 (by decide) (fun _ => ?_) (fun _ => ?_)
    · refine r_aload_n (pc := 28) C dX10_weight_28 rfl (lv_at hl 0 rfl) ?_
      refine gf_X10_10 (pc := 29) C t0 dX10_weight_29 ?_
      have t31 := ft_10_0 t0
      refine r_iload_n (pc := 32) C dX10_weight_32 rfl (lv_at hl 1 rfl) ?_
      refine r_iload_n (pc := 33) C dX10_weight_33 rfl (lv_at hl 2 rfl) ?_
      refine cv_X10_137 (pc := 34) C t31 hl.1 ⟨Nat.le_of_ble_eq_true rfl, Nat.le_of_ble_eq_true rfl⟩ (Nat.le_of_ble_eq_true rfl) dX10_weight_34 (fun S32 v33 => ?_)
      exact r_iret (pc := 37) C hr hk dX10_weight_37
    · exact hj24 S29  _ (lv_sub hl [0] rfl)

theorem ct_X10_weight (l : Launch) {D : va_G} {cy : Nat → ClassId} {base tS : Nat} {S : St} {k0 : Nat} {v1 : Int32} {v2 : Int32} (t0 : cls k0 = 10) {S1 : St} {r1 : Int32} (h : X10_weight S k0 v1 v2 = some (S1, r1)) : Met l yX10_weight (wsY yX10_weight cX10_weight 3 (some .int)) rm_X10_weight (va_Pc [.ref (base + k0), .int v1, .int v2] (World D cy base tS S)) (QcI D cy base tS S1 r1) 0 0 (AA base) := conI rfl rfl (by decide) (Nat.le_of_ble_eq_true rfl) (fun p e s m args below meth c ls C hr hk hl => sm_X10_weight C hr hk t0 hl) h
abbrev rm_X4_takeFrom : Room := { frames := 1, cells := 0, slots := 0, locals := 30 }
set_option maxHeartbeats 4000000 in
set_option maxRecDepth 100000 in
theorem sm_X4_takeFrom {p : Program} {l : Launch} {e : Env} {s : State} {m : MethodId} {args : Array Value} {below : List Frame} {meth : Method} {c : Code} {D : va_G} {cy : Nat → ClassId} {base tS : Nat} {S : St} {k0 : Nat} {k1 : Nat} {k2 : Nat} {ls : Array Slot} (C : Cx p rm_X4_takeFrom s m args c RX4 cX4_takeFrom 3 D cy base tS 0 0) (hr : meth.sig.returnType = none) (hk : meth.locks = false) (t0 : cls k0 = 4) (t1 : cls k1 = 2) (t2 : cls k2 = 0) (hl : lv_has ls 3 [(0, .ref (base + k0)), (1, .ref (base + k1)), (2, .ref (base + k2))]) : Sim p l e rm_X4_takeFrom s m args below meth c D cy base 0 0 (fun S1 r => MQ below (QcV D cy base tS S1 r) args s 0 0 (AA base)) (X4_takeFrom S k0 k1 k2) S (F0 m 0 ls []) := by
  unfold X4_takeFrom
  refine r_aload_n (pc := 0) C dX4_takeFrom_0 rfl (lv_at hl 1 rfl) ?_
  refine gf_X4_25 (pc := 1) C t1 dX4_takeFrom_1 ?_
  have t21 := ft_2_1 t1
  refine r_iconst (pc := 4) C (0 : Int32) dX4_takeFrom_4 (by decide) ?_
  refine r_aload_n (pc := 5) C dX4_takeFrom_5 rfl (lv_at hl 0 rfl) ?_
  refine gf_X4_9 (pc := 6) C t0 dX4_takeFrom_6 ?_
  have t22 := ft_4_0 t0
  refine r_iconst (pc := 9) C (0 : Int32) dX4_takeFrom_9 (by decide) ?_
  refine r_bipush (pc := 10) C (12 : Int32) dX4_takeFrom_10 (by decide) ?_
  refine r_cpyI (rest := []) (pc := 12) C t21 t22 hl.1 wd_128 wd_31 wd_32 wd_33 (Nat.le_of_ble_eq_true rfl) (by decide) dX4_takeFrom_12 (fun S23 => ?_)
  refine r_aload_n (pc := 15) C dX4_takeFrom_15 rfl (lv_at hl 1 rfl) ?_
  refine gf_X4_34 (pc := 16) C t1 dX4_takeFrom_16 ?_
  have t24 := ft_2_2 t1
  refine r_iconst (pc := 19) C (0 : Int32) dX4_takeFrom_19 (by decide) ?_
  refine r_aload_n (pc := 20) C dX4_takeFrom_20 rfl (lv_at hl 0 rfl) ?_
  refine gf_X4_15 (pc := 21) C t0 dX4_takeFrom_21 ?_
  have t25 := ft_4_1 t0
  refine r_iconst (pc := 24) C (0 : Int32) dX4_takeFrom_24 (by decide) ?_
  refine r_iconst (pc := 25) C (3 : Int32) dX4_takeFrom_25 (by decide) ?_
  refine r_cpyJ (rest := []) (pc := 26) C t24 t25 hl.1 wd_128 wd_31 wd_32 wd_33 (Nat.le_of_ble_eq_true rfl) (by decide) dX4_takeFrom_26 (fun S26 => ?_)
  refine r_aload_n (pc := 29) C dX4_takeFrom_29 rfl (lv_at hl 1 rfl) ?_
  refine gf_X4_35 (pc := 30) C t1 dX4_takeFrom_30 ?_
  have t27 := ft_2_3 t1
  refine r_iconst (pc := 33) C (0 : Int32) dX4_takeFrom_33 (by decide) ?_
  refine r_aload_n (pc := 34) C dX4_takeFrom_34 rfl (lv_at hl 0 rfl) ?_
  refine gf_X4_19 (pc := 35) C t0 dX4_takeFrom_35 ?_
  have t28 := ft_4_2 t0
  refine r_iconst (pc := 38) C (0 : Int32) dX4_takeFrom_38 (by decide) ?_
  refine r_bipush (pc := 39) C (12 : Int32) dX4_takeFrom_39 (by decide) ?_
  refine r_cpyJ (rest := []) (pc := 41) C t27 t28 hl.1 wd_128 wd_31 wd_32 wd_33 (Nat.le_of_ble_eq_true rfl) (by decide) dX4_takeFrom_41 (fun S29 => ?_)
  refine r_aload_n (pc := 44) C dX4_takeFrom_44 rfl (lv_at hl 2 rfl) ?_
  refine gf_X4_36 (pc := 45) C t2 dX4_takeFrom_45 ?_
  have t30 := ft_0_3 t2
  refine r_iconst (pc := 48) C (0 : Int32) dX4_takeFrom_48 (by decide) ?_
  refine r_aload_n (pc := 49) C dX4_takeFrom_49 rfl (lv_at hl 0 rfl) ?_
  refine gf_X4_22 (pc := 50) C t0 dX4_takeFrom_50 ?_
  have t31 := ft_4_3 t0
  refine r_iconst (pc := 53) C (0 : Int32) dX4_takeFrom_53 (by decide) ?_
  refine r_bipush (pc := 54) C (12 : Int32) dX4_takeFrom_54 (by decide) ?_
  refine r_cpyI (rest := []) (pc := 56) C t30 t31 hl.1 wd_128 wd_31 wd_32 wd_33 (Nat.le_of_ble_eq_true rfl) (by decide) dX4_takeFrom_56 (fun S32 => ?_)
  refine r_aload_n (pc := 59) C dX4_takeFrom_59 rfl (lv_at hl 0 rfl) ?_
  refine r_aload_n (pc := 60) C dX4_takeFrom_60 rfl (lv_at hl 2 rfl) ?_
  refine gf_X4_39 (pc := 61) C t2 dX4_takeFrom_61 ?_
  refine pf_X4_43 (pc := 64) C t0 dX4_takeFrom_64 (fun S33 => ?_)
  refine r_aload_n (pc := 67) C dX4_takeFrom_67 rfl (lv_at hl 0 rfl) ?_
  refine r_aload_n (pc := 68) C dX4_takeFrom_68 rfl (lv_at hl 2 rfl) ?_
  refine gf_X4_44 (pc := 69) C t2 dX4_takeFrom_69 ?_
  refine pf_X4_48 (pc := 72) C t0 dX4_takeFrom_72 (fun S34 => ?_)
  exact r_vret (pc := 75) C hr hk dX4_takeFrom_75

theorem ct_X4_takeFrom (l : Launch) {D : va_G} {cy : Nat → ClassId} {base tS : Nat} {S : St} {k0 : Nat} {k1 : Nat} {k2 : Nat} (t0 : cls k0 = 4) (t1 : cls k1 = 2) (t2 : cls k2 = 0) {S1 : St} {r1 : Unit} (h : X4_takeFrom S k0 k1 k2 = some (S1, r1)) : Met l yX4_takeFrom (wsY yX4_takeFrom cX4_takeFrom 3 none) rm_X4_takeFrom (va_Pc [.ref (base + k0), .ref (base + k1), .ref (base + k2)] (World D cy base tS S)) (QcV D cy base tS S1 r1) 0 0 (AA base) := conV rfl rfl (by decide) (Nat.le_of_ble_eq_true rfl) (fun p e s m args below meth c ls C hr hk hl => sm_X4_takeFrom C hr hk t0 t1 t2 hl) h
theorem cv_X3_25 {p : Program} {l : Launch} {e : Env} {R : Room} {s : State} {m : MethodId} {args : Array Value} {below : List Frame} {meth : Method} {c : Code} {D : va_G} {cy : Nat → ClassId} {base tS nc ns : Nat} {cc : ByteArray} {nL pc : Nat} {ls : Array Slot} {rest : List Value} {S : St} {ρ : Type} {Q : St → ρ → State → Prop} (C : Cx p R s m args c RX3 cc nL D cy base tS nc ns) {k0 : Nat} {k1 : Nat} {k2 : Nat} (t0 : cls k0 = 4) (t1 : cls k1 = 2) (t2 : cls k2 = 0) (hl : ls.size = nL) (hR : rm_X4_takeFrom.frames + 1 ≤ R.frames ∧ 8 + (3 + 11) + rm_X4_takeFrom.locals ≤ R.locals) {b : St → Unit → Option (St × ρ)} (hroom : (rest.map fun v => v.category).sum ≤ 8) (hd : decode cc pc = .ok (.invokevirtual 25, 3)) (kk : ∀ (S1 : St) (r : Unit), Sim p l e R s m args below meth c D cy base nc ns Q (b S1 r) S1 (F0 m (pc + 3) ls (rest))) : Sim p l e R s m args below meth c D cy base nc ns Q (bd (X4_takeFrom S k0 k1 k2) b) S (F0 m pc ls (.ref (base + k2) :: .ref (base + k1) :: .ref (base + k0) :: rest)) := r_callVV (n := 2) (As := [.ref (base + k1), .ref (base + k2)]) C hl (rd_4 t0) (cls_lt t0 (by decide)) rfl (fun S1 r1 h => ct_X4_takeFrom l t0 t1 t2 h) wd_251 wd_252 wd_253 wd_254 wd_255 rfl rfl (by decide +kernel) hR rfl rfl hroom hd kk
abbrev rm_X3_note : Room := { frames := 2, cells := 0, slots := 0, locals := 52 }
set_option maxHeartbeats 4000000 in
set_option maxRecDepth 100000 in
theorem sm_X3_note {p : Program} {l : Launch} {e : Env} {s : State} {m : MethodId} {args : Array Value} {below : List Frame} {meth : Method} {c : Code} {D : va_G} {cy : Nat → ClassId} {base tS : Nat} {S : St} {k0 : Nat} {k1 : Nat} {k2 : Nat} {ls : Array Slot} (C : Cx p rm_X3_note s m args c RX3 cX3_note 3 D cy base tS 0 0) (hr : meth.sig.returnType = none) (hk : meth.locks = false) (t0 : cls k0 = 3) (t1 : cls k1 = 2) (t2 : cls k2 = 0) (hl : lv_has ls 3 [(0, .ref (base + k0)), (1, .ref (base + k1)), (2, .ref (base + k2))]) : Sim p l e rm_X3_note s m args below meth c D cy base 0 0 (fun S1 r => MQ below (QcV D cy base tS S1 r) args s 0 0 (AA base)) (X3_note S k0 k1 k2) S (F0 m 0 ls []) := by
  unfold X3_note
  refine r_aload_n (pc := 0) C dX3_note_0 rfl (lv_at hl 0 rfl) ?_
  refine gf_X3_11 (pc := 1) C t0 dX3_note_1 ?_
  have t21 := ft_3_0 t0
  refine r_aload_n (pc := 4) C dX3_note_4 rfl (lv_at hl 0 rfl) ?_
  refine gf_X3_18 (pc := 5) C t0 dX3_note_5 ?_
  refine r_aald15 (pc := 8) C t21 dX3_note_8 (fun b23 => ?_)
  have t22 := et_15_20 t21 b23
  refine r_aload_n (pc := 9) C dX3_note_9 rfl (lv_at hl 1 rfl) ?_
  refine r_aload_n (pc := 10) C dX3_note_10 rfl (lv_at hl 2 rfl) ?_
  refine cv_X3_25 (pc := 11) C t22 t1 t2 hl.1 ⟨Nat.le_of_ble_eq_true rfl, Nat.le_of_ble_eq_true rfl⟩ (Nat.le_of_ble_eq_true rfl) dX3_note_11 (fun S24 _ => ?_)
  refine r_aload_n (pc := 14) C dX3_note_14 rfl (lv_at hl 0 rfl) ?_
  refine r_aload_n (pc := 15) C dX3_note_15 rfl (lv_at hl 0 rfl) ?_
  refine gf_X3_18 (pc := 16) C t0 dX3_note_16 ?_
  refine r_iconst (pc := 19) C (1 : Int32) dX3_note_19 (by decide) ?_
  refine r_iadd (pc := 20) C dX3_note_20 ?_
  refine r_bipush (pc := 21) C (20 : Int32) dX3_note_21 (by decide) ?_
  refine r_irem (pc := 23) C dX3_note_23 (fun _ => ?_)
  refine pf_X3_18 (pc := 24) C t0 dX3_note_24 (fun S25 => ?_)
  refine r_aload_n (pc := 27) C dX3_note_27 rfl (lv_at hl 0 rfl) ?_
  refine r_aload_n (pc := 28) C dX3_note_28 rfl (lv_at hl 0 rfl) ?_
  refine gf_X3_22 (pc := 29) C t0 dX3_note_29 ?_
  refine r_iconst (pc := 32) C (1 : Int32) dX3_note_32 (by decide) ?_
  refine r_iadd (pc := 33) C dX3_note_33 ?_
  refine r_bipush (pc := 34) C (20 : Int32) dX3_note_34 (by decide) ?_
  refine r_min (pc := 36) C hl.1 wd_123 wd_124 wd_103 wd_125 (Nat.le_of_ble_eq_true rfl) (Nat.le_of_ble_eq_true rfl) dX3_note_36 ?_
  refine pf_X3_22 (pc := 39) C t0 dX3_note_39 (fun S26 => ?_)
  exact r_vret (pc := 42) C hr hk dX3_note_42

theorem ct_X3_note (l : Launch) {D : va_G} {cy : Nat → ClassId} {base tS : Nat} {S : St} {k0 : Nat} {k1 : Nat} {k2 : Nat} (t0 : cls k0 = 3) (t1 : cls k1 = 2) (t2 : cls k2 = 0) {S1 : St} {r1 : Unit} (h : X3_note S k0 k1 k2 = some (S1, r1)) : Met l yX3_note (wsY yX3_note cX3_note 3 none) rm_X3_note (va_Pc [.ref (base + k0), .ref (base + k1), .ref (base + k2)] (World D cy base tS S)) (QcV D cy base tS S1 r1) 0 0 (AA base) := conV rfl rfl (by decide) (Nat.le_of_ble_eq_true rfl) (fun p e s m args below meth c ls C hr hk hl => sm_X3_note C hr hk t0 t1 t2 hl) h
theorem cv_X10_146 {p : Program} {l : Launch} {e : Env} {R : Room} {s : State} {m : MethodId} {args : Array Value} {below : List Frame} {meth : Method} {c : Code} {D : va_G} {cy : Nat → ClassId} {base tS nc ns : Nat} {cc : ByteArray} {nL pc : Nat} {ls : Array Slot} {rest : List Value} {S : St} {ρ : Type} {Q : St → ρ → State → Prop} (C : Cx p R s m args c RX10 cc nL D cy base tS nc ns) {k0 : Nat} {k1 : Nat} {k2 : Nat} (t0 : cls k0 = 3) (t1 : cls k1 = 2) (t2 : cls k2 = 0) (hl : ls.size = nL) (hR : rm_X3_note.frames + 1 ≤ R.frames ∧ 8 + (3 + 11) + rm_X3_note.locals ≤ R.locals) {b : St → Unit → Option (St × ρ)} (hroom : (rest.map fun v => v.category).sum ≤ 8) (hd : decode cc pc = .ok (.invokevirtual 146, 3)) (kk : ∀ (S1 : St) (r : Unit), Sim p l e R s m args below meth c D cy base nc ns Q (b S1 r) S1 (F0 m (pc + 3) ls (rest))) : Sim p l e R s m args below meth c D cy base nc ns Q (bd (X3_note S k0 k1 k2) b) S (F0 m pc ls (.ref (base + k2) :: .ref (base + k1) :: .ref (base + k0) :: rest)) := r_callVV (n := 2) (As := [.ref (base + k1), .ref (base + k2)]) C hl (rd_3 t0) (cls_lt t0 (by decide)) rfl (fun S1 r1 h => ct_X3_note l t0 t1 t2 h) wd_256 wd_257 wd_258 wd_236 wd_259 rfl rfl (by decide +kernel) hR rfl rfl hroom hd kk
abbrev rm_X10_lay : Room := { frames := 3, cells := 0, slots := 0, locals := 74 }
set_option maxHeartbeats 4000000 in
set_option maxRecDepth 100000 in
theorem sm_X10_lay {p : Program} {l : Launch} {e : Env} {s : State} {m : MethodId} {args : Array Value} {below : List Frame} {meth : Method} {c : Code} {D : va_G} {cy : Nat → ClassId} {base tS : Nat} {S : St} {k0 : Nat} {v1 : Int32} {v2 : Int32} {ls : Array Slot} (C : Cx p rm_X10_lay s m args c RX10 cX10_lay 5 D cy base tS 0 0) (hr : meth.sig.returnType = (some .int)) (hk : meth.locks = false) (t0 : cls k0 = 10) (hl : lv_has ls 5 [(0, .ref (base + k0)), (1, .int v1), (2, .int v2)]) : Sim p l e rm_X10_lay s m args below meth c D cy base 0 0 (fun S1 r => MQ below (QcI D cy base tS S1 r) args s 0 0 (AA base)) (X10_lay S k0 v1 v2) S (F0 m 0 ls []) := by
  unfold X10_lay
  refine r_aload_n (pc := 0) C dX10_lay_0 rfl (lv_at hl 0 rfl) ?_
  refine gf_X10_10 (pc := 1) C t0 dX10_lay_1 ?_
  have t21 := ft_10_0 t0
  refine r_iload_n (pc := 4) C dX10_lay_4 rfl (lv_at hl 1 rfl) ?_
  refine cv_X10_107 (pc := 5) C t21 hl.1 ⟨Nat.le_of_ble_eq_true rfl, Nat.le_of_ble_eq_true rfl⟩ (Nat.le_of_ble_eq_true rfl) dX10_lay_5 (fun S22 v23 => ?_)
  refine r_if_ne (pc := 8) C (tgt := 17) dX10_lay_8 (by decide) (fun _ => ?_) (fun _ => ?_)
  · refine r_aload_n (pc := 17) C dX10_lay_17 rfl (lv_at hl 0 rfl) ?_
    refine gf_X10_92 (pc := 18) C t0 dX10_lay_18 ?_
    refine r_if_ne (pc := 21) C (tgt := 31) dX10_lay_21 (by decide) (fun _ => ?_) (fun _ => ?_)
    · refine r_aload_n (pc := 31) C dX10_lay_31 rfl (lv_at hl 0 rfl) ?_
      refine gf_X10_21 (pc := 32) C t0 dX10_lay_32 ?_
      have t24 := ft_10_1 t0
      refine gf_X10_141 (pc := 35) C t24 dX10_lay_35 ?_
      have t25 := ft_2_1 t24
      refine r_iload_n (pc := 38) C dX10_lay_38 rfl (lv_at hl 1 rfl) ?_
      refine r_iald (pc := 39) C t25 dX10_lay_39 ?_
      refine r_i2l (pc := 40) C dX10_lay_40 ?_
      refine r_iload_n (pc := 41) C dX10_lay_41 rfl (lv_at hl 2 rfl) ?_
      refine r_i2l (pc := 42) C dX10_lay_42 ?_
      refine r_ladd (pc := 43) C dX10_lay_43 ?_
      refine r_topl (fun v26 => ?_)
      refine r_lstore_n (lv2 := [(3, .long v26), (0, .ref (base + k0)), (1, .int v1), (2, .int v2)]) (pc := 44) C dX10_lay_44 rfl hl (Nat.le_of_ble_eq_true rfl) rfl (fun ls hl => ?_)
      refine r_lload_n (pc := 45) C dX10_lay_45 rfl (lv_at hl 0 rfl) ?_
      refine r_lconst (pc := 46) C (0 : Int64) dX10_lay_46 (by decide) ?_
      refine r_lcmp_ge (pc := 47) C (tgt := 58) dX10_lay_47 dX10_lay_48 (by decide) (fun _ => ?_) (fun _ => ?_)
      · refine r_lload_n (pc := 58) C dX10_lay_58 rfl (lv_at hl 0 rfl) ?_
        refine r_ldc2 (pc := 59) C (1000000 : Int64) wd_11 dX10_lay_59 ?_
        refine r_lcmp_le (pc := 62) C (tgt := 73) dX10_lay_62 dX10_lay_63 (by decide) (fun _ => ?_) (fun _ => ?_)
        · refine r_aload_n (pc := 73) C dX10_lay_73 rfl (lv_at hl 1 rfl) ?_
          refine gf_X10_40 (pc := 74) C t0 dX10_lay_74 ?_
          have t27 := ft_10_4 t0
          refine r_aload_n (pc := 77) C dX10_lay_77 rfl (lv_at hl 1 rfl) ?_
          refine gf_X10_21 (pc := 78) C t0 dX10_lay_78 ?_
          have t28 := ft_10_1 t0
          refine r_aload_n (pc := 81) C dX10_lay_81 rfl (lv_at hl 1 rfl) ?_
          refine gf_X10_33 (pc := 82) C t0 dX10_lay_82 ?_
          have t29 := ft_10_3 t0
          refine cv_X10_146 (pc := 85) C t27 t28 t29 hl.1 ⟨Nat.le_of_ble_eq_true rfl, Nat.le_of_ble_eq_true rfl⟩ (Nat.le_of_ble_eq_true rfl) dX10_lay_85 (fun S30 _ => ?_)
          refine r_aload_n (pc := 88) C dX10_lay_88 rfl (lv_at hl 1 rfl) ?_
          refine gf_X10_21 (pc := 89) C t0 dX10_lay_89 ?_
          have t31 := ft_10_1 t0
          refine gf_X10_141 (pc := 92) C t31 dX10_lay_92 ?_
          have t32 := ft_2_1 t31
          refine r_iload_n (pc := 95) C dX10_lay_95 rfl (lv_at hl 2 rfl) ?_
          refine r_lload_n (pc := 96) C dX10_lay_96 rfl (lv_at hl 0 rfl) ?_
          refine r_l2i (pc := 97) C dX10_lay_97 ?_
          refine r_iast (pc := 98) C t32 dX10_lay_98 (fun S33 => ?_)
          refine r_aload_n (pc := 99) C dX10_lay_99 rfl (lv_at hl 1 rfl) ?_
          refine gf_X10_21 (pc := 100) C t0 dX10_lay_100 ?_
          have t34 := ft_10_1 t0
          refine gf_X10_141 (pc := 103) C t34 dX10_lay_103 ?_
          have t35 := ft_2_1 t34
          refine r_iload_n (pc := 106) C dX10_lay_106 rfl (lv_at hl 2 rfl) ?_
          refine r_iald (pc := 107) C t35 dX10_lay_107 ?_
          exact r_iret (pc := 108) C hr hk dX10_lay_108
        · refine r_aload_n (pc := 66) C dX10_lay_66 rfl (lv_at hl 1 rfl) ?_
          refine r_bipush (pc := 67) C (-5 : Int32) dX10_lay_67 (by decide) ?_
          refine cv_X10_96 (pc := 69) C t0 hl.1 ⟨Nat.le_of_ble_eq_true rfl, Nat.le_of_ble_eq_true rfl⟩ (Nat.le_of_ble_eq_true rfl) dX10_lay_69 (fun S36 v37 => ?_)
          exact r_iret (pc := 72) C hr hk dX10_lay_72
      · refine r_aload_n (pc := 51) C dX10_lay_51 rfl (lv_at hl 1 rfl) ?_
        refine r_bipush (pc := 52) C (-13 : Int32) dX10_lay_52 (by decide) ?_
        refine cv_X10_96 (pc := 54) C t0 hl.1 ⟨Nat.le_of_ble_eq_true rfl, Nat.le_of_ble_eq_true rfl⟩ (Nat.le_of_ble_eq_true rfl) dX10_lay_54 (fun S38 v39 => ?_)
        exact r_iret (pc := 57) C hr hk dX10_lay_57
    · refine r_aload_n (pc := 24) C dX10_lay_24 rfl (lv_at hl 0 rfl) ?_
      refine r_bipush (pc := 25) C (-8 : Int32) dX10_lay_25 (by decide) ?_
      refine cv_X10_96 (pc := 27) C t0 hl.1 ⟨Nat.le_of_ble_eq_true rfl, Nat.le_of_ble_eq_true rfl⟩ (Nat.le_of_ble_eq_true rfl) dX10_lay_27 (fun S40 v41 => ?_)
      exact r_iret (pc := 30) C hr hk dX10_lay_30
  · refine r_aload_n (pc := 11) C dX10_lay_11 rfl (lv_at hl 0 rfl) ?_
    refine r_iconst (pc := 12) C (-1 : Int32) dX10_lay_12 (by decide) ?_
    refine cv_X10_96 (pc := 13) C t0 hl.1 ⟨Nat.le_of_ble_eq_true rfl, Nat.le_of_ble_eq_true rfl⟩ (Nat.le_of_ble_eq_true rfl) dX10_lay_13 (fun S42 v43 => ?_)
    exact r_iret (pc := 16) C hr hk dX10_lay_16

theorem ct_X10_lay (l : Launch) {D : va_G} {cy : Nat → ClassId} {base tS : Nat} {S : St} {k0 : Nat} {v1 : Int32} {v2 : Int32} (t0 : cls k0 = 10) {S1 : St} {r1 : Int32} (h : X10_lay S k0 v1 v2 = some (S1, r1)) : Met l yX10_lay (wsY yX10_lay cX10_lay 5 (some .int)) rm_X10_lay (va_Pc [.ref (base + k0), .int v1, .int v2] (World D cy base tS S)) (QcI D cy base tS S1 r1) 0 0 (AA base) := conI rfl rfl (by decide) (Nat.le_of_ble_eq_true rfl) (fun p e s m args below meth c ls C hr hk hl => sm_X10_lay C hr hk t0 hl) h
abbrev rm_X10_grains : Room := { frames := 1, cells := 0, slots := 0, locals := 21 }
set_option maxHeartbeats 4000000 in
set_option maxRecDepth 100000 in
theorem sm_X10_grains {p : Program} {l : Launch} {e : Env} {s : State} {m : MethodId} {args : Array Value} {below : List Frame} {meth : Method} {c : Code} {D : va_G} {cy : Nat → ClassId} {base tS : Nat} {S : St} {k0 : Nat} {v1 : Int32} {ls : Array Slot} (C : Cx p rm_X10_grains s m args c RX10 cX10_grains 2 D cy base tS 0 0) (hr : meth.sig.returnType = (some .long)) (hk : meth.locks = false) (t0 : cls k0 = 10) (hl : lv_has ls 2 [(0, .ref (base + k0)), (1, .int v1)]) : Sim p l e rm_X10_grains s m args below meth c D cy base 0 0 (fun S1 r => MQ below (QcJ D cy base tS S1 r) args s 0 0 (AA base)) (X10_grains S k0 v1) S (F0 m 0 ls []) := by
  unfold X10_grains
  refine r_aload_n (pc := 0) C dX10_grains_0 rfl (lv_at hl 0 rfl) ?_
  refine gf_X10_10 (pc := 1) C t0 dX10_grains_1 ?_
  have t21 := ft_10_0 t0
  refine r_iload_n (pc := 4) C dX10_grains_4 rfl (lv_at hl 1 rfl) ?_
  refine cv_X10_107 (pc := 5) C t21 hl.1 ⟨Nat.le_of_ble_eq_true rfl, Nat.le_of_ble_eq_true rfl⟩ (Nat.le_of_ble_eq_true rfl) dX10_grains_5 (fun S22 v23 => ?_)
  refine r_if_eq (pc := 8) C (tgt := 22) dX10_grains_8 (by decide) (fun _ => ?_) (fun _ => ?_)
  · refine r_aload_n (pc := 22) C dX10_grains_22 rfl (lv_at hl 0 rfl) ?_
    refine gf_X10_10 (pc := 23) C t0 dX10_grains_23 ?_
    have t24 := ft_10_0 t0
    refine r_iload_n (pc := 26) C dX10_grains_26 rfl (lv_at hl 1 rfl) ?_
    refine cv_X10_150 (pc := 27) C t24 hl.1 ⟨Nat.le_of_ble_eq_true rfl, Nat.le_of_ble_eq_true rfl⟩ (Nat.le_of_ble_eq_true rfl) dX10_grains_27 (fun S25 v26 => ?_)
    refine r_if_eq (pc := 30) C (tgt := 45) dX10_grains_30 (by decide) (fun _ => ?_) (fun _ => ?_)
    · refine r_aload_n (pc := 45) C dX10_grains_45 rfl (lv_at hl 0 rfl) ?_
      refine r_iconst (pc := 46) C (-1 : Int32) dX10_grains_46 (by decide) ?_
      refine cv_X10_96 (pc := 47) C t0 hl.1 ⟨Nat.le_of_ble_eq_true rfl, Nat.le_of_ble_eq_true rfl⟩ (Nat.le_of_ble_eq_true rfl) dX10_grains_47 (fun S27 v28 => ?_)
      refine r_i2l (pc := 50) C dX10_grains_50 ?_
      exact r_lret (pc := 51) C hr hk dX10_grains_51
    · refine r_aload_n (pc := 33) C dX10_grains_33 rfl (lv_at hl 0 rfl) ?_
      refine gf_X10_21 (pc := 34) C t0 dX10_grains_34 ?_
      have t29 := ft_10_1 t0
      refine gf_X10_153 (pc := 37) C t29 dX10_grains_37 ?_
      have t30 := ft_2_2 t29
      refine r_iconst (pc := 40) C (-1 : Int32) dX10_grains_40 (by decide) ?_
      refine r_iload_n (pc := 41) C dX10_grains_41 rfl (lv_at hl 1 rfl) ?_
      refine r_isub (pc := 42) C dX10_grains_42 ?_
      refine r_lald (pc := 43) C t30 dX10_grains_43 ?_
      exact r_lret (pc := 44) C hr hk dX10_grains_44
  · refine r_aload_n (pc := 11) C dX10_grains_11 rfl (lv_at hl 0 rfl) ?_
    refine gf_X10_21 (pc := 12) C t0 dX10_grains_12 ?_
    have t31 := ft_10_1 t0
    refine gf_X10_141 (pc := 15) C t31 dX10_grains_15 ?_
    have t32 := ft_2_1 t31
    refine r_iload_n (pc := 18) C dX10_grains_18 rfl (lv_at hl 1 rfl) ?_
    refine r_iald (pc := 19) C t32 dX10_grains_19 ?_
    refine r_i2l (pc := 20) C dX10_grains_20 ?_
    exact r_lret (pc := 21) C hr hk dX10_grains_21

theorem ct_X10_grains (l : Launch) {D : va_G} {cy : Nat → ClassId} {base tS : Nat} {S : St} {k0 : Nat} {v1 : Int32} (t0 : cls k0 = 10) {S1 : St} {r1 : Int64} (h : X10_grains S k0 v1 = some (S1, r1)) : Met l yX10_grains (wsY yX10_grains cX10_grains 2 (some .long)) rm_X10_grains (va_Pc [.ref (base + k0), .int v1] (World D cy base tS S)) (QcJ D cy base tS S1 r1) 0 0 (AA base) := conJ rfl rfl (by decide) (Nat.le_of_ble_eq_true rfl) (fun p e s m args below meth c ls C hr hk hl => sm_X10_grains C hr hk t0 hl) h
abbrev rm_X2_isDue : Room := { frames := 0, cells := 0, slots := 0, locals := 0 }
set_option maxHeartbeats 4000000 in
set_option maxRecDepth 100000 in
theorem sm_X2_isDue {p : Program} {l : Launch} {e : Env} {s : State} {m : MethodId} {args : Array Value} {below : List Frame} {meth : Method} {c : Code} {D : va_G} {cy : Nat → ClassId} {base tS : Nat} {S : St} {k0 : Nat} {v1 : Int32} {ls : Array Slot} (C : Cx p rm_X2_isDue s m args c RX2 cX2_isDue 3 D cy base tS 0 0) (hr : meth.sig.returnType = (some .boolean)) (hk : meth.locks = false) (t0 : cls k0 = 2) (hl : lv_has ls 3 [(0, .ref (base + k0)), (1, .int v1)]) : Sim p l e rm_X2_isDue s m args below meth c D cy base 0 0 (fun S1 r => MQ below (QcI D cy base tS S1 r) args s 0 0 (AA base)) (X2_isDue S k0 v1) S (F0 m 0 ls []) := by
  unfold X2_isDue
  refine r_aload_n (pc := 0) C dX2_isDue_0 rfl (lv_at hl 0 rfl) ?_
  refine gf_X2_22 (pc := 1) C t0 dX2_isDue_1 ?_
  have t21 := ft_2_0 t0
  refine gf_X2_38 (pc := 4) C t21 dX2_isDue_4 ?_
  have t22 := ft_7_2 t21
  refine r_iload_n (pc := 7) C dX2_isDue_7 rfl (lv_at hl 1 rfl) ?_
  refine r_iald (pc := 8) C t22 dX2_isDue_8 ?_
  refine r_topi (fun v23 => ?_)
  refine r_istore_n (lv2 := [(2, .int v23), (0, .ref (base + k0)), (1, .int v1)]) (pc := 9) C dX2_isDue_9 rfl hl (Nat.le_of_ble_eq_true rfl) rfl (fun ls hl => ?_)
  refine r_iload_n (pc := 10) C dX2_isDue_10 rfl (lv_at hl 0 rfl) ?_
  refine r_join (fun (j : St → Option (St × Int32)) => ∀ (S25 : St)  (ls : Array Slot), lv_has ls 3 [] → Sim p l e rm_X2_isDue s m args below meth c D cy base 0 0 (fun S1 r => MQ below (QcI D cy base tS S1 r) args s 0 0 (AA base)) (j S25) S25 (F0 m 28 ls [])) ?_ (fun j24 hj24 => ?_)
  · intro S25 ls hl
    refine r_iconst (pc := 28) C (0 : Int32) dX2_isDue_28 (by decide) ?_
    exact r_zret (pc := 29) C rfl hr hk dX2_isDue_29
  refine r_if_le (pc := 11) C (tgt := 28) dX2_isDue_11 (by decide) (fun _ => ?_) (fun _ => ?_)
  · exact hj24 S  _ (lv_sub hl [] rfl)
  · refine r_aload_n (pc := 14) C dX2_isDue_14 rfl (lv_at hl 1 rfl) ?_
    refine gf_X2_9 (pc := 15) C t0 dX2_isDue_15 ?_
    have t26 := ft_2_1 t0
    refine r_iload_n (pc := 18) C dX2_isDue_18 rfl (lv_at hl 2 rfl) ?_
    refine r_iald (pc := 19) C t26 dX2_isDue_19 ?_
    refine r_iload_n (pc := 20) C dX2_isDue_20 rfl (lv_at hl 0 rfl) ?_
    refine r_icmp_lt (pc := 21) C (tgt := 28) dX2_isDue_21 (by decide) (fun _ => ?_) (fun _ => ?_)
    · exact hj24 S  _ (lv_sub hl [] rfl)
    · refine r_iconst (pc := 24) C (1 : Int32) dX2_isDue_24 (by decide) ?_
      refine r_goto (pc := 25) C (tgt := 29) dX2_isDue_25 (by decide) ?_
      exact r_zret (pc := 29) C rfl hr hk dX2_isDue_29

theorem ct_X2_isDue (l : Launch) {D : va_G} {cy : Nat → ClassId} {base tS : Nat} {S : St} {k0 : Nat} {v1 : Int32} (t0 : cls k0 = 2) {S1 : St} {r1 : Int32} (h : X2_isDue S k0 v1 = some (S1, r1)) : Met l yX2_isDue (wsY yX2_isDue cX2_isDue 3 (some .boolean)) rm_X2_isDue (va_Pc [.ref (base + k0), .int v1] (World D cy base tS S)) (QcI D cy base tS S1 r1) 0 0 (AA base) := conI rfl rfl (by decide) (Nat.le_of_ble_eq_true rfl) (fun p e s m args below meth c ls C hr hk hl => sm_X2_isDue C hr hk t0 hl) h
theorem cv_X10_160 {p : Program} {l : Launch} {e : Env} {R : Room} {s : State} {m : MethodId} {args : Array Value} {below : List Frame} {meth : Method} {c : Code} {D : va_G} {cy : Nat → ClassId} {base tS nc ns : Nat} {cc : ByteArray} {nL pc : Nat} {ls : Array Slot} {rest : List Value} {S : St} {ρ : Type} {Q : St → ρ → State → Prop} (C : Cx p R s m args c RX10 cc nL D cy base tS nc ns) {k0 : Nat} {v1 : Int32} (t0 : cls k0 = 2) (hl : ls.size = nL) (hR : rm_X2_isDue.frames + 1 ≤ R.frames ∧ 8 + (3 + 11) + rm_X2_isDue.locals ≤ R.locals) {b : St → Int32 → Option (St × ρ)} (hroom : (rest.map fun v => v.category).sum ≤ 8) (hd : decode cc pc = .ok (.invokevirtual 160, 3)) (kk : ∀ (S1 : St) (r : Int32), Sim p l e R s m args below meth c D cy base nc ns Q (b S1 r) S1 (F0 m (pc + 3) ls (.int r :: rest))) : Sim p l e R s m args below meth c D cy base nc ns Q (bd (X2_isDue S k0 v1) b) S (F0 m pc ls (.int v1 :: .ref (base + k0) :: rest)) := r_callVI (n := 1) (As := [.int v1]) C hl (rd_2 t0) (cls_lt t0 (by decide)) rfl (fun S1 r1 h => ct_X2_isDue l t0 h) wd_260 wd_261 wd_262 wd_231 wd_263 rfl rfl (by decide +kernel) hR rfl rfl hroom hd kk
theorem cv_X0_75 {p : Program} {l : Launch} {e : Env} {R : Room} {s : State} {m : MethodId} {args : Array Value} {below : List Frame} {meth : Method} {c : Code} {D : va_G} {cy : Nat → ClassId} {base tS nc ns : Nat} {cc : ByteArray} {nL pc : Nat} {ls : Array Slot} {rest : List Value} {S : St} {ρ : Type} {Q : St → ρ → State → Prop} (C : Cx p R s m args c RX0 cc nL D cy base tS nc ns) {k0 : Nat} {v1 : Int32} (t0 : cls k0 = 2) (hl : ls.size = nL) (hR : rm_X2_isDue.frames + 1 ≤ R.frames ∧ 8 + (3 + 11) + rm_X2_isDue.locals ≤ R.locals) {b : St → Int32 → Option (St × ρ)} (hroom : (rest.map fun v => v.category).sum ≤ 8) (hd : decode cc pc = .ok (.invokevirtual 75, 3)) (kk : ∀ (S1 : St) (r : Int32), Sim p l e R s m args below meth c D cy base nc ns Q (b S1 r) S1 (F0 m (pc + 3) ls (.int r :: rest))) : Sim p l e R s m args below meth c D cy base nc ns Q (bd (X2_isDue S k0 v1) b) S (F0 m pc ls (.int v1 :: .ref (base + k0) :: rest)) := r_callVI (n := 1) (As := [.int v1]) C hl (rd_2 t0) (cls_lt t0 (by decide)) rfl (fun S1 r1 h => ct_X2_isDue l t0 h) wd_264 wd_261 wd_262 wd_231 wd_263 rfl rfl (by decide +kernel) hR rfl rfl hroom hd kk
theorem cv_X2_41 {p : Program} {l : Launch} {e : Env} {R : Room} {s : State} {m : MethodId} {args : Array Value} {below : List Frame} {meth : Method} {c : Code} {D : va_G} {cy : Nat → ClassId} {base tS nc ns : Nat} {cc : ByteArray} {nL pc : Nat} {ls : Array Slot} {rest : List Value} {S : St} {ρ : Type} {Q : St → ρ → State → Prop} (C : Cx p R s m args c RX2 cc nL D cy base tS nc ns) {k0 : Nat} {v1 : Int32} (t0 : cls k0 = 2) (hl : ls.size = nL) (hR : rm_X2_isDue.frames + 1 ≤ R.frames ∧ 8 + (3 + 11) + rm_X2_isDue.locals ≤ R.locals) {b : St → Int32 → Option (St × ρ)} (hroom : (rest.map fun v => v.category).sum ≤ 8) (hd : decode cc pc = .ok (.invokevirtual 41, 3)) (kk : ∀ (S1 : St) (r : Int32), Sim p l e R s m args below meth c D cy base nc ns Q (b S1 r) S1 (F0 m (pc + 3) ls (.int r :: rest))) : Sim p l e R s m args below meth c D cy base nc ns Q (bd (X2_isDue S k0 v1) b) S (F0 m pc ls (.int v1 :: .ref (base + k0) :: rest)) := r_callVI (n := 1) (As := [.int v1]) C hl (rd_2 t0) (cls_lt t0 (by decide)) rfl (fun S1 r1 h => ct_X2_isDue l t0 h) wd_265 wd_261 wd_262 wd_231 wd_263 rfl rfl (by decide +kernel) hR rfl rfl hroom hd kk
abbrev rm_X2_countDue : Room := { frames := 1, cells := 0, slots := 0, locals := 22 }
set_option maxHeartbeats 4000000 in
set_option maxRecDepth 100000 in
theorem lp_X2_countDue_4 {p : Program} {l : Launch} {e : Env} {s : State} {m : MethodId} {args : Array Value} {below : List Frame} {meth : Method} {c : Code} {D : va_G} {cy : Nat → ClassId} {base tS : Nat} {ls : Array Slot} (C : Cx p rm_X2_countDue s m args c RX2 cX2_countDue 3 D cy base tS 0 0) (hr : meth.sig.returnType = (some .int)) (hk : meth.locks = false) {k0 : Nat} (t0 : cls k0 = 2) {K : St → Int32 → Int32 → Option (St × Int32)} (hK : ∀ (S : St) (v1 : Int32) (v2 : Int32) (ls : Array Slot), lv_has ls 3 [(0, .ref (base + k0)), (1, .int v1), (2, .int v2)] → Sim p l e rm_X2_countDue s m args below meth c D cy base 0 0 (fun S1 r => MQ below (QcI D cy base tS S1 r) args s 0 0 (AA base)) (K S v1 v2) S (F0 m 32 ls [])) : ∀ (n : Nat) (S : St) (v1 : Int32) (v2 : Int32) (ls : Array Slot), lv_has ls 3 [(0, .ref (base + k0)), (1, .int v1), (2, .int v2)] → Sim p l e rm_X2_countDue s m args below meth c D cy base 0 0 (fun S1 r => MQ below (QcI D cy base tS S1 r) args s 0 0 (AA base)) (X2_countDue_4 k0 K n S v1 v2) S (F0 m 4 ls []) := by
  intro n
  induction n with
  | zero => intro S v1 v2 ls hl; exact Sim.none
  | succ n ih =>
    intro S v1 v2 ls hl
    rw [X2_countDue_4]
    refine r_iload_n (pc := 4) C dX2_countDue_4 rfl (lv_at hl 2 rfl) ?_
    refine r_aload_n (pc := 5) C dX2_countDue_5 rfl (lv_at hl 0 rfl) ?_
    refine gf_X2_22 (pc := 6) C t0 dX2_countDue_6 ?_
    have t21 := ft_2_0 t0
    refine gf_X2_32 (pc := 9) C t21 dX2_countDue_9 ?_
    refine r_icmp_ge (pc := 12) C (tgt := 32) dX2_countDue_12 (by decide) (fun _ => ?_) (fun _ => ?_)
    · exact hK S v1 v2 _ (lv_sub hl [0, 1, 2] rfl)
    · refine r_aload_n (pc := 15) C dX2_countDue_15 rfl (lv_at hl 0 rfl) ?_
      refine r_iload_n (pc := 16) C dX2_countDue_16 rfl (lv_at hl 2 rfl) ?_
      refine cv_X2_41 (pc := 17) C t0 hl.1 ⟨Nat.le_of_ble_eq_true rfl, Nat.le_of_ble_eq_true rfl⟩ (Nat.le_of_ble_eq_true rfl) dX2_countDue_17 (fun S22 v23 => ?_)
      refine r_join (fun (j : St → Int32 → Option (St × Int32)) => ∀ (S25 : St) (v26 : Int32) (ls : Array Slot), lv_has ls 3 [(0, .ref (base + k0)), (1, .int v26), (2, .int v2)] → Sim p l e rm_X2_countDue s m args below meth c D cy base 0 0 (fun S1 r => MQ below (QcI D cy base tS S1 r) args s 0 0 (AA base)) (j S25 v26) S25 (F0 m 26 ls [])) ?_ (fun j24 hj24 => ?_)
      · intro S25 v26 ls hl
        refine r_iinc (pc := 26) C (k := 2) (1 : Int32) (fun v27 => [(2, .int v27), (0, .ref (base + k0)), (1, .int v26)]) dX2_countDue_26 hl rfl (by decide) (Nat.le_of_ble_eq_true rfl) (fun _ => rfl) (fun v27 ls hl => ?_)
        refine r_goto (pc := 29) C (tgt := 4) dX2_countDue_29 (by decide) ?_
        exact ih S25 v26 v27 _ (lv_sub hl [1, 2, 0] rfl)
      refine r_if_eq (pc := 20) C (tgt := 26) dX2_countDue_20 (by decide) (fun _ => ?_) (fun _ => ?_)
      · exact hj24 S22 v1 _ (lv_sub hl [0, 1, 2] rfl)
      · refine r_iinc (pc := 23) C (k := 1) (1 : Int32) (fun v28 => [(1, .int v28), (0, .ref (base + k0)), (2, .int v2)]) dX2_countDue_23 hl rfl (by decide) (Nat.le_of_ble_eq_true rfl) (fun _ => rfl) (fun v28 ls hl => ?_)
        exact hj24 S22 v28 _ (lv_sub hl [1, 0, 2] rfl)

set_option maxHeartbeats 4000000 in
set_option maxRecDepth 100000 in
theorem sm_X2_countDue {p : Program} {l : Launch} {e : Env} {s : State} {m : MethodId} {args : Array Value} {below : List Frame} {meth : Method} {c : Code} {D : va_G} {cy : Nat → ClassId} {base tS : Nat} {S : St} {k0 : Nat} {ls : Array Slot} (C : Cx p rm_X2_countDue s m args c RX2 cX2_countDue 3 D cy base tS 0 0) (hr : meth.sig.returnType = (some .int)) (hk : meth.locks = false) (t0 : cls k0 = 2) (hl : lv_has ls 3 [(0, .ref (base + k0))]) : Sim p l e rm_X2_countDue s m args below meth c D cy base 0 0 (fun S1 r => MQ below (QcI D cy base tS S1 r) args s 0 0 (AA base)) (X2_countDue S k0) S (F0 m 0 ls []) := by
  unfold X2_countDue
  refine r_iconst (pc := 0) C (0 : Int32) dX2_countDue_0 (by decide) ?_
  refine r_istore_n (lv2 := [(1, .int (0 : Int32)), (0, .ref (base + k0))]) (pc := 1) C dX2_countDue_1 rfl hl (Nat.le_of_ble_eq_true rfl) rfl (fun ls hl => ?_)
  refine r_iconst (pc := 2) C (0 : Int32) dX2_countDue_2 (by decide) ?_
  refine r_istore_n (lv2 := [(2, .int (0 : Int32)), (1, .int (0 : Int32)), (0, .ref (base + k0))]) (pc := 3) C dX2_countDue_3 rfl hl (Nat.le_of_ble_eq_true rfl) rfl (fun ls hl => ?_)
  refine lp_X2_countDue_4 (ls := ls) C hr hk t0 (fun S29 v30 v31 ls hl => ?_) FU S (0 : Int32) (0 : Int32) _ (lv_sub hl [2, 1, 0] rfl)
  refine r_iload_n (pc := 32) C dX2_countDue_32 rfl (lv_at hl 1 rfl) ?_
  exact r_iret (pc := 33) C hr hk dX2_countDue_33

theorem ct_X2_countDue (l : Launch) {D : va_G} {cy : Nat → ClassId} {base tS : Nat} {S : St} {k0 : Nat} (t0 : cls k0 = 2) {S1 : St} {r1 : Int32} (h : X2_countDue S k0 = some (S1, r1)) : Met l yX2_countDue (wsY yX2_countDue cX2_countDue 3 (some .int)) rm_X2_countDue (va_Pc [.ref (base + k0)] (World D cy base tS S)) (QcI D cy base tS S1 r1) 0 0 (AA base) := conI rfl rfl (by decide) (Nat.le_of_ble_eq_true rfl) (fun p e s m args below meth c ls C hr hk hl => sm_X2_countDue C hr hk t0 hl) h
theorem cv_X10_157 {p : Program} {l : Launch} {e : Env} {R : Room} {s : State} {m : MethodId} {args : Array Value} {below : List Frame} {meth : Method} {c : Code} {D : va_G} {cy : Nat → ClassId} {base tS nc ns : Nat} {cc : ByteArray} {nL pc : Nat} {ls : Array Slot} {rest : List Value} {S : St} {ρ : Type} {Q : St → ρ → State → Prop} (C : Cx p R s m args c RX10 cc nL D cy base tS nc ns) {k0 : Nat} (t0 : cls k0 = 2) (hl : ls.size = nL) (hR : rm_X2_countDue.frames + 1 ≤ R.frames ∧ 8 + (3 + 11) + rm_X2_countDue.locals ≤ R.locals) {b : St → Int32 → Option (St × ρ)} (hroom : (rest.map fun v => v.category).sum ≤ 8) (hd : decode cc pc = .ok (.invokevirtual 157, 3)) (kk : ∀ (S1 : St) (r : Int32), Sim p l e R s m args below meth c D cy base nc ns Q (b S1 r) S1 (F0 m (pc + 3) ls (.int r :: rest))) : Sim p l e R s m args below meth c D cy base nc ns Q (bd (X2_countDue S k0) b) S (F0 m pc ls (.ref (base + k0) :: rest)) := r_callVI (n := 0) (As := []) C hl (rd_2 t0) (cls_lt t0 (by decide)) rfl (fun S1 r1 h => ct_X2_countDue l t0 h) wd_266 wd_267 wd_268 wd_231 wd_269 rfl rfl (by decide +kernel) hR rfl rfl hroom hd kk
theorem cv_X0_48 {p : Program} {l : Launch} {e : Env} {R : Room} {s : State} {m : MethodId} {args : Array Value} {below : List Frame} {meth : Method} {c : Code} {D : va_G} {cy : Nat → ClassId} {base tS nc ns : Nat} {cc : ByteArray} {nL pc : Nat} {ls : Array Slot} {rest : List Value} {S : St} {ρ : Type} {Q : St → ρ → State → Prop} (C : Cx p R s m args c RX0 cc nL D cy base tS nc ns) {k0 : Nat} (t0 : cls k0 = 2) (hl : ls.size = nL) (hR : rm_X2_countDue.frames + 1 ≤ R.frames ∧ 8 + (3 + 11) + rm_X2_countDue.locals ≤ R.locals) {b : St → Int32 → Option (St × ρ)} (hroom : (rest.map fun v => v.category).sum ≤ 8) (hd : decode cc pc = .ok (.invokevirtual 48, 3)) (kk : ∀ (S1 : St) (r : Int32), Sim p l e R s m args below meth c D cy base nc ns Q (b S1 r) S1 (F0 m (pc + 3) ls (.int r :: rest))) : Sim p l e R s m args below meth c D cy base nc ns Q (bd (X2_countDue S k0) b) S (F0 m pc ls (.ref (base + k0) :: rest)) := r_callVI (n := 0) (As := []) C hl (rd_2 t0) (cls_lt t0 (by decide)) rfl (fun S1 r1 h => ct_X2_countDue l t0 h) wd_270 wd_267 wd_268 wd_231 wd_269 rfl rfl (by decide +kernel) hR rfl rfl hroom hd kk
abbrev rm_X10_due : Room := { frames := 2, cells := 0, slots := 0, locals := 44 }
set_option maxHeartbeats 4000000 in
set_option maxRecDepth 100000 in
theorem sm_X10_due {p : Program} {l : Launch} {e : Env} {s : State} {m : MethodId} {args : Array Value} {below : List Frame} {meth : Method} {c : Code} {D : va_G} {cy : Nat → ClassId} {base tS : Nat} {S : St} {k0 : Nat} {ls : Array Slot} (C : Cx p rm_X10_due s m args c RX10 cX10_due 1 D cy base tS 0 0) (hr : meth.sig.returnType = (some .int)) (hk : meth.locks = false) (t0 : cls k0 = 10) (hl : lv_has ls 1 [(0, .ref (base + k0))]) : Sim p l e rm_X10_due s m args below meth c D cy base 0 0 (fun S1 r => MQ below (QcI D cy base tS S1 r) args s 0 0 (AA base)) (X10_due S k0) S (F0 m 0 ls []) := by
  unfold X10_due
  refine r_aload_n (pc := 0) C dX10_due_0 rfl (lv_at hl 0 rfl) ?_
  refine gf_X10_21 (pc := 1) C t0 dX10_due_1 ?_
  have t21 := ft_10_1 t0
  refine cv_X10_157 (pc := 4) C t21 hl.1 ⟨Nat.le_of_ble_eq_true rfl, Nat.le_of_ble_eq_true rfl⟩ (Nat.le_of_ble_eq_true rfl) dX10_due_4 (fun S22 v23 => ?_)
  exact r_iret (pc := 7) C hr hk dX10_due_7

theorem ct_X10_due (l : Launch) {D : va_G} {cy : Nat → ClassId} {base tS : Nat} {S : St} {k0 : Nat} (t0 : cls k0 = 10) {S1 : St} {r1 : Int32} (h : X10_due S k0 = some (S1, r1)) : Met l yX10_due (wsY yX10_due cX10_due 1 (some .int)) rm_X10_due (va_Pc [.ref (base + k0)] (World D cy base tS S)) (QcI D cy base tS S1 r1) 0 0 (AA base) := conI rfl rfl (by decide) (Nat.le_of_ble_eq_true rfl) (fun p e s m args below meth c ls C hr hk hl => sm_X10_due C hr hk t0 hl) h
abbrev rm_X2_timesAtOnce : Room := { frames := 1, cells := 0, slots := 0, locals := 24 }
set_option maxHeartbeats 4000000 in
set_option maxRecDepth 100000 in
theorem sm_X2_timesAtOnce {p : Program} {l : Launch} {e : Env} {s : State} {m : MethodId} {args : Array Value} {below : List Frame} {meth : Method} {c : Code} {D : va_G} {cy : Nat → ClassId} {base tS : Nat} {S : St} {k0 : Nat} {v1 : Int32} {ls : Array Slot} (C : Cx p rm_X2_timesAtOnce s m args c RX2 cX2_timesAtOnce 2 D cy base tS 0 0) (hr : meth.sig.returnType = (some .int)) (hk : meth.locks = false) (t0 : cls k0 = 2) (hl : lv_has ls 2 [(0, .ref (base + k0)), (1, .int v1)]) : Sim p l e rm_X2_timesAtOnce s m args below meth c D cy base 0 0 (fun S1 r => MQ below (QcI D cy base tS S1 r) args s 0 0 (AA base)) (X2_timesAtOnce S k0 v1) S (F0 m 0 ls []) := by
  unfold X2_timesAtOnce
  refine r_aload_n (pc := 0) C dX2_timesAtOnce_0 rfl (lv_at hl 0 rfl) ?_
  refine r_iload_n (pc := 1) C dX2_timesAtOnce_1 rfl (lv_at hl 1 rfl) ?_
  refine cv_X2_41 (pc := 2) C t0 hl.1 ⟨Nat.le_of_ble_eq_true rfl, Nat.le_of_ble_eq_true rfl⟩ (Nat.le_of_ble_eq_true rfl) dX2_timesAtOnce_2 (fun S21 v22 => ?_)
  refine r_if_ne (pc := 5) C (tgt := 10) dX2_timesAtOnce_5 (by decide) (fun _ => ?_) (fun _ => ?_)
  · refine r_aload_n (pc := 10) C dX2_timesAtOnce_10 rfl (lv_at hl 0 rfl) ?_
    refine gf_X2_22 (pc := 11) C t0 dX2_timesAtOnce_11 ?_
    have t23 := ft_2_0 t0
    refine r_iload_n (pc := 14) C dX2_timesAtOnce_14 rfl (lv_at hl 1 rfl) ?_
    refine r_iconst (pc := 15) C (1 : Int32) dX2_timesAtOnce_15 (by decide) ?_
    refine cv_X2_49 (pc := 16) C t23 hl.1 ⟨Nat.le_of_ble_eq_true rfl, Nat.le_of_ble_eq_true rfl⟩ (Nat.le_of_ble_eq_true rfl) dX2_timesAtOnce_16 (fun S24 v25 => ?_)
    refine r_if_eq (pc := 19) C (tgt := 41) dX2_timesAtOnce_19 (by decide) (fun _ => ?_) (fun _ => ?_)
    · refine r_iconst (pc := 41) C (1 : Int32) dX2_timesAtOnce_41 (by decide) ?_
      exact r_iret (pc := 42) C hr hk dX2_timesAtOnce_42
    · refine r_aload_n (pc := 22) C dX2_timesAtOnce_22 rfl (lv_at hl 0 rfl) ?_
      refine gf_X2_9 (pc := 23) C t0 dX2_timesAtOnce_23 ?_
      have t26 := ft_2_1 t0
      refine r_iload_n (pc := 26) C dX2_timesAtOnce_26 rfl (lv_at hl 1 rfl) ?_
      refine r_iald (pc := 27) C t26 dX2_timesAtOnce_27 ?_
      refine r_aload_n (pc := 28) C dX2_timesAtOnce_28 rfl (lv_at hl 0 rfl) ?_
      refine gf_X2_22 (pc := 29) C t0 dX2_timesAtOnce_29 ?_
      have t27 := ft_2_0 t0
      refine gf_X2_38 (pc := 32) C t27 dX2_timesAtOnce_32 ?_
      have t28 := ft_7_2 t27
      refine r_iload_n (pc := 35) C dX2_timesAtOnce_35 rfl (lv_at hl 1 rfl) ?_
      refine r_iald (pc := 36) C t28 dX2_timesAtOnce_36 ?_
      refine r_idiv (pc := 37) C dX2_timesAtOnce_37 (fun _ => ?_)
      refine r_goto (pc := 38) C (tgt := 42) dX2_timesAtOnce_38 (by decide) ?_
      exact r_iret (pc := 42) C hr hk dX2_timesAtOnce_42
  · refine r_iconst (pc := 8) C (0 : Int32) dX2_timesAtOnce_8 (by decide) ?_
    exact r_iret (pc := 9) C hr hk dX2_timesAtOnce_9

theorem ct_X2_timesAtOnce (l : Launch) {D : va_G} {cy : Nat → ClassId} {base tS : Nat} {S : St} {k0 : Nat} {v1 : Int32} (t0 : cls k0 = 2) {S1 : St} {r1 : Int32} (h : X2_timesAtOnce S k0 v1 = some (S1, r1)) : Met l yX2_timesAtOnce (wsY yX2_timesAtOnce cX2_timesAtOnce 2 (some .int)) rm_X2_timesAtOnce (va_Pc [.ref (base + k0), .int v1] (World D cy base tS S)) (QcI D cy base tS S1 r1) 0 0 (AA base) := conI rfl rfl (by decide) (Nat.le_of_ble_eq_true rfl) (fun p e s m args below meth c ls C hr hk hl => sm_X2_timesAtOnce C hr hk t0 hl) h
theorem cv_X2_53 {p : Program} {l : Launch} {e : Env} {R : Room} {s : State} {m : MethodId} {args : Array Value} {below : List Frame} {meth : Method} {c : Code} {D : va_G} {cy : Nat → ClassId} {base tS nc ns : Nat} {cc : ByteArray} {nL pc : Nat} {ls : Array Slot} {rest : List Value} {S : St} {ρ : Type} {Q : St → ρ → State → Prop} (C : Cx p R s m args c RX2 cc nL D cy base tS nc ns) {k0 : Nat} {v1 : Int32} (t0 : cls k0 = 2) (hl : ls.size = nL) (hR : rm_X2_timesAtOnce.frames + 1 ≤ R.frames ∧ 8 + (2 + 11) + rm_X2_timesAtOnce.locals ≤ R.locals) {b : St → Int32 → Option (St × ρ)} (hroom : (rest.map fun v => v.category).sum ≤ 8) (hd : decode cc pc = .ok (.invokevirtual 53, 3)) (kk : ∀ (S1 : St) (r : Int32), Sim p l e R s m args below meth c D cy base nc ns Q (b S1 r) S1 (F0 m (pc + 3) ls (.int r :: rest))) : Sim p l e R s m args below meth c D cy base nc ns Q (bd (X2_timesAtOnce S k0 v1) b) S (F0 m pc ls (.int v1 :: .ref (base + k0) :: rest)) := r_callVI (n := 1) (As := [.int v1]) C hl (rd_2 t0) (cls_lt t0 (by decide)) rfl (fun S1 r1 h => ct_X2_timesAtOnce l t0 h) wd_271 wd_272 wd_273 wd_231 wd_274 rfl rfl (by decide +kernel) hR rfl rfl hroom hd kk
abbrev rm_X2_letSlide : Room := { frames := 2, cells := 0, slots := 0, locals := 45 }
set_option maxHeartbeats 4000000 in
set_option maxRecDepth 100000 in
theorem lp_X2_letSlide_28 {p : Program} {l : Launch} {e : Env} {s : State} {m : MethodId} {args : Array Value} {below : List Frame} {meth : Method} {c : Code} {D : va_G} {cy : Nat → ClassId} {base tS : Nat} {ls : Array Slot} (C : Cx p rm_X2_letSlide s m args c RX2 cX2_letSlide 4 D cy base tS 0 0) (hr : meth.sig.returnType = (some .int)) (hk : meth.locks = false) {k0 : Nat} {v1 : Int32} {v2 : Int32} (t0 : cls k0 = 2) {K : St → Int32 → Option (St × Int32)} (hK : ∀ (S : St) (v3 : Int32) (ls : Array Slot), lv_has ls 4 [(0, .ref (base + k0)), (1, .int v1), (2, .int v2), (3, .int v3)] → Sim p l e rm_X2_letSlide s m args below meth c D cy base 0 0 (fun S1 r => MQ below (QcI D cy base tS S1 r) args s 0 0 (AA base)) (K S v3) S (F0 m 67 ls [])) : ∀ (n : Nat) (S : St) (v3 : Int32) (ls : Array Slot), lv_has ls 4 [(0, .ref (base + k0)), (1, .int v1), (2, .int v2), (3, .int v3)] → Sim p l e rm_X2_letSlide s m args below meth c D cy base 0 0 (fun S1 r => MQ below (QcI D cy base tS S1 r) args s 0 0 (AA base)) (X2_letSlide_28 k0 v1 v2 K n S v3) S (F0 m 28 ls []) := by
  intro n
  induction n with
  | zero => intro S v3 ls hl; exact Sim.none
  | succ n ih =>
    intro S v3 ls hl
    rw [X2_letSlide_28]
    refine r_iload_n (pc := 28) C dX2_letSlide_28 rfl (lv_at hl 3 rfl) ?_
    refine r_aload_n (pc := 29) C dX2_letSlide_29 rfl (lv_at hl 0 rfl) ?_
    refine gf_X2_22 (pc := 30) C t0 dX2_letSlide_30 ?_
    have t27 := ft_2_0 t0
    refine gf_X2_32 (pc := 33) C t27 dX2_letSlide_33 ?_
    refine r_icmp_ge (pc := 36) C (tgt := 67) dX2_letSlide_36 (by decide) (fun _ => ?_) (fun _ => ?_)
    · exact hK S v3 _ (lv_sub hl [0, 1, 2, 3] rfl)
    · refine r_aload_n (pc := 39) C dX2_letSlide_39 rfl (lv_at hl 0 rfl) ?_
      refine gf_X2_9 (pc := 40) C t0 dX2_letSlide_40 ?_
      have t28 := ft_2_1 t0
      refine r_iload_n (pc := 43) C dX2_letSlide_43 rfl (lv_at hl 3 rfl) ?_
      refine r_dup2_11 (pc := 44) C dX2_letSlide_44 rfl rfl ?_
      refine r_iald (pc := 45) C t28 dX2_letSlide_45 ?_
      refine r_iload_n (pc := 46) C dX2_letSlide_46 rfl (lv_at hl 2 rfl) ?_
      refine r_aload_n (pc := 47) C dX2_letSlide_47 rfl (lv_at hl 0 rfl) ?_
      refine gf_X2_22 (pc := 48) C t0 dX2_letSlide_48 ?_
      have t29 := ft_2_0 t0
      refine gf_X2_57 (pc := 51) C t29 dX2_letSlide_51 ?_
      have t30 := ft_7_1 t29
      refine r_iload_n (pc := 54) C dX2_letSlide_54 rfl (lv_at hl 1 rfl) ?_
      refine r_aald17 (pc := 55) C t30 dX2_letSlide_55 (fun b32 => ?_)
      have t31 := et_17_12 t30 b32
      refine r_iload_n (pc := 56) C dX2_letSlide_56 rfl (lv_at hl 3 rfl) ?_
      refine r_iald (pc := 57) C t31 dX2_letSlide_57 ?_
      refine r_imul (pc := 58) C dX2_letSlide_58 ?_
      refine r_iadd (pc := 59) C dX2_letSlide_59 ?_
      refine r_iast (pc := 60) C t28 dX2_letSlide_60 (fun S33 => ?_)
      refine r_iinc (pc := 61) C (k := 3) (1 : Int32) (fun v34 => [(3, .int v34), (0, .ref (base + k0)), (1, .int v1), (2, .int v2)]) dX2_letSlide_61 hl rfl (by decide) (Nat.le_of_ble_eq_true rfl) (fun _ => rfl) (fun v34 ls hl => ?_)
      refine r_goto (pc := 64) C (tgt := 28) dX2_letSlide_64 (by decide) ?_
      exact ih S33 v34 _ (lv_sub hl [1, 2, 3, 0] rfl)

set_option maxHeartbeats 4000000 in
set_option maxRecDepth 100000 in
theorem lp_X2_letSlide_69 {p : Program} {l : Launch} {e : Env} {s : State} {m : MethodId} {args : Array Value} {below : List Frame} {meth : Method} {c : Code} {D : va_G} {cy : Nat → ClassId} {base tS : Nat} {ls : Array Slot} (C : Cx p rm_X2_letSlide s m args c RX2 cX2_letSlide 4 D cy base tS 0 0) (hr : meth.sig.returnType = (some .int)) (hk : meth.locks = false) {k0 : Nat} {v1 : Int32} {v2 : Int32} (t0 : cls k0 = 2) {K : St → Int32 → Option (St × Int32)} (hK : ∀ (S : St) (v3 : Int32) (ls : Array Slot), lv_has ls 4 [(0, .ref (base + k0)), (1, .int v1), (2, .int v2), (3, .int v3)] → Sim p l e rm_X2_letSlide s m args below meth c D cy base 0 0 (fun S1 r => MQ below (QcI D cy base tS S1 r) args s 0 0 (AA base)) (K S v3) S (F0 m 107 ls [])) : ∀ (n : Nat) (S : St) (v3 : Int32) (ls : Array Slot), lv_has ls 4 [(0, .ref (base + k0)), (1, .int v1), (2, .int v2), (3, .int v3)] → Sim p l e rm_X2_letSlide s m args below meth c D cy base 0 0 (fun S1 r => MQ below (QcI D cy base tS S1 r) args s 0 0 (AA base)) (X2_letSlide_69 k0 v1 v2 K n S v3) S (F0 m 69 ls []) := by
  intro n
  induction n with
  | zero => intro S v3 ls hl; exact Sim.none
  | succ n ih =>
    intro S v3 ls hl
    rw [X2_letSlide_69]
    refine r_iload_n (pc := 69) C dX2_letSlide_69 rfl (lv_at hl 3 rfl) ?_
    refine r_iconst (pc := 70) C (3 : Int32) dX2_letSlide_70 (by decide) ?_
    refine r_icmp_ge (pc := 71) C (tgt := 107) dX2_letSlide_71 (by decide) (fun _ => ?_) (fun _ => ?_)
    · exact hK S v3 _ (lv_sub hl [0, 1, 2, 3] rfl)
    · refine r_aload_n (pc := 74) C dX2_letSlide_74 rfl (lv_at hl 0 rfl) ?_
      refine gf_X2_15 (pc := 75) C t0 dX2_letSlide_75 ?_
      have t37 := ft_2_2 t0
      refine r_iload_n (pc := 78) C dX2_letSlide_78 rfl (lv_at hl 3 rfl) ?_
      refine r_dup2_11 (pc := 79) C dX2_letSlide_79 rfl rfl ?_
      refine r_lald (pc := 80) C t37 dX2_letSlide_80 ?_
      refine r_iload_n (pc := 81) C dX2_letSlide_81 rfl (lv_at hl 2 rfl) ?_
      refine r_i2l (pc := 82) C dX2_letSlide_82 ?_
      refine r_aload_n (pc := 83) C dX2_letSlide_83 rfl (lv_at hl 0 rfl) ?_
      refine gf_X2_22 (pc := 84) C t0 dX2_letSlide_84 ?_
      have t38 := ft_2_0 t0
      refine gf_X2_57 (pc := 87) C t38 dX2_letSlide_87 ?_
      have t39 := ft_7_1 t38
      refine r_iload_n (pc := 90) C dX2_letSlide_90 rfl (lv_at hl 1 rfl) ?_
      refine r_aald17 (pc := 91) C t39 dX2_letSlide_91 (fun b41 => ?_)
      have t40 := et_17_12 t39 b41
      refine r_bipush (pc := 92) C (12 : Int32) dX2_letSlide_92 (by decide) ?_
      refine r_iload_n (pc := 94) C dX2_letSlide_94 rfl (lv_at hl 3 rfl) ?_
      refine r_iadd (pc := 95) C dX2_letSlide_95 ?_
      refine r_iald (pc := 96) C t40 dX2_letSlide_96 ?_
      refine r_i2l (pc := 97) C dX2_letSlide_97 ?_
      refine r_lmul (pc := 98) C dX2_letSlide_98 ?_
      refine r_ladd (pc := 99) C dX2_letSlide_99 ?_
      refine r_last (pc := 100) C t37 dX2_letSlide_100 (fun S42 => ?_)
      refine r_iinc (pc := 101) C (k := 3) (1 : Int32) (fun v43 => [(3, .int v43), (0, .ref (base + k0)), (1, .int v1), (2, .int v2)]) dX2_letSlide_101 hl rfl (by decide) (Nat.le_of_ble_eq_true rfl) (fun _ => rfl) (fun v43 ls hl => ?_)
      refine r_goto (pc := 104) C (tgt := 69) dX2_letSlide_104 (by decide) ?_
      exact ih S42 v43 _ (lv_sub hl [1, 2, 3, 0] rfl)

set_option maxHeartbeats 4000000 in
set_option maxRecDepth 100000 in
theorem sm_X2_letSlide {p : Program} {l : Launch} {e : Env} {s : State} {m : MethodId} {args : Array Value} {below : List Frame} {meth : Method} {c : Code} {D : va_G} {cy : Nat → ClassId} {base tS : Nat} {S : St} {k0 : Nat} {v1 : Int32} {ls : Array Slot} (C : Cx p rm_X2_letSlide s m args c RX2 cX2_letSlide 4 D cy base tS 0 0) (hr : meth.sig.returnType = (some .int)) (hk : meth.locks = false) (t0 : cls k0 = 2) (hl : lv_has ls 4 [(0, .ref (base + k0)), (1, .int v1)]) : Sim p l e rm_X2_letSlide s m args below meth c D cy base 0 0 (fun S1 r => MQ below (QcI D cy base tS S1 r) args s 0 0 (AA base)) (X2_letSlide S k0 v1) S (F0 m 0 ls []) := by
  unfold X2_letSlide
  refine r_aload_n (pc := 0) C dX2_letSlide_0 rfl (lv_at hl 0 rfl) ?_
  refine r_iload_n (pc := 1) C dX2_letSlide_1 rfl (lv_at hl 1 rfl) ?_
  refine cv_X2_53 (pc := 2) C t0 hl.1 ⟨Nat.le_of_ble_eq_true rfl, Nat.le_of_ble_eq_true rfl⟩ (Nat.le_of_ble_eq_true rfl) dX2_letSlide_2 (fun S21 v22 => ?_)
  refine r_istore_n (lv2 := [(2, .int v22), (0, .ref (base + k0)), (1, .int v1)]) (pc := 5) C dX2_letSlide_5 rfl hl (Nat.le_of_ble_eq_true rfl) rfl (fun ls hl => ?_)
  refine r_aload_n (pc := 6) C dX2_letSlide_6 rfl (lv_at hl 1 rfl) ?_
  refine gf_X2_9 (pc := 7) C t0 dX2_letSlide_7 ?_
  have t23 := ft_2_1 t0
  refine r_iload_n (pc := 10) C dX2_letSlide_10 rfl (lv_at hl 2 rfl) ?_
  refine r_dup2_11 (pc := 11) C dX2_letSlide_11 rfl rfl ?_
  refine r_iald (pc := 12) C t23 dX2_letSlide_12 ?_
  refine r_iload_n (pc := 13) C dX2_letSlide_13 rfl (lv_at hl 0 rfl) ?_
  refine r_aload_n (pc := 14) C dX2_letSlide_14 rfl (lv_at hl 1 rfl) ?_
  refine gf_X2_22 (pc := 15) C t0 dX2_letSlide_15 ?_
  have t24 := ft_2_0 t0
  refine gf_X2_38 (pc := 18) C t24 dX2_letSlide_18 ?_
  have t25 := ft_7_2 t24
  refine r_iload_n (pc := 21) C dX2_letSlide_21 rfl (lv_at hl 2 rfl) ?_
  refine r_iald (pc := 22) C t25 dX2_letSlide_22 ?_
  refine r_imul (pc := 23) C dX2_letSlide_23 ?_
  refine r_isub (pc := 24) C dX2_letSlide_24 ?_
  refine r_iast (pc := 25) C t23 dX2_letSlide_25 (fun S26 => ?_)
  refine r_iconst (pc := 26) C (0 : Int32) dX2_letSlide_26 (by decide) ?_
  refine r_istore_n (lv2 := [(3, .int (0 : Int32)), (2, .int v22), (0, .ref (base + k0)), (1, .int v1)]) (pc := 27) C dX2_letSlide_27 rfl hl (Nat.le_of_ble_eq_true rfl) rfl (fun ls hl => ?_)
  refine lp_X2_letSlide_28 (ls := ls) C hr hk t0 (fun S35 v36 ls hl => ?_) FU S26 (0 : Int32) _ (lv_sub hl [2, 3, 1, 0] rfl)
  refine r_iconst (pc := 67) C (0 : Int32) dX2_letSlide_67 (by decide) ?_
  refine r_istore_n (lv2 := [(3, .int (0 : Int32)), (0, .ref (base + k0)), (1, .int v1), (2, .int v22)]) (pc := 68) C dX2_letSlide_68 rfl hl (Nat.le_of_ble_eq_true rfl) rfl (fun ls hl => ?_)
  refine lp_X2_letSlide_69 (ls := ls) C hr hk t0 (fun S44 v45 ls hl => ?_) FU S35 (0 : Int32) _ (lv_sub hl [1, 2, 3, 0] rfl)
  refine r_aload_n (pc := 107) C dX2_letSlide_107 rfl (lv_at hl 0 rfl) ?_
  refine gf_X2_19 (pc := 108) C t0 dX2_letSlide_108 ?_
  have t46 := ft_2_3 t0
  refine r_iload_n (pc := 111) C dX2_letSlide_111 rfl (lv_at hl 1 rfl) ?_
  refine r_dup2_11 (pc := 112) C dX2_letSlide_112 rfl rfl ?_
  refine r_lald (pc := 113) C t46 dX2_letSlide_113 ?_
  refine r_iload_n (pc := 114) C dX2_letSlide_114 rfl (lv_at hl 2 rfl) ?_
  refine r_i2l (pc := 115) C dX2_letSlide_115 ?_
  refine r_ladd (pc := 116) C dX2_letSlide_116 ?_
  refine r_last (pc := 117) C t46 dX2_letSlide_117 (fun S47 => ?_)
  refine r_iload_n (pc := 118) C dX2_letSlide_118 rfl (lv_at hl 2 rfl) ?_
  exact r_iret (pc := 119) C hr hk dX2_letSlide_119

theorem ct_X2_letSlide (l : Launch) {D : va_G} {cy : Nat → ClassId} {base tS : Nat} {S : St} {k0 : Nat} {v1 : Int32} (t0 : cls k0 = 2) {S1 : St} {r1 : Int32} (h : X2_letSlide S k0 v1 = some (S1, r1)) : Met l yX2_letSlide (wsY yX2_letSlide cX2_letSlide 4 (some .int)) rm_X2_letSlide (va_Pc [.ref (base + k0), .int v1] (World D cy base tS S)) (QcI D cy base tS S1 r1) 0 0 (AA base) := conI rfl rfl (by decide) (Nat.le_of_ble_eq_true rfl) (fun p e s m args below meth c ls C hr hk hl => sm_X2_letSlide C hr hk t0 hl) h
theorem cv_X10_166 {p : Program} {l : Launch} {e : Env} {R : Room} {s : State} {m : MethodId} {args : Array Value} {below : List Frame} {meth : Method} {c : Code} {D : va_G} {cy : Nat → ClassId} {base tS nc ns : Nat} {cc : ByteArray} {nL pc : Nat} {ls : Array Slot} {rest : List Value} {S : St} {ρ : Type} {Q : St → ρ → State → Prop} (C : Cx p R s m args c RX10 cc nL D cy base tS nc ns) {k0 : Nat} {v1 : Int32} (t0 : cls k0 = 2) (hl : ls.size = nL) (hR : rm_X2_letSlide.frames + 1 ≤ R.frames ∧ 8 + (4 + 11) + rm_X2_letSlide.locals ≤ R.locals) {b : St → Int32 → Option (St × ρ)} (hroom : (rest.map fun v => v.category).sum ≤ 8) (hd : decode cc pc = .ok (.invokevirtual 166, 3)) (kk : ∀ (S1 : St) (r : Int32), Sim p l e R s m args below meth c D cy base nc ns Q (b S1 r) S1 (F0 m (pc + 3) ls (.int r :: rest))) : Sim p l e R s m args below meth c D cy base nc ns Q (bd (X2_letSlide S k0 v1) b) S (F0 m pc ls (.int v1 :: .ref (base + k0) :: rest)) := r_callVI (n := 1) (As := [.int v1]) C hl (rd_2 t0) (cls_lt t0 (by decide)) rfl (fun S1 r1 h => ct_X2_letSlide l t0 h) wd_275 wd_276 wd_277 wd_231 wd_278 rfl rfl (by decide +kernel) hR rfl rfl hroom hd kk
theorem cv_X2_71 {p : Program} {l : Launch} {e : Env} {R : Room} {s : State} {m : MethodId} {args : Array Value} {below : List Frame} {meth : Method} {c : Code} {D : va_G} {cy : Nat → ClassId} {base tS nc ns : Nat} {cc : ByteArray} {nL pc : Nat} {ls : Array Slot} {rest : List Value} {S : St} {ρ : Type} {Q : St → ρ → State → Prop} (C : Cx p R s m args c RX2 cc nL D cy base tS nc ns) {k0 : Nat} {v1 : Int32} (t0 : cls k0 = 2) (hl : ls.size = nL) (hR : rm_X2_letSlide.frames + 1 ≤ R.frames ∧ 8 + (4 + 11) + rm_X2_letSlide.locals ≤ R.locals) {b : St → Int32 → Option (St × ρ)} (hroom : (rest.map fun v => v.category).sum ≤ 8) (hd : decode cc pc = .ok (.invokevirtual 71, 3)) (kk : ∀ (S1 : St) (r : Int32), Sim p l e R s m args below meth c D cy base nc ns Q (b S1 r) S1 (F0 m (pc + 3) ls (.int r :: rest))) : Sim p l e R s m args below meth c D cy base nc ns Q (bd (X2_letSlide S k0 v1) b) S (F0 m pc ls (.int v1 :: .ref (base + k0) :: rest)) := r_callVI (n := 1) (As := [.int v1]) C hl (rd_2 t0) (cls_lt t0 (by decide)) rfl (fun S1 r1 h => ct_X2_letSlide l t0 h) wd_279 wd_276 wd_277 wd_231 wd_278 rfl rfl (by decide +kernel) hR rfl rfl hroom hd kk
abbrev rm_X2_wouldOverfill : Room := { frames := 2, cells := 0, slots := 0, locals := 45 }
set_option maxHeartbeats 4000000 in
set_option maxRecDepth 100000 in
theorem lp_X2_wouldOverfill_8 {p : Program} {l : Launch} {e : Env} {s : State} {m : MethodId} {args : Array Value} {below : List Frame} {meth : Method} {c : Code} {D : va_G} {cy : Nat → ClassId} {base tS : Nat} {ls : Array Slot} (C : Cx p rm_X2_wouldOverfill s m args c RX2 cX2_wouldOverfill 4 D cy base tS 0 0) (hr : meth.sig.returnType = (some .boolean)) (hk : meth.locks = false) {k0 : Nat} {v1 : Int32} {v2 : Int32} (t0 : cls k0 = 2) {K : St → Int32 → Option (St × Int32)} (hK : ∀ (S : St) (v3 : Int32) (ls : Array Slot), lv_has ls 4 [(0, .ref (base + k0)), (1, .int v1), (2, .int v2), (3, .int v3)] → Sim p l e rm_X2_wouldOverfill s m args below meth c D cy base 0 0 (fun S1 r => MQ below (QcI D cy base tS S1 r) args s 0 0 (AA base)) (K S v3) S (F0 m 57 ls [])) : ∀ (n : Nat) (S : St) (v3 : Int32) (ls : Array Slot), lv_has ls 4 [(0, .ref (base + k0)), (1, .int v1), (2, .int v2), (3, .int v3)] → Sim p l e rm_X2_wouldOverfill s m args below meth c D cy base 0 0 (fun S1 r => MQ below (QcI D cy base tS S1 r) args s 0 0 (AA base)) (X2_wouldOverfill_8 k0 v1 v2 K n S v3) S (F0 m 8 ls []) := by
  intro n
  induction n with
  | zero => intro S v3 ls hl; exact Sim.none
  | succ n ih =>
    intro S v3 ls hl
    rw [X2_wouldOverfill_8]
    refine r_iload_n (pc := 8) C dX2_wouldOverfill_8 rfl (lv_at hl 3 rfl) ?_
    refine r_aload_n (pc := 9) C dX2_wouldOverfill_9 rfl (lv_at hl 0 rfl) ?_
    refine gf_X2_22 (pc := 10) C t0 dX2_wouldOverfill_10 ?_
    have t23 := ft_2_0 t0
    refine gf_X2_32 (pc := 13) C t23 dX2_wouldOverfill_13 ?_
    refine r_icmp_ge (pc := 16) C (tgt := 57) dX2_wouldOverfill_16 (by decide) (fun _ => ?_) (fun _ => ?_)
    · exact hK S v3 _ (lv_sub hl [0, 1, 2, 3] rfl)
    · refine r_aload_n (pc := 19) C dX2_wouldOverfill_19 rfl (lv_at hl 0 rfl) ?_
      refine gf_X2_9 (pc := 20) C t0 dX2_wouldOverfill_20 ?_
      have t24 := ft_2_1 t0
      refine r_iload_n (pc := 23) C dX2_wouldOverfill_23 rfl (lv_at hl 3 rfl) ?_
      refine r_iald (pc := 24) C t24 dX2_wouldOverfill_24 ?_
      refine r_i2l (pc := 25) C dX2_wouldOverfill_25 ?_
      refine r_iload_n (pc := 26) C dX2_wouldOverfill_26 rfl (lv_at hl 2 rfl) ?_
      refine r_i2l (pc := 27) C dX2_wouldOverfill_27 ?_
      refine r_aload_n (pc := 28) C dX2_wouldOverfill_28 rfl (lv_at hl 0 rfl) ?_
      refine gf_X2_22 (pc := 29) C t0 dX2_wouldOverfill_29 ?_
      have t25 := ft_2_0 t0
      refine gf_X2_57 (pc := 32) C t25 dX2_wouldOverfill_32 ?_
      have t26 := ft_7_1 t25
      refine r_iload_n (pc := 35) C dX2_wouldOverfill_35 rfl (lv_at hl 1 rfl) ?_
      refine r_aald17 (pc := 36) C t26 dX2_wouldOverfill_36 (fun b28 => ?_)
      have t27 := et_17_12 t26 b28
      refine r_iload_n (pc := 37) C dX2_wouldOverfill_37 rfl (lv_at hl 3 rfl) ?_
      refine r_iald (pc := 38) C t27 dX2_wouldOverfill_38 ?_
      refine r_i2l (pc := 39) C dX2_wouldOverfill_39 ?_
      refine r_lmul (pc := 40) C dX2_wouldOverfill_40 ?_
      refine r_ladd (pc := 41) C dX2_wouldOverfill_41 ?_
      refine r_ldc2 (pc := 42) C (1000000 : Int64) wd_118 dX2_wouldOverfill_42 ?_
      refine r_lcmp_le (pc := 45) C (tgt := 51) dX2_wouldOverfill_45 dX2_wouldOverfill_46 (by decide) (fun _ => ?_) (fun _ => ?_)
      · refine r_iinc (pc := 51) C (k := 3) (1 : Int32) (fun v29 => [(3, .int v29), (0, .ref (base + k0)), (1, .int v1), (2, .int v2)]) dX2_wouldOverfill_51 hl rfl (by decide) (Nat.le_of_ble_eq_true rfl) (fun _ => rfl) (fun v29 ls hl => ?_)
        refine r_goto (pc := 54) C (tgt := 8) dX2_wouldOverfill_54 (by decide) ?_
        exact ih S v29 _ (lv_sub hl [1, 2, 3, 0] rfl)
      · refine r_iconst (pc := 49) C (1 : Int32) dX2_wouldOverfill_49 (by decide) ?_
        exact r_zret (pc := 50) C rfl hr hk dX2_wouldOverfill_50

set_option maxHeartbeats 4000000 in
set_option maxRecDepth 100000 in
theorem sm_X2_wouldOverfill {p : Program} {l : Launch} {e : Env} {s : State} {m : MethodId} {args : Array Value} {below : List Frame} {meth : Method} {c : Code} {D : va_G} {cy : Nat → ClassId} {base tS : Nat} {S : St} {k0 : Nat} {v1 : Int32} {ls : Array Slot} (C : Cx p rm_X2_wouldOverfill s m args c RX2 cX2_wouldOverfill 4 D cy base tS 0 0) (hr : meth.sig.returnType = (some .boolean)) (hk : meth.locks = false) (t0 : cls k0 = 2) (hl : lv_has ls 4 [(0, .ref (base + k0)), (1, .int v1)]) : Sim p l e rm_X2_wouldOverfill s m args below meth c D cy base 0 0 (fun S1 r => MQ below (QcI D cy base tS S1 r) args s 0 0 (AA base)) (X2_wouldOverfill S k0 v1) S (F0 m 0 ls []) := by
  unfold X2_wouldOverfill
  refine r_aload_n (pc := 0) C dX2_wouldOverfill_0 rfl (lv_at hl 0 rfl) ?_
  refine r_iload_n (pc := 1) C dX2_wouldOverfill_1 rfl (lv_at hl 1 rfl) ?_
  refine cv_X2_53 (pc := 2) C t0 hl.1 ⟨Nat.le_of_ble_eq_true rfl, Nat.le_of_ble_eq_true rfl⟩ (Nat.le_of_ble_eq_true rfl) dX2_wouldOverfill_2 (fun S21 v22 => ?_)
  refine r_istore_n (lv2 := [(2, .int v22), (0, .ref (base + k0)), (1, .int v1)]) (pc := 5) C dX2_wouldOverfill_5 rfl hl (Nat.le_of_ble_eq_true rfl) rfl (fun ls hl => ?_)
  refine r_iconst (pc := 6) C (0 : Int32) dX2_wouldOverfill_6 (by decide) ?_
  refine r_istore_n (lv2 := [(3, .int (0 : Int32)), (2, .int v22), (0, .ref (base + k0)), (1, .int v1)]) (pc := 7) C dX2_wouldOverfill_7 rfl hl (Nat.le_of_ble_eq_true rfl) rfl (fun ls hl => ?_)
  refine lp_X2_wouldOverfill_8 (ls := ls) C hr hk t0 (fun S30 v31 ls hl => ?_) FU S21 (0 : Int32) _ (lv_sub hl [2, 3, 1, 0] rfl)
  refine r_iconst (pc := 57) C (0 : Int32) dX2_wouldOverfill_57 (by decide) ?_
  exact r_zret (pc := 58) C rfl hr hk dX2_wouldOverfill_58

theorem ct_X2_wouldOverfill (l : Launch) {D : va_G} {cy : Nat → ClassId} {base tS : Nat} {S : St} {k0 : Nat} {v1 : Int32} (t0 : cls k0 = 2) {S1 : St} {r1 : Int32} (h : X2_wouldOverfill S k0 v1 = some (S1, r1)) : Met l yX2_wouldOverfill (wsY yX2_wouldOverfill cX2_wouldOverfill 4 (some .boolean)) rm_X2_wouldOverfill (va_Pc [.ref (base + k0), .int v1] (World D cy base tS S)) (QcI D cy base tS S1 r1) 0 0 (AA base) := conI rfl rfl (by decide) (Nat.le_of_ble_eq_true rfl) (fun p e s m args below meth c ls C hr hk hl => sm_X2_wouldOverfill C hr hk t0 hl) h
theorem cv_X10_163 {p : Program} {l : Launch} {e : Env} {R : Room} {s : State} {m : MethodId} {args : Array Value} {below : List Frame} {meth : Method} {c : Code} {D : va_G} {cy : Nat → ClassId} {base tS nc ns : Nat} {cc : ByteArray} {nL pc : Nat} {ls : Array Slot} {rest : List Value} {S : St} {ρ : Type} {Q : St → ρ → State → Prop} (C : Cx p R s m args c RX10 cc nL D cy base tS nc ns) {k0 : Nat} {v1 : Int32} (t0 : cls k0 = 2) (hl : ls.size = nL) (hR : rm_X2_wouldOverfill.frames + 1 ≤ R.frames ∧ 8 + (4 + 11) + rm_X2_wouldOverfill.locals ≤ R.locals) {b : St → Int32 → Option (St × ρ)} (hroom : (rest.map fun v => v.category).sum ≤ 8) (hd : decode cc pc = .ok (.invokevirtual 163, 3)) (kk : ∀ (S1 : St) (r : Int32), Sim p l e R s m args below meth c D cy base nc ns Q (b S1 r) S1 (F0 m (pc + 3) ls (.int r :: rest))) : Sim p l e R s m args below meth c D cy base nc ns Q (bd (X2_wouldOverfill S k0 v1) b) S (F0 m pc ls (.int v1 :: .ref (base + k0) :: rest)) := r_callVI (n := 1) (As := [.int v1]) C hl (rd_2 t0) (cls_lt t0 (by decide)) rfl (fun S1 r1 h => ct_X2_wouldOverfill l t0 h) wd_280 wd_281 wd_282 wd_231 wd_283 rfl rfl (by decide +kernel) hR rfl rfl hroom hd kk
theorem cv_X2_68 {p : Program} {l : Launch} {e : Env} {R : Room} {s : State} {m : MethodId} {args : Array Value} {below : List Frame} {meth : Method} {c : Code} {D : va_G} {cy : Nat → ClassId} {base tS nc ns : Nat} {cc : ByteArray} {nL pc : Nat} {ls : Array Slot} {rest : List Value} {S : St} {ρ : Type} {Q : St → ρ → State → Prop} (C : Cx p R s m args c RX2 cc nL D cy base tS nc ns) {k0 : Nat} {v1 : Int32} (t0 : cls k0 = 2) (hl : ls.size = nL) (hR : rm_X2_wouldOverfill.frames + 1 ≤ R.frames ∧ 8 + (4 + 11) + rm_X2_wouldOverfill.locals ≤ R.locals) {b : St → Int32 → Option (St × ρ)} (hroom : (rest.map fun v => v.category).sum ≤ 8) (hd : decode cc pc = .ok (.invokevirtual 68, 3)) (kk : ∀ (S1 : St) (r : Int32), Sim p l e R s m args below meth c D cy base nc ns Q (b S1 r) S1 (F0 m (pc + 3) ls (.int r :: rest))) : Sim p l e R s m args below meth c D cy base nc ns Q (bd (X2_wouldOverfill S k0 v1) b) S (F0 m pc ls (.int v1 :: .ref (base + k0) :: rest)) := r_callVI (n := 1) (As := [.int v1]) C hl (rd_2 t0) (cls_lt t0 (by decide)) rfl (fun S1 r1 h => ct_X2_wouldOverfill l t0 h) wd_284 wd_281 wd_282 wd_231 wd_283 rfl rfl (by decide +kernel) hR rfl rfl hroom hd kk
abbrev rm_X10_slide : Room := { frames := 3, cells := 0, slots := 0, locals := 74 }
set_option maxHeartbeats 4000000 in
set_option maxRecDepth 100000 in
theorem sm_X10_slide {p : Program} {l : Launch} {e : Env} {s : State} {m : MethodId} {args : Array Value} {below : List Frame} {meth : Method} {c : Code} {D : va_G} {cy : Nat → ClassId} {base tS : Nat} {S : St} {k0 : Nat} {v1 : Int32} {ls : Array Slot} (C : Cx p rm_X10_slide s m args c RX10 cX10_slide 2 D cy base tS 0 0) (hr : meth.sig.returnType = (some .int)) (hk : meth.locks = false) (t0 : cls k0 = 10) (hl : lv_has ls 2 [(0, .ref (base + k0)), (1, .int v1)]) : Sim p l e rm_X10_slide s m args below meth c D cy base 0 0 (fun S1 r => MQ below (QcI D cy base tS S1 r) args s 0 0 (AA base)) (X10_slide S k0 v1) S (F0 m 0 ls []) := by
  unfold X10_slide
  refine r_aload_n (pc := 0) C dX10_slide_0 rfl (lv_at hl 0 rfl) ?_
  refine gf_X10_10 (pc := 1) C t0 dX10_slide_1 ?_
  have t21 := ft_10_0 t0
  refine r_iload_n (pc := 4) C dX10_slide_4 rfl (lv_at hl 1 rfl) ?_
  refine cv_X10_107 (pc := 5) C t21 hl.1 ⟨Nat.le_of_ble_eq_true rfl, Nat.le_of_ble_eq_true rfl⟩ (Nat.le_of_ble_eq_true rfl) dX10_slide_5 (fun S22 v23 => ?_)
  refine r_if_ne (pc := 8) C (tgt := 17) dX10_slide_8 (by decide) (fun _ => ?_) (fun _ => ?_)
  · refine r_aload_n (pc := 17) C dX10_slide_17 rfl (lv_at hl 0 rfl) ?_
    refine gf_X10_21 (pc := 18) C t0 dX10_slide_18 ?_
    have t24 := ft_10_1 t0
    refine r_iload_n (pc := 21) C dX10_slide_21 rfl (lv_at hl 1 rfl) ?_
    refine cv_X10_160 (pc := 22) C t24 hl.1 ⟨Nat.le_of_ble_eq_true rfl, Nat.le_of_ble_eq_true rfl⟩ (Nat.le_of_ble_eq_true rfl) dX10_slide_22 (fun S25 v26 => ?_)
    refine r_if_ne (pc := 25) C (tgt := 35) dX10_slide_25 (by decide) (fun _ => ?_) (fun _ => ?_)
    · refine r_aload_n (pc := 35) C dX10_slide_35 rfl (lv_at hl 0 rfl) ?_
      refine gf_X10_21 (pc := 36) C t0 dX10_slide_36 ?_
      have t27 := ft_10_1 t0
      refine r_iload_n (pc := 39) C dX10_slide_39 rfl (lv_at hl 1 rfl) ?_
      refine cv_X10_163 (pc := 40) C t27 hl.1 ⟨Nat.le_of_ble_eq_true rfl, Nat.le_of_ble_eq_true rfl⟩ (Nat.le_of_ble_eq_true rfl) dX10_slide_40 (fun S28 v29 => ?_)
      refine r_if_eq (pc := 43) C (tgt := 53) dX10_slide_43 (by decide) (fun _ => ?_) (fun _ => ?_)
      · refine r_aload_n (pc := 53) C dX10_slide_53 rfl (lv_at hl 0 rfl) ?_
        refine gf_X10_40 (pc := 54) C t0 dX10_slide_54 ?_
        have t30 := ft_10_4 t0
        refine r_aload_n (pc := 57) C dX10_slide_57 rfl (lv_at hl 0 rfl) ?_
        refine gf_X10_21 (pc := 58) C t0 dX10_slide_58 ?_
        have t31 := ft_10_1 t0
        refine r_aload_n (pc := 61) C dX10_slide_61 rfl (lv_at hl 0 rfl) ?_
        refine gf_X10_33 (pc := 62) C t0 dX10_slide_62 ?_
        have t32 := ft_10_3 t0
        refine cv_X10_146 (pc := 65) C t30 t31 t32 hl.1 ⟨Nat.le_of_ble_eq_true rfl, Nat.le_of_ble_eq_true rfl⟩ (Nat.le_of_ble_eq_true rfl) dX10_slide_65 (fun S33 _ => ?_)
        refine r_aload_n (pc := 68) C dX10_slide_68 rfl (lv_at hl 0 rfl) ?_
        refine gf_X10_21 (pc := 69) C t0 dX10_slide_69 ?_
        have t34 := ft_10_1 t0
        refine r_iload_n (pc := 72) C dX10_slide_72 rfl (lv_at hl 1 rfl) ?_
        refine cv_X10_166 (pc := 73) C t34 hl.1 ⟨Nat.le_of_ble_eq_true rfl, Nat.le_of_ble_eq_true rfl⟩ (Nat.le_of_ble_eq_true rfl) dX10_slide_73 (fun S35 v36 => ?_)
        exact r_iret (pc := 76) C hr hk dX10_slide_76
      · refine r_aload_n (pc := 46) C dX10_slide_46 rfl (lv_at hl 0 rfl) ?_
        refine r_bipush (pc := 47) C (-5 : Int32) dX10_slide_47 (by decide) ?_
        refine cv_X10_96 (pc := 49) C t0 hl.1 ⟨Nat.le_of_ble_eq_true rfl, Nat.le_of_ble_eq_true rfl⟩ (Nat.le_of_ble_eq_true rfl) dX10_slide_49 (fun S37 v38 => ?_)
        exact r_iret (pc := 52) C hr hk dX10_slide_52
    · refine r_aload_n (pc := 28) C dX10_slide_28 rfl (lv_at hl 0 rfl) ?_
      refine r_bipush (pc := 29) C (-8 : Int32) dX10_slide_29 (by decide) ?_
      refine cv_X10_96 (pc := 31) C t0 hl.1 ⟨Nat.le_of_ble_eq_true rfl, Nat.le_of_ble_eq_true rfl⟩ (Nat.le_of_ble_eq_true rfl) dX10_slide_31 (fun S39 v40 => ?_)
      exact r_iret (pc := 34) C hr hk dX10_slide_34
  · refine r_aload_n (pc := 11) C dX10_slide_11 rfl (lv_at hl 0 rfl) ?_
    refine r_iconst (pc := 12) C (-1 : Int32) dX10_slide_12 (by decide) ?_
    refine cv_X10_96 (pc := 13) C t0 hl.1 ⟨Nat.le_of_ble_eq_true rfl, Nat.le_of_ble_eq_true rfl⟩ (Nat.le_of_ble_eq_true rfl) dX10_slide_13 (fun S41 v42 => ?_)
    exact r_iret (pc := 16) C hr hk dX10_slide_16

theorem ct_X10_slide (l : Launch) {D : va_G} {cy : Nat → ClassId} {base tS : Nat} {S : St} {k0 : Nat} {v1 : Int32} (t0 : cls k0 = 10) {S1 : St} {r1 : Int32} (h : X10_slide S k0 v1 = some (S1, r1)) : Met l yX10_slide (wsY yX10_slide cX10_slide 2 (some .int)) rm_X10_slide (va_Pc [.ref (base + k0), .int v1] (World D cy base tS S)) (QcI D cy base tS S1 r1) 0 0 (AA base) := conI rfl rfl (by decide) (Nat.le_of_ble_eq_true rfl) (fun p e s m args below meth c ls C hr hk hl => sm_X10_slide C hr hk t0 hl) h
