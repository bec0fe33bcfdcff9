abbrev rm_X0_takeOrder : Room := { frames := 1, cells := 0, slots := 0, locals := 30 }
set_option maxHeartbeats 4000000 in
set_option maxRecDepth 100000 in
theorem sm_X0_takeOrder {p : Program} {l : Launch} {e : Env} {s : State} {m : MethodId} {args : Array Value} {below : List Frame} {meth : Method} {c : Code} {D : va_G} {cy : Nat → ClassId} {base tS : Nat} {S : St} {k0 : Nat} {k1 : Nat} {ls : Array Slot} (C : Cx p rm_X0_takeOrder s m args c RX0 cX0_takeOrder 2 D cy base tS 0 0) (hr : meth.sig.returnType = none) (hk : meth.locks = false) (t0 : cls k0 = 0) (t1 : cls k1 = 5) (hl : lv_has ls 2 [(0, .ref (base + k0)), (1, .ref (base + k1))]) : Sim p l e rm_X0_takeOrder s m args below meth c D cy base 0 0 (fun S1 r => MQ below (QcV D cy base tS S1 r) args s 0 0 (AA base)) (X0_takeOrder S k0 k1) S (F0 m 0 ls []) := by
  unfold X0_takeOrder
  refine r_aload_n (pc := 0) C dX0_takeOrder_0 rfl (lv_at hl 1 rfl) ?_
  refine gf_X0_37 (pc := 1) C t1 dX0_takeOrder_1 ?_
  have t21 := ft_5_0 t1
  refine r_iconst (pc := 4) C (0 : Int32) dX0_takeOrder_4 (by decide) ?_
  refine r_aload_n (pc := 5) C dX0_takeOrder_5 rfl (lv_at hl 0 rfl) ?_
  refine gf_X0_9 (pc := 6) C t0 dX0_takeOrder_6 ?_
  have t22 := ft_0_2 t0
  refine r_iconst (pc := 9) C (0 : Int32) dX0_takeOrder_9 (by decide) ?_
  refine r_bipush (pc := 10) C (12 : Int32) dX0_takeOrder_10 (by decide) ?_
  refine r_cpyI (rest := []) (pc := 12) C t21 t22 hl.1 wd_92 wd_31 wd_32 wd_33 (Nat.le_of_ble_eq_true rfl) (by decide) dX0_takeOrder_12 (fun S23 => ?_)
  exact r_vret (pc := 15) C hr hk dX0_takeOrder_15

theorem ct_X0_takeOrder (l : Launch) {D : va_G} {cy : Nat → ClassId} {base tS : Nat} {S : St} {k0 : Nat} {k1 : Nat} (t0 : cls k0 = 0) (t1 : cls k1 = 5) {S1 : St} {r1 : Unit} (h : X0_takeOrder S k0 k1 = some (S1, r1)) : Met l yX0_takeOrder (wsY yX0_takeOrder cX0_takeOrder 2 none) rm_X0_takeOrder (va_Pc [.ref (base + k0), .ref (base + k1)] (World D cy base tS S)) (QcV D cy base tS S1 r1) 0 0 (AA base) := conV rfl rfl (by decide) (Nat.le_of_ble_eq_true rfl) (fun p e s m args below meth c ls C hr hk hl => sm_X0_takeOrder C hr hk t0 t1 hl) h
theorem cv_X10_175 {p : Program} {l : Launch} {e : Env} {R : Room} {s : State} {m : MethodId} {args : Array Value} {below : List Frame} {meth : Method} {c : Code} {D : va_G} {cy : Nat → ClassId} {base tS nc ns : Nat} {cc : ByteArray} {nL pc : Nat} {ls : Array Slot} {rest : List Value} {S : St} {ρ : Type} {Q : St → ρ → State → Prop} (C : Cx p R s m args c RX10 cc nL D cy base tS nc ns) {k0 : Nat} {k1 : Nat} (t0 : cls k0 = 0) (t1 : cls k1 = 5) (hl : ls.size = nL) (hR : rm_X0_takeOrder.frames + 1 ≤ R.frames ∧ 8 + (2 + 11) + rm_X0_takeOrder.locals ≤ R.locals) {b : St → Unit → Option (St × ρ)} (hroom : (rest.map fun v => v.category).sum ≤ 8) (hd : decode cc pc = .ok (.invokevirtual 175, 3)) (kk : ∀ (S1 : St) (r : Unit), Sim p l e R s m args below meth c D cy base nc ns Q (b S1 r) S1 (F0 m (pc + 3) ls (rest))) : Sim p l e R s m args below meth c D cy base nc ns Q (bd (X0_takeOrder S k0 k1) b) S (F0 m pc ls (.ref (base + k1) :: .ref (base + k0) :: rest)) := r_callVV (n := 1) (As := [.ref (base + k1)]) C hl (rd_0 t0) (cls_lt t0 (by decide)) rfl (fun S1 r1 h => ct_X0_takeOrder l t0 t1 h) wd_285 wd_286 wd_287 wd_221 wd_288 rfl rfl (by decide +kernel) hR rfl rfl hroom hd kk
abbrev rm_X5_clear : Room := { frames := 0, cells := 0, slots := 0, locals := 0 }
set_option maxHeartbeats 4000000 in
set_option maxRecDepth 100000 in
theorem sm_X5_clear {p : Program} {l : Launch} {e : Env} {s : State} {m : MethodId} {args : Array Value} {below : List Frame} {meth : Method} {c : Code} {D : va_G} {cy : Nat → ClassId} {base tS : Nat} {S : St} {k0 : Nat} {ls : Array Slot} (C : Cx p rm_X5_clear s m args c RX5 cX5_clear 1 D cy base tS 0 0) (hr : meth.sig.returnType = none) (hk : meth.locks = false) (t0 : cls k0 = 5) (hl : lv_has ls 1 [(0, .ref (base + k0))]) : Sim p l e rm_X5_clear s m args below meth c D cy base 0 0 (fun S1 r => MQ below (QcV D cy base tS S1 r) args s 0 0 (AA base)) (X5_clear S k0) S (F0 m 0 ls []) := by
  unfold X5_clear
  refine r_aload_n (pc := 0) C dX5_clear_0 rfl (lv_at hl 0 rfl) ?_
  refine r_iconst (pc := 1) C (0 : Int32) dX5_clear_1 (by decide) ?_
  refine pf_X5_15 (pc := 2) C t0 dX5_clear_2 (fun S21 => ?_)
  exact r_vret (pc := 5) C hr hk dX5_clear_5

theorem ct_X5_clear (l : Launch) {D : va_G} {cy : Nat → ClassId} {base tS : Nat} {S : St} {k0 : Nat} (t0 : cls k0 = 5) {S1 : St} {r1 : Unit} (h : X5_clear S k0 = some (S1, r1)) : Met l yX5_clear (wsY yX5_clear cX5_clear 1 none) rm_X5_clear (va_Pc [.ref (base + k0)] (World D cy base tS S)) (QcV D cy base tS S1 r1) 0 0 (AA base) := conV rfl rfl (by decide) (Nat.le_of_ble_eq_true rfl) (fun p e s m args below meth c ls C hr hk hl => sm_X5_clear C hr hk t0 hl) h
theorem cv_X10_179 {p : Program} {l : Launch} {e : Env} {R : Room} {s : State} {m : MethodId} {args : Array Value} {below : List Frame} {meth : Method} {c : Code} {D : va_G} {cy : Nat → ClassId} {base tS nc ns : Nat} {cc : ByteArray} {nL pc : Nat} {ls : Array Slot} {rest : List Value} {S : St} {ρ : Type} {Q : St → ρ → State → Prop} (C : Cx p R s m args c RX10 cc nL D cy base tS nc ns) {k0 : Nat} (t0 : cls k0 = 5) (hl : ls.size = nL) (hR : rm_X5_clear.frames + 1 ≤ R.frames ∧ 8 + (1 + 11) + rm_X5_clear.locals ≤ R.locals) {b : St → Unit → Option (St × ρ)} (hroom : (rest.map fun v => v.category).sum ≤ 8) (hd : decode cc pc = .ok (.invokevirtual 179, 3)) (kk : ∀ (S1 : St) (r : Unit), Sim p l e R s m args below meth c D cy base nc ns Q (b S1 r) S1 (F0 m (pc + 3) ls (rest))) : Sim p l e R s m args below meth c D cy base nc ns Q (bd (X5_clear S k0) b) S (F0 m pc ls (.ref (base + k0) :: rest)) := r_callVV (n := 0) (As := []) C hl (rd_5 t0) (cls_lt t0 (by decide)) rfl (fun S1 r1 h => ct_X5_clear l t0 h) wd_289 wd_290 wd_291 wd_292 wd_293 rfl rfl (by decide +kernel) hR rfl rfl hroom hd kk
abbrev rm_X5_isOrderOf : Room := { frames := 0, cells := 0, slots := 0, locals := 0 }
set_option maxHeartbeats 4000000 in
set_option maxRecDepth 100000 in
theorem lp_X5_isOrderOf_20 {p : Program} {l : Launch} {e : Env} {s : State} {m : MethodId} {args : Array Value} {below : List Frame} {meth : Method} {c : Code} {D : va_G} {cy : Nat → ClassId} {base tS : Nat} {ls : Array Slot} (C : Cx p rm_X5_isOrderOf s m args c RX5 cX5_isOrderOf 4 D cy base tS 0 0) (hr : meth.sig.returnType = (some .boolean)) (hk : meth.locks = false) {k0 : Nat} {v1 : Int32} (t0 : cls k0 = 5) {K : St → Int32 → Int32 → Option (St × Int32)} (hK : ∀ (S : St) (v2 : Int32) (v3 : Int32) (ls : Array Slot), lv_has ls 4 [(0, .ref (base + k0)), (1, .int v1), (2, .int v2), (3, .int v3)] → Sim p l e rm_X5_isOrderOf s m args below meth c D cy base 0 0 (fun S1 r => MQ below (QcI D cy base tS S1 r) args s 0 0 (AA base)) (K S v2 v3) S (F0 m 79 ls [])) : ∀ (n : Nat) (S : St) (v2 : Int32) (v3 : Int32) (ls : Array Slot), lv_has ls 4 [(0, .ref (base + k0)), (1, .int v1), (2, .int v2), (3, .int v3)] → Sim p l e rm_X5_isOrderOf s m args below meth c D cy base 0 0 (fun S1 r => MQ below (QcI D cy base tS S1 r) args s 0 0 (AA base)) (X5_isOrderOf_20 k0 v1 K n S v2 v3) S (F0 m 20 ls []) := by
  intro n
  induction n with
  | zero => intro S v2 v3 ls hl; exact Sim.none
  | succ n ih =>
    intro S v2 v3 ls hl
    rw [X5_isOrderOf_20]
    refine r_iload_n (pc := 20) C dX5_isOrderOf_20 rfl (lv_at hl 3 rfl) ?_
    refine r_aload_n (pc := 21) C dX5_isOrderOf_21 rfl (lv_at hl 0 rfl) ?_
    refine gf_X5_15 (pc := 22) C t0 dX5_isOrderOf_22 ?_
    refine r_icmp_ge (pc := 25) C (tgt := 79) dX5_isOrderOf_25 (by decide) (fun _ => ?_) (fun _ => ?_)
    · exact hK S v2 v3 _ (lv_sub hl [0, 1, 2, 3] rfl)
    · refine r_aload_n (pc := 28) C dX5_isOrderOf_28 rfl (lv_at hl 0 rfl) ?_
      refine gf_X5_9 (pc := 29) C t0 dX5_isOrderOf_29 ?_
      have t23 := ft_5_0 t0
      refine r_iload_n (pc := 32) C dX5_isOrderOf_32 rfl (lv_at hl 3 rfl) ?_
      refine r_iald (pc := 33) C t23 dX5_isOrderOf_33 ?_
      refine r_join (fun (j : St → Option (St × Int32)) => ∀ (S25 : St)  (ls : Array Slot), lv_has ls 4 [] → Sim p l e rm_X5_isOrderOf s m args below meth c D cy base 0 0 (fun S1 r => MQ below (QcI D cy base tS S1 r) args s 0 0 (AA base)) (j S25) S25 (F0 m 60 ls [])) ?_ (fun j24 hj24 => ?_)
      · intro S25 ls hl
        refine r_iconst (pc := 60) C (0 : Int32) dX5_isOrderOf_60 (by decide) ?_
        exact r_zret (pc := 61) C rfl hr hk dX5_isOrderOf_61
      refine r_if_lt (pc := 34) C (tgt := 60) dX5_isOrderOf_34 (by decide) (fun _ => ?_) (fun _ => ?_)
      · exact hj24 S  _ (lv_sub hl [] rfl)
      · refine r_aload_n (pc := 37) C dX5_isOrderOf_37 rfl (lv_at hl 0 rfl) ?_
        refine gf_X5_9 (pc := 38) C t0 dX5_isOrderOf_38 ?_
        have t26 := ft_5_0 t0
        refine r_iload_n (pc := 41) C dX5_isOrderOf_41 rfl (lv_at hl 3 rfl) ?_
        refine r_iald (pc := 42) C t26 dX5_isOrderOf_42 ?_
        refine r_iload_n (pc := 43) C dX5_isOrderOf_43 rfl (lv_at hl 1 rfl) ?_
        refine r_icmp_ge (pc := 44) C (tgt := 60) dX5_isOrderOf_44 (by decide) (fun _ => ?_) (fun _ => ?_)
        · exact hj24 S  _ (lv_sub hl [] rfl)
        · refine r_iload_n (pc := 47) C dX5_isOrderOf_47 rfl (lv_at hl 2 rfl) ?_
          refine r_iconst (pc := 48) C (1 : Int32) dX5_isOrderOf_48 (by decide) ?_
          refine r_aload_n (pc := 49) C dX5_isOrderOf_49 rfl (lv_at hl 0 rfl) ?_
          refine gf_X5_9 (pc := 50) C t0 dX5_isOrderOf_50 ?_
          have t27 := ft_5_0 t0
          refine r_iload_n (pc := 53) C dX5_isOrderOf_53 rfl (lv_at hl 3 rfl) ?_
          refine r_iald (pc := 54) C t27 dX5_isOrderOf_54 ?_
          refine r_ishl (pc := 55) C dX5_isOrderOf_55 ?_
          refine r_iand (pc := 56) C dX5_isOrderOf_56 ?_
          refine r_if_eq (pc := 57) C (tgt := 62) dX5_isOrderOf_57 (by decide) (fun _ => ?_) (fun _ => ?_)
          · refine r_iload_n (pc := 62) C dX5_isOrderOf_62 rfl (lv_at hl 2 rfl) ?_
            refine r_iconst (pc := 63) C (1 : Int32) dX5_isOrderOf_63 (by decide) ?_
            refine r_aload_n (pc := 64) C dX5_isOrderOf_64 rfl (lv_at hl 0 rfl) ?_
            refine gf_X5_9 (pc := 65) C t0 dX5_isOrderOf_65 ?_
            have t28 := ft_5_0 t0
            refine r_iload_n (pc := 68) C dX5_isOrderOf_68 rfl (lv_at hl 3 rfl) ?_
            refine r_iald (pc := 69) C t28 dX5_isOrderOf_69 ?_
            refine r_ishl (pc := 70) C dX5_isOrderOf_70 ?_
            refine r_ior (pc := 71) C dX5_isOrderOf_71 ?_
            refine r_topi (fun v29 => ?_)
            refine r_istore_n (lv2 := [(2, .int v29), (0, .ref (base + k0)), (1, .int v1), (3, .int v3)]) (pc := 72) C dX5_isOrderOf_72 rfl hl (Nat.le_of_ble_eq_true rfl) rfl (fun ls hl => ?_)
            refine r_iinc (pc := 73) C (k := 3) (1 : Int32) (fun v30 => [(3, .int v30), (2, .int v29), (0, .ref (base + k0)), (1, .int v1)]) dX5_isOrderOf_73 hl rfl (by decide) (Nat.le_of_ble_eq_true rfl) (fun _ => rfl) (fun v30 ls hl => ?_)
            refine r_goto (pc := 76) C (tgt := 20) dX5_isOrderOf_76 (by decide) ?_
            exact ih S v29 v30 _ (lv_sub hl [2, 3, 1, 0] rfl)
          · exact hj24 S  _ (lv_sub hl [] rfl)

set_option maxHeartbeats 4000000 in
set_option maxRecDepth 100000 in
theorem sm_X5_isOrderOf {p : Program} {l : Launch} {e : Env} {s : State} {m : MethodId} {args : Array Value} {below : List Frame} {meth : Method} {c : Code} {D : va_G} {cy : Nat → ClassId} {base tS : Nat} {S : St} {k0 : Nat} {v1 : Int32} {ls : Array Slot} (C : Cx p rm_X5_isOrderOf s m args c RX5 cX5_isOrderOf 4 D cy base tS 0 0) (hr : meth.sig.returnType = (some .boolean)) (hk : meth.locks = false) (t0 : cls k0 = 5) (hl : lv_has ls 4 [(0, .ref (base + k0)), (1, .int v1)]) : Sim p l e rm_X5_isOrderOf s m args below meth c D cy base 0 0 (fun S1 r => MQ below (QcI D cy base tS S1 r) args s 0 0 (AA base)) (X5_isOrderOf S k0 v1) S (F0 m 0 ls []) := by
  unfold X5_isOrderOf
  refine r_aload_n (pc := 0) C dX5_isOrderOf_0 rfl (lv_at hl 0 rfl) ?_
  refine gf_X5_15 (pc := 1) C t0 dX5_isOrderOf_1 ?_
  refine r_iload_n (pc := 4) C dX5_isOrderOf_4 rfl (lv_at hl 1 rfl) ?_
  refine r_join (fun (j : St → Option (St × Int32)) => ∀ (S22 : St)  (ls : Array Slot), lv_has ls 4 [] → Sim p l e rm_X5_isOrderOf s m args below meth c D cy base 0 0 (fun S1 r => MQ below (QcI D cy base tS S1 r) args s 0 0 (AA base)) (j S22) S22 (F0 m 14 ls [])) ?_ (fun j21 hj21 => ?_)
  · intro S22 ls hl
    refine r_iconst (pc := 14) C (0 : Int32) dX5_isOrderOf_14 (by decide) ?_
    exact r_zret (pc := 15) C rfl hr hk dX5_isOrderOf_15
  refine r_icmp_ne (pc := 5) C (tgt := 14) dX5_isOrderOf_5 (by decide) (fun _ => ?_) (fun _ => ?_)
  · exact hj21 S  _ (lv_sub hl [] rfl)
  · refine r_iload_n (pc := 8) C dX5_isOrderOf_8 rfl (lv_at hl 1 rfl) ?_
    refine r_bipush (pc := 9) C (12 : Int32) dX5_isOrderOf_9 (by decide) ?_
    refine r_icmp_le (pc := 11) C (tgt := 16) dX5_isOrderOf_11 (by decide) (fun _ => ?_) (fun _ => ?_)
    · refine r_iconst (pc := 16) C (0 : Int32) dX5_isOrderOf_16 (by decide) ?_
      refine r_istore_n (lv2 := [(2, .int (0 : Int32)), (0, .ref (base + k0)), (1, .int v1)]) (pc := 17) C dX5_isOrderOf_17 rfl hl (Nat.le_of_ble_eq_true rfl) rfl (fun ls hl => ?_)
      refine r_iconst (pc := 18) C (0 : Int32) dX5_isOrderOf_18 (by decide) ?_
      refine r_istore_n (lv2 := [(3, .int (0 : Int32)), (2, .int (0 : Int32)), (0, .ref (base + k0)), (1, .int v1)]) (pc := 19) C dX5_isOrderOf_19 rfl hl (Nat.le_of_ble_eq_true rfl) rfl (fun ls hl => ?_)
      refine lp_X5_isOrderOf_20 (ls := ls) C hr hk t0 (fun S31 v32 v33 ls hl => ?_) FU S (0 : Int32) (0 : Int32) _ (lv_sub hl [2, 3, 1, 0] rfl)
      refine r_iconst (pc := 79) C (1 : Int32) dX5_isOrderOf_79 (by decide) ?_
      exact r_zret (pc := 80) C rfl hr hk dX5_isOrderOf_80
    · exact hj21 S  _ (lv_sub hl [] rfl)

theorem ct_X5_isOrderOf (l : Launch) {D : va_G} {cy : Nat → ClassId} {base tS : Nat} {S : St} {k0 : Nat} {v1 : Int32} (t0 : cls k0 = 5) {S1 : St} {r1 : Int32} (h : X5_isOrderOf S k0 v1 = some (S1, r1)) : Met l yX5_isOrderOf (wsY yX5_isOrderOf cX5_isOrderOf 4 (some .boolean)) rm_X5_isOrderOf (va_Pc [.ref (base + k0), .int v1] (World D cy base tS S)) (QcI D cy base tS S1 r1) 0 0 (AA base) := conI rfl rfl (by decide) (Nat.le_of_ble_eq_true rfl) (fun p e s m args below meth c ls C hr hk hl => sm_X5_isOrderOf C hr hk t0 hl) h
theorem cv_X10_169 {p : Program} {l : Launch} {e : Env} {R : Room} {s : State} {m : MethodId} {args : Array Value} {below : List Frame} {meth : Method} {c : Code} {D : va_G} {cy : Nat → ClassId} {base tS nc ns : Nat} {cc : ByteArray} {nL pc : Nat} {ls : Array Slot} {rest : List Value} {S : St} {ρ : Type} {Q : St → ρ → State → Prop} (C : Cx p R s m args c RX10 cc nL D cy base tS nc ns) {k0 : Nat} {v1 : Int32} (t0 : cls k0 = 5) (hl : ls.size = nL) (hR : rm_X5_isOrderOf.frames + 1 ≤ R.frames ∧ 8 + (4 + 11) + rm_X5_isOrderOf.locals ≤ R.locals) {b : St → Int32 → Option (St × ρ)} (hroom : (rest.map fun v => v.category).sum ≤ 8) (hd : decode cc pc = .ok (.invokevirtual 169, 3)) (kk : ∀ (S1 : St) (r : Int32), Sim p l e R s m args below meth c D cy base nc ns Q (b S1 r) S1 (F0 m (pc + 3) ls (.int r :: rest))) : Sim p l e R s m args below meth c D cy base nc ns Q (bd (X5_isOrderOf S k0 v1) b) S (F0 m pc ls (.int v1 :: .ref (base + k0) :: rest)) := r_callVI (n := 1) (As := [.int v1]) C hl (rd_5 t0) (cls_lt t0 (by decide)) rfl (fun S1 r1 h => ct_X5_isOrderOf l t0 h) wd_294 wd_295 wd_296 wd_292 wd_297 rfl rfl (by decide +kernel) hR rfl rfl hroom hd kk
abbrev rm_X10_manner : Room := { frames := 2, cells := 0, slots := 0, locals := 51 }
set_option maxHeartbeats 4000000 in
set_option maxRecDepth 100000 in
theorem sm_X10_manner {p : Program} {l : Launch} {e : Env} {s : State} {m : MethodId} {args : Array Value} {below : List Frame} {meth : Method} {c : Code} {D : va_G} {cy : Nat → ClassId} {base tS : Nat} {S : St} {k0 : Nat} {v1 : Int32} {v2 : Int32} {ls : Array Slot} (C : Cx p rm_X10_manner s m args c RX10 cX10_manner 4 D cy base tS 0 0) (hr : meth.sig.returnType = (some .int)) (hk : meth.locks = false) (t0 : cls k0 = 10) (hl : lv_has ls 4 [(0, .ref (base + k0)), (1, .int v1), (2, .int v2)]) : Sim p l e rm_X10_manner s m args below meth c D cy base 0 0 (fun S1 r => MQ below (QcI D cy base tS S1 r) args s 0 0 (AA base)) (X10_manner S k0 v1 v2) S (F0 m 0 ls []) := by
  unfold X10_manner
  refine r_iload_n (pc := 0) C dX10_manner_0 rfl (lv_at hl 1 rfl) ?_
  refine r_join (fun (j : St → Option (St × Int32)) => ∀ (S22 : St)  (ls : Array Slot), lv_has ls 4 [(0, .ref (base + k0))] → Sim p l e rm_X10_manner s m args below meth c D cy base 0 0 (fun S1 r => MQ below (QcI D cy base tS S1 r) args s 0 0 (AA base)) (j S22) S22 (F0 m 18 ls [])) ?_ (fun j21 hj21 => ?_)
  · intro S22 ls hl
    refine r_aload_n (pc := 18) C dX10_manner_18 rfl (lv_at hl 0 rfl) ?_
    refine r_iconst (pc := 19) C (-1 : Int32) dX10_manner_19 (by decide) ?_
    refine cv_X10_96 (pc := 20) C t0 hl.1 ⟨Nat.le_of_ble_eq_true rfl, Nat.le_of_ble_eq_true rfl⟩ (Nat.le_of_ble_eq_true rfl) dX10_manner_20 (fun S23 v24 => ?_)
    exact r_iret (pc := 23) C hr hk dX10_manner_23
  refine r_if_lt (pc := 1) C (tgt := 18) dX10_manner_1 (by decide) (fun _ => ?_) (fun _ => ?_)
  · exact hj21 S  _ (lv_sub hl [0] rfl)
  · refine r_iload_n (pc := 4) C dX10_manner_4 rfl (lv_at hl 1 rfl) ?_
    refine r_iconst (pc := 5) C (4 : Int32) dX10_manner_5 (by decide) ?_
    refine r_icmp_gt (pc := 6) C (tgt := 18) dX10_manner_6 (by decide) (fun _ => ?_) (fun _ => ?_)
    · exact hj21 S  _ (lv_sub hl [0] rfl)
    · refine r_iload_n (pc := 9) C dX10_manner_9 rfl (lv_at hl 1 rfl) ?_
      refine r_iconst (pc := 10) C (3 : Int32) dX10_manner_10 (by decide) ?_
      refine r_join (fun (j : St → Option (St × Int32)) => ∀ (S26 : St)  (ls : Array Slot), lv_has ls 4 [(0, .ref (base + k0)), (1, .int v1), (2, .int v2)] → Sim p l e rm_X10_manner s m args below meth c D cy base 0 0 (fun S1 r => MQ below (QcI D cy base tS S1 r) args s 0 0 (AA base)) (j S26) S26 (F0 m 24 ls [])) ?_ (fun j25 hj25 => ?_)
      · intro S26 ls hl
        refine r_aload_n (pc := 24) C dX10_manner_24 rfl (lv_at hl 0 rfl) ?_
        refine gf_X10_92 (pc := 25) C t0 dX10_manner_25 ?_
        refine r_if_ne (pc := 28) C (tgt := 38) dX10_manner_28 (by decide) (fun _ => ?_) (fun _ => ?_)
        · refine r_iload_n (pc := 38) C dX10_manner_38 rfl (lv_at hl 1 rfl) ?_
          refine r_iconst (pc := 39) C (2 : Int32) dX10_manner_39 (by decide) ?_
          refine r_join (fun (j : St → Option (St × Int32)) => ∀ (S28 : St)  (ls : Array Slot), lv_has ls 4 [(0, .ref (base + k0)), (1, .int v1), (2, .int v2)] → Sim p l e rm_X10_manner s m args below meth c D cy base 0 0 (fun S1 r => MQ below (QcI D cy base tS S1 r) args s 0 0 (AA base)) (j S28) S28 (F0 m 66 ls [])) ?_ (fun j27 hj27 => ?_)
          · intro S28 ls hl
            refine r_aload_n (pc := 66) C dX10_manner_66 rfl (lv_at hl 0 rfl) ?_
            refine gf_X10_33 (pc := 67) C t0 dX10_manner_67 ?_
            have t29 := ft_10_3 t0
            refine gf_X10_172 (pc := 70) C t29 dX10_manner_70 ?_
            refine r_topi (fun v30 => ?_)
            refine r_istore_n (lv2 := [(3, .int v30), (0, .ref (base + k0)), (1, .int v1), (2, .int v2)]) (pc := 73) C dX10_manner_73 rfl hl (Nat.le_of_ble_eq_true rfl) rfl (fun ls hl => ?_)
            refine r_iload_n (pc := 74) C dX10_manner_74 rfl (lv_at hl 2 rfl) ?_
            refine r_iconst (pc := 75) C (2 : Int32) dX10_manner_75 (by decide) ?_
            refine r_join (fun (j : St → Option (St × Int32)) => ∀ (S32 : St)  (ls : Array Slot), lv_has ls 4 [(0, .ref (base + k0)), (1, .int v1), (2, .int v2), (3, .int v30)] → Sim p l e rm_X10_manner s m args below meth c D cy base 0 0 (fun S1 r => MQ below (QcI D cy base tS S1 r) args s 0 0 (AA base)) (j S32) S32 (F0 m 97 ls [])) ?_ (fun j31 hj31 => ?_)
            · intro S32 ls hl
              refine r_iload_n (pc := 97) C dX10_manner_97 rfl (lv_at hl 1 rfl) ?_
              refine r_iconst (pc := 98) C (3 : Int32) dX10_manner_98 (by decide) ?_
              refine r_join (fun (j : St → Option (St × Int32)) => ∀ (S34 : St)  (ls : Array Slot), lv_has ls 4 [(0, .ref (base + k0)), (1, .int v1), (3, .int v30)] → Sim p l e rm_X10_manner s m args below meth c D cy base 0 0 (fun S1 r => MQ below (QcI D cy base tS S1 r) args s 0 0 (AA base)) (j S34) S34 (F0 m 111 ls [])) ?_ (fun j33 hj33 => ?_)
              · intro S34 ls hl
                refine r_aload_n (pc := 111) C dX10_manner_111 rfl (lv_at hl 0 rfl) ?_
                refine gf_X10_33 (pc := 112) C t0 dX10_manner_112 ?_
                have t35 := ft_10_3 t0
                refine r_iconst (pc := 115) C (0 : Int32) dX10_manner_115 (by decide) ?_
                refine pf_X10_184 (pc := 116) C t35 dX10_manner_116 (fun S36 => ?_)
                refine r_aload_n (pc := 119) C dX10_manner_119 rfl (lv_at hl 0 rfl) ?_
                refine gf_X10_33 (pc := 120) C t0 dX10_manner_120 ?_
                have t37 := ft_10_3 t0
                refine r_iload_n (pc := 123) C dX10_manner_123 rfl (lv_at hl 1 rfl) ?_
                refine pf_X10_172 (pc := 124) C t37 dX10_manner_124 (fun S38 => ?_)
                refine r_aload_n (pc := 127) C dX10_manner_127 rfl (lv_at hl 0 rfl) ?_
                refine gf_X10_40 (pc := 128) C t0 dX10_manner_128 ?_
                have t39 := ft_10_4 t0
                refine cv_X10_134 (pc := 131) C t39 hl.1 ⟨Nat.le_of_ble_eq_true rfl, Nat.le_of_ble_eq_true rfl⟩ (Nat.le_of_ble_eq_true rfl) dX10_manner_131 (fun S40 _ => ?_)
                refine r_iload_n (pc := 134) C dX10_manner_134 rfl (lv_at hl 2 rfl) ?_
                exact r_iret (pc := 135) C hr hk dX10_manner_135
              refine r_icmp_ne (pc := 99) C (tgt := 111) dX10_manner_99 (by decide) (fun _ => ?_) (fun _ => ?_)
              · exact hj33 S32  _ (lv_sub hl [0, 1, 3] rfl)
              · refine r_aload_n (pc := 102) C dX10_manner_102 rfl (lv_at hl 0 rfl) ?_
                refine gf_X10_33 (pc := 103) C t0 dX10_manner_103 ?_
                have t41 := ft_10_3 t0
                refine r_iload_n (pc := 106) C dX10_manner_106 rfl (lv_at hl 2 rfl) ?_
                refine r_i2l (pc := 107) C dX10_manner_107 ?_
                refine pf_X10_180 (pc := 108) C t41 dX10_manner_108 (fun S42 => ?_)
                exact hj33 S42  _ (lv_sub hl [0, 1, 3] rfl)
            refine r_icmp_ne (pc := 76) C (tgt := 97) dX10_manner_76 (by decide) (fun _ => ?_) (fun _ => ?_)
            · exact hj31 S28  _ (lv_sub hl [1, 2, 3, 0] rfl)
            · refine r_aload_n (pc := 79) C dX10_manner_79 rfl (lv_at hl 1 rfl) ?_
              refine gf_X10_33 (pc := 80) C t0 dX10_manner_80 ?_
              have t43 := ft_10_3 t0
              refine r_aload_n (pc := 83) C dX10_manner_83 rfl (lv_at hl 1 rfl) ?_
              refine gf_X10_84 (pc := 84) C t0 dX10_manner_84 ?_
              have t44 := ft_10_11 t0
              refine cv_X10_175 (pc := 87) C t43 t44 hl.1 ⟨Nat.le_of_ble_eq_true rfl, Nat.le_of_ble_eq_true rfl⟩ (Nat.le_of_ble_eq_true rfl) dX10_manner_87 (fun S45 _ => ?_)
              refine r_aload_n (pc := 90) C dX10_manner_90 rfl (lv_at hl 1 rfl) ?_
              refine gf_X10_84 (pc := 91) C t0 dX10_manner_91 ?_
              have t46 := ft_10_11 t0
              refine cv_X10_179 (pc := 94) C t46 hl.1 ⟨Nat.le_of_ble_eq_true rfl, Nat.le_of_ble_eq_true rfl⟩ (Nat.le_of_ble_eq_true rfl) dX10_manner_94 (fun S47 _ => ?_)
              exact hj31 S47  _ (lv_sub hl [1, 2, 3, 0] rfl)
          refine r_icmp_ne (pc := 40) C (tgt := 66) dX10_manner_40 (by decide) (fun _ => ?_) (fun _ => ?_)
          · exact hj27 S26  _ (lv_sub hl [0, 1, 2] rfl)
          · refine r_aload_n (pc := 43) C dX10_manner_43 rfl (lv_at hl 0 rfl) ?_
            refine gf_X10_84 (pc := 44) C t0 dX10_manner_44 ?_
            have t48 := ft_10_11 t0
            refine r_aload_n (pc := 47) C dX10_manner_47 rfl (lv_at hl 0 rfl) ?_
            refine gf_X10_10 (pc := 48) C t0 dX10_manner_48 ?_
            have t49 := ft_10_0 t0
            refine gf_X10_100 (pc := 51) C t49 dX10_manner_51 ?_
            refine cv_X10_169 (pc := 54) C t48 hl.1 ⟨Nat.le_of_ble_eq_true rfl, Nat.le_of_ble_eq_true rfl⟩ (Nat.le_of_ble_eq_true rfl) dX10_manner_54 (fun S50 v51 => ?_)
            refine r_if_ne (pc := 57) C (tgt := 66) dX10_manner_57 (by decide) (fun _ => ?_) (fun _ => ?_)
            · exact hj27 S50  _ (lv_sub hl [0, 1, 2] rfl)
            · refine r_aload_n (pc := 60) C dX10_manner_60 rfl (lv_at hl 0 rfl) ?_
              refine r_iconst (pc := 61) C (-1 : Int32) dX10_manner_61 (by decide) ?_
              refine cv_X10_96 (pc := 62) C t0 hl.1 ⟨Nat.le_of_ble_eq_true rfl, Nat.le_of_ble_eq_true rfl⟩ (Nat.le_of_ble_eq_true rfl) dX10_manner_62 (fun S52 v53 => ?_)
              exact r_iret (pc := 65) C hr hk dX10_manner_65
        · refine r_aload_n (pc := 31) C dX10_manner_31 rfl (lv_at hl 0 rfl) ?_
          refine r_bipush (pc := 32) C (-8 : Int32) dX10_manner_32 (by decide) ?_
          refine cv_X10_96 (pc := 34) C t0 hl.1 ⟨Nat.le_of_ble_eq_true rfl, Nat.le_of_ble_eq_true rfl⟩ (Nat.le_of_ble_eq_true rfl) dX10_manner_34 (fun S54 v55 => ?_)
          exact r_iret (pc := 37) C hr hk dX10_manner_37
      refine r_icmp_ne (pc := 11) C (tgt := 24) dX10_manner_11 (by decide) (fun _ => ?_) (fun _ => ?_)
      · exact hj25 S  _ (lv_sub hl [0, 1, 2] rfl)
      · refine r_iload_n (pc := 14) C dX10_manner_14 rfl (lv_at hl 2 rfl) ?_
        refine r_if_ge (pc := 15) C (tgt := 24) dX10_manner_15 (by decide) (fun _ => ?_) (fun _ => ?_)
        · exact hj25 S  _ (lv_sub hl [0, 1, 2] rfl)
        · exact hj21 S  _ (lv_sub hl [0] rfl)

theorem ct_X10_manner (l : Launch) {D : va_G} {cy : Nat → ClassId} {base tS : Nat} {S : St} {k0 : Nat} {v1 : Int32} {v2 : Int32} (t0 : cls k0 = 10) {S1 : St} {r1 : Int32} (h : X10_manner S k0 v1 v2 = some (S1, r1)) : Met l yX10_manner (wsY yX10_manner cX10_manner 4 (some .int)) rm_X10_manner (va_Pc [.ref (base + k0), .int v1, .int v2] (World D cy base tS S)) (QcI D cy base tS S1 r1) 0 0 (AA base) := conI rfl rfl (by decide) (Nat.le_of_ble_eq_true rfl) (fun p e s m args below meth c ls C hr hk hl => sm_X10_manner C hr hk t0 hl) h
abbrev rm_X0_askAll : Room := { frames := 0, cells := 0, slots := 0, locals := 0 }
set_option maxHeartbeats 4000000 in
set_option maxRecDepth 100000 in
theorem lp_X0_askAll_2 {p : Program} {l : Launch} {e : Env} {s : State} {m : MethodId} {args : Array Value} {below : List Frame} {meth : Method} {c : Code} {D : va_G} {cy : Nat → ClassId} {base tS : Nat} {ls : Array Slot} (C : Cx p rm_X0_askAll s m args c RX0 cX0_askAll 2 D cy base tS 0 0) (hr : meth.sig.returnType = none) (hk : meth.locks = false) {k0 : Nat} (t0 : cls k0 = 0) {K : St → Int32 → Option (St × Unit)} (hK : ∀ (S : St) (v1 : Int32) (ls : Array Slot), lv_has ls 2 [(0, .ref (base + k0)), (1, .int v1)] → Sim p l e rm_X0_askAll s m args below meth c D cy base 0 0 (fun S1 r => MQ below (QcV D cy base tS S1 r) args s 0 0 (AA base)) (K S v1) S (F0 m 26 ls [])) : ∀ (n : Nat) (S : St) (v1 : Int32) (ls : Array Slot), lv_has ls 2 [(0, .ref (base + k0)), (1, .int v1)] → Sim p l e rm_X0_askAll s m args below meth c D cy base 0 0 (fun S1 r => MQ below (QcV D cy base tS S1 r) args s 0 0 (AA base)) (X0_askAll_2 k0 K n S v1) S (F0 m 2 ls []) := by
  intro n
  induction n with
  | zero => intro S v1 ls hl; exact Sim.none
  | succ n ih =>
    intro S v1 ls hl
    rw [X0_askAll_2]
    refine r_iload_n (pc := 2) C dX0_askAll_2 rfl (lv_at hl 1 rfl) ?_
    refine r_aload_n (pc := 3) C dX0_askAll_3 rfl (lv_at hl 0 rfl) ?_
    refine gf_X0_26 (pc := 4) C t0 dX0_askAll_4 ?_
    have t21 := ft_0_0 t0
    refine gf_X0_70 (pc := 7) C t21 dX0_askAll_7 ?_
    refine r_icmp_ge (pc := 10) C (tgt := 26) dX0_askAll_10 (by decide) (fun _ => ?_) (fun _ => ?_)
    · exact hK S v1 _ (lv_sub hl [0, 1] rfl)
    · refine r_aload_n (pc := 13) C dX0_askAll_13 rfl (lv_at hl 0 rfl) ?_
      refine gf_X0_15 (pc := 14) C t0 dX0_askAll_14 ?_
      have t22 := ft_0_3 t0
      refine r_iload_n (pc := 17) C dX0_askAll_17 rfl (lv_at hl 1 rfl) ?_
      refine r_iload_n (pc := 18) C dX0_askAll_18 rfl (lv_at hl 1 rfl) ?_
      refine r_iast (pc := 19) C t22 dX0_askAll_19 (fun S23 => ?_)
      refine r_iinc (pc := 20) C (k := 1) (1 : Int32) (fun v24 => [(1, .int v24), (0, .ref (base + k0))]) dX0_askAll_20 hl rfl (by decide) (Nat.le_of_ble_eq_true rfl) (fun _ => rfl) (fun v24 ls hl => ?_)
      refine r_goto (pc := 23) C (tgt := 2) dX0_askAll_23 (by decide) ?_
      exact ih S23 v24 _ (lv_sub hl [1, 0] rfl)

set_option maxHeartbeats 4000000 in
set_option maxRecDepth 100000 in
theorem sm_X0_askAll {p : Program} {l : Launch} {e : Env} {s : State} {m : MethodId} {args : Array Value} {below : List Frame} {meth : Method} {c : Code} {D : va_G} {cy : Nat → ClassId} {base tS : Nat} {S : St} {k0 : Nat} {ls : Array Slot} (C : Cx p rm_X0_askAll s m args c RX0 cX0_askAll 2 D cy base tS 0 0) (hr : meth.sig.returnType = none) (hk : meth.locks = false) (t0 : cls k0 = 0) (hl : lv_has ls 2 [(0, .ref (base + k0))]) : Sim p l e rm_X0_askAll s m args below meth c D cy base 0 0 (fun S1 r => MQ below (QcV D cy base tS S1 r) args s 0 0 (AA base)) (X0_askAll S k0) S (F0 m 0 ls []) := by
  unfold X0_askAll
  refine r_iconst (pc := 0) C (0 : Int32) dX0_askAll_0 (by decide) ?_
  refine r_istore_n (lv2 := [(1, .int (0 : Int32)), (0, .ref (base + k0))]) (pc := 1) C dX0_askAll_1 rfl hl (Nat.le_of_ble_eq_true rfl) rfl (fun ls hl => ?_)
  refine lp_X0_askAll_2 (ls := ls) C hr hk t0 (fun S25 v26 ls hl => ?_) FU S (0 : Int32) _ (lv_sub hl [1, 0] rfl)
  refine r_aload_n (pc := 26) C dX0_askAll_26 rfl (lv_at hl 0 rfl) ?_
  refine r_aload_n (pc := 27) C dX0_askAll_27 rfl (lv_at hl 0 rfl) ?_
  refine gf_X0_26 (pc := 28) C t0 dX0_askAll_28 ?_
  have t27 := ft_0_0 t0
  refine gf_X0_70 (pc := 31) C t27 dX0_askAll_31 ?_
  refine pf_X0_34 (pc := 34) C t0 dX0_askAll_34 (fun S28 => ?_)
  exact r_vret (pc := 37) C hr hk dX0_askAll_37

theorem ct_X0_askAll (l : Launch) {D : va_G} {cy : Nat → ClassId} {base tS : Nat} {S : St} {k0 : Nat} (t0 : cls k0 = 0) {S1 : St} {r1 : Unit} (h : X0_askAll S k0 = some (S1, r1)) : Met l yX0_askAll (wsY yX0_askAll cX0_askAll 2 none) rm_X0_askAll (va_Pc [.ref (base + k0)] (World D cy base tS S)) (QcV D cy base tS S1 r1) 0 0 (AA base) := conV rfl rfl (by decide) (Nat.le_of_ble_eq_true rfl) (fun p e s m args below meth c ls C hr hk hl => sm_X0_askAll C hr hk t0 hl) h
theorem cv_X0_87 {p : Program} {l : Launch} {e : Env} {R : Room} {s : State} {m : MethodId} {args : Array Value} {below : List Frame} {meth : Method} {c : Code} {D : va_G} {cy : Nat → ClassId} {base tS nc ns : Nat} {cc : ByteArray} {nL pc : Nat} {ls : Array Slot} {rest : List Value} {S : St} {ρ : Type} {Q : St → ρ → State → Prop} (C : Cx p R s m args c RX0 cc nL D cy base tS nc ns) {k0 : Nat} (t0 : cls k0 = 0) (hl : ls.size = nL) (hR : rm_X0_askAll.frames + 1 ≤ R.frames ∧ 8 + (2 + 11) + rm_X0_askAll.locals ≤ R.locals) {b : St → Unit → Option (St × ρ)} (hroom : (rest.map fun v => v.category).sum ≤ 8) (hd : decode cc pc = .ok (.invokevirtual 87, 3)) (kk : ∀ (S1 : St) (r : Unit), Sim p l e R s m args below meth c D cy base nc ns Q (b S1 r) S1 (F0 m (pc + 3) ls (rest))) : Sim p l e R s m args below meth c D cy base nc ns Q (bd (X0_askAll S k0) b) S (F0 m pc ls (.ref (base + k0) :: rest)) := r_callVV (n := 0) (As := []) C hl (rd_0 t0) (cls_lt t0 (by decide)) rfl (fun S1 r1 h => ct_X0_askAll l t0 h) wd_298 wd_299 wd_300 wd_221 wd_301 rfl rfl (by decide +kernel) hR rfl rfl hroom hd kk
abbrev rm_X0_takeFirst : Room := { frames := 1, cells := 0, slots := 0, locals := 21 }
set_option maxHeartbeats 4000000 in
set_option maxRecDepth 100000 in
theorem lp_X0_takeFirst_9 {p : Program} {l : Launch} {e : Env} {s : State} {m : MethodId} {args : Array Value} {below : List Frame} {meth : Method} {c : Code} {D : va_G} {cy : Nat → ClassId} {base tS : Nat} {ls : Array Slot} (C : Cx p rm_X0_takeFirst s m args c RX0 cX0_takeFirst 3 D cy base tS 0 0) (hr : meth.sig.returnType = (some .int)) (hk : meth.locks = false) {k0 : Nat} {v1 : Int32} (t0 : cls k0 = 0) {K : St → Int32 → Option (St × Int32)} (hK : ∀ (S : St) (v2 : Int32) (ls : Array Slot), lv_has ls 3 [(0, .ref (base + k0)), (1, .int v1), (2, .int v2)] → Sim p l e rm_X0_takeFirst s m args below meth c D cy base 0 0 (fun S1 r => MQ below (QcI D cy base tS S1 r) args s 0 0 (AA base)) (K S v2) S (F0 m 37 ls [])) : ∀ (n : Nat) (S : St) (v2 : Int32) (ls : Array Slot), lv_has ls 3 [(0, .ref (base + k0)), (1, .int v1), (2, .int v2)] → Sim p l e rm_X0_takeFirst s m args below meth c D cy base 0 0 (fun S1 r => MQ below (QcI D cy base tS S1 r) args s 0 0 (AA base)) (X0_takeFirst_9 k0 v1 K n S v2) S (F0 m 9 ls []) := by
  intro n
  induction n with
  | zero => intro S v2 ls hl; exact Sim.none
  | succ n ih =>
    intro S v2 ls hl
    rw [X0_takeFirst_9]
    refine r_iload_n (pc := 9) C dX0_takeFirst_9 rfl (lv_at hl 2 rfl) ?_
    refine r_aload_n (pc := 10) C dX0_takeFirst_10 rfl (lv_at hl 0 rfl) ?_
    refine gf_X0_34 (pc := 11) C t0 dX0_takeFirst_11 ?_
    refine r_icmp_ge (pc := 14) C (tgt := 37) dX0_takeFirst_14 (by decide) (fun _ => ?_) (fun _ => ?_)
    · exact hK S v2 _ (lv_sub hl [0, 1, 2] rfl)
    · refine r_aload_n (pc := 17) C dX0_takeFirst_17 rfl (lv_at hl 0 rfl) ?_
      refine gf_X0_15 (pc := 18) C t0 dX0_takeFirst_18 ?_
      have t23 := ft_0_3 t0
      refine r_iload_n (pc := 21) C dX0_takeFirst_21 rfl (lv_at hl 2 rfl) ?_
      refine r_iconst (pc := 22) C (1 : Int32) dX0_takeFirst_22 (by decide) ?_
      refine r_isub (pc := 23) C dX0_takeFirst_23 ?_
      refine r_aload_n (pc := 24) C dX0_takeFirst_24 rfl (lv_at hl 0 rfl) ?_
      refine gf_X0_15 (pc := 25) C t0 dX0_takeFirst_25 ?_
      have t24 := ft_0_3 t0
      refine r_iload_n (pc := 28) C dX0_takeFirst_28 rfl (lv_at hl 2 rfl) ?_
      refine r_iald (pc := 29) C t24 dX0_takeFirst_29 ?_
      refine r_iast (pc := 30) C t23 dX0_takeFirst_30 (fun S25 => ?_)
      refine r_iinc (pc := 31) C (k := 2) (1 : Int32) (fun v26 => [(2, .int v26), (0, .ref (base + k0)), (1, .int v1)]) dX0_takeFirst_31 hl rfl (by decide) (Nat.le_of_ble_eq_true rfl) (fun _ => rfl) (fun v26 ls hl => ?_)
      refine r_goto (pc := 34) C (tgt := 9) dX0_takeFirst_34 (by decide) ?_
      exact ih S25 v26 _ (lv_sub hl [1, 2, 0] rfl)

set_option maxHeartbeats 4000000 in
set_option maxRecDepth 100000 in
theorem sm_X0_takeFirst {p : Program} {l : Launch} {e : Env} {s : State} {m : MethodId} {args : Array Value} {below : List Frame} {meth : Method} {c : Code} {D : va_G} {cy : Nat → ClassId} {base tS : Nat} {S : St} {k0 : Nat} {ls : Array Slot} (C : Cx p rm_X0_takeFirst s m args c RX0 cX0_takeFirst 3 D cy base tS 0 0) (hr : meth.sig.returnType = (some .int)) (hk : meth.locks = false) (t0 : cls k0 = 0) (hl : lv_has ls 3 [(0, .ref (base + k0))]) : Sim p l e rm_X0_takeFirst s m args below meth c D cy base 0 0 (fun S1 r => MQ below (QcI D cy base tS S1 r) args s 0 0 (AA base)) (X0_takeFirst S k0) S (F0 m 0 ls []) := by
  unfold X0_takeFirst
  refine r_aload_n (pc := 0) C dX0_takeFirst_0 rfl (lv_at hl 0 rfl) ?_
  refine gf_X0_15 (pc := 1) C t0 dX0_takeFirst_1 ?_
  have t21 := ft_0_3 t0
  refine r_iconst (pc := 4) C (0 : Int32) dX0_takeFirst_4 (by decide) ?_
  refine r_iald (pc := 5) C t21 dX0_takeFirst_5 ?_
  refine r_topi (fun v22 => ?_)
  refine r_istore_n (lv2 := [(1, .int v22), (0, .ref (base + k0))]) (pc := 6) C dX0_takeFirst_6 rfl hl (Nat.le_of_ble_eq_true rfl) rfl (fun ls hl => ?_)
  refine r_iconst (pc := 7) C (1 : Int32) dX0_takeFirst_7 (by decide) ?_
  refine r_istore_n (lv2 := [(2, .int (1 : Int32)), (1, .int v22), (0, .ref (base + k0))]) (pc := 8) C dX0_takeFirst_8 rfl hl (Nat.le_of_ble_eq_true rfl) rfl (fun ls hl => ?_)
  refine lp_X0_takeFirst_9 (ls := ls) C hr hk t0 (fun S27 v28 ls hl => ?_) FU S (1 : Int32) _ (lv_sub hl [2, 1, 0] rfl)
  refine r_aload_n (pc := 37) C dX0_takeFirst_37 rfl (lv_at hl 0 rfl) ?_
  refine r_iconst (pc := 38) C (0 : Int32) dX0_takeFirst_38 (by decide) ?_
  refine r_aload_n (pc := 39) C dX0_takeFirst_39 rfl (lv_at hl 0 rfl) ?_
  refine gf_X0_34 (pc := 40) C t0 dX0_takeFirst_40 ?_
  refine r_iconst (pc := 43) C (1 : Int32) dX0_takeFirst_43 (by decide) ?_
  refine r_isub (pc := 44) C dX0_takeFirst_44 ?_
  refine r_max (pc := 45) C hl.1 wd_101 wd_102 wd_103 wd_104 (Nat.le_of_ble_eq_true rfl) (Nat.le_of_ble_eq_true rfl) dX0_takeFirst_45 ?_
  refine pf_X0_34 (pc := 48) C t0 dX0_takeFirst_48 (fun S29 => ?_)
  refine r_iload_n (pc := 51) C dX0_takeFirst_51 rfl (lv_at hl 1 rfl) ?_
  exact r_iret (pc := 52) C hr hk dX0_takeFirst_52

theorem ct_X0_takeFirst (l : Launch) {D : va_G} {cy : Nat → ClassId} {base tS : Nat} {S : St} {k0 : Nat} (t0 : cls k0 = 0) {S1 : St} {r1 : Int32} (h : X0_takeFirst S k0 = some (S1, r1)) : Met l yX0_takeFirst (wsY yX0_takeFirst cX0_takeFirst 3 (some .int)) rm_X0_takeFirst (va_Pc [.ref (base + k0)] (World D cy base tS S)) (QcI D cy base tS S1 r1) 0 0 (AA base) := conI rfl rfl (by decide) (Nat.le_of_ble_eq_true rfl) (fun p e s m args below meth c ls C hr hk hl => sm_X0_takeFirst C hr hk t0 hl) h
theorem cv_X0_90 {p : Program} {l : Launch} {e : Env} {R : Room} {s : State} {m : MethodId} {args : Array Value} {below : List Frame} {meth : Method} {c : Code} {D : va_G} {cy : Nat → ClassId} {base tS nc ns : Nat} {cc : ByteArray} {nL pc : Nat} {ls : Array Slot} {rest : List Value} {S : St} {ρ : Type} {Q : St → ρ → State → Prop} (C : Cx p R s m args c RX0 cc nL D cy base tS nc ns) {k0 : Nat} (t0 : cls k0 = 0) (hl : ls.size = nL) (hR : rm_X0_takeFirst.frames + 1 ≤ R.frames ∧ 8 + (3 + 11) + rm_X0_takeFirst.locals ≤ R.locals) {b : St → Int32 → Option (St × ρ)} (hroom : (rest.map fun v => v.category).sum ≤ 8) (hd : decode cc pc = .ok (.invokevirtual 90, 3)) (kk : ∀ (S1 : St) (r : Int32), Sim p l e R s m args below meth c D cy base nc ns Q (b S1 r) S1 (F0 m (pc + 3) ls (.int r :: rest))) : Sim p l e R s m args below meth c D cy base nc ns Q (bd (X0_takeFirst S k0) b) S (F0 m pc ls (.ref (base + k0) :: rest)) := r_callVI (n := 0) (As := []) C hl (rd_0 t0) (cls_lt t0 (by decide)) rfl (fun S1 r1 h => ct_X0_takeFirst l t0 h) wd_302 wd_303 wd_304 wd_221 wd_305 rfl rfl (by decide +kernel) hR rfl rfl hroom hd kk
abbrev rm_X0_askOn : Room := { frames := 2, cells := 0, slots := 0, locals := 43 }
set_option maxHeartbeats 4000000 in
set_option maxRecDepth 100000 in
theorem lp_X0_askOn_2 {p : Program} {l : Launch} {e : Env} {s : State} {m : MethodId} {args : Array Value} {below : List Frame} {meth : Method} {c : Code} {D : va_G} {cy : Nat → ClassId} {base tS : Nat} {ls : Array Slot} (C : Cx p rm_X0_askOn s m args c RX0 cX0_askOn 3 D cy base tS 0 0) (hr : meth.sig.returnType = (some .int)) (hk : meth.locks = false) {k0 : Nat} (t0 : cls k0 = 0) {K : St → Int32 → Option (St × Int32)} (hK : ∀ (S : St) (v1 : Int32) (ls : Array Slot), lv_has ls 3 [(0, .ref (base + k0)), (1, .int v1)] → Sim p l e rm_X0_askOn s m args below meth c D cy base 0 0 (fun S1 r => MQ below (QcI D cy base tS S1 r) args s 0 0 (AA base)) (K S v1) S (F0 m 43 ls [])) : ∀ (n : Nat) (S : St) (v1 : Int32) (ls : Array Slot), lv_has ls 3 [(0, .ref (base + k0)), (1, .int v1)] → Sim p l e rm_X0_askOn s m args below meth c D cy base 0 0 (fun S1 r => MQ below (QcI D cy base tS S1 r) args s 0 0 (AA base)) (X0_askOn_2 k0 K n S v1) S (F0 m 2 ls []) := by
  intro n
  induction n with
  | zero => intro S v1 ls hl; exact Sim.none
  | succ n ih =>
    intro S v1 ls hl
    rw [X0_askOn_2]
    refine r_iload_n (pc := 2) C dX0_askOn_2 rfl (lv_at hl 1 rfl) ?_
    refine r_bipush (pc := 3) C (24 : Int32) dX0_askOn_3 (by decide) ?_
    refine r_icmp_ge (pc := 5) C (tgt := 43) dX0_askOn_5 (by decide) (fun _ => ?_) (fun _ => ?_)
    · exact hK S v1 _ (lv_sub hl [0, 1] rfl)
    · refine r_aload_n (pc := 8) C dX0_askOn_8 rfl (lv_at hl 0 rfl) ?_
      refine gf_X0_34 (pc := 9) C t0 dX0_askOn_9 ?_
      refine r_join (fun (j : St → Option (St × Int32)) => ∀ (S22 : St)  (ls : Array Slot), lv_has ls 3 [(0, .ref (base + k0)), (1, .int v1)] → Sim p l e rm_X0_askOn s m args below meth c D cy base 0 0 (fun S1 r => MQ below (QcI D cy base tS S1 r) args s 0 0 (AA base)) (j S22) S22 (F0 m 19 ls [])) ?_ (fun j21 hj21 => ?_)
      · intro S22 ls hl
        refine r_aload_n (pc := 19) C dX0_askOn_19 rfl (lv_at hl 0 rfl) ?_
        refine cv_X0_90 (pc := 20) C t0 hl.1 ⟨Nat.le_of_ble_eq_true rfl, Nat.le_of_ble_eq_true rfl⟩ (Nat.le_of_ble_eq_true rfl) dX0_askOn_20 (fun S23 v24 => ?_)
        refine r_istore_n (lv2 := [(2, .int v24), (0, .ref (base + k0)), (1, .int v1)]) (pc := 23) C dX0_askOn_23 rfl hl (Nat.le_of_ble_eq_true rfl) rfl (fun ls hl => ?_)
        refine r_aload_n (pc := 24) C dX0_askOn_24 rfl (lv_at hl 1 rfl) ?_
        refine gf_X0_30 (pc := 25) C t0 dX0_askOn_25 ?_
        have t25 := ft_0_1 t0
        refine r_iload_n (pc := 28) C dX0_askOn_28 rfl (lv_at hl 0 rfl) ?_
        refine cv_X0_75 (pc := 29) C t25 hl.1 ⟨Nat.le_of_ble_eq_true rfl, Nat.le_of_ble_eq_true rfl⟩ (Nat.le_of_ble_eq_true rfl) dX0_askOn_29 (fun S26 v27 => ?_)
        refine r_if_eq (pc := 32) C (tgt := 37) dX0_askOn_32 (by decide) (fun _ => ?_) (fun _ => ?_)
        · refine r_iinc (pc := 37) C (k := 2) (1 : Int32) (fun v28 => [(1, .int v28), (2, .int v24), (0, .ref (base + k0))]) dX0_askOn_37 hl rfl (by decide) (Nat.le_of_ble_eq_true rfl) (fun _ => rfl) (fun v28 ls hl => ?_)
          refine r_goto (pc := 40) C (tgt := 2) dX0_askOn_40 (by decide) ?_
          exact ih S26 v28 _ (lv_sub hl [2, 0] rfl)
        · refine r_iload_n (pc := 35) C dX0_askOn_35 rfl (lv_at hl 0 rfl) ?_
          exact r_iret (pc := 36) C hr hk dX0_askOn_36
      refine r_if_ne (pc := 12) C (tgt := 19) dX0_askOn_12 (by decide) (fun _ => ?_) (fun _ => ?_)
      · exact hj21 S  _ (lv_sub hl [0, 1] rfl)
      · refine r_aload_n (pc := 15) C dX0_askOn_15 rfl (lv_at hl 0 rfl) ?_
        refine cv_X0_87 (pc := 16) C t0 hl.1 ⟨Nat.le_of_ble_eq_true rfl, Nat.le_of_ble_eq_true rfl⟩ (Nat.le_of_ble_eq_true rfl) dX0_askOn_16 (fun S29 _ => ?_)
        exact hj21 S29  _ (lv_sub hl [0, 1] rfl)

set_option maxHeartbeats 4000000 in
set_option maxRecDepth 100000 in
theorem sm_X0_askOn {p : Program} {l : Launch} {e : Env} {s : State} {m : MethodId} {args : Array Value} {below : List Frame} {meth : Method} {c : Code} {D : va_G} {cy : Nat → ClassId} {base tS : Nat} {S : St} {k0 : Nat} {ls : Array Slot} (C : Cx p rm_X0_askOn s m args c RX0 cX0_askOn 3 D cy base tS 0 0) (hr : meth.sig.returnType = (some .int)) (hk : meth.locks = false) (t0 : cls k0 = 0) (hl : lv_has ls 3 [(0, .ref (base + k0))]) : Sim p l e rm_X0_askOn s m args below meth c D cy base 0 0 (fun S1 r => MQ below (QcI D cy base tS S1 r) args s 0 0 (AA base)) (X0_askOn S k0) S (F0 m 0 ls []) := by
  unfold X0_askOn
  refine r_iconst (pc := 0) C (0 : Int32) dX0_askOn_0 (by decide) ?_
  refine r_istore_n (lv2 := [(1, .int (0 : Int32)), (0, .ref (base + k0))]) (pc := 1) C dX0_askOn_1 rfl hl (Nat.le_of_ble_eq_true rfl) rfl (fun ls hl => ?_)
  refine lp_X0_askOn_2 (ls := ls) C hr hk t0 (fun S30 v31 ls hl => ?_) FU S (0 : Int32) _ (lv_sub hl [1, 0] rfl)
  refine r_iconst (pc := 43) C (-1 : Int32) dX0_askOn_43 (by decide) ?_
  exact r_iret (pc := 44) C hr hk dX0_askOn_44

theorem ct_X0_askOn (l : Launch) {D : va_G} {cy : Nat → ClassId} {base tS : Nat} {S : St} {k0 : Nat} (t0 : cls k0 = 0) {S1 : St} {r1 : Int32} (h : X0_askOn S k0 = some (S1, r1)) : Met l yX0_askOn (wsY yX0_askOn cX0_askOn 3 (some .int)) rm_X0_askOn (va_Pc [.ref (base + k0)] (World D cy base tS S)) (QcI D cy base tS S1 r1) 0 0 (AA base) := conI rfl rfl (by decide) (Nat.le_of_ble_eq_true rfl) (fun p e s m args below meth c ls C hr hk hl => sm_X0_askOn C hr hk t0 hl) h
theorem cv_X0_64 {p : Program} {l : Launch} {e : Env} {R : Room} {s : State} {m : MethodId} {args : Array Value} {below : List Frame} {meth : Method} {c : Code} {D : va_G} {cy : Nat → ClassId} {base tS nc ns : Nat} {cc : ByteArray} {nL pc : Nat} {ls : Array Slot} {rest : List Value} {S : St} {ρ : Type} {Q : St → ρ → State → Prop} (C : Cx p R s m args c RX0 cc nL D cy base tS nc ns) {k0 : Nat} (t0 : cls k0 = 0) (hl : ls.size = nL) (hR : rm_X0_askOn.frames + 1 ≤ R.frames ∧ 8 + (3 + 11) + rm_X0_askOn.locals ≤ R.locals) {b : St → Int32 → Option (St × ρ)} (hroom : (rest.map fun v => v.category).sum ≤ 8) (hd : decode cc pc = .ok (.invokevirtual 64, 3)) (kk : ∀ (S1 : St) (r : Int32), Sim p l e R s m args below meth c D cy base nc ns Q (b S1 r) S1 (F0 m (pc + 3) ls (.int r :: rest))) : Sim p l e R s m args below meth c D cy base nc ns Q (bd (X0_askOn S k0) b) S (F0 m pc ls (.ref (base + k0) :: rest)) := r_callVI (n := 0) (As := []) C hl (rd_0 t0) (cls_lt t0 (by decide)) rfl (fun S1 r1 h => ct_X0_askOn l t0 h) wd_306 wd_307 wd_308 wd_221 wd_309 rfl rfl (by decide +kernel) hR rfl rfl hroom hd kk
abbrev rm_X0_drawLot : Room := { frames := 1, cells := 0, slots := 0, locals := 22 }
set_option maxHeartbeats 4000000 in
set_option maxRecDepth 100000 in
theorem lp_X0_drawLot_43 {p : Program} {l : Launch} {e : Env} {s : State} {m : MethodId} {args : Array Value} {below : List Frame} {meth : Method} {c : Code} {D : va_G} {cy : Nat → ClassId} {base tS : Nat} {ls : Array Slot} (C : Cx p rm_X0_drawLot s m args c RX0 cX0_drawLot 5 D cy base tS 0 0) (hr : meth.sig.returnType = (some .int)) (hk : meth.locks = false) {k0 : Nat} (t0 : cls k0 = 0) {K : St → Int64 → Int32 → Option (St × Int32)} (hK : ∀ (S : St) (v2 : Int64) (v4 : Int32) (ls : Array Slot), lv_has ls 5 [(0, .ref (base + k0)), (2, .long v2), (4, .int v4)] → Sim p l e rm_X0_drawLot s m args below meth c D cy base 0 0 (fun S1 r => MQ below (QcI D cy base tS S1 r) args s 0 0 (AA base)) (K S v2 v4) S (F0 m 86 ls [])) : ∀ (n : Nat) (S : St) (v2 : Int64) (v4 : Int32) (ls : Array Slot), lv_has ls 5 [(0, .ref (base + k0)), (2, .long v2), (4, .int v4)] → Sim p l e rm_X0_drawLot s m args below meth c D cy base 0 0 (fun S1 r => MQ below (QcI D cy base tS S1 r) args s 0 0 (AA base)) (X0_drawLot_43 k0 K n S v2 v4) S (F0 m 43 ls []) := by
  intro n
  induction n with
  | zero => intro S v2 v4 ls hl; exact Sim.none
  | succ n ih =>
    intro S v2 v4 ls hl
    rw [X0_drawLot_43]
    refine r_iload (pc := 43) C dX0_drawLot_43 (lv_at hl 2 rfl) ?_
    refine r_aload_n (pc := 45) C dX0_drawLot_45 rfl (lv_at hl 0 rfl) ?_
    refine gf_X0_26 (pc := 46) C t0 dX0_drawLot_46 ?_
    have t25 := ft_0_0 t0
    refine gf_X0_70 (pc := 49) C t25 dX0_drawLot_49 ?_
    refine r_icmp_ge (pc := 52) C (tgt := 86) dX0_drawLot_52 (by decide) (fun _ => ?_) (fun _ => ?_)
    · exact hK S v2 v4 _ (lv_sub hl [0, 1, 2] rfl)
    · refine r_aload_n (pc := 55) C dX0_drawLot_55 rfl (lv_at hl 0 rfl) ?_
      refine gf_X0_30 (pc := 56) C t0 dX0_drawLot_56 ?_
      have t26 := ft_0_1 t0
      refine r_iload (pc := 59) C dX0_drawLot_59 (lv_at hl 2 rfl) ?_
      refine cv_X0_75 (pc := 61) C t26 hl.1 ⟨Nat.le_of_ble_eq_true rfl, Nat.le_of_ble_eq_true rfl⟩ (Nat.le_of_ble_eq_true rfl) dX0_drawLot_61 (fun S27 v28 => ?_)
      refine r_join (fun (j : St → Int64 → Option (St × Int32)) => ∀ (S30 : St) (v31 : Int64) (ls : Array Slot), lv_has ls 5 [(0, .ref (base + k0)), (2, .long v31), (4, .int v4)] → Sim p l e rm_X0_drawLot s m args below meth c D cy base 0 0 (fun S1 r => MQ below (QcI D cy base tS S1 r) args s 0 0 (AA base)) (j S30 v31) S30 (F0 m 80 ls [])) ?_ (fun j29 hj29 => ?_)
      · intro S30 v31 ls hl
        refine r_iinc (pc := 80) C (k := 2) (1 : Int32) (fun v32 => [(4, .int v32), (0, .ref (base + k0)), (2, .long v31)]) dX0_drawLot_80 hl rfl (by decide) (Nat.le_of_ble_eq_true rfl) (fun _ => rfl) (fun v32 ls hl => ?_)
        refine r_goto (pc := 83) C (tgt := 43) dX0_drawLot_83 (by decide) ?_
        exact ih S30 v31 v32 _ (lv_sub hl [1, 2, 0] rfl)
      refine r_if_eq (pc := 64) C (tgt := 80) dX0_drawLot_64 (by decide) (fun _ => ?_) (fun _ => ?_)
      · exact hj29 S27 v2 _ (lv_sub hl [0, 1, 2] rfl)
      · refine r_lload_n (pc := 67) C dX0_drawLot_67 rfl (lv_at hl 1 rfl) ?_
        refine r_lconst (pc := 68) C (0 : Int64) dX0_drawLot_68 (by decide) ?_
        refine r_lcmp_ne (pc := 69) C (tgt := 76) dX0_drawLot_69 dX0_drawLot_70 (by decide) (fun _ => ?_) (fun _ => ?_)
        · refine r_lload_n (pc := 76) C dX0_drawLot_76 rfl (lv_at hl 1 rfl) ?_
          refine r_lconst (pc := 77) C (1 : Int64) dX0_drawLot_77 (by decide) ?_
          refine r_lsub (pc := 78) C dX0_drawLot_78 ?_
          refine r_topl (fun v33 => ?_)
          refine r_lstore_n (lv2 := [(2, .long v33), (0, .ref (base + k0)), (4, .int v4)]) (pc := 79) C dX0_drawLot_79 rfl hl (Nat.le_of_ble_eq_true rfl) rfl (fun ls hl => ?_)
          exact hj29 S27 v33 _ (lv_sub hl [1, 0, 2] rfl)
        · refine r_iload (pc := 73) C dX0_drawLot_73 (lv_at hl 2 rfl) ?_
          exact r_iret (pc := 75) C hr hk dX0_drawLot_75

set_option maxHeartbeats 4000000 in
set_option maxRecDepth 100000 in
theorem sm_X0_drawLot {p : Program} {l : Launch} {e : Env} {s : State} {m : MethodId} {args : Array Value} {below : List Frame} {meth : Method} {c : Code} {D : va_G} {cy : Nat → ClassId} {base tS : Nat} {S : St} {k0 : Nat} {v1 : Int32} {ls : Array Slot} (C : Cx p rm_X0_drawLot s m args c RX0 cX0_drawLot 5 D cy base tS 0 0) (hr : meth.sig.returnType = (some .int)) (hk : meth.locks = false) (t0 : cls k0 = 0) (hl : lv_has ls 5 [(0, .ref (base + k0)), (1, .int v1)]) : Sim p l e rm_X0_drawLot s m args below meth c D cy base 0 0 (fun S1 r => MQ below (QcI D cy base tS S1 r) args s 0 0 (AA base)) (X0_drawLot S k0 v1) S (F0 m 0 ls []) := by
  unfold X0_drawLot
  refine r_aload_n (pc := 0) C dX0_drawLot_0 rfl (lv_at hl 0 rfl) ?_
  refine r_aload_n (pc := 1) C dX0_drawLot_1 rfl (lv_at hl 0 rfl) ?_
  refine gf_X0_22 (pc := 2) C t0 dX0_drawLot_2 ?_
  refine r_ldc2 (pc := 5) C (1103515245 : Int64) wd_96 dX0_drawLot_5 ?_
  refine r_lmul (pc := 8) C dX0_drawLot_8 ?_
  refine r_ldc2 (pc := 9) C (12345 : Int64) wd_97 dX0_drawLot_9 ?_
  refine r_ladd (pc := 12) C dX0_drawLot_12 ?_
  refine r_ldc2 (pc := 13) C (2147483648 : Int64) wd_98 dX0_drawLot_13 ?_
  refine r_lrem (pc := 16) C dX0_drawLot_16 (fun _ => ?_)
  refine pf_X0_22 (pc := 17) C t0 dX0_drawLot_17 (fun S21 => ?_)
  refine r_iload_n (pc := 20) C dX0_drawLot_20 rfl (lv_at hl 1 rfl) ?_
  refine r_join (fun (j : St → Int64 → Option (St × Int32)) => ∀ (S23 : St) (v24 : Int64) (ls : Array Slot), lv_has ls 5 [(0, .ref (base + k0))] → Sim p l e rm_X0_drawLot s m args below meth c D cy base 0 0 (fun S1 r => MQ below (QcI D cy base tS S1 r) args s 0 0 (AA base)) (j S23 v24) S23 (F0 m 39 ls [.long v24])) ?_ (fun j22 hj22 => ?_)
  · intro S23 v24 ls hl
    refine r_lstore_n (lv2 := [(2, .long v24), (0, .ref (base + k0))]) (pc := 39) C dX0_drawLot_39 rfl hl (Nat.le_of_ble_eq_true rfl) rfl (fun ls hl => ?_)
    refine r_iconst (pc := 40) C (0 : Int32) dX0_drawLot_40 (by decide) ?_
    refine r_istore (lv2 := [(4, .int (0 : Int32)), (2, .long v24), (0, .ref (base + k0))]) (pc := 41) C dX0_drawLot_41 hl (Nat.le_of_ble_eq_true rfl) rfl (fun ls hl => ?_)
    refine lp_X0_drawLot_43 (ls := ls) C hr hk t0 (fun S34 v35 v36 ls hl => ?_) FU S23 v24 (0 : Int32) _ (lv_sub hl [2, 1, 0] rfl)
    refine r_iconst (pc := 86) C (-1 : Int32) dX0_drawLot_86 (by decide) ?_
    exact r_iret (pc := 87) C hr hk dX0_drawLot_87
  refine r_if_le (pc := 21) C (tgt := 38) dX0_drawLot_21 (by decide) (fun _ => ?_) (fun _ => ?_)
  · refine r_lconst (pc := 38) C (0 : Int64) dX0_drawLot_38 (by decide) ?_
    exact hj22 S21 (0 : Int64) _ (lv_sub hl [0] rfl)
  · refine r_aload_n (pc := 24) C dX0_drawLot_24 rfl (lv_at hl 0 rfl) ?_
    refine gf_X0_22 (pc := 25) C t0 dX0_drawLot_25 ?_
    refine r_ldc2 (pc := 28) C (256 : Int64) wd_99 dX0_drawLot_28 ?_
    refine r_ldiv (pc := 31) C dX0_drawLot_31 (fun _ => ?_)
    refine r_iload_n (pc := 32) C dX0_drawLot_32 rfl (lv_at hl 1 rfl) ?_
    refine r_i2l (pc := 33) C dX0_drawLot_33 ?_
    refine r_lrem (pc := 34) C dX0_drawLot_34 (fun _ => ?_)
    refine r_goto (pc := 35) C (tgt := 39) dX0_drawLot_35 (by decide) ?_
    exact hj22 S21 (lrem ((S21.2 k0 6) / (256 : Int64)) (Int32.toInt64 v1)) _ (lv_sub hl [0] rfl)

theorem ct_X0_drawLot (l : Launch) {D : va_G} {cy : Nat → ClassId} {base tS : Nat} {S : St} {k0 : Nat} {v1 : Int32} (t0 : cls k0 = 0) {S1 : St} {r1 : Int32} (h : X0_drawLot S k0 v1 = some (S1, r1)) : Met l yX0_drawLot (wsY yX0_drawLot cX0_drawLot 5 (some .int)) rm_X0_drawLot (va_Pc [.ref (base + k0), .int v1] (World D cy base tS S)) (QcI D cy base tS S1 r1) 0 0 (AA base) := conI rfl rfl (by decide) (Nat.le_of_ble_eq_true rfl) (fun p e s m args below meth c ls C hr hk hl => sm_X0_drawLot C hr hk t0 hl) h
theorem cv_X0_60 {p : Program} {l : Launch} {e : Env} {R : Room} {s : State} {m : MethodId} {args : Array Value} {below : List Frame} {meth : Method} {c : Code} {D : va_G} {cy : Nat → ClassId} {base tS nc ns : Nat} {cc : ByteArray} {nL pc : Nat} {ls : Array Slot} {rest : List Value} {S : St} {ρ : Type} {Q : St → ρ → State → Prop} (C : Cx p R s m args c RX0 cc nL D cy base tS nc ns) {k0 : Nat} {v1 : Int32} (t0 : cls k0 = 0) (hl : ls.size = nL) (hR : rm_X0_drawLot.frames + 1 ≤ R.frames ∧ 8 + (5 + 11) + rm_X0_drawLot.locals ≤ R.locals) {b : St → Int32 → Option (St × ρ)} (hroom : (rest.map fun v => v.category).sum ≤ 8) (hd : decode cc pc = .ok (.invokevirtual 60, 3)) (kk : ∀ (S1 : St) (r : Int32), Sim p l e R s m args below meth c D cy base nc ns Q (b S1 r) S1 (F0 m (pc + 3) ls (.int r :: rest))) : Sim p l e R s m args below meth c D cy base nc ns Q (bd (X0_drawLot S k0 v1) b) S (F0 m pc ls (.int v1 :: .ref (base + k0) :: rest)) := r_callVI (n := 1) (As := [.int v1]) C hl (rd_0 t0) (cls_lt t0 (by decide)) rfl (fun S1 r1 h => ct_X0_drawLot l t0 h) wd_310 wd_311 wd_312 wd_221 wd_313 rfl rfl (by decide +kernel) hR rfl rfl hroom hd kk
abbrev rm_X0_firstInOrder : Room := { frames := 1, cells := 0, slots := 0, locals := 22 }
set_option maxHeartbeats 4000000 in
set_option maxRecDepth 100000 in
theorem lp_X0_firstInOrder_2 {p : Program} {l : Launch} {e : Env} {s : State} {m : MethodId} {args : Array Value} {below : List Frame} {meth : Method} {c : Code} {D : va_G} {cy : Nat → ClassId} {base tS : Nat} {ls : Array Slot} (C : Cx p rm_X0_firstInOrder s m args c RX0 cX0_firstInOrder 2 D cy base tS 0 0) (hr : meth.sig.returnType = (some .int)) (hk : meth.locks = false) {k0 : Nat} (t0 : cls k0 = 0) {K : St → Int32 → Option (St × Int32)} (hK : ∀ (S : St) (v1 : Int32) (ls : Array Slot), lv_has ls 2 [(0, .ref (base + k0)), (1, .int v1)] → Sim p l e rm_X0_firstInOrder s m args below meth c D cy base 0 0 (fun S1 r => MQ below (QcI D cy base tS S1 r) args s 0 0 (AA base)) (K S v1) S (F0 m 42 ls [])) : ∀ (n : Nat) (S : St) (v1 : Int32) (ls : Array Slot), lv_has ls 2 [(0, .ref (base + k0)), (1, .int v1)] → Sim p l e rm_X0_firstInOrder s m args below meth c D cy base 0 0 (fun S1 r => MQ below (QcI D cy base tS S1 r) args s 0 0 (AA base)) (X0_firstInOrder_2 k0 K n S v1) S (F0 m 2 ls []) := by
  intro n
  induction n with
  | zero => intro S v1 ls hl; exact Sim.none
  | succ n ih =>
    intro S v1 ls hl
    rw [X0_firstInOrder_2]
    refine r_iload_n (pc := 2) C dX0_firstInOrder_2 rfl (lv_at hl 1 rfl) ?_
    refine r_aload_n (pc := 3) C dX0_firstInOrder_3 rfl (lv_at hl 0 rfl) ?_
    refine gf_X0_26 (pc := 4) C t0 dX0_firstInOrder_4 ?_
    have t21 := ft_0_0 t0
    refine gf_X0_70 (pc := 7) C t21 dX0_firstInOrder_7 ?_
    refine r_icmp_ge (pc := 10) C (tgt := 42) dX0_firstInOrder_10 (by decide) (fun _ => ?_) (fun _ => ?_)
    · exact hK S v1 _ (lv_sub hl [0, 1] rfl)
    · refine r_aload_n (pc := 13) C dX0_firstInOrder_13 rfl (lv_at hl 0 rfl) ?_
      refine gf_X0_30 (pc := 14) C t0 dX0_firstInOrder_14 ?_
      have t22 := ft_0_1 t0
      refine r_aload_n (pc := 17) C dX0_firstInOrder_17 rfl (lv_at hl 0 rfl) ?_
      refine gf_X0_9 (pc := 18) C t0 dX0_firstInOrder_18 ?_
      have t23 := ft_0_2 t0
      refine r_iload_n (pc := 21) C dX0_firstInOrder_21 rfl (lv_at hl 1 rfl) ?_
      refine r_iald (pc := 22) C t23 dX0_firstInOrder_22 ?_
      refine cv_X0_75 (pc := 23) C t22 hl.1 ⟨Nat.le_of_ble_eq_true rfl, Nat.le_of_ble_eq_true rfl⟩ (Nat.le_of_ble_eq_true rfl) dX0_firstInOrder_23 (fun S24 v25 => ?_)
      refine r_if_eq (pc := 26) C (tgt := 36) dX0_firstInOrder_26 (by decide) (fun _ => ?_) (fun _ => ?_)
      · refine r_iinc (pc := 36) C (k := 1) (1 : Int32) (fun v26 => [(1, .int v26), (0, .ref (base + k0))]) dX0_firstInOrder_36 hl rfl (by decide) (Nat.le_of_ble_eq_true rfl) (fun _ => rfl) (fun v26 ls hl => ?_)
        refine r_goto (pc := 39) C (tgt := 2) dX0_firstInOrder_39 (by decide) ?_
        exact ih S24 v26 _ (lv_sub hl [1, 0] rfl)
      · refine r_aload_n (pc := 29) C dX0_firstInOrder_29 rfl (lv_at hl 0 rfl) ?_
        refine gf_X0_9 (pc := 30) C t0 dX0_firstInOrder_30 ?_
        have t27 := ft_0_2 t0
        refine r_iload_n (pc := 33) C dX0_firstInOrder_33 rfl (lv_at hl 1 rfl) ?_
        refine r_iald (pc := 34) C t27 dX0_firstInOrder_34 ?_
        exact r_iret (pc := 35) C hr hk dX0_firstInOrder_35

set_option maxHeartbeats 4000000 in
set_option maxRecDepth 100000 in
theorem sm_X0_firstInOrder {p : Program} {l : Launch} {e : Env} {s : State} {m : MethodId} {args : Array Value} {below : List Frame} {meth : Method} {c : Code} {D : va_G} {cy : Nat → ClassId} {base tS : Nat} {S : St} {k0 : Nat} {ls : Array Slot} (C : Cx p rm_X0_firstInOrder s m args c RX0 cX0_firstInOrder 2 D cy base tS 0 0) (hr : meth.sig.returnType = (some .int)) (hk : meth.locks = false) (t0 : cls k0 = 0) (hl : lv_has ls 2 [(0, .ref (base + k0))]) : Sim p l e rm_X0_firstInOrder s m args below meth c D cy base 0 0 (fun S1 r => MQ below (QcI D cy base tS S1 r) args s 0 0 (AA base)) (X0_firstInOrder S k0) S (F0 m 0 ls []) := by
  unfold X0_firstInOrder
  refine r_iconst (pc := 0) C (0 : Int32) dX0_firstInOrder_0 (by decide) ?_
  refine r_istore_n (lv2 := [(1, .int (0 : Int32)), (0, .ref (base + k0))]) (pc := 1) C dX0_firstInOrder_1 rfl hl (Nat.le_of_ble_eq_true rfl) rfl (fun ls hl => ?_)
  refine lp_X0_firstInOrder_2 (ls := ls) C hr hk t0 (fun S28 v29 ls hl => ?_) FU S (0 : Int32) _ (lv_sub hl [1, 0] rfl)
  refine r_iconst (pc := 42) C (-1 : Int32) dX0_firstInOrder_42 (by decide) ?_
  exact r_iret (pc := 43) C hr hk dX0_firstInOrder_43

theorem ct_X0_firstInOrder (l : Launch) {D : va_G} {cy : Nat → ClassId} {base tS : Nat} {S : St} {k0 : Nat} (t0 : cls k0 = 0) {S1 : St} {r1 : Int32} (h : X0_firstInOrder S k0 = some (S1, r1)) : Met l yX0_firstInOrder (wsY yX0_firstInOrder cX0_firstInOrder 2 (some .int)) rm_X0_firstInOrder (va_Pc [.ref (base + k0)] (World D cy base tS S)) (QcI D cy base tS S1 r1) 0 0 (AA base) := conI rfl rfl (by decide) (Nat.le_of_ble_eq_true rfl) (fun p e s m args below meth c ls C hr hk hl => sm_X0_firstInOrder C hr hk t0 hl) h
theorem cv_X0_57 {p : Program} {l : Launch} {e : Env} {R : Room} {s : State} {m : MethodId} {args : Array Value} {below : List Frame} {meth : Method} {c : Code} {D : va_G} {cy : Nat → ClassId} {base tS nc ns : Nat} {cc : ByteArray} {nL pc : Nat} {ls : Array Slot} {rest : List Value} {S : St} {ρ : Type} {Q : St → ρ → State → Prop} (C : Cx p R s m args c RX0 cc nL D cy base tS nc ns) {k0 : Nat} (t0 : cls k0 = 0) (hl : ls.size = nL) (hR : rm_X0_firstInOrder.frames + 1 ≤ R.frames ∧ 8 + (2 + 11) + rm_X0_firstInOrder.locals ≤ R.locals) {b : St → Int32 → Option (St × ρ)} (hroom : (rest.map fun v => v.category).sum ≤ 8) (hd : decode cc pc = .ok (.invokevirtual 57, 3)) (kk : ∀ (S1 : St) (r : Int32), Sim p l e R s m args below meth c D cy base nc ns Q (b S1 r) S1 (F0 m (pc + 3) ls (.int r :: rest))) : Sim p l e R s m args below meth c D cy base nc ns Q (bd (X0_firstInOrder S k0) b) S (F0 m pc ls (.ref (base + k0) :: rest)) := r_callVI (n := 0) (As := []) C hl (rd_0 t0) (cls_lt t0 (by decide)) rfl (fun S1 r1 h => ct_X0_firstInOrder l t0 h) wd_314 wd_315 wd_316 wd_221 wd_317 rfl rfl (by decide +kernel) hR rfl rfl hroom hd kk
abbrev rm_X2_fullestDue : Room := { frames := 1, cells := 0, slots := 0, locals := 22 }
set_option maxHeartbeats 4000000 in
set_option maxRecDepth 100000 in
theorem lp_X2_fullestDue_4 {p : Program} {l : Launch} {e : Env} {s : State} {m : MethodId} {args : Array Value} {below : List Frame} {meth : Method} {c : Code} {D : va_G} {cy : Nat → ClassId} {base tS : Nat} {ls : Array Slot} (C : Cx p rm_X2_fullestDue s m args c RX2 cX2_fullestDue 3 D cy base tS 0 0) (hr : meth.sig.returnType = (some .int)) (hk : meth.locks = false) {k0 : Nat} (t0 : cls k0 = 2) {K : St → Int32 → Int32 → Option (St × Int32)} (hK : ∀ (S : St) (v1 : Int32) (v2 : Int32) (ls : Array Slot), lv_has ls 3 [(0, .ref (base + k0)), (1, .int v1), (2, .int v2)] → Sim p l e rm_X2_fullestDue s m args below meth c D cy base 0 0 (fun S1 r => MQ below (QcI D cy base tS S1 r) args s 0 0 (AA base)) (K S v1 v2) S (F0 m 51 ls [])) : ∀ (n : Nat) (S : St) (v1 : Int32) (v2 : Int32) (ls : Array Slot), lv_has ls 3 [(0, .ref (base + k0)), (1, .int v1), (2, .int v2)] → Sim p l e rm_X2_fullestDue s m args below meth c D cy base 0 0 (fun S1 r => MQ below (QcI D cy base tS S1 r) args s 0 0 (AA base)) (X2_fullestDue_4 k0 K n S v1 v2) S (F0 m 4 ls []) := by
  intro n
  induction n with
  | zero => intro S v1 v2 ls hl; exact Sim.none
  | succ n ih =>
    intro S v1 v2 ls hl
    rw [X2_fullestDue_4]
    refine r_iload_n (pc := 4) C dX2_fullestDue_4 rfl (lv_at hl 2 rfl) ?_
    refine r_aload_n (pc := 5) C dX2_fullestDue_5 rfl (lv_at hl 0 rfl) ?_
    refine gf_X2_22 (pc := 6) C t0 dX2_fullestDue_6 ?_
    have t21 := ft_2_0 t0
    refine gf_X2_32 (pc := 9) C t21 dX2_fullestDue_9 ?_
    refine r_icmp_ge (pc := 12) C (tgt := 51) dX2_fullestDue_12 (by decide) (fun _ => ?_) (fun _ => ?_)
    · exact hK S v1 v2 _ (lv_sub hl [0, 1, 2] rfl)
    · refine r_aload_n (pc := 15) C dX2_fullestDue_15 rfl (lv_at hl 0 rfl) ?_
      refine r_iload_n (pc := 16) C dX2_fullestDue_16 rfl (lv_at hl 2 rfl) ?_
      refine cv_X2_41 (pc := 17) C t0 hl.1 ⟨Nat.le_of_ble_eq_true rfl, Nat.le_of_ble_eq_true rfl⟩ (Nat.le_of_ble_eq_true rfl) dX2_fullestDue_17 (fun S22 v23 => ?_)
      refine r_join (fun (j : St → Int32 → Option (St × Int32)) => ∀ (S25 : St) (v26 : Int32) (ls : Array Slot), lv_has ls 3 [(0, .ref (base + k0)), (1, .int v26), (2, .int v2)] → Sim p l e rm_X2_fullestDue s m args below meth c D cy base 0 0 (fun S1 r => MQ below (QcI D cy base tS S1 r) args s 0 0 (AA base)) (j S25 v26) S25 (F0 m 45 ls [])) ?_ (fun j24 hj24 => ?_)
      · intro S25 v26 ls hl
        refine r_iinc (pc := 45) C (k := 2) (1 : Int32) (fun v27 => [(2, .int v27), (0, .ref (base + k0)), (1, .int v26)]) dX2_fullestDue_45 hl rfl (by decide) (Nat.le_of_ble_eq_true rfl) (fun _ => rfl) (fun v27 ls hl => ?_)
        refine r_goto (pc := 48) C (tgt := 4) dX2_fullestDue_48 (by decide) ?_
        exact ih S25 v26 v27 _ (lv_sub hl [1, 2, 0] rfl)
      refine r_if_eq (pc := 20) C (tgt := 45) dX2_fullestDue_20 (by decide) (fun _ => ?_) (fun _ => ?_)
      · exact hj24 S22 v1 _ (lv_sub hl [0, 1, 2] rfl)
      · refine r_iload_n (pc := 23) C dX2_fullestDue_23 rfl (lv_at hl 1 rfl) ?_
        refine r_iconst (pc := 24) C (-1 : Int32) dX2_fullestDue_24 (by decide) ?_
        refine r_join (fun (j : St → Option (St × Int32)) => ∀ (S29 : St)  (ls : Array Slot), lv_has ls 3 [(0, .ref (base + k0)), (2, .int v2)] → Sim p l e rm_X2_fullestDue s m args below meth c D cy base 0 0 (fun S1 r => MQ below (QcI D cy base tS S1 r) args s 0 0 (AA base)) (j S29) S29 (F0 m 43 ls [])) ?_ (fun j28 hj28 => ?_)
        · intro S29 ls hl
          refine r_iload_n (pc := 43) C dX2_fullestDue_43 rfl (lv_at hl 1 rfl) ?_
          refine r_istore_n (lv2 := [(1, .int v2), (0, .ref (base + k0)), (2, .int v2)]) (pc := 44) C dX2_fullestDue_44 rfl hl (Nat.le_of_ble_eq_true rfl) rfl (fun ls hl => ?_)
          exact hj24 S29 v2 _ (lv_sub hl [1, 0, 2] rfl)
        refine r_icmp_eq (pc := 25) C (tgt := 43) dX2_fullestDue_25 (by decide) (fun _ => ?_) (fun _ => ?_)
        · exact hj28 S22  _ (lv_sub hl [0, 2] rfl)
        · refine r_aload_n (pc := 28) C dX2_fullestDue_28 rfl (lv_at hl 0 rfl) ?_
          refine gf_X2_9 (pc := 29) C t0 dX2_fullestDue_29 ?_
          have t30 := ft_2_1 t0
          refine r_iload_n (pc := 32) C dX2_fullestDue_32 rfl (lv_at hl 2 rfl) ?_
          refine r_iald (pc := 33) C t30 dX2_fullestDue_33 ?_
          refine r_aload_n (pc := 34) C dX2_fullestDue_34 rfl (lv_at hl 0 rfl) ?_
          refine gf_X2_9 (pc := 35) C t0 dX2_fullestDue_35 ?_
          have t31 := ft_2_1 t0
          refine r_iload_n (pc := 38) C dX2_fullestDue_38 rfl (lv_at hl 1 rfl) ?_
          refine r_iald (pc := 39) C t31 dX2_fullestDue_39 ?_
          refine r_icmp_le (pc := 40) C (tgt := 45) dX2_fullestDue_40 (by decide) (fun _ => ?_) (fun _ => ?_)
          · exact hj24 S22 v1 _ (lv_sub hl [0, 1, 2] rfl)
          · exact hj28 S22  _ (lv_sub hl [0, 2] rfl)

set_option maxHeartbeats 4000000 in
set_option maxRecDepth 100000 in
theorem sm_X2_fullestDue {p : Program} {l : Launch} {e : Env} {s : State} {m : MethodId} {args : Array Value} {below : List Frame} {meth : Method} {c : Code} {D : va_G} {cy : Nat → ClassId} {base tS : Nat} {S : St} {k0 : Nat} {ls : Array Slot} (C : Cx p rm_X2_fullestDue s m args c RX2 cX2_fullestDue 3 D cy base tS 0 0) (hr : meth.sig.returnType = (some .int)) (hk : meth.locks = false) (t0 : cls k0 = 2) (hl : lv_has ls 3 [(0, .ref (base + k0))]) : Sim p l e rm_X2_fullestDue s m args below meth c D cy base 0 0 (fun S1 r => MQ below (QcI D cy base tS S1 r) args s 0 0 (AA base)) (X2_fullestDue S k0) S (F0 m 0 ls []) := by
  unfold X2_fullestDue
  refine r_iconst (pc := 0) C (-1 : Int32) dX2_fullestDue_0 (by decide) ?_
  refine r_istore_n (lv2 := [(1, .int (-1 : Int32)), (0, .ref (base + k0))]) (pc := 1) C dX2_fullestDue_1 rfl hl (Nat.le_of_ble_eq_true rfl) rfl (fun ls hl => ?_)
  refine r_iconst (pc := 2) C (0 : Int32) dX2_fullestDue_2 (by decide) ?_
  refine r_istore_n (lv2 := [(2, .int (0 : Int32)), (1, .int (-1 : Int32)), (0, .ref (base + k0))]) (pc := 3) C dX2_fullestDue_3 rfl hl (Nat.le_of_ble_eq_true rfl) rfl (fun ls hl => ?_)
  refine lp_X2_fullestDue_4 (ls := ls) C hr hk t0 (fun S32 v33 v34 ls hl => ?_) FU S (-1 : Int32) (0 : Int32) _ (lv_sub hl [2, 1, 0] rfl)
  refine r_iload_n (pc := 51) C dX2_fullestDue_51 rfl (lv_at hl 1 rfl) ?_
  exact r_iret (pc := 52) C hr hk dX2_fullestDue_52

theorem ct_X2_fullestDue (l : Launch) {D : va_G} {cy : Nat → ClassId} {base tS : Nat} {S : St} {k0 : Nat} (t0 : cls k0 = 2) {S1 : St} {r1 : Int32} (h : X2_fullestDue S k0 = some (S1, r1)) : Met l yX2_fullestDue (wsY yX2_fullestDue cX2_fullestDue 3 (some .int)) rm_X2_fullestDue (va_Pc [.ref (base + k0)] (World D cy base tS S)) (QcI D cy base tS S1 r1) 0 0 (AA base) := conI rfl rfl (by decide) (Nat.le_of_ble_eq_true rfl) (fun p e s m args below meth c ls C hr hk hl => sm_X2_fullestDue C hr hk t0 hl) h
theorem cv_X0_54 {p : Program} {l : Launch} {e : Env} {R : Room} {s : State} {m : MethodId} {args : Array Value} {below : List Frame} {meth : Method} {c : Code} {D : va_G} {cy : Nat → ClassId} {base tS nc ns : Nat} {cc : ByteArray} {nL pc : Nat} {ls : Array Slot} {rest : List Value} {S : St} {ρ : Type} {Q : St → ρ → State → Prop} (C : Cx p R s m args c RX0 cc nL D cy base tS nc ns) {k0 : Nat} (t0 : cls k0 = 2) (hl : ls.size = nL) (hR : rm_X2_fullestDue.frames + 1 ≤ R.frames ∧ 8 + (3 + 11) + rm_X2_fullestDue.locals ≤ R.locals) {b : St → Int32 → Option (St × ρ)} (hroom : (rest.map fun v => v.category).sum ≤ 8) (hd : decode cc pc = .ok (.invokevirtual 54, 3)) (kk : ∀ (S1 : St) (r : Int32), Sim p l e R s m args below meth c D cy base nc ns Q (b S1 r) S1 (F0 m (pc + 3) ls (.int r :: rest))) : Sim p l e R s m args below meth c D cy base nc ns Q (bd (X2_fullestDue S k0) b) S (F0 m pc ls (.ref (base + k0) :: rest)) := r_callVI (n := 0) (As := []) C hl (rd_2 t0) (cls_lt t0 (by decide)) rfl (fun S1 r1 h => ct_X2_fullestDue l t0 h) wd_318 wd_319 wd_320 wd_231 wd_321 rfl rfl (by decide +kernel) hR rfl rfl hroom hd kk
abbrev rm_X2_lowestDue : Room := { frames := 1, cells := 0, slots := 0, locals := 22 }
set_option maxHeartbeats 4000000 in
set_option maxRecDepth 100000 in
theorem lp_X2_lowestDue_2 {p : Program} {l : Launch} {e : Env} {s : State} {m : MethodId} {args : Array Value} {below : List Frame} {meth : Method} {c : Code} {D : va_G} {cy : Nat → ClassId} {base tS : Nat} {ls : Array Slot} (C : Cx p rm_X2_lowestDue s m args c RX2 cX2_lowestDue 2 D cy base tS 0 0) (hr : meth.sig.returnType = (some .int)) (hk : meth.locks = false) {k0 : Nat} (t0 : cls k0 = 2) {K : St → Int32 → Option (St × Int32)} (hK : ∀ (S : St) (v1 : Int32) (ls : Array Slot), lv_has ls 2 [(0, .ref (base + k0)), (1, .int v1)] → Sim p l e rm_X2_lowestDue s m args below meth c D cy base 0 0 (fun S1 r => MQ below (QcI D cy base tS S1 r) args s 0 0 (AA base)) (K S v1) S (F0 m 29 ls [])) : ∀ (n : Nat) (S : St) (v1 : Int32) (ls : Array Slot), lv_has ls 2 [(0, .ref (base + k0)), (1, .int v1)] → Sim p l e rm_X2_lowestDue s m args below meth c D cy base 0 0 (fun S1 r => MQ below (QcI D cy base tS S1 r) args s 0 0 (AA base)) (X2_lowestDue_2 k0 K n S v1) S (F0 m 2 ls []) := by
  intro n
  induction n with
  | zero => intro S v1 ls hl; exact Sim.none
  | succ n ih =>
    intro S v1 ls hl
    rw [X2_lowestDue_2]
    refine r_iload_n (pc := 2) C dX2_lowestDue_2 rfl (lv_at hl 1 rfl) ?_
    refine r_aload_n (pc := 3) C dX2_lowestDue_3 rfl (lv_at hl 0 rfl) ?_
    refine gf_X2_22 (pc := 4) C t0 dX2_lowestDue_4 ?_
    have t21 := ft_2_0 t0
    refine gf_X2_32 (pc := 7) C t21 dX2_lowestDue_7 ?_
    refine r_icmp_ge (pc := 10) C (tgt := 29) dX2_lowestDue_10 (by decide) (fun _ => ?_) (fun _ => ?_)
    · exact hK S v1 _ (lv_sub hl [0, 1] rfl)
    · refine r_aload_n (pc := 13) C dX2_lowestDue_13 rfl (lv_at hl 0 rfl) ?_
      refine r_iload_n (pc := 14) C dX2_lowestDue_14 rfl (lv_at hl 1 rfl) ?_
      refine cv_X2_41 (pc := 15) C t0 hl.1 ⟨Nat.le_of_ble_eq_true rfl, Nat.le_of_ble_eq_true rfl⟩ (Nat.le_of_ble_eq_true rfl) dX2_lowestDue_15 (fun S22 v23 => ?_)
      refine r_if_eq (pc := 18) C (tgt := 23) dX2_lowestDue_18 (by decide) (fun _ => ?_) (fun _ => ?_)
      · refine r_iinc (pc := 23) C (k := 1) (1 : Int32) (fun v24 => [(1, .int v24), (0, .ref (base + k0))]) dX2_lowestDue_23 hl rfl (by decide) (Nat.le_of_ble_eq_true rfl) (fun _ => rfl) (fun v24 ls hl => ?_)
        refine r_goto (pc := 26) C (tgt := 2) dX2_lowestDue_26 (by decide) ?_
        exact ih S22 v24 _ (lv_sub hl [1, 0] rfl)
      · refine r_iload_n (pc := 21) C dX2_lowestDue_21 rfl (lv_at hl 1 rfl) ?_
        exact r_iret (pc := 22) C hr hk dX2_lowestDue_22

set_option maxHeartbeats 4000000 in
set_option maxRecDepth 100000 in
theorem sm_X2_lowestDue {p : Program} {l : Launch} {e : Env} {s : State} {m : MethodId} {args : Array Value} {below : List Frame} {meth : Method} {c : Code} {D : va_G} {cy : Nat → ClassId} {base tS : Nat} {S : St} {k0 : Nat} {ls : Array Slot} (C : Cx p rm_X2_lowestDue s m args c RX2 cX2_lowestDue 2 D cy base tS 0 0) (hr : meth.sig.returnType = (some .int)) (hk : meth.locks = false) (t0 : cls k0 = 2) (hl : lv_has ls 2 [(0, .ref (base + k0))]) : Sim p l e rm_X2_lowestDue s m args below meth c D cy base 0 0 (fun S1 r => MQ below (QcI D cy base tS S1 r) args s 0 0 (AA base)) (X2_lowestDue S k0) S (F0 m 0 ls []) := by
  unfold X2_lowestDue
  refine r_iconst (pc := 0) C (0 : Int32) dX2_lowestDue_0 (by decide) ?_
  refine r_istore_n (lv2 := [(1, .int (0 : Int32)), (0, .ref (base + k0))]) (pc := 1) C dX2_lowestDue_1 rfl hl (Nat.le_of_ble_eq_true rfl) rfl (fun ls hl => ?_)
  refine lp_X2_lowestDue_2 (ls := ls) C hr hk t0 (fun S25 v26 ls hl => ?_) FU S (0 : Int32) _ (lv_sub hl [1, 0] rfl)
  refine r_iconst (pc := 29) C (-1 : Int32) dX2_lowestDue_29 (by decide) ?_
  exact r_iret (pc := 30) C hr hk dX2_lowestDue_30

theorem ct_X2_lowestDue (l : Launch) {D : va_G} {cy : Nat → ClassId} {base tS : Nat} {S : St} {k0 : Nat} (t0 : cls k0 = 2) {S1 : St} {r1 : Int32} (h : X2_lowestDue S k0 = some (S1, r1)) : Met l yX2_lowestDue (wsY yX2_lowestDue cX2_lowestDue 2 (some .int)) rm_X2_lowestDue (va_Pc [.ref (base + k0)] (World D cy base tS S)) (QcI D cy base tS S1 r1) 0 0 (AA base) := conI rfl rfl (by decide) (Nat.le_of_ble_eq_true rfl) (fun p e s m args below meth c ls C hr hk hl => sm_X2_lowestDue C hr hk t0 hl) h
theorem cv_X0_67 {p : Program} {l : Launch} {e : Env} {R : Room} {s : State} {m : MethodId} {args : Array Value} {below : List Frame} {meth : Method} {c : Code} {D : va_G} {cy : Nat → ClassId} {base tS nc ns : Nat} {cc : ByteArray} {nL pc : Nat} {ls : Array Slot} {rest : List Value} {S : St} {ρ : Type} {Q : St → ρ → State → Prop} (C : Cx p R s m args c RX0 cc nL D cy base tS nc ns) {k0 : Nat} (t0 : cls k0 = 2) (hl : ls.size = nL) (hR : rm_X2_lowestDue.frames + 1 ≤ R.frames ∧ 8 + (2 + 11) + rm_X2_lowestDue.locals ≤ R.locals) {b : St → Int32 → Option (St × ρ)} (hroom : (rest.map fun v => v.category).sum ≤ 8) (hd : decode cc pc = .ok (.invokevirtual 67, 3)) (kk : ∀ (S1 : St) (r : Int32), Sim p l e R s m args below meth c D cy base nc ns Q (b S1 r) S1 (F0 m (pc + 3) ls (.int r :: rest))) : Sim p l e R s m args below meth c D cy base nc ns Q (bd (X2_lowestDue S k0) b) S (F0 m pc ls (.ref (base + k0) :: rest)) := r_callVI (n := 0) (As := []) C hl (rd_2 t0) (cls_lt t0 (by decide)) rfl (fun S1 r1 h => ct_X2_lowestDue l t0 h) wd_322 wd_323 wd_324 wd_231 wd_325 rfl rfl (by decide +kernel) hR rfl rfl hroom hd kk
theorem cv_X2_45 {p : Program} {l : Launch} {e : Env} {R : Room} {s : State} {m : MethodId} {args : Array Value} {below : List Frame} {meth : Method} {c : Code} {D : va_G} {cy : Nat → ClassId} {base tS nc ns : Nat} {cc : ByteArray} {nL pc : Nat} {ls : Array Slot} {rest : List Value} {S : St} {ρ : Type} {Q : St → ρ → State → Prop} (C : Cx p R s m args c RX2 cc nL D cy base tS nc ns) {k0 : Nat} (t0 : cls k0 = 2) (hl : ls.size = nL) (hR : rm_X2_lowestDue.frames + 1 ≤ R.frames ∧ 8 + (2 + 11) + rm_X2_lowestDue.locals ≤ R.locals) {b : St → Int32 → Option (St × ρ)} (hroom : (rest.map fun v => v.category).sum ≤ 8) (hd : decode cc pc = .ok (.invokevirtual 45, 3)) (kk : ∀ (S1 : St) (r : Int32), Sim p l e R s m args below meth c D cy base nc ns Q (b S1 r) S1 (F0 m (pc + 3) ls (.int r :: rest))) : Sim p l e R s m args below meth c D cy base nc ns Q (bd (X2_lowestDue S k0) b) S (F0 m pc ls (.ref (base + k0) :: rest)) := r_callVI (n := 0) (As := []) C hl (rd_2 t0) (cls_lt t0 (by decide)) rfl (fun S1 r1 h => ct_X2_lowestDue l t0 h) wd_326 wd_323 wd_324 wd_231 wd_325 rfl rfl (by decide +kernel) hR rfl rfl hroom hd kk
abbrev rm_X0_chooseNext : Room := { frames := 3, cells := 0, slots := 0, locals := 65 }
set_option maxHeartbeats 4000000 in
set_option maxRecDepth 100000 in
theorem sm_X0_chooseNext {p : Program} {l : Launch} {e : Env} {s : State} {m : MethodId} {args : Array Value} {below : List Frame} {meth : Method} {c : Code} {D : va_G} {cy : Nat → ClassId} {base tS : Nat} {S : St} {k0 : Nat} {ls : Array Slot} (C : Cx p rm_X0_chooseNext s m args c RX0 cX0_chooseNext 2 D cy base tS 0 0) (hr : meth.sig.returnType = (some .int)) (hk : meth.locks = false) (t0 : cls k0 = 0) (hl : lv_has ls 2 [(0, .ref (base + k0))]) : Sim p l e rm_X0_chooseNext s m args below meth c D cy base 0 0 (fun S1 r => MQ below (QcI D cy base tS S1 r) args s 0 0 (AA base)) (X0_chooseNext S k0) S (F0 m 0 ls []) := by
  unfold X0_chooseNext
  refine r_aload_n (pc := 0) C dX0_chooseNext_0 rfl (lv_at hl 0 rfl) ?_
  refine gf_X0_30 (pc := 1) C t0 dX0_chooseNext_1 ?_
  have t21 := ft_0_1 t0
  refine cv_X0_48 (pc := 4) C t21 hl.1 ⟨Nat.le_of_ble_eq_true rfl, Nat.le_of_ble_eq_true rfl⟩ (Nat.le_of_ble_eq_true rfl) dX0_chooseNext_4 (fun S22 v23 => ?_)
  refine r_istore_n (lv2 := [(1, .int v23), (0, .ref (base + k0))]) (pc := 7) C dX0_chooseNext_7 rfl hl (Nat.le_of_ble_eq_true rfl) rfl (fun ls hl => ?_)
  refine r_iload_n (pc := 8) C dX0_chooseNext_8 rfl (lv_at hl 0 rfl) ?_
  refine r_if_ne (pc := 9) C (tgt := 14) dX0_chooseNext_9 (by decide) (fun _ => ?_) (fun _ => ?_)
  · refine r_aload_n (pc := 14) C dX0_chooseNext_14 rfl (lv_at hl 1 rfl) ?_
    refine gf_X0_18 (pc := 15) C t0 dX0_chooseNext_15 ?_
    refine r_ite (fun h27 => ?_) (fun h27 => ?_)
    · refine r_tblIn (pc := 18) C (tgt := 48) (1 : Int32) h27 dX0_chooseNext_18 (by decide) (by decide) rfl (by decide) ?_
      refine r_aload_n (pc := 48) C dX0_chooseNext_48 rfl (lv_at hl 1 rfl) ?_
      refine gf_X0_30 (pc := 49) C t0 dX0_chooseNext_49 ?_
      have t24 := ft_0_1 t0
      refine cv_X0_54 (pc := 52) C t24 hl.1 ⟨Nat.le_of_ble_eq_true rfl, Nat.le_of_ble_eq_true rfl⟩ (Nat.le_of_ble_eq_true rfl) dX0_chooseNext_52 (fun S25 v26 => ?_)
      exact r_iret (pc := 55) C hr hk dX0_chooseNext_55
    refine r_ite (fun h30 => ?_) (fun h30 => ?_)
    · refine r_tblIn (pc := 18) C (tgt := 56) (2 : Int32) h30 dX0_chooseNext_18 (by decide) (by decide) rfl (by decide) ?_
      refine r_aload_n (pc := 56) C dX0_chooseNext_56 rfl (lv_at hl 1 rfl) ?_
      refine cv_X0_57 (pc := 57) C t0 hl.1 ⟨Nat.le_of_ble_eq_true rfl, Nat.le_of_ble_eq_true rfl⟩ (Nat.le_of_ble_eq_true rfl) dX0_chooseNext_57 (fun S28 v29 => ?_)
      exact r_iret (pc := 60) C hr hk dX0_chooseNext_60
    refine r_ite (fun h33 => ?_) (fun h33 => ?_)
    · refine r_tblIn (pc := 18) C (tgt := 61) (3 : Int32) h33 dX0_chooseNext_18 (by decide) (by decide) rfl (by decide) ?_
      refine r_aload_n (pc := 61) C dX0_chooseNext_61 rfl (lv_at hl 1 rfl) ?_
      refine r_iload_n (pc := 62) C dX0_chooseNext_62 rfl (lv_at hl 0 rfl) ?_
      refine cv_X0_60 (pc := 63) C t0 hl.1 ⟨Nat.le_of_ble_eq_true rfl, Nat.le_of_ble_eq_true rfl⟩ (Nat.le_of_ble_eq_true rfl) dX0_chooseNext_63 (fun S31 v32 => ?_)
      exact r_iret (pc := 66) C hr hk dX0_chooseNext_66
    refine r_ite (fun h36 => ?_) (fun h36 => ?_)
    · refine r_tblIn (pc := 18) C (tgt := 67) (4 : Int32) h36 dX0_chooseNext_18 (by decide) (by decide) rfl (by decide) ?_
      refine r_aload_n (pc := 67) C dX0_chooseNext_67 rfl (lv_at hl 1 rfl) ?_
      refine cv_X0_64 (pc := 68) C t0 hl.1 ⟨Nat.le_of_ble_eq_true rfl, Nat.le_of_ble_eq_true rfl⟩ (Nat.le_of_ble_eq_true rfl) dX0_chooseNext_68 (fun S34 v35 => ?_)
      exact r_iret (pc := 71) C hr hk dX0_chooseNext_71
    refine r_tblOut (pc := 18) C (tgt := 72) dX0_chooseNext_18 (by have g1 : ¬ (S22.1 k0 5).toInt = 1 := i32ne h27; have g2 : ¬ (S22.1 k0 5).toInt = 2 := i32ne h30; have g3 : ¬ (S22.1 k0 5).toInt = 3 := i32ne h33; have g4 : ¬ (S22.1 k0 5).toInt = 4 := i32ne h36; omega) (by decide) ?_
    refine r_aload_n (pc := 72) C dX0_chooseNext_72 rfl (lv_at hl 1 rfl) ?_
    refine gf_X0_30 (pc := 73) C t0 dX0_chooseNext_73 ?_
    have t37 := ft_0_1 t0
    refine cv_X0_67 (pc := 76) C t37 hl.1 ⟨Nat.le_of_ble_eq_true rfl, Nat.le_of_ble_eq_true rfl⟩ (Nat.le_of_ble_eq_true rfl) dX0_chooseNext_76 (fun S38 v39 => ?_)
    exact r_iret (pc := 79) C hr hk dX0_chooseNext_79
  · refine r_iconst (pc := 12) C (-1 : Int32) dX0_chooseNext_12 (by decide) ?_
    exact r_iret (pc := 13) C hr hk dX0_chooseNext_13

theorem ct_X0_chooseNext (l : Launch) {D : va_G} {cy : Nat → ClassId} {base tS : Nat} {S : St} {k0 : Nat} (t0 : cls k0 = 0) {S1 : St} {r1 : Int32} (h : X0_chooseNext S k0 = some (S1, r1)) : Met l yX0_chooseNext (wsY yX0_chooseNext cX0_chooseNext 2 (some .int)) rm_X0_chooseNext (va_Pc [.ref (base + k0)] (World D cy base tS S)) (QcI D cy base tS S1 r1) 0 0 (AA base) := conI rfl rfl (by decide) (Nat.le_of_ble_eq_true rfl) (fun p e s m args below meth c ls C hr hk hl => sm_X0_chooseNext C hr hk t0 hl) h
theorem cv_X10_187 {p : Program} {l : Launch} {e : Env} {R : Room} {s : State} {m : MethodId} {args : Array Value} {below : List Frame} {meth : Method} {c : Code} {D : va_G} {cy : Nat → ClassId} {base tS nc ns : Nat} {cc : ByteArray} {nL pc : Nat} {ls : Array Slot} {rest : List Value} {S : St} {ρ : Type} {Q : St → ρ → State → Prop} (C : Cx p R s m args c RX10 cc nL D cy base tS nc ns) {k0 : Nat} (t0 : cls k0 = 0) (hl : ls.size = nL) (hR : rm_X0_chooseNext.frames + 1 ≤ R.frames ∧ 8 + (2 + 11) + rm_X0_chooseNext.locals ≤ R.locals) {b : St → Int32 → Option (St × ρ)} (hroom : (rest.map fun v => v.category).sum ≤ 8) (hd : decode cc pc = .ok (.invokevirtual 187, 3)) (kk : ∀ (S1 : St) (r : Int32), Sim p l e R s m args below meth c D cy base nc ns Q (b S1 r) S1 (F0 m (pc + 3) ls (.int r :: rest))) : Sim p l e R s m args below meth c D cy base nc ns Q (bd (X0_chooseNext S k0) b) S (F0 m pc ls (.ref (base + k0) :: rest)) := r_callVI (n := 0) (As := []) C hl (rd_0 t0) (cls_lt t0 (by decide)) rfl (fun S1 r1 h => ct_X0_chooseNext l t0 h) wd_327 wd_328 wd_329 wd_221 wd_330 rfl rfl (by decide +kernel) hR rfl rfl hroom hd kk
abbrev rm_X0_isNewEnd : Room := { frames := 0, cells := 0, slots := 0, locals := 0 }
set_option maxHeartbeats 4000000 in
set_option maxRecDepth 100000 in
theorem lp_X0_isNewEnd_27 {p : Program} {l : Launch} {e : Env} {s : State} {m : MethodId} {args : Array Value} {below : List Frame} {meth : Method} {c : Code} {D : va_G} {cy : Nat → ClassId} {base tS : Nat} {ls : Array Slot} (C : Cx p rm_X0_isNewEnd s m args c RX0 cX0_isNewEnd 4 D cy base tS 0 0) (hr : meth.sig.returnType = (some .boolean)) (hk : meth.locks = false) {k0 : Nat} {v2 : Int32} (t0 : cls k0 = 0) {K : St → Int32 → Option (St × Int32)} (hK : ∀ (S : St) (v3 : Int32) (ls : Array Slot), lv_has ls 4 [(0, .ref (base + k0)), (2, .int v2), (3, .int v3)] → Sim p l e rm_X0_isNewEnd s m args below meth c D cy base 0 0 (fun S1 r => MQ below (QcI D cy base tS S1 r) args s 0 0 (AA base)) (K S v3) S (F0 m 53 ls [])) : ∀ (n : Nat) (S : St) (v3 : Int32) (ls : Array Slot), lv_has ls 4 [(0, .ref (base + k0)), (2, .int v2), (3, .int v3)] → Sim p l e rm_X0_isNewEnd s m args below meth c D cy base 0 0 (fun S1 r => MQ below (QcI D cy base tS S1 r) args s 0 0 (AA base)) (X0_isNewEnd_27 k0 v2 K n S v3) S (F0 m 27 ls []) := by
  intro n
  induction n with
  | zero => intro S v3 ls hl; exact Sim.none
  | succ n ih =>
    intro S v3 ls hl
    rw [X0_isNewEnd_27]
    refine r_iload_n (pc := 27) C dX0_isNewEnd_27 rfl (lv_at hl 2 rfl) ?_
    refine r_aload_n (pc := 28) C dX0_isNewEnd_28 rfl (lv_at hl 0 rfl) ?_
    refine gf_X0_34 (pc := 29) C t0 dX0_isNewEnd_29 ?_
    refine r_icmp_ge (pc := 32) C (tgt := 53) dX0_isNewEnd_32 (by decide) (fun _ => ?_) (fun _ => ?_)
    · exact hK S v3 _ (lv_sub hl [0, 1, 2] rfl)
    · refine r_aload_n (pc := 35) C dX0_isNewEnd_35 rfl (lv_at hl 0 rfl) ?_
      refine gf_X0_15 (pc := 36) C t0 dX0_isNewEnd_36 ?_
      have t27 := ft_0_3 t0
      refine r_iload_n (pc := 39) C dX0_isNewEnd_39 rfl (lv_at hl 2 rfl) ?_
      refine r_iald (pc := 40) C t27 dX0_isNewEnd_40 ?_
      refine r_iload_n (pc := 41) C dX0_isNewEnd_41 rfl (lv_at hl 1 rfl) ?_
      refine r_icmp_ne (pc := 42) C (tgt := 47) dX0_isNewEnd_42 (by decide) (fun _ => ?_) (fun _ => ?_)
      · refine r_iinc (pc := 47) C (k := 2) (1 : Int32) (fun v28 => [(3, .int v28), (0, .ref (base + k0)), (2, .int v2)]) dX0_isNewEnd_47 hl rfl (by decide) (Nat.le_of_ble_eq_true rfl) (fun _ => rfl) (fun v28 ls hl => ?_)
        refine r_goto (pc := 50) C (tgt := 27) dX0_isNewEnd_50 (by decide) ?_
        exact ih S v28 _ (lv_sub hl [1, 2, 0] rfl)
      · refine r_iconst (pc := 45) C (0 : Int32) dX0_isNewEnd_45 (by decide) ?_
        exact r_zret (pc := 46) C rfl hr hk dX0_isNewEnd_46

set_option maxHeartbeats 4000000 in
set_option maxRecDepth 100000 in
theorem sm_X0_isNewEnd {p : Program} {l : Launch} {e : Env} {s : State} {m : MethodId} {args : Array Value} {below : List Frame} {meth : Method} {c : Code} {D : va_G} {cy : Nat → ClassId} {base tS : Nat} {S : St} {k0 : Nat} {v1 : Int32} {v2 : Int32} {ls : Array Slot} (C : Cx p rm_X0_isNewEnd s m args c RX0 cX0_isNewEnd 4 D cy base tS 0 0) (hr : meth.sig.returnType = (some .boolean)) (hk : meth.locks = false) (t0 : cls k0 = 0) (hl : lv_has ls 4 [(0, .ref (base + k0)), (1, .int v1), (2, .int v2)]) : Sim p l e rm_X0_isNewEnd s m args below meth c D cy base 0 0 (fun S1 r => MQ below (QcI D cy base tS S1 r) args s 0 0 (AA base)) (X0_isNewEnd S k0 v1 v2) S (F0 m 0 ls []) := by
  unfold X0_isNewEnd
  refine r_aload_n (pc := 0) C dX0_isNewEnd_0 rfl (lv_at hl 0 rfl) ?_
  refine gf_X0_26 (pc := 1) C t0 dX0_isNewEnd_1 ?_
  have t21 := ft_0_0 t0
  refine gf_X0_113 (pc := 4) C t21 dX0_isNewEnd_4 ?_
  have t22 := ft_7_1 t21
  refine r_iload_n (pc := 7) C dX0_isNewEnd_7 rfl (lv_at hl 1 rfl) ?_
  refine r_aald17 (pc := 8) C t22 dX0_isNewEnd_8 (fun b24 => ?_)
  have t23 := et_17_12 t22 b24
  refine r_iload_n (pc := 9) C dX0_isNewEnd_9 rfl (lv_at hl 2 rfl) ?_
  refine r_iald (pc := 10) C t23 dX0_isNewEnd_10 ?_
  refine r_join (fun (j : St → Option (St × Int32)) => ∀ (S26 : St)  (ls : Array Slot), lv_has ls 4 [] → Sim p l e rm_X0_isNewEnd s m args below meth c D cy base 0 0 (fun S1 r => MQ below (QcI D cy base tS S1 r) args s 0 0 (AA base)) (j S26) S26 (F0 m 23 ls [])) ?_ (fun j25 hj25 => ?_)
  · intro S26 ls hl
    refine r_iconst (pc := 23) C (0 : Int32) dX0_isNewEnd_23 (by decide) ?_
    exact r_zret (pc := 24) C rfl hr hk dX0_isNewEnd_24
  refine r_if_eq (pc := 11) C (tgt := 23) dX0_isNewEnd_11 (by decide) (fun _ => ?_) (fun _ => ?_)
  · exact hj25 S  _ (lv_sub hl [] rfl)
  · refine r_aload_n (pc := 14) C dX0_isNewEnd_14 rfl (lv_at hl 0 rfl) ?_
    refine gf_X0_34 (pc := 15) C t0 dX0_isNewEnd_15 ?_
    refine r_bipush (pc := 18) C (12 : Int32) dX0_isNewEnd_18 (by decide) ?_
    refine r_icmp_lt (pc := 20) C (tgt := 25) dX0_isNewEnd_20 (by decide) (fun _ => ?_) (fun _ => ?_)
    · refine r_iconst (pc := 25) C (0 : Int32) dX0_isNewEnd_25 (by decide) ?_
      refine r_istore_n (lv2 := [(3, .int (0 : Int32)), (0, .ref (base + k0)), (1, .int v1), (2, .int v2)]) (pc := 26) C dX0_isNewEnd_26 rfl hl (Nat.le_of_ble_eq_true rfl) rfl (fun ls hl => ?_)
      refine lp_X0_isNewEnd_27 (ls := ls) C hr hk t0 (fun S29 v30 ls hl => ?_) FU S (0 : Int32) _ (lv_sub hl [1, 3, 0] rfl)
      refine r_iconst (pc := 53) C (1 : Int32) dX0_isNewEnd_53 (by decide) ?_
      exact r_zret (pc := 54) C rfl hr hk dX0_isNewEnd_54
    · exact hj25 S  _ (lv_sub hl [] rfl)

theorem ct_X0_isNewEnd (l : Launch) {D : va_G} {cy : Nat → ClassId} {base tS : Nat} {S : St} {k0 : Nat} {v1 : Int32} {v2 : Int32} (t0 : cls k0 = 0) {S1 : St} {r1 : Int32} (h : X0_isNewEnd S k0 v1 v2 = some (S1, r1)) : Met l yX0_isNewEnd (wsY yX0_isNewEnd cX0_isNewEnd 4 (some .boolean)) rm_X0_isNewEnd (va_Pc [.ref (base + k0), .int v1, .int v2] (World D cy base tS S)) (QcI D cy base tS S1 r1) 0 0 (AA base) := conI rfl rfl (by decide) (Nat.le_of_ble_eq_true rfl) (fun p e s m args below meth c ls C hr hk hl => sm_X0_isNewEnd C hr hk t0 hl) h
theorem cv_X0_110 {p : Program} {l : Launch} {e : Env} {R : Room} {s : State} {m : MethodId} {args : Array Value} {below : List Frame} {meth : Method} {c : Code} {D : va_G} {cy : Nat → ClassId} {base tS nc ns : Nat} {cc : ByteArray} {nL pc : Nat} {ls : Array Slot} {rest : List Value} {S : St} {ρ : Type} {Q : St → ρ → State → Prop} (C : Cx p R s m args c RX0 cc nL D cy base tS nc ns) {k0 : Nat} {v1 : Int32} {v2 : Int32} (t0 : cls k0 = 0) (hl : ls.size = nL) (hR : rm_X0_isNewEnd.frames + 1 ≤ R.frames ∧ 8 + (4 + 11) + rm_X0_isNewEnd.locals ≤ R.locals) {b : St → Int32 → Option (St × ρ)} (hroom : (rest.map fun v => v.category).sum ≤ 8) (hd : decode cc pc = .ok (.invokevirtual 110, 3)) (kk : ∀ (S1 : St) (r : Int32), Sim p l e R s m args below meth c D cy base nc ns Q (b S1 r) S1 (F0 m (pc + 3) ls (.int r :: rest))) : Sim p l e R s m args below meth c D cy base nc ns Q (bd (X0_isNewEnd S k0 v1 v2) b) S (F0 m pc ls (.int v2 :: .int v1 :: .ref (base + k0) :: rest)) := r_callVI (n := 2) (As := [.int v1, .int v2]) C hl (rd_0 t0) (cls_lt t0 (by decide)) rfl (fun S1 r1 h => ct_X0_isNewEnd l t0 h) wd_331 wd_332 wd_333 wd_221 wd_334 rfl rfl (by decide +kernel) hR rfl rfl hroom hd kk
abbrev rm_X0_askAhead : Room := { frames := 1, cells := 0, slots := 0, locals := 23 }
set_option maxHeartbeats 4000000 in
set_option maxRecDepth 100000 in
theorem lp_X0_askAhead_28 {p : Program} {l : Launch} {e : Env} {s : State} {m : MethodId} {args : Array Value} {below : List Frame} {meth : Method} {c : Code} {D : va_G} {cy : Nat → ClassId} {base tS : Nat} {ls : Array Slot} (C : Cx p rm_X0_askAhead s m args c RX0 cX0_askAhead 4 D cy base tS 0 0) (hr : meth.sig.returnType = none) (hk : meth.locks = false) {k0 : Nat} {v1 : Int32} {v2 : Int32} (t0 : cls k0 = 0) {K : St → Int32 → Option (St × Unit)} (hK : ∀ (S : St) (v3 : Int32) (ls : Array Slot), lv_has ls 4 [(0, .ref (base + k0)), (1, .int v1), (2, .int v2), (3, .int v3)] → Sim p l e rm_X0_askAhead s m args below meth c D cy base 0 0 (fun S1 r => MQ below (QcV D cy base tS S1 r) args s 0 0 (AA base)) (K S v3) S (F0 m 52 ls [])) : ∀ (n : Nat) (S : St) (v3 : Int32) (ls : Array Slot), lv_has ls 4 [(0, .ref (base + k0)), (1, .int v1), (2, .int v2), (3, .int v3)] → Sim p l e rm_X0_askAhead s m args below meth c D cy base 0 0 (fun S1 r => MQ below (QcV D cy base tS S1 r) args s 0 0 (AA base)) (X0_askAhead_28 k0 v1 v2 K n S v3) S (F0 m 28 ls []) := by
  intro n
  induction n with
  | zero => intro S v3 ls hl; exact Sim.none
  | succ n ih =>
    intro S v3 ls hl
    rw [X0_askAhead_28]
    refine r_iload_n (pc := 28) C dX0_askAhead_28 rfl (lv_at hl 3 rfl) ?_
    refine r_if_le (pc := 29) C (tgt := 52) dX0_askAhead_29 (by decide) (fun _ => ?_) (fun _ => ?_)
    · exact hK S v3 _ (lv_sub hl [0, 1, 2, 3] rfl)
    · refine r_aload_n (pc := 32) C dX0_askAhead_32 rfl (lv_at hl 0 rfl) ?_
      refine gf_X0_15 (pc := 33) C t0 dX0_askAhead_33 ?_
      have t29 := ft_0_3 t0
      refine r_iload_n (pc := 36) C dX0_askAhead_36 rfl (lv_at hl 3 rfl) ?_
      refine r_aload_n (pc := 37) C dX0_askAhead_37 rfl (lv_at hl 0 rfl) ?_
      refine gf_X0_15 (pc := 38) C t0 dX0_askAhead_38 ?_
      have t30 := ft_0_3 t0
      refine r_iload_n (pc := 41) C dX0_askAhead_41 rfl (lv_at hl 3 rfl) ?_
      refine r_iconst (pc := 42) C (1 : Int32) dX0_askAhead_42 (by decide) ?_
      refine r_isub (pc := 43) C dX0_askAhead_43 ?_
      refine r_iald (pc := 44) C t30 dX0_askAhead_44 ?_
      refine r_iast (pc := 45) C t29 dX0_askAhead_45 (fun S31 => ?_)
      refine r_iinc (pc := 46) C (k := 3) (-1 : Int32) (fun v32 => [(3, .int v32), (0, .ref (base + k0)), (1, .int v1), (2, .int v2)]) dX0_askAhead_46 hl rfl (by decide) (Nat.le_of_ble_eq_true rfl) (fun _ => rfl) (fun v32 ls hl => ?_)
      refine r_goto (pc := 49) C (tgt := 28) dX0_askAhead_49 (by decide) ?_
      exact ih S31 v32 _ (lv_sub hl [1, 2, 3, 0] rfl)

set_option maxHeartbeats 4000000 in
set_option maxRecDepth 100000 in
theorem lp_X0_askAhead_10 {p : Program} {l : Launch} {e : Env} {s : State} {m : MethodId} {args : Array Value} {below : List Frame} {meth : Method} {c : Code} {D : va_G} {cy : Nat → ClassId} {base tS : Nat} {ls : Array Slot} (C : Cx p rm_X0_askAhead s m args c RX0 cX0_askAhead 4 D cy base tS 0 0) (hr : meth.sig.returnType = none) (hk : meth.locks = false) {k0 : Nat} {v1 : Int32} (t0 : cls k0 = 0) {K : St → Int32 → Option (St × Unit)} (hK : ∀ (S : St) (v2 : Int32) (ls : Array Slot), lv_has ls 4 [(0, .ref (base + k0)), (1, .int v1), (2, .int v2)] → Sim p l e rm_X0_askAhead s m args below meth c D cy base 0 0 (fun S1 r => MQ below (QcV D cy base tS S1 r) args s 0 0 (AA base)) (K S v2) S (F0 m 75 ls [])) : ∀ (n : Nat) (S : St) (v2 : Int32) (ls : Array Slot), lv_has ls 4 [(0, .ref (base + k0)), (1, .int v1), (2, .int v2)] → Sim p l e rm_X0_askAhead s m args below meth c D cy base 0 0 (fun S1 r => MQ below (QcV D cy base tS S1 r) args s 0 0 (AA base)) (X0_askAhead_10 k0 v1 K n S v2) S (F0 m 10 ls []) := by
  intro n
  induction n with
  | zero => intro S v2 ls hl; exact Sim.none
  | succ n ih =>
    intro S v2 ls hl
    rw [X0_askAhead_10]
    refine r_iload_n (pc := 10) C dX0_askAhead_10 rfl (lv_at hl 2 rfl) ?_
    refine r_if_lt (pc := 11) C (tgt := 75) dX0_askAhead_11 (by decide) (fun _ => ?_) (fun _ => ?_)
    · exact hK S v2 _ (lv_sub hl [0, 1, 2] rfl)
    · refine r_aload_n (pc := 14) C dX0_askAhead_14 rfl (lv_at hl 0 rfl) ?_
      refine r_iload_n (pc := 15) C dX0_askAhead_15 rfl (lv_at hl 1 rfl) ?_
      refine r_iload_n (pc := 16) C dX0_askAhead_16 rfl (lv_at hl 2 rfl) ?_
      refine cv_X0_110 (pc := 17) C t0 hl.1 ⟨Nat.le_of_ble_eq_true rfl, Nat.le_of_ble_eq_true rfl⟩ (Nat.le_of_ble_eq_true rfl) dX0_askAhead_17 (fun S23 v24 => ?_)
      refine r_join (fun (j : St → Option (St × Unit)) => ∀ (S26 : St)  (ls : Array Slot), lv_has ls 4 [(0, .ref (base + k0)), (1, .int v1), (2, .int v2)] → Sim p l e rm_X0_askAhead s m args below meth c D cy base 0 0 (fun S1 r => MQ below (QcV D cy base tS S1 r) args s 0 0 (AA base)) (j S26) S26 (F0 m 69 ls [])) ?_ (fun j25 hj25 => ?_)
      · intro S26 ls hl
        refine r_iinc (pc := 69) C (k := 2) (-1 : Int32) (fun v27 => [(2, .int v27), (0, .ref (base + k0)), (1, .int v1)]) dX0_askAhead_69 hl rfl (by decide) (Nat.le_of_ble_eq_true rfl) (fun _ => rfl) (fun v27 ls hl => ?_)
        refine r_goto (pc := 72) C (tgt := 10) dX0_askAhead_72 (by decide) ?_
        exact ih S26 v27 _ (lv_sub hl [1, 2, 0] rfl)
      refine r_if_eq (pc := 20) C (tgt := 69) dX0_askAhead_20 (by decide) (fun _ => ?_) (fun _ => ?_)
      · exact hj25 S23  _ (lv_sub hl [0, 1, 2] rfl)
      · refine r_aload_n (pc := 23) C dX0_askAhead_23 rfl (lv_at hl 0 rfl) ?_
        refine gf_X0_34 (pc := 24) C t0 dX0_askAhead_24 ?_
        refine r_topi (fun v28 => ?_)
        refine r_istore_n (lv2 := [(3, .int v28), (0, .ref (base + k0)), (1, .int v1), (2, .int v2)]) (pc := 27) C dX0_askAhead_27 rfl hl (Nat.le_of_ble_eq_true rfl) rfl (fun ls hl => ?_)
        refine lp_X0_askAhead_28 (ls := ls) C hr hk t0 (fun S33 v34 ls hl => ?_) FU S23 v28 _ (lv_sub hl [1, 2, 3, 0] rfl)
        refine r_aload_n (pc := 52) C dX0_askAhead_52 rfl (lv_at hl 0 rfl) ?_
        refine gf_X0_15 (pc := 53) C t0 dX0_askAhead_53 ?_
        have t35 := ft_0_3 t0
        refine r_iconst (pc := 56) C (0 : Int32) dX0_askAhead_56 (by decide) ?_
        refine r_iload_n (pc := 57) C dX0_askAhead_57 rfl (lv_at hl 2 rfl) ?_
        refine r_iast (pc := 58) C t35 dX0_askAhead_58 (fun S36 => ?_)
        refine r_aload_n (pc := 59) C dX0_askAhead_59 rfl (lv_at hl 0 rfl) ?_
        refine r_dup (pc := 60) C dX0_askAhead_60 rfl ?_
        refine gf_X0_34 (pc := 61) C t0 dX0_askAhead_61 ?_
        refine r_iconst (pc := 64) C (1 : Int32) dX0_askAhead_64 (by decide) ?_
        refine r_iadd (pc := 65) C dX0_askAhead_65 ?_
        refine pf_X0_34 (pc := 66) C t0 dX0_askAhead_66 (fun S37 => ?_)
        exact hj25 S37  _ (lv_sub hl [0, 1, 2] rfl)

set_option maxHeartbeats 4000000 in
set_option maxRecDepth 100000 in
theorem sm_X0_askAhead {p : Program} {l : Launch} {e : Env} {s : State} {m : MethodId} {args : Array Value} {below : List Frame} {meth : Method} {c : Code} {D : va_G} {cy : Nat → ClassId} {base tS : Nat} {S : St} {k0 : Nat} {v1 : Int32} {ls : Array Slot} (C : Cx p rm_X0_askAhead s m args c RX0 cX0_askAhead 4 D cy base tS 0 0) (hr : meth.sig.returnType = none) (hk : meth.locks = false) (t0 : cls k0 = 0) (hl : lv_has ls 4 [(0, .ref (base + k0)), (1, .int v1)]) : Sim p l e rm_X0_askAhead s m args below meth c D cy base 0 0 (fun S1 r => MQ below (QcV D cy base tS S1 r) args s 0 0 (AA base)) (X0_askAhead S k0 v1) S (F0 m 0 ls []) := by
  unfold X0_askAhead
  refine r_aload_n (pc := 0) C dX0_askAhead_0 rfl (lv_at hl 0 rfl) ?_
  refine gf_X0_26 (pc := 1) C t0 dX0_askAhead_1 ?_
  have t21 := ft_0_0 t0
  refine gf_X0_70 (pc := 4) C t21 dX0_askAhead_4 ?_
  refine r_iconst (pc := 7) C (1 : Int32) dX0_askAhead_7 (by decide) ?_
  refine r_isub (pc := 8) C dX0_askAhead_8 ?_
  refine r_topi (fun v22 => ?_)
  refine r_istore_n (lv2 := [(2, .int v22), (0, .ref (base + k0)), (1, .int v1)]) (pc := 9) C dX0_askAhead_9 rfl hl (Nat.le_of_ble_eq_true rfl) rfl (fun ls hl => ?_)
  refine lp_X0_askAhead_10 (ls := ls) C hr hk t0 (fun S38 v39 ls hl => ?_) FU S v22 _ (lv_sub hl [1, 2, 0] rfl)
  exact r_vret (pc := 75) C hr hk dX0_askAhead_75

theorem ct_X0_askAhead (l : Launch) {D : va_G} {cy : Nat → ClassId} {base tS : Nat} {S : St} {k0 : Nat} {v1 : Int32} (t0 : cls k0 = 0) {S1 : St} {r1 : Unit} (h : X0_askAhead S k0 v1 = some (S1, r1)) : Met l yX0_askAhead (wsY yX0_askAhead cX0_askAhead 4 none) rm_X0_askAhead (va_Pc [.ref (base + k0), .int v1] (World D cy base tS S)) (QcV D cy base tS S1 r1) 0 0 (AA base) := conV rfl rfl (by decide) (Nat.le_of_ble_eq_true rfl) (fun p e s m args below meth c ls C hr hk hl => sm_X0_askAhead C hr hk t0 hl) h
theorem cv_X0_103 {p : Program} {l : Launch} {e : Env} {R : Room} {s : State} {m : MethodId} {args : Array Value} {below : List Frame} {meth : Method} {c : Code} {D : va_G} {cy : Nat → ClassId} {base tS nc ns : Nat} {cc : ByteArray} {nL pc : Nat} {ls : Array Slot} {rest : List Value} {S : St} {ρ : Type} {Q : St → ρ → State → Prop} (C : Cx p R s m args c RX0 cc nL D cy base tS nc ns) {k0 : Nat} {v1 : Int32} (t0 : cls k0 = 0) (hl : ls.size = nL) (hR : rm_X0_askAhead.frames + 1 ≤ R.frames ∧ 8 + (4 + 11) + rm_X0_askAhead.locals ≤ R.locals) {b : St → Unit → Option (St × ρ)} (hroom : (rest.map fun v => v.category).sum ≤ 8) (hd : decode cc pc = .ok (.invokevirtual 103, 3)) (kk : ∀ (S1 : St) (r : Unit), Sim p l e R s m args below meth c D cy base nc ns Q (b S1 r) S1 (F0 m (pc + 3) ls (rest))) : Sim p l e R s m args below meth c D cy base nc ns Q (bd (X0_askAhead S k0 v1) b) S (F0 m pc ls (.int v1 :: .ref (base + k0) :: rest)) := r_callVV (n := 1) (As := [.int v1]) C hl (rd_0 t0) (cls_lt t0 (by decide)) rfl (fun S1 r1 h => ct_X0_askAhead l t0 h) wd_335 wd_336 wd_337 wd_221 wd_338 rfl rfl (by decide +kernel) hR rfl rfl hroom hd kk
abbrev rm_X0_askBehind : Room := { frames := 1, cells := 0, slots := 0, locals := 23 }
set_option maxHeartbeats 4000000 in
set_option maxRecDepth 100000 in
theorem lp_X0_askBehind_2 {p : Program} {l : Launch} {e : Env} {s : State} {m : MethodId} {args : Array Value} {below : List Frame} {meth : Method} {c : Code} {D : va_G} {cy : Nat → ClassId} {base tS : Nat} {ls : Array Slot} (C : Cx p rm_X0_askBehind s m args c RX0 cX0_askBehind 3 D cy base tS 0 0) (hr : meth.sig.returnType = none) (hk : meth.locks = false) {k0 : Nat} {v1 : Int32} (t0 : cls k0 = 0) {K : St → Int32 → Option (St × Unit)} (hK : ∀ (S : St) (v2 : Int32) (ls : Array Slot), lv_has ls 3 [(0, .ref (base + k0)), (1, .int v1), (2, .int v2)] → Sim p l e rm_X0_askBehind s m args below meth c D cy base 0 0 (fun S1 r => MQ below (QcV D cy base tS S1 r) args s 0 0 (AA base)) (K S v2) S (F0 m 48 ls [])) : ∀ (n : Nat) (S : St) (v2 : Int32) (ls : Array Slot), lv_has ls 3 [(0, .ref (base + k0)), (1, .int v1), (2, .int v2)] → Sim p l e rm_X0_askBehind s m args below meth c D cy base 0 0 (fun S1 r => MQ below (QcV D cy base tS S1 r) args s 0 0 (AA base)) (X0_askBehind_2 k0 v1 K n S v2) S (F0 m 2 ls []) := by
  intro n
  induction n with
  | zero => intro S v2 ls hl; exact Sim.none
  | succ n ih =>
    intro S v2 ls hl
    rw [X0_askBehind_2]
    refine r_iload_n (pc := 2) C dX0_askBehind_2 rfl (lv_at hl 2 rfl) ?_
    refine r_aload_n (pc := 3) C dX0_askBehind_3 rfl (lv_at hl 0 rfl) ?_
    refine gf_X0_26 (pc := 4) C t0 dX0_askBehind_4 ?_
    have t21 := ft_0_0 t0
    refine gf_X0_70 (pc := 7) C t21 dX0_askBehind_7 ?_
    refine r_icmp_ge (pc := 10) C (tgt := 48) dX0_askBehind_10 (by decide) (fun _ => ?_) (fun _ => ?_)
    · exact hK S v2 _ (lv_sub hl [0, 1, 2] rfl)
    · refine r_aload_n (pc := 13) C dX0_askBehind_13 rfl (lv_at hl 0 rfl) ?_
      refine r_iload_n (pc := 14) C dX0_askBehind_14 rfl (lv_at hl 1 rfl) ?_
      refine r_iload_n (pc := 15) C dX0_askBehind_15 rfl (lv_at hl 2 rfl) ?_
      refine cv_X0_110 (pc := 16) C t0 hl.1 ⟨Nat.le_of_ble_eq_true rfl, Nat.le_of_ble_eq_true rfl⟩ (Nat.le_of_ble_eq_true rfl) dX0_askBehind_16 (fun S22 v23 => ?_)
      refine r_join (fun (j : St → Option (St × Unit)) => ∀ (S25 : St)  (ls : Array Slot), lv_has ls 3 [(0, .ref (base + k0)), (1, .int v1), (2, .int v2)] → Sim p l e rm_X0_askBehind s m args below meth c D cy base 0 0 (fun S1 r => MQ below (QcV D cy base tS S1 r) args s 0 0 (AA base)) (j S25) S25 (F0 m 42 ls [])) ?_ (fun j24 hj24 => ?_)
      · intro S25 ls hl
        refine r_iinc (pc := 42) C (k := 2) (1 : Int32) (fun v26 => [(2, .int v26), (0, .ref (base + k0)), (1, .int v1)]) dX0_askBehind_42 hl rfl (by decide) (Nat.le_of_ble_eq_true rfl) (fun _ => rfl) (fun v26 ls hl => ?_)
        refine r_goto (pc := 45) C (tgt := 2) dX0_askBehind_45 (by decide) ?_
        exact ih S25 v26 _ (lv_sub hl [1, 2, 0] rfl)
      refine r_if_eq (pc := 19) C (tgt := 42) dX0_askBehind_19 (by decide) (fun _ => ?_) (fun _ => ?_)
      · exact hj24 S22  _ (lv_sub hl [0, 1, 2] rfl)
      · refine r_aload_n (pc := 22) C dX0_askBehind_22 rfl (lv_at hl 0 rfl) ?_
        refine gf_X0_15 (pc := 23) C t0 dX0_askBehind_23 ?_
        have t27 := ft_0_3 t0
        refine r_aload_n (pc := 26) C dX0_askBehind_26 rfl (lv_at hl 0 rfl) ?_
        refine gf_X0_34 (pc := 27) C t0 dX0_askBehind_27 ?_
        refine r_iload_n (pc := 30) C dX0_askBehind_30 rfl (lv_at hl 2 rfl) ?_
        refine r_iast (pc := 31) C t27 dX0_askBehind_31 (fun S28 => ?_)
        refine r_aload_n (pc := 32) C dX0_askBehind_32 rfl (lv_at hl 0 rfl) ?_
        refine r_dup (pc := 33) C dX0_askBehind_33 rfl ?_
        refine gf_X0_34 (pc := 34) C t0 dX0_askBehind_34 ?_
        refine r_iconst (pc := 37) C (1 : Int32) dX0_askBehind_37 (by decide) ?_
        refine r_iadd (pc := 38) C dX0_askBehind_38 ?_
        refine pf_X0_34 (pc := 39) C t0 dX0_askBehind_39 (fun S29 => ?_)
        exact hj24 S29  _ (lv_sub hl [0, 1, 2] rfl)

set_option maxHeartbeats 4000000 in
set_option maxRecDepth 100000 in
theorem sm_X0_askBehind {p : Program} {l : Launch} {e : Env} {s : State} {m : MethodId} {args : Array Value} {below : List Frame} {meth : Method} {c : Code} {D : va_G} {cy : Nat → ClassId} {base tS : Nat} {S : St} {k0 : Nat} {v1 : Int32} {ls : Array Slot} (C : Cx p rm_X0_askBehind s m args c RX0 cX0_askBehind 3 D cy base tS 0 0) (hr : meth.sig.returnType = none) (hk : meth.locks = false) (t0 : cls k0 = 0) (hl : lv_has ls 3 [(0, .ref (base + k0)), (1, .int v1)]) : Sim p l e rm_X0_askBehind s m args below meth c D cy base 0 0 (fun S1 r => MQ below (QcV D cy base tS S1 r) args s 0 0 (AA base)) (X0_askBehind S k0 v1) S (F0 m 0 ls []) := by
  unfold X0_askBehind
  refine r_iconst (pc := 0) C (0 : Int32) dX0_askBehind_0 (by decide) ?_
  refine r_istore_n (lv2 := [(2, .int (0 : Int32)), (0, .ref (base + k0)), (1, .int v1)]) (pc := 1) C dX0_askBehind_1 rfl hl (Nat.le_of_ble_eq_true rfl) rfl (fun ls hl => ?_)
  refine lp_X0_askBehind_2 (ls := ls) C hr hk t0 (fun S30 v31 ls hl => ?_) FU S (0 : Int32) _ (lv_sub hl [1, 2, 0] rfl)
  exact r_vret (pc := 48) C hr hk dX0_askBehind_48

theorem ct_X0_askBehind (l : Launch) {D : va_G} {cy : Nat → ClassId} {base tS : Nat} {S : St} {k0 : Nat} {v1 : Int32} (t0 : cls k0 = 0) {S1 : St} {r1 : Unit} (h : X0_askBehind S k0 v1 = some (S1, r1)) : Met l yX0_askBehind (wsY yX0_askBehind cX0_askBehind 3 none) rm_X0_askBehind (va_Pc [.ref (base + k0), .int v1] (World D cy base tS S)) (QcV D cy base tS S1 r1) 0 0 (AA base) := conV rfl rfl (by decide) (Nat.le_of_ble_eq_true rfl) (fun p e s m args below meth c ls C hr hk hl => sm_X0_askBehind C hr hk t0 hl) h
theorem cv_X0_107 {p : Program} {l : Launch} {e : Env} {R : Room} {s : State} {m : MethodId} {args : Array Value} {below : List Frame} {meth : Method} {c : Code} {D : va_G} {cy : Nat → ClassId} {base tS nc ns : Nat} {cc : ByteArray} {nL pc : Nat} {ls : Array Slot} {rest : List Value} {S : St} {ρ : Type} {Q : St → ρ → State → Prop} (C : Cx p R s m args c RX0 cc nL D cy base tS nc ns) {k0 : Nat} {v1 : Int32} (t0 : cls k0 = 0) (hl : ls.size = nL) (hR : rm_X0_askBehind.frames + 1 ≤ R.frames ∧ 8 + (3 + 11) + rm_X0_askBehind.locals ≤ R.locals) {b : St → Unit → Option (St × ρ)} (hroom : (rest.map fun v => v.category).sum ≤ 8) (hd : decode cc pc = .ok (.invokevirtual 107, 3)) (kk : ∀ (S1 : St) (r : Unit), Sim p l e R s m args below meth c D cy base nc ns Q (b S1 r) S1 (F0 m (pc + 3) ls (rest))) : Sim p l e R s m args below meth c D cy base nc ns Q (bd (X0_askBehind S k0 v1) b) S (F0 m pc ls (.int v1 :: .ref (base + k0) :: rest)) := r_callVV (n := 1) (As := [.int v1]) C hl (rd_0 t0) (cls_lt t0 (by decide)) rfl (fun S1 r1 h => ct_X0_askBehind l t0 h) wd_339 wd_340 wd_341 wd_221 wd_342 rfl rfl (by decide +kernel) hR rfl rfl hroom hd kk
abbrev rm_X0_hearOfSlide : Room := { frames := 2, cells := 0, slots := 0, locals := 46 }
set_option maxHeartbeats 4000000 in
set_option maxRecDepth 100000 in
theorem sm_X0_hearOfSlide {p : Program} {l : Launch} {e : Env} {s : State} {m : MethodId} {args : Array Value} {below : List Frame} {meth : Method} {c : Code} {D : va_G} {cy : Nat → ClassId} {base tS : Nat} {S : St} {k0 : Nat} {v1 : Int32} {ls : Array Slot} (C : Cx p rm_X0_hearOfSlide s m args c RX0 cX0_hearOfSlide 2 D cy base tS 0 0) (hr : meth.sig.returnType = none) (hk : meth.locks = false) (t0 : cls k0 = 0) (hl : lv_has ls 2 [(0, .ref (base + k0)), (1, .int v1)]) : Sim p l e rm_X0_hearOfSlide s m args below meth c D cy base 0 0 (fun S1 r => MQ below (QcV D cy base tS S1 r) args s 0 0 (AA base)) (X0_hearOfSlide S k0 v1) S (F0 m 0 ls []) := by
  unfold X0_hearOfSlide
  refine r_aload_n (pc := 0) C dX0_hearOfSlide_0 rfl (lv_at hl 0 rfl) ?_
  refine gf_X0_18 (pc := 1) C t0 dX0_hearOfSlide_1 ?_
  refine r_iconst (pc := 4) C (4 : Int32) dX0_hearOfSlide_4 (by decide) ?_
  refine r_icmp_eq (pc := 5) C (tgt := 9) dX0_hearOfSlide_5 (by decide) (fun _ => ?_) (fun _ => ?_)
  · refine r_aload_n (pc := 9) C dX0_hearOfSlide_9 rfl (lv_at hl 0 rfl) ?_
    refine gf_X0_26 (pc := 10) C t0 dX0_hearOfSlide_10 ?_
    have t21 := ft_0_0 t0
    refine r_iload_n (pc := 13) C dX0_hearOfSlide_13 rfl (lv_at hl 1 rfl) ?_
    refine r_iconst (pc := 14) C (4 : Int32) dX0_hearOfSlide_14 (by decide) ?_
    refine cv_X0_99 (pc := 15) C t21 hl.1 ⟨Nat.le_of_ble_eq_true rfl, Nat.le_of_ble_eq_true rfl⟩ (Nat.le_of_ble_eq_true rfl) dX0_hearOfSlide_15 (fun S22 v23 => ?_)
    refine r_if_eq (pc := 18) C (tgt := 29) dX0_hearOfSlide_18 (by decide) (fun _ => ?_) (fun _ => ?_)
    · refine r_aload_n (pc := 29) C dX0_hearOfSlide_29 rfl (lv_at hl 0 rfl) ?_
      refine r_iload_n (pc := 30) C dX0_hearOfSlide_30 rfl (lv_at hl 1 rfl) ?_
      refine cv_X0_107 (pc := 31) C t0 hl.1 ⟨Nat.le_of_ble_eq_true rfl, Nat.le_of_ble_eq_true rfl⟩ (Nat.le_of_ble_eq_true rfl) dX0_hearOfSlide_31 (fun S24 _ => ?_)
      exact r_vret (pc := 34) C hr hk dX0_hearOfSlide_34
    · refine r_aload_n (pc := 21) C dX0_hearOfSlide_21 rfl (lv_at hl 0 rfl) ?_
      refine r_iload_n (pc := 22) C dX0_hearOfSlide_22 rfl (lv_at hl 1 rfl) ?_
      refine cv_X0_103 (pc := 23) C t0 hl.1 ⟨Nat.le_of_ble_eq_true rfl, Nat.le_of_ble_eq_true rfl⟩ (Nat.le_of_ble_eq_true rfl) dX0_hearOfSlide_23 (fun S25 _ => ?_)
      refine r_goto (pc := 26) C (tgt := 34) dX0_hearOfSlide_26 (by decide) ?_
      exact r_vret (pc := 34) C hr hk dX0_hearOfSlide_34
  · exact r_vret (pc := 8) C hr hk dX0_hearOfSlide_8

theorem ct_X0_hearOfSlide (l : Launch) {D : va_G} {cy : Nat → ClassId} {base tS : Nat} {S : St} {k0 : Nat} {v1 : Int32} (t0 : cls k0 = 0) {S1 : St} {r1 : Unit} (h : X0_hearOfSlide S k0 v1 = some (S1, r1)) : Met l yX0_hearOfSlide (wsY yX0_hearOfSlide cX0_hearOfSlide 2 none) rm_X0_hearOfSlide (va_Pc [.ref (base + k0), .int v1] (World D cy base tS S)) (QcV D cy base tS S1 r1) 0 0 (AA base) := conV rfl rfl (by decide) (Nat.le_of_ble_eq_true rfl) (fun p e s m args below meth c ls C hr hk hl => sm_X0_hearOfSlide C hr hk t0 hl) h
theorem cv_X10_190 {p : Program} {l : Launch} {e : Env} {R : Room} {s : State} {m : MethodId} {args : Array Value} {below : List Frame} {meth : Method} {c : Code} {D : va_G} {cy : Nat → ClassId} {base tS nc ns : Nat} {cc : ByteArray} {nL pc : Nat} {ls : Array Slot} {rest : List Value} {S : St} {ρ : Type} {Q : St → ρ → State → Prop} (C : Cx p R s m args c RX10 cc nL D cy base tS nc ns) {k0 : Nat} {v1 : Int32} (t0 : cls k0 = 0) (hl : ls.size = nL) (hR : rm_X0_hearOfSlide.frames + 1 ≤ R.frames ∧ 8 + (2 + 11) + rm_X0_hearOfSlide.locals ≤ R.locals) {b : St → Unit → Option (St × ρ)} (hroom : (rest.map fun v => v.category).sum ≤ 8) (hd : decode cc pc = .ok (.invokevirtual 190, 3)) (kk : ∀ (S1 : St) (r : Unit), Sim p l e R s m args below meth c D cy base nc ns Q (b S1 r) S1 (F0 m (pc + 3) ls (rest))) : Sim p l e R s m args below meth c D cy base nc ns Q (bd (X0_hearOfSlide S k0 v1) b) S (F0 m pc ls (.int v1 :: .ref (base + k0) :: rest)) := r_callVV (n := 1) (As := [.int v1]) C hl (rd_0 t0) (cls_lt t0 (by decide)) rfl (fun S1 r1 h => ct_X0_hearOfSlide l t0 h) wd_343 wd_344 wd_345 wd_221 wd_346 rfl rfl (by decide +kernel) hR rfl rfl hroom hd kk
abbrev rm_X2_stands : Room := { frames := 2, cells := 0, slots := 0, locals := 43 }
set_option maxHeartbeats 4000000 in
set_option maxRecDepth 100000 in
theorem sm_X2_stands {p : Program} {l : Launch} {e : Env} {s : State} {m : MethodId} {args : Array Value} {below : List Frame} {meth : Method} {c : Code} {D : va_G} {cy : Nat → ClassId} {base tS : Nat} {S : St} {k0 : Nat} {ls : Array Slot} (C : Cx p rm_X2_stands s m args c RX2 cX2_stands 1 D cy base tS 0 0) (hr : meth.sig.returnType = (some .boolean)) (hk : meth.locks = false) (t0 : cls k0 = 2) (hl : lv_has ls 1 [(0, .ref (base + k0))]) : Sim p l e rm_X2_stands s m args below meth c D cy base 0 0 (fun S1 r => MQ below (QcI D cy base tS S1 r) args s 0 0 (AA base)) (X2_stands S k0) S (F0 m 0 ls []) := by
  unfold X2_stands
  refine r_aload_n (pc := 0) C dX2_stands_0 rfl (lv_at hl 0 rfl) ?_
  refine cv_X2_45 (pc := 1) C t0 hl.1 ⟨Nat.le_of_ble_eq_true rfl, Nat.le_of_ble_eq_true rfl⟩ (Nat.le_of_ble_eq_true rfl) dX2_stands_1 (fun S21 v22 => ?_)
  refine r_iconst (pc := 4) C (-1 : Int32) dX2_stands_4 (by decide) ?_
  refine r_icmp_ne (pc := 5) C (tgt := 12) dX2_stands_5 (by decide) (fun _ => ?_) (fun _ => ?_)
  · refine r_iconst (pc := 12) C (0 : Int32) dX2_stands_12 (by decide) ?_
    exact r_zret (pc := 13) C rfl hr hk dX2_stands_13
  · refine r_iconst (pc := 8) C (1 : Int32) dX2_stands_8 (by decide) ?_
    refine r_goto (pc := 9) C (tgt := 13) dX2_stands_9 (by decide) ?_
    exact r_zret (pc := 13) C rfl hr hk dX2_stands_13

theorem ct_X2_stands (l : Launch) {D : va_G} {cy : Nat → ClassId} {base tS : Nat} {S : St} {k0 : Nat} (t0 : cls k0 = 2) {S1 : St} {r1 : Int32} (h : X2_stands S k0 = some (S1, r1)) : Met l yX2_stands (wsY yX2_stands cX2_stands 1 (some .boolean)) rm_X2_stands (va_Pc [.ref (base + k0)] (World D cy base tS S)) (QcI D cy base tS S1 r1) 0 0 (AA base) := conI rfl rfl (by decide) (Nat.le_of_ble_eq_true rfl) (fun p e s m args below meth c ls C hr hk hl => sm_X2_stands C hr hk t0 hl) h
theorem cv_X10_194 {p : Program} {l : Launch} {e : Env} {R : Room} {s : State} {m : MethodId} {args : Array Value} {below : List Frame} {meth : Method} {c : Code} {D : va_G} {cy : Nat → ClassId} {base tS nc ns : Nat} {cc : ByteArray} {nL pc : Nat} {ls : Array Slot} {rest : List Value} {S : St} {ρ : Type} {Q : St → ρ → State → Prop} (C : Cx p R s m args c RX10 cc nL D cy base tS nc ns) {k0 : Nat} (t0 : cls k0 = 2) (hl : ls.size = nL) (hR : rm_X2_stands.frames + 1 ≤ R.frames ∧ 8 + (1 + 11) + rm_X2_stands.locals ≤ R.locals) {b : St → Int32 → Option (St × ρ)} (hroom : (rest.map fun v => v.category).sum ≤ 8) (hd : decode cc pc = .ok (.invokevirtual 194, 3)) (kk : ∀ (S1 : St) (r : Int32), Sim p l e R s m args below meth c D cy base nc ns Q (b S1 r) S1 (F0 m (pc + 3) ls (.int r :: rest))) : Sim p l e R s m args below meth c D cy base nc ns Q (bd (X2_stands S k0) b) S (F0 m pc ls (.ref (base + k0) :: rest)) := r_callVI (n := 0) (As := []) C hl (rd_2 t0) (cls_lt t0 (by decide)) rfl (fun S1 r1 h => ct_X2_stands l t0 h) wd_347 wd_348 wd_349 wd_231 wd_350 rfl rfl (by decide +kernel) hR rfl rfl hroom hd kk
theorem cv_X2_74 {p : Program} {l : Launch} {e : Env} {R : Room} {s : State} {m : MethodId} {args : Array Value} {below : List Frame} {meth : Method} {c : Code} {D : va_G} {cy : Nat → ClassId} {base tS nc ns : Nat} {cc : ByteArray} {nL pc : Nat} {ls : Array Slot} {rest : List Value} {S : St} {ρ : Type} {Q : St → ρ → State → Prop} (C : Cx p R s m args c RX2 cc nL D cy base tS nc ns) {k0 : Nat} (t0 : cls k0 = 2) (hl : ls.size = nL) (hR : rm_X2_stands.frames + 1 ≤ R.frames ∧ 8 + (1 + 11) + rm_X2_stands.locals ≤ R.locals) {b : St → Int32 → Option (St × ρ)} (hroom : (rest.map fun v => v.category).sum ≤ 8) (hd : decode cc pc = .ok (.invokevirtual 74, 3)) (kk : ∀ (S1 : St) (r : Int32), Sim p l e R s m args below meth c D cy base nc ns Q (b S1 r) S1 (F0 m (pc + 3) ls (.int r :: rest))) : Sim p l e R s m args below meth c D cy base nc ns Q (bd (X2_stands S k0) b) S (F0 m pc ls (.ref (base + k0) :: rest)) := r_callVI (n := 0) (As := []) C hl (rd_2 t0) (cls_lt t0 (by decide)) rfl (fun S1 r1 h => ct_X2_stands l t0 h) wd_351 wd_348 wd_349 wd_231 wd_350 rfl rfl (by decide +kernel) hR rfl rfl hroom hd kk
abbrev rm_X10_run : Room := { frames := 4, cells := 0, slots := 0, locals := 86 }
set_option maxHeartbeats 4000000 in
set_option maxRecDepth 100000 in
theorem lp_X10_run_49 {p : Program} {l : Launch} {e : Env} {s : State} {m : MethodId} {args : Array Value} {below : List Frame} {meth : Method} {c : Code} {D : va_G} {cy : Nat → ClassId} {base tS : Nat} {ls : Array Slot} (C : Cx p rm_X10_run s m args c RX10 cX10_run 4 D cy base tS 0 0) (hr : meth.sig.returnType = (some .int)) (hk : meth.locks = false) {k0 : Nat} {v1 : Int32} (t0 : cls k0 = 10) {K : St → Int32 → Option (St × Int32)} (hK : ∀ (S : St) (v2 : Int32) (ls : Array Slot), lv_has ls 4 [(0, .ref (base + k0)), (1, .int v1), (2, .int v2)] → Sim p l e rm_X10_run s m args below meth c D cy base 0 0 (fun S1 r => MQ below (QcI D cy base tS S1 r) args s 0 0 (AA base)) (K S v2) S (F0 m 110 ls [])) : ∀ (n : Nat) (S : St) (v2 : Int32) (ls : Array Slot), lv_has ls 4 [(0, .ref (base + k0)), (1, .int v1), (2, .int v2)] → Sim p l e rm_X10_run s m args below meth c D cy base 0 0 (fun S1 r => MQ below (QcI D cy base tS S1 r) args s 0 0 (AA base)) (X10_run_49 k0 v1 K n S v2) S (F0 m 49 ls []) := by
  intro n
  induction n with
  | zero => intro S v2 ls hl; exact Sim.none
  | succ n ih =>
    intro S v2 ls hl
    rw [X10_run_49]
    refine r_iload_n (pc := 49) C dX10_run_49 rfl (lv_at hl 2 rfl) ?_
    refine r_iload_n (pc := 50) C dX10_run_50 rfl (lv_at hl 1 rfl) ?_
    refine r_icmp_ge (pc := 51) C (tgt := 110) dX10_run_51 (by decide) (fun _ => ?_) (fun _ => ?_)
    · exact hK S v2 _ (lv_sub hl [0, 1, 2] rfl)
    · refine r_aload_n (pc := 54) C dX10_run_54 rfl (lv_at hl 0 rfl) ?_
      refine gf_X10_33 (pc := 55) C t0 dX10_run_55 ?_
      have t29 := ft_10_3 t0
      refine cv_X10_187 (pc := 58) C t29 hl.1 ⟨Nat.le_of_ble_eq_true rfl, Nat.le_of_ble_eq_true rfl⟩ (Nat.le_of_ble_eq_true rfl) dX10_run_58 (fun S30 v31 => ?_)
      refine r_istore_n (lv2 := [(3, .int v31), (0, .ref (base + k0)), (1, .int v1), (2, .int v2)]) (pc := 61) C dX10_run_61 rfl hl (Nat.le_of_ble_eq_true rfl) rfl (fun ls hl => ?_)
      refine r_iload_n (pc := 62) C dX10_run_62 rfl (lv_at hl 0 rfl) ?_
      refine r_iconst (pc := 63) C (-1 : Int32) dX10_run_63 (by decide) ?_
      refine r_icmp_ne (pc := 64) C (tgt := 69) dX10_run_64 (by decide) (fun _ => ?_) (fun _ => ?_)
      · refine r_aload_n (pc := 69) C dX10_run_69 rfl (lv_at hl 1 rfl) ?_
        refine gf_X10_21 (pc := 70) C t0 dX10_run_70 ?_
        have t32 := ft_10_1 t0
        refine r_iload_n (pc := 73) C dX10_run_73 rfl (lv_at hl 0 rfl) ?_
        refine cv_X10_163 (pc := 74) C t32 hl.1 ⟨Nat.le_of_ble_eq_true rfl, Nat.le_of_ble_eq_true rfl⟩ (Nat.le_of_ble_eq_true rfl) dX10_run_74 (fun S33 v34 => ?_)
        refine r_if_eq (pc := 77) C (tgt := 87) dX10_run_77 (by decide) (fun _ => ?_) (fun _ => ?_)
        · refine r_aload_n (pc := 87) C dX10_run_87 rfl (lv_at hl 1 rfl) ?_
          refine gf_X10_21 (pc := 88) C t0 dX10_run_88 ?_
          have t35 := ft_10_1 t0
          refine r_iload_n (pc := 91) C dX10_run_91 rfl (lv_at hl 0 rfl) ?_
          refine cv_X10_166 (pc := 92) C t35 hl.1 ⟨Nat.le_of_ble_eq_true rfl, Nat.le_of_ble_eq_true rfl⟩ (Nat.le_of_ble_eq_true rfl) dX10_run_92 (fun S36 v37 => ?_)
          refine r_pop (pc := 95) C dX10_run_95 rfl ?_
          refine r_aload_n (pc := 96) C dX10_run_96 rfl (lv_at hl 1 rfl) ?_
          refine gf_X10_33 (pc := 97) C t0 dX10_run_97 ?_
          have t38 := ft_10_3 t0
          refine r_iload_n (pc := 100) C dX10_run_100 rfl (lv_at hl 0 rfl) ?_
          refine cv_X10_190 (pc := 101) C t38 hl.1 ⟨Nat.le_of_ble_eq_true rfl, Nat.le_of_ble_eq_true rfl⟩ (Nat.le_of_ble_eq_true rfl) dX10_run_101 (fun S39 _ => ?_)
          refine r_iinc (pc := 104) C (k := 3) (1 : Int32) (fun v40 => [(2, .int v40), (3, .int v31), (0, .ref (base + k0)), (1, .int v1)]) dX10_run_104 hl rfl (by decide) (Nat.le_of_ble_eq_true rfl) (fun _ => rfl) (fun v40 ls hl => ?_)
          refine r_goto (pc := 107) C (tgt := 49) dX10_run_107 (by decide) ?_
          exact ih S39 v40 _ (lv_sub hl [2, 3, 0] rfl)
        · refine r_aload_n (pc := 80) C dX10_run_80 rfl (lv_at hl 1 rfl) ?_
          refine r_bipush (pc := 81) C (-5 : Int32) dX10_run_81 (by decide) ?_
          refine cv_X10_96 (pc := 83) C t0 hl.1 ⟨Nat.le_of_ble_eq_true rfl, Nat.le_of_ble_eq_true rfl⟩ (Nat.le_of_ble_eq_true rfl) dX10_run_83 (fun S41 v42 => ?_)
          exact r_iret (pc := 86) C hr hk dX10_run_86
      · refine r_iload_n (pc := 67) C dX10_run_67 rfl (lv_at hl 3 rfl) ?_
        exact r_iret (pc := 68) C hr hk dX10_run_68

set_option maxHeartbeats 4000000 in
set_option maxRecDepth 100000 in
theorem sm_X10_run {p : Program} {l : Launch} {e : Env} {s : State} {m : MethodId} {args : Array Value} {below : List Frame} {meth : Method} {c : Code} {D : va_G} {cy : Nat → ClassId} {base tS : Nat} {S : St} {k0 : Nat} {v1 : Int32} {ls : Array Slot} (C : Cx p rm_X10_run s m args c RX10 cX10_run 4 D cy base tS 0 0) (hr : meth.sig.returnType = (some .int)) (hk : meth.locks = false) (t0 : cls k0 = 10) (hl : lv_has ls 4 [(0, .ref (base + k0)), (1, .int v1)]) : Sim p l e rm_X10_run s m args below meth c D cy base 0 0 (fun S1 r => MQ below (QcI D cy base tS S1 r) args s 0 0 (AA base)) (X10_run S k0 v1) S (F0 m 0 ls []) := by
  unfold X10_run
  refine r_iload_n (pc := 0) C dX10_run_0 rfl (lv_at hl 1 rfl) ?_
  refine r_iconst (pc := 1) C (1 : Int32) dX10_run_1 (by decide) ?_
  refine r_join (fun (j : St → Option (St × Int32)) => ∀ (S22 : St)  (ls : Array Slot), lv_has ls 4 [(0, .ref (base + k0))] → Sim p l e rm_X10_run s m args below meth c D cy base 0 0 (fun S1 r => MQ below (QcI D cy base tS S1 r) args s 0 0 (AA base)) (j S22) S22 (F0 m 12 ls [])) ?_ (fun j21 hj21 => ?_)
  · intro S22 ls hl
    refine r_aload_n (pc := 12) C dX10_run_12 rfl (lv_at hl 0 rfl) ?_
    refine r_iconst (pc := 13) C (-1 : Int32) dX10_run_13 (by decide) ?_
    refine cv_X10_96 (pc := 14) C t0 hl.1 ⟨Nat.le_of_ble_eq_true rfl, Nat.le_of_ble_eq_true rfl⟩ (Nat.le_of_ble_eq_true rfl) dX10_run_14 (fun S23 v24 => ?_)
    exact r_iret (pc := 17) C hr hk dX10_run_17
  refine r_icmp_lt (pc := 2) C (tgt := 12) dX10_run_2 (by decide) (fun _ => ?_) (fun _ => ?_)
  · exact hj21 S  _ (lv_sub hl [0] rfl)
  · refine r_iload_n (pc := 5) C dX10_run_5 rfl (lv_at hl 1 rfl) ?_
    refine r_sipush (pc := 6) C (5000 : Int32) dX10_run_6 (by decide) ?_
    refine r_icmp_le (pc := 9) C (tgt := 18) dX10_run_9 (by decide) (fun _ => ?_) (fun _ => ?_)
    · refine r_aload_n (pc := 18) C dX10_run_18 rfl (lv_at hl 0 rfl) ?_
      refine gf_X10_92 (pc := 19) C t0 dX10_run_19 ?_
      refine r_if_ne (pc := 22) C (tgt := 32) dX10_run_22 (by decide) (fun _ => ?_) (fun _ => ?_)
      · refine r_aload_n (pc := 32) C dX10_run_32 rfl (lv_at hl 0 rfl) ?_
        refine gf_X10_40 (pc := 33) C t0 dX10_run_33 ?_
        have t25 := ft_10_4 t0
        refine r_aload_n (pc := 36) C dX10_run_36 rfl (lv_at hl 0 rfl) ?_
        refine gf_X10_21 (pc := 37) C t0 dX10_run_37 ?_
        have t26 := ft_10_1 t0
        refine r_aload_n (pc := 40) C dX10_run_40 rfl (lv_at hl 0 rfl) ?_
        refine gf_X10_33 (pc := 41) C t0 dX10_run_41 ?_
        have t27 := ft_10_3 t0
        refine cv_X10_146 (pc := 44) C t25 t26 t27 hl.1 ⟨Nat.le_of_ble_eq_true rfl, Nat.le_of_ble_eq_true rfl⟩ (Nat.le_of_ble_eq_true rfl) dX10_run_44 (fun S28 _ => ?_)
        refine r_iconst (pc := 47) C (0 : Int32) dX10_run_47 (by decide) ?_
        refine r_istore_n (lv2 := [(2, .int (0 : Int32)), (0, .ref (base + k0)), (1, .int v1)]) (pc := 48) C dX10_run_48 rfl hl (Nat.le_of_ble_eq_true rfl) rfl (fun ls hl => ?_)
        refine lp_X10_run_49 (ls := ls) C hr hk t0 (fun S43 v44 ls hl => ?_) FU S28 (0 : Int32) _ (lv_sub hl [1, 2, 0] rfl)
        refine r_aload_n (pc := 110) C dX10_run_110 rfl (lv_at hl 0 rfl) ?_
        refine gf_X10_21 (pc := 111) C t0 dX10_run_111 ?_
        have t45 := ft_10_1 t0
        refine cv_X10_194 (pc := 114) C t45 hl.1 ⟨Nat.le_of_ble_eq_true rfl, Nat.le_of_ble_eq_true rfl⟩ (Nat.le_of_ble_eq_true rfl) dX10_run_114 (fun S46 v47 => ?_)
        refine r_if_eq (pc := 117) C (tgt := 124) dX10_run_117 (by decide) (fun _ => ?_) (fun _ => ?_)
        · refine r_aload_n (pc := 124) C dX10_run_124 rfl (lv_at hl 0 rfl) ?_
          refine r_bipush (pc := 125) C (-9 : Int32) dX10_run_125 (by decide) ?_
          refine cv_X10_96 (pc := 127) C t0 hl.1 ⟨Nat.le_of_ble_eq_true rfl, Nat.le_of_ble_eq_true rfl⟩ (Nat.le_of_ble_eq_true rfl) dX10_run_127 (fun S48 v49 => ?_)
          exact r_iret (pc := 130) C hr hk dX10_run_130
        · refine r_iload_n (pc := 120) C dX10_run_120 rfl (lv_at hl 1 rfl) ?_
          refine r_goto (pc := 121) C (tgt := 130) dX10_run_121 (by decide) ?_
          exact r_iret (pc := 130) C hr hk dX10_run_130
      · refine r_aload_n (pc := 25) C dX10_run_25 rfl (lv_at hl 0 rfl) ?_
        refine r_bipush (pc := 26) C (-8 : Int32) dX10_run_26 (by decide) ?_
        refine cv_X10_96 (pc := 28) C t0 hl.1 ⟨Nat.le_of_ble_eq_true rfl, Nat.le_of_ble_eq_true rfl⟩ (Nat.le_of_ble_eq_true rfl) dX10_run_28 (fun S50 v51 => ?_)
        exact r_iret (pc := 31) C hr hk dX10_run_31
    · exact hj21 S  _ (lv_sub hl [0] rfl)

theorem ct_X10_run (l : Launch) {D : va_G} {cy : Nat → ClassId} {base tS : Nat} {S : St} {k0 : Nat} {v1 : Int32} (t0 : cls k0 = 10) {S1 : St} {r1 : Int32} (h : X10_run S k0 v1 = some (S1, r1)) : Met l yX10_run (wsY yX10_run cX10_run 4 (some .int)) rm_X10_run (va_Pc [.ref (base + k0), .int v1] (World D cy base tS S)) (QcI D cy base tS S1 r1) 0 0 (AA base) := conI rfl rfl (by decide) (Nat.le_of_ble_eq_true rfl) (fun p e s m args below meth c ls C hr hk hl => sm_X10_run C hr hk t0 hl) h
abbrev rm_X10_odometer : Room := { frames := 1, cells := 0, slots := 0, locals := 21 }
set_option maxHeartbeats 4000000 in
set_option maxRecDepth 100000 in
theorem sm_X10_odometer {p : Program} {l : Launch} {e : Env} {s : State} {m : MethodId} {args : Array Value} {below : List Frame} {meth : Method} {c : Code} {D : va_G} {cy : Nat → ClassId} {base tS : Nat} {S : St} {k0 : Nat} {v1 : Int32} {ls : Array Slot} (C : Cx p rm_X10_odometer s m args c RX10 cX10_odometer 2 D cy base tS 0 0) (hr : meth.sig.returnType = (some .long)) (hk : meth.locks = false) (t0 : cls k0 = 10) (hl : lv_has ls 2 [(0, .ref (base + k0)), (1, .int v1)]) : Sim p l e rm_X10_odometer s m args below meth c D cy base 0 0 (fun S1 r => MQ below (QcJ D cy base tS S1 r) args s 0 0 (AA base)) (X10_odometer S k0 v1) S (F0 m 0 ls []) := by
  unfold X10_odometer
  refine r_aload_n (pc := 0) C dX10_odometer_0 rfl (lv_at hl 0 rfl) ?_
  refine gf_X10_10 (pc := 1) C t0 dX10_odometer_1 ?_
  have t21 := ft_10_0 t0
  refine r_iload_n (pc := 4) C dX10_odometer_4 rfl (lv_at hl 1 rfl) ?_
  refine cv_X10_107 (pc := 5) C t21 hl.1 ⟨Nat.le_of_ble_eq_true rfl, Nat.le_of_ble_eq_true rfl⟩ (Nat.le_of_ble_eq_true rfl) dX10_odometer_5 (fun S22 v23 => ?_)
  refine r_if_ne (pc := 8) C (tgt := 18) dX10_odometer_8 (by decide) (fun _ => ?_) (fun _ => ?_)
  · refine r_aload_n (pc := 18) C dX10_odometer_18 rfl (lv_at hl 0 rfl) ?_
    refine gf_X10_21 (pc := 19) C t0 dX10_odometer_19 ?_
    have t24 := ft_10_1 t0
    refine gf_X10_198 (pc := 22) C t24 dX10_odometer_22 ?_
    have t25 := ft_2_3 t24
    refine r_iload_n (pc := 25) C dX10_odometer_25 rfl (lv_at hl 1 rfl) ?_
    refine r_lald (pc := 26) C t25 dX10_odometer_26 ?_
    exact r_lret (pc := 27) C hr hk dX10_odometer_27
  · refine r_aload_n (pc := 11) C dX10_odometer_11 rfl (lv_at hl 0 rfl) ?_
    refine r_iconst (pc := 12) C (-1 : Int32) dX10_odometer_12 (by decide) ?_
    refine cv_X10_96 (pc := 13) C t0 hl.1 ⟨Nat.le_of_ble_eq_true rfl, Nat.le_of_ble_eq_true rfl⟩ (Nat.le_of_ble_eq_true rfl) dX10_odometer_13 (fun S26 v27 => ?_)
    refine r_i2l (pc := 16) C dX10_odometer_16 ?_
    exact r_lret (pc := 17) C hr hk dX10_odometer_17

theorem ct_X10_odometer (l : Launch) {D : va_G} {cy : Nat → ClassId} {base tS : Nat} {S : St} {k0 : Nat} {v1 : Int32} (t0 : cls k0 = 10) {S1 : St} {r1 : Int64} (h : X10_odometer S k0 v1 = some (S1, r1)) : Met l yX10_odometer (wsY yX10_odometer cX10_odometer 2 (some .long)) rm_X10_odometer (va_Pc [.ref (base + k0), .int v1] (World D cy base tS S)) (QcJ D cy base tS S1 r1) 0 0 (AA base) := conJ rfl rfl (by decide) (Nat.le_of_ble_eq_true rfl) (fun p e s m args below meth c ls C hr hk hl => sm_X10_odometer C hr hk t0 hl) h
abbrev rm_X10_reset : Room := { frames := 1, cells := 0, slots := 0, locals := 20 }
set_option maxHeartbeats 4000000 in
set_option maxRecDepth 100000 in
theorem lp_X10_reset_4 {p : Program} {l : Launch} {e : Env} {s : State} {m : MethodId} {args : Array Value} {below : List Frame} {meth : Method} {c : Code} {D : va_G} {cy : Nat → ClassId} {base tS : Nat} {ls : Array Slot} (C : Cx p rm_X10_reset s m args c RX10 cX10_reset 3 D cy base tS 0 0) (hr : meth.sig.returnType = (some .int)) (hk : meth.locks = false) {k0 : Nat} (t0 : cls k0 = 10) {K : St → Int32 → Int32 → Option (St × Int32)} (hK : ∀ (S : St) (v1 : Int32) (v2 : Int32) (ls : Array Slot), lv_has ls 3 [(0, .ref (base + k0)), (1, .int v1), (2, .int v2)] → Sim p l e rm_X10_reset s m args below meth c D cy base 0 0 (fun S1 r => MQ below (QcI D cy base tS S1 r) args s 0 0 (AA base)) (K S v1 v2) S (F0 m 48 ls [])) : ∀ (n : Nat) (S : St) (v1 : Int32) (v2 : Int32) (ls : Array Slot), lv_has ls 3 [(0, .ref (base + k0)), (1, .int v1), (2, .int v2)] → Sim p l e rm_X10_reset s m args below meth c D cy base 0 0 (fun S1 r => MQ below (QcI D cy base tS S1 r) args s 0 0 (AA base)) (X10_reset_4 k0 K n S v1 v2) S (F0 m 4 ls []) := by
  intro n
  induction n with
  | zero => intro S v1 v2 ls hl; exact Sim.none
  | succ n ih =>
    intro S v1 v2 ls hl
    rw [X10_reset_4]
    refine r_iload_n (pc := 4) C dX10_reset_4 rfl (lv_at hl 2 rfl) ?_
    refine r_aload_n (pc := 5) C dX10_reset_5 rfl (lv_at hl 0 rfl) ?_
    refine gf_X10_10 (pc := 6) C t0 dX10_reset_6 ?_
    have t21 := ft_10_0 t0
    refine gf_X10_100 (pc := 9) C t21 dX10_reset_9 ?_
    refine r_icmp_ge (pc := 12) C (tgt := 48) dX10_reset_12 (by decide) (fun _ => ?_) (fun _ => ?_)
    · exact hK S v1 v2 _ (lv_sub hl [0, 1, 2] rfl)
    · refine r_aload_n (pc := 15) C dX10_reset_15 rfl (lv_at hl 0 rfl) ?_
      refine gf_X10_21 (pc := 16) C t0 dX10_reset_16 ?_
      have t22 := ft_10_1 t0
      refine gf_X10_198 (pc := 19) C t22 dX10_reset_19 ?_
      have t23 := ft_2_3 t22
      refine r_iload_n (pc := 22) C dX10_reset_22 rfl (lv_at hl 2 rfl) ?_
      refine r_lald (pc := 23) C t23 dX10_reset_23 ?_
      refine r_lconst (pc := 24) C (0 : Int64) dX10_reset_24 (by decide) ?_
      refine r_join (fun (j : St → Int32 → Option (St × Int32)) => ∀ (S25 : St) (v26 : Int32) (ls : Array Slot), lv_has ls 3 [(0, .ref (base + k0)), (1, .int v26), (2, .int v2)] → Sim p l e rm_X10_reset s m args below meth c D cy base 0 0 (fun S1 r => MQ below (QcI D cy base tS S1 r) args s 0 0 (AA base)) (j S25 v26) S25 (F0 m 32 ls [])) ?_ (fun j24 hj24 => ?_)
      · intro S25 v26 ls hl
        refine r_aload_n (pc := 32) C dX10_reset_32 rfl (lv_at hl 0 rfl) ?_
        refine gf_X10_21 (pc := 33) C t0 dX10_reset_33 ?_
        have t27 := ft_10_1 t0
        refine gf_X10_198 (pc := 36) C t27 dX10_reset_36 ?_
        have t28 := ft_2_3 t27
        refine r_iload_n (pc := 39) C dX10_reset_39 rfl (lv_at hl 2 rfl) ?_
        refine r_lconst (pc := 40) C (0 : Int64) dX10_reset_40 (by decide) ?_
        refine r_last (pc := 41) C t28 dX10_reset_41 (fun S29 => ?_)
        refine r_iinc (pc := 42) C (k := 2) (1 : Int32) (fun v30 => [(2, .int v30), (0, .ref (base + k0)), (1, .int v26)]) dX10_reset_42 hl rfl (by decide) (Nat.le_of_ble_eq_true rfl) (fun _ => rfl) (fun v30 ls hl => ?_)
        refine r_goto (pc := 45) C (tgt := 4) dX10_reset_45 (by decide) ?_
        exact ih S29 v26 v30 _ (lv_sub hl [1, 2, 0] rfl)
      refine r_lcmp_eq (pc := 25) C (tgt := 32) dX10_reset_25 dX10_reset_26 (by decide) (fun _ => ?_) (fun _ => ?_)
      · exact hj24 S v1 _ (lv_sub hl [0, 1, 2] rfl)
      · refine r_iinc (pc := 29) C (k := 1) (1 : Int32) (fun v31 => [(1, .int v31), (0, .ref (base + k0)), (2, .int v2)]) dX10_reset_29 hl rfl (by decide) (Nat.le_of_ble_eq_true rfl) (fun _ => rfl) (fun v31 ls hl => ?_)
        exact hj24 S v31 _ (lv_sub hl [1, 0, 2] rfl)

set_option maxHeartbeats 4000000 in
set_option maxRecDepth 100000 in
theorem sm_X10_reset {p : Program} {l : Launch} {e : Env} {s : State} {m : MethodId} {args : Array Value} {below : List Frame} {meth : Method} {c : Code} {D : va_G} {cy : Nat → ClassId} {base tS : Nat} {S : St} {k0 : Nat} {ls : Array Slot} (C : Cx p rm_X10_reset s m args c RX10 cX10_reset 3 D cy base tS 0 0) (hr : meth.sig.returnType = (some .int)) (hk : meth.locks = false) (t0 : cls k0 = 10) (hl : lv_has ls 3 [(0, .ref (base + k0))]) : Sim p l e rm_X10_reset s m args below meth c D cy base 0 0 (fun S1 r => MQ below (QcI D cy base tS S1 r) args s 0 0 (AA base)) (X10_reset S k0) S (F0 m 0 ls []) := by
  unfold X10_reset
  refine r_iconst (pc := 0) C (0 : Int32) dX10_reset_0 (by decide) ?_
  refine r_istore_n (lv2 := [(1, .int (0 : Int32)), (0, .ref (base + k0))]) (pc := 1) C dX10_reset_1 rfl hl (Nat.le_of_ble_eq_true rfl) rfl (fun ls hl => ?_)
  refine r_iconst (pc := 2) C (0 : Int32) dX10_reset_2 (by decide) ?_
  refine r_istore_n (lv2 := [(2, .int (0 : Int32)), (1, .int (0 : Int32)), (0, .ref (base + k0))]) (pc := 3) C dX10_reset_3 rfl hl (Nat.le_of_ble_eq_true rfl) rfl (fun ls hl => ?_)
  refine lp_X10_reset_4 (ls := ls) C hr hk t0 (fun S32 v33 v34 ls hl => ?_) FU S (0 : Int32) (0 : Int32) _ (lv_sub hl [2, 1, 0] rfl)
  refine r_aload_n (pc := 48) C dX10_reset_48 rfl (lv_at hl 0 rfl) ?_
  refine gf_X10_40 (pc := 49) C t0 dX10_reset_49 ?_
  have t35 := ft_10_4 t0
  refine cv_X10_134 (pc := 52) C t35 hl.1 ⟨Nat.le_of_ble_eq_true rfl, Nat.le_of_ble_eq_true rfl⟩ (Nat.le_of_ble_eq_true rfl) dX10_reset_52 (fun S36 _ => ?_)
  refine r_iload_n (pc := 55) C dX10_reset_55 rfl (lv_at hl 1 rfl) ?_
  exact r_iret (pc := 56) C hr hk dX10_reset_56

theorem ct_X10_reset (l : Launch) {D : va_G} {cy : Nat → ClassId} {base tS : Nat} {S : St} {k0 : Nat} (t0 : cls k0 = 10) {S1 : St} {r1 : Int32} (h : X10_reset S k0 = some (S1, r1)) : Met l yX10_reset (wsY yX10_reset cX10_reset 3 (some .int)) rm_X10_reset (va_Pc [.ref (base + k0)] (World D cy base tS S)) (QcI D cy base tS S1 r1) 0 0 (AA base) := conI rfl rfl (by decide) (Nat.le_of_ble_eq_true rfl) (fun p e s m args below meth c ls C hr hk hl => sm_X10_reset C hr hk t0 hl) h
abbrev rm_X7_isTwoWay : Room := { frames := 0, cells := 0, slots := 0, locals := 0 }
set_option maxHeartbeats 4000000 in
set_option maxRecDepth 100000 in
theorem lp_X7_isTwoWay_12 {p : Program} {l : Launch} {e : Env} {s : State} {m : MethodId} {args : Array Value} {below : List Frame} {meth : Method} {c : Code} {D : va_G} {cy : Nat → ClassId} {base tS : Nat} {ls : Array Slot} (C : Cx p rm_X7_isTwoWay s m args c RX7 cX7_isTwoWay 3 D cy base tS 0 0) (hr : meth.sig.returnType = (some .boolean)) (hk : meth.locks = false) {k0 : Nat} {v1 : Int32} (t0 : cls k0 = 7) {K : St → Int32 → Option (St × Int32)} (hK : ∀ (S : St) (v2 : Int32) (ls : Array Slot), lv_has ls 3 [(0, .ref (base + k0)), (1, .int v1), (2, .int v2)] → Sim p l e rm_X7_isTwoWay s m args below meth c D cy base 0 0 (fun S1 r => MQ below (QcI D cy base tS S1 r) args s 0 0 (AA base)) (K S v2) S (F0 m 44 ls [])) : ∀ (n : Nat) (S : St) (v2 : Int32) (ls : Array Slot), lv_has ls 3 [(0, .ref (base + k0)), (1, .int v1), (2, .int v2)] → Sim p l e rm_X7_isTwoWay s m args below meth c D cy base 0 0 (fun S1 r => MQ below (QcI D cy base tS S1 r) args s 0 0 (AA base)) (X7_isTwoWay_12 k0 v1 K n S v2) S (F0 m 12 ls []) := by
  intro n
  induction n with
  | zero => intro S v2 ls hl; exact Sim.none
  | succ n ih =>
    intro S v2 ls hl
    rw [X7_isTwoWay_12]
    refine r_iload_n (pc := 12) C dX7_isTwoWay_12 rfl (lv_at hl 2 rfl) ?_
    refine r_iload_n (pc := 13) C dX7_isTwoWay_13 rfl (lv_at hl 1 rfl) ?_
    refine r_icmp_ge (pc := 14) C (tgt := 44) dX7_isTwoWay_14 (by decide) (fun _ => ?_) (fun _ => ?_)
    · exact hK S v2 _ (lv_sub hl [0, 1, 2] rfl)
    · refine r_aload_n (pc := 17) C dX7_isTwoWay_17 rfl (lv_at hl 0 rfl) ?_
      refine gf_X7_17 (pc := 18) C t0 dX7_isTwoWay_18 ?_
      have t21 := ft_7_1 t0
      refine r_iload_n (pc := 21) C dX7_isTwoWay_21 rfl (lv_at hl 1 rfl) ?_
      refine r_aald17 (pc := 22) C t21 dX7_isTwoWay_22 (fun b23 => ?_)
      have t22 := et_17_12 t21 b23
      refine r_iload_n (pc := 23) C dX7_isTwoWay_23 rfl (lv_at hl 2 rfl) ?_
      refine r_iald (pc := 24) C t22 dX7_isTwoWay_24 ?_
      refine r_aload_n (pc := 25) C dX7_isTwoWay_25 rfl (lv_at hl 0 rfl) ?_
      refine gf_X7_17 (pc := 26) C t0 dX7_isTwoWay_26 ?_
      have t24 := ft_7_1 t0
      refine r_iload_n (pc := 29) C dX7_isTwoWay_29 rfl (lv_at hl 2 rfl) ?_
      refine r_aald17 (pc := 30) C t24 dX7_isTwoWay_30 (fun b26 => ?_)
      have t25 := et_17_12 t24 b26
      refine r_iload_n (pc := 31) C dX7_isTwoWay_31 rfl (lv_at hl 1 rfl) ?_
      refine r_iald (pc := 32) C t25 dX7_isTwoWay_32 ?_
      refine r_icmp_eq (pc := 33) C (tgt := 38) dX7_isTwoWay_33 (by decide) (fun _ => ?_) (fun _ => ?_)
      · refine r_iinc (pc := 38) C (k := 2) (1 : Int32) (fun v27 => [(2, .int v27), (0, .ref (base + k0)), (1, .int v1)]) dX7_isTwoWay_38 hl rfl (by decide) (Nat.le_of_ble_eq_true rfl) (fun _ => rfl) (fun v27 ls hl => ?_)
        refine r_goto (pc := 41) C (tgt := 12) dX7_isTwoWay_41 (by decide) ?_
        exact ih S v27 _ (lv_sub hl [1, 2, 0] rfl)
      · refine r_iconst (pc := 36) C (0 : Int32) dX7_isTwoWay_36 (by decide) ?_
        exact r_zret (pc := 37) C rfl hr hk dX7_isTwoWay_37

set_option maxHeartbeats 4000000 in
set_option maxRecDepth 100000 in
theorem lp_X7_isTwoWay_2 {p : Program} {l : Launch} {e : Env} {s : State} {m : MethodId} {args : Array Value} {below : List Frame} {meth : Method} {c : Code} {D : va_G} {cy : Nat → ClassId} {base tS : Nat} {ls : Array Slot} (C : Cx p rm_X7_isTwoWay s m args c RX7 cX7_isTwoWay 3 D cy base tS 0 0) (hr : meth.sig.returnType = (some .boolean)) (hk : meth.locks = false) {k0 : Nat} (t0 : cls k0 = 7) {K : St → Int32 → Option (St × Int32)} (hK : ∀ (S : St) (v1 : Int32) (ls : Array Slot), lv_has ls 3 [(0, .ref (base + k0)), (1, .int v1)] → Sim p l e rm_X7_isTwoWay s m args below meth c D cy base 0 0 (fun S1 r => MQ below (QcI D cy base tS S1 r) args s 0 0 (AA base)) (K S v1) S (F0 m 50 ls [])) : ∀ (n : Nat) (S : St) (v1 : Int32) (ls : Array Slot), lv_has ls 3 [(0, .ref (base + k0)), (1, .int v1)] → Sim p l e rm_X7_isTwoWay s m args below meth c D cy base 0 0 (fun S1 r => MQ below (QcI D cy base tS S1 r) args s 0 0 (AA base)) (X7_isTwoWay_2 k0 K n S v1) S (F0 m 2 ls []) := by
  intro n
  induction n with
  | zero => intro S v1 ls hl; exact Sim.none
  | succ n ih =>
    intro S v1 ls hl
    rw [X7_isTwoWay_2]
    refine r_iload_n (pc := 2) C dX7_isTwoWay_2 rfl (lv_at hl 1 rfl) ?_
    refine r_aload_n (pc := 3) C dX7_isTwoWay_3 rfl (lv_at hl 0 rfl) ?_
    refine gf_X7_23 (pc := 4) C t0 dX7_isTwoWay_4 ?_
    refine r_icmp_ge (pc := 7) C (tgt := 50) dX7_isTwoWay_7 (by decide) (fun _ => ?_) (fun _ => ?_)
    · exact hK S v1 _ (lv_sub hl [0, 1] rfl)
    · refine r_iconst (pc := 10) C (0 : Int32) dX7_isTwoWay_10 (by decide) ?_
      refine r_istore_n (lv2 := [(2, .int (0 : Int32)), (0, .ref (base + k0)), (1, .int v1)]) (pc := 11) C dX7_isTwoWay_11 rfl hl (Nat.le_of_ble_eq_true rfl) rfl (fun ls hl => ?_)
      refine lp_X7_isTwoWay_12 (ls := ls) C hr hk t0 (fun S28 v29 ls hl => ?_) FU S (0 : Int32) _ (lv_sub hl [1, 2, 0] rfl)
      refine r_iinc (pc := 44) C (k := 1) (1 : Int32) (fun v30 => [(1, .int v30), (0, .ref (base + k0)), (2, .int v29)]) dX7_isTwoWay_44 hl rfl (by decide) (Nat.le_of_ble_eq_true rfl) (fun _ => rfl) (fun v30 ls hl => ?_)
      refine r_goto (pc := 47) C (tgt := 2) dX7_isTwoWay_47 (by decide) ?_
      exact ih S28 v30 _ (lv_sub hl [1, 0] rfl)

set_option maxHeartbeats 4000000 in
set_option maxRecDepth 100000 in
theorem sm_X7_isTwoWay {p : Program} {l : Launch} {e : Env} {s : State} {m : MethodId} {args : Array Value} {below : List Frame} {meth : Method} {c : Code} {D : va_G} {cy : Nat → ClassId} {base tS : Nat} {S : St} {k0 : Nat} {ls : Array Slot} (C : Cx p rm_X7_isTwoWay s m args c RX7 cX7_isTwoWay 3 D cy base tS 0 0) (hr : meth.sig.returnType = (some .boolean)) (hk : meth.locks = false) (t0 : cls k0 = 7) (hl : lv_has ls 3 [(0, .ref (base + k0))]) : Sim p l e rm_X7_isTwoWay s m args below meth c D cy base 0 0 (fun S1 r => MQ below (QcI D cy base tS S1 r) args s 0 0 (AA base)) (X7_isTwoWay S k0) S (F0 m 0 ls []) := by
  unfold X7_isTwoWay
  refine r_iconst (pc := 0) C (0 : Int32) dX7_isTwoWay_0 (by decide) ?_
  refine r_istore_n (lv2 := [(1, .int (0 : Int32)), (0, .ref (base + k0))]) (pc := 1) C dX7_isTwoWay_1 rfl hl (Nat.le_of_ble_eq_true rfl) rfl (fun ls hl => ?_)
  refine lp_X7_isTwoWay_2 (ls := ls) C hr hk t0 (fun S31 v32 ls hl => ?_) FU S (0 : Int32) _ (lv_sub hl [1, 0] rfl)
  refine r_iconst (pc := 50) C (1 : Int32) dX7_isTwoWay_50 (by decide) ?_
  exact r_zret (pc := 51) C rfl hr hk dX7_isTwoWay_51

theorem ct_X7_isTwoWay (l : Launch) {D : va_G} {cy : Nat → ClassId} {base tS : Nat} {S : St} {k0 : Nat} (t0 : cls k0 = 7) {S1 : St} {r1 : Int32} (h : X7_isTwoWay S k0 = some (S1, r1)) : Met l yX7_isTwoWay (wsY yX7_isTwoWay cX7_isTwoWay 3 (some .boolean)) rm_X7_isTwoWay (va_Pc [.ref (base + k0)] (World D cy base tS S)) (QcI D cy base tS S1 r1) 0 0 (AA base) := conI rfl rfl (by decide) (Nat.le_of_ble_eq_true rfl) (fun p e s m args below meth c ls C hr hk hl => sm_X7_isTwoWay C hr hk t0 hl) h
theorem cv_X10_201 {p : Program} {l : Launch} {e : Env} {R : Room} {s : State} {m : MethodId} {args : Array Value} {below : List Frame} {meth : Method} {c : Code} {D : va_G} {cy : Nat → ClassId} {base tS nc ns : Nat} {cc : ByteArray} {nL pc : Nat} {ls : Array Slot} {rest : List Value} {S : St} {ρ : Type} {Q : St → ρ → State → Prop} (C : Cx p R s m args c RX10 cc nL D cy base tS nc ns) {k0 : Nat} (t0 : cls k0 = 7) (hl : ls.size = nL) (hR : rm_X7_isTwoWay.frames + 1 ≤ R.frames ∧ 8 + (3 + 11) + rm_X7_isTwoWay.locals ≤ R.locals) {b : St → Int32 → Option (St × ρ)} (hroom : (rest.map fun v => v.category).sum ≤ 8) (hd : decode cc pc = .ok (.invokevirtual 201, 3)) (kk : ∀ (S1 : St) (r : Int32), Sim p l e R s m args below meth c D cy base nc ns Q (b S1 r) S1 (F0 m (pc + 3) ls (.int r :: rest))) : Sim p l e R s m args below meth c D cy base nc ns Q (bd (X7_isTwoWay S k0) b) S (F0 m pc ls (.ref (base + k0) :: rest)) := r_callVI (n := 0) (As := []) C hl (rd_7 t0) (cls_lt t0 (by decide)) rfl (fun S1 r1 h => ct_X7_isTwoWay l t0 h) wd_352 wd_353 wd_354 wd_169 wd_355 rfl rfl (by decide +kernel) hR rfl rfl hroom hd kk
abbrev rm_X10_twoWay : Room := { frames := 1, cells := 0, slots := 0, locals := 22 }
set_option maxHeartbeats 4000000 in
set_option maxRecDepth 100000 in
theorem sm_X10_twoWay {p : Program} {l : Launch} {e : Env} {s : State} {m : MethodId} {args : Array Value} {below : List Frame} {meth : Method} {c : Code} {D : va_G} {cy : Nat → ClassId} {base tS : Nat} {S : St} {k0 : Nat} {ls : Array Slot} (C : Cx p rm_X10_twoWay s m args c RX10 cX10_twoWay 1 D cy base tS 0 0) (hr : meth.sig.returnType = (some .int)) (hk : meth.locks = false) (t0 : cls k0 = 10) (hl : lv_has ls 1 [(0, .ref (base + k0))]) : Sim p l e rm_X10_twoWay s m args below meth c D cy base 0 0 (fun S1 r => MQ below (QcI D cy base tS S1 r) args s 0 0 (AA base)) (X10_twoWay S k0) S (F0 m 0 ls []) := by
  unfold X10_twoWay
  refine r_aload_n (pc := 0) C dX10_twoWay_0 rfl (lv_at hl 0 rfl) ?_
  refine gf_X10_92 (pc := 1) C t0 dX10_twoWay_1 ?_
  refine r_if_ne (pc := 4) C (tgt := 14) dX10_twoWay_4 (by decide) (fun _ => ?_) (fun _ => ?_)
  · refine r_aload_n (pc := 14) C dX10_twoWay_14 rfl (lv_at hl 0 rfl) ?_
    refine gf_X10_10 (pc := 15) C t0 dX10_twoWay_15 ?_
    have t21 := ft_10_0 t0
    refine cv_X10_201 (pc := 18) C t21 hl.1 ⟨Nat.le_of_ble_eq_true rfl, Nat.le_of_ble_eq_true rfl⟩ (Nat.le_of_ble_eq_true rfl) dX10_twoWay_18 (fun S22 v23 => ?_)
    refine r_if_eq (pc := 21) C (tgt := 28) dX10_twoWay_21 (by decide) (fun _ => ?_) (fun _ => ?_)
    · refine r_iconst (pc := 28) C (0 : Int32) dX10_twoWay_28 (by decide) ?_
      exact r_iret (pc := 29) C hr hk dX10_twoWay_29
    · refine r_iconst (pc := 24) C (1 : Int32) dX10_twoWay_24 (by decide) ?_
      refine r_goto (pc := 25) C (tgt := 29) dX10_twoWay_25 (by decide) ?_
      exact r_iret (pc := 29) C hr hk dX10_twoWay_29
  · refine r_aload_n (pc := 7) C dX10_twoWay_7 rfl (lv_at hl 0 rfl) ?_
    refine r_bipush (pc := 8) C (-8 : Int32) dX10_twoWay_8 (by decide) ?_
    refine cv_X10_96 (pc := 10) C t0 hl.1 ⟨Nat.le_of_ble_eq_true rfl, Nat.le_of_ble_eq_true rfl⟩ (Nat.le_of_ble_eq_true rfl) dX10_twoWay_10 (fun S24 v25 => ?_)
    exact r_iret (pc := 13) C hr hk dX10_twoWay_13

theorem ct_X10_twoWay (l : Launch) {D : va_G} {cy : Nat → ClassId} {base tS : Nat} {S : St} {k0 : Nat} (t0 : cls k0 = 10) {S1 : St} {r1 : Int32} (h : X10_twoWay S k0 = some (S1, r1)) : Met l yX10_twoWay (wsY yX10_twoWay cX10_twoWay 1 (some .int)) rm_X10_twoWay (va_Pc [.ref (base + k0)] (World D cy base tS S)) (QcI D cy base tS S1 r1) 0 0 (AA base) := conI rfl rfl (by decide) (Nat.le_of_ble_eq_true rfl) (fun p e s m args below meth c ls C hr hk hl => sm_X10_twoWay C hr hk t0 hl) h
abbrev rm_X1_nextToBurn : Room := { frames := 1, cells := 0, slots := 0, locals := 24 }
set_option maxHeartbeats 4000000 in
set_option maxRecDepth 100000 in
theorem lp_X1_nextToBurn_3 {p : Program} {l : Launch} {e : Env} {s : State} {m : MethodId} {args : Array Value} {below : List Frame} {meth : Method} {c : Code} {D : va_G} {cy : Nat → ClassId} {base tS : Nat} {ls : Array Slot} (C : Cx p rm_X1_nextToBurn s m args c RX1 cX1_nextToBurn 6 D cy base tS 0 0) (hr : meth.sig.returnType = (some .int)) (hk : meth.locks = false) {k0 : Nat} {k1 : Nat} {k2 : Nat} {v3 : Int32} (t0 : cls k0 = 1) (t1 : cls k1 = 7) (t2 : cls k2 = 12 ∧ len k2 = 12) {K : St → Int32 → Option (St × Int32)} (hK : ∀ (S : St) (v4 : Int32) (ls : Array Slot), lv_has ls 6 [(0, .ref (base + k0)), (1, .ref (base + k1)), (2, .ref (base + k2)), (3, .int v3), (4, .int v4)] → Sim p l e rm_X1_nextToBurn s m args below meth c D cy base 0 0 (fun S1 r => MQ below (QcI D cy base tS S1 r) args s 0 0 (AA base)) (K S v4) S (F0 m 68 ls [])) : ∀ (n : Nat) (S : St) (v4 : Int32) (ls : Array Slot), lv_has ls 6 [(0, .ref (base + k0)), (1, .ref (base + k1)), (2, .ref (base + k2)), (3, .int v3), (4, .int v4)] → Sim p l e rm_X1_nextToBurn s m args below meth c D cy base 0 0 (fun S1 r => MQ below (QcI D cy base tS S1 r) args s 0 0 (AA base)) (X1_nextToBurn_3 k0 k1 k2 v3 K n S v4) S (F0 m 3 ls []) := by
  intro n
  induction n with
  | zero => intro S v4 ls hl; exact Sim.none
  | succ n ih =>
    intro S v4 ls hl
    rw [X1_nextToBurn_3]
    refine r_iload (pc := 3) C dX1_nextToBurn_3 (lv_at hl 4 rfl) ?_
    refine r_aload_n (pc := 5) C dX1_nextToBurn_5 rfl (lv_at hl 1 rfl) ?_
    refine gf_X1_28 (pc := 6) C t1 dX1_nextToBurn_6 ?_
    refine r_icmp_ge (pc := 9) C (tgt := 68) dX1_nextToBurn_9 (by decide) (fun _ => ?_) (fun _ => ?_)
    · exact hK S v4 _ (lv_sub hl [0, 1, 2, 3, 4] rfl)
    · refine r_aload_n (pc := 12) C dX1_nextToBurn_12 rfl (lv_at hl 0 rfl) ?_
      refine gf_X1_19 (pc := 13) C t0 dX1_nextToBurn_13 ?_
      refine r_iconst (pc := 16) C (1 : Int32) dX1_nextToBurn_16 (by decide) ?_
      refine r_iload (pc := 17) C dX1_nextToBurn_17 (lv_at hl 4 rfl) ?_
      refine r_ishl (pc := 19) C dX1_nextToBurn_19 ?_
      refine r_iand (pc := 20) C dX1_nextToBurn_20 ?_
      refine r_join (fun (j : St → Int32 → Option (St × Int32)) => ∀ (S22 : St) (v23 : Int32) (ls : Array Slot), lv_has ls 6 [(0, .ref (base + k0)), (1, .ref (base + k1)), (2, .ref (base + k2)), (3, .int v3), (4, .int v4)] → Sim p l e rm_X1_nextToBurn s m args below meth c D cy base 0 0 (fun S1 r => MQ below (QcI D cy base tS S1 r) args s 0 0 (AA base)) (j S22 v23) S22 (F0 m 29 ls [.int v23])) ?_ (fun j21 hj21 => ?_)
      · intro S22 v23 ls hl
        refine r_istore (lv2 := [(5, .int v23), (0, .ref (base + k0)), (1, .ref (base + k1)), (2, .ref (base + k2)), (3, .int v3), (4, .int v4)]) (pc := 29) C dX1_nextToBurn_29 hl (Nat.le_of_ble_eq_true rfl) rfl (fun ls hl => ?_)
        refine r_iload (pc := 31) C dX1_nextToBurn_31 (lv_at hl 0 rfl) ?_
        refine r_join (fun (j : St → Option (St × Int32)) => ∀ (S25 : St)  (ls : Array Slot), lv_has ls 6 [(0, .ref (base + k0)), (1, .ref (base + k1)), (2, .ref (base + k2)), (3, .int v3), (4, .int v4)] → Sim p l e rm_X1_nextToBurn s m args below meth c D cy base 0 0 (fun S1 r => MQ below (QcI D cy base tS S1 r) args s 0 0 (AA base)) (j S25) S25 (F0 m 62 ls [])) ?_ (fun j24 hj24 => ?_)
        · intro S25 ls hl
          refine r_iinc (pc := 62) C (k := 4) (1 : Int32) (fun v26 => [(4, .int v26), (0, .ref (base + k0)), (1, .ref (base + k1)), (2, .ref (base + k2)), (3, .int v3)]) dX1_nextToBurn_62 hl rfl (by decide) (Nat.le_of_ble_eq_true rfl) (fun _ => rfl) (fun v26 ls hl => ?_)
          refine r_goto (pc := 65) C (tgt := 3) dX1_nextToBurn_65 (by decide) ?_
          exact ih S25 v26 _ (lv_sub hl [1, 2, 3, 4, 0] rfl)
        refine r_if_ne (pc := 33) C (tgt := 62) dX1_nextToBurn_33 (by decide) (fun _ => ?_) (fun _ => ?_)
        · exact hj24 S22  _ (lv_sub hl [1, 2, 3, 4, 5] rfl)
        · refine r_iload (pc := 36) C dX1_nextToBurn_36 (lv_at hl 5 rfl) ?_
          refine r_iload_n (pc := 38) C dX1_nextToBurn_38 rfl (lv_at hl 4 rfl) ?_
          refine r_icmp_eq (pc := 39) C (tgt := 62) dX1_nextToBurn_39 (by decide) (fun _ => ?_) (fun _ => ?_)
          · exact hj24 S22  _ (lv_sub hl [1, 2, 3, 4, 5] rfl)
          · refine r_aload_n (pc := 42) C dX1_nextToBurn_42 rfl (lv_at hl 3 rfl) ?_
            refine r_iload (pc := 43) C dX1_nextToBurn_43 (lv_at hl 5 rfl) ?_
            refine r_iald (pc := 45) C t2 dX1_nextToBurn_45 ?_
            refine r_aload_n (pc := 46) C dX1_nextToBurn_46 rfl (lv_at hl 2 rfl) ?_
            refine r_iload (pc := 47) C dX1_nextToBurn_47 (lv_at hl 5 rfl) ?_
            refine r_aload_n (pc := 49) C dX1_nextToBurn_49 rfl (lv_at hl 1 rfl) ?_
            refine gf_X1_19 (pc := 50) C t0 dX1_nextToBurn_50 ?_
            refine cv_X1_35 (pc := 53) C t1 hl.1 ⟨Nat.le_of_ble_eq_true rfl, Nat.le_of_ble_eq_true rfl⟩ (Nat.le_of_ble_eq_true rfl) dX1_nextToBurn_53 (fun S27 v28 => ?_)
            refine r_icmp_lt (pc := 56) C (tgt := 62) dX1_nextToBurn_56 (by decide) (fun _ => ?_) (fun _ => ?_)
            · exact hj24 S27  _ (lv_sub hl [1, 2, 3, 4, 5] rfl)
            · refine r_iload (pc := 59) C dX1_nextToBurn_59 (lv_at hl 5 rfl) ?_
              exact r_iret (pc := 61) C hr hk dX1_nextToBurn_61
      refine r_if_ne (pc := 21) C (tgt := 28) dX1_nextToBurn_21 (by decide) (fun _ => ?_) (fun _ => ?_)
      · refine r_iconst (pc := 28) C (0 : Int32) dX1_nextToBurn_28 (by decide) ?_
        exact hj21 S (0 : Int32) _ (lv_sub hl [0, 1, 2, 3, 4] rfl)
      · refine r_iconst (pc := 24) C (1 : Int32) dX1_nextToBurn_24 (by decide) ?_
        refine r_goto (pc := 25) C (tgt := 29) dX1_nextToBurn_25 (by decide) ?_
        exact hj21 S (1 : Int32) _ (lv_sub hl [0, 1, 2, 3, 4] rfl)

set_option maxHeartbeats 4000000 in
set_option maxRecDepth 100000 in
theorem sm_X1_nextToBurn {p : Program} {l : Launch} {e : Env} {s : State} {m : MethodId} {args : Array Value} {below : List Frame} {meth : Method} {c : Code} {D : va_G} {cy : Nat → ClassId} {base tS : Nat} {S : St} {k0 : Nat} {k1 : Nat} {k2 : Nat} {v3 : Int32} {ls : Array Slot} (C : Cx p rm_X1_nextToBurn s m args c RX1 cX1_nextToBurn 6 D cy base tS 0 0) (hr : meth.sig.returnType = (some .int)) (hk : meth.locks = false) (t0 : cls k0 = 1) (t1 : cls k1 = 7) (t2 : cls k2 = 12 ∧ len k2 = 12) (hl : lv_has ls 6 [(0, .ref (base + k0)), (1, .ref (base + k1)), (2, .ref (base + k2)), (3, .int v3)]) : Sim p l e rm_X1_nextToBurn s m args below meth c D cy base 0 0 (fun S1 r => MQ below (QcI D cy base tS S1 r) args s 0 0 (AA base)) (X1_nextToBurn S k0 k1 k2 v3) S (F0 m 0 ls []) := by
  unfold X1_nextToBurn
  refine r_iconst (pc := 0) C (0 : Int32) dX1_nextToBurn_0 (by decide) ?_
  refine r_istore (lv2 := [(4, .int (0 : Int32)), (0, .ref (base + k0)), (1, .ref (base + k1)), (2, .ref (base + k2)), (3, .int v3)]) (pc := 1) C dX1_nextToBurn_1 hl (Nat.le_of_ble_eq_true rfl) rfl (fun ls hl => ?_)
  refine lp_X1_nextToBurn_3 (ls := ls) C hr hk t0 t1 t2 (fun S29 v30 ls hl => ?_) FU S (0 : Int32) _ (lv_sub hl [1, 2, 3, 4, 0] rfl)
  refine r_iconst (pc := 68) C (-1 : Int32) dX1_nextToBurn_68 (by decide) ?_
  exact r_iret (pc := 69) C hr hk dX1_nextToBurn_69

theorem ct_X1_nextToBurn (l : Launch) {D : va_G} {cy : Nat → ClassId} {base tS : Nat} {S : St} {k0 : Nat} {k1 : Nat} {k2 : Nat} {v3 : Int32} (t0 : cls k0 = 1) (t1 : cls k1 = 7) (t2 : cls k2 = 12 ∧ len k2 = 12) {S1 : St} {r1 : Int32} (h : X1_nextToBurn S k0 k1 k2 v3 = some (S1, r1)) : Met l yX1_nextToBurn (wsY yX1_nextToBurn cX1_nextToBurn 6 (some .int)) rm_X1_nextToBurn (va_Pc [.ref (base + k0), .ref (base + k1), .ref (base + k2), .int v3] (World D cy base tS S)) (QcI D cy base tS S1 r1) 0 0 (AA base) := conI rfl rfl (by decide) (Nat.le_of_ble_eq_true rfl) (fun p e s m args below meth c ls C hr hk hl => sm_X1_nextToBurn C hr hk t0 t1 t2 hl) h
theorem cv_X1_31 {p : Program} {l : Launch} {e : Env} {R : Room} {s : State} {m : MethodId} {args : Array Value} {below : List Frame} {meth : Method} {c : Code} {D : va_G} {cy : Nat → ClassId} {base tS nc ns : Nat} {cc : ByteArray} {nL pc : Nat} {ls : Array Slot} {rest : List Value} {S : St} {ρ : Type} {Q : St → ρ → State → Prop} (C : Cx p R s m args c RX1 cc nL D cy base tS nc ns) {k0 : Nat} {k1 : Nat} {k2 : Nat} {v3 : Int32} (t0 : cls k0 = 1) (t1 : cls k1 = 7) (t2 : cls k2 = 12 ∧ len k2 = 12) (hl : ls.size = nL) (hR : rm_X1_nextToBurn.frames + 1 ≤ R.frames ∧ 8 + (6 + 11) + rm_X1_nextToBurn.locals ≤ R.locals) {b : St → Int32 → Option (St × ρ)} (hroom : (rest.map fun v => v.category).sum ≤ 8) (hd : decode cc pc = .ok (.invokevirtual 31, 3)) (kk : ∀ (S1 : St) (r : Int32), Sim p l e R s m args below meth c D cy base nc ns Q (b S1 r) S1 (F0 m (pc + 3) ls (.int r :: rest))) : Sim p l e R s m args below meth c D cy base nc ns Q (bd (X1_nextToBurn S k0 k1 k2 v3) b) S (F0 m pc ls (.int v3 :: .ref (base + k2) :: .ref (base + k1) :: .ref (base + k0) :: rest)) := r_callVI (n := 3) (As := [.ref (base + k1), .ref (base + k2), .int v3]) C hl (rd_1 t0) (cls_lt t0 (by decide)) rfl (fun S1 r1 h => ct_X1_nextToBurn l t0 t1 t2 h) wd_356 wd_357 wd_358 wd_226 wd_359 rfl rfl (by decide +kernel) hR rfl rfl hroom hd kk
abbrev rm_X1_light : Room := { frames := 2, cells := 0, slots := 0, locals := 49 }
set_option maxHeartbeats 4000000 in
set_option maxRecDepth 100000 in
theorem lp_X1_light_16 {p : Program} {l : Launch} {e : Env} {s : State} {m : MethodId} {args : Array Value} {below : List Frame} {meth : Method} {c : Code} {D : va_G} {cy : Nat → ClassId} {base tS : Nat} {ls : Array Slot} (C : Cx p rm_X1_light s m args c RX1 cX1_light 6 D cy base tS 0 0) (hr : meth.sig.returnType = none) (hk : meth.locks = false) {k0 : Nat} {k1 : Nat} {k2 : Nat} {v3 : Int32} (t0 : cls k0 = 1) (t1 : cls k1 = 7) (t2 : cls k2 = 12 ∧ len k2 = 12) {K : St → Int32 → Option (St × Unit)} (hK : ∀ (S : St) (v4 : Int32) (ls : Array Slot), lv_has ls 6 [(0, .ref (base + k0)), (1, .ref (base + k1)), (2, .ref (base + k2)), (3, .int v3), (4, .int v4)] → Sim p l e rm_X1_light s m args below meth c D cy base 0 0 (fun S1 r => MQ below (QcV D cy base tS S1 r) args s 0 0 (AA base)) (K S v4) S (F0 m 83 ls [])) : ∀ (n : Nat) (S : St) (v4 : Int32) (ls : Array Slot), lv_has ls 6 [(0, .ref (base + k0)), (1, .ref (base + k1)), (2, .ref (base + k2)), (3, .int v3), (4, .int v4)] → Sim p l e rm_X1_light s m args below meth c D cy base 0 0 (fun S1 r => MQ below (QcV D cy base tS S1 r) args s 0 0 (AA base)) (X1_light_16 k0 k1 k2 v3 K n S v4) S (F0 m 16 ls []) := by
  intro n
  induction n with
  | zero => intro S v4 ls hl; exact Sim.none
  | succ n ih =>
    intro S v4 ls hl
    rw [X1_light_16]
    refine r_iload (pc := 16) C dX1_light_16 (lv_at hl 4 rfl) ?_
    refine r_aload_n (pc := 18) C dX1_light_18 rfl (lv_at hl 1 rfl) ?_
    refine gf_X1_28 (pc := 19) C t1 dX1_light_19 ?_
    refine r_icmp_ge (pc := 22) C (tgt := 83) dX1_light_22 (by decide) (fun _ => ?_) (fun _ => ?_)
    · exact hK S v4 _ (lv_sub hl [0, 1, 2, 3, 4] rfl)
    · refine r_aload_n (pc := 25) C dX1_light_25 rfl (lv_at hl 0 rfl) ?_
      refine r_aload_n (pc := 26) C dX1_light_26 rfl (lv_at hl 1 rfl) ?_
      refine r_aload_n (pc := 27) C dX1_light_27 rfl (lv_at hl 2 rfl) ?_
      refine r_iload_n (pc := 28) C dX1_light_28 rfl (lv_at hl 3 rfl) ?_
      refine cv_X1_31 (pc := 29) C t0 t1 t2 hl.1 ⟨Nat.le_of_ble_eq_true rfl, Nat.le_of_ble_eq_true rfl⟩ (Nat.le_of_ble_eq_true rfl) dX1_light_29 (fun S25 v26 => ?_)
      refine r_istore (lv2 := [(5, .int v26), (0, .ref (base + k0)), (1, .ref (base + k1)), (2, .ref (base + k2)), (3, .int v3), (4, .int v4)]) (pc := 32) C dX1_light_32 hl (Nat.le_of_ble_eq_true rfl) rfl (fun ls hl => ?_)
      refine r_iload (pc := 34) C dX1_light_34 (lv_at hl 0 rfl) ?_
      refine r_iconst (pc := 36) C (-1 : Int32) dX1_light_36 (by decide) ?_
      refine r_icmp_ne (pc := 37) C (tgt := 41) dX1_light_37 (by decide) (fun _ => ?_) (fun _ => ?_)
      · refine r_aload_n (pc := 41) C dX1_light_41 rfl (lv_at hl 1 rfl) ?_
        refine gf_X1_9 (pc := 42) C t0 dX1_light_42 ?_
        have t27 := ft_1_0 t0
        refine r_aload_n (pc := 45) C dX1_light_45 rfl (lv_at hl 1 rfl) ?_
        refine gf_X1_15 (pc := 46) C t0 dX1_light_46 ?_
        refine r_iload (pc := 49) C dX1_light_49 (lv_at hl 0 rfl) ?_
        refine r_iast (pc := 51) C t27 dX1_light_51 (fun S28 => ?_)
        refine r_aload_n (pc := 52) C dX1_light_52 rfl (lv_at hl 1 rfl) ?_
        refine r_dup (pc := 53) C dX1_light_53 rfl ?_
        refine gf_X1_15 (pc := 54) C t0 dX1_light_54 ?_
        refine r_iconst (pc := 57) C (1 : Int32) dX1_light_57 (by decide) ?_
        refine r_iadd (pc := 58) C dX1_light_58 ?_
        refine pf_X1_15 (pc := 59) C t0 dX1_light_59 (fun S29 => ?_)
        refine r_aload_n (pc := 62) C dX1_light_62 rfl (lv_at hl 1 rfl) ?_
        refine r_dup (pc := 63) C dX1_light_63 rfl ?_
        refine gf_X1_19 (pc := 64) C t0 dX1_light_64 ?_
        refine r_iconst (pc := 67) C (1 : Int32) dX1_light_67 (by decide) ?_
        refine r_iload (pc := 68) C dX1_light_68 (lv_at hl 0 rfl) ?_
        refine r_ishl (pc := 70) C dX1_light_70 ?_
        refine r_iconst (pc := 71) C (-1 : Int32) dX1_light_71 (by decide) ?_
        refine r_ixor (pc := 72) C dX1_light_72 ?_
        refine r_iand (pc := 73) C dX1_light_73 ?_
        refine pf_X1_19 (pc := 74) C t0 dX1_light_74 (fun S30 => ?_)
        refine r_iinc (pc := 77) C (k := 5) (1 : Int32) (fun v31 => [(4, .int v31), (5, .int v26), (0, .ref (base + k0)), (1, .ref (base + k1)), (2, .ref (base + k2)), (3, .int v3)]) dX1_light_77 hl rfl (by decide) (Nat.le_of_ble_eq_true rfl) (fun _ => rfl) (fun v31 ls hl => ?_)
        refine r_goto (pc := 80) C (tgt := 16) dX1_light_80 (by decide) ?_
        exact ih S30 v31 _ (lv_sub hl [2, 3, 4, 5, 0] rfl)
      · exact r_vret (pc := 40) C hr hk dX1_light_40

set_option maxHeartbeats 4000000 in
set_option maxRecDepth 100000 in
theorem sm_X1_light {p : Program} {l : Launch} {e : Env} {s : State} {m : MethodId} {args : Array Value} {below : List Frame} {meth : Method} {c : Code} {D : va_G} {cy : Nat → ClassId} {base tS : Nat} {S : St} {k0 : Nat} {k1 : Nat} {k2 : Nat} {v3 : Int32} {ls : Array Slot} (C : Cx p rm_X1_light s m args c RX1 cX1_light 6 D cy base tS 0 0) (hr : meth.sig.returnType = none) (hk : meth.locks = false) (t0 : cls k0 = 1) (t1 : cls k1 = 7) (t2 : cls k2 = 12 ∧ len k2 = 12) (hl : lv_has ls 6 [(0, .ref (base + k0)), (1, .ref (base + k1)), (2, .ref (base + k2)), (3, .int v3)]) : Sim p l e rm_X1_light s m args below meth c D cy base 0 0 (fun S1 r => MQ below (QcV D cy base tS S1 r) args s 0 0 (AA base)) (X1_light S k0 k1 k2 v3) S (F0 m 0 ls []) := by
  unfold X1_light
  refine r_aload_n (pc := 0) C dX1_light_0 rfl (lv_at hl 0 rfl) ?_
  refine r_iconst (pc := 1) C (0 : Int32) dX1_light_1 (by decide) ?_
  refine pf_X1_15 (pc := 2) C t0 dX1_light_2 (fun S21 => ?_)
  refine r_aload_n (pc := 5) C dX1_light_5 rfl (lv_at hl 0 rfl) ?_
  refine r_aload_n (pc := 6) C dX1_light_6 rfl (lv_at hl 1 rfl) ?_
  refine cv_X1_22 (pc := 7) C t1 hl.1 ⟨Nat.le_of_ble_eq_true rfl, Nat.le_of_ble_eq_true rfl⟩ (Nat.le_of_ble_eq_true rfl) dX1_light_7 (fun S22 v23 => ?_)
  refine pf_X1_19 (pc := 10) C t0 dX1_light_10 (fun S24 => ?_)
  refine r_iconst (pc := 13) C (0 : Int32) dX1_light_13 (by decide) ?_
  refine r_istore (lv2 := [(4, .int (0 : Int32)), (0, .ref (base + k0)), (1, .ref (base + k1)), (2, .ref (base + k2)), (3, .int v3)]) (pc := 14) C dX1_light_14 hl (Nat.le_of_ble_eq_true rfl) rfl (fun ls hl => ?_)
  refine lp_X1_light_16 (ls := ls) C hr hk t0 t1 t2 (fun S32 v33 ls hl => ?_) FU S24 (0 : Int32) _ (lv_sub hl [1, 2, 3, 4, 0] rfl)
  exact r_vret (pc := 83) C hr hk dX1_light_83

theorem ct_X1_light (l : Launch) {D : va_G} {cy : Nat → ClassId} {base tS : Nat} {S : St} {k0 : Nat} {k1 : Nat} {k2 : Nat} {v3 : Int32} (t0 : cls k0 = 1) (t1 : cls k1 = 7) (t2 : cls k2 = 12 ∧ len k2 = 12) {S1 : St} {r1 : Unit} (h : X1_light S k0 k1 k2 v3 = some (S1, r1)) : Met l yX1_light (wsY yX1_light cX1_light 6 none) rm_X1_light (va_Pc [.ref (base + k0), .ref (base + k1), .ref (base + k2), .int v3] (World D cy base tS S)) (QcV D cy base tS S1 r1) 0 0 (AA base) := conV rfl rfl (by decide) (Nat.le_of_ble_eq_true rfl) (fun p e s m args below meth c ls C hr hk hl => sm_X1_light C hr hk t0 t1 t2 hl) h
theorem cv_X10_204 {p : Program} {l : Launch} {e : Env} {R : Room} {s : State} {m : MethodId} {args : Array Value} {below : List Frame} {meth : Method} {c : Code} {D : va_G} {cy : Nat → ClassId} {base tS nc ns : Nat} {cc : ByteArray} {nL pc : Nat} {ls : Array Slot} {rest : List Value} {S : St} {ρ : Type} {Q : St → ρ → State → Prop} (C : Cx p R s m args c RX10 cc nL D cy base tS nc ns) {k0 : Nat} {k1 : Nat} {k2 : Nat} {v3 : Int32} (t0 : cls k0 = 1) (t1 : cls k1 = 7) (t2 : cls k2 = 12 ∧ len k2 = 12) (hl : ls.size = nL) (hR : rm_X1_light.frames + 1 ≤ R.frames ∧ 8 + (6 + 11) + rm_X1_light.locals ≤ R.locals) {b : St → Unit → Option (St × ρ)} (hroom : (rest.map fun v => v.category).sum ≤ 8) (hd : decode cc pc = .ok (.invokevirtual 204, 3)) (kk : ∀ (S1 : St) (r : Unit), Sim p l e R s m args below meth c D cy base nc ns Q (b S1 r) S1 (F0 m (pc + 3) ls (rest))) : Sim p l e R s m args below meth c D cy base nc ns Q (bd (X1_light S k0 k1 k2 v3) b) S (F0 m pc ls (.int v3 :: .ref (base + k2) :: .ref (base + k1) :: .ref (base + k0) :: rest)) := r_callVV (n := 3) (As := [.ref (base + k1), .ref (base + k2), .int v3]) C hl (rd_1 t0) (cls_lt t0 (by decide)) rfl (fun S1 r1 h => ct_X1_light l t0 t1 t2 h) wd_360 wd_361 wd_362 wd_226 wd_363 rfl rfl (by decide +kernel) hR rfl rfl hroom hd kk
theorem cv_X6_51 {p : Program} {l : Launch} {e : Env} {R : Room} {s : State} {m : MethodId} {args : Array Value} {below : List Frame} {meth : Method} {c : Code} {D : va_G} {cy : Nat → ClassId} {base tS nc ns : Nat} {cc : ByteArray} {nL pc : Nat} {ls : Array Slot} {rest : List Value} {S : St} {ρ : Type} {Q : St → ρ → State → Prop} (C : Cx p R s m args c RX6 cc nL D cy base tS nc ns) {k0 : Nat} {k1 : Nat} {k2 : Nat} {v3 : Int32} (t0 : cls k0 = 1) (t1 : cls k1 = 7) (t2 : cls k2 = 12 ∧ len k2 = 12) (hl : ls.size = nL) (hR : rm_X1_light.frames + 1 ≤ R.frames ∧ 8 + (6 + 11) + rm_X1_light.locals ≤ R.locals) {b : St → Unit → Option (St × ρ)} (hroom : (rest.map fun v => v.category).sum ≤ 8) (hd : decode cc pc = .ok (.invokevirtual 51, 3)) (kk : ∀ (S1 : St) (r : Unit), Sim p l e R s m args below meth c D cy base nc ns Q (b S1 r) S1 (F0 m (pc + 3) ls (rest))) : Sim p l e R s m args below meth c D cy base nc ns Q (bd (X1_light S k0 k1 k2 v3) b) S (F0 m pc ls (.int v3 :: .ref (base + k2) :: .ref (base + k1) :: .ref (base + k0) :: rest)) := r_callVV (n := 3) (As := [.ref (base + k1), .ref (base + k2), .int v3]) C hl (rd_1 t0) (cls_lt t0 (by decide)) rfl (fun S1 r1 h => ct_X1_light l t0 t1 t2 h) wd_364 wd_361 wd_362 wd_226 wd_363 rfl rfl (by decide +kernel) hR rfl rfl hroom hd kk
abbrev rm_X10_burn : Room := { frames := 3, cells := 0, slots := 0, locals := 74 }
set_option maxHeartbeats 4000000 in
set_option maxRecDepth 100000 in
theorem sm_X10_burn {p : Program} {l : Launch} {e : Env} {s : State} {m : MethodId} {args : Array Value} {below : List Frame} {meth : Method} {c : Code} {D : va_G} {cy : Nat → ClassId} {base tS : Nat} {S : St} {k0 : Nat} {ls : Array Slot} (C : Cx p rm_X10_burn s m args c RX10 cX10_burn 1 D cy base tS 0 0) (hr : meth.sig.returnType = (some .int)) (hk : meth.locks = false) (t0 : cls k0 = 10) (hl : lv_has ls 1 [(0, .ref (base + k0))]) : Sim p l e rm_X10_burn s m args below meth c D cy base 0 0 (fun S1 r => MQ below (QcI D cy base tS S1 r) args s 0 0 (AA base)) (X10_burn S k0) S (F0 m 0 ls []) := by
  unfold X10_burn
  refine r_aload_n (pc := 0) C dX10_burn_0 rfl (lv_at hl 0 rfl) ?_
  refine gf_X10_92 (pc := 1) C t0 dX10_burn_1 ?_
  refine r_join (fun (j : St → Option (St × Int32)) => ∀ (S22 : St)  (ls : Array Slot), lv_has ls 1 [(0, .ref (base + k0))] → Sim p l e rm_X10_burn s m args below meth c D cy base 0 0 (fun S1 r => MQ below (QcI D cy base tS S1 r) args s 0 0 (AA base)) (j S22) S22 (F0 m 17 ls [])) ?_ (fun j21 hj21 => ?_)
  · intro S22 ls hl
    refine r_aload_n (pc := 17) C dX10_burn_17 rfl (lv_at hl 0 rfl) ?_
    refine r_bipush (pc := 18) C (-8 : Int32) dX10_burn_18 (by decide) ?_
    refine cv_X10_96 (pc := 20) C t0 hl.1 ⟨Nat.le_of_ble_eq_true rfl, Nat.le_of_ble_eq_true rfl⟩ (Nat.le_of_ble_eq_true rfl) dX10_burn_20 (fun S23 v24 => ?_)
    exact r_iret (pc := 23) C hr hk dX10_burn_23
  refine r_if_eq (pc := 4) C (tgt := 17) dX10_burn_4 (by decide) (fun _ => ?_) (fun _ => ?_)
  · exact hj21 S  _ (lv_sub hl [0] rfl)
  · refine r_aload_n (pc := 7) C dX10_burn_7 rfl (lv_at hl 0 rfl) ?_
    refine gf_X10_21 (pc := 8) C t0 dX10_burn_8 ?_
    have t25 := ft_10_1 t0
    refine cv_X10_194 (pc := 11) C t25 hl.1 ⟨Nat.le_of_ble_eq_true rfl, Nat.le_of_ble_eq_true rfl⟩ (Nat.le_of_ble_eq_true rfl) dX10_burn_11 (fun S26 v27 => ?_)
    refine r_if_ne (pc := 14) C (tgt := 24) dX10_burn_14 (by decide) (fun _ => ?_) (fun _ => ?_)
    · refine r_aload_n (pc := 24) C dX10_burn_24 rfl (lv_at hl 0 rfl) ?_
      refine gf_X10_10 (pc := 25) C t0 dX10_burn_25 ?_
      have t28 := ft_10_0 t0
      refine cv_X10_201 (pc := 28) C t28 hl.1 ⟨Nat.le_of_ble_eq_true rfl, Nat.le_of_ble_eq_true rfl⟩ (Nat.le_of_ble_eq_true rfl) dX10_burn_28 (fun S29 v30 => ?_)
      refine r_if_ne (pc := 31) C (tgt := 41) dX10_burn_31 (by decide) (fun _ => ?_) (fun _ => ?_)
      · refine r_aload_n (pc := 41) C dX10_burn_41 rfl (lv_at hl 0 rfl) ?_
        refine gf_X10_47 (pc := 42) C t0 dX10_burn_42 ?_
        have t31 := ft_10_5 t0
        refine r_aload_n (pc := 45) C dX10_burn_45 rfl (lv_at hl 0 rfl) ?_
        refine gf_X10_10 (pc := 46) C t0 dX10_burn_46 ?_
        have t32 := ft_10_0 t0
        refine r_aload_n (pc := 49) C dX10_burn_49 rfl (lv_at hl 0 rfl) ?_
        refine gf_X10_21 (pc := 50) C t0 dX10_burn_50 ?_
        have t33 := ft_10_1 t0
        refine gf_X10_141 (pc := 53) C t33 dX10_burn_53 ?_
        have t34 := ft_2_1 t33
        refine r_iconst (pc := 56) C (-1 : Int32) dX10_burn_56 (by decide) ?_
        refine cv_X10_204 (pc := 57) C t31 t32 t34 hl.1 ⟨Nat.le_of_ble_eq_true rfl, Nat.le_of_ble_eq_true rfl⟩ (Nat.le_of_ble_eq_true rfl) dX10_burn_57 (fun S35 _ => ?_)
        refine r_aload_n (pc := 60) C dX10_burn_60 rfl (lv_at hl 0 rfl) ?_
        refine gf_X10_47 (pc := 61) C t0 dX10_burn_61 ?_
        have t36 := ft_10_5 t0
        refine gf_X10_208 (pc := 64) C t36 dX10_burn_64 ?_
        refine r_if_ne (pc := 67) C (tgt := 74) dX10_burn_67 (by decide) (fun _ => ?_) (fun _ => ?_)
        · refine r_iconst (pc := 74) C (0 : Int32) dX10_burn_74 (by decide) ?_
          exact r_iret (pc := 75) C hr hk dX10_burn_75
        · refine r_iconst (pc := 70) C (1 : Int32) dX10_burn_70 (by decide) ?_
          refine r_goto (pc := 71) C (tgt := 75) dX10_burn_71 (by decide) ?_
          exact r_iret (pc := 75) C hr hk dX10_burn_75
      · refine r_aload_n (pc := 34) C dX10_burn_34 rfl (lv_at hl 0 rfl) ?_
        refine r_bipush (pc := 35) C (-12 : Int32) dX10_burn_35 (by decide) ?_
        refine cv_X10_96 (pc := 37) C t0 hl.1 ⟨Nat.le_of_ble_eq_true rfl, Nat.le_of_ble_eq_true rfl⟩ (Nat.le_of_ble_eq_true rfl) dX10_burn_37 (fun S37 v38 => ?_)
        exact r_iret (pc := 40) C hr hk dX10_burn_40
    · exact hj21 S26  _ (lv_sub hl [0] rfl)

theorem ct_X10_burn (l : Launch) {D : va_G} {cy : Nat → ClassId} {base tS : Nat} {S : St} {k0 : Nat} (t0 : cls k0 = 10) {S1 : St} {r1 : Int32} (h : X10_burn S k0 = some (S1, r1)) : Met l yX10_burn (wsY yX10_burn cX10_burn 1 (some .int)) rm_X10_burn (va_Pc [.ref (base + k0)] (World D cy base tS S)) (QcI D cy base tS S1 r1) 0 0 (AA base) := conI rfl rfl (by decide) (Nat.le_of_ble_eq_true rfl) (fun p e s m args below meth c ls C hr hk hl => sm_X10_burn C hr hk t0 hl) h
abbrev rm_X10_burnt : Room := { frames := 1, cells := 0, slots := 0, locals := 21 }
set_option maxHeartbeats 4000000 in
set_option maxRecDepth 100000 in
theorem sm_X10_burnt {p : Program} {l : Launch} {e : Env} {s : State} {m : MethodId} {args : Array Value} {below : List Frame} {meth : Method} {c : Code} {D : va_G} {cy : Nat → ClassId} {base tS : Nat} {S : St} {k0 : Nat} {v1 : Int32} {ls : Array Slot} (C : Cx p rm_X10_burnt s m args c RX10 cX10_burnt 2 D cy base tS 0 0) (hr : meth.sig.returnType = (some .int)) (hk : meth.locks = false) (t0 : cls k0 = 10) (hl : lv_has ls 2 [(0, .ref (base + k0)), (1, .int v1)]) : Sim p l e rm_X10_burnt s m args below meth c D cy base 0 0 (fun S1 r => MQ below (QcI D cy base tS S1 r) args s 0 0 (AA base)) (X10_burnt S k0 v1) S (F0 m 0 ls []) := by
  unfold X10_burnt
  refine r_iload_n (pc := 0) C dX10_burnt_0 rfl (lv_at hl 1 rfl) ?_
  refine r_iconst (pc := 1) C (-1 : Int32) dX10_burnt_1 (by decide) ?_
  refine r_icmp_ne (pc := 2) C (tgt := 13) dX10_burnt_2 (by decide) (fun _ => ?_) (fun _ => ?_)
  · refine r_iload_n (pc := 13) C dX10_burnt_13 rfl (lv_at hl 1 rfl) ?_
    refine r_join (fun (j : St → Option (St × Int32)) => ∀ (S22 : St)  (ls : Array Slot), lv_has ls 2 [(0, .ref (base + k0))] → Sim p l e rm_X10_burnt s m args below meth c D cy base 0 0 (fun S1 r => MQ below (QcI D cy base tS S1 r) args s 0 0 (AA base)) (j S22) S22 (F0 m 28 ls [])) ?_ (fun j21 hj21 => ?_)
    · intro S22 ls hl
      refine r_aload_n (pc := 28) C dX10_burnt_28 rfl (lv_at hl 0 rfl) ?_
      refine r_bipush (pc := 29) C (-11 : Int32) dX10_burnt_29 (by decide) ?_
      refine cv_X10_96 (pc := 31) C t0 hl.1 ⟨Nat.le_of_ble_eq_true rfl, Nat.le_of_ble_eq_true rfl⟩ (Nat.le_of_ble_eq_true rfl) dX10_burnt_31 (fun S23 v24 => ?_)
      exact r_iret (pc := 34) C hr hk dX10_burnt_34
    refine r_if_lt (pc := 14) C (tgt := 28) dX10_burnt_14 (by decide) (fun _ => ?_) (fun _ => ?_)
    · exact hj21 S  _ (lv_sub hl [0] rfl)
    · refine r_iload_n (pc := 17) C dX10_burnt_17 rfl (lv_at hl 1 rfl) ?_
      refine r_aload_n (pc := 18) C dX10_burnt_18 rfl (lv_at hl 0 rfl) ?_
      refine gf_X10_47 (pc := 19) C t0 dX10_burnt_19 ?_
      have t25 := ft_10_5 t0
      refine gf_X10_211 (pc := 22) C t25 dX10_burnt_22 ?_
      refine r_icmp_lt (pc := 25) C (tgt := 35) dX10_burnt_25 (by decide) (fun _ => ?_) (fun _ => ?_)
      · refine r_aload_n (pc := 35) C dX10_burnt_35 rfl (lv_at hl 0 rfl) ?_
        refine gf_X10_47 (pc := 36) C t0 dX10_burnt_36 ?_
        have t26 := ft_10_5 t0
        refine gf_X10_214 (pc := 39) C t26 dX10_burnt_39 ?_
        have t27 := ft_1_0 t26
        refine r_iload_n (pc := 42) C dX10_burnt_42 rfl (lv_at hl 1 rfl) ?_
        refine r_iald (pc := 43) C t27 dX10_burnt_43 ?_
        exact r_iret (pc := 44) C hr hk dX10_burnt_44
      · exact hj21 S  _ (lv_sub hl [0] rfl)
  · refine r_aload_n (pc := 5) C dX10_burnt_5 rfl (lv_at hl 0 rfl) ?_
    refine gf_X10_47 (pc := 6) C t0 dX10_burnt_6 ?_
    have t28 := ft_10_5 t0
    refine gf_X10_208 (pc := 9) C t28 dX10_burnt_9 ?_
    exact r_iret (pc := 12) C hr hk dX10_burnt_12

theorem ct_X10_burnt (l : Launch) {D : va_G} {cy : Nat → ClassId} {base tS : Nat} {S : St} {k0 : Nat} {v1 : Int32} (t0 : cls k0 = 10) {S1 : St} {r1 : Int32} (h : X10_burnt S k0 v1 = some (S1, r1)) : Met l yX10_burnt (wsY yX10_burnt cX10_burnt 2 (some .int)) rm_X10_burnt (va_Pc [.ref (base + k0), .int v1] (World D cy base tS S)) (QcI D cy base tS S1 r1) 0 0 (AA base) := conI rfl rfl (by decide) (Nat.le_of_ble_eq_true rfl) (fun p e s m args below meth c ls C hr hk hl => sm_X10_burnt C hr hk t0 hl) h
abbrev rm_X2_sum : Room := { frames := 0, cells := 0, slots := 0, locals := 0 }
set_option maxHeartbeats 4000000 in
set_option maxRecDepth 100000 in
theorem lp_X2_sum_4 {p : Program} {l : Launch} {e : Env} {s : State} {m : MethodId} {args : Array Value} {below : List Frame} {meth : Method} {c : Code} {D : va_G} {cy : Nat → ClassId} {base tS : Nat} {ls : Array Slot} (C : Cx p rm_X2_sum s m args c RX2 cX2_sum 3 D cy base tS 0 0) (hr : meth.sig.returnType = (some .int)) (hk : meth.locks = false) {k0 : Nat} (t0 : cls k0 = 2) {K : St → Int32 → Int32 → Option (St × Int32)} (hK : ∀ (S : St) (v1 : Int32) (v2 : Int32) (ls : Array Slot), lv_has ls 3 [(0, .ref (base + k0)), (1, .int v1), (2, .int v2)] → Sim p l e rm_X2_sum s m args below meth c D cy base 0 0 (fun S1 r => MQ below (QcI D cy base tS S1 r) args s 0 0 (AA base)) (K S v1 v2) S (F0 m 30 ls [])) : ∀ (n : Nat) (S : St) (v1 : Int32) (v2 : Int32) (ls : Array Slot), lv_has ls 3 [(0, .ref (base + k0)), (1, .int v1), (2, .int v2)] → Sim p l e rm_X2_sum s m args below meth c D cy base 0 0 (fun S1 r => MQ below (QcI D cy base tS S1 r) args s 0 0 (AA base)) (X2_sum_4 k0 K n S v1 v2) S (F0 m 4 ls []) := by
  intro n
  induction n with
  | zero => intro S v1 v2 ls hl; exact Sim.none
  | succ n ih =>
    intro S v1 v2 ls hl
    rw [X2_sum_4]
    refine r_iload_n (pc := 4) C dX2_sum_4 rfl (lv_at hl 2 rfl) ?_
    refine r_aload_n (pc := 5) C dX2_sum_5 rfl (lv_at hl 0 rfl) ?_
    refine gf_X2_22 (pc := 6) C t0 dX2_sum_6 ?_
    have t21 := ft_2_0 t0
    refine gf_X2_32 (pc := 9) C t21 dX2_sum_9 ?_
    refine r_icmp_ge (pc := 12) C (tgt := 30) dX2_sum_12 (by decide) (fun _ => ?_) (fun _ => ?_)
    · exact hK S v1 v2 _ (lv_sub hl [0, 1, 2] rfl)
    · refine r_iload_n (pc := 15) C dX2_sum_15 rfl (lv_at hl 1 rfl) ?_
      refine r_aload_n (pc := 16) C dX2_sum_16 rfl (lv_at hl 0 rfl) ?_
      refine gf_X2_9 (pc := 17) C t0 dX2_sum_17 ?_
      have t22 := ft_2_1 t0
      refine r_iload_n (pc := 20) C dX2_sum_20 rfl (lv_at hl 2 rfl) ?_
      refine r_iald (pc := 21) C t22 dX2_sum_21 ?_
      refine r_iadd (pc := 22) C dX2_sum_22 ?_
      refine r_topi (fun v23 => ?_)
      refine r_istore_n (lv2 := [(1, .int v23), (0, .ref (base + k0)), (2, .int v2)]) (pc := 23) C dX2_sum_23 rfl hl (Nat.le_of_ble_eq_true rfl) rfl (fun ls hl => ?_)
      refine r_iinc (pc := 24) C (k := 2) (1 : Int32) (fun v24 => [(2, .int v24), (1, .int v23), (0, .ref (base + k0))]) dX2_sum_24 hl rfl (by decide) (Nat.le_of_ble_eq_true rfl) (fun _ => rfl) (fun v24 ls hl => ?_)
      refine r_goto (pc := 27) C (tgt := 4) dX2_sum_27 (by decide) ?_
      exact ih S v23 v24 _ (lv_sub hl [2, 1, 0] rfl)

set_option maxHeartbeats 4000000 in
set_option maxRecDepth 100000 in
theorem sm_X2_sum {p : Program} {l : Launch} {e : Env} {s : State} {m : MethodId} {args : Array Value} {below : List Frame} {meth : Method} {c : Code} {D : va_G} {cy : Nat → ClassId} {base tS : Nat} {S : St} {k0 : Nat} {ls : Array Slot} (C : Cx p rm_X2_sum s m args c RX2 cX2_sum 3 D cy base tS 0 0) (hr : meth.sig.returnType = (some .int)) (hk : meth.locks = false) (t0 : cls k0 = 2) (hl : lv_has ls 3 [(0, .ref (base + k0))]) : Sim p l e rm_X2_sum s m args below meth c D cy base 0 0 (fun S1 r => MQ below (QcI D cy base tS S1 r) args s 0 0 (AA base)) (X2_sum S k0) S (F0 m 0 ls []) := by
  unfold X2_sum
  refine r_iconst (pc := 0) C (0 : Int32) dX2_sum_0 (by decide) ?_
  refine r_istore_n (lv2 := [(1, .int (0 : Int32)), (0, .ref (base + k0))]) (pc := 1) C dX2_sum_1 rfl hl (Nat.le_of_ble_eq_true rfl) rfl (fun ls hl => ?_)
  refine r_iconst (pc := 2) C (0 : Int32) dX2_sum_2 (by decide) ?_
  refine r_istore_n (lv2 := [(2, .int (0 : Int32)), (1, .int (0 : Int32)), (0, .ref (base + k0))]) (pc := 3) C dX2_sum_3 rfl hl (Nat.le_of_ble_eq_true rfl) rfl (fun ls hl => ?_)
  refine lp_X2_sum_4 (ls := ls) C hr hk t0 (fun S25 v26 v27 ls hl => ?_) FU S (0 : Int32) (0 : Int32) _ (lv_sub hl [2, 1, 0] rfl)
  refine r_iload_n (pc := 30) C dX2_sum_30 rfl (lv_at hl 1 rfl) ?_
  exact r_iret (pc := 31) C hr hk dX2_sum_31

theorem ct_X2_sum (l : Launch) {D : va_G} {cy : Nat → ClassId} {base tS : Nat} {S : St} {k0 : Nat} (t0 : cls k0 = 2) {S1 : St} {r1 : Int32} (h : X2_sum S k0 = some (S1, r1)) : Met l yX2_sum (wsY yX2_sum cX2_sum 3 (some .int)) rm_X2_sum (va_Pc [.ref (base + k0)] (World D cy base tS S)) (QcI D cy base tS S1 r1) 0 0 (AA base) := conI rfl rfl (by decide) (Nat.le_of_ble_eq_true rfl) (fun p e s m args below meth c ls C hr hk hl => sm_X2_sum C hr hk t0 hl) h
theorem cv_X10_228 {p : Program} {l : Launch} {e : Env} {R : Room} {s : State} {m : MethodId} {args : Array Value} {below : List Frame} {meth : Method} {c : Code} {D : va_G} {cy : Nat → ClassId} {base tS nc ns : Nat} {cc : ByteArray} {nL pc : Nat} {ls : Array Slot} {rest : List Value} {S : St} {ρ : Type} {Q : St → ρ → State → Prop} (C : Cx p R s m args c RX10 cc nL D cy base tS nc ns) {k0 : Nat} (t0 : cls k0 = 2) (hl : ls.size = nL) (hR : rm_X2_sum.frames + 1 ≤ R.frames ∧ 8 + (3 + 11) + rm_X2_sum.locals ≤ R.locals) {b : St → Int32 → Option (St × ρ)} (hroom : (rest.map fun v => v.category).sum ≤ 8) (hd : decode cc pc = .ok (.invokevirtual 228, 3)) (kk : ∀ (S1 : St) (r : Int32), Sim p l e R s m args below meth c D cy base nc ns Q (b S1 r) S1 (F0 m (pc + 3) ls (.int r :: rest))) : Sim p l e R s m args below meth c D cy base nc ns Q (bd (X2_sum S k0) b) S (F0 m pc ls (.ref (base + k0) :: rest)) := r_callVI (n := 0) (As := []) C hl (rd_2 t0) (cls_lt t0 (by decide)) rfl (fun S1 r1 h => ct_X2_sum l t0 h) wd_365 wd_366 wd_367 wd_231 wd_368 rfl rfl (by decide +kernel) hR rfl rfl hroom hd kk
abbrev rm_X10_fillSlot : Room := { frames := 1, cells := 0, slots := 0, locals := 30 }
set_option maxHeartbeats 4000000 in
set_option maxRecDepth 100000 in
theorem sm_X10_fillSlot {p : Program} {l : Launch} {e : Env} {s : State} {m : MethodId} {args : Array Value} {below : List Frame} {meth : Method} {c : Code} {D : va_G} {cy : Nat → ClassId} {base tS : Nat} {S : St} {k0 : Nat} {v1 : Int32} {k2 : Nat} {ls : Array Slot} (C : Cx p rm_X10_fillSlot s m args c RX10 cX10_fillSlot 3 D cy base tS 0 0) (hr : meth.sig.returnType = (some .int)) (hk : meth.locks = false) (t0 : cls k0 = 10) (t2 : cls k2 = 2) (hl : lv_has ls 3 [(0, .ref (base + k0)), (1, .int v1), (2, .ref (base + k2))]) : Sim p l e rm_X10_fillSlot s m args below meth c D cy base 0 0 (fun S1 r => MQ below (QcI D cy base tS S1 r) args s 0 0 (AA base)) (X10_fillSlot S k0 v1 k2) S (F0 m 0 ls []) := by
  unfold X10_fillSlot
  refine r_aload_n (pc := 0) C dX10_fillSlot_0 rfl (lv_at hl 2 rfl) ?_
  refine gf_X10_141 (pc := 1) C t2 dX10_fillSlot_1 ?_
  have t21 := ft_2_1 t2
  refine r_iconst (pc := 4) C (0 : Int32) dX10_fillSlot_4 (by decide) ?_
  refine r_aload_n (pc := 5) C dX10_fillSlot_5 rfl (lv_at hl 0 rfl) ?_
  refine gf_X10_67 (pc := 6) C t0 dX10_fillSlot_6 ?_
  have t22 := ft_10_8 t0
  refine r_iload_n (pc := 9) C dX10_fillSlot_9 rfl (lv_at hl 1 rfl) ?_
  refine r_aald17 (pc := 10) C t22 dX10_fillSlot_10 (fun b24 => ?_)
  have t23 := et_17_8 t22 b24
  refine r_iconst (pc := 11) C (0 : Int32) dX10_fillSlot_11 (by decide) ?_
  refine r_bipush (pc := 12) C (12 : Int32) dX10_fillSlot_12 (by decide) ?_
  refine r_cpyI (rest := []) (pc := 14) C t21 t23 hl.1 wd_30 wd_31 wd_32 wd_33 (Nat.le_of_ble_eq_true rfl) (by decide) dX10_fillSlot_14 (fun S25 => ?_)
  refine r_aload_n (pc := 17) C dX10_fillSlot_17 rfl (lv_at hl 0 rfl) ?_
  refine gf_X10_70 (pc := 18) C t0 dX10_fillSlot_18 ?_
  have t26 := ft_10_9 t0
  refine r_iload_n (pc := 21) C dX10_fillSlot_21 rfl (lv_at hl 1 rfl) ?_
  refine r_iconst (pc := 22) C (1 : Int32) dX10_fillSlot_22 (by decide) ?_
  refine r_zast (pc := 23) C t26 rfl dX10_fillSlot_23 (fun S27 => ?_)
  refine r_aload_n (pc := 24) C dX10_fillSlot_24 rfl (lv_at hl 2 rfl) ?_
  refine cv_X10_228 (pc := 25) C t2 hl.1 ⟨Nat.le_of_ble_eq_true rfl, Nat.le_of_ble_eq_true rfl⟩ (Nat.le_of_ble_eq_true rfl) dX10_fillSlot_25 (fun S28 v29 => ?_)
  exact r_iret (pc := 28) C hr hk dX10_fillSlot_28

theorem ct_X10_fillSlot (l : Launch) {D : va_G} {cy : Nat → ClassId} {base tS : Nat} {S : St} {k0 : Nat} {v1 : Int32} {k2 : Nat} (t0 : cls k0 = 10) (t2 : cls k2 = 2) {S1 : St} {r1 : Int32} (h : X10_fillSlot S k0 v1 k2 = some (S1, r1)) : Met l yX10_fillSlot (wsY yX10_fillSlot cX10_fillSlot 3 (some .int)) rm_X10_fillSlot (va_Pc [.ref (base + k0), .int v1, .ref (base + k2)] (World D cy base tS S)) (QcI D cy base tS S1 r1) 0 0 (AA base) := conI rfl rfl (by decide) (Nat.le_of_ble_eq_true rfl) (fun p e s m args below meth c ls C hr hk hl => sm_X10_fillSlot C hr hk t0 t2 hl) h
theorem cv_X10_220 {p : Program} {l : Launch} {e : Env} {R : Room} {s : State} {m : MethodId} {args : Array Value} {below : List Frame} {meth : Method} {c : Code} {D : va_G} {cy : Nat → ClassId} {base tS nc ns : Nat} {cc : ByteArray} {nL pc : Nat} {ls : Array Slot} {rest : List Value} {S : St} {ρ : Type} {Q : St → ρ → State → Prop} (C : Cx p R s m args c RX10 cc nL D cy base tS nc ns) {k0 : Nat} {v1 : Int32} {k2 : Nat} (t0 : cls k0 = 10) (t2 : cls k2 = 2) (hl : ls.size = nL) (hR : rm_X10_fillSlot.frames + 1 ≤ R.frames ∧ 8 + (3 + 11) + rm_X10_fillSlot.locals ≤ R.locals) {b : St → Int32 → Option (St × ρ)} (hroom : (rest.map fun v => v.category).sum ≤ 8) (hd : decode cc pc = .ok (.invokevirtual 220, 3)) (kk : ∀ (S1 : St) (r : Int32), Sim p l e R s m args below meth c D cy base nc ns Q (b S1 r) S1 (F0 m (pc + 3) ls (.int r :: rest))) : Sim p l e R s m args below meth c D cy base nc ns Q (bd (X10_fillSlot S k0 v1 k2) b) S (F0 m pc ls (.ref (base + k2) :: .int v1 :: .ref (base + k0) :: rest)) := r_callVI (n := 2) (As := [.int v1, .ref (base + k2)]) C hl (rd_10 t0) (cls_lt t0 (by decide)) rfl (fun S1 r1 h => ct_X10_fillSlot l t0 t2 h) wd_369 wd_370 wd_371 wd_164 wd_372 rfl rfl (by decide +kernel) hR rfl rfl hroom hd kk
abbrev rm_X10_isSlot : Room := { frames := 0, cells := 0, slots := 0, locals := 0 }
set_option maxHeartbeats 4000000 in
set_option maxRecDepth 100000 in
theorem sm_X10_isSlot {p : Program} {l : Launch} {e : Env} {s : State} {m : MethodId} {args : Array Value} {below : List Frame} {meth : Method} {c : Code} {D : va_G} {cy : Nat → ClassId} {base tS : Nat} {S : St} {v0 : Int32} {ls : Array Slot} (C : Cx p rm_X10_isSlot s m args c RX10 cX10_isSlot 1 D cy base tS 0 0) (hr : meth.sig.returnType = (some .boolean)) (hk : meth.locks = false)  (hl : lv_has ls 1 [(0, .int v0)]) : Sim p l e rm_X10_isSlot s m args below meth c D cy base 0 0 (fun S1 r => MQ below (QcI D cy base tS S1 r) args s 0 0 (AA base)) (X10_isSlot S v0) S (F0 m 0 ls []) := by
  unfold X10_isSlot
  refine r_iload_n (pc := 0) C dX10_isSlot_0 rfl (lv_at hl 0 rfl) ?_
  refine r_join (fun (j : St → Option (St × Int32)) => ∀ (S22 : St)  (ls : Array Slot), lv_has ls 1 [] → Sim p l e rm_X10_isSlot s m args below meth c D cy base 0 0 (fun S1 r => MQ below (QcI D cy base tS S1 r) args s 0 0 (AA base)) (j S22) S22 (F0 m 14 ls [])) ?_ (fun j21 hj21 => ?_)
  · intro S22 ls hl
    refine r_iconst (pc := 14) C (0 : Int32) dX10_isSlot_14 (by decide) ?_
    exact r_zret (pc := 15) C rfl hr hk dX10_isSlot_15
  refine r_if_lt (pc := 1) C (tgt := 14) dX10_isSlot_1 (by decide) (fun _ => ?_) (fun _ => ?_)
  · exact hj21 S  _ (lv_sub hl [] rfl)
  · refine r_iload_n (pc := 4) C dX10_isSlot_4 rfl (lv_at hl 0 rfl) ?_
    refine r_bipush (pc := 5) C (8 : Int32) dX10_isSlot_5 (by decide) ?_
    refine r_icmp_ge (pc := 7) C (tgt := 14) dX10_isSlot_7 (by decide) (fun _ => ?_) (fun _ => ?_)
    · exact hj21 S  _ (lv_sub hl [] rfl)
    · refine r_iconst (pc := 10) C (1 : Int32) dX10_isSlot_10 (by decide) ?_
      refine r_goto (pc := 11) C (tgt := 15) dX10_isSlot_11 (by decide) ?_
      exact r_zret (pc := 15) C rfl hr hk dX10_isSlot_15

theorem ct_X10_isSlot (l : Launch) {D : va_G} {cy : Nat → ClassId} {base tS : Nat} {S : St} {v0 : Int32}  {S1 : St} {r1 : Int32} (h : X10_isSlot S v0 = some (S1, r1)) : Met l yX10_isSlot (wsY yX10_isSlot cX10_isSlot 1 (some .boolean)) rm_X10_isSlot (va_Pc [.int v0] (World D cy base tS S)) (QcI D cy base tS S1 r1) 0 0 (AA base) := conI rfl rfl (by decide) (Nat.le_of_ble_eq_true rfl) (fun p e s m args below meth c ls C hr hk hl => sm_X10_isSlot C hr hk  hl) h
theorem cv_X10_217 {p : Program} {l : Launch} {e : Env} {R : Room} {s : State} {m : MethodId} {args : Array Value} {below : List Frame} {meth : Method} {c : Code} {D : va_G} {cy : Nat → ClassId} {base tS nc ns : Nat} {cc : ByteArray} {nL pc : Nat} {ls : Array Slot} {rest : List Value} {S : St} {ρ : Type} {Q : St → ρ → State → Prop} (C : Cx p R s m args c RX10 cc nL D cy base tS nc ns) {v0 : Int32}  (hl : ls.size = nL) (hR : rm_X10_isSlot.frames + 1 ≤ R.frames ∧ 8 + (1 + 11) + rm_X10_isSlot.locals ≤ R.locals) {b : St → Int32 → Option (St × ρ)} (hroom : (rest.map fun v => v.category).sum ≤ 8) (hd : decode cc pc = .ok (.invokestatic 217, 3)) (kk : ∀ (S1 : St) (r : Int32), Sim p l e R s m args below meth c D cy base nc ns Q (b S1 r) S1 (F0 m (pc + 3) ls (.int r :: rest))) : Sim p l e R s m args below meth c D cy base nc ns Q (bd (X10_isSlot S v0) b) S (F0 m pc ls (.int v0 :: rest)) := r_callSI (n := 1) (As := [.int v0]) C hl (fun S1 r1 h => ct_X10_isSlot l  h) wd_373 wd_374 wd_164 wd_375 rfl rfl (by decide +kernel) hR rfl rfl hroom hd kk
abbrev rm_X10_keep : Room := { frames := 2, cells := 0, slots := 0, locals := 52 }
set_option maxHeartbeats 4000000 in
set_option maxRecDepth 100000 in
theorem sm_X10_keep {p : Program} {l : Launch} {e : Env} {s : State} {m : MethodId} {args : Array Value} {below : List Frame} {meth : Method} {c : Code} {D : va_G} {cy : Nat → ClassId} {base tS : Nat} {S : St} {k0 : Nat} {v1 : Int32} {ls : Array Slot} (C : Cx p rm_X10_keep s m args c RX10 cX10_keep 2 D cy base tS 0 0) (hr : meth.sig.returnType = (some .int)) (hk : meth.locks = false) (t0 : cls k0 = 10) (hl : lv_has ls 2 [(0, .ref (base + k0)), (1, .int v1)]) : Sim p l e rm_X10_keep s m args below meth c D cy base 0 0 (fun S1 r => MQ below (QcI D cy base tS S1 r) args s 0 0 (AA base)) (X10_keep S k0 v1) S (F0 m 0 ls []) := by
  unfold X10_keep
  refine r_iload_n (pc := 0) C dX10_keep_0 rfl (lv_at hl 1 rfl) ?_
  refine cv_X10_217 (pc := 1) C  hl.1 ⟨Nat.le_of_ble_eq_true rfl, Nat.le_of_ble_eq_true rfl⟩ (Nat.le_of_ble_eq_true rfl) dX10_keep_1 (fun S21 v22 => ?_)
  refine r_if_ne (pc := 4) C (tgt := 13) dX10_keep_4 (by decide) (fun _ => ?_) (fun _ => ?_)
  · refine r_aload_n (pc := 13) C dX10_keep_13 rfl (lv_at hl 0 rfl) ?_
    refine gf_X10_92 (pc := 14) C t0 dX10_keep_14 ?_
    refine r_if_ne (pc := 17) C (tgt := 27) dX10_keep_17 (by decide) (fun _ => ?_) (fun _ => ?_)
    · refine r_aload_n (pc := 27) C dX10_keep_27 rfl (lv_at hl 0 rfl) ?_
      refine r_iload_n (pc := 28) C dX10_keep_28 rfl (lv_at hl 1 rfl) ?_
      refine r_aload_n (pc := 29) C dX10_keep_29 rfl (lv_at hl 0 rfl) ?_
      refine gf_X10_21 (pc := 30) C t0 dX10_keep_30 ?_
      have t23 := ft_10_1 t0
      refine cv_X10_220 (pc := 33) C t0 t23 hl.1 ⟨Nat.le_of_ble_eq_true rfl, Nat.le_of_ble_eq_true rfl⟩ (Nat.le_of_ble_eq_true rfl) dX10_keep_33 (fun S24 v25 => ?_)
      exact r_iret (pc := 36) C hr hk dX10_keep_36
    · refine r_aload_n (pc := 20) C dX10_keep_20 rfl (lv_at hl 0 rfl) ?_
      refine r_bipush (pc := 21) C (-8 : Int32) dX10_keep_21 (by decide) ?_
      refine cv_X10_96 (pc := 23) C t0 hl.1 ⟨Nat.le_of_ble_eq_true rfl, Nat.le_of_ble_eq_true rfl⟩ (Nat.le_of_ble_eq_true rfl) dX10_keep_23 (fun S26 v27 => ?_)
      exact r_iret (pc := 26) C hr hk dX10_keep_26
  · refine r_aload_n (pc := 7) C dX10_keep_7 rfl (lv_at hl 0 rfl) ?_
    refine r_iconst (pc := 8) C (-1 : Int32) dX10_keep_8 (by decide) ?_
    refine cv_X10_96 (pc := 9) C t0 hl.1 ⟨Nat.le_of_ble_eq_true rfl, Nat.le_of_ble_eq_true rfl⟩ (Nat.le_of_ble_eq_true rfl) dX10_keep_9 (fun S28 v29 => ?_)
    exact r_iret (pc := 12) C hr hk dX10_keep_12

theorem ct_X10_keep (l : Launch) {D : va_G} {cy : Nat → ClassId} {base tS : Nat} {S : St} {k0 : Nat} {v1 : Int32} (t0 : cls k0 = 10) {S1 : St} {r1 : Int32} (h : X10_keep S k0 v1 = some (S1, r1)) : Met l yX10_keep (wsY yX10_keep cX10_keep 2 (some .int)) rm_X10_keep (va_Pc [.ref (base + k0), .int v1] (World D cy base tS S)) (QcI D cy base tS S1 r1) 0 0 (AA base) := conI rfl rfl (by decide) (Nat.le_of_ble_eq_true rfl) (fun p e s m args below meth c ls C hr hk hl => sm_X10_keep C hr hk t0 hl) h
abbrev rm_X2_takeGrains : Room := { frames := 1, cells := 0, slots := 0, locals := 30 }
set_option maxHeartbeats 4000000 in
set_option maxRecDepth 100000 in
theorem sm_X2_takeGrains {p : Program} {l : Launch} {e : Env} {s : State} {m : MethodId} {args : Array Value} {below : List Frame} {meth : Method} {c : Code} {D : va_G} {cy : Nat → ClassId} {base tS : Nat} {S : St} {k0 : Nat} {k1 : Nat} {ls : Array Slot} (C : Cx p rm_X2_takeGrains s m args c RX2 cX2_takeGrains 2 D cy base tS 0 0) (hr : meth.sig.returnType = none) (hk : meth.locks = false) (t0 : cls k0 = 2) (t1 : cls k1 = 12 ∧ len k1 = 12) (hl : lv_has ls 2 [(0, .ref (base + k0)), (1, .ref (base + k1))]) : Sim p l e rm_X2_takeGrains s m args below meth c D cy base 0 0 (fun S1 r => MQ below (QcV D cy base tS S1 r) args s 0 0 (AA base)) (X2_takeGrains S k0 k1) S (F0 m 0 ls []) := by
  unfold X2_takeGrains
  refine r_aload_n (pc := 0) C dX2_takeGrains_0 rfl (lv_at hl 1 rfl) ?_
  refine r_iconst (pc := 1) C (0 : Int32) dX2_takeGrains_1 (by decide) ?_
  refine r_aload_n (pc := 2) C dX2_takeGrains_2 rfl (lv_at hl 0 rfl) ?_
  refine gf_X2_9 (pc := 3) C t0 dX2_takeGrains_3 ?_
  have t21 := ft_2_1 t0
  refine r_iconst (pc := 6) C (0 : Int32) dX2_takeGrains_6 (by decide) ?_
  refine r_bipush (pc := 7) C (12 : Int32) dX2_takeGrains_7 (by decide) ?_
  refine r_cpyI (rest := []) (pc := 9) C t1 t21 hl.1 wd_113 wd_31 wd_32 wd_33 (Nat.le_of_ble_eq_true rfl) (by decide) dX2_takeGrains_9 (fun S22 => ?_)
  exact r_vret (pc := 12) C hr hk dX2_takeGrains_12

theorem ct_X2_takeGrains (l : Launch) {D : va_G} {cy : Nat → ClassId} {base tS : Nat} {S : St} {k0 : Nat} {k1 : Nat} (t0 : cls k0 = 2) (t1 : cls k1 = 12 ∧ len k1 = 12) {S1 : St} {r1 : Unit} (h : X2_takeGrains S k0 k1 = some (S1, r1)) : Met l yX2_takeGrains (wsY yX2_takeGrains cX2_takeGrains 2 none) rm_X2_takeGrains (va_Pc [.ref (base + k0), .ref (base + k1)] (World D cy base tS S)) (QcV D cy base tS S1 r1) 0 0 (AA base) := conV rfl rfl (by decide) (Nat.le_of_ble_eq_true rfl) (fun p e s m args below meth c ls C hr hk hl => sm_X2_takeGrains C hr hk t0 t1 hl) h
theorem cv_X10_224 {p : Program} {l : Launch} {e : Env} {R : Room} {s : State} {m : MethodId} {args : Array Value} {below : List Frame} {meth : Method} {c : Code} {D : va_G} {cy : Nat → ClassId} {base tS nc ns : Nat} {cc : ByteArray} {nL pc : Nat} {ls : Array Slot} {rest : List Value} {S : St} {ρ : Type} {Q : St → ρ → State → Prop} (C : Cx p R s m args c RX10 cc nL D cy base tS nc ns) {k0 : Nat} {k1 : Nat} (t0 : cls k0 = 2) (t1 : cls k1 = 12 ∧ len k1 = 12) (hl : ls.size = nL) (hR : rm_X2_takeGrains.frames + 1 ≤ R.frames ∧ 8 + (2 + 11) + rm_X2_takeGrains.locals ≤ R.locals) {b : St → Unit → Option (St × ρ)} (hroom : (rest.map fun v => v.category).sum ≤ 8) (hd : decode cc pc = .ok (.invokevirtual 224, 3)) (kk : ∀ (S1 : St) (r : Unit), Sim p l e R s m args below meth c D cy base nc ns Q (b S1 r) S1 (F0 m (pc + 3) ls (rest))) : Sim p l e R s m args below meth c D cy base nc ns Q (bd (X2_takeGrains S k0 k1) b) S (F0 m pc ls (.ref (base + k1) :: .ref (base + k0) :: rest)) := r_callVV (n := 1) (As := [.ref (base + k1)]) C hl (rd_2 t0) (cls_lt t0 (by decide)) rfl (fun S1 r1 h => ct_X2_takeGrains l t0 t1 h) wd_376 wd_377 wd_378 wd_231 wd_379 rfl rfl (by decide +kernel) hR rfl rfl hroom hd kk
abbrev rm_X10_bring : Room := { frames := 2, cells := 0, slots := 0, locals := 51 }
set_option maxHeartbeats 4000000 in
set_option maxRecDepth 100000 in
theorem sm_X10_bring {p : Program} {l : Launch} {e : Env} {s : State} {m : MethodId} {args : Array Value} {below : List Frame} {meth : Method} {c : Code} {D : va_G} {cy : Nat → ClassId} {base tS : Nat} {S : St} {k0 : Nat} {v1 : Int32} {ls : Array Slot} (C : Cx p rm_X10_bring s m args c RX10 cX10_bring 2 D cy base tS 0 0) (hr : meth.sig.returnType = (some .int)) (hk : meth.locks = false) (t0 : cls k0 = 10) (hl : lv_has ls 2 [(0, .ref (base + k0)), (1, .int v1)]) : Sim p l e rm_X10_bring s m args below meth c D cy base 0 0 (fun S1 r => MQ below (QcI D cy base tS S1 r) args s 0 0 (AA base)) (X10_bring S k0 v1) S (F0 m 0 ls []) := by
  unfold X10_bring
  refine r_iload_n (pc := 0) C dX10_bring_0 rfl (lv_at hl 1 rfl) ?_
  refine cv_X10_217 (pc := 1) C  hl.1 ⟨Nat.le_of_ble_eq_true rfl, Nat.le_of_ble_eq_true rfl⟩ (Nat.le_of_ble_eq_true rfl) dX10_bring_1 (fun S21 v22 => ?_)
  refine r_if_ne (pc := 4) C (tgt := 13) dX10_bring_4 (by decide) (fun _ => ?_) (fun _ => ?_)
  · refine r_aload_n (pc := 13) C dX10_bring_13 rfl (lv_at hl 0 rfl) ?_
    refine gf_X10_70 (pc := 14) C t0 dX10_bring_14 ?_
    have t23 := ft_10_9 t0
    refine r_iload_n (pc := 17) C dX10_bring_17 rfl (lv_at hl 1 rfl) ?_
    refine r_zald (pc := 18) C t23 dX10_bring_18 ?_
    refine r_if_ne (pc := 19) C (tgt := 29) dX10_bring_19 (by decide) (fun _ => ?_) (fun _ => ?_)
    · refine r_aload_n (pc := 29) C dX10_bring_29 rfl (lv_at hl 0 rfl) ?_
      refine gf_X10_92 (pc := 30) C t0 dX10_bring_30 ?_
      refine r_if_ne (pc := 33) C (tgt := 43) dX10_bring_33 (by decide) (fun _ => ?_) (fun _ => ?_)
      · refine r_aload_n (pc := 43) C dX10_bring_43 rfl (lv_at hl 0 rfl) ?_
        refine gf_X10_21 (pc := 44) C t0 dX10_bring_44 ?_
        have t24 := ft_10_1 t0
        refine r_aload_n (pc := 47) C dX10_bring_47 rfl (lv_at hl 0 rfl) ?_
        refine gf_X10_67 (pc := 48) C t0 dX10_bring_48 ?_
        have t25 := ft_10_8 t0
        refine r_iload_n (pc := 51) C dX10_bring_51 rfl (lv_at hl 1 rfl) ?_
        refine r_aald17 (pc := 52) C t25 dX10_bring_52 (fun b27 => ?_)
        have t26 := et_17_8 t25 b27
        refine cv_X10_224 (pc := 53) C t24 t26 hl.1 ⟨Nat.le_of_ble_eq_true rfl, Nat.le_of_ble_eq_true rfl⟩ (Nat.le_of_ble_eq_true rfl) dX10_bring_53 (fun S28 _ => ?_)
        refine r_aload_n (pc := 56) C dX10_bring_56 rfl (lv_at hl 0 rfl) ?_
        refine gf_X10_40 (pc := 57) C t0 dX10_bring_57 ?_
        have t29 := ft_10_4 t0
        refine cv_X10_134 (pc := 60) C t29 hl.1 ⟨Nat.le_of_ble_eq_true rfl, Nat.le_of_ble_eq_true rfl⟩ (Nat.le_of_ble_eq_true rfl) dX10_bring_60 (fun S30 _ => ?_)
        refine r_aload_n (pc := 63) C dX10_bring_63 rfl (lv_at hl 0 rfl) ?_
        refine gf_X10_21 (pc := 64) C t0 dX10_bring_64 ?_
        have t31 := ft_10_1 t0
        refine cv_X10_228 (pc := 67) C t31 hl.1 ⟨Nat.le_of_ble_eq_true rfl, Nat.le_of_ble_eq_true rfl⟩ (Nat.le_of_ble_eq_true rfl) dX10_bring_67 (fun S32 v33 => ?_)
        exact r_iret (pc := 70) C hr hk dX10_bring_70
      · refine r_aload_n (pc := 36) C dX10_bring_36 rfl (lv_at hl 0 rfl) ?_
        refine r_bipush (pc := 37) C (-8 : Int32) dX10_bring_37 (by decide) ?_
        refine cv_X10_96 (pc := 39) C t0 hl.1 ⟨Nat.le_of_ble_eq_true rfl, Nat.le_of_ble_eq_true rfl⟩ (Nat.le_of_ble_eq_true rfl) dX10_bring_39 (fun S34 v35 => ?_)
        exact r_iret (pc := 42) C hr hk dX10_bring_42
    · refine r_aload_n (pc := 22) C dX10_bring_22 rfl (lv_at hl 0 rfl) ?_
      refine r_bipush (pc := 23) C (-11 : Int32) dX10_bring_23 (by decide) ?_
      refine cv_X10_96 (pc := 25) C t0 hl.1 ⟨Nat.le_of_ble_eq_true rfl, Nat.le_of_ble_eq_true rfl⟩ (Nat.le_of_ble_eq_true rfl) dX10_bring_25 (fun S36 v37 => ?_)
      exact r_iret (pc := 28) C hr hk dX10_bring_28
  · refine r_aload_n (pc := 7) C dX10_bring_7 rfl (lv_at hl 0 rfl) ?_
    refine r_iconst (pc := 8) C (-1 : Int32) dX10_bring_8 (by decide) ?_
    refine cv_X10_96 (pc := 9) C t0 hl.1 ⟨Nat.le_of_ble_eq_true rfl, Nat.le_of_ble_eq_true rfl⟩ (Nat.le_of_ble_eq_true rfl) dX10_bring_9 (fun S38 v39 => ?_)
    exact r_iret (pc := 12) C hr hk dX10_bring_12

theorem ct_X10_bring (l : Launch) {D : va_G} {cy : Nat → ClassId} {base tS : Nat} {S : St} {k0 : Nat} {v1 : Int32} (t0 : cls k0 = 10) {S1 : St} {r1 : Int32} (h : X10_bring S k0 v1 = some (S1, r1)) : Met l yX10_bring (wsY yX10_bring cX10_bring 2 (some .int)) rm_X10_bring (va_Pc [.ref (base + k0), .int v1] (World D cy base tS S)) (QcI D cy base tS S1 r1) 0 0 (AA base) := conI rfl rfl (by decide) (Nat.le_of_ble_eq_true rfl) (fun p e s m args below meth c ls C hr hk hl => sm_X10_bring C hr hk t0 hl) h
