abbrev rm_X11_asks : Room := { frames := 1, cells := 0, slots := 0, locals := 22 }
set_option maxHeartbeats 4000000 in
set_option maxRecDepth 100000 in
theorem lp_X11_asks_98 {p : Program} {l : Launch} {e : Env} {s : State} {m : MethodId} {args : Array Value} {below : List Frame} {meth : Method} {c : Code} {D : va_G} {cy : Nat → ClassId} {base tS : Nat} {ls : Array Slot} (C : Cx p rm_X11_asks s m args c RX11 cX11_asks 4 D cy base tS 0 0) (hr : meth.sig.returnType = none) (hk : meth.locks = false) {k0 : Nat} {v1 : Int32} (t0 : cls k0 = 11) {K : St → Int32 → Option (St × Unit)} (hK : ∀ (S : St) (v2 : Int32) (ls : Array Slot), lv_has ls 4 [(0, .ref (base + k0)), (1, .int v1), (2, .int v2)] → Sim p l e rm_X11_asks s m args below meth c D cy base 0 0 (fun S1 r => MQ below (QcV D cy base tS S1 r) args s 0 0 (AA base)) (K S v2) S (F0 m 152 ls [])) : ∀ (n : Nat) (S : St) (v2 : Int32) (ls : Array Slot), lv_has ls 4 [(0, .ref (base + k0)), (1, .int v1), (2, .int v2)] → Sim p l e rm_X11_asks s m args below meth c D cy base 0 0 (fun S1 r => MQ below (QcV D cy base tS S1 r) args s 0 0 (AA base)) (X11_asks_98 k0 v1 K n S v2) S (F0 m 98 ls []) := by
  intro n
  induction n with
  | zero => intro S v2 ls hl; exact Sim.none
  | succ n ih =>
    intro S v2 ls hl
    rw [X11_asks_98]
    refine r_iload_n (pc := 98) C dX11_asks_98 rfl (lv_at hl 2 rfl) ?_
    refine r_aload_n (pc := 99) C dX11_asks_99 rfl (lv_at hl 0 rfl) ?_
    refine gf_X11_95 (pc := 100) C t0 dX11_asks_100 ?_
    refine r_icmp_ge (pc := 103) C (tgt := 152) dX11_asks_103 (by decide) (fun _ => ?_) (fun _ => ?_)
    · exact hK S v2 _ (lv_sub hl [0, 1, 2] rfl)
    · refine r_aload_n (pc := 106) C dX11_asks_106 rfl (lv_at hl 0 rfl) ?_
      refine r_iload_n (pc := 107) C dX11_asks_107 rfl (lv_at hl 1 rfl) ?_
      refine r_iload_n (pc := 108) C dX11_asks_108 rfl (lv_at hl 2 rfl) ?_
      refine cv_X11_102 (pc := 109) C t0 hl.1 ⟨Nat.le_of_ble_eq_true rfl, Nat.le_of_ble_eq_true rfl⟩ (Nat.le_of_ble_eq_true rfl) dX11_asks_109 (fun S22 v23 => ?_)
      refine r_join (fun (j : St → Option (St × Unit)) => ∀ (S25 : St)  (ls : Array Slot), lv_has ls 4 [(0, .ref (base + k0)), (1, .int v1), (2, .int v2)] → Sim p l e rm_X11_asks s m args below meth c D cy base 0 0 (fun S1 r => MQ below (QcV D cy base tS S1 r) args s 0 0 (AA base)) (j S25) S25 (F0 m 146 ls [])) ?_ (fun j24 hj24 => ?_)
      · intro S25 ls hl
        refine r_iinc (pc := 146) C (k := 2) (1 : Int32) (fun v26 => [(2, .int v26), (0, .ref (base + k0)), (1, .int v1)]) dX11_asks_146 hl rfl (by decide) (Nat.le_of_ble_eq_true rfl) (fun _ => rfl) (fun v26 ls hl => ?_)
        refine r_goto (pc := 149) C (tgt := 98) dX11_asks_149 (by decide) ?_
        exact ih S25 v26 _ (lv_sub hl [1, 2, 0] rfl)
      refine r_if_eq (pc := 112) C (tgt := 146) dX11_asks_112 (by decide) (fun _ => ?_) (fun _ => ?_)
      · exact hj24 S22  _ (lv_sub hl [0, 1, 2] rfl)
      · refine r_aload_n (pc := 115) C dX11_asks_115 rfl (lv_at hl 0 rfl) ?_
        refine r_iload_n (pc := 116) C dX11_asks_116 rfl (lv_at hl 2 rfl) ?_
        refine cv_X11_180 (pc := 117) C t0 hl.1 ⟨Nat.le_of_ble_eq_true rfl, Nat.le_of_ble_eq_true rfl⟩ (Nat.le_of_ble_eq_true rfl) dX11_asks_117 (fun S27 v28 => ?_)
        refine r_if_eq (pc := 120) C (tgt := 126) dX11_asks_120 (by decide) (fun _ => ?_) (fun _ => ?_)
        · refine r_aload_n (pc := 126) C dX11_asks_126 rfl (lv_at hl 0 rfl) ?_
          refine gf_X11_30 (pc := 127) C t0 dX11_asks_127 ?_
          have t29 := ft_11_10 t0
          refine r_aload_n (pc := 130) C dX11_asks_130 rfl (lv_at hl 0 rfl) ?_
          refine gf_X11_131 (pc := 131) C t0 dX11_asks_131 ?_
          refine r_iload_n (pc := 134) C dX11_asks_134 rfl (lv_at hl 2 rfl) ?_
          refine r_iast (pc := 135) C t29 dX11_asks_135 (fun S30 => ?_)
          refine r_aload_n (pc := 136) C dX11_asks_136 rfl (lv_at hl 0 rfl) ?_
          refine r_dup (pc := 137) C dX11_asks_137 rfl ?_
          refine gf_X11_131 (pc := 138) C t0 dX11_asks_138 ?_
          refine r_iconst (pc := 141) C (1 : Int32) dX11_asks_141 (by decide) ?_
          refine r_iadd (pc := 142) C dX11_asks_142 ?_
          refine pf_X11_131 (pc := 143) C t0 dX11_asks_143 (fun S31 => ?_)
          exact hj24 S31  _ (lv_sub hl [0, 1, 2] rfl)
        · refine r_goto (pc := 123) C (tgt := 146) dX11_asks_123 (by decide) ?_
          exact hj24 S27  _ (lv_sub hl [0, 1, 2] rfl)

set_option maxHeartbeats 4000000 in
set_option maxRecDepth 100000 in
theorem lp_X11_asks_46 {p : Program} {l : Launch} {e : Env} {s : State} {m : MethodId} {args : Array Value} {below : List Frame} {meth : Method} {c : Code} {D : va_G} {cy : Nat → ClassId} {base tS : Nat} {ls : Array Slot} (C : Cx p rm_X11_asks s m args c RX11 cX11_asks 4 D cy base tS 0 0) (hr : meth.sig.returnType = none) (hk : meth.locks = false) {k0 : Nat} {v1 : Int32} {v2 : Int32} (t0 : cls k0 = 11) {K : St → Int32 → Option (St × Unit)} (hK : ∀ (S : St) (v3 : Int32) (ls : Array Slot), lv_has ls 4 [(0, .ref (base + k0)), (1, .int v1), (2, .int v2), (3, .int v3)] → Sim p l e rm_X11_asks s m args below meth c D cy base 0 0 (fun S1 r => MQ below (QcV D cy base tS S1 r) args s 0 0 (AA base)) (K S v3) S (F0 m 70 ls [])) : ∀ (n : Nat) (S : St) (v3 : Int32) (ls : Array Slot), lv_has ls 4 [(0, .ref (base + k0)), (1, .int v1), (2, .int v2), (3, .int v3)] → Sim p l e rm_X11_asks s m args below meth c D cy base 0 0 (fun S1 r => MQ below (QcV D cy base tS S1 r) args s 0 0 (AA base)) (X11_asks_46 k0 v1 v2 K n S v3) S (F0 m 46 ls []) := by
  intro n
  induction n with
  | zero => intro S v3 ls hl; exact Sim.none
  | succ n ih =>
    intro S v3 ls hl
    rw [X11_asks_46]
    refine r_iload_n (pc := 46) C dX11_asks_46 rfl (lv_at hl 3 rfl) ?_
    refine r_if_le (pc := 47) C (tgt := 70) dX11_asks_47 (by decide) (fun _ => ?_) (fun _ => ?_)
    · exact hK S v3 _ (lv_sub hl [0, 1, 2, 3] rfl)
    · refine r_aload_n (pc := 50) C dX11_asks_50 rfl (lv_at hl 0 rfl) ?_
      refine gf_X11_30 (pc := 51) C t0 dX11_asks_51 ?_
      have t43 := ft_11_10 t0
      refine r_iload_n (pc := 54) C dX11_asks_54 rfl (lv_at hl 3 rfl) ?_
      refine r_aload_n (pc := 55) C dX11_asks_55 rfl (lv_at hl 0 rfl) ?_
      refine gf_X11_30 (pc := 56) C t0 dX11_asks_56 ?_
      have t44 := ft_11_10 t0
      refine r_iload_n (pc := 59) C dX11_asks_59 rfl (lv_at hl 3 rfl) ?_
      refine r_iconst (pc := 60) C (1 : Int32) dX11_asks_60 (by decide) ?_
      refine r_isub (pc := 61) C dX11_asks_61 ?_
      refine r_iald (pc := 62) C t44 dX11_asks_62 ?_
      refine r_iast (pc := 63) C t43 dX11_asks_63 (fun S45 => ?_)
      refine r_iinc (pc := 64) C (k := 3) (-1 : Int32) (fun v46 => [(3, .int v46), (0, .ref (base + k0)), (1, .int v1), (2, .int v2)]) dX11_asks_64 hl rfl (by decide) (Nat.le_of_ble_eq_true rfl) (fun _ => rfl) (fun v46 ls hl => ?_)
      refine r_goto (pc := 67) C (tgt := 46) dX11_asks_67 (by decide) ?_
      exact ih S45 v46 _ (lv_sub hl [1, 2, 3, 0] rfl)

set_option maxHeartbeats 4000000 in
set_option maxRecDepth 100000 in
theorem lp_X11_asks_17 {p : Program} {l : Launch} {e : Env} {s : State} {m : MethodId} {args : Array Value} {below : List Frame} {meth : Method} {c : Code} {D : va_G} {cy : Nat → ClassId} {base tS : Nat} {ls : Array Slot} (C : Cx p rm_X11_asks s m args c RX11 cX11_asks 4 D cy base tS 0 0) (hr : meth.sig.returnType = none) (hk : meth.locks = false) {k0 : Nat} {v1 : Int32} (t0 : cls k0 = 11) {K : St → Int32 → Option (St × Unit)} (hK : ∀ (S : St) (v2 : Int32) (ls : Array Slot), lv_has ls 4 [(0, .ref (base + k0)), (1, .int v1), (2, .int v2)] → Sim p l e rm_X11_asks s m args below meth c D cy base 0 0 (fun S1 r => MQ below (QcV D cy base tS S1 r) args s 0 0 (AA base)) (K S v2) S (F0 m 93 ls [])) : ∀ (n : Nat) (S : St) (v2 : Int32) (ls : Array Slot), lv_has ls 4 [(0, .ref (base + k0)), (1, .int v1), (2, .int v2)] → Sim p l e rm_X11_asks s m args below meth c D cy base 0 0 (fun S1 r => MQ below (QcV D cy base tS S1 r) args s 0 0 (AA base)) (X11_asks_17 k0 v1 K n S v2) S (F0 m 17 ls []) := by
  intro n
  induction n with
  | zero => intro S v2 ls hl; exact Sim.none
  | succ n ih =>
    intro S v2 ls hl
    rw [X11_asks_17]
    refine r_iload_n (pc := 17) C dX11_asks_17 rfl (lv_at hl 2 rfl) ?_
    refine r_if_lt (pc := 18) C (tgt := 93) dX11_asks_18 (by decide) (fun _ => ?_) (fun _ => ?_)
    · exact hK S v2 _ (lv_sub hl [0, 1, 2] rfl)
    · refine r_aload_n (pc := 21) C dX11_asks_21 rfl (lv_at hl 0 rfl) ?_
      refine r_iload_n (pc := 22) C dX11_asks_22 rfl (lv_at hl 1 rfl) ?_
      refine r_iload_n (pc := 23) C dX11_asks_23 rfl (lv_at hl 2 rfl) ?_
      refine cv_X11_102 (pc := 24) C t0 hl.1 ⟨Nat.le_of_ble_eq_true rfl, Nat.le_of_ble_eq_true rfl⟩ (Nat.le_of_ble_eq_true rfl) dX11_asks_24 (fun S35 v36 => ?_)
      refine r_join (fun (j : St → Option (St × Unit)) => ∀ (S38 : St)  (ls : Array Slot), lv_has ls 4 [(0, .ref (base + k0)), (1, .int v1), (2, .int v2)] → Sim p l e rm_X11_asks s m args below meth c D cy base 0 0 (fun S1 r => MQ below (QcV D cy base tS S1 r) args s 0 0 (AA base)) (j S38) S38 (F0 m 87 ls [])) ?_ (fun j37 hj37 => ?_)
      · intro S38 ls hl
        refine r_iinc (pc := 87) C (k := 2) (-1 : Int32) (fun v39 => [(2, .int v39), (0, .ref (base + k0)), (1, .int v1)]) dX11_asks_87 hl rfl (by decide) (Nat.le_of_ble_eq_true rfl) (fun _ => rfl) (fun v39 ls hl => ?_)
        refine r_goto (pc := 90) C (tgt := 17) dX11_asks_90 (by decide) ?_
        exact ih S38 v39 _ (lv_sub hl [1, 2, 0] rfl)
      refine r_if_eq (pc := 27) C (tgt := 87) dX11_asks_27 (by decide) (fun _ => ?_) (fun _ => ?_)
      · exact hj37 S35  _ (lv_sub hl [0, 1, 2] rfl)
      · refine r_aload_n (pc := 30) C dX11_asks_30 rfl (lv_at hl 0 rfl) ?_
        refine r_iload_n (pc := 31) C dX11_asks_31 rfl (lv_at hl 2 rfl) ?_
        refine cv_X11_180 (pc := 32) C t0 hl.1 ⟨Nat.le_of_ble_eq_true rfl, Nat.le_of_ble_eq_true rfl⟩ (Nat.le_of_ble_eq_true rfl) dX11_asks_32 (fun S40 v41 => ?_)
        refine r_if_eq (pc := 35) C (tgt := 41) dX11_asks_35 (by decide) (fun _ => ?_) (fun _ => ?_)
        · refine r_aload_n (pc := 41) C dX11_asks_41 rfl (lv_at hl 0 rfl) ?_
          refine gf_X11_131 (pc := 42) C t0 dX11_asks_42 ?_
          refine r_topi (fun v42 => ?_)
          refine r_istore_n (lv2 := [(3, .int v42), (0, .ref (base + k0)), (1, .int v1), (2, .int v2)]) (pc := 45) C dX11_asks_45 rfl hl (Nat.le_of_ble_eq_true rfl) rfl (fun ls hl => ?_)
          refine lp_X11_asks_46 (ls := ls) C hr hk t0 (fun S47 v48 ls hl => ?_) FU S40 v42 _ (lv_sub hl [1, 2, 3, 0] rfl)
          refine r_aload_n (pc := 70) C dX11_asks_70 rfl (lv_at hl 0 rfl) ?_
          refine gf_X11_30 (pc := 71) C t0 dX11_asks_71 ?_
          have t49 := ft_11_10 t0
          refine r_iconst (pc := 74) C (0 : Int32) dX11_asks_74 (by decide) ?_
          refine r_iload_n (pc := 75) C dX11_asks_75 rfl (lv_at hl 2 rfl) ?_
          refine r_iast (pc := 76) C t49 dX11_asks_76 (fun S50 => ?_)
          refine r_aload_n (pc := 77) C dX11_asks_77 rfl (lv_at hl 0 rfl) ?_
          refine r_dup (pc := 78) C dX11_asks_78 rfl ?_
          refine gf_X11_131 (pc := 79) C t0 dX11_asks_79 ?_
          refine r_iconst (pc := 82) C (1 : Int32) dX11_asks_82 (by decide) ?_
          refine r_iadd (pc := 83) C dX11_asks_83 ?_
          refine pf_X11_131 (pc := 84) C t0 dX11_asks_84 (fun S51 => ?_)
          exact hj37 S51  _ (lv_sub hl [0, 1, 2] rfl)
        · refine r_goto (pc := 38) C (tgt := 87) dX11_asks_38 (by decide) ?_
          exact hj37 S40  _ (lv_sub hl [0, 1, 2] rfl)

set_option maxHeartbeats 4000000 in
set_option maxRecDepth 100000 in
theorem sm_X11_asks {p : Program} {l : Launch} {e : Env} {s : State} {m : MethodId} {args : Array Value} {below : List Frame} {meth : Method} {c : Code} {D : va_G} {cy : Nat → ClassId} {base tS : Nat} {S : St} {k0 : Nat} {v1 : Int32} {ls : Array Slot} (C : Cx p rm_X11_asks s m args c RX11 cX11_asks 4 D cy base tS 0 0) (hr : meth.sig.returnType = none) (hk : meth.locks = false) (t0 : cls k0 = 11) (hl : lv_has ls 4 [(0, .ref (base + k0)), (1, .int v1)]) : Sim p l e rm_X11_asks s m args below meth c D cy base 0 0 (fun S1 r => MQ below (QcV D cy base tS S1 r) args s 0 0 (AA base)) (X11_asks S k0 v1) S (F0 m 0 ls []) := by
  unfold X11_asks
  refine r_aload_n (pc := 0) C dX11_asks_0 rfl (lv_at hl 0 rfl) ?_
  refine gf_X11_7 (pc := 1) C t0 dX11_asks_1 ?_
  have t21 := ft_11_1 t0
  refine r_iload_n (pc := 4) C dX11_asks_4 rfl (lv_at hl 1 rfl) ?_
  refine r_iald (pc := 5) C t21 dX11_asks_5 ?_
  refine r_iconst (pc := 6) C (4 : Int32) dX11_asks_6 (by decide) ?_
  refine r_icmp_ne (pc := 7) C (tgt := 96) dX11_asks_7 (by decide) (fun _ => ?_) (fun _ => ?_)
  · refine r_iconst (pc := 96) C (0 : Int32) dX11_asks_96 (by decide) ?_
    refine r_istore_n (lv2 := [(2, .int (0 : Int32)), (0, .ref (base + k0)), (1, .int v1)]) (pc := 97) C dX11_asks_97 rfl hl (Nat.le_of_ble_eq_true rfl) rfl (fun ls hl => ?_)
    refine lp_X11_asks_98 (ls := ls) C hr hk t0 (fun S32 v33 ls hl => ?_) FU S (0 : Int32) _ (lv_sub hl [1, 2, 0] rfl)
    exact r_vret (pc := 152) C hr hk dX11_asks_152
  · refine r_aload_n (pc := 10) C dX11_asks_10 rfl (lv_at hl 0 rfl) ?_
    refine gf_X11_95 (pc := 11) C t0 dX11_asks_11 ?_
    refine r_iconst (pc := 14) C (1 : Int32) dX11_asks_14 (by decide) ?_
    refine r_isub (pc := 15) C dX11_asks_15 ?_
    refine r_topi (fun v34 => ?_)
    refine r_istore_n (lv2 := [(2, .int v34), (0, .ref (base + k0)), (1, .int v1)]) (pc := 16) C dX11_asks_16 rfl hl (Nat.le_of_ble_eq_true rfl) rfl (fun ls hl => ?_)
    refine lp_X11_asks_17 (ls := ls) C hr hk t0 (fun S52 v53 ls hl => ?_) FU S v34 _ (lv_sub hl [1, 2, 0] rfl)
    refine r_goto (pc := 93) C (tgt := 152) dX11_asks_93 (by decide) ?_
    exact r_vret (pc := 152) C hr hk dX11_asks_152

theorem ct_X11_asks (l : Launch) {D : va_G} {cy : Nat → ClassId} {base tS : Nat} {S : St} {k0 : Nat} {v1 : Int32} (t0 : cls k0 = 11) {S1 : St} {r1 : Unit} (h : X11_asks S k0 v1 = some (S1, r1)) : Met l yX11_asks (wsY yX11_asks cX11_asks 4 none) rm_X11_asks (va_Pc [.ref (base + k0), .int v1] (World D cy base tS S)) (QcV D cy base tS S1 r1) 0 0 (AA base) := conV rfl rfl (by decide) (Nat.le_of_ble_eq_true rfl) (fun p e s m args below meth c ls C hr hk hl => sm_X11_asks C hr hk t0 hl) h
theorem cv_X11_186 {p : Program} {l : Launch} {e : Env} {R : Room} {s : State} {m : MethodId} {args : Array Value} {below : List Frame} {meth : Method} {c : Code} {D : va_G} {cy : Nat → ClassId} {base tS nc ns : Nat} {cc : ByteArray} {nL pc : Nat} {ls : Array Slot} {rest : List Value} {S : St} {ρ : Type} {Q : St → ρ → State → Prop} (C : Cx p R s m args c RX11 cc nL D cy base tS nc ns) {k0 : Nat} {v1 : Int32} (t0 : cls k0 = 11) (hl : ls.size = nL) (hR : rm_X11_asks.frames + 1 ≤ R.frames ∧ 8 + (4 + 11) + rm_X11_asks.locals ≤ R.locals) {b : St → Unit → Option (St × ρ)} (hroom : (rest.map fun v => v.category).sum ≤ 8) (hd : decode cc pc = .ok (.invokevirtual 186, 3)) (kk : ∀ (S1 : St) (r : Unit), Sim p l e R s m args below meth c D cy base nc ns Q (b S1 r) S1 (F0 m (pc + 3) ls (rest))) : Sim p l e R s m args below meth c D cy base nc ns Q (bd (X11_asks S k0 v1) b) S (F0 m pc ls (.int v1 :: .ref (base + k0) :: rest)) := r_callVV (n := 1) (As := [.int v1]) C hl (rd_11 t0) (cls_lt t0 (by decide)) rfl (fun S1 r1 h => ct_X11_asks l t0 h) wd_550 wd_551 wd_552 wd_497 wd_553 rfl rfl (by decide +kernel) hR rfl rfl hroom hd kk
abbrev rm_X11_run : Room := { frames := 4, cells := 0, slots := 0, locals := 92 }
set_option maxHeartbeats 4000000 in
set_option maxRecDepth 100000 in
theorem lp_X11_run_37 {p : Program} {l : Launch} {e : Env} {s : State} {m : MethodId} {args : Array Value} {below : List Frame} {meth : Method} {c : Code} {D : va_G} {cy : Nat → ClassId} {base tS : Nat} {ls : Array Slot} (C : Cx p rm_X11_run s m args c RX11 cX11_run 4 D cy base tS 0 0) (hr : meth.sig.returnType = (some .int)) (hk : meth.locks = false) {k0 : Nat} {v1 : Int32} (t0 : cls k0 = 11) {K : St → Int32 → Option (St × Int32)} (hK : ∀ (S : St) (v2 : Int32) (ls : Array Slot), lv_has ls 4 [(0, .ref (base + k0)), (1, .int v1), (2, .int v2)] → Sim p l e rm_X11_run s m args below meth c D cy base 0 0 (fun S1 r => MQ below (QcI D cy base tS S1 r) args s 0 0 (AA base)) (K S v2) S (F0 m 110 ls [])) : ∀ (n : Nat) (S : St) (v2 : Int32) (ls : Array Slot), lv_has ls 4 [(0, .ref (base + k0)), (1, .int v1), (2, .int v2)] → Sim p l e rm_X11_run s m args below meth c D cy base 0 0 (fun S1 r => MQ below (QcI D cy base tS S1 r) args s 0 0 (AA base)) (X11_run_37 k0 v1 K n S v2) S (F0 m 37 ls []) := by
  intro n
  induction n with
  | zero => intro S v2 ls hl; exact Sim.none
  | succ n ih =>
    intro S v2 ls hl
    rw [X11_run_37]
    refine r_aload_n (pc := 37) C dX11_run_37 rfl (lv_at hl 0 rfl) ?_
    refine cv_X11_151 (pc := 38) C t0 hl.1 ⟨Nat.le_of_ble_eq_true rfl, Nat.le_of_ble_eq_true rfl⟩ (Nat.le_of_ble_eq_true rfl) dX11_run_38 (fun S24 v25 => ?_)
    refine r_if_le (pc := 41) C (tgt := 110) dX11_run_41 (by decide) (fun _ => ?_) (fun _ => ?_)
    · exact hK S24 v2 _ (lv_sub hl [0, 1, 2] rfl)
    · refine r_iload_n (pc := 44) C dX11_run_44 rfl (lv_at hl 2 rfl) ?_
      refine r_iload_n (pc := 45) C dX11_run_45 rfl (lv_at hl 1 rfl) ?_
      refine r_icmp_ge (pc := 46) C (tgt := 110) dX11_run_46 (by decide) (fun _ => ?_) (fun _ => ?_)
      · exact hK S24 v2 _ (lv_sub hl [0, 1, 2] rfl)
      · refine r_aload_n (pc := 49) C dX11_run_49 rfl (lv_at hl 0 rfl) ?_
        refine cv_X11_183 (pc := 50) C t0 hl.1 ⟨Nat.le_of_ble_eq_true rfl, Nat.le_of_ble_eq_true rfl⟩ (Nat.le_of_ble_eq_true rfl) dX11_run_50 (fun S26 v27 => ?_)
        refine r_istore_n (lv2 := [(3, .int v27), (0, .ref (base + k0)), (1, .int v1), (2, .int v2)]) (pc := 53) C dX11_run_53 rfl hl (Nat.le_of_ble_eq_true rfl) rfl (fun ls hl => ?_)
        refine r_aload_n (pc := 54) C dX11_run_54 rfl (lv_at hl 1 rfl) ?_
        refine r_aload_n (pc := 55) C dX11_run_55 rfl (lv_at hl 1 rfl) ?_
        refine gf_X11_16 (pc := 56) C t0 dX11_run_56 ?_
        have t28 := ft_11_4 t0
        refine r_iload_n (pc := 59) C dX11_run_59 rfl (lv_at hl 0 rfl) ?_
        refine cv_X11_162 (pc := 60) C t0 t28 hl.1 ⟨Nat.le_of_ble_eq_true rfl, Nat.le_of_ble_eq_true rfl⟩ (Nat.le_of_ble_eq_true rfl) dX11_run_60 (fun S29 v30 => ?_)
        refine r_if_eq (pc := 63) C (tgt := 73) dX11_run_63 (by decide) (fun _ => ?_) (fun _ => ?_)
        · refine r_aload_n (pc := 73) C dX11_run_73 rfl (lv_at hl 1 rfl) ?_
          refine gf_X11_20 (pc := 74) C t0 dX11_run_74 ?_
          have t31 := ft_11_5 t0
          refine r_iload_n (pc := 77) C dX11_run_77 rfl (lv_at hl 0 rfl) ?_
          refine r_dup2_11 (pc := 78) C dX11_run_78 rfl rfl ?_
          refine r_lald (pc := 79) C t31 dX11_run_79 ?_
          refine r_aload_n (pc := 80) C dX11_run_80 rfl (lv_at hl 1 rfl) ?_
          refine r_aload_n (pc := 81) C dX11_run_81 rfl (lv_at hl 1 rfl) ?_
          refine gf_X11_16 (pc := 82) C t0 dX11_run_82 ?_
          have t32 := ft_11_4 t0
          refine r_iload_n (pc := 85) C dX11_run_85 rfl (lv_at hl 0 rfl) ?_
          refine cv_X11_166 (pc := 86) C t0 t32 hl.1 ⟨Nat.le_of_ble_eq_true rfl, Nat.le_of_ble_eq_true rfl⟩ (Nat.le_of_ble_eq_true rfl) dX11_run_86 (fun S33 v34 => ?_)
          refine r_ladd (pc := 89) C dX11_run_89 ?_
          refine r_last (pc := 90) C t31 dX11_run_90 (fun S35 => ?_)
          refine r_aload_n (pc := 91) C dX11_run_91 rfl (lv_at hl 1 rfl) ?_
          refine gf_X11_128 (pc := 92) C t0 dX11_run_92 ?_
          refine r_iconst (pc := 95) C (4 : Int32) dX11_run_95 (by decide) ?_
          refine r_join (fun (j : St → Option (St × Int32)) => ∀ (S37 : St)  (ls : Array Slot), lv_has ls 4 [(0, .ref (base + k0)), (1, .int v1), (2, .int v2)] → Sim p l e rm_X11_run s m args below meth c D cy base 0 0 (fun S1 r => MQ below (QcI D cy base tS S1 r) args s 0 0 (AA base)) (j S37) S37 (F0 m 104 ls [])) ?_ (fun j36 hj36 => ?_)
          · intro S37 ls hl
            refine r_iinc (pc := 104) C (k := 2) (1 : Int32) (fun v38 => [(2, .int v38), (0, .ref (base + k0)), (1, .int v1)]) dX11_run_104 hl rfl (by decide) (Nat.le_of_ble_eq_true rfl) (fun _ => rfl) (fun v38 ls hl => ?_)
            refine r_goto (pc := 107) C (tgt := 37) dX11_run_107 (by decide) ?_
            exact ih S37 v38 _ (lv_sub hl [1, 2, 0] rfl)
          refine r_icmp_ne (pc := 96) C (tgt := 104) dX11_run_96 (by decide) (fun _ => ?_) (fun _ => ?_)
          · exact hj36 S35  _ (lv_sub hl [1, 2, 3] rfl)
          · refine r_aload_n (pc := 99) C dX11_run_99 rfl (lv_at hl 1 rfl) ?_
            refine r_iload_n (pc := 100) C dX11_run_100 rfl (lv_at hl 0 rfl) ?_
            refine cv_X11_186 (pc := 101) C t0 hl.1 ⟨Nat.le_of_ble_eq_true rfl, Nat.le_of_ble_eq_true rfl⟩ (Nat.le_of_ble_eq_true rfl) dX11_run_101 (fun S39 _ => ?_)
            exact hj36 S39  _ (lv_sub hl [1, 2, 3] rfl)
        · refine r_aload_n (pc := 66) C dX11_run_66 rfl (lv_at hl 1 rfl) ?_
          refine r_bipush (pc := 67) C (-5 : Int32) dX11_run_67 (by decide) ?_
          refine cv_X11_118 (pc := 69) C t0 hl.1 ⟨Nat.le_of_ble_eq_true rfl, Nat.le_of_ble_eq_true rfl⟩ (Nat.le_of_ble_eq_true rfl) dX11_run_69 (fun S40 v41 => ?_)
          exact r_iret (pc := 72) C hr hk dX11_run_72

set_option maxHeartbeats 4000000 in
set_option maxRecDepth 100000 in
theorem sm_X11_run {p : Program} {l : Launch} {e : Env} {s : State} {m : MethodId} {args : Array Value} {below : List Frame} {meth : Method} {c : Code} {D : va_G} {cy : Nat → ClassId} {base tS : Nat} {S : St} {k0 : Nat} {v1 : Int32} {ls : Array Slot} (C : Cx p rm_X11_run s m args c RX11 cX11_run 4 D cy base tS 0 0) (hr : meth.sig.returnType = (some .int)) (hk : meth.locks = false) (t0 : cls k0 = 11) (hl : lv_has ls 4 [(0, .ref (base + k0)), (1, .int v1)]) : Sim p l e rm_X11_run s m args below meth c D cy base 0 0 (fun S1 r => MQ below (QcI D cy base tS S1 r) args s 0 0 (AA base)) (X11_run S k0 v1) S (F0 m 0 ls []) := by
  unfold X11_run
  refine r_iload_n (pc := 0) C dX11_run_0 rfl (lv_at hl 1 rfl) ?_
  refine r_iconst (pc := 1) C (1 : Int32) dX11_run_1 (by decide) ?_
  refine r_sipush (pc := 2) C (5000 : Int32) dX11_run_2 (by decide) ?_
  refine cv_X11_98 (pc := 5) C  hl.1 ⟨Nat.le_of_ble_eq_true rfl, Nat.le_of_ble_eq_true rfl⟩ (Nat.le_of_ble_eq_true rfl) dX11_run_5 (fun S21 v22 => ?_)
  refine r_if_ne (pc := 8) C (tgt := 17) dX11_run_8 (by decide) (fun _ => ?_) (fun _ => ?_)
  · refine r_aload_n (pc := 17) C dX11_run_17 rfl (lv_at hl 0 rfl) ?_
    refine gf_X11_114 (pc := 18) C t0 dX11_run_18 ?_
    refine r_if_ne (pc := 21) C (tgt := 31) dX11_run_21 (by decide) (fun _ => ?_) (fun _ => ?_)
    · refine r_aload_n (pc := 31) C dX11_run_31 rfl (lv_at hl 0 rfl) ?_
      refine cv_X11_148 (pc := 32) C t0 hl.1 ⟨Nat.le_of_ble_eq_true rfl, Nat.le_of_ble_eq_true rfl⟩ (Nat.le_of_ble_eq_true rfl) dX11_run_32 (fun S23 _ => ?_)
      refine r_iconst (pc := 35) C (0 : Int32) dX11_run_35 (by decide) ?_
      refine r_istore_n (lv2 := [(2, .int (0 : Int32)), (0, .ref (base + k0)), (1, .int v1)]) (pc := 36) C dX11_run_36 rfl hl (Nat.le_of_ble_eq_true rfl) rfl (fun ls hl => ?_)
      refine lp_X11_run_37 (ls := ls) C hr hk t0 (fun S42 v43 ls hl => ?_) FU S23 (0 : Int32) _ (lv_sub hl [1, 2, 0] rfl)
      refine r_aload_n (pc := 110) C dX11_run_110 rfl (lv_at hl 0 rfl) ?_
      refine cv_X11_151 (pc := 111) C t0 hl.1 ⟨Nat.le_of_ble_eq_true rfl, Nat.le_of_ble_eq_true rfl⟩ (Nat.le_of_ble_eq_true rfl) dX11_run_111 (fun S44 v45 => ?_)
      refine r_if_le (pc := 114) C (tgt := 126) dX11_run_114 (by decide) (fun _ => ?_) (fun _ => ?_)
      · refine r_iload_n (pc := 126) C dX11_run_126 rfl (lv_at hl 2 rfl) ?_
        exact r_iret (pc := 127) C hr hk dX11_run_127
      · refine r_aload_n (pc := 117) C dX11_run_117 rfl (lv_at hl 0 rfl) ?_
        refine r_bipush (pc := 118) C (-9 : Int32) dX11_run_118 (by decide) ?_
        refine cv_X11_118 (pc := 120) C t0 hl.1 ⟨Nat.le_of_ble_eq_true rfl, Nat.le_of_ble_eq_true rfl⟩ (Nat.le_of_ble_eq_true rfl) dX11_run_120 (fun S46 v47 => ?_)
        refine r_goto (pc := 123) C (tgt := 127) dX11_run_123 (by decide) ?_
        exact r_iret (pc := 127) C hr hk dX11_run_127
    · refine r_aload_n (pc := 24) C dX11_run_24 rfl (lv_at hl 0 rfl) ?_
      refine r_bipush (pc := 25) C (-8 : Int32) dX11_run_25 (by decide) ?_
      refine cv_X11_118 (pc := 27) C t0 hl.1 ⟨Nat.le_of_ble_eq_true rfl, Nat.le_of_ble_eq_true rfl⟩ (Nat.le_of_ble_eq_true rfl) dX11_run_27 (fun S48 v49 => ?_)
      exact r_iret (pc := 30) C hr hk dX11_run_30
  · refine r_aload_n (pc := 11) C dX11_run_11 rfl (lv_at hl 0 rfl) ?_
    refine r_iconst (pc := 12) C (-1 : Int32) dX11_run_12 (by decide) ?_
    refine cv_X11_118 (pc := 13) C t0 hl.1 ⟨Nat.le_of_ble_eq_true rfl, Nat.le_of_ble_eq_true rfl⟩ (Nat.le_of_ble_eq_true rfl) dX11_run_13 (fun S50 v51 => ?_)
    exact r_iret (pc := 16) C hr hk dX11_run_16

theorem ct_X11_run (l : Launch) {D : va_G} {cy : Nat → ClassId} {base tS : Nat} {S : St} {k0 : Nat} {v1 : Int32} (t0 : cls k0 = 11) {S1 : St} {r1 : Int32} (h : X11_run S k0 v1 = some (S1, r1)) : Met l yX11_run (wsY yX11_run cX11_run 4 (some .int)) rm_X11_run (va_Pc [.ref (base + k0), .int v1] (World D cy base tS S)) (QcI D cy base tS S1 r1) 0 0 (AA base) := conI rfl rfl (by decide) (Nat.le_of_ble_eq_true rfl) (fun p e s m args below meth c ls C hr hk hl => sm_X11_run C hr hk t0 hl) h
abbrev rm_X11_odometer : Room := { frames := 2, cells := 0, slots := 0, locals := 43 }
set_option maxHeartbeats 4000000 in
set_option maxRecDepth 100000 in
theorem sm_X11_odometer {p : Program} {l : Launch} {e : Env} {s : State} {m : MethodId} {args : Array Value} {below : List Frame} {meth : Method} {c : Code} {D : va_G} {cy : Nat → ClassId} {base tS : Nat} {S : St} {k0 : Nat} {v1 : Int32} {ls : Array Slot} (C : Cx p rm_X11_odometer s m args c RX11 cX11_odometer 2 D cy base tS 0 0) (hr : meth.sig.returnType = (some .long)) (hk : meth.locks = false) (t0 : cls k0 = 11) (hl : lv_has ls 2 [(0, .ref (base + k0)), (1, .int v1)]) : Sim p l e rm_X11_odometer s m args below meth c D cy base 0 0 (fun S1 r => MQ below (QcJ D cy base tS S1 r) args s 0 0 (AA base)) (X11_odometer S k0 v1) S (F0 m 0 ls []) := by
  unfold X11_odometer
  refine r_aload_n (pc := 0) C dX11_odometer_0 rfl (lv_at hl 0 rfl) ?_
  refine r_iload_n (pc := 1) C dX11_odometer_1 rfl (lv_at hl 1 rfl) ?_
  refine cv_X11_121 (pc := 2) C t0 hl.1 ⟨Nat.le_of_ble_eq_true rfl, Nat.le_of_ble_eq_true rfl⟩ (Nat.le_of_ble_eq_true rfl) dX11_odometer_2 (fun S21 v22 => ?_)
  refine r_if_eq (pc := 5) C (tgt := 17) dX11_odometer_5 (by decide) (fun _ => ?_) (fun _ => ?_)
  · refine r_aload_n (pc := 17) C dX11_odometer_17 rfl (lv_at hl 0 rfl) ?_
    refine r_iconst (pc := 18) C (-1 : Int32) dX11_odometer_18 (by decide) ?_
    refine cv_X11_118 (pc := 19) C t0 hl.1 ⟨Nat.le_of_ble_eq_true rfl, Nat.le_of_ble_eq_true rfl⟩ (Nat.le_of_ble_eq_true rfl) dX11_odometer_19 (fun S23 v24 => ?_)
    refine r_i2l (pc := 22) C dX11_odometer_22 ?_
    exact r_lret (pc := 23) C hr hk dX11_odometer_23
  · refine r_aload_n (pc := 8) C dX11_odometer_8 rfl (lv_at hl 0 rfl) ?_
    refine gf_X11_20 (pc := 9) C t0 dX11_odometer_9 ?_
    have t25 := ft_11_5 t0
    refine r_iload_n (pc := 12) C dX11_odometer_12 rfl (lv_at hl 1 rfl) ?_
    refine r_lald (pc := 13) C t25 dX11_odometer_13 ?_
    refine r_goto (pc := 14) C (tgt := 23) dX11_odometer_14 (by decide) ?_
    exact r_lret (pc := 23) C hr hk dX11_odometer_23

theorem ct_X11_odometer (l : Launch) {D : va_G} {cy : Nat → ClassId} {base tS : Nat} {S : St} {k0 : Nat} {v1 : Int32} (t0 : cls k0 = 11) {S1 : St} {r1 : Int64} (h : X11_odometer S k0 v1 = some (S1, r1)) : Met l yX11_odometer (wsY yX11_odometer cX11_odometer 2 (some .long)) rm_X11_odometer (va_Pc [.ref (base + k0), .int v1] (World D cy base tS S)) (QcJ D cy base tS S1 r1) 0 0 (AA base) := conJ rfl rfl (by decide) (Nat.le_of_ble_eq_true rfl) (fun p e s m args below meth c ls C hr hk hl => sm_X11_odometer C hr hk t0 hl) h
abbrev rm_X11_reset : Room := { frames := 0, cells := 0, slots := 0, locals := 0 }
set_option maxHeartbeats 4000000 in
set_option maxRecDepth 100000 in
theorem lp_X11_reset_4 {p : Program} {l : Launch} {e : Env} {s : State} {m : MethodId} {args : Array Value} {below : List Frame} {meth : Method} {c : Code} {D : va_G} {cy : Nat → ClassId} {base tS : Nat} {ls : Array Slot} (C : Cx p rm_X11_reset s m args c RX11 cX11_reset 3 D cy base tS 0 0) (hr : meth.sig.returnType = (some .int)) (hk : meth.locks = false) {k0 : Nat} (t0 : cls k0 = 11) {K : St → Int32 → Int32 → Option (St × Int32)} (hK : ∀ (S : St) (v1 : Int32) (v2 : Int32) (ls : Array Slot), lv_has ls 3 [(0, .ref (base + k0)), (1, .int v1), (2, .int v2)] → Sim p l e rm_X11_reset s m args below meth c D cy base 0 0 (fun S1 r => MQ below (QcI D cy base tS S1 r) args s 0 0 (AA base)) (K S v1 v2) S (F0 m 42 ls [])) : ∀ (n : Nat) (S : St) (v1 : Int32) (v2 : Int32) (ls : Array Slot), lv_has ls 3 [(0, .ref (base + k0)), (1, .int v1), (2, .int v2)] → Sim p l e rm_X11_reset s m args below meth c D cy base 0 0 (fun S1 r => MQ below (QcI D cy base tS S1 r) args s 0 0 (AA base)) (X11_reset_4 k0 K n S v1 v2) S (F0 m 4 ls []) := by
  intro n
  induction n with
  | zero => intro S v1 v2 ls hl; exact Sim.none
  | succ n ih =>
    intro S v1 v2 ls hl
    rw [X11_reset_4]
    refine r_iload_n (pc := 4) C dX11_reset_4 rfl (lv_at hl 2 rfl) ?_
    refine r_bipush (pc := 5) C (12 : Int32) dX11_reset_5 (by decide) ?_
    refine r_icmp_ge (pc := 7) C (tgt := 42) dX11_reset_7 (by decide) (fun _ => ?_) (fun _ => ?_)
    · exact hK S v1 v2 _ (lv_sub hl [0, 1, 2] rfl)
    · refine r_iload_n (pc := 10) C dX11_reset_10 rfl (lv_at hl 1 rfl) ?_
      refine r_aload_n (pc := 11) C dX11_reset_11 rfl (lv_at hl 0 rfl) ?_
      refine gf_X11_20 (pc := 12) C t0 dX11_reset_12 ?_
      have t21 := ft_11_5 t0
      refine r_iload_n (pc := 15) C dX11_reset_15 rfl (lv_at hl 2 rfl) ?_
      refine r_lald (pc := 16) C t21 dX11_reset_16 ?_
      refine r_lconst (pc := 17) C (0 : Int64) dX11_reset_17 (by decide) ?_
      refine r_join (fun (j : St → Int32 → Option (St × Int32)) => ∀ (S23 : St) (v24 : Int32) (ls : Array Slot), lv_has ls 3 [(0, .ref (base + k0)), (2, .int v2)] → Sim p l e rm_X11_reset s m args below meth c D cy base 0 0 (fun S1 r => MQ below (QcI D cy base tS S1 r) args s 0 0 (AA base)) (j S23 v24) S23 (F0 m 27 ls [.int v24, .int v1])) ?_ (fun j22 hj22 => ?_)
      · intro S23 v24 ls hl
        refine r_iadd (pc := 27) C dX11_reset_27 ?_
        refine r_topi (fun v25 => ?_)
        refine r_istore_n (lv2 := [(1, .int v25), (0, .ref (base + k0)), (2, .int v2)]) (pc := 28) C dX11_reset_28 rfl hl (Nat.le_of_ble_eq_true rfl) rfl (fun ls hl => ?_)
        refine r_aload_n (pc := 29) C dX11_reset_29 rfl (lv_at hl 1 rfl) ?_
        refine gf_X11_20 (pc := 30) C t0 dX11_reset_30 ?_
        have t26 := ft_11_5 t0
        refine r_iload_n (pc := 33) C dX11_reset_33 rfl (lv_at hl 2 rfl) ?_
        refine r_lconst (pc := 34) C (0 : Int64) dX11_reset_34 (by decide) ?_
        refine r_last (pc := 35) C t26 dX11_reset_35 (fun S27 => ?_)
        refine r_iinc (pc := 36) C (k := 2) (1 : Int32) (fun v28 => [(2, .int v28), (1, .int v25), (0, .ref (base + k0))]) dX11_reset_36 hl rfl (by decide) (Nat.le_of_ble_eq_true rfl) (fun _ => rfl) (fun v28 ls hl => ?_)
        refine r_goto (pc := 39) C (tgt := 4) dX11_reset_39 (by decide) ?_
        exact ih S27 v25 v28 _ (lv_sub hl [2, 1, 0] rfl)
      refine r_lcmp_eq (pc := 18) C (tgt := 26) dX11_reset_18 dX11_reset_19 (by decide) (fun _ => ?_) (fun _ => ?_)
      · refine r_iconst (pc := 26) C (0 : Int32) dX11_reset_26 (by decide) ?_
        exact hj22 S (0 : Int32) _ (lv_sub hl [0, 2] rfl)
      · refine r_iconst (pc := 22) C (1 : Int32) dX11_reset_22 (by decide) ?_
        refine r_goto (pc := 23) C (tgt := 27) dX11_reset_23 (by decide) ?_
        exact hj22 S (1 : Int32) _ (lv_sub hl [0, 2] rfl)

set_option maxHeartbeats 4000000 in
set_option maxRecDepth 100000 in
theorem sm_X11_reset {p : Program} {l : Launch} {e : Env} {s : State} {m : MethodId} {args : Array Value} {below : List Frame} {meth : Method} {c : Code} {D : va_G} {cy : Nat → ClassId} {base tS : Nat} {S : St} {k0 : Nat} {ls : Array Slot} (C : Cx p rm_X11_reset s m args c RX11 cX11_reset 3 D cy base tS 0 0) (hr : meth.sig.returnType = (some .int)) (hk : meth.locks = false) (t0 : cls k0 = 11) (hl : lv_has ls 3 [(0, .ref (base + k0))]) : Sim p l e rm_X11_reset s m args below meth c D cy base 0 0 (fun S1 r => MQ below (QcI D cy base tS S1 r) args s 0 0 (AA base)) (X11_reset S k0) S (F0 m 0 ls []) := by
  unfold X11_reset
  refine r_iconst (pc := 0) C (0 : Int32) dX11_reset_0 (by decide) ?_
  refine r_istore_n (lv2 := [(1, .int (0 : Int32)), (0, .ref (base + k0))]) (pc := 1) C dX11_reset_1 rfl hl (Nat.le_of_ble_eq_true rfl) rfl (fun ls hl => ?_)
  refine r_iconst (pc := 2) C (0 : Int32) dX11_reset_2 (by decide) ?_
  refine r_istore_n (lv2 := [(2, .int (0 : Int32)), (1, .int (0 : Int32)), (0, .ref (base + k0))]) (pc := 3) C dX11_reset_3 rfl hl (Nat.le_of_ble_eq_true rfl) rfl (fun ls hl => ?_)
  refine lp_X11_reset_4 (ls := ls) C hr hk t0 (fun S29 v30 v31 ls hl => ?_) FU S (0 : Int32) (0 : Int32) _ (lv_sub hl [2, 1, 0] rfl)
  refine r_aload_n (pc := 42) C dX11_reset_42 rfl (lv_at hl 0 rfl) ?_
  refine r_iconst (pc := 43) C (0 : Int32) dX11_reset_43 (by decide) ?_
  refine pf_X11_143 (pc := 44) C t0 dX11_reset_44 (fun S32 => ?_)
  refine r_iload_n (pc := 47) C dX11_reset_47 rfl (lv_at hl 1 rfl) ?_
  exact r_iret (pc := 48) C hr hk dX11_reset_48

theorem ct_X11_reset (l : Launch) {D : va_G} {cy : Nat → ClassId} {base tS : Nat} {S : St} {k0 : Nat} (t0 : cls k0 = 11) {S1 : St} {r1 : Int32} (h : X11_reset S k0 = some (S1, r1)) : Met l yX11_reset (wsY yX11_reset cX11_reset 3 (some .int)) rm_X11_reset (va_Pc [.ref (base + k0)] (World D cy base tS S)) (QcI D cy base tS S1 r1) 0 0 (AA base) := conI rfl rfl (by decide) (Nat.le_of_ble_eq_true rfl) (fun p e s m args below meth c ls C hr hk hl => sm_X11_reset C hr hk t0 hl) h
abbrev rm_X11_isTwoWay : Room := { frames := 1, cells := 0, slots := 0, locals := 22 }
set_option maxHeartbeats 4000000 in
set_option maxRecDepth 100000 in
theorem lp_X11_isTwoWay_12 {p : Program} {l : Launch} {e : Env} {s : State} {m : MethodId} {args : Array Value} {below : List Frame} {meth : Method} {c : Code} {D : va_G} {cy : Nat → ClassId} {base tS : Nat} {ls : Array Slot} (C : Cx p rm_X11_isTwoWay s m args c RX11 cX11_isTwoWay 3 D cy base tS 0 0) (hr : meth.sig.returnType = (some .boolean)) (hk : meth.locks = false) {k0 : Nat} {v1 : Int32} (t0 : cls k0 = 11) {K : St → Int32 → Option (St × Int32)} (hK : ∀ (S : St) (v2 : Int32) (ls : Array Slot), lv_has ls 3 [(0, .ref (base + k0)), (1, .int v1), (2, .int v2)] → Sim p l e rm_X11_isTwoWay s m args below meth c D cy base 0 0 (fun S1 r => MQ below (QcI D cy base tS S1 r) args s 0 0 (AA base)) (K S v2) S (F0 m 40 ls [])) : ∀ (n : Nat) (S : St) (v2 : Int32) (ls : Array Slot), lv_has ls 3 [(0, .ref (base + k0)), (1, .int v1), (2, .int v2)] → Sim p l e rm_X11_isTwoWay s m args below meth c D cy base 0 0 (fun S1 r => MQ below (QcI D cy base tS S1 r) args s 0 0 (AA base)) (X11_isTwoWay_12 k0 v1 K n S v2) S (F0 m 12 ls []) := by
  intro n
  induction n with
  | zero => intro S v2 ls hl; exact Sim.none
  | succ n ih =>
    intro S v2 ls hl
    rw [X11_isTwoWay_12]
    refine r_iload_n (pc := 12) C dX11_isTwoWay_12 rfl (lv_at hl 2 rfl) ?_
    refine r_iload_n (pc := 13) C dX11_isTwoWay_13 rfl (lv_at hl 1 rfl) ?_
    refine r_icmp_ge (pc := 14) C (tgt := 40) dX11_isTwoWay_14 (by decide) (fun _ => ?_) (fun _ => ?_)
    · exact hK S v2 _ (lv_sub hl [0, 1, 2] rfl)
    · refine r_aload_n (pc := 17) C dX11_isTwoWay_17 rfl (lv_at hl 0 rfl) ?_
      refine r_iload_n (pc := 18) C dX11_isTwoWay_18 rfl (lv_at hl 1 rfl) ?_
      refine r_iload_n (pc := 19) C dX11_isTwoWay_19 rfl (lv_at hl 2 rfl) ?_
      refine cv_X11_102 (pc := 20) C t0 hl.1 ⟨Nat.le_of_ble_eq_true rfl, Nat.le_of_ble_eq_true rfl⟩ (Nat.le_of_ble_eq_true rfl) dX11_isTwoWay_20 (fun S21 v22 => ?_)
      refine r_aload_n (pc := 23) C dX11_isTwoWay_23 rfl (lv_at hl 0 rfl) ?_
      refine r_iload_n (pc := 24) C dX11_isTwoWay_24 rfl (lv_at hl 2 rfl) ?_
      refine r_iload_n (pc := 25) C dX11_isTwoWay_25 rfl (lv_at hl 1 rfl) ?_
      refine cv_X11_102 (pc := 26) C t0 hl.1 ⟨Nat.le_of_ble_eq_true rfl, Nat.le_of_ble_eq_true rfl⟩ (Nat.le_of_ble_eq_true rfl) dX11_isTwoWay_26 (fun S23 v24 => ?_)
      refine r_icmp_eq (pc := 29) C (tgt := 34) dX11_isTwoWay_29 (by decide) (fun _ => ?_) (fun _ => ?_)
      · refine r_iinc (pc := 34) C (k := 2) (1 : Int32) (fun v25 => [(2, .int v25), (0, .ref (base + k0)), (1, .int v1)]) dX11_isTwoWay_34 hl rfl (by decide) (Nat.le_of_ble_eq_true rfl) (fun _ => rfl) (fun v25 ls hl => ?_)
        refine r_goto (pc := 37) C (tgt := 12) dX11_isTwoWay_37 (by decide) ?_
        exact ih S23 v25 _ (lv_sub hl [1, 2, 0] rfl)
      · refine r_iconst (pc := 32) C (0 : Int32) dX11_isTwoWay_32 (by decide) ?_
        exact r_zret (pc := 33) C rfl hr hk dX11_isTwoWay_33

set_option maxHeartbeats 4000000 in
set_option maxRecDepth 100000 in
theorem lp_X11_isTwoWay_2 {p : Program} {l : Launch} {e : Env} {s : State} {m : MethodId} {args : Array Value} {below : List Frame} {meth : Method} {c : Code} {D : va_G} {cy : Nat → ClassId} {base tS : Nat} {ls : Array Slot} (C : Cx p rm_X11_isTwoWay s m args c RX11 cX11_isTwoWay 3 D cy base tS 0 0) (hr : meth.sig.returnType = (some .boolean)) (hk : meth.locks = false) {k0 : Nat} (t0 : cls k0 = 11) {K : St → Int32 → Option (St × Int32)} (hK : ∀ (S : St) (v1 : Int32) (ls : Array Slot), lv_has ls 3 [(0, .ref (base + k0)), (1, .int v1)] → Sim p l e rm_X11_isTwoWay s m args below meth c D cy base 0 0 (fun S1 r => MQ below (QcI D cy base tS S1 r) args s 0 0 (AA base)) (K S v1) S (F0 m 46 ls [])) : ∀ (n : Nat) (S : St) (v1 : Int32) (ls : Array Slot), lv_has ls 3 [(0, .ref (base + k0)), (1, .int v1)] → Sim p l e rm_X11_isTwoWay s m args below meth c D cy base 0 0 (fun S1 r => MQ below (QcI D cy base tS S1 r) args s 0 0 (AA base)) (X11_isTwoWay_2 k0 K n S v1) S (F0 m 2 ls []) := by
  intro n
  induction n with
  | zero => intro S v1 ls hl; exact Sim.none
  | succ n ih =>
    intro S v1 ls hl
    rw [X11_isTwoWay_2]
    refine r_iload_n (pc := 2) C dX11_isTwoWay_2 rfl (lv_at hl 1 rfl) ?_
    refine r_aload_n (pc := 3) C dX11_isTwoWay_3 rfl (lv_at hl 0 rfl) ?_
    refine gf_X11_95 (pc := 4) C t0 dX11_isTwoWay_4 ?_
    refine r_icmp_ge (pc := 7) C (tgt := 46) dX11_isTwoWay_7 (by decide) (fun _ => ?_) (fun _ => ?_)
    · exact hK S v1 _ (lv_sub hl [0, 1] rfl)
    · refine r_iconst (pc := 10) C (0 : Int32) dX11_isTwoWay_10 (by decide) ?_
      refine r_istore_n (lv2 := [(2, .int (0 : Int32)), (0, .ref (base + k0)), (1, .int v1)]) (pc := 11) C dX11_isTwoWay_11 rfl hl (Nat.le_of_ble_eq_true rfl) rfl (fun ls hl => ?_)
      refine lp_X11_isTwoWay_12 (ls := ls) C hr hk t0 (fun S26 v27 ls hl => ?_) FU S (0 : Int32) _ (lv_sub hl [1, 2, 0] rfl)
      refine r_iinc (pc := 40) C (k := 1) (1 : Int32) (fun v28 => [(1, .int v28), (0, .ref (base + k0)), (2, .int v27)]) dX11_isTwoWay_40 hl rfl (by decide) (Nat.le_of_ble_eq_true rfl) (fun _ => rfl) (fun v28 ls hl => ?_)
      refine r_goto (pc := 43) C (tgt := 2) dX11_isTwoWay_43 (by decide) ?_
      exact ih S26 v28 _ (lv_sub hl [1, 0] rfl)

set_option maxHeartbeats 4000000 in
set_option maxRecDepth 100000 in
theorem sm_X11_isTwoWay {p : Program} {l : Launch} {e : Env} {s : State} {m : MethodId} {args : Array Value} {below : List Frame} {meth : Method} {c : Code} {D : va_G} {cy : Nat → ClassId} {base tS : Nat} {S : St} {k0 : Nat} {ls : Array Slot} (C : Cx p rm_X11_isTwoWay s m args c RX11 cX11_isTwoWay 3 D cy base tS 0 0) (hr : meth.sig.returnType = (some .boolean)) (hk : meth.locks = false) (t0 : cls k0 = 11) (hl : lv_has ls 3 [(0, .ref (base + k0))]) : Sim p l e rm_X11_isTwoWay s m args below meth c D cy base 0 0 (fun S1 r => MQ below (QcI D cy base tS S1 r) args s 0 0 (AA base)) (X11_isTwoWay S k0) S (F0 m 0 ls []) := by
  unfold X11_isTwoWay
  refine r_iconst (pc := 0) C (0 : Int32) dX11_isTwoWay_0 (by decide) ?_
  refine r_istore_n (lv2 := [(1, .int (0 : Int32)), (0, .ref (base + k0))]) (pc := 1) C dX11_isTwoWay_1 rfl hl (Nat.le_of_ble_eq_true rfl) rfl (fun ls hl => ?_)
  refine lp_X11_isTwoWay_2 (ls := ls) C hr hk t0 (fun S29 v30 ls hl => ?_) FU S (0 : Int32) _ (lv_sub hl [1, 0] rfl)
  refine r_iconst (pc := 46) C (1 : Int32) dX11_isTwoWay_46 (by decide) ?_
  exact r_zret (pc := 47) C rfl hr hk dX11_isTwoWay_47

theorem ct_X11_isTwoWay (l : Launch) {D : va_G} {cy : Nat → ClassId} {base tS : Nat} {S : St} {k0 : Nat} (t0 : cls k0 = 11) {S1 : St} {r1 : Int32} (h : X11_isTwoWay S k0 = some (S1, r1)) : Met l yX11_isTwoWay (wsY yX11_isTwoWay cX11_isTwoWay 3 (some .boolean)) rm_X11_isTwoWay (va_Pc [.ref (base + k0)] (World D cy base tS S)) (QcI D cy base tS S1 r1) 0 0 (AA base) := conI rfl rfl (by decide) (Nat.le_of_ble_eq_true rfl) (fun p e s m args below meth c ls C hr hk hl => sm_X11_isTwoWay C hr hk t0 hl) h
theorem cv_X11_190 {p : Program} {l : Launch} {e : Env} {R : Room} {s : State} {m : MethodId} {args : Array Value} {below : List Frame} {meth : Method} {c : Code} {D : va_G} {cy : Nat → ClassId} {base tS nc ns : Nat} {cc : ByteArray} {nL pc : Nat} {ls : Array Slot} {rest : List Value} {S : St} {ρ : Type} {Q : St → ρ → State → Prop} (C : Cx p R s m args c RX11 cc nL D cy base tS nc ns) {k0 : Nat} (t0 : cls k0 = 11) (hl : ls.size = nL) (hR : rm_X11_isTwoWay.frames + 1 ≤ R.frames ∧ 8 + (3 + 11) + rm_X11_isTwoWay.locals ≤ R.locals) {b : St → Int32 → Option (St × ρ)} (hroom : (rest.map fun v => v.category).sum ≤ 8) (hd : decode cc pc = .ok (.invokevirtual 190, 3)) (kk : ∀ (S1 : St) (r : Int32), Sim p l e R s m args below meth c D cy base nc ns Q (b S1 r) S1 (F0 m (pc + 3) ls (.int r :: rest))) : Sim p l e R s m args below meth c D cy base nc ns Q (bd (X11_isTwoWay S k0) b) S (F0 m pc ls (.ref (base + k0) :: rest)) := r_callVI (n := 0) (As := []) C hl (rd_11 t0) (cls_lt t0 (by decide)) rfl (fun S1 r1 h => ct_X11_isTwoWay l t0 h) wd_554 wd_555 wd_556 wd_497 wd_557 rfl rfl (by decide +kernel) hR rfl rfl hroom hd kk
abbrev rm_X11_twoWay : Room := { frames := 2, cells := 0, slots := 0, locals := 44 }
set_option maxHeartbeats 4000000 in
set_option maxRecDepth 100000 in
theorem sm_X11_twoWay {p : Program} {l : Launch} {e : Env} {s : State} {m : MethodId} {args : Array Value} {below : List Frame} {meth : Method} {c : Code} {D : va_G} {cy : Nat → ClassId} {base tS : Nat} {S : St} {k0 : Nat} {ls : Array Slot} (C : Cx p rm_X11_twoWay s m args c RX11 cX11_twoWay 1 D cy base tS 0 0) (hr : meth.sig.returnType = (some .int)) (hk : meth.locks = false) (t0 : cls k0 = 11) (hl : lv_has ls 1 [(0, .ref (base + k0))]) : Sim p l e rm_X11_twoWay s m args below meth c D cy base 0 0 (fun S1 r => MQ below (QcI D cy base tS S1 r) args s 0 0 (AA base)) (X11_twoWay S k0) S (F0 m 0 ls []) := by
  unfold X11_twoWay
  refine r_aload_n (pc := 0) C dX11_twoWay_0 rfl (lv_at hl 0 rfl) ?_
  refine gf_X11_114 (pc := 1) C t0 dX11_twoWay_1 ?_
  refine r_if_ne (pc := 4) C (tgt := 16) dX11_twoWay_4 (by decide) (fun _ => ?_) (fun _ => ?_)
  · refine r_aload_n (pc := 16) C dX11_twoWay_16 rfl (lv_at hl 0 rfl) ?_
    refine cv_X11_190 (pc := 17) C t0 hl.1 ⟨Nat.le_of_ble_eq_true rfl, Nat.le_of_ble_eq_true rfl⟩ (Nat.le_of_ble_eq_true rfl) dX11_twoWay_17 (fun S21 v22 => ?_)
    refine r_if_eq (pc := 20) C (tgt := 27) dX11_twoWay_20 (by decide) (fun _ => ?_) (fun _ => ?_)
    · refine r_iconst (pc := 27) C (0 : Int32) dX11_twoWay_27 (by decide) ?_
      exact r_iret (pc := 28) C hr hk dX11_twoWay_28
    · refine r_iconst (pc := 23) C (1 : Int32) dX11_twoWay_23 (by decide) ?_
      refine r_goto (pc := 24) C (tgt := 28) dX11_twoWay_24 (by decide) ?_
      exact r_iret (pc := 28) C hr hk dX11_twoWay_28
  · refine r_aload_n (pc := 7) C dX11_twoWay_7 rfl (lv_at hl 0 rfl) ?_
    refine r_bipush (pc := 8) C (-8 : Int32) dX11_twoWay_8 (by decide) ?_
    refine cv_X11_118 (pc := 10) C t0 hl.1 ⟨Nat.le_of_ble_eq_true rfl, Nat.le_of_ble_eq_true rfl⟩ (Nat.le_of_ble_eq_true rfl) dX11_twoWay_10 (fun S23 v24 => ?_)
    refine r_goto (pc := 13) C (tgt := 28) dX11_twoWay_13 (by decide) ?_
    exact r_iret (pc := 28) C hr hk dX11_twoWay_28

theorem ct_X11_twoWay (l : Launch) {D : va_G} {cy : Nat → ClassId} {base tS : Nat} {S : St} {k0 : Nat} (t0 : cls k0 = 11) {S1 : St} {r1 : Int32} (h : X11_twoWay S k0 = some (S1, r1)) : Met l yX11_twoWay (wsY yX11_twoWay cX11_twoWay 1 (some .int)) rm_X11_twoWay (va_Pc [.ref (base + k0)] (World D cy base tS S)) (QcI D cy base tS S1 r1) 0 0 (AA base) := conI rfl rfl (by decide) (Nat.le_of_ble_eq_true rfl) (fun p e s m args below meth c ls C hr hk hl => sm_X11_twoWay C hr hk t0 hl) h
abbrev rm_X11_burns : Room := { frames := 1, cells := 0, slots := 0, locals := 22 }
set_option maxHeartbeats 4000000 in
set_option maxRecDepth 100000 in
theorem lp_X11_burns_22 {p : Program} {l : Launch} {e : Env} {s : State} {m : MethodId} {args : Array Value} {below : List Frame} {meth : Method} {c : Code} {D : va_G} {cy : Nat → ClassId} {base tS : Nat} {ls : Array Slot} (C : Cx p rm_X11_burns s m args c RX11 cX11_burns 8 D cy base tS 0 0) (hr : meth.sig.returnType = (some .int)) (hk : meth.locks = false) {k0 : Nat} {k1 : Nat} {v2 : Int32} {v3 : Int32} {v4 : Int32} (t0 : cls k0 = 11) (t1 : cls k1 = 13 ∧ len k1 = 15) {K : St → Int64 → Int32 → Option (St × Int32)} (hK : ∀ (S : St) (v5 : Int64) (v7 : Int32) (ls : Array Slot), lv_has ls 8 [(0, .ref (base + k0)), (1, .ref (base + k1)), (2, .int v2), (3, .int v3), (4, .int v4), (5, .long v5), (7, .int v7)] → Sim p l e rm_X11_burns s m args below meth c D cy base 0 0 (fun S1 r => MQ below (QcI D cy base tS S1 r) args s 0 0 (AA base)) (K S v5 v7) S (F0 m 60 ls [])) : ∀ (n : Nat) (S : St) (v5 : Int64) (v7 : Int32) (ls : Array Slot), lv_has ls 8 [(0, .ref (base + k0)), (1, .ref (base + k1)), (2, .int v2), (3, .int v3), (4, .int v4), (5, .long v5), (7, .int v7)] → Sim p l e rm_X11_burns s m args below meth c D cy base 0 0 (fun S1 r => MQ below (QcI D cy base tS S1 r) args s 0 0 (AA base)) (X11_burns_22 k0 k1 v2 v3 v4 K n S v5 v7) S (F0 m 22 ls []) := by
  intro n
  induction n with
  | zero => intro S v5 v7 ls hl; exact Sim.none
  | succ n ih =>
    intro S v5 v7 ls hl
    rw [X11_burns_22]
    refine r_iload (pc := 22) C dX11_burns_22 (lv_at hl 6 rfl) ?_
    refine r_aload_n (pc := 24) C dX11_burns_24 rfl (lv_at hl 0 rfl) ?_
    refine gf_X11_95 (pc := 25) C t0 dX11_burns_25 ?_
    refine r_icmp_ge (pc := 28) C (tgt := 60) dX11_burns_28 (by decide) (fun _ => ?_) (fun _ => ?_)
    · exact hK S v5 v7 _ (lv_sub hl [0, 1, 2, 3, 4, 5, 6] rfl)
    · refine r_iload_n (pc := 31) C dX11_burns_31 rfl (lv_at hl 2 rfl) ?_
      refine r_iload (pc := 32) C dX11_burns_32 (lv_at hl 6 rfl) ?_
      refine r_ishr (pc := 34) C dX11_burns_34 ?_
      refine r_iconst (pc := 35) C (1 : Int32) dX11_burns_35 (by decide) ?_
      refine r_iand (pc := 36) C dX11_burns_36 ?_
      refine r_join (fun (j : St → Int64 → Option (St × Int32)) => ∀ (S22 : St) (v23 : Int64) (ls : Array Slot), lv_has ls 8 [(0, .ref (base + k0)), (1, .ref (base + k1)), (2, .int v2), (3, .int v3), (4, .int v4), (5, .long v23), (7, .int v7)] → Sim p l e rm_X11_burns s m args below meth c D cy base 0 0 (fun S1 r => MQ below (QcI D cy base tS S1 r) args s 0 0 (AA base)) (j S22 v23) S22 (F0 m 54 ls [])) ?_ (fun j21 hj21 => ?_)
      · intro S22 v23 ls hl
        refine r_iinc (pc := 54) C (k := 6) (1 : Int32) (fun v24 => [(7, .int v24), (0, .ref (base + k0)), (1, .ref (base + k1)), (2, .int v2), (3, .int v3), (4, .int v4), (5, .long v23)]) dX11_burns_54 hl rfl (by decide) (Nat.le_of_ble_eq_true rfl) (fun _ => rfl) (fun v24 ls hl => ?_)
        refine r_goto (pc := 57) C (tgt := 22) dX11_burns_57 (by decide) ?_
        exact ih S22 v23 v24 _ (lv_sub hl [1, 2, 3, 4, 5, 6, 0] rfl)
      refine r_if_ne (pc := 37) C (tgt := 54) dX11_burns_37 (by decide) (fun _ => ?_) (fun _ => ?_)
      · exact hj21 S v5 _ (lv_sub hl [0, 1, 2, 3, 4, 5, 6] rfl)
      · refine r_lload (pc := 40) C dX11_burns_40 (lv_at hl 5 rfl) ?_
        refine r_aload_n (pc := 42) C dX11_burns_42 rfl (lv_at hl 0 rfl) ?_
        refine r_iload (pc := 43) C dX11_burns_43 (lv_at hl 4 rfl) ?_
        refine r_iload (pc := 45) C dX11_burns_45 (lv_at hl 6 rfl) ?_
        refine cv_X11_102 (pc := 47) C t0 hl.1 ⟨Nat.le_of_ble_eq_true rfl, Nat.le_of_ble_eq_true rfl⟩ (Nat.le_of_ble_eq_true rfl) dX11_burns_47 (fun S25 v26 => ?_)
        refine r_i2l (pc := 50) C dX11_burns_50 ?_
        refine r_ladd (pc := 51) C dX11_burns_51 ?_
        refine r_topl (fun v27 => ?_)
        refine r_lstore (lv2 := [(5, .long v27), (0, .ref (base + k0)), (1, .ref (base + k1)), (2, .int v2), (3, .int v3), (4, .int v4), (7, .int v7)]) (pc := 52) C dX11_burns_52 hl (Nat.le_of_ble_eq_true rfl) rfl (fun ls hl => ?_)
        exact hj21 S25 v27 _ (lv_sub hl [1, 2, 3, 4, 5, 0, 6] rfl)

set_option maxHeartbeats 4000000 in
set_option maxRecDepth 100000 in
theorem lp_X11_burns_7 {p : Program} {l : Launch} {e : Env} {s : State} {m : MethodId} {args : Array Value} {below : List Frame} {meth : Method} {c : Code} {D : va_G} {cy : Nat → ClassId} {base tS : Nat} {ls : Array Slot} (C : Cx p rm_X11_burns s m args c RX11 cX11_burns 8 D cy base tS 0 0) (hr : meth.sig.returnType = (some .int)) (hk : meth.locks = false) {k0 : Nat} {k1 : Nat} (t0 : cls k0 = 11) (t1 : cls k1 = 13 ∧ len k1 = 15) {K : St → Int32 → Int32 → Int32 → Option (St × Int32)} (hK : ∀ (S : St) (v2 : Int32) (v3 : Int32) (v4 : Int32) (ls : Array Slot), lv_has ls 8 [(0, .ref (base + k0)), (1, .ref (base + k1)), (2, .int v2), (3, .int v3), (4, .int v4)] → Sim p l e rm_X11_burns s m args below meth c D cy base 0 0 (fun S1 r => MQ below (QcI D cy base tS S1 r) args s 0 0 (AA base)) (K S v2 v3 v4) S (F0 m 110 ls [])) : ∀ (n : Nat) (S : St) (v2 : Int32) (v3 : Int32) (v4 : Int32) (ls : Array Slot), lv_has ls 8 [(0, .ref (base + k0)), (1, .ref (base + k1)), (2, .int v2), (3, .int v3), (4, .int v4)] → Sim p l e rm_X11_burns s m args below meth c D cy base 0 0 (fun S1 r => MQ below (QcI D cy base tS S1 r) args s 0 0 (AA base)) (X11_burns_7 k0 k1 K n S v2 v3 v4) S (F0 m 7 ls []) := by
  intro n
  induction n with
  | zero => intro S v2 v3 v4 ls hl; exact Sim.none
  | succ n ih =>
    intro S v2 v3 v4 ls hl
    rw [X11_burns_7]
    refine r_iload (pc := 7) C dX11_burns_7 (lv_at hl 4 rfl) ?_
    refine r_aload_n (pc := 9) C dX11_burns_9 rfl (lv_at hl 0 rfl) ?_
    refine gf_X11_95 (pc := 10) C t0 dX11_burns_10 ?_
    refine r_icmp_ge (pc := 13) C (tgt := 110) dX11_burns_13 (by decide) (fun _ => ?_) (fun _ => ?_)
    · exact hK S v2 v3 v4 _ (lv_sub hl [0, 1, 2, 3, 4] rfl)
    · refine r_lconst (pc := 16) C (0 : Int64) dX11_burns_16 (by decide) ?_
      refine r_lstore (lv2 := [(5, .long (0 : Int64)), (0, .ref (base + k0)), (1, .ref (base + k1)), (2, .int v2), (3, .int v3), (4, .int v4)]) (pc := 17) C dX11_burns_17 hl (Nat.le_of_ble_eq_true rfl) rfl (fun ls hl => ?_)
      refine r_iconst (pc := 19) C (0 : Int32) dX11_burns_19 (by decide) ?_
      refine r_istore (lv2 := [(7, .int (0 : Int32)), (5, .long (0 : Int64)), (0, .ref (base + k0)), (1, .ref (base + k1)), (2, .int v2), (3, .int v3), (4, .int v4)]) (pc := 20) C dX11_burns_20 hl (Nat.le_of_ble_eq_true rfl) rfl (fun ls hl => ?_)
      refine lp_X11_burns_22 (ls := ls) C hr hk t0 t1 (fun S28 v29 v30 ls hl => ?_) FU S (0 : Int64) (0 : Int32) _ (lv_sub hl [2, 3, 4, 5, 6, 1, 0] rfl)
      refine r_iload_n (pc := 60) C dX11_burns_60 rfl (lv_at hl 2 rfl) ?_
      refine r_iload (pc := 61) C dX11_burns_61 (lv_at hl 4 rfl) ?_
      refine r_ishr (pc := 63) C dX11_burns_63 ?_
      refine r_iconst (pc := 64) C (1 : Int32) dX11_burns_64 (by decide) ?_
      refine r_iand (pc := 65) C dX11_burns_65 ?_
      refine r_iconst (pc := 66) C (1 : Int32) dX11_burns_66 (by decide) ?_
      refine r_join (fun (j : St → Option (St × Int32)) => ∀ (S32 : St)  (ls : Array Slot), lv_has ls 8 [(0, .ref (base + k0)), (1, .ref (base + k1)), (2, .int v2), (3, .int v3), (4, .int v4)] → Sim p l e rm_X11_burns s m args below meth c D cy base 0 0 (fun S1 r => MQ below (QcI D cy base tS S1 r) args s 0 0 (AA base)) (j S32) S32 (F0 m 80 ls [])) ?_ (fun j31 hj31 => ?_)
      · intro S32 ls hl
        refine r_iinc (pc := 80) C (k := 4) (1 : Int32) (fun v33 => [(4, .int v33), (0, .ref (base + k0)), (1, .ref (base + k1)), (2, .int v2), (3, .int v3)]) dX11_burns_80 hl rfl (by decide) (Nat.le_of_ble_eq_true rfl) (fun _ => rfl) (fun v33 ls hl => ?_)
        refine r_goto (pc := 83) C (tgt := 7) dX11_burns_83 (by decide) ?_
        exact ih S32 v2 v3 v33 _ (lv_sub hl [1, 2, 3, 4, 0] rfl)
      refine r_icmp_eq (pc := 67) C (tgt := 80) dX11_burns_67 (by decide) (fun _ => ?_) (fun _ => ?_)
      · exact hj31 S28  _ (lv_sub hl [0, 1, 2, 3, 4] rfl)
      · refine r_aload_n (pc := 70) C dX11_burns_70 rfl (lv_at hl 1 rfl) ?_
        refine r_iload (pc := 71) C dX11_burns_71 (lv_at hl 4 rfl) ?_
        refine r_lald (pc := 73) C t1 dX11_burns_73 ?_
        refine r_lload (pc := 74) C dX11_burns_74 (lv_at hl 5 rfl) ?_
        refine r_lcmp_ge (pc := 76) C (tgt := 86) dX11_burns_76 dX11_burns_77 (by decide) (fun _ => ?_) (fun _ => ?_)
        · refine r_iload_n (pc := 86) C dX11_burns_86 rfl (lv_at hl 2 rfl) ?_
          refine r_iconst (pc := 87) C (1 : Int32) dX11_burns_87 (by decide) ?_
          refine r_iload (pc := 88) C dX11_burns_88 (lv_at hl 4 rfl) ?_
          refine r_ishl (pc := 90) C dX11_burns_90 ?_
          refine r_ior (pc := 91) C dX11_burns_91 ?_
          refine r_topi (fun v34 => ?_)
          refine r_istore_n (lv2 := [(2, .int v34), (0, .ref (base + k0)), (1, .ref (base + k1)), (3, .int v3), (4, .int v4), (5, .long v29), (7, .int v30)]) (pc := 92) C dX11_burns_92 rfl hl (Nat.le_of_ble_eq_true rfl) rfl (fun ls hl => ?_)
          refine r_aload_n (pc := 93) C dX11_burns_93 rfl (lv_at hl 1 rfl) ?_
          refine gf_X11_73 (pc := 94) C t0 dX11_burns_94 ?_
          have t35 := ft_11_31 t0
          refine r_iload_n (pc := 97) C dX11_burns_97 rfl (lv_at hl 3 rfl) ?_
          refine r_iload (pc := 98) C dX11_burns_98 (lv_at hl 4 rfl) ?_
          refine r_iast (pc := 100) C t35 dX11_burns_100 (fun S36 => ?_)
          refine r_iinc (pc := 101) C (k := 3) (1 : Int32) (fun v37 => [(3, .int v37), (2, .int v34), (0, .ref (base + k0)), (1, .ref (base + k1)), (4, .int v4), (5, .long v29), (7, .int v30)]) dX11_burns_101 hl rfl (by decide) (Nat.le_of_ble_eq_true rfl) (fun _ => rfl) (fun v37 ls hl => ?_)
          refine r_iconst (pc := 104) C (0 : Int32) dX11_burns_104 (by decide) ?_
          refine r_istore (lv2 := [(4, .int (0 : Int32)), (3, .int v37), (2, .int v34), (0, .ref (base + k0)), (1, .ref (base + k1)), (5, .long v29), (7, .int v30)]) (pc := 105) C dX11_burns_105 hl (Nat.le_of_ble_eq_true rfl) rfl (fun ls hl => ?_)
          refine r_goto (pc := 107) C (tgt := 7) dX11_burns_107 (by decide) ?_
          exact ih S36 v34 v37 (0 : Int32) _ (lv_sub hl [3, 4, 2, 1, 0] rfl)
        · exact hj31 S28  _ (lv_sub hl [0, 1, 2, 3, 4] rfl)

set_option maxHeartbeats 4000000 in
set_option maxRecDepth 100000 in
theorem sm_X11_burns {p : Program} {l : Launch} {e : Env} {s : State} {m : MethodId} {args : Array Value} {below : List Frame} {meth : Method} {c : Code} {D : va_G} {cy : Nat → ClassId} {base tS : Nat} {S : St} {k0 : Nat} {k1 : Nat} {ls : Array Slot} (C : Cx p rm_X11_burns s m args c RX11 cX11_burns 8 D cy base tS 0 0) (hr : meth.sig.returnType = (some .int)) (hk : meth.locks = false) (t0 : cls k0 = 11) (t1 : cls k1 = 13 ∧ len k1 = 15) (hl : lv_has ls 8 [(0, .ref (base + k0)), (1, .ref (base + k1))]) : Sim p l e rm_X11_burns s m args below meth c D cy base 0 0 (fun S1 r => MQ below (QcI D cy base tS S1 r) args s 0 0 (AA base)) (X11_burns S k0 k1) S (F0 m 0 ls []) := by
  unfold X11_burns
  refine r_iconst (pc := 0) C (0 : Int32) dX11_burns_0 (by decide) ?_
  refine r_istore_n (lv2 := [(2, .int (0 : Int32)), (0, .ref (base + k0)), (1, .ref (base + k1))]) (pc := 1) C dX11_burns_1 rfl hl (Nat.le_of_ble_eq_true rfl) rfl (fun ls hl => ?_)
  refine r_iconst (pc := 2) C (0 : Int32) dX11_burns_2 (by decide) ?_
  refine r_istore_n (lv2 := [(3, .int (0 : Int32)), (2, .int (0 : Int32)), (0, .ref (base + k0)), (1, .ref (base + k1))]) (pc := 3) C dX11_burns_3 rfl hl (Nat.le_of_ble_eq_true rfl) rfl (fun ls hl => ?_)
  refine r_iconst (pc := 4) C (0 : Int32) dX11_burns_4 (by decide) ?_
  refine r_istore (lv2 := [(4, .int (0 : Int32)), (3, .int (0 : Int32)), (2, .int (0 : Int32)), (0, .ref (base + k0)), (1, .ref (base + k1))]) (pc := 5) C dX11_burns_5 hl (Nat.le_of_ble_eq_true rfl) rfl (fun ls hl => ?_)
  refine lp_X11_burns_7 (ls := ls) C hr hk t0 t1 (fun S38 v39 v40 v41 ls hl => ?_) FU S (0 : Int32) (0 : Int32) (0 : Int32) _ (lv_sub hl [3, 4, 2, 1, 0] rfl)
  refine r_iload_n (pc := 110) C dX11_burns_110 rfl (lv_at hl 2 rfl) ?_
  exact r_iret (pc := 111) C hr hk dX11_burns_111

theorem ct_X11_burns (l : Launch) {D : va_G} {cy : Nat → ClassId} {base tS : Nat} {S : St} {k0 : Nat} {k1 : Nat} (t0 : cls k0 = 11) (t1 : cls k1 = 13 ∧ len k1 = 15) {S1 : St} {r1 : Int32} (h : X11_burns S k0 k1 = some (S1, r1)) : Met l yX11_burns (wsY yX11_burns cX11_burns 8 (some .int)) rm_X11_burns (va_Pc [.ref (base + k0), .ref (base + k1)] (World D cy base tS S)) (QcI D cy base tS S1 r1) 0 0 (AA base) := conI rfl rfl (by decide) (Nat.le_of_ble_eq_true rfl) (fun p e s m args below meth c ls C hr hk hl => sm_X11_burns C hr hk t0 t1 hl) h
theorem cv_X11_194 {p : Program} {l : Launch} {e : Env} {R : Room} {s : State} {m : MethodId} {args : Array Value} {below : List Frame} {meth : Method} {c : Code} {D : va_G} {cy : Nat → ClassId} {base tS nc ns : Nat} {cc : ByteArray} {nL pc : Nat} {ls : Array Slot} {rest : List Value} {S : St} {ρ : Type} {Q : St → ρ → State → Prop} (C : Cx p R s m args c RX11 cc nL D cy base tS nc ns) {k0 : Nat} {k1 : Nat} (t0 : cls k0 = 11) (t1 : cls k1 = 13 ∧ len k1 = 15) (hl : ls.size = nL) (hR : rm_X11_burns.frames + 1 ≤ R.frames ∧ 8 + (8 + 11) + rm_X11_burns.locals ≤ R.locals) {b : St → Int32 → Option (St × ρ)} (hroom : (rest.map fun v => v.category).sum ≤ 8) (hd : decode cc pc = .ok (.invokevirtual 194, 3)) (kk : ∀ (S1 : St) (r : Int32), Sim p l e R s m args below meth c D cy base nc ns Q (b S1 r) S1 (F0 m (pc + 3) ls (.int r :: rest))) : Sim p l e R s m args below meth c D cy base nc ns Q (bd (X11_burns S k0 k1) b) S (F0 m pc ls (.ref (base + k1) :: .ref (base + k0) :: rest)) := r_callVI (n := 1) (As := [.ref (base + k1)]) C hl (rd_11 t0) (cls_lt t0 (by decide)) rfl (fun S1 r1 h => ct_X11_burns l t0 t1 h) wd_558 wd_559 wd_560 wd_497 wd_561 rfl rfl (by decide +kernel) hR rfl rfl hroom hd kk
abbrev rm_X11_burn : Room := { frames := 3, cells := 0, slots := 0, locals := 67 }
set_option maxHeartbeats 4000000 in
set_option maxRecDepth 100000 in
theorem lp_X11_burn_51 {p : Program} {l : Launch} {e : Env} {s : State} {m : MethodId} {args : Array Value} {below : List Frame} {meth : Method} {c : Code} {D : va_G} {cy : Nat → ClassId} {base tS : Nat} {ls : Array Slot} (C : Cx p rm_X11_burn s m args c RX11 cX11_burn 3 D cy base tS 0 0) (hr : meth.sig.returnType = (some .int)) (hk : meth.locks = false) {k0 : Nat} {v1 : Int32} (t0 : cls k0 = 11) {K : St → Int32 → Option (St × Int32)} (hK : ∀ (S : St) (v2 : Int32) (ls : Array Slot), lv_has ls 3 [(0, .ref (base + k0)), (1, .int v1), (2, .int v2)] → Sim p l e rm_X11_burn s m args below meth c D cy base 0 0 (fun S1 r => MQ below (QcI D cy base tS S1 r) args s 0 0 (AA base)) (K S v2) S (F0 m 79 ls [])) : ∀ (n : Nat) (S : St) (v2 : Int32) (ls : Array Slot), lv_has ls 3 [(0, .ref (base + k0)), (1, .int v1), (2, .int v2)] → Sim p l e rm_X11_burn s m args below meth c D cy base 0 0 (fun S1 r => MQ below (QcI D cy base tS S1 r) args s 0 0 (AA base)) (X11_burn_51 k0 v1 K n S v2) S (F0 m 51 ls []) := by
  intro n
  induction n with
  | zero => intro S v2 ls hl; exact Sim.none
  | succ n ih =>
    intro S v2 ls hl
    rw [X11_burn_51]
    refine r_iload_n (pc := 51) C dX11_burn_51 rfl (lv_at hl 2 rfl) ?_
    refine r_aload_n (pc := 52) C dX11_burn_52 rfl (lv_at hl 0 rfl) ?_
    refine gf_X11_95 (pc := 53) C t0 dX11_burn_53 ?_
    refine r_icmp_ge (pc := 56) C (tgt := 79) dX11_burn_56 (by decide) (fun _ => ?_) (fun _ => ?_)
    · exact hK S v2 _ (lv_sub hl [0, 1, 2] rfl)
    · refine r_aload_n (pc := 59) C dX11_burn_59 rfl (lv_at hl 0 rfl) ?_
      refine r_dup (pc := 60) C dX11_burn_60 rfl ?_
      refine gf_X11_134 (pc := 61) C t0 dX11_burn_61 ?_
      refine r_iload_n (pc := 64) C dX11_burn_64 rfl (lv_at hl 1 rfl) ?_
      refine r_iload_n (pc := 65) C dX11_burn_65 rfl (lv_at hl 2 rfl) ?_
      refine r_ishr (pc := 66) C dX11_burn_66 ?_
      refine r_iconst (pc := 67) C (1 : Int32) dX11_burn_67 (by decide) ?_
      refine r_iand (pc := 68) C dX11_burn_68 ?_
      refine r_iadd (pc := 69) C dX11_burn_69 ?_
      refine pf_X11_134 (pc := 70) C t0 dX11_burn_70 (fun S33 => ?_)
      refine r_iinc (pc := 73) C (k := 2) (1 : Int32) (fun v34 => [(2, .int v34), (0, .ref (base + k0)), (1, .int v1)]) dX11_burn_73 hl rfl (by decide) (Nat.le_of_ble_eq_true rfl) (fun _ => rfl) (fun v34 ls hl => ?_)
      refine r_goto (pc := 76) C (tgt := 51) dX11_burn_76 (by decide) ?_
      exact ih S33 v34 _ (lv_sub hl [1, 2, 0] rfl)

set_option maxHeartbeats 4000000 in
set_option maxRecDepth 100000 in
theorem lp_X11_burn_81 {p : Program} {l : Launch} {e : Env} {s : State} {m : MethodId} {args : Array Value} {below : List Frame} {meth : Method} {c : Code} {D : va_G} {cy : Nat → ClassId} {base tS : Nat} {ls : Array Slot} (C : Cx p rm_X11_burn s m args c RX11 cX11_burn 3 D cy base tS 0 0) (hr : meth.sig.returnType = (some .int)) (hk : meth.locks = false) {k0 : Nat} {v1 : Int32} (t0 : cls k0 = 11) {K : St → Int32 → Option (St × Int32)} (hK : ∀ (S : St) (v2 : Int32) (ls : Array Slot), lv_has ls 3 [(0, .ref (base + k0)), (1, .int v1), (2, .int v2)] → Sim p l e rm_X11_burn s m args below meth c D cy base 0 0 (fun S1 r => MQ below (QcI D cy base tS S1 r) args s 0 0 (AA base)) (K S v2) S (F0 m 107 ls [])) : ∀ (n : Nat) (S : St) (v2 : Int32) (ls : Array Slot), lv_has ls 3 [(0, .ref (base + k0)), (1, .int v1), (2, .int v2)] → Sim p l e rm_X11_burn s m args below meth c D cy base 0 0 (fun S1 r => MQ below (QcI D cy base tS S1 r) args s 0 0 (AA base)) (X11_burn_81 k0 v1 K n S v2) S (F0 m 81 ls []) := by
  intro n
  induction n with
  | zero => intro S v2 ls hl; exact Sim.none
  | succ n ih =>
    intro S v2 ls hl
    rw [X11_burn_81]
    refine r_iload_n (pc := 81) C dX11_burn_81 rfl (lv_at hl 2 rfl) ?_
    refine r_aload_n (pc := 82) C dX11_burn_82 rfl (lv_at hl 0 rfl) ?_
    refine gf_X11_134 (pc := 83) C t0 dX11_burn_83 ?_
    refine r_icmp_ge (pc := 86) C (tgt := 107) dX11_burn_86 (by decide) (fun _ => ?_) (fun _ => ?_)
    · exact hK S v2 _ (lv_sub hl [0, 1, 2] rfl)
    · refine r_aload_n (pc := 89) C dX11_burn_89 rfl (lv_at hl 0 rfl) ?_
      refine gf_X11_33 (pc := 90) C t0 dX11_burn_90 ?_
      have t37 := ft_11_12 t0
      refine r_iload_n (pc := 93) C dX11_burn_93 rfl (lv_at hl 2 rfl) ?_
      refine r_aload_n (pc := 94) C dX11_burn_94 rfl (lv_at hl 0 rfl) ?_
      refine gf_X11_73 (pc := 95) C t0 dX11_burn_95 ?_
      have t38 := ft_11_31 t0
      refine r_iload_n (pc := 98) C dX11_burn_98 rfl (lv_at hl 2 rfl) ?_
      refine r_iald (pc := 99) C t38 dX11_burn_99 ?_
      refine r_iast (pc := 100) C t37 dX11_burn_100 (fun S39 => ?_)
      refine r_iinc (pc := 101) C (k := 2) (1 : Int32) (fun v40 => [(2, .int v40), (0, .ref (base + k0)), (1, .int v1)]) dX11_burn_101 hl rfl (by decide) (Nat.le_of_ble_eq_true rfl) (fun _ => rfl) (fun v40 ls hl => ?_)
      refine r_goto (pc := 104) C (tgt := 81) dX11_burn_104 (by decide) ?_
      exact ih S39 v40 _ (lv_sub hl [1, 2, 0] rfl)

set_option maxHeartbeats 4000000 in
set_option maxRecDepth 100000 in
theorem sm_X11_burn {p : Program} {l : Launch} {e : Env} {s : State} {m : MethodId} {args : Array Value} {below : List Frame} {meth : Method} {c : Code} {D : va_G} {cy : Nat → ClassId} {base tS : Nat} {S : St} {k0 : Nat} {ls : Array Slot} (C : Cx p rm_X11_burn s m args c RX11 cX11_burn 3 D cy base tS 0 0) (hr : meth.sig.returnType = (some .int)) (hk : meth.locks = false) (t0 : cls k0 = 11) (hl : lv_has ls 3 [(0, .ref (base + k0))]) : Sim p l e rm_X11_burn s m args below meth c D cy base 0 0 (fun S1 r => MQ below (QcI D cy base tS S1 r) args s 0 0 (AA base)) (X11_burn S k0) S (F0 m 0 ls []) := by
  unfold X11_burn
  refine r_aload_n (pc := 0) C dX11_burn_0 rfl (lv_at hl 0 rfl) ?_
  refine gf_X11_114 (pc := 1) C t0 dX11_burn_1 ?_
  refine r_join (fun (j : St → Option (St × Int32)) => ∀ (S22 : St)  (ls : Array Slot), lv_has ls 3 [(0, .ref (base + k0))] → Sim p l e rm_X11_burn s m args below meth c D cy base 0 0 (fun S1 r => MQ below (QcI D cy base tS S1 r) args s 0 0 (AA base)) (j S22) S22 (F0 m 14 ls [])) ?_ (fun j21 hj21 => ?_)
  · intro S22 ls hl
    refine r_aload_n (pc := 14) C dX11_burn_14 rfl (lv_at hl 0 rfl) ?_
    refine r_bipush (pc := 15) C (-8 : Int32) dX11_burn_15 (by decide) ?_
    refine cv_X11_118 (pc := 17) C t0 hl.1 ⟨Nat.le_of_ble_eq_true rfl, Nat.le_of_ble_eq_true rfl⟩ (Nat.le_of_ble_eq_true rfl) dX11_burn_17 (fun S23 v24 => ?_)
    exact r_iret (pc := 20) C hr hk dX11_burn_20
  refine r_if_eq (pc := 4) C (tgt := 14) dX11_burn_4 (by decide) (fun _ => ?_) (fun _ => ?_)
  · exact hj21 S  _ (lv_sub hl [0] rfl)
  · refine r_aload_n (pc := 7) C dX11_burn_7 rfl (lv_at hl 0 rfl) ?_
    refine cv_X11_151 (pc := 8) C t0 hl.1 ⟨Nat.le_of_ble_eq_true rfl, Nat.le_of_ble_eq_true rfl⟩ (Nat.le_of_ble_eq_true rfl) dX11_burn_8 (fun S25 v26 => ?_)
    refine r_if_le (pc := 11) C (tgt := 21) dX11_burn_11 (by decide) (fun _ => ?_) (fun _ => ?_)
    · refine r_aload_n (pc := 21) C dX11_burn_21 rfl (lv_at hl 0 rfl) ?_
      refine cv_X11_190 (pc := 22) C t0 hl.1 ⟨Nat.le_of_ble_eq_true rfl, Nat.le_of_ble_eq_true rfl⟩ (Nat.le_of_ble_eq_true rfl) dX11_burn_22 (fun S27 v28 => ?_)
      refine r_if_ne (pc := 25) C (tgt := 35) dX11_burn_25 (by decide) (fun _ => ?_) (fun _ => ?_)
      · refine r_aload_n (pc := 35) C dX11_burn_35 rfl (lv_at hl 0 rfl) ?_
        refine r_aload_n (pc := 36) C dX11_burn_36 rfl (lv_at hl 0 rfl) ?_
        refine gf_X11_16 (pc := 37) C t0 dX11_burn_37 ?_
        have t29 := ft_11_4 t0
        refine cv_X11_194 (pc := 40) C t0 t29 hl.1 ⟨Nat.le_of_ble_eq_true rfl, Nat.le_of_ble_eq_true rfl⟩ (Nat.le_of_ble_eq_true rfl) dX11_burn_40 (fun S30 v31 => ?_)
        refine r_istore_n (lv2 := [(1, .int v31), (0, .ref (base + k0))]) (pc := 43) C dX11_burn_43 rfl hl (Nat.le_of_ble_eq_true rfl) rfl (fun ls hl => ?_)
        refine r_aload_n (pc := 44) C dX11_burn_44 rfl (lv_at hl 1 rfl) ?_
        refine r_iconst (pc := 45) C (0 : Int32) dX11_burn_45 (by decide) ?_
        refine pf_X11_134 (pc := 46) C t0 dX11_burn_46 (fun S32 => ?_)
        refine r_iconst (pc := 49) C (0 : Int32) dX11_burn_49 (by decide) ?_
        refine r_istore_n (lv2 := [(2, .int (0 : Int32)), (1, .int v31), (0, .ref (base + k0))]) (pc := 50) C dX11_burn_50 rfl hl (Nat.le_of_ble_eq_true rfl) rfl (fun ls hl => ?_)
        refine lp_X11_burn_51 (ls := ls) C hr hk t0 (fun S35 v36 ls hl => ?_) FU S32 (0 : Int32) _ (lv_sub hl [2, 1, 0] rfl)
        refine r_iconst (pc := 79) C (0 : Int32) dX11_burn_79 (by decide) ?_
        refine r_istore_n (lv2 := [(2, .int (0 : Int32)), (0, .ref (base + k0)), (1, .int v31)]) (pc := 80) C dX11_burn_80 rfl hl (Nat.le_of_ble_eq_true rfl) rfl (fun ls hl => ?_)
        refine lp_X11_burn_81 (ls := ls) C hr hk t0 (fun S41 v42 ls hl => ?_) FU S35 (0 : Int32) _ (lv_sub hl [1, 2, 0] rfl)
        refine r_aload_n (pc := 107) C dX11_burn_107 rfl (lv_at hl 0 rfl) ?_
        refine r_iconst (pc := 108) C (1 : Int32) dX11_burn_108 (by decide) ?_
        refine r_aload_n (pc := 109) C dX11_burn_109 rfl (lv_at hl 0 rfl) ?_
        refine gf_X11_95 (pc := 110) C t0 dX11_burn_110 ?_
        refine r_ishl (pc := 113) C dX11_burn_113 ?_
        refine r_iconst (pc := 114) C (1 : Int32) dX11_burn_114 (by decide) ?_
        refine r_isub (pc := 115) C dX11_burn_115 ?_
        refine r_iload_n (pc := 116) C dX11_burn_116 rfl (lv_at hl 1 rfl) ?_
        refine r_isub (pc := 117) C dX11_burn_117 ?_
        refine pf_X11_137 (pc := 118) C t0 dX11_burn_118 (fun S43 => ?_)
        refine r_aload_n (pc := 121) C dX11_burn_121 rfl (lv_at hl 0 rfl) ?_
        refine gf_X11_137 (pc := 122) C t0 dX11_burn_122 ?_
        refine r_if_ne (pc := 125) C (tgt := 132) dX11_burn_125 (by decide) (fun _ => ?_) (fun _ => ?_)
        · refine r_iconst (pc := 132) C (0 : Int32) dX11_burn_132 (by decide) ?_
          exact r_iret (pc := 133) C hr hk dX11_burn_133
        · refine r_iconst (pc := 128) C (1 : Int32) dX11_burn_128 (by decide) ?_
          refine r_goto (pc := 129) C (tgt := 133) dX11_burn_129 (by decide) ?_
          exact r_iret (pc := 133) C hr hk dX11_burn_133
      · refine r_aload_n (pc := 28) C dX11_burn_28 rfl (lv_at hl 0 rfl) ?_
        refine r_bipush (pc := 29) C (-12 : Int32) dX11_burn_29 (by decide) ?_
        refine cv_X11_118 (pc := 31) C t0 hl.1 ⟨Nat.le_of_ble_eq_true rfl, Nat.le_of_ble_eq_true rfl⟩ (Nat.le_of_ble_eq_true rfl) dX11_burn_31 (fun S44 v45 => ?_)
        exact r_iret (pc := 34) C hr hk dX11_burn_34
    · exact hj21 S25  _ (lv_sub hl [0] rfl)

theorem ct_X11_burn (l : Launch) {D : va_G} {cy : Nat → ClassId} {base tS : Nat} {S : St} {k0 : Nat} (t0 : cls k0 = 11) {S1 : St} {r1 : Int32} (h : X11_burn S k0 = some (S1, r1)) : Met l yX11_burn (wsY yX11_burn cX11_burn 3 (some .int)) rm_X11_burn (va_Pc [.ref (base + k0)] (World D cy base tS S)) (QcI D cy base tS S1 r1) 0 0 (AA base) := conI rfl rfl (by decide) (Nat.le_of_ble_eq_true rfl) (fun p e s m args below meth c ls C hr hk hl => sm_X11_burn C hr hk t0 hl) h
abbrev rm_X11_burnt : Room := { frames := 1, cells := 0, slots := 0, locals := 22 }
set_option maxHeartbeats 4000000 in
set_option maxRecDepth 100000 in
theorem sm_X11_burnt {p : Program} {l : Launch} {e : Env} {s : State} {m : MethodId} {args : Array Value} {below : List Frame} {meth : Method} {c : Code} {D : va_G} {cy : Nat → ClassId} {base tS : Nat} {S : St} {k0 : Nat} {v1 : Int32} {ls : Array Slot} (C : Cx p rm_X11_burnt s m args c RX11 cX11_burnt 2 D cy base tS 0 0) (hr : meth.sig.returnType = (some .int)) (hk : meth.locks = false) (t0 : cls k0 = 11) (hl : lv_has ls 2 [(0, .ref (base + k0)), (1, .int v1)]) : Sim p l e rm_X11_burnt s m args below meth c D cy base 0 0 (fun S1 r => MQ below (QcI D cy base tS S1 r) args s 0 0 (AA base)) (X11_burnt S k0 v1) S (F0 m 0 ls []) := by
  unfold X11_burnt
  refine r_iload_n (pc := 0) C dX11_burnt_0 rfl (lv_at hl 1 rfl) ?_
  refine r_iconst (pc := 1) C (-1 : Int32) dX11_burnt_1 (by decide) ?_
  refine r_aload_n (pc := 2) C dX11_burnt_2 rfl (lv_at hl 0 rfl) ?_
  refine gf_X11_134 (pc := 3) C t0 dX11_burnt_3 ?_
  refine r_iconst (pc := 6) C (1 : Int32) dX11_burnt_6 (by decide) ?_
  refine r_isub (pc := 7) C dX11_burnt_7 ?_
  refine cv_X11_98 (pc := 8) C  hl.1 ⟨Nat.le_of_ble_eq_true rfl, Nat.le_of_ble_eq_true rfl⟩ (Nat.le_of_ble_eq_true rfl) dX11_burnt_8 (fun S21 v22 => ?_)
  refine r_if_ne (pc := 11) C (tgt := 21) dX11_burnt_11 (by decide) (fun _ => ?_) (fun _ => ?_)
  · refine r_iload_n (pc := 21) C dX11_burnt_21 rfl (lv_at hl 1 rfl) ?_
    refine r_if_ge (pc := 22) C (tgt := 32) dX11_burnt_22 (by decide) (fun _ => ?_) (fun _ => ?_)
    · refine r_aload_n (pc := 32) C dX11_burnt_32 rfl (lv_at hl 0 rfl) ?_
      refine gf_X11_33 (pc := 33) C t0 dX11_burnt_33 ?_
      have t23 := ft_11_12 t0
      refine r_iload_n (pc := 36) C dX11_burnt_36 rfl (lv_at hl 1 rfl) ?_
      refine r_iald (pc := 37) C t23 dX11_burnt_37 ?_
      exact r_iret (pc := 38) C hr hk dX11_burnt_38
    · refine r_aload_n (pc := 25) C dX11_burnt_25 rfl (lv_at hl 0 rfl) ?_
      refine gf_X11_137 (pc := 26) C t0 dX11_burnt_26 ?_
      refine r_goto (pc := 29) C (tgt := 38) dX11_burnt_29 (by decide) ?_
      exact r_iret (pc := 38) C hr hk dX11_burnt_38
  · refine r_aload_n (pc := 14) C dX11_burnt_14 rfl (lv_at hl 0 rfl) ?_
    refine r_bipush (pc := 15) C (-11 : Int32) dX11_burnt_15 (by decide) ?_
    refine cv_X11_118 (pc := 17) C t0 hl.1 ⟨Nat.le_of_ble_eq_true rfl, Nat.le_of_ble_eq_true rfl⟩ (Nat.le_of_ble_eq_true rfl) dX11_burnt_17 (fun S24 v25 => ?_)
    exact r_iret (pc := 20) C hr hk dX11_burnt_20

theorem ct_X11_burnt (l : Launch) {D : va_G} {cy : Nat → ClassId} {base tS : Nat} {S : St} {k0 : Nat} {v1 : Int32} (t0 : cls k0 = 11) {S1 : St} {r1 : Int32} (h : X11_burnt S k0 v1 = some (S1, r1)) : Met l yX11_burnt (wsY yX11_burnt cX11_burnt 2 (some .int)) rm_X11_burnt (va_Pc [.ref (base + k0), .int v1] (World D cy base tS S)) (QcI D cy base tS S1 r1) 0 0 (AA base) := conI rfl rfl (by decide) (Nat.le_of_ble_eq_true rfl) (fun p e s m args below meth c ls C hr hk hl => sm_X11_burnt C hr hk t0 hl) h
abbrev rm_X11_isSlot : Room := { frames := 1, cells := 0, slots := 0, locals := 22 }
set_option maxHeartbeats 4000000 in
set_option maxRecDepth 100000 in
theorem sm_X11_isSlot {p : Program} {l : Launch} {e : Env} {s : State} {m : MethodId} {args : Array Value} {below : List Frame} {meth : Method} {c : Code} {D : va_G} {cy : Nat → ClassId} {base tS : Nat} {S : St} {v0 : Int32} {ls : Array Slot} (C : Cx p rm_X11_isSlot s m args c RX11 cX11_isSlot 1 D cy base tS 0 0) (hr : meth.sig.returnType = (some .boolean)) (hk : meth.locks = false)  (hl : lv_has ls 1 [(0, .int v0)]) : Sim p l e rm_X11_isSlot s m args below meth c D cy base 0 0 (fun S1 r => MQ below (QcI D cy base tS S1 r) args s 0 0 (AA base)) (X11_isSlot S v0) S (F0 m 0 ls []) := by
  unfold X11_isSlot
  refine r_iload_n (pc := 0) C dX11_isSlot_0 rfl (lv_at hl 0 rfl) ?_
  refine r_iconst (pc := 1) C (0 : Int32) dX11_isSlot_1 (by decide) ?_
  refine r_bipush (pc := 2) C (7 : Int32) dX11_isSlot_2 (by decide) ?_
  refine cv_X11_98 (pc := 4) C  hl.1 ⟨Nat.le_of_ble_eq_true rfl, Nat.le_of_ble_eq_true rfl⟩ (Nat.le_of_ble_eq_true rfl) dX11_isSlot_4 (fun S21 v22 => ?_)
  exact r_zretG (pc := 7) C hr hk dX11_isSlot_7

theorem ct_X11_isSlot (l : Launch) {D : va_G} {cy : Nat → ClassId} {base tS : Nat} {S : St} {v0 : Int32}  {S1 : St} {r1 : Int32} (h : X11_isSlot S v0 = some (S1, r1)) : Met l yX11_isSlot (wsY yX11_isSlot cX11_isSlot 1 (some .boolean)) rm_X11_isSlot (va_Pc [.int v0] (World D cy base tS S)) (QcI D cy base tS S1 r1) 0 0 (AA base) := conI rfl rfl (by decide) (Nat.le_of_ble_eq_true rfl) (fun p e s m args below meth c ls C hr hk hl => sm_X11_isSlot C hr hk  hl) h
theorem cv_X11_198 {p : Program} {l : Launch} {e : Env} {R : Room} {s : State} {m : MethodId} {args : Array Value} {below : List Frame} {meth : Method} {c : Code} {D : va_G} {cy : Nat → ClassId} {base tS nc ns : Nat} {cc : ByteArray} {nL pc : Nat} {ls : Array Slot} {rest : List Value} {S : St} {ρ : Type} {Q : St → ρ → State → Prop} (C : Cx p R s m args c RX11 cc nL D cy base tS nc ns) {v0 : Int32}  (hl : ls.size = nL) (hR : rm_X11_isSlot.frames + 1 ≤ R.frames ∧ 8 + (1 + 11) + rm_X11_isSlot.locals ≤ R.locals) {b : St → Int32 → Option (St × ρ)} (hroom : (rest.map fun v => v.category).sum ≤ 8) (hd : decode cc pc = .ok (.invokestatic 198, 3)) (kk : ∀ (S1 : St) (r : Int32), Sim p l e R s m args below meth c D cy base nc ns Q (b S1 r) S1 (F0 m (pc + 3) ls (.int r :: rest))) : Sim p l e R s m args below meth c D cy base nc ns Q (bd (X11_isSlot S v0) b) S (F0 m pc ls (.int v0 :: rest)) := r_callSI (n := 1) (As := [.int v0]) C hl (fun S1 r1 h => ct_X11_isSlot l  h) wd_562 wd_563 wd_497 wd_564 rfl rfl (by decide +kernel) hR rfl rfl hroom hd kk
abbrev rm_X11_stored : Room := { frames := 0, cells := 0, slots := 0, locals := 0 }
set_option maxHeartbeats 4000000 in
set_option maxRecDepth 100000 in
theorem lp_X11_stored_5 {p : Program} {l : Launch} {e : Env} {s : State} {m : MethodId} {args : Array Value} {below : List Frame} {meth : Method} {c : Code} {D : va_G} {cy : Nat → ClassId} {base tS : Nat} {ls : Array Slot} (C : Cx p rm_X11_stored s m args c RX11 cX11_stored 6 D cy base tS 0 0) (hr : meth.sig.returnType = (some .int)) (hk : meth.locks = false) {k0 : Nat} {v1 : Int32} {k2 : Nat} (t0 : cls k0 = 11) (t2 : cls k2 = 13 ∧ len k2 = 15) {K : St → Int64 → Int32 → Option (St × Int32)} (hK : ∀ (S : St) (v3 : Int64) (v5 : Int32) (ls : Array Slot), lv_has ls 6 [(0, .ref (base + k0)), (1, .int v1), (2, .ref (base + k2)), (3, .long v3), (5, .int v5)] → Sim p l e rm_X11_stored s m args below meth c D cy base 0 0 (fun S1 r => MQ below (QcI D cy base tS S1 r) args s 0 0 (AA base)) (K S v3 v5) S (F0 m 62 ls [])) : ∀ (n : Nat) (S : St) (v3 : Int64) (v5 : Int32) (ls : Array Slot), lv_has ls 6 [(0, .ref (base + k0)), (1, .int v1), (2, .ref (base + k2)), (3, .long v3), (5, .int v5)] → Sim p l e rm_X11_stored s m args below meth c D cy base 0 0 (fun S1 r => MQ below (QcI D cy base tS S1 r) args s 0 0 (AA base)) (X11_stored_5 k0 v1 k2 K n S v3 v5) S (F0 m 5 ls []) := by
  intro n
  induction n with
  | zero => intro S v3 v5 ls hl; exact Sim.none
  | succ n ih =>
    intro S v3 v5 ls hl
    rw [X11_stored_5]
    refine r_iload (pc := 5) C dX11_stored_5 (lv_at hl 4 rfl) ?_
    refine r_bipush (pc := 7) C (12 : Int32) dX11_stored_7 (by decide) ?_
    refine r_icmp_ge (pc := 9) C (tgt := 62) dX11_stored_9 (by decide) (fun _ => ?_) (fun _ => ?_)
    · exact hK S v3 v5 _ (lv_sub hl [0, 1, 2, 3, 4] rfl)
    · refine r_aload_n (pc := 12) C dX11_stored_12 rfl (lv_at hl 0 rfl) ?_
      refine gf_X11_36 (pc := 13) C t0 dX11_stored_13 ?_
      have t21 := ft_11_15 t0
      refine r_bipush (pc := 16) C (12 : Int32) dX11_stored_16 (by decide) ?_
      refine r_iload_n (pc := 18) C dX11_stored_18 rfl (lv_at hl 1 rfl) ?_
      refine r_imul (pc := 19) C dX11_stored_19 ?_
      refine r_iload (pc := 20) C dX11_stored_20 (lv_at hl 4 rfl) ?_
      refine r_iadd (pc := 22) C dX11_stored_22 ?_
      refine r_iload (pc := 23) C dX11_stored_23 (lv_at hl 4 rfl) ?_
      refine r_aload_n (pc := 25) C dX11_stored_25 rfl (lv_at hl 0 rfl) ?_
      refine gf_X11_95 (pc := 26) C t0 dX11_stored_26 ?_
      refine r_join (fun (j : St → Int64 → Option (St × Int32)) => ∀ (S23 : St) (v24 : Int64) (ls : Array Slot), lv_has ls 6 [(0, .ref (base + k0)), (1, .int v1), (2, .ref (base + k2)), (3, .long v3), (5, .int v5)] → Sim p l e rm_X11_stored s m args below meth c D cy base 0 0 (fun S1 r => MQ below (QcI D cy base tS S1 r) args s 0 0 (AA base)) (j S23 v24) S23 (F0 m 40 ls [.long v24, .int (((12 : Int32) * v1) + v5), .ref (base + (rf k0 15))])) ?_ (fun j22 hj22 => ?_)
      · intro S23 v24 ls hl
        refine r_last (pc := 40) C t21 dX11_stored_40 (fun S25 => ?_)
        refine r_lload_n (pc := 41) C dX11_stored_41 rfl (lv_at hl 3 rfl) ?_
        refine r_aload_n (pc := 42) C dX11_stored_42 rfl (lv_at hl 0 rfl) ?_
        refine gf_X11_36 (pc := 43) C t0 dX11_stored_43 ?_
        have t26 := ft_11_15 t0
        refine r_bipush (pc := 46) C (12 : Int32) dX11_stored_46 (by decide) ?_
        refine r_iload_n (pc := 48) C dX11_stored_48 rfl (lv_at hl 1 rfl) ?_
        refine r_imul (pc := 49) C dX11_stored_49 ?_
        refine r_iload (pc := 50) C dX11_stored_50 (lv_at hl 4 rfl) ?_
        refine r_iadd (pc := 52) C dX11_stored_52 ?_
        refine r_lald (pc := 53) C t26 dX11_stored_53 ?_
        refine r_ladd (pc := 54) C dX11_stored_54 ?_
        refine r_topl (fun v27 => ?_)
        refine r_lstore_n (lv2 := [(3, .long v27), (0, .ref (base + k0)), (1, .int v1), (2, .ref (base + k2)), (5, .int v5)]) (pc := 55) C dX11_stored_55 rfl hl (Nat.le_of_ble_eq_true rfl) rfl (fun ls hl => ?_)
        refine r_iinc (pc := 56) C (k := 4) (1 : Int32) (fun v28 => [(5, .int v28), (3, .long v27), (0, .ref (base + k0)), (1, .int v1), (2, .ref (base + k2))]) dX11_stored_56 hl rfl (by decide) (Nat.le_of_ble_eq_true rfl) (fun _ => rfl) (fun v28 ls hl => ?_)
        refine r_goto (pc := 59) C (tgt := 5) dX11_stored_59 (by decide) ?_
        exact ih S25 v27 v28 _ (lv_sub hl [2, 3, 4, 1, 0] rfl)
      refine r_icmp_ge (pc := 29) C (tgt := 39) dX11_stored_29 (by decide) (fun _ => ?_) (fun _ => ?_)
      · refine r_lconst (pc := 39) C (0 : Int64) dX11_stored_39 (by decide) ?_
        exact hj22 S (0 : Int64) _ (lv_sub hl [0, 1, 2, 3, 4] rfl)
      · refine r_aload_n (pc := 32) C dX11_stored_32 rfl (lv_at hl 2 rfl) ?_
        refine r_iload (pc := 33) C dX11_stored_33 (lv_at hl 4 rfl) ?_
        refine r_lald (pc := 35) C t2 dX11_stored_35 ?_
        refine r_goto (pc := 36) C (tgt := 40) dX11_stored_36 (by decide) ?_
        exact hj22 S (S.2 k2 (ix v5)) _ (lv_sub hl [0, 1, 2, 3, 4] rfl)

set_option maxHeartbeats 4000000 in
set_option maxRecDepth 100000 in
theorem sm_X11_stored {p : Program} {l : Launch} {e : Env} {s : State} {m : MethodId} {args : Array Value} {below : List Frame} {meth : Method} {c : Code} {D : va_G} {cy : Nat → ClassId} {base tS : Nat} {S : St} {k0 : Nat} {v1 : Int32} {k2 : Nat} {ls : Array Slot} (C : Cx p rm_X11_stored s m args c RX11 cX11_stored 6 D cy base tS 0 0) (hr : meth.sig.returnType = (some .int)) (hk : meth.locks = false) (t0 : cls k0 = 11) (t2 : cls k2 = 13 ∧ len k2 = 15) (hl : lv_has ls 6 [(0, .ref (base + k0)), (1, .int v1), (2, .ref (base + k2))]) : Sim p l e rm_X11_stored s m args below meth c D cy base 0 0 (fun S1 r => MQ below (QcI D cy base tS S1 r) args s 0 0 (AA base)) (X11_stored S k0 v1 k2) S (F0 m 0 ls []) := by
  unfold X11_stored
  refine r_lconst (pc := 0) C (0 : Int64) dX11_stored_0 (by decide) ?_
  refine r_lstore_n (lv2 := [(3, .long (0 : Int64)), (0, .ref (base + k0)), (1, .int v1), (2, .ref (base + k2))]) (pc := 1) C dX11_stored_1 rfl hl (Nat.le_of_ble_eq_true rfl) rfl (fun ls hl => ?_)
  refine r_iconst (pc := 2) C (0 : Int32) dX11_stored_2 (by decide) ?_
  refine r_istore (lv2 := [(5, .int (0 : Int32)), (3, .long (0 : Int64)), (0, .ref (base + k0)), (1, .int v1), (2, .ref (base + k2))]) (pc := 3) C dX11_stored_3 hl (Nat.le_of_ble_eq_true rfl) rfl (fun ls hl => ?_)
  refine lp_X11_stored_5 (ls := ls) C hr hk t0 t2 (fun S29 v30 v31 ls hl => ?_) FU S (0 : Int64) (0 : Int32) _ (lv_sub hl [2, 3, 4, 1, 0] rfl)
  refine r_aload_n (pc := 62) C dX11_stored_62 rfl (lv_at hl 0 rfl) ?_
  refine gf_X11_39 (pc := 63) C t0 dX11_stored_63 ?_
  have t32 := ft_11_16 t0
  refine r_iload_n (pc := 66) C dX11_stored_66 rfl (lv_at hl 1 rfl) ?_
  refine r_iconst (pc := 67) C (1 : Int32) dX11_stored_67 (by decide) ?_
  refine r_zast (pc := 68) C t32 rfl dX11_stored_68 (fun S33 => ?_)
  refine r_lload_n (pc := 69) C dX11_stored_69 rfl (lv_at hl 3 rfl) ?_
  refine r_l2i (pc := 70) C dX11_stored_70 ?_
  exact r_iret (pc := 71) C hr hk dX11_stored_71

theorem ct_X11_stored (l : Launch) {D : va_G} {cy : Nat → ClassId} {base tS : Nat} {S : St} {k0 : Nat} {v1 : Int32} {k2 : Nat} (t0 : cls k0 = 11) (t2 : cls k2 = 13 ∧ len k2 = 15) {S1 : St} {r1 : Int32} (h : X11_stored S k0 v1 k2 = some (S1, r1)) : Met l yX11_stored (wsY yX11_stored cX11_stored 6 (some .int)) rm_X11_stored (va_Pc [.ref (base + k0), .int v1, .ref (base + k2)] (World D cy base tS S)) (QcI D cy base tS S1 r1) 0 0 (AA base) := conI rfl rfl (by decide) (Nat.le_of_ble_eq_true rfl) (fun p e s m args below meth c ls C hr hk hl => sm_X11_stored C hr hk t0 t2 hl) h
theorem cv_X11_201 {p : Program} {l : Launch} {e : Env} {R : Room} {s : State} {m : MethodId} {args : Array Value} {below : List Frame} {meth : Method} {c : Code} {D : va_G} {cy : Nat → ClassId} {base tS nc ns : Nat} {cc : ByteArray} {nL pc : Nat} {ls : Array Slot} {rest : List Value} {S : St} {ρ : Type} {Q : St → ρ → State → Prop} (C : Cx p R s m args c RX11 cc nL D cy base tS nc ns) {k0 : Nat} {v1 : Int32} {k2 : Nat} (t0 : cls k0 = 11) (t2 : cls k2 = 13 ∧ len k2 = 15) (hl : ls.size = nL) (hR : rm_X11_stored.frames + 1 ≤ R.frames ∧ 8 + (6 + 11) + rm_X11_stored.locals ≤ R.locals) {b : St → Int32 → Option (St × ρ)} (hroom : (rest.map fun v => v.category).sum ≤ 8) (hd : decode cc pc = .ok (.invokevirtual 201, 3)) (kk : ∀ (S1 : St) (r : Int32), Sim p l e R s m args below meth c D cy base nc ns Q (b S1 r) S1 (F0 m (pc + 3) ls (.int r :: rest))) : Sim p l e R s m args below meth c D cy base nc ns Q (bd (X11_stored S k0 v1 k2) b) S (F0 m pc ls (.ref (base + k2) :: .int v1 :: .ref (base + k0) :: rest)) := r_callVI (n := 2) (As := [.int v1, .ref (base + k2)]) C hl (rd_11 t0) (cls_lt t0 (by decide)) rfl (fun S1 r1 h => ct_X11_stored l t0 t2 h) wd_565 wd_566 wd_567 wd_497 wd_568 rfl rfl (by decide +kernel) hR rfl rfl hroom hd kk
abbrev rm_X11_keep : Room := { frames := 2, cells := 0, slots := 0, locals := 42 }
set_option maxHeartbeats 4000000 in
set_option maxRecDepth 100000 in
theorem sm_X11_keep {p : Program} {l : Launch} {e : Env} {s : State} {m : MethodId} {args : Array Value} {below : List Frame} {meth : Method} {c : Code} {D : va_G} {cy : Nat → ClassId} {base tS : Nat} {S : St} {k0 : Nat} {v1 : Int32} {ls : Array Slot} (C : Cx p rm_X11_keep s m args c RX11 cX11_keep 2 D cy base tS 0 0) (hr : meth.sig.returnType = (some .int)) (hk : meth.locks = false) (t0 : cls k0 = 11) (hl : lv_has ls 2 [(0, .ref (base + k0)), (1, .int v1)]) : Sim p l e rm_X11_keep s m args below meth c D cy base 0 0 (fun S1 r => MQ below (QcI D cy base tS S1 r) args s 0 0 (AA base)) (X11_keep S k0 v1) S (F0 m 0 ls []) := by
  unfold X11_keep
  refine r_iload_n (pc := 0) C dX11_keep_0 rfl (lv_at hl 1 rfl) ?_
  refine cv_X11_198 (pc := 1) C  hl.1 ⟨Nat.le_of_ble_eq_true rfl, Nat.le_of_ble_eq_true rfl⟩ (Nat.le_of_ble_eq_true rfl) dX11_keep_1 (fun S21 v22 => ?_)
  refine r_if_ne (pc := 4) C (tgt := 13) dX11_keep_4 (by decide) (fun _ => ?_) (fun _ => ?_)
  · refine r_aload_n (pc := 13) C dX11_keep_13 rfl (lv_at hl 0 rfl) ?_
    refine gf_X11_114 (pc := 14) C t0 dX11_keep_14 ?_
    refine r_if_ne (pc := 17) C (tgt := 27) dX11_keep_17 (by decide) (fun _ => ?_) (fun _ => ?_)
    · refine r_aload_n (pc := 27) C dX11_keep_27 rfl (lv_at hl 0 rfl) ?_
      refine r_iload_n (pc := 28) C dX11_keep_28 rfl (lv_at hl 1 rfl) ?_
      refine r_aload_n (pc := 29) C dX11_keep_29 rfl (lv_at hl 0 rfl) ?_
      refine gf_X11_16 (pc := 30) C t0 dX11_keep_30 ?_
      have t23 := ft_11_4 t0
      refine cv_X11_201 (pc := 33) C t0 t23 hl.1 ⟨Nat.le_of_ble_eq_true rfl, Nat.le_of_ble_eq_true rfl⟩ (Nat.le_of_ble_eq_true rfl) dX11_keep_33 (fun S24 v25 => ?_)
      exact r_iret (pc := 36) C hr hk dX11_keep_36
    · refine r_aload_n (pc := 20) C dX11_keep_20 rfl (lv_at hl 0 rfl) ?_
      refine r_bipush (pc := 21) C (-8 : Int32) dX11_keep_21 (by decide) ?_
      refine cv_X11_118 (pc := 23) C t0 hl.1 ⟨Nat.le_of_ble_eq_true rfl, Nat.le_of_ble_eq_true rfl⟩ (Nat.le_of_ble_eq_true rfl) dX11_keep_23 (fun S26 v27 => ?_)
      exact r_iret (pc := 26) C hr hk dX11_keep_26
  · refine r_aload_n (pc := 7) C dX11_keep_7 rfl (lv_at hl 0 rfl) ?_
    refine r_iconst (pc := 8) C (-1 : Int32) dX11_keep_8 (by decide) ?_
    refine cv_X11_118 (pc := 9) C t0 hl.1 ⟨Nat.le_of_ble_eq_true rfl, Nat.le_of_ble_eq_true rfl⟩ (Nat.le_of_ble_eq_true rfl) dX11_keep_9 (fun S28 v29 => ?_)
    exact r_iret (pc := 12) C hr hk dX11_keep_12

theorem ct_X11_keep (l : Launch) {D : va_G} {cy : Nat → ClassId} {base tS : Nat} {S : St} {k0 : Nat} {v1 : Int32} (t0 : cls k0 = 11) {S1 : St} {r1 : Int32} (h : X11_keep S k0 v1 = some (S1, r1)) : Met l yX11_keep (wsY yX11_keep cX11_keep 2 (some .int)) rm_X11_keep (va_Pc [.ref (base + k0), .int v1] (World D cy base tS S)) (QcI D cy base tS S1 r1) 0 0 (AA base) := conI rfl rfl (by decide) (Nat.le_of_ble_eq_true rfl) (fun p e s m args below meth c ls C hr hk hl => sm_X11_keep C hr hk t0 hl) h
abbrev rm_X11_bring : Room := { frames := 2, cells := 0, slots := 0, locals := 42 }
set_option maxHeartbeats 4000000 in
set_option maxRecDepth 100000 in
theorem lp_X11_bring_48 {p : Program} {l : Launch} {e : Env} {s : State} {m : MethodId} {args : Array Value} {below : List Frame} {meth : Method} {c : Code} {D : va_G} {cy : Nat → ClassId} {base tS : Nat} {ls : Array Slot} (C : Cx p rm_X11_bring s m args c RX11 cX11_bring 5 D cy base tS 0 0) (hr : meth.sig.returnType = (some .int)) (hk : meth.locks = false) {k0 : Nat} {v1 : Int32} (t0 : cls k0 = 11) {K : St → Int64 → Int32 → Option (St × Int32)} (hK : ∀ (S : St) (v2 : Int64) (v4 : Int32) (ls : Array Slot), lv_has ls 5 [(0, .ref (base + k0)), (1, .int v1), (2, .long v2), (4, .int v4)] → Sim p l e rm_X11_bring s m args below meth c D cy base 0 0 (fun S1 r => MQ below (QcI D cy base tS S1 r) args s 0 0 (AA base)) (K S v2 v4) S (F0 m 92 ls [])) : ∀ (n : Nat) (S : St) (v2 : Int64) (v4 : Int32) (ls : Array Slot), lv_has ls 5 [(0, .ref (base + k0)), (1, .int v1), (2, .long v2), (4, .int v4)] → Sim p l e rm_X11_bring s m args below meth c D cy base 0 0 (fun S1 r => MQ below (QcI D cy base tS S1 r) args s 0 0 (AA base)) (X11_bring_48 k0 v1 K n S v2 v4) S (F0 m 48 ls []) := by
  intro n
  induction n with
  | zero => intro S v2 v4 ls hl; exact Sim.none
  | succ n ih =>
    intro S v2 v4 ls hl
    rw [X11_bring_48]
    refine r_iload (pc := 48) C dX11_bring_48 (lv_at hl 3 rfl) ?_
    refine r_aload_n (pc := 50) C dX11_bring_50 rfl (lv_at hl 0 rfl) ?_
    refine gf_X11_95 (pc := 51) C t0 dX11_bring_51 ?_
    refine r_icmp_ge (pc := 54) C (tgt := 92) dX11_bring_54 (by decide) (fun _ => ?_) (fun _ => ?_)
    · exact hK S v2 v4 _ (lv_sub hl [0, 1, 2, 3] rfl)
    · refine r_aload_n (pc := 57) C dX11_bring_57 rfl (lv_at hl 0 rfl) ?_
      refine gf_X11_16 (pc := 58) C t0 dX11_bring_58 ?_
      have t24 := ft_11_4 t0
      refine r_iload (pc := 61) C dX11_bring_61 (lv_at hl 3 rfl) ?_
      refine r_aload_n (pc := 63) C dX11_bring_63 rfl (lv_at hl 0 rfl) ?_
      refine gf_X11_36 (pc := 64) C t0 dX11_bring_64 ?_
      have t25 := ft_11_15 t0
      refine r_bipush (pc := 67) C (12 : Int32) dX11_bring_67 (by decide) ?_
      refine r_iload_n (pc := 69) C dX11_bring_69 rfl (lv_at hl 1 rfl) ?_
      refine r_imul (pc := 70) C dX11_bring_70 ?_
      refine r_iload (pc := 71) C dX11_bring_71 (lv_at hl 3 rfl) ?_
      refine r_iadd (pc := 73) C dX11_bring_73 ?_
      refine r_lald (pc := 74) C t25 dX11_bring_74 ?_
      refine r_last (pc := 75) C t24 dX11_bring_75 (fun S26 => ?_)
      refine r_lload_n (pc := 76) C dX11_bring_76 rfl (lv_at hl 2 rfl) ?_
      refine r_aload_n (pc := 77) C dX11_bring_77 rfl (lv_at hl 0 rfl) ?_
      refine gf_X11_16 (pc := 78) C t0 dX11_bring_78 ?_
      have t27 := ft_11_4 t0
      refine r_iload (pc := 81) C dX11_bring_81 (lv_at hl 3 rfl) ?_
      refine r_lald (pc := 83) C t27 dX11_bring_83 ?_
      refine r_ladd (pc := 84) C dX11_bring_84 ?_
      refine r_topl (fun v28 => ?_)
      refine r_lstore_n (lv2 := [(2, .long v28), (0, .ref (base + k0)), (1, .int v1), (4, .int v4)]) (pc := 85) C dX11_bring_85 rfl hl (Nat.le_of_ble_eq_true rfl) rfl (fun ls hl => ?_)
      refine r_iinc (pc := 86) C (k := 3) (1 : Int32) (fun v29 => [(4, .int v29), (2, .long v28), (0, .ref (base + k0)), (1, .int v1)]) dX11_bring_86 hl rfl (by decide) (Nat.le_of_ble_eq_true rfl) (fun _ => rfl) (fun v29 ls hl => ?_)
      refine r_goto (pc := 89) C (tgt := 48) dX11_bring_89 (by decide) ?_
      exact ih S26 v28 v29 _ (lv_sub hl [2, 3, 1, 0] rfl)

set_option maxHeartbeats 4000000 in
set_option maxRecDepth 100000 in
theorem sm_X11_bring {p : Program} {l : Launch} {e : Env} {s : State} {m : MethodId} {args : Array Value} {below : List Frame} {meth : Method} {c : Code} {D : va_G} {cy : Nat → ClassId} {base tS : Nat} {S : St} {k0 : Nat} {v1 : Int32} {ls : Array Slot} (C : Cx p rm_X11_bring s m args c RX11 cX11_bring 5 D cy base tS 0 0) (hr : meth.sig.returnType = (some .int)) (hk : meth.locks = false) (t0 : cls k0 = 11) (hl : lv_has ls 5 [(0, .ref (base + k0)), (1, .int v1)]) : Sim p l e rm_X11_bring s m args below meth c D cy base 0 0 (fun S1 r => MQ below (QcI D cy base tS S1 r) args s 0 0 (AA base)) (X11_bring S k0 v1) S (F0 m 0 ls []) := by
  unfold X11_bring
  refine r_iload_n (pc := 0) C dX11_bring_0 rfl (lv_at hl 1 rfl) ?_
  refine cv_X11_198 (pc := 1) C  hl.1 ⟨Nat.le_of_ble_eq_true rfl, Nat.le_of_ble_eq_true rfl⟩ (Nat.le_of_ble_eq_true rfl) dX11_bring_1 (fun S21 v22 => ?_)
  refine r_if_ne (pc := 4) C (tgt := 13) dX11_bring_4 (by decide) (fun _ => ?_) (fun _ => ?_)
  · refine r_aload_n (pc := 13) C dX11_bring_13 rfl (lv_at hl 0 rfl) ?_
    refine gf_X11_39 (pc := 14) C t0 dX11_bring_14 ?_
    have t23 := ft_11_16 t0
    refine r_iload_n (pc := 17) C dX11_bring_17 rfl (lv_at hl 1 rfl) ?_
    refine r_zald (pc := 18) C t23 dX11_bring_18 ?_
    refine r_if_ne (pc := 19) C (tgt := 29) dX11_bring_19 (by decide) (fun _ => ?_) (fun _ => ?_)
    · refine r_aload_n (pc := 29) C dX11_bring_29 rfl (lv_at hl 0 rfl) ?_
      refine gf_X11_114 (pc := 30) C t0 dX11_bring_30 ?_
      refine r_if_ne (pc := 33) C (tgt := 43) dX11_bring_33 (by decide) (fun _ => ?_) (fun _ => ?_)
      · refine r_lconst (pc := 43) C (0 : Int64) dX11_bring_43 (by decide) ?_
        refine r_lstore_n (lv2 := [(2, .long (0 : Int64)), (0, .ref (base + k0)), (1, .int v1)]) (pc := 44) C dX11_bring_44 rfl hl (Nat.le_of_ble_eq_true rfl) rfl (fun ls hl => ?_)
        refine r_iconst (pc := 45) C (0 : Int32) dX11_bring_45 (by decide) ?_
        refine r_istore (lv2 := [(4, .int (0 : Int32)), (2, .long (0 : Int64)), (0, .ref (base + k0)), (1, .int v1)]) (pc := 46) C dX11_bring_46 hl (Nat.le_of_ble_eq_true rfl) rfl (fun ls hl => ?_)
        refine lp_X11_bring_48 (ls := ls) C hr hk t0 (fun S30 v31 v32 ls hl => ?_) FU S21 (0 : Int64) (0 : Int32) _ (lv_sub hl [2, 3, 1, 0] rfl)
        refine r_aload_n (pc := 92) C dX11_bring_92 rfl (lv_at hl 0 rfl) ?_
        refine r_iconst (pc := 93) C (0 : Int32) dX11_bring_93 (by decide) ?_
        refine pf_X11_143 (pc := 94) C t0 dX11_bring_94 (fun S33 => ?_)
        refine r_lload_n (pc := 97) C dX11_bring_97 rfl (lv_at hl 2 rfl) ?_
        refine r_l2i (pc := 98) C dX11_bring_98 ?_
        exact r_iret (pc := 99) C hr hk dX11_bring_99
      · refine r_aload_n (pc := 36) C dX11_bring_36 rfl (lv_at hl 0 rfl) ?_
        refine r_bipush (pc := 37) C (-8 : Int32) dX11_bring_37 (by decide) ?_
        refine cv_X11_118 (pc := 39) C t0 hl.1 ⟨Nat.le_of_ble_eq_true rfl, Nat.le_of_ble_eq_true rfl⟩ (Nat.le_of_ble_eq_true rfl) dX11_bring_39 (fun S34 v35 => ?_)
        exact r_iret (pc := 42) C hr hk dX11_bring_42
    · refine r_aload_n (pc := 22) C dX11_bring_22 rfl (lv_at hl 0 rfl) ?_
      refine r_bipush (pc := 23) C (-11 : Int32) dX11_bring_23 (by decide) ?_
      refine cv_X11_118 (pc := 25) C t0 hl.1 ⟨Nat.le_of_ble_eq_true rfl, Nat.le_of_ble_eq_true rfl⟩ (Nat.le_of_ble_eq_true rfl) dX11_bring_25 (fun S36 v37 => ?_)
      exact r_iret (pc := 28) C hr hk dX11_bring_28
  · refine r_aload_n (pc := 7) C dX11_bring_7 rfl (lv_at hl 0 rfl) ?_
    refine r_iconst (pc := 8) C (-1 : Int32) dX11_bring_8 (by decide) ?_
    refine cv_X11_118 (pc := 9) C t0 hl.1 ⟨Nat.le_of_ble_eq_true rfl, Nat.le_of_ble_eq_true rfl⟩ (Nat.le_of_ble_eq_true rfl) dX11_bring_9 (fun S38 v39 => ?_)
    exact r_iret (pc := 12) C hr hk dX11_bring_12

theorem ct_X11_bring (l : Launch) {D : va_G} {cy : Nat → ClassId} {base tS : Nat} {S : St} {k0 : Nat} {v1 : Int32} (t0 : cls k0 = 11) {S1 : St} {r1 : Int32} (h : X11_bring S k0 v1 = some (S1, r1)) : Met l yX11_bring (wsY yX11_bring cX11_bring 5 (some .int)) rm_X11_bring (va_Pc [.ref (base + k0), .int v1] (World D cy base tS S)) (QcI D cy base tS S1 r1) 0 0 (AA base) := conI rfl rfl (by decide) (Nat.le_of_ble_eq_true rfl) (fun p e s m args below meth c ls C hr hk hl => sm_X11_bring C hr hk t0 hl) h
abbrev rm_X11_settles : Room := { frames := 4, cells := 0, slots := 0, locals := 92 }
set_option maxHeartbeats 4000000 in
set_option maxRecDepth 100000 in
theorem lp_X11_settles_3 {p : Program} {l : Launch} {e : Env} {s : State} {m : MethodId} {args : Array Value} {below : List Frame} {meth : Method} {c : Code} {D : va_G} {cy : Nat → ClassId} {base tS : Nat} {ls : Array Slot} (C : Cx p rm_X11_settles s m args c RX11 cX11_settles 5 D cy base tS 0 0) (hr : meth.sig.returnType = (some .boolean)) (hk : meth.locks = false) {k0 : Nat} (t0 : cls k0 = 11) {K : St → Int32 → Option (St × Int32)} (hK : ∀ (S : St) (v1 : Int32) (ls : Array Slot), lv_has ls 5 [(0, .ref (base + k0)), (1, .int v1)] → Sim p l e rm_X11_settles s m args below meth c D cy base 0 0 (fun S1 r => MQ below (QcI D cy base tS S1 r) args s 0 0 (AA base)) (K S v1) S (F0 m 22 ls [])) : ∀ (n : Nat) (S : St) (v1 : Int32) (ls : Array Slot), lv_has ls 5 [(0, .ref (base + k0)), (1, .int v1)] → Sim p l e rm_X11_settles s m args below meth c D cy base 0 0 (fun S1 r => MQ below (QcI D cy base tS S1 r) args s 0 0 (AA base)) (X11_settles_3 k0 K n S v1) S (F0 m 3 ls []) := by
  intro n
  induction n with
  | zero => intro S v1 ls hl; exact Sim.none
  | succ n ih =>
    intro S v1 ls hl
    rw [X11_settles_3]
    refine r_iload_n (pc := 3) C dX11_settles_3 rfl (lv_at hl 1 rfl) ?_
    refine r_bipush (pc := 4) C (15 : Int32) dX11_settles_4 (by decide) ?_
    refine r_icmp_ge (pc := 6) C (tgt := 22) dX11_settles_6 (by decide) (fun _ => ?_) (fun _ => ?_)
    · exact hK S v1 _ (lv_sub hl [0, 1] rfl)
    · refine r_aload_n (pc := 9) C dX11_settles_9 rfl (lv_at hl 0 rfl) ?_
      refine gf_X11_76 (pc := 10) C t0 dX11_settles_10 ?_
      have t21 := ft_11_32 t0
      refine r_iload_n (pc := 13) C dX11_settles_13 rfl (lv_at hl 1 rfl) ?_
      refine r_lconst (pc := 14) C (0 : Int64) dX11_settles_14 (by decide) ?_
      refine r_last (pc := 15) C t21 dX11_settles_15 (fun S22 => ?_)
      refine r_iinc (pc := 16) C (k := 1) (1 : Int32) (fun v23 => [(1, .int v23), (0, .ref (base + k0))]) dX11_settles_16 hl rfl (by decide) (Nat.le_of_ble_eq_true rfl) (fun _ => rfl) (fun v23 ls hl => ?_)
      refine r_goto (pc := 19) C (tgt := 3) dX11_settles_19 (by decide) ?_
      exact ih S22 v23 _ (lv_sub hl [1, 0] rfl)

set_option maxHeartbeats 4000000 in
set_option maxRecDepth 100000 in
theorem lp_X11_settles_24 {p : Program} {l : Launch} {e : Env} {s : State} {m : MethodId} {args : Array Value} {below : List Frame} {meth : Method} {c : Code} {D : va_G} {cy : Nat → ClassId} {base tS : Nat} {ls : Array Slot} (C : Cx p rm_X11_settles s m args c RX11 cX11_settles 5 D cy base tS 0 0) (hr : meth.sig.returnType = (some .boolean)) (hk : meth.locks = false) {k0 : Nat} (t0 : cls k0 = 11) {K : St → Int32 → Option (St × Int32)} (hK : ∀ (S : St) (v1 : Int32) (ls : Array Slot), lv_has ls 5 [(0, .ref (base + k0)), (1, .int v1)] → Sim p l e rm_X11_settles s m args below meth c D cy base 0 0 (fun S1 r => MQ below (QcI D cy base tS S1 r) args s 0 0 (AA base)) (K S v1) S (F0 m 53 ls [])) : ∀ (n : Nat) (S : St) (v1 : Int32) (ls : Array Slot), lv_has ls 5 [(0, .ref (base + k0)), (1, .int v1)] → Sim p l e rm_X11_settles s m args below meth c D cy base 0 0 (fun S1 r => MQ below (QcI D cy base tS S1 r) args s 0 0 (AA base)) (X11_settles_24 k0 K n S v1) S (F0 m 24 ls []) := by
  intro n
  induction n with
  | zero => intro S v1 ls hl; exact Sim.none
  | succ n ih =>
    intro S v1 ls hl
    rw [X11_settles_24]
    refine r_iload_n (pc := 24) C dX11_settles_24 rfl (lv_at hl 1 rfl) ?_
    refine r_aload_n (pc := 25) C dX11_settles_25 rfl (lv_at hl 0 rfl) ?_
    refine gf_X11_95 (pc := 26) C t0 dX11_settles_26 ?_
    refine r_icmp_ge (pc := 29) C (tgt := 53) dX11_settles_29 (by decide) (fun _ => ?_) (fun _ => ?_)
    · exact hK S v1 _ (lv_sub hl [0, 1] rfl)
    · refine r_aload_n (pc := 32) C dX11_settles_32 rfl (lv_at hl 0 rfl) ?_
      refine gf_X11_76 (pc := 33) C t0 dX11_settles_33 ?_
      have t26 := ft_11_32 t0
      refine r_iload_n (pc := 36) C dX11_settles_36 rfl (lv_at hl 1 rfl) ?_
      refine r_lald (pc := 37) C t26 dX11_settles_37 ?_
      refine r_ldc2 (pc := 38) C (1000000 : Int64) wd_64 dX11_settles_38 ?_
      refine r_lcmp_le (pc := 41) C (tgt := 47) dX11_settles_41 dX11_settles_42 (by decide) (fun _ => ?_) (fun _ => ?_)
      · refine r_iinc (pc := 47) C (k := 1) (1 : Int32) (fun v27 => [(1, .int v27), (0, .ref (base + k0))]) dX11_settles_47 hl rfl (by decide) (Nat.le_of_ble_eq_true rfl) (fun _ => rfl) (fun v27 ls hl => ?_)
        refine r_goto (pc := 50) C (tgt := 24) dX11_settles_50 (by decide) ?_
        exact ih S v27 _ (lv_sub hl [1, 0] rfl)
      · refine r_iconst (pc := 45) C (0 : Int32) dX11_settles_45 (by decide) ?_
        exact r_zret (pc := 46) C rfl hr hk dX11_settles_46

set_option maxHeartbeats 4000000 in
set_option maxRecDepth 100000 in
theorem lp_X11_settles_57 {p : Program} {l : Launch} {e : Env} {s : State} {m : MethodId} {args : Array Value} {below : List Frame} {meth : Method} {c : Code} {D : va_G} {cy : Nat → ClassId} {base tS : Nat} {ls : Array Slot} (C : Cx p rm_X11_settles s m args c RX11 cX11_settles 5 D cy base tS 0 0) (hr : meth.sig.returnType = (some .boolean)) (hk : meth.locks = false) {k0 : Nat} (t0 : cls k0 = 11) {K : St → Int32 → Int32 → Option (St × Int32)} (hK : ∀ (S : St) (v1 : Int32) (v2 : Int32) (ls : Array Slot), lv_has ls 5 [(0, .ref (base + k0)), (1, .int v1), (2, .int v2)] → Sim p l e rm_X11_settles s m args below meth c D cy base 0 0 (fun S1 r => MQ below (QcI D cy base tS S1 r) args s 0 0 (AA base)) (K S v1 v2) S (F0 m 127 ls [])) : ∀ (n : Nat) (S : St) (v1 : Int32) (v2 : Int32) (ls : Array Slot), lv_has ls 5 [(0, .ref (base + k0)), (1, .int v1), (2, .int v2)] → Sim p l e rm_X11_settles s m args below meth c D cy base 0 0 (fun S1 r => MQ below (QcI D cy base tS S1 r) args s 0 0 (AA base)) (X11_settles_57 k0 K n S v1 v2) S (F0 m 57 ls []) := by
  intro n
  induction n with
  | zero => intro S v1 v2 ls hl; exact Sim.none
  | succ n ih =>
    intro S v1 v2 ls hl
    rw [X11_settles_57]
    refine r_iload_n (pc := 57) C dX11_settles_57 rfl (lv_at hl 2 rfl) ?_
    refine r_aload_n (pc := 58) C dX11_settles_58 rfl (lv_at hl 0 rfl) ?_
    refine gf_X11_95 (pc := 59) C t0 dX11_settles_59 ?_
    refine r_icmp_ge (pc := 62) C (tgt := 127) dX11_settles_62 (by decide) (fun _ => ?_) (fun _ => ?_)
    · exact hK S v1 v2 _ (lv_sub hl [0, 1, 2] rfl)
    · refine r_aload_n (pc := 65) C dX11_settles_65 rfl (lv_at hl 0 rfl) ?_
      refine gf_X11_76 (pc := 66) C t0 dX11_settles_66 ?_
      have t30 := ft_11_32 t0
      refine r_iload_n (pc := 69) C dX11_settles_69 rfl (lv_at hl 2 rfl) ?_
      refine r_lald (pc := 70) C t30 dX11_settles_70 ?_
      refine r_aload_n (pc := 71) C dX11_settles_71 rfl (lv_at hl 0 rfl) ?_
      refine r_iload_n (pc := 72) C dX11_settles_72 rfl (lv_at hl 2 rfl) ?_
      refine cv_X11_106 (pc := 73) C t0 hl.1 ⟨Nat.le_of_ble_eq_true rfl, Nat.le_of_ble_eq_true rfl⟩ (Nat.le_of_ble_eq_true rfl) dX11_settles_73 (fun S31 v32 => ?_)
      refine cv_X11_110 (pc := 76) C  hl.1 ⟨Nat.le_of_ble_eq_true rfl, Nat.le_of_ble_eq_true rfl⟩ (Nat.le_of_ble_eq_true rfl) dX11_settles_76 (fun S33 v34 => ?_)
      refine r_if_ne (pc := 79) C (tgt := 88) dX11_settles_79 (by decide) (fun _ => ?_) (fun _ => ?_)
      · refine r_iload_n (pc := 88) C dX11_settles_88 rfl (lv_at hl 1 rfl) ?_
        refine r_sipush (pc := 89) C (20000 : Int32) dX11_settles_89 (by decide) ?_
        refine r_join (fun (j : St → Option (St × Int32)) => ∀ (S36 : St)  (ls : Array Slot), lv_has ls 5 [] → Sim p l e rm_X11_settles s m args below meth c D cy base 0 0 (fun S1 r => MQ below (QcI D cy base tS S1 r) args s 0 0 (AA base)) (j S36) S36 (F0 m 107 ls [])) ?_ (fun j35 hj35 => ?_)
        · intro S36 ls hl
          refine r_iconst (pc := 107) C (0 : Int32) dX11_settles_107 (by decide) ?_
          exact r_zret (pc := 108) C rfl hr hk dX11_settles_108
        refine r_icmp_eq (pc := 92) C (tgt := 107) dX11_settles_92 (by decide) (fun _ => ?_) (fun _ => ?_)
        · exact hj35 S33  _ (lv_sub hl [] rfl)
        · refine r_aload_n (pc := 95) C dX11_settles_95 rfl (lv_at hl 0 rfl) ?_
          refine r_aload_n (pc := 96) C dX11_settles_96 rfl (lv_at hl 0 rfl) ?_
          refine gf_X11_76 (pc := 97) C t0 dX11_settles_97 ?_
          have t37 := ft_11_32 t0
          refine r_iload_n (pc := 100) C dX11_settles_100 rfl (lv_at hl 2 rfl) ?_
          refine cv_X11_162 (pc := 101) C t0 t37 hl.1 ⟨Nat.le_of_ble_eq_true rfl, Nat.le_of_ble_eq_true rfl⟩ (Nat.le_of_ble_eq_true rfl) dX11_settles_101 (fun S38 v39 => ?_)
          refine r_if_eq (pc := 104) C (tgt := 109) dX11_settles_104 (by decide) (fun _ => ?_) (fun _ => ?_)
          · refine r_aload_n (pc := 109) C dX11_settles_109 rfl (lv_at hl 0 rfl) ?_
            refine r_aload_n (pc := 110) C dX11_settles_110 rfl (lv_at hl 0 rfl) ?_
            refine gf_X11_76 (pc := 111) C t0 dX11_settles_111 ?_
            have t40 := ft_11_32 t0
            refine r_iload_n (pc := 114) C dX11_settles_114 rfl (lv_at hl 2 rfl) ?_
            refine cv_X11_166 (pc := 115) C t0 t40 hl.1 ⟨Nat.le_of_ble_eq_true rfl, Nat.le_of_ble_eq_true rfl⟩ (Nat.le_of_ble_eq_true rfl) dX11_settles_115 (fun S41 v42 => ?_)
            refine r_lstore_n (lv2 := [(3, .long v42), (0, .ref (base + k0)), (1, .int v1), (2, .int v2)]) (pc := 118) C dX11_settles_118 rfl hl (Nat.le_of_ble_eq_true rfl) rfl (fun ls hl => ?_)
            refine r_iinc (pc := 119) C (k := 2) (1 : Int32) (fun v43 => [(1, .int v43), (3, .long v42), (0, .ref (base + k0)), (2, .int v2)]) dX11_settles_119 hl rfl (by decide) (Nat.le_of_ble_eq_true rfl) (fun _ => rfl) (fun v43 ls hl => ?_)
            refine r_iconst (pc := 122) C (0 : Int32) dX11_settles_122 (by decide) ?_
            refine r_istore_n (lv2 := [(2, .int (0 : Int32)), (1, .int v43), (3, .long v42), (0, .ref (base + k0))]) (pc := 123) C dX11_settles_123 rfl hl (Nat.le_of_ble_eq_true rfl) rfl (fun ls hl => ?_)
            refine r_goto (pc := 124) C (tgt := 57) dX11_settles_124 (by decide) ?_
            exact ih S41 v43 (0 : Int32) _ (lv_sub hl [3, 1, 0] rfl)
          · exact hj35 S38  _ (lv_sub hl [] rfl)
      · refine r_iinc (pc := 82) C (k := 2) (1 : Int32) (fun v44 => [(2, .int v44), (0, .ref (base + k0)), (1, .int v1)]) dX11_settles_82 hl rfl (by decide) (Nat.le_of_ble_eq_true rfl) (fun _ => rfl) (fun v44 ls hl => ?_)
        refine r_goto (pc := 85) C (tgt := 57) dX11_settles_85 (by decide) ?_
        exact ih S33 v1 v44 _ (lv_sub hl [1, 2, 0] rfl)

set_option maxHeartbeats 4000000 in
set_option maxRecDepth 100000 in
theorem sm_X11_settles {p : Program} {l : Launch} {e : Env} {s : State} {m : MethodId} {args : Array Value} {below : List Frame} {meth : Method} {c : Code} {D : va_G} {cy : Nat → ClassId} {base tS : Nat} {S : St} {k0 : Nat} {ls : Array Slot} (C : Cx p rm_X11_settles s m args c RX11 cX11_settles 5 D cy base tS 0 0) (hr : meth.sig.returnType = (some .boolean)) (hk : meth.locks = false) (t0 : cls k0 = 11) (hl : lv_has ls 5 [(0, .ref (base + k0))]) : Sim p l e rm_X11_settles s m args below meth c D cy base 0 0 (fun S1 r => MQ below (QcI D cy base tS S1 r) args s 0 0 (AA base)) (X11_settles S k0) S (F0 m 0 ls []) := by
  unfold X11_settles
  refine r_bipush (pc := 0) C (12 : Int32) dX11_settles_0 (by decide) ?_
  refine r_istore_n (lv2 := [(1, .int (12 : Int32)), (0, .ref (base + k0))]) (pc := 2) C dX11_settles_2 rfl hl (Nat.le_of_ble_eq_true rfl) rfl (fun ls hl => ?_)
  refine lp_X11_settles_3 (ls := ls) C hr hk t0 (fun S24 v25 ls hl => ?_) FU S (12 : Int32) _ (lv_sub hl [1, 0] rfl)
  refine r_iconst (pc := 22) C (0 : Int32) dX11_settles_22 (by decide) ?_
  refine r_istore_n (lv2 := [(1, .int (0 : Int32)), (0, .ref (base + k0))]) (pc := 23) C dX11_settles_23 rfl hl (Nat.le_of_ble_eq_true rfl) rfl (fun ls hl => ?_)
  refine lp_X11_settles_24 (ls := ls) C hr hk t0 (fun S28 v29 ls hl => ?_) FU S24 (0 : Int32) _ (lv_sub hl [1, 0] rfl)
  refine r_iconst (pc := 53) C (0 : Int32) dX11_settles_53 (by decide) ?_
  refine r_istore_n (lv2 := [(1, .int (0 : Int32)), (0, .ref (base + k0))]) (pc := 54) C dX11_settles_54 rfl hl (Nat.le_of_ble_eq_true rfl) rfl (fun ls hl => ?_)
  refine r_iconst (pc := 55) C (0 : Int32) dX11_settles_55 (by decide) ?_
  refine r_istore_n (lv2 := [(2, .int (0 : Int32)), (1, .int (0 : Int32)), (0, .ref (base + k0))]) (pc := 56) C dX11_settles_56 rfl hl (Nat.le_of_ble_eq_true rfl) rfl (fun ls hl => ?_)
  refine lp_X11_settles_57 (ls := ls) C hr hk t0 (fun S45 v46 v47 ls hl => ?_) FU S28 (0 : Int32) (0 : Int32) _ (lv_sub hl [2, 1, 0] rfl)
  refine r_iconst (pc := 127) C (1 : Int32) dX11_settles_127 (by decide) ?_
  exact r_zret (pc := 128) C rfl hr hk dX11_settles_128

theorem ct_X11_settles (l : Launch) {D : va_G} {cy : Nat → ClassId} {base tS : Nat} {S : St} {k0 : Nat} (t0 : cls k0 = 11) {S1 : St} {r1 : Int32} (h : X11_settles S k0 = some (S1, r1)) : Met l yX11_settles (wsY yX11_settles cX11_settles 5 (some .boolean)) rm_X11_settles (va_Pc [.ref (base + k0)] (World D cy base tS S)) (QcI D cy base tS S1 r1) 0 0 (AA base) := conI rfl rfl (by decide) (Nat.le_of_ble_eq_true rfl) (fun p e s m args below meth c ls C hr hk hl => sm_X11_settles C hr hk t0 hl) h
theorem cv_X11_205 {p : Program} {l : Launch} {e : Env} {R : Room} {s : State} {m : MethodId} {args : Array Value} {below : List Frame} {meth : Method} {c : Code} {D : va_G} {cy : Nat → ClassId} {base tS nc ns : Nat} {cc : ByteArray} {nL pc : Nat} {ls : Array Slot} {rest : List Value} {S : St} {ρ : Type} {Q : St → ρ → State → Prop} (C : Cx p R s m args c RX11 cc nL D cy base tS nc ns) {k0 : Nat} (t0 : cls k0 = 11) (hl : ls.size = nL) (hR : rm_X11_settles.frames + 1 ≤ R.frames ∧ 8 + (5 + 11) + rm_X11_settles.locals ≤ R.locals) {b : St → Int32 → Option (St × ρ)} (hroom : (rest.map fun v => v.category).sum ≤ 8) (hd : decode cc pc = .ok (.invokevirtual 205, 3)) (kk : ∀ (S1 : St) (r : Int32), Sim p l e R s m args below meth c D cy base nc ns Q (b S1 r) S1 (F0 m (pc + 3) ls (.int r :: rest))) : Sim p l e R s m args below meth c D cy base nc ns Q (bd (X11_settles S k0) b) S (F0 m pc ls (.ref (base + k0) :: rest)) := r_callVI (n := 0) (As := []) C hl (rd_11 t0) (cls_lt t0 (by decide)) rfl (fun S1 r1 h => ct_X11_settles l t0 h) wd_569 wd_570 wd_571 wd_497 wd_572 rfl rfl (by decide +kernel) hR rfl rfl hroom hd kk
abbrev rm_X11_plus : Room := { frames := 5, cells := 0, slots := 0, locals := 116 }
set_option maxHeartbeats 4000000 in
set_option maxRecDepth 100000 in
theorem lp_X11_plus_69 {p : Program} {l : Launch} {e : Env} {s : State} {m : MethodId} {args : Array Value} {below : List Frame} {meth : Method} {c : Code} {D : va_G} {cy : Nat → ClassId} {base tS : Nat} {ls : Array Slot} (C : Cx p rm_X11_plus s m args c RX11 cX11_plus 5 D cy base tS 0 0) (hr : meth.sig.returnType = (some .int)) (hk : meth.locks = false) {k0 : Nat} {v1 : Int32} {v2 : Int32} {v3 : Int32} (t0 : cls k0 = 11) {K : St → Int32 → Option (St × Int32)} (hK : ∀ (S : St) (v4 : Int32) (ls : Array Slot), lv_has ls 5 [(0, .ref (base + k0)), (1, .int v1), (2, .int v2), (3, .int v3), (4, .int v4)] → Sim p l e rm_X11_plus s m args below meth c D cy base 0 0 (fun S1 r => MQ below (QcI D cy base tS S1 r) args s 0 0 (AA base)) (K S v4) S (F0 m 116 ls [])) : ∀ (n : Nat) (S : St) (v4 : Int32) (ls : Array Slot), lv_has ls 5 [(0, .ref (base + k0)), (1, .int v1), (2, .int v2), (3, .int v3), (4, .int v4)] → Sim p l e rm_X11_plus s m args below meth c D cy base 0 0 (fun S1 r => MQ below (QcI D cy base tS S1 r) args s 0 0 (AA base)) (X11_plus_69 k0 v1 v2 v3 K n S v4) S (F0 m 69 ls []) := by
  intro n
  induction n with
  | zero => intro S v4 ls hl; exact Sim.none
  | succ n ih =>
    intro S v4 ls hl
    rw [X11_plus_69]
    refine r_iload (pc := 69) C dX11_plus_69 (lv_at hl 4 rfl) ?_
    refine r_aload_n (pc := 71) C dX11_plus_71 rfl (lv_at hl 0 rfl) ?_
    refine gf_X11_95 (pc := 72) C t0 dX11_plus_72 ?_
    refine r_icmp_ge (pc := 75) C (tgt := 116) dX11_plus_75 (by decide) (fun _ => ?_) (fun _ => ?_)
    · exact hK S v4 _ (lv_sub hl [0, 1, 2, 3, 4] rfl)
    · refine r_aload_n (pc := 78) C dX11_plus_78 rfl (lv_at hl 0 rfl) ?_
      refine gf_X11_76 (pc := 79) C t0 dX11_plus_79 ?_
      have t37 := ft_11_32 t0
      refine r_iload (pc := 82) C dX11_plus_82 (lv_at hl 4 rfl) ?_
      refine r_aload_n (pc := 84) C dX11_plus_84 rfl (lv_at hl 0 rfl) ?_
      refine gf_X11_36 (pc := 85) C t0 dX11_plus_85 ?_
      have t38 := ft_11_15 t0
      refine r_bipush (pc := 88) C (12 : Int32) dX11_plus_88 (by decide) ?_
      refine r_iload_n (pc := 90) C dX11_plus_90 rfl (lv_at hl 1 rfl) ?_
      refine r_imul (pc := 91) C dX11_plus_91 ?_
      refine r_iload (pc := 92) C dX11_plus_92 (lv_at hl 4 rfl) ?_
      refine r_iadd (pc := 94) C dX11_plus_94 ?_
      refine r_lald (pc := 95) C t38 dX11_plus_95 ?_
      refine r_aload_n (pc := 96) C dX11_plus_96 rfl (lv_at hl 0 rfl) ?_
      refine gf_X11_36 (pc := 97) C t0 dX11_plus_97 ?_
      have t39 := ft_11_15 t0
      refine r_bipush (pc := 100) C (12 : Int32) dX11_plus_100 (by decide) ?_
      refine r_iload_n (pc := 102) C dX11_plus_102 rfl (lv_at hl 2 rfl) ?_
      refine r_imul (pc := 103) C dX11_plus_103 ?_
      refine r_iload (pc := 104) C dX11_plus_104 (lv_at hl 4 rfl) ?_
      refine r_iadd (pc := 106) C dX11_plus_106 ?_
      refine r_lald (pc := 107) C t39 dX11_plus_107 ?_
      refine r_ladd (pc := 108) C dX11_plus_108 ?_
      refine r_last (pc := 109) C t37 dX11_plus_109 (fun S40 => ?_)
      refine r_iinc (pc := 110) C (k := 4) (1 : Int32) (fun v41 => [(4, .int v41), (0, .ref (base + k0)), (1, .int v1), (2, .int v2), (3, .int v3)]) dX11_plus_110 hl rfl (by decide) (Nat.le_of_ble_eq_true rfl) (fun _ => rfl) (fun v41 ls hl => ?_)
      refine r_goto (pc := 113) C (tgt := 69) dX11_plus_113 (by decide) ?_
      exact ih S40 v41 _ (lv_sub hl [1, 2, 3, 4, 0] rfl)

set_option maxHeartbeats 4000000 in
set_option maxRecDepth 100000 in
theorem sm_X11_plus {p : Program} {l : Launch} {e : Env} {s : State} {m : MethodId} {args : Array Value} {below : List Frame} {meth : Method} {c : Code} {D : va_G} {cy : Nat → ClassId} {base tS : Nat} {S : St} {k0 : Nat} {v1 : Int32} {v2 : Int32} {v3 : Int32} {ls : Array Slot} (C : Cx p rm_X11_plus s m args c RX11 cX11_plus 5 D cy base tS 0 0) (hr : meth.sig.returnType = (some .int)) (hk : meth.locks = false) (t0 : cls k0 = 11) (hl : lv_has ls 5 [(0, .ref (base + k0)), (1, .int v1), (2, .int v2), (3, .int v3)]) : Sim p l e rm_X11_plus s m args below meth c D cy base 0 0 (fun S1 r => MQ below (QcI D cy base tS S1 r) args s 0 0 (AA base)) (X11_plus S k0 v1 v2 v3) S (F0 m 0 ls []) := by
  unfold X11_plus
  refine r_iload_n (pc := 0) C dX11_plus_0 rfl (lv_at hl 1 rfl) ?_
  refine cv_X11_198 (pc := 1) C  hl.1 ⟨Nat.le_of_ble_eq_true rfl, Nat.le_of_ble_eq_true rfl⟩ (Nat.le_of_ble_eq_true rfl) dX11_plus_1 (fun S21 v22 => ?_)
  refine r_join (fun (j : St → Option (St × Int32)) => ∀ (S24 : St)  (ls : Array Slot), lv_has ls 5 [(0, .ref (base + k0))] → Sim p l e rm_X11_plus s m args below meth c D cy base 0 0 (fun S1 r => MQ below (QcI D cy base tS S1 r) args s 0 0 (AA base)) (j S24) S24 (F0 m 21 ls [])) ?_ (fun j23 hj23 => ?_)
  · intro S24 ls hl
    refine r_aload_n (pc := 21) C dX11_plus_21 rfl (lv_at hl 0 rfl) ?_
    refine r_iconst (pc := 22) C (-1 : Int32) dX11_plus_22 (by decide) ?_
    refine cv_X11_118 (pc := 23) C t0 hl.1 ⟨Nat.le_of_ble_eq_true rfl, Nat.le_of_ble_eq_true rfl⟩ (Nat.le_of_ble_eq_true rfl) dX11_plus_23 (fun S25 v26 => ?_)
    exact r_iret (pc := 26) C hr hk dX11_plus_26
  refine r_if_eq (pc := 4) C (tgt := 21) dX11_plus_4 (by decide) (fun _ => ?_) (fun _ => ?_)
  · exact hj23 S21  _ (lv_sub hl [0] rfl)
  · refine r_iload_n (pc := 7) C dX11_plus_7 rfl (lv_at hl 2 rfl) ?_
    refine cv_X11_198 (pc := 8) C  hl.1 ⟨Nat.le_of_ble_eq_true rfl, Nat.le_of_ble_eq_true rfl⟩ (Nat.le_of_ble_eq_true rfl) dX11_plus_8 (fun S27 v28 => ?_)
    refine r_if_eq (pc := 11) C (tgt := 21) dX11_plus_11 (by decide) (fun _ => ?_) (fun _ => ?_)
    · exact hj23 S27  _ (lv_sub hl [0] rfl)
    · refine r_iload_n (pc := 14) C dX11_plus_14 rfl (lv_at hl 3 rfl) ?_
      refine cv_X11_198 (pc := 15) C  hl.1 ⟨Nat.le_of_ble_eq_true rfl, Nat.le_of_ble_eq_true rfl⟩ (Nat.le_of_ble_eq_true rfl) dX11_plus_15 (fun S29 v30 => ?_)
      refine r_if_ne (pc := 18) C (tgt := 27) dX11_plus_18 (by decide) (fun _ => ?_) (fun _ => ?_)
      · refine r_aload_n (pc := 27) C dX11_plus_27 rfl (lv_at hl 0 rfl) ?_
        refine gf_X11_39 (pc := 28) C t0 dX11_plus_28 ?_
        have t31 := ft_11_16 t0
        refine r_iload_n (pc := 31) C dX11_plus_31 rfl (lv_at hl 1 rfl) ?_
        refine r_zald (pc := 32) C t31 dX11_plus_32 ?_
        refine r_join (fun (j : St → Option (St × Int32)) => ∀ (S33 : St)  (ls : Array Slot), lv_has ls 5 [(0, .ref (base + k0))] → Sim p l e rm_X11_plus s m args below meth c D cy base 0 0 (fun S1 r => MQ below (QcI D cy base tS S1 r) args s 0 0 (AA base)) (j S33) S33 (F0 m 45 ls [])) ?_ (fun j32 hj32 => ?_)
        · intro S33 ls hl
          refine r_aload_n (pc := 45) C dX11_plus_45 rfl (lv_at hl 0 rfl) ?_
          refine r_bipush (pc := 46) C (-11 : Int32) dX11_plus_46 (by decide) ?_
          refine cv_X11_118 (pc := 48) C t0 hl.1 ⟨Nat.le_of_ble_eq_true rfl, Nat.le_of_ble_eq_true rfl⟩ (Nat.le_of_ble_eq_true rfl) dX11_plus_48 (fun S34 v35 => ?_)
          exact r_iret (pc := 51) C hr hk dX11_plus_51
        refine r_if_eq (pc := 33) C (tgt := 45) dX11_plus_33 (by decide) (fun _ => ?_) (fun _ => ?_)
        · exact hj32 S29  _ (lv_sub hl [0] rfl)
        · refine r_aload_n (pc := 36) C dX11_plus_36 rfl (lv_at hl 0 rfl) ?_
          refine gf_X11_39 (pc := 37) C t0 dX11_plus_37 ?_
          have t36 := ft_11_16 t0
          refine r_iload_n (pc := 40) C dX11_plus_40 rfl (lv_at hl 2 rfl) ?_
          refine r_zald (pc := 41) C t36 dX11_plus_41 ?_
          refine r_if_ne (pc := 42) C (tgt := 52) dX11_plus_42 (by decide) (fun _ => ?_) (fun _ => ?_)
          · refine r_aload_n (pc := 52) C dX11_plus_52 rfl (lv_at hl 0 rfl) ?_
            refine gf_X11_114 (pc := 53) C t0 dX11_plus_53 ?_
            refine r_if_ne (pc := 56) C (tgt := 66) dX11_plus_56 (by decide) (fun _ => ?_) (fun _ => ?_)
            · refine r_iconst (pc := 66) C (0 : Int32) dX11_plus_66 (by decide) ?_
              refine r_istore (lv2 := [(4, .int (0 : Int32)), (0, .ref (base + k0)), (1, .int v1), (2, .int v2), (3, .int v3)]) (pc := 67) C dX11_plus_67 hl (Nat.le_of_ble_eq_true rfl) rfl (fun ls hl => ?_)
              refine lp_X11_plus_69 (ls := ls) C hr hk t0 (fun S42 v43 ls hl => ?_) FU S29 (0 : Int32) _ (lv_sub hl [1, 2, 3, 4, 0] rfl)
              refine r_aload_n (pc := 116) C dX11_plus_116 rfl (lv_at hl 0 rfl) ?_
              refine cv_X11_205 (pc := 117) C t0 hl.1 ⟨Nat.le_of_ble_eq_true rfl, Nat.le_of_ble_eq_true rfl⟩ (Nat.le_of_ble_eq_true rfl) dX11_plus_117 (fun S44 v45 => ?_)
              refine r_if_eq (pc := 120) C (tgt := 135) dX11_plus_120 (by decide) (fun _ => ?_) (fun _ => ?_)
              · refine r_aload_n (pc := 135) C dX11_plus_135 rfl (lv_at hl 0 rfl) ?_
                refine r_bipush (pc := 136) C (-5 : Int32) dX11_plus_136 (by decide) ?_
                refine cv_X11_118 (pc := 138) C t0 hl.1 ⟨Nat.le_of_ble_eq_true rfl, Nat.le_of_ble_eq_true rfl⟩ (Nat.le_of_ble_eq_true rfl) dX11_plus_138 (fun S46 v47 => ?_)
                exact r_iret (pc := 141) C hr hk dX11_plus_141
              · refine r_aload_n (pc := 123) C dX11_plus_123 rfl (lv_at hl 0 rfl) ?_
                refine r_iload_n (pc := 124) C dX11_plus_124 rfl (lv_at hl 3 rfl) ?_
                refine r_aload_n (pc := 125) C dX11_plus_125 rfl (lv_at hl 0 rfl) ?_
                refine gf_X11_76 (pc := 126) C t0 dX11_plus_126 ?_
                have t48 := ft_11_32 t0
                refine cv_X11_201 (pc := 129) C t0 t48 hl.1 ⟨Nat.le_of_ble_eq_true rfl, Nat.le_of_ble_eq_true rfl⟩ (Nat.le_of_ble_eq_true rfl) dX11_plus_129 (fun S49 v50 => ?_)
                refine r_goto (pc := 132) C (tgt := 141) dX11_plus_132 (by decide) ?_
                exact r_iret (pc := 141) C hr hk dX11_plus_141
            · refine r_aload_n (pc := 59) C dX11_plus_59 rfl (lv_at hl 0 rfl) ?_
              refine r_bipush (pc := 60) C (-8 : Int32) dX11_plus_60 (by decide) ?_
              refine cv_X11_118 (pc := 62) C t0 hl.1 ⟨Nat.le_of_ble_eq_true rfl, Nat.le_of_ble_eq_true rfl⟩ (Nat.le_of_ble_eq_true rfl) dX11_plus_62 (fun S51 v52 => ?_)
              exact r_iret (pc := 65) C hr hk dX11_plus_65
          · exact hj32 S29  _ (lv_sub hl [0] rfl)
      · exact hj23 S29  _ (lv_sub hl [0] rfl)

theorem ct_X11_plus (l : Launch) {D : va_G} {cy : Nat → ClassId} {base tS : Nat} {S : St} {k0 : Nat} {v1 : Int32} {v2 : Int32} {v3 : Int32} (t0 : cls k0 = 11) {S1 : St} {r1 : Int32} (h : X11_plus S k0 v1 v2 v3 = some (S1, r1)) : Met l yX11_plus (wsY yX11_plus cX11_plus 5 (some .int)) rm_X11_plus (va_Pc [.ref (base + k0), .int v1, .int v2, .int v3] (World D cy base tS S)) (QcI D cy base tS S1 r1) 0 0 (AA base) := conI rfl rfl (by decide) (Nat.le_of_ble_eq_true rfl) (fun p e s m args below meth c ls C hr hk hl => sm_X11_plus C hr hk t0 hl) h
abbrev rm_X11_greatest : Room := { frames := 2, cells := 0, slots := 0, locals := 45 }
set_option maxHeartbeats 4000000 in
set_option maxRecDepth 100000 in
theorem lp_X11_greatest_2 {p : Program} {l : Launch} {e : Env} {s : State} {m : MethodId} {args : Array Value} {below : List Frame} {meth : Method} {c : Code} {D : va_G} {cy : Nat → ClassId} {base tS : Nat} {ls : Array Slot} (C : Cx p rm_X11_greatest s m args c RX11 cX11_greatest 2 D cy base tS 0 0) (hr : meth.sig.returnType = none) (hk : meth.locks = false) {k0 : Nat} (t0 : cls k0 = 11) {K : St → Int32 → Option (St × Unit)} (hK : ∀ (S : St) (v1 : Int32) (ls : Array Slot), lv_has ls 2 [(0, .ref (base + k0)), (1, .int v1)] → Sim p l e rm_X11_greatest s m args below meth c D cy base 0 0 (fun S1 r => MQ below (QcV D cy base tS S1 r) args s 0 0 (AA base)) (K S v1) S (F0 m 34 ls [])) : ∀ (n : Nat) (S : St) (v1 : Int32) (ls : Array Slot), lv_has ls 2 [(0, .ref (base + k0)), (1, .int v1)] → Sim p l e rm_X11_greatest s m args below meth c D cy base 0 0 (fun S1 r => MQ below (QcV D cy base tS S1 r) args s 0 0 (AA base)) (X11_greatest_2 k0 K n S v1) S (F0 m 2 ls []) := by
  intro n
  induction n with
  | zero => intro S v1 ls hl; exact Sim.none
  | succ n ih =>
    intro S v1 ls hl
    rw [X11_greatest_2]
    refine r_iload_n (pc := 2) C dX11_greatest_2 rfl (lv_at hl 1 rfl) ?_
    refine r_aload_n (pc := 3) C dX11_greatest_3 rfl (lv_at hl 0 rfl) ?_
    refine gf_X11_95 (pc := 4) C t0 dX11_greatest_4 ?_
    refine r_icmp_ge (pc := 7) C (tgt := 34) dX11_greatest_7 (by decide) (fun _ => ?_) (fun _ => ?_)
    · exact hK S v1 _ (lv_sub hl [0, 1] rfl)
    · refine r_aload_n (pc := 10) C dX11_greatest_10 rfl (lv_at hl 0 rfl) ?_
      refine gf_X11_76 (pc := 11) C t0 dX11_greatest_11 ?_
      have t21 := ft_11_32 t0
      refine r_iload_n (pc := 14) C dX11_greatest_14 rfl (lv_at hl 1 rfl) ?_
      refine r_ldc2 (pc := 15) C (2 : Int64) wd_76 dX11_greatest_15 ?_
      refine r_aload_n (pc := 18) C dX11_greatest_18 rfl (lv_at hl 0 rfl) ?_
      refine r_iload_n (pc := 19) C dX11_greatest_19 rfl (lv_at hl 1 rfl) ?_
      refine cv_X11_106 (pc := 20) C t0 hl.1 ⟨Nat.le_of_ble_eq_true rfl, Nat.le_of_ble_eq_true rfl⟩ (Nat.le_of_ble_eq_true rfl) dX11_greatest_20 (fun S22 v23 => ?_)
      refine r_iconst (pc := 23) C (1 : Int32) dX11_greatest_23 (by decide) ?_
      refine r_isub (pc := 24) C dX11_greatest_24 ?_
      refine r_i2l (pc := 25) C dX11_greatest_25 ?_
      refine r_lmul (pc := 26) C dX11_greatest_26 ?_
      refine r_last (pc := 27) C t21 dX11_greatest_27 (fun S24 => ?_)
      refine r_iinc (pc := 28) C (k := 1) (1 : Int32) (fun v25 => [(1, .int v25), (0, .ref (base + k0))]) dX11_greatest_28 hl rfl (by decide) (Nat.le_of_ble_eq_true rfl) (fun _ => rfl) (fun v25 ls hl => ?_)
      refine r_goto (pc := 31) C (tgt := 2) dX11_greatest_31 (by decide) ?_
      exact ih S24 v25 _ (lv_sub hl [1, 0] rfl)

set_option maxHeartbeats 4000000 in
set_option maxRecDepth 100000 in
theorem sm_X11_greatest {p : Program} {l : Launch} {e : Env} {s : State} {m : MethodId} {args : Array Value} {below : List Frame} {meth : Method} {c : Code} {D : va_G} {cy : Nat → ClassId} {base tS : Nat} {S : St} {k0 : Nat} {ls : Array Slot} (C : Cx p rm_X11_greatest s m args c RX11 cX11_greatest 2 D cy base tS 0 0) (hr : meth.sig.returnType = none) (hk : meth.locks = false) (t0 : cls k0 = 11) (hl : lv_has ls 2 [(0, .ref (base + k0))]) : Sim p l e rm_X11_greatest s m args below meth c D cy base 0 0 (fun S1 r => MQ below (QcV D cy base tS S1 r) args s 0 0 (AA base)) (X11_greatest S k0) S (F0 m 0 ls []) := by
  unfold X11_greatest
  refine r_iconst (pc := 0) C (0 : Int32) dX11_greatest_0 (by decide) ?_
  refine r_istore_n (lv2 := [(1, .int (0 : Int32)), (0, .ref (base + k0))]) (pc := 1) C dX11_greatest_1 rfl hl (Nat.le_of_ble_eq_true rfl) rfl (fun ls hl => ?_)
  refine lp_X11_greatest_2 (ls := ls) C hr hk t0 (fun S26 v27 ls hl => ?_) FU S (0 : Int32) _ (lv_sub hl [1, 0] rfl)
  exact r_vret (pc := 34) C hr hk dX11_greatest_34

theorem ct_X11_greatest (l : Launch) {D : va_G} {cy : Nat → ClassId} {base tS : Nat} {S : St} {k0 : Nat} (t0 : cls k0 = 11) {S1 : St} {r1 : Unit} (h : X11_greatest S k0 = some (S1, r1)) : Met l yX11_greatest (wsY yX11_greatest cX11_greatest 2 none) rm_X11_greatest (va_Pc [.ref (base + k0)] (World D cy base tS S)) (QcV D cy base tS S1 r1) 0 0 (AA base) := conV rfl rfl (by decide) (Nat.le_of_ble_eq_true rfl) (fun p e s m args below meth c ls C hr hk hl => sm_X11_greatest C hr hk t0 hl) h
theorem cv_X11_210 {p : Program} {l : Launch} {e : Env} {R : Room} {s : State} {m : MethodId} {args : Array Value} {below : List Frame} {meth : Method} {c : Code} {D : va_G} {cy : Nat → ClassId} {base tS nc ns : Nat} {cc : ByteArray} {nL pc : Nat} {ls : Array Slot} {rest : List Value} {S : St} {ρ : Type} {Q : St → ρ → State → Prop} (C : Cx p R s m args c RX11 cc nL D cy base tS nc ns) {k0 : Nat} (t0 : cls k0 = 11) (hl : ls.size = nL) (hR : rm_X11_greatest.frames + 1 ≤ R.frames ∧ 8 + (2 + 11) + rm_X11_greatest.locals ≤ R.locals) {b : St → Unit → Option (St × ρ)} (hroom : (rest.map fun v => v.category).sum ≤ 8) (hd : decode cc pc = .ok (.invokevirtual 210, 3)) (kk : ∀ (S1 : St) (r : Unit), Sim p l e R s m args below meth c D cy base nc ns Q (b S1 r) S1 (F0 m (pc + 3) ls (rest))) : Sim p l e R s m args below meth c D cy base nc ns Q (bd (X11_greatest S k0) b) S (F0 m pc ls (.ref (base + k0) :: rest)) := r_callVV (n := 0) (As := []) C hl (rd_11 t0) (cls_lt t0 (by decide)) rfl (fun S1 r1 h => ct_X11_greatest l t0 h) wd_573 wd_574 wd_575 wd_497 wd_576 rfl rfl (by decide +kernel) hR rfl rfl hroom hd kk
abbrev rm_X11_nought : Room := { frames := 5, cells := 0, slots := 0, locals := 116 }
set_option maxHeartbeats 4000000 in
set_option maxRecDepth 100000 in
theorem lp_X11_nought_61 {p : Program} {l : Launch} {e : Env} {s : State} {m : MethodId} {args : Array Value} {below : List Frame} {meth : Method} {c : Code} {D : va_G} {cy : Nat → ClassId} {base tS : Nat} {ls : Array Slot} (C : Cx p rm_X11_nought s m args c RX11 cX11_nought 3 D cy base tS 0 0) (hr : meth.sig.returnType = (some .int)) (hk : meth.locks = false) {k0 : Nat} {v1 : Int32} (t0 : cls k0 = 11) {K : St → Int32 → Option (St × Int32)} (hK : ∀ (S : St) (v2 : Int32) (ls : Array Slot), lv_has ls 3 [(0, .ref (base + k0)), (1, .int v1), (2, .int v2)] → Sim p l e rm_X11_nought s m args below meth c D cy base 0 0 (fun S1 r => MQ below (QcI D cy base tS S1 r) args s 0 0 (AA base)) (K S v2) S (F0 m 100 ls [])) : ∀ (n : Nat) (S : St) (v2 : Int32) (ls : Array Slot), lv_has ls 3 [(0, .ref (base + k0)), (1, .int v1), (2, .int v2)] → Sim p l e rm_X11_nought s m args below meth c D cy base 0 0 (fun S1 r => MQ below (QcI D cy base tS S1 r) args s 0 0 (AA base)) (X11_nought_61 k0 v1 K n S v2) S (F0 m 61 ls []) := by
  intro n
  induction n with
  | zero => intro S v2 ls hl; exact Sim.none
  | succ n ih =>
    intro S v2 ls hl
    rw [X11_nought_61]
    refine r_iload_n (pc := 61) C dX11_nought_61 rfl (lv_at hl 2 rfl) ?_
    refine r_aload_n (pc := 62) C dX11_nought_62 rfl (lv_at hl 0 rfl) ?_
    refine gf_X11_95 (pc := 63) C t0 dX11_nought_63 ?_
    refine r_icmp_ge (pc := 66) C (tgt := 100) dX11_nought_66 (by decide) (fun _ => ?_) (fun _ => ?_)
    · exact hK S v2 _ (lv_sub hl [0, 1, 2] rfl)
    · refine r_aload_n (pc := 69) C dX11_nought_69 rfl (lv_at hl 0 rfl) ?_
      refine gf_X11_76 (pc := 70) C t0 dX11_nought_70 ?_
      have t28 := ft_11_32 t0
      refine r_iload_n (pc := 73) C dX11_nought_73 rfl (lv_at hl 2 rfl) ?_
      refine r_ldc2 (pc := 74) C (2 : Int64) wd_76 dX11_nought_74 ?_
      refine r_aload_n (pc := 77) C dX11_nought_77 rfl (lv_at hl 0 rfl) ?_
      refine r_iload_n (pc := 78) C dX11_nought_78 rfl (lv_at hl 2 rfl) ?_
      refine cv_X11_106 (pc := 79) C t0 hl.1 ⟨Nat.le_of_ble_eq_true rfl, Nat.le_of_ble_eq_true rfl⟩ (Nat.le_of_ble_eq_true rfl) dX11_nought_79 (fun S29 v30 => ?_)
      refine r_iconst (pc := 82) C (1 : Int32) dX11_nought_82 (by decide) ?_
      refine r_isub (pc := 83) C dX11_nought_83 ?_
      refine r_i2l (pc := 84) C dX11_nought_84 ?_
      refine r_lmul (pc := 85) C dX11_nought_85 ?_
      refine r_aload_n (pc := 86) C dX11_nought_86 rfl (lv_at hl 0 rfl) ?_
      refine gf_X11_76 (pc := 87) C t0 dX11_nought_87 ?_
      have t31 := ft_11_32 t0
      refine r_iload_n (pc := 90) C dX11_nought_90 rfl (lv_at hl 2 rfl) ?_
      refine r_lald (pc := 91) C t31 dX11_nought_91 ?_
      refine r_lsub (pc := 92) C dX11_nought_92 ?_
      refine r_last (pc := 93) C t28 dX11_nought_93 (fun S32 => ?_)
      refine r_iinc (pc := 94) C (k := 2) (1 : Int32) (fun v33 => [(2, .int v33), (0, .ref (base + k0)), (1, .int v1)]) dX11_nought_94 hl rfl (by decide) (Nat.le_of_ble_eq_true rfl) (fun _ => rfl) (fun v33 ls hl => ?_)
      refine r_goto (pc := 97) C (tgt := 61) dX11_nought_97 (by decide) ?_
      exact ih S32 v33 _ (lv_sub hl [1, 2, 0] rfl)

set_option maxHeartbeats 4000000 in
set_option maxRecDepth 100000 in
theorem sm_X11_nought {p : Program} {l : Launch} {e : Env} {s : State} {m : MethodId} {args : Array Value} {below : List Frame} {meth : Method} {c : Code} {D : va_G} {cy : Nat → ClassId} {base tS : Nat} {S : St} {k0 : Nat} {v1 : Int32} {ls : Array Slot} (C : Cx p rm_X11_nought s m args c RX11 cX11_nought 3 D cy base tS 0 0) (hr : meth.sig.returnType = (some .int)) (hk : meth.locks = false) (t0 : cls k0 = 11) (hl : lv_has ls 3 [(0, .ref (base + k0)), (1, .int v1)]) : Sim p l e rm_X11_nought s m args below meth c D cy base 0 0 (fun S1 r => MQ below (QcI D cy base tS S1 r) args s 0 0 (AA base)) (X11_nought S k0 v1) S (F0 m 0 ls []) := by
  unfold X11_nought
  refine r_iload_n (pc := 0) C dX11_nought_0 rfl (lv_at hl 1 rfl) ?_
  refine cv_X11_198 (pc := 1) C  hl.1 ⟨Nat.le_of_ble_eq_true rfl, Nat.le_of_ble_eq_true rfl⟩ (Nat.le_of_ble_eq_true rfl) dX11_nought_1 (fun S21 v22 => ?_)
  refine r_if_ne (pc := 4) C (tgt := 13) dX11_nought_4 (by decide) (fun _ => ?_) (fun _ => ?_)
  · refine r_aload_n (pc := 13) C dX11_nought_13 rfl (lv_at hl 0 rfl) ?_
    refine gf_X11_114 (pc := 14) C t0 dX11_nought_14 ?_
    refine r_if_ne (pc := 17) C (tgt := 27) dX11_nought_17 (by decide) (fun _ => ?_) (fun _ => ?_)
    · refine r_aload_n (pc := 27) C dX11_nought_27 rfl (lv_at hl 0 rfl) ?_
      refine cv_X11_190 (pc := 28) C t0 hl.1 ⟨Nat.le_of_ble_eq_true rfl, Nat.le_of_ble_eq_true rfl⟩ (Nat.le_of_ble_eq_true rfl) dX11_nought_28 (fun S23 v24 => ?_)
      refine r_if_ne (pc := 31) C (tgt := 41) dX11_nought_31 (by decide) (fun _ => ?_) (fun _ => ?_)
      · refine r_aload_n (pc := 41) C dX11_nought_41 rfl (lv_at hl 0 rfl) ?_
        refine cv_X11_210 (pc := 42) C t0 hl.1 ⟨Nat.le_of_ble_eq_true rfl, Nat.le_of_ble_eq_true rfl⟩ (Nat.le_of_ble_eq_true rfl) dX11_nought_42 (fun S25 _ => ?_)
        refine r_aload_n (pc := 45) C dX11_nought_45 rfl (lv_at hl 0 rfl) ?_
        refine cv_X11_205 (pc := 46) C t0 hl.1 ⟨Nat.le_of_ble_eq_true rfl, Nat.le_of_ble_eq_true rfl⟩ (Nat.le_of_ble_eq_true rfl) dX11_nought_46 (fun S26 v27 => ?_)
        refine r_if_ne (pc := 49) C (tgt := 59) dX11_nought_49 (by decide) (fun _ => ?_) (fun _ => ?_)
        · refine r_iconst (pc := 59) C (0 : Int32) dX11_nought_59 (by decide) ?_
          refine r_istore_n (lv2 := [(2, .int (0 : Int32)), (0, .ref (base + k0)), (1, .int v1)]) (pc := 60) C dX11_nought_60 rfl hl (Nat.le_of_ble_eq_true rfl) rfl (fun ls hl => ?_)
          refine lp_X11_nought_61 (ls := ls) C hr hk t0 (fun S34 v35 ls hl => ?_) FU S26 (0 : Int32) _ (lv_sub hl [1, 2, 0] rfl)
          refine r_aload_n (pc := 100) C dX11_nought_100 rfl (lv_at hl 0 rfl) ?_
          refine cv_X11_205 (pc := 101) C t0 hl.1 ⟨Nat.le_of_ble_eq_true rfl, Nat.le_of_ble_eq_true rfl⟩ (Nat.le_of_ble_eq_true rfl) dX11_nought_101 (fun S36 v37 => ?_)
          refine r_if_eq (pc := 104) C (tgt := 119) dX11_nought_104 (by decide) (fun _ => ?_) (fun _ => ?_)
          · refine r_aload_n (pc := 119) C dX11_nought_119 rfl (lv_at hl 0 rfl) ?_
            refine r_bipush (pc := 120) C (-5 : Int32) dX11_nought_120 (by decide) ?_
            refine cv_X11_118 (pc := 122) C t0 hl.1 ⟨Nat.le_of_ble_eq_true rfl, Nat.le_of_ble_eq_true rfl⟩ (Nat.le_of_ble_eq_true rfl) dX11_nought_122 (fun S38 v39 => ?_)
            exact r_iret (pc := 125) C hr hk dX11_nought_125
          · refine r_aload_n (pc := 107) C dX11_nought_107 rfl (lv_at hl 0 rfl) ?_
            refine r_iload_n (pc := 108) C dX11_nought_108 rfl (lv_at hl 1 rfl) ?_
            refine r_aload_n (pc := 109) C dX11_nought_109 rfl (lv_at hl 0 rfl) ?_
            refine gf_X11_76 (pc := 110) C t0 dX11_nought_110 ?_
            have t40 := ft_11_32 t0
            refine cv_X11_201 (pc := 113) C t0 t40 hl.1 ⟨Nat.le_of_ble_eq_true rfl, Nat.le_of_ble_eq_true rfl⟩ (Nat.le_of_ble_eq_true rfl) dX11_nought_113 (fun S41 v42 => ?_)
            refine r_goto (pc := 116) C (tgt := 125) dX11_nought_116 (by decide) ?_
            exact r_iret (pc := 125) C hr hk dX11_nought_125
        · refine r_aload_n (pc := 52) C dX11_nought_52 rfl (lv_at hl 0 rfl) ?_
          refine r_bipush (pc := 53) C (-5 : Int32) dX11_nought_53 (by decide) ?_
          refine cv_X11_118 (pc := 55) C t0 hl.1 ⟨Nat.le_of_ble_eq_true rfl, Nat.le_of_ble_eq_true rfl⟩ (Nat.le_of_ble_eq_true rfl) dX11_nought_55 (fun S43 v44 => ?_)
          exact r_iret (pc := 58) C hr hk dX11_nought_58
      · refine r_aload_n (pc := 34) C dX11_nought_34 rfl (lv_at hl 0 rfl) ?_
        refine r_bipush (pc := 35) C (-12 : Int32) dX11_nought_35 (by decide) ?_
        refine cv_X11_118 (pc := 37) C t0 hl.1 ⟨Nat.le_of_ble_eq_true rfl, Nat.le_of_ble_eq_true rfl⟩ (Nat.le_of_ble_eq_true rfl) dX11_nought_37 (fun S45 v46 => ?_)
        exact r_iret (pc := 40) C hr hk dX11_nought_40
    · refine r_aload_n (pc := 20) C dX11_nought_20 rfl (lv_at hl 0 rfl) ?_
      refine r_bipush (pc := 21) C (-8 : Int32) dX11_nought_21 (by decide) ?_
      refine cv_X11_118 (pc := 23) C t0 hl.1 ⟨Nat.le_of_ble_eq_true rfl, Nat.le_of_ble_eq_true rfl⟩ (Nat.le_of_ble_eq_true rfl) dX11_nought_23 (fun S47 v48 => ?_)
      exact r_iret (pc := 26) C hr hk dX11_nought_26
  · refine r_aload_n (pc := 7) C dX11_nought_7 rfl (lv_at hl 0 rfl) ?_
    refine r_iconst (pc := 8) C (-1 : Int32) dX11_nought_8 (by decide) ?_
    refine cv_X11_118 (pc := 9) C t0 hl.1 ⟨Nat.le_of_ble_eq_true rfl, Nat.le_of_ble_eq_true rfl⟩ (Nat.le_of_ble_eq_true rfl) dX11_nought_9 (fun S49 v50 => ?_)
    exact r_iret (pc := 12) C hr hk dX11_nought_12

theorem ct_X11_nought (l : Launch) {D : va_G} {cy : Nat → ClassId} {base tS : Nat} {S : St} {k0 : Nat} {v1 : Int32} (t0 : cls k0 = 11) {S1 : St} {r1 : Int32} (h : X11_nought S k0 v1 = some (S1, r1)) : Met l yX11_nought (wsY yX11_nought cX11_nought 3 (some .int)) rm_X11_nought (va_Pc [.ref (base + k0), .int v1] (World D cy base tS S)) (QcI D cy base tS S1 r1) 0 0 (AA base) := conI rfl rfl (by decide) (Nat.le_of_ble_eq_true rfl) (fun p e s m args below meth c ls C hr hk hl => sm_X11_nought C hr hk t0 hl) h
abbrev rm_X11_contrary : Room := { frames := 5, cells := 0, slots := 0, locals := 116 }
set_option maxHeartbeats 4000000 in
set_option maxRecDepth 100000 in
theorem lp_X11_contrary_84 {p : Program} {l : Launch} {e : Env} {s : State} {m : MethodId} {args : Array Value} {below : List Frame} {meth : Method} {c : Code} {D : va_G} {cy : Nat → ClassId} {base tS : Nat} {ls : Array Slot} (C : Cx p rm_X11_contrary s m args c RX11 cX11_contrary 4 D cy base tS 0 0) (hr : meth.sig.returnType = (some .int)) (hk : meth.locks = false) {k0 : Nat} {v1 : Int32} {v2 : Int32} (t0 : cls k0 = 11) {K : St → Int32 → Option (St × Int32)} (hK : ∀ (S : St) (v3 : Int32) (ls : Array Slot), lv_has ls 4 [(0, .ref (base + k0)), (1, .int v1), (2, .int v2), (3, .int v3)] → Sim p l e rm_X11_contrary s m args below meth c D cy base 0 0 (fun S1 r => MQ below (QcI D cy base tS S1 r) args s 0 0 (AA base)) (K S v3) S (F0 m 123 ls [])) : ∀ (n : Nat) (S : St) (v3 : Int32) (ls : Array Slot), lv_has ls 4 [(0, .ref (base + k0)), (1, .int v1), (2, .int v2), (3, .int v3)] → Sim p l e rm_X11_contrary s m args below meth c D cy base 0 0 (fun S1 r => MQ below (QcI D cy base tS S1 r) args s 0 0 (AA base)) (X11_contrary_84 k0 v1 v2 K n S v3) S (F0 m 84 ls []) := by
  intro n
  induction n with
  | zero => intro S v3 ls hl; exact Sim.none
  | succ n ih =>
    intro S v3 ls hl
    rw [X11_contrary_84]
    refine r_iload_n (pc := 84) C dX11_contrary_84 rfl (lv_at hl 3 rfl) ?_
    refine r_aload_n (pc := 85) C dX11_contrary_85 rfl (lv_at hl 0 rfl) ?_
    refine gf_X11_95 (pc := 86) C t0 dX11_contrary_86 ?_
    refine r_icmp_ge (pc := 89) C (tgt := 123) dX11_contrary_89 (by decide) (fun _ => ?_) (fun _ => ?_)
    · exact hK S v3 _ (lv_sub hl [0, 1, 2, 3] rfl)
    · refine r_aload_n (pc := 92) C dX11_contrary_92 rfl (lv_at hl 0 rfl) ?_
      refine gf_X11_79 (pc := 93) C t0 dX11_contrary_93 ?_
      have t35 := ft_11_33 t0
      refine r_iload_n (pc := 96) C dX11_contrary_96 rfl (lv_at hl 3 rfl) ?_
      refine r_ldc2 (pc := 97) C (2 : Int64) wd_76 dX11_contrary_97 ?_
      refine r_aload_n (pc := 100) C dX11_contrary_100 rfl (lv_at hl 0 rfl) ?_
      refine r_iload_n (pc := 101) C dX11_contrary_101 rfl (lv_at hl 3 rfl) ?_
      refine cv_X11_106 (pc := 102) C t0 hl.1 ⟨Nat.le_of_ble_eq_true rfl, Nat.le_of_ble_eq_true rfl⟩ (Nat.le_of_ble_eq_true rfl) dX11_contrary_102 (fun S36 v37 => ?_)
      refine r_iconst (pc := 105) C (1 : Int32) dX11_contrary_105 (by decide) ?_
      refine r_isub (pc := 106) C dX11_contrary_106 ?_
      refine r_i2l (pc := 107) C dX11_contrary_107 ?_
      refine r_lmul (pc := 108) C dX11_contrary_108 ?_
      refine r_aload_n (pc := 109) C dX11_contrary_109 rfl (lv_at hl 0 rfl) ?_
      refine gf_X11_76 (pc := 110) C t0 dX11_contrary_110 ?_
      have t38 := ft_11_32 t0
      refine r_iload_n (pc := 113) C dX11_contrary_113 rfl (lv_at hl 3 rfl) ?_
      refine r_lald (pc := 114) C t38 dX11_contrary_114 ?_
      refine r_lsub (pc := 115) C dX11_contrary_115 ?_
      refine r_last (pc := 116) C t35 dX11_contrary_116 (fun S39 => ?_)
      refine r_iinc (pc := 117) C (k := 3) (1 : Int32) (fun v40 => [(3, .int v40), (0, .ref (base + k0)), (1, .int v1), (2, .int v2)]) dX11_contrary_117 hl rfl (by decide) (Nat.le_of_ble_eq_true rfl) (fun _ => rfl) (fun v40 ls hl => ?_)
      refine r_goto (pc := 120) C (tgt := 84) dX11_contrary_120 (by decide) ?_
      exact ih S39 v40 _ (lv_sub hl [1, 2, 3, 0] rfl)

set_option maxHeartbeats 4000000 in
set_option maxRecDepth 100000 in
theorem lp_X11_contrary_125 {p : Program} {l : Launch} {e : Env} {s : State} {m : MethodId} {args : Array Value} {below : List Frame} {meth : Method} {c : Code} {D : va_G} {cy : Nat → ClassId} {base tS : Nat} {ls : Array Slot} (C : Cx p rm_X11_contrary s m args c RX11 cX11_contrary 4 D cy base tS 0 0) (hr : meth.sig.returnType = (some .int)) (hk : meth.locks = false) {k0 : Nat} {v1 : Int32} {v2 : Int32} (t0 : cls k0 = 11) {K : St → Int32 → Option (St × Int32)} (hK : ∀ (S : St) (v3 : Int32) (ls : Array Slot), lv_has ls 4 [(0, .ref (base + k0)), (1, .int v1), (2, .int v2), (3, .int v3)] → Sim p l e rm_X11_contrary s m args below meth c D cy base 0 0 (fun S1 r => MQ below (QcI D cy base tS S1 r) args s 0 0 (AA base)) (K S v3) S (F0 m 156 ls [])) : ∀ (n : Nat) (S : St) (v3 : Int32) (ls : Array Slot), lv_has ls 4 [(0, .ref (base + k0)), (1, .int v1), (2, .int v2), (3, .int v3)] → Sim p l e rm_X11_contrary s m args below meth c D cy base 0 0 (fun S1 r => MQ below (QcI D cy base tS S1 r) args s 0 0 (AA base)) (X11_contrary_125 k0 v1 v2 K n S v3) S (F0 m 125 ls []) := by
  intro n
  induction n with
  | zero => intro S v3 ls hl; exact Sim.none
  | succ n ih =>
    intro S v3 ls hl
    rw [X11_contrary_125]
    refine r_iload_n (pc := 125) C dX11_contrary_125 rfl (lv_at hl 3 rfl) ?_
    refine r_aload_n (pc := 126) C dX11_contrary_126 rfl (lv_at hl 0 rfl) ?_
    refine gf_X11_95 (pc := 127) C t0 dX11_contrary_127 ?_
    refine r_icmp_ge (pc := 130) C (tgt := 156) dX11_contrary_130 (by decide) (fun _ => ?_) (fun _ => ?_)
    · exact hK S v3 _ (lv_sub hl [0, 1, 2, 3] rfl)
    · refine r_aload_n (pc := 133) C dX11_contrary_133 rfl (lv_at hl 0 rfl) ?_
      refine gf_X11_76 (pc := 134) C t0 dX11_contrary_134 ?_
      have t43 := ft_11_32 t0
      refine r_iload_n (pc := 137) C dX11_contrary_137 rfl (lv_at hl 3 rfl) ?_
      refine r_aload_n (pc := 138) C dX11_contrary_138 rfl (lv_at hl 0 rfl) ?_
      refine gf_X11_36 (pc := 139) C t0 dX11_contrary_139 ?_
      have t44 := ft_11_15 t0
      refine r_bipush (pc := 142) C (12 : Int32) dX11_contrary_142 (by decide) ?_
      refine r_iload_n (pc := 144) C dX11_contrary_144 rfl (lv_at hl 1 rfl) ?_
      refine r_imul (pc := 145) C dX11_contrary_145 ?_
      refine r_iload_n (pc := 146) C dX11_contrary_146 rfl (lv_at hl 3 rfl) ?_
      refine r_iadd (pc := 147) C dX11_contrary_147 ?_
      refine r_lald (pc := 148) C t44 dX11_contrary_148 ?_
      refine r_last (pc := 149) C t43 dX11_contrary_149 (fun S45 => ?_)
      refine r_iinc (pc := 150) C (k := 3) (1 : Int32) (fun v46 => [(3, .int v46), (0, .ref (base + k0)), (1, .int v1), (2, .int v2)]) dX11_contrary_150 hl rfl (by decide) (Nat.le_of_ble_eq_true rfl) (fun _ => rfl) (fun v46 ls hl => ?_)
      refine r_goto (pc := 153) C (tgt := 125) dX11_contrary_153 (by decide) ?_
      exact ih S45 v46 _ (lv_sub hl [1, 2, 3, 0] rfl)

set_option maxHeartbeats 4000000 in
set_option maxRecDepth 100000 in
theorem lp_X11_contrary_172 {p : Program} {l : Launch} {e : Env} {s : State} {m : MethodId} {args : Array Value} {below : List Frame} {meth : Method} {c : Code} {D : va_G} {cy : Nat → ClassId} {base tS : Nat} {ls : Array Slot} (C : Cx p rm_X11_contrary s m args c RX11 cX11_contrary 4 D cy base tS 0 0) (hr : meth.sig.returnType = (some .int)) (hk : meth.locks = false) {k0 : Nat} {v2 : Int32} (t0 : cls k0 = 11) {K : St → Int32 → Option (St × Int32)} (hK : ∀ (S : St) (v3 : Int32) (ls : Array Slot), lv_has ls 4 [(0, .ref (base + k0)), (2, .int v2), (3, .int v3)] → Sim p l e rm_X11_contrary s m args below meth c D cy base 0 0 (fun S1 r => MQ below (QcI D cy base tS S1 r) args s 0 0 (AA base)) (K S v3) S (F0 m 209 ls [])) : ∀ (n : Nat) (S : St) (v3 : Int32) (ls : Array Slot), lv_has ls 4 [(0, .ref (base + k0)), (2, .int v2), (3, .int v3)] → Sim p l e rm_X11_contrary s m args below meth c D cy base 0 0 (fun S1 r => MQ below (QcI D cy base tS S1 r) args s 0 0 (AA base)) (X11_contrary_172 k0 v2 K n S v3) S (F0 m 172 ls []) := by
  intro n
  induction n with
  | zero => intro S v3 ls hl; exact Sim.none
  | succ n ih =>
    intro S v3 ls hl
    rw [X11_contrary_172]
    refine r_iload_n (pc := 172) C dX11_contrary_172 rfl (lv_at hl 2 rfl) ?_
    refine r_aload_n (pc := 173) C dX11_contrary_173 rfl (lv_at hl 0 rfl) ?_
    refine gf_X11_95 (pc := 174) C t0 dX11_contrary_174 ?_
    refine r_icmp_ge (pc := 177) C (tgt := 209) dX11_contrary_177 (by decide) (fun _ => ?_) (fun _ => ?_)
    · exact hK S v3 _ (lv_sub hl [0, 1, 2] rfl)
    · refine r_aload_n (pc := 180) C dX11_contrary_180 rfl (lv_at hl 0 rfl) ?_
      refine gf_X11_76 (pc := 181) C t0 dX11_contrary_181 ?_
      have t51 := ft_11_32 t0
      refine r_iload_n (pc := 184) C dX11_contrary_184 rfl (lv_at hl 2 rfl) ?_
      refine r_ldc2 (pc := 185) C (2 : Int64) wd_76 dX11_contrary_185 ?_
      refine r_aload_n (pc := 188) C dX11_contrary_188 rfl (lv_at hl 0 rfl) ?_
      refine gf_X11_79 (pc := 189) C t0 dX11_contrary_189 ?_
      have t52 := ft_11_33 t0
      refine r_iload_n (pc := 192) C dX11_contrary_192 rfl (lv_at hl 2 rfl) ?_
      refine r_lald (pc := 193) C t52 dX11_contrary_193 ?_
      refine r_lmul (pc := 194) C dX11_contrary_194 ?_
      refine r_aload_n (pc := 195) C dX11_contrary_195 rfl (lv_at hl 0 rfl) ?_
      refine gf_X11_76 (pc := 196) C t0 dX11_contrary_196 ?_
      have t53 := ft_11_32 t0
      refine r_iload_n (pc := 199) C dX11_contrary_199 rfl (lv_at hl 2 rfl) ?_
      refine r_lald (pc := 200) C t53 dX11_contrary_200 ?_
      refine r_lsub (pc := 201) C dX11_contrary_201 ?_
      refine r_last (pc := 202) C t51 dX11_contrary_202 (fun S54 => ?_)
      refine r_iinc (pc := 203) C (k := 2) (1 : Int32) (fun v55 => [(3, .int v55), (0, .ref (base + k0)), (2, .int v2)]) dX11_contrary_203 hl rfl (by decide) (Nat.le_of_ble_eq_true rfl) (fun _ => rfl) (fun v55 ls hl => ?_)
      refine r_goto (pc := 206) C (tgt := 172) dX11_contrary_206 (by decide) ?_
      exact ih S54 v55 _ (lv_sub hl [1, 2, 0] rfl)

set_option maxHeartbeats 4000000 in
set_option maxRecDepth 100000 in
theorem sm_X11_contrary {p : Program} {l : Launch} {e : Env} {s : State} {m : MethodId} {args : Array Value} {below : List Frame} {meth : Method} {c : Code} {D : va_G} {cy : Nat → ClassId} {base tS : Nat} {S : St} {k0 : Nat} {v1 : Int32} {v2 : Int32} {ls : Array Slot} (C : Cx p rm_X11_contrary s m args c RX11 cX11_contrary 4 D cy base tS 0 0) (hr : meth.sig.returnType = (some .int)) (hk : meth.locks = false) (t0 : cls k0 = 11) (hl : lv_has ls 4 [(0, .ref (base + k0)), (1, .int v1), (2, .int v2)]) : Sim p l e rm_X11_contrary s m args below meth c D cy base 0 0 (fun S1 r => MQ below (QcI D cy base tS S1 r) args s 0 0 (AA base)) (X11_contrary S k0 v1 v2) S (F0 m 0 ls []) := by
  unfold X11_contrary
  refine r_iload_n (pc := 0) C dX11_contrary_0 rfl (lv_at hl 1 rfl) ?_
  refine cv_X11_198 (pc := 1) C  hl.1 ⟨Nat.le_of_ble_eq_true rfl, Nat.le_of_ble_eq_true rfl⟩ (Nat.le_of_ble_eq_true rfl) dX11_contrary_1 (fun S21 v22 => ?_)
  refine r_join (fun (j : St → Option (St × Int32)) => ∀ (S24 : St)  (ls : Array Slot), lv_has ls 4 [(0, .ref (base + k0))] → Sim p l e rm_X11_contrary s m args below meth c D cy base 0 0 (fun S1 r => MQ below (QcI D cy base tS S1 r) args s 0 0 (AA base)) (j S24) S24 (F0 m 14 ls [])) ?_ (fun j23 hj23 => ?_)
  · intro S24 ls hl
    refine r_aload_n (pc := 14) C dX11_contrary_14 rfl (lv_at hl 0 rfl) ?_
    refine r_iconst (pc := 15) C (-1 : Int32) dX11_contrary_15 (by decide) ?_
    refine cv_X11_118 (pc := 16) C t0 hl.1 ⟨Nat.le_of_ble_eq_true rfl, Nat.le_of_ble_eq_true rfl⟩ (Nat.le_of_ble_eq_true rfl) dX11_contrary_16 (fun S25 v26 => ?_)
    exact r_iret (pc := 19) C hr hk dX11_contrary_19
  refine r_if_eq (pc := 4) C (tgt := 14) dX11_contrary_4 (by decide) (fun _ => ?_) (fun _ => ?_)
  · exact hj23 S21  _ (lv_sub hl [0] rfl)
  · refine r_iload_n (pc := 7) C dX11_contrary_7 rfl (lv_at hl 2 rfl) ?_
    refine cv_X11_198 (pc := 8) C  hl.1 ⟨Nat.le_of_ble_eq_true rfl, Nat.le_of_ble_eq_true rfl⟩ (Nat.le_of_ble_eq_true rfl) dX11_contrary_8 (fun S27 v28 => ?_)
    refine r_if_ne (pc := 11) C (tgt := 20) dX11_contrary_11 (by decide) (fun _ => ?_) (fun _ => ?_)
    · refine r_aload_n (pc := 20) C dX11_contrary_20 rfl (lv_at hl 0 rfl) ?_
      refine gf_X11_39 (pc := 21) C t0 dX11_contrary_21 ?_
      have t29 := ft_11_16 t0
      refine r_iload_n (pc := 24) C dX11_contrary_24 rfl (lv_at hl 1 rfl) ?_
      refine r_zald (pc := 25) C t29 dX11_contrary_25 ?_
      refine r_if_ne (pc := 26) C (tgt := 36) dX11_contrary_26 (by decide) (fun _ => ?_) (fun _ => ?_)
      · refine r_aload_n (pc := 36) C dX11_contrary_36 rfl (lv_at hl 0 rfl) ?_
        refine gf_X11_114 (pc := 37) C t0 dX11_contrary_37 ?_
        refine r_if_ne (pc := 40) C (tgt := 50) dX11_contrary_40 (by decide) (fun _ => ?_) (fun _ => ?_)
        · refine r_aload_n (pc := 50) C dX11_contrary_50 rfl (lv_at hl 0 rfl) ?_
          refine cv_X11_190 (pc := 51) C t0 hl.1 ⟨Nat.le_of_ble_eq_true rfl, Nat.le_of_ble_eq_true rfl⟩ (Nat.le_of_ble_eq_true rfl) dX11_contrary_51 (fun S30 v31 => ?_)
          refine r_if_ne (pc := 54) C (tgt := 64) dX11_contrary_54 (by decide) (fun _ => ?_) (fun _ => ?_)
          · refine r_aload_n (pc := 64) C dX11_contrary_64 rfl (lv_at hl 0 rfl) ?_
            refine cv_X11_210 (pc := 65) C t0 hl.1 ⟨Nat.le_of_ble_eq_true rfl, Nat.le_of_ble_eq_true rfl⟩ (Nat.le_of_ble_eq_true rfl) dX11_contrary_65 (fun S32 _ => ?_)
            refine r_aload_n (pc := 68) C dX11_contrary_68 rfl (lv_at hl 0 rfl) ?_
            refine cv_X11_205 (pc := 69) C t0 hl.1 ⟨Nat.le_of_ble_eq_true rfl, Nat.le_of_ble_eq_true rfl⟩ (Nat.le_of_ble_eq_true rfl) dX11_contrary_69 (fun S33 v34 => ?_)
            refine r_if_ne (pc := 72) C (tgt := 82) dX11_contrary_72 (by decide) (fun _ => ?_) (fun _ => ?_)
            · refine r_iconst (pc := 82) C (0 : Int32) dX11_contrary_82 (by decide) ?_
              refine r_istore_n (lv2 := [(3, .int (0 : Int32)), (0, .ref (base + k0)), (1, .int v1), (2, .int v2)]) (pc := 83) C dX11_contrary_83 rfl hl (Nat.le_of_ble_eq_true rfl) rfl (fun ls hl => ?_)
              refine lp_X11_contrary_84 (ls := ls) C hr hk t0 (fun S41 v42 ls hl => ?_) FU S33 (0 : Int32) _ (lv_sub hl [1, 2, 3, 0] rfl)
              refine r_iconst (pc := 123) C (0 : Int32) dX11_contrary_123 (by decide) ?_
              refine r_istore_n (lv2 := [(3, .int (0 : Int32)), (0, .ref (base + k0)), (1, .int v1), (2, .int v2)]) (pc := 124) C dX11_contrary_124 rfl hl (Nat.le_of_ble_eq_true rfl) rfl (fun ls hl => ?_)
              refine lp_X11_contrary_125 (ls := ls) C hr hk t0 (fun S47 v48 ls hl => ?_) FU S41 (0 : Int32) _ (lv_sub hl [1, 2, 3, 0] rfl)
              refine r_aload_n (pc := 156) C dX11_contrary_156 rfl (lv_at hl 0 rfl) ?_
              refine cv_X11_205 (pc := 157) C t0 hl.1 ⟨Nat.le_of_ble_eq_true rfl, Nat.le_of_ble_eq_true rfl⟩ (Nat.le_of_ble_eq_true rfl) dX11_contrary_157 (fun S49 v50 => ?_)
              refine r_if_ne (pc := 160) C (tgt := 170) dX11_contrary_160 (by decide) (fun _ => ?_) (fun _ => ?_)
              · refine r_iconst (pc := 170) C (0 : Int32) dX11_contrary_170 (by decide) ?_
                refine r_istore_n (lv2 := [(3, .int (0 : Int32)), (0, .ref (base + k0)), (1, .int v1), (2, .int v2)]) (pc := 171) C dX11_contrary_171 rfl hl (Nat.le_of_ble_eq_true rfl) rfl (fun ls hl => ?_)
                refine lp_X11_contrary_172 (ls := ls) C hr hk t0 (fun S56 v57 ls hl => ?_) FU S49 (0 : Int32) _ (lv_sub hl [1, 3, 0] rfl)
                refine r_aload_n (pc := 209) C dX11_contrary_209 rfl (lv_at hl 0 rfl) ?_
                refine cv_X11_205 (pc := 210) C t0 hl.1 ⟨Nat.le_of_ble_eq_true rfl, Nat.le_of_ble_eq_true rfl⟩ (Nat.le_of_ble_eq_true rfl) dX11_contrary_210 (fun S58 v59 => ?_)
                refine r_if_eq (pc := 213) C (tgt := 228) dX11_contrary_213 (by decide) (fun _ => ?_) (fun _ => ?_)
                · refine r_aload_n (pc := 228) C dX11_contrary_228 rfl (lv_at hl 0 rfl) ?_
                  refine r_bipush (pc := 229) C (-5 : Int32) dX11_contrary_229 (by decide) ?_
                  refine cv_X11_118 (pc := 231) C t0 hl.1 ⟨Nat.le_of_ble_eq_true rfl, Nat.le_of_ble_eq_true rfl⟩ (Nat.le_of_ble_eq_true rfl) dX11_contrary_231 (fun S60 v61 => ?_)
                  exact r_iret (pc := 234) C hr hk dX11_contrary_234
                · refine r_aload_n (pc := 216) C dX11_contrary_216 rfl (lv_at hl 0 rfl) ?_
                  refine r_iload_n (pc := 217) C dX11_contrary_217 rfl (lv_at hl 1 rfl) ?_
                  refine r_aload_n (pc := 218) C dX11_contrary_218 rfl (lv_at hl 0 rfl) ?_
                  refine gf_X11_76 (pc := 219) C t0 dX11_contrary_219 ?_
                  have t62 := ft_11_32 t0
                  refine cv_X11_201 (pc := 222) C t0 t62 hl.1 ⟨Nat.le_of_ble_eq_true rfl, Nat.le_of_ble_eq_true rfl⟩ (Nat.le_of_ble_eq_true rfl) dX11_contrary_222 (fun S63 v64 => ?_)
                  refine r_goto (pc := 225) C (tgt := 234) dX11_contrary_225 (by decide) ?_
                  exact r_iret (pc := 234) C hr hk dX11_contrary_234
              · refine r_aload_n (pc := 163) C dX11_contrary_163 rfl (lv_at hl 0 rfl) ?_
                refine r_bipush (pc := 164) C (-5 : Int32) dX11_contrary_164 (by decide) ?_
                refine cv_X11_118 (pc := 166) C t0 hl.1 ⟨Nat.le_of_ble_eq_true rfl, Nat.le_of_ble_eq_true rfl⟩ (Nat.le_of_ble_eq_true rfl) dX11_contrary_166 (fun S65 v66 => ?_)
                exact r_iret (pc := 169) C hr hk dX11_contrary_169
            · refine r_aload_n (pc := 75) C dX11_contrary_75 rfl (lv_at hl 0 rfl) ?_
              refine r_bipush (pc := 76) C (-5 : Int32) dX11_contrary_76 (by decide) ?_
              refine cv_X11_118 (pc := 78) C t0 hl.1 ⟨Nat.le_of_ble_eq_true rfl, Nat.le_of_ble_eq_true rfl⟩ (Nat.le_of_ble_eq_true rfl) dX11_contrary_78 (fun S67 v68 => ?_)
              exact r_iret (pc := 81) C hr hk dX11_contrary_81
          · refine r_aload_n (pc := 57) C dX11_contrary_57 rfl (lv_at hl 0 rfl) ?_
            refine r_bipush (pc := 58) C (-12 : Int32) dX11_contrary_58 (by decide) ?_
            refine cv_X11_118 (pc := 60) C t0 hl.1 ⟨Nat.le_of_ble_eq_true rfl, Nat.le_of_ble_eq_true rfl⟩ (Nat.le_of_ble_eq_true rfl) dX11_contrary_60 (fun S69 v70 => ?_)
            exact r_iret (pc := 63) C hr hk dX11_contrary_63
        · refine r_aload_n (pc := 43) C dX11_contrary_43 rfl (lv_at hl 0 rfl) ?_
          refine r_bipush (pc := 44) C (-8 : Int32) dX11_contrary_44 (by decide) ?_
          refine cv_X11_118 (pc := 46) C t0 hl.1 ⟨Nat.le_of_ble_eq_true rfl, Nat.le_of_ble_eq_true rfl⟩ (Nat.le_of_ble_eq_true rfl) dX11_contrary_46 (fun S71 v72 => ?_)
          exact r_iret (pc := 49) C hr hk dX11_contrary_49
      · refine r_aload_n (pc := 29) C dX11_contrary_29 rfl (lv_at hl 0 rfl) ?_
        refine r_bipush (pc := 30) C (-11 : Int32) dX11_contrary_30 (by decide) ?_
        refine cv_X11_118 (pc := 32) C t0 hl.1 ⟨Nat.le_of_ble_eq_true rfl, Nat.le_of_ble_eq_true rfl⟩ (Nat.le_of_ble_eq_true rfl) dX11_contrary_32 (fun S73 v74 => ?_)
        exact r_iret (pc := 35) C hr hk dX11_contrary_35
    · exact hj23 S27  _ (lv_sub hl [0] rfl)

theorem ct_X11_contrary (l : Launch) {D : va_G} {cy : Nat → ClassId} {base tS : Nat} {S : St} {k0 : Nat} {v1 : Int32} {v2 : Int32} (t0 : cls k0 = 11) {S1 : St} {r1 : Int32} (h : X11_contrary S k0 v1 v2 = some (S1, r1)) : Met l yX11_contrary (wsY yX11_contrary cX11_contrary 4 (some .int)) rm_X11_contrary (va_Pc [.ref (base + k0), .int v1, .int v2] (World D cy base tS S)) (QcI D cy base tS S1 r1) 0 0 (AA base) := conI rfl rfl (by decide) (Nat.le_of_ble_eq_true rfl) (fun p e s m args below meth c ls C hr hk hl => sm_X11_contrary C hr hk t0 hl) h
abbrev rm_X11_isPrime : Room := { frames := 0, cells := 0, slots := 0, locals := 0 }
set_option maxHeartbeats 4000000 in
set_option maxRecDepth 100000 in
theorem lp_X11_isPrime_2 {p : Program} {l : Launch} {e : Env} {s : State} {m : MethodId} {args : Array Value} {below : List Frame} {meth : Method} {c : Code} {D : va_G} {cy : Nat → ClassId} {base tS : Nat} {ls : Array Slot} (C : Cx p rm_X11_isPrime s m args c RX11 cX11_isPrime 2 D cy base tS 0 0) (hr : meth.sig.returnType = (some .boolean)) (hk : meth.locks = false) {v0 : Int32}  {K : St → Int32 → Option (St × Int32)} (hK : ∀ (S : St) (v1 : Int32) (ls : Array Slot), lv_has ls 2 [(0, .int v0), (1, .int v1)] → Sim p l e rm_X11_isPrime s m args below meth c D cy base 0 0 (fun S1 r => MQ below (QcI D cy base tS S1 r) args s 0 0 (AA base)) (K S v1) S (F0 m 23 ls [])) : ∀ (n : Nat) (S : St) (v1 : Int32) (ls : Array Slot), lv_has ls 2 [(0, .int v0), (1, .int v1)] → Sim p l e rm_X11_isPrime s m args below meth c D cy base 0 0 (fun S1 r => MQ below (QcI D cy base tS S1 r) args s 0 0 (AA base)) (X11_isPrime_2 v0 K n S v1) S (F0 m 2 ls []) := by
  intro n
  induction n with
  | zero => intro S v1 ls hl; exact Sim.none
  | succ n ih =>
    intro S v1 ls hl
    rw [X11_isPrime_2]
    refine r_iload_n (pc := 2) C dX11_isPrime_2 rfl (lv_at hl 1 rfl) ?_
    refine r_iload_n (pc := 3) C dX11_isPrime_3 rfl (lv_at hl 1 rfl) ?_
    refine r_imul (pc := 4) C dX11_isPrime_4 ?_
    refine r_iload_n (pc := 5) C dX11_isPrime_5 rfl (lv_at hl 0 rfl) ?_
    refine r_icmp_gt (pc := 6) C (tgt := 23) dX11_isPrime_6 (by decide) (fun _ => ?_) (fun _ => ?_)
    · exact hK S v1 _ (lv_sub hl [0, 1] rfl)
    · refine r_iload_n (pc := 9) C dX11_isPrime_9 rfl (lv_at hl 0 rfl) ?_
      refine r_iload_n (pc := 10) C dX11_isPrime_10 rfl (lv_at hl 1 rfl) ?_
      refine r_irem (pc := 11) C dX11_isPrime_11 (fun _ => ?_)
      refine r_if_ne (pc := 12) C (tgt := 17) dX11_isPrime_12 (by decide) (fun _ => ?_) (fun _ => ?_)
      · refine r_iinc (pc := 17) C (k := 1) (1 : Int32) (fun v21 => [(1, .int v21), (0, .int v0)]) dX11_isPrime_17 hl rfl (by decide) (Nat.le_of_ble_eq_true rfl) (fun _ => rfl) (fun v21 ls hl => ?_)
        refine r_goto (pc := 20) C (tgt := 2) dX11_isPrime_20 (by decide) ?_
        exact ih S v21 _ (lv_sub hl [1, 0] rfl)
      · refine r_iconst (pc := 15) C (0 : Int32) dX11_isPrime_15 (by decide) ?_
        exact r_zret (pc := 16) C rfl hr hk dX11_isPrime_16

set_option maxHeartbeats 4000000 in
set_option maxRecDepth 100000 in
theorem sm_X11_isPrime {p : Program} {l : Launch} {e : Env} {s : State} {m : MethodId} {args : Array Value} {below : List Frame} {meth : Method} {c : Code} {D : va_G} {cy : Nat → ClassId} {base tS : Nat} {S : St} {v0 : Int32} {ls : Array Slot} (C : Cx p rm_X11_isPrime s m args c RX11 cX11_isPrime 2 D cy base tS 0 0) (hr : meth.sig.returnType = (some .boolean)) (hk : meth.locks = false)  (hl : lv_has ls 2 [(0, .int v0)]) : Sim p l e rm_X11_isPrime s m args below meth c D cy base 0 0 (fun S1 r => MQ below (QcI D cy base tS S1 r) args s 0 0 (AA base)) (X11_isPrime S v0) S (F0 m 0 ls []) := by
  unfold X11_isPrime
  refine r_iconst (pc := 0) C (2 : Int32) dX11_isPrime_0 (by decide) ?_
  refine r_istore_n (lv2 := [(1, .int (2 : Int32)), (0, .int v0)]) (pc := 1) C dX11_isPrime_1 rfl hl (Nat.le_of_ble_eq_true rfl) rfl (fun ls hl => ?_)
  refine lp_X11_isPrime_2 (ls := ls) C hr hk  (fun S22 v23 ls hl => ?_) FU S (2 : Int32) _ (lv_sub hl [1, 0] rfl)
  refine r_iload_n (pc := 23) C dX11_isPrime_23 rfl (lv_at hl 0 rfl) ?_
  refine r_iconst (pc := 24) C (1 : Int32) dX11_isPrime_24 (by decide) ?_
  refine r_icmp_le (pc := 25) C (tgt := 32) dX11_isPrime_25 (by decide) (fun _ => ?_) (fun _ => ?_)
  · refine r_iconst (pc := 32) C (0 : Int32) dX11_isPrime_32 (by decide) ?_
    exact r_zret (pc := 33) C rfl hr hk dX11_isPrime_33
  · refine r_iconst (pc := 28) C (1 : Int32) dX11_isPrime_28 (by decide) ?_
    refine r_goto (pc := 29) C (tgt := 33) dX11_isPrime_29 (by decide) ?_
    exact r_zret (pc := 33) C rfl hr hk dX11_isPrime_33

theorem ct_X11_isPrime (l : Launch) {D : va_G} {cy : Nat → ClassId} {base tS : Nat} {S : St} {v0 : Int32}  {S1 : St} {r1 : Int32} (h : X11_isPrime S v0 = some (S1, r1)) : Met l yX11_isPrime (wsY yX11_isPrime cX11_isPrime 2 (some .boolean)) rm_X11_isPrime (va_Pc [.int v0] (World D cy base tS S)) (QcI D cy base tS S1 r1) 0 0 (AA base) := conI rfl rfl (by decide) (Nat.le_of_ble_eq_true rfl) (fun p e s m args below meth c ls C hr hk hl => sm_X11_isPrime C hr hk  hl) h
theorem cv_X11_213 {p : Program} {l : Launch} {e : Env} {R : Room} {s : State} {m : MethodId} {args : Array Value} {below : List Frame} {meth : Method} {c : Code} {D : va_G} {cy : Nat → ClassId} {base tS nc ns : Nat} {cc : ByteArray} {nL pc : Nat} {ls : Array Slot} {rest : List Value} {S : St} {ρ : Type} {Q : St → ρ → State → Prop} (C : Cx p R s m args c RX11 cc nL D cy base tS nc ns) {v0 : Int32}  (hl : ls.size = nL) (hR : rm_X11_isPrime.frames + 1 ≤ R.frames ∧ 8 + (2 + 11) + rm_X11_isPrime.locals ≤ R.locals) {b : St → Int32 → Option (St × ρ)} (hroom : (rest.map fun v => v.category).sum ≤ 8) (hd : decode cc pc = .ok (.invokestatic 213, 3)) (kk : ∀ (S1 : St) (r : Int32), Sim p l e R s m args below meth c D cy base nc ns Q (b S1 r) S1 (F0 m (pc + 3) ls (.int r :: rest))) : Sim p l e R s m args below meth c D cy base nc ns Q (bd (X11_isPrime S v0) b) S (F0 m pc ls (.int v0 :: rest)) := r_callSI (n := 1) (As := [.int v0]) C hl (fun S1 r1 h => ct_X11_isPrime l  h) wd_577 wd_578 wd_497 wd_579 rfl rfl (by decide +kernel) hR rfl rfl hroom hd kk
