abbrev rm_X11_enough : Room := { frames := 2, cells := 0, slots := 0, locals := 45 }
set_option maxHeartbeats 4000000 in
set_option maxRecDepth 100000 in
theorem lp_X11_enough_41 {p : Program} {l : Launch} {e : Env} {s : State} {m : MethodId} {args : Array Value} {below : List Frame} {meth : Method} {c : Code} {D : va_G} {cy : Nat → ClassId} {base tS : Nat} {ls : Array Slot} (C : Cx p rm_X11_enough s m args c RX11 cX11_enough 6 D cy base tS 0 0) (hr : meth.sig.returnType = (some .int)) (hk : meth.locks = false) {k0 : Nat} {v1 : Int32} (t0 : cls k0 = 11) {K : St → Int32 → Option (St × Int32)} (hK : ∀ (S : St) (v2 : Int32) (ls : Array Slot), lv_has ls 6 [(0, .ref (base + k0)), (1, .int v1), (2, .int v2)] → Sim p l e rm_X11_enough s m args below meth c D cy base 0 0 (fun S1 r => MQ below (QcI D cy base tS S1 r) args s 0 0 (AA base)) (K S v2) S (F0 m 74 ls [])) : ∀ (n : Nat) (S : St) (v2 : Int32) (ls : Array Slot), lv_has ls 6 [(0, .ref (base + k0)), (1, .int v1), (2, .int v2)] → Sim p l e rm_X11_enough s m args below meth c D cy base 0 0 (fun S1 r => MQ below (QcI D cy base tS S1 r) args s 0 0 (AA base)) (X11_enough_41 k0 v1 K n S v2) S (F0 m 41 ls []) := by
  intro n
  induction n with
  | zero => intro S v2 ls hl; exact Sim.none
  | succ n ih =>
    intro S v2 ls hl
    rw [X11_enough_41]
    refine r_iload_n (pc := 41) C dX11_enough_41 rfl (lv_at hl 2 rfl) ?_
    refine r_iload_n (pc := 42) C dX11_enough_42 rfl (lv_at hl 1 rfl) ?_
    refine r_icmp_ge (pc := 43) C (tgt := 74) dX11_enough_43 (by decide) (fun _ => ?_) (fun _ => ?_)
    · exact hK S v2 _ (lv_sub hl [0, 1, 2] rfl)
    · refine r_aload_n (pc := 46) C dX11_enough_46 rfl (lv_at hl 0 rfl) ?_
      refine gf_X11_55 (pc := 47) C t0 dX11_enough_47 ?_
      have t23 := ft_11_22 t0
      refine r_iload_n (pc := 50) C dX11_enough_50 rfl (lv_at hl 2 rfl) ?_
      refine r_iald (pc := 51) C t23 dX11_enough_51 ?_
      refine r_iconst (pc := 52) C (0 : Int32) dX11_enough_52 (by decide) ?_
      refine r_ldc (pc := 53) C (1000000 : Int32) wd_86 dX11_enough_53 ?_
      refine cv_X11_98 (pc := 55) C  hl.1 ⟨Nat.le_of_ble_eq_true rfl, Nat.le_of_ble_eq_true rfl⟩ (Nat.le_of_ble_eq_true rfl) dX11_enough_55 (fun S24 v25 => ?_)
      refine r_if_ne (pc := 58) C (tgt := 68) dX11_enough_58 (by decide) (fun _ => ?_) (fun _ => ?_)
      · refine r_iinc (pc := 68) C (k := 2) (1 : Int32) (fun v26 => [(2, .int v26), (0, .ref (base + k0)), (1, .int v1)]) dX11_enough_68 hl rfl (by decide) (Nat.le_of_ble_eq_true rfl) (fun _ => rfl) (fun v26 ls hl => ?_)
        refine r_goto (pc := 71) C (tgt := 41) dX11_enough_71 (by decide) ?_
        exact ih S24 v26 _ (lv_sub hl [1, 2, 0] rfl)
      · refine r_aload_n (pc := 61) C dX11_enough_61 rfl (lv_at hl 0 rfl) ?_
        refine r_bipush (pc := 62) C (-13 : Int32) dX11_enough_62 (by decide) ?_
        refine cv_X11_118 (pc := 64) C t0 hl.1 ⟨Nat.le_of_ble_eq_true rfl, Nat.le_of_ble_eq_true rfl⟩ (Nat.le_of_ble_eq_true rfl) dX11_enough_64 (fun S27 v28 => ?_)
        exact r_iret (pc := 67) C hr hk dX11_enough_67

set_option maxHeartbeats 4000000 in
set_option maxRecDepth 100000 in
theorem lp_X11_enough_109 {p : Program} {l : Launch} {e : Env} {s : State} {m : MethodId} {args : Array Value} {below : List Frame} {meth : Method} {c : Code} {D : va_G} {cy : Nat → ClassId} {base tS : Nat} {ls : Array Slot} (C : Cx p rm_X11_enough s m args c RX11 cX11_enough 6 D cy base tS 0 0) (hr : meth.sig.returnType = (some .int)) (hk : meth.locks = false) {k0 : Nat} {v2 : Int32} (t0 : cls k0 = 11) {K : St → Int64 → Int32 → Option (St × Int32)} (hK : ∀ (S : St) (v3 : Int64) (v5 : Int32) (ls : Array Slot), lv_has ls 6 [(0, .ref (base + k0)), (2, .int v2), (3, .long v3), (5, .int v5)] → Sim p l e rm_X11_enough s m args below meth c D cy base 0 0 (fun S1 r => MQ below (QcI D cy base tS S1 r) args s 0 0 (AA base)) (K S v3 v5) S (F0 m 144 ls [])) : ∀ (n : Nat) (S : St) (v3 : Int64) (v5 : Int32) (ls : Array Slot), lv_has ls 6 [(0, .ref (base + k0)), (2, .int v2), (3, .long v3), (5, .int v5)] → Sim p l e rm_X11_enough s m args below meth c D cy base 0 0 (fun S1 r => MQ below (QcI D cy base tS S1 r) args s 0 0 (AA base)) (X11_enough_109 k0 v2 K n S v3 v5) S (F0 m 109 ls []) := by
  intro n
  induction n with
  | zero => intro S v3 v5 ls hl; exact Sim.none
  | succ n ih =>
    intro S v3 v5 ls hl
    rw [X11_enough_109]
    refine r_iload (pc := 109) C dX11_enough_109 (lv_at hl 3 rfl) ?_
    refine r_aload_n (pc := 111) C dX11_enough_111 rfl (lv_at hl 0 rfl) ?_
    refine gf_X11_95 (pc := 112) C t0 dX11_enough_112 ?_
    refine r_icmp_ge (pc := 115) C (tgt := 144) dX11_enough_115 (by decide) (fun _ => ?_) (fun _ => ?_)
    · exact hK S v3 v5 _ (lv_sub hl [0, 1, 2, 3] rfl)
    · refine r_lload_n (pc := 118) C dX11_enough_118 rfl (lv_at hl 2 rfl) ?_
      refine r_aload_n (pc := 119) C dX11_enough_119 rfl (lv_at hl 0 rfl) ?_
      refine gf_X11_55 (pc := 120) C t0 dX11_enough_120 ?_
      have t36 := ft_11_22 t0
      refine r_iload (pc := 123) C dX11_enough_123 (lv_at hl 3 rfl) ?_
      refine r_iald (pc := 125) C t36 dX11_enough_125 ?_
      refine r_i2l (pc := 126) C dX11_enough_126 ?_
      refine r_aload_n (pc := 127) C dX11_enough_127 rfl (lv_at hl 0 rfl) ?_
      refine r_iload (pc := 128) C dX11_enough_128 (lv_at hl 3 rfl) ?_
      refine r_iload_n (pc := 130) C dX11_enough_130 rfl (lv_at hl 1 rfl) ?_
      refine cv_X11_102 (pc := 131) C t0 hl.1 ⟨Nat.le_of_ble_eq_true rfl, Nat.le_of_ble_eq_true rfl⟩ (Nat.le_of_ble_eq_true rfl) dX11_enough_131 (fun S37 v38 => ?_)
      refine r_i2l (pc := 134) C dX11_enough_134 ?_
      refine r_lmul (pc := 135) C dX11_enough_135 ?_
      refine r_ladd (pc := 136) C dX11_enough_136 ?_
      refine r_topl (fun v39 => ?_)
      refine r_lstore_n (lv2 := [(3, .long v39), (0, .ref (base + k0)), (2, .int v2), (5, .int v5)]) (pc := 137) C dX11_enough_137 rfl hl (Nat.le_of_ble_eq_true rfl) rfl (fun ls hl => ?_)
      refine r_iinc (pc := 138) C (k := 3) (1 : Int32) (fun v40 => [(5, .int v40), (3, .long v39), (0, .ref (base + k0)), (2, .int v2)]) dX11_enough_138 hl rfl (by decide) (Nat.le_of_ble_eq_true rfl) (fun _ => rfl) (fun v40 ls hl => ?_)
      refine r_goto (pc := 141) C (tgt := 109) dX11_enough_141 (by decide) ?_
      exact ih S37 v39 v40 _ (lv_sub hl [2, 3, 1, 0] rfl)

set_option maxHeartbeats 4000000 in
set_option maxRecDepth 100000 in
theorem lp_X11_enough_76 {p : Program} {l : Launch} {e : Env} {s : State} {m : MethodId} {args : Array Value} {below : List Frame} {meth : Method} {c : Code} {D : va_G} {cy : Nat → ClassId} {base tS : Nat} {ls : Array Slot} (C : Cx p rm_X11_enough s m args c RX11 cX11_enough 6 D cy base tS 0 0) (hr : meth.sig.returnType = (some .int)) (hk : meth.locks = false) {k0 : Nat} (t0 : cls k0 = 11) {K : St → Int32 → Option (St × Int32)} (hK : ∀ (S : St) (v2 : Int32) (ls : Array Slot), lv_has ls 6 [(0, .ref (base + k0)), (2, .int v2)] → Sim p l e rm_X11_enough s m args below meth c D cy base 0 0 (fun S1 r => MQ below (QcI D cy base tS S1 r) args s 0 0 (AA base)) (K S v2) S (F0 m 164 ls [])) : ∀ (n : Nat) (S : St) (v2 : Int32) (ls : Array Slot), lv_has ls 6 [(0, .ref (base + k0)), (2, .int v2)] → Sim p l e rm_X11_enough s m args below meth c D cy base 0 0 (fun S1 r => MQ below (QcI D cy base tS S1 r) args s 0 0 (AA base)) (X11_enough_76 k0 K n S v2) S (F0 m 76 ls []) := by
  intro n
  induction n with
  | zero => intro S v2 ls hl; exact Sim.none
  | succ n ih =>
    intro S v2 ls hl
    rw [X11_enough_76]
    refine r_iload_n (pc := 76) C dX11_enough_76 rfl (lv_at hl 1 rfl) ?_
    refine r_aload_n (pc := 77) C dX11_enough_77 rfl (lv_at hl 0 rfl) ?_
    refine gf_X11_95 (pc := 78) C t0 dX11_enough_78 ?_
    refine r_icmp_ge (pc := 81) C (tgt := 164) dX11_enough_81 (by decide) (fun _ => ?_) (fun _ => ?_)
    · exact hK S v2 _ (lv_sub hl [0, 1] rfl)
    · refine r_aload_n (pc := 84) C dX11_enough_84 rfl (lv_at hl 0 rfl) ?_
      refine gf_X11_16 (pc := 85) C t0 dX11_enough_85 ?_
      have t31 := ft_11_4 t0
      refine r_iload_n (pc := 88) C dX11_enough_88 rfl (lv_at hl 1 rfl) ?_
      refine r_lald (pc := 89) C t31 dX11_enough_89 ?_
      refine r_aload_n (pc := 90) C dX11_enough_90 rfl (lv_at hl 0 rfl) ?_
      refine gf_X11_55 (pc := 91) C t0 dX11_enough_91 ?_
      have t32 := ft_11_22 t0
      refine r_iload_n (pc := 94) C dX11_enough_94 rfl (lv_at hl 1 rfl) ?_
      refine r_iald (pc := 95) C t32 dX11_enough_95 ?_
      refine r_i2l (pc := 96) C dX11_enough_96 ?_
      refine r_aload_n (pc := 97) C dX11_enough_97 rfl (lv_at hl 0 rfl) ?_
      refine r_iload_n (pc := 98) C dX11_enough_98 rfl (lv_at hl 1 rfl) ?_
      refine cv_X11_106 (pc := 99) C t0 hl.1 ⟨Nat.le_of_ble_eq_true rfl, Nat.le_of_ble_eq_true rfl⟩ (Nat.le_of_ble_eq_true rfl) dX11_enough_99 (fun S33 v34 => ?_)
      refine r_i2l (pc := 102) C dX11_enough_102 ?_
      refine r_lmul (pc := 103) C dX11_enough_103 ?_
      refine r_lsub (pc := 104) C dX11_enough_104 ?_
      refine r_topl (fun v35 => ?_)
      refine r_lstore_n (lv2 := [(3, .long v35), (0, .ref (base + k0)), (2, .int v2)]) (pc := 105) C dX11_enough_105 rfl hl (Nat.le_of_ble_eq_true rfl) rfl (fun ls hl => ?_)
      refine r_iconst (pc := 106) C (0 : Int32) dX11_enough_106 (by decide) ?_
      refine r_istore (lv2 := [(5, .int (0 : Int32)), (3, .long v35), (0, .ref (base + k0)), (2, .int v2)]) (pc := 107) C dX11_enough_107 hl (Nat.le_of_ble_eq_true rfl) rfl (fun ls hl => ?_)
      refine lp_X11_enough_109 (ls := ls) C hr hk t0 (fun S41 v42 v43 ls hl => ?_) FU S33 v35 (0 : Int32) _ (lv_sub hl [2, 3, 1, 0] rfl)
      refine r_lload_n (pc := 144) C dX11_enough_144 rfl (lv_at hl 2 rfl) ?_
      refine r_aload_n (pc := 145) C dX11_enough_145 rfl (lv_at hl 0 rfl) ?_
      refine r_iload_n (pc := 146) C dX11_enough_146 rfl (lv_at hl 1 rfl) ?_
      refine cv_X11_106 (pc := 147) C t0 hl.1 ⟨Nat.le_of_ble_eq_true rfl, Nat.le_of_ble_eq_true rfl⟩ (Nat.le_of_ble_eq_true rfl) dX11_enough_147 (fun S44 v45 => ?_)
      refine cv_X11_110 (pc := 150) C  hl.1 ⟨Nat.le_of_ble_eq_true rfl, Nat.le_of_ble_eq_true rfl⟩ (Nat.le_of_ble_eq_true rfl) dX11_enough_150 (fun S46 v47 => ?_)
      refine r_if_eq (pc := 153) C (tgt := 158) dX11_enough_153 (by decide) (fun _ => ?_) (fun _ => ?_)
      · refine r_iinc (pc := 158) C (k := 1) (1 : Int32) (fun v48 => [(2, .int v48), (0, .ref (base + k0)), (3, .long v42), (5, .int v43)]) dX11_enough_158 hl rfl (by decide) (Nat.le_of_ble_eq_true rfl) (fun _ => rfl) (fun v48 ls hl => ?_)
        refine r_goto (pc := 161) C (tgt := 76) dX11_enough_161 (by decide) ?_
        exact ih S46 v48 _ (lv_sub hl [1, 0] rfl)
      · refine r_iconst (pc := 156) C (0 : Int32) dX11_enough_156 (by decide) ?_
        exact r_iret (pc := 157) C hr hk dX11_enough_157

set_option maxHeartbeats 4000000 in
set_option maxRecDepth 100000 in
theorem sm_X11_enough {p : Program} {l : Launch} {e : Env} {s : State} {m : MethodId} {args : Array Value} {below : List Frame} {meth : Method} {c : Code} {D : va_G} {cy : Nat → ClassId} {base tS : Nat} {S : St} {k0 : Nat} {ls : Array Slot} (C : Cx p rm_X11_enough s m args c RX11 cX11_enough 6 D cy base tS 0 0) (hr : meth.sig.returnType = (some .int)) (hk : meth.locks = false) (t0 : cls k0 = 11) (hl : lv_has ls 6 [(0, .ref (base + k0))]) : Sim p l e rm_X11_enough s m args below meth c D cy base 0 0 (fun S1 r => MQ below (QcI D cy base tS S1 r) args s 0 0 (AA base)) (X11_enough S k0) S (F0 m 0 ls []) := by
  unfold X11_enough
  refine r_aload_n (pc := 0) C dX11_enough_0 rfl (lv_at hl 0 rfl) ?_
  refine gf_X11_169 (pc := 1) C t0 dX11_enough_1 ?_
  refine r_topi (fun v21 => ?_)
  refine r_istore_n (lv2 := [(1, .int v21), (0, .ref (base + k0))]) (pc := 4) C dX11_enough_4 rfl hl (Nat.le_of_ble_eq_true rfl) rfl (fun ls hl => ?_)
  refine r_aload_n (pc := 5) C dX11_enough_5 rfl (lv_at hl 1 rfl) ?_
  refine r_iconst (pc := 6) C (0 : Int32) dX11_enough_6 (by decide) ?_
  refine pf_X11_169 (pc := 7) C t0 dX11_enough_7 (fun S22 => ?_)
  refine r_aload_n (pc := 10) C dX11_enough_10 rfl (lv_at hl 1 rfl) ?_
  refine gf_X11_114 (pc := 11) C t0 dX11_enough_11 ?_
  refine r_if_ne (pc := 14) C (tgt := 24) dX11_enough_14 (by decide) (fun _ => ?_) (fun _ => ?_)
  · refine r_iload_n (pc := 24) C dX11_enough_24 rfl (lv_at hl 0 rfl) ?_
    refine r_aload_n (pc := 25) C dX11_enough_25 rfl (lv_at hl 1 rfl) ?_
    refine gf_X11_95 (pc := 26) C t0 dX11_enough_26 ?_
    refine r_icmp_eq (pc := 29) C (tgt := 39) dX11_enough_29 (by decide) (fun _ => ?_) (fun _ => ?_)
    · refine r_iconst (pc := 39) C (0 : Int32) dX11_enough_39 (by decide) ?_
      refine r_istore_n (lv2 := [(2, .int (0 : Int32)), (1, .int v21), (0, .ref (base + k0))]) (pc := 40) C dX11_enough_40 rfl hl (Nat.le_of_ble_eq_true rfl) rfl (fun ls hl => ?_)
      refine lp_X11_enough_41 (ls := ls) C hr hk t0 (fun S29 v30 ls hl => ?_) FU S22 (0 : Int32) _ (lv_sub hl [2, 1, 0] rfl)
      refine r_iconst (pc := 74) C (0 : Int32) dX11_enough_74 (by decide) ?_
      refine r_istore_n (lv2 := [(2, .int (0 : Int32)), (0, .ref (base + k0)), (1, .int v21)]) (pc := 75) C dX11_enough_75 rfl hl (Nat.le_of_ble_eq_true rfl) rfl (fun ls hl => ?_)
      refine lp_X11_enough_76 (ls := ls) C hr hk t0 (fun S49 v50 ls hl => ?_) FU S29 (0 : Int32) _ (lv_sub hl [1, 0] rfl)
      refine r_iconst (pc := 164) C (1 : Int32) dX11_enough_164 (by decide) ?_
      exact r_iret (pc := 165) C hr hk dX11_enough_165
    · refine r_aload_n (pc := 32) C dX11_enough_32 rfl (lv_at hl 1 rfl) ?_
      refine r_bipush (pc := 33) C (-3 : Int32) dX11_enough_33 (by decide) ?_
      refine cv_X11_118 (pc := 35) C t0 hl.1 ⟨Nat.le_of_ble_eq_true rfl, Nat.le_of_ble_eq_true rfl⟩ (Nat.le_of_ble_eq_true rfl) dX11_enough_35 (fun S51 v52 => ?_)
      exact r_iret (pc := 38) C hr hk dX11_enough_38
  · refine r_aload_n (pc := 17) C dX11_enough_17 rfl (lv_at hl 1 rfl) ?_
    refine r_bipush (pc := 18) C (-8 : Int32) dX11_enough_18 (by decide) ?_
    refine cv_X11_118 (pc := 20) C t0 hl.1 ⟨Nat.le_of_ble_eq_true rfl, Nat.le_of_ble_eq_true rfl⟩ (Nat.le_of_ble_eq_true rfl) dX11_enough_20 (fun S53 v54 => ?_)
    exact r_iret (pc := 23) C hr hk dX11_enough_23

theorem ct_X11_enough (l : Launch) {D : va_G} {cy : Nat → ClassId} {base tS : Nat} {S : St} {k0 : Nat} (t0 : cls k0 = 11) {S1 : St} {r1 : Int32} (h : X11_enough S k0 = some (S1, r1)) : Met l yX11_enough (wsY yX11_enough cX11_enough 6 (some .int)) rm_X11_enough (va_Pc [.ref (base + k0)] (World D cy base tS S)) (QcI D cy base tS S1 r1) 0 0 (AA base) := conI rfl rfl (by decide) (Nat.le_of_ble_eq_true rfl) (fun p e s m args below meth c ls C hr hk hl => sm_X11_enough C hr hk t0 hl) h
abbrev rm_X11_check : Room := { frames := 4, cells := 0, slots := 0, locals := 92 }
set_option maxHeartbeats 4000000 in
set_option maxRecDepth 100000 in
theorem lp_X11_check_26 {p : Program} {l : Launch} {e : Env} {s : State} {m : MethodId} {args : Array Value} {below : List Frame} {meth : Method} {c : Code} {D : va_G} {cy : Nat → ClassId} {base tS : Nat} {ls : Array Slot} (C : Cx p rm_X11_check s m args c RX11 cX11_check 6 D cy base tS 0 0) (hr : meth.sig.returnType = (some .int)) (hk : meth.locks = false) {k0 : Nat} {v1 : Int32} (t0 : cls k0 = 11) {K : St → Int32 → Option (St × Int32)} (hK : ∀ (S : St) (v2 : Int32) (ls : Array Slot), lv_has ls 6 [(0, .ref (base + k0)), (1, .int v1), (2, .int v2)] → Sim p l e rm_X11_check s m args below meth c D cy base 0 0 (fun S1 r => MQ below (QcI D cy base tS S1 r) args s 0 0 (AA base)) (K S v2) S (F0 m 50 ls [])) : ∀ (n : Nat) (S : St) (v2 : Int32) (ls : Array Slot), lv_has ls 6 [(0, .ref (base + k0)), (1, .int v1), (2, .int v2)] → Sim p l e rm_X11_check s m args below meth c D cy base 0 0 (fun S1 r => MQ below (QcI D cy base tS S1 r) args s 0 0 (AA base)) (X11_check_26 k0 v1 K n S v2) S (F0 m 26 ls []) := by
  intro n
  induction n with
  | zero => intro S v2 ls hl; exact Sim.none
  | succ n ih =>
    intro S v2 ls hl
    rw [X11_check_26]
    refine r_iload_n (pc := 26) C dX11_check_26 rfl (lv_at hl 2 rfl) ?_
    refine r_bipush (pc := 27) C (15 : Int32) dX11_check_27 (by decide) ?_
    refine r_icmp_ge (pc := 29) C (tgt := 50) dX11_check_29 (by decide) (fun _ => ?_) (fun _ => ?_)
    · exact hK S v2 _ (lv_sub hl [0, 1, 2] rfl)
    · refine r_aload_n (pc := 32) C dX11_check_32 rfl (lv_at hl 0 rfl) ?_
      refine gf_X11_76 (pc := 33) C t0 dX11_check_33 ?_
      have t23 := ft_11_32 t0
      refine r_iload_n (pc := 36) C dX11_check_36 rfl (lv_at hl 2 rfl) ?_
      refine r_aload_n (pc := 37) C dX11_check_37 rfl (lv_at hl 0 rfl) ?_
      refine gf_X11_16 (pc := 38) C t0 dX11_check_38 ?_
      have t24 := ft_11_4 t0
      refine r_iload_n (pc := 41) C dX11_check_41 rfl (lv_at hl 2 rfl) ?_
      refine r_lald (pc := 42) C t24 dX11_check_42 ?_
      refine r_last (pc := 43) C t23 dX11_check_43 (fun S25 => ?_)
      refine r_iinc (pc := 44) C (k := 2) (1 : Int32) (fun v26 => [(2, .int v26), (0, .ref (base + k0)), (1, .int v1)]) dX11_check_44 hl rfl (by decide) (Nat.le_of_ble_eq_true rfl) (fun _ => rfl) (fun v26 ls hl => ?_)
      refine r_goto (pc := 47) C (tgt := 26) dX11_check_47 (by decide) ?_
      exact ih S25 v26 _ (lv_sub hl [1, 2, 0] rfl)

set_option maxHeartbeats 4000000 in
set_option maxRecDepth 100000 in
theorem lp_X11_check_52 {p : Program} {l : Launch} {e : Env} {s : State} {m : MethodId} {args : Array Value} {below : List Frame} {meth : Method} {c : Code} {D : va_G} {cy : Nat → ClassId} {base tS : Nat} {ls : Array Slot} (C : Cx p rm_X11_check s m args c RX11 cX11_check 6 D cy base tS 0 0) (hr : meth.sig.returnType = (some .int)) (hk : meth.locks = false) {k0 : Nat} {v1 : Int32} (t0 : cls k0 = 11) {K : St → Int32 → Option (St × Int32)} (hK : ∀ (S : St) (v2 : Int32) (ls : Array Slot), lv_has ls 6 [(0, .ref (base + k0)), (1, .int v1), (2, .int v2)] → Sim p l e rm_X11_check s m args below meth c D cy base 0 0 (fun S1 r => MQ below (QcI D cy base tS S1 r) args s 0 0 (AA base)) (K S v2) S (F0 m 167 ls [])) : ∀ (n : Nat) (S : St) (v2 : Int32) (ls : Array Slot), lv_has ls 6 [(0, .ref (base + k0)), (1, .int v1), (2, .int v2)] → Sim p l e rm_X11_check s m args below meth c D cy base 0 0 (fun S1 r => MQ below (QcI D cy base tS S1 r) args s 0 0 (AA base)) (X11_check_52 k0 v1 K n S v2) S (F0 m 52 ls []) := by
  intro n
  induction n with
  | zero => intro S v2 ls hl; exact Sim.none
  | succ n ih =>
    intro S v2 ls hl
    rw [X11_check_52]
    refine r_iconst (pc := 52) C (2 : Int32) dX11_check_52 (by decide) ?_
    refine r_iload_n (pc := 53) C dX11_check_53 rfl (lv_at hl 2 rfl) ?_
    refine r_imul (pc := 54) C dX11_check_54 ?_
    refine r_iload_n (pc := 55) C dX11_check_55 rfl (lv_at hl 1 rfl) ?_
    refine r_icmp_ge (pc := 56) C (tgt := 167) dX11_check_56 (by decide) (fun _ => ?_) (fun _ => ?_)
    · exact hK S v2 _ (lv_sub hl [0, 1, 2] rfl)
    · refine r_iconst (pc := 59) C (2 : Int32) dX11_check_59 (by decide) ?_
      refine r_iload_n (pc := 60) C dX11_check_60 rfl (lv_at hl 2 rfl) ?_
      refine r_imul (pc := 61) C dX11_check_61 ?_
      refine r_iconst (pc := 62) C (1 : Int32) dX11_check_62 (by decide) ?_
      refine r_iadd (pc := 63) C dX11_check_63 ?_
      refine r_iload_n (pc := 64) C dX11_check_64 rfl (lv_at hl 1 rfl) ?_
      refine r_icmp_ne (pc := 65) C (tgt := 72) dX11_check_65 (by decide) (fun _ => ?_) (fun _ => ?_)
      · refine r_aload_n (pc := 72) C dX11_check_72 rfl (lv_at hl 0 rfl) ?_
        refine gf_X11_55 (pc := 73) C t0 dX11_check_73 ?_
        have t29 := ft_11_22 t0
        refine r_iconst (pc := 76) C (2 : Int32) dX11_check_76 (by decide) ?_
        refine r_iload_n (pc := 77) C dX11_check_77 rfl (lv_at hl 2 rfl) ?_
        refine r_imul (pc := 78) C dX11_check_78 ?_
        refine r_iald (pc := 79) C t29 dX11_check_79 ?_
        refine r_topi (fun v30 => ?_)
        refine r_istore_n (lv2 := [(3, .int v30), (0, .ref (base + k0)), (1, .int v1), (2, .int v2)]) (pc := 80) C dX11_check_80 rfl hl (Nat.le_of_ble_eq_true rfl) rfl (fun ls hl => ?_)
        refine r_aload_n (pc := 81) C dX11_check_81 rfl (lv_at hl 1 rfl) ?_
        refine r_iload_n (pc := 82) C dX11_check_82 rfl (lv_at hl 0 rfl) ?_
        refine cv_X11_121 (pc := 83) C t0 hl.1 ⟨Nat.le_of_ble_eq_true rfl, Nat.le_of_ble_eq_true rfl⟩ (Nat.le_of_ble_eq_true rfl) dX11_check_83 (fun S31 v32 => ?_)
        refine r_join (fun (j : St → Option (St × Int32)) => ∀ (S34 : St)  (ls : Array Slot), lv_has ls 6 [(2, .int v2)] → Sim p l e rm_X11_check s m args below meth c D cy base 0 0 (fun S1 r => MQ below (QcI D cy base tS S1 r) args s 0 0 (AA base)) (j S34) S34 (F0 m 127 ls [])) ?_ (fun j33 hj33 => ?_)
        · intro S34 ls hl
          refine r_iload_n (pc := 127) C dX11_check_127 rfl (lv_at hl 0 rfl) ?_
          refine r_iconst (pc := 128) C (1 : Int32) dX11_check_128 (by decide) ?_
          refine r_iadd (pc := 129) C dX11_check_129 ?_
          exact r_iret (pc := 130) C hr hk dX11_check_130
        refine r_if_eq (pc := 86) C (tgt := 127) dX11_check_86 (by decide) (fun _ => ?_) (fun _ => ?_)
        · exact hj33 S31  _ (lv_sub hl [3] rfl)
        · refine r_aload_n (pc := 89) C dX11_check_89 rfl (lv_at hl 1 rfl) ?_
          refine gf_X11_76 (pc := 90) C t0 dX11_check_90 ?_
          have t35 := ft_11_32 t0
          refine r_iload_n (pc := 93) C dX11_check_93 rfl (lv_at hl 0 rfl) ?_
          refine r_lald (pc := 94) C t35 dX11_check_94 ?_
          refine r_aload_n (pc := 95) C dX11_check_95 rfl (lv_at hl 1 rfl) ?_
          refine r_iload_n (pc := 96) C dX11_check_96 rfl (lv_at hl 0 rfl) ?_
          refine cv_X11_106 (pc := 97) C t0 hl.1 ⟨Nat.le_of_ble_eq_true rfl, Nat.le_of_ble_eq_true rfl⟩ (Nat.le_of_ble_eq_true rfl) dX11_check_97 (fun S36 v37 => ?_)
          refine cv_X11_110 (pc := 100) C  hl.1 ⟨Nat.le_of_ble_eq_true rfl, Nat.le_of_ble_eq_true rfl⟩ (Nat.le_of_ble_eq_true rfl) dX11_check_100 (fun S38 v39 => ?_)
          refine r_if_eq (pc := 103) C (tgt := 127) dX11_check_103 (by decide) (fun _ => ?_) (fun _ => ?_)
          · exact hj33 S38  _ (lv_sub hl [3] rfl)
          · refine r_aload_n (pc := 106) C dX11_check_106 rfl (lv_at hl 1 rfl) ?_
            refine gf_X11_76 (pc := 107) C t0 dX11_check_107 ?_
            have t40 := ft_11_32 t0
            refine r_iload_n (pc := 110) C dX11_check_110 rfl (lv_at hl 0 rfl) ?_
            refine r_lald (pc := 111) C t40 dX11_check_111 ?_
            refine r_aload_n (pc := 112) C dX11_check_112 rfl (lv_at hl 1 rfl) ?_
            refine gf_X11_55 (pc := 113) C t0 dX11_check_113 ?_
            have t41 := ft_11_22 t0
            refine r_iconst (pc := 116) C (2 : Int32) dX11_check_116 (by decide) ?_
            refine r_iload_n (pc := 117) C dX11_check_117 rfl (lv_at hl 3 rfl) ?_
            refine r_imul (pc := 118) C dX11_check_118 ?_
            refine r_iconst (pc := 119) C (1 : Int32) dX11_check_119 (by decide) ?_
            refine r_iadd (pc := 120) C dX11_check_120 ?_
            refine r_iald (pc := 121) C t41 dX11_check_121 ?_
            refine r_i2l (pc := 122) C dX11_check_122 ?_
            refine r_lcmp_eq (pc := 123) C (tgt := 131) dX11_check_123 dX11_check_124 (by decide) (fun _ => ?_) (fun _ => ?_)
            · refine r_aload_n (pc := 131) C dX11_check_131 rfl (lv_at hl 1 rfl) ?_
              refine r_aload_n (pc := 132) C dX11_check_132 rfl (lv_at hl 1 rfl) ?_
              refine gf_X11_76 (pc := 133) C t0 dX11_check_133 ?_
              have t42 := ft_11_32 t0
              refine r_iload_n (pc := 136) C dX11_check_136 rfl (lv_at hl 0 rfl) ?_
              refine cv_X11_162 (pc := 137) C t0 t42 hl.1 ⟨Nat.le_of_ble_eq_true rfl, Nat.le_of_ble_eq_true rfl⟩ (Nat.le_of_ble_eq_true rfl) dX11_check_137 (fun S43 v44 => ?_)
              refine r_if_eq (pc := 140) C (tgt := 150) dX11_check_140 (by decide) (fun _ => ?_) (fun _ => ?_)
              · refine r_aload_n (pc := 150) C dX11_check_150 rfl (lv_at hl 1 rfl) ?_
                refine r_aload_n (pc := 151) C dX11_check_151 rfl (lv_at hl 1 rfl) ?_
                refine gf_X11_76 (pc := 152) C t0 dX11_check_152 ?_
                have t45 := ft_11_32 t0
                refine r_iload_n (pc := 155) C dX11_check_155 rfl (lv_at hl 0 rfl) ?_
                refine cv_X11_166 (pc := 156) C t0 t45 hl.1 ⟨Nat.le_of_ble_eq_true rfl, Nat.le_of_ble_eq_true rfl⟩ (Nat.le_of_ble_eq_true rfl) dX11_check_156 (fun S46 v47 => ?_)
                refine r_lstore (lv2 := [(4, .long v47), (3, .int v30), (0, .ref (base + k0)), (1, .int v1), (2, .int v2)]) (pc := 159) C dX11_check_159 hl (Nat.le_of_ble_eq_true rfl) rfl (fun ls hl => ?_)
                refine r_iinc (pc := 161) C (k := 4) (1 : Int32) (fun v48 => [(2, .int v48), (4, .long v47), (3, .int v30), (0, .ref (base + k0)), (1, .int v1)]) dX11_check_161 hl rfl (by decide) (Nat.le_of_ble_eq_true rfl) (fun _ => rfl) (fun v48 ls hl => ?_)
                refine r_goto (pc := 164) C (tgt := 52) dX11_check_164 (by decide) ?_
                exact ih S46 v48 _ (lv_sub hl [3, 4, 0] rfl)
              · refine r_aload_n (pc := 143) C dX11_check_143 rfl (lv_at hl 1 rfl) ?_
                refine r_bipush (pc := 144) C (-5 : Int32) dX11_check_144 (by decide) ?_
                refine cv_X11_118 (pc := 146) C t0 hl.1 ⟨Nat.le_of_ble_eq_true rfl, Nat.le_of_ble_eq_true rfl⟩ (Nat.le_of_ble_eq_true rfl) dX11_check_146 (fun S49 v50 => ?_)
                exact r_iret (pc := 149) C hr hk dX11_check_149
            · exact hj33 S38  _ (lv_sub hl [3] rfl)
      · refine r_iload_n (pc := 68) C dX11_check_68 rfl (lv_at hl 2 rfl) ?_
        refine r_iconst (pc := 69) C (1 : Int32) dX11_check_69 (by decide) ?_
        refine r_iadd (pc := 70) C dX11_check_70 ?_
        exact r_iret (pc := 71) C hr hk dX11_check_71

set_option maxHeartbeats 4000000 in
set_option maxRecDepth 100000 in
theorem lp_X11_check_169 {p : Program} {l : Launch} {e : Env} {s : State} {m : MethodId} {args : Array Value} {below : List Frame} {meth : Method} {c : Code} {D : va_G} {cy : Nat → ClassId} {base tS : Nat} {ls : Array Slot} (C : Cx p rm_X11_check s m args c RX11 cX11_check 6 D cy base tS 0 0) (hr : meth.sig.returnType = (some .int)) (hk : meth.locks = false) {k0 : Nat} (t0 : cls k0 = 11) {K : St → Int32 → Option (St × Int32)} (hK : ∀ (S : St) (v2 : Int32) (ls : Array Slot), lv_has ls 6 [(0, .ref (base + k0)), (2, .int v2)] → Sim p l e rm_X11_check s m args below meth c D cy base 0 0 (fun S1 r => MQ below (QcI D cy base tS S1 r) args s 0 0 (AA base)) (K S v2) S (F0 m 204 ls [])) : ∀ (n : Nat) (S : St) (v2 : Int32) (ls : Array Slot), lv_has ls 6 [(0, .ref (base + k0)), (2, .int v2)] → Sim p l e rm_X11_check s m args below meth c D cy base 0 0 (fun S1 r => MQ below (QcI D cy base tS S1 r) args s 0 0 (AA base)) (X11_check_169 k0 K n S v2) S (F0 m 169 ls []) := by
  intro n
  induction n with
  | zero => intro S v2 ls hl; exact Sim.none
  | succ n ih =>
    intro S v2 ls hl
    rw [X11_check_169]
    refine r_iload_n (pc := 169) C dX11_check_169 rfl (lv_at hl 1 rfl) ?_
    refine r_aload_n (pc := 170) C dX11_check_170 rfl (lv_at hl 0 rfl) ?_
    refine gf_X11_95 (pc := 171) C t0 dX11_check_171 ?_
    refine r_icmp_ge (pc := 174) C (tgt := 204) dX11_check_174 (by decide) (fun _ => ?_) (fun _ => ?_)
    · exact hK S v2 _ (lv_sub hl [0, 1] rfl)
    · refine r_aload_n (pc := 177) C dX11_check_177 rfl (lv_at hl 0 rfl) ?_
      refine gf_X11_76 (pc := 178) C t0 dX11_check_178 ?_
      have t53 := ft_11_32 t0
      refine r_iload_n (pc := 181) C dX11_check_181 rfl (lv_at hl 1 rfl) ?_
      refine r_lald (pc := 182) C t53 dX11_check_182 ?_
      refine r_aload_n (pc := 183) C dX11_check_183 rfl (lv_at hl 0 rfl) ?_
      refine r_iload_n (pc := 184) C dX11_check_184 rfl (lv_at hl 1 rfl) ?_
      refine cv_X11_106 (pc := 185) C t0 hl.1 ⟨Nat.le_of_ble_eq_true rfl, Nat.le_of_ble_eq_true rfl⟩ (Nat.le_of_ble_eq_true rfl) dX11_check_185 (fun S54 v55 => ?_)
      refine cv_X11_110 (pc := 188) C  hl.1 ⟨Nat.le_of_ble_eq_true rfl, Nat.le_of_ble_eq_true rfl⟩ (Nat.le_of_ble_eq_true rfl) dX11_check_188 (fun S56 v57 => ?_)
      refine r_if_eq (pc := 191) C (tgt := 198) dX11_check_191 (by decide) (fun _ => ?_) (fun _ => ?_)
      · refine r_iinc (pc := 198) C (k := 1) (1 : Int32) (fun v58 => [(2, .int v58), (0, .ref (base + k0))]) dX11_check_198 hl rfl (by decide) (Nat.le_of_ble_eq_true rfl) (fun _ => rfl) (fun v58 ls hl => ?_)
        refine r_goto (pc := 201) C (tgt := 169) dX11_check_201 (by decide) ?_
        exact ih S56 v58 _ (lv_sub hl [1, 0] rfl)
      · refine r_sipush (pc := 194) C (1000 : Int32) dX11_check_194 (by decide) ?_
        exact r_iret (pc := 197) C hr hk dX11_check_197

set_option maxHeartbeats 4000000 in
set_option maxRecDepth 100000 in
theorem sm_X11_check {p : Program} {l : Launch} {e : Env} {s : State} {m : MethodId} {args : Array Value} {below : List Frame} {meth : Method} {c : Code} {D : va_G} {cy : Nat → ClassId} {base tS : Nat} {S : St} {k0 : Nat} {ls : Array Slot} (C : Cx p rm_X11_check s m args c RX11 cX11_check 6 D cy base tS 0 0) (hr : meth.sig.returnType = (some .int)) (hk : meth.locks = false) (t0 : cls k0 = 11) (hl : lv_has ls 6 [(0, .ref (base + k0))]) : Sim p l e rm_X11_check s m args below meth c D cy base 0 0 (fun S1 r => MQ below (QcI D cy base tS S1 r) args s 0 0 (AA base)) (X11_check S k0) S (F0 m 0 ls []) := by
  unfold X11_check
  refine r_aload_n (pc := 0) C dX11_check_0 rfl (lv_at hl 0 rfl) ?_
  refine gf_X11_169 (pc := 1) C t0 dX11_check_1 ?_
  refine r_topi (fun v21 => ?_)
  refine r_istore_n (lv2 := [(1, .int v21), (0, .ref (base + k0))]) (pc := 4) C dX11_check_4 rfl hl (Nat.le_of_ble_eq_true rfl) rfl (fun ls hl => ?_)
  refine r_aload_n (pc := 5) C dX11_check_5 rfl (lv_at hl 1 rfl) ?_
  refine r_iconst (pc := 6) C (0 : Int32) dX11_check_6 (by decide) ?_
  refine pf_X11_169 (pc := 7) C t0 dX11_check_7 (fun S22 => ?_)
  refine r_aload_n (pc := 10) C dX11_check_10 rfl (lv_at hl 1 rfl) ?_
  refine gf_X11_114 (pc := 11) C t0 dX11_check_11 ?_
  refine r_if_ne (pc := 14) C (tgt := 24) dX11_check_14 (by decide) (fun _ => ?_) (fun _ => ?_)
  · refine r_iconst (pc := 24) C (0 : Int32) dX11_check_24 (by decide) ?_
    refine r_istore_n (lv2 := [(2, .int (0 : Int32)), (1, .int v21), (0, .ref (base + k0))]) (pc := 25) C dX11_check_25 rfl hl (Nat.le_of_ble_eq_true rfl) rfl (fun ls hl => ?_)
    refine lp_X11_check_26 (ls := ls) C hr hk t0 (fun S27 v28 ls hl => ?_) FU S22 (0 : Int32) _ (lv_sub hl [2, 1, 0] rfl)
    refine r_iconst (pc := 50) C (0 : Int32) dX11_check_50 (by decide) ?_
    refine r_istore_n (lv2 := [(2, .int (0 : Int32)), (0, .ref (base + k0)), (1, .int v21)]) (pc := 51) C dX11_check_51 rfl hl (Nat.le_of_ble_eq_true rfl) rfl (fun ls hl => ?_)
    refine lp_X11_check_52 (ls := ls) C hr hk t0 (fun S51 v52 ls hl => ?_) FU S27 (0 : Int32) _ (lv_sub hl [1, 2, 0] rfl)
    refine r_iconst (pc := 167) C (0 : Int32) dX11_check_167 (by decide) ?_
    refine r_istore_n (lv2 := [(2, .int (0 : Int32)), (0, .ref (base + k0)), (1, .int v21)]) (pc := 168) C dX11_check_168 rfl hl (Nat.le_of_ble_eq_true rfl) rfl (fun ls hl => ?_)
    refine lp_X11_check_169 (ls := ls) C hr hk t0 (fun S59 v60 ls hl => ?_) FU S51 (0 : Int32) _ (lv_sub hl [1, 0] rfl)
    refine r_iconst (pc := 204) C (0 : Int32) dX11_check_204 (by decide) ?_
    exact r_iret (pc := 205) C hr hk dX11_check_205
  · refine r_aload_n (pc := 17) C dX11_check_17 rfl (lv_at hl 1 rfl) ?_
    refine r_bipush (pc := 18) C (-8 : Int32) dX11_check_18 (by decide) ?_
    refine cv_X11_118 (pc := 20) C t0 hl.1 ⟨Nat.le_of_ble_eq_true rfl, Nat.le_of_ble_eq_true rfl⟩ (Nat.le_of_ble_eq_true rfl) dX11_check_20 (fun S61 v62 => ?_)
    exact r_iret (pc := 23) C hr hk dX11_check_23

theorem ct_X11_check (l : Launch) {D : va_G} {cy : Nat → ClassId} {base tS : Nat} {S : St} {k0 : Nat} (t0 : cls k0 = 11) {S1 : St} {r1 : Int32} (h : X11_check S k0 = some (S1, r1)) : Met l yX11_check (wsY yX11_check cX11_check 6 (some .int)) rm_X11_check (va_Pc [.ref (base + k0)] (World D cy base tS S)) (QcI D cy base tS S1 r1) 0 0 (AA base) := conI rfl rfl (by decide) (Nat.le_of_ble_eq_true rfl) (fun p e s m args below meth c ls C hr hk hl => sm_X11_check C hr hk t0 hl) h
abbrev rm_X11_told : Room := { frames := 3, cells := 0, slots := 0, locals := 67 }
set_option maxHeartbeats 4000000 in
set_option maxRecDepth 100000 in
theorem lp_X11_told_100 {p : Program} {l : Launch} {e : Env} {s : State} {m : MethodId} {args : Array Value} {below : List Frame} {meth : Method} {c : Code} {D : va_G} {cy : Nat → ClassId} {base tS : Nat} {ls : Array Slot} (C : Cx p rm_X11_told s m args c RX11 cX11_told 5 D cy base tS 0 0) (hr : meth.sig.returnType = (some .int)) (hk : meth.locks = false) {k0 : Nat} (t0 : cls k0 = 11) {K : St → Int64 → Int32 → Option (St × Int32)} (hK : ∀ (S : St) (v2 : Int64) (v4 : Int32) (ls : Array Slot), lv_has ls 5 [(0, .ref (base + k0)), (2, .long v2), (4, .int v4)] → Sim p l e rm_X11_told s m args below meth c D cy base 0 0 (fun S1 r => MQ below (QcI D cy base tS S1 r) args s 0 0 (AA base)) (K S v2 v4) S (F0 m 125 ls [])) : ∀ (n : Nat) (S : St) (v2 : Int64) (v4 : Int32) (ls : Array Slot), lv_has ls 5 [(0, .ref (base + k0)), (2, .long v2), (4, .int v4)] → Sim p l e rm_X11_told s m args below meth c D cy base 0 0 (fun S1 r => MQ below (QcI D cy base tS S1 r) args s 0 0 (AA base)) (X11_told_100 k0 K n S v2 v4) S (F0 m 100 ls []) := by
  intro n
  induction n with
  | zero => intro S v2 v4 ls hl; exact Sim.none
  | succ n ih =>
    intro S v2 v4 ls hl
    rw [X11_told_100]
    refine r_iload (pc := 100) C dX11_told_100 (lv_at hl 2 rfl) ?_
    refine r_aload_n (pc := 102) C dX11_told_102 rfl (lv_at hl 0 rfl) ?_
    refine gf_X11_95 (pc := 103) C t0 dX11_told_103 ?_
    refine r_icmp_ge (pc := 106) C (tgt := 125) dX11_told_106 (by decide) (fun _ => ?_) (fun _ => ?_)
    · exact hK S v2 v4 _ (lv_sub hl [0, 1, 2] rfl)
    · refine r_lload_n (pc := 109) C dX11_told_109 rfl (lv_at hl 1 rfl) ?_
      refine r_aload_n (pc := 110) C dX11_told_110 rfl (lv_at hl 0 rfl) ?_
      refine gf_X11_16 (pc := 111) C t0 dX11_told_111 ?_
      have t29 := ft_11_4 t0
      refine r_iload (pc := 114) C dX11_told_114 (lv_at hl 2 rfl) ?_
      refine r_lald (pc := 116) C t29 dX11_told_116 ?_
      refine r_ladd (pc := 117) C dX11_told_117 ?_
      refine r_topl (fun v30 => ?_)
      refine r_lstore_n (lv2 := [(2, .long v30), (0, .ref (base + k0)), (4, .int v4)]) (pc := 118) C dX11_told_118 rfl hl (Nat.le_of_ble_eq_true rfl) rfl (fun ls hl => ?_)
      refine r_iinc (pc := 119) C (k := 2) (1 : Int32) (fun v31 => [(4, .int v31), (2, .long v30), (0, .ref (base + k0))]) dX11_told_119 hl rfl (by decide) (Nat.le_of_ble_eq_true rfl) (fun _ => rfl) (fun v31 ls hl => ?_)
      refine r_goto (pc := 122) C (tgt := 100) dX11_told_122 (by decide) ?_
      exact ih S v30 v31 _ (lv_sub hl [2, 1, 0] rfl)

set_option maxHeartbeats 4000000 in
set_option maxRecDepth 100000 in
theorem sm_X11_told {p : Program} {l : Launch} {e : Env} {s : State} {m : MethodId} {args : Array Value} {below : List Frame} {meth : Method} {c : Code} {D : va_G} {cy : Nat → ClassId} {base tS : Nat} {S : St} {k0 : Nat} {v1 : Int32} {ls : Array Slot} (C : Cx p rm_X11_told s m args c RX11 cX11_told 5 D cy base tS 0 0) (hr : meth.sig.returnType = (some .int)) (hk : meth.locks = false) (t0 : cls k0 = 11) (hl : lv_has ls 5 [(0, .ref (base + k0)), (1, .int v1)]) : Sim p l e rm_X11_told s m args below meth c D cy base 0 0 (fun S1 r => MQ below (QcI D cy base tS S1 r) args s 0 0 (AA base)) (X11_told S k0 v1) S (F0 m 0 ls []) := by
  unfold X11_told
  refine r_iload_n (pc := 0) C dX11_told_0 rfl (lv_at hl 1 rfl) ?_
  refine r_ite (fun h21 => ?_) (fun h21 => ?_)
  · refine r_tblIn (pc := 1) C (tgt := 52) (0 : Int32) h21 dX11_told_1 (by decide) (by decide) rfl (by decide) ?_
    refine r_aload_n (pc := 52) C dX11_told_52 rfl (lv_at hl 0 rfl) ?_
    refine gf_X11_125 (pc := 53) C t0 dX11_told_53 ?_
    exact r_iret (pc := 56) C hr hk dX11_told_56
  refine r_ite (fun h22 => ?_) (fun h22 => ?_)
  · refine r_tblIn (pc := 1) C (tgt := 57) (1 : Int32) h22 dX11_told_1 (by decide) (by decide) rfl (by decide) ?_
    refine r_aload_n (pc := 57) C dX11_told_57 rfl (lv_at hl 0 rfl) ?_
    refine gf_X11_95 (pc := 58) C t0 dX11_told_58 ?_
    exact r_iret (pc := 61) C hr hk dX11_told_61
  refine r_ite (fun h23 => ?_) (fun h23 => ?_)
  · refine r_tblIn (pc := 1) C (tgt := 62) (2 : Int32) h23 dX11_told_1 (by decide) (by decide) rfl (by decide) ?_
    refine r_aload_n (pc := 62) C dX11_told_62 rfl (lv_at hl 0 rfl) ?_
    refine gf_X11_114 (pc := 63) C t0 dX11_told_63 ?_
    refine r_if_eq (pc := 66) C (tgt := 73) dX11_told_66 (by decide) (fun _ => ?_) (fun _ => ?_)
    · refine r_iconst (pc := 73) C (0 : Int32) dX11_told_73 (by decide) ?_
      exact r_iret (pc := 74) C hr hk dX11_told_74
    · refine r_iconst (pc := 69) C (1 : Int32) dX11_told_69 (by decide) ?_
      refine r_goto (pc := 70) C (tgt := 74) dX11_told_70 (by decide) ?_
      exact r_iret (pc := 74) C hr hk dX11_told_74
  refine r_ite (fun h28 => ?_) (fun h28 => ?_)
  · refine r_tblIn (pc := 1) C (tgt := 75) (3 : Int32) h28 dX11_told_1 (by decide) (by decide) rfl (by decide) ?_
    refine r_aload_n (pc := 75) C dX11_told_75 rfl (lv_at hl 0 rfl) ?_
    refine gf_X11_114 (pc := 76) C t0 dX11_told_76 ?_
    refine r_join (fun (j : St → Option (St × Int32)) => ∀ (S25 : St)  (ls : Array Slot), lv_has ls 5 [] → Sim p l e rm_X11_told s m args below meth c D cy base 0 0 (fun S1 r => MQ below (QcI D cy base tS S1 r) args s 0 0 (AA base)) (j S25) S25 (F0 m 93 ls [])) ?_ (fun j24 hj24 => ?_)
    · intro S25 ls hl
      refine r_iconst (pc := 93) C (0 : Int32) dX11_told_93 (by decide) ?_
      exact r_iret (pc := 94) C hr hk dX11_told_94
    refine r_if_eq (pc := 79) C (tgt := 93) dX11_told_79 (by decide) (fun _ => ?_) (fun _ => ?_)
    · exact hj24 S  _ (lv_sub hl [] rfl)
    · refine r_aload_n (pc := 82) C dX11_told_82 rfl (lv_at hl 0 rfl) ?_
      refine cv_X11_151 (pc := 83) C t0 hl.1 ⟨Nat.le_of_ble_eq_true rfl, Nat.le_of_ble_eq_true rfl⟩ (Nat.le_of_ble_eq_true rfl) dX11_told_83 (fun S26 v27 => ?_)
      refine r_if_ne (pc := 86) C (tgt := 93) dX11_told_86 (by decide) (fun _ => ?_) (fun _ => ?_)
      · exact hj24 S26  _ (lv_sub hl [] rfl)
      · refine r_iconst (pc := 89) C (1 : Int32) dX11_told_89 (by decide) ?_
        refine r_goto (pc := 90) C (tgt := 94) dX11_told_90 (by decide) ?_
        exact r_iret (pc := 94) C hr hk dX11_told_94
  refine r_ite (fun h35 => ?_) (fun h35 => ?_)
  · refine r_tblIn (pc := 1) C (tgt := 95) (4 : Int32) h35 dX11_told_1 (by decide) (by decide) rfl (by decide) ?_
    refine r_lconst (pc := 95) C (0 : Int64) dX11_told_95 (by decide) ?_
    refine r_lstore_n (lv2 := [(2, .long (0 : Int64)), (0, .ref (base + k0)), (1, .int v1)]) (pc := 96) C dX11_told_96 rfl hl (Nat.le_of_ble_eq_true rfl) rfl (fun ls hl => ?_)
    refine r_iconst (pc := 97) C (0 : Int32) dX11_told_97 (by decide) ?_
    refine r_istore (lv2 := [(4, .int (0 : Int32)), (2, .long (0 : Int64)), (0, .ref (base + k0)), (1, .int v1)]) (pc := 98) C dX11_told_98 hl (Nat.le_of_ble_eq_true rfl) rfl (fun ls hl => ?_)
    refine lp_X11_told_100 (ls := ls) C hr hk t0 (fun S32 v33 v34 ls hl => ?_) FU S (0 : Int64) (0 : Int32) _ (lv_sub hl [2, 1, 0] rfl)
    refine r_lload_n (pc := 125) C dX11_told_125 rfl (lv_at hl 1 rfl) ?_
    refine r_l2i (pc := 126) C dX11_told_126 ?_
    exact r_iret (pc := 127) C hr hk dX11_told_127
  refine r_ite (fun h36 => ?_) (fun h36 => ?_)
  · refine r_tblIn (pc := 1) C (tgt := 128) (5 : Int32) h36 dX11_told_1 (by decide) (by decide) rfl (by decide) ?_
    refine r_aload_n (pc := 128) C dX11_told_128 rfl (lv_at hl 0 rfl) ?_
    refine gf_X11_169 (pc := 129) C t0 dX11_told_129 ?_
    exact r_iret (pc := 132) C hr hk dX11_told_132
  refine r_ite (fun h37 => ?_) (fun h37 => ?_)
  · refine r_tblIn (pc := 1) C (tgt := 133) (6 : Int32) h37 dX11_told_1 (by decide) (by decide) rfl (by decide) ?_
    refine r_aload_n (pc := 133) C dX11_told_133 rfl (lv_at hl 0 rfl) ?_
    refine gf_X11_23 (pc := 134) C t0 dX11_told_134 ?_
    refine r_l2i (pc := 137) C dX11_told_137 ?_
    exact r_iret (pc := 138) C hr hk dX11_told_138
  refine r_ite (fun h38 => ?_) (fun h38 => ?_)
  · refine r_tblIn (pc := 1) C (tgt := 139) (7 : Int32) h38 dX11_told_1 (by decide) (by decide) rfl (by decide) ?_
    refine r_aload_n (pc := 139) C dX11_told_139 rfl (lv_at hl 0 rfl) ?_
    refine gf_X11_140 (pc := 140) C t0 dX11_told_140 ?_
    exact r_iret (pc := 143) C hr hk dX11_told_143
  refine r_ite (fun h39 => ?_) (fun h39 => ?_)
  · refine r_tblIn (pc := 1) C (tgt := 144) (8 : Int32) h39 dX11_told_1 (by decide) (by decide) rfl (by decide) ?_
    refine r_aload_n (pc := 144) C dX11_told_144 rfl (lv_at hl 0 rfl) ?_
    refine gf_X11_91 (pc := 145) C t0 dX11_told_145 ?_
    exact r_iret (pc := 148) C hr hk dX11_told_148
  refine r_tblOut (pc := 1) C (tgt := 149) dX11_told_1 (by have g0 : ¬ (v1).toInt = 0 := i32ne h21; have g1 : ¬ (v1).toInt = 1 := i32ne h22; have g2 : ¬ (v1).toInt = 2 := i32ne h23; have g3 : ¬ (v1).toInt = 3 := i32ne h28; have g4 : ¬ (v1).toInt = 4 := i32ne h35; have g5 : ¬ (v1).toInt = 5 := i32ne h36; have g6 : ¬ (v1).toInt = 6 := i32ne h37; have g7 : ¬ (v1).toInt = 7 := i32ne h38; have g8 : ¬ (v1).toInt = 8 := i32ne h39; omega) (by decide) ?_
  refine r_aload_n (pc := 149) C dX11_told_149 rfl (lv_at hl 0 rfl) ?_
  refine r_iconst (pc := 150) C (-1 : Int32) dX11_told_150 (by decide) ?_
  refine cv_X11_118 (pc := 151) C t0 hl.1 ⟨Nat.le_of_ble_eq_true rfl, Nat.le_of_ble_eq_true rfl⟩ (Nat.le_of_ble_eq_true rfl) dX11_told_151 (fun S40 v41 => ?_)
  exact r_iret (pc := 154) C hr hk dX11_told_154

theorem ct_X11_told (l : Launch) {D : va_G} {cy : Nat → ClassId} {base tS : Nat} {S : St} {k0 : Nat} {v1 : Int32} (t0 : cls k0 = 11) {S1 : St} {r1 : Int32} (h : X11_told S k0 v1 = some (S1, r1)) : Met l yX11_told (wsY yX11_told cX11_told 5 (some .int)) rm_X11_told (va_Pc [.ref (base + k0), .int v1] (World D cy base tS S)) (QcI D cy base tS S1 r1) 0 0 (AA base) := conI rfl rfl (by decide) (Nat.le_of_ble_eq_true rfl) (fun p e s m args below meth c ls C hr hk hl => sm_X11_told C hr hk t0 hl) h
