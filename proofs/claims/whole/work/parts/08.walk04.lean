abbrev rm_X11_begin : Room := { frames := 1, cells := 0, slots := 0, locals := 22 }
set_option maxHeartbeats 4000000 in
set_option maxRecDepth 100000 in
theorem lp_X11_begin_66 {p : Program} {l : Launch} {e : Env} {s : State} {m : MethodId} {args : Array Value} {below : List Frame} {meth : Method} {c : Code} {D : va_G} {cy : Nat → ClassId} {base tS : Nat} {ls : Array Slot} (C : Cx p rm_X11_begin s m args c RX11 cX11_begin 6 D cy base tS 0 0) (hr : meth.sig.returnType = (some .int)) (hk : meth.locks = false) {k0 : Nat} {v1 : Int32} {v2 : Int32} {v3 : Int32} (t0 : cls k0 = 11) {K : St → Int32 → Int32 → Option (St × Int32)} (hK : ∀ (S : St) (v4 : Int32) (v5 : Int32) (ls : Array Slot), lv_has ls 6 [(0, .ref (base + k0)), (1, .int v1), (2, .int v2), (3, .int v3), (4, .int v4), (5, .int v5)] → Sim p l e rm_X11_begin s m args below meth c D cy base 0 0 (fun S1 r => MQ below (QcI D cy base tS S1 r) args s 0 0 (AA base)) (K S v4 v5) S (F0 m 118 ls [])) : ∀ (n : Nat) (S : St) (v4 : Int32) (v5 : Int32) (ls : Array Slot), lv_has ls 6 [(0, .ref (base + k0)), (1, .int v1), (2, .int v2), (3, .int v3), (4, .int v4), (5, .int v5)] → Sim p l e rm_X11_begin s m args below meth c D cy base 0 0 (fun S1 r => MQ below (QcI D cy base tS S1 r) args s 0 0 (AA base)) (X11_begin_66 k0 v1 v2 v3 K n S v4 v5) S (F0 m 66 ls []) := by
  intro n
  induction n with
  | zero => intro S v4 v5 ls hl; exact Sim.none
  | succ n ih =>
    intro S v4 v5 ls hl
    rw [X11_begin_66]
    refine r_iload (pc := 66) C dX11_begin_66 (lv_at hl 5 rfl) ?_
    refine r_bipush (pc := 68) C (15 : Int32) dX11_begin_68 (by decide) ?_
    refine r_icmp_ge (pc := 70) C (tgt := 118) dX11_begin_70 (by decide) (fun _ => ?_) (fun _ => ?_)
    · exact hK S v4 v5 _ (lv_sub hl [0, 1, 2, 3, 4, 5] rfl)
    · refine r_iload (pc := 73) C dX11_begin_73 (lv_at hl 4 rfl) ?_
      refine r_join (fun (j : St → Int32 → Option (St × Int32)) => ∀ (S27 : St) (v28 : Int32) (ls : Array Slot), lv_has ls 6 [(0, .ref (base + k0)), (1, .int v1), (2, .int v2), (3, .int v3), (5, .int v5)] → Sim p l e rm_X11_begin s m args below meth c D cy base 0 0 (fun S1 r => MQ below (QcI D cy base tS S1 r) args s 0 0 (AA base)) (j S27 v28) S27 (F0 m 110 ls [.int v28])) ?_ (fun j26 hj26 => ?_)
      · intro S27 v28 ls hl
        refine r_istore (lv2 := [(4, .int v28), (0, .ref (base + k0)), (1, .int v1), (2, .int v2), (3, .int v3), (5, .int v5)]) (pc := 110) C dX11_begin_110 hl (Nat.le_of_ble_eq_true rfl) rfl (fun ls hl => ?_)
        refine r_iinc (pc := 112) C (k := 5) (1 : Int32) (fun v29 => [(5, .int v29), (4, .int v28), (0, .ref (base + k0)), (1, .int v1), (2, .int v2), (3, .int v3)]) dX11_begin_112 hl rfl (by decide) (Nat.le_of_ble_eq_true rfl) (fun _ => rfl) (fun v29 ls hl => ?_)
        refine r_goto (pc := 115) C (tgt := 66) dX11_begin_115 (by decide) ?_
        exact ih S27 v28 v29 _ (lv_sub hl [2, 3, 4, 5, 1, 0] rfl)
      refine r_join (fun (j : St → Option (St × Int32)) => ∀ (S31 : St)  (ls : Array Slot), lv_has ls 6 [(0, .ref (base + k0)), (1, .int v1), (2, .int v2), (3, .int v3), (5, .int v5)] → Sim p l e rm_X11_begin s m args below meth c D cy base 0 0 (fun S1 r => MQ below (QcI D cy base tS S1 r) args s 0 0 (AA base)) (j S31) S31 (F0 m 105 ls [])) ?_ (fun j30 hj30 => ?_)
      · intro S31 ls hl
        refine r_iconst (pc := 105) C (1 : Int32) dX11_begin_105 (by decide) ?_
        refine r_goto (pc := 106) C (tgt := 110) dX11_begin_106 (by decide) ?_
        exact hj26 S31 (1 : Int32) _ (lv_sub hl [0, 1, 2, 3, 4] rfl)
      refine r_if_ne (pc := 75) C (tgt := 105) dX11_begin_75 (by decide) (fun _ => ?_) (fun _ => ?_)
      · exact hj30 S  _ (lv_sub hl [0, 1, 2, 3, 5] rfl)
      · refine r_aload_n (pc := 78) C dX11_begin_78 rfl (lv_at hl 0 rfl) ?_
        refine r_iload_n (pc := 79) C dX11_begin_79 rfl (lv_at hl 3 rfl) ?_
        refine r_iload (pc := 80) C dX11_begin_80 (lv_at hl 5 rfl) ?_
        refine cv_X11_102 (pc := 82) C t0 hl.1 ⟨Nat.le_of_ble_eq_true rfl, Nat.le_of_ble_eq_true rfl⟩ (Nat.le_of_ble_eq_true rfl) dX11_begin_82 (fun S32 v33 => ?_)
        refine r_join (fun (j : St → Option (St × Int32)) => ∀ (S35 : St)  (ls : Array Slot), lv_has ls 6 [(0, .ref (base + k0)), (1, .int v1), (2, .int v2), (3, .int v3), (5, .int v5)] → Sim p l e rm_X11_begin s m args below meth c D cy base 0 0 (fun S1 r => MQ below (QcI D cy base tS S1 r) args s 0 0 (AA base)) (j S35) S35 (F0 m 109 ls [])) ?_ (fun j34 hj34 => ?_)
        · intro S35 ls hl
          refine r_iconst (pc := 109) C (0 : Int32) dX11_begin_109 (by decide) ?_
          exact hj26 S35 (0 : Int32) _ (lv_sub hl [0, 1, 2, 3, 4] rfl)
        refine r_if_le (pc := 85) C (tgt := 109) dX11_begin_85 (by decide) (fun _ => ?_) (fun _ => ?_)
        · exact hj34 S32  _ (lv_sub hl [0, 1, 2, 3, 5] rfl)
        · refine r_iload (pc := 88) C dX11_begin_88 (lv_at hl 5 rfl) ?_
          refine r_bipush (pc := 90) C (11 : Int32) dX11_begin_90 (by decide) ?_
          refine r_icmp_gt (pc := 92) C (tgt := 105) dX11_begin_92 (by decide) (fun _ => ?_) (fun _ => ?_)
          · exact hj30 S32  _ (lv_sub hl [0, 1, 2, 3, 5] rfl)
          · refine r_iload_n (pc := 95) C dX11_begin_95 rfl (lv_at hl 1 rfl) ?_
            refine r_iload (pc := 96) C dX11_begin_96 (lv_at hl 5 rfl) ?_
            refine r_ishr (pc := 98) C dX11_begin_98 ?_
            refine r_iconst (pc := 99) C (1 : Int32) dX11_begin_99 (by decide) ?_
            refine r_iand (pc := 100) C dX11_begin_100 ?_
            refine r_iconst (pc := 101) C (1 : Int32) dX11_begin_101 (by decide) ?_
            refine r_icmp_ne (pc := 102) C (tgt := 109) dX11_begin_102 (by decide) (fun _ => ?_) (fun _ => ?_)
            · exact hj34 S32  _ (lv_sub hl [0, 1, 2, 3, 5] rfl)
            · exact hj30 S32  _ (lv_sub hl [0, 1, 2, 3, 5] rfl)

set_option maxHeartbeats 4000000 in
set_option maxRecDepth 100000 in
theorem lp_X11_begin_40 {p : Program} {l : Launch} {e : Env} {s : State} {m : MethodId} {args : Array Value} {below : List Frame} {meth : Method} {c : Code} {D : va_G} {cy : Nat → ClassId} {base tS : Nat} {ls : Array Slot} (C : Cx p rm_X11_begin s m args c RX11 cX11_begin 6 D cy base tS 0 0) (hr : meth.sig.returnType = (some .int)) (hk : meth.locks = false) {k0 : Nat} (t0 : cls k0 = 11) {K : St → Int32 → Int32 → Int32 → Option (St × Int32)} (hK : ∀ (S : St) (v1 : Int32) (v2 : Int32) (v3 : Int32) (ls : Array Slot), lv_has ls 6 [(0, .ref (base + k0)), (1, .int v1), (2, .int v2), (3, .int v3)] → Sim p l e rm_X11_begin s m args below meth c D cy base 0 0 (fun S1 r => MQ below (QcI D cy base tS S1 r) args s 0 0 (AA base)) (K S v1 v2 v3) S (F0 m 140 ls [])) : ∀ (n : Nat) (S : St) (v1 : Int32) (v2 : Int32) (v3 : Int32) (ls : Array Slot), lv_has ls 6 [(0, .ref (base + k0)), (1, .int v1), (2, .int v2), (3, .int v3)] → Sim p l e rm_X11_begin s m args below meth c D cy base 0 0 (fun S1 r => MQ below (QcI D cy base tS S1 r) args s 0 0 (AA base)) (X11_begin_40 k0 K n S v1 v2 v3) S (F0 m 40 ls []) := by
  intro n
  induction n with
  | zero => intro S v1 v2 v3 ls hl; exact Sim.none
  | succ n ih =>
    intro S v1 v2 v3 ls hl
    rw [X11_begin_40]
    refine r_iload_n (pc := 40) C dX11_begin_40 rfl (lv_at hl 3 rfl) ?_
    refine r_aload_n (pc := 41) C dX11_begin_41 rfl (lv_at hl 0 rfl) ?_
    refine gf_X11_95 (pc := 42) C t0 dX11_begin_42 ?_
    refine r_icmp_ge (pc := 45) C (tgt := 140) dX11_begin_45 (by decide) (fun _ => ?_) (fun _ => ?_)
    · exact hK S v1 v2 v3 _ (lv_sub hl [0, 1, 2, 3] rfl)
    · refine r_iload_n (pc := 48) C dX11_begin_48 rfl (lv_at hl 1 rfl) ?_
      refine r_iload_n (pc := 49) C dX11_begin_49 rfl (lv_at hl 3 rfl) ?_
      refine r_ishr (pc := 50) C dX11_begin_50 ?_
      refine r_iconst (pc := 51) C (1 : Int32) dX11_begin_51 (by decide) ?_
      refine r_iand (pc := 52) C dX11_begin_52 ?_
      refine r_iconst (pc := 53) C (1 : Int32) dX11_begin_53 (by decide) ?_
      refine r_join (fun (j : St → Int32 → Int32 → Option (St × Int32)) => ∀ (S22 : St) (v23 : Int32) (v24 : Int32) (ls : Array Slot), lv_has ls 6 [(0, .ref (base + k0)), (1, .int v23), (2, .int v24), (3, .int v3)] → Sim p l e rm_X11_begin s m args below meth c D cy base 0 0 (fun S1 r => MQ below (QcI D cy base tS S1 r) args s 0 0 (AA base)) (j S22 v23 v24) S22 (F0 m 134 ls [])) ?_ (fun j21 hj21 => ?_)
      · intro S22 v23 v24 ls hl
        refine r_iinc (pc := 134) C (k := 3) (1 : Int32) (fun v25 => [(3, .int v25), (0, .ref (base + k0)), (1, .int v23), (2, .int v24)]) dX11_begin_134 hl rfl (by decide) (Nat.le_of_ble_eq_true rfl) (fun _ => rfl) (fun v25 ls hl => ?_)
        refine r_goto (pc := 137) C (tgt := 40) dX11_begin_137 (by decide) ?_
        exact ih S22 v23 v24 v25 _ (lv_sub hl [1, 2, 3, 0] rfl)
      refine r_icmp_ne (pc := 54) C (tgt := 60) dX11_begin_54 (by decide) (fun _ => ?_) (fun _ => ?_)
      · refine r_iconst (pc := 60) C (0 : Int32) dX11_begin_60 (by decide) ?_
        refine r_istore (lv2 := [(4, .int (0 : Int32)), (0, .ref (base + k0)), (1, .int v1), (2, .int v2), (3, .int v3)]) (pc := 61) C dX11_begin_61 hl (Nat.le_of_ble_eq_true rfl) rfl (fun ls hl => ?_)
        refine r_iconst (pc := 63) C (0 : Int32) dX11_begin_63 (by decide) ?_
        refine r_istore (lv2 := [(5, .int (0 : Int32)), (4, .int (0 : Int32)), (0, .ref (base + k0)), (1, .int v1), (2, .int v2), (3, .int v3)]) (pc := 64) C dX11_begin_64 hl (Nat.le_of_ble_eq_true rfl) rfl (fun ls hl => ?_)
        refine lp_X11_begin_66 (ls := ls) C hr hk t0 (fun S36 v37 v38 ls hl => ?_) FU S (0 : Int32) (0 : Int32) _ (lv_sub hl [2, 3, 4, 5, 1, 0] rfl)
        refine r_iload (pc := 118) C dX11_begin_118 (lv_at hl 4 rfl) ?_
        refine r_if_ne (pc := 120) C (tgt := 126) dX11_begin_120 (by decide) (fun _ => ?_) (fun _ => ?_)
        · refine r_iload_n (pc := 126) C dX11_begin_126 rfl (lv_at hl 1 rfl) ?_
          refine r_iconst (pc := 127) C (1 : Int32) dX11_begin_127 (by decide) ?_
          refine r_iload_n (pc := 128) C dX11_begin_128 rfl (lv_at hl 3 rfl) ?_
          refine r_ishl (pc := 129) C dX11_begin_129 ?_
          refine r_ior (pc := 130) C dX11_begin_130 ?_
          refine r_topi (fun v39 => ?_)
          refine r_istore_n (lv2 := [(1, .int v39), (0, .ref (base + k0)), (2, .int v2), (3, .int v3), (4, .int v37), (5, .int v38)]) (pc := 131) C dX11_begin_131 rfl hl (Nat.le_of_ble_eq_true rfl) rfl (fun ls hl => ?_)
          refine r_iconst (pc := 132) C (1 : Int32) dX11_begin_132 (by decide) ?_
          refine r_istore_n (lv2 := [(2, .int (1 : Int32)), (1, .int v39), (0, .ref (base + k0)), (3, .int v3), (4, .int v37), (5, .int v38)]) (pc := 133) C dX11_begin_133 rfl hl (Nat.le_of_ble_eq_true rfl) rfl (fun ls hl => ?_)
          exact hj21 S36 v39 (1 : Int32) _ (lv_sub hl [2, 1, 0, 3] rfl)
        · refine r_goto (pc := 123) C (tgt := 134) dX11_begin_123 (by decide) ?_
          exact hj21 S36 v1 v2 _ (lv_sub hl [0, 1, 2, 3] rfl)
      · refine r_goto (pc := 57) C (tgt := 134) dX11_begin_57 (by decide) ?_
        exact hj21 S v1 v2 _ (lv_sub hl [0, 1, 2, 3] rfl)

set_option maxHeartbeats 4000000 in
set_option maxRecDepth 100000 in
theorem lp_X11_begin_32 {p : Program} {l : Launch} {e : Env} {s : State} {m : MethodId} {args : Array Value} {below : List Frame} {meth : Method} {c : Code} {D : va_G} {cy : Nat → ClassId} {base tS : Nat} {ls : Array Slot} (C : Cx p rm_X11_begin s m args c RX11 cX11_begin 6 D cy base tS 0 0) (hr : meth.sig.returnType = (some .int)) (hk : meth.locks = false) {k0 : Nat} (t0 : cls k0 = 11) {K : St → Int32 → Int32 → Option (St × Int32)} (hK : ∀ (S : St) (v1 : Int32) (v2 : Int32) (ls : Array Slot), lv_has ls 6 [(0, .ref (base + k0)), (1, .int v1), (2, .int v2)] → Sim p l e rm_X11_begin s m args below meth c D cy base 0 0 (fun S1 r => MQ below (QcI D cy base tS S1 r) args s 0 0 (AA base)) (K S v1 v2) S (F0 m 143 ls [])) : ∀ (n : Nat) (S : St) (v1 : Int32) (v2 : Int32) (ls : Array Slot), lv_has ls 6 [(0, .ref (base + k0)), (1, .int v1), (2, .int v2)] → Sim p l e rm_X11_begin s m args below meth c D cy base 0 0 (fun S1 r => MQ below (QcI D cy base tS S1 r) args s 0 0 (AA base)) (X11_begin_32 k0 K n S v1 v2) S (F0 m 32 ls []) := by
  intro n
  induction n with
  | zero => intro S v1 v2 ls hl; exact Sim.none
  | succ n ih =>
    intro S v1 v2 ls hl
    rw [X11_begin_32]
    refine r_iload_n (pc := 32) C dX11_begin_32 rfl (lv_at hl 2 rfl) ?_
    refine r_if_eq (pc := 33) C (tgt := 143) dX11_begin_33 (by decide) (fun _ => ?_) (fun _ => ?_)
    · exact hK S v1 v2 _ (lv_sub hl [0, 1, 2] rfl)
    · refine r_iconst (pc := 36) C (0 : Int32) dX11_begin_36 (by decide) ?_
      refine r_istore_n (lv2 := [(2, .int (0 : Int32)), (0, .ref (base + k0)), (1, .int v1)]) (pc := 37) C dX11_begin_37 rfl hl (Nat.le_of_ble_eq_true rfl) rfl (fun ls hl => ?_)
      refine r_iconst (pc := 38) C (0 : Int32) dX11_begin_38 (by decide) ?_
      refine r_istore_n (lv2 := [(3, .int (0 : Int32)), (2, .int (0 : Int32)), (0, .ref (base + k0)), (1, .int v1)]) (pc := 39) C dX11_begin_39 rfl hl (Nat.le_of_ble_eq_true rfl) rfl (fun ls hl => ?_)
      refine lp_X11_begin_40 (ls := ls) C hr hk t0 (fun S40 v41 v42 v43 ls hl => ?_) FU S v1 (0 : Int32) (0 : Int32) _ (lv_sub hl [2, 3, 1, 0] rfl)
      refine r_goto (pc := 140) C (tgt := 32) dX11_begin_140 (by decide) ?_
      exact ih S40 v41 v42 _ (lv_sub hl [0, 1, 2] rfl)

set_option maxHeartbeats 4000000 in
set_option maxRecDepth 100000 in
theorem sm_X11_begin {p : Program} {l : Launch} {e : Env} {s : State} {m : MethodId} {args : Array Value} {below : List Frame} {meth : Method} {c : Code} {D : va_G} {cy : Nat → ClassId} {base tS : Nat} {S : St} {k0 : Nat} {ls : Array Slot} (C : Cx p rm_X11_begin s m args c RX11 cX11_begin 6 D cy base tS 0 0) (hr : meth.sig.returnType = (some .int)) (hk : meth.locks = false) (t0 : cls k0 = 11) (hl : lv_has ls 6 [(0, .ref (base + k0))]) : Sim p l e rm_X11_begin s m args below meth c D cy base 0 0 (fun S1 r => MQ below (QcI D cy base tS S1 r) args s 0 0 (AA base)) (X11_begin S k0) S (F0 m 0 ls []) := by
  unfold X11_begin
  refine r_aload_n (pc := 0) C dX11_begin_0 rfl (lv_at hl 0 rfl) ?_
  refine gf_X11_114 (pc := 1) C t0 dX11_begin_1 ?_
  refine r_if_eq (pc := 4) C (tgt := 14) dX11_begin_4 (by decide) (fun _ => ?_) (fun _ => ?_)
  · refine r_aload_n (pc := 14) C dX11_begin_14 rfl (lv_at hl 0 rfl) ?_
    refine gf_X11_95 (pc := 15) C t0 dX11_begin_15 ?_
    refine r_if_ne (pc := 18) C (tgt := 28) dX11_begin_18 (by decide) (fun _ => ?_) (fun _ => ?_)
    · refine r_iconst (pc := 28) C (0 : Int32) dX11_begin_28 (by decide) ?_
      refine r_istore_n (lv2 := [(1, .int (0 : Int32)), (0, .ref (base + k0))]) (pc := 29) C dX11_begin_29 rfl hl (Nat.le_of_ble_eq_true rfl) rfl (fun ls hl => ?_)
      refine r_iconst (pc := 30) C (1 : Int32) dX11_begin_30 (by decide) ?_
      refine r_istore_n (lv2 := [(2, .int (1 : Int32)), (1, .int (0 : Int32)), (0, .ref (base + k0))]) (pc := 31) C dX11_begin_31 rfl hl (Nat.le_of_ble_eq_true rfl) rfl (fun ls hl => ?_)
      refine lp_X11_begin_32 (ls := ls) C hr hk t0 (fun S44 v45 v46 ls hl => ?_) FU S (0 : Int32) (1 : Int32) _ (lv_sub hl [2, 1, 0] rfl)
      refine r_iconst (pc := 143) C (1 : Int32) dX11_begin_143 (by decide) ?_
      refine r_aload_n (pc := 144) C dX11_begin_144 rfl (lv_at hl 0 rfl) ?_
      refine gf_X11_95 (pc := 145) C t0 dX11_begin_145 ?_
      refine r_ishl (pc := 148) C dX11_begin_148 ?_
      refine r_iconst (pc := 149) C (1 : Int32) dX11_begin_149 (by decide) ?_
      refine r_isub (pc := 150) C dX11_begin_150 ?_
      refine r_iload_n (pc := 151) C dX11_begin_151 rfl (lv_at hl 1 rfl) ?_
      refine r_isub (pc := 152) C dX11_begin_152 ?_
      refine r_topi (fun v47 => ?_)
      refine r_istore_n (lv2 := [(3, .int v47), (0, .ref (base + k0)), (1, .int v45), (2, .int v46)]) (pc := 153) C dX11_begin_153 rfl hl (Nat.le_of_ble_eq_true rfl) rfl (fun ls hl => ?_)
      refine r_iload_n (pc := 154) C dX11_begin_154 rfl (lv_at hl 0 rfl) ?_
      refine r_if_eq (pc := 155) C (tgt := 170) dX11_begin_155 (by decide) (fun _ => ?_) (fun _ => ?_)
      · refine r_aload_n (pc := 170) C dX11_begin_170 rfl (lv_at hl 1 rfl) ?_
        refine r_iconst (pc := 171) C (1 : Int32) dX11_begin_171 (by decide) ?_
        refine pf_X11_114 (pc := 172) C t0 rfl rfl dX11_begin_172 (fun S48 => ?_)
        refine r_aload_n (pc := 175) C dX11_begin_175 rfl (lv_at hl 1 rfl) ?_
        refine gf_X11_95 (pc := 176) C t0 dX11_begin_176 ?_
        exact r_iret (pc := 179) C hr hk dX11_begin_179
      · refine r_aload_n (pc := 158) C dX11_begin_158 rfl (lv_at hl 1 rfl) ?_
        refine r_iload_n (pc := 159) C dX11_begin_159 rfl (lv_at hl 0 rfl) ?_
        refine pf_X11_125 (pc := 160) C t0 dX11_begin_160 (fun S49 => ?_)
        refine r_aload_n (pc := 163) C dX11_begin_163 rfl (lv_at hl 1 rfl) ?_
        refine r_bipush (pc := 164) C (-7 : Int32) dX11_begin_164 (by decide) ?_
        refine cv_X11_118 (pc := 166) C t0 hl.1 ⟨Nat.le_of_ble_eq_true rfl, Nat.le_of_ble_eq_true rfl⟩ (Nat.le_of_ble_eq_true rfl) dX11_begin_166 (fun S50 v51 => ?_)
        exact r_iret (pc := 169) C hr hk dX11_begin_169
    · refine r_aload_n (pc := 21) C dX11_begin_21 rfl (lv_at hl 0 rfl) ?_
      refine r_bipush (pc := 22) C (-11 : Int32) dX11_begin_22 (by decide) ?_
      refine cv_X11_118 (pc := 24) C t0 hl.1 ⟨Nat.le_of_ble_eq_true rfl, Nat.le_of_ble_eq_true rfl⟩ (Nat.le_of_ble_eq_true rfl) dX11_begin_24 (fun S52 v53 => ?_)
      exact r_iret (pc := 27) C hr hk dX11_begin_27
  · refine r_aload_n (pc := 7) C dX11_begin_7 rfl (lv_at hl 0 rfl) ?_
    refine r_bipush (pc := 8) C (-6 : Int32) dX11_begin_8 (by decide) ?_
    refine cv_X11_118 (pc := 10) C t0 hl.1 ⟨Nat.le_of_ble_eq_true rfl, Nat.le_of_ble_eq_true rfl⟩ (Nat.le_of_ble_eq_true rfl) dX11_begin_10 (fun S54 v55 => ?_)
    exact r_iret (pc := 13) C hr hk dX11_begin_13

theorem ct_X11_begin (l : Launch) {D : va_G} {cy : Nat → ClassId} {base tS : Nat} {S : St} {k0 : Nat} (t0 : cls k0 = 11) {S1 : St} {r1 : Int32} (h : X11_begin S k0 = some (S1, r1)) : Met l yX11_begin (wsY yX11_begin cX11_begin 6 (some .int)) rm_X11_begin (va_Pc [.ref (base + k0)] (World D cy base tS S)) (QcI D cy base tS S1 r1) 0 0 (AA base) := conI rfl rfl (by decide) (Nat.le_of_ble_eq_true rfl) (fun p e s m args below meth c ls C hr hk hl => sm_X11_begin C hr hk t0 hl) h
abbrev rm_X11_anew : Room := { frames := 0, cells := 0, slots := 0, locals := 0 }
set_option maxHeartbeats 4000000 in
set_option maxRecDepth 100000 in
theorem lp_X11_anew_7 {p : Program} {l : Launch} {e : Env} {s : State} {m : MethodId} {args : Array Value} {below : List Frame} {meth : Method} {c : Code} {D : va_G} {cy : Nat → ClassId} {base tS : Nat} {ls : Array Slot} (C : Cx p rm_X11_anew s m args c RX11 cX11_anew 2 D cy base tS 0 0) (hr : meth.sig.returnType = (some .int)) (hk : meth.locks = false) {k0 : Nat} (t0 : cls k0 = 11) {K : St → Int32 → Option (St × Int32)} (hK : ∀ (S : St) (v1 : Int32) (ls : Array Slot), lv_has ls 2 [(0, .ref (base + k0)), (1, .int v1)] → Sim p l e rm_X11_anew s m args below meth c D cy base 0 0 (fun S1 r => MQ below (QcI D cy base tS S1 r) args s 0 0 (AA base)) (K S v1) S (F0 m 27 ls [])) : ∀ (n : Nat) (S : St) (v1 : Int32) (ls : Array Slot), lv_has ls 2 [(0, .ref (base + k0)), (1, .int v1)] → Sim p l e rm_X11_anew s m args below meth c D cy base 0 0 (fun S1 r => MQ below (QcI D cy base tS S1 r) args s 0 0 (AA base)) (X11_anew_7 k0 K n S v1) S (F0 m 7 ls []) := by
  intro n
  induction n with
  | zero => intro S v1 ls hl; exact Sim.none
  | succ n ih =>
    intro S v1 ls hl
    rw [X11_anew_7]
    refine r_iload_n (pc := 7) C dX11_anew_7 rfl (lv_at hl 1 rfl) ?_
    refine r_sipush (pc := 8) C (180 : Int32) dX11_anew_8 (by decide) ?_
    refine r_icmp_ge (pc := 11) C (tgt := 27) dX11_anew_11 (by decide) (fun _ => ?_) (fun _ => ?_)
    · exact hK S v1 _ (lv_sub hl [0, 1] rfl)
    · refine r_aload_n (pc := 14) C dX11_anew_14 rfl (lv_at hl 0 rfl) ?_
      refine gf_X11_13 (pc := 15) C t0 dX11_anew_15 ?_
      have t22 := ft_11_2 t0
      refine r_iload_n (pc := 18) C dX11_anew_18 rfl (lv_at hl 1 rfl) ?_
      refine r_iconst (pc := 19) C (0 : Int32) dX11_anew_19 (by decide) ?_
      refine r_iast (pc := 20) C t22 dX11_anew_20 (fun S23 => ?_)
      refine r_iinc (pc := 21) C (k := 1) (1 : Int32) (fun v24 => [(1, .int v24), (0, .ref (base + k0))]) dX11_anew_21 hl rfl (by decide) (Nat.le_of_ble_eq_true rfl) (fun _ => rfl) (fun v24 ls hl => ?_)
      refine r_goto (pc := 24) C (tgt := 7) dX11_anew_24 (by decide) ?_
      exact ih S23 v24 _ (lv_sub hl [1, 0] rfl)

set_option maxHeartbeats 4000000 in
set_option maxRecDepth 100000 in
theorem lp_X11_anew_29 {p : Program} {l : Launch} {e : Env} {s : State} {m : MethodId} {args : Array Value} {below : List Frame} {meth : Method} {c : Code} {D : va_G} {cy : Nat → ClassId} {base tS : Nat} {ls : Array Slot} (C : Cx p rm_X11_anew s m args c RX11 cX11_anew 2 D cy base tS 0 0) (hr : meth.sig.returnType = (some .int)) (hk : meth.locks = false) {k0 : Nat} (t0 : cls k0 = 11) {K : St → Int32 → Option (St × Int32)} (hK : ∀ (S : St) (v1 : Int32) (ls : Array Slot), lv_has ls 2 [(0, .ref (base + k0)), (1, .int v1)] → Sim p l e rm_X11_anew s m args below meth c D cy base 0 0 (fun S1 r => MQ below (QcI D cy base tS S1 r) args s 0 0 (AA base)) (K S v1) S (F0 m 48 ls [])) : ∀ (n : Nat) (S : St) (v1 : Int32) (ls : Array Slot), lv_has ls 2 [(0, .ref (base + k0)), (1, .int v1)] → Sim p l e rm_X11_anew s m args below meth c D cy base 0 0 (fun S1 r => MQ below (QcI D cy base tS S1 r) args s 0 0 (AA base)) (X11_anew_29 k0 K n S v1) S (F0 m 29 ls []) := by
  intro n
  induction n with
  | zero => intro S v1 ls hl; exact Sim.none
  | succ n ih =>
    intro S v1 ls hl
    rw [X11_anew_29]
    refine r_iload_n (pc := 29) C dX11_anew_29 rfl (lv_at hl 1 rfl) ?_
    refine r_bipush (pc := 30) C (15 : Int32) dX11_anew_30 (by decide) ?_
    refine r_icmp_ge (pc := 32) C (tgt := 48) dX11_anew_32 (by decide) (fun _ => ?_) (fun _ => ?_)
    · exact hK S v1 _ (lv_sub hl [0, 1] rfl)
    · refine r_aload_n (pc := 35) C dX11_anew_35 rfl (lv_at hl 0 rfl) ?_
      refine gf_X11_16 (pc := 36) C t0 dX11_anew_36 ?_
      have t27 := ft_11_4 t0
      refine r_iload_n (pc := 39) C dX11_anew_39 rfl (lv_at hl 1 rfl) ?_
      refine r_lconst (pc := 40) C (0 : Int64) dX11_anew_40 (by decide) ?_
      refine r_last (pc := 41) C t27 dX11_anew_41 (fun S28 => ?_)
      refine r_iinc (pc := 42) C (k := 1) (1 : Int32) (fun v29 => [(1, .int v29), (0, .ref (base + k0))]) dX11_anew_42 hl rfl (by decide) (Nat.le_of_ble_eq_true rfl) (fun _ => rfl) (fun v29 ls hl => ?_)
      refine r_goto (pc := 45) C (tgt := 29) dX11_anew_45 (by decide) ?_
      exact ih S28 v29 _ (lv_sub hl [1, 0] rfl)

set_option maxHeartbeats 4000000 in
set_option maxRecDepth 100000 in
theorem lp_X11_anew_50 {p : Program} {l : Launch} {e : Env} {s : State} {m : MethodId} {args : Array Value} {below : List Frame} {meth : Method} {c : Code} {D : va_G} {cy : Nat → ClassId} {base tS : Nat} {ls : Array Slot} (C : Cx p rm_X11_anew s m args c RX11 cX11_anew 2 D cy base tS 0 0) (hr : meth.sig.returnType = (some .int)) (hk : meth.locks = false) {k0 : Nat} (t0 : cls k0 = 11) {K : St → Int32 → Option (St × Int32)} (hK : ∀ (S : St) (v1 : Int32) (ls : Array Slot), lv_has ls 2 [(0, .ref (base + k0)), (1, .int v1)] → Sim p l e rm_X11_anew s m args below meth c D cy base 0 0 (fun S1 r => MQ below (QcI D cy base tS S1 r) args s 0 0 (AA base)) (K S v1) S (F0 m 69 ls [])) : ∀ (n : Nat) (S : St) (v1 : Int32) (ls : Array Slot), lv_has ls 2 [(0, .ref (base + k0)), (1, .int v1)] → Sim p l e rm_X11_anew s m args below meth c D cy base 0 0 (fun S1 r => MQ below (QcI D cy base tS S1 r) args s 0 0 (AA base)) (X11_anew_50 k0 K n S v1) S (F0 m 50 ls []) := by
  intro n
  induction n with
  | zero => intro S v1 ls hl; exact Sim.none
  | succ n ih =>
    intro S v1 ls hl
    rw [X11_anew_50]
    refine r_iload_n (pc := 50) C dX11_anew_50 rfl (lv_at hl 1 rfl) ?_
    refine r_bipush (pc := 51) C (12 : Int32) dX11_anew_51 (by decide) ?_
    refine r_icmp_ge (pc := 53) C (tgt := 69) dX11_anew_53 (by decide) (fun _ => ?_) (fun _ => ?_)
    · exact hK S v1 _ (lv_sub hl [0, 1] rfl)
    · refine r_aload_n (pc := 56) C dX11_anew_56 rfl (lv_at hl 0 rfl) ?_
      refine gf_X11_20 (pc := 57) C t0 dX11_anew_57 ?_
      have t32 := ft_11_5 t0
      refine r_iload_n (pc := 60) C dX11_anew_60 rfl (lv_at hl 1 rfl) ?_
      refine r_lconst (pc := 61) C (0 : Int64) dX11_anew_61 (by decide) ?_
      refine r_last (pc := 62) C t32 dX11_anew_62 (fun S33 => ?_)
      refine r_iinc (pc := 63) C (k := 1) (1 : Int32) (fun v34 => [(1, .int v34), (0, .ref (base + k0))]) dX11_anew_63 hl rfl (by decide) (Nat.le_of_ble_eq_true rfl) (fun _ => rfl) (fun v34 ls hl => ?_)
      refine r_goto (pc := 66) C (tgt := 50) dX11_anew_66 (by decide) ?_
      exact ih S33 v34 _ (lv_sub hl [1, 0] rfl)

set_option maxHeartbeats 4000000 in
set_option maxRecDepth 100000 in
theorem lp_X11_anew_111 {p : Program} {l : Launch} {e : Env} {s : State} {m : MethodId} {args : Array Value} {below : List Frame} {meth : Method} {c : Code} {D : va_G} {cy : Nat → ClassId} {base tS : Nat} {ls : Array Slot} (C : Cx p rm_X11_anew s m args c RX11 cX11_anew 2 D cy base tS 0 0) (hr : meth.sig.returnType = (some .int)) (hk : meth.locks = false) {k0 : Nat} (t0 : cls k0 = 11) {K : St → Int32 → Option (St × Int32)} (hK : ∀ (S : St) (v1 : Int32) (ls : Array Slot), lv_has ls 2 [(0, .ref (base + k0)), (1, .int v1)] → Sim p l e rm_X11_anew s m args below meth c D cy base 0 0 (fun S1 r => MQ below (QcI D cy base tS S1 r) args s 0 0 (AA base)) (K S v1) S (F0 m 130 ls [])) : ∀ (n : Nat) (S : St) (v1 : Int32) (ls : Array Slot), lv_has ls 2 [(0, .ref (base + k0)), (1, .int v1)] → Sim p l e rm_X11_anew s m args below meth c D cy base 0 0 (fun S1 r => MQ below (QcI D cy base tS S1 r) args s 0 0 (AA base)) (X11_anew_111 k0 K n S v1) S (F0 m 111 ls []) := by
  intro n
  induction n with
  | zero => intro S v1 ls hl; exact Sim.none
  | succ n ih =>
    intro S v1 ls hl
    rw [X11_anew_111]
    refine r_iload_n (pc := 111) C dX11_anew_111 rfl (lv_at hl 1 rfl) ?_
    refine r_bipush (pc := 112) C (8 : Int32) dX11_anew_112 (by decide) ?_
    refine r_icmp_ge (pc := 114) C (tgt := 130) dX11_anew_114 (by decide) (fun _ => ?_) (fun _ => ?_)
    · exact hK S v1 _ (lv_sub hl [0, 1] rfl)
    · refine r_aload_n (pc := 117) C dX11_anew_117 rfl (lv_at hl 0 rfl) ?_
      refine gf_X11_39 (pc := 118) C t0 dX11_anew_118 ?_
      have t45 := ft_11_16 t0
      refine r_iload_n (pc := 121) C dX11_anew_121 rfl (lv_at hl 1 rfl) ?_
      refine r_iconst (pc := 122) C (0 : Int32) dX11_anew_122 (by decide) ?_
      refine r_zast (pc := 123) C t45 rfl dX11_anew_123 (fun S46 => ?_)
      refine r_iinc (pc := 124) C (k := 1) (1 : Int32) (fun v47 => [(1, .int v47), (0, .ref (base + k0))]) dX11_anew_124 hl rfl (by decide) (Nat.le_of_ble_eq_true rfl) (fun _ => rfl) (fun v47 ls hl => ?_)
      refine r_goto (pc := 127) C (tgt := 111) dX11_anew_127 (by decide) ?_
      exact ih S46 v47 _ (lv_sub hl [1, 0] rfl)

set_option maxHeartbeats 4000000 in
set_option maxRecDepth 100000 in
theorem sm_X11_anew {p : Program} {l : Launch} {e : Env} {s : State} {m : MethodId} {args : Array Value} {below : List Frame} {meth : Method} {c : Code} {D : va_G} {cy : Nat → ClassId} {base tS : Nat} {S : St} {k0 : Nat} {ls : Array Slot} (C : Cx p rm_X11_anew s m args c RX11 cX11_anew 2 D cy base tS 0 0) (hr : meth.sig.returnType = (some .int)) (hk : meth.locks = false) (t0 : cls k0 = 11) (hl : lv_has ls 2 [(0, .ref (base + k0))]) : Sim p l e rm_X11_anew s m args below meth c D cy base 0 0 (fun S1 r => MQ below (QcI D cy base tS S1 r) args s 0 0 (AA base)) (X11_anew S k0) S (F0 m 0 ls []) := by
  unfold X11_anew
  refine r_aload_n (pc := 0) C dX11_anew_0 rfl (lv_at hl 0 rfl) ?_
  refine r_iconst (pc := 1) C (0 : Int32) dX11_anew_1 (by decide) ?_
  refine pf_X11_95 (pc := 2) C t0 dX11_anew_2 (fun S21 => ?_)
  refine r_iconst (pc := 5) C (0 : Int32) dX11_anew_5 (by decide) ?_
  refine r_istore_n (lv2 := [(1, .int (0 : Int32)), (0, .ref (base + k0))]) (pc := 6) C dX11_anew_6 rfl hl (Nat.le_of_ble_eq_true rfl) rfl (fun ls hl => ?_)
  refine lp_X11_anew_7 (ls := ls) C hr hk t0 (fun S25 v26 ls hl => ?_) FU S21 (0 : Int32) _ (lv_sub hl [1, 0] rfl)
  refine r_iconst (pc := 27) C (0 : Int32) dX11_anew_27 (by decide) ?_
  refine r_istore_n (lv2 := [(1, .int (0 : Int32)), (0, .ref (base + k0))]) (pc := 28) C dX11_anew_28 rfl hl (Nat.le_of_ble_eq_true rfl) rfl (fun ls hl => ?_)
  refine lp_X11_anew_29 (ls := ls) C hr hk t0 (fun S30 v31 ls hl => ?_) FU S25 (0 : Int32) _ (lv_sub hl [1, 0] rfl)
  refine r_iconst (pc := 48) C (0 : Int32) dX11_anew_48 (by decide) ?_
  refine r_istore_n (lv2 := [(1, .int (0 : Int32)), (0, .ref (base + k0))]) (pc := 49) C dX11_anew_49 rfl hl (Nat.le_of_ble_eq_true rfl) rfl (fun ls hl => ?_)
  refine lp_X11_anew_50 (ls := ls) C hr hk t0 (fun S35 v36 ls hl => ?_) FU S30 (0 : Int32) _ (lv_sub hl [1, 0] rfl)
  refine r_aload_n (pc := 69) C dX11_anew_69 rfl (lv_at hl 0 rfl) ?_
  refine r_iconst (pc := 70) C (0 : Int32) dX11_anew_70 (by decide) ?_
  refine pf_X11_114 (pc := 71) C t0 rfl rfl dX11_anew_71 (fun S37 => ?_)
  refine r_aload_n (pc := 74) C dX11_anew_74 rfl (lv_at hl 0 rfl) ?_
  refine r_iconst (pc := 75) C (0 : Int32) dX11_anew_75 (by decide) ?_
  refine pf_X11_128 (pc := 76) C t0 dX11_anew_76 (fun S38 => ?_)
  refine r_aload_n (pc := 79) C dX11_anew_79 rfl (lv_at hl 0 rfl) ?_
  refine r_lconst (pc := 80) C (1 : Int64) dX11_anew_80 (by decide) ?_
  refine pf_X11_23 (pc := 81) C t0 dX11_anew_81 (fun S39 => ?_)
  refine r_aload_n (pc := 84) C dX11_anew_84 rfl (lv_at hl 0 rfl) ?_
  refine r_iconst (pc := 85) C (0 : Int32) dX11_anew_85 (by decide) ?_
  refine pf_X11_125 (pc := 86) C t0 dX11_anew_86 (fun S40 => ?_)
  refine r_aload_n (pc := 89) C dX11_anew_89 rfl (lv_at hl 0 rfl) ?_
  refine r_iconst (pc := 90) C (0 : Int32) dX11_anew_90 (by decide) ?_
  refine pf_X11_131 (pc := 91) C t0 dX11_anew_91 (fun S41 => ?_)
  refine r_aload_n (pc := 94) C dX11_anew_94 rfl (lv_at hl 0 rfl) ?_
  refine r_iconst (pc := 95) C (0 : Int32) dX11_anew_95 (by decide) ?_
  refine pf_X11_134 (pc := 96) C t0 dX11_anew_96 (fun S42 => ?_)
  refine r_aload_n (pc := 99) C dX11_anew_99 rfl (lv_at hl 0 rfl) ?_
  refine r_iconst (pc := 100) C (0 : Int32) dX11_anew_100 (by decide) ?_
  refine pf_X11_137 (pc := 101) C t0 dX11_anew_101 (fun S43 => ?_)
  refine r_aload_n (pc := 104) C dX11_anew_104 rfl (lv_at hl 0 rfl) ?_
  refine r_iconst (pc := 105) C (0 : Int32) dX11_anew_105 (by decide) ?_
  refine pf_X11_140 (pc := 106) C t0 dX11_anew_106 (fun S44 => ?_)
  refine r_iconst (pc := 109) C (0 : Int32) dX11_anew_109 (by decide) ?_
  refine r_istore_n (lv2 := [(1, .int (0 : Int32)), (0, .ref (base + k0))]) (pc := 110) C dX11_anew_110 rfl hl (Nat.le_of_ble_eq_true rfl) rfl (fun ls hl => ?_)
  refine lp_X11_anew_111 (ls := ls) C hr hk t0 (fun S48 v49 ls hl => ?_) FU S44 (0 : Int32) _ (lv_sub hl [1, 0] rfl)
  refine r_aload_n (pc := 130) C dX11_anew_130 rfl (lv_at hl 0 rfl) ?_
  refine r_iconst (pc := 131) C (0 : Int32) dX11_anew_131 (by decide) ?_
  refine pf_X11_143 (pc := 132) C t0 dX11_anew_132 (fun S50 => ?_)
  refine r_iconst (pc := 135) C (0 : Int32) dX11_anew_135 (by decide) ?_
  exact r_iret (pc := 136) C hr hk dX11_anew_136

theorem ct_X11_anew (l : Launch) {D : va_G} {cy : Nat → ClassId} {base tS : Nat} {S : St} {k0 : Nat} (t0 : cls k0 = 11) {S1 : St} {r1 : Int32} (h : X11_anew S k0 = some (S1, r1)) : Met l yX11_anew (wsY yX11_anew cX11_anew 2 (some .int)) rm_X11_anew (va_Pc [.ref (base + k0)] (World D cy base tS S)) (QcI D cy base tS S1 r1) 0 0 (AA base) := conI rfl rfl (by decide) (Nat.le_of_ble_eq_true rfl) (fun p e s m args below meth c ls C hr hk hl => sm_X11_anew C hr hk t0 hl) h
abbrev rm_X11_as : Room := { frames := 2, cells := 0, slots := 0, locals := 43 }
set_option maxHeartbeats 4000000 in
set_option maxRecDepth 100000 in
theorem sm_X11_as {p : Program} {l : Launch} {e : Env} {s : State} {m : MethodId} {args : Array Value} {below : List Frame} {meth : Method} {c : Code} {D : va_G} {cy : Nat → ClassId} {base tS : Nat} {S : St} {k0 : Nat} {v1 : Int32} {v2 : Int32} {ls : Array Slot} (C : Cx p rm_X11_as s m args c RX11 cX11_as 5 D cy base tS 0 0) (hr : meth.sig.returnType = (some .int)) (hk : meth.locks = false) (t0 : cls k0 = 11) (hl : lv_has ls 5 [(0, .ref (base + k0)), (1, .int v1), (2, .int v2)]) : Sim p l e rm_X11_as s m args below meth c D cy base 0 0 (fun S1 r => MQ below (QcI D cy base tS S1 r) args s 0 0 (AA base)) (X11_as S k0 v1 v2) S (F0 m 0 ls []) := by
  unfold X11_as
  refine r_aload_n (pc := 0) C dX11_as_0 rfl (lv_at hl 0 rfl) ?_
  refine r_iload_n (pc := 1) C dX11_as_1 rfl (lv_at hl 1 rfl) ?_
  refine cv_X11_121 (pc := 2) C t0 hl.1 ⟨Nat.le_of_ble_eq_true rfl, Nat.le_of_ble_eq_true rfl⟩ (Nat.le_of_ble_eq_true rfl) dX11_as_2 (fun S21 v22 => ?_)
  refine r_join (fun (j : St → Option (St × Int32)) => ∀ (S24 : St)  (ls : Array Slot), lv_has ls 5 [(0, .ref (base + k0))] → Sim p l e rm_X11_as s m args below meth c D cy base 0 0 (fun S1 r => MQ below (QcI D cy base tS S1 r) args s 0 0 (AA base)) (j S24) S24 (F0 m 17 ls [])) ?_ (fun j23 hj23 => ?_)
  · intro S24 ls hl
    refine r_aload_n (pc := 17) C dX11_as_17 rfl (lv_at hl 0 rfl) ?_
    refine r_iconst (pc := 18) C (-1 : Int32) dX11_as_18 (by decide) ?_
    refine cv_X11_118 (pc := 19) C t0 hl.1 ⟨Nat.le_of_ble_eq_true rfl, Nat.le_of_ble_eq_true rfl⟩ (Nat.le_of_ble_eq_true rfl) dX11_as_19 (fun S25 v26 => ?_)
    exact r_iret (pc := 22) C hr hk dX11_as_22
  refine r_if_eq (pc := 5) C (tgt := 17) dX11_as_5 (by decide) (fun _ => ?_) (fun _ => ?_)
  · exact hj23 S21  _ (lv_sub hl [0] rfl)
  · refine r_iload_n (pc := 8) C dX11_as_8 rfl (lv_at hl 2 rfl) ?_
    refine r_iconst (pc := 9) C (0 : Int32) dX11_as_9 (by decide) ?_
    refine r_iconst (pc := 10) C (4 : Int32) dX11_as_10 (by decide) ?_
    refine cv_X11_98 (pc := 11) C  hl.1 ⟨Nat.le_of_ble_eq_true rfl, Nat.le_of_ble_eq_true rfl⟩ (Nat.le_of_ble_eq_true rfl) dX11_as_11 (fun S27 v28 => ?_)
    refine r_if_ne (pc := 14) C (tgt := 23) dX11_as_14 (by decide) (fun _ => ?_) (fun _ => ?_)
    · refine r_aload_n (pc := 23) C dX11_as_23 rfl (lv_at hl 0 rfl) ?_
      refine gf_X11_7 (pc := 24) C t0 dX11_as_24 ?_
      have t29 := ft_11_1 t0
      refine r_iload_n (pc := 27) C dX11_as_27 rfl (lv_at hl 1 rfl) ?_
      refine r_iald (pc := 28) C t29 dX11_as_28 ?_
      refine r_topi (fun v30 => ?_)
      refine r_istore_n (lv2 := [(3, .int v30), (0, .ref (base + k0)), (1, .int v1), (2, .int v2)]) (pc := 29) C dX11_as_29 rfl hl (Nat.le_of_ble_eq_true rfl) rfl (fun ls hl => ?_)
      refine r_iload_n (pc := 30) C dX11_as_30 rfl (lv_at hl 3 rfl) ?_
      refine r_join (fun (j : St → Int32 → Option (St × Int32)) => ∀ (S32 : St) (v33 : Int32) (ls : Array Slot), lv_has ls 5 [(0, .ref (base + k0)), (1, .int v1)] → Sim p l e rm_X11_as s m args below meth c D cy base 0 0 (fun S1 r => MQ below (QcI D cy base tS S1 r) args s 0 0 (AA base)) (j S32 v33) S32 (F0 m 54 ls [.int v33])) ?_ (fun j31 hj31 => ?_)
      · intro S32 v33 ls hl
        refine r_istore (lv2 := [(4, .int v33), (0, .ref (base + k0)), (1, .int v1)]) (pc := 54) C dX11_as_54 hl (Nat.le_of_ble_eq_true rfl) rfl (fun ls hl => ?_)
        refine r_iload (pc := 56) C dX11_as_56 (lv_at hl 0 rfl) ?_
        refine r_if_eq (pc := 58) C (tgt := 65) dX11_as_58 (by decide) (fun _ => ?_) (fun _ => ?_)
        · refine r_aload_n (pc := 65) C dX11_as_65 rfl (lv_at hl 1 rfl) ?_
          refine r_bipush (pc := 66) C (-4 : Int32) dX11_as_66 (by decide) ?_
          refine cv_X11_118 (pc := 68) C t0 hl.1 ⟨Nat.le_of_ble_eq_true rfl, Nat.le_of_ble_eq_true rfl⟩ (Nat.le_of_ble_eq_true rfl) dX11_as_68 (fun S34 v35 => ?_)
          exact r_iret (pc := 71) C hr hk dX11_as_71
        · refine r_iload_n (pc := 61) C dX11_as_61 rfl (lv_at hl 2 rfl) ?_
          refine r_goto (pc := 62) C (tgt := 71) dX11_as_62 (by decide) ?_
          exact r_iret (pc := 71) C hr hk dX11_as_71
      refine r_join (fun (j : St → Option (St × Int32)) => ∀ (S37 : St)  (ls : Array Slot), lv_has ls 5 [(0, .ref (base + k0)), (1, .int v1)] → Sim p l e rm_X11_as s m args below meth c D cy base 0 0 (fun S1 r => MQ below (QcI D cy base tS S1 r) args s 0 0 (AA base)) (j S37) S37 (F0 m 49 ls [])) ?_ (fun j36 hj36 => ?_)
      · intro S37 ls hl
        refine r_iconst (pc := 49) C (1 : Int32) dX11_as_49 (by decide) ?_
        refine r_goto (pc := 50) C (tgt := 54) dX11_as_50 (by decide) ?_
        exact hj31 S37 (1 : Int32) _ (lv_sub hl [0, 1] rfl)
      refine r_if_eq (pc := 31) C (tgt := 49) dX11_as_31 (by decide) (fun _ => ?_) (fun _ => ?_)
      · exact hj36 S27  _ (lv_sub hl [1, 2] rfl)
      · refine r_iload_n (pc := 34) C dX11_as_34 rfl (lv_at hl 3 rfl) ?_
        refine r_iload_n (pc := 35) C dX11_as_35 rfl (lv_at hl 0 rfl) ?_
        refine r_icmp_eq (pc := 36) C (tgt := 49) dX11_as_36 (by decide) (fun _ => ?_) (fun _ => ?_)
        · exact hj36 S27  _ (lv_sub hl [1, 2] rfl)
        · refine r_iload_n (pc := 39) C dX11_as_39 rfl (lv_at hl 3 rfl) ?_
          refine r_iload_n (pc := 40) C dX11_as_40 rfl (lv_at hl 0 rfl) ?_
          refine r_join (fun (j : St → Option (St × Int32)) => ∀ (S39 : St)  (ls : Array Slot), lv_has ls 5 [(0, .ref (base + k0)), (1, .int v1)] → Sim p l e rm_X11_as s m args below meth c D cy base 0 0 (fun S1 r => MQ below (QcI D cy base tS S1 r) args s 0 0 (AA base)) (j S39) S39 (F0 m 53 ls [])) ?_ (fun j38 hj38 => ?_)
          · intro S39 ls hl
            refine r_iconst (pc := 53) C (0 : Int32) dX11_as_53 (by decide) ?_
            exact hj31 S39 (0 : Int32) _ (lv_sub hl [0, 1] rfl)
          refine r_icmp_ge (pc := 41) C (tgt := 53) dX11_as_41 (by decide) (fun _ => ?_) (fun _ => ?_)
          · exact hj38 S27  _ (lv_sub hl [1, 2] rfl)
          · refine r_iload_n (pc := 44) C dX11_as_44 rfl (lv_at hl 0 rfl) ?_
            refine r_iconst (pc := 45) C (4 : Int32) dX11_as_45 (by decide) ?_
            refine r_icmp_ge (pc := 46) C (tgt := 53) dX11_as_46 (by decide) (fun _ => ?_) (fun _ => ?_)
            · exact hj38 S27  _ (lv_sub hl [1, 2] rfl)
            · exact hj36 S27  _ (lv_sub hl [1, 2] rfl)
    · exact hj23 S27  _ (lv_sub hl [0] rfl)

theorem ct_X11_as (l : Launch) {D : va_G} {cy : Nat → ClassId} {base tS : Nat} {S : St} {k0 : Nat} {v1 : Int32} {v2 : Int32} (t0 : cls k0 = 11) {S1 : St} {r1 : Int32} (h : X11_as S k0 v1 v2 = some (S1, r1)) : Met l yX11_as (wsY yX11_as cX11_as 5 (some .int)) rm_X11_as (va_Pc [.ref (base + k0), .int v1, .int v2] (World D cy base tS S)) (QcI D cy base tS S1 r1) 0 0 (AA base) := conI rfl rfl (by decide) (Nat.le_of_ble_eq_true rfl) (fun p e s m args below meth c ls C hr hk hl => sm_X11_as C hr hk t0 hl) h
abbrev rm_X11_weight : Room := { frames := 2, cells := 0, slots := 0, locals := 43 }
set_option maxHeartbeats 4000000 in
set_option maxRecDepth 100000 in
theorem sm_X11_weight {p : Program} {l : Launch} {e : Env} {s : State} {m : MethodId} {args : Array Value} {below : List Frame} {meth : Method} {c : Code} {D : va_G} {cy : Nat → ClassId} {base tS : Nat} {S : St} {k0 : Nat} {v1 : Int32} {v2 : Int32} {ls : Array Slot} (C : Cx p rm_X11_weight s m args c RX11 cX11_weight 3 D cy base tS 0 0) (hr : meth.sig.returnType = (some .int)) (hk : meth.locks = false) (t0 : cls k0 = 11) (hl : lv_has ls 3 [(0, .ref (base + k0)), (1, .int v1), (2, .int v2)]) : Sim p l e rm_X11_weight s m args below meth c D cy base 0 0 (fun S1 r => MQ below (QcI D cy base tS S1 r) args s 0 0 (AA base)) (X11_weight S k0 v1 v2) S (F0 m 0 ls []) := by
  unfold X11_weight
  refine r_aload_n (pc := 0) C dX11_weight_0 rfl (lv_at hl 0 rfl) ?_
  refine r_iload_n (pc := 1) C dX11_weight_1 rfl (lv_at hl 1 rfl) ?_
  refine cv_X11_121 (pc := 2) C t0 hl.1 ⟨Nat.le_of_ble_eq_true rfl, Nat.le_of_ble_eq_true rfl⟩ (Nat.le_of_ble_eq_true rfl) dX11_weight_2 (fun S21 v22 => ?_)
  refine r_join (fun (j : St → Option (St × Int32)) => ∀ (S24 : St)  (ls : Array Slot), lv_has ls 3 [(0, .ref (base + k0))] → Sim p l e rm_X11_weight s m args below meth c D cy base 0 0 (fun S1 r => MQ below (QcI D cy base tS S1 r) args s 0 0 (AA base)) (j S24) S24 (F0 m 26 ls [])) ?_ (fun j23 hj23 => ?_)
  · intro S24 ls hl
    refine r_aload_n (pc := 26) C dX11_weight_26 rfl (lv_at hl 0 rfl) ?_
    refine r_iconst (pc := 27) C (-1 : Int32) dX11_weight_27 (by decide) ?_
    refine cv_X11_118 (pc := 28) C t0 hl.1 ⟨Nat.le_of_ble_eq_true rfl, Nat.le_of_ble_eq_true rfl⟩ (Nat.le_of_ble_eq_true rfl) dX11_weight_28 (fun S25 v26 => ?_)
    exact r_iret (pc := 31) C hr hk dX11_weight_31
  refine r_if_eq (pc := 5) C (tgt := 26) dX11_weight_5 (by decide) (fun _ => ?_) (fun _ => ?_)
  · exact hj23 S21  _ (lv_sub hl [0] rfl)
  · refine r_aload_n (pc := 8) C dX11_weight_8 rfl (lv_at hl 0 rfl) ?_
    refine r_iload_n (pc := 9) C dX11_weight_9 rfl (lv_at hl 2 rfl) ?_
    refine cv_X11_121 (pc := 10) C t0 hl.1 ⟨Nat.le_of_ble_eq_true rfl, Nat.le_of_ble_eq_true rfl⟩ (Nat.le_of_ble_eq_true rfl) dX11_weight_10 (fun S27 v28 => ?_)
    refine r_join (fun (j : St → Option (St × Int32)) => ∀ (S30 : St)  (ls : Array Slot), lv_has ls 3 [(0, .ref (base + k0)), (1, .int v1), (2, .int v2)] → Sim p l e rm_X11_weight s m args below meth c D cy base 0 0 (fun S1 r => MQ below (QcI D cy base tS S1 r) args s 0 0 (AA base)) (j S30) S30 (F0 m 32 ls [])) ?_ (fun j29 hj29 => ?_)
    · intro S30 ls hl
      refine r_aload_n (pc := 32) C dX11_weight_32 rfl (lv_at hl 0 rfl) ?_
      refine r_iload_n (pc := 33) C dX11_weight_33 rfl (lv_at hl 1 rfl) ?_
      refine r_iload_n (pc := 34) C dX11_weight_34 rfl (lv_at hl 2 rfl) ?_
      refine r_join (fun (j : St → Int32 → Option (St × Int32)) => ∀ (S32 : St) (v33 : Int32) (ls : Array Slot), lv_has ls 3 [] → Sim p l e rm_X11_weight s m args below meth c D cy base 0 0 (fun S1 r => MQ below (QcI D cy base tS S1 r) args s 0 0 (AA base)) (j S32 v33) S32 (F0 m 46 ls [.int v33, .int v1, .ref (base + k0)])) ?_ (fun j31 hj31 => ?_)
      · intro S32 v33 ls hl
        refine cv_X11_102 (pc := 46) C t0 hl.1 ⟨Nat.le_of_ble_eq_true rfl, Nat.le_of_ble_eq_true rfl⟩ (Nat.le_of_ble_eq_true rfl) dX11_weight_46 (fun S34 v35 => ?_)
        exact r_iret (pc := 49) C hr hk dX11_weight_49
      refine r_if_ge (pc := 35) C (tgt := 45) dX11_weight_35 (by decide) (fun _ => ?_) (fun _ => ?_)
      · refine r_iload_n (pc := 45) C dX11_weight_45 rfl (lv_at hl 2 rfl) ?_
        exact hj31 S30 v2 _ (lv_sub hl [] rfl)
      · refine r_bipush (pc := 38) C (11 : Int32) dX11_weight_38 (by decide) ?_
        refine r_iload_n (pc := 40) C dX11_weight_40 rfl (lv_at hl 2 rfl) ?_
        refine r_isub (pc := 41) C dX11_weight_41 ?_
        refine r_goto (pc := 42) C (tgt := 46) dX11_weight_42 (by decide) ?_
        exact hj31 S30 ((11 : Int32) - v2) _ (lv_sub hl [] rfl)
    refine r_if_ne (pc := 13) C (tgt := 32) dX11_weight_13 (by decide) (fun _ => ?_) (fun _ => ?_)
    · exact hj29 S27  _ (lv_sub hl [0, 1, 2] rfl)
    · refine r_iload_n (pc := 16) C dX11_weight_16 rfl (lv_at hl 2 rfl) ?_
      refine r_bipush (pc := 17) C (-3 : Int32) dX11_weight_17 (by decide) ?_
      refine r_iconst (pc := 19) C (-1 : Int32) dX11_weight_19 (by decide) ?_
      refine cv_X11_98 (pc := 20) C  hl.1 ⟨Nat.le_of_ble_eq_true rfl, Nat.le_of_ble_eq_true rfl⟩ (Nat.le_of_ble_eq_true rfl) dX11_weight_20 (fun S36 v37 => ?_)
      refine r_if_ne (pc := 23) C (tgt := 32) dX11_weight_23 (by decide) (fun _ => ?_) (fun _ => ?_)
      · exact hj29 S36  _ (lv_sub hl [0, 1, 2] rfl)
      · exact hj23 S36  _ (lv_sub hl [0] rfl)

theorem ct_X11_weight (l : Launch) {D : va_G} {cy : Nat → ClassId} {base tS : Nat} {S : St} {k0 : Nat} {v1 : Int32} {v2 : Int32} (t0 : cls k0 = 11) {S1 : St} {r1 : Int32} (h : X11_weight S k0 v1 v2 = some (S1, r1)) : Met l yX11_weight (wsY yX11_weight cX11_weight 3 (some .int)) rm_X11_weight (va_Pc [.ref (base + k0), .int v1, .int v2] (World D cy base tS S)) (QcI D cy base tS S1 r1) 0 0 (AA base) := conI rfl rfl (by decide) (Nat.le_of_ble_eq_true rfl) (fun p e s m args below meth c ls C hr hk hl => sm_X11_weight C hr hk t0 hl) h
abbrev rm_X11_store : Room := { frames := 0, cells := 0, slots := 0, locals := 0 }
set_option maxHeartbeats 4000000 in
set_option maxRecDepth 100000 in
theorem lp_X11_store_163 {p : Program} {l : Launch} {e : Env} {s : State} {m : MethodId} {args : Array Value} {below : List Frame} {meth : Method} {c : Code} {D : va_G} {cy : Nat → ClassId} {base tS : Nat} {ls : Array Slot} (C : Cx p rm_X11_store s m args c RX11 cX11_store 2 D cy base tS 0 0) (hr : meth.sig.returnType = none) (hk : meth.locks = false) {k0 : Nat} (t0 : cls k0 = 11) {K : St → Int32 → Option (St × Unit)} (hK : ∀ (S : St) (v1 : Int32) (ls : Array Slot), lv_has ls 2 [(0, .ref (base + k0)), (1, .int v1)] → Sim p l e rm_X11_store s m args below meth c D cy base 0 0 (fun S1 r => MQ below (QcV D cy base tS S1 r) args s 0 0 (AA base)) (K S v1) S (F0 m 195 ls [])) : ∀ (n : Nat) (S : St) (v1 : Int32) (ls : Array Slot), lv_has ls 2 [(0, .ref (base + k0)), (1, .int v1)] → Sim p l e rm_X11_store s m args below meth c D cy base 0 0 (fun S1 r => MQ below (QcV D cy base tS S1 r) args s 0 0 (AA base)) (X11_store_163 k0 K n S v1) S (F0 m 163 ls []) := by
  intro n
  induction n with
  | zero => intro S v1 ls hl; exact Sim.none
  | succ n ih =>
    intro S v1 ls hl
    rw [X11_store_163]
    refine r_iload_n (pc := 163) C dX11_store_163 rfl (lv_at hl 1 rfl) ?_
    refine r_bipush (pc := 164) C (15 : Int32) dX11_store_164 (by decide) ?_
    refine r_icmp_ge (pc := 166) C (tgt := 195) dX11_store_166 (by decide) (fun _ => ?_) (fun _ => ?_)
    · exact hK S v1 _ (lv_sub hl [0, 1] rfl)
    · refine r_aload_n (pc := 169) C dX11_store_169 rfl (lv_at hl 0 rfl) ?_
      refine gf_X11_58 (pc := 170) C t0 dX11_store_170 ?_
      have t23 := ft_11_25 t0
      refine r_bipush (pc := 173) C (15 : Int32) dX11_store_173 (by decide) ?_
      refine r_aload_n (pc := 175) C dX11_store_175 rfl (lv_at hl 0 rfl) ?_
      refine gf_X11_143 (pc := 176) C t0 dX11_store_176 ?_
      refine r_imul (pc := 179) C dX11_store_179 ?_
      refine r_iload_n (pc := 180) C dX11_store_180 rfl (lv_at hl 1 rfl) ?_
      refine r_iadd (pc := 181) C dX11_store_181 ?_
      refine r_aload_n (pc := 182) C dX11_store_182 rfl (lv_at hl 0 rfl) ?_
      refine gf_X11_16 (pc := 183) C t0 dX11_store_183 ?_
      have t24 := ft_11_4 t0
      refine r_iload_n (pc := 186) C dX11_store_186 rfl (lv_at hl 1 rfl) ?_
      refine r_lald (pc := 187) C t24 dX11_store_187 ?_
      refine r_last (pc := 188) C t23 dX11_store_188 (fun S25 => ?_)
      refine r_iinc (pc := 189) C (k := 1) (1 : Int32) (fun v26 => [(1, .int v26), (0, .ref (base + k0))]) dX11_store_189 hl rfl (by decide) (Nat.le_of_ble_eq_true rfl) (fun _ => rfl) (fun v26 ls hl => ?_)
      refine r_goto (pc := 192) C (tgt := 163) dX11_store_192 (by decide) ?_
      exact ih S25 v26 _ (lv_sub hl [1, 0] rfl)

set_option maxHeartbeats 4000000 in
set_option maxRecDepth 100000 in
theorem lp_X11_store_197 {p : Program} {l : Launch} {e : Env} {s : State} {m : MethodId} {args : Array Value} {below : List Frame} {meth : Method} {c : Code} {D : va_G} {cy : Nat → ClassId} {base tS : Nat} {ls : Array Slot} (C : Cx p rm_X11_store s m args c RX11 cX11_store 2 D cy base tS 0 0) (hr : meth.sig.returnType = none) (hk : meth.locks = false) {k0 : Nat} (t0 : cls k0 = 11) {K : St → Int32 → Option (St × Unit)} (hK : ∀ (S : St) (v1 : Int32) (ls : Array Slot), lv_has ls 2 [(0, .ref (base + k0)), (1, .int v1)] → Sim p l e rm_X11_store s m args below meth c D cy base 0 0 (fun S1 r => MQ below (QcV D cy base tS S1 r) args s 0 0 (AA base)) (K S v1) S (F0 m 229 ls [])) : ∀ (n : Nat) (S : St) (v1 : Int32) (ls : Array Slot), lv_has ls 2 [(0, .ref (base + k0)), (1, .int v1)] → Sim p l e rm_X11_store s m args below meth c D cy base 0 0 (fun S1 r => MQ below (QcV D cy base tS S1 r) args s 0 0 (AA base)) (X11_store_197 k0 K n S v1) S (F0 m 197 ls []) := by
  intro n
  induction n with
  | zero => intro S v1 ls hl; exact Sim.none
  | succ n ih =>
    intro S v1 ls hl
    rw [X11_store_197]
    refine r_iload_n (pc := 197) C dX11_store_197 rfl (lv_at hl 1 rfl) ?_
    refine r_bipush (pc := 198) C (12 : Int32) dX11_store_198 (by decide) ?_
    refine r_icmp_ge (pc := 200) C (tgt := 229) dX11_store_200 (by decide) (fun _ => ?_) (fun _ => ?_)
    · exact hK S v1 _ (lv_sub hl [0, 1] rfl)
    · refine r_aload_n (pc := 203) C dX11_store_203 rfl (lv_at hl 0 rfl) ?_
      refine gf_X11_61 (pc := 204) C t0 dX11_store_204 ?_
      have t29 := ft_11_26 t0
      refine r_bipush (pc := 207) C (12 : Int32) dX11_store_207 (by decide) ?_
      refine r_aload_n (pc := 209) C dX11_store_209 rfl (lv_at hl 0 rfl) ?_
      refine gf_X11_143 (pc := 210) C t0 dX11_store_210 ?_
      refine r_imul (pc := 213) C dX11_store_213 ?_
      refine r_iload_n (pc := 214) C dX11_store_214 rfl (lv_at hl 1 rfl) ?_
      refine r_iadd (pc := 215) C dX11_store_215 ?_
      refine r_aload_n (pc := 216) C dX11_store_216 rfl (lv_at hl 0 rfl) ?_
      refine gf_X11_20 (pc := 217) C t0 dX11_store_217 ?_
      have t30 := ft_11_5 t0
      refine r_iload_n (pc := 220) C dX11_store_220 rfl (lv_at hl 1 rfl) ?_
      refine r_lald (pc := 221) C t30 dX11_store_221 ?_
      refine r_last (pc := 222) C t29 dX11_store_222 (fun S31 => ?_)
      refine r_iinc (pc := 223) C (k := 1) (1 : Int32) (fun v32 => [(1, .int v32), (0, .ref (base + k0))]) dX11_store_223 hl rfl (by decide) (Nat.le_of_ble_eq_true rfl) (fun _ => rfl) (fun v32 ls hl => ?_)
      refine r_goto (pc := 226) C (tgt := 197) dX11_store_226 (by decide) ?_
      exact ih S31 v32 _ (lv_sub hl [1, 0] rfl)

set_option maxHeartbeats 4000000 in
set_option maxRecDepth 100000 in
theorem lp_X11_store_231 {p : Program} {l : Launch} {e : Env} {s : State} {m : MethodId} {args : Array Value} {below : List Frame} {meth : Method} {c : Code} {D : va_G} {cy : Nat → ClassId} {base tS : Nat} {ls : Array Slot} (C : Cx p rm_X11_store s m args c RX11 cX11_store 2 D cy base tS 0 0) (hr : meth.sig.returnType = none) (hk : meth.locks = false) {k0 : Nat} (t0 : cls k0 = 11) {K : St → Int32 → Option (St × Unit)} (hK : ∀ (S : St) (v1 : Int32) (ls : Array Slot), lv_has ls 2 [(0, .ref (base + k0)), (1, .int v1)] → Sim p l e rm_X11_store s m args below meth c D cy base 0 0 (fun S1 r => MQ below (QcV D cy base tS S1 r) args s 0 0 (AA base)) (K S v1) S (F0 m 263 ls [])) : ∀ (n : Nat) (S : St) (v1 : Int32) (ls : Array Slot), lv_has ls 2 [(0, .ref (base + k0)), (1, .int v1)] → Sim p l e rm_X11_store s m args below meth c D cy base 0 0 (fun S1 r => MQ below (QcV D cy base tS S1 r) args s 0 0 (AA base)) (X11_store_231 k0 K n S v1) S (F0 m 231 ls []) := by
  intro n
  induction n with
  | zero => intro S v1 ls hl; exact Sim.none
  | succ n ih =>
    intro S v1 ls hl
    rw [X11_store_231]
    refine r_iload_n (pc := 231) C dX11_store_231 rfl (lv_at hl 1 rfl) ?_
    refine r_bipush (pc := 232) C (12 : Int32) dX11_store_232 (by decide) ?_
    refine r_icmp_ge (pc := 234) C (tgt := 263) dX11_store_234 (by decide) (fun _ => ?_) (fun _ => ?_)
    · exact hK S v1 _ (lv_sub hl [0, 1] rfl)
    · refine r_aload_n (pc := 237) C dX11_store_237 rfl (lv_at hl 0 rfl) ?_
      refine gf_X11_67 (pc := 238) C t0 dX11_store_238 ?_
      have t35 := ft_11_28 t0
      refine r_bipush (pc := 241) C (12 : Int32) dX11_store_241 (by decide) ?_
      refine r_aload_n (pc := 243) C dX11_store_243 rfl (lv_at hl 0 rfl) ?_
      refine gf_X11_143 (pc := 244) C t0 dX11_store_244 ?_
      refine r_imul (pc := 247) C dX11_store_247 ?_
      refine r_iload_n (pc := 248) C dX11_store_248 rfl (lv_at hl 1 rfl) ?_
      refine r_iadd (pc := 249) C dX11_store_249 ?_
      refine r_aload_n (pc := 250) C dX11_store_250 rfl (lv_at hl 0 rfl) ?_
      refine gf_X11_30 (pc := 251) C t0 dX11_store_251 ?_
      have t36 := ft_11_10 t0
      refine r_iload_n (pc := 254) C dX11_store_254 rfl (lv_at hl 1 rfl) ?_
      refine r_iald (pc := 255) C t36 dX11_store_255 ?_
      refine r_iast (pc := 256) C t35 dX11_store_256 (fun S37 => ?_)
      refine r_iinc (pc := 257) C (k := 1) (1 : Int32) (fun v38 => [(1, .int v38), (0, .ref (base + k0))]) dX11_store_257 hl rfl (by decide) (Nat.le_of_ble_eq_true rfl) (fun _ => rfl) (fun v38 ls hl => ?_)
      refine r_goto (pc := 260) C (tgt := 231) dX11_store_260 (by decide) ?_
      exact ih S37 v38 _ (lv_sub hl [1, 0] rfl)

set_option maxHeartbeats 4000000 in
set_option maxRecDepth 100000 in
theorem lp_X11_store_11 {p : Program} {l : Launch} {e : Env} {s : State} {m : MethodId} {args : Array Value} {below : List Frame} {meth : Method} {c : Code} {D : va_G} {cy : Nat → ClassId} {base tS : Nat} {ls : Array Slot} (C : Cx p rm_X11_store s m args c RX11 cX11_store 2 D cy base tS 0 0) (hr : meth.sig.returnType = none) (hk : meth.locks = false) {k0 : Nat} (t0 : cls k0 = 11) {K : St → Int32 → Option (St × Unit)} (hK : ∀ (S : St) (v1 : Int32) (ls : Array Slot), lv_has ls 2 [(0, .ref (base + k0)), (1, .int v1)] → Sim p l e rm_X11_store s m args below meth c D cy base 0 0 (fun S1 r => MQ below (QcV D cy base tS S1 r) args s 0 0 (AA base)) (K S v1) S (F0 m 39 ls [])) : ∀ (n : Nat) (S : St) (v1 : Int32) (ls : Array Slot), lv_has ls 2 [(0, .ref (base + k0)), (1, .int v1)] → Sim p l e rm_X11_store s m args below meth c D cy base 0 0 (fun S1 r => MQ below (QcV D cy base tS S1 r) args s 0 0 (AA base)) (X11_store_11 k0 K n S v1) S (F0 m 11 ls []) := by
  intro n
  induction n with
  | zero => intro S v1 ls hl; exact Sim.none
  | succ n ih =>
    intro S v1 ls hl
    rw [X11_store_11]
    refine r_iload_n (pc := 11) C dX11_store_11 rfl (lv_at hl 1 rfl) ?_
    refine r_sipush (pc := 12) C (285 : Int32) dX11_store_12 (by decide) ?_
    refine r_icmp_ge (pc := 15) C (tgt := 39) dX11_store_15 (by decide) (fun _ => ?_) (fun _ => ?_)
    · exact hK S v1 _ (lv_sub hl [0, 1] rfl)
    · refine r_aload_n (pc := 18) C dX11_store_18 rfl (lv_at hl 0 rfl) ?_
      refine gf_X11_58 (pc := 19) C t0 dX11_store_19 ?_
      have t46 := ft_11_25 t0
      refine r_iload_n (pc := 22) C dX11_store_22 rfl (lv_at hl 1 rfl) ?_
      refine r_aload_n (pc := 23) C dX11_store_23 rfl (lv_at hl 0 rfl) ?_
      refine gf_X11_58 (pc := 24) C t0 dX11_store_24 ?_
      have t47 := ft_11_25 t0
      refine r_iload_n (pc := 27) C dX11_store_27 rfl (lv_at hl 1 rfl) ?_
      refine r_bipush (pc := 28) C (15 : Int32) dX11_store_28 (by decide) ?_
      refine r_iadd (pc := 30) C dX11_store_30 ?_
      refine r_lald (pc := 31) C t47 dX11_store_31 ?_
      refine r_last (pc := 32) C t46 dX11_store_32 (fun S48 => ?_)
      refine r_iinc (pc := 33) C (k := 1) (1 : Int32) (fun v49 => [(1, .int v49), (0, .ref (base + k0))]) dX11_store_33 hl rfl (by decide) (Nat.le_of_ble_eq_true rfl) (fun _ => rfl) (fun v49 ls hl => ?_)
      refine r_goto (pc := 36) C (tgt := 11) dX11_store_36 (by decide) ?_
      exact ih S48 v49 _ (lv_sub hl [1, 0] rfl)

set_option maxHeartbeats 4000000 in
set_option maxRecDepth 100000 in
theorem lp_X11_store_41 {p : Program} {l : Launch} {e : Env} {s : State} {m : MethodId} {args : Array Value} {below : List Frame} {meth : Method} {c : Code} {D : va_G} {cy : Nat → ClassId} {base tS : Nat} {ls : Array Slot} (C : Cx p rm_X11_store s m args c RX11 cX11_store 2 D cy base tS 0 0) (hr : meth.sig.returnType = none) (hk : meth.locks = false) {k0 : Nat} (t0 : cls k0 = 11) {K : St → Int32 → Option (St × Unit)} (hK : ∀ (S : St) (v1 : Int32) (ls : Array Slot), lv_has ls 2 [(0, .ref (base + k0)), (1, .int v1)] → Sim p l e rm_X11_store s m args below meth c D cy base 0 0 (fun S1 r => MQ below (QcV D cy base tS S1 r) args s 0 0 (AA base)) (K S v1) S (F0 m 69 ls [])) : ∀ (n : Nat) (S : St) (v1 : Int32) (ls : Array Slot), lv_has ls 2 [(0, .ref (base + k0)), (1, .int v1)] → Sim p l e rm_X11_store s m args below meth c D cy base 0 0 (fun S1 r => MQ below (QcV D cy base tS S1 r) args s 0 0 (AA base)) (X11_store_41 k0 K n S v1) S (F0 m 41 ls []) := by
  intro n
  induction n with
  | zero => intro S v1 ls hl; exact Sim.none
  | succ n ih =>
    intro S v1 ls hl
    rw [X11_store_41]
    refine r_iload_n (pc := 41) C dX11_store_41 rfl (lv_at hl 1 rfl) ?_
    refine r_sipush (pc := 42) C (228 : Int32) dX11_store_42 (by decide) ?_
    refine r_icmp_ge (pc := 45) C (tgt := 69) dX11_store_45 (by decide) (fun _ => ?_) (fun _ => ?_)
    · exact hK S v1 _ (lv_sub hl [0, 1] rfl)
    · refine r_aload_n (pc := 48) C dX11_store_48 rfl (lv_at hl 0 rfl) ?_
      refine gf_X11_61 (pc := 49) C t0 dX11_store_49 ?_
      have t52 := ft_11_26 t0
      refine r_iload_n (pc := 52) C dX11_store_52 rfl (lv_at hl 1 rfl) ?_
      refine r_aload_n (pc := 53) C dX11_store_53 rfl (lv_at hl 0 rfl) ?_
      refine gf_X11_61 (pc := 54) C t0 dX11_store_54 ?_
      have t53 := ft_11_26 t0
      refine r_iload_n (pc := 57) C dX11_store_57 rfl (lv_at hl 1 rfl) ?_
      refine r_bipush (pc := 58) C (12 : Int32) dX11_store_58 (by decide) ?_
      refine r_iadd (pc := 60) C dX11_store_60 ?_
      refine r_lald (pc := 61) C t53 dX11_store_61 ?_
      refine r_last (pc := 62) C t52 dX11_store_62 (fun S54 => ?_)
      refine r_iinc (pc := 63) C (k := 1) (1 : Int32) (fun v55 => [(1, .int v55), (0, .ref (base + k0))]) dX11_store_63 hl rfl (by decide) (Nat.le_of_ble_eq_true rfl) (fun _ => rfl) (fun v55 ls hl => ?_)
      refine r_goto (pc := 66) C (tgt := 41) dX11_store_66 (by decide) ?_
      exact ih S54 v55 _ (lv_sub hl [1, 0] rfl)

set_option maxHeartbeats 4000000 in
set_option maxRecDepth 100000 in
theorem lp_X11_store_71 {p : Program} {l : Launch} {e : Env} {s : State} {m : MethodId} {args : Array Value} {below : List Frame} {meth : Method} {c : Code} {D : va_G} {cy : Nat → ClassId} {base tS : Nat} {ls : Array Slot} (C : Cx p rm_X11_store s m args c RX11 cX11_store 2 D cy base tS 0 0) (hr : meth.sig.returnType = none) (hk : meth.locks = false) {k0 : Nat} (t0 : cls k0 = 11) {K : St → Int32 → Option (St × Unit)} (hK : ∀ (S : St) (v1 : Int32) (ls : Array Slot), lv_has ls 2 [(0, .ref (base + k0)), (1, .int v1)] → Sim p l e rm_X11_store s m args below meth c D cy base 0 0 (fun S1 r => MQ below (QcV D cy base tS S1 r) args s 0 0 (AA base)) (K S v1) S (F0 m 99 ls [])) : ∀ (n : Nat) (S : St) (v1 : Int32) (ls : Array Slot), lv_has ls 2 [(0, .ref (base + k0)), (1, .int v1)] → Sim p l e rm_X11_store s m args below meth c D cy base 0 0 (fun S1 r => MQ below (QcV D cy base tS S1 r) args s 0 0 (AA base)) (X11_store_71 k0 K n S v1) S (F0 m 71 ls []) := by
  intro n
  induction n with
  | zero => intro S v1 ls hl; exact Sim.none
  | succ n ih =>
    intro S v1 ls hl
    rw [X11_store_71]
    refine r_iload_n (pc := 71) C dX11_store_71 rfl (lv_at hl 1 rfl) ?_
    refine r_sipush (pc := 72) C (228 : Int32) dX11_store_72 (by decide) ?_
    refine r_icmp_ge (pc := 75) C (tgt := 99) dX11_store_75 (by decide) (fun _ => ?_) (fun _ => ?_)
    · exact hK S v1 _ (lv_sub hl [0, 1] rfl)
    · refine r_aload_n (pc := 78) C dX11_store_78 rfl (lv_at hl 0 rfl) ?_
      refine gf_X11_67 (pc := 79) C t0 dX11_store_79 ?_
      have t58 := ft_11_28 t0
      refine r_iload_n (pc := 82) C dX11_store_82 rfl (lv_at hl 1 rfl) ?_
      refine r_aload_n (pc := 83) C dX11_store_83 rfl (lv_at hl 0 rfl) ?_
      refine gf_X11_67 (pc := 84) C t0 dX11_store_84 ?_
      have t59 := ft_11_28 t0
      refine r_iload_n (pc := 87) C dX11_store_87 rfl (lv_at hl 1 rfl) ?_
      refine r_bipush (pc := 88) C (12 : Int32) dX11_store_88 (by decide) ?_
      refine r_iadd (pc := 90) C dX11_store_90 ?_
      refine r_iald (pc := 91) C t59 dX11_store_91 ?_
      refine r_iast (pc := 92) C t58 dX11_store_92 (fun S60 => ?_)
      refine r_iinc (pc := 93) C (k := 1) (1 : Int32) (fun v61 => [(1, .int v61), (0, .ref (base + k0))]) dX11_store_93 hl rfl (by decide) (Nat.le_of_ble_eq_true rfl) (fun _ => rfl) (fun v61 ls hl => ?_)
      refine r_goto (pc := 96) C (tgt := 71) dX11_store_96 (by decide) ?_
      exact ih S60 v61 _ (lv_sub hl [1, 0] rfl)

set_option maxHeartbeats 4000000 in
set_option maxRecDepth 100000 in
theorem lp_X11_store_101 {p : Program} {l : Launch} {e : Env} {s : State} {m : MethodId} {args : Array Value} {below : List Frame} {meth : Method} {c : Code} {D : va_G} {cy : Nat → ClassId} {base tS : Nat} {ls : Array Slot} (C : Cx p rm_X11_store s m args c RX11 cX11_store 2 D cy base tS 0 0) (hr : meth.sig.returnType = none) (hk : meth.locks = false) {k0 : Nat} (t0 : cls k0 = 11) {K : St → Int32 → Option (St × Unit)} (hK : ∀ (S : St) (v1 : Int32) (ls : Array Slot), lv_has ls 2 [(0, .ref (base + k0)), (1, .int v1)] → Sim p l e rm_X11_store s m args below meth c D cy base 0 0 (fun S1 r => MQ below (QcV D cy base tS S1 r) args s 0 0 (AA base)) (K S v1) S (F0 m 127 ls [])) : ∀ (n : Nat) (S : St) (v1 : Int32) (ls : Array Slot), lv_has ls 2 [(0, .ref (base + k0)), (1, .int v1)] → Sim p l e rm_X11_store s m args below meth c D cy base 0 0 (fun S1 r => MQ below (QcV D cy base tS S1 r) args s 0 0 (AA base)) (X11_store_101 k0 K n S v1) S (F0 m 101 ls []) := by
  intro n
  induction n with
  | zero => intro S v1 ls hl; exact Sim.none
  | succ n ih =>
    intro S v1 ls hl
    rw [X11_store_101]
    refine r_iload_n (pc := 101) C dX11_store_101 rfl (lv_at hl 1 rfl) ?_
    refine r_bipush (pc := 102) C (19 : Int32) dX11_store_102 (by decide) ?_
    refine r_icmp_ge (pc := 104) C (tgt := 127) dX11_store_104 (by decide) (fun _ => ?_) (fun _ => ?_)
    · exact hK S v1 _ (lv_sub hl [0, 1] rfl)
    · refine r_aload_n (pc := 107) C dX11_store_107 rfl (lv_at hl 0 rfl) ?_
      refine gf_X11_64 (pc := 108) C t0 dX11_store_108 ?_
      have t64 := ft_11_27 t0
      refine r_iload_n (pc := 111) C dX11_store_111 rfl (lv_at hl 1 rfl) ?_
      refine r_aload_n (pc := 112) C dX11_store_112 rfl (lv_at hl 0 rfl) ?_
      refine gf_X11_64 (pc := 113) C t0 dX11_store_113 ?_
      have t65 := ft_11_27 t0
      refine r_iload_n (pc := 116) C dX11_store_116 rfl (lv_at hl 1 rfl) ?_
      refine r_iconst (pc := 117) C (1 : Int32) dX11_store_117 (by decide) ?_
      refine r_iadd (pc := 118) C dX11_store_118 ?_
      refine r_lald (pc := 119) C t65 dX11_store_119 ?_
      refine r_last (pc := 120) C t64 dX11_store_120 (fun S66 => ?_)
      refine r_iinc (pc := 121) C (k := 1) (1 : Int32) (fun v67 => [(1, .int v67), (0, .ref (base + k0))]) dX11_store_121 hl rfl (by decide) (Nat.le_of_ble_eq_true rfl) (fun _ => rfl) (fun v67 ls hl => ?_)
      refine r_goto (pc := 124) C (tgt := 101) dX11_store_124 (by decide) ?_
      exact ih S66 v67 _ (lv_sub hl [1, 0] rfl)

set_option maxHeartbeats 4000000 in
set_option maxRecDepth 100000 in
theorem lp_X11_store_129 {p : Program} {l : Launch} {e : Env} {s : State} {m : MethodId} {args : Array Value} {below : List Frame} {meth : Method} {c : Code} {D : va_G} {cy : Nat → ClassId} {base tS : Nat} {ls : Array Slot} (C : Cx p rm_X11_store s m args c RX11 cX11_store 2 D cy base tS 0 0) (hr : meth.sig.returnType = none) (hk : meth.locks = false) {k0 : Nat} (t0 : cls k0 = 11) {K : St → Int32 → Option (St × Unit)} (hK : ∀ (S : St) (v1 : Int32) (ls : Array Slot), lv_has ls 2 [(0, .ref (base + k0)), (1, .int v1)] → Sim p l e rm_X11_store s m args below meth c D cy base 0 0 (fun S1 r => MQ below (QcV D cy base tS S1 r) args s 0 0 (AA base)) (K S v1) S (F0 m 155 ls [])) : ∀ (n : Nat) (S : St) (v1 : Int32) (ls : Array Slot), lv_has ls 2 [(0, .ref (base + k0)), (1, .int v1)] → Sim p l e rm_X11_store s m args below meth c D cy base 0 0 (fun S1 r => MQ below (QcV D cy base tS S1 r) args s 0 0 (AA base)) (X11_store_129 k0 K n S v1) S (F0 m 129 ls []) := by
  intro n
  induction n with
  | zero => intro S v1 ls hl; exact Sim.none
  | succ n ih =>
    intro S v1 ls hl
    rw [X11_store_129]
    refine r_iload_n (pc := 129) C dX11_store_129 rfl (lv_at hl 1 rfl) ?_
    refine r_bipush (pc := 130) C (19 : Int32) dX11_store_130 (by decide) ?_
    refine r_icmp_ge (pc := 132) C (tgt := 155) dX11_store_132 (by decide) (fun _ => ?_) (fun _ => ?_)
    · exact hK S v1 _ (lv_sub hl [0, 1] rfl)
    · refine r_aload_n (pc := 135) C dX11_store_135 rfl (lv_at hl 0 rfl) ?_
      refine gf_X11_70 (pc := 136) C t0 dX11_store_136 ?_
      have t70 := ft_11_29 t0
      refine r_iload_n (pc := 139) C dX11_store_139 rfl (lv_at hl 1 rfl) ?_
      refine r_aload_n (pc := 140) C dX11_store_140 rfl (lv_at hl 0 rfl) ?_
      refine gf_X11_70 (pc := 141) C t0 dX11_store_141 ?_
      have t71 := ft_11_29 t0
      refine r_iload_n (pc := 144) C dX11_store_144 rfl (lv_at hl 1 rfl) ?_
      refine r_iconst (pc := 145) C (1 : Int32) dX11_store_145 (by decide) ?_
      refine r_iadd (pc := 146) C dX11_store_146 ?_
      refine r_iald (pc := 147) C t71 dX11_store_147 ?_
      refine r_iast (pc := 148) C t70 dX11_store_148 (fun S72 => ?_)
      refine r_iinc (pc := 149) C (k := 1) (1 : Int32) (fun v73 => [(1, .int v73), (0, .ref (base + k0))]) dX11_store_149 hl rfl (by decide) (Nat.le_of_ble_eq_true rfl) (fun _ => rfl) (fun v73 ls hl => ?_)
      refine r_goto (pc := 152) C (tgt := 129) dX11_store_152 (by decide) ?_
      exact ih S72 v73 _ (lv_sub hl [1, 0] rfl)

set_option maxHeartbeats 4000000 in
set_option maxRecDepth 100000 in
theorem sm_X11_store {p : Program} {l : Launch} {e : Env} {s : State} {m : MethodId} {args : Array Value} {below : List Frame} {meth : Method} {c : Code} {D : va_G} {cy : Nat → ClassId} {base tS : Nat} {S : St} {k0 : Nat} {ls : Array Slot} (C : Cx p rm_X11_store s m args c RX11 cX11_store 2 D cy base tS 0 0) (hr : meth.sig.returnType = none) (hk : meth.locks = false) (t0 : cls k0 = 11) (hl : lv_has ls 2 [(0, .ref (base + k0))]) : Sim p l e rm_X11_store s m args below meth c D cy base 0 0 (fun S1 r => MQ below (QcV D cy base tS S1 r) args s 0 0 (AA base)) (X11_store S k0) S (F0 m 0 ls []) := by
  unfold X11_store
  refine r_aload_n (pc := 0) C dX11_store_0 rfl (lv_at hl 0 rfl) ?_
  refine gf_X11_143 (pc := 1) C t0 dX11_store_1 ?_
  refine r_bipush (pc := 4) C (20 : Int32) dX11_store_4 (by decide) ?_
  refine r_join (fun (j : St → Option (St × Unit)) => ∀ (S22 : St)  (ls : Array Slot), lv_has ls 2 [(0, .ref (base + k0))] → Sim p l e rm_X11_store s m args below meth c D cy base 0 0 (fun S1 r => MQ below (QcV D cy base tS S1 r) args s 0 0 (AA base)) (j S22) S22 (F0 m 161 ls [])) ?_ (fun j21 hj21 => ?_)
  · intro S22 ls hl
    refine r_iconst (pc := 161) C (0 : Int32) dX11_store_161 (by decide) ?_
    refine r_istore_n (lv2 := [(1, .int (0 : Int32)), (0, .ref (base + k0))]) (pc := 162) C dX11_store_162 rfl hl (Nat.le_of_ble_eq_true rfl) rfl (fun ls hl => ?_)
    refine lp_X11_store_163 (ls := ls) C hr hk t0 (fun S27 v28 ls hl => ?_) FU S22 (0 : Int32) _ (lv_sub hl [1, 0] rfl)
    refine r_iconst (pc := 195) C (0 : Int32) dX11_store_195 (by decide) ?_
    refine r_istore_n (lv2 := [(1, .int (0 : Int32)), (0, .ref (base + k0))]) (pc := 196) C dX11_store_196 rfl hl (Nat.le_of_ble_eq_true rfl) rfl (fun ls hl => ?_)
    refine lp_X11_store_197 (ls := ls) C hr hk t0 (fun S33 v34 ls hl => ?_) FU S27 (0 : Int32) _ (lv_sub hl [1, 0] rfl)
    refine r_iconst (pc := 229) C (0 : Int32) dX11_store_229 (by decide) ?_
    refine r_istore_n (lv2 := [(1, .int (0 : Int32)), (0, .ref (base + k0))]) (pc := 230) C dX11_store_230 rfl hl (Nat.le_of_ble_eq_true rfl) rfl (fun ls hl => ?_)
    refine lp_X11_store_231 (ls := ls) C hr hk t0 (fun S39 v40 ls hl => ?_) FU S33 (0 : Int32) _ (lv_sub hl [1, 0] rfl)
    refine r_aload_n (pc := 263) C dX11_store_263 rfl (lv_at hl 0 rfl) ?_
    refine gf_X11_64 (pc := 264) C t0 dX11_store_264 ?_
    have t41 := ft_11_27 t0
    refine r_aload_n (pc := 267) C dX11_store_267 rfl (lv_at hl 0 rfl) ?_
    refine gf_X11_143 (pc := 268) C t0 dX11_store_268 ?_
    refine r_aload_n (pc := 271) C dX11_store_271 rfl (lv_at hl 0 rfl) ?_
    refine gf_X11_23 (pc := 272) C t0 dX11_store_272 ?_
    refine r_last (pc := 275) C t41 dX11_store_275 (fun S42 => ?_)
    refine r_aload_n (pc := 276) C dX11_store_276 rfl (lv_at hl 0 rfl) ?_
    refine gf_X11_70 (pc := 277) C t0 dX11_store_277 ?_
    have t43 := ft_11_29 t0
    refine r_aload_n (pc := 280) C dX11_store_280 rfl (lv_at hl 0 rfl) ?_
    refine gf_X11_143 (pc := 281) C t0 dX11_store_281 ?_
    refine r_aload_n (pc := 284) C dX11_store_284 rfl (lv_at hl 0 rfl) ?_
    refine gf_X11_131 (pc := 285) C t0 dX11_store_285 ?_
    refine r_iast (pc := 288) C t43 dX11_store_288 (fun S44 => ?_)
    refine r_aload_n (pc := 289) C dX11_store_289 rfl (lv_at hl 0 rfl) ?_
    refine r_dup (pc := 290) C dX11_store_290 rfl ?_
    refine gf_X11_143 (pc := 291) C t0 dX11_store_291 ?_
    refine r_iconst (pc := 294) C (1 : Int32) dX11_store_294 (by decide) ?_
    refine r_iadd (pc := 295) C dX11_store_295 ?_
    refine pf_X11_143 (pc := 296) C t0 dX11_store_296 (fun S45 => ?_)
    exact r_vret (pc := 299) C hr hk dX11_store_299
  refine r_icmp_ne (pc := 6) C (tgt := 161) dX11_store_6 (by decide) (fun _ => ?_) (fun _ => ?_)
  · exact hj21 S  _ (lv_sub hl [0] rfl)
  · refine r_iconst (pc := 9) C (0 : Int32) dX11_store_9 (by decide) ?_
    refine r_istore_n (lv2 := [(1, .int (0 : Int32)), (0, .ref (base + k0))]) (pc := 10) C dX11_store_10 rfl hl (Nat.le_of_ble_eq_true rfl) rfl (fun ls hl => ?_)
    refine lp_X11_store_11 (ls := ls) C hr hk t0 (fun S50 v51 ls hl => ?_) FU S (0 : Int32) _ (lv_sub hl [1, 0] rfl)
    refine r_iconst (pc := 39) C (0 : Int32) dX11_store_39 (by decide) ?_
    refine r_istore_n (lv2 := [(1, .int (0 : Int32)), (0, .ref (base + k0))]) (pc := 40) C dX11_store_40 rfl hl (Nat.le_of_ble_eq_true rfl) rfl (fun ls hl => ?_)
    refine lp_X11_store_41 (ls := ls) C hr hk t0 (fun S56 v57 ls hl => ?_) FU S50 (0 : Int32) _ (lv_sub hl [1, 0] rfl)
    refine r_iconst (pc := 69) C (0 : Int32) dX11_store_69 (by decide) ?_
    refine r_istore_n (lv2 := [(1, .int (0 : Int32)), (0, .ref (base + k0))]) (pc := 70) C dX11_store_70 rfl hl (Nat.le_of_ble_eq_true rfl) rfl (fun ls hl => ?_)
    refine lp_X11_store_71 (ls := ls) C hr hk t0 (fun S62 v63 ls hl => ?_) FU S56 (0 : Int32) _ (lv_sub hl [1, 0] rfl)
    refine r_iconst (pc := 99) C (0 : Int32) dX11_store_99 (by decide) ?_
    refine r_istore_n (lv2 := [(1, .int (0 : Int32)), (0, .ref (base + k0))]) (pc := 100) C dX11_store_100 rfl hl (Nat.le_of_ble_eq_true rfl) rfl (fun ls hl => ?_)
    refine lp_X11_store_101 (ls := ls) C hr hk t0 (fun S68 v69 ls hl => ?_) FU S62 (0 : Int32) _ (lv_sub hl [1, 0] rfl)
    refine r_iconst (pc := 127) C (0 : Int32) dX11_store_127 (by decide) ?_
    refine r_istore_n (lv2 := [(1, .int (0 : Int32)), (0, .ref (base + k0))]) (pc := 128) C dX11_store_128 rfl hl (Nat.le_of_ble_eq_true rfl) rfl (fun ls hl => ?_)
    refine lp_X11_store_129 (ls := ls) C hr hk t0 (fun S74 v75 ls hl => ?_) FU S68 (0 : Int32) _ (lv_sub hl [1, 0] rfl)
    refine r_aload_n (pc := 155) C dX11_store_155 rfl (lv_at hl 0 rfl) ?_
    refine r_bipush (pc := 156) C (19 : Int32) dX11_store_156 (by decide) ?_
    refine pf_X11_143 (pc := 158) C t0 dX11_store_158 (fun S76 => ?_)
    exact hj21 S76  _ (lv_sub hl [0] rfl)

theorem ct_X11_store (l : Launch) {D : va_G} {cy : Nat → ClassId} {base tS : Nat} {S : St} {k0 : Nat} (t0 : cls k0 = 11) {S1 : St} {r1 : Unit} (h : X11_store S k0 = some (S1, r1)) : Met l yX11_store (wsY yX11_store cX11_store 2 none) rm_X11_store (va_Pc [.ref (base + k0)] (World D cy base tS S)) (QcV D cy base tS S1 r1) 0 0 (AA base) := conV rfl rfl (by decide) (Nat.le_of_ble_eq_true rfl) (fun p e s m args below meth c ls C hr hk hl => sm_X11_store C hr hk t0 hl) h
theorem cv_X11_148 {p : Program} {l : Launch} {e : Env} {R : Room} {s : State} {m : MethodId} {args : Array Value} {below : List Frame} {meth : Method} {c : Code} {D : va_G} {cy : Nat → ClassId} {base tS nc ns : Nat} {cc : ByteArray} {nL pc : Nat} {ls : Array Slot} {rest : List Value} {S : St} {ρ : Type} {Q : St → ρ → State → Prop} (C : Cx p R s m args c RX11 cc nL D cy base tS nc ns) {k0 : Nat} (t0 : cls k0 = 11) (hl : ls.size = nL) (hR : rm_X11_store.frames + 1 ≤ R.frames ∧ 8 + (2 + 11) + rm_X11_store.locals ≤ R.locals) {b : St → Unit → Option (St × ρ)} (hroom : (rest.map fun v => v.category).sum ≤ 8) (hd : decode cc pc = .ok (.invokevirtual 148, 3)) (kk : ∀ (S1 : St) (r : Unit), Sim p l e R s m args below meth c D cy base nc ns Q (b S1 r) S1 (F0 m (pc + 3) ls (rest))) : Sim p l e R s m args below meth c D cy base nc ns Q (bd (X11_store S k0) b) S (F0 m pc ls (.ref (base + k0) :: rest)) := r_callVV (n := 0) (As := []) C hl (rd_11 t0) (cls_lt t0 (by decide)) rfl (fun S1 r1 h => ct_X11_store l t0 h) wd_526 wd_527 wd_528 wd_497 wd_529 rfl rfl (by decide +kernel) hR rfl rfl hroom hd kk
abbrev rm_X11_undo : Room := { frames := 1, cells := 0, slots := 0, locals := 21 }
set_option maxHeartbeats 4000000 in
set_option maxRecDepth 100000 in
theorem lp_X11_undo_26 {p : Program} {l : Launch} {e : Env} {s : State} {m : MethodId} {args : Array Value} {below : List Frame} {meth : Method} {c : Code} {D : va_G} {cy : Nat → ClassId} {base tS : Nat} {ls : Array Slot} (C : Cx p rm_X11_undo s m args c RX11 cX11_undo 2 D cy base tS 0 0) (hr : meth.sig.returnType = (some .int)) (hk : meth.locks = false) {k0 : Nat} (t0 : cls k0 = 11) {K : St → Int32 → Option (St × Int32)} (hK : ∀ (S : St) (v1 : Int32) (ls : Array Slot), lv_has ls 2 [(0, .ref (base + k0)), (1, .int v1)] → Sim p l e rm_X11_undo s m args below meth c D cy base 0 0 (fun S1 r => MQ below (QcI D cy base tS S1 r) args s 0 0 (AA base)) (K S v1) S (F0 m 58 ls [])) : ∀ (n : Nat) (S : St) (v1 : Int32) (ls : Array Slot), lv_has ls 2 [(0, .ref (base + k0)), (1, .int v1)] → Sim p l e rm_X11_undo s m args below meth c D cy base 0 0 (fun S1 r => MQ below (QcI D cy base tS S1 r) args s 0 0 (AA base)) (X11_undo_26 k0 K n S v1) S (F0 m 26 ls []) := by
  intro n
  induction n with
  | zero => intro S v1 ls hl; exact Sim.none
  | succ n ih =>
    intro S v1 ls hl
    rw [X11_undo_26]
    refine r_iload_n (pc := 26) C dX11_undo_26 rfl (lv_at hl 1 rfl) ?_
    refine r_bipush (pc := 27) C (15 : Int32) dX11_undo_27 (by decide) ?_
    refine r_icmp_ge (pc := 29) C (tgt := 58) dX11_undo_29 (by decide) (fun _ => ?_) (fun _ => ?_)
    · exact hK S v1 _ (lv_sub hl [0, 1] rfl)
    · refine r_aload_n (pc := 32) C dX11_undo_32 rfl (lv_at hl 0 rfl) ?_
      refine gf_X11_16 (pc := 33) C t0 dX11_undo_33 ?_
      have t22 := ft_11_4 t0
      refine r_iload_n (pc := 36) C dX11_undo_36 rfl (lv_at hl 1 rfl) ?_
      refine r_aload_n (pc := 37) C dX11_undo_37 rfl (lv_at hl 0 rfl) ?_
      refine gf_X11_58 (pc := 38) C t0 dX11_undo_38 ?_
      have t23 := ft_11_25 t0
      refine r_bipush (pc := 41) C (15 : Int32) dX11_undo_41 (by decide) ?_
      refine r_aload_n (pc := 43) C dX11_undo_43 rfl (lv_at hl 0 rfl) ?_
      refine gf_X11_143 (pc := 44) C t0 dX11_undo_44 ?_
      refine r_imul (pc := 47) C dX11_undo_47 ?_
      refine r_iload_n (pc := 48) C dX11_undo_48 rfl (lv_at hl 1 rfl) ?_
      refine r_iadd (pc := 49) C dX11_undo_49 ?_
      refine r_lald (pc := 50) C t23 dX11_undo_50 ?_
      refine r_last (pc := 51) C t22 dX11_undo_51 (fun S24 => ?_)
      refine r_iinc (pc := 52) C (k := 1) (1 : Int32) (fun v25 => [(1, .int v25), (0, .ref (base + k0))]) dX11_undo_52 hl rfl (by decide) (Nat.le_of_ble_eq_true rfl) (fun _ => rfl) (fun v25 ls hl => ?_)
      refine r_goto (pc := 55) C (tgt := 26) dX11_undo_55 (by decide) ?_
      exact ih S24 v25 _ (lv_sub hl [1, 0] rfl)

set_option maxHeartbeats 4000000 in
set_option maxRecDepth 100000 in
theorem lp_X11_undo_60 {p : Program} {l : Launch} {e : Env} {s : State} {m : MethodId} {args : Array Value} {below : List Frame} {meth : Method} {c : Code} {D : va_G} {cy : Nat → ClassId} {base tS : Nat} {ls : Array Slot} (C : Cx p rm_X11_undo s m args c RX11 cX11_undo 2 D cy base tS 0 0) (hr : meth.sig.returnType = (some .int)) (hk : meth.locks = false) {k0 : Nat} (t0 : cls k0 = 11) {K : St → Int32 → Option (St × Int32)} (hK : ∀ (S : St) (v1 : Int32) (ls : Array Slot), lv_has ls 2 [(0, .ref (base + k0)), (1, .int v1)] → Sim p l e rm_X11_undo s m args below meth c D cy base 0 0 (fun S1 r => MQ below (QcI D cy base tS S1 r) args s 0 0 (AA base)) (K S v1) S (F0 m 92 ls [])) : ∀ (n : Nat) (S : St) (v1 : Int32) (ls : Array Slot), lv_has ls 2 [(0, .ref (base + k0)), (1, .int v1)] → Sim p l e rm_X11_undo s m args below meth c D cy base 0 0 (fun S1 r => MQ below (QcI D cy base tS S1 r) args s 0 0 (AA base)) (X11_undo_60 k0 K n S v1) S (F0 m 60 ls []) := by
  intro n
  induction n with
  | zero => intro S v1 ls hl; exact Sim.none
  | succ n ih =>
    intro S v1 ls hl
    rw [X11_undo_60]
    refine r_iload_n (pc := 60) C dX11_undo_60 rfl (lv_at hl 1 rfl) ?_
    refine r_bipush (pc := 61) C (12 : Int32) dX11_undo_61 (by decide) ?_
    refine r_icmp_ge (pc := 63) C (tgt := 92) dX11_undo_63 (by decide) (fun _ => ?_) (fun _ => ?_)
    · exact hK S v1 _ (lv_sub hl [0, 1] rfl)
    · refine r_aload_n (pc := 66) C dX11_undo_66 rfl (lv_at hl 0 rfl) ?_
      refine gf_X11_20 (pc := 67) C t0 dX11_undo_67 ?_
      have t28 := ft_11_5 t0
      refine r_iload_n (pc := 70) C dX11_undo_70 rfl (lv_at hl 1 rfl) ?_
      refine r_aload_n (pc := 71) C dX11_undo_71 rfl (lv_at hl 0 rfl) ?_
      refine gf_X11_61 (pc := 72) C t0 dX11_undo_72 ?_
      have t29 := ft_11_26 t0
      refine r_bipush (pc := 75) C (12 : Int32) dX11_undo_75 (by decide) ?_
      refine r_aload_n (pc := 77) C dX11_undo_77 rfl (lv_at hl 0 rfl) ?_
      refine gf_X11_143 (pc := 78) C t0 dX11_undo_78 ?_
      refine r_imul (pc := 81) C dX11_undo_81 ?_
      refine r_iload_n (pc := 82) C dX11_undo_82 rfl (lv_at hl 1 rfl) ?_
      refine r_iadd (pc := 83) C dX11_undo_83 ?_
      refine r_lald (pc := 84) C t29 dX11_undo_84 ?_
      refine r_last (pc := 85) C t28 dX11_undo_85 (fun S30 => ?_)
      refine r_iinc (pc := 86) C (k := 1) (1 : Int32) (fun v31 => [(1, .int v31), (0, .ref (base + k0))]) dX11_undo_86 hl rfl (by decide) (Nat.le_of_ble_eq_true rfl) (fun _ => rfl) (fun v31 ls hl => ?_)
      refine r_goto (pc := 89) C (tgt := 60) dX11_undo_89 (by decide) ?_
      exact ih S30 v31 _ (lv_sub hl [1, 0] rfl)

set_option maxHeartbeats 4000000 in
set_option maxRecDepth 100000 in
theorem lp_X11_undo_94 {p : Program} {l : Launch} {e : Env} {s : State} {m : MethodId} {args : Array Value} {below : List Frame} {meth : Method} {c : Code} {D : va_G} {cy : Nat → ClassId} {base tS : Nat} {ls : Array Slot} (C : Cx p rm_X11_undo s m args c RX11 cX11_undo 2 D cy base tS 0 0) (hr : meth.sig.returnType = (some .int)) (hk : meth.locks = false) {k0 : Nat} (t0 : cls k0 = 11) {K : St → Int32 → Option (St × Int32)} (hK : ∀ (S : St) (v1 : Int32) (ls : Array Slot), lv_has ls 2 [(0, .ref (base + k0)), (1, .int v1)] → Sim p l e rm_X11_undo s m args below meth c D cy base 0 0 (fun S1 r => MQ below (QcI D cy base tS S1 r) args s 0 0 (AA base)) (K S v1) S (F0 m 126 ls [])) : ∀ (n : Nat) (S : St) (v1 : Int32) (ls : Array Slot), lv_has ls 2 [(0, .ref (base + k0)), (1, .int v1)] → Sim p l e rm_X11_undo s m args below meth c D cy base 0 0 (fun S1 r => MQ below (QcI D cy base tS S1 r) args s 0 0 (AA base)) (X11_undo_94 k0 K n S v1) S (F0 m 94 ls []) := by
  intro n
  induction n with
  | zero => intro S v1 ls hl; exact Sim.none
  | succ n ih =>
    intro S v1 ls hl
    rw [X11_undo_94]
    refine r_iload_n (pc := 94) C dX11_undo_94 rfl (lv_at hl 1 rfl) ?_
    refine r_bipush (pc := 95) C (12 : Int32) dX11_undo_95 (by decide) ?_
    refine r_icmp_ge (pc := 97) C (tgt := 126) dX11_undo_97 (by decide) (fun _ => ?_) (fun _ => ?_)
    · exact hK S v1 _ (lv_sub hl [0, 1] rfl)
    · refine r_aload_n (pc := 100) C dX11_undo_100 rfl (lv_at hl 0 rfl) ?_
      refine gf_X11_30 (pc := 101) C t0 dX11_undo_101 ?_
      have t34 := ft_11_10 t0
      refine r_iload_n (pc := 104) C dX11_undo_104 rfl (lv_at hl 1 rfl) ?_
      refine r_aload_n (pc := 105) C dX11_undo_105 rfl (lv_at hl 0 rfl) ?_
      refine gf_X11_67 (pc := 106) C t0 dX11_undo_106 ?_
      have t35 := ft_11_28 t0
      refine r_bipush (pc := 109) C (12 : Int32) dX11_undo_109 (by decide) ?_
      refine r_aload_n (pc := 111) C dX11_undo_111 rfl (lv_at hl 0 rfl) ?_
      refine gf_X11_143 (pc := 112) C t0 dX11_undo_112 ?_
      refine r_imul (pc := 115) C dX11_undo_115 ?_
      refine r_iload_n (pc := 116) C dX11_undo_116 rfl (lv_at hl 1 rfl) ?_
      refine r_iadd (pc := 117) C dX11_undo_117 ?_
      refine r_iald (pc := 118) C t35 dX11_undo_118 ?_
      refine r_iast (pc := 119) C t34 dX11_undo_119 (fun S36 => ?_)
      refine r_iinc (pc := 120) C (k := 1) (1 : Int32) (fun v37 => [(1, .int v37), (0, .ref (base + k0))]) dX11_undo_120 hl rfl (by decide) (Nat.le_of_ble_eq_true rfl) (fun _ => rfl) (fun v37 ls hl => ?_)
      refine r_goto (pc := 123) C (tgt := 94) dX11_undo_123 (by decide) ?_
      exact ih S36 v37 _ (lv_sub hl [1, 0] rfl)

set_option maxHeartbeats 4000000 in
set_option maxRecDepth 100000 in
theorem sm_X11_undo {p : Program} {l : Launch} {e : Env} {s : State} {m : MethodId} {args : Array Value} {below : List Frame} {meth : Method} {c : Code} {D : va_G} {cy : Nat → ClassId} {base tS : Nat} {S : St} {k0 : Nat} {ls : Array Slot} (C : Cx p rm_X11_undo s m args c RX11 cX11_undo 2 D cy base tS 0 0) (hr : meth.sig.returnType = (some .int)) (hk : meth.locks = false) (t0 : cls k0 = 11) (hl : lv_has ls 2 [(0, .ref (base + k0))]) : Sim p l e rm_X11_undo s m args below meth c D cy base 0 0 (fun S1 r => MQ below (QcI D cy base tS S1 r) args s 0 0 (AA base)) (X11_undo S k0) S (F0 m 0 ls []) := by
  unfold X11_undo
  refine r_aload_n (pc := 0) C dX11_undo_0 rfl (lv_at hl 0 rfl) ?_
  refine gf_X11_143 (pc := 1) C t0 dX11_undo_1 ?_
  refine r_if_ne (pc := 4) C (tgt := 14) dX11_undo_4 (by decide) (fun _ => ?_) (fun _ => ?_)
  · refine r_aload_n (pc := 14) C dX11_undo_14 rfl (lv_at hl 0 rfl) ?_
    refine r_dup (pc := 15) C dX11_undo_15 rfl ?_
    refine gf_X11_143 (pc := 16) C t0 dX11_undo_16 ?_
    refine r_iconst (pc := 19) C (1 : Int32) dX11_undo_19 (by decide) ?_
    refine r_isub (pc := 20) C dX11_undo_20 ?_
    refine pf_X11_143 (pc := 21) C t0 dX11_undo_21 (fun S21 => ?_)
    refine r_iconst (pc := 24) C (0 : Int32) dX11_undo_24 (by decide) ?_
    refine r_istore_n (lv2 := [(1, .int (0 : Int32)), (0, .ref (base + k0))]) (pc := 25) C dX11_undo_25 rfl hl (Nat.le_of_ble_eq_true rfl) rfl (fun ls hl => ?_)
    refine lp_X11_undo_26 (ls := ls) C hr hk t0 (fun S26 v27 ls hl => ?_) FU S21 (0 : Int32) _ (lv_sub hl [1, 0] rfl)
    refine r_iconst (pc := 58) C (0 : Int32) dX11_undo_58 (by decide) ?_
    refine r_istore_n (lv2 := [(1, .int (0 : Int32)), (0, .ref (base + k0))]) (pc := 59) C dX11_undo_59 rfl hl (Nat.le_of_ble_eq_true rfl) rfl (fun ls hl => ?_)
    refine lp_X11_undo_60 (ls := ls) C hr hk t0 (fun S32 v33 ls hl => ?_) FU S26 (0 : Int32) _ (lv_sub hl [1, 0] rfl)
    refine r_iconst (pc := 92) C (0 : Int32) dX11_undo_92 (by decide) ?_
    refine r_istore_n (lv2 := [(1, .int (0 : Int32)), (0, .ref (base + k0))]) (pc := 93) C dX11_undo_93 rfl hl (Nat.le_of_ble_eq_true rfl) rfl (fun ls hl => ?_)
    refine lp_X11_undo_94 (ls := ls) C hr hk t0 (fun S38 v39 ls hl => ?_) FU S32 (0 : Int32) _ (lv_sub hl [1, 0] rfl)
    refine r_aload_n (pc := 126) C dX11_undo_126 rfl (lv_at hl 0 rfl) ?_
    refine r_aload_n (pc := 127) C dX11_undo_127 rfl (lv_at hl 0 rfl) ?_
    refine gf_X11_64 (pc := 128) C t0 dX11_undo_128 ?_
    have t40 := ft_11_27 t0
    refine r_aload_n (pc := 131) C dX11_undo_131 rfl (lv_at hl 0 rfl) ?_
    refine gf_X11_143 (pc := 132) C t0 dX11_undo_132 ?_
    refine r_lald (pc := 135) C t40 dX11_undo_135 ?_
    refine pf_X11_23 (pc := 136) C t0 dX11_undo_136 (fun S41 => ?_)
    refine r_aload_n (pc := 139) C dX11_undo_139 rfl (lv_at hl 0 rfl) ?_
    refine r_aload_n (pc := 140) C dX11_undo_140 rfl (lv_at hl 0 rfl) ?_
    refine gf_X11_70 (pc := 141) C t0 dX11_undo_141 ?_
    have t42 := ft_11_29 t0
    refine r_aload_n (pc := 144) C dX11_undo_144 rfl (lv_at hl 0 rfl) ?_
    refine gf_X11_143 (pc := 145) C t0 dX11_undo_145 ?_
    refine r_iald (pc := 148) C t42 dX11_undo_148 ?_
    refine pf_X11_131 (pc := 149) C t0 dX11_undo_149 (fun S43 => ?_)
    refine r_aload_n (pc := 152) C dX11_undo_152 rfl (lv_at hl 0 rfl) ?_
    refine gf_X11_143 (pc := 153) C t0 dX11_undo_153 ?_
    exact r_iret (pc := 156) C hr hk dX11_undo_156
  · refine r_aload_n (pc := 7) C dX11_undo_7 rfl (lv_at hl 0 rfl) ?_
    refine r_bipush (pc := 8) C (-11 : Int32) dX11_undo_8 (by decide) ?_
    refine cv_X11_118 (pc := 10) C t0 hl.1 ⟨Nat.le_of_ble_eq_true rfl, Nat.le_of_ble_eq_true rfl⟩ (Nat.le_of_ble_eq_true rfl) dX11_undo_10 (fun S44 v45 => ?_)
    exact r_iret (pc := 13) C hr hk dX11_undo_13

theorem ct_X11_undo (l : Launch) {D : va_G} {cy : Nat → ClassId} {base tS : Nat} {S : St} {k0 : Nat} (t0 : cls k0 = 11) {S1 : St} {r1 : Int32} (h : X11_undo S k0 = some (S1, r1)) : Met l yX11_undo (wsY yX11_undo cX11_undo 2 (some .int)) rm_X11_undo (va_Pc [.ref (base + k0)] (World D cy base tS S)) (QcI D cy base tS S1 r1) 0 0 (AA base) := conI rfl rfl (by decide) (Nat.le_of_ble_eq_true rfl) (fun p e s m args below meth c ls C hr hk hl => sm_X11_undo C hr hk t0 hl) h
abbrev rm_X11_lay : Room := { frames := 2, cells := 0, slots := 0, locals := 43 }
set_option maxHeartbeats 4000000 in
set_option maxRecDepth 100000 in
theorem sm_X11_lay {p : Program} {l : Launch} {e : Env} {s : State} {m : MethodId} {args : Array Value} {below : List Frame} {meth : Method} {c : Code} {D : va_G} {cy : Nat → ClassId} {base tS : Nat} {S : St} {k0 : Nat} {v1 : Int32} {v2 : Int32} {ls : Array Slot} (C : Cx p rm_X11_lay s m args c RX11 cX11_lay 5 D cy base tS 0 0) (hr : meth.sig.returnType = (some .int)) (hk : meth.locks = false) (t0 : cls k0 = 11) (hl : lv_has ls 5 [(0, .ref (base + k0)), (1, .int v1), (2, .int v2)]) : Sim p l e rm_X11_lay s m args below meth c D cy base 0 0 (fun S1 r => MQ below (QcI D cy base tS S1 r) args s 0 0 (AA base)) (X11_lay S k0 v1 v2) S (F0 m 0 ls []) := by
  unfold X11_lay
  refine r_aload_n (pc := 0) C dX11_lay_0 rfl (lv_at hl 0 rfl) ?_
  refine r_iload_n (pc := 1) C dX11_lay_1 rfl (lv_at hl 1 rfl) ?_
  refine cv_X11_121 (pc := 2) C t0 hl.1 ⟨Nat.le_of_ble_eq_true rfl, Nat.le_of_ble_eq_true rfl⟩ (Nat.le_of_ble_eq_true rfl) dX11_lay_2 (fun S21 v22 => ?_)
  refine r_if_ne (pc := 5) C (tgt := 14) dX11_lay_5 (by decide) (fun _ => ?_) (fun _ => ?_)
  · refine r_aload_n (pc := 14) C dX11_lay_14 rfl (lv_at hl 0 rfl) ?_
    refine gf_X11_114 (pc := 15) C t0 dX11_lay_15 ?_
    refine r_if_ne (pc := 18) C (tgt := 28) dX11_lay_18 (by decide) (fun _ => ?_) (fun _ => ?_)
    · refine r_aload_n (pc := 28) C dX11_lay_28 rfl (lv_at hl 0 rfl) ?_
      refine gf_X11_16 (pc := 29) C t0 dX11_lay_29 ?_
      have t23 := ft_11_4 t0
      refine r_iload_n (pc := 32) C dX11_lay_32 rfl (lv_at hl 1 rfl) ?_
      refine r_lald (pc := 33) C t23 dX11_lay_33 ?_
      refine r_iload_n (pc := 34) C dX11_lay_34 rfl (lv_at hl 2 rfl) ?_
      refine r_i2l (pc := 35) C dX11_lay_35 ?_
      refine r_ladd (pc := 36) C dX11_lay_36 ?_
      refine r_topl (fun v24 => ?_)
      refine r_lstore_n (lv2 := [(3, .long v24), (0, .ref (base + k0)), (1, .int v1), (2, .int v2)]) (pc := 37) C dX11_lay_37 rfl hl (Nat.le_of_ble_eq_true rfl) rfl (fun ls hl => ?_)
      refine r_lload_n (pc := 38) C dX11_lay_38 rfl (lv_at hl 0 rfl) ?_
      refine r_lconst (pc := 39) C (0 : Int64) dX11_lay_39 (by decide) ?_
      refine r_lcmp_ge (pc := 40) C (tgt := 51) dX11_lay_40 dX11_lay_41 (by decide) (fun _ => ?_) (fun _ => ?_)
      · refine r_lload_n (pc := 51) C dX11_lay_51 rfl (lv_at hl 0 rfl) ?_
        refine r_ldc2 (pc := 52) C (1000000 : Int64) wd_64 dX11_lay_52 ?_
        refine r_lcmp_le (pc := 55) C (tgt := 66) dX11_lay_55 dX11_lay_56 (by decide) (fun _ => ?_) (fun _ => ?_)
        · refine r_aload_n (pc := 66) C dX11_lay_66 rfl (lv_at hl 1 rfl) ?_
          refine cv_X11_148 (pc := 67) C t0 hl.1 ⟨Nat.le_of_ble_eq_true rfl, Nat.le_of_ble_eq_true rfl⟩ (Nat.le_of_ble_eq_true rfl) dX11_lay_67 (fun S25 _ => ?_)
          refine r_aload_n (pc := 70) C dX11_lay_70 rfl (lv_at hl 1 rfl) ?_
          refine gf_X11_16 (pc := 71) C t0 dX11_lay_71 ?_
          have t26 := ft_11_4 t0
          refine r_iload_n (pc := 74) C dX11_lay_74 rfl (lv_at hl 2 rfl) ?_
          refine r_lload_n (pc := 75) C dX11_lay_75 rfl (lv_at hl 0 rfl) ?_
          refine r_last (pc := 76) C t26 dX11_lay_76 (fun S27 => ?_)
          refine r_lload_n (pc := 77) C dX11_lay_77 rfl (lv_at hl 0 rfl) ?_
          refine r_l2i (pc := 78) C dX11_lay_78 ?_
          exact r_iret (pc := 79) C hr hk dX11_lay_79
        · refine r_aload_n (pc := 59) C dX11_lay_59 rfl (lv_at hl 1 rfl) ?_
          refine r_bipush (pc := 60) C (-5 : Int32) dX11_lay_60 (by decide) ?_
          refine cv_X11_118 (pc := 62) C t0 hl.1 ⟨Nat.le_of_ble_eq_true rfl, Nat.le_of_ble_eq_true rfl⟩ (Nat.le_of_ble_eq_true rfl) dX11_lay_62 (fun S28 v29 => ?_)
          exact r_iret (pc := 65) C hr hk dX11_lay_65
      · refine r_aload_n (pc := 44) C dX11_lay_44 rfl (lv_at hl 1 rfl) ?_
        refine r_bipush (pc := 45) C (-13 : Int32) dX11_lay_45 (by decide) ?_
        refine cv_X11_118 (pc := 47) C t0 hl.1 ⟨Nat.le_of_ble_eq_true rfl, Nat.le_of_ble_eq_true rfl⟩ (Nat.le_of_ble_eq_true rfl) dX11_lay_47 (fun S30 v31 => ?_)
        exact r_iret (pc := 50) C hr hk dX11_lay_50
    · refine r_aload_n (pc := 21) C dX11_lay_21 rfl (lv_at hl 0 rfl) ?_
      refine r_bipush (pc := 22) C (-8 : Int32) dX11_lay_22 (by decide) ?_
      refine cv_X11_118 (pc := 24) C t0 hl.1 ⟨Nat.le_of_ble_eq_true rfl, Nat.le_of_ble_eq_true rfl⟩ (Nat.le_of_ble_eq_true rfl) dX11_lay_24 (fun S32 v33 => ?_)
      exact r_iret (pc := 27) C hr hk dX11_lay_27
  · refine r_aload_n (pc := 8) C dX11_lay_8 rfl (lv_at hl 0 rfl) ?_
    refine r_iconst (pc := 9) C (-1 : Int32) dX11_lay_9 (by decide) ?_
    refine cv_X11_118 (pc := 10) C t0 hl.1 ⟨Nat.le_of_ble_eq_true rfl, Nat.le_of_ble_eq_true rfl⟩ (Nat.le_of_ble_eq_true rfl) dX11_lay_10 (fun S34 v35 => ?_)
    exact r_iret (pc := 13) C hr hk dX11_lay_13

theorem ct_X11_lay (l : Launch) {D : va_G} {cy : Nat → ClassId} {base tS : Nat} {S : St} {k0 : Nat} {v1 : Int32} {v2 : Int32} (t0 : cls k0 = 11) {S1 : St} {r1 : Int32} (h : X11_lay S k0 v1 v2 = some (S1, r1)) : Met l yX11_lay (wsY yX11_lay cX11_lay 5 (some .int)) rm_X11_lay (va_Pc [.ref (base + k0), .int v1, .int v2] (World D cy base tS S)) (QcI D cy base tS S1 r1) 0 0 (AA base) := conI rfl rfl (by decide) (Nat.le_of_ble_eq_true rfl) (fun p e s m args below meth c ls C hr hk hl => sm_X11_lay C hr hk t0 hl) h
abbrev rm_X11_grains : Room := { frames := 2, cells := 0, slots := 0, locals := 43 }
set_option maxHeartbeats 4000000 in
set_option maxRecDepth 100000 in
theorem sm_X11_grains {p : Program} {l : Launch} {e : Env} {s : State} {m : MethodId} {args : Array Value} {below : List Frame} {meth : Method} {c : Code} {D : va_G} {cy : Nat → ClassId} {base tS : Nat} {S : St} {k0 : Nat} {v1 : Int32} {ls : Array Slot} (C : Cx p rm_X11_grains s m args c RX11 cX11_grains 2 D cy base tS 0 0) (hr : meth.sig.returnType = (some .long)) (hk : meth.locks = false) (t0 : cls k0 = 11) (hl : lv_has ls 2 [(0, .ref (base + k0)), (1, .int v1)]) : Sim p l e rm_X11_grains s m args below meth c D cy base 0 0 (fun S1 r => MQ below (QcJ D cy base tS S1 r) args s 0 0 (AA base)) (X11_grains S k0 v1) S (F0 m 0 ls []) := by
  unfold X11_grains
  refine r_aload_n (pc := 0) C dX11_grains_0 rfl (lv_at hl 0 rfl) ?_
  refine r_iload_n (pc := 1) C dX11_grains_1 rfl (lv_at hl 1 rfl) ?_
  refine cv_X11_121 (pc := 2) C t0 hl.1 ⟨Nat.le_of_ble_eq_true rfl, Nat.le_of_ble_eq_true rfl⟩ (Nat.le_of_ble_eq_true rfl) dX11_grains_2 (fun S21 v22 => ?_)
  refine r_join (fun (j : St → Option (St × Int64)) => ∀ (S24 : St)  (ls : Array Slot), lv_has ls 2 [(0, .ref (base + k0)), (1, .int v1)] → Sim p l e rm_X11_grains s m args below meth c D cy base 0 0 (fun S1 r => MQ below (QcJ D cy base tS S1 r) args s 0 0 (AA base)) (j S24) S24 (F0 m 25 ls [])) ?_ (fun j23 hj23 => ?_)
  · intro S24 ls hl
    refine r_aload_n (pc := 25) C dX11_grains_25 rfl (lv_at hl 0 rfl) ?_
    refine gf_X11_16 (pc := 26) C t0 dX11_grains_26 ?_
    have t25 := ft_11_4 t0
    refine r_iload_n (pc := 29) C dX11_grains_29 rfl (lv_at hl 1 rfl) ?_
    refine r_join (fun (j : St → Int32 → Option (St × Int64)) => ∀ (S27 : St) (v28 : Int32) (ls : Array Slot), lv_has ls 2 [] → Sim p l e rm_X11_grains s m args below meth c D cy base 0 0 (fun S1 r => MQ below (QcJ D cy base tS S1 r) args s 0 0 (AA base)) (j S27 v28) S27 (F0 m 41 ls [.int v28, .ref (base + (rf k0 4))])) ?_ (fun j26 hj26 => ?_)
    · intro S27 v28 ls hl
      refine r_lald (pc := 41) C t25 dX11_grains_41 ?_
      exact r_lret (pc := 42) C hr hk dX11_grains_42
    refine r_if_ge (pc := 30) C (tgt := 40) dX11_grains_30 (by decide) (fun _ => ?_) (fun _ => ?_)
    · refine r_iload_n (pc := 40) C dX11_grains_40 rfl (lv_at hl 1 rfl) ?_
      exact hj26 S24 v1 _ (lv_sub hl [] rfl)
    · refine r_bipush (pc := 33) C (11 : Int32) dX11_grains_33 (by decide) ?_
      refine r_iload_n (pc := 35) C dX11_grains_35 rfl (lv_at hl 1 rfl) ?_
      refine r_isub (pc := 36) C dX11_grains_36 ?_
      refine r_goto (pc := 37) C (tgt := 41) dX11_grains_37 (by decide) ?_
      exact hj26 S24 ((11 : Int32) - v1) _ (lv_sub hl [] rfl)
  refine r_if_ne (pc := 5) C (tgt := 25) dX11_grains_5 (by decide) (fun _ => ?_) (fun _ => ?_)
  · exact hj23 S21  _ (lv_sub hl [0, 1] rfl)
  · refine r_iload_n (pc := 8) C dX11_grains_8 rfl (lv_at hl 1 rfl) ?_
    refine r_bipush (pc := 9) C (-3 : Int32) dX11_grains_9 (by decide) ?_
    refine r_iconst (pc := 11) C (-1 : Int32) dX11_grains_11 (by decide) ?_
    refine cv_X11_98 (pc := 12) C  hl.1 ⟨Nat.le_of_ble_eq_true rfl, Nat.le_of_ble_eq_true rfl⟩ (Nat.le_of_ble_eq_true rfl) dX11_grains_12 (fun S29 v30 => ?_)
    refine r_if_ne (pc := 15) C (tgt := 25) dX11_grains_15 (by decide) (fun _ => ?_) (fun _ => ?_)
    · exact hj23 S29  _ (lv_sub hl [0, 1] rfl)
    · refine r_aload_n (pc := 18) C dX11_grains_18 rfl (lv_at hl 0 rfl) ?_
      refine r_iconst (pc := 19) C (-1 : Int32) dX11_grains_19 (by decide) ?_
      refine cv_X11_118 (pc := 20) C t0 hl.1 ⟨Nat.le_of_ble_eq_true rfl, Nat.le_of_ble_eq_true rfl⟩ (Nat.le_of_ble_eq_true rfl) dX11_grains_20 (fun S31 v32 => ?_)
      refine r_i2l (pc := 23) C dX11_grains_23 ?_
      exact r_lret (pc := 24) C hr hk dX11_grains_24

theorem ct_X11_grains (l : Launch) {D : va_G} {cy : Nat → ClassId} {base tS : Nat} {S : St} {k0 : Nat} {v1 : Int32} (t0 : cls k0 = 11) {S1 : St} {r1 : Int64} (h : X11_grains S k0 v1 = some (S1, r1)) : Met l yX11_grains (wsY yX11_grains cX11_grains 2 (some .long)) rm_X11_grains (va_Pc [.ref (base + k0), .int v1] (World D cy base tS S)) (QcJ D cy base tS S1 r1) 0 0 (AA base) := conJ rfl rfl (by decide) (Nat.le_of_ble_eq_true rfl) (fun p e s m args below meth c ls C hr hk hl => sm_X11_grains C hr hk t0 hl) h
abbrev rm_X11_due : Room := { frames := 3, cells := 0, slots := 0, locals := 67 }
set_option maxHeartbeats 4000000 in
set_option maxRecDepth 100000 in
theorem sm_X11_due {p : Program} {l : Launch} {e : Env} {s : State} {m : MethodId} {args : Array Value} {below : List Frame} {meth : Method} {c : Code} {D : va_G} {cy : Nat → ClassId} {base tS : Nat} {S : St} {k0 : Nat} {ls : Array Slot} (C : Cx p rm_X11_due s m args c RX11 cX11_due 1 D cy base tS 0 0) (hr : meth.sig.returnType = (some .int)) (hk : meth.locks = false) (t0 : cls k0 = 11) (hl : lv_has ls 1 [(0, .ref (base + k0))]) : Sim p l e rm_X11_due s m args below meth c D cy base 0 0 (fun S1 r => MQ below (QcI D cy base tS S1 r) args s 0 0 (AA base)) (X11_due S k0) S (F0 m 0 ls []) := by
  unfold X11_due
  refine r_aload_n (pc := 0) C dX11_due_0 rfl (lv_at hl 0 rfl) ?_
  refine cv_X11_151 (pc := 1) C t0 hl.1 ⟨Nat.le_of_ble_eq_true rfl, Nat.le_of_ble_eq_true rfl⟩ (Nat.le_of_ble_eq_true rfl) dX11_due_1 (fun S21 v22 => ?_)
  exact r_iret (pc := 4) C hr hk dX11_due_4

theorem ct_X11_due (l : Launch) {D : va_G} {cy : Nat → ClassId} {base tS : Nat} {S : St} {k0 : Nat} (t0 : cls k0 = 11) {S1 : St} {r1 : Int32} (h : X11_due S k0 = some (S1, r1)) : Met l yX11_due (wsY yX11_due cX11_due 1 (some .int)) rm_X11_due (va_Pc [.ref (base + k0)] (World D cy base tS S)) (QcI D cy base tS S1 r1) 0 0 (AA base) := conI rfl rfl (by decide) (Nat.le_of_ble_eq_true rfl) (fun p e s m args below meth c ls C hr hk hl => sm_X11_due C hr hk t0 hl) h
abbrev rm_X11_times : Room := { frames := 2, cells := 0, slots := 0, locals := 45 }
set_option maxHeartbeats 4000000 in
set_option maxRecDepth 100000 in
theorem sm_X11_times {p : Program} {l : Launch} {e : Env} {s : State} {m : MethodId} {args : Array Value} {below : List Frame} {meth : Method} {c : Code} {D : va_G} {cy : Nat → ClassId} {base tS : Nat} {S : St} {k0 : Nat} {k1 : Nat} {v2 : Int32} {ls : Array Slot} (C : Cx p rm_X11_times s m args c RX11 cX11_times 3 D cy base tS 0 0) (hr : meth.sig.returnType = (some .long)) (hk : meth.locks = false) (t0 : cls k0 = 11) (t1 : cls k1 = 13 ∧ len k1 = 15) (hl : lv_has ls 3 [(0, .ref (base + k0)), (1, .ref (base + k1)), (2, .int v2)]) : Sim p l e rm_X11_times s m args below meth c D cy base 0 0 (fun S1 r => MQ below (QcJ D cy base tS S1 r) args s 0 0 (AA base)) (X11_times S k0 k1 v2) S (F0 m 0 ls []) := by
  unfold X11_times
  refine r_aload_n (pc := 0) C dX11_times_0 rfl (lv_at hl 0 rfl) ?_
  refine r_iload_n (pc := 1) C dX11_times_1 rfl (lv_at hl 2 rfl) ?_
  refine cv_X11_155 (pc := 2) C t0 hl.1 ⟨Nat.le_of_ble_eq_true rfl, Nat.le_of_ble_eq_true rfl⟩ (Nat.le_of_ble_eq_true rfl) dX11_times_2 (fun S21 v22 => ?_)
  refine r_if_eq (pc := 5) C (tgt := 21) dX11_times_5 (by decide) (fun _ => ?_) (fun _ => ?_)
  · refine r_lconst (pc := 21) C (1 : Int64) dX11_times_21 (by decide) ?_
    exact r_lret (pc := 22) C hr hk dX11_times_22
  · refine r_aload_n (pc := 8) C dX11_times_8 rfl (lv_at hl 1 rfl) ?_
    refine r_iload_n (pc := 9) C dX11_times_9 rfl (lv_at hl 2 rfl) ?_
    refine r_lald (pc := 10) C t1 dX11_times_10 ?_
    refine r_aload_n (pc := 11) C dX11_times_11 rfl (lv_at hl 0 rfl) ?_
    refine r_iload_n (pc := 12) C dX11_times_12 rfl (lv_at hl 2 rfl) ?_
    refine cv_X11_106 (pc := 13) C t0 hl.1 ⟨Nat.le_of_ble_eq_true rfl, Nat.le_of_ble_eq_true rfl⟩ (Nat.le_of_ble_eq_true rfl) dX11_times_13 (fun S23 v24 => ?_)
    refine r_i2l (pc := 16) C dX11_times_16 ?_
    refine r_ldiv (pc := 17) C dX11_times_17 (fun _ => ?_)
    refine r_goto (pc := 18) C (tgt := 22) dX11_times_18 (by decide) ?_
    exact r_lret (pc := 22) C hr hk dX11_times_22

theorem ct_X11_times (l : Launch) {D : va_G} {cy : Nat → ClassId} {base tS : Nat} {S : St} {k0 : Nat} {k1 : Nat} {v2 : Int32} (t0 : cls k0 = 11) (t1 : cls k1 = 13 ∧ len k1 = 15) {S1 : St} {r1 : Int64} (h : X11_times S k0 k1 v2 = some (S1, r1)) : Met l yX11_times (wsY yX11_times cX11_times 3 (some .long)) rm_X11_times (va_Pc [.ref (base + k0), .ref (base + k1), .int v2] (World D cy base tS S)) (QcJ D cy base tS S1 r1) 0 0 (AA base) := conJ rfl rfl (by decide) (Nat.le_of_ble_eq_true rfl) (fun p e s m args below meth c ls C hr hk hl => sm_X11_times C hr hk t0 t1 hl) h
theorem cv_X11_158 {p : Program} {l : Launch} {e : Env} {R : Room} {s : State} {m : MethodId} {args : Array Value} {below : List Frame} {meth : Method} {c : Code} {D : va_G} {cy : Nat → ClassId} {base tS nc ns : Nat} {cc : ByteArray} {nL pc : Nat} {ls : Array Slot} {rest : List Value} {S : St} {ρ : Type} {Q : St → ρ → State → Prop} (C : Cx p R s m args c RX11 cc nL D cy base tS nc ns) {k0 : Nat} {k1 : Nat} {v2 : Int32} (t0 : cls k0 = 11) (t1 : cls k1 = 13 ∧ len k1 = 15) (hl : ls.size = nL) (hR : rm_X11_times.frames + 1 ≤ R.frames ∧ 8 + (3 + 11) + rm_X11_times.locals ≤ R.locals) {b : St → Int64 → Option (St × ρ)} (hroom : (rest.map fun v => v.category).sum ≤ 8) (hd : decode cc pc = .ok (.invokevirtual 158, 3)) (kk : ∀ (S1 : St) (r : Int64), Sim p l e R s m args below meth c D cy base nc ns Q (b S1 r) S1 (F0 m (pc + 3) ls (.long r :: rest))) : Sim p l e R s m args below meth c D cy base nc ns Q (bd (X11_times S k0 k1 v2) b) S (F0 m pc ls (.int v2 :: .ref (base + k1) :: .ref (base + k0) :: rest)) := r_callVJ (n := 2) (As := [.ref (base + k1), .int v2]) C hl (rd_11 t0) (cls_lt t0 (by decide)) rfl (fun S1 r1 h => ct_X11_times l t0 t1 h) wd_530 wd_531 wd_532 wd_497 wd_533 rfl rfl (by decide +kernel) hR rfl rfl hroom hd kk
abbrev rm_X11_isTooMuch : Room := { frames := 3, cells := 0, slots := 0, locals := 67 }
set_option maxHeartbeats 4000000 in
set_option maxRecDepth 100000 in
theorem lp_X11_isTooMuch_10 {p : Program} {l : Launch} {e : Env} {s : State} {m : MethodId} {args : Array Value} {below : List Frame} {meth : Method} {c : Code} {D : va_G} {cy : Nat → ClassId} {base tS : Nat} {ls : Array Slot} (C : Cx p rm_X11_isTooMuch s m args c RX11 cX11_isTooMuch 6 D cy base tS 0 0) (hr : meth.sig.returnType = (some .boolean)) (hk : meth.locks = false) {k0 : Nat} {k1 : Nat} {v2 : Int32} {v3 : Int64} (t0 : cls k0 = 11) (t1 : cls k1 = 13 ∧ len k1 = 15) {K : St → Int32 → Option (St × Int32)} (hK : ∀ (S : St) (v5 : Int32) (ls : Array Slot), lv_has ls 6 [(0, .ref (base + k0)), (1, .ref (base + k1)), (2, .int v2), (3, .long v3), (5, .int v5)] → Sim p l e rm_X11_isTooMuch s m args below meth c D cy base 0 0 (fun S1 r => MQ below (QcI D cy base tS S1 r) args s 0 0 (AA base)) (K S v5) S (F0 m 55 ls [])) : ∀ (n : Nat) (S : St) (v5 : Int32) (ls : Array Slot), lv_has ls 6 [(0, .ref (base + k0)), (1, .ref (base + k1)), (2, .int v2), (3, .long v3), (5, .int v5)] → Sim p l e rm_X11_isTooMuch s m args below meth c D cy base 0 0 (fun S1 r => MQ below (QcI D cy base tS S1 r) args s 0 0 (AA base)) (X11_isTooMuch_10 k0 k1 v2 v3 K n S v5) S (F0 m 10 ls []) := by
  intro n
  induction n with
  | zero => intro S v5 ls hl; exact Sim.none
  | succ n ih =>
    intro S v5 ls hl
    rw [X11_isTooMuch_10]
    refine r_iload (pc := 10) C dX11_isTooMuch_10 (lv_at hl 4 rfl) ?_
    refine r_aload_n (pc := 12) C dX11_isTooMuch_12 rfl (lv_at hl 0 rfl) ?_
    refine gf_X11_95 (pc := 13) C t0 dX11_isTooMuch_13 ?_
    refine r_icmp_ge (pc := 16) C (tgt := 55) dX11_isTooMuch_16 (by decide) (fun _ => ?_) (fun _ => ?_)
    · exact hK S v5 _ (lv_sub hl [0, 1, 2, 3, 4] rfl)
    · refine r_aload_n (pc := 19) C dX11_isTooMuch_19 rfl (lv_at hl 1 rfl) ?_
      refine r_iload (pc := 20) C dX11_isTooMuch_20 (lv_at hl 4 rfl) ?_
      refine r_lald (pc := 22) C t1 dX11_isTooMuch_22 ?_
      refine r_lload_n (pc := 23) C dX11_isTooMuch_23 rfl (lv_at hl 3 rfl) ?_
      refine r_aload_n (pc := 24) C dX11_isTooMuch_24 rfl (lv_at hl 0 rfl) ?_
      refine r_iload_n (pc := 25) C dX11_isTooMuch_25 rfl (lv_at hl 2 rfl) ?_
      refine r_iload (pc := 26) C dX11_isTooMuch_26 (lv_at hl 4 rfl) ?_
      refine cv_X11_102 (pc := 28) C t0 hl.1 ⟨Nat.le_of_ble_eq_true rfl, Nat.le_of_ble_eq_true rfl⟩ (Nat.le_of_ble_eq_true rfl) dX11_isTooMuch_28 (fun S23 v24 => ?_)
      refine r_i2l (pc := 31) C dX11_isTooMuch_31 ?_
      refine r_lmul (pc := 32) C dX11_isTooMuch_32 ?_
      refine r_ladd (pc := 33) C dX11_isTooMuch_33 ?_
      refine r_ldc2 (pc := 34) C (1000000 : Int64) wd_64 dX11_isTooMuch_34 ?_
      refine r_join (fun (j : St → Option (St × Int32)) => ∀ (S26 : St)  (ls : Array Slot), lv_has ls 6 [(0, .ref (base + k0)), (1, .ref (base + k1)), (2, .int v2), (3, .long v3), (5, .int v5)] → Sim p l e rm_X11_isTooMuch s m args below meth c D cy base 0 0 (fun S1 r => MQ below (QcI D cy base tS S1 r) args s 0 0 (AA base)) (j S26) S26 (F0 m 49 ls [])) ?_ (fun j25 hj25 => ?_)
      · intro S26 ls hl
        refine r_iinc (pc := 49) C (k := 4) (1 : Int32) (fun v27 => [(5, .int v27), (0, .ref (base + k0)), (1, .ref (base + k1)), (2, .int v2), (3, .long v3)]) dX11_isTooMuch_49 hl rfl (by decide) (Nat.le_of_ble_eq_true rfl) (fun _ => rfl) (fun v27 ls hl => ?_)
        refine r_goto (pc := 52) C (tgt := 10) dX11_isTooMuch_52 (by decide) ?_
        exact ih S26 v27 _ (lv_sub hl [1, 2, 3, 4, 0] rfl)
      refine r_lcmp_le (pc := 37) C (tgt := 49) dX11_isTooMuch_37 dX11_isTooMuch_38 (by decide) (fun _ => ?_) (fun _ => ?_)
      · exact hj25 S23  _ (lv_sub hl [0, 1, 2, 3, 4] rfl)
      · refine r_iload (pc := 41) C dX11_isTooMuch_41 (lv_at hl 4 rfl) ?_
        refine r_iload_n (pc := 43) C dX11_isTooMuch_43 rfl (lv_at hl 2 rfl) ?_
        refine r_icmp_eq (pc := 44) C (tgt := 49) dX11_isTooMuch_44 (by decide) (fun _ => ?_) (fun _ => ?_)
        · exact hj25 S23  _ (lv_sub hl [0, 1, 2, 3, 4] rfl)
        · refine r_iconst (pc := 47) C (1 : Int32) dX11_isTooMuch_47 (by decide) ?_
          exact r_zret (pc := 48) C rfl hr hk dX11_isTooMuch_48

set_option maxHeartbeats 4000000 in
set_option maxRecDepth 100000 in
theorem sm_X11_isTooMuch {p : Program} {l : Launch} {e : Env} {s : State} {m : MethodId} {args : Array Value} {below : List Frame} {meth : Method} {c : Code} {D : va_G} {cy : Nat → ClassId} {base tS : Nat} {S : St} {k0 : Nat} {k1 : Nat} {v2 : Int32} {ls : Array Slot} (C : Cx p rm_X11_isTooMuch s m args c RX11 cX11_isTooMuch 6 D cy base tS 0 0) (hr : meth.sig.returnType = (some .boolean)) (hk : meth.locks = false) (t0 : cls k0 = 11) (t1 : cls k1 = 13 ∧ len k1 = 15) (hl : lv_has ls 6 [(0, .ref (base + k0)), (1, .ref (base + k1)), (2, .int v2)]) : Sim p l e rm_X11_isTooMuch s m args below meth c D cy base 0 0 (fun S1 r => MQ below (QcI D cy base tS S1 r) args s 0 0 (AA base)) (X11_isTooMuch S k0 k1 v2) S (F0 m 0 ls []) := by
  unfold X11_isTooMuch
  refine r_aload_n (pc := 0) C dX11_isTooMuch_0 rfl (lv_at hl 0 rfl) ?_
  refine r_aload_n (pc := 1) C dX11_isTooMuch_1 rfl (lv_at hl 1 rfl) ?_
  refine r_iload_n (pc := 2) C dX11_isTooMuch_2 rfl (lv_at hl 2 rfl) ?_
  refine cv_X11_158 (pc := 3) C t0 t1 hl.1 ⟨Nat.le_of_ble_eq_true rfl, Nat.le_of_ble_eq_true rfl⟩ (Nat.le_of_ble_eq_true rfl) dX11_isTooMuch_3 (fun S21 v22 => ?_)
  refine r_lstore_n (lv2 := [(3, .long v22), (0, .ref (base + k0)), (1, .ref (base + k1)), (2, .int v2)]) (pc := 6) C dX11_isTooMuch_6 rfl hl (Nat.le_of_ble_eq_true rfl) rfl (fun ls hl => ?_)
  refine r_iconst (pc := 7) C (0 : Int32) dX11_isTooMuch_7 (by decide) ?_
  refine r_istore (lv2 := [(5, .int (0 : Int32)), (3, .long v22), (0, .ref (base + k0)), (1, .ref (base + k1)), (2, .int v2)]) (pc := 8) C dX11_isTooMuch_8 hl (Nat.le_of_ble_eq_true rfl) rfl (fun ls hl => ?_)
  refine lp_X11_isTooMuch_10 (ls := ls) C hr hk t0 t1 (fun S28 v29 ls hl => ?_) FU S21 (0 : Int32) _ (lv_sub hl [2, 3, 4, 1, 0] rfl)
  refine r_iconst (pc := 55) C (0 : Int32) dX11_isTooMuch_55 (by decide) ?_
  exact r_zret (pc := 56) C rfl hr hk dX11_isTooMuch_56

theorem ct_X11_isTooMuch (l : Launch) {D : va_G} {cy : Nat → ClassId} {base tS : Nat} {S : St} {k0 : Nat} {k1 : Nat} {v2 : Int32} (t0 : cls k0 = 11) (t1 : cls k1 = 13 ∧ len k1 = 15) {S1 : St} {r1 : Int32} (h : X11_isTooMuch S k0 k1 v2 = some (S1, r1)) : Met l yX11_isTooMuch (wsY yX11_isTooMuch cX11_isTooMuch 6 (some .boolean)) rm_X11_isTooMuch (va_Pc [.ref (base + k0), .ref (base + k1), .int v2] (World D cy base tS S)) (QcI D cy base tS S1 r1) 0 0 (AA base) := conI rfl rfl (by decide) (Nat.le_of_ble_eq_true rfl) (fun p e s m args below meth c ls C hr hk hl => sm_X11_isTooMuch C hr hk t0 t1 hl) h
theorem cv_X11_162 {p : Program} {l : Launch} {e : Env} {R : Room} {s : State} {m : MethodId} {args : Array Value} {below : List Frame} {meth : Method} {c : Code} {D : va_G} {cy : Nat → ClassId} {base tS nc ns : Nat} {cc : ByteArray} {nL pc : Nat} {ls : Array Slot} {rest : List Value} {S : St} {ρ : Type} {Q : St → ρ → State → Prop} (C : Cx p R s m args c RX11 cc nL D cy base tS nc ns) {k0 : Nat} {k1 : Nat} {v2 : Int32} (t0 : cls k0 = 11) (t1 : cls k1 = 13 ∧ len k1 = 15) (hl : ls.size = nL) (hR : rm_X11_isTooMuch.frames + 1 ≤ R.frames ∧ 8 + (6 + 11) + rm_X11_isTooMuch.locals ≤ R.locals) {b : St → Int32 → Option (St × ρ)} (hroom : (rest.map fun v => v.category).sum ≤ 8) (hd : decode cc pc = .ok (.invokevirtual 162, 3)) (kk : ∀ (S1 : St) (r : Int32), Sim p l e R s m args below meth c D cy base nc ns Q (b S1 r) S1 (F0 m (pc + 3) ls (.int r :: rest))) : Sim p l e R s m args below meth c D cy base nc ns Q (bd (X11_isTooMuch S k0 k1 v2) b) S (F0 m pc ls (.int v2 :: .ref (base + k1) :: .ref (base + k0) :: rest)) := r_callVI (n := 2) (As := [.ref (base + k1), .int v2]) C hl (rd_11 t0) (cls_lt t0 (by decide)) rfl (fun S1 r1 h => ct_X11_isTooMuch l t0 t1 h) wd_534 wd_535 wd_536 wd_497 wd_537 rfl rfl (by decide +kernel) hR rfl rfl hroom hd kk
abbrev rm_X11_slides : Room := { frames := 3, cells := 0, slots := 0, locals := 67 }
set_option maxHeartbeats 4000000 in
set_option maxRecDepth 100000 in
theorem lp_X11_slides_24 {p : Program} {l : Launch} {e : Env} {s : State} {m : MethodId} {args : Array Value} {below : List Frame} {meth : Method} {c : Code} {D : va_G} {cy : Nat → ClassId} {base tS : Nat} {ls : Array Slot} (C : Cx p rm_X11_slides s m args c RX11 cX11_slides 6 D cy base tS 0 0) (hr : meth.sig.returnType = (some .long)) (hk : meth.locks = false) {k0 : Nat} {k1 : Nat} {v2 : Int32} {v3 : Int64} (t0 : cls k0 = 11) (t1 : cls k1 = 13 ∧ len k1 = 15) {K : St → Int32 → Option (St × Int64)} (hK : ∀ (S : St) (v5 : Int32) (ls : Array Slot), lv_has ls 6 [(0, .ref (base + k0)), (1, .ref (base + k1)), (2, .int v2), (3, .long v3), (5, .int v5)] → Sim p l e rm_X11_slides s m args below meth c D cy base 0 0 (fun S1 r => MQ below (QcJ D cy base tS S1 r) args s 0 0 (AA base)) (K S v5) S (F0 m 54 ls [])) : ∀ (n : Nat) (S : St) (v5 : Int32) (ls : Array Slot), lv_has ls 6 [(0, .ref (base + k0)), (1, .ref (base + k1)), (2, .int v2), (3, .long v3), (5, .int v5)] → Sim p l e rm_X11_slides s m args below meth c D cy base 0 0 (fun S1 r => MQ below (QcJ D cy base tS S1 r) args s 0 0 (AA base)) (X11_slides_24 k0 k1 v2 v3 K n S v5) S (F0 m 24 ls []) := by
  intro n
  induction n with
  | zero => intro S v5 ls hl; exact Sim.none
  | succ n ih =>
    intro S v5 ls hl
    rw [X11_slides_24]
    refine r_iload (pc := 24) C dX11_slides_24 (lv_at hl 4 rfl) ?_
    refine r_bipush (pc := 26) C (15 : Int32) dX11_slides_26 (by decide) ?_
    refine r_icmp_ge (pc := 28) C (tgt := 54) dX11_slides_28 (by decide) (fun _ => ?_) (fun _ => ?_)
    · exact hK S v5 _ (lv_sub hl [0, 1, 2, 3, 4] rfl)
    · refine r_aload_n (pc := 31) C dX11_slides_31 rfl (lv_at hl 1 rfl) ?_
      refine r_iload (pc := 32) C dX11_slides_32 (lv_at hl 4 rfl) ?_
      refine r_dup2_11 (pc := 34) C dX11_slides_34 rfl rfl ?_
      refine r_lald (pc := 35) C t1 dX11_slides_35 ?_
      refine r_lload_n (pc := 36) C dX11_slides_36 rfl (lv_at hl 3 rfl) ?_
      refine r_aload_n (pc := 37) C dX11_slides_37 rfl (lv_at hl 0 rfl) ?_
      refine r_iload_n (pc := 38) C dX11_slides_38 rfl (lv_at hl 2 rfl) ?_
      refine r_iload (pc := 39) C dX11_slides_39 (lv_at hl 4 rfl) ?_
      refine cv_X11_102 (pc := 41) C t0 hl.1 ⟨Nat.le_of_ble_eq_true rfl, Nat.le_of_ble_eq_true rfl⟩ (Nat.le_of_ble_eq_true rfl) dX11_slides_41 (fun S26 v27 => ?_)
      refine r_i2l (pc := 44) C dX11_slides_44 ?_
      refine r_lmul (pc := 45) C dX11_slides_45 ?_
      refine r_ladd (pc := 46) C dX11_slides_46 ?_
      refine r_last (pc := 47) C t1 dX11_slides_47 (fun S28 => ?_)
      refine r_iinc (pc := 48) C (k := 4) (1 : Int32) (fun v29 => [(5, .int v29), (0, .ref (base + k0)), (1, .ref (base + k1)), (2, .int v2), (3, .long v3)]) dX11_slides_48 hl rfl (by decide) (Nat.le_of_ble_eq_true rfl) (fun _ => rfl) (fun v29 ls hl => ?_)
      refine r_goto (pc := 51) C (tgt := 24) dX11_slides_51 (by decide) ?_
      exact ih S28 v29 _ (lv_sub hl [1, 2, 3, 4, 0] rfl)

set_option maxHeartbeats 4000000 in
set_option maxRecDepth 100000 in
theorem sm_X11_slides {p : Program} {l : Launch} {e : Env} {s : State} {m : MethodId} {args : Array Value} {below : List Frame} {meth : Method} {c : Code} {D : va_G} {cy : Nat → ClassId} {base tS : Nat} {S : St} {k0 : Nat} {k1 : Nat} {v2 : Int32} {ls : Array Slot} (C : Cx p rm_X11_slides s m args c RX11 cX11_slides 6 D cy base tS 0 0) (hr : meth.sig.returnType = (some .long)) (hk : meth.locks = false) (t0 : cls k0 = 11) (t1 : cls k1 = 13 ∧ len k1 = 15) (hl : lv_has ls 6 [(0, .ref (base + k0)), (1, .ref (base + k1)), (2, .int v2)]) : Sim p l e rm_X11_slides s m args below meth c D cy base 0 0 (fun S1 r => MQ below (QcJ D cy base tS S1 r) args s 0 0 (AA base)) (X11_slides S k0 k1 v2) S (F0 m 0 ls []) := by
  unfold X11_slides
  refine r_aload_n (pc := 0) C dX11_slides_0 rfl (lv_at hl 0 rfl) ?_
  refine r_aload_n (pc := 1) C dX11_slides_1 rfl (lv_at hl 1 rfl) ?_
  refine r_iload_n (pc := 2) C dX11_slides_2 rfl (lv_at hl 2 rfl) ?_
  refine cv_X11_158 (pc := 3) C t0 t1 hl.1 ⟨Nat.le_of_ble_eq_true rfl, Nat.le_of_ble_eq_true rfl⟩ (Nat.le_of_ble_eq_true rfl) dX11_slides_3 (fun S21 v22 => ?_)
  refine r_lstore_n (lv2 := [(3, .long v22), (0, .ref (base + k0)), (1, .ref (base + k1)), (2, .int v2)]) (pc := 6) C dX11_slides_6 rfl hl (Nat.le_of_ble_eq_true rfl) rfl (fun ls hl => ?_)
  refine r_aload_n (pc := 7) C dX11_slides_7 rfl (lv_at hl 2 rfl) ?_
  refine r_iload_n (pc := 8) C dX11_slides_8 rfl (lv_at hl 3 rfl) ?_
  refine r_dup2_11 (pc := 9) C dX11_slides_9 rfl rfl ?_
  refine r_lald (pc := 10) C t1 dX11_slides_10 ?_
  refine r_lload_n (pc := 11) C dX11_slides_11 rfl (lv_at hl 0 rfl) ?_
  refine r_aload_n (pc := 12) C dX11_slides_12 rfl (lv_at hl 1 rfl) ?_
  refine r_iload_n (pc := 13) C dX11_slides_13 rfl (lv_at hl 3 rfl) ?_
  refine cv_X11_106 (pc := 14) C t0 hl.1 ⟨Nat.le_of_ble_eq_true rfl, Nat.le_of_ble_eq_true rfl⟩ (Nat.le_of_ble_eq_true rfl) dX11_slides_14 (fun S23 v24 => ?_)
  refine r_i2l (pc := 17) C dX11_slides_17 ?_
  refine r_lmul (pc := 18) C dX11_slides_18 ?_
  refine r_lsub (pc := 19) C dX11_slides_19 ?_
  refine r_last (pc := 20) C t1 dX11_slides_20 (fun S25 => ?_)
  refine r_iconst (pc := 21) C (0 : Int32) dX11_slides_21 (by decide) ?_
  refine r_istore (lv2 := [(5, .int (0 : Int32)), (3, .long v22), (0, .ref (base + k0)), (1, .ref (base + k1)), (2, .int v2)]) (pc := 22) C dX11_slides_22 hl (Nat.le_of_ble_eq_true rfl) rfl (fun ls hl => ?_)
  refine lp_X11_slides_24 (ls := ls) C hr hk t0 t1 (fun S30 v31 ls hl => ?_) FU S25 (0 : Int32) _ (lv_sub hl [2, 3, 4, 1, 0] rfl)
  refine r_lload_n (pc := 54) C dX11_slides_54 rfl (lv_at hl 3 rfl) ?_
  exact r_lret (pc := 55) C hr hk dX11_slides_55

theorem ct_X11_slides (l : Launch) {D : va_G} {cy : Nat → ClassId} {base tS : Nat} {S : St} {k0 : Nat} {k1 : Nat} {v2 : Int32} (t0 : cls k0 = 11) (t1 : cls k1 = 13 ∧ len k1 = 15) {S1 : St} {r1 : Int64} (h : X11_slides S k0 k1 v2 = some (S1, r1)) : Met l yX11_slides (wsY yX11_slides cX11_slides 6 (some .long)) rm_X11_slides (va_Pc [.ref (base + k0), .ref (base + k1), .int v2] (World D cy base tS S)) (QcJ D cy base tS S1 r1) 0 0 (AA base) := conJ rfl rfl (by decide) (Nat.le_of_ble_eq_true rfl) (fun p e s m args below meth c ls C hr hk hl => sm_X11_slides C hr hk t0 t1 hl) h
theorem cv_X11_166 {p : Program} {l : Launch} {e : Env} {R : Room} {s : State} {m : MethodId} {args : Array Value} {below : List Frame} {meth : Method} {c : Code} {D : va_G} {cy : Nat → ClassId} {base tS nc ns : Nat} {cc : ByteArray} {nL pc : Nat} {ls : Array Slot} {rest : List Value} {S : St} {ρ : Type} {Q : St → ρ → State → Prop} (C : Cx p R s m args c RX11 cc nL D cy base tS nc ns) {k0 : Nat} {k1 : Nat} {v2 : Int32} (t0 : cls k0 = 11) (t1 : cls k1 = 13 ∧ len k1 = 15) (hl : ls.size = nL) (hR : rm_X11_slides.frames + 1 ≤ R.frames ∧ 8 + (6 + 11) + rm_X11_slides.locals ≤ R.locals) {b : St → Int64 → Option (St × ρ)} (hroom : (rest.map fun v => v.category).sum ≤ 8) (hd : decode cc pc = .ok (.invokevirtual 166, 3)) (kk : ∀ (S1 : St) (r : Int64), Sim p l e R s m args below meth c D cy base nc ns Q (b S1 r) S1 (F0 m (pc + 3) ls (.long r :: rest))) : Sim p l e R s m args below meth c D cy base nc ns Q (bd (X11_slides S k0 k1 v2) b) S (F0 m pc ls (.int v2 :: .ref (base + k1) :: .ref (base + k0) :: rest)) := r_callVJ (n := 2) (As := [.ref (base + k1), .int v2]) C hl (rd_11 t0) (cls_lt t0 (by decide)) rfl (fun S1 r1 h => ct_X11_slides l t0 t1 h) wd_538 wd_539 wd_540 wd_497 wd_541 rfl rfl (by decide +kernel) hR rfl rfl hroom hd kk
abbrev rm_X11_slide : Room := { frames := 4, cells := 0, slots := 0, locals := 92 }
set_option maxHeartbeats 4000000 in
set_option maxRecDepth 100000 in
theorem sm_X11_slide {p : Program} {l : Launch} {e : Env} {s : State} {m : MethodId} {args : Array Value} {below : List Frame} {meth : Method} {c : Code} {D : va_G} {cy : Nat → ClassId} {base tS : Nat} {S : St} {k0 : Nat} {v1 : Int32} {ls : Array Slot} (C : Cx p rm_X11_slide s m args c RX11 cX11_slide 4 D cy base tS 0 0) (hr : meth.sig.returnType = (some .int)) (hk : meth.locks = false) (t0 : cls k0 = 11) (hl : lv_has ls 4 [(0, .ref (base + k0)), (1, .int v1)]) : Sim p l e rm_X11_slide s m args below meth c D cy base 0 0 (fun S1 r => MQ below (QcI D cy base tS S1 r) args s 0 0 (AA base)) (X11_slide S k0 v1) S (F0 m 0 ls []) := by
  unfold X11_slide
  refine r_aload_n (pc := 0) C dX11_slide_0 rfl (lv_at hl 0 rfl) ?_
  refine r_iload_n (pc := 1) C dX11_slide_1 rfl (lv_at hl 1 rfl) ?_
  refine cv_X11_121 (pc := 2) C t0 hl.1 ⟨Nat.le_of_ble_eq_true rfl, Nat.le_of_ble_eq_true rfl⟩ (Nat.le_of_ble_eq_true rfl) dX11_slide_2 (fun S21 v22 => ?_)
  refine r_if_ne (pc := 5) C (tgt := 14) dX11_slide_5 (by decide) (fun _ => ?_) (fun _ => ?_)
  · refine r_aload_n (pc := 14) C dX11_slide_14 rfl (lv_at hl 0 rfl) ?_
    refine gf_X11_16 (pc := 15) C t0 dX11_slide_15 ?_
    have t23 := ft_11_4 t0
    refine r_iload_n (pc := 18) C dX11_slide_18 rfl (lv_at hl 1 rfl) ?_
    refine r_lald (pc := 19) C t23 dX11_slide_19 ?_
    refine r_aload_n (pc := 20) C dX11_slide_20 rfl (lv_at hl 0 rfl) ?_
    refine r_iload_n (pc := 21) C dX11_slide_21 rfl (lv_at hl 1 rfl) ?_
    refine cv_X11_106 (pc := 22) C t0 hl.1 ⟨Nat.le_of_ble_eq_true rfl, Nat.le_of_ble_eq_true rfl⟩ (Nat.le_of_ble_eq_true rfl) dX11_slide_22 (fun S24 v25 => ?_)
    refine cv_X11_110 (pc := 25) C  hl.1 ⟨Nat.le_of_ble_eq_true rfl, Nat.le_of_ble_eq_true rfl⟩ (Nat.le_of_ble_eq_true rfl) dX11_slide_25 (fun S26 v27 => ?_)
    refine r_if_ne (pc := 28) C (tgt := 38) dX11_slide_28 (by decide) (fun _ => ?_) (fun _ => ?_)
    · refine r_aload_n (pc := 38) C dX11_slide_38 rfl (lv_at hl 0 rfl) ?_
      refine r_aload_n (pc := 39) C dX11_slide_39 rfl (lv_at hl 0 rfl) ?_
      refine gf_X11_16 (pc := 40) C t0 dX11_slide_40 ?_
      have t28 := ft_11_4 t0
      refine r_iload_n (pc := 43) C dX11_slide_43 rfl (lv_at hl 1 rfl) ?_
      refine cv_X11_162 (pc := 44) C t0 t28 hl.1 ⟨Nat.le_of_ble_eq_true rfl, Nat.le_of_ble_eq_true rfl⟩ (Nat.le_of_ble_eq_true rfl) dX11_slide_44 (fun S29 v30 => ?_)
      refine r_if_eq (pc := 47) C (tgt := 57) dX11_slide_47 (by decide) (fun _ => ?_) (fun _ => ?_)
      · refine r_aload_n (pc := 57) C dX11_slide_57 rfl (lv_at hl 0 rfl) ?_
        refine cv_X11_148 (pc := 58) C t0 hl.1 ⟨Nat.le_of_ble_eq_true rfl, Nat.le_of_ble_eq_true rfl⟩ (Nat.le_of_ble_eq_true rfl) dX11_slide_58 (fun S31 _ => ?_)
        refine r_aload_n (pc := 61) C dX11_slide_61 rfl (lv_at hl 0 rfl) ?_
        refine r_aload_n (pc := 62) C dX11_slide_62 rfl (lv_at hl 0 rfl) ?_
        refine gf_X11_16 (pc := 63) C t0 dX11_slide_63 ?_
        have t32 := ft_11_4 t0
        refine r_iload_n (pc := 66) C dX11_slide_66 rfl (lv_at hl 1 rfl) ?_
        refine cv_X11_166 (pc := 67) C t0 t32 hl.1 ⟨Nat.le_of_ble_eq_true rfl, Nat.le_of_ble_eq_true rfl⟩ (Nat.le_of_ble_eq_true rfl) dX11_slide_67 (fun S33 v34 => ?_)
        refine r_lstore_n (lv2 := [(2, .long v34), (0, .ref (base + k0)), (1, .int v1)]) (pc := 70) C dX11_slide_70 rfl hl (Nat.le_of_ble_eq_true rfl) rfl (fun ls hl => ?_)
        refine r_aload_n (pc := 71) C dX11_slide_71 rfl (lv_at hl 1 rfl) ?_
        refine gf_X11_20 (pc := 72) C t0 dX11_slide_72 ?_
        have t35 := ft_11_5 t0
        refine r_iload_n (pc := 75) C dX11_slide_75 rfl (lv_at hl 2 rfl) ?_
        refine r_dup2_11 (pc := 76) C dX11_slide_76 rfl rfl ?_
        refine r_lald (pc := 77) C t35 dX11_slide_77 ?_
        refine r_lload_n (pc := 78) C dX11_slide_78 rfl (lv_at hl 0 rfl) ?_
        refine r_ladd (pc := 79) C dX11_slide_79 ?_
        refine r_last (pc := 80) C t35 dX11_slide_80 (fun S36 => ?_)
        refine r_lload_n (pc := 81) C dX11_slide_81 rfl (lv_at hl 0 rfl) ?_
        refine r_l2i (pc := 82) C dX11_slide_82 ?_
        exact r_iret (pc := 83) C hr hk dX11_slide_83
      · refine r_aload_n (pc := 50) C dX11_slide_50 rfl (lv_at hl 0 rfl) ?_
        refine r_bipush (pc := 51) C (-5 : Int32) dX11_slide_51 (by decide) ?_
        refine cv_X11_118 (pc := 53) C t0 hl.1 ⟨Nat.le_of_ble_eq_true rfl, Nat.le_of_ble_eq_true rfl⟩ (Nat.le_of_ble_eq_true rfl) dX11_slide_53 (fun S37 v38 => ?_)
        exact r_iret (pc := 56) C hr hk dX11_slide_56
    · refine r_aload_n (pc := 31) C dX11_slide_31 rfl (lv_at hl 0 rfl) ?_
      refine r_bipush (pc := 32) C (-8 : Int32) dX11_slide_32 (by decide) ?_
      refine cv_X11_118 (pc := 34) C t0 hl.1 ⟨Nat.le_of_ble_eq_true rfl, Nat.le_of_ble_eq_true rfl⟩ (Nat.le_of_ble_eq_true rfl) dX11_slide_34 (fun S39 v40 => ?_)
      exact r_iret (pc := 37) C hr hk dX11_slide_37
  · refine r_aload_n (pc := 8) C dX11_slide_8 rfl (lv_at hl 0 rfl) ?_
    refine r_iconst (pc := 9) C (-1 : Int32) dX11_slide_9 (by decide) ?_
    refine cv_X11_118 (pc := 10) C t0 hl.1 ⟨Nat.le_of_ble_eq_true rfl, Nat.le_of_ble_eq_true rfl⟩ (Nat.le_of_ble_eq_true rfl) dX11_slide_10 (fun S41 v42 => ?_)
    exact r_iret (pc := 13) C hr hk dX11_slide_13

theorem ct_X11_slide (l : Launch) {D : va_G} {cy : Nat → ClassId} {base tS : Nat} {S : St} {k0 : Nat} {v1 : Int32} (t0 : cls k0 = 11) {S1 : St} {r1 : Int32} (h : X11_slide S k0 v1 = some (S1, r1)) : Met l yX11_slide (wsY yX11_slide cX11_slide 4 (some .int)) rm_X11_slide (va_Pc [.ref (base + k0), .int v1] (World D cy base tS S)) (QcI D cy base tS S1 r1) 0 0 (AA base) := conI rfl rfl (by decide) (Nat.le_of_ble_eq_true rfl) (fun p e s m args below meth c ls C hr hk hl => sm_X11_slide C hr hk t0 hl) h
abbrev rm_X11_manner : Room := { frames := 2, cells := 0, slots := 0, locals := 43 }
set_option maxHeartbeats 4000000 in
set_option maxRecDepth 100000 in
theorem lp_X11_manner_48 {p : Program} {l : Launch} {e : Env} {s : State} {m : MethodId} {args : Array Value} {below : List Frame} {meth : Method} {c : Code} {D : va_G} {cy : Nat → ClassId} {base tS : Nat} {ls : Array Slot} (C : Cx p rm_X11_manner s m args c RX11 cX11_manner 5 D cy base tS 0 0) (hr : meth.sig.returnType = (some .int)) (hk : meth.locks = false) {k0 : Nat} {v1 : Int32} {v2 : Int32} (t0 : cls k0 = 11) {K : St → Int32 → Int32 → Option (St × Int32)} (hK : ∀ (S : St) (v3 : Int32) (v4 : Int32) (ls : Array Slot), lv_has ls 5 [(0, .ref (base + k0)), (1, .int v1), (2, .int v2), (3, .int v3), (4, .int v4)] → Sim p l e rm_X11_manner s m args below meth c D cy base 0 0 (fun S1 r => MQ below (QcI D cy base tS S1 r) args s 0 0 (AA base)) (K S v3 v4) S (F0 m 89 ls [])) : ∀ (n : Nat) (S : St) (v3 : Int32) (v4 : Int32) (ls : Array Slot), lv_has ls 5 [(0, .ref (base + k0)), (1, .int v1), (2, .int v2), (3, .int v3), (4, .int v4)] → Sim p l e rm_X11_manner s m args below meth c D cy base 0 0 (fun S1 r => MQ below (QcI D cy base tS S1 r) args s 0 0 (AA base)) (X11_manner_48 k0 v1 v2 K n S v3 v4) S (F0 m 48 ls []) := by
  intro n
  induction n with
  | zero => intro S v3 v4 ls hl; exact Sim.none
  | succ n ih =>
    intro S v3 v4 ls hl
    rw [X11_manner_48]
    refine r_iload (pc := 48) C dX11_manner_48 (lv_at hl 4 rfl) ?_
    refine r_aload_n (pc := 50) C dX11_manner_50 rfl (lv_at hl 0 rfl) ?_
    refine gf_X11_169 (pc := 51) C t0 dX11_manner_51 ?_
    refine r_icmp_ge (pc := 54) C (tgt := 89) dX11_manner_54 (by decide) (fun _ => ?_) (fun _ => ?_)
    · exact hK S v3 v4 _ (lv_sub hl [0, 1, 2, 3, 4] rfl)
    · refine r_aload_n (pc := 57) C dX11_manner_57 rfl (lv_at hl 0 rfl) ?_
      refine r_aload_n (pc := 58) C dX11_manner_58 rfl (lv_at hl 0 rfl) ?_
      refine gf_X11_55 (pc := 59) C t0 dX11_manner_59 ?_
      have t40 := ft_11_22 t0
      refine r_iload (pc := 62) C dX11_manner_62 (lv_at hl 4 rfl) ?_
      refine r_iald (pc := 64) C t40 dX11_manner_64 ?_
      refine cv_X11_121 (pc := 65) C t0 hl.1 ⟨Nat.le_of_ble_eq_true rfl, Nat.le_of_ble_eq_true rfl⟩ (Nat.le_of_ble_eq_true rfl) dX11_manner_65 (fun S41 v42 => ?_)
      refine r_join (fun (j : St → Int32 → Option (St × Int32)) => ∀ (S44 : St) (v45 : Int32) (ls : Array Slot), lv_has ls 5 [(0, .ref (base + k0)), (1, .int v1), (2, .int v2), (3, .int v45), (4, .int v4)] → Sim p l e rm_X11_manner s m args below meth c D cy base 0 0 (fun S1 r => MQ below (QcI D cy base tS S1 r) args s 0 0 (AA base)) (j S44 v45) S44 (F0 m 83 ls [])) ?_ (fun j43 hj43 => ?_)
      · intro S44 v45 ls hl
        refine r_iinc (pc := 83) C (k := 4) (1 : Int32) (fun v46 => [(4, .int v46), (0, .ref (base + k0)), (1, .int v1), (2, .int v2), (3, .int v45)]) dX11_manner_83 hl rfl (by decide) (Nat.le_of_ble_eq_true rfl) (fun _ => rfl) (fun v46 ls hl => ?_)
        refine r_goto (pc := 86) C (tgt := 48) dX11_manner_86 (by decide) ?_
        exact ih S44 v45 v46 _ (lv_sub hl [1, 2, 3, 4, 0] rfl)
      refine r_if_eq (pc := 68) C (tgt := 83) dX11_manner_68 (by decide) (fun _ => ?_) (fun _ => ?_)
      · exact hj43 S41 v3 _ (lv_sub hl [0, 1, 2, 3, 4] rfl)
      · refine r_iload_n (pc := 71) C dX11_manner_71 rfl (lv_at hl 3 rfl) ?_
        refine r_iconst (pc := 72) C (1 : Int32) dX11_manner_72 (by decide) ?_
        refine r_aload_n (pc := 73) C dX11_manner_73 rfl (lv_at hl 0 rfl) ?_
        refine gf_X11_55 (pc := 74) C t0 dX11_manner_74 ?_
        have t47 := ft_11_22 t0
        refine r_iload (pc := 77) C dX11_manner_77 (lv_at hl 4 rfl) ?_
        refine r_iald (pc := 79) C t47 dX11_manner_79 ?_
        refine r_ishl (pc := 80) C dX11_manner_80 ?_
        refine r_ior (pc := 81) C dX11_manner_81 ?_
        refine r_topi (fun v48 => ?_)
        refine r_istore_n (lv2 := [(3, .int v48), (0, .ref (base + k0)), (1, .int v1), (2, .int v2), (4, .int v4)]) (pc := 82) C dX11_manner_82 rfl hl (Nat.le_of_ble_eq_true rfl) rfl (fun ls hl => ?_)
        exact hj43 S41 v48 _ (lv_sub hl [1, 2, 3, 0, 4] rfl)

set_option maxHeartbeats 4000000 in
set_option maxRecDepth 100000 in
theorem lp_X11_manner_121 {p : Program} {l : Launch} {e : Env} {s : State} {m : MethodId} {args : Array Value} {below : List Frame} {meth : Method} {c : Code} {D : va_G} {cy : Nat → ClassId} {base tS : Nat} {ls : Array Slot} (C : Cx p rm_X11_manner s m args c RX11 cX11_manner 5 D cy base tS 0 0) (hr : meth.sig.returnType = (some .int)) (hk : meth.locks = false) {k0 : Nat} {v1 : Int32} {v2 : Int32} (t0 : cls k0 = 11) {K : St → Int32 → Option (St × Int32)} (hK : ∀ (S : St) (v4 : Int32) (ls : Array Slot), lv_has ls 5 [(0, .ref (base + k0)), (1, .int v1), (2, .int v2), (4, .int v4)] → Sim p l e rm_X11_manner s m args below meth c D cy base 0 0 (fun S1 r => MQ below (QcI D cy base tS S1 r) args s 0 0 (AA base)) (K S v4) S (F0 m 150 ls [])) : ∀ (n : Nat) (S : St) (v4 : Int32) (ls : Array Slot), lv_has ls 5 [(0, .ref (base + k0)), (1, .int v1), (2, .int v2), (4, .int v4)] → Sim p l e rm_X11_manner s m args below meth c D cy base 0 0 (fun S1 r => MQ below (QcI D cy base tS S1 r) args s 0 0 (AA base)) (X11_manner_121 k0 v1 v2 K n S v4) S (F0 m 121 ls []) := by
  intro n
  induction n with
  | zero => intro S v4 ls hl; exact Sim.none
  | succ n ih =>
    intro S v4 ls hl
    rw [X11_manner_121]
    refine r_iload (pc := 121) C dX11_manner_121 (lv_at hl 3 rfl) ?_
    refine r_aload_n (pc := 123) C dX11_manner_123 rfl (lv_at hl 0 rfl) ?_
    refine gf_X11_95 (pc := 124) C t0 dX11_manner_124 ?_
    refine r_icmp_ge (pc := 127) C (tgt := 150) dX11_manner_127 (by decide) (fun _ => ?_) (fun _ => ?_)
    · exact hK S v4 _ (lv_sub hl [0, 1, 2, 3] rfl)
    · refine r_aload_n (pc := 130) C dX11_manner_130 rfl (lv_at hl 0 rfl) ?_
      refine gf_X11_27 (pc := 131) C t0 dX11_manner_131 ?_
      have t56 := ft_11_9 t0
      refine r_iload (pc := 134) C dX11_manner_134 (lv_at hl 3 rfl) ?_
      refine r_aload_n (pc := 136) C dX11_manner_136 rfl (lv_at hl 0 rfl) ?_
      refine gf_X11_55 (pc := 137) C t0 dX11_manner_137 ?_
      have t57 := ft_11_22 t0
      refine r_iload (pc := 140) C dX11_manner_140 (lv_at hl 3 rfl) ?_
      refine r_iald (pc := 142) C t57 dX11_manner_142 ?_
      refine r_iast (pc := 143) C t56 dX11_manner_143 (fun S58 => ?_)
      refine r_iinc (pc := 144) C (k := 3) (1 : Int32) (fun v59 => [(4, .int v59), (0, .ref (base + k0)), (1, .int v1), (2, .int v2)]) dX11_manner_144 hl rfl (by decide) (Nat.le_of_ble_eq_true rfl) (fun _ => rfl) (fun v59 ls hl => ?_)
      refine r_goto (pc := 147) C (tgt := 121) dX11_manner_147 (by decide) ?_
      exact ih S58 v59 _ (lv_sub hl [1, 2, 3, 0] rfl)

set_option maxHeartbeats 4000000 in
set_option maxRecDepth 100000 in
theorem sm_X11_manner {p : Program} {l : Launch} {e : Env} {s : State} {m : MethodId} {args : Array Value} {below : List Frame} {meth : Method} {c : Code} {D : va_G} {cy : Nat → ClassId} {base tS : Nat} {S : St} {k0 : Nat} {v1 : Int32} {v2 : Int32} {ls : Array Slot} (C : Cx p rm_X11_manner s m args c RX11 cX11_manner 5 D cy base tS 0 0) (hr : meth.sig.returnType = (some .int)) (hk : meth.locks = false) (t0 : cls k0 = 11) (hl : lv_has ls 5 [(0, .ref (base + k0)), (1, .int v1), (2, .int v2)]) : Sim p l e rm_X11_manner s m args below meth c D cy base 0 0 (fun S1 r => MQ below (QcI D cy base tS S1 r) args s 0 0 (AA base)) (X11_manner S k0 v1 v2) S (F0 m 0 ls []) := by
  unfold X11_manner
  refine r_iload_n (pc := 0) C dX11_manner_0 rfl (lv_at hl 1 rfl) ?_
  refine r_iconst (pc := 1) C (0 : Int32) dX11_manner_1 (by decide) ?_
  refine r_iconst (pc := 2) C (4 : Int32) dX11_manner_2 (by decide) ?_
  refine cv_X11_98 (pc := 3) C  hl.1 ⟨Nat.le_of_ble_eq_true rfl, Nat.le_of_ble_eq_true rfl⟩ (Nat.le_of_ble_eq_true rfl) dX11_manner_3 (fun S21 v22 => ?_)
  refine r_join (fun (j : St → Option (St × Int32)) => ∀ (S24 : St)  (ls : Array Slot), lv_has ls 5 [(0, .ref (base + k0))] → Sim p l e rm_X11_manner s m args below meth c D cy base 0 0 (fun S1 r => MQ below (QcI D cy base tS S1 r) args s 0 0 (AA base)) (j S24) S24 (F0 m 18 ls [])) ?_ (fun j23 hj23 => ?_)
  · intro S24 ls hl
    refine r_aload_n (pc := 18) C dX11_manner_18 rfl (lv_at hl 0 rfl) ?_
    refine r_iconst (pc := 19) C (-1 : Int32) dX11_manner_19 (by decide) ?_
    refine cv_X11_118 (pc := 20) C t0 hl.1 ⟨Nat.le_of_ble_eq_true rfl, Nat.le_of_ble_eq_true rfl⟩ (Nat.le_of_ble_eq_true rfl) dX11_manner_20 (fun S25 v26 => ?_)
    exact r_iret (pc := 23) C hr hk dX11_manner_23
  refine r_if_eq (pc := 6) C (tgt := 18) dX11_manner_6 (by decide) (fun _ => ?_) (fun _ => ?_)
  · exact hj23 S21  _ (lv_sub hl [0] rfl)
  · refine r_iload_n (pc := 9) C dX11_manner_9 rfl (lv_at hl 1 rfl) ?_
    refine r_iconst (pc := 10) C (3 : Int32) dX11_manner_10 (by decide) ?_
    refine r_join (fun (j : St → Option (St × Int32)) => ∀ (S28 : St)  (ls : Array Slot), lv_has ls 5 [(0, .ref (base + k0)), (1, .int v1), (2, .int v2)] → Sim p l e rm_X11_manner s m args below meth c D cy base 0 0 (fun S1 r => MQ below (QcI D cy base tS S1 r) args s 0 0 (AA base)) (j S28) S28 (F0 m 24 ls [])) ?_ (fun j27 hj27 => ?_)
    · intro S28 ls hl
      refine r_aload_n (pc := 24) C dX11_manner_24 rfl (lv_at hl 0 rfl) ?_
      refine gf_X11_114 (pc := 25) C t0 dX11_manner_25 ?_
      refine r_if_ne (pc := 28) C (tgt := 38) dX11_manner_28 (by decide) (fun _ => ?_) (fun _ => ?_)
      · refine r_iload_n (pc := 38) C dX11_manner_38 rfl (lv_at hl 1 rfl) ?_
        refine r_iconst (pc := 39) C (2 : Int32) dX11_manner_39 (by decide) ?_
        refine r_join (fun (j : St → Option (St × Int32)) => ∀ (S30 : St)  (ls : Array Slot), lv_has ls 5 [(0, .ref (base + k0)), (1, .int v1), (2, .int v2)] → Sim p l e rm_X11_manner s m args below meth c D cy base 0 0 (fun S1 r => MQ below (QcI D cy base tS S1 r) args s 0 0 (AA base)) (j S30) S30 (F0 m 155 ls [])) ?_ (fun j29 hj29 => ?_)
        · intro S30 ls hl
          refine r_aload_n (pc := 155) C dX11_manner_155 rfl (lv_at hl 0 rfl) ?_
          refine gf_X11_128 (pc := 156) C t0 dX11_manner_156 ?_
          refine r_topi (fun v31 => ?_)
          refine r_istore_n (lv2 := [(3, .int v31), (0, .ref (base + k0)), (1, .int v1), (2, .int v2)]) (pc := 159) C dX11_manner_159 rfl hl (Nat.le_of_ble_eq_true rfl) rfl (fun ls hl => ?_)
          refine r_aload_n (pc := 160) C dX11_manner_160 rfl (lv_at hl 1 rfl) ?_
          refine r_iload_n (pc := 161) C dX11_manner_161 rfl (lv_at hl 2 rfl) ?_
          refine pf_X11_128 (pc := 162) C t0 dX11_manner_162 (fun S32 => ?_)
          refine r_iload_n (pc := 165) C dX11_manner_165 rfl (lv_at hl 2 rfl) ?_
          refine r_iconst (pc := 166) C (3 : Int32) dX11_manner_166 (by decide) ?_
          refine r_join (fun (j : St → Option (St × Int32)) => ∀ (S34 : St)  (ls : Array Slot), lv_has ls 5 [(0, .ref (base + k0)), (1, .int v1), (3, .int v31)] → Sim p l e rm_X11_manner s m args below meth c D cy base 0 0 (fun S1 r => MQ below (QcI D cy base tS S1 r) args s 0 0 (AA base)) (j S34) S34 (F0 m 176 ls [])) ?_ (fun j33 hj33 => ?_)
          · intro S34 ls hl
            refine r_iload_n (pc := 176) C dX11_manner_176 rfl (lv_at hl 1 rfl) ?_
            refine r_iconst (pc := 177) C (4 : Int32) dX11_manner_177 (by decide) ?_
            refine r_join (fun (j : St → Option (St × Int32)) => ∀ (S36 : St)  (ls : Array Slot), lv_has ls 5 [(0, .ref (base + k0)), (3, .int v31)] → Sim p l e rm_X11_manner s m args below meth c D cy base 0 0 (fun S1 r => MQ below (QcI D cy base tS S1 r) args s 0 0 (AA base)) (j S36) S36 (F0 m 186 ls [])) ?_ (fun j35 hj35 => ?_)
            · intro S36 ls hl
              refine r_aload_n (pc := 186) C dX11_manner_186 rfl (lv_at hl 0 rfl) ?_
              refine r_iconst (pc := 187) C (0 : Int32) dX11_manner_187 (by decide) ?_
              refine pf_X11_143 (pc := 188) C t0 dX11_manner_188 (fun S37 => ?_)
              refine r_iload_n (pc := 191) C dX11_manner_191 rfl (lv_at hl 1 rfl) ?_
              exact r_iret (pc := 192) C hr hk dX11_manner_192
            refine r_icmp_ne (pc := 178) C (tgt := 186) dX11_manner_178 (by decide) (fun _ => ?_) (fun _ => ?_)
            · exact hj35 S34  _ (lv_sub hl [0, 2] rfl)
            · refine r_aload_n (pc := 181) C dX11_manner_181 rfl (lv_at hl 0 rfl) ?_
              refine r_iconst (pc := 182) C (0 : Int32) dX11_manner_182 (by decide) ?_
              refine pf_X11_131 (pc := 183) C t0 dX11_manner_183 (fun S38 => ?_)
              exact hj35 S38  _ (lv_sub hl [0, 2] rfl)
          refine r_icmp_ne (pc := 167) C (tgt := 176) dX11_manner_167 (by decide) (fun _ => ?_) (fun _ => ?_)
          · exact hj33 S32  _ (lv_sub hl [1, 2, 0] rfl)
          · refine r_aload_n (pc := 170) C dX11_manner_170 rfl (lv_at hl 1 rfl) ?_
            refine r_iload_n (pc := 171) C dX11_manner_171 rfl (lv_at hl 3 rfl) ?_
            refine r_i2l (pc := 172) C dX11_manner_172 ?_
            refine pf_X11_23 (pc := 173) C t0 dX11_manner_173 (fun S39 => ?_)
            exact hj33 S39  _ (lv_sub hl [1, 2, 0] rfl)
        refine r_icmp_ne (pc := 40) C (tgt := 155) dX11_manner_40 (by decide) (fun _ => ?_) (fun _ => ?_)
        · exact hj29 S28  _ (lv_sub hl [0, 1, 2] rfl)
        · refine r_iconst (pc := 43) C (0 : Int32) dX11_manner_43 (by decide) ?_
          refine r_istore_n (lv2 := [(3, .int (0 : Int32)), (0, .ref (base + k0)), (1, .int v1), (2, .int v2)]) (pc := 44) C dX11_manner_44 rfl hl (Nat.le_of_ble_eq_true rfl) rfl (fun ls hl => ?_)
          refine r_iconst (pc := 45) C (0 : Int32) dX11_manner_45 (by decide) ?_
          refine r_istore (lv2 := [(4, .int (0 : Int32)), (3, .int (0 : Int32)), (0, .ref (base + k0)), (1, .int v1), (2, .int v2)]) (pc := 46) C dX11_manner_46 hl (Nat.le_of_ble_eq_true rfl) rfl (fun ls hl => ?_)
          refine lp_X11_manner_48 (ls := ls) C hr hk t0 (fun S49 v50 v51 ls hl => ?_) FU S28 (0 : Int32) (0 : Int32) _ (lv_sub hl [2, 3, 4, 1, 0] rfl)
          refine r_aload_n (pc := 89) C dX11_manner_89 rfl (lv_at hl 0 rfl) ?_
          refine gf_X11_169 (pc := 90) C t0 dX11_manner_90 ?_
          refine r_aload_n (pc := 93) C dX11_manner_93 rfl (lv_at hl 0 rfl) ?_
          refine gf_X11_95 (pc := 94) C t0 dX11_manner_94 ?_
          refine r_join (fun (j : St → Option (St × Int32)) => ∀ (S53 : St)  (ls : Array Slot), lv_has ls 5 [(0, .ref (base + k0))] → Sim p l e rm_X11_manner s m args below meth c D cy base 0 0 (fun S1 r => MQ below (QcI D cy base tS S1 r) args s 0 0 (AA base)) (j S53) S53 (F0 m 112 ls [])) ?_ (fun j52 hj52 => ?_)
          · intro S53 ls hl
            refine r_aload_n (pc := 112) C dX11_manner_112 rfl (lv_at hl 0 rfl) ?_
            refine r_iconst (pc := 113) C (-1 : Int32) dX11_manner_113 (by decide) ?_
            refine cv_X11_118 (pc := 114) C t0 hl.1 ⟨Nat.le_of_ble_eq_true rfl, Nat.le_of_ble_eq_true rfl⟩ (Nat.le_of_ble_eq_true rfl) dX11_manner_114 (fun S54 v55 => ?_)
            exact r_iret (pc := 117) C hr hk dX11_manner_117
          refine r_icmp_ne (pc := 97) C (tgt := 112) dX11_manner_97 (by decide) (fun _ => ?_) (fun _ => ?_)
          · exact hj52 S49  _ (lv_sub hl [0] rfl)
          · refine r_iload_n (pc := 100) C dX11_manner_100 rfl (lv_at hl 3 rfl) ?_
            refine r_iconst (pc := 101) C (1 : Int32) dX11_manner_101 (by decide) ?_
            refine r_aload_n (pc := 102) C dX11_manner_102 rfl (lv_at hl 0 rfl) ?_
            refine gf_X11_95 (pc := 103) C t0 dX11_manner_103 ?_
            refine r_ishl (pc := 106) C dX11_manner_106 ?_
            refine r_iconst (pc := 107) C (1 : Int32) dX11_manner_107 (by decide) ?_
            refine r_isub (pc := 108) C dX11_manner_108 ?_
            refine r_icmp_eq (pc := 109) C (tgt := 118) dX11_manner_109 (by decide) (fun _ => ?_) (fun _ => ?_)
            · refine r_iconst (pc := 118) C (0 : Int32) dX11_manner_118 (by decide) ?_
              refine r_istore (lv2 := [(4, .int (0 : Int32)), (0, .ref (base + k0)), (1, .int v1), (2, .int v2), (3, .int v50)]) (pc := 119) C dX11_manner_119 hl (Nat.le_of_ble_eq_true rfl) rfl (fun ls hl => ?_)
              refine lp_X11_manner_121 (ls := ls) C hr hk t0 (fun S60 v61 ls hl => ?_) FU S49 (0 : Int32) _ (lv_sub hl [1, 2, 3, 0] rfl)
              refine r_aload_n (pc := 150) C dX11_manner_150 rfl (lv_at hl 0 rfl) ?_
              refine r_iconst (pc := 151) C (0 : Int32) dX11_manner_151 (by decide) ?_
              refine pf_X11_169 (pc := 152) C t0 dX11_manner_152 (fun S62 => ?_)
              exact hj29 S62  _ (lv_sub hl [0, 1, 2] rfl)
            · exact hj52 S49  _ (lv_sub hl [0] rfl)
      · refine r_aload_n (pc := 31) C dX11_manner_31 rfl (lv_at hl 0 rfl) ?_
        refine r_bipush (pc := 32) C (-8 : Int32) dX11_manner_32 (by decide) ?_
        refine cv_X11_118 (pc := 34) C t0 hl.1 ⟨Nat.le_of_ble_eq_true rfl, Nat.le_of_ble_eq_true rfl⟩ (Nat.le_of_ble_eq_true rfl) dX11_manner_34 (fun S63 v64 => ?_)
        exact r_iret (pc := 37) C hr hk dX11_manner_37
    refine r_icmp_ne (pc := 11) C (tgt := 24) dX11_manner_11 (by decide) (fun _ => ?_) (fun _ => ?_)
    · exact hj27 S21  _ (lv_sub hl [0, 1, 2] rfl)
    · refine r_iload_n (pc := 14) C dX11_manner_14 rfl (lv_at hl 2 rfl) ?_
      refine r_if_ge (pc := 15) C (tgt := 24) dX11_manner_15 (by decide) (fun _ => ?_) (fun _ => ?_)
      · exact hj27 S21  _ (lv_sub hl [0, 1, 2] rfl)
      · exact hj23 S21  _ (lv_sub hl [0] rfl)

theorem ct_X11_manner (l : Launch) {D : va_G} {cy : Nat → ClassId} {base tS : Nat} {S : St} {k0 : Nat} {v1 : Int32} {v2 : Int32} (t0 : cls k0 = 11) {S1 : St} {r1 : Int32} (h : X11_manner S k0 v1 v2 = some (S1, r1)) : Met l yX11_manner (wsY yX11_manner cX11_manner 5 (some .int)) rm_X11_manner (va_Pc [.ref (base + k0), .int v1, .int v2] (World D cy base tS S)) (QcI D cy base tS S1 r1) 0 0 (AA base) := conI rfl rfl (by decide) (Nat.le_of_ble_eq_true rfl) (fun p e s m args below meth c ls C hr hk hl => sm_X11_manner C hr hk t0 hl) h
abbrev rm_X11_isAsked : Room := { frames := 0, cells := 0, slots := 0, locals := 0 }
set_option maxHeartbeats 4000000 in
set_option maxRecDepth 100000 in
theorem lp_X11_isAsked_2 {p : Program} {l : Launch} {e : Env} {s : State} {m : MethodId} {args : Array Value} {below : List Frame} {meth : Method} {c : Code} {D : va_G} {cy : Nat → ClassId} {base tS : Nat} {ls : Array Slot} (C : Cx p rm_X11_isAsked s m args c RX11 cX11_isAsked 3 D cy base tS 0 0) (hr : meth.sig.returnType = (some .boolean)) (hk : meth.locks = false) {k0 : Nat} {v1 : Int32} (t0 : cls k0 = 11) {K : St → Int32 → Option (St × Int32)} (hK : ∀ (S : St) (v2 : Int32) (ls : Array Slot), lv_has ls 3 [(0, .ref (base + k0)), (1, .int v1), (2, .int v2)] → Sim p l e rm_X11_isAsked s m args below meth c D cy base 0 0 (fun S1 r => MQ below (QcI D cy base tS S1 r) args s 0 0 (AA base)) (K S v2) S (F0 m 28 ls [])) : ∀ (n : Nat) (S : St) (v2 : Int32) (ls : Array Slot), lv_has ls 3 [(0, .ref (base + k0)), (1, .int v1), (2, .int v2)] → Sim p l e rm_X11_isAsked s m args below meth c D cy base 0 0 (fun S1 r => MQ below (QcI D cy base tS S1 r) args s 0 0 (AA base)) (X11_isAsked_2 k0 v1 K n S v2) S (F0 m 2 ls []) := by
  intro n
  induction n with
  | zero => intro S v2 ls hl; exact Sim.none
  | succ n ih =>
    intro S v2 ls hl
    rw [X11_isAsked_2]
    refine r_iload_n (pc := 2) C dX11_isAsked_2 rfl (lv_at hl 2 rfl) ?_
    refine r_aload_n (pc := 3) C dX11_isAsked_3 rfl (lv_at hl 0 rfl) ?_
    refine gf_X11_131 (pc := 4) C t0 dX11_isAsked_4 ?_
    refine r_icmp_ge (pc := 7) C (tgt := 28) dX11_isAsked_7 (by decide) (fun _ => ?_) (fun _ => ?_)
    · exact hK S v2 _ (lv_sub hl [0, 1, 2] rfl)
    · refine r_aload_n (pc := 10) C dX11_isAsked_10 rfl (lv_at hl 0 rfl) ?_
      refine gf_X11_30 (pc := 11) C t0 dX11_isAsked_11 ?_
      have t21 := ft_11_10 t0
      refine r_iload_n (pc := 14) C dX11_isAsked_14 rfl (lv_at hl 2 rfl) ?_
      refine r_iald (pc := 15) C t21 dX11_isAsked_15 ?_
      refine r_iload_n (pc := 16) C dX11_isAsked_16 rfl (lv_at hl 1 rfl) ?_
      refine r_icmp_ne (pc := 17) C (tgt := 22) dX11_isAsked_17 (by decide) (fun _ => ?_) (fun _ => ?_)
      · refine r_iinc (pc := 22) C (k := 2) (1 : Int32) (fun v22 => [(2, .int v22), (0, .ref (base + k0)), (1, .int v1)]) dX11_isAsked_22 hl rfl (by decide) (Nat.le_of_ble_eq_true rfl) (fun _ => rfl) (fun v22 ls hl => ?_)
        refine r_goto (pc := 25) C (tgt := 2) dX11_isAsked_25 (by decide) ?_
        exact ih S v22 _ (lv_sub hl [1, 2, 0] rfl)
      · refine r_iconst (pc := 20) C (1 : Int32) dX11_isAsked_20 (by decide) ?_
        exact r_zret (pc := 21) C rfl hr hk dX11_isAsked_21

set_option maxHeartbeats 4000000 in
set_option maxRecDepth 100000 in
theorem sm_X11_isAsked {p : Program} {l : Launch} {e : Env} {s : State} {m : MethodId} {args : Array Value} {below : List Frame} {meth : Method} {c : Code} {D : va_G} {cy : Nat → ClassId} {base tS : Nat} {S : St} {k0 : Nat} {v1 : Int32} {ls : Array Slot} (C : Cx p rm_X11_isAsked s m args c RX11 cX11_isAsked 3 D cy base tS 0 0) (hr : meth.sig.returnType = (some .boolean)) (hk : meth.locks = false) (t0 : cls k0 = 11) (hl : lv_has ls 3 [(0, .ref (base + k0)), (1, .int v1)]) : Sim p l e rm_X11_isAsked s m args below meth c D cy base 0 0 (fun S1 r => MQ below (QcI D cy base tS S1 r) args s 0 0 (AA base)) (X11_isAsked S k0 v1) S (F0 m 0 ls []) := by
  unfold X11_isAsked
  refine r_iconst (pc := 0) C (0 : Int32) dX11_isAsked_0 (by decide) ?_
  refine r_istore_n (lv2 := [(2, .int (0 : Int32)), (0, .ref (base + k0)), (1, .int v1)]) (pc := 1) C dX11_isAsked_1 rfl hl (Nat.le_of_ble_eq_true rfl) rfl (fun ls hl => ?_)
  refine lp_X11_isAsked_2 (ls := ls) C hr hk t0 (fun S23 v24 ls hl => ?_) FU S (0 : Int32) _ (lv_sub hl [1, 2, 0] rfl)
  refine r_iconst (pc := 28) C (0 : Int32) dX11_isAsked_28 (by decide) ?_
  exact r_zret (pc := 29) C rfl hr hk dX11_isAsked_29

theorem ct_X11_isAsked (l : Launch) {D : va_G} {cy : Nat → ClassId} {base tS : Nat} {S : St} {k0 : Nat} {v1 : Int32} (t0 : cls k0 = 11) {S1 : St} {r1 : Int32} (h : X11_isAsked S k0 v1 = some (S1, r1)) : Met l yX11_isAsked (wsY yX11_isAsked cX11_isAsked 3 (some .boolean)) rm_X11_isAsked (va_Pc [.ref (base + k0), .int v1] (World D cy base tS S)) (QcI D cy base tS S1 r1) 0 0 (AA base) := conI rfl rfl (by decide) (Nat.le_of_ble_eq_true rfl) (fun p e s m args below meth c ls C hr hk hl => sm_X11_isAsked C hr hk t0 hl) h
theorem cv_X11_180 {p : Program} {l : Launch} {e : Env} {R : Room} {s : State} {m : MethodId} {args : Array Value} {below : List Frame} {meth : Method} {c : Code} {D : va_G} {cy : Nat → ClassId} {base tS nc ns : Nat} {cc : ByteArray} {nL pc : Nat} {ls : Array Slot} {rest : List Value} {S : St} {ρ : Type} {Q : St → ρ → State → Prop} (C : Cx p R s m args c RX11 cc nL D cy base tS nc ns) {k0 : Nat} {v1 : Int32} (t0 : cls k0 = 11) (hl : ls.size = nL) (hR : rm_X11_isAsked.frames + 1 ≤ R.frames ∧ 8 + (3 + 11) + rm_X11_isAsked.locals ≤ R.locals) {b : St → Int32 → Option (St × ρ)} (hroom : (rest.map fun v => v.category).sum ≤ 8) (hd : decode cc pc = .ok (.invokevirtual 180, 3)) (kk : ∀ (S1 : St) (r : Int32), Sim p l e R s m args below meth c D cy base nc ns Q (b S1 r) S1 (F0 m (pc + 3) ls (.int r :: rest))) : Sim p l e R s m args below meth c D cy base nc ns Q (bd (X11_isAsked S k0 v1) b) S (F0 m pc ls (.int v1 :: .ref (base + k0) :: rest)) := r_callVI (n := 1) (As := [.int v1]) C hl (rd_11 t0) (cls_lt t0 (by decide)) rfl (fun S1 r1 h => ct_X11_isAsked l t0 h) wd_542 wd_543 wd_544 wd_497 wd_545 rfl rfl (by decide +kernel) hR rfl rfl hroom hd kk
abbrev rm_X11_next : Room := { frames := 3, cells := 0, slots := 0, locals := 67 }
set_option maxHeartbeats 4000000 in
set_option maxRecDepth 100000 in
theorem lp_X11_next_43 {p : Program} {l : Launch} {e : Env} {s : State} {m : MethodId} {args : Array Value} {below : List Frame} {meth : Method} {c : Code} {D : va_G} {cy : Nat → ClassId} {base tS : Nat} {ls : Array Slot} (C : Cx p rm_X11_next s m args c RX11 cX11_next 4 D cy base tS 0 0) (hr : meth.sig.returnType = (some .int)) (hk : meth.locks = false) {k0 : Nat} (t0 : cls k0 = 11) {K : St → Int32 → Int32 → Option (St × Int32)} (hK : ∀ (S : St) (v1 : Int32) (v2 : Int32) (ls : Array Slot), lv_has ls 4 [(0, .ref (base + k0)), (1, .int v1), (2, .int v2)] → Sim p l e rm_X11_next s m args below meth c D cy base 0 0 (fun S1 r => MQ below (QcI D cy base tS S1 r) args s 0 0 (AA base)) (K S v1 v2) S (F0 m 72 ls [])) : ∀ (n : Nat) (S : St) (v1 : Int32) (v2 : Int32) (ls : Array Slot), lv_has ls 4 [(0, .ref (base + k0)), (1, .int v1), (2, .int v2)] → Sim p l e rm_X11_next s m args below meth c D cy base 0 0 (fun S1 r => MQ below (QcI D cy base tS S1 r) args s 0 0 (AA base)) (X11_next_43 k0 K n S v1 v2) S (F0 m 43 ls []) := by
  intro n
  induction n with
  | zero => intro S v1 v2 ls hl; exact Sim.none
  | succ n ih =>
    intro S v1 v2 ls hl
    rw [X11_next_43]
    refine r_iload_n (pc := 43) C dX11_next_43 rfl (lv_at hl 2 rfl) ?_
    refine r_if_lt (pc := 44) C (tgt := 72) dX11_next_44 (by decide) (fun _ => ?_) (fun _ => ?_)
    · exact hK S v1 v2 _ (lv_sub hl [0, 1, 2] rfl)
    · refine r_aload_n (pc := 47) C dX11_next_47 rfl (lv_at hl 0 rfl) ?_
      refine gf_X11_16 (pc := 48) C t0 dX11_next_48 ?_
      have t22 := ft_11_4 t0
      refine r_iload_n (pc := 51) C dX11_next_51 rfl (lv_at hl 2 rfl) ?_
      refine r_lald (pc := 52) C t22 dX11_next_52 ?_
      refine r_aload_n (pc := 53) C dX11_next_53 rfl (lv_at hl 0 rfl) ?_
      refine r_iload_n (pc := 54) C dX11_next_54 rfl (lv_at hl 2 rfl) ?_
      refine cv_X11_106 (pc := 55) C t0 hl.1 ⟨Nat.le_of_ble_eq_true rfl, Nat.le_of_ble_eq_true rfl⟩ (Nat.le_of_ble_eq_true rfl) dX11_next_55 (fun S23 v24 => ?_)
      refine cv_X11_110 (pc := 58) C  hl.1 ⟨Nat.le_of_ble_eq_true rfl, Nat.le_of_ble_eq_true rfl⟩ (Nat.le_of_ble_eq_true rfl) dX11_next_58 (fun S25 v26 => ?_)
      refine r_join (fun (j : St → Int32 → Option (St × Int32)) => ∀ (S28 : St) (v29 : Int32) (ls : Array Slot), lv_has ls 4 [(0, .ref (base + k0)), (1, .int v29), (2, .int v2)] → Sim p l e rm_X11_next s m args below meth c D cy base 0 0 (fun S1 r => MQ below (QcI D cy base tS S1 r) args s 0 0 (AA base)) (j S28 v29) S28 (F0 m 66 ls [])) ?_ (fun j27 hj27 => ?_)
      · intro S28 v29 ls hl
        refine r_iinc (pc := 66) C (k := 2) (-1 : Int32) (fun v30 => [(2, .int v30), (0, .ref (base + k0)), (1, .int v29)]) dX11_next_66 hl rfl (by decide) (Nat.le_of_ble_eq_true rfl) (fun _ => rfl) (fun v30 ls hl => ?_)
        refine r_goto (pc := 69) C (tgt := 43) dX11_next_69 (by decide) ?_
        exact ih S28 v29 v30 _ (lv_sub hl [1, 2, 0] rfl)
      refine r_if_eq (pc := 61) C (tgt := 66) dX11_next_61 (by decide) (fun _ => ?_) (fun _ => ?_)
      · exact hj27 S25 v1 _ (lv_sub hl [0, 1, 2] rfl)
      · refine r_iload_n (pc := 64) C dX11_next_64 rfl (lv_at hl 2 rfl) ?_
        refine r_istore_n (lv2 := [(1, .int v2), (0, .ref (base + k0)), (2, .int v2)]) (pc := 65) C dX11_next_65 rfl hl (Nat.le_of_ble_eq_true rfl) rfl (fun ls hl => ?_)
        exact hj27 S25 v2 _ (lv_sub hl [1, 0, 2] rfl)

set_option maxHeartbeats 4000000 in
set_option maxRecDepth 100000 in
theorem lp_X11_next_76 {p : Program} {l : Launch} {e : Env} {s : State} {m : MethodId} {args : Array Value} {below : List Frame} {meth : Method} {c : Code} {D : va_G} {cy : Nat → ClassId} {base tS : Nat} {ls : Array Slot} (C : Cx p rm_X11_next s m args c RX11 cX11_next 4 D cy base tS 0 0) (hr : meth.sig.returnType = (some .int)) (hk : meth.locks = false) {k0 : Nat} (t0 : cls k0 = 11) {K : St → Int32 → Int32 → Option (St × Int32)} (hK : ∀ (S : St) (v1 : Int32) (v2 : Int32) (ls : Array Slot), lv_has ls 4 [(0, .ref (base + k0)), (1, .int v1), (2, .int v2)] → Sim p l e rm_X11_next s m args below meth c D cy base 0 0 (fun S1 r => MQ below (QcI D cy base tS S1 r) args s 0 0 (AA base)) (K S v1 v2) S (F0 m 129 ls [])) : ∀ (n : Nat) (S : St) (v1 : Int32) (v2 : Int32) (ls : Array Slot), lv_has ls 4 [(0, .ref (base + k0)), (1, .int v1), (2, .int v2)] → Sim p l e rm_X11_next s m args below meth c D cy base 0 0 (fun S1 r => MQ below (QcI D cy base tS S1 r) args s 0 0 (AA base)) (X11_next_76 k0 K n S v1 v2) S (F0 m 76 ls []) := by
  intro n
  induction n with
  | zero => intro S v1 v2 ls hl; exact Sim.none
  | succ n ih =>
    intro S v1 v2 ls hl
    rw [X11_next_76]
    refine r_iload_n (pc := 76) C dX11_next_76 rfl (lv_at hl 2 rfl) ?_
    refine r_aload_n (pc := 77) C dX11_next_77 rfl (lv_at hl 0 rfl) ?_
    refine gf_X11_95 (pc := 78) C t0 dX11_next_78 ?_
    refine r_icmp_ge (pc := 81) C (tgt := 129) dX11_next_81 (by decide) (fun _ => ?_) (fun _ => ?_)
    · exact hK S v1 v2 _ (lv_sub hl [0, 1, 2] rfl)
    · refine r_aload_n (pc := 84) C dX11_next_84 rfl (lv_at hl 0 rfl) ?_
      refine gf_X11_16 (pc := 85) C t0 dX11_next_85 ?_
      have t35 := ft_11_4 t0
      refine r_iload_n (pc := 88) C dX11_next_88 rfl (lv_at hl 2 rfl) ?_
      refine r_lald (pc := 89) C t35 dX11_next_89 ?_
      refine r_aload_n (pc := 90) C dX11_next_90 rfl (lv_at hl 0 rfl) ?_
      refine r_iload_n (pc := 91) C dX11_next_91 rfl (lv_at hl 2 rfl) ?_
      refine cv_X11_106 (pc := 92) C t0 hl.1 ⟨Nat.le_of_ble_eq_true rfl, Nat.le_of_ble_eq_true rfl⟩ (Nat.le_of_ble_eq_true rfl) dX11_next_92 (fun S36 v37 => ?_)
      refine cv_X11_110 (pc := 95) C  hl.1 ⟨Nat.le_of_ble_eq_true rfl, Nat.le_of_ble_eq_true rfl⟩ (Nat.le_of_ble_eq_true rfl) dX11_next_95 (fun S38 v39 => ?_)
      refine r_join (fun (j : St → Int32 → Option (St × Int32)) => ∀ (S41 : St) (v42 : Int32) (ls : Array Slot), lv_has ls 4 [(0, .ref (base + k0)), (1, .int v42), (2, .int v2)] → Sim p l e rm_X11_next s m args below meth c D cy base 0 0 (fun S1 r => MQ below (QcI D cy base tS S1 r) args s 0 0 (AA base)) (j S41 v42) S41 (F0 m 123 ls [])) ?_ (fun j40 hj40 => ?_)
      · intro S41 v42 ls hl
        refine r_iinc (pc := 123) C (k := 2) (1 : Int32) (fun v43 => [(2, .int v43), (0, .ref (base + k0)), (1, .int v42)]) dX11_next_123 hl rfl (by decide) (Nat.le_of_ble_eq_true rfl) (fun _ => rfl) (fun v43 ls hl => ?_)
        refine r_goto (pc := 126) C (tgt := 76) dX11_next_126 (by decide) ?_
        exact ih S41 v42 v43 _ (lv_sub hl [1, 2, 0] rfl)
      refine r_if_eq (pc := 98) C (tgt := 123) dX11_next_98 (by decide) (fun _ => ?_) (fun _ => ?_)
      · exact hj40 S38 v1 _ (lv_sub hl [0, 1, 2] rfl)
      · refine r_iload_n (pc := 101) C dX11_next_101 rfl (lv_at hl 1 rfl) ?_
        refine r_join (fun (j : St → Option (St × Int32)) => ∀ (S45 : St)  (ls : Array Slot), lv_has ls 4 [(0, .ref (base + k0)), (2, .int v2)] → Sim p l e rm_X11_next s m args below meth c D cy base 0 0 (fun S1 r => MQ below (QcI D cy base tS S1 r) args s 0 0 (AA base)) (j S45) S45 (F0 m 121 ls [])) ?_ (fun j44 hj44 => ?_)
        · intro S45 ls hl
          refine r_iload_n (pc := 121) C dX11_next_121 rfl (lv_at hl 1 rfl) ?_
          refine r_istore_n (lv2 := [(1, .int v2), (0, .ref (base + k0)), (2, .int v2)]) (pc := 122) C dX11_next_122 rfl hl (Nat.le_of_ble_eq_true rfl) rfl (fun ls hl => ?_)
          exact hj40 S45 v2 _ (lv_sub hl [1, 0, 2] rfl)
        refine r_if_lt (pc := 102) C (tgt := 121) dX11_next_102 (by decide) (fun _ => ?_) (fun _ => ?_)
        · exact hj44 S38  _ (lv_sub hl [0, 2] rfl)
        · refine r_aload_n (pc := 105) C dX11_next_105 rfl (lv_at hl 0 rfl) ?_
          refine gf_X11_16 (pc := 106) C t0 dX11_next_106 ?_
          have t46 := ft_11_4 t0
          refine r_iload_n (pc := 109) C dX11_next_109 rfl (lv_at hl 2 rfl) ?_
          refine r_lald (pc := 110) C t46 dX11_next_110 ?_
          refine r_aload_n (pc := 111) C dX11_next_111 rfl (lv_at hl 0 rfl) ?_
          refine gf_X11_16 (pc := 112) C t0 dX11_next_112 ?_
          have t47 := ft_11_4 t0
          refine r_iload_n (pc := 115) C dX11_next_115 rfl (lv_at hl 1 rfl) ?_
          refine r_lald (pc := 116) C t47 dX11_next_116 ?_
          refine r_lcmp_le (pc := 117) C (tgt := 123) dX11_next_117 dX11_next_118 (by decide) (fun _ => ?_) (fun _ => ?_)
          · exact hj40 S38 v1 _ (lv_sub hl [0, 1, 2] rfl)
          · exact hj44 S38  _ (lv_sub hl [0, 2] rfl)

set_option maxHeartbeats 4000000 in
set_option maxRecDepth 100000 in
theorem lp_X11_next_138 {p : Program} {l : Launch} {e : Env} {s : State} {m : MethodId} {args : Array Value} {below : List Frame} {meth : Method} {c : Code} {D : va_G} {cy : Nat → ClassId} {base tS : Nat} {ls : Array Slot} (C : Cx p rm_X11_next s m args c RX11 cX11_next 4 D cy base tS 0 0) (hr : meth.sig.returnType = (some .int)) (hk : meth.locks = false) {k0 : Nat} (t0 : cls k0 = 11) {K : St → Int32 → Int32 → Option (St × Int32)} (hK : ∀ (S : St) (v1 : Int32) (v2 : Int32) (ls : Array Slot), lv_has ls 4 [(0, .ref (base + k0)), (1, .int v1), (2, .int v2)] → Sim p l e rm_X11_next s m args below meth c D cy base 0 0 (fun S1 r => MQ below (QcI D cy base tS S1 r) args s 0 0 (AA base)) (K S v1 v2) S (F0 m 182 ls [])) : ∀ (n : Nat) (S : St) (v1 : Int32) (v2 : Int32) (ls : Array Slot), lv_has ls 4 [(0, .ref (base + k0)), (1, .int v1), (2, .int v2)] → Sim p l e rm_X11_next s m args below meth c D cy base 0 0 (fun S1 r => MQ below (QcI D cy base tS S1 r) args s 0 0 (AA base)) (X11_next_138 k0 K n S v1 v2) S (F0 m 138 ls []) := by
  intro n
  induction n with
  | zero => intro S v1 v2 ls hl; exact Sim.none
  | succ n ih =>
    intro S v1 v2 ls hl
    rw [X11_next_138]
    refine r_iload_n (pc := 138) C dX11_next_138 rfl (lv_at hl 2 rfl) ?_
    refine r_if_lt (pc := 139) C (tgt := 182) dX11_next_139 (by decide) (fun _ => ?_) (fun _ => ?_)
    · exact hK S v1 v2 _ (lv_sub hl [0, 1, 2] rfl)
    · refine r_aload_n (pc := 142) C dX11_next_142 rfl (lv_at hl 0 rfl) ?_
      refine gf_X11_16 (pc := 143) C t0 dX11_next_143 ?_
      have t53 := ft_11_4 t0
      refine r_aload_n (pc := 146) C dX11_next_146 rfl (lv_at hl 0 rfl) ?_
      refine gf_X11_27 (pc := 147) C t0 dX11_next_147 ?_
      have t54 := ft_11_9 t0
      refine r_iload_n (pc := 150) C dX11_next_150 rfl (lv_at hl 2 rfl) ?_
      refine r_iald (pc := 151) C t54 dX11_next_151 ?_
      refine r_lald (pc := 152) C t53 dX11_next_152 ?_
      refine r_aload_n (pc := 153) C dX11_next_153 rfl (lv_at hl 0 rfl) ?_
      refine r_aload_n (pc := 154) C dX11_next_154 rfl (lv_at hl 0 rfl) ?_
      refine gf_X11_27 (pc := 155) C t0 dX11_next_155 ?_
      have t55 := ft_11_9 t0
      refine r_iload_n (pc := 158) C dX11_next_158 rfl (lv_at hl 2 rfl) ?_
      refine r_iald (pc := 159) C t55 dX11_next_159 ?_
      refine cv_X11_106 (pc := 160) C t0 hl.1 ⟨Nat.le_of_ble_eq_true rfl, Nat.le_of_ble_eq_true rfl⟩ (Nat.le_of_ble_eq_true rfl) dX11_next_160 (fun S56 v57 => ?_)
      refine cv_X11_110 (pc := 163) C  hl.1 ⟨Nat.le_of_ble_eq_true rfl, Nat.le_of_ble_eq_true rfl⟩ (Nat.le_of_ble_eq_true rfl) dX11_next_163 (fun S58 v59 => ?_)
      refine r_join (fun (j : St → Int32 → Option (St × Int32)) => ∀ (S61 : St) (v62 : Int32) (ls : Array Slot), lv_has ls 4 [(0, .ref (base + k0)), (1, .int v62), (2, .int v2)] → Sim p l e rm_X11_next s m args below meth c D cy base 0 0 (fun S1 r => MQ below (QcI D cy base tS S1 r) args s 0 0 (AA base)) (j S61 v62) S61 (F0 m 176 ls [])) ?_ (fun j60 hj60 => ?_)
      · intro S61 v62 ls hl
        refine r_iinc (pc := 176) C (k := 2) (-1 : Int32) (fun v63 => [(2, .int v63), (0, .ref (base + k0)), (1, .int v62)]) dX11_next_176 hl rfl (by decide) (Nat.le_of_ble_eq_true rfl) (fun _ => rfl) (fun v63 ls hl => ?_)
        refine r_goto (pc := 179) C (tgt := 138) dX11_next_179 (by decide) ?_
        exact ih S61 v62 v63 _ (lv_sub hl [1, 2, 0] rfl)
      refine r_if_eq (pc := 166) C (tgt := 176) dX11_next_166 (by decide) (fun _ => ?_) (fun _ => ?_)
      · exact hj60 S58 v1 _ (lv_sub hl [0, 1, 2] rfl)
      · refine r_aload_n (pc := 169) C dX11_next_169 rfl (lv_at hl 0 rfl) ?_
        refine gf_X11_27 (pc := 170) C t0 dX11_next_170 ?_
        have t64 := ft_11_9 t0
        refine r_iload_n (pc := 173) C dX11_next_173 rfl (lv_at hl 2 rfl) ?_
        refine r_iald (pc := 174) C t64 dX11_next_174 ?_
        refine r_topi (fun v65 => ?_)
        refine r_istore_n (lv2 := [(1, .int v65), (0, .ref (base + k0)), (2, .int v2)]) (pc := 175) C dX11_next_175 rfl hl (Nat.le_of_ble_eq_true rfl) rfl (fun ls hl => ?_)
        exact hj60 S58 v65 _ (lv_sub hl [1, 0, 2] rfl)

set_option maxHeartbeats 4000000 in
set_option maxRecDepth 100000 in
theorem lp_X11_next_222 {p : Program} {l : Launch} {e : Env} {s : State} {m : MethodId} {args : Array Value} {below : List Frame} {meth : Method} {c : Code} {D : va_G} {cy : Nat → ClassId} {base tS : Nat} {ls : Array Slot} (C : Cx p rm_X11_next s m args c RX11 cX11_next 4 D cy base tS 0 0) (hr : meth.sig.returnType = (some .int)) (hk : meth.locks = false) {k0 : Nat} {v1 : Int32} (t0 : cls k0 = 11) {K : St → Int32 → Int32 → Option (St × Int32)} (hK : ∀ (S : St) (v2 : Int32) (v3 : Int32) (ls : Array Slot), lv_has ls 4 [(0, .ref (base + k0)), (1, .int v1), (2, .int v2), (3, .int v3)] → Sim p l e rm_X11_next s m args below meth c D cy base 0 0 (fun S1 r => MQ below (QcI D cy base tS S1 r) args s 0 0 (AA base)) (K S v2 v3) S (F0 m 265 ls [])) : ∀ (n : Nat) (S : St) (v2 : Int32) (v3 : Int32) (ls : Array Slot), lv_has ls 4 [(0, .ref (base + k0)), (1, .int v1), (2, .int v2), (3, .int v3)] → Sim p l e rm_X11_next s m args below meth c D cy base 0 0 (fun S1 r => MQ below (QcI D cy base tS S1 r) args s 0 0 (AA base)) (X11_next_222 k0 v1 K n S v2 v3) S (F0 m 222 ls []) := by
  intro n
  induction n with
  | zero => intro S v2 v3 ls hl; exact Sim.none
  | succ n ih =>
    intro S v2 v3 ls hl
    rw [X11_next_222]
    refine r_iload_n (pc := 222) C dX11_next_222 rfl (lv_at hl 3 rfl) ?_
    refine r_aload_n (pc := 223) C dX11_next_223 rfl (lv_at hl 0 rfl) ?_
    refine gf_X11_95 (pc := 224) C t0 dX11_next_224 ?_
    refine r_icmp_ge (pc := 227) C (tgt := 265) dX11_next_227 (by decide) (fun _ => ?_) (fun _ => ?_)
    · exact hK S v2 v3 _ (lv_sub hl [0, 1, 2, 3] rfl)
    · refine r_aload_n (pc := 230) C dX11_next_230 rfl (lv_at hl 0 rfl) ?_
      refine gf_X11_16 (pc := 231) C t0 dX11_next_231 ?_
      have t74 := ft_11_4 t0
      refine r_iload_n (pc := 234) C dX11_next_234 rfl (lv_at hl 3 rfl) ?_
      refine r_lald (pc := 235) C t74 dX11_next_235 ?_
      refine r_aload_n (pc := 236) C dX11_next_236 rfl (lv_at hl 0 rfl) ?_
      refine r_iload_n (pc := 237) C dX11_next_237 rfl (lv_at hl 3 rfl) ?_
      refine cv_X11_106 (pc := 238) C t0 hl.1 ⟨Nat.le_of_ble_eq_true rfl, Nat.le_of_ble_eq_true rfl⟩ (Nat.le_of_ble_eq_true rfl) dX11_next_238 (fun S75 v76 => ?_)
      refine cv_X11_110 (pc := 241) C  hl.1 ⟨Nat.le_of_ble_eq_true rfl, Nat.le_of_ble_eq_true rfl⟩ (Nat.le_of_ble_eq_true rfl) dX11_next_241 (fun S77 v78 => ?_)
      refine r_join (fun (j : St → Int32 → Option (St × Int32)) => ∀ (S80 : St) (v81 : Int32) (ls : Array Slot), lv_has ls 4 [(0, .ref (base + k0)), (1, .int v1), (2, .int v81), (3, .int v3)] → Sim p l e rm_X11_next s m args below meth c D cy base 0 0 (fun S1 r => MQ below (QcI D cy base tS S1 r) args s 0 0 (AA base)) (j S80 v81) S80 (F0 m 259 ls [])) ?_ (fun j79 hj79 => ?_)
      · intro S80 v81 ls hl
        refine r_iinc (pc := 259) C (k := 3) (1 : Int32) (fun v82 => [(3, .int v82), (0, .ref (base + k0)), (1, .int v1), (2, .int v81)]) dX11_next_259 hl rfl (by decide) (Nat.le_of_ble_eq_true rfl) (fun _ => rfl) (fun v82 ls hl => ?_)
        refine r_goto (pc := 262) C (tgt := 222) dX11_next_262 (by decide) ?_
        exact ih S80 v81 v82 _ (lv_sub hl [1, 2, 3, 0] rfl)
      refine r_if_ne (pc := 244) C (tgt := 250) dX11_next_244 (by decide) (fun _ => ?_) (fun _ => ?_)
      · refine r_iload_n (pc := 250) C dX11_next_250 rfl (lv_at hl 2 rfl) ?_
        refine r_if_ne (pc := 251) C (tgt := 256) dX11_next_251 (by decide) (fun _ => ?_) (fun _ => ?_)
        · refine r_iinc (pc := 256) C (k := 2) (-1 : Int32) (fun v83 => [(2, .int v83), (0, .ref (base + k0)), (1, .int v1), (3, .int v3)]) dX11_next_256 hl rfl (by decide) (Nat.le_of_ble_eq_true rfl) (fun _ => rfl) (fun v83 ls hl => ?_)
          exact hj79 S77 v83 _ (lv_sub hl [1, 2, 0, 3] rfl)
        · refine r_iload_n (pc := 254) C dX11_next_254 rfl (lv_at hl 3 rfl) ?_
          exact r_iret (pc := 255) C hr hk dX11_next_255
      · refine r_goto (pc := 247) C (tgt := 259) dX11_next_247 (by decide) ?_
        exact hj79 S77 v2 _ (lv_sub hl [0, 1, 2, 3] rfl)

set_option maxHeartbeats 4000000 in
set_option maxRecDepth 100000 in
theorem lp_X11_next_318 {p : Program} {l : Launch} {e : Env} {s : State} {m : MethodId} {args : Array Value} {below : List Frame} {meth : Method} {c : Code} {D : va_G} {cy : Nat → ClassId} {base tS : Nat} {ls : Array Slot} (C : Cx p rm_X11_next s m args c RX11 cX11_next 4 D cy base tS 0 0) (hr : meth.sig.returnType = (some .int)) (hk : meth.locks = false) {k0 : Nat} {v1 : Int32} {v2 : Int32} (t0 : cls k0 = 11) {K : St → Int32 → Option (St × Int32)} (hK : ∀ (S : St) (v3 : Int32) (ls : Array Slot), lv_has ls 4 [(0, .ref (base + k0)), (1, .int v1), (2, .int v2), (3, .int v3)] → Sim p l e rm_X11_next s m args below meth c D cy base 0 0 (fun S1 r => MQ below (QcI D cy base tS S1 r) args s 0 0 (AA base)) (K S v3) S (F0 m 346 ls [])) : ∀ (n : Nat) (S : St) (v3 : Int32) (ls : Array Slot), lv_has ls 4 [(0, .ref (base + k0)), (1, .int v1), (2, .int v2), (3, .int v3)] → Sim p l e rm_X11_next s m args below meth c D cy base 0 0 (fun S1 r => MQ below (QcI D cy base tS S1 r) args s 0 0 (AA base)) (X11_next_318 k0 v1 v2 K n S v3) S (F0 m 318 ls []) := by
  intro n
  induction n with
  | zero => intro S v3 ls hl; exact Sim.none
  | succ n ih =>
    intro S v3 ls hl
    rw [X11_next_318]
    refine r_iload_n (pc := 318) C dX11_next_318 rfl (lv_at hl 3 rfl) ?_
    refine r_aload_n (pc := 319) C dX11_next_319 rfl (lv_at hl 0 rfl) ?_
    refine gf_X11_131 (pc := 320) C t0 dX11_next_320 ?_
    refine r_icmp_ge (pc := 323) C (tgt := 346) dX11_next_323 (by decide) (fun _ => ?_) (fun _ => ?_)
    · exact hK S v3 _ (lv_sub hl [0, 1, 2, 3] rfl)
    · refine r_aload_n (pc := 326) C dX11_next_326 rfl (lv_at hl 0 rfl) ?_
      refine gf_X11_30 (pc := 327) C t0 dX11_next_327 ?_
      have t92 := ft_11_10 t0
      refine r_iload_n (pc := 330) C dX11_next_330 rfl (lv_at hl 3 rfl) ?_
      refine r_iconst (pc := 331) C (1 : Int32) dX11_next_331 (by decide) ?_
      refine r_isub (pc := 332) C dX11_next_332 ?_
      refine r_aload_n (pc := 333) C dX11_next_333 rfl (lv_at hl 0 rfl) ?_
      refine gf_X11_30 (pc := 334) C t0 dX11_next_334 ?_
      have t93 := ft_11_10 t0
      refine r_iload_n (pc := 337) C dX11_next_337 rfl (lv_at hl 3 rfl) ?_
      refine r_iald (pc := 338) C t93 dX11_next_338 ?_
      refine r_iast (pc := 339) C t92 dX11_next_339 (fun S94 => ?_)
      refine r_iinc (pc := 340) C (k := 3) (1 : Int32) (fun v95 => [(3, .int v95), (0, .ref (base + k0)), (1, .int v1), (2, .int v2)]) dX11_next_340 hl rfl (by decide) (Nat.le_of_ble_eq_true rfl) (fun _ => rfl) (fun v95 ls hl => ?_)
      refine r_goto (pc := 343) C (tgt := 318) dX11_next_343 (by decide) ?_
      exact ih S94 v95 _ (lv_sub hl [1, 2, 3, 0] rfl)

set_option maxHeartbeats 4000000 in
set_option maxRecDepth 100000 in
theorem lp_X11_next_280 {p : Program} {l : Launch} {e : Env} {s : State} {m : MethodId} {args : Array Value} {below : List Frame} {meth : Method} {c : Code} {D : va_G} {cy : Nat → ClassId} {base tS : Nat} {ls : Array Slot} (C : Cx p rm_X11_next s m args c RX11 cX11_next 4 D cy base tS 0 0) (hr : meth.sig.returnType = (some .int)) (hk : meth.locks = false) {k0 : Nat} {v1 : Int32} (t0 : cls k0 = 11) {K : St → Int32 → Option (St × Int32)} (hK : ∀ (S : St) (v2 : Int32) (ls : Array Slot), lv_has ls 4 [(0, .ref (base + k0)), (1, .int v1), (2, .int v2)] → Sim p l e rm_X11_next s m args below meth c D cy base 0 0 (fun S1 r => MQ below (QcI D cy base tS S1 r) args s 0 0 (AA base)) (K S v2) S (F0 m 301 ls [])) : ∀ (n : Nat) (S : St) (v2 : Int32) (ls : Array Slot), lv_has ls 4 [(0, .ref (base + k0)), (1, .int v1), (2, .int v2)] → Sim p l e rm_X11_next s m args below meth c D cy base 0 0 (fun S1 r => MQ below (QcI D cy base tS S1 r) args s 0 0 (AA base)) (X11_next_280 k0 v1 K n S v2) S (F0 m 280 ls []) := by
  intro n
  induction n with
  | zero => intro S v2 ls hl; exact Sim.none
  | succ n ih =>
    intro S v2 ls hl
    rw [X11_next_280]
    refine r_iload_n (pc := 280) C dX11_next_280 rfl (lv_at hl 2 rfl) ?_
    refine r_aload_n (pc := 281) C dX11_next_281 rfl (lv_at hl 0 rfl) ?_
    refine gf_X11_95 (pc := 282) C t0 dX11_next_282 ?_
    refine r_icmp_ge (pc := 285) C (tgt := 301) dX11_next_285 (by decide) (fun _ => ?_) (fun _ => ?_)
    · exact hK S v2 _ (lv_sub hl [0, 1, 2] rfl)
    · refine r_aload_n (pc := 288) C dX11_next_288 rfl (lv_at hl 0 rfl) ?_
      refine gf_X11_30 (pc := 289) C t0 dX11_next_289 ?_
      have t107 := ft_11_10 t0
      refine r_iload_n (pc := 292) C dX11_next_292 rfl (lv_at hl 2 rfl) ?_
      refine r_iload_n (pc := 293) C dX11_next_293 rfl (lv_at hl 2 rfl) ?_
      refine r_iast (pc := 294) C t107 dX11_next_294 (fun S108 => ?_)
      refine r_iinc (pc := 295) C (k := 2) (1 : Int32) (fun v109 => [(2, .int v109), (0, .ref (base + k0)), (1, .int v1)]) dX11_next_295 hl rfl (by decide) (Nat.le_of_ble_eq_true rfl) (fun _ => rfl) (fun v109 ls hl => ?_)
      refine r_goto (pc := 298) C (tgt := 280) dX11_next_298 (by decide) ?_
      exact ih S108 v109 _ (lv_sub hl [1, 2, 0] rfl)

set_option maxHeartbeats 4000000 in
set_option maxRecDepth 100000 in
theorem lp_X11_next_267 {p : Program} {l : Launch} {e : Env} {s : State} {m : MethodId} {args : Array Value} {below : List Frame} {meth : Method} {c : Code} {D : va_G} {cy : Nat → ClassId} {base tS : Nat} {ls : Array Slot} (C : Cx p rm_X11_next s m args c RX11 cX11_next 4 D cy base tS 0 0) (hr : meth.sig.returnType = (some .int)) (hk : meth.locks = false) {k0 : Nat} (t0 : cls k0 = 11) {K : St → Int32 → Option (St × Int32)} (hK : ∀ (S : St) (v1 : Int32) (ls : Array Slot), lv_has ls 4 [(0, .ref (base + k0)), (1, .int v1)] → Sim p l e rm_X11_next s m args below meth c D cy base 0 0 (fun S1 r => MQ below (QcI D cy base tS S1 r) args s 0 0 (AA base)) (K S v1) S (F0 m 378 ls [])) : ∀ (n : Nat) (S : St) (v1 : Int32) (ls : Array Slot), lv_has ls 4 [(0, .ref (base + k0)), (1, .int v1)] → Sim p l e rm_X11_next s m args below meth c D cy base 0 0 (fun S1 r => MQ below (QcI D cy base tS S1 r) args s 0 0 (AA base)) (X11_next_267 k0 K n S v1) S (F0 m 267 ls []) := by
  intro n
  induction n with
  | zero => intro S v1 ls hl; exact Sim.none
  | succ n ih =>
    intro S v1 ls hl
    rw [X11_next_267]
    refine r_iload_n (pc := 267) C dX11_next_267 rfl (lv_at hl 1 rfl) ?_
    refine r_if_ge (pc := 268) C (tgt := 378) dX11_next_268 (by decide) (fun _ => ?_) (fun _ => ?_)
    · exact hK S v1 _ (lv_sub hl [0, 1] rfl)
    · refine r_aload_n (pc := 271) C dX11_next_271 rfl (lv_at hl 0 rfl) ?_
      refine gf_X11_131 (pc := 272) C t0 dX11_next_272 ?_
      refine r_join (fun (j : St → Option (St × Int32)) => ∀ (S89 : St)  (ls : Array Slot), lv_has ls 4 [(0, .ref (base + k0)), (1, .int v1)] → Sim p l e rm_X11_next s m args below meth c D cy base 0 0 (fun S1 r => MQ below (QcI D cy base tS S1 r) args s 0 0 (AA base)) (j S89) S89 (F0 m 309 ls [])) ?_ (fun j88 hj88 => ?_)
      · intro S89 ls hl
        refine r_aload_n (pc := 309) C dX11_next_309 rfl (lv_at hl 0 rfl) ?_
        refine gf_X11_30 (pc := 310) C t0 dX11_next_310 ?_
        have t90 := ft_11_10 t0
        refine r_iconst (pc := 313) C (0 : Int32) dX11_next_313 (by decide) ?_
        refine r_iald (pc := 314) C t90 dX11_next_314 ?_
        refine r_topi (fun v91 => ?_)
        refine r_istore_n (lv2 := [(2, .int v91), (0, .ref (base + k0)), (1, .int v1)]) (pc := 315) C dX11_next_315 rfl hl (Nat.le_of_ble_eq_true rfl) rfl (fun ls hl => ?_)
        refine r_iconst (pc := 316) C (1 : Int32) dX11_next_316 (by decide) ?_
        refine r_istore_n (lv2 := [(3, .int (1 : Int32)), (2, .int v91), (0, .ref (base + k0)), (1, .int v1)]) (pc := 317) C dX11_next_317 rfl hl (Nat.le_of_ble_eq_true rfl) rfl (fun ls hl => ?_)
        refine lp_X11_next_318 (ls := ls) C hr hk t0 (fun S96 v97 ls hl => ?_) FU S89 (1 : Int32) _ (lv_sub hl [2, 3, 1, 0] rfl)
        refine r_aload_n (pc := 346) C dX11_next_346 rfl (lv_at hl 0 rfl) ?_
        refine r_dup (pc := 347) C dX11_next_347 rfl ?_
        refine gf_X11_131 (pc := 348) C t0 dX11_next_348 ?_
        refine r_iconst (pc := 351) C (1 : Int32) dX11_next_351 (by decide) ?_
        refine r_isub (pc := 352) C dX11_next_352 ?_
        refine pf_X11_131 (pc := 353) C t0 dX11_next_353 (fun S98 => ?_)
        refine r_aload_n (pc := 356) C dX11_next_356 rfl (lv_at hl 0 rfl) ?_
        refine gf_X11_16 (pc := 357) C t0 dX11_next_357 ?_
        have t99 := ft_11_4 t0
        refine r_iload_n (pc := 360) C dX11_next_360 rfl (lv_at hl 2 rfl) ?_
        refine r_lald (pc := 361) C t99 dX11_next_361 ?_
        refine r_aload_n (pc := 362) C dX11_next_362 rfl (lv_at hl 0 rfl) ?_
        refine r_iload_n (pc := 363) C dX11_next_363 rfl (lv_at hl 2 rfl) ?_
        refine cv_X11_106 (pc := 364) C t0 hl.1 ⟨Nat.le_of_ble_eq_true rfl, Nat.le_of_ble_eq_true rfl⟩ (Nat.le_of_ble_eq_true rfl) dX11_next_364 (fun S100 v101 => ?_)
        refine cv_X11_110 (pc := 367) C  hl.1 ⟨Nat.le_of_ble_eq_true rfl, Nat.le_of_ble_eq_true rfl⟩ (Nat.le_of_ble_eq_true rfl) dX11_next_367 (fun S102 v103 => ?_)
        refine r_join (fun (j : St → Int32 → Option (St × Int32)) => ∀ (S105 : St) (v106 : Int32) (ls : Array Slot), lv_has ls 4 [(0, .ref (base + k0)), (1, .int v106)] → Sim p l e rm_X11_next s m args below meth c D cy base 0 0 (fun S1 r => MQ below (QcI D cy base tS S1 r) args s 0 0 (AA base)) (j S105 v106) S105 (F0 m 375 ls [])) ?_ (fun j104 hj104 => ?_)
        · intro S105 v106 ls hl
          refine r_goto (pc := 375) C (tgt := 267) dX11_next_375 (by decide) ?_
          exact ih S105 v106 _ (lv_sub hl [0, 1] rfl)
        refine r_if_eq (pc := 370) C (tgt := 375) dX11_next_370 (by decide) (fun _ => ?_) (fun _ => ?_)
        · exact hj104 S102 v1 _ (lv_sub hl [0, 1] rfl)
        · refine r_iload_n (pc := 373) C dX11_next_373 rfl (lv_at hl 2 rfl) ?_
          refine r_istore_n (lv2 := [(1, .int v91), (0, .ref (base + k0)), (2, .int v91), (3, .int v97)]) (pc := 374) C dX11_next_374 rfl hl (Nat.le_of_ble_eq_true rfl) rfl (fun ls hl => ?_)
          exact hj104 S102 v91 _ (lv_sub hl [1, 0] rfl)
      refine r_if_ne (pc := 275) C (tgt := 309) dX11_next_275 (by decide) (fun _ => ?_) (fun _ => ?_)
      · exact hj88 S  _ (lv_sub hl [0, 1] rfl)
      · refine r_iconst (pc := 278) C (0 : Int32) dX11_next_278 (by decide) ?_
        refine r_istore_n (lv2 := [(2, .int (0 : Int32)), (0, .ref (base + k0)), (1, .int v1)]) (pc := 279) C dX11_next_279 rfl hl (Nat.le_of_ble_eq_true rfl) rfl (fun ls hl => ?_)
        refine lp_X11_next_280 (ls := ls) C hr hk t0 (fun S110 v111 ls hl => ?_) FU S (0 : Int32) _ (lv_sub hl [1, 2, 0] rfl)
        refine r_aload_n (pc := 301) C dX11_next_301 rfl (lv_at hl 0 rfl) ?_
        refine r_aload_n (pc := 302) C dX11_next_302 rfl (lv_at hl 0 rfl) ?_
        refine gf_X11_95 (pc := 303) C t0 dX11_next_303 ?_
        refine pf_X11_131 (pc := 306) C t0 dX11_next_306 (fun S112 => ?_)
        exact hj88 S112  _ (lv_sub hl [0, 1] rfl)

set_option maxHeartbeats 4000000 in
set_option maxRecDepth 100000 in
theorem sm_X11_next {p : Program} {l : Launch} {e : Env} {s : State} {m : MethodId} {args : Array Value} {below : List Frame} {meth : Method} {c : Code} {D : va_G} {cy : Nat → ClassId} {base tS : Nat} {S : St} {k0 : Nat} {ls : Array Slot} (C : Cx p rm_X11_next s m args c RX11 cX11_next 4 D cy base tS 0 0) (hr : meth.sig.returnType = (some .int)) (hk : meth.locks = false) (t0 : cls k0 = 11) (hl : lv_has ls 4 [(0, .ref (base + k0))]) : Sim p l e rm_X11_next s m args below meth c D cy base 0 0 (fun S1 r => MQ below (QcI D cy base tS S1 r) args s 0 0 (AA base)) (X11_next S k0) S (F0 m 0 ls []) := by
  unfold X11_next
  refine r_iconst (pc := 0) C (-1 : Int32) dX11_next_0 (by decide) ?_
  refine r_istore_n (lv2 := [(1, .int (-1 : Int32)), (0, .ref (base + k0))]) (pc := 1) C dX11_next_1 rfl hl (Nat.le_of_ble_eq_true rfl) rfl (fun ls hl => ?_)
  refine r_aload_n (pc := 2) C dX11_next_2 rfl (lv_at hl 1 rfl) ?_
  refine gf_X11_128 (pc := 3) C t0 dX11_next_3 ?_
  refine r_ite (fun h34 => ?_) (fun h34 => ?_)
  · refine r_tblIn (pc := 6) C (tgt := 36) (0 : Int32) h34 dX11_next_6 (by decide) (by decide) rfl (by decide) ?_
    refine r_aload_n (pc := 36) C dX11_next_36 rfl (lv_at hl 1 rfl) ?_
    refine gf_X11_95 (pc := 37) C t0 dX11_next_37 ?_
    refine r_iconst (pc := 40) C (1 : Int32) dX11_next_40 (by decide) ?_
    refine r_isub (pc := 41) C dX11_next_41 ?_
    refine r_topi (fun v21 => ?_)
    refine r_istore_n (lv2 := [(2, .int v21), (1, .int (-1 : Int32)), (0, .ref (base + k0))]) (pc := 42) C dX11_next_42 rfl hl (Nat.le_of_ble_eq_true rfl) rfl (fun ls hl => ?_)
    refine lp_X11_next_43 (ls := ls) C hr hk t0 (fun S31 v32 v33 ls hl => ?_) FU S (-1 : Int32) v21 _ (lv_sub hl [2, 1, 0] rfl)
    refine r_iload_n (pc := 72) C dX11_next_72 rfl (lv_at hl 1 rfl) ?_
    exact r_iret (pc := 73) C hr hk dX11_next_73
  refine r_ite (fun h51 => ?_) (fun h51 => ?_)
  · refine r_tblIn (pc := 6) C (tgt := 74) (1 : Int32) h51 dX11_next_6 (by decide) (by decide) rfl (by decide) ?_
    refine r_iconst (pc := 74) C (0 : Int32) dX11_next_74 (by decide) ?_
    refine r_istore_n (lv2 := [(2, .int (0 : Int32)), (1, .int (-1 : Int32)), (0, .ref (base + k0))]) (pc := 75) C dX11_next_75 rfl hl (Nat.le_of_ble_eq_true rfl) rfl (fun ls hl => ?_)
    refine lp_X11_next_76 (ls := ls) C hr hk t0 (fun S48 v49 v50 ls hl => ?_) FU S (-1 : Int32) (0 : Int32) _ (lv_sub hl [2, 1, 0] rfl)
    refine r_iload_n (pc := 129) C dX11_next_129 rfl (lv_at hl 1 rfl) ?_
    exact r_iret (pc := 130) C hr hk dX11_next_130
  refine r_ite (fun h69 => ?_) (fun h69 => ?_)
  · refine r_tblIn (pc := 6) C (tgt := 131) (2 : Int32) h69 dX11_next_6 (by decide) (by decide) rfl (by decide) ?_
    refine r_aload_n (pc := 131) C dX11_next_131 rfl (lv_at hl 1 rfl) ?_
    refine gf_X11_95 (pc := 132) C t0 dX11_next_132 ?_
    refine r_iconst (pc := 135) C (1 : Int32) dX11_next_135 (by decide) ?_
    refine r_isub (pc := 136) C dX11_next_136 ?_
    refine r_topi (fun v52 => ?_)
    refine r_istore_n (lv2 := [(2, .int v52), (1, .int (-1 : Int32)), (0, .ref (base + k0))]) (pc := 137) C dX11_next_137 rfl hl (Nat.le_of_ble_eq_true rfl) rfl (fun ls hl => ?_)
    refine lp_X11_next_138 (ls := ls) C hr hk t0 (fun S66 v67 v68 ls hl => ?_) FU S (-1 : Int32) v52 _ (lv_sub hl [2, 1, 0] rfl)
    refine r_iload_n (pc := 182) C dX11_next_182 rfl (lv_at hl 1 rfl) ?_
    exact r_iret (pc := 183) C hr hk dX11_next_183
  refine r_ite (fun h87 => ?_) (fun h87 => ?_)
  · refine r_tblIn (pc := 6) C (tgt := 184) (3 : Int32) h87 dX11_next_6 (by decide) (by decide) rfl (by decide) ?_
    refine r_aload_n (pc := 184) C dX11_next_184 rfl (lv_at hl 1 rfl) ?_
    refine r_aload_n (pc := 185) C dX11_next_185 rfl (lv_at hl 1 rfl) ?_
    refine gf_X11_23 (pc := 186) C t0 dX11_next_186 ?_
    refine r_ldc2 (pc := 189) C (1103515245 : Int64) wd_68 dX11_next_189 ?_
    refine r_lmul (pc := 192) C dX11_next_192 ?_
    refine r_ldc2 (pc := 193) C (12345 : Int64) wd_69 dX11_next_193 ?_
    refine r_ladd (pc := 196) C dX11_next_196 ?_
    refine r_ldc2 (pc := 197) C (2147483648 : Int64) wd_70 dX11_next_197 ?_
    refine r_lrem (pc := 200) C dX11_next_200 (fun _ => ?_)
    refine pf_X11_23 (pc := 201) C t0 dX11_next_201 (fun S70 => ?_)
    refine r_aload_n (pc := 204) C dX11_next_204 rfl (lv_at hl 1 rfl) ?_
    refine gf_X11_23 (pc := 205) C t0 dX11_next_205 ?_
    refine r_ldc2 (pc := 208) C (256 : Int64) wd_71 dX11_next_208 ?_
    refine r_ldiv (pc := 211) C dX11_next_211 (fun _ => ?_)
    refine r_aload_n (pc := 212) C dX11_next_212 rfl (lv_at hl 1 rfl) ?_
    refine cv_X11_151 (pc := 213) C t0 hl.1 ⟨Nat.le_of_ble_eq_true rfl, Nat.le_of_ble_eq_true rfl⟩ (Nat.le_of_ble_eq_true rfl) dX11_next_213 (fun S71 v72 => ?_)
    refine r_i2l (pc := 216) C dX11_next_216 ?_
    refine r_lrem (pc := 217) C dX11_next_217 (fun _ => ?_)
    refine r_l2i (pc := 218) C dX11_next_218 ?_
    refine r_topi (fun v73 => ?_)
    refine r_istore_n (lv2 := [(2, .int v73), (1, .int (-1 : Int32)), (0, .ref (base + k0))]) (pc := 219) C dX11_next_219 rfl hl (Nat.le_of_ble_eq_true rfl) rfl (fun ls hl => ?_)
    refine r_iconst (pc := 220) C (0 : Int32) dX11_next_220 (by decide) ?_
    refine r_istore_n (lv2 := [(3, .int (0 : Int32)), (2, .int v73), (1, .int (-1 : Int32)), (0, .ref (base + k0))]) (pc := 221) C dX11_next_221 rfl hl (Nat.le_of_ble_eq_true rfl) rfl (fun ls hl => ?_)
    refine lp_X11_next_222 (ls := ls) C hr hk t0 (fun S84 v85 v86 ls hl => ?_) FU S71 v73 (0 : Int32) _ (lv_sub hl [3, 2, 1, 0] rfl)
    refine r_iload_n (pc := 265) C dX11_next_265 rfl (lv_at hl 1 rfl) ?_
    exact r_iret (pc := 266) C hr hk dX11_next_266
  refine r_tblOut (pc := 6) C (tgt := 267) dX11_next_6 (by have g0 : ¬ (S.1 k0 6).toInt = 0 := i32ne h34; have g1 : ¬ (S.1 k0 6).toInt = 1 := i32ne h51; have g2 : ¬ (S.1 k0 6).toInt = 2 := i32ne h69; have g3 : ¬ (S.1 k0 6).toInt = 3 := i32ne h87; omega) (by decide) ?_
  refine lp_X11_next_267 (ls := ls) C hr hk t0 (fun S113 v114 ls hl => ?_) FU S (-1 : Int32) _ (lv_sub hl [1, 0] rfl)
  refine r_iload_n (pc := 378) C dX11_next_378 rfl (lv_at hl 1 rfl) ?_
  exact r_iret (pc := 379) C hr hk dX11_next_379

theorem ct_X11_next (l : Launch) {D : va_G} {cy : Nat → ClassId} {base tS : Nat} {S : St} {k0 : Nat} (t0 : cls k0 = 11) {S1 : St} {r1 : Int32} (h : X11_next S k0 = some (S1, r1)) : Met l yX11_next (wsY yX11_next cX11_next 4 (some .int)) rm_X11_next (va_Pc [.ref (base + k0)] (World D cy base tS S)) (QcI D cy base tS S1 r1) 0 0 (AA base) := conI rfl rfl (by decide) (Nat.le_of_ble_eq_true rfl) (fun p e s m args below meth c ls C hr hk hl => sm_X11_next C hr hk t0 hl) h
theorem cv_X11_183 {p : Program} {l : Launch} {e : Env} {R : Room} {s : State} {m : MethodId} {args : Array Value} {below : List Frame} {meth : Method} {c : Code} {D : va_G} {cy : Nat → ClassId} {base tS nc ns : Nat} {cc : ByteArray} {nL pc : Nat} {ls : Array Slot} {rest : List Value} {S : St} {ρ : Type} {Q : St → ρ → State → Prop} (C : Cx p R s m args c RX11 cc nL D cy base tS nc ns) {k0 : Nat} (t0 : cls k0 = 11) (hl : ls.size = nL) (hR : rm_X11_next.frames + 1 ≤ R.frames ∧ 8 + (4 + 11) + rm_X11_next.locals ≤ R.locals) {b : St → Int32 → Option (St × ρ)} (hroom : (rest.map fun v => v.category).sum ≤ 8) (hd : decode cc pc = .ok (.invokevirtual 183, 3)) (kk : ∀ (S1 : St) (r : Int32), Sim p l e R s m args below meth c D cy base nc ns Q (b S1 r) S1 (F0 m (pc + 3) ls (.int r :: rest))) : Sim p l e R s m args below meth c D cy base nc ns Q (bd (X11_next S k0) b) S (F0 m pc ls (.ref (base + k0) :: rest)) := r_callVI (n := 0) (As := []) C hl (rd_11 t0) (cls_lt t0 (by decide)) rfl (fun S1 r1 h => ct_X11_next l t0 h) wd_546 wd_547 wd_548 wd_497 wd_549 rfl rfl (by decide +kernel) hR rfl rfl hroom hd kk
