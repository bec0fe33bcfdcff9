abbrev rm_X11_many : Room := { frames := 2, cells := 0, slots := 0, locals := 45 }
set_option maxHeartbeats 4000000 in
set_option maxRecDepth 100000 in
theorem lp_X11_many_64 {p : Program} {l : Launch} {e : Env} {s : State} {m : MethodId} {args : Array Value} {below : List Frame} {meth : Method} {c : Code} {D : va_G} {cy : Nat → ClassId} {base tS : Nat} {ls : Array Slot} (C : Cx p rm_X11_many s m args c RX11 cX11_many 12 D cy base tS 0 0) (hr : meth.sig.returnType = (some .int)) (hk : meth.locks = false) {k0 : Nat} {v1 : Int32} {v2 : Int32} (t0 : cls k0 = 11) {K : St → Int32 → Option (St × Int32)} (hK : ∀ (S : St) (v3 : Int32) (ls : Array Slot), lv_has ls 12 [(0, .ref (base + k0)), (1, .int v1), (2, .int v2), (3, .int v3)] → Sim p l e rm_X11_many s m args below meth c D cy base 0 0 (fun S1 r => MQ below (QcI D cy base tS S1 r) args s 0 0 (AA base)) (K S v3) S (F0 m 116 ls [])) : ∀ (n : Nat) (S : St) (v3 : Int32) (ls : Array Slot), lv_has ls 12 [(0, .ref (base + k0)), (1, .int v1), (2, .int v2), (3, .int v3)] → Sim p l e rm_X11_many s m args below meth c D cy base 0 0 (fun S1 r => MQ below (QcI D cy base tS S1 r) args s 0 0 (AA base)) (X11_many_64 k0 v1 v2 K n S v3) S (F0 m 64 ls []) := by
  intro n
  induction n with
  | zero => intro S v3 ls hl; exact Sim.none
  | succ n ih =>
    intro S v3 ls hl
    rw [X11_many_64]
    refine r_iload_n (pc := 64) C dX11_many_64 rfl (lv_at hl 3 rfl) ?_
    refine r_aload_n (pc := 65) C dX11_many_65 rfl (lv_at hl 0 rfl) ?_
    refine gf_X11_95 (pc := 66) C t0 dX11_many_66 ?_
    refine r_icmp_ge (pc := 69) C (tgt := 116) dX11_many_69 (by decide) (fun _ => ?_) (fun _ => ?_)
    · exact hK S v3 _ (lv_sub hl [0, 1, 2, 3] rfl)
    · refine r_aload_n (pc := 72) C dX11_many_72 rfl (lv_at hl 0 rfl) ?_
      refine gf_X11_82 (pc := 73) C t0 dX11_many_73 ?_
      have t31 := ft_11_34 t0
      refine r_bipush (pc := 76) C (12 : Int32) dX11_many_76 (by decide) ?_
      refine r_iload_n (pc := 78) C dX11_many_78 rfl (lv_at hl 2 rfl) ?_
      refine r_imul (pc := 79) C dX11_many_79 ?_
      refine r_iload_n (pc := 80) C dX11_many_80 rfl (lv_at hl 3 rfl) ?_
      refine r_iadd (pc := 81) C dX11_many_81 ?_
      refine r_iload_n (pc := 82) C dX11_many_82 rfl (lv_at hl 2 rfl) ?_
      refine r_iload_n (pc := 83) C dX11_many_83 rfl (lv_at hl 3 rfl) ?_
      refine r_join (fun (j : St → Int32 → Option (St × Int32)) => ∀ (S33 : St) (v34 : Int32) (ls : Array Slot), lv_has ls 12 [(0, .ref (base + k0)), (1, .int v1), (2, .int v2), (3, .int v3)] → Sim p l e rm_X11_many s m args below meth c D cy base 0 0 (fun S1 r => MQ below (QcI D cy base tS S1 r) args s 0 0 (AA base)) (j S33 v34) S33 (F0 m 102 ls [.int v34, .int (((12 : Int32) * v2) + v3), .ref (base + (rf k0 34))])) ?_ (fun j32 hj32 => ?_)
      · intro S33 v34 ls hl
        refine r_iload_n (pc := 102) C dX11_many_102 rfl (lv_at hl 1 rfl) ?_
        refine r_irem (pc := 103) C dX11_many_103 (fun _ => ?_)
        refine r_iload_n (pc := 104) C dX11_many_104 rfl (lv_at hl 1 rfl) ?_
        refine r_iadd (pc := 105) C dX11_many_105 ?_
        refine r_iload_n (pc := 106) C dX11_many_106 rfl (lv_at hl 1 rfl) ?_
        refine r_irem (pc := 107) C dX11_many_107 (fun _ => ?_)
        refine r_i2l (pc := 108) C dX11_many_108 ?_
        refine r_last (pc := 109) C t31 dX11_many_109 (fun S35 => ?_)
        refine r_iinc (pc := 110) C (k := 3) (1 : Int32) (fun v36 => [(3, .int v36), (0, .ref (base + k0)), (1, .int v1), (2, .int v2)]) dX11_many_110 hl rfl (by decide) (Nat.le_of_ble_eq_true rfl) (fun _ => rfl) (fun v36 ls hl => ?_)
        refine r_goto (pc := 113) C (tgt := 64) dX11_many_113 (by decide) ?_
        exact ih S35 v36 _ (lv_sub hl [1, 2, 3, 0] rfl)
      refine r_icmp_ne (pc := 84) C (tgt := 95) dX11_many_84 (by decide) (fun _ => ?_) (fun _ => ?_)
      · refine r_aload_n (pc := 95) C dX11_many_95 rfl (lv_at hl 0 rfl) ?_
        refine r_iload_n (pc := 96) C dX11_many_96 rfl (lv_at hl 2 rfl) ?_
        refine r_iload_n (pc := 97) C dX11_many_97 rfl (lv_at hl 3 rfl) ?_
        refine cv_X11_102 (pc := 98) C t0 hl.1 ⟨Nat.le_of_ble_eq_true rfl, Nat.le_of_ble_eq_true rfl⟩ (Nat.le_of_ble_eq_true rfl) dX11_many_98 (fun S37 v38 => ?_)
        refine r_ineg (pc := 101) C dX11_many_101 ?_
        exact hj32 S37 (-v38) _ (lv_sub hl [0, 1, 2, 3] rfl)
      · refine r_aload_n (pc := 87) C dX11_many_87 rfl (lv_at hl 0 rfl) ?_
        refine r_iload_n (pc := 88) C dX11_many_88 rfl (lv_at hl 2 rfl) ?_
        refine cv_X11_106 (pc := 89) C t0 hl.1 ⟨Nat.le_of_ble_eq_true rfl, Nat.le_of_ble_eq_true rfl⟩ (Nat.le_of_ble_eq_true rfl) dX11_many_89 (fun S39 v40 => ?_)
        refine r_goto (pc := 92) C (tgt := 102) dX11_many_92 (by decide) ?_
        exact hj32 S39 v40 _ (lv_sub hl [0, 1, 2, 3] rfl)

set_option maxHeartbeats 4000000 in
set_option maxRecDepth 100000 in
theorem lp_X11_many_54 {p : Program} {l : Launch} {e : Env} {s : State} {m : MethodId} {args : Array Value} {below : List Frame} {meth : Method} {c : Code} {D : va_G} {cy : Nat → ClassId} {base tS : Nat} {ls : Array Slot} (C : Cx p rm_X11_many s m args c RX11 cX11_many 12 D cy base tS 0 0) (hr : meth.sig.returnType = (some .int)) (hk : meth.locks = false) {k0 : Nat} {v1 : Int32} (t0 : cls k0 = 11) {K : St → Int32 → Option (St × Int32)} (hK : ∀ (S : St) (v2 : Int32) (ls : Array Slot), lv_has ls 12 [(0, .ref (base + k0)), (1, .int v1), (2, .int v2)] → Sim p l e rm_X11_many s m args below meth c D cy base 0 0 (fun S1 r => MQ below (QcI D cy base tS S1 r) args s 0 0 (AA base)) (K S v2) S (F0 m 122 ls [])) : ∀ (n : Nat) (S : St) (v2 : Int32) (ls : Array Slot), lv_has ls 12 [(0, .ref (base + k0)), (1, .int v1), (2, .int v2)] → Sim p l e rm_X11_many s m args below meth c D cy base 0 0 (fun S1 r => MQ below (QcI D cy base tS S1 r) args s 0 0 (AA base)) (X11_many_54 k0 v1 K n S v2) S (F0 m 54 ls []) := by
  intro n
  induction n with
  | zero => intro S v2 ls hl; exact Sim.none
  | succ n ih =>
    intro S v2 ls hl
    rw [X11_many_54]
    refine r_iload_n (pc := 54) C dX11_many_54 rfl (lv_at hl 2 rfl) ?_
    refine r_aload_n (pc := 55) C dX11_many_55 rfl (lv_at hl 0 rfl) ?_
    refine gf_X11_95 (pc := 56) C t0 dX11_many_56 ?_
    refine r_icmp_ge (pc := 59) C (tgt := 122) dX11_many_59 (by decide) (fun _ => ?_) (fun _ => ?_)
    · exact hK S v2 _ (lv_sub hl [0, 1, 2] rfl)
    · refine r_iconst (pc := 62) C (0 : Int32) dX11_many_62 (by decide) ?_
      refine r_istore_n (lv2 := [(3, .int (0 : Int32)), (0, .ref (base + k0)), (1, .int v1), (2, .int v2)]) (pc := 63) C dX11_many_63 rfl hl (Nat.le_of_ble_eq_true rfl) rfl (fun ls hl => ?_)
      refine lp_X11_many_64 (ls := ls) C hr hk t0 (fun S41 v42 ls hl => ?_) FU S (0 : Int32) _ (lv_sub hl [1, 2, 3, 0] rfl)
      refine r_iinc (pc := 116) C (k := 2) (1 : Int32) (fun v43 => [(2, .int v43), (0, .ref (base + k0)), (1, .int v1), (3, .int v42)]) dX11_many_116 hl rfl (by decide) (Nat.le_of_ble_eq_true rfl) (fun _ => rfl) (fun v43 ls hl => ?_)
      refine r_goto (pc := 119) C (tgt := 54) dX11_many_119 (by decide) ?_
      exact ih S41 v43 _ (lv_sub hl [1, 2, 0] rfl)

set_option maxHeartbeats 4000000 in
set_option maxRecDepth 100000 in
theorem lp_X11_many_140 {p : Program} {l : Launch} {e : Env} {s : State} {m : MethodId} {args : Array Value} {below : List Frame} {meth : Method} {c : Code} {D : va_G} {cy : Nat → ClassId} {base tS : Nat} {ls : Array Slot} (C : Cx p rm_X11_many s m args c RX11 cX11_many 12 D cy base tS 0 0) (hr : meth.sig.returnType = (some .int)) (hk : meth.locks = false) {k0 : Nat} {v1 : Int32} {v2 : Int64} {v4 : Int32} (t0 : cls k0 = 11) {K : St → Int32 → Option (St × Int32)} (hK : ∀ (S : St) (v5 : Int32) (ls : Array Slot), lv_has ls 12 [(0, .ref (base + k0)), (1, .int v1), (2, .long v2), (4, .int v4), (5, .int v5)] → Sim p l e rm_X11_many s m args below meth c D cy base 0 0 (fun S1 r => MQ below (QcI D cy base tS S1 r) args s 0 0 (AA base)) (K S v5) S (F0 m 173 ls [])) : ∀ (n : Nat) (S : St) (v5 : Int32) (ls : Array Slot), lv_has ls 12 [(0, .ref (base + k0)), (1, .int v1), (2, .long v2), (4, .int v4), (5, .int v5)] → Sim p l e rm_X11_many s m args below meth c D cy base 0 0 (fun S1 r => MQ below (QcI D cy base tS S1 r) args s 0 0 (AA base)) (X11_many_140 k0 v1 v2 v4 K n S v5) S (F0 m 140 ls []) := by
  intro n
  induction n with
  | zero => intro S v5 ls hl; exact Sim.none
  | succ n ih =>
    intro S v5 ls hl
    rw [X11_many_140]
    refine r_iload (pc := 140) C dX11_many_140 (lv_at hl 4 rfl) ?_
    refine r_aload_n (pc := 142) C dX11_many_142 rfl (lv_at hl 0 rfl) ?_
    refine gf_X11_95 (pc := 143) C t0 dX11_many_143 ?_
    refine r_icmp_ge (pc := 146) C (tgt := 173) dX11_many_146 (by decide) (fun _ => ?_) (fun _ => ?_)
    · exact hK S v5 _ (lv_sub hl [0, 1, 2, 3, 4] rfl)
    · refine r_aload_n (pc := 149) C dX11_many_149 rfl (lv_at hl 0 rfl) ?_
      refine gf_X11_82 (pc := 150) C t0 dX11_many_150 ?_
      have t46 := ft_11_34 t0
      refine r_bipush (pc := 153) C (12 : Int32) dX11_many_153 (by decide) ?_
      refine r_iload (pc := 155) C dX11_many_155 (lv_at hl 4 rfl) ?_
      refine r_imul (pc := 157) C dX11_many_157 ?_
      refine r_iload (pc := 158) C dX11_many_158 (lv_at hl 3 rfl) ?_
      refine r_iadd (pc := 160) C dX11_many_160 ?_
      refine r_lald (pc := 161) C t46 dX11_many_161 ?_
      refine r_lconst (pc := 162) C (0 : Int64) dX11_many_162 (by decide) ?_
      refine r_lcmp_ne (pc := 163) C (tgt := 173) dX11_many_163 dX11_many_164 (by decide) (fun _ => ?_) (fun _ => ?_)
      · exact hK S v5 _ (lv_sub hl [0, 1, 2, 3, 4] rfl)
      · refine r_iinc (pc := 167) C (k := 4) (1 : Int32) (fun v47 => [(5, .int v47), (0, .ref (base + k0)), (1, .int v1), (2, .long v2), (4, .int v4)]) dX11_many_167 hl rfl (by decide) (Nat.le_of_ble_eq_true rfl) (fun _ => rfl) (fun v47 ls hl => ?_)
        refine r_goto (pc := 170) C (tgt := 140) dX11_many_170 (by decide) ?_
        exact ih S v47 _ (lv_sub hl [1, 2, 3, 4, 0] rfl)

set_option maxHeartbeats 4000000 in
set_option maxRecDepth 100000 in
theorem lp_X11_many_202 {p : Program} {l : Launch} {e : Env} {s : State} {m : MethodId} {args : Array Value} {below : List Frame} {meth : Method} {c : Code} {D : va_G} {cy : Nat → ClassId} {base tS : Nat} {ls : Array Slot} (C : Cx p rm_X11_many s m args c RX11 cX11_many 12 D cy base tS 0 0) (hr : meth.sig.returnType = (some .int)) (hk : meth.locks = false) {k0 : Nat} {v1 : Int32} {v2 : Int64} {v4 : Int32} {v5 : Int32} (t0 : cls k0 = 11) {K : St → Int32 → Option (St × Int32)} (hK : ∀ (S : St) (v6 : Int32) (ls : Array Slot), lv_has ls 12 [(0, .ref (base + k0)), (1, .int v1), (2, .long v2), (4, .int v4), (5, .int v5), (6, .int v6)] → Sim p l e rm_X11_many s m args below meth c D cy base 0 0 (fun S1 r => MQ below (QcI D cy base tS S1 r) args s 0 0 (AA base)) (K S v6) S (F0 m 273 ls [])) : ∀ (n : Nat) (S : St) (v6 : Int32) (ls : Array Slot), lv_has ls 12 [(0, .ref (base + k0)), (1, .int v1), (2, .long v2), (4, .int v4), (5, .int v5), (6, .int v6)] → Sim p l e rm_X11_many s m args below meth c D cy base 0 0 (fun S1 r => MQ below (QcI D cy base tS S1 r) args s 0 0 (AA base)) (X11_many_202 k0 v1 v2 v4 v5 K n S v6) S (F0 m 202 ls []) := by
  intro n
  induction n with
  | zero => intro S v6 ls hl; exact Sim.none
  | succ n ih =>
    intro S v6 ls hl
    rw [X11_many_202]
    refine r_iload (pc := 202) C dX11_many_202 (lv_at hl 5 rfl) ?_
    refine r_aload_n (pc := 204) C dX11_many_204 rfl (lv_at hl 0 rfl) ?_
    refine gf_X11_95 (pc := 205) C t0 dX11_many_205 ?_
    refine r_icmp_ge (pc := 208) C (tgt := 273) dX11_many_208 (by decide) (fun _ => ?_) (fun _ => ?_)
    · exact hK S v6 _ (lv_sub hl [0, 1, 2, 3, 4, 5] rfl)
    · refine r_aload_n (pc := 211) C dX11_many_211 rfl (lv_at hl 0 rfl) ?_
      refine gf_X11_82 (pc := 212) C t0 dX11_many_212 ?_
      have t53 := ft_11_34 t0
      refine r_bipush (pc := 215) C (12 : Int32) dX11_many_215 (by decide) ?_
      refine r_iload (pc := 217) C dX11_many_217 (lv_at hl 4 rfl) ?_
      refine r_imul (pc := 219) C dX11_many_219 ?_
      refine r_iload (pc := 220) C dX11_many_220 (lv_at hl 5 rfl) ?_
      refine r_iadd (pc := 222) C dX11_many_222 ?_
      refine r_lald (pc := 223) C t53 dX11_many_223 ?_
      refine r_topl (fun v54 => ?_)
      refine r_lstore (lv2 := [(7, .long v54), (0, .ref (base + k0)), (1, .int v1), (2, .long v2), (4, .int v4), (5, .int v5), (6, .int v6)]) (pc := 224) C dX11_many_224 hl (Nat.le_of_ble_eq_true rfl) rfl (fun ls hl => ?_)
      refine r_aload_n (pc := 226) C dX11_many_226 rfl (lv_at hl 1 rfl) ?_
      refine gf_X11_82 (pc := 227) C t0 dX11_many_227 ?_
      have t55 := ft_11_34 t0
      refine r_bipush (pc := 230) C (12 : Int32) dX11_many_230 (by decide) ?_
      refine r_iload (pc := 232) C dX11_many_232 (lv_at hl 5 rfl) ?_
      refine r_imul (pc := 234) C dX11_many_234 ?_
      refine r_iload (pc := 235) C dX11_many_235 (lv_at hl 6 rfl) ?_
      refine r_iadd (pc := 237) C dX11_many_237 ?_
      refine r_aload_n (pc := 238) C dX11_many_238 rfl (lv_at hl 1 rfl) ?_
      refine gf_X11_82 (pc := 239) C t0 dX11_many_239 ?_
      have t56 := ft_11_34 t0
      refine r_bipush (pc := 242) C (12 : Int32) dX11_many_242 (by decide) ?_
      refine r_iload (pc := 244) C dX11_many_244 (lv_at hl 4 rfl) ?_
      refine r_imul (pc := 246) C dX11_many_246 ?_
      refine r_iload (pc := 247) C dX11_many_247 (lv_at hl 6 rfl) ?_
      refine r_iadd (pc := 249) C dX11_many_249 ?_
      refine r_lald (pc := 250) C t56 dX11_many_250 ?_
      refine r_last (pc := 251) C t55 dX11_many_251 (fun S57 => ?_)
      refine r_aload_n (pc := 252) C dX11_many_252 rfl (lv_at hl 1 rfl) ?_
      refine gf_X11_82 (pc := 253) C t0 dX11_many_253 ?_
      have t58 := ft_11_34 t0
      refine r_bipush (pc := 256) C (12 : Int32) dX11_many_256 (by decide) ?_
      refine r_iload (pc := 258) C dX11_many_258 (lv_at hl 4 rfl) ?_
      refine r_imul (pc := 260) C dX11_many_260 ?_
      refine r_iload (pc := 261) C dX11_many_261 (lv_at hl 6 rfl) ?_
      refine r_iadd (pc := 263) C dX11_many_263 ?_
      refine r_lload (pc := 264) C dX11_many_264 (lv_at hl 0 rfl) ?_
      refine r_last (pc := 266) C t58 dX11_many_266 (fun S59 => ?_)
      refine r_iinc (pc := 267) C (k := 6) (1 : Int32) (fun v60 => [(6, .int v60), (7, .long v54), (0, .ref (base + k0)), (1, .int v1), (2, .long v2), (4, .int v4), (5, .int v5)]) dX11_many_267 hl rfl (by decide) (Nat.le_of_ble_eq_true rfl) (fun _ => rfl) (fun v60 ls hl => ?_)
      refine r_goto (pc := 270) C (tgt := 202) dX11_many_270 (by decide) ?_
      exact ih S59 v60 _ (lv_sub hl [2, 3, 4, 5, 6, 0] rfl)

set_option maxHeartbeats 4000000 in
set_option maxRecDepth 100000 in
theorem lp_X11_many_295 {p : Program} {l : Launch} {e : Env} {s : State} {m : MethodId} {args : Array Value} {below : List Frame} {meth : Method} {c : Code} {D : va_G} {cy : Nat → ClassId} {base tS : Nat} {ls : Array Slot} (C : Cx p rm_X11_many s m args c RX11 cX11_many 12 D cy base tS 0 0) (hr : meth.sig.returnType = (some .int)) (hk : meth.locks = false) {k0 : Nat} {v1 : Int32} {v2 : Int64} {v4 : Int32} (t0 : cls k0 = 11) {K : St → Int64 → Option (St × Int32)} (hK : ∀ (S : St) (v6 : Int64) (ls : Array Slot), lv_has ls 12 [(0, .ref (base + k0)), (1, .int v1), (2, .long v2), (4, .int v4), (6, .long v6)] → Sim p l e rm_X11_many s m args below meth c D cy base 0 0 (fun S1 r => MQ below (QcI D cy base tS S1 r) args s 0 0 (AA base)) (K S v6) S (F0 m 328 ls [])) : ∀ (n : Nat) (S : St) (v6 : Int64) (ls : Array Slot), lv_has ls 12 [(0, .ref (base + k0)), (1, .int v1), (2, .long v2), (4, .int v4), (6, .long v6)] → Sim p l e rm_X11_many s m args below meth c D cy base 0 0 (fun S1 r => MQ below (QcI D cy base tS S1 r) args s 0 0 (AA base)) (X11_many_295 k0 v1 v2 v4 K n S v6) S (F0 m 295 ls []) := by
  intro n
  induction n with
  | zero => intro S v6 ls hl; exact Sim.none
  | succ n ih =>
    intro S v6 ls hl
    rw [X11_many_295]
    refine r_lload (pc := 295) C dX11_many_295 (lv_at hl 4 rfl) ?_
    refine r_aload_n (pc := 297) C dX11_many_297 rfl (lv_at hl 0 rfl) ?_
    refine gf_X11_82 (pc := 298) C t0 dX11_many_298 ?_
    have t65 := ft_11_34 t0
    refine r_bipush (pc := 301) C (12 : Int32) dX11_many_301 (by decide) ?_
    refine r_iload (pc := 303) C dX11_many_303 (lv_at hl 3 rfl) ?_
    refine r_imul (pc := 305) C dX11_many_305 ?_
    refine r_iload (pc := 306) C dX11_many_306 (lv_at hl 3 rfl) ?_
    refine r_iadd (pc := 308) C dX11_many_308 ?_
    refine r_lald (pc := 309) C t65 dX11_many_309 ?_
    refine r_lmul (pc := 310) C dX11_many_310 ?_
    refine r_iload_n (pc := 311) C dX11_many_311 rfl (lv_at hl 1 rfl) ?_
    refine r_i2l (pc := 312) C dX11_many_312 ?_
    refine r_lrem (pc := 313) C dX11_many_313 (fun _ => ?_)
    refine r_lconst (pc := 314) C (1 : Int64) dX11_many_314 (by decide) ?_
    refine r_lcmp_eq (pc := 315) C (tgt := 328) dX11_many_315 dX11_many_316 (by decide) (fun _ => ?_) (fun _ => ?_)
    · exact hK S v6 _ (lv_sub hl [0, 1, 2, 3, 4] rfl)
    · refine r_lload (pc := 319) C dX11_many_319 (lv_at hl 4 rfl) ?_
      refine r_lconst (pc := 321) C (1 : Int64) dX11_many_321 (by decide) ?_
      refine r_ladd (pc := 322) C dX11_many_322 ?_
      refine r_topl (fun v66 => ?_)
      refine r_lstore (lv2 := [(6, .long v66), (0, .ref (base + k0)), (1, .int v1), (2, .long v2), (4, .int v4)]) (pc := 323) C dX11_many_323 hl (Nat.le_of_ble_eq_true rfl) rfl (fun ls hl => ?_)
      refine r_goto (pc := 325) C (tgt := 295) dX11_many_325 (by decide) ?_
      exact ih S v66 _ (lv_sub hl [1, 2, 3, 4, 0] rfl)

set_option maxHeartbeats 4000000 in
set_option maxRecDepth 100000 in
theorem lp_X11_many_368 {p : Program} {l : Launch} {e : Env} {s : State} {m : MethodId} {args : Array Value} {below : List Frame} {meth : Method} {c : Code} {D : va_G} {cy : Nat → ClassId} {base tS : Nat} {ls : Array Slot} (C : Cx p rm_X11_many s m args c RX11 cX11_many 12 D cy base tS 0 0) (hr : meth.sig.returnType = (some .int)) (hk : meth.locks = false) {k0 : Nat} {v1 : Int32} {v2 : Int64} {v4 : Int32} {v6 : Int64} {v8 : Int32} {v9 : Int64} (t0 : cls k0 = 11) {K : St → Int32 → Option (St × Int32)} (hK : ∀ (S : St) (v11 : Int32) (ls : Array Slot), lv_has ls 12 [(0, .ref (base + k0)), (1, .int v1), (2, .long v2), (4, .int v4), (6, .long v6), (8, .int v8), (9, .long v9), (11, .int v11)] → Sim p l e rm_X11_many s m args below meth c D cy base 0 0 (fun S1 r => MQ below (QcI D cy base tS S1 r) args s 0 0 (AA base)) (K S v11) S (F0 m 432 ls [])) : ∀ (n : Nat) (S : St) (v11 : Int32) (ls : Array Slot), lv_has ls 12 [(0, .ref (base + k0)), (1, .int v1), (2, .long v2), (4, .int v4), (6, .long v6), (8, .int v8), (9, .long v9), (11, .int v11)] → Sim p l e rm_X11_many s m args below meth c D cy base 0 0 (fun S1 r => MQ below (QcI D cy base tS S1 r) args s 0 0 (AA base)) (X11_many_368 k0 v1 v2 v4 v6 v8 v9 K n S v11) S (F0 m 368 ls []) := by
  intro n
  induction n with
  | zero => intro S v11 ls hl; exact Sim.none
  | succ n ih =>
    intro S v11 ls hl
    rw [X11_many_368]
    refine r_iload (pc := 368) C dX11_many_368 (lv_at hl 7 rfl) ?_
    refine r_aload_n (pc := 370) C dX11_many_370 rfl (lv_at hl 0 rfl) ?_
    refine gf_X11_95 (pc := 371) C t0 dX11_many_371 ?_
    refine r_icmp_ge (pc := 374) C (tgt := 432) dX11_many_374 (by decide) (fun _ => ?_) (fun _ => ?_)
    · exact hK S v11 _ (lv_sub hl [0, 1, 2, 3, 4, 5, 6, 7] rfl)
    · refine r_aload_n (pc := 377) C dX11_many_377 rfl (lv_at hl 0 rfl) ?_
      refine gf_X11_82 (pc := 378) C t0 dX11_many_378 ?_
      have t72 := ft_11_34 t0
      refine r_bipush (pc := 381) C (12 : Int32) dX11_many_381 (by decide) ?_
      refine r_iload (pc := 383) C dX11_many_383 (lv_at hl 5 rfl) ?_
      refine r_imul (pc := 385) C dX11_many_385 ?_
      refine r_iload (pc := 386) C dX11_many_386 (lv_at hl 7 rfl) ?_
      refine r_iadd (pc := 388) C dX11_many_388 ?_
      refine r_aload_n (pc := 389) C dX11_many_389 rfl (lv_at hl 0 rfl) ?_
      refine gf_X11_82 (pc := 390) C t0 dX11_many_390 ?_
      have t73 := ft_11_34 t0
      refine r_bipush (pc := 393) C (12 : Int32) dX11_many_393 (by decide) ?_
      refine r_iload (pc := 395) C dX11_many_395 (lv_at hl 5 rfl) ?_
      refine r_imul (pc := 397) C dX11_many_397 ?_
      refine r_iload (pc := 398) C dX11_many_398 (lv_at hl 7 rfl) ?_
      refine r_iadd (pc := 400) C dX11_many_400 ?_
      refine r_lald (pc := 401) C t73 dX11_many_401 ?_
      refine r_iload_n (pc := 402) C dX11_many_402 rfl (lv_at hl 1 rfl) ?_
      refine r_i2l (pc := 403) C dX11_many_403 ?_
      refine r_lload (pc := 404) C dX11_many_404 (lv_at hl 6 rfl) ?_
      refine r_lsub (pc := 406) C dX11_many_406 ?_
      refine r_aload_n (pc := 407) C dX11_many_407 rfl (lv_at hl 0 rfl) ?_
      refine gf_X11_82 (pc := 408) C t0 dX11_many_408 ?_
      have t74 := ft_11_34 t0
      refine r_bipush (pc := 411) C (12 : Int32) dX11_many_411 (by decide) ?_
      refine r_iload (pc := 413) C dX11_many_413 (lv_at hl 3 rfl) ?_
      refine r_imul (pc := 415) C dX11_many_415 ?_
      refine r_iload (pc := 416) C dX11_many_416 (lv_at hl 7 rfl) ?_
      refine r_iadd (pc := 418) C dX11_many_418 ?_
      refine r_lald (pc := 419) C t74 dX11_many_419 ?_
      refine r_lmul (pc := 420) C dX11_many_420 ?_
      refine r_ladd (pc := 421) C dX11_many_421 ?_
      refine r_iload_n (pc := 422) C dX11_many_422 rfl (lv_at hl 1 rfl) ?_
      refine r_i2l (pc := 423) C dX11_many_423 ?_
      refine r_lrem (pc := 424) C dX11_many_424 (fun _ => ?_)
      refine r_last (pc := 425) C t72 dX11_many_425 (fun S75 => ?_)
      refine r_iinc (pc := 426) C (k := 7) (1 : Int32) (fun v76 => [(11, .int v76), (0, .ref (base + k0)), (1, .int v1), (2, .long v2), (4, .int v4), (6, .long v6), (8, .int v8), (9, .long v9)]) dX11_many_426 hl rfl (by decide) (Nat.le_of_ble_eq_true rfl) (fun _ => rfl) (fun v76 ls hl => ?_)
      refine r_goto (pc := 429) C (tgt := 368) dX11_many_429 (by decide) ?_
      exact ih S75 v76 _ (lv_sub hl [1, 2, 3, 4, 5, 6, 7, 0] rfl)

set_option maxHeartbeats 4000000 in
set_option maxRecDepth 100000 in
theorem lp_X11_many_334 {p : Program} {l : Launch} {e : Env} {s : State} {m : MethodId} {args : Array Value} {below : List Frame} {meth : Method} {c : Code} {D : va_G} {cy : Nat → ClassId} {base tS : Nat} {ls : Array Slot} (C : Cx p rm_X11_many s m args c RX11 cX11_many 12 D cy base tS 0 0) (hr : meth.sig.returnType = (some .int)) (hk : meth.locks = false) {k0 : Nat} {v1 : Int32} {v2 : Int64} {v4 : Int32} {v6 : Int64} (t0 : cls k0 = 11) {K : St → Int32 → Option (St × Int32)} (hK : ∀ (S : St) (v8 : Int32) (ls : Array Slot), lv_has ls 12 [(0, .ref (base + k0)), (1, .int v1), (2, .long v2), (4, .int v4), (6, .long v6), (8, .int v8)] → Sim p l e rm_X11_many s m args below meth c D cy base 0 0 (fun S1 r => MQ below (QcI D cy base tS S1 r) args s 0 0 (AA base)) (K S v8) S (F0 m 438 ls [])) : ∀ (n : Nat) (S : St) (v8 : Int32) (ls : Array Slot), lv_has ls 12 [(0, .ref (base + k0)), (1, .int v1), (2, .long v2), (4, .int v4), (6, .long v6), (8, .int v8)] → Sim p l e rm_X11_many s m args below meth c D cy base 0 0 (fun S1 r => MQ below (QcI D cy base tS S1 r) args s 0 0 (AA base)) (X11_many_334 k0 v1 v2 v4 v6 K n S v8) S (F0 m 334 ls []) := by
  intro n
  induction n with
  | zero => intro S v8 ls hl; exact Sim.none
  | succ n ih =>
    intro S v8 ls hl
    rw [X11_many_334]
    refine r_iload (pc := 334) C dX11_many_334 (lv_at hl 5 rfl) ?_
    refine r_aload_n (pc := 336) C dX11_many_336 rfl (lv_at hl 0 rfl) ?_
    refine gf_X11_95 (pc := 337) C t0 dX11_many_337 ?_
    refine r_icmp_ge (pc := 340) C (tgt := 438) dX11_many_340 (by decide) (fun _ => ?_) (fun _ => ?_)
    · exact hK S v8 _ (lv_sub hl [0, 1, 2, 3, 4, 5] rfl)
    · refine r_aload_n (pc := 343) C dX11_many_343 rfl (lv_at hl 0 rfl) ?_
      refine gf_X11_82 (pc := 344) C t0 dX11_many_344 ?_
      have t70 := ft_11_34 t0
      refine r_bipush (pc := 347) C (12 : Int32) dX11_many_347 (by decide) ?_
      refine r_iload (pc := 349) C dX11_many_349 (lv_at hl 5 rfl) ?_
      refine r_imul (pc := 351) C dX11_many_351 ?_
      refine r_iload (pc := 352) C dX11_many_352 (lv_at hl 3 rfl) ?_
      refine r_iadd (pc := 354) C dX11_many_354 ?_
      refine r_lald (pc := 355) C t70 dX11_many_355 ?_
      refine r_lload (pc := 356) C dX11_many_356 (lv_at hl 4 rfl) ?_
      refine r_lmul (pc := 358) C dX11_many_358 ?_
      refine r_iload_n (pc := 359) C dX11_many_359 rfl (lv_at hl 1 rfl) ?_
      refine r_i2l (pc := 360) C dX11_many_360 ?_
      refine r_lrem (pc := 361) C dX11_many_361 (fun _ => ?_)
      refine r_topl (fun v71 => ?_)
      refine r_lstore (lv2 := [(9, .long v71), (0, .ref (base + k0)), (1, .int v1), (2, .long v2), (4, .int v4), (6, .long v6), (8, .int v8)]) (pc := 362) C dX11_many_362 hl (Nat.le_of_ble_eq_true rfl) rfl (fun ls hl => ?_)
      refine r_iload (pc := 364) C dX11_many_364 (lv_at hl 4 rfl) ?_
      refine r_istore (lv2 := [(11, .int v4), (9, .long v71), (0, .ref (base + k0)), (1, .int v1), (2, .long v2), (4, .int v4), (6, .long v6), (8, .int v8)]) (pc := 366) C dX11_many_366 hl (Nat.le_of_ble_eq_true rfl) rfl (fun ls hl => ?_)
      refine lp_X11_many_368 (ls := ls) C hr hk t0 (fun S77 v78 ls hl => ?_) FU S v4 _ (lv_sub hl [2, 3, 4, 5, 6, 7, 1, 0] rfl)
      refine r_iinc (pc := 432) C (k := 5) (1 : Int32) (fun v79 => [(8, .int v79), (0, .ref (base + k0)), (1, .int v1), (2, .long v2), (4, .int v4), (6, .long v6), (9, .long v71), (11, .int v78)]) dX11_many_432 hl rfl (by decide) (Nat.le_of_ble_eq_true rfl) (fun _ => rfl) (fun v79 ls hl => ?_)
      refine r_goto (pc := 435) C (tgt := 334) dX11_many_435 (by decide) ?_
      exact ih S77 v79 _ (lv_sub hl [1, 2, 3, 4, 5, 0] rfl)

set_option maxHeartbeats 4000000 in
set_option maxRecDepth 100000 in
theorem lp_X11_many_127 {p : Program} {l : Launch} {e : Env} {s : State} {m : MethodId} {args : Array Value} {below : List Frame} {meth : Method} {c : Code} {D : va_G} {cy : Nat → ClassId} {base tS : Nat} {ls : Array Slot} (C : Cx p rm_X11_many s m args c RX11 cX11_many 12 D cy base tS 0 0) (hr : meth.sig.returnType = (some .int)) (hk : meth.locks = false) {k0 : Nat} {v1 : Int32} (t0 : cls k0 = 11) {K : St → Int64 → Int32 → Option (St × Int32)} (hK : ∀ (S : St) (v2 : Int64) (v4 : Int32) (ls : Array Slot), lv_has ls 12 [(0, .ref (base + k0)), (1, .int v1), (2, .long v2), (4, .int v4)] → Sim p l e rm_X11_many s m args below meth c D cy base 0 0 (fun S1 r => MQ below (QcI D cy base tS S1 r) args s 0 0 (AA base)) (K S v2 v4) S (F0 m 444 ls [])) : ∀ (n : Nat) (S : St) (v2 : Int64) (v4 : Int32) (ls : Array Slot), lv_has ls 12 [(0, .ref (base + k0)), (1, .int v1), (2, .long v2), (4, .int v4)] → Sim p l e rm_X11_many s m args below meth c D cy base 0 0 (fun S1 r => MQ below (QcI D cy base tS S1 r) args s 0 0 (AA base)) (X11_many_127 k0 v1 K n S v2 v4) S (F0 m 127 ls []) := by
  intro n
  induction n with
  | zero => intro S v2 v4 ls hl; exact Sim.none
  | succ n ih =>
    intro S v2 v4 ls hl
    rw [X11_many_127]
    refine r_iload (pc := 127) C dX11_many_127 (lv_at hl 3 rfl) ?_
    refine r_aload_n (pc := 129) C dX11_many_129 rfl (lv_at hl 0 rfl) ?_
    refine gf_X11_95 (pc := 130) C t0 dX11_many_130 ?_
    refine r_icmp_ge (pc := 133) C (tgt := 444) dX11_many_133 (by decide) (fun _ => ?_) (fun _ => ?_)
    · exact hK S v2 v4 _ (lv_sub hl [0, 1, 2, 3] rfl)
    · refine r_iload (pc := 136) C dX11_many_136 (lv_at hl 3 rfl) ?_
      refine r_istore (lv2 := [(5, .int v4), (0, .ref (base + k0)), (1, .int v1), (2, .long v2), (4, .int v4)]) (pc := 138) C dX11_many_138 hl (Nat.le_of_ble_eq_true rfl) rfl (fun ls hl => ?_)
      refine lp_X11_many_140 (ls := ls) C hr hk t0 (fun S48 v49 ls hl => ?_) FU S v4 _ (lv_sub hl [1, 2, 3, 4, 0] rfl)
      refine r_iload (pc := 173) C dX11_many_173 (lv_at hl 4 rfl) ?_
      refine r_aload_n (pc := 175) C dX11_many_175 rfl (lv_at hl 0 rfl) ?_
      refine gf_X11_95 (pc := 176) C t0 dX11_many_176 ?_
      refine r_icmp_ne (pc := 179) C (tgt := 184) dX11_many_179 (by decide) (fun _ => ?_) (fun _ => ?_)
      · refine r_iload (pc := 184) C dX11_many_184 (lv_at hl 4 rfl) ?_
        refine r_iload (pc := 186) C dX11_many_186 (lv_at hl 3 rfl) ?_
        refine r_join (fun (j : St → Int64 → Option (St × Int32)) => ∀ (S51 : St) (v52 : Int64) (ls : Array Slot), lv_has ls 12 [(0, .ref (base + k0)), (1, .int v1), (2, .long v52), (4, .int v4), (5, .int v49)] → Sim p l e rm_X11_many s m args below meth c D cy base 0 0 (fun S1 r => MQ below (QcI D cy base tS S1 r) args s 0 0 (AA base)) (j S51 v52) S51 (F0 m 199 ls [])) ?_ (fun j50 hj50 => ?_)
        · intro S51 v52 ls hl
          refine r_iconst (pc := 199) C (0 : Int32) dX11_many_199 (by decide) ?_
          refine r_istore (lv2 := [(6, .int (0 : Int32)), (0, .ref (base + k0)), (1, .int v1), (2, .long v52), (4, .int v4), (5, .int v49)]) (pc := 200) C dX11_many_200 hl (Nat.le_of_ble_eq_true rfl) rfl (fun ls hl => ?_)
          refine lp_X11_many_202 (ls := ls) C hr hk t0 (fun S61 v62 ls hl => ?_) FU S51 (0 : Int32) _ (lv_sub hl [1, 2, 3, 4, 5, 0] rfl)
          refine r_lload_n (pc := 273) C dX11_many_273 rfl (lv_at hl 2 rfl) ?_
          refine r_aload_n (pc := 274) C dX11_many_274 rfl (lv_at hl 0 rfl) ?_
          refine gf_X11_82 (pc := 275) C t0 dX11_many_275 ?_
          have t63 := ft_11_34 t0
          refine r_bipush (pc := 278) C (12 : Int32) dX11_many_278 (by decide) ?_
          refine r_iload (pc := 280) C dX11_many_280 (lv_at hl 3 rfl) ?_
          refine r_imul (pc := 282) C dX11_many_282 ?_
          refine r_iload (pc := 283) C dX11_many_283 (lv_at hl 3 rfl) ?_
          refine r_iadd (pc := 285) C dX11_many_285 ?_
          refine r_lald (pc := 286) C t63 dX11_many_286 ?_
          refine r_lmul (pc := 287) C dX11_many_287 ?_
          refine r_iload_n (pc := 288) C dX11_many_288 rfl (lv_at hl 1 rfl) ?_
          refine r_i2l (pc := 289) C dX11_many_289 ?_
          refine r_lrem (pc := 290) C dX11_many_290 (fun _ => ?_)
          refine r_topl (fun v64 => ?_)
          refine r_lstore_n (lv2 := [(2, .long v64), (0, .ref (base + k0)), (1, .int v1), (4, .int v4), (5, .int v49), (6, .int v62)]) (pc := 291) C dX11_many_291 rfl hl (Nat.le_of_ble_eq_true rfl) rfl (fun ls hl => ?_)
          refine r_lconst (pc := 292) C (1 : Int64) dX11_many_292 (by decide) ?_
          refine r_lstore (lv2 := [(6, .long (1 : Int64)), (2, .long v64), (0, .ref (base + k0)), (1, .int v1), (4, .int v4), (5, .int v49)]) (pc := 293) C dX11_many_293 hl (Nat.le_of_ble_eq_true rfl) rfl (fun ls hl => ?_)
          refine lp_X11_many_295 (ls := ls) C hr hk t0 (fun S67 v68 ls hl => ?_) FU S61 (1 : Int64) _ (lv_sub hl [2, 3, 1, 4, 0] rfl)
          refine r_iload (pc := 328) C dX11_many_328 (lv_at hl 3 rfl) ?_
          refine r_iconst (pc := 330) C (1 : Int32) dX11_many_330 (by decide) ?_
          refine r_iadd (pc := 331) C dX11_many_331 ?_
          refine r_topi (fun v69 => ?_)
          refine r_istore (lv2 := [(8, .int v69), (0, .ref (base + k0)), (1, .int v1), (2, .long v64), (4, .int v4), (6, .long v68)]) (pc := 332) C dX11_many_332 hl (Nat.le_of_ble_eq_true rfl) rfl (fun ls hl => ?_)
          refine lp_X11_many_334 (ls := ls) C hr hk t0 (fun S80 v81 ls hl => ?_) FU S67 v69 _ (lv_sub hl [1, 2, 3, 4, 5, 0] rfl)
          refine r_iinc (pc := 438) C (k := 3) (1 : Int32) (fun v82 => [(4, .int v82), (0, .ref (base + k0)), (1, .int v1), (2, .long v64), (6, .long v68), (8, .int v81)]) dX11_many_438 hl rfl (by decide) (Nat.le_of_ble_eq_true rfl) (fun _ => rfl) (fun v82 ls hl => ?_)
          refine r_goto (pc := 441) C (tgt := 127) dX11_many_441 (by decide) ?_
          exact ih S80 v64 v82 _ (lv_sub hl [1, 2, 3, 0] rfl)
        refine r_icmp_eq (pc := 188) C (tgt := 199) dX11_many_188 (by decide) (fun _ => ?_) (fun _ => ?_)
        · exact hj50 S48 v2 _ (lv_sub hl [0, 1, 2, 3, 4] rfl)
        · refine r_iload_n (pc := 191) C dX11_many_191 rfl (lv_at hl 1 rfl) ?_
          refine r_i2l (pc := 192) C dX11_many_192 ?_
          refine r_lload_n (pc := 193) C dX11_many_193 rfl (lv_at hl 2 rfl) ?_
          refine r_lsub (pc := 194) C dX11_many_194 ?_
          refine r_iload_n (pc := 195) C dX11_many_195 rfl (lv_at hl 1 rfl) ?_
          refine r_i2l (pc := 196) C dX11_many_196 ?_
          refine r_lrem (pc := 197) C dX11_many_197 (fun _ => ?_)
          refine r_topl (fun v83 => ?_)
          refine r_lstore_n (lv2 := [(2, .long v83), (0, .ref (base + k0)), (1, .int v1), (4, .int v4), (5, .int v49)]) (pc := 198) C dX11_many_198 rfl hl (Nat.le_of_ble_eq_true rfl) rfl (fun ls hl => ?_)
          exact hj50 S48 v83 _ (lv_sub hl [1, 2, 0, 3, 4] rfl)
      · refine r_iconst (pc := 182) C (0 : Int32) dX11_many_182 (by decide) ?_
        exact r_iret (pc := 183) C hr hk dX11_many_183

set_option maxHeartbeats 4000000 in
set_option maxRecDepth 100000 in
theorem sm_X11_many {p : Program} {l : Launch} {e : Env} {s : State} {m : MethodId} {args : Array Value} {below : List Frame} {meth : Method} {c : Code} {D : va_G} {cy : Nat → ClassId} {base tS : Nat} {S : St} {k0 : Nat} {v1 : Int32} {ls : Array Slot} (C : Cx p rm_X11_many s m args c RX11 cX11_many 12 D cy base tS 0 0) (hr : meth.sig.returnType = (some .int)) (hk : meth.locks = false) (t0 : cls k0 = 11) (hl : lv_has ls 12 [(0, .ref (base + k0)), (1, .int v1)]) : Sim p l e rm_X11_many s m args below meth c D cy base 0 0 (fun S1 r => MQ below (QcI D cy base tS S1 r) args s 0 0 (AA base)) (X11_many S k0 v1) S (F0 m 0 ls []) := by
  unfold X11_many
  refine r_iload_n (pc := 0) C dX11_many_0 rfl (lv_at hl 1 rfl) ?_
  refine r_iconst (pc := 1) C (2 : Int32) dX11_many_1 (by decide) ?_
  refine r_sipush (pc := 2) C (30011 : Int32) dX11_many_2 (by decide) ?_
  refine cv_X11_98 (pc := 5) C  hl.1 ⟨Nat.le_of_ble_eq_true rfl, Nat.le_of_ble_eq_true rfl⟩ (Nat.le_of_ble_eq_true rfl) dX11_many_5 (fun S21 v22 => ?_)
  refine r_join (fun (j : St → Option (St × Int32)) => ∀ (S24 : St)  (ls : Array Slot), lv_has ls 12 [(0, .ref (base + k0))] → Sim p l e rm_X11_many s m args below meth c D cy base 0 0 (fun S1 r => MQ below (QcI D cy base tS S1 r) args s 0 0 (AA base)) (j S24) S24 (F0 m 18 ls [])) ?_ (fun j23 hj23 => ?_)
  · intro S24 ls hl
    refine r_aload_n (pc := 18) C dX11_many_18 rfl (lv_at hl 0 rfl) ?_
    refine r_iconst (pc := 19) C (-1 : Int32) dX11_many_19 (by decide) ?_
    refine cv_X11_118 (pc := 20) C t0 hl.1 ⟨Nat.le_of_ble_eq_true rfl, Nat.le_of_ble_eq_true rfl⟩ (Nat.le_of_ble_eq_true rfl) dX11_many_20 (fun S25 v26 => ?_)
    exact r_iret (pc := 23) C hr hk dX11_many_23
  refine r_if_eq (pc := 8) C (tgt := 18) dX11_many_8 (by decide) (fun _ => ?_) (fun _ => ?_)
  · exact hj23 S21  _ (lv_sub hl [0] rfl)
  · refine r_iload_n (pc := 11) C dX11_many_11 rfl (lv_at hl 1 rfl) ?_
    refine cv_X11_213 (pc := 12) C  hl.1 ⟨Nat.le_of_ble_eq_true rfl, Nat.le_of_ble_eq_true rfl⟩ (Nat.le_of_ble_eq_true rfl) dX11_many_12 (fun S27 v28 => ?_)
    refine r_if_ne (pc := 15) C (tgt := 24) dX11_many_15 (by decide) (fun _ => ?_) (fun _ => ?_)
    · refine r_aload_n (pc := 24) C dX11_many_24 rfl (lv_at hl 0 rfl) ?_
      refine gf_X11_114 (pc := 25) C t0 dX11_many_25 ?_
      refine r_if_ne (pc := 28) C (tgt := 38) dX11_many_28 (by decide) (fun _ => ?_) (fun _ => ?_)
      · refine r_aload_n (pc := 38) C dX11_many_38 rfl (lv_at hl 0 rfl) ?_
        refine cv_X11_190 (pc := 39) C t0 hl.1 ⟨Nat.le_of_ble_eq_true rfl, Nat.le_of_ble_eq_true rfl⟩ (Nat.le_of_ble_eq_true rfl) dX11_many_39 (fun S29 v30 => ?_)
        refine r_if_ne (pc := 42) C (tgt := 52) dX11_many_42 (by decide) (fun _ => ?_) (fun _ => ?_)
        · refine r_iconst (pc := 52) C (0 : Int32) dX11_many_52 (by decide) ?_
          refine r_istore_n (lv2 := [(2, .int (0 : Int32)), (0, .ref (base + k0)), (1, .int v1)]) (pc := 53) C dX11_many_53 rfl hl (Nat.le_of_ble_eq_true rfl) rfl (fun ls hl => ?_)
          refine lp_X11_many_54 (ls := ls) C hr hk t0 (fun S44 v45 ls hl => ?_) FU S29 (0 : Int32) _ (lv_sub hl [1, 2, 0] rfl)
          refine r_lconst (pc := 122) C (1 : Int64) dX11_many_122 (by decide) ?_
          refine r_lstore_n (lv2 := [(2, .long (1 : Int64)), (0, .ref (base + k0)), (1, .int v1)]) (pc := 123) C dX11_many_123 rfl hl (Nat.le_of_ble_eq_true rfl) rfl (fun ls hl => ?_)
          refine r_iconst (pc := 124) C (0 : Int32) dX11_many_124 (by decide) ?_
          refine r_istore (lv2 := [(4, .int (0 : Int32)), (2, .long (1 : Int64)), (0, .ref (base + k0)), (1, .int v1)]) (pc := 125) C dX11_many_125 hl (Nat.le_of_ble_eq_true rfl) rfl (fun ls hl => ?_)
          refine lp_X11_many_127 (ls := ls) C hr hk t0 (fun S84 v85 v86 ls hl => ?_) FU S44 (1 : Int64) (0 : Int32) _ (lv_sub hl [2, 3, 1, 0] rfl)
          refine r_lload_n (pc := 444) C dX11_many_444 rfl (lv_at hl 2 rfl) ?_
          refine r_l2i (pc := 445) C dX11_many_445 ?_
          exact r_iret (pc := 446) C hr hk dX11_many_446
        · refine r_aload_n (pc := 45) C dX11_many_45 rfl (lv_at hl 0 rfl) ?_
          refine r_bipush (pc := 46) C (-12 : Int32) dX11_many_46 (by decide) ?_
          refine cv_X11_118 (pc := 48) C t0 hl.1 ⟨Nat.le_of_ble_eq_true rfl, Nat.le_of_ble_eq_true rfl⟩ (Nat.le_of_ble_eq_true rfl) dX11_many_48 (fun S87 v88 => ?_)
          exact r_iret (pc := 51) C hr hk dX11_many_51
      · refine r_aload_n (pc := 31) C dX11_many_31 rfl (lv_at hl 0 rfl) ?_
        refine r_bipush (pc := 32) C (-8 : Int32) dX11_many_32 (by decide) ?_
        refine cv_X11_118 (pc := 34) C t0 hl.1 ⟨Nat.le_of_ble_eq_true rfl, Nat.le_of_ble_eq_true rfl⟩ (Nat.le_of_ble_eq_true rfl) dX11_many_34 (fun S89 v90 => ?_)
        exact r_iret (pc := 37) C hr hk dX11_many_37
    · exact hj23 S27  _ (lv_sub hl [0] rfl)

theorem ct_X11_many (l : Launch) {D : va_G} {cy : Nat → ClassId} {base tS : Nat} {S : St} {k0 : Nat} {v1 : Int32} (t0 : cls k0 = 11) {S1 : St} {r1 : Int32} (h : X11_many S k0 v1 = some (S1, r1)) : Met l yX11_many (wsY yX11_many cX11_many 12 (some .int)) rm_X11_many (va_Pc [.ref (base + k0), .int v1] (World D cy base tS S)) (QcI D cy base tS S1 r1) 0 0 (AA base) := conI rfl rfl (by decide) (Nat.le_of_ble_eq_true rfl) (fun p e s m args below meth c ls C hr hk hl => sm_X11_many C hr hk t0 hl) h
abbrev rm_X11_list : Room := { frames := 2, cells := 0, slots := 0, locals := 49 }
set_option maxHeartbeats 4000000 in
set_option maxRecDepth 100000 in
theorem lp_X11_list_34 {p : Program} {l : Launch} {e : Env} {s : State} {m : MethodId} {args : Array Value} {below : List Frame} {meth : Method} {c : Code} {D : va_G} {cy : Nat → ClassId} {base tS : Nat} {ls : Array Slot} (C : Cx p rm_X11_list s m args c RX11 cX11_list 4 D cy base tS 0 0) (hr : meth.sig.returnType = (some .int)) (hk : meth.locks = false) {k0 : Nat} {v1 : Int32} {v2 : Int32} (t0 : cls k0 = 11) {K : St → Int32 → Option (St × Int32)} (hK : ∀ (S : St) (v3 : Int32) (ls : Array Slot), lv_has ls 4 [(0, .ref (base + k0)), (1, .int v1), (2, .int v2), (3, .int v3)] → Sim p l e rm_X11_list s m args below meth c D cy base 0 0 (fun S1 r => MQ below (QcI D cy base tS S1 r) args s 0 0 (AA base)) (K S v3) S (F0 m 55 ls [])) : ∀ (n : Nat) (S : St) (v3 : Int32) (ls : Array Slot), lv_has ls 4 [(0, .ref (base + k0)), (1, .int v1), (2, .int v2), (3, .int v3)] → Sim p l e rm_X11_list s m args below meth c D cy base 0 0 (fun S1 r => MQ below (QcI D cy base tS S1 r) args s 0 0 (AA base)) (X11_list_34 k0 v1 v2 K n S v3) S (F0 m 34 ls []) := by
  intro n
  induction n with
  | zero => intro S v3 ls hl; exact Sim.none
  | succ n ih =>
    intro S v3 ls hl
    rw [X11_list_34]
    refine r_iload_n (pc := 34) C dX11_list_34 rfl (lv_at hl 3 rfl) ?_
    refine r_aload_n (pc := 35) C dX11_list_35 rfl (lv_at hl 0 rfl) ?_
    refine gf_X11_95 (pc := 36) C t0 dX11_list_36 ?_
    refine r_icmp_ge (pc := 39) C (tgt := 55) dX11_list_39 (by decide) (fun _ => ?_) (fun _ => ?_)
    · exact hK S v3 _ (lv_sub hl [0, 1, 2, 3] rfl)
    · refine r_aload_n (pc := 42) C dX11_list_42 rfl (lv_at hl 0 rfl) ?_
      refine gf_X11_76 (pc := 43) C t0 dX11_list_43 ?_
      have t23 := ft_11_32 t0
      refine r_iload_n (pc := 46) C dX11_list_46 rfl (lv_at hl 3 rfl) ?_
      refine r_lconst (pc := 47) C (0 : Int64) dX11_list_47 (by decide) ?_
      refine r_last (pc := 48) C t23 dX11_list_48 (fun S24 => ?_)
      refine r_iinc (pc := 49) C (k := 3) (1 : Int32) (fun v25 => [(3, .int v25), (0, .ref (base + k0)), (1, .int v1), (2, .int v2)]) dX11_list_49 hl rfl (by decide) (Nat.le_of_ble_eq_true rfl) (fun _ => rfl) (fun v25 ls hl => ?_)
      refine r_goto (pc := 52) C (tgt := 34) dX11_list_52 (by decide) ?_
      exact ih S24 v25 _ (lv_sub hl [1, 2, 3, 0] rfl)

set_option maxHeartbeats 4000000 in
set_option maxRecDepth 100000 in
theorem lp_X11_list_181 {p : Program} {l : Launch} {e : Env} {s : State} {m : MethodId} {args : Array Value} {below : List Frame} {meth : Method} {c : Code} {D : va_G} {cy : Nat → ClassId} {base tS : Nat} {ls : Array Slot} (C : Cx p rm_X11_list s m args c RX11 cX11_list 4 D cy base tS 0 0) (hr : meth.sig.returnType = (some .int)) (hk : meth.locks = false) {k0 : Nat} {v1 : Int32} {v2 : Int32} (t0 : cls k0 = 11) {K : St → Int32 → Option (St × Int32)} (hK : ∀ (S : St) (v3 : Int32) (ls : Array Slot), lv_has ls 4 [(0, .ref (base + k0)), (1, .int v1), (2, .int v2), (3, .int v3)] → Sim p l e rm_X11_list s m args below meth c D cy base 0 0 (fun S1 r => MQ below (QcI D cy base tS S1 r) args s 0 0 (AA base)) (K S v3) S (F0 m 223 ls [])) : ∀ (n : Nat) (S : St) (v3 : Int32) (ls : Array Slot), lv_has ls 4 [(0, .ref (base + k0)), (1, .int v1), (2, .int v2), (3, .int v3)] → Sim p l e rm_X11_list s m args below meth c D cy base 0 0 (fun S1 r => MQ below (QcI D cy base tS S1 r) args s 0 0 (AA base)) (X11_list_181 k0 v1 v2 K n S v3) S (F0 m 181 ls []) := by
  intro n
  induction n with
  | zero => intro S v3 ls hl; exact Sim.none
  | succ n ih =>
    intro S v3 ls hl
    rw [X11_list_181]
    refine r_iload_n (pc := 181) C dX11_list_181 rfl (lv_at hl 3 rfl) ?_
    refine r_aload_n (pc := 182) C dX11_list_182 rfl (lv_at hl 0 rfl) ?_
    refine gf_X11_95 (pc := 183) C t0 dX11_list_183 ?_
    refine r_icmp_ge (pc := 186) C (tgt := 223) dX11_list_186 (by decide) (fun _ => ?_) (fun _ => ?_)
    · exact hK S v3 _ (lv_sub hl [0, 1, 2, 3] rfl)
    · refine r_aload_n (pc := 189) C dX11_list_189 rfl (lv_at hl 0 rfl) ?_
      refine gf_X11_79 (pc := 190) C t0 dX11_list_190 ?_
      have t31 := ft_11_33 t0
      refine r_iload_n (pc := 193) C dX11_list_193 rfl (lv_at hl 3 rfl) ?_
      refine r_iload_n (pc := 194) C dX11_list_194 rfl (lv_at hl 3 rfl) ?_
      refine r_iload_n (pc := 195) C dX11_list_195 rfl (lv_at hl 2 rfl) ?_
      refine r_join (fun (j : St → Int64 → Option (St × Int32)) => ∀ (S33 : St) (v34 : Int64) (ls : Array Slot), lv_has ls 4 [(0, .ref (base + k0)), (1, .int v1), (2, .int v2), (3, .int v3)] → Sim p l e rm_X11_list s m args below meth c D cy base 0 0 (fun S1 r => MQ below (QcI D cy base tS S1 r) args s 0 0 (AA base)) (j S33 v34) S33 (F0 m 216 ls [.long v34, .int v3, .ref (base + (rf k0 33))])) ?_ (fun j32 hj32 => ?_)
      · intro S33 v34 ls hl
        refine r_last (pc := 216) C t31 dX11_list_216 (fun S35 => ?_)
        refine r_iinc (pc := 217) C (k := 3) (1 : Int32) (fun v36 => [(3, .int v36), (0, .ref (base + k0)), (1, .int v1), (2, .int v2)]) dX11_list_217 hl rfl (by decide) (Nat.le_of_ble_eq_true rfl) (fun _ => rfl) (fun v36 ls hl => ?_)
        refine r_goto (pc := 220) C (tgt := 181) dX11_list_220 (by decide) ?_
        exact ih S35 v36 _ (lv_sub hl [1, 2, 3, 0] rfl)
      refine r_icmp_le (pc := 196) C (tgt := 210) dX11_list_196 (by decide) (fun _ => ?_) (fun _ => ?_)
      · refine r_aload_n (pc := 210) C dX11_list_210 rfl (lv_at hl 0 rfl) ?_
        refine gf_X11_76 (pc := 211) C t0 dX11_list_211 ?_
        have t37 := ft_11_32 t0
        refine r_iload_n (pc := 214) C dX11_list_214 rfl (lv_at hl 3 rfl) ?_
        refine r_lald (pc := 215) C t37 dX11_list_215 ?_
        exact hj32 S (S.2 (rf k0 32) (ix v3)) _ (lv_sub hl [0, 1, 2, 3] rfl)
      · refine r_aload_n (pc := 199) C dX11_list_199 rfl (lv_at hl 0 rfl) ?_
        refine r_iload_n (pc := 200) C dX11_list_200 rfl (lv_at hl 3 rfl) ?_
        refine cv_X11_106 (pc := 201) C t0 hl.1 ⟨Nat.le_of_ble_eq_true rfl, Nat.le_of_ble_eq_true rfl⟩ (Nat.le_of_ble_eq_true rfl) dX11_list_201 (fun S38 v39 => ?_)
        refine r_iconst (pc := 204) C (1 : Int32) dX11_list_204 (by decide) ?_
        refine r_isub (pc := 205) C dX11_list_205 ?_
        refine r_i2l (pc := 206) C dX11_list_206 ?_
        refine r_goto (pc := 207) C (tgt := 216) dX11_list_207 (by decide) ?_
        exact hj32 S38 (Int32.toInt64 (v39 - (1 : Int32))) _ (lv_sub hl [0, 1, 2, 3] rfl)

set_option maxHeartbeats 4000000 in
set_option maxRecDepth 100000 in
theorem lp_X11_list_83 {p : Program} {l : Launch} {e : Env} {s : State} {m : MethodId} {args : Array Value} {below : List Frame} {meth : Method} {c : Code} {D : va_G} {cy : Nat → ClassId} {base tS : Nat} {ls : Array Slot} (C : Cx p rm_X11_list s m args c RX11 cX11_list 4 D cy base tS 0 0) (hr : meth.sig.returnType = (some .int)) (hk : meth.locks = false) {k0 : Nat} {v1 : Int32} {v2 : Int32} (t0 : cls k0 = 11) {K : St → Int32 → Option (St × Int32)} (hK : ∀ (S : St) (v3 : Int32) (ls : Array Slot), lv_has ls 4 [(0, .ref (base + k0)), (1, .int v1), (2, .int v2), (3, .int v3)] → Sim p l e rm_X11_list s m args below meth c D cy base 0 0 (fun S1 r => MQ below (QcI D cy base tS S1 r) args s 0 0 (AA base)) (K S v3) S (F0 m 115 ls [])) : ∀ (n : Nat) (S : St) (v3 : Int32) (ls : Array Slot), lv_has ls 4 [(0, .ref (base + k0)), (1, .int v1), (2, .int v2), (3, .int v3)] → Sim p l e rm_X11_list s m args below meth c D cy base 0 0 (fun S1 r => MQ below (QcI D cy base tS S1 r) args s 0 0 (AA base)) (X11_list_83 k0 v1 v2 K n S v3) S (F0 m 83 ls []) := by
  intro n
  induction n with
  | zero => intro S v3 ls hl; exact Sim.none
  | succ n ih =>
    intro S v3 ls hl
    rw [X11_list_83]
    refine r_iload_n (pc := 83) C dX11_list_83 rfl (lv_at hl 3 rfl) ?_
    refine r_aload_n (pc := 84) C dX11_list_84 rfl (lv_at hl 0 rfl) ?_
    refine gf_X11_95 (pc := 85) C t0 dX11_list_85 ?_
    refine r_icmp_ge (pc := 88) C (tgt := 115) dX11_list_88 (by decide) (fun _ => ?_) (fun _ => ?_)
    · exact hK S v3 _ (lv_sub hl [0, 1, 2, 3] rfl)
    · refine r_aload_n (pc := 91) C dX11_list_91 rfl (lv_at hl 0 rfl) ?_
      refine gf_X11_85 (pc := 92) C t0 dX11_list_92 ?_
      have t55 := ft_11_35 t0
      refine r_bipush (pc := 95) C (12 : Int32) dX11_list_95 (by decide) ?_
      refine r_iload_n (pc := 97) C dX11_list_97 rfl (lv_at hl 1 rfl) ?_
      refine r_imul (pc := 98) C dX11_list_98 ?_
      refine r_iload_n (pc := 99) C dX11_list_99 rfl (lv_at hl 3 rfl) ?_
      refine r_iadd (pc := 100) C dX11_list_100 ?_
      refine r_aload_n (pc := 101) C dX11_list_101 rfl (lv_at hl 0 rfl) ?_
      refine gf_X11_76 (pc := 102) C t0 dX11_list_102 ?_
      have t56 := ft_11_32 t0
      refine r_iload_n (pc := 105) C dX11_list_105 rfl (lv_at hl 3 rfl) ?_
      refine r_lald (pc := 106) C t56 dX11_list_106 ?_
      refine r_l2i (pc := 107) C dX11_list_107 ?_
      refine r_iast (pc := 108) C t55 dX11_list_108 (fun S57 => ?_)
      refine r_iinc (pc := 109) C (k := 3) (1 : Int32) (fun v58 => [(3, .int v58), (0, .ref (base + k0)), (1, .int v1), (2, .int v2)]) dX11_list_109 hl rfl (by decide) (Nat.le_of_ble_eq_true rfl) (fun _ => rfl) (fun v58 ls hl => ?_)
      refine r_goto (pc := 112) C (tgt := 83) dX11_list_112 (by decide) ?_
      exact ih S57 v58 _ (lv_sub hl [1, 2, 3, 0] rfl)

set_option maxHeartbeats 4000000 in
set_option maxRecDepth 100000 in
theorem lp_X11_list_55 {p : Program} {l : Launch} {e : Env} {s : State} {m : MethodId} {args : Array Value} {below : List Frame} {meth : Method} {c : Code} {D : va_G} {cy : Nat → ClassId} {base tS : Nat} {ls : Array Slot} (C : Cx p rm_X11_list s m args c RX11 cX11_list 4 D cy base tS 0 0) (hr : meth.sig.returnType = (some .int)) (hk : meth.locks = false) {k0 : Nat} (t0 : cls k0 = 11) {K : St → Int32 → Int32 → Option (St × Int32)} (hK : ∀ (S : St) (v1 : Int32) (v2 : Int32) (ls : Array Slot), lv_has ls 4 [(0, .ref (base + k0)), (1, .int v1), (2, .int v2)] → Sim p l e rm_X11_list s m args below meth c D cy base 0 0 (fun S1 r => MQ below (QcI D cy base tS S1 r) args s 0 0 (AA base)) (K S v1 v2) S (F0 m 276 ls [])) : ∀ (n : Nat) (S : St) (v1 : Int32) (v2 : Int32) (ls : Array Slot), lv_has ls 4 [(0, .ref (base + k0)), (1, .int v1), (2, .int v2)] → Sim p l e rm_X11_list s m args below meth c D cy base 0 0 (fun S1 r => MQ below (QcI D cy base tS S1 r) args s 0 0 (AA base)) (X11_list_55 k0 K n S v1 v2) S (F0 m 55 ls []) := by
  intro n
  induction n with
  | zero => intro S v1 v2 ls hl; exact Sim.none
  | succ n ih =>
    intro S v1 v2 ls hl
    rw [X11_list_55]
    refine r_iload_n (pc := 55) C dX11_list_55 rfl (lv_at hl 2 rfl) ?_
    refine r_if_lt (pc := 56) C (tgt := 276) dX11_list_56 (by decide) (fun _ => ?_) (fun _ => ?_)
    · exact hK S v1 v2 _ (lv_sub hl [0, 1, 2] rfl)
    · refine r_iload_n (pc := 59) C dX11_list_59 rfl (lv_at hl 2 rfl) ?_
      refine r_aload_n (pc := 60) C dX11_list_60 rfl (lv_at hl 0 rfl) ?_
      refine gf_X11_95 (pc := 61) C t0 dX11_list_61 ?_
      refine r_icmp_ne (pc := 64) C (tgt := 134) dX11_list_64 (by decide) (fun _ => ?_) (fun _ => ?_)
      · refine r_aload_n (pc := 134) C dX11_list_134 rfl (lv_at hl 0 rfl) ?_
        refine gf_X11_76 (pc := 135) C t0 dX11_list_135 ?_
        have t28 := ft_11_32 t0
        refine r_iload_n (pc := 138) C dX11_list_138 rfl (lv_at hl 2 rfl) ?_
        refine r_lald (pc := 139) C t28 dX11_list_139 ?_
        refine r_aload_n (pc := 140) C dX11_list_140 rfl (lv_at hl 0 rfl) ?_
        refine r_iload_n (pc := 141) C dX11_list_141 rfl (lv_at hl 2 rfl) ?_
        refine cv_X11_106 (pc := 142) C t0 hl.1 ⟨Nat.le_of_ble_eq_true rfl, Nat.le_of_ble_eq_true rfl⟩ (Nat.le_of_ble_eq_true rfl) dX11_list_142 (fun S29 v30 => ?_)
        refine r_iconst (pc := 145) C (1 : Int32) dX11_list_145 (by decide) ?_
        refine r_isub (pc := 146) C dX11_list_146 ?_
        refine r_i2l (pc := 147) C dX11_list_147 ?_
        refine r_lcmp_le (pc := 148) C (tgt := 179) dX11_list_148 dX11_list_149 (by decide) (fun _ => ?_) (fun _ => ?_)
        · refine r_iconst (pc := 179) C (0 : Int32) dX11_list_179 (by decide) ?_
          refine r_istore_n (lv2 := [(3, .int (0 : Int32)), (0, .ref (base + k0)), (1, .int v1), (2, .int v2)]) (pc := 180) C dX11_list_180 rfl hl (Nat.le_of_ble_eq_true rfl) rfl (fun ls hl => ?_)
          refine lp_X11_list_181 (ls := ls) C hr hk t0 (fun S40 v41 ls hl => ?_) FU S29 (0 : Int32) _ (lv_sub hl [1, 2, 3, 0] rfl)
          refine r_aload_n (pc := 223) C dX11_list_223 rfl (lv_at hl 0 rfl) ?_
          refine r_aload_n (pc := 224) C dX11_list_224 rfl (lv_at hl 0 rfl) ?_
          refine gf_X11_79 (pc := 225) C t0 dX11_list_225 ?_
          have t42 := ft_11_33 t0
          refine cv_X11_194 (pc := 228) C t0 t42 hl.1 ⟨Nat.le_of_ble_eq_true rfl, Nat.le_of_ble_eq_true rfl⟩ (Nat.le_of_ble_eq_true rfl) dX11_list_228 (fun S43 v44 => ?_)
          refine r_iconst (pc := 231) C (1 : Int32) dX11_list_231 (by decide) ?_
          refine r_aload_n (pc := 232) C dX11_list_232 rfl (lv_at hl 0 rfl) ?_
          refine gf_X11_95 (pc := 233) C t0 dX11_list_233 ?_
          refine r_ishl (pc := 236) C dX11_list_236 ?_
          refine r_iconst (pc := 237) C (1 : Int32) dX11_list_237 (by decide) ?_
          refine r_isub (pc := 238) C dX11_list_238 ?_
          refine r_icmp_eq (pc := 239) C (tgt := 255) dX11_list_239 (by decide) (fun _ => ?_) (fun _ => ?_)
          · refine r_iinc (pc := 255) C (k := 2) (1 : Int32) (fun v45 => [(2, .int v45), (0, .ref (base + k0)), (1, .int v1), (3, .int v41)]) dX11_list_255 hl rfl (by decide) (Nat.le_of_ble_eq_true rfl) (fun _ => rfl) (fun v45 ls hl => ?_)
            refine r_iload_n (pc := 258) C dX11_list_258 rfl (lv_at hl 0 rfl) ?_
            refine r_aload_n (pc := 259) C dX11_list_259 rfl (lv_at hl 1 rfl) ?_
            refine gf_X11_95 (pc := 260) C t0 dX11_list_260 ?_
            refine r_icmp_ge (pc := 263) C (tgt := 55) dX11_list_263 (by decide) (fun _ => ?_) (fun _ => ?_)
            · exact ih S43 v1 v45 _ (lv_sub hl [1, 2, 0] rfl)
            · refine r_aload_n (pc := 266) C dX11_list_266 rfl (lv_at hl 1 rfl) ?_
              refine gf_X11_76 (pc := 267) C t0 dX11_list_267 ?_
              have t46 := ft_11_32 t0
              refine r_iload_n (pc := 270) C dX11_list_270 rfl (lv_at hl 0 rfl) ?_
              refine r_lconst (pc := 271) C (0 : Int64) dX11_list_271 (by decide) ?_
              refine r_last (pc := 272) C t46 dX11_list_272 (fun S47 => ?_)
              refine r_goto (pc := 273) C (tgt := 55) dX11_list_273 (by decide) ?_
              exact ih S47 v1 v45 _ (lv_sub hl [1, 2, 0] rfl)
          · refine r_aload_n (pc := 242) C dX11_list_242 rfl (lv_at hl 0 rfl) ?_
            refine gf_X11_76 (pc := 243) C t0 dX11_list_243 ?_
            have t48 := ft_11_32 t0
            refine r_iload_n (pc := 246) C dX11_list_246 rfl (lv_at hl 2 rfl) ?_
            refine r_dup2_11 (pc := 247) C dX11_list_247 rfl rfl ?_
            refine r_lald (pc := 248) C t48 dX11_list_248 ?_
            refine r_lconst (pc := 249) C (1 : Int64) dX11_list_249 (by decide) ?_
            refine r_ladd (pc := 250) C dX11_list_250 ?_
            refine r_last (pc := 251) C t48 dX11_list_251 (fun S49 => ?_)
            refine r_goto (pc := 252) C (tgt := 55) dX11_list_252 (by decide) ?_
            exact ih S49 v1 v2 _ (lv_sub hl [0, 1, 2] rfl)
        · refine r_aload_n (pc := 152) C dX11_list_152 rfl (lv_at hl 0 rfl) ?_
          refine gf_X11_76 (pc := 153) C t0 dX11_list_153 ?_
          have t50 := ft_11_32 t0
          refine r_iload_n (pc := 156) C dX11_list_156 rfl (lv_at hl 2 rfl) ?_
          refine r_lconst (pc := 157) C (0 : Int64) dX11_list_157 (by decide) ?_
          refine r_last (pc := 158) C t50 dX11_list_158 (fun S51 => ?_)
          refine r_iinc (pc := 159) C (k := 2) (-1 : Int32) (fun v52 => [(2, .int v52), (0, .ref (base + k0)), (1, .int v1)]) dX11_list_159 hl rfl (by decide) (Nat.le_of_ble_eq_true rfl) (fun _ => rfl) (fun v52 ls hl => ?_)
          refine r_iload_n (pc := 162) C dX11_list_162 rfl (lv_at hl 0 rfl) ?_
          refine r_if_lt (pc := 163) C (tgt := 55) dX11_list_163 (by decide) (fun _ => ?_) (fun _ => ?_)
          · exact ih S51 v1 v52 _ (lv_sub hl [1, 2, 0] rfl)
          · refine r_aload_n (pc := 166) C dX11_list_166 rfl (lv_at hl 1 rfl) ?_
            refine gf_X11_76 (pc := 167) C t0 dX11_list_167 ?_
            have t53 := ft_11_32 t0
            refine r_iload_n (pc := 170) C dX11_list_170 rfl (lv_at hl 0 rfl) ?_
            refine r_dup2_11 (pc := 171) C dX11_list_171 rfl rfl ?_
            refine r_lald (pc := 172) C t53 dX11_list_172 ?_
            refine r_lconst (pc := 173) C (1 : Int64) dX11_list_173 (by decide) ?_
            refine r_ladd (pc := 174) C dX11_list_174 ?_
            refine r_last (pc := 175) C t53 dX11_list_175 (fun S54 => ?_)
            refine r_goto (pc := 176) C (tgt := 55) dX11_list_176 (by decide) ?_
            exact ih S54 v1 v52 _ (lv_sub hl [1, 2, 0] rfl)
      · refine r_iload_n (pc := 67) C dX11_list_67 rfl (lv_at hl 1 rfl) ?_
        refine r_sipush (pc := 68) C (200 : Int32) dX11_list_68 (by decide) ?_
        refine r_icmp_ne (pc := 71) C (tgt := 81) dX11_list_71 (by decide) (fun _ => ?_) (fun _ => ?_)
        · refine r_iconst (pc := 81) C (0 : Int32) dX11_list_81 (by decide) ?_
          refine r_istore_n (lv2 := [(3, .int (0 : Int32)), (0, .ref (base + k0)), (1, .int v1), (2, .int v2)]) (pc := 82) C dX11_list_82 rfl hl (Nat.le_of_ble_eq_true rfl) rfl (fun ls hl => ?_)
          refine lp_X11_list_83 (ls := ls) C hr hk t0 (fun S59 v60 ls hl => ?_) FU S (0 : Int32) _ (lv_sub hl [1, 2, 3, 0] rfl)
          refine r_iinc (pc := 115) C (k := 1) (1 : Int32) (fun v61 => [(1, .int v61), (0, .ref (base + k0)), (2, .int v2), (3, .int v60)]) dX11_list_115 hl rfl (by decide) (Nat.le_of_ble_eq_true rfl) (fun _ => rfl) (fun v61 ls hl => ?_)
          refine r_iinc (pc := 118) C (k := 2) (-1 : Int32) (fun v62 => [(2, .int v62), (1, .int v61), (0, .ref (base + k0)), (3, .int v60)]) dX11_list_118 hl rfl (by decide) (Nat.le_of_ble_eq_true rfl) (fun _ => rfl) (fun v62 ls hl => ?_)
          refine r_aload_n (pc := 121) C dX11_list_121 rfl (lv_at hl 2 rfl) ?_
          refine gf_X11_76 (pc := 122) C t0 dX11_list_122 ?_
          have t63 := ft_11_32 t0
          refine r_iload_n (pc := 125) C dX11_list_125 rfl (lv_at hl 0 rfl) ?_
          refine r_dup2_11 (pc := 126) C dX11_list_126 rfl rfl ?_
          refine r_lald (pc := 127) C t63 dX11_list_127 ?_
          refine r_lconst (pc := 128) C (1 : Int64) dX11_list_128 (by decide) ?_
          refine r_ladd (pc := 129) C dX11_list_129 ?_
          refine r_last (pc := 130) C t63 dX11_list_130 (fun S64 => ?_)
          refine r_goto (pc := 131) C (tgt := 55) dX11_list_131 (by decide) ?_
          exact ih S64 v61 v62 _ (lv_sub hl [2, 1, 0] rfl)
        · refine r_aload_n (pc := 74) C dX11_list_74 rfl (lv_at hl 0 rfl) ?_
          refine r_bipush (pc := 75) C (-10 : Int32) dX11_list_75 (by decide) ?_
          refine cv_X11_118 (pc := 77) C t0 hl.1 ⟨Nat.le_of_ble_eq_true rfl, Nat.le_of_ble_eq_true rfl⟩ (Nat.le_of_ble_eq_true rfl) dX11_list_77 (fun S65 v66 => ?_)
          exact r_iret (pc := 80) C hr hk dX11_list_80

set_option maxHeartbeats 4000000 in
set_option maxRecDepth 100000 in
theorem lp_X11_list_278 {p : Program} {l : Launch} {e : Env} {s : State} {m : MethodId} {args : Array Value} {below : List Frame} {meth : Method} {c : Code} {D : va_G} {cy : Nat → ClassId} {base tS : Nat} {ls : Array Slot} (C : Cx p rm_X11_list s m args c RX11 cX11_list 4 D cy base tS 0 0) (hr : meth.sig.returnType = (some .int)) (hk : meth.locks = false) {k0 : Nat} {v1 : Int32} (t0 : cls k0 = 11) {K : St → Int32 → Option (St × Int32)} (hK : ∀ (S : St) (v3 : Int32) (ls : Array Slot), lv_has ls 4 [(0, .ref (base + k0)), (1, .int v1), (3, .int v3)] → Sim p l e rm_X11_list s m args below meth c D cy base 0 0 (fun S1 r => MQ below (QcI D cy base tS S1 r) args s 0 0 (AA base)) (K S v3) S (F0 m 304 ls [])) : ∀ (n : Nat) (S : St) (v3 : Int32) (ls : Array Slot), lv_has ls 4 [(0, .ref (base + k0)), (1, .int v1), (3, .int v3)] → Sim p l e rm_X11_list s m args below meth c D cy base 0 0 (fun S1 r => MQ below (QcI D cy base tS S1 r) args s 0 0 (AA base)) (X11_list_278 k0 v1 K n S v3) S (F0 m 278 ls []) := by
  intro n
  induction n with
  | zero => intro S v3 ls hl; exact Sim.none
  | succ n ih =>
    intro S v3 ls hl
    rw [X11_list_278]
    refine r_iload_n (pc := 278) C dX11_list_278 rfl (lv_at hl 2 rfl) ?_
    refine r_bipush (pc := 279) C (12 : Int32) dX11_list_279 (by decide) ?_
    refine r_iload_n (pc := 281) C dX11_list_281 rfl (lv_at hl 1 rfl) ?_
    refine r_imul (pc := 282) C dX11_list_282 ?_
    refine r_icmp_ge (pc := 283) C (tgt := 304) dX11_list_283 (by decide) (fun _ => ?_) (fun _ => ?_)
    · exact hK S v3 _ (lv_sub hl [0, 1, 2] rfl)
    · refine r_aload_n (pc := 286) C dX11_list_286 rfl (lv_at hl 0 rfl) ?_
      refine gf_X11_43 (pc := 287) C t0 dX11_list_287 ?_
      have t70 := ft_11_17 t0
      refine r_iload_n (pc := 290) C dX11_list_290 rfl (lv_at hl 2 rfl) ?_
      refine r_aload_n (pc := 291) C dX11_list_291 rfl (lv_at hl 0 rfl) ?_
      refine gf_X11_85 (pc := 292) C t0 dX11_list_292 ?_
      have t71 := ft_11_35 t0
      refine r_iload_n (pc := 295) C dX11_list_295 rfl (lv_at hl 2 rfl) ?_
      refine r_iald (pc := 296) C t71 dX11_list_296 ?_
      refine r_iast (pc := 297) C t70 dX11_list_297 (fun S72 => ?_)
      refine r_iinc (pc := 298) C (k := 2) (1 : Int32) (fun v73 => [(3, .int v73), (0, .ref (base + k0)), (1, .int v1)]) dX11_list_298 hl rfl (by decide) (Nat.le_of_ble_eq_true rfl) (fun _ => rfl) (fun v73 ls hl => ?_)
      refine r_goto (pc := 301) C (tgt := 278) dX11_list_301 (by decide) ?_
      exact ih S72 v73 _ (lv_sub hl [1, 2, 0] rfl)

set_option maxHeartbeats 4000000 in
set_option maxRecDepth 100000 in
theorem sm_X11_list {p : Program} {l : Launch} {e : Env} {s : State} {m : MethodId} {args : Array Value} {below : List Frame} {meth : Method} {c : Code} {D : va_G} {cy : Nat → ClassId} {base tS : Nat} {S : St} {k0 : Nat} {ls : Array Slot} (C : Cx p rm_X11_list s m args c RX11 cX11_list 4 D cy base tS 0 0) (hr : meth.sig.returnType = (some .int)) (hk : meth.locks = false) (t0 : cls k0 = 11) (hl : lv_has ls 4 [(0, .ref (base + k0))]) : Sim p l e rm_X11_list s m args below meth c D cy base 0 0 (fun S1 r => MQ below (QcI D cy base tS S1 r) args s 0 0 (AA base)) (X11_list S k0) S (F0 m 0 ls []) := by
  unfold X11_list
  refine r_aload_n (pc := 0) C dX11_list_0 rfl (lv_at hl 0 rfl) ?_
  refine gf_X11_114 (pc := 1) C t0 dX11_list_1 ?_
  refine r_if_ne (pc := 4) C (tgt := 14) dX11_list_4 (by decide) (fun _ => ?_) (fun _ => ?_)
  · refine r_aload_n (pc := 14) C dX11_list_14 rfl (lv_at hl 0 rfl) ?_
    refine cv_X11_190 (pc := 15) C t0 hl.1 ⟨Nat.le_of_ble_eq_true rfl, Nat.le_of_ble_eq_true rfl⟩ (Nat.le_of_ble_eq_true rfl) dX11_list_15 (fun S21 v22 => ?_)
    refine r_if_ne (pc := 18) C (tgt := 28) dX11_list_18 (by decide) (fun _ => ?_) (fun _ => ?_)
    · refine r_iconst (pc := 28) C (0 : Int32) dX11_list_28 (by decide) ?_
      refine r_istore_n (lv2 := [(1, .int (0 : Int32)), (0, .ref (base + k0))]) (pc := 29) C dX11_list_29 rfl hl (Nat.le_of_ble_eq_true rfl) rfl (fun ls hl => ?_)
      refine r_iconst (pc := 30) C (0 : Int32) dX11_list_30 (by decide) ?_
      refine r_istore_n (lv2 := [(2, .int (0 : Int32)), (1, .int (0 : Int32)), (0, .ref (base + k0))]) (pc := 31) C dX11_list_31 rfl hl (Nat.le_of_ble_eq_true rfl) rfl (fun ls hl => ?_)
      refine r_iconst (pc := 32) C (0 : Int32) dX11_list_32 (by decide) ?_
      refine r_istore_n (lv2 := [(3, .int (0 : Int32)), (2, .int (0 : Int32)), (1, .int (0 : Int32)), (0, .ref (base + k0))]) (pc := 33) C dX11_list_33 rfl hl (Nat.le_of_ble_eq_true rfl) rfl (fun ls hl => ?_)
      refine lp_X11_list_34 (ls := ls) C hr hk t0 (fun S26 v27 ls hl => ?_) FU S21 (0 : Int32) _ (lv_sub hl [3, 2, 1, 0] rfl)
      refine lp_X11_list_55 (ls := ls) C hr hk t0 (fun S67 v68 v69 ls hl => ?_) FU S26 (0 : Int32) (0 : Int32) _ (lv_sub hl [0, 1, 2] rfl)
      refine r_iconst (pc := 276) C (0 : Int32) dX11_list_276 (by decide) ?_
      refine r_istore_n (lv2 := [(3, .int (0 : Int32)), (0, .ref (base + k0)), (1, .int v68), (2, .int v69)]) (pc := 277) C dX11_list_277 rfl hl (Nat.le_of_ble_eq_true rfl) rfl (fun ls hl => ?_)
      refine lp_X11_list_278 (ls := ls) C hr hk t0 (fun S74 v75 ls hl => ?_) FU S67 (0 : Int32) _ (lv_sub hl [1, 2, 0] rfl)
      refine r_aload_n (pc := 304) C dX11_list_304 rfl (lv_at hl 0 rfl) ?_
      refine r_iload_n (pc := 305) C dX11_list_305 rfl (lv_at hl 1 rfl) ?_
      refine pf_X11_140 (pc := 306) C t0 dX11_list_306 (fun S76 => ?_)
      refine r_iload_n (pc := 309) C dX11_list_309 rfl (lv_at hl 1 rfl) ?_
      exact r_iret (pc := 310) C hr hk dX11_list_310
    · refine r_aload_n (pc := 21) C dX11_list_21 rfl (lv_at hl 0 rfl) ?_
      refine r_bipush (pc := 22) C (-12 : Int32) dX11_list_22 (by decide) ?_
      refine cv_X11_118 (pc := 24) C t0 hl.1 ⟨Nat.le_of_ble_eq_true rfl, Nat.le_of_ble_eq_true rfl⟩ (Nat.le_of_ble_eq_true rfl) dX11_list_24 (fun S77 v78 => ?_)
      exact r_iret (pc := 27) C hr hk dX11_list_27
  · refine r_aload_n (pc := 7) C dX11_list_7 rfl (lv_at hl 0 rfl) ?_
    refine r_bipush (pc := 8) C (-8 : Int32) dX11_list_8 (by decide) ?_
    refine cv_X11_118 (pc := 10) C t0 hl.1 ⟨Nat.le_of_ble_eq_true rfl, Nat.le_of_ble_eq_true rfl⟩ (Nat.le_of_ble_eq_true rfl) dX11_list_10 (fun S79 v80 => ?_)
    exact r_iret (pc := 13) C hr hk dX11_list_13

theorem ct_X11_list (l : Launch) {D : va_G} {cy : Nat → ClassId} {base tS : Nat} {S : St} {k0 : Nat} (t0 : cls k0 = 11) {S1 : St} {r1 : Int32} (h : X11_list S k0 = some (S1, r1)) : Met l yX11_list (wsY yX11_list cX11_list 4 (some .int)) rm_X11_list (va_Pc [.ref (base + k0)] (World D cy base tS S)) (QcI D cy base tS S1 r1) 0 0 (AA base) := conI rfl rfl (by decide) (Nat.le_of_ble_eq_true rfl) (fun p e s m args below meth c ls C hr hk hl => sm_X11_list C hr hk t0 hl) h
abbrev rm_X11_listed : Room := { frames := 2, cells := 0, slots := 0, locals := 43 }
set_option maxHeartbeats 4000000 in
set_option maxRecDepth 100000 in
theorem sm_X11_listed {p : Program} {l : Launch} {e : Env} {s : State} {m : MethodId} {args : Array Value} {below : List Frame} {meth : Method} {c : Code} {D : va_G} {cy : Nat → ClassId} {base tS : Nat} {S : St} {k0 : Nat} {v1 : Int32} {v2 : Int32} {ls : Array Slot} (C : Cx p rm_X11_listed s m args c RX11 cX11_listed 3 D cy base tS 0 0) (hr : meth.sig.returnType = (some .int)) (hk : meth.locks = false) (t0 : cls k0 = 11) (hl : lv_has ls 3 [(0, .ref (base + k0)), (1, .int v1), (2, .int v2)]) : Sim p l e rm_X11_listed s m args below meth c D cy base 0 0 (fun S1 r => MQ below (QcI D cy base tS S1 r) args s 0 0 (AA base)) (X11_listed S k0 v1 v2) S (F0 m 0 ls []) := by
  unfold X11_listed
  refine r_iload_n (pc := 0) C dX11_listed_0 rfl (lv_at hl 1 rfl) ?_
  refine r_iconst (pc := 1) C (0 : Int32) dX11_listed_1 (by decide) ?_
  refine r_aload_n (pc := 2) C dX11_listed_2 rfl (lv_at hl 0 rfl) ?_
  refine gf_X11_140 (pc := 3) C t0 dX11_listed_3 ?_
  refine r_iconst (pc := 6) C (1 : Int32) dX11_listed_6 (by decide) ?_
  refine r_isub (pc := 7) C dX11_listed_7 ?_
  refine cv_X11_98 (pc := 8) C  hl.1 ⟨Nat.le_of_ble_eq_true rfl, Nat.le_of_ble_eq_true rfl⟩ (Nat.le_of_ble_eq_true rfl) dX11_listed_8 (fun S21 v22 => ?_)
  refine r_if_ne (pc := 11) C (tgt := 21) dX11_listed_11 (by decide) (fun _ => ?_) (fun _ => ?_)
  · refine r_aload_n (pc := 21) C dX11_listed_21 rfl (lv_at hl 0 rfl) ?_
    refine r_iload_n (pc := 22) C dX11_listed_22 rfl (lv_at hl 2 rfl) ?_
    refine cv_X11_121 (pc := 23) C t0 hl.1 ⟨Nat.le_of_ble_eq_true rfl, Nat.le_of_ble_eq_true rfl⟩ (Nat.le_of_ble_eq_true rfl) dX11_listed_23 (fun S23 v24 => ?_)
    refine r_if_eq (pc := 26) C (tgt := 43) dX11_listed_26 (by decide) (fun _ => ?_) (fun _ => ?_)
    · refine r_aload_n (pc := 43) C dX11_listed_43 rfl (lv_at hl 0 rfl) ?_
      refine r_iconst (pc := 44) C (-1 : Int32) dX11_listed_44 (by decide) ?_
      refine cv_X11_118 (pc := 45) C t0 hl.1 ⟨Nat.le_of_ble_eq_true rfl, Nat.le_of_ble_eq_true rfl⟩ (Nat.le_of_ble_eq_true rfl) dX11_listed_45 (fun S25 v26 => ?_)
      exact r_iret (pc := 48) C hr hk dX11_listed_48
    · refine r_aload_n (pc := 29) C dX11_listed_29 rfl (lv_at hl 0 rfl) ?_
      refine gf_X11_43 (pc := 30) C t0 dX11_listed_30 ?_
      have t27 := ft_11_17 t0
      refine r_bipush (pc := 33) C (12 : Int32) dX11_listed_33 (by decide) ?_
      refine r_iload_n (pc := 35) C dX11_listed_35 rfl (lv_at hl 1 rfl) ?_
      refine r_imul (pc := 36) C dX11_listed_36 ?_
      refine r_iload_n (pc := 37) C dX11_listed_37 rfl (lv_at hl 2 rfl) ?_
      refine r_iadd (pc := 38) C dX11_listed_38 ?_
      refine r_iald (pc := 39) C t27 dX11_listed_39 ?_
      refine r_goto (pc := 40) C (tgt := 48) dX11_listed_40 (by decide) ?_
      exact r_iret (pc := 48) C hr hk dX11_listed_48
  · refine r_aload_n (pc := 14) C dX11_listed_14 rfl (lv_at hl 0 rfl) ?_
    refine r_bipush (pc := 15) C (-11 : Int32) dX11_listed_15 (by decide) ?_
    refine cv_X11_118 (pc := 17) C t0 hl.1 ⟨Nat.le_of_ble_eq_true rfl, Nat.le_of_ble_eq_true rfl⟩ (Nat.le_of_ble_eq_true rfl) dX11_listed_17 (fun S28 v29 => ?_)
    exact r_iret (pc := 20) C hr hk dX11_listed_20

theorem ct_X11_listed (l : Launch) {D : va_G} {cy : Nat → ClassId} {base tS : Nat} {S : St} {k0 : Nat} {v1 : Int32} {v2 : Int32} (t0 : cls k0 = 11) {S1 : St} {r1 : Int32} (h : X11_listed S k0 v1 v2 = some (S1, r1)) : Met l yX11_listed (wsY yX11_listed cX11_listed 3 (some .int)) rm_X11_listed (va_Pc [.ref (base + k0), .int v1, .int v2] (World D cy base tS S)) (QcI D cy base tS S1 r1) 0 0 (AA base) := conI rfl rfl (by decide) (Nat.le_of_ble_eq_true rfl) (fun p e s m args below meth c ls C hr hk hl => sm_X11_listed C hr hk t0 hl) h
abbrev rm_X11_isTerrace : Room := { frames := 1, cells := 0, slots := 0, locals := 22 }
set_option maxHeartbeats 4000000 in
set_option maxRecDepth 100000 in
theorem sm_X11_isTerrace {p : Program} {l : Launch} {e : Env} {s : State} {m : MethodId} {args : Array Value} {below : List Frame} {meth : Method} {c : Code} {D : va_G} {cy : Nat → ClassId} {base tS : Nat} {S : St} {v0 : Int32} {ls : Array Slot} (C : Cx p rm_X11_isTerrace s m args c RX11 cX11_isTerrace 1 D cy base tS 0 0) (hr : meth.sig.returnType = (some .boolean)) (hk : meth.locks = false)  (hl : lv_has ls 1 [(0, .int v0)]) : Sim p l e rm_X11_isTerrace s m args below meth c D cy base 0 0 (fun S1 r => MQ below (QcI D cy base tS S1 r) args s 0 0 (AA base)) (X11_isTerrace S v0) S (F0 m 0 ls []) := by
  unfold X11_isTerrace
  refine r_iload_n (pc := 0) C dX11_isTerrace_0 rfl (lv_at hl 0 rfl) ?_
  refine r_iconst (pc := 1) C (0 : Int32) dX11_isTerrace_1 (by decide) ?_
  refine r_iconst (pc := 2) C (3 : Int32) dX11_isTerrace_2 (by decide) ?_
  refine cv_X11_98 (pc := 3) C  hl.1 ⟨Nat.le_of_ble_eq_true rfl, Nat.le_of_ble_eq_true rfl⟩ (Nat.le_of_ble_eq_true rfl) dX11_isTerrace_3 (fun S21 v22 => ?_)
  exact r_zretG (pc := 6) C hr hk dX11_isTerrace_6

theorem ct_X11_isTerrace (l : Launch) {D : va_G} {cy : Nat → ClassId} {base tS : Nat} {S : St} {v0 : Int32}  {S1 : St} {r1 : Int32} (h : X11_isTerrace S v0 = some (S1, r1)) : Met l yX11_isTerrace (wsY yX11_isTerrace cX11_isTerrace 1 (some .boolean)) rm_X11_isTerrace (va_Pc [.int v0] (World D cy base tS S)) (QcI D cy base tS S1 r1) 0 0 (AA base) := conI rfl rfl (by decide) (Nat.le_of_ble_eq_true rfl) (fun p e s m args below meth c ls C hr hk hl => sm_X11_isTerrace C hr hk  hl) h
theorem cv_X11_216 {p : Program} {l : Launch} {e : Env} {R : Room} {s : State} {m : MethodId} {args : Array Value} {below : List Frame} {meth : Method} {c : Code} {D : va_G} {cy : Nat → ClassId} {base tS nc ns : Nat} {cc : ByteArray} {nL pc : Nat} {ls : Array Slot} {rest : List Value} {S : St} {ρ : Type} {Q : St → ρ → State → Prop} (C : Cx p R s m args c RX11 cc nL D cy base tS nc ns) {v0 : Int32}  (hl : ls.size = nL) (hR : rm_X11_isTerrace.frames + 1 ≤ R.frames ∧ 8 + (1 + 11) + rm_X11_isTerrace.locals ≤ R.locals) {b : St → Int32 → Option (St × ρ)} (hroom : (rest.map fun v => v.category).sum ≤ 8) (hd : decode cc pc = .ok (.invokestatic 216, 3)) (kk : ∀ (S1 : St) (r : Int32), Sim p l e R s m args below meth c D cy base nc ns Q (b S1 r) S1 (F0 m (pc + 3) ls (.int r :: rest))) : Sim p l e R s m args below meth c D cy base nc ns Q (bd (X11_isTerrace S v0) b) S (F0 m pc ls (.int v0 :: rest)) := r_callSI (n := 1) (As := [.int v0]) C hl (fun S1 r1 h => ct_X11_isTerrace l  h) wd_580 wd_581 wd_497 wd_582 rfl rfl (by decide +kernel) hR rfl rfl hroom hd kk
abbrev rm_X11_terrace : Room := { frames := 2, cells := 0, slots := 0, locals := 42 }
set_option maxHeartbeats 4000000 in
set_option maxRecDepth 100000 in
theorem lp_X11_terrace_89 {p : Program} {l : Launch} {e : Env} {s : State} {m : MethodId} {args : Array Value} {below : List Frame} {meth : Method} {c : Code} {D : va_G} {cy : Nat → ClassId} {base tS : Nat} {ls : Array Slot} (C : Cx p rm_X11_terrace s m args c RX11 cX11_terrace 5 D cy base tS 0 0) (hr : meth.sig.returnType = (some .int)) (hk : meth.locks = false) {k0 : Nat} {v1 : Int32} (t0 : cls k0 = 11) {K : St → Int32 → Option (St × Int32)} (hK : ∀ (S : St) (v4 : Int32) (ls : Array Slot), lv_has ls 5 [(0, .ref (base + k0)), (1, .int v1), (4, .int v4)] → Sim p l e rm_X11_terrace s m args below meth c D cy base 0 0 (fun S1 r => MQ below (QcI D cy base tS S1 r) args s 0 0 (AA base)) (K S v4) S (F0 m 115 ls [])) : ∀ (n : Nat) (S : St) (v4 : Int32) (ls : Array Slot), lv_has ls 5 [(0, .ref (base + k0)), (1, .int v1), (4, .int v4)] → Sim p l e rm_X11_terrace s m args below meth c D cy base 0 0 (fun S1 r => MQ below (QcI D cy base tS S1 r) args s 0 0 (AA base)) (X11_terrace_89 k0 v1 K n S v4) S (F0 m 89 ls []) := by
  intro n
  induction n with
  | zero => intro S v4 ls hl; exact Sim.none
  | succ n ih =>
    intro S v4 ls hl
    rw [X11_terrace_89]
    refine r_iload (pc := 89) C dX11_terrace_89 (lv_at hl 2 rfl) ?_
    refine r_bipush (pc := 91) C (16 : Int32) dX11_terrace_91 (by decide) ?_
    refine r_icmp_ge (pc := 93) C (tgt := 115) dX11_terrace_93 (by decide) (fun _ => ?_) (fun _ => ?_)
    · exact hK S v4 _ (lv_sub hl [0, 1, 2] rfl)
    · refine r_aload_n (pc := 96) C dX11_terrace_96 rfl (lv_at hl 0 rfl) ?_
      refine gf_X11_52 (pc := 97) C t0 dX11_terrace_97 ?_
      have t36 := ft_11_21 t0
      refine r_bipush (pc := 100) C (16 : Int32) dX11_terrace_100 (by decide) ?_
      refine r_iload_n (pc := 102) C dX11_terrace_102 rfl (lv_at hl 1 rfl) ?_
      refine r_imul (pc := 103) C dX11_terrace_103 ?_
      refine r_iload (pc := 104) C dX11_terrace_104 (lv_at hl 2 rfl) ?_
      refine r_iadd (pc := 106) C dX11_terrace_106 ?_
      refine r_lconst (pc := 107) C (0 : Int64) dX11_terrace_107 (by decide) ?_
      refine r_last (pc := 108) C t36 dX11_terrace_108 (fun S37 => ?_)
      refine r_iinc (pc := 109) C (k := 2) (1 : Int32) (fun v38 => [(4, .int v38), (0, .ref (base + k0)), (1, .int v1)]) dX11_terrace_109 hl rfl (by decide) (Nat.le_of_ble_eq_true rfl) (fun _ => rfl) (fun v38 ls hl => ?_)
      refine r_goto (pc := 112) C (tgt := 89) dX11_terrace_112 (by decide) ?_
      exact ih S37 v38 _ (lv_sub hl [1, 2, 0] rfl)

set_option maxHeartbeats 4000000 in
set_option maxRecDepth 100000 in
theorem sm_X11_terrace {p : Program} {l : Launch} {e : Env} {s : State} {m : MethodId} {args : Array Value} {below : List Frame} {meth : Method} {c : Code} {D : va_G} {cy : Nat → ClassId} {base tS : Nat} {S : St} {k0 : Nat} {v1 : Int32} {v2 : Int32} {v3 : Int32} {ls : Array Slot} (C : Cx p rm_X11_terrace s m args c RX11 cX11_terrace 5 D cy base tS 0 0) (hr : meth.sig.returnType = (some .int)) (hk : meth.locks = false) (t0 : cls k0 = 11) (hl : lv_has ls 5 [(0, .ref (base + k0)), (1, .int v1), (2, .int v2), (3, .int v3)]) : Sim p l e rm_X11_terrace s m args below meth c D cy base 0 0 (fun S1 r => MQ below (QcI D cy base tS S1 r) args s 0 0 (AA base)) (X11_terrace S k0 v1 v2 v3) S (F0 m 0 ls []) := by
  unfold X11_terrace
  refine r_iload_n (pc := 0) C dX11_terrace_0 rfl (lv_at hl 1 rfl) ?_
  refine cv_X11_216 (pc := 1) C  hl.1 ⟨Nat.le_of_ble_eq_true rfl, Nat.le_of_ble_eq_true rfl⟩ (Nat.le_of_ble_eq_true rfl) dX11_terrace_1 (fun S21 v22 => ?_)
  refine r_join (fun (j : St → Option (St × Int32)) => ∀ (S24 : St)  (ls : Array Slot), lv_has ls 5 [(0, .ref (base + k0))] → Sim p l e rm_X11_terrace s m args below meth c D cy base 0 0 (fun S1 r => MQ below (QcI D cy base tS S1 r) args s 0 0 (AA base)) (j S24) S24 (F0 m 35 ls [])) ?_ (fun j23 hj23 => ?_)
  · intro S24 ls hl
    refine r_aload_n (pc := 35) C dX11_terrace_35 rfl (lv_at hl 0 rfl) ?_
    refine r_iconst (pc := 36) C (-1 : Int32) dX11_terrace_36 (by decide) ?_
    refine cv_X11_118 (pc := 37) C t0 hl.1 ⟨Nat.le_of_ble_eq_true rfl, Nat.le_of_ble_eq_true rfl⟩ (Nat.le_of_ble_eq_true rfl) dX11_terrace_37 (fun S25 v26 => ?_)
    exact r_iret (pc := 40) C hr hk dX11_terrace_40
  refine r_if_eq (pc := 4) C (tgt := 35) dX11_terrace_4 (by decide) (fun _ => ?_) (fun _ => ?_)
  · exact hj23 S21  _ (lv_sub hl [0] rfl)
  · refine r_iload_n (pc := 7) C dX11_terrace_7 rfl (lv_at hl 2 rfl) ?_
    refine r_join (fun (j : St → Option (St × Int32)) => ∀ (S28 : St)  (ls : Array Slot), lv_has ls 5 [(0, .ref (base + k0)), (1, .int v1), (2, .int v2), (3, .int v3)] → Sim p l e rm_X11_terrace s m args below meth c D cy base 0 0 (fun S1 r => MQ below (QcI D cy base tS S1 r) args s 0 0 (AA base)) (j S28) S28 (F0 m 41 ls [])) ?_ (fun j27 hj27 => ?_)
    · intro S28 ls hl
      refine r_iload_n (pc := 41) C dX11_terrace_41 rfl (lv_at hl 3 rfl) ?_
      refine r_if_ge (pc := 42) C (tgt := 52) dX11_terrace_42 (by decide) (fun _ => ?_) (fun _ => ?_)
      · refine r_iload_n (pc := 52) C dX11_terrace_52 rfl (lv_at hl 3 rfl) ?_
        refine r_bipush (pc := 53) C (16 : Int32) dX11_terrace_53 (by decide) ?_
        refine r_icmp_le (pc := 55) C (tgt := 64) dX11_terrace_55 (by decide) (fun _ => ?_) (fun _ => ?_)
        · refine r_aload_n (pc := 64) C dX11_terrace_64 rfl (lv_at hl 0 rfl) ?_
          refine gf_X11_46 (pc := 65) C t0 dX11_terrace_65 ?_
          have t29 := ft_11_19 t0
          refine r_iload_n (pc := 68) C dX11_terrace_68 rfl (lv_at hl 1 rfl) ?_
          refine r_iload_n (pc := 69) C dX11_terrace_69 rfl (lv_at hl 2 rfl) ?_
          refine r_iast (pc := 70) C t29 dX11_terrace_70 (fun S30 => ?_)
          refine r_aload_n (pc := 71) C dX11_terrace_71 rfl (lv_at hl 0 rfl) ?_
          refine gf_X11_49 (pc := 72) C t0 dX11_terrace_72 ?_
          have t31 := ft_11_20 t0
          refine r_iload_n (pc := 75) C dX11_terrace_75 rfl (lv_at hl 1 rfl) ?_
          refine r_iload_n (pc := 76) C dX11_terrace_76 rfl (lv_at hl 2 rfl) ?_
          refine r_join (fun (j : St → Int32 → Option (St × Int32)) => ∀ (S33 : St) (v34 : Int32) (ls : Array Slot), lv_has ls 5 [(0, .ref (base + k0)), (1, .int v1)] → Sim p l e rm_X11_terrace s m args below meth c D cy base 0 0 (fun S1 r => MQ below (QcI D cy base tS S1 r) args s 0 0 (AA base)) (j S33 v34) S33 (F0 m 85 ls [.int v34, .int v1, .ref (base + (rf k0 20))])) ?_ (fun j32 hj32 => ?_)
          · intro S33 v34 ls hl
            refine r_iast (pc := 85) C t31 dX11_terrace_85 (fun S35 => ?_)
            refine r_iconst (pc := 86) C (0 : Int32) dX11_terrace_86 (by decide) ?_
            refine r_istore (lv2 := [(4, .int (0 : Int32)), (0, .ref (base + k0)), (1, .int v1)]) (pc := 87) C dX11_terrace_87 hl (Nat.le_of_ble_eq_true rfl) rfl (fun ls hl => ?_)
            refine lp_X11_terrace_89 (ls := ls) C hr hk t0 (fun S39 v40 ls hl => ?_) FU S35 (0 : Int32) _ (lv_sub hl [1, 2, 0] rfl)
            refine r_aload_n (pc := 115) C dX11_terrace_115 rfl (lv_at hl 0 rfl) ?_
            refine gf_X11_49 (pc := 116) C t0 dX11_terrace_116 ?_
            have t41 := ft_11_20 t0
            refine r_iload_n (pc := 119) C dX11_terrace_119 rfl (lv_at hl 1 rfl) ?_
            refine r_iald (pc := 120) C t41 dX11_terrace_120 ?_
            exact r_iret (pc := 121) C hr hk dX11_terrace_121
          refine r_if_ne (pc := 77) C (tgt := 84) dX11_terrace_77 (by decide) (fun _ => ?_) (fun _ => ?_)
          · refine r_iload_n (pc := 84) C dX11_terrace_84 rfl (lv_at hl 3 rfl) ?_
            exact hj32 S30 v3 _ (lv_sub hl [0, 1] rfl)
          · refine r_iconst (pc := 80) C (0 : Int32) dX11_terrace_80 (by decide) ?_
            refine r_goto (pc := 81) C (tgt := 85) dX11_terrace_81 (by decide) ?_
            exact hj32 S30 (0 : Int32) _ (lv_sub hl [0, 1] rfl)
        · refine r_aload_n (pc := 58) C dX11_terrace_58 rfl (lv_at hl 0 rfl) ?_
          refine r_iconst (pc := 59) C (-1 : Int32) dX11_terrace_59 (by decide) ?_
          refine cv_X11_118 (pc := 60) C t0 hl.1 ⟨Nat.le_of_ble_eq_true rfl, Nat.le_of_ble_eq_true rfl⟩ (Nat.le_of_ble_eq_true rfl) dX11_terrace_60 (fun S42 v43 => ?_)
          exact r_iret (pc := 63) C hr hk dX11_terrace_63
      · refine r_aload_n (pc := 45) C dX11_terrace_45 rfl (lv_at hl 0 rfl) ?_
        refine r_bipush (pc := 46) C (-3 : Int32) dX11_terrace_46 (by decide) ?_
        refine cv_X11_118 (pc := 48) C t0 hl.1 ⟨Nat.le_of_ble_eq_true rfl, Nat.le_of_ble_eq_true rfl⟩ (Nat.le_of_ble_eq_true rfl) dX11_terrace_48 (fun S44 v45 => ?_)
        exact r_iret (pc := 51) C hr hk dX11_terrace_51
    refine r_if_eq (pc := 8) C (tgt := 41) dX11_terrace_8 (by decide) (fun _ => ?_) (fun _ => ?_)
    · exact hj27 S21  _ (lv_sub hl [0, 1, 2, 3] rfl)
    · refine r_iload_n (pc := 11) C dX11_terrace_11 rfl (lv_at hl 2 rfl) ?_
      refine r_bipush (pc := 12) C (8 : Int32) dX11_terrace_12 (by decide) ?_
      refine r_icmp_eq (pc := 14) C (tgt := 41) dX11_terrace_14 (by decide) (fun _ => ?_) (fun _ => ?_)
      · exact hj27 S21  _ (lv_sub hl [0, 1, 2, 3] rfl)
      · refine r_iload_n (pc := 17) C dX11_terrace_17 rfl (lv_at hl 2 rfl) ?_
        refine r_bipush (pc := 18) C (16 : Int32) dX11_terrace_18 (by decide) ?_
        refine r_icmp_eq (pc := 20) C (tgt := 41) dX11_terrace_20 (by decide) (fun _ => ?_) (fun _ => ?_)
        · exact hj27 S21  _ (lv_sub hl [0, 1, 2, 3] rfl)
        · refine r_iload_n (pc := 23) C dX11_terrace_23 rfl (lv_at hl 2 rfl) ?_
          refine r_bipush (pc := 24) C (32 : Int32) dX11_terrace_24 (by decide) ?_
          refine r_icmp_eq (pc := 26) C (tgt := 41) dX11_terrace_26 (by decide) (fun _ => ?_) (fun _ => ?_)
          · exact hj27 S21  _ (lv_sub hl [0, 1, 2, 3] rfl)
          · refine r_iload_n (pc := 29) C dX11_terrace_29 rfl (lv_at hl 2 rfl) ?_
            refine r_bipush (pc := 30) C (64 : Int32) dX11_terrace_30 (by decide) ?_
            refine r_icmp_eq (pc := 32) C (tgt := 41) dX11_terrace_32 (by decide) (fun _ => ?_) (fun _ => ?_)
            · exact hj27 S21  _ (lv_sub hl [0, 1, 2, 3] rfl)
            · exact hj23 S21  _ (lv_sub hl [0] rfl)

theorem ct_X11_terrace (l : Launch) {D : va_G} {cy : Nat → ClassId} {base tS : Nat} {S : St} {k0 : Nat} {v1 : Int32} {v2 : Int32} {v3 : Int32} (t0 : cls k0 = 11) {S1 : St} {r1 : Int32} (h : X11_terrace S k0 v1 v2 v3 = some (S1, r1)) : Met l yX11_terrace (wsY yX11_terrace cX11_terrace 5 (some .int)) rm_X11_terrace (va_Pc [.ref (base + k0), .int v1, .int v2, .int v3] (World D cy base tS S)) (QcI D cy base tS S1 r1) 0 0 (AA base) := conI rfl rfl (by decide) (Nat.le_of_ble_eq_true rfl) (fun p e s m args below meth c ls C hr hk hl => sm_X11_terrace C hr hk t0 hl) h
abbrev rm_X11_put : Room := { frames := 2, cells := 0, slots := 0, locals := 42 }
set_option maxHeartbeats 4000000 in
set_option maxRecDepth 100000 in
theorem sm_X11_put {p : Program} {l : Launch} {e : Env} {s : State} {m : MethodId} {args : Array Value} {below : List Frame} {meth : Method} {c : Code} {D : va_G} {cy : Nat → ClassId} {base tS : Nat} {S : St} {k0 : Nat} {v1 : Int32} {v2 : Int32} {v3 : Int64} {ls : Array Slot} (C : Cx p rm_X11_put s m args c RX11 cX11_put 7 D cy base tS 0 0) (hr : meth.sig.returnType = (some .long)) (hk : meth.locks = false) (t0 : cls k0 = 11) (hl : lv_has ls 7 [(0, .ref (base + k0)), (1, .int v1), (2, .int v2), (3, .long v3)]) : Sim p l e rm_X11_put s m args below meth c D cy base 0 0 (fun S1 r => MQ below (QcJ D cy base tS S1 r) args s 0 0 (AA base)) (X11_put S k0 v1 v2 v3) S (F0 m 0 ls []) := by
  unfold X11_put
  refine r_iload_n (pc := 0) C dX11_put_0 rfl (lv_at hl 1 rfl) ?_
  refine cv_X11_216 (pc := 1) C  hl.1 ⟨Nat.le_of_ble_eq_true rfl, Nat.le_of_ble_eq_true rfl⟩ (Nat.le_of_ble_eq_true rfl) dX11_put_1 (fun S21 v22 => ?_)
  refine r_join (fun (j : St → Option (St × Int64)) => ∀ (S24 : St)  (ls : Array Slot), lv_has ls 7 [(0, .ref (base + k0))] → Sim p l e rm_X11_put s m args below meth c D cy base 0 0 (fun S1 r => MQ below (QcJ D cy base tS S1 r) args s 0 0 (AA base)) (j S24) S24 (F0 m 32 ls [])) ?_ (fun j23 hj23 => ?_)
  · intro S24 ls hl
    refine r_aload_n (pc := 32) C dX11_put_32 rfl (lv_at hl 0 rfl) ?_
    refine r_dup (pc := 33) C dX11_put_33 rfl ?_
    refine gf_X11_91 (pc := 34) C t0 dX11_put_34 ?_
    refine r_iconst (pc := 37) C (1 : Int32) dX11_put_37 (by decide) ?_
    refine r_iadd (pc := 38) C dX11_put_38 ?_
    refine pf_X11_91 (pc := 39) C t0 dX11_put_39 (fun S25 => ?_)
    refine r_ldc2 (pc := 42) C (-9223372036854775808 : Int64) wd_84 dX11_put_42 ?_
    exact r_lret (pc := 45) C hr hk dX11_put_45
  refine r_if_eq (pc := 4) C (tgt := 32) dX11_put_4 (by decide) (fun _ => ?_) (fun _ => ?_)
  · exact hj23 S21  _ (lv_sub hl [0] rfl)
  · refine r_aload_n (pc := 7) C dX11_put_7 rfl (lv_at hl 0 rfl) ?_
    refine gf_X11_46 (pc := 8) C t0 dX11_put_8 ?_
    have t26 := ft_11_19 t0
    refine r_iload_n (pc := 11) C dX11_put_11 rfl (lv_at hl 1 rfl) ?_
    refine r_iald (pc := 12) C t26 dX11_put_12 ?_
    refine r_if_eq (pc := 13) C (tgt := 32) dX11_put_13 (by decide) (fun _ => ?_) (fun _ => ?_)
    · exact hj23 S21  _ (lv_sub hl [0] rfl)
    · refine r_iload_n (pc := 16) C dX11_put_16 rfl (lv_at hl 2 rfl) ?_
      refine r_iconst (pc := 17) C (0 : Int32) dX11_put_17 (by decide) ?_
      refine r_aload_n (pc := 18) C dX11_put_18 rfl (lv_at hl 0 rfl) ?_
      refine gf_X11_49 (pc := 19) C t0 dX11_put_19 ?_
      have t27 := ft_11_20 t0
      refine r_iload_n (pc := 22) C dX11_put_22 rfl (lv_at hl 1 rfl) ?_
      refine r_iald (pc := 23) C t27 dX11_put_23 ?_
      refine r_iconst (pc := 24) C (1 : Int32) dX11_put_24 (by decide) ?_
      refine r_isub (pc := 25) C dX11_put_25 ?_
      refine cv_X11_98 (pc := 26) C  hl.1 ⟨Nat.le_of_ble_eq_true rfl, Nat.le_of_ble_eq_true rfl⟩ (Nat.le_of_ble_eq_true rfl) dX11_put_26 (fun S28 v29 => ?_)
      refine r_if_ne (pc := 29) C (tgt := 46) dX11_put_29 (by decide) (fun _ => ?_) (fun _ => ?_)
      · refine r_aload_n (pc := 46) C dX11_put_46 rfl (lv_at hl 0 rfl) ?_
        refine gf_X11_46 (pc := 47) C t0 dX11_put_47 ?_
        have t30 := ft_11_19 t0
        refine r_iload_n (pc := 50) C dX11_put_50 rfl (lv_at hl 1 rfl) ?_
        refine r_iald (pc := 51) C t30 dX11_put_51 ?_
        refine r_bipush (pc := 52) C (8 : Int32) dX11_put_52 (by decide) ?_
        refine r_join (fun (j : St → Int64 → Option (St × Int64)) => ∀ (S32 : St) (v33 : Int64) (ls : Array Slot), lv_has ls 7 [(0, .ref (base + k0)), (1, .int v1), (2, .int v2)] → Sim p l e rm_X11_put s m args below meth c D cy base 0 0 (fun S1 r => MQ below (QcJ D cy base tS S1 r) args s 0 0 (AA base)) (j S32 v33) S32 (F0 m 100 ls [.long v33])) ?_ (fun j31 hj31 => ?_)
        · intro S32 v33 ls hl
          refine r_lstore (lv2 := [(5, .long v33), (0, .ref (base + k0)), (1, .int v1), (2, .int v2)]) (pc := 100) C dX11_put_100 hl (Nat.le_of_ble_eq_true rfl) rfl (fun ls hl => ?_)
          refine r_aload_n (pc := 102) C dX11_put_102 rfl (lv_at hl 1 rfl) ?_
          refine gf_X11_52 (pc := 103) C t0 dX11_put_103 ?_
          have t34 := ft_11_21 t0
          refine r_bipush (pc := 106) C (16 : Int32) dX11_put_106 (by decide) ?_
          refine r_iload_n (pc := 108) C dX11_put_108 rfl (lv_at hl 2 rfl) ?_
          refine r_imul (pc := 109) C dX11_put_109 ?_
          refine r_iload_n (pc := 110) C dX11_put_110 rfl (lv_at hl 3 rfl) ?_
          refine r_iadd (pc := 111) C dX11_put_111 ?_
          refine r_lload (pc := 112) C dX11_put_112 (lv_at hl 0 rfl) ?_
          refine r_last (pc := 114) C t34 dX11_put_114 (fun S35 => ?_)
          refine r_lload (pc := 115) C dX11_put_115 (lv_at hl 0 rfl) ?_
          exact r_lret (pc := 117) C hr hk dX11_put_117
        refine r_icmp_ne (pc := 54) C (tgt := 64) dX11_put_54 (by decide) (fun _ => ?_) (fun _ => ?_)
        · refine r_aload_n (pc := 64) C dX11_put_64 rfl (lv_at hl 0 rfl) ?_
          refine gf_X11_46 (pc := 65) C t0 dX11_put_65 ?_
          have t36 := ft_11_19 t0
          refine r_iload_n (pc := 68) C dX11_put_68 rfl (lv_at hl 1 rfl) ?_
          refine r_iald (pc := 69) C t36 dX11_put_69 ?_
          refine r_bipush (pc := 70) C (16 : Int32) dX11_put_70 (by decide) ?_
          refine r_icmp_ne (pc := 72) C (tgt := 82) dX11_put_72 (by decide) (fun _ => ?_) (fun _ => ?_)
          · refine r_aload_n (pc := 82) C dX11_put_82 rfl (lv_at hl 0 rfl) ?_
            refine gf_X11_46 (pc := 83) C t0 dX11_put_83 ?_
            have t37 := ft_11_19 t0
            refine r_iload_n (pc := 86) C dX11_put_86 rfl (lv_at hl 1 rfl) ?_
            refine r_iald (pc := 87) C t37 dX11_put_87 ?_
            refine r_bipush (pc := 88) C (32 : Int32) dX11_put_88 (by decide) ?_
            refine r_icmp_ne (pc := 90) C (tgt := 99) dX11_put_90 (by decide) (fun _ => ?_) (fun _ => ?_)
            · refine r_lload_n (pc := 99) C dX11_put_99 rfl (lv_at hl 3 rfl) ?_
              exact hj31 S28 v3 _ (lv_sub hl [0, 1, 2] rfl)
            · refine r_lload_n (pc := 93) C dX11_put_93 rfl (lv_at hl 3 rfl) ?_
              refine r_l2i (pc := 94) C dX11_put_94 ?_
              refine r_i2l (pc := 95) C dX11_put_95 ?_
              refine r_goto (pc := 96) C (tgt := 100) dX11_put_96 (by decide) ?_
              exact hj31 S28 (Int32.toInt64 (Int64.toInt32 v3)) _ (lv_sub hl [0, 1, 2] rfl)
          · refine r_lload_n (pc := 75) C dX11_put_75 rfl (lv_at hl 3 rfl) ?_
            refine r_l2i (pc := 76) C dX11_put_76 ?_
            refine r_i2s (pc := 77) C dX11_put_77 ?_
            refine r_i2l (pc := 78) C dX11_put_78 ?_
            refine r_goto (pc := 79) C (tgt := 100) dX11_put_79 (by decide) ?_
            exact hj31 S28 (Int32.toInt64 (Int16.toInt32 (Int32.toInt16 (Int64.toInt32 v3)))) _ (lv_sub hl [0, 1, 2] rfl)
        · refine r_lload_n (pc := 57) C dX11_put_57 rfl (lv_at hl 3 rfl) ?_
          refine r_l2i (pc := 58) C dX11_put_58 ?_
          refine r_i2b (pc := 59) C dX11_put_59 ?_
          refine r_i2l (pc := 60) C dX11_put_60 ?_
          refine r_goto (pc := 61) C (tgt := 100) dX11_put_61 (by decide) ?_
          exact hj31 S28 (Int32.toInt64 (Int8.toInt32 (Int32.toInt8 (Int64.toInt32 v3)))) _ (lv_sub hl [0, 1, 2] rfl)
      · exact hj23 S28  _ (lv_sub hl [0] rfl)

theorem ct_X11_put (l : Launch) {D : va_G} {cy : Nat → ClassId} {base tS : Nat} {S : St} {k0 : Nat} {v1 : Int32} {v2 : Int32} {v3 : Int64} (t0 : cls k0 = 11) {S1 : St} {r1 : Int64} (h : X11_put S k0 v1 v2 v3 = some (S1, r1)) : Met l yX11_put (wsY yX11_put cX11_put 7 (some .long)) rm_X11_put (va_Pc [.ref (base + k0), .int v1, .int v2, .long v3] (World D cy base tS S)) (QcJ D cy base tS S1 r1) 0 0 (AA base) := conJ rfl rfl (by decide) (Nat.le_of_ble_eq_true rfl) (fun p e s m args below meth c ls C hr hk hl => sm_X11_put C hr hk t0 hl) h
abbrev rm_X11_copy : Room := { frames := 2, cells := 0, slots := 0, locals := 42 }
set_option maxHeartbeats 4000000 in
set_option maxRecDepth 100000 in
theorem lp_X11_copy_125 {p : Program} {l : Launch} {e : Env} {s : State} {m : MethodId} {args : Array Value} {below : List Frame} {meth : Method} {c : Code} {D : va_G} {cy : Nat → ClassId} {base tS : Nat} {ls : Array Slot} (C : Cx p rm_X11_copy s m args c RX11 cX11_copy 7 D cy base tS 0 0) (hr : meth.sig.returnType = (some .int)) (hk : meth.locks = false) {k0 : Nat} {v1 : Int32} {v2 : Int32} {v3 : Int32} {v4 : Int32} {v5 : Int32} (t0 : cls k0 = 11) {K : St → Int32 → Option (St × Int32)} (hK : ∀ (S : St) (v6 : Int32) (ls : Array Slot), lv_has ls 7 [(0, .ref (base + k0)), (1, .int v1), (2, .int v2), (3, .int v3), (4, .int v4), (5, .int v5), (6, .int v6)] → Sim p l e rm_X11_copy s m args below meth c D cy base 0 0 (fun S1 r => MQ below (QcI D cy base tS S1 r) args s 0 0 (AA base)) (K S v6) S (F0 m 159 ls [])) : ∀ (n : Nat) (S : St) (v6 : Int32) (ls : Array Slot), lv_has ls 7 [(0, .ref (base + k0)), (1, .int v1), (2, .int v2), (3, .int v3), (4, .int v4), (5, .int v5), (6, .int v6)] → Sim p l e rm_X11_copy s m args below meth c D cy base 0 0 (fun S1 r => MQ below (QcI D cy base tS S1 r) args s 0 0 (AA base)) (X11_copy_125 k0 v1 v2 v3 v4 v5 K n S v6) S (F0 m 125 ls []) := by
  intro n
  induction n with
  | zero => intro S v6 ls hl; exact Sim.none
  | succ n ih =>
    intro S v6 ls hl
    rw [X11_copy_125]
    refine r_iload (pc := 125) C dX11_copy_125 (lv_at hl 6 rfl) ?_
    refine r_iload (pc := 127) C dX11_copy_127 (lv_at hl 5 rfl) ?_
    refine r_icmp_ge (pc := 129) C (tgt := 159) dX11_copy_129 (by decide) (fun _ => ?_) (fun _ => ?_)
    · exact hK S v6 _ (lv_sub hl [0, 1, 2, 3, 4, 5, 6] rfl)
    · refine r_aload_n (pc := 132) C dX11_copy_132 rfl (lv_at hl 0 rfl) ?_
      refine gf_X11_88 (pc := 133) C t0 dX11_copy_133 ?_
      have t43 := ft_11_36 t0
      refine r_iload (pc := 136) C dX11_copy_136 (lv_at hl 6 rfl) ?_
      refine r_aload_n (pc := 138) C dX11_copy_138 rfl (lv_at hl 0 rfl) ?_
      refine gf_X11_52 (pc := 139) C t0 dX11_copy_139 ?_
      have t44 := ft_11_21 t0
      refine r_bipush (pc := 142) C (16 : Int32) dX11_copy_142 (by decide) ?_
      refine r_iload_n (pc := 144) C dX11_copy_144 rfl (lv_at hl 1 rfl) ?_
      refine r_imul (pc := 145) C dX11_copy_145 ?_
      refine r_iload_n (pc := 146) C dX11_copy_146 rfl (lv_at hl 2 rfl) ?_
      refine r_iadd (pc := 147) C dX11_copy_147 ?_
      refine r_iload (pc := 148) C dX11_copy_148 (lv_at hl 6 rfl) ?_
      refine r_iadd (pc := 150) C dX11_copy_150 ?_
      refine r_lald (pc := 151) C t44 dX11_copy_151 ?_
      refine r_last (pc := 152) C t43 dX11_copy_152 (fun S45 => ?_)
      refine r_iinc (pc := 153) C (k := 6) (1 : Int32) (fun v46 => [(6, .int v46), (0, .ref (base + k0)), (1, .int v1), (2, .int v2), (3, .int v3), (4, .int v4), (5, .int v5)]) dX11_copy_153 hl rfl (by decide) (Nat.le_of_ble_eq_true rfl) (fun _ => rfl) (fun v46 ls hl => ?_)
      refine r_goto (pc := 156) C (tgt := 125) dX11_copy_156 (by decide) ?_
      exact ih S45 v46 _ (lv_sub hl [1, 2, 3, 4, 5, 6, 0] rfl)

set_option maxHeartbeats 4000000 in
set_option maxRecDepth 100000 in
theorem lp_X11_copy_162 {p : Program} {l : Launch} {e : Env} {s : State} {m : MethodId} {args : Array Value} {below : List Frame} {meth : Method} {c : Code} {D : va_G} {cy : Nat → ClassId} {base tS : Nat} {ls : Array Slot} (C : Cx p rm_X11_copy s m args c RX11 cX11_copy 7 D cy base tS 0 0) (hr : meth.sig.returnType = (some .int)) (hk : meth.locks = false) {k0 : Nat} {v3 : Int32} {v4 : Int32} {v5 : Int32} (t0 : cls k0 = 11) {K : St → Int32 → Option (St × Int32)} (hK : ∀ (S : St) (v6 : Int32) (ls : Array Slot), lv_has ls 7 [(0, .ref (base + k0)), (3, .int v3), (4, .int v4), (5, .int v5), (6, .int v6)] → Sim p l e rm_X11_copy s m args below meth c D cy base 0 0 (fun S1 r => MQ below (QcI D cy base tS S1 r) args s 0 0 (AA base)) (K S v6) S (F0 m 197 ls [])) : ∀ (n : Nat) (S : St) (v6 : Int32) (ls : Array Slot), lv_has ls 7 [(0, .ref (base + k0)), (3, .int v3), (4, .int v4), (5, .int v5), (6, .int v6)] → Sim p l e rm_X11_copy s m args below meth c D cy base 0 0 (fun S1 r => MQ below (QcI D cy base tS S1 r) args s 0 0 (AA base)) (X11_copy_162 k0 v3 v4 v5 K n S v6) S (F0 m 162 ls []) := by
  intro n
  induction n with
  | zero => intro S v6 ls hl; exact Sim.none
  | succ n ih =>
    intro S v6 ls hl
    rw [X11_copy_162]
    refine r_iload (pc := 162) C dX11_copy_162 (lv_at hl 4 rfl) ?_
    refine r_iload (pc := 164) C dX11_copy_164 (lv_at hl 3 rfl) ?_
    refine r_icmp_ge (pc := 166) C (tgt := 197) dX11_copy_166 (by decide) (fun _ => ?_) (fun _ => ?_)
    · exact hK S v6 _ (lv_sub hl [0, 1, 2, 3, 4] rfl)
    · refine r_aload_n (pc := 169) C dX11_copy_169 rfl (lv_at hl 0 rfl) ?_
      refine gf_X11_52 (pc := 170) C t0 dX11_copy_170 ?_
      have t49 := ft_11_21 t0
      refine r_bipush (pc := 173) C (16 : Int32) dX11_copy_173 (by decide) ?_
      refine r_iload_n (pc := 175) C dX11_copy_175 rfl (lv_at hl 1 rfl) ?_
      refine r_imul (pc := 176) C dX11_copy_176 ?_
      refine r_iload (pc := 177) C dX11_copy_177 (lv_at hl 2 rfl) ?_
      refine r_iadd (pc := 179) C dX11_copy_179 ?_
      refine r_iload (pc := 180) C dX11_copy_180 (lv_at hl 4 rfl) ?_
      refine r_iadd (pc := 182) C dX11_copy_182 ?_
      refine r_aload_n (pc := 183) C dX11_copy_183 rfl (lv_at hl 0 rfl) ?_
      refine gf_X11_88 (pc := 184) C t0 dX11_copy_184 ?_
      have t50 := ft_11_36 t0
      refine r_iload (pc := 187) C dX11_copy_187 (lv_at hl 4 rfl) ?_
      refine r_lald (pc := 189) C t50 dX11_copy_189 ?_
      refine r_last (pc := 190) C t49 dX11_copy_190 (fun S51 => ?_)
      refine r_iinc (pc := 191) C (k := 4) (1 : Int32) (fun v52 => [(6, .int v52), (0, .ref (base + k0)), (3, .int v3), (4, .int v4), (5, .int v5)]) dX11_copy_191 hl rfl (by decide) (Nat.le_of_ble_eq_true rfl) (fun _ => rfl) (fun v52 ls hl => ?_)
      refine r_goto (pc := 194) C (tgt := 162) dX11_copy_194 (by decide) ?_
      exact ih S51 v52 _ (lv_sub hl [1, 2, 3, 4, 0] rfl)

set_option maxHeartbeats 4000000 in
set_option maxRecDepth 100000 in
theorem sm_X11_copy {p : Program} {l : Launch} {e : Env} {s : State} {m : MethodId} {args : Array Value} {below : List Frame} {meth : Method} {c : Code} {D : va_G} {cy : Nat → ClassId} {base tS : Nat} {S : St} {k0 : Nat} {v1 : Int32} {v2 : Int32} {v3 : Int32} {v4 : Int32} {v5 : Int32} {ls : Array Slot} (C : Cx p rm_X11_copy s m args c RX11 cX11_copy 7 D cy base tS 0 0) (hr : meth.sig.returnType = (some .int)) (hk : meth.locks = false) (t0 : cls k0 = 11) (hl : lv_has ls 7 [(0, .ref (base + k0)), (1, .int v1), (2, .int v2), (3, .int v3), (4, .int v4), (5, .int v5)]) : Sim p l e rm_X11_copy s m args below meth c D cy base 0 0 (fun S1 r => MQ below (QcI D cy base tS S1 r) args s 0 0 (AA base)) (X11_copy S k0 v1 v2 v3 v4 v5) S (F0 m 0 ls []) := by
  unfold X11_copy
  refine r_iload_n (pc := 0) C dX11_copy_0 rfl (lv_at hl 1 rfl) ?_
  refine cv_X11_216 (pc := 1) C  hl.1 ⟨Nat.le_of_ble_eq_true rfl, Nat.le_of_ble_eq_true rfl⟩ (Nat.le_of_ble_eq_true rfl) dX11_copy_1 (fun S21 v22 => ?_)
  refine r_join (fun (j : St → Option (St × Int32)) => ∀ (S24 : St)  (ls : Array Slot), lv_has ls 7 [(0, .ref (base + k0))] → Sim p l e rm_X11_copy s m args below meth c D cy base 0 0 (fun S1 r => MQ below (QcI D cy base tS S1 r) args s 0 0 (AA base)) (j S24) S24 (F0 m 14 ls [])) ?_ (fun j23 hj23 => ?_)
  · intro S24 ls hl
    refine r_aload_n (pc := 14) C dX11_copy_14 rfl (lv_at hl 0 rfl) ?_
    refine r_iconst (pc := 15) C (-1 : Int32) dX11_copy_15 (by decide) ?_
    refine cv_X11_118 (pc := 16) C t0 hl.1 ⟨Nat.le_of_ble_eq_true rfl, Nat.le_of_ble_eq_true rfl⟩ (Nat.le_of_ble_eq_true rfl) dX11_copy_16 (fun S25 v26 => ?_)
    exact r_iret (pc := 19) C hr hk dX11_copy_19
  refine r_if_eq (pc := 4) C (tgt := 14) dX11_copy_4 (by decide) (fun _ => ?_) (fun _ => ?_)
  · exact hj23 S21  _ (lv_sub hl [0] rfl)
  · refine r_iload_n (pc := 7) C dX11_copy_7 rfl (lv_at hl 3 rfl) ?_
    refine cv_X11_216 (pc := 8) C  hl.1 ⟨Nat.le_of_ble_eq_true rfl, Nat.le_of_ble_eq_true rfl⟩ (Nat.le_of_ble_eq_true rfl) dX11_copy_8 (fun S27 v28 => ?_)
    refine r_if_ne (pc := 11) C (tgt := 20) dX11_copy_11 (by decide) (fun _ => ?_) (fun _ => ?_)
    · refine r_aload_n (pc := 20) C dX11_copy_20 rfl (lv_at hl 0 rfl) ?_
      refine gf_X11_46 (pc := 21) C t0 dX11_copy_21 ?_
      have t29 := ft_11_19 t0
      refine r_iload_n (pc := 24) C dX11_copy_24 rfl (lv_at hl 1 rfl) ?_
      refine r_iald (pc := 25) C t29 dX11_copy_25 ?_
      refine r_join (fun (j : St → Option (St × Int32)) => ∀ (S31 : St)  (ls : Array Slot), lv_has ls 7 [(0, .ref (base + k0))] → Sim p l e rm_X11_copy s m args below meth c D cy base 0 0 (fun S1 r => MQ below (QcI D cy base tS S1 r) args s 0 0 (AA base)) (j S31) S31 (F0 m 38 ls [])) ?_ (fun j30 hj30 => ?_)
      · intro S31 ls hl
        refine r_aload_n (pc := 38) C dX11_copy_38 rfl (lv_at hl 0 rfl) ?_
        refine r_bipush (pc := 39) C (-2 : Int32) dX11_copy_39 (by decide) ?_
        refine cv_X11_118 (pc := 41) C t0 hl.1 ⟨Nat.le_of_ble_eq_true rfl, Nat.le_of_ble_eq_true rfl⟩ (Nat.le_of_ble_eq_true rfl) dX11_copy_41 (fun S32 v33 => ?_)
        exact r_iret (pc := 44) C hr hk dX11_copy_44
      refine r_if_eq (pc := 26) C (tgt := 38) dX11_copy_26 (by decide) (fun _ => ?_) (fun _ => ?_)
      · exact hj30 S27  _ (lv_sub hl [0] rfl)
      · refine r_aload_n (pc := 29) C dX11_copy_29 rfl (lv_at hl 0 rfl) ?_
        refine gf_X11_46 (pc := 30) C t0 dX11_copy_30 ?_
        have t34 := ft_11_19 t0
        refine r_iload_n (pc := 33) C dX11_copy_33 rfl (lv_at hl 3 rfl) ?_
        refine r_iald (pc := 34) C t34 dX11_copy_34 ?_
        refine r_if_ne (pc := 35) C (tgt := 45) dX11_copy_35 (by decide) (fun _ => ?_) (fun _ => ?_)
        · refine r_aload_n (pc := 45) C dX11_copy_45 rfl (lv_at hl 0 rfl) ?_
          refine gf_X11_46 (pc := 46) C t0 dX11_copy_46 ?_
          have t35 := ft_11_19 t0
          refine r_iload_n (pc := 49) C dX11_copy_49 rfl (lv_at hl 1 rfl) ?_
          refine r_iald (pc := 50) C t35 dX11_copy_50 ?_
          refine r_aload_n (pc := 51) C dX11_copy_51 rfl (lv_at hl 0 rfl) ?_
          refine gf_X11_46 (pc := 52) C t0 dX11_copy_52 ?_
          have t36 := ft_11_19 t0
          refine r_iload_n (pc := 55) C dX11_copy_55 rfl (lv_at hl 3 rfl) ?_
          refine r_iald (pc := 56) C t36 dX11_copy_56 ?_
          refine r_icmp_eq (pc := 57) C (tgt := 67) dX11_copy_57 (by decide) (fun _ => ?_) (fun _ => ?_)
          · refine r_iload_n (pc := 67) C dX11_copy_67 rfl (lv_at hl 2 rfl) ?_
            refine r_join (fun (j : St → Option (St × Int32)) => ∀ (S38 : St)  (ls : Array Slot), lv_has ls 7 [(0, .ref (base + k0))] → Sim p l e rm_X11_copy s m args below meth c D cy base 0 0 (fun S1 r => MQ below (QcI D cy base tS S1 r) args s 0 0 (AA base)) (j S38) S38 (F0 m 116 ls [])) ?_ (fun j37 hj37 => ?_)
            · intro S38 ls hl
              refine r_aload_n (pc := 116) C dX11_copy_116 rfl (lv_at hl 0 rfl) ?_
              refine r_iconst (pc := 117) C (-1 : Int32) dX11_copy_117 (by decide) ?_
              refine cv_X11_118 (pc := 118) C t0 hl.1 ⟨Nat.le_of_ble_eq_true rfl, Nat.le_of_ble_eq_true rfl⟩ (Nat.le_of_ble_eq_true rfl) dX11_copy_118 (fun S39 v40 => ?_)
              exact r_iret (pc := 121) C hr hk dX11_copy_121
            refine r_if_lt (pc := 68) C (tgt := 116) dX11_copy_68 (by decide) (fun _ => ?_) (fun _ => ?_)
            · exact hj37 S27  _ (lv_sub hl [0] rfl)
            · refine r_iload (pc := 71) C dX11_copy_71 (lv_at hl 4 rfl) ?_
              refine r_if_lt (pc := 73) C (tgt := 116) dX11_copy_73 (by decide) (fun _ => ?_) (fun _ => ?_)
              · exact hj37 S27  _ (lv_sub hl [0] rfl)
              · refine r_iload (pc := 76) C dX11_copy_76 (lv_at hl 5 rfl) ?_
                refine r_if_lt (pc := 78) C (tgt := 116) dX11_copy_78 (by decide) (fun _ => ?_) (fun _ => ?_)
                · exact hj37 S27  _ (lv_sub hl [0] rfl)
                · refine r_iload_n (pc := 81) C dX11_copy_81 rfl (lv_at hl 2 rfl) ?_
                  refine r_i2l (pc := 82) C dX11_copy_82 ?_
                  refine r_iload (pc := 83) C dX11_copy_83 (lv_at hl 5 rfl) ?_
                  refine r_i2l (pc := 85) C dX11_copy_85 ?_
                  refine r_ladd (pc := 86) C dX11_copy_86 ?_
                  refine r_aload_n (pc := 87) C dX11_copy_87 rfl (lv_at hl 0 rfl) ?_
                  refine gf_X11_49 (pc := 88) C t0 dX11_copy_88 ?_
                  have t41 := ft_11_20 t0
                  refine r_iload_n (pc := 91) C dX11_copy_91 rfl (lv_at hl 1 rfl) ?_
                  refine r_iald (pc := 92) C t41 dX11_copy_92 ?_
                  refine r_i2l (pc := 93) C dX11_copy_93 ?_
                  refine r_lcmp_gt (pc := 94) C (tgt := 116) dX11_copy_94 dX11_copy_95 (by decide) (fun _ => ?_) (fun _ => ?_)
                  · exact hj37 S27  _ (lv_sub hl [0] rfl)
                  · refine r_iload (pc := 98) C dX11_copy_98 (lv_at hl 4 rfl) ?_
                    refine r_i2l (pc := 100) C dX11_copy_100 ?_
                    refine r_iload (pc := 101) C dX11_copy_101 (lv_at hl 5 rfl) ?_
                    refine r_i2l (pc := 103) C dX11_copy_103 ?_
                    refine r_ladd (pc := 104) C dX11_copy_104 ?_
                    refine r_aload_n (pc := 105) C dX11_copy_105 rfl (lv_at hl 0 rfl) ?_
                    refine gf_X11_49 (pc := 106) C t0 dX11_copy_106 ?_
                    have t42 := ft_11_20 t0
                    refine r_iload_n (pc := 109) C dX11_copy_109 rfl (lv_at hl 3 rfl) ?_
                    refine r_iald (pc := 110) C t42 dX11_copy_110 ?_
                    refine r_i2l (pc := 111) C dX11_copy_111 ?_
                    refine r_lcmp_le (pc := 112) C (tgt := 122) dX11_copy_112 dX11_copy_113 (by decide) (fun _ => ?_) (fun _ => ?_)
                    · refine r_iconst (pc := 122) C (0 : Int32) dX11_copy_122 (by decide) ?_
                      refine r_istore (lv2 := [(6, .int (0 : Int32)), (0, .ref (base + k0)), (1, .int v1), (2, .int v2), (3, .int v3), (4, .int v4), (5, .int v5)]) (pc := 123) C dX11_copy_123 hl (Nat.le_of_ble_eq_true rfl) rfl (fun ls hl => ?_)
                      refine lp_X11_copy_125 (ls := ls) C hr hk t0 (fun S47 v48 ls hl => ?_) FU S27 (0 : Int32) _ (lv_sub hl [1, 2, 3, 4, 5, 6, 0] rfl)
                      refine r_iconst (pc := 159) C (0 : Int32) dX11_copy_159 (by decide) ?_
                      refine r_istore (lv2 := [(6, .int (0 : Int32)), (0, .ref (base + k0)), (1, .int v1), (2, .int v2), (3, .int v3), (4, .int v4), (5, .int v5)]) (pc := 160) C dX11_copy_160 hl (Nat.le_of_ble_eq_true rfl) rfl (fun ls hl => ?_)
                      refine lp_X11_copy_162 (ls := ls) C hr hk t0 (fun S53 v54 ls hl => ?_) FU S47 (0 : Int32) _ (lv_sub hl [1, 4, 5, 6, 0] rfl)
                      refine r_iload (pc := 197) C dX11_copy_197 (lv_at hl 3 rfl) ?_
                      exact r_iret (pc := 199) C hr hk dX11_copy_199
                    · exact hj37 S27  _ (lv_sub hl [0] rfl)
          · refine r_aload_n (pc := 60) C dX11_copy_60 rfl (lv_at hl 0 rfl) ?_
            refine r_bipush (pc := 61) C (-4 : Int32) dX11_copy_61 (by decide) ?_
            refine cv_X11_118 (pc := 63) C t0 hl.1 ⟨Nat.le_of_ble_eq_true rfl, Nat.le_of_ble_eq_true rfl⟩ (Nat.le_of_ble_eq_true rfl) dX11_copy_63 (fun S55 v56 => ?_)
            exact r_iret (pc := 66) C hr hk dX11_copy_66
        · exact hj30 S27  _ (lv_sub hl [0] rfl)
    · exact hj23 S27  _ (lv_sub hl [0] rfl)

theorem ct_X11_copy (l : Launch) {D : va_G} {cy : Nat → ClassId} {base tS : Nat} {S : St} {k0 : Nat} {v1 : Int32} {v2 : Int32} {v3 : Int32} {v4 : Int32} {v5 : Int32} (t0 : cls k0 = 11) {S1 : St} {r1 : Int32} (h : X11_copy S k0 v1 v2 v3 v4 v5 = some (S1, r1)) : Met l yX11_copy (wsY yX11_copy cX11_copy 7 (some .int)) rm_X11_copy (va_Pc [.ref (base + k0), .int v1, .int v2, .int v3, .int v4, .int v5] (World D cy base tS S)) (QcI D cy base tS S1 r1) 0 0 (AA base) := conI rfl rfl (by decide) (Nat.le_of_ble_eq_true rfl) (fun p e s m args below meth c ls C hr hk hl => sm_X11_copy C hr hk t0 hl) h
abbrev rm_X11_spread : Room := { frames := 2, cells := 0, slots := 0, locals := 42 }
set_option maxHeartbeats 4000000 in
set_option maxRecDepth 100000 in
theorem lp_X11_spread_102 {p : Program} {l : Launch} {e : Env} {s : State} {m : MethodId} {args : Array Value} {below : List Frame} {meth : Method} {c : Code} {D : va_G} {cy : Nat → ClassId} {base tS : Nat} {ls : Array Slot} (C : Cx p rm_X11_spread s m args c RX11 cX11_spread 8 D cy base tS 0 0) (hr : meth.sig.returnType = (some .int)) (hk : meth.locks = false) {k0 : Nat} {v1 : Int32} {v2 : Int32} {v3 : Int32} {v4 : Int32} (t0 : cls k0 = 11) {K : St → Int32 → Option (St × Int32)} (hK : ∀ (S : St) (v5 : Int32) (ls : Array Slot), lv_has ls 8 [(0, .ref (base + k0)), (1, .int v1), (2, .int v2), (3, .int v3), (4, .int v4), (5, .int v5)] → Sim p l e rm_X11_spread s m args below meth c D cy base 0 0 (fun S1 r => MQ below (QcI D cy base tS S1 r) args s 0 0 (AA base)) (K S v5) S (F0 m 140 ls [])) : ∀ (n : Nat) (S : St) (v5 : Int32) (ls : Array Slot), lv_has ls 8 [(0, .ref (base + k0)), (1, .int v1), (2, .int v2), (3, .int v3), (4, .int v4), (5, .int v5)] → Sim p l e rm_X11_spread s m args below meth c D cy base 0 0 (fun S1 r => MQ below (QcI D cy base tS S1 r) args s 0 0 (AA base)) (X11_spread_102 k0 v1 v2 v3 v4 K n S v5) S (F0 m 102 ls []) := by
  intro n
  induction n with
  | zero => intro S v5 ls hl; exact Sim.none
  | succ n ih =>
    intro S v5 ls hl
    rw [X11_spread_102]
    refine r_iload (pc := 102) C dX11_spread_102 (lv_at hl 5 rfl) ?_
    refine r_iload_n (pc := 104) C dX11_spread_104 rfl (lv_at hl 3 rfl) ?_
    refine r_icmp_ge (pc := 105) C (tgt := 140) dX11_spread_105 (by decide) (fun _ => ?_) (fun _ => ?_)
    · exact hK S v5 _ (lv_sub hl [0, 1, 2, 3, 4, 5] rfl)
    · refine r_aload_n (pc := 108) C dX11_spread_108 rfl (lv_at hl 0 rfl) ?_
      refine gf_X11_52 (pc := 109) C t0 dX11_spread_109 ?_
      have t33 := ft_11_21 t0
      refine r_bipush (pc := 112) C (16 : Int32) dX11_spread_112 (by decide) ?_
      refine r_iload_n (pc := 114) C dX11_spread_114 rfl (lv_at hl 1 rfl) ?_
      refine r_imul (pc := 115) C dX11_spread_115 ?_
      refine r_iload_n (pc := 116) C dX11_spread_116 rfl (lv_at hl 2 rfl) ?_
      refine r_iadd (pc := 117) C dX11_spread_117 ?_
      refine r_iload (pc := 118) C dX11_spread_118 (lv_at hl 5 rfl) ?_
      refine r_iadd (pc := 120) C dX11_spread_120 ?_
      refine r_lald (pc := 121) C t33 dX11_spread_121 ?_
      refine r_lconst (pc := 122) C (0 : Int64) dX11_spread_122 (by decide) ?_
      refine r_lcmp_ge (pc := 123) C (tgt := 134) dX11_spread_123 dX11_spread_124 (by decide) (fun _ => ?_) (fun _ => ?_)
      · refine r_iinc (pc := 134) C (k := 5) (1 : Int32) (fun v34 => [(5, .int v34), (0, .ref (base + k0)), (1, .int v1), (2, .int v2), (3, .int v3), (4, .int v4)]) dX11_spread_134 hl rfl (by decide) (Nat.le_of_ble_eq_true rfl) (fun _ => rfl) (fun v34 ls hl => ?_)
        refine r_goto (pc := 137) C (tgt := 102) dX11_spread_137 (by decide) ?_
        exact ih S v34 _ (lv_sub hl [1, 2, 3, 4, 5, 0] rfl)
      · refine r_aload_n (pc := 127) C dX11_spread_127 rfl (lv_at hl 0 rfl) ?_
        refine r_bipush (pc := 128) C (-13 : Int32) dX11_spread_128 (by decide) ?_
        refine cv_X11_118 (pc := 130) C t0 hl.1 ⟨Nat.le_of_ble_eq_true rfl, Nat.le_of_ble_eq_true rfl⟩ (Nat.le_of_ble_eq_true rfl) dX11_spread_130 (fun S35 v36 => ?_)
        exact r_iret (pc := 133) C hr hk dX11_spread_133

set_option maxHeartbeats 4000000 in
set_option maxRecDepth 100000 in
theorem lp_X11_spread_143 {p : Program} {l : Launch} {e : Env} {s : State} {m : MethodId} {args : Array Value} {below : List Frame} {meth : Method} {c : Code} {D : va_G} {cy : Nat → ClassId} {base tS : Nat} {ls : Array Slot} (C : Cx p rm_X11_spread s m args c RX11 cX11_spread 8 D cy base tS 0 0) (hr : meth.sig.returnType = (some .int)) (hk : meth.locks = false) {k0 : Nat} {v1 : Int32} {v2 : Int32} {v3 : Int32} {v4 : Int32} (t0 : cls k0 = 11) {K : St → Int32 → Option (St × Int32)} (hK : ∀ (S : St) (v5 : Int32) (ls : Array Slot), lv_has ls 8 [(0, .ref (base + k0)), (1, .int v1), (2, .int v2), (3, .int v3), (4, .int v4), (5, .int v5)] → Sim p l e rm_X11_spread s m args below meth c D cy base 0 0 (fun S1 r => MQ below (QcI D cy base tS S1 r) args s 0 0 (AA base)) (K S v5) S (F0 m 194 ls [])) : ∀ (n : Nat) (S : St) (v5 : Int32) (ls : Array Slot), lv_has ls 8 [(0, .ref (base + k0)), (1, .int v1), (2, .int v2), (3, .int v3), (4, .int v4), (5, .int v5)] → Sim p l e rm_X11_spread s m args below meth c D cy base 0 0 (fun S1 r => MQ below (QcI D cy base tS S1 r) args s 0 0 (AA base)) (X11_spread_143 k0 v1 v2 v3 v4 K n S v5) S (F0 m 143 ls []) := by
  intro n
  induction n with
  | zero => intro S v5 ls hl; exact Sim.none
  | succ n ih =>
    intro S v5 ls hl
    rw [X11_spread_143]
    refine r_iload (pc := 143) C dX11_spread_143 (lv_at hl 5 rfl) ?_
    refine r_iload_n (pc := 145) C dX11_spread_145 rfl (lv_at hl 3 rfl) ?_
    refine r_icmp_ge (pc := 146) C (tgt := 194) dX11_spread_146 (by decide) (fun _ => ?_) (fun _ => ?_)
    · exact hK S v5 _ (lv_sub hl [0, 1, 2, 3, 4, 5] rfl)
    · refine r_aload_n (pc := 149) C dX11_spread_149 rfl (lv_at hl 0 rfl) ?_
      refine gf_X11_52 (pc := 150) C t0 dX11_spread_150 ?_
      have t39 := ft_11_21 t0
      refine r_bipush (pc := 153) C (16 : Int32) dX11_spread_153 (by decide) ?_
      refine r_iload_n (pc := 155) C dX11_spread_155 rfl (lv_at hl 1 rfl) ?_
      refine r_imul (pc := 156) C dX11_spread_156 ?_
      refine r_iload_n (pc := 157) C dX11_spread_157 rfl (lv_at hl 2 rfl) ?_
      refine r_iadd (pc := 158) C dX11_spread_158 ?_
      refine r_iload (pc := 159) C dX11_spread_159 (lv_at hl 5 rfl) ?_
      refine r_iadd (pc := 161) C dX11_spread_161 ?_
      refine r_lald (pc := 162) C t39 dX11_spread_162 ?_
      refine r_ldc2 (pc := 163) C (1000000 : Int64) wd_64 dX11_spread_163 ?_
      refine r_aload_n (pc := 166) C dX11_spread_166 rfl (lv_at hl 0 rfl) ?_
      refine gf_X11_16 (pc := 167) C t0 dX11_spread_167 ?_
      have t40 := ft_11_4 t0
      refine r_iload (pc := 170) C dX11_spread_170 (lv_at hl 4 rfl) ?_
      refine r_iload (pc := 172) C dX11_spread_172 (lv_at hl 5 rfl) ?_
      refine r_iadd (pc := 174) C dX11_spread_174 ?_
      refine r_lald (pc := 175) C t40 dX11_spread_175 ?_
      refine r_lsub (pc := 176) C dX11_spread_176 ?_
      refine r_lcmp_le (pc := 177) C (tgt := 188) dX11_spread_177 dX11_spread_178 (by decide) (fun _ => ?_) (fun _ => ?_)
      · refine r_iinc (pc := 188) C (k := 5) (1 : Int32) (fun v41 => [(5, .int v41), (0, .ref (base + k0)), (1, .int v1), (2, .int v2), (3, .int v3), (4, .int v4)]) dX11_spread_188 hl rfl (by decide) (Nat.le_of_ble_eq_true rfl) (fun _ => rfl) (fun v41 ls hl => ?_)
        refine r_goto (pc := 191) C (tgt := 143) dX11_spread_191 (by decide) ?_
        exact ih S v41 _ (lv_sub hl [1, 2, 3, 4, 5, 0] rfl)
      · refine r_aload_n (pc := 181) C dX11_spread_181 rfl (lv_at hl 0 rfl) ?_
        refine r_bipush (pc := 182) C (-5 : Int32) dX11_spread_182 (by decide) ?_
        refine cv_X11_118 (pc := 184) C t0 hl.1 ⟨Nat.le_of_ble_eq_true rfl, Nat.le_of_ble_eq_true rfl⟩ (Nat.le_of_ble_eq_true rfl) dX11_spread_184 (fun S42 v43 => ?_)
        exact r_iret (pc := 187) C hr hk dX11_spread_187

set_option maxHeartbeats 4000000 in
set_option maxRecDepth 100000 in
theorem lp_X11_spread_204 {p : Program} {l : Launch} {e : Env} {s : State} {m : MethodId} {args : Array Value} {below : List Frame} {meth : Method} {c : Code} {D : va_G} {cy : Nat → ClassId} {base tS : Nat} {ls : Array Slot} (C : Cx p rm_X11_spread s m args c RX11 cX11_spread 8 D cy base tS 0 0) (hr : meth.sig.returnType = (some .int)) (hk : meth.locks = false) {k0 : Nat} {v1 : Int32} {v2 : Int32} {v3 : Int32} {v4 : Int32} {v5 : Int64} (t0 : cls k0 = 11) {K : St → Int32 → Option (St × Int32)} (hK : ∀ (S : St) (v7 : Int32) (ls : Array Slot), lv_has ls 8 [(0, .ref (base + k0)), (1, .int v1), (2, .int v2), (3, .int v3), (4, .int v4), (5, .long v5), (7, .int v7)] → Sim p l e rm_X11_spread s m args below meth c D cy base 0 0 (fun S1 r => MQ below (QcI D cy base tS S1 r) args s 0 0 (AA base)) (K S v7) S (F0 m 243 ls [])) : ∀ (n : Nat) (S : St) (v7 : Int32) (ls : Array Slot), lv_has ls 8 [(0, .ref (base + k0)), (1, .int v1), (2, .int v2), (3, .int v3), (4, .int v4), (5, .long v5), (7, .int v7)] → Sim p l e rm_X11_spread s m args below meth c D cy base 0 0 (fun S1 r => MQ below (QcI D cy base tS S1 r) args s 0 0 (AA base)) (X11_spread_204 k0 v1 v2 v3 v4 v5 K n S v7) S (F0 m 204 ls []) := by
  intro n
  induction n with
  | zero => intro S v7 ls hl; exact Sim.none
  | succ n ih =>
    intro S v7 ls hl
    rw [X11_spread_204]
    refine r_iload (pc := 204) C dX11_spread_204 (lv_at hl 6 rfl) ?_
    refine r_iload_n (pc := 206) C dX11_spread_206 rfl (lv_at hl 3 rfl) ?_
    refine r_icmp_ge (pc := 207) C (tgt := 243) dX11_spread_207 (by decide) (fun _ => ?_) (fun _ => ?_)
    · exact hK S v7 _ (lv_sub hl [0, 1, 2, 3, 4, 5, 6] rfl)
    · refine r_aload_n (pc := 210) C dX11_spread_210 rfl (lv_at hl 0 rfl) ?_
      refine gf_X11_16 (pc := 211) C t0 dX11_spread_211 ?_
      have t47 := ft_11_4 t0
      refine r_iload (pc := 214) C dX11_spread_214 (lv_at hl 4 rfl) ?_
      refine r_iload (pc := 216) C dX11_spread_216 (lv_at hl 6 rfl) ?_
      refine r_iadd (pc := 218) C dX11_spread_218 ?_
      refine r_dup2_11 (pc := 219) C dX11_spread_219 rfl rfl ?_
      refine r_lald (pc := 220) C t47 dX11_spread_220 ?_
      refine r_aload_n (pc := 221) C dX11_spread_221 rfl (lv_at hl 0 rfl) ?_
      refine gf_X11_52 (pc := 222) C t0 dX11_spread_222 ?_
      have t48 := ft_11_21 t0
      refine r_bipush (pc := 225) C (16 : Int32) dX11_spread_225 (by decide) ?_
      refine r_iload_n (pc := 227) C dX11_spread_227 rfl (lv_at hl 1 rfl) ?_
      refine r_imul (pc := 228) C dX11_spread_228 ?_
      refine r_iload_n (pc := 229) C dX11_spread_229 rfl (lv_at hl 2 rfl) ?_
      refine r_iadd (pc := 230) C dX11_spread_230 ?_
      refine r_iload (pc := 231) C dX11_spread_231 (lv_at hl 6 rfl) ?_
      refine r_iadd (pc := 233) C dX11_spread_233 ?_
      refine r_lald (pc := 234) C t48 dX11_spread_234 ?_
      refine r_ladd (pc := 235) C dX11_spread_235 ?_
      refine r_last (pc := 236) C t47 dX11_spread_236 (fun S49 => ?_)
      refine r_iinc (pc := 237) C (k := 6) (1 : Int32) (fun v50 => [(7, .int v50), (0, .ref (base + k0)), (1, .int v1), (2, .int v2), (3, .int v3), (4, .int v4), (5, .long v5)]) dX11_spread_237 hl rfl (by decide) (Nat.le_of_ble_eq_true rfl) (fun _ => rfl) (fun v50 ls hl => ?_)
      refine r_goto (pc := 240) C (tgt := 204) dX11_spread_240 (by decide) ?_
      exact ih S49 v50 _ (lv_sub hl [1, 2, 3, 4, 5, 6, 0] rfl)

set_option maxHeartbeats 4000000 in
set_option maxRecDepth 100000 in
theorem lp_X11_spread_246 {p : Program} {l : Launch} {e : Env} {s : State} {m : MethodId} {args : Array Value} {below : List Frame} {meth : Method} {c : Code} {D : va_G} {cy : Nat → ClassId} {base tS : Nat} {ls : Array Slot} (C : Cx p rm_X11_spread s m args c RX11 cX11_spread 8 D cy base tS 0 0) (hr : meth.sig.returnType = (some .int)) (hk : meth.locks = false) {k0 : Nat} (t0 : cls k0 = 11) {K : St → Int64 → Int32 → Option (St × Int32)} (hK : ∀ (S : St) (v5 : Int64) (v7 : Int32) (ls : Array Slot), lv_has ls 8 [(0, .ref (base + k0)), (5, .long v5), (7, .int v7)] → Sim p l e rm_X11_spread s m args below meth c D cy base 0 0 (fun S1 r => MQ below (QcI D cy base tS S1 r) args s 0 0 (AA base)) (K S v5 v7) S (F0 m 273 ls [])) : ∀ (n : Nat) (S : St) (v5 : Int64) (v7 : Int32) (ls : Array Slot), lv_has ls 8 [(0, .ref (base + k0)), (5, .long v5), (7, .int v7)] → Sim p l e rm_X11_spread s m args below meth c D cy base 0 0 (fun S1 r => MQ below (QcI D cy base tS S1 r) args s 0 0 (AA base)) (X11_spread_246 k0 K n S v5 v7) S (F0 m 246 ls []) := by
  intro n
  induction n with
  | zero => intro S v5 v7 ls hl; exact Sim.none
  | succ n ih =>
    intro S v5 v7 ls hl
    rw [X11_spread_246]
    refine r_iload (pc := 246) C dX11_spread_246 (lv_at hl 2 rfl) ?_
    refine r_aload_n (pc := 248) C dX11_spread_248 rfl (lv_at hl 0 rfl) ?_
    refine gf_X11_95 (pc := 249) C t0 dX11_spread_249 ?_
    refine r_icmp_ge (pc := 252) C (tgt := 273) dX11_spread_252 (by decide) (fun _ => ?_) (fun _ => ?_)
    · exact hK S v5 v7 _ (lv_sub hl [0, 1, 2] rfl)
    · refine r_lload (pc := 255) C dX11_spread_255 (lv_at hl 1 rfl) ?_
      refine r_aload_n (pc := 257) C dX11_spread_257 rfl (lv_at hl 0 rfl) ?_
      refine gf_X11_16 (pc := 258) C t0 dX11_spread_258 ?_
      have t53 := ft_11_4 t0
      refine r_iload (pc := 261) C dX11_spread_261 (lv_at hl 2 rfl) ?_
      refine r_lald (pc := 263) C t53 dX11_spread_263 ?_
      refine r_ladd (pc := 264) C dX11_spread_264 ?_
      refine r_topl (fun v54 => ?_)
      refine r_lstore (lv2 := [(5, .long v54), (0, .ref (base + k0)), (7, .int v7)]) (pc := 265) C dX11_spread_265 hl (Nat.le_of_ble_eq_true rfl) rfl (fun ls hl => ?_)
      refine r_iinc (pc := 267) C (k := 2) (1 : Int32) (fun v55 => [(7, .int v55), (5, .long v54), (0, .ref (base + k0))]) dX11_spread_267 hl rfl (by decide) (Nat.le_of_ble_eq_true rfl) (fun _ => rfl) (fun v55 ls hl => ?_)
      refine r_goto (pc := 270) C (tgt := 246) dX11_spread_270 (by decide) ?_
      exact ih S v54 v55 _ (lv_sub hl [2, 1, 0] rfl)

set_option maxHeartbeats 4000000 in
set_option maxRecDepth 100000 in
theorem sm_X11_spread {p : Program} {l : Launch} {e : Env} {s : State} {m : MethodId} {args : Array Value} {below : List Frame} {meth : Method} {c : Code} {D : va_G} {cy : Nat → ClassId} {base tS : Nat} {S : St} {k0 : Nat} {v1 : Int32} {v2 : Int32} {v3 : Int32} {v4 : Int32} {ls : Array Slot} (C : Cx p rm_X11_spread s m args c RX11 cX11_spread 8 D cy base tS 0 0) (hr : meth.sig.returnType = (some .int)) (hk : meth.locks = false) (t0 : cls k0 = 11) (hl : lv_has ls 8 [(0, .ref (base + k0)), (1, .int v1), (2, .int v2), (3, .int v3), (4, .int v4)]) : Sim p l e rm_X11_spread s m args below meth c D cy base 0 0 (fun S1 r => MQ below (QcI D cy base tS S1 r) args s 0 0 (AA base)) (X11_spread S k0 v1 v2 v3 v4) S (F0 m 0 ls []) := by
  unfold X11_spread
  refine r_iload_n (pc := 0) C dX11_spread_0 rfl (lv_at hl 1 rfl) ?_
  refine cv_X11_216 (pc := 1) C  hl.1 ⟨Nat.le_of_ble_eq_true rfl, Nat.le_of_ble_eq_true rfl⟩ (Nat.le_of_ble_eq_true rfl) dX11_spread_1 (fun S21 v22 => ?_)
  refine r_if_ne (pc := 4) C (tgt := 13) dX11_spread_4 (by decide) (fun _ => ?_) (fun _ => ?_)
  · refine r_aload_n (pc := 13) C dX11_spread_13 rfl (lv_at hl 0 rfl) ?_
    refine gf_X11_46 (pc := 14) C t0 dX11_spread_14 ?_
    have t23 := ft_11_19 t0
    refine r_iload_n (pc := 17) C dX11_spread_17 rfl (lv_at hl 1 rfl) ?_
    refine r_iald (pc := 18) C t23 dX11_spread_18 ?_
    refine r_if_ne (pc := 19) C (tgt := 29) dX11_spread_19 (by decide) (fun _ => ?_) (fun _ => ?_)
    · refine r_iload_n (pc := 29) C dX11_spread_29 rfl (lv_at hl 2 rfl) ?_
      refine r_join (fun (j : St → Option (St × Int32)) => ∀ (S25 : St)  (ls : Array Slot), lv_has ls 8 [(0, .ref (base + k0))] → Sim p l e rm_X11_spread s m args below meth c D cy base 0 0 (fun S1 r => MQ below (QcI D cy base tS S1 r) args s 0 0 (AA base)) (j S25) S25 (F0 m 53 ls [])) ?_ (fun j24 hj24 => ?_)
      · intro S25 ls hl
        refine r_aload_n (pc := 53) C dX11_spread_53 rfl (lv_at hl 0 rfl) ?_
        refine r_iconst (pc := 54) C (-1 : Int32) dX11_spread_54 (by decide) ?_
        refine cv_X11_118 (pc := 55) C t0 hl.1 ⟨Nat.le_of_ble_eq_true rfl, Nat.le_of_ble_eq_true rfl⟩ (Nat.le_of_ble_eq_true rfl) dX11_spread_55 (fun S26 v27 => ?_)
        exact r_iret (pc := 58) C hr hk dX11_spread_58
      refine r_if_lt (pc := 30) C (tgt := 53) dX11_spread_30 (by decide) (fun _ => ?_) (fun _ => ?_)
      · exact hj24 S21  _ (lv_sub hl [0] rfl)
      · refine r_iload_n (pc := 33) C dX11_spread_33 rfl (lv_at hl 3 rfl) ?_
        refine r_if_lt (pc := 34) C (tgt := 53) dX11_spread_34 (by decide) (fun _ => ?_) (fun _ => ?_)
        · exact hj24 S21  _ (lv_sub hl [0] rfl)
        · refine r_iload_n (pc := 37) C dX11_spread_37 rfl (lv_at hl 2 rfl) ?_
          refine r_i2l (pc := 38) C dX11_spread_38 ?_
          refine r_iload_n (pc := 39) C dX11_spread_39 rfl (lv_at hl 3 rfl) ?_
          refine r_i2l (pc := 40) C dX11_spread_40 ?_
          refine r_ladd (pc := 41) C dX11_spread_41 ?_
          refine r_aload_n (pc := 42) C dX11_spread_42 rfl (lv_at hl 0 rfl) ?_
          refine gf_X11_49 (pc := 43) C t0 dX11_spread_43 ?_
          have t28 := ft_11_20 t0
          refine r_iload_n (pc := 46) C dX11_spread_46 rfl (lv_at hl 1 rfl) ?_
          refine r_iald (pc := 47) C t28 dX11_spread_47 ?_
          refine r_i2l (pc := 48) C dX11_spread_48 ?_
          refine r_lcmp_le (pc := 49) C (tgt := 59) dX11_spread_49 dX11_spread_50 (by decide) (fun _ => ?_) (fun _ => ?_)
          · refine r_iload (pc := 59) C dX11_spread_59 (lv_at hl 4 rfl) ?_
            refine r_join (fun (j : St → Option (St × Int32)) => ∀ (S30 : St)  (ls : Array Slot), lv_has ls 8 [(0, .ref (base + k0))] → Sim p l e rm_X11_spread s m args below meth c D cy base 0 0 (fun S1 r => MQ below (QcI D cy base tS S1 r) args s 0 0 (AA base)) (j S30) S30 (F0 m 79 ls [])) ?_ (fun j29 hj29 => ?_)
            · intro S30 ls hl
              refine r_aload_n (pc := 79) C dX11_spread_79 rfl (lv_at hl 0 rfl) ?_
              refine r_iconst (pc := 80) C (-1 : Int32) dX11_spread_80 (by decide) ?_
              refine cv_X11_118 (pc := 81) C t0 hl.1 ⟨Nat.le_of_ble_eq_true rfl, Nat.le_of_ble_eq_true rfl⟩ (Nat.le_of_ble_eq_true rfl) dX11_spread_81 (fun S31 v32 => ?_)
              exact r_iret (pc := 84) C hr hk dX11_spread_84
            refine r_if_lt (pc := 61) C (tgt := 79) dX11_spread_61 (by decide) (fun _ => ?_) (fun _ => ?_)
            · exact hj29 S21  _ (lv_sub hl [0] rfl)
            · refine r_iload (pc := 64) C dX11_spread_64 (lv_at hl 4 rfl) ?_
              refine r_i2l (pc := 66) C dX11_spread_66 ?_
              refine r_iload_n (pc := 67) C dX11_spread_67 rfl (lv_at hl 3 rfl) ?_
              refine r_i2l (pc := 68) C dX11_spread_68 ?_
              refine r_ladd (pc := 69) C dX11_spread_69 ?_
              refine r_aload_n (pc := 70) C dX11_spread_70 rfl (lv_at hl 0 rfl) ?_
              refine gf_X11_95 (pc := 71) C t0 dX11_spread_71 ?_
              refine r_i2l (pc := 74) C dX11_spread_74 ?_
              refine r_lcmp_le (pc := 75) C (tgt := 85) dX11_spread_75 dX11_spread_76 (by decide) (fun _ => ?_) (fun _ => ?_)
              · refine r_aload_n (pc := 85) C dX11_spread_85 rfl (lv_at hl 0 rfl) ?_
                refine gf_X11_114 (pc := 86) C t0 dX11_spread_86 ?_
                refine r_if_ne (pc := 89) C (tgt := 99) dX11_spread_89 (by decide) (fun _ => ?_) (fun _ => ?_)
                · refine r_iconst (pc := 99) C (0 : Int32) dX11_spread_99 (by decide) ?_
                  refine r_istore (lv2 := [(5, .int (0 : Int32)), (0, .ref (base + k0)), (1, .int v1), (2, .int v2), (3, .int v3), (4, .int v4)]) (pc := 100) C dX11_spread_100 hl (Nat.le_of_ble_eq_true rfl) rfl (fun ls hl => ?_)
                  refine lp_X11_spread_102 (ls := ls) C hr hk t0 (fun S37 v38 ls hl => ?_) FU S21 (0 : Int32) _ (lv_sub hl [1, 2, 3, 4, 5, 0] rfl)
                  refine r_iconst (pc := 140) C (0 : Int32) dX11_spread_140 (by decide) ?_
                  refine r_istore (lv2 := [(5, .int (0 : Int32)), (0, .ref (base + k0)), (1, .int v1), (2, .int v2), (3, .int v3), (4, .int v4)]) (pc := 141) C dX11_spread_141 hl (Nat.le_of_ble_eq_true rfl) rfl (fun ls hl => ?_)
                  refine lp_X11_spread_143 (ls := ls) C hr hk t0 (fun S44 v45 ls hl => ?_) FU S37 (0 : Int32) _ (lv_sub hl [1, 2, 3, 4, 5, 0] rfl)
                  refine r_aload_n (pc := 194) C dX11_spread_194 rfl (lv_at hl 0 rfl) ?_
                  refine cv_X11_148 (pc := 195) C t0 hl.1 ⟨Nat.le_of_ble_eq_true rfl, Nat.le_of_ble_eq_true rfl⟩ (Nat.le_of_ble_eq_true rfl) dX11_spread_195 (fun S46 _ => ?_)
                  refine r_lconst (pc := 198) C (0 : Int64) dX11_spread_198 (by decide) ?_
                  refine r_lstore (lv2 := [(5, .long (0 : Int64)), (0, .ref (base + k0)), (1, .int v1), (2, .int v2), (3, .int v3), (4, .int v4)]) (pc := 199) C dX11_spread_199 hl (Nat.le_of_ble_eq_true rfl) rfl (fun ls hl => ?_)
                  refine r_iconst (pc := 201) C (0 : Int32) dX11_spread_201 (by decide) ?_
                  refine r_istore (lv2 := [(7, .int (0 : Int32)), (5, .long (0 : Int64)), (0, .ref (base + k0)), (1, .int v1), (2, .int v2), (3, .int v3), (4, .int v4)]) (pc := 202) C dX11_spread_202 hl (Nat.le_of_ble_eq_true rfl) rfl (fun ls hl => ?_)
                  refine lp_X11_spread_204 (ls := ls) C hr hk t0 (fun S51 v52 ls hl => ?_) FU S46 (0 : Int32) _ (lv_sub hl [2, 3, 4, 5, 6, 1, 0] rfl)
                  refine r_iconst (pc := 243) C (0 : Int32) dX11_spread_243 (by decide) ?_
                  refine r_istore (lv2 := [(7, .int (0 : Int32)), (0, .ref (base + k0)), (1, .int v1), (2, .int v2), (3, .int v3), (4, .int v4), (5, .long (0 : Int64))]) (pc := 244) C dX11_spread_244 hl (Nat.le_of_ble_eq_true rfl) rfl (fun ls hl => ?_)
                  refine lp_X11_spread_246 (ls := ls) C hr hk t0 (fun S56 v57 v58 ls hl => ?_) FU S51 (0 : Int64) (0 : Int32) _ (lv_sub hl [1, 6, 0] rfl)
                  refine r_lload (pc := 273) C dX11_spread_273 (lv_at hl 1 rfl) ?_
                  refine r_l2i (pc := 275) C dX11_spread_275 ?_
                  exact r_iret (pc := 276) C hr hk dX11_spread_276
                · refine r_aload_n (pc := 92) C dX11_spread_92 rfl (lv_at hl 0 rfl) ?_
                  refine r_bipush (pc := 93) C (-8 : Int32) dX11_spread_93 (by decide) ?_
                  refine cv_X11_118 (pc := 95) C t0 hl.1 ⟨Nat.le_of_ble_eq_true rfl, Nat.le_of_ble_eq_true rfl⟩ (Nat.le_of_ble_eq_true rfl) dX11_spread_95 (fun S59 v60 => ?_)
                  exact r_iret (pc := 98) C hr hk dX11_spread_98
              · exact hj29 S21  _ (lv_sub hl [0] rfl)
          · exact hj24 S21  _ (lv_sub hl [0] rfl)
    · refine r_aload_n (pc := 22) C dX11_spread_22 rfl (lv_at hl 0 rfl) ?_
      refine r_bipush (pc := 23) C (-2 : Int32) dX11_spread_23 (by decide) ?_
      refine cv_X11_118 (pc := 25) C t0 hl.1 ⟨Nat.le_of_ble_eq_true rfl, Nat.le_of_ble_eq_true rfl⟩ (Nat.le_of_ble_eq_true rfl) dX11_spread_25 (fun S61 v62 => ?_)
      exact r_iret (pc := 28) C hr hk dX11_spread_28
  · refine r_aload_n (pc := 7) C dX11_spread_7 rfl (lv_at hl 0 rfl) ?_
    refine r_iconst (pc := 8) C (-1 : Int32) dX11_spread_8 (by decide) ?_
    refine cv_X11_118 (pc := 9) C t0 hl.1 ⟨Nat.le_of_ble_eq_true rfl, Nat.le_of_ble_eq_true rfl⟩ (Nat.le_of_ble_eq_true rfl) dX11_spread_9 (fun S63 v64 => ?_)
    exact r_iret (pc := 12) C hr hk dX11_spread_12

theorem ct_X11_spread (l : Launch) {D : va_G} {cy : Nat → ClassId} {base tS : Nat} {S : St} {k0 : Nat} {v1 : Int32} {v2 : Int32} {v3 : Int32} {v4 : Int32} (t0 : cls k0 = 11) {S1 : St} {r1 : Int32} (h : X11_spread S k0 v1 v2 v3 v4 = some (S1, r1)) : Met l yX11_spread (wsY yX11_spread cX11_spread 8 (some .int)) rm_X11_spread (va_Pc [.ref (base + k0), .int v1, .int v2, .int v3, .int v4] (World D cy base tS S)) (QcI D cy base tS S1 r1) 0 0 (AA base) := conI rfl rfl (by decide) (Nat.le_of_ble_eq_true rfl) (fun p e s m args below meth c ls C hr hk hl => sm_X11_spread C hr hk t0 hl) h
abbrev rm_X11_tell : Room := { frames := 1, cells := 0, slots := 0, locals := 21 }
set_option maxHeartbeats 4000000 in
set_option maxRecDepth 100000 in
theorem sm_X11_tell {p : Program} {l : Launch} {e : Env} {s : State} {m : MethodId} {args : Array Value} {below : List Frame} {meth : Method} {c : Code} {D : va_G} {cy : Nat → ClassId} {base tS : Nat} {S : St} {k0 : Nat} {v1 : Int32} {ls : Array Slot} (C : Cx p rm_X11_tell s m args c RX11 cX11_tell 2 D cy base tS 0 0) (hr : meth.sig.returnType = (some .int)) (hk : meth.locks = false) (t0 : cls k0 = 11) (hl : lv_has ls 2 [(0, .ref (base + k0)), (1, .int v1)]) : Sim p l e rm_X11_tell s m args below meth c D cy base 0 0 (fun S1 r => MQ below (QcI D cy base tS S1 r) args s 0 0 (AA base)) (X11_tell S k0 v1) S (F0 m 0 ls []) := by
  unfold X11_tell
  refine r_aload_n (pc := 0) C dX11_tell_0 rfl (lv_at hl 0 rfl) ?_
  refine gf_X11_169 (pc := 1) C t0 dX11_tell_1 ?_
  refine r_sipush (pc := 4) C (200 : Int32) dX11_tell_4 (by decide) ?_
  refine r_icmp_ne (pc := 7) C (tgt := 17) dX11_tell_7 (by decide) (fun _ => ?_) (fun _ => ?_)
  · refine r_aload_n (pc := 17) C dX11_tell_17 rfl (lv_at hl 0 rfl) ?_
    refine gf_X11_55 (pc := 18) C t0 dX11_tell_18 ?_
    have t21 := ft_11_22 t0
    refine r_aload_n (pc := 21) C dX11_tell_21 rfl (lv_at hl 0 rfl) ?_
    refine gf_X11_169 (pc := 22) C t0 dX11_tell_22 ?_
    refine r_iload_n (pc := 25) C dX11_tell_25 rfl (lv_at hl 1 rfl) ?_
    refine r_iast (pc := 26) C t21 dX11_tell_26 (fun S22 => ?_)
    refine r_aload_n (pc := 27) C dX11_tell_27 rfl (lv_at hl 0 rfl) ?_
    refine r_dup (pc := 28) C dX11_tell_28 rfl ?_
    refine gf_X11_169 (pc := 29) C t0 dX11_tell_29 ?_
    refine r_iconst (pc := 32) C (1 : Int32) dX11_tell_32 (by decide) ?_
    refine r_iadd (pc := 33) C dX11_tell_33 ?_
    refine pf_X11_169 (pc := 34) C t0 dX11_tell_34 (fun S23 => ?_)
    refine r_aload_n (pc := 37) C dX11_tell_37 rfl (lv_at hl 0 rfl) ?_
    refine gf_X11_169 (pc := 38) C t0 dX11_tell_38 ?_
    exact r_iret (pc := 41) C hr hk dX11_tell_41
  · refine r_aload_n (pc := 10) C dX11_tell_10 rfl (lv_at hl 0 rfl) ?_
    refine r_bipush (pc := 11) C (-5 : Int32) dX11_tell_11 (by decide) ?_
    refine cv_X11_118 (pc := 13) C t0 hl.1 ⟨Nat.le_of_ble_eq_true rfl, Nat.le_of_ble_eq_true rfl⟩ (Nat.le_of_ble_eq_true rfl) dX11_tell_13 (fun S24 v25 => ?_)
    exact r_iret (pc := 16) C hr hk dX11_tell_16

theorem ct_X11_tell (l : Launch) {D : va_G} {cy : Nat → ClassId} {base tS : Nat} {S : St} {k0 : Nat} {v1 : Int32} (t0 : cls k0 = 11) {S1 : St} {r1 : Int32} (h : X11_tell S k0 v1 = some (S1, r1)) : Met l yX11_tell (wsY yX11_tell cX11_tell 2 (some .int)) rm_X11_tell (va_Pc [.ref (base + k0), .int v1] (World D cy base tS S)) (QcI D cy base tS S1 r1) 0 0 (AA base) := conI rfl rfl (by decide) (Nat.le_of_ble_eq_true rfl) (fun p e s m args below meth c ls C hr hk hl => sm_X11_tell C hr hk t0 hl) h
