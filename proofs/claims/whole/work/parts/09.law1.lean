def L_18 (L : Nat) (xs : Nat → Int32) (k1 k2 : Nat) (K : St → Int32 → Option (St × Unit)) : Nat → St → Int32 → Option (St × Unit)
  | 0, _, _ => none
  | n + 1, S, v3 =>
    if ((Int32.ofNat L) - (6 : Int32)) < v3 then (
      K S v3)
    else (
      ck v3 L (
      lt (fun (S22 : St)  =>
        lt (v3 + (6 : Int32)) fun v23 =>
        L_18 L xs k1 k2 K n S22 v23) fun (j21 : St → Option (St × Unit)) =>
      if ((xs (ix v3)) &&& (63 : Int32)) = (0 : Int32) then (
      ck (v3 + (1 : Int32)) L (
      bd (X10_place S k1 (xs (ix (v3 + (1 : Int32))))) fun S24 v25 =>
      ck (v3 + (1 : Int32)) L (
      bd (X11_place S24 k2 (xs (ix (v3 + (1 : Int32))))) fun S26 v27 =>
      if v25 = v27 then (
        j21 S26)
      else (
        none)))) else if ((xs (ix v3)) &&& (63 : Int32)) = (1 : Int32) then (
      ck (v3 + (1 : Int32)) L (
      ck (v3 + (2 : Int32)) L (
      ck (v3 + (3 : Int32)) L (
      bd (X10_way S k1 (xs (ix (v3 + (1 : Int32)))) (xs (ix (v3 + (2 : Int32)))) (xs (ix (v3 + (3 : Int32))))) fun S29 v30 =>
      ck (v3 + (1 : Int32)) L (
      ck (v3 + (2 : Int32)) L (
      ck (v3 + (3 : Int32)) L (
      bd (X11_way S29 k2 (xs (ix (v3 + (1 : Int32)))) (xs (ix (v3 + (2 : Int32)))) (xs (ix (v3 + (3 : Int32))))) fun S31 v32 =>
      if v30 = v32 then (
        j21 S31)
      else (
        none)))))))) else if ((xs (ix v3)) &&& (63 : Int32)) = (2 : Int32) then (
      bd (X10_begin S k1) fun S34 v35 =>
      bd (X11_begin S34 k2) fun S36 v37 =>
      if v35 = v37 then (
        j21 S36)
      else (
        none)) else if ((xs (ix v3)) &&& (63 : Int32)) = (3 : Int32) then (
      bd (X10_anew S k1) fun S39 v40 =>
      bd (X11_anew S39 k2) fun S41 v42 =>
      if v40 = v42 then (
        j21 S41)
      else (
        none)) else if ((xs (ix v3)) &&& (63 : Int32)) = (4 : Int32) then (
      ck (v3 + (1 : Int32)) L (
      ck (v3 + (2 : Int32)) L (
      bd (X10_as S k1 (xs (ix (v3 + (1 : Int32)))) (xs (ix (v3 + (2 : Int32))))) fun S44 v45 =>
      ck (v3 + (1 : Int32)) L (
      ck (v3 + (2 : Int32)) L (
      bd (X11_as S44 k2 (xs (ix (v3 + (1 : Int32)))) (xs (ix (v3 + (2 : Int32))))) fun S46 v47 =>
      if v45 = v47 then (
        j21 S46)
      else (
        none)))))) else if ((xs (ix v3)) &&& (63 : Int32)) = (5 : Int32) then (
      ck (v3 + (1 : Int32)) L (
      ck (v3 + (2 : Int32)) L (
      bd (X10_weight S k1 (xs (ix (v3 + (1 : Int32)))) (xs (ix (v3 + (2 : Int32))))) fun S49 v50 =>
      ck (v3 + (1 : Int32)) L (
      ck (v3 + (2 : Int32)) L (
      bd (X11_weight S49 k2 (xs (ix (v3 + (1 : Int32)))) (xs (ix (v3 + (2 : Int32))))) fun S51 v52 =>
      if v50 = v52 then (
        j21 S51)
      else (
        none)))))) else if ((xs (ix v3)) &&& (63 : Int32)) = (6 : Int32) then (
      ck (v3 + (1 : Int32)) L (
      ck (v3 + (2 : Int32)) L (
      bd (X10_lay S k1 (xs (ix (v3 + (1 : Int32)))) (xs (ix (v3 + (2 : Int32))))) fun S54 v55 =>
      ck (v3 + (1 : Int32)) L (
      ck (v3 + (2 : Int32)) L (
      bd (X11_lay S54 k2 (xs (ix (v3 + (1 : Int32)))) (xs (ix (v3 + (2 : Int32))))) fun S56 v57 =>
      if v55 = v57 then (
        j21 S56)
      else (
        none)))))) else if ((xs (ix v3)) &&& (63 : Int32)) = (7 : Int32) then (
      ck (v3 + (1 : Int32)) L (
      bd (X10_grains S k1 (xs (ix (v3 + (1 : Int32))))) fun S59 v60 =>
      ck (v3 + (1 : Int32)) L (
      bd (X11_grains S59 k2 (xs (ix (v3 + (1 : Int32))))) fun S61 v62 =>
      if v60 = v62 then (
        j21 S61)
      else (
        none)))) else if ((xs (ix v3)) &&& (63 : Int32)) = (8 : Int32) then (
      bd (X10_due S k1) fun S64 v65 =>
      bd (X11_due S64 k2) fun S66 v67 =>
      if v65 = v67 then (
        j21 S66)
      else (
        none)) else if ((xs (ix v3)) &&& (63 : Int32)) = (9 : Int32) then (
      ck (v3 + (1 : Int32)) L (
      bd (X10_slide S k1 (xs (ix (v3 + (1 : Int32))))) fun S69 v70 =>
      ck (v3 + (1 : Int32)) L (
      bd (X11_slide S69 k2 (xs (ix (v3 + (1 : Int32))))) fun S71 v72 =>
      if v70 = v72 then (
        j21 S71)
      else (
        none)))) else if ((xs (ix v3)) &&& (63 : Int32)) = (10 : Int32) then (
      ck (v3 + (1 : Int32)) L (
      ck (v3 + (2 : Int32)) L (
      bd (X10_manner S k1 (xs (ix (v3 + (1 : Int32)))) (xs (ix (v3 + (2 : Int32))))) fun S74 v75 =>
      ck (v3 + (1 : Int32)) L (
      ck (v3 + (2 : Int32)) L (
      bd (X11_manner S74 k2 (xs (ix (v3 + (1 : Int32)))) (xs (ix (v3 + (2 : Int32))))) fun S76 v77 =>
      if v75 = v77 then (
        j21 S76)
      else (
        none)))))) else if ((xs (ix v3)) &&& (63 : Int32)) = (11 : Int32) then (
      ck (v3 + (1 : Int32)) L (
      bd (X10_run S k1 (xs (ix (v3 + (1 : Int32))))) fun S79 v80 =>
      ck (v3 + (1 : Int32)) L (
      bd (X11_run S79 k2 (xs (ix (v3 + (1 : Int32))))) fun S81 v82 =>
      if v80 = v82 then (
        j21 S81)
      else (
        none)))) else if ((xs (ix v3)) &&& (63 : Int32)) = (12 : Int32) then (
      ck (v3 + (1 : Int32)) L (
      bd (X10_odometer S k1 (xs (ix (v3 + (1 : Int32))))) fun S84 v85 =>
      ck (v3 + (1 : Int32)) L (
      bd (X11_odometer S84 k2 (xs (ix (v3 + (1 : Int32))))) fun S86 v87 =>
      if v85 = v87 then (
        j21 S86)
      else (
        none)))) else if ((xs (ix v3)) &&& (63 : Int32)) = (13 : Int32) then (
      bd (X10_reset S k1) fun S89 v90 =>
      bd (X11_reset S89 k2) fun S91 v92 =>
      if v90 = v92 then (
        j21 S91)
      else (
        none)) else if ((xs (ix v3)) &&& (63 : Int32)) = (14 : Int32) then (
      bd (X10_twoWay S k1) fun S94 v95 =>
      bd (X11_twoWay S94 k2) fun S96 v97 =>
      if v95 = v97 then (
        j21 S96)
      else (
        none)) else if ((xs (ix v3)) &&& (63 : Int32)) = (15 : Int32) then (
      bd (X10_burn S k1) fun S99 v100 =>
      bd (X11_burn S99 k2) fun S101 v102 =>
      if v100 = v102 then (
        j21 S101)
      else (
        none)) else if ((xs (ix v3)) &&& (63 : Int32)) = (16 : Int32) then (
      ck (v3 + (1 : Int32)) L (
      bd (X10_burnt S k1 (xs (ix (v3 + (1 : Int32))))) fun S104 v105 =>
      ck (v3 + (1 : Int32)) L (
      bd (X11_burnt S104 k2 (xs (ix (v3 + (1 : Int32))))) fun S106 v107 =>
      if v105 = v107 then (
        j21 S106)
      else (
        none)))) else if ((xs (ix v3)) &&& (63 : Int32)) = (17 : Int32) then (
      ck (v3 + (1 : Int32)) L (
      bd (X10_keep S k1 (xs (ix (v3 + (1 : Int32))))) fun S109 v110 =>
      ck (v3 + (1 : Int32)) L (
      bd (X11_keep S109 k2 (xs (ix (v3 + (1 : Int32))))) fun S111 v112 =>
      if v110 = v112 then (
        j21 S111)
      else (
        none)))) else if ((xs (ix v3)) &&& (63 : Int32)) = (18 : Int32) then (
      ck (v3 + (1 : Int32)) L (
      bd (X10_bring S k1 (xs (ix (v3 + (1 : Int32))))) fun S114 v115 =>
      ck (v3 + (1 : Int32)) L (
      bd (X11_bring S114 k2 (xs (ix (v3 + (1 : Int32))))) fun S116 v117 =>
      if v115 = v117 then (
        j21 S116)
      else (
        none)))) else if ((xs (ix v3)) &&& (63 : Int32)) = (19 : Int32) then (
      ck (v3 + (1 : Int32)) L (
      ck (v3 + (2 : Int32)) L (
      ck (v3 + (3 : Int32)) L (
      bd (X10_plus S k1 (xs (ix (v3 + (1 : Int32)))) (xs (ix (v3 + (2 : Int32)))) (xs (ix (v3 + (3 : Int32))))) fun S119 v120 =>
      ck (v3 + (1 : Int32)) L (
      ck (v3 + (2 : Int32)) L (
      ck (v3 + (3 : Int32)) L (
      bd (X11_plus S119 k2 (xs (ix (v3 + (1 : Int32)))) (xs (ix (v3 + (2 : Int32)))) (xs (ix (v3 + (3 : Int32))))) fun S121 v122 =>
      if v120 = v122 then (
        j21 S121)
      else (
        none)))))))) else if ((xs (ix v3)) &&& (63 : Int32)) = (20 : Int32) then (
      ck (v3 + (1 : Int32)) L (
      bd (X10_nought S k1 (xs (ix (v3 + (1 : Int32))))) fun S124 v125 =>
      ck (v3 + (1 : Int32)) L (
      bd (X11_nought S124 k2 (xs (ix (v3 + (1 : Int32))))) fun S126 v127 =>
      if v125 = v127 then (
        j21 S126)
      else (
        none)))) else if ((xs (ix v3)) &&& (63 : Int32)) = (21 : Int32) then (
      ck (v3 + (1 : Int32)) L (
      ck (v3 + (2 : Int32)) L (
      bd (X10_contrary S k1 (xs (ix (v3 + (1 : Int32)))) (xs (ix (v3 + (2 : Int32))))) fun S129 v130 =>
      ck (v3 + (1 : Int32)) L (
      ck (v3 + (2 : Int32)) L (
      bd (X11_contrary S129 k2 (xs (ix (v3 + (1 : Int32)))) (xs (ix (v3 + (2 : Int32))))) fun S131 v132 =>
      if v130 = v132 then (
        j21 S131)
      else (
        none)))))) else if ((xs (ix v3)) &&& (63 : Int32)) = (22 : Int32) then (
      ck (v3 + (1 : Int32)) L (
      bd (X10_many S k1 (xs (ix (v3 + (1 : Int32))))) fun S134 v135 =>
      ck (v3 + (1 : Int32)) L (
      bd (X11_many S134 k2 (xs (ix (v3 + (1 : Int32))))) fun S136 v137 =>
      if v135 = v137 then (
        j21 S136)
      else (
        none)))) else if ((xs (ix v3)) &&& (63 : Int32)) = (23 : Int32) then (
      bd (X10_list S k1) fun S139 v140 =>
      bd (X11_list S139 k2) fun S141 v142 =>
      if v140 = v142 then (
        j21 S141)
      else (
        none)) else if ((xs (ix v3)) &&& (63 : Int32)) = (24 : Int32) then (
      ck (v3 + (1 : Int32)) L (
      ck (v3 + (2 : Int32)) L (
      bd (X10_listed S k1 (xs (ix (v3 + (1 : Int32)))) (xs (ix (v3 + (2 : Int32))))) fun S144 v145 =>
      ck (v3 + (1 : Int32)) L (
      ck (v3 + (2 : Int32)) L (
      bd (X11_listed S144 k2 (xs (ix (v3 + (1 : Int32)))) (xs (ix (v3 + (2 : Int32))))) fun S146 v147 =>
      if v145 = v147 then (
        j21 S146)
      else (
        none)))))) else if ((xs (ix v3)) &&& (63 : Int32)) = (25 : Int32) then (
      ck (v3 + (1 : Int32)) L (
      ck (v3 + (2 : Int32)) L (
      ck (v3 + (3 : Int32)) L (
      bd (X10_terrace S k1 (xs (ix (v3 + (1 : Int32)))) (xs (ix (v3 + (2 : Int32)))) (xs (ix (v3 + (3 : Int32))))) fun S149 v150 =>
      ck (v3 + (1 : Int32)) L (
      ck (v3 + (2 : Int32)) L (
      ck (v3 + (3 : Int32)) L (
      bd (X11_terrace S149 k2 (xs (ix (v3 + (1 : Int32)))) (xs (ix (v3 + (2 : Int32)))) (xs (ix (v3 + (3 : Int32))))) fun S151 v152 =>
      if v150 = v152 then (
        j21 S151)
      else (
        none)))))))) else if ((xs (ix v3)) &&& (63 : Int32)) = (26 : Int32) then (
      ck (v3 + (1 : Int32)) L (
      ck (v3 + (2 : Int32)) L (
      ck (v3 + (3 : Int32)) L (
      ck (v3 + (4 : Int32)) L (
      bd (X10_put S k1 (xs (ix (v3 + (1 : Int32)))) (xs (ix (v3 + (2 : Int32)))) (((Int32.toInt64 (xs (ix (v3 + (3 : Int32))))) <<< (Int32.toInt64 (32 : Int32) &&& 63)) ||| ((Int32.toInt64 (xs (ix (v3 + (4 : Int32))))) &&& (4294967295 : Int64)))) fun S154 v155 =>
      ck (v3 + (1 : Int32)) L (
      ck (v3 + (2 : Int32)) L (
      ck (v3 + (3 : Int32)) L (
      ck (v3 + (4 : Int32)) L (
      bd (X11_put S154 k2 (xs (ix (v3 + (1 : Int32)))) (xs (ix (v3 + (2 : Int32)))) (((Int32.toInt64 (xs (ix (v3 + (3 : Int32))))) <<< (Int32.toInt64 (32 : Int32) &&& 63)) ||| ((Int32.toInt64 (xs (ix (v3 + (4 : Int32))))) &&& (4294967295 : Int64)))) fun S156 v157 =>
      if v155 = v157 then (
        j21 S156)
      else (
        none)))))))))) else if ((xs (ix v3)) &&& (63 : Int32)) = (27 : Int32) then (
      ck (v3 + (1 : Int32)) L (
      ck (v3 + (2 : Int32)) L (
      ck (v3 + (3 : Int32)) L (
      ck (v3 + (4 : Int32)) L (
      ck (v3 + (5 : Int32)) L (
      bd (X10_copy S k1 (xs (ix (v3 + (1 : Int32)))) (xs (ix (v3 + (2 : Int32)))) (xs (ix (v3 + (3 : Int32)))) (xs (ix (v3 + (4 : Int32)))) (xs (ix (v3 + (5 : Int32))))) fun S159 v160 =>
      ck (v3 + (1 : Int32)) L (
      ck (v3 + (2 : Int32)) L (
      ck (v3 + (3 : Int32)) L (
      ck (v3 + (4 : Int32)) L (
      ck (v3 + (5 : Int32)) L (
      bd (X11_copy S159 k2 (xs (ix (v3 + (1 : Int32)))) (xs (ix (v3 + (2 : Int32)))) (xs (ix (v3 + (3 : Int32)))) (xs (ix (v3 + (4 : Int32)))) (xs (ix (v3 + (5 : Int32))))) fun S161 v162 =>
      if v160 = v162 then (
        j21 S161)
      else (
        none)))))))))))) else if ((xs (ix v3)) &&& (63 : Int32)) = (28 : Int32) then (
      ck (v3 + (1 : Int32)) L (
      ck (v3 + (2 : Int32)) L (
      ck (v3 + (3 : Int32)) L (
      ck (v3 + (4 : Int32)) L (
      bd (X10_spread S k1 (xs (ix (v3 + (1 : Int32)))) (xs (ix (v3 + (2 : Int32)))) (xs (ix (v3 + (3 : Int32)))) (xs (ix (v3 + (4 : Int32))))) fun S164 v165 =>
      ck (v3 + (1 : Int32)) L (
      ck (v3 + (2 : Int32)) L (
      ck (v3 + (3 : Int32)) L (
      ck (v3 + (4 : Int32)) L (
      bd (X11_spread S164 k2 (xs (ix (v3 + (1 : Int32)))) (xs (ix (v3 + (2 : Int32)))) (xs (ix (v3 + (3 : Int32)))) (xs (ix (v3 + (4 : Int32))))) fun S166 v167 =>
      if v165 = v167 then (
        j21 S166)
      else (
        none)))))))))) else if ((xs (ix v3)) &&& (63 : Int32)) = (29 : Int32) then (
      ck (v3 + (1 : Int32)) L (
      bd (X10_tell S k1 (xs (ix (v3 + (1 : Int32))))) fun S169 v170 =>
      ck (v3 + (1 : Int32)) L (
      bd (X11_tell S169 k2 (xs (ix (v3 + (1 : Int32))))) fun S171 v172 =>
      if v170 = v172 then (
        j21 S171)
      else (
        none)))) else if ((xs (ix v3)) &&& (63 : Int32)) = (30 : Int32) then (
      bd (X10_enough S k1) fun S174 v175 =>
      bd (X11_enough S174 k2) fun S176 v177 =>
      if v175 = v177 then (
        j21 S176)
      else (
        none)) else if ((xs (ix v3)) &&& (63 : Int32)) = (31 : Int32) then (
      bd (X10_check S k1) fun S179 v180 =>
      bd (X11_check S179 k2) fun S181 v182 =>
      if v180 = v182 then (
        j21 S181)
      else (
        none)) else if ((xs (ix v3)) &&& (63 : Int32)) = (32 : Int32) then (
      bd (X10_undo S k1) fun S184 v185 =>
      bd (X11_undo S184 k2) fun S186 v187 =>
      if v185 = v187 then (
        j21 S186)
      else (
        none)) else if ((xs (ix v3)) &&& (63 : Int32)) = (33 : Int32) then (
      ck (v3 + (1 : Int32)) L (
      bd (X10_told S k1 (xs (ix (v3 + (1 : Int32))))) fun S189 v190 =>
      ck (v3 + (1 : Int32)) L (
      bd (X11_told S189 k2 (xs (ix (v3 + (1 : Int32))))) fun S191 v192 =>
      if v190 = v192 then (
        j21 S191)
      else (
        none)))) else (
      j21 S)))
set_option maxHeartbeats 8000000 in
set_option maxRecDepth 100000 in
theorem lp_L_18 {p : Program} {l : Launch} {e : Env} {s : State} {m : MethodId} {args : Array Value} {below : List Frame} {meth : Method} {c : Code} {D : va_G} {cy : Nat → ClassId} {base tS : Nat} {nc ns b L : Nat} {xs : Nat → Int32} {ls : Array Slot} (C : Cx p room_1 s m args c RL cL_law 4 D cy base tS nc ns) (hX : va_X b L xs s s.heap) (hbl : b < s.heap.size) (hbA : ¬ AA base b) {k1 k2 : Nat} (t1 : cls k1 = 10) (t2 : cls k2 = 11) {K : St → Int32 → Option (St × Unit)} (hK : ∀ (S : St) (v3 : Int32) (ls : Array Slot), lv_has ls 4 [(0, .ref b), (1, .ref (base + k1)), (2, .ref (base + k2)), (3, .int v3)] → Sim p l e room_1 s m args below meth c D cy base nc ns (fun _ (_ : Unit) => lw_Z below args s) (K S v3) S (F0 m 1115 ls [])) : ∀ (n : Nat) (S : St) (v3 : Int32) (ls : Array Slot), lv_has ls 4 [(0, .ref b), (1, .ref (base + k1)), (2, .ref (base + k2)), (3, .int v3)] → Sim p l e room_1 s m args below meth c D cy base nc ns (fun _ (_ : Unit) => lw_Z below args s) (L_18 L xs k1 k2 K n S v3) S (F0 m 18 ls []) := by
  intro n
  induction n with
  | zero => intro S v3 ls hl; exact Sim.none
  | succ n ih =>
    intro S v3 ls hl
    rw [L_18]
    refine r_iload_n (pc := 18) C dL_law_18 rfl (lv_at hl 3 rfl) ?_
    refine r_aload_n (pc := 19) C dL_law_19 rfl (lv_at hl 0 rfl) ?_
    refine r_slen (pc := 20) C hX hbl hbA dL_law_20 ?_
    refine r_bipush (pc := 21) C (6 : Int32) dL_law_21 (by decide) ?_
    refine r_isub (pc := 23) C dL_law_23 ?_
    refine r_icmp_gt (pc := 24) C (tgt := 1115) dL_law_24 (by decide) (fun _ => ?_) (fun _ => ?_)
    · exact hK S v3 _ (lv_sub hl [0, 1, 2, 3] rfl)
    · refine r_aload_n (pc := 27) C dL_law_27 rfl (lv_at hl 0 rfl) ?_
      refine r_iload_n (pc := 28) C dL_law_28 rfl (lv_at hl 3 rfl) ?_
      refine r_sld (pc := 29) C hX hbl hbA dL_law_29 ?_
      refine r_bipush (pc := 30) C (63 : Int32) dL_law_30 (by decide) ?_
      refine r_iand (pc := 32) C dL_law_32 ?_
      refine r_join (fun (j : St → Option (St × Unit)) => ∀ (S22 : St)  (ls : Array Slot), lv_has ls 4 [(0, .ref b), (1, .ref (base + k1)), (2, .ref (base + k2)), (3, .int v3)] → Sim p l e room_1 s m args below meth c D cy base nc ns (fun _ (_ : Unit) => lw_Z below args s) (j S22) S22 (F0 m 1109 ls [])) ?_ (fun j21 hj21 => ?_)
      · intro S22 ls hl
        refine r_iinc (pc := 1109) C (k := 3) (6 : Int32) (fun v23 => [(3, .int v23), (0, .ref b), (1, .ref (base + k1)), (2, .ref (base + k2))]) dL_law_1109 hl rfl (by decide) (Nat.le_of_ble_eq_true rfl) (fun _ => rfl) (fun v23 ls hl => ?_)
        refine r_goto (pc := 1112) C (tgt := 18) dL_law_1112 (by decide) ?_
        exact ih S22 v23 _ (lv_sub hl [1, 2, 3, 0] rfl)
      refine r_ite (fun h28 => ?_) (fun h28 => ?_)
      · refine r_tblIn (pc := 33) C (tgt := 184) (0 : Int32) h28 dL_law_33 (by decide) (by decide) rfl (by decide) ?_
        refine r_aload_n (pc := 184) C dL_law_184 rfl (lv_at hl 1 rfl) ?_
        refine r_aload_n (pc := 185) C dL_law_185 rfl (lv_at hl 0 rfl) ?_
        refine r_iload_n (pc := 186) C dL_law_186 rfl (lv_at hl 3 rfl) ?_
        refine r_iconst (pc := 187) C (1 : Int32) dL_law_187 (by decide) ?_
        refine r_iadd (pc := 188) C dL_law_188 ?_
        refine r_sld (pc := 189) C hX hbl hbA dL_law_189 ?_
        refine cv_X12_13 (pc := 190) C t1 hl.1 ⟨Nat.le_of_ble_eq_true rfl, Nat.le_of_ble_eq_true rfl⟩ (Nat.le_of_ble_eq_true rfl) dL_law_190 (fun S24 v25 => ?_)
        refine r_aload_n (pc := 193) C dL_law_193 rfl (lv_at hl 2 rfl) ?_
        refine r_aload_n (pc := 194) C dL_law_194 rfl (lv_at hl 0 rfl) ?_
        refine r_iload_n (pc := 195) C dL_law_195 rfl (lv_at hl 3 rfl) ?_
        refine r_iconst (pc := 196) C (1 : Int32) dL_law_196 (by decide) ?_
        refine r_iadd (pc := 197) C dL_law_197 ?_
        refine r_sld (pc := 198) C hX hbl hbA dL_law_198 ?_
        refine cv_X12_17 (pc := 199) C t2 hl.1 ⟨Nat.le_of_ble_eq_true rfl, Nat.le_of_ble_eq_true rfl⟩ (Nat.le_of_ble_eq_true rfl) dL_law_199 (fun S26 v27 => ?_)
        refine r_icmp_eq (pc := 202) C (tgt := 1109) dL_law_202 (by decide) (fun _ => ?_) (fun _ => ?_)
        · exact hj21 S26  _ (lv_sub hl [0, 1, 2, 3] rfl)
        · refine r_iconst (pc := 205) C (0 : Int32) dL_law_205 (by decide) ?_
          exact Sim.none
      refine r_ite (fun h33 => ?_) (fun h33 => ?_)
      · refine r_tblIn (pc := 33) C (tgt := 207) (1 : Int32) h33 dL_law_33 (by decide) (by decide) rfl (by decide) ?_
        refine r_aload_n (pc := 207) C dL_law_207 rfl (lv_at hl 1 rfl) ?_
        refine r_aload_n (pc := 208) C dL_law_208 rfl (lv_at hl 0 rfl) ?_
        refine r_iload_n (pc := 209) C dL_law_209 rfl (lv_at hl 3 rfl) ?_
        refine r_iconst (pc := 210) C (1 : Int32) dL_law_210 (by decide) ?_
        refine r_iadd (pc := 211) C dL_law_211 ?_
        refine r_sld (pc := 212) C hX hbl hbA dL_law_212 ?_
        refine r_aload_n (pc := 213) C dL_law_213 rfl (lv_at hl 0 rfl) ?_
        refine r_iload_n (pc := 214) C dL_law_214 rfl (lv_at hl 3 rfl) ?_
        refine r_iconst (pc := 215) C (2 : Int32) dL_law_215 (by decide) ?_
        refine r_iadd (pc := 216) C dL_law_216 ?_
        refine r_sld (pc := 217) C hX hbl hbA dL_law_217 ?_
        refine r_aload_n (pc := 218) C dL_law_218 rfl (lv_at hl 0 rfl) ?_
        refine r_iload_n (pc := 219) C dL_law_219 rfl (lv_at hl 3 rfl) ?_
        refine r_iconst (pc := 220) C (3 : Int32) dL_law_220 (by decide) ?_
        refine r_iadd (pc := 221) C dL_law_221 ?_
        refine r_sld (pc := 222) C hX hbl hbA dL_law_222 ?_
        refine cv_X12_18 (pc := 223) C t1 hl.1 ⟨Nat.le_of_ble_eq_true rfl, Nat.le_of_ble_eq_true rfl⟩ (Nat.le_of_ble_eq_true rfl) dL_law_223 (fun S29 v30 => ?_)
        refine r_aload_n (pc := 226) C dL_law_226 rfl (lv_at hl 2 rfl) ?_
        refine r_aload_n (pc := 227) C dL_law_227 rfl (lv_at hl 0 rfl) ?_
        refine r_iload_n (pc := 228) C dL_law_228 rfl (lv_at hl 3 rfl) ?_
        refine r_iconst (pc := 229) C (1 : Int32) dL_law_229 (by decide) ?_
        refine r_iadd (pc := 230) C dL_law_230 ?_
        refine r_sld (pc := 231) C hX hbl hbA dL_law_231 ?_
        refine r_aload_n (pc := 232) C dL_law_232 rfl (lv_at hl 0 rfl) ?_
        refine r_iload_n (pc := 233) C dL_law_233 rfl (lv_at hl 3 rfl) ?_
        refine r_iconst (pc := 234) C (2 : Int32) dL_law_234 (by decide) ?_
        refine r_iadd (pc := 235) C dL_law_235 ?_
        refine r_sld (pc := 236) C hX hbl hbA dL_law_236 ?_
        refine r_aload_n (pc := 237) C dL_law_237 rfl (lv_at hl 0 rfl) ?_
        refine r_iload_n (pc := 238) C dL_law_238 rfl (lv_at hl 3 rfl) ?_
        refine r_iconst (pc := 239) C (3 : Int32) dL_law_239 (by decide) ?_
        refine r_iadd (pc := 240) C dL_law_240 ?_
        refine r_sld (pc := 241) C hX hbl hbA dL_law_241 ?_
        refine cv_X12_22 (pc := 242) C t2 hl.1 ⟨Nat.le_of_ble_eq_true rfl, Nat.le_of_ble_eq_true rfl⟩ (Nat.le_of_ble_eq_true rfl) dL_law_242 (fun S31 v32 => ?_)
        refine r_icmp_eq (pc := 245) C (tgt := 1109) dL_law_245 (by decide) (fun _ => ?_) (fun _ => ?_)
        · exact hj21 S31  _ (lv_sub hl [0, 1, 2, 3] rfl)
        · refine r_iconst (pc := 248) C (0 : Int32) dL_law_248 (by decide) ?_
          exact Sim.none
      refine r_ite (fun h38 => ?_) (fun h38 => ?_)
      · refine r_tblIn (pc := 33) C (tgt := 250) (2 : Int32) h38 dL_law_33 (by decide) (by decide) rfl (by decide) ?_
        refine r_aload_n (pc := 250) C dL_law_250 rfl (lv_at hl 1 rfl) ?_
        refine cv_X12_23 (pc := 251) C t1 hl.1 ⟨Nat.le_of_ble_eq_true rfl, Nat.le_of_ble_eq_true rfl⟩ (Nat.le_of_ble_eq_true rfl) dL_law_251 (fun S34 v35 => ?_)
        refine r_aload_n (pc := 254) C dL_law_254 rfl (lv_at hl 2 rfl) ?_
        refine cv_X12_27 (pc := 255) C t2 hl.1 ⟨Nat.le_of_ble_eq_true rfl, Nat.le_of_ble_eq_true rfl⟩ (Nat.le_of_ble_eq_true rfl) dL_law_255 (fun S36 v37 => ?_)
        refine r_icmp_eq (pc := 258) C (tgt := 1109) dL_law_258 (by decide) (fun _ => ?_) (fun _ => ?_)
        · exact hj21 S36  _ (lv_sub hl [0, 1, 2, 3] rfl)
        · refine r_iconst (pc := 261) C (0 : Int32) dL_law_261 (by decide) ?_
          exact Sim.none
      refine r_ite (fun h43 => ?_) (fun h43 => ?_)
      · refine r_tblIn (pc := 33) C (tgt := 263) (3 : Int32) h43 dL_law_33 (by decide) (by decide) rfl (by decide) ?_
        refine r_aload_n (pc := 263) C dL_law_263 rfl (lv_at hl 1 rfl) ?_
        refine cv_X12_28 (pc := 264) C t1 hl.1 ⟨Nat.le_of_ble_eq_true rfl, Nat.le_of_ble_eq_true rfl⟩ (Nat.le_of_ble_eq_true rfl) dL_law_264 (fun S39 v40 => ?_)
        refine r_aload_n (pc := 267) C dL_law_267 rfl (lv_at hl 2 rfl) ?_
        refine cv_X12_31 (pc := 268) C t2 hl.1 ⟨Nat.le_of_ble_eq_true rfl, Nat.le_of_ble_eq_true rfl⟩ (Nat.le_of_ble_eq_true rfl) dL_law_268 (fun S41 v42 => ?_)
        refine r_icmp_eq (pc := 271) C (tgt := 1109) dL_law_271 (by decide) (fun _ => ?_) (fun _ => ?_)
        · exact hj21 S41  _ (lv_sub hl [0, 1, 2, 3] rfl)
        · refine r_iconst (pc := 274) C (0 : Int32) dL_law_274 (by decide) ?_
          exact Sim.none
      refine r_ite (fun h48 => ?_) (fun h48 => ?_)
      · refine r_tblIn (pc := 33) C (tgt := 276) (4 : Int32) h48 dL_law_33 (by decide) (by decide) rfl (by decide) ?_
        refine r_aload_n (pc := 276) C dL_law_276 rfl (lv_at hl 1 rfl) ?_
        refine r_aload_n (pc := 277) C dL_law_277 rfl (lv_at hl 0 rfl) ?_
        refine r_iload_n (pc := 278) C dL_law_278 rfl (lv_at hl 3 rfl) ?_
        refine r_iconst (pc := 279) C (1 : Int32) dL_law_279 (by decide) ?_
        refine r_iadd (pc := 280) C dL_law_280 ?_
        refine r_sld (pc := 281) C hX hbl hbA dL_law_281 ?_
        refine r_aload_n (pc := 282) C dL_law_282 rfl (lv_at hl 0 rfl) ?_
        refine r_iload_n (pc := 283) C dL_law_283 rfl (lv_at hl 3 rfl) ?_
        refine r_iconst (pc := 284) C (2 : Int32) dL_law_284 (by decide) ?_
        refine r_iadd (pc := 285) C dL_law_285 ?_
        refine r_sld (pc := 286) C hX hbl hbA dL_law_286 ?_
        refine cv_X12_32 (pc := 287) C t1 hl.1 ⟨Nat.le_of_ble_eq_true rfl, Nat.le_of_ble_eq_true rfl⟩ (Nat.le_of_ble_eq_true rfl) dL_law_287 (fun S44 v45 => ?_)
        refine r_aload_n (pc := 290) C dL_law_290 rfl (lv_at hl 2 rfl) ?_
        refine r_aload_n (pc := 291) C dL_law_291 rfl (lv_at hl 0 rfl) ?_
        refine r_iload_n (pc := 292) C dL_law_292 rfl (lv_at hl 3 rfl) ?_
        refine r_iconst (pc := 293) C (1 : Int32) dL_law_293 (by decide) ?_
        refine r_iadd (pc := 294) C dL_law_294 ?_
        refine r_sld (pc := 295) C hX hbl hbA dL_law_295 ?_
        refine r_aload_n (pc := 296) C dL_law_296 rfl (lv_at hl 0 rfl) ?_
        refine r_iload_n (pc := 297) C dL_law_297 rfl (lv_at hl 3 rfl) ?_
        refine r_iconst (pc := 298) C (2 : Int32) dL_law_298 (by decide) ?_
        refine r_iadd (pc := 299) C dL_law_299 ?_
        refine r_sld (pc := 300) C hX hbl hbA dL_law_300 ?_
        refine cv_X12_36 (pc := 301) C t2 hl.1 ⟨Nat.le_of_ble_eq_true rfl, Nat.le_of_ble_eq_true rfl⟩ (Nat.le_of_ble_eq_true rfl) dL_law_301 (fun S46 v47 => ?_)
        refine r_icmp_eq (pc := 304) C (tgt := 1109) dL_law_304 (by decide) (fun _ => ?_) (fun _ => ?_)
        · exact hj21 S46  _ (lv_sub hl [0, 1, 2, 3] rfl)
        · refine r_iconst (pc := 307) C (0 : Int32) dL_law_307 (by decide) ?_
          exact Sim.none
      refine r_ite (fun h53 => ?_) (fun h53 => ?_)
      · refine r_tblIn (pc := 33) C (tgt := 309) (5 : Int32) h53 dL_law_33 (by decide) (by decide) rfl (by decide) ?_
        refine r_aload_n (pc := 309) C dL_law_309 rfl (lv_at hl 1 rfl) ?_
        refine r_aload_n (pc := 310) C dL_law_310 rfl (lv_at hl 0 rfl) ?_
        refine r_iload_n (pc := 311) C dL_law_311 rfl (lv_at hl 3 rfl) ?_
        refine r_iconst (pc := 312) C (1 : Int32) dL_law_312 (by decide) ?_
        refine r_iadd (pc := 313) C dL_law_313 ?_
        refine r_sld (pc := 314) C hX hbl hbA dL_law_314 ?_
        refine r_aload_n (pc := 315) C dL_law_315 rfl (lv_at hl 0 rfl) ?_
        refine r_iload_n (pc := 316) C dL_law_316 rfl (lv_at hl 3 rfl) ?_
        refine r_iconst (pc := 317) C (2 : Int32) dL_law_317 (by decide) ?_
        refine r_iadd (pc := 318) C dL_law_318 ?_
        refine r_sld (pc := 319) C hX hbl hbA dL_law_319 ?_
        refine cv_X12_37 (pc := 320) C t1 hl.1 ⟨Nat.le_of_ble_eq_true rfl, Nat.le_of_ble_eq_true rfl⟩ (Nat.le_of_ble_eq_true rfl) dL_law_320 (fun S49 v50 => ?_)
        refine r_aload_n (pc := 323) C dL_law_323 rfl (lv_at hl 2 rfl) ?_
        refine r_aload_n (pc := 324) C dL_law_324 rfl (lv_at hl 0 rfl) ?_
        refine r_iload_n (pc := 325) C dL_law_325 rfl (lv_at hl 3 rfl) ?_
        refine r_iconst (pc := 326) C (1 : Int32) dL_law_326 (by decide) ?_
        refine r_iadd (pc := 327) C dL_law_327 ?_
        refine r_sld (pc := 328) C hX hbl hbA dL_law_328 ?_
        refine r_aload_n (pc := 329) C dL_law_329 rfl (lv_at hl 0 rfl) ?_
        refine r_iload_n (pc := 330) C dL_law_330 rfl (lv_at hl 3 rfl) ?_
        refine r_iconst (pc := 331) C (2 : Int32) dL_law_331 (by decide) ?_
        refine r_iadd (pc := 332) C dL_law_332 ?_
        refine r_sld (pc := 333) C hX hbl hbA dL_law_333 ?_
        refine cv_X12_40 (pc := 334) C t2 hl.1 ⟨Nat.le_of_ble_eq_true rfl, Nat.le_of_ble_eq_true rfl⟩ (Nat.le_of_ble_eq_true rfl) dL_law_334 (fun S51 v52 => ?_)
        refine r_icmp_eq (pc := 337) C (tgt := 1109) dL_law_337 (by decide) (fun _ => ?_) (fun _ => ?_)
        · exact hj21 S51  _ (lv_sub hl [0, 1, 2, 3] rfl)
        · refine r_iconst (pc := 340) C (0 : Int32) dL_law_340 (by decide) ?_
          exact Sim.none
      refine r_ite (fun h58 => ?_) (fun h58 => ?_)
      · refine r_tblIn (pc := 33) C (tgt := 342) (6 : Int32) h58 dL_law_33 (by decide) (by decide) rfl (by decide) ?_
        refine r_aload_n (pc := 342) C dL_law_342 rfl (lv_at hl 1 rfl) ?_
        refine r_aload_n (pc := 343) C dL_law_343 rfl (lv_at hl 0 rfl) ?_
        refine r_iload_n (pc := 344) C dL_law_344 rfl (lv_at hl 3 rfl) ?_
        refine r_iconst (pc := 345) C (1 : Int32) dL_law_345 (by decide) ?_
        refine r_iadd (pc := 346) C dL_law_346 ?_
        refine r_sld (pc := 347) C hX hbl hbA dL_law_347 ?_
        refine r_aload_n (pc := 348) C dL_law_348 rfl (lv_at hl 0 rfl) ?_
        refine r_iload_n (pc := 349) C dL_law_349 rfl (lv_at hl 3 rfl) ?_
        refine r_iconst (pc := 350) C (2 : Int32) dL_law_350 (by decide) ?_
        refine r_iadd (pc := 351) C dL_law_351 ?_
        refine r_sld (pc := 352) C hX hbl hbA dL_law_352 ?_
        refine cv_X12_41 (pc := 353) C t1 hl.1 ⟨Nat.le_of_ble_eq_true rfl, Nat.le_of_ble_eq_true rfl⟩ (Nat.le_of_ble_eq_true rfl) dL_law_353 (fun S54 v55 => ?_)
        refine r_aload_n (pc := 356) C dL_law_356 rfl (lv_at hl 2 rfl) ?_
        refine r_aload_n (pc := 357) C dL_law_357 rfl (lv_at hl 0 rfl) ?_
        refine r_iload_n (pc := 358) C dL_law_358 rfl (lv_at hl 3 rfl) ?_
        refine r_iconst (pc := 359) C (1 : Int32) dL_law_359 (by decide) ?_
        refine r_iadd (pc := 360) C dL_law_360 ?_
        refine r_sld (pc := 361) C hX hbl hbA dL_law_361 ?_
        refine r_aload_n (pc := 362) C dL_law_362 rfl (lv_at hl 0 rfl) ?_
        refine r_iload_n (pc := 363) C dL_law_363 rfl (lv_at hl 3 rfl) ?_
        refine r_iconst (pc := 364) C (2 : Int32) dL_law_364 (by decide) ?_
        refine r_iadd (pc := 365) C dL_law_365 ?_
        refine r_sld (pc := 366) C hX hbl hbA dL_law_366 ?_
        refine cv_X12_44 (pc := 367) C t2 hl.1 ⟨Nat.le_of_ble_eq_true rfl, Nat.le_of_ble_eq_true rfl⟩ (Nat.le_of_ble_eq_true rfl) dL_law_367 (fun S56 v57 => ?_)
        refine r_icmp_eq (pc := 370) C (tgt := 1109) dL_law_370 (by decide) (fun _ => ?_) (fun _ => ?_)
        · exact hj21 S56  _ (lv_sub hl [0, 1, 2, 3] rfl)
        · refine r_iconst (pc := 373) C (0 : Int32) dL_law_373 (by decide) ?_
          exact Sim.none
      refine r_ite (fun h63 => ?_) (fun h63 => ?_)
      · refine r_tblIn (pc := 33) C (tgt := 375) (7 : Int32) h63 dL_law_33 (by decide) (by decide) rfl (by decide) ?_
        refine r_aload_n (pc := 375) C dL_law_375 rfl (lv_at hl 1 rfl) ?_
        refine r_aload_n (pc := 376) C dL_law_376 rfl (lv_at hl 0 rfl) ?_
        refine r_iload_n (pc := 377) C dL_law_377 rfl (lv_at hl 3 rfl) ?_
        refine r_iconst (pc := 378) C (1 : Int32) dL_law_378 (by decide) ?_
        refine r_iadd (pc := 379) C dL_law_379 ?_
        refine r_sld (pc := 380) C hX hbl hbA dL_law_380 ?_
        refine cv_X12_45 (pc := 381) C t1 hl.1 ⟨Nat.le_of_ble_eq_true rfl, Nat.le_of_ble_eq_true rfl⟩ (Nat.le_of_ble_eq_true rfl) dL_law_381 (fun S59 v60 => ?_)
        refine r_aload_n (pc := 384) C dL_law_384 rfl (lv_at hl 2 rfl) ?_
        refine r_aload_n (pc := 385) C dL_law_385 rfl (lv_at hl 0 rfl) ?_
        refine r_iload_n (pc := 386) C dL_law_386 rfl (lv_at hl 3 rfl) ?_
        refine r_iconst (pc := 387) C (1 : Int32) dL_law_387 (by decide) ?_
        refine r_iadd (pc := 388) C dL_law_388 ?_
        refine r_sld (pc := 389) C hX hbl hbA dL_law_389 ?_
        refine cv_X12_49 (pc := 390) C t2 hl.1 ⟨Nat.le_of_ble_eq_true rfl, Nat.le_of_ble_eq_true rfl⟩ (Nat.le_of_ble_eq_true rfl) dL_law_390 (fun S61 v62 => ?_)
        refine r_lcmp_eq (pc := 393) C (tgt := 1109) dL_law_393 dL_law_394 (by decide) (fun _ => ?_) (fun _ => ?_)
        · exact hj21 S61  _ (lv_sub hl [0, 1, 2, 3] rfl)
        · refine r_iconst (pc := 397) C (0 : Int32) dL_law_397 (by decide) ?_
          exact Sim.none
      refine r_ite (fun h68 => ?_) (fun h68 => ?_)
      · refine r_tblIn (pc := 33) C (tgt := 399) (8 : Int32) h68 dL_law_33 (by decide) (by decide) rfl (by decide) ?_
        refine r_aload_n (pc := 399) C dL_law_399 rfl (lv_at hl 1 rfl) ?_
        refine cv_X12_50 (pc := 400) C t1 hl.1 ⟨Nat.le_of_ble_eq_true rfl, Nat.le_of_ble_eq_true rfl⟩ (Nat.le_of_ble_eq_true rfl) dL_law_400 (fun S64 v65 => ?_)
        refine r_aload_n (pc := 403) C dL_law_403 rfl (lv_at hl 2 rfl) ?_
        refine cv_X12_53 (pc := 404) C t2 hl.1 ⟨Nat.le_of_ble_eq_true rfl, Nat.le_of_ble_eq_true rfl⟩ (Nat.le_of_ble_eq_true rfl) dL_law_404 (fun S66 v67 => ?_)
        refine r_icmp_eq (pc := 407) C (tgt := 1109) dL_law_407 (by decide) (fun _ => ?_) (fun _ => ?_)
        · exact hj21 S66  _ (lv_sub hl [0, 1, 2, 3] rfl)
        · refine r_iconst (pc := 410) C (0 : Int32) dL_law_410 (by decide) ?_
          exact Sim.none
      refine r_ite (fun h73 => ?_) (fun h73 => ?_)
      · refine r_tblIn (pc := 33) C (tgt := 412) (9 : Int32) h73 dL_law_33 (by decide) (by decide) rfl (by decide) ?_
        refine r_aload_n (pc := 412) C dL_law_412 rfl (lv_at hl 1 rfl) ?_
        refine r_aload_n (pc := 413) C dL_law_413 rfl (lv_at hl 0 rfl) ?_
        refine r_iload_n (pc := 414) C dL_law_414 rfl (lv_at hl 3 rfl) ?_
        refine r_iconst (pc := 415) C (1 : Int32) dL_law_415 (by decide) ?_
        refine r_iadd (pc := 416) C dL_law_416 ?_
        refine r_sld (pc := 417) C hX hbl hbA dL_law_417 ?_
        refine cv_X12_54 (pc := 418) C t1 hl.1 ⟨Nat.le_of_ble_eq_true rfl, Nat.le_of_ble_eq_true rfl⟩ (Nat.le_of_ble_eq_true rfl) dL_law_418 (fun S69 v70 => ?_)
        refine r_aload_n (pc := 421) C dL_law_421 rfl (lv_at hl 2 rfl) ?_
        refine r_aload_n (pc := 422) C dL_law_422 rfl (lv_at hl 0 rfl) ?_
        refine r_iload_n (pc := 423) C dL_law_423 rfl (lv_at hl 3 rfl) ?_
        refine r_iconst (pc := 424) C (1 : Int32) dL_law_424 (by decide) ?_
        refine r_iadd (pc := 425) C dL_law_425 ?_
        refine r_sld (pc := 426) C hX hbl hbA dL_law_426 ?_
        refine cv_X12_57 (pc := 427) C t2 hl.1 ⟨Nat.le_of_ble_eq_true rfl, Nat.le_of_ble_eq_true rfl⟩ (Nat.le_of_ble_eq_true rfl) dL_law_427 (fun S71 v72 => ?_)
        refine r_icmp_eq (pc := 430) C (tgt := 1109) dL_law_430 (by decide) (fun _ => ?_) (fun _ => ?_)
        · exact hj21 S71  _ (lv_sub hl [0, 1, 2, 3] rfl)
        · refine r_iconst (pc := 433) C (0 : Int32) dL_law_433 (by decide) ?_
          exact Sim.none
      refine r_ite (fun h78 => ?_) (fun h78 => ?_)
      · refine r_tblIn (pc := 33) C (tgt := 435) (10 : Int32) h78 dL_law_33 (by decide) (by decide) rfl (by decide) ?_
        refine r_aload_n (pc := 435) C dL_law_435 rfl (lv_at hl 1 rfl) ?_
        refine r_aload_n (pc := 436) C dL_law_436 rfl (lv_at hl 0 rfl) ?_
        refine r_iload_n (pc := 437) C dL_law_437 rfl (lv_at hl 3 rfl) ?_
        refine r_iconst (pc := 438) C (1 : Int32) dL_law_438 (by decide) ?_
        refine r_iadd (pc := 439) C dL_law_439 ?_
        refine r_sld (pc := 440) C hX hbl hbA dL_law_440 ?_
        refine r_aload_n (pc := 441) C dL_law_441 rfl (lv_at hl 0 rfl) ?_
        refine r_iload_n (pc := 442) C dL_law_442 rfl (lv_at hl 3 rfl) ?_
        refine r_iconst (pc := 443) C (2 : Int32) dL_law_443 (by decide) ?_
        refine r_iadd (pc := 444) C dL_law_444 ?_
        refine r_sld (pc := 445) C hX hbl hbA dL_law_445 ?_
        refine cv_X12_58 (pc := 446) C t1 hl.1 ⟨Nat.le_of_ble_eq_true rfl, Nat.le_of_ble_eq_true rfl⟩ (Nat.le_of_ble_eq_true rfl) dL_law_446 (fun S74 v75 => ?_)
        refine r_aload_n (pc := 449) C dL_law_449 rfl (lv_at hl 2 rfl) ?_
        refine r_aload_n (pc := 450) C dL_law_450 rfl (lv_at hl 0 rfl) ?_
        refine r_iload_n (pc := 451) C dL_law_451 rfl (lv_at hl 3 rfl) ?_
        refine r_iconst (pc := 452) C (1 : Int32) dL_law_452 (by decide) ?_
        refine r_iadd (pc := 453) C dL_law_453 ?_
        refine r_sld (pc := 454) C hX hbl hbA dL_law_454 ?_
        refine r_aload_n (pc := 455) C dL_law_455 rfl (lv_at hl 0 rfl) ?_
        refine r_iload_n (pc := 456) C dL_law_456 rfl (lv_at hl 3 rfl) ?_
        refine r_iconst (pc := 457) C (2 : Int32) dL_law_457 (by decide) ?_
        refine r_iadd (pc := 458) C dL_law_458 ?_
        refine r_sld (pc := 459) C hX hbl hbA dL_law_459 ?_
        refine cv_X12_61 (pc := 460) C t2 hl.1 ⟨Nat.le_of_ble_eq_true rfl, Nat.le_of_ble_eq_true rfl⟩ (Nat.le_of_ble_eq_true rfl) dL_law_460 (fun S76 v77 => ?_)
        refine r_icmp_eq (pc := 463) C (tgt := 1109) dL_law_463 (by decide) (fun _ => ?_) (fun _ => ?_)
        · exact hj21 S76  _ (lv_sub hl [0, 1, 2, 3] rfl)
        · refine r_iconst (pc := 466) C (0 : Int32) dL_law_466 (by decide) ?_
          exact Sim.none
      refine r_ite (fun h83 => ?_) (fun h83 => ?_)
      · refine r_tblIn (pc := 33) C (tgt := 468) (11 : Int32) h83 dL_law_33 (by decide) (by decide) rfl (by decide) ?_
        refine r_aload_n (pc := 468) C dL_law_468 rfl (lv_at hl 1 rfl) ?_
        refine r_aload_n (pc := 469) C dL_law_469 rfl (lv_at hl 0 rfl) ?_
        refine r_iload_n (pc := 470) C dL_law_470 rfl (lv_at hl 3 rfl) ?_
        refine r_iconst (pc := 471) C (1 : Int32) dL_law_471 (by decide) ?_
        refine r_iadd (pc := 472) C dL_law_472 ?_
        refine r_sld (pc := 473) C hX hbl hbA dL_law_473 ?_
        refine cv_X12_62 (pc := 474) C t1 hl.1 ⟨Nat.le_of_ble_eq_true rfl, Nat.le_of_ble_eq_true rfl⟩ (Nat.le_of_ble_eq_true rfl) dL_law_474 (fun S79 v80 => ?_)
        refine r_aload_n (pc := 477) C dL_law_477 rfl (lv_at hl 2 rfl) ?_
        refine r_aload_n (pc := 478) C dL_law_478 rfl (lv_at hl 0 rfl) ?_
        refine r_iload_n (pc := 479) C dL_law_479 rfl (lv_at hl 3 rfl) ?_
        refine r_iconst (pc := 480) C (1 : Int32) dL_law_480 (by decide) ?_
        refine r_iadd (pc := 481) C dL_law_481 ?_
        refine r_sld (pc := 482) C hX hbl hbA dL_law_482 ?_
        refine cv_X12_65 (pc := 483) C t2 hl.1 ⟨Nat.le_of_ble_eq_true rfl, Nat.le_of_ble_eq_true rfl⟩ (Nat.le_of_ble_eq_true rfl) dL_law_483 (fun S81 v82 => ?_)
        refine r_icmp_eq (pc := 486) C (tgt := 1109) dL_law_486 (by decide) (fun _ => ?_) (fun _ => ?_)
        · exact hj21 S81  _ (lv_sub hl [0, 1, 2, 3] rfl)
        · refine r_iconst (pc := 489) C (0 : Int32) dL_law_489 (by decide) ?_
          exact Sim.none
      refine r_ite (fun h88 => ?_) (fun h88 => ?_)
      · refine r_tblIn (pc := 33) C (tgt := 491) (12 : Int32) h88 dL_law_33 (by decide) (by decide) rfl (by decide) ?_
        refine r_aload_n (pc := 491) C dL_law_491 rfl (lv_at hl 1 rfl) ?_
        refine r_aload_n (pc := 492) C dL_law_492 rfl (lv_at hl 0 rfl) ?_
        refine r_iload_n (pc := 493) C dL_law_493 rfl (lv_at hl 3 rfl) ?_
        refine r_iconst (pc := 494) C (1 : Int32) dL_law_494 (by decide) ?_
        refine r_iadd (pc := 495) C dL_law_495 ?_
        refine r_sld (pc := 496) C hX hbl hbA dL_law_496 ?_
        refine cv_X12_66 (pc := 497) C t1 hl.1 ⟨Nat.le_of_ble_eq_true rfl, Nat.le_of_ble_eq_true rfl⟩ (Nat.le_of_ble_eq_true rfl) dL_law_497 (fun S84 v85 => ?_)
        refine r_aload_n (pc := 500) C dL_law_500 rfl (lv_at hl 2 rfl) ?_
        refine r_aload_n (pc := 501) C dL_law_501 rfl (lv_at hl 0 rfl) ?_
        refine r_iload_n (pc := 502) C dL_law_502 rfl (lv_at hl 3 rfl) ?_
        refine r_iconst (pc := 503) C (1 : Int32) dL_law_503 (by decide) ?_
        refine r_iadd (pc := 504) C dL_law_504 ?_
        refine r_sld (pc := 505) C hX hbl hbA dL_law_505 ?_
        refine cv_X12_69 (pc := 506) C t2 hl.1 ⟨Nat.le_of_ble_eq_true rfl, Nat.le_of_ble_eq_true rfl⟩ (Nat.le_of_ble_eq_true rfl) dL_law_506 (fun S86 v87 => ?_)
        refine r_lcmp_eq (pc := 509) C (tgt := 1109) dL_law_509 dL_law_510 (by decide) (fun _ => ?_) (fun _ => ?_)
        · exact hj21 S86  _ (lv_sub hl [0, 1, 2, 3] rfl)
        · refine r_iconst (pc := 513) C (0 : Int32) dL_law_513 (by decide) ?_
          exact Sim.none
      refine r_ite (fun h93 => ?_) (fun h93 => ?_)
      · refine r_tblIn (pc := 33) C (tgt := 515) (13 : Int32) h93 dL_law_33 (by decide) (by decide) rfl (by decide) ?_
        refine r_aload_n (pc := 515) C dL_law_515 rfl (lv_at hl 1 rfl) ?_
        refine cv_X12_70 (pc := 516) C t1 hl.1 ⟨Nat.le_of_ble_eq_true rfl, Nat.le_of_ble_eq_true rfl⟩ (Nat.le_of_ble_eq_true rfl) dL_law_516 (fun S89 v90 => ?_)
        refine r_aload_n (pc := 519) C dL_law_519 rfl (lv_at hl 2 rfl) ?_
        refine cv_X12_73 (pc := 520) C t2 hl.1 ⟨Nat.le_of_ble_eq_true rfl, Nat.le_of_ble_eq_true rfl⟩ (Nat.le_of_ble_eq_true rfl) dL_law_520 (fun S91 v92 => ?_)
        refine r_icmp_eq (pc := 523) C (tgt := 1109) dL_law_523 (by decide) (fun _ => ?_) (fun _ => ?_)
        · exact hj21 S91  _ (lv_sub hl [0, 1, 2, 3] rfl)
        · refine r_iconst (pc := 526) C (0 : Int32) dL_law_526 (by decide) ?_
          exact Sim.none
      refine r_ite (fun h98 => ?_) (fun h98 => ?_)
      · refine r_tblIn (pc := 33) C (tgt := 528) (14 : Int32) h98 dL_law_33 (by decide) (by decide) rfl (by decide) ?_
        refine r_aload_n (pc := 528) C dL_law_528 rfl (lv_at hl 1 rfl) ?_
        refine cv_X12_74 (pc := 529) C t1 hl.1 ⟨Nat.le_of_ble_eq_true rfl, Nat.le_of_ble_eq_true rfl⟩ (Nat.le_of_ble_eq_true rfl) dL_law_529 (fun S94 v95 => ?_)
        refine r_aload_n (pc := 532) C dL_law_532 rfl (lv_at hl 2 rfl) ?_
        refine cv_X12_77 (pc := 533) C t2 hl.1 ⟨Nat.le_of_ble_eq_true rfl, Nat.le_of_ble_eq_true rfl⟩ (Nat.le_of_ble_eq_true rfl) dL_law_533 (fun S96 v97 => ?_)
        refine r_icmp_eq (pc := 536) C (tgt := 1109) dL_law_536 (by decide) (fun _ => ?_) (fun _ => ?_)
        · exact hj21 S96  _ (lv_sub hl [0, 1, 2, 3] rfl)
        · refine r_iconst (pc := 539) C (0 : Int32) dL_law_539 (by decide) ?_
          exact Sim.none
      refine r_ite (fun h103 => ?_) (fun h103 => ?_)
      · refine r_tblIn (pc := 33) C (tgt := 541) (15 : Int32) h103 dL_law_33 (by decide) (by decide) rfl (by decide) ?_
        refine r_aload_n (pc := 541) C dL_law_541 rfl (lv_at hl 1 rfl) ?_
        refine cv_X12_78 (pc := 542) C t1 hl.1 ⟨Nat.le_of_ble_eq_true rfl, Nat.le_of_ble_eq_true rfl⟩ (Nat.le_of_ble_eq_true rfl) dL_law_542 (fun S99 v100 => ?_)
        refine r_aload_n (pc := 545) C dL_law_545 rfl (lv_at hl 2 rfl) ?_
        refine cv_X12_81 (pc := 546) C t2 hl.1 ⟨Nat.le_of_ble_eq_true rfl, Nat.le_of_ble_eq_true rfl⟩ (Nat.le_of_ble_eq_true rfl) dL_law_546 (fun S101 v102 => ?_)
        refine r_icmp_eq (pc := 549) C (tgt := 1109) dL_law_549 (by decide) (fun _ => ?_) (fun _ => ?_)
        · exact hj21 S101  _ (lv_sub hl [0, 1, 2, 3] rfl)
        · refine r_iconst (pc := 552) C (0 : Int32) dL_law_552 (by decide) ?_
          exact Sim.none
      refine r_ite (fun h108 => ?_) (fun h108 => ?_)
      · refine r_tblIn (pc := 33) C (tgt := 554) (16 : Int32) h108 dL_law_33 (by decide) (by decide) rfl (by decide) ?_
        refine r_aload_n (pc := 554) C dL_law_554 rfl (lv_at hl 1 rfl) ?_
        refine r_aload_n (pc := 555) C dL_law_555 rfl (lv_at hl 0 rfl) ?_
        refine r_iload_n (pc := 556) C dL_law_556 rfl (lv_at hl 3 rfl) ?_
        refine r_iconst (pc := 557) C (1 : Int32) dL_law_557 (by decide) ?_
        refine r_iadd (pc := 558) C dL_law_558 ?_
        refine r_sld (pc := 559) C hX hbl hbA dL_law_559 ?_
        refine cv_X12_82 (pc := 560) C t1 hl.1 ⟨Nat.le_of_ble_eq_true rfl, Nat.le_of_ble_eq_true rfl⟩ (Nat.le_of_ble_eq_true rfl) dL_law_560 (fun S104 v105 => ?_)
        refine r_aload_n (pc := 563) C dL_law_563 rfl (lv_at hl 2 rfl) ?_
        refine r_aload_n (pc := 564) C dL_law_564 rfl (lv_at hl 0 rfl) ?_
        refine r_iload_n (pc := 565) C dL_law_565 rfl (lv_at hl 3 rfl) ?_
        refine r_iconst (pc := 566) C (1 : Int32) dL_law_566 (by decide) ?_
        refine r_iadd (pc := 567) C dL_law_567 ?_
        refine r_sld (pc := 568) C hX hbl hbA dL_law_568 ?_
        refine cv_X12_85 (pc := 569) C t2 hl.1 ⟨Nat.le_of_ble_eq_true rfl, Nat.le_of_ble_eq_true rfl⟩ (Nat.le_of_ble_eq_true rfl) dL_law_569 (fun S106 v107 => ?_)
        refine r_icmp_eq (pc := 572) C (tgt := 1109) dL_law_572 (by decide) (fun _ => ?_) (fun _ => ?_)
        · exact hj21 S106  _ (lv_sub hl [0, 1, 2, 3] rfl)
        · refine r_iconst (pc := 575) C (0 : Int32) dL_law_575 (by decide) ?_
          exact Sim.none
      refine r_ite (fun h113 => ?_) (fun h113 => ?_)
      · refine r_tblIn (pc := 33) C (tgt := 577) (17 : Int32) h113 dL_law_33 (by decide) (by decide) rfl (by decide) ?_
        refine r_aload_n (pc := 577) C dL_law_577 rfl (lv_at hl 1 rfl) ?_
        refine r_aload_n (pc := 578) C dL_law_578 rfl (lv_at hl 0 rfl) ?_
        refine r_iload_n (pc := 579) C dL_law_579 rfl (lv_at hl 3 rfl) ?_
        refine r_iconst (pc := 580) C (1 : Int32) dL_law_580 (by decide) ?_
        refine r_iadd (pc := 581) C dL_law_581 ?_
        refine r_sld (pc := 582) C hX hbl hbA dL_law_582 ?_
        refine cv_X12_86 (pc := 583) C t1 hl.1 ⟨Nat.le_of_ble_eq_true rfl, Nat.le_of_ble_eq_true rfl⟩ (Nat.le_of_ble_eq_true rfl) dL_law_583 (fun S109 v110 => ?_)
        refine r_aload_n (pc := 586) C dL_law_586 rfl (lv_at hl 2 rfl) ?_
        refine r_aload_n (pc := 587) C dL_law_587 rfl (lv_at hl 0 rfl) ?_
        refine r_iload_n (pc := 588) C dL_law_588 rfl (lv_at hl 3 rfl) ?_
        refine r_iconst (pc := 589) C (1 : Int32) dL_law_589 (by decide) ?_
        refine r_iadd (pc := 590) C dL_law_590 ?_
        refine r_sld (pc := 591) C hX hbl hbA dL_law_591 ?_
        refine cv_X12_89 (pc := 592) C t2 hl.1 ⟨Nat.le_of_ble_eq_true rfl, Nat.le_of_ble_eq_true rfl⟩ (Nat.le_of_ble_eq_true rfl) dL_law_592 (fun S111 v112 => ?_)
        refine r_icmp_eq (pc := 595) C (tgt := 1109) dL_law_595 (by decide) (fun _ => ?_) (fun _ => ?_)
        · exact hj21 S111  _ (lv_sub hl [0, 1, 2, 3] rfl)
        · refine r_iconst (pc := 598) C (0 : Int32) dL_law_598 (by decide) ?_
          exact Sim.none
      refine r_ite (fun h118 => ?_) (fun h118 => ?_)
      · refine r_tblIn (pc := 33) C (tgt := 600) (18 : Int32) h118 dL_law_33 (by decide) (by decide) rfl (by decide) ?_
        refine r_aload_n (pc := 600) C dL_law_600 rfl (lv_at hl 1 rfl) ?_
        refine r_aload_n (pc := 601) C dL_law_601 rfl (lv_at hl 0 rfl) ?_
        refine r_iload_n (pc := 602) C dL_law_602 rfl (lv_at hl 3 rfl) ?_
        refine r_iconst (pc := 603) C (1 : Int32) dL_law_603 (by decide) ?_
        refine r_iadd (pc := 604) C dL_law_604 ?_
        refine r_sld (pc := 605) C hX hbl hbA dL_law_605 ?_
        refine cv_X12_90 (pc := 606) C t1 hl.1 ⟨Nat.le_of_ble_eq_true rfl, Nat.le_of_ble_eq_true rfl⟩ (Nat.le_of_ble_eq_true rfl) dL_law_606 (fun S114 v115 => ?_)
        refine r_aload_n (pc := 609) C dL_law_609 rfl (lv_at hl 2 rfl) ?_
        refine r_aload_n (pc := 610) C dL_law_610 rfl (lv_at hl 0 rfl) ?_
        refine r_iload_n (pc := 611) C dL_law_611 rfl (lv_at hl 3 rfl) ?_
        refine r_iconst (pc := 612) C (1 : Int32) dL_law_612 (by decide) ?_
        refine r_iadd (pc := 613) C dL_law_613 ?_
        refine r_sld (pc := 614) C hX hbl hbA dL_law_614 ?_
        refine cv_X12_93 (pc := 615) C t2 hl.1 ⟨Nat.le_of_ble_eq_true rfl, Nat.le_of_ble_eq_true rfl⟩ (Nat.le_of_ble_eq_true rfl) dL_law_615 (fun S116 v117 => ?_)
        refine r_icmp_eq (pc := 618) C (tgt := 1109) dL_law_618 (by decide) (fun _ => ?_) (fun _ => ?_)
        · exact hj21 S116  _ (lv_sub hl [0, 1, 2, 3] rfl)
        · refine r_iconst (pc := 621) C (0 : Int32) dL_law_621 (by decide) ?_
          exact Sim.none
      refine r_ite (fun h123 => ?_) (fun h123 => ?_)
      · refine r_tblIn (pc := 33) C (tgt := 623) (19 : Int32) h123 dL_law_33 (by decide) (by decide) rfl (by decide) ?_
        refine r_aload_n (pc := 623) C dL_law_623 rfl (lv_at hl 1 rfl) ?_
        refine r_aload_n (pc := 624) C dL_law_624 rfl (lv_at hl 0 rfl) ?_
        refine r_iload_n (pc := 625) C dL_law_625 rfl (lv_at hl 3 rfl) ?_
        refine r_iconst (pc := 626) C (1 : Int32) dL_law_626 (by decide) ?_
        refine r_iadd (pc := 627) C dL_law_627 ?_
        refine r_sld (pc := 628) C hX hbl hbA dL_law_628 ?_
        refine r_aload_n (pc := 629) C dL_law_629 rfl (lv_at hl 0 rfl) ?_
        refine r_iload_n (pc := 630) C dL_law_630 rfl (lv_at hl 3 rfl) ?_
        refine r_iconst (pc := 631) C (2 : Int32) dL_law_631 (by decide) ?_
        refine r_iadd (pc := 632) C dL_law_632 ?_
        refine r_sld (pc := 633) C hX hbl hbA dL_law_633 ?_
        refine r_aload_n (pc := 634) C dL_law_634 rfl (lv_at hl 0 rfl) ?_
        refine r_iload_n (pc := 635) C dL_law_635 rfl (lv_at hl 3 rfl) ?_
        refine r_iconst (pc := 636) C (3 : Int32) dL_law_636 (by decide) ?_
        refine r_iadd (pc := 637) C dL_law_637 ?_
        refine r_sld (pc := 638) C hX hbl hbA dL_law_638 ?_
        refine cv_X12_94 (pc := 639) C t1 hl.1 ⟨Nat.le_of_ble_eq_true rfl, Nat.le_of_ble_eq_true rfl⟩ (Nat.le_of_ble_eq_true rfl) dL_law_639 (fun S119 v120 => ?_)
        refine r_aload_n (pc := 642) C dL_law_642 rfl (lv_at hl 2 rfl) ?_
        refine r_aload_n (pc := 643) C dL_law_643 rfl (lv_at hl 0 rfl) ?_
        refine r_iload_n (pc := 644) C dL_law_644 rfl (lv_at hl 3 rfl) ?_
        refine r_iconst (pc := 645) C (1 : Int32) dL_law_645 (by decide) ?_
        refine r_iadd (pc := 646) C dL_law_646 ?_
        refine r_sld (pc := 647) C hX hbl hbA dL_law_647 ?_
        refine r_aload_n (pc := 648) C dL_law_648 rfl (lv_at hl 0 rfl) ?_
        refine r_iload_n (pc := 649) C dL_law_649 rfl (lv_at hl 3 rfl) ?_
        refine r_iconst (pc := 650) C (2 : Int32) dL_law_650 (by decide) ?_
        refine r_iadd (pc := 651) C dL_law_651 ?_
        refine r_sld (pc := 652) C hX hbl hbA dL_law_652 ?_
        refine r_aload_n (pc := 653) C dL_law_653 rfl (lv_at hl 0 rfl) ?_
        refine r_iload_n (pc := 654) C dL_law_654 rfl (lv_at hl 3 rfl) ?_
        refine r_iconst (pc := 655) C (3 : Int32) dL_law_655 (by decide) ?_
        refine r_iadd (pc := 656) C dL_law_656 ?_
        refine r_sld (pc := 657) C hX hbl hbA dL_law_657 ?_
        refine cv_X12_97 (pc := 658) C t2 hl.1 ⟨Nat.le_of_ble_eq_true rfl, Nat.le_of_ble_eq_true rfl⟩ (Nat.le_of_ble_eq_true rfl) dL_law_658 (fun S121 v122 => ?_)
        refine r_icmp_eq (pc := 661) C (tgt := 1109) dL_law_661 (by decide) (fun _ => ?_) (fun _ => ?_)
        · exact hj21 S121  _ (lv_sub hl [0, 1, 2, 3] rfl)
        · refine r_iconst (pc := 664) C (0 : Int32) dL_law_664 (by decide) ?_
          exact Sim.none
      refine r_ite (fun h128 => ?_) (fun h128 => ?_)
      · refine r_tblIn (pc := 33) C (tgt := 666) (20 : Int32) h128 dL_law_33 (by decide) (by decide) rfl (by decide) ?_
        refine r_aload_n (pc := 666) C dL_law_666 rfl (lv_at hl 1 rfl) ?_
        refine r_aload_n (pc := 667) C dL_law_667 rfl (lv_at hl 0 rfl) ?_
        refine r_iload_n (pc := 668) C dL_law_668 rfl (lv_at hl 3 rfl) ?_
        refine r_iconst (pc := 669) C (1 : Int32) dL_law_669 (by decide) ?_
        refine r_iadd (pc := 670) C dL_law_670 ?_
        refine r_sld (pc := 671) C hX hbl hbA dL_law_671 ?_
        refine cv_X12_98 (pc := 672) C t1 hl.1 ⟨Nat.le_of_ble_eq_true rfl, Nat.le_of_ble_eq_true rfl⟩ (Nat.le_of_ble_eq_true rfl) dL_law_672 (fun S124 v125 => ?_)
        refine r_aload_n (pc := 675) C dL_law_675 rfl (lv_at hl 2 rfl) ?_
        refine r_aload_n (pc := 676) C dL_law_676 rfl (lv_at hl 0 rfl) ?_
        refine r_iload_n (pc := 677) C dL_law_677 rfl (lv_at hl 3 rfl) ?_
        refine r_iconst (pc := 678) C (1 : Int32) dL_law_678 (by decide) ?_
        refine r_iadd (pc := 679) C dL_law_679 ?_
        refine r_sld (pc := 680) C hX hbl hbA dL_law_680 ?_
        refine cv_X12_101 (pc := 681) C t2 hl.1 ⟨Nat.le_of_ble_eq_true rfl, Nat.le_of_ble_eq_true rfl⟩ (Nat.le_of_ble_eq_true rfl) dL_law_681 (fun S126 v127 => ?_)
        refine r_icmp_eq (pc := 684) C (tgt := 1109) dL_law_684 (by decide) (fun _ => ?_) (fun _ => ?_)
        · exact hj21 S126  _ (lv_sub hl [0, 1, 2, 3] rfl)
        · refine r_iconst (pc := 687) C (0 : Int32) dL_law_687 (by decide) ?_
          exact Sim.none
      refine r_ite (fun h133 => ?_) (fun h133 => ?_)
      · refine r_tblIn (pc := 33) C (tgt := 689) (21 : Int32) h133 dL_law_33 (by decide) (by decide) rfl (by decide) ?_
        refine r_aload_n (pc := 689) C dL_law_689 rfl (lv_at hl 1 rfl) ?_
        refine r_aload_n (pc := 690) C dL_law_690 rfl (lv_at hl 0 rfl) ?_
        refine r_iload_n (pc := 691) C dL_law_691 rfl (lv_at hl 3 rfl) ?_
        refine r_iconst (pc := 692) C (1 : Int32) dL_law_692 (by decide) ?_
        refine r_iadd (pc := 693) C dL_law_693 ?_
        refine r_sld (pc := 694) C hX hbl hbA dL_law_694 ?_
        refine r_aload_n (pc := 695) C dL_law_695 rfl (lv_at hl 0 rfl) ?_
        refine r_iload_n (pc := 696) C dL_law_696 rfl (lv_at hl 3 rfl) ?_
        refine r_iconst (pc := 697) C (2 : Int32) dL_law_697 (by decide) ?_
        refine r_iadd (pc := 698) C dL_law_698 ?_
        refine r_sld (pc := 699) C hX hbl hbA dL_law_699 ?_
        refine cv_X12_102 (pc := 700) C t1 hl.1 ⟨Nat.le_of_ble_eq_true rfl, Nat.le_of_ble_eq_true rfl⟩ (Nat.le_of_ble_eq_true rfl) dL_law_700 (fun S129 v130 => ?_)
        refine r_aload_n (pc := 703) C dL_law_703 rfl (lv_at hl 2 rfl) ?_
        refine r_aload_n (pc := 704) C dL_law_704 rfl (lv_at hl 0 rfl) ?_
        refine r_iload_n (pc := 705) C dL_law_705 rfl (lv_at hl 3 rfl) ?_
        refine r_iconst (pc := 706) C (1 : Int32) dL_law_706 (by decide) ?_
        refine r_iadd (pc := 707) C dL_law_707 ?_
        refine r_sld (pc := 708) C hX hbl hbA dL_law_708 ?_
        refine r_aload_n (pc := 709) C dL_law_709 rfl (lv_at hl 0 rfl) ?_
        refine r_iload_n (pc := 710) C dL_law_710 rfl (lv_at hl 3 rfl) ?_
        refine r_iconst (pc := 711) C (2 : Int32) dL_law_711 (by decide) ?_
        refine r_iadd (pc := 712) C dL_law_712 ?_
        refine r_sld (pc := 713) C hX hbl hbA dL_law_713 ?_
        refine cv_X12_105 (pc := 714) C t2 hl.1 ⟨Nat.le_of_ble_eq_true rfl, Nat.le_of_ble_eq_true rfl⟩ (Nat.le_of_ble_eq_true rfl) dL_law_714 (fun S131 v132 => ?_)
        refine r_icmp_eq (pc := 717) C (tgt := 1109) dL_law_717 (by decide) (fun _ => ?_) (fun _ => ?_)
        · exact hj21 S131  _ (lv_sub hl [0, 1, 2, 3] rfl)
        · refine r_iconst (pc := 720) C (0 : Int32) dL_law_720 (by decide) ?_
          exact Sim.none
      refine r_ite (fun h138 => ?_) (fun h138 => ?_)
      · refine r_tblIn (pc := 33) C (tgt := 722) (22 : Int32) h138 dL_law_33 (by decide) (by decide) rfl (by decide) ?_
        refine r_aload_n (pc := 722) C dL_law_722 rfl (lv_at hl 1 rfl) ?_
        refine r_aload_n (pc := 723) C dL_law_723 rfl (lv_at hl 0 rfl) ?_
        refine r_iload_n (pc := 724) C dL_law_724 rfl (lv_at hl 3 rfl) ?_
        refine r_iconst (pc := 725) C (1 : Int32) dL_law_725 (by decide) ?_
        refine r_iadd (pc := 726) C dL_law_726 ?_
        refine r_sld (pc := 727) C hX hbl hbA dL_law_727 ?_
        refine cv_X12_106 (pc := 728) C t1 hl.1 ⟨Nat.le_of_ble_eq_true rfl, Nat.le_of_ble_eq_true rfl⟩ (Nat.le_of_ble_eq_true rfl) dL_law_728 (fun S134 v135 => ?_)
        refine r_aload_n (pc := 731) C dL_law_731 rfl (lv_at hl 2 rfl) ?_
        refine r_aload_n (pc := 732) C dL_law_732 rfl (lv_at hl 0 rfl) ?_
        refine r_iload_n (pc := 733) C dL_law_733 rfl (lv_at hl 3 rfl) ?_
        refine r_iconst (pc := 734) C (1 : Int32) dL_law_734 (by decide) ?_
        refine r_iadd (pc := 735) C dL_law_735 ?_
        refine r_sld (pc := 736) C hX hbl hbA dL_law_736 ?_
        refine cv_X12_109 (pc := 737) C t2 hl.1 ⟨Nat.le_of_ble_eq_true rfl, Nat.le_of_ble_eq_true rfl⟩ (Nat.le_of_ble_eq_true rfl) dL_law_737 (fun S136 v137 => ?_)
        refine r_icmp_eq (pc := 740) C (tgt := 1109) dL_law_740 (by decide) (fun _ => ?_) (fun _ => ?_)
        · exact hj21 S136  _ (lv_sub hl [0, 1, 2, 3] rfl)
        · refine r_iconst (pc := 743) C (0 : Int32) dL_law_743 (by decide) ?_
          exact Sim.none
      refine r_ite (fun h143 => ?_) (fun h143 => ?_)
      · refine r_tblIn (pc := 33) C (tgt := 745) (23 : Int32) h143 dL_law_33 (by decide) (by decide) rfl (by decide) ?_
        refine r_aload_n (pc := 745) C dL_law_745 rfl (lv_at hl 1 rfl) ?_
        refine cv_X12_110 (pc := 746) C t1 hl.1 ⟨Nat.le_of_ble_eq_true rfl, Nat.le_of_ble_eq_true rfl⟩ (Nat.le_of_ble_eq_true rfl) dL_law_746 (fun S139 v140 => ?_)
        refine r_aload_n (pc := 749) C dL_law_749 rfl (lv_at hl 2 rfl) ?_
        refine cv_X12_113 (pc := 750) C t2 hl.1 ⟨Nat.le_of_ble_eq_true rfl, Nat.le_of_ble_eq_true rfl⟩ (Nat.le_of_ble_eq_true rfl) dL_law_750 (fun S141 v142 => ?_)
        refine r_icmp_eq (pc := 753) C (tgt := 1109) dL_law_753 (by decide) (fun _ => ?_) (fun _ => ?_)
        · exact hj21 S141  _ (lv_sub hl [0, 1, 2, 3] rfl)
        · refine r_iconst (pc := 756) C (0 : Int32) dL_law_756 (by decide) ?_
          exact Sim.none
      refine r_ite (fun h148 => ?_) (fun h148 => ?_)
      · refine r_tblIn (pc := 33) C (tgt := 758) (24 : Int32) h148 dL_law_33 (by decide) (by decide) rfl (by decide) ?_
        refine r_aload_n (pc := 758) C dL_law_758 rfl (lv_at hl 1 rfl) ?_
        refine r_aload_n (pc := 759) C dL_law_759 rfl (lv_at hl 0 rfl) ?_
        refine r_iload_n (pc := 760) C dL_law_760 rfl (lv_at hl 3 rfl) ?_
        refine r_iconst (pc := 761) C (1 : Int32) dL_law_761 (by decide) ?_
        refine r_iadd (pc := 762) C dL_law_762 ?_
        refine r_sld (pc := 763) C hX hbl hbA dL_law_763 ?_
        refine r_aload_n (pc := 764) C dL_law_764 rfl (lv_at hl 0 rfl) ?_
        refine r_iload_n (pc := 765) C dL_law_765 rfl (lv_at hl 3 rfl) ?_
        refine r_iconst (pc := 766) C (2 : Int32) dL_law_766 (by decide) ?_
        refine r_iadd (pc := 767) C dL_law_767 ?_
        refine r_sld (pc := 768) C hX hbl hbA dL_law_768 ?_
        refine cv_X12_114 (pc := 769) C t1 hl.1 ⟨Nat.le_of_ble_eq_true rfl, Nat.le_of_ble_eq_true rfl⟩ (Nat.le_of_ble_eq_true rfl) dL_law_769 (fun S144 v145 => ?_)
        refine r_aload_n (pc := 772) C dL_law_772 rfl (lv_at hl 2 rfl) ?_
        refine r_aload_n (pc := 773) C dL_law_773 rfl (lv_at hl 0 rfl) ?_
        refine r_iload_n (pc := 774) C dL_law_774 rfl (lv_at hl 3 rfl) ?_
        refine r_iconst (pc := 775) C (1 : Int32) dL_law_775 (by decide) ?_
        refine r_iadd (pc := 776) C dL_law_776 ?_
        refine r_sld (pc := 777) C hX hbl hbA dL_law_777 ?_
        refine r_aload_n (pc := 778) C dL_law_778 rfl (lv_at hl 0 rfl) ?_
        refine r_iload_n (pc := 779) C dL_law_779 rfl (lv_at hl 3 rfl) ?_
        refine r_iconst (pc := 780) C (2 : Int32) dL_law_780 (by decide) ?_
        refine r_iadd (pc := 781) C dL_law_781 ?_
        refine r_sld (pc := 782) C hX hbl hbA dL_law_782 ?_
        refine cv_X12_117 (pc := 783) C t2 hl.1 ⟨Nat.le_of_ble_eq_true rfl, Nat.le_of_ble_eq_true rfl⟩ (Nat.le_of_ble_eq_true rfl) dL_law_783 (fun S146 v147 => ?_)
        refine r_icmp_eq (pc := 786) C (tgt := 1109) dL_law_786 (by decide) (fun _ => ?_) (fun _ => ?_)
        · exact hj21 S146  _ (lv_sub hl [0, 1, 2, 3] rfl)
        · refine r_iconst (pc := 789) C (0 : Int32) dL_law_789 (by decide) ?_
          exact Sim.none
      refine r_ite (fun h153 => ?_) (fun h153 => ?_)
      · refine r_tblIn (pc := 33) C (tgt := 791) (25 : Int32) h153 dL_law_33 (by decide) (by decide) rfl (by decide) ?_
        refine r_aload_n (pc := 791) C dL_law_791 rfl (lv_at hl 1 rfl) ?_
        refine r_aload_n (pc := 792) C dL_law_792 rfl (lv_at hl 0 rfl) ?_
        refine r_iload_n (pc := 793) C dL_law_793 rfl (lv_at hl 3 rfl) ?_
        refine r_iconst (pc := 794) C (1 : Int32) dL_law_794 (by decide) ?_
        refine r_iadd (pc := 795) C dL_law_795 ?_
        refine r_sld (pc := 796) C hX hbl hbA dL_law_796 ?_
        refine r_aload_n (pc := 797) C dL_law_797 rfl (lv_at hl 0 rfl) ?_
        refine r_iload_n (pc := 798) C dL_law_798 rfl (lv_at hl 3 rfl) ?_
        refine r_iconst (pc := 799) C (2 : Int32) dL_law_799 (by decide) ?_
        refine r_iadd (pc := 800) C dL_law_800 ?_
        refine r_sld (pc := 801) C hX hbl hbA dL_law_801 ?_
        refine r_aload_n (pc := 802) C dL_law_802 rfl (lv_at hl 0 rfl) ?_
        refine r_iload_n (pc := 803) C dL_law_803 rfl (lv_at hl 3 rfl) ?_
        refine r_iconst (pc := 804) C (3 : Int32) dL_law_804 (by decide) ?_
        refine r_iadd (pc := 805) C dL_law_805 ?_
        refine r_sld (pc := 806) C hX hbl hbA dL_law_806 ?_
        refine cv_X12_118 (pc := 807) C t1 hl.1 ⟨Nat.le_of_ble_eq_true rfl, Nat.le_of_ble_eq_true rfl⟩ (Nat.le_of_ble_eq_true rfl) dL_law_807 (fun S149 v150 => ?_)
        refine r_aload_n (pc := 810) C dL_law_810 rfl (lv_at hl 2 rfl) ?_
        refine r_aload_n (pc := 811) C dL_law_811 rfl (lv_at hl 0 rfl) ?_
        refine r_iload_n (pc := 812) C dL_law_812 rfl (lv_at hl 3 rfl) ?_
        refine r_iconst (pc := 813) C (1 : Int32) dL_law_813 (by decide) ?_
        refine r_iadd (pc := 814) C dL_law_814 ?_
        refine r_sld (pc := 815) C hX hbl hbA dL_law_815 ?_
        refine r_aload_n (pc := 816) C dL_law_816 rfl (lv_at hl 0 rfl) ?_
        refine r_iload_n (pc := 817) C dL_law_817 rfl (lv_at hl 3 rfl) ?_
        refine r_iconst (pc := 818) C (2 : Int32) dL_law_818 (by decide) ?_
        refine r_iadd (pc := 819) C dL_law_819 ?_
        refine r_sld (pc := 820) C hX hbl hbA dL_law_820 ?_
        refine r_aload_n (pc := 821) C dL_law_821 rfl (lv_at hl 0 rfl) ?_
        refine r_iload_n (pc := 822) C dL_law_822 rfl (lv_at hl 3 rfl) ?_
        refine r_iconst (pc := 823) C (3 : Int32) dL_law_823 (by decide) ?_
        refine r_iadd (pc := 824) C dL_law_824 ?_
        refine r_sld (pc := 825) C hX hbl hbA dL_law_825 ?_
        refine cv_X12_121 (pc := 826) C t2 hl.1 ⟨Nat.le_of_ble_eq_true rfl, Nat.le_of_ble_eq_true rfl⟩ (Nat.le_of_ble_eq_true rfl) dL_law_826 (fun S151 v152 => ?_)
        refine r_icmp_eq (pc := 829) C (tgt := 1109) dL_law_829 (by decide) (fun _ => ?_) (fun _ => ?_)
        · exact hj21 S151  _ (lv_sub hl [0, 1, 2, 3] rfl)
        · refine r_iconst (pc := 832) C (0 : Int32) dL_law_832 (by decide) ?_
          exact Sim.none
      refine r_ite (fun h158 => ?_) (fun h158 => ?_)
      · refine r_tblIn (pc := 33) C (tgt := 834) (26 : Int32) h158 dL_law_33 (by decide) (by decide) rfl (by decide) ?_
        refine r_aload_n (pc := 834) C dL_law_834 rfl (lv_at hl 1 rfl) ?_
        refine r_aload_n (pc := 835) C dL_law_835 rfl (lv_at hl 0 rfl) ?_
        refine r_iload_n (pc := 836) C dL_law_836 rfl (lv_at hl 3 rfl) ?_
        refine r_iconst (pc := 837) C (1 : Int32) dL_law_837 (by decide) ?_
        refine r_iadd (pc := 838) C dL_law_838 ?_
        refine r_sld (pc := 839) C hX hbl hbA dL_law_839 ?_
        refine r_aload_n (pc := 840) C dL_law_840 rfl (lv_at hl 0 rfl) ?_
        refine r_iload_n (pc := 841) C dL_law_841 rfl (lv_at hl 3 rfl) ?_
        refine r_iconst (pc := 842) C (2 : Int32) dL_law_842 (by decide) ?_
        refine r_iadd (pc := 843) C dL_law_843 ?_
        refine r_sld (pc := 844) C hX hbl hbA dL_law_844 ?_
        refine r_aload_n (pc := 845) C dL_law_845 rfl (lv_at hl 0 rfl) ?_
        refine r_iload_n (pc := 846) C dL_law_846 rfl (lv_at hl 3 rfl) ?_
        refine r_iconst (pc := 847) C (3 : Int32) dL_law_847 (by decide) ?_
        refine r_iadd (pc := 848) C dL_law_848 ?_
        refine r_sld (pc := 849) C hX hbl hbA dL_law_849 ?_
        refine r_i2l (pc := 850) C dL_law_850 ?_
        refine r_bipush (pc := 851) C (32 : Int32) dL_law_851 (by decide) ?_
        refine r_lshl (pc := 853) C dL_law_853 ?_
        refine r_aload_n (pc := 854) C dL_law_854 rfl (lv_at hl 0 rfl) ?_
        refine r_iload_n (pc := 855) C dL_law_855 rfl (lv_at hl 3 rfl) ?_
        refine r_iconst (pc := 856) C (4 : Int32) dL_law_856 (by decide) ?_
        refine r_iadd (pc := 857) C dL_law_857 ?_
        refine r_sld (pc := 858) C hX hbl hbA dL_law_858 ?_
        refine r_i2l (pc := 859) C dL_law_859 ?_
        refine r_ldc2 (pc := 860) C (4294967295 : Int64) wl_161 dL_law_860 ?_
        refine r_land (pc := 863) C dL_law_863 ?_
        refine r_lor (pc := 864) C dL_law_864 ?_
        refine cv_X12_124 (pc := 865) C t1 hl.1 ⟨Nat.le_of_ble_eq_true rfl, Nat.le_of_ble_eq_true rfl⟩ (Nat.le_of_ble_eq_true rfl) dL_law_865 (fun S154 v155 => ?_)
        refine r_aload_n (pc := 868) C dL_law_868 rfl (lv_at hl 2 rfl) ?_
        refine r_aload_n (pc := 869) C dL_law_869 rfl (lv_at hl 0 rfl) ?_
        refine r_iload_n (pc := 870) C dL_law_870 rfl (lv_at hl 3 rfl) ?_
        refine r_iconst (pc := 871) C (1 : Int32) dL_law_871 (by decide) ?_
        refine r_iadd (pc := 872) C dL_law_872 ?_
        refine r_sld (pc := 873) C hX hbl hbA dL_law_873 ?_
        refine r_aload_n (pc := 874) C dL_law_874 rfl (lv_at hl 0 rfl) ?_
        refine r_iload_n (pc := 875) C dL_law_875 rfl (lv_at hl 3 rfl) ?_
        refine r_iconst (pc := 876) C (2 : Int32) dL_law_876 (by decide) ?_
        refine r_iadd (pc := 877) C dL_law_877 ?_
        refine r_sld (pc := 878) C hX hbl hbA dL_law_878 ?_
        refine r_aload_n (pc := 879) C dL_law_879 rfl (lv_at hl 0 rfl) ?_
        refine r_iload_n (pc := 880) C dL_law_880 rfl (lv_at hl 3 rfl) ?_
        refine r_iconst (pc := 881) C (3 : Int32) dL_law_881 (by decide) ?_
        refine r_iadd (pc := 882) C dL_law_882 ?_
        refine r_sld (pc := 883) C hX hbl hbA dL_law_883 ?_
        refine r_i2l (pc := 884) C dL_law_884 ?_
        refine r_bipush (pc := 885) C (32 : Int32) dL_law_885 (by decide) ?_
        refine r_lshl (pc := 887) C dL_law_887 ?_
        refine r_aload_n (pc := 888) C dL_law_888 rfl (lv_at hl 0 rfl) ?_
        refine r_iload_n (pc := 889) C dL_law_889 rfl (lv_at hl 3 rfl) ?_
        refine r_iconst (pc := 890) C (4 : Int32) dL_law_890 (by decide) ?_
        refine r_iadd (pc := 891) C dL_law_891 ?_
        refine r_sld (pc := 892) C hX hbl hbA dL_law_892 ?_
        refine r_i2l (pc := 893) C dL_law_893 ?_
        refine r_ldc2 (pc := 894) C (4294967295 : Int64) wl_161 dL_law_894 ?_
        refine r_land (pc := 897) C dL_law_897 ?_
        refine r_lor (pc := 898) C dL_law_898 ?_
        refine cv_X12_128 (pc := 899) C t2 hl.1 ⟨Nat.le_of_ble_eq_true rfl, Nat.le_of_ble_eq_true rfl⟩ (Nat.le_of_ble_eq_true rfl) dL_law_899 (fun S156 v157 => ?_)
        refine r_lcmp_eq (pc := 902) C (tgt := 1109) dL_law_902 dL_law_903 (by decide) (fun _ => ?_) (fun _ => ?_)
        · exact hj21 S156  _ (lv_sub hl [0, 1, 2, 3] rfl)
        · refine r_iconst (pc := 906) C (0 : Int32) dL_law_906 (by decide) ?_
          exact Sim.none
      refine r_ite (fun h163 => ?_) (fun h163 => ?_)
      · refine r_tblIn (pc := 33) C (tgt := 908) (27 : Int32) h163 dL_law_33 (by decide) (by decide) rfl (by decide) ?_
        refine r_aload_n (pc := 908) C dL_law_908 rfl (lv_at hl 1 rfl) ?_
        refine r_aload_n (pc := 909) C dL_law_909 rfl (lv_at hl 0 rfl) ?_
        refine r_iload_n (pc := 910) C dL_law_910 rfl (lv_at hl 3 rfl) ?_
        refine r_iconst (pc := 911) C (1 : Int32) dL_law_911 (by decide) ?_
        refine r_iadd (pc := 912) C dL_law_912 ?_
        refine r_sld (pc := 913) C hX hbl hbA dL_law_913 ?_
        refine r_aload_n (pc := 914) C dL_law_914 rfl (lv_at hl 0 rfl) ?_
        refine r_iload_n (pc := 915) C dL_law_915 rfl (lv_at hl 3 rfl) ?_
        refine r_iconst (pc := 916) C (2 : Int32) dL_law_916 (by decide) ?_
        refine r_iadd (pc := 917) C dL_law_917 ?_
        refine r_sld (pc := 918) C hX hbl hbA dL_law_918 ?_
        refine r_aload_n (pc := 919) C dL_law_919 rfl (lv_at hl 0 rfl) ?_
        refine r_iload_n (pc := 920) C dL_law_920 rfl (lv_at hl 3 rfl) ?_
        refine r_iconst (pc := 921) C (3 : Int32) dL_law_921 (by decide) ?_
        refine r_iadd (pc := 922) C dL_law_922 ?_
        refine r_sld (pc := 923) C hX hbl hbA dL_law_923 ?_
        refine r_aload_n (pc := 924) C dL_law_924 rfl (lv_at hl 0 rfl) ?_
        refine r_iload_n (pc := 925) C dL_law_925 rfl (lv_at hl 3 rfl) ?_
        refine r_iconst (pc := 926) C (4 : Int32) dL_law_926 (by decide) ?_
        refine r_iadd (pc := 927) C dL_law_927 ?_
        refine r_sld (pc := 928) C hX hbl hbA dL_law_928 ?_
        refine r_aload_n (pc := 929) C dL_law_929 rfl (lv_at hl 0 rfl) ?_
        refine r_iload_n (pc := 930) C dL_law_930 rfl (lv_at hl 3 rfl) ?_
        refine r_iconst (pc := 931) C (5 : Int32) dL_law_931 (by decide) ?_
        refine r_iadd (pc := 932) C dL_law_932 ?_
        refine r_sld (pc := 933) C hX hbl hbA dL_law_933 ?_
        refine cv_X12_129 (pc := 934) C t1 hl.1 ⟨Nat.le_of_ble_eq_true rfl, Nat.le_of_ble_eq_true rfl⟩ (Nat.le_of_ble_eq_true rfl) dL_law_934 (fun S159 v160 => ?_)
        refine r_aload_n (pc := 937) C dL_law_937 rfl (lv_at hl 2 rfl) ?_
        refine r_aload_n (pc := 938) C dL_law_938 rfl (lv_at hl 0 rfl) ?_
        refine r_iload_n (pc := 939) C dL_law_939 rfl (lv_at hl 3 rfl) ?_
        refine r_iconst (pc := 940) C (1 : Int32) dL_law_940 (by decide) ?_
        refine r_iadd (pc := 941) C dL_law_941 ?_
        refine r_sld (pc := 942) C hX hbl hbA dL_law_942 ?_
        refine r_aload_n (pc := 943) C dL_law_943 rfl (lv_at hl 0 rfl) ?_
        refine r_iload_n (pc := 944) C dL_law_944 rfl (lv_at hl 3 rfl) ?_
        refine r_iconst (pc := 945) C (2 : Int32) dL_law_945 (by decide) ?_
        refine r_iadd (pc := 946) C dL_law_946 ?_
        refine r_sld (pc := 947) C hX hbl hbA dL_law_947 ?_
        refine r_aload_n (pc := 948) C dL_law_948 rfl (lv_at hl 0 rfl) ?_
        refine r_iload_n (pc := 949) C dL_law_949 rfl (lv_at hl 3 rfl) ?_
        refine r_iconst (pc := 950) C (3 : Int32) dL_law_950 (by decide) ?_
        refine r_iadd (pc := 951) C dL_law_951 ?_
        refine r_sld (pc := 952) C hX hbl hbA dL_law_952 ?_
        refine r_aload_n (pc := 953) C dL_law_953 rfl (lv_at hl 0 rfl) ?_
        refine r_iload_n (pc := 954) C dL_law_954 rfl (lv_at hl 3 rfl) ?_
        refine r_iconst (pc := 955) C (4 : Int32) dL_law_955 (by decide) ?_
        refine r_iadd (pc := 956) C dL_law_956 ?_
        refine r_sld (pc := 957) C hX hbl hbA dL_law_957 ?_
        refine r_aload_n (pc := 958) C dL_law_958 rfl (lv_at hl 0 rfl) ?_
        refine r_iload_n (pc := 959) C dL_law_959 rfl (lv_at hl 3 rfl) ?_
        refine r_iconst (pc := 960) C (5 : Int32) dL_law_960 (by decide) ?_
        refine r_iadd (pc := 961) C dL_law_961 ?_
        refine r_sld (pc := 962) C hX hbl hbA dL_law_962 ?_
        refine cv_X12_133 (pc := 963) C t2 hl.1 ⟨Nat.le_of_ble_eq_true rfl, Nat.le_of_ble_eq_true rfl⟩ (Nat.le_of_ble_eq_true rfl) dL_law_963 (fun S161 v162 => ?_)
        refine r_icmp_eq (pc := 966) C (tgt := 1109) dL_law_966 (by decide) (fun _ => ?_) (fun _ => ?_)
        · exact hj21 S161  _ (lv_sub hl [0, 1, 2, 3] rfl)
        · refine r_iconst (pc := 969) C (0 : Int32) dL_law_969 (by decide) ?_
          exact Sim.none
      refine r_ite (fun h168 => ?_) (fun h168 => ?_)
      · refine r_tblIn (pc := 33) C (tgt := 971) (28 : Int32) h168 dL_law_33 (by decide) (by decide) rfl (by decide) ?_
        refine r_aload_n (pc := 971) C dL_law_971 rfl (lv_at hl 1 rfl) ?_
        refine r_aload_n (pc := 972) C dL_law_972 rfl (lv_at hl 0 rfl) ?_
        refine r_iload_n (pc := 973) C dL_law_973 rfl (lv_at hl 3 rfl) ?_
        refine r_iconst (pc := 974) C (1 : Int32) dL_law_974 (by decide) ?_
        refine r_iadd (pc := 975) C dL_law_975 ?_
        refine r_sld (pc := 976) C hX hbl hbA dL_law_976 ?_
        refine r_aload_n (pc := 977) C dL_law_977 rfl (lv_at hl 0 rfl) ?_
        refine r_iload_n (pc := 978) C dL_law_978 rfl (lv_at hl 3 rfl) ?_
        refine r_iconst (pc := 979) C (2 : Int32) dL_law_979 (by decide) ?_
        refine r_iadd (pc := 980) C dL_law_980 ?_
        refine r_sld (pc := 981) C hX hbl hbA dL_law_981 ?_
        refine r_aload_n (pc := 982) C dL_law_982 rfl (lv_at hl 0 rfl) ?_
        refine r_iload_n (pc := 983) C dL_law_983 rfl (lv_at hl 3 rfl) ?_
        refine r_iconst (pc := 984) C (3 : Int32) dL_law_984 (by decide) ?_
        refine r_iadd (pc := 985) C dL_law_985 ?_
        refine r_sld (pc := 986) C hX hbl hbA dL_law_986 ?_
        refine r_aload_n (pc := 987) C dL_law_987 rfl (lv_at hl 0 rfl) ?_
        refine r_iload_n (pc := 988) C dL_law_988 rfl (lv_at hl 3 rfl) ?_
        refine r_iconst (pc := 989) C (4 : Int32) dL_law_989 (by decide) ?_
        refine r_iadd (pc := 990) C dL_law_990 ?_
        refine r_sld (pc := 991) C hX hbl hbA dL_law_991 ?_
        refine cv_X12_134 (pc := 992) C t1 hl.1 ⟨Nat.le_of_ble_eq_true rfl, Nat.le_of_ble_eq_true rfl⟩ (Nat.le_of_ble_eq_true rfl) dL_law_992 (fun S164 v165 => ?_)
        refine r_aload_n (pc := 995) C dL_law_995 rfl (lv_at hl 2 rfl) ?_
        refine r_aload_n (pc := 996) C dL_law_996 rfl (lv_at hl 0 rfl) ?_
        refine r_iload_n (pc := 997) C dL_law_997 rfl (lv_at hl 3 rfl) ?_
        refine r_iconst (pc := 998) C (1 : Int32) dL_law_998 (by decide) ?_
        refine r_iadd (pc := 999) C dL_law_999 ?_
        refine r_sld (pc := 1000) C hX hbl hbA dL_law_1000 ?_
        refine r_aload_n (pc := 1001) C dL_law_1001 rfl (lv_at hl 0 rfl) ?_
        refine r_iload_n (pc := 1002) C dL_law_1002 rfl (lv_at hl 3 rfl) ?_
        refine r_iconst (pc := 1003) C (2 : Int32) dL_law_1003 (by decide) ?_
        refine r_iadd (pc := 1004) C dL_law_1004 ?_
        refine r_sld (pc := 1005) C hX hbl hbA dL_law_1005 ?_
        refine r_aload_n (pc := 1006) C dL_law_1006 rfl (lv_at hl 0 rfl) ?_
        refine r_iload_n (pc := 1007) C dL_law_1007 rfl (lv_at hl 3 rfl) ?_
        refine r_iconst (pc := 1008) C (3 : Int32) dL_law_1008 (by decide) ?_
        refine r_iadd (pc := 1009) C dL_law_1009 ?_
        refine r_sld (pc := 1010) C hX hbl hbA dL_law_1010 ?_
        refine r_aload_n (pc := 1011) C dL_law_1011 rfl (lv_at hl 0 rfl) ?_
        refine r_iload_n (pc := 1012) C dL_law_1012 rfl (lv_at hl 3 rfl) ?_
        refine r_iconst (pc := 1013) C (4 : Int32) dL_law_1013 (by decide) ?_
        refine r_iadd (pc := 1014) C dL_law_1014 ?_
        refine r_sld (pc := 1015) C hX hbl hbA dL_law_1015 ?_
        refine cv_X12_138 (pc := 1016) C t2 hl.1 ⟨Nat.le_of_ble_eq_true rfl, Nat.le_of_ble_eq_true rfl⟩ (Nat.le_of_ble_eq_true rfl) dL_law_1016 (fun S166 v167 => ?_)
        refine r_icmp_eq (pc := 1019) C (tgt := 1109) dL_law_1019 (by decide) (fun _ => ?_) (fun _ => ?_)
        · exact hj21 S166  _ (lv_sub hl [0, 1, 2, 3] rfl)
        · refine r_iconst (pc := 1022) C (0 : Int32) dL_law_1022 (by decide) ?_
          exact Sim.none
      refine r_ite (fun h173 => ?_) (fun h173 => ?_)
      · refine r_tblIn (pc := 33) C (tgt := 1024) (29 : Int32) h173 dL_law_33 (by decide) (by decide) rfl (by decide) ?_
        refine r_aload_n (pc := 1024) C dL_law_1024 rfl (lv_at hl 1 rfl) ?_
        refine r_aload_n (pc := 1025) C dL_law_1025 rfl (lv_at hl 0 rfl) ?_
        refine r_iload_n (pc := 1026) C dL_law_1026 rfl (lv_at hl 3 rfl) ?_
        refine r_iconst (pc := 1027) C (1 : Int32) dL_law_1027 (by decide) ?_
        refine r_iadd (pc := 1028) C dL_law_1028 ?_
        refine r_sld (pc := 1029) C hX hbl hbA dL_law_1029 ?_
        refine cv_X12_139 (pc := 1030) C t1 hl.1 ⟨Nat.le_of_ble_eq_true rfl, Nat.le_of_ble_eq_true rfl⟩ (Nat.le_of_ble_eq_true rfl) dL_law_1030 (fun S169 v170 => ?_)
        refine r_aload_n (pc := 1033) C dL_law_1033 rfl (lv_at hl 2 rfl) ?_
        refine r_aload_n (pc := 1034) C dL_law_1034 rfl (lv_at hl 0 rfl) ?_
        refine r_iload_n (pc := 1035) C dL_law_1035 rfl (lv_at hl 3 rfl) ?_
        refine r_iconst (pc := 1036) C (1 : Int32) dL_law_1036 (by decide) ?_
        refine r_iadd (pc := 1037) C dL_law_1037 ?_
        refine r_sld (pc := 1038) C hX hbl hbA dL_law_1038 ?_
        refine cv_X12_142 (pc := 1039) C t2 hl.1 ⟨Nat.le_of_ble_eq_true rfl, Nat.le_of_ble_eq_true rfl⟩ (Nat.le_of_ble_eq_true rfl) dL_law_1039 (fun S171 v172 => ?_)
        refine r_icmp_eq (pc := 1042) C (tgt := 1109) dL_law_1042 (by decide) (fun _ => ?_) (fun _ => ?_)
        · exact hj21 S171  _ (lv_sub hl [0, 1, 2, 3] rfl)
        · refine r_iconst (pc := 1045) C (0 : Int32) dL_law_1045 (by decide) ?_
          exact Sim.none
      refine r_ite (fun h178 => ?_) (fun h178 => ?_)
      · refine r_tblIn (pc := 33) C (tgt := 1047) (30 : Int32) h178 dL_law_33 (by decide) (by decide) rfl (by decide) ?_
        refine r_aload_n (pc := 1047) C dL_law_1047 rfl (lv_at hl 1 rfl) ?_
        refine cv_X12_143 (pc := 1048) C t1 hl.1 ⟨Nat.le_of_ble_eq_true rfl, Nat.le_of_ble_eq_true rfl⟩ (Nat.le_of_ble_eq_true rfl) dL_law_1048 (fun S174 v175 => ?_)
        refine r_aload_n (pc := 1051) C dL_law_1051 rfl (lv_at hl 2 rfl) ?_
        refine cv_X12_146 (pc := 1052) C t2 hl.1 ⟨Nat.le_of_ble_eq_true rfl, Nat.le_of_ble_eq_true rfl⟩ (Nat.le_of_ble_eq_true rfl) dL_law_1052 (fun S176 v177 => ?_)
        refine r_icmp_eq (pc := 1055) C (tgt := 1109) dL_law_1055 (by decide) (fun _ => ?_) (fun _ => ?_)
        · exact hj21 S176  _ (lv_sub hl [0, 1, 2, 3] rfl)
        · refine r_iconst (pc := 1058) C (0 : Int32) dL_law_1058 (by decide) ?_
          exact Sim.none
      refine r_ite (fun h183 => ?_) (fun h183 => ?_)
      · refine r_tblIn (pc := 33) C (tgt := 1060) (31 : Int32) h183 dL_law_33 (by decide) (by decide) rfl (by decide) ?_
        refine r_aload_n (pc := 1060) C dL_law_1060 rfl (lv_at hl 1 rfl) ?_
        refine cv_X12_147 (pc := 1061) C t1 hl.1 ⟨Nat.le_of_ble_eq_true rfl, Nat.le_of_ble_eq_true rfl⟩ (Nat.le_of_ble_eq_true rfl) dL_law_1061 (fun S179 v180 => ?_)
        refine r_aload_n (pc := 1064) C dL_law_1064 rfl (lv_at hl 2 rfl) ?_
        refine cv_X12_150 (pc := 1065) C t2 hl.1 ⟨Nat.le_of_ble_eq_true rfl, Nat.le_of_ble_eq_true rfl⟩ (Nat.le_of_ble_eq_true rfl) dL_law_1065 (fun S181 v182 => ?_)
        refine r_icmp_eq (pc := 1068) C (tgt := 1109) dL_law_1068 (by decide) (fun _ => ?_) (fun _ => ?_)
        · exact hj21 S181  _ (lv_sub hl [0, 1, 2, 3] rfl)
        · refine r_iconst (pc := 1071) C (0 : Int32) dL_law_1071 (by decide) ?_
          exact Sim.none
      refine r_ite (fun h188 => ?_) (fun h188 => ?_)
      · refine r_tblIn (pc := 33) C (tgt := 1073) (32 : Int32) h188 dL_law_33 (by decide) (by decide) rfl (by decide) ?_
        refine r_aload_n (pc := 1073) C dL_law_1073 rfl (lv_at hl 1 rfl) ?_
        refine cv_X12_151 (pc := 1074) C t1 hl.1 ⟨Nat.le_of_ble_eq_true rfl, Nat.le_of_ble_eq_true rfl⟩ (Nat.le_of_ble_eq_true rfl) dL_law_1074 (fun S184 v185 => ?_)
        refine r_aload_n (pc := 1077) C dL_law_1077 rfl (lv_at hl 2 rfl) ?_
        refine cv_X12_154 (pc := 1078) C t2 hl.1 ⟨Nat.le_of_ble_eq_true rfl, Nat.le_of_ble_eq_true rfl⟩ (Nat.le_of_ble_eq_true rfl) dL_law_1078 (fun S186 v187 => ?_)
        refine r_icmp_eq (pc := 1081) C (tgt := 1109) dL_law_1081 (by decide) (fun _ => ?_) (fun _ => ?_)
        · exact hj21 S186  _ (lv_sub hl [0, 1, 2, 3] rfl)
        · refine r_iconst (pc := 1084) C (0 : Int32) dL_law_1084 (by decide) ?_
          exact Sim.none
      refine r_ite (fun h193 => ?_) (fun h193 => ?_)
      · refine r_tblIn (pc := 33) C (tgt := 1086) (33 : Int32) h193 dL_law_33 (by decide) (by decide) rfl (by decide) ?_
        refine r_aload_n (pc := 1086) C dL_law_1086 rfl (lv_at hl 1 rfl) ?_
        refine r_aload_n (pc := 1087) C dL_law_1087 rfl (lv_at hl 0 rfl) ?_
        refine r_iload_n (pc := 1088) C dL_law_1088 rfl (lv_at hl 3 rfl) ?_
        refine r_iconst (pc := 1089) C (1 : Int32) dL_law_1089 (by decide) ?_
        refine r_iadd (pc := 1090) C dL_law_1090 ?_
        refine r_sld (pc := 1091) C hX hbl hbA dL_law_1091 ?_
        refine cv_X12_155 (pc := 1092) C t1 hl.1 ⟨Nat.le_of_ble_eq_true rfl, Nat.le_of_ble_eq_true rfl⟩ (Nat.le_of_ble_eq_true rfl) dL_law_1092 (fun S189 v190 => ?_)
        refine r_aload_n (pc := 1095) C dL_law_1095 rfl (lv_at hl 2 rfl) ?_
        refine r_aload_n (pc := 1096) C dL_law_1096 rfl (lv_at hl 0 rfl) ?_
        refine r_iload_n (pc := 1097) C dL_law_1097 rfl (lv_at hl 3 rfl) ?_
        refine r_iconst (pc := 1098) C (1 : Int32) dL_law_1098 (by decide) ?_
        refine r_iadd (pc := 1099) C dL_law_1099 ?_
        refine r_sld (pc := 1100) C hX hbl hbA dL_law_1100 ?_
        refine cv_X12_158 (pc := 1101) C t2 hl.1 ⟨Nat.le_of_ble_eq_true rfl, Nat.le_of_ble_eq_true rfl⟩ (Nat.le_of_ble_eq_true rfl) dL_law_1101 (fun S191 v192 => ?_)
        refine r_icmp_eq (pc := 1104) C (tgt := 1109) dL_law_1104 (by decide) (fun _ => ?_) (fun _ => ?_)
        · exact hj21 S191  _ (lv_sub hl [0, 1, 2, 3] rfl)
        · refine r_iconst (pc := 1107) C (0 : Int32) dL_law_1107 (by decide) ?_
          exact Sim.none
      refine r_tblOut (pc := 33) C (tgt := 1109) dL_law_33 (by have g0 : ¬ ((xs (ix v3)) &&& (63 : Int32)).toInt = 0 := i32ne h28; have g1 : ¬ ((xs (ix v3)) &&& (63 : Int32)).toInt = 1 := i32ne h33; have g2 : ¬ ((xs (ix v3)) &&& (63 : Int32)).toInt = 2 := i32ne h38; have g3 : ¬ ((xs (ix v3)) &&& (63 : Int32)).toInt = 3 := i32ne h43; have g4 : ¬ ((xs (ix v3)) &&& (63 : Int32)).toInt = 4 := i32ne h48; have g5 : ¬ ((xs (ix v3)) &&& (63 : Int32)).toInt = 5 := i32ne h53; have g6 : ¬ ((xs (ix v3)) &&& (63 : Int32)).toInt = 6 := i32ne h58; have g7 : ¬ ((xs (ix v3)) &&& (63 : Int32)).toInt = 7 := i32ne h63; have g8 : ¬ ((xs (ix v3)) &&& (63 : Int32)).toInt = 8 := i32ne h68; have g9 : ¬ ((xs (ix v3)) &&& (63 : Int32)).toInt = 9 := i32ne h73; have g10 : ¬ ((xs (ix v3)) &&& (63 : Int32)).toInt = 10 := i32ne h78; have g11 : ¬ ((xs (ix v3)) &&& (63 : Int32)).toInt = 11 := i32ne h83; have g12 : ¬ ((xs (ix v3)) &&& (63 : Int32)).toInt = 12 := i32ne h88; have g13 : ¬ ((xs (ix v3)) &&& (63 : Int32)).toInt = 13 := i32ne h93; have g14 : ¬ ((xs (ix v3)) &&& (63 : Int32)).toInt = 14 := i32ne h98; have g15 : ¬ ((xs (ix v3)) &&& (63 : Int32)).toInt = 15 := i32ne h103; have g16 : ¬ ((xs (ix v3)) &&& (63 : Int32)).toInt = 16 := i32ne h108; have g17 : ¬ ((xs (ix v3)) &&& (63 : Int32)).toInt = 17 := i32ne h113; have g18 : ¬ ((xs (ix v3)) &&& (63 : Int32)).toInt = 18 := i32ne h118; have g19 : ¬ ((xs (ix v3)) &&& (63 : Int32)).toInt = 19 := i32ne h123; have g20 : ¬ ((xs (ix v3)) &&& (63 : Int32)).toInt = 20 := i32ne h128; have g21 : ¬ ((xs (ix v3)) &&& (63 : Int32)).toInt = 21 := i32ne h133; have g22 : ¬ ((xs (ix v3)) &&& (63 : Int32)).toInt = 22 := i32ne h138; have g23 : ¬ ((xs (ix v3)) &&& (63 : Int32)).toInt = 23 := i32ne h143; have g24 : ¬ ((xs (ix v3)) &&& (63 : Int32)).toInt = 24 := i32ne h148; have g25 : ¬ ((xs (ix v3)) &&& (63 : Int32)).toInt = 25 := i32ne h153; have g26 : ¬ ((xs (ix v3)) &&& (63 : Int32)).toInt = 26 := i32ne h158; have g27 : ¬ ((xs (ix v3)) &&& (63 : Int32)).toInt = 27 := i32ne h163; have g28 : ¬ ((xs (ix v3)) &&& (63 : Int32)).toInt = 28 := i32ne h168; have g29 : ¬ ((xs (ix v3)) &&& (63 : Int32)).toInt = 29 := i32ne h173; have g30 : ¬ ((xs (ix v3)) &&& (63 : Int32)).toInt = 30 := i32ne h178; have g31 : ¬ ((xs (ix v3)) &&& (63 : Int32)).toInt = 31 := i32ne h183; have g32 : ¬ ((xs (ix v3)) &&& (63 : Int32)).toInt = 32 := i32ne h188; have g33 : ¬ ((xs (ix v3)) &&& (63 : Int32)).toInt = 33 := i32ne h193; omega) (by decide) ?_
      exact hj21 S  _ (lv_sub hl [0, 1, 2, 3] rfl)

