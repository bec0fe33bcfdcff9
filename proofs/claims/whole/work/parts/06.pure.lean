/-- ScreeCourt.found(I)I -/
def X10_found (S : St) (k0 : Nat) (v1 : Int32) : Option (St × Int32) :=
  lt (setI S k0 15 ((S.1 k0 15) + (1 : Int32))) fun S21 =>
  some (S21, v1)
/-- ScreeCourt$Slope.addPlace(I)I -/
def X7_addPlace (S : St) (k0 : Nat) (v1 : Int32) : Option (St × Int32) :=
  ck (S.1 k0 3) 12 (lt (setI S (rf k0 0) (ix (S.1 k0 3)) v1) fun S22 =>
  lt (setI S22 k0 3 ((S22.1 k0 3) + (1 : Int32))) fun S23 =>
  some (S23, (S23.1 k0 3) - (1 : Int32)))
/-- ScreeCourt.place(I)I -/
def X10_place (S : St) (k0 : Nat) (v1 : Int32) : Option (St × Int32) :=
  if (S.1 k0 13) = 0 then (
    lt (fun (S22 : St)  =>
      bd (X10_found S22 k0 (-1 : Int32)) fun S23 v24 =>
      some (S23, v24)) fun (j21 : St → Option (St × Int32)) =>
    if v1 < 0 then (
      j21 S)
    else (
      if v1 < (5 : Int32) then (
        if (S.1 (rf k0 0) 3) < (12 : Int32) then (
          bd (X7_addPlace S (rf k0 0) v1) fun S27 v28 =>
          some (S27, v28))
        else (
          bd (X10_found S k0 (-5 : Int32)) fun S29 v30 =>
          some (S29, v30)))
      else (
        j21 S)))
  else (
    bd (X10_found S k0 (-6 : Int32)) fun S31 v32 =>
    some (S31, v32))
/-- ScreeCourt$Slope.endOf(I)I -/
def X7_endOf (S : St) (k0 : Nat) (v1 : Int32) : Option (St × Int32) :=
  if v1 < 0 then (
    some (S, (11 : Int32) - v1))
  else (
    some (S, v1))
/-- ScreeCourt$Slope.addWay(III)I -/
def X7_addWay (S : St) (k0 : Nat) (v1 : Int32) (v2 : Int32) (v3 : Int32) : Option (St × Int32) :=
  ck v1 12 (
  bd (X7_endOf S k0 v2) fun S24 v25 =>
  ck v25 15 (
  ck v25 15 (lt (setI S24 (rf (rf k0 1) (ix v1)) (ix v25) ((S24.1 (rf (rf k0 1) (ix v1)) (ix v25)) + v3)) fun S26 =>
  ck v1 12 (
  ck v1 12 (lt (setI S26 (rf k0 2) (ix v1) ((S26.1 (rf k0 2) (ix v1)) + v3)) fun S28 =>
  ck v1 12 (
  some (S28, S28.1 (rf k0 2) (ix v1))))))))
/-- ScreeCourt$Slope.has(I)Z -/
def X7_has (S : St) (k0 : Nat) (v1 : Int32) : Option (St × Int32) :=
  lt (fun (S22 : St)  =>
    some (S22, (0 : Int32))) fun (j21 : St → Option (St × Int32)) =>
  if v1 < 0 then (
    j21 S)
  else (
    if (S.1 k0 3) ≤ v1 then (
      j21 S)
    else (
      some (S, (1 : Int32))))
/-- ScreeCourt$Slope.isDitch(I)Z -/
def X7_isDitch (S : St) (k0 : Nat) (v1 : Int32) : Option (St × Int32) :=
  lt (fun (S22 : St)  =>
    some (S22, (0 : Int32))) fun (j21 : St → Option (St × Int32)) =>
  if 0 ≤ v1 then (
    j21 S)
  else (
    if v1 < (-3 : Int32) then (
      j21 S)
    else (
      some (S, (1 : Int32))))
/-- ScreeCourt$Slope.hasEnd(I)Z -/
def X7_hasEnd (S : St) (k0 : Nat) (v1 : Int32) : Option (St × Int32) :=
  bd (X7_has S k0 v1) fun S21 v22 =>
  lt (fun (S24 : St)  =>
    some (S24, (1 : Int32))) fun (j23 : St → Option (St × Int32)) =>
  if ¬ v22 = 0 then (
    j23 S21)
  else (
    bd (X7_isDitch S21 k0 v1) fun S25 v26 =>
    if v26 = 0 then (
      some (S25, (0 : Int32)))
    else (
      j23 S25))
/-- ScreeCourt$Slope.isOf(II)Z -/
def X7_isOf_10 (v2 : Int32) (K : St → Int32 → Int32 → Option (St × Int32)) : Nat → St → Int32 → Int32 → Option (St × Int32)
  | 0, _, _, _ => none
  | n + 1, S, v3, v4 =>
    if (5 : Int32) ≤ v4 then (
      K S v3 v4)
    else (
      if v3 < 0 then (
        K S v3 v4)
      else (
        if ¬ v3 = v2 then (
          ck v3 5 (
          lt (above (ix v3)) fun v23 =>
          lt (v4 + (1 : Int32)) fun v24 =>
          X7_isOf_10 v2 K n S v23 v24))
        else (
          some (S, (1 : Int32)))))
def X7_isOf (S : St) (k0 : Nat) (v1 : Int32) (v2 : Int32) : Option (St × Int32) :=
  ck v1 12 (
  lt (S.1 (rf k0 0) (ix v1)) fun v22 =>
  X7_isOf_10 v2 (fun (S25 : St) (v26 : Int32) (v27 : Int32) =>
    some (S25, (0 : Int32))) FU S v22 (0 : Int32))
/-- ScreeCourt.way(III)I -/
def X10_way (S : St) (k0 : Nat) (v1 : Int32) (v2 : Int32) (v3 : Int32) : Option (St × Int32) :=
  if (S.1 k0 13) = 0 then (
    bd (X7_has S (rf k0 0) v1) fun S22 v23 =>
    lt (fun (S25 : St)  =>
      bd (X10_found S25 k0 (-1 : Int32)) fun S26 v27 =>
      some (S26, v27)) fun (j24 : St → Option (St × Int32)) =>
    if v23 = 0 then (
      j24 S22)
    else (
      bd (X7_hasEnd S22 (rf k0 0) v2) fun S29 v30 =>
      if v30 = 0 then (
        j24 S29)
      else (
        if ¬ v2 = v1 then (
          lt (fun (S32 : St)  =>
            bd (X10_found S32 k0 (-1 : Int32)) fun S33 v34 =>
            some (S33, v34)) fun (j31 : St → Option (St × Int32)) =>
          if v3 < (1 : Int32) then (
            j31 S29)
          else (
            if v3 ≤ (9 : Int32) then (
              lt (fun (S36 : St)  =>
                lt (fun (S38 : St)  =>
                  bd (X7_addWay S38 (rf k0 0) v1 v2 v3) fun S40 v41 =>
                  some (S40, v41)) fun (j37 : St → Option (St × Int32)) =>
                if 0 ≤ v2 then (
                  j37 S36)
                else (
                  bd (X7_isOf S36 (rf k0 0) v1 (3 : Int32)) fun S43 v44 =>
                  if ¬ v44 = 0 then (
                    j37 S43)
                  else (
                    bd (X10_found S43 k0 (-4 : Int32)) fun S45 v46 =>
                    some (S45, v46)))) fun (j35 : St → Option (St × Int32)) =>
              if v3 = (1 : Int32) then (
                j35 S29)
              else (
                bd (X7_isOf S29 (rf k0 0) v1 (2 : Int32)) fun S48 v49 =>
                if ¬ v49 = 0 then (
                  j35 S48)
                else (
                  bd (X10_found S48 k0 (-4 : Int32)) fun S50 v51 =>
                  some (S50, v51))))
            else (
              j31 S29)))
        else (
          j24 S29))))
  else (
    bd (X10_found S k0 (-6 : Int32)) fun S52 v53 =>
    some (S52, v53))
/-- ScreeCourt$Slope.bitsOfAll()I -/
def X7_bitsOfAll (S : St) (k0 : Nat) : Option (St × Int32) :=
  some (S, ((1 : Int32) <<< ((S.1 k0 3) &&& 31)) - (1 : Int32))
/-- ScreeCourt$Slope.hasDitch(I)Z -/
def X7_hasDitch_2 (k0 : Nat) (v1 : Int32) (K : St → Int32 → Option (St × Int32)) : Nat → St → Int32 → Option (St × Int32)
  | 0, _, _ => none
  | n + 1, S, v2 =>
    if (3 : Int32) ≤ v2 then (
      K S v2)
    else (
      ck v1 12 (
      ck ((12 : Int32) + v2) 15 (
      if (S.1 (rf (rf k0 1) (ix v1)) (ix ((12 : Int32) + v2))) ≤ 0 then (
        lt (v2 + (1 : Int32)) fun v24 =>
        X7_hasDitch_2 k0 v1 K n S v24)
      else (
        some (S, (1 : Int32))))))
def X7_hasDitch (S : St) (k0 : Nat) (v1 : Int32) : Option (St × Int32) :=
  X7_hasDitch_2 k0 v1 (fun (S25 : St) (v26 : Int32) =>
    some (S25, (0 : Int32))) FU S (0 : Int32)
/-- ScreeCourt$Slope.weightToPlaces(II)I -/
def X7_weightToPlaces_5 (k0 : Nat) (v1 : Int32) (v2 : Int32) (K : St → Int32 → Int32 → Option (St × Int32)) : Nat → St → Int32 → Int32 → Option (St × Int32)
  | 0, _, _, _ => none
  | n + 1, S, v3, v4 =>
    if (S.1 k0 3) ≤ v4 then (
      K S v3 v4)
    else (
      lt (fun (S22 : St) (v23 : Int32) =>
        lt (v4 + (1 : Int32)) fun v24 =>
        X7_weightToPlaces_5 k0 v1 v2 K n S22 v23 v24) fun (j21 : St → Int32 → Option (St × Int32)) =>
      if (v2 &&& ((1 : Int32) <<< (v4 &&& 31))) = 0 then (
        j21 S v3)
      else (
        ck v1 12 (
        ck v4 15 (
        lt (v3 + (S.1 (rf (rf k0 1) (ix v1)) (ix v4))) fun v28 =>
        j21 S v28))))
def X7_weightToPlaces (S : St) (k0 : Nat) (v1 : Int32) (v2 : Int32) : Option (St × Int32) :=
  X7_weightToPlaces_5 k0 v1 v2 (fun (S29 : St) (v30 : Int32) (v31 : Int32) =>
    some (S29, v30)) FU S (0 : Int32) (0 : Int32)
/-- ScreeCourt$Slope.bitsOfLost()I -/
def X7_bitsOfLost_17 (k0 : Nat) (v2 : Int32) (K : St → Int32 → Int32 → Option (St × Int32)) : Nat → St → Int32 → Int32 → Option (St × Int32)
  | 0, _, _, _ => none
  | n + 1, S, v1, v3 =>
    if (S.1 k0 3) ≤ v3 then (
      K S v1 v3)
    else (
      bd (X7_bitsOfAll S k0) fun S23 v24 =>
      lt (v24 &&& (v1 ^^^ (-1 : Int32))) fun v25 =>
      bd (X7_hasDitch S23 k0 v3) fun S26 v27 =>
      lt (fun (S29 : St) (v30 : Int32) =>
        lt (v3 + (1 : Int32)) fun v31 =>
        X7_bitsOfLost_17 k0 v2 K n S29 v30 v31) fun (j28 : St → Int32 → Option (St × Int32)) =>
      lt (fun (S33 : St)  =>
        lt (v1 &&& (((1 : Int32) <<< (v3 &&& 31)) ^^^ (-1 : Int32))) fun v34 =>
        j28 S33 v34) fun (j32 : St → Option (St × Int32)) =>
      if ¬ v27 = 0 then (
        j32 S26)
      else (
        bd (X7_weightToPlaces S26 k0 v3 v25) fun S35 v36 =>
        if v36 ≤ 0 then (
          j28 S35 v1)
        else (
          j32 S35)))
def X7_bitsOfLost_7 (k0 : Nat) (K : St → Int32 → Int32 → Option (St × Int32)) : Nat → St → Int32 → Int32 → Option (St × Int32)
  | 0, _, _, _ => none
  | n + 1, S, v1, v2 =>
    if (S.1 k0 3) ≤ v2 then (
      K S v1 v2)
    else (
      X7_bitsOfLost_17 k0 v2 (fun (S37 : St) (v38 : Int32) (v39 : Int32) =>
        lt (v2 + (1 : Int32)) fun v40 =>
        X7_bitsOfLost_7 k0 K n S37 v38 v40) FU S v1 (0 : Int32))
def X7_bitsOfLost (S : St) (k0 : Nat) : Option (St × Int32) :=
  bd (X7_bitsOfAll S k0) fun S21 v22 =>
  X7_bitsOfLost_7 k0 (fun (S41 : St) (v42 : Int32) (v43 : Int32) =>
    some (S41, v42)) FU S21 v22 (0 : Int32)
/-- ScreeCourt.begin()I -/
def X10_begin (S : St) (k0 : Nat) : Option (St × Int32) :=
  if (S.1 k0 13) = 0 then (
    if ¬ (S.1 (rf k0 0) 3) = 0 then (
      bd (X7_bitsOfLost S (rf k0 0)) fun S23 v24 =>
      if v24 = 0 then (
        lt (setI S23 k0 13 (1 : Int32)) fun S25 =>
        some (S25, S25.1 (rf k0 0) 3))
      else (
        lt (setI S23 k0 14 v24) fun S27 =>
        bd (X10_found S27 k0 (-7 : Int32)) fun S28 v29 =>
        some (S28, v29)))
    else (
      bd (X10_found S k0 (-11 : Int32)) fun S30 v31 =>
      some (S30, v31)))
  else (
    bd (X10_found S k0 (-6 : Int32)) fun S32 v33 =>
    some (S32, v33))
/-- ScreeCourt$Chooser.clear()V -/
def X0_clear (S : St) (k0 : Nat) : Option (St × Unit) :=
  lt (setI S k0 4 (0 : Int32)) fun S21 =>
  lt (setI S21 k0 5 (0 : Int32)) fun S22 =>
  lt (setJ S22 k0 6 (1 : Int64)) fun S23 =>
  some (S23, ())
/-- ScreeCourt$Fire.clear()V -/
def X1_clear (S : St) (k0 : Nat) : Option (St × Unit) :=
  lt (setI S k0 1 (0 : Int32)) fun S21 =>
  lt (setI S21 k0 2 (0 : Int32)) fun S22 =>
  some (S22, ())
/-- ScreeCourt$Heap.clear()V -/
def X2_clear_2 (k0 : Nat) (K : St → Int32 → Option (St × Unit)) : Nat → St → Int32 → Option (St × Unit)
  | 0, _, _ => none
  | n + 1, S, v1 =>
    if (12 : Int32) ≤ v1 then (
      K S v1)
    else (
      ck v1 12 (lt (setI S (rf k0 1) (ix v1) (0 : Int32)) fun S22 =>
      ck v1 12 (lt (setJ S22 (rf k0 3) (ix v1) (0 : Int64)) fun S24 =>
      lt (v1 + (1 : Int32)) fun v25 =>
      X2_clear_2 k0 K n S24 v25)))
def X2_clear_30 (k0 : Nat) (K : St → Int32 → Option (St × Unit)) : Nat → St → Int32 → Option (St × Unit)
  | 0, _, _ => none
  | n + 1, S, v1 =>
    if (3 : Int32) ≤ v1 then (
      K S v1)
    else (
      ck v1 3 (lt (setJ S (rf k0 2) (ix v1) (0 : Int64)) fun S29 =>
      lt (v1 + (1 : Int32)) fun v30 =>
      X2_clear_30 k0 K n S29 v30))
def X2_clear (S : St) (k0 : Nat) : Option (St × Unit) :=
  X2_clear_2 k0 (fun (S26 : St) (v27 : Int32) =>
    X2_clear_30 k0 (fun (S31 : St) (v32 : Int32) =>
      some (S31, ())) FU S26 (0 : Int32)) FU S (0 : Int32)
/-- ScreeCourt$History.clear()V -/
def X3_clear (S : St) (k0 : Nat) : Option (St × Unit) :=
  lt (setI S k0 1 (0 : Int32)) fun S21 =>
  lt (setI S21 k0 2 (0 : Int32)) fun S22 =>
  some (S22, ())
/-- ScreeCourt$Roster.clear()V -/
def X6_clear (S : St) (k0 : Nat) : Option (St × Unit) :=
  lt (setI S k0 3 (0 : Int32)) fun S21 =>
  some (S21, ())
/-- ScreeCourt$Slope.clear()V -/
def X7_clear_24 (k0 : Nat) (v1 : Int32) (K : St → Int32 → Option (St × Unit)) : Nat → St → Int32 → Option (St × Unit)
  | 0, _, _ => none
  | n + 1, S, v2 =>
    if (15 : Int32) ≤ v2 then (
      K S v2)
    else (
      ck v1 12 (
      ck v2 15 (lt (setI S (rf (rf k0 1) (ix v1)) (ix v2) (0 : Int32)) fun S28 =>
      lt (v2 + (1 : Int32)) fun v29 =>
      X7_clear_24 k0 v1 K n S28 v29)))
def X7_clear_2 (k0 : Nat) (K : St → Int32 → Option (St × Unit)) : Nat → St → Int32 → Option (St × Unit)
  | 0, _, _ => none
  | n + 1, S, v1 =>
    if (12 : Int32) ≤ v1 then (
      K S v1)
    else (
      ck v1 12 (lt (setI S (rf k0 0) (ix v1) (0 : Int32)) fun S22 =>
      ck v1 12 (lt (setI S22 (rf k0 2) (ix v1) (0 : Int32)) fun S24 =>
      X7_clear_24 k0 v1 (fun (S30 : St) (v31 : Int32) =>
        lt (v1 + (1 : Int32)) fun v32 =>
        X7_clear_2 k0 K n S30 v32) FU S24 (0 : Int32))))
def X7_clear (S : St) (k0 : Nat) : Option (St × Unit) :=
  X7_clear_2 k0 (fun (S33 : St) (v34 : Int32) =>
    lt (setI S33 k0 3 (0 : Int32)) fun S35 =>
    some (S35, ())) FU S (0 : Int32)
/-- ScreeCourt.anew()I -/
def X10_anew_44 (k0 : Nat) (K : St → Int32 → Option (St × Int32)) : Nat → St → Int32 → Option (St × Int32)
  | 0, _, _ => none
  | n + 1, S, v1 =>
    if (8 : Int32) ≤ v1 then (
      K S v1)
    else (
      ck v1 8 (lt (setI S (rf k0 9) (ix v1) (0 : Int32)) fun S34 =>
      lt (v1 + (1 : Int32)) fun v35 =>
      X10_anew_44 k0 K n S34 v35))
def X10_anew (S : St) (k0 : Nat) : Option (St × Int32) :=
  bd (X7_clear S (rf k0 0)) fun S22 _ =>
  bd (X2_clear S22 (rf k0 1)) fun S24 _ =>
  bd (X0_clear S24 (rf k0 3)) fun S26 _ =>
  bd (X3_clear S26 (rf k0 4)) fun S28 _ =>
  bd (X1_clear S28 (rf k0 5)) fun S30 _ =>
  bd (X6_clear S30 (rf k0 6)) fun S32 _ =>
  X10_anew_44 k0 (fun (S36 : St) (v37 : Int32) =>
    lt (setI S36 k0 13 (0 : Int32)) fun S38 =>
    lt (setI S38 k0 14 (0 : Int32)) fun S39 =>
    some (S39, (0 : Int32))) FU S32 (0 : Int32)
/-- ScreeCourt.as(II)I -/
def X10_as (S : St) (k0 : Nat) (v1 : Int32) (v2 : Int32) : Option (St × Int32) :=
  bd (X7_has S (rf k0 0) v1) fun S22 v23 =>
  lt (fun (S25 : St)  =>
    bd (X10_found S25 k0 (-1 : Int32)) fun S26 v27 =>
    some (S26, v27)) fun (j24 : St → Option (St × Int32)) =>
  if v23 = 0 then (
    j24 S22)
  else (
    if v2 < 0 then (
      j24 S22)
    else (
      if v2 < (5 : Int32) then (
        bd (X7_isOf S22 (rf k0 0) v1 v2) fun S29 v30 =>
        if v30 = 0 then (
          bd (X10_found S29 k0 (-4 : Int32)) fun S31 v32 =>
          some (S31, v32))
        else (
          some (S29, v1)))
      else (
        j24 S22)))
/-- ScreeCourt$Slope.weightBetween(II)I -/
def X7_weightBetween (S : St) (k0 : Nat) (v1 : Int32) (v2 : Int32) : Option (St × Int32) :=
  ck v1 12 (
  bd (X7_endOf S k0 v2) fun S24 v25 =>
  ck v25 15 (
  some (S24, S24.1 (rf (rf k0 1) (ix v1)) (ix v25))))
/-- ScreeCourt.weight(II)I -/
def X10_weight (S : St) (k0 : Nat) (v1 : Int32) (v2 : Int32) : Option (St × Int32) :=
  bd (X7_has S (rf k0 0) v1) fun S22 v23 =>
  lt (fun (S25 : St)  =>
    bd (X10_found S25 k0 (-1 : Int32)) fun S26 v27 =>
    some (S26, v27)) fun (j24 : St → Option (St × Int32)) =>
  if v23 = 0 then (
    j24 S22)
  else (
    bd (X7_hasEnd S22 (rf k0 0) v2) fun S29 v30 =>
    if ¬ v30 = 0 then (
      bd (X7_weightBetween S29 (rf k0 0) v1 v2) fun S32 v33 =>
      some (S32, v33))
    else (
      j24 S29))
/-- ScreeCourt$Moment.takeFrom(LScreeCourt$Heap;LScreeCourt$Chooser;)V -/
def X4_takeFrom (S : St) (k0 : Nat) (k1 : Nat) (k2 : Nat) : Option (St × Unit) :=
  gu (cpOk (0 : Int32) (0 : Int32) (12 : Int32) 12 12) (lt (setR S (rf k0 0) (va_cpy (S.1 (rf k1 1)) (S.1 (rf k0 0)) (ix (0 : Int32)) (ix (0 : Int32)) (ix (12 : Int32)))) fun S23 =>
  gu (cpOk (0 : Int32) (0 : Int32) (3 : Int32) 3 3) (lt (setL S23 (rf k0 1) (va_cpy (S23.2 (rf k1 2)) (S23.2 (rf k0 1)) (ix (0 : Int32)) (ix (0 : Int32)) (ix (3 : Int32)))) fun S26 =>
  gu (cpOk (0 : Int32) (0 : Int32) (12 : Int32) 12 12) (lt (setL S26 (rf k0 2) (va_cpy (S26.2 (rf k1 3)) (S26.2 (rf k0 2)) (ix (0 : Int32)) (ix (0 : Int32)) (ix (12 : Int32)))) fun S29 =>
  gu (cpOk (0 : Int32) (0 : Int32) (12 : Int32) 12 12) (lt (setR S29 (rf k0 3) (va_cpy (S29.1 (rf k2 3)) (S29.1 (rf k0 3)) (ix (0 : Int32)) (ix (0 : Int32)) (ix (12 : Int32)))) fun S32 =>
  lt (setI S32 k0 4 (S32.1 k2 4)) fun S33 =>
  lt (setJ S33 k0 5 (S33.2 k2 6)) fun S34 =>
  some (S34, ())))))
/-- ScreeCourt$History.note(LScreeCourt$Heap;LScreeCourt$Chooser;)V -/
def X3_note (S : St) (k0 : Nat) (k1 : Nat) (k2 : Nat) : Option (St × Unit) :=
  ck (S.1 k0 1) 20 (
  bd (X4_takeFrom S (rf (rf k0 0) (ix (S.1 k0 1))) k1 k2) fun S24 _ =>
  gu (¬ (20 : Int32) = 0) (
  lt (setI S24 k0 1 (irem ((S24.1 k0 1) + (1 : Int32)) (20 : Int32))) fun S25 =>
  lt (setI S25 k0 2 (if (20 : Int32) < ((S25.1 k0 2) + (1 : Int32)) then (20 : Int32) else ((S25.1 k0 2) + (1 : Int32)))) fun S26 =>
  some (S26, ())))
/-- ScreeCourt.lay(II)I -/
def X10_lay (S : St) (k0 : Nat) (v1 : Int32) (v2 : Int32) : Option (St × Int32) :=
  bd (X7_has S (rf k0 0) v1) fun S22 v23 =>
  if ¬ v23 = 0 then (
    if ¬ (S22.1 k0 13) = 0 then (
      ck v1 12 (
      lt ((Int32.toInt64 (S22.1 (rf (rf k0 1) 1) (ix v1))) + (Int32.toInt64 v2)) fun v26 =>
      if (0 : Int64) ≤ v26 then (
        if v26 ≤ (1000000 : Int64) then (
          bd (X3_note S22 (rf k0 4) (rf k0 1) (rf k0 3)) fun S30 _ =>
          ck v1 12 (lt (setI S30 (rf (rf k0 1) 1) (ix v1) (Int64.toInt32 v26)) fun S33 =>
          ck v1 12 (
          some (S33, S33.1 (rf (rf k0 1) 1) (ix v1)))))
        else (
          bd (X10_found S22 k0 (-5 : Int32)) fun S36 v37 =>
          some (S36, v37)))
      else (
        bd (X10_found S22 k0 (-13 : Int32)) fun S38 v39 =>
        some (S38, v39))))
    else (
      bd (X10_found S22 k0 (-8 : Int32)) fun S40 v41 =>
      some (S40, v41)))
  else (
    bd (X10_found S22 k0 (-1 : Int32)) fun S42 v43 =>
    some (S42, v43))
/-- ScreeCourt.grains(I)J -/
def X10_grains (S : St) (k0 : Nat) (v1 : Int32) : Option (St × Int64) :=
  bd (X7_has S (rf k0 0) v1) fun S22 v23 =>
  if v23 = 0 then (
    bd (X7_isDitch S22 (rf k0 0) v1) fun S25 v26 =>
    if v26 = 0 then (
      bd (X10_found S25 k0 (-1 : Int32)) fun S27 v28 =>
      some (S27, Int32.toInt64 v28))
    else (
      ck ((-1 : Int32) - v1) 3 (
      some (S25, S25.2 (rf (rf k0 1) 2) (ix ((-1 : Int32) - v1))))))
  else (
    ck v1 12 (
    some (S22, Int32.toInt64 (S22.1 (rf (rf k0 1) 1) (ix v1)))))
/-- ScreeCourt$Heap.isDue(I)Z -/
def X2_isDue (S : St) (k0 : Nat) (v1 : Int32) : Option (St × Int32) :=
  ck v1 12 (
  lt (S.1 (rf (rf k0 0) 2) (ix v1)) fun v23 =>
  lt (fun (S25 : St)  =>
    some (S25, (0 : Int32))) fun (j24 : St → Option (St × Int32)) =>
  if v23 ≤ 0 then (
    j24 S)
  else (
    ck v1 12 (
    if (S.1 (rf k0 1) (ix v1)) < v23 then (
      j24 S)
    else (
      some (S, (1 : Int32))))))
/-- ScreeCourt$Heap.countDue()I -/
def X2_countDue_4 (k0 : Nat) (K : St → Int32 → Int32 → Option (St × Int32)) : Nat → St → Int32 → Int32 → Option (St × Int32)
  | 0, _, _, _ => none
  | n + 1, S, v1, v2 =>
    if (S.1 (rf k0 0) 3) ≤ v2 then (
      K S v1 v2)
    else (
      bd (X2_isDue S k0 v2) fun S22 v23 =>
      lt (fun (S25 : St) (v26 : Int32) =>
        lt (v2 + (1 : Int32)) fun v27 =>
        X2_countDue_4 k0 K n S25 v26 v27) fun (j24 : St → Int32 → Option (St × Int32)) =>
      if v23 = 0 then (
        j24 S22 v1)
      else (
        lt (v1 + (1 : Int32)) fun v28 =>
        j24 S22 v28))
def X2_countDue (S : St) (k0 : Nat) : Option (St × Int32) :=
  X2_countDue_4 k0 (fun (S29 : St) (v30 : Int32) (v31 : Int32) =>
    some (S29, v30)) FU S (0 : Int32) (0 : Int32)
/-- ScreeCourt.due()I -/
def X10_due (S : St) (k0 : Nat) : Option (St × Int32) :=
  bd (X2_countDue S (rf k0 1)) fun S22 v23 =>
  some (S22, v23)
/-- ScreeCourt$Heap.timesAtOnce(I)I -/
def X2_timesAtOnce (S : St) (k0 : Nat) (v1 : Int32) : Option (St × Int32) :=
  bd (X2_isDue S k0 v1) fun S21 v22 =>
  if ¬ v22 = 0 then (
    bd (X7_isOf S21 (rf k0 0) v1 (1 : Int32)) fun S24 v25 =>
    if v25 = 0 then (
      some (S24, (1 : Int32)))
    else (
      ck v1 12 (
      ck v1 12 (
      gu (¬ (S24.1 (rf (rf k0 0) 2) (ix v1)) = 0) (
      some (S24, (S24.1 (rf k0 1) (ix v1)) / (S24.1 (rf (rf k0 0) 2) (ix v1))))))))
  else (
    some (S21, (0 : Int32)))
/-- ScreeCourt$Heap.letSlide(I)I -/
def X2_letSlide_28 (k0 : Nat) (v1 : Int32) (v2 : Int32) (K : St → Int32 → Option (St × Int32)) : Nat → St → Int32 → Option (St × Int32)
  | 0, _, _ => none
  | n + 1, S, v3 =>
    if (S.1 (rf k0 0) 3) ≤ v3 then (
      K S v3)
    else (
      ck v3 12 (
      ck v1 12 (
      ck v3 15 (
      ck v3 12 (lt (setI S (rf k0 1) (ix v3) ((S.1 (rf k0 1) (ix v3)) + (v2 * (S.1 (rf (rf (rf k0 0) 1) (ix v1)) (ix v3))))) fun S33 =>
      lt (v3 + (1 : Int32)) fun v34 =>
      X2_letSlide_28 k0 v1 v2 K n S33 v34)))))
def X2_letSlide_69 (k0 : Nat) (v1 : Int32) (v2 : Int32) (K : St → Int32 → Option (St × Int32)) : Nat → St → Int32 → Option (St × Int32)
  | 0, _, _ => none
  | n + 1, S, v3 =>
    if (3 : Int32) ≤ v3 then (
      K S v3)
    else (
      ck v3 3 (
      ck v1 12 (
      ck ((12 : Int32) + v3) 15 (
      ck v3 3 (lt (setJ S (rf k0 2) (ix v3) ((S.2 (rf k0 2) (ix v3)) + ((Int32.toInt64 v2) * (Int32.toInt64 (S.1 (rf (rf (rf k0 0) 1) (ix v1)) (ix ((12 : Int32) + v3))))))) fun S42 =>
      lt (v3 + (1 : Int32)) fun v43 =>
      X2_letSlide_69 k0 v1 v2 K n S42 v43)))))
def X2_letSlide (S : St) (k0 : Nat) (v1 : Int32) : Option (St × Int32) :=
  bd (X2_timesAtOnce S k0 v1) fun S21 v22 =>
  ck v1 12 (
  ck v1 12 (
  ck v1 12 (lt (setI S21 (rf k0 1) (ix v1) ((S21.1 (rf k0 1) (ix v1)) - (v22 * (S21.1 (rf (rf k0 0) 2) (ix v1))))) fun S26 =>
  X2_letSlide_28 k0 v1 v22 (fun (S35 : St) (v36 : Int32) =>
    X2_letSlide_69 k0 v1 v22 (fun (S44 : St) (v45 : Int32) =>
      ck v1 12 (
      ck v1 12 (lt (setJ S44 (rf k0 3) (ix v1) ((S44.2 (rf k0 3) (ix v1)) + (Int32.toInt64 v22))) fun S47 =>
      some (S47, v22)))) FU S35 (0 : Int32)) FU S26 (0 : Int32))))
/-- ScreeCourt$Heap.wouldOverfill(I)Z -/
def X2_wouldOverfill_8 (k0 : Nat) (v1 : Int32) (v2 : Int32) (K : St → Int32 → Option (St × Int32)) : Nat → St → Int32 → Option (St × Int32)
  | 0, _, _ => none
  | n + 1, S, v3 =>
    if (S.1 (rf k0 0) 3) ≤ v3 then (
      K S v3)
    else (
      ck v3 12 (
      ck v1 12 (
      ck v3 15 (
      if ((Int32.toInt64 (S.1 (rf k0 1) (ix v3))) + ((Int32.toInt64 v2) * (Int32.toInt64 (S.1 (rf (rf (rf k0 0) 1) (ix v1)) (ix v3))))) ≤ (1000000 : Int64) then (
        lt (v3 + (1 : Int32)) fun v29 =>
        X2_wouldOverfill_8 k0 v1 v2 K n S v29)
      else (
        some (S, (1 : Int32)))))))
def X2_wouldOverfill (S : St) (k0 : Nat) (v1 : Int32) : Option (St × Int32) :=
  bd (X2_timesAtOnce S k0 v1) fun S21 v22 =>
  X2_wouldOverfill_8 k0 v1 v22 (fun (S30 : St) (v31 : Int32) =>
    some (S30, (0 : Int32))) FU S21 (0 : Int32)
/-- ScreeCourt.slide(I)I -/
def X10_slide (S : St) (k0 : Nat) (v1 : Int32) : Option (St × Int32) :=
  bd (X7_has S (rf k0 0) v1) fun S22 v23 =>
  if ¬ v23 = 0 then (
    bd (X2_isDue S22 (rf k0 1) v1) fun S25 v26 =>
    if ¬ v26 = 0 then (
      bd (X2_wouldOverfill S25 (rf k0 1) v1) fun S28 v29 =>
      if v29 = 0 then (
        bd (X3_note S28 (rf k0 4) (rf k0 1) (rf k0 3)) fun S33 _ =>
        bd (X2_letSlide S33 (rf k0 1) v1) fun S35 v36 =>
        some (S35, v36))
      else (
        bd (X10_found S28 k0 (-5 : Int32)) fun S37 v38 =>
        some (S37, v38)))
    else (
      bd (X10_found S25 k0 (-8 : Int32)) fun S39 v40 =>
      some (S39, v40)))
  else (
    bd (X10_found S22 k0 (-1 : Int32)) fun S41 v42 =>
    some (S41, v42))
/-- ScreeCourt$Chooser.takeOrder(LScreeCourt$Queue;)V -/
def X0_takeOrder (S : St) (k0 : Nat) (k1 : Nat) : Option (St × Unit) :=
  gu (cpOk (0 : Int32) (0 : Int32) (12 : Int32) 200 12) (lt (setR S (rf k0 2) (va_cpy (S.1 (rf k1 0)) (S.1 (rf k0 2)) (ix (0 : Int32)) (ix (0 : Int32)) (ix (12 : Int32)))) fun S23 =>
  some (S23, ()))
/-- ScreeCourt$Queue.clear()V -/
def X5_clear (S : St) (k0 : Nat) : Option (St × Unit) :=
  lt (setI S k0 1 (0 : Int32)) fun S21 =>
  some (S21, ())
/-- ScreeCourt$Queue.isOrderOf(I)Z -/
def X5_isOrderOf_20 (k0 : Nat) (v1 : Int32) (K : St → Int32 → Int32 → Option (St × Int32)) : Nat → St → Int32 → Int32 → Option (St × Int32)
  | 0, _, _, _ => none
  | n + 1, S, v2, v3 =>
    if (S.1 k0 1) ≤ v3 then (
      K S v2 v3)
    else (
      ck v3 200 (
      lt (fun (S25 : St)  =>
        some (S25, (0 : Int32))) fun (j24 : St → Option (St × Int32)) =>
      if (S.1 (rf k0 0) (ix v3)) < 0 then (
        j24 S)
      else (
        ck v3 200 (
        if v1 ≤ (S.1 (rf k0 0) (ix v3)) then (
          j24 S)
        else (
          ck v3 200 (
          if (v2 &&& ((1 : Int32) <<< ((S.1 (rf k0 0) (ix v3)) &&& 31))) = 0 then (
            ck v3 200 (
            lt (v2 ||| ((1 : Int32) <<< ((S.1 (rf k0 0) (ix v3)) &&& 31))) fun v29 =>
            lt (v3 + (1 : Int32)) fun v30 =>
            X5_isOrderOf_20 k0 v1 K n S v29 v30))
          else (
            j24 S)))))))
def X5_isOrderOf (S : St) (k0 : Nat) (v1 : Int32) : Option (St × Int32) :=
  lt (fun (S22 : St)  =>
    some (S22, (0 : Int32))) fun (j21 : St → Option (St × Int32)) =>
  if ¬ (S.1 k0 1) = v1 then (
    j21 S)
  else (
    if v1 ≤ (12 : Int32) then (
      X5_isOrderOf_20 k0 v1 (fun (S31 : St) (v32 : Int32) (v33 : Int32) =>
        some (S31, (1 : Int32))) FU S (0 : Int32) (0 : Int32))
    else (
      j21 S))
/-- ScreeCourt.manner(II)I -/
def X10_manner (S : St) (k0 : Nat) (v1 : Int32) (v2 : Int32) : Option (St × Int32) :=
  lt (fun (S22 : St)  =>
    bd (X10_found S22 k0 (-1 : Int32)) fun S23 v24 =>
    some (S23, v24)) fun (j21 : St → Option (St × Int32)) =>
  if v1 < 0 then (
    j21 S)
  else (
    if (4 : Int32) < v1 then (
      j21 S)
    else (
      lt (fun (S26 : St)  =>
        if ¬ (S26.1 k0 13) = 0 then (
          lt (fun (S28 : St)  =>
            lt (S28.1 (rf k0 3) 5) fun v30 =>
            lt (fun (S32 : St)  =>
              lt (fun (S34 : St)  =>
                lt (setI S34 (rf k0 3) 4 (0 : Int32)) fun S36 =>
                lt (setI S36 (rf k0 3) 5 v1) fun S38 =>
                bd (X3_clear S38 (rf k0 4)) fun S40 _ =>
                some (S40, v30)) fun (j33 : St → Option (St × Int32)) =>
              if ¬ v1 = (3 : Int32) then (
                j33 S32)
              else (
                lt (setJ S32 (rf k0 3) 6 (Int32.toInt64 v2)) fun S42 =>
                j33 S42)) fun (j31 : St → Option (St × Int32)) =>
            if ¬ v1 = (2 : Int32) then (
              j31 S28)
            else (
              bd (X0_takeOrder S28 (rf k0 3) (rf k0 11)) fun S45 _ =>
              bd (X5_clear S45 (rf k0 11)) fun S47 _ =>
              j31 S47)) fun (j27 : St → Option (St × Int32)) =>
          if ¬ v1 = (2 : Int32) then (
            j27 S26)
          else (
            bd (X5_isOrderOf S26 (rf k0 11) (S26.1 (rf k0 0) 3)) fun S50 v51 =>
            if ¬ v51 = 0 then (
              j27 S50)
            else (
              bd (X10_found S50 k0 (-1 : Int32)) fun S52 v53 =>
              some (S52, v53))))
        else (
          bd (X10_found S26 k0 (-8 : Int32)) fun S54 v55 =>
          some (S54, v55))) fun (j25 : St → Option (St × Int32)) =>
      if ¬ v1 = (3 : Int32) then (
        j25 S)
      else (
        if 0 ≤ v2 then (
          j25 S)
        else (
          j21 S))))
/-- ScreeCourt$Chooser.askAll()V -/
def X0_askAll_2 (k0 : Nat) (K : St → Int32 → Option (St × Unit)) : Nat → St → Int32 → Option (St × Unit)
  | 0, _, _ => none
  | n + 1, S, v1 =>
    if (S.1 (rf k0 0) 3) ≤ v1 then (
      K S v1)
    else (
      ck v1 12 (lt (setI S (rf k0 3) (ix v1) v1) fun S23 =>
      lt (v1 + (1 : Int32)) fun v24 =>
      X0_askAll_2 k0 K n S23 v24))
def X0_askAll (S : St) (k0 : Nat) : Option (St × Unit) :=
  X0_askAll_2 k0 (fun (S25 : St) (v26 : Int32) =>
    lt (setI S25 k0 4 (S25.1 (rf k0 0) 3)) fun S28 =>
    some (S28, ())) FU S (0 : Int32)
/-- ScreeCourt$Chooser.takeFirst()I -/
def X0_takeFirst_9 (k0 : Nat) (v1 : Int32) (K : St → Int32 → Option (St × Int32)) : Nat → St → Int32 → Option (St × Int32)
  | 0, _, _ => none
  | n + 1, S, v2 =>
    if (S.1 k0 4) ≤ v2 then (
      K S v2)
    else (
      ck v2 12 (
      ck (v2 - (1 : Int32)) 12 (lt (setI S (rf k0 3) (ix (v2 - (1 : Int32))) (S.1 (rf k0 3) (ix v2))) fun S25 =>
      lt (v2 + (1 : Int32)) fun v26 =>
      X0_takeFirst_9 k0 v1 K n S25 v26)))
def X0_takeFirst (S : St) (k0 : Nat) : Option (St × Int32) :=
  ck (0 : Int32) 12 (
  lt (S.1 (rf k0 3) (ix (0 : Int32))) fun v22 =>
  X0_takeFirst_9 k0 v22 (fun (S27 : St) (v28 : Int32) =>
    lt (setI S27 k0 4 (if (0 : Int32) < ((S27.1 k0 4) - (1 : Int32)) then ((S27.1 k0 4) - (1 : Int32)) else (0 : Int32))) fun S29 =>
    some (S29, v22)) FU S (1 : Int32))
/-- ScreeCourt$Chooser.askOn()I -/
def X0_askOn_2 (k0 : Nat) (K : St → Int32 → Option (St × Int32)) : Nat → St → Int32 → Option (St × Int32)
  | 0, _, _ => none
  | n + 1, S, v1 =>
    if (24 : Int32) ≤ v1 then (
      K S v1)
    else (
      lt (fun (S22 : St)  =>
        bd (X0_takeFirst S22 k0) fun S23 v24 =>
        bd (X2_isDue S23 (rf k0 1) v24) fun S26 v27 =>
        if v27 = 0 then (
          lt (v1 + (1 : Int32)) fun v28 =>
          X0_askOn_2 k0 K n S26 v28)
        else (
          some (S26, v24))) fun (j21 : St → Option (St × Int32)) =>
      if ¬ (S.1 k0 4) = 0 then (
        j21 S)
      else (
        bd (X0_askAll S k0) fun S29 _ =>
        j21 S29))
def X0_askOn (S : St) (k0 : Nat) : Option (St × Int32) :=
  X0_askOn_2 k0 (fun (S30 : St) (v31 : Int32) =>
    some (S30, (-1 : Int32))) FU S (0 : Int32)
/-- ScreeCourt$Chooser.drawLot(I)I -/
def X0_drawLot_43 (k0 : Nat) (K : St → Int64 → Int32 → Option (St × Int32)) : Nat → St → Int64 → Int32 → Option (St × Int32)
  | 0, _, _, _ => none
  | n + 1, S, v2, v4 =>
    if (S.1 (rf k0 0) 3) ≤ v4 then (
      K S v2 v4)
    else (
      bd (X2_isDue S (rf k0 1) v4) fun S27 v28 =>
      lt (fun (S30 : St) (v31 : Int64) =>
        lt (v4 + (1 : Int32)) fun v32 =>
        X0_drawLot_43 k0 K n S30 v31 v32) fun (j29 : St → Int64 → Option (St × Int32)) =>
      if v28 = 0 then (
        j29 S27 v2)
      else (
        if ¬ v2 = (0 : Int64) then (
          lt (v2 - (1 : Int64)) fun v33 =>
          j29 S27 v33)
        else (
          some (S27, v4))))
def X0_drawLot (S : St) (k0 : Nat) (v1 : Int32) : Option (St × Int32) :=
  gu (¬ (2147483648 : Int64) = 0) (
  lt (setJ S k0 6 (lrem (((S.2 k0 6) * (1103515245 : Int64)) + (12345 : Int64)) (2147483648 : Int64))) fun S21 =>
  lt (fun (S23 : St) (v24 : Int64) =>
    X0_drawLot_43 k0 (fun (S34 : St) (v35 : Int64) (v36 : Int32) =>
      some (S34, (-1 : Int32))) FU S23 v24 (0 : Int32)) fun (j22 : St → Int64 → Option (St × Int32)) =>
  if v1 ≤ 0 then (
    j22 S21 (0 : Int64))
  else (
    gu (¬ (256 : Int64) = 0) (
    gu (¬ (Int32.toInt64 v1) = 0) (
    j22 S21 (lrem ((S21.2 k0 6) / (256 : Int64)) (Int32.toInt64 v1))))))
/-- ScreeCourt$Chooser.firstInOrder()I -/
def X0_firstInOrder_2 (k0 : Nat) (K : St → Int32 → Option (St × Int32)) : Nat → St → Int32 → Option (St × Int32)
  | 0, _, _ => none
  | n + 1, S, v1 =>
    if (S.1 (rf k0 0) 3) ≤ v1 then (
      K S v1)
    else (
      ck v1 12 (
      bd (X2_isDue S (rf k0 1) (S.1 (rf k0 2) (ix v1))) fun S24 v25 =>
      if v25 = 0 then (
        lt (v1 + (1 : Int32)) fun v26 =>
        X0_firstInOrder_2 k0 K n S24 v26)
      else (
        ck v1 12 (
        some (S24, S24.1 (rf k0 2) (ix v1))))))
def X0_firstInOrder (S : St) (k0 : Nat) : Option (St × Int32) :=
  X0_firstInOrder_2 k0 (fun (S28 : St) (v29 : Int32) =>
    some (S28, (-1 : Int32))) FU S (0 : Int32)
/-- ScreeCourt$Heap.fullestDue()I -/
def X2_fullestDue_4 (k0 : Nat) (K : St → Int32 → Int32 → Option (St × Int32)) : Nat → St → Int32 → Int32 → Option (St × Int32)
  | 0, _, _, _ => none
  | n + 1, S, v1, v2 =>
    if (S.1 (rf k0 0) 3) ≤ v2 then (
      K S v1 v2)
    else (
      bd (X2_isDue S k0 v2) fun S22 v23 =>
      lt (fun (S25 : St) (v26 : Int32) =>
        lt (v2 + (1 : Int32)) fun v27 =>
        X2_fullestDue_4 k0 K n S25 v26 v27) fun (j24 : St → Int32 → Option (St × Int32)) =>
      if v23 = 0 then (
        j24 S22 v1)
      else (
        lt (fun (S29 : St)  =>
          j24 S29 v2) fun (j28 : St → Option (St × Int32)) =>
        if v1 = (-1 : Int32) then (
          j28 S22)
        else (
          ck v2 12 (
          ck v1 12 (
          if (S22.1 (rf k0 1) (ix v2)) ≤ (S22.1 (rf k0 1) (ix v1)) then (
            j24 S22 v1)
          else (
            j28 S22))))))
def X2_fullestDue (S : St) (k0 : Nat) : Option (St × Int32) :=
  X2_fullestDue_4 k0 (fun (S32 : St) (v33 : Int32) (v34 : Int32) =>
    some (S32, v33)) FU S (-1 : Int32) (0 : Int32)
/-- ScreeCourt$Heap.lowestDue()I -/
def X2_lowestDue_2 (k0 : Nat) (K : St → Int32 → Option (St × Int32)) : Nat → St → Int32 → Option (St × Int32)
  | 0, _, _ => none
  | n + 1, S, v1 =>
    if (S.1 (rf k0 0) 3) ≤ v1 then (
      K S v1)
    else (
      bd (X2_isDue S k0 v1) fun S22 v23 =>
      if v23 = 0 then (
        lt (v1 + (1 : Int32)) fun v24 =>
        X2_lowestDue_2 k0 K n S22 v24)
      else (
        some (S22, v1)))
def X2_lowestDue (S : St) (k0 : Nat) : Option (St × Int32) :=
  X2_lowestDue_2 k0 (fun (S25 : St) (v26 : Int32) =>
    some (S25, (-1 : Int32))) FU S (0 : Int32)
/-- ScreeCourt$Chooser.chooseNext()I -/
def X0_chooseNext (S : St) (k0 : Nat) : Option (St × Int32) :=
  bd (X2_countDue S (rf k0 1)) fun S22 v23 =>
  if ¬ v23 = 0 then (
    if (S22.1 k0 5) = (1 : Int32) then (
    bd (X2_fullestDue S22 (rf k0 1)) fun S25 v26 =>
    some (S25, v26)) else if (S22.1 k0 5) = (2 : Int32) then (
    bd (X0_firstInOrder S22 k0) fun S28 v29 =>
    some (S28, v29)) else if (S22.1 k0 5) = (3 : Int32) then (
    bd (X0_drawLot S22 k0 v23) fun S31 v32 =>
    some (S31, v32)) else if (S22.1 k0 5) = (4 : Int32) then (
    bd (X0_askOn S22 k0) fun S34 v35 =>
    some (S34, v35)) else (
    bd (X2_lowestDue S22 (rf k0 1)) fun S38 v39 =>
    some (S38, v39)))
  else (
    some (S22, (-1 : Int32)))
/-- ScreeCourt$Chooser.isNewEnd(II)Z -/
def X0_isNewEnd_27 (k0 : Nat) (v2 : Int32) (K : St → Int32 → Option (St × Int32)) : Nat → St → Int32 → Option (St × Int32)
  | 0, _, _ => none
  | n + 1, S, v3 =>
    if (S.1 k0 4) ≤ v3 then (
      K S v3)
    else (
      ck v3 12 (
      if ¬ (S.1 (rf k0 3) (ix v3)) = v2 then (
        lt (v3 + (1 : Int32)) fun v28 =>
        X0_isNewEnd_27 k0 v2 K n S v28)
      else (
        some (S, (0 : Int32)))))
def X0_isNewEnd (S : St) (k0 : Nat) (v1 : Int32) (v2 : Int32) : Option (St × Int32) :=
  ck v1 12 (
  ck v2 15 (
  lt (fun (S26 : St)  =>
    some (S26, (0 : Int32))) fun (j25 : St → Option (St × Int32)) =>
  if (S.1 (rf (rf (rf k0 0) 1) (ix v1)) (ix v2)) = 0 then (
    j25 S)
  else (
    if (S.1 k0 4) < (12 : Int32) then (
      X0_isNewEnd_27 k0 v2 (fun (S29 : St) (v30 : Int32) =>
        some (S29, (1 : Int32))) FU S (0 : Int32))
    else (
      j25 S))))
/-- ScreeCourt$Chooser.askAhead(I)V -/
def X0_askAhead_28 (k0 : Nat) (v1 : Int32) (v2 : Int32) (K : St → Int32 → Option (St × Unit)) : Nat → St → Int32 → Option (St × Unit)
  | 0, _, _ => none
  | n + 1, S, v3 =>
    if v3 ≤ 0 then (
      K S v3)
    else (
      ck (v3 - (1 : Int32)) 12 (
      ck v3 12 (lt (setI S (rf k0 3) (ix v3) (S.1 (rf k0 3) (ix (v3 - (1 : Int32))))) fun S31 =>
      lt (v3 + (-1 : Int32)) fun v32 =>
      X0_askAhead_28 k0 v1 v2 K n S31 v32)))
def X0_askAhead_10 (k0 : Nat) (v1 : Int32) (K : St → Int32 → Option (St × Unit)) : Nat → St → Int32 → Option (St × Unit)
  | 0, _, _ => none
  | n + 1, S, v2 =>
    if v2 < 0 then (
      K S v2)
    else (
      bd (X0_isNewEnd S k0 v1 v2) fun S23 v24 =>
      lt (fun (S26 : St)  =>
        lt (v2 + (-1 : Int32)) fun v27 =>
        X0_askAhead_10 k0 v1 K n S26 v27) fun (j25 : St → Option (St × Unit)) =>
      if v24 = 0 then (
        j25 S23)
      else (
        lt (S23.1 k0 4) fun v28 =>
        X0_askAhead_28 k0 v1 v2 (fun (S33 : St) (v34 : Int32) =>
          ck (0 : Int32) 12 (lt (setI S33 (rf k0 3) (ix (0 : Int32)) v2) fun S36 =>
          lt (setI S36 k0 4 ((S36.1 k0 4) + (1 : Int32))) fun S37 =>
          j25 S37)) FU S23 v28))
def X0_askAhead (S : St) (k0 : Nat) (v1 : Int32) : Option (St × Unit) :=
  lt ((S.1 (rf k0 0) 3) - (1 : Int32)) fun v22 =>
  X0_askAhead_10 k0 v1 (fun (S38 : St) (v39 : Int32) =>
    some (S38, ())) FU S v22
/-- ScreeCourt$Chooser.askBehind(I)V -/
def X0_askBehind_2 (k0 : Nat) (v1 : Int32) (K : St → Int32 → Option (St × Unit)) : Nat → St → Int32 → Option (St × Unit)
  | 0, _, _ => none
  | n + 1, S, v2 =>
    if (S.1 (rf k0 0) 3) ≤ v2 then (
      K S v2)
    else (
      bd (X0_isNewEnd S k0 v1 v2) fun S22 v23 =>
      lt (fun (S25 : St)  =>
        lt (v2 + (1 : Int32)) fun v26 =>
        X0_askBehind_2 k0 v1 K n S25 v26) fun (j24 : St → Option (St × Unit)) =>
      if v23 = 0 then (
        j24 S22)
      else (
        ck (S22.1 k0 4) 12 (lt (setI S22 (rf k0 3) (ix (S22.1 k0 4)) v2) fun S28 =>
        lt (setI S28 k0 4 ((S28.1 k0 4) + (1 : Int32))) fun S29 =>
        j24 S29)))
def X0_askBehind (S : St) (k0 : Nat) (v1 : Int32) : Option (St × Unit) :=
  X0_askBehind_2 k0 v1 (fun (S30 : St) (v31 : Int32) =>
    some (S30, ())) FU S (0 : Int32)
/-- ScreeCourt$Chooser.hearOfSlide(I)V -/
def X0_hearOfSlide (S : St) (k0 : Nat) (v1 : Int32) : Option (St × Unit) :=
  if (S.1 k0 5) = (4 : Int32) then (
    bd (X7_isOf S (rf k0 0) v1 (4 : Int32)) fun S22 v23 =>
    if v23 = 0 then (
      bd (X0_askBehind S22 k0 v1) fun S24 _ =>
      some (S24, ()))
    else (
      bd (X0_askAhead S22 k0 v1) fun S25 _ =>
      some (S25, ())))
  else (
    some (S, ()))
/-- ScreeCourt$Heap.stands()Z -/
def X2_stands (S : St) (k0 : Nat) : Option (St × Int32) :=
  bd (X2_lowestDue S k0) fun S21 v22 =>
  if ¬ v22 = (-1 : Int32) then (
    some (S21, (0 : Int32)))
  else (
    some (S21, (1 : Int32)))
/-- ScreeCourt.run(I)I -/
def X10_run_49 (k0 : Nat) (v1 : Int32) (K : St → Int32 → Option (St × Int32)) : Nat → St → Int32 → Option (St × Int32)
  | 0, _, _ => none
  | n + 1, S, v2 =>
    if v1 ≤ v2 then (
      K S v2)
    else (
      bd (X0_chooseNext S (rf k0 3)) fun S30 v31 =>
      if ¬ v31 = (-1 : Int32) then (
        bd (X2_wouldOverfill S30 (rf k0 1) v31) fun S33 v34 =>
        if v34 = 0 then (
          bd (X2_letSlide S33 (rf k0 1) v31) fun S36 v37 =>
          bd (X0_hearOfSlide S36 (rf k0 3) v31) fun S39 _ =>
          lt (v2 + (1 : Int32)) fun v40 =>
          X10_run_49 k0 v1 K n S39 v40)
        else (
          bd (X10_found S33 k0 (-5 : Int32)) fun S41 v42 =>
          some (S41, v42)))
      else (
        some (S30, v2)))
def X10_run (S : St) (k0 : Nat) (v1 : Int32) : Option (St × Int32) :=
  lt (fun (S22 : St)  =>
    bd (X10_found S22 k0 (-1 : Int32)) fun S23 v24 =>
    some (S23, v24)) fun (j21 : St → Option (St × Int32)) =>
  if v1 < (1 : Int32) then (
    j21 S)
  else (
    if v1 ≤ (5000 : Int32) then (
      if ¬ (S.1 k0 13) = 0 then (
        bd (X3_note S (rf k0 4) (rf k0 1) (rf k0 3)) fun S28 _ =>
        X10_run_49 k0 v1 (fun (S43 : St) (v44 : Int32) =>
          bd (X2_stands S43 (rf k0 1)) fun S46 v47 =>
          if v47 = 0 then (
            bd (X10_found S46 k0 (-9 : Int32)) fun S48 v49 =>
            some (S48, v49))
          else (
            some (S46, v1))) FU S28 (0 : Int32))
      else (
        bd (X10_found S k0 (-8 : Int32)) fun S50 v51 =>
        some (S50, v51)))
    else (
      j21 S))
/-- ScreeCourt.odometer(I)J -/
def X10_odometer (S : St) (k0 : Nat) (v1 : Int32) : Option (St × Int64) :=
  bd (X7_has S (rf k0 0) v1) fun S22 v23 =>
  if ¬ v23 = 0 then (
    ck v1 12 (
    some (S22, S22.2 (rf (rf k0 1) 3) (ix v1))))
  else (
    bd (X10_found S22 k0 (-1 : Int32)) fun S26 v27 =>
    some (S26, Int32.toInt64 v27))
/-- ScreeCourt.reset()I -/
def X10_reset_4 (k0 : Nat) (K : St → Int32 → Int32 → Option (St × Int32)) : Nat → St → Int32 → Int32 → Option (St × Int32)
  | 0, _, _, _ => none
  | n + 1, S, v1, v2 =>
    if (S.1 (rf k0 0) 3) ≤ v2 then (
      K S v1 v2)
    else (
      ck v2 12 (
      lt (fun (S25 : St) (v26 : Int32) =>
        ck v2 12 (lt (setJ S25 (rf (rf k0 1) 3) (ix v2) (0 : Int64)) fun S29 =>
        lt (v2 + (1 : Int32)) fun v30 =>
        X10_reset_4 k0 K n S29 v26 v30)) fun (j24 : St → Int32 → Option (St × Int32)) =>
      if (S.2 (rf (rf k0 1) 3) (ix v2)) = (0 : Int64) then (
        j24 S v1)
      else (
        lt (v1 + (1 : Int32)) fun v31 =>
        j24 S v31)))
def X10_reset (S : St) (k0 : Nat) : Option (St × Int32) :=
  X10_reset_4 k0 (fun (S32 : St) (v33 : Int32) (v34 : Int32) =>
    bd (X3_clear S32 (rf k0 4)) fun S36 _ =>
    some (S36, v33)) FU S (0 : Int32) (0 : Int32)
/-- ScreeCourt$Slope.isTwoWay()Z -/
def X7_isTwoWay_12 (k0 : Nat) (v1 : Int32) (K : St → Int32 → Option (St × Int32)) : Nat → St → Int32 → Option (St × Int32)
  | 0, _, _ => none
  | n + 1, S, v2 =>
    if v1 ≤ v2 then (
      K S v2)
    else (
      ck v1 12 (
      ck v2 15 (
      ck v2 12 (
      ck v1 15 (
      if (S.1 (rf (rf k0 1) (ix v1)) (ix v2)) = (S.1 (rf (rf k0 1) (ix v2)) (ix v1)) then (
        lt (v2 + (1 : Int32)) fun v27 =>
        X7_isTwoWay_12 k0 v1 K n S v27)
      else (
        some (S, (0 : Int32))))))))
def X7_isTwoWay_2 (k0 : Nat) (K : St → Int32 → Option (St × Int32)) : Nat → St → Int32 → Option (St × Int32)
  | 0, _, _ => none
  | n + 1, S, v1 =>
    if (S.1 k0 3) ≤ v1 then (
      K S v1)
    else (
      X7_isTwoWay_12 k0 v1 (fun (S28 : St) (v29 : Int32) =>
        lt (v1 + (1 : Int32)) fun v30 =>
        X7_isTwoWay_2 k0 K n S28 v30) FU S (0 : Int32))
def X7_isTwoWay (S : St) (k0 : Nat) : Option (St × Int32) :=
  X7_isTwoWay_2 k0 (fun (S31 : St) (v32 : Int32) =>
    some (S31, (1 : Int32))) FU S (0 : Int32)
/-- ScreeCourt.twoWay()I -/
def X10_twoWay (S : St) (k0 : Nat) : Option (St × Int32) :=
  if ¬ (S.1 k0 13) = 0 then (
    bd (X7_isTwoWay S (rf k0 0)) fun S22 v23 =>
    if v23 = 0 then (
      some (S22, (0 : Int32)))
    else (
      some (S22, (1 : Int32))))
  else (
    bd (X10_found S k0 (-8 : Int32)) fun S24 v25 =>
    some (S24, v25))
/-- ScreeCourt$Fire.nextToBurn(LScreeCourt$Slope;[II)I -/
def X1_nextToBurn_3 (k0 : Nat) (k1 : Nat) (k2 : Nat) (v3 : Int32) (K : St → Int32 → Option (St × Int32)) : Nat → St → Int32 → Option (St × Int32)
  | 0, _, _ => none
  | n + 1, S, v4 =>
    if (S.1 k1 3) ≤ v4 then (
      K S v4)
    else (
      lt (fun (S22 : St) (v23 : Int32) =>
        lt (fun (S25 : St)  =>
          lt (v4 + (1 : Int32)) fun v26 =>
          X1_nextToBurn_3 k0 k1 k2 v3 K n S25 v26) fun (j24 : St → Option (St × Int32)) =>
        if ¬ v23 = 0 then (
          j24 S22)
        else (
          if v4 = v3 then (
            j24 S22)
          else (
            ck v4 12 (
            bd (X7_weightToPlaces S22 k1 v4 (S22.1 k0 2)) fun S27 v28 =>
            if (S22.1 k2 (ix v4)) < v28 then (
              j24 S27)
            else (
              some (S27, v4)))))) fun (j21 : St → Int32 → Option (St × Int32)) =>
      if ¬ ((S.1 k0 2) &&& ((1 : Int32) <<< (v4 &&& 31))) = 0 then (
        j21 S (0 : Int32))
      else (
        j21 S (1 : Int32)))
def X1_nextToBurn (S : St) (k0 : Nat) (k1 : Nat) (k2 : Nat) (v3 : Int32) : Option (St × Int32) :=
  X1_nextToBurn_3 k0 k1 k2 v3 (fun (S29 : St) (v30 : Int32) =>
    some (S29, (-1 : Int32))) FU S (0 : Int32)
/-- ScreeCourt$Fire.light(LScreeCourt$Slope;[II)V -/
def X1_light_16 (k0 : Nat) (k1 : Nat) (k2 : Nat) (v3 : Int32) (K : St → Int32 → Option (St × Unit)) : Nat → St → Int32 → Option (St × Unit)
  | 0, _, _ => none
  | n + 1, S, v4 =>
    if (S.1 k1 3) ≤ v4 then (
      K S v4)
    else (
      bd (X1_nextToBurn S k0 k1 k2 v3) fun S25 v26 =>
      if ¬ v26 = (-1 : Int32) then (
        ck (S25.1 k0 1) 12 (lt (setI S25 (rf k0 0) (ix (S25.1 k0 1)) v26) fun S28 =>
        lt (setI S28 k0 1 ((S28.1 k0 1) + (1 : Int32))) fun S29 =>
        lt (setI S29 k0 2 ((S29.1 k0 2) &&& (((1 : Int32) <<< (v26 &&& 31)) ^^^ (-1 : Int32)))) fun S30 =>
        lt (v4 + (1 : Int32)) fun v31 =>
        X1_light_16 k0 k1 k2 v3 K n S30 v31))
      else (
        some (S25, ())))
def X1_light (S : St) (k0 : Nat) (k1 : Nat) (k2 : Nat) (v3 : Int32) : Option (St × Unit) :=
  lt (setI S k0 1 (0 : Int32)) fun S21 =>
  bd (X7_bitsOfAll S21 k1) fun S22 v23 =>
  lt (setI S22 k0 2 v23) fun S24 =>
  X1_light_16 k0 k1 k2 v3 (fun (S32 : St) (v33 : Int32) =>
    some (S32, ())) FU S24 (0 : Int32)
/-- ScreeCourt.burn()I -/
def X10_burn (S : St) (k0 : Nat) : Option (St × Int32) :=
  lt (fun (S22 : St)  =>
    bd (X10_found S22 k0 (-8 : Int32)) fun S23 v24 =>
    some (S23, v24)) fun (j21 : St → Option (St × Int32)) =>
  if (S.1 k0 13) = 0 then (
    j21 S)
  else (
    bd (X2_stands S (rf k0 1)) fun S26 v27 =>
    if ¬ v27 = 0 then (
      bd (X7_isTwoWay S26 (rf k0 0)) fun S29 v30 =>
      if ¬ v30 = 0 then (
        bd (X1_light S29 (rf k0 5) (rf k0 0) (rf (rf k0 1) 1) (-1 : Int32)) fun S35 _ =>
        if ¬ (S35.1 (rf k0 5) 2) = 0 then (
          some (S35, (0 : Int32)))
        else (
          some (S35, (1 : Int32))))
      else (
        bd (X10_found S29 k0 (-12 : Int32)) fun S37 v38 =>
        some (S37, v38)))
    else (
      j21 S26))
/-- ScreeCourt.burnt(I)I -/
def X10_burnt (S : St) (k0 : Nat) (v1 : Int32) : Option (St × Int32) :=
  if ¬ v1 = (-1 : Int32) then (
    lt (fun (S22 : St)  =>
      bd (X10_found S22 k0 (-11 : Int32)) fun S23 v24 =>
      some (S23, v24)) fun (j21 : St → Option (St × Int32)) =>
    if v1 < 0 then (
      j21 S)
    else (
      if v1 < (S.1 (rf k0 5) 1) then (
        ck v1 12 (
        some (S, S.1 (rf (rf k0 5) 0) (ix v1))))
      else (
        j21 S)))
  else (
    some (S, S.1 (rf k0 5) 2))
/-- ScreeCourt$Heap.sum()I -/
def X2_sum_4 (k0 : Nat) (K : St → Int32 → Int32 → Option (St × Int32)) : Nat → St → Int32 → Int32 → Option (St × Int32)
  | 0, _, _, _ => none
  | n + 1, S, v1, v2 =>
    if (S.1 (rf k0 0) 3) ≤ v2 then (
      K S v1 v2)
    else (
      ck v2 12 (
      lt (v1 + (S.1 (rf k0 1) (ix v2))) fun v23 =>
      lt (v2 + (1 : Int32)) fun v24 =>
      X2_sum_4 k0 K n S v23 v24))
def X2_sum (S : St) (k0 : Nat) : Option (St × Int32) :=
  X2_sum_4 k0 (fun (S25 : St) (v26 : Int32) (v27 : Int32) =>
    some (S25, v26)) FU S (0 : Int32) (0 : Int32)
/-- ScreeCourt.fillSlot(ILScreeCourt$Heap;)I -/
def X10_fillSlot (S : St) (k0 : Nat) (v1 : Int32) (k2 : Nat) : Option (St × Int32) :=
  ck v1 8 (
  gu (cpOk (0 : Int32) (0 : Int32) (12 : Int32) 12 12) (lt (setR S (rf (rf k0 8) (ix v1)) (va_cpy (S.1 (rf k2 1)) (S.1 (rf (rf k0 8) (ix v1))) (ix (0 : Int32)) (ix (0 : Int32)) (ix (12 : Int32)))) fun S25 =>
  ck v1 8 (lt (setI S25 (rf k0 9) (ix v1) (1 : Int32)) fun S27 =>
  bd (X2_sum S27 k2) fun S28 v29 =>
  some (S28, v29))))
/-- ScreeCourt.isSlot(I)Z -/
def X10_isSlot (S : St) (v0 : Int32) : Option (St × Int32) :=
  lt (fun (S22 : St)  =>
    some (S22, (0 : Int32))) fun (j21 : St → Option (St × Int32)) =>
  if v0 < 0 then (
    j21 S)
  else (
    if (8 : Int32) ≤ v0 then (
      j21 S)
    else (
      some (S, (1 : Int32))))
/-- ScreeCourt.keep(I)I -/
def X10_keep (S : St) (k0 : Nat) (v1 : Int32) : Option (St × Int32) :=
  bd (X10_isSlot S v1) fun S21 v22 =>
  if ¬ v22 = 0 then (
    if ¬ (S21.1 k0 13) = 0 then (
      bd (X10_fillSlot S21 k0 v1 (rf k0 1)) fun S24 v25 =>
      some (S24, v25))
    else (
      bd (X10_found S21 k0 (-8 : Int32)) fun S26 v27 =>
      some (S26, v27)))
  else (
    bd (X10_found S21 k0 (-1 : Int32)) fun S28 v29 =>
    some (S28, v29))
/-- ScreeCourt$Heap.takeGrains([I)V -/
def X2_takeGrains (S : St) (k0 : Nat) (k1 : Nat) : Option (St × Unit) :=
  gu (cpOk (0 : Int32) (0 : Int32) (12 : Int32) 12 12) (lt (setR S (rf k0 1) (va_cpy (S.1 k1) (S.1 (rf k0 1)) (ix (0 : Int32)) (ix (0 : Int32)) (ix (12 : Int32)))) fun S22 =>
  some (S22, ()))
/-- ScreeCourt.bring(I)I -/
def X10_bring (S : St) (k0 : Nat) (v1 : Int32) : Option (St × Int32) :=
  bd (X10_isSlot S v1) fun S21 v22 =>
  if ¬ v22 = 0 then (
    ck v1 8 (
    if ¬ (S21.1 (rf k0 9) (ix v1)) = 0 then (
      if ¬ (S21.1 k0 13) = 0 then (
        ck v1 8 (
        bd (X2_takeGrains S21 (rf k0 1) (rf (rf k0 8) (ix v1))) fun S28 _ =>
        bd (X3_clear S28 (rf k0 4)) fun S30 _ =>
        bd (X2_sum S30 (rf k0 1)) fun S32 v33 =>
        some (S32, v33)))
      else (
        bd (X10_found S21 k0 (-8 : Int32)) fun S34 v35 =>
        some (S34, v35)))
    else (
      bd (X10_found S21 k0 (-11 : Int32)) fun S36 v37 =>
      some (S36, v37))))
  else (
    bd (X10_found S21 k0 (-1 : Int32)) fun S38 v39 =>
    some (S38, v39))
/-- ScreeCourt$Heap.isOverfilled()Z -/
def X2_isOverfilled_2 (k0 : Nat) (K : St → Int32 → Option (St × Int32)) : Nat → St → Int32 → Option (St × Int32)
  | 0, _, _ => none
  | n + 1, S, v1 =>
    if (S.1 (rf k0 0) 3) ≤ v1 then (
      K S v1)
    else (
      ck v1 12 (
      if (S.1 (rf k0 1) (ix v1)) ≤ (1000000 : Int32) then (
        lt (v1 + (1 : Int32)) fun v23 =>
        X2_isOverfilled_2 k0 K n S v23)
      else (
        some (S, (1 : Int32)))))
def X2_isOverfilled (S : St) (k0 : Nat) : Option (St × Int32) :=
  X2_isOverfilled_2 k0 (fun (S24 : St) (v25 : Int32) =>
    some (S24, (0 : Int32))) FU S (0 : Int32)
/-- ScreeCourt$Heap.settle()Z -/
def X2_settle_11 (k0 : Nat) (K : St → Int32 → Option (St × Int32)) : Nat → St → Int32 → Option (St × Int32)
  | 0, _, _ => none
  | n + 1, S, v1 =>
    if (20000 : Int32) ≤ v1 then (
      K S v1)
    else (
      bd (X2_lowestDue S k0) fun S23 v24 =>
      if ¬ v24 = (-1 : Int32) then (
        bd (X2_wouldOverfill S23 k0 v24) fun S25 v26 =>
        if v26 = 0 then (
          bd (X2_letSlide S25 k0 v24) fun S27 v28 =>
          lt (v1 + (1 : Int32)) fun v29 =>
          X2_settle_11 k0 K n S27 v29)
        else (
          some (S25, (0 : Int32))))
      else (
        some (S23, (1 : Int32))))
def X2_settle (S : St) (k0 : Nat) : Option (St × Int32) :=
  bd (X2_isOverfilled S k0) fun S21 v22 =>
  if v22 = 0 then (
    X2_settle_11 k0 (fun (S30 : St) (v31 : Int32) =>
      bd (X2_stands S30 k0) fun S32 v33 =>
      gu (v33 = 0 ∨ v33 = 1) (some (S32, v33))) FU S21 (0 : Int32))
  else (
    some (S21, (0 : Int32)))
/-- ScreeCourt.settleInto(I)I -/
def X10_settleInto (S : St) (k0 : Nat) (v1 : Int32) : Option (St × Int32) :=
  bd (X2_settle S (rf k0 2)) fun S22 v23 =>
  if v23 = 0 then (
    bd (X10_found S22 k0 (-5 : Int32)) fun S24 v25 =>
    some (S24, v25))
  else (
    bd (X10_fillSlot S22 k0 v1 (rf k0 2)) fun S27 v28 =>
    some (S27, v28))
/-- ScreeCourt.plus(III)I -/
def X10_plus_69 (k0 : Nat) (v1 : Int32) (v2 : Int32) (v3 : Int32) (K : St → Int32 → Option (St × Int32)) : Nat → St → Int32 → Option (St × Int32)
  | 0, _, _ => none
  | n + 1, S, v4 =>
    if (S.1 (rf k0 0) 3) ≤ v4 then (
      K S v4)
    else (
      ck v1 8 (
      ck v4 12 (
      ck v2 8 (
      ck v4 12 (
      ck v4 12 (lt (setI S (rf (rf k0 2) 1) (ix v4) ((S.1 (rf (rf k0 8) (ix v1)) (ix v4)) + (S.1 (rf (rf k0 8) (ix v2)) (ix v4)))) fun S46 =>
      lt (v4 + (1 : Int32)) fun v47 =>
      X10_plus_69 k0 v1 v2 v3 K n S46 v47))))))
def X10_plus (S : St) (k0 : Nat) (v1 : Int32) (v2 : Int32) (v3 : Int32) : Option (St × Int32) :=
  bd (X10_isSlot S v1) fun S21 v22 =>
  lt (fun (S24 : St)  =>
    bd (X10_found S24 k0 (-1 : Int32)) fun S25 v26 =>
    some (S25, v26)) fun (j23 : St → Option (St × Int32)) =>
  if v22 = 0 then (
    j23 S21)
  else (
    bd (X10_isSlot S21 v2) fun S27 v28 =>
    if v28 = 0 then (
      j23 S27)
    else (
      bd (X10_isSlot S27 v3) fun S29 v30 =>
      if ¬ v30 = 0 then (
        ck v1 8 (
        lt (fun (S33 : St)  =>
          bd (X10_found S33 k0 (-11 : Int32)) fun S34 v35 =>
          some (S34, v35)) fun (j32 : St → Option (St × Int32)) =>
        if (S29.1 (rf k0 9) (ix v1)) = 0 then (
          j32 S29)
        else (
          ck v2 8 (
          if ¬ (S29.1 (rf k0 9) (ix v2)) = 0 then (
            if ¬ (S29.1 k0 13) = 0 then (
              X10_plus_69 k0 v1 v2 v3 (fun (S48 : St) (v49 : Int32) =>
                bd (X10_settleInto S48 k0 v3) fun S50 v51 =>
                some (S50, v51)) FU S29 (0 : Int32))
            else (
              bd (X10_found S29 k0 (-8 : Int32)) fun S52 v53 =>
              some (S52, v53)))
          else (
            j32 S29)))))
      else (
        j23 S29)))
/-- ScreeCourt.findLeftOfA()Z -/
def X10_findLeftOfA_2 (k0 : Nat) (K : St → Int32 → Option (St × Int32)) : Nat → St → Int32 → Option (St × Int32)
  | 0, _, _ => none
  | n + 1, S, v1 =>
    if (S.1 (rf k0 0) 3) ≤ v1 then (
      K S v1)
    else (
      ck v1 12 (
      ck v1 12 (lt (setI S (rf k0 12) (ix v1) ((2 : Int32) * ((S.1 (rf (rf k0 0) 2) (ix v1)) - (1 : Int32)))) fun S25 =>
      lt (v1 + (1 : Int32)) fun v26 =>
      X10_findLeftOfA_2 k0 K n S25 v26)))
def X10_findLeftOfA_63 (k0 : Nat) (K : St → Int32 → Option (St × Int32)) : Nat → St → Int32 → Option (St × Int32)
  | 0, _, _ => none
  | n + 1, S, v1 =>
    if (S.1 (rf k0 0) 3) ≤ v1 then (
      K S v1)
    else (
      ck v1 12 (
      ck v1 12 (
      ck v1 12 (lt (setI S (rf k0 12) (ix v1) ((S.1 (rf k0 12) (ix v1)) - (S.1 (rf (rf k0 2) 1) (ix v1)))) fun S39 =>
      lt (v1 + (1 : Int32)) fun v40 =>
      X10_findLeftOfA_63 k0 K n S39 v40))))
def X10_findLeftOfA (S : St) (k0 : Nat) : Option (St × Int32) :=
  X10_findLeftOfA_2 k0 (fun (S27 : St) (v28 : Int32) =>
    bd (X2_takeGrains S27 (rf k0 2) (rf k0 12)) fun S31 _ =>
    bd (X2_settle S31 (rf k0 2)) fun S33 v34 =>
    if ¬ v34 = 0 then (
      X10_findLeftOfA_63 k0 (fun (S41 : St) (v42 : Int32) =>
        some (S41, (1 : Int32))) FU S33 (0 : Int32))
    else (
      some (S33, (0 : Int32)))) FU S (0 : Int32)
/-- ScreeCourt.nought(I)I -/
def X10_nought (S : St) (k0 : Nat) (v1 : Int32) : Option (St × Int32) :=
  bd (X10_isSlot S v1) fun S21 v22 =>
  if ¬ v22 = 0 then (
    if ¬ (S21.1 k0 13) = 0 then (
      bd (X7_isTwoWay S21 (rf k0 0)) fun S24 v25 =>
      if ¬ v25 = 0 then (
        bd (X10_findLeftOfA S24 k0) fun S26 v27 =>
        if ¬ v27 = 0 then (
          bd (X2_takeGrains S26 (rf k0 2) (rf k0 12)) fun S30 _ =>
          bd (X10_settleInto S30 k0 v1) fun S31 v32 =>
          some (S31, v32))
        else (
          bd (X10_found S26 k0 (-5 : Int32)) fun S33 v34 =>
          some (S33, v34)))
      else (
        bd (X10_found S24 k0 (-12 : Int32)) fun S35 v36 =>
        some (S35, v36)))
    else (
      bd (X10_found S21 k0 (-8 : Int32)) fun S37 v38 =>
      some (S37, v38)))
  else (
    bd (X10_found S21 k0 (-1 : Int32)) fun S39 v40 =>
    some (S39, v40))
/-- ScreeCourt.contrary(II)I -/
def X10_contrary_113 (k0 : Nat) (v2 : Int32) (K : St → Int32 → Option (St × Int32)) : Nat → St → Int32 → Option (St × Int32)
  | 0, _, _ => none
  | n + 1, S, v3 =>
    if (S.1 (rf k0 0) 3) ≤ v3 then (
      K S v3)
    else (
      ck v3 12 (
      ck v3 12 (
      ck v3 12 (lt (setI S (rf (rf k0 2) 1) (ix v3) (((2 : Int32) * (S.1 (rf k0 12) (ix v3))) - (S.1 (rf (rf k0 2) 1) (ix v3)))) fun S49 =>
      lt (v3 + (1 : Int32)) fun v50 =>
      X10_contrary_113 k0 v2 K n S49 v50))))
def X10_contrary (S : St) (k0 : Nat) (v1 : Int32) (v2 : Int32) : Option (St × Int32) :=
  bd (X10_isSlot S v1) fun S21 v22 =>
  lt (fun (S24 : St)  =>
    bd (X10_found S24 k0 (-1 : Int32)) fun S25 v26 =>
    some (S25, v26)) fun (j23 : St → Option (St × Int32)) =>
  if v22 = 0 then (
    j23 S21)
  else (
    bd (X10_isSlot S21 v2) fun S27 v28 =>
    if ¬ v28 = 0 then (
      ck v1 8 (
      if ¬ (S27.1 (rf k0 9) (ix v1)) = 0 then (
        if ¬ (S27.1 k0 13) = 0 then (
          bd (X7_isTwoWay S27 (rf k0 0)) fun S31 v32 =>
          if ¬ v32 = 0 then (
            bd (X10_findLeftOfA S31 k0) fun S33 v34 =>
            if ¬ v34 = 0 then (
              ck v1 8 (
              bd (X2_takeGrains S33 (rf k0 2) (rf (rf k0 8) (ix v1))) fun S39 _ =>
              bd (X2_settle S39 (rf k0 2)) fun S41 v42 =>
              if ¬ v42 = 0 then (
                X10_contrary_113 k0 v2 (fun (S51 : St) (v52 : Int32) =>
                  bd (X10_settleInto S51 k0 v2) fun S53 v54 =>
                  some (S53, v54)) FU S41 (0 : Int32))
              else (
                bd (X10_found S41 k0 (-5 : Int32)) fun S55 v56 =>
                some (S55, v56))))
            else (
              bd (X10_found S33 k0 (-5 : Int32)) fun S57 v58 =>
              some (S57, v58)))
          else (
            bd (X10_found S31 k0 (-12 : Int32)) fun S59 v60 =>
            some (S59, v60)))
        else (
          bd (X10_found S27 k0 (-8 : Int32)) fun S61 v62 =>
          some (S61, v62)))
      else (
        bd (X10_found S27 k0 (-11 : Int32)) fun S63 v64 =>
        some (S63, v64))))
    else (
      j23 S27))
/-- ScreeCourt.isPrimeInRange(I)Z -/
def X10_isPrimeInRange_16 (v0 : Int32) (K : St → Int32 → Option (St × Int32)) : Nat → St → Int32 → Option (St × Int32)
  | 0, _, _ => none
  | n + 1, S, v1 =>
    if v0 < (v1 * v1) then (
      K S v1)
    else (
      gu (¬ v1 = 0) (
      if ¬ (irem v0 v1) = 0 then (
        lt (v1 + (1 : Int32)) fun v23 =>
        X10_isPrimeInRange_16 v0 K n S v23)
      else (
        some (S, (0 : Int32)))))
def X10_isPrimeInRange (S : St) (v0 : Int32) : Option (St × Int32) :=
  lt (fun (S22 : St)  =>
    some (S22, (0 : Int32))) fun (j21 : St → Option (St × Int32)) =>
  if v0 < (2 : Int32) then (
    j21 S)
  else (
    if v0 ≤ (30011 : Int32) then (
      X10_isPrimeInRange_16 v0 (fun (S24 : St) (v25 : Int32) =>
        some (S24, (1 : Int32))) FU S (2 : Int32))
    else (
      j21 S))
/-- ScreeCourt$Tally.power(JII)J -/
def X8_power_9 (v3 : Int32) (K : St → Int64 → Int64 → Int32 → Option (St × Int64)) : Nat → St → Int64 → Int64 → Int32 → Option (St × Int64)
  | 0, _, _, _, _ => none
  | n + 1, S, v4, v6, v8 =>
    if v8 ≤ 0 then (
      K S v4 v6 v8)
    else (
      lt (fun (S22 : St) (v23 : Int64) =>
        gu (¬ (Int32.toInt64 v3) = 0) (
        lt (lrem (v6 * v6) (Int32.toInt64 v3)) fun v24 =>
        lt (v8 >>> ((1 : Int32) &&& 31)) fun v25 =>
        X8_power_9 v3 K n S22 v23 v24 v25)) fun (j21 : St → Int64 → Option (St × Int64)) =>
      if (v8 &&& (1 : Int32)) = 0 then (
        j21 S v4)
      else (
        gu (¬ (Int32.toInt64 v3) = 0) (
        lt (lrem (v4 * v6) (Int32.toInt64 v3)) fun v26 =>
        j21 S v26)))
def X8_power (S : St) (v0 : Int64) (v2 : Int32) (v3 : Int32) : Option (St × Int64) :=
  X8_power_9 v3 (fun (S27 : St) (v28 : Int64) (v29 : Int64) (v30 : Int32) =>
    some (S27, v28)) FU S (1 : Int64) v0 v2
/-- ScreeCourt$Tally.clearBelow(III)V -/
def X8_clearBelow_48 (k0 : Nat) (v1 : Int32) (v2 : Int32) (v3 : Int32) (v4 : Int64) (v6 : Int32) (v7 : Int64) (K : St → Int32 → Option (St × Unit)) : Nat → St → Int32 → Option (St × Unit)
  | 0, _, _ => none
  | n + 1, S, v9 =>
    if v2 ≤ v9 then (
      K S v9)
    else (
      ck v6 12 (
      ck v9 12 (
      ck v1 12 (
      ck v9 12 (
      gu (¬ (Int32.toInt64 v3) = 0) (
      lt ((S.2 (rf (rf k0 0) (ix v6)) (ix v9)) - (lrem (v7 * (S.2 (rf (rf k0 0) (ix v1)) (ix v9))) (Int32.toInt64 v3))) fun v37 =>
      ck v6 12 (
      lt (fun (S42 : St) (v43 : Int64) =>
        ck v9 12 (lt (setJ S42 (rf (rf k0 0) (ix v6)) (ix v9) v43) fun S44 =>
        lt (v9 + (1 : Int32)) fun v45 =>
        X8_clearBelow_48 k0 v1 v2 v3 v4 v6 v7 K n S44 v45)) fun (j41 : St → Int64 → Option (St × Unit)) =>
      if (0 : Int64) ≤ v37 then (
        j41 S v37)
      else (
        j41 S (v37 + (Int32.toInt64 v3))))))))))
def X8_clearBelow_22 (k0 : Nat) (v1 : Int32) (v2 : Int32) (v3 : Int32) (v4 : Int64) (K : St → Int32 → Option (St × Unit)) : Nat → St → Int32 → Option (St × Unit)
  | 0, _, _ => none
  | n + 1, S, v6 =>
    if v2 ≤ v6 then (
      K S v6)
    else (
      ck v6 12 (
      ck v1 12 (
      gu (¬ (Int32.toInt64 v3) = 0) (
      lt (lrem ((S.2 (rf (rf k0 0) (ix v6)) (ix v1)) * v4) (Int32.toInt64 v3)) fun v30 =>
      X8_clearBelow_48 k0 v1 v2 v3 v4 v6 v30 (fun (S46 : St) (v47 : Int32) =>
        lt (v6 + (1 : Int32)) fun v48 =>
        X8_clearBelow_22 k0 v1 v2 v3 v4 K n S46 v48) FU S v1))))
def X8_clearBelow (S : St) (k0 : Nat) (v1 : Int32) (v2 : Int32) (v3 : Int32) : Option (St × Unit) :=
  ck v1 12 (
  ck v1 12 (
  bd (X8_power S (S.2 (rf (rf k0 0) (ix v1)) (ix v1)) (v3 - (2 : Int32)) v3) fun S24 v25 =>
  lt (v1 + (1 : Int32)) fun v26 =>
  X8_clearBelow_22 k0 v1 v2 v3 v25 (fun (S49 : St) (v50 : Int32) =>
    some (S49, ())) FU S24 v26))
/-- java/lang/Math.floorMod(II)I -/
def Math_floorMod (S : St) (v0 : Int32) (v1 : Int32) : Option (St × Int32) :=
  gu (¬ v1 = 0) (
  lt (irem v0 v1) fun v21 =>
  lt (fun (S23 : St)  =>
    some (S23, v21)) fun (j22 : St → Option (St × Int32)) =>
  if 0 ≤ (v0 ^^^ v1) then (
    j22 S)
  else (
    if v21 = 0 then (
      j22 S)
    else (
      some (S, v21 + v1))))
/-- ScreeCourt$Tally.fill(LScreeCourt$Slope;I)V -/
def X8_fill_13 (k0 : Nat) (k1 : Nat) (v2 : Int32) (v3 : Int32) (K : St → Int32 → Option (St × Unit)) : Nat → St → Int32 → Option (St × Unit)
  | 0, _, _ => none
  | n + 1, S, v4 =>
    if (S.1 k1 3) ≤ v4 then (
      K S v4)
    else (
      lt (fun (S22 : St) (v23 : Int32) =>
        ck v3 12 (
        bd (Math_floorMod S22 v23 v2) fun S27 v28 =>
        ck v4 12 (lt (setJ S27 (rf (rf k0 0) (ix v3)) (ix v4) (Int32.toInt64 v28)) fun S29 =>
        lt (v4 + (1 : Int32)) fun v30 =>
        X8_fill_13 k0 k1 v2 v3 K n S29 v30))) fun (j21 : St → Int32 → Option (St × Unit)) =>
      if ¬ v3 = v4 then (
        ck v3 12 (
        ck v4 15 (
        j21 S (-(S.1 (rf (rf k1 1) (ix v3)) (ix v4))))))
      else (
        ck v3 12 (
        j21 S (S.1 (rf k1 2) (ix v3)))))
def X8_fill_2 (k0 : Nat) (k1 : Nat) (v2 : Int32) (K : St → Int32 → Option (St × Unit)) : Nat → St → Int32 → Option (St × Unit)
  | 0, _, _ => none
  | n + 1, S, v3 =>
    if (S.1 k1 3) ≤ v3 then (
      K S v3)
    else (
      X8_fill_13 k0 k1 v2 v3 (fun (S35 : St) (v36 : Int32) =>
        lt (v3 + (1 : Int32)) fun v37 =>
        X8_fill_2 k0 k1 v2 K n S35 v37) FU S (0 : Int32))
def X8_fill (S : St) (k0 : Nat) (k1 : Nat) (v2 : Int32) : Option (St × Unit) :=
  X8_fill_2 k0 k1 v2 (fun (S38 : St) (v39 : Int32) =>
    some (S38, ())) FU S (0 : Int32)
/-- ScreeCourt$Tally.pivotOf(II)I -/
def X8_pivotOf_2 (k0 : Nat) (v1 : Int32) (v2 : Int32) (K : St → Int32 → Option (St × Int32)) : Nat → St → Int32 → Option (St × Int32)
  | 0, _, _ => none
  | n + 1, S, v3 =>
    if v2 ≤ v3 then (
      K S v3)
    else (
      ck v3 12 (
      ck v1 12 (
      if (S.2 (rf (rf k0 0) (ix v3)) (ix v1)) = (0 : Int64) then (
        lt (v3 + (1 : Int32)) fun v24 =>
        X8_pivotOf_2 k0 v1 v2 K n S v24)
      else (
        some (S, v3)))))
def X8_pivotOf (S : St) (k0 : Nat) (v1 : Int32) (v2 : Int32) : Option (St × Int32) :=
  X8_pivotOf_2 k0 v1 v2 (fun (S25 : St) (v26 : Int32) =>
    some (S25, (-1 : Int32))) FU S v1
/-- ScreeCourt$Tally.swapRows(III)V -/
def X8_swapRows_3 (k0 : Nat) (v1 : Int32) (v2 : Int32) (v3 : Int32) (K : St → Int32 → Option (St × Unit)) : Nat → St → Int32 → Option (St × Unit)
  | 0, _, _ => none
  | n + 1, S, v4 =>
    if v3 ≤ v4 then (
      K S v4)
    else (
      ck v1 12 (
      ck v4 12 (
      lt (S.2 (rf (rf k0 0) (ix v1)) (ix v4)) fun v24 =>
      ck v1 12 (
      ck v2 12 (
      ck v4 12 (
      ck v4 12 (lt (setJ S (rf (rf k0 0) (ix v1)) (ix v4) (S.2 (rf (rf k0 0) (ix v2)) (ix v4))) fun S31 =>
      ck v2 12 (
      ck v4 12 (lt (setJ S31 (rf (rf k0 0) (ix v2)) (ix v4) v24) fun S35 =>
      lt (v4 + (1 : Int32)) fun v36 =>
      X8_swapRows_3 k0 v1 v2 v3 K n S35 v36)))))))))
def X8_swapRows (S : St) (k0 : Nat) (v1 : Int32) (v2 : Int32) (v3 : Int32) : Option (St × Unit) :=
  X8_swapRows_3 k0 v1 v2 v3 (fun (S37 : St) (v38 : Int32) =>
    some (S37, ())) FU S (0 : Int32)
/-- ScreeCourt$Tally.countRows(LScreeCourt$Slope;I)I -/
def X8_countRows_18 (k0 : Nat) (k1 : Nat) (v2 : Int32) (K : St → Int64 → Int32 → Option (St × Int32)) : Nat → St → Int64 → Int32 → Option (St × Int32)
  | 0, _, _, _ => none
  | n + 1, S, v3, v5 =>
    if (S.1 k1 3) ≤ v5 then (
      K S v3 v5)
    else (
      bd (X8_pivotOf S k0 v5 (S.1 k1 3)) fun S22 v23 =>
      if ¬ v23 = (-1 : Int32) then (
        lt (fun (S25 : St) (v26 : Int64) =>
          ck v5 12 (
          ck v5 12 (
          gu (¬ (Int32.toInt64 v2) = 0) (
          lt (lrem (v26 * (S25.2 (rf (rf k0 0) (ix v5)) (ix v5))) (Int32.toInt64 v2)) fun v30 =>
          bd (X8_clearBelow S25 k0 v5 (S25.1 k1 3) v2) fun S31 _ =>
          lt (v5 + (1 : Int32)) fun v32 =>
          X8_countRows_18 k0 k1 v2 K n S31 v30 v32)))) fun (j24 : St → Int64 → Option (St × Int32)) =>
        if v23 = v5 then (
          j24 S22 v3)
        else (
          bd (X8_swapRows S22 k0 v23 v5 (S22.1 k1 3)) fun S33 _ =>
          lt ((Int32.toInt64 v2) - v3) fun v34 =>
          j24 S33 v34))
      else (
        some (S22, (0 : Int32))))
def X8_countRows (S : St) (k0 : Nat) (k1 : Nat) (v2 : Int32) : Option (St × Int32) :=
  if (2 : Int32) ≤ v2 then (
    bd (X8_fill S k0 k1 v2) fun S21 _ =>
    X8_countRows_18 k0 k1 v2 (fun (S35 : St) (v36 : Int64) (v37 : Int32) =>
      some (S35, Int64.toInt32 v36)) FU S21 (1 : Int64) (0 : Int32))
  else (
    some (S, (0 : Int32)))
/-- ScreeCourt.many(I)I -/
def X10_many (S : St) (k0 : Nat) (v1 : Int32) : Option (St × Int32) :=
  bd (X10_isPrimeInRange S v1) fun S21 v22 =>
  if ¬ v22 = 0 then (
    if ¬ (S21.1 k0 13) = 0 then (
      bd (X7_isTwoWay S21 (rf k0 0)) fun S24 v25 =>
      if ¬ v25 = 0 then (
        bd (X8_countRows S24 (rf k0 7) (rf k0 0) v1) fun S28 v29 =>
        some (S28, v29))
      else (
        bd (X10_found S24 k0 (-12 : Int32)) fun S30 v31 =>
        some (S30, v31)))
    else (
      bd (X10_found S21 k0 (-8 : Int32)) fun S32 v33 =>
      some (S32, v33)))
  else (
    bd (X10_found S21 k0 (-1 : Int32)) fun S34 v35 =>
    some (S34, v35))
/-- ScreeCourt$Roster.leastFrom(LScreeCourt$Slope;I)V -/
def X6_leastFrom_2 (k0 : Nat) (k1 : Nat) (v2 : Int32) (K : St → Int32 → Option (St × Unit)) : Nat → St → Int32 → Option (St × Unit)
  | 0, _, _ => none
  | n + 1, S, v3 =>
    if (S.1 k1 3) ≤ v3 then (
      K S v3)
    else (
      ck v3 12 (
      ck v3 12 (lt (setI S (rf k0 1) (ix v3) ((S.1 (rf k1 2) (ix v3)) - (1 : Int32))) fun S23 =>
      lt (v3 + (1 : Int32)) fun v24 =>
      X6_leastFrom_2 k0 k1 v2 K n S23 v24)))
def X6_leastFrom_32 (k0 : Nat) (k1 : Nat) (K : St → Int32 → Option (St × Unit)) : Nat → St → Int32 → Option (St × Unit)
  | 0, _, _ => none
  | n + 1, S, v3 =>
    if (S.1 k1 3) ≤ v3 then (
      K S v3)
    else (
      bd (X1_light S (rf k0 0) k1 (rf k0 1) v3) fun S29 _ =>
      bd (X7_weightToPlaces S29 k1 v3 (S29.1 (rf k0 0) 2)) fun S32 v33 =>
      ck v3 12 (lt (setI S32 (rf k0 1) (ix v3) v33) fun S34 =>
      lt (v3 + (1 : Int32)) fun v35 =>
      X6_leastFrom_32 k0 k1 K n S34 v35))
def X6_leastFrom (S : St) (k0 : Nat) (k1 : Nat) (v2 : Int32) : Option (St × Unit) :=
  X6_leastFrom_2 k0 k1 v2 (fun (S25 : St) (v26 : Int32) =>
    X6_leastFrom_32 k0 k1 (fun (S36 : St) (v37 : Int32) =>
      some (S36, ())) FU S25 v2) FU S v2
/-- ScreeCourt$Roster.stepOn(LScreeCourt$Slope;)Z -/
def X6_stepOn_7 (k0 : Nat) (k1 : Nat) (K : St → Int32 → Option (St × Int32)) : Nat → St → Int32 → Option (St × Int32)
  | 0, _, _ => none
  | n + 1, S, v2 =>
    if v2 < 0 then (
      K S v2)
    else (
      ck v2 12 (
      ck v2 12 (
      if ((S.1 (rf k1 2) (ix v2)) - (1 : Int32)) ≤ (S.1 (rf k0 1) (ix v2)) then (
        lt (v2 + (-1 : Int32)) fun v24 =>
        X6_stepOn_7 k0 k1 K n S v24)
      else (
        ck v2 12 (
        ck v2 12 (lt (setI S (rf k0 1) (ix v2) ((S.1 (rf k0 1) (ix v2)) + (1 : Int32))) fun S26 =>
        bd (X6_leastFrom S26 k0 k1 (v2 + (1 : Int32))) fun S27 _ =>
        some (S27, (1 : Int32))))))))
def X6_stepOn (S : St) (k0 : Nat) (k1 : Nat) : Option (St × Int32) :=
  lt ((S.1 k1 3) - (1 : Int32)) fun v21 =>
  X6_stepOn_7 k0 k1 (fun (S28 : St) (v29 : Int32) =>
    some (S28, (0 : Int32))) FU S v21
/-- ScreeCourt$Roster.gather(LScreeCourt$Slope;)Z -/
def X6_gather_8 (k0 : Nat) (k1 : Nat) (K : St → Int32 → Option (St × Int32)) : Nat → St → Int32 → Option (St × Int32)
  | 0, _, _ => none
  | n + 1, S, v2 =>
    if (200 : Int32) ≤ v2 then (
      K S v2)
    else (
      gu (cpOk (0 : Int32) (v2 * (12 : Int32)) (12 : Int32) 12 2400) (lt (setR S (rf k0 2) (va_cpy (S.1 (rf k0 1)) (S.1 (rf k0 2)) (ix (0 : Int32)) (ix (v2 * (12 : Int32))) (ix (12 : Int32)))) fun S24 =>
      bd (X6_stepOn S24 k0 k1) fun S25 v26 =>
      if ¬ v26 = 0 then (
        lt (v2 + (1 : Int32)) fun v27 =>
        X6_gather_8 k0 k1 K n S25 v27)
      else (
        lt (setI S25 k0 3 (v2 + (1 : Int32))) fun S28 =>
        some (S28, (1 : Int32)))))
def X6_gather (S : St) (k0 : Nat) (k1 : Nat) : Option (St × Int32) :=
  bd (X6_leastFrom S k0 k1 (0 : Int32)) fun S21 _ =>
  X6_gather_8 k0 k1 (fun (S29 : St) (v30 : Int32) =>
    some (S29, (0 : Int32))) FU S21 (0 : Int32)
/-- ScreeCourt.list()I -/
def X10_list (S : St) (k0 : Nat) : Option (St × Int32) :=
  if ¬ (S.1 k0 13) = 0 then (
    bd (X7_isTwoWay S (rf k0 0)) fun S22 v23 =>
    if ¬ v23 = 0 then (
      bd (X6_gather S22 (rf k0 6) (rf k0 0)) fun S26 v27 =>
      if v27 = 0 then (
        bd (X10_found S26 k0 (-10 : Int32)) fun S28 v29 =>
        some (S28, v29))
      else (
        some (S26, S26.1 (rf k0 6) 3)))
    else (
      bd (X10_found S22 k0 (-12 : Int32)) fun S31 v32 =>
      some (S31, v32)))
  else (
    bd (X10_found S k0 (-8 : Int32)) fun S33 v34 =>
    some (S33, v34))
/-- ScreeCourt$Roster.grainsOf(II)I -/
def X6_grainsOf (S : St) (k0 : Nat) (v1 : Int32) (v2 : Int32) : Option (St × Int32) :=
  ck ((v1 * (12 : Int32)) + v2) 2400 (
  some (S, S.1 (rf k0 2) (ix ((v1 * (12 : Int32)) + v2))))
/-- ScreeCourt.listed(II)I -/
def X10_listed (S : St) (k0 : Nat) (v1 : Int32) (v2 : Int32) : Option (St × Int32) :=
  lt (fun (S22 : St)  =>
    bd (X10_found S22 k0 (-11 : Int32)) fun S23 v24 =>
    some (S23, v24)) fun (j21 : St → Option (St × Int32)) =>
  if v1 < 0 then (
    j21 S)
  else (
    if v1 < (S.1 (rf k0 6) 3) then (
      bd (X7_has S (rf k0 0) v2) fun S27 v28 =>
      if ¬ v28 = 0 then (
        bd (X6_grainsOf S27 (rf k0 6) v1 v2) fun S30 v31 =>
        some (S30, v31))
      else (
        bd (X10_found S27 k0 (-1 : Int32)) fun S32 v33 =>
        some (S32, v33)))
    else (
      j21 S))
/-- ScreeCourt.isTerrace(I)Z -/
def X10_isTerrace (S : St) (v0 : Int32) : Option (St × Int32) :=
  lt (fun (S22 : St)  =>
    some (S22, (0 : Int32))) fun (j21 : St → Option (St × Int32)) =>
  if v0 < 0 then (
    j21 S)
  else (
    if (4 : Int32) ≤ v0 then (
      j21 S)
    else (
      some (S, (1 : Int32))))
/-- ScreeCourt.isWidth(I)Z -/
def X10_isWidth (S : St) (v0 : Int32) : Option (St × Int32) :=
  lt (fun (S22 : St)  =>
    some (S22, (1 : Int32))) fun (j21 : St → Option (St × Int32)) =>
  if v0 = 0 then (
    j21 S)
  else (
    if v0 = (8 : Int32) then (
      j21 S)
    else (
      if v0 = (16 : Int32) then (
        j21 S)
      else (
        if v0 = (32 : Int32) then (
          j21 S)
        else (
          if ¬ v0 = (64 : Int32) then (
            some (S, (0 : Int32)))
          else (
            j21 S)))))
/-- ScreeCourt$Terrace.build(II)I -/
def X9_build_2 (k0 : Nat) (v1 : Int32) (v2 : Int32) (K : St → Int32 → Option (St × Int32)) : Nat → St → Int32 → Option (St × Int32)
  | 0, _, _ => none
  | n + 1, S, v3 =>
    if (16 : Int32) ≤ v3 then (
      K S v3)
    else (
      ck v3 16 (lt (setJ S (rf k0 0) (ix v3) (0 : Int64)) fun S22 =>
      lt (v3 + (1 : Int32)) fun v23 =>
      X9_build_2 k0 v1 v2 K n S22 v23))
def X9_build (S : St) (k0 : Nat) (v1 : Int32) (v2 : Int32) : Option (St × Int32) :=
  X9_build_2 k0 v1 v2 (fun (S24 : St) (v25 : Int32) =>
    lt (setI S24 k0 1 v1) fun S26 =>
    lt (fun (S28 : St) (v29 : Int32) =>
      lt (setI S28 k0 2 v29) fun S30 =>
      some (S30, S30.1 k0 2)) fun (j27 : St → Int32 → Option (St × Int32)) =>
    if ¬ v1 = 0 then (
      j27 S26 v2)
    else (
      j27 S26 (0 : Int32))) FU S (0 : Int32)
/-- ScreeCourt.terrace(III)I -/
def X10_terrace (S : St) (k0 : Nat) (v1 : Int32) (v2 : Int32) (v3 : Int32) : Option (St × Int32) :=
  bd (X10_isTerrace S v1) fun S21 v22 =>
  lt (fun (S24 : St)  =>
    bd (X10_found S24 k0 (-1 : Int32)) fun S25 v26 =>
    some (S25, v26)) fun (j23 : St → Option (St × Int32)) =>
  if v22 = 0 then (
    j23 S21)
  else (
    bd (X10_isWidth S21 v2) fun S27 v28 =>
    if ¬ v28 = 0 then (
      if 0 ≤ v3 then (
        if v3 ≤ (16 : Int32) then (
          ck v1 4 (
          bd (X9_build S27 (rf (rf k0 10) (ix v1)) v2 v3) fun S32 v33 =>
          some (S32, v33)))
        else (
          bd (X10_found S27 k0 (-1 : Int32)) fun S34 v35 =>
          some (S34, v35)))
      else (
        bd (X10_found S27 k0 (-3 : Int32)) fun S36 v37 =>
        some (S36, v37)))
    else (
      j23 S27))
/-- ScreeCourt.foundByPut(I)J -/
def X10_foundByPut (S : St) (k0 : Nat) (v1 : Int32) : Option (St × Int64) :=
  bd (X10_found S k0 v1) fun S21 v22 =>
  some (S21, (-9223372036854775808 : Int64))
/-- ScreeCourt$Terrace.isMissing()Z -/
def X9_isMissing (S : St) (k0 : Nat) : Option (St × Int32) :=
  if ¬ (S.1 k0 1) = 0 then (
    some (S, (0 : Int32)))
  else (
    some (S, (1 : Int32)))
/-- ScreeCourt$Terrace.store(IJ)J -/
def X9_store (S : St) (k0 : Nat) (v1 : Int32) (v2 : Int64) : Option (St × Int64) :=
  lt ((64 : Int32) - (S.1 k0 1)) fun v21 =>
  ck v1 16 (lt (setJ S (rf k0 0) (ix v1) ((v2 <<< (Int32.toInt64 v21 &&& 63)) >>> (Int32.toInt64 v21 &&& 63))) fun S23 =>
  ck v1 16 (
  some (S23, S23.2 (rf k0 0) (ix v1))))
/-- ScreeCourt.put(IIJ)J -/
def X10_put (S : St) (k0 : Nat) (v1 : Int32) (v2 : Int32) (v3 : Int64) : Option (St × Int64) :=
  bd (X10_isTerrace S v1) fun S21 v22 =>
  if ¬ v22 = 0 then (
    ck v1 4 (
    bd (X9_isMissing S21 (rf (rf k0 10) (ix v1))) fun S26 v27 =>
    if v27 = 0 then (
      lt (fun (S29 : St)  =>
        bd (X10_foundByPut S29 k0 (-1 : Int32)) fun S30 v31 =>
        some (S30, v31)) fun (j28 : St → Option (St × Int64)) =>
      if v2 < 0 then (
        j28 S26)
      else (
        ck v1 4 (
        if v2 < (S26.1 (rf (rf k0 10) (ix v1)) 2) then (
          ck v1 4 (
          bd (X9_store S26 (rf (rf k0 10) (ix v1)) v2 v3) fun S38 v39 =>
          some (S38, v39)))
        else (
          j28 S26))))
    else (
      bd (X10_foundByPut S26 k0 (-2 : Int32)) fun S40 v41 =>
      some (S40, v41))))
  else (
    bd (X10_foundByPut S21 k0 (-1 : Int32)) fun S42 v43 =>
    some (S42, v43))
/-- ScreeCourt.isStretch(III)Z -/
def X10_isStretch (S : St) (v0 : Int32) (v1 : Int32) (v2 : Int32) : Option (St × Int32) :=
  lt (fun (S22 : St)  =>
    some (S22, (0 : Int32))) fun (j21 : St → Option (St × Int32)) =>
  if v0 < 0 then (
    j21 S)
  else (
    if v1 < 0 then (
      j21 S)
    else (
      if v2 < v1 then (
        j21 S)
      else (
        if (v2 - v1) < v0 then (
          j21 S)
        else (
          some (S, (1 : Int32))))))
/-- ScreeCourt.copy(IIIII)I -/
def X10_copy (S : St) (k0 : Nat) (v1 : Int32) (v2 : Int32) (v3 : Int32) (v4 : Int32) (v5 : Int32) : Option (St × Int32) :=
  bd (X10_isTerrace S v1) fun S21 v22 =>
  lt (fun (S24 : St)  =>
    bd (X10_found S24 k0 (-1 : Int32)) fun S25 v26 =>
    some (S25, v26)) fun (j23 : St → Option (St × Int32)) =>
  if v22 = 0 then (
    j23 S21)
  else (
    bd (X10_isTerrace S21 v3) fun S27 v28 =>
    if ¬ v28 = 0 then (
      ck v1 4 (
      bd (X9_isMissing S27 (rf (rf k0 10) (ix v1))) fun S32 v33 =>
      lt (fun (S35 : St)  =>
        bd (X10_found S35 k0 (-2 : Int32)) fun S36 v37 =>
        some (S36, v37)) fun (j34 : St → Option (St × Int32)) =>
      if ¬ v33 = 0 then (
        j34 S32)
      else (
        ck v3 4 (
        bd (X9_isMissing S32 (rf (rf k0 10) (ix v3))) fun S41 v42 =>
        if v42 = 0 then (
          ck v1 4 (
          ck v3 4 (
          if (S41.1 (rf (rf k0 10) (ix v1)) 1) = (S41.1 (rf (rf k0 10) (ix v3)) 1) then (
            ck v1 4 (
            bd (X10_isStretch S41 v2 v5 (S41.1 (rf (rf k0 10) (ix v1)) 2)) fun S52 v53 =>
            lt (fun (S55 : St)  =>
              bd (X10_found S55 k0 (-1 : Int32)) fun S56 v57 =>
              some (S56, v57)) fun (j54 : St → Option (St × Int32)) =>
            if v53 = 0 then (
              j54 S52)
            else (
              ck v3 4 (
              bd (X10_isStretch S52 v4 v5 (S52.1 (rf (rf k0 10) (ix v3)) 2)) fun S61 v62 =>
              if ¬ v62 = 0 then (
                ck v1 4 (
                ck v3 4 (
                gu (cpOk v2 v4 v5 16 16) (lt (setL S61 (rf (rf (rf k0 10) (ix v3)) 0) (va_cpy (S61.2 (rf (rf (rf k0 10) (ix v1)) 0)) (S61.2 (rf (rf (rf k0 10) (ix v3)) 0)) (ix v2) (ix v4) (ix v5))) fun S71 =>
                some (S71, v5)))))
              else (
                j54 S61)))))
          else (
            bd (X10_found S41 k0 (-4 : Int32)) fun S72 v73 =>
            some (S72, v73)))))
        else (
          j34 S41)))))
    else (
      j23 S27))
/-- ScreeCourt.hasDebt([JII)Z -/
def X10_hasDebt_2 (k0 : Nat) (v1 : Int32) (v2 : Int32) (K : St → Int32 → Option (St × Int32)) : Nat → St → Int32 → Option (St × Int32)
  | 0, _, _ => none
  | n + 1, S, v3 =>
    if (v1 + v2) ≤ v3 then (
      K S v3)
    else (
      ck v3 16 (
      if (0 : Int64) ≤ (S.2 k0 (ix v3)) then (
        lt (v3 + (1 : Int32)) fun v21 =>
        X10_hasDebt_2 k0 v1 v2 K n S v21)
      else (
        some (S, (1 : Int32)))))
def X10_hasDebt (S : St) (k0 : Nat) (v1 : Int32) (v2 : Int32) : Option (St × Int32) :=
  X10_hasDebt_2 k0 v1 v2 (fun (S22 : St) (v23 : Int32) =>
    some (S22, (0 : Int32))) FU S v1
/-- ScreeCourt.spread(IIII)I -/
def X10_spread_116 (k0 : Nat) (v2 : Int32) (v3 : Int32) (v4 : Int32) (k5 : Nat) (K : St → Int32 → Option (St × Int32)) : Nat → St → Int32 → Option (St × Int32)
  | 0, _, _ => none
  | n + 1, S, v6 =>
    if v3 ≤ v6 then (
      K S v6)
    else (
      ck (v2 + v6) 16 (
      ck (v4 + v6) 12 (
      if (S.2 k5 (ix (v2 + v6))) ≤ (Int32.toInt64 ((1000000 : Int32) - (S.1 (rf (rf k0 1) 1) (ix (v4 + v6))))) then (
        lt (v6 + (1 : Int32)) fun v48 =>
        X10_spread_116 k0 v2 v3 v4 k5 K n S v48)
      else (
        bd (X10_found S k0 (-5 : Int32)) fun S49 v50 =>
        some (S49, v50)))))
def X10_spread_182 (k0 : Nat) (v2 : Int32) (v3 : Int32) (v4 : Int32) (k5 : Nat) (K : St → Int32 → Option (St × Int32)) : Nat → St → Int32 → Option (St × Int32)
  | 0, _, _ => none
  | n + 1, S, v6 =>
    if v3 ≤ v6 then (
      K S v6)
    else (
      ck (v4 + v6) 12 (
      ck (v2 + v6) 16 (
      ck (v4 + v6) 12 (lt (setI S (rf (rf k0 1) 1) (ix (v4 + v6)) ((S.1 (rf (rf k0 1) 1) (ix (v4 + v6))) + (Int64.toInt32 (S.2 k5 (ix (v2 + v6)))))) fun S59 =>
      lt (v6 + (1 : Int32)) fun v60 =>
      X10_spread_182 k0 v2 v3 v4 k5 K n S59 v60))))
def X10_spread (S : St) (k0 : Nat) (v1 : Int32) (v2 : Int32) (v3 : Int32) (v4 : Int32) : Option (St × Int32) :=
  bd (X10_isTerrace S v1) fun S21 v22 =>
  if ¬ v22 = 0 then (
    ck v1 4 (
    bd (X9_isMissing S21 (rf (rf k0 10) (ix v1))) fun S26 v27 =>
    if v27 = 0 then (
      ck v1 4 (
      bd (X10_isStretch S26 v2 v3 (S26.1 (rf (rf k0 10) (ix v1)) 2)) fun S31 v32 =>
      lt (fun (S34 : St)  =>
        bd (X10_found S34 k0 (-1 : Int32)) fun S35 v36 =>
        some (S35, v36)) fun (j33 : St → Option (St × Int32)) =>
      if v32 = 0 then (
        j33 S31)
      else (
        bd (X10_isStretch S31 v4 v3 (S31.1 (rf k0 0) 3)) fun S38 v39 =>
        if ¬ v39 = 0 then (
          if ¬ (S38.1 k0 13) = 0 then (
            ck v1 4 (
            bd (X10_hasDebt S38 (rf (rf (rf k0 10) (ix v1)) 0) v2 v3) fun S44 v45 =>
            if v45 = 0 then (
              X10_spread_116 k0 v2 v3 v4 (rf (rf (rf k0 10) (ix v1)) 0) (fun (S51 : St) (v52 : Int32) =>
                bd (X3_note S51 (rf k0 4) (rf k0 1) (rf k0 3)) fun S56 _ =>
                X10_spread_182 k0 v2 v3 v4 (rf (rf (rf k0 10) (ix v1)) 0) (fun (S61 : St) (v62 : Int32) =>
                  bd (X2_sum S61 (rf k0 1)) fun S64 v65 =>
                  some (S64, v65)) FU S56 (0 : Int32)) FU S44 (0 : Int32))
            else (
              bd (X10_found S44 k0 (-13 : Int32)) fun S66 v67 =>
              some (S66, v67))))
          else (
            bd (X10_found S38 k0 (-8 : Int32)) fun S68 v69 =>
            some (S68, v69)))
        else (
          j33 S38))))
    else (
      bd (X10_found S26 k0 (-2 : Int32)) fun S70 v71 =>
      some (S70, v71))))
  else (
    bd (X10_found S21 k0 (-1 : Int32)) fun S72 v73 =>
    some (S72, v73))
/-- ScreeCourt$Queue.add(I)I -/
def X5_add (S : St) (k0 : Nat) (v1 : Int32) : Option (St × Int32) :=
  ck (S.1 k0 1) 200 (lt (setI S (rf k0 0) (ix (S.1 k0 1)) v1) fun S22 =>
  lt (setI S22 k0 1 ((S22.1 k0 1) + (1 : Int32))) fun S23 =>
  some (S23, S23.1 k0 1))
/-- ScreeCourt.tell(I)I -/
def X10_tell (S : St) (k0 : Nat) (v1 : Int32) : Option (St × Int32) :=
  if (S.1 (rf k0 11) 1) < (200 : Int32) then (
    bd (X5_add S (rf k0 11) v1) fun S23 v24 =>
    some (S23, v24))
  else (
    bd (X10_found S k0 (-5 : Int32)) fun S25 v26 =>
    some (S25, v26))
/-- ScreeCourt.grainsAfterCounts(I)J -/
def X10_grainsAfterCounts_36 (k0 : Nat) (v1 : Int32) (K : St → Int64 → Int32 → Option (St × Int64)) : Nat → St → Int64 → Int32 → Option (St × Int64)
  | 0, _, _, _ => none
  | n + 1, S, v2, v4 =>
    if (S.1 (rf k0 0) 3) ≤ v4 then (
      K S v2 v4)
    else (
      ck v4 200 (
      ck v4 12 (
      ck v1 15 (
      lt (v2 + ((Int32.toInt64 (S.1 (rf (rf k0 11) 0) (ix v4))) * (Int32.toInt64 (S.1 (rf (rf (rf k0 0) 1) (ix v4)) (ix v1))))) fun v35 =>
      lt (v4 + (1 : Int32)) fun v36 =>
      X10_grainsAfterCounts_36 k0 v1 K n S v35 v36))))
def X10_grainsAfterCounts (S : St) (k0 : Nat) (v1 : Int32) : Option (St × Int64) :=
  ck v1 12 (
  ck v1 200 (
  ck v1 12 (
  lt ((Int32.toInt64 (S.1 (rf (rf k0 1) 1) (ix v1))) - ((Int32.toInt64 (S.1 (rf (rf k0 11) 0) (ix v1))) * (Int32.toInt64 (S.1 (rf (rf k0 0) 2) (ix v1))))) fun v27 =>
  X10_grainsAfterCounts_36 k0 v1 (fun (S37 : St) (v38 : Int64) (v39 : Int32) =>
    some (S37, v38)) FU S v27 (0 : Int32))))
/-- ScreeCourt.weighCounts()I -/
def X10_weighCounts_22 (k0 : Nat) (K : St → Int32 → Option (St × Int32)) : Nat → St → Int32 → Option (St × Int32)
  | 0, _, _ => none
  | n + 1, S, v1 =>
    if (S.1 (rf k0 11) 1) ≤ v1 then (
      K S v1)
    else (
      ck v1 200 (
      lt (fun (S27 : St)  =>
        some (S27, (-13 : Int32))) fun (j26 : St → Option (St × Int32)) =>
      if (S.1 (rf (rf k0 11) 0) (ix v1)) < 0 then (
        j26 S)
      else (
        ck v1 200 (
        if (S.1 (rf (rf k0 11) 0) (ix v1)) ≤ (1000000 : Int32) then (
          lt (v1 + (1 : Int32)) fun v30 =>
          X10_weighCounts_22 k0 K n S v30)
        else (
          j26 S)))))
def X10_weighCounts_71 (k0 : Nat) (K : St → Int32 → Option (St × Int32)) : Nat → St → Int32 → Option (St × Int32)
  | 0, _, _ => none
  | n + 1, S, v1 =>
    if (S.1 (rf k0 0) 3) ≤ v1 then (
      K S v1)
    else (
      bd (X10_grainsAfterCounts S k0 v1) fun S34 v35 =>
      ck v1 12 (
      if v35 < (Int32.toInt64 (S34.1 (rf (rf k0 0) 2) (ix v1))) then (
        lt (v1 + (1 : Int32)) fun v38 =>
        X10_weighCounts_71 k0 K n S34 v38)
      else (
        some (S34, (0 : Int32)))))
def X10_weighCounts (S : St) (k0 : Nat) : Option (St × Int32) :=
  if (S.1 (rf k0 11) 1) = (S.1 (rf k0 0) 3) then (
    X10_weighCounts_22 k0 (fun (S31 : St) (v32 : Int32) =>
      X10_weighCounts_71 k0 (fun (S39 : St) (v40 : Int32) =>
        some (S39, (1 : Int32))) FU S31 (0 : Int32)) FU S (0 : Int32))
  else (
    some (S, (-3 : Int32)))
/-- ScreeCourt.enough()I -/
def X10_enough (S : St) (k0 : Nat) : Option (St × Int32) :=
  lt (fun (S22 : St) (v23 : Int32) =>
    bd (X5_clear S22 (rf k0 11)) fun S25 _ =>
    if 0 ≤ v23 then (
      some (S25, v23))
    else (
      bd (X10_found S25 k0 v23) fun S26 v27 =>
      some (S26, v27))) fun (j21 : St → Int32 → Option (St × Int32)) =>
  if (S.1 k0 13) = 0 then (
    j21 S (-8 : Int32))
  else (
    bd (X10_weighCounts S k0) fun S28 v29 =>
    j21 S28 v29)
/-- ScreeCourt.followPairs()I -/
def X10_followPairs_16 (k0 : Nat) (K : St → Int32 → Option (St × Int32)) : Nat → St → Int32 → Option (St × Int32)
  | 0, _, _ => none
  | n + 1, S, v1 =>
    if (S.1 (rf k0 11) 1) ≤ v1 then (
      K S v1)
    else (
      gu (¬ (2 : Int32) = 0) (
      lt ((v1 / (2 : Int32)) + (1 : Int32)) fun v26 =>
      if (v1 + (1 : Int32)) < (S.1 (rf k0 11) 1) then (
        ck v1 200 (
        lt (S.1 (rf (rf k0 11) 0) (ix v1)) fun v30 =>
        bd (X7_has S (rf k0 0) v30) fun S32 v33 =>
        lt (fun (S35 : St)  =>
          some (S35, v26)) fun (j34 : St → Option (St × Int32)) =>
        if v33 = 0 then (
          j34 S32)
        else (
          bd (X2_isDue S32 (rf k0 2) v30) fun S37 v38 =>
          if ¬ v38 = 0 then (
            ck v30 12 (
            ck (v1 + (1 : Int32)) 200 (
            if (S37.1 (rf (rf k0 2) 1) (ix v30)) = (S37.1 (rf (rf k0 11) 0) (ix (v1 + (1 : Int32)))) then (
              bd (X2_wouldOverfill S37 (rf k0 2) v30) fun S44 v45 =>
              if v45 = 0 then (
                bd (X2_letSlide S44 (rf k0 2) v30) fun S47 v48 =>
                lt (v1 + (2 : Int32)) fun v49 =>
                X10_followPairs_16 k0 K n S47 v49)
              else (
                some (S44, (-5 : Int32))))
            else (
              some (S37, v26)))))
          else (
            j34 S37))))
      else (
        some (S, v26))))
def X10_followPairs (S : St) (k0 : Nat) : Option (St × Int32) :=
  bd (X2_takeGrains S (rf k0 2) (rf (rf k0 1) 1)) fun S24 _ =>
  X10_followPairs_16 k0 (fun (S50 : St) (v51 : Int32) =>
    bd (X2_stands S50 (rf k0 2)) fun S53 v54 =>
    if v54 = 0 then (
      some (S53, (1000 : Int32)))
    else (
      some (S53, (0 : Int32)))) FU S24 (0 : Int32)
/-- ScreeCourt.check()I -/
def X10_check (S : St) (k0 : Nat) : Option (St × Int32) :=
  lt (fun (S22 : St) (v23 : Int32) =>
    bd (X5_clear S22 (rf k0 11)) fun S25 _ =>
    if 0 ≤ v23 then (
      some (S25, v23))
    else (
      bd (X10_found S25 k0 v23) fun S26 v27 =>
      some (S26, v27))) fun (j21 : St → Int32 → Option (St × Int32)) =>
  if (S.1 k0 13) = 0 then (
    j21 S (-8 : Int32))
  else (
    bd (X10_followPairs S k0) fun S28 v29 =>
    j21 S28 v29)
/-- ScreeCourt$Moment.giveTo(LScreeCourt$Heap;LScreeCourt$Chooser;)V -/
def X4_giveTo (S : St) (k0 : Nat) (k1 : Nat) (k2 : Nat) : Option (St × Unit) :=
  gu (cpOk (0 : Int32) (0 : Int32) (12 : Int32) 12 12) (lt (setR S (rf k1 1) (va_cpy (S.1 (rf k0 0)) (S.1 (rf k1 1)) (ix (0 : Int32)) (ix (0 : Int32)) (ix (12 : Int32)))) fun S23 =>
  gu (cpOk (0 : Int32) (0 : Int32) (3 : Int32) 3 3) (lt (setL S23 (rf k1 2) (va_cpy (S23.2 (rf k0 1)) (S23.2 (rf k1 2)) (ix (0 : Int32)) (ix (0 : Int32)) (ix (3 : Int32)))) fun S26 =>
  gu (cpOk (0 : Int32) (0 : Int32) (12 : Int32) 12 12) (lt (setL S26 (rf k1 3) (va_cpy (S26.2 (rf k0 2)) (S26.2 (rf k1 3)) (ix (0 : Int32)) (ix (0 : Int32)) (ix (12 : Int32)))) fun S29 =>
  gu (cpOk (0 : Int32) (0 : Int32) (12 : Int32) 12 12) (lt (setR S29 (rf k2 3) (va_cpy (S29.1 (rf k0 3)) (S29.1 (rf k2 3)) (ix (0 : Int32)) (ix (0 : Int32)) (ix (12 : Int32)))) fun S32 =>
  lt (setI S32 k2 4 (S32.1 k0 4)) fun S33 =>
  lt (setJ S33 k2 6 (S33.2 k0 5)) fun S34 =>
  some (S34, ())))))
/-- ScreeCourt$History.goBack(LScreeCourt$Heap;LScreeCourt$Chooser;)V -/
def X3_goBack (S : St) (k0 : Nat) (k1 : Nat) (k2 : Nat) : Option (St × Unit) :=
  if (S.1 k0 2) ≤ 0 then (
    some (S, ()))
  else (
    gu (¬ (20 : Int32) = 0) (
    lt (setI S k0 1 (irem (((S.1 k0 1) + (20 : Int32)) - (1 : Int32)) (20 : Int32))) fun S21 =>
    lt (setI S21 k0 2 ((S21.1 k0 2) - (1 : Int32))) fun S22 =>
    ck (S22.1 k0 1) 20 (
    bd (X4_giveTo S22 (rf (rf k0 0) (ix (S22.1 k0 1))) k1 k2) fun S26 _ =>
    some (S26, ()))))
/-- ScreeCourt.undo()I -/
def X10_undo (S : St) (k0 : Nat) : Option (St × Int32) :=
  if ¬ (S.1 (rf k0 4) 2) = 0 then (
    bd (X3_goBack S (rf k0 4) (rf k0 1) (rf k0 3)) fun S25 _ =>
    some (S25, S25.1 (rf k0 4) 2))
  else (
    bd (X10_found S k0 (-11 : Int32)) fun S27 v28 =>
    some (S27, v28))
/-- ScreeCourt.told(I)I -/
def X10_told (S : St) (k0 : Nat) (v1 : Int32) : Option (St × Int32) :=
  if v1 = (0 : Int32) then (
  some (S, S.1 k0 14)) else if v1 = (1 : Int32) then (
  some (S, S.1 (rf k0 0) 3)) else if v1 = (2 : Int32) then (
  if (S.1 k0 13) = 0 then (
    some (S, (0 : Int32)))
  else (
    some (S, (1 : Int32)))) else if v1 = (3 : Int32) then (
  lt (fun (S26 : St)  =>
    some (S26, (0 : Int32))) fun (j25 : St → Option (St × Int32)) =>
  if (S.1 k0 13) = 0 then (
    j25 S)
  else (
    bd (X2_stands S (rf k0 1)) fun S28 v29 =>
    if v29 = 0 then (
      j25 S28)
    else (
      some (S28, (1 : Int32))))) else if v1 = (4 : Int32) then (
  bd (X2_sum S (rf k0 1)) fun S32 v33 =>
  some (S32, v33)) else if v1 = (5 : Int32) then (
  some (S, S.1 (rf k0 11) 1)) else if v1 = (6 : Int32) then (
  some (S, Int64.toInt32 (S.2 (rf k0 3) 6))) else if v1 = (7 : Int32) then (
  some (S, S.1 (rf k0 6) 3)) else if v1 = (8 : Int32) then (
  some (S, S.1 k0 15)) else (
  bd (X10_found S k0 (-1 : Int32)) fun S42 v43 =>
  some (S42, v43))
/-- ScreeCourtModel.in(III)Z -/
def X11_in (S : St) (v0 : Int32) (v1 : Int32) (v2 : Int32) : Option (St × Int32) :=
  lt (fun (S22 : St)  =>
    some (S22, (0 : Int32))) fun (j21 : St → Option (St × Int32)) =>
  if v0 < v1 then (
    j21 S)
  else (
    if v2 < v0 then (
      j21 S)
    else (
      some (S, (1 : Int32))))
/-- ScreeCourtModel.found(I)I -/
def X11_found (S : St) (k0 : Nat) (v1 : Int32) : Option (St × Int32) :=
  lt (setI S k0 24 ((S.1 k0 24) + (1 : Int32))) fun S21 =>
  some (S21, v1)
/-- ScreeCourtModel.isPlace(I)Z -/
def X11_isPlace (S : St) (k0 : Nat) (v1 : Int32) : Option (St × Int32) :=
  bd (X11_in S v1 (0 : Int32) ((S.1 k0 0) - (1 : Int32))) fun S21 v22 =>
  gu (v22 = 0 ∨ v22 = 1) (some (S21, v22))
/-- ScreeCourtModel.weightOf(II)I -/
def X11_weightOf (S : St) (k0 : Nat) (v1 : Int32) (v2 : Int32) : Option (St × Int32) :=
  ck (((15 : Int32) * v1) + v2) 180 (
  some (S, S.1 (rf k0 2) (ix (((15 : Int32) * v1) + v2))))
/-- ScreeCourtModel.load(I)I -/
def X11_load_4 (k0 : Nat) (v1 : Int32) (K : St → Int32 → Int32 → Option (St × Int32)) : Nat → St → Int32 → Int32 → Option (St × Int32)
  | 0, _, _, _ => none
  | n + 1, S, v2, v3 =>
    if (15 : Int32) ≤ v3 then (
      K S v2 v3)
    else (
      bd (X11_weightOf S k0 v1 v3) fun S21 v22 =>
      lt (v2 + v22) fun v23 =>
      lt (v3 + (1 : Int32)) fun v24 =>
      X11_load_4 k0 v1 K n S21 v23 v24)
def X11_load (S : St) (k0 : Nat) (v1 : Int32) : Option (St × Int32) :=
  X11_load_4 k0 v1 (fun (S25 : St) (v26 : Int32) (v27 : Int32) =>
    some (S25, v26)) FU S (0 : Int32) (0 : Int32)
/-- ScreeCourtModel.isShelf(I)Z -/
def X11_isShelf (S : St) (k0 : Nat) (v1 : Int32) : Option (St × Int32) :=
  ck v1 12 (
  lt (fun (S23 : St)  =>
    some (S23, (0 : Int32))) fun (j22 : St → Option (St × Int32)) =>
  if (S.1 (rf k0 1) (ix v1)) ≤ 0 then (
    j22 S)
  else (
    ck v1 12 (
    if (4 : Int32) ≤ (S.1 (rf k0 1) (ix v1)) then (
      j22 S)
    else (
      some (S, (1 : Int32))))))
/-- ScreeCourtModel.isDue(JI)Z -/
def X11_isDue (S : St) (v0 : Int64) (v2 : Int32) : Option (St × Int32) :=
  lt (fun (S22 : St)  =>
    some (S22, (0 : Int32))) fun (j21 : St → Option (St × Int32)) =>
  if v2 ≤ 0 then (
    j21 S)
  else (
    if v0 < (Int32.toInt64 v2) then (
      j21 S)
    else (
      some (S, (1 : Int32))))
/-- ScreeCourtModel.dueMany()I -/
def X11_dueMany_4 (k0 : Nat) (K : St → Int32 → Int32 → Option (St × Int32)) : Nat → St → Int32 → Int32 → Option (St × Int32)
  | 0, _, _, _ => none
  | n + 1, S, v1, v2 =>
    if (S.1 k0 0) ≤ v2 then (
      K S v1 v2)
    else (
      ck v2 15 (
      bd (X11_load S k0 v2) fun S22 v23 =>
      bd (X11_isDue S22 (S.2 (rf k0 4) (ix v2)) v23) fun S24 v25 =>
      lt (fun (S27 : St) (v28 : Int32) =>
        lt (v1 + v28) fun v29 =>
        lt (v2 + (1 : Int32)) fun v30 =>
        X11_dueMany_4 k0 K n S27 v29 v30) fun (j26 : St → Int32 → Option (St × Int32)) =>
      if v25 = 0 then (
        j26 S24 (0 : Int32))
      else (
        j26 S24 (1 : Int32))))
def X11_dueMany (S : St) (k0 : Nat) : Option (St × Int32) :=
  X11_dueMany_4 k0 (fun (S31 : St) (v32 : Int32) (v33 : Int32) =>
    some (S31, v32)) FU S (0 : Int32) (0 : Int32)
/-- ScreeCourtModel.place(I)I -/
def X11_place (S : St) (k0 : Nat) (v1 : Int32) : Option (St × Int32) :=
  if (S.1 k0 3) = 0 then (
    bd (X11_in S v1 (0 : Int32) (4 : Int32)) fun S21 v22 =>
    if ¬ v22 = 0 then (
      if ¬ (S21.1 k0 0) = (12 : Int32) then (
        ck (S21.1 k0 0) 12 (lt (setI S21 (rf k0 1) (ix (S21.1 k0 0)) v1) fun S24 =>
        lt (setI S24 k0 0 ((S24.1 k0 0) + (1 : Int32))) fun S25 =>
        some (S25, (S25.1 k0 0) - (1 : Int32))))
      else (
        bd (X11_found S21 k0 (-5 : Int32)) fun S26 v27 =>
        some (S26, v27)))
    else (
      bd (X11_found S21 k0 (-1 : Int32)) fun S28 v29 =>
      some (S28, v29)))
  else (
    bd (X11_found S k0 (-6 : Int32)) fun S30 v31 =>
    some (S30, v31))
/-- ScreeCourtModel.way(III)I -/
def X11_way (S : St) (k0 : Nat) (v1 : Int32) (v2 : Int32) (v3 : Int32) : Option (St × Int32) :=
  if (S.1 k0 3) = 0 then (
    bd (X11_in S v2 (-3 : Int32) (-1 : Int32)) fun S21 v22 =>
    bd (X11_isPlace S21 k0 v1) fun S23 v24 =>
    lt (fun (S26 : St)  =>
      bd (X11_found S26 k0 (-1 : Int32)) fun S27 v28 =>
      some (S27, v28)) fun (j25 : St → Option (St × Int32)) =>
    if v24 = 0 then (
      j25 S23)
    else (
      lt (fun (S30 : St)  =>
        if v2 = v1 then (
          j25 S30)
        else (
          bd (X11_in S30 v3 (1 : Int32) (9 : Int32)) fun S31 v32 =>
          if ¬ v32 = 0 then (
            ck v1 12 (
            lt (fun (S35 : St) (v36 : Int32) =>
              lt (fun (S38 : St)  =>
                bd (X11_found S38 k0 (-4 : Int32)) fun S39 v40 =>
                some (S39, v40)) fun (j37 : St → Option (St × Int32)) =>
              lt (fun (S42 : St)  =>
                lt (fun (S44 : St)  =>
                  lt (fun (S47 : St) (v48 : Int32) =>
                    ck (((15 : Int32) * v1) + v48) 180 (
                    ck (((15 : Int32) * v1) + v48) 180 (lt (setI S47 (rf k0 2) (ix (((15 : Int32) * v1) + v48)) ((S47.1 (rf k0 2) (ix (((15 : Int32) * v1) + v48))) + v3)) fun S49 =>
                    bd (X11_load S49 k0 v1) fun S50 v51 =>
                    some (S50, v51)))) fun (j46 : St → Int32 → Option (St × Int32)) =>
                  if v22 = 0 then (
                    j46 S44 v2)
                  else (
                    j46 S44 ((11 : Int32) - v2))) fun (j43 : St → Option (St × Int32)) =>
                if v22 = 0 then (
                  j43 S42)
                else (
                  ck v1 12 (
                  if (S42.1 (rf k0 1) (ix v1)) = (3 : Int32) then (
                    j43 S42)
                  else (
                    j37 S42)))) fun (j41 : St → Option (St × Int32)) =>
              if v3 = (1 : Int32) then (
                j41 S35)
              else (
                if v36 = 0 then (
                  j37 S35)
                else (
                  j41 S35))) fun (j34 : St → Int32 → Option (St × Int32)) =>
            lt (fun (S54 : St)  =>
              j34 S54 (1 : Int32)) fun (j53 : St → Option (St × Int32)) =>
            if (S31.1 (rf k0 1) (ix v1)) = (2 : Int32) then (
              j53 S31)
            else (
              ck v1 12 (
              if ¬ (S31.1 (rf k0 1) (ix v1)) = (3 : Int32) then (
                j34 S31 (0 : Int32))
              else (
                j53 S31)))))
          else (
            j25 S31))) fun (j29 : St → Option (St × Int32)) =>
      if ¬ v22 = 0 then (
        j29 S23)
      else (
        bd (X11_isPlace S23 k0 v2) fun S56 v57 =>
        if v57 = 0 then (
          j25 S56)
        else (
          j29 S56))))
  else (
    bd (X11_found S k0 (-6 : Int32)) fun S58 v59 =>
    some (S58, v59))
/-- ScreeCourtModel.begin()I -/
def X11_begin_66 (k0 : Nat) (v1 : Int32) (v2 : Int32) (v3 : Int32) (K : St → Int32 → Int32 → Option (St × Int32)) : Nat → St → Int32 → Int32 → Option (St × Int32)
  | 0, _, _, _ => none
  | n + 1, S, v4, v5 =>
    if (15 : Int32) ≤ v5 then (
      K S v4 v5)
    else (
      lt (fun (S27 : St) (v28 : Int32) =>
        lt (v5 + (1 : Int32)) fun v29 =>
        X11_begin_66 k0 v1 v2 v3 K n S27 v28 v29) fun (j26 : St → Int32 → Option (St × Int32)) =>
      lt (fun (S31 : St)  =>
        j26 S31 (1 : Int32)) fun (j30 : St → Option (St × Int32)) =>
      if ¬ v4 = 0 then (
        j30 S)
      else (
        bd (X11_weightOf S k0 v3 v5) fun S32 v33 =>
        lt (fun (S35 : St)  =>
          j26 S35 (0 : Int32)) fun (j34 : St → Option (St × Int32)) =>
        if v33 ≤ 0 then (
          j34 S32)
        else (
          if (11 : Int32) < v5 then (
            j30 S32)
          else (
            if ¬ ((v1 >>> (v5 &&& 31)) &&& (1 : Int32)) = (1 : Int32) then (
              j34 S32)
            else (
              j30 S32)))))
def X11_begin_40 (k0 : Nat) (K : St → Int32 → Int32 → Int32 → Option (St × Int32)) : Nat → St → Int32 → Int32 → Int32 → Option (St × Int32)
  | 0, _, _, _, _ => none
  | n + 1, S, v1, v2, v3 =>
    if (S.1 k0 0) ≤ v3 then (
      K S v1 v2 v3)
    else (
      lt (fun (S22 : St) (v23 : Int32) (v24 : Int32) =>
        lt (v3 + (1 : Int32)) fun v25 =>
        X11_begin_40 k0 K n S22 v23 v24 v25) fun (j21 : St → Int32 → Int32 → Option (St × Int32)) =>
      if ¬ ((v1 >>> (v3 &&& 31)) &&& (1 : Int32)) = (1 : Int32) then (
        X11_begin_66 k0 v1 v2 v3 (fun (S36 : St) (v37 : Int32) (v38 : Int32) =>
          if ¬ v37 = 0 then (
            lt (v1 ||| ((1 : Int32) <<< (v3 &&& 31))) fun v39 =>
            j21 S36 v39 (1 : Int32))
          else (
            j21 S36 v1 v2)) FU S (0 : Int32) (0 : Int32))
      else (
        j21 S v1 v2))
def X11_begin_32 (k0 : Nat) (K : St → Int32 → Int32 → Option (St × Int32)) : Nat → St → Int32 → Int32 → Option (St × Int32)
  | 0, _, _, _ => none
  | n + 1, S, v1, v2 =>
    if v2 = 0 then (
      K S v1 v2)
    else (
      X11_begin_40 k0 (fun (S40 : St) (v41 : Int32) (v42 : Int32) (v43 : Int32) =>
        X11_begin_32 k0 K n S40 v41 v42) FU S v1 (0 : Int32) (0 : Int32))
def X11_begin (S : St) (k0 : Nat) : Option (St × Int32) :=
  if (S.1 k0 3) = 0 then (
    if ¬ (S.1 k0 0) = 0 then (
      X11_begin_32 k0 (fun (S44 : St) (v45 : Int32) (v46 : Int32) =>
        lt ((((1 : Int32) <<< ((S44.1 k0 0) &&& 31)) - (1 : Int32)) - v45) fun v47 =>
        if v47 = 0 then (
          lt (setI S44 k0 3 (1 : Int32)) fun S48 =>
          some (S48, S48.1 k0 0))
        else (
          lt (setI S44 k0 7 v47) fun S49 =>
          bd (X11_found S49 k0 (-7 : Int32)) fun S50 v51 =>
          some (S50, v51))) FU S (0 : Int32) (1 : Int32))
    else (
      bd (X11_found S k0 (-11 : Int32)) fun S52 v53 =>
      some (S52, v53)))
  else (
    bd (X11_found S k0 (-6 : Int32)) fun S54 v55 =>
    some (S54, v55))
/-- ScreeCourtModel.anew()I -/
def X11_anew_7 (k0 : Nat) (K : St → Int32 → Option (St × Int32)) : Nat → St → Int32 → Option (St × Int32)
  | 0, _, _ => none
  | n + 1, S, v1 =>
    if (180 : Int32) ≤ v1 then (
      K S v1)
    else (
      ck v1 180 (lt (setI S (rf k0 2) (ix v1) (0 : Int32)) fun S23 =>
      lt (v1 + (1 : Int32)) fun v24 =>
      X11_anew_7 k0 K n S23 v24))
def X11_anew_29 (k0 : Nat) (K : St → Int32 → Option (St × Int32)) : Nat → St → Int32 → Option (St × Int32)
  | 0, _, _ => none
  | n + 1, S, v1 =>
    if (15 : Int32) ≤ v1 then (
      K S v1)
    else (
      ck v1 15 (lt (setJ S (rf k0 4) (ix v1) (0 : Int64)) fun S28 =>
      lt (v1 + (1 : Int32)) fun v29 =>
      X11_anew_29 k0 K n S28 v29))
def X11_anew_50 (k0 : Nat) (K : St → Int32 → Option (St × Int32)) : Nat → St → Int32 → Option (St × Int32)
  | 0, _, _ => none
  | n + 1, S, v1 =>
    if (12 : Int32) ≤ v1 then (
      K S v1)
    else (
      ck v1 12 (lt (setJ S (rf k0 5) (ix v1) (0 : Int64)) fun S33 =>
      lt (v1 + (1 : Int32)) fun v34 =>
      X11_anew_50 k0 K n S33 v34))
def X11_anew_111 (k0 : Nat) (K : St → Int32 → Option (St × Int32)) : Nat → St → Int32 → Option (St × Int32)
  | 0, _, _ => none
  | n + 1, S, v1 =>
    if (8 : Int32) ≤ v1 then (
      K S v1)
    else (
      ck v1 8 (lt (setI S (rf k0 16) (ix v1) (0 : Int32)) fun S46 =>
      lt (v1 + (1 : Int32)) fun v47 =>
      X11_anew_111 k0 K n S46 v47))
def X11_anew (S : St) (k0 : Nat) : Option (St × Int32) :=
  lt (setI S k0 0 (0 : Int32)) fun S21 =>
  X11_anew_7 k0 (fun (S25 : St) (v26 : Int32) =>
    X11_anew_29 k0 (fun (S30 : St) (v31 : Int32) =>
      X11_anew_50 k0 (fun (S35 : St) (v36 : Int32) =>
        lt (setI S35 k0 3 (0 : Int32)) fun S37 =>
        lt (setI S37 k0 6 (0 : Int32)) fun S38 =>
        lt (setJ S38 k0 8 (1 : Int64)) fun S39 =>
        lt (setI S39 k0 7 (0 : Int32)) fun S40 =>
        lt (setI S40 k0 11 (0 : Int32)) fun S41 =>
        lt (setI S41 k0 13 (0 : Int32)) fun S42 =>
        lt (setI S42 k0 14 (0 : Int32)) fun S43 =>
        lt (setI S43 k0 18 (0 : Int32)) fun S44 =>
        X11_anew_111 k0 (fun (S48 : St) (v49 : Int32) =>
          lt (setI S48 k0 30 (0 : Int32)) fun S50 =>
          some (S50, (0 : Int32))) FU S44 (0 : Int32)) FU S30 (0 : Int32)) FU S25 (0 : Int32)) FU S21 (0 : Int32)
/-- ScreeCourtModel.as(II)I -/
def X11_as (S : St) (k0 : Nat) (v1 : Int32) (v2 : Int32) : Option (St × Int32) :=
  bd (X11_isPlace S k0 v1) fun S21 v22 =>
  lt (fun (S24 : St)  =>
    bd (X11_found S24 k0 (-1 : Int32)) fun S25 v26 =>
    some (S25, v26)) fun (j23 : St → Option (St × Int32)) =>
  if v22 = 0 then (
    j23 S21)
  else (
    bd (X11_in S21 v2 (0 : Int32) (4 : Int32)) fun S27 v28 =>
    if ¬ v28 = 0 then (
      ck v1 12 (
      lt (S27.1 (rf k0 1) (ix v1)) fun v30 =>
      lt (fun (S32 : St) (v33 : Int32) =>
        if v33 = 0 then (
          bd (X11_found S32 k0 (-4 : Int32)) fun S34 v35 =>
          some (S34, v35))
        else (
          some (S32, v1))) fun (j31 : St → Int32 → Option (St × Int32)) =>
      lt (fun (S37 : St)  =>
        j31 S37 (1 : Int32)) fun (j36 : St → Option (St × Int32)) =>
      if v2 = 0 then (
        j36 S27)
      else (
        if v2 = v30 then (
          j36 S27)
        else (
          lt (fun (S39 : St)  =>
            j31 S39 (0 : Int32)) fun (j38 : St → Option (St × Int32)) =>
          if v30 ≤ v2 then (
            j38 S27)
          else (
            if (4 : Int32) ≤ v30 then (
              j38 S27)
            else (
              j36 S27))))))
    else (
      j23 S27))
/-- ScreeCourtModel.weight(II)I -/
def X11_weight (S : St) (k0 : Nat) (v1 : Int32) (v2 : Int32) : Option (St × Int32) :=
  bd (X11_isPlace S k0 v1) fun S21 v22 =>
  lt (fun (S24 : St)  =>
    bd (X11_found S24 k0 (-1 : Int32)) fun S25 v26 =>
    some (S25, v26)) fun (j23 : St → Option (St × Int32)) =>
  if v22 = 0 then (
    j23 S21)
  else (
    bd (X11_isPlace S21 k0 v2) fun S27 v28 =>
    lt (fun (S30 : St)  =>
      lt (fun (S32 : St) (v33 : Int32) =>
        bd (X11_weightOf S32 k0 v1 v33) fun S34 v35 =>
        some (S34, v35)) fun (j31 : St → Int32 → Option (St × Int32)) =>
      if 0 ≤ v2 then (
        j31 S30 v2)
      else (
        j31 S30 ((11 : Int32) - v2))) fun (j29 : St → Option (St × Int32)) =>
    if ¬ v28 = 0 then (
      j29 S27)
    else (
      bd (X11_in S27 v2 (-3 : Int32) (-1 : Int32)) fun S36 v37 =>
      if ¬ v37 = 0 then (
        j29 S36)
      else (
        j23 S36)))
/-- ScreeCourtModel.store()V -/
def X11_store_163 (k0 : Nat) (K : St → Int32 → Option (St × Unit)) : Nat → St → Int32 → Option (St × Unit)
  | 0, _, _ => none
  | n + 1, S, v1 =>
    if (15 : Int32) ≤ v1 then (
      K S v1)
    else (
      ck v1 15 (
      ck (((15 : Int32) * (S.1 k0 30)) + v1) 300 (lt (setJ S (rf k0 25) (ix (((15 : Int32) * (S.1 k0 30)) + v1)) (S.2 (rf k0 4) (ix v1))) fun S25 =>
      lt (v1 + (1 : Int32)) fun v26 =>
      X11_store_163 k0 K n S25 v26)))
def X11_store_197 (k0 : Nat) (K : St → Int32 → Option (St × Unit)) : Nat → St → Int32 → Option (St × Unit)
  | 0, _, _ => none
  | n + 1, S, v1 =>
    if (12 : Int32) ≤ v1 then (
      K S v1)
    else (
      ck v1 12 (
      ck (((12 : Int32) * (S.1 k0 30)) + v1) 240 (lt (setJ S (rf k0 26) (ix (((12 : Int32) * (S.1 k0 30)) + v1)) (S.2 (rf k0 5) (ix v1))) fun S31 =>
      lt (v1 + (1 : Int32)) fun v32 =>
      X11_store_197 k0 K n S31 v32)))
def X11_store_231 (k0 : Nat) (K : St → Int32 → Option (St × Unit)) : Nat → St → Int32 → Option (St × Unit)
  | 0, _, _ => none
  | n + 1, S, v1 =>
    if (12 : Int32) ≤ v1 then (
      K S v1)
    else (
      ck v1 12 (
      ck (((12 : Int32) * (S.1 k0 30)) + v1) 240 (lt (setI S (rf k0 28) (ix (((12 : Int32) * (S.1 k0 30)) + v1)) (S.1 (rf k0 10) (ix v1))) fun S37 =>
      lt (v1 + (1 : Int32)) fun v38 =>
      X11_store_231 k0 K n S37 v38)))
def X11_store_11 (k0 : Nat) (K : St → Int32 → Option (St × Unit)) : Nat → St → Int32 → Option (St × Unit)
  | 0, _, _ => none
  | n + 1, S, v1 =>
    if (285 : Int32) ≤ v1 then (
      K S v1)
    else (
      ck (v1 + (15 : Int32)) 300 (
      ck v1 300 (lt (setJ S (rf k0 25) (ix v1) (S.2 (rf k0 25) (ix (v1 + (15 : Int32))))) fun S48 =>
      lt (v1 + (1 : Int32)) fun v49 =>
      X11_store_11 k0 K n S48 v49)))
def X11_store_41 (k0 : Nat) (K : St → Int32 → Option (St × Unit)) : Nat → St → Int32 → Option (St × Unit)
  | 0, _, _ => none
  | n + 1, S, v1 =>
    if (228 : Int32) ≤ v1 then (
      K S v1)
    else (
      ck (v1 + (12 : Int32)) 240 (
      ck v1 240 (lt (setJ S (rf k0 26) (ix v1) (S.2 (rf k0 26) (ix (v1 + (12 : Int32))))) fun S54 =>
      lt (v1 + (1 : Int32)) fun v55 =>
      X11_store_41 k0 K n S54 v55)))
def X11_store_71 (k0 : Nat) (K : St → Int32 → Option (St × Unit)) : Nat → St → Int32 → Option (St × Unit)
  | 0, _, _ => none
  | n + 1, S, v1 =>
    if (228 : Int32) ≤ v1 then (
      K S v1)
    else (
      ck (v1 + (12 : Int32)) 240 (
      ck v1 240 (lt (setI S (rf k0 28) (ix v1) (S.1 (rf k0 28) (ix (v1 + (12 : Int32))))) fun S60 =>
      lt (v1 + (1 : Int32)) fun v61 =>
      X11_store_71 k0 K n S60 v61)))
def X11_store_101 (k0 : Nat) (K : St → Int32 → Option (St × Unit)) : Nat → St → Int32 → Option (St × Unit)
  | 0, _, _ => none
  | n + 1, S, v1 =>
    if (19 : Int32) ≤ v1 then (
      K S v1)
    else (
      ck (v1 + (1 : Int32)) 20 (
      ck v1 20 (lt (setJ S (rf k0 27) (ix v1) (S.2 (rf k0 27) (ix (v1 + (1 : Int32))))) fun S66 =>
      lt (v1 + (1 : Int32)) fun v67 =>
      X11_store_101 k0 K n S66 v67)))
def X11_store_129 (k0 : Nat) (K : St → Int32 → Option (St × Unit)) : Nat → St → Int32 → Option (St × Unit)
  | 0, _, _ => none
  | n + 1, S, v1 =>
    if (19 : Int32) ≤ v1 then (
      K S v1)
    else (
      ck (v1 + (1 : Int32)) 20 (
      ck v1 20 (lt (setI S (rf k0 29) (ix v1) (S.1 (rf k0 29) (ix (v1 + (1 : Int32))))) fun S72 =>
      lt (v1 + (1 : Int32)) fun v73 =>
      X11_store_129 k0 K n S72 v73)))
def X11_store (S : St) (k0 : Nat) : Option (St × Unit) :=
  lt (fun (S22 : St)  =>
    X11_store_163 k0 (fun (S27 : St) (v28 : Int32) =>
      X11_store_197 k0 (fun (S33 : St) (v34 : Int32) =>
        X11_store_231 k0 (fun (S39 : St) (v40 : Int32) =>
          ck (S39.1 k0 30) 20 (lt (setJ S39 (rf k0 27) (ix (S39.1 k0 30)) (S39.2 k0 8)) fun S42 =>
          ck (S42.1 k0 30) 20 (lt (setI S42 (rf k0 29) (ix (S42.1 k0 30)) (S42.1 k0 11)) fun S44 =>
          lt (setI S44 k0 30 ((S44.1 k0 30) + (1 : Int32))) fun S45 =>
          some (S45, ())))) FU S33 (0 : Int32)) FU S27 (0 : Int32)) FU S22 (0 : Int32)) fun (j21 : St → Option (St × Unit)) =>
  if ¬ (S.1 k0 30) = (20 : Int32) then (
    j21 S)
  else (
    X11_store_11 k0 (fun (S50 : St) (v51 : Int32) =>
      X11_store_41 k0 (fun (S56 : St) (v57 : Int32) =>
        X11_store_71 k0 (fun (S62 : St) (v63 : Int32) =>
          X11_store_101 k0 (fun (S68 : St) (v69 : Int32) =>
            X11_store_129 k0 (fun (S74 : St) (v75 : Int32) =>
              lt (setI S74 k0 30 (19 : Int32)) fun S76 =>
              j21 S76) FU S68 (0 : Int32)) FU S62 (0 : Int32)) FU S56 (0 : Int32)) FU S50 (0 : Int32)) FU S (0 : Int32))
/-- ScreeCourtModel.undo()I -/
def X11_undo_26 (k0 : Nat) (K : St → Int32 → Option (St × Int32)) : Nat → St → Int32 → Option (St × Int32)
  | 0, _, _ => none
  | n + 1, S, v1 =>
    if (15 : Int32) ≤ v1 then (
      K S v1)
    else (
      ck (((15 : Int32) * (S.1 k0 30)) + v1) 300 (
      ck v1 15 (lt (setJ S (rf k0 4) (ix v1) (S.2 (rf k0 25) (ix (((15 : Int32) * (S.1 k0 30)) + v1)))) fun S24 =>
      lt (v1 + (1 : Int32)) fun v25 =>
      X11_undo_26 k0 K n S24 v25)))
def X11_undo_60 (k0 : Nat) (K : St → Int32 → Option (St × Int32)) : Nat → St → Int32 → Option (St × Int32)
  | 0, _, _ => none
  | n + 1, S, v1 =>
    if (12 : Int32) ≤ v1 then (
      K S v1)
    else (
      ck (((12 : Int32) * (S.1 k0 30)) + v1) 240 (
      ck v1 12 (lt (setJ S (rf k0 5) (ix v1) (S.2 (rf k0 26) (ix (((12 : Int32) * (S.1 k0 30)) + v1)))) fun S30 =>
      lt (v1 + (1 : Int32)) fun v31 =>
      X11_undo_60 k0 K n S30 v31)))
def X11_undo_94 (k0 : Nat) (K : St → Int32 → Option (St × Int32)) : Nat → St → Int32 → Option (St × Int32)
  | 0, _, _ => none
  | n + 1, S, v1 =>
    if (12 : Int32) ≤ v1 then (
      K S v1)
    else (
      ck (((12 : Int32) * (S.1 k0 30)) + v1) 240 (
      ck v1 12 (lt (setI S (rf k0 10) (ix v1) (S.1 (rf k0 28) (ix (((12 : Int32) * (S.1 k0 30)) + v1)))) fun S36 =>
      lt (v1 + (1 : Int32)) fun v37 =>
      X11_undo_94 k0 K n S36 v37)))
def X11_undo (S : St) (k0 : Nat) : Option (St × Int32) :=
  if ¬ (S.1 k0 30) = 0 then (
    lt (setI S k0 30 ((S.1 k0 30) - (1 : Int32))) fun S21 =>
    X11_undo_26 k0 (fun (S26 : St) (v27 : Int32) =>
      X11_undo_60 k0 (fun (S32 : St) (v33 : Int32) =>
        X11_undo_94 k0 (fun (S38 : St) (v39 : Int32) =>
          ck (S38.1 k0 30) 20 (
          lt (setJ S38 k0 8 (S38.2 (rf k0 27) (ix (S38.1 k0 30)))) fun S41 =>
          ck (S41.1 k0 30) 20 (
          lt (setI S41 k0 11 (S41.1 (rf k0 29) (ix (S41.1 k0 30)))) fun S43 =>
          some (S43, S43.1 k0 30)))) FU S32 (0 : Int32)) FU S26 (0 : Int32)) FU S21 (0 : Int32))
  else (
    bd (X11_found S k0 (-11 : Int32)) fun S44 v45 =>
    some (S44, v45))
/-- ScreeCourtModel.lay(II)I -/
def X11_lay (S : St) (k0 : Nat) (v1 : Int32) (v2 : Int32) : Option (St × Int32) :=
  bd (X11_isPlace S k0 v1) fun S21 v22 =>
  if ¬ v22 = 0 then (
    if ¬ (S21.1 k0 3) = 0 then (
      ck v1 15 (
      lt ((S21.2 (rf k0 4) (ix v1)) + (Int32.toInt64 v2)) fun v24 =>
      if (0 : Int64) ≤ v24 then (
        if v24 ≤ (1000000 : Int64) then (
          bd (X11_store S21 k0) fun S25 _ =>
          ck v1 15 (lt (setJ S25 (rf k0 4) (ix v1) v24) fun S27 =>
          some (S27, Int64.toInt32 v24)))
        else (
          bd (X11_found S21 k0 (-5 : Int32)) fun S28 v29 =>
          some (S28, v29)))
      else (
        bd (X11_found S21 k0 (-13 : Int32)) fun S30 v31 =>
        some (S30, v31))))
    else (
      bd (X11_found S21 k0 (-8 : Int32)) fun S32 v33 =>
      some (S32, v33)))
  else (
    bd (X11_found S21 k0 (-1 : Int32)) fun S34 v35 =>
    some (S34, v35))
/-- ScreeCourtModel.grains(I)J -/
def X11_grains (S : St) (k0 : Nat) (v1 : Int32) : Option (St × Int64) :=
  bd (X11_isPlace S k0 v1) fun S21 v22 =>
  lt (fun (S24 : St)  =>
    lt (fun (S27 : St) (v28 : Int32) =>
      ck v28 15 (
      some (S27, S27.2 (rf k0 4) (ix v28)))) fun (j26 : St → Int32 → Option (St × Int64)) =>
    if 0 ≤ v1 then (
      j26 S24 v1)
    else (
      j26 S24 ((11 : Int32) - v1))) fun (j23 : St → Option (St × Int64)) =>
  if ¬ v22 = 0 then (
    j23 S21)
  else (
    bd (X11_in S21 v1 (-3 : Int32) (-1 : Int32)) fun S29 v30 =>
    if ¬ v30 = 0 then (
      j23 S29)
    else (
      bd (X11_found S29 k0 (-1 : Int32)) fun S31 v32 =>
      some (S31, Int32.toInt64 v32)))
/-- ScreeCourtModel.due()I -/
def X11_due (S : St) (k0 : Nat) : Option (St × Int32) :=
  bd (X11_dueMany S k0) fun S21 v22 =>
  some (S21, v22)
/-- ScreeCourtModel.times([JI)J -/
def X11_times (S : St) (k0 : Nat) (k1 : Nat) (v2 : Int32) : Option (St × Int64) :=
  bd (X11_isShelf S k0 v2) fun S21 v22 =>
  if v22 = 0 then (
    some (S21, (1 : Int64)))
  else (
    ck v2 15 (
    bd (X11_load S21 k0 v2) fun S23 v24 =>
    gu (¬ (Int32.toInt64 v24) = 0) (
    some (S23, (S21.2 k1 (ix v2)) / (Int32.toInt64 v24)))))
/-- ScreeCourtModel.isTooMuch([JI)Z -/
def X11_isTooMuch_10 (k0 : Nat) (k1 : Nat) (v2 : Int32) (v3 : Int64) (K : St → Int32 → Option (St × Int32)) : Nat → St → Int32 → Option (St × Int32)
  | 0, _, _ => none
  | n + 1, S, v5 =>
    if (S.1 k0 0) ≤ v5 then (
      K S v5)
    else (
      ck v5 15 (
      bd (X11_weightOf S k0 v2 v5) fun S23 v24 =>
      lt (fun (S26 : St)  =>
        lt (v5 + (1 : Int32)) fun v27 =>
        X11_isTooMuch_10 k0 k1 v2 v3 K n S26 v27) fun (j25 : St → Option (St × Int32)) =>
      if ((S.2 k1 (ix v5)) + (v3 * (Int32.toInt64 v24))) ≤ (1000000 : Int64) then (
        j25 S23)
      else (
        if v5 = v2 then (
          j25 S23)
        else (
          some (S23, (1 : Int32))))))
def X11_isTooMuch (S : St) (k0 : Nat) (k1 : Nat) (v2 : Int32) : Option (St × Int32) :=
  bd (X11_times S k0 k1 v2) fun S21 v22 =>
  X11_isTooMuch_10 k0 k1 v2 v22 (fun (S28 : St) (v29 : Int32) =>
    some (S28, (0 : Int32))) FU S21 (0 : Int32)
/-- ScreeCourtModel.slides([JI)J -/
def X11_slides_24 (k0 : Nat) (k1 : Nat) (v2 : Int32) (v3 : Int64) (K : St → Int32 → Option (St × Int64)) : Nat → St → Int32 → Option (St × Int64)
  | 0, _, _ => none
  | n + 1, S, v5 =>
    if (15 : Int32) ≤ v5 then (
      K S v5)
    else (
      ck v5 15 (
      bd (X11_weightOf S k0 v2 v5) fun S26 v27 =>
      ck v5 15 (lt (setJ S26 k1 (ix v5) ((S.2 k1 (ix v5)) + (v3 * (Int32.toInt64 v27)))) fun S28 =>
      lt (v5 + (1 : Int32)) fun v29 =>
      X11_slides_24 k0 k1 v2 v3 K n S28 v29)))
def X11_slides (S : St) (k0 : Nat) (k1 : Nat) (v2 : Int32) : Option (St × Int64) :=
  bd (X11_times S k0 k1 v2) fun S21 v22 =>
  ck v2 15 (
  bd (X11_load S21 k0 v2) fun S23 v24 =>
  ck v2 15 (lt (setJ S23 k1 (ix v2) ((S21.2 k1 (ix v2)) - (v22 * (Int32.toInt64 v24)))) fun S25 =>
  X11_slides_24 k0 k1 v2 v22 (fun (S30 : St) (v31 : Int32) =>
    some (S30, v22)) FU S25 (0 : Int32)))
/-- ScreeCourtModel.slide(I)I -/
def X11_slide (S : St) (k0 : Nat) (v1 : Int32) : Option (St × Int32) :=
  bd (X11_isPlace S k0 v1) fun S21 v22 =>
  if ¬ v22 = 0 then (
    ck v1 15 (
    bd (X11_load S21 k0 v1) fun S24 v25 =>
    bd (X11_isDue S24 (S21.2 (rf k0 4) (ix v1)) v25) fun S26 v27 =>
    if ¬ v27 = 0 then (
      bd (X11_isTooMuch S26 k0 (rf k0 4) v1) fun S29 v30 =>
      if v30 = 0 then (
        bd (X11_store S29 k0) fun S31 _ =>
        bd (X11_slides S31 k0 (rf k0 4) v1) fun S33 v34 =>
        ck v1 12 (
        ck v1 12 (lt (setJ S33 (rf k0 5) (ix v1) ((S33.2 (rf k0 5) (ix v1)) + v34)) fun S36 =>
        some (S36, Int64.toInt32 v34))))
      else (
        bd (X11_found S29 k0 (-5 : Int32)) fun S37 v38 =>
        some (S37, v38)))
    else (
      bd (X11_found S26 k0 (-8 : Int32)) fun S39 v40 =>
      some (S39, v40))))
  else (
    bd (X11_found S21 k0 (-1 : Int32)) fun S41 v42 =>
    some (S41, v42))
/-- ScreeCourtModel.manner(II)I -/
def X11_manner_48 (k0 : Nat) (v1 : Int32) (v2 : Int32) (K : St → Int32 → Int32 → Option (St × Int32)) : Nat → St → Int32 → Int32 → Option (St × Int32)
  | 0, _, _, _ => none
  | n + 1, S, v3, v4 =>
    if (S.1 k0 23) ≤ v4 then (
      K S v3 v4)
    else (
      ck v4 200 (
      bd (X11_isPlace S k0 (S.1 (rf k0 22) (ix v4))) fun S41 v42 =>
      lt (fun (S44 : St) (v45 : Int32) =>
        lt (v4 + (1 : Int32)) fun v46 =>
        X11_manner_48 k0 v1 v2 K n S44 v45 v46) fun (j43 : St → Int32 → Option (St × Int32)) =>
      if v42 = 0 then (
        j43 S41 v3)
      else (
        ck v4 200 (
        lt (v3 ||| ((1 : Int32) <<< ((S41.1 (rf k0 22) (ix v4)) &&& 31))) fun v48 =>
        j43 S41 v48))))
def X11_manner_121 (k0 : Nat) (v1 : Int32) (v2 : Int32) (K : St → Int32 → Option (St × Int32)) : Nat → St → Int32 → Option (St × Int32)
  | 0, _, _ => none
  | n + 1, S, v4 =>
    if (S.1 k0 0) ≤ v4 then (
      K S v4)
    else (
      ck v4 200 (
      ck v4 12 (lt (setI S (rf k0 9) (ix v4) (S.1 (rf k0 22) (ix v4))) fun S58 =>
      lt (v4 + (1 : Int32)) fun v59 =>
      X11_manner_121 k0 v1 v2 K n S58 v59)))
def X11_manner (S : St) (k0 : Nat) (v1 : Int32) (v2 : Int32) : Option (St × Int32) :=
  bd (X11_in S v1 (0 : Int32) (4 : Int32)) fun S21 v22 =>
  lt (fun (S24 : St)  =>
    bd (X11_found S24 k0 (-1 : Int32)) fun S25 v26 =>
    some (S25, v26)) fun (j23 : St → Option (St × Int32)) =>
  if v22 = 0 then (
    j23 S21)
  else (
    lt (fun (S28 : St)  =>
      if ¬ (S28.1 k0 3) = 0 then (
        lt (fun (S30 : St)  =>
          lt (S30.1 k0 6) fun v31 =>
          lt (setI S30 k0 6 v1) fun S32 =>
          lt (fun (S34 : St)  =>
            lt (fun (S36 : St)  =>
              lt (setI S36 k0 30 (0 : Int32)) fun S37 =>
              some (S37, v31)) fun (j35 : St → Option (St × Int32)) =>
            if ¬ v1 = (4 : Int32) then (
              j35 S34)
            else (
              lt (setI S34 k0 11 (0 : Int32)) fun S38 =>
              j35 S38)) fun (j33 : St → Option (St × Int32)) =>
          if ¬ v1 = (3 : Int32) then (
            j33 S32)
          else (
            lt (setJ S32 k0 8 (Int32.toInt64 v2)) fun S39 =>
            j33 S39)) fun (j29 : St → Option (St × Int32)) =>
        if ¬ v1 = (2 : Int32) then (
          j29 S28)
        else (
          X11_manner_48 k0 v1 v2 (fun (S49 : St) (v50 : Int32) (v51 : Int32) =>
            lt (fun (S53 : St)  =>
              bd (X11_found S53 k0 (-1 : Int32)) fun S54 v55 =>
              some (S54, v55)) fun (j52 : St → Option (St × Int32)) =>
            if ¬ (S49.1 k0 23) = (S49.1 k0 0) then (
              j52 S49)
            else (
              if v50 = (((1 : Int32) <<< ((S49.1 k0 0) &&& 31)) - (1 : Int32)) then (
                X11_manner_121 k0 v1 v2 (fun (S60 : St) (v61 : Int32) =>
                  lt (setI S60 k0 23 (0 : Int32)) fun S62 =>
                  j29 S62) FU S49 (0 : Int32))
              else (
                j52 S49))) FU S28 (0 : Int32) (0 : Int32)))
      else (
        bd (X11_found S28 k0 (-8 : Int32)) fun S63 v64 =>
        some (S63, v64))) fun (j27 : St → Option (St × Int32)) =>
    if ¬ v1 = (3 : Int32) then (
      j27 S21)
    else (
      if 0 ≤ v2 then (
        j27 S21)
      else (
        j23 S21)))
/-- ScreeCourtModel.isAsked(I)Z -/
def X11_isAsked_2 (k0 : Nat) (v1 : Int32) (K : St → Int32 → Option (St × Int32)) : Nat → St → Int32 → Option (St × Int32)
  | 0, _, _ => none
  | n + 1, S, v2 =>
    if (S.1 k0 11) ≤ v2 then (
      K S v2)
    else (
      ck v2 12 (
      if ¬ (S.1 (rf k0 10) (ix v2)) = v1 then (
        lt (v2 + (1 : Int32)) fun v22 =>
        X11_isAsked_2 k0 v1 K n S v22)
      else (
        some (S, (1 : Int32)))))
def X11_isAsked (S : St) (k0 : Nat) (v1 : Int32) : Option (St × Int32) :=
  X11_isAsked_2 k0 v1 (fun (S23 : St) (v24 : Int32) =>
    some (S23, (0 : Int32))) FU S (0 : Int32)
/-- ScreeCourtModel.next()I -/
def X11_next_43 (k0 : Nat) (K : St → Int32 → Int32 → Option (St × Int32)) : Nat → St → Int32 → Int32 → Option (St × Int32)
  | 0, _, _, _ => none
  | n + 1, S, v1, v2 =>
    if v2 < 0 then (
      K S v1 v2)
    else (
      ck v2 15 (
      bd (X11_load S k0 v2) fun S23 v24 =>
      bd (X11_isDue S23 (S.2 (rf k0 4) (ix v2)) v24) fun S25 v26 =>
      lt (fun (S28 : St) (v29 : Int32) =>
        lt (v2 + (-1 : Int32)) fun v30 =>
        X11_next_43 k0 K n S28 v29 v30) fun (j27 : St → Int32 → Option (St × Int32)) =>
      if v26 = 0 then (
        j27 S25 v1)
      else (
        j27 S25 v2)))
def X11_next_76 (k0 : Nat) (K : St → Int32 → Int32 → Option (St × Int32)) : Nat → St → Int32 → Int32 → Option (St × Int32)
  | 0, _, _, _ => none
  | n + 1, S, v1, v2 =>
    if (S.1 k0 0) ≤ v2 then (
      K S v1 v2)
    else (
      ck v2 15 (
      bd (X11_load S k0 v2) fun S36 v37 =>
      bd (X11_isDue S36 (S.2 (rf k0 4) (ix v2)) v37) fun S38 v39 =>
      lt (fun (S41 : St) (v42 : Int32) =>
        lt (v2 + (1 : Int32)) fun v43 =>
        X11_next_76 k0 K n S41 v42 v43) fun (j40 : St → Int32 → Option (St × Int32)) =>
      if v39 = 0 then (
        j40 S38 v1)
      else (
        lt (fun (S45 : St)  =>
          j40 S45 v2) fun (j44 : St → Option (St × Int32)) =>
        if v1 < 0 then (
          j44 S38)
        else (
          ck v2 15 (
          ck v1 15 (
          if (S38.2 (rf k0 4) (ix v2)) ≤ (S38.2 (rf k0 4) (ix v1)) then (
            j40 S38 v1)
          else (
            j44 S38)))))))
def X11_next_138 (k0 : Nat) (K : St → Int32 → Int32 → Option (St × Int32)) : Nat → St → Int32 → Int32 → Option (St × Int32)
  | 0, _, _, _ => none
  | n + 1, S, v1, v2 =>
    if v2 < 0 then (
      K S v1 v2)
    else (
      ck v2 12 (
      ck (S.1 (rf k0 9) (ix v2)) 15 (
      ck v2 12 (
      bd (X11_load S k0 (S.1 (rf k0 9) (ix v2))) fun S56 v57 =>
      bd (X11_isDue S56 (S.2 (rf k0 4) (ix (S.1 (rf k0 9) (ix v2)))) v57) fun S58 v59 =>
      lt (fun (S61 : St) (v62 : Int32) =>
        lt (v2 + (-1 : Int32)) fun v63 =>
        X11_next_138 k0 K n S61 v62 v63) fun (j60 : St → Int32 → Option (St × Int32)) =>
      if v59 = 0 then (
        j60 S58 v1)
      else (
        ck v2 12 (
        lt (S58.1 (rf k0 9) (ix v2)) fun v65 =>
        j60 S58 v65))))))
def X11_next_222 (k0 : Nat) (v1 : Int32) (K : St → Int32 → Int32 → Option (St × Int32)) : Nat → St → Int32 → Int32 → Option (St × Int32)
  | 0, _, _, _ => none
  | n + 1, S, v2, v3 =>
    if (S.1 k0 0) ≤ v3 then (
      K S v2 v3)
    else (
      ck v3 15 (
      bd (X11_load S k0 v3) fun S75 v76 =>
      bd (X11_isDue S75 (S.2 (rf k0 4) (ix v3)) v76) fun S77 v78 =>
      lt (fun (S80 : St) (v81 : Int32) =>
        lt (v3 + (1 : Int32)) fun v82 =>
        X11_next_222 k0 v1 K n S80 v81 v82) fun (j79 : St → Int32 → Option (St × Int32)) =>
      if ¬ v78 = 0 then (
        if ¬ v2 = 0 then (
          lt (v2 + (-1 : Int32)) fun v83 =>
          j79 S77 v83)
        else (
          some (S77, v3)))
      else (
        j79 S77 v2)))
def X11_next_318 (k0 : Nat) (v1 : Int32) (v2 : Int32) (K : St → Int32 → Option (St × Int32)) : Nat → St → Int32 → Option (St × Int32)
  | 0, _, _ => none
  | n + 1, S, v3 =>
    if (S.1 k0 11) ≤ v3 then (
      K S v3)
    else (
      ck v3 12 (
      ck (v3 - (1 : Int32)) 12 (lt (setI S (rf k0 10) (ix (v3 - (1 : Int32))) (S.1 (rf k0 10) (ix v3))) fun S94 =>
      lt (v3 + (1 : Int32)) fun v95 =>
      X11_next_318 k0 v1 v2 K n S94 v95)))
def X11_next_280 (k0 : Nat) (v1 : Int32) (K : St → Int32 → Option (St × Int32)) : Nat → St → Int32 → Option (St × Int32)
  | 0, _, _ => none
  | n + 1, S, v2 =>
    if (S.1 k0 0) ≤ v2 then (
      K S v2)
    else (
      ck v2 12 (lt (setI S (rf k0 10) (ix v2) v2) fun S108 =>
      lt (v2 + (1 : Int32)) fun v109 =>
      X11_next_280 k0 v1 K n S108 v109))
def X11_next_267 (k0 : Nat) (K : St → Int32 → Option (St × Int32)) : Nat → St → Int32 → Option (St × Int32)
  | 0, _, _ => none
  | n + 1, S, v1 =>
    if 0 ≤ v1 then (
      K S v1)
    else (
      lt (fun (S89 : St)  =>
        ck (0 : Int32) 12 (
        lt (S89.1 (rf k0 10) (ix (0 : Int32))) fun v91 =>
        X11_next_318 k0 v1 v91 (fun (S96 : St) (v97 : Int32) =>
          lt (setI S96 k0 11 ((S96.1 k0 11) - (1 : Int32))) fun S98 =>
          ck v91 15 (
          bd (X11_load S98 k0 v91) fun S100 v101 =>
          bd (X11_isDue S100 (S98.2 (rf k0 4) (ix v91)) v101) fun S102 v103 =>
          lt (fun (S105 : St) (v106 : Int32) =>
            X11_next_267 k0 K n S105 v106) fun (j104 : St → Int32 → Option (St × Int32)) =>
          if v103 = 0 then (
            j104 S102 v1)
          else (
            j104 S102 v91))) FU S89 (1 : Int32))) fun (j88 : St → Option (St × Int32)) =>
      if ¬ (S.1 k0 11) = 0 then (
        j88 S)
      else (
        X11_next_280 k0 v1 (fun (S110 : St) (v111 : Int32) =>
          lt (setI S110 k0 11 (S110.1 k0 0)) fun S112 =>
          j88 S112) FU S (0 : Int32)))
def X11_next (S : St) (k0 : Nat) : Option (St × Int32) :=
  if (S.1 k0 6) = (0 : Int32) then (
  lt ((S.1 k0 0) - (1 : Int32)) fun v21 =>
  X11_next_43 k0 (fun (S31 : St) (v32 : Int32) (v33 : Int32) =>
    some (S31, v32)) FU S (-1 : Int32) v21) else if (S.1 k0 6) = (1 : Int32) then (
  X11_next_76 k0 (fun (S48 : St) (v49 : Int32) (v50 : Int32) =>
    some (S48, v49)) FU S (-1 : Int32) (0 : Int32)) else if (S.1 k0 6) = (2 : Int32) then (
  lt ((S.1 k0 0) - (1 : Int32)) fun v52 =>
  X11_next_138 k0 (fun (S66 : St) (v67 : Int32) (v68 : Int32) =>
    some (S66, v67)) FU S (-1 : Int32) v52) else if (S.1 k0 6) = (3 : Int32) then (
  gu (¬ (2147483648 : Int64) = 0) (
  lt (setJ S k0 8 (lrem (((S.2 k0 8) * (1103515245 : Int64)) + (12345 : Int64)) (2147483648 : Int64))) fun S70 =>
  gu (¬ (256 : Int64) = 0) (
  bd (X11_dueMany S70 k0) fun S71 v72 =>
  gu (¬ (Int32.toInt64 v72) = 0) (
  lt (Int64.toInt32 (lrem ((S70.2 k0 8) / (256 : Int64)) (Int32.toInt64 v72))) fun v73 =>
  X11_next_222 k0 (-1 : Int32) (fun (S84 : St) (v85 : Int32) (v86 : Int32) =>
    some (S84, (-1 : Int32))) FU S71 v73 (0 : Int32))))) else (
  X11_next_267 k0 (fun (S113 : St) (v114 : Int32) =>
    some (S113, v114)) FU S (-1 : Int32))
/-- ScreeCourtModel.asks(I)V -/
def X11_asks_98 (k0 : Nat) (v1 : Int32) (K : St → Int32 → Option (St × Unit)) : Nat → St → Int32 → Option (St × Unit)
  | 0, _, _ => none
  | n + 1, S, v2 =>
    if (S.1 k0 0) ≤ v2 then (
      K S v2)
    else (
      bd (X11_weightOf S k0 v1 v2) fun S22 v23 =>
      lt (fun (S25 : St)  =>
        lt (v2 + (1 : Int32)) fun v26 =>
        X11_asks_98 k0 v1 K n S25 v26) fun (j24 : St → Option (St × Unit)) =>
      if v23 = 0 then (
        j24 S22)
      else (
        bd (X11_isAsked S22 k0 v2) fun S27 v28 =>
        if v28 = 0 then (
          ck (S27.1 k0 11) 12 (lt (setI S27 (rf k0 10) (ix (S27.1 k0 11)) v2) fun S30 =>
          lt (setI S30 k0 11 ((S30.1 k0 11) + (1 : Int32))) fun S31 =>
          j24 S31))
        else (
          j24 S27)))
def X11_asks_46 (k0 : Nat) (v1 : Int32) (v2 : Int32) (K : St → Int32 → Option (St × Unit)) : Nat → St → Int32 → Option (St × Unit)
  | 0, _, _ => none
  | n + 1, S, v3 =>
    if v3 ≤ 0 then (
      K S v3)
    else (
      ck (v3 - (1 : Int32)) 12 (
      ck v3 12 (lt (setI S (rf k0 10) (ix v3) (S.1 (rf k0 10) (ix (v3 - (1 : Int32))))) fun S45 =>
      lt (v3 + (-1 : Int32)) fun v46 =>
      X11_asks_46 k0 v1 v2 K n S45 v46)))
def X11_asks_17 (k0 : Nat) (v1 : Int32) (K : St → Int32 → Option (St × Unit)) : Nat → St → Int32 → Option (St × Unit)
  | 0, _, _ => none
  | n + 1, S, v2 =>
    if v2 < 0 then (
      K S v2)
    else (
      bd (X11_weightOf S k0 v1 v2) fun S35 v36 =>
      lt (fun (S38 : St)  =>
        lt (v2 + (-1 : Int32)) fun v39 =>
        X11_asks_17 k0 v1 K n S38 v39) fun (j37 : St → Option (St × Unit)) =>
      if v36 = 0 then (
        j37 S35)
      else (
        bd (X11_isAsked S35 k0 v2) fun S40 v41 =>
        if v41 = 0 then (
          lt (S40.1 k0 11) fun v42 =>
          X11_asks_46 k0 v1 v2 (fun (S47 : St) (v48 : Int32) =>
            ck (0 : Int32) 12 (lt (setI S47 (rf k0 10) (ix (0 : Int32)) v2) fun S50 =>
            lt (setI S50 k0 11 ((S50.1 k0 11) + (1 : Int32))) fun S51 =>
            j37 S51)) FU S40 v42)
        else (
          j37 S40)))
def X11_asks (S : St) (k0 : Nat) (v1 : Int32) : Option (St × Unit) :=
  ck v1 12 (
  if ¬ (S.1 (rf k0 1) (ix v1)) = (4 : Int32) then (
    X11_asks_98 k0 v1 (fun (S32 : St) (v33 : Int32) =>
      some (S32, ())) FU S (0 : Int32))
  else (
    lt ((S.1 k0 0) - (1 : Int32)) fun v34 =>
    X11_asks_17 k0 v1 (fun (S52 : St) (v53 : Int32) =>
      some (S52, ())) FU S v34))
/-- ScreeCourtModel.run(I)I -/
def X11_run_37 (k0 : Nat) (v1 : Int32) (K : St → Int32 → Option (St × Int32)) : Nat → St → Int32 → Option (St × Int32)
  | 0, _, _ => none
  | n + 1, S, v2 =>
    bd (X11_dueMany S k0) fun S24 v25 =>
    if v25 ≤ 0 then (
      K S24 v2)
    else (
      if v1 ≤ v2 then (
        K S24 v2)
      else (
        bd (X11_next S24 k0) fun S26 v27 =>
        bd (X11_isTooMuch S26 k0 (rf k0 4) v27) fun S29 v30 =>
        if v30 = 0 then (
          ck v27 12 (
          bd (X11_slides S29 k0 (rf k0 4) v27) fun S33 v34 =>
          ck v27 12 (lt (setJ S33 (rf k0 5) (ix v27) ((S29.2 (rf k0 5) (ix v27)) + v34)) fun S35 =>
          lt (fun (S37 : St)  =>
            lt (v2 + (1 : Int32)) fun v38 =>
            X11_run_37 k0 v1 K n S37 v38) fun (j36 : St → Option (St × Int32)) =>
          if ¬ (S35.1 k0 6) = (4 : Int32) then (
            j36 S35)
          else (
            bd (X11_asks S35 k0 v27) fun S39 _ =>
            j36 S39))))
        else (
          bd (X11_found S29 k0 (-5 : Int32)) fun S40 v41 =>
          some (S40, v41))))
def X11_run (S : St) (k0 : Nat) (v1 : Int32) : Option (St × Int32) :=
  bd (X11_in S v1 (1 : Int32) (5000 : Int32)) fun S21 v22 =>
  if ¬ v22 = 0 then (
    if ¬ (S21.1 k0 3) = 0 then (
      bd (X11_store S21 k0) fun S23 _ =>
      X11_run_37 k0 v1 (fun (S42 : St) (v43 : Int32) =>
        bd (X11_dueMany S42 k0) fun S44 v45 =>
        if v45 ≤ 0 then (
          some (S44, v43))
        else (
          bd (X11_found S44 k0 (-9 : Int32)) fun S46 v47 =>
          some (S46, v47))) FU S23 (0 : Int32))
    else (
      bd (X11_found S21 k0 (-8 : Int32)) fun S48 v49 =>
      some (S48, v49)))
  else (
    bd (X11_found S21 k0 (-1 : Int32)) fun S50 v51 =>
    some (S50, v51))
/-- ScreeCourtModel.odometer(I)J -/
def X11_odometer (S : St) (k0 : Nat) (v1 : Int32) : Option (St × Int64) :=
  bd (X11_isPlace S k0 v1) fun S21 v22 =>
  if v22 = 0 then (
    bd (X11_found S21 k0 (-1 : Int32)) fun S23 v24 =>
    some (S23, Int32.toInt64 v24))
  else (
    ck v1 12 (
    some (S21, S21.2 (rf k0 5) (ix v1))))
/-- ScreeCourtModel.reset()I -/
def X11_reset_4 (k0 : Nat) (K : St → Int32 → Int32 → Option (St × Int32)) : Nat → St → Int32 → Int32 → Option (St × Int32)
  | 0, _, _, _ => none
  | n + 1, S, v1, v2 =>
    if (12 : Int32) ≤ v2 then (
      K S v1 v2)
    else (
      ck v2 12 (
      lt (fun (S23 : St) (v24 : Int32) =>
        lt (v1 + v24) fun v25 =>
        ck v2 12 (lt (setJ S23 (rf k0 5) (ix v2) (0 : Int64)) fun S27 =>
        lt (v2 + (1 : Int32)) fun v28 =>
        X11_reset_4 k0 K n S27 v25 v28)) fun (j22 : St → Int32 → Option (St × Int32)) =>
      if (S.2 (rf k0 5) (ix v2)) = (0 : Int64) then (
        j22 S (0 : Int32))
      else (
        j22 S (1 : Int32))))
def X11_reset (S : St) (k0 : Nat) : Option (St × Int32) :=
  X11_reset_4 k0 (fun (S29 : St) (v30 : Int32) (v31 : Int32) =>
    lt (setI S29 k0 30 (0 : Int32)) fun S32 =>
    some (S32, v30)) FU S (0 : Int32) (0 : Int32)
/-- ScreeCourtModel.isTwoWay()Z -/
def X11_isTwoWay_12 (k0 : Nat) (v1 : Int32) (K : St → Int32 → Option (St × Int32)) : Nat → St → Int32 → Option (St × Int32)
  | 0, _, _ => none
  | n + 1, S, v2 =>
    if v1 ≤ v2 then (
      K S v2)
    else (
      bd (X11_weightOf S k0 v1 v2) fun S21 v22 =>
      bd (X11_weightOf S21 k0 v2 v1) fun S23 v24 =>
      if v22 = v24 then (
        lt (v2 + (1 : Int32)) fun v25 =>
        X11_isTwoWay_12 k0 v1 K n S23 v25)
      else (
        some (S23, (0 : Int32))))
def X11_isTwoWay_2 (k0 : Nat) (K : St → Int32 → Option (St × Int32)) : Nat → St → Int32 → Option (St × Int32)
  | 0, _, _ => none
  | n + 1, S, v1 =>
    if (S.1 k0 0) ≤ v1 then (
      K S v1)
    else (
      X11_isTwoWay_12 k0 v1 (fun (S26 : St) (v27 : Int32) =>
        lt (v1 + (1 : Int32)) fun v28 =>
        X11_isTwoWay_2 k0 K n S26 v28) FU S (0 : Int32))
def X11_isTwoWay (S : St) (k0 : Nat) : Option (St × Int32) :=
  X11_isTwoWay_2 k0 (fun (S29 : St) (v30 : Int32) =>
    some (S29, (1 : Int32))) FU S (0 : Int32)
/-- ScreeCourtModel.twoWay()I -/
def X11_twoWay (S : St) (k0 : Nat) : Option (St × Int32) :=
  if ¬ (S.1 k0 3) = 0 then (
    bd (X11_isTwoWay S k0) fun S21 v22 =>
    if v22 = 0 then (
      some (S21, (0 : Int32)))
    else (
      some (S21, (1 : Int32))))
  else (
    bd (X11_found S k0 (-8 : Int32)) fun S23 v24 =>
    some (S23, v24))
/-- ScreeCourtModel.burns([J)I -/
def X11_burns_22 (k0 : Nat) (k1 : Nat) (v2 : Int32) (v3 : Int32) (v4 : Int32) (K : St → Int64 → Int32 → Option (St × Int32)) : Nat → St → Int64 → Int32 → Option (St × Int32)
  | 0, _, _, _ => none
  | n + 1, S, v5, v7 =>
    if (S.1 k0 0) ≤ v7 then (
      K S v5 v7)
    else (
      lt (fun (S22 : St) (v23 : Int64) =>
        lt (v7 + (1 : Int32)) fun v24 =>
        X11_burns_22 k0 k1 v2 v3 v4 K n S22 v23 v24) fun (j21 : St → Int64 → Option (St × Int32)) =>
      if ¬ ((v2 >>> (v7 &&& 31)) &&& (1 : Int32)) = 0 then (
        j21 S v5)
      else (
        bd (X11_weightOf S k0 v4 v7) fun S25 v26 =>
        lt (v5 + (Int32.toInt64 v26)) fun v27 =>
        j21 S25 v27))
def X11_burns_7 (k0 : Nat) (k1 : Nat) (K : St → Int32 → Int32 → Int32 → Option (St × Int32)) : Nat → St → Int32 → Int32 → Int32 → Option (St × Int32)
  | 0, _, _, _, _ => none
  | n + 1, S, v2, v3, v4 =>
    if (S.1 k0 0) ≤ v4 then (
      K S v2 v3 v4)
    else (
      X11_burns_22 k0 k1 v2 v3 v4 (fun (S28 : St) (v29 : Int64) (v30 : Int32) =>
        lt (fun (S32 : St)  =>
          lt (v4 + (1 : Int32)) fun v33 =>
          X11_burns_7 k0 k1 K n S32 v2 v3 v33) fun (j31 : St → Option (St × Int32)) =>
        if ((v2 >>> (v4 &&& 31)) &&& (1 : Int32)) = (1 : Int32) then (
          j31 S28)
        else (
          ck v4 15 (
          if v29 ≤ (S28.2 k1 (ix v4)) then (
            lt (v2 ||| ((1 : Int32) <<< (v4 &&& 31))) fun v34 =>
            ck v3 12 (lt (setI S28 (rf k0 31) (ix v3) v4) fun S36 =>
            lt (v3 + (1 : Int32)) fun v37 =>
            X11_burns_7 k0 k1 K n S36 v34 v37 (0 : Int32)))
          else (
            j31 S28)))) FU S (0 : Int64) (0 : Int32))
def X11_burns (S : St) (k0 : Nat) (k1 : Nat) : Option (St × Int32) :=
  X11_burns_7 k0 k1 (fun (S38 : St) (v39 : Int32) (v40 : Int32) (v41 : Int32) =>
    some (S38, v39)) FU S (0 : Int32) (0 : Int32) (0 : Int32)
/-- ScreeCourtModel.burn()I -/
def X11_burn_51 (k0 : Nat) (v1 : Int32) (K : St → Int32 → Option (St × Int32)) : Nat → St → Int32 → Option (St × Int32)
  | 0, _, _ => none
  | n + 1, S, v2 =>
    if (S.1 k0 0) ≤ v2 then (
      K S v2)
    else (
      lt (setI S k0 13 ((S.1 k0 13) + ((v1 >>> (v2 &&& 31)) &&& (1 : Int32)))) fun S33 =>
      lt (v2 + (1 : Int32)) fun v34 =>
      X11_burn_51 k0 v1 K n S33 v34)
def X11_burn_81 (k0 : Nat) (v1 : Int32) (K : St → Int32 → Option (St × Int32)) : Nat → St → Int32 → Option (St × Int32)
  | 0, _, _ => none
  | n + 1, S, v2 =>
    if (S.1 k0 13) ≤ v2 then (
      K S v2)
    else (
      ck v2 12 (
      ck v2 12 (lt (setI S (rf k0 12) (ix v2) (S.1 (rf k0 31) (ix v2))) fun S39 =>
      lt (v2 + (1 : Int32)) fun v40 =>
      X11_burn_81 k0 v1 K n S39 v40)))
def X11_burn (S : St) (k0 : Nat) : Option (St × Int32) :=
  lt (fun (S22 : St)  =>
    bd (X11_found S22 k0 (-8 : Int32)) fun S23 v24 =>
    some (S23, v24)) fun (j21 : St → Option (St × Int32)) =>
  if (S.1 k0 3) = 0 then (
    j21 S)
  else (
    bd (X11_dueMany S k0) fun S25 v26 =>
    if v26 ≤ 0 then (
      bd (X11_isTwoWay S25 k0) fun S27 v28 =>
      if ¬ v28 = 0 then (
        bd (X11_burns S27 k0 (rf k0 4)) fun S30 v31 =>
        lt (setI S30 k0 13 (0 : Int32)) fun S32 =>
        X11_burn_51 k0 v31 (fun (S35 : St) (v36 : Int32) =>
          X11_burn_81 k0 v31 (fun (S41 : St) (v42 : Int32) =>
            lt (setI S41 k0 14 ((((1 : Int32) <<< ((S41.1 k0 0) &&& 31)) - (1 : Int32)) - v31)) fun S43 =>
            if ¬ (S43.1 k0 14) = 0 then (
              some (S43, (0 : Int32)))
            else (
              some (S43, (1 : Int32)))) FU S35 (0 : Int32)) FU S32 (0 : Int32))
      else (
        bd (X11_found S27 k0 (-12 : Int32)) fun S44 v45 =>
        some (S44, v45)))
    else (
      j21 S25))
/-- ScreeCourtModel.burnt(I)I -/
def X11_burnt (S : St) (k0 : Nat) (v1 : Int32) : Option (St × Int32) :=
  bd (X11_in S v1 (-1 : Int32) ((S.1 k0 13) - (1 : Int32))) fun S21 v22 =>
  if ¬ v22 = 0 then (
    if 0 ≤ v1 then (
      ck v1 12 (
      some (S21, S21.1 (rf k0 12) (ix v1))))
    else (
      some (S21, S21.1 k0 14)))
  else (
    bd (X11_found S21 k0 (-11 : Int32)) fun S24 v25 =>
    some (S24, v25))
/-- ScreeCourtModel.isSlot(I)Z -/
def X11_isSlot (S : St) (v0 : Int32) : Option (St × Int32) :=
  bd (X11_in S v0 (0 : Int32) (7 : Int32)) fun S21 v22 =>
  gu (v22 = 0 ∨ v22 = 1) (some (S21, v22))
/-- ScreeCourtModel.stored(I[J)I -/
def X11_stored_5 (k0 : Nat) (v1 : Int32) (k2 : Nat) (K : St → Int64 → Int32 → Option (St × Int32)) : Nat → St → Int64 → Int32 → Option (St × Int32)
  | 0, _, _, _ => none
  | n + 1, S, v3, v5 =>
    if (12 : Int32) ≤ v5 then (
      K S v3 v5)
    else (
      lt (fun (S23 : St) (v24 : Int64) =>
        ck (((12 : Int32) * v1) + v5) 96 (lt (setJ S23 (rf k0 15) (ix (((12 : Int32) * v1) + v5)) v24) fun S25 =>
        ck (((12 : Int32) * v1) + v5) 96 (
        lt (v3 + (S25.2 (rf k0 15) (ix (((12 : Int32) * v1) + v5)))) fun v27 =>
        lt (v5 + (1 : Int32)) fun v28 =>
        X11_stored_5 k0 v1 k2 K n S25 v27 v28))) fun (j22 : St → Int64 → Option (St × Int32)) =>
      if (S.1 k0 0) ≤ v5 then (
        j22 S (0 : Int64))
      else (
        ck v5 15 (
        j22 S (S.2 k2 (ix v5)))))
def X11_stored (S : St) (k0 : Nat) (v1 : Int32) (k2 : Nat) : Option (St × Int32) :=
  X11_stored_5 k0 v1 k2 (fun (S29 : St) (v30 : Int64) (v31 : Int32) =>
    ck v1 8 (lt (setI S29 (rf k0 16) (ix v1) (1 : Int32)) fun S33 =>
    some (S33, Int64.toInt32 v30))) FU S (0 : Int64) (0 : Int32)
/-- ScreeCourtModel.keep(I)I -/
def X11_keep (S : St) (k0 : Nat) (v1 : Int32) : Option (St × Int32) :=
  bd (X11_isSlot S v1) fun S21 v22 =>
  if ¬ v22 = 0 then (
    if ¬ (S21.1 k0 3) = 0 then (
      bd (X11_stored S21 k0 v1 (rf k0 4)) fun S24 v25 =>
      some (S24, v25))
    else (
      bd (X11_found S21 k0 (-8 : Int32)) fun S26 v27 =>
      some (S26, v27)))
  else (
    bd (X11_found S21 k0 (-1 : Int32)) fun S28 v29 =>
    some (S28, v29))
/-- ScreeCourtModel.bring(I)I -/
def X11_bring_48 (k0 : Nat) (v1 : Int32) (K : St → Int64 → Int32 → Option (St × Int32)) : Nat → St → Int64 → Int32 → Option (St × Int32)
  | 0, _, _, _ => none
  | n + 1, S, v2, v4 =>
    if (S.1 k0 0) ≤ v4 then (
      K S v2 v4)
    else (
      ck (((12 : Int32) * v1) + v4) 96 (
      ck v4 15 (lt (setJ S (rf k0 4) (ix v4) (S.2 (rf k0 15) (ix (((12 : Int32) * v1) + v4)))) fun S26 =>
      ck v4 15 (
      lt (v2 + (S26.2 (rf k0 4) (ix v4))) fun v28 =>
      lt (v4 + (1 : Int32)) fun v29 =>
      X11_bring_48 k0 v1 K n S26 v28 v29))))
def X11_bring (S : St) (k0 : Nat) (v1 : Int32) : Option (St × Int32) :=
  bd (X11_isSlot S v1) fun S21 v22 =>
  if ¬ v22 = 0 then (
    ck v1 8 (
    if ¬ (S21.1 (rf k0 16) (ix v1)) = 0 then (
      if ¬ (S21.1 k0 3) = 0 then (
        X11_bring_48 k0 v1 (fun (S30 : St) (v31 : Int64) (v32 : Int32) =>
          lt (setI S30 k0 30 (0 : Int32)) fun S33 =>
          some (S33, Int64.toInt32 v31)) FU S21 (0 : Int64) (0 : Int32))
      else (
        bd (X11_found S21 k0 (-8 : Int32)) fun S34 v35 =>
        some (S34, v35)))
    else (
      bd (X11_found S21 k0 (-11 : Int32)) fun S36 v37 =>
      some (S36, v37))))
  else (
    bd (X11_found S21 k0 (-1 : Int32)) fun S38 v39 =>
    some (S38, v39))
/-- ScreeCourtModel.settles()Z -/
def X11_settles_3 (k0 : Nat) (K : St → Int32 → Option (St × Int32)) : Nat → St → Int32 → Option (St × Int32)
  | 0, _, _ => none
  | n + 1, S, v1 =>
    if (15 : Int32) ≤ v1 then (
      K S v1)
    else (
      ck v1 15 (lt (setJ S (rf k0 32) (ix v1) (0 : Int64)) fun S22 =>
      lt (v1 + (1 : Int32)) fun v23 =>
      X11_settles_3 k0 K n S22 v23))
def X11_settles_24 (k0 : Nat) (K : St → Int32 → Option (St × Int32)) : Nat → St → Int32 → Option (St × Int32)
  | 0, _, _ => none
  | n + 1, S, v1 =>
    if (S.1 k0 0) ≤ v1 then (
      K S v1)
    else (
      ck v1 15 (
      if (S.2 (rf k0 32) (ix v1)) ≤ (1000000 : Int64) then (
        lt (v1 + (1 : Int32)) fun v27 =>
        X11_settles_24 k0 K n S v27)
      else (
        some (S, (0 : Int32)))))
def X11_settles_57 (k0 : Nat) (K : St → Int32 → Int32 → Option (St × Int32)) : Nat → St → Int32 → Int32 → Option (St × Int32)
  | 0, _, _, _ => none
  | n + 1, S, v1, v2 =>
    if (S.1 k0 0) ≤ v2 then (
      K S v1 v2)
    else (
      ck v2 15 (
      bd (X11_load S k0 v2) fun S31 v32 =>
      bd (X11_isDue S31 (S.2 (rf k0 32) (ix v2)) v32) fun S33 v34 =>
      if ¬ v34 = 0 then (
        lt (fun (S36 : St)  =>
          some (S36, (0 : Int32))) fun (j35 : St → Option (St × Int32)) =>
        if v1 = (20000 : Int32) then (
          j35 S33)
        else (
          bd (X11_isTooMuch S33 k0 (rf k0 32) v2) fun S38 v39 =>
          if v39 = 0 then (
            bd (X11_slides S38 k0 (rf k0 32) v2) fun S41 v42 =>
            lt (v1 + (1 : Int32)) fun v43 =>
            X11_settles_57 k0 K n S41 v43 (0 : Int32))
          else (
            j35 S38)))
      else (
        lt (v2 + (1 : Int32)) fun v44 =>
        X11_settles_57 k0 K n S33 v1 v44)))
def X11_settles (S : St) (k0 : Nat) : Option (St × Int32) :=
  X11_settles_3 k0 (fun (S24 : St) (v25 : Int32) =>
    X11_settles_24 k0 (fun (S28 : St) (v29 : Int32) =>
      X11_settles_57 k0 (fun (S45 : St) (v46 : Int32) (v47 : Int32) =>
        some (S45, (1 : Int32))) FU S28 (0 : Int32) (0 : Int32)) FU S24 (0 : Int32)) FU S (12 : Int32)
/-- ScreeCourtModel.plus(III)I -/
def X11_plus_69 (k0 : Nat) (v1 : Int32) (v2 : Int32) (v3 : Int32) (K : St → Int32 → Option (St × Int32)) : Nat → St → Int32 → Option (St × Int32)
  | 0, _, _ => none
  | n + 1, S, v4 =>
    if (S.1 k0 0) ≤ v4 then (
      K S v4)
    else (
      ck (((12 : Int32) * v1) + v4) 96 (
      ck (((12 : Int32) * v2) + v4) 96 (
      ck v4 15 (lt (setJ S (rf k0 32) (ix v4) ((S.2 (rf k0 15) (ix (((12 : Int32) * v1) + v4))) + (S.2 (rf k0 15) (ix (((12 : Int32) * v2) + v4))))) fun S40 =>
      lt (v4 + (1 : Int32)) fun v41 =>
      X11_plus_69 k0 v1 v2 v3 K n S40 v41))))
def X11_plus (S : St) (k0 : Nat) (v1 : Int32) (v2 : Int32) (v3 : Int32) : Option (St × Int32) :=
  bd (X11_isSlot S v1) fun S21 v22 =>
  lt (fun (S24 : St)  =>
    bd (X11_found S24 k0 (-1 : Int32)) fun S25 v26 =>
    some (S25, v26)) fun (j23 : St → Option (St × Int32)) =>
  if v22 = 0 then (
    j23 S21)
  else (
    bd (X11_isSlot S21 v2) fun S27 v28 =>
    if v28 = 0 then (
      j23 S27)
    else (
      bd (X11_isSlot S27 v3) fun S29 v30 =>
      if ¬ v30 = 0 then (
        ck v1 8 (
        lt (fun (S33 : St)  =>
          bd (X11_found S33 k0 (-11 : Int32)) fun S34 v35 =>
          some (S34, v35)) fun (j32 : St → Option (St × Int32)) =>
        if (S29.1 (rf k0 16) (ix v1)) = 0 then (
          j32 S29)
        else (
          ck v2 8 (
          if ¬ (S29.1 (rf k0 16) (ix v2)) = 0 then (
            if ¬ (S29.1 k0 3) = 0 then (
              X11_plus_69 k0 v1 v2 v3 (fun (S42 : St) (v43 : Int32) =>
                bd (X11_settles S42 k0) fun S44 v45 =>
                if v45 = 0 then (
                  bd (X11_found S44 k0 (-5 : Int32)) fun S46 v47 =>
                  some (S46, v47))
                else (
                  bd (X11_stored S44 k0 v3 (rf k0 32)) fun S49 v50 =>
                  some (S49, v50))) FU S29 (0 : Int32))
            else (
              bd (X11_found S29 k0 (-8 : Int32)) fun S51 v52 =>
              some (S51, v52)))
          else (
            j32 S29)))))
      else (
        j23 S29)))
/-- ScreeCourtModel.greatest()V -/
def X11_greatest_2 (k0 : Nat) (K : St → Int32 → Option (St × Unit)) : Nat → St → Int32 → Option (St × Unit)
  | 0, _, _ => none
  | n + 1, S, v1 =>
    if (S.1 k0 0) ≤ v1 then (
      K S v1)
    else (
      bd (X11_load S k0 v1) fun S22 v23 =>
      ck v1 15 (lt (setJ S22 (rf k0 32) (ix v1) ((2 : Int64) * (Int32.toInt64 (v23 - (1 : Int32))))) fun S24 =>
      lt (v1 + (1 : Int32)) fun v25 =>
      X11_greatest_2 k0 K n S24 v25))
def X11_greatest (S : St) (k0 : Nat) : Option (St × Unit) :=
  X11_greatest_2 k0 (fun (S26 : St) (v27 : Int32) =>
    some (S26, ())) FU S (0 : Int32)
/-- ScreeCourtModel.nought(I)I -/
def X11_nought_61 (k0 : Nat) (v1 : Int32) (K : St → Int32 → Option (St × Int32)) : Nat → St → Int32 → Option (St × Int32)
  | 0, _, _ => none
  | n + 1, S, v2 =>
    if (S.1 k0 0) ≤ v2 then (
      K S v2)
    else (
      bd (X11_load S k0 v2) fun S29 v30 =>
      ck v2 15 (
      ck v2 15 (lt (setJ S29 (rf k0 32) (ix v2) (((2 : Int64) * (Int32.toInt64 (v30 - (1 : Int32)))) - (S29.2 (rf k0 32) (ix v2)))) fun S32 =>
      lt (v2 + (1 : Int32)) fun v33 =>
      X11_nought_61 k0 v1 K n S32 v33)))
def X11_nought (S : St) (k0 : Nat) (v1 : Int32) : Option (St × Int32) :=
  bd (X11_isSlot S v1) fun S21 v22 =>
  if ¬ v22 = 0 then (
    if ¬ (S21.1 k0 3) = 0 then (
      bd (X11_isTwoWay S21 k0) fun S23 v24 =>
      if ¬ v24 = 0 then (
        bd (X11_greatest S23 k0) fun S25 _ =>
        bd (X11_settles S25 k0) fun S26 v27 =>
        if ¬ v27 = 0 then (
          X11_nought_61 k0 v1 (fun (S34 : St) (v35 : Int32) =>
            bd (X11_settles S34 k0) fun S36 v37 =>
            if v37 = 0 then (
              bd (X11_found S36 k0 (-5 : Int32)) fun S38 v39 =>
              some (S38, v39))
            else (
              bd (X11_stored S36 k0 v1 (rf k0 32)) fun S41 v42 =>
              some (S41, v42))) FU S26 (0 : Int32))
        else (
          bd (X11_found S26 k0 (-5 : Int32)) fun S43 v44 =>
          some (S43, v44)))
      else (
        bd (X11_found S23 k0 (-12 : Int32)) fun S45 v46 =>
        some (S45, v46)))
    else (
      bd (X11_found S21 k0 (-8 : Int32)) fun S47 v48 =>
      some (S47, v48)))
  else (
    bd (X11_found S21 k0 (-1 : Int32)) fun S49 v50 =>
    some (S49, v50))
/-- ScreeCourtModel.contrary(II)I -/
def X11_contrary_84 (k0 : Nat) (v1 : Int32) (v2 : Int32) (K : St → Int32 → Option (St × Int32)) : Nat → St → Int32 → Option (St × Int32)
  | 0, _, _ => none
  | n + 1, S, v3 =>
    if (S.1 k0 0) ≤ v3 then (
      K S v3)
    else (
      bd (X11_load S k0 v3) fun S36 v37 =>
      ck v3 15 (
      ck v3 15 (lt (setJ S36 (rf k0 33) (ix v3) (((2 : Int64) * (Int32.toInt64 (v37 - (1 : Int32)))) - (S36.2 (rf k0 32) (ix v3)))) fun S39 =>
      lt (v3 + (1 : Int32)) fun v40 =>
      X11_contrary_84 k0 v1 v2 K n S39 v40)))
def X11_contrary_125 (k0 : Nat) (v1 : Int32) (v2 : Int32) (K : St → Int32 → Option (St × Int32)) : Nat → St → Int32 → Option (St × Int32)
  | 0, _, _ => none
  | n + 1, S, v3 =>
    if (S.1 k0 0) ≤ v3 then (
      K S v3)
    else (
      ck (((12 : Int32) * v1) + v3) 96 (
      ck v3 15 (lt (setJ S (rf k0 32) (ix v3) (S.2 (rf k0 15) (ix (((12 : Int32) * v1) + v3)))) fun S45 =>
      lt (v3 + (1 : Int32)) fun v46 =>
      X11_contrary_125 k0 v1 v2 K n S45 v46)))
def X11_contrary_172 (k0 : Nat) (v2 : Int32) (K : St → Int32 → Option (St × Int32)) : Nat → St → Int32 → Option (St × Int32)
  | 0, _, _ => none
  | n + 1, S, v3 =>
    if (S.1 k0 0) ≤ v3 then (
      K S v3)
    else (
      ck v3 15 (
      ck v3 15 (
      ck v3 15 (lt (setJ S (rf k0 32) (ix v3) (((2 : Int64) * (S.2 (rf k0 33) (ix v3))) - (S.2 (rf k0 32) (ix v3)))) fun S54 =>
      lt (v3 + (1 : Int32)) fun v55 =>
      X11_contrary_172 k0 v2 K n S54 v55))))
def X11_contrary (S : St) (k0 : Nat) (v1 : Int32) (v2 : Int32) : Option (St × Int32) :=
  bd (X11_isSlot S v1) fun S21 v22 =>
  lt (fun (S24 : St)  =>
    bd (X11_found S24 k0 (-1 : Int32)) fun S25 v26 =>
    some (S25, v26)) fun (j23 : St → Option (St × Int32)) =>
  if v22 = 0 then (
    j23 S21)
  else (
    bd (X11_isSlot S21 v2) fun S27 v28 =>
    if ¬ v28 = 0 then (
      ck v1 8 (
      if ¬ (S27.1 (rf k0 16) (ix v1)) = 0 then (
        if ¬ (S27.1 k0 3) = 0 then (
          bd (X11_isTwoWay S27 k0) fun S30 v31 =>
          if ¬ v31 = 0 then (
            bd (X11_greatest S30 k0) fun S32 _ =>
            bd (X11_settles S32 k0) fun S33 v34 =>
            if ¬ v34 = 0 then (
              X11_contrary_84 k0 v1 v2 (fun (S41 : St) (v42 : Int32) =>
                X11_contrary_125 k0 v1 v2 (fun (S47 : St) (v48 : Int32) =>
                  bd (X11_settles S47 k0) fun S49 v50 =>
                  if ¬ v50 = 0 then (
                    X11_contrary_172 k0 v2 (fun (S56 : St) (v57 : Int32) =>
                      bd (X11_settles S56 k0) fun S58 v59 =>
                      if v59 = 0 then (
                        bd (X11_found S58 k0 (-5 : Int32)) fun S60 v61 =>
                        some (S60, v61))
                      else (
                        bd (X11_stored S58 k0 v2 (rf k0 32)) fun S63 v64 =>
                        some (S63, v64))) FU S49 (0 : Int32))
                  else (
                    bd (X11_found S49 k0 (-5 : Int32)) fun S65 v66 =>
                    some (S65, v66))) FU S41 (0 : Int32)) FU S33 (0 : Int32))
            else (
              bd (X11_found S33 k0 (-5 : Int32)) fun S67 v68 =>
              some (S67, v68)))
          else (
            bd (X11_found S30 k0 (-12 : Int32)) fun S69 v70 =>
            some (S69, v70)))
        else (
          bd (X11_found S27 k0 (-8 : Int32)) fun S71 v72 =>
          some (S71, v72)))
      else (
        bd (X11_found S27 k0 (-11 : Int32)) fun S73 v74 =>
        some (S73, v74))))
    else (
      j23 S27))
/-- ScreeCourtModel.isPrime(I)Z -/
def X11_isPrime_2 (v0 : Int32) (K : St → Int32 → Option (St × Int32)) : Nat → St → Int32 → Option (St × Int32)
  | 0, _, _ => none
  | n + 1, S, v1 =>
    if v0 < (v1 * v1) then (
      K S v1)
    else (
      gu (¬ v1 = 0) (
      if ¬ (irem v0 v1) = 0 then (
        lt (v1 + (1 : Int32)) fun v21 =>
        X11_isPrime_2 v0 K n S v21)
      else (
        some (S, (0 : Int32)))))
def X11_isPrime (S : St) (v0 : Int32) : Option (St × Int32) :=
  X11_isPrime_2 v0 (fun (S22 : St) (v23 : Int32) =>
    if v0 ≤ (1 : Int32) then (
      some (S22, (0 : Int32)))
    else (
      some (S22, (1 : Int32)))) FU S (2 : Int32)
/-- ScreeCourtModel.many(I)I -/
def X11_many_64 (k0 : Nat) (v1 : Int32) (v2 : Int32) (K : St → Int32 → Option (St × Int32)) : Nat → St → Int32 → Option (St × Int32)
  | 0, _, _ => none
  | n + 1, S, v3 =>
    if (S.1 k0 0) ≤ v3 then (
      K S v3)
    else (
      lt (fun (S33 : St) (v34 : Int32) =>
        gu (¬ v1 = 0) (
        gu (¬ v1 = 0) (
        ck (((12 : Int32) * v2) + v3) 144 (lt (setJ S33 (rf k0 34) (ix (((12 : Int32) * v2) + v3)) (Int32.toInt64 (irem ((irem v34 v1) + v1) v1))) fun S35 =>
        lt (v3 + (1 : Int32)) fun v36 =>
        X11_many_64 k0 v1 v2 K n S35 v36)))) fun (j32 : St → Int32 → Option (St × Int32)) =>
      if ¬ v2 = v3 then (
        bd (X11_weightOf S k0 v2 v3) fun S37 v38 =>
        j32 S37 (-v38))
      else (
        bd (X11_load S k0 v2) fun S39 v40 =>
        j32 S39 v40))
def X11_many_54 (k0 : Nat) (v1 : Int32) (K : St → Int32 → Option (St × Int32)) : Nat → St → Int32 → Option (St × Int32)
  | 0, _, _ => none
  | n + 1, S, v2 =>
    if (S.1 k0 0) ≤ v2 then (
      K S v2)
    else (
      X11_many_64 k0 v1 v2 (fun (S41 : St) (v42 : Int32) =>
        lt (v2 + (1 : Int32)) fun v43 =>
        X11_many_54 k0 v1 K n S41 v43) FU S (0 : Int32))
def X11_many_140 (k0 : Nat) (v1 : Int32) (v2 : Int64) (v4 : Int32) (K : St → Int32 → Option (St × Int32)) : Nat → St → Int32 → Option (St × Int32)
  | 0, _, _ => none
  | n + 1, S, v5 =>
    if (S.1 k0 0) ≤ v5 then (
      K S v5)
    else (
      ck (((12 : Int32) * v5) + v4) 144 (
      if ¬ (S.2 (rf k0 34) (ix (((12 : Int32) * v5) + v4))) = (0 : Int64) then (
        K S v5)
      else (
        lt (v5 + (1 : Int32)) fun v47 =>
        X11_many_140 k0 v1 v2 v4 K n S v47)))
def X11_many_202 (k0 : Nat) (v1 : Int32) (v2 : Int64) (v4 : Int32) (v5 : Int32) (K : St → Int32 → Option (St × Int32)) : Nat → St → Int32 → Option (St × Int32)
  | 0, _, _ => none
  | n + 1, S, v6 =>
    if (S.1 k0 0) ≤ v6 then (
      K S v6)
    else (
      ck (((12 : Int32) * v5) + v6) 144 (
      lt (S.2 (rf k0 34) (ix (((12 : Int32) * v5) + v6))) fun v54 =>
      ck (((12 : Int32) * v4) + v6) 144 (
      ck (((12 : Int32) * v5) + v6) 144 (lt (setJ S (rf k0 34) (ix (((12 : Int32) * v5) + v6)) (S.2 (rf k0 34) (ix (((12 : Int32) * v4) + v6)))) fun S57 =>
      ck (((12 : Int32) * v4) + v6) 144 (lt (setJ S57 (rf k0 34) (ix (((12 : Int32) * v4) + v6)) v54) fun S59 =>
      lt (v6 + (1 : Int32)) fun v60 =>
      X11_many_202 k0 v1 v2 v4 v5 K n S59 v60)))))
def X11_many_295 (k0 : Nat) (v1 : Int32) (v2 : Int64) (v4 : Int32) (K : St → Int64 → Option (St × Int32)) : Nat → St → Int64 → Option (St × Int32)
  | 0, _, _ => none
  | n + 1, S, v6 =>
    ck (((12 : Int32) * v4) + v4) 144 (
    gu (¬ (Int32.toInt64 v1) = 0) (
    if (lrem (v6 * (S.2 (rf k0 34) (ix (((12 : Int32) * v4) + v4)))) (Int32.toInt64 v1)) = (1 : Int64) then (
      K S v6)
    else (
      lt (v6 + (1 : Int64)) fun v66 =>
      X11_many_295 k0 v1 v2 v4 K n S v66)))
def X11_many_368 (k0 : Nat) (v1 : Int32) (v2 : Int64) (v4 : Int32) (v6 : Int64) (v8 : Int32) (v9 : Int64) (K : St → Int32 → Option (St × Int32)) : Nat → St → Int32 → Option (St × Int32)
  | 0, _, _ => none
  | n + 1, S, v11 =>
    if (S.1 k0 0) ≤ v11 then (
      K S v11)
    else (
      ck (((12 : Int32) * v8) + v11) 144 (
      ck (((12 : Int32) * v4) + v11) 144 (
      gu (¬ (Int32.toInt64 v1) = 0) (
      ck (((12 : Int32) * v8) + v11) 144 (lt (setJ S (rf k0 34) (ix (((12 : Int32) * v8) + v11)) (lrem ((S.2 (rf k0 34) (ix (((12 : Int32) * v8) + v11))) + (((Int32.toInt64 v1) - v9) * (S.2 (rf k0 34) (ix (((12 : Int32) * v4) + v11))))) (Int32.toInt64 v1))) fun S75 =>
      lt (v11 + (1 : Int32)) fun v76 =>
      X11_many_368 k0 v1 v2 v4 v6 v8 v9 K n S75 v76)))))
def X11_many_334 (k0 : Nat) (v1 : Int32) (v2 : Int64) (v4 : Int32) (v6 : Int64) (K : St → Int32 → Option (St × Int32)) : Nat → St → Int32 → Option (St × Int32)
  | 0, _, _ => none
  | n + 1, S, v8 =>
    if (S.1 k0 0) ≤ v8 then (
      K S v8)
    else (
      ck (((12 : Int32) * v8) + v4) 144 (
      gu (¬ (Int32.toInt64 v1) = 0) (
      lt (lrem ((S.2 (rf k0 34) (ix (((12 : Int32) * v8) + v4))) * v6) (Int32.toInt64 v1)) fun v71 =>
      X11_many_368 k0 v1 v2 v4 v6 v8 v71 (fun (S77 : St) (v78 : Int32) =>
        lt (v8 + (1 : Int32)) fun v79 =>
        X11_many_334 k0 v1 v2 v4 v6 K n S77 v79) FU S v4)))
def X11_many_127 (k0 : Nat) (v1 : Int32) (K : St → Int64 → Int32 → Option (St × Int32)) : Nat → St → Int64 → Int32 → Option (St × Int32)
  | 0, _, _, _ => none
  | n + 1, S, v2, v4 =>
    if (S.1 k0 0) ≤ v4 then (
      K S v2 v4)
    else (
      X11_many_140 k0 v1 v2 v4 (fun (S48 : St) (v49 : Int32) =>
        if ¬ v49 = (S48.1 k0 0) then (
          lt (fun (S51 : St) (v52 : Int64) =>
            X11_many_202 k0 v1 v52 v4 v49 (fun (S61 : St) (v62 : Int32) =>
              ck (((12 : Int32) * v4) + v4) 144 (
              gu (¬ (Int32.toInt64 v1) = 0) (
              lt (lrem (v52 * (S61.2 (rf k0 34) (ix (((12 : Int32) * v4) + v4)))) (Int32.toInt64 v1)) fun v64 =>
              X11_many_295 k0 v1 v64 v4 (fun (S67 : St) (v68 : Int64) =>
                lt (v4 + (1 : Int32)) fun v69 =>
                X11_many_334 k0 v1 v64 v4 v68 (fun (S80 : St) (v81 : Int32) =>
                  lt (v4 + (1 : Int32)) fun v82 =>
                  X11_many_127 k0 v1 K n S80 v64 v82) FU S67 v69) FU S61 (1 : Int64)))) FU S51 (0 : Int32)) fun (j50 : St → Int64 → Option (St × Int32)) =>
          if v49 = v4 then (
            j50 S48 v2)
          else (
            gu (¬ (Int32.toInt64 v1) = 0) (
            lt (lrem ((Int32.toInt64 v1) - v2) (Int32.toInt64 v1)) fun v83 =>
            j50 S48 v83)))
        else (
          some (S48, (0 : Int32)))) FU S v4)
def X11_many (S : St) (k0 : Nat) (v1 : Int32) : Option (St × Int32) :=
  bd (X11_in S v1 (2 : Int32) (30011 : Int32)) fun S21 v22 =>
  lt (fun (S24 : St)  =>
    bd (X11_found S24 k0 (-1 : Int32)) fun S25 v26 =>
    some (S25, v26)) fun (j23 : St → Option (St × Int32)) =>
  if v22 = 0 then (
    j23 S21)
  else (
    bd (X11_isPrime S21 v1) fun S27 v28 =>
    if ¬ v28 = 0 then (
      if ¬ (S27.1 k0 3) = 0 then (
        bd (X11_isTwoWay S27 k0) fun S29 v30 =>
        if ¬ v30 = 0 then (
          X11_many_54 k0 v1 (fun (S44 : St) (v45 : Int32) =>
            X11_many_127 k0 v1 (fun (S84 : St) (v85 : Int64) (v86 : Int32) =>
              some (S84, Int64.toInt32 v85)) FU S44 (1 : Int64) (0 : Int32)) FU S29 (0 : Int32))
        else (
          bd (X11_found S29 k0 (-12 : Int32)) fun S87 v88 =>
          some (S87, v88)))
      else (
        bd (X11_found S27 k0 (-8 : Int32)) fun S89 v90 =>
        some (S89, v90)))
    else (
      j23 S27))
/-- ScreeCourtModel.list()I -/
def X11_list_34 (k0 : Nat) (v1 : Int32) (v2 : Int32) (K : St → Int32 → Option (St × Int32)) : Nat → St → Int32 → Option (St × Int32)
  | 0, _, _ => none
  | n + 1, S, v3 =>
    if (S.1 k0 0) ≤ v3 then (
      K S v3)
    else (
      ck v3 15 (lt (setJ S (rf k0 32) (ix v3) (0 : Int64)) fun S24 =>
      lt (v3 + (1 : Int32)) fun v25 =>
      X11_list_34 k0 v1 v2 K n S24 v25))
def X11_list_181 (k0 : Nat) (v1 : Int32) (v2 : Int32) (K : St → Int32 → Option (St × Int32)) : Nat → St → Int32 → Option (St × Int32)
  | 0, _, _ => none
  | n + 1, S, v3 =>
    if (S.1 k0 0) ≤ v3 then (
      K S v3)
    else (
      lt (fun (S33 : St) (v34 : Int64) =>
        ck v3 15 (lt (setJ S33 (rf k0 33) (ix v3) v34) fun S35 =>
        lt (v3 + (1 : Int32)) fun v36 =>
        X11_list_181 k0 v1 v2 K n S35 v36)) fun (j32 : St → Int64 → Option (St × Int32)) =>
      if v3 ≤ v2 then (
        ck v3 15 (
        j32 S (S.2 (rf k0 32) (ix v3))))
      else (
        bd (X11_load S k0 v3) fun S38 v39 =>
        j32 S38 (Int32.toInt64 (v39 - (1 : Int32)))))
def X11_list_83 (k0 : Nat) (v1 : Int32) (v2 : Int32) (K : St → Int32 → Option (St × Int32)) : Nat → St → Int32 → Option (St × Int32)
  | 0, _, _ => none
  | n + 1, S, v3 =>
    if (S.1 k0 0) ≤ v3 then (
      K S v3)
    else (
      ck v3 15 (
      ck (((12 : Int32) * v1) + v3) 2412 (lt (setI S (rf k0 35) (ix (((12 : Int32) * v1) + v3)) (Int64.toInt32 (S.2 (rf k0 32) (ix v3)))) fun S57 =>
      lt (v3 + (1 : Int32)) fun v58 =>
      X11_list_83 k0 v1 v2 K n S57 v58)))
def X11_list_55 (k0 : Nat) (K : St → Int32 → Int32 → Option (St × Int32)) : Nat → St → Int32 → Int32 → Option (St × Int32)
  | 0, _, _, _ => none
  | n + 1, S, v1, v2 =>
    if v2 < 0 then (
      K S v1 v2)
    else (
      if ¬ v2 = (S.1 k0 0) then (
        ck v2 15 (
        bd (X11_load S k0 v2) fun S29 v30 =>
        if (S.2 (rf k0 32) (ix v2)) ≤ (Int32.toInt64 (v30 - (1 : Int32))) then (
          X11_list_181 k0 v1 v2 (fun (S40 : St) (v41 : Int32) =>
            bd (X11_burns S40 k0 (rf k0 33)) fun S43 v44 =>
            if v44 = (((1 : Int32) <<< ((S43.1 k0 0) &&& 31)) - (1 : Int32)) then (
              lt (v2 + (1 : Int32)) fun v45 =>
              if (S43.1 k0 0) ≤ v45 then (
                X11_list_55 k0 K n S43 v1 v45)
              else (
                ck v45 15 (lt (setJ S43 (rf k0 32) (ix v45) (0 : Int64)) fun S47 =>
                X11_list_55 k0 K n S47 v1 v45)))
            else (
              ck v2 15 (
              ck v2 15 (lt (setJ S43 (rf k0 32) (ix v2) ((S43.2 (rf k0 32) (ix v2)) + (1 : Int64))) fun S49 =>
              X11_list_55 k0 K n S49 v1 v2)))) FU S29 (0 : Int32))
        else (
          ck v2 15 (lt (setJ S29 (rf k0 32) (ix v2) (0 : Int64)) fun S51 =>
          lt (v2 + (-1 : Int32)) fun v52 =>
          if v52 < 0 then (
            X11_list_55 k0 K n S51 v1 v52)
          else (
            ck v52 15 (
            ck v52 15 (lt (setJ S51 (rf k0 32) (ix v52) ((S51.2 (rf k0 32) (ix v52)) + (1 : Int64))) fun S54 =>
            X11_list_55 k0 K n S54 v1 v52)))))))
      else (
        if ¬ v1 = (200 : Int32) then (
          X11_list_83 k0 v1 v2 (fun (S59 : St) (v60 : Int32) =>
            lt (v1 + (1 : Int32)) fun v61 =>
            lt (v2 + (-1 : Int32)) fun v62 =>
            ck v62 15 (
            ck v62 15 (lt (setJ S59 (rf k0 32) (ix v62) ((S59.2 (rf k0 32) (ix v62)) + (1 : Int64))) fun S64 =>
            X11_list_55 k0 K n S64 v61 v62))) FU S (0 : Int32))
        else (
          bd (X11_found S k0 (-10 : Int32)) fun S65 v66 =>
          some (S65, v66))))
def X11_list_278 (k0 : Nat) (v1 : Int32) (K : St → Int32 → Option (St × Int32)) : Nat → St → Int32 → Option (St × Int32)
  | 0, _, _ => none
  | n + 1, S, v3 =>
    if ((12 : Int32) * v1) ≤ v3 then (
      K S v3)
    else (
      ck v3 2412 (
      ck v3 2400 (lt (setI S (rf k0 17) (ix v3) (S.1 (rf k0 35) (ix v3))) fun S72 =>
      lt (v3 + (1 : Int32)) fun v73 =>
      X11_list_278 k0 v1 K n S72 v73)))
def X11_list (S : St) (k0 : Nat) : Option (St × Int32) :=
  if ¬ (S.1 k0 3) = 0 then (
    bd (X11_isTwoWay S k0) fun S21 v22 =>
    if ¬ v22 = 0 then (
      X11_list_34 k0 (0 : Int32) (0 : Int32) (fun (S26 : St) (v27 : Int32) =>
        X11_list_55 k0 (fun (S67 : St) (v68 : Int32) (v69 : Int32) =>
          X11_list_278 k0 v68 (fun (S74 : St) (v75 : Int32) =>
            lt (setI S74 k0 18 v68) fun S76 =>
            some (S76, v68)) FU S67 (0 : Int32)) FU S26 (0 : Int32) (0 : Int32)) FU S21 (0 : Int32))
    else (
      bd (X11_found S21 k0 (-12 : Int32)) fun S77 v78 =>
      some (S77, v78)))
  else (
    bd (X11_found S k0 (-8 : Int32)) fun S79 v80 =>
    some (S79, v80))
/-- ScreeCourtModel.listed(II)I -/
def X11_listed (S : St) (k0 : Nat) (v1 : Int32) (v2 : Int32) : Option (St × Int32) :=
  bd (X11_in S v1 (0 : Int32) ((S.1 k0 18) - (1 : Int32))) fun S21 v22 =>
  if ¬ v22 = 0 then (
    bd (X11_isPlace S21 k0 v2) fun S23 v24 =>
    if v24 = 0 then (
      bd (X11_found S23 k0 (-1 : Int32)) fun S25 v26 =>
      some (S25, v26))
    else (
      ck (((12 : Int32) * v1) + v2) 2400 (
      some (S23, S23.1 (rf k0 17) (ix (((12 : Int32) * v1) + v2))))))
  else (
    bd (X11_found S21 k0 (-11 : Int32)) fun S28 v29 =>
    some (S28, v29))
/-- ScreeCourtModel.isTerrace(I)Z -/
def X11_isTerrace (S : St) (v0 : Int32) : Option (St × Int32) :=
  bd (X11_in S v0 (0 : Int32) (3 : Int32)) fun S21 v22 =>
  gu (v22 = 0 ∨ v22 = 1) (some (S21, v22))
/-- ScreeCourtModel.terrace(III)I -/
def X11_terrace_89 (k0 : Nat) (v1 : Int32) (K : St → Int32 → Option (St × Int32)) : Nat → St → Int32 → Option (St × Int32)
  | 0, _, _ => none
  | n + 1, S, v4 =>
    if (16 : Int32) ≤ v4 then (
      K S v4)
    else (
      ck (((16 : Int32) * v1) + v4) 64 (lt (setJ S (rf k0 21) (ix (((16 : Int32) * v1) + v4)) (0 : Int64)) fun S37 =>
      lt (v4 + (1 : Int32)) fun v38 =>
      X11_terrace_89 k0 v1 K n S37 v38))
def X11_terrace (S : St) (k0 : Nat) (v1 : Int32) (v2 : Int32) (v3 : Int32) : Option (St × Int32) :=
  bd (X11_isTerrace S v1) fun S21 v22 =>
  lt (fun (S24 : St)  =>
    bd (X11_found S24 k0 (-1 : Int32)) fun S25 v26 =>
    some (S25, v26)) fun (j23 : St → Option (St × Int32)) =>
  if v22 = 0 then (
    j23 S21)
  else (
    lt (fun (S28 : St)  =>
      if 0 ≤ v3 then (
        if v3 ≤ (16 : Int32) then (
          ck v1 4 (lt (setI S28 (rf k0 19) (ix v1) v2) fun S30 =>
          lt (fun (S33 : St) (v34 : Int32) =>
            ck v1 4 (lt (setI S33 (rf k0 20) (ix v1) v34) fun S35 =>
            X11_terrace_89 k0 v1 (fun (S39 : St) (v40 : Int32) =>
              ck v1 4 (
              some (S39, S39.1 (rf k0 20) (ix v1)))) FU S35 (0 : Int32))) fun (j32 : St → Int32 → Option (St × Int32)) =>
          if ¬ v2 = 0 then (
            j32 S30 v3)
          else (
            j32 S30 (0 : Int32))))
        else (
          bd (X11_found S28 k0 (-1 : Int32)) fun S42 v43 =>
          some (S42, v43)))
      else (
        bd (X11_found S28 k0 (-3 : Int32)) fun S44 v45 =>
        some (S44, v45))) fun (j27 : St → Option (St × Int32)) =>
    if v2 = 0 then (
      j27 S21)
    else (
      if v2 = (8 : Int32) then (
        j27 S21)
      else (
        if v2 = (16 : Int32) then (
          j27 S21)
        else (
          if v2 = (32 : Int32) then (
            j27 S21)
          else (
            if v2 = (64 : Int32) then (
              j27 S21)
            else (
              j23 S21))))))
/-- ScreeCourtModel.put(IIJ)J -/
def X11_put (S : St) (k0 : Nat) (v1 : Int32) (v2 : Int32) (v3 : Int64) : Option (St × Int64) :=
  bd (X11_isTerrace S v1) fun S21 v22 =>
  lt (fun (S24 : St)  =>
    lt (setI S24 k0 24 ((S24.1 k0 24) + (1 : Int32))) fun S25 =>
    some (S25, (-9223372036854775808 : Int64))) fun (j23 : St → Option (St × Int64)) =>
  if v22 = 0 then (
    j23 S21)
  else (
    ck v1 4 (
    if (S21.1 (rf k0 19) (ix v1)) = 0 then (
      j23 S21)
    else (
      ck v1 4 (
      bd (X11_in S21 v2 (0 : Int32) ((S21.1 (rf k0 20) (ix v1)) - (1 : Int32))) fun S28 v29 =>
      if ¬ v29 = 0 then (
        ck v1 4 (
        lt (fun (S32 : St) (v33 : Int64) =>
          ck (((16 : Int32) * v1) + v2) 64 (lt (setJ S32 (rf k0 21) (ix (((16 : Int32) * v1) + v2)) v33) fun S35 =>
          some (S35, v33))) fun (j31 : St → Int64 → Option (St × Int64)) =>
        if ¬ (S28.1 (rf k0 19) (ix v1)) = (8 : Int32) then (
          ck v1 4 (
          if ¬ (S28.1 (rf k0 19) (ix v1)) = (16 : Int32) then (
            ck v1 4 (
            if ¬ (S28.1 (rf k0 19) (ix v1)) = (32 : Int32) then (
              j31 S28 v3)
            else (
              j31 S28 (Int32.toInt64 (Int64.toInt32 v3)))))
          else (
            j31 S28 (Int32.toInt64 (Int16.toInt32 (Int32.toInt16 (Int64.toInt32 v3)))))))
        else (
          j31 S28 (Int32.toInt64 (Int8.toInt32 (Int32.toInt8 (Int64.toInt32 v3)))))))
      else (
        j23 S28)))))
/-- ScreeCourtModel.copy(IIIII)I -/
def X11_copy_125 (k0 : Nat) (v1 : Int32) (v2 : Int32) (v3 : Int32) (v4 : Int32) (v5 : Int32) (K : St → Int32 → Option (St × Int32)) : Nat → St → Int32 → Option (St × Int32)
  | 0, _, _ => none
  | n + 1, S, v6 =>
    if v5 ≤ v6 then (
      K S v6)
    else (
      ck ((((16 : Int32) * v1) + v2) + v6) 64 (
      ck v6 16 (lt (setJ S (rf k0 36) (ix v6) (S.2 (rf k0 21) (ix ((((16 : Int32) * v1) + v2) + v6)))) fun S45 =>
      lt (v6 + (1 : Int32)) fun v46 =>
      X11_copy_125 k0 v1 v2 v3 v4 v5 K n S45 v46)))
def X11_copy_162 (k0 : Nat) (v3 : Int32) (v4 : Int32) (v5 : Int32) (K : St → Int32 → Option (St × Int32)) : Nat → St → Int32 → Option (St × Int32)
  | 0, _, _ => none
  | n + 1, S, v6 =>
    if v5 ≤ v6 then (
      K S v6)
    else (
      ck v6 16 (
      ck ((((16 : Int32) * v3) + v4) + v6) 64 (lt (setJ S (rf k0 21) (ix ((((16 : Int32) * v3) + v4) + v6)) (S.2 (rf k0 36) (ix v6))) fun S51 =>
      lt (v6 + (1 : Int32)) fun v52 =>
      X11_copy_162 k0 v3 v4 v5 K n S51 v52)))
def X11_copy (S : St) (k0 : Nat) (v1 : Int32) (v2 : Int32) (v3 : Int32) (v4 : Int32) (v5 : Int32) : Option (St × Int32) :=
  bd (X11_isTerrace S v1) fun S21 v22 =>
  lt (fun (S24 : St)  =>
    bd (X11_found S24 k0 (-1 : Int32)) fun S25 v26 =>
    some (S25, v26)) fun (j23 : St → Option (St × Int32)) =>
  if v22 = 0 then (
    j23 S21)
  else (
    bd (X11_isTerrace S21 v3) fun S27 v28 =>
    if ¬ v28 = 0 then (
      ck v1 4 (
      lt (fun (S31 : St)  =>
        bd (X11_found S31 k0 (-2 : Int32)) fun S32 v33 =>
        some (S32, v33)) fun (j30 : St → Option (St × Int32)) =>
      if (S27.1 (rf k0 19) (ix v1)) = 0 then (
        j30 S27)
      else (
        ck v3 4 (
        if ¬ (S27.1 (rf k0 19) (ix v3)) = 0 then (
          ck v1 4 (
          ck v3 4 (
          if (S27.1 (rf k0 19) (ix v1)) = (S27.1 (rf k0 19) (ix v3)) then (
            lt (fun (S38 : St)  =>
              bd (X11_found S38 k0 (-1 : Int32)) fun S39 v40 =>
              some (S39, v40)) fun (j37 : St → Option (St × Int32)) =>
            if v2 < 0 then (
              j37 S27)
            else (
              if v4 < 0 then (
                j37 S27)
              else (
                if v5 < 0 then (
                  j37 S27)
                else (
                  ck v1 4 (
                  if (Int32.toInt64 (S27.1 (rf k0 20) (ix v1))) < ((Int32.toInt64 v2) + (Int32.toInt64 v5)) then (
                    j37 S27)
                  else (
                    ck v3 4 (
                    if ((Int32.toInt64 v4) + (Int32.toInt64 v5)) ≤ (Int32.toInt64 (S27.1 (rf k0 20) (ix v3))) then (
                      X11_copy_125 k0 v1 v2 v3 v4 v5 (fun (S47 : St) (v48 : Int32) =>
                        X11_copy_162 k0 v3 v4 v5 (fun (S53 : St) (v54 : Int32) =>
                          some (S53, v5)) FU S47 (0 : Int32)) FU S27 (0 : Int32))
                    else (
                      j37 S27))))))))
          else (
            bd (X11_found S27 k0 (-4 : Int32)) fun S55 v56 =>
            some (S55, v56)))))
        else (
          j30 S27)))))
    else (
      j23 S27))
/-- ScreeCourtModel.spread(IIII)I -/
def X11_spread_102 (k0 : Nat) (v1 : Int32) (v2 : Int32) (v3 : Int32) (v4 : Int32) (K : St → Int32 → Option (St × Int32)) : Nat → St → Int32 → Option (St × Int32)
  | 0, _, _ => none
  | n + 1, S, v5 =>
    if v3 ≤ v5 then (
      K S v5)
    else (
      ck ((((16 : Int32) * v1) + v2) + v5) 64 (
      if (0 : Int64) ≤ (S.2 (rf k0 21) (ix ((((16 : Int32) * v1) + v2) + v5))) then (
        lt (v5 + (1 : Int32)) fun v34 =>
        X11_spread_102 k0 v1 v2 v3 v4 K n S v34)
      else (
        bd (X11_found S k0 (-13 : Int32)) fun S35 v36 =>
        some (S35, v36))))
def X11_spread_143 (k0 : Nat) (v1 : Int32) (v2 : Int32) (v3 : Int32) (v4 : Int32) (K : St → Int32 → Option (St × Int32)) : Nat → St → Int32 → Option (St × Int32)
  | 0, _, _ => none
  | n + 1, S, v5 =>
    if v3 ≤ v5 then (
      K S v5)
    else (
      ck ((((16 : Int32) * v1) + v2) + v5) 64 (
      ck (v4 + v5) 15 (
      if (S.2 (rf k0 21) (ix ((((16 : Int32) * v1) + v2) + v5))) ≤ ((1000000 : Int64) - (S.2 (rf k0 4) (ix (v4 + v5)))) then (
        lt (v5 + (1 : Int32)) fun v41 =>
        X11_spread_143 k0 v1 v2 v3 v4 K n S v41)
      else (
        bd (X11_found S k0 (-5 : Int32)) fun S42 v43 =>
        some (S42, v43)))))
def X11_spread_204 (k0 : Nat) (v1 : Int32) (v2 : Int32) (v3 : Int32) (v4 : Int32) (v5 : Int64) (K : St → Int32 → Option (St × Int32)) : Nat → St → Int32 → Option (St × Int32)
  | 0, _, _ => none
  | n + 1, S, v7 =>
    if v3 ≤ v7 then (
      K S v7)
    else (
      ck (v4 + v7) 15 (
      ck ((((16 : Int32) * v1) + v2) + v7) 64 (
      ck (v4 + v7) 15 (lt (setJ S (rf k0 4) (ix (v4 + v7)) ((S.2 (rf k0 4) (ix (v4 + v7))) + (S.2 (rf k0 21) (ix ((((16 : Int32) * v1) + v2) + v7))))) fun S49 =>
      lt (v7 + (1 : Int32)) fun v50 =>
      X11_spread_204 k0 v1 v2 v3 v4 v5 K n S49 v50))))
def X11_spread_246 (k0 : Nat) (K : St → Int64 → Int32 → Option (St × Int32)) : Nat → St → Int64 → Int32 → Option (St × Int32)
  | 0, _, _, _ => none
  | n + 1, S, v5, v7 =>
    if (S.1 k0 0) ≤ v7 then (
      K S v5 v7)
    else (
      ck v7 15 (
      lt (v5 + (S.2 (rf k0 4) (ix v7))) fun v54 =>
      lt (v7 + (1 : Int32)) fun v55 =>
      X11_spread_246 k0 K n S v54 v55))
def X11_spread (S : St) (k0 : Nat) (v1 : Int32) (v2 : Int32) (v3 : Int32) (v4 : Int32) : Option (St × Int32) :=
  bd (X11_isTerrace S v1) fun S21 v22 =>
  if ¬ v22 = 0 then (
    ck v1 4 (
    if ¬ (S21.1 (rf k0 19) (ix v1)) = 0 then (
      lt (fun (S25 : St)  =>
        bd (X11_found S25 k0 (-1 : Int32)) fun S26 v27 =>
        some (S26, v27)) fun (j24 : St → Option (St × Int32)) =>
      if v2 < 0 then (
        j24 S21)
      else (
        if v3 < 0 then (
          j24 S21)
        else (
          ck v1 4 (
          if ((Int32.toInt64 v2) + (Int32.toInt64 v3)) ≤ (Int32.toInt64 (S21.1 (rf k0 20) (ix v1))) then (
            lt (fun (S30 : St)  =>
              bd (X11_found S30 k0 (-1 : Int32)) fun S31 v32 =>
              some (S31, v32)) fun (j29 : St → Option (St × Int32)) =>
            if v4 < 0 then (
              j29 S21)
            else (
              if ((Int32.toInt64 v4) + (Int32.toInt64 v3)) ≤ (Int32.toInt64 (S21.1 k0 0)) then (
                if ¬ (S21.1 k0 3) = 0 then (
                  X11_spread_102 k0 v1 v2 v3 v4 (fun (S37 : St) (v38 : Int32) =>
                    X11_spread_143 k0 v1 v2 v3 v4 (fun (S44 : St) (v45 : Int32) =>
                      bd (X11_store S44 k0) fun S46 _ =>
                      X11_spread_204 k0 v1 v2 v3 v4 (0 : Int64) (fun (S51 : St) (v52 : Int32) =>
                        X11_spread_246 k0 (fun (S56 : St) (v57 : Int64) (v58 : Int32) =>
                          some (S56, Int64.toInt32 v57)) FU S51 (0 : Int64) (0 : Int32)) FU S46 (0 : Int32)) FU S37 (0 : Int32)) FU S21 (0 : Int32))
                else (
                  bd (X11_found S21 k0 (-8 : Int32)) fun S59 v60 =>
                  some (S59, v60)))
              else (
                j29 S21)))
          else (
            j24 S21)))))
    else (
      bd (X11_found S21 k0 (-2 : Int32)) fun S61 v62 =>
      some (S61, v62))))
  else (
    bd (X11_found S21 k0 (-1 : Int32)) fun S63 v64 =>
    some (S63, v64))
/-- ScreeCourtModel.tell(I)I -/
def X11_tell (S : St) (k0 : Nat) (v1 : Int32) : Option (St × Int32) :=
  if ¬ (S.1 k0 23) = (200 : Int32) then (
    ck (S.1 k0 23) 200 (lt (setI S (rf k0 22) (ix (S.1 k0 23)) v1) fun S22 =>
    lt (setI S22 k0 23 ((S22.1 k0 23) + (1 : Int32))) fun S23 =>
    some (S23, S23.1 k0 23)))
  else (
    bd (X11_found S k0 (-5 : Int32)) fun S24 v25 =>
    some (S24, v25))
/-- ScreeCourtModel.enough()I -/
def X11_enough_41 (k0 : Nat) (v1 : Int32) (K : St → Int32 → Option (St × Int32)) : Nat → St → Int32 → Option (St × Int32)
  | 0, _, _ => none
  | n + 1, S, v2 =>
    if v1 ≤ v2 then (
      K S v2)
    else (
      ck v2 200 (
      bd (X11_in S (S.1 (rf k0 22) (ix v2)) (0 : Int32) (1000000 : Int32)) fun S24 v25 =>
      if ¬ v25 = 0 then (
        lt (v2 + (1 : Int32)) fun v26 =>
        X11_enough_41 k0 v1 K n S24 v26)
      else (
        bd (X11_found S24 k0 (-13 : Int32)) fun S27 v28 =>
        some (S27, v28))))
def X11_enough_109 (k0 : Nat) (v2 : Int32) (K : St → Int64 → Int32 → Option (St × Int32)) : Nat → St → Int64 → Int32 → Option (St × Int32)
  | 0, _, _, _ => none
  | n + 1, S, v3, v5 =>
    if (S.1 k0 0) ≤ v5 then (
      K S v3 v5)
    else (
      ck v5 200 (
      bd (X11_weightOf S k0 v5 v2) fun S37 v38 =>
      lt (v3 + ((Int32.toInt64 (S.1 (rf k0 22) (ix v5))) * (Int32.toInt64 v38))) fun v39 =>
      lt (v5 + (1 : Int32)) fun v40 =>
      X11_enough_109 k0 v2 K n S37 v39 v40))
def X11_enough_76 (k0 : Nat) (K : St → Int32 → Option (St × Int32)) : Nat → St → Int32 → Option (St × Int32)
  | 0, _, _ => none
  | n + 1, S, v2 =>
    if (S.1 k0 0) ≤ v2 then (
      K S v2)
    else (
      ck v2 15 (
      ck v2 200 (
      bd (X11_load S k0 v2) fun S33 v34 =>
      lt ((S.2 (rf k0 4) (ix v2)) - ((Int32.toInt64 (S.1 (rf k0 22) (ix v2))) * (Int32.toInt64 v34))) fun v35 =>
      X11_enough_109 k0 v2 (fun (S41 : St) (v42 : Int64) (v43 : Int32) =>
        bd (X11_load S41 k0 v2) fun S44 v45 =>
        bd (X11_isDue S44 v42 v45) fun S46 v47 =>
        if v47 = 0 then (
          lt (v2 + (1 : Int32)) fun v48 =>
          X11_enough_76 k0 K n S46 v48)
        else (
          some (S46, (0 : Int32)))) FU S33 v35 (0 : Int32))))
def X11_enough (S : St) (k0 : Nat) : Option (St × Int32) :=
  lt (S.1 k0 23) fun v21 =>
  lt (setI S k0 23 (0 : Int32)) fun S22 =>
  if ¬ (S22.1 k0 3) = 0 then (
    if v21 = (S22.1 k0 0) then (
      X11_enough_41 k0 v21 (fun (S29 : St) (v30 : Int32) =>
        X11_enough_76 k0 (fun (S49 : St) (v50 : Int32) =>
          some (S49, (1 : Int32))) FU S29 (0 : Int32)) FU S22 (0 : Int32))
    else (
      bd (X11_found S22 k0 (-3 : Int32)) fun S51 v52 =>
      some (S51, v52)))
  else (
    bd (X11_found S22 k0 (-8 : Int32)) fun S53 v54 =>
    some (S53, v54))
/-- ScreeCourtModel.check()I -/
def X11_check_26 (k0 : Nat) (v1 : Int32) (K : St → Int32 → Option (St × Int32)) : Nat → St → Int32 → Option (St × Int32)
  | 0, _, _ => none
  | n + 1, S, v2 =>
    if (15 : Int32) ≤ v2 then (
      K S v2)
    else (
      ck v2 15 (
      ck v2 15 (lt (setJ S (rf k0 32) (ix v2) (S.2 (rf k0 4) (ix v2))) fun S25 =>
      lt (v2 + (1 : Int32)) fun v26 =>
      X11_check_26 k0 v1 K n S25 v26)))
def X11_check_52 (k0 : Nat) (v1 : Int32) (K : St → Int32 → Option (St × Int32)) : Nat → St → Int32 → Option (St × Int32)
  | 0, _, _ => none
  | n + 1, S, v2 =>
    if v1 ≤ ((2 : Int32) * v2) then (
      K S v2)
    else (
      if ¬ (((2 : Int32) * v2) + (1 : Int32)) = v1 then (
        ck ((2 : Int32) * v2) 200 (
        lt (S.1 (rf k0 22) (ix ((2 : Int32) * v2))) fun v30 =>
        bd (X11_isPlace S k0 v30) fun S31 v32 =>
        lt (fun (S34 : St)  =>
          some (S34, v2 + (1 : Int32))) fun (j33 : St → Option (St × Int32)) =>
        if v32 = 0 then (
          j33 S31)
        else (
          ck v30 15 (
          bd (X11_load S31 k0 v30) fun S36 v37 =>
          bd (X11_isDue S36 (S31.2 (rf k0 32) (ix v30)) v37) fun S38 v39 =>
          if v39 = 0 then (
            j33 S38)
          else (
            ck v30 15 (
            ck (((2 : Int32) * v2) + (1 : Int32)) 200 (
            if (S38.2 (rf k0 32) (ix v30)) = (Int32.toInt64 (S38.1 (rf k0 22) (ix (((2 : Int32) * v2) + (1 : Int32))))) then (
              bd (X11_isTooMuch S38 k0 (rf k0 32) v30) fun S43 v44 =>
              if v44 = 0 then (
                bd (X11_slides S43 k0 (rf k0 32) v30) fun S46 v47 =>
                lt (v2 + (1 : Int32)) fun v48 =>
                X11_check_52 k0 v1 K n S46 v48)
              else (
                bd (X11_found S43 k0 (-5 : Int32)) fun S49 v50 =>
                some (S49, v50)))
            else (
              j33 S38))))))))
      else (
        some (S, v2 + (1 : Int32))))
def X11_check_169 (k0 : Nat) (K : St → Int32 → Option (St × Int32)) : Nat → St → Int32 → Option (St × Int32)
  | 0, _, _ => none
  | n + 1, S, v2 =>
    if (S.1 k0 0) ≤ v2 then (
      K S v2)
    else (
      ck v2 15 (
      bd (X11_load S k0 v2) fun S54 v55 =>
      bd (X11_isDue S54 (S.2 (rf k0 32) (ix v2)) v55) fun S56 v57 =>
      if v57 = 0 then (
        lt (v2 + (1 : Int32)) fun v58 =>
        X11_check_169 k0 K n S56 v58)
      else (
        some (S56, (1000 : Int32)))))
def X11_check (S : St) (k0 : Nat) : Option (St × Int32) :=
  lt (S.1 k0 23) fun v21 =>
  lt (setI S k0 23 (0 : Int32)) fun S22 =>
  if ¬ (S22.1 k0 3) = 0 then (
    X11_check_26 k0 v21 (fun (S27 : St) (v28 : Int32) =>
      X11_check_52 k0 v21 (fun (S51 : St) (v52 : Int32) =>
        X11_check_169 k0 (fun (S59 : St) (v60 : Int32) =>
          some (S59, (0 : Int32))) FU S51 (0 : Int32)) FU S27 (0 : Int32)) FU S22 (0 : Int32))
  else (
    bd (X11_found S22 k0 (-8 : Int32)) fun S61 v62 =>
    some (S61, v62))
/-- ScreeCourtModel.told(I)I -/
def X11_told_100 (k0 : Nat) (K : St → Int64 → Int32 → Option (St × Int32)) : Nat → St → Int64 → Int32 → Option (St × Int32)
  | 0, _, _, _ => none
  | n + 1, S, v2, v4 =>
    if (S.1 k0 0) ≤ v4 then (
      K S v2 v4)
    else (
      ck v4 15 (
      lt (v2 + (S.2 (rf k0 4) (ix v4))) fun v30 =>
      lt (v4 + (1 : Int32)) fun v31 =>
      X11_told_100 k0 K n S v30 v31))
def X11_told (S : St) (k0 : Nat) (v1 : Int32) : Option (St × Int32) :=
  if v1 = (0 : Int32) then (
  some (S, S.1 k0 7)) else if v1 = (1 : Int32) then (
  some (S, S.1 k0 0)) else if v1 = (2 : Int32) then (
  if (S.1 k0 3) = 0 then (
    some (S, (0 : Int32)))
  else (
    some (S, (1 : Int32)))) else if v1 = (3 : Int32) then (
  lt (fun (S25 : St)  =>
    some (S25, (0 : Int32))) fun (j24 : St → Option (St × Int32)) =>
  if (S.1 k0 3) = 0 then (
    j24 S)
  else (
    bd (X11_dueMany S k0) fun S26 v27 =>
    if ¬ v27 = 0 then (
      j24 S26)
    else (
      some (S26, (1 : Int32))))) else if v1 = (4 : Int32) then (
  X11_told_100 k0 (fun (S32 : St) (v33 : Int64) (v34 : Int32) =>
    some (S32, Int64.toInt32 v33)) FU S (0 : Int64) (0 : Int32)) else if v1 = (5 : Int32) then (
  some (S, S.1 k0 23)) else if v1 = (6 : Int32) then (
  some (S, Int64.toInt32 (S.2 k0 8))) else if v1 = (7 : Int32) then (
  some (S, S.1 k0 18)) else if v1 = (8 : Int32) then (
  some (S, S.1 k0 24)) else (
  bd (X11_found S k0 (-1 : Int32)) fun S40 v41 =>
  some (S40, v41))
