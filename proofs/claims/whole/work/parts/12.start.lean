def S0 : St := (fun _ _ => 0, fun k j => if k = 25 ∧ j = 6 then 1 else if k = 173 ∧ j = 8 then 1 else 0)
def cellsL (cy : Nat → ClassId) (base : Nat) : List va_E := blk_10 cy base 0 ++ blk_11 cy base 173
theorem at_refs {D : va_G} {cl : List vw_C} {a : Nat} {c : ClassId} {n : Nat} {f g : Nat → Option Nat} {H : Heap} (h : va_at D cl (a, .inl (c, n, .inr (.inr (.inr (.inr f))))) H) (hfg : ∀ i, i < n → f i = g i) : va_at D cl (a, .inl (c, n, .inr (.inr (.inr (.inr g))))) H := by
  have h1 : H[a]? = some (vp_cell c (n, .inr (.inr (.inr (.inr f))))) := h
  show H[a]? = some (vp_cell c (n, .inr (.inr (.inr (.inr g)))))
  rw [h1, vp_cell_q, vp_cell_q]
  exact congrArg some (arrV_congr fun j hj => by rw [hfg j hj])
theorem ce_0 (cy : Nat → ClassId) (base : Nat) : (cellsL cy base)[0]? = some (rend cy base S0 0) := by
  rw [rd_10 (by decide +kernel)]; rfl
theorem ce_1 (cy : Nat → ClassId) (base : Nat) : (cellsL cy base)[1]? = some (rend cy base S0 1) := by
  rw [rd_7 (by decide +kernel)]; rfl
theorem ce_2 (cy : Nat → ClassId) (base : Nat) : (cellsL cy base)[2]? = some (rend cy base S0 2) := by
  rw [rd_12 (n := 12) (by decide +kernel)]; rfl
theorem ce_4 (cy : Nat → ClassId) (base : Nat) : (cellsL cy base)[4]? = some (rend cy base S0 4) := by
  rw [rd_12 (n := 15) (by decide +kernel)]; rfl
theorem ce_5 (cy : Nat → ClassId) (base : Nat) : (cellsL cy base)[5]? = some (rend cy base S0 5) := by
  rw [rd_12 (n := 15) (by decide +kernel)]; rfl
theorem ce_6 (cy : Nat → ClassId) (base : Nat) : (cellsL cy base)[6]? = some (rend cy base S0 6) := by
  rw [rd_12 (n := 15) (by decide +kernel)]; rfl
theorem ce_7 (cy : Nat → ClassId) (base : Nat) : (cellsL cy base)[7]? = some (rend cy base S0 7) := by
  rw [rd_12 (n := 15) (by decide +kernel)]; rfl
theorem ce_8 (cy : Nat → ClassId) (base : Nat) : (cellsL cy base)[8]? = some (rend cy base S0 8) := by
  rw [rd_12 (n := 15) (by decide +kernel)]; rfl
theorem ce_9 (cy : Nat → ClassId) (base : Nat) : (cellsL cy base)[9]? = some (rend cy base S0 9) := by
  rw [rd_12 (n := 15) (by decide +kernel)]; rfl
theorem ce_10 (cy : Nat → ClassId) (base : Nat) : (cellsL cy base)[10]? = some (rend cy base S0 10) := by
  rw [rd_12 (n := 15) (by decide +kernel)]; rfl
theorem ce_11 (cy : Nat → ClassId) (base : Nat) : (cellsL cy base)[11]? = some (rend cy base S0 11) := by
  rw [rd_12 (n := 15) (by decide +kernel)]; rfl
theorem ce_12 (cy : Nat → ClassId) (base : Nat) : (cellsL cy base)[12]? = some (rend cy base S0 12) := by
  rw [rd_12 (n := 15) (by decide +kernel)]; rfl
theorem ce_13 (cy : Nat → ClassId) (base : Nat) : (cellsL cy base)[13]? = some (rend cy base S0 13) := by
  rw [rd_12 (n := 15) (by decide +kernel)]; rfl
theorem ce_14 (cy : Nat → ClassId) (base : Nat) : (cellsL cy base)[14]? = some (rend cy base S0 14) := by
  rw [rd_12 (n := 15) (by decide +kernel)]; rfl
theorem ce_15 (cy : Nat → ClassId) (base : Nat) : (cellsL cy base)[15]? = some (rend cy base S0 15) := by
  rw [rd_12 (n := 15) (by decide +kernel)]; rfl
theorem ce_16 (cy : Nat → ClassId) (base : Nat) : (cellsL cy base)[16]? = some (rend cy base S0 16) := by
  rw [rd_12 (n := 12) (by decide +kernel)]; rfl
theorem ce_17 (cy : Nat → ClassId) (base : Nat) : (cellsL cy base)[17]? = some (rend cy base S0 17) := by
  rw [rd_2 (by decide +kernel)]; rfl
theorem ce_18 (cy : Nat → ClassId) (base : Nat) : (cellsL cy base)[18]? = some (rend cy base S0 18) := by
  rw [rd_12 (n := 12) (by decide +kernel)]; rfl
theorem ce_19 (cy : Nat → ClassId) (base : Nat) : (cellsL cy base)[19]? = some (rend cy base S0 19) := by
  rw [rd_13 (n := 3) (by decide +kernel)]; rfl
theorem ce_20 (cy : Nat → ClassId) (base : Nat) : (cellsL cy base)[20]? = some (rend cy base S0 20) := by
  rw [rd_13 (n := 12) (by decide +kernel)]; rfl
theorem ce_21 (cy : Nat → ClassId) (base : Nat) : (cellsL cy base)[21]? = some (rend cy base S0 21) := by
  rw [rd_2 (by decide +kernel)]; rfl
theorem ce_22 (cy : Nat → ClassId) (base : Nat) : (cellsL cy base)[22]? = some (rend cy base S0 22) := by
  rw [rd_12 (n := 12) (by decide +kernel)]; rfl
theorem ce_23 (cy : Nat → ClassId) (base : Nat) : (cellsL cy base)[23]? = some (rend cy base S0 23) := by
  rw [rd_13 (n := 3) (by decide +kernel)]; rfl
theorem ce_24 (cy : Nat → ClassId) (base : Nat) : (cellsL cy base)[24]? = some (rend cy base S0 24) := by
  rw [rd_13 (n := 12) (by decide +kernel)]; rfl
theorem ce_25 (cy : Nat → ClassId) (base : Nat) : (cellsL cy base)[25]? = some (rend cy base S0 25) := by
  rw [rd_0 (by decide +kernel)]; rfl
theorem ce_26 (cy : Nat → ClassId) (base : Nat) : (cellsL cy base)[26]? = some (rend cy base S0 26) := by
  rw [rd_12 (n := 12) (by decide +kernel)]; rfl
theorem ce_27 (cy : Nat → ClassId) (base : Nat) : (cellsL cy base)[27]? = some (rend cy base S0 27) := by
  rw [rd_12 (n := 12) (by decide +kernel)]; rfl
theorem ce_28 (cy : Nat → ClassId) (base : Nat) : (cellsL cy base)[28]? = some (rend cy base S0 28) := by
  rw [rd_3 (by decide +kernel)]; rfl
theorem ce_30 (cy : Nat → ClassId) (base : Nat) : (cellsL cy base)[30]? = some (rend cy base S0 30) := by
  rw [rd_4 (by decide +kernel)]; rfl
theorem ce_31 (cy : Nat → ClassId) (base : Nat) : (cellsL cy base)[31]? = some (rend cy base S0 31) := by
  rw [rd_12 (n := 12) (by decide +kernel)]; rfl
theorem ce_32 (cy : Nat → ClassId) (base : Nat) : (cellsL cy base)[32]? = some (rend cy base S0 32) := by
  rw [rd_13 (n := 3) (by decide +kernel)]; rfl
theorem ce_33 (cy : Nat → ClassId) (base : Nat) : (cellsL cy base)[33]? = some (rend cy base S0 33) := by
  rw [rd_13 (n := 12) (by decide +kernel)]; rfl
theorem ce_34 (cy : Nat → ClassId) (base : Nat) : (cellsL cy base)[34]? = some (rend cy base S0 34) := by
  rw [rd_12 (n := 12) (by decide +kernel)]; rfl
theorem ce_35 (cy : Nat → ClassId) (base : Nat) : (cellsL cy base)[35]? = some (rend cy base S0 35) := by
  rw [rd_4 (by decide +kernel)]; rfl
theorem ce_36 (cy : Nat → ClassId) (base : Nat) : (cellsL cy base)[36]? = some (rend cy base S0 36) := by
  rw [rd_12 (n := 12) (by decide +kernel)]; rfl
theorem ce_37 (cy : Nat → ClassId) (base : Nat) : (cellsL cy base)[37]? = some (rend cy base S0 37) := by
  rw [rd_13 (n := 3) (by decide +kernel)]; rfl
theorem ce_38 (cy : Nat → ClassId) (base : Nat) : (cellsL cy base)[38]? = some (rend cy base S0 38) := by
  rw [rd_13 (n := 12) (by decide +kernel)]; rfl
theorem ce_39 (cy : Nat → ClassId) (base : Nat) : (cellsL cy base)[39]? = some (rend cy base S0 39) := by
  rw [rd_12 (n := 12) (by decide +kernel)]; rfl
theorem ce_40 (cy : Nat → ClassId) (base : Nat) : (cellsL cy base)[40]? = some (rend cy base S0 40) := by
  rw [rd_4 (by decide +kernel)]; rfl
theorem ce_41 (cy : Nat → ClassId) (base : Nat) : (cellsL cy base)[41]? = some (rend cy base S0 41) := by
  rw [rd_12 (n := 12) (by decide +kernel)]; rfl
theorem ce_42 (cy : Nat → ClassId) (base : Nat) : (cellsL cy base)[42]? = some (rend cy base S0 42) := by
  rw [rd_13 (n := 3) (by decide +kernel)]; rfl
theorem ce_43 (cy : Nat → ClassId) (base : Nat) : (cellsL cy base)[43]? = some (rend cy base S0 43) := by
  rw [rd_13 (n := 12) (by decide +kernel)]; rfl
theorem ce_44 (cy : Nat → ClassId) (base : Nat) : (cellsL cy base)[44]? = some (rend cy base S0 44) := by
  rw [rd_12 (n := 12) (by decide +kernel)]; rfl
theorem ce_45 (cy : Nat → ClassId) (base : Nat) : (cellsL cy base)[45]? = some (rend cy base S0 45) := by
  rw [rd_4 (by decide +kernel)]; rfl
theorem ce_46 (cy : Nat → ClassId) (base : Nat) : (cellsL cy base)[46]? = some (rend cy base S0 46) := by
  rw [rd_12 (n := 12) (by decide +kernel)]; rfl
theorem ce_47 (cy : Nat → ClassId) (base : Nat) : (cellsL cy base)[47]? = some (rend cy base S0 47) := by
  rw [rd_13 (n := 3) (by decide +kernel)]; rfl
theorem ce_48 (cy : Nat → ClassId) (base : Nat) : (cellsL cy base)[48]? = some (rend cy base S0 48) := by
  rw [rd_13 (n := 12) (by decide +kernel)]; rfl
theorem ce_49 (cy : Nat → ClassId) (base : Nat) : (cellsL cy base)[49]? = some (rend cy base S0 49) := by
  rw [rd_12 (n := 12) (by decide +kernel)]; rfl
theorem ce_50 (cy : Nat → ClassId) (base : Nat) : (cellsL cy base)[50]? = some (rend cy base S0 50) := by
  rw [rd_4 (by decide +kernel)]; rfl
theorem ce_51 (cy : Nat → ClassId) (base : Nat) : (cellsL cy base)[51]? = some (rend cy base S0 51) := by
  rw [rd_12 (n := 12) (by decide +kernel)]; rfl
theorem ce_52 (cy : Nat → ClassId) (base : Nat) : (cellsL cy base)[52]? = some (rend cy base S0 52) := by
  rw [rd_13 (n := 3) (by decide +kernel)]; rfl
theorem ce_53 (cy : Nat → ClassId) (base : Nat) : (cellsL cy base)[53]? = some (rend cy base S0 53) := by
  rw [rd_13 (n := 12) (by decide +kernel)]; rfl
theorem ce_54 (cy : Nat → ClassId) (base : Nat) : (cellsL cy base)[54]? = some (rend cy base S0 54) := by
  rw [rd_12 (n := 12) (by decide +kernel)]; rfl
theorem ce_55 (cy : Nat → ClassId) (base : Nat) : (cellsL cy base)[55]? = some (rend cy base S0 55) := by
  rw [rd_4 (by decide +kernel)]; rfl
theorem ce_56 (cy : Nat → ClassId) (base : Nat) : (cellsL cy base)[56]? = some (rend cy base S0 56) := by
  rw [rd_12 (n := 12) (by decide +kernel)]; rfl
theorem ce_57 (cy : Nat → ClassId) (base : Nat) : (cellsL cy base)[57]? = some (rend cy base S0 57) := by
  rw [rd_13 (n := 3) (by decide +kernel)]; rfl
theorem ce_58 (cy : Nat → ClassId) (base : Nat) : (cellsL cy base)[58]? = some (rend cy base S0 58) := by
  rw [rd_13 (n := 12) (by decide +kernel)]; rfl
theorem ce_59 (cy : Nat → ClassId) (base : Nat) : (cellsL cy base)[59]? = some (rend cy base S0 59) := by
  rw [rd_12 (n := 12) (by decide +kernel)]; rfl
theorem ce_60 (cy : Nat → ClassId) (base : Nat) : (cellsL cy base)[60]? = some (rend cy base S0 60) := by
  rw [rd_4 (by decide +kernel)]; rfl
theorem ce_61 (cy : Nat → ClassId) (base : Nat) : (cellsL cy base)[61]? = some (rend cy base S0 61) := by
  rw [rd_12 (n := 12) (by decide +kernel)]; rfl
theorem ce_62 (cy : Nat → ClassId) (base : Nat) : (cellsL cy base)[62]? = some (rend cy base S0 62) := by
  rw [rd_13 (n := 3) (by decide +kernel)]; rfl
theorem ce_63 (cy : Nat → ClassId) (base : Nat) : (cellsL cy base)[63]? = some (rend cy base S0 63) := by
  rw [rd_13 (n := 12) (by decide +kernel)]; rfl
theorem ce_64 (cy : Nat → ClassId) (base : Nat) : (cellsL cy base)[64]? = some (rend cy base S0 64) := by
  rw [rd_12 (n := 12) (by decide +kernel)]; rfl
theorem ce_65 (cy : Nat → ClassId) (base : Nat) : (cellsL cy base)[65]? = some (rend cy base S0 65) := by
  rw [rd_4 (by decide +kernel)]; rfl
theorem ce_66 (cy : Nat → ClassId) (base : Nat) : (cellsL cy base)[66]? = some (rend cy base S0 66) := by
  rw [rd_12 (n := 12) (by decide +kernel)]; rfl
theorem ce_67 (cy : Nat → ClassId) (base : Nat) : (cellsL cy base)[67]? = some (rend cy base S0 67) := by
  rw [rd_13 (n := 3) (by decide +kernel)]; rfl
theorem ce_68 (cy : Nat → ClassId) (base : Nat) : (cellsL cy base)[68]? = some (rend cy base S0 68) := by
  rw [rd_13 (n := 12) (by decide +kernel)]; rfl
theorem ce_69 (cy : Nat → ClassId) (base : Nat) : (cellsL cy base)[69]? = some (rend cy base S0 69) := by
  rw [rd_12 (n := 12) (by decide +kernel)]; rfl
theorem ce_70 (cy : Nat → ClassId) (base : Nat) : (cellsL cy base)[70]? = some (rend cy base S0 70) := by
  rw [rd_4 (by decide +kernel)]; rfl
theorem ce_71 (cy : Nat → ClassId) (base : Nat) : (cellsL cy base)[71]? = some (rend cy base S0 71) := by
  rw [rd_12 (n := 12) (by decide +kernel)]; rfl
theorem ce_72 (cy : Nat → ClassId) (base : Nat) : (cellsL cy base)[72]? = some (rend cy base S0 72) := by
  rw [rd_13 (n := 3) (by decide +kernel)]; rfl
theorem ce_73 (cy : Nat → ClassId) (base : Nat) : (cellsL cy base)[73]? = some (rend cy base S0 73) := by
  rw [rd_13 (n := 12) (by decide +kernel)]; rfl
theorem ce_74 (cy : Nat → ClassId) (base : Nat) : (cellsL cy base)[74]? = some (rend cy base S0 74) := by
  rw [rd_12 (n := 12) (by decide +kernel)]; rfl
theorem ce_75 (cy : Nat → ClassId) (base : Nat) : (cellsL cy base)[75]? = some (rend cy base S0 75) := by
  rw [rd_4 (by decide +kernel)]; rfl
theorem ce_76 (cy : Nat → ClassId) (base : Nat) : (cellsL cy base)[76]? = some (rend cy base S0 76) := by
  rw [rd_12 (n := 12) (by decide +kernel)]; rfl
theorem ce_77 (cy : Nat → ClassId) (base : Nat) : (cellsL cy base)[77]? = some (rend cy base S0 77) := by
  rw [rd_13 (n := 3) (by decide +kernel)]; rfl
theorem ce_78 (cy : Nat → ClassId) (base : Nat) : (cellsL cy base)[78]? = some (rend cy base S0 78) := by
  rw [rd_13 (n := 12) (by decide +kernel)]; rfl
theorem ce_79 (cy : Nat → ClassId) (base : Nat) : (cellsL cy base)[79]? = some (rend cy base S0 79) := by
  rw [rd_12 (n := 12) (by decide +kernel)]; rfl
theorem ce_80 (cy : Nat → ClassId) (base : Nat) : (cellsL cy base)[80]? = some (rend cy base S0 80) := by
  rw [rd_4 (by decide +kernel)]; rfl
theorem ce_81 (cy : Nat → ClassId) (base : Nat) : (cellsL cy base)[81]? = some (rend cy base S0 81) := by
  rw [rd_12 (n := 12) (by decide +kernel)]; rfl
theorem ce_82 (cy : Nat → ClassId) (base : Nat) : (cellsL cy base)[82]? = some (rend cy base S0 82) := by
  rw [rd_13 (n := 3) (by decide +kernel)]; rfl
theorem ce_83 (cy : Nat → ClassId) (base : Nat) : (cellsL cy base)[83]? = some (rend cy base S0 83) := by
  rw [rd_13 (n := 12) (by decide +kernel)]; rfl
theorem ce_84 (cy : Nat → ClassId) (base : Nat) : (cellsL cy base)[84]? = some (rend cy base S0 84) := by
  rw [rd_12 (n := 12) (by decide +kernel)]; rfl
theorem ce_85 (cy : Nat → ClassId) (base : Nat) : (cellsL cy base)[85]? = some (rend cy base S0 85) := by
  rw [rd_4 (by decide +kernel)]; rfl
theorem ce_86 (cy : Nat → ClassId) (base : Nat) : (cellsL cy base)[86]? = some (rend cy base S0 86) := by
  rw [rd_12 (n := 12) (by decide +kernel)]; rfl
theorem ce_87 (cy : Nat → ClassId) (base : Nat) : (cellsL cy base)[87]? = some (rend cy base S0 87) := by
  rw [rd_13 (n := 3) (by decide +kernel)]; rfl
theorem ce_88 (cy : Nat → ClassId) (base : Nat) : (cellsL cy base)[88]? = some (rend cy base S0 88) := by
  rw [rd_13 (n := 12) (by decide +kernel)]; rfl
theorem ce_89 (cy : Nat → ClassId) (base : Nat) : (cellsL cy base)[89]? = some (rend cy base S0 89) := by
  rw [rd_12 (n := 12) (by decide +kernel)]; rfl
theorem ce_90 (cy : Nat → ClassId) (base : Nat) : (cellsL cy base)[90]? = some (rend cy base S0 90) := by
  rw [rd_4 (by decide +kernel)]; rfl
theorem ce_91 (cy : Nat → ClassId) (base : Nat) : (cellsL cy base)[91]? = some (rend cy base S0 91) := by
  rw [rd_12 (n := 12) (by decide +kernel)]; rfl
theorem ce_92 (cy : Nat → ClassId) (base : Nat) : (cellsL cy base)[92]? = some (rend cy base S0 92) := by
  rw [rd_13 (n := 3) (by decide +kernel)]; rfl
theorem ce_93 (cy : Nat → ClassId) (base : Nat) : (cellsL cy base)[93]? = some (rend cy base S0 93) := by
  rw [rd_13 (n := 12) (by decide +kernel)]; rfl
theorem ce_94 (cy : Nat → ClassId) (base : Nat) : (cellsL cy base)[94]? = some (rend cy base S0 94) := by
  rw [rd_12 (n := 12) (by decide +kernel)]; rfl
theorem ce_95 (cy : Nat → ClassId) (base : Nat) : (cellsL cy base)[95]? = some (rend cy base S0 95) := by
  rw [rd_4 (by decide +kernel)]; rfl
theorem ce_96 (cy : Nat → ClassId) (base : Nat) : (cellsL cy base)[96]? = some (rend cy base S0 96) := by
  rw [rd_12 (n := 12) (by decide +kernel)]; rfl
theorem ce_97 (cy : Nat → ClassId) (base : Nat) : (cellsL cy base)[97]? = some (rend cy base S0 97) := by
  rw [rd_13 (n := 3) (by decide +kernel)]; rfl
theorem ce_98 (cy : Nat → ClassId) (base : Nat) : (cellsL cy base)[98]? = some (rend cy base S0 98) := by
  rw [rd_13 (n := 12) (by decide +kernel)]; rfl
theorem ce_99 (cy : Nat → ClassId) (base : Nat) : (cellsL cy base)[99]? = some (rend cy base S0 99) := by
  rw [rd_12 (n := 12) (by decide +kernel)]; rfl
theorem ce_100 (cy : Nat → ClassId) (base : Nat) : (cellsL cy base)[100]? = some (rend cy base S0 100) := by
  rw [rd_4 (by decide +kernel)]; rfl
theorem ce_101 (cy : Nat → ClassId) (base : Nat) : (cellsL cy base)[101]? = some (rend cy base S0 101) := by
  rw [rd_12 (n := 12) (by decide +kernel)]; rfl
theorem ce_102 (cy : Nat → ClassId) (base : Nat) : (cellsL cy base)[102]? = some (rend cy base S0 102) := by
  rw [rd_13 (n := 3) (by decide +kernel)]; rfl
theorem ce_103 (cy : Nat → ClassId) (base : Nat) : (cellsL cy base)[103]? = some (rend cy base S0 103) := by
  rw [rd_13 (n := 12) (by decide +kernel)]; rfl
theorem ce_104 (cy : Nat → ClassId) (base : Nat) : (cellsL cy base)[104]? = some (rend cy base S0 104) := by
  rw [rd_12 (n := 12) (by decide +kernel)]; rfl
theorem ce_105 (cy : Nat → ClassId) (base : Nat) : (cellsL cy base)[105]? = some (rend cy base S0 105) := by
  rw [rd_4 (by decide +kernel)]; rfl
theorem ce_106 (cy : Nat → ClassId) (base : Nat) : (cellsL cy base)[106]? = some (rend cy base S0 106) := by
  rw [rd_12 (n := 12) (by decide +kernel)]; rfl
theorem ce_107 (cy : Nat → ClassId) (base : Nat) : (cellsL cy base)[107]? = some (rend cy base S0 107) := by
  rw [rd_13 (n := 3) (by decide +kernel)]; rfl
theorem ce_108 (cy : Nat → ClassId) (base : Nat) : (cellsL cy base)[108]? = some (rend cy base S0 108) := by
  rw [rd_13 (n := 12) (by decide +kernel)]; rfl
theorem ce_109 (cy : Nat → ClassId) (base : Nat) : (cellsL cy base)[109]? = some (rend cy base S0 109) := by
  rw [rd_12 (n := 12) (by decide +kernel)]; rfl
theorem ce_110 (cy : Nat → ClassId) (base : Nat) : (cellsL cy base)[110]? = some (rend cy base S0 110) := by
  rw [rd_4 (by decide +kernel)]; rfl
theorem ce_111 (cy : Nat → ClassId) (base : Nat) : (cellsL cy base)[111]? = some (rend cy base S0 111) := by
  rw [rd_12 (n := 12) (by decide +kernel)]; rfl
theorem ce_112 (cy : Nat → ClassId) (base : Nat) : (cellsL cy base)[112]? = some (rend cy base S0 112) := by
  rw [rd_13 (n := 3) (by decide +kernel)]; rfl
theorem ce_113 (cy : Nat → ClassId) (base : Nat) : (cellsL cy base)[113]? = some (rend cy base S0 113) := by
  rw [rd_13 (n := 12) (by decide +kernel)]; rfl
theorem ce_114 (cy : Nat → ClassId) (base : Nat) : (cellsL cy base)[114]? = some (rend cy base S0 114) := by
  rw [rd_12 (n := 12) (by decide +kernel)]; rfl
theorem ce_115 (cy : Nat → ClassId) (base : Nat) : (cellsL cy base)[115]? = some (rend cy base S0 115) := by
  rw [rd_4 (by decide +kernel)]; rfl
theorem ce_116 (cy : Nat → ClassId) (base : Nat) : (cellsL cy base)[116]? = some (rend cy base S0 116) := by
  rw [rd_12 (n := 12) (by decide +kernel)]; rfl
theorem ce_117 (cy : Nat → ClassId) (base : Nat) : (cellsL cy base)[117]? = some (rend cy base S0 117) := by
  rw [rd_13 (n := 3) (by decide +kernel)]; rfl
theorem ce_118 (cy : Nat → ClassId) (base : Nat) : (cellsL cy base)[118]? = some (rend cy base S0 118) := by
  rw [rd_13 (n := 12) (by decide +kernel)]; rfl
theorem ce_119 (cy : Nat → ClassId) (base : Nat) : (cellsL cy base)[119]? = some (rend cy base S0 119) := by
  rw [rd_12 (n := 12) (by decide +kernel)]; rfl
theorem ce_120 (cy : Nat → ClassId) (base : Nat) : (cellsL cy base)[120]? = some (rend cy base S0 120) := by
  rw [rd_4 (by decide +kernel)]; rfl
theorem ce_121 (cy : Nat → ClassId) (base : Nat) : (cellsL cy base)[121]? = some (rend cy base S0 121) := by
  rw [rd_12 (n := 12) (by decide +kernel)]; rfl
theorem ce_122 (cy : Nat → ClassId) (base : Nat) : (cellsL cy base)[122]? = some (rend cy base S0 122) := by
  rw [rd_13 (n := 3) (by decide +kernel)]; rfl
theorem ce_123 (cy : Nat → ClassId) (base : Nat) : (cellsL cy base)[123]? = some (rend cy base S0 123) := by
  rw [rd_13 (n := 12) (by decide +kernel)]; rfl
theorem ce_124 (cy : Nat → ClassId) (base : Nat) : (cellsL cy base)[124]? = some (rend cy base S0 124) := by
  rw [rd_12 (n := 12) (by decide +kernel)]; rfl
theorem ce_125 (cy : Nat → ClassId) (base : Nat) : (cellsL cy base)[125]? = some (rend cy base S0 125) := by
  rw [rd_4 (by decide +kernel)]; rfl
theorem ce_126 (cy : Nat → ClassId) (base : Nat) : (cellsL cy base)[126]? = some (rend cy base S0 126) := by
  rw [rd_12 (n := 12) (by decide +kernel)]; rfl
theorem ce_127 (cy : Nat → ClassId) (base : Nat) : (cellsL cy base)[127]? = some (rend cy base S0 127) := by
  rw [rd_13 (n := 3) (by decide +kernel)]; rfl
theorem ce_128 (cy : Nat → ClassId) (base : Nat) : (cellsL cy base)[128]? = some (rend cy base S0 128) := by
  rw [rd_13 (n := 12) (by decide +kernel)]; rfl
theorem ce_129 (cy : Nat → ClassId) (base : Nat) : (cellsL cy base)[129]? = some (rend cy base S0 129) := by
  rw [rd_12 (n := 12) (by decide +kernel)]; rfl
theorem ce_130 (cy : Nat → ClassId) (base : Nat) : (cellsL cy base)[130]? = some (rend cy base S0 130) := by
  rw [rd_1 (by decide +kernel)]; rfl
theorem ce_131 (cy : Nat → ClassId) (base : Nat) : (cellsL cy base)[131]? = some (rend cy base S0 131) := by
  rw [rd_12 (n := 12) (by decide +kernel)]; rfl
theorem ce_132 (cy : Nat → ClassId) (base : Nat) : (cellsL cy base)[132]? = some (rend cy base S0 132) := by
  rw [rd_6 (by decide +kernel)]; rfl
theorem ce_133 (cy : Nat → ClassId) (base : Nat) : (cellsL cy base)[133]? = some (rend cy base S0 133) := by
  rw [rd_1 (by decide +kernel)]; rfl
theorem ce_134 (cy : Nat → ClassId) (base : Nat) : (cellsL cy base)[134]? = some (rend cy base S0 134) := by
  rw [rd_12 (n := 12) (by decide +kernel)]; rfl
theorem ce_135 (cy : Nat → ClassId) (base : Nat) : (cellsL cy base)[135]? = some (rend cy base S0 135) := by
  rw [rd_12 (n := 12) (by decide +kernel)]; rfl
theorem ce_136 (cy : Nat → ClassId) (base : Nat) : (cellsL cy base)[136]? = some (rend cy base S0 136) := by
  rw [rd_12 (n := 2400) (by decide +kernel)]; rfl
theorem ce_137 (cy : Nat → ClassId) (base : Nat) : (cellsL cy base)[137]? = some (rend cy base S0 137) := by
  rw [rd_8 (by decide +kernel)]; rfl
theorem ce_139 (cy : Nat → ClassId) (base : Nat) : (cellsL cy base)[139]? = some (rend cy base S0 139) := by
  rw [rd_13 (n := 12) (by decide +kernel)]; rfl
theorem ce_140 (cy : Nat → ClassId) (base : Nat) : (cellsL cy base)[140]? = some (rend cy base S0 140) := by
  rw [rd_13 (n := 12) (by decide +kernel)]; rfl
theorem ce_141 (cy : Nat → ClassId) (base : Nat) : (cellsL cy base)[141]? = some (rend cy base S0 141) := by
  rw [rd_13 (n := 12) (by decide +kernel)]; rfl
theorem ce_142 (cy : Nat → ClassId) (base : Nat) : (cellsL cy base)[142]? = some (rend cy base S0 142) := by
  rw [rd_13 (n := 12) (by decide +kernel)]; rfl
theorem ce_143 (cy : Nat → ClassId) (base : Nat) : (cellsL cy base)[143]? = some (rend cy base S0 143) := by
  rw [rd_13 (n := 12) (by decide +kernel)]; rfl
theorem ce_144 (cy : Nat → ClassId) (base : Nat) : (cellsL cy base)[144]? = some (rend cy base S0 144) := by
  rw [rd_13 (n := 12) (by decide +kernel)]; rfl
theorem ce_145 (cy : Nat → ClassId) (base : Nat) : (cellsL cy base)[145]? = some (rend cy base S0 145) := by
  rw [rd_13 (n := 12) (by decide +kernel)]; rfl
theorem ce_146 (cy : Nat → ClassId) (base : Nat) : (cellsL cy base)[146]? = some (rend cy base S0 146) := by
  rw [rd_13 (n := 12) (by decide +kernel)]; rfl
theorem ce_147 (cy : Nat → ClassId) (base : Nat) : (cellsL cy base)[147]? = some (rend cy base S0 147) := by
  rw [rd_13 (n := 12) (by decide +kernel)]; rfl
theorem ce_148 (cy : Nat → ClassId) (base : Nat) : (cellsL cy base)[148]? = some (rend cy base S0 148) := by
  rw [rd_13 (n := 12) (by decide +kernel)]; rfl
theorem ce_149 (cy : Nat → ClassId) (base : Nat) : (cellsL cy base)[149]? = some (rend cy base S0 149) := by
  rw [rd_13 (n := 12) (by decide +kernel)]; rfl
theorem ce_150 (cy : Nat → ClassId) (base : Nat) : (cellsL cy base)[150]? = some (rend cy base S0 150) := by
  rw [rd_13 (n := 12) (by decide +kernel)]; rfl
theorem ce_152 (cy : Nat → ClassId) (base : Nat) : (cellsL cy base)[152]? = some (rend cy base S0 152) := by
  rw [rd_12 (n := 12) (by decide +kernel)]; rfl
theorem ce_153 (cy : Nat → ClassId) (base : Nat) : (cellsL cy base)[153]? = some (rend cy base S0 153) := by
  rw [rd_12 (n := 12) (by decide +kernel)]; rfl
theorem ce_154 (cy : Nat → ClassId) (base : Nat) : (cellsL cy base)[154]? = some (rend cy base S0 154) := by
  rw [rd_12 (n := 12) (by decide +kernel)]; rfl
theorem ce_155 (cy : Nat → ClassId) (base : Nat) : (cellsL cy base)[155]? = some (rend cy base S0 155) := by
  rw [rd_12 (n := 12) (by decide +kernel)]; rfl
theorem ce_156 (cy : Nat → ClassId) (base : Nat) : (cellsL cy base)[156]? = some (rend cy base S0 156) := by
  rw [rd_12 (n := 12) (by decide +kernel)]; rfl
theorem ce_157 (cy : Nat → ClassId) (base : Nat) : (cellsL cy base)[157]? = some (rend cy base S0 157) := by
  rw [rd_12 (n := 12) (by decide +kernel)]; rfl
theorem ce_158 (cy : Nat → ClassId) (base : Nat) : (cellsL cy base)[158]? = some (rend cy base S0 158) := by
  rw [rd_12 (n := 12) (by decide +kernel)]; rfl
theorem ce_159 (cy : Nat → ClassId) (base : Nat) : (cellsL cy base)[159]? = some (rend cy base S0 159) := by
  rw [rd_12 (n := 12) (by decide +kernel)]; rfl
theorem ce_160 (cy : Nat → ClassId) (base : Nat) : (cellsL cy base)[160]? = some (rend cy base S0 160) := by
  rw [rd_14 (n := 8) (by decide +kernel)]; rfl
theorem ce_162 (cy : Nat → ClassId) (base : Nat) : (cellsL cy base)[162]? = some (rend cy base S0 162) := by
  rw [rd_9 (by decide +kernel)]; rfl
theorem ce_163 (cy : Nat → ClassId) (base : Nat) : (cellsL cy base)[163]? = some (rend cy base S0 163) := by
  rw [rd_13 (n := 16) (by decide +kernel)]; rfl
theorem ce_164 (cy : Nat → ClassId) (base : Nat) : (cellsL cy base)[164]? = some (rend cy base S0 164) := by
  rw [rd_9 (by decide +kernel)]; rfl
theorem ce_165 (cy : Nat → ClassId) (base : Nat) : (cellsL cy base)[165]? = some (rend cy base S0 165) := by
  rw [rd_13 (n := 16) (by decide +kernel)]; rfl
theorem ce_166 (cy : Nat → ClassId) (base : Nat) : (cellsL cy base)[166]? = some (rend cy base S0 166) := by
  rw [rd_9 (by decide +kernel)]; rfl
theorem ce_167 (cy : Nat → ClassId) (base : Nat) : (cellsL cy base)[167]? = some (rend cy base S0 167) := by
  rw [rd_13 (n := 16) (by decide +kernel)]; rfl
theorem ce_168 (cy : Nat → ClassId) (base : Nat) : (cellsL cy base)[168]? = some (rend cy base S0 168) := by
  rw [rd_9 (by decide +kernel)]; rfl
theorem ce_169 (cy : Nat → ClassId) (base : Nat) : (cellsL cy base)[169]? = some (rend cy base S0 169) := by
  rw [rd_13 (n := 16) (by decide +kernel)]; rfl
theorem ce_170 (cy : Nat → ClassId) (base : Nat) : (cellsL cy base)[170]? = some (rend cy base S0 170) := by
  rw [rd_5 (by decide +kernel)]; rfl
theorem ce_171 (cy : Nat → ClassId) (base : Nat) : (cellsL cy base)[171]? = some (rend cy base S0 171) := by
  rw [rd_12 (n := 200) (by decide +kernel)]; rfl
theorem ce_172 (cy : Nat → ClassId) (base : Nat) : (cellsL cy base)[172]? = some (rend cy base S0 172) := by
  rw [rd_12 (n := 12) (by decide +kernel)]; rfl
theorem ce_173 (cy : Nat → ClassId) (base : Nat) : (cellsL cy base)[173]? = some (rend cy base S0 173) := by
  rw [rd_11 (by decide +kernel)]; rfl
theorem ce_174 (cy : Nat → ClassId) (base : Nat) : (cellsL cy base)[174]? = some (rend cy base S0 174) := by
  rw [rd_12 (n := 12) (by decide +kernel)]; rfl
theorem ce_175 (cy : Nat → ClassId) (base : Nat) : (cellsL cy base)[175]? = some (rend cy base S0 175) := by
  rw [rd_12 (n := 180) (by decide +kernel)]; rfl
theorem ce_176 (cy : Nat → ClassId) (base : Nat) : (cellsL cy base)[176]? = some (rend cy base S0 176) := by
  rw [rd_13 (n := 15) (by decide +kernel)]; rfl
theorem ce_177 (cy : Nat → ClassId) (base : Nat) : (cellsL cy base)[177]? = some (rend cy base S0 177) := by
  rw [rd_13 (n := 12) (by decide +kernel)]; rfl
theorem ce_178 (cy : Nat → ClassId) (base : Nat) : (cellsL cy base)[178]? = some (rend cy base S0 178) := by
  rw [rd_12 (n := 12) (by decide +kernel)]; rfl
theorem ce_179 (cy : Nat → ClassId) (base : Nat) : (cellsL cy base)[179]? = some (rend cy base S0 179) := by
  rw [rd_12 (n := 12) (by decide +kernel)]; rfl
theorem ce_180 (cy : Nat → ClassId) (base : Nat) : (cellsL cy base)[180]? = some (rend cy base S0 180) := by
  rw [rd_12 (n := 12) (by decide +kernel)]; rfl
theorem ce_181 (cy : Nat → ClassId) (base : Nat) : (cellsL cy base)[181]? = some (rend cy base S0 181) := by
  rw [rd_13 (n := 96) (by decide +kernel)]; rfl
theorem ce_182 (cy : Nat → ClassId) (base : Nat) : (cellsL cy base)[182]? = some (rend cy base S0 182) := by
  rw [rd_14 (n := 8) (by decide +kernel)]; rfl
theorem ce_183 (cy : Nat → ClassId) (base : Nat) : (cellsL cy base)[183]? = some (rend cy base S0 183) := by
  rw [rd_12 (n := 2400) (by decide +kernel)]; rfl
theorem ce_184 (cy : Nat → ClassId) (base : Nat) : (cellsL cy base)[184]? = some (rend cy base S0 184) := by
  rw [rd_12 (n := 4) (by decide +kernel)]; rfl
theorem ce_185 (cy : Nat → ClassId) (base : Nat) : (cellsL cy base)[185]? = some (rend cy base S0 185) := by
  rw [rd_12 (n := 4) (by decide +kernel)]; rfl
theorem ce_186 (cy : Nat → ClassId) (base : Nat) : (cellsL cy base)[186]? = some (rend cy base S0 186) := by
  rw [rd_13 (n := 64) (by decide +kernel)]; rfl
theorem ce_187 (cy : Nat → ClassId) (base : Nat) : (cellsL cy base)[187]? = some (rend cy base S0 187) := by
  rw [rd_12 (n := 200) (by decide +kernel)]; rfl
theorem ce_188 (cy : Nat → ClassId) (base : Nat) : (cellsL cy base)[188]? = some (rend cy base S0 188) := by
  rw [rd_13 (n := 300) (by decide +kernel)]; rfl
theorem ce_189 (cy : Nat → ClassId) (base : Nat) : (cellsL cy base)[189]? = some (rend cy base S0 189) := by
  rw [rd_13 (n := 240) (by decide +kernel)]; rfl
theorem ce_190 (cy : Nat → ClassId) (base : Nat) : (cellsL cy base)[190]? = some (rend cy base S0 190) := by
  rw [rd_13 (n := 20) (by decide +kernel)]; rfl
theorem ce_191 (cy : Nat → ClassId) (base : Nat) : (cellsL cy base)[191]? = some (rend cy base S0 191) := by
  rw [rd_12 (n := 240) (by decide +kernel)]; rfl
theorem ce_192 (cy : Nat → ClassId) (base : Nat) : (cellsL cy base)[192]? = some (rend cy base S0 192) := by
  rw [rd_12 (n := 20) (by decide +kernel)]; rfl
theorem ce_193 (cy : Nat → ClassId) (base : Nat) : (cellsL cy base)[193]? = some (rend cy base S0 193) := by
  rw [rd_12 (n := 12) (by decide +kernel)]; rfl
theorem ce_194 (cy : Nat → ClassId) (base : Nat) : (cellsL cy base)[194]? = some (rend cy base S0 194) := by
  rw [rd_13 (n := 15) (by decide +kernel)]; rfl
theorem ce_195 (cy : Nat → ClassId) (base : Nat) : (cellsL cy base)[195]? = some (rend cy base S0 195) := by
  rw [rd_13 (n := 15) (by decide +kernel)]; rfl
theorem ce_196 (cy : Nat → ClassId) (base : Nat) : (cellsL cy base)[196]? = some (rend cy base S0 196) := by
  rw [rd_13 (n := 144) (by decide +kernel)]; rfl
theorem ce_197 (cy : Nat → ClassId) (base : Nat) : (cellsL cy base)[197]? = some (rend cy base S0 197) := by
  rw [rd_12 (n := 2412) (by decide +kernel)]; rfl
theorem ce_198 (cy : Nat → ClassId) (base : Nat) : (cellsL cy base)[198]? = some (rend cy base S0 198) := by
  rw [rd_13 (n := 16) (by decide +kernel)]; rfl
theorem ce_3 {D : va_G} (cy : Nat → ClassId) (base : Nat) {H : Heap} (hP : va_P D vwCl (wl base (cellsL cy base)) H) : va_at D vwCl (base + 3, rend cy base S0 3) H := by
  rw [rd_17 (n := 12) (by decide +kernel)]
  refine at_refs (hP 3 _ (wl_at rfl)) (fun i hi => ?_)
  have h : rf 3 i = 4 + i := by simp [rf]
  rw [h]
theorem ce_29 {D : va_G} (cy : Nat → ClassId) (base : Nat) {H : Heap} (hP : va_P D vwCl (wl base (cellsL cy base)) H) : va_at D vwCl (base + 29, rend cy base S0 29) H := by
  rw [rd_15 (n := 20) (by decide +kernel)]
  refine at_refs (hP 29 _ (wl_at rfl)) (fun i hi => ?_)
  rcases (show i = 0 ∨ i = 1 ∨ i = 2 ∨ i = 3 ∨ i = 4 ∨ i = 5 ∨ i = 6 ∨ i = 7 ∨ i = 8 ∨ i = 9 ∨ i = 10 ∨ i = 11 ∨ i = 12 ∨ i = 13 ∨ i = 14 ∨ i = 15 ∨ i = 16 ∨ i = 17 ∨ i = 18 ∨ i = 19 by omega) with rfl | rfl | rfl | rfl | rfl | rfl | rfl | rfl | rfl | rfl | rfl | rfl | rfl | rfl | rfl | rfl | rfl | rfl | rfl | rfl <;> rfl
theorem ce_138 {D : va_G} (cy : Nat → ClassId) (base : Nat) {H : Heap} (hP : va_P D vwCl (wl base (cellsL cy base)) H) : va_at D vwCl (base + 138, rend cy base S0 138) H := by
  rw [rd_18 (n := 12) (by decide +kernel)]
  refine at_refs (hP 138 _ (wl_at rfl)) (fun i hi => ?_)
  have h : rf 138 i = 139 + i := by simp [rf]
  rw [h]
theorem ce_151 {D : va_G} (cy : Nat → ClassId) (base : Nat) {H : Heap} (hP : va_P D vwCl (wl base (cellsL cy base)) H) : va_at D vwCl (base + 151, rend cy base S0 151) H := by
  rw [rd_17 (n := 8) (by decide +kernel)]
  refine at_refs (hP 151 _ (wl_at rfl)) (fun i hi => ?_)
  have h : rf 151 i = 152 + i := by simp [rf]
  rw [h]
theorem ce_161 {D : va_G} (cy : Nat → ClassId) (base : Nat) {H : Heap} (hP : va_P D vwCl (wl base (cellsL cy base)) H) : va_at D vwCl (base + 161, rend cy base S0 161) H := by
  rw [rd_16 (n := 4) (by decide +kernel)]
  refine at_refs (hP 161 _ (wl_at rfl)) (fun i hi => ?_)
  rcases (show i = 0 ∨ i = 1 ∨ i = 2 ∨ i = 3 by omega) with rfl | rfl | rfl | rfl <;> rfl
theorem cellsP {D : va_G} (cy : Nat → ClassId) (base : Nat) {H : Heap} (hP : va_P D vwCl (wl base (cellsL cy base)) H) : va_P D vwCl (wld cy base S0) H := by
  have key : ∀ k, k < 199 → va_at D vwCl (base + k, rend cy base S0 k) H := by
    intro k hk
    match k, hk with
    | 0, _ => exact hP 0 _ (wl_at (ce_0 cy base))
    | 1, _ => exact hP 1 _ (wl_at (ce_1 cy base))
    | 2, _ => exact hP 2 _ (wl_at (ce_2 cy base))
    | 3, _ => exact ce_3 cy base hP
    | 4, _ => exact hP 4 _ (wl_at (ce_4 cy base))
    | 5, _ => exact hP 5 _ (wl_at (ce_5 cy base))
    | 6, _ => exact hP 6 _ (wl_at (ce_6 cy base))
    | 7, _ => exact hP 7 _ (wl_at (ce_7 cy base))
    | 8, _ => exact hP 8 _ (wl_at (ce_8 cy base))
    | 9, _ => exact hP 9 _ (wl_at (ce_9 cy base))
    | 10, _ => exact hP 10 _ (wl_at (ce_10 cy base))
    | 11, _ => exact hP 11 _ (wl_at (ce_11 cy base))
    | 12, _ => exact hP 12 _ (wl_at (ce_12 cy base))
    | 13, _ => exact hP 13 _ (wl_at (ce_13 cy base))
    | 14, _ => exact hP 14 _ (wl_at (ce_14 cy base))
    | 15, _ => exact hP 15 _ (wl_at (ce_15 cy base))
    | 16, _ => exact hP 16 _ (wl_at (ce_16 cy base))
    | 17, _ => exact hP 17 _ (wl_at (ce_17 cy base))
    | 18, _ => exact hP 18 _ (wl_at (ce_18 cy base))
    | 19, _ => exact hP 19 _ (wl_at (ce_19 cy base))
    | 20, _ => exact hP 20 _ (wl_at (ce_20 cy base))
    | 21, _ => exact hP 21 _ (wl_at (ce_21 cy base))
    | 22, _ => exact hP 22 _ (wl_at (ce_22 cy base))
    | 23, _ => exact hP 23 _ (wl_at (ce_23 cy base))
    | 24, _ => exact hP 24 _ (wl_at (ce_24 cy base))
    | 25, _ => exact hP 25 _ (wl_at (ce_25 cy base))
    | 26, _ => exact hP 26 _ (wl_at (ce_26 cy base))
    | 27, _ => exact hP 27 _ (wl_at (ce_27 cy base))
    | 28, _ => exact hP 28 _ (wl_at (ce_28 cy base))
    | 29, _ => exact ce_29 cy base hP
    | 30, _ => exact hP 30 _ (wl_at (ce_30 cy base))
    | 31, _ => exact hP 31 _ (wl_at (ce_31 cy base))
    | 32, _ => exact hP 32 _ (wl_at (ce_32 cy base))
    | 33, _ => exact hP 33 _ (wl_at (ce_33 cy base))
    | 34, _ => exact hP 34 _ (wl_at (ce_34 cy base))
    | 35, _ => exact hP 35 _ (wl_at (ce_35 cy base))
    | 36, _ => exact hP 36 _ (wl_at (ce_36 cy base))
    | 37, _ => exact hP 37 _ (wl_at (ce_37 cy base))
    | 38, _ => exact hP 38 _ (wl_at (ce_38 cy base))
    | 39, _ => exact hP 39 _ (wl_at (ce_39 cy base))
    | 40, _ => exact hP 40 _ (wl_at (ce_40 cy base))
    | 41, _ => exact hP 41 _ (wl_at (ce_41 cy base))
    | 42, _ => exact hP 42 _ (wl_at (ce_42 cy base))
    | 43, _ => exact hP 43 _ (wl_at (ce_43 cy base))
    | 44, _ => exact hP 44 _ (wl_at (ce_44 cy base))
    | 45, _ => exact hP 45 _ (wl_at (ce_45 cy base))
    | 46, _ => exact hP 46 _ (wl_at (ce_46 cy base))
    | 47, _ => exact hP 47 _ (wl_at (ce_47 cy base))
    | 48, _ => exact hP 48 _ (wl_at (ce_48 cy base))
    | 49, _ => exact hP 49 _ (wl_at (ce_49 cy base))
    | 50, _ => exact hP 50 _ (wl_at (ce_50 cy base))
    | 51, _ => exact hP 51 _ (wl_at (ce_51 cy base))
    | 52, _ => exact hP 52 _ (wl_at (ce_52 cy base))
    | 53, _ => exact hP 53 _ (wl_at (ce_53 cy base))
    | 54, _ => exact hP 54 _ (wl_at (ce_54 cy base))
    | 55, _ => exact hP 55 _ (wl_at (ce_55 cy base))
    | 56, _ => exact hP 56 _ (wl_at (ce_56 cy base))
    | 57, _ => exact hP 57 _ (wl_at (ce_57 cy base))
    | 58, _ => exact hP 58 _ (wl_at (ce_58 cy base))
    | 59, _ => exact hP 59 _ (wl_at (ce_59 cy base))
    | 60, _ => exact hP 60 _ (wl_at (ce_60 cy base))
    | 61, _ => exact hP 61 _ (wl_at (ce_61 cy base))
    | 62, _ => exact hP 62 _ (wl_at (ce_62 cy base))
    | 63, _ => exact hP 63 _ (wl_at (ce_63 cy base))
    | 64, _ => exact hP 64 _ (wl_at (ce_64 cy base))
    | 65, _ => exact hP 65 _ (wl_at (ce_65 cy base))
    | 66, _ => exact hP 66 _ (wl_at (ce_66 cy base))
    | 67, _ => exact hP 67 _ (wl_at (ce_67 cy base))
    | 68, _ => exact hP 68 _ (wl_at (ce_68 cy base))
    | 69, _ => exact hP 69 _ (wl_at (ce_69 cy base))
    | 70, _ => exact hP 70 _ (wl_at (ce_70 cy base))
    | 71, _ => exact hP 71 _ (wl_at (ce_71 cy base))
    | 72, _ => exact hP 72 _ (wl_at (ce_72 cy base))
    | 73, _ => exact hP 73 _ (wl_at (ce_73 cy base))
    | 74, _ => exact hP 74 _ (wl_at (ce_74 cy base))
    | 75, _ => exact hP 75 _ (wl_at (ce_75 cy base))
    | 76, _ => exact hP 76 _ (wl_at (ce_76 cy base))
    | 77, _ => exact hP 77 _ (wl_at (ce_77 cy base))
    | 78, _ => exact hP 78 _ (wl_at (ce_78 cy base))
    | 79, _ => exact hP 79 _ (wl_at (ce_79 cy base))
    | 80, _ => exact hP 80 _ (wl_at (ce_80 cy base))
    | 81, _ => exact hP 81 _ (wl_at (ce_81 cy base))
    | 82, _ => exact hP 82 _ (wl_at (ce_82 cy base))
    | 83, _ => exact hP 83 _ (wl_at (ce_83 cy base))
    | 84, _ => exact hP 84 _ (wl_at (ce_84 cy base))
    | 85, _ => exact hP 85 _ (wl_at (ce_85 cy base))
    | 86, _ => exact hP 86 _ (wl_at (ce_86 cy base))
    | 87, _ => exact hP 87 _ (wl_at (ce_87 cy base))
    | 88, _ => exact hP 88 _ (wl_at (ce_88 cy base))
    | 89, _ => exact hP 89 _ (wl_at (ce_89 cy base))
    | 90, _ => exact hP 90 _ (wl_at (ce_90 cy base))
    | 91, _ => exact hP 91 _ (wl_at (ce_91 cy base))
    | 92, _ => exact hP 92 _ (wl_at (ce_92 cy base))
    | 93, _ => exact hP 93 _ (wl_at (ce_93 cy base))
    | 94, _ => exact hP 94 _ (wl_at (ce_94 cy base))
    | 95, _ => exact hP 95 _ (wl_at (ce_95 cy base))
    | 96, _ => exact hP 96 _ (wl_at (ce_96 cy base))
    | 97, _ => exact hP 97 _ (wl_at (ce_97 cy base))
    | 98, _ => exact hP 98 _ (wl_at (ce_98 cy base))
    | 99, _ => exact hP 99 _ (wl_at (ce_99 cy base))
    | 100, _ => exact hP 100 _ (wl_at (ce_100 cy base))
    | 101, _ => exact hP 101 _ (wl_at (ce_101 cy base))
    | 102, _ => exact hP 102 _ (wl_at (ce_102 cy base))
    | 103, _ => exact hP 103 _ (wl_at (ce_103 cy base))
    | 104, _ => exact hP 104 _ (wl_at (ce_104 cy base))
    | 105, _ => exact hP 105 _ (wl_at (ce_105 cy base))
    | 106, _ => exact hP 106 _ (wl_at (ce_106 cy base))
    | 107, _ => exact hP 107 _ (wl_at (ce_107 cy base))
    | 108, _ => exact hP 108 _ (wl_at (ce_108 cy base))
    | 109, _ => exact hP 109 _ (wl_at (ce_109 cy base))
    | 110, _ => exact hP 110 _ (wl_at (ce_110 cy base))
    | 111, _ => exact hP 111 _ (wl_at (ce_111 cy base))
    | 112, _ => exact hP 112 _ (wl_at (ce_112 cy base))
    | 113, _ => exact hP 113 _ (wl_at (ce_113 cy base))
    | 114, _ => exact hP 114 _ (wl_at (ce_114 cy base))
    | 115, _ => exact hP 115 _ (wl_at (ce_115 cy base))
    | 116, _ => exact hP 116 _ (wl_at (ce_116 cy base))
    | 117, _ => exact hP 117 _ (wl_at (ce_117 cy base))
    | 118, _ => exact hP 118 _ (wl_at (ce_118 cy base))
    | 119, _ => exact hP 119 _ (wl_at (ce_119 cy base))
    | 120, _ => exact hP 120 _ (wl_at (ce_120 cy base))
    | 121, _ => exact hP 121 _ (wl_at (ce_121 cy base))
    | 122, _ => exact hP 122 _ (wl_at (ce_122 cy base))
    | 123, _ => exact hP 123 _ (wl_at (ce_123 cy base))
    | 124, _ => exact hP 124 _ (wl_at (ce_124 cy base))
    | 125, _ => exact hP 125 _ (wl_at (ce_125 cy base))
    | 126, _ => exact hP 126 _ (wl_at (ce_126 cy base))
    | 127, _ => exact hP 127 _ (wl_at (ce_127 cy base))
    | 128, _ => exact hP 128 _ (wl_at (ce_128 cy base))
    | 129, _ => exact hP 129 _ (wl_at (ce_129 cy base))
    | 130, _ => exact hP 130 _ (wl_at (ce_130 cy base))
    | 131, _ => exact hP 131 _ (wl_at (ce_131 cy base))
    | 132, _ => exact hP 132 _ (wl_at (ce_132 cy base))
    | 133, _ => exact hP 133 _ (wl_at (ce_133 cy base))
    | 134, _ => exact hP 134 _ (wl_at (ce_134 cy base))
    | 135, _ => exact hP 135 _ (wl_at (ce_135 cy base))
    | 136, _ => exact hP 136 _ (wl_at (ce_136 cy base))
    | 137, _ => exact hP 137 _ (wl_at (ce_137 cy base))
    | 138, _ => exact ce_138 cy base hP
    | 139, _ => exact hP 139 _ (wl_at (ce_139 cy base))
    | 140, _ => exact hP 140 _ (wl_at (ce_140 cy base))
    | 141, _ => exact hP 141 _ (wl_at (ce_141 cy base))
    | 142, _ => exact hP 142 _ (wl_at (ce_142 cy base))
    | 143, _ => exact hP 143 _ (wl_at (ce_143 cy base))
    | 144, _ => exact hP 144 _ (wl_at (ce_144 cy base))
    | 145, _ => exact hP 145 _ (wl_at (ce_145 cy base))
    | 146, _ => exact hP 146 _ (wl_at (ce_146 cy base))
    | 147, _ => exact hP 147 _ (wl_at (ce_147 cy base))
    | 148, _ => exact hP 148 _ (wl_at (ce_148 cy base))
    | 149, _ => exact hP 149 _ (wl_at (ce_149 cy base))
    | 150, _ => exact hP 150 _ (wl_at (ce_150 cy base))
    | 151, _ => exact ce_151 cy base hP
    | 152, _ => exact hP 152 _ (wl_at (ce_152 cy base))
    | 153, _ => exact hP 153 _ (wl_at (ce_153 cy base))
    | 154, _ => exact hP 154 _ (wl_at (ce_154 cy base))
    | 155, _ => exact hP 155 _ (wl_at (ce_155 cy base))
    | 156, _ => exact hP 156 _ (wl_at (ce_156 cy base))
    | 157, _ => exact hP 157 _ (wl_at (ce_157 cy base))
    | 158, _ => exact hP 158 _ (wl_at (ce_158 cy base))
    | 159, _ => exact hP 159 _ (wl_at (ce_159 cy base))
    | 160, _ => exact hP 160 _ (wl_at (ce_160 cy base))
    | 161, _ => exact ce_161 cy base hP
    | 162, _ => exact hP 162 _ (wl_at (ce_162 cy base))
    | 163, _ => exact hP 163 _ (wl_at (ce_163 cy base))
    | 164, _ => exact hP 164 _ (wl_at (ce_164 cy base))
    | 165, _ => exact hP 165 _ (wl_at (ce_165 cy base))
    | 166, _ => exact hP 166 _ (wl_at (ce_166 cy base))
    | 167, _ => exact hP 167 _ (wl_at (ce_167 cy base))
    | 168, _ => exact hP 168 _ (wl_at (ce_168 cy base))
    | 169, _ => exact hP 169 _ (wl_at (ce_169 cy base))
    | 170, _ => exact hP 170 _ (wl_at (ce_170 cy base))
    | 171, _ => exact hP 171 _ (wl_at (ce_171 cy base))
    | 172, _ => exact hP 172 _ (wl_at (ce_172 cy base))
    | 173, _ => exact hP 173 _ (wl_at (ce_173 cy base))
    | 174, _ => exact hP 174 _ (wl_at (ce_174 cy base))
    | 175, _ => exact hP 175 _ (wl_at (ce_175 cy base))
    | 176, _ => exact hP 176 _ (wl_at (ce_176 cy base))
    | 177, _ => exact hP 177 _ (wl_at (ce_177 cy base))
    | 178, _ => exact hP 178 _ (wl_at (ce_178 cy base))
    | 179, _ => exact hP 179 _ (wl_at (ce_179 cy base))
    | 180, _ => exact hP 180 _ (wl_at (ce_180 cy base))
    | 181, _ => exact hP 181 _ (wl_at (ce_181 cy base))
    | 182, _ => exact hP 182 _ (wl_at (ce_182 cy base))
    | 183, _ => exact hP 183 _ (wl_at (ce_183 cy base))
    | 184, _ => exact hP 184 _ (wl_at (ce_184 cy base))
    | 185, _ => exact hP 185 _ (wl_at (ce_185 cy base))
    | 186, _ => exact hP 186 _ (wl_at (ce_186 cy base))
    | 187, _ => exact hP 187 _ (wl_at (ce_187 cy base))
    | 188, _ => exact hP 188 _ (wl_at (ce_188 cy base))
    | 189, _ => exact hP 189 _ (wl_at (ce_189 cy base))
    | 190, _ => exact hP 190 _ (wl_at (ce_190 cy base))
    | 191, _ => exact hP 191 _ (wl_at (ce_191 cy base))
    | 192, _ => exact hP 192 _ (wl_at (ce_192 cy base))
    | 193, _ => exact hP 193 _ (wl_at (ce_193 cy base))
    | 194, _ => exact hP 194 _ (wl_at (ce_194 cy base))
    | 195, _ => exact hP 195 _ (wl_at (ce_195 cy base))
    | 196, _ => exact hP 196 _ (wl_at (ce_196 cy base))
    | 197, _ => exact hP 197 _ (wl_at (ce_197 cy base))
    | 198, _ => exact hP 198 _ (wl_at (ce_198 cy base))
    | k + 199, hk => exact absurd hk (by omega)
  intro k q hq
  have hk : k < 199 := by
    have := (List.getElem?_eq_some_iff.mp hq).1
    rwa [wlen] at this
  rw [wget cy base S0 hk] at hq
  cases hq
  exact key k hk
theorem gw_sub : ∀ w ∈ gw, w ∈ lw_tbl := fun _ h => (List.mem_filter.mp h).1
theorem nw_sub : ∀ w ∈ nw, w ∈ lw_tbl := fun _ h => (List.mem_filter.mp h).1
theorem nest_on {w : Cond} (h : isNest w = true) : w.onTables = true := by
  cases w <;> first | rfl | (exact absurd h (by simp [isNest]))
theorem wo_M : Cond.arrayOver (.object RX4) ∈ lw_tbl := List.mem_of_getElem? (i := 171) (by decide +kernel)
theorem wo_T : Cond.arrayOver (.object RX9) ∈ lw_tbl := List.mem_of_getElem? (i := 263) (by decide +kernel)
theorem wo_I : Cond.arrayOver (.array .int) ∈ lw_tbl := List.mem_of_getElem? (i := 75) (by decide +kernel)
theorem wo_J : Cond.arrayOver (.array .long) ∈ lw_tbl := List.mem_of_getElem? (i := 256) (by decide +kernel)
theorem wo_S : Cond.laysStatic "ScreeCourt" "ABOVE" "[I" ∈ lw_tbl := List.mem_of_getElem? (i := 382) (by decide +kernel)
theorem ws_0 : Cond.instantiable RX0 7 ∈ gw := mem_gw 131 (by decide +kernel) (by decide +kernel)
theorem ws_1 : Cond.instantiable RX1 3 ∈ gw := mem_gw 208 (by decide +kernel) (by decide +kernel)
theorem ws_2 : Cond.instantiable RX2 4 ∈ gw := mem_gw 105 (by decide +kernel) (by decide +kernel)
theorem ws_3 : Cond.instantiable RX3 3 ∈ gw := mem_gw 165 (by decide +kernel) (by decide +kernel)
theorem ws_4 : Cond.instantiable RX4 6 ∈ gw := mem_gw 172 (by decide +kernel) (by decide +kernel)
theorem ws_5 : Cond.instantiable RX5 2 ∈ gw := mem_gw 284 (by decide +kernel) (by decide +kernel)
theorem ws_6 : Cond.instantiable RX6 4 ∈ gw := mem_gw 228 (by decide +kernel) (by decide +kernel)
theorem ws_7 : Cond.instantiable RX7 4 ∈ gw := mem_gw 69 (by decide +kernel) (by decide +kernel)
theorem ws_8 : Cond.instantiable RX8 1 ∈ gw := mem_gw 250 (by decide +kernel) (by decide +kernel)
theorem ws_9 : Cond.instantiable RX9 3 ∈ gw := mem_gw 264 (by decide +kernel) (by decide +kernel)
theorem ws_10 : Cond.instantiable RX10 16 ∈ gw := mem_gw 61 (by decide +kernel) (by decide +kernel)
theorem ws_11 : Cond.instantiable RX11 37 ∈ gw := mem_gw 832 (by decide +kernel) (by decide +kernel)
theorem ws_12 : Cond.arrayClass .int ∈ gw := mem_gw 103 (by decide +kernel) (by decide +kernel)
theorem ws_13 : Cond.arrayClass .long ∈ gw := mem_gw 129 (by decide +kernel) (by decide +kernel)
theorem ws_14 : Cond.arrayClass .boolean ∈ gw := mem_gw 282 (by decide +kernel) (by decide +kernel)
theorem ws_15 : Cond.initialized RX10 ∈ gw := mem_gw 46 (by decide +kernel) (by decide +kernel)
theorem ws_16 : Cond.initialized RX11 ∈ gw := mem_gw 57 (by decide +kernel) (by decide +kernel)
theorem ws_17 : Cond.classLink RL 7 RX10 ∈ gw := mem_gw 60 (by decide +kernel) (by decide +kernel)
theorem ws_18 : Cond.classLink RL 10 RX11 ∈ gw := mem_gw 831 (by decide +kernel) (by decide +kernel)
theorem ws_19 : Cond.methodLink RL 9 yX10_init ∈ gw := mem_gw 62 (by decide +kernel) (by decide +kernel)
theorem ws_20 : Cond.methodLink RL 12 yX11_init ∈ gw := mem_gw 833 (by decide +kernel) (by decide +kernel)
theorem ws_21 : Cond.instanceMethod yX10_init ∈ gw := mem_gw 63 (by decide +kernel) (by decide +kernel)
theorem ws_22 : Cond.instanceMethod yX11_init ∈ gw := mem_gw 834 (by decide +kernel) (by decide +kernel)
theorem ws_23 : Cond.code yX10_init cX10_init 2 none ∈ gw := mem_gw 64 (by decide +kernel) (by decide +kernel)
theorem ws_24 : Cond.code yX11_init cX11_init 1 none ∈ gw := mem_gw 835 (by decide +kernel) (by decide +kernel)
set_option maxHeartbeats 4000000 in
theorem tabs_start {args : Array Value} {s : State} (hts : ∀ w ∈ lw_tbl, w.before args s = true) : ∃ (D : va_G) (cy : Nat → ClassId), EnvC D cy s := by
  have hg : ∀ w ∈ gw, w.before args s = true := fun w h => hts w (gw_sub w h)
  obtain ⟨c0, i0, k0⟩ := u_known (C := RX0) (T := TX0) (N := 7) (n := 7) hg inX0 (hg _ ws_0)
  obtain ⟨c1, i1, k1⟩ := u_known (C := RX1) (T := TX1) (N := 3) (n := 3) hg inX1 (hg _ ws_1)
  obtain ⟨c2, i2, k2⟩ := u_known (C := RX2) (T := TX2) (N := 4) (n := 4) hg inX2 (hg _ ws_2)
  obtain ⟨c3, i3, k3⟩ := u_known (C := RX3) (T := TX3) (N := 3) (n := 3) hg inX3 (hg _ ws_3)
  obtain ⟨c4, i4, k4⟩ := u_known (C := RX4) (T := TX4) (N := 6) (n := 6) hg inX4 (hg _ ws_4)
  obtain ⟨c5, i5, k5⟩ := u_known (C := RX5) (T := TX5) (N := 2) (n := 2) hg inX5 (hg _ ws_5)
  obtain ⟨c6, i6, k6⟩ := u_known (C := RX6) (T := TX6) (N := 4) (n := 4) hg inX6 (hg _ ws_6)
  obtain ⟨c7, i7, k7⟩ := u_known (C := RX7) (T := TX7) (N := 4) (n := 4) hg inX7 (hg _ ws_7)
  obtain ⟨c8, i8, k8⟩ := u_known (C := RX8) (T := TX8) (N := 1) (n := 1) hg inX8 (hg _ ws_8)
  obtain ⟨c9, i9, k9⟩ := u_known (C := RX9) (T := TX9) (N := 3) (n := 3) hg inX9 (hg _ ws_9)
  obtain ⟨c10, i10, k10⟩ := u_known (C := RX10) (T := TX10) (N := 16) (n := 16) hg inX10 (hg _ ws_10)
  obtain ⟨c11, i11, k11⟩ := u_known (C := RX11) (T := TX11) (N := 37) (n := 37) hg inX11 (hg _ ws_11)
  obtain ⟨aI, kI, qI, eI1, eI2, eI3⟩ := Cond.arrayClass_spec (hg _ ws_12)
  obtain ⟨aJ, kJ, qJ, eJ1, eJ2, eJ3⟩ := Cond.arrayClass_spec (hg _ ws_13)
  obtain ⟨aZ, kZ, qZ, eZ1, eZ2, eZ3⟩ := Cond.arrayClass_spec (hg _ ws_14)
  obtain ⟨qM, aM, kM, eM1, eM2, eM3, eM4, eM5⟩ := Cond.arrayOver_spec (hts _ wo_M)
  obtain ⟨qT, aT, kT, eT1, eT2, eT3, eT4, eT5⟩ := Cond.arrayOver_spec (hts _ wo_T)
  obtain ⟨qA, aA, kA, eA1, eA2, eA3, eA4, eA5⟩ := arrayOver_specB (hts _ wo_I)
  obtain ⟨qB, aB, kB, eB1, eB2, eB3, eB4, eB5⟩ := arrayOver_specB (hts _ wo_J)
  refine ⟨(fun k => match k with | 0 => c0 | 1 => c1 | 2 => c2 | 3 => c3 | 4 => c4 | 5 => c5 | 6 => c6 | 7 => c7 | 8 => c8 | 9 => c9 | 10 => c10 | _ => c11, fun k => match k with | 0 => i0 | 1 => i1 | 2 => i2 | 3 => i3 | 4 => i4 | 5 => i5 | 6 => i6 | 7 => i7 | 8 => i8 | 9 => i9 | 10 => i10 | _ => i11), fun q => match q with | 0 => aI | 1 => aJ | 2 => aZ | 3 => aM | 4 => aT | 5 => aA | _ => aB, ⟨fun k q hq => ?_, fun k q hq => ?_⟩, fun w hw => va_Nw.of (nest_on (List.mem_filter.mp hw).2) (hts w (nw_sub w hw)), hts _ wo_M, hts _ wo_T, ?_, ?_⟩
  · match k, hq with
    | 0, hq => cases hq; exact k0
    | 1, hq => cases hq; exact k1
    | 2, hq => cases hq; exact k2
    | 3, hq => cases hq; exact k3
    | 4, hq => cases hq; exact k4
    | 5, hq => cases hq; exact k5
    | 6, hq => cases hq; exact k6
    | 7, hq => cases hq; exact k7
    | 8, hq => cases hq; exact k8
    | 9, hq => cases hq; exact k9
    | 10, hq => cases hq; exact k10
    | 11, hq => cases hq; exact k11
    | k + 12, hq => simp [vwCl] at hq
  · match k, hq with
    | 0, hq => cases hq; exact ⟨fun N z => ⟨fun k h => (by cases h), kI, eI2, qI, eI3⟩, eI1⟩
    | 1, hq => cases hq; exact ⟨fun N z => ⟨fun k h => (by cases h), kJ, eJ2, qJ, eJ3⟩, eJ1⟩
    | 2, hq => cases hq; exact ⟨fun N z => ⟨fun k h => (by cases h), kZ, eZ2, qZ, eZ3⟩, eZ1⟩
    | 3, hq => cases hq; exact ⟨fun N z => ⟨fun k h => (by cases h), kM, eM3, qM, eM4⟩, kM, qM, eM3, eM4, eM1, eM5⟩
    | 4, hq => cases hq; exact ⟨fun N z => ⟨fun k h => (by cases h), kT, eT3, qT, eT4⟩, kT, qT, eT3, eT4, eT1, eT5⟩
    | 5, hq => cases hq; exact ⟨fun N z => ⟨fun k h => (by cases h), kA, eA3, qA, eA4⟩, eA5⟩
    | 6, hq => cases hq; exact ⟨fun N z => ⟨fun k h => (by cases h), kB, eB3, qB, eB4⟩, eB5⟩
    | k + 7, hq => simp [tys] at hq
  · exact hts _ wo_I
  · exact hts _ wo_J
theorem stat_start {args : Array Value} {s : State} (hts : ∀ w ∈ lw_tbl, w.before args s = true) (hgv : (Jvm.Cond.and given_1 narrow_1).before args s = true) : ∃ tS : Nat, va_Z "ScreeCourt" "ABOVE" "[I" (.ref tS) (AA s.heap.size) s s.heap ∧ va_T .int tS 5 aboveF (AA s.heap.size) s s.heap := by
  have hs := flat_of_before _ hgv
  have hA : ∀ a : Nat, a < s.heap.size → ¬ AA s.heap.size a := fun a h1 h2 => absurd h2 (Nat.not_le.mpr h1)
  obtain ⟨tS, h1, h2⟩ := va_Tof (tm := .static "ScreeCourt" "ABOVE" "[I") (ty := .int) (N := 5) (f := aboveF) (A := AA s.heap.size) (by decide) (hs (.arrayOf (.static "ScreeCourt" "ABOVE" "[I") .int) (by decide +kernel)) (va_eqt (hs (.eq (.length (.static "ScreeCourt" "ABOVE" "[I")) (.int 5)) (by decide +kernel))) (fun j hj => by
    match j, hj with
    | 0, _ => exact va_eqt (hs (.eq (.elem (.static "ScreeCourt" "ABOVE" "[I") (.int 0)) (.int (-1))) (by decide +kernel))
    | 1, _ => exact va_eqt (hs (.eq (.elem (.static "ScreeCourt" "ABOVE" "[I") (.int 1)) (.int 0)) (by decide +kernel))
    | 2, _ => exact va_eqt (hs (.eq (.elem (.static "ScreeCourt" "ABOVE" "[I") (.int 2)) (.int 1)) (by decide +kernel))
    | 3, _ => exact va_eqt (hs (.eq (.elem (.static "ScreeCourt" "ABOVE" "[I") (.int 3)) (.int 2)) (by decide +kernel))
    | 4, _ => exact va_eqt (hs (.eq (.elem (.static "ScreeCourt" "ABOVE" "[I") (.int 4)) (.int 0)) (by decide +kernel))
    | j + 5, hj => exact absurd hj (by omega)) hA
  exact ⟨tS, va_Zof (hts _ wo_S) (hts _ (gw_sub _ ws_15)) h1 hA, h2⟩
/-- what is left to show, of pure functions alone -/
def PureLaw : Prop := ∀ (L : Nat) (xs : Nat → Int32), L ≤ 3072 → ∃ S1 : St, L_18 L xs 0 173 (fun S _ => some (S, ())) FU S0 0 = some (S1, ())
set_option maxHeartbeats 8000000 in
set_option maxRecDepth 100000 in
theorem start_open (hpure : PureLaw) {p : Program} {e : Env} {s : State} {m : MethodId} {below : List Frame} {meth : Method} {c : Code} (l : Launch) {b L : Nat} {xs : Nat → Int32} (hL : L ≤ 3072) (C0 : lw_At p s m meth c b L xs) : W p l e room_1 s m #[Value.ref b] below meth c s.heap [] 0 0 (lw_Z below #[Value.ref b] s) (entryFrame m ([Value.ref b] : List Value).toArray 4) := by
  obtain ⟨hx, hb, hr, hml, hown, hts, hX, hbl, hlocks, hgv⟩ := C0
  obtain ⟨D, cy, hE⟩ := tabs_start hts
  obtain ⟨tS, hZ, hT⟩ := stat_start hts hgv
  have hg : ∀ w ∈ gw, w.before #[Value.ref b] s = true := fun w h => hts w (gw_sub w h)
  have C : Cy p room_1 s m #[Value.ref b] c RL cL_law 4 D cy s.heap.size := ⟨hx, hb, hml, hown, hg, hE, Nat.le_refl _⟩
  obtain ⟨S1, hS1⟩ := hpure L xs hL
  have hl := lv_entry ([.ref b]) (n := 4) (Nat.le_of_ble_eq_true rfl)
  rw [lg_entry_eq]
  generalize (lg_sl ([.ref b]) ++ List.replicate (4 - (lg_sl ([.ref b])).length) Slot.unset).toArray = ls at hl ⊢
  have hl : lv_has ls 4 [(0, .ref b)] := hl
  generalize hbe : s.heap.size = base at *
  have key : CSim p l e room_1 s m #[Value.ref b] below meth c D base 0 0 (lw_Z below #[Value.ref b] s) [] (F0 m 0 ls []) := by
    refine c_new (ci := 10) (fs := [.null, .null, .null, .null, .null, .null, .null, .null, .null, .null, .null, .null, .null, .int 0, .int 0, .int 0]) (pc := 0) C inX10 rfl tyX10_ok (by intro j hj; rcases (show j = 0 ∨ j = 1 ∨ j = 2 ∨ j = 3 ∨ j = 4 ∨ j = 5 ∨ j = 6 ∨ j = 7 ∨ j = 8 ∨ j = 9 ∨ j = 10 ∨ j = 11 ∨ j = 12 ∨ j = 13 ∨ j = 14 ∨ j = 15 by omega) with rfl | rfl | rfl | rfl | rfl | rfl | rfl | rfl | rfl | rfl | rfl | rfl | rfl | rfl | rfl | rfl <;> rfl) ws_17 ws_10 ws_15 0 rfl (by omega) (Nat.le_of_ble_eq_true rfl) (Nat.le_of_ble_eq_true rfl) dL_law_0 ?_
    refine c_dup (pc := 3) C dL_law_3 rfl ?_
    refine c_callI (n := 0) (k := 0 + 0) (As := []) (pc := 4) C 1 rfl (by omega) hl.1 (ci_X10_init l (pre := []) (n := 0) rfl) ws_19 ws_21 ws_15 ws_23 rfl rfl rfl (by decide +kernel) ⟨(Nat.le_of_ble_eq_true rfl), (Nat.le_of_ble_eq_true rfl)⟩ rfl rfl (Nat.le_of_ble_eq_true rfl) (Nat.le_of_ble_eq_true rfl) (Nat.le_of_ble_eq_true rfl) dL_law_4 ?_
    refine c_astore_n (lv2 := [(1, .ref (base + 0)), (0, .ref b)]) (pc := 7) C dL_law_7 rfl hl (Nat.le_of_ble_eq_true rfl) rfl (fun ls hl => ?_)
    refine c_new (ci := 11) (fs := [.int 0, .null, .null, .int 0, .null, .null, .int 0, .int 0, .long 0, .null, .null, .int 0, .null, .int 0, .int 0, .null, .null, .null, .int 0, .null, .null, .null, .null, .int 0, .int 0, .null, .null, .null, .null, .null, .int 0, .null, .null, .null, .null, .null, .null]) (pc := 8) C inX11 rfl tyX11_ok (by intro j hj; rcases (show j = 0 ∨ j = 1 ∨ j = 2 ∨ j = 3 ∨ j = 4 ∨ j = 5 ∨ j = 6 ∨ j = 7 ∨ j = 8 ∨ j = 9 ∨ j = 10 ∨ j = 11 ∨ j = 12 ∨ j = 13 ∨ j = 14 ∨ j = 15 ∨ j = 16 ∨ j = 17 ∨ j = 18 ∨ j = 19 ∨ j = 20 ∨ j = 21 ∨ j = 22 ∨ j = 23 ∨ j = 24 ∨ j = 25 ∨ j = 26 ∨ j = 27 ∨ j = 28 ∨ j = 29 ∨ j = 30 ∨ j = 31 ∨ j = 32 ∨ j = 33 ∨ j = 34 ∨ j = 35 ∨ j = 36 by omega) with rfl | rfl | rfl | rfl | rfl | rfl | rfl | rfl | rfl | rfl | rfl | rfl | rfl | rfl | rfl | rfl | rfl | rfl | rfl | rfl | rfl | rfl | rfl | rfl | rfl | rfl | rfl | rfl | rfl | rfl | rfl | rfl | rfl | rfl | rfl | rfl | rfl <;> rfl) ws_18 ws_11 ws_16 173 rfl (by omega) (Nat.le_of_ble_eq_true rfl) (Nat.le_of_ble_eq_true rfl) dL_law_8 ?_
    refine c_dup (pc := 11) C dL_law_11 rfl ?_
    refine c_callI (n := 0) (k := 173 + 0) (As := []) (pc := 12) C 174 rfl (by omega) hl.1 (ci_X11_init l (pre := blk_10 cy base 0) (n := 173) rfl) ws_20 ws_22 ws_16 ws_24 rfl rfl rfl (by decide +kernel) ⟨(Nat.le_of_ble_eq_true rfl), (Nat.le_of_ble_eq_true rfl)⟩ rfl rfl (Nat.le_of_ble_eq_true rfl) (Nat.le_of_ble_eq_true rfl) (Nat.le_of_ble_eq_true rfl) dL_law_12 ?_
    refine c_astore_n (lv2 := [(2, .ref (base + 173)), (1, .ref (base + 0)), (0, .ref b)]) (pc := 15) C dL_law_15 rfl hl (Nat.le_of_ble_eq_true rfl) rfl (fun ls hl => ?_)
    refine c_iconst (pc := 16) C 0 dL_law_16 (by decide) ?_
    refine c_istore_n (lv2 := [(3, .int 0), (2, .ref (base + 173)), (1, .ref (base + 0)), (0, .ref b)]) (pc := 17) C dL_law_17 rfl hl (Nat.le_of_ble_eq_true rfl) rfl (fun ls hl => ?_)
    intro H locs hP hS
    have hE2 : EnvW D cy base tS s := ⟨hE.1, hE.2.1, hZ, hT⟩
    have C2 : Cx p room_1 s m #[Value.ref b] c RL cL_law 4 D cy base tS 199 10763 := ⟨hx, hb, hml, hown, hg, hE2, (Nat.le_of_ble_eq_true rfl), (Nat.le_of_ble_eq_true rfl)⟩
    have hbA : ¬ AA base b := Nat.not_le.mpr hbl
    refine lp_L_18 (ls := ls) C2 hX (by rw [hbe]; exact hbl) hbA (k1 := 0) (k2 := 173) (by decide +kernel) (by decide +kernel) (K := fun S _ => some (S, ())) (fun S v3 ls hl => ?_) FU S0 0 ls (lv_sub hl [3, 2, 1, 0] rfl) S1 () hS1 H locs (cellsP cy base hP) hS
    refine r_iconst (pc := 1115) C2 1 dL_law_1115 (by decide) ?_
    intro S2 r2 h2 H locs hP hS
    refine va_forget (fun q hq => by rw [hbe]; exact hS.2.2 q hq) ?_
    refine W.widen (k := 600000) (n := 7302250) (by decide) (by decide) ?_
    exact lw_ret hx hb hr hlocks dL_law_1116
  have h0 := key s.heap [] (fun k q h => by simp [wl] at h) va_S.rf
  exact h0
