/-! THE START: the two constructors from the law's entry, and the first world (written by gen_start.py) -/
def xpl : List Nat := [4, 6, 8, 10, 12, 14, 16, 20, 22, 24, 26, 28, 30, 32, 36, 38, 40, 42, 44, 46, 48, 61, 63, 65, 67, 69, 71, 73, 51, 53, 57, 76, 78, 80, 82, 84, 3, 5, 7, 9, 11, 13, 15, 19, 21, 23, 25, 27, 29, 31, 35, 37, 39, 41, 43, 45, 47, 60, 62, 64, 66, 68, 70, 72, 50, 52, 56, 75, 77, 79, 81, 83, 2, 18, 34, 59, 49, 1, 17, 33, 58, 0, 74, 54, 55, 85, 86, 87, 88, 89, 90, 91]
/-- the addresses: the cells, the texts, their bytes -/
def xad (f g adK adV : Nat → Nat) : Nat → Nat := fun k => if k < 92 then (([f 4, f 6, f 8, f 10, f 12, f 14, f 16, f 20, f 22, f 24, f 26, f 28, f 30, f 32, f 36, f 38, f 40, f 42, f 44, f 46, f 48, f 61, f 63, f 65, f 67, f 69, f 71, f 73, f 51, f 53, f 57, f 76, f 78, f 80, f 82, f 84, f 3, f 5, f 7, f 9, f 11, f 13, f 15, f 19, f 21, f 23, f 25, f 27, f 29, f 31, f 35, f 37, f 39, f 41, f 43, f 45, f 47, f 60, f 62, f 64, f 66, f 68, f 70, f 72, f 50, f 52, f 56, f 75, f 77, f 79, f 81, f 83, f 2, f 18, f 34, f 59, f 49, f 1, f 17, f 33, f 58, f 0, f 74, f 54, f 55, g 0, g 1, g 2, g 3, g 4, g 5, g 6] : List Nat).getD k 0) else if k < 107 then adK (k - 100) else adV (k - 200)
def xG0 (l : Launch) (D : va_G) (cyI cyZ : ClassId) : xG := (l, D, cyI, cyZ, fun _ => 0, fun _ _ => True)
def xG1 (l : Launch) (D : va_G) (cyI cyZ : ClassId) (ad : Nat → Nat) : xG := (l, D, cyI, cyZ, ad, fun U H => xS0 (l, D, cyI, cyZ, ad, fun _ _ => True) U H)
/-- the memories at first -/
def xS1 : xS := ((fun a i => if a = 36 then (if i = 2 ∨ i = 9 ∨ i = 16 ∨ i = 23 then 5 else 0) else 0, fun i => if i = 1 then 1 else 0), (fun _ _ => 0, fun i => if i = 1 then 1 else 0))
section XST
variable (l : Launch) (D : va_G) (cyI cyZ : ClassId) (f g adK adV : Nat → Nat)
theorem xst_0 : (wlH (xG0 l D cyI cyZ) f ++ wlM (xG0 l D cyI cyZ) g)[4]? = some (xa (xG1 l D cyI cyZ (xad f g adK adV)) 0, xC (xG1 l D cyI cyZ (xad f g adK adV)) xS1 0) := rfl
theorem xst_1 : (wlH (xG0 l D cyI cyZ) f ++ wlM (xG0 l D cyI cyZ) g)[6]? = some (xa (xG1 l D cyI cyZ (xad f g adK adV)) 1, xC (xG1 l D cyI cyZ (xad f g adK adV)) xS1 1) := rfl
theorem xst_2 : (wlH (xG0 l D cyI cyZ) f ++ wlM (xG0 l D cyI cyZ) g)[8]? = some (xa (xG1 l D cyI cyZ (xad f g adK adV)) 2, xC (xG1 l D cyI cyZ (xad f g adK adV)) xS1 2) := rfl
theorem xst_3 : (wlH (xG0 l D cyI cyZ) f ++ wlM (xG0 l D cyI cyZ) g)[10]? = some (xa (xG1 l D cyI cyZ (xad f g adK adV)) 3, xC (xG1 l D cyI cyZ (xad f g adK adV)) xS1 3) := rfl
theorem xst_4 : (wlH (xG0 l D cyI cyZ) f ++ wlM (xG0 l D cyI cyZ) g)[12]? = some (xa (xG1 l D cyI cyZ (xad f g adK adV)) 4, xC (xG1 l D cyI cyZ (xad f g adK adV)) xS1 4) := rfl
theorem xst_5 : (wlH (xG0 l D cyI cyZ) f ++ wlM (xG0 l D cyI cyZ) g)[14]? = some (xa (xG1 l D cyI cyZ (xad f g adK adV)) 5, xC (xG1 l D cyI cyZ (xad f g adK adV)) xS1 5) := rfl
theorem xst_6 : (wlH (xG0 l D cyI cyZ) f ++ wlM (xG0 l D cyI cyZ) g)[16]? = some (xa (xG1 l D cyI cyZ (xad f g adK adV)) 6, xC (xG1 l D cyI cyZ (xad f g adK adV)) xS1 6) := rfl
theorem xst_7 : (wlH (xG0 l D cyI cyZ) f ++ wlM (xG0 l D cyI cyZ) g)[20]? = some (xa (xG1 l D cyI cyZ (xad f g adK adV)) 7, xC (xG1 l D cyI cyZ (xad f g adK adV)) xS1 7) := rfl
theorem xst_8 : (wlH (xG0 l D cyI cyZ) f ++ wlM (xG0 l D cyI cyZ) g)[22]? = some (xa (xG1 l D cyI cyZ (xad f g adK adV)) 8, xC (xG1 l D cyI cyZ (xad f g adK adV)) xS1 8) := rfl
theorem xst_9 : (wlH (xG0 l D cyI cyZ) f ++ wlM (xG0 l D cyI cyZ) g)[24]? = some (xa (xG1 l D cyI cyZ (xad f g adK adV)) 9, xC (xG1 l D cyI cyZ (xad f g adK adV)) xS1 9) := rfl
theorem xst_10 : (wlH (xG0 l D cyI cyZ) f ++ wlM (xG0 l D cyI cyZ) g)[26]? = some (xa (xG1 l D cyI cyZ (xad f g adK adV)) 10, xC (xG1 l D cyI cyZ (xad f g adK adV)) xS1 10) := rfl
theorem xst_11 : (wlH (xG0 l D cyI cyZ) f ++ wlM (xG0 l D cyI cyZ) g)[28]? = some (xa (xG1 l D cyI cyZ (xad f g adK adV)) 11, xC (xG1 l D cyI cyZ (xad f g adK adV)) xS1 11) := rfl
theorem xst_12 : (wlH (xG0 l D cyI cyZ) f ++ wlM (xG0 l D cyI cyZ) g)[30]? = some (xa (xG1 l D cyI cyZ (xad f g adK adV)) 12, xC (xG1 l D cyI cyZ (xad f g adK adV)) xS1 12) := rfl
theorem xst_13 : (wlH (xG0 l D cyI cyZ) f ++ wlM (xG0 l D cyI cyZ) g)[32]? = some (xa (xG1 l D cyI cyZ (xad f g adK adV)) 13, xC (xG1 l D cyI cyZ (xad f g adK adV)) xS1 13) := rfl
theorem xst_14 : (wlH (xG0 l D cyI cyZ) f ++ wlM (xG0 l D cyI cyZ) g)[36]? = some (xa (xG1 l D cyI cyZ (xad f g adK adV)) 14, xC (xG1 l D cyI cyZ (xad f g adK adV)) xS1 14) := rfl
theorem xst_15 : (wlH (xG0 l D cyI cyZ) f ++ wlM (xG0 l D cyI cyZ) g)[38]? = some (xa (xG1 l D cyI cyZ (xad f g adK adV)) 15, xC (xG1 l D cyI cyZ (xad f g adK adV)) xS1 15) := rfl
theorem xst_16 : (wlH (xG0 l D cyI cyZ) f ++ wlM (xG0 l D cyI cyZ) g)[40]? = some (xa (xG1 l D cyI cyZ (xad f g adK adV)) 16, xC (xG1 l D cyI cyZ (xad f g adK adV)) xS1 16) := rfl
theorem xst_17 : (wlH (xG0 l D cyI cyZ) f ++ wlM (xG0 l D cyI cyZ) g)[42]? = some (xa (xG1 l D cyI cyZ (xad f g adK adV)) 17, xC (xG1 l D cyI cyZ (xad f g adK adV)) xS1 17) := rfl
theorem xst_18 : (wlH (xG0 l D cyI cyZ) f ++ wlM (xG0 l D cyI cyZ) g)[44]? = some (xa (xG1 l D cyI cyZ (xad f g adK adV)) 18, xC (xG1 l D cyI cyZ (xad f g adK adV)) xS1 18) := rfl
theorem xst_19 : (wlH (xG0 l D cyI cyZ) f ++ wlM (xG0 l D cyI cyZ) g)[46]? = some (xa (xG1 l D cyI cyZ (xad f g adK adV)) 19, xC (xG1 l D cyI cyZ (xad f g adK adV)) xS1 19) := rfl
theorem xst_20 : (wlH (xG0 l D cyI cyZ) f ++ wlM (xG0 l D cyI cyZ) g)[48]? = some (xa (xG1 l D cyI cyZ (xad f g adK adV)) 20, xC (xG1 l D cyI cyZ (xad f g adK adV)) xS1 20) := rfl
theorem xst_21 : (wlH (xG0 l D cyI cyZ) f ++ wlM (xG0 l D cyI cyZ) g)[61]? = some (xa (xG1 l D cyI cyZ (xad f g adK adV)) 21, xC (xG1 l D cyI cyZ (xad f g adK adV)) xS1 21) := rfl
theorem xst_22 : (wlH (xG0 l D cyI cyZ) f ++ wlM (xG0 l D cyI cyZ) g)[63]? = some (xa (xG1 l D cyI cyZ (xad f g adK adV)) 22, xC (xG1 l D cyI cyZ (xad f g adK adV)) xS1 22) := rfl
theorem xst_23 : (wlH (xG0 l D cyI cyZ) f ++ wlM (xG0 l D cyI cyZ) g)[65]? = some (xa (xG1 l D cyI cyZ (xad f g adK adV)) 23, xC (xG1 l D cyI cyZ (xad f g adK adV)) xS1 23) := rfl
theorem xst_24 : (wlH (xG0 l D cyI cyZ) f ++ wlM (xG0 l D cyI cyZ) g)[67]? = some (xa (xG1 l D cyI cyZ (xad f g adK adV)) 24, xC (xG1 l D cyI cyZ (xad f g adK adV)) xS1 24) := rfl
theorem xst_25 : (wlH (xG0 l D cyI cyZ) f ++ wlM (xG0 l D cyI cyZ) g)[69]? = some (xa (xG1 l D cyI cyZ (xad f g adK adV)) 25, xC (xG1 l D cyI cyZ (xad f g adK adV)) xS1 25) := rfl
theorem xst_26 : (wlH (xG0 l D cyI cyZ) f ++ wlM (xG0 l D cyI cyZ) g)[71]? = some (xa (xG1 l D cyI cyZ (xad f g adK adV)) 26, xC (xG1 l D cyI cyZ (xad f g adK adV)) xS1 26) := rfl
theorem xst_27 : (wlH (xG0 l D cyI cyZ) f ++ wlM (xG0 l D cyI cyZ) g)[73]? = some (xa (xG1 l D cyI cyZ (xad f g adK adV)) 27, xC (xG1 l D cyI cyZ (xad f g adK adV)) xS1 27) := rfl
theorem xst_28 : (wlH (xG0 l D cyI cyZ) f ++ wlM (xG0 l D cyI cyZ) g)[51]? = some (xa (xG1 l D cyI cyZ (xad f g adK adV)) 28, xC (xG1 l D cyI cyZ (xad f g adK adV)) xS1 28) := rfl
theorem xst_29 : (wlH (xG0 l D cyI cyZ) f ++ wlM (xG0 l D cyI cyZ) g)[53]? = some (xa (xG1 l D cyI cyZ (xad f g adK adV)) 29, xC (xG1 l D cyI cyZ (xad f g adK adV)) xS1 29) := rfl
theorem xst_30 : (wlH (xG0 l D cyI cyZ) f ++ wlM (xG0 l D cyI cyZ) g)[57]? = some (xa (xG1 l D cyI cyZ (xad f g adK adV)) 30, xC (xG1 l D cyI cyZ (xad f g adK adV)) xS1 30) := rfl
theorem xst_31 : (wlH (xG0 l D cyI cyZ) f ++ wlM (xG0 l D cyI cyZ) g)[76]? = some (xa (xG1 l D cyI cyZ (xad f g adK adV)) 31, xC (xG1 l D cyI cyZ (xad f g adK adV)) xS1 31) := rfl
theorem xst_32 : (wlH (xG0 l D cyI cyZ) f ++ wlM (xG0 l D cyI cyZ) g)[78]? = some (xa (xG1 l D cyI cyZ (xad f g adK adV)) 32, xC (xG1 l D cyI cyZ (xad f g adK adV)) xS1 32) := rfl
theorem xst_33 : (wlH (xG0 l D cyI cyZ) f ++ wlM (xG0 l D cyI cyZ) g)[80]? = some (xa (xG1 l D cyI cyZ (xad f g adK adV)) 33, xC (xG1 l D cyI cyZ (xad f g adK adV)) xS1 33) := rfl
theorem xst_34 : (wlH (xG0 l D cyI cyZ) f ++ wlM (xG0 l D cyI cyZ) g)[82]? = some (xa (xG1 l D cyI cyZ (xad f g adK adV)) 34, xC (xG1 l D cyI cyZ (xad f g adK adV)) xS1 34) := rfl
theorem xst_35 : (wlH (xG0 l D cyI cyZ) f ++ wlM (xG0 l D cyI cyZ) g)[84]? = some (xa (xG1 l D cyI cyZ (xad f g adK adV)) 35, xC (xG1 l D cyI cyZ (xad f g adK adV)) xS1 35) := rfl
theorem xst_36 : (wlH (xG0 l D cyI cyZ) f ++ wlM (xG0 l D cyI cyZ) g)[3]? = some (xa (xG1 l D cyI cyZ (xad f g adK adV)) 36, xC (xG1 l D cyI cyZ (xad f g adK adV)) xS1 36) := rfl
theorem xst_37 : (wlH (xG0 l D cyI cyZ) f ++ wlM (xG0 l D cyI cyZ) g)[5]? = some (xa (xG1 l D cyI cyZ (xad f g adK adV)) 37, xC (xG1 l D cyI cyZ (xad f g adK adV)) xS1 37) := rfl
theorem xst_38 : (wlH (xG0 l D cyI cyZ) f ++ wlM (xG0 l D cyI cyZ) g)[7]? = some (xa (xG1 l D cyI cyZ (xad f g adK adV)) 38, xC (xG1 l D cyI cyZ (xad f g adK adV)) xS1 38) := rfl
theorem xst_39 : (wlH (xG0 l D cyI cyZ) f ++ wlM (xG0 l D cyI cyZ) g)[9]? = some (xa (xG1 l D cyI cyZ (xad f g adK adV)) 39, xC (xG1 l D cyI cyZ (xad f g adK adV)) xS1 39) := rfl
theorem xst_40 : (wlH (xG0 l D cyI cyZ) f ++ wlM (xG0 l D cyI cyZ) g)[11]? = some (xa (xG1 l D cyI cyZ (xad f g adK adV)) 40, xC (xG1 l D cyI cyZ (xad f g adK adV)) xS1 40) := rfl
theorem xst_41 : (wlH (xG0 l D cyI cyZ) f ++ wlM (xG0 l D cyI cyZ) g)[13]? = some (xa (xG1 l D cyI cyZ (xad f g adK adV)) 41, xC (xG1 l D cyI cyZ (xad f g adK adV)) xS1 41) := rfl
theorem xst_42 : (wlH (xG0 l D cyI cyZ) f ++ wlM (xG0 l D cyI cyZ) g)[15]? = some (xa (xG1 l D cyI cyZ (xad f g adK adV)) 42, xC (xG1 l D cyI cyZ (xad f g adK adV)) xS1 42) := rfl
theorem xst_43 : (wlH (xG0 l D cyI cyZ) f ++ wlM (xG0 l D cyI cyZ) g)[19]? = some (xa (xG1 l D cyI cyZ (xad f g adK adV)) 43, xC (xG1 l D cyI cyZ (xad f g adK adV)) xS1 43) := rfl
theorem xst_44 : (wlH (xG0 l D cyI cyZ) f ++ wlM (xG0 l D cyI cyZ) g)[21]? = some (xa (xG1 l D cyI cyZ (xad f g adK adV)) 44, xC (xG1 l D cyI cyZ (xad f g adK adV)) xS1 44) := rfl
theorem xst_45 : (wlH (xG0 l D cyI cyZ) f ++ wlM (xG0 l D cyI cyZ) g)[23]? = some (xa (xG1 l D cyI cyZ (xad f g adK adV)) 45, xC (xG1 l D cyI cyZ (xad f g adK adV)) xS1 45) := rfl
theorem xst_46 : (wlH (xG0 l D cyI cyZ) f ++ wlM (xG0 l D cyI cyZ) g)[25]? = some (xa (xG1 l D cyI cyZ (xad f g adK adV)) 46, xC (xG1 l D cyI cyZ (xad f g adK adV)) xS1 46) := rfl
theorem xst_47 : (wlH (xG0 l D cyI cyZ) f ++ wlM (xG0 l D cyI cyZ) g)[27]? = some (xa (xG1 l D cyI cyZ (xad f g adK adV)) 47, xC (xG1 l D cyI cyZ (xad f g adK adV)) xS1 47) := rfl
theorem xst_48 : (wlH (xG0 l D cyI cyZ) f ++ wlM (xG0 l D cyI cyZ) g)[29]? = some (xa (xG1 l D cyI cyZ (xad f g adK adV)) 48, xC (xG1 l D cyI cyZ (xad f g adK adV)) xS1 48) := rfl
theorem xst_49 : (wlH (xG0 l D cyI cyZ) f ++ wlM (xG0 l D cyI cyZ) g)[31]? = some (xa (xG1 l D cyI cyZ (xad f g adK adV)) 49, xC (xG1 l D cyI cyZ (xad f g adK adV)) xS1 49) := rfl
theorem xst_50 : (wlH (xG0 l D cyI cyZ) f ++ wlM (xG0 l D cyI cyZ) g)[35]? = some (xa (xG1 l D cyI cyZ (xad f g adK adV)) 50, xC (xG1 l D cyI cyZ (xad f g adK adV)) xS1 50) := rfl
theorem xst_51 : (wlH (xG0 l D cyI cyZ) f ++ wlM (xG0 l D cyI cyZ) g)[37]? = some (xa (xG1 l D cyI cyZ (xad f g adK adV)) 51, xC (xG1 l D cyI cyZ (xad f g adK adV)) xS1 51) := rfl
theorem xst_52 : (wlH (xG0 l D cyI cyZ) f ++ wlM (xG0 l D cyI cyZ) g)[39]? = some (xa (xG1 l D cyI cyZ (xad f g adK adV)) 52, xC (xG1 l D cyI cyZ (xad f g adK adV)) xS1 52) := rfl
theorem xst_53 : (wlH (xG0 l D cyI cyZ) f ++ wlM (xG0 l D cyI cyZ) g)[41]? = some (xa (xG1 l D cyI cyZ (xad f g adK adV)) 53, xC (xG1 l D cyI cyZ (xad f g adK adV)) xS1 53) := rfl
theorem xst_54 : (wlH (xG0 l D cyI cyZ) f ++ wlM (xG0 l D cyI cyZ) g)[43]? = some (xa (xG1 l D cyI cyZ (xad f g adK adV)) 54, xC (xG1 l D cyI cyZ (xad f g adK adV)) xS1 54) := rfl
theorem xst_55 : (wlH (xG0 l D cyI cyZ) f ++ wlM (xG0 l D cyI cyZ) g)[45]? = some (xa (xG1 l D cyI cyZ (xad f g adK adV)) 55, xC (xG1 l D cyI cyZ (xad f g adK adV)) xS1 55) := rfl
theorem xst_56 : (wlH (xG0 l D cyI cyZ) f ++ wlM (xG0 l D cyI cyZ) g)[47]? = some (xa (xG1 l D cyI cyZ (xad f g adK adV)) 56, xC (xG1 l D cyI cyZ (xad f g adK adV)) xS1 56) := rfl
theorem xst_57 : (wlH (xG0 l D cyI cyZ) f ++ wlM (xG0 l D cyI cyZ) g)[60]? = some (xa (xG1 l D cyI cyZ (xad f g adK adV)) 57, xC (xG1 l D cyI cyZ (xad f g adK adV)) xS1 57) := rfl
theorem xst_58 : (wlH (xG0 l D cyI cyZ) f ++ wlM (xG0 l D cyI cyZ) g)[62]? = some (xa (xG1 l D cyI cyZ (xad f g adK adV)) 58, xC (xG1 l D cyI cyZ (xad f g adK adV)) xS1 58) := rfl
theorem xst_59 : (wlH (xG0 l D cyI cyZ) f ++ wlM (xG0 l D cyI cyZ) g)[64]? = some (xa (xG1 l D cyI cyZ (xad f g adK adV)) 59, xC (xG1 l D cyI cyZ (xad f g adK adV)) xS1 59) := rfl
theorem xst_60 : (wlH (xG0 l D cyI cyZ) f ++ wlM (xG0 l D cyI cyZ) g)[66]? = some (xa (xG1 l D cyI cyZ (xad f g adK adV)) 60, xC (xG1 l D cyI cyZ (xad f g adK adV)) xS1 60) := rfl
theorem xst_61 : (wlH (xG0 l D cyI cyZ) f ++ wlM (xG0 l D cyI cyZ) g)[68]? = some (xa (xG1 l D cyI cyZ (xad f g adK adV)) 61, xC (xG1 l D cyI cyZ (xad f g adK adV)) xS1 61) := rfl
theorem xst_62 : (wlH (xG0 l D cyI cyZ) f ++ wlM (xG0 l D cyI cyZ) g)[70]? = some (xa (xG1 l D cyI cyZ (xad f g adK adV)) 62, xC (xG1 l D cyI cyZ (xad f g adK adV)) xS1 62) := rfl
theorem xst_63 : (wlH (xG0 l D cyI cyZ) f ++ wlM (xG0 l D cyI cyZ) g)[72]? = some (xa (xG1 l D cyI cyZ (xad f g adK adV)) 63, xC (xG1 l D cyI cyZ (xad f g adK adV)) xS1 63) := rfl
theorem xst_64 : (wlH (xG0 l D cyI cyZ) f ++ wlM (xG0 l D cyI cyZ) g)[50]? = some (xa (xG1 l D cyI cyZ (xad f g adK adV)) 64, xC (xG1 l D cyI cyZ (xad f g adK adV)) xS1 64) := rfl
theorem xst_65 : (wlH (xG0 l D cyI cyZ) f ++ wlM (xG0 l D cyI cyZ) g)[52]? = some (xa (xG1 l D cyI cyZ (xad f g adK adV)) 65, xC (xG1 l D cyI cyZ (xad f g adK adV)) xS1 65) := rfl
theorem xst_66 : (wlH (xG0 l D cyI cyZ) f ++ wlM (xG0 l D cyI cyZ) g)[56]? = some (xa (xG1 l D cyI cyZ (xad f g adK adV)) 66, xC (xG1 l D cyI cyZ (xad f g adK adV)) xS1 66) := rfl
theorem xst_67 : (wlH (xG0 l D cyI cyZ) f ++ wlM (xG0 l D cyI cyZ) g)[75]? = some (xa (xG1 l D cyI cyZ (xad f g adK adV)) 67, xC (xG1 l D cyI cyZ (xad f g adK adV)) xS1 67) := rfl
theorem xst_68 : (wlH (xG0 l D cyI cyZ) f ++ wlM (xG0 l D cyI cyZ) g)[77]? = some (xa (xG1 l D cyI cyZ (xad f g adK adV)) 68, xC (xG1 l D cyI cyZ (xad f g adK adV)) xS1 68) := rfl
theorem xst_69 : (wlH (xG0 l D cyI cyZ) f ++ wlM (xG0 l D cyI cyZ) g)[79]? = some (xa (xG1 l D cyI cyZ (xad f g adK adV)) 69, xC (xG1 l D cyI cyZ (xad f g adK adV)) xS1 69) := rfl
theorem xst_70 : (wlH (xG0 l D cyI cyZ) f ++ wlM (xG0 l D cyI cyZ) g)[81]? = some (xa (xG1 l D cyI cyZ (xad f g adK adV)) 70, xC (xG1 l D cyI cyZ (xad f g adK adV)) xS1 70) := rfl
theorem xst_71 : (wlH (xG0 l D cyI cyZ) f ++ wlM (xG0 l D cyI cyZ) g)[83]? = some (xa (xG1 l D cyI cyZ (xad f g adK adV)) 71, xC (xG1 l D cyI cyZ (xad f g adK adV)) xS1 71) := rfl
theorem xst_72 : (wlH (xG0 l D cyI cyZ) f ++ wlM (xG0 l D cyI cyZ) g)[2]? = some (xa (xG1 l D cyI cyZ (xad f g adK adV)) 72, xC (xG1 l D cyI cyZ (xad f g adK adV)) xS1 72) := rfl
theorem xst_73 : (wlH (xG0 l D cyI cyZ) f ++ wlM (xG0 l D cyI cyZ) g)[18]? = some (xa (xG1 l D cyI cyZ (xad f g adK adV)) 73, xC (xG1 l D cyI cyZ (xad f g adK adV)) xS1 73) := rfl
theorem xst_74 : (wlH (xG0 l D cyI cyZ) f ++ wlM (xG0 l D cyI cyZ) g)[34]? = some (xa (xG1 l D cyI cyZ (xad f g adK adV)) 74, xC (xG1 l D cyI cyZ (xad f g adK adV)) xS1 74) := rfl
theorem xst_75 : (wlH (xG0 l D cyI cyZ) f ++ wlM (xG0 l D cyI cyZ) g)[59]? = some (xa (xG1 l D cyI cyZ (xad f g adK adV)) 75, xC (xG1 l D cyI cyZ (xad f g adK adV)) xS1 75) := rfl
theorem xst_76 : (wlH (xG0 l D cyI cyZ) f ++ wlM (xG0 l D cyI cyZ) g)[49]? = some (xa (xG1 l D cyI cyZ (xad f g adK adV)) 76, xC (xG1 l D cyI cyZ (xad f g adK adV)) xS1 76) := rfl
theorem xst_77 : (wlH (xG0 l D cyI cyZ) f ++ wlM (xG0 l D cyI cyZ) g)[1]? = some (xa (xG1 l D cyI cyZ (xad f g adK adV)) 77, xC (xG1 l D cyI cyZ (xad f g adK adV)) xS1 77) := rfl
theorem xst_78 : (wlH (xG0 l D cyI cyZ) f ++ wlM (xG0 l D cyI cyZ) g)[17]? = some (xa (xG1 l D cyI cyZ (xad f g adK adV)) 78, xC (xG1 l D cyI cyZ (xad f g adK adV)) xS1 78) := rfl
theorem xst_79 : (wlH (xG0 l D cyI cyZ) f ++ wlM (xG0 l D cyI cyZ) g)[33]? = some (xa (xG1 l D cyI cyZ (xad f g adK adV)) 79, xC (xG1 l D cyI cyZ (xad f g adK adV)) xS1 79) := rfl
theorem xst_80 : (wlH (xG0 l D cyI cyZ) f ++ wlM (xG0 l D cyI cyZ) g)[58]? = some (xa (xG1 l D cyI cyZ (xad f g adK adV)) 80, xC (xG1 l D cyI cyZ (xad f g adK adV)) xS1 80) := rfl
theorem xst_81 : (wlH (xG0 l D cyI cyZ) f ++ wlM (xG0 l D cyI cyZ) g)[0]? = some (xa (xG1 l D cyI cyZ (xad f g adK adV)) 81, xC (xG1 l D cyI cyZ (xad f g adK adV)) xS1 81) := rfl
theorem xst_82 : (wlH (xG0 l D cyI cyZ) f ++ wlM (xG0 l D cyI cyZ) g)[74]? = some (xa (xG1 l D cyI cyZ (xad f g adK adV)) 82, xC (xG1 l D cyI cyZ (xad f g adK adV)) xS1 82) := rfl
theorem xst_83 : (wlH (xG0 l D cyI cyZ) f ++ wlM (xG0 l D cyI cyZ) g)[54]? = some (xa (xG1 l D cyI cyZ (xad f g adK adV)) 83, xC (xG1 l D cyI cyZ (xad f g adK adV)) xS1 83) := rfl
theorem xst_84 : (wlH (xG0 l D cyI cyZ) f ++ wlM (xG0 l D cyI cyZ) g)[55]? = some (xa (xG1 l D cyI cyZ (xad f g adK adV)) 84, xC (xG1 l D cyI cyZ (xad f g adK adV)) xS1 84) := rfl
theorem xst_85 : (wlH (xG0 l D cyI cyZ) f ++ wlM (xG0 l D cyI cyZ) g)[85]? = some (xa (xG1 l D cyI cyZ (xad f g adK adV)) 85, xC (xG1 l D cyI cyZ (xad f g adK adV)) xS1 85) := rfl
theorem xst_86 : (wlH (xG0 l D cyI cyZ) f ++ wlM (xG0 l D cyI cyZ) g)[86]? = some (xa (xG1 l D cyI cyZ (xad f g adK adV)) 86, xC (xG1 l D cyI cyZ (xad f g adK adV)) xS1 86) := rfl
theorem xst_87 : (wlH (xG0 l D cyI cyZ) f ++ wlM (xG0 l D cyI cyZ) g)[87]? = some (xa (xG1 l D cyI cyZ (xad f g adK adV)) 87, xC (xG1 l D cyI cyZ (xad f g adK adV)) xS1 87) := rfl
theorem xst_88 : (wlH (xG0 l D cyI cyZ) f ++ wlM (xG0 l D cyI cyZ) g)[88]? = some (xa (xG1 l D cyI cyZ (xad f g adK adV)) 88, xC (xG1 l D cyI cyZ (xad f g adK adV)) xS1 88) := rfl
theorem xst_89 : (wlH (xG0 l D cyI cyZ) f ++ wlM (xG0 l D cyI cyZ) g)[89]? = some (xa (xG1 l D cyI cyZ (xad f g adK adV)) 89, xC (xG1 l D cyI cyZ (xad f g adK adV)) xS1 89) := rfl
theorem xst_90 : (wlH (xG0 l D cyI cyZ) f ++ wlM (xG0 l D cyI cyZ) g)[90]? = some (xa (xG1 l D cyI cyZ (xad f g adK adV)) 90, xC (xG1 l D cyI cyZ (xad f g adK adV)) xS1 90) := rfl
theorem xst_91 : (wlH (xG0 l D cyI cyZ) f ++ wlM (xG0 l D cyI cyZ) g)[91]? = some (xa (xG1 l D cyI cyZ (xad f g adK adV)) 91, xC (xG1 l D cyI cyZ (xad f g adK adV)) xS1 91) := rfl
theorem xst_all : ∀ k, k < 92 → (wlH (xG0 l D cyI cyZ) f ++ wlM (xG0 l D cyI cyZ) g)[xpl.getD k 0]? = some (xa (xG1 l D cyI cyZ (xad f g adK adV)) k, xC (xG1 l D cyI cyZ (xad f g adK adV)) xS1 k) := by
  have h0 := @lt_0 (fun k => (wlH (xG0 l D cyI cyZ) f ++ wlM (xG0 l D cyI cyZ) g)[xpl.getD k 0]? = some (xa (xG1 l D cyI cyZ (xad f g adK adV)) k, xC (xG1 l D cyI cyZ (xad f g adK adV)) xS1 k))
  have h1 := lt_s h0 (xst_0 l D cyI cyZ f g adK adV)
  have h2 := lt_s h1 (xst_1 l D cyI cyZ f g adK adV)
  have h3 := lt_s h2 (xst_2 l D cyI cyZ f g adK adV)
  have h4 := lt_s h3 (xst_3 l D cyI cyZ f g adK adV)
  have h5 := lt_s h4 (xst_4 l D cyI cyZ f g adK adV)
  have h6 := lt_s h5 (xst_5 l D cyI cyZ f g adK adV)
  have h7 := lt_s h6 (xst_6 l D cyI cyZ f g adK adV)
  have h8 := lt_s h7 (xst_7 l D cyI cyZ f g adK adV)
  have h9 := lt_s h8 (xst_8 l D cyI cyZ f g adK adV)
  have h10 := lt_s h9 (xst_9 l D cyI cyZ f g adK adV)
  have h11 := lt_s h10 (xst_10 l D cyI cyZ f g adK adV)
  have h12 := lt_s h11 (xst_11 l D cyI cyZ f g adK adV)
  have h13 := lt_s h12 (xst_12 l D cyI cyZ f g adK adV)
  have h14 := lt_s h13 (xst_13 l D cyI cyZ f g adK adV)
  have h15 := lt_s h14 (xst_14 l D cyI cyZ f g adK adV)
  have h16 := lt_s h15 (xst_15 l D cyI cyZ f g adK adV)
  have h17 := lt_s h16 (xst_16 l D cyI cyZ f g adK adV)
  have h18 := lt_s h17 (xst_17 l D cyI cyZ f g adK adV)
  have h19 := lt_s h18 (xst_18 l D cyI cyZ f g adK adV)
  have h20 := lt_s h19 (xst_19 l D cyI cyZ f g adK adV)
  have h21 := lt_s h20 (xst_20 l D cyI cyZ f g adK adV)
  have h22 := lt_s h21 (xst_21 l D cyI cyZ f g adK adV)
  have h23 := lt_s h22 (xst_22 l D cyI cyZ f g adK adV)
  have h24 := lt_s h23 (xst_23 l D cyI cyZ f g adK adV)
  have h25 := lt_s h24 (xst_24 l D cyI cyZ f g adK adV)
  have h26 := lt_s h25 (xst_25 l D cyI cyZ f g adK adV)
  have h27 := lt_s h26 (xst_26 l D cyI cyZ f g adK adV)
  have h28 := lt_s h27 (xst_27 l D cyI cyZ f g adK adV)
  have h29 := lt_s h28 (xst_28 l D cyI cyZ f g adK adV)
  have h30 := lt_s h29 (xst_29 l D cyI cyZ f g adK adV)
  have h31 := lt_s h30 (xst_30 l D cyI cyZ f g adK adV)
  have h32 := lt_s h31 (xst_31 l D cyI cyZ f g adK adV)
  have h33 := lt_s h32 (xst_32 l D cyI cyZ f g adK adV)
  have h34 := lt_s h33 (xst_33 l D cyI cyZ f g adK adV)
  have h35 := lt_s h34 (xst_34 l D cyI cyZ f g adK adV)
  have h36 := lt_s h35 (xst_35 l D cyI cyZ f g adK adV)
  have h37 := lt_s h36 (xst_36 l D cyI cyZ f g adK adV)
  have h38 := lt_s h37 (xst_37 l D cyI cyZ f g adK adV)
  have h39 := lt_s h38 (xst_38 l D cyI cyZ f g adK adV)
  have h40 := lt_s h39 (xst_39 l D cyI cyZ f g adK adV)
  have h41 := lt_s h40 (xst_40 l D cyI cyZ f g adK adV)
  have h42 := lt_s h41 (xst_41 l D cyI cyZ f g adK adV)
  have h43 := lt_s h42 (xst_42 l D cyI cyZ f g adK adV)
  have h44 := lt_s h43 (xst_43 l D cyI cyZ f g adK adV)
  have h45 := lt_s h44 (xst_44 l D cyI cyZ f g adK adV)
  have h46 := lt_s h45 (xst_45 l D cyI cyZ f g adK adV)
  have h47 := lt_s h46 (xst_46 l D cyI cyZ f g adK adV)
  have h48 := lt_s h47 (xst_47 l D cyI cyZ f g adK adV)
  have h49 := lt_s h48 (xst_48 l D cyI cyZ f g adK adV)
  have h50 := lt_s h49 (xst_49 l D cyI cyZ f g adK adV)
  have h51 := lt_s h50 (xst_50 l D cyI cyZ f g adK adV)
  have h52 := lt_s h51 (xst_51 l D cyI cyZ f g adK adV)
  have h53 := lt_s h52 (xst_52 l D cyI cyZ f g adK adV)
  have h54 := lt_s h53 (xst_53 l D cyI cyZ f g adK adV)
  have h55 := lt_s h54 (xst_54 l D cyI cyZ f g adK adV)
  have h56 := lt_s h55 (xst_55 l D cyI cyZ f g adK adV)
  have h57 := lt_s h56 (xst_56 l D cyI cyZ f g adK adV)
  have h58 := lt_s h57 (xst_57 l D cyI cyZ f g adK adV)
  have h59 := lt_s h58 (xst_58 l D cyI cyZ f g adK adV)
  have h60 := lt_s h59 (xst_59 l D cyI cyZ f g adK adV)
  have h61 := lt_s h60 (xst_60 l D cyI cyZ f g adK adV)
  have h62 := lt_s h61 (xst_61 l D cyI cyZ f g adK adV)
  have h63 := lt_s h62 (xst_62 l D cyI cyZ f g adK adV)
  have h64 := lt_s h63 (xst_63 l D cyI cyZ f g adK adV)
  have h65 := lt_s h64 (xst_64 l D cyI cyZ f g adK adV)
  have h66 := lt_s h65 (xst_65 l D cyI cyZ f g adK adV)
  have h67 := lt_s h66 (xst_66 l D cyI cyZ f g adK adV)
  have h68 := lt_s h67 (xst_67 l D cyI cyZ f g adK adV)
  have h69 := lt_s h68 (xst_68 l D cyI cyZ f g adK adV)
  have h70 := lt_s h69 (xst_69 l D cyI cyZ f g adK adV)
  have h71 := lt_s h70 (xst_70 l D cyI cyZ f g adK adV)
  have h72 := lt_s h71 (xst_71 l D cyI cyZ f g adK adV)
  have h73 := lt_s h72 (xst_72 l D cyI cyZ f g adK adV)
  have h74 := lt_s h73 (xst_73 l D cyI cyZ f g adK adV)
  have h75 := lt_s h74 (xst_74 l D cyI cyZ f g adK adV)
  have h76 := lt_s h75 (xst_75 l D cyI cyZ f g adK adV)
  have h77 := lt_s h76 (xst_76 l D cyI cyZ f g adK adV)
  have h78 := lt_s h77 (xst_77 l D cyI cyZ f g adK adV)
  have h79 := lt_s h78 (xst_78 l D cyI cyZ f g adK adV)
  have h80 := lt_s h79 (xst_79 l D cyI cyZ f g adK adV)
  have h81 := lt_s h80 (xst_80 l D cyI cyZ f g adK adV)
  have h82 := lt_s h81 (xst_81 l D cyI cyZ f g adK adV)
  have h83 := lt_s h82 (xst_82 l D cyI cyZ f g adK adV)
  have h84 := lt_s h83 (xst_83 l D cyI cyZ f g adK adV)
  have h85 := lt_s h84 (xst_84 l D cyI cyZ f g adK adV)
  have h86 := lt_s h85 (xst_85 l D cyI cyZ f g adK adV)
  have h87 := lt_s h86 (xst_86 l D cyI cyZ f g adK adV)
  have h88 := lt_s h87 (xst_87 l D cyI cyZ f g adK adV)
  have h89 := lt_s h88 (xst_88 l D cyI cyZ f g adK adV)
  have h90 := lt_s h89 (xst_89 l D cyI cyZ f g adK adV)
  have h91 := lt_s h90 (xst_90 l D cyI cyZ f g adK adV)
  have h92 := lt_s h91 (xst_91 l D cyI cyZ f g adK adV)
  exact h92
end XST
theorem xpl_inj : ∀ i, i < 92 → ∀ j, j < 92 → xpl.getD i 0 = xpl.getD j 0 → i = j := by decide +kernel
theorem xS0_E {l : Launch} {D : va_G} {cyI cyZ : ClassId} {ad : Nat → Nat} {E E2 : State → Heap → Prop} {U : State} {H : Heap} (h : xS0 (l, D, cyI, cyZ, ad, E) U H) : xS0 (l, D, cyI, cyZ, ad, E2) U H := h
theorem xS0_moved {G : xG} {u V : State} {H : Heap} (hal : u.vm.Alike V.vm) (hR : ∀ i, i < 7 → vk_R RX5 (81 + 2 * i) (xtx i) (xa G (100 + i)) V) (h : xS0 G u H) : xS0 G V H := by
  obtain ⟨h1, h2, h3, v, hv, h4⟩ := h
  exact ⟨h1.moved hal, hR, h3.moved hal, v, hv, h4.moved hal⟩
theorem xS0_warm {G : xG} {u V : State} {H : Heap} (hW : u.WarmedH V.vm) (h : xS0 G u H) : xS0 G V H := xS0_moved hW.alike (fun i hi => (h.2.1 i hi).warm hW) h
theorem xS0_same {G : xG} {u V : State} {H : Heap} (hv : V.vm = u.vm) (h : xS0 G u H) : xS0 G V H := xS0_moved (by rw [hv]; exact Vm.Alike.refl u.vm) (fun i hi => (h.2.1 i hi).same hv) h
theorem xS0_kept {G : xG} {u : State} {H H1 : Heap} (h : xS0 G u H) (hq : ∀ q : Nat, q < H.size → ¬ xA G q → H1[q]? = H[q]?) : xS0 G u H1 := by
  obtain ⟨h1, h2, h3, v, hv, h4⟩ := h
  exact ⟨h1.kept hq, h2, h3.kept hq, v, hv, h4.kept hq⟩
/-- a constructor's call from the law -/
theorem lctor {p : Program} {l : Launch} {e : Env} {s : State} {m : MethodId} {below : List Frame} {meth : Method} {c : Code} {b : Nat} {G : xG} (hG : xl G = l) (hx : p.tables.exec = Jvm.exec) (hb : c.code = code) (hml : c.maxLocals = 4) (hown : s.vm.findClass R_law = some m.cls) (tb : ∀ w ∈ lw_tb, w.before #[Value.ref b] s = true) (hK : cK G s)
    {H : Heap} {locs : List Loc} {ws : va_W} {nc ns : Nat} {Q : State → Prop} (hP : va_P (xD G) xcl ws H) (hD : va_D (fun q : Nat => s.heap.size ≤ q) ws) (hS : va_S (fun q : Nat => s.heap.size ≤ q) s.heap H locs)
    {pc idx mc2 ms2 : Nat} {Y2 : xY} {ls : Array Slot} {lv : List (Nat × Value)} (hlv : lv_has ls 4 lv) (hcw : xcw Y2 0) (hi : Cond.instanceMethod (xn Y2) ∈ lw_tb) (hnm : (xn Y2).name = "<init>") (hnone : xt Y2 = none) (hl : Cond.methodLink R_law idx (xn Y2) ∈ lw_tb) (hroom : xf Y2 + 1 ≤ 13 ∧ 8 + (xL Y2 + 11) + xo Y2 ≤ 490) (hbd : nc + mc2 ≤ 600000 ∧ ns + ms2 ≤ 7302250) {a : Nat} {rest : List Value} (hr8 : (rest.map fun v => v.category).sum ≤ 8) (hd : decode code pc = .ok (.invokespecial idx, 3))
    {wc wr : va_W} {Pw2 : va_W → Prop} (hcon : cCt G Y2 mc2 ms2 [.ref a] wc none Pw2) (isC isR : List Nat) (hnC : va_nd isC = true) (hC : isC.map (fun i => ws[i]?) = wc.map some) (hR : isR.map (fun i => ws[i]?) = wr.map some) (hnR : va_nd isR = true) (hdis : ∀ i ∈ isR, i ∉ isC)
    (kk : ∀ (w1 : va_W) (H1 : Heap) (locs1 : List Loc), Pw2 w1 → va_P (xD G) xcl (wr ++ w1) H1 → va_D (fun q : Nat => s.heap.size ≤ q) (wr ++ w1) → va_S (fun q : Nat => s.heap.size ≤ q) s.heap H1 locs1 → W p l e room_1 s m #[Value.ref b] below meth c H1 locs1 (nc + mc2) (ns + ms2) Q (F0 m (pc + 3) ls rest)) : W p l e room_1 s m #[Value.ref b] below meth c H locs nc ns Q (F0 m pc ls (.ref a :: rest)) := by
  subst hG
  have hGd : GoodIn lw_tb (xw Y2) := by
    intro w hw
    have hm : w ∈ lw_tb := by
      rcases List.mem_cons.mp hw with rfl | h1
      · exact hcw.1
      · exact h1
    exact ⟨hm, good_of_word (lw_tb_good w hm)⟩
  have cb : CallB room_1 s #[Value.ref b] R_law idx (xn Y2) (xb Y2) (xL Y2) none (xw Y2) { frames := xf Y2, cells := mc2, slots := ms2, locals := xo Y2 } mc2 ms2 0 := callB_of 0 tb hGd (by unfold xw; rw [hnone]) rfl rfl (tb _ hcw.2.1) (tb _ hl) ⟨hcw.2.2.1.1, hcw.2.2.1.2, hcw.2.2.2⟩ hroom
  have hpre : ∀ U : State, U.heap = H → s.WarmedH U.vm → va_Pc [.ref a] (fun U => U.heap.size = H.size ∧ va_P (xD G) xcl wc U.heap ∧ cK G U ∧ va_D (fun _ => True) wc) ([.ref a] : List Value).toArray U := fun U hU hW => ⟨rfl, by rw [hU], by
    rw [hU]
    intro k q hk
    have h1 : (isC.map (fun i => ws[i]?))[k]? = some (some q) := by rw [hC, List.getElem?_map, hk]; rfl
    rw [List.getElem?_map] at h1
    cases hi : isC[k]? with
    | none => rw [hi] at h1; cases h1
    | some i => rw [hi] at h1; exact hP i q (Option.some.inj h1), hK.warm hW, (hD.sub isC hnC hC).weaken (fun _ _ _ _ => trivial)⟩
  have hrun := va_runI (p := p) (l := xl G) (e := e) (R := room_1) (below := below) (meth := meth) (H := H) (locs := locs) (cells := nc) (slots := ns) (g := F0 m pc ls (.ref a :: rest)) (As := []) (rest := rest) (b := a) (nL := 4) ⟨hx, hb, hml, hown, tb⟩ (hcon H.size) ⟨cb, hnm, tb _ hi⟩ ⟨cblind, hpre⟩ rfl rfl hlv.1 rfl (lv_room hr8) hd hbd
  intro T hT X
  obtain ⟨v, st₀, t, T', L, h0, X', hL, e1, e2, ⟨hv, ⟨w1, hw1, hP1, hD1⟩, hFr⟩, stp⟩ := hrun T hT X
  have hv : v = none := Outcome.returned.inj hv
  subst hv
  have hz := hFr.1
  have hk := hFr.2
  rw [h0] at hz hk
  have hFc := va_free (wc := wc) hD hS (fun _ h => h) isC hC
  obtain ⟨hP2, hD2⟩ := va_join (wr := wr) (w1 := w1) (H1 := T'.heap) hP hD isC isR hC hR hnR hdis (fun q h1 h2 => by rw [e1]; exact hk q h1 h2) hFc (by rw [e1]; exact hP1) hD1
  obtain ⟨t2, a1, b1⟩ := kk w1 T'.heap (locs ++ L) hw1 hP2 hD2
    ⟨Nat.le_trans hS.1 (by rw [e1]; exact hz), fun q h1 h2 => by rw [e1, hk q (Nat.lt_of_lt_of_le h1 hS.1) (fun z => h2 (hFc q z))]; exact hS.2.1 q h1 h2, fun q hq => by
      rcases List.mem_append.mp hq with h | h
      · exact hS.2.2 q h
      · exact hFc _ (hL q h)⟩ T' rfl X'
  exact ⟨t2, stp t2 a1, b1⟩
/-- the texts' words in the premises -/
def xtm (i : Nat) : Term := .string RX5 (81 + 2 * i)
theorem xp_ex : ∀ i, i < 7 → Cond.exactly (xtm i) "java/lang/String" ∈ flatC (Cond.and given_1 narrow_1) := by decide +kernel
theorem xp_co : ∀ i, i < 7 → Cond.eq (.field (xtm i) "java/lang/String" "coder" "B") (.int 0) ∈ flatC (Cond.and given_1 narrow_1) := by decide +kernel
theorem xp_ar : ∀ i, i < 7 → Cond.arrayOf (.field (xtm i) "java/lang/String" "value" "[B") .byte ∈ flatC (Cond.and given_1 narrow_1) := by decide +kernel
theorem xp_le : ∀ i, i < 7 → Cond.eq (.length (.field (xtm i) "java/lang/String" "value" "[B")) (.int (Int32.ofNat (xlS.getD i 0))) ∈ flatC (Cond.and given_1 narrow_1) := by decide +kernel
theorem xp_el : ∀ i, i < 7 → ∀ j, j < xlS.getD i 0 → Cond.eq (.elem (.field (xtm i) "java/lang/String" "value" "[B") (.int (Int32.ofNat j))) (.int ((xbS.getD i []).getD j 0)) ∈ flatC (Cond.and given_1 narrow_1) := by decide +kernel
theorem xp_ne : ∀ i, i < 7 → ∀ j, j < 7 → i ≠ j → Cond.not (Cond.eq (xtm i) (xtm j)) ∈ flatC (Cond.and given_1 narrow_1) ∨ Cond.not (Cond.eq (xtm j) (xtm i)) ∈ flatC (Cond.and given_1 narrow_1) := by decide +kernel
theorem xp_cs : Cond.eq (.static "java/lang/String" "COMPACT_STRINGS" "Z") (.int 1) ∈ flatC (Cond.and given_1 narrow_1) := by decide +kernel
theorem xp_sf : Cond.isRef (.static "jdk/internal/util/Preconditions" "SIOOBE_FORMATTER" "Ljava/util/function/BiFunction;") ∈ flatC (Cond.and given_1 narrow_1) := by decide +kernel
theorem xp_sr : ∀ i, i < 7 → Cond.stringRef RX5 (81 + 2 * i) (xtx i) ∈ tables_1 := by decide +kernel
theorem xp_zl : Cond.laysStatic "java/lang/String" "COMPACT_STRINGS" "Z" ∈ tables_1 ∧ Cond.initialized "java/lang/String" ∈ tables_1 ∧ Cond.laysStatic "jdk/internal/util/Preconditions" "SIOOBE_FORMATTER" "Ljava/util/function/BiFunction;" ∈ tables_1 ∧ Cond.initialized "jdk/internal/util/Preconditions" ∈ tables_1 := by decide +kernel
theorem xp_nl : ∀ q ∈ xnl, Cond.methodLinkNest q.1 q.2.1 q.2.2.1 q.2.2.2 ∈ tables_1 := by decide +kernel
theorem xp_nk : ∀ q ∈ xnk, Cond.methodLinkNest q.1 q.2.1 q.2.2.1 q.2.2.2 ∈ tables_1 := by decide +kernel
theorem xp_is : ∀ k, k < 8 → Cond.instantiable (xcl.getD k (RX0, TX0, 2)).1 (xcl.getD k (RX0, TX0, 2)).2.2 ∈ lw_tb := by decide +kernel
theorem xp_cl : Cond.classLink R_law 7 RX8 ∈ lw_tb ∧ Cond.initialized RX8 ∈ lw_tb ∧ Cond.classLink R_law 10 RX9 ∈ lw_tb ∧ Cond.initialized RX9 ∈ lw_tb := by decide +kernel
theorem xp_ah : Cond.arrayClass .int ∈ lw_tb ∧ Cond.arrayClass .boolean ∈ lw_tb := by decide +kernel
theorem xp_h : xcw yyH_init 0 ∧ Cond.instanceMethod (xn yyH_init) ∈ lw_tb ∧ Cond.methodLink R_law 9 (xn yyH_init) ∈ lw_tb := ⟨⟨by decide +kernel, by decide +kernel, ⟨by decide +kernel, by decide +kernel⟩, by decide +kernel⟩, by decide +kernel, by decide +kernel⟩
theorem xp_m : xcw yyM_init 0 ∧ Cond.instanceMethod (xn yyM_init) ∈ lw_tb ∧ Cond.methodLink R_law 12 (xn yyM_init) ∈ lw_tb := ⟨⟨by decide +kernel, by decide +kernel, ⟨by decide +kernel, by decide +kernel⟩, by decide +kernel⟩, by decide +kernel, by decide +kernel⟩
theorem xar {s : State} {args : Array Value} {ty : FieldType} (hty : (∃ C, ty = .object C) → False) (h : (Cond.arrayClass ty).before args s = true) : ∃ cA : ClassId, ArrOfT s cA ty ∧ va_RA s cA ty := by
  obtain ⟨cA, kA, comp, h1, h2, h3⟩ := Cond.arrayClass_spec (args := args) (first := s) (o := none) (s := s) (idx := []) h
  refine ⟨cA, fun n z => ⟨fun k h => (by cases h), kA, h2, comp, h3⟩, ?_⟩
  cases ty with
  | object C => exact absurd ⟨C, rfl⟩ (fun h => hty h)
  | _ => exact h1
set_option maxHeartbeats 4000000 in
set_option maxRecDepth 100000 in
/-- THE LAW, from its entry -/
theorem whole_start {p : Program} {e : Env} {s : State} {m : MethodId} {below : List Frame} {meth : Method} {c : Code} (l : Launch) (hflags : l.flags = flags0) {b L : Nat} {xs : Nat → Int32} (hL : L ≤ 3584) (C0 : lw_At p s m meth c b L xs) : W p l e room_1 s m #[Value.ref b] below meth c s.heap [] 0 0 (lw_Z below #[Value.ref b] s) (entryFrame m ([Value.ref b] : List Value).toArray 4) := by
  obtain ⟨hx, hb, hr, hml, hown, hts, hX, hbl, hlocks, hgv⟩ := id C0
  have tb : ∀ w ∈ lw_tb, w.before #[Value.ref b] s = true := fun w hw => hts w (List.mem_filter.mp hw).1
  have t1 : ∀ w ∈ tables_1, w.before #[Value.ref b] s = true := fun w hw => hts w (List.mem_append_right _ hw)
  have fl := flat_of_before _ hgv
  have hA : ∀ q : Nat, s.heap.size ≤ q → (fun q : Nat => s.heap.size ≤ q) q := fun _ h => h
  have hA' : ∀ a : Nat, a < s.heap.size → ¬ (fun q : Nat => s.heap.size ≤ q) a := fun a h h2 => absurd h (Nat.not_lt.mpr h2)
  have hkn : ∀ k : Nat, ∃ q : ClassId × (Nat → Nat), k < 8 → u_Kn s (xcl.getD k (RX0, TX0, 2)).1 (xcl.getD k (RX0, TX0, 2)).2.1 (xcl.getD k (RX0, TX0, 2)).2.2 q.1 q.2 := by
    intro k
    by_cases hk : k < 8
    · obtain ⟨cC, iS, h⟩ := u_known (C := (xcl.getD k (RX0, TX0, 2)).1) (T := (xcl.getD k (RX0, TX0, 2)).2.1) (N := (xcl.getD k (RX0, TX0, 2)).2.2) (n := (xcl.getD k (RX0, TX0, 2)).2.2) tb (by
        rcases (show k = 0 ∨ k = 1 ∨ k = 2 ∨ k = 3 ∨ k = 4 ∨ k = 5 ∨ k = 6 ∨ k = 7 by omega) with rfl | rfl | rfl | rfl | rfl | rfl | rfl | rfl
        · exact xcf0.2.1
        · exact xcf1.2.1
        · exact xcf2.2.1
        · exact xcf3.2.1
        · exact xcf4.2.1
        · exact xcf5.2.1
        · exact xcf6.2.1
        · exact xcf7.2.1) (tb _ (xp_is k hk))
      exact ⟨(cC, iS), fun _ => h⟩
    · exact ⟨(0, fun _ => 0), fun h => absurd h hk⟩
  obtain ⟨ft, hft⟩ := Classical.axiomOfChoice hkn
  obtain ⟨cyI, hI1, hI2⟩ := xar (ty := .int) (fun ⟨C, h⟩ => by cases h) (tb _ xp_ah.1)
  obtain ⟨cyZ, hZ1, hZ2⟩ := xar (ty := .boolean) (fun ⟨C, h⟩ => by cases h) (tb _ xp_ah.2)
  obtain ⟨D, hDD⟩ : ∃ D : va_G, D = (fun k => (ft k).1, fun k => (ft k).2) := ⟨_, rfl⟩
  have hvK : va_K D xcl [(cyI, .int), (cyZ, .boolean)] s := by
    subst hDD
    refine ⟨fun k q hq => ?_, fun k q hq => ?_⟩
    · have hk : k < 8 := (List.getElem?_eq_some_iff.mp hq).1
      have h1 := hft k hk
      have h2 : xcl.getD k (RX0, TX0, 2) = q := by rw [List.getD_eq_getElem?_getD, hq]; rfl
      rw [h2] at h1
      exact h1
    · match k, hq with
      | 0, hq => cases hq; exact ⟨hI1, hI2⟩
      | 1, hq => cases hq; exact ⟨hZ1, hZ2⟩
      | k + 2, hq => simp at hq
  have hcK : cK (xG0 l D cyI cyZ) s := ⟨hvK, fun q hq => va_Nw.of rfl (t1 _ (xp_nk q hq))⟩
  have hS : va_S (fun q : Nat => s.heap.size ≤ q) s.heap s.heap [] := va_S.rf
  have hP : va_P D xcl [] s.heap := fun k q h => by simp at h
  have hD : va_D (fun q : Nat => s.heap.size ≤ q) [] := ⟨fun i j p q h => by simp at h, fun k q h => by simp at h⟩
  have hl := lv_entry ([.ref b]) (n := 4) (Nat.le_of_ble_eq_true rfl)
  rw [lg_entry_eq]
  generalize (lg_sl ([.ref b]) ++ List.replicate (4 - (lg_sl ([.ref b])).length) Slot.unset).toArray = ls at hl ⊢
  have hl : lv_has ls 4 [(0, .ref b)] := hl
  refine va_new (ci := 6) (fs := [.null, .null, .null, .null, .null, .null, .null, .null, .null, .int 0, .int 0, .long 0, .long 0, .int 0, .int 0, .int 0]) (C := RX8) (T := TX8) (N := 16) hx hb tb xcf6.2.1 tyX8 tyX8_ok hown (tb _ xp_cl.1) (tb _ (xp_is 6 (by decide))) (tb _ xp_cl.2.1) hvK hP hD hS hA rfl (fun j hj => by rcases (show j = 0 ∨ j = 1 ∨ j = 2 ∨ j = 3 ∨ j = 4 ∨ j = 5 ∨ j = 6 ∨ j = 7 ∨ j = 8 ∨ j = 9 ∨ j = 10 ∨ j = 11 ∨ j = 12 ∨ j = 13 ∨ j = 14 ∨ j = 15 by omega) with rfl | rfl | rfl | rfl | rfl | rfl | rfl | rfl | rfl | rfl | rfl | rfl | rfl | rfl | rfl | rfl <;> rfl) (Nat.le_of_ble_eq_true rfl) (Nat.le_of_ble_eq_true rfl) d_law_0 (fun q0 H1 hP1 hD1 hS1 => ?_)
  refine lv_dup hx hb d_law_3 rfl ?_
  refine lctor (G := xG0 l D cyI cyZ) (ws := [(q0, .inr (6, [.null, .null, .null, .null, .null, .null, .null, .null, .null, .int 0, .int 0, .long 0, .long 0, .int 0, .int 0, .int 0]))]) (wr := []) rfl hx hb hml hown tb hcK hP1 hD1 hS1 hl xp_h.1 xp_h.2.1 rfl rfl xp_h.2.2 ⟨Nat.le_of_ble_eq_true rfl, Nat.le_of_ble_eq_true rfl⟩ ⟨Nat.le_of_ble_eq_true rfl, Nat.le_of_ble_eq_true rfl⟩ (Nat.le_of_ble_eq_true rfl) d_law_4 (cH_init (xG0 l D cyI cyZ) q0) [0] [] rfl rfl rfl rfl (by decide) (fun w1 H2 locs2 hw1 hP2 hD2 hS2 => ?_)
  obtain ⟨f, ef, rfl⟩ := hw1
  subst ef
  refine lv_astore_n (lv' := [(1, .ref (f 0)), (0, .ref b)]) hx hb d_law_7 rfl hl (by decide) rfl (fun ls hl => ?_)
  refine va_new (ci := 7) (fs := [.null, .null, .null, .int 0, .long 0, .long 0, .null, .int 0, .int 0, .int 0, .null, .null, .long 0]) (C := RX9) (T := TX9) (N := 13) hx hb tb xcf7.2.1 tyX9 tyX9_ok hown (tb _ xp_cl.2.2.1) (tb _ (xp_is 7 (by decide))) (tb _ xp_cl.2.2.2) hvK hP2 hD2 hS2 hA rfl (fun j hj => by rcases (show j = 0 ∨ j = 1 ∨ j = 2 ∨ j = 3 ∨ j = 4 ∨ j = 5 ∨ j = 6 ∨ j = 7 ∨ j = 8 ∨ j = 9 ∨ j = 10 ∨ j = 11 ∨ j = 12 by omega) with rfl | rfl | rfl | rfl | rfl | rfl | rfl | rfl | rfl | rfl | rfl | rfl | rfl <;> rfl) (Nat.le_of_ble_eq_true rfl) (Nat.le_of_ble_eq_true rfl) d_law_8 (fun q1 H3 hP3 hD3 hS3 => ?_)
  refine lv_dup hx hb d_law_11 rfl ?_
  refine lctor (G := xG0 l D cyI cyZ) (wr := [] ++ wlH (xG0 l D cyI cyZ) f) rfl hx hb hml hown tb hcK hP3 hD3 hS3 hl xp_m.1 xp_m.2.1 rfl rfl xp_m.2.2 ⟨Nat.le_of_ble_eq_true rfl, Nat.le_of_ble_eq_true rfl⟩ ⟨Nat.le_of_ble_eq_true rfl, Nat.le_of_ble_eq_true rfl⟩ (Nat.le_of_ble_eq_true rfl) d_law_12 (cM_init (xG0 l D cyI cyZ) q1) [85] (List.range 85) rfl rfl rfl rfl (by decide) (fun w1 H locs hw1 hP4 hD4 hS4 => ?_)
  obtain ⟨g, eg, rfl⟩ := hw1
  subst eg
  have hP : va_P D xcl (wlH (xG0 l D cyI cyZ) f ++ wlM (xG0 l D cyI cyZ) g) H := hP4
  have hD : va_D (fun q : Nat => s.heap.size ≤ q) (wlH (xG0 l D cyI cyZ) f ++ wlM (xG0 l D cyI cyZ) g) := hD4
  refine lv_astore_n (lv' := [(2, .ref (g 0)), (1, .ref (f 0)), (0, .ref b)]) hx hb d_law_15 rfl hl (by decide) rfl (fun ls hl => ?_)
  refine lv_iconst (v := 0) hx hb d_law_16 (by decide) ?_
  refine lv_istore_n (lv' := [(3, .int 0), (2, .ref (g 0)), (1, .ref (f 0)), (0, .ref b)]) hx hb d_law_17 rfl hl (by decide) rfl (fun ls hl => ?_)
  obtain ⟨adK, adV, hvs, hev⟩ := vk_Sof (args := #[Value.ref b]) (s := s) (N := 7) (tm := xtm) (len := xlS) (byt := xbS) (A := fun q : Nat => s.heap.size ≤ q) (by decide +kernel) (fun i hi => fl _ (xp_ex i hi)) (fun i hi => fl _ (xp_co i hi)) (fun i hi => fl _ (xp_ar i hi)) (fun i hi => fl _ (xp_le i hi)) (fun i hi j hj => fl _ (xp_el i hi j hj)) (fun i j hi hj hij => (xp_ne i hi j hj hij).imp (fl _) (fl _)) hA'
  have hst := xst_all l D cyI cyZ f g adK adV
  obtain ⟨ad, had⟩ : ∃ ad : Nat → Nat, ad = xad f g adK adV := ⟨_, rfl⟩
  rw [← had] at hst
  have hfr : ∀ k, k < 92 → s.heap.size ≤ ad k := fun k hk => hD.2 _ _ (hst k hk)
  have hinj : ∀ i j, i < 92 → j < 92 → ad i = ad j → i = j := fun i j hi hj h => xpl_inj i hi j hj (hD.1 _ _ _ _ (hst i hi) (hst j hj) h)
  have hxA : ∀ q, xA (xG1 l D cyI cyZ ad) q → s.heap.size ≤ q := fun q hq => by
    obtain ⟨k, hk, rfl⟩ := hq
    exact hfr k hk
  have hPx : va_P D xcl (xCL (xG1 l D cyI cyZ ad) xS1) H := fun k q hk => by
    obtain ⟨h1, rfl⟩ := xCL_lt hk
    exact hP _ _ (hst k h1)
  have e1 : ∀ i, i < 7 → ad (100 + i) = adK i := fun i hi => by
    rw [had]
    unfold xad
    rw [if_neg (by omega), if_pos (by omega), Nat.add_sub_cancel_left]
  have e2 : ∀ i, i < 7 → ad (200 + i) = adV i := fun i hi => by
    rw [had]
    unfold xad
    rw [if_neg (by omega), if_neg (by omega), Nat.add_sub_cancel_left]
  obtain ⟨vf, hvf, hvr⟩ := Cond.isRef_spec (fl _ xp_sf)
  have hS0 : xS0 (xG1 l D cyI cyZ ad) s s.heap := by
    refine ⟨?_, fun i hi => ?_, ?_, vf, ?_, ?_⟩
    · refine vk_S.narrow (A := fun q : Nat => s.heap.size ≤ q) ?_ hxA
      refine ⟨fun i hi => ?_, fun i j hi hj h => ?_⟩
      · have h1 := hvs.1 i hi
        rw [← e1 i hi, ← e2 i hi] at h1
        exact h1
      · have h : ad (100 + i) = ad (100 + j) := h
        rw [e1 i hi, e1 j hj] at h
        exact hvs.2 i j hi hj h
    · have h1 := hev i hi
      rw [← e1 i hi] at h1
      exact vk_R.of (t1 _ (xp_sr i hi)) h1
    · exact (va_Zof (t1 _ xp_zl.1) (t1 _ xp_zl.2.1) (va_eqi (fl _ xp_cs)) hA').narrow hxA
    · cases vf with
      | null => exact Or.inl rfl
      | ref a => exact Or.inr ⟨a, rfl⟩
      | _ => cases hvr
    · exact (va_Zof (t1 _ xp_zl.2.2.1) (t1 _ xp_zl.2.2.2) hvf hA').narrow hxA
  have hKK : xK (xG1 l D cyI cyZ ad) s := ⟨hvK, hinj, fun u V H hW h => xS0_E (xS0_warm hW h), fun u V H hv h => xS0_E (xS0_same hv h), fun u H H1 h hq => xS0_E (xS0_kept h hq), fun q hq => va_Nw.of rfl (t1 _ (xp_nl q hq)), fun u H h => xS0_E h⟩
  have hC : lCx p e s m below meth c b L xs (xG1 l D cyI cyZ ad) := ⟨C0, hL, hKK, xS0_E hS0, hfr⟩
  have e3 : f 0 = xa (xG1 l D cyI cyZ ad) 81 := by rw [had]; rfl
  have e4 : g 0 = xa (xG1 l D cyI cyZ ad) 85 := by rw [had]; rfl
  rw [e3, e4] at hl
  exact law_loop hC hL (L + 8) 0 (by omega) (by omega) xS1.1 xS1.2 xRel_start H locs ls hPx hS4 (lv_sub hl [3, 2, 1, 0] rfl)
