/-! The kinds of the cells behind both constructors; reads and writes of the fields of objects that stand there. -/
def hb0 (l s d : Value) : List (Nat ⊕ Value) := [.inr (.ref 1), .inr (.ref 4), .inr (.ref 8), .inr (.ref 14), .inr (.ref 19), .inr (.ref 22), .inr (.ref 25), .inl 0, .inr l, .inr s, .inr d]
def hb1 : List (Nat ⊕ Value) := [.inl 0, .inr (.ref 2), .inr (.ref 3)]
def hb4 : List (Nat ⊕ Value) := [.inr (.ref 5), .inl 0, .inl 0, .inl 0, .inl 0, .inl 0, .inr (.ref 6), .inr (.ref 7)]
def hb8 : List (Nat ⊕ Value) := [.inr (.ref 1), .inl 0, .inr (.ref 9), .inr (.ref 10), .inr (.ref 11), .inr (.ref 12), .inr (.ref 13)]
def hb14 : List (Nat ⊕ Value) := [.inr (.ref 1), .inr (.ref 8), .inr (.ref 15), .inr (.ref 16), .inr (.ref 17), .inr (.ref 18)]
def hb19 : List (Nat ⊕ Value) := [.inr (.ref 1), .inr (.ref 8), .inr (.ref 20), .inr (.ref 21)]
def hb22 : List (Nat ⊕ Value) := [.inr (.ref 1), .inr (.ref 8), .inr (.ref 23), .inr (.ref 24)]
def hb26 : List (Nat ⊕ Value) := [.inl 0, .inr (.ref 27), .inr (.ref 28), .inr (.ref 29), .inr (.ref 30), .inl 0, .inl 0, .inl 0, .inl 1, .inl 0, .inl 0, .inr (.ref 31), .inl 0, .inr (.ref 32), .inr (.ref 33), .inl 0, .inl 0, .inr (.ref 34), .inr (.ref 35), .inl 0, .inr (.ref 36), .inr (.ref 37), .inr (.ref 38), .inr (.ref 39), .inr (.ref 40), .inr (.ref 41), .inr (.ref 42), .inl 0, .inr (.ref 43), .inr (.ref 44), .inl 0, .inl 0, .inr (.ref 45), .inr (.ref 46), .inr (.ref 47), .inr (.ref 48), .inr (.ref 49), .inr (.ref 50), .inr (.ref 51), .inr (.ref 52), .inr (.ref 53)]
def hs (l s d : Value) (tl : List hQ) : List hQ := .inr (10, hb0 l s d) :: .inr (3, hb1) :: .inl (0, 25) :: .inl (0, 25) :: .inr (8, hb4) :: .inl (0, 120) :: .inl (0, 25) :: .inl (2, 25) :: .inr (1, hb8) :: .inl (0, 800) :: .inl (0, 40) :: .inl (1, 200) :: .inl (1, 200) :: .inl (1, 5) :: .inr (9, hb14) :: .inl (1, 5) :: .inl (1, 5) :: .inl (0, 20) :: .inl (0, 20) :: .inr (5, hb19) :: .inl (1, 5) :: .inl (1, 25) :: .inr (4, hb22) :: .inl (1, 45) :: .inl (0, 9) :: .inl (0, 20) :: .inr (11, hb26) :: .inl (0, 25) :: .inl (0, 25) :: .inl (0, 25) :: .inl (0, 120) :: .inl (2, 25) :: .inl (1, 25) :: .inl (0, 64) :: .inl (0, 40) :: .inl (0, 800) :: .inl (0, 20) :: .inl (1, 50000) :: .inl (1, 50000) :: .inl (1, 2000) :: .inl (1, 2000) :: .inl (1, 5) :: .inl (0, 20) :: .inl (0, 301) :: .inl (0, 6020) :: .inl (1, 6400) :: .inl (0, 256) :: .inl (0, 1280) :: .inl (2, 1280) :: .inl (0, 2304) :: .inl (0, 2304) :: .inl (0, 9) :: .inl (0, 2304) :: .inl (0, 2304) :: tl
section S
variable {l s d : Value} {tl : List hQ} {I : hI} {J : hJ}
theorem q0 : (hs l s d tl)[0]? = some (.inr (10, hb0 l s d)) := rfl
theorem q1 : (hs l s d tl)[1]? = some (.inr (3, hb1)) := rfl
theorem q2 : (hs l s d tl)[2]? = some (.inl (0, 25)) := rfl
theorem q3 : (hs l s d tl)[3]? = some (.inl (0, 25)) := rfl
theorem q4 : (hs l s d tl)[4]? = some (.inr (8, hb4)) := rfl
theorem q5 : (hs l s d tl)[5]? = some (.inl (0, 120)) := rfl
theorem q6 : (hs l s d tl)[6]? = some (.inl (0, 25)) := rfl
theorem q7 : (hs l s d tl)[7]? = some (.inl (2, 25)) := rfl
theorem q8 : (hs l s d tl)[8]? = some (.inr (1, hb8)) := rfl
theorem q9 : (hs l s d tl)[9]? = some (.inl (0, 800)) := rfl
theorem q10 : (hs l s d tl)[10]? = some (.inl (0, 40)) := rfl
theorem q11 : (hs l s d tl)[11]? = some (.inl (1, 200)) := rfl
theorem q12 : (hs l s d tl)[12]? = some (.inl (1, 200)) := rfl
theorem q13 : (hs l s d tl)[13]? = some (.inl (1, 5)) := rfl
theorem q14 : (hs l s d tl)[14]? = some (.inr (9, hb14)) := rfl
theorem q15 : (hs l s d tl)[15]? = some (.inl (1, 5)) := rfl
theorem q16 : (hs l s d tl)[16]? = some (.inl (1, 5)) := rfl
theorem q17 : (hs l s d tl)[17]? = some (.inl (0, 20)) := rfl
theorem q18 : (hs l s d tl)[18]? = some (.inl (0, 20)) := rfl
theorem q19 : (hs l s d tl)[19]? = some (.inr (5, hb19)) := rfl
theorem q20 : (hs l s d tl)[20]? = some (.inl (1, 5)) := rfl
theorem q21 : (hs l s d tl)[21]? = some (.inl (1, 25)) := rfl
theorem q22 : (hs l s d tl)[22]? = some (.inr (4, hb22)) := rfl
theorem q23 : (hs l s d tl)[23]? = some (.inl (1, 45)) := rfl
theorem q24 : (hs l s d tl)[24]? = some (.inl (0, 9)) := rfl
theorem q25 : (hs l s d tl)[25]? = some (.inl (0, 20)) := rfl
theorem q26 : (hs l s d tl)[26]? = some (.inr (11, hb26)) := rfl
theorem q27 : (hs l s d tl)[27]? = some (.inl (0, 25)) := rfl
theorem q28 : (hs l s d tl)[28]? = some (.inl (0, 25)) := rfl
theorem q29 : (hs l s d tl)[29]? = some (.inl (0, 25)) := rfl
theorem q30 : (hs l s d tl)[30]? = some (.inl (0, 120)) := rfl
theorem q31 : (hs l s d tl)[31]? = some (.inl (2, 25)) := rfl
theorem q32 : (hs l s d tl)[32]? = some (.inl (1, 25)) := rfl
theorem q33 : (hs l s d tl)[33]? = some (.inl (0, 64)) := rfl
theorem q34 : (hs l s d tl)[34]? = some (.inl (0, 40)) := rfl
theorem q35 : (hs l s d tl)[35]? = some (.inl (0, 800)) := rfl
theorem q36 : (hs l s d tl)[36]? = some (.inl (0, 20)) := rfl
theorem q37 : (hs l s d tl)[37]? = some (.inl (1, 50000)) := rfl
theorem q38 : (hs l s d tl)[38]? = some (.inl (1, 50000)) := rfl
theorem q39 : (hs l s d tl)[39]? = some (.inl (1, 2000)) := rfl
theorem q40 : (hs l s d tl)[40]? = some (.inl (1, 2000)) := rfl
theorem q41 : (hs l s d tl)[41]? = some (.inl (1, 5)) := rfl
theorem q42 : (hs l s d tl)[42]? = some (.inl (0, 20)) := rfl
theorem q43 : (hs l s d tl)[43]? = some (.inl (0, 301)) := rfl
theorem q44 : (hs l s d tl)[44]? = some (.inl (0, 6020)) := rfl
theorem q45 : (hs l s d tl)[45]? = some (.inl (1, 6400)) := rfl
theorem q46 : (hs l s d tl)[46]? = some (.inl (0, 256)) := rfl
theorem q47 : (hs l s d tl)[47]? = some (.inl (0, 1280)) := rfl
theorem q48 : (hs l s d tl)[48]? = some (.inl (2, 1280)) := rfl
theorem q49 : (hs l s d tl)[49]? = some (.inl (0, 2304)) := rfl
theorem q50 : (hs l s d tl)[50]? = some (.inl (0, 2304)) := rfl
theorem q51 : (hs l s d tl)[51]? = some (.inl (0, 9)) := rfl
theorem q52 : (hs l s d tl)[52]? = some (.inl (0, 2304)) := rfl
theorem q53 : (hs l s d tl)[53]? = some (.inl (0, 2304)) := rfl
theorem rc0 : rcv 10 (mkH (hs l s d tl) I J) 0 = some () := rcv_H q0
theorem gr0_0 : gfr 10 0 (mkH (hs l s d tl) I J) 0 = some 1 := gfr_H q0 rfl q1
theorem gr0_1 : gfr 10 1 (mkH (hs l s d tl) I J) 0 = some 4 := gfr_H q0 rfl q4
theorem gr0_2 : gfr 10 2 (mkH (hs l s d tl) I J) 0 = some 8 := gfr_H q0 rfl q8
theorem gr0_3 : gfr 10 3 (mkH (hs l s d tl) I J) 0 = some 14 := gfr_H q0 rfl q14
theorem gr0_4 : gfr 10 4 (mkH (hs l s d tl) I J) 0 = some 19 := gfr_H q0 rfl q19
theorem gr0_5 : gfr 10 5 (mkH (hs l s d tl) I J) 0 = some 22 := gfr_H q0 rfl q22
theorem gr0_6 : gfr 10 6 (mkH (hs l s d tl) I J) 0 = some 25 := gfr_H q0 rfl q25
theorem gi0_7 : gfi 10 7 (mkH (hs l s d tl) I J) 0 = some (I 0 7) := gfi_H q0 rfl
theorem pi0_7 {x : Int32} : pfv 10 7 (mkH (hs l s d tl) I J) 0 (.int x) = some (mkH (hs l s d tl) (upI I 0 7 x) J) := pfi_H q0 rfl
theorem rc1 : rcv 3 (mkH (hs l s d tl) I J) 1 = some () := rcv_H q1
theorem gi1_0 : gfi 3 0 (mkH (hs l s d tl) I J) 1 = some (I 1 0) := gfi_H q1 rfl
theorem pi1_0 {x : Int32} : pfv 3 0 (mkH (hs l s d tl) I J) 1 (.int x) = some (mkH (hs l s d tl) (upI I 1 0 x) J) := pfi_H q1 rfl
theorem gr1_1 : gfr 3 1 (mkH (hs l s d tl) I J) 1 = some 2 := gfr_H q1 rfl q2
theorem gr1_2 : gfr 3 2 (mkH (hs l s d tl) I J) 1 = some 3 := gfr_H q1 rfl q3
theorem rc4 : rcv 8 (mkH (hs l s d tl) I J) 4 = some () := rcv_H q4
theorem gr4_0 : gfr 8 0 (mkH (hs l s d tl) I J) 4 = some 5 := gfr_H q4 rfl q5
theorem gi4_1 : gfi 8 1 (mkH (hs l s d tl) I J) 4 = some (I 4 1) := gfi_H q4 rfl
theorem pi4_1 {x : Int32} : pfv 8 1 (mkH (hs l s d tl) I J) 4 (.int x) = some (mkH (hs l s d tl) (upI I 4 1 x) J) := pfi_H q4 rfl
theorem gi4_2 : gfi 8 2 (mkH (hs l s d tl) I J) 4 = some (I 4 2) := gfi_H q4 rfl
theorem pi4_2 {x : Int32} : pfv 8 2 (mkH (hs l s d tl) I J) 4 (.int x) = some (mkH (hs l s d tl) (upI I 4 2 x) J) := pfi_H q4 rfl
theorem gi4_3 : gfi 8 3 (mkH (hs l s d tl) I J) 4 = some (I 4 3) := gfi_H q4 rfl
theorem pi4_3 {x : Int32} : pfv 8 3 (mkH (hs l s d tl) I J) 4 (.int x) = some (mkH (hs l s d tl) (upI I 4 3 x) J) := pfi_H q4 rfl
theorem gi4_4 : gfi 8 4 (mkH (hs l s d tl) I J) 4 = some (I 4 4) := gfi_H q4 rfl
theorem pi4_4 {x : Int32} : pfv 8 4 (mkH (hs l s d tl) I J) 4 (.int x) = some (mkH (hs l s d tl) (upI I 4 4 x) J) := pfi_H q4 rfl
theorem gi4_5 : gfi 8 5 (mkH (hs l s d tl) I J) 4 = some (I 4 5) := gfi_H q4 rfl
theorem pi4_5 {x : Int32} : pfv 8 5 (mkH (hs l s d tl) I J) 4 (.int x) = some (mkH (hs l s d tl) (upI I 4 5 x) J) := pfi_H q4 rfl
theorem gr4_6 : gfr 8 6 (mkH (hs l s d tl) I J) 4 = some 6 := gfr_H q4 rfl q6
theorem gr4_7 : gfr 8 7 (mkH (hs l s d tl) I J) 4 = some 7 := gfr_H q4 rfl q7
theorem rc8 : rcv 1 (mkH (hs l s d tl) I J) 8 = some () := rcv_H q8
theorem gr8_0 : gfr 1 0 (mkH (hs l s d tl) I J) 8 = some 1 := gfr_H q8 rfl q1
theorem gi8_1 : gfi 1 1 (mkH (hs l s d tl) I J) 8 = some (I 8 1) := gfi_H q8 rfl
theorem pi8_1 {x : Int32} : pfv 1 1 (mkH (hs l s d tl) I J) 8 (.int x) = some (mkH (hs l s d tl) (upI I 8 1 x) J) := pfi_H q8 rfl
theorem gr8_2 : gfr 1 2 (mkH (hs l s d tl) I J) 8 = some 9 := gfr_H q8 rfl q9
theorem gr8_3 : gfr 1 3 (mkH (hs l s d tl) I J) 8 = some 10 := gfr_H q8 rfl q10
theorem gr8_4 : gfr 1 4 (mkH (hs l s d tl) I J) 8 = some 11 := gfr_H q8 rfl q11
theorem gr8_5 : gfr 1 5 (mkH (hs l s d tl) I J) 8 = some 12 := gfr_H q8 rfl q12
theorem gr8_6 : gfr 1 6 (mkH (hs l s d tl) I J) 8 = some 13 := gfr_H q8 rfl q13
theorem rc14 : rcv 9 (mkH (hs l s d tl) I J) 14 = some () := rcv_H q14
theorem gr14_0 : gfr 9 0 (mkH (hs l s d tl) I J) 14 = some 1 := gfr_H q14 rfl q1
theorem gr14_1 : gfr 9 1 (mkH (hs l s d tl) I J) 14 = some 8 := gfr_H q14 rfl q8
theorem gr14_2 : gfr 9 2 (mkH (hs l s d tl) I J) 14 = some 15 := gfr_H q14 rfl q15
theorem gr14_3 : gfr 9 3 (mkH (hs l s d tl) I J) 14 = some 16 := gfr_H q14 rfl q16
theorem gr14_4 : gfr 9 4 (mkH (hs l s d tl) I J) 14 = some 17 := gfr_H q14 rfl q17
theorem gr14_5 : gfr 9 5 (mkH (hs l s d tl) I J) 14 = some 18 := gfr_H q14 rfl q18
theorem rc19 : rcv 5 (mkH (hs l s d tl) I J) 19 = some () := rcv_H q19
theorem gr19_0 : gfr 5 0 (mkH (hs l s d tl) I J) 19 = some 1 := gfr_H q19 rfl q1
theorem gr19_1 : gfr 5 1 (mkH (hs l s d tl) I J) 19 = some 8 := gfr_H q19 rfl q8
theorem gr19_2 : gfr 5 2 (mkH (hs l s d tl) I J) 19 = some 20 := gfr_H q19 rfl q20
theorem gr19_3 : gfr 5 3 (mkH (hs l s d tl) I J) 19 = some 21 := gfr_H q19 rfl q21
theorem rc22 : rcv 4 (mkH (hs l s d tl) I J) 22 = some () := rcv_H q22
theorem gr22_0 : gfr 4 0 (mkH (hs l s d tl) I J) 22 = some 1 := gfr_H q22 rfl q1
theorem gr22_1 : gfr 4 1 (mkH (hs l s d tl) I J) 22 = some 8 := gfr_H q22 rfl q8
theorem gr22_2 : gfr 4 2 (mkH (hs l s d tl) I J) 22 = some 23 := gfr_H q22 rfl q23
theorem gr22_3 : gfr 4 3 (mkH (hs l s d tl) I J) 22 = some 24 := gfr_H q22 rfl q24
theorem rc26 : rcv 11 (mkH (hs l s d tl) I J) 26 = some () := rcv_H q26
theorem gi26_0 : gfi 11 0 (mkH (hs l s d tl) I J) 26 = some (I 26 0) := gfi_H q26 rfl
theorem pi26_0 {x : Int32} : pfv 11 0 (mkH (hs l s d tl) I J) 26 (.int x) = some (mkH (hs l s d tl) (upI I 26 0 x) J) := pfi_H q26 rfl
theorem gr26_1 : gfr 11 1 (mkH (hs l s d tl) I J) 26 = some 27 := gfr_H q26 rfl q27
theorem gr26_2 : gfr 11 2 (mkH (hs l s d tl) I J) 26 = some 28 := gfr_H q26 rfl q28
theorem gr26_3 : gfr 11 3 (mkH (hs l s d tl) I J) 26 = some 29 := gfr_H q26 rfl q29
theorem gr26_4 : gfr 11 4 (mkH (hs l s d tl) I J) 26 = some 30 := gfr_H q26 rfl q30
theorem gi26_5 : gfi 11 5 (mkH (hs l s d tl) I J) 26 = some (I 26 5) := gfi_H q26 rfl
theorem pi26_5 {x : Int32} : pfv 11 5 (mkH (hs l s d tl) I J) 26 (.int x) = some (mkH (hs l s d tl) (upI I 26 5 x) J) := pfi_H q26 rfl
theorem gi26_6 : gfi 11 6 (mkH (hs l s d tl) I J) 26 = some (I 26 6) := gfi_H q26 rfl
theorem pi26_6 {x : Int32} : pfv 11 6 (mkH (hs l s d tl) I J) 26 (.int x) = some (mkH (hs l s d tl) (upI I 26 6 x) J) := pfi_H q26 rfl
theorem gi26_7 : gfi 11 7 (mkH (hs l s d tl) I J) 26 = some (I 26 7) := gfi_H q26 rfl
theorem pi26_7 {x : Int32} : pfv 11 7 (mkH (hs l s d tl) I J) 26 (.int x) = some (mkH (hs l s d tl) (upI I 26 7 x) J) := pfi_H q26 rfl
theorem gl26_8 : gfl 11 8 (mkH (hs l s d tl) I J) 26 = some (J 26 8) := gfl_H q26 rfl
theorem pl26_8 {x : Int64} : pfv 11 8 (mkH (hs l s d tl) I J) 26 (.long x) = some (mkH (hs l s d tl) I (upJ J 26 8 x)) := pfl_H q26 rfl
theorem gi26_9 : gfi 11 9 (mkH (hs l s d tl) I J) 26 = some (I 26 9) := gfi_H q26 rfl
theorem pi26_9 {x : Int32} : pfv 11 9 (mkH (hs l s d tl) I J) 26 (.int x) = some (mkH (hs l s d tl) (upI I 26 9 x) J) := pfi_H q26 rfl
theorem gi26_10 : gfi 11 10 (mkH (hs l s d tl) I J) 26 = some (I 26 10) := gfi_H q26 rfl
theorem pi26_10 {x : Int32} : pfv 11 10 (mkH (hs l s d tl) I J) 26 (.int x) = some (mkH (hs l s d tl) (upI I 26 10 x) J) := pfi_H q26 rfl
theorem gr26_11 : gfr 11 11 (mkH (hs l s d tl) I J) 26 = some 31 := gfr_H q26 rfl q31
theorem gi26_12 : gfi 11 12 (mkH (hs l s d tl) I J) 26 = some (I 26 12) := gfi_H q26 rfl
theorem pi26_12 {x : Int32} : pfv 11 12 (mkH (hs l s d tl) I J) 26 (.int x) = some (mkH (hs l s d tl) (upI I 26 12 x) J) := pfi_H q26 rfl
theorem gr26_13 : gfr 11 13 (mkH (hs l s d tl) I J) 26 = some 32 := gfr_H q26 rfl q32
theorem gr26_14 : gfr 11 14 (mkH (hs l s d tl) I J) 26 = some 33 := gfr_H q26 rfl q33
theorem gi26_15 : gfi 11 15 (mkH (hs l s d tl) I J) 26 = some (I 26 15) := gfi_H q26 rfl
theorem pi26_15 {x : Int32} : pfv 11 15 (mkH (hs l s d tl) I J) 26 (.int x) = some (mkH (hs l s d tl) (upI I 26 15 x) J) := pfi_H q26 rfl
theorem gi26_16 : gfi 11 16 (mkH (hs l s d tl) I J) 26 = some (I 26 16) := gfi_H q26 rfl
theorem pi26_16 {x : Int32} : pfv 11 16 (mkH (hs l s d tl) I J) 26 (.int x) = some (mkH (hs l s d tl) (upI I 26 16 x) J) := pfi_H q26 rfl
theorem gr26_17 : gfr 11 17 (mkH (hs l s d tl) I J) 26 = some 34 := gfr_H q26 rfl q34
theorem gr26_18 : gfr 11 18 (mkH (hs l s d tl) I J) 26 = some 35 := gfr_H q26 rfl q35
theorem gi26_19 : gfi 11 19 (mkH (hs l s d tl) I J) 26 = some (I 26 19) := gfi_H q26 rfl
theorem pi26_19 {x : Int32} : pfv 11 19 (mkH (hs l s d tl) I J) 26 (.int x) = some (mkH (hs l s d tl) (upI I 26 19 x) J) := pfi_H q26 rfl
theorem gr26_20 : gfr 11 20 (mkH (hs l s d tl) I J) 26 = some 36 := gfr_H q26 rfl q36
theorem gr26_21 : gfr 11 21 (mkH (hs l s d tl) I J) 26 = some 37 := gfr_H q26 rfl q37
theorem gr26_22 : gfr 11 22 (mkH (hs l s d tl) I J) 26 = some 38 := gfr_H q26 rfl q38
theorem gr26_23 : gfr 11 23 (mkH (hs l s d tl) I J) 26 = some 39 := gfr_H q26 rfl q39
theorem gr26_24 : gfr 11 24 (mkH (hs l s d tl) I J) 26 = some 40 := gfr_H q26 rfl q40
theorem gr26_25 : gfr 11 25 (mkH (hs l s d tl) I J) 26 = some 41 := gfr_H q26 rfl q41
theorem gr26_26 : gfr 11 26 (mkH (hs l s d tl) I J) 26 = some 42 := gfr_H q26 rfl q42
theorem gi26_27 : gfi 11 27 (mkH (hs l s d tl) I J) 26 = some (I 26 27) := gfi_H q26 rfl
theorem pi26_27 {x : Int32} : pfv 11 27 (mkH (hs l s d tl) I J) 26 (.int x) = some (mkH (hs l s d tl) (upI I 26 27 x) J) := pfi_H q26 rfl
theorem gr26_28 : gfr 11 28 (mkH (hs l s d tl) I J) 26 = some 43 := gfr_H q26 rfl q43
theorem gr26_29 : gfr 11 29 (mkH (hs l s d tl) I J) 26 = some 44 := gfr_H q26 rfl q44
theorem gi26_30 : gfi 11 30 (mkH (hs l s d tl) I J) 26 = some (I 26 30) := gfi_H q26 rfl
theorem pi26_30 {x : Int32} : pfv 11 30 (mkH (hs l s d tl) I J) 26 (.int x) = some (mkH (hs l s d tl) (upI I 26 30 x) J) := pfi_H q26 rfl
theorem gi26_31 : gfi 11 31 (mkH (hs l s d tl) I J) 26 = some (I 26 31) := gfi_H q26 rfl
theorem pi26_31 {x : Int32} : pfv 11 31 (mkH (hs l s d tl) I J) 26 (.int x) = some (mkH (hs l s d tl) (upI I 26 31 x) J) := pfi_H q26 rfl
theorem gr26_32 : gfr 11 32 (mkH (hs l s d tl) I J) 26 = some 45 := gfr_H q26 rfl q45
theorem gr26_33 : gfr 11 33 (mkH (hs l s d tl) I J) 26 = some 46 := gfr_H q26 rfl q46
theorem gr26_34 : gfr 11 34 (mkH (hs l s d tl) I J) 26 = some 47 := gfr_H q26 rfl q47
theorem gr26_35 : gfr 11 35 (mkH (hs l s d tl) I J) 26 = some 48 := gfr_H q26 rfl q48
theorem gr26_36 : gfr 11 36 (mkH (hs l s d tl) I J) 26 = some 49 := gfr_H q26 rfl q49
theorem gr26_37 : gfr 11 37 (mkH (hs l s d tl) I J) 26 = some 50 := gfr_H q26 rfl q50
theorem gr26_38 : gfr 11 38 (mkH (hs l s d tl) I J) 26 = some 51 := gfr_H q26 rfl q51
theorem gr26_39 : gfr 11 39 (mkH (hs l s d tl) I J) 26 = some 52 := gfr_H q26 rfl q52
theorem gr26_40 : gfr 11 40 (mkH (hs l s d tl) I J) 26 = some 53 := gfr_H q26 rfl q53
end S
