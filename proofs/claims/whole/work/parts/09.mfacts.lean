theorem mtb_len : mtb.length = 209 := by decide +kernel
theorem dcA (k : Nat) (q : mM) (h : mtb[k]? = some q) : ∀ x ∈ cdt k, decode q.2.1 x.1 = .ok x.2 := by
  match k, h with
  | 0, h => cases h; exact dc0
  | 1, h => cases h; exact dc1
  | 2, h => cases h; exact dc2
  | 3, h => cases h; exact dc3
  | 4, h => cases h; exact dc4
  | 5, h => cases h; exact dc5
  | 6, h => cases h; exact dc6
  | 7, h => cases h; exact dc7
  | 8, h => cases h; exact dc8
  | 9, h => cases h; exact dc9
  | 10, h => cases h; exact dc10
  | 11, h => cases h; exact dc11
  | 12, h => cases h; exact dc12
  | 13, h => cases h; exact dc13
  | 14, h => cases h; exact dc14
  | 15, h => cases h; exact dc15
  | 16, h => cases h; exact dc16
  | 17, h => cases h; exact dc17
  | 18, h => cases h; exact dc18
  | 19, h => cases h; exact dc19
  | 20, h => cases h; exact dc20
  | 21, h => cases h; exact dc21
  | 22, h => cases h; exact dc22
  | 23, h => cases h; exact dc23
  | 24, h => cases h; exact dc24
  | 25, h => cases h; exact dc25
  | 26, h => cases h; exact dc26
  | 27, h => cases h; exact dc27
  | 28, h => cases h; exact dc28
  | 29, h => cases h; exact dc29
  | 30, h => cases h; exact dc30
  | 31, h => cases h; exact dc31
  | 32, h => cases h; exact dc32
  | 33, h => cases h; exact dc33
  | 34, h => cases h; exact dc34
  | 35, h => cases h; exact dc35
  | 36, h => cases h; exact dc36
  | 37, h => cases h; exact dc37
  | 38, h => cases h; exact dc38
  | 39, h => cases h; exact dc39
  | 40, h => cases h; exact dc40
  | 41, h => cases h; exact dc41
  | 42, h => cases h; exact dc42
  | 43, h => cases h; exact dc43
  | 44, h => cases h; exact dc44
  | 45, h => cases h; exact dc45
  | 46, h => cases h; exact dc46
  | 47, h => cases h; exact dc47
  | 48, h => cases h; exact dc48
  | 49, h => cases h; exact dc49
  | 50, h => cases h; exact dc50
  | 51, h => cases h; exact dc51
  | 52, h => cases h; exact dc52
  | 53, h => cases h; exact dc53
  | 54, h => cases h; exact dc54
  | 55, h => cases h; exact dc55
  | 56, h => cases h; exact dc56
  | 57, h => cases h; exact dc57
  | 58, h => cases h; exact dc58
  | 59, h => cases h; exact dc59
  | 60, h => cases h; exact dc60
  | 61, h => cases h; exact dc61
  | 62, h => cases h; exact dc62
  | 63, h => cases h; exact dc63
  | 64, h => cases h; exact dc64
  | 65, h => cases h; exact dc65
  | 66, h => cases h; exact dc66
  | 67, h => cases h; exact dc67
  | 68, h => cases h; exact dc68
  | 69, h => cases h; exact dc69
  | 70, h => cases h; exact dc70
  | 71, h => cases h; exact dc71
  | 72, h => cases h; exact dc72
  | 73, h => cases h; exact dc73
  | 74, h => cases h; exact dc74
  | 75, h => cases h; exact dc75
  | 76, h => cases h; exact dc76
  | 77, h => cases h; exact dc77
  | 78, h => cases h; exact dc78
  | 79, h => cases h; exact dc79
  | 80, h => cases h; exact dc80
  | 81, h => cases h; exact dc81
  | 82, h => cases h; exact dc82
  | 83, h => cases h; exact dc83
  | 84, h => cases h; exact dc84
  | 85, h => cases h; exact dc85
  | 86, h => cases h; exact dc86
  | 87, h => cases h; exact dc87
  | 88, h => cases h; exact dc88
  | 89, h => cases h; exact dc89
  | 90, h => cases h; exact dc90
  | 91, h => cases h; exact dc91
  | 92, h => cases h; exact dc92
  | 93, h => cases h; exact dc93
  | 94, h => cases h; exact dc94
  | 95, h => cases h; exact dc95
  | 96, h => cases h; exact dc96
  | 97, h => cases h; exact dc97
  | 98, h => cases h; exact dc98
  | 99, h => cases h; exact dc99
  | 100, h => cases h; exact dc100
  | 101, h => cases h; exact dc101
  | 102, h => cases h; exact dc102
  | 103, h => cases h; exact dc103
  | 104, h => cases h; exact dc104
  | 105, h => cases h; exact dc105
  | 106, h => cases h; exact dc106
  | 107, h => cases h; exact dc107
  | 108, h => cases h; exact dc108
  | 109, h => cases h; exact dc109
  | 110, h => cases h; exact dc110
  | 111, h => cases h; exact dc111
  | 112, h => cases h; exact dc112
  | 113, h => cases h; exact dc113
  | 114, h => cases h; exact dc114
  | 115, h => cases h; exact dc115
  | 116, h => cases h; exact dc116
  | 117, h => cases h; exact dc117
  | 118, h => cases h; exact dc118
  | 119, h => cases h; exact dc119
  | 120, h => cases h; exact dc120
  | 121, h => cases h; exact dc121
  | 122, h => cases h; exact dc122
  | 123, h => cases h; exact dc123
  | 124, h => cases h; exact dc124
  | 125, h => cases h; exact dc125
  | 126, h => cases h; exact dc126
  | 127, h => cases h; exact dc127
  | 128, h => cases h; exact dc128
  | 129, h => cases h; exact dc129
  | 130, h => cases h; exact dc130
  | 131, h => cases h; exact dc131
  | 132, h => cases h; exact dc132
  | 133, h => cases h; exact dc133
  | 134, h => cases h; exact dc134
  | 135, h => cases h; exact dc135
  | 136, h => cases h; exact dc136
  | 137, h => cases h; exact dc137
  | 138, h => cases h; exact dc138
  | 139, h => cases h; exact dc139
  | 140, h => cases h; exact dc140
  | 141, h => cases h; exact dc141
  | 142, h => cases h; exact dc142
  | 143, h => cases h; exact dc143
  | 144, h => cases h; exact dc144
  | 145, h => cases h; exact dc145
  | 146, h => cases h; exact dc146
  | 147, h => cases h; exact dc147
  | 148, h => cases h; exact dc148
  | 149, h => cases h; exact dc149
  | 150, h => cases h; exact dc150
  | 151, h => cases h; exact dc151
  | 152, h => cases h; exact dc152
  | 153, h => cases h; exact dc153
  | 154, h => cases h; exact dc154
  | 155, h => cases h; exact dc155
  | 156, h => cases h; exact dc156
  | 157, h => cases h; exact dc157
  | 158, h => cases h; exact dc158
  | 159, h => cases h; exact dc159
  | 160, h => cases h; exact dc160
  | 161, h => cases h; exact dc161
  | 162, h => cases h; exact dc162
  | 163, h => cases h; exact dc163
  | 164, h => cases h; exact dc164
  | 165, h => cases h; exact dc165
  | 166, h => cases h; exact dc166
  | 167, h => cases h; exact dc167
  | 168, h => cases h; exact dc168
  | 169, h => cases h; exact dc169
  | 170, h => cases h; exact dc170
  | 171, h => cases h; exact dc171
  | 172, h => cases h; exact dc172
  | 173, h => cases h; exact dc173
  | 174, h => cases h; exact dc174
  | 175, h => cases h; exact dc175
  | 176, h => cases h; exact dc176
  | 177, h => cases h; exact dc177
  | 178, h => cases h; exact dc178
  | 179, h => cases h; exact dc179
  | 180, h => cases h; exact dc180
  | 181, h => cases h; exact dc181
  | 182, h => cases h; exact dc182
  | 183, h => cases h; exact dc183
  | 184, h => cases h; exact dc184
  | 185, h => cases h; exact dc185
  | 186, h => cases h; exact dc186
  | 187, h => cases h; exact dc187
  | 188, h => cases h; exact dc188
  | 189, h => cases h; exact dc189
  | 190, h => cases h; exact dc190
  | 191, h => cases h; exact dc191
  | 192, h => cases h; exact dc192
  | 193, h => cases h; exact dc193
  | 194, h => cases h; exact dc194
  | 195, h => cases h; exact dc195
  | 196, h => cases h; exact dc196
  | 197, h => cases h; exact dc197
  | 198, h => cases h; exact dc198
  | 199, h => cases h; exact dc199
  | 200, h => cases h; exact dc200
  | 201, h => cases h; exact dc201
  | 202, h => cases h; exact dc202
  | 203, h => cases h; exact dc203
  | 204, h => cases h; exact dc204
  | 205, h => cases h; exact dc205
  | 206, h => cases h; exact dc206
  | 207, h => cases h; exact dc207
  | 208, h => cases h; exact dc208
  | n + 209, h => exact absurd (List.getElem?_eq_some_iff.mp h).1 (by rw [mtb_len]; omega)
theorem ins_ok {k pc n : Nat} {i : Instr} {q : mM} (hq : mtb[k]? = some q) (h : ins k pc = some (i, n)) : decode q.2.1 pc = .ok (i, n) := dcA k q hq (pc, (i, n)) (alk_mem h)
theorem ins_in {k pc : Nat} {x : Instr × Nat} (h : ins k pc = some x) : ∃ q, mtb[k]? = some q := by
  cases hq : mtb[k]? with
  | some q => exact ⟨q, rfl⟩
  | none =>
    have hl : 209 ≤ k := by rw [← mtb_len]; exact List.getElem?_eq_none_iff.mp hq
    obtain ⟨j, rfl⟩ := Nat.exists_eq_add_of_le' hl
    cases h
def wat (i : Nat) : Option Cond := if i < 127 then (k2_sels lw_privs)[i]? else if i < 367 then tables_1_1[i - 127]? else if i < 607 then tables_1_2[i - 367]? else if i < 847 then tables_1_3[i - 607]? else if i < 1087 then tables_1_4[i - 847]? else if i < 1327 then tables_1_5[i - 1087]? else if i < 1531 then tables_1_6[i - 1327]? else none
theorem wat_in {i : Nat} {w : Cond} (h : wat i = some w) : w ∈ lw_tbl := by
  have s1 : ∀ w, w ∈ tables_1_1 → w ∈ tables_1 := fun w h => List.mem_append_left _ h
  have s2 : ∀ w, w ∈ tables_1_2 → w ∈ tables_1 := fun w h => List.mem_append_right _ (List.mem_append_left _ h)
  have s3 : ∀ w, w ∈ tables_1_3 → w ∈ tables_1 := fun w h => List.mem_append_right _ (List.mem_append_right _ (List.mem_append_left _ h))
  have s4 : ∀ w, w ∈ tables_1_4 → w ∈ tables_1 := fun w h => List.mem_append_right _ (List.mem_append_right _ (List.mem_append_right _ (List.mem_append_left _ h)))
  have s5 : ∀ w, w ∈ tables_1_5 → w ∈ tables_1 := fun w h => List.mem_append_right _ (List.mem_append_right _ (List.mem_append_right _ (List.mem_append_right _ (List.mem_append_left _ h))))
  have s6 : ∀ w, w ∈ tables_1_6 → w ∈ tables_1 := fun w h => List.mem_append_right _ (List.mem_append_right _ (List.mem_append_right _ (List.mem_append_right _ (List.mem_append_right _ h))))
  unfold wat at h
  split at h
  · exact List.mem_append_left _ (List.mem_of_getElem? h)
  split at h
  · exact List.mem_append_right _ (s1 _ (List.mem_of_getElem? h))
  split at h
  · exact List.mem_append_right _ (s2 _ (List.mem_of_getElem? h))
  split at h
  · exact List.mem_append_right _ (s3 _ (List.mem_of_getElem? h))
  split at h
  · exact List.mem_append_right _ (s4 _ (List.mem_of_getElem? h))
  split at h
  · exact List.mem_append_right _ (s5 _ (List.mem_of_getElem? h))
  split at h
  · exact List.mem_append_right _ (s6 _ (List.mem_of_getElem? h))
  · cases h
def mtC (q : mM) : Bool := (decide (wat q.2.2.2.2.2.2.1 = some (Cond.initialized q.1.cls)) && (decide (q.1.cls = cnm q.2.2.2.2.1) && (decide ((parseMethodDescriptor q.1.desc).map (fun d => d.parameters.length) = some q.2.2.2.2.2.2.2) && (plainName q.1.cls && (decide (q.1.cls ≠ "java/lang/invoke/MethodHandle" ∧ q.1.cls ≠ "java/lang/invoke/VarHandle") && decide (q.2.2.1 ≤ 41))))))
set_option maxRecDepth 100000 in
theorem mtA : mtb.all mtC = true := by decide +kernel
def mlC (x : (Nat × Nat) × (Nat × Nat × Nat × Nat × Nat)) : Bool := if x.2.1 = 6 then decide (wat x.2.2.2.1 = some (Cond.methodLink (cnm x.1.1) x.1.2 objectInit)) else match mtb[x.2.2.1]? with
  | none => false
  | some q => if x.2.1 = 0 then decide (wat x.2.2.2.1 = some (Cond.methodLink (cnm x.1.1) x.1.2 q.1)) && (decide (wat x.2.2.2.2.1 = some (Cond.instanceMethod q.1)) && decide (wat x.2.2.2.2.2 = some (Cond.selects q.1.cls q.1 q.1)))
    else if x.2.1 = 1 then decide (wat x.2.2.2.1 = some (Cond.methodLinkNest (cnm x.1.1) x.1.2 q.1 "MirrorRoots")) && (decide (wat x.2.2.2.2.1 = some (Cond.instanceMethod q.1)) && decide (wat x.2.2.2.2.2 = some (Cond.selects q.1.cls q.1 q.1)))
    else if x.2.1 = 2 then decide (wat x.2.2.2.1 = some (Cond.methodLink (cnm x.1.1) x.1.2 q.1)) && decide (wat x.2.2.2.2.1 = some (Cond.static q.1))
    else if x.2.1 = 5 then decide (wat x.2.2.2.1 = some (Cond.methodLinkNest (cnm x.1.1) x.1.2 q.1 "MirrorRoots")) && (decide (wat x.2.2.2.2.1 = some (Cond.instanceMethod q.1)) && decide (q.1.name = "<init>" ∧ q.2.2.2.1 = none))
    else false
set_option maxRecDepth 100000 in
theorem mlA : mlt.all mlC = true := by decide +kernel
set_option maxRecDepth 100000 in
theorem obA : wat 151 = some (Cond.instanceMethod objectInit) ∧ wat 152 = some (Cond.code objectInit ⟨#[0xb1]⟩ 1 none) := by decide +kernel
set_option maxRecDepth 100000 in
theorem mw0 : wat 1001 = some (Cond.code mY0 prog_2_method_1_code 3 (none)) := rfl
set_option maxRecDepth 100000 in
theorem mw1 : wat 508 = some (Cond.code mY1 prog_2_method_2_code 1 (none)) := rfl
set_option maxRecDepth 100000 in
theorem mw2 : wat 1085 = some (Cond.code mY2 prog_2_method_3_code 4 (some .int)) := rfl
set_option maxRecDepth 100000 in
theorem mw3 : wat 1097 = some (Cond.code mY3 prog_2_method_4_code 3 (some .int)) := rfl
set_option maxRecDepth 100000 in
theorem mw4 : wat 1077 = some (Cond.code mY4 prog_2_method_5_code 3 (some .int)) := rfl
set_option maxRecDepth 100000 in
theorem mw5 : wat 1037 = some (Cond.code mY5 prog_2_method_6_code 2 (some (.object "MirrorRoots$Ideal"))) := rfl
set_option maxRecDepth 100000 in
theorem mw6 : wat 1041 = some (Cond.code mY6 prog_2_method_7_code 6 (none)) := rfl
set_option maxRecDepth 100000 in
theorem mw7 : wat 1053 = some (Cond.code mY7 prog_2_method_8_code 5 (none)) := rfl
set_option maxRecDepth 100000 in
theorem mw8 : wat 1048 = some (Cond.code mY8 prog_2_method_9_code 3 (none)) := rfl
set_option maxRecDepth 100000 in
theorem mw9 : wat 1066 = some (Cond.code mY9 prog_2_method_10_code 5 (some .int)) := rfl
set_option maxRecDepth 100000 in
theorem mw10 : wat 1060 = some (Cond.code mY10 prog_2_method_11_code 7 (none)) := rfl
set_option maxRecDepth 100000 in
theorem mw11 : wat 1070 = some (Cond.code mY11 prog_2_method_12_code 10 (none)) := rfl
set_option maxRecDepth 100000 in
theorem mw12 : wat 1074 = some (Cond.code mY12 prog_2_method_13_code 4 (some .int)) := rfl
set_option maxRecDepth 100000 in
theorem mw13 : wat 1081 = some (Cond.code mY13 prog_2_method_14_code 6 (none)) := rfl
set_option maxRecDepth 100000 in
theorem mw14 : wat 228 = some (Cond.code mY14 prog_3_method_1_code 2 (none)) := rfl
set_option maxRecDepth 100000 in
theorem mw15 : wat 233 = some (Cond.code mY15 prog_3_method_2_code 1 (none)) := rfl
set_option maxRecDepth 100000 in
theorem mw16 : wat 581 = some (Cond.code mY16 prog_3_method_3_code 2 (some .boolean)) := rfl
set_option maxRecDepth 100000 in
theorem mw17 : wat 573 = some (Cond.code mY17 prog_3_method_4_code 3 (some .int)) := rfl
set_option maxRecDepth 100000 in
theorem mw18 : wat 541 = some (Cond.code mY18 prog_3_method_5_code 4 (some .int)) := rfl
set_option maxRecDepth 100000 in
theorem mw19 : wat 553 = some (Cond.code mY19 prog_3_method_6_code 3 (none)) := rfl
set_option maxRecDepth 100000 in
theorem mw20 : wat 561 = some (Cond.code mY20 prog_3_method_7_code 6 (some .int)) := rfl
set_option maxRecDepth 100000 in
theorem mw21 : wat 682 = some (Cond.code mY21 prog_4_method_1_code 3 (none)) := rfl
set_option maxRecDepth 100000 in
theorem mw22 : wat 498 = some (Cond.code mY22 prog_4_method_2_code 1 (none)) := rfl
set_option maxRecDepth 100000 in
theorem mw23 : wat 845 = some (Cond.code mY23 prog_4_method_3_code 2 (some .int)) := rfl
set_option maxRecDepth 100000 in
theorem mw24 : wat 865 = some (Cond.code mY24 prog_4_method_4_code 1 (some .int)) := rfl
set_option maxRecDepth 100000 in
theorem mw25 : wat 873 = some (Cond.code mY25 prog_4_method_5_code 2 (some .int)) := rfl
set_option maxRecDepth 100000 in
theorem mw26 : wat 869 = some (Cond.code mY26 prog_4_method_6_code 1 (some .boolean)) := rfl
set_option maxRecDepth 100000 in
theorem mw27 : wat 849 = some (Cond.code mY27 prog_4_method_7_code 3 (none)) := rfl
set_option maxRecDepth 100000 in
theorem mw28 : wat 855 = some (Cond.code mY28 prog_4_method_8_code 4 (none)) := rfl
set_option maxRecDepth 100000 in
theorem mw29 : wat 752 = some (Cond.code mY29 prog_4_method_9_code 4 (some .long)) := rfl
set_option maxRecDepth 100000 in
theorem mw30 : wat 788 = some (Cond.code mY30 prog_4_method_10_code 5 (none)) := rfl
set_option maxRecDepth 100000 in
theorem mw31 : wat 157 = some (Cond.code mY31 prog_5_method_1_code 3 (none)) := rfl
set_option maxRecDepth 100000 in
theorem mw32 : wat 161 = some (Cond.code mY32 prog_5_method_2_code 2 (some .int)) := rfl
set_option maxRecDepth 100000 in
theorem mw33 : wat 488 = some (Cond.code mY33 prog_5_method_3_code 5 (none)) := rfl
set_option maxRecDepth 100000 in
theorem mw34 : wat 165 = some (Cond.code mY34 prog_5_method_4_code 4 (none)) := rfl
set_option maxRecDepth 100000 in
theorem mw35 : wat 168 = some (Cond.code mY35 prog_5_method_5_code 2 (some .int)) := rfl
set_option maxRecDepth 100000 in
theorem mw36 : wat 521 = some (Cond.code mY36 prog_5_method_6_code 2 (some .boolean)) := rfl
set_option maxRecDepth 100000 in
theorem mw37 : wat 813 = some (Cond.code mY37 prog_5_method_7_code 2 (some .boolean)) := rfl
set_option maxRecDepth 100000 in
theorem mw38 : wat 608 = some (Cond.code mY38 prog_5_method_8_code 5 (none)) := rfl
set_option maxRecDepth 100000 in
theorem mw39 : wat 617 = some (Cond.code mY39 prog_5_method_9_code 7 (none)) := rfl
set_option maxRecDepth 100000 in
theorem mw40 : wat 237 = some (Cond.code mY40 prog_5_method_10_code 4 (none)) := rfl
set_option maxRecDepth 100000 in
theorem mw41 : wat 545 = some (Cond.code mY41 prog_5_method_11_code 7 (none)) := rfl
set_option maxRecDepth 100000 in
theorem mw42 : wat 557 = some (Cond.code mY42 prog_5_method_12_code 6 (none)) := rfl
set_option maxRecDepth 100000 in
theorem mw43 : wat 549 = some (Cond.code mY43 prog_5_method_13_code 6 (some .boolean)) := rfl
set_option maxRecDepth 100000 in
theorem mw44 : wat 594 = some (Cond.code mY44 prog_5_method_14_code 5 (some .int)) := rfl
set_option maxRecDepth 100000 in
theorem mw45 : wat 569 = some (Cond.code mY45 prog_5_method_15_code 5 (some .int)) := rfl
set_option maxRecDepth 100000 in
theorem mw46 : wat 565 = some (Cond.code mY46 prog_5_method_16_code 1 (some .int)) := rfl
set_option maxRecDepth 100000 in
theorem mw47 : wat 325 = some (Cond.code mY47 prog_6_method_1_code 3 (none)) := rfl
set_option maxRecDepth 100000 in
theorem mw48 : wat 980 = some (Cond.code mY48 prog_6_method_2_code 7 (some .int)) := rfl
set_option maxRecDepth 100000 in
theorem mw49 : wat 984 = some (Cond.code mY49 prog_6_method_3_code 8 (none)) := rfl
set_option maxRecDepth 100000 in
theorem mw50 : wat 989 = some (Cond.code mY50 prog_6_method_4_code 4 (some .int)) := rfl
set_option maxRecDepth 100000 in
theorem mw51 : wat 306 = some (Cond.code mY51 prog_7_method_1_code 3 (none)) := rfl
set_option maxRecDepth 100000 in
theorem mw52 : wat 612 = some (Cond.code mY52 prog_7_method_2_code 5 (none)) := rfl
set_option maxRecDepth 100000 in
theorem mw53 : wat 604 = some (Cond.code mY53 prog_7_method_3_code 4 (some .long)) := rfl
set_option maxRecDepth 100000 in
theorem mw54 : wat 805 = some (Cond.code mY54 prog_7_method_4_code 6 (some .long)) := rfl
set_option maxRecDepth 100000 in
theorem mw55 : wat 797 = some (Cond.code mY55 prog_7_method_5_code 5 (some .int)) := rfl
set_option maxRecDepth 100000 in
theorem mw56 : wat 881 = some (Cond.code mY56 prog_7_method_6_code 4 (some .int)) := rfl
set_option maxRecDepth 100000 in
theorem mw57 : wat 885 = some (Cond.code mY57 prog_7_method_7_code 2 (some .boolean)) := rfl
set_option maxRecDepth 100000 in
theorem mw58 : wat 890 = some (Cond.code mY58 prog_7_method_8_code 5 (some .boolean)) := rfl
set_option maxRecDepth 100000 in
theorem mw59 : wat 688 = some (Cond.code mY59 prog_8_method_1_code 3 (none)) := rfl
set_option maxRecDepth 100000 in
theorem mw60 : wat 756 = some (Cond.code mY60 prog_8_method_2_code 1 (none)) := rfl
set_option maxRecDepth 100000 in
theorem mw61 : wat 784 = some (Cond.code mY61 prog_8_method_3_code 3 (some .boolean)) := rfl
set_option maxRecDepth 100000 in
theorem mw62 : wat 761 = some (Cond.code mY62 prog_8_method_4_code 4 (some .int)) := rfl
set_option maxRecDepth 100000 in
theorem mw63 : wat 965 = some (Cond.code mY63 prog_8_method_5_code 3 (some .int)) := rfl
set_option maxRecDepth 100000 in
theorem mw64 : wat 779 = some (Cond.code mY64 prog_8_method_6_code 3 (some .boolean)) := rfl
set_option maxRecDepth 100000 in
theorem mw65 : wat 774 = some (Cond.code mY65 prog_8_method_7_code 3 (some .boolean)) := rfl
set_option maxRecDepth 100000 in
theorem mw66 : wat 765 = some (Cond.code mY66 prog_8_method_8_code 4 (some .int)) := rfl
set_option maxRecDepth 100000 in
theorem mw67 : wat 769 = some (Cond.code mY67 prog_8_method_9_code 5 (some .int)) := rfl
set_option maxRecDepth 100000 in
theorem mw68 : wat 900 = some (Cond.code mY68 prog_9_method_1_code 3 (none)) := rfl
set_option maxRecDepth 100000 in
theorem mw69 : wat 503 = some (Cond.code mY69 prog_9_method_2_code 1 (none)) := rfl
set_option maxRecDepth 100000 in
theorem mw70 : wat 938 = some (Cond.code mY70 prog_9_method_3_code 3 (some .int)) := rfl
set_option maxRecDepth 100000 in
theorem mw71 : wat 969 = some (Cond.code mY71 prog_9_method_4_code 2 (none)) := rfl
set_option maxRecDepth 100000 in
theorem mw72 : wat 942 = some (Cond.code mY72 prog_9_method_5_code 4 (some .boolean)) := rfl
set_option maxRecDepth 100000 in
theorem mw73 : wat 952 = some (Cond.code mY73 prog_9_method_6_code 5 (some .boolean)) := rfl
set_option maxRecDepth 100000 in
theorem mw74 : wat 956 = some (Cond.code mY74 prog_9_method_7_code 9 (some .int)) := rfl
set_option maxRecDepth 100000 in
theorem mw75 : wat 961 = some (Cond.code mY75 prog_9_method_8_code 11 (none)) := rfl
set_option maxRecDepth 100000 in
theorem mw76 : wat 192 = some (Cond.code mY76 prog_10_method_1_code 1 (none)) := rfl
set_option maxRecDepth 100000 in
theorem mw77 : wat 381 = some (Cond.code mY77 prog_10_method_2_code 5 (some .int)) := rfl
set_option maxRecDepth 100000 in
theorem mw78 : wat 390 = some (Cond.code mY78 prog_10_method_3_code 2 (some .int)) := rfl
set_option maxRecDepth 100000 in
theorem mw79 : wat 394 = some (Cond.code mY79 prog_10_method_4_code 2 (none)) := rfl
set_option maxRecDepth 100000 in
theorem mw80 : wat 406 = some (Cond.code mY80 prog_10_method_5_code 5 (none)) := rfl
set_option maxRecDepth 100000 in
theorem mw81 : wat 475 = some (Cond.code mY81 prog_10_method_6_code 5 (none)) := rfl
set_option maxRecDepth 100000 in
theorem mw82 : wat 484 = some (Cond.code mY82 prog_10_method_7_code 4 (none)) := rfl
set_option maxRecDepth 100000 in
theorem mw83 : wat 479 = some (Cond.code mY83 prog_10_method_8_code 2 (some .int)) := rfl
set_option maxRecDepth 100000 in
theorem mw84 : wat 467 = some (Cond.code mY84 prog_10_method_9_code 1 (some .int)) := rfl
set_option maxRecDepth 100000 in
theorem mw85 : wat 471 = some (Cond.code mY85 prog_10_method_10_code 1 (none)) := rfl
set_option maxRecDepth 100000 in
theorem mw86 : wat 411 = some (Cond.code mY86 prog_10_method_11_code 5 (some .boolean)) := rfl
set_option maxRecDepth 100000 in
theorem mw87 : wat 398 = some (Cond.code mY87 prog_10_method_12_code 1 (some .boolean)) := rfl
set_option maxRecDepth 100000 in
theorem mw88 : wat 402 = some (Cond.code mY88 prog_10_method_13_code 2 (some .boolean)) := rfl
set_option maxRecDepth 100000 in
theorem mw89 : wat 463 = some (Cond.code mY89 prog_10_method_14_code 3 (none)) := rfl
set_option maxRecDepth 100000 in
theorem mw90 : wat 281 = some (Cond.code mY90 prog_11_method_1_code 3 (none)) := rfl
set_option maxRecDepth 100000 in
theorem mw91 : wat 625 = some (Cond.code mY91 prog_11_method_2_code 6 (some .int)) := rfl
set_option maxRecDepth 100000 in
theorem mw92 : wat 646 = some (Cond.code mY92 prog_11_method_3_code 3 (some .int)) := rfl
set_option maxRecDepth 100000 in
theorem mw93 : wat 817 = some (Cond.code mY93 prog_11_method_4_code 3 (some .int)) := rfl
set_option maxRecDepth 100000 in
theorem mw94 : wat 825 = some (Cond.code mY94 prog_11_method_5_code 3 (some .int)) := rfl
set_option maxRecDepth 100000 in
theorem mw95 : wat 833 = some (Cond.code mY95 prog_11_method_6_code 5 (some .int)) := rfl
set_option maxRecDepth 100000 in
theorem mw96 : wat 654 = some (Cond.code mY96 prog_11_method_7_code 5 (some .boolean)) := rfl
set_option maxRecDepth 100000 in
theorem mw97 : wat 664 = some (Cond.code mY97 prog_11_method_8_code 4 (some .int)) := rfl
set_option maxRecDepth 100000 in
theorem mw98 : wat 669 = some (Cond.code mY98 prog_11_method_9_code 5 (some .boolean)) := rfl
set_option maxRecDepth 100000 in
theorem mw99 : wat 821 = some (Cond.code mY99 prog_11_method_10_code 4 (some .int)) := rfl
set_option maxRecDepth 100000 in
theorem mw100 : wat 837 = some (Cond.code mY100 prog_11_method_11_code 3 (some .int)) := rfl
set_option maxRecDepth 100000 in
theorem mw101 : wat 632 = some (Cond.code mY101 prog_11_method_12_code 1 (some .int)) := rfl
set_option maxRecDepth 100000 in
theorem mw102 : wat 637 = some (Cond.code mY102 prog_11_method_13_code 3 (some .int)) := rfl
set_option maxRecDepth 100000 in
theorem mw103 : wat 149 = some (Cond.code mY103 prog_1_method_1_code 1 (none)) := rfl
set_option maxRecDepth 100000 in
theorem mw104 : wat 377 = some (Cond.code mY104 prog_1_method_2_code 4 (some .int)) := rfl
set_option maxRecDepth 100000 in
theorem mw105 : wat 386 = some (Cond.code mY105 prog_1_method_3_code 2 (some .int)) := rfl
set_option maxRecDepth 100000 in
theorem mw106 : wat 493 = some (Cond.code mY106 prog_1_method_4_code 1 (none)) := rfl
set_option maxRecDepth 100000 in
theorem mw107 : wat 513 = some (Cond.code mY107 prog_1_method_5_code 1 (some .int)) := rfl
set_option maxRecDepth 100000 in
theorem mw108 : wat 517 = some (Cond.code mY108 prog_1_method_6_code 3 (some .int)) := rfl
set_option maxRecDepth 100000 in
theorem mw109 : wat 525 = some (Cond.code mY109 prog_1_method_7_code 3 (some .int)) := rfl
set_option maxRecDepth 100000 in
theorem mw110 : wat 529 = some (Cond.code mY110 prog_1_method_8_code 2 (some .int)) := rfl
set_option maxRecDepth 100000 in
theorem mw111 : wat 533 = some (Cond.code mY111 prog_1_method_9_code 2 (some .int)) := rfl
set_option maxRecDepth 100000 in
theorem mw112 : wat 537 = some (Cond.code mY112 prog_1_method_10_code 2 (some .int)) := rfl
set_option maxRecDepth 100000 in
theorem mw113 : wat 577 = some (Cond.code mY113 prog_1_method_11_code 2 (some .int)) := rfl
set_option maxRecDepth 100000 in
theorem mw114 : wat 585 = some (Cond.code mY114 prog_1_method_12_code 3 (some .int)) := rfl
set_option maxRecDepth 100000 in
theorem mw115 : wat 590 = some (Cond.code mY115 prog_1_method_13_code 3 (some .int)) := rfl
set_option maxRecDepth 100000 in
theorem mw116 : wat 598 = some (Cond.code mY116 prog_1_method_14_code 4 (some .long)) := rfl
set_option maxRecDepth 100000 in
theorem mw117 : wat 621 = some (Cond.code mY117 prog_1_method_15_code 3 (some .int)) := rfl
set_option maxRecDepth 100000 in
theorem mw118 : wat 642 = some (Cond.code mY118 prog_1_method_16_code 2 (some .int)) := rfl
set_option maxRecDepth 100000 in
theorem mw119 : wat 650 = some (Cond.code mY119 prog_1_method_17_code 3 (some .int)) := rfl
set_option maxRecDepth 100000 in
theorem mw120 : wat 660 = some (Cond.code mY120 prog_1_method_18_code 2 (some .int)) := rfl
set_option maxRecDepth 100000 in
theorem mw121 : wat 673 = some (Cond.code mY121 prog_1_method_19_code 2 (some .long)) := rfl
set_option maxRecDepth 100000 in
theorem mw122 : wat 793 = some (Cond.code mY122 prog_1_method_20_code 3 (some .int)) := rfl
set_option maxRecDepth 100000 in
theorem mw123 : wat 801 = some (Cond.code mY123 prog_1_method_21_code 4 (some .long)) := rfl
set_option maxRecDepth 100000 in
theorem mw124 : wat 809 = some (Cond.code mY124 prog_1_method_22_code 4 (some .int)) := rfl
set_option maxRecDepth 100000 in
theorem mw125 : wat 829 = some (Cond.code mY125 prog_1_method_23_code 4 (some .int)) := rfl
set_option maxRecDepth 100000 in
theorem mw126 : wat 841 = some (Cond.code mY126 prog_1_method_24_code 2 (some .int)) := rfl
set_option maxRecDepth 100000 in
theorem mw127 : wat 861 = some (Cond.code mY127 prog_1_method_25_code 2 (some .int)) := rfl
set_option maxRecDepth 100000 in
theorem mw128 : wat 678 = some (Cond.code mY128 prog_1_method_26_code 1 (some (.object "MirrorRoots$Layers"))) := rfl
set_option maxRecDepth 100000 in
theorem mw129 : wat 877 = some (Cond.code mY129 prog_1_method_27_code 2 (some .int)) := rfl
set_option maxRecDepth 100000 in
theorem mw130 : wat 896 = some (Cond.code mY130 prog_1_method_28_code 3 (some .int)) := rfl
set_option maxRecDepth 100000 in
theorem mw131 : wat 976 = some (Cond.code mY131 prog_1_method_29_code 4 (some .int)) := rfl
set_option maxRecDepth 100000 in
theorem mw132 : wat 993 = some (Cond.code mY132 prog_1_method_30_code 4 (some .int)) := rfl
set_option maxRecDepth 100000 in
theorem mw133 : wat 1089 = some (Cond.code mY133 prog_1_method_31_code 4 (some .int)) := rfl
set_option maxRecDepth 100000 in
theorem mw134 : wat 1093 = some (Cond.code mY134 prog_1_method_32_code 2 (some .int)) := rfl
set_option maxRecDepth 100000 in
theorem mw135 : wat 997 = some (Cond.code mY135 prog_1_method_33_code 1 (some (.object "MirrorRoots$Ideal"))) := rfl
set_option maxRecDepth 100000 in
theorem mw136 : wat 1102 = some (Cond.code mY136 prog_13_method_1_code 2 (none)) := rfl
set_option maxRecDepth 100000 in
theorem mw137 : wat 1240 = some (Cond.code mY137 prog_13_method_3_code 6 (some .boolean)) := rfl
set_option maxRecDepth 100000 in
theorem mw138 : wat 1108 = some (Cond.code mY138 prog_13_method_4_code 7 (none)) := rfl
set_option maxRecDepth 100000 in
theorem mw139 : wat 1236 = some (Cond.code mY139 prog_13_method_5_code 5 (some .int)) := rfl
set_option maxRecDepth 100000 in
theorem mw140 : wat 1249 = some (Cond.code mY140 prog_13_method_6_code 1 (some .int)) := rfl
set_option maxRecDepth 100000 in
theorem mw141 : wat 1270 = some (Cond.code mY141 prog_13_method_7_code 3 (some .int)) := rfl
set_option maxRecDepth 100000 in
theorem mw142 : wat 1259 = some (Cond.code mY142 prog_13_method_8_code 2 (none)) := rfl
set_option maxRecDepth 100000 in
theorem mw143 : wat 1266 = some (Cond.code mY143 prog_13_method_9_code 8 (some .long)) := rfl
set_option maxRecDepth 100000 in
theorem mw144 : wat 1274 = some (Cond.code mY144 prog_13_method_10_code 4 (some .int)) := rfl
set_option maxRecDepth 100000 in
theorem mw145 : wat 1284 = some (Cond.code mY145 prog_13_method_11_code 3 (some .int)) := rfl
set_option maxRecDepth 100000 in
theorem mw146 : wat 1280 = some (Cond.code mY146 prog_13_method_12_code 7 (some .int)) := rfl
set_option maxRecDepth 100000 in
theorem mw147 : wat 1253 = some (Cond.code mY147 prog_13_method_13_code 4 (some .int)) := rfl
set_option maxRecDepth 100000 in
theorem mw148 : wat 1245 = some (Cond.code mY148 prog_13_method_14_code 3 (some .int)) := rfl
set_option maxRecDepth 100000 in
theorem mw149 : wat 1288 = some (Cond.code mY149 prog_13_method_15_code 1 (some .int)) := rfl
set_option maxRecDepth 100000 in
theorem mw150 : wat 1296 = some (Cond.code mY150 prog_13_method_16_code 2 (some .boolean)) := rfl
set_option maxRecDepth 100000 in
theorem mw151 : wat 1292 = some (Cond.code mY151 prog_13_method_17_code 3 (some .int)) := rfl
set_option maxRecDepth 100000 in
theorem mw152 : wat 1300 = some (Cond.code mY152 prog_13_method_18_code 3 (some .int)) := rfl
set_option maxRecDepth 100000 in
theorem mw153 : wat 1304 = some (Cond.code mY153 prog_13_method_19_code 2 (some .int)) := rfl
set_option maxRecDepth 100000 in
theorem mw154 : wat 1328 = some (Cond.code mY154 prog_13_method_20_code 2 (none)) := rfl
set_option maxRecDepth 100000 in
theorem mw155 : wat 1335 = some (Cond.code mY155 prog_13_method_21_code 7 (none)) := rfl
set_option maxRecDepth 100000 in
theorem mw156 : wat 1332 = some (Cond.code mY156 prog_13_method_22_code 2 (none)) := rfl
set_option maxRecDepth 100000 in
theorem mw157 : wat 1342 = some (Cond.code mY157 prog_13_method_23_code 5 (some .boolean)) := rfl
set_option maxRecDepth 100000 in
theorem mw158 : wat 1339 = some (Cond.code mY158 prog_13_method_24_code 2 (some .int)) := rfl
set_option maxRecDepth 100000 in
theorem mw159 : wat 1324 = some (Cond.code mY159 prog_13_method_25_code 2 (none)) := rfl
set_option maxRecDepth 100000 in
theorem mw160 : wat 1354 = some (Cond.code mY160 prog_13_method_26_code 2 (some .boolean)) := rfl
set_option maxRecDepth 100000 in
theorem mw161 : wat 1308 = some (Cond.code mY161 prog_13_method_27_code 2 (some .int)) := rfl
set_option maxRecDepth 100000 in
theorem mw162 : wat 1346 = some (Cond.code mY162 prog_13_method_28_code 4 (some .boolean)) := rfl
set_option maxRecDepth 100000 in
theorem mw163 : wat 1320 = some (Cond.code mY163 prog_13_method_29_code 2 (some .int)) := rfl
set_option maxRecDepth 100000 in
theorem mw164 : wat 1316 = some (Cond.code mY164 prog_13_method_30_code 2 (none)) := rfl
set_option maxRecDepth 100000 in
theorem mw165 : wat 1380 = some (Cond.code mY165 prog_13_method_31_code 3 (none)) := rfl
set_option maxRecDepth 100000 in
theorem mw166 : wat 1312 = some (Cond.code mY166 prog_13_method_32_code 2 (some .int)) := rfl
set_option maxRecDepth 100000 in
theorem mw167 : wat 1350 = some (Cond.code mY167 prog_13_method_33_code 2 (some .int)) := rfl
set_option maxRecDepth 100000 in
theorem mw168 : wat 1358 = some (Cond.code mY168 prog_13_method_34_code 3 (some .int)) := rfl
set_option maxRecDepth 100000 in
theorem mw169 : wat 1366 = some (Cond.code mY169 prog_13_method_35_code 4 (none)) := rfl
set_option maxRecDepth 100000 in
theorem mw170 : wat 1362 = some (Cond.code mY170 prog_13_method_36_code 5 (some .int)) := rfl
set_option maxRecDepth 100000 in
theorem mw171 : wat 1370 = some (Cond.code mY171 prog_13_method_37_code 4 (some .long)) := rfl
set_option maxRecDepth 100000 in
theorem mw172 : wat 1376 = some (Cond.code mY172 prog_13_method_38_code 6 (some .int)) := rfl
set_option maxRecDepth 100000 in
theorem mw173 : wat 1384 = some (Cond.code mY173 prog_13_method_39_code 3 (some .int)) := rfl
set_option maxRecDepth 100000 in
theorem mw174 : wat 1392 = some (Cond.code mY174 prog_13_method_40_code 3 (some .boolean)) := rfl
set_option maxRecDepth 100000 in
theorem mw175 : wat 1388 = some (Cond.code mY175 prog_13_method_41_code 5 (some .int)) := rfl
set_option maxRecDepth 100000 in
theorem mw176 : wat 1403 = some (Cond.code mY176 prog_13_method_42_code 6 (some .boolean)) := rfl
set_option maxRecDepth 100000 in
theorem mw177 : wat 1406 = some (Cond.code mY177 prog_13_method_43_code 5 (none)) := rfl
set_option maxRecDepth 100000 in
theorem mw178 : wat 1400 = some (Cond.code mY178 prog_13_method_44_code 4 (some .int)) := rfl
set_option maxRecDepth 100000 in
theorem mw179 : wat 1396 = some (Cond.code mY179 prog_13_method_45_code 7 (some .int)) := rfl
set_option maxRecDepth 100000 in
theorem mw180 : wat 1410 = some (Cond.code mY180 prog_13_method_46_code 8 (some .long)) := rfl
set_option maxRecDepth 100000 in
theorem mw181 : wat 1415 = some (Cond.code mY181 prog_13_method_47_code 6 (some .int)) := rfl
set_option maxRecDepth 100000 in
theorem mw182 : wat 1423 = some (Cond.code mY182 prog_13_method_48_code 5 (none)) := rfl
set_option maxRecDepth 100000 in
theorem mw183 : wat 1419 = some (Cond.code mY183 prog_13_method_49_code 6 (some .long)) := rfl
set_option maxRecDepth 100000 in
theorem mw184 : wat 1431 = some (Cond.code mY184 prog_13_method_50_code 2 (some .boolean)) := rfl
set_option maxRecDepth 100000 in
theorem mw185 : wat 1435 = some (Cond.code mY185 prog_13_method_51_code 3 (some .int)) := rfl
set_option maxRecDepth 100000 in
theorem mw186 : wat 1427 = some (Cond.code mY186 prog_13_method_52_code 7 (some .int)) := rfl
set_option maxRecDepth 100000 in
theorem mw187 : wat 1443 = some (Cond.code mY187 prog_13_method_53_code 3 (none)) := rfl
set_option maxRecDepth 100000 in
theorem mw188 : wat 1447 = some (Cond.code mY188 prog_13_method_54_code 3 (none)) := rfl
set_option maxRecDepth 100000 in
theorem mw189 : wat 1439 = some (Cond.code mY189 prog_13_method_55_code 5 (some .int)) := rfl
set_option maxRecDepth 100000 in
theorem mw190 : wat 1460 = some (Cond.code mY190 prog_13_method_56_code 5 (some .int)) := rfl
set_option maxRecDepth 100000 in
theorem mw191 : wat 1456 = some (Cond.code mY191 prog_13_method_57_code 1 (none)) := rfl
set_option maxRecDepth 100000 in
theorem mw192 : wat 1451 = some (Cond.code mY192 prog_13_method_58_code 4 (some .int)) := rfl
set_option maxRecDepth 100000 in
theorem mw193 : wat 1464 = some (Cond.code mY193 prog_13_method_59_code 4 (some .int)) := rfl
set_option maxRecDepth 100000 in
theorem mw194 : wat 1468 = some (Cond.code mY194 prog_13_method_60_code 4 (some .int)) := rfl
set_option maxRecDepth 100000 in
theorem mw195 : wat 1483 = some (Cond.code mY195 prog_13_method_61_code 5 (some .boolean)) := rfl
set_option maxRecDepth 100000 in
theorem mw196 : wat 1479 = some (Cond.code mY196 prog_13_method_62_code 3 (none)) := rfl
set_option maxRecDepth 100000 in
theorem mw197 : wat 1474 = some (Cond.code mY197 prog_13_method_63_code 7 (some .int)) := rfl
set_option maxRecDepth 100000 in
theorem mw198 : wat 1491 = some (Cond.code mY198 prog_13_method_64_code 8 (none)) := rfl
set_option maxRecDepth 100000 in
theorem mw199 : wat 1495 = some (Cond.code mY199 prog_13_method_65_code 2 (some .int)) := rfl
set_option maxRecDepth 100000 in
theorem mw200 : wat 1507 = some (Cond.code mY200 prog_13_method_66_code 3 (some .int)) := rfl
set_option maxRecDepth 100000 in
theorem mw201 : wat 1503 = some (Cond.code mY201 prog_13_method_67_code 9 (none)) := rfl
set_option maxRecDepth 100000 in
theorem mw202 : wat 1519 = some (Cond.code mY202 prog_13_method_68_code 5 (none)) := rfl
set_option maxRecDepth 100000 in
theorem mw203 : wat 1515 = some (Cond.code mY203 prog_13_method_69_code 6 (none)) := rfl
set_option maxRecDepth 100000 in
theorem mw204 : wat 1499 = some (Cond.code mY204 prog_13_method_70_code 2 (some .int)) := rfl
set_option maxRecDepth 100000 in
theorem mw205 : wat 1487 = some (Cond.code mY205 prog_13_method_71_code 6 (some .int)) := rfl
set_option maxRecDepth 100000 in
theorem mw206 : wat 1511 = some (Cond.code mY206 prog_13_method_72_code 5 (some .int)) := rfl
set_option maxRecDepth 100000 in
theorem mw207 : wat 1523 = some (Cond.code mY207 prog_13_method_73_code 5 (some .int)) := rfl
set_option maxRecDepth 100000 in
theorem mw208 : wat 1527 = some (Cond.code mY208 prog_13_method_74_code 6 (some .int)) := rfl
theorem mwA (k : Nat) (q : mM) (h : mtb[k]? = some q) : wat q.2.2.2.2.2.1 = some (Cond.code q.1 q.2.1 q.2.2.1 q.2.2.2.1) := by
  match k, h with
  | 0, h => cases h; exact mw0
  | 1, h => cases h; exact mw1
  | 2, h => cases h; exact mw2
  | 3, h => cases h; exact mw3
  | 4, h => cases h; exact mw4
  | 5, h => cases h; exact mw5
  | 6, h => cases h; exact mw6
  | 7, h => cases h; exact mw7
  | 8, h => cases h; exact mw8
  | 9, h => cases h; exact mw9
  | 10, h => cases h; exact mw10
  | 11, h => cases h; exact mw11
  | 12, h => cases h; exact mw12
  | 13, h => cases h; exact mw13
  | 14, h => cases h; exact mw14
  | 15, h => cases h; exact mw15
  | 16, h => cases h; exact mw16
  | 17, h => cases h; exact mw17
  | 18, h => cases h; exact mw18
  | 19, h => cases h; exact mw19
  | 20, h => cases h; exact mw20
  | 21, h => cases h; exact mw21
  | 22, h => cases h; exact mw22
  | 23, h => cases h; exact mw23
  | 24, h => cases h; exact mw24
  | 25, h => cases h; exact mw25
  | 26, h => cases h; exact mw26
  | 27, h => cases h; exact mw27
  | 28, h => cases h; exact mw28
  | 29, h => cases h; exact mw29
  | 30, h => cases h; exact mw30
  | 31, h => cases h; exact mw31
  | 32, h => cases h; exact mw32
  | 33, h => cases h; exact mw33
  | 34, h => cases h; exact mw34
  | 35, h => cases h; exact mw35
  | 36, h => cases h; exact mw36
  | 37, h => cases h; exact mw37
  | 38, h => cases h; exact mw38
  | 39, h => cases h; exact mw39
  | 40, h => cases h; exact mw40
  | 41, h => cases h; exact mw41
  | 42, h => cases h; exact mw42
  | 43, h => cases h; exact mw43
  | 44, h => cases h; exact mw44
  | 45, h => cases h; exact mw45
  | 46, h => cases h; exact mw46
  | 47, h => cases h; exact mw47
  | 48, h => cases h; exact mw48
  | 49, h => cases h; exact mw49
  | 50, h => cases h; exact mw50
  | 51, h => cases h; exact mw51
  | 52, h => cases h; exact mw52
  | 53, h => cases h; exact mw53
  | 54, h => cases h; exact mw54
  | 55, h => cases h; exact mw55
  | 56, h => cases h; exact mw56
  | 57, h => cases h; exact mw57
  | 58, h => cases h; exact mw58
  | 59, h => cases h; exact mw59
  | 60, h => cases h; exact mw60
  | 61, h => cases h; exact mw61
  | 62, h => cases h; exact mw62
  | 63, h => cases h; exact mw63
  | 64, h => cases h; exact mw64
  | 65, h => cases h; exact mw65
  | 66, h => cases h; exact mw66
  | 67, h => cases h; exact mw67
  | 68, h => cases h; exact mw68
  | 69, h => cases h; exact mw69
  | 70, h => cases h; exact mw70
  | 71, h => cases h; exact mw71
  | 72, h => cases h; exact mw72
  | 73, h => cases h; exact mw73
  | 74, h => cases h; exact mw74
  | 75, h => cases h; exact mw75
  | 76, h => cases h; exact mw76
  | 77, h => cases h; exact mw77
  | 78, h => cases h; exact mw78
  | 79, h => cases h; exact mw79
  | 80, h => cases h; exact mw80
  | 81, h => cases h; exact mw81
  | 82, h => cases h; exact mw82
  | 83, h => cases h; exact mw83
  | 84, h => cases h; exact mw84
  | 85, h => cases h; exact mw85
  | 86, h => cases h; exact mw86
  | 87, h => cases h; exact mw87
  | 88, h => cases h; exact mw88
  | 89, h => cases h; exact mw89
  | 90, h => cases h; exact mw90
  | 91, h => cases h; exact mw91
  | 92, h => cases h; exact mw92
  | 93, h => cases h; exact mw93
  | 94, h => cases h; exact mw94
  | 95, h => cases h; exact mw95
  | 96, h => cases h; exact mw96
  | 97, h => cases h; exact mw97
  | 98, h => cases h; exact mw98
  | 99, h => cases h; exact mw99
  | 100, h => cases h; exact mw100
  | 101, h => cases h; exact mw101
  | 102, h => cases h; exact mw102
  | 103, h => cases h; exact mw103
  | 104, h => cases h; exact mw104
  | 105, h => cases h; exact mw105
  | 106, h => cases h; exact mw106
  | 107, h => cases h; exact mw107
  | 108, h => cases h; exact mw108
  | 109, h => cases h; exact mw109
  | 110, h => cases h; exact mw110
  | 111, h => cases h; exact mw111
  | 112, h => cases h; exact mw112
  | 113, h => cases h; exact mw113
  | 114, h => cases h; exact mw114
  | 115, h => cases h; exact mw115
  | 116, h => cases h; exact mw116
  | 117, h => cases h; exact mw117
  | 118, h => cases h; exact mw118
  | 119, h => cases h; exact mw119
  | 120, h => cases h; exact mw120
  | 121, h => cases h; exact mw121
  | 122, h => cases h; exact mw122
  | 123, h => cases h; exact mw123
  | 124, h => cases h; exact mw124
  | 125, h => cases h; exact mw125
  | 126, h => cases h; exact mw126
  | 127, h => cases h; exact mw127
  | 128, h => cases h; exact mw128
  | 129, h => cases h; exact mw129
  | 130, h => cases h; exact mw130
  | 131, h => cases h; exact mw131
  | 132, h => cases h; exact mw132
  | 133, h => cases h; exact mw133
  | 134, h => cases h; exact mw134
  | 135, h => cases h; exact mw135
  | 136, h => cases h; exact mw136
  | 137, h => cases h; exact mw137
  | 138, h => cases h; exact mw138
  | 139, h => cases h; exact mw139
  | 140, h => cases h; exact mw140
  | 141, h => cases h; exact mw141
  | 142, h => cases h; exact mw142
  | 143, h => cases h; exact mw143
  | 144, h => cases h; exact mw144
  | 145, h => cases h; exact mw145
  | 146, h => cases h; exact mw146
  | 147, h => cases h; exact mw147
  | 148, h => cases h; exact mw148
  | 149, h => cases h; exact mw149
  | 150, h => cases h; exact mw150
  | 151, h => cases h; exact mw151
  | 152, h => cases h; exact mw152
  | 153, h => cases h; exact mw153
  | 154, h => cases h; exact mw154
  | 155, h => cases h; exact mw155
  | 156, h => cases h; exact mw156
  | 157, h => cases h; exact mw157
  | 158, h => cases h; exact mw158
  | 159, h => cases h; exact mw159
  | 160, h => cases h; exact mw160
  | 161, h => cases h; exact mw161
  | 162, h => cases h; exact mw162
  | 163, h => cases h; exact mw163
  | 164, h => cases h; exact mw164
  | 165, h => cases h; exact mw165
  | 166, h => cases h; exact mw166
  | 167, h => cases h; exact mw167
  | 168, h => cases h; exact mw168
  | 169, h => cases h; exact mw169
  | 170, h => cases h; exact mw170
  | 171, h => cases h; exact mw171
  | 172, h => cases h; exact mw172
  | 173, h => cases h; exact mw173
  | 174, h => cases h; exact mw174
  | 175, h => cases h; exact mw175
  | 176, h => cases h; exact mw176
  | 177, h => cases h; exact mw177
  | 178, h => cases h; exact mw178
  | 179, h => cases h; exact mw179
  | 180, h => cases h; exact mw180
  | 181, h => cases h; exact mw181
  | 182, h => cases h; exact mw182
  | 183, h => cases h; exact mw183
  | 184, h => cases h; exact mw184
  | 185, h => cases h; exact mw185
  | 186, h => cases h; exact mw186
  | 187, h => cases h; exact mw187
  | 188, h => cases h; exact mw188
  | 189, h => cases h; exact mw189
  | 190, h => cases h; exact mw190
  | 191, h => cases h; exact mw191
  | 192, h => cases h; exact mw192
  | 193, h => cases h; exact mw193
  | 194, h => cases h; exact mw194
  | 195, h => cases h; exact mw195
  | 196, h => cases h; exact mw196
  | 197, h => cases h; exact mw197
  | 198, h => cases h; exact mw198
  | 199, h => cases h; exact mw199
  | 200, h => cases h; exact mw200
  | 201, h => cases h; exact mw201
  | 202, h => cases h; exact mw202
  | 203, h => cases h; exact mw203
  | 204, h => cases h; exact mw204
  | 205, h => cases h; exact mw205
  | 206, h => cases h; exact mw206
  | 207, h => cases h; exact mw207
  | 208, h => cases h; exact mw208
  | n + 209, h => exact absurd (List.getElem?_eq_some_iff.mp h).1 (by rw [mtb_len]; omega)
theorem mt_ok {k : Nat} {q : mM} (h : mtb[k]? = some q) : Cond.code q.1 q.2.1 q.2.2.1 q.2.2.2.1 ∈ gtbl ∧ Cond.initialized q.1.cls ∈ gtbl ∧ q.1.cls = cnm (mown k) ∧ (parseMethodDescriptor q.1.desc).map (fun d => d.parameters.length) = some q.2.2.2.2.2.2.2 ∧ plainName q.1.cls = true ∧ (q.1.cls ≠ "java/lang/invoke/MethodHandle" ∧ q.1.cls ≠ "java/lang/invoke/VarHandle") ∧ q.2.2.1 ≤ 41 := by
  have h1 := List.all_eq_true.mp mtA _ (List.mem_of_getElem? h)
  unfold mtC at h1
  simp only [Bool.and_eq_true, decide_eq_true_eq] at h1
  obtain ⟨a2, a3, a4, a5, a6, a7⟩ := h1
  refine ⟨in_g (wat_in (mwA k q h)) rfl, in_g (wat_in a2) rfl, ?_, a4, a5, a6, a7⟩
  unfold mown
  rw [h]
  exact a3
theorem ml_ok0 {o ix k' pl pi ps : Nat} {q : mM} (h : plk o ix mlt = some (0, k', pl, pi, ps)) (hq : mtb[k']? = some q) : Cond.methodLink (cnm o) ix q.1 ∈ gtbl ∧ Cond.instanceMethod q.1 ∈ gtbl ∧ Cond.selects q.1.cls q.1 q.1 ∈ gtbl := by
  have h1 := List.all_eq_true.mp mlA _ (plk_mem h)
  unfold mlC at h1
  dsimp only at h1
  rw [hq] at h1
  simp only [Nat.reduceEqDiff, if_false, if_true, Bool.and_eq_true, decide_eq_true_eq] at h1
  exact ⟨in_g (wat_in h1.1) rfl, in_g (wat_in h1.2.1) rfl, in_g (wat_in h1.2.2) rfl⟩
theorem ml_ok1 {o ix k' pl pi ps : Nat} {q : mM} (h : plk o ix mlt = some (1, k', pl, pi, ps)) (hq : mtb[k']? = some q) : Cond.methodLinkNest (cnm o) ix q.1 "MirrorRoots" ∈ ntbl ∧ Cond.instanceMethod q.1 ∈ gtbl ∧ Cond.selects q.1.cls q.1 q.1 ∈ gtbl := by
  have h1 := List.all_eq_true.mp mlA _ (plk_mem h)
  unfold mlC at h1
  dsimp only at h1
  rw [hq] at h1
  simp only [Nat.reduceEqDiff, if_false, if_true, Bool.and_eq_true, decide_eq_true_eq] at h1
  exact ⟨in_n (wat_in h1.1) rfl, in_g (wat_in h1.2.1) rfl, in_g (wat_in h1.2.2) rfl⟩
theorem ml_ok2 {o ix k' pl pi ps : Nat} {q : mM} (h : plk o ix mlt = some (2, k', pl, pi, ps)) (hq : mtb[k']? = some q) : Cond.methodLink (cnm o) ix q.1 ∈ gtbl ∧ Cond.static q.1 ∈ gtbl := by
  have h1 := List.all_eq_true.mp mlA _ (plk_mem h)
  unfold mlC at h1
  dsimp only at h1
  rw [hq] at h1
  simp only [Nat.reduceEqDiff, if_false, if_true, Bool.and_eq_true, decide_eq_true_eq] at h1
  exact ⟨in_g (wat_in h1.1) rfl, in_g (wat_in h1.2) rfl⟩
theorem ml_ok5 {o ix k' pl pi ps : Nat} {q : mM} (h : plk o ix mlt = some (5, k', pl, pi, ps)) (hq : mtb[k']? = some q) : Cond.methodLinkNest (cnm o) ix q.1 "MirrorRoots" ∈ ntbl ∧ Cond.instanceMethod q.1 ∈ gtbl ∧ q.1.name = "<init>" ∧ q.2.2.2.1 = none := by
  have h1 := List.all_eq_true.mp mlA _ (plk_mem h)
  unfold mlC at h1
  dsimp only at h1
  rw [hq] at h1
  simp only [Nat.reduceEqDiff, if_false, if_true, Bool.and_eq_true, decide_eq_true_eq] at h1
  exact ⟨in_n (wat_in h1.1) rfl, in_g (wat_in h1.2.1) rfl, h1.2.2⟩
theorem ml_ok6 {o ix k' pl pi ps : Nat} (h : plk o ix mlt = some (6, k', pl, pi, ps)) : Cond.methodLink (cnm o) ix objectInit ∈ gtbl := by
  have h1 := List.all_eq_true.mp mlA _ (plk_mem h)
  unfold mlC at h1
  dsimp only at h1
  simp only [if_true, decide_eq_true_eq] at h1
  exact in_g (wat_in h1) rfl
set_option maxRecDepth 100000 in
theorem mnA : wat 970 = some (Cond.methodLink (cnm mnix.1) mnix.2 Lib.Math.min.name) ∧ wat 971 = some (Cond.static Lib.Math.min.name) ∧ wat 143 = some (Cond.initialized "java/lang/Math") ∧ wat 972 = some (Cond.code Lib.Math.min.name Lib.Math.min.code 2 (some .int)) := by decide +kernel
theorem ob_ok : Cond.instanceMethod objectInit ∈ gtbl ∧ Cond.code objectInit ⟨#[0xb1]⟩ 1 none ∈ gtbl := ⟨in_g (wat_in obA.1) rfl, in_g (wat_in obA.2) rfl⟩
