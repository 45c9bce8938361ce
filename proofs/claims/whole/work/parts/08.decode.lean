/-! The code tables are the bytes; the method table is the words. -/
set_option maxRecDepth 100000 in
theorem dc0 : ∀ x ∈ cd0, decode prog_2_method_1_code x.1 = .ok x.2 := by decide +kernel
set_option maxRecDepth 100000 in
theorem dc1 : ∀ x ∈ cd1, decode prog_2_method_2_code x.1 = .ok x.2 := by decide +kernel
set_option maxRecDepth 100000 in
theorem dc2 : ∀ x ∈ cd2, decode prog_2_method_3_code x.1 = .ok x.2 := by decide +kernel
set_option maxRecDepth 100000 in
theorem dc3 : ∀ x ∈ cd3, decode prog_2_method_4_code x.1 = .ok x.2 := by decide +kernel
set_option maxRecDepth 100000 in
theorem dc4 : ∀ x ∈ cd4, decode prog_2_method_5_code x.1 = .ok x.2 := by decide +kernel
set_option maxRecDepth 100000 in
theorem dc5 : ∀ x ∈ cd5, decode prog_2_method_6_code x.1 = .ok x.2 := by decide +kernel
set_option maxRecDepth 100000 in
theorem dc6 : ∀ x ∈ cd6, decode prog_2_method_7_code x.1 = .ok x.2 := by decide +kernel
set_option maxRecDepth 100000 in
theorem dc7 : ∀ x ∈ cd7, decode prog_2_method_8_code x.1 = .ok x.2 := by decide +kernel
set_option maxRecDepth 100000 in
theorem dc8 : ∀ x ∈ cd8, decode prog_2_method_9_code x.1 = .ok x.2 := by decide +kernel
set_option maxRecDepth 100000 in
theorem dc9 : ∀ x ∈ cd9, decode prog_2_method_10_code x.1 = .ok x.2 := by decide +kernel
set_option maxRecDepth 100000 in
theorem dc10 : ∀ x ∈ cd10, decode prog_2_method_11_code x.1 = .ok x.2 := by decide +kernel
set_option maxRecDepth 100000 in
theorem dc11 : ∀ x ∈ cd11, decode prog_2_method_12_code x.1 = .ok x.2 := by decide +kernel
set_option maxRecDepth 100000 in
theorem dc12 : ∀ x ∈ cd12, decode prog_2_method_13_code x.1 = .ok x.2 := by decide +kernel
set_option maxRecDepth 100000 in
theorem dc13 : ∀ x ∈ cd13, decode prog_2_method_14_code x.1 = .ok x.2 := by decide +kernel
set_option maxRecDepth 100000 in
theorem dc14 : ∀ x ∈ cd14, decode prog_3_method_1_code x.1 = .ok x.2 := by decide +kernel
set_option maxRecDepth 100000 in
theorem dc15 : ∀ x ∈ cd15, decode prog_3_method_2_code x.1 = .ok x.2 := by decide +kernel
set_option maxRecDepth 100000 in
theorem dc16 : ∀ x ∈ cd16, decode prog_3_method_3_code x.1 = .ok x.2 := by decide +kernel
set_option maxRecDepth 100000 in
theorem dc17 : ∀ x ∈ cd17, decode prog_3_method_4_code x.1 = .ok x.2 := by decide +kernel
set_option maxRecDepth 100000 in
theorem dc18 : ∀ x ∈ cd18, decode prog_3_method_5_code x.1 = .ok x.2 := by decide +kernel
set_option maxRecDepth 100000 in
theorem dc19 : ∀ x ∈ cd19, decode prog_3_method_6_code x.1 = .ok x.2 := by decide +kernel
set_option maxRecDepth 100000 in
theorem dc20 : ∀ x ∈ cd20, decode prog_3_method_7_code x.1 = .ok x.2 := by decide +kernel
set_option maxRecDepth 100000 in
theorem dc21 : ∀ x ∈ cd21, decode prog_4_method_1_code x.1 = .ok x.2 := by decide +kernel
set_option maxRecDepth 100000 in
theorem dc22 : ∀ x ∈ cd22, decode prog_4_method_2_code x.1 = .ok x.2 := by decide +kernel
set_option maxRecDepth 100000 in
theorem dc23 : ∀ x ∈ cd23, decode prog_4_method_3_code x.1 = .ok x.2 := by decide +kernel
set_option maxRecDepth 100000 in
theorem dc24 : ∀ x ∈ cd24, decode prog_4_method_4_code x.1 = .ok x.2 := by decide +kernel
set_option maxRecDepth 100000 in
theorem dc25 : ∀ x ∈ cd25, decode prog_4_method_5_code x.1 = .ok x.2 := by decide +kernel
set_option maxRecDepth 100000 in
theorem dc26 : ∀ x ∈ cd26, decode prog_4_method_6_code x.1 = .ok x.2 := by decide +kernel
set_option maxRecDepth 100000 in
theorem dc27 : ∀ x ∈ cd27, decode prog_4_method_7_code x.1 = .ok x.2 := by decide +kernel
set_option maxRecDepth 100000 in
theorem dc28 : ∀ x ∈ cd28, decode prog_4_method_8_code x.1 = .ok x.2 := by decide +kernel
set_option maxRecDepth 100000 in
theorem dc29 : ∀ x ∈ cd29, decode prog_4_method_9_code x.1 = .ok x.2 := by decide +kernel
set_option maxRecDepth 100000 in
theorem dc30 : ∀ x ∈ cd30, decode prog_4_method_10_code x.1 = .ok x.2 := by decide +kernel
set_option maxRecDepth 100000 in
theorem dc31 : ∀ x ∈ cd31, decode prog_5_method_1_code x.1 = .ok x.2 := by decide +kernel
set_option maxRecDepth 100000 in
theorem dc32 : ∀ x ∈ cd32, decode prog_5_method_2_code x.1 = .ok x.2 := by decide +kernel
set_option maxRecDepth 100000 in
theorem dc33 : ∀ x ∈ cd33, decode prog_5_method_3_code x.1 = .ok x.2 := by decide +kernel
set_option maxRecDepth 100000 in
theorem dc34 : ∀ x ∈ cd34, decode prog_5_method_4_code x.1 = .ok x.2 := by decide +kernel
set_option maxRecDepth 100000 in
theorem dc35 : ∀ x ∈ cd35, decode prog_5_method_5_code x.1 = .ok x.2 := by decide +kernel
set_option maxRecDepth 100000 in
theorem dc36 : ∀ x ∈ cd36, decode prog_5_method_6_code x.1 = .ok x.2 := by decide +kernel
set_option maxRecDepth 100000 in
theorem dc37 : ∀ x ∈ cd37, decode prog_5_method_7_code x.1 = .ok x.2 := by decide +kernel
set_option maxRecDepth 100000 in
theorem dc38 : ∀ x ∈ cd38, decode prog_5_method_8_code x.1 = .ok x.2 := by decide +kernel
set_option maxRecDepth 100000 in
theorem dc39 : ∀ x ∈ cd39, decode prog_5_method_9_code x.1 = .ok x.2 := by decide +kernel
set_option maxRecDepth 100000 in
theorem dc40 : ∀ x ∈ cd40, decode prog_5_method_10_code x.1 = .ok x.2 := by decide +kernel
set_option maxRecDepth 100000 in
theorem dc41 : ∀ x ∈ cd41, decode prog_5_method_11_code x.1 = .ok x.2 := by decide +kernel
set_option maxRecDepth 100000 in
theorem dc42 : ∀ x ∈ cd42, decode prog_5_method_12_code x.1 = .ok x.2 := by decide +kernel
set_option maxRecDepth 100000 in
theorem dc43 : ∀ x ∈ cd43, decode prog_5_method_13_code x.1 = .ok x.2 := by decide +kernel
set_option maxRecDepth 100000 in
theorem dc44 : ∀ x ∈ cd44, decode prog_5_method_14_code x.1 = .ok x.2 := by decide +kernel
set_option maxRecDepth 100000 in
theorem dc45 : ∀ x ∈ cd45, decode prog_5_method_15_code x.1 = .ok x.2 := by decide +kernel
set_option maxRecDepth 100000 in
theorem dc46 : ∀ x ∈ cd46, decode prog_5_method_16_code x.1 = .ok x.2 := by decide +kernel
set_option maxRecDepth 100000 in
theorem dc47 : ∀ x ∈ cd47, decode prog_6_method_1_code x.1 = .ok x.2 := by decide +kernel
set_option maxRecDepth 100000 in
theorem dc48 : ∀ x ∈ cd48, decode prog_6_method_2_code x.1 = .ok x.2 := by decide +kernel
set_option maxRecDepth 100000 in
theorem dc49 : ∀ x ∈ cd49, decode prog_6_method_3_code x.1 = .ok x.2 := by decide +kernel
set_option maxRecDepth 100000 in
theorem dc50 : ∀ x ∈ cd50, decode prog_6_method_4_code x.1 = .ok x.2 := by decide +kernel
set_option maxRecDepth 100000 in
theorem dc51 : ∀ x ∈ cd51, decode prog_7_method_1_code x.1 = .ok x.2 := by decide +kernel
set_option maxRecDepth 100000 in
theorem dc52 : ∀ x ∈ cd52, decode prog_7_method_2_code x.1 = .ok x.2 := by decide +kernel
set_option maxRecDepth 100000 in
theorem dc53 : ∀ x ∈ cd53, decode prog_7_method_3_code x.1 = .ok x.2 := by decide +kernel
set_option maxRecDepth 100000 in
theorem dc54 : ∀ x ∈ cd54, decode prog_7_method_4_code x.1 = .ok x.2 := by decide +kernel
set_option maxRecDepth 100000 in
theorem dc55 : ∀ x ∈ cd55, decode prog_7_method_5_code x.1 = .ok x.2 := by decide +kernel
set_option maxRecDepth 100000 in
theorem dc56 : ∀ x ∈ cd56, decode prog_7_method_6_code x.1 = .ok x.2 := by decide +kernel
set_option maxRecDepth 100000 in
theorem dc57 : ∀ x ∈ cd57, decode prog_7_method_7_code x.1 = .ok x.2 := by decide +kernel
set_option maxRecDepth 100000 in
theorem dc58 : ∀ x ∈ cd58, decode prog_7_method_8_code x.1 = .ok x.2 := by decide +kernel
set_option maxRecDepth 100000 in
theorem dc59 : ∀ x ∈ cd59, decode prog_8_method_1_code x.1 = .ok x.2 := by decide +kernel
set_option maxRecDepth 100000 in
theorem dc60 : ∀ x ∈ cd60, decode prog_8_method_2_code x.1 = .ok x.2 := by decide +kernel
set_option maxRecDepth 100000 in
theorem dc61 : ∀ x ∈ cd61, decode prog_8_method_3_code x.1 = .ok x.2 := by decide +kernel
set_option maxRecDepth 100000 in
theorem dc62 : ∀ x ∈ cd62, decode prog_8_method_4_code x.1 = .ok x.2 := by decide +kernel
set_option maxRecDepth 100000 in
theorem dc63 : ∀ x ∈ cd63, decode prog_8_method_5_code x.1 = .ok x.2 := by decide +kernel
set_option maxRecDepth 100000 in
theorem dc64 : ∀ x ∈ cd64, decode prog_8_method_6_code x.1 = .ok x.2 := by decide +kernel
set_option maxRecDepth 100000 in
theorem dc65 : ∀ x ∈ cd65, decode prog_8_method_7_code x.1 = .ok x.2 := by decide +kernel
set_option maxRecDepth 100000 in
theorem dc66 : ∀ x ∈ cd66, decode prog_8_method_8_code x.1 = .ok x.2 := by decide +kernel
set_option maxRecDepth 100000 in
theorem dc67 : ∀ x ∈ cd67, decode prog_8_method_9_code x.1 = .ok x.2 := by decide +kernel
set_option maxRecDepth 100000 in
theorem dc68 : ∀ x ∈ cd68, decode prog_9_method_1_code x.1 = .ok x.2 := by decide +kernel
set_option maxRecDepth 100000 in
theorem dc69 : ∀ x ∈ cd69, decode prog_9_method_2_code x.1 = .ok x.2 := by decide +kernel
set_option maxRecDepth 100000 in
theorem dc70 : ∀ x ∈ cd70, decode prog_9_method_3_code x.1 = .ok x.2 := by decide +kernel
/-! -/
set_option maxRecDepth 100000 in
theorem dc71 : ∀ x ∈ cd71, decode prog_9_method_4_code x.1 = .ok x.2 := by decide +kernel
set_option maxRecDepth 100000 in
theorem dc72 : ∀ x ∈ cd72, decode prog_9_method_5_code x.1 = .ok x.2 := by decide +kernel
set_option maxRecDepth 100000 in
theorem dc73 : ∀ x ∈ cd73, decode prog_9_method_6_code x.1 = .ok x.2 := by decide +kernel
set_option maxRecDepth 100000 in
theorem dc74 : ∀ x ∈ cd74, decode prog_9_method_7_code x.1 = .ok x.2 := by decide +kernel
set_option maxRecDepth 100000 in
theorem dc75 : ∀ x ∈ cd75, decode prog_9_method_8_code x.1 = .ok x.2 := by decide +kernel
set_option maxRecDepth 100000 in
theorem dc76 : ∀ x ∈ cd76, decode prog_10_method_1_code x.1 = .ok x.2 := by decide +kernel
set_option maxRecDepth 100000 in
theorem dc77 : ∀ x ∈ cd77, decode prog_10_method_2_code x.1 = .ok x.2 := by decide +kernel
set_option maxRecDepth 100000 in
theorem dc78 : ∀ x ∈ cd78, decode prog_10_method_3_code x.1 = .ok x.2 := by decide +kernel
set_option maxRecDepth 100000 in
theorem dc79 : ∀ x ∈ cd79, decode prog_10_method_4_code x.1 = .ok x.2 := by decide +kernel
set_option maxRecDepth 100000 in
theorem dc80 : ∀ x ∈ cd80, decode prog_10_method_5_code x.1 = .ok x.2 := by decide +kernel
set_option maxRecDepth 100000 in
theorem dc81 : ∀ x ∈ cd81, decode prog_10_method_6_code x.1 = .ok x.2 := by decide +kernel
set_option maxRecDepth 100000 in
theorem dc82 : ∀ x ∈ cd82, decode prog_10_method_7_code x.1 = .ok x.2 := by decide +kernel
set_option maxRecDepth 100000 in
theorem dc83 : ∀ x ∈ cd83, decode prog_10_method_8_code x.1 = .ok x.2 := by decide +kernel
set_option maxRecDepth 100000 in
theorem dc84 : ∀ x ∈ cd84, decode prog_10_method_9_code x.1 = .ok x.2 := by decide +kernel
set_option maxRecDepth 100000 in
theorem dc85 : ∀ x ∈ cd85, decode prog_10_method_10_code x.1 = .ok x.2 := by decide +kernel
set_option maxRecDepth 100000 in
theorem dc86 : ∀ x ∈ cd86, decode prog_10_method_11_code x.1 = .ok x.2 := by decide +kernel
set_option maxRecDepth 100000 in
theorem dc87 : ∀ x ∈ cd87, decode prog_10_method_12_code x.1 = .ok x.2 := by decide +kernel
set_option maxRecDepth 100000 in
theorem dc88 : ∀ x ∈ cd88, decode prog_10_method_13_code x.1 = .ok x.2 := by decide +kernel
set_option maxRecDepth 100000 in
theorem dc89 : ∀ x ∈ cd89, decode prog_10_method_14_code x.1 = .ok x.2 := by decide +kernel
set_option maxRecDepth 100000 in
theorem dc90 : ∀ x ∈ cd90, decode prog_11_method_1_code x.1 = .ok x.2 := by decide +kernel
set_option maxRecDepth 100000 in
theorem dc91 : ∀ x ∈ cd91, decode prog_11_method_2_code x.1 = .ok x.2 := by decide +kernel
set_option maxRecDepth 100000 in
theorem dc92 : ∀ x ∈ cd92, decode prog_11_method_3_code x.1 = .ok x.2 := by decide +kernel
set_option maxRecDepth 100000 in
theorem dc93 : ∀ x ∈ cd93, decode prog_11_method_4_code x.1 = .ok x.2 := by decide +kernel
set_option maxRecDepth 100000 in
theorem dc94 : ∀ x ∈ cd94, decode prog_11_method_5_code x.1 = .ok x.2 := by decide +kernel
set_option maxRecDepth 100000 in
theorem dc95 : ∀ x ∈ cd95, decode prog_11_method_6_code x.1 = .ok x.2 := by decide +kernel
set_option maxRecDepth 100000 in
theorem dc96 : ∀ x ∈ cd96, decode prog_11_method_7_code x.1 = .ok x.2 := by decide +kernel
set_option maxRecDepth 100000 in
theorem dc97 : ∀ x ∈ cd97, decode prog_11_method_8_code x.1 = .ok x.2 := by decide +kernel
set_option maxRecDepth 100000 in
theorem dc98 : ∀ x ∈ cd98, decode prog_11_method_9_code x.1 = .ok x.2 := by decide +kernel
set_option maxRecDepth 100000 in
theorem dc99 : ∀ x ∈ cd99, decode prog_11_method_10_code x.1 = .ok x.2 := by decide +kernel
set_option maxRecDepth 100000 in
theorem dc100 : ∀ x ∈ cd100, decode prog_11_method_11_code x.1 = .ok x.2 := by decide +kernel
set_option maxRecDepth 100000 in
theorem dc101 : ∀ x ∈ cd101, decode prog_11_method_12_code x.1 = .ok x.2 := by decide +kernel
set_option maxRecDepth 100000 in
theorem dc102 : ∀ x ∈ cd102, decode prog_11_method_13_code x.1 = .ok x.2 := by decide +kernel
set_option maxRecDepth 100000 in
theorem dc103 : ∀ x ∈ cd103, decode prog_1_method_1_code x.1 = .ok x.2 := by decide +kernel
set_option maxRecDepth 100000 in
theorem dc104 : ∀ x ∈ cd104, decode prog_1_method_2_code x.1 = .ok x.2 := by decide +kernel
set_option maxRecDepth 100000 in
theorem dc105 : ∀ x ∈ cd105, decode prog_1_method_3_code x.1 = .ok x.2 := by decide +kernel
set_option maxRecDepth 100000 in
theorem dc106 : ∀ x ∈ cd106, decode prog_1_method_4_code x.1 = .ok x.2 := by decide +kernel
set_option maxRecDepth 100000 in
theorem dc107 : ∀ x ∈ cd107, decode prog_1_method_5_code x.1 = .ok x.2 := by decide +kernel
set_option maxRecDepth 100000 in
theorem dc108 : ∀ x ∈ cd108, decode prog_1_method_6_code x.1 = .ok x.2 := by decide +kernel
set_option maxRecDepth 100000 in
theorem dc109 : ∀ x ∈ cd109, decode prog_1_method_7_code x.1 = .ok x.2 := by decide +kernel
set_option maxRecDepth 100000 in
theorem dc110 : ∀ x ∈ cd110, decode prog_1_method_8_code x.1 = .ok x.2 := by decide +kernel
set_option maxRecDepth 100000 in
theorem dc111 : ∀ x ∈ cd111, decode prog_1_method_9_code x.1 = .ok x.2 := by decide +kernel
set_option maxRecDepth 100000 in
theorem dc112 : ∀ x ∈ cd112, decode prog_1_method_10_code x.1 = .ok x.2 := by decide +kernel
set_option maxRecDepth 100000 in
theorem dc113 : ∀ x ∈ cd113, decode prog_1_method_11_code x.1 = .ok x.2 := by decide +kernel
set_option maxRecDepth 100000 in
theorem dc114 : ∀ x ∈ cd114, decode prog_1_method_12_code x.1 = .ok x.2 := by decide +kernel
set_option maxRecDepth 100000 in
theorem dc115 : ∀ x ∈ cd115, decode prog_1_method_13_code x.1 = .ok x.2 := by decide +kernel
set_option maxRecDepth 100000 in
theorem dc116 : ∀ x ∈ cd116, decode prog_1_method_14_code x.1 = .ok x.2 := by decide +kernel
set_option maxRecDepth 100000 in
theorem dc117 : ∀ x ∈ cd117, decode prog_1_method_15_code x.1 = .ok x.2 := by decide +kernel
set_option maxRecDepth 100000 in
theorem dc118 : ∀ x ∈ cd118, decode prog_1_method_16_code x.1 = .ok x.2 := by decide +kernel
set_option maxRecDepth 100000 in
theorem dc119 : ∀ x ∈ cd119, decode prog_1_method_17_code x.1 = .ok x.2 := by decide +kernel
set_option maxRecDepth 100000 in
theorem dc120 : ∀ x ∈ cd120, decode prog_1_method_18_code x.1 = .ok x.2 := by decide +kernel
set_option maxRecDepth 100000 in
theorem dc121 : ∀ x ∈ cd121, decode prog_1_method_19_code x.1 = .ok x.2 := by decide +kernel
set_option maxRecDepth 100000 in
theorem dc122 : ∀ x ∈ cd122, decode prog_1_method_20_code x.1 = .ok x.2 := by decide +kernel
set_option maxRecDepth 100000 in
theorem dc123 : ∀ x ∈ cd123, decode prog_1_method_21_code x.1 = .ok x.2 := by decide +kernel
set_option maxRecDepth 100000 in
theorem dc124 : ∀ x ∈ cd124, decode prog_1_method_22_code x.1 = .ok x.2 := by decide +kernel
set_option maxRecDepth 100000 in
theorem dc125 : ∀ x ∈ cd125, decode prog_1_method_23_code x.1 = .ok x.2 := by decide +kernel
set_option maxRecDepth 100000 in
theorem dc126 : ∀ x ∈ cd126, decode prog_1_method_24_code x.1 = .ok x.2 := by decide +kernel
set_option maxRecDepth 100000 in
theorem dc127 : ∀ x ∈ cd127, decode prog_1_method_25_code x.1 = .ok x.2 := by decide +kernel
set_option maxRecDepth 100000 in
theorem dc128 : ∀ x ∈ cd128, decode prog_1_method_26_code x.1 = .ok x.2 := by decide +kernel
set_option maxRecDepth 100000 in
theorem dc129 : ∀ x ∈ cd129, decode prog_1_method_27_code x.1 = .ok x.2 := by decide +kernel
set_option maxRecDepth 100000 in
theorem dc130 : ∀ x ∈ cd130, decode prog_1_method_28_code x.1 = .ok x.2 := by decide +kernel
set_option maxRecDepth 100000 in
theorem dc131 : ∀ x ∈ cd131, decode prog_1_method_29_code x.1 = .ok x.2 := by decide +kernel
set_option maxRecDepth 100000 in
theorem dc132 : ∀ x ∈ cd132, decode prog_1_method_30_code x.1 = .ok x.2 := by decide +kernel
set_option maxRecDepth 100000 in
theorem dc133 : ∀ x ∈ cd133, decode prog_1_method_31_code x.1 = .ok x.2 := by decide +kernel
set_option maxRecDepth 100000 in
theorem dc134 : ∀ x ∈ cd134, decode prog_1_method_32_code x.1 = .ok x.2 := by decide +kernel
set_option maxRecDepth 100000 in
theorem dc135 : ∀ x ∈ cd135, decode prog_1_method_33_code x.1 = .ok x.2 := by decide +kernel
set_option maxRecDepth 100000 in
theorem dc136 : ∀ x ∈ cd136, decode prog_13_method_1_code x.1 = .ok x.2 := by decide +kernel
set_option maxRecDepth 100000 in
theorem dc137 : ∀ x ∈ cd137, decode prog_13_method_3_code x.1 = .ok x.2 := by decide +kernel
set_option maxRecDepth 100000 in
theorem dc138 : ∀ x ∈ cd138, decode prog_13_method_4_code x.1 = .ok x.2 := by decide +kernel
set_option maxRecDepth 100000 in
theorem dc139 : ∀ x ∈ cd139, decode prog_13_method_5_code x.1 = .ok x.2 := by decide +kernel
set_option maxRecDepth 100000 in
theorem dc140 : ∀ x ∈ cd140, decode prog_13_method_6_code x.1 = .ok x.2 := by decide +kernel
/-! -/
set_option maxRecDepth 100000 in
theorem dc141 : ∀ x ∈ cd141, decode prog_13_method_7_code x.1 = .ok x.2 := by decide +kernel
set_option maxRecDepth 100000 in
theorem dc142 : ∀ x ∈ cd142, decode prog_13_method_8_code x.1 = .ok x.2 := by decide +kernel
set_option maxRecDepth 100000 in
theorem dc143 : ∀ x ∈ cd143, decode prog_13_method_9_code x.1 = .ok x.2 := by decide +kernel
set_option maxRecDepth 100000 in
theorem dc144 : ∀ x ∈ cd144, decode prog_13_method_10_code x.1 = .ok x.2 := by decide +kernel
set_option maxRecDepth 100000 in
theorem dc145 : ∀ x ∈ cd145, decode prog_13_method_11_code x.1 = .ok x.2 := by decide +kernel
set_option maxRecDepth 100000 in
theorem dc146 : ∀ x ∈ cd146, decode prog_13_method_12_code x.1 = .ok x.2 := by decide +kernel
set_option maxRecDepth 100000 in
theorem dc147 : ∀ x ∈ cd147, decode prog_13_method_13_code x.1 = .ok x.2 := by decide +kernel
set_option maxRecDepth 100000 in
theorem dc148 : ∀ x ∈ cd148, decode prog_13_method_14_code x.1 = .ok x.2 := by decide +kernel
set_option maxRecDepth 100000 in
theorem dc149 : ∀ x ∈ cd149, decode prog_13_method_15_code x.1 = .ok x.2 := by decide +kernel
set_option maxRecDepth 100000 in
theorem dc150 : ∀ x ∈ cd150, decode prog_13_method_16_code x.1 = .ok x.2 := by decide +kernel
set_option maxRecDepth 100000 in
theorem dc151 : ∀ x ∈ cd151, decode prog_13_method_17_code x.1 = .ok x.2 := by decide +kernel
set_option maxRecDepth 100000 in
theorem dc152 : ∀ x ∈ cd152, decode prog_13_method_18_code x.1 = .ok x.2 := by decide +kernel
set_option maxRecDepth 100000 in
theorem dc153 : ∀ x ∈ cd153, decode prog_13_method_19_code x.1 = .ok x.2 := by decide +kernel
set_option maxRecDepth 100000 in
theorem dc154 : ∀ x ∈ cd154, decode prog_13_method_20_code x.1 = .ok x.2 := by decide +kernel
set_option maxRecDepth 100000 in
theorem dc155 : ∀ x ∈ cd155, decode prog_13_method_21_code x.1 = .ok x.2 := by decide +kernel
set_option maxRecDepth 100000 in
theorem dc156 : ∀ x ∈ cd156, decode prog_13_method_22_code x.1 = .ok x.2 := by decide +kernel
set_option maxRecDepth 100000 in
theorem dc157 : ∀ x ∈ cd157, decode prog_13_method_23_code x.1 = .ok x.2 := by decide +kernel
set_option maxRecDepth 100000 in
theorem dc158 : ∀ x ∈ cd158, decode prog_13_method_24_code x.1 = .ok x.2 := by decide +kernel
set_option maxRecDepth 100000 in
theorem dc159 : ∀ x ∈ cd159, decode prog_13_method_25_code x.1 = .ok x.2 := by decide +kernel
set_option maxRecDepth 100000 in
theorem dc160 : ∀ x ∈ cd160, decode prog_13_method_26_code x.1 = .ok x.2 := by decide +kernel
set_option maxRecDepth 100000 in
theorem dc161 : ∀ x ∈ cd161, decode prog_13_method_27_code x.1 = .ok x.2 := by decide +kernel
set_option maxRecDepth 100000 in
theorem dc162 : ∀ x ∈ cd162, decode prog_13_method_28_code x.1 = .ok x.2 := by decide +kernel
set_option maxRecDepth 100000 in
theorem dc163 : ∀ x ∈ cd163, decode prog_13_method_29_code x.1 = .ok x.2 := by decide +kernel
set_option maxRecDepth 100000 in
theorem dc164 : ∀ x ∈ cd164, decode prog_13_method_30_code x.1 = .ok x.2 := by decide +kernel
set_option maxRecDepth 100000 in
theorem dc165 : ∀ x ∈ cd165, decode prog_13_method_31_code x.1 = .ok x.2 := by decide +kernel
set_option maxRecDepth 100000 in
theorem dc166 : ∀ x ∈ cd166, decode prog_13_method_32_code x.1 = .ok x.2 := by decide +kernel
set_option maxRecDepth 100000 in
theorem dc167 : ∀ x ∈ cd167, decode prog_13_method_33_code x.1 = .ok x.2 := by decide +kernel
set_option maxRecDepth 100000 in
theorem dc168 : ∀ x ∈ cd168, decode prog_13_method_34_code x.1 = .ok x.2 := by decide +kernel
set_option maxRecDepth 100000 in
theorem dc169 : ∀ x ∈ cd169, decode prog_13_method_35_code x.1 = .ok x.2 := by decide +kernel
set_option maxRecDepth 100000 in
theorem dc170 : ∀ x ∈ cd170, decode prog_13_method_36_code x.1 = .ok x.2 := by decide +kernel
set_option maxRecDepth 100000 in
theorem dc171 : ∀ x ∈ cd171, decode prog_13_method_37_code x.1 = .ok x.2 := by decide +kernel
set_option maxRecDepth 100000 in
theorem dc172 : ∀ x ∈ cd172, decode prog_13_method_38_code x.1 = .ok x.2 := by decide +kernel
set_option maxRecDepth 100000 in
theorem dc173 : ∀ x ∈ cd173, decode prog_13_method_39_code x.1 = .ok x.2 := by decide +kernel
set_option maxRecDepth 100000 in
theorem dc174 : ∀ x ∈ cd174, decode prog_13_method_40_code x.1 = .ok x.2 := by decide +kernel
set_option maxRecDepth 100000 in
theorem dc175 : ∀ x ∈ cd175, decode prog_13_method_41_code x.1 = .ok x.2 := by decide +kernel
set_option maxRecDepth 100000 in
theorem dc176 : ∀ x ∈ cd176, decode prog_13_method_42_code x.1 = .ok x.2 := by decide +kernel
set_option maxRecDepth 100000 in
theorem dc177 : ∀ x ∈ cd177, decode prog_13_method_43_code x.1 = .ok x.2 := by decide +kernel
set_option maxRecDepth 100000 in
theorem dc178 : ∀ x ∈ cd178, decode prog_13_method_44_code x.1 = .ok x.2 := by decide +kernel
set_option maxRecDepth 100000 in
theorem dc179 : ∀ x ∈ cd179, decode prog_13_method_45_code x.1 = .ok x.2 := by decide +kernel
set_option maxRecDepth 100000 in
theorem dc180 : ∀ x ∈ cd180, decode prog_13_method_46_code x.1 = .ok x.2 := by decide +kernel
set_option maxRecDepth 100000 in
theorem dc181 : ∀ x ∈ cd181, decode prog_13_method_47_code x.1 = .ok x.2 := by decide +kernel
set_option maxRecDepth 100000 in
theorem dc182 : ∀ x ∈ cd182, decode prog_13_method_48_code x.1 = .ok x.2 := by decide +kernel
set_option maxRecDepth 100000 in
theorem dc183 : ∀ x ∈ cd183, decode prog_13_method_49_code x.1 = .ok x.2 := by decide +kernel
set_option maxRecDepth 100000 in
theorem dc184 : ∀ x ∈ cd184, decode prog_13_method_50_code x.1 = .ok x.2 := by decide +kernel
set_option maxRecDepth 100000 in
theorem dc185 : ∀ x ∈ cd185, decode prog_13_method_51_code x.1 = .ok x.2 := by decide +kernel
set_option maxRecDepth 100000 in
theorem dc186 : ∀ x ∈ cd186, decode prog_13_method_52_code x.1 = .ok x.2 := by decide +kernel
set_option maxRecDepth 100000 in
theorem dc187 : ∀ x ∈ cd187, decode prog_13_method_53_code x.1 = .ok x.2 := by decide +kernel
set_option maxRecDepth 100000 in
theorem dc188 : ∀ x ∈ cd188, decode prog_13_method_54_code x.1 = .ok x.2 := by decide +kernel
set_option maxRecDepth 100000 in
theorem dc189 : ∀ x ∈ cd189, decode prog_13_method_55_code x.1 = .ok x.2 := by decide +kernel
set_option maxRecDepth 100000 in
theorem dc190 : ∀ x ∈ cd190, decode prog_13_method_56_code x.1 = .ok x.2 := by decide +kernel
set_option maxRecDepth 100000 in
theorem dc191 : ∀ x ∈ cd191, decode prog_13_method_57_code x.1 = .ok x.2 := by decide +kernel
set_option maxRecDepth 100000 in
theorem dc192 : ∀ x ∈ cd192, decode prog_13_method_58_code x.1 = .ok x.2 := by decide +kernel
set_option maxRecDepth 100000 in
theorem dc193 : ∀ x ∈ cd193, decode prog_13_method_59_code x.1 = .ok x.2 := by decide +kernel
set_option maxRecDepth 100000 in
theorem dc194 : ∀ x ∈ cd194, decode prog_13_method_60_code x.1 = .ok x.2 := by decide +kernel
set_option maxRecDepth 100000 in
theorem dc195 : ∀ x ∈ cd195, decode prog_13_method_61_code x.1 = .ok x.2 := by decide +kernel
set_option maxRecDepth 100000 in
theorem dc196 : ∀ x ∈ cd196, decode prog_13_method_62_code x.1 = .ok x.2 := by decide +kernel
set_option maxRecDepth 100000 in
theorem dc197 : ∀ x ∈ cd197, decode prog_13_method_63_code x.1 = .ok x.2 := by decide +kernel
set_option maxRecDepth 100000 in
theorem dc198 : ∀ x ∈ cd198, decode prog_13_method_64_code x.1 = .ok x.2 := by decide +kernel
set_option maxRecDepth 100000 in
theorem dc199 : ∀ x ∈ cd199, decode prog_13_method_65_code x.1 = .ok x.2 := by decide +kernel
set_option maxRecDepth 100000 in
theorem dc200 : ∀ x ∈ cd200, decode prog_13_method_66_code x.1 = .ok x.2 := by decide +kernel
set_option maxRecDepth 100000 in
theorem dc201 : ∀ x ∈ cd201, decode prog_13_method_67_code x.1 = .ok x.2 := by decide +kernel
set_option maxRecDepth 100000 in
theorem dc202 : ∀ x ∈ cd202, decode prog_13_method_68_code x.1 = .ok x.2 := by decide +kernel
set_option maxRecDepth 100000 in
theorem dc203 : ∀ x ∈ cd203, decode prog_13_method_69_code x.1 = .ok x.2 := by decide +kernel
set_option maxRecDepth 100000 in
theorem dc204 : ∀ x ∈ cd204, decode prog_13_method_70_code x.1 = .ok x.2 := by decide +kernel
set_option maxRecDepth 100000 in
theorem dc205 : ∀ x ∈ cd205, decode prog_13_method_71_code x.1 = .ok x.2 := by decide +kernel
set_option maxRecDepth 100000 in
theorem dc206 : ∀ x ∈ cd206, decode prog_13_method_72_code x.1 = .ok x.2 := by decide +kernel
set_option maxRecDepth 100000 in
theorem dc207 : ∀ x ∈ cd207, decode prog_13_method_73_code x.1 = .ok x.2 := by decide +kernel
set_option maxRecDepth 100000 in
theorem dc208 : ∀ x ∈ cd208, decode prog_13_method_74_code x.1 = .ok x.2 := by decide +kernel
