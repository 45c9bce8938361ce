/-! The JDK's own methods on the two String constants: their contracts. -/
def jY_coder : MethodName := ⟨"java/lang/String", "coder", "()B"⟩
theorem dj_coder_0 : decode prog_15_method_152_code 0 = .ok (.getstatic 38, 3) := by decide +kernel
theorem dj_coder_3 : decode prog_15_method_152_code 3 = .ok (.ifCond .eq 10, 3) := by decide +kernel
theorem dj_coder_6 : decode prog_15_method_152_code 6 = .ok (.aload_n 0, 1) := by decide +kernel
theorem dj_coder_7 : decode prog_15_method_152_code 7 = .ok (.getfield 15, 3) := by decide +kernel
theorem dj_coder_10 : decode prog_15_method_152_code 10 = .ok (.goto 4, 3) := by decide +kernel
theorem dj_coder_13 : decode prog_15_method_152_code 13 = .ok (.iconst 1, 1) := by decide +kernel
theorem dj_coder_14 : decode prog_15_method_152_code 14 = .ok (.ireturn, 1) := by decide +kernel
set_option maxRecDepth 100000 in
theorem jw_coder : wat 419 = some (Cond.code jY_coder prog_15_method_152_code 1 (some .byte)) := rfl
def jY_lat : MethodName := ⟨"java/lang/String", "isLatin1", "()Z"⟩
theorem dj_lat_0 : decode prog_15_method_154_code 0 = .ok (.getstatic 38, 3) := by decide +kernel
theorem dj_lat_3 : decode prog_15_method_154_code 3 = .ok (.ifCond .eq 14, 3) := by decide +kernel
theorem dj_lat_6 : decode prog_15_method_154_code 6 = .ok (.aload_n 0, 1) := by decide +kernel
theorem dj_lat_7 : decode prog_15_method_154_code 7 = .ok (.getfield 15, 3) := by decide +kernel
theorem dj_lat_10 : decode prog_15_method_154_code 10 = .ok (.ifCond .ne 7, 3) := by decide +kernel
theorem dj_lat_13 : decode prog_15_method_154_code 13 = .ok (.iconst 1, 1) := by decide +kernel
theorem dj_lat_14 : decode prog_15_method_154_code 14 = .ok (.goto 4, 3) := by decide +kernel
theorem dj_lat_17 : decode prog_15_method_154_code 17 = .ok (.iconst 0, 1) := by decide +kernel
theorem dj_lat_18 : decode prog_15_method_154_code 18 = .ok (.ireturn, 1) := by decide +kernel
set_option maxRecDepth 100000 in
theorem jw_lat : wat 429 = some (Cond.code jY_lat prog_15_method_154_code 1 (some .boolean)) := rfl
def jY_len : MethodName := ⟨"java/lang/String", "length", "()I"⟩
theorem dj_len_0 : decode prog_15_method_54_code 0 = .ok (.aload_n 0, 1) := by decide +kernel
theorem dj_len_1 : decode prog_15_method_54_code 1 = .ok (.getfield 9, 3) := by decide +kernel
theorem dj_len_4 : decode prog_15_method_54_code 4 = .ok (.arraylength, 1) := by decide +kernel
theorem dj_len_5 : decode prog_15_method_54_code 5 = .ok (.aload_n 0, 1) := by decide +kernel
theorem dj_len_6 : decode prog_15_method_54_code 6 = .ok (.invokevirtual 335, 3) := by decide +kernel
theorem dj_len_9 : decode prog_15_method_54_code 9 = .ok (.ishr, 1) := by decide +kernel
theorem dj_len_10 : decode prog_15_method_54_code 10 = .ok (.ireturn, 1) := by decide +kernel
set_option maxRecDepth 100000 in
theorem jw_len : wat 415 = some (Cond.code jY_len prog_15_method_54_code 1 (some .int)) := rfl
def jY_chr : MethodName := ⟨"java/lang/String", "charAt", "(I)C"⟩
theorem dj_chr_0 : decode prog_15_method_56_code 0 = .ok (.aload_n 0, 1) := by decide +kernel
theorem dj_chr_1 : decode prog_15_method_56_code 1 = .ok (.invokevirtual 492, 3) := by decide +kernel
theorem dj_chr_4 : decode prog_15_method_56_code 4 = .ok (.ifCond .eq 12, 3) := by decide +kernel
theorem dj_chr_7 : decode prog_15_method_56_code 7 = .ok (.aload_n 0, 1) := by decide +kernel
theorem dj_chr_8 : decode prog_15_method_56_code 8 = .ok (.getfield 9, 3) := by decide +kernel
theorem dj_chr_11 : decode prog_15_method_56_code 11 = .ok (.iload_n 1, 1) := by decide +kernel
theorem dj_chr_12 : decode prog_15_method_56_code 12 = .ok (.invokestatic 495, 3) := by decide +kernel
theorem dj_chr_15 : decode prog_15_method_56_code 15 = .ok (.ireturn, 1) := by decide +kernel
theorem dj_chr_16 : decode prog_15_method_56_code 16 = .ok (.aload_n 0, 1) := by decide +kernel
theorem dj_chr_17 : decode prog_15_method_56_code 17 = .ok (.getfield 9, 3) := by decide +kernel
theorem dj_chr_20 : decode prog_15_method_56_code 20 = .ok (.iload_n 1, 1) := by decide +kernel
theorem dj_chr_21 : decode prog_15_method_56_code 21 = .ok (.invokestatic 498, 3) := by decide +kernel
theorem dj_chr_24 : decode prog_15_method_56_code 24 = .ok (.ireturn, 1) := by decide +kernel
set_option maxRecDepth 100000 in
theorem jw_chr : wat 425 = some (Cond.code jY_chr prog_15_method_56_code 2 (some .char)) := rfl
def jY_lch : MethodName := ⟨"java/lang/StringLatin1", "charAt", "([BI)C"⟩
theorem dj_lch_0 : decode prog_16_method_2_code 0 = .ok (.iload_n 1, 1) := by decide +kernel
theorem dj_lch_1 : decode prog_16_method_2_code 1 = .ok (.aload_n 0, 1) := by decide +kernel
theorem dj_lch_2 : decode prog_16_method_2_code 2 = .ok (.arraylength, 1) := by decide +kernel
theorem dj_lch_3 : decode prog_16_method_2_code 3 = .ok (.invokestatic 9, 3) := by decide +kernel
theorem dj_lch_6 : decode prog_16_method_2_code 6 = .ok (.aload_n 0, 1) := by decide +kernel
theorem dj_lch_7 : decode prog_16_method_2_code 7 = .ok (.iload_n 1, 1) := by decide +kernel
theorem dj_lch_8 : decode prog_16_method_2_code 8 = .ok (.baload, 1) := by decide +kernel
theorem dj_lch_9 : decode prog_16_method_2_code 9 = .ok (.sipush 255, 3) := by decide +kernel
theorem dj_lch_12 : decode prog_16_method_2_code 12 = .ok (.iand, 1) := by decide +kernel
theorem dj_lch_13 : decode prog_16_method_2_code 13 = .ok (.i2c, 1) := by decide +kernel
theorem dj_lch_14 : decode prog_16_method_2_code 14 = .ok (.ireturn, 1) := by decide +kernel
set_option maxRecDepth 100000 in
theorem jw_lch : wat 432 = some (Cond.code jY_lch prog_16_method_2_code 2 (some .char)) := rfl
def jY_cix : MethodName := ⟨"java/lang/String", "checkIndex", "(II)V"⟩
theorem dj_cix_0 : decode prog_15_method_155_code 0 = .ok (.iload_n 0, 1) := by decide +kernel
theorem dj_cix_1 : decode prog_15_method_155_code 1 = .ok (.iload_n 1, 1) := by decide +kernel
theorem dj_cix_2 : decode prog_15_method_155_code 2 = .ok (.getstatic 1053, 3) := by decide +kernel
theorem dj_cix_5 : decode prog_15_method_155_code 5 = .ok (.invokestatic 1059, 3) := by decide +kernel
theorem dj_cix_8 : decode prog_15_method_155_code 8 = .ok (.pop, 1) := by decide +kernel
theorem dj_cix_9 : decode prog_15_method_155_code 9 = .ok (.return_, 1) := by decide +kernel
set_option maxRecDepth 100000 in
theorem jw_cix : wat 435 = some (Cond.code jY_cix prog_15_method_155_code 2 (none)) := rfl
def jY_pix : MethodName := ⟨"jdk/internal/util/Preconditions", "checkIndex", "(IILjava/util/function/BiFunction;)I"⟩
theorem dj_pix_0 : decode prog_18_method_11_code 0 = .ok (.iload_n 0, 1) := by decide +kernel
theorem dj_pix_1 : decode prog_18_method_11_code 1 = .ok (.ifCond .lt 8, 3) := by decide +kernel
theorem dj_pix_4 : decode prog_18_method_11_code 4 = .ok (.iload_n 0, 1) := by decide +kernel
theorem dj_pix_5 : decode prog_18_method_11_code 5 = .ok (.iload_n 1, 1) := by decide +kernel
theorem dj_pix_6 : decode prog_18_method_11_code 6 = .ok (.if_icmp .lt 10, 3) := by decide +kernel
theorem dj_pix_9 : decode prog_18_method_11_code 9 = .ok (.aload_n 2, 1) := by decide +kernel
theorem dj_pix_10 : decode prog_18_method_11_code 10 = .ok (.iload_n 0, 1) := by decide +kernel
theorem dj_pix_11 : decode prog_18_method_11_code 11 = .ok (.iload_n 1, 1) := by decide +kernel
theorem dj_pix_12 : decode prog_18_method_11_code 12 = .ok (.invokestatic 95, 3) := by decide +kernel
theorem dj_pix_15 : decode prog_18_method_11_code 15 = .ok (.athrow, 1) := by decide +kernel
theorem dj_pix_16 : decode prog_18_method_11_code 16 = .ok (.iload_n 0, 1) := by decide +kernel
theorem dj_pix_17 : decode prog_18_method_11_code 17 = .ok (.ireturn, 1) := by decide +kernel
set_option maxRecDepth 100000 in
theorem jw_pix : wat 440 = some (Cond.code jY_pix prog_18_method_11_code 3 (some .int)) := rfl
set_option maxRecDepth 100000 in
theorem jl_38 : wat 420 = some (Cond.fieldLink "java/lang/String" 38 "java/lang/String" "COMPACT_STRINGS" "Z") := by decide +kernel
set_option maxRecDepth 100000 in
theorem jl_15 : wat 1530 = some (Cond.fieldLink "java/lang/String" 15 "java/lang/String" "coder" "B") := by decide +kernel
set_option maxRecDepth 100000 in
theorem jl_9 : wat 1529 = some (Cond.fieldLink "java/lang/String" 9 "java/lang/String" "value" "[B") := by decide +kernel
set_option maxRecDepth 100000 in
theorem jl_1053 : wat 436 = some (Cond.fieldLink "java/lang/String" 1053 "jdk/internal/util/Preconditions" "SIOOBE_FORMATTER" "Ljava/util/function/BiFunction;") := by decide +kernel
set_option maxRecDepth 100000 in
theorem jm_coder : wat 416 = some (Cond.methodLink "java/lang/String" 335 jY_coder) := by decide +kernel
set_option maxRecDepth 100000 in
theorem jm_lat : wat 426 = some (Cond.methodLink "java/lang/String" 492 jY_lat) := by decide +kernel
set_option maxRecDepth 100000 in
theorem jm_lch : wat 430 = some (Cond.methodLink "java/lang/String" 495 jY_lch) := by decide +kernel
set_option maxRecDepth 100000 in
theorem jm_cix : wat 433 = some (Cond.methodLink "java/lang/StringLatin1" 9 jY_cix) := by decide +kernel
set_option maxRecDepth 100000 in
theorem jm_pix : wat 438 = some (Cond.methodLink "java/lang/String" 1059 jY_pix) := by decide +kernel
set_option maxRecDepth 100000 in
theorem ji_coder : wat 417 = some (Cond.instanceMethod jY_coder) := by decide +kernel
set_option maxRecDepth 100000 in
theorem js_coder : wat 418 = some (Cond.selects "java/lang/String" jY_coder jY_coder) := by decide +kernel
set_option maxRecDepth 100000 in
theorem ji_lat : wat 427 = some (Cond.instanceMethod jY_lat) := by decide +kernel
set_option maxRecDepth 100000 in
theorem js_lat : wat 428 = some (Cond.selects "java/lang/String" jY_lat jY_lat) := by decide +kernel
set_option maxRecDepth 100000 in
theorem ji_len : wat 413 = some (Cond.instanceMethod jY_len) := by decide +kernel
set_option maxRecDepth 100000 in
theorem js_len : wat 414 = some (Cond.selects "java/lang/String" jY_len jY_len) := by decide +kernel
set_option maxRecDepth 100000 in
theorem ji_chr : wat 423 = some (Cond.instanceMethod jY_chr) := by decide +kernel
set_option maxRecDepth 100000 in
theorem js_chr : wat 424 = some (Cond.selects "java/lang/String" jY_chr jY_chr) := by decide +kernel
set_option maxRecDepth 100000 in
theorem jt_lch : wat 431 = some (Cond.static jY_lch) := by decide +kernel
set_option maxRecDepth 100000 in
theorem jt_cix : wat 434 = some (Cond.static jY_cix) := by decide +kernel
set_option maxRecDepth 100000 in
theorem jt_pix : wat 439 = some (Cond.static jY_pix) := by decide +kernel
set_option maxRecDepth 100000 in
theorem jm_len : wat 412 = some (Cond.methodLink (cnm slx.1) slx.2.1 jY_len) := by decide +kernel
set_option maxRecDepth 100000 in
theorem jm_chr : wat 422 = some (Cond.methodLink (cnm slx.1) slx.2.2 jY_chr) := by decide +kernel
set_option maxRecDepth 100000 in
theorem jn_0 : wat 136 = some (Cond.initialized "java/lang/String") := by decide +kernel
set_option maxRecDepth 100000 in
theorem jn_1 : wat 137 = some (Cond.initialized "java/lang/StringLatin1") := by decide +kernel
set_option maxRecDepth 100000 in
theorem jn_3 : wat 138 = some (Cond.initialized "jdk/internal/util/Preconditions") := by decide +kernel
/-- what is known of the two constants and of the statics that their methods read -/
def SP (adK adV : Nat → Nat) (A : Nat → Prop) (U : State) : Prop := vk_S 2 sLen sByt adK adV A U U.heap ∧ va_Z "java/lang/String" "COMPACT_STRINGS" "Z" (.int 1) A U U.heap ∧ ∃ v, (v = .null ∨ ∃ a, v = .ref a) ∧ va_Z "jdk/internal/util/Preconditions" "SIOOBE_FORMATTER" "Ljava/util/function/BiFunction;" v A U U.heap
theorem SP.moved {adK adV : Nat → Nat} {A : Nat → Prop} {u U : State} (h : SP adK adV A u) (hh : U.heap = u.heap) (hvm : u.vm.Alike U.vm) : SP adK adV A U := by
  obtain ⟨h1, h2, v, h3, h4⟩ := h
  unfold SP
  rw [hh]
  exact ⟨h1.moved hvm, h2.moved hvm, v, h3, h4.moved hvm⟩
def Qcs (r : Option Value) : Array Value → State → Outcome → State → Prop := fun _ st oc t => oc = .returned r ∧ t.heap = st.heap
theorem SP_blind {adK adV : Nat → Nat} {A : Nat → Prop} {as : List Value} : FrameBlind (va_Pc as (SP adK adV A)) := by
  intro a U g mk h
  exact ⟨h.1, h.2.moved (u := U) (U := U.calling g mk a) rfl (Vm.Alike.refl U.vm)⟩
section JS
variable {p : Program} {l : Launch} {e : Env} {R : Room} {s : State} {m : MethodId} {args : Array Value} {below : List Frame} {meth : Method} {c : Code} {H : Heap} {locs : List Loc} {cells slots : Nat} {Q : State → Prop} {pc : Nat} {ls : Array Slot} {st0 rest : List Value} {r : Option Value} {a : Array Value}
theorem callP (hr : va_Run p l e R s m args below meth c H locs cells slots 0 0 (F0 m pc ls st0) rest (Qcs r a) (fun _ => False)) (k : W p l e R s m args below meth c H locs cells slots Q (F0 m (pc + 3) ls (r.toList ++ rest))) : W p l e R s m args below meth c H locs cells slots Q (F0 m pc ls st0) := by
  intro T hT X
  obtain ⟨v, st₀, t, T', L, h0, X', hL, e1, e2, ⟨hv, hh⟩, st⟩ := hr T hT X
  have hLn : L = [] := by
    cases L with
    | nil => rfl
    | cons q l => exact (hL q List.mem_cons_self).elim
  subst hLn
  cases hv
  rw [List.append_nil] at X'
  obtain ⟨t2, a1, b1⟩ := k T' (by rw [e1, hh]; exact h0) X'
  exact ⟨t2, st t2 a1, b1⟩
end JS
set_option maxHeartbeats 4000000 in
theorem k_coder (l : Launch) {adK adV : Nat → Nat} {A : Nat → Prop} {i : Nat} (hi : i < 2) : Met l jY_coder (Cond.code jY_coder prog_15_method_152_code 1 (some .byte) :: gtbl) (mrm 0 0 0) (va_Pc [.ref (adK i)] (SP adK adV A)) (Qcs (some (.int 0))) 0 0 (fun _ => False) := by
  refine Met.ofW (cc := prog_15_method_152_code) (maxL := 1) (ret := some .byte) (by decide) rfl ?_
  intro p e s m args below meth c s₁ B hml hv
  obtain ⟨rfl, hSP⟩ := hv
  obtain ⟨hSt, hZ, v0, hv0, hZ2⟩ := id hSP
  have hx := B.exec
  have hb := B.bytes
  have hr := B.returns
  have hts1 := atoms_spec (ws := Cond.code jY_coder prog_15_method_152_code 1 (some .byte) :: gtbl) B.pre
  have hts : ∀ w ∈ gtbl, w.before _ s = true := fun w hw => hts1 w (List.mem_cons_of_mem _ hw)
  have hown : s.vm.findClass "java/lang/String" = some m.cls := findClass_of_methodNamed B.named
  have hlocks := B.notSynchronized
  have hS : va_S A s.heap s.heap [] := va_S.rf
  have hl := lv_entry ([.ref (adK i)]) (n := 1) (Nat.le_of_ble_eq_true rfl)
  rw [lg_entry_eq]
  generalize (lg_sl ([.ref (adK i)]) ++ List.replicate (1 - (lg_sl ([.ref (adK i)])).length) Slot.unset).toArray = ls at hl ⊢
  have hl : lv_has ls 1 [(0, .ref (adK i))] := hl
  refine va_gets hx hb hZ hS hown (hts _ (in_g (wat_in jl_38) rfl)) (fun _ h => h) dj_coder_0 ?_
  refine lv_if_eq (tgt := 13) hx hb dj_coder_3 (by decide) (fun q => absurd q (by decide)) (fun _ => ?_)
  refine lv_aload_n hx hb dj_coder_6 rfl (lv_at hl 0 rfl) ?_
  refine vk_getf hx hb (hSt.1 i hi).2.1 hS hown (hts _ (in_g (wat_in jl_15) rfl)) (fun _ h => h) dj_coder_7 ?_
  refine lv_goto (tgt := 14) hx hb dj_coder_10 (by decide) ?_
  exact W.zret hx hb hr rfl (fun t ht hW => ⟨rfl, ht⟩) (fun q hq => by cases hq) dj_coder_14
set_option maxHeartbeats 4000000 in
theorem k_lat (l : Launch) {adK adV : Nat → Nat} {A : Nat → Prop} {i : Nat} (hi : i < 2) : Met l jY_lat (Cond.code jY_lat prog_15_method_154_code 1 (some .boolean) :: gtbl) (mrm 0 0 0) (va_Pc [.ref (adK i)] (SP adK adV A)) (Qcs (some (.int 1))) 0 0 (fun _ => False) := by
  refine Met.ofW (cc := prog_15_method_154_code) (maxL := 1) (ret := some .boolean) (by decide) rfl ?_
  intro p e s m args below meth c s₁ B hml hv
  obtain ⟨rfl, hSP⟩ := hv
  obtain ⟨hSt, hZ, v0, hv0, hZ2⟩ := id hSP
  have hx := B.exec
  have hb := B.bytes
  have hr := B.returns
  have hts1 := atoms_spec (ws := Cond.code jY_lat prog_15_method_154_code 1 (some .boolean) :: gtbl) B.pre
  have hts : ∀ w ∈ gtbl, w.before _ s = true := fun w hw => hts1 w (List.mem_cons_of_mem _ hw)
  have hown : s.vm.findClass "java/lang/String" = some m.cls := findClass_of_methodNamed B.named
  have hlocks := B.notSynchronized
  have hS : va_S A s.heap s.heap [] := va_S.rf
  have hl := lv_entry ([.ref (adK i)]) (n := 1) (Nat.le_of_ble_eq_true rfl)
  rw [lg_entry_eq]
  generalize (lg_sl ([.ref (adK i)]) ++ List.replicate (1 - (lg_sl ([.ref (adK i)])).length) Slot.unset).toArray = ls at hl ⊢
  have hl : lv_has ls 1 [(0, .ref (adK i))] := hl
  refine va_gets hx hb hZ hS hown (hts _ (in_g (wat_in jl_38) rfl)) (fun _ h => h) dj_lat_0 ?_
  refine lv_if_eq (tgt := 17) hx hb dj_lat_3 (by decide) (fun q => absurd q (by decide)) (fun _ => ?_)
  refine lv_aload_n hx hb dj_lat_6 rfl (lv_at hl 0 rfl) ?_
  refine vk_getf hx hb (hSt.1 i hi).2.1 hS hown (hts _ (in_g (wat_in jl_15) rfl)) (fun _ h => h) dj_lat_7 ?_
  refine lv_if_ne (tgt := 17) hx hb dj_lat_10 (by decide) (fun q => absurd rfl q) (fun _ => ?_)
  refine lv_iconst (v := 1) hx hb dj_lat_13 (by decide) ?_
  refine lv_goto (tgt := 18) hx hb dj_lat_14 (by decide) ?_
  exact W.zret hx hb hr rfl (fun t ht hW => ⟨rfl, ht⟩) (fun q hq => by cases hq) dj_lat_18
set_option maxHeartbeats 4000000 in
theorem k_len (l : Launch) {adK adV : Nat → Nat} {A : Nat → Prop} {i : Nat} (hi : i < 2) : Met l jY_len (Cond.code jY_len prog_15_method_54_code 1 (some .int) :: gtbl) (mrm 1 0 0) (va_Pc [.ref (adK i)] (SP adK adV A)) (Qcs (some (.int (Int32.ofNat (sLen.getD i 0) >>> ((0 : Int32) &&& 31))))) 0 0 (fun _ => False) := by
  refine Met.ofW (cc := prog_15_method_54_code) (maxL := 1) (ret := some .int) (by decide) rfl ?_
  intro p e s m args below meth c s₁ B hml hv
  obtain ⟨rfl, hSP⟩ := hv
  obtain ⟨hSt, hZ, v0, hv0, hZ2⟩ := id hSP
  have hx := B.exec
  have hb := B.bytes
  have hr := B.returns
  have hts1 := atoms_spec (ws := Cond.code jY_len prog_15_method_54_code 1 (some .int) :: gtbl) B.pre
  have hts : ∀ w ∈ gtbl, w.before _ s = true := fun w hw => hts1 w (List.mem_cons_of_mem _ hw)
  have hown : s.vm.findClass "java/lang/String" = some m.cls := findClass_of_methodNamed B.named
  have hlocks := B.notSynchronized
  have hS : va_S A s.heap s.heap [] := va_S.rf
  have hl := lv_entry ([.ref (adK i)]) (n := 1) (Nat.le_of_ble_eq_true rfl)
  rw [lg_entry_eq]
  generalize (lg_sl ([.ref (adK i)]) ++ List.replicate (1 - (lg_sl ([.ref (adK i)])).length) Slot.unset).toArray = ls at hl ⊢
  have hl : lv_has ls 1 [(0, .ref (adK i))] := hl
  refine lv_aload_n hx hb dj_len_0 rfl (lv_at hl 0 rfl) ?_
  refine vk_getf hx hb (hSt.1 i hi).2.2.1 hS hown (hts _ (in_g (wat_in jl_9) rfl)) (fun _ h => h) dj_len_1 ?_
  refine va_tlen hx hb (hSt.1 i hi).2.2.2 hS rfl dj_len_4 ?_
  refine lv_aload_n hx hb dj_len_5 rfl (lv_at hl 0 rfl) ?_
  refine callP (r := some (.int 0)) (rest := [.int (Int32.ofNat (sLen.getD i 0))]) (a := (Value.ref (adK i) :: []).toArray) (va_runV (As := []) (C := "java/lang/String") (b := adK i) ⟨hx, hb, hml, hown, hts⟩ (k_coder l (adV := adV) (A := A) hi) ⟨callB_of 0 hts (gdI (in_g (wat_in jw_coder) rfl)) rfl rfl rfl (hts _ (in_g (wat_in jn_0) rfl)) (hts _ (in_g (wat_in jm_coder) rfl)) (by decide +kernel) ⟨Nat.le_refl _, by decide⟩, (hts _ (in_g (wat_in ji_coder) rfl)), (hts _ (in_g (wat_in js_coder) rfl))⟩ ⟨SP_blind, vk_recv hSt hi hS, fun U hU hW => ⟨rfl, hSP.moved hU hW.alike⟩⟩ rfl rfl hl.1 rfl (lv_room (Nat.le_of_ble_eq_true rfl)) dj_len_6 ⟨Nat.le_refl _, Nat.le_refl _⟩) ?_
  refine lv_ishr hx hb dj_len_9 ?_
  exact W.iret hx hb hr (fun t ht hW => ⟨rfl, ht⟩) (fun q hq => by cases hq) dj_len_10
set_option maxHeartbeats 4000000 in
theorem k_pix (l : Launch) {adK adV : Nat → Nat} {A : Nat → Prop} {x n : Int32} {v : Value} (hvv : v = .null ∨ ∃ a, v = .ref a) (h0 : ¬ x < 0) (h1 : x < n) : Met l jY_pix (Cond.code jY_pix prog_18_method_11_code 3 (some .int) :: gtbl) (mrm 0 0 0) (va_Pc [.int x, .int n, v] (SP adK adV A)) (Qcs (some (.int x))) 0 0 (fun _ => False) := by
  refine Met.ofW (cc := prog_18_method_11_code) (maxL := 3) (ret := some .int) (by decide) rfl ?_
  intro p e s m args below meth c s₁ B hml hv
  obtain ⟨rfl, hSP⟩ := hv
  obtain ⟨hSt, hZ, v0, hv0, hZ2⟩ := id hSP
  have hx := B.exec
  have hb := B.bytes
  have hr := B.returns
  have hts1 := atoms_spec (ws := Cond.code jY_pix prog_18_method_11_code 3 (some .int) :: gtbl) B.pre
  have hts : ∀ w ∈ gtbl, w.before _ s = true := fun w hw => hts1 w (List.mem_cons_of_mem _ hw)
  have hown : s.vm.findClass "jdk/internal/util/Preconditions" = some m.cls := findClass_of_methodNamed B.named
  have hlocks := B.notSynchronized
  have hS : va_S A s.heap s.heap [] := va_S.rf
  have hlz : (lg_sl ([.int x, .int n, v] : List Value)).length ≤ 3 := by rcases hvv with rfl | ⟨a, rfl⟩ <;> exact Nat.le_of_ble_eq_true rfl
  have hl := lv_entry ([.int x, .int n, v]) (n := 3) hlz
  rw [lg_entry_eq]
  generalize (lg_sl ([.int x, .int n, v]) ++ List.replicate (3 - (lg_sl ([.int x, .int n, v])).length) Slot.unset).toArray = ls at hl ⊢
  have hl : lv_has ls 3 (lv_args 0 [.int x, .int n, v]) := hl
  have hl : lv_has ls 3 [(0, .int x), (1, .int n), (2, v)] := hl
  refine lv_iload_n hx hb dj_pix_0 rfl (lv_at hl 0 rfl) ?_
  refine lv_if_lt (tgt := 9) hx hb dj_pix_1 (by decide) (fun q => absurd q h0) (fun _ => ?_)
  refine lv_iload_n hx hb dj_pix_4 rfl (lv_at hl 0 rfl) ?_
  refine lv_iload_n hx hb dj_pix_5 rfl (lv_at hl 1 rfl) ?_
  refine lv_icmp_lt (tgt := 16) hx hb dj_pix_6 (by decide) (fun _ => ?_) (fun q => absurd h1 q)
  refine lv_iload_n hx hb dj_pix_16 rfl (lv_at hl 0 rfl) ?_
  exact W.iret hx hb hr (fun t ht hW => ⟨rfl, ht⟩) (fun q hq => by cases hq) dj_pix_17
set_option maxHeartbeats 4000000 in
theorem k_cix (l : Launch) {adK adV : Nat → Nat} {A : Nat → Prop} {x n : Int32} (h0 : ¬ x < 0) (h1 : x < n) : Met l jY_cix (Cond.code jY_cix prog_15_method_155_code 2 (none) :: gtbl) (mrm 1 0 0) (va_Pc [.int x, .int n] (SP adK adV A)) (Qcs (none)) 0 0 (fun _ => False) := by
  refine Met.ofW (cc := prog_15_method_155_code) (maxL := 2) (ret := none) (by decide) rfl ?_
  intro p e s m args below meth c s₁ B hml hv
  obtain ⟨rfl, hSP⟩ := hv
  obtain ⟨hSt, hZ, v0, hv0, hZ2⟩ := id hSP
  have hx := B.exec
  have hb := B.bytes
  have hr := B.returns
  have hts1 := atoms_spec (ws := Cond.code jY_cix prog_15_method_155_code 2 (none) :: gtbl) B.pre
  have hts : ∀ w ∈ gtbl, w.before _ s = true := fun w hw => hts1 w (List.mem_cons_of_mem _ hw)
  have hown : s.vm.findClass "java/lang/String" = some m.cls := findClass_of_methodNamed B.named
  have hlocks := B.notSynchronized
  have hS : va_S A s.heap s.heap [] := va_S.rf
  have hl := lv_entry ([.int x, .int n]) (n := 2) (Nat.le_of_ble_eq_true rfl)
  rw [lg_entry_eq]
  generalize (lg_sl ([.int x, .int n]) ++ List.replicate (2 - (lg_sl ([.int x, .int n])).length) Slot.unset).toArray = ls at hl ⊢
  have hl : lv_has ls 2 [(0, .int x), (1, .int n)] := hl
  refine lv_iload_n hx hb dj_cix_0 rfl (lv_at hl 0 rfl) ?_
  refine lv_iload_n hx hb dj_cix_1 rfl (lv_at hl 1 rfl) ?_
  refine va_gets hx hb hZ2 hS hown (hts _ (in_g (wat_in jl_1053) rfl)) (fun _ h => h) dj_cix_2 ?_
  refine callP (r := some (.int x)) (rest := []) (a := ([.int x, .int n, v0] : List Value).toArray) (va_runS (As := [.int x, .int n, v0]) ⟨hx, hb, hml, hown, hts⟩ (k_pix l (adK := adK) (adV := adV) (A := A) hv0 h0 h1) ⟨callB_of 3 hts (gdI (in_g (wat_in jw_pix) rfl)) rfl rfl rfl (hts _ (in_g (wat_in jn_3) rfl)) (hts _ (in_g (wat_in jm_pix) rfl)) (by decide +kernel) ⟨by decide, by decide⟩, (hts _ (in_g (wat_in jt_pix) rfl))⟩ ⟨SP_blind, fun U hU hW => ⟨rfl, hSP.moved hU hW.alike⟩⟩ rfl rfl hl.1 rfl (lv_room (Nat.le_of_ble_eq_true rfl)) dj_cix_5 ⟨Nat.le_refl _, Nat.le_refl _⟩) ?_
  refine lv_pop hx hb dj_cix_8 rfl ?_
  exact W.vret hx hb hr (fun t ht hW => ⟨rfl, ht⟩) (fun q hq => by cases hq) dj_cix_9
set_option maxHeartbeats 4000000 in
theorem k_lch (l : Launch) {adK adV : Nat → Nat} {A : Nat → Prop} {i : Nat} (hi : i < 2) {x : Int32} (h0 : vp_in x (sLen.getD i 0)) : Met l jY_lch (Cond.code jY_lch prog_16_method_2_code 2 (some .char) :: gtbl) (mrm 2 0 0) (va_Pc [.ref (adV i), .int x] (SP adK adV A)) (Qcs (some (.int (sch i x)))) 0 0 (fun _ => False) := by
  refine Met.ofW (cc := prog_16_method_2_code) (maxL := 2) (ret := some .char) (by decide) rfl ?_
  intro p e s m args below meth c s₁ B hml hv
  obtain ⟨rfl, hSP⟩ := hv
  obtain ⟨hSt, hZ, v0, hv0, hZ2⟩ := id hSP
  have hx := B.exec
  have hb := B.bytes
  have hr := B.returns
  have hts1 := atoms_spec (ws := Cond.code jY_lch prog_16_method_2_code 2 (some .char) :: gtbl) B.pre
  have hts : ∀ w ∈ gtbl, w.before _ s = true := fun w hw => hts1 w (List.mem_cons_of_mem _ hw)
  have hown : s.vm.findClass "java/lang/StringLatin1" = some m.cls := findClass_of_methodNamed B.named
  have hlocks := B.notSynchronized
  have hS : va_S A s.heap s.heap [] := va_S.rf
  have hl := lv_entry ([.ref (adV i), .int x]) (n := 2) (Nat.le_of_ble_eq_true rfl)
  rw [lg_entry_eq]
  generalize (lg_sl ([.ref (adV i), .int x]) ++ List.replicate (2 - (lg_sl ([.ref (adV i), .int x])).length) Slot.unset).toArray = ls at hl ⊢
  have hl : lv_has ls 2 [(0, .ref (adV i)), (1, .int x)] := hl
  have hLn : sLen.getD i 0 < 1000 := by rcases (show i = 0 ∨ i = 1 by omega) with rfl | rfl <;> decide
  have hx0 : ¬ x < 0 := fun q => h0 (Or.inl q)
  have hx1 : x < Int32.ofNat (sLen.getD i 0) := by
    obtain ⟨j, hj, rfl⟩ := vp_in_of h0 (by omega)
    exact nI_lt hj (by omega)
  refine lv_iload_n hx hb dj_lch_0 rfl (lv_at hl 1 rfl) ?_
  refine lv_aload_n hx hb dj_lch_1 rfl (lv_at hl 0 rfl) ?_
  refine va_tlen hx hb (hSt.1 i hi).2.2.2 hS rfl dj_lch_2 ?_
  refine callP (r := none) (rest := []) (a := ([.int x, .int (Int32.ofNat (sLen.getD i 0))] : List Value).toArray) (va_runS (As := [.int x, .int (Int32.ofNat (sLen.getD i 0))]) ⟨hx, hb, hml, hown, hts⟩ (k_cix l (adK := adK) (adV := adV) (A := A) hx0 hx1) ⟨callB_of 2 hts (gdI (in_g (wat_in jw_cix) rfl)) rfl rfl rfl (hts _ (in_g (wat_in jn_0) rfl)) (hts _ (in_g (wat_in jm_cix) rfl)) (by decide +kernel) ⟨by decide, by decide⟩, (hts _ (in_g (wat_in jt_cix) rfl))⟩ ⟨SP_blind, fun U hU hW => ⟨rfl, hSP.moved hU hW.alike⟩⟩ rfl rfl hl.1 rfl (lv_room (Nat.le_of_ble_eq_true rfl)) dj_lch_3 ⟨Nat.le_refl _, Nat.le_refl _⟩) ?_
  refine lv_aload_n hx hb dj_lch_6 rfl (lv_at hl 0 rfl) ?_
  refine lv_iload_n hx hb dj_lch_7 rfl (lv_at hl 1 rfl) ?_
  refine va_tb hx hb (hSt.1 i hi).2.2.2 hS h0 rfl dj_lch_8 ?_
  refine lv_sipush (v := 255) hx hb dj_lch_9 (by decide) ?_
  refine lv_iand hx hb dj_lch_12 ?_
  refine lv_i2c hx hb dj_lch_13 rfl ?_
  exact W.zret hx hb hr (pk_nc _) (fun t ht hW => ⟨rfl, ht⟩) (fun q hq => by cases hq) dj_lch_14
set_option maxHeartbeats 4000000 in
theorem k_chr (l : Launch) {adK adV : Nat → Nat} {A : Nat → Prop} {i : Nat} (hi : i < 2) {x : Int32} (h0 : vp_in x (sLen.getD i 0)) : Met l jY_chr (Cond.code jY_chr prog_15_method_56_code 2 (some .char) :: gtbl) (mrm 3 0 0) (va_Pc [.ref (adK i), .int x] (SP adK adV A)) (Qcs (some (.int (sch i x)))) 0 0 (fun _ => False) := by
  refine Met.ofW (cc := prog_15_method_56_code) (maxL := 2) (ret := some .char) (by decide) rfl ?_
  intro p e s m args below meth c s₁ B hml hv
  obtain ⟨rfl, hSP⟩ := hv
  obtain ⟨hSt, hZ, v0, hv0, hZ2⟩ := id hSP
  have hx := B.exec
  have hb := B.bytes
  have hr := B.returns
  have hts1 := atoms_spec (ws := Cond.code jY_chr prog_15_method_56_code 2 (some .char) :: gtbl) B.pre
  have hts : ∀ w ∈ gtbl, w.before _ s = true := fun w hw => hts1 w (List.mem_cons_of_mem _ hw)
  have hown : s.vm.findClass "java/lang/String" = some m.cls := findClass_of_methodNamed B.named
  have hlocks := B.notSynchronized
  have hS : va_S A s.heap s.heap [] := va_S.rf
  have hl := lv_entry ([.ref (adK i), .int x]) (n := 2) (Nat.le_of_ble_eq_true rfl)
  rw [lg_entry_eq]
  generalize (lg_sl ([.ref (adK i), .int x]) ++ List.replicate (2 - (lg_sl ([.ref (adK i), .int x])).length) Slot.unset).toArray = ls at hl ⊢
  have hl : lv_has ls 2 [(0, .ref (adK i)), (1, .int x)] := hl
  refine lv_aload_n hx hb dj_chr_0 rfl (lv_at hl 0 rfl) ?_
  refine callP (r := some (.int 1)) (rest := []) (a := (Value.ref (adK i) :: []).toArray) (va_runV (As := []) (C := "java/lang/String") (b := adK i) ⟨hx, hb, hml, hown, hts⟩ (k_lat l (adV := adV) (A := A) hi) ⟨callB_of 0 hts (gdI (in_g (wat_in jw_lat) rfl)) rfl rfl rfl (hts _ (in_g (wat_in jn_0) rfl)) (hts _ (in_g (wat_in jm_lat) rfl)) (by decide +kernel) ⟨by decide, by decide⟩, (hts _ (in_g (wat_in ji_lat) rfl)), (hts _ (in_g (wat_in js_lat) rfl))⟩ ⟨SP_blind, vk_recv hSt hi hS, fun U hU hW => ⟨rfl, hSP.moved hU hW.alike⟩⟩ rfl rfl hl.1 rfl (lv_room (Nat.le_of_ble_eq_true rfl)) dj_chr_1 ⟨Nat.le_refl _, Nat.le_refl _⟩) ?_
  refine lv_if_eq (tgt := 16) hx hb dj_chr_4 (by decide) (fun q => absurd q (by decide)) (fun _ => ?_)
  refine lv_aload_n hx hb dj_chr_7 rfl (lv_at hl 0 rfl) ?_
  refine vk_getf hx hb (hSt.1 i hi).2.2.1 hS hown (hts _ (in_g (wat_in jl_9) rfl)) (fun _ h => h) dj_chr_8 ?_
  refine lv_iload_n hx hb dj_chr_11 rfl (lv_at hl 1 rfl) ?_
  refine callP (r := some (.int (sch i x))) (rest := []) (a := ([.ref (adV i), .int x] : List Value).toArray) (va_runS (As := [.ref (adV i), .int x]) ⟨hx, hb, hml, hown, hts⟩ (k_lch l (adK := adK) (adV := adV) (A := A) hi h0) ⟨callB_of 2 hts (gdI (in_g (wat_in jw_lch) rfl)) rfl rfl rfl (hts _ (in_g (wat_in jn_1) rfl)) (hts _ (in_g (wat_in jm_lch) rfl)) (by decide +kernel) ⟨by decide, by decide⟩, (hts _ (in_g (wat_in jt_lch) rfl))⟩ ⟨SP_blind, fun U hU hW => ⟨rfl, hSP.moved hU hW.alike⟩⟩ rfl rfl hl.1 rfl (lv_room (Nat.le_of_ble_eq_true rfl)) dj_chr_12 ⟨Nat.le_refl _, Nat.le_refl _⟩) ?_
  exact W.zret hx hb hr (pk_nc _) (fun t ht hW => ⟨rfl, ht⟩) (fun q hq => by cases hq) dj_chr_15
/-- the same by the small machine's names -/
def SPx (ad : Nat → Nat) (A : Nat → Prop) (s : State) : Prop := SP (fun i => ad (1000001 + i)) (fun i => ad (1000003 + i)) A s ∧ vk_R (cnm 8) 58 "mirrors" (ad 1000001) s ∧ vk_R (cnm 8) 82 "never" (ad 1000002) s
theorem SPx_eq {ad ad' : Nat → Nat} {A : Nat → Prop} {s : State} (h : ∀ k, 1000000 ≤ k → ad' k = ad k) (hx : SPx ad A s) : SPx ad' A s := by
  obtain ⟨h1, h2, h3⟩ := hx
  have e1 : (fun i => ad' (1000001 + i)) = (fun i => ad (1000001 + i)) := funext (fun i => h _ (by omega))
  have e2 : (fun i => ad' (1000003 + i)) = (fun i => ad (1000003 + i)) := funext (fun i => h _ (by omega))
  unfold SPx
  rw [e1, e2, h _ (by omega), h _ (by omega)]
  exact ⟨h1, h2, h3⟩
theorem SPx_mag {n : Nat} {ad ad' : Nat → Nat} {A : Nat → Prop} {s : State} (h : mag n ad ad') (hx : SPx ad A s) : SPx ad' A s := SPx_eq (fun k hk => h k (Or.inr hk)) hx
theorem SPx_call {ad : Nat → Nat} {A A1 : Nat → Prop} {s U : State} {H : Heap} {locs : List Loc} (h : SPx ad A s) (hS : va_S A s.heap H locs) (hA : ∀ x, A1 x → A x) (hU : U.heap = H) (hW : s.WarmedH U.vm) : SPx ad A1 U := by
  obtain ⟨⟨h1, h2, v, h3, h4⟩, h5, h6⟩ := h
  refine ⟨?_, h5.warm hW, h6.warm hW⟩
  unfold SP
  rw [hU]
  exact ⟨((h1.kept hS.2.1).moved hW.alike).narrow hA, ((h2.kept hS.2.1).moved hW.alike).narrow hA, v, h3, ((h4.kept hS.2.1).moved hW.alike).narrow hA⟩
theorem SPx_same {ad : Nat → Nat} {A : Nat → Prop} {s U : State} (h : SPx ad A s) (hh : U.heap = s.heap) (hv : U.vm = s.vm) : SPx ad A U := ⟨h.1.moved hh (by rw [hv]; exact Vm.Alike.refl s.vm), vk_R.same hv h.2.1, vk_R.same hv h.2.2⟩
