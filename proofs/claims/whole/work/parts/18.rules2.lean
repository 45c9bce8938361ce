/-! One rule an instruction. -/
section RS
variable {d k pc : Nat} {lv : List (Nat × Value)} {st rr as : List Value} {hp hp1 : List mE} {c w : Nat} {r : mX}
theorem Rn.iload_n {j : Fin 4} {x : Int32} (hi : ins k pc = some (.iload_n j, 1)) (h : alk j lv = some (.int x)) (g : Rn d k (pc + 1) lv (.int x :: st) hp c w r) : Rn d k pc lv st hp c w r :=
  Rn.l hi rfl rfl (by simp only [mloc, mldi, h]; rfl) g
theorem Rn.iload {j : Nat} {x : Int32} (hi : ins k pc = some (.iload j, 2)) (h : alk j lv = some (.int x)) (g : Rn d k (pc + 2) lv (.int x :: st) hp c w r) : Rn d k pc lv st hp c w r :=
  Rn.l hi rfl rfl (by simp only [mloc, mldi, h]; rfl) g
theorem Rn.lload_n {j : Fin 4} {x : Int64} (hi : ins k pc = some (.lload_n j, 1)) (h : alk j lv = some (.long x)) (g : Rn d k (pc + 1) lv (.long x :: st) hp c w r) : Rn d k pc lv st hp c w r :=
  Rn.l hi rfl rfl (by simp only [mloc, mldl, h]; rfl) g
theorem Rn.lload {j : Nat} {x : Int64} (hi : ins k pc = some (.lload j, 2)) (h : alk j lv = some (.long x)) (g : Rn d k (pc + 2) lv (.long x :: st) hp c w r) : Rn d k pc lv st hp c w r :=
  Rn.l hi rfl rfl (by simp only [mloc, mldl, h]; rfl) g
theorem Rn.aload_n {j : Fin 4} {x : Nat} (hi : ins k pc = some (.aload_n j, 1)) (h : alk j lv = some (.ref x)) (g : Rn d k (pc + 1) lv (.ref x :: st) hp c w r) : Rn d k pc lv st hp c w r :=
  Rn.l hi rfl rfl (by simp only [mloc, mlda, h]; rfl) g
theorem Rn.aload {j : Nat} {x : Nat} (hi : ins k pc = some (.aload j, 2)) (h : alk j lv = some (.ref x)) (g : Rn d k (pc + 2) lv (.ref x :: st) hp c w r) : Rn d k pc lv st hp c w r :=
  Rn.l hi rfl rfl (by simp only [mloc, mlda, h]; rfl) g
theorem Rn.istore_n {j : Fin 4} {nL : Nat} {x : Int32} (hi : ins k pc = some (.istore_n j, 1)) (hL : mlen k = nL) (hj : (j : Nat) < nL) (g : Rn d k (pc + 1) ((j, .int x) :: lvw j lv) st hp c w r) : Rn d k pc lv (.int x :: st) hp c w r :=
  Rn.l hi hL rfl (by simp only [mloc, msti, if_pos hj]; rfl) g
theorem Rn.istore {j nL : Nat} {x : Int32} (hi : ins k pc = some (.istore j, 2)) (hL : mlen k = nL) (hj : j < nL) (g : Rn d k (pc + 2) ((j, .int x) :: lvw j lv) st hp c w r) : Rn d k pc lv (.int x :: st) hp c w r :=
  Rn.l hi hL rfl (by simp only [mloc, msti, if_pos hj]; rfl) g
theorem Rn.lstore_n {j : Fin 4} {nL : Nat} {x : Int64} (hi : ins k pc = some (.lstore_n j, 1)) (hL : mlen k = nL) (hj : (j : Nat) + 1 < nL) (g : Rn d k (pc + 1) ((j, .long x) :: lvl j lv) st hp c w r) : Rn d k pc lv (.long x :: st) hp c w r :=
  Rn.l hi hL rfl (by simp only [mloc, mstl, if_pos hj]; rfl) g
theorem Rn.lstore {j nL : Nat} {x : Int64} (hi : ins k pc = some (.lstore j, 2)) (hL : mlen k = nL) (hj : j + 1 < nL) (g : Rn d k (pc + 2) ((j, .long x) :: lvl j lv) st hp c w r) : Rn d k pc lv (.long x :: st) hp c w r :=
  Rn.l hi hL rfl (by simp only [mloc, mstl, if_pos hj]; rfl) g
theorem Rn.iinc {j nL : Nat} {n : Int} {x : Int32} (hi : ins k pc = some (.iinc j n, 3)) (hL : mlen k = nL) (hj : j < nL) (h : alk j lv = some (.int x)) (g : Rn d k (pc + 3) ((j, .int (x + Int32.ofInt n)) :: lvw j lv) st hp c w r) : Rn d k pc lv st hp c w r :=
  Rn.l hi hL rfl (by simp only [mloc, minc, h, if_pos hj]; rfl) g
theorem mtg_of {pc t : Nat} {off : Int} (ht : (pc : Int) + off = (t : Int)) : mtg pc off = some t := by
  unfold mtg
  rw [ht, if_pos (by omega)]
  rfl
theorem Rn.goto {t : Nat} {off : Int} (hi : ins k pc = some (.goto off, 3)) (ht : (pc : Int) + off = (t : Int)) (g : Rn d k t lv st hp c w r) : Rn d k pc lv st hp c w r :=
  Rn.j hi rfl (fun _ => rfl) (by simp only [mjmp, mtg_of ht]; rfl) g
theorem Rn.c1t {t : Nat} {off : Int} {cd : Jvm.ClassFile.Cond} {x : Int32} (hi : ins k pc = some (.ifCond cd off, 3)) (ht : (pc : Int) + off = (t : Int)) (h : mc1 cd x = true) (g : Rn d k t lv st hp c w r) : Rn d k pc lv (.int x :: st) hp c w r :=
  Rn.j hi rfl (fun _ => rfl) (by simp only [mjmp, mi1, mif, mtg_of ht, h]; rfl) g
theorem Rn.c1f {t : Nat} {off : Int} {cd : Jvm.ClassFile.Cond} {x : Int32} (hi : ins k pc = some (.ifCond cd off, 3)) (ht : (pc : Int) + off = (t : Int)) (h : ¬ mc1 cd x = true) (g : Rn d k (pc + 3) lv st hp c w r) : Rn d k pc lv (.int x :: st) hp c w r :=
  Rn.j hi rfl (fun _ => rfl) (by simp only [mjmp, mi1, mif, mtg_of ht, h]; rfl) g
theorem Rn.c2t {t : Nat} {off : Int} {cd : Jvm.ClassFile.Cond} {x y : Int32} (hi : ins k pc = some (.if_icmp cd off, 3)) (ht : (pc : Int) + off = (t : Int)) (h : mc2 cd x y = true) (g : Rn d k t lv st hp c w r) : Rn d k pc lv (.int y :: .int x :: st) hp c w r :=
  Rn.j hi rfl (fun _ => rfl) (by simp only [mjmp, mi2, mif, mtg_of ht, h]; rfl) g
theorem Rn.c2f {t : Nat} {off : Int} {cd : Jvm.ClassFile.Cond} {x y : Int32} (hi : ins k pc = some (.if_icmp cd off, 3)) (ht : (pc : Int) + off = (t : Int)) (h : ¬ mc2 cd x y = true) (g : Rn d k (pc + 3) lv st hp c w r) : Rn d k pc lv (.int y :: .int x :: st) hp c w r :=
  Rn.j hi rfl (fun _ => rfl) (by simp only [mjmp, mi2, mif, mtg_of ht, h]; rfl) g
theorem rdI_st {a : Nat} {x y : Int32} (h : rdI hp a x = some y) : miald (.int x :: .ref a :: st) hp = some (.int y :: st) := by
  unfold rdI at h
  split at h
  · rename_i hc
    split at h
    · cases h
    · rename_i hn
      cases h
      simp only [miald, hc, if_neg hn]
  · cases h
theorem rdZ_st {a : Nat} {x y : Int32} (h : rdZ hp a x = some y) : mzald (.int x :: .ref a :: st) hp = some (.int y :: st) := by
  unfold rdZ at h
  split at h
  · rename_i hc
    split at h
    · cases h
    · rename_i hn
      cases h
      simp only [mzald, hc, if_neg hn]
  · cases h
theorem rdJ_st {a : Nat} {x : Int32} {y : Int64} (h : rdJ hp a x = some y) : mlald (.int x :: .ref a :: st) hp = some (.long y :: st) := by
  unfold rdJ at h
  split at h
  · rename_i hc
    split at h
    · cases h
    · rename_i hn
      cases h
      simp only [mlald, hc, if_neg hn]
  · cases h
theorem wrI_st {a : Nat} {x y : Int32} (h : wrI hp a x y = some hp1) : miast (.int y :: .int x :: .ref a :: st) hp = some (st, hp1) ∧ hp1.length = hp.length := by
  unfold wrI at h
  split at h
  · rename_i hc
    split at h
    · cases h
    · rename_i hn
      cases h
      exact ⟨by simp only [miast, hc, if_neg hn], List.length_set⟩
  · cases h
theorem wrZ_st {a : Nat} {x y : Int32} (h : wrZ hp a x y = some hp1) : mzast (.int y :: .int x :: .ref a :: st) hp = some (st, hp1) ∧ hp1.length = hp.length := by
  unfold wrZ at h
  split at h
  · rename_i hc
    split at h
    · cases h
    · rename_i hn
      cases h
      exact ⟨by simp only [mzast, hc, if_neg hn], List.length_set⟩
  · cases h
theorem wrJ_st {a : Nat} {x : Int32} {y : Int64} (h : wrJ hp a x y = some hp1) : mlast (.long y :: .int x :: .ref a :: st) hp = some (st, hp1) ∧ hp1.length = hp.length := by
  unfold wrJ at h
  split at h
  · rename_i hc
    split at h
    · cases h
    · rename_i hn
      cases h
      exact ⟨by simp only [mlast, hc, if_neg hn], List.length_set⟩
  · cases h
theorem Rn.iald {a : Nat} {x y : Int32} (hi : ins k pc = some (.iaload, 1)) (h : rdI hp a x = some y) (g : Rn d k (pc + 1) lv (.int y :: st) hp c w r) : Rn d k pc lv (.int x :: .ref a :: st) hp c w r :=
  Rn.h hi rfl (fun _ => rfl) rfl (by simp only [mhp, rdI_st h]; rfl) g
theorem Rn.zald {a : Nat} {x y : Int32} (hi : ins k pc = some (.baload, 1)) (h : rdZ hp a x = some y) (g : Rn d k (pc + 1) lv (.int y :: st) hp c w r) : Rn d k pc lv (.int x :: .ref a :: st) hp c w r :=
  Rn.h hi rfl (fun _ => rfl) rfl (by simp only [mhp, rdZ_st h]; rfl) g
theorem Rn.lald {a : Nat} {x : Int32} {y : Int64} (hi : ins k pc = some (.laload, 1)) (h : rdJ hp a x = some y) (g : Rn d k (pc + 1) lv (.long y :: st) hp c w r) : Rn d k pc lv (.int x :: .ref a :: st) hp c w r :=
  Rn.h hi rfl (fun _ => rfl) rfl (by simp only [mhp, rdJ_st h]; rfl) g
theorem Rn.iast {a : Nat} {x y : Int32} (hi : ins k pc = some (.iastore, 1)) (h : wrI hp a x y = some hp1) (g : Rn d k (pc + 1) lv st hp1 c w r) : Rn d k pc lv (.int y :: .int x :: .ref a :: st) hp c w r :=
  Rn.h hi rfl (fun _ => rfl) rfl (by simp only [mhp, (wrI_st h).1]; rfl) g
theorem Rn.zast {a : Nat} {x y : Int32} (hi : ins k pc = some (.bastore, 1)) (h : wrZ hp a x y = some hp1) (g : Rn d k (pc + 1) lv st hp1 c w r) : Rn d k pc lv (.int y :: .int x :: .ref a :: st) hp c w r :=
  Rn.h hi rfl (fun _ => rfl) rfl (by simp only [mhp, (wrZ_st h).1]; rfl) g
theorem Rn.last {a : Nat} {x : Int32} {y : Int64} (hi : ins k pc = some (.lastore, 1)) (h : wrJ hp a x y = some hp1) (g : Rn d k (pc + 1) lv st hp1 c w r) : Rn d k pc lv (.long y :: .int x :: .ref a :: st) hp c w r :=
  Rn.h hi rfl (fun _ => rfl) rfl (by simp only [mhp, (wrJ_st h).1]; rfl) g
theorem Rn.alen {a : Nat} {x : Int32} (hi : ins k pc = some (.arraylength, 1)) (h : alnR hp a = some x) (g : Rn d k (pc + 1) lv (.int x :: st) hp c w r) : Rn d k pc lv (.ref a :: st) hp c w r := by
  refine Rn.h (st' := .int x :: st) hi rfl (fun _ => rfl) rfl ?_ g
  have h2 : malen (.ref a :: st) hp = some (.int x :: st) := by
    unfold alnR at h
    unfold malen
    dsimp only
    split at h
    · rename_i hc
      rw [hc]
      try dsimp only
      split at h
      · rename_i hn
        rw [if_pos hn]
        cases h
        rfl
      · cases h
    · cases h
  simp only [mhp, h2]
  rfl
theorem gfv_st {o ix ci f ps a : Nat} {ne : Bool} {v : Value} (ho : mown k = o) (hf : plk o ix flt = some (ne, ci, f, ps)) (h : gfv ci f hp a = some v) : mget k ix (.ref a :: st) hp = some (v :: st) := by
  unfold gfv at h
  unfold mget
  dsimp only
  rw [ho, hf]
  split at h
  · rename_i hc
    rw [hc]
    try dsimp only
    split at h
    · rename_i hn
      rw [if_pos hn, h]
      rfl
    · cases h
  · cases h
theorem Rn.gf {o ix ci f ps a : Nat} {ne : Bool} {v : Value} (hi : ins k pc = some (.getfield ix, 3)) (ho : mown k = o) (hf : plk o ix flt = some (ne, ci, f, ps)) (h : gfv ci f hp a = some v) (g : Rn d k (pc + 3) lv (v :: st) hp c w r) : Rn d k pc lv (.ref a :: st) hp c w r :=
  Rn.h hi rfl (fun _ => rfl) rfl (by simp only [mhp, gfv_st ho hf h]; rfl) g
theorem gfi_v {ci f a : Nat} {x : Int32} (h : gfi ci f hp a = some x) : gfv ci f hp a = some (.int x) := by
  unfold gfi at h
  split at h
  · rename_i hv; cases h; exact hv
  · cases h
theorem gfl_v {ci f a : Nat} {x : Int64} (h : gfl ci f hp a = some x) : gfv ci f hp a = some (.long x) := by
  unfold gfl at h
  split at h
  · rename_i hv; cases h; exact hv
  · cases h
theorem gfr_v {ci f a b : Nat} (h : gfr ci f hp a = some b) : gfv ci f hp a = some (.ref b) ∧ b < hp.length := by
  unfold gfr at h
  split at h
  · rename_i hv
    split at h
    · rename_i hb; cases h; exact ⟨hv, hb⟩
    · cases h
  · cases h
theorem pfv_len {ci f a : Nat} {v : Value} (h : pfv ci f hp a v = some hp1) : hp1.length = hp.length := by
  unfold pfv at h
  split at h
  · split at h
    · cases h
      exact List.length_set
    · cases h
  · cases h
theorem Rn.pf {o ix ci f ps a : Nat} {ne : Bool} {v : Value} {ty : FieldType} (hi : ins k pc = some (.putfield ix, 3)) (ho : mown k = o) (hf : plk o ix flt = some (ne, ci, f, ps)) (hty : mfty ci f = some ty) (hfit : mfit ty v = true) (hfin : mfin ci f = false) (hp0 : ∀ i n, mpure (.putfield i) (v :: .ref a :: st) = some n → False) (h : pfv ci f hp a v = some hp1) (g : Rn d k (pc + 3) lv st hp1 c w r) : Rn d k pc lv (v :: .ref a :: st) hp c w r := by
  refine Rn.h (st' := st) (hp1 := hp1) hi rfl (fun _ => rfl) rfl ?_ g
  have h2 : mput k ix (v :: .ref a :: st) hp = some (st, hp1) := by
    unfold pfv at h
    unfold mput
    dsimp only
    rw [ho, hf]
    split at h
    · rename_i hc
      rw [hc]
      try dsimp only
      rw [hty]
      dsimp only
      split at h
      · rename_i hn
        rw [if_pos ⟨hn.1, hn.2, hfit, fun z => by rw [hfin] at z; cases z⟩]
        cases h
        rfl
      · cases h
    · cases h
  simp only [mhp, h2]
  rfl
theorem Rn.ldc {o ix ps : Nat} {x : Int32} (hi : ins k pc = some (.ldc ix, 2)) (ho : mown k = o) (hf : plk o ix ilt = some (x, ps)) (g : Rn d k (pc + 2) lv (.int x :: st) hp c w r) : Rn d k pc lv st hp c w r :=
  Rn.h hi rfl (fun _ => rfl) rfl (by simp only [mhp, ho, hf]; rfl) g
theorem Rn.ldc2 {o ix ps : Nat} {x : Int64} (hi : ins k pc = some (.ldc2_w ix, 3)) (ho : mown k = o) (hf : plk o ix llt = some (x, ps)) (g : Rn d k (pc + 3) lv (.long x :: st) hp c w r) : Rn d k pc lv st hp c w r :=
  Rn.h hi rfl (fun _ => rfl) rfl (by simp only [mhp, ho, hf]; rfl) g
theorem Rn.iret {x : Int32} (hi : ins k pc = some (.ireturn, 1)) (hr : mret k = some .int) : Rn d k pc lv [.int x] hp c w (some (.int x), hp, c, w) :=
  Rn.e hi rfl (fun _ => rfl) rfl rfl (by simp only [mend, hr]; rfl)
theorem Rn.zret {x : Int32} (hi : ins k pc = some (.ireturn, 1)) (hr : mret k = some .boolean) (hx : x = 0 ∨ x = 1) : Rn d k pc lv [.int x] hp c w (some (.int x), hp, c, w) :=
  Rn.e hi rfl (fun _ => rfl) rfl rfl (by simp only [mend, hr, if_true]; rw [if_pos (Or.inr ⟨trivial, hx⟩)])
theorem Rn.lret {x : Int64} (hi : ins k pc = some (.lreturn, 1)) (hr : mret k = some .long) : Rn d k pc lv [.long x] hp c w (some (.long x), hp, c, w) :=
  Rn.e hi rfl (fun _ => rfl) rfl rfl (by simp only [mend, hr]; rfl)
theorem Rn.vret (hi : ins k pc = some (.return_, 1)) (hr : mret k = none) : Rn d k pc lv [] hp c w (none, hp, c, w) :=
  Rn.e hi rfl (fun _ => rfl) rfl rfl (by simp only [mend, hr]; rfl)
theorem rcv_ok {kd k' a : Nat} {As : List Value} (hk : kd < 2) (h : rcv (mown k') hp a = some ()) : mrcv kd k' (.ref a :: As) hp = true := by
  unfold rcv at h
  unfold mrcv
  rw [if_pos hk]
  dsimp only
  split at h
  · rename_i hc
    rw [hc]
    try dsimp only
    split at h
    · rename_i hn
      rw [hn]
      exact beq_self_eq_true _
    · cases h
  · cases h
/-- a call of an object's method -/
theorem Rn.cv {d' o ix kd k' pl pi ps np c1 w1 a : Nat} {As : List Value} {v : Option Value} {q : mM} (hi : ins k pc = some (.invokevirtual ix, 3)) (ho : mown k = o) (hm : plk o ix mlt = some (kd, k', pl, pi, ps)) (hkd : kd < 2) (hq : mtb[k']? = some q) (hnp : q.2.2.2.2.2.2.2 = np) (hst : st = (Value.ref a :: As).reverse ++ rr) (hla : As.length = np) (hd : d = d' + 1) (hrc : rcv (mown k') hp a = some ()) (hcat : (rr.map fun v => v.category).sum ≤ 8) (ha : (Value.ref a :: As).all (mokv hp.length) = true) (hr : rr.all (mokv hp.length) = true) (hl : lvk hp.length lv) (hlen : (lg_sl (Value.ref a :: As)).length ≤ mlen k') (hrun : Rn d' k' 0 (lv_args 0 (.ref a :: As)) [] hp 0 0 (v, hp1, c1, w1))
    (g : Rn d k (pc + 3) lv (v.toList ++ rr) hp1 (c + c1) (w + w1) r) : Rn d k pc lv st hp c w r := by
  have hl1 : st.length = np + 1 + rr.length := by rw [hst, List.length_append, List.length_reverse, List.length_cons, hla]
  refine Rn.cl (kd := kd) (k' := k') (as := .ref a :: As) (rr := rr) hi rfl (fun _ => rfl) rfl rfl rfl ?_ hd (rcv_ok hkd hrc) hcat ha hr hl hlen hrun g
  simp only [mcl0, ho, hm, hq, hnp]
  rw [if_pos ⟨hkd, by omega⟩]
  have e1 : st.take (np + 1) = (Value.ref a :: As).reverse := by
    rw [hst, List.take_append_of_le_length (by rw [List.length_reverse, List.length_cons, hla]; exact Nat.le_refl _), List.take_of_length_le (by rw [List.length_reverse, List.length_cons, hla]; exact Nat.le_refl _)]
  have e2 : st.drop (np + 1) = rr := by
    rw [hst, List.drop_append_of_le_length (by rw [List.length_reverse, List.length_cons, hla]; exact Nat.le_refl _), List.drop_of_length_le (by rw [List.length_reverse, List.length_cons, hla]; exact Nat.le_refl _)]
    rfl
  rw [e1, e2, List.reverse_reverse]
/-- a call of a static method -/
theorem Rn.cs {d' o ix k' pl pi ps np c1 w1 : Nat} {v : Option Value} {q : mM} (hi : ins k pc = some (.invokestatic ix, 3)) (ho : mown k = o) (hm : plk o ix mlt = some (2, k', pl, pi, ps)) (hq : mtb[k']? = some q) (hnp : q.2.2.2.2.2.2.2 = np) (hst : st = as.reverse ++ rr) (hla : as.length = np) (hd : d = d' + 1) (hcat : (rr.map fun v => v.category).sum ≤ 8) (ha : as.all (mokv hp.length) = true) (hr : rr.all (mokv hp.length) = true) (hl : lvk hp.length lv) (hlen : (lg_sl as).length ≤ mlen k') (hrun : Rn d' k' 0 (lv_args 0 as) [] hp 0 0 (v, hp1, c1, w1))
    (g : Rn d k (pc + 3) lv (v.toList ++ rr) hp1 (c + c1) (w + w1) r) : Rn d k pc lv st hp c w r := by
  have hl1 : st.length = np + rr.length := by rw [hst, List.length_append, List.length_reverse, hla]
  refine Rn.cl (kd := 2) (k' := k') (as := as) (rr := rr) hi rfl (fun _ => rfl) rfl rfl rfl ?_ hd (by unfold mrcv; rw [if_neg (by omega), if_neg (by omega)]) hcat ha hr hl hlen hrun g
  simp only [mcl0, ho, hm, hq, hnp]
  rw [if_pos ⟨trivial, by omega⟩]
  have e1 : st.take np = as.reverse := by
    rw [hst, List.take_append_of_le_length (by rw [List.length_reverse, hla]; exact Nat.le_refl _), List.take_of_length_le (by rw [List.length_reverse, hla]; exact Nat.le_refl _)]
  have e2 : st.drop np = rr := by
    rw [hst, List.drop_append_of_le_length (by rw [List.length_reverse, hla]; exact Nat.le_refl _), List.drop_of_length_le (by rw [List.length_reverse, hla]; exact Nat.le_refl _)]
    rfl
  rw [e1, e2, List.reverse_reverse]
end RS
