theorem mhp_len {k n : Nat} {i : Instr} {st st' : List Value} {hp hp' : List mE} (h : mhp k i st hp = some (st', hp', n)) : hp'.length = hp.length := by
  cases i <;> first | (have h' : (none : Option (List Value × List mE × Nat)) = some (st', hp', n) := h; cases h'; done) | skip
  case putfield ix =>
    obtain ⟨r, hr, he⟩ := Option.map_eq_some_iff.mp h
    cases he
    unfold mput at hr
    split at hr
    case h_2 => cases hr
    split at hr
    case h_2 => cases hr
    split at hr
    case h_2 => cases hr
    split at hr
    case isFalse => cases hr
    cases hr
    exact List.length_set
  case iastore =>
    obtain ⟨r, hr, he⟩ := Option.map_eq_some_iff.mp h
    cases he
    unfold miast at hr
    split at hr
    case h_2 => cases hr
    split at hr
    case h_2 => cases hr
    split at hr
    case isTrue => cases hr
    cases hr
    exact List.length_set
  case bastore =>
    obtain ⟨r, hr, he⟩ := Option.map_eq_some_iff.mp h
    cases he
    unfold mzast at hr
    split at hr
    case h_2 => cases hr
    split at hr
    case h_2 => cases hr
    split at hr
    case isTrue => cases hr
    cases hr
    exact List.length_set
  case lastore =>
    obtain ⟨r, hr, he⟩ := Option.map_eq_some_iff.mp h
    cases he
    unfold mlast at hr
    split at hr
    case h_2 => cases hr
    split at hr
    case h_2 => cases hr
    split at hr
    case isTrue => cases hr
    cases hr
    exact List.length_set
  all_goals
    obtain ⟨r, hr, he⟩ := Option.map_eq_some_iff.mp h
    cases he
    rfl
theorem mcl0_inv {k kd k' : Nat} {i : Instr} {st as rr : List Value} (h : mcl0 k i st = some (kd, k', as, rr)) : ∃ (ix pl pi ps : Nat) (q' : mM), mtb[k']? = some q' ∧ plk (mown k) ix mlt = some (kd, k', pl, pi, ps) ∧ st = as.reverse ++ rr ∧
    ((i = .invokevirtual ix ∧ kd < 2 ∧ as.length = q'.2.2.2.2.2.2.2 + 1) ∨ (i = .invokestatic ix ∧ kd = 2 ∧ as.length = q'.2.2.2.2.2.2.2) ∨ (i = .invokespecial ix ∧ kd = 5 ∧ as.length = q'.2.2.2.2.2.2.2 + 1)) := by
  cases i <;> first | (have h' : (none : Option (Nat × Nat × List Value × List Value)) = some (kd, k', as, rr) := h; cases h'; done) | skip
  case invokevirtual ix =>
    simp only [mcl0] at h
    cases h1 : plk (mown k) ix mlt with
    | none => rw [h1] at h; cases h
    | some x =>
      obtain ⟨kd1, k1, pl, pi, ps⟩ := x
      rw [h1] at h
      dsimp only at h
      cases h2 : mtb[k1]? with
      | none => rw [h2] at h; cases h
      | some q' =>
        rw [h2] at h
        dsimp only at h
        split at h
        case isFalse => cases h
        rename_i hc
        cases h
        exact ⟨ix, pl, pi, ps, q', h2, h1, by rw [List.reverse_reverse, List.take_append_drop], Or.inl ⟨rfl, hc.1, by rw [List.length_reverse, List.length_take]; omega⟩⟩
  case invokestatic ix =>
    simp only [mcl0] at h
    cases h1 : plk (mown k) ix mlt with
    | none => rw [h1] at h; cases h
    | some x =>
      obtain ⟨kd1, k1, pl, pi, ps⟩ := x
      rw [h1] at h
      dsimp only at h
      cases h2 : mtb[k1]? with
      | none => rw [h2] at h; cases h
      | some q' =>
        rw [h2] at h
        dsimp only at h
        split at h
        case isFalse => cases h
        rename_i hc
        cases h
        exact ⟨ix, pl, pi, ps, q', h2, h1, by rw [List.reverse_reverse, List.take_append_drop], Or.inr (Or.inl ⟨rfl, hc.1, by rw [List.length_reverse, List.length_take]; omega⟩)⟩
  case invokespecial ix =>
    simp only [mcl0] at h
    cases h1 : plk (mown k) ix mlt with
    | none => rw [h1] at h; cases h
    | some x =>
      obtain ⟨kd1, k1, pl, pi, ps⟩ := x
      rw [h1] at h
      dsimp only at h
      cases h2 : mtb[k1]? with
      | none => rw [h2] at h; cases h
      | some q' =>
        rw [h2] at h
        dsimp only at h
        split at h
        case isFalse => cases h
        rename_i hc
        cases h
        exact ⟨ix, pl, pi, ps, q', h2, h1, by rw [List.reverse_reverse, List.take_append_drop], Or.inr (Or.inr ⟨rfl, hc.1, by rw [List.length_reverse, List.length_take]; omega⟩)⟩
theorem mobj_inv {k : Nat} {i : Instr} {st rr : List Value} (h : mobj k i st = some rr) : ∃ (ix k' pl pi ps b : Nat), i = .invokespecial ix ∧ plk (mown k) ix mlt = some (6, k', pl, pi, ps) ∧ st = .ref b :: rr ∧ (rr.map fun v => v.category).sum ≤ 8 := by
  unfold mobj at h
  split at h
  · rename_i ix b r1
    cases h1 : plk (mown k) ix mlt with
    | none => rw [h1] at h; cases h
    | some x =>
      obtain ⟨kd1, k1, pl, pi, ps⟩ := x
      rw [h1] at h
      dsimp only at h
      split at h
      case isFalse => cases h
      rename_i hc
      obtain ⟨rfl, hc2⟩ := hc
      cases h
      exact ⟨ix, k1, pl, pi, ps, b, rfl, h1, rfl, hc2⟩
  · cases h
theorem mmn_inv {k : Nat} {i : Instr} {st st' : List Value} (h : mmn k i st = some st') : ∃ (x y : Int32) (r : List Value), i = .invokestatic mnix.2 ∧ mown k = mnix.1 ∧ st = .int y :: .int x :: r ∧ st' = .int (if y < x then y else x) :: r ∧ (r.map fun v => v.category).sum ≤ 8 := by
  unfold mmn at h
  split at h
  · split at h
    · rename_i hc
      obtain ⟨h1, rfl, h3⟩ := hc
      cases h
      exact ⟨_, _, _, rfl, h1, rfl, rfl, h3⟩
    · cases h
  · cases h
theorem msr_inv {k n : Nat} {i : Instr} {st st' : List Value} (h : msr k i st = some (st', n)) :
    (∃ (ix j : Nat), i = .ldc ix ∧ plk (mown k) ix slt = some j ∧ st' = .ref (1000001 + j) :: st ∧ n = 2) ∨
    (∃ (j : Nat) (r : List Value), i = .invokevirtual slx.2.1 ∧ mown k = slx.1 ∧ j < 2 ∧ st = .ref (1000001 + j) :: r ∧ st' = .int (Int32.ofNat (sLen.getD j 0) >>> ((0 : Int32) &&& 31)) :: r ∧ (r.map fun v => v.category).sum ≤ 8 ∧ n = 3) ∨
    (∃ (j : Nat) (x : Int32) (r : List Value), i = .invokevirtual slx.2.2 ∧ mown k = slx.1 ∧ j < 2 ∧ st = .int x :: .ref (1000001 + j) :: r ∧ vp_in x (sLen.getD j 0) ∧ st' = .int (sch j x) :: r ∧ (r.map fun v => v.category).sum ≤ 8 ∧ n = 3) := by
  unfold msr at h
  split at h
  · obtain ⟨j, hj, he⟩ := Option.map_eq_some_iff.mp h
    cases he
    exact Or.inl ⟨_, j, rfl, hj, rfl, rfl⟩
  · split at h
    · rename_i hc
      obtain ⟨h1, rfl, h3, h4⟩ := hc
      cases h
      rcases h3 with rfl | rfl
      · exact Or.inr (Or.inl ⟨0, _, rfl, h1, by omega, rfl, rfl, h4, rfl⟩)
      · exact Or.inr (Or.inl ⟨1, _, rfl, h1, by omega, rfl, rfl, h4, rfl⟩)
    · cases h
  · split at h
    · rename_i hc
      obtain ⟨h1, rfl, h3, h5, h4⟩ := hc
      cases h
      rcases h3 with rfl | rfl
      · exact Or.inr (Or.inr ⟨0, _, _, rfl, h1, by omega, rfl, h5, rfl, h4, rfl⟩)
      · exact Or.inr (Or.inr ⟨1, _, _, rfl, h1, by omega, rfl, h5, rfl, h4, rfl⟩)
    · cases h
  · cases h
theorem slt_ok {o ix j : Nat} (h : plk o ix slt = some j) : (o = 8 ∧ ix = 58 ∧ j = 0) ∨ (o = 8 ∧ ix = 82 ∧ j = 1) := by
  have h1 := plk_mem h
  simp [slt] at h1
  omega
theorem msr_W {p : Program} {l : Launch} {e : Env} {R : Room} {s : State} {m : MethodId} {args : Array Value} {below : List Frame} {meth : Method} {cd : Code} {H : Heap} {locs : List Loc} {c w pc k d n : Nat} {ls : Array Slot} {ad : Nat → Nat} {dC : Nat → ClassId} {dI : Nat → Nat → Nat} {dA : Nat → ClassId} {A : Nat → Prop} {i : Instr} {st st' : List Value} {q : mM} {Q : State → Prop}
    (hcx : mCx p R s m args meth cd k d q dC dI dA) (hd5 : 5 ≤ d) (hd : decode q.2.1 pc = .ok (i, n)) (h : msr k i st = some (st', n)) (hc : c ≤ R.cells) (hw : w ≤ R.slots) (hS : va_S A s.heap H locs) (hSx : SPx ad A s) (hls : ls.size = mlen k)
    (kk : W p l e R s m args below meth cd H locs c w Q (F0 m (pc + n) ls (st'.map (mv ad)))) : W p l e R s m args below meth cd H locs c w Q (F0 m pc ls (st.map (mv ad))) := by
  obtain ⟨hx, hq, hb, hr, hml, hown, hts, hnt, hlk, hin, hK, hfr, hlo⟩ := hcx
  have hmL : mlen k = q.2.2.1 := by unfold mlen; rw [hq]
  rcases msr_inv h with ⟨ix, j, rfl, hj, rfl, rfl⟩ | ⟨j, r, rfl, hko, hj, rfl, rfl, hcat, rfl⟩ | ⟨j, x, r, rfl, hko, hj, rfl, hin2, rfl, hcat, rfl⟩
  · rcases slt_ok hj with ⟨h1, rfl, rfl⟩ | ⟨h1, rfl, rfl⟩
    · rw [h1] at hown
      exact va_ldcS hx hb hown hSx.2.1 hd kk
    · rw [h1] at hown
      exact va_ldcS hx hb hown hSx.2.2 hd kk
  · rw [hko] at hown
    have hSt := hSx.1.1
    refine callP (r := some (.int (Int32.ofNat (sLen.getD j 0) >>> ((0 : Int32) &&& 31)))) (rest := r.map (mv ad)) (a := ([Value.ref (ad (1000001 + j))] : List Value).toArray) (va_runV (As := []) (C := "java/lang/String") (b := ad (1000001 + j)) (nL := q.2.2.1) ⟨hx, hb, hml, hown, hts⟩ (k_len l (adK := fun i => ad (1000001 + i)) (adV := fun i => ad (1000003 + i)) (A := A) hj) ⟨callB_of 0 hts (gdI (in_g (wat_in jw_len) rfl)) rfl rfl rfl (hts _ (in_g (wat_in jn_0) rfl)) (hts _ (in_g (wat_in jm_len) rfl)) (by decide +kernel) ⟨by show 1 + 1 ≤ R.frames; omega, by show 8 + (1 + 11) + 60 * 1 ≤ R.locals; omega⟩, hts _ (in_g (wat_in ji_len) rfl), hts _ (in_g (wat_in js_len) rfl)⟩ ⟨SP_blind, vk_recv (adK := fun i => ad (1000001 + i)) (i := j) hSt hj hS, fun U hU hW => ⟨rfl, (SPx_call hSx hS (fun _ h => h) hU hW).1⟩⟩ rfl rfl (hls.trans hmL) rfl (lv_room (by rw [cat_sum]; exact hcat)) hd ⟨hc, hw⟩) kk
  · rw [hko] at hown
    have hSt := hSx.1.1
    refine callP (r := some (.int (sch j x))) (rest := r.map (mv ad)) (a := ([Value.ref (ad (1000001 + j)), .int x] : List Value).toArray) (va_runV (As := [.int x]) (C := "java/lang/String") (b := ad (1000001 + j)) (nL := q.2.2.1) ⟨hx, hb, hml, hown, hts⟩ (k_chr l (adK := fun i => ad (1000001 + i)) (adV := fun i => ad (1000003 + i)) (A := A) hj hin2) ⟨callB_of 1 hts (gdI (in_g (wat_in jw_chr) rfl)) rfl rfl rfl (hts _ (in_g (wat_in jn_0) rfl)) (hts _ (in_g (wat_in jm_chr) rfl)) (by decide +kernel) ⟨by show 3 + 1 ≤ R.frames; omega, by show 8 + (2 + 11) + 60 * 3 ≤ R.locals; omega⟩, hts _ (in_g (wat_in ji_chr) rfl), hts _ (in_g (wat_in js_chr) rfl)⟩ ⟨SP_blind, vk_recv (adK := fun i => ad (1000001 + i)) (i := j) hSt hj hS, fun U hU hW => ⟨rfl, (SPx_call hSx hS (fun _ h => h) hU hW).1⟩⟩ rfl rfl (hls.trans hmL) rfl (lv_room (by rw [cat_sum]; exact hcat)) hd ⟨hc, hw⟩) kk
theorem mrcv_inv {kd k' : Nat} {as : List Value} {hp : List mE} (hk : kd < 2) (h : mrcv kd k' as hp = true) : ∃ b As fs, as = .ref b :: As ∧ hp[b]? = some (.inr (mown k', fs)) := by
  unfold mrcv at h
  rw [if_pos hk] at h
  split at h
  · rename_i b As
    split at h
    · rename_i ci fs hc
      have h1 : ci = mown k' := eq_of_beq h
      subst h1
      exact ⟨b, As, fs, rfl, hc⟩
    · cases h
  · cases h
theorem mrcv_inv5 {k' : Nat} {as : List Value} {hp : List mE} (h : mrcv 5 k' as hp = true) : ∃ b As, as = .ref b :: As := by
  unfold mrcv at h
  rw [if_neg (by omega), if_pos rfl] at h
  split at h
  · exact ⟨_, _, rfl⟩
  · cases h
theorem mend_W {p : Program} {l : Launch} {e : Env} {R : Room} {s : State} {m : MethodId} {args : Array Value} {below : List Frame} {meth : Method} {cd : Code} {H : Heap} {locs : List Loc} {c w pc k n n0 : Nat} {ls : Array Slot} {ad0 ad : Nat → Nat} {dC : Nat → ClassId} {dI : Nat → Nat → Nat} {dA : Nat → ClassId} {A : Nat → Prop} {i : Instr} {st : List Value} {r : Option Value} {hp : List mE} {cc : ByteArray}
    (hx : p.tables.exec = Jvm.exec) (hb : cd.code = cc) (hr : meth.sig.returnType = mret k) (hlocks : meth.locks = false) (hd : decode cc pc = .ok (i, n)) (h : mend k i n st = some r) (hn0 : n0 ≤ hp.length) (hag : mag n0 ad0 ad) (hP : va_P (dC, dI) mcl (mws dA ad hp) H) (hD : va_D A (mws dA ad hp)) (hS : va_S A s.heap H locs) :
    W p l e R s m args below meth cd H locs c w (MQ below (mQc dC dI dA n0 ad0 A r hp) args s c w A) (F0 m pc ls (st.map (mv ad))) := by
  unfold mend at h
  split at h
  case isFalse => cases h
  rename_i hn
  subst hn
  split at h
  · rename_i v
    split at h
    case isFalse => cases h
    rename_i hv
    cases h
    rcases hv with hv | ⟨hv, hv2⟩
    · exact W.iret hx hb (hr.trans hv) (fun t ht hW => ⟨⟨ad, hag, rfl, by rw [ht]; exact hP, hD, hn0⟩, hS.F ht⟩) hS.2.2 hd
    · exact W.zret (ty := .boolean) hx hb (hr.trans hv) (by rcases hv2 with rfl | rfl <;> rfl) (fun t ht hW => ⟨⟨ad, hag, rfl, by rw [ht]; exact hP, hD, hn0⟩, hS.F ht⟩) hS.2.2 hd
  · rename_i v
    split at h
    case isFalse => cases h
    rename_i hv
    cases h
    exact W.lret hx hb (hr.trans hv) (fun t ht hW => ⟨⟨ad, hag, rfl, by rw [ht]; exact hP, hD, hn0⟩, hS.F ht⟩) hS.2.2 hd
  · rename_i a
    cases hv : mret k with
    | none => rw [hv] at h; cases h
    | some ty =>
      rw [hv] at h
      cases ty <;> first | (cases h; done) | skip
      rename_i nm
      cases h
      exact W.aret (v := .ref (ad a)) hx hb (hr.trans hv) (Or.inl ⟨nm, rfl⟩) (Or.inr ⟨_, rfl⟩) (fun t ht hW => ⟨⟨ad, hag, rfl, by rw [ht]; exact hP, hD, hn0⟩, hS.F ht⟩) hS.2.2 hd
  · split at h
    case isFalse => cases h
    rename_i hv
    cases h
    exact W.vret hx hb (hr.trans hv) (fun t ht hW => ⟨⟨ad, hag, rfl, by rw [ht]; exact hP, hD, hn0⟩, hS.F ht⟩) hS.2.2 hd
  · cases h
theorem mcall_W {p : Program} {l : Launch} {e : Env} {R : Room} {s : State} {m : MethodId} {args : Array Value} {below : List Frame} {meth : Method} {cd : Code} {H : Heap} {locs : List Loc} {c w pc k d' k' kd c1 w1 : Nat} {ls : Array Slot} {ad : Nat → Nat} {dC : Nat → ClassId} {dI : Nat → Nat → Nat} {dA : Nat → ClassId} {A : Nat → Prop} {i : Instr} {st as rr : List Value} {v : Option Value} {hp hp1 : List mE} {q : mM} {Q : State → Prop}
    (hcx : mCx p R s m args meth cd k (d' + 1) q dC dI dA) (hd : decode q.2.1 pc = .ok (i, 3)) (h : mcl0 k i st = some (kd, k', as, rr)) (hrc : mrcv kd k' as hp = true) (hcat : (rr.map fun v => v.category).sum ≤ 8) (hlen : (lg_sl as).length ≤ mlen k') (hs : mSim l dC dI dA d' k' 0 (lv_args 0 as) [] hp 0 0 v hp1 c1 w1)
    (hcl : c + c1 ≤ R.cells) (hsl : w + w1 ≤ R.slots) (hP : va_P (dC, dI) mcl (mws dA ad hp) H) (hD : va_D A (mws dA ad hp)) (hS : va_S A s.heap H locs) (hA : ∀ q, s.heap.size ≤ q → A q) (hSx : SPx ad A s) (hls : ls.size = mlen k)
    (kk : ∀ (ad' : Nat → Nat) (H1 : Heap) (locs1 : List Loc), mag hp.length ad ad' → hp.length ≤ hp1.length → va_P (dC, dI) mcl (mws dA ad' hp1) H1 → va_D A (mws dA ad' hp1) → va_S A s.heap H1 locs1 → W p l e R s m args below meth cd H1 locs1 (c + c1) (w + w1) Q (F0 m (pc + 3) ls ((v.map (mv ad')).toList ++ rr.map (mv ad)))) :
    W p l e R s m args below meth cd H locs c w Q (F0 m pc ls (st.map (mv ad))) := by
  obtain ⟨hx, hq, hb, hr, hml, hown, hts, hnt, hlk, hin, hK, hfr, hlo⟩ := hcx
  obtain ⟨ix, pl, pi, ps, q', hq', hpk, rfl, hkd⟩ := mcl0_inv h
  obtain ⟨k1, k2, k3, k4, k5, k6, k7⟩ := mt_ok hq'
  have hM := met_of hq' hs hlen ad H.size
  have hA1 : ∀ x, va_A (mws dA ad hp) H.size x → A x := by
    intro x hx1
    rcases hx1 with ⟨j, e1, h1⟩ | h1
    · exact hD.2 j _ h1
    · exact hA x (Nat.le_trans hS.1 h1)
  have hmL : mlen k = q.2.2.1 := by unfold mlen; rw [hq]
  have hR1 : (mrm d' c1 w1).frames + 1 ≤ R.frames := hfr
  have hR2 : 8 + (q'.2.2.1 + 11) + (mrm d' c1 w1).locals ≤ R.locals := by
    show 8 + (q'.2.2.1 + 11) + 60 * d' ≤ R.locals
    omega
  have hpre : ∀ U : State, U.heap = H → s.WarmedH U.vm → mPc dC dI dA ad hp as H.size (as.map (mv ad)).toArray U := fun U hU hW => ⟨rfl, by rw [hU], by rw [hU]; exact hP, va_K.moved hW.alike hK, hD.weaken (fun _ _ _ _ => trivial), fun w1 hw1 => nw_warm (nt_is hw1) hW (hnt w1 hw1), SPx_call hSx hS hA1 hU hW⟩
  refine callX (rest := rr.map (mv ad)) (a := (as.map (mv ad)).toArray) (mc := c1) (ms := w1) ?_ hS hA1 kk
  have hroom : 2 * (F0 m pc ls ((as.reverse ++ rr).map (mv ad))).monitorRoom + ((rr.map (mv ad)).map fun v => v.category).sum ≤ 8 := lv_room (by rw [cat_sum]; exact hcat)
  have hstk : ((as.reverse ++ rr).map (mv ad)) = (as.map (mv ad)).reverse ++ rr.map (mv ad) := by rw [List.map_append, List.map_reverse]
  rcases hkd with ⟨rfl, hk2, hna⟩ | ⟨rfl, rfl, hna⟩ | ⟨rfl, rfl, hna⟩
  · obtain ⟨b, As, fs, rfl, hcb⟩ := mrcv_inv hk2 hrc
    have hnA : (As.map (mv ad)).length = q'.2.2.2.2.2.2.2 := by rw [List.length_map]; simpa using hna
    have hst2 : (F0 m pc ls (((Value.ref b :: As).reverse ++ rr).map (mv ad))).stack = (As.map (mv ad)).reverse ++ .ref (ad b) :: rr.map (mv ad) := by
      show ((Value.ref b :: As).reverse ++ rr).map (mv ad) = _
      rw [hstk]
      show (Value.ref (ad b) :: As.map (mv ad)).reverse ++ _ = _
      rw [List.reverse_cons, List.append_assoc]
      rfl
    have hcN : ∃ r, mcl[mown k']? = some r ∧ r.1 = q'.1.cls := by
      have hw := hP b _ (mws_get hcb)
      obtain ⟨r, hr1, -⟩ := hw
      refine ⟨r, hr1, ?_⟩
      rw [k3]
      unfold cnm
      rw [hr1]
    obtain ⟨r1, hr1, hr2⟩ := hcN
    have hrv := va_recv hK hP hr1 (mws_get hcb)
    rw [hr2] at hrv
    have hk3 : kd = 0 ∨ kd = 1 := by omega
    rcases hk3 with rfl | rfl
    · obtain ⟨w1a, w2a, w3a⟩ := ml_ok0 hpk hq'
      exact va_runV (As := As.map (mv ad)) (C := q'.1.cls) ⟨hx, hb, hml, hown, hts⟩ hM ⟨callB_of q'.2.2.2.2.2.2.2 hts (gdI k1) rfl rfl rfl (hts _ k2) (hts _ w1a) ⟨k6.1, k6.2, k4⟩ ⟨hR1, hR2⟩, hts _ w2a, hts _ w3a⟩ ⟨mPc_blind, hrv, hpre⟩ rfl hnA (hls.trans hmL) hst2 hroom hd ⟨hcl, hsl⟩
    · obtain ⟨w1a, w2a, w3a⟩ := ml_ok1 hpk hq'
      exact va_runVN (As := As.map (mv ad)) (C := q'.1.cls) (host := "MirrorRoots") ⟨hx, hb, hml, hown, hts⟩ hM ⟨va_cnB q'.2.2.2.2.2.2.2 hts (gdI k1) rfl rfl rfl (hnt _ w1a) (hts _ k2) ⟨k6.1, k6.2, k4⟩ ⟨hR1, hR2⟩, hts _ w2a, hts _ w3a⟩ ⟨mPc_blind, hrv, hpre⟩ rfl hnA (hls.trans hmL) hst2 hroom hd ⟨hcl, hsl⟩
  · obtain ⟨w1a, w2a⟩ := ml_ok2 hpk hq'
    exact va_runS (As := as.map (mv ad)) ⟨hx, hb, hml, hown, hts⟩ hM ⟨callB_of q'.2.2.2.2.2.2.2 hts (gdI k1) rfl rfl rfl (hts _ k2) (hts _ w1a) ⟨k6.1, k6.2, k4⟩ ⟨hR1, hR2⟩, hts _ w2a⟩ ⟨mPc_blind, hpre⟩ rfl (by rw [List.length_map]; exact hna) (hls.trans hmL) hstk hroom hd ⟨hcl, hsl⟩
  · obtain ⟨w1a, w2a, w3a, w4a⟩ := ml_ok5 hpk hq'
    obtain ⟨b, As, rfl⟩ := mrcv_inv5 hrc
    have hnA : (As.map (mv ad)).length = q'.2.2.2.2.2.2.2 := by rw [List.length_map]; simpa using hna
    have hst2 : (F0 m pc ls (((Value.ref b :: As).reverse ++ rr).map (mv ad))).stack = (As.map (mv ad)).reverse ++ .ref (ad b) :: rr.map (mv ad) := by
      show ((Value.ref b :: As).reverse ++ rr).map (mv ad) = _
      rw [hstk]
      show (Value.ref (ad b) :: As.map (mv ad)).reverse ++ _ = _
      rw [List.reverse_cons, List.append_assoc]
      rfl
    rw [w4a] at hM k1
    exact va_runIN (As := As.map (mv ad)) (host := "MirrorRoots") ⟨hx, hb, hml, hown, hts⟩ hM ⟨va_cnB q'.2.2.2.2.2.2.2 hts (gdI k1) rfl rfl rfl (hnt _ w1a) (hts _ k2) ⟨k6.1, k6.2, k4⟩ ⟨hR1, hR2⟩, w3a, hts _ w2a⟩ ⟨mPc_blind, hpre⟩ rfl hnA (hls.trans hmL) hst2 hroom hd ⟨hcl, hsl⟩
theorem sim (l : Launch) (dC : Nat → ClassId) (dI : Nat → Nat → Nat) (dA : Nat → ClassId) : ∀ (f d k pc : Nat) (lv : List (Nat × Value)) (st : List Value) (hp : List mE) (c w : Nat) (r : Option Value) (hp' : List mE) (c' w' : Nat), exec f d k pc lv st hp c w = some (r, hp', c', w') → (c ≤ c' ∧ w ≤ w') ∧ mSim l dC dI dA d k pc lv st hp c w r hp' c' w' := by
  intro f
  induction f with
  | zero =>
    intro d k pc lv st hp c w r hp' c' w' h
    cases h
  | succ f ih =>
    intro d k pc lv st hp c w r hp' c' w' h
    unfold exec at h
    cases h0 : ins k pc with
    | none => rw [h0] at h; cases h
    | some x =>
    obtain ⟨i, n⟩ := x
    rw [h0] at h
    dsimp only at h
    obtain ⟨q, hq⟩ := ins_in h0
    have hdec := ins_ok hq h0
    cases h1 : mpure i st with
    | some x =>
      obtain ⟨st', n'⟩ := x
      rw [h1] at h
      dsimp only at h
      split at h
      case isFalse => cases h
      rename_i hn
      subst hn
      obtain ⟨hm, hs⟩ := ih _ _ _ _ _ _ _ _ _ _ _ _ h
      refine ⟨hm, ?_⟩
      intro p e R s m args below meth cd q2 hcx hc hw n0 ad0 ad A H locs ls hn0 hag hP hD hS hA hl hSx
      have hh := hs p e R s m args below meth cd q2 hcx hc hw n0 ad0 ad A H locs ls hn0 hag hP hD hS hA hl hSx
      obtain ⟨hx, hq2, hb, -⟩ := hcx
      cases hq2.symm.trans hq
      exact mpure_W hx hb h1 hdec hh
    | none =>
    rw [h1] at h
    dsimp only at h
    cases h2 : mloc (mlen k) i lv st with
    | some x =>
      obtain ⟨lv', st', n'⟩ := x
      rw [h2] at h
      dsimp only at h
      split at h
      case isFalse => cases h
      rename_i hn
      subst hn
      obtain ⟨hm, hs⟩ := ih _ _ _ _ _ _ _ _ _ _ _ _ h
      refine ⟨hm, ?_⟩
      intro p e R s m args below meth cd q2 hcx hc hw n0 ad0 ad A H locs ls hn0 hag hP hD hS hA hl hSx
      obtain ⟨hx, hq2, hb, -⟩ := id hcx
      cases hq2.symm.trans hq
      exact mloc_W hx hb h2 hdec hl (fun ls' hl' => hs p e R s m args below meth cd _ hcx hc hw n0 ad0 ad A H locs ls' hn0 hag hP hD hS hA hl' hSx)
    | none =>
    rw [h2] at h
    dsimp only at h
    cases h3 : mjmp pc n i st with
    | some x =>
      obtain ⟨pc', st'⟩ := x
      rw [h3] at h
      dsimp only at h
      obtain ⟨hm, hs⟩ := ih _ _ _ _ _ _ _ _ _ _ _ _ h
      refine ⟨hm, ?_⟩
      intro p e R s m args below meth cd q2 hcx hc hw n0 ad0 ad A H locs ls hn0 hag hP hD hS hA hl hSx
      have hh := hs p e R s m args below meth cd q2 hcx hc hw n0 ad0 ad A H locs ls hn0 hag hP hD hS hA hl hSx
      obtain ⟨hx, hq2, hb, -⟩ := hcx
      cases hq2.symm.trans hq
      exact mjmp_W hx hb h3 hdec hh
    | none =>
    rw [h3] at h
    dsimp only at h
    cases h4 : mhp k i st hp with
    | some x =>
      obtain ⟨st', hp2, n'⟩ := x
      rw [h4] at h
      dsimp only at h
      split at h
      case isFalse => cases h
      rename_i hn
      subst hn
      obtain ⟨hm, hs⟩ := ih _ _ _ _ _ _ _ _ _ _ _ _ h
      refine ⟨hm, ?_⟩
      intro p e R s m args below meth cd q2 hcx hc hw n0 ad0 ad A H locs ls hn0 hag hP hD hS hA hl hSx
      obtain ⟨hx, hq2, hb, hr, hml, hown, hts, hnt, hlk, hin, hK, hfr, hlo⟩ := id hcx
      cases hq2.symm.trans hq
      exact mhp_W hx hb hts hnt hown hin hK hP hD hS h4 hdec (fun H1 locs1 g1 g2 g3 => hs p e R s m args below meth cd _ hcx hc hw n0 ad0 ad A H1 locs1 ls (by rw [mhp_len h4]; exact hn0) hag g1 g2 g3 hA hl hSx)
    | none =>
    rw [h4] at h
    dsimp only at h
    cases h5 : mend k i n st with
    | some x =>
      rw [h5] at h
      cases h
      refine ⟨⟨Nat.le_refl _, Nat.le_refl _⟩, ?_⟩
      intro p e R s m args below meth cd q2 hcx hc hw n0 ad0 ad A H locs ls hn0 hag hP hD hS hA hl hSx
      obtain ⟨hx, hq2, hb, hr, hml, hown, hts, hnt, hlk, hin, hK, hfr, hlo⟩ := id hcx
      cases hq2.symm.trans hq
      exact mend_W (k := k) hx hb (by rw [hr]; unfold mret; rw [hq2]) hlk hdec h5 hn0 hag hP hD hS
    | none =>
    rw [h5] at h
    dsimp only at h
    cases h6 : mcl0 k i st with
    | some x =>
      obtain ⟨kd, k', as, rr⟩ := x
      rw [h6] at h
      dsimp only at h
      cases d with
      | zero => cases h
      | succ d' =>
      dsimp only at h
      split at h
      case isFalse => cases h
      rename_i hcd
      obtain ⟨rfl, hrc, hcat, hasok, hrok, hlok⟩ := hcd
      cases h7 : exec f d' k' 0 (lv_args 0 as) [] hp 0 0 with
      | none => rw [h7] at h; cases h
      | some y =>
      obtain ⟨v, hp1, c1, w1⟩ := y
      rw [h7] at h
      dsimp only at h
      split at h
      case isFalse => cases h
      rename_i hlen
      obtain ⟨-, hsc⟩ := ih _ _ _ _ _ _ _ _ _ _ _ _ h7
      obtain ⟨hm, hs⟩ := ih _ _ _ _ _ _ _ _ _ _ _ _ h
      refine ⟨⟨by omega, by omega⟩, ?_⟩
      intro p e R s m args below meth cd q2 hcx hc hw n0 ad0 ad A H locs ls hn0 hag hP hD hS hA hl hSx
      have hq2 := hcx.2.1
      cases hq2.symm.trans hq
      refine mcall_W hcx hdec h6 hrc hcat hlen hsc (by omega) (by omega) hP hD hS hA hSx hl.1 ?_
      intro ad' H1 locs1 g1 g2 g3 g4 g5
      have hh := hs p e R s m args below meth cd _ hcx hc hw n0 ad0 ad' A H1 locs1 ls (by omega) (mag_tr hag g1 hn0) g3 g4 g5 hA (by rw [mag_lv g1 hlok]; exact hl) (SPx_mag g1 hSx)
      have e1 : (v.toList ++ rr).map (mv ad') = (v.map (mv ad')).toList ++ rr.map (mv ad) := by
        rw [List.map_append, mag_l g1 hrok]
        cases v <;> rfl
      rw [e1] at hh
      exact hh
    | none =>
    rw [h6] at h
    dsimp only at h
    cases h7 : mmk k i lv st hp with
    | some x =>
      obtain ⟨st', hp2, z, n'⟩ := x
      rw [h7] at h
      dsimp only at h
      split at h
      case isFalse => cases h
      rename_i hn
      subst hn
      obtain ⟨hm, hs⟩ := ih _ _ _ _ _ _ _ _ _ _ _ _ h
      refine ⟨⟨by omega, by omega⟩, ?_⟩
      intro p e R s m args below meth cd q2 hcx hc hw n0 ad0 ad A H locs ls hn0 hag hP hD hS hA hl hSx
      obtain ⟨hx, hq2, hb, hr, hml, hown, hts, hnt, hlk, hin, hK, hfr, hlo⟩ := id hcx
      cases hq2.symm.trans hq
      exact mmk_W hx hb hts hown hK hP hD hS hA h7 hdec (by omega) (by omega) hl (fun ad' H1 g0 g1 g2 g3 g4 g5 => hs p e R s m args below meth cd _ hcx hc hw n0 ad0 ad' A H1 locs ls (by omega) (mag_tr hag g1 hn0) g2 g3 g4 hA g5 (SPx_mag g1 hSx))
    | none =>
    rw [h7] at h
    dsimp only at h
    cases h8 : mobj k i st with
    | none =>
      rw [h8] at h
      dsimp only at h
      cases h9 : mmn k i st with
      | none =>
        rw [h9] at h
        dsimp only at h
        cases h10 : msr k i st with
        | none => rw [h10] at h; cases h
        | some x =>
        obtain ⟨st', n'⟩ := x
        rw [h10] at h
        dsimp only at h
        split at h
        case isFalse => cases h
        rename_i hn
        obtain ⟨rfl, hd5⟩ := hn
        obtain ⟨hm, hs⟩ := ih _ _ _ _ _ _ _ _ _ _ _ _ h
        refine ⟨hm, ?_⟩
        intro p e R s m args below meth cd q2 hcx hc hw n0 ad0 ad A H locs ls hn0 hag hP hD hS hA hl hSx
        have hh := hs p e R s m args below meth cd q2 hcx hc hw n0 ad0 ad A H locs ls hn0 hag hP hD hS hA hl hSx
        have hq2 := hcx.2.1
        cases hq2.symm.trans hq
        exact msr_W hcx hd5 hdec h10 (by omega) (by omega) hS hSx hl.1 hh
      | some st' =>
      rw [h9] at h
      dsimp only at h
      cases d with
      | zero => cases h
      | succ d' =>
      dsimp only at h
      split at h
      case isFalse => cases h
      rename_i hn
      subst hn
      obtain ⟨hm, hs⟩ := ih _ _ _ _ _ _ _ _ _ _ _ _ h
      refine ⟨hm, ?_⟩
      intro p e R s m args below meth cd q2 hcx hc hw n0 ad0 ad A H locs ls hn0 hag hP hD hS hA hl hSx
      have hh := hs p e R s m args below meth cd q2 hcx hc hw n0 ad0 ad A H locs ls hn0 hag hP hD hS hA hl hSx
      obtain ⟨hx, hq2, hb, hr, hml, hown, hts, hnt, hlk, hin, hK, hfr, hlo⟩ := hcx
      cases hq2.symm.trans hq
      obtain ⟨x, y, rr, rfl, hko, rfl, rfl, hcat⟩ := mmn_inv h9
      have hmL : mlen k = q.2.2.1 := by unfold mlen; rw [hq]
      have hls : cd.maxLocals = ls.size := by rw [hml, ← hmL]; exact hl.1.symm
      rw [hko] at hown
      have hcat2 : ((rr.map (mv ad)).map fun v => v.category).sum + 13 ≤ R.locals := by rw [cat_sum]; omega
      exact va_mmin (rest := rr.map (mv ad)) hx hb hls hown (hts _ (in_g (wat_in mnA.1) rfl)) (hts _ (in_g (wat_in mnA.2.1) rfl)) (hts _ (in_g (wat_in mnA.2.2.1) rfl)) (hts _ (in_g (wat_in mnA.2.2.2) rfl)) (by omega) hcat2 (by omega) (by omega) hdec hh
    | some st' =>
    rw [h8] at h
    dsimp only at h
    cases d with
    | zero => cases h
    | succ d' =>
    dsimp only at h
    split at h
    case isFalse => cases h
    rename_i hn
    subst hn
    obtain ⟨hm, hs⟩ := ih _ _ _ _ _ _ _ _ _ _ _ _ h
    refine ⟨hm, ?_⟩
    intro p e R s m args below meth cd q2 hcx hc hw n0 ad0 ad A H locs ls hn0 hag hP hD hS hA hl hSx
    have hh := hs p e R s m args below meth cd q2 hcx hc hw n0 ad0 ad A H locs ls hn0 hag hP hD hS hA hl hSx
    obtain ⟨hx, hq2, hb, hr, hml, hown, hts, hnt, hlk, hin, hK, hfr, hlo⟩ := hcx
    cases hq2.symm.trans hq
    obtain ⟨ix, k', pl, pi, ps, b, rfl, hpk, rfl, hcat⟩ := mobj_inv h8
    have hmL : mlen k = q.2.2.1 := by unfold mlen; rw [hq]
    have hroom : 2 * (F0 m pc ls ((Value.ref b :: st').map (mv ad))).monitorRoom + ((st'.map (mv ad)).map fun v => v.category).sum ≤ 8 := lv_room (by rw [cat_sum]; exact hcat)
    exact W.objInit hx hb hown (hts _ (ml_ok6 hpk)) (hts _ ob_ok.1) (hts _ ob_ok.2) rfl (by rw [hml, ← hmL]; exact hl.1) (a := ad b) (rest := st'.map (mv ad)) rfl hdec (by omega) (Nat.le_trans (Nat.add_le_add_right hroom 12) (by omega)) hh
