/-! Arrays, constants, new cells. -/
def nlC (q : (Nat × Nat) × (Nat × Nat × Nat × Nat)) : Bool := match mcl[q.2.1]? with
  | none => false
  | some r => decide (lw_tbl[q.2.2.1]? = some (Cond.classLink (cnm q.1.1) q.1.2 r.1)) && (decide (lw_tbl[q.2.2.2.1]? = some (Cond.instantiable r.1 r.2.2)) && decide (lw_tbl[q.2.2.2.2]? = some (Cond.initialized r.1)))
set_option maxRecDepth 100000 in
theorem nlA : nlt.all nlC = true := by decide +kernel
set_option maxRecDepth 100000 in
theorem ilA : ilt.all (fun q => decide (lw_tbl[q.2.2]? = some (Cond.constant (cnm q.1.1) q.1.2 q.2.1))) = true := by decide +kernel
set_option maxRecDepth 100000 in
theorem llA : llt.all (fun q => decide (lw_tbl[q.2.2]? = some (Cond.constantLong (cnm q.1.1) q.1.2 q.2.1))) = true := by decide +kernel
set_option maxRecDepth 100000 in
theorem arI : Cond.arrayClass .int ∈ gtbl := in_g (by decide +kernel) rfl
set_option maxRecDepth 100000 in
theorem arJ : Cond.arrayClass .long ∈ gtbl := in_g (by decide +kernel) rfl
set_option maxRecDepth 100000 in
theorem arZ : Cond.arrayClass .boolean ∈ gtbl := in_g (by decide +kernel) rfl
theorem nl_ok {o ix ci a b d : Nat} (h : plk o ix nlt = some (ci, a, b, d)) : ∃ r, mcl[ci]? = some r ∧ Cond.classLink (cnm o) ix r.1 ∈ gtbl ∧ Cond.instantiable r.1 r.2.2 ∈ gtbl ∧ Cond.initialized r.1 ∈ gtbl := by
  have h1 := List.all_eq_true.mp nlA _ (plk_mem h)
  unfold nlC at h1
  dsimp only at h1
  split at h1
  · cases h1
  · rename_i r hr
    simp only [Bool.and_eq_true, decide_eq_true_eq] at h1
    exact ⟨r, hr, in_g (at_t h1.1) rfl, in_g (at_t h1.2.1) rfl, in_g (at_t h1.2.2) rfl⟩
def mup (ad : Nat → Nat) (n q : Nat) : Nat → Nat := fun k => if k = n then q else ad k
theorem mup_ne {ad : Nat → Nat} {n q k : Nat} (h : k ≠ n) : mup ad n q k = ad k := if_neg h
theorem mup_eq {ad : Nat → Nat} {n q : Nat} : mup ad n q n = q := if_pos rfl
/-- two namings agree on what there is -/
def mag (n : Nat) (ad ad' : Nat → Nat) : Prop := ∀ k, (k < n ∨ 1000000 ≤ k) → ad' k = ad k
theorem mag_up {ad : Nat → Nat} {n q : Nat} (hn : n < 1000000) : mag n ad (mup ad n q) := fun k hk => mup_ne (by omega)
theorem mag_v {n : Nat} {ad ad' : Nat → Nat} (h : mag n ad ad') {v : Value} (hv : mokv n v = true) : mv ad' v = mv ad v := by
  cases v <;> first | rfl | skip
  rename_i a
  exact congrArg Value.ref (h a (of_decide_eq_true hv))
theorem mag_l {n : Nat} {ad ad' : Nat → Nat} (h : mag n ad ad') {st : List Value} (hv : st.all (mokv n) = true) : st.map (mv ad') = st.map (mv ad) := by
  apply List.map_congr_left
  intro v hm
  exact mag_v h (List.all_eq_true.mp hv v hm)
theorem mag_lv {n : Nat} {ad ad' : Nat → Nat} (h : mag n ad ad') {lv : List (Nat × Value)} (hv : lv.all (fun q => mokv n q.2) = true) : mlv ad' lv = mlv ad lv := by
  unfold mlv
  apply List.map_congr_left
  intro q hm
  exact congrArg (fun z => (q.1, z)) (mag_v h (List.all_eq_true.mp hv q hm))
theorem mag_e {n : Nat} {ad ad' : Nat → Nat} {dA : Nat → ClassId} (h : mag n ad ad') {e : mE} (hv : moke n e = true) : mee dA ad' e = mee dA ad e := by
  cases e with
  | inl a => rfl
  | inr o =>
    show Sum.inr (o.1, o.2.map (mv ad')) = Sum.inr (o.1, o.2.map (mv ad))
    rw [mag_l h (show o.2.all (mokv n) = true from hv)]
theorem mws_push {ad : Nat → Nat} {dA : Nat → ClassId} {hp : List mE} {q : Nat} {e : mE} (hok : hp.all (moke hp.length) = true) (hn : hp.length < 1000000) : mws dA (mup ad hp.length q) (hp ++ [e]) = mws dA ad hp ++ [(q, mee dA (mup ad hp.length q) e)] := by
  unfold mws
  rw [List.mapIdx_append]
  congr 1
  · apply List.ext_getElem?
    intro j
    rw [List.getElem?_mapIdx, List.getElem?_mapIdx]
    cases hj : hp[j]? with
    | none => rfl
    | some x =>
      have hlt := (List.getElem?_eq_some_iff.mp hj).1
      show some (mup ad hp.length q j, mee dA (mup ad hp.length q) x) = some (ad j, mee dA ad x)
      rw [mup_ne (by omega), mag_e (mag_up hn) (List.all_eq_true.mp hok x (List.mem_of_getElem? hj))]
  · show [(mup ad hp.length q (0 + hp.length), mee dA (mup ad hp.length q) e)] = _
    rw [Nat.zero_add, mup_eq]
theorem mdef_ok {ci : Nat} {fs : List Value} {r : vw_C} (hr : mcl[ci]? = some r) (h : mdef ci = some fs) : fs.length = r.2.2 ∧ (∀ ad, fs.map (mv ad) = fs) ∧ ∀ j, j < r.2.2 → defaultValue (mty0 r.2.1 j) = vp_V fs j := by
  unfold mdef at h
  rw [hr] at h
  cases h
  obtain ⟨-, -, c3⟩ := cl_ok hr
  refine ⟨by simp, fun ad => ?_, fun j hj => ?_⟩
  · rw [List.map_map]
    apply List.map_congr_left
    intro f hf
    simp only [Function.comp]
    split
    · rename_i ty _
      cases ty <;> rfl
    · rfl
  · unfold vp_V
    rw [List.getD_eq_getElem?_getD, List.getElem?_map, List.getElem?_range hj]
    show _ = (match parseFieldDescriptor (r.2.1 j).2.2.1 with | some ty => defaultValue ty | none => Value.null)
    rw [c3 j hj]
section MD
variable {p : Program} {l : Launch} {e : Env} {R : Room} {s : State} {m : MethodId} {args : Array Value} {below : List Frame} {meth : Method} {c : Code} {H : Heap} {locs : List Loc} {cells slots : Nat} {Q : State → Prop}
variable {cc : ByteArray} {pc : Nat} {ls : Array Slot} {ad : Nat → Nat} {dC : Nat → ClassId} {dI : Nat → Nat → Nat} {dA : Nat → ClassId} {A : Nat → Prop}
theorem mhp_W (hx : p.tables.exec = Jvm.exec) (hb : c.code = cc) (hts : ∀ w ∈ gtbl, w.before args s = true) (hnt : ∀ w ∈ ntbl, va_Nw w s) {k : Nat} (hown : s.vm.findClass (cnm (mown k)) = some m.cls) (hin : mini k = true → meth.name = "<init>") (hK : va_K (dC, dI) mcl (mty dA) s) {i : Instr} {st st' : List Value} {hp hp' : List mE} {n : Nat} (hP : va_P (dC, dI) mcl (mws dA ad hp) H) (hD : va_D A (mws dA ad hp)) (hS : va_S A s.heap H locs)
    (h : mhp k i st hp = some (st', hp', n)) (hd : decode cc pc = .ok (i, n)) (kk : ∀ (H1 : Heap) (locs1 : List Loc), va_P (dC, dI) mcl (mws dA ad hp') H1 → va_D A (mws dA ad hp') → va_S A s.heap H1 locs1 → W p l e R s m args below meth c H1 locs1 cells slots Q (F0 m (pc + n) ls (st'.map (mv ad)))) : W p l e R s m args below meth c H locs cells slots Q (F0 m pc ls (st.map (mv ad))) := by
  cases i <;> first | (have h' : (none : Option (List Value × List mE × Nat)) = some (st', hp', n) := h; cases h'; done) | skip
  case getfield ix =>
    obtain ⟨r, hr, he⟩ := Option.map_eq_some_iff.mp h
    cases he
    exact mget_W hx hb hts hnt hown hK hP hr hd (kk H locs hP hD hS)
  case putfield ix =>
    obtain ⟨r, hr, he⟩ := Option.map_eq_some_iff.mp h
    cases he
    exact mput_W hx hb hts hnt hown hin hK hP hD hS hr hd kk
  case iaload =>
    obtain ⟨r, hr, he⟩ := Option.map_eq_some_iff.mp h
    cases he
    unfold miald at hr
    split at hr
    case h_2 => cases hr
    split at hr
    case h_2 => cases hr
    split at hr
    case isTrue => cases hr
    rename_i hc hi
    cases hr
    exact va_iald hx hb hK hP _ 0 (mws_get hc) rfl hi hd (kk H locs hP hD hS)
  case baload =>
    obtain ⟨r, hr, he⟩ := Option.map_eq_some_iff.mp h
    cases he
    unfold mzald at hr
    split at hr
    case h_2 => cases hr
    split at hr
    case h_2 => cases hr
    split at hr
    case isTrue => cases hr
    rename_i hc hi
    cases hr
    exact va_zald hx hb hK hP _ 2 (mws_get hc) rfl hi hd (kk H locs hP hD hS)
  case laload =>
    obtain ⟨r, hr, he⟩ := Option.map_eq_some_iff.mp h
    cases he
    unfold mlald at hr
    split at hr
    case h_2 => cases hr
    split at hr
    case h_2 => cases hr
    split at hr
    case isTrue => cases hr
    rename_i hc hi
    cases hr
    exact va_lald hx hb hK hP _ 1 (mws_get hc) rfl hi hd (kk H locs hP hD hS)
  case iastore =>
    obtain ⟨r, hr, he⟩ := Option.map_eq_some_iff.mp h
    cases he
    unfold miast at hr
    split at hr
    case h_2 => cases hr
    split at hr
    case h_2 => cases hr
    split at hr
    case isTrue => cases hr
    rename_i hc hi
    cases hr
    refine va_iast hx hb hK hP hD hS _ 0 (mws_get hc) rfl hi hd (fun H1 locs1 h1 h2 h3 => ?_)
    have es := mws_set dA ad hp
    exact kk H1 locs1 (by rw [← es]; exact h1) (by rw [← es]; exact h2) h3
  case bastore =>
    obtain ⟨r, hr, he⟩ := Option.map_eq_some_iff.mp h
    cases he
    unfold mzast at hr
    split at hr
    case h_2 => cases hr
    split at hr
    case h_2 => cases hr
    split at hr
    case isTrue => cases hr
    rename_i hc hi
    cases hr
    refine va_zast hx hb hK hP hD hS _ 2 (mws_get hc) rfl hi hd (fun H1 locs1 h1 h2 h3 => ?_)
    have es := mws_set dA ad hp
    exact kk H1 locs1 (by rw [← es]; exact h1) (by rw [← es]; exact h2) h3
  case lastore =>
    obtain ⟨r, hr, he⟩ := Option.map_eq_some_iff.mp h
    cases he
    unfold mlast at hr
    split at hr
    case h_2 => cases hr
    split at hr
    case h_2 => cases hr
    split at hr
    case isTrue => cases hr
    rename_i hc hi
    cases hr
    refine va_last hx hb hK hP hD hS _ 1 (mws_get hc) rfl hi hd (fun H1 locs1 h1 h2 h3 => ?_)
    have es := mws_set dA ad hp
    exact kk H1 locs1 (by rw [← es]; exact h1) (by rw [← es]; exact h2) h3
  case arraylength =>
    obtain ⟨r, hr, he⟩ := Option.map_eq_some_iff.mp h
    cases he
    unfold malen at hr
    split at hr
    case h_2 => cases hr
    split at hr
    case h_2 => cases hr
    split at hr
    case isFalse => cases hr
    rename_i a1 r1 _ t1 n1 x1 hc ht
    cases hr
    have h3 : t1 = 0 ∨ t1 = 1 ∨ t1 = 2 := by omega
    rcases h3 with rfl | rfl | rfl
    · exact va_alen hx hb hK hP _ 0 (mws_get hc) rfl rfl hd (kk H locs hP hD hS)
    · exact va_alen hx hb hK hP _ 1 (mws_get hc) rfl rfl hd (kk H locs hP hD hS)
    · exact va_alen hx hb hK hP _ 2 (mws_get hc) rfl rfl hd (kk H locs hP hD hS)
  case ldc ix =>
    obtain ⟨r, hr, he⟩ := Option.map_eq_some_iff.mp h
    cases he
    have h1 := of_decide_eq_true (List.all_eq_true.mp ilA _ (plk_mem hr))
    exact lv_ldc hx hb hown (hts _ (in_g (at_t h1) rfl)) hd (kk H locs hP hD hS)
  case ldc2_w ix =>
    obtain ⟨r, hr, he⟩ := Option.map_eq_some_iff.mp h
    cases he
    have h1 := of_decide_eq_true (List.all_eq_true.mp llA _ (plk_mem hr))
    exact lv_ldc2 hx hb hown (hts _ (in_g (at_t h1) rfl)) hd (kk H locs hP hD hS)
theorem mnewa_W (hx : p.tables.exec = Jvm.exec) (hb : c.code = cc) {t : Nat} {ty : FieldType} {at1 : ArrayType} (hat : newarray.typeOf at1 = ty) (hty : (mty dA)[t]? = some (dA t, ty)) (hRA : ∀ cA, va_RA s cA ty → s.vm.findClass ("[" ++ ty.toString) = some cA) (harr : (Cond.arrayClass ty).before args s = true) (hK : va_K (dC, dI) mcl (mty dA) s) {hp : List mE} (hP : va_P (dC, dI) mcl (mws dA ad hp) H) (hD : va_D A (mws dA ad hp)) (hS : va_S A s.heap H locs) (hA : ∀ q, s.heap.size ≤ q → A q)
    {n : Int32} {x : (Nat → Int32) ⊕ (Nat → Int64) ⊕ (Nat → UInt32) ⊕ (Nat → UInt64) ⊕ (Nat → Option Nat)} (hv : ∀ cA : ClassId, vp_cell cA (n.toNatClampNeg, x) = arrV cA n.toNatClampNeg (fun _ => defaultValue ty)) (hn : ¬ n < 0) (hby : n.toNatClampNeg * componentBytes ty ≤ 536870912) (hok : hp.all (moke hp.length) = true) (hl6 : hp.length < 1000000) (hcells : cells + 1 ≤ R.cells) (hslots : slots + n.toNatClampNeg ≤ R.slots) (hd : decode cc pc = .ok (.newarray at1, 2)) {rest : List Value}
    (kk : ∀ (q : Nat) (H1 : Heap), va_P (dC, dI) mcl (mws dA (mup ad hp.length q) (hp ++ [.inl (t, n.toNatClampNeg, x)])) H1 → va_D A (mws dA (mup ad hp.length q) (hp ++ [.inl (t, n.toNatClampNeg, x)])) → va_S A s.heap H1 locs → W p l e R s m args below meth c H1 locs (cells + 1) (slots + n.toNatClampNeg) Q (F0 m (pc + 2) ls (.ref q :: rest))) : W p l e R s m args below meth c H locs cells slots Q (F0 m pc ls (.int n :: rest)) := by
  refine va_newa (a0 := (n.toNatClampNeg, x)) hx hb (by rw [hat]; exact harr) hat hK hP hD hS hA hv hn rfl hby hcells hslots hd (fun q cA H1 k1 k2 k3 k4 => ?_)
  have e1 := hRA _ (k1.2 3 (cA, ty) rfl).2
  have e2 := hRA _ (hK.2 t _ hty).2
  have e3 : cA = dA t := Option.some.inj (e1.symm.trans e2)
  subst e3
  have e4 : mws dA (mup ad hp.length q) (hp ++ [.inl (t, n.toNatClampNeg, x)]) = mws dA ad hp ++ [(q, .inl (dA t, n.toNatClampNeg, x))] := mws_push hok hl6
  exact kk q H1 (by rw [e4]; exact k2) (by rw [e4]; exact k3) k4
theorem mmk_W (hx : p.tables.exec = Jvm.exec) (hb : c.code = cc) (hts : ∀ w ∈ gtbl, w.before args s = true) {k : Nat} (hown : s.vm.findClass (cnm (mown k)) = some m.cls) (hK : va_K (dC, dI) mcl (mty dA) s) {i : Instr} {lv : List (Nat × Value)} {st st' : List Value} {hp hp' : List mE} {n z nL : Nat} (hP : va_P (dC, dI) mcl (mws dA ad hp) H) (hD : va_D A (mws dA ad hp)) (hS : va_S A s.heap H locs) (hA : ∀ q, s.heap.size ≤ q → A q)
    (h : mmk k i lv st hp = some (st', hp', z, n)) (hd : decode cc pc = .ok (i, n)) (hcells : cells + 1 ≤ R.cells) (hslots : slots + z ≤ R.slots) (hl : lv_has ls nL (mlv ad lv))
    (kk : ∀ (ad' : Nat → Nat) (H1 : Heap), hp.length ≤ hp'.length → mag hp.length ad ad' → va_P (dC, dI) mcl (mws dA ad' hp') H1 → va_D A (mws dA ad' hp') → va_S A s.heap H1 locs → lv_has ls nL (mlv ad' lv) → W p l e R s m args below meth c H1 locs (cells + 1) (slots + z) Q (F0 m (pc + n) ls (st'.map (mv ad')))) : W p l e R s m args below meth c H locs cells slots Q (F0 m pc ls (st.map (mv ad))) := by
  cases i <;> first | (have h' : (none : Option (List Value × List mE × Nat × Nat)) = some (st', hp', z, n) := h; cases h'; done) | skip
  case new ix =>
    obtain ⟨r, hr, he⟩ := Option.map_eq_some_iff.mp h
    cases he
    unfold mnew at hr
    split at hr
    case h_2 => cases hr
    split at hr
    case h_2 => cases hr
    split at hr
    case isFalse => cases hr
    rename_i ci x hf _ fs hfs hc
    obtain ⟨h1, h2, h3, h4⟩ := hc
    cases hr
    obtain ⟨x1, x2, x3⟩ := x
    obtain ⟨q, q1, q2, q3, q4⟩ := nl_ok hf
    obtain ⟨f1, f2, f3⟩ := mdef_ok q1 hfs
    obtain ⟨c1, c2, c3⟩ := cl_ok q1
    rw [show fs.length = q.2.2 from f1] at hslots
    refine va_new (ci := ci) (fs := fs) (C := q.1) (T := q.2.1) (N := q.2.2) hx hb hts c1 (mty0 q.2.1) c3 hown (hts _ q2) (hts _ q3) (hts _ q4) hK hP hD hS hA q1 f3 hcells hslots hd (fun a H1 k2 k3 k4 => ?_)
    have e4 : mws dA (mup ad hp.length a) (hp ++ [.inr (ci, fs)]) = mws dA ad hp ++ [(a, .inr (ci, fs))] := by
      rw [mws_push h1 h4]
      show _ ++ [(a, Sum.inr (ci, fs.map (mv (mup ad hp.length a))))] = _
      rw [f2]
    have hg := mag_up (ad := ad) (q := a) h4
    have g := kk (mup ad hp.length a) H1 (by simp) hg (by rw [e4]; exact k2) (by rw [e4]; exact k3) k4 (by rw [mag_lv hg h2]; exact hl)
    rw [show fs.length = q.2.2 from f1] at g
    have e5 : (Value.ref hp.length :: st).map (mv (mup ad hp.length a)) = .ref a :: st.map (mv ad) := by
      show mv _ _ :: _ = _
      rw [mag_l hg h3]
      show Value.ref (mup ad hp.length a hp.length) :: _ = _
      rw [mup_eq]
    rw [e5] at g
    exact g
  case newarray t =>
    obtain ⟨r, hr, he⟩ := Option.map_eq_some_iff.mp h
    cases he
    unfold mnewa at hr
    split at hr
    case h_2 => cases hr
    split at hr
    case isFalse => cases hr
    rename_i n1 r1 hc
    obtain ⟨h1, h2, h3, h4, h5, h6⟩ := hc
    have key : ∀ (q : Nat), (Value.ref hp.length :: r1).map (mv (mup ad hp.length q)) = .ref q :: r1.map (mv ad) := by
      intro q
      show mv _ _ :: _ = _
      rw [mag_l (mag_up h4) h3]
      show Value.ref (mup ad hp.length q hp.length) :: _ = _
      rw [mup_eq]
    split at hr
    case h_1 =>
      cases hr
      refine mnewa_W (t := 0) (ty := .int) (x := .inl (fun _ => 0)) hx hb rfl rfl (fun _ h => h) (hts _ arI) hK hP hD hS hA (fun _ => rfl) h5 (by show _ * 4 ≤ _; omega) h1 h4 hcells hslots hd (fun q H1 k2 k3 k4 => ?_)
      have g := kk (mup ad hp.length q) H1 (by simp) (mag_up h4) k2 k3 k4 (by rw [mag_lv (mag_up h4) h2]; exact hl)
      rw [key q] at g
      exact g
    case h_2 =>
      cases hr
      refine mnewa_W (t := 1) (ty := .long) (x := .inr (.inl (fun _ => 0))) hx hb rfl rfl (fun _ h => h) (hts _ arJ) hK hP hD hS hA (fun _ => rfl) h5 (by show _ * 8 ≤ _; omega) h1 h4 hcells hslots hd (fun q H1 k2 k3 k4 => ?_)
      have g := kk (mup ad hp.length q) H1 (by simp) (mag_up h4) k2 k3 k4 (by rw [mag_lv (mag_up h4) h2]; exact hl)
      rw [key q] at g
      exact g
    case h_3 =>
      cases hr
      refine mnewa_W (t := 2) (ty := .boolean) (x := .inl (fun _ => 0)) hx hb rfl rfl (fun _ h => h) (hts _ arZ) hK hP hD hS hA (fun _ => rfl) h5 (by show _ * 1 ≤ _; omega) h1 h4 hcells hslots hd (fun q H1 k2 k3 k4 => ?_)
      have g := kk (mup ad hp.length q) H1 (by simp) (mag_up h4) k2 k3 k4 (by rw [mag_lv (mag_up h4) h2]; exact hl)
      rw [key q] at g
      exact g
    case h_4 => cases hr
end MD
