/-! The small machine's steps on the stack, on locals, and its jumps are the machine's. -/
def mv (ad : Nat → Nat) (v : Value) : Value := match v with
  | .ref a => .ref (ad a)
  | v => v
def mlv (ad : Nat → Nat) (lv : List (Nat × Value)) : List (Nat × Value) := lv.map (fun q => (q.1, mv ad q.2))
theorem mv_cat (ad : Nat → Nat) (v : Value) : (mv ad v).category = v.category := by cases v <;> rfl
theorem m2i_inv {f : Int32 → Int32 → Int32} {st r : List Value} (h : m2i f st = some r) : ∃ x y t, st = .int y :: .int x :: t ∧ r = .int (f x y) :: t := by
  unfold m2i at h
  split at h
  · cases h
    exact ⟨_, _, _, rfl, rfl⟩
  · cases h
theorem m2l_inv {f : Int64 → Int64 → Int64} {st r : List Value} (h : m2l f st = some r) : ∃ x y t, st = .long y :: .long x :: t ∧ r = .long (f x y) :: t := by
  unfold m2l at h
  split at h
  · cases h
    exact ⟨_, _, _, rfl, rfl⟩
  · cases h
theorem mli_inv {f : Int64 → Int32 → Int64} {st r : List Value} (h : mli f st = some r) : ∃ x y t, st = .int y :: .long x :: t ∧ r = .long (f x y) :: t := by
  unfold mli at h
  split at h
  · cases h
    exact ⟨_, _, _, rfl, rfl⟩
  · cases h
theorem m1i_inv {f : Int32 → Value} {st r : List Value} (h : m1i f st = some r) : ∃ x t, st = .int x :: t ∧ r = f x :: t := by
  unfold m1i at h
  split at h
  · cases h
    exact ⟨_, _, rfl, rfl⟩
  · cases h
theorem m1l_inv {f : Int64 → Value} {st r : List Value} (h : m1l f st = some r) : ∃ x t, st = .long x :: t ∧ r = f x :: t := by
  unfold m1l at h
  split at h
  · cases h
    exact ⟨_, _, rfl, rfl⟩
  · cases h
theorem mdv_inv {f : Int32 → Int32 → Int32} {st r : List Value} (h : mdv f st = some r) : ∃ x y t, st = .int y :: .int x :: t ∧ ¬ y = 0 ∧ r = .int (f x y) :: t := by
  unfold mdv at h
  split at h
  · split at h
    · cases h
    · cases h
      exact ⟨_, _, _, rfl, by assumption, rfl⟩
  · cases h
theorem mcm_inv {st r : List Value} (h : mcm st = some r) : ∃ x y t, st = .long y :: .long x :: t ∧ r = .int (lg_cmp x y) :: t := by
  unfold mcm at h
  split at h
  · cases h
    exact ⟨_, _, _, rfl, rfl⟩
  · cases h
theorem mdup_inv {st r : List Value} (h : mdup st = some r) : ∃ v t, st = v :: t ∧ v.category = 1 ∧ r = v :: v :: t := by
  unfold mdup at h
  split at h
  · split at h
    · cases h
      exact ⟨_, _, rfl, by assumption, rfl⟩
    · cases h
  · cases h
theorem mpop_inv {st r : List Value} (h : mpop st = some r) : ∃ v, st = v :: r ∧ v.category = 1 := by
  unfold mpop at h
  split at h
  · split at h
    · cases h
      exact ⟨_, rfl, by assumption⟩
    · cases h
  · cases h
theorem mdup2_inv {st r : List Value} (h : mdup2 st = some r) : ∃ v w t, st = v :: w :: t ∧ v.category = 1 ∧ w.category = 1 ∧ r = v :: w :: v :: w :: t := by
  unfold mdup2 at h
  split at h
  · split at h
    · rename_i q
      cases h
      exact ⟨_, _, _, rfl, q.1, q.2, rfl⟩
    · cases h
  · cases h
theorem mlv_lvw (ad : Nat → Nat) (i : Nat) (lv : List (Nat × Value)) : mlv ad (lvw i lv) = lvw i (mlv ad lv) := by
  unfold mlv lvw
  rw [List.filter_map]
  congr 1
  apply List.filter_congr
  intro q _
  simp [mv_cat]
theorem mlv_lvl (ad : Nat → Nat) (i : Nat) (lv : List (Nat × Value)) : mlv ad (lvl i lv) = lvl i (mlv ad lv) := by
  unfold mlv lvl
  rw [List.filter_map]
  congr 1
  apply List.filter_congr
  intro q _
  simp [mv_cat]
theorem mlv_at {ad : Nat → Nat} {ls : Array Slot} {nL i : Nat} {lv : List (Nat × Value)} {v : Value} (h : lv_has ls nL (mlv ad lv)) (hv : alk i lv = some v) : ls[i]? = some (.val (mv ad v)) :=
  h.2.2 (i, mv ad v) (List.mem_map.mpr ⟨(i, v), alk_mem hv, rfl⟩)
section MS
variable {p : Program} {l : Launch} {e : Env} {R : Room} {s : State} {m : MethodId} {args : Array Value} {below : List Frame} {meth : Method} {c : Code} {H : Heap} {locs : List Loc} {cells slots : Nat} {Q : State → Prop}
variable {cc : ByteArray} {pc : Nat} {ls : Array Slot} {ad : Nat → Nat}
theorem mpure_W (hx : p.tables.exec = Jvm.exec) (hb : c.code = cc) {i : Instr} {st st' : List Value} {n : Nat} (h : mpure i st = some (st', n)) (hd : decode cc pc = .ok (i, n))
    (k : W p l e R s m args below meth c H locs cells slots Q (F0 m (pc + n) ls (st'.map (mv ad)))) : W p l e R s m args below meth c H locs cells slots Q (F0 m pc ls (st.map (mv ad))) := by
  cases i <;> first | (have h' : (none : Option (List Value × Nat)) = some (st', n) := h; cases h'; done) | skip
  case iconst n1 =>
    cases h
    exact lv_iconst hx hb hd rfl k
  case bipush n1 =>
    cases h
    exact lv_bipush hx hb hd rfl k
  case sipush n1 =>
    cases h
    exact lv_sipush hx hb hd rfl k
  case lconst n1 =>
    cases h
    exact lv_lconst hx hb hd rfl k
  case aconst_null =>
    cases h
    exact lv_null hx hb hd k
  case iadd =>
    obtain ⟨r, hr, he⟩ := Option.map_eq_some_iff.mp h
    obtain ⟨x, y, t, rfl, rfl⟩ := m2i_inv hr
    cases he
    exact lv_iadd hx hb hd k
  case isub =>
    obtain ⟨r, hr, he⟩ := Option.map_eq_some_iff.mp h
    obtain ⟨x, y, t, rfl, rfl⟩ := m2i_inv hr
    cases he
    exact lv_isub hx hb hd k
  case imul =>
    obtain ⟨r, hr, he⟩ := Option.map_eq_some_iff.mp h
    obtain ⟨x, y, t, rfl, rfl⟩ := m2i_inv hr
    cases he
    exact lv_imul hx hb hd k
  case iand =>
    obtain ⟨r, hr, he⟩ := Option.map_eq_some_iff.mp h
    obtain ⟨x, y, t, rfl, rfl⟩ := m2i_inv hr
    cases he
    exact lv_iand hx hb hd k
  case ior =>
    obtain ⟨r, hr, he⟩ := Option.map_eq_some_iff.mp h
    obtain ⟨x, y, t, rfl, rfl⟩ := m2i_inv hr
    cases he
    exact lv_ior hx hb hd k
  case ishl =>
    obtain ⟨r, hr, he⟩ := Option.map_eq_some_iff.mp h
    obtain ⟨x, y, t, rfl, rfl⟩ := m2i_inv hr
    cases he
    exact lv_ishl hx hb hd k
  case ishr =>
    obtain ⟨r, hr, he⟩ := Option.map_eq_some_iff.mp h
    obtain ⟨x, y, t, rfl, rfl⟩ := m2i_inv hr
    cases he
    exact lv_ishr hx hb hd k
  case idiv =>
    obtain ⟨r, hr, he⟩ := Option.map_eq_some_iff.mp h
    obtain ⟨x, y, t, rfl, hy, rfl⟩ := mdv_inv hr
    cases he
    exact lv_idiv hx hb hd hy k
  case irem =>
    obtain ⟨r, hr, he⟩ := Option.map_eq_some_iff.mp h
    obtain ⟨x, y, t, rfl, hy, rfl⟩ := mdv_inv hr
    cases he
    exact lv_irem hx hb hd hy k
  case ineg =>
    obtain ⟨r, hr, he⟩ := Option.map_eq_some_iff.mp h
    obtain ⟨x, t, rfl, rfl⟩ := m1i_inv hr
    cases he
    exact lv_ineg hx hb hd k
  case ladd =>
    obtain ⟨r, hr, he⟩ := Option.map_eq_some_iff.mp h
    obtain ⟨x, y, t, rfl, rfl⟩ := m2l_inv hr
    cases he
    exact lv_ladd hx hb hd k
  case lsub =>
    obtain ⟨r, hr, he⟩ := Option.map_eq_some_iff.mp h
    obtain ⟨x, y, t, rfl, rfl⟩ := m2l_inv hr
    cases he
    exact lv_lsub hx hb hd k
  case lmul =>
    obtain ⟨r, hr, he⟩ := Option.map_eq_some_iff.mp h
    obtain ⟨x, y, t, rfl, rfl⟩ := m2l_inv hr
    cases he
    exact lv_lmul hx hb hd k
  case land =>
    obtain ⟨r, hr, he⟩ := Option.map_eq_some_iff.mp h
    obtain ⟨x, y, t, rfl, rfl⟩ := m2l_inv hr
    cases he
    exact lv_land hx hb hd k
  case lor =>
    obtain ⟨r, hr, he⟩ := Option.map_eq_some_iff.mp h
    obtain ⟨x, y, t, rfl, rfl⟩ := m2l_inv hr
    cases he
    exact lv_lor hx hb hd k
  case lxor =>
    obtain ⟨r, hr, he⟩ := Option.map_eq_some_iff.mp h
    obtain ⟨x, y, t, rfl, rfl⟩ := m2l_inv hr
    cases he
    exact lv_lxor hx hb hd k
  case lneg =>
    obtain ⟨r, hr, he⟩ := Option.map_eq_some_iff.mp h
    obtain ⟨x, t, rfl, rfl⟩ := m1l_inv hr
    cases he
    exact lv_lneg hx hb hd k
  case lshl =>
    obtain ⟨r, hr, he⟩ := Option.map_eq_some_iff.mp h
    obtain ⟨x, y, t, rfl, rfl⟩ := mli_inv hr
    cases he
    exact lv_lshl hx hb hd rfl k
  case lshr =>
    obtain ⟨r, hr, he⟩ := Option.map_eq_some_iff.mp h
    obtain ⟨x, y, t, rfl, rfl⟩ := mli_inv hr
    cases he
    exact lv_lshr hx hb hd rfl k
  case lushr =>
    obtain ⟨r, hr, he⟩ := Option.map_eq_some_iff.mp h
    obtain ⟨x, y, t, rfl, rfl⟩ := mli_inv hr
    cases he
    exact lv_lushr hx hb hd rfl k
  case i2l =>
    obtain ⟨r, hr, he⟩ := Option.map_eq_some_iff.mp h
    obtain ⟨x, t, rfl, rfl⟩ := m1i_inv hr
    cases he
    exact lv_i2l hx hb hd rfl k
  case l2i =>
    obtain ⟨r, hr, he⟩ := Option.map_eq_some_iff.mp h
    obtain ⟨x, t, rfl, rfl⟩ := m1l_inv hr
    cases he
    exact lv_l2i hx hb hd rfl k
  case lcmp =>
    obtain ⟨r, hr, he⟩ := Option.map_eq_some_iff.mp h
    obtain ⟨x, y, t, rfl, rfl⟩ := mcm_inv hr
    cases he
    exact W.lcmp hx hb hd k
  case dup =>
    obtain ⟨r, hr, he⟩ := Option.map_eq_some_iff.mp h
    obtain ⟨v, t, rfl, hv, rfl⟩ := mdup_inv hr
    cases he
    exact lv_dup hx hb hd ((mv_cat ad v).trans hv) k
  case pop =>
    obtain ⟨r, hr, he⟩ := Option.map_eq_some_iff.mp h
    obtain ⟨v, rfl, hv⟩ := mpop_inv hr
    cases he
    exact lv_pop hx hb hd ((mv_cat ad v).trans hv) k
  case dup2 =>
    obtain ⟨r, hr, he⟩ := Option.map_eq_some_iff.mp h
    obtain ⟨v, w, t, rfl, hv, hw, rfl⟩ := mdup2_inv hr
    cases he
    exact lv_dup2_11 hx hb hd ((mv_cat ad v).trans hv) ((mv_cat ad w).trans hw) k
theorem mldi_inv {i : Nat} {lv : List (Nat × Value)} {st r : List Value} (h : mldi i lv st = some r) : ∃ x, alk i lv = some (.int x) ∧ r = .int x :: st := by
  unfold mldi at h
  split at h
  · cases h
    exact ⟨_, by assumption, rfl⟩
  · cases h
theorem mldl_inv {i : Nat} {lv : List (Nat × Value)} {st r : List Value} (h : mldl i lv st = some r) : ∃ x, alk i lv = some (.long x) ∧ r = .long x :: st := by
  unfold mldl at h
  split at h
  · cases h
    exact ⟨_, by assumption, rfl⟩
  · cases h
theorem mlda_inv {i : Nat} {lv : List (Nat × Value)} {st r : List Value} (h : mlda i lv st = some r) : ∃ x, alk i lv = some (.ref x) ∧ r = .ref x :: st := by
  unfold mlda at h
  split at h
  · cases h
    exact ⟨_, by assumption, rfl⟩
  · cases h
theorem msti_inv {nL i : Nat} {lv : List (Nat × Value)} {st : List Value} {r : List (Nat × Value) × List Value} (h : msti nL i lv st = some r) : ∃ x t, st = .int x :: t ∧ i < nL ∧ r = ((i, .int x) :: lvw i lv, t) := by
  unfold msti at h
  split at h
  · split at h
    · cases h
      exact ⟨_, _, rfl, by assumption, rfl⟩
    · cases h
  · cases h
theorem mstl_inv {nL i : Nat} {lv : List (Nat × Value)} {st : List Value} {r : List (Nat × Value) × List Value} (h : mstl nL i lv st = some r) : ∃ x t, st = .long x :: t ∧ i + 1 < nL ∧ r = ((i, .long x) :: lvl i lv, t) := by
  unfold mstl at h
  split at h
  · split at h
    · cases h
      exact ⟨_, _, rfl, by assumption, rfl⟩
    · cases h
  · cases h
theorem msta_inv {nL i : Nat} {lv : List (Nat × Value)} {st : List Value} {r : List (Nat × Value) × List Value} (h : msta nL i lv st = some r) : ∃ x t, st = .ref x :: t ∧ i < nL ∧ r = ((i, .ref x) :: lvw i lv, t) := by
  unfold msta at h
  split at h
  · split at h
    · cases h
      exact ⟨_, _, rfl, by assumption, rfl⟩
    · cases h
  · cases h
theorem minc_inv {nL i : Nat} {n : Int} {lv r : List (Nat × Value)} (h : minc nL i n lv = some r) : ∃ x, alk i lv = some (.int x) ∧ i < nL ∧ r = (i, .int (x + Int32.ofInt n)) :: lvw i lv := by
  unfold minc at h
  split at h
  · split at h
    · cases h
      exact ⟨_, by assumption, by assumption, rfl⟩
    · cases h
  · cases h
theorem mloc_W (hx : p.tables.exec = Jvm.exec) (hb : c.code = cc) {i : Instr} {lv lv' : List (Nat × Value)} {st st' : List Value} {n nL : Nat} (h : mloc nL i lv st = some (lv', st', n)) (hd : decode cc pc = .ok (i, n)) (hl : lv_has ls nL (mlv ad lv))
    (k : ∀ ls' : Array Slot, lv_has ls' nL (mlv ad lv') → W p l e R s m args below meth c H locs cells slots Q (F0 m (pc + n) ls' (st'.map (mv ad)))) : W p l e R s m args below meth c H locs cells slots Q (F0 m pc ls (st.map (mv ad))) := by
  cases i <;> first | (have h' : (none : Option (List (Nat × Value) × List Value × Nat)) = some (lv', st', n) := h; cases h'; done) | skip
  case iload_n k1 =>
    obtain ⟨r, hr, he⟩ := Option.map_eq_some_iff.mp h
    obtain ⟨x, hxx, rfl⟩ := mldi_inv hr
    cases he
    exact lv_iload_n hx hb hd rfl (mlv_at hl hxx) (k ls hl)
  case iload k1 =>
    obtain ⟨r, hr, he⟩ := Option.map_eq_some_iff.mp h
    obtain ⟨x, hxx, rfl⟩ := mldi_inv hr
    cases he
    exact lv_iload hx hb hd (mlv_at hl hxx) (k ls hl)
  case lload_n k1 =>
    obtain ⟨r, hr, he⟩ := Option.map_eq_some_iff.mp h
    obtain ⟨x, hxx, rfl⟩ := mldl_inv hr
    cases he
    exact lv_lload_n hx hb hd rfl (mlv_at hl hxx) (k ls hl)
  case lload k1 =>
    obtain ⟨r, hr, he⟩ := Option.map_eq_some_iff.mp h
    obtain ⟨x, hxx, rfl⟩ := mldl_inv hr
    cases he
    exact lv_lload hx hb hd (mlv_at hl hxx) (k ls hl)
  case aload_n k1 =>
    obtain ⟨r, hr, he⟩ := Option.map_eq_some_iff.mp h
    obtain ⟨x, hxx, rfl⟩ := mlda_inv hr
    cases he
    exact lv_aload_n hx hb hd rfl (mlv_at hl hxx) (k ls hl)
  case aload k1 =>
    obtain ⟨r, hr, he⟩ := Option.map_eq_some_iff.mp h
    obtain ⟨x, hxx, rfl⟩ := mlda_inv hr
    cases he
    exact lv_aload hx hb hd (mlv_at hl hxx) (k ls hl)
  case istore_n k1 =>
    obtain ⟨r, hr, he⟩ := Option.map_eq_some_iff.mp h
    obtain ⟨x, t, rfl, hi, rfl⟩ := msti_inv hr
    cases he
    exact lv_istore_n hx hb hd rfl hl hi (show _ :: _ = mlv ad (_ :: _) from congrArg (fun z => _ :: z) (mlv_lvw ad k1 lv).symm) k
  case istore k1 =>
    obtain ⟨r, hr, he⟩ := Option.map_eq_some_iff.mp h
    obtain ⟨x, t, rfl, hi, rfl⟩ := msti_inv hr
    cases he
    exact lv_istore hx hb hd hl hi (show _ :: _ = mlv ad (_ :: _) from congrArg (fun z => _ :: z) (mlv_lvw ad k1 lv).symm) k
  case lstore_n k1 =>
    obtain ⟨r, hr, he⟩ := Option.map_eq_some_iff.mp h
    obtain ⟨x, t, rfl, hi, rfl⟩ := mstl_inv hr
    cases he
    exact lv_lstore_n hx hb hd rfl hl hi (show _ :: _ = mlv ad (_ :: _) from congrArg (fun z => _ :: z) (mlv_lvl ad k1 lv).symm) k
  case lstore k1 =>
    obtain ⟨r, hr, he⟩ := Option.map_eq_some_iff.mp h
    obtain ⟨x, t, rfl, hi, rfl⟩ := mstl_inv hr
    cases he
    exact lv_lstore hx hb hd hl hi (show _ :: _ = mlv ad (_ :: _) from congrArg (fun z => _ :: z) (mlv_lvl ad k1 lv).symm) k
  case astore_n k1 =>
    obtain ⟨r, hr, he⟩ := Option.map_eq_some_iff.mp h
    obtain ⟨x, t, rfl, hi, rfl⟩ := msta_inv hr
    cases he
    exact lv_astore_n hx hb hd rfl hl hi (show _ :: _ = mlv ad (_ :: _) from congrArg (fun z => _ :: z) (mlv_lvw ad k1 lv).symm) k
  case astore k1 =>
    obtain ⟨r, hr, he⟩ := Option.map_eq_some_iff.mp h
    obtain ⟨x, t, rfl, hi, rfl⟩ := msta_inv hr
    cases he
    exact lv_astore hx hb hd hl hi (show _ :: _ = mlv ad (_ :: _) from congrArg (fun z => _ :: z) (mlv_lvw ad k1 lv).symm) k
  case iinc k1 n1 =>
    obtain ⟨r, hr, he⟩ := Option.map_eq_some_iff.mp h
    obtain ⟨x, hxx, hi, rfl⟩ := minc_inv hr
    cases he
    obtain ⟨q, hq⟩ := List.getElem?_of_mem (show (k1, Value.int x) ∈ mlv ad lv from List.mem_map.mpr ⟨(k1, .int x), alk_mem hxx, rfl⟩)
    exact lv_iinc hx hb hd hl hq rfl hi (show _ :: _ = mlv ad (_ :: _) from congrArg (fun z => _ :: z) (mlv_lvw ad k1 lv).symm) k
theorem mtg_inv {pc t : Nat} {off : Int} (h : mtg pc off = some t) : (pc : Int) + off = (t : Int) := by
  unfold mtg at h
  split at h
  · cases h
    omega
  · cases h
theorem mif_inv {pc t : Nat} {off : Int} {b : Bool} {r r' : List Value} (h : mif pc off b r = some (t, r')) : r' = r ∧ ∃ t0 : Nat, (pc : Int) + off = (t0 : Int) ∧ ((b = true ∧ t = t0) ∨ (b = false ∧ t = pc + 3)) := by
  unfold mif at h
  obtain ⟨z, hz, he⟩ := Option.map_eq_some_iff.mp h
  cases he
  refine ⟨rfl, z, mtg_inv hz, ?_⟩
  cases b
  · exact Or.inr ⟨rfl, rfl⟩
  · exact Or.inl ⟨rfl, rfl⟩
theorem mjmp_W (hx : p.tables.exec = Jvm.exec) (hb : c.code = cc) {i : Instr} {st st' : List Value} {n pc' : Nat} (h : mjmp pc n i st = some (pc', st')) (hd : decode cc pc = .ok (i, n))
    (k : W p l e R s m args below meth c H locs cells slots Q (F0 m pc' ls (st'.map (mv ad)))) : W p l e R s m args below meth c H locs cells slots Q (F0 m pc ls (st.map (mv ad))) := by
  cases i <;> first | (have h' : (none : Option (Nat × List Value)) = some (pc', st') := h; cases h'; done) | skip
  case goto off =>
    simp only [mjmp] at h
    split at h
    case isFalse => cases h
    rename_i hn
    subst hn
    obtain ⟨t, ht, he⟩ := Option.map_eq_some_iff.mp h
    cases he
    exact lv_goto hx hb hd (mtg_inv ht) k
  case ifCond cd1 off =>
    simp only [mjmp] at h
    split at h
    case isFalse => cases h
    rename_i hn
    subst hn
    unfold mi1 at h
    split at h
    case h_2 => cases h
    obtain ⟨rfl, t0, ht, hh⟩ := mif_inv h
    cases cd1
    case eq =>
      rcases hh with ⟨hp, rfl⟩ | ⟨hp, rfl⟩
      · have hp := of_decide_eq_true hp
        exact lv_if_eq hx hb hd ht (fun _ => k) (fun q => absurd hp (by first | exact q | exact fun z => z q))
      · have hp := of_decide_eq_false hp
        exact lv_if_eq hx hb hd ht (fun q => absurd q hp) (fun _ => k)
    case ne =>
      rcases hh with ⟨hp, rfl⟩ | ⟨hp, rfl⟩
      · have hp := of_decide_eq_true hp
        exact lv_if_ne hx hb hd ht (fun _ => k) (fun q => absurd hp (by first | exact q | exact fun z => z q))
      · have hp := of_decide_eq_false hp
        exact lv_if_ne hx hb hd ht (fun q => absurd q hp) (fun _ => k)
    case lt =>
      rcases hh with ⟨hp, rfl⟩ | ⟨hp, rfl⟩
      · have hp := of_decide_eq_true hp
        exact lv_if_lt hx hb hd ht (fun _ => k) (fun q => absurd hp (by first | exact q | exact fun z => z q))
      · have hp := of_decide_eq_false hp
        exact lv_if_lt hx hb hd ht (fun q => absurd q hp) (fun _ => k)
    case ge =>
      rcases hh with ⟨hp, rfl⟩ | ⟨hp, rfl⟩
      · have hp := of_decide_eq_true hp
        exact lv_if_ge hx hb hd ht (fun _ => k) (fun q => absurd hp (by first | exact q | exact fun z => z q))
      · have hp := of_decide_eq_false hp
        exact lv_if_ge hx hb hd ht (fun q => absurd q hp) (fun _ => k)
    case gt =>
      rcases hh with ⟨hp, rfl⟩ | ⟨hp, rfl⟩
      · have hp := of_decide_eq_true hp
        exact lv_if_gt hx hb hd ht (fun _ => k) (fun q => absurd hp (by first | exact q | exact fun z => z q))
      · have hp := of_decide_eq_false hp
        exact lv_if_gt hx hb hd ht (fun q => absurd q hp) (fun _ => k)
    case le =>
      rcases hh with ⟨hp, rfl⟩ | ⟨hp, rfl⟩
      · have hp := of_decide_eq_true hp
        exact lv_if_le hx hb hd ht (fun _ => k) (fun q => absurd hp (by first | exact q | exact fun z => z q))
      · have hp := of_decide_eq_false hp
        exact lv_if_le hx hb hd ht (fun q => absurd q hp) (fun _ => k)
  case if_icmp cd1 off =>
    simp only [mjmp] at h
    split at h
    case isFalse => cases h
    rename_i hn
    subst hn
    unfold mi2 at h
    split at h
    case h_2 => cases h
    obtain ⟨rfl, t0, ht, hh⟩ := mif_inv h
    cases cd1
    case eq =>
      rcases hh with ⟨hp, rfl⟩ | ⟨hp, rfl⟩
      · have hp := of_decide_eq_true hp
        exact lv_icmp_eq hx hb hd ht (fun _ => k) (fun q => absurd hp (by first | exact q | exact fun z => z q))
      · have hp := of_decide_eq_false hp
        exact lv_icmp_eq hx hb hd ht (fun q => absurd q hp) (fun _ => k)
    case ne =>
      rcases hh with ⟨hp, rfl⟩ | ⟨hp, rfl⟩
      · have hp := of_decide_eq_true hp
        exact lv_icmp_ne hx hb hd ht (fun _ => k) (fun q => absurd hp (by first | exact q | exact fun z => z q))
      · have hp := of_decide_eq_false hp
        exact lv_icmp_ne hx hb hd ht (fun q => absurd q hp) (fun _ => k)
    case lt =>
      rcases hh with ⟨hp, rfl⟩ | ⟨hp, rfl⟩
      · have hp := of_decide_eq_true hp
        exact lv_icmp_lt hx hb hd ht (fun _ => k) (fun q => absurd hp (by first | exact q | exact fun z => z q))
      · have hp := of_decide_eq_false hp
        exact lv_icmp_lt hx hb hd ht (fun q => absurd q hp) (fun _ => k)
    case ge =>
      rcases hh with ⟨hp, rfl⟩ | ⟨hp, rfl⟩
      · have hp := of_decide_eq_true hp
        exact lv_icmp_ge hx hb hd ht (fun _ => k) (fun q => absurd hp (by first | exact q | exact fun z => z q))
      · have hp := of_decide_eq_false hp
        exact lv_icmp_ge hx hb hd ht (fun q => absurd q hp) (fun _ => k)
    case gt =>
      rcases hh with ⟨hp, rfl⟩ | ⟨hp, rfl⟩
      · have hp := of_decide_eq_true hp
        exact lv_icmp_gt hx hb hd ht (fun _ => k) (fun q => absurd hp (by first | exact q | exact fun z => z q))
      · have hp := of_decide_eq_false hp
        exact lv_icmp_gt hx hb hd ht (fun q => absurd q hp) (fun _ => k)
    case le =>
      rcases hh with ⟨hp, rfl⟩ | ⟨hp, rfl⟩
      · have hp := of_decide_eq_true hp
        exact lv_icmp_le hx hb hd ht (fun _ => k) (fun q => absurd hp (by first | exact q | exact fun z => z q))
      · have hp := of_decide_eq_false hp
        exact lv_icmp_le hx hb hd ht (fun q => absurd q hp) (fun _ => k)
  case ifnull off =>
    simp only [mjmp] at h
    split at h
    case isFalse => cases h
    rename_i hn
    subst hn
    unfold mnl at h
    split at h
    case h_3 => cases h
    case h_1 =>
      obtain ⟨rfl, t0, ht, hh⟩ := mif_inv h
      rcases hh with ⟨-, rfl⟩ | ⟨hp, -⟩
      · exact lv_ifnullN hx hb hd ht k
      · cases hp
    case h_2 =>
      obtain ⟨rfl, t0, ht, hh⟩ := mif_inv h
      rcases hh with ⟨hp, -⟩ | ⟨-, rfl⟩
      · cases hp
      · exact lv_ifnull hx hb hd k
  case ifnonnull off =>
    simp only [mjmp] at h
    split at h
    case isFalse => cases h
    rename_i hn
    subst hn
    unfold mnl at h
    split at h
    case h_3 => cases h
    case h_1 =>
      obtain ⟨rfl, t0, ht, hh⟩ := mif_inv h
      rcases hh with ⟨hp, -⟩ | ⟨-, rfl⟩
      · cases hp
      · exact lv_ifnonnullN hx hb hd k
    case h_2 =>
      obtain ⟨rfl, t0, ht, hh⟩ := mif_inv h
      rcases hh with ⟨-, rfl⟩ | ⟨hp, -⟩
      · exact lv_ifnonnull hx hb hd ht k
      · cases hp
  case tableswitch d1 lo hi offs =>
    simp only [mjmp, mtab] at h
    split at h
    case h_2 => cases h
    split at h
    case isTrue q => 
      obtain ⟨t, ht, he⟩ := Option.map_eq_some_iff.mp h
      cases he
      exact lv_tableOut hx hb hd q (mtg_inv ht) k
    case isFalse q =>
      split at h
      case h_2 => cases h
      case h_1 o1 ho =>
        obtain ⟨t, ht, he⟩ := Option.map_eq_some_iff.mp h
        cases he
        exact lv_tableIn hx hb hd (fun z => q (Or.inl z)) (fun z => q (Or.inr z)) ho (mtg_inv ht) k
end MS
