/-! A small machine over pictures: cells by their numbers, references are numbers of cells. Its runs are runs of the machine (part 06). -/
abbrev mE : Type := (Nat × vp_A) ⊕ (Nat × List Value)
abbrev mX : Type := Option Value × List mE × Nat × Nat
def alk {α : Type} (a : Nat) : List (Nat × α) → Option α
  | [] => none
  | q :: l => if q.1 = a then some q.2 else alk a l
def plk {α : Type} (a b : Nat) : List ((Nat × Nat) × α) → Option α
  | [] => none
  | q :: l => if q.1.1 = a ∧ q.1.2 = b then some q.2 else plk a b l
theorem alk_mem {α : Type} {a : Nat} {v : α} : ∀ {l : List (Nat × α)}, alk a l = some v → (a, v) ∈ l
  | [], h => by cases h
  | q :: l, h => by
    unfold alk at h
    by_cases hq : q.1 = a
    · rw [if_pos hq] at h
      cases h
      rw [← hq]
      exact List.mem_cons_self
    · rw [if_neg hq] at h
      exact List.mem_cons_of_mem _ (alk_mem h)
theorem plk_mem {α : Type} {a b : Nat} {v : α} : ∀ {l : List ((Nat × Nat) × α)}, plk a b l = some v → ((a, b), v) ∈ l
  | [], h => by cases h
  | q :: l, h => by
    unfold plk at h
    by_cases hq : q.1.1 = a ∧ q.1.2 = b
    · rw [if_pos hq] at h
      cases h
      obtain ⟨⟨q1, q2⟩, q3⟩ := q
      obtain ⟨h1, h2⟩ := hq
      dsimp only at h1 h2
      rw [h1, h2]
      exact List.mem_cons_self
    · rw [if_neg hq] at h
      exact List.mem_cons_of_mem _ (plk_mem h)
def ins (k pc : Nat) : Option (Instr × Nat) := alk pc (cdt k)
/-- two ints, two longs, a long and an int -/
def m2i (f : Int32 → Int32 → Int32) (st : List Value) : Option (List Value) := match st with
  | .int y :: .int x :: r => some (.int (f x y) :: r)
  | _ => none
def m2l (f : Int64 → Int64 → Int64) (st : List Value) : Option (List Value) := match st with
  | .long y :: .long x :: r => some (.long (f x y) :: r)
  | _ => none
def mli (f : Int64 → Int32 → Int64) (st : List Value) : Option (List Value) := match st with
  | .int y :: .long x :: r => some (.long (f x y) :: r)
  | _ => none
def m1i (f : Int32 → Value) (st : List Value) : Option (List Value) := match st with
  | .int x :: r => some (f x :: r)
  | _ => none
def m1l (f : Int64 → Value) (st : List Value) : Option (List Value) := match st with
  | .long x :: r => some (f x :: r)
  | _ => none
def mdv (f : Int32 → Int32 → Int32) (st : List Value) : Option (List Value) := match st with
  | .int y :: .int x :: r => if y = 0 then none else some (.int (f x y) :: r)
  | _ => none
def mcm (st : List Value) : Option (List Value) := match st with
  | .long y :: .long x :: r => some (.int (lg_cmp x y) :: r)
  | _ => none
def mdup (st : List Value) : Option (List Value) := match st with
  | v :: r => if v.category = 1 then some (v :: v :: r) else none
  | _ => none
def mpop (st : List Value) : Option (List Value) := match st with
  | v :: r => if v.category = 1 then some r else none
  | _ => none
def mdup2 (st : List Value) : Option (List Value) := match st with
  | v :: w :: r => if v.category = 1 ∧ w.category = 1 then some (v :: w :: v :: w :: r) else none
  | _ => none
/-- what needs the stack alone -/
def mpure (i : Instr) (st : List Value) : Option (List Value × Nat) := match i with
  | .iconst n => some (.int (Int32.ofInt n) :: st, 1)
  | .bipush n => some (.int (Int8.ofInt n).toInt32 :: st, 2)
  | .sipush n => some (.int (Int16.ofInt n).toInt32 :: st, 3)
  | .lconst n => some (.long (Int64.ofNat (n : Nat)) :: st, 1)
  | .aconst_null => some (.null :: st, 1)
  | .iadd => (m2i (fun x y => x + y) st).map (fun r => (r, 1))
  | .isub => (m2i (fun x y => x - y) st).map (fun r => (r, 1))
  | .imul => (m2i (fun x y => x * y) st).map (fun r => (r, 1))
  | .iand => (m2i (fun x y => x &&& y) st).map (fun r => (r, 1))
  | .ior => (m2i (fun x y => x ||| y) st).map (fun r => (r, 1))
  | .ishl => (m2i (fun x y => x <<< (y &&& 31)) st).map (fun r => (r, 1))
  | .ishr => (m2i (fun x y => x >>> (y &&& 31)) st).map (fun r => (r, 1))
  | .idiv => (mdv (fun x y => x / y) st).map (fun r => (r, 1))
  | .irem => (mdv (fun x y => x - x / y * y) st).map (fun r => (r, 1))
  | .ineg => (m1i (fun x => .int (-x)) st).map (fun r => (r, 1))
  | .ladd => (m2l (fun x y => x + y) st).map (fun r => (r, 1))
  | .lsub => (m2l (fun x y => x - y) st).map (fun r => (r, 1))
  | .lmul => (m2l (fun x y => x * y) st).map (fun r => (r, 1))
  | .land => (m2l (fun x y => x &&& y) st).map (fun r => (r, 1))
  | .lor => (m2l (fun x y => x ||| y) st).map (fun r => (r, 1))
  | .lxor => (m2l (fun x y => x ^^^ y) st).map (fun r => (r, 1))
  | .lneg => (m1l (fun x => .long (-x)) st).map (fun r => (r, 1))
  | .lshl => (mli (fun x y => x <<< (y.toInt64 &&& 63)) st).map (fun r => (r, 1))
  | .lshr => (mli (fun x y => x >>> (y.toInt64 &&& 63)) st).map (fun r => (r, 1))
  | .lushr => (mli (fun x y => (x.toUInt64 >>> (y.toInt64.toUInt64 &&& Int64.toUInt64 63)).toInt64) st).map (fun r => (r, 1))
  | .i2l => (m1i (fun x => .long x.toInt64) st).map (fun r => (r, 1))
  | .l2i => (m1l (fun x => .int x.toInt32) st).map (fun r => (r, 1))
  | .lcmp => (mcm st).map (fun r => (r, 1))
  | .dup => (mdup st).map (fun r => (r, 1))
  | .pop => (mpop st).map (fun r => (r, 1))
  | .dup2 => (mdup2 st).map (fun r => (r, 1))
  | _ => none
def lvw (i : Nat) (lv : List (Nat × Value)) : List (Nat × Value) := lv.filter (fun q => !(q.1 == i) && !(q.1 + 1 == i && q.2.category == 2))
def lvl (i : Nat) (lv : List (Nat × Value)) : List (Nat × Value) := lv.filter (fun q => !(q.1 == i) && (!(q.1 == i + 1) && !(q.1 + 1 == i && q.2.category == 2)))
def mldi (i : Nat) (lv : List (Nat × Value)) (st : List Value) : Option (List Value) := match alk i lv with
  | some (.int x) => some (.int x :: st)
  | _ => none
def mldl (i : Nat) (lv : List (Nat × Value)) (st : List Value) : Option (List Value) := match alk i lv with
  | some (.long x) => some (.long x :: st)
  | _ => none
def mlda (i : Nat) (lv : List (Nat × Value)) (st : List Value) : Option (List Value) := match alk i lv with
  | some (.ref x) => some (.ref x :: st)
  | _ => none
def msti (nL i : Nat) (lv : List (Nat × Value)) (st : List Value) : Option (List (Nat × Value) × List Value) := match st with
  | .int x :: r => if i < nL then some ((i, .int x) :: lvw i lv, r) else none
  | _ => none
def mstl (nL i : Nat) (lv : List (Nat × Value)) (st : List Value) : Option (List (Nat × Value) × List Value) := match st with
  | .long x :: r => if i + 1 < nL then some ((i, .long x) :: lvl i lv, r) else none
  | _ => none
def msta (nL i : Nat) (lv : List (Nat × Value)) (st : List Value) : Option (List (Nat × Value) × List Value) := match st with
  | .ref x :: r => if i < nL then some ((i, .ref x) :: lvw i lv, r) else none
  | _ => none
def minc (nL i : Nat) (n : Int) (lv : List (Nat × Value)) : Option (List (Nat × Value)) := match alk i lv with
  | some (.int x) => if i < nL then some ((i, .int (x + Int32.ofInt n)) :: lvw i lv) else none
  | _ => none
/-- what needs locals and the stack -/
def mloc (nL : Nat) (i : Instr) (lv : List (Nat × Value)) (st : List Value) : Option (List (Nat × Value) × List Value × Nat) := match i with
  | .iload_n k => (mldi k lv st).map (fun r => (lv, r, 1))
  | .iload k => (mldi k lv st).map (fun r => (lv, r, 2))
  | .lload_n k => (mldl k lv st).map (fun r => (lv, r, 1))
  | .lload k => (mldl k lv st).map (fun r => (lv, r, 2))
  | .aload_n k => (mlda k lv st).map (fun r => (lv, r, 1))
  | .aload k => (mlda k lv st).map (fun r => (lv, r, 2))
  | .istore_n k => (msti nL k lv st).map (fun r => (r.1, r.2, 1))
  | .istore k => (msti nL k lv st).map (fun r => (r.1, r.2, 2))
  | .lstore_n k => (mstl nL k lv st).map (fun r => (r.1, r.2, 1))
  | .lstore k => (mstl nL k lv st).map (fun r => (r.1, r.2, 2))
  | .astore_n k => (msta nL k lv st).map (fun r => (r.1, r.2, 1))
  | .astore k => (msta nL k lv st).map (fun r => (r.1, r.2, 2))
  | .iinc k n => (minc nL k n lv).map (fun r => (r, st, 3))
  | _ => none
def mtg (pc : Nat) (off : Int) : Option Nat := if 0 ≤ (pc : Int) + off then some ((pc : Int) + off).toNat else none
def mif (pc : Nat) (off : Int) (b : Bool) (r : List Value) : Option (Nat × List Value) := (mtg pc off).map (fun t => (if b = true then t else pc + 3, r))
def mc1 (c : Jvm.ClassFile.Cond) (x : Int32) : Bool := match c with
  | .eq => decide (x = 0)
  | .ne => decide (¬ x = 0)
  | .lt => decide (x < 0)
  | .ge => decide (0 ≤ x)
  | .gt => decide (0 < x)
  | .le => decide (x ≤ 0)
def mc2 (c : Jvm.ClassFile.Cond) (x y : Int32) : Bool := match c with
  | .eq => decide (x = y)
  | .ne => decide (¬ x = y)
  | .lt => decide (x < y)
  | .ge => decide (y ≤ x)
  | .gt => decide (y < x)
  | .le => decide (x ≤ y)
def mi1 (c : Jvm.ClassFile.Cond) (pc : Nat) (off : Int) (st : List Value) : Option (Nat × List Value) := match st with
  | .int x :: r => mif pc off (mc1 c x) r
  | _ => none
def mi2 (c : Jvm.ClassFile.Cond) (pc : Nat) (off : Int) (st : List Value) : Option (Nat × List Value) := match st with
  | .int y :: .int x :: r => mif pc off (mc2 c x y) r
  | _ => none
def mnl (b : Bool) (pc : Nat) (off : Int) (st : List Value) : Option (Nat × List Value) := match st with
  | .null :: r => mif pc off b r
  | .ref _ :: r => mif pc off (!b) r
  | _ => none
def mtab (pc : Nat) (d lo hi : Int) (offs : Array Int) (st : List Value) : Option (Nat × List Value) := match st with
  | .int x :: r => if x.toInt < lo ∨ hi < x.toInt then (mtg pc d).map (fun t => (t, r)) else match offs[(x.toInt - lo).toNat]? with
    | some o => (mtg pc o).map (fun t => (t, r))
    | none => none
  | _ => none
/-- jumps; n: the instruction's length -/
def mjmp (pc n : Nat) (i : Instr) (st : List Value) : Option (Nat × List Value) := match i with
  | .goto off => if n = 3 then (mtg pc off).map (fun t => (t, st)) else none
  | .ifCond c off => if n = 3 then mi1 c pc off st else none
  | .if_icmp c off => if n = 3 then mi2 c pc off st else none
  | .ifnull off => if n = 3 then mnl true pc off st else none
  | .ifnonnull off => if n = 3 then mnl false pc off st else none
  | .tableswitch d lo hi offs => mtab pc d lo hi offs st
  | _ => none
def mI (k : Nat) : Option mM := mtb[k]?
def mown (k : Nat) : Nat := match mtb[k]? with
  | some q => q.2.2.2.2.1
  | none => 0
def mlen (k : Nat) : Nat := match mtb[k]? with
  | some q => q.2.2.1
  | none => 0
def mret (k : Nat) : Option FieldType := match mtb[k]? with
  | some q => q.2.2.2.1
  | none => none
def mini (k : Nat) : Bool := match mtb[k]? with
  | some q => q.1.name == "<init>"
  | none => false
def mfty (ci f : Nat) : Option FieldType := match mcl[ci]? with
  | some q => parseFieldDescriptor (q.2.1 f).2.2.1
  | none => none
def mfin (ci f : Nat) : Bool := match mcl[ci]? with
  | some q => (q.2.1 f).2.2.2
  | none => false
/-- may this value stand in a field of this type -/
def mfit (ty : FieldType) (v : Value) : Bool := match ty, v with
  | .int, .int _ => true
  | .boolean, .int x => decide (x = 0 ∨ x = 1)
  | .long, .long _ => true
  | .object _, .ref _ => true
  | .object _, .null => true
  | .array _, .ref _ => true
  | .array _, .null => true
  | _, _ => false
def mget (k ix : Nat) (st : List Value) (hp : List mE) : Option (List Value) := match st with
  | .ref a :: r => match plk (mown k) ix flt, hp[a]? with
    | some (_, ci, f, _), some (.inr (cj, fs)) => if ci = cj then (fs[f]?).map (fun v => v :: r) else none
    | _, _ => none
  | _ => none
def mput (k ix : Nat) (st : List Value) (hp : List mE) : Option (List Value × List mE) := match st with
  | v :: .ref a :: r => match plk (mown k) ix flt, hp[a]? with
    | some (nest, ci, f, _), some (.inr (cj, fs)) => match mfty ci f with
      | some ty => if ci = cj ∧ f < fs.length ∧ mfit ty v = true ∧ (mfin ci f = true → nest = false ∧ mini k = true ∧ ci = mown k) then some (r, hp.set a (.inr (cj, fs.set f v))) else none
      | none => none
    | _, _ => none
  | _ => none
def miald (st : List Value) (hp : List mE) : Option (List Value) := match st with
  | .int i :: .ref a :: r => match hp[a]? with
    | some (.inl (0, n, .inl f)) => if i < 0 ∨ n ≤ i.toNatClampNeg then none else some (.int (f i.toNatClampNeg) :: r)
    | _ => none
  | _ => none
def mzald (st : List Value) (hp : List mE) : Option (List Value) := match st with
  | .int i :: .ref a :: r => match hp[a]? with
    | some (.inl (2, n, .inl f)) => if i < 0 ∨ n ≤ i.toNatClampNeg then none else some (.int (f i.toNatClampNeg) :: r)
    | _ => none
  | _ => none
def mlald (st : List Value) (hp : List mE) : Option (List Value) := match st with
  | .int i :: .ref a :: r => match hp[a]? with
    | some (.inl (1, n, .inr (.inl f))) => if i < 0 ∨ n ≤ i.toNatClampNeg then none else some (.long (f i.toNatClampNeg) :: r)
    | _ => none
  | _ => none
def miast (st : List Value) (hp : List mE) : Option (List Value × List mE) := match st with
  | .int x :: .int i :: .ref a :: r => match hp[a]? with
    | some (.inl (0, n, .inl f)) => if i < 0 ∨ n ≤ i.toNatClampNeg then none else some (r, hp.set a (.inl (0, n, .inl (upd f i.toNatClampNeg x))))
    | _ => none
  | _ => none
def mzast (st : List Value) (hp : List mE) : Option (List Value × List mE) := match st with
  | .int x :: .int i :: .ref a :: r => match hp[a]? with
    | some (.inl (2, n, .inl f)) => if i < 0 ∨ n ≤ i.toNatClampNeg then none else some (r, hp.set a (.inl (2, n, .inl (upd f i.toNatClampNeg (vp_nar .boolean x)))))
    | _ => none
  | _ => none
def mlast (st : List Value) (hp : List mE) : Option (List Value × List mE) := match st with
  | .long x :: .int i :: .ref a :: r => match hp[a]? with
    | some (.inl (1, n, .inr (.inl f))) => if i < 0 ∨ n ≤ i.toNatClampNeg then none else some (r, hp.set a (.inl (1, n, .inr (.inl (vp_updL f i.toNatClampNeg x)))))
    | _ => none
  | _ => none
def malen (st : List Value) (hp : List mE) : Option (List Value) := match st with
  | .ref a :: r => match hp[a]? with
    | some (.inl (t, n, _)) => if t < 3 then some (.int (Int32.ofNat n) :: r) else none
    | _ => none
  | _ => none
/-- references are numbers of cells that there are; from 1000000 on: what never moves -/
def mokv (n : Nat) (v : Value) : Bool := match v with
  | .ref a => decide (a < n ∨ 1000000 ≤ a)
  | _ => true
def moke (n : Nat) (e : mE) : Bool := match e with
  | .inl _ => true
  | .inr (_, fs) => fs.all (mokv n)
def mdef (ci : Nat) : Option (List Value) := match mcl[ci]? with
  | some q => some ((List.range q.2.2).map (fun f => match parseFieldDescriptor (q.2.1 f).2.2.1 with
    | some ty => defaultValue ty
    | none => .null))
  | none => none
def mnew (k ix : Nat) (lv : List (Nat × Value)) (st : List Value) (hp : List mE) : Option (List Value × List mE × Nat) := match plk (mown k) ix nlt with
  | some (ci, _) => match mdef ci with
    | some fs => if hp.all (moke hp.length) = true ∧ lv.all (fun q => mokv hp.length q.2) = true ∧ st.all (mokv hp.length) = true ∧ hp.length < 1000000 then some (.ref hp.length :: st, hp ++ [.inr (ci, fs)], fs.length) else none
    | none => none
  | none => none
def mnewa (t : ArrayType) (lv : List (Nat × Value)) (st : List Value) (hp : List mE) : Option (List Value × List mE × Nat) := match st with
  | .int n :: r => if hp.all (moke hp.length) = true ∧ lv.all (fun q => mokv hp.length q.2) = true ∧ r.all (mokv hp.length) = true ∧ hp.length < 1000000 ∧ ¬ n < 0 ∧ n.toNatClampNeg ≤ 67000000 then match t with
    | .int => some (.ref hp.length :: r, hp ++ [.inl (0, n.toNatClampNeg, .inl (fun _ => 0))], n.toNatClampNeg)
    | .long => some (.ref hp.length :: r, hp ++ [.inl (1, n.toNatClampNeg, .inr (.inl (fun _ => 0)))], n.toNatClampNeg)
    | .boolean => some (.ref hp.length :: r, hp ++ [.inl (2, n.toNatClampNeg, .inl (fun _ => 0))], n.toNatClampNeg)
    | _ => none
    else none
  | _ => none
/-- reads and writes of cells, constants: the stack, the cells, the instruction's length -/
def mhp (k : Nat) (i : Instr) (st : List Value) (hp : List mE) : Option (List Value × List mE × Nat) := match i with
  | .getfield ix => (mget k ix st hp).map (fun r => (r, hp, 3))
  | .putfield ix => (mput k ix st hp).map (fun r => (r.1, r.2, 3))
  | .iaload => (miald st hp).map (fun r => (r, hp, 1))
  | .laload => (mlald st hp).map (fun r => (r, hp, 1))
  | .baload => (mzald st hp).map (fun r => (r, hp, 1))
  | .iastore => (miast st hp).map (fun r => (r.1, r.2, 1))
  | .lastore => (mlast st hp).map (fun r => (r.1, r.2, 1))
  | .bastore => (mzast st hp).map (fun r => (r.1, r.2, 1))
  | .arraylength => (malen st hp).map (fun r => (r, hp, 1))
  | .ldc ix => (plk (mown k) ix ilt).map (fun q => (.int q.1 :: st, hp, 2))
  | .ldc2_w ix => (plk (mown k) ix llt).map (fun q => (.long q.1 :: st, hp, 3))
  | _ => none
/-- what makes a cell: the stack, the cells, its slots, the instruction's length -/
def mmk (k : Nat) (i : Instr) (lv : List (Nat × Value)) (st : List Value) (hp : List mE) : Option (List Value × List mE × Nat × Nat) := match i with
  | .new ix => (mnew k ix lv st hp).map (fun r => (r.1, r.2.1, r.2.2, 3))
  | .newarray t => (mnewa t lv st hp).map (fun r => (r.1, r.2.1, r.2.2, 2))
  | _ => none
/-- an end -/
def mend (k : Nat) (i : Instr) (n : Nat) (st : List Value) : Option (Option Value) := if n = 1 then match i, st with
  | .ireturn, [.int v] => if mret k = some .int ∨ (mret k = some .boolean ∧ (v = 0 ∨ v = 1)) then some (some (.int v)) else none
  | .lreturn, [.long v] => if mret k = some .long then some (some (.long v)) else none
  | .areturn, [.ref a] => match mret k with
    | some (.object _) => some (some (.ref a))
    | _ => none
  | .return_, [] => if mret k = none then some none else none
  | _, _ => none
  else none
/-- a call: kind, method, its arguments (the receiver ahead), the stack behind it -/
def mcl0 (k : Nat) (i : Instr) (st : List Value) : Option (Nat × Nat × List Value × List Value) := match i with
  | .invokevirtual ix => match plk (mown k) ix mlt with
    | some (kd, k', _) => match mtb[k']? with
      | some q => if kd < 2 ∧ q.2.2.2.2.2.2.2 + 1 ≤ st.length then some (kd, k', (st.take (q.2.2.2.2.2.2.2 + 1)).reverse, st.drop (q.2.2.2.2.2.2.2 + 1)) else none
      | none => none
    | none => none
  | .invokestatic ix => match plk (mown k) ix mlt with
    | some (kd, k', _) => match mtb[k']? with
      | some q => if kd = 2 ∧ q.2.2.2.2.2.2.2 ≤ st.length then some (kd, k', (st.take q.2.2.2.2.2.2.2).reverse, st.drop q.2.2.2.2.2.2.2) else none
      | none => none
    | none => none
  | .invokespecial ix => match plk (mown k) ix mlt with
    | some (kd, k', _) => match mtb[k']? with
      | some q => if kd = 5 ∧ q.2.2.2.2.2.2.2 + 1 ≤ st.length then some (kd, k', (st.take (q.2.2.2.2.2.2.2 + 1)).reverse, st.drop (q.2.2.2.2.2.2.2 + 1)) else none
      | none => none
    | none => none
  | _ => none
def mobj (k : Nat) (i : Instr) (st : List Value) : Option (List Value) := match i, st with
  | .invokespecial ix, .ref _ :: r => match plk (mown k) ix mlt with
    | some (kd, _) => if kd = 6 ∧ (r.map fun v => v.category).sum ≤ 8 then some r else none
    | none => none
  | _, _ => none
/-- Math.min -/
def mmn (k : Nat) (i : Instr) (st : List Value) : Option (List Value) := match i, st with
  | .invokestatic ix, .int y :: .int x :: r => if mown k = mnix.1 ∧ ix = mnix.2 ∧ (r.map fun v => v.category).sum ≤ 8 then some (.int (if y < x then y else x) :: r) else none
  | _, _ => none
/-- the char of a String constant -/
def sch (i : Nat) (x : Int32) : Int32 := ((((sByt.getD i []).getD x.toNatClampNeg 0) &&& 255).toUInt32 % 65536).toInt32
/-- String constants: 1000001 and 1000002, their length and chars -/
def msr (k : Nat) (i : Instr) (st : List Value) : Option (List Value × Nat) := match i, st with
  | .ldc ix, st => (plk (mown k) ix slt).map (fun j => (.ref (1000001 + j) :: st, 2))
  | .invokevirtual ix, .ref a :: r => if mown k = slx.1 ∧ ix = slx.2.1 ∧ (a = 1000001 ∨ a = 1000002) ∧ (r.map fun v => v.category).sum ≤ 8 then some (.int (Int32.ofNat (sLen.getD (a - 1000001) 0) >>> ((0 : Int32) &&& 31)) :: r, 3) else none
  | .invokevirtual ix, .int x :: .ref a :: r => if mown k = slx.1 ∧ ix = slx.2.2 ∧ (a = 1000001 ∨ a = 1000002) ∧ ¬ (x < 0 ∨ sLen.getD (a - 1000001) 0 ≤ x.toNatClampNeg) ∧ (r.map fun v => v.category).sum ≤ 8 then some (.int (sch (a - 1000001) x) :: r, 3) else none
  | _, _ => none
/-- the receiver is an object of the method's class -/
def mrcv (kd k' : Nat) (as : List Value) (hp : List mE) : Bool := if kd < 2 then match as with
    | .ref a :: _ => match hp[a]? with
      | some (.inr (ci, _)) => ci == mown k'
      | _ => false
    | _ => false
  else if kd = 5 then match as with
    | .ref _ :: _ => true
    | _ => false
  else true
/-- f: steps, d: depth, k: method, c w: cells made so far and their slots -/
def exec : Nat → Nat → Nat → Nat → List (Nat × Value) → List Value → List mE → Nat → Nat → Option mX
  | 0, _, _, _, _, _, _, _, _ => none
  | f + 1, d, k, pc, lv, st, hp, c, w => match ins k pc with
    | none => none
    | some (i, n) => match mpure i st with
      | some (st', n') => if n' = n then exec f d k (pc + n) lv st' hp c w else none
      | none => match mloc (mlen k) i lv st with
        | some (lv', st', n') => if n' = n then exec f d k (pc + n) lv' st' hp c w else none
        | none => match mjmp pc n i st with
          | some (pc', st') => exec f d k pc' lv st' hp c w
          | none => match mhp k i st hp with
            | some (st', hp', n') => if n' = n then exec f d k (pc + n) lv st' hp' c w else none
            | none => match mend k i n st with
              | some r => some (r, hp, c, w)
              | none => match mcl0 k i st with
                | some (kd, k', as, r) => match d with
                  | 0 => none
                  | d' + 1 => if n = 3 ∧ mrcv kd k' as hp = true ∧ (r.map fun v => v.category).sum ≤ 8 ∧ as.all (mokv hp.length) = true ∧ r.all (mokv hp.length) = true ∧ lv.all (fun q => mokv hp.length q.2) = true then match exec f d' k' 0 (lv_args 0 as) [] hp 0 0 with
                    | some (v, hp', c', w') => if (lg_sl as).length ≤ mlen k' then exec f d k (pc + 3) lv (v.toList ++ r) hp' (c + c') (w + w') else none
                    | none => none
                    else none
                | none => match mmk k i lv st hp with
                  | some (st', hp', z, n') => if n' = n then exec f d k (pc + n) lv st' hp' (c + 1) (w + z) else none
                  | none => match mobj k i st with
                    | some st' => match d with
                      | 0 => none
                      | d' + 1 => if n = 3 then exec f (d' + 1) k (pc + 3) lv st' hp c w else none
                    | none => match mmn k i st with
                      | some st' => match d with
                        | 0 => none
                        | d' + 1 => if n = 3 then exec f (d' + 1) k (pc + 3) lv st' hp c w else none
                      | none => match msr k i st with
                        | some (st', n') => if n' = n ∧ 5 ≤ d then exec f d k (pc + n) lv st' hp c w else none
                        | none => none
