/-! Rules with names for what is stored; the number of cells. -/
theorem mmk_len {k n z : Nat} {i : Instr} {lv : List (Nat × Value)} {st st' : List Value} {hp hp' : List mE} (h : mmk k i lv st hp = some (st', hp', z, n)) : hp'.length = hp.length + 1 := by
  cases i <;> first | (have h' : (none : Option (List Value × List mE × Nat × Nat)) = some (st', hp', z, n) := h; cases h'; done) | skip
  case new ix =>
    obtain ⟨r, hr, he⟩ := Option.map_eq_some_iff.mp h
    cases he
    unfold mnew at hr
    split at hr
    case h_2 => cases hr
    split at hr
    case h_2 => cases hr
    split at hr
    case isFalse => cases hr
    cases hr
    simp
  case newarray t =>
    obtain ⟨r, hr, he⟩ := Option.map_eq_some_iff.mp h
    cases he
    unfold mnewa at hr
    split at hr
    case h_2 => cases hr
    split at hr
    case isFalse => cases hr
    split at hr
    case h_4 => cases hr
    all_goals
      cases hr
      simp
theorem exec_len : ∀ (f d k pc : Nat) (lv : List (Nat × Value)) (st : List Value) (hp : List mE) (c w : Nat) (r : Option Value) (hp' : List mE) (c' w' : Nat), exec f d k pc lv st hp c w = some (r, hp', c', w') → hp'.length + c = hp.length + c' := by
  intro f
  induction f with
  | zero => intro d k pc lv st hp c w r hp' c' w' h; cases h
  | succ f ih =>
    intro d k pc lv st hp c w r hp' c' w' h
    unfold exec at h
    cases h0 : ins k pc with
    | none => rw [h0] at h; cases h
    | some x =>
    obtain ⟨i, n⟩ := x
    rw [h0] at h
    dsimp only at h
    cases h1 : mpure i st with
    | some x =>
      rw [h1] at h
      dsimp only at h
      split at h
      · exact ih _ _ _ _ _ _ _ _ _ _ _ _ h
      · cases h
    | none =>
    rw [h1] at h
    dsimp only at h
    cases h2 : mloc (mlen k) i lv st with
    | some x =>
      rw [h2] at h
      dsimp only at h
      split at h
      · exact ih _ _ _ _ _ _ _ _ _ _ _ _ h
      · cases h
    | none =>
    rw [h2] at h
    dsimp only at h
    cases h3 : mjmp pc n i st with
    | some x =>
      rw [h3] at h
      exact ih _ _ _ _ _ _ _ _ _ _ _ _ h
    | none =>
    rw [h3] at h
    dsimp only at h
    cases h4 : mhp k i st hp with
    | some x =>
      obtain ⟨st', hp2, n'⟩ := x
      rw [h4] at h
      dsimp only at h
      split at h
      · have g := ih _ _ _ _ _ _ _ _ _ _ _ _ h
        rw [mhp_len h4] at g
        exact g
      · cases h
    | none =>
    rw [h4] at h
    dsimp only at h
    cases h5 : mend k i n st with
    | some x => rw [h5] at h; cases h; rfl
    | none =>
    rw [h5] at h
    dsimp only at h
    cases h6 : mcl0 k i st with
    | some x =>
      obtain ⟨kd, k', as, rr⟩ := x
      rw [h6] at h
      dsimp only at h
      cases d with
      | zero => cases h
      | succ d' =>
      dsimp only at h
      split at h
      case isFalse => cases h
      cases h7 : exec f d' k' 0 (lv_args 0 as) [] hp 0 0 with
      | none => rw [h7] at h; cases h
      | some y =>
      obtain ⟨v, hp1, c1, w1⟩ := y
      rw [h7] at h
      dsimp only at h
      split at h
      · have g1 := ih _ _ _ _ _ _ _ _ _ _ _ _ h
        have g2 := ih _ _ _ _ _ _ _ _ _ _ _ _ h7
        omega
      · cases h
    | none =>
    rw [h6] at h
    dsimp only at h
    cases h7 : mmk k i lv st hp with
    | some x =>
      obtain ⟨st', hp2, z, n'⟩ := x
      rw [h7] at h
      dsimp only at h
      split at h
      · have g := ih _ _ _ _ _ _ _ _ _ _ _ _ h
        rw [mmk_len h7] at g
        omega
      · cases h
    | none =>
    rw [h7] at h
    dsimp only at h
    cases h8 : mobj k i st with
    | none =>
      rw [h8] at h
      dsimp only at h
      cases h9 : mmn k i st with
      | none =>
        rw [h9] at h
        dsimp only at h
        cases h10 : msr k i st with
        | none => rw [h10] at h; cases h
        | some x =>
        rw [h10] at h
        dsimp only at h
        split at h
        · exact ih _ _ _ _ _ _ _ _ _ _ _ _ h
        · cases h
      | some st' =>
      rw [h9] at h
      dsimp only at h
      cases d with
      | zero => cases h
      | succ d' =>
      dsimp only at h
      split at h
      · exact ih _ _ _ _ _ _ _ _ _ _ _ _ h
      · cases h
    | some st' =>
    rw [h8] at h
    dsimp only at h
    cases d with
    | zero => cases h
    | succ d' =>
    dsimp only at h
    split at h
    · exact ih _ _ _ _ _ _ _ _ _ _ _ _ h
    · cases h
theorem Rn.len {d k pc : Nat} {lv : List (Nat × Value)} {st : List Value} {hp hp1 : List mE} {c w w1 : Nat} {v : Option Value} (h : Rn d k pc lv st hp c w (v, hp1, c, w1)) : hp1.length = hp.length := by
  obtain ⟨f, hf⟩ := h
  have g := exec_len _ _ _ _ _ _ _ _ _ _ _ _ _ hf
  omega
/-- what a store keeps of the other locals -/
def lvs (i : Nat) (lv lv' : List (Nat × Value)) : Prop := ∀ (j : Nat) (v : Value), j ≠ i → (v.category = 1 ∨ j + 1 ≠ i) → alk j lv = some v → alk j lv' = some v
def lvs2 (i : Nat) (lv lv' : List (Nat × Value)) : Prop := ∀ (j : Nat) (v : Value), j ≠ i → j ≠ i + 1 → (v.category = 1 ∨ j + 1 ≠ i) → alk j lv = some v → alk j lv' = some v
section RT
variable {d k pc m : Nat} {lv : List (Nat × Value)} {st rr as : List Value} {hp hp1 : List mE} {c w : Nat} {r : mX}
theorem Rn.ic {n : Int} {v : Int32} (hi : ins k pc = some (.iconst n, 1)) (hv : Int32.ofInt n = v) (g : Rn d k (pc + 1) lv (.int v :: st) hp c w r) : Rn d k pc lv st hp c w r := by
  subst hv
  exact Rn.p hi rfl g
theorem Rn.bp {n : Int} {v : Int32} (hi : ins k pc = some (.bipush n, 2)) (hv : (Int8.ofInt n).toInt32 = v) (g : Rn d k (pc + 2) lv (.int v :: st) hp c w r) : Rn d k pc lv st hp c w r := by
  subst hv
  exact Rn.p hi rfl g
theorem Rn.sp {n : Int} {v : Int32} (hi : ins k pc = some (.sipush n, 3)) (hv : (Int16.ofInt n).toInt32 = v) (g : Rn d k (pc + 3) lv (.int v :: st) hp c w r) : Rn d k pc lv st hp c w r := by
  subst hv
  exact Rn.p hi rfl g
theorem Rn.lc {n : Fin 2} {v : Int64} (hi : ins k pc = some (.lconst n, 1)) (hv : Int64.ofNat (n : Nat) = v) (g : Rn d k (pc + 1) lv (.long v :: st) hp c w r) : Rn d k pc lv st hp c w r := by
  subst hv
  exact Rn.p hi rfl g
theorem Rn.idv {x y : Int32} (hi : ins k pc = some (.idiv, 1)) (hy : ¬ y = 0) (g : Rn d k (pc + 1) lv (.int (x / y) :: st) hp c w r) : Rn d k pc lv (.int y :: .int x :: st) hp c w r :=
  Rn.p hi (by simp only [mpure, mdv, if_neg hy]; rfl) g
theorem Rn.irm {x y : Int32} (hi : ins k pc = some (.irem, 1)) (hy : ¬ y = 0) (g : Rn d k (pc + 1) lv (.int (x - x / y * y) :: st) hp c w r) : Rn d k pc lv (.int y :: .int x :: st) hp c w r :=
  Rn.p hi (by simp only [mpure, mdv, if_neg hy]; rfl) g
theorem Rn.isn {j : Fin 4} {i nL : Nat} {x : Int32} (hi : ins k pc = some (.istore_n j, 1)) (hji : (j : Nat) = i) (hL : mlen k = nL) (hj : i < nL) (g : ∀ lv' : List (Nat × Value), alk i lv' = some (.int x) → lvs i lv lv' → (lvk m lv → lvk m lv') → Rn d k (pc + 1) lv' st hp c w r) : Rn d k pc lv (.int x :: st) hp c w r := by
  subst hji
  exact Rn.istore_n hi hL hj (g _ alk_here (fun j v h1 h2 h3 => alk_keep h3 h1 h2) (fun h => lvk_w h rfl))
theorem Rn.is {i nL : Nat} {x : Int32} (hi : ins k pc = some (.istore i, 2)) (hL : mlen k = nL) (hj : i < nL) (g : ∀ lv' : List (Nat × Value), alk i lv' = some (.int x) → lvs i lv lv' → (lvk m lv → lvk m lv') → Rn d k (pc + 2) lv' st hp c w r) : Rn d k pc lv (.int x :: st) hp c w r :=
  Rn.istore hi hL hj (g _ alk_here (fun j v h1 h2 h3 => alk_keep h3 h1 h2) (fun h => lvk_w h rfl))
theorem Rn.lsn {j : Fin 4} {i nL : Nat} {x : Int64} (hi : ins k pc = some (.lstore_n j, 1)) (hji : (j : Nat) = i) (hL : mlen k = nL) (hj : i + 1 < nL) (g : ∀ lv' : List (Nat × Value), alk i lv' = some (.long x) → lvs2 i lv lv' → (lvk m lv → lvk m lv') → Rn d k (pc + 1) lv' st hp c w r) : Rn d k pc lv (.long x :: st) hp c w r := by
  subst hji
  exact Rn.lstore_n hi hL hj (g _ alk_here (fun j v h1 h2 h4 h3 => alk_keepl h3 h1 h2 h4) (fun h => lvk_l h rfl))
theorem Rn.ls {i nL : Nat} {x : Int64} (hi : ins k pc = some (.lstore i, 2)) (hL : mlen k = nL) (hj : i + 1 < nL) (g : ∀ lv' : List (Nat × Value), alk i lv' = some (.long x) → lvs2 i lv lv' → (lvk m lv → lvk m lv') → Rn d k (pc + 2) lv' st hp c w r) : Rn d k pc lv (.long x :: st) hp c w r :=
  Rn.lstore hi hL hj (g _ alk_here (fun j v h1 h2 h4 h3 => alk_keepl h3 h1 h2 h4) (fun h => lvk_l h rfl))
theorem Rn.ii {i nL : Nat} {n : Int} {x u : Int32} (hi : ins k pc = some (.iinc i n, 3)) (hL : mlen k = nL) (hj : i < nL) (hu : Int32.ofInt n = u) (h : alk i lv = some (.int x)) (g : ∀ lv' : List (Nat × Value), alk i lv' = some (.int (x + u)) → lvs i lv lv' → (lvk m lv → lvk m lv') → Rn d k (pc + 3) lv' st hp c w r) : Rn d k pc lv st hp c w r := by
  subst hu
  exact Rn.iinc hi hL hj h (g _ alk_here (fun j v h1 h2 h3 => alk_keep h3 h1 h2) (fun h => lvk_w h rfl))
theorem lvk_args {n : Nat} : ∀ {as : List Value} {i : Nat}, as.all (mokv n) = true → lvk n (lv_args i as)
  | [], _, _ => rfl
  | v :: as, i, h => by
    rw [List.all_cons, Bool.and_eq_true] at h
    show ((i, v) :: lv_args _ as).all (fun q => mokv n q.2) = true
    rw [List.all_cons, Bool.and_eq_true]
    exact ⟨h.1, lvk_args h.2⟩
end RT
theorem okr {n a : Nat} (h : a < n) : mokv n (.ref a) = true := decide_eq_true (Or.inl h)
theorem okn {n : Nat} : ([] : List Value).all (mokv n) = true := rfl
theorem okc {n : Nat} {v : Value} {l : List Value} (h1 : mokv n v = true) (h2 : l.all (mokv n) = true) : (v :: l).all (mokv n) = true := by
  rw [List.all_cons, h1, h2]
  rfl
theorem tsw_out {x : Int32} {n : Nat} (hn : n < 1000) (h : ∀ j, j ≤ n → ¬ x = nI j) : x.toInt < 0 ∨ (n : Int) < x.toInt := by
  by_cases h1 : x.toInt < 0
  · exact Or.inl h1
  by_cases h2 : (n : Int) < x.toInt
  · exact Or.inr h2
  exact absurd (Int32.toInt_inj.mp (by rw [nI_toInt (by omega)]; omega)) (h x.toInt.toNat (by omega))
theorem mtab_out {pc t : Nat} {dd lo hi : Int} {offs : Array Int} {x : Int32} {st : List Value} (h : x.toInt < lo ∨ hi < x.toInt) (ht : (pc : Int) + dd = (t : Int)) : mtab pc dd lo hi offs (.int x :: st) = some (t, st) := by
  unfold mtab
  dsimp only
  rw [if_pos h, mtg_of ht]
  rfl
theorem Rn.sw {d k pc pc' n : Nat} {lv : List (Nat × Value)} {st st' : List Value} {hp : List mE} {c w : Nat} {r : mX} {dd lo hi : Int} {offs : Array Int} (hi1 : ins k pc = some (.tableswitch dd lo hi offs, n)) (h : mtab pc dd lo hi offs st = some (pc', st')) (g : Rn d k pc' lv st' hp c w r) : Rn d k pc lv st hp c w r :=
  Rn.j hi1 rfl (fun _ => rfl) h g
