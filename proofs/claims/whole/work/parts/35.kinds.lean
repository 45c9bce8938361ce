/-! What stays: a cell's kind, class, length; slots made. -/
def knd (e : mE) : Nat × Nat × Nat := match e with
  | .inl (t, n, _) => (0, t, n)
  | .inr (ci, fs) => (1, ci, fs.length)
theorem kn_set {hp : List mE} {a : Nat} {e e' : mE} (h : hp[a]? = some e) (hk : knd e' = knd e) : (hp.set a e').map knd = hp.map knd := by
  apply List.ext_getElem?
  intro j
  rw [List.getElem?_map, List.getElem?_map, List.getElem?_set]
  by_cases hj : a = j
  · subst hj
    rw [if_pos rfl, if_pos (List.getElem?_eq_some_iff.mp h).1, h]
    exact congrArg some hk
  · rw [if_neg hj]
theorem mhp_kn {k n : Nat} {i : Instr} {st st' : List Value} {hp hp' : List mE} (h : mhp k i st hp = some (st', hp', n)) : hp'.map knd = hp.map knd := by
  cases i <;> first | (have h' : (none : Option (List Value × List mE × Nat)) = some (st', hp', n) := h; cases h'; done) | skip
  case putfield ix =>
    obtain ⟨r, hr, he⟩ := Option.map_eq_some_iff.mp h
    cases he
    unfold mput at hr
    split at hr
    case h_2 => cases hr
    split at hr
    case h_2 => cases hr
    rename_i hf hc
    split at hr
    case h_2 => cases hr
    split at hr
    case isFalse => cases hr
    cases hr
    refine kn_set hc ?_
    simp only [knd, List.length_set]
  case iastore =>
    obtain ⟨r, hr, he⟩ := Option.map_eq_some_iff.mp h
    cases he
    unfold miast at hr
    split at hr
    case h_2 => cases hr
    split at hr
    case h_2 => cases hr
    split at hr
    case isTrue => cases hr
    rename_i hc hi
    cases hr
    exact kn_set hc rfl
  case bastore =>
    obtain ⟨r, hr, he⟩ := Option.map_eq_some_iff.mp h
    cases he
    unfold mzast at hr
    split at hr
    case h_2 => cases hr
    split at hr
    case h_2 => cases hr
    split at hr
    case isTrue => cases hr
    rename_i hc hi
    cases hr
    exact kn_set hc rfl
  case lastore =>
    obtain ⟨r, hr, he⟩ := Option.map_eq_some_iff.mp h
    cases he
    unfold mlast at hr
    split at hr
    case h_2 => cases hr
    split at hr
    case h_2 => cases hr
    split at hr
    case isTrue => cases hr
    rename_i hc hi
    cases hr
    exact kn_set hc rfl
  all_goals
    obtain ⟨r, hr, he⟩ := Option.map_eq_some_iff.mp h
    cases he
    rfl
theorem mmk_kn {k n z : Nat} {i : Instr} {lv : List (Nat × Value)} {st st' : List Value} {hp hp' : List mE} (h : mmk k i lv st hp = some (st', hp', z, n)) : ∃ q : Nat × Nat × Nat, hp'.map knd = hp.map knd ++ [q] ∧ q.2.2 = z := by
  cases i <;> first | (have h' : (none : Option (List Value × List mE × Nat × Nat)) = some (st', hp', z, n) := h; cases h'; done) | skip
  case new ix =>
    obtain ⟨r, hr, he⟩ := Option.map_eq_some_iff.mp h
    cases he
    unfold mnew at hr
    split at hr
    case h_2 => cases hr
    split at hr
    case h_2 => cases hr
    split at hr
    case isFalse => cases hr
    cases hr
    exact ⟨_, by rw [List.map_append]; rfl, rfl⟩
  case newarray t =>
    obtain ⟨r, hr, he⟩ := Option.map_eq_some_iff.mp h
    cases he
    unfold mnewa at hr
    split at hr
    case h_2 => cases hr
    split at hr
    case isFalse => cases hr
    split at hr
    case h_4 => cases hr
    all_goals
      cases hr
      exact ⟨_, by rw [List.map_append]; rfl, rfl⟩
theorem exec_kn : ∀ (f d k pc : Nat) (lv : List (Nat × Value)) (st : List Value) (hp : List mE) (c w : Nat) (r : Option Value) (hp' : List mE) (c' w' : Nat), exec f d k pc lv st hp c w = some (r, hp', c', w') → ∃ nw : List (Nat × Nat × Nat), hp'.map knd = hp.map knd ++ nw ∧ w' = w + (nw.map (fun q => q.2.2)).sum := by
  intro f
  induction f with
  | zero => intro d k pc lv st hp c w r hp' c' w' h; cases h
  | succ f ih =>
    intro d k pc lv st hp c w r hp' c' w' h
    unfold exec at h
    cases h0 : ins k pc with
    | none => rw [h0] at h; cases h
    | some x =>
    obtain ⟨i, n⟩ := x
    rw [h0] at h
    dsimp only at h
    cases h1 : mpure i st with
    | some x =>
      rw [h1] at h
      dsimp only at h
      split at h
      · exact ih _ _ _ _ _ _ _ _ _ _ _ _ h
      · cases h
    | none =>
    rw [h1] at h
    dsimp only at h
    cases h2 : mloc (mlen k) i lv st with
    | some x =>
      rw [h2] at h
      dsimp only at h
      split at h
      · exact ih _ _ _ _ _ _ _ _ _ _ _ _ h
      · cases h
    | none =>
    rw [h2] at h
    dsimp only at h
    cases h3 : mjmp pc n i st with
    | some x =>
      rw [h3] at h
      exact ih _ _ _ _ _ _ _ _ _ _ _ _ h
    | none =>
    rw [h3] at h
    dsimp only at h
    cases h4 : mhp k i st hp with
    | some x =>
      obtain ⟨st', hp2, n'⟩ := x
      rw [h4] at h
      dsimp only at h
      split at h
      · have g := ih _ _ _ _ _ _ _ _ _ _ _ _ h
        rw [mhp_kn h4] at g
        exact g
      · cases h
    | none =>
    rw [h4] at h
    dsimp only at h
    cases h5 : mend k i n st with
    | some x => rw [h5] at h; cases h; exact ⟨[], by simp, by simp⟩
    | none =>
    rw [h5] at h
    dsimp only at h
    cases h6 : mcl0 k i st with
    | some x =>
      obtain ⟨kd, k', as, rr⟩ := x
      rw [h6] at h
      dsimp only at h
      cases d with
      | zero => cases h
      | succ d' =>
      dsimp only at h
      split at h
      case isFalse => cases h
      cases h7 : exec f d' k' 0 (lv_args 0 as) [] hp 0 0 with
      | none => rw [h7] at h; cases h
      | some y =>
      obtain ⟨v, hp1, c1, w1⟩ := y
      rw [h7] at h
      dsimp only at h
      split at h
      · obtain ⟨n2, g1, g2⟩ := ih _ _ _ _ _ _ _ _ _ _ _ _ h
        obtain ⟨n1, g3, g4⟩ := ih _ _ _ _ _ _ _ _ _ _ _ _ h7
        refine ⟨n1 ++ n2, by rw [g1, g3, List.append_assoc], ?_⟩
        rw [List.map_append, List.sum_append]
        omega
      · cases h
    | none =>
    rw [h6] at h
    dsimp only at h
    cases h7 : mmk k i lv st hp with
    | some x =>
      obtain ⟨st', hp2, z, n'⟩ := x
      rw [h7] at h
      dsimp only at h
      split at h
      · obtain ⟨n2, g1, g2⟩ := ih _ _ _ _ _ _ _ _ _ _ _ _ h
        obtain ⟨q, g3, g4⟩ := mmk_kn h7
        refine ⟨q :: n2, by rw [g1, g3, List.append_assoc]; rfl, ?_⟩
        rw [List.map_cons, List.sum_cons]
        omega
      · cases h
    | none =>
    rw [h7] at h
    dsimp only at h
    cases h8 : mobj k i st with
    | none =>
      rw [h8] at h
      dsimp only at h
      cases h9 : mmn k i st with
      | none =>
        rw [h9] at h
        dsimp only at h
        cases h10 : msr k i st with
        | none => rw [h10] at h; cases h
        | some x =>
        rw [h10] at h
        dsimp only at h
        split at h
        · exact ih _ _ _ _ _ _ _ _ _ _ _ _ h
        · cases h
      | some st' =>
      rw [h9] at h
      dsimp only at h
      cases d with
      | zero => cases h
      | succ d' =>
      dsimp only at h
      split at h
      · exact ih _ _ _ _ _ _ _ _ _ _ _ _ h
      · cases h
    | some st' =>
    rw [h8] at h
    dsimp only at h
    cases d with
    | zero => cases h
    | succ d' =>
    dsimp only at h
    split at h
    · exact ih _ _ _ _ _ _ _ _ _ _ _ _ h
    · cases h
