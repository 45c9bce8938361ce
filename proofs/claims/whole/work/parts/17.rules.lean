/-! Rules for runs of the small machine: goal first, no fuel. -/
theorem exec_mono : ∀ (f d k pc : Nat) (lv : List (Nat × Value)) (st : List Value) (hp : List mE) (c w : Nat) (r : mX) (g : Nat), exec f d k pc lv st hp c w = some r → f ≤ g → exec g d k pc lv st hp c w = some r := by
  intro f
  induction f with
  | zero => intro d k pc lv st hp c w r g h; cases h
  | succ f ih =>
    intro d k pc lv st hp c w r g h hg
    obtain ⟨g', rfl⟩ : ∃ g', g = g' + 1 := ⟨g - 1, by omega⟩
    have hg' : f ≤ g' := by omega
    unfold exec at h ⊢
    cases h0 : ins k pc with
    | none => rw [h0] at h; cases h
    | some x =>
    obtain ⟨i, n⟩ := x
    rw [h0] at h
    dsimp only at h ⊢
    cases h1 : mpure i st with
    | some x =>
      rw [h1] at h
      dsimp only at h ⊢
      split at h
      · rename_i hn; rw [if_pos hn]; exact ih _ _ _ _ _ _ _ _ _ _ h hg'
      · cases h
    | none =>
    rw [h1] at h
    dsimp only at h ⊢
    cases h2 : mloc (mlen k) i lv st with
    | some x =>
      rw [h2] at h
      dsimp only at h ⊢
      split at h
      · rename_i hn; rw [if_pos hn]; exact ih _ _ _ _ _ _ _ _ _ _ h hg'
      · cases h
    | none =>
    rw [h2] at h
    dsimp only at h ⊢
    cases h3 : mjmp pc n i st with
    | some x =>
      rw [h3] at h
      exact ih _ _ _ _ _ _ _ _ _ _ h hg'
    | none =>
    rw [h3] at h
    dsimp only at h ⊢
    cases h4 : mhp k i st hp with
    | some x =>
      rw [h4] at h
      dsimp only at h ⊢
      split at h
      · rename_i hn; rw [if_pos hn]; exact ih _ _ _ _ _ _ _ _ _ _ h hg'
      · cases h
    | none =>
    rw [h4] at h
    dsimp only at h ⊢
    cases h5 : mend k i n st with
    | some x => rw [h5] at h; exact h
    | none =>
    rw [h5] at h
    dsimp only at h ⊢
    cases h6 : mcl0 k i st with
    | some x =>
      obtain ⟨kd, k', as, rr⟩ := x
      rw [h6] at h
      dsimp only at h ⊢
      cases d with
      | zero => cases h
      | succ d' =>
      dsimp only at h ⊢
      split at h
      case isFalse => cases h
      rename_i hcd
      rw [if_pos hcd]
      cases h7 : exec f d' k' 0 (lv_args 0 as) [] hp 0 0 with
      | none => rw [h7] at h; cases h
      | some y =>
      rw [h7] at h
      rw [ih _ _ _ _ _ _ _ _ _ _ h7 hg']
      dsimp only at h ⊢
      split at h
      · rename_i hn; rw [if_pos hn]; exact ih _ _ _ _ _ _ _ _ _ _ h hg'
      · cases h
    | none =>
    rw [h6] at h
    dsimp only at h ⊢
    cases h7 : mmk k i lv st hp with
    | some x =>
      rw [h7] at h
      dsimp only at h ⊢
      split at h
      · rename_i hn; rw [if_pos hn]; exact ih _ _ _ _ _ _ _ _ _ _ h hg'
      · cases h
    | none =>
    rw [h7] at h
    dsimp only at h ⊢
    cases h8 : mobj k i st with
    | none =>
      rw [h8] at h
      dsimp only at h ⊢
      cases h9 : mmn k i st with
      | none =>
        rw [h9] at h
        dsimp only at h ⊢
        cases h10 : msr k i st with
        | none => rw [h10] at h; cases h
        | some x =>
        rw [h10] at h
        dsimp only at h ⊢
        split at h
        · rename_i hn; rw [if_pos hn]; exact ih _ _ _ _ _ _ _ _ _ _ h hg'
        · cases h
      | some st' =>
      rw [h9] at h
      dsimp only at h ⊢
      cases d with
      | zero => cases h
      | succ d' =>
      dsimp only at h ⊢
      split at h
      · rename_i hn; rw [if_pos hn]; exact ih _ _ _ _ _ _ _ _ _ _ h hg'
      · cases h
    | some st' =>
    rw [h8] at h
    dsimp only at h ⊢
    cases d with
    | zero => cases h
    | succ d' =>
    dsimp only at h ⊢
    split at h
    · rename_i hn; rw [if_pos hn]; exact ih _ _ _ _ _ _ _ _ _ _ h hg'
    · cases h
def Rn (d k pc : Nat) (lv : List (Nat × Value)) (st : List Value) (hp : List mE) (c w : Nat) (r : mX) : Prop := ∃ f, exec f d k pc lv st hp c w = some r
/-- reads and writes that may fail, as the small machine has them -/
def rdI (hp : List mE) (a : Nat) (i : Int32) : Option Int32 := match hp[a]? with
  | some (.inl (0, n, .inl f)) => if i < 0 ∨ n ≤ i.toNatClampNeg then none else some (f i.toNatClampNeg)
  | _ => none
def rdZ (hp : List mE) (a : Nat) (i : Int32) : Option Int32 := match hp[a]? with
  | some (.inl (2, n, .inl f)) => if i < 0 ∨ n ≤ i.toNatClampNeg then none else some (f i.toNatClampNeg)
  | _ => none
def rdJ (hp : List mE) (a : Nat) (i : Int32) : Option Int64 := match hp[a]? with
  | some (.inl (1, n, .inr (.inl f))) => if i < 0 ∨ n ≤ i.toNatClampNeg then none else some (f i.toNatClampNeg)
  | _ => none
def wrI (hp : List mE) (a : Nat) (i x : Int32) : Option (List mE) := match hp[a]? with
  | some (.inl (0, n, .inl f)) => if i < 0 ∨ n ≤ i.toNatClampNeg then none else some (hp.set a (.inl (0, n, .inl (upd f i.toNatClampNeg x))))
  | _ => none
def wrZ (hp : List mE) (a : Nat) (i x : Int32) : Option (List mE) := match hp[a]? with
  | some (.inl (2, n, .inl f)) => if i < 0 ∨ n ≤ i.toNatClampNeg then none else some (hp.set a (.inl (2, n, .inl (upd f i.toNatClampNeg (vp_nar .boolean x)))))
  | _ => none
def wrJ (hp : List mE) (a : Nat) (i : Int32) (x : Int64) : Option (List mE) := match hp[a]? with
  | some (.inl (1, n, .inr (.inl f))) => if i < 0 ∨ n ≤ i.toNatClampNeg then none else some (hp.set a (.inl (1, n, .inr (.inl (vp_updL f i.toNatClampNeg x)))))
  | _ => none
def alnR (hp : List mE) (a : Nat) : Option Int32 := match hp[a]? with
  | some (.inl (t, n, _)) => if t < 3 then some (Int32.ofNat n) else none
  | _ => none
def gfv (ci f : Nat) (hp : List mE) (a : Nat) : Option Value := match hp[a]? with
  | some (.inr (cj, fs)) => if ci = cj then fs[f]? else none
  | _ => none
def gfi (ci f : Nat) (hp : List mE) (a : Nat) : Option Int32 := match gfv ci f hp a with
  | some (.int x) => some x
  | _ => none
def gfl (ci f : Nat) (hp : List mE) (a : Nat) : Option Int64 := match gfv ci f hp a with
  | some (.long x) => some x
  | _ => none
def gfr (ci f : Nat) (hp : List mE) (a : Nat) : Option Nat := match gfv ci f hp a with
  | some (.ref b) => if b < hp.length then some b else none
  | _ => none
def pfv (ci f : Nat) (hp : List mE) (a : Nat) (v : Value) : Option (List mE) := match hp[a]? with
  | some (.inr (cj, fs)) => if ci = cj ∧ f < fs.length then some (hp.set a (.inr (cj, fs.set f v))) else none
  | _ => none
def rcv (ci : Nat) (hp : List mE) (a : Nat) : Option Unit := match hp[a]? with
  | some (.inr (cj, _)) => if cj = ci then some () else none
  | _ => none
theorem alk_here {i : Nat} {v : Value} {lv : List (Nat × Value)} : alk i ((i, v) :: lv) = some v := by
  unfold alk
  rw [if_pos rfl]
theorem alk_flt {i : Nat} {v : Value} {P : Nat × Value → Bool} : ∀ {lv : List (Nat × Value)}, (∀ u, P (i, u) = true ∨ v ≠ u) → alk i lv = some v → alk i (lv.filter P) = some v
  | [], _, h => by cases h
  | q :: l, hP, h => by
    unfold alk at h
    by_cases hq : q.1 = i
    · rw [if_pos hq] at h
      cases h
      obtain ⟨q1, q2⟩ := q
      dsimp only at hq
      subst hq
      rcases hP q2 with h1 | h1
      · rw [List.filter_cons_of_pos h1]
        exact alk_here
      · exact absurd rfl h1
    · rw [if_neg hq] at h
      have ih := alk_flt hP h
      by_cases h1 : P q = true
      · rw [List.filter_cons_of_pos h1]
        unfold alk
        rw [if_neg hq]
        exact ih
      · rw [List.filter_cons_of_neg h1]
        exact ih
theorem alk_keep {i j : Nat} {u v : Value} {lv : List (Nat × Value)} (h : alk j lv = some v) (hne : j ≠ i) (hc : v.category = 1 ∨ j + 1 ≠ i) : alk j ((i, u) :: lvw i lv) = some v := by
  unfold alk
  rw [if_neg (fun e => hne e.symm)]
  refine alk_flt (fun u => ?_) h
  by_cases e : v = u
  · subst e
    refine Or.inl ?_
    rcases hc with hc | hc <;> simp [hne, hc]
  · exact Or.inr e
theorem alk_keepl {i j : Nat} {u v : Value} {lv : List (Nat × Value)} (h : alk j lv = some v) (hne : j ≠ i) (hne2 : j ≠ i + 1) (hc : v.category = 1 ∨ j + 1 ≠ i) : alk j ((i, u) :: lvl i lv) = some v := by
  unfold alk
  rw [if_neg (fun e => hne e.symm)]
  refine alk_flt (fun u => ?_) h
  by_cases e : v = u
  · subst e
    refine Or.inl ?_
    rcases hc with hc | hc <;> simp [hne, hne2, hc]
  · exact Or.inr e
def lvk (n : Nat) (lv : List (Nat × Value)) : Prop := lv.all (fun q => mokv n q.2) = true
theorem lvk_w {n i : Nat} {v : Value} {lv : List (Nat × Value)} (h : lvk n lv) (hv : mokv n v = true) : lvk n ((i, v) :: lvw i lv) := by
  unfold lvk at h ⊢
  rw [List.all_cons, hv, Bool.true_and, List.all_eq_true]
  intro q hq
  exact List.all_eq_true.mp h q (List.mem_filter.mp hq).1
theorem lvk_l {n i : Nat} {v : Value} {lv : List (Nat × Value)} (h : lvk n lv) (hv : mokv n v = true) : lvk n ((i, v) :: lvl i lv) := by
  unfold lvk at h ⊢
  rw [List.all_cons, hv, Bool.true_and, List.all_eq_true]
  intro q hq
  exact List.all_eq_true.mp h q (List.mem_filter.mp hq).1
section RR
variable {d k pc : Nat} {lv lv' : List (Nat × Value)} {st st' rr as : List Value} {hp hp1 : List mE} {c w n : Nat} {r : mX} {i : Instr}
theorem Rn.p (hi : ins k pc = some (i, n)) (h : mpure i st = some (st', n)) (g : Rn d k (pc + n) lv st' hp c w r) : Rn d k pc lv st hp c w r := by
  obtain ⟨f, hf⟩ := g
  refine ⟨f + 1, ?_⟩
  unfold exec
  rw [hi]
  dsimp only
  rw [h]
  dsimp only
  rw [if_pos rfl]
  exact hf
theorem Rn.l {nL : Nat} (hi : ins k pc = some (i, n)) (hL : mlen k = nL) (h0 : mpure i st = none) (h : mloc nL i lv st = some (lv', st', n)) (g : Rn d k (pc + n) lv' st' hp c w r) : Rn d k pc lv st hp c w r := by
  obtain ⟨f, hf⟩ := g
  refine ⟨f + 1, ?_⟩
  unfold exec
  rw [hi]
  dsimp only
  rw [h0]
  dsimp only
  rw [hL, h]
  dsimp only
  rw [if_pos rfl]
  exact hf
theorem Rn.j {pc' : Nat} (hi : ins k pc = some (i, n)) (h0 : mpure i st = none) (h1 : ∀ nL, mloc nL i lv st = none) (h : mjmp pc n i st = some (pc', st')) (g : Rn d k pc' lv st' hp c w r) : Rn d k pc lv st hp c w r := by
  obtain ⟨f, hf⟩ := g
  refine ⟨f + 1, ?_⟩
  unfold exec
  rw [hi]
  dsimp only
  rw [h0]
  dsimp only
  rw [h1]
  dsimp only
  rw [h]
  exact hf
theorem Rn.h (hi : ins k pc = some (i, n)) (h0 : mpure i st = none) (h1 : ∀ nL, mloc nL i lv st = none) (h2 : mjmp pc n i st = none) (h : mhp k i st hp = some (st', hp1, n)) (g : Rn d k (pc + n) lv st' hp1 c w r) : Rn d k pc lv st hp c w r := by
  obtain ⟨f, hf⟩ := g
  refine ⟨f + 1, ?_⟩
  unfold exec
  rw [hi]
  dsimp only
  rw [h0]
  dsimp only
  rw [h1]
  dsimp only
  rw [h2]
  dsimp only
  rw [h]
  dsimp only
  rw [if_pos rfl]
  exact hf
theorem Rn.e {v : Option Value} (hi : ins k pc = some (i, n)) (h0 : mpure i st = none) (h1 : ∀ nL, mloc nL i lv st = none) (h2 : mjmp pc n i st = none) (h3 : mhp k i st hp = none) (h : mend k i n st = some v) : Rn d k pc lv st hp c w (v, hp, c, w) := by
  refine ⟨1, ?_⟩
  unfold exec
  rw [hi]
  dsimp only
  rw [h0]
  dsimp only
  rw [h1]
  dsimp only
  rw [h2]
  dsimp only
  rw [h3]
  dsimp only
  rw [h]
theorem Rn.cl {d' kd k' c1 w1 : Nat} {v : Option Value} (hi : ins k pc = some (i, 3)) (h0 : mpure i st = none) (h1 : ∀ nL, mloc nL i lv st = none) (h2 : mjmp pc 3 i st = none) (h3 : mhp k i st hp = none) (h4 : mend k i 3 st = none) (h : mcl0 k i st = some (kd, k', as, rr)) (hd : d = d' + 1) (hrc : mrcv kd k' as hp = true) (hcat : (rr.map fun v => v.category).sum ≤ 8) (ha : as.all (mokv hp.length) = true) (hr : rr.all (mokv hp.length) = true) (hl : lvk hp.length lv) (hlen : (lg_sl as).length ≤ mlen k') (hrun : Rn d' k' 0 (lv_args 0 as) [] hp 0 0 (v, hp1, c1, w1))
    (g : Rn d k (pc + 3) lv (v.toList ++ rr) hp1 (c + c1) (w + w1) r) : Rn d k pc lv st hp c w r := by
  obtain ⟨f, hf⟩ := g
  obtain ⟨f1, hf1⟩ := hrun
  subst hd
  refine ⟨f + f1 + 1, ?_⟩
  unfold exec
  rw [hi]
  dsimp only
  rw [h0]
  dsimp only
  rw [h1]
  dsimp only
  rw [h2]
  dsimp only
  rw [h3]
  dsimp only
  rw [h4]
  dsimp only
  rw [h]
  dsimp only
  rw [if_pos ⟨rfl, hrc, hcat, ha, hr, hl⟩, exec_mono _ _ _ _ _ _ _ _ _ _ (f + f1) hf1 (by omega)]
  dsimp only
  rw [if_pos hlen]
  exact exec_mono _ _ _ _ _ _ _ _ _ _ _ hf (by omega)
end RR
