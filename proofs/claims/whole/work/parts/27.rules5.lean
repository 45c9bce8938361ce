/-! Rules for methods that make cells. -/
def Ra (d k pc : Nat) (lv : List (Nat × Value)) (st : List Value) (hp : List mE) (v : Option Value) (hp' : List mE) : Prop := ∀ c w, ∃ c' w', Rn d k pc lv st hp c w (v, hp', c', w')
def nwO (ci : Nat) (hp : List mE) : Option (List mE) := match mdef ci with
  | some fs => if hp.all (moke hp.length) = true ∧ hp.length < 1000000 then some (hp ++ [.inr (ci, fs)]) else none
  | none => none
def nwI (hp : List mE) (x : Int32) : Option (List mE) := if hp.all (moke hp.length) = true ∧ hp.length < 1000000 ∧ ¬ x < 0 ∧ x.toNatClampNeg ≤ 67000000 then some (hp ++ [.inl (0, x.toNatClampNeg, .inl (fun _ => 0))]) else none
def nwJ (hp : List mE) (x : Int32) : Option (List mE) := if hp.all (moke hp.length) = true ∧ hp.length < 1000000 ∧ ¬ x < 0 ∧ x.toNatClampNeg ≤ 67000000 then some (hp ++ [.inl (1, x.toNatClampNeg, .inr (.inl (fun _ => 0)))]) else none
def nwZ (hp : List mE) (x : Int32) : Option (List mE) := if hp.all (moke hp.length) = true ∧ hp.length < 1000000 ∧ ¬ x < 0 ∧ x.toNatClampNeg ≤ 67000000 then some (hp ++ [.inl (2, x.toNatClampNeg, .inl (fun _ => 0))]) else none
theorem nwO_len {ci : Nat} {hp hp1 : List mE} (h : nwO ci hp = some hp1) : hp1.length = hp.length + 1 := by
  unfold nwO at h
  split at h
  · split at h
    · cases h; simp
    · cases h
  · cases h
theorem nwI_len {x : Int32} {hp hp1 : List mE} (h : nwI hp x = some hp1) : hp1.length = hp.length + 1 := by
  unfold nwI at h
  split at h
  · cases h; simp
  · cases h
theorem nwJ_len {x : Int32} {hp hp1 : List mE} (h : nwJ hp x = some hp1) : hp1.length = hp.length + 1 := by
  unfold nwJ at h
  split at h
  · cases h; simp
  · cases h
theorem nwZ_len {x : Int32} {hp hp1 : List mE} (h : nwZ hp x = some hp1) : hp1.length = hp.length + 1 := by
  unfold nwZ at h
  split at h
  · cases h; simp
  · cases h
theorem mokv_mono {n n' : Nat} {v : Value} (hn : n ≤ n') (h : mokv n v = true) : mokv n' v = true := by
  cases v <;> first | rfl | skip
  rename_i a
  have h1 : a < n ∨ 1000000 ≤ a := of_decide_eq_true h
  exact decide_eq_true (by rcases h1 with h1 | h1; exact Or.inl (Nat.lt_of_lt_of_le h1 hn); exact Or.inr h1)
theorem lvk_mono {n n' : Nat} {lv : List (Nat × Value)} (hn : n ≤ n') (h : lvk n lv) : lvk n' lv := by
  unfold lvk at h ⊢
  rw [List.all_eq_true] at h ⊢
  intro q hq
  exact mokv_mono hn (h q hq)
theorem Rn.mk {d k pc n z : Nat} {lv : List (Nat × Value)} {st st' : List Value} {hp hp1 : List mE} {c w : Nat} {r : mX} {i : Instr} (hi : ins k pc = some (i, n)) (h0 : mpure i st = none) (h1 : ∀ nL, mloc nL i lv st = none) (h2 : mjmp pc n i st = none) (h3 : mhp k i st hp = none) (h4 : mend k i n st = none) (h5 : mcl0 k i st = none) (h : mmk k i lv st hp = some (st', hp1, z, n)) (g : Rn d k (pc + n) lv st' hp1 (c + 1) (w + z) r) : Rn d k pc lv st hp c w r := by
  obtain ⟨f, hf⟩ := g
  refine ⟨f + 1, ?_⟩
  unfold exec
  rw [hi]
  dsimp only
  rw [h0]
  dsimp only
  rw [h1]
  dsimp only
  rw [h2]
  dsimp only
  rw [h3]
  dsimp only
  rw [h4]
  dsimp only
  rw [h5]
  dsimp only
  rw [h]
  dsimp only
  rw [if_pos rfl]
  exact hf
section RV
variable {d k pc m : Nat} {lv lv' : List (Nat × Value)} {st st' rr as : List Value} {hp hp1 hp2 : List mE} {v : Option Value}
theorem Ra.of {pc' : Nat} (rule : ∀ c w r, Rn d k pc' lv' st' hp1 c w r → Rn d k pc lv st hp c w r) (g : Ra d k pc' lv' st' hp1 v hp2) : Ra d k pc lv st hp v hp2 := by
  intro c w
  obtain ⟨c', w', h⟩ := g c w
  exact ⟨c', w', rule c w _ h⟩
theorem Ra.ret (rule : ∀ c w, Rn d k pc lv st hp c w (v, hp, c, w)) : Ra d k pc lv st hp v hp := fun c w => ⟨c, w, rule c w⟩
theorem Ra.nw {o ix ci p1 p2 p3 : Nat} (hi : ins k pc = some (.new ix, 3)) (ho : mown k = o) (hn : plk o ix nlt = some (ci, p1, p2, p3)) (h : nwO ci hp = some hp1) (hl : lvk hp.length lv) (hs : st.all (mokv hp.length) = true) (g : Ra d k (pc + 3) lv (.ref hp.length :: st) hp1 v hp2) : Ra d k pc lv st hp v hp2 := by
  unfold nwO at h
  cases hd : mdef ci with
  | none => rw [hd] at h; cases h
  | some fs =>
  rw [hd] at h
  dsimp only at h
  split at h
  case isFalse => cases h
  rename_i hc
  cases h
  intro c w
  obtain ⟨c', w', g⟩ := g (c + 1) (w + fs.length)
  refine ⟨c', w', Rn.mk hi rfl (fun _ => rfl) rfl rfl rfl rfl ?_ g⟩
  simp only [mmk, mnew, ho, hn, hd]
  rw [if_pos ⟨hc.1, hl, hs, hc.2⟩]
  rfl
theorem Ra.nI {x : Int32} (hi : ins k pc = some (.newarray .int, 2)) (h : nwI hp x = some hp1) (hl : lvk hp.length lv) (hs : st.all (mokv hp.length) = true) (g : Ra d k (pc + 2) lv (.ref hp.length :: st) hp1 v hp2) : Ra d k pc lv (.int x :: st) hp v hp2 := by
  unfold nwI at h
  split at h
  case isFalse => cases h
  rename_i hc
  cases h
  intro c w
  obtain ⟨c', w', g⟩ := g (c + 1) (w + x.toNatClampNeg)
  refine ⟨c', w', Rn.mk hi rfl (fun _ => rfl) rfl rfl rfl rfl ?_ g⟩
  simp only [mmk, mnewa]
  rw [if_pos ⟨hc.1, hl, hs, hc.2⟩]
  rfl
theorem Ra.nJ {x : Int32} (hi : ins k pc = some (.newarray .long, 2)) (h : nwJ hp x = some hp1) (hl : lvk hp.length lv) (hs : st.all (mokv hp.length) = true) (g : Ra d k (pc + 2) lv (.ref hp.length :: st) hp1 v hp2) : Ra d k pc lv (.int x :: st) hp v hp2 := by
  unfold nwJ at h
  split at h
  case isFalse => cases h
  rename_i hc
  cases h
  intro c w
  obtain ⟨c', w', g⟩ := g (c + 1) (w + x.toNatClampNeg)
  refine ⟨c', w', Rn.mk hi rfl (fun _ => rfl) rfl rfl rfl rfl ?_ g⟩
  simp only [mmk, mnewa]
  rw [if_pos ⟨hc.1, hl, hs, hc.2⟩]
  rfl
theorem Ra.nZ {x : Int32} (hi : ins k pc = some (.newarray .boolean, 2)) (h : nwZ hp x = some hp1) (hl : lvk hp.length lv) (hs : st.all (mokv hp.length) = true) (g : Ra d k (pc + 2) lv (.ref hp.length :: st) hp1 v hp2) : Ra d k pc lv (.int x :: st) hp v hp2 := by
  unfold nwZ at h
  split at h
  case isFalse => cases h
  rename_i hc
  cases h
  intro c w
  obtain ⟨c', w', g⟩ := g (c + 1) (w + x.toNatClampNeg)
  refine ⟨c', w', Rn.mk hi rfl (fun _ => rfl) rfl rfl rfl rfl ?_ g⟩
  simp only [mmk, mnewa]
  rw [if_pos ⟨hc.1, hl, hs, hc.2⟩]
  rfl
theorem Rn.oi {d' o ix k' pl pi ps b c w : Nat} {r : mX} (hi : ins k pc = some (.invokespecial ix, 3)) (ho : mown k = o) (hm : plk o ix mlt = some (6, k', pl, pi, ps)) (hcat : (rr.map fun v => v.category).sum ≤ 8) (hd : d = d' + 1) (g : Rn d k (pc + 3) lv rr hp c w r) : Rn d k pc lv (.ref b :: rr) hp c w r := by
  obtain ⟨f, hf⟩ := g
  subst hd
  refine ⟨f + 1, ?_⟩
  have h5 : mcl0 k (.invokespecial ix) (.ref b :: rr) = none := by
    simp only [mcl0, ho, hm]
    split
    · rw [if_neg (by omega)]
    · rfl
  have h6 : mobj k (.invokespecial ix) (.ref b :: rr) = some rr := by
    simp only [mobj, ho, hm]
    rw [if_pos ⟨trivial, hcat⟩]
  unfold exec
  rw [hi]
  dsimp only [mpure, mloc, mjmp, mhp]
  rw [show mend k (.invokespecial ix) 3 (.ref b :: rr) = none from rfl]
  dsimp only
  rw [h5]
  dsimp only [mmk]
  rw [h6]
  dsimp only
  rw [if_pos rfl]
  exact hf
theorem Rn.pfF {o ix ci f ps a c w : Nat} {r : mX} {u : Value} {ty : FieldType} (hi : ins k pc = some (.putfield ix, 3)) (ho : mown k = o) (hf : plk o ix flt = some (false, ci, f, ps)) (hty : mfty ci f = some ty) (hfit : mfit ty u = true) (hini : mini k = true) (hci : ci = o) (h : pfv ci f hp a u = some hp1) (g : Rn d k (pc + 3) lv st hp1 c w r) : Rn d k pc lv (u :: .ref a :: st) hp c w r := by
  refine Rn.h (st' := st) (hp1 := hp1) hi rfl (fun _ => rfl) rfl ?_ g
  have h2 : mput k ix (u :: .ref a :: st) hp = some (st, hp1) := by
    unfold pfv at h
    unfold mput
    dsimp only
    rw [ho, hf]
    split at h
    · rename_i hc
      rw [hc]
      dsimp only
      rw [hty]
      dsimp only
      split at h
      · rename_i hn
        rw [if_pos ⟨hn.1, hn.2, hfit, fun _ => ⟨rfl, hini, hci⟩⟩]
        cases h
        rfl
      · cases h
    · cases h
  simp only [mhp, h2]
  rfl
theorem Rn.ci {d' o ix k' pl pi ps np c w c1 w1 a : Nat} {r : mX} {As : List Value} {u : Option Value} {q : mM} (hi : ins k pc = some (.invokespecial ix, 3)) (ho : mown k = o) (hm : plk o ix mlt = some (5, k', pl, pi, ps)) (hq : mtb[k']? = some q) (hnp : q.2.2.2.2.2.2.2 = np) (hst : st = (Value.ref a :: As).reverse ++ rr) (hla : As.length = np) (hd : d = d' + 1) (hcat : (rr.map fun v => v.category).sum ≤ 8) (ha : (Value.ref a :: As).all (mokv hp.length) = true) (hr : rr.all (mokv hp.length) = true) (hl : lvk hp.length lv) (hlen : (lg_sl (Value.ref a :: As)).length ≤ mlen k') (hrun : Rn d' k' 0 (lv_args 0 (.ref a :: As)) [] hp 0 0 (u, hp1, c1, w1))
    (g : Rn d k (pc + 3) lv (u.toList ++ rr) hp1 (c + c1) (w + w1) r) : Rn d k pc lv st hp c w r := by
  have hl1 : st.length = np + 1 + rr.length := by rw [hst, List.length_append, List.length_reverse, List.length_cons, hla]
  refine Rn.cl (kd := 5) (k' := k') (as := .ref a :: As) (rr := rr) hi rfl (fun _ => rfl) rfl rfl rfl ?_ hd (by unfold mrcv; rw [if_neg (by omega), if_pos rfl]) hcat ha hr hl hlen hrun g
  simp only [mcl0, ho, hm, hq, hnp]
  rw [if_pos ⟨trivial, by omega⟩]
  have e1 : st.take (np + 1) = (Value.ref a :: As).reverse := by
    rw [hst, List.take_append_of_le_length (by rw [List.length_reverse, List.length_cons, hla]; exact Nat.le_refl _), List.take_of_length_le (by rw [List.length_reverse, List.length_cons, hla]; exact Nat.le_refl _)]
  have e2 : st.drop (np + 1) = rr := by
    rw [hst, List.drop_append_of_le_length (by rw [List.length_reverse, List.length_cons, hla]; exact Nat.le_refl _), List.drop_of_length_le (by rw [List.length_reverse, List.length_cons, hla]; exact Nat.le_refl _)]
    rfl
  rw [e1, e2, List.reverse_reverse]
theorem Ra.len (h : Ra d k pc lv st hp v hp1) : hp.length ≤ hp1.length := by
  obtain ⟨c', w', f, hf⟩ := h 0 0
  have g := exec_len _ _ _ _ _ _ _ _ _ _ _ _ _ hf
  omega
/-- a call of a method that may make cells -/
theorem Ra.call {d' k' pc' : Nat} {lw : List (Nat × Value)} {u : Option Value} (hrun : Ra d' k' 0 lw [] hp u hp1) (rule : ∀ c w c1 w1 r, Rn d' k' 0 lw [] hp 0 0 (u, hp1, c1, w1) → Rn d k pc' lv st' hp1 (c + c1) (w + w1) r → Rn d k pc lv st hp c w r) (g : Ra d k pc' lv st' hp1 v hp2) : Ra d k pc lv st hp v hp2 := by
  intro c w
  obtain ⟨c1, w1, h1⟩ := hrun 0 0
  obtain ⟨c', w', h2⟩ := g (c + c1) (w + w1)
  exact ⟨c', w', rule c w c1 w1 _ h1 h2⟩
theorem Ra.isn {j : Fin 4} {i nL : Nat} {x : Int32} (hi : ins k pc = some (.istore_n j, 1)) (hji : (j : Nat) = i) (hL : mlen k = nL) (hj : i < nL) (g : ∀ lv' : List (Nat × Value), alk i lv' = some (.int x) → lvs i lv lv' → (lvk m lv → lvk m lv') → Ra d k (pc + 1) lv' st hp v hp2) : Ra d k pc lv (.int x :: st) hp v hp2 := by
  subst hji
  exact Ra.of (fun c w r g => Rn.istore_n hi hL hj g) (g _ alk_here (fun j v h1 h2 h3 => alk_keep h3 h1 h2) (fun h => lvk_w h rfl))
theorem Ra.is {i nL : Nat} {x : Int32} (hi : ins k pc = some (.istore i, 2)) (hL : mlen k = nL) (hj : i < nL) (g : ∀ lv' : List (Nat × Value), alk i lv' = some (.int x) → lvs i lv lv' → (lvk m lv → lvk m lv') → Ra d k (pc + 2) lv' st hp v hp2) : Ra d k pc lv (.int x :: st) hp v hp2 :=
  Ra.of (fun c w r g => Rn.istore hi hL hj g) (g _ alk_here (fun j v h1 h2 h3 => alk_keep h3 h1 h2) (fun h => lvk_w h rfl))
theorem Ra.ii {i nL : Nat} {n : Int} {x u : Int32} (hi : ins k pc = some (.iinc i n, 3)) (hL : mlen k = nL) (hj : i < nL) (hu : Int32.ofInt n = u) (h : alk i lv = some (.int x)) (g : ∀ lv' : List (Nat × Value), alk i lv' = some (.int (x + u)) → lvs i lv lv' → (lvk m lv → lvk m lv') → Ra d k (pc + 3) lv' st hp v hp2) : Ra d k pc lv st hp v hp2 := by
  subst hu
  exact Ra.of (fun c w r g => Rn.iinc hi hL hj h g) (g _ alk_here (fun j v h1 h2 h3 => alk_keep h3 h1 h2) (fun h => lvk_w h rfl))
end RV
theorem Rn.mn {d d' k pc o c w : Nat} {lv : List (Nat × Value)} {rr : List Value} {hp : List mE} {r : mX} {x y : Int32} (hi : ins k pc = some (.invokestatic mnix.2, 3)) (ho : mown k = o) (hm : o = mnix.1) (h0 : plk o mnix.2 mlt = none) (hcat : (rr.map fun v => v.category).sum ≤ 8) (hd : d = d' + 1) (g : Rn d k (pc + 3) lv (.int (if y < x then y else x) :: rr) hp c w r) : Rn d k pc lv (.int y :: .int x :: rr) hp c w r := by
  obtain ⟨f, hf⟩ := g
  subst hd
  refine ⟨f + 1, ?_⟩
  have h5 : mcl0 k (.invokestatic mnix.2) (.int y :: .int x :: rr) = none := by
    simp only [mcl0, ho, h0]
  have h6 : mmn k (.invokestatic mnix.2) (.int y :: .int x :: rr) = some (.int (if y < x then y else x) :: rr) := by
    simp only [mmn]
    rw [if_pos ⟨ho.trans hm, trivial, hcat⟩]
  unfold exec
  rw [hi]
  dsimp only [mpure, mloc, mjmp, mhp]
  rw [show mend k (.invokestatic mnix.2) 3 (.int y :: .int x :: rr) = none from rfl]
  dsimp only
  rw [h5]
  dsimp only [mmk, mobj]
  rw [h6]
  dsimp only
  rw [if_pos rfl]
  exact hf
