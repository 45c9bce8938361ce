/-! Heaps as memories: what kind each cell has (sh), ints of cells (I), longs of cells (J). -/
abbrev hQ : Type := (Nat × Nat) ⊕ (Nat × List (Nat ⊕ Value))
abbrev hI : Type := Nat → Nat → Int32
abbrev hJ : Type := Nat → Nat → Int64
def hV (I : hI) (J : hJ) (a f : Nat) (q : Nat ⊕ Value) : Value := match q with
  | .inl 1 => .long (J a f)
  | .inl _ => .int (I a f)
  | .inr v => v
def hF (I : hI) (J : hJ) (a : Nat) : Nat → List (Nat ⊕ Value) → List Value
  | _, [] => []
  | f, q :: l => hV I J a f q :: hF I J a (f + 1) l
def hC (I : hI) (J : hJ) (a : Nat) (q : hQ) : mE := match q with
  | .inl (1, n) => .inl (1, n, .inr (.inl (J a)))
  | .inl (t, n) => .inl (t, n, .inl (I a))
  | .inr (ci, fk) => .inr (ci, hF I J a 0 fk)
def hM (I : hI) (J : hJ) : Nat → List hQ → List mE
  | _, [] => []
  | a, q :: l => hC I J a q :: hM I J (a + 1) l
def mkH (sh : List hQ) (I : hI) (J : hJ) : List mE := hM I J 0 sh
def upI (I : hI) (a i : Nat) (x : Int32) : hI := fun b j => if b = a then (if j = i then x else I b j) else I b j
def upJ (J : hJ) (a i : Nat) (x : Int64) : hJ := fun b j => if b = a then (if j = i then x else J b j) else J b j
theorem hM_len (I : hI) (J : hJ) (a : Nat) (sh : List hQ) : (hM I J a sh).length = sh.length := by
  induction sh generalizing a with
  | nil => rfl
  | cons q l ih => rw [hM, List.length_cons, List.length_cons, ih]
theorem mkH_len (sh : List hQ) (I : hI) (J : hJ) : (mkH sh I J).length = sh.length := hM_len I J 0 sh
theorem hM_get (I : hI) (J : hJ) (a : Nat) (sh : List hQ) (k : Nat) : (hM I J a sh)[k]? = (sh[k]?).map (hC I J (a + k)) := by
  induction sh generalizing a k with
  | nil => rfl
  | cons q l ih =>
    cases k with
    | zero => rfl
    | succ k =>
      rw [hM, List.getElem?_cons_succ, List.getElem?_cons_succ, ih, show a + 1 + k = a + (k + 1) by omega]
theorem mkH_get (sh : List hQ) (I : hI) (J : hJ) (k : Nat) : (mkH sh I J)[k]? = (sh[k]?).map (hC I J k) := by
  unfold mkH
  rw [hM_get, Nat.zero_add]
theorem hF_get (I : hI) (J : hJ) (a f : Nat) (fk : List (Nat ⊕ Value)) (k : Nat) : (hF I J a f fk)[k]? = (fk[k]?).map (hV I J a (f + k)) := by
  induction fk generalizing f k with
  | nil => rfl
  | cons q l ih =>
    cases k with
    | zero => rfl
    | succ k =>
      rw [hF, List.getElem?_cons_succ, List.getElem?_cons_succ, ih, show f + 1 + k = f + (k + 1) by omega]
theorem hF_len (I : hI) (J : hJ) (a f : Nat) (fk : List (Nat ⊕ Value)) : (hF I J a f fk).length = fk.length := by
  induction fk generalizing f with
  | nil => rfl
  | cons q l ih => rw [hF, List.length_cons, List.length_cons, ih]
theorem mkH_set {sh : List hQ} {I I' : hI} {J J' : hJ} {a : Nat} {q : hQ} (h : sh[a]? = some q) (hI : ∀ b, b ≠ a → I' b = I b) (hJ : ∀ b, b ≠ a → J' b = J b) : (mkH sh I J).set a (hC I' J' a q) = mkH sh I' J' := by
  apply List.ext_getElem?
  intro k
  rw [List.getElem?_set, mkH_get, mkH_len]
  by_cases hk : a = k
  · subst hk
    rw [if_pos rfl, if_pos (List.getElem?_eq_some_iff.mp h).1, mkH_get, h]
    rfl
  · rw [if_neg hk, mkH_get]
    cases hq : sh[k]? with
    | none => rfl
    | some p =>
      have e1 := hI k (fun e => hk e.symm)
      have e2 := hJ k (fun e => hk e.symm)
      show some (hC I J k p) = some (hC I' J' k p)
      have hf : ∀ (fk : List (Nat ⊕ Value)) (f : Nat), hF I J k f fk = hF I' J' k f fk := by
        intro fk
        induction fk with
        | nil => intro f; rfl
        | cons r l ih =>
          intro f
          rw [hF, hF, ih]
          congr 1
          unfold hV
          rw [e1, e2]
      unfold hC
      split
      · rw [e2]
      · rw [e1]
      · rw [hf]
section S
variable {sh : List hQ} {I : hI} {J : hJ} {a : Nat}
theorem gfv_H {ci f : Nat} {fk : List (Nat ⊕ Value)} (h : sh[a]? = some (.inr (ci, fk))) : gfv ci f (mkH sh I J) a = (fk[f]?).map (hV I J a f) := by
  unfold gfv
  rw [mkH_get, h]
  show (if ci = ci then (hF I J a 0 fk)[f]? else none) = _
  rw [if_pos rfl, hF_get, Nat.zero_add]
theorem gfi_H {ci f : Nat} {fk : List (Nat ⊕ Value)} (h : sh[a]? = some (.inr (ci, fk))) (hf : fk[f]? = some (.inl 0)) : gfi ci f (mkH sh I J) a = some (I a f) := by
  unfold gfi
  rw [gfv_H h, hf]
  rfl
theorem gfl_H {ci f : Nat} {fk : List (Nat ⊕ Value)} (h : sh[a]? = some (.inr (ci, fk))) (hf : fk[f]? = some (.inl 1)) : gfl ci f (mkH sh I J) a = some (J a f) := by
  unfold gfl
  rw [gfv_H h, hf]
  rfl
theorem gfr_H {ci f b : Nat} {fk : List (Nat ⊕ Value)} {r : hQ} (h : sh[a]? = some (.inr (ci, fk))) (hf : fk[f]? = some (.inr (.ref b))) (hb : sh[b]? = some r) : gfr ci f (mkH sh I J) a = some b := by
  unfold gfr
  rw [gfv_H h, hf]
  show (if b < (mkH sh I J).length then some b else none) = some b
  rw [mkH_len, if_pos (List.getElem?_eq_some_iff.mp hb).1]
theorem rcv_H {ci : Nat} {fk : List (Nat ⊕ Value)} (h : sh[a]? = some (.inr (ci, fk))) : rcv ci (mkH sh I J) a = some () := by
  unfold rcv
  rw [mkH_get, h]
  show (if ci = ci then some () else none) = _
  rw [if_pos rfl]
theorem hF_set (I : hI) (J : hJ) (a f : Nat) (fk : List (Nat ⊕ Value)) (x : Int32) (h : fk[f]? = some (.inl 0)) : (hF I J a 0 fk).set f (.int x) = hF (upI I a f x) J a 0 fk := by
  apply List.ext_getElem?
  intro k
  rw [List.getElem?_set, hF_get, hF_get, hF_len, Nat.zero_add]
  by_cases hk : f = k
  · subst hk
    rw [if_pos rfl, if_pos (List.getElem?_eq_some_iff.mp h).1, h]
    show some (Value.int x) = some (Value.int (upI I a f x a f))
    unfold upI
    rw [if_pos rfl, if_pos rfl]
  · rw [if_neg hk]
    cases fk[k]? with
    | none => rfl
    | some q =>
      show some (hV I J a k q) = some (hV (upI I a f x) J a k q)
      unfold hV upI
      rw [if_pos rfl, if_neg (fun e => hk e.symm)]
theorem hF_setJ (I : hI) (J : hJ) (a f : Nat) (fk : List (Nat ⊕ Value)) (x : Int64) (h : fk[f]? = some (.inl 1)) : (hF I J a 0 fk).set f (.long x) = hF I (upJ J a f x) a 0 fk := by
  apply List.ext_getElem?
  intro k
  rw [List.getElem?_set, hF_get, hF_get, hF_len, Nat.zero_add]
  by_cases hk : f = k
  · subst hk
    rw [if_pos rfl, if_pos (List.getElem?_eq_some_iff.mp h).1, h]
    show some (Value.long x) = some (Value.long (upJ J a f x a f))
    unfold upJ
    rw [if_pos rfl, if_pos rfl]
  · rw [if_neg hk]
    cases fk[k]? with
    | none => rfl
    | some q =>
      show some (hV I J a k q) = some (hV I (upJ J a f x) a k q)
      unfold hV upJ
      rw [if_pos rfl, if_neg (fun e => hk e.symm)]
theorem upI_ne {x : Int32} {i b : Nat} (h : b ≠ a) : upI I a i x b = I b := by
  funext j
  unfold upI
  rw [if_neg h]
theorem upJ_ne {x : Int64} {i b : Nat} (h : b ≠ a) : upJ J a i x b = J b := by
  funext j
  unfold upJ
  rw [if_neg h]
theorem pfi_H {ci f : Nat} {fk : List (Nat ⊕ Value)} {x : Int32} (h : sh[a]? = some (.inr (ci, fk))) (hf : fk[f]? = some (.inl 0)) : pfv ci f (mkH sh I J) a (.int x) = some (mkH sh (upI I a f x) J) := by
  unfold pfv
  rw [mkH_get, h]
  show (if ci = ci ∧ f < (hF I J a 0 fk).length then some ((mkH sh I J).set a (.inr (ci, (hF I J a 0 fk).set f (.int x)))) else none) = _
  rw [hF_len, if_pos ⟨rfl, (List.getElem?_eq_some_iff.mp hf).1⟩, hF_set I J a f fk x hf]
  congr 1
  exact mkH_set (q := .inr (ci, fk)) h (fun b hb => upI_ne hb) (fun _ _ => rfl)
theorem pfl_H {ci f : Nat} {fk : List (Nat ⊕ Value)} {x : Int64} (h : sh[a]? = some (.inr (ci, fk))) (hf : fk[f]? = some (.inl 1)) : pfv ci f (mkH sh I J) a (.long x) = some (mkH sh I (upJ J a f x)) := by
  unfold pfv
  rw [mkH_get, h]
  show (if ci = ci ∧ f < (hF I J a 0 fk).length then some ((mkH sh I J).set a (.inr (ci, (hF I J a 0 fk).set f (.long x)))) else none) = _
  rw [hF_len, if_pos ⟨rfl, (List.getElem?_eq_some_iff.mp hf).1⟩, hF_setJ I J a f fk x hf]
  congr 1
  exact mkH_set (q := .inr (ci, fk)) h (fun _ _ => rfl) (fun b hb => upJ_ne hb)
variable {n i : Nat}
theorem rdI_H (h : sh[a]? = some (.inl (0, n))) (hn : n < 2 ^ 31) (hi : i < n) : rdI (mkH sh I J) a (nI i) = some (I a i) := by
  unfold rdI
  rw [mkH_get, h]
  show (if nI i < 0 ∨ n ≤ (nI i).toNatClampNeg then none else some (I a (nI i).toNatClampNeg)) = _
  rw [if_neg (nI_in hi hn), nI_clamp (by omega)]
theorem rdZ_H (h : sh[a]? = some (.inl (2, n))) (hn : n < 2 ^ 31) (hi : i < n) : rdZ (mkH sh I J) a (nI i) = some (I a i) := by
  unfold rdZ
  rw [mkH_get, h]
  show (if nI i < 0 ∨ n ≤ (nI i).toNatClampNeg then none else some (I a (nI i).toNatClampNeg)) = _
  rw [if_neg (nI_in hi hn), nI_clamp (by omega)]
theorem rdJ_H (h : sh[a]? = some (.inl (1, n))) (hn : n < 2 ^ 31) (hi : i < n) : rdJ (mkH sh I J) a (nI i) = some (J a i) := by
  unfold rdJ
  rw [mkH_get, h]
  show (if nI i < 0 ∨ n ≤ (nI i).toNatClampNeg then none else some (J a (nI i).toNatClampNeg)) = _
  rw [if_neg (nI_in hi hn), nI_clamp (by omega)]
theorem upd_up {x : Int32} : upd (I a) i x = upI I a i x a := by
  funext j
  unfold upd upI
  rw [if_pos rfl]
theorem updL_up {x : Int64} : vp_updL (J a) i x = upJ J a i x a := by
  funext j
  unfold vp_updL upJ
  rw [if_pos rfl]
theorem wrI_H {x : Int32} (h : sh[a]? = some (.inl (0, n))) (hn : n < 2 ^ 31) (hi : i < n) : wrI (mkH sh I J) a (nI i) x = some (mkH sh (upI I a i x) J) := by
  unfold wrI
  rw [mkH_get, h]
  show (if nI i < 0 ∨ n ≤ (nI i).toNatClampNeg then none else some ((mkH sh I J).set a (.inl (0, n, .inl (upd (I a) (nI i).toNatClampNeg x))))) = _
  rw [if_neg (nI_in hi hn), nI_clamp (by omega), upd_up]
  congr 1
  exact mkH_set (q := .inl (0, n)) h (fun b hb => upI_ne hb) (fun _ _ => rfl)
theorem wrJ_H {x : Int64} (h : sh[a]? = some (.inl (1, n))) (hn : n < 2 ^ 31) (hi : i < n) : wrJ (mkH sh I J) a (nI i) x = some (mkH sh I (upJ J a i x)) := by
  unfold wrJ
  rw [mkH_get, h]
  show (if nI i < 0 ∨ n ≤ (nI i).toNatClampNeg then none else some ((mkH sh I J).set a (.inl (1, n, .inr (.inl (vp_updL (J a) (nI i).toNatClampNeg x)))))) = _
  rw [if_neg (nI_in hi hn), nI_clamp (by omega), updL_up]
  congr 1
  exact mkH_set (q := .inl (1, n)) h (fun _ _ => rfl) (fun b hb => upJ_ne hb)
theorem nar_Z {x : Int32} (hx : x = 0 ∨ x = 1) : vp_nar .boolean x = x := by
  rcases hx with rfl | rfl <;> rfl
theorem wrZ_H {x : Int32} (h : sh[a]? = some (.inl (2, n))) (hn : n < 2 ^ 31) (hi : i < n) (hx : x = 0 ∨ x = 1) : wrZ (mkH sh I J) a (nI i) x = some (mkH sh (upI I a i x) J) := by
  unfold wrZ
  rw [mkH_get, h]
  show (if nI i < 0 ∨ n ≤ (nI i).toNatClampNeg then none else some ((mkH sh I J).set a (.inl (2, n, .inl (upd (I a) (nI i).toNatClampNeg (vp_nar .boolean x)))))) = _
  rw [if_neg (nI_in hi hn), nI_clamp (by omega), nar_Z hx, upd_up]
  congr 1
  exact mkH_set (q := .inl (2, n)) h (fun b hb => upI_ne hb) (fun _ _ => rfl)
end S
