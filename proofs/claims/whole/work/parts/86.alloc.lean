/-! New cells. -/
def wzI (I : hI) (b : Nat) : hI := fun a i => if a = b then 0 else I a i
def wzJ (J : hJ) (b : Nat) : hJ := fun a i => if a = b then 0 else J a i
def okz (n : Nat) (z : Nat ⊕ Value) : Bool := match z with
  | .inl _ => true
  | .inr v => mokv n v
def okq (n : Nat) (q : hQ) : Bool := match q with
  | .inl _ => true
  | .inr (_, fk) => fk.all (okz n)
section S
variable {sh : List hQ} {I I' : hI} {J J' : hJ} {a m k : Nat}
theorem hF_all (f : Nat) (fk : List (Nat ⊕ Value)) : (hF I J a f fk).all (mokv m) = fk.all (okz m) := by
  induction fk generalizing f with
  | nil => rfl
  | cons z r ih =>
    rw [hF, List.all_cons, List.all_cons, ih]
    congr 1
    unfold hV
    split <;> rfl
theorem hM_all (b : Nat) : (hM I J b sh).all (moke m) = sh.all (okq m) := by
  induction sh generalizing b with
  | nil => rfl
  | cons q r ih =>
    rw [hM, List.all_cons, List.all_cons, ih]
    congr 1
    unfold hC
    split
    · rfl
    · rfl
    · exact hF_all 0 _
theorem mkH_all : (mkH sh I J).all (moke m) = sh.all (okq m) := hM_all 0
theorem hF_cg (h : I a = I' a) (h' : J a = J' a) (f : Nat) (fk : List (Nat ⊕ Value)) : hF I J a f fk = hF I' J' a f fk := by
  induction fk generalizing f with
  | nil => rfl
  | cons z r ih =>
    rw [hF, hF, ih]
    congr 1
    unfold hV
    rw [h, h']
theorem hC_cg {q : hQ} (h : I a = I' a) (h' : J a = J' a) : hC I J a q = hC I' J' a q := by
  unfold hC
  split
  · rw [h']
  · rw [h]
  · rw [hF_cg h h']
theorem mkH_app {q : hQ} (h : ∀ b, b < sh.length → I b = I' b ∧ J b = J' b) : mkH (sh ++ [q]) I' J' = mkH sh I J ++ [hC I' J' sh.length q] := by
  apply List.ext_getElem?
  intro k
  rw [mkH_get]
  by_cases hk : k < sh.length
  · rw [List.getElem?_append_left hk, List.getElem?_append_left (by rw [mkH_len]; exact hk), mkH_get]
    cases sh[k]? with
    | none => rfl
    | some q => exact congrArg some (hC_cg (h k hk).1 (h k hk).2).symm
  · rw [List.getElem?_append_right (by omega), List.getElem?_append_right (by rw [mkH_len]; omega), mkH_len]
    by_cases hk' : k = sh.length
    · subst hk'
      rw [Nat.sub_self]
      rfl
    · rw [List.getElem?_eq_none (by simp; omega), List.getElem?_eq_none (by simp; omega)]
      rfl
def okh (sh : List hQ) : Prop := sh.all (okq sh.length) = true ∧ sh.length < 1000000
theorem wzI_ne {b : Nat} (h : a ≠ b) : wzI I b a = I a := by
  funext i
  exact if_neg h
theorem wzJ_ne {b : Nat} (h : a ≠ b) : wzJ J b a = J a := by
  funext i
  exact if_neg h
theorem wzI_eq {b : Nat} : wzI I b b = fun _ => 0 := by
  funext i
  exact if_pos rfl
theorem wzJ_eq {b : Nat} : wzJ J b b = fun _ => 0 := by
  funext i
  exact if_pos rfl
theorem nwJ_H (h : okh sh) (hk : k ≤ 67000000) : nwJ (mkH sh I J) (nI k) = some (mkH (sh ++ [.inl (1, k)]) I (wzJ J sh.length)) := by
  unfold nwJ
  rw [mkH_all, mkH_len, nI_clamp (by omega), if_pos ⟨h.1, h.2, fun hh => nI_in (c := k) (N := k + 1) (by omega) (by omega) (Or.inl hh), hk⟩, mkH_app (I := I) (J := J) (fun b hb => ⟨rfl, (wzJ_ne (by omega)).symm⟩)]
  show _ = some (mkH sh I J ++ [.inl (1, k, .inr (.inl (wzJ J sh.length sh.length)))])
  rw [wzJ_eq]
theorem nwI_H (h : okh sh) (hk : k ≤ 67000000) : nwI (mkH sh I J) (nI k) = some (mkH (sh ++ [.inl (0, k)]) (wzI I sh.length) J) := by
  unfold nwI
  rw [mkH_all, mkH_len, nI_clamp (by omega), if_pos ⟨h.1, h.2, fun hh => nI_in (c := k) (N := k + 1) (by omega) (by omega) (Or.inl hh), hk⟩, mkH_app (I := I) (J := J) (fun b hb => ⟨(wzI_ne (by omega)).symm, rfl⟩)]
  show _ = some (mkH sh I J ++ [.inl (0, k, .inl (wzI I sh.length sh.length))])
  rw [wzI_eq]
theorem nwZ_H (h : okh sh) (hk : k ≤ 67000000) : nwZ (mkH sh I J) (nI k) = some (mkH (sh ++ [.inl (2, k)]) (wzI I sh.length) J) := by
  unfold nwZ
  rw [mkH_all, mkH_len, nI_clamp (by omega), if_pos ⟨h.1, h.2, fun hh => nI_in (c := k) (N := k + 1) (by omega) (by omega) (Or.inl hh), hk⟩, mkH_app (I := I) (J := J) (fun b hb => ⟨(wzI_ne (by omega)).symm, rfl⟩)]
  show _ = some (mkH sh I J ++ [.inl (2, k, .inl (wzI I sh.length sh.length))])
  rw [wzI_eq]
theorem hF_z {b : Nat} (f : Nat) (fk : List (Nat ⊕ Value)) : hF (wzI I b) (wzJ J b) b f fk = hF (fun _ _ => 0) (fun _ _ => 0) b f fk := hF_cg wzI_eq wzJ_eq f fk
theorem hF_0 {a b : Nat} (f : Nat) (fk : List (Nat ⊕ Value)) : hF (fun _ _ => 0) (fun _ _ => 0) a f fk = hF (fun _ _ => 0) (fun _ _ => 0) b f fk := by
  induction fk generalizing f with
  | nil => rfl
  | cons z r ih =>
    rw [hF, hF, ih]
    congr 1
theorem nwO_H {ci : Nat} {fk : List (Nat ⊕ Value)} (hd : mdef ci = some (hF (fun _ _ => 0) (fun _ _ => 0) 0 0 fk)) (h : okh sh) : nwO ci (mkH sh I J) = some (mkH (sh ++ [.inr (ci, fk)]) (wzI I sh.length) (wzJ J sh.length)) := by
  unfold nwO
  rw [hd]
  show (if _ then _ else none) = _
  rw [mkH_all, mkH_len, if_pos ⟨h.1, h.2⟩, mkH_app (I := I) (J := J) (fun b hb => ⟨(wzI_ne (by omega)).symm, (wzJ_ne (by omega)).symm⟩)]
  show _ = some (mkH sh I J ++ [.inr (ci, hF (wzI I sh.length) (wzJ J sh.length) sh.length 0 fk)])
  rw [hF_z, hF_0 (a := sh.length) (b := 0)]
theorem hF_setr (f : Nat) (fk : List (Nat ⊕ Value)) (i : Nat) (v : Value) : (hF I J a f fk).set i v = hF I J a f (fk.set i (.inr v)) := by
  induction fk generalizing f i with
  | nil => rfl
  | cons z r ih =>
    cases i with
    | zero => rfl
    | succ i =>
      rw [hF, List.set_cons_succ, List.set_cons_succ, hF, ih]
theorem pfr_H {ci f : Nat} {fk : List (Nat ⊕ Value)} {v : Value} (h : sh[a]? = some (.inr (ci, fk))) (hf : f < fk.length) : pfv ci f (mkH sh I J) a v = some (mkH (sh.set a (.inr (ci, fk.set f (.inr v)))) I J) := by
  unfold pfv
  rw [mkH_get, h]
  show (if ci = ci ∧ f < (hF I J a 0 fk).length then some ((mkH sh I J).set a (.inr (ci, (hF I J a 0 fk).set f v))) else none) = _
  rw [hF_len, if_pos ⟨rfl, hf⟩, hF_setr]
  congr 1
  apply List.ext_getElem?
  intro k
  have hal : a < sh.length := (List.getElem?_eq_some_iff.mp h).1
  rw [List.getElem?_set, mkH_get, mkH_get, mkH_len, List.getElem?_set]
  by_cases hk : a = k
  · subst hk
    rw [if_pos rfl, if_pos hal, if_pos rfl, if_pos hal]
    rfl
  · rw [if_neg hk, if_neg hk]
theorem gfq_H {ci f b : Nat} {fk : List (Nat ⊕ Value)} (h : sh[a]? = some (.inr (ci, fk))) (hf : fk[f]? = some (.inr (.ref b))) : gfq ci f (mkH sh I J) a = some (some b) := by
  unfold gfq
  rw [gfv_H h, hf]
  rfl
theorem gfq_N {ci f : Nat} {fk : List (Nat ⊕ Value)} (h : sh[a]? = some (.inr (ci, fk))) (hf : fk[f]? = some (.inr .null)) : gfq ci f (mkH sh I J) a = some none := by
  unfold gfq
  rw [gfv_H h, hf]
  rfl
variable {r : List hQ} {ci f : Nat} {fk : List (Nat ⊕ Value)}
theorem apg {q : hQ} : (sh ++ q :: r)[sh.length]? = some q := by
  rw [List.getElem?_append_right (Nat.le_refl _), Nat.sub_self]
  rfl
theorem pA {v : Value} (hf : f < fk.length) : pfv ci f (mkH (sh ++ .inr (ci, fk) :: r) I J) sh.length v = some (mkH (sh ++ .inr (ci, fk.set f (.inr v)) :: r) I J) := by
  rw [pfr_H apg hf, List.set_append_right _ _ (Nat.le_refl _), Nat.sub_self]
  rfl
theorem pAi {x : Int32} (hf : fk[f]? = some (.inl 0)) : pfv ci f (mkH (sh ++ .inr (ci, fk) :: r) I J) sh.length (.int x) = some (mkH (sh ++ .inr (ci, fk) :: r) (upI I sh.length f x) J) := pfi_H apg hf
theorem okz_mo {n : Nat} {z : Nat ⊕ Value} (hn : m ≤ n) (h : okz m z = true) : okz n z = true := by
  cases z with
  | inl x => rfl
  | inr v =>
    cases v with
    | ref a =>
      have h : decide (a < m ∨ 1000000 ≤ a) = true := h
      show decide (a < n ∨ 1000000 ≤ a) = true
      rw [decide_eq_true_eq] at h ⊢
      exact h.elim (fun h => Or.inl (Nat.lt_of_lt_of_le h hn)) Or.inr
    | _ => rfl
theorem okq_mo {n : Nat} {q : hQ} (hn : m ≤ n) (h : okq m q = true) : okq n q = true := by
  cases q with
  | inl x => rfl
  | inr v =>
    have h : v.2.all (okz m) = true := h
    show v.2.all (okz n) = true
    simp only [List.all_eq_true] at h ⊢
    exact fun z hz => okz_mo hn (h z hz)
theorem okh_app (h : okh sh) (hr : r.all (okq (sh.length + r.length)) = true) (hl : sh.length + r.length < 1000000) : okh (sh ++ r) := by
  unfold okh
  rw [List.length_append, List.all_append, hr, Bool.and_true]
  refine ⟨?_, hl⟩
  have := h.1
  simp only [List.all_eq_true] at this ⊢
  exact fun q hq => okq_mo (by omega) (this q hq)
end S
theorem md0 : mdef 0 = some (hF (fun _ _ => 0) (fun _ _ => 0) 0 0 [.inr .null, .inr .null, .inr .null, .inr .null, .inr .null, .inr .null, .inr .null, .inl 0, .inl 0]) := by decide +kernel
theorem md2 : mdef 2 = some (hF (fun _ _ => 0) (fun _ _ => 0) 0 0 [.inr .null, .inr .null, .inr .null, .inr .null, .inr .null, .inr .null, .inl 0, .inl 0, .inl 0]) := by decide +kernel
theorem md6 : mdef 6 = some (hF (fun _ _ => 0) (fun _ _ => 0) 0 0 [.inr .null, .inl 0, .inl 0, .inr .null, .inr .null, .inr .null, .inr .null]) := by decide +kernel
theorem md7 : mdef 7 = some (hF (fun _ _ => 0) (fun _ _ => 0) 0 0 [.inr .null, .inr .null, .inr .null, .inr .null, .inr .null, .inl 0, .inl 0, .inl 0, .inl 0, .inl 0]) := by decide +kernel
