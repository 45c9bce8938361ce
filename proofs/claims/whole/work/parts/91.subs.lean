/-! Words with letters left out: how many there are, and that what is below on the right is spelled by them. -/
def bn : Nat → Nat → Nat
  | _, 0 => 1
  | 0, _ + 1 => 0
  | m + 1, k + 1 => bn m (k + 1) + bn m k
theorem bn_le : ∀ m, m < 13 → ∀ k, k < 13 → bn m k ≤ 924 := by decide
/-- w with k letters left out -/
def sbs : Nat → List Nat → List (List Nat)
  | 0, w => [w]
  | _ + 1, [] => []
  | k + 1, a :: w => (sbs (k + 1) w).map (fun u => a :: u) ++ sbs k w
def als : List Nat → List (List Nat)
  | [] => [[]]
  | a :: w => (als w).map (fun u => a :: u) ++ als w
theorem sbs_0 (w : List Nat) : w ∈ sbs 0 w := by
  cases w with
  | nil => exact List.mem_singleton.mpr rfl
  | cons a w => exact List.mem_singleton.mpr rfl
theorem sbs_len : ∀ (w : List Nat) (k : Nat), (sbs k w).length = bn w.length k := by
  intro w
  induction w with
  | nil =>
    intro k
    cases k with
    | zero => rfl
    | succ k => rfl
  | cons a w ih =>
    intro k
    cases k with
    | zero => rfl
    | succ k =>
      rw [sbs, List.length_append, List.length_map, ih, ih]
      rfl
theorem als_len (w : List Nat) : (als w).length = 2 ^ w.length := by
  induction w with
  | nil => rfl
  | cons a w ih =>
    rw [als, List.length_append, List.length_map, ih, List.length_cons, Nat.pow_succ]
    omega
theorem sbs_er : ∀ (w : List Nat) (k : Nat) (u : List Nat) (i : Nat), u ∈ sbs k w → i < u.length → u.eraseIdx i ∈ sbs (k + 1) w := by
  intro w
  induction w with
  | nil =>
    intro k u i hu hi
    cases k with
    | zero =>
      cases List.mem_singleton.mp hu
      exact absurd hi (by simp)
    | succ k => cases hu
  | cons a w ih =>
    intro k u i hu hi
    rw [sbs, List.mem_append, List.mem_map]
    cases k with
    | zero =>
      cases List.mem_singleton.mp hu
      cases i with
      | zero => exact Or.inr (sbs_0 w)
      | succ i => exact Or.inl ⟨w.eraseIdx i, ih 0 w i (sbs_0 w) (by simpa using hi), rfl⟩
    | succ k =>
      rw [sbs, List.mem_append, List.mem_map] at hu
      rcases hu with ⟨u', hu', rfl⟩ | hu
      · cases i with
        | zero => exact Or.inr hu'
        | succ i => exact Or.inl ⟨u'.eraseIdx i, ih (k + 1) u' i hu' (by simpa using hi), rfl⟩
      · exact Or.inr (ih k u i hu hi)
theorem als_er : ∀ (w : List Nat) (u : List Nat) (i : Nat), u ∈ als w → u.eraseIdx i ∈ als w := by
  intro w
  induction w with
  | nil =>
    intro u i hu
    cases List.mem_singleton.mp hu
    exact List.mem_singleton.mpr rfl
  | cons a w ih =>
    intro u i hu
    rw [als, List.mem_append, List.mem_map] at hu ⊢
    rcases hu with ⟨u', hu', rfl⟩ | hu
    · cases i with
      | zero => exact Or.inr hu'
      | succ i => exact Or.inl ⟨u'.eraseIdx i, ih u' i hu', rfl⟩
    · exact Or.inr (ih u i hu)
theorem als_self (w : List Nat) : w ∈ als w := by
  induction w with
  | nil => exact List.mem_singleton.mpr rfl
  | cons a w ih =>
    rw [als, List.mem_append, List.mem_map]
    exact Or.inl ⟨w, ih, rfl⟩
section S
variable {n : Nat} {A : Nat → Nat → Int}
/-- unlike elements that words of S spell are no more than S has words -/
theorem pgl {S ws : List (List Nat)} (hd : ∀ (i j : Nat) (u w : List Nat), ws[i]? = some u → ws[j]? = some w → cx_g n A u = cx_g n A w → i = j) (h : ∀ (i : Nat) (u : List Nat), ws[i]? = some u → ∃ v, v ∈ S ∧ cx_g n A v = cx_g n A u) : ws.length ≤ S.length := by
  have hf : ∀ i : Nat, ∃ e : Nat, i < ws.length → e < S.length ∧ ∃ v u : List Nat, S[e]? = some v ∧ ws[i]? = some u ∧ cx_g n A v = cx_g n A u := by
    intro i
    by_cases hi : i < ws.length
    · obtain ⟨v, hv, hg⟩ := h i ws[i] (List.getElem?_eq_getElem hi)
      obtain ⟨e, he⟩ := List.mem_iff_getElem?.mp hv
      exact ⟨e, fun _ => ⟨(List.getElem?_eq_some_iff.mp he).1, v, ws[i], he, List.getElem?_eq_getElem hi, hg⟩⟩
    · exact ⟨0, fun hh => absurd hh hi⟩
  refine pig S.length ws.length (fun i => Classical.choose (hf i)) (fun i hi => (Classical.choose_spec (hf i) hi).1) (fun i j hi hj he => ?_)
  obtain ⟨_, v, u, a1, a2, a3⟩ := Classical.choose_spec (hf i) hi
  obtain ⟨_, v', u', b1, b2, b3⟩ := Classical.choose_spec (hf j) hj
  have he : Classical.choose (hf i) = Classical.choose (hf j) := he
  rw [he, b1] at a1
  cases a1
  exact hd i j u u' a2 b2 (a3.symm.trans b3)
/-- z is spelled by a least word out of w with k letters left out -/
def swk (n : Nat) (A : Nat → Nat → Int) (w : List Nat) (k : Nat) (z : List Nat) : Prop := ∃ u, u ∈ sbs k w ∧ u ∈ als w ∧ cx_L n u ∧ u.length = cx_l n A u ∧ cx_g n A u = cx_g n A z
theorem swk_0 {w : List Nat} (hw : cx_L n w) (hl : w.length = cx_l n A w) : swk n A w 0 w := ⟨w, sbs_0 w, als_self w, hw, hl, rfl⟩
theorem swk_s (hok : cx_ok n A) {w z : List Nat} {k j : Nat} (h : swk n A w k z) (hz : cx_L n z) (hj : j < n) (hd : dn n A z j) : swk n A w (k + 1) (z ++ [j]) := by
  obtain ⟨u, h1, h2, h3, h4, h5⟩ := h
  have hdu : dn n A u j := (dn_g h5 j).mpr hd
  obtain ⟨i, hi, hg⟩ := cx_exch hok hj h3 hdu
  refine ⟨u.eraseIdx i, sbs_er w k u i h1 hi, als_er w u i h2, cx_L_er h3 i, ?_, hg.symm.trans (cx_g_ap1 [j] h5)⟩
  have e1 := dn_1 hok h3 hj hdu
  rw [cx_l_eq hg] at e1
  rw [List.length_eraseIdx_of_lt hi]
  omega
/-- a level has no more than 924 -/
theorem swk_le {w : List Nat} {ws : List (List Nat)} {k : Nat} (hw : w.length ≤ 12) (hk : k ≤ 12) (hd : ∀ (i j : Nat) (u w : List Nat), ws[i]? = some u → ws[j]? = some w → cx_g n A u = cx_g n A w → i = j) (h : ∀ (i : Nat) (u : List Nat), ws[i]? = some u → swk n A w k u) : ws.length ≤ 924 := by
  refine Nat.le_trans (pgl hd (S := sbs k w) (fun i u hu => ?_)) (by rw [sbs_len]; exact bn_le _ (by omega) _ (by omega))
  obtain ⟨v, h1, _, _, _, h5⟩ := h i u hu
  exact ⟨v, h1, h5⟩
/-- all of them are no more than 4096 -/
theorem swa_le {w : List Nat} {ws : List (List Nat)} (hw : w.length ≤ 12) (hd : ∀ (i j : Nat) (u w : List Nat), ws[i]? = some u → ws[j]? = some w → cx_g n A u = cx_g n A w → i = j) (h : ∀ (i : Nat) (u : List Nat), ws[i]? = some u → ∃ k, swk n A w k u) : ws.length ≤ 4096 := by
  refine Nat.le_trans (pgl hd (S := als w) (fun i u hu => ?_)) (by rw [als_len]; exact Nat.pow_le_pow_right (n := 2) (by omega) hw)
  obtain ⟨k, v, _, h2, _, _, h5⟩ := h i u hu
  exact ⟨v, h2, h5⟩
end S
