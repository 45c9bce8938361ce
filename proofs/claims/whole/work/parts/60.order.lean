/-! What stands below what, letters left out, products. -/
section S
variable {n : Nat} {A : Nat → Nat → Int}
/-- letters of ws one by one: taken, if down -/
def gb (n : Nat) (A : Nat → Nat → Int) : List Nat → List Nat → Prop
  | x, [] => cx_l n A x = 0
  | x, s :: ws => (dn n A x s → gb n A (x ++ [s]) ws) ∧ (¬ dn n A x s → gb n A x ws)
theorem cx_g_rv (hok : cx_ok n A) {x y : List Nat} (hx : cx_L n x) (hy : cx_L n y) : cx_g n A x.reverse = cx_g n A y ↔ cx_g n A x = cx_g n A y.reverse := by
  constructor
  · intro h
    have := cx_g_rev hok (cx_L_rev hx) hy h
    rw [List.reverse_reverse] at this
    exact this
  · intro h
    have := cx_g_rev hok hx (cx_L_rev hy) h
    rw [List.reverse_reverse] at this
    exact this
/-- exchange on the left -/
theorem cx_lexch (hok : cx_ok n A) {s : Nat} (hs : s < n) {x : List Nat} (hx : cx_L n x) (h : cx_l n A (s :: x) < cx_l n A x) : ∃ i, i < x.length ∧ cx_g n A (s :: x) = cx_g n A (x.eraseIdx i) := by
  have h1 : cx_l n A (x.reverse ++ [s]) < cx_l n A x.reverse := by
    rw [cx_l_rev hok hx, ← cx_l_cons hok hx hs]
    exact h
  obtain ⟨i, hi, hg⟩ := cx_exch hok hs (cx_L_rev hx) h1
  rw [List.length_reverse] at hi
  refine ⟨x.length - 1 - i, by omega, ?_⟩
  have e : x.reverse.eraseIdx i = (x.eraseIdx (x.length - 1 - i)).reverse := by
    rw [List.eraseIdx_eq_take_drop_succ, List.eraseIdx_eq_take_drop_succ, List.reverse_append, List.take_reverse, List.drop_reverse, show x.length - 1 - i + 1 = x.length - i by omega, show x.length - (i + 1) = x.length - 1 - i by omega]
  rw [e] at hg
  have h2 : x.reverse ++ [s] = (s :: x).reverse := by rw [List.reverse_cons]
  rw [h2] at hg
  have := cx_g_rev hok (cx_L_rev (cx_L_cons hs hx)) (cx_L_rev (cx_L_er hx _)) hg
  rw [List.reverse_reverse, List.reverse_reverse] at this
  exact this
theorem gb_sub (hok : cx_ok n A) : ∀ {ws x : List Nat}, cx_L n x → cx_L n ws → (gb n A x ws ↔ ∃ z, z.Sublist ws ∧ cx_g n A z = cx_g n A x.reverse) := by
  intro ws
  induction ws with
  | nil =>
    intro x hx _
    constructor
    · intro h
      exact ⟨[], List.Sublist.refl _, (cx_g_rev hok hx cx_L_nil (cx_l_0 hx h)).symm⟩
    · rintro ⟨z, hz, hg⟩
      have := List.sublist_nil.mp hz
      subst this
      have h1 := cx_l_eq hg
      rw [cx_l_nil, cx_l_rev hok hx] at h1
      exact h1.symm
  | cons s ws ih =>
    intro x hx hws
    have hs := cx_L_hd hws
    have hw2 := cx_L_tl hws
    have hxr := cx_L_rev hx
    have er : (x ++ [s]).reverse = s :: x.reverse := by rw [List.reverse_append]; rfl
    have hdr := dn_rev hok hx hs
    by_cases hd : dn n A x s
    · have : gb n A x (s :: ws) ↔ gb n A (x ++ [s]) ws := ⟨fun h => h.1 hd, fun h => ⟨fun _ => h, fun h2 => absurd hd h2⟩⟩
      rw [this, ih (cx_L_app hx (cx_L_1 hs)) hw2, er]
      constructor
      · rintro ⟨z, hz, hg⟩
        exact ⟨s :: z, hz.cons_cons s, (cx_g_cons s hg).trans (cx_g_sc hok hs _)⟩
      · rintro ⟨z, hz, hg⟩
        cases hz with
        | cons _ hz =>
          have hzL : cx_L n z := fun r hr => hw2 r (hz.subset hr)
          have hlt : cx_l n A (s :: z) < cx_l n A z := by
            rw [cx_l_eq (cx_g_cons s hg), cx_l_eq hg]
            exact hdr.mp hd
          obtain ⟨i, hi, hg2⟩ := cx_lexch hok hs hzL hlt
          exact ⟨z.eraseIdx i, (List.eraseIdx_sublist z i).trans hz, hg2.symm.trans (cx_g_cons s hg)⟩
        | cons_cons _ hz =>
          rename_i z'
          refine ⟨z', hz, ?_⟩
          have := cx_g_cons (n := n) (A := A) s hg
          rw [cx_g_sc hok hs] at this
          exact this
    · have : gb n A x (s :: ws) ↔ gb n A x ws := ⟨fun h => h.2 hd, fun h => ⟨fun h2 => absurd h2 hd, fun _ => h⟩⟩
      rw [this, ih hx hw2]
      constructor
      · rintro ⟨z, hz, hg⟩
        exact ⟨z, hz.cons s, hg⟩
      · rintro ⟨z, hz, hg⟩
        cases hz with
        | cons _ hz => exact ⟨z, hz, hg⟩
        | cons_cons _ hz =>
          rename_i z'
          have hzL : cx_L n z' := fun r hr => hw2 r (hz.subset hr)
          have hg1 : cx_g n A z' = cx_g n A (s :: x.reverse) := by
            have := cx_g_cons (n := n) (A := A) s hg
            rw [cx_g_sc hok hs] at this
            exact this
          have hlt : cx_l n A (s :: z') < cx_l n A z' := by
            rw [cx_l_eq hg, cx_l_eq hg1]
            rcases cx_lstep hok hxr hs with h | h
            · omega
            · exact absurd (hdr.mpr (by omega)) hd
          obtain ⟨i, hi, hg2⟩ := cx_lexch hok hs hzL hlt
          exact ⟨z'.eraseIdx i, (List.eraseIdx_sublist z' i).trans hz, hg2.symm.trans hg⟩
/-- u stands below w -/
def sbw (n : Nat) (A : Nat → Nat → Int) (u w : List Nat) : Prop := ∃ z, z.Sublist w ∧ cx_g n A z = cx_g n A u
theorem gb_l (hok : cx_ok n A) {u w : List Nat} (hu : cx_L n u) (hw : cx_L n w) : gb n A u.reverse w ↔ sbw n A u w := by
  rw [gb_sub hok (cx_L_rev hu) hw, List.reverse_reverse]
  exact Iff.rfl
theorem gb_r (hok : cx_ok n A) {u w : List Nat} (hu : cx_L n u) (hw : cx_L n w) : gb n A u w.reverse ↔ sbw n A u w := by
  rw [gb_sub hok hu (cx_L_rev hw)]
  constructor
  · rintro ⟨z, hz, hg⟩
    have hzL : cx_L n z := fun r hr => cx_L_rev hw r (hz.subset hr)
    refine ⟨z.reverse, ?_, ?_⟩
    · have := hz.reverse
      rw [List.reverse_reverse] at this
      exact this
    · exact (cx_g_rv hok hzL hu).mpr hg
  · rintro ⟨z, hz, hg⟩
    have hzL : cx_L n z := fun r hr => hw r (hz.subset hr)
    exact ⟨z.reverse, hz.reverse, cx_g_rev hok hzL hu hg⟩
/-! letters left out -/
noncomputable def cvn (n : Nat) (A : Nat → Nat → Int) (w : List Nat) : Nat → Nat
  | 0 => 0
  | k + 1 => cvn n A w k + if cx_l n A (w.eraseIdx k) + 1 = w.length then 1 else 0
theorem cvn_le (w : List Nat) (k : Nat) : cvn n A w k ≤ k := by
  induction k with
  | zero => exact Nat.le_refl _
  | succ k ih =>
    rw [cvn]
    split <;> omega
theorem cx_l_ge (hok : cx_ok n A) {x y : List Nat} (hx : cx_L n x) (hy : cx_L n y) : cx_l n A x ≤ cx_l n A (x ++ y) + y.length := by
  have h := cx_l_app (A := A) (cx_L_app hx hy) (cx_L_rev hy)
  have e : cx_g n A (x ++ y ++ y.reverse) = cx_g n A x := by
    rw [List.append_assoc]
    have := cx_g_ap2 (n := n) (A := A) x (cx_g_inv hok hy)
    rw [List.append_nil] at this
    exact this
  rw [cx_l_eq e, List.length_reverse] at h
  exact h
/-- shorter words of words that are shortest -/
theorem cx_red_l (hok : cx_ok n A) {x y : List Nat} (hx : cx_L n x) (hy : cx_L n y) (h : cx_l n A (x ++ y) = (x ++ y).length) : cx_l n A x = x.length ∧ ¬ (∃ i t, y[i]? = some t ∧ dn n A (x ++ y.take i) t) := by
  have h1 := cx_l_app (A := A) hx hy
  have h2 := cx_l_len (A := A) hx
  rw [List.length_append] at h
  refine ⟨by omega, ?_⟩
  rintro ⟨i, t, hi, hd⟩
  have hil := (List.getElem?_eq_some_iff.mp hi).1
  have ht := cx_L_at hy hi
  have hyt : cx_L n (y.take i) := fun r hr => hy r (List.mem_of_mem_take hr)
  have h3 := dn_1 hok (cx_L_app hx hyt) ht hd
  have h4 := cx_l_app (A := A) hx hyt
  have e : x ++ y = x ++ y.take i ++ [t] ++ y.drop (i + 1) := by
    rw [List.append_assoc, List.append_assoc]
    congr 1
    show y = y.take i ++ (t :: y.drop (i + 1))
    rw [← drop_c hi, List.take_append_drop]
  have hyd : cx_L n (y.drop (i + 1)) := fun r hr => hy r (List.mem_of_mem_drop hr)
  have h5 := cx_l_app (A := A) (cx_L_app (cx_L_app hx hyt) (cx_L_1 ht)) hyd
  rw [← e, List.length_drop] at h5
  rw [List.length_take] at h4
  omega
theorem take_L {x : List Nat} (hx : cx_L n x) (i : Nat) : cx_L n (x.take i) := fun r hr => hx r (List.mem_of_mem_take hr)
theorem drop_L {x : List Nat} (hx : cx_L n x) (i : Nat) : cx_L n (x.drop i) := fun r hr => hx r (List.mem_of_mem_drop hr)
/-- parts of THE WORD are shortest -/
theorem red_take (hok : cx_ok n A) {w : List Nat} (hw : cx_L n w) (h : cx_l n A w = w.length) (i : Nat) : cx_l n A (w.take i) = (w.take i).length := by
  have e : w.take i ++ w.drop i = w := List.take_append_drop i w
  exact (cx_red_l hok (take_L hw i) (drop_L hw i) (by rw [e]; exact h)).1
end S
