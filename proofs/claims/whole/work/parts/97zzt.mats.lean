/-! Least words of one element: by braids from one to the other. -/
def brd (n : Nat) (A : Nat → Nat → Int) (x y : List Nat) : Prop := ∀ R : List Nat → Prop, R x → (∀ (p q : List Nat) (s t m : Nat), s < n → t < n → s ≠ t → cx_pr (A s t) (A t s) m → m ≠ 0 → R (p ++ cx_al s t m ++ q) → R (p ++ cx_al t s m ++ q)) → R y
section S
variable {n : Nat} {A : Nat → Nat → Int} {s t m : Nat} {w v u x y z : List Nat}
theorem brd_rf (x : List Nat) : brd n A x x := fun _ h _ => h
theorem brd_st {x : List Nat} (p q : List Nat) (s t m : Nat) (sn : s < n) (tn : t < n) (hst : s ≠ t) (hm : cx_pr (A s t) (A t s) m) (m0 : m ≠ 0) (h : brd n A x (p ++ cx_al s t m ++ q)) : brd n A x (p ++ cx_al t s m ++ q) := fun R h0 h1 => h1 p q s t m sn tn hst hm m0 (h R h0 h1)
theorem brd_tr (h1 : brd n A x y) (h2 : brd n A y z) : brd n A x z := fun R h0 h => h2 R (h1 R h0 h) h
theorem brd_ap (r : List Nat) (h : brd n A x y) : brd n A (x ++ r) (y ++ r) := by
  refine h (fun y => brd n A (x ++ r) (y ++ r)) (brd_rf _) (fun p q s t m sn tn hst hm m0 ih => ?_)
  rw [List.append_assoc] at ih ⊢
  exact brd_st p (q ++ r) s t m sn tn hst hm m0 ih
theorem brd_g (hok : cx_ok n A) (h : brd n A x y) : cx_g n A x = cx_g n A y := h (fun y => cx_g n A x = cx_g n A y) rfl (fun p q s t m sn tn hst hm m0 ih => ih.trans (cx_g_app (cx_g_app rfl (cx_g_braid hok sn tn hst hm m0)) rfl))
theorem brd_len (h : brd n A x y) : x.length = y.length := by
  refine h (fun y => x.length = y.length) rfl (fun p q s t m sn tn hst hm m0 ih => ?_)
  rw [ih]
  simp only [List.length_append, cx_al_len]
theorem brd_L (hx : cx_L n x) (h : brd n A x y) : cx_L n y := by
  refine h (cx_L n) hx (fun p q s t m sn tn hst hm m0 h1 => ?_)
  refine cx_L_app (cx_L_app (fun r hr => h1 r ?_) (cx_al_L tn sn m)) (fun r hr => h1 r (List.mem_append_right _ hr))
  exact List.mem_append_left _ (List.mem_append_left _ hr)
theorem mats (hok : cx_ok n A) : ∀ (k : Nat) (x y : List Nat), cx_L n x → cx_L n y → x.length = k → y.length = k → cx_l n A x = k → cx_g n A x = cx_g n A y → brd n A x y := by
  intro k
  induction k with
  | zero =>
    intro x y _ _ h1 h2 _ _
    rw [List.length_eq_zero_iff.mp h1, List.length_eq_zero_iff.mp h2]
    exact brd_rf _
  | succ k ih =>
    intro x y hx hy lx ly hl hg
    rcases List.eq_nil_or_concat x with e | ⟨x', s, e⟩
    · rw [e] at lx
      exact absurd lx (by simp)
    rcases List.eq_nil_or_concat y with e' | ⟨y', t, e'⟩
    · rw [e'] at ly
      exact absurd ly (by simp)
    rw [List.concat_eq_append] at e e'
    rw [e] at hx lx hl hg ⊢
    rw [e'] at hy ly hg ⊢
    rw [List.length_append, List.length_singleton] at lx ly
    have xL : cx_L n x' := fun r hr => hx r (List.mem_append_left _ hr)
    have yL : cx_L n y' := fun r hr => hy r (List.mem_append_left _ hr)
    have sn : s < n := hx s (List.mem_append_right _ List.mem_cons_self)
    have tn : t < n := hy t (List.mem_append_right _ List.mem_cons_self)
    have l1 := cx_l_app (A := A) xL (cx_L_1 sn)
    rw [List.length_singleton] at l1
    have l2 := cx_l_len (A := A) xL
    have lx' : cx_l n A x' = k := by omega
    by_cases hst : s = t
    · rw [hst] at hg ⊢
      exact brd_ap [t] (ih x' y' xL yL (by omega) (by omega) lx' (g_canc hok tn hg))
    · have d1 : dn n A (x' ++ [s]) s := by
        unfold dn
        rw [cx_l_eq (cx_g_sr hok sn x')]
        omega
      have d2 : dn n A (x' ++ [s]) t := by
        rw [dn_g hg t]
        unfold dn
        rw [cx_l_eq (cx_g_sr hok tn y'), ← cx_l_eq hg, hl]
        have := cx_l_len (A := A) yL
        omega
      obtain ⟨m, hm⟩ := hok.2 s t sn tn hst
      obtain ⟨m0, v, hv, hvg, hvl⟩ := dih hok hx sn tn hst hm d1 d2
      obtain ⟨r1, r2, r3⟩ := rdw_sp (A := A) hv
      obtain ⟨j, ej⟩ : ∃ j, m = j + 1 := ⟨m - 1, by omega⟩
      have lr : (rdw n A v).length + m = k + 1 := by
        rw [← r3, cx_l_eq r2]
        omega
      have g1 : cx_g n A (rdw n A v ++ cx_al s t m) = cx_g n A (x' ++ [s]) := (cx_g_ap1 _ r2).trans hvg
      have g2 : cx_g n A (rdw n A v ++ cx_al t s m) = cx_g n A (x' ++ [s]) := (cx_g_ap2 _ (cx_g_braid hok sn tn hst hm m0).symm).trans g1
      have e1 : rdw n A v ++ cx_al s t m = rdw n A v ++ cx_al t s j ++ [t] := by
        rw [ej, cx_al_end, List.append_assoc]
      have e2 : rdw n A v ++ cx_al t s m = rdw n A v ++ cx_al s t j ++ [s] := by
        rw [ej, cx_al_end, List.append_assoc]
      have b1 : brd n A x' (rdw n A v ++ cx_al s t j) := by
        refine ih x' _ xL (cx_L_app r1 (cx_al_L sn tn j)) (by omega) (by rw [List.length_append, cx_al_len]; omega) lx' (g_canc hok sn ?_)
        rw [← e2]
        exact g2.symm
      have gy : cx_g n A (rdw n A v ++ cx_al t s j) = cx_g n A y' := by
        refine g_canc hok tn ?_
        rw [← e1, ← hg]
        exact g1
      have ly' : cx_l n A y' = k := by
        have l3 := cx_l_app (A := A) yL (cx_L_1 tn)
        rw [List.length_singleton, ← cx_l_eq hg] at l3
        have l4 := cx_l_len (A := A) yL
        omega
      have b2 : brd n A (rdw n A v ++ cx_al t s j) y' := ih _ y' (cx_L_app r1 (cx_al_L tn sn j)) yL (by rw [List.length_append, cx_al_len]; omega) (by omega) (by rw [cx_l_eq gy]; exact ly') gy
      have c1 := brd_ap [s] b1
      rw [← e2] at c1
      have c2 := brd_ap [t] b2
      rw [← e1] at c2
      have c3 : brd n A (x' ++ [s]) (rdw n A v ++ cx_al s t m) := by
        have := brd_st (n := n) (A := A) (x := x' ++ [s]) (rdw n A v) [] t s m tn sn (Ne.symm hst) (cx_pr_t hm) m0 (by rw [List.append_nil]; exact c1)
        rw [List.append_nil] at this
        exact this
      exact brd_tr c3 c2
/-- for words as short as can be -/
theorem mats_w (hok : cx_ok n A) (hx : cx_L n x) (hy : cx_L n y) (lx : cx_l n A x = x.length) (ly : cx_l n A y = y.length) (hg : cx_g n A x = cx_g n A y) : brd n A x y := mats hok x.length x y hx hy rfl (by rw [← lx, ← ly, cx_l_eq hg]) lx hg
end S
