/-! Two mirrors that commute, all of the one before all of the other in a word: as if they never turned. -/
def lmp (n : Nat) (A B : Nat → Nat → Int) (i j : Nat) : Prop := i < n ∧ j < n ∧ i ≠ j ∧ A i j = 0 ∧ A j i = 0 ∧ B i j = -2 ∧ B j i = -2 ∧ ∀ a b, ¬ (a = i ∧ b = j) → ¬ (a = j ∧ b = i) → B a b = A a b
section S
variable {n : Nat} {A B : Nat → Nat → Int} {i j s : Nat}
theorem lmp_sw (H : lmp n A B i j) : lmp n A B j i := ⟨H.2.1, H.1, Ne.symm H.2.2.1, H.2.2.2.2.1, H.2.2.2.1, H.2.2.2.2.2.2.1, H.2.2.2.2.2.1, fun a b h1 h2 => H.2.2.2.2.2.2.2 a b h2 h1⟩
theorem lx_1 (H : lmp n A B i j) : ∀ (x : List Nat), j ∉ x → ∀ v : Nat → Int, v j = 0 → cx_x n A x v = cx_x n B x v := by
  intro x
  induction x with
  | nil => exact fun _ v _ => rfl
  | cons s x ih =>
    intro hj v hv
    have h1 : j ≠ s := fun e => hj (e ▸ List.mem_cons_self)
    have h2 : j ∉ x := fun e => hj (List.mem_cons_of_mem _ e)
    have u0 : cx_x n A x v j = 0 := by
      rw [cx_x_no (n := n) (A := A) v x h2]
      exact hv
    show cx_a n A s (cx_x n A x v) = cx_a n B s (cx_x n B x v)
    rw [← ih h2 v hv]
    funext k
    unfold cx_a
    have e : cx_sum n (fun b => A s b * cx_x n A x v b) = cx_sum n (fun b => B s b * cx_x n A x v b) := by
      refine cx_sum_eq (fun b _ => ?_)
      by_cases hb : b = j
      · rw [hb, u0, Int.mul_zero, Int.mul_zero]
      · rw [H.2.2.2.2.2.2.2 s b (fun h => hb h.2) (fun h => h1 h.1.symm)]
    rw [e]
theorem e_no {a b : Nat} (h : a ≠ b) : cx_e a b = 0 := by
  unfold cx_e
  rw [if_neg (fun e => h e.symm)]
theorem dn_F (hok : cx_ok n A) (hok2 : cx_ok n B) (H : lmp n A B i j) {x : List Nat} (hx : cx_L n x) (hj : j ∉ x) (sn : s < n) (hs2 : s ≠ j) : dn n A x s ↔ dn n B x s := by
  have e := lx_1 H x hj (cx_e s) (e_no hs2)
  have a := cx_dn hok hx sn
  have b := cx_dn hok2 hx sn
  rw [e] at a
  exact a.symm.trans b
theorem dn_E (hok : cx_ok n A) (hok2 : cx_ok n B) (H : lmp n A B i j) {x y : List Nat} (hx : cx_L n (x ++ y)) (hj : j ∉ x) (hi : i ∉ y) (sn : s < n) (hs2 : s ≠ i) : dn n A (x ++ y) s ↔ dn n B (x ++ y) s := by
  have e := lx_1 (lmp_sw H) y hi (cx_e s) (e_no hs2)
  have aj : cx_x n A (x ++ y) (cx_e s) j = cx_x n A y (cx_e s) j := by
    rw [cx_x_app, cx_x_no (n := n) (A := A) _ x hj]
  have bj : cx_x n B (x ++ y) (cx_e s) j = cx_x n A y (cx_e s) j := by
    rw [cx_x_app, cx_x_no (n := n) (A := B) _ x hj, e]
  by_cases h0 : cx_x n A y (cx_e s) j = 0
  · have e2 : cx_x n A (x ++ y) (cx_e s) = cx_x n B (x ++ y) (cx_e s) := by
      rw [cx_x_app, cx_x_app, ← e]
      exact lx_1 H x hj _ h0
    have a := cx_dn hok hx sn
    have b := cx_dn hok2 hx sn
    rw [e2] at a
    exact a.symm.trans b
  · unfold dn
    rcases cx_step hok hx sn with ⟨a1, a2⟩ | ⟨a1, a2⟩
    · have c1 := a2 j
      rw [aj] at c1
      rcases cx_step hok2 hx sn with ⟨b1, b2⟩ | ⟨b1, b2⟩
      · have c2 := b2 j
        rw [bj] at c2
        omega
      · have c2 := b2 j
        rw [bj] at c2
        omega
    · have c1 := a2 j
      rw [aj] at c1
      rcases cx_step hok2 hx sn with ⟨b1, b2⟩ | ⟨b1, b2⟩
      · have c2 := b2 j
        rw [bj] at c2
        omega
      · have c2 := b2 j
        rw [bj] at c2
        omega
theorem lm_hom (hok : cx_ok n A) (hok2 : cx_ok n B) (H : lmp n A B i j) {x y : List Nat} (hx : cx_L n x) (hy : cx_L n y) (h : cx_g n B x = cx_g n B y) : cx_g n A x = cx_g n A y := by
  have T0 : trf n A n B id [] := by
    refine ⟨fun s sn => sn, fun s t _ _ e => e, fun s t sn tn hst => ?_⟩
    by_cases h1 : (s = i ∧ t = j) ∨ (s = j ∧ t = i)
    · refine ⟨0, 2, ?_, ?_, Or.inr ⟨rfl, ?_, ?_⟩⟩
      · rcases h1 with ⟨e1, e2⟩ | ⟨e1, e2⟩
        · rw [e1, e2, H.2.2.2.2.2.1, H.2.2.2.2.2.2.1]
          unfold cx_pr
          omega
        · rw [e1, e2, H.2.2.2.2.2.1, H.2.2.2.2.2.2.1]
          unfold cx_pr
          omega
      · show cx_pr (A s t) (A t s) 2
        rcases h1 with ⟨e1, e2⟩ | ⟨e1, e2⟩
        · rw [e1, e2, H.2.2.2.1, H.2.2.2.2.1]
          unfold cx_pr
          omega
        · rw [e1, e2, H.2.2.2.1, H.2.2.2.2.1]
          unfold cx_pr
          omega
      · exact Nat.succ_pos 1
      · exact Nat.succ_pos 1
    · obtain ⟨m, hm⟩ := hok.2 s t sn tn hst
      refine ⟨m, m, ?_, hm, Or.inl rfl⟩
      rw [H.2.2.2.2.2.2.2 s t (fun h => h1 (Or.inl h)) (fun h => h1 (Or.inr h)), H.2.2.2.2.2.2.2 t s (fun h => h1 (Or.inr ⟨h.2, h.1⟩)) (fun h => h1 (Or.inl ⟨h.2, h.1⟩))]
      exact hm
  have := tr_g hok hok2 T0 hx hy h
  rw [List.map_id, List.map_id] at this
  exact this
theorem red_pre (hok : cx_ok n A) {u : List Nat} (hu : cx_L n (u ++ [s])) (hl : cx_l n A (u ++ [s]) = u.length + 1) : cx_l n A u = u.length ∧ ¬ dn n A u s := by
  have uL : cx_L n u := fun r hr => hu r (List.mem_append_left _ hr)
  have sn : s < n := hu s (List.mem_append_right _ List.mem_cons_self)
  have l1 := cx_l_app (A := A) uL (cx_L_1 sn)
  rw [List.length_singleton] at l1
  have l2 := cx_l_len (A := A) uL
  refine ⟨by omega, fun h => ?_⟩
  have := dn_1 hok uL sn h
  omega
theorem lm_len (hok : cx_ok n A) (hok2 : cx_ok n B) (H : lmp n A B i j) : ∀ (k : Nat) (x y : List Nat), (x ++ y).length = k → cx_L n (x ++ y) → j ∉ x → i ∉ y → cx_l n B (x ++ y) = (x ++ y).length → cx_l n A (x ++ y) = (x ++ y).length := by
  intro k
  induction k with
  | zero =>
    intro x y hk hL _ _ _
    have := cx_l_len (A := A) hL
    omega
  | succ k ih =>
    intro x y hk hL hj hi hl
    rcases List.eq_nil_or_concat y with e | ⟨y', s, e⟩
    · rcases List.eq_nil_or_concat x with e2 | ⟨x', s, e2⟩
      · rw [e, e2] at hk
        exact absurd hk (by simp)
      · rw [List.concat_eq_append] at e2
        rw [e, List.append_nil] at hk hL hl ⊢
        rw [e2] at hk hL hl hj ⊢
        rw [List.length_append, List.length_singleton] at hk hl ⊢
        have r := red_pre hok2 hL hl
        have xL : cx_L n x' := fun r hr => hL r (List.mem_append_left _ hr)
        have sn : s < n := hL s (List.mem_append_right _ List.mem_cons_self)
        have hj2 : j ∉ x' := fun h => hj (List.mem_append_left _ h)
        have sj : s ≠ j := fun h => hj (List.mem_append_right _ (by rw [h]; exact List.mem_cons_self))
        have nd : ¬ dn n A x' s := fun h => r.2 ((dn_F hok hok2 H xL hj2 sn sj).mp h)
        have I := ih x' [] (by rw [List.append_nil]; omega) (by rw [List.append_nil]; exact xL) hj2 List.not_mem_nil (by rw [List.append_nil]; exact r.1)
        rw [List.append_nil] at I
        rw [up_1 hok xL sn nd, I]
    · rw [List.concat_eq_append] at e
      rw [e, ← List.append_assoc] at hk hL hl ⊢
      rw [List.length_append, List.length_singleton] at hk hl ⊢
      have r := red_pre hok2 hL hl
      have xL : cx_L n (x ++ y') := fun r hr => hL r (List.mem_append_left _ hr)
      have sn : s < n := hL s (List.mem_append_right _ List.mem_cons_self)
      have hi2 : i ∉ y' := fun h => hi (by rw [e]; exact List.mem_append_left _ h)
      have si : s ≠ i := fun h => hi (by rw [e, h]; exact List.mem_append_right _ List.mem_cons_self)
      have nd : ¬ dn n A (x ++ y') s := fun h => r.2 ((dn_E hok hok2 H xL hj hi2 sn si).mp h)
      rw [up_1 hok xL sn nd, ih x y' (by omega) xL hj hi2 r.1]
/-- a mirror that one word of an element doesn't have, no least word has -/
theorem no_sup (hok : cx_ok n A) {x y : List Nat} (hx : cx_L n x) (lx : cx_l n A x = x.length) (hy : cx_L n y) (ly : cx_l n A y = y.length) (hg : cx_g n A x = cx_g n A y) (jn : j < n) (hj : j ∉ x) : j ∉ y := by
  intro h
  have jL := cx_L_1 jn
  have b1 : sbe n A [j] y := (sbe_w hok jL hy ly hy rfl).mpr ⟨[j], List.singleton_sublist.mpr h, rfl⟩
  obtain ⟨z, hz, gz⟩ := (sbe_w hok jL hx lx hx rfl).mp ((sbe_g2 hg).mpr b1)
  have zL : cx_L n z := fun r hr => hx r (hz.subset hr)
  have nj : j ∉ z := fun h => hj (hz.subset h)
  have e0 : cx_L n ([] : List Nat) := fun r hr => absurd hr List.not_mem_nil
  have d1 : dn n A ([] ++ [j]) j := (dn_dn hok e0 jn).mpr (no_dn hok e0 jn List.not_mem_nil)
  exact no_dn hok zL jn nj ((dn_g gz j).mpr d1)
theorem lm_inj (hok : cx_ok n A) (hok2 : cx_ok n B) (H : lmp n A B i j) : ∀ (k : Nat) (x y a b : List Nat), (x ++ y).length = k → cx_L n (x ++ y) → cx_L n (a ++ b) → j ∉ x → i ∉ y → j ∉ a → i ∉ b → cx_l n B (x ++ y) = (x ++ y).length → cx_l n B (a ++ b) = (a ++ b).length → cx_g n A (x ++ y) = cx_g n A (a ++ b) → cx_g n B (x ++ y) = cx_g n B (a ++ b) := by
  intro k
  induction k with
  | zero =>
    intro x y a b hk hL hL2 hj hi hja hib hl hl2 hg
    have l1 := lm_len hok hok2 H _ x y rfl hL hj hi hl
    have l2 := lm_len hok hok2 H _ a b rfl hL2 hja hib hl2
    rw [cx_l_eq hg, hk] at l1
    rw [List.length_eq_zero_iff.mp hk, List.length_eq_zero_iff.mp (l2.symm.trans l1)]
  | succ k ih =>
    intro x y a b hk hL hL2 hj hi hja hib hl hl2 hg
    have lA := lm_len hok hok2 H _ x y rfl hL hj hi hl
    have lA2 := lm_len hok hok2 H _ a b rfl hL2 hja hib hl2
    have step : ∀ (c d : List Nat) (s : Nat), x ++ y = c ++ d ++ [s] → j ∉ c → i ∉ d → (s ≠ i ∨ (s ≠ j ∧ j ∉ x ++ y)) → cx_g n B (x ++ y) = cx_g n B (a ++ b) := by
      intro c d s e hc hd hs2
      rw [e] at hk hL hl lA hg ⊢
      rw [List.length_append, List.length_singleton] at hk hl lA
      have r := red_pre hok2 hL hl
      have rA := red_pre hok hL lA
      have uL : cx_L n (c ++ d) := fun q hq => hL q (List.mem_append_left _ hq)
      have sn : s < n := hL s (List.mem_append_right _ List.mem_cons_self)
      have dA : dn n A (a ++ b) s := (dn_g hg s).mp ((dn_dn hok uL sn).mpr rA.2)
      have dB : dn n B (a ++ b) s := by
        by_cases si : s = i
        · rcases hs2 with h | ⟨h1, h2⟩
          · exact absurd si h
          · have nj : j ∉ a ++ b := no_sup hok hL (by rw [List.length_append, List.length_singleton]; exact lA) hL2 lA2 hg H.2.1 (by rw [← e]; exact h2)
            exact (dn_F hok hok2 H hL2 nj sn h1).mp dA
        · exact (dn_E hok hok2 H hL2 hja hib sn si).mp dA
      obtain ⟨q, _, hq⟩ := cx_exch hok2 sn hL2 dB
      have eL : cx_L n ((a ++ b).eraseIdx q) := cx_L_er hL2 q
      obtain ⟨z, z1, z2, z3⟩ := red_sub hok2 eL
      have zs := z1.trans (List.eraseIdx_sublist (a ++ b) q)
      obtain ⟨a', b', ez, ha, hb⟩ := List.sublist_append_iff.mp zs
      have zL : cx_L n z := fun q hq => hL2 q (zs.subset hq)
      have abL : cx_L n (a ++ b ++ [s]) := cx_L_app hL2 (cx_L_1 sn)
      have gB : cx_g n B z = cx_g n B (a ++ b ++ [s]) := z2.trans hq.symm
      have gA2 := lm_hom hok hok2 H zL abL gB
      have gu : cx_g n A (c ++ d) = cx_g n A z := by
        rw [gA2, ← cx_g_sr hok sn (c ++ d)]
        exact cx_g_ap1 [s] hg
      rw [ez] at gu gB zL z3
      have I := ih c d a' b' (by omega) uL zL hc hd (fun h => hja (ha.subset h)) (fun h => hib (hb.subset h)) r.1 z3 gu
      rw [cx_g_ap1 [s] (I.trans gB)]
      exact cx_g_sr hok2 sn _
    rcases List.eq_nil_or_concat y with e | ⟨y', s, e⟩
    · rcases List.eq_nil_or_concat x with e2 | ⟨x', s, e2⟩
      · rw [e, e2] at hk
        exact absurd hk (by simp)
      · rw [List.concat_eq_append] at e2
        have sj : s ≠ j := fun h => hj (by rw [e2, h]; exact List.mem_append_right _ List.mem_cons_self)
        refine step x' [] s (by rw [e, List.append_nil, List.append_nil, e2]) (fun h => hj (by rw [e2]; exact List.mem_append_left _ h)) List.not_mem_nil (Or.inr ⟨sj, ?_⟩)
        rw [e, List.append_nil]
        exact hj
    · rw [List.concat_eq_append] at e
      have si : s ≠ i := fun h => hi (by rw [e, h]; exact List.mem_append_right _ List.mem_cons_self)
      exact step x y' s (by rw [e, List.append_assoc]) hj (fun h => hi (by rw [e]; exact List.mem_append_left _ h)) (Or.inl si)
theorem lm_trp (hok : cx_ok n A) (hok2 : cx_ok n B) (H : lmp n A B i j) {W V : List Nat} (hW : cx_L n (W ++ V)) (lW : cx_l n B (W ++ V) = (W ++ V).length) (hj : j ∉ W) (hi : i ∉ V) : trp n A n B id (W ++ V) := by
  have fnd : ∀ x, cx_L n x → sbe n B x (W ++ V) → ∃ a b, cx_L n (a ++ b) ∧ j ∉ a ∧ i ∉ b ∧ cx_l n B (a ++ b) = (a ++ b).length ∧ cx_g n B (a ++ b) = cx_g n B x := by
    intro x hx hb
    obtain ⟨z, hz, gz⟩ := (sbe_w hok2 hx hW lW hW rfl).mp hb
    have zL : cx_L n z := fun r hr => hW r (hz.subset hr)
    obtain ⟨z', z1, z2, z3⟩ := red_sub hok2 zL
    obtain ⟨a, b, e, ha, hb2⟩ := List.sublist_append_iff.mp (z1.trans hz)
    rw [e] at z1 z2 z3
    exact ⟨a, b, fun r hr => zL r (z1.subset hr), fun h => hj (ha.subset h), fun h => hi (hb2.subset h), z3, z2.trans gz⟩
  refine ⟨fun x hx => by rw [List.map_id]; exact hx, fun x y hx hy h => ?_, fun x hx lx bx => ?_, fun x y hx bx hy by2 h => ?_⟩
  · rw [List.map_id, List.map_id]
    exact lm_hom hok hok2 H hx hy h
  · rw [List.map_id]
    obtain ⟨a, b, c1, c2, c3, c4, c5⟩ := fnd x hx bx
    rw [← cx_l_eq (lm_hom hok hok2 H c1 hx c5), lm_len hok hok2 H _ a b rfl c1 c2 c3 c4, ← c4, cx_l_eq c5, lx]
  · rw [List.map_id, List.map_id] at h
    obtain ⟨a, b, c1, c2, c3, c4, c5⟩ := fnd x hx bx
    obtain ⟨a', b', d1, d2, d3, d4, d5⟩ := fnd y hy by2
    rw [← c5, ← d5]
    exact lm_inj hok hok2 H _ a b a' b' rfl c1 d1 c2 c3 d2 d3 c4 d4 ((lm_hom hok hok2 H c1 hx c5).trans (h.trans (lm_hom hok hok2 H d1 hy d5).symm))
/-- not under 0, as if they never turned -/
theorem lm_nn (hok : cx_ok n A) (hok2 : cx_ok n B) (H : lmp n A B i j) {W V : List Nat} (hW : cx_L n (W ++ V)) (lW : cx_l n B (W ++ V) = (W ++ V).length) (hj : j ∉ W) (hi : i ∉ V) {f : List Nat → Nat → Int} (kf : klo n A (W ++ V) f) (h : ∀ f', klo n B (W ++ V) f' → ∀ u, cx_L n u → ∀ k, 0 ≤ f' u k) : ∀ u, cx_L n u → ∀ k, 0 ≤ f u k := tq_nn hok hok2 (lm_trp hok hok2 H hW lW hj hi) hW lW (by rw [List.map_id]; exact kf) h
end S
