/-! Two descents: the element ends in the two mirrors by turns, as often as they turn. -/
def aln : Nat → Nat → List Nat → Nat
  | _, _, [] => 0
  | a, b, c :: x => if c = a then aln b a x + 1 else aln a b x
theorem aln_sw : ∀ (x : List Nat) (a b : Nat), aln a b x ≤ aln b a x + 1 := by
  intro x
  induction x with
  | nil => exact fun a b => Nat.zero_le _
  | cons c x ih =>
    intro a b
    have i1 := ih a b
    have i2 := ih b a
    rw [aln, aln]
    by_cases h1 : c = a
    · rw [if_pos h1]
      by_cases h2 : c = b
      · rw [if_pos h2]
        omega
      · rw [if_neg h2]
        omega
    · rw [if_neg h1]
      by_cases h2 : c = b
      · rw [if_pos h2]
        omega
      · rw [if_neg h2]
        omega
theorem al_rev (s t k : Nat) : (cx_al s t (k + 1)).reverse = t :: (cx_al t s k).reverse := by
  rw [cx_al_end, List.reverse_append]
  rfl
theorem aln_sub : ∀ (y : List Nat) (k s t : Nat), (cx_al s t k).reverse.Sublist y → k ≤ aln t s y := by
  intro y
  induction y with
  | nil =>
    intro k s t h
    have := h.length_le
    rw [List.length_reverse, cx_al_len] at this
    exact this
  | cons c y ih =>
    intro k s t h
    cases k with
    | zero => exact Nat.zero_le _
    | succ k =>
      rw [aln]
      have sw := aln_sw y t s
      rw [al_rev] at h
      cases h with
      | cons _ h2 =>
        rw [← al_rev] at h2
        have := ih (k + 1) s t h2
        split <;> omega
      | cons_cons _ h2 =>
        have := ih k _ _ h2
        rw [if_pos rfl]
        omega
theorem al_mem {s t r : Nat} : ∀ (k : Nat), r ∈ cx_al s t k → r = s ∨ r = t := by
  intro k
  induction k with
  | zero => exact fun h => absurd h List.not_mem_nil
  | succ k ih =>
    intro h
    rw [cx_al] at h
    rcases List.mem_cons.mp h with h | h
    · by_cases h0 : k % 2 = 0
      · rw [if_pos h0] at h
        exact Or.inr h
      · rw [if_neg h0] at h
        exact Or.inl h
    · exact ih h
section S
variable {n : Nat} {A : Nat → Nat → Int} {s t m : Nat} {w v z : List Nat}
theorem dih (hok : cx_ok n A) (hw : cx_L n w) (sn : s < n) (tn : t < n) (hst : s ≠ t) (hm : cx_pr (A s t) (A t s) m) (d1 : dn n A w s) (d2 : dn n A w t) : m ≠ 0 ∧ ∃ v, cx_L n v ∧ cx_g n A (v ++ cx_al s t m) = cx_g n A w ∧ cx_l n A v + m = cx_l n A w := by
  have hal := cx_al_L (n := n) sn tn
  obtain ⟨j, hj1, ⟨v, hv, hvg, hvl⟩, hmax⟩ : ∃ j, 1 ≤ j ∧ (∃ v, cx_L n v ∧ cx_g n A (v ++ cx_al s t j) = cx_g n A w ∧ cx_l n A v + j = cx_l n A w) ∧ ¬ (∃ v, cx_L n v ∧ cx_g n A (v ++ cx_al s t (j + 1)) = cx_g n A w ∧ cx_l n A v + (j + 1) = cx_l n A w) := by
    apply Classical.byContradiction
    intro hno
    have hall : ∀ j, 1 ≤ j → ∃ v, cx_L n v ∧ cx_g n A (v ++ cx_al s t j) = cx_g n A w ∧ cx_l n A v + j = cx_l n A w := by
      intro j hj
      induction j with
      | zero => omega
      | succ j ihj =>
        by_cases h0 : j = 0
        · subst h0
          exact ⟨w ++ [t], cx_L_app hw (cx_L_1 tn), cx_g_sr hok tn w, dn_1 hok hw tn d2⟩
        · exact Classical.byContradiction fun hn => hno ⟨j, by omega, ihj (by omega), hn⟩
    obtain ⟨v, -, -, h⟩ := hall (cx_l n A w + 1) (by omega)
    omega
  have hc : ∀ r, r < n → cx_l n A v ≤ cx_l n A (v ++ [r]) ∨ cx_l n A (v ++ [r]) < cx_l n A v := fun r _ => by omega
  have c1 : cx_l n A v ≤ cx_l n A (v ++ [if j % 2 = 0 then t else s]) := by
    have hr : (if j % 2 = 0 then t else s) < n := by split <;> assumption
    rcases hc _ hr with h | h
    · exact h
    · exfalso
      apply hmax
      have hL' := cx_L_app hv (cx_L_1 hr)
      have e : cx_g n A (v ++ [if j % 2 = 0 then t else s] ++ cx_al s t (j + 1)) = cx_g n A w := by
        rw [cx_al, ← hvg]
        have := cx_g_app (y := cx_al s t j) (cx_g_sr hok hr v) rfl
        rw [← this]
        simp only [List.append_assoc, List.cons_append, List.nil_append]
      refine ⟨_, hL', e, ?_⟩
      have h3 := cx_l_app (A := A) hL' (hal (j + 1))
      rw [cx_l_eq e, cx_al_len] at h3
      omega
  have c2 : cx_l n A v ≤ cx_l n A (v ++ [if j % 2 = 0 then s else t]) := by
    have hr : (if j % 2 = 0 then s else t) < n := by split <;> assumption
    rcases hc _ hr with h | h
    · exact h
    · exfalso
      obtain ⟨j', rfl⟩ : ∃ j', j = j' + 1 := ⟨j - 1, by omega⟩
      have e1 : (if j' % 2 = 0 then t else s) = (if (j' + 1) % 2 = 0 then s else t) := by
        by_cases hz : j' % 2 = 0
        · rw [if_pos hz, if_neg (by omega)]
        · rw [if_neg hz, if_pos (by omega)]
      have e : cx_g n A (v ++ [if (j' + 1) % 2 = 0 then s else t] ++ cx_al s t j') = cx_g n A w := by
        rw [← hvg, cx_al, e1]
        simp only [List.append_assoc, List.cons_append, List.nil_append]
      have h3 := cx_l_app (A := A) (cx_L_app hv (cx_L_1 hr)) (hal j')
      rw [cx_l_eq e, cx_al_len] at h3
      omega
  have cst : cx_l n A v ≤ cx_l n A (v ++ [s]) ∧ cx_l n A v ≤ cx_l n A (v ++ [t]) := by
    by_cases hz : j % 2 = 0
    · rw [if_pos hz] at c1 c2; exact ⟨c2, c1⟩
    · rw [if_neg hz] at c1 c2; exact ⟨c1, c2⟩
  have key : ¬ (m ≠ 0 → j < m) := by
    intro hjm
    obtain ⟨i, hi⟩ := (cx_dn hok hw sn).mpr d1
    have p1 := cx_main hok (cx_l n A v) v hv rfl s sn cst.1 i
    have p2 := cx_main hok (cx_l n A v) v hv rfl t tn cst.2 i
    obtain ⟨ha, hb⟩ := cx_ab_pos hm hjm
    have hxv : cx_x n A w (cx_e s) = cx_x n A v (cx_x n A (cx_al s t j) (cx_e s)) := by
      rw [← cx_x_app]
      exact congrFun (congrArg Prod.fst hvg).symm (cx_e s)
    rw [hxv, cx_ab_x hok sn tn hst] at hi
    have e3 : cx_pl (fun _ => 0) s t (cx_ab (A s t) (A t s) j).1 (cx_ab (A s t) (A t s) j).2 = fun q => (fun q => (fun _ => (0 : Int)) q + (cx_ab (A s t) (A t s) j).1 * cx_e s q) q + (cx_ab (A s t) (A t s) j).2 * cx_e t q := by
      funext q
      unfold cx_pl cx_e
      by_cases h : q = s
      · have h2 : ¬ q = t := by omega
        simp only [if_pos h, if_neg h2]; omega
      · by_cases h2 : q = t
        · simp only [if_neg h, if_pos h2]; omega
        · simp only [if_neg h, if_neg h2]; omega
    rw [e3, cx_x_lin, cx_x_lin, cx_x_zero] at hi
    dsimp only at hi
    have q1 := Int.mul_nonneg ha p1
    have q2 := Int.mul_nonneg hb p2
    omega
  have m0 : m ≠ 0 := fun e => key (fun h => absurd e h)
  have mj : m ≤ j := Nat.le_of_not_lt (fun h => key (fun _ => h))
  refine ⟨m0, ?_⟩
  obtain ⟨p, hp1, hp2⟩ := cx_al_split s t m (j - m)
  rw [show j - m + m = j by omega] at hp2
  have hLp : cx_L n p := fun r hr => hal j r (by rw [hp2]; exact List.mem_append_left _ hr)
  have e : cx_g n A (v ++ p ++ cx_al s t m) = cx_g n A w := by
    rw [← hvg, hp2, List.append_assoc]
  have h4 := cx_l_app (A := A) (cx_L_app hv hLp) (hal m)
  have h5 := cx_l_app (A := A) hv hLp
  rw [cx_l_eq e, cx_al_len] at h4
  exact ⟨v ++ p, cx_L_app hv hLp, e, by omega⟩
theorem al_nd (hok : cx_ok n A) (sn : s < n) (tn : t < n) (hst : s ≠ t) (hm : cx_pr (A s t) (A t s) m) {k : Nat} (hk : m ≠ 0 → k < m) : ¬ dn n A (cx_al s t k) s := by
  intro hd
  obtain ⟨i, hi⟩ := (cx_dn hok (cx_al_L sn tn k) sn).mpr hd
  rw [cx_ab_x hok sn tn hst] at hi
  obtain ⟨a, b⟩ := cx_ab_pos hm hk
  unfold cx_pl at hi
  dsimp only at hi
  by_cases h1 : i = s
  · rw [if_pos h1] at hi
    omega
  · rw [if_neg h1] at hi
    by_cases h2 : i = t
    · rw [if_pos h2] at hi
      omega
    · rw [if_neg h2] at hi
      omega
theorem al_l (hok : cx_ok n A) : ∀ (k : Nat) {s t : Nat}, s < n → t < n → s ≠ t → cx_pr (A s t) (A t s) m → (m ≠ 0 → k ≤ m) → cx_l n A (cx_al s t k) = k := by
  intro k
  induction k with
  | zero =>
    intro s t sn tn _ _ _
    have := cx_l_len (A := A) (cx_al_L sn tn 0)
    rw [cx_al_len] at this
    omega
  | succ k ih =>
    intro s t sn tn hst hm hk
    rw [cx_al_end, up_1 hok (cx_al_L tn sn k) tn (al_nd hok tn sn (Ne.symm hst) (cx_pr_t hm) (fun h => by have := hk h; omega)), ih tn sn (Ne.symm hst) (cx_pr_t hm) (fun h => by have := hk h; omega)]
/-- a last letter cancels -/
theorem g_canc (hok : cx_ok n A) (tn : t < n) {x y : List Nat} (h : cx_g n A (x ++ [t]) = cx_g n A (y ++ [t])) : cx_g n A x = cx_g n A y := by
  have := cx_g_ap1 [t] h
  rw [cx_g_sr hok tn, cx_g_sr hok tn] at this
  exact this
theorem al_last (hok : cx_ok n A) (sn : s < n) (tn : t < n) (hst : s ≠ t) (hm : cx_pr (A s t) (A t s) m) {k r : Nat} {x' : List Nat} (hk : m ≠ 0 → k + 1 ≤ m) (hx : cx_L n (x' ++ [r])) (hl : x'.length = k) (hg : cx_g n A (x' ++ [r]) = cx_g n A (cx_al s t (k + 1))) : dn n A (cx_al s t (k + 1)) r ∧ (r = s ∨ r = t) ∧ cx_L n x' := by
  have xL : cx_L n x' := fun q hq => hx q (List.mem_append_left _ hq)
  have rn : r < n := hx r (List.mem_append_right _ List.mem_cons_self)
  have aL := cx_al_L (n := n) sn tn (k + 1)
  have hd : dn n A (cx_al s t (k + 1)) r := by
    unfold dn
    rw [al_l hok (k + 1) sn tn hst hm hk, ← cx_l_eq (cx_g_ap1 [r] hg), cx_l_eq (cx_g_sr hok rn x')]
    have := cx_l_len (A := A) xL
    omega
  exact ⟨hd, al_mem _ (Classical.byContradiction (fun h => no_dn hok aL rn h hd)), xL⟩
theorem al_un (hok : cx_ok n A) : ∀ (k : Nat) {s t : Nat} {x : List Nat}, s < n → t < n → s ≠ t → cx_pr (A s t) (A t s) m → (m ≠ 0 → k < m) → cx_L n x → x.length = k → cx_g n A x = cx_g n A (cx_al s t k) → x = cx_al s t k := by
  intro k
  induction k with
  | zero =>
    intro s t x _ _ _ _ _ _ hl _
    exact List.length_eq_zero_iff.mp hl
  | succ k ih =>
    intro s t x sn tn hst hm hk hx hl hg
    rcases List.eq_nil_or_concat x with e | ⟨x', r, e⟩
    · rw [e] at hl
      exact absurd hl (by simp)
    · rw [List.concat_eq_append] at e
      rw [e] at hx hg hl ⊢
      rw [List.length_append, List.length_singleton] at hl
      obtain ⟨hd, hr, xL⟩ := al_last hok sn tn hst hm (fun h => by have := hk h; omega) hx (by omega) hg
      rcases hr with hr | hr
      · rw [hr] at hd
        exact absurd hd (al_nd hok sn tn hst hm hk)
      · rw [hr, cx_al_end] at hg
        rw [hr, cx_al_end, ih tn sn (Ne.symm hst) (cx_pr_t hm) (fun h => by have := hk h; omega) xL (by omega) (g_canc hok tn hg)]
theorem al_un2 (hok : cx_ok n A) (sn : s < n) (tn : t < n) (hst : s ≠ t) (hm : cx_pr (A s t) (A t s) m) (m0 : m ≠ 0) {x : List Nat} (hx : cx_L n x) (hl : x.length = m) (hg : cx_g n A x = cx_g n A (cx_al s t m)) : x = cx_al s t m ∨ x = cx_al t s m := by
  obtain ⟨k, e0⟩ : ∃ k, m = k + 1 := ⟨m - 1, by omega⟩
  rcases List.eq_nil_or_concat x with e | ⟨x', r, e⟩
  · rw [e] at hl
    simp at hl
    omega
  · rw [List.concat_eq_append] at e
    rw [e] at hx hg hl ⊢
    rw [List.length_append, List.length_singleton] at hl
    have hg2 := hg.trans (cx_g_braid hok sn tn hst hm m0)
    have hk : m ≠ 0 → k < m := fun _ => by omega
    rw [e0] at hg hg2 ⊢
    obtain ⟨hd, hr, xL⟩ := al_last hok sn tn hst hm (fun h => by omega) hx (by omega) hg
    rcases hr with hr | hr
    · right
      rw [hr, cx_al_end] at hg2
      rw [hr, cx_al_end, al_un hok k sn tn hst hm hk xL (by omega) (g_canc hok sn hg2)]
    · left
      rw [hr, cx_al_end] at hg
      rw [hr, cx_al_end, al_un hok k tn sn (Ne.symm hst) (cx_pr_t hm) hk xL (by omega) (g_canc hok tn hg)]
/-- nothing below v has both s and t as descents -/
def nfl (n : Nat) (A : Nat → Nat → Int) (s t : Nat) (v : List Nat) : Prop := ∀ z, cx_L n z → sbe n A z v → ¬ (dn n A z s ∧ dn n A z t)
/-- s, t by turns below v: by turns in v's word -/
theorem al_sbe (hok : cx_ok n A) (hv : cx_L n v) (vl : cx_l n A v = v.length) (sn : s < n) (tn : t < n) (hst : s ≠ t) (hm : cx_pr (A s t) (A t s) m) {k : Nat} (hk : m ≠ 0 → k ≤ m) (h : sbe n A (cx_al s t k) v) : (cx_al s t k).Sublist v ∨ (cx_al t s k).Sublist v := by
  have aL := cx_al_L (n := n) sn tn k
  obtain ⟨x, hx, hxg⟩ := (sbe_w hok aL hv vl hv rfl).mp h
  have xL : cx_L n x := fun r hr => hv r (hx.subset hr)
  obtain ⟨x', h1, h2, h3⟩ := red_sub hok xL
  have xL' : cx_L n x' := fun r hr => xL r (h1.subset hr)
  have hg := h2.trans hxg
  have hl : x'.length = k := by
    rw [← h3, cx_l_eq hg]
    exact al_l hok k sn tn hst hm hk
  by_cases hkm : m ≠ 0 ∧ k = m
  · rw [hkm.2] at hg hl ⊢
    rcases al_un2 hok sn tn hst hm hkm.1 xL' hl hg with e | e
    · exact Or.inl (e ▸ h1.trans hx)
    · exact Or.inr (e ▸ h1.trans hx)
  · refine Or.inl ?_
    rw [← al_un hok k sn tn hst hm (fun h0 => by have := hk h0; have : k ≠ m := fun e => hkm ⟨h0, e⟩; omega) xL' hl hg]
    exact h1.trans hx
theorem nfl_of (hok : cx_ok n A) (hv : cx_L n v) (vl : cx_l n A v = v.length) (sn : s < n) (tn : t < n) (hst : s ≠ t) (hm : cx_pr (A s t) (A t s) m) (h : m ≠ 0 → aln s t v.reverse < m ∧ aln t s v.reverse < m) : nfl n A s t v := by
  intro z zL hb hd
  obtain ⟨m0, v', hv', hg, hl⟩ := dih hok zL sn tn hst hm hd.1 hd.2
  obtain ⟨r1, r2, r3⟩ := rdw_sp (A := A) hv'
  have aL := cx_al_L (n := n) sn tn m
  have zw : cx_g n A (rdw n A v' ++ cx_al s t m) = cx_g n A z := (cx_g_ap1 _ r2).trans hg
  have zl : cx_l n A (rdw n A v' ++ cx_al s t m) = (rdw n A v' ++ cx_al s t m).length := by
    rw [cx_l_eq zw, List.length_append, cx_al_len, ← r3, cx_l_eq r2]
    omega
  have b1 : sbe n A (cx_al s t m) z := (sbe_w hok aL (cx_L_app r1 aL) zl zL zw).mpr ⟨_, List.sublist_append_right _ _, rfl⟩
  have b2 := sbe_tr hok aL zL hv b1 hb
  have hh := h m0
  rcases al_sbe hok hv vl sn tn hst hm (fun _ => Nat.le_refl _) b2 with e | e
  · have := aln_sub _ _ _ _ e.reverse
    omega
  · have := aln_sub _ _ _ _ e.reverse
    omega
end S
