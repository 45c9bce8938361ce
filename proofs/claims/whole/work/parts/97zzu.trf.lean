/-! One word in two groups: what lies below it, and P, where only turns are unlike that the word is too short for. -/
/-- p takes the letters of one to the other; turns are the same, or never in the one and longer than W has them in the other -/
def trf (n : Nat) (A : Nat → Nat → Int) (n' : Nat) (A' : Nat → Nat → Int) (p : Nat → Nat) (W : List Nat) : Prop := (∀ s, s < n' → p s < n) ∧ (∀ s t, s < n' → t < n' → p s = p t → s = t) ∧ ∀ s t, s < n' → t < n' → s ≠ t → ∃ m' m, cx_pr (A' s t) (A' t s) m' ∧ cx_pr (A (p s) (p t)) (A (p t) (p s)) m ∧ (m' = m ∨ (m' = 0 ∧ aln s t W.reverse < m ∧ aln t s W.reverse < m))
theorem cx_pr_un {a b : Int} {m m' : Nat} (h : cx_pr a b m) (h' : cx_pr a b m') : m = m' := by
  unfold cx_pr at *
  omega
theorem cx_pr_2 {a b : Int} {m : Nat} (h : cx_pr a b m) (m0 : m ≠ 0) : 2 ≤ m := by
  unfold cx_pr at h
  omega
theorem al_map (p : Nat → Nat) (s t k : Nat) : (cx_al s t k).map p = cx_al (p s) (p t) k := by
  induction k with
  | zero => rfl
  | succ k ih =>
    rw [cx_al, cx_al, List.map_cons, ih]
    by_cases h : k % 2 = 0
    · rw [if_pos h, if_pos h]
    · rw [if_neg h, if_neg h]
theorem lsm_mg (F : List Nat → Int) (q : List Nat → List Nat) {L : List (List Nat)} : lsm F (L.map q) = lsm (fun u => F (q u)) L := by
  unfold lsm
  rw [List.length_map]
  refine cx_sum_eq (fun i hi => ?_)
  have h1 := gd_ex hi
  rw [gd_of (ws := L.map q) (i := i) (u := q (L.getD i [])) (by rw [List.getElem?_map, h1]; rfl)]
section S
variable {n n' : Nat} {A A' : Nat → Nat → Int} {p : Nat → Nat} {W : List Nat} {s t m : Nat} {w v u x y z : List Nat} {f f' : List Nat → Nat → Int}
theorem map_L (T : trf n A n' A' p W) (hx : cx_L n' x) : cx_L n (x.map p) := by
  intro r hr
  obtain ⟨q, hq, e⟩ := List.mem_map.mp hr
  rw [← e]
  exact T.1 q (hx q hq)
theorem map_inj (T : trf n A n' A' p W) : ∀ (a b : List Nat), cx_L n' a → cx_L n' b → a.map p = b.map p → a = b := by
  intro a
  induction a with
  | nil =>
    intro b _ _ h
    cases b with
    | nil => rfl
    | cons c b => exact absurd h (by simp)
  | cons c a ih =>
    intro b ha hb h
    cases b with
    | nil => exact absurd h (by simp)
    | cons d b =>
      rw [List.map_cons, List.map_cons] at h
      obtain ⟨h1, h2⟩ := List.cons.inj h
      rw [T.2.1 c d (cx_L_hd ha) (cx_L_hd hb) h1, ih b (cx_L_tl ha) (cx_L_tl hb) h2]
theorem tr_brd (hok : cx_ok n A) (T : trf n A n' A' p W) (h : brd n' A' x y) : cx_g n A (x.map p) = cx_g n A (y.map p) := by
  refine h (fun y => cx_g n A (x.map p) = cx_g n A (y.map p)) rfl (fun P Q s t m sn tn hst hm m0 ih => ?_)
  · refine ih.trans ?_
    obtain ⟨m', m2, c1, c2, c3⟩ := T.2.2 s t sn tn hst
    have e : m = m' := cx_pr_un hm c1
    have e2 : m' = m2 := by omega
    rw [List.map_append, List.map_append, List.map_append, List.map_append, al_map, al_map]
    refine cx_g_app (cx_g_app rfl ?_) rfl
    rw [e, e2]
    exact cx_g_braid hok (T.1 s sn) (T.1 t tn) (fun h => hst (T.2.1 s t sn tn h)) c2 (by omega)
theorem tr_red (hok : cx_ok n A) (hok' : cx_ok n' A') (T : trf n A n' A' p W) : ∀ (y : List Nat), cx_L n' y.reverse → ∃ r, cx_L n' r ∧ cx_l n' A' r = r.length ∧ cx_g n' A' r = cx_g n' A' y.reverse ∧ cx_g n A (r.map p) = cx_g n A (y.reverse.map p) := by
  intro y
  induction y with
  | nil =>
    intro h
    exact ⟨[], h, by have := cx_l_len (A := A') h; simpa using this, rfl, rfl⟩
  | cons s y ih =>
    intro h
    rw [List.reverse_cons] at h ⊢
    have yL : cx_L n' y.reverse := fun r hr => h r (List.mem_append_left _ hr)
    have sn : s < n' := h s (List.mem_append_right _ List.mem_cons_self)
    obtain ⟨r, h1, h2, h3, h4⟩ := ih yL
    have psn := T.1 s sn
    by_cases hd : dn n' A' r s
    · have rsL : cx_L n' (r ++ [s]) := cx_L_app h1 (cx_L_1 sn)
      obtain ⟨q1, q2, q3⟩ := rdw_sp (A := A') rsL
      have lq := dn_1 hok' h1 sn hd
      have gq : cx_g n' A' (rdw n' A' (r ++ [s]) ++ [s]) = cx_g n' A' r := (cx_g_ap1 [s] q2).trans (cx_g_sr hok' sn r)
      have qsL : cx_L n' (rdw n' A' (r ++ [s]) ++ [s]) := cx_L_app q1 (cx_L_1 sn)
      have b := mats_w hok' h1 qsL h2 (by rw [cx_l_eq gq, List.length_append, List.length_singleton, ← q3, cx_l_eq q2]; omega) gq.symm
      have e := tr_brd hok T b
      refine ⟨rdw n' A' (r ++ [s]), q1, q3, q2.trans (cx_g_ap1 [s] h3), ?_⟩
      rw [List.map_append] at e ⊢
      have e2 := cx_g_ap1 [p s] e
      rw [show List.map p [s] = [p s] from rfl, cx_g_sr hok psn] at e2
      rw [← e2]
      exact cx_g_ap1 _ h4
    · refine ⟨r ++ [s], cx_L_app h1 (cx_L_1 sn), ?_, cx_g_ap1 [s] h3, ?_⟩
      · rw [up_1 hok' h1 sn hd, h2, List.length_append, List.length_singleton]
      · rw [List.map_append, List.map_append]
        exact cx_g_ap1 _ h4
/-- what is one in the one is one in the other -/
theorem tr_g (hok : cx_ok n A) (hok' : cx_ok n' A') (T : trf n A n' A' p W) (hx : cx_L n' x) (hy : cx_L n' y) (h : cx_g n' A' x = cx_g n' A' y) : cx_g n A (x.map p) = cx_g n A (y.map p) := by
  obtain ⟨r, a1, a2, a3, a4⟩ := tr_red hok hok' T x.reverse (by rw [List.reverse_reverse]; exact hx)
  obtain ⟨q, b1, b2, b3, b4⟩ := tr_red hok hok' T y.reverse (by rw [List.reverse_reverse]; exact hy)
  rw [List.reverse_reverse] at a3 a4 b3 b4
  rw [← a4, ← b4]
  exact tr_brd hok T (mats_w hok' a1 b1 a2 b2 (a3.trans (h.trans b3.symm)))
/-- braids in the other are braids in the one, below W -/
theorem tr_lift (hok' : cx_ok n' A') (T : trf n A n' A' p W) (hW : cx_L n' W) (lW : cx_l n' A' W = W.length) (hx : cx_L n' x) (lx : cx_l n' A' x = x.length) (bx : sbe n' A' x W) {X Y : List Nat} (hX : x.map p = X) (h : brd n A X Y) : ∃ y, Y = y.map p ∧ brd n' A' x y := by
  refine h (fun Y => ∃ y, Y = y.map p ∧ brd n' A' x y) ⟨x, hX.symm, brd_rf _⟩ (fun P Q S R m Sn Rn hSR hm m0 ih => ?_)
  · obtain ⟨y, ey, bry⟩ := ih
    have yL := brd_L hx bry
    have gy := brd_g hok' bry
    have ly : cx_l n' A' y = y.length := by rw [← cx_l_eq gy, lx, brd_len bry]
    obtain ⟨c, q, e1, e2, e3⟩ := List.map_eq_append_iff.mp ey.symm
    obtain ⟨P', a, e4, e5, e6⟩ := List.map_eq_append_iff.mp e2
    have aL : cx_L n' a := fun r hr => yL r (by rw [e1, e4]; exact List.mem_append_left _ (List.mem_append_right _ hr))
    have m2 := cx_pr_2 hm m0
    obtain ⟨k, ek⟩ : ∃ k, m = k + 1 + 1 := ⟨m - 2, by omega⟩
    have mR : R ∈ cx_al S R m := by
      rw [ek, cx_al_end]
      exact List.mem_append_right _ List.mem_cons_self
    have mS : S ∈ cx_al S R m := by
      rw [ek, cx_al_end, cx_al_end]
      exact List.mem_append_left _ (List.mem_append_right _ List.mem_cons_self)
    rw [← e6] at mR mS
    obtain ⟨t, ht, et⟩ := List.mem_map.mp mR
    obtain ⟨s, hs1, es⟩ := List.mem_map.mp mS
    have tn := aL t ht
    have sn := aL s hs1
    have hst : s ≠ t := fun e => hSR (by rw [← es, ← et, e])
    have ea : a = cx_al s t m := map_inj T a _ aL (cx_al_L sn tn m) (by rw [e6, al_map, es, et])
    obtain ⟨m', m3, c1, c2, c3⟩ := T.2.2 s t sn tn hst
    rw [es, et] at c2
    have em : m = m3 := cx_pr_un hm c2
    rcases c3 with c3 | ⟨c3, c4, c5⟩
    · refine ⟨P' ++ cx_al t s m ++ q, ?_, ?_⟩
      · rw [List.map_append, List.map_append, al_map, es, et, e5, e3]
      · refine brd_st P' q s t m sn tn hst (by rw [em, ← c3]; exact c1) m0 ?_
        rw [← ea, ← e4, ← e1]
        exact bry
    · exfalso
      have alL := cx_al_L (n := n') sn tn m
      have b1 : sbe n' A' (cx_al s t m) x := (sbe_w hok' alL yL ly hx gy.symm).mpr ⟨_, by rw [e1, e4, ea]; exact (List.sublist_append_right _ _).trans (List.sublist_append_left _ _), rfl⟩
      have b2 := sbe_tr hok' alL hx hW b1 bx
      rcases al_sbe hok' hW lW sn tn hst c1 (fun h => absurd c3 h) b2 with e | e
      · have := aln_sub _ _ _ _ e.reverse
        omega
      · have := aln_sub _ _ _ _ e.reverse
        omega
theorem tr_l (hok : cx_ok n A) (hok' : cx_ok n' A') (T : trf n A n' A' p W) (hW : cx_L n' W) (lW : cx_l n' A' W = W.length) : ∀ (k : Nat) (x : List Nat), x.length = k → cx_L n' x → cx_l n' A' x = x.length → sbe n' A' x W → cx_l n A (x.map p) = x.length := by
  intro k
  induction k with
  | zero =>
    intro x hl hx _ _
    have := cx_l_len (A := A) (map_L T hx)
    rw [List.length_map] at this
    omega
  | succ k ih =>
    intro x hl hx lx bx
    rcases List.eq_nil_or_concat x with e | ⟨y, s, e⟩
    · rw [e] at hl
      exact absurd hl (by simp)
    rw [List.concat_eq_append] at e
    rw [e] at hl hx lx bx ⊢
    rw [List.length_append, List.length_singleton] at hl lx ⊢
    have yL : cx_L n' y := fun r hr => hx r (List.mem_append_left _ hr)
    have sn : s < n' := hx s (List.mem_append_right _ List.mem_cons_self)
    have psn := T.1 s sn
    have l1 := cx_l_app (A := A') yL (cx_L_1 sn)
    rw [List.length_singleton] at l1
    have l2 := cx_l_len (A := A') yL
    have ly : cx_l n' A' y = y.length := by omega
    have byx : sbe n' A' y (y ++ [s]) := (sbe_w hok' yL hx (by rw [List.length_append, List.length_singleton]; exact lx) hx rfl).mpr ⟨y, List.sublist_append_left _ _, rfl⟩
    have byW := sbe_tr hok' yL hx hW byx bx
    have IH := ih y (by omega) yL ly byW
    have mL := map_L T yL
    rw [List.map_append]
    show cx_l n A (y.map p ++ [p s]) = y.length + 1
    by_cases hd : dn n A (y.map p) (p s)
    · exfalso
      have msL : cx_L n (y.map p ++ [p s]) := cx_L_app mL (cx_L_1 psn)
      obtain ⟨q1, q2, q3⟩ := rdw_sp (A := A) msL
      have lq := dn_1 hok mL psn hd
      have gq : cx_g n A (rdw n A (y.map p ++ [p s]) ++ [p s]) = cx_g n A (y.map p) := (cx_g_ap1 [p s] q2).trans (cx_g_sr hok psn _)
      have b := mats_w hok mL (cx_L_app q1 (cx_L_1 psn)) (by rw [IH, List.length_map]) (by rw [cx_l_eq gq, List.length_append, List.length_singleton, ← q3, cx_l_eq q2]; omega) gq.symm
      obtain ⟨y2, e2, b2⟩ := tr_lift hok' T hW lW yL ly byW rfl b
      obtain ⟨a, c, f1, f2, f3⟩ := List.map_eq_append_iff.mp e2.symm
      have y2L := brd_L yL b2
      have cL : cx_L n' c := fun r hr => y2L r (by rw [f1]; exact List.mem_append_right _ hr)
      have aL : cx_L n' a := fun r hr => y2L r (by rw [f1]; exact List.mem_append_left _ hr)
      have ec : c = [s] := map_inj T c [s] cL (cx_L_1 sn) (by rw [f3]; rfl)
      have g2 := brd_g hok' b2
      have ln := brd_len b2
      rw [f1, ec] at g2 ln
      rw [List.length_append, List.length_singleton] at ln
      have g3 := (cx_g_ap1 [s] g2).trans (cx_g_sr hok' sn a)
      rw [cx_l_eq g3] at lx
      have := cx_l_len (A := A') aL
      omega
    · rw [up_1 hok mL psn hd, IH]
theorem tr_len (hok : cx_ok n A) (hok' : cx_ok n' A') (T : trf n A n' A' p W) (hW : cx_L n' W) (lW : cx_l n' A' W = W.length) (hx : cx_L n' x) (bx : sbe n' A' x W) : cx_l n A (x.map p) = cx_l n' A' x := by
  obtain ⟨a1, a2, a3⟩ := rdw_sp (A := A') hx
  rw [← cx_l_eq (tr_g hok hok' T a1 hx a2), ← cx_l_eq a2, a3]
  exact tr_l hok hok' T hW lW _ _ rfl a1 a3 ((sbe_g1 a2).mpr bx)
theorem tr_inj (hok : cx_ok n A) (hok' : cx_ok n' A') (T : trf n A n' A' p W) (hW : cx_L n' W) (lW : cx_l n' A' W = W.length) (hx : cx_L n' x) (bx : sbe n' A' x W) (hy : cx_L n' y) (hyW : sbe n' A' y W) (h : cx_g n A (x.map p) = cx_g n A (y.map p)) : cx_g n' A' x = cx_g n' A' y := by
  obtain ⟨a1, a2, a3⟩ := rdw_sp (A := A') hx
  obtain ⟨b1, b2, b3⟩ := rdw_sp (A := A') hy
  have lx := tr_l hok hok' T hW lW _ _ rfl a1 a3 ((sbe_g1 a2).mpr bx)
  have ly := tr_l hok hok' T hW lW _ _ rfl b1 b3 ((sbe_g1 b2).mpr hyW)
  have g1 := (tr_g hok hok' T a1 hx a2).trans (h.trans (tr_g hok hok' T b1 hy b2).symm)
  have b := mats_w hok (map_L T a1) (map_L T b1) (by rw [lx, List.length_map]) (by rw [ly, List.length_map]) g1
  obtain ⟨y2, e2, br⟩ := tr_lift hok' T hW lW a1 a3 ((sbe_g1 a2).mpr bx) rfl b
  have ey := map_inj T _ _ b1 (brd_L a1 br) e2
  have g2 := brd_g hok' br
  rw [← ey] at g2
  exact a2.symm.trans (g2.trans b2)
theorem tr_dn (hok : cx_ok n A) (hok' : cx_ok n' A') (T : trf n A n' A' p W) (hW : cx_L n' W) (lW : cx_l n' A' W = W.length) (hx : cx_L n' x) (sn : s < n') (bx : sbe n' A' x W) (bs : sbe n' A' (x ++ [s]) W) : dn n A (x.map p) (p s) ↔ dn n' A' x s := by
  have e := tr_len hok hok' T hW lW (cx_L_app hx (cx_L_1 sn)) bs
  rw [List.map_append] at e
  unfold dn
  rw [← tr_len hok hok' T hW lW hx bx, ← e]
  exact Iff.rfl
theorem tr_ex (hok : cx_ok n A) (hok' : cx_ok n' A') (T : trf n A n' A' p W) (hW : cx_L n' W) (lW : cx_l n' A' W = W.length) (hw : cx_L n' w) (bw : sbe n' A' w W) (hu : cx_L n u) (h : sbe n A u (w.map p)) : ∃ u', cx_L n' u' ∧ sbe n' A' u' w ∧ cx_g n A (u'.map p) = cx_g n A u := by
  obtain ⟨a1, a2, a3⟩ := rdw_sp (A := A') hw
  have lr := tr_l hok hok' T hW lW _ _ rfl a1 a3 ((sbe_g1 a2).mpr bw)
  obtain ⟨z, hz, hg⟩ := (sbe_w hok hu (map_L T a1) (by rw [lr, List.length_map]) (map_L T hw) (tr_g hok hok' T a1 hw a2)).mp h
  obtain ⟨z', hz', e⟩ := List.sublist_map_iff.mp hz
  exact ⟨z', fun r hr => a1 r (hz'.subset hr), ⟨z', hz', rfl⟩, by rw [← e]; exact hg⟩
theorem tr_sbe (hok : cx_ok n A) (hok' : cx_ok n' A') (T : trf n A n' A' p W) (hW : cx_L n' W) (lW : cx_l n' A' W = W.length) (hw : cx_L n' w) (bw : sbe n' A' w W) (hu : cx_L n' u) (bu : sbe n' A' u W) : sbe n A (u.map p) (w.map p) ↔ sbe n' A' u w := by
  constructor
  · intro h
    obtain ⟨u', h1, h2, h3⟩ := tr_ex hok hok' T hW lW hw bw (map_L T hu) h
    have := tr_inj hok hok' T hW lW h1 (sbe_tr hok' h1 hw hW h2 bw) hu bu h3
    exact (sbe_g1 this).mp h2
  · intro h
    obtain ⟨a1, a2, a3⟩ := rdw_sp (A := A') hw
    have lr := tr_l hok hok' T hW lW _ _ rfl a1 a3 ((sbe_g1 a2).mpr bw)
    obtain ⟨z, hz, hg⟩ := h
    have zL : cx_L n' z := fun r hr => a1 r (hz.subset hr)
    exact (sbe_w hok (map_L T hu) (map_L T a1) (by rw [lr, List.length_map]) (map_L T hw) (tr_g hok hok' T a1 hw a2)).mpr ⟨z.map p, hz.map p, tr_g hok hok' T zL hu hg⟩
end S
