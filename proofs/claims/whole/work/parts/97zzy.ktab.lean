/-! The tables hold P. -/
theorem csum_1 (f : Nat → Int) : ∀ (N : Nat), cx_sum (N + 1) f = f 0 + cx_sum N (fun i => f (i + 1)) := by
  intro N
  induction N with
  | zero =>
    show (0 : Int) + f 0 = f 0 + 0
    omega
  | succ N ih =>
    show cx_sum (N + 1) f + f (N + 1) = f 0 + (cx_sum N (fun i => f (i + 1)) + f (N + 1))
    rw [ih]
    omega
theorem lsm_c (F : List Nat → Int) (z : List Nat) (zs : List (List Nat)) : lsm F (z :: zs) = F z + lsm F zs := by
  unfold lsm
  rw [List.length_cons, csum_1]
  rfl
section S
variable {n : Nat} {A : Nat → Nat → Int} {s m : Nat} {v x y z : List Nat} {g f : List Nat → Nat → Int} {T U : List (List kE)} {rc : List Nat → List (List kE)} {R : Nat × Nat}
/-- a table holds P of v -/
def tbs (n : Nat) (A : Nat → Nat → Int) (v : List Nat) (g : List Nat → Nat → Int) (T : List (List kE)) : Prop := (∀ (l : Nat) (e : kE), e ∈ kgt T l → ∃ x, cx_L n x ∧ sbe n A x v ∧ x.length = l ∧ cx_l n A x = l ∧ e = (pk n A x, pv (g x), x.reverse)) ∧ ∀ x, cx_L n x → sbe n A x v → ∃ e, e ∈ kgt T (cx_l n A x) ∧ e.1 = pk n A x
theorem tbs_lk (hok : cx_ok n A) (hg : klo n A v g) (hT : tbs n A v g T) (hx : cx_L n x) (lx : cx_l n A x ≤ 10) : klk (pk n A x) (kgt T (cx_l n A x)) = pv (g x) := by
  by_cases hb : sbe n A x v
  · refine klk_in (hT.2 x hx hb) (fun e he h1 => ?_)
    obtain ⟨x', a1, a2, a3, a4, a5⟩ := hT.1 _ e he
    rw [a5] at h1 ⊢
    have := pk_inj hok a1 hx (by rw [a4]; exact lx) lx h1
    show pv (g x') = pv (g x)
    rw [hg.1 _ _ this]
  · have e0 : pv (g x) = 0 := by
      have h0 : ∀ k, g x k = 0 := hg.2.1 x hx hb
      unfold pv pvi
      rw [h0 0, h0 1, h0 2, h0 3, h0 4]
      rfl
    rw [e0]
    refine klk_no (fun e he h1 => hb ?_)
    obtain ⟨x', a1, a2, a3, a4, a5⟩ := hT.1 _ e he
    rw [a5] at h1
    exact (sbe_g1 (pk_inj hok a1 hx (by rw [a4]; exact lx) lx h1)).mp a2
/-- the spread of what goes up -/
def tus (n : Nat) (A : Nat → Nat → Int) (v : List Nat) (s : Nat) (g : List Nat → Nat → Int) (U : List (List kE)) : Prop := (∀ (l : Nat) (e : kE), e ∈ kgt U l → ∃ x, cx_L n x ∧ sbe n A x v ∧ ¬ dn n A x s ∧ x.length = l ∧ cx_l n A x = l ∧ e = (pk n A x, pv (tau n A s g x), x.reverse)) ∧ ∀ x, cx_L n x → sbe n A x v → ¬ dn n A x s → ∃ e, e ∈ kgt U (cx_l n A x) ∧ e.1 = pk n A x
theorem pv_tau (hn : ∀ u, cx_L n u → ∀ k, 0 ≤ g u k) (h4 : ∀ u, cx_L n u → g u 4 = 0) (hx : cx_L n x) (sn : s < n) (hd : ¬ dn n A x s) : pv (tau n A s g x) = pv (g x) + 4294967296 * pv (g (x ++ [s])) := by
  have xsL : cx_L n (x ++ [s]) := cx_L_app hx (cx_L_1 sn)
  have e : pvi (tau n A s g x) = 4294967296 * pvi (g (x ++ [s])) + pvi (g x) := by
    rw [← pvi_qs (h4 _ xsL), ← pvi_add]
    exact pvi_cg (fun k => cii_n hd)
  have a := pv_i (p := tau n A s g x) (fun k _ => tau_nn hn sn hx k)
  have b := pv_i (p := g x) (fun k _ => hn x hx k)
  have c := pv_i (p := g (x ++ [s])) (fun k _ => hn _ xsL k)
  omega
theorem kul_ok (hok : cx_ok n A) (hn : ∀ u, cx_L n u → ∀ k, 0 ≤ g u k) (hv : cx_L n v) (lv : cx_l n A v ≤ 8) (hg : klo n A v g) (hT : tbs n A v g T) (sn : s < n) (hR : kRo n A s R) : tus n A v s g (kul R s T) := by
  have key : ∀ x, cx_L n x → sbe n A x v → ¬ dn n A x s → pv (g x) + 4294967296 * klk (kml R (kdg s (pk n A x)) (pk n A x)) (kgt T (cx_l n A x + 1)) = pv (tau n A s g x) := by
    intro x hx hb hd
    have lx := (sbe_l hv hx hb).1
    have xsL : cx_L n (x ++ [s]) := cx_L_app hx (cx_L_1 sn)
    have up := up_1 hok hx sn hd
    rw [pk_up hok hx (by omega) sn hd hR, ← up, tbs_lk hok hg hT xsL (by omega), pv_tau hn (fun u hu => klo_hi hg hu (by decide) (by omega)) hx sn hd]
  constructor
  · intro l e he
    rw [kgt_ul] at he
    obtain ⟨a, h1, h2, h3⟩ := kua_m.mp he
    obtain ⟨x, a1, a2, a3, a4, a5⟩ := hT.1 l a h1
    have lx := (sbe_l hv a1 a2).1
    rw [a5] at h2 h3
    have hd := (kas_e hok a1 (by omega) sn).mp h2
    refine ⟨x, a1, a2, hd, a3, a4, ?_⟩
    rw [h3, ← key x a1 a2 hd, a4]
  · intro x hx hb hd
    obtain ⟨e, h1, h2⟩ := hT.2 x hx hb
    have lx := (sbe_l hv hx hb).1
    refine ⟨(e.1, e.2.1 + 4294967296 * klk (kml R (kdg s e.1) e.1) (kgt T (cx_l n A x + 1)), e.2.2), ?_, h2⟩
    · rw [kgt_ul]
      exact kua_m.mpr ⟨e, h1, by rw [h2]; exact (kas_e hok hx (by omega) sn).mpr hd, rfl⟩
theorem sbe_low (hok : cx_ok n A) (hv : cx_L n v) (sn : s < n) (hd : ¬ dn n A v s) (hy : cx_L n y) (hb : sbe n A y (v ++ [s])) (hdy : ¬ dn n A y s) : sbe n A y v := by
  obtain ⟨r1, r2, r3⟩ := rdw_sp (A := A) hv
  have wL : cx_L n (v ++ [s]) := cx_L_app hv (cx_L_1 sn)
  have gw := cx_g_ap1 [s] r2
  have lw : cx_l n A (rdw n A v ++ [s]) = (rdw n A v ++ [s]).length := by
    rw [cx_l_eq gw, up_1 hok hv sn hd, List.length_append, List.length_singleton, ← r3, cx_l_eq r2]
  obtain ⟨z, hz, hg⟩ := (sbe_w hok hy (cx_L_app r1 (cx_L_1 sn)) lw wL gw).mp hb
  rcases sub_snoc hz with h | ⟨z', e, h⟩
  · exact ⟨z, h, hg⟩
  · have ysL : cx_L n (y ++ [s]) := cx_L_app hy (cx_L_1 sn)
    rw [e] at hg
    have g2 : cx_g n A z' = cx_g n A (y ++ [s]) := by
      have := cx_g_ap1 [s] hg
      rw [cx_g_sr hok sn] at this
      exact this
    have b1 : sbe n A (y ++ [s]) v := ⟨z', h, g2⟩
    have b2 := sbe_ws hok ysL sn ((dn_dn hok hy sn).mpr hdy)
    exact sbe_tr hok hy ysL hv ((sbe_g1 (cx_g_sr hok sn y)).mp b2) b1
theorem kdl_in {R : Nat × Nat} {s : Nat} {U : List (List kE)} {e : kE} {l : Nat} (h : e ∈ kgt U l) : e ∈ kgt (kdl R s U []) l := by
  cases l with
  | zero =>
    rw [(kgt_dl U []).1]
    exact List.mem_append_left _ h
  | succ l =>
    rw [(kgt_dl U []).2]
    exact List.mem_append_left _ h
theorem kdl_ok (hok : cx_ok n A) (hge : egl n A g) (hv : cx_L n v) (lv : cx_l n A v ≤ 8) (sn : s < n) (hd : ¬ dn n A v s) (hU : tus n A v s g U) (hR : kRo n A s R) : tbs n A (v ++ [s]) (tau n A s g) (kdl R s U []) := by
  have wL : cx_L n (v ++ [s]) := cx_L_app hv (cx_L_1 sn)
  have dw : dn n A (v ++ [s]) s := (dn_dn hok hv sn).mpr hd
  have vw : sbe n A v (v ++ [s]) := (sbe_g1 (cx_g_sr hok sn v)).mp (sbe_ws hok wL sn dw)
  have upx : ∀ x, cx_L n x → sbe n A x v → sbe n A x (v ++ [s]) := fun x hx hb => sbe_tr hok hx hv wL hb vw
  constructor
  · intro l e he
    have old : e ∈ kgt U l → ∃ x, cx_L n x ∧ sbe n A x (v ++ [s]) ∧ x.length = l ∧ cx_l n A x = l ∧ e = (pk n A x, pv (tau n A s g x), x.reverse) := by
      intro h
      obtain ⟨x, a1, a2, a3, a4, a5, a6⟩ := hU.1 l e h
      exact ⟨x, a1, upx x a1 a2, a4, a5, a6⟩
    cases l with
    | zero =>
      rw [(kgt_dl U []).1, List.append_nil] at he
      exact old he
    | succ l =>
      rw [(kgt_dl U []).2] at he
      rcases List.mem_append.mp he with h | h
      · exact old h
      · obtain ⟨a, h1, h2⟩ := kdn_m.mp h
        obtain ⟨x, a1, a2, a3, a4, a5, a6⟩ := hU.1 l a h1
        have lx := (sbe_l hv a1 a2).1
        have xsL : cx_L n (x ++ [s]) := cx_L_app a1 (cx_L_1 sn)
        refine ⟨x ++ [s], xsL, sbe_s hok wL sn dw a1 (upx x a1 a2), by rw [List.length_append, List.length_singleton, a4], by rw [up_1 hok a1 sn a3, a5], ?_⟩
        rw [h2, a6]
        show (kml R (kdg s (pk n A x)) (pk n A x), pv (tau n A s g x), s :: x.reverse) = _
        have ep : tau n A s g (x ++ [s]) = tau n A s g x := by
          funext k
          exact tau_sy hok hge sn a1 k
        rw [pk_up hok a1 (by omega) sn a3 hR, ep, List.reverse_append]
        rfl
  · intro y hy hb
    by_cases hdy : dn n A y s
    · have xL : cx_L n (y ++ [s]) := cx_L_app hy (cx_L_1 sn)
      have nx : ¬ dn n A (y ++ [s]) s := fun h => (dn_dn hok hy sn).mp h hdy
      have xb := sbe_low hok hv sn hd xL (sbe_s hok wL sn dw hy hb) nx
      obtain ⟨e, h1, h2⟩ := hU.2 (y ++ [s]) xL xb nx
      have ly := dn_1 hok hy sn hdy
      have lx := (sbe_l hv xL xb).1
      refine ⟨(kml R (kdg s e.1) e.1, e.2.1, s :: e.2.2), ?_, ?_⟩
      · rw [← ly, (kgt_dl U []).2]
        exact List.mem_append_right _ (kdn_m.mpr ⟨e, h1, rfl⟩)
      · show kml R (kdg s e.1) e.1 = _
        rw [h2, pk_up hok xL (by omega) sn nx hR]
        exact pk_g (cx_g_sr hok sn y)
    · obtain ⟨e, h1, h2⟩ := hU.2 y hy (sbe_low hok hv sn hd hy hb hdy) hdy
      exact ⟨e, kdl_in h1, h2⟩
end S
