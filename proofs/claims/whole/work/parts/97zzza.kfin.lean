/-! The reckoning is right. -/
theorem qn_bd {g : Nat → Int} {B : Int} (hB : 0 ≤ B) (h : ∀ k, g k ≤ B) : ∀ (d k : Nat), qn d g k ≤ B := by
  intro d
  induction d with
  | zero => exact h
  | succ d ih => exact fun k => qs_bd hB ih k
section S
variable {n : Nat} {A : Nat → Nat → Int} {s t m : Nat} {v x y z : List Nat} {g f : List Nat → Nat → Int} {T U : List (List kE)} {rc : List Nat → List (List kE)} {R : Nat × Nat} {fz : List Nat → List Nat → Nat → Int}
theorem kn_b (hok : cx_ok n A) (hm : knn n A m) (m8 : m ≤ 8) (hv : cx_L n v) (lv : cx_l n A v ≤ m) (hg : klo n A v g) {u : List Nat} (hu : cx_L n u) (k : Nat) : 0 ≤ g u k ∧ g u k ≤ 256 := by
  have b := knn_bd hok hm 8 v g hv (by omega) lv hg u hu k
  have e : (2 : Int) ^ 8 = 256 := by decide
  rw [e] at b
  exact ⟨hm v g hv lv hg u hu k, b⟩
/-- one term -/
theorem zt_e (hok : cx_ok n A) (hv : cx_L n v) (sn : s < n) (hd : ¬ dn n A v s) (lv : cx_l n A v + 1 ≤ 8) (hy : cx_L n y) (zL : cx_L n z) (zb : sbe n A z v) (zd : dn n A z s) (zm : 0 ≤ mu n A g v z) (kz : klo n A z (fz z)) (fn : ∀ k, 0 ≤ fz z y k) (lk : klk (pk n A y) (kgt (rc z.reverse) (cx_l n A y)) = pv (fz z y)) : (((zF n A v g rc z).2.1 * klk (pk n A y) (kgt (zF n A v g rc z).2.2 (cx_l n A y)) : Nat) : Int) = pvi (fun k => lse n A s (v ++ [s]) v g fz z y k) := by
  have up := up_1 hok hv sn hd
  have lz := (sbe_l hv zL zb).1
  show (((mu n A g v z).toNat * 4294967296 ^ ((cx_l n A v + 1 - cx_l n A z) / 2) * klk (pk n A y) (kgt (rc z.reverse) (cx_l n A y)) : Nat) : Int) = _
  rw [lk, Int.natCast_mul, Int.natCast_mul, Int.natCast_pow, Int.toNat_of_nonneg zm, pv_i (fun k _ => fn k)]
  have e : pvi (fun k => lse n A s (v ++ [s]) v g fz z y k) = pvi (fun k => mu n A g v z * qn ((cx_l n A v + 1 - cx_l n A z) / 2) (fz z y) k) := pvi_cg (fun k => by
    unfold lse
    rw [cii_p zd, up])
  rw [e, pvi_mul, pvi_qn _ (fun k h1 h2 => klo_hi kz hy (by omega) (by omega)) (by omega), Int.mul_assoc]
  rfl
theorem ksm_ok (hok : cx_ok n A) (hv : cx_L n v) (sn : s < n) (hd : ¬ dn n A v s) (lv : cx_l n A v + 1 ≤ 8) (hy : cx_L n y) : ∀ (zs : List (List Nat)), (∀ z, z ∈ zs → cx_L n z ∧ sbe n A z v ∧ dn n A z s ∧ 0 ≤ mu n A g v z ∧ klo n A z (fz z) ∧ (∀ k, 0 ≤ fz z y k) ∧ klk (pk n A y) (kgt (rc z.reverse) (cx_l n A y)) = pv (fz z y)) → ((ksm (zs.map (zF n A v g rc)) (cx_l n A y) (pk n A y) : Nat) : Int) = pvi (fun k => lsm (fun z => lse n A s (v ++ [s]) v g fz z y k) zs) := by
  intro zs
  induction zs with
  | nil => exact fun _ => rfl
  | cons z zs ih =>
    intro h
    obtain ⟨a1, a2, a3, a4, a5, a6, a7⟩ := h z List.mem_cons_self
    show ((ksm (zs.map (zF n A v g rc)) (cx_l n A y) (pk n A y) + (zF n A v g rc z).2.1 * klk (pk n A y) (kgt (zF n A v g rc z).2.2 (cx_l n A y)) : Nat) : Int) = _
    rw [Int.natCast_add, ih (fun z hz => h z (List.mem_cons_of_mem _ hz)), zt_e hok hv sn hd lv hy a1 a2 a3 a4 a5 a6 a7, ← pvi_add]
    exact pvi_cg (fun k => by
      rw [lsm_c]
      omega)
/-- all that a step needs -/
theorem kz_all (hok : cx_ok n A) (hm : knn n A m) (m8 : m ≤ 8) (hv : cx_L n v) (sn : s < n) (hd : ¬ dn n A v s) (lv : cx_l n A v ≤ m) (lv8 : cx_l n A v + 1 ≤ 8) (hg : klo n A v g) (hT : tbs n A v g T) (ht : cx_l n A v ≠ 0 → t < n ∧ dn n A v t) (hrc : ∀ z, cx_L n z → cx_l n A z = z.length → z.length ≤ cx_l n A v → ∃ h, klo n A z h ∧ tbs n A z h (rc z.reverse)) (hf : klo n A (v ++ [s]) f) : ∃ (zs : List (List Nat)) (fz : List Nat → List Nat → Nat → Int), kzl rc (cx_l n A v) t s T 0 = zs.map (zF n A v g rc) ∧ (∀ y, cx_L n y → ∀ k, f y k = tau n A s g y k - lsm (fun z => lse n A s (v ++ [s]) v g fz z y k) zs) ∧ ∀ y, cx_L n y → cx_l n A y ≤ 10 → ∀ z, z ∈ zs → cx_L n z ∧ sbe n A z v ∧ dn n A z s ∧ 0 ≤ mu n A g v z ∧ klo n A z (fz z) ∧ (∀ k, 0 ≤ fz z y k) ∧ klk (pk n A y) (kgt (rc z.reverse) (cx_l n A y)) = pv (fz z y) := by
  have B := fun (u : List Nat) (hu : cx_L n u) (k : Nat) => kn_b hok hm m8 hv lv hg hu k
  obtain ⟨zs, h1, h2⟩ := kzl_ok (rc := rc) hok (fun u hu k => by have := B u hu k; omega) hv (by omega) hg sn ht T 0 (fun i e he => by
    rw [Nat.zero_add]
    exact hT.1 i e he)
  have hzz : ∀ z : List Nat, ∃ h, cx_L n z → klo n A z h := fun z => by
    by_cases h : cx_L n z
    · obtain ⟨fz, hfz⟩ := klo_ex hok _ z h (Nat.le_refl _)
      exact ⟨fz, fun _ => hfz⟩
    · exact ⟨fun _ _ => 0, fun hh => absurd hh h⟩
  have kf : ∀ z, cx_L n z → klo n A z (Classical.choose (hzz (rdw n A z))) := by
    intro z zL
    obtain ⟨r1, r2, _⟩ := rdw_sp (A := A) zL
    exact klo_g r2 (Classical.choose_spec (hzz (rdw n A z)) r1)
  refine ⟨zs, fun z => Classical.choose (hzz (rdw n A z)), h1.1, fun y hy k => ?_, fun y hy ly z hz => ?_⟩
  · exact kl_sum hok hv sn hd hg hf (zs_lvq hT h1 h2) (fun a b hab => by
      show Classical.choose (hzz (rdw n A a)) = Classical.choose (hzz (rdw n A b))
      rw [rdw_g hab]) (fun z zL _ => kf z zL) hy k
  · obtain ⟨b1, b2, b3, b4, b5⟩ := h1.2.1 z hz
    have lz := (sbe_l hv b1 b2).1
    have zk := kf z b1
    refine ⟨b1, b2, b3, ?_, zk, fun k => hm z _ b1 (by omega) zk y hy k, ?_⟩
    · unfold mu
      split
      · exact (B z b1 _).1
      · exact Int.le_refl _
    · obtain ⟨h, k1, k2⟩ := hrc z b1 b5 (by omega)
      rw [tbs_lk hok k1 k2 hy ly]
      have : h y = Classical.choose (hzz (rdw n A z)) y := by
        funext k
        exact klo_un hok b1 k1 zk (cx_l n A z) y hy (by omega) k
      rw [this]
theorem kst_ok (hok : cx_ok n A) (hm : knn n A m) (m8 : m ≤ 8) (hv : cx_L n v) (sn : s < n) (hd : ¬ dn n A v s) (lv : cx_l n A v + 1 ≤ m) (hg : klo n A v g) (hT : tbs n A v g T) (hR : kRo n A s R) (ht : cx_l n A v ≠ 0 → t < n ∧ dn n A v t) (hrc : ∀ z, cx_L n z → cx_l n A z = z.length → z.length ≤ cx_l n A v → ∃ h, klo n A z h ∧ tbs n A z h (rc z.reverse)) (hf : klo n A (v ++ [s]) f) : tbs n A (v ++ [s]) f (kst rc R (cx_l n A v) t s T) := by
  have wL : cx_L n (v ++ [s]) := cx_L_app hv (cx_L_1 sn)
  have up := up_1 hok hv sn hd
  have gn : ∀ u, cx_L n u → ∀ k, 0 ≤ g u k := fun u hu k => hm v g hv (by omega) hg u hu k
  have U := kul_ok hok gn hv (by omega) hg hT sn hR
  have D := kdl_ok hok hg.1 hv (by omega) sn hd U hR
  obtain ⟨zs, fz, e1, e2, e3⟩ := kz_all hok hm m8 hv sn hd (by omega) (by omega) hg hT ht hrc hf
  have main : ∀ y, cx_L n y → cx_l n A y ≤ 10 → pv (tau n A s g y) - ksm (kzl rc (cx_l n A v) t s T 0) (cx_l n A y) (pk n A y) = pv (f y) := by
    intro y hy ly
    have c1 := ksm_ok (g := g) (rc := rc) (fz := fz) hok hv sn hd (by omega) hy zs (e3 y hy ly)
    rw [← e1] at c1
    have c2 : pvi (f y) = pvi (tau n A s g y) - pvi (fun k => lsm (fun z => lse n A s (v ++ [s]) v g fz z y k) zs) := by
      rw [← pvi_sub]
      exact pvi_cg (fun k => e2 y hy k)
    have c3 := pv_i (p := f y) (fun k _ => hm _ f wL (by omega) hf y hy k)
    have c4 := pv_i (p := tau n A s g y) (fun k _ => tau_nn gn sn hy k)
    omega
  constructor
  · intro l e he
    obtain ⟨a, h1, h2⟩ := kdz_m.mp he
    obtain ⟨x, a1, a2, a3, a4, a5⟩ := D.1 l a h1
    have lx := (sbe_l wL a1 a2).1
    refine ⟨x, a1, a2, a3, a4, ?_⟩
    rw [h2, a5, ← main x a1 (by omega), a4]
  · intro x hx hb
    obtain ⟨e, h1, h2⟩ := D.2 x hx hb
    exact ⟨(e.1, e.2.1 - ksm (kzl rc (cx_l n A v) t s T 0) (cx_l n A x) e.1, e.2.2), kdz_m.mpr ⟨e, h1, rfl⟩, h2⟩
theorem kh_dn {r : List Nat} (hok : cx_ok n A) (rL : cx_L n r.reverse) (rl : cx_l n A r.reverse = r.reverse.length) : cx_l n A r.reverse ≠ 0 → khl r < n ∧ dn n A r.reverse (khl r) := by
  intro h0
  cases r with
  | nil => exact absurd rl h0
  | cons b r =>
    have bn : b < n := rL b (by rw [List.reverse_cons]; exact List.mem_append_right _ List.mem_cons_self)
    have rL2 : cx_L n r.reverse := fun q hq => rL q (by rw [List.reverse_cons]; exact List.mem_append_left _ hq)
    refine ⟨bn, ?_⟩
    show dn n A (b :: r).reverse b
    rw [List.reverse_cons] at rl ⊢
    unfold dn
    rw [cx_l_eq (cx_g_sr hok bn r.reverse), rl, List.length_append, List.length_singleton]
    have := cx_l_len (A := A) rL2
    omega
theorem kwd_ok (hok : cx_ok n A) (hm : knn n A m) (m8 : m ≤ 8) {N0 : Nat} (hN : N0 = pk n A []) {Rs : Nat → Nat × Nat} (hR : ∀ s, s < n → kRo n A s (Rs s)) {F : Nat} (hrc : ∀ z, cx_L n z → cx_l n A z = z.length → z.length < F → z.length ≤ m → ∃ h, klo n A z h ∧ tbs n A z h (rc z.reverse)) : ∀ (r : List Nat), cx_L n r.reverse → cx_l n A r.reverse = r.length → r.length ≤ F → r.length ≤ m → ∀ g, klo n A r.reverse g → (kwd rc Rs N0 r).1 = r.length ∧ tbs n A r.reverse g (kwd rc Rs N0 r).2 := by
  intro r
  induction r with
  | nil =>
    intro rL rl _ _ g hg
    have l0 : cx_l n A ([] : List Nat) = 0 := rl
    refine ⟨rfl, fun l e he => ?_, fun x hx hb => ?_⟩
    · cases l with
      | zero =>
        have he' : e ∈ [((N0, 1, []) : kE)] := he
        refine ⟨[], rL, sbe_rf rL, rfl, l0, ?_⟩
        rw [List.mem_singleton.mp he', hN]
        have hgu : ∀ k, g [] k = if k = 0 then 1 else 0 := hg.2.2.1
        have : pv (g []) = 1 := by
          unfold pv pvi
          rw [hgu 0, hgu 1, hgu 2, hgu 3, hgu 4]
          rfl
        rw [this]
        rfl
      | succ l => exact absurd he List.not_mem_nil
    · have h := sbe_l (show cx_L n [] from rL) hx hb
      have lx : cx_l n A x = 0 := by omega
      rw [lx]
      exact ⟨(N0, 1, []), List.mem_cons_self, by rw [hN]; exact pk_g (h.2 (by omega)).symm⟩
  | cons s r ih =>
    intro rL rl hF hl g hg
    rw [List.reverse_cons] at rL rl hg ⊢
    rw [List.length_cons] at rl hF hl
    have vL : cx_L n r.reverse := fun q hq => rL q (List.mem_append_left _ hq)
    have sn : s < n := rL s (List.mem_append_right _ List.mem_cons_self)
    have l1 := cx_l_len (A := A) vL
    rw [List.length_reverse] at l1
    have hd : ¬ dn n A r.reverse s := fun h => by
      have := dn_1 hok vL sn h
      omega
    have up := up_1 hok vL sn hd
    obtain ⟨g', hg'⟩ := klo_ex hok _ r.reverse vL (Nat.le_refl _)
    obtain ⟨i1, i2⟩ := ih vL (by omega) (by omega) (by omega) g' hg'
    have hl2 : cx_l n A r.reverse = r.length := by omega
    have K := kst_ok (rc := rc) (R := Rs s) hok hm m8 vL sn hd (by omega) hg' i2 (hR s sn) (kh_dn hok vL (by rw [List.length_reverse]; omega)) (fun z z1 z2 z3 => hrc z z1 z2 (by omega) (by omega)) hg
    refine ⟨?_, ?_⟩
    · show Nat.succ (kwd rc Rs N0 r).1 = _
      rw [i1]
      rfl
    · show tbs n A (r.reverse ++ [s]) g (kst rc (Rs s) (kwd rc Rs N0 r).1 (khl r) s (kwd rc Rs N0 r).2)
      rw [i1, ← hl2]
      exact K
theorem ktb_ok (hok : cx_ok n A) (hm : knn n A m) (m8 : m ≤ 8) {N0 : Nat} (hN : N0 = pk n A []) {Rs : Nat → Nat × Nat} (hR : ∀ s, s < n → kRo n A s (Rs s)) : ∀ (F : Nat) (w : List Nat), cx_L n w → cx_l n A w = w.length → w.length < F → w.length ≤ m → ∀ g, klo n A w g → tbs n A w g (ktb N0 Rs F w.reverse) := by
  intro F
  induction F with
  | zero => exact fun w _ _ h => absurd h (Nat.not_lt_zero _)
  | succ F ih =>
    intro w hw lw hF hl g hg
    have K := kwd_ok (rc := ktb N0 Rs F) (F := F) hok hm m8 hN hR (fun z z1 z2 z3 z4 => by
      obtain ⟨h, hh⟩ := klo_ex hok _ z z1 (Nat.le_refl _)
      exact ⟨h, hh, ih z z1 z2 z3 z4 h hh⟩) w.reverse (by rw [List.reverse_reverse]; exact hw) (by rw [List.reverse_reverse, List.length_reverse]; exact lw) (by rw [List.length_reverse]; omega) (by rw [List.length_reverse]; exact hl) g (by rw [List.reverse_reverse]; exact hg)
    rw [List.reverse_reverse] at K
    exact K.2
theorem kge_e {q c : Nat} (h : kge q c = true) : ∀ j, j < 5 → kg1 q c j = true := by
  have h0 : kg1 q c 0 = true := by
    cases e : kg1 q c 0 with
    | true => rfl
    | false =>
      unfold kge at h
      rw [e] at h
      exact h
  have h1' : (Bool.rec false (Bool.rec false (Bool.rec false (kg1 q c 4) (kg1 q c 3)) (kg1 q c 2)) (kg1 q c 1) : Bool) = true := by
    unfold kge at h
    rw [h0] at h
    exact h
  have h1 : kg1 q c 1 = true := by
    cases e : kg1 q c 1 with
    | true => rfl
    | false =>
      rw [e] at h1'
      exact h1'
  have h2' : (Bool.rec false (Bool.rec false (kg1 q c 4) (kg1 q c 3)) (kg1 q c 2) : Bool) = true := by
    rw [h1] at h1'
    exact h1'
  have h2 : kg1 q c 2 = true := by
    cases e : kg1 q c 2 with
    | true => rfl
    | false =>
      rw [e] at h2'
      exact h2'
  have h3' : (Bool.rec false (kg1 q c 4) (kg1 q c 3) : Bool) = true := by
    rw [h2] at h2'
    exact h2'
  have h3 : kg1 q c 3 = true := by
    cases e : kg1 q c 3 with
    | true => rfl
    | false =>
      rw [e] at h3'
      exact h3'
  have h4 : kg1 q c 4 = true := by
    rw [h3] at h3'
    exact h3'
  intro j hj
  rcases j with _ | _ | _ | _ | _ | j
  · exact h0
  · exact h1
  · exact h2
  · exact h3
  · exact h4
  · omega
theorem kck_ok (hok : cx_ok n A) (hm : knn n A m) (m8 : m ≤ 8) (hv : cx_L n v) (lvm : cx_l n A v ≤ m) (hg : klo n A v g) (sn : s < n) (hd : ¬ dn n A v s) (lv : cx_l n A v + 1 ≤ 8) (hy : cx_L n y) : ∀ (zs : List (List Nat)) (p : Nat → Int), (∀ z, z ∈ zs → cx_L n z ∧ sbe n A z v ∧ dn n A z s ∧ 0 ≤ mu n A g v z ∧ klo n A z (fz z) ∧ (∀ k, 0 ≤ fz z y k) ∧ klk (pk n A y) (kgt (rc z.reverse) (cx_l n A y)) = pv (fz z y)) → (∀ k, k < 5 → 0 ≤ p k ∧ p k < 4294967296) → kck (zs.map (zF n A v g rc)) (cx_l n A y) (pk n A y) (pv p) = true → ∀ k, k < 5 → 0 ≤ p k - lsm (fun z => lse n A s (v ++ [s]) v g fz z y k) zs := by
  intro zs
  induction zs with
  | nil =>
    intro p _ hp _ k hk
    have := (hp k hk).1
    show 0 ≤ p k - 0
    omega
  | cons z zs ih =>
    intro p h hp hc k hk
    obtain ⟨a1, a2, a3, a4, a5, a6, a7⟩ := h z List.mem_cons_self
    have lz := (sbe_l hv a1 a2).1
    have ze := zt_e (rc := rc) hok hv sn hd lv hy a1 a2 a3 a4 a5 a6 a7
    have tb : ∀ k, 0 ≤ lse n A s (v ++ [s]) v g fz z y k ∧ lse n A s (v ++ [s]) v g fz z y k < 4294967296 := by
      intro k
      unfold lse
      rw [cii_p a3]
      have q1 := qn_nn a6 ((cx_l n A (v ++ [s]) - cx_l n A z) / 2) k
      have q2 := qn_bd (g := fz z y) (B := 256) (by decide) (fun k => (kn_b hok hm m8 a1 (by omega) a5 hy k).2) ((cx_l n A (v ++ [s]) - cx_l n A z) / 2) k
      have q3 : mu n A g v z ≤ 256 := by
        unfold mu
        split
        · exact (kn_b hok hm m8 hv lvm hg a1 _).2
        · decide
      have q4 := Int.mul_nonneg a4 q1
      have q5 := Int.mul_le_mul q3 q2 q1 (by decide)
      omega
    have pn := pv_i (p := p) (fun k hk => (hp k hk).1)
    have tn := pv_i (p := fun k => lse n A s (v ++ [s]) v g fz z y k) (fun k _ => (tb k).1)
    have te : (zF n A v g rc z).2.1 * klk (pk n A y) (kgt (zF n A v g rc z).2.2 (cx_l n A y)) = pv (fun k => lse n A s (v ++ [s]) v g fz z y k) := by omega
    have hc1 : frc ((zF n A v g rc z).2.1 * klk (pk n A y) (kgt (zF n A v g rc z).2.2 (cx_l n A y))) (fun t => (Bool.rec false (kck (zs.map (zF n A v g rc)) (cx_l n A y) (pk n A y) (pv p - t)) (kge (pv p) t) : Bool)) = true := hc
    rw [frc_e, te] at hc1
    cases hk2 : kge (pv p) (pv (fun k => lse n A s (v ++ [s]) v g fz z y k)) with
    | false =>
      rw [hk2] at hc1
      exact absurd (show false = true from hc1) (by decide)
    | true =>
      rw [hk2] at hc1
      have hc2 : kck (zs.map (zF n A v g rc)) (cx_l n A y) (pk n A y) (pv p - pv (fun k => lse n A s (v ++ [s]) v g fz z y k)) = true := hc1
      have le : ∀ j, j < 5 → lse n A s (v ++ [s]) v g fz z y j ≤ p j := by
        intro j hj
        have e := kge_e hk2 j hj
        unfold kg1 at e
        have e2 := Nat.le_of_ble_eq_true e
        have d1 := pv_dg hp hj
        have d2 := pv_dg (p := fun k => lse n A s (v ++ [s]) v g fz z y k) (fun k _ => tb k) hj
        omega
      have sb : pv p - pv (fun k => lse n A s (v ++ [s]) v g fz z y k) = pv (fun k => p k - lse n A s (v ++ [s]) v g fz z y k) := by
        have e := pvi_sub p (fun k => lse n A s (v ++ [s]) v g fz z y k)
        have e2 := pv_i (p := fun k => p k - lse n A s (v ++ [s]) v g fz z y k) (fun k hk => by
          have := le k hk
          show 0 ≤ p k - lse n A s (v ++ [s]) v g fz z y k
          omega)
        omega
      rw [sb] at hc2
      have := ih (fun k => p k - lse n A s (v ++ [s]) v g fz z y k) (fun z hz => h z (List.mem_cons_of_mem _ hz)) (fun k hk => by
        have a := le k hk
        have b := hp k hk
        have c := (tb k).1
        show 0 ≤ p k - lse n A s (v ++ [s]) v g fz z y k ∧ p k - lse n A s (v ++ [s]) v g fz z y k < 4294967296
        omega) hc2 k hk
      rw [lsm_c]
      omega
theorem kaa_e {Z : List kZ} {l : Nat} {b : Bool} : ∀ {L : List kE}, kaa Z l L b = true → b = true ∧ ∀ e, e ∈ L → kck Z l e.1 e.2.1 = true := by
  intro L
  induction L with
  | nil => exact fun h => ⟨h, fun e he => absurd he List.not_mem_nil⟩
  | cons a L ih =>
    intro h
    have h1 : (Bool.rec false (kaa Z l L b) (kck Z l a.1 a.2.1) : Bool) = true := h
    cases hk : kck Z l a.1 a.2.1 with
    | false =>
      rw [hk] at h1
      exact absurd (show false = true from h1) (by decide)
    | true =>
      rw [hk] at h1
      obtain ⟨i1, i2⟩ := ih h1
      refine ⟨i1, fun e he => ?_⟩
      rcases List.mem_cons.mp he with h2 | h2
      · rw [h2]
        exact hk
      · exact i2 e h2
theorem kal_e {Z : List kZ} : ∀ {T : List (List kE)} {l0 : Nat}, kal Z T l0 = true → ∀ (l : Nat) (e : kE), e ∈ kgt T l → kck Z (l0 + l) e.1 e.2.1 = true := by
  intro T
  induction T with
  | nil => exact fun _ l e he => absurd he List.not_mem_nil
  | cons B T ih =>
    intro l0 h l e he
    have h1 : kaa Z l0 B (kal Z T (l0 + 1)) = true := h
    obtain ⟨i1, i2⟩ := kaa_e h1
    cases l with
    | zero => exact i2 e he
    | succ l =>
      have := ih i1 l e he
      rw [show l0 + 1 + l = l0 + (l + 1) by omega] at this
      exact this
theorem kfz_e {Z : List kZ} {T : List (List kE)} (h : kfz Z T = true) (l : Nat) (e : kE) (he : e ∈ kgt T l) : kck Z l e.1 e.2.1 = true := by
  cases Z with
  | nil => rfl
  | cons z Z =>
    have h1 : kal (z :: Z) T 0 = true := h
    have := kal_e h1 l e he
    rw [Nat.zero_add] at this
    exact this
theorem kf0_ok (hok : cx_ok n A) (hm : knn n A m) (m7 : m ≤ 7) (hv : cx_L n v) (sn : s < n) (hd : ¬ dn n A v s) (lv : cx_l n A v ≤ m) (hg : klo n A v g) (hT : tbs n A v g T) (hR : kRo n A s R) (ht : cx_l n A v ≠ 0 → t < n ∧ dn n A v t) (hrc : ∀ z, cx_L n z → cx_l n A z = z.length → z.length ≤ cx_l n A v → ∃ h, klo n A z h ∧ tbs n A z h (rc z.reverse)) (hf : klo n A (v ++ [s]) f) (h : kf0 rc R (cx_l n A v) t s T = true) : ∀ u, cx_L n u → ∀ k, 0 ≤ f u k := by
  have wL : cx_L n (v ++ [s]) := cx_L_app hv (cx_L_1 sn)
  have dw : dn n A (v ++ [s]) s := (dn_dn hok hv sn).mpr hd
  have up := up_1 hok hv sn hd
  have gn : ∀ u, cx_L n u → ∀ k, 0 ≤ g u k := fun u hu k => hm v g hv lv hg u hu k
  have U := kul_ok hok gn hv (by omega) hg hT sn hR
  obtain ⟨zs, fz, e1, e2, e3⟩ := kz_all hok hm (by omega) hv sn hd lv (by omega) hg hT ht hrc hf
  have main : ∀ y, cx_L n y → ¬ dn n A y s → ∀ k, 0 ≤ f y k := by
    intro y hy hdy k
    by_cases hk : k < 5
    · by_cases hb : sbe n A y v
      · have ly := (sbe_l hv hy hb).1
        obtain ⟨e, h1, h2⟩ := U.2 y hy hb hdy
        obtain ⟨x, a1, a2, a3, a4, a5, a6⟩ := U.1 _ e h1
        have c := kfz_e h _ e h1
        rw [a6, e1] at c
        rw [a6] at h2
        have gx := pk_inj hok a1 hy (by omega) (by omega) h2
        have c2 : kck (zs.map (zF n A v g rc)) (cx_l n A y) (pk n A y) (pv (tau n A s g y)) = true := by
          have et : tau n A s g x = tau n A s g y := tau_eg hg.1 _ _ gx
          rw [← et, ← h2]
          exact c
        rw [e2 y hy k]
        refine kck_ok (g := g) (rc := rc) (fz := fz) hok hm (by omega) hv lv hg sn hd (by omega) hy zs (tau n A s g y) (e3 y hy (by omega)) (fun k _ => ⟨tau_nn gn sn hy k, ?_⟩) c2 k hk
        have ysL : cx_L n (y ++ [s]) := cx_L_app hy (cx_L_1 sn)
        have b1 := fun k => (kn_b hok hm (by omega) hv lv hg hy k).2
        have b2 := fun k => (kn_b hok hm (by omega) hv lv hg ysL k).2
        have b3 := qs_bd (B := 256) (by decide) b2 k
        have b4 := b1 k
        show cii (dn n A y s) (g (y ++ [s]) k + qs (g y) k) (qs (g (y ++ [s])) k + g y k) < 4294967296
        rw [cii_n hdy]
        omega
      · rw [hf.2.1 y hy (fun hb2 => hb (sbe_low hok hv sn hd hy hb2 hdy)) k]
        exact Int.le_refl _
    · rw [klo_hi hf hy (j := k) (by omega) (by omega)]
      exact Int.le_refl _
  intro u hu k
  by_cases hdu : dn n A u s
  · rw [← klo_sy hok _ (v ++ [s]) f s wL (Nat.le_refl _) hf sn dw u hu k]
    exact main (u ++ [s]) (cx_L_app hu (cx_L_1 sn)) (fun h => (dn_dn hok hu sn).mp h hdu) k
  · exact main u hu hdu k
/-- the reckoning says: not under 0 -/
theorem kfin_ok (hok : cx_ok n A) (hm : knn n A m) (m7 : m ≤ 7) {N0 : Nat} (hN : N0 = pk n A []) {Rs : Nat → Nat × Nat} (hR : ∀ s, s < n → kRo n A s (Rs s)) {w : List Nat} (hw : cx_L n w) (lw : cx_l n A w = w.length) (wm : w.length ≤ m + 1) (hf : klo n A w f) (h : kfin N0 Rs w.reverse = true) : ∀ u, cx_L n u → ∀ k, 0 ≤ f u k := by
  rcases List.eq_nil_or_concat w with e | ⟨v, s, e⟩
  · rw [e] at hf hw lw
    exact fun u hu k => hm [] f hw (by rw [lw]; exact Nat.zero_le _) hf u hu k
  · rw [List.concat_eq_append] at e
    rw [e] at hf hw lw h wm
    rw [List.length_append, List.length_singleton] at lw wm
    have vL : cx_L n v := fun q hq => hw q (List.mem_append_left _ hq)
    have sn : s < n := hw s (List.mem_append_right _ List.mem_cons_self)
    have l1 := cx_l_len (A := A) vL
    have hd : ¬ dn n A v s := fun h => by
      have := dn_1 hok vL sn h
      omega
    have up := up_1 hok vL sn hd
    have lv : cx_l n A v = v.length := by omega
    obtain ⟨g, hg⟩ := klo_ex hok _ v vL (Nat.le_refl _)
    rw [List.reverse_append] at h
    have h1 : kf0 (ktb N0 Rs 9) (Rs s) v.reverse.length (khl v.reverse) s (ktb N0 Rs 9 v.reverse) = true := h
    rw [List.length_reverse, ← lv] at h1
    exact kf0_ok hok hm m7 vL sn hd (by omega) hg (ktb_ok hok hm (by omega) hN hR 9 v vL lv (by omega) (by omega) g hg) (hR s sn) (by have h9 := kh_dn (r := v.reverse) hok (by rw [List.reverse_reverse]; exact vL) (by rw [List.reverse_reverse]; exact lv); rw [List.reverse_reverse] at h9; exact h9) (fun z z1 z2 z3 => by
      obtain ⟨h, hh⟩ := klo_ex hok _ z z1 (Nat.le_refl _)
      exact ⟨h, hh, ktb_ok hok hm (by omega) hN hR 9 z z1 z2 (by omega) (by omega) h hh⟩) hf h1
end S
