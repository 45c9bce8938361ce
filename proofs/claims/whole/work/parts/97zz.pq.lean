/-! The rows of Ideal hold P, where its numbers are in range. -/
/-- the numbers of P are in range -/
def kpm (n : Nat) (A : Nat → Nat → Int) (m : Nat) : Prop := ∀ (w : List Nat) (f : List Nat → Nat → Int), cx_L n w → cx_l n A w ≤ m → klo n A w f → ∀ u, cx_L n u → ∀ k, k < 5 → 0 ≤ f u k ∧ f u k ≤ 4095
/-- up to length 8 -/
def kpos (n : Nat) (A : Nat → Nat → Int) : Prop := kpm n A 8
theorem kpm_le {n : Nat} {A : Nat → Nat → Int} {m : Nat} (h : kpos n A) (hm : m ≤ 8) : kpm n A m := fun w f a b => h w f a (Nat.le_trans b hm)
/-- the row holds P -/
def pkQ (n : Nat) (A : Nat → Nat → Int) (W : List (List Nat)) (i : Nat) (R : Nat → Int64) : Prop := ∀ x, W[i]? = some x → ∃ f, klo n A x f ∧ ∀ (k : Nat) (u : List Nat), W[k]? = some u → R k = zJ (pk5 (f u))
theorem pk5_qs {g : Nat → Int} (h : g 4 = 0) : pk5 (qs g) = pk5 g * 4096 := by
  show (0 : Int) + g 0 * 4096 + g 1 * 16777216 + g 2 * 68719476736 + g 3 * 281474976710656 = _
  unfold pk5
  omega
theorem pk5_add (p q : Nat → Int) : pk5 (fun k => p k + q k) = pk5 p + pk5 q := by
  simp only [pk5]
  omega
theorem pk5_sub (p q : Nat → Int) : pk5 (fun k => p k - q k) = pk5 p - pk5 q := by
  simp only [pk5]
  omega
theorem pk5_mul (c : Int) (p : Nat → Int) : pk5 (fun k => c * p k) = c * pk5 p := by
  unfold pk5
  simp only [Int.mul_add, Int.mul_assoc]
theorem pk5_z {p : Nat → Int} (h : ∀ k, p k = 0) : pk5 p = 0 := by
  unfold pk5
  rw [h 0, h 1, h 2, h 3, h 4]
  rfl
theorem pk5_qn {g : Nat → Int} : ∀ d, (∀ j, 5 ≤ j + d → g j = 0) → pk5 (qn d g) = pk5 g * ((4096 ^ d : Nat) : Int) := by
  intro d
  induction d with
  | zero => exact fun _ => (Int.mul_one _).symm
  | succ d ih =>
    intro h
    have h4 : qn d g 4 = 0 := by
      rw [qn_at]
      by_cases hd : 4 < d
      · rw [if_pos hd]
      · rw [if_neg hd]
        exact h (4 - d) (by omega)
    show pk5 (qs (qn d g)) = _
    rw [pk5_qs h4, ih (fun j hj => h j (by omega)), Nat.pow_succ, Int.natCast_mul, Int.mul_assoc]
    rfl
theorem zI_J2 {z : Int} (h1 : 0 ≤ z) (h2 : z ≤ 4095) : (zI z).toInt64 = zJ z := Int32.toInt64_ofInt (by have : Int32.minValue.toInt = -2147483648 := rfl; omega) (by have : Int32.maxValue.toInt = 2147483647 := rfl; omega)
theorem zI_z0 {z : Int} (h1 : 0 ≤ z) (h2 : z ≤ 4095) (h : mc1 .eq (zI z) = true) : z = 0 := by
  obtain ⟨M, rfl⟩ : ∃ M : Nat, z = (M : Int) := ⟨z.toNat, by omega⟩
  rw [zI_n] at h
  have h' : nI M = nI 0 := by
    unfold mc1 at h
    exact of_decide_eq_true h
  have := (nI_eq (by omega) (by omega)).mp h'
  omega
section S
variable {n : Nat} {A : Nat → Nat → Int} {W : List (List Nat)} {y z w u : List Nat} {f : List Nat → Nat → Int}
theorem klo_g (hg : cx_g n A z = cx_g n A w) (h : klo n A z f) : klo n A w f := by
  obtain ⟨h1, h2, h3, h4, h5⟩ := h
  refine ⟨h1, fun u hu hb => h2 u hu (fun hh => hb ((sbe_g2 hg).mp hh)), fun k => ?_, fun u hu hne k hk => h4 u hu (fun e => hne (e.trans hg)) k (by rw [cx_l_eq hg]; exact hk), fun L hL => ?_⟩
  · rw [← h1 z w hg]
    exact h3 k
  · rw [← cx_l_eq hg]
    exact h5 L ⟨hL.1, fun i u hu => ⟨(hL.2.1 i u hu).1, (sbe_g2 hg).mpr (hL.2.1 i u hu).2⟩, fun q hq hb => hL.2.2 q hq ((sbe_g2 hg).mp hb)⟩
theorem klo_hi (h : klo n A z f) (hu : cx_L n u) {j : Nat} (hj : 1 ≤ j) (hl : cx_l n A z ≤ 2 * j) : f u j = 0 := by
  by_cases hg : cx_g n A u = cx_g n A z
  · rw [h.1 u z hg, h.2.2.1 j, if_neg (by omega)]
  · exact h.2.2.2.1 u hu hg j (by omega)
/-- the leaning that the class reads -/
theorem lea_mu {m : Nat} (hp : kpm n A m) (m8 : m ≤ 8) (hw : cx_L n w) (hl : cx_l n A w ≤ m) (h : klo n A w f) (hu : cx_L n u) : leaV (cx_l n A w) (cx_l n A u) (zJ (pk5 (f u))) = zI (mu n A f w u) ∧ 0 ≤ mu n A f w u ∧ mu n A f w u ≤ 4095 := by
  unfold leaV mu
  by_cases hc : cx_l n A w < cx_l n A u ∨ (cx_l n A w - cx_l n A u) % 2 = 0
  · rw [if_pos hc, if_neg (by omega)]
    exact ⟨rfl, by omega, by omega⟩
  · rw [if_neg hc, if_pos (by omega)]
    have hb := fun k hk => hp w f hw hl h u hu k hk
    exact ⟨pk5_cof hb (by omega), hb _ (by omega)⟩
theorem pkQ_f (hok : cx_ok n A) (yL : cx_L n y) (yl : cx_l n A y = y.length) (y8 : y.length ≤ 8) (hA : bqA n A y W) (hp : kpm n A y.length) : filQ n A W (pkQ n A W) := by
  have hI := bqA_idl hok yL yl hA
  have L8 : ∀ (i : Nat) (u : List Nat), W[i]? = some u → cx_L n u ∧ sbe n A u y ∧ cx_l n A u ≤ y.length := fun i u hu => by
    have a1 := (hI.2.1 i u hu).1
    have a2 := (hI.2.1 i u hu).2
    have := (sbe_l yL a1 a2).1
    exact ⟨a1, a2, by omega⟩
  refine ⟨fun i r r' hr hq x hx => ?_, fun i u r hu hno hr x hx => ?_, fun i j t u z S T hu hz ht hd hgz hS hT0 hT x hx => ?_⟩
  · obtain ⟨f, h1, h2⟩ := hq x hx
    exact ⟨f, h1, fun k u hu => by rw [hr k (List.getElem?_eq_some_iff.mp hu).1]; exact h2 k u hu⟩
  · rw [hu] at hx
    cases hx
    have uL := (L8 i u hu).1
    have u0 : cx_l n A u = 0 := by
      by_cases h0 : cx_l n A u = 0
      · exact h0
      · obtain ⟨t, ht, hd⟩ := cx_ex_dn hok uL h0
        exact absurd hd (hno t ht)
    refine ⟨_, klo_0 hok uL u0, fun k v hv => ?_⟩
    have kl := (List.getElem?_eq_some_iff.mp hv).1
    have kv := klo_0 hok uL u0
    rw [hr k kl]
    by_cases hki : k = i
    · subst hki
      rw [hu] at hv
      cases hv
      rw [if_pos rfl, pk5_cg (q := fun j => if j = 0 then 1 else 0) (fun j _ => kv.2.2.1 j)]
      rfl
    · rw [if_neg hki, pk5_z (fun j => kv.2.1 v (L8 k v hv).1 (fun hb => ?_) j)]
      · rfl
      · have q := sbe_l uL (L8 k v hv).1 hb
        exact hki (hI.1 k i v u hv hu (q.2 (by omega)))
  · rw [hu] at hx
    cases hx
    have uL := (L8 i u hu).1
    have vL : cx_L n (u ++ [t]) := cx_L_app uL (cx_L_1 ht)
    have vl := dn_1 hok uL ht hd
    have u8 := (L8 i u hu).2.2
    have lz : cx_l n A z = cx_l n A (u ++ [t]) := cx_l_eq hgz
    obtain ⟨f, kf0, hf⟩ := hS z hz
    have kf := klo_g hgz kf0
    have hzz : ∀ q : List Nat, ∃ g, cx_L n q → klo n A q g := fun q => by
      by_cases hq : cx_L n q
      · obtain ⟨g, hg⟩ := klo_ex hok _ q hq (Nat.le_refl _)
        exact ⟨g, fun _ => hg⟩
      · exact ⟨fun _ _ => 0, fun hh => absurd hh hq⟩
    obtain ⟨fz, kfz⟩ : ∃ fz : List Nat → List Nat → Nat → Int, ∀ q, cx_L n q → klo n A q (fz q) := ⟨fun q => Classical.choose (hzz q), fun q hq => Classical.choose_spec (hzz q) hq⟩
    have vy : sbe n A (u ++ [t]) y := sbe_tr hok vL uL yL (sbe_ws hok uL ht hd) (L8 i u hu).2.1
    have K := klo_s hok uL ht hd kf hI (fun q hq hb => sbe_tr hok hq vL yL hb vy) (fz := fz) (fun q hq _ _ => kfz q hq)
    refine ⟨_, K, fun k v hv => ?_⟩
    have vvL := (L8 k v hv).1
    have vtL : cx_L n (v ++ [t]) := cx_L_app vvL (cx_L_1 ht)
    have key : ∀ m, m ≤ W.length → T m k = zJ (pk5 (fun j => tau n A t f v j - cx_sum m (fun i => lse n A t u (u ++ [t]) f fz (W.getD i []) v j))) := by
      intro m
      induction m with
      | zero =>
        intro _
        obtain ⟨r, hr, hT⟩ := hT0 k v hv
        have er : r = zJ (pk5 (f (v ++ [t]))) := by
          rcases hr with ⟨m, x, m1, m2, m3⟩ | ⟨m1, m3⟩
          · rw [m3, hf m x m1, kf.1 x _ m2]
          · rw [m3, pk5_z (fun j => kf.2.1 _ vtL (fun hb => ?_) j)]
            · rfl
            · obtain ⟨m, x, e1, e2⟩ := hI.2.2 _ vtL (sbe_tr hok vtL vL yL hb vy)
              exact m1 m x e1 e2
        have e0 : pk5 (fun j => tau n A t f v j - cx_sum 0 (fun i => lse n A t u (u ++ [t]) f fz (W.getD i []) v j)) = pk5 (tau n A t f v) := pk5_cg (fun j _ => Int.sub_zero _)
        rw [e0]
        rcases hT with ⟨nd, hT⟩ | ⟨hdv, hT⟩
        · rw [hT, er, hf k v hv, s12_z, zJ_add, ← pk5_qs (klo_hi kf vtL (by omega) (by omega)), ← pk5_add]
          congr 1
          refine pk5_cg (fun j _ => ?_)
          unfold tau
          rw [cii_n nd]
          exact Int.add_comm _ _
        · rw [hT, er, hf k v hv, s12_z, zJ_add, ← pk5_qs (klo_hi kf vvL (by omega) (by omega)), ← pk5_add]
          congr 1
          refine pk5_cg (fun j _ => ?_)
          unfold tau
          rw [cii_p hdv]
      | succ m ih =>
        intro hm
        have ih := ih (by omega)
        have hq := gd_ex (show m < W.length by omega)
        have es : pk5 (fun j => tau n A t f v j - cx_sum (m + 1) (fun i => lse n A t u (u ++ [t]) f fz (W.getD i []) v j)) = pk5 (fun j => tau n A t f v j - cx_sum m (fun i => lse n A t u (u ++ [t]) f fz (W.getD i []) v j)) - pk5 (fun j => lse n A t u (u ++ [t]) f fz (W.getD m []) v j) := by
          rw [← pk5_sub]
          refine pk5_cg (fun j _ => ?_)
          show _ - (cx_sum m (fun i => lse n A t u (u ++ [t]) f fz (W.getD i []) v j) + lse n A t u (u ++ [t]) f fz (W.getD m []) v j) = _
          omega
        rw [es]
        generalize W.getD m [] = q at hq
        generalize pk5 (fun j => tau n A t f v j - cx_sum m (fun i => lse n A t u (u ++ [t]) f fz (W.getD i []) v j)) = a at *
        have qL := (L8 m q hq).1
        obtain ⟨l1, l2, l3⟩ := lea_mu hp y8 vL (by omega) kf qL
        rw [← hf m q hq, ← lz] at l1
        have kl := (List.getElem?_eq_some_iff.mp hv).1
        rcases hT m q hq with ⟨s1, s2⟩ | ⟨s1, s2, r, s3, s4⟩
        · rw [s2 k kl, ih]
          have : pk5 (fun j => lse n A t u (u ++ [t]) f fz q v j) = 0 := pk5_z (fun j => by
            unfold lse
            by_cases hdq : dn n A q t
            · have h0 := s1 hdq
              rw [l1] at h0
              rw [cii_p hdq, zI_z0 l2 l3 h0, Int.zero_mul]
            · rw [cii_n hdq])
          rw [this, Int.sub_zero]
        · have hlt := lea_lt s2
          obtain ⟨g, kg, hg⟩ := s3 q hq
          have eg : r k = zJ (pk5 (fz q v)) := by
            rw [hg k v hv]
            congr 1
            exact pk5_cg (fun j _ => klo_un hok qL kg (kfz q qL) (cx_l n A q) v vvL (by omega) j)
          have eL : pk5 (fun j => lse n A t u (u ++ [t]) f fz q v j) = mu n A f (u ++ [t]) q * (pk5 (fz q v) * ((4096 ^ ((cx_l n A u - cx_l n A q) / 2) : Nat) : Int)) := by
            rw [← pk5_qn _ (fun j hj => ?_), ← pk5_mul]
            · refine pk5_cg (fun j _ => ?_)
              unfold lse
              rw [cii_p s1]
            · exact klo_hi (kfz q qL) vvL (by omega) (by omega)
          rw [s4 k kl, ih, eg, l1, zI_J2 l2 l3, zJ_mul, shl_z _ (by omega), zJ_sub, eL, Int.mul_comm (pk5 (fz q v)) (mu n A f (u ++ [t]) q), Int.mul_assoc]
    exact key W.length (Nat.le_refl _)
end S
