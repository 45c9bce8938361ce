/-! What is taken away, reckoned. -/
section S
variable {n : Nat} {A : Nat → Nat → Int} {s t m : Nat} {v x y z : List Nat} {g f : List Nat → Nat → Int} {T U : List (List kE)} {rc : List Nat → List (List kE)} {R : Nat × Nat} {fz : List Nat → List Nat → Nat → Int}
noncomputable def zF (n : Nat) (A : Nat → Nat → Int) (v : List Nat) (g : List Nat → Nat → Int) (rc : List Nat → List (List kE)) (z : List Nat) : kZ := (pk n A z, (mu n A g v z).toNat * 4294967296 ^ ((cx_l n A v + 1 - cx_l n A z) / 2), rc z.reverse)
def zsp (n : Nat) (A : Nat → Nat → Int) (v : List Nat) (g : List Nat → Nat → Int) (s : Nat) (rc : List Nat → List (List kE)) (Z : List kZ) (zs : List (List Nat)) : Prop := Z = zs.map (zF n A v g rc) ∧ (∀ z, z ∈ zs → cx_L n z ∧ sbe n A z v ∧ dn n A z s ∧ mu n A g v z ≠ 0 ∧ cx_l n A z = z.length) ∧ zs.Pairwise (fun a b => cx_g n A a ≠ cx_g n A b)
/-- an entry of the table at length l -/
def zen (n : Nat) (A : Nat → Nat → Int) (v : List Nat) (g : List Nat → Nat → Int) (l : Nat) (e : kE) : Prop := ∃ x, cx_L n x ∧ sbe n A x v ∧ x.length = l ∧ cx_l n A x = l ∧ e = (pk n A x, pv (g x), x.reverse)
theorem kza_ok (hok : cx_ok n A) (hn : ∀ u, cx_L n u → ∀ k, 0 ≤ g u k ∧ g u k < 4294967296) (hv : cx_L n v) (lv : cx_l n A v ≤ 8) (hge : klo n A v g) (sn : s < n) (ht : cx_l n A v ≠ 0 → t < n ∧ dn n A v t) {l : Nat} (hp : (cx_l n A v - l) % 2 = 1) {M : List kZ} {zs0 : List (List Nat)} (hM : zsp n A v g s rc M zs0) : ∀ (L : List kE), (∀ e, e ∈ L → zen n A v g l e) → ∃ zs, zsp n A v g s rc (kza rc (cx_l n A v) t l s L M) zs ∧ (∀ z, z ∈ zs0 → z ∈ zs) ∧ ∀ e, e ∈ L → ∀ x, cx_L n x → cx_l n A x = l → e.1 = pk n A x → dn n A x s → mu n A g v x ≠ 0 → ∃ z, z ∈ zs ∧ cx_g n A z = cx_g n A x := by
  intro L
  induction L with
  | nil => exact fun _ => ⟨zs0, hM, fun z hz => hz, fun e he => absurd he List.not_mem_nil⟩
  | cons a L ih =>
    intro hL
    obtain ⟨zs, i1, i2, i3⟩ := ih (fun e he => hL e (List.mem_cons_of_mem _ he))
    obtain ⟨x0, a1, a2, a3, a4, a5⟩ := hL a List.mem_cons_self
    have lx := (sbe_l hv a1 a2).1
    have j5 : (cx_l n A v - l - 1) / 2 < 5 := by omega
    have dg := pv_dg (p := g x0) (fun k _ => hn x0 a1 k) j5
    have emu : mu n A g v x0 = g x0 ((cx_l n A v - l - 1) / 2) := by
      unfold mu
      rw [a4, if_pos hp]
    have same : ∀ x, cx_L n x → cx_l n A x = l → a.1 = pk n A x → cx_g n A x0 = cx_g n A x := by
      intro x hx hl he
      rw [a5] at he
      exact pk_inj hok a1 hx (by omega) (by omega) he
    have skip : (∀ x, cx_L n x → cx_l n A x = l → a.1 = pk n A x → dn n A x s → mu n A g v x ≠ 0 → ∃ z, z ∈ zs ∧ cx_g n A z = cx_g n A x) → zsp n A v g s rc (kza rc (cx_l n A v) t l s (a :: L) M) zs → ∃ zs, zsp n A v g s rc (kza rc (cx_l n A v) t l s (a :: L) M) zs ∧ (∀ z, z ∈ zs0 → z ∈ zs) ∧ ∀ e, e ∈ a :: L → ∀ x, cx_L n x → cx_l n A x = l → e.1 = pk n A x → dn n A x s → mu n A g v x ≠ 0 → ∃ z, z ∈ zs ∧ cx_g n A z = cx_g n A x := by
      intro h1 h2
      refine ⟨zs, h2, i2, fun e he => ?_⟩
      rcases List.mem_cons.mp he with h | h
      · rw [h]
        exact h1
      · exact i3 e h
    have e00 : kza rc (cx_l n A v) t l s (a :: L) M = (Bool.rec (Bool.rec (frc (Nat.mod (Nat.shiftRight a.2.1 (Nat.mul 32 (Nat.div (Nat.sub (Nat.sub (cx_l n A v) l) 1) 2))) 4294967296) (fun m => (Bool.rec (Bool.rec ((a.1, Nat.mul m (Nat.pow 4294967296 (Nat.div (Nat.sub (Nat.succ (cx_l n A v)) l) 2)), rc a.2.2) :: kza rc (cx_l n A v) t l s L M) (kza rc (cx_l n A v) t l s L M) (kmm a.1 (kza rc (cx_l n A v) t l s L M))) (kza rc (cx_l n A v) t l s L M) (Nat.beq m 0) : List kZ))) (kza rc (cx_l n A v) t l s L M) (kas s a.1) : List kZ) (kza rc (cx_l n A v) t l s L M) (Bool.rec (kas t a.1) false (Nat.beq (Nat.succ l) (cx_l n A v)) : Bool) : List kZ) := rfl
    cases hflt : (Bool.rec (kas t a.1) false (Nat.beq (Nat.succ l) (cx_l n A v)) : Bool) with
    | true =>
      rw [hflt] at e00
      have e1 : kza rc (cx_l n A v) t l s (a :: L) M = kza rc (cx_l n A v) t l s L M := e00
      have nlv : Nat.succ l ≠ cx_l n A v := fun h => by
        rw [bq_t h] at hflt
        exact absurd (show false = true from hflt) (by decide)
      rw [bq_f nlv] at hflt
      have hk2 : kas t (pk n A x0) = true := by
        have h9 : kas t a.1 = true := hflt
        rw [a5] at h9
        exact h9
      have tP := ht (by omega)
      have nd := (kas_e hok a1 (by omega) tP.1).mp hk2
      refine skip (fun x hx hl he hd hm2 => ?_) (by rw [e1]; exact i1)
      have gx := same x hx hl he
      rcases mu_D hok hv hge hx (by omega) hm2 tP.1 tP.2 with h1 | h1
      · exact absurd ((dn_g gx t).mpr h1) nd
      · have l2 := cx_l_eq h1
        have l3 := dn_1 hok hv tP.1 tP.2
        omega
    | false =>
    rw [hflt] at e00
    have e0 : kza rc (cx_l n A v) t l s (a :: L) M = (Bool.rec (frc (Nat.mod (Nat.shiftRight a.2.1 (Nat.mul 32 (Nat.div (Nat.sub (Nat.sub (cx_l n A v) l) 1) 2))) 4294967296) (fun m => (Bool.rec (Bool.rec ((a.1, Nat.mul m (Nat.pow 4294967296 (Nat.div (Nat.sub (Nat.succ (cx_l n A v)) l) 2)), rc a.2.2) :: kza rc (cx_l n A v) t l s L M) (kza rc (cx_l n A v) t l s L M) (kmm a.1 (kza rc (cx_l n A v) t l s L M))) (kza rc (cx_l n A v) t l s L M) (Nat.beq m 0) : List kZ))) (kza rc (cx_l n A v) t l s L M) (kas s a.1) : List kZ) := e00
    rw [frc_e] at e0
    have eD : (Nat.mod (Nat.shiftRight a.2.1 (Nat.mul 32 (Nat.div (Nat.sub (Nat.sub (cx_l n A v) l) 1) 2))) 4294967296) = (mu n A g v x0).toNat := by
      rw [emu, ← dg, a5]
      rfl
    rw [eD] at e0
    have muN := (hn x0 a1 ((cx_l n A v - l - 1) / 2)).1
    rw [← emu] at muN
    cases hk : kas s a.1 with
    | true =>
      rw [hk] at e0
      have e1 : kza rc (cx_l n A v) t l s (a :: L) M = kza rc (cx_l n A v) t l s L M := e0
      have hk2 : kas s (pk n A x0) = true := by
        rw [a5] at hk
        exact hk
      have nd := (kas_e hok a1 (by omega) sn).mp hk2
      refine skip (fun x hx hl he hd _ => ?_) (by rw [e1]; exact i1)
      exact absurd ((dn_g (same x hx hl he) s).mpr hd) nd
    | false =>
      rw [hk] at e0
      have hk2 : kas s (pk n A x0) = false := by
        rw [a5] at hk
        exact hk
      have d0 : dn n A x0 s := Classical.byContradiction (fun h => by
        have := (kas_e hok a1 (by omega) sn).mpr h
        rw [hk2] at this
        exact absurd this (by decide))
      by_cases hmu : (mu n A g v x0).toNat = 0
      · rw [bq_t hmu] at e0
        have e1 : kza rc (cx_l n A v) t l s (a :: L) M = kza rc (cx_l n A v) t l s L M := e0
        refine skip (fun x hx hl he hd hm2 => ?_) (by rw [e1]; exact i1)
        have gx := same x hx hl he
        have : mu n A g v x0 = mu n A g v x := by
          unfold mu
          rw [hge.1 _ _ gx, cx_l_eq gx]
        omega
      · rw [bq_f hmu] at e0
        cases hkm : kmm a.1 (kza rc (cx_l n A v) t l s L M) with
        | true =>
          rw [hkm] at e0
          have e1 : kza rc (cx_l n A v) t l s (a :: L) M = kza rc (cx_l n A v) t l s L M := e0
          refine skip (fun x hx hl he hd hm2 => ?_) (by rw [e1]; exact i1)
          obtain ⟨ze, h1, h2⟩ := kmm_e.mp hkm
          rw [i1.1] at h1
          obtain ⟨z, h3, h4⟩ := List.mem_map.mp h1
          obtain ⟨b1, b2, b3, b4, b5⟩ := i1.2.1 z h3
          refine ⟨z, h3, pk_inj hok b1 hx (by have := (sbe_l hv b1 b2).1; omega) (by omega) ?_⟩
          rw [← he, ← h2, ← h4]
          rfl
        | false =>
          rw [hkm] at e0
          have e1 : kza rc (cx_l n A v) t l s (a :: L) M = (a.1, Nat.mul (mu n A g v x0).toNat (Nat.pow 4294967296 (Nat.div (Nat.sub (Nat.succ (cx_l n A v)) l) 2)), rc a.2.2) :: kza rc (cx_l n A v) t l s L M := e0
          refine ⟨x0 :: zs, ⟨?_, fun z hz => ?_, List.pairwise_cons.mpr ⟨fun z hz hg => ?_, i1.2.2⟩⟩, fun z hz => List.mem_cons_of_mem _ (i2 z hz), fun e he x hx hl h1 hd hm2 => ?_⟩
          · rw [e1, List.map_cons, ← i1.1]
            congr 1
            rw [a5]
            unfold zF
            rw [a4]
            rfl
          · rcases List.mem_cons.mp hz with h | h
            · rw [h]
              exact ⟨a1, a2, d0, fun h => hmu (by rw [h]; rfl), by rw [a4, a3]⟩
            · exact i1.2.1 z h
          · have : kmm a.1 (kza rc (cx_l n A v) t l s L M) = true := by
              refine kmm_e.mpr ⟨zF n A v g rc z, ?_, ?_⟩
              · rw [i1.1]
                exact List.mem_map.mpr ⟨z, hz, rfl⟩
              · rw [a5]
                exact (pk_g hg).symm
            rw [hkm] at this
            exact absurd this (by decide)
          · rcases List.mem_cons.mp he with h | h
            · rw [h] at h1
              exact ⟨x0, List.mem_cons_self, same x hx hl h1⟩
            · obtain ⟨z, z1, z2⟩ := i3 e h x hx hl h1 hd hm2
              exact ⟨z, List.mem_cons_of_mem _ z1, z2⟩
theorem kzl_ok (hok : cx_ok n A) (hn : ∀ u, cx_L n u → ∀ k, 0 ≤ g u k ∧ g u k < 4294967296) (hv : cx_L n v) (lv : cx_l n A v ≤ 8) (hge : klo n A v g) (sn : s < n) (ht : cx_l n A v ≠ 0 → t < n ∧ dn n A v t) : ∀ (T : List (List kE)) (l0 : Nat), (∀ (i : Nat) (e : kE), e ∈ kgt T i → zen n A v g (l0 + i) e) → ∃ zs, zsp n A v g s rc (kzl rc (cx_l n A v) t s T l0) zs ∧ ∀ (i : Nat) (e : kE), e ∈ kgt T i → ∀ x, cx_L n x → cx_l n A x = l0 + i → e.1 = pk n A x → dn n A x s → mu n A g v x ≠ 0 → ∃ z, z ∈ zs ∧ cx_g n A z = cx_g n A x := by
  intro T
  induction T with
  | nil => exact fun l0 _ => ⟨[], ⟨rfl, fun z hz => absurd hz List.not_mem_nil, List.Pairwise.nil⟩, fun i e he => absurd he List.not_mem_nil⟩
  | cons B T ih =>
    intro l0 hT
    obtain ⟨zs, i1, i2⟩ := ih (l0 + 1) (fun i e he => by
      have := hT (i + 1) e he
      rw [show l0 + (i + 1) = l0 + 1 + i by omega] at this
      exact this)
    have e0 : kzl rc (cx_l n A v) t s (B :: T) l0 = (Bool.rec (kzl rc (cx_l n A v) t s T (l0 + 1)) (kza rc (cx_l n A v) t l0 s B (kzl rc (cx_l n A v) t s T (l0 + 1))) (Nat.beq ((cx_l n A v - l0) % 2) 1) : List kZ) := rfl
    by_cases hp : (cx_l n A v - l0) % 2 = 1
    · rw [bq_t hp] at e0
      have e1 : kzl rc (cx_l n A v) t s (B :: T) l0 = kza rc (cx_l n A v) t l0 s B (kzl rc (cx_l n A v) t s T (l0 + 1)) := e0
      obtain ⟨zs', j1, j2, j3⟩ := kza_ok hok hn hv lv hge sn ht hp i1 B (fun e he => hT 0 e he)
      rw [e1]
      refine ⟨zs', j1, fun i e he x hx hl h1 hd hm => ?_⟩
      cases i with
      | zero => exact j3 e he x hx hl h1 hd hm
      | succ i =>
        obtain ⟨z, z1, z2⟩ := i2 i e he x hx (by omega) h1 hd hm
        exact ⟨z, j2 z z1, z2⟩
    · rw [bq_f hp] at e0
      have e1 : kzl rc (cx_l n A v) t s (B :: T) l0 = kzl rc (cx_l n A v) t s T (l0 + 1) := e0
      rw [e1]
      refine ⟨zs, i1, fun i e he x hx hl h1 hd hm => ?_⟩
      cases i with
      | zero =>
        refine absurd ?_ hm
        unfold mu
        rw [hl, Nat.add_zero, if_neg hp]
      | succ i => exact i2 i e he x hx (by omega) h1 hd hm
theorem pw_lds : ∀ {zs : List (List Nat)}, zs.Pairwise (fun a b => cx_g n A a ≠ cx_g n A b) → lds n A zs := by
  intro zs h i j a b ha hb hg
  obtain ⟨hi, ea⟩ := List.getElem?_eq_some_iff.mp ha
  obtain ⟨hj, eb⟩ := List.getElem?_eq_some_iff.mp hb
  have P := List.pairwise_iff_getElem.mp h
  rcases Nat.lt_trichotomy i j with h1 | h1 | h1
  · exact absurd (by rw [ea, eb]; exact hg) (P i j hi hj h1)
  · exact h1
  · exact absurd (by rw [ea, eb]; exact hg.symm) (P j i hj hi h1)
theorem zs_lvq (hT : tbs n A v g T) {Z : List kZ} {zs : List (List Nat)} (h1 : zsp n A v g s rc Z zs) (h2 : ∀ (i : Nat) (e : kE), e ∈ kgt T i → ∀ x, cx_L n x → cx_l n A x = 0 + i → e.1 = pk n A x → dn n A x s → mu n A g v x ≠ 0 → ∃ z, z ∈ zs ∧ cx_g n A z = cx_g n A x) : lvq n A (fun z => sbe n A z v ∧ dn n A z s ∧ mu n A g v z ≠ 0) zs := by
  refine ⟨pw_lds h1.2.2, fun i u hu => ?_, fun z zL hz => ?_⟩
  · obtain ⟨b1, b2, b3, b4, _⟩ := h1.2.1 u (List.mem_of_getElem? hu)
    exact ⟨b1, b2, b3, b4⟩
  · obtain ⟨e, he, e1⟩ := hT.2 z zL hz.1
    obtain ⟨z', z1, z2⟩ := h2 _ e he z zL (Nat.zero_add _).symm e1 hz.2.1 hz.2.2
    obtain ⟨i, hi⟩ := List.mem_iff_getElem?.mp z1
    exact ⟨i, z', hi, z2⟩
/-- P by what is taken away -/
theorem kl_sum (hok : cx_ok n A) (hv : cx_L n v) (sn : s < n) (hd : ¬ dn n A v s) (hg : klo n A v g) (hf : klo n A (v ++ [s]) f) {zs : List (List Nat)} (hz : lvq n A (fun z => sbe n A z v ∧ dn n A z s ∧ mu n A g v z ≠ 0) zs) (hfe : ∀ z z', cx_g n A z = cx_g n A z' → fz z = fz z') (hfz : ∀ z, cx_L n z → sbe n A z v → klo n A z (fz z)) (hy : cx_L n y) (k : Nat) : f y k = tau n A s g y k - lsm (fun z => lse n A s (v ++ [s]) v g fz z y k) zs := by
  have wL : cx_L n (v ++ [s]) := cx_L_app hv (cx_L_1 sn)
  have dw : dn n A (v ++ [s]) s := (dn_dn hok hv sn).mpr hd
  have ev := cx_g_sr hok sn v
  obtain ⟨Z, hZ⟩ := idl_ex (A := A) hv
  have K := klo_s hok wL sn dw (klo_g ev.symm hg) hZ (fun z _ h => (sbe_g2 ev).mp h) (fz := fz) (fun z zL _ hb => hfz z zL ((sbe_g2 ev).mp hb))
  rw [klo_un hok wL hf K (cx_l n A (v ++ [s])) y hy (by omega) k]
  show tau n A s g y k - lsm (fun z => lse n A s (v ++ [s]) (v ++ [s] ++ [s]) g fz z y k) Z = _
  have em : ∀ z, mu n A g (v ++ [s] ++ [s]) z = mu n A g v z := by
    intro z
    unfold mu
    rw [cx_l_eq ev]
  congr 1
  have e1 : lsm (fun z => lse n A s (v ++ [s]) (v ++ [s] ++ [s]) g fz z y k) Z = lsm (fun z => lse n A s (v ++ [s]) v g fz z y k) Z := by
    refine lsm_cg (fun i z _ => ?_)
    unfold lse
    rw [em]
  rw [e1]
  refine lsm_sup (fun a b hab => ?_) hZ hz (fun x _ h => h.1) (fun x hx h => ?_)
  · unfold lse mu
    rw [hfe a b hab, hg.1 a b hab, cx_l_eq hab]
    exact cii_cg (dn_g hab s) (fun _ => rfl) (fun _ => rfl)
  · refine lse_0 (fun h1 h2 => ?_)
    by_cases hb : sbe n A x v
    · exact absurd ⟨hb, h1, h2⟩ h
    · refine absurd ?_ h2
      unfold mu
      split
      · exact hg.2.1 x hx hb _
      · rfl
end S
