/-! The class: Ideal, coefficient, leaning, spread and lessen. -/
/-- coefficient -/
def cofV (v : Int64) (k : Int32) : Int32 := if mc1 .lt k = true then 0 else if mc2 .le k 4 = true then ((v >>> ((12 * k).toInt64 &&& 63)).toInt32) &&& 4095 else 0
/-- the leaning that the class reads -/
def leaV (a c : Nat) (v : Int64) : Int32 := if a < c ∨ (a - c) % 2 = 0 then 0 else cofV v (nI ((a - c - 1) / 2))
def s12 (v : Int64) : Int64 := v <<< ((12 : Int32).toInt64 &&& 63)
theorem ln_lt : ∀ a, a < 9 → ∀ c, c < 9 → (mc1 .lt (nI a - nI c) = true ↔ a < c) := by decide +kernel
theorem ln_od : ∀ a, a < 9 → ∀ c, c < 9 → c ≤ a → (mc1 .ne ((nI a - nI c) - (nI a - nI c) / 2 * 2) = true ↔ ¬ (a - c) % 2 = 0) := by decide +kernel
theorem ln_hf : ∀ a, a < 9 → ∀ c, c < 9 → c < a → ((nI a - nI c) - 1) / 2 = nI ((a - c - 1) / 2) := by decide +kernel
theorem ln_sh : ∀ a, a < 9 → ∀ c, c < 9 → c ≤ a → 12 * ((nI a - nI c) / 2) = nI (12 * ((a - c) / 2)) := by decide +kernel
theorem c_256 : (256 : Int32) = nI 256 := rfl
theorem shf_at {n q M : Nat} {A : Nat → Nat → Int} {ws : List (List Nat)} {I I' : hI} {J J' : hJ} (h : shf n A ws q M I J) (e0 : I' q = I q) (e2 : I' (q + 2) = I (q + 2)) (e3 : I' (q + 3) = I (q + 3)) (e4 : I' (q + 4) = I (q + 4)) (e1 : J' (q + 1) = J (q + 1)) : shf n A ws q M I' J' := by
  unfold shf sfb sfc sfh at *
  rw [e0, e1, e2, e3, e4]
  exact h
/-- what spread writes at the k-th element u, from the row R -/
def sprT (n : Nat) (A : Nat → Nat → Int) (W : List (List Nat)) (R : Nat → Int64) (u : List Nat) (t k : Nat) (v : Int64) : Prop := ∃ r : Int64, ((∃ (m : Nat) (x : List Nat), W[m]? = some x ∧ cx_g n A x = cx_g n A (u ++ [t]) ∧ r = R m) ∨ ((∀ (m : Nat) (x : List Nat), W[m]? = some x → cx_g n A x ≠ cx_g n A (u ++ [t])) ∧ r = 0)) ∧ ((¬ dn n A u t ∧ v = R k + s12 r) ∨ (dn n A u t ∧ v = r + s12 (R k)))
section S
variable {l s d : Value} {tl : List hQ} {F : Nat} {I : hI} {J : hJ} {n b : Nat} {A : Nat → Nat → Int} {W : List (List Nat)} {y : List Nat}
theorem icof_e (v : Int64) (k : Int32) (hp : List mE) : e4 F v k hp = some (cofV v k, hp) := by
  show m4_0 F v k hp = _
  unfold m4_0 cofV
  by_cases h1 : mc1 .lt k = true
  · rw [if_pos h1, if_pos h1]
    rfl
  · rw [if_neg h1, if_neg h1]
    by_cases h2 : mc2 .le k 4 = true
    · rw [if_pos h2, if_pos h2]
      rfl
    · rw [if_neg h2, if_neg h2]
      rfl
/-- leaningOf -/
theorem ilea_e (h : idS (hs l s d tl) b) (hsh : shf n A W (b + 5) 256 I J) (hl8 : ∀ (i : Nat) (u : List Nat), W[i]? = some u → cx_l n A u ≤ 8) {i j : Nat} {u w : List Nat} (hu : W[i]? = some u) (hw : W[j]? = some w) : e12 F b (nI i) (nI j) (mkH (hs l s d tl) I J) = some (leaV (cx_l n A w) (cx_l n A u) (J (b + 3) (j * 256 + i)), (mkH (hs l s d tl) I J)) := by
  have hS := h.2.2.2.2.2
  obtain ⟨hb, hc, hin⟩ := id hsh
  have hlen := hc.1
  have hil := (List.getElem?_eq_some_iff.mp hu).1
  have hjl := (List.getElem?_eq_some_iff.mp hw).1
  obtain ⟨uL, u31, uw, ul⟩ := hc.2.2 i u hu
  obtain ⟨wL, w31, ww, wl⟩ := hc.2.2 j w hw
  have u8 := hl8 i u hu
  have w8 := hl8 j w hw
  show m12_0 F b _ _ _ = _
  unfold m12_0
  rw [id2 h, Option.bind_some, s4 hS, Option.bind_some, rdI_H hS.2.2.1 (by omega) (by omega), Option.bind_some, wl, Option.bind_some, s4 hS, Option.bind_some, rdI_H hS.2.2.1 (by omega) (by omega), Option.bind_some, ul]
  generalize hca : cx_l n A w = a at *
  generalize hcc : cx_l n A u = c at *
  unfold leaV
  have k1 := ln_lt a (by omega) c (by omega)
  by_cases h1 : a < c
  · rw [if_pos (k1.mpr h1), if_pos (Or.inl h1)]
    rfl
  · rw [if_neg (fun hh => h1 (k1.mp hh))]
    have k2 := ln_od a (by omega) c (by omega) (by omega)
    by_cases h2 : (a - c) % 2 = 0
    · rw [if_neg (fun hh => (k2.mp hh) h2), if_pos (Or.inr h2)]
      rfl
    · have k3 := ln_hf a (by omega) c (by omega) (by omega)
      have h3 : ¬ (a < c ∨ (a - c) % 2 = 0) := fun hh => hh.elim h1 h2
      rw [if_pos (k2.mpr h2), if_neg h3, id5 h, Option.bind_some, k3, c_256, pk_mul, nI_add, rdJ_H h.2.2.2.1 (by omega) (by omega), Option.bind_some, icof_e, Option.bind_some]
      rfl
/-- spread -/
theorem ispr_e (h : idS (hs l s d tl) b) (hb54 : 54 ≤ b) (hg : cl_n n A I) (hF : 9000 ≤ F) (hsh : shf n A W (b + 5) 256 I J) (hl8 : ∀ (i : Nat) (u : List Nat), W[i]? = some u → cx_l n A u ≤ 8) (hbm : bmT n A W b I) {i j t : Nat} (hi : i < W.length) (hj : j < W.length) (hij : i ≠ j) (ht : t < n) : ∃ (I' : hI) (J' : hJ), e11 F b (nI i) (nI j) (nI t) (mkH (hs l s d tl) I J) = some ((), (mkH (hs l s d tl) I' J')) ∧ bmT n A W b I' ∧ (∀ c, c ≠ b + 2 → I' c = I c) ∧ (∀ c, c ≠ b + 1 → c ≠ b + 3 → J' c = J c) ∧ (∀ q, q < i * 256 ∨ i * 256 + 256 ≤ q → J' (b + 3) q = J (b + 3) q) ∧ ∀ (k : Nat) (u : List Nat), W[k]? = some u → sprT n A W (fun m => J (b + 3) (j * 256 + m)) u t k (J' (b + 3) (i * 256 + k)) := by
  have hS := h.2.2.2.2.2
  have hok := hg.1
  have hn5 := hg.2.2.1
  have hlen := hsh.2.1.1
  refine lpc (σ := hI × hJ) (R := Option (Unit × List mE)) (fun f k M => m11_3 F f b (nI i) (nI j) (nI t) (nI k) (mkH (hs l s d tl) M.1 M.2)) W.length (fun k M => bmT n A W b M.1 ∧ (∀ c, c ≠ b + 2 → M.1 c = I c) ∧ (∀ c, c ≠ b + 1 → c ≠ b + 3 → M.2 c = J c) ∧ (∀ q, q < i * 256 ∨ i * 256 + 256 ≤ q → M.2 (b + 3) q = J (b + 3) q) ∧ ∀ (k' : Nat) (u : List Nat), k' < k → W[k']? = some u → sprT n A W (fun m => J (b + 3) (j * 256 + m)) u t k' (M.2 (b + 3) (i * 256 + k'))) (fun r => ∃ (I' : hI) (J' : hJ), r = some ((), (mkH (hs l s d tl) I' J')) ∧ bmT n A W b I' ∧ (∀ c, c ≠ b + 2 → I' c = I c) ∧ (∀ c, c ≠ b + 1 → c ≠ b + 3 → J' c = J c) ∧ (∀ q, q < i * 256 ∨ i * 256 + 256 ≤ q → J' (b + 3) q = J (b + 3) q) ∧ ∀ (k : Nat) (u : List Nat), W[k]? = some u → sprT n A W (fun m => J (b + 3) (j * 256 + m)) u t k (J' (b + 3) (i * 256 + k))) ?_ ?_ F 0 (I, J) (by omega) (by omega) ⟨hbm, fun _ _ => rfl, fun _ _ _ => rfl, fun _ _ => rfl, fun k' _ hk' _ => by omega⟩
  · rintro f ⟨K, M⟩ ⟨p1, p2, p3, p4, p5⟩
    have p2 : ∀ c, c ≠ b + 2 → K c = I c := p2
    have kc : K (b + 5) 2 = nI W.length := by rw [p2 (b + 5) (by omega)]; exact hsh.2.1.2.1
    refine ⟨K, M, ?_, p1, p2, p3, p4, fun k u hu => p5 k u (List.getElem?_eq_some_iff.mp hu).1 hu⟩
    show m11_3 F (f + 1) b (nI i) (nI j) (nI t) (nI W.length) (mkH (hs l s d tl) K M) = _
    rw [m11_3, id2 h, Option.bind_some, s2 hS, Option.bind_some, kc, if_pos (show mc2 .ge (nI W.length) (nI W.length) = true by rw [c_ge (by omega) (by omega)]; omega)]
  · rintro f k ⟨K, M⟩ hk ⟨p1, p2, p3, p4, p5⟩
    right
    have p2 : ∀ c, c ≠ b + 2 → K c = I c := p2
    have p3 : ∀ c, c ≠ b + 1 → c ≠ b + 3 → M c = J c := p3
    have p4 : ∀ q, q < i * 256 ∨ i * 256 + 256 ≤ q → M (b + 3) q = J (b + 3) q := p4
    have shK : shf n A W (b + 5) 256 K M := shf_at hsh (p2 _ (by omega)) (p2 _ (by omega)) (p2 _ (by omega)) (p2 _ (by omega)) (p3 _ (by omega) (by omega))
    have gK : cl_n n A K := cl_fr hg (p2 _ (by omega)) (p2 _ (by omega))
    have hu := gd_ex hk
    generalize W.getD k [] = u at hu
    obtain ⟨v, I2, J2, e1, r1, r2, r3, r4⟩ := nb_e (F := F) h hb54 gK hF shK (fun i u hu => by have := hl8 i u hu; omega) p1 hu ht
    have q2 : ∀ c, c ≠ b + 2 → I2 c = I c := fun c hc => (r3 c hc).trans (p2 c hc)
    have sh2 : shf n A W (b + 5) 256 I2 J2 := shf_at shK (r3 _ (by omega)) (r3 _ (by omega)) (r3 _ (by omega)) (r3 _ (by omega)) (r4 _ (by omega))
    have rd : ∀ m, m < W.length → J2 (b + 3) (j * 256 + m) = J (b + 3) (j * 256 + m) := fun m hm => by
      rw [r4 (b + 3) (by omega)]
      exact p4 _ (by omega)
    have nr : ∃ r : Int64, ((∃ (m : Nat) (x : List Nat), W[m]? = some x ∧ cx_g n A x = cx_g n A (u ++ [t]) ∧ r = J (b + 3) (j * 256 + m)) ∨ ((∀ (m : Nat) (x : List Nat), W[m]? = some x → cx_g n A x ≠ cx_g n A (u ++ [t])) ∧ r = 0)) ∧ m11_3 F (f + 1) b (nI i) (nI j) (nI t) (nI k) (mkH (hs l s d tl) K M) = m11_62 F (m11_3 F f) b (nI i) (nI j) (nI t) (nI k) (J (b + 3) (j * 256 + k)) r (mkH (hs l s d tl) I2 J2) := by
      have pre : m11_3 F (f + 1) b (nI i) (nI j) (nI t) (nI k) (mkH (hs l s d tl) K M) = if mc2 .ne v (-1) = true then (rdJ (mkH (hs l s d tl) I2 J2) (b + 3) ((nI j * 256) + v)).bind fun x10 => m11_62 F (m11_3 F f) b (nI i) (nI j) (nI t) (nI k) (J (b + 3) (j * 256 + k)) x10 (mkH (hs l s d tl) I2 J2) else m11_62 F (m11_3 F f) b (nI i) (nI j) (nI t) (nI k) (J (b + 3) (j * 256 + k)) 0 (mkH (hs l s d tl) I2 J2) := by
        rw [m11_3, id2 h, Option.bind_some, s2 hS, Option.bind_some, shK.2.1.2.1, if_neg (show ¬ mc2 .ge (nI k) (nI W.length) = true by rw [c_ge (by omega) (by omega)]; omega), idr h, Option.bind_some, e1, Option.bind_some, id5 h, Option.bind_some, c_256, pk_mul, nI_add, rdJ_H h.2.2.2.1 (by omega) (by omega), Option.bind_some, rd k hk, Option.bind_some]
      rcases r1 with ⟨m, x, m1, m2, rfl⟩ | ⟨m1, rfl⟩
      · have hml := (List.getElem?_eq_some_iff.mp m1).1
        refine ⟨J (b + 3) (j * 256 + m), Or.inl ⟨m, x, m1, m2, rfl⟩, ?_⟩
        rw [pre, if_pos (show mc2 .ne (nI m) (-1) = true by rw [g_ne]; exact Ne.symm (gI_nI (k := 1) (by omega) (by omega) (by omega))), c_256, pk_mul, nI_add, rdJ_H h.2.2.2.1 (by omega) (by omega), Option.bind_some, rd m hml]
      · refine ⟨0, Or.inr ⟨m1, rfl⟩, ?_⟩
        rw [pre, if_neg (show ¬ mc2 .ne (gI 1) (-1) = true by decide)]
    obtain ⟨r, hr, e2⟩ := nr
    have wr : ∀ v : Int64, m11_108 F (m11_3 F f) b (nI i) (nI j) (nI t) (nI k) (b + 3) ((nI i * 256) + nI k) v (mkH (hs l s d tl) I2 J2) = m11_3 F f b (nI i) (nI j) (nI t) (nI (k + 1)) (mkH (hs l s d tl) I2 (upJ J2 (b + 3) (i * 256 + k) v)) := by
      intro v
      unfold m11_108
      rw [c_256, pk_mul, nI_add, wrJ_H h.2.2.2.1 (by omega) (by omega), Option.bind_some, n_1, nI_add]
    have fin : ∃ v : Int64, sprT n A W (fun m => J (b + 3) (j * 256 + m)) u t k v ∧ m11_62 F (m11_3 F f) b (nI i) (nI j) (nI t) (nI k) (J (b + 3) (j * 256 + k)) r (mkH (hs l s d tl) I2 J2) = m11_3 F f b (nI i) (nI j) (nI t) (nI (k + 1)) (mkH (hs l s d tl) I2 (upJ J2 (b + 3) (i * 256 + k) v)) := by
      unfold m11_62
      rw [id5 h, Option.bind_some, id2 h, Option.bind_some, sr hS, Option.bind_some]
      rcases ib_e (F := F) hS hok hn5 sh2.2.1 hu ht with ⟨e3, hd⟩ | ⟨e3, hd⟩
      · refine ⟨r + s12 (J (b + 3) (j * 256 + k)), ⟨r, hr, Or.inr ⟨hd, rfl⟩⟩, ?_⟩
        rw [e3, Option.bind_some, if_neg (show ¬ mc1 .eq (nI 1) = true by decide)]
        exact wr _
      · refine ⟨J (b + 3) (j * 256 + k) + s12 r, ⟨r, hr, Or.inl ⟨hd, rfl⟩⟩, ?_⟩
        rw [e3, Option.bind_some, if_pos (show mc1 .eq (nI 0) = true by decide)]
        exact wr _
    obtain ⟨v, hv, e4⟩ := fin
    refine ⟨(I2, upJ J2 (b + 3) (i * 256 + k) v), e2.trans e4, r2, q2, fun c a1 a2 => ?_, fun q hq => ?_, fun k' u' hk' hu' => ?_⟩
    · show upJ J2 (b + 3) (i * 256 + k) v c = J c
      rw [upJ_ne a2, r4 c a1]
      exact p3 c a1 a2
    · show upJ J2 (b + 3) (i * 256 + k) v (b + 3) q = _
      rw [upJ_at, if_neg (by omega), r4 (b + 3) (by omega)]
      exact p4 q hq
    · show sprT n A W _ u' t k' (upJ J2 (b + 3) (i * 256 + k) v (b + 3) (i * 256 + k'))
      rw [upJ_at]
      by_cases hkk : k' = k
      · subst hkk
        rw [if_pos rfl]
        rw [hu] at hu'
        cases hu'
        exact hv
      · rw [if_neg (by omega), r4 (b + 3) (by omega)]
        exact p5 k' u' (by omega) hu'
/-- lessen -/
theorem iles_e (h : idS (hs l s d tl) b) (hF : 9000 ≤ F) (hsh : shf n A W (b + 5) 256 I J) (hl8 : ∀ (i : Nat) (u : List Nat), W[i]? = some u → cx_l n A u ≤ 8) {i j : Nat} {w z : List Nat} (hw : W[i]? = some w) (hz : W[j]? = some z) (hij : i ≠ j) (hlz : cx_l n A z ≤ cx_l n A w) {m : Int32} : ∃ J' : hJ, e13 F b (nI i) (nI j) m (mkH (hs l s d tl) I J) = some ((), (mkH (hs l s d tl) I J')) ∧ (∀ c, c ≠ b + 3 → J' c = J c) ∧ (∀ q, q < i * 256 ∨ i * 256 + 256 ≤ q → J' (b + 3) q = J (b + 3) q) ∧ ∀ k, k < W.length → J' (b + 3) (i * 256 + k) = J (b + 3) (i * 256 + k) - ((J (b + 3) (j * 256 + k) * m.toInt64) <<< ((nI (12 * ((cx_l n A w - cx_l n A z) / 2))).toInt64 &&& 63)) := by
  have hS := h.2.2.2.2.2
  have hlen := hsh.2.1.1
  have hil := (List.getElem?_eq_some_iff.mp hw).1
  have hjl := (List.getElem?_eq_some_iff.mp hz).1
  obtain ⟨-, -, -, wl⟩ := hsh.2.1.2.2 i w hw
  obtain ⟨-, -, -, zl⟩ := hsh.2.1.2.2 j z hz
  have w8 := hl8 i w hw
  have e0 : e13 F b (nI i) (nI j) m (mkH (hs l s d tl) I J) = m13_29 F F b (nI i) (nI j) m (nI (12 * ((cx_l n A w - cx_l n A z) / 2))) (nI 0) (mkH (hs l s d tl) I J) := by
    show m13_0 F b _ _ _ _ = _
    unfold m13_0
    rw [id2 h, Option.bind_some, s4 hS, Option.bind_some, rdI_H hS.2.2.1 (by omega) (by omega), Option.bind_some, wl, Option.bind_some, s4 hS, Option.bind_some, rdI_H hS.2.2.1 (by omega) (by omega), Option.bind_some, zl, ln_sh _ (by omega) _ (by omega) hlz]
    rfl
  rw [e0]
  generalize nI (12 * ((cx_l n A w - cx_l n A z) / 2)) = g
  refine lpc (σ := hJ) (R := Option (Unit × List mE)) (fun f k M => m13_29 F f b (nI i) (nI j) m g (nI k) (mkH (hs l s d tl) I M)) W.length (fun k M => (∀ c, c ≠ b + 3 → M c = J c) ∧ (∀ q, q < i * 256 ∨ i * 256 + 256 ≤ q → M (b + 3) q = J (b + 3) q) ∧ (∀ k', k' < k → M (b + 3) (i * 256 + k') = J (b + 3) (i * 256 + k') - ((J (b + 3) (j * 256 + k') * m.toInt64) <<< (g.toInt64 &&& 63))) ∧ ∀ k', k ≤ k' → M (b + 3) (i * 256 + k') = J (b + 3) (i * 256 + k')) (fun r => ∃ J' : hJ, r = some ((), (mkH (hs l s d tl) I J')) ∧ (∀ c, c ≠ b + 3 → J' c = J c) ∧ (∀ q, q < i * 256 ∨ i * 256 + 256 ≤ q → J' (b + 3) q = J (b + 3) q) ∧ ∀ k, k < W.length → J' (b + 3) (i * 256 + k) = J (b + 3) (i * 256 + k) - ((J (b + 3) (j * 256 + k) * m.toInt64) <<< (g.toInt64 &&& 63))) ?_ ?_ F 0 J (by omega) (by omega) ⟨fun _ _ => rfl, fun _ _ => rfl, fun k' hk' => by omega, fun _ _ => rfl⟩
  · rintro f M ⟨p1, p2, p3, p4⟩
    refine ⟨M, ?_, p1, p2, p3⟩
    show m13_29 F (f + 1) b (nI i) (nI j) m g (nI W.length) (mkH (hs l s d tl) I M) = _
    rw [m13_29, id2 h, Option.bind_some, s2 hS, Option.bind_some, hsh.2.1.2.1, if_pos (show mc2 .ge (nI W.length) (nI W.length) = true by rw [c_ge (by omega) (by omega)]; omega)]
  · rintro f k M hk ⟨p1, p2, p3, p4⟩
    right
    refine ⟨upJ M (b + 3) (i * 256 + k) (J (b + 3) (i * 256 + k) - ((J (b + 3) (j * 256 + k) * m.toInt64) <<< (g.toInt64 &&& 63))), ?_, fun c hc => by rw [upJ_ne hc]; exact p1 c hc, fun q hq => by rw [upJ_at, if_neg (by omega)]; exact p2 q hq, fun k' hk' => ?_, fun k' hk' => ?_⟩
    · show m13_29 F (f + 1) b (nI i) (nI j) m g (nI k) (mkH (hs l s d tl) I M) = _
      rw [m13_29, id2 h, Option.bind_some, s2 hS, Option.bind_some, hsh.2.1.2.1, if_neg (show ¬ mc2 .ge (nI k) (nI W.length) = true by rw [c_ge (by omega) (by omega)]; omega), id5 h, Option.bind_some, c_256, pk_mul, nI_add, rdJ_H h.2.2.2.1 (by omega) (by omega), Option.bind_some, p4 k (by omega), Option.bind_some, pk_mul, nI_add, rdJ_H h.2.2.2.1 (by omega) (by omega), Option.bind_some, p2 (j * 256 + k) (by omega), wrJ_H h.2.2.2.1 (by omega) (by omega), Option.bind_some, n_1, nI_add]
    · rw [upJ_at]
      by_cases hkk : k' = k
      · rw [if_pos (by omega), hkk]
      · rw [if_neg (by omega)]
        exact p3 k' (by omega)
    · rw [upJ_at, if_neg (by omega)]
      exact p4 k' (by omega)
end S
