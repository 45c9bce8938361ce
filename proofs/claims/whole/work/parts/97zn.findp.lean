/-! The reference: findP. -/
section S
variable {n : Nat} {A : Nat → Nat → Int} {w : List Nat} {W : List (List Nat)} {f f' : List Nat → Nat → Int}
theorem klo_un (hok : cx_ok n A) (hw : cx_L n w) (h : klo n A w f) (h' : klo n A w f') : ∀ (m : Nat) (u : List Nat), cx_L n u → cx_l n A w ≤ cx_l n A u + m → ∀ k, f u k = f' u k := by
  obtain ⟨L, hL⟩ := idl_ex (A := A) hw
  intro m
  induction m with
  | zero =>
    intro u hu hl k
    by_cases hb : sbe n A u w
    · have hg := (sbe_l hw hu hb).2 (by have := (sbe_l hw hu hb).1; omega)
      rw [h.1 u w hg, h'.1 u w hg, h.2.2.1, h'.2.2.1]
    · rw [h.2.1 u hu hb, h'.2.1 u hu hb]
  | succ m ih =>
    intro u hu hl k
    by_cases hb : sbe n A u w
    · by_cases hg : cx_g n A u = cx_g n A w
      · rw [h.1 u w hg, h'.1 u w hg, h.2.2.1, h'.2.2.1]
      · by_cases hk : cx_l n A w ≤ cx_l n A u + 2 * k
        · rw [h.2.2.2.1 u hu hg k hk, h'.2.2.2.1 u hu hg k hk]
        · rw [klo_r hok hw h hL hu hb (by omega), klo_r hok hw h' hL hu hb (by omega)]
          congr 1
          refine lsm_cg (fun i x hx => ?_)
          by_cases hlt : cx_l n A u < cx_l n A x
          · rw [cii_p hlt, cii_p hlt, cnv_cg (fun _ => rfl) (ih x (hL.2.1 i x hx).1 (by omega)) k]
          · rw [cii_n hlt, cii_n hlt]
    · rw [h.2.1 u hu hb, h'.2.1 u hu hb]
/-- the sums so far -/
noncomputable def acs (n : Nat) (A : Nat → Nat → Int) (W : List (List Nat)) (f : List Nat → Nat → Int) (Pq : Nat → Prop) (u : List Nat) (k : Nat) : Int := cx_sum W.length (fun j => cii (Pq j ∧ cx_l n A u < cx_l n A (W.getD j [])) (cnv (Rx n A (W.getD j []) u) (f (W.getD j [])) k) 0)
theorem acs_cg {P Q : Nat → Prop} (h : ∀ j, j < W.length → (P j ↔ Q j)) (u : List Nat) (k : Nat) : acs n A W f P u k = acs n A W f Q u k := cx_sum_eq (fun j hj => cii_cg ⟨fun hh => ⟨(h j hj).mp hh.1, hh.2⟩, fun hh => ⟨(h j hj).mpr hh.1, hh.2⟩⟩ (fun _ => rfl) (fun _ => rfl))
theorem acs_a {P : Nat → Prop} {v : Nat} {x : List Nat} (hv : W[v]? = some x) (hP : ¬ P v) (u : List Nat) (k : Nat) : acs n A W f (fun j => P j ∨ j = v) u k = acs n A W f P u k + cii (cx_l n A u < cx_l n A x) (cnv (Rx n A x u) (f x) k) 0 := by
  have hvl := (List.getElem?_eq_some_iff.mp hv).1
  have e : cx_sum W.length (fun j => cii (j = v ∧ cx_l n A u < cx_l n A (W.getD j [])) (cnv (Rx n A (W.getD j []) u) (f (W.getD j [])) k) 0) = cii (cx_l n A u < cx_l n A x) (cnv (Rx n A x u) (f x) k) 0 := by
    rw [cx_one1 (i0 := v) hvl (fun j hj hne => cii_n (fun hh => hne hh.1)), gd_of hv]
    exact cii_cg ⟨fun hh => hh.2, fun hh => ⟨rfl, hh⟩⟩ (fun _ => rfl) (fun _ => rfl)
  rw [← e]
  unfold acs
  rw [← cx_sum_add]
  refine cx_sum_eq (fun j hj => ?_)
  by_cases hlt : cx_l n A u < cx_l n A (W.getD j [])
  · by_cases hjv : j = v
    · rw [cii_p ⟨Or.inr hjv, hlt⟩, cii_n (fun hh => hP (by rw [← hjv]; exact hh.1)), cii_p ⟨hjv, hlt⟩, Int.zero_add]
    · by_cases hp : P j
      · rw [cii_p ⟨Or.inl hp, hlt⟩, cii_p ⟨hp, hlt⟩, cii_n (fun hh => hjv hh.1), Int.add_zero]
      · rw [cii_n (fun hh => hh.1.elim hp hjv), cii_n (fun hh => hp hh.1), cii_n (fun hh => hjv hh.1)]
        rfl
  · rw [cii_n (fun hh => hlt hh.2), cii_n (fun hh => hlt hh.2), cii_n (fun hh => hlt hh.2)]
    rfl
end S
/-- the state while P is found: of which the numbers stand -/
def fpS (n : Nat) (A : Nat → Nat → Int) (W : List (List Nat)) (f : List Nat → Nat → Int) (Pq : Nat → Prop) (I : hI) : Prop := ∀ (i : Nat) (u : List Nat), W[i]? = some u → ∀ k, k < 9 → I 52 (9 * i + k) = zI (cii (Pq i) (f u k) 0) ∧ I 53 (9 * i + k) = zI (acs n A W f Pq u k)
def pfr (I I' : hI) : Prop := ∀ c, c ≠ 49 → c ≠ 50 → c ≠ 51 → c ≠ 52 → c ≠ 53 → I' c = I c
section S
variable {l s d : Value} {tl : List hQ} {F : Nat} {I : hI} {J : hJ} {n : Nat} {A : Nat → Nat → Int} {y : List Nat} {W : List (List Nat)} {f : List Nat → Nat → Int}
theorem fpS_cg {P Q : Nat → Prop} (h : ∀ j, j < W.length → (P j ↔ Q j)) (hp : fpS n A W f P I) : fpS n A W f Q I := by
  intro i u hu k hk
  obtain ⟨a, b⟩ := hp i u hu k hk
  have hi := (List.getElem?_eq_some_iff.mp hu).1
  refine ⟨a.trans ?_, b.trans ?_⟩
  · rw [cii_cg (h i hi) (fun _ => rfl) (fun _ => rfl)]
  · rw [acs_cg h]
theorem blF_fr {I' : hI} (h : blF n A y W I J) (hp : pfr I I') : blF n A y W I' J := by
  obtain ⟨b1, b2, b3, b4⟩ := h
  refine ⟨b1, b2, ⟨b3.1, fun i u hu => by rw [hp 46 (by decide) (by decide) (by decide) (by decide) (by decide)]; exact b3.2.1 i u hu, by rw [hp 26 (by decide) (by decide) (by decide) (by decide) (by decide)]; exact b3.2.2⟩, fun i j u a1 a2 a3 => ?_⟩
  rw [hp 47 (by decide) (by decide) (by decide) (by decide) (by decide), hp 48 (by decide) (by decide) (by decide) (by decide) (by decide)]
  exact b4 i j u a1 a2 a3
theorem pfr_tr {I I' I'' : hI} (h : pfr I I') (h' : pfr I' I'') : pfr I I'' := fun c a1 a2 a3 a4 a5 => (h' c a1 a2 a3 a4 a5).trans (h c a1 a2 a3 a4 a5)
/-- the numbers of one element -/
theorem fp_row (hF : 9000 ≤ F) {w v dd : Nat} {sz : Int32} (hv : v < 256) (hd : dd ≤ 8) {rc50 : Nat → Int32 → Int32 → List mE → Option (Unit × List mE)} {rc56 : Nat → Int32 → Int32 → Int32 → List mE → Option (Unit × List mE)} : ∀ (g k : Nat) (K : hI), k ≤ (dd + 1) / 2 → (dd + 1) / 2 < k + g → ((∀ c, c ≠ 52 → K c = I c) ∧ ∀ q, K 52 q = if 9 * v ≤ q ∧ q < 9 * v + k then - I 53 q else I 52 q) → ∃ K' : hI, m203_106 F rc50 rc56 g 26 (nI w) sz (nI v) (nI dd) (nI k) (mkH (hs l s d tl) K J) = m203_153 F rc50 rc56 26 (nI w) sz (nI v) (mkH (hs l s d tl) K' J) ∧ (∀ c, c ≠ 52 → K' c = I c) ∧ ∀ q, K' 52 q = if 9 * v ≤ q ∧ q < 9 * v + (dd + 1) / 2 then - I 53 q else I 52 q := by
  refine lpc (σ := hI) (R := Option (Unit × List mE)) (fun g k K => m203_106 F rc50 rc56 g 26 (nI w) sz (nI v) (nI dd) (nI k) (mkH (hs l s d tl) K J)) ((dd + 1) / 2) (fun k K => (∀ c, c ≠ 52 → K c = I c) ∧ ∀ q, K 52 q = if 9 * v ≤ q ∧ q < 9 * v + k then - I 53 q else I 52 q) (fun r => ∃ K' : hI, r = m203_153 F rc50 rc56 26 (nI w) sz (nI v) (mkH (hs l s d tl) K' J) ∧ (∀ c, c ≠ 52 → K' c = I c) ∧ ∀ q, K' 52 q = if 9 * v ≤ q ∧ q < 9 * v + (dd + 1) / 2 then - I 53 q else I 52 q) ?_ ?_
  · rintro g K hp
    refine ⟨K, ?_, hp⟩
    show m203_106 F rc50 rc56 (g + 1) 26 (nI w) sz (nI v) (nI dd) (nI ((dd + 1) / 2)) (mkH (hs l s d tl) K J) = _
    rw [m203_106]
    by_cases h0 : dd = 0
    · rw [if_pos (show mc1 .le (nI dd) = true by rw [d_le (by omega)]; omega)]
    · obtain ⟨e, rfl⟩ : ∃ e, dd = e + 1 := ⟨dd - 1, by omega⟩
      rw [if_neg (show ¬ mc1 .le (nI (e + 1)) = true by rw [d_le (by omega)]; omega), nI_z1, n_2, pk_mul, if_pos (show mc2 .gt (nI (2 * ((e + 1 + 1) / 2))) (nI e) = true by rw [c_gt (by omega) (by omega)]; omega)]
  · rintro g k K hk ⟨p1, p2⟩
    right
    obtain ⟨e, rfl⟩ : ∃ e, dd = e + 1 := ⟨dd - 1, by omega⟩
    refine ⟨upI K 52 (9 * v + k) (- I 53 (9 * v + k)), ?_, fun c hc => by rw [upI_ne hc]; exact p1 c hc, fun q => ?_⟩
    · show m203_106 F rc50 rc56 (g + 1) 26 (nI w) sz (nI v) (nI (e + 1)) (nI k) (mkH (hs l s d tl) K J) = _
      rw [m203_106, if_neg (show ¬ mc1 .le (nI (e + 1)) = true by rw [d_le (by omega)]; omega), nI_z1, n_2, pk_mul, if_neg (show ¬ mc2 .gt (nI (2 * k)) (nI e) = true by rw [c_gt (by omega) (by omega)]; omega), gr26_39, Option.bind_some, gr26_40, Option.bind_some, n_9, pk_mul, nI_add, rI53 (by omega), Option.bind_some, wI52 (by omega), Option.bind_some, p1 53 (by decide), n_1, nI_add]
    · rw [upI_at]
      by_cases hq : q = 9 * v + k
      · rw [if_pos hq, if_pos (by omega), hq]
      · rw [if_neg hq, p2 q]
        by_cases hr : 9 * v ≤ q ∧ q < 9 * v + k
        · rw [if_pos hr, if_pos (by omega)]
        · rw [if_neg hr, if_neg (by omega)]
/-- what one element brings to all -/
theorem fp_br (hF : 9000 ≤ F) (h256 : W.length ≤ 256) {w v z : Nat} (hv : v < 256) (hz : z ≤ 8) (hm : I 26 31 = nI W.length) (hs46 : ∀ (i : Nat) (u : List Nat), W[i]? = some u → I 46 i = nI (cx_l n A u) ∧ cx_l n A u ≤ 9) {a : List Nat → Nat → Int} {b : Nat → Int} (ha : ∀ (i : Nat) (u : List Nat), W[i]? = some u → ∀ k, k < 9 → I 49 (9 * i + k) = zI (a u k)) (hb : ∀ k, k < 9 → I 52 (9 * v + k) = zI (b k)) {rc50 : Nat → Int32 → Int32 → List mE → Option (Unit × List mE)} {rc56 : Nat → Int32 → Int32 → Int32 → List mE → Option (Unit × List mE)} : ∀ (g i : Nat) (K : hI), i ≤ W.length → W.length < i + g → ((∀ c, c ≠ 53 → K c = I c) ∧ ∀ (j : Nat) (u : List Nat), W[j]? = some u → ∀ k, k < 9 → K 53 (9 * j + k) = I 53 (9 * j + k) + zI (cii (j < i ∧ cx_l n A u < z) (cnv (a u) b k) 0)) → ∃ K' : hI, m203_161 F rc50 rc56 g 26 (nI w) (nI z) (nI v) (nI i) (mkH (hs l s d tl) K J) = rc56 26 (nI w) (nI z) (nI (v + 1)) (mkH (hs l s d tl) K' J) ∧ (∀ c, c ≠ 53 → K' c = I c) ∧ ∀ (j : Nat) (u : List Nat), W[j]? = some u → ∀ k, k < 9 → K' 53 (9 * j + k) = I 53 (9 * j + k) + zI (cii (cx_l n A u < z) (cnv (a u) b k) 0) := by
  refine lpc (σ := hI) (R := Option (Unit × List mE)) (fun g i K => m203_161 F rc50 rc56 g 26 (nI w) (nI z) (nI v) (nI i) (mkH (hs l s d tl) K J)) W.length (fun i K => (∀ c, c ≠ 53 → K c = I c) ∧ ∀ (j : Nat) (u : List Nat), W[j]? = some u → ∀ k, k < 9 → K 53 (9 * j + k) = I 53 (9 * j + k) + zI (cii (j < i ∧ cx_l n A u < z) (cnv (a u) b k) 0)) (fun r => ∃ K' : hI, r = rc56 26 (nI w) (nI z) (nI (v + 1)) (mkH (hs l s d tl) K' J) ∧ (∀ c, c ≠ 53 → K' c = I c) ∧ ∀ (j : Nat) (u : List Nat), W[j]? = some u → ∀ k, k < 9 → K' 53 (9 * j + k) = I 53 (9 * j + k) + zI (cii (cx_l n A u < z) (cnv (a u) b k) 0)) ?_ ?_
  · rintro g K ⟨p1, p2⟩
    have k31 : K 26 31 = nI W.length := by rw [p1 26 (by decide)]; exact hm
    refine ⟨K, ?_, p1, fun j u hu k hk => ?_⟩
    · show m203_161 F rc50 rc56 (g + 1) 26 (nI w) (nI z) (nI v) (nI W.length) (mkH (hs l s d tl) K J) = _
      rw [m203_161, gi26_31, Option.bind_some, k31, if_pos (show mc2 .ge (nI W.length) (nI W.length) = true by rw [c_ge (by omega) (by omega)]; omega)]
      unfold m203_194
      rw [n_1, nI_add]
    · rw [p2 j u hu k hk, cii_cg ⟨fun hh => hh.2, fun hh => ⟨(List.getElem?_eq_some_iff.mp hu).1, hh⟩⟩ (fun _ => rfl) (fun _ => rfl)]
  · rintro g i K hi ⟨p1, p2⟩
    right
    have k31 : K 26 31 = nI W.length := by rw [p1 26 (by decide)]; exact hm
    have hx := gd_ex hi
    generalize W.getD i [] = x at hx
    obtain ⟨x1, x2⟩ := hs46 i x hx
    have e0 : m203_161 F rc50 rc56 (g + 1) 26 (nI w) (nI z) (nI v) (nI i) (mkH (hs l s d tl) K J) = if mc2 .ge (nI (cx_l n A x)) (nI z) = true then m203_161 F rc50 rc56 g 26 (nI w) (nI z) (nI v) (nI (i + 1)) (mkH (hs l s d tl) K J) else (e202 F 26 (nI i) (nI v) (mkH (hs l s d tl) K J)).bind fun q6 => m203_161 F rc50 rc56 g 26 (nI w) (nI z) (nI v) (nI (i + 1)) q6.2 := by
      rw [m203_161, gi26_31, Option.bind_some, k31, if_neg (show ¬ mc2 .ge (nI i) (nI W.length) = true by rw [c_ge (by omega) (by omega)]; omega), gr26_33, Option.bind_some, rI46 (by omega), Option.bind_some, p1 46 (by decide), x1, rc26, Option.bind_some]
      unfold m203_188
      rw [n_1, nI_add]
    by_cases hlt : cx_l n A x < z
    · obtain ⟨K1, e1, r1, r2, r3⟩ := br_e (l := l) (s := s) (d := d) (tl := tl) (F := F) (I := K) (J := J) hF (u := i) (v := v) (by omega) hv (a := a x) (b := b) (fun k hk => by rw [p1 49 (by decide)]; exact ha i x hx k hk) (fun k hk => by rw [p1 52 (by decide)]; exact hb k hk)
      refine ⟨K1, ?_, fun c hc => (r1 c hc).trans (p1 c hc), fun j u hu k hk => ?_⟩
      · show m203_161 F rc50 rc56 (g + 1) 26 (nI w) (nI z) (nI v) (nI i) (mkH (hs l s d tl) K J) = _
        rw [e0, if_neg (show ¬ mc2 .ge (nI (cx_l n A x)) (nI z) = true by rw [c_ge (by omega) (by omega)]; omega), e1, Option.bind_some]
      · by_cases hji : j = i
        · subst hji
          rw [hx] at hu
          cases hu
          rw [r2 k hk, p2 j x hx k hk, cii_n (fun hh => by omega), cii_p ⟨by omega, hlt⟩]
          show I 53 (9 * j + k) + (0 : Int32) + _ = _
          rw [Int32.add_zero]
        · rw [r3 _ (by omega), p2 j u hu k hk, cii_cg (show (j < i ∧ cx_l n A u < z) ↔ (j < i + 1 ∧ cx_l n A u < z) from ⟨fun hh => ⟨by omega, hh.2⟩, fun hh => ⟨by omega, hh.2⟩⟩) (fun _ => rfl) (fun _ => rfl)]
    · refine ⟨K, ?_, p1, fun j u hu k hk => ?_⟩
      · show m203_161 F rc50 rc56 (g + 1) 26 (nI w) (nI z) (nI v) (nI i) (mkH (hs l s d tl) K J) = _
        rw [e0, if_pos (show mc2 .ge (nI (cx_l n A x)) (nI z) = true by rw [c_ge (by omega) (by omega)]; omega)]
      · rw [p2 j u hu k hk]
        by_cases hji : j = i
        · subst hji
          rw [hx] at hu
          cases hu
          rw [cii_n (fun hh => hlt hh.2), cii_n (fun hh => hlt hh.2)]
        · rw [cii_cg (show (j < i ∧ cx_l n A u < z) ↔ (j < i + 1 ∧ cx_l n A u < z) from ⟨fun hh => ⟨by omega, hh.2⟩, fun hh => ⟨by omega, hh.2⟩⟩) (fun _ => rfl) (fun _ => rfl)]
end S
