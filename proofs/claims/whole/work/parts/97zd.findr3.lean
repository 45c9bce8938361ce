/-! The reference: findR, all of it. -/
section S
variable {l s d : Value} {tl : List hQ} {F : Nat} {I : hI} {J : hJ} {n : Nat} {A : Nat → Nat → Int} {y x z : List Nat} {W : List (List Nat)}
theorem tk_j {p : Nat → Prop} (h : tk n A p x z) (j : Nat) : tk n A p (x ++ z.take j) (z.drop j) := by
  have e : z = z.take j ++ z.drop j := (List.take_append_drop j z).symm
  rw [e] at h
  exact tk_app h
theorem tk_at {p : Nat → Prop} (h : tk n A p x z) {j t : Nat} (ht : z[j]? = some t) : t < n ∧ dn n A (x ++ z.take j) t ∧ ∀ r, r < t → ¬ (p r ∧ dn n A (x ++ z.take j) r) := by
  have h1 := tk_j h j
  rw [drop_c ht] at h1
  exact ⟨h1.1.1, h1.1.2.2.1, h1.1.2.2.2⟩
/-- the elements on the way down are there -/
theorem tk_W (hok : cx_ok n A) (yL : cx_L n y) (hA : bqA n A y W) {v : Nat} (hx : W[v]? = some x) (hz : tk n A (fun _ => True) x z) : ∀ j, j ≤ z.length → ∃ (i : Nat) (u : List Nat), W[i]? = some u ∧ cx_g n A u = cx_g n A (x ++ z.take j) := by
  intro j
  induction j with
  | zero => exact fun _ => ⟨v, x, hx, by rw [List.take_zero, List.append_nil]⟩
  | succ j ih =>
    intro hj
    obtain ⟨i, u, hu, hg⟩ := ih (by omega)
    obtain ⟨t, ht⟩ := ex_at (show j < z.length by omega)
    obtain ⟨htn, hd, _⟩ := tk_at hz ht
    obtain ⟨m, w, hm, hgw⟩ := bqA_d hok yL hA hu htn ((dn_g hg t).mpr hd)
    refine ⟨m, w, hm, hgw.trans ?_⟩
    rw [take_app ht]
    exact cx_g_ap1 [t] hg
theorem tk_dr (hok : cx_ok n A) (xL : cx_L n x) (hz : tk n A (fun _ => True) x z) (j : Nat) : cx_L n (z.drop j) ∧ cx_l n A (z.drop j).reverse = (z.drop j).reverse.length ∧ cx_g n A (z.drop j).reverse = cx_g n A (x ++ z.take j) := by
  have zL := (tk_len hok xL hz).1
  have tL : cx_L n (x ++ z.take j) := cx_L_app xL (take_L zL j)
  obtain ⟨c1, c2⟩ := tk_c hok tL (tk_j hz j)
  have dL := cx_c_L c1
  refine ⟨dL, ?_, ?_⟩
  · rw [cx_l_rev hok dL, List.length_reverse]
    exact cx_c_l c1
  · have := cx_g_rev hok dL (cx_L_rev tL) c2
    rw [List.reverse_reverse] at this
    exact this
/-- going down: the letters are kept -/
theorem ch_e (hM : mo_n n A I) (hF : 9000 ≤ F) (yL : cx_L n y) (h8 : y.length ≤ 8) (hB : blF n A y W I J) {v : Nat} (hx : W[v]? = some x) (hz : tk n A (fun _ => True) x z) : ∃ (K : hI) (e : Nat) (u : List Nat), e201 F 26 (nI v) (mkH (hs l s d tl) I J) = m201_65 F F 26 (nI z.length) (nI e) (nI 0) (mkH (hs l s d tl) K J) ∧ W[e]? = some u ∧ cx_l n A u = 0 ∧ (∀ (j t : Nat), z[j]? = some t → K 51 j = nI t) ∧ z.length ≤ 8 ∧ ∀ c, c ≠ 51 → K c = I c := by
  have hok := hM.1
  have hn5 := hM.2.2.1
  have hA := bqS_A hB.1
  have h256 := hB.2.1
  have xL := (hA.2.2.1 v x hx).1
  have xl : cx_l n A x ≤ 8 := Nat.le_trans (bqS_l xL (hA.2.2.1 v x hx).2 yL) h8
  obtain ⟨zL, zl⟩ := tk_len hok xL hz
  have z8 : z.length ≤ 8 := by omega
  have zend : cx_l n A (x ++ z) = 0 := by
    have h1 := tk_j hz z.length
    rw [List.take_length, List.drop_length] at h1
    apply Classical.byContradiction
    intro hne
    obtain ⟨t, ht, hd⟩ := cx_ex_dn hok (cx_L_app xL zL) hne
    exact h1 t ht ⟨trivial, hd⟩
  have key : ∀ (f k : Nat) (K : (Nat × List Nat) × hI), k ≤ z.length → z.length < k + f → (W[K.1.1]? = some K.1.2 ∧ cx_g n A K.1.2 = cx_g n A (x ++ z.take k) ∧ (∀ (j t : Nat), j < k → z[j]? = some t → K.2 51 j = nI t) ∧ ∀ c, c ≠ 51 → K.2 c = I c) → ∃ (K' : hI) (e : Nat) (u : List Nat), m201_4 F f 26 (nI k) (nI K.1.1) (mkH (hs l s d tl) K.2 J) = m201_65 F F 26 (nI z.length) (nI e) (nI 0) (mkH (hs l s d tl) K' J) ∧ W[e]? = some u ∧ cx_l n A u = 0 ∧ (∀ (j t : Nat), z[j]? = some t → K' 51 j = nI t) ∧ z.length ≤ 8 ∧ ∀ c, c ≠ 51 → K' c = I c := by
    refine lpc (σ := (Nat × List Nat) × hI) (R := Option (Unit × List mE)) (fun f k K => m201_4 F f 26 (nI k) (nI K.1.1) (mkH (hs l s d tl) K.2 J)) z.length (fun k K => W[K.1.1]? = some K.1.2 ∧ cx_g n A K.1.2 = cx_g n A (x ++ z.take k) ∧ (∀ (j t : Nat), j < k → z[j]? = some t → K.2 51 j = nI t) ∧ ∀ c, c ≠ 51 → K.2 c = I c) (fun r => ∃ (K' : hI) (e : Nat) (u : List Nat), r = m201_65 F F 26 (nI z.length) (nI e) (nI 0) (mkH (hs l s d tl) K' J) ∧ W[e]? = some u ∧ cx_l n A u = 0 ∧ (∀ (j t : Nat), z[j]? = some t → K' 51 j = nI t) ∧ z.length ≤ 8 ∧ ∀ c, c ≠ 51 → K' c = I c) ?_ ?_
    · rintro f ⟨⟨e, u⟩, K⟩ ⟨p1, p2, p3, p4⟩
      have p1 : W[e]? = some u := p1
      have he := (List.getElem?_eq_some_iff.mp p1).1
      have p2 : cx_g n A u = cx_g n A (x ++ z.take z.length) := p2
      rw [List.take_length] at p2
      have ul : cx_l n A u = 0 := (cx_l_eq p2).trans zend
      have p4 : ∀ c, c ≠ 51 → K c = I c := p4
      refine ⟨K, e, u, ?_, p1, ul, fun j t ht => p3 j t (List.getElem?_eq_some_iff.mp ht).1 ht, z8, p4⟩
      show m201_4 F (f + 1) 26 (nI z.length) (nI e) (mkH (hs l s d tl) K J) = _
      rw [m201_4, gr26_33, Option.bind_some, rI46 (by omega), Option.bind_some, p4 46 (by decide), hB.2.2.1.2.1 e u p1, ul, if_pos (show mc1 .le (nI 0) = true by decide)]
      rfl
    · rintro f k ⟨⟨e, u⟩, K⟩ hk ⟨p1, p2, p3, p4⟩
      right
      have p1 : W[e]? = some u := p1
      have p2 : cx_g n A u = cx_g n A (x ++ z.take k) := p2
      have p4 : ∀ c, c ≠ 51 → K c = I c := p4
      have he := (List.getElem?_eq_some_iff.mp p1).1
      obtain ⟨t, ht⟩ := ex_at hk
      obtain ⟨htn, hd, hmin⟩ := tk_at hz ht
      have hdu : dn n A u t := (dn_g p2 t).mpr hd
      have ul : cx_l n A u ≤ 8 := by
        have tL : cx_L n (x ++ z.take k) := cx_L_app xL (take_L zL k)
        rw [cx_l_eq p2]
        have h1 := tk_len hok tL (tk_j hz k)
        have h2 := zl
        have h3 := bqS_l (hA.2.2.1 e u p1).1 (hA.2.2.1 e u p1).2 yL
        rw [cx_l_eq p2] at h3
        omega
      have ul0 : 0 < cx_l n A u := by
        unfold dn at hdu
        omega
      obtain ⟨s1, _⟩ := hB.2.2.2 e t u p1 htn (Or.inl he)
      obtain ⟨j, w, hj, hgw⟩ := bqA_d hok yL hA p1 htn hdu
      have sv : I 47 (5 * e + t) = nI j := by
        rcases s1 with ⟨j', w', b1, b2, b3⟩ | ⟨b1, _⟩
        · rw [b3, hA.2.1 j' j w' w b1 hj (b2.trans hgw.symm)]
        · exact absurd hgw (b1 j w hj)
      have hjl := (List.getElem?_eq_some_iff.mp hj).1
      have inn : ∀ (f2 q : Nat) (_ : Unit), q ≤ t → t < q + f2 → True → m201_16 F (m201_4 F f) f2 26 (nI k) (nI e) (nI q) (mkH (hs l s d tl) K J) = m201_4 F f 26 (nI (k + 1)) (nI j) (mkH (hs l s d tl) (upI K 51 k (nI t)) J) := by
        refine lpc (σ := Unit) (R := Option (Unit × List mE)) (fun f2 q _ => m201_16 F (m201_4 F f) f2 26 (nI k) (nI e) (nI q) (mkH (hs l s d tl) K J)) t (fun _ _ => True) (fun r => r = m201_4 F f 26 (nI (k + 1)) (nI j) (mkH (hs l s d tl) (upI K 51 k (nI t)) J)) ?_ ?_
        · intro f2 _ _
          have dv : K 48 (5 * e + t) = nI 1 := by
            rw [p4 48 (by decide)]
            rcases (hB.2.2.2 e t u p1 htn (Or.inl he)).2 with ⟨_, b⟩ | ⟨b, _⟩
            · exact b
            · exact absurd hdu b
          have sv2 : upI K 51 k (nI t) 47 (5 * e + t) = nI j := by rw [upI_ne (by decide), p4 47 (by decide), sv]
          show m201_16 F (m201_4 F f) (f2 + 1) 26 (nI k) (nI e) (nI t) (mkH (hs l s d tl) K J) = _
          rw [m201_16, gr26_35, Option.bind_some, n_5, pk_mul, nI_add, rZ48 (by omega), Option.bind_some, dv, if_pos (show mc1 .ne (nI 1) = true by decide), gr26_38, Option.bind_some, wI51 (by omega), Option.bind_some, gr26_34, Option.bind_some, rI47 (by omega), Option.bind_some, sv2, n_1, nI_add]
        · intro f2 q _ hq _
          right
          refine ⟨(), ?_, trivial⟩
          have dv : K 48 (5 * e + q) = nI 0 := by
            rw [p4 48 (by decide)]
            rcases (hB.2.2.2 e q u p1 (by omega) (Or.inl he)).2 with ⟨b, _⟩ | ⟨_, b⟩
            · exact absurd ⟨trivial, (dn_g p2 q).mp b⟩ (hmin q hq)
            · exact b
          show m201_16 F (m201_4 F f) (f2 + 1) 26 (nI k) (nI e) (nI q) (mkH (hs l s d tl) K J) = _
          rw [m201_16, gr26_35, Option.bind_some, n_5, pk_mul, nI_add, rZ48 (by omega), Option.bind_some, dv, if_neg (show ¬ mc1 .ne (nI 0) = true by decide), n_1, nI_add]
      refine ⟨((j, w), upI K 51 k (nI t)), ?_, hj, ?_, fun i r hi hr => ?_, fun c hc => by show upI K 51 k (nI t) c = _; rw [upI_ne hc]; exact p4 c hc⟩
      · show m201_4 F (f + 1) 26 (nI k) (nI e) (mkH (hs l s d tl) K J) = _
        rw [m201_4, gr26_33, Option.bind_some, rI46 (by omega), Option.bind_some, p4 46 (by decide), hB.2.2.1.2.1 e u p1, if_neg (show ¬ mc1 .le (nI (cx_l n A u)) = true by rw [d_le (by omega)]; omega)]
        exact inn F 0 () (by omega) (by omega) trivial
      · show cx_g n A w = cx_g n A (x ++ z.take (k + 1))
        rw [take_app ht]
        exact hgw.trans (cx_g_ap1 [t] p2)
      · show upI K 51 k (nI t) 51 i = _
        rw [upI_at]
        by_cases hik : i = k
        · subst hik
          rw [ht] at hr
          rw [if_pos rfl, Option.some.inj hr]
        · rw [if_neg hik]
          exact p3 i r (by omega) hr
  exact key F 0 ((v, x), I) (by omega) (by omega) ⟨hx, by rw [List.take_zero, List.append_nil], fun j t hj => by omega, fun _ _ => rfl⟩
/-- findR -/
theorem fr_e (hM : mo_n n A I) (hF : 9000 ≤ F) (yL : cx_L n y) (h8 : y.length ≤ 8) (hB : blF n A y W I J) {v : Nat} (hx : W[v]? = some x) {w : List Nat} (hw : cx_L n w) (hwl : cx_l n A w = w.length) (hwg : cx_g n A w = cx_g n A x) : ∃ I' : hI, e201 F 26 (nI v) (mkH (hs l s d tl) I J) = some ((), (mkH (hs l s d tl) I' J)) ∧ (∀ (i : Nat) (u : List Nat), W[i]? = some u → ∀ k, k < 9 → I' 49 (9 * i + k) = zI (rww n A w u k)) ∧ rfr3 I I' := by
  have hok := hM.1
  have hn5 := hM.2.2.1
  have hA := bqS_A hB.1
  have h256 := hB.2.1
  have xL := (hA.2.2.1 v x hx).1
  obtain ⟨z, hz⟩ := tk_ex hok (fun _ => True) (cx_l n A x) xL rfl
  obtain ⟨K0, e, u0, e0, he, hu0, hch, z8, hK0⟩ := ch_e (l := l) (s := s) (d := d) (tl := tl) hM hF yL h8 hB hx hz
  have hel := (List.getElem?_eq_some_iff.mp he).1
  -- rho by rho
  have run : ∀ (f c : Nat) (K : hI), c < f → (c ≤ z.length ∧ rsP n A (z.drop c) W K ∧ (∀ (j t : Nat), z[j]? = some t → K 51 j = nI t) ∧ rfr3 I K) → ∃ I' : hI, m201_105 F f 26 (nI c - 1) (mkH (hs l s d tl) K J) = some ((), (mkH (hs l s d tl) I' J)) ∧ rsP n A z W I' ∧ rfr3 I I' := by
    refine lpd (σ := hI) (R := Option (Unit × List mE)) (fun f c K => m201_105 F f 26 (nI c - 1) (mkH (hs l s d tl) K J)) (fun c K => c ≤ z.length ∧ rsP n A (z.drop c) W K ∧ (∀ (j t : Nat), z[j]? = some t → K 51 j = nI t) ∧ rfr3 I K) (fun r => ∃ I' : hI, r = some ((), (mkH (hs l s d tl) I' J)) ∧ rsP n A z W I' ∧ rfr3 I I') ?_ ?_
    · rintro f K ⟨_, p1, _, p3⟩
      rw [List.drop_zero] at p1
      refine ⟨K, ?_, p1, p3⟩
      show m201_105 F (f + 1) 26 (nI 0 - 1) (mkH (hs l s d tl) K J) = _
      rw [m201_105, if_pos (show mc1 .lt (nI 0 - 1) = true by decide)]
    · rintro f c K ⟨p0, p1, p2, p3⟩
      right
      obtain ⟨t, ht⟩ := ex_at (show c < z.length by omega)
      obtain ⟨htn, _, _⟩ := tk_at hz ht
      have ec : nI (c + 1) - 1 = nI c := pk_sub1 c
      have m31 : K 26 31 = nI W.length := by rw [p3 26 (by decide) (by decide) (by decide)]; exact hB.2.2.1.2.2
      have hT : tbT n A W K W.length 0 := fun i j u a1 a2 a3 => by
        rw [p3 47 (by decide) (by decide) (by decide), p3 48 (by decide) (by decide) (by decide)]
        exact hB.2.2.2 i j u a1 a2 a3
      obtain ⟨i0, w0, hw0, hg0⟩ := tk_W hok yL hA hx hz (c + 1) p0
      obtain ⟨dL, dl, dg⟩ := tk_dr hok xL hz (c + 1)
      have h0 : ∀ (i : Nat) (u : List Nat), W[i]? = some u → (∀ (j : Nat) (x : List Nat), W[j]? = some x → cx_g n A x ≠ cx_g n A (u ++ [t])) → ∀ k, rwl n A (z.drop (c + 1)) (u ++ [t]) k = 0 := by
        intro i u hu hno k
        have := bqA_r hok yL hA hw0 (cx_L_rev dL) dl (dg.trans hg0.symm) (cx_L_app (hA.2.2.1 i u hu).1 (cx_L_1 htn)) hno k
        unfold rww at this
        rw [List.reverse_reverse] at this
        exact this
      obtain ⟨K1, e1, a1, a2⟩ := rn_u (l := l) (s := s) (d := d) (tl := tl) (F := F) (J := J) (c := c) (rc105 := m201_105 F f) hF hn5 h256 p1 m31 hT htn h0 F 0 K (by omega) (by omega) ⟨fun _ _ => rfl, fun i' u hi' => by omega⟩
      have m31' : K1 26 31 = nI W.length := by rw [a1 26 (by decide)]; exact m31
      obtain ⟨K2, e2, b1, b2⟩ := rn_c (l := l) (s := s) (d := d) (tl := tl) (F := F) (J := J) (c := c) (rc105 := m201_105 F f) hF h256 m31' F 0 K1 (by omega) (by omega) ⟨fun _ _ => rfl, fun q hq => by omega⟩
      refine ⟨K2, ?_, by omega, fun i u hu k hk => ?_, fun j r hr => ?_, fun q q1 q2 q3 => ?_⟩
      · show m201_105 F (f + 1) 26 (nI (c + 1) - 1) (mkH (hs l s d tl) K J) = _
        rw [ec, m201_105, if_neg (show ¬ mc1 .lt (nI c) = true by rw [d_lt (by omega)]; exact id), gr26_38, Option.bind_some, rI51 (by omega), Option.bind_some, p2 c t ht]
        refine Eq.trans e1 (Eq.trans e2 ?_)
        rw [show nI c + (-1) = nI c - 1 from by rw [Int32.sub_eq_add_neg]]
      · have hil := (List.getElem?_eq_some_iff.mp hu).1
        rw [b2 _ (by omega), a2 i u hu k hk, drop_c ht]
        rfl
      · rw [b1 51 (by decide), a1 51 (by decide)]
        exact p2 j r hr
      · rw [b1 q q1, a1 q q2]
        exact p3 q q1 q2 q3
  -- the start
  have st : ∀ (f q : Nat) (K : hI), q ≤ 2304 → 2304 < q + f → ((∀ q', q' < q → K 49 q' = if q' = 9 * e then 1 else 0) ∧ ∀ c, c ≠ 49 → K c = K0 c) → ∃ I' : hI, m201_65 F f 26 (nI z.length) (nI e) (nI q) (mkH (hs l s d tl) K J) = some ((), (mkH (hs l s d tl) I' J)) ∧ rsP n A z W I' ∧ rfr3 I I' := by
    refine lpc (σ := hI) (R := Option (Unit × List mE)) (fun f q K => m201_65 F f 26 (nI z.length) (nI e) (nI q) (mkH (hs l s d tl) K J)) 2304 (fun q K => (∀ q', q' < q → K 49 q' = if q' = 9 * e then 1 else 0) ∧ ∀ c, c ≠ 49 → K c = K0 c) (fun r => ∃ I' : hI, r = some ((), (mkH (hs l s d tl) I' J)) ∧ rsP n A z W I' ∧ rfr3 I I') ?_ ?_
    · rintro f K ⟨p1, p2⟩
      have p1 : ∀ q', q' < 2304 → K 49 q' = if q' = 9 * e then 1 else 0 := p1
      obtain ⟨I', e1, r⟩ := run F z.length K (by omega) ⟨Nat.le_refl _, fun i u hu k hk => by
          have hil := (List.getElem?_eq_some_iff.mp hu).1
          rw [List.drop_length, p1 _ (by omega)]
          show _ = zI (rd0 n A u k)
          by_cases hie : i = e
          · subst hie
            rw [he] at hu
            cases hu
            rw [show rd0 n A u0 k = if k = 0 then 1 else 0 from cii_p hu0]
            by_cases hk0 : k = 0
            · rw [if_pos (by omega), if_pos hk0]
              rfl
            · rw [if_neg (by omega), if_neg hk0]
              rfl
          · have : cx_l n A u ≠ 0 := fun h => hie (hA.2.1 i e u u0 hu he ((cx_l_0 (hA.2.2.1 i u hu).1 h).trans (cx_l_0 (hA.2.2.1 e u0 he).1 hu0).symm))
            rw [show rd0 n A u k = 0 from cii_n this, if_neg (by omega)]
            rfl, fun j t ht => by rw [p2 51 (by decide)]; exact hch j t ht, fun c c1 c2 c3 => by rw [p2 c c1, hK0 c c3]⟩
      refine ⟨I', ?_, r⟩
      show m201_65 F (f + 1) 26 (nI z.length) (nI e) (nI 2304) (mkH (hs l s d tl) K J) = _
      rw [m201_65, if_pos (show mc2 .ge (nI 2304) 2304 = true by decide)]
      exact e1
    · rintro f q K hq ⟨p1, p2⟩
      right
      refine ⟨upI K 49 q (if q = 9 * e then 1 else 0), ?_, fun q' hq' => ?_, fun c hc => by rw [upI_ne hc]; exact p2 c hc⟩
      · show m201_65 F (f + 1) 26 (nI z.length) (nI e) (nI q) (mkH (hs l s d tl) K J) = _
        rw [m201_65, if_neg (show ¬ mc2 .ge (nI q) 2304 = true by rw [n_2304, c_ge (by omega) (by omega)]; omega), gr26_36, Option.bind_some, n_9, pk_mul]
        unfold m201_93
        by_cases hqe : q = 9 * e
        · rw [if_neg (show ¬ mc2 .ne (nI q) (nI (9 * e)) = true by rw [c_ne (by omega) (by omega)]; exact fun hh => hh hqe), if_pos hqe, wI49 (by omega), Option.bind_some, n_1, nI_add]
        · rw [if_pos (show mc2 .ne (nI q) (nI (9 * e)) = true by rw [c_ne (by omega) (by omega)]; exact hqe), if_neg hqe, wI49 (by omega), Option.bind_some, n_1, nI_add]
      · rw [upI_at]
        by_cases hqq : q' = q
        · rw [if_pos hqq, hqq]
        · rw [if_neg hqq]
          exact p1 q' (by omega)
  obtain ⟨I', e1, r1, r2⟩ := st F 0 K0 (by omega) (by omega) ⟨fun q hq => by omega, fun _ _ => rfl⟩
  refine ⟨I', e0.trans e1, fun i u hu k hk => ?_, r2⟩
  rw [r1 i u hu k hk]
  obtain ⟨dL, dl, dg⟩ := tk_dr hok xL hz 0
  rw [List.drop_zero] at dL dl dg
  rw [List.take_zero, List.append_nil] at dg
  have := rww_un hok (cx_L_rev dL) hw dl hwl (dg.trans hwg.symm) (hA.2.2.1 i u hu).1 k
  rw [← this]
  unfold rww
  rw [List.reverse_reverse]
end S
