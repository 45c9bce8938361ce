/-! The reference: cosets, both-sided ones. -/
section S
variable {l s d : Value} {tl : List hQ} {F : Nat} {I : hI} {J : hJ} {n a b o p N M : Nat} {A : Nat → Nat → Int} {els : List (List Nat)}
/-- isSet -/
theorem is_g (hM : mo_n n A I) (x : Int32) : (∃ S, S < 2 ^ n ∧ x = nI S ∧ e184 F 26 x (mkH (hs l s d tl) I J) = some (nI 1, (mkH (hs l s d tl) I J))) ∨ ((∀ S, S < 2 ^ n → x ≠ nI S) ∧ e184 F 26 x (mkH (hs l s d tl) I J) = some (nI 0, (mkH (hs l s d tl) I J))) := by
  have hn5 := hM.2.2.1
  have h32 : 2 ^ n ≤ 32 := by
    have := Nat.pow_le_pow_right (n := 2) (by omega) hn5
    omega
  have e : ∀ v, e137 F x.toInt64 0 ((nI (2 ^ n) - nI 1).toInt64) (mkH (hs l s d tl) I J) = some (nI v, (mkH (hs l s d tl) I J)) → (nI v = 0 ∨ nI v = 1) → e184 F 26 x (mkH (hs l s d tl) I J) = some (nI v, (mkH (hs l s d tl) I J)) := by
    intro v h hv
    show m184_0 F 26 x _ = _
    unfold m184_0
    simp only [rc26, gi26_0, pi26_0, gr26_1, gr26_2, gr26_3, gr26_4, gi26_5, pi26_5, gi26_6, pi26_6, gi26_7, pi26_7, gl26_8, pl26_8, gi26_9, pi26_9, gi26_10, pi26_10, gr26_11, gi26_12, pi26_12, gr26_13, gr26_14, gi26_15, pi26_15, gi26_16, pi26_16, gr26_17, gr26_18, gi26_19, pi26_19, gr26_20, gr26_21, gr26_22, gr26_23, gr26_24, gr26_25, gr26_26, gi26_27, pi26_27, gr26_28, gr26_29, gi26_30, pi26_30, gi26_31, pi26_31, gr26_32, gr26_33, gr26_34, gr26_35, gr26_36, gr26_37, gr26_38, gr26_39, gr26_40, Option.bind_some, hM.2.2.2.1]
    have es : (1 : Int32) <<< (nI n &&& 31) = nI (2 ^ n) := shl_e n hn5
    have h' : e137 F x.toInt64 0 ((((1 : Int32) <<< (nI n &&& 31)) - 1).toInt64) (mkH (hs l s d tl) I J) = some (nI v, (mkH (hs l s d tl) I J)) := by
      rw [es]
      exact h
    rw [h', Option.bind_some]
    exact if_pos hv
  rcases bw_n (F := F) x (show 2 ^ n < 2 ^ 30 by omega) (mkH (hs l s d tl) I J) with ⟨j, h1, h2, h3⟩ | ⟨h1, h2⟩
  · exact Or.inl ⟨j, h1, h2, e 1 h3 (Or.inr rfl)⟩
  · exact Or.inr ⟨h1, e 0 h2 (Or.inl rfl)⟩
theorem ss1 (hM : mo_n n A I) {S : Nat} (h : S < 2 ^ n) : e184 F 26 (nI S) (mkH (hs l s d tl) I J) = some (nI 1, (mkH (hs l s d tl) I J)) := by
  rcases is_g (l := l) (s := s) (d := d) (tl := tl) (F := F) (J := J) hM (nI S) with ⟨_, _, _, h1⟩ | ⟨h1, _⟩
  · exact h1
  · exact absurd rfl (h1 S h)
theorem ss0 (hM : mo_n n A I) {x : Int32} (h : ∀ S, S < 2 ^ n → x ≠ nI S) : e184 F 26 x (mkH (hs l s d tl) I J) = some (nI 0, (mkH (hs l s d tl) I J)) := by
  rcases is_g (l := l) (s := s) (d := d) (tl := tl) (F := F) (J := J) hM x with ⟨j, h1, h2, _⟩ | ⟨_, h1⟩
  · exact absurd h2 (h j h1)
  · exact h1
/-- downOf -/
theorem do_e (hM : mo_n n A I) (hF : 40 ≤ F) {S : Nat} (hS : S < 32) {x : List Nat} (hx : cx_L n x) (hl : cx_l n A x ≤ 31) (hq : sq n A x (J 32) 0) : ∃ v, e185 F 26 (nI S) (mkH (hs l s d tl) I J) = some (v, (mkH (hs l s d tl) I J)) ∧ lst n (fun j => bt S j ∧ dn n A x j) v := by
  obtain ⟨hok, h1n, hn5, hI0, hA⟩ := hM
  have key := lpc (fun f k (_ : Unit) => m185_2 F f 26 (nI S) (nI k) (mkH (hs l s d tl) I J)) n (fun k _ => ∀ j, j < k → ¬ (bt S j ∧ dn n A x j)) (fun r => ∃ v, r = some (v, (mkH (hs l s d tl) I J)) ∧ lst n (fun j => bt S j ∧ dn n A x j) v) ?_ ?_ F 0 () (by omega) (by omega) (fun j hj => by omega)
  · exact key
  · intro f _ h
    show ∃ v, m185_2 F (f + 1) _ _ _ _ = _ ∧ _
    rw [m185_2]
    simp (disch := omega) only [rc26, gi26_0, pi26_0, gr26_1, gr26_2, gr26_3, gr26_4, gi26_5, pi26_5, gi26_6, pi26_6, gi26_7, pi26_7, gl26_8, pl26_8, gi26_9, pi26_9, gi26_10, pi26_10, gr26_11, gi26_12, pi26_12, gr26_13, gr26_14, gi26_15, pi26_15, gi26_16, pi26_16, gr26_17, gr26_18, gi26_19, pi26_19, gr26_20, gr26_21, gr26_22, gr26_23, gr26_24, gr26_25, gr26_26, gi26_27, pi26_27, gr26_28, gr26_29, gi26_30, pi26_30, gi26_31, pi26_31, gr26_32, gr26_33, gr26_34, gr26_35, gr26_36, gr26_37, gr26_38, gr26_39, gr26_40, Option.bind_some, c_ge, n_1, n_m, hI0]
    rw [if_pos (by omega)]
    exact ⟨gI 1, rfl, Or.inr ⟨rfl, h⟩⟩
  · intro f k _ hk h
    have hk5 : k < 5 := by omega
    have nx : ¬ (bt S k ∧ dn n A x k) → ∀ j, j < k + 1 → ¬ (bt S j ∧ dn n A x j) := by
      intro h2 j hj
      by_cases hjk : j = k
      · rw [hjk]; exact h2
      · exact h j (by omega)
    show (∃ v, m185_2 F (f + 1) _ _ _ _ = _ ∧ _) ∨ ∃ y : Unit, m185_2 F (f + 1) _ _ _ _ = _ ∧ _
    rw [m185_2]
    simp (disch := omega) only [rc26, gi26_0, pi26_0, gr26_1, gr26_2, gr26_3, gr26_4, gi26_5, pi26_5, gi26_6, pi26_6, gi26_7, pi26_7, gl26_8, pl26_8, gi26_9, pi26_9, gi26_10, pi26_10, gr26_11, gi26_12, pi26_12, gr26_13, gr26_14, gi26_15, pi26_15, gi26_16, pi26_16, gr26_17, gr26_18, gi26_19, pi26_19, gr26_20, gr26_21, gr26_22, gr26_23, gr26_24, gr26_25, gr26_26, gi26_27, pi26_27, gr26_28, gr26_29, gi26_30, pi26_30, gi26_31, pi26_31, gr26_32, gr26_33, gr26_34, gr26_35, gr26_36, gr26_37, gr26_38, gr26_39, gr26_40, Option.bind_some, c_ge, n_1, n_31, hI0, bit_e k hk5 S hS, c_ne]
    rw [if_neg (by omega)]
    unfold m185_33
    by_cases hb : S / 2 ^ k % 2 = 1
    · rw [if_neg (fun h => h hb)]
      rcases idq_e (l := l) (s := s) (d := d) (tl := tl) (F := F) (I := I) (J := J) hok hn5 (by omega) q32 (by decide) hk (by omega) hx hl hq with ⟨e, h2⟩ | ⟨e, h2⟩
      · simp (disch := omega) only [n_0, e, Option.bind_some, d_eq]
        rw [if_neg (by omega)]
        exact Or.inl ⟨nI k, rfl, Or.inl ⟨k, hk, rfl, ⟨hb, h2⟩, h⟩⟩
      · simp (disch := omega) only [n_0, e, Option.bind_some, d_eq, if_true, nI_add, n_1]
        exact Or.inr ⟨(), by trivial, nx (fun h => h2 h.2)⟩
    · rw [if_pos hb]
      simp only [nI_add, n_1]
      exact Or.inr ⟨(), by trivial, nx (fun h => hb h.1)⟩
theorem lst_sw {n : Nat} {p q : Nat → Prop} {v : Int32} (h : lst n p v) (hpq : ∀ j, j < n → (p j ↔ q j)) : lst n q v := by
  rcases h with ⟨j, h1, h2, h3, h4⟩ | ⟨h1, h2⟩
  · exact Or.inl ⟨j, h1, h2, (hpq j h1).mp h3, fun i hi h => h4 i hi ((hpq i (by omega)).mpr h)⟩
  · exact Or.inr ⟨h1, fun i hi h => h2 i hi ((hpq i hi).mpr h)⟩
/-- coset: letters taken -/
theorem cs_l (hM : mo_n n A I) (hF : 300 ≤ F) {S : Nat} (hS : S < 32) {w : Nat} {what : Int32} {y z : List Nat} (yL : cx_L n y) (yl : cx_l n A y ≤ 20) (hz : tk n A (bt S) y z) (hq : sq n A y (J 32) 0) {v : Int32} (hv : lst n (fun j => bt S j ∧ dn n A y j) v) (Q : Option (Int32 × List mE) → Prop) (hQ : ∀ f I1 J1, wd (I1 42) 0 z → (∀ c, c ≠ 42 → I1 c = I c) → (∀ c, c ≠ 32 → J1 c = J c) → Q (m186_50 F (f + 1) 26 (nI w) (nI S) what (nI z.length) (gI 1) (mkH (hs l s d tl) I1 J1))) : Q (m186_50 F F 26 (nI w) (nI S) what (nI 0) v (mkH (hs l s d tl) I J)) := by
  have hok := hM.1
  have hn5 := hM.2.2.1
  have hlen := tk_len hok yL hz
  refine lpm (fun f (q : hI × hJ × List Nat × Int32) => m186_50 F f 26 (nI w) (nI S) what (nI q.2.2.1.length) q.2.2.2 (mkH (hs l s d tl) q.1 q.2.1)) (fun q => z.length - q.2.2.1.length) (fun q => (∃ z2, z = q.2.2.1 ++ z2) ∧ sq n A (y ++ q.2.2.1) (q.2.1 32) 0 ∧ wd (q.1 42) 0 q.2.2.1 ∧ (∀ c, c ≠ 42 → q.1 c = I c) ∧ (∀ c, c ≠ 32 → q.2.1 c = J c) ∧ lst n (fun j => bt S j ∧ dn n A (y ++ q.2.2.1) j) q.2.2.2) Q ?_ F (I, J, [], v) ⟨⟨z, rfl⟩, by rw [List.append_nil]; exact hq, wd_nil, fun _ _ => rfl, fun _ _ => rfl, by rw [List.append_nil]; exact hv⟩ (by dsimp only; omega)
  rintro f ⟨I1, J1, z1, v1⟩ ⟨⟨z2, a1⟩, a2, a3, a4, a5, a6⟩
  dsimp only at a1 a2 a3 a4 a5 a6
  have hL1 : cx_L n (y ++ z1) := cx_L_app yL (cx_L_l (a1 ▸ hlen.1))
  have ht : tk n A (bt S) (y ++ z1) z2 := tk_app (a1 ▸ hz)
  have hl1 : cx_l n A (y ++ z1) ≤ 31 := by
    have b1 := tk_len hok hL1 ht
    rw [List.append_assoc, ← a1] at b1
    have b2 := congrArg List.length a1
    rw [List.length_append] at b2
    omega
  have hcase := lst_tk (p := bt S) (fun j hj => Iff.rfl) a6 ht
  rcases hcase with ⟨b1, b2⟩ | ⟨t, z3, b1, b2, b3⟩
  · left
    rw [b1, List.append_nil] at a1
    subst a1
    dsimp only
    rw [b2]
    exact hQ f I1 J1 a3 a4 a5
  · right
    have hz1 : z1.length < z.length := by
      rw [a1, b1, List.length_append, List.length_cons]
      omega
    have hM2 : mo_n n A (upI I1 42 z1.length (nI t)) := mo_fr hM (by rw [upI_ne (by decide), a4 26 (by decide)]) (by rw [upI_ne (by decide), a4 28 (by decide)])
    obtain ⟨J2, c1, c2, c3⟩ := th_e (l := l) (s := s) (d := d) (tl := tl) (F := F) (J := J1) hM2 (by omega) b2 hL1 a2
    have hL2 := cx_L_app hL1 (cx_L_1 b2)
    have hl2 : cx_l n A (y ++ z1 ++ [t]) ≤ 31 := by
      have := dn_1 hok hL1 b2 (by have := ht; rw [b1] at this; exact this.1.2.2.1)
      omega
    obtain ⟨v2, d1, d2⟩ := do_e (l := l) (s := s) (d := d) (tl := tl) (F := F) (J := J2) hM2 (by omega) hS hL2 hl2 c2
    show ∃ y : hI × hJ × List Nat × Int32, m186_50 F (f + 1) _ _ _ _ _ _ _ = _ ∧ _
    rw [m186_50, b3]
    simp (disch := omega) only [d_lt, if_false]
    simp (disch := omega) only [rc26, gi26_0, pi26_0, gr26_1, gr26_2, gr26_3, gr26_4, gi26_5, pi26_5, gi26_6, pi26_6, gi26_7, pi26_7, gl26_8, pl26_8, gi26_9, pi26_9, gi26_10, pi26_10, gr26_11, gi26_12, pi26_12, gr26_13, gr26_14, gi26_15, pi26_15, gi26_16, pi26_16, gr26_17, gr26_18, gi26_19, pi26_19, gr26_20, gr26_21, gr26_22, gr26_23, gr26_24, gr26_25, gr26_26, gi26_27, pi26_27, gr26_28, gr26_29, gi26_30, pi26_30, gi26_31, pi26_31, gr26_32, gr26_33, gr26_34, gr26_35, gr26_36, gr26_37, gr26_38, gr26_39, gr26_40, Option.bind_some, rI42, wI42, c1, d1, n_1, nI_add, Prod.exists]
    refine ⟨_, _, z1 ++ [t], _, by rw [List.length_append]; rfl, ⟨⟨z3, by rw [a1, b1, List.append_assoc]; rfl⟩, by rw [← List.append_assoc]; exact c2, ?_, fun c hc => (upI_ne hc).trans (a4 c hc), fun c hc => (c3 c hc).trans (a5 c hc), by rw [← List.append_assoc]; exact d2⟩, by simp; omega⟩
    have := wd_snoc (c := t) a3
    rw [Nat.zero_add] at this
    exact this
/-- coset -/
theorem csr_e (hM : mo_n n A I) (hk : km n A els I) (hF : 300 ≤ F) {S : Nat} (hS : S < 2 ^ n) {y z : List Nat} (hb : els[b]? = some y) (hz : tk n A (bt S) y z) :
    Tr (hs l s d tl) (e186 F 26 (nI b) (nI S) (nI 0) (mkH (hs l s d tl) I J)) (fun v I' J' => ∃ els', kpx n A els (y ++ z) v els' ∧ km n A els' I' ∧ rfr I I' J J') ∧ Tr (hs l s d tl) (e186 F 26 (nI b) (nI S) (nI 1) (mkH (hs l s d tl) I J)) (fun v I' J' => ∃ els', kpx n A els z.reverse v els' ∧ km n A els' I' ∧ rfr I I' J J') := by
  have hok := hM.1
  have hn5 := hM.2.2.1
  have h32 : S < 32 := by
    have := Nat.pow_le_pow_right (n := 2) (by omega) hn5
    omega
  obtain ⟨yc, yL, yl, y20, b40, yb, yw⟩ := km_c hk hb
  have hlen := tk_len hok yL hz
  obtain ⟨J1, e1, h1, h2⟩ := sqr_e (l := l) (s := s) (d := d) (tl := tl) (F := F) (J := J) hM hk (by omega) hb
  obtain ⟨v0, d1, d2⟩ := do_e (l := l) (s := s) (d := d) (tl := tl) (F := F) (J := J1) hM (by omega) h32 yL (by omega) h1
  have bwx : ∀ j, j < 2 → e137 F (nI j).toInt64 0 1 (mkH (hs l s d tl) I J) = some (nI 1, (mkH (hs l s d tl) I J)) := by
    intro j hj
    rcases bw_g (F := F) (nI j).toInt64 0 1 (mkH (hs l s d tl) I J) with ⟨h, _⟩ | ⟨_, h⟩
    · exact h
    · exfalso
      apply h
      have e0 : (0 : Int64).toInt = 0 := rfl
      have e1 : (1 : Int64).toInt = 1 := rfl
      rw [Int32.toInt_toInt64, nI_toInt (by omega), e0, e1]
      omega
  have hz20 : z.length ≤ 20 := by omega
  refine ⟨?_, ?_⟩
  · show Tr _ (m186_0 F 26 _ _ _ _) _
    unfold m186_0
    simp (disch := omega) only [rc26, gi26_0, pi26_0, gr26_1, gr26_2, gr26_3, gr26_4, gi26_5, pi26_5, gi26_6, pi26_6, gi26_7, pi26_7, gl26_8, pl26_8, gi26_9, pi26_9, gi26_10, pi26_10, gr26_11, gi26_12, pi26_12, gr26_13, gr26_14, gi26_15, pi26_15, gi26_16, pi26_16, gr26_17, gr26_18, gi26_19, pi26_19, gr26_20, gr26_21, gr26_22, gr26_23, gr26_24, gr26_25, gr26_26, gi26_27, pi26_27, gr26_28, gr26_29, gi26_30, pi26_30, gi26_31, pi26_31, gr26_32, gr26_33, gr26_34, gr26_35, gr26_36, gr26_37, gr26_38, gr26_39, gr26_40, Option.bind_some, ie1 hk hb, ss1 hM hS, d_ne, d_eq, bwx 0 (by omega), n_0, e1, d1]
    rw [if_pos (by omega), if_neg (by omega), if_pos (by omega)]
    refine cs_l (l := l) (s := s) (d := d) (tl := tl) (J := J1) hM hF h32 yL (by omega) hz h1 d2 (fun r => Tr (hs l s d tl) r _) ?_
    intro f I2 J2 k1 k2 k3
    have hrf2 : km n A els I2 := km_fr hk (by rw [k2 26 (by decide)]) (k2 34 (by decide)) (k2 35 (by decide))
    have hk0 := km_rf hrf2 (rf_0 I2 (nI 0))
    have hM2 : mo_n n A I2 := mo_fr hM (by rw [k2 26 (by decide)]) (k2 28 (by decide))
    obtain ⟨I3, c1, c2, c3⟩ := pa_e (l := l) (s := s) (d := d) (tl := tl) (F := F) (J := J2) hk0 (by omega) hb (rw0_0 I2) (by simp; omega)
    have hrf3 := rf_tr (rf_0 I2 (nI 0)) c3
    rw [m186_50]
    simp (disch := omega) only [m_ltk, if_true]
    simp (disch := omega) only [rc26, gi26_0, pi26_0, gr26_1, gr26_2, gr26_3, gr26_4, gi26_5, pi26_5, gi26_6, pi26_6, gi26_7, pi26_7, gl26_8, pl26_8, gi26_9, pi26_9, gi26_10, pi26_10, gr26_11, gi26_12, pi26_12, gr26_13, gr26_14, gi26_15, pi26_15, gi26_16, pi26_16, gr26_17, gr26_18, gi26_19, pi26_19, gr26_20, gr26_21, gr26_22, gr26_23, gr26_24, gr26_25, gr26_26, gi26_27, pi26_27, gr26_28, gr26_29, gi26_30, pi26_30, gi26_31, pi26_31, gr26_32, gr26_33, gr26_34, gr26_35, gr26_36, gr26_37, gr26_38, gr26_39, gr26_40, Option.bind_some, n_0, d_ne]
    rw [if_neg (by omega)]
    rw [c1]
    simp (disch := omega) only [Option.bind_some]
    have h42 : wd (I3 42) 0 z := by rw [hrf3.1 42 (by decide) (by decide)]; exact k1
    refine lpc (fun f k (I4 : hI) => m186_100 F f 26 (nI z.length) (nI k) (mkH (hs l s d tl) I4 J2)) z.length (fun k I4 => rw0 (y ++ z.take k) I4 ∧ rf I2 I4) (fun r => Tr (hs l s d tl) r _) ?_ ?_ F 0 I3 (by omega) (by omega) ⟨by rw [List.take_zero, List.append_nil]; exact c2, hrf3⟩
    · rintro f I4 ⟨m1, m2⟩
      rw [List.take_length] at m1
      obtain ⟨v, I5, J5, e5, els', m5, m6, m7⟩ := kro_e (l := l) (s := s) (d := d) (tl := tl) (F := F) (J := J2) (mo_rf hM2 m2) (km_rf hrf2 m2) hF (cx_L_app yL hlen.1) (by simp; omega) (by omega) m1
      show Tr _ (m186_100 F (f + 1) _ _ _ _) _
      rw [m186_100]
      simp (disch := omega) only [c_ge]
      rw [if_pos (by omega)]
      unfold m186_155
      simp (disch := omega) only [rc26, Option.bind_some, e5]
      refine Tr_ret ⟨els', m5, m6, rfr_tr (rfr_tr ?_ (rfr_of m2 (fun _ _ => rfl))) m7⟩
      exact ⟨fun c _ _ _ _ a5 _ _ => k2 c a5, fun f _ _ _ => by rw [k2 26 (by decide)], fun c a1 _ _ _ _ _ => (k3 c a1).trans (h2 c a1)⟩
    · rintro f k I4 hkz ⟨m1, m2⟩
      right
      obtain ⟨t, ht⟩ := ex_at hkz
      have h42k : I4 42 k = nI t := by
        have := k1 k t ht
        rw [Nat.zero_add] at this
        rw [m2.1 42 (by decide) (by decide), this]
      obtain ⟨I5, c5, c6, c7⟩ := pu_e (l := l) (s := s) (d := d) (tl := tl) (F := F) (J := J2) m1 (by rw [List.length_append, List.length_take]; omega) t
      show ∃ y, m186_100 F (f + 1) _ _ _ _ = _ ∧ _
      rw [m186_100]
      simp (disch := omega) only [rc26, gi26_0, pi26_0, gr26_1, gr26_2, gr26_3, gr26_4, gi26_5, pi26_5, gi26_6, pi26_6, gi26_7, pi26_7, gl26_8, pl26_8, gi26_9, pi26_9, gi26_10, pi26_10, gr26_11, gi26_12, pi26_12, gr26_13, gr26_14, gi26_15, pi26_15, gi26_16, pi26_16, gr26_17, gr26_18, gi26_19, pi26_19, gr26_20, gr26_21, gr26_22, gr26_23, gr26_24, gr26_25, gr26_26, gi26_27, pi26_27, gr26_28, gr26_29, gi26_30, pi26_30, gi26_31, pi26_31, gr26_32, gr26_33, gr26_34, gr26_35, gr26_36, gr26_37, gr26_38, gr26_39, gr26_40, Option.bind_some, n_0, n_1, n_2, n_3, n_4, n_5, n_6, n_8, n_9, n_10, n_12, n_20, n_25, n_27, n_30, n_31, n_32, n_40, n_48, n_57, n_59, n_63, n_96, n_97, n_120, n_122, n_255, n_256, n_300, n_301, n_512, n_1000, n_1001, n_1002, n_1003, n_1004, n_1005, n_2000, n_2304, n_4096, nI_add, pk_mul, n_m, c_ge, c_gt, c_lt, c_le, c_eq, c_ne, d_lt, d_ge, d_ne, d_eq, d_gt, d_le, m_ltk, m_gek, m_eq, m_ne, rI42, wI42, h42k, c5]
      rw [if_neg (by omega)]
      exact ⟨_, rfl, by rw [take_app ht]; exact c6, rf_tr m2 c7⟩
  · show Tr _ (m186_0 F 26 _ _ _ _) _
    unfold m186_0
    simp (disch := omega) only [rc26, gi26_0, pi26_0, gr26_1, gr26_2, gr26_3, gr26_4, gi26_5, pi26_5, gi26_6, pi26_6, gi26_7, pi26_7, gl26_8, pl26_8, gi26_9, pi26_9, gi26_10, pi26_10, gr26_11, gi26_12, pi26_12, gr26_13, gr26_14, gi26_15, pi26_15, gi26_16, pi26_16, gr26_17, gr26_18, gi26_19, pi26_19, gr26_20, gr26_21, gr26_22, gr26_23, gr26_24, gr26_25, gr26_26, gi26_27, pi26_27, gr26_28, gr26_29, gi26_30, pi26_30, gi26_31, pi26_31, gr26_32, gr26_33, gr26_34, gr26_35, gr26_36, gr26_37, gr26_38, gr26_39, gr26_40, Option.bind_some, ie1 hk hb, ss1 hM hS, d_ne, d_eq, bwx 1 (by omega), n_0, e1, d1]
    rw [if_pos (by omega), if_neg (by omega), if_pos (by omega)]
    refine cs_l (l := l) (s := s) (d := d) (tl := tl) (J := J1) hM hF h32 yL (by omega) hz h1 d2 (fun r => Tr (hs l s d tl) r _) ?_
    intro f I2 J2 k1 k2 k3
    have hrf2 : km n A els I2 := km_fr hk (by rw [k2 26 (by decide)]) (k2 34 (by decide)) (k2 35 (by decide))
    have hM2 : mo_n n A I2 := mo_fr hM (by rw [k2 26 (by decide)]) (k2 28 (by decide))
    rw [m186_50]
    simp (disch := omega) only [m_ltk, if_true]
    simp (disch := omega) only [rc26, gi26_0, pi26_0, gr26_1, gr26_2, gr26_3, gr26_4, gi26_5, pi26_5, gi26_6, pi26_6, gi26_7, pi26_7, gl26_8, pl26_8, gi26_9, pi26_9, gi26_10, pi26_10, gr26_11, gi26_12, pi26_12, gr26_13, gr26_14, gi26_15, pi26_15, gi26_16, pi26_16, gr26_17, gr26_18, gi26_19, pi26_19, gr26_20, gr26_21, gr26_22, gr26_23, gr26_24, gr26_25, gr26_26, gi26_27, pi26_27, gr26_28, gr26_29, gi26_30, pi26_30, gi26_31, pi26_31, gr26_32, gr26_33, gr26_34, gr26_35, gr26_36, gr26_37, gr26_38, gr26_39, gr26_40, Option.bind_some, n_0, n_1, d_ne]
    rw [if_pos (by omega)]
    refine lpd (fun f c (I4 : hI) => m186_133 F f 26 (nI c - nI 1) (mkH (hs l s d tl) I4 J2)) (fun c I4 => c ≤ z.length ∧ rw0 (z.drop c).reverse I4 ∧ rf I2 I4) (fun r => Tr (hs l s d tl) r _) ?_ ?_ F z.length (upI I2 26 15 (nI 0)) (by omega) ⟨Nat.le_refl _, by rw [List.drop_length]; exact rw0_0 I2, rf_0 I2 (nI 0)⟩
    · rintro f I4 ⟨-, m1, m2⟩
      rw [List.drop_zero] at m1
      obtain ⟨v, I5, J5, e5, els', m5, m6, m7⟩ := kro_e (l := l) (s := s) (d := d) (tl := tl) (F := F) (J := J2) (mo_rf hM2 m2) (km_rf hrf2 m2) hF (cx_L_rev hlen.1) (by simp; omega) (by rw [cx_l_rev hok hlen.1]; have := cx_l_len (A := A) hlen.1; omega) m1
      show Tr _ (m186_133 F (f + 1) _ _ _) _
      rw [m186_133]
      simp (disch := omega) only [z_m1, m_ltk, if_true]
      unfold m186_155
      simp (disch := omega) only [rc26, Option.bind_some, e5]
      refine Tr_ret ⟨els', m5, m6, rfr_tr (rfr_tr ?_ (rfr_of m2 (fun _ _ => rfl))) m7⟩
      exact ⟨fun c _ _ _ _ a5 _ _ => k2 c a5, fun f _ _ _ => by rw [k2 26 (by decide)], fun c a1 _ _ _ _ _ => (k3 c a1).trans (h2 c a1)⟩
    · rintro f c I4 ⟨m0, m1, m2⟩
      right
      obtain ⟨t, ht⟩ := ex_at (show c < z.length by omega)
      have h42k : I4 42 c = nI t := by
        have := k1 c t ht
        rw [Nat.zero_add] at this
        rw [m2.1 42 (by decide) (by decide), this]
      obtain ⟨I5, c5, c6, c7⟩ := pu_e (l := l) (s := s) (d := d) (tl := tl) (F := F) (J := J2) m1 (by simp; omega) t
      show ∃ y, m186_133 F (f + 1) _ _ _ = _ ∧ _
      rw [m186_133]
      simp (disch := omega) only [pk_sub1, d_lt, if_false]
      simp (disch := omega) only [rc26, gi26_0, pi26_0, gr26_1, gr26_2, gr26_3, gr26_4, gi26_5, pi26_5, gi26_6, pi26_6, gi26_7, pi26_7, gl26_8, pl26_8, gi26_9, pi26_9, gi26_10, pi26_10, gr26_11, gi26_12, pi26_12, gr26_13, gr26_14, gi26_15, pi26_15, gi26_16, pi26_16, gr26_17, gr26_18, gi26_19, pi26_19, gr26_20, gr26_21, gr26_22, gr26_23, gr26_24, gr26_25, gr26_26, gi26_27, pi26_27, gr26_28, gr26_29, gi26_30, pi26_30, gi26_31, pi26_31, gr26_32, gr26_33, gr26_34, gr26_35, gr26_36, gr26_37, gr26_38, gr26_39, gr26_40, Option.bind_some, rI42, wI42, h42k, c5, n_1, n_m, p_m1]
      refine ⟨_, rfl, by omega, ?_, rf_tr m2 c7⟩
      rw [drop_c ht, List.reverse_cons]
      exact c6
/-- reduce -/
theorem red_e (hM : mo_n n A I) (hF : 300 ≤ F) {S : Nat} (hS : S < 32) {x y z : List Nat} (hx : cx_L n x) (hl : cx_l n A x ≤ 31) (h64 : x.length + cx_l n A x ≤ 64) (hr : rw0 x I) (hz : tk n A (bt S) x z) (hy : cx_c n A y) (hg : cx_g n A y = cx_g n A (x ++ z)) :
    Tr (hs l s d tl) (e187 F 26 (nI S) (mkH (hs l s d tl) I J)) (fun _ I' J' => rw0 y I' ∧ rf I I' ∧ ∀ c, c ≠ 32 → J' c = J c) := by
  have hok := hM.1
  have hn5 := hM.2.2.1
  have hlen := tk_len hok hx hz
  have x64 : x.length ≤ 64 := by omega
  show Tr _ (m187_0 F 26 _ _) _
  unfold m187_0
  simp (disch := omega) only [rc26, gi26_0, pi26_0, gr26_1, gr26_2, gr26_3, gr26_4, gi26_5, pi26_5, gi26_6, pi26_6, gi26_7, pi26_7, gl26_8, pl26_8, gi26_9, pi26_9, gi26_10, pi26_10, gr26_11, gi26_12, pi26_12, gr26_13, gr26_14, gi26_15, pi26_15, gi26_16, pi26_16, gr26_17, gr26_18, gi26_19, pi26_19, gr26_20, gr26_21, gr26_22, gr26_23, gr26_24, gr26_25, gr26_26, gi26_27, pi26_27, gr26_28, gr26_29, gi26_30, pi26_30, gi26_31, pi26_31, gr26_32, gr26_33, gr26_34, gr26_35, gr26_36, gr26_37, gr26_38, gr26_39, gr26_40, Option.bind_some, n_0, bg_e (by omega : 30 ≤ F)]
  refine lpc (fun f k (K : hJ) => m187_6 F f 26 (nI S) (nI k) (mkH (hs l s d tl) I K)) x.length (fun k K => sq n A (x.take k) (K 32) 0 ∧ ∀ c, c ≠ 32 → K c = J c) (fun r => Tr (hs l s d tl) r _) ?_ ?_ F 0 (rwJ J 32 0 25 (fun q => zJ (if q / 5 = q % 5 then 1 else 0))) (by omega) (by omega) ⟨sq_nil, fun c hc => rwJ_ne hc⟩
  · rintro f K ⟨h1, h2⟩
    rw [List.take_length] at h1
    obtain ⟨v0, d1, d2⟩ := do_e (l := l) (s := s) (d := d) (tl := tl) (F := F) (J := K) hM (by omega) hS hx hl h1
    show Tr _ (m187_6 F (f + 1) _ _ _ _) _
    rw [m187_6]
    simp (disch := omega) only [rc26, gi26_0, pi26_0, gr26_1, gr26_2, gr26_3, gr26_4, gi26_5, pi26_5, gi26_6, pi26_6, gi26_7, pi26_7, gl26_8, pl26_8, gi26_9, pi26_9, gi26_10, pi26_10, gr26_11, gi26_12, pi26_12, gr26_13, gr26_14, gi26_15, pi26_15, gi26_16, pi26_16, gr26_17, gr26_18, gi26_19, pi26_19, gr26_20, gr26_21, gr26_22, gr26_23, gr26_24, gr26_25, gr26_26, gi26_27, pi26_27, gr26_28, gr26_29, gi26_30, pi26_30, gi26_31, pi26_31, gr26_32, gr26_33, gr26_34, gr26_35, gr26_36, gr26_37, gr26_38, gr26_39, gr26_40, Option.bind_some, hr.2, c_ge, d1]
    rw [if_pos (by omega)]
    refine lpm (fun f (q : hI × hJ × List Nat × Int32) => m187_36 F f 26 (nI S) q.2.2.2 (mkH (hs l s d tl) q.1 q.2.1)) (fun q => z.length - q.2.2.1.length) (fun q => (∃ z2, z = q.2.2.1 ++ z2) ∧ sq n A (x ++ q.2.2.1) (q.2.1 32) 0 ∧ rw0 (x ++ q.2.2.1) q.1 ∧ rf I q.1 ∧ (∀ c, c ≠ 32 → q.2.1 c = J c) ∧ lst n (fun j => bt S j ∧ dn n A (x ++ q.2.2.1) j) q.2.2.2) (fun r => Tr (hs l s d tl) r _) ?_ F (I, K, [], v0) ⟨⟨z, rfl⟩, by rw [List.append_nil]; exact h1, by rw [List.append_nil]; exact hr, rf_rf I, h2, by rw [List.append_nil]; exact d2⟩ (by dsimp only; omega)
    rintro f ⟨I1, J1, z1, v1⟩ ⟨⟨z2, a1⟩, a2, a3, a4, a5, a6⟩
    dsimp only at a1 a2 a3 a4 a5 a6
    have hL1 : cx_L n (x ++ z1) := cx_L_app hx (cx_L_l (a1 ▸ hlen.1))
    have ht : tk n A (bt S) (x ++ z1) z2 := tk_app (a1 ▸ hz)
    have hl1 : cx_l n A (x ++ z1) ≤ 31 := by
      have b1 := tk_len hok hL1 ht
      rw [List.append_assoc, ← a1] at b1
      have b2 := congrArg List.length a1
      rw [List.length_append] at b2
      omega
    have hM1 := mo_rf hM a4
    have hcase := lst_tk (p := bt S) (fun j hj => Iff.rfl) a6 ht
    show Tr _ (m187_36 F (f + 1) _ _ _ _) _ ∨ ∃ y : hI × hJ × List Nat × Int32, m187_36 F (f + 1) _ _ _ _ = _ ∧ _
    rw [m187_36]
    rcases hcase with ⟨b1, b2⟩ | ⟨t, z3, b1, b2, b3⟩
    · left
      rw [b1, List.append_nil] at a1
      subst a1
      rw [b2]
      simp (disch := omega) only [m_ltk, if_true]
      obtain ⟨_, I2, J2, e2, m1, m2, m3⟩ := sho_e (l := l) (s := s) (d := d) (tl := tl) (F := F) (J := J1) hM1 (by omega) hL1 (by rw [List.length_append]; omega) hl1 a3 hy hg
      simp (disch := omega) only [rc26, Option.bind_some, e2]
      exact Tr_ret ⟨m1, rf_tr a4 m2, fun c hc => (m3 c hc).trans (a5 c hc)⟩
    · right
      have hz1 : z1.length < z.length := by
        rw [a1, b1, List.length_append, List.length_cons]
        omega
      rw [b3]
      simp (disch := omega) only [d_lt, if_false]
      obtain ⟨I2, c1, c2, c3⟩ := pu_e (l := l) (s := s) (d := d) (tl := tl) (F := F) (J := J1) a3 (by rw [List.length_append]; omega) t
      have hM2 := mo_rf hM1 c3
      obtain ⟨J2, c4, c5, c6⟩ := th_e (l := l) (s := s) (d := d) (tl := tl) (F := F) (J := J1) hM2 (by omega) b2 hL1 a2
      have hL2 := cx_L_app hL1 (cx_L_1 b2)
      have hl2 : cx_l n A (x ++ z1 ++ [t]) ≤ 31 := by
        have := dn_1 hok hL1 b2 (by have := ht; rw [b1] at this; exact this.1.2.2.1)
        omega
      obtain ⟨v2, d3, d4⟩ := do_e (l := l) (s := s) (d := d) (tl := tl) (F := F) (J := J2) hM2 (by omega) hS hL2 hl2 c5
      simp (disch := omega) only [rc26, Option.bind_some, c1, c4, d3, Prod.exists]
      exact ⟨_, _, z1 ++ [t], _, rfl, ⟨⟨z3, by rw [a1, b1, List.append_assoc]; rfl⟩, by rw [← List.append_assoc]; exact c5, by rw [← List.append_assoc]; exact c2, rf_tr a4 c3, fun c hc => (c6 c hc).trans (a5 c hc), by rw [← List.append_assoc]; exact d4⟩, by simp; omega⟩
  · rintro f k K hkx ⟨h1, h2⟩
    right
    obtain ⟨t, ht⟩ := ex_at hkx
    have htn := cx_L_at hx ht
    have hbt : I 33 k = nI t := by
      have := hr.1 k t ht
      rw [Nat.zero_add] at this
      exact this
    obtain ⟨J2, c1, c2, c3⟩ := th_e (l := l) (s := s) (d := d) (tl := tl) (F := F) (J := K) hM (by omega) htn (take_L hx k) h1
    show ∃ y, m187_6 F (f + 1) _ _ _ _ = _ ∧ _
    rw [m187_6]
    simp (disch := omega) only [rc26, gi26_0, pi26_0, gr26_1, gr26_2, gr26_3, gr26_4, gi26_5, pi26_5, gi26_6, pi26_6, gi26_7, pi26_7, gl26_8, pl26_8, gi26_9, pi26_9, gi26_10, pi26_10, gr26_11, gi26_12, pi26_12, gr26_13, gr26_14, gi26_15, pi26_15, gi26_16, pi26_16, gr26_17, gr26_18, gi26_19, pi26_19, gr26_20, gr26_21, gr26_22, gr26_23, gr26_24, gr26_25, gr26_26, gi26_27, pi26_27, gr26_28, gr26_29, gi26_30, pi26_30, gi26_31, pi26_31, gr26_32, gr26_33, gr26_34, gr26_35, gr26_36, gr26_37, gr26_38, gr26_39, gr26_40, Option.bind_some, hr.2, c_ge, rI33, wI33, hbt, c1, n_1, nI_add]
    rw [if_neg (by omega)]
    exact ⟨_, rfl, by rw [take_c ht]; exact c2, fun e he => (c3 e he).trans (h2 e he)⟩
/-- reverse -/
theorem rev_e (hF : 100 ≤ F) {x : List Nat} (hr : rw0 x I) (h64 : x.length ≤ 64) : ∃ I', e188 F 26 (mkH (hs l s d tl) I J) = some ((), (mkH (hs l s d tl) I' J)) ∧ rw0 x.reverse I' ∧ rf I I' := by
  have key := lpm (fun f (q : hI × Nat) => m188_2 F f 26 (nI q.2) (mkH (hs l s d tl) q.1 J)) (fun q => x.length - q.2) (fun q => 2 * q.2 ≤ x.length + 1 ∧ q.1 26 15 = nI x.length ∧ rf I q.1 ∧ ∀ i t, x[i]? = some t → q.1 33 (if i < q.2 ∨ x.length ≤ i + q.2 then x.length - 1 - i else i) = nI t) (fun r => ∃ I', r = some ((), (mkH (hs l s d tl) I' J)) ∧ rw0 x.reverse I' ∧ rf I I') ?_ F (I, 0) ⟨by dsimp only; omega, hr.2, rf_rf I, fun i t hi => by
    have hil := (List.getElem?_eq_some_iff.mp hi).1
    dsimp only
    rw [if_neg (by omega)]
    have := hr.1 i t hi
    rw [Nat.zero_add] at this
    exact this⟩ (by dsimp only; omega)
  · have e : e188 F 26 (mkH (hs l s d tl) I J) = m188_2 F F 26 (nI 0) (mkH (hs l s d tl) I J) := rfl
    rw [e]
    exact key
  · rintro f ⟨I1, k⟩ ⟨h0, h1, h2, h3⟩
    dsimp only at h0 h1 h2 h3
    show (∃ I', m188_2 F (f + 1) _ _ _ = _ ∧ _) ∨ ∃ y : hI × Nat, m188_2 F (f + 1) _ _ _ = _ ∧ _
    rw [m188_2]
    by_cases hlt : 2 * k + 1 < x.length
    · right
      obtain ⟨t, ht⟩ := ex_at (show k < x.length by omega)
      obtain ⟨r, hrr⟩ := ex_at (show x.length - 1 - k < x.length by omega)
      have g1 : I1 33 k = nI t := by
        have := h3 k t ht
        rw [if_neg (by omega)] at this
        exact this
      have g2 : I1 33 (x.length - 1 - k) = nI r := by
        have := h3 _ r hrr
        rw [if_neg (by omega)] at this
        exact this
      have g3 : upI I1 33 k (nI r) 26 15 = nI x.length := by rw [upI_ne (by decide), h1]
      simp (disch := omega) only [rc26, gi26_0, pi26_0, gr26_1, gr26_2, gr26_3, gr26_4, gi26_5, pi26_5, gi26_6, pi26_6, gi26_7, pi26_7, gl26_8, pl26_8, gi26_9, pi26_9, gi26_10, pi26_10, gr26_11, gi26_12, pi26_12, gr26_13, gr26_14, gi26_15, pi26_15, gi26_16, pi26_16, gr26_17, gr26_18, gi26_19, pi26_19, gr26_20, gr26_21, gr26_22, gr26_23, gr26_24, gr26_25, gr26_26, gi26_27, pi26_27, gr26_28, gr26_29, gi26_30, pi26_30, gi26_31, pi26_31, gr26_32, gr26_33, gr26_34, gr26_35, gr26_36, gr26_37, gr26_38, gr26_39, gr26_40, Option.bind_some, h1, n_1, pk_sub, c_ge, rI33, wI33, g1, g2, g3, nI_add]
      rw [if_neg (by omega)]
      simp only [Prod.exists]
      refine ⟨_, k + 1, rfl, ⟨by omega, ?_, ⟨fun c c1 c2 => ?_, fun g hg => ?_⟩, fun i u hi => ?_⟩, by omega⟩
      · rw [upI_ne (by decide), g3]
      · rw [upI_ne c2, upI_ne c2]
        exact h2.1 c c1 c2
      · rw [upI_ne (by decide), upI_ne (by decide)]
        exact h2.2 g hg
      · have hil := (List.getElem?_eq_some_iff.mp hi).1
        by_cases hik : i = k
        · subst hik
          have e : (if i < i + 1 ∨ x.length ≤ i + (i + 1) then x.length - 1 - i else i) = x.length - 1 - i := if_pos (by omega)
          rw [e, upI_at, if_pos rfl]
          rw [ht] at hi
          rw [Option.some.inj hi]
        · by_cases hik2 : i = x.length - 1 - k
          · subst hik2
            have e : (if x.length - 1 - k < k + 1 ∨ x.length ≤ x.length - 1 - k + (k + 1) then x.length - 1 - (x.length - 1 - k) else x.length - 1 - k) = k := by
              rw [if_pos (by omega)]
              omega
            rw [e, upI_at, if_neg (by omega), upI_at, if_pos rfl]
            rw [hrr] at hi
            rw [Option.some.inj hi]
          · have := h3 i u hi
            by_cases hc : i < k ∨ x.length ≤ i + k
            · rw [if_pos hc] at this
              have e : (if i < k + 1 ∨ x.length ≤ i + (k + 1) then x.length - 1 - i else i) = x.length - 1 - i := if_pos (by omega)
              rw [e, upI_at, if_neg (by omega), upI_at, if_neg (by omega)]
              exact this
            · rw [if_neg hc] at this
              have e : (if i < k + 1 ∨ x.length ≤ i + (k + 1) then x.length - 1 - i else i) = i := if_neg (by omega)
              rw [e, upI_at, if_neg (by omega), upI_at, if_neg (by omega)]
              exact this
    · left
      simp (disch := omega) only [rc26, gi26_0, pi26_0, gr26_1, gr26_2, gr26_3, gr26_4, gi26_5, pi26_5, gi26_6, pi26_6, gi26_7, pi26_7, gl26_8, pl26_8, gi26_9, pi26_9, gi26_10, pi26_10, gr26_11, gi26_12, pi26_12, gr26_13, gr26_14, gi26_15, pi26_15, gi26_16, pi26_16, gr26_17, gr26_18, gi26_19, pi26_19, gr26_20, gr26_21, gr26_22, gr26_23, gr26_24, gr26_25, gr26_26, gi26_27, pi26_27, gr26_28, gr26_29, gi26_30, pi26_30, gi26_31, pi26_31, gr26_32, gr26_33, gr26_34, gr26_35, gr26_36, gr26_37, gr26_38, gr26_39, gr26_40, Option.bind_some, h1, n_1]
      have hcond : mc2 .ge (nI k) (nI x.length - nI 1 - nI k) = true := by
        show decide (nI x.length - nI 1 - nI k ≤ nI k) = true
        rw [decide_eq_true_eq, Int32.le_iff_toInt_le, nI_toInt (by omega)]
        by_cases hx0 : x.length = 0
        · have hk0 : k = 0 := by omega
          rw [hx0, hk0]
          decide
        · rw [pk_sub (by omega), pk_sub_toInt (by omega) (by omega)]
          omega
      rw [if_pos hcond]
      refine ⟨I1, rfl, ⟨fun i t hi => ?_, by rw [List.length_reverse]; exact h1⟩, h2⟩
      have hil := (List.getElem?_eq_some_iff.mp hi).1
      rw [List.length_reverse] at hil
      rw [List.getElem?_reverse hil] at hi
      have := h3 _ t hi
      rw [Nat.zero_add]
      by_cases hc : x.length - 1 - i < k ∨ x.length ≤ x.length - 1 - i + k
      · rw [if_pos hc, show x.length - 1 - (x.length - 1 - i) = i by omega] at this
        exact this
      · rw [if_neg hc] at this
        have e : x.length - 1 - i = i := by omega
        rw [e] at this
        exact this
end S
