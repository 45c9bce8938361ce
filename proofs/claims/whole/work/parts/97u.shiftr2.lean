/-! The reference: shifts. -/
section S
variable {l s d : Value} {tl : List hQ} {F : Nat} {I : hI} {J : hJ} {n : Nat} {A : Nat → Nat → Int}
def shB (n : Nat) (A : Nat → Nat → Int) (w : List Nat) : Prop := ∃ W', lds n A W' ∧ (∀ (i : Nat) (z : List Nat), W'[i]? = some z → cx_L n z ∧ rch n A w z) ∧ 300 < W'.length
def shZ (n : Nat) (A : Nat → Nat → Int) (I : hI) (J : hJ) (W : List (List Nat)) (I' : hI) (J' : hJ) : Prop := shR n A W I' ∧ W.length ≤ 300 ∧ shf2 I I' J J'
theorem mo_sf {I' : hI} {J' : hJ} (h : mo_n n A I) (hs2 : shf2 I I' J J') : mo_n n A I' := mo_fr h (hs2.2.1 0 (by decide)) (hs2.1 28 (by decide) (by decide) (by decide) (by decide))
/-- one letter of one word -/
theorem sh_1 (hM : mo_n n A I) (hF : 9000 ≤ F) {w : List Nat} (wL : cx_L n w) (w20 : cx_l n A w ≤ 20) {k : Int32} {rc48 : Nat → Int32 → Int32 → Int32 → List mE → Option (Int32 × List mE)} {rc57 : Nat → Int32 → Int32 → Int32 → Int32 → List mE → Option (Int32 × List mE)} {W : List (List Nat)} {x t : Nat} (ht : t < n) {u : List Nat} (hu : W[x]? = some u) (hq : shQ n A w W x t) : ∀ (f j : Nat) (K : hI × hJ), j ≤ u.length → u.length < j + f → (rw0 (t :: u.take j) K.1 ∧ shZ n A I J W K.1 K.2) → (∃ (I' : hI) (J' : hJ), m197_80 F rc48 rc57 f 26 k (nI W.length) (nI x) (nI t) (nI j) (mkH (hs l s d tl) K.1 K.2) = some (-1005, (mkH (hs l s d tl) I' J')) ∧ shB n A w ∧ shf2 I I' J J') ∨ ∃ (I' : hI) (J' : hJ) (W' : List (List Nat)), m197_80 F rc48 rc57 f 26 k (nI W.length) (nI x) (nI t) (nI j) (mkH (hs l s d tl) K.1 K.2) = rc57 26 k (nI W'.length) (nI x) (nI (t + 1)) (mkH (hs l s d tl) I' J') ∧ shQ n A w W' x (t + 1) ∧ shZ n A I J W' I' J' ∧ W'[x]? = some u := by
  have hok := hM.1
  have hn5 := hM.2.2.1
  have hxl := (List.getElem?_eq_some_iff.mp hu).1
  obtain ⟨uL, ur⟩ := hq.2.2.1 x u hu
  have uw := (rch_L wL ur).2
  refine lpc (σ := hI × hJ) (R := Option (Int32 × List mE)) (fun f j K => m197_80 F rc48 rc57 f 26 k (nI W.length) (nI x) (nI t) (nI j) (mkH (hs l s d tl) K.1 K.2)) u.length (fun j K => rw0 (t :: u.take j) K.1 ∧ shZ n A I J W K.1 K.2) (fun r => (∃ (I' : hI) (J' : hJ), r = some (-1005, (mkH (hs l s d tl) I' J')) ∧ shB n A w ∧ shf2 I I' J J') ∨ ∃ (I' : hI) (J' : hJ) (W' : List (List Nat)), r = rc57 26 k (nI W'.length) (nI x) (nI (t + 1)) (mkH (hs l s d tl) I' J') ∧ shQ n A w W' x (t + 1) ∧ shZ n A I J W' I' J' ∧ W'[x]? = some u) ?_ ?_
  · rintro f ⟨K, M⟩ ⟨k1, k2, k3, k4⟩
    have k1 : rw0 (t :: u.take u.length) K := k1
    have k2 : shR n A W K := k2
    have k3 : W.length ≤ 300 := k3
    have k4 : shf2 I K J M := k4
    rw [List.take_length] at k1
    obtain ⟨uc, u20, ub, _⟩ := k2 x u hu
    have ul : cx_l n A u = u.length := cx_c_l uc
    obtain ⟨K1, e1, r1, f1⟩ := pu_e (l := l) (s := s) (d := d) (tl := tl) (F := F) (J := M) k1 (by simp; omega) t
    have r1 : rw0 (t :: (u ++ [t])) K1 := r1
    have utL : cx_L n (u ++ [t]) := cx_L_app uL (cx_L_1 ht)
    have zL : cx_L n (t :: (u ++ [t])) := cx_L_cons ht utL
    have zl : cx_l n A (t :: (u ++ [t])) ≤ 22 := Nat.le_trans (cx_l_len zL) (by simp; omega)
    obtain ⟨y, yc, yg⟩ := cx_c_ex hok _ zL rfl
    have yl : cx_l n A y = y.length := cx_c_l yc
    have yz : cx_l n A y = cx_l n A (t :: (u ++ [t])) := cx_l_eq yg
    have hM1 : mo_n n A K1 := mo_rf (mo_sf hM k4) f1
    obtain ⟨_, K2, M2, e2, r2, f2, j2⟩ := sho_e (l := l) (s := s) (d := d) (tl := tl) (F := F) (J := M) hM1 (by omega) zL (by simp; omega) (by omega) r1 yc yg
    have k42 : shf2 I K2 J M2 := shf2_tr k4 (shf2_of (rf_tr f1 f2) j2)
    have R2 : shR n A W K2 := shR_rf k2 (rf_tr f1 f2)
    have ub2 : K2 43 x = nI u.length := (R2 x u hu).2.2.1
    have e0 : m197_80 F rc48 rc57 (f + 1) 26 k (nI W.length) (nI x) (nI t) (nI u.length) (mkH (hs l s d tl) K M) = if mc2 .gt (nI y.length) (nI u.length) = true then m197_166 F rc48 rc57 26 k (nI W.length) (nI x) (nI t) (mkH (hs l s d tl) K2 M2) else (e195 F 26 (nI W.length) (mkH (hs l s d tl) K2 M2)).bind fun q12 => if mc1 .ne q12.1 = true then m197_166 F rc48 rc57 26 k (nI W.length) (nI x) (nI t) q12.2 else if mc2 .ne (nI W.length) 300 = true then (rcv 11 q12.2 26).bind fun u17 => (e196 F 26 (nI W.length) q12.2).bind fun q16 => m197_166 F rc48 rc57 26 k (nI W.length + 1) (nI x) (nI t) q16.2 else some ((-1005), q12.2) := by
      rw [m197_80, gr26_28, Option.bind_some, rI43 (by omega), Option.bind_some, ub, if_pos (show mc2 .ge (nI u.length) (nI u.length) = true by rw [c_ge (by omega) (by omega)]; omega), rc26, Option.bind_some, e1, Option.bind_some, rc26, Option.bind_some, e2, Option.bind_some, gi26_15, Option.bind_some, r2.2, gr26_28, Option.bind_some, rI43 (by omega), Option.bind_some, ub2, rc26, Option.bind_some]
    have e166 : ∀ (v : Int32) hp, m197_166 F rc48 rc57 26 k v (nI x) (nI t) hp = rc57 26 k v (nI x) (nI (t + 1)) hp := by
      intro v hp
      unfold m197_166
      rw [n_1, nI_add]
    show (∃ (I' : hI) (J' : hJ), m197_80 F rc48 rc57 (f + 1) 26 k (nI W.length) (nI x) (nI t) (nI u.length) (mkH (hs l s d tl) K M) = _ ∧ _) ∨ ∃ (I' : hI) (J' : hJ) (W' : List (List Nat)), m197_80 F rc48 rc57 (f + 1) 26 k (nI W.length) (nI x) (nI t) (nI u.length) (mkH (hs l s d tl) K M) = _ ∧ _
    rw [e0]
    by_cases hle : y.length ≤ u.length
    · rw [if_neg (show ¬ mc2 .gt (nI y.length) (nI u.length) = true by rw [c_gt (by omega) (by omega)]; omega)]
      have hzle : cx_l n A (t :: (u ++ [t])) ≤ cx_l n A u := by omega
      rcases iss_e (l := l) (s := s) (d := d) (tl := tl) (F := F) (J := M2) hF hn5 R2 k3 (cx_c_L yc) r2 (by omega) with ⟨e3, i, hi⟩ | ⟨e3, hno⟩
      · right
        rw [e3, Option.bind_some, if_pos (show mc1 .ne (nI 1) = true by decide), e166]
        exact ⟨K2, M2, W, rfl, shQ_n hq hu (Or.inr ⟨i, y, hi, yg⟩), ⟨R2, k3, k42⟩, hu⟩
      · rw [e3, Option.bind_some, if_neg (show ¬ mc1 .ne (nI 0) = true by decide)]
        have hnew : ∀ (m : Nat) (z : List Nat), W[m]? = some z → cx_g n A z ≠ cx_g n A y := fun m z hz hg => by
          have := cx_c_un hok (R2 m z hz).1 yc hg
          rw [this] at hz
          exact hno m hz
        by_cases h300 : W.length = 300
        · left
          rw [if_neg (show ¬ mc2 .ne (nI W.length) 300 = true by rw [n_300, c_ne (by omega) (by omega)]; omega)]
          obtain ⟨b1, b2⟩ := shQ_b hq hu ht hzle (cx_c_L yc) yg hnew
          exact ⟨K2, M2, rfl, ⟨W ++ [y], b1, b2, by rw [List.length_append, h300]; simp⟩, k42⟩
        · right
          obtain ⟨K3, e4, R3, f3⟩ := psh_e (l := l) (s := s) (d := d) (tl := tl) (F := F) (J := M2) hF R2 k3 yc r2 (by omega)
          rw [if_pos (show mc2 .ne (nI W.length) 300 = true by rw [n_300, c_ne (by omega) (by omega)]; exact h300), rc26, Option.bind_some, e4, Option.bind_some, n_1, nI_add, e166]
          refine ⟨K3, M2, W ++ [y], by rw [List.length_append]; rfl, shQ_a hq hu ht hzle (cx_c_L yc) yg hnew, ⟨R3, by rw [List.length_append]; simp; omega, shf2_tr k42 f3⟩, ap_l hu⟩
    · right
      rw [if_pos (show mc2 .gt (nI y.length) (nI u.length) = true by rw [c_gt (by omega) (by omega)]; omega), e166]
      exact ⟨K2, M2, W, rfl, shQ_n hq hu (Or.inl (by omega)), ⟨R2, k3, k42⟩, hu⟩
  · rintro f j ⟨K, M⟩ hj ⟨k1, k2, k3, k4⟩
    right
    have k1 : rw0 (t :: u.take j) K := k1
    have k2 : shR n A W K := k2
    have k3 : W.length ≤ 300 := k3
    have k4 : shf2 I K J M := k4
    obtain ⟨uc, u20, ub, uw2⟩ := k2 x u hu
    obtain ⟨r, hr⟩ := ex_at hj
    obtain ⟨K1, e1, r1, f1⟩ := pu_e (l := l) (s := s) (d := d) (tl := tl) (F := F) (J := M) k1 (by simp; omega) r
    refine ⟨(K1, M), ?_, ?_, shR_rf k2 f1, k3, shf2_tr k4 (shf2_of f1 (fun _ _ => rfl))⟩
    · show m197_80 F rc48 rc57 (f + 1) 26 k (nI W.length) (nI x) (nI t) (nI j) (mkH (hs l s d tl) K M) = _
      rw [m197_80, gr26_28, Option.bind_some, rI43 (by omega), Option.bind_some, ub, if_neg (show ¬ mc2 .ge (nI j) (nI u.length) = true by rw [c_ge (by omega) (by omega)]; omega), gr26_29, Option.bind_some, n_20, pk_mul, nI_add, rI44 (by omega), Option.bind_some, uw2 j r hr, rc26, Option.bind_some, e1, Option.bind_some, n_1, nI_add]
    · show rw0 (t :: u.take (j + 1)) K1
      rw [take_c hr]
      exact r1
theorem sh_2 (hM : mo_n n A I) (hF : 9000 ≤ F) {w : List Nat} (wL : cx_L n w) (w20 : cx_l n A w ≤ 20) {k : Int32} {rc48 : Nat → Int32 → Int32 → Int32 → List mE → Option (Int32 × List mE)} {x : Nat} {u : List Nat} : ∀ (f t : Nat) (K : List (List Nat) × hI × hJ), t ≤ n → n < t + f → (shQ n A w K.1 x t ∧ shZ n A I J K.1 K.2.1 K.2.2 ∧ K.1[x]? = some u) → (∃ (I' : hI) (J' : hJ), m197_57 F rc48 f 26 k (nI K.1.length) (nI x) (nI t) (mkH (hs l s d tl) K.2.1 K.2.2) = some (-1005, (mkH (hs l s d tl) I' J')) ∧ shB n A w ∧ shf2 I I' J J') ∨ ∃ (I' : hI) (J' : hJ) (W' : List (List Nat)), m197_57 F rc48 f 26 k (nI K.1.length) (nI x) (nI t) (mkH (hs l s d tl) K.2.1 K.2.2) = rc48 26 k (nI W'.length) (nI (x + 1)) (mkH (hs l s d tl) I' J') ∧ shQ n A w W' (x + 1) 0 ∧ shZ n A I J W' I' J' ∧ x < W'.length := by
  have hn5 := hM.2.2.1
  refine lpc (σ := List (List Nat) × hI × hJ) (R := Option (Int32 × List mE)) (fun f t K => m197_57 F rc48 f 26 k (nI K.1.length) (nI x) (nI t) (mkH (hs l s d tl) K.2.1 K.2.2)) n (fun t K => shQ n A w K.1 x t ∧ shZ n A I J K.1 K.2.1 K.2.2 ∧ K.1[x]? = some u) (fun r => (∃ (I' : hI) (J' : hJ), r = some (-1005, (mkH (hs l s d tl) I' J')) ∧ shB n A w ∧ shf2 I I' J J') ∨ ∃ (I' : hI) (J' : hJ) (W' : List (List Nat)), r = rc48 26 k (nI W'.length) (nI (x + 1)) (mkH (hs l s d tl) I' J') ∧ shQ n A w W' (x + 1) 0 ∧ shZ n A I J W' I' J' ∧ x < W'.length) ?_ ?_
  · rintro f ⟨W, K, M⟩ ⟨k1, k2, k3⟩
    right
    have hM1 : mo_n n A K := mo_sf hM k2.2.2
    refine ⟨K, M, W, ?_, shQ_i k1, k2, (List.getElem?_eq_some_iff.mp k3).1⟩
    show m197_57 F rc48 (f + 1) 26 k (nI W.length) (nI x) (nI n) (mkH (hs l s d tl) K M) = _
    rw [m197_57, gi26_0, Option.bind_some, hM1.2.2.2.1, if_pos (show mc2 .ge (nI n) (nI n) = true by rw [c_ge (by omega) (by omega)]; omega), n_1, nI_add]
  · rintro f t ⟨W, K, M⟩ ht ⟨k1, k2, k3⟩
    have k2 : shZ n A I J W K M := k2
    have hM1 : mo_n n A K := mo_sf hM k2.2.2
    have r0 := rw0_0 K
    have f0 := rf_0 K (nI 0)
    obtain ⟨K1, e1, r1, f1⟩ := pu_e (l := l) (s := s) (d := d) (tl := tl) (F := F) (J := M) r0 (by simp) t
    have u20 := (k2.1 x u k3).2.1
    have e0 : m197_57 F rc48 (f + 1) 26 k (nI W.length) (nI x) (nI t) (mkH (hs l s d tl) K M) = m197_80 F rc48 (m197_57 F rc48 f) F 26 k (nI W.length) (nI x) (nI t) (nI 0) (mkH (hs l s d tl) K1 M) := by
      rw [m197_57, gi26_0, Option.bind_some, hM1.2.2.2.1, if_neg (show ¬ mc2 .ge (nI t) (nI n) = true by rw [c_ge (by omega) (by omega)]; omega), n_0, pi26_15, Option.bind_some, rc26, Option.bind_some, e1, Option.bind_some]
    rcases sh_1 (l := l) (s := s) (d := d) (tl := tl) (k := k) (rc48 := rc48) (rc57 := m197_57 F rc48 f) hM hF wL w20 ht k3 k1 F 0 (K1, M) (by omega) (by omega) ⟨r1, shR_rf k2.1 (rf_tr f0 f1), k2.2.1, shf2_tr k2.2.2 (shf2_of (rf_tr f0 f1) (fun _ _ => rfl))⟩ with ⟨I', J', e2, r⟩ | ⟨I', J', W', e2, r⟩
    · left
      left
      exact ⟨I', J', e0.trans e2, r⟩
    · right
      exact ⟨(W', I', J'), e0.trans e2, r⟩
/-- the least length, how many have it -/
theorem sh_c {W : List (List Nat)} (h300 : W.length ≤ 300) (h0 : 0 < W.length) (hF : 9000 ≤ F) (hR : shR n A W I) {k : Nat} (hk : k < 3) : ∃ m, lml n A W m ∧ m197_185 F F 26 (nI k) (nI W.length) 20 (nI 0) (mkH (hs l s d tl) I J) = some (if k = 0 then nI m else if k = 1 then nI (cnt n A m W) else nI W.length, (mkH (hs l s d tl) I J)) := by
  have ll : ∀ (i : Nat) (u : List Nat), W[i]? = some u → I 43 i = nI (cx_l n A u) ∧ cx_l n A u ≤ 20 := fun i u hu => by
    obtain ⟨a1, a2, a3, _⟩ := hR i u hu
    rw [cx_c_l a1]
    exact ⟨a3, a2⟩
  have l2 : ∀ (m : Nat), m ≤ 20 → ∀ (f i : Nat) (x : Unit), i ≤ W.length → W.length < i + f → True → m197_229 F f 26 (nI k) (nI W.length) (nI m) (nI (cnt n A m (W.take i))) (nI i) (mkH (hs l s d tl) I J) = some (if k = 0 then nI m else if k = 1 then nI (cnt n A m W) else nI W.length, (mkH (hs l s d tl) I J)) := by
    intro m hm
    refine lpc (σ := Unit) (R := Option (Int32 × List mE)) (fun f i _ => m197_229 F f 26 (nI k) (nI W.length) (nI m) (nI (cnt n A m (W.take i))) (nI i) (mkH (hs l s d tl) I J)) W.length (fun _ _ => True) (fun r => r = some (if k = 0 then nI m else if k = 1 then nI (cnt n A m W) else nI W.length, (mkH (hs l s d tl) I J))) ?_ ?_
    · intro f _ _
      show m197_229 F (f + 1) 26 (nI k) (nI W.length) (nI m) (nI (cnt n A m (W.take W.length))) (nI W.length) (mkH (hs l s d tl) I J) = _
      rw [List.take_length, m197_229, if_pos (show mc2 .ge (nI W.length) (nI W.length) = true by rw [c_ge (by omega) (by omega)]; omega)]
      unfold m197_283
      rcases (show k = 0 ∨ k = 1 ∨ k = 2 by omega) with rfl | rfl | rfl
      · rw [if_neg (show ¬ mc1 .ne (nI 0) = true by decide), if_pos rfl]
      · rw [if_pos (show mc1 .ne (nI 1) = true by decide), if_neg (show ¬ mc2 .ne (nI 1) 1 = true by decide), if_neg (by decide), if_pos rfl]
      · rw [if_pos (show mc1 .ne (nI 2) = true by decide), if_pos (show mc2 .ne (nI 2) 1 = true by decide), if_neg (by decide), if_neg (by decide)]
    · intro f i _ hi _
      right
      refine ⟨(), ?_, trivial⟩
      have hu := gd_ex hi
      generalize W.getD i [] = u at hu
      obtain ⟨a1, a2⟩ := ll i u hu
      have hc : cnt n A m (W.take (i + 1)) = cnt n A m (W.take i) + if cx_l n A u = m then 1 else 0 := by
        rw [List.take_succ, hu]
        exact cnt_ap m u
      show m197_229 F (f + 1) 26 (nI k) (nI W.length) (nI m) (nI (cnt n A m (W.take i))) (nI i) (mkH (hs l s d tl) I J) = m197_229 F f 26 (nI k) (nI W.length) (nI m) (nI (cnt n A m (W.take (i + 1)))) (nI (i + 1)) (mkH (hs l s d tl) I J)
      rw [m197_229, if_neg (show ¬ mc2 .ge (nI i) (nI W.length) = true by rw [c_ge (by omega) (by omega)]; omega), gr26_28, Option.bind_some, rI43 (by omega), Option.bind_some, a1, hc]
      unfold m197_254
      rw [n_1, nI_add]
      by_cases hum : cx_l n A u = m
      · rw [if_neg (show ¬ mc2 .ne (nI (cx_l n A u)) (nI m) = true by rw [c_ne (by omega) (by omega)]; exact fun hh => hh hum), if_pos hum, nI_add]
      · rw [if_pos (show mc2 .ne (nI (cx_l n A u)) (nI m) = true by rw [c_ne (by omega) (by omega)]; exact hum), if_neg hum]
        rw [show (0 : Int32) = nI 0 from rfl, nI_add]
  have l1 : ∀ (f i : Nat) (m : Nat), i ≤ W.length → W.length < i + f → (m ≤ 20 ∧ (∀ (j : Nat) (u : List Nat), j < i → W[j]? = some u → m ≤ cx_l n A u) ∧ (m = 20 ∨ ∃ (j : Nat) (u : List Nat), W[j]? = some u ∧ cx_l n A u = m)) → ∃ m', lml n A W m' ∧ m197_185 F f 26 (nI k) (nI W.length) (nI m) (nI i) (mkH (hs l s d tl) I J) = some (if k = 0 then nI m' else if k = 1 then nI (cnt n A m' W) else nI W.length, (mkH (hs l s d tl) I J)) := by
    refine lpc (σ := Nat) (R := Option (Int32 × List mE)) (fun f i m => m197_185 F f 26 (nI k) (nI W.length) (nI m) (nI i) (mkH (hs l s d tl) I J)) W.length (fun i m => m ≤ 20 ∧ (∀ (j : Nat) (u : List Nat), j < i → W[j]? = some u → m ≤ cx_l n A u) ∧ (m = 20 ∨ ∃ (j : Nat) (u : List Nat), W[j]? = some u ∧ cx_l n A u = m)) (fun r => ∃ m', lml n A W m' ∧ r = some (if k = 0 then nI m' else if k = 1 then nI (cnt n A m' W) else nI W.length, (mkH (hs l s d tl) I J))) ?_ ?_
    · rintro f m ⟨k0, k2, k3⟩
      refine ⟨m, ⟨?_, fun i u hu => k2 i u (List.getElem?_eq_some_iff.mp hu).1 hu⟩, ?_⟩
      · rcases k3 with rfl | k3
        · have a1 := k2 0 _ h0 (gd_ex h0)
          have a2 := (ll 0 _ (gd_ex h0)).2
          exact ⟨0, _, gd_ex h0, by omega⟩
        · exact k3
      · show m197_185 F (f + 1) 26 (nI k) (nI W.length) (nI m) (nI W.length) (mkH (hs l s d tl) I J) = _
        rw [m197_185, if_pos (show mc2 .ge (nI W.length) (nI W.length) = true by rw [c_ge (by omega) (by omega)]; omega)]
        exact l2 m k0 F 0 () (by omega) (by omega) trivial
    · rintro f i m hi ⟨k0, k2, k3⟩
      right
      have hu := gd_ex hi
      generalize W.getD i [] = u at hu
      obtain ⟨a1, a2⟩ := ll i u hu
      refine ⟨if cx_l n A u < m then cx_l n A u else m, ?_, by split <;> omega, fun j v hj hv => ?_, ?_⟩
      · show m197_185 F (f + 1) 26 (nI k) (nI W.length) (nI m) (nI i) (mkH (hs l s d tl) I J) = _
        rw [m197_185, if_neg (show ¬ mc2 .ge (nI i) (nI W.length) = true by rw [c_ge (by omega) (by omega)]; omega), gr26_28, Option.bind_some, rI43 (by omega), Option.bind_some, a1]
        unfold m197_215
        rw [n_1, nI_add]
        by_cases hlt : cx_l n A u < m
        · rw [if_neg (show ¬ mc2 .ge (nI (cx_l n A u)) (nI m) = true by rw [c_ge (by omega) (by omega)]; omega), Option.bind_some, rI43 (by omega), Option.bind_some, a1, if_pos hlt]
        · rw [if_pos (show mc2 .ge (nI (cx_l n A u)) (nI m) = true by rw [c_ge (by omega) (by omega)]; omega), if_neg hlt]
      · by_cases hji : j = i
        · subst hji
          rw [hu] at hv
          cases hv
          split <;> omega
        · have := k2 j v (by omega) hv
          split <;> omega
      · split
        · exact Or.inr ⟨i, u, hu, rfl⟩
        · exact k3
  exact l1 F 0 20 (by omega) (by omega) ⟨by omega, fun j u hj => by omega, Or.inl rfl⟩
theorem sh_3 (hM : mo_n n A I) (hF : 9000 ≤ F) {w : List Nat} (wL : cx_L n w) (w20 : cx_l n A w ≤ 20) {k : Nat} (hk : k < 3) : ∀ (f : Nat) (K : (Nat × List (List Nat)) × hI × hJ), (shQ n A w K.1.2 K.1.1 0 ∧ shZ n A I J K.1.2 K.2.1 K.2.2 ∧ K.1.1 ≤ K.1.2.length) → 301 - K.1.1 < f → ∃ (v : Int32) (I' : hI) (J' : hJ), m197_48 F f 26 (nI k) (nI K.1.2.length) (nI K.1.1) (mkH (hs l s d tl) K.2.1 K.2.2) = some (v, (mkH (hs l s d tl) I' J')) ∧ shV n A w k v ∧ shf2 I I' J J' := by
  have hn5 := hM.2.2.1
  refine lpm (σ := (Nat × List (List Nat)) × hI × hJ) (R := Option (Int32 × List mE)) (fun f K => m197_48 F f 26 (nI k) (nI K.1.2.length) (nI K.1.1) (mkH (hs l s d tl) K.2.1 K.2.2)) (fun K => 301 - K.1.1) (fun K => shQ n A w K.1.2 K.1.1 0 ∧ shZ n A I J K.1.2 K.2.1 K.2.2 ∧ K.1.1 ≤ K.1.2.length) (fun r => ∃ (v : Int32) (I' : hI) (J' : hJ), r = some (v, (mkH (hs l s d tl) I' J')) ∧ shV n A w k v ∧ shf2 I I' J J') ?_
  rintro f ⟨⟨x, W⟩, K, M⟩ ⟨k1, k2, k3⟩
  have k1 : shQ n A w W x 0 := k1
  have k2 : shZ n A I J W K M := k2
  have k3 : x ≤ W.length := k3
  have l300 := k2.2.1
  by_cases hx : x = W.length
  · left
    subst hx
    obtain ⟨m, hm, e1⟩ := sh_c (l := l) (s := s) (d := d) (tl := tl) (F := F) (J := M) l300 (List.getElem?_eq_some_iff.mp k1.1).1 hF k2.1 hk
    refine ⟨_, K, M, ?_, Or.inl ⟨W, m, shQ_z k1, l300, hm, rfl⟩, k2.2.2⟩
    show m197_48 F (f + 1) 26 (nI k) (nI W.length) (nI W.length) (mkH (hs l s d tl) K M) = _
    rw [m197_48, if_pos (show mc2 .ge (nI W.length) (nI W.length) = true by rw [c_ge (by omega) (by omega)]; omega)]
    exact e1
  · have e0 : m197_48 F (f + 1) 26 (nI k) (nI W.length) (nI x) (mkH (hs l s d tl) K M) = m197_57 F (m197_48 F f) F 26 (nI k) (nI W.length) (nI x) (nI 0) (mkH (hs l s d tl) K M) := by
      rw [m197_48, if_neg (show ¬ mc2 .ge (nI x) (nI W.length) = true by rw [c_ge (by omega) (by omega)]; omega)]
      rfl
    rcases sh_2 (l := l) (s := s) (d := d) (tl := tl) (k := nI k) (rc48 := m197_48 F f) hM hF wL w20 F 0 (W, K, M) (by omega) (by omega) ⟨k1, k2, gd_ex (show x < W.length by omega)⟩ with ⟨I', J', e1, r1, r2⟩ | ⟨I', J', W', e1, r1, r2, r3⟩
    · left
      exact ⟨-1005, I', J', e0.trans e1, Or.inr ⟨rfl, r1⟩, r2⟩
    · right
      exact ⟨((x + 1, W'), I', J'), e0.trans e1, ⟨r1, r2, r3⟩, by show 301 - (x + 1) < 301 - x; omega⟩
/-- shifts, of the reference -/
theorem shr_e (hM : mo_n n A I) {els : List (List Nat)} (hk : km n A els I) (hF : 9000 ≤ F) {w : Nat} {y : List Nat} (hy : els[w]? = some y) {k : Nat} (hk3 : k < 3) : ∃ (v : Int32) (I' : hI) (J' : hJ), e197 F 26 (nI w) (nI k) (mkH (hs l s d tl) I J) = some (v, (mkH (hs l s d tl) I' J')) ∧ shV n A y k v ∧ shf2 I I' J J' := by
  obtain ⟨yc, yL, yl, y20, y40, _⟩ := km_c hk hy
  have r0 := rw0_0 I
  have f0 := rf_0 I (nI 0)
  obtain ⟨I1, e1, r1, f1⟩ := pa_e (l := l) (s := s) (d := d) (tl := tl) (F := F) (J := J) (km_rf hk f0) (by omega) hy r0 (by simp; omega)
  rw [List.nil_append] at r1
  obtain ⟨I2, e2, R2, f2⟩ := psh_e (l := l) (s := s) (d := d) (tl := tl) (F := F) (J := J) (W := []) (n := n) (A := A) hF (fun i u hu => by simp at hu) (by simp) yc r1 y20
  have R2 : shR n A [y] I2 := R2
  have f3 : shf2 I I2 J J := shf2_tr (shf2_of (rf_tr f0 f1) (fun _ _ => rfl)) f2
  obtain ⟨v, I', J', e3, r3⟩ := sh_3 (l := l) (s := s) (d := d) (tl := tl) (J := J) hM hF yL (by omega) hk3 F ((0, [y]), I2, J) ⟨shQ_1 yL, ⟨R2, by simp, f3⟩, by simp⟩ (by show 301 - 0 < F; omega)
  refine ⟨v, I', J', ?_, r3⟩
  have e4 : e137 F (nI k).toInt64 0 2 (mkH (hs l s d tl) I J) = some (nI 1, (mkH (hs l s d tl) I J)) := by
    rcases bw_n (F := F) (nI k) (m := 3) (by omega) (mkH (hs l s d tl) I J) with ⟨_, _, _, h⟩ | ⟨h, _⟩
    · exact h
    · exact absurd rfl (h k (by omega))
  show m197_0 F 26 (nI w) (nI k) _ = _
  unfold m197_0
  rw [rc26, Option.bind_some, ie1 hk hy, Option.bind_some, if_pos (show mc1 .ne (nI 1) = true by decide), e4, Option.bind_some, if_pos (show mc1 .ne (nI 1) = true by decide)]
  show ((pfv 11 15 (mkH (hs l s d tl) I J) 26 (.int (nI 0))).bind _) = _
  rw [pi26_15, Option.bind_some, rc26, Option.bind_some, e1, Option.bind_some, rc26, Option.bind_some]
  show ((e196 F 26 (nI ([] : List (List Nat)).length) (mkH (hs l s d tl) I1 J)).bind _) = _
  rw [e2, Option.bind_some]
  exact e3
end S
