/-! The reference: findR. -/
theorem zI_add (a b : Int) : zI a + zI b = zI (a + b) := (Int32.ofInt_add a b).symm
theorem zI_sub (a b : Int) : zI a - zI b = zI (a - b) := (Int32.ofInt_sub a b).symm
theorem zI_mul (a b : Int) : zI a * zI b = zI (a * b) := (Int32.ofInt_mul a b).symm
theorem zI_neg (a : Int) : - zI a = zI (-a) := (Int32.ofInt_neg a).symm
theorem zI_0 : (0 : Int32) = zI 0 := rfl
theorem zI_1 : (1 : Int32) = zI 1 := rfl
def rsP (n : Nat) (A : Nat → Nat → Int) (r : List Nat) (W : List (List Nat)) (I : hI) : Prop := ∀ (i : Nat) (u : List Nat), W[i]? = some u → ∀ k, k < 9 → I 49 (9 * i + k) = zI (rwl n A r u k)
/-- the cells that findR may change -/
def rfr3 (I I' : hI) : Prop := ∀ c, c ≠ 49 → c ≠ 50 → c ≠ 51 → I' c = I c
section S
variable {l s d : Value} {tl : List hQ} {F : Nat} {I : hI} {J : hJ} {n : Nat} {A : Nat → Nat → Int} {y r : List Nat} {W : List (List Nat)}
theorem od_1 {i : Nat} {u : List Nat} (hR : rsP n A r W I) (h256 : W.length ≤ 256) (hu : W[i]? = some u) {k : Nat} (hk : k < 9) : e200 F 26 (nI i) (nI k) (mkH (hs l s d tl) I J) = some (zI (rwl n A r u k), (mkH (hs l s d tl) I J)) := by
  have hi := (List.getElem?_eq_some_iff.mp hu).1
  show m200_0 F 26 (nI i) (nI k) _ = _
  unfold m200_0 m200_23
  rw [if_neg (show ¬ mc1 .lt (nI i) = true by rw [d_lt (by omega)]; exact id), if_pos (show mc1 .ge (nI k) = true by rw [d_ge (by omega)]; trivial), gr26_36, Option.bind_some, n_9, pk_mul, nI_add, rI49 (by omega), Option.bind_some, hR i u hu k hk]
theorem od_q {i : Nat} {u : List Nat} (hR : rsP n A r W I) (h256 : W.length ≤ 256) (hu : W[i]? = some u) {k : Nat} (hk : k < 9) : e200 F 26 (nI i) (nI k - 1) (mkH (hs l s d tl) I J) = some (zI (qs (rwl n A r u) k), (mkH (hs l s d tl) I J)) := by
  cases k with
  | zero =>
    show m200_0 F 26 (nI i) (nI 0 - 1) _ = _
    have hi := (List.getElem?_eq_some_iff.mp hu).1
    unfold m200_0 m200_8 m200_23
    rw [if_neg (show ¬ mc1 .lt (nI i) = true by rw [d_lt (by omega)]; exact id), if_neg (show ¬ mc1 .ge (nI 0 - 1) = true by decide)]
    rfl
  | succ k =>
    have e : nI (k + 1) - 1 = nI k := pk_sub1 k
    rw [e]
    exact od_1 hR h256 hu (by omega)
theorem od_m (v2 : Int32) : e200 F 26 (gI 1) v2 (mkH (hs l s d tl) I J) = some (zI 0, (mkH (hs l s d tl) I J)) := by
  show m200_0 F 26 (gI 1) v2 _ = _
  unfold m200_0 m200_8 m200_23
  rw [if_pos (show mc1 .lt (gI 1) = true by decide)]
  rfl
/-- of u, t, by the table -/
theorem od_o (hR : rsP n A r W I) (h256 : W.length ≤ 256) {u : List Nat} {t : Nat} {v : Int32} (hv : stpT n A W u t v) (h0 : (∀ (j : Nat) (x : List Nat), W[j]? = some x → cx_g n A x ≠ cx_g n A (u ++ [t])) → ∀ k, rwl n A r (u ++ [t]) k = 0) {k : Nat} (hk : k < 9) : e200 F 26 v (nI k) (mkH (hs l s d tl) I J) = some (zI (rwl n A r (u ++ [t]) k), (mkH (hs l s d tl) I J)) ∧ e200 F 26 v (nI k - 1) (mkH (hs l s d tl) I J) = some (zI (qs (rwl n A r (u ++ [t])) k), (mkH (hs l s d tl) I J)) := by
  rcases hv with ⟨j, x, a1, a2, rfl⟩ | ⟨a1, rfl⟩
  · rw [← rwl_eg r _ _ a2]
    exact ⟨od_1 hR h256 a1 hk, od_q hR h256 a1 hk⟩
  · rw [h0 a1, qs_cg (h0 a1), qs_0]
    exact ⟨od_m _, od_m _⟩
/-- one element, all powers -/
theorem rn_k (hF : 9000 ≤ F) (h256 : W.length ≤ 256) (hR : rsP n A r W I) {i t c : Nat} {u : List Nat} (ht : t < n) (hn5 : n ≤ 5) (hu : W[i]? = some u) {v : Int32} (hv : stpT n A W u t v) (hd : dwnT n A u t (I 48 (5 * i + t))) (h0 : (∀ (j : Nat) (x : List Nat), W[j]? = some x → cx_g n A x ≠ cx_g n A (u ++ [t])) → ∀ k, rwl n A r (u ++ [t]) k = 0) {rc105 : Nat → Int32 → List mE → Option (Unit × List mE)} {rc122 : Nat → Int32 → Int32 → Int32 → List mE → Option (Unit × List mE)} : ∀ (f k : Nat) (K : hI), k ≤ 9 → 9 < k + f → ((∀ c, c ≠ 50 → K c = I c) ∧ (∀ q, q < 9 * i → K 50 q = I 50 q) ∧ ∀ k', k' < k → K 50 (9 * i + k') = zI (rho n A t (rwl n A r) u k')) → ∃ K' : hI, m201_148 F rc105 rc122 f 26 (nI c) (nI t) (nI i) v (nI k) (mkH (hs l s d tl) K J) = rc122 26 (nI c) (nI t) (nI (i + 1)) (mkH (hs l s d tl) K' J) ∧ (∀ c, c ≠ 50 → K' c = I c) ∧ (∀ q, q < 9 * i → K' 50 q = I 50 q) ∧ ∀ k', k' < 9 → K' 50 (9 * i + k') = zI (rho n A t (rwl n A r) u k') := by
  have hi := (List.getElem?_eq_some_iff.mp hu).1
  refine lpc (σ := hI) (R := Option (Unit × List mE)) (fun f k K => m201_148 F rc105 rc122 f 26 (nI c) (nI t) (nI i) v (nI k) (mkH (hs l s d tl) K J)) 9 (fun k K => (∀ c, c ≠ 50 → K c = I c) ∧ (∀ q, q < 9 * i → K 50 q = I 50 q) ∧ ∀ k', k' < k → K 50 (9 * i + k') = zI (rho n A t (rwl n A r) u k')) (fun r' => ∃ K' : hI, r' = rc122 26 (nI c) (nI t) (nI (i + 1)) (mkH (hs l s d tl) K' J) ∧ (∀ c, c ≠ 50 → K' c = I c) ∧ (∀ q, q < 9 * i → K' 50 q = I 50 q) ∧ ∀ k', k' < 9 → K' 50 (9 * i + k') = zI (rho n A t (rwl n A r) u k')) ?_ ?_
  · rintro f K hp
    refine ⟨K, ?_, hp⟩
    show m201_148 F rc105 rc122 (f + 1) 26 (nI c) (nI t) (nI i) v (nI 9) (mkH (hs l s d tl) K J) = _
    rw [m201_148, if_pos (show mc2 .ge (nI 9) 9 = true by decide), n_1, nI_add]
  · rintro f k K hk ⟨p1, p2, p3⟩
    right
    have hRK : rsP n A r W K := fun i u hu k hk => by rw [p1 49 (by decide)]; exact hR i u hu k hk
    obtain ⟨o1, o2⟩ := od_o (l := l) (s := s) (d := d) (tl := tl) (F := F) (J := J) hRK h256 hv h0 hk
    have o3 := od_1 (l := l) (s := s) (d := d) (tl := tl) (F := F) (J := J) hRK h256 hu hk
    have o4 := od_q (l := l) (s := s) (d := d) (tl := tl) (F := F) (J := J) hRK h256 hu hk
    have e5 : (5 : Int32) * nI i + nI t = nI (5 * i + t) := by rw [n_5, pk_mul, nI_add]
    have e9 : (9 : Int32) * nI i + nI k = nI (9 * i + k) := by rw [n_9, pk_mul, nI_add]
    have val : m201_148 F rc105 rc122 (f + 1) 26 (nI c) (nI t) (nI i) v (nI k) (mkH (hs l s d tl) K J) = m201_148 F rc105 rc122 f 26 (nI c) (nI t) (nI i) v (nI (k + 1)) (mkH (hs l s d tl) (upI K 50 (9 * i + k) (zI (rho n A t (rwl n A r) u k))) J) := by
      rw [m201_148, if_neg (show ¬ mc2 .ge (nI k) 9 = true by rw [n_9, c_ge (by omega) (by omega)]; omega), gr26_37, Option.bind_some, gr26_35, Option.bind_some, e5, rZ48 (by omega), Option.bind_some, p1 48 (by decide)]
      rcases hd with ⟨hd, hz⟩ | ⟨hd, hz⟩
      · rw [hz, if_neg (show ¬ mc1 .eq (nI 1) = true by decide), rc26, Option.bind_some, o1, Option.bind_some]
        unfold m201_223
        rw [e9, wI50 (by omega), Option.bind_some, n_1, nI_add, show rho n A t (rwl n A r) u k = rwl n A r (u ++ [t]) k from cii_p hd]
      · rw [hz, if_pos (show mc1 .eq (nI 0) = true by decide), rc26, Option.bind_some, o4, Option.bind_some, rc26, Option.bind_some, o3, Option.bind_some, rc26, Option.bind_some, o2, Option.bind_some]
        unfold m201_223
        rw [e9, zI_sub, zI_add, wI50 (by omega), Option.bind_some, n_1, nI_add, show rho n A t (rwl n A r) u k = qs (rwl n A r u) k - rwl n A r u k + qs (rwl n A r (u ++ [t])) k from cii_n hd]
    refine ⟨_, val, fun c hc => by rw [upI_ne hc]; exact p1 c hc, fun q hq => by rw [upI_at, if_neg (by omega)]; exact p2 q hq, fun k' hk' => ?_⟩
    rw [upI_at]
    by_cases hkk : k' = k
    · rw [if_pos (by omega), hkk]
    · rw [if_neg (by omega)]
      exact p3 k' (by omega)
/-- all elements -/
theorem rn_u (hF : 9000 ≤ F) (hn5 : n ≤ 5) (h256 : W.length ≤ 256) (hR : rsP n A r W I) (hm : I 26 31 = nI W.length) (hT : tbT n A W I W.length 0) {t c : Nat} (ht : t < n) (h0 : ∀ (i : Nat) (u : List Nat), W[i]? = some u → (∀ (j : Nat) (x : List Nat), W[j]? = some x → cx_g n A x ≠ cx_g n A (u ++ [t])) → ∀ k, rwl n A r (u ++ [t]) k = 0) {rc105 : Nat → Int32 → List mE → Option (Unit × List mE)} : ∀ (f i : Nat) (K : hI), i ≤ W.length → W.length < i + f → ((∀ c, c ≠ 50 → K c = I c) ∧ ∀ (i' : Nat) (u : List Nat), i' < i → W[i']? = some u → ∀ k', k' < 9 → K 50 (9 * i' + k') = zI (rho n A t (rwl n A r) u k')) → ∃ K' : hI, m201_122 F rc105 f 26 (nI c) (nI t) (nI i) (mkH (hs l s d tl) K J) = m201_239 F rc105 F 26 (nI c) (nI 0) (mkH (hs l s d tl) K' J) ∧ (∀ c, c ≠ 50 → K' c = I c) ∧ ∀ (i' : Nat) (u : List Nat), W[i']? = some u → ∀ k', k' < 9 → K' 50 (9 * i' + k') = zI (rho n A t (rwl n A r) u k') := by
  refine lpc (σ := hI) (R := Option (Unit × List mE)) (fun f i K => m201_122 F rc105 f 26 (nI c) (nI t) (nI i) (mkH (hs l s d tl) K J)) W.length (fun i K => (∀ c, c ≠ 50 → K c = I c) ∧ ∀ (i' : Nat) (u : List Nat), i' < i → W[i']? = some u → ∀ k', k' < 9 → K 50 (9 * i' + k') = zI (rho n A t (rwl n A r) u k')) (fun r' => ∃ K' : hI, r' = m201_239 F rc105 F 26 (nI c) (nI 0) (mkH (hs l s d tl) K' J) ∧ (∀ c, c ≠ 50 → K' c = I c) ∧ ∀ (i' : Nat) (u : List Nat), W[i']? = some u → ∀ k', k' < 9 → K' 50 (9 * i' + k') = zI (rho n A t (rwl n A r) u k')) ?_ ?_
  · rintro f K ⟨p1, p2⟩
    have k31 : K 26 31 = nI W.length := by rw [p1 26 (by decide)]; exact hm
    refine ⟨K, ?_, p1, fun i' u hu => p2 i' u (List.getElem?_eq_some_iff.mp hu).1 hu⟩
    show m201_122 F rc105 (f + 1) 26 (nI c) (nI t) (nI W.length) (mkH (hs l s d tl) K J) = _
    rw [m201_122, gi26_31, Option.bind_some, k31, if_pos (show mc2 .ge (nI W.length) (nI W.length) = true by rw [c_ge (by omega) (by omega)]; omega)]
    rfl
  · rintro f i K hi ⟨p1, p2⟩
    right
    have k31 : K 26 31 = nI W.length := by rw [p1 26 (by decide)]; exact hm
    have hu := gd_ex hi
    generalize W.getD i [] = u at hu
    obtain ⟨t1, t2⟩ := hT i t u hu ht (Or.inl hi)
    have hRK : rsP n A r W K := fun i u hu k hk => by rw [p1 49 (by decide)]; exact hR i u hu k hk
    obtain ⟨K1, e1, r1, r2, r3⟩ := rn_k (l := l) (s := s) (d := d) (tl := tl) (F := F) (J := J) (c := c) (rc105 := rc105) (rc122 := m201_122 F rc105 f) hF h256 hRK ht hn5 hu t1 (by rw [p1 48 (by decide)]; exact t2) (h0 i u hu) F 0 K (by omega) (by omega) ⟨fun _ _ => rfl, fun _ _ => rfl, fun k' hk' => by omega⟩
    refine ⟨K1, ?_, fun c hc => (r1 c hc).trans (p1 c hc), fun i' v hi' hv k' hk' => ?_⟩
    · show m201_122 F rc105 (f + 1) 26 (nI c) (nI t) (nI i) (mkH (hs l s d tl) K J) = _
      rw [m201_122, gi26_31, Option.bind_some, k31, if_neg (show ¬ mc2 .ge (nI i) (nI W.length) = true by rw [c_ge (by omega) (by omega)]; omega), gr26_34, Option.bind_some, n_5, pk_mul, nI_add, rI47 (by omega), Option.bind_some, p1 47 (by decide)]
      exact e1
    · by_cases hii : i' = i
      · subst hii
        rw [hu] at hv
        cases hv
        exact r3 k' hk'
      · rw [r2 _ (by omega)]
        exact p2 i' v (by omega) hv k' hk'
/-- what was made is taken over -/
theorem rn_c (hF : 9000 ≤ F) (h256 : W.length ≤ 256) (hm : I 26 31 = nI W.length) {c : Nat} {rc105 : Nat → Int32 → List mE → Option (Unit × List mE)} : ∀ (f q : Nat) (K : hI), q ≤ 9 * W.length → 9 * W.length < q + f → ((∀ c, c ≠ 49 → K c = I c) ∧ ∀ q', q' < q → K 49 q' = I 50 q') → ∃ K' : hI, m201_239 F rc105 f 26 (nI c) (nI q) (mkH (hs l s d tl) K J) = rc105 26 (nI c + (-1)) (mkH (hs l s d tl) K' J) ∧ (∀ c, c ≠ 49 → K' c = I c) ∧ ∀ q', q' < 9 * W.length → K' 49 q' = I 50 q' := by
  refine lpc (σ := hI) (R := Option (Unit × List mE)) (fun f q K => m201_239 F rc105 f 26 (nI c) (nI q) (mkH (hs l s d tl) K J)) (9 * W.length) (fun q K => (∀ c, c ≠ 49 → K c = I c) ∧ ∀ q', q' < q → K 49 q' = I 50 q') (fun r' => ∃ K' : hI, r' = rc105 26 (nI c + (-1)) (mkH (hs l s d tl) K' J) ∧ (∀ c, c ≠ 49 → K' c = I c) ∧ ∀ q', q' < 9 * W.length → K' 49 q' = I 50 q') ?_ ?_
  · rintro f K ⟨p1, p2⟩
    have k31 : K 26 31 = nI W.length := by rw [p1 26 (by decide)]; exact hm
    refine ⟨K, ?_, p1, p2⟩
    show m201_239 F rc105 (f + 1) 26 (nI c) (nI (9 * W.length)) (mkH (hs l s d tl) K J) = _
    rw [m201_239, gi26_31, Option.bind_some, k31, n_9, pk_mul, if_pos (show mc2 .ge (nI (9 * W.length)) (nI (9 * W.length)) = true by rw [c_ge (by omega) (by omega)]; omega)]
  · rintro f q K hq ⟨p1, p2⟩
    right
    have k31 : K 26 31 = nI W.length := by rw [p1 26 (by decide)]; exact hm
    refine ⟨upI K 49 q (I 50 q), ?_, fun c hc => by rw [upI_ne hc]; exact p1 c hc, fun q' hq' => ?_⟩
    · show m201_239 F rc105 (f + 1) 26 (nI c) (nI q) (mkH (hs l s d tl) K J) = _
      rw [m201_239, gi26_31, Option.bind_some, k31, n_9, pk_mul, if_neg (show ¬ mc2 .ge (nI q) (nI (9 * W.length)) = true by rw [c_ge (by omega) (by omega)]; omega), gr26_36, Option.bind_some, gr26_37, Option.bind_some, rI50 (by omega), Option.bind_some, wI49 (by omega), Option.bind_some, p1 50 (by decide), n_1, nI_add]
    · rw [upI_at]
      by_cases hqq : q' = q
      · rw [if_pos hqq, hqq]
      · rw [if_neg hqq]
        exact p2 q' (by omega)
end S
