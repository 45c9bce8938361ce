/-! The reference: bring. -/
section S
variable {l s d : Value} {tl : List hQ} {F : Nat} {I : hI} {J : hJ}
/-- a part of a product's number -/
def pcv (a b : Nat → Int) (i k : Nat) : Int := cx_sum i (fun q => if q ≤ k then a q * b (k - q) else 0)
theorem pcv_9 (a b : Nat → Int) {k : Nat} (hk : k < 9) : pcv a b 9 k = cnv a b k := by
  have tail : ∀ N, cx_sum (k + 1 + N) (fun q => if q ≤ k then a q * b (k - q) else 0) = cnv a b k := by
    intro N
    induction N with
    | zero => exact cx_sum_eq (fun q hq => by rw [if_pos (by omega)])
    | succ N ih => rw [show k + 1 + (N + 1) = (k + 1 + N) + 1 by omega, cx_sum, ih, if_neg (by omega), Int.add_zero]
  have := tail (8 - k)
  rw [show k + 1 + (8 - k) = 9 by omega] at this
  exact this
theorem br_in (hF : 9000 ≤ F) {u v i : Nat} (hu : u < 256) (hv : v < 256) (hi : i < 9) {a b : Nat → Int} (ha : I 49 (9 * u + i) = zI (a i)) (hb : ∀ k, k < 9 → I 52 (9 * v + k) = zI (b k)) {rc2 : Nat → Int32 → Int32 → Int32 → List mE → Option (Unit × List mE)} : ∀ (f j : Nat) (K : hI), j ≤ 9 - i → 9 - i < j + f → ((∀ c, c ≠ 53 → K c = I c) ∧ (∀ q, K 53 q = if 9 * u + i ≤ q ∧ q < 9 * u + i + j then I 53 q + zI (a i * b (q - (9 * u + i))) else I 53 q)) → ∃ K' : hI, m202_11 F rc2 f 26 (nI u) (nI v) (nI i) (nI j) (mkH (hs l s d tl) K J) = rc2 26 (nI u) (nI v) (nI (i + 1)) (mkH (hs l s d tl) K' J) ∧ (∀ c, c ≠ 53 → K' c = I c) ∧ ∀ q, K' 53 q = if 9 * u + i ≤ q ∧ q < 9 * u + 9 then I 53 q + zI (a i * b (q - (9 * u + i))) else I 53 q := by
  refine lpc (σ := hI) (R := Option (Unit × List mE)) (fun f j K => m202_11 F rc2 f 26 (nI u) (nI v) (nI i) (nI j) (mkH (hs l s d tl) K J)) (9 - i) (fun j K => (∀ c, c ≠ 53 → K c = I c) ∧ (∀ q, K 53 q = if 9 * u + i ≤ q ∧ q < 9 * u + i + j then I 53 q + zI (a i * b (q - (9 * u + i))) else I 53 q)) (fun r => ∃ K' : hI, r = rc2 26 (nI u) (nI v) (nI (i + 1)) (mkH (hs l s d tl) K' J) ∧ (∀ c, c ≠ 53 → K' c = I c) ∧ ∀ q, K' 53 q = if 9 * u + i ≤ q ∧ q < 9 * u + 9 then I 53 q + zI (a i * b (q - (9 * u + i))) else I 53 q) ?_ ?_
  · rintro f K ⟨p1, p2⟩
    refine ⟨K, ?_, p1, fun q => ?_⟩
    · show m202_11 F rc2 (f + 1) 26 (nI u) (nI v) (nI i) (nI (9 - i)) (mkH (hs l s d tl) K J) = _
      rw [m202_11, nI_add, if_pos (show mc2 .ge (nI (i + (9 - i))) 9 = true by rw [n_9, c_ge (by omega) (by omega)]; omega), n_1, nI_add]
    · rw [p2 q, show 9 * u + i + (9 - i) = 9 * u + 9 by omega]
  · rintro f j K hj ⟨p1, p2⟩
    right
    have e1 : K 53 (9 * u + i + j) = I 53 (9 * u + i + j) := by rw [p2, if_neg (by omega)]
    refine ⟨upI K 53 (9 * u + i + j) (I 53 (9 * u + i + j) + zI (a i * b j)), ?_, fun c hc => by rw [upI_ne hc]; exact p1 c hc, fun q => ?_⟩
    · show m202_11 F rc2 (f + 1) 26 (nI u) (nI v) (nI i) (nI j) (mkH (hs l s d tl) K J) = _
      rw [m202_11, nI_add, if_neg (show ¬ mc2 .ge (nI (i + j)) 9 = true by rw [n_9, c_ge (by omega) (by omega)]; omega), gr26_40, Option.bind_some, n_9, pk_mul, nI_add, nI_add, rI53 (by omega), Option.bind_some, gr26_36, Option.bind_some, rI49 (by omega), Option.bind_some, p1 49 (by decide), ha, gr26_39, Option.bind_some, pk_mul, nI_add, rI52 (by omega), Option.bind_some, p1 52 (by decide), hb j (by omega), zI_mul, wI53 (by omega), Option.bind_some, e1, n_1, nI_add]
    · rw [upI_at]
      by_cases hq : q = 9 * u + i + j
      · rw [if_pos hq, if_pos (by omega), hq, show 9 * u + i + j - (9 * u + i) = j by omega]
      · rw [if_neg hq, p2 q]
        by_cases hr : 9 * u + i ≤ q ∧ q < 9 * u + i + j
        · rw [if_pos hr, if_pos (by omega)]
        · rw [if_neg hr, if_neg (by omega)]
theorem br_e (hF : 9000 ≤ F) {u v : Nat} (hu : u < 256) (hv : v < 256) {a b : Nat → Int} (ha : ∀ k, k < 9 → I 49 (9 * u + k) = zI (a k)) (hb : ∀ k, k < 9 → I 52 (9 * v + k) = zI (b k)) : ∃ K : hI, e202 F 26 (nI u) (nI v) (mkH (hs l s d tl) I J) = some ((), (mkH (hs l s d tl) K J)) ∧ (∀ c, c ≠ 53 → K c = I c) ∧ (∀ k, k < 9 → K 53 (9 * u + k) = I 53 (9 * u + k) + zI (cnv a b k)) ∧ ∀ q, q < 9 * u ∨ 9 * u + 9 ≤ q → K 53 q = I 53 q := by
  have e0 : e202 F 26 (nI u) (nI v) (mkH (hs l s d tl) I J) = m202_2 F F 26 (nI u) (nI v) (nI 0) (mkH (hs l s d tl) I J) := rfl
  rw [e0]
  refine lpc (σ := hI) (R := Option (Unit × List mE)) (fun f i K => m202_2 F f 26 (nI u) (nI v) (nI i) (mkH (hs l s d tl) K J)) 9 (fun i K => (∀ c, c ≠ 53 → K c = I c) ∧ (∀ k, k < 9 → K 53 (9 * u + k) = I 53 (9 * u + k) + zI (pcv a b i k)) ∧ ∀ q, q < 9 * u ∨ 9 * u + 9 ≤ q → K 53 q = I 53 q) (fun r => ∃ K : hI, r = some ((), (mkH (hs l s d tl) K J)) ∧ (∀ c, c ≠ 53 → K c = I c) ∧ (∀ k, k < 9 → K 53 (9 * u + k) = I 53 (9 * u + k) + zI (cnv a b k)) ∧ ∀ q, q < 9 * u ∨ 9 * u + 9 ≤ q → K 53 q = I 53 q) ?_ ?_ F 0 I (by omega) (by omega) ⟨fun _ _ => rfl, fun k hk => ?_, fun _ _ => rfl⟩
  · rintro f K ⟨p1, p2, p3⟩
    refine ⟨K, ?_, p1, fun k hk => ?_, p3⟩
    · show m202_2 F (f + 1) 26 (nI u) (nI v) (nI 9) (mkH (hs l s d tl) K J) = _
      rw [m202_2, if_pos (show mc2 .ge (nI 9) 9 = true by decide)]
    · rw [p2 k hk, pcv_9 a b hk]
  · rintro f i K hi ⟨p1, p2, p3⟩
    right
    obtain ⟨K1, e1, r1, r2⟩ := br_in (l := l) (s := s) (d := d) (tl := tl) (F := F) (I := K) (J := J) (rc2 := m202_2 F f) hF hu hv hi (a := a) (b := b) (by rw [p1 49 (by decide)]; exact ha i hi) (fun k hk => by rw [p1 52 (by decide)]; exact hb k hk) F 0 K (by omega) (by omega) ⟨fun _ _ => rfl, fun q => by rw [if_neg (by omega)]⟩
    refine ⟨K1, ?_, fun c hc => (r1 c hc).trans (p1 c hc), fun k hk => ?_, fun q hq => ?_⟩
    · show m202_2 F (f + 1) 26 (nI u) (nI v) (nI i) (mkH (hs l s d tl) K J) = _
      rw [m202_2, if_neg (show ¬ mc2 .ge (nI i) 9 = true by rw [n_9, c_ge (by omega) (by omega)]; omega)]
      exact e1
    · rw [r2, p2 k hk]
      have e2 : pcv a b (i + 1) k = pcv a b i k + if i ≤ k then a i * b (k - i) else 0 := rfl
      rw [e2]
      by_cases hik : i ≤ k
      · rw [if_pos (by omega), if_pos hik, show 9 * u + k - (9 * u + i) = k - i by omega, Int32.add_assoc, zI_add]
      · rw [if_neg (by omega), if_neg hik, Int.add_zero]
    · rw [r2, if_neg (by omega)]
      exact p3 q hq
  · show I 53 (9 * u + k) = I 53 (9 * u + k) + (0 : Int32)
    rw [Int32.add_zero]
end S
