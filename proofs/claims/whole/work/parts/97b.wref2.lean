/-! The reference: a level, and all levels. -/
section S
variable {l s d : Value} {tl : List hQ} {F : Nat} {I : hI} {J : hJ} {n k : Nat} {A : Nat → Nat → Int} {y : List Nat} {L : List (List Nat)}
def wfs (J J' : hJ) : Prop := ∀ c, c ≠ 32 → c ≠ 37 → c ≠ 38 → c ≠ 39 → c ≠ 40 → J' c = J c
theorem wl_cp (hF : 9000 ≤ F) {m : Nat} (hm : m ≤ 924) {rc62 : Nat → Int32 → Int32 → List mE → Option (Int64 × List mE)} {v3 : Int32} : ∀ (f j : Nat) (K : hJ), j ≤ m → m < j + f → ((∀ c, c ≠ 37 → c ≠ 39 → K c = J c) ∧ (∀ q, q < 25 * j → K 37 q = J 38 q) ∧ ∀ a, a < j → K 39 a = J 40 a) → ∃ K' : hJ, m180_216 F rc62 f 26 (nI m) v3 (nI j) (mkH (hs l s d tl) I K) = rc62 26 (nI m) (v3 + (-1)) (mkH (hs l s d tl) I K') ∧ (∀ c, c ≠ 37 → c ≠ 39 → K' c = J c) ∧ (∀ q, q < 25 * m → K' 37 q = J 38 q) ∧ ∀ a, a < m → K' 39 a = J 40 a := by
  refine lpc (σ := hJ) (R := Option (Int64 × List mE)) (fun f j K => m180_216 F rc62 f 26 (nI m) v3 (nI j) (mkH (hs l s d tl) I K)) m (fun j K => (∀ c, c ≠ 37 → c ≠ 39 → K c = J c) ∧ (∀ q, q < 25 * j → K 37 q = J 38 q) ∧ ∀ a, a < j → K 39 a = J 40 a) (fun r => ∃ K' : hJ, r = rc62 26 (nI m) (v3 + (-1)) (mkH (hs l s d tl) I K') ∧ (∀ c, c ≠ 37 → c ≠ 39 → K' c = J c) ∧ (∀ q, q < 25 * m → K' 37 q = J 38 q) ∧ ∀ a, a < m → K' 39 a = J 40 a) ?_ ?_
  · intro f K hp
    refine ⟨K, ?_, hp⟩
    show m180_216 F rc62 (f + 1) 26 (nI m) v3 (nI m) (mkH (hs l s d tl) I K) = _
    rw [m180_216, if_pos (show mc2 .ge (nI m) (nI m) = true by rw [c_ge (by omega) (by omega)]; omega)]
  · rintro f j K hj ⟨p1, p2, p3⟩
    right
    have e25 : (25 : Int32) * nI j = nI (25 * j) := by rw [n_25, pk_mul]
    have e2 := cp_e (l := l) (s := s) (d := d) (tl := tl) (F := F) (I := I) (J := K) (o := 25 * j) (p := 25 * j) (by omega) q38 q37 (by omega) (by omega) (by omega) (by omega) (by decide)
    refine ⟨upJ (rwJ K 37 (25 * j) 25 (fun q => K 38 (25 * j + q))) 39 j (K 40 j), ?_, fun c a1 a2 => ?_, fun q hq => ?_, fun a ha => ?_⟩
    · show m180_216 F rc62 (f + 1) 26 (nI m) v3 (nI j) (mkH (hs l s d tl) I K) = _
      rw [m180_216, if_neg (show ¬ mc2 .ge (nI j) (nI m) = true by rw [c_ge (by omega) (by omega)]; omega), gr26_22, Option.bind_some, gr26_21, Option.bind_some, e25, e2, Option.bind_some, gr26_23, Option.bind_some, gr26_24, Option.bind_some, rdJ_H q40 (by omega) (by omega), Option.bind_some, wrJ_H q39 (by omega) (by omega), Option.bind_some, n_1, nI_add, rwJ_ne (by decide)]
    · rw [upJ_ne a2, rwJ_ne a1]
      exact p1 c a1 a2
    · rw [upJ_ne (by decide)]
      by_cases h : q < 25 * j
      · rw [rwJ_out (Or.inl h)]
        exact p2 q h
      · obtain ⟨z, rfl⟩ : ∃ z, q = 25 * j + z := ⟨q - 25 * j, by omega⟩
        rw [rwJ_in (by omega), p1 38 (by decide) (by decide)]
    · rw [upJ_at]
      by_cases h : a = j
      · rw [if_pos h, h, p1 40 (by decide) (by decide)]
      · rw [if_neg h, rwJ_ne (by decide)]
        exact p3 a (by omega)
theorem wl_lv (hM : mo_n n A I) (hF : 9000 ≤ F) (h12 : y.length ≤ 12) (hyl : y.length = cx_l n A y) (hk : k < 12) (hV : lvV n A y k L (J 39)) (hq : sqs n A L J 37) (hL : L.length ≤ 924) {rc62 : Nat → Int32 → Int32 → List mE → Option (Int64 × List mE)} {v3 : Int32} : ∀ (f i : Nat) (x : List (List Nat) × hJ), i ≤ L.length → L.length < i + f → (lvI n A y k L (J 39) i 0 x.1 (x.2 40) ∧ sqs n A x.1 x.2 38 ∧ wfr J x.2) → ∃ (L' : List (List Nat)) (J' : hJ), m180_72 F rc62 f 26 (nI L.length) v3 (nI x.1.length) (nI i) (mkH (hs l s d tl) I x.2) = m180_216 F rc62 F 26 (nI L'.length) v3 (nI 0) (mkH (hs l s d tl) I J') ∧ lvI n A y k L (J 39) L.length 0 L' (J' 40) ∧ sqs n A L' J' 38 ∧ wfr J J' := by
  refine lpc (σ := List (List Nat) × hJ) (R := Option (Int64 × List mE)) (fun f i x => m180_72 F rc62 f 26 (nI L.length) v3 (nI x.1.length) (nI i) (mkH (hs l s d tl) I x.2)) L.length (fun i x => lvI n A y k L (J 39) i 0 x.1 (x.2 40) ∧ sqs n A x.1 x.2 38 ∧ wfr J x.2) (fun r => ∃ (L' : List (List Nat)) (J' : hJ), r = m180_216 F rc62 F 26 (nI L'.length) v3 (nI 0) (mkH (hs l s d tl) I J') ∧ lvI n A y k L (J 39) L.length 0 L' (J' 40) ∧ sqs n A L' J' 38 ∧ wfr J J') ?_ ?_
  · rintro f ⟨L1, J1⟩ hp
    refine ⟨L1, J1, ?_, hp⟩
    show m180_72 F rc62 (f + 1) 26 (nI L.length) v3 (nI L1.length) (nI L.length) (mkH (hs l s d tl) I J1) = _
    rw [m180_72, if_pos (show mc2 .ge (nI L.length) (nI L.length) = true by rw [c_ge (by omega) (by omega)]; omega)]
    rfl
  · rintro f i ⟨L1, J1⟩ hi hp
    right
    have hn5 := hM.2.2.1
    obtain ⟨L2, J2, e, r⟩ := wl_in (l := l) (s := s) (d := d) (tl := tl) (rc62 := rc62) (rc72 := m180_72 F rc62 f) (v3 := v3) hM hF h12 hyl hk hV hq (gd_ex hi) hL F 0 (L1, J1) (by omega) (by omega) hp
    refine ⟨(L2, J2), ?_, r⟩
    show m180_72 F rc62 (f + 1) 26 (nI L.length) v3 (nI L1.length) (nI i) (mkH (hs l s d tl) I J1) = _
    rw [m180_72, if_neg (show ¬ mc2 .ge (nI i) (nI L.length) = true by rw [c_ge (by omega) (by omega)]; omega)]
    exact e
end S
