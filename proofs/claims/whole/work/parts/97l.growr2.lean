/-! The reference: grow, growth, whole. -/
section S
variable {l s d : Value} {tl : List hQ} {F : Nat} {I : hI} {J : hJ} {n k : Nat} {A : Nat → Nat → Int} {L : List (List Nat)}
theorem gl_lv (hM : mo_n n A I) (hF : 9000 ≤ F) (hk : k < 31) (hV : lvp n A (fun m => m = k) L) (hq : sqs n A L J 37) (hal : I 26 27 = nI (glS n A k)) (hL : L.length ≤ 2000) : ∀ (f i : Nat) (x : List (List Nat) × hJ), i ≤ L.length → L.length < i + f → (gvI n A k L i 0 x.1 ∧ sqs n A x.1 x.2 38 ∧ wfh J x.2 ∧ glS n A k + x.1.length ≤ 2000) → (∃ J' : hJ, m190_4 F f 26 (nI L.length) (nI x.1.length) (nI i) (mkH (hs l s d tl) I x.2) = some (gI 1, (mkH (hs l s d tl) I J')) ∧ wfh J J' ∧ 2000 < glS n A (k + 1)) ∨ ∃ (L' : List (List Nat)) (J' : hJ), m190_4 F f 26 (nI L.length) (nI x.1.length) (nI i) (mkH (hs l s d tl) I x.2) = m190_108 F F 26 (nI L'.length) (nI 0) (mkH (hs l s d tl) I J') ∧ gvI n A k L L.length 0 L' ∧ sqs n A L' J' 38 ∧ wfh J J' ∧ glS n A k + L'.length ≤ 2000 := by
  have hn5 := hM.2.2.1
  refine lpc (σ := List (List Nat) × hJ) (R := Option (Int32 × List mE)) (fun f i x => m190_4 F f 26 (nI L.length) (nI x.1.length) (nI i) (mkH (hs l s d tl) I x.2)) L.length (fun i x => gvI n A k L i 0 x.1 ∧ sqs n A x.1 x.2 38 ∧ wfh J x.2 ∧ glS n A k + x.1.length ≤ 2000) (fun r => (∃ J' : hJ, r = some (gI 1, (mkH (hs l s d tl) I J')) ∧ wfh J J' ∧ 2000 < glS n A (k + 1)) ∨ ∃ (L' : List (List Nat)) (J' : hJ), r = m190_108 F F 26 (nI L'.length) (nI 0) (mkH (hs l s d tl) I J') ∧ gvI n A k L L.length 0 L' ∧ sqs n A L' J' 38 ∧ wfh J J' ∧ glS n A k + L'.length ≤ 2000) ?_ ?_
  · rintro f ⟨L1, J1⟩ hp
    right
    refine ⟨L1, J1, ?_, hp⟩
    show m190_4 F (f + 1) 26 (nI L.length) (nI L1.length) (nI L.length) (mkH (hs l s d tl) I J1) = _
    rw [m190_4, if_pos (show mc2 .ge (nI L.length) (nI L.length) = true by rw [c_ge (by omega) (by omega)]; omega)]
    rfl
  · rintro f i ⟨L1, J1⟩ hi hp
    have e0 : m190_4 F (f + 1) 26 (nI L.length) (nI L1.length) (nI i) (mkH (hs l s d tl) I J1) = m190_12 F (m190_4 F f) F 26 (nI L.length) (nI L1.length) (nI i) (nI 0) (mkH (hs l s d tl) I J1) := by
      rw [m190_4, if_neg (show ¬ mc2 .ge (nI i) (nI L.length) = true by rw [c_ge (by omega) (by omega)]; omega)]
      rfl
    rcases gl_in (l := l) (s := s) (d := d) (tl := tl) (rc4 := m190_4 F f) hM hF hk hV hq hal hL (gd_ex hi) F 0 (L1, J1) (by omega) (by omega) hp with ⟨J2, e, r⟩ | ⟨L2, J2, e, r⟩
    · left
      left
      exact ⟨J2, e0.trans e, r⟩
    · right
      exact ⟨(L2, J2), e0.trans e, r⟩
theorem gl_cp (hF : 9000 ≤ F) {m : Nat} (hm : m ≤ 2000) : ∀ (f j : Nat) (K : hJ), j ≤ m → m < j + f → ((∀ c, c ≠ 37 → K c = J c) ∧ ∀ q, q < 25 * j → K 37 q = J 38 q) → ∃ K' : hJ, m190_108 F f 26 (nI m) (nI j) (mkH (hs l s d tl) I K) = some (nI m, (mkH (hs l s d tl) (upI I 26 27 (I 26 27 + nI m)) K')) ∧ (∀ c, c ≠ 37 → K' c = J c) ∧ ∀ q, q < 25 * m → K' 37 q = J 38 q := by
  refine lpc (σ := hJ) (R := Option (Int32 × List mE)) (fun f j K => m190_108 F f 26 (nI m) (nI j) (mkH (hs l s d tl) I K)) m (fun j K => (∀ c, c ≠ 37 → K c = J c) ∧ ∀ q, q < 25 * j → K 37 q = J 38 q) (fun r => ∃ K' : hJ, r = some (nI m, (mkH (hs l s d tl) (upI I 26 27 (I 26 27 + nI m)) K')) ∧ (∀ c, c ≠ 37 → K' c = J c) ∧ ∀ q, q < 25 * m → K' 37 q = J 38 q) ?_ ?_
  · intro f K hp
    refine ⟨K, ?_, hp⟩
    show m190_108 F (f + 1) 26 (nI m) (nI m) (mkH (hs l s d tl) I K) = _
    rw [m190_108, if_pos (show mc2 .ge (nI m) (nI m) = true by rw [c_ge (by omega) (by omega)]; omega), gi26_27, Option.bind_some, pi26_27, Option.bind_some]
  · rintro f j K hj ⟨p1, p2⟩
    right
    have e25 : (25 : Int32) * nI j = nI (25 * j) := by rw [n_25, pk_mul]
    have e2 := cp_e (l := l) (s := s) (d := d) (tl := tl) (F := F) (I := I) (J := K) (o := 25 * j) (p := 25 * j) (by omega) q38 q37 (by omega) (by omega) (by omega) (by omega) (by decide)
    refine ⟨rwJ K 37 (25 * j) 25 (fun q => K 38 (25 * j + q)), ?_, fun c a1 => ?_, fun q hq => ?_⟩
    · show m190_108 F (f + 1) 26 (nI m) (nI j) (mkH (hs l s d tl) I K) = _
      rw [m190_108, if_neg (show ¬ mc2 .ge (nI j) (nI m) = true by rw [c_ge (by omega) (by omega)]; omega), gr26_22, Option.bind_some, gr26_21, Option.bind_some, e25, e2, Option.bind_some, n_1, nI_add]
    · rw [rwJ_ne a1]
      exact p1 c a1
    · by_cases h : q < 25 * j
      · rw [rwJ_out (Or.inl h)]
        exact p2 q h
      · obtain ⟨z, rfl⟩ : ∃ z, q = 25 * j + z := ⟨q - 25 * j, by omega⟩
        rw [rwJ_in (by omega), p1 38 (by decide)]
/-- the state between two levels -/
def glP (n : Nat) (A : Nat → Nat → Int) (I0 : hI) (J0 : hJ) (k : Nat) (L : List (List Nat)) (I : hI) (J : hJ) : Prop := lvp n A (fun m => m = k) L ∧ sqs n A L J 37 ∧ I = upI I0 26 27 (nI (glS n A k)) ∧ glS n A k ≤ 2000 ∧ wfg J0 J
/-- grow -/
theorem gr_e {I0 : hI} {J0 : hJ} (hM : mo_n n A I0) (hF : 9000 ≤ F) (hk : k < 31) (hp : glP n A I0 J0 k L I J) : (∃ J', e190 F 26 (nI (glN n A k)) (mkH (hs l s d tl) I J) = some (gI 1, (mkH (hs l s d tl) I J')) ∧ wfg J0 J' ∧ 2000 < glS n A (k + 1)) ∨ ∃ (L' : List (List Nat)) (I' : hI) (J' : hJ), e190 F 26 (nI (glN n A k)) (mkH (hs l s d tl) I J) = some (nI (glN n A (k + 1)), (mkH (hs l s d tl) I' J')) ∧ glP n A I0 J0 (k + 1) L' I' J' := by
  obtain ⟨hV, hq, hI, hs2, hw⟩ := hp
  have hM1 : mo_n n A I := mo_fr hM (by rw [hI, upI_at, if_neg (by decide)]) (by rw [hI, upI_ne (by decide)])
  have hal : I 26 27 = nI (glS n A k) := by rw [hI, upI_at, if_pos rfl]
  have hLe : L.length = glN n A k := lvn_e hV
  have hNS : glN n A k ≤ glS n A k := by
    cases k with
    | zero => rw [glN_0, glS_0]; exact Nat.le_refl _
    | succ k => rw [glS_s]; omega
  have hL : L.length ≤ 2000 := by omega
  have e0 : e190 F 26 (nI (glN n A k)) (mkH (hs l s d tl) I J) = m190_4 F F 26 (nI L.length) (nI ([] : List (List Nat)).length) (nI 0) (mkH (hs l s d tl) I J) := by
    rw [hLe]
    rfl
  rw [e0]
  rcases gl_lv (l := l) (s := s) (d := d) (tl := tl) hM1 hF hk hV hq hal hL F 0 ([], J) (by omega) (by omega) ⟨gvI_0, fun i u h => by simp at h, fun _ _ _ => rfl, by simpa using hs2⟩ with ⟨J1, e1, r1, r2⟩ | ⟨L1, J1, e1, r1, r2, r3, r4⟩
  · left
    exact ⟨J1, e1, fun c a1 a2 a3 => (r1 c a1 a3).trans (hw c a1 a2 a3), r2⟩
  · right
    have hV1 := gvI_z hM.1 hV r1
    have hL1 : L1.length = glN n A (k + 1) := lvn_e hV1
    obtain ⟨K, e2, k1, k2⟩ := gl_cp (l := l) (s := s) (d := d) (tl := tl) (I := I) (J := J1) hF (m := L1.length) (by omega) F 0 J1 (by omega) (by omega) ⟨fun _ _ => rfl, fun q hq => by omega⟩
    refine ⟨L1, upI I 26 27 (I 26 27 + nI L1.length), K, ?_, hV1, ?_, ?_, ?_, ?_⟩
    · exact e1.trans (by rw [e2, hL1])
    · intro a x hx i' k' hi' hk'
      have hal : a < L1.length := (List.getElem?_eq_some_iff.mp hx).1
      rw [k2 _ (by omega)]
      exact r2 a x hx i' k' hi' hk'
    · rw [hal, nI_add, hI, hL1, ← glS_s]
      funext c j
      unfold upI
      split
      · split <;> rfl
      · rfl
    · rw [glS_s, ← hL1]; exact r4
    · intro c a1 a2 a3
      rw [k1 c a2, r3 c a1 a3]
      exact hw c a1 a2 a3
/-- startLevels -/
theorem sl_e (hM : mo_n n A I) (hF : 9000 ≤ F) : ∃ (I' : hI) (J' : hJ), e191 F 26 (mkH (hs l s d tl) I J) = some ((), (mkH (hs l s d tl) I' J')) ∧ glP n A I J 0 [[]] I' J' := by
  have e1 := bg_e (l := l) (s := s) (d := d) (tl := tl) (F := F) (I := I) (J := J) (by omega)
  have q1 : sq n A [] (rwJ J 32 0 25 (fun q => zJ (if q / 5 = q % 5 then 1 else 0)) 32) 0 := sq_nil
  generalize hJ1 : rwJ J 32 0 25 (fun q => zJ (if q / 5 = q % 5 then 1 else 0)) = J1 at *
  have c1 : ∀ c, c ≠ 32 → J1 c = J c := fun c hc => by rw [← hJ1]; exact rwJ_ne hc
  have e2 := cp_e (l := l) (s := s) (d := d) (tl := tl) (F := F) (I := I) (J := J1) (o := 0) (p := 0) (by omega) q32 q37 (by omega) (by omega) (by omega) (by omega) (by decide)
  have q2 : sq n A [] (rwJ J1 37 0 25 (fun q => J1 32 (0 + q)) 37) 0 := sq_cp q1
  generalize hJ2 : rwJ J1 37 0 25 (fun q => J1 32 (0 + q)) = J2 at *
  have c2 : ∀ c, c ≠ 37 → J2 c = J1 c := fun c hc => by rw [← hJ2]; exact rwJ_ne hc
  refine ⟨upI I 26 27 (nI 1), J2, ?_, lvp_0 rfl (fun _ h => h), ?_, by rw [glS_0], by rw [glS_0]; omega, fun c a1 a2 _ => by rw [c2 c a2, c1 c a1]⟩
  · show m191_0 F 26 _ = _
    unfold m191_0
    rw [rc26, Option.bind_some, e1, Option.bind_some, gr26_13, Option.bind_some, gr26_21, Option.bind_some]
    show ((e177 F 32 (nI 0) 37 (nI 0) (mkH (hs l s d tl) I J1)).bind _) = _
    rw [e2, Option.bind_some]
    show ((pfv 11 27 (mkH (hs l s d tl) I J2) 26 (.int (nI 1))).bind _) = _
    rw [pi26_27, Option.bind_some]
  · intro a x hx
    cases a with
    | zero =>
      cases hx
      exact q2
    | succ a => simp at hx
/-- what growth answers -/
noncomputable def gwv (n : Nat) (A : Nat → Nat → Int) (k : Nat) : Int32 := if glS n A k ≤ 2000 then nI (glN n A k) else -1005
def glf (I I' : hI) (J J' : hJ) : Prop := (∃ x, I' = upI I 26 27 x) ∧ wfg J J'
theorem gN_le {k : Nat} (h : glS n A k ≤ 2000) : glN n A k ≤ 2000 := by
  cases k with
  | zero => rw [glN_0]; omega
  | succ k => rw [glS_s] at h; omega
/-- growth, of the reference -/
theorem gwr_e (hM : mo_n n A I) (hF : 9000 ≤ F) {N : Nat} (hN : N ≤ 20) : ∃ (I' : hI) (J' : hJ), e192 F 26 (nI N) (mkH (hs l s d tl) I J) = some (gwv n A N, (mkH (hs l s d tl) I' J')) ∧ glf I I' J J' := by
  have hok := hM.1
  obtain ⟨I1, J1, e1, r1⟩ := sl_e (l := l) (s := s) (d := d) (tl := tl) (F := F) (J := J) hM hF
  have key : ∀ (f k : Nat) (x : Int32 × List (List Nat) × hI × hJ), k ≤ N → N < k + f → (x.1 = nI (glN n A k) ∧ glP n A I J k x.2.1 x.2.2.1 x.2.2.2) ∨ (x.1 = gI 1 ∧ 2000 < glS n A k ∧ glf I x.2.2.1 J x.2.2.2) → ∃ (I' : hI) (J' : hJ), m192_24 F f 26 (nI N) x.1 (nI k) (mkH (hs l s d tl) x.2.2.1 x.2.2.2) = some (gwv n A N, (mkH (hs l s d tl) I' J')) ∧ glf I I' J J' := by
    refine lpc (σ := Int32 × List (List Nat) × hI × hJ) (R := Option (Int32 × List mE)) (fun f k x => m192_24 F f 26 (nI N) x.1 (nI k) (mkH (hs l s d tl) x.2.2.1 x.2.2.2)) N (fun k x => (x.1 = nI (glN n A k) ∧ glP n A I J k x.2.1 x.2.2.1 x.2.2.2) ∨ (x.1 = gI 1 ∧ 2000 < glS n A k ∧ glf I x.2.2.1 J x.2.2.2)) (fun r => ∃ (I' : hI) (J' : hJ), r = some (gwv n A N, (mkH (hs l s d tl) I' J')) ∧ glf I I' J J') ?_ ?_
    · rintro f ⟨m, L2, I2, J2⟩ (⟨hm, hp⟩ | ⟨hm, ho, hp⟩)
      · have hp : glP n A I J N L2 I2 J2 := hp
        have hm : m = nI (glN n A N) := hm
        subst hm
        have h2 := gN_le hp.2.2.2.1
        refine ⟨I2, J2, ?_, ⟨_, hp.2.2.1⟩, hp.2.2.2.2⟩
        show m192_24 F (f + 1) 26 (nI N) (nI (glN n A N)) (nI N) (mkH (hs l s d tl) I2 J2) = _
        rw [m192_24, if_pos (show mc2 .ge (nI N) (nI N) = true by rw [c_ge (by omega) (by omega)]; omega)]
        unfold m192_45
        rw [if_pos (show mc1 .ge (nI (glN n A N)) = true by rw [d_ge (by omega)]; trivial)]
        unfold m192_56 gwv
        rw [if_pos hp.2.2.2.1]
      · have hm : m = gI 1 := hm
        subst hm
        refine ⟨I2, J2, ?_, hp⟩
        show m192_24 F (f + 1) 26 (nI N) (gI 1) (nI N) (mkH (hs l s d tl) I2 J2) = _
        rw [m192_24, if_pos (show mc2 .ge (nI N) (nI N) = true by rw [c_ge (by omega) (by omega)]; omega)]
        unfold m192_45
        rw [if_neg (by decide)]
        unfold m192_56 gwv
        rw [if_neg (by omega)]
    · rintro f k ⟨m, L2, I2, J2⟩ hk (⟨hm, hp⟩ | ⟨hm, ho, hp⟩)
      · have hp : glP n A I J k L2 I2 J2 := hp
        have hm : m = nI (glN n A k) := hm
        subst hm
        have h2 := gN_le hp.2.2.2.1
        by_cases h0 : glN n A k = 0
        · left
          refine ⟨I2, J2, ?_, ⟨_, hp.2.2.1⟩, hp.2.2.2.2⟩
          show m192_24 F (f + 1) 26 (nI N) (nI (glN n A k)) (nI k) (mkH (hs l s d tl) I2 J2) = _
          rw [m192_24, if_neg (show ¬ mc2 .ge (nI k) (nI N) = true by rw [c_ge (by omega) (by omega)]; omega), if_pos (show mc1 .le (nI (glN n A k)) = true by rw [d_le (by omega)]; omega)]
          unfold m192_45
          rw [if_pos (show mc1 .ge (nI (glN n A k)) = true by rw [d_ge (by omega)]; trivial)]
          unfold m192_56 gwv
          rw [if_pos (by rw [glS_st hok h0 N (by omega)]; exact hp.2.2.2.1), h0, glN_zz hok h0 N (by omega)]
        · right
          have e0 : m192_24 F (f + 1) 26 (nI N) (nI (glN n A k)) (nI k) (mkH (hs l s d tl) I2 J2) = (e190 F 26 (nI (glN n A k)) (mkH (hs l s d tl) I2 J2)).bind fun q3 => m192_24 F f 26 (nI N) q3.1 (nI (k + 1)) q3.2 := by
            rw [m192_24, if_neg (show ¬ mc2 .ge (nI k) (nI N) = true by rw [c_ge (by omega) (by omega)]; omega), if_neg (show ¬ mc1 .le (nI (glN n A k)) = true by rw [d_le (by omega)]; omega), rc26, Option.bind_some, n_1, nI_add]
          rcases gr_e (l := l) (s := s) (d := d) (tl := tl) (F := F) hM hF (by omega) hp with ⟨J3, e3, f3, o3⟩ | ⟨L3, I3, J3, e3, p3⟩
          · refine ⟨(gI 1, [], I2, J3), ?_, Or.inr ⟨rfl, o3, ⟨_, hp.2.2.1⟩, f3⟩⟩
            show m192_24 F (f + 1) 26 (nI N) (nI (glN n A k)) (nI k) (mkH (hs l s d tl) I2 J2) = _
            rw [e0, e3, Option.bind_some]
          · refine ⟨(nI (glN n A (k + 1)), L3, I3, J3), ?_, Or.inl ⟨rfl, p3⟩⟩
            show m192_24 F (f + 1) 26 (nI N) (nI (glN n A k)) (nI k) (mkH (hs l s d tl) I2 J2) = _
            rw [e0, e3, Option.bind_some]
      · left
        have hm : m = gI 1 := hm
        subst hm
        refine ⟨I2, J2, ?_, hp⟩
        show m192_24 F (f + 1) 26 (nI N) (gI 1) (nI k) (mkH (hs l s d tl) I2 J2) = _
        rw [m192_24, if_neg (show ¬ mc2 .ge (nI k) (nI N) = true by rw [c_ge (by omega) (by omega)]; omega), if_pos (show mc1 .le (gI 1) = true by decide)]
        unfold m192_45
        rw [if_neg (by decide)]
        unfold m192_56 gwv
        rw [if_neg (by have := glS_mo (n := n) (A := A) (show k ≤ N by omega); omega)]
  obtain ⟨I', J', e2, r2⟩ := key F 0 (nI (glN n A 0), [[]], I1, J1) (by omega) (by omega) (Or.inl ⟨rfl, r1⟩)
  refine ⟨I', J', ?_, r2⟩
  have e3 : e137 F (nI N).toInt64 0 20 (mkH (hs l s d tl) I J) = some (nI 1, (mkH (hs l s d tl) I J)) := by
    rcases bw_n (F := F) (nI N) (m := 21) (by omega) (mkH (hs l s d tl) I J) with ⟨_, _, _, h⟩ | ⟨h, _⟩
    · exact h
    · exact absurd rfl (h N (by omega))
  show m192_0 F 26 (nI N) _ = _
  unfold m192_0
  rw [e3, Option.bind_some, if_pos (show mc1 .ne (nI 1) = true by decide), rc26, Option.bind_some, e1, Option.bind_some]
  rw [glN_0] at e2
  exact e2
end S
