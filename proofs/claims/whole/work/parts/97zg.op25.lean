/-! Calls of both: r. -/
theorem sub_le {a b : Nat} (h : b ≤ a) (ha : a < 2 ^ 31) : nI a - nI b = nI (a - b) := by
  obtain ⟨c, rfl⟩ : ∃ c, a = b + c := ⟨a - b, by omega⟩
  rw [Nat.add_sub_cancel_left, ← nI_add, Int32.add_comm, Int32.add_sub_cancel]
theorem sub_gt {a b : Nat} (h : a < b) (hb : b < 2 ^ 31) : nI a - nI b = gI (b - a) := by
  obtain ⟨c, rfl⟩ : ∃ c, b = a + c := ⟨b - a, by omega⟩
  unfold gI
  rw [Nat.add_sub_cancel_left, ← nI_add, Int32.sub_eq_add_neg, Int32.neg_add, Int32.sub_eq_add_neg, ← Int32.add_assoc, Int32.add_right_neg, Int32.zero_add]
section S
variable {l s d : Value} {tl : List hQ} {F : Nat} {I : hI} {J : hJ} {n : Nat} {A : Nat → Nat → Int} {els : List (List Nat)}
/-- numberAt -/
theorem na48 (hc : cl_n n A I) (hk : kp n A els I J) (hF : 9000 ≤ F) {a w : Nat} {u y : List Nat} (hu : els[a]? = some u) (hy : els[w]? = some y) (h8 : y.length ≤ 8) {k : Nat} (hk31 : k < 2 ^ 31) : ∃ (I' : hI) (J' : hJ), e48 F 22 (nI a) (nI w) (nI k) (mkH (hs l s d tl) I J) = some (zI (rww n A y u k), (mkH (hs l s d tl) I' J')) ∧ (∀ c, c ≠ 24 → I' c = I c) ∧ ∀ c, c ≠ 23 → J' c = J c := by
  have hok := hc.1
  have hn5 := hc.2.2.1
  have h40 := hk.2.1
  have hal := (List.getElem?_eq_some_iff.mp hu).1
  have hwl := (List.getElem?_eq_some_iff.mp hy).1
  obtain ⟨u1, u2, u3, _, _, u6⟩ := hk.2.2.2.2 a u hu
  obtain ⟨y1, y2, y3, _, _, _⟩ := hk.2.2.2.2 w y hy
  have uL := cx_c_L u1
  have yL := cx_c_L y1
  have ul := cx_c_l u1
  have pre : e48 F 22 (nI a) (nI w) (nI k) (mkH (hs l s d tl) I J) = if mc1 .lt (nI y.length - nI u.length) = true then m48_32 F (mkH (hs l s d tl) I J) else if mc2 .le (nI k) (nI y.length - nI u.length) = true then m48_37 F F 22 (nI a) (nI w) (nI k) (nI y.length - nI u.length) (nI 0) (mkH (hs l s d tl) I J) else m48_32 F (mkH (hs l s d tl) I J) := by
    show m48_0 F 22 _ _ _ _ = _
    unfold m48_0
    rw [gr22_1, Option.bind_some, gr8_3, Option.bind_some, rI10 (by omega), Option.bind_some, y3, Option.bind_some, gr8_3, Option.bind_some, rI10 (by omega), Option.bind_some, u3]
    rfl
  have zero : y.length < u.length + k → rww n A y u k = 0 := fun h => rwl_dg hok (cx_L_rev yL) uL (by rw [List.length_reverse, ul]; exact h)
  by_cases hlt : y.length < u.length
  · refine ⟨I, J, ?_, fun _ _ => rfl, fun _ _ => rfl⟩
    rw [pre, sub_gt hlt (by omega), if_pos (show mc1 .lt (gI (u.length - y.length)) = true by rw [m_ltk (by omega) (by omega)]; trivial), zero (by omega)]
    rfl
  · rw [sub_le (by omega) (by omega), if_neg (show ¬ mc1 .lt (nI (y.length - u.length)) = true by rw [d_lt (by omega)]; exact id)] at pre
    by_cases hka : k ≤ y.length - u.length
    · rw [if_pos (show mc2 .le (nI k) (nI (y.length - u.length)) = true by rw [c_le (by omega) (by omega)]; exact hka)] at pre
      -- the sum
      have sm : ∀ (I2 : hI) (J2 : hJ), (∀ a, a < 9 → I2 24 a = zI (pth n A y.reverse u a)) → ∀ (f q : Nat) (v : Int32), q ≤ (y.length - u.length) / 2 + 1 → (y.length - u.length) / 2 + 1 < q + f → v = zI (cx_sum q (fun a => pth n A y.reverse u a * qn a (pw (y.length - u.length - 2 * a)) k)) → m48_120 F f 22 (nI k) (nI (y.length - u.length)) v (nI q) (mkH (hs l s d tl) I2 J2) = some (zI (rww n A y u k), (mkH (hs l s d tl) I2 J2)) := by
        intro I2 J2 hI2
        refine lpc (σ := Int32) (R := Option (Int32 × List mE)) (fun f q v => m48_120 F f 22 (nI k) (nI (y.length - u.length)) v (nI q) (mkH (hs l s d tl) I2 J2)) ((y.length - u.length) / 2 + 1) (fun q v => v = zI (cx_sum q (fun a => pth n A y.reverse u a * qn a (pw (y.length - u.length - 2 * a)) k))) (fun r => r = some (zI (rww n A y u k), (mkH (hs l s d tl) I2 J2))) ?_ ?_
        · intro f v hv
          have hv : v = _ := hv
          show m48_120 F (f + 1) 22 (nI k) (nI (y.length - u.length)) v (nI ((y.length - u.length) / 2 + 1)) (mkH (hs l s d tl) I2 J2) = _
          rw [m48_120, n_2, pk_mul, if_pos (show mc2 .gt (nI (2 * ((y.length - u.length) / 2 + 1))) (nI (y.length - u.length)) = true by rw [c_gt (by omega) (by omega)]; omega), hv]
          have := rwl_p hok ((y.length - u.length) / 2 + 1 + u.length) y.reverse (cx_L_rev yL) (by rw [List.length_reverse]; omega) u uL k
          unfold rww
          rw [this, List.length_reverse, ul]
          -- further terms are 0
          have tail : ∀ N, cx_sum ((y.length - u.length) / 2 + 1 + N) (fun a => pth n A y.reverse u a * qn a (pw (y.length - u.length - 2 * a)) k) = cx_sum ((y.length - u.length) / 2 + 1) (fun a => pth n A y.reverse u a * qn a (pw (y.length - u.length - 2 * a)) k) := by
            intro N
            induction N with
            | zero => rfl
            | succ N ih =>
              rw [show (y.length - u.length) / 2 + 1 + (N + 1) = ((y.length - u.length) / 2 + 1 + N) + 1 by omega, cx_sum, ih, pth_0 hok y.reverse (cx_L_rev yL) u uL _ (by rw [List.length_reverse, ul]; omega), Int.zero_mul, Int.add_zero]
          rw [tail]
        · intro f q v hq hv
          right
          refine ⟨_, ?_, rfl⟩
          have hv : v = _ := hv
          show m48_120 F (f + 1) 22 (nI k) (nI (y.length - u.length)) v (nI q) (mkH (hs l s d tl) I2 J2) = _
          have e50' : e50 F (nI (y.length - u.length) - nI (2 * q)) (nI k - nI q) (mkH (hs l s d tl) I2 J2) = some (zI (qn q (pw (y.length - u.length - 2 * q)) k), (mkH (hs l s d tl) I2 J2)) := by
            rw [sub_le (by omega) (by omega), qn_at]
            by_cases hkq : k < q
            · rw [sub_gt hkq (by omega), if_pos hkq]
              show m50_0 F _ _ _ = _
              unfold m50_0
              rw [if_pos (show mc1 .lt (gI (q - k)) = true by rw [m_ltk (by omega) (by omega)]; trivial)]
              rfl
            · rw [sub_le (by omega) (by omega), if_neg hkq]
              exact pa50 hF (by omega) (by omega) _
          rw [m48_120, n_2, pk_mul, if_neg (show ¬ mc2 .gt (nI (2 * q)) (nI (y.length - u.length)) = true by rw [c_gt (by omega) (by omega)]; omega), gr22_3, Option.bind_some, rI24 (by omega), Option.bind_some, hI2 q (by omega), e50', Option.bind_some, hv, zI_mul, zI_add, n_1, nI_add]
          rfl
      -- the paths
      have wk : ∀ (I1 : hI), (∀ a, a < 9 → I1 24 a = nI 0) → (∀ c, c ≠ 24 → I1 c = I c) → ∃ (I' : hI) (J' : hJ), m48_37 F (F - 1 + 1) 22 (nI a) (nI w) (nI k) (nI (y.length - u.length)) (nI 9) (mkH (hs l s d tl) I1 J) = some (zI (rww n A y u k), (mkH (hs l s d tl) I' J')) ∧ (∀ c, c ≠ 24 → I' c = I c) ∧ ∀ c, c ≠ 23 → J' c = J c := by
        intro I1 z1 z2
        have g1 : cl_n n A I1 := cl_fr hc (z2 1 (by decide)) (z2 3 (by decide))
        have ly : I1 10 w = nI y.length := by rw [z2 10 (by decide)]; exact y3
        have lu : I1 10 a = nI u.length := by rw [z2 10 (by decide)]; exact u3
        have e42 := cr_e (l := l) (s := s) (d := d) (tl := tl) (F := F) (I := I1) (J := J) (o := a * 5) (p := y.length * 5) g1.2.2.2.1 hn5 (by omega) q12 q23 (by omega) (by omega) (by omega) (by omega) (Or.inl (by decide))
        have w2 : wt n A u (rwJ J 23 (y.length * 5) n (fun j => J 12 (a * 5 + j)) 23) (y.length * 5) := wt_cp u6
        have c2 : ∀ c, c ≠ 23 → rwJ J 23 (y.length * 5) n (fun j => J 12 (a * 5 + j)) c = J c := fun c hc => rwJ_ne hc
        generalize rwJ J 23 (y.length * 5) n (fun j => J 12 (a * 5 + j)) = J2 at *
        obtain ⟨I3, J3, e3, r1, r2, r3, _⟩ := wk49 (l := l) (s := s) (d := d) (tl := tl) hc hk hF hy h8 y.length 12 u 0 I1 J2 (Nat.le_refl _) (by omega) (by omega) uL (by omega) z2 c2 w2
        have found : ∀ a, a < 9 → I3 24 a = zI (pth n A y.reverse u a) := fun a ha => by
          rw [r1 a ha, z1 a ha, List.take_length]
          show (0 : Int32) + zI (pth n A y.reverse u a) = _
          rw [Int32.zero_add]
        have e5 := sm I3 J3 found F 0 0 (by omega) (by omega) rfl
        refine ⟨I3, J3, ?_, fun c hc => by rw [r2 c hc, z2 c hc], fun c hc => by rw [r3 c hc, c2 c hc]⟩
        rw [m48_37, if_pos (show mc2 .gt (nI 9) 8 = true by decide), gr22_0, Option.bind_some, gr22_1, Option.bind_some, gr8_5, Option.bind_some, gr22_2, Option.bind_some, Option.bind_some, gr8_3, Option.bind_some, rI10 (by omega), Option.bind_some, ly, rc1, Option.bind_some, n_5, pk_mul, pk_mul, e42, Option.bind_some, gr22_1, Option.bind_some, gr8_3, Option.bind_some, rI10 (by omega), Option.bind_some, ly, Option.bind_some, gr8_3, Option.bind_some, rI10 (by omega), Option.bind_some, lu]
        rw [ul] at e3
        show ((e49 F 12 22 (nI w) (nI y.length) (nI u.length) (nI 0) (mkH (hs l s d tl) I1 J2)).bind _) = _
        rw [e3, Option.bind_some]
        exact e5
      have lp : ∀ (f q : Nat) (K : hI), q ≤ 9 → 9 < q + f → ((∀ a, a < q → K 24 a = nI 0) ∧ ∀ c, c ≠ 24 → K c = I c) → ∃ (I' : hI) (J' : hJ), m48_37 F f 22 (nI a) (nI w) (nI k) (nI (y.length - u.length)) (nI q) (mkH (hs l s d tl) K J) = some (zI (rww n A y u k), (mkH (hs l s d tl) I' J')) ∧ (∀ c, c ≠ 24 → I' c = I c) ∧ ∀ c, c ≠ 23 → J' c = J c := by
        refine lpc (σ := hI) (R := Option (Int32 × List mE)) (fun f q K => m48_37 F f 22 (nI a) (nI w) (nI k) (nI (y.length - u.length)) (nI q) (mkH (hs l s d tl) K J)) 9 (fun q K => (∀ a, a < q → K 24 a = nI 0) ∧ ∀ c, c ≠ 24 → K c = I c) (fun r => ∃ (I' : hI) (J' : hJ), r = some (zI (rww n A y u k), (mkH (hs l s d tl) I' J')) ∧ (∀ c, c ≠ 24 → I' c = I c) ∧ ∀ c, c ≠ 23 → J' c = J c) ?_ ?_
        · rintro f K ⟨p1, p2⟩
          obtain ⟨I', J', e, r⟩ := wk K p1 p2
          refine ⟨I', J', ?_, r⟩
          rw [← e]
          show m48_37 F (f + 1) 22 (nI a) (nI w) (nI k) (nI (y.length - u.length)) (nI 9) (mkH (hs l s d tl) K J) = m48_37 F (F - 1 + 1) 22 (nI a) (nI w) (nI k) (nI (y.length - u.length)) (nI 9) (mkH (hs l s d tl) K J)
          rw [m48_37, m48_37, if_pos (show mc2 .gt (nI 9) 8 = true by decide), if_pos (show mc2 .gt (nI 9) 8 = true by decide)]
        · rintro f q K hq ⟨p1, p2⟩
          right
          refine ⟨upI K 24 q (nI 0), ?_, fun a ha => ?_, fun c hc => by rw [upI_ne hc]; exact p2 c hc⟩
          · show m48_37 F (f + 1) 22 (nI a) (nI w) (nI k) (nI (y.length - u.length)) (nI q) (mkH (hs l s d tl) K J) = _
            rw [m48_37, if_neg (show ¬ mc2 .gt (nI q) 8 = true by rw [show (8 : Int32) = nI 8 from rfl, c_gt (by omega) (by omega)]; omega), gr22_3, Option.bind_some]
            rw [show (0 : Int32) = nI 0 from rfl, wI24 (by omega), Option.bind_some, n_1, nI_add]
          · rw [upI_at]
            by_cases haq : a = q
            · rw [if_pos haq]
            · rw [if_neg haq]
              exact p1 a (by omega)
      obtain ⟨I', J', e, r⟩ := lp F 0 I (by omega) (by omega) ⟨fun a ha => by omega, fun _ _ => rfl⟩
      exact ⟨I', J', pre.trans e, r⟩
    · rw [if_neg (show ¬ mc2 .le (nI k) (nI (y.length - u.length)) = true by rw [c_le (by omega) (by omega)]; exact hka)] at pre
      refine ⟨I, J, ?_, fun _ _ => rfl, fun _ _ => rfl⟩
      rw [pre, zero (by omega)]
      rfl
/-- placeOf -/
theorem po_e (hM : mo_n n A I) (hk : km n A els I) (hF : 9000 ≤ F) {y : List Nat} {W : List (List Nat)} (yL : cx_L n y) (h8 : y.length ≤ 8) (hB : blF n A y W I J) {a : Nat} {u : List Nat} (hu : els[a]? = some u) : ∃ (v : Int32) (J' : hJ), e204 F 26 (nI a) (mkH (hs l s d tl) I J) = some (v, (mkH (hs l s d tl) I J')) ∧ ((∃ (j : Nat) (x : List Nat), W[j]? = some x ∧ cx_g n A x = cx_g n A u ∧ v = nI j) ∨ ((∀ (j : Nat) (x : List Nat), W[j]? = some x → cx_g n A x ≠ cx_g n A u) ∧ v = gI 1)) ∧ ∀ c, c ≠ 32 → J' c = J c := by
  have hok := hM.1
  have hn5 := hM.2.2.1
  obtain ⟨uc, uL, ul, u20, _⟩ := km_c hk hu
  have hA := bqS_A hB.1
  obtain ⟨J1, e1, q1, c1⟩ := sqr_e (l := l) (s := s) (d := d) (tl := tl) (F := F) (J := J) hM hk (by omega) hu
  have s45 : sqs n A W J1 45 := fun i x hx => by rw [c1 45 (by decide)]; exact hB.2.2.1.1 i x hx
  have hl : ∀ (i : Nat) (u : List Nat), W[i]? = some u → cx_L n u ∧ cx_l n A u ≤ 9 := fun i u hu => by
    obtain ⟨a0, a1⟩ := hA.2.2.1 i u hu
    have := bqS_l a0 a1 yL
    exact ⟨a0, by omega⟩
  have e0 : ∀ v, e199 F 26 (mkH (hs l s d tl) I J1) = some (v, (mkH (hs l s d tl) I J1)) → e204 F 26 (nI a) (mkH (hs l s d tl) I J) = some (v, (mkH (hs l s d tl) I J1)) := by
    intro v hv
    show m204_0 F 26 _ _ = _
    unfold m204_0
    rw [rc26, Option.bind_some]
    show ((e169 F 26 (nI a) (nI 0) (mkH (hs l s d tl) I J)).bind _) = _
    rw [e1, Option.bind_some, rc26, Option.bind_some, hv, Option.bind_some]
  rcases fd_e (l := l) (s := s) (d := d) (tl := tl) (F := F) (I := I) (J := J1) hok hn5 hF hl hB.2.1 s45 hB.2.2.1.2.2 uL (by omega) q1 with ⟨j, x, a1, a2, a3⟩ | ⟨a1, a2⟩
  · exact ⟨nI j, J1, e0 _ a3, Or.inl ⟨j, x, a1, a2, rfl⟩, c1⟩
  · exact ⟨gI 1, J1, e0 _ a2, Or.inr ⟨a1, rfl⟩, c1⟩
end S
