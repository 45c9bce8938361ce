/-! The class: Shifts, walk. -/
section S
variable {l s d : Value} {tl : List hQ} {F : Nat} {I : hI} {J : hJ} {n b : Nat} {A : Nat → Nat → Int}
/-- what walk leaves -/
def wkR (n : Nat) (A : Nat → Nat → Int) (w : List Nat) (b : Nat) (I : hI) (J : hJ) (v : Int32) (I' : hI) (J' : hJ) : Prop := ∃ W, siP n A b I J W I' J' ∧ (0 < W.length ∧ (∀ (i : Nat) (u : List Nat), W[i]? = some u → cx_L n u) ∧ ∀ (i : Nat) (u : List Nat), W[i]? = some u → cx_l n A u ≤ 20) ∧ ((v = nI 1 ∧ lvq n A (rch n A w) W) ∨ (v = nI 0 ∧ ∃ W', lds n A W' ∧ (∀ (i : Nat) (z : List Nat), W'[i]? = some z → cx_L n z ∧ rch n A w z) ∧ 300 < W'.length))
theorem wk_in (h : siS (hs l s d tl) b) (hg : cl_n n A I) (hF : 9000 ≤ F) {w : List Nat} (hw20 : cx_l n A w ≤ 20) (wL : cx_L n w) {rc : Nat → Int32 → List mE → Option (Int32 × List mE)} {x : Nat} {u : List Nat} : ∀ (f t : Nat) (y : hI × hJ), t ≤ n → n < t + f → (∃ W, shQ n A w W x t ∧ siP n A b I J W y.1 y.2 ∧ W[x]? = some u) → (∃ (I' : hI) (J' : hJ), m72_151 F rc f b (nI x) (nI t) (mkH (hs l s d tl) y.1 y.2) = some (nI 0, (mkH (hs l s d tl) I' J')) ∧ wkR n A w b I J (nI 0) I' J') ∨ ∃ (I' : hI) (J' : hJ) (W : List (List Nat)), m72_151 F rc f b (nI x) (nI t) (mkH (hs l s d tl) y.1 y.2) = rc b (nI (x + 1)) (mkH (hs l s d tl) I' J') ∧ shQ n A w W (x + 1) 0 ∧ siP n A b I J W I' J' ∧ x < W.length := by
  have hn5 := hg.2.2.1
  have b54 := h.2.2.2.2.2.2.2.2.1
  refine lpc (σ := hI × hJ) (R := Option (Int32 × List mE)) (fun f t y => m72_151 F rc f b (nI x) (nI t) (mkH (hs l s d tl) y.1 y.2)) n (fun t y => ∃ W, shQ n A w W x t ∧ siP n A b I J W y.1 y.2 ∧ W[x]? = some u) (fun r => (∃ (I' : hI) (J' : hJ), r = some (nI 0, (mkH (hs l s d tl) I' J')) ∧ wkR n A w b I J (nI 0) I' J') ∨ ∃ (I' : hI) (J' : hJ) (W : List (List Nat)), r = rc b (nI (x + 1)) (mkH (hs l s d tl) I' J') ∧ shQ n A w W (x + 1) 0 ∧ siP n A b I J W I' J' ∧ x < W.length) ?_ ?_
  · rintro f ⟨I1, J1⟩ ⟨W, q1, q2, q3⟩
    right
    have p4 : sig b I I1 J J1 := q2.2.2.2
    have g1 : I1 1 0 = nI n := by rw [p4.1 1 (by omega) (by omega) (by omega) (by omega)]; exact hg.2.2.2.1
    refine ⟨I1, J1, W, ?_, shQ_i q1, q2, (List.getElem?_eq_some_iff.mp q3).1⟩
    show m72_151 F rc (f + 1) b (nI x) (nI n) (mkH (hs l s d tl) I1 J1) = _
    rw [m72_151, si0 h, Option.bind_some, gi1_0, Option.bind_some, g1, if_pos (show mc2 .ge (nI n) (nI n) = true by rw [c_ge (by omega) (by omega)]; omega), n_1, nI_add]
  · rintro f t ⟨I1, J1⟩ ht ⟨W, q1, q2, q3⟩
    have p4 : sig b I I1 J J1 := q2.2.2.2
    have g1 : I1 1 0 = nI n := by rw [p4.1 1 (by omega) (by omega) (by omega) (by omega)]; exact hg.2.2.2.1
    obtain ⟨v, I2, J2, e1, r⟩ := stp_e (F := F) h hg hF hw20 wL ht q3 q1 q2
    have e0 : m72_151 F rc (f + 1) b (nI x) (nI t) (mkH (hs l s d tl) I1 J1) = if mc1 .ne v = true then m72_151 F rc f b (nI x) (nI (t + 1)) (mkH (hs l s d tl) I2 J2) else some (0, (mkH (hs l s d tl) I2 J2)) := by
      rw [m72_151, si0 h, Option.bind_some, gi1_0, Option.bind_some, g1, if_neg (show ¬ mc2 .ge (nI t) (nI n) = true by rw [c_ge (by omega) (by omega)]; omega), sir h, Option.bind_some]
      show ((e73 F b (nI x) (nI t) (mkH (hs l s d tl) I1 J1)).bind _) = _
      rw [e1, Option.bind_some, n_1, nI_add]
    rcases r with ⟨rfl, W', r1, r2, r3⟩ | ⟨rfl, r1, r2⟩
    · right
      refine ⟨(I2, J2), ?_, W', r1, r2, r3⟩
      show m72_151 F rc (f + 1) b (nI x) (nI t) (mkH (hs l s d tl) I1 J1) = _
      rw [e0, if_pos (show mc1 .ne (nI 1) = true by decide)]
    · left
      left
      refine ⟨I2, J2, ?_, W, r1, ⟨?_, fun i z hz => (q1.2.2.1 i z hz).1, fun i z hz => by have := (rch_L wL (q1.2.2.1 i z hz).2).2; omega⟩, Or.inr ⟨rfl, r2⟩⟩
      · show m72_151 F rc (f + 1) b (nI x) (nI t) (mkH (hs l s d tl) I1 J1) = _
        rw [e0, if_neg (show ¬ mc1 .ne (nI 0) = true by decide)]
        rfl
      · have := (List.getElem?_eq_some_iff.mp q3).1
        omega
theorem wk_out (h : siS (hs l s d tl) b) (hg : cl_n n A I) (hF : 9000 ≤ F) {w : List Nat} (hw20 : cx_l n A w ≤ 20) (wL : cx_L n w) : ∀ (f : Nat) (y : Nat × hI × hJ), (∃ W, shQ n A w W y.1 0 ∧ siP n A b I J W y.2.1 y.2.2 ∧ y.1 ≤ W.length) → 301 - y.1 < f → ∃ (v : Int32) (I' : hI) (J' : hJ), m72_131 F f b (nI y.1) (mkH (hs l s d tl) y.2.1 y.2.2) = some (v, (mkH (hs l s d tl) I' J')) ∧ wkR n A w b I J v I' J' := by
  have hn5 := hg.2.2.1
  have hS := h.2.2.2
  refine lpm (σ := Nat × hI × hJ) (R := Option (Int32 × List mE)) (fun f y => m72_131 F f b (nI y.1) (mkH (hs l s d tl) y.2.1 y.2.2)) (fun y => 301 - y.1) (fun y => ∃ W, shQ n A w W y.1 0 ∧ siP n A b I J W y.2.1 y.2.2 ∧ y.1 ≤ W.length) (fun r => ∃ (v : Int32) (I' : hI) (J' : hJ), r = some (v, (mkH (hs l s d tl) I' J')) ∧ wkR n A w b I J v I' J') ?_
  rintro f ⟨x, I1, J1⟩ ⟨W, q1, q2, q3⟩
  have q1 : shQ n A w W x 0 := q1
  have q2 : siP n A b I J W I1 J1 := q2
  have q3 : x ≤ W.length := q3
  have n2 : I1 (b + 3) 2 = nI W.length := by rw [q2.1.2.1.2.1, List.length_map]
  have l300 := q2.2.2.1
  by_cases hx : x = W.length
  · left
    subst hx
    refine ⟨nI 1, I1, J1, ?_, W, q2, ⟨(List.getElem?_eq_some_iff.mp q1.1).1, fun i z hz => (q1.2.2.1 i z hz).1, fun i z hz => by have := (rch_L wL (q1.2.2.1 i z hz).2).2; omega⟩, Or.inl ⟨rfl, shQ_z q1⟩⟩
    show m72_131 F (f + 1) b (nI W.length) (mkH (hs l s d tl) I1 J1) = _
    rw [m72_131, si2 h, Option.bind_some, s2 hS, Option.bind_some, n2, if_pos (show mc2 .ge (nI W.length) (nI W.length) = true by rw [c_ge (by omega) (by omega)]; omega)]
    rfl
  · have e0 : m72_131 F (f + 1) b (nI x) (mkH (hs l s d tl) I1 J1) = m72_151 F (m72_131 F f) F b (nI x) (nI 0) (mkH (hs l s d tl) I1 J1) := by
      rw [m72_131, si2 h, Option.bind_some, s2 hS, Option.bind_some, n2, if_neg (show ¬ mc2 .ge (nI x) (nI W.length) = true by rw [c_ge (by omega) (by omega)]; omega), if_neg (show ¬ mc2 .ge (nI x) 300 = true by rw [n_300, c_ge (by omega) (by omega)]; omega)]
      rfl
    rcases wk_in (F := F) (I := I) (J := J) (rc := m72_131 F f) (x := x) h hg hF hw20 wL F 0 (I1, J1) (by omega) (by omega) ⟨W, q1, q2, gd_ex (show x < W.length by omega)⟩ with ⟨I2, J2, e1, r⟩ | ⟨I2, J2, W2, e1, r1, r2, r3⟩
    · left
      exact ⟨nI 0, I2, J2, e0.trans e1, r⟩
    · right
      exact ⟨(x + 1, I2, J2), e0.trans e1, ⟨W2, r1, r2, r3⟩, by show 301 - (x + 1) < 301 - x; omega⟩
/-- the images of the first -/
theorem wk_im (h : siS (hs l s d tl) b) (hb54 : 54 ≤ b) (hg : cl_n n A I) {els : List (List Nat)} (hk : kp n A els I J) (hF : 9000 ≤ F) {w : Nat} {y : List Nat} (hy : els[w]? = some y) : ∃ J' : hJ, m72_52 F F b (nI w) (nI 0) (mkH (hs l s d tl) I J) = m72_131 F F b (nI 0) (mkH (hs l s d tl) I J') ∧ imq n A y (J' (b + 1)) 0 ∧ ∀ c, c ≠ b + 1 → J' c = J c := by
  have hn5 := hg.2.2.1
  obtain ⟨yc, yL, yl, y20, b40, yb⟩ := kp_c hk hy
  refine lpc (σ := hJ) (R := Option (Int32 × List mE)) (fun f i K => m72_52 F f b (nI w) (nI i) (mkH (hs l s d tl) I K)) n (fun i K => (∀ i', i' < i → rt n A y i' (K (b + 1)) (i' * 5)) ∧ ∀ c, c ≠ b + 1 → K c = J c) (fun r => ∃ J' : hJ, r = m72_131 F F b (nI 0) (mkH (hs l s d tl) I J') ∧ imq n A y (J' (b + 1)) 0 ∧ ∀ c, c ≠ b + 1 → J' c = J c) ?_ ?_ F 0 J (by omega) (by omega) ⟨fun i' hi' => by omega, fun _ _ => rfl⟩
  · rintro f K ⟨k1, k2⟩
    refine ⟨K, ?_, fun i hi => by rw [Nat.zero_add]; exact k1 i hi, k2⟩
    show m72_52 F (f + 1) b (nI w) (nI n) (mkH (hs l s d tl) I K) = _
    rw [m72_52, si0 h, Option.bind_some, gi1_0, Option.bind_some, hg.2.2.2.1, if_pos (show mc2 .ge (nI n) (nI n) = true by rw [c_ge (by omega) (by omega)]; omega)]
    rfl
  · rintro f i K hi ⟨k1, k2⟩
    right
    have e1 := sr_e (l := l) (s := s) (d := d) (tl := tl) (F := F) (I := I) (J := K) (p := i * 5) hg.2.2.2.1 hn5 (by omega) h.2.1 (by omega) (by omega) hi
    have r0 : rt n A [] i (rwJ K (b + 1) (i * 5) n (fun j => zJ (cx_e i j)) (b + 1)) (i * 5) := rt_nil
    have o0 : ∀ q, q < i * 5 → rwJ K (b + 1) (i * 5) n (fun j => zJ (cx_e i j)) (b + 1) q = K (b + 1) q := fun q hq => rwJ_out (Or.inl hq)
    have o1 : ∀ c, c ≠ b + 1 → rwJ K (b + 1) (i * 5) n (fun j => zJ (cx_e i j)) c = K c := fun c hc => rwJ_ne hc
    generalize rwJ K (b + 1) (i * 5) n (fun j => zJ (cx_e i j)) = K1 at *
    have inn : ∀ (f2 c : Nat) (M : hJ), c < f2 → (c ≤ y.length ∧ rt n A (y.drop c) i (M (b + 1)) (i * 5) ∧ (∀ q, q < i * 5 → M (b + 1) q = K (b + 1) q) ∧ ∀ e, e ≠ b + 1 → M e = J e) → ∃ M' : hJ, m72_90 F (m72_52 F f) f2 b (nI w) (nI i) (nI c - nI 1) (mkH (hs l s d tl) I M) = m72_52 F f b (nI w) (nI (i + 1)) (mkH (hs l s d tl) I M') ∧ rt n A y i (M' (b + 1)) (i * 5) ∧ (∀ q, q < i * 5 → M' (b + 1) q = K (b + 1) q) ∧ ∀ e, e ≠ b + 1 → M' e = J e := by
      refine lpd (σ := hJ) (R := Option (Int32 × List mE)) (fun f2 c M => m72_90 F (m72_52 F f) f2 b (nI w) (nI i) (nI c - nI 1) (mkH (hs l s d tl) I M)) (fun c M => c ≤ y.length ∧ rt n A (y.drop c) i (M (b + 1)) (i * 5) ∧ (∀ q, q < i * 5 → M (b + 1) q = K (b + 1) q) ∧ ∀ e, e ≠ b + 1 → M e = J e) (fun r => ∃ M' : hJ, r = m72_52 F f b (nI w) (nI (i + 1)) (mkH (hs l s d tl) I M') ∧ rt n A y i (M' (b + 1)) (i * 5) ∧ (∀ q, q < i * 5 → M' (b + 1) q = K (b + 1) q) ∧ ∀ e, e ≠ b + 1 → M' e = J e) ?_ ?_
      · rintro f2 M ⟨m0, m1, m2, m3⟩
        refine ⟨M, ?_, m1, m2, m3⟩
        show m72_90 F (m72_52 F f) (f2 + 1) b (nI w) (nI i) (nI 0 - nI 1) (mkH (hs l s d tl) I M) = _
        rw [m72_90, if_pos (show mc1 .lt (nI 0 - nI 1) = true by decide), n_1, nI_add]
      · rintro f2 c M ⟨m0, m1, m2, m3⟩
        right
        obtain ⟨t, ht⟩ := ex_at (show c < y.length by omega)
        have htn := cx_L_at yL ht
        have hkM : kp n A els I M := kp_fr (n := n) (A := A) hk (I' := I) (J' := M) rfl rfl rfl (m3 11 (by omega)) (m3 12 (by omega))
        have e2 := lo_e (l := l) (s := s) (d := d) (tl := tl) (F := F) hkM hy ht
        have e3 := tr_e (l := l) (s := s) (d := d) (tl := tl) (F := F) (I := I) (J := M) (p := i * 5) hg (by omega) h.2.1 (by omega) (by omega) htn
        refine ⟨upJ M (b + 1) (i * 5 + t) (M (b + 1) (i * 5 + t) - sJ n (fun j => zJ (A t j) * M (b + 1) (i * 5 + j))), ?_, by omega, ?_, fun q hq => ?_, fun e he => (upJ_ne he).trans (m3 e he)⟩
        · show m72_90 F (m72_52 F f) (f2 + 1) b (nI w) (nI i) (nI (c + 1) - nI 1) (mkH (hs l s d tl) I M) = _
          rw [m72_90, pk_sub1, if_neg (show ¬ mc1 .lt (nI c) = true by rw [d_lt (by omega)]; exact id), si0 h, Option.bind_some, si3 h, Option.bind_some, si1 h, Option.bind_some, rc8, Option.bind_some, e2, Option.bind_some, rc1, Option.bind_some, n_5, pk_mul, e3, Option.bind_some]
          have : nI c + (-1) = nI c - nI 1 := by rw [Int32.sub_eq_add_neg]; rfl
          rw [this]
        · rw [drop_c ht]
          exact rt_turn m1 htn
        · rw [upJ_at, if_neg (by omega)]
          exact m2 q hq
    obtain ⟨M, e4, m1, m2, m3⟩ := inn F y.length K1 (by omega) ⟨Nat.le_refl _, by rw [List.drop_length]; exact r0, o0, fun e he => (o1 e he).trans (k2 e he)⟩
    refine ⟨M, ?_, fun i' hi' => ?_, m3⟩
    · show m72_52 F (f + 1) b (nI w) (nI i) (mkH (hs l s d tl) I K) = _
      rw [m72_52, si0 h, Option.bind_some, gi1_0, Option.bind_some, hg.2.2.2.1, if_neg (show ¬ mc2 .ge (nI i) (nI n) = true by rw [c_ge (by omega) (by omega)]; omega), Option.bind_some, si3 h, Option.bind_some, rc1, Option.bind_some, n_5, pk_mul, e1, Option.bind_some, si1 h, Option.bind_some, gr8_3, Option.bind_some, rdI_H q10 (by omega) (by omega), Option.bind_some, yb, n_1]
      exact e4
    · by_cases hii : i' = i
      · subst hii
        exact m1
      · intro k hk'
        rw [m2 _ (by omega)]
        exact k1 i' (by omega) k hk'
/-- walk -/
theorem wk_e (h : siS (hs l s d tl) b) (hb54 : 54 ≤ b) (hg : cl_n n A I) {els : List (List Nat)} (hk : kp n A els I J) (hb : sfb (b + 3) 512 I) (hF : 9000 ≤ F) {w : Nat} {y : List Nat} (hy : els[w]? = some y) : ∃ (v : Int32) (I' : hI) (J' : hJ), e72 F b (nI w) (mkH (hs l s d tl) I J) = some (v, (mkH (hs l s d tl) I' J')) ∧ wkR n A y b I J v I' J' := by
  have hS := h.2.2.2
  have hok := hg.1
  have hn5 := hg.2.2.1
  have hk40 := hk.2.1
  have hkl := (List.getElem?_eq_some_iff.mp hy).1
  obtain ⟨y1, y2, y3, y4, y5, y6⟩ := hk.2.2.2.2 w y hy
  have yL := cx_c_L y1
  have yl : cx_l n A y = y.length := cx_c_l y1
  have yrl : cx_l n A y.reverse = cx_l n A y := cx_l_rev hok yL
  obtain ⟨e1, s1, f1⟩ := cle_e (F := F) (n := n) (A := A) (J := J) hS hb
  generalize hI1 : upI I (b + 3) 2 (nI 0) = I1 at *
  have i1 : ∀ c, c ≠ b + 3 → I1 c = I c := fun c hc => by rw [← hI1]; exact upI_ne hc
  have g1 : cl_n n A I1 := cl_fr hg (i1 1 (by omega)) (i1 3 (by omega))
  have w1 : wt n A y.reverse (rwJ J (b + 2) 0 n (fun j => J 11 (w * 5 + j)) (b + 2)) 0 := wt_cp y5
  have e2 : e42 F 1 11 (nI w * 5) (b + 2) 0 (mkH (hs l s d tl) I1 J) = some ((), (mkH (hs l s d tl) I1 (rwJ J (b + 2) 0 n (fun j => J 11 (w * 5 + j))))) := by
    rw [n_5, pk_mul]
    show e42 F 1 11 (nI (w * 5)) (b + 2) (nI 0) _ = _
    exact cr_e g1.2.2.2.1 hn5 (by omega) q11 h.2.2.1 (by omega) (by omega) (by omega) (by omega) (Or.inl (by omega))
  generalize hJ1 : rwJ J (b + 2) 0 n (fun j => J 11 (w * 5 + j)) = J1 at *
  have j1 : ∀ c, c ≠ b + 2 → J1 c = J c := fun c hc => by rw [← hJ1]; exact rwJ_ne hc
  have s2' : shf n A [] (b + 3) 512 I1 J1 := shf_J s1 (j1 _ (by omega))
  have hn62 := no_e (F := F) hS g1 s2' hF h.2.2.1 (by omega) (by omega) (by omega) (cx_L_rev yL) (by omega) w1
  rw [yrl] at hn62
  rcases hn62 with ⟨m, v, m1, _⟩ | ⟨_, ⟨m2, _⟩ | ⟨m2, I3, J3, e3, m4, m5⟩⟩
  · simp at m1
  · simp at m2
  · have g3 : cl_n n A I3 := cl_fr g1 (m5.1 1 (by omega) (by omega) (by omega) (by omega)) (m5.1 3 (by omega) (by omega) (by omega) (by omega))
    have i3 : ∀ c, c < 54 → I3 c = I c := fun c hc => by rw [m5.1 c (by omega) (by omega) (by omega) (by omega), i1 c (by omega)]
    have j3 : ∀ c, c < 54 → J3 c = J c := fun c hc => by rw [m5.2 c (by omega), j1 c (by omega)]
    have k3 : kp n A els I3 J3 := kp_fr hk (i3 8 (by omega)) (i3 9 (by omega)) (i3 10 (by omega)) (j3 11 (by omega)) (j3 12 (by omega))
    obtain ⟨J4, e4, m6, m7⟩ := wk_im (F := F) h hb54 g3 k3 hF hy
    obtain ⟨v, I5, J5, e5, r⟩ := wk_out (F := F) (I := I) (J := J) h hg hF (show cx_l n A y ≤ 20 by omega) yL F (0, I3, J4) ⟨[y], shQ_1 yL, ⟨shf_J m4 (m7 _ (by omega)), fun i u hu => by
        cases i with
        | zero =>
          cases hu
          exact m6
        | succ i => simp at hu, by simp, ⟨fun c a1 a2 a3 a4 => by
          show I3 c = I c
          rw [m5.1 c a1 a2 a3 a4, i1 c a1], fun c a1 a2 a3 => by
          show J4 c = J c
          rw [m7 c a1, m5.2 c a3, j1 c a2]⟩⟩, by simp⟩ (by show 301 - 0 < F; omega)
    refine ⟨v, I5, J5, ?_, r⟩
    have e6 : rdI (mkH (hs l s d tl) I1 J1) 10 (nI w) = some (nI (cx_l n A y)) := by
      rw [rdI_H q10 (by omega) (by omega), i1 10 (by omega), y3, yl]
    show m72_0 F b (nI w) _ = _
    unfold m72_0
    rw [si2 h, Option.bind_some, sr hS, Option.bind_some, e1, Option.bind_some, si0 h, Option.bind_some, si1 h, Option.bind_some, gr8_4, Option.bind_some, si4 h, Option.bind_some, rc1, Option.bind_some, e2, Option.bind_some, si2 h, Option.bind_some, si4 h, Option.bind_some, si1 h, Option.bind_some, gr8_3, Option.bind_some, e6, Option.bind_some, sr hS, Option.bind_some, e3, Option.bind_some]
    exact e4.trans e5
end S
