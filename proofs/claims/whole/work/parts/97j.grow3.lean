/-! The class: countElements, all of it. -/
/-- what was counted up to K, or too many found -/
def gdn (n : Nat) (A : Nat → Nat → Int) (K b : Nat) (I : hI) : Prop := (∃ K', K ≤ K' ∧ K' ≤ 31 ∧ I b 8 = nI K' ∧ glS n A K' ≤ 2000 ∧ I b 6 = nI 32 ∧ I b 7 = nI (glS n A K') ∧ ∀ k, k ≤ K' → I (b + 3) k = nI (glN n A k)) ∨ (∃ R, gov n A 31 R ∧ I b 8 = nI 32 ∧ I b 6 = nI R ∧ ∀ k, k < R → I (b + 3) k = nI (glN n A k))
/-- what Layers knows -/
def gch (n : Nat) (A : Nat → Nat → Int) (b : Nat) (I : hI) : Prop := I b 8 = -1 ∨ gdn n A 0 b I
/-- the cells that Layers may change when it counts elements -/
def lyh (b : Nat) (I I' : hI) (J J' : hJ) : Prop := (∀ c, c ≠ b → c ≠ b + 3 → c ≠ b + 4 → c ≠ b + 6 → I' c = I c) ∧ ∀ c, c ≠ b + 1 → c ≠ b + 5 → J' c = J c
theorem gt_m1 {K : Nat} (h : K < 2 ^ 31) : mc2 .gt (nI K) (-1) = true := by
  have e : (-1 : Int32).toInt = -1 := rfl
  show decide (-1 < nI K) = true
  rw [decide_eq_true_eq, Int32.lt_iff_toInt_lt, nI_toInt h, e]
  omega
section S
variable {l s d : Value} {tl : List hQ} {F : Nat} {I : hI} {J : hJ} {n b : Nat} {A : Nat → Nat → Int}
theorem p6 (h : lyS (hs l s d tl) b) {x : Int32} : pfv 2 6 (mkH (hs l s d tl) I J) b (.int x) = some (mkH (hs l s d tl) (upI I b 6 x) J) := pfi_H h.1 rfl
theorem p7 (h : lyS (hs l s d tl) b) {x : Int32} : pfv 2 7 (mkH (hs l s d tl) I J) b (.int x) = some (mkH (hs l s d tl) (upI I b 7 x) J) := pfi_H h.1 rfl
theorem p8 (h : lyS (hs l s d tl) b) {x : Int32} : pfv 2 8 (mkH (hs l s d tl) I J) b (.int x) = some (mkH (hs l s d tl) (upI I b 8 x) J) := pfi_H h.1 rfl
theorem f6 (h : lyS (hs l s d tl) b) : gfi 2 6 (mkH (hs l s d tl) I J) b = some (I b 6) := gfi_H h.1 rfl
theorem f7 (h : lyS (hs l s d tl) b) : gfi 2 7 (mkH (hs l s d tl) I J) b = some (I b 7) := gfi_H h.1 rfl
theorem f8 (h : lyS (hs l s d tl) b) : gfi 2 8 (mkH (hs l s d tl) I J) b = some (I b 8) := gfi_H h.1 rfl
/-- the list when the loop ends -/
def gen (n : Nat) (A : Nat → Nat → Int) (K : Nat) (W : List (List Nat)) : Prop := (W.length ≤ 2000 → lvp n A (fun m => m ≤ K) W) ∧ (2000 < W.length → ∃ R, gov n A K R ∧ (∀ u, W[W.length - 1]? = some u → cx_l n A u = R) ∧ ∀ k, k < R → cnt n A k W = glN n A k)
/-- the end: what was found is written down -/
theorem ce_end (h : lyS (hs l s d tl) b) (hg : cl_n n A I) {K : Nat} (hK : K ≤ 31) {W : List (List Nat)} {I1 : hI} {J1 : hJ} (p : gcP n A b I J W I1 J1) (hW : W.length ≤ 2005) (h0 : 0 < W.length) (hL : ∀ (i : Nat) (u : List Nat), W[i]? = some u → cx_L n u) (e : gen n A K W) : ∃ (I' : hI) (J' : hJ), m27_122 F b (nI K) (mkH (hs l s d tl) I1 J1) = some ((), (mkH (hs l s d tl) I' J')) ∧ gdn n A K b I' ∧ sfb (b + 4) 4096 I' ∧ lyh b I I' J J' := by
  have hS := h.2.2.2.2
  obtain ⟨q1, q2, q3, q4⟩ := p
  have n2 := q2.2.1
  have a32 : ∀ (I' : hI) (J' : hJ), alnR (mkH (hs l s d tl) I' J') (b + 3) = some (nI 32) := fun I' J' => aln_H h.2.2.2.1
  have fr : ∀ x y z : Int32, lyh b I (upI (upI (upI I1 b 7 x) b 6 y) b 8 z) J J1 := fun x y z => ⟨fun c a0 a1 a2 a3 => by rw [upI_ne a0, upI_ne a0, upI_ne a0]; exact q4.1 c a1 a2 a3, q4.2⟩
  have sb : ∀ x y z : Int32, sfb (b + 4) 4096 (upI (upI (upI I1 b 7 x) b 6 y) b 8 z) := fun x y z => sfb_I q1 (by rw [upI_ne (by omega), upI_ne (by omega), upI_ne (by omega)]) (by rw [upI_ne (by omega), upI_ne (by omega), upI_ne (by omega)]) (by rw [upI_ne (by omega), upI_ne (by omega), upI_ne (by omega)])
  have v7 : ∀ x y z : Int32, upI (upI (upI I1 b 7 x) b 6 y) b 8 z b 7 = x := fun x y z => by rw [upI_at, if_neg (by decide), upI_at, if_neg (by decide), upI_at, if_pos rfl]
  have v6 : ∀ x y z : Int32, upI (upI (upI I1 b 7 x) b 6 y) b 8 z b 6 = y := fun x y z => by rw [upI_at, if_neg (by decide), upI_at, if_pos rfl]
  have v8 : ∀ x y z : Int32, upI (upI (upI I1 b 7 x) b 6 y) b 8 z b 8 = z := fun x y z => by rw [upI_at, if_pos rfl]
  have v3 : ∀ x y z : Int32, upI (upI (upI I1 b 7 x) b 6 y) b 8 z (b + 3) = I1 (b + 3) := fun x y z => by rw [upI_ne (by omega), upI_ne (by omega), upI_ne (by omega)]
  have w7 : ∀ x : Int32, upI I1 b 7 x b 7 = x := fun x => by rw [upI_at, if_pos rfl]
  by_cases hle : W.length ≤ 2000
  · have hv := e.1 hle
    refine ⟨upI (upI (upI I1 b 7 (nI W.length)) b 6 (nI 32)) b 8 (nI K), J1, ?_, Or.inl ⟨K, Nat.le_refl _, hK, v8 _ _ _, by rw [← show W.length = glS n A K from lvn_e hv]; exact hle, v6 _ _ _, by rw [v7, show W.length = glS n A K from lvn_e hv], fun k hk => ?_⟩, sb _ _ _, fr _ _ _⟩
    · unfold m27_122
      rw [ly2 h, Option.bind_some, s2 hS, Option.bind_some, n2, p7 h, Option.bind_some, f7 h, Option.bind_some, w7, if_pos (show mc2 .le (nI W.length) 2000 = true by rw [n_2000, c_le (by omega) (by omega)]; exact hle)]
      unfold m27_148
      rw [if_pos (show mc1 .eq 0 = true by decide), ly5 h, Option.bind_some, a32, Option.bind_some]
      unfold m27_176
      rw [p6 h, Option.bind_some, if_pos (show mc1 .eq 0 = true by decide)]
      unfold m27_193
      rw [p8 h, Option.bind_some]
    · rw [v3, q3 k (by omega), cnt_N hv.1 hL (fun z hz hl => hv.2.2 z hz (by show cx_l n A z ≤ K; omega))]
  · obtain ⟨R, r1, r2, r3⟩ := e.2 (by omega)
    obtain ⟨u, hu⟩ : ∃ u, W[W.length - 1]? = some u := ⟨_, gd_ex (by omega)⟩
    have ru := r2 u hu
    have lu := (q2.2.2 _ u hu).2.2.2
    rw [ru] at lu
    obtain ⟨r4, r5, r6, r7⟩ := r1
    refine ⟨upI (upI (upI I1 b 7 (nI W.length)) b 6 (nI R)) b 8 (nI 32), J1, ?_, Or.inr ⟨R, ⟨by omega, r5, r6, r7⟩, v8 _ _ _, v6 _ _ _, fun k hk => ?_⟩, sb _ _ _, fr _ _ _⟩
    · have e1 : nI W.length - 1 = nI (W.length - 1) := by
        obtain ⟨z, hz⟩ : ∃ z, W.length = z + 1 := ⟨W.length - 1, by omega⟩
        rw [hz]
        exact pk_sub1 z
      have e2 : upI I1 b 7 (nI W.length) (b + 4 + 2) (W.length - 1) = nI R := by rw [upI_ne (by omega)]; exact lu
      unfold m27_122
      rw [ly2 h, Option.bind_some, s2 hS, Option.bind_some, n2, p7 h, Option.bind_some, f7 h, Option.bind_some, w7, if_neg (show ¬ mc2 .le (nI W.length) 2000 = true by rw [n_2000, c_le (by omega) (by omega)]; exact hle)]
      unfold m27_148
      rw [if_neg (show ¬ mc1 .eq 1 = true by decide), ly2 h, Option.bind_some, s4 hS, Option.bind_some, f7 h, Option.bind_some, w7, e1, rdI_H hS.2.2.1 (by omega) (by omega), Option.bind_some, e2]
      unfold m27_176
      rw [p6 h, Option.bind_some, if_neg (show ¬ mc1 .eq 1 = true by decide), ly5 h, Option.bind_some, a32, Option.bind_some]
      unfold m27_193
      rw [p8 h, Option.bind_some]
    · rw [v3, q3 k (by omega), r3 k hk]
/-- one element was gone through, and there are too many -/
theorem gen_o (hok : cx_ok n A) {K i : Nat} {W0 W : List (List Nat)} {v : List Nat} (hW0 : W0.length ≤ 2000) (h0 : gqI n A K W0 i 0) (hv0 : W0[i]? = some v) (h : gqI n A K W i n) (hv : W[i]? = some v) (hvl : cx_l n A v < K) (ho : 2000 < W.length) : ∃ R, gov n A K R ∧ (∀ u, W[W.length - 1]? = some u → cx_l n A u = R) ∧ ∀ k, k < R → cnt n A k W = glN n A k := by
  have s1 : glS n A (cx_l n A v) ≤ 2000 := by
    obtain ⟨L, hL, eL⟩ := glS_ex n A (cx_l n A v)
    rw [← eL]
    refine Nat.le_trans (pgl hL.1 (S := W0) (fun a u hu => ?_)) hW0
    obtain ⟨m, w, hm, hg⟩ := gqI_x hok h0 hv0 u (hL.2.1 a u hu).1 (hL.2.1 a u hu).2
    exact ⟨w, List.mem_of_getElem? hm, hg⟩
  have last : ∀ u, W[W.length - 1]? = some u → cx_l n A u = cx_l n A v + 1 := by
    intro u hu
    have a1 := h.2.2.2.2.1 _ u v hu hv
    apply Classical.byContradiction
    intro hne
    obtain ⟨L, hL, eL⟩ := glS_ex n A (cx_l n A v)
    have := lvp_le (n := n) (A := A) (p := fun m => m ≤ cx_l n A v) h.2.1 (fun a w hw => ⟨(h.2.2.1 a w hw).1, by
      have a2 := (List.getElem?_eq_some_iff.mp hw).1
      have a3 := h.2.2.2.1 a (W.length - 1) w u hw hu (by omega)
      show cx_l n A w ≤ cx_l n A v
      omega⟩) hL
    omega
  refine ⟨cx_l n A v + 1, ⟨by omega, ?_, by omega, s1⟩, last, fun k hk => cnt_N h.2.1 (fun a w hw => (h.2.2.1 a w hw).1) (fun z hz hl => gqI_x hok h hv z hz (by omega))⟩
  obtain ⟨L, hL, eL⟩ := glS_ex n A (cx_l n A v + 1)
  have := lvp_le (n := n) (A := A) (p := fun m => m ≤ cx_l n A v + 1) h.2.1 (fun a w hw => ⟨(h.2.2.1 a w hw).1, h.2.2.2.2.1 a w v hw hv⟩) hL
  omega
theorem ce_out (h : lyS (hs l s d tl) b) (hg : cl_n n A I) (hF : 9000 ≤ F) {K : Nat} (hK : K ≤ 31) : ∀ (f : Nat) (x : Nat × hI × hJ), (∃ W, gqI n A K W x.1 0 ∧ gcP n A b I J W x.2.1 x.2.2 ∧ x.1 ≤ W.length ∧ W.length ≤ 2005 ∧ (2000 < W.length → ∃ R, gov n A K R ∧ (∀ u, W[W.length - 1]? = some u → cx_l n A u = R) ∧ ∀ k, k < R → cnt n A k W = glN n A k)) → 2006 - x.1 < f → ∃ (I' : hI) (J' : hJ), m27_74 F f b (nI K) (nI x.1) (mkH (hs l s d tl) x.2.1 x.2.2) = some ((), (mkH (hs l s d tl) I' J')) ∧ gdn n A K b I' ∧ sfb (b + 4) 4096 I' ∧ lyh b I I' J J' := by
  have hS := h.2.2.2.2
  have hok := hg.1
  have hn5 := hg.2.2.1
  refine lpm (σ := Nat × hI × hJ) (R := Option (Unit × List mE)) (fun f x => m27_74 F f b (nI K) (nI x.1) (mkH (hs l s d tl) x.2.1 x.2.2)) (fun x => 2006 - x.1) (fun x => ∃ W, gqI n A K W x.1 0 ∧ gcP n A b I J W x.2.1 x.2.2 ∧ x.1 ≤ W.length ∧ W.length ≤ 2005 ∧ (2000 < W.length → ∃ R, gov n A K R ∧ (∀ u, W[W.length - 1]? = some u → cx_l n A u = R) ∧ ∀ k, k < R → cnt n A k W = glN n A k)) (fun r => ∃ (I' : hI) (J' : hJ), r = some ((), (mkH (hs l s d tl) I' J')) ∧ gdn n A K b I' ∧ sfb (b + 4) 4096 I' ∧ lyh b I I' J J') ?_
  rintro f ⟨i, I1, J1⟩ ⟨W, w1, w2, w3, w4, w5⟩
  have w1 : gqI n A K W i 0 := w1
  have w2 : gcP n A b I J W I1 J1 := w2
  have w3 : i ≤ W.length := w3
  have h0 : 0 < W.length := (List.getElem?_eq_some_iff.mp w1.1).1
  have n2 : I1 (b + 4) 2 = nI W.length := w2.2.1.2.1
  have hL : ∀ (a : Nat) (u : List Nat), W[a]? = some u → cx_L n u := fun a u hu => (w1.2.2.1 a u hu).1
  by_cases hi : i = W.length
  · left
    subst hi
    obtain ⟨I', J', e1, r⟩ := ce_end (F := F) h hg hK w2 w4 h0 hL ⟨fun _ => gqI_z hok w1, w5⟩
    refine ⟨I', J', ?_, r⟩
    show m27_74 F (f + 1) b (nI K) (nI W.length) (mkH (hs l s d tl) I1 J1) = _
    rw [m27_74, ly2 h, Option.bind_some, s2 hS, Option.bind_some, n2, if_pos (show mc2 .ge (nI W.length) (nI W.length) = true by rw [c_ge (by omega) (by omega)]; omega), e1]
  · by_cases ho : 2000 < W.length
    · left
      obtain ⟨I', J', e1, r⟩ := ce_end (F := F) h hg hK w2 w4 h0 hL ⟨fun hh => absurd ho (by omega), w5⟩
      refine ⟨I', J', ?_, r⟩
      show m27_74 F (f + 1) b (nI K) (nI i) (mkH (hs l s d tl) I1 J1) = _
      rw [m27_74, ly2 h, Option.bind_some, s2 hS, Option.bind_some, n2, if_neg (show ¬ mc2 .ge (nI i) (nI W.length) = true by rw [c_ge (by omega) (by omega)]; omega), Option.bind_some, s2 hS, Option.bind_some, n2, if_pos (show mc2 .gt (nI W.length) 2000 = true by rw [n_2000, c_gt (by omega) (by omega)]; exact ho), e1]
    · right
      have hv := gd_ex (show i < W.length by omega)
      generalize W.getD i [] = v at hv
      have lv := (w2.2.1.2.2 i v hv).2.2.2
      have e116 : ∀ hp, m27_116 F (m27_74 F f) b (nI K) (nI i) hp = m27_74 F f b (nI K) (nI (i + 1)) hp := by
        intro hp
        unfold m27_116
        rw [n_1, nI_add]
      have hvK := (w1.2.2.1 i v hv).2
      have e0 : m27_74 F (f + 1) b (nI K) (nI i) (mkH (hs l s d tl) I1 J1) = if mc2 .ge (nI (cx_l n A v)) (nI K) = true then m27_116 F (m27_74 F f) b (nI K) (nI i) (mkH (hs l s d tl) I1 J1) else (e28 F b (nI i) (mkH (hs l s d tl) I1 J1)).bind fun q11 => m27_116 F (m27_74 F f) b (nI K) (nI i) q11.2 := by
        rw [m27_74, ly2 h, Option.bind_some, s2 hS, Option.bind_some, n2, if_neg (show ¬ mc2 .ge (nI i) (nI W.length) = true by rw [c_ge (by omega) (by omega)]; omega), Option.bind_some, s2 hS, Option.bind_some, n2, if_neg (show ¬ mc2 .gt (nI W.length) 2000 = true by rw [n_2000, c_gt (by omega) (by omega)]; exact ho), Option.bind_some, s4 hS, Option.bind_some, rdI_H hS.2.2.1 (by omega) (by omega), Option.bind_some, lv, lyr h, Option.bind_some]
      by_cases hvk : K ≤ cx_l n A v
      · refine ⟨(i + 1, I1, J1), ?_, ⟨W, gqI_k w1 hv hvk, w2, by show i + 1 ≤ _; omega, w4, w5⟩, by show 2006 - (i + 1) < 2006 - i; omega⟩
        show m27_74 F (f + 1) b (nI K) (nI i) (mkH (hs l s d tl) I1 J1) = _
        rw [e0, if_pos (by rw [c_ge (by omega) (by omega)]; exact hvk), e116]
      · obtain ⟨I2, J2, W2, e2, x1, x2, x3, x4⟩ := pg_in (F := F) (I := I) (J := J) h hg hF hK (i := i) (v := v) (by omega) F 0 (I1, J1) (by omega) (by omega) ⟨W, w1, w2, hv, by omega⟩
        have hx3 := (List.getElem?_eq_some_iff.mp x3).1
        refine ⟨(i + 1, I2, J2), ?_, ⟨W2, gqI_i x1 hx3, x2, hx3, by omega, fun ho2 => gen_o hok (by omega) w1 hv x1 x3 (by omega) ho2⟩, by show 2006 - (i + 1) < 2006 - i; omega⟩
        have e3 : e28 F b (nI i) (mkH (hs l s d tl) I1 J1) = some ((), (mkH (hs l s d tl) I2 J2)) := by
          show m28_0 F b (nI i) _ = _
          unfold m28_0
          rw [ly2 h, Option.bind_some, s4 hS, Option.bind_some, rdI_H hS.2.2.1 (by omega) (by omega), Option.bind_some, lv, n_1, nI_add]
          exact e2
        show m27_74 F (f + 1) b (nI K) (nI i) (mkH (hs l s d tl) I1 J1) = _
        rw [e0, if_neg (by rw [c_ge (by omega) (by omega)]; exact hvk), e3, Option.bind_some, e116]
/-- countElements -/
theorem ce_e (h : lyS (hs l s d tl) b) (hg : cl_n n A I) (hb : sfb (b + 4) 4096 I) (hF : 9000 ≤ F) {K : Nat} (hK : K ≤ 31) (hc : gch n A b I) : ∃ (I' : hI) (J' : hJ), e27 F b (nI K) (mkH (hs l s d tl) I J) = some ((), (mkH (hs l s d tl) I' J')) ∧ gdn n A K b I' ∧ sfb (b + 4) 4096 I' ∧ lyh b I I' J J' := by
  have hS := h.2.2.2.2
  have b54 := hS.2.2.2.2.2.1
  have hok := hg.1
  have hn5 := hg.2.2.1
  have e0 : e27 F b (nI K) (mkH (hs l s d tl) I J) = if mc2 .gt (nI K) (I b 8) = true then m27_11 F F b (nI K) (nI 0) (mkH (hs l s d tl) I J) else some ((), (mkH (hs l s d tl) I J)) := by
    show m27_0 F b _ _ = _
    unfold m27_0
    rw [f8 h, Option.bind_some]
    rfl
  have go : ∃ (I' : hI) (J' : hJ), m27_11 F F b (nI K) (nI 0) (mkH (hs l s d tl) I J) = some ((), (mkH (hs l s d tl) I' J')) ∧ gdn n A K b I' ∧ sfb (b + 4) 4096 I' ∧ lyh b I I' J J' := by
    refine lpc (σ := hI) (R := Option (Unit × List mE)) (fun f k x => m27_11 F f b (nI K) (nI k) (mkH (hs l s d tl) x J)) 32 (fun k x => (∀ c, c ≠ b + 3 → x c = I c) ∧ ∀ j, j < k → x (b + 3) j = nI 0) (fun r => ∃ (I' : hI) (J' : hJ), r = some ((), (mkH (hs l s d tl) I' J')) ∧ gdn n A K b I' ∧ sfb (b + 4) 4096 I' ∧ lyh b I I' J J') ?_ ?_ F 0 I (by omega) (by omega) ⟨fun _ _ => rfl, fun j hj => by omega⟩
    · rintro f I1 ⟨x1, x2⟩
      have g1 : cl_n n A I1 := cl_fr hg (x1 1 (by omega)) (x1 3 (by omega))
      have b1 : sfb (b + 4) 4096 I1 := sfb_I hb (x1 _ (by omega)) (x1 _ (by omega)) (x1 _ (by omega))
      obtain ⟨c1, c2, c3⟩ := cle_e (F := F) (n := n) (A := A) (J := J) hS b1
      generalize hI2 : upI I1 (b + 4) 2 (nI 0) = I2 at *
      have i2 : ∀ c, c ≠ b + 4 → I2 c = I1 c := fun c hc => by rw [← hI2]; exact upI_ne hc
      have g2 : cl_n n A I2 := cl_fr g1 (i2 1 (by omega)) (i2 3 (by omega))
      have e4 := sw_e (l := l) (s := s) (d := d) (tl := tl) (F := F) (I := I2) (J := J) (p := 0) g2.2.2.2.1 hn5 (by omega) h.2.1 (by omega) (by omega)
      have w0 : wt n A [] (rwJ J (b + 1) 0 n (fun _ => zJ 1) (b + 1)) 0 := wt_nil
      generalize hJ2 : rwJ J (b + 1) 0 n (fun _ => zJ 1) = J2 at *
      have j2 : ∀ c, c ≠ b + 1 → J2 c = J c := fun c hc => by rw [← hJ2]; exact rwJ_ne hc
      rcases pl_e (F := F) (ws := []) hS c2.1 g2 (sfc_J c2.2.1 (j2 _ (by omega))) (by omega) h.2.1 (by omega) (by omega) (by omega) (u := []) cx_L_nil (by rw [cx_l_nil]; omega) w0 with ⟨hf, _⟩ | ⟨_, I3, J3, e5, d1, d2, d3, d4, _, _⟩
      · simp at hf
      · rw [cx_l_nil] at e5
        have d2 : sfc n A [[]] (b + 4) 4096 I3 J3 := d2
        have z3 : ∀ k, k < 32 → upI I3 (b + 3) 0 (nI 1) (b + 3) k = nI (cnt n A k [[]]) := by
          intro k hk
          have ek : cnt n A k [[]] = 0 + if cx_l n A [] = k then 1 else 0 := cnt_ap (W := []) k []
          rw [ek, cx_l_nil, upI_at]
          by_cases h0 : k = 0
          · rw [if_pos h0, if_pos h0.symm]
          · rw [if_neg h0, if_neg (fun e => h0 e.symm), d3 _ (by omega) (by omega), i2 _ (by omega)]
            exact x2 k hk
        obtain ⟨I', J', e6, r⟩ := ce_out (F := F) (I := I) (J := J) h hg hF hK F (0, upI I3 (b + 3) 0 (nI 1), J3) ⟨[[]], gqI_1, ⟨sfb_I d1 (upI_ne (by omega)) (upI_ne (by omega)) (upI_ne (by omega)), sfc_I d2 (upI_ne (by omega)) (upI_ne (by omega)), z3, ⟨fun c a1 a2 a3 => by
          show upI I3 (b + 3) 0 (nI 1) c = _
          rw [upI_ne a1, d3 c a2 (by omega), i2 c a2, x1 c a1], fun c a1 a2 => by
          show J3 c = _
          rw [d4 c (by omega), j2 c a1]⟩⟩, by simp, by simp, fun hh => by simp at hh⟩ (by show 2006 - 0 < F; omega)
        refine ⟨I', J', ?_, r⟩
        have e7 : wrI (mkH (hs l s d tl) I3 J3) (b + 3) 0 1 = some (mkH (hs l s d tl) (upI I3 (b + 3) 0 (nI 1)) J3) := wrI_H (i := 0) h.2.2.2.1 (by omega) (by omega)
        show m27_11 F (f + 1) b (nI K) (nI 32) (mkH (hs l s d tl) I1 J) = _
        rw [m27_11, ly5 h, Option.bind_some, aln_H h.2.2.2.1, Option.bind_some, if_pos (show mc2 .ge (nI 32) (nI 32) = true by decide), ly2 h, Option.bind_some, sr hS, Option.bind_some, c1, Option.bind_some, ly0 h, Option.bind_some, ly3 h, Option.bind_some, rc1, Option.bind_some]
        show ((e40 F 1 (b + 1) (nI 0) (mkH (hs l s d tl) I2 J)).bind _) = _
        rw [e4, Option.bind_some, ly2 h, Option.bind_some, ly3 h, Option.bind_some, sr hS, Option.bind_some]
        show ((e64 F (b + 4) (b + 1) (nI 0) (mkH (hs l s d tl) I2 J2)).bind _) = _
        rw [e5, Option.bind_some, ly5 h, Option.bind_some]
        show ((wrI (mkH (hs l s d tl) I3 J3) (b + 3) 0 1).bind _) = _
        rw [e7, Option.bind_some]
        exact e6
    · rintro f k I1 hk ⟨x1, x2⟩
      right
      refine ⟨upI I1 (b + 3) k (nI 0), ?_, fun c hc => by rw [upI_ne hc]; exact x1 c hc, fun j hj => ?_⟩
      · show m27_11 F (f + 1) b (nI K) (nI k) (mkH (hs l s d tl) I1 J) = _
        rw [m27_11, ly5 h, Option.bind_some, aln_H h.2.2.2.1, Option.bind_some, if_neg (show ¬ mc2 .ge (nI k) (nI 32) = true by rw [c_ge (by omega) (by omega)]; omega), Option.bind_some]
        rw [show (0 : Int32) = nI 0 from rfl, wrI_H h.2.2.2.1 (by omega) hk, Option.bind_some, n_1, nI_add]
      · rw [upI_at]
        by_cases hjk : j = k
        · rw [if_pos hjk]
        · rw [if_neg hjk]
          exact x2 j (by omega)
  rw [e0]
  have stay : lyh b I I J J := ⟨fun _ _ _ _ _ => rfl, fun _ _ _ => rfl⟩
  rcases hc with hc | ⟨K', k1, k2, k3, k4⟩ | ⟨R, r1, r2, r3⟩
  · rw [hc, if_pos (gt_m1 (by omega))]
    exact go
  · rw [k3]
    by_cases hlt : K' < K
    · rw [if_pos (by rw [c_gt (by omega) (by omega)]; exact hlt)]
      exact go
    · rw [if_neg (by rw [c_gt (by omega) (by omega)]; exact hlt)]
      exact ⟨I, J, rfl, Or.inl ⟨K', by omega, k2, k3, k4⟩, hb, stay⟩
  · rw [r2, if_neg (by rw [c_gt (by omega) (by omega)]; omega)]
    exact ⟨I, J, rfl, Or.inr ⟨R, r1, r2, r3⟩, hb, stay⟩
end S
