/-! The class: Shifts, sum and tell. -/
/-- what Shifts knows of an element -/
def siV (n : Nat) (A : Nat → Nat → Int) (y : List Nat) (b : Nat) (I : hI) : Prop := (I b 6 = nI 0 ∧ shV n A y 0 (I b 7) ∧ shV n A y 1 (I b 8) ∧ shV n A y 2 (I b 9)) ∨ (I b 6 = nI 1 ∧ ∀ k, shV n A y k (-1005))
/-- what Shifts knows -/
def siC (n : Nat) (A : Nat → Nat → Int) (els : List (List Nat)) (b : Nat) (I : hI) : Prop := I b 5 = -1 ∨ ∃ (w : Nat) (y : List Nat), els[w]? = some y ∧ I b 5 = nI w ∧ siV n A y b I
/-- the cells of Shifts -/
def sih (b : Nat) (I I' : hI) (J J' : hJ) : Prop := (∀ c, c ≠ b → c ≠ b + 3 → c ≠ b + 5 → c ≠ b + 6 → c ≠ b + 7 → I' c = I c) ∧ ∀ c, c ≠ b + 1 → c ≠ b + 2 → c ≠ b + 4 → J' c = J c
section S
variable {l s d : Value} {tl : List hQ} {F : Nat} {I : hI} {J : hJ} {n b : Nat} {A : Nat → Nat → Int}
theorem sp (h : siS (hs l s d tl) b) {f : Nat} (hf : 5 ≤ f ∧ f ≤ 9) {x : Int32} : pfv 7 f (mkH (hs l s d tl) I J) b (.int x) = some (mkH (hs l s d tl) (upI I b f x) J) := by
  refine pfi_H h.1 ?_
  rcases (show f = 5 ∨ f = 6 ∨ f = 7 ∨ f = 8 ∨ f = 9 by omega) with rfl | rfl | rfl | rfl | rfl <;> rfl
theorem sg (h : siS (hs l s d tl) b) {f : Nat} (hf : 5 ≤ f ∧ f ≤ 9) : gfi 7 f (mkH (hs l s d tl) I J) b = some (I b f) := by
  refine gfi_H h.1 ?_
  rcases (show f = 5 ∨ f = 6 ∨ f = 7 ∨ f = 8 ∨ f = 9 by omega) with rfl | rfl | rfl | rfl | rfl <;> rfl
theorem lt_n {a b : Nat} (ha : a < 2 ^ 31) (hb : b < 2 ^ 31) : nI a < nI b ↔ a < b := by
  rw [Int32.lt_iff_toInt_lt, nI_toInt ha, nI_toInt hb]
  omega
/-- sum -/
theorem sm71 (h : siS (hs l s d tl) b) (hF : 9000 ≤ F) {W : List (List Nat)} (h0 : 0 < W.length) (h300 : W.length ≤ 300) (h20 : ∀ (i : Nat) (u : List Nat), W[i]? = some u → cx_l n A u ≤ 20) (hm : I (b + 3) 2 = nI W.length) (hl : ∀ (i : Nat) (u : List Nat), W[i]? = some u → I (b + 3 + 2) i = nI (cx_l n A u)) : ∃ (I' : hI) (m : Nat), e71 F b (mkH (hs l s d tl) I J) = some ((), (mkH (hs l s d tl) I' J)) ∧ lml n A W m ∧ I' b 7 = nI m ∧ I' b 8 = nI (cnt n A m W) ∧ I' b 9 = nI W.length ∧ I' b 6 = I b 6 ∧ I' b 5 = I b 5 ∧ ∀ c, c ≠ b → I' c = I c := by
  have hS := h.2.2.2
  -- the second loop
  have l2 : ∀ (m : Nat), m ≤ 20 → ∀ (f k : Nat) (K : hI), k ≤ W.length → W.length < k + f → (K b 7 = nI m ∧ K b 8 = nI (cnt n A m (W.take k)) ∧ K b 9 = nI W.length ∧ K b 6 = I b 6 ∧ K b 5 = I b 5 ∧ ∀ c, c ≠ b → K c = I c) → ∃ K' : hI, m71_60 F f b (nI k) (mkH (hs l s d tl) K J) = some ((), (mkH (hs l s d tl) K' J)) ∧ K' b 7 = nI m ∧ K' b 8 = nI (cnt n A m W) ∧ K' b 9 = nI W.length ∧ K' b 6 = I b 6 ∧ K' b 5 = I b 5 ∧ ∀ c, c ≠ b → K' c = I c := by
    intro m hm20
    refine lpc (σ := hI) (R := Option (Unit × List mE)) (fun f k K => m71_60 F f b (nI k) (mkH (hs l s d tl) K J)) W.length (fun k K => K b 7 = nI m ∧ K b 8 = nI (cnt n A m (W.take k)) ∧ K b 9 = nI W.length ∧ K b 6 = I b 6 ∧ K b 5 = I b 5 ∧ ∀ c, c ≠ b → K c = I c) (fun r => ∃ K' : hI, r = some ((), (mkH (hs l s d tl) K' J)) ∧ K' b 7 = nI m ∧ K' b 8 = nI (cnt n A m W) ∧ K' b 9 = nI W.length ∧ K' b 6 = I b 6 ∧ K' b 5 = I b 5 ∧ ∀ c, c ≠ b → K' c = I c) ?_ ?_
    · rintro f K ⟨k1, k2, k3, k4, k5, k6⟩
      rw [List.take_length] at k2
      refine ⟨K, ?_, k1, k2, k3, k4, k5, k6⟩
      show m71_60 F (f + 1) b (nI W.length) (mkH (hs l s d tl) K J) = _
      rw [m71_60, sg h (by omega), Option.bind_some, k3, if_pos (show mc2 .ge (nI W.length) (nI W.length) = true by rw [c_ge (by omega) (by omega)]; omega)]
    · rintro f k K hk ⟨k1, k2, k3, k4, k5, k6⟩
      right
      have hu := gd_ex hk
      generalize W.getD k [] = u at hu
      have ul := h20 k u hu
      have hc : cnt n A m (W.take (k + 1)) = cnt n A m (W.take k) + if cx_l n A u = m then 1 else 0 := by
        rw [List.take_succ, hu]
        exact cnt_ap m u
      have cl : cnt n A m (W.take k) ≤ 300 := Nat.le_trans (cnt_le m) (by rw [List.length_take]; omega)
      have e0 : m71_60 F (f + 1) b (nI k) (mkH (hs l s d tl) K J) = if mc2 .ne (nI (cx_l n A u)) (nI m) = true then m71_60 F f b (nI (k + 1)) (mkH (hs l s d tl) K J) else m71_60 F f b (nI (k + 1)) (mkH (hs l s d tl) (upI K b 8 (nI (cnt n A m (W.take k) + 1))) J) := by
        rw [m71_60, sg h (by omega), Option.bind_some, k3, if_neg (show ¬ mc2 .ge (nI k) (nI W.length) = true by rw [c_ge (by omega) (by omega)]; omega), si2 h, Option.bind_some, s4 hS, Option.bind_some, rdI_H hS.2.2.1 (by omega) (by omega), Option.bind_some, k6 (b + 3 + 2) (by omega), hl k u hu, sg h (by omega), Option.bind_some, k1]
        unfold m71_94
        rw [n_1, nI_add]
        split
        · rfl
        · rw [sg h (by omega), Option.bind_some, k2, nI_add, sp h (by omega), Option.bind_some]
      by_cases hum : cx_l n A u = m
      · refine ⟨upI K b 8 (nI (cnt n A m (W.take k) + 1)), ?_, ?_, ?_, ?_, ?_, ?_, fun c hc => by rw [upI_ne hc]; exact k6 c hc⟩
        · show m71_60 F (f + 1) b (nI k) (mkH (hs l s d tl) K J) = _
          rw [e0, if_neg (show ¬ mc2 .ne (nI (cx_l n A u)) (nI m) = true by rw [c_ne (by omega) (by omega)]; exact fun hh => hh hum)]
        · rw [upI_at, if_neg (by decide)]; exact k1
        · rw [upI_at, if_pos rfl, hc, if_pos hum]
        · rw [upI_at, if_neg (by decide)]; exact k3
        · rw [upI_at, if_neg (by decide)]; exact k4
        · rw [upI_at, if_neg (by decide)]; exact k5
      · refine ⟨K, ?_, k1, ?_, k3, k4, k5, k6⟩
        · show m71_60 F (f + 1) b (nI k) (mkH (hs l s d tl) K J) = _
          rw [e0, if_pos (show mc2 .ne (nI (cx_l n A u)) (nI m) = true by rw [c_ne (by omega) (by omega)]; exact hum)]
        · rw [hc, if_neg hum]; exact k2
  -- the first
  have l1 : ∀ (f k : Nat) (K : hI), k ≤ W.length → W.length < k + f → (∃ m, m ≤ 20 ∧ K b 7 = nI m ∧ (∀ (i : Nat) (u : List Nat), i < k → W[i]? = some u → m ≤ cx_l n A u) ∧ (m = 20 ∨ ∃ (i : Nat) (u : List Nat), W[i]? = some u ∧ cx_l n A u = m) ∧ K b 9 = nI W.length ∧ K b 6 = I b 6 ∧ K b 5 = I b 5 ∧ ∀ c, c ≠ b → K c = I c) → ∃ (I' : hI) (m : Nat), m71_19 F f b (nI k) (mkH (hs l s d tl) K J) = some ((), (mkH (hs l s d tl) I' J)) ∧ lml n A W m ∧ I' b 7 = nI m ∧ I' b 8 = nI (cnt n A m W) ∧ I' b 9 = nI W.length ∧ I' b 6 = I b 6 ∧ I' b 5 = I b 5 ∧ ∀ c, c ≠ b → I' c = I c := by
    refine lpc (σ := hI) (R := Option (Unit × List mE)) (fun f k K => m71_19 F f b (nI k) (mkH (hs l s d tl) K J)) W.length (fun k K => ∃ m, m ≤ 20 ∧ K b 7 = nI m ∧ (∀ (i : Nat) (u : List Nat), i < k → W[i]? = some u → m ≤ cx_l n A u) ∧ (m = 20 ∨ ∃ (i : Nat) (u : List Nat), W[i]? = some u ∧ cx_l n A u = m) ∧ K b 9 = nI W.length ∧ K b 6 = I b 6 ∧ K b 5 = I b 5 ∧ ∀ c, c ≠ b → K c = I c) (fun r => ∃ (I' : hI) (m : Nat), r = some ((), (mkH (hs l s d tl) I' J)) ∧ lml n A W m ∧ I' b 7 = nI m ∧ I' b 8 = nI (cnt n A m W) ∧ I' b 9 = nI W.length ∧ I' b 6 = I b 6 ∧ I' b 5 = I b 5 ∧ ∀ c, c ≠ b → I' c = I c) ?_ ?_
    · rintro f K ⟨m, k0, k1, k2, k3, k4, k5, k6, k7⟩
      have hml : lml n A W m := by
        refine ⟨?_, fun i u hu => k2 i u (List.getElem?_eq_some_iff.mp hu).1 hu⟩
        rcases k3 with rfl | k3
        · have a1 := k2 0 _ h0 (gd_ex h0)
          have a2 := h20 0 _ (gd_ex h0)
          exact ⟨0, _, gd_ex h0, by omega⟩
        · exact k3
      obtain ⟨K', e1, r⟩ := l2 m k0 F 0 (upI K b 8 (nI 0)) (by omega) (by omega) ⟨by rw [upI_at, if_neg (by decide)]; exact k1, by rw [upI_at, if_pos rfl]; rfl, by rw [upI_at, if_neg (by decide)]; exact k4, by rw [upI_at, if_neg (by decide)]; exact k5, by rw [upI_at, if_neg (by decide)]; exact k6, fun c hc => by rw [upI_ne hc]; exact k7 c hc⟩
      refine ⟨K', m, ?_, hml, r⟩
      show m71_19 F (f + 1) b (nI W.length) (mkH (hs l s d tl) K J) = _
      rw [m71_19, sg h (by omega), Option.bind_some, k4, if_pos (show mc2 .ge (nI W.length) (nI W.length) = true by rw [c_ge (by omega) (by omega)]; omega), n_0, sp h (by omega), Option.bind_some]
      exact e1
    · rintro f k K hk ⟨m, k0, k1, k2, k3, k4, k5, k6, k7⟩
      right
      have hu := gd_ex hk
      generalize W.getD k [] = u at hu
      have ul := h20 k u hu
      refine ⟨upI K b 7 (nI (if cx_l n A u < m then cx_l n A u else m)), ?_, if cx_l n A u < m then cx_l n A u else m, ?_, by rw [upI_at, if_pos rfl], fun i v hi hv => ?_, ?_, by rw [upI_at, if_neg (by decide)]; exact k4, by rw [upI_at, if_neg (by decide)]; exact k5, by rw [upI_at, if_neg (by decide)]; exact k6, fun c hc => by rw [upI_ne hc]; exact k7 c hc⟩
      · show m71_19 F (f + 1) b (nI k) (mkH (hs l s d tl) K J) = _
        rw [m71_19, sg h (by omega), Option.bind_some, k4, if_neg (show ¬ mc2 .ge (nI k) (nI W.length) = true by rw [c_ge (by omega) (by omega)]; omega), sg h (by omega), Option.bind_some, si2 h, Option.bind_some, s4 hS, Option.bind_some, rdI_H hS.2.2.1 (by omega) (by omega), Option.bind_some, k7 (b + 3 + 2) (by omega), hl k u hu, k1, sp h (by omega), Option.bind_some, n_1, nI_add]
        by_cases hlt : cx_l n A u < m
        · rw [if_pos hlt, if_pos ((lt_n (by omega) (by omega)).mpr hlt)]
        · rw [if_neg hlt, if_neg (fun hh => hlt ((lt_n (by omega) (by omega)).mp hh))]
      · split <;> omega
      · by_cases hik : i = k
        · subst hik
          rw [hu] at hv
          cases hv
          split <;> omega
        · have := k2 i v (by omega) hv
          split <;> omega
      · split
        · exact Or.inr ⟨k, u, hu, rfl⟩
        · exact k3
  obtain ⟨I', m, e1, r⟩ := l1 F 0 (upI (upI I b 9 (nI W.length)) b 7 (nI 20)) (by omega) (by omega) ⟨20, by omega, by rw [upI_at, if_pos rfl], fun i u hi => by omega, Or.inl rfl, by rw [upI_at, if_neg (by decide), upI_at, if_pos rfl], by rw [upI_at, if_neg (by decide), upI_at, if_neg (by decide)], by rw [upI_at, if_neg (by decide), upI_at, if_neg (by decide)], fun c hc => by rw [upI_ne hc, upI_ne hc]⟩
  refine ⟨I', m, ?_, r⟩
  show m71_0 F b _ = _
  unfold m71_0
  rw [si2 h, Option.bind_some, s2 hS, Option.bind_some, hm, sp h (by omega), Option.bind_some, n_20, sp h (by omega), Option.bind_some]
  exact e1
/-- tell -/
theorem tel_e (h : siS (hs l s d tl) b) (hb54 : 54 ≤ b) (hg : cl_n n A I) {els : List (List Nat)} (hk : kp n A els I J) (hb : sfb (b + 3) 512 I) (hc : siC n A els b I) (hF : 9000 ≤ F) {w : Nat} {y : List Nat} (hy : els[w]? = some y) {k : Nat} (hk3 : k < 3) : ∃ (v : Int32) (I' : hI) (J' : hJ), e70 F b (nI w) (nI k) (mkH (hs l s d tl) I J) = some (v, (mkH (hs l s d tl) I' J')) ∧ shV n A y k v ∧ sfb (b + 3) 512 I' ∧ siC n A els b I' ∧ sih b I I' J J' := by
  have hS := h.2.2.2
  have hok := hg.1
  have h40 := hk.2.1
  have hwl := (List.getElem?_eq_some_iff.mp hy).1
  have fin : ∀ (I1 : hI) (J1 : hJ), siV n A y b I1 → ∃ v : Int32, m70_34 F b (nI k) (mkH (hs l s d tl) I1 J1) = some (v, (mkH (hs l s d tl) I1 J1)) ∧ shV n A y k v := by
    intro I1 J1 hv
    unfold m70_34 m70_70
    rw [sg h (by omega), Option.bind_some]
    rcases hv with ⟨v1, v2, v3, v4⟩ | ⟨v1, v2⟩
    · rw [v1, if_pos (show mc1 .eq (nI 0) = true by decide)]
      rcases (show k = 0 ∨ k = 1 ∨ k = 2 by omega) with rfl | rfl | rfl
      · rw [if_neg (show ¬ mc1 .ne (nI 0) = true by decide), sg h (by omega), Option.bind_some]
        exact ⟨_, rfl, v2⟩
      · rw [if_pos (show mc1 .ne (nI 1) = true by decide), if_neg (show ¬ mc2 .ne (nI 1) 1 = true by decide), sg h (by omega), Option.bind_some]
        exact ⟨_, rfl, v3⟩
      · rw [if_pos (show mc1 .ne (nI 2) = true by decide), if_pos (show mc2 .ne (nI 2) 1 = true by decide), sg h (by omega), Option.bind_some]
        exact ⟨_, rfl, v4⟩
    · rw [v1, if_neg (show ¬ mc1 .eq (nI 1) = true by decide)]
      exact ⟨_, rfl, v2 k⟩
  have e0 : e70 F b (nI w) (nI k) (mkH (hs l s d tl) I J) = m70_0 F b (nI w) (nI k) (mkH (hs l s d tl) I J) := rfl
  rw [e0]
  unfold m70_0
  rw [sg h (by omega), Option.bind_some]
  by_cases heq : I b 5 = nI w
  · rw [if_pos (by rw [g_eq]; exact heq)]
    have hv : siV n A y b I := by
      rcases hc with hc | ⟨w', y', h1, h2, h3⟩
      · rw [hc] at heq
        exact absurd heq (gI_nI (k := 1) (by omega) (by omega) (by omega))
      · have hw' := (List.getElem?_eq_some_iff.mp h1).1
        rw [h2] at heq
        have := (nI_eq (by omega) (by omega)).mp heq
        subst this
        rw [hy] at h1
        cases h1
        exact h3
    obtain ⟨v, e1, r⟩ := fin I J hv
    exact ⟨v, I, J, e1, r, hb, hc, fun _ _ _ _ _ _ => rfl, fun _ _ _ _ => rfl⟩
  · rw [if_neg (by rw [g_eq]; exact heq), sir h, Option.bind_some]
    obtain ⟨v, I1, J1, e1, W, w1, ⟨w2, w3, w4⟩, w5⟩ := wk_e (F := F) h hb54 hg hk hb hF hy
    rw [e1, Option.bind_some]
    have n2 : ∀ x : Int32, upI I1 b 6 x (b + 3) 2 = nI W.length := fun x => by rw [upI_ne (by omega), w1.1.2.1.2.1, List.length_map]
    have ll : ∀ (x : Int32) (i : Nat) (u : List Nat), W[i]? = some u → upI I1 b 6 x (b + 3 + 2) i = nI (cx_l n A u) := fun x i u hu => by
      rw [upI_ne (by omega), (w1.1.2.1.2.2 i _ (mrev_r hu)).2.2.2, cx_l_rev hok (w3 i u hu)]
    have go : ∀ (z : Nat), z ≤ 1 → (∀ m, lml n A W m → ∀ I' : hI, I' b 6 = nI z → I' b 7 = nI m → I' b 8 = nI (cnt n A m W) → I' b 9 = nI W.length → siV n A y b I') → ∃ (v : Int32) (I' : hI) (J' : hJ), m70_22 F b (nI w) (nI k) b (nI z) (mkH (hs l s d tl) I1 J1) = some (v, (mkH (hs l s d tl) I' J')) ∧ shV n A y k v ∧ sfb (b + 3) 512 I' ∧ siC n A els b I' ∧ sih b I I' J J' := by
      intro z hz hV
      obtain ⟨I2, m, e2, m1, m2, m3, m4, m5, m6, m7⟩ := sm71 (F := F) (I := upI I1 b 6 (nI z)) (J := J1) h hF w2 w1.2.2.1 w4 (n2 _) (ll _)
      have hv : siV n A y b (upI I2 b 5 (nI w)) := hV m m1 _ (by rw [upI_at, if_neg (by decide), m5, upI_at, if_pos rfl]) (by rw [upI_at, if_neg (by decide)]; exact m2) (by rw [upI_at, if_neg (by decide)]; exact m3) (by rw [upI_at, if_neg (by decide)]; exact m4)
      obtain ⟨v', e3, r3⟩ := fin (upI I2 b 5 (nI w)) J1 hv
      have i2 : ∀ c, c ≠ b → upI I2 b 5 (nI w) c = I1 c := fun c hc => by rw [upI_ne hc, m7 c hc, upI_ne hc]
      refine ⟨v', upI I2 b 5 (nI w), J1, ?_, r3, sfb_I w1.1.1 (i2 _ (by omega)) (i2 _ (by omega)) (i2 _ (by omega)), Or.inr ⟨w, y, hy, by rw [upI_at, if_pos rfl], hv⟩, fun c a1 a2 a3 a4 a5 => by rw [i2 c a1]; exact w1.2.2.2.1 c a2 a3 a4 a5, w1.2.2.2.2⟩
      unfold m70_22
      rw [if_pos (show nI z = 0 ∨ nI z = 1 by rcases (show z = 0 ∨ z = 1 by omega) with rfl | rfl; exact Or.inl rfl; exact Or.inr rfl), sp h (by omega), Option.bind_some, sir h, Option.bind_some, e2, Option.bind_some, sp h (by omega), Option.bind_some, e3]
    rcases w5 with ⟨rfl, w6⟩ | ⟨rfl, W', w6⟩
    · rw [if_pos (show mc1 .ne (nI 1) = true by decide)]
      refine go 0 (by omega) (fun m hm I' a1 a2 a3 a4 => Or.inl ⟨a1, Or.inl ⟨W, m, w6, w1.2.2.1, hm, ?_⟩, Or.inl ⟨W, m, w6, w1.2.2.1, hm, ?_⟩, Or.inl ⟨W, m, w6, w1.2.2.1, hm, ?_⟩⟩)
      · rw [if_pos rfl]; exact a2
      · rw [if_neg (by decide), if_pos rfl]; exact a3
      · rw [if_neg (by decide), if_neg (by decide)]; exact a4
    · rw [if_neg (show ¬ mc1 .ne (nI 0) = true by decide)]
      exact go 1 (by omega) (fun m hm I' a1 a2 a3 a4 => Or.inr ⟨a1, fun k => Or.inr ⟨rfl, W', w6⟩⟩)
end S
