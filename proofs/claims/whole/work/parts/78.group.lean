/-! THE GROUP is taken over. -/
theorem zI_n (k : Nat) : zI (k : Int) = nI k := by
  unfold zI nI
  exact Int32.ofInt_eq_ofNat
theorem zI_g (k : Nat) : zI (-(k : Int)) = gI k := by
  unfold zI gI nI
  rw [Int32.ofInt_neg, Int32.ofInt_eq_ofNat]
section S
variable {l s d : Value} {tl : List hQ} {F : Nat} {I : hI} {J : hJ} {n m : Nat} {T : tT}
/-- numberFor -/
theorem nfo_e {t : Nat} (ht : t = 0 ∨ t = 2 ∨ t = 3 ∨ t = 4 ∨ t = 6) (b : Bool) (hp : List mE) : e35 F (nI t) (nI (if b = true then 1 else 0)) hp = some (zI (nf t b), hp) := by
  rcases ht with rfl | rfl | rfl | rfl | rfl <;> cases b <;> rfl
/-- setPair -/
theorem spr_e {i j t : Nat} (hi : i < 5) (hj : j < 5) (ht : i ≠ j → t = 0 ∨ t = 2 ∨ t = 3 ∨ t = 4 ∨ t = 6) : e34 F 1 (nI i) (nI j) (nI t) (mkH (hs l s d tl) I J) = some ((), (mkH (hs l s d tl) (upI (upI I 2 (i * 5 + j) (nI t)) 3 (i * 5 + j) (zI (if i = j then 2 else nf t (decide (i < j))))) J)) := by
  have e0 : e34 F 1 (nI i) (nI j) (nI t) (mkH (hs l s d tl) I J) = m34_0 F 1 (nI i) (nI j) (nI t) (mkH (hs l s d tl) I J) := rfl
  rw [e0]
  unfold m34_0 m34_40 m34_43
  rw [gr1_1, Option.bind_some, n_5, pk_mul, nI_add, wI2 (by omega), Option.bind_some, gr1_2, Option.bind_some]
  by_cases hij : i = j
  · rw [if_neg (show ¬ mc2 .ne (nI i) (nI j) = true by rw [c_ne (by omega) (by omega)]; exact fun h => h hij), if_pos hij, wI3 (by omega), Option.bind_some]
    rfl
  · rw [if_pos (show mc2 .ne (nI i) (nI j) = true by rw [c_ne (by omega) (by omega)]; exact hij), if_neg hij]
    have nfo := fun b => nfo_e (F := F) (ht hij) b (mkH (hs l s d tl) (upI I 2 (i * 5 + j) (nI t)) J)
    by_cases hlt : i < j
    · rw [if_neg (show ¬ mc2 .ge (nI i) (nI j) = true by rw [c_ge (by omega) (by omega)]; omega), decide_eq_true hlt]
      have := nfo true
      rw [if_pos rfl] at this
      rw [n_1, this, Option.bind_some, wI3 (by omega), Option.bind_some]
    · rw [if_pos (show mc2 .ge (nI i) (nI j) = true by rw [c_ge (by omega) (by omega)]; omega), decide_eq_false hlt]
      have := nfo false
      rw [if_neg (by decide)] at this
      rw [n_0, this, Option.bind_some, wI3 (by omega), Option.bind_some]
/-- what the class knows of turns -/
def cl_t (n : Nat) (T : tT) (I : hI) : Prop := ∀ i j, i < n → j < n → I 2 (i * 5 + j) = nI (gT T i j)
/-- become -/
theorem bec_e (hT : tok T) (h1 : 1 ≤ m) (h5 : m ≤ 5) (hF : 300 ≤ F) (h6 : ∀ i j, i < 5 → j < 5 → I 6 (i * 5 + j) = nI ((T i j).getD 2)) : ∃ I', e33 F 1 (nI m) 6 (mkH (hs l s d tl) I J) = some ((), (mkH (hs l s d tl) I' J)) ∧ cl_n m (gA T) I' ∧ cl_t m T I' ∧ (∀ c, c ≠ 1 → c ≠ 2 → c ≠ 3 → I' c = I c) := by
  have e0 : e33 F 1 (nI m) 6 (mkH (hs l s d tl) I J) = m33_0 F 1 (nI m) 6 (mkH (hs l s d tl) I J) := rfl
  rw [e0]
  unfold m33_0
  rw [pi1_0, Option.bind_some]
  refine lpc (fun f i (I1 : hI) => m33_7 F f 1 (nI m) 6 (nI i) (mkH (hs l s d tl) I1 J)) m (fun i I1 => I1 1 0 = nI m ∧ (∀ a b, a < i → b < m → I1 2 (a * 5 + b) = nI (gT T a b) ∧ I1 3 (a * 5 + b) = zI (gA T a b)) ∧ ∀ c, c ≠ 1 → c ≠ 2 → c ≠ 3 → I1 c = I c) (fun r => ∃ I', r = some ((), (mkH (hs l s d tl) I' J)) ∧ cl_n m (gA T) I' ∧ cl_t m T I' ∧ (∀ c, c ≠ 1 → c ≠ 2 → c ≠ 3 → I' c = I c)) ?_ ?_ F 0 (upI I 1 0 (nI m)) (by omega) (by omega) ⟨by rw [upI_at, if_pos rfl], fun a b ha => by omega, fun c c1 _ _ => upI_ne c1⟩
  · rintro f I1 ⟨k1, k2, k3⟩
    show ∃ I', m33_7 F (f + 1) _ _ _ _ _ = _ ∧ _
    rw [m33_7, if_pos (show mc2 .ge (nI m) (nI m) = true by rw [c_ge (by omega) (by omega)]; omega)]
    exact ⟨I1, rfl, ⟨gA_ok hT m, h1, h5, k1, fun i j hi hj => ⟨(k2 i j hi hj).2, (gA_bd hT i j).1, (gA_bd hT i j).2⟩⟩, fun i j hi hj => (k2 i j hi hj).1, k3⟩
  · rintro f i I1 hi ⟨k1, k2, k3⟩
    right
    show ∃ y, m33_7 F (f + 1) _ _ _ _ _ = _ ∧ _
    rw [m33_7, if_neg (show ¬ mc2 .ge (nI i) (nI m) = true by rw [c_ge (by omega) (by omega)]; omega), n_0]
    refine lpc (fun g j (I2 : hI) => m33_15 F (m33_7 F f) g 1 (nI m) 6 (nI i) (nI j) (mkH (hs l s d tl) I2 J)) m (fun j I2 => I2 1 0 = nI m ∧ (∀ a b, a < i → b < m → I2 2 (a * 5 + b) = nI (gT T a b) ∧ I2 3 (a * 5 + b) = zI (gA T a b)) ∧ (∀ b, b < j → I2 2 (i * 5 + b) = nI (gT T i b) ∧ I2 3 (i * 5 + b) = zI (gA T i b)) ∧ ∀ c, c ≠ 1 → c ≠ 2 → c ≠ 3 → I2 c = I c) (fun r => ∃ y : hI, r = m33_7 F f 1 (nI m) 6 (nI (i + 1)) (mkH (hs l s d tl) y J) ∧ y 1 0 = nI m ∧ (∀ a b, a < i + 1 → b < m → y 2 (a * 5 + b) = nI (gT T a b) ∧ y 3 (a * 5 + b) = zI (gA T a b)) ∧ ∀ c, c ≠ 1 → c ≠ 2 → c ≠ 3 → y c = I c) ?_ ?_ F 0 I1 (by omega) (by omega) ⟨k1, k2, fun b hb => by omega, k3⟩
    · rintro g I2 ⟨j1, j2, j3, j4⟩
      show ∃ y : hI, m33_15 F _ (g + 1) _ _ _ _ _ _ = _ ∧ _
      rw [m33_15, if_pos (show mc2 .ge (nI m) (nI m) = true by rw [c_ge (by omega) (by omega)]; omega), n_1, nI_add]
      refine ⟨I2, rfl, j1, fun a b ha hb => ?_, j4⟩
      by_cases hai : a = i
      · subst hai
        exact j3 b hb
      · exact j2 a b (by omega) hb
    · rintro g j I2 hj ⟨j1, j2, j3, j4⟩
      right
      show ∃ y, m33_15 F _ (g + 1) _ _ _ _ _ _ = _ ∧ _
      rw [m33_15, if_neg (show ¬ mc2 .ge (nI j) (nI m) = true by rw [c_ge (by omega) (by omega)]; omega)]
      have hrd : I2 6 (i * 5 + j) = nI ((T i j).getD 2) := by rw [j4 6 (by decide) (by decide) (by decide)]; exact h6 i j (by omega) (by omega)
      have es : (if mc2 .ne (nI i) (nI j) = true then (rdI (mkH (hs l s d tl) I2 J) 6 (nI i * 5 + nI j)).bind fun x3 => m33_43 F (m33_7 F f) (m33_15 F (m33_7 F f) g) 1 (nI m) 6 (nI i) (nI j) 1 (nI i) (nI j) x3 (mkH (hs l s d tl) I2 J) else m33_43 F (m33_7 F f) (m33_15 F (m33_7 F f) g) 1 (nI m) 6 (nI i) (nI j) 1 (nI i) (nI j) 1 (mkH (hs l s d tl) I2 J)) = m33_43 F (m33_7 F f) (m33_15 F (m33_7 F f) g) 1 (nI m) 6 (nI i) (nI j) 1 (nI i) (nI j) (nI (gT T i j)) (mkH (hs l s d tl) I2 J) := by
        unfold gT
        by_cases hij : i = j
        · rw [if_neg (show ¬ mc2 .ne (nI i) (nI j) = true by rw [c_ne (by omega) (by omega)]; exact fun h => h hij), if_pos hij, n_1]
        · rw [if_pos (show mc2 .ne (nI i) (nI j) = true by rw [c_ne (by omega) (by omega)]; exact hij), if_neg hij, n_5, pk_mul, nI_add, rI6 (by omega), Option.bind_some, hrd]
      rw [es]
      unfold m33_43
      rw [rc1, Option.bind_some, spr_e (by omega) (by omega) (fun hij => by unfold gT; rw [if_neg hij]; exact tok_d hT i j), Option.bind_some, n_1, nI_add]
      have egA : (if i = j then 2 else nf (gT T i j) (decide (i < j))) = gA T i j := by
        unfold gA gT
        by_cases hij : i = j
        · rw [if_pos hij, if_pos hij]
        · rw [if_neg hij, if_neg hij, if_neg hij]
      rw [egA]
      refine ⟨_, rfl, ?_, fun a b ha hb => ?_, fun b hb => ?_, fun c c1 c2 c3 => ?_⟩
      · rw [upI_ne (by decide), upI_ne (by decide)]
        exact j1
      · rw [upI_ne (by decide), upI_at, if_neg (by omega), upI_at, if_neg (by omega), upI_ne (by decide)]
        exact j2 a b ha hb
      · rw [upI_ne (by decide), upI_at, upI_at]
        by_cases hbj : b = j
        · subst hbj
          rw [if_pos rfl, if_pos rfl]
          exact ⟨rfl, rfl⟩
        · rw [if_neg (by omega), if_neg (by omega), upI_ne (by decide)]
          exact j3 b (by omega)
      · rw [upI_ne c3, upI_ne c2]
        exact j4 c c1 c2 c3
/-- Kept.begin -/
theorem kbg_e {A : Nat → Nat → Int} (hc : cl_n n A I) (hF : 300 ≤ F) : ∃ I' J', e15 F 8 (mkH (hs l s d tl) I J) = some ((), (mkH (hs l s d tl) I' J')) ∧ kp n A [[]] I' J' ∧ (∀ c, c ≠ 8 → c ≠ 10 → I' c = I c) ∧ (∀ c, c ≠ 11 → c ≠ 12 → J' c = J c) := by
  have hn5 := hc.2.2.1
  have e0 : e15 F 8 (mkH (hs l s d tl) I J) = m15_0 F 8 (mkH (hs l s d tl) I J) := rfl
  rw [e0]
  unfold m15_0
  have hc1 : cl_n n A (upI (upI I 8 1 (nI 1)) 10 0 (nI 0)) := cl_fr hc (by rw [upI_ne (by decide), upI_ne (by decide)]) (by rw [upI_ne (by decide), upI_ne (by decide)])
  rw [n_1, pi8_1, Option.bind_some, gr8_3, Option.bind_some, n_0, wI10 (by decide), Option.bind_some, gr8_0, Option.bind_some, gr8_4, Option.bind_some, rc1, Option.bind_some, sw_e hc1.2.2.2.1 hn5 (by omega) q11 (by decide) (by omega : 0 + n ≤ 200), Option.bind_some, gr8_0, Option.bind_some, gr8_5, Option.bind_some, rc1, Option.bind_some, sw_e hc1.2.2.2.1 hn5 (by omega) q12 (by decide) (by omega : 0 + n ≤ 200), Option.bind_some]
  refine ⟨_, _, rfl, ⟨by decide, by decide, rfl, by rw [upI_ne (by decide), upI_at, if_pos rfl]; rfl, fun w y hw => ?_⟩, fun c c1 c2 => by rw [upI_ne c2, upI_ne c1], fun c c1 c2 => by rw [rwJ_ne c2, rwJ_ne c1]⟩
  have hw0 : w = 0 := by
    have := (List.getElem?_eq_some_iff.mp hw).1
    simp at this
    omega
  subst hw0
  have hy : y = [] := (Option.some.inj hw).symm
  subst hy
  refine ⟨trivial, by simp, by rw [upI_at, if_pos rfl]; rfl, wd_nil, ?_, wt_nil⟩
  rw [rwJ_ne (by decide)]
  exact wt_nil
/-- what the reference knows of turns -/
def mo_t (n : Nat) (T : tT) (I : hI) : Prop := ∀ i j, i < n → j < n → I 27 (5 * i + j) = nI (gT T i j)
theorem tk_d {i : Nat} (hi : i < 5) (rc7 : Nat → Int32 → List mE → Option (Unit × List mE)) (rc14 : Nat → Int32 → Int32 → List mE → Option (Unit × List mE)) (x : Int32) : m138_47 F rc7 rc14 26 (nI i) (nI i) x (mkH (hs l s d tl) I J) = rc14 26 (nI i) (nI (i + 1)) (mkH (hs l s d tl) (upI (upI I 27 (5 * i + i) (nI 1)) 28 (5 * i + i) (zI 2)) J) := by
  have hne : ¬ mc2 .ne (nI i) (nI i) = true := by rw [c_ne (by omega) (by omega)]; exact fun h => h rfl
  have L1 : ∀ v t, m138_137 F rc7 rc14 26 (nI i) (nI i) v t (mkH (hs l s d tl) (upI I 27 (5 * i + i) (nI 1)) J) = rc14 26 (nI i) (nI (i + 1)) (mkH (hs l s d tl) (upI (upI I 27 (5 * i + i) (nI 1)) 28 (5 * i + i) (zI 2)) J) := by
    intro v t
    unfold m138_137 m138_169
    rw [gr26_2, Option.bind_some, if_neg hne, n_5, pk_mul, nI_add, wI28 (by omega), Option.bind_some, n_1, nI_add]
    rfl
  have L2 : ∀ v t, m138_114 F rc7 rc14 26 (nI i) (nI i) v t (mkH (hs l s d tl) (upI I 27 (5 * i + i) (nI 1)) J) = rc14 26 (nI i) (nI (i + 1)) (mkH (hs l s d tl) (upI (upI I 27 (5 * i + i) (nI 1)) 28 (5 * i + i) (zI 2)) J) := by
    intro v t
    unfold m138_114
    split
    · split
      · exact L1 _ _
      · exact L1 _ _
    · exact L1 _ _
  unfold m138_47 m138_69
  rw [gr26_1, Option.bind_some, if_neg hne, n_5, pk_mul, nI_add, n_1, wI27 (by omega), Option.bind_some]
  split
  · split
    · split
      · split
        · exact L2 _ _
        · exact L2 _ _
      · exact L2 _ _
    · exact L2 _ _
  · exact L2 _ _
theorem tk_o {i j t : Nat} (hi : i < 5) (hj : j < 5) (hij : i ≠ j) (ht : t = 0 ∨ t = 2 ∨ t = 3 ∨ t = 4 ∨ t = 6) (rc7 : Nat → Int32 → List mE → Option (Unit × List mE)) (rc14 : Nat → Int32 → Int32 → List mE → Option (Unit × List mE)) : m138_47 F rc7 rc14 26 (nI i) (nI j) (nI t) (mkH (hs l s d tl) I J) = rc14 26 (nI i) (nI (j + 1)) (mkH (hs l s d tl) (upI (upI I 27 (5 * i + j) (nI t)) 28 (5 * i + j) (zI (nf t (decide (i < j))))) J) := by
  have hne : mc2 .ne (nI i) (nI j) = true := by rw [c_ne (by omega) (by omega)]; exact hij
  have L1 : ∀ v w, (zI (nf t (decide (i < j))) = if i < j then v else w) → m138_137 F rc7 rc14 26 (nI i) (nI j) v w (mkH (hs l s d tl) (upI I 27 (5 * i + j) (nI t)) J) = rc14 26 (nI i) (nI (j + 1)) (mkH (hs l s d tl) (upI (upI I 27 (5 * i + j) (nI t)) 28 (5 * i + j) (zI (nf t (decide (i < j))))) J) := by
    intro v w hvw
    unfold m138_137 m138_169
    rw [gr26_2, Option.bind_some, if_pos hne, n_5, pk_mul, nI_add, n_1, nI_add, hvw]
    by_cases hlt : i < j
    · rw [if_neg (show ¬ mc2 .ge (nI i) (nI j) = true by rw [c_ge (by omega) (by omega)]; omega), if_pos hlt, wI28 (by omega), Option.bind_some]
    · rw [if_pos (show mc2 .ge (nI i) (nI j) = true by rw [c_ge (by omega) (by omega)]; omega), if_neg hlt, wI28 (by omega), Option.bind_some]
  unfold m138_47 m138_69 m138_114
  rw [gr26_1, Option.bind_some, if_pos hne, n_5, pk_mul, nI_add, wI27 (by omega), Option.bind_some]
  have hb : decide (i < j) = true ∨ decide (i < j) = false := by cases decide (i < j) <;> simp
  rcases ht with rfl | rfl | rfl | rfl | rfl
  · refine L1 _ _ ?_
    by_cases hlt : i < j
    · rw [if_pos hlt, decide_eq_true hlt]; rfl
    · rw [if_neg hlt, decide_eq_false hlt]; rfl
  · refine L1 _ _ ?_
    by_cases hlt : i < j
    · rw [if_pos hlt, decide_eq_true hlt]; rfl
    · rw [if_neg hlt, decide_eq_false hlt]; rfl
  · refine L1 _ _ ?_
    by_cases hlt : i < j
    · rw [if_pos hlt, decide_eq_true hlt]; rfl
    · rw [if_neg hlt, decide_eq_false hlt]; rfl
  · refine L1 _ _ ?_
    by_cases hlt : i < j
    · rw [if_pos hlt, decide_eq_true hlt]; rfl
    · rw [if_neg hlt, decide_eq_false hlt]; rfl
  · refine L1 _ _ ?_
    by_cases hlt : i < j
    · rw [if_pos hlt, decide_eq_true hlt]; rfl
    · rw [if_neg hlt, decide_eq_false hlt]; rfl
/-- take -/
theorem tak_e (hT : tok T) (h1 : 1 ≤ m) (h5 : m ≤ 5) (hF : 300 ≤ F) (h29 : ∀ i j, i < j → j < 5 → I 29 (5 * i + j) = nI ((T i j).getD 2)) : ∃ I', e138 F 26 (nI m) (mkH (hs l s d tl) I J) = some ((), (mkH (hs l s d tl) I' J)) ∧ mo_n m (gA T) I' ∧ mo_t m T I' ∧ km m (gA T) [[]] I' ∧ dr m [] I' ∧ I' 26 30 = gI 1 ∧ (∀ c, c ≠ 26 → c ≠ 27 → c ≠ 28 → c ≠ 34 → I' c = I c) ∧ ∀ f, f ≠ 0 → f ≠ 16 → f ≠ 19 → f ≠ 30 → I' 26 f = I 26 f := by
  have e0 : e138 F 26 (nI m) (mkH (hs l s d tl) I J) = m138_0 F 26 (nI m) (mkH (hs l s d tl) I J) := rfl
  rw [e0]
  unfold m138_0
  rw [pi26_0, Option.bind_some, n_0]
  refine lpc (fun f i (I1 : hI) => m138_7 F f 26 (nI i) (mkH (hs l s d tl) I1 J)) 5 (fun i I1 => I1 26 = upI I 26 0 (nI m) 26 ∧ (∀ a b, a < i → b < 5 → I1 27 (5 * a + b) = nI (gT T a b) ∧ I1 28 (5 * a + b) = zI (gA T a b)) ∧ ∀ c, c ≠ 26 → c ≠ 27 → c ≠ 28 → I1 c = I c) (fun r => ∃ I', r = some ((), (mkH (hs l s d tl) I' J)) ∧ mo_n m (gA T) I' ∧ mo_t m T I' ∧ km m (gA T) [[]] I' ∧ dr m [] I' ∧ I' 26 30 = gI 1 ∧ (∀ c, c ≠ 26 → c ≠ 27 → c ≠ 28 → c ≠ 34 → I' c = I c) ∧ ∀ f, f ≠ 0 → f ≠ 16 → f ≠ 19 → f ≠ 30 → I' 26 f = I 26 f) ?_ ?_ F 0 (upI I 26 0 (nI m)) (by omega) (by omega) ⟨rfl, fun a b ha => by omega, fun c c1 _ _ => upI_ne c1⟩
  · rintro f I1 ⟨k1, k2, k3⟩
    show ∃ I', m138_7 F (f + 1) _ _ _ = _ ∧ _
    rw [m138_7, if_pos (show mc2 .ge (nI 5) 5 = true by decide), n_1, pi26_16, Option.bind_some, gr26_17, Option.bind_some, n_0, wI34 (by decide), Option.bind_some, pi26_19, Option.bind_some, pi26_30, Option.bind_some]
    have h26 : ∀ f, (upI (upI (upI (upI I1 26 16 (nI 1)) 34 0 (nI 0)) 26 19 (nI 0)) 26 30 (-nI 1)) 26 f = if f = 30 then -nI 1 else if f = 19 then nI 0 else if f = 16 then nI 1 else upI I 26 0 (nI m) 26 f := by
      intro f
      rw [upI_at, upI_at, upI_ne (by decide), upI_at, k1]
    have hoth : ∀ c, c ≠ 26 → c ≠ 34 → (upI (upI (upI (upI I1 26 16 (nI 1)) 34 0 (nI 0)) 26 19 (nI 0)) 26 30 (-nI 1)) c = I1 c := fun c c1 c2 => by rw [upI_ne c1, upI_ne c1, upI_ne c2, upI_ne c1]
    refine ⟨_, rfl, ⟨gA_ok hT m, h1, h5, ?_, fun i j hi hj => ⟨?_, (gA_bd hT i j).1, (gA_bd hT i j).2⟩⟩, fun i j hi hj => ?_, ⟨by decide, by decide, rfl, ?_, fun w y hw => ?_⟩, ⟨cx_L_nil, by simp, ?_, wd_nil⟩, ?_, fun c c1 c2 c3 c4 => ?_, fun g g1 g2 g3 g4 => ?_⟩
    · rw [h26, if_neg (by decide), if_neg (by decide), if_neg (by decide), upI_at, if_pos rfl]
    · rw [hoth 28 (by decide) (by decide)]
      exact (k2 i j (by omega) (by omega)).2
    · rw [hoth 27 (by decide) (by decide)]
      exact (k2 i j (by omega) (by omega)).1
    · rw [h26, if_neg (by decide), if_neg (by decide), if_pos rfl]
      rfl
    · have hw0 : w = 0 := by
        have := (List.getElem?_eq_some_iff.mp hw).1
        simp at this
        omega
      subst hw0
      have hy : y = [] := (Option.some.inj hw).symm
      subst hy
      refine ⟨trivial, by simp, ?_, wd_nil⟩
      rw [upI_ne (by decide), upI_ne (by decide), upI_at, if_pos rfl]
      rfl
    · rw [h26, if_neg (by decide), if_pos rfl]
      rfl
    · rw [h26, if_pos rfl]
      rfl
    · rw [hoth c c1 c4]
      exact k3 c c1 c2 c3
    · rw [h26, if_neg g4, if_neg g3, if_neg g2, upI_at, if_neg g1]
  · rintro f i I1 hi ⟨k1, k2, k3⟩
    right
    show ∃ y, m138_7 F (f + 1) _ _ _ = _ ∧ _
    rw [m138_7, if_neg (show ¬ mc2 .ge (nI i) 5 = true by rw [n_5, c_ge (by omega) (by omega)]; omega)]
    rw [show (0 : Int32) = nI 0 from rfl]
    refine lpc (fun g j (I2 : hI) => m138_14 F (m138_7 F f) g 26 (nI i) (nI j) (mkH (hs l s d tl) I2 J)) 5 (fun j I2 => I2 26 = upI I 26 0 (nI m) 26 ∧ (∀ a b, a < i → b < 5 → I2 27 (5 * a + b) = nI (gT T a b) ∧ I2 28 (5 * a + b) = zI (gA T a b)) ∧ (∀ b, b < j → I2 27 (5 * i + b) = nI (gT T i b) ∧ I2 28 (5 * i + b) = zI (gA T i b)) ∧ ∀ c, c ≠ 26 → c ≠ 27 → c ≠ 28 → I2 c = I c) (fun r => ∃ y : hI, r = m138_7 F f 26 (nI (i + 1)) (mkH (hs l s d tl) y J) ∧ y 26 = upI I 26 0 (nI m) 26 ∧ (∀ a b, a < i + 1 → b < 5 → y 27 (5 * a + b) = nI (gT T a b) ∧ y 28 (5 * a + b) = zI (gA T a b)) ∧ ∀ c, c ≠ 26 → c ≠ 27 → c ≠ 28 → y c = I c) ?_ ?_ F 0 I1 (by omega) (by omega) ⟨k1, k2, fun b hb => by omega, k3⟩
    · rintro g I2 ⟨j1, j2, j3, j4⟩
      show ∃ y : hI, m138_14 F _ (g + 1) _ _ _ _ = _ ∧ _
      rw [m138_14, if_pos (show mc2 .ge (nI 5) 5 = true by decide), n_1, nI_add]
      refine ⟨I2, rfl, j1, fun a b ha hb => ?_, j4⟩
      by_cases hai : a = i
      · subst hai
        exact j3 b hb
      · exact j2 a b (by omega) hb
    · rintro g j I2 hj ⟨j1, j2, j3, j4⟩
      right
      show ∃ y, m138_14 F _ (g + 1) _ _ _ _ = _ ∧ _
      rw [m138_14, if_neg (show ¬ mc2 .ge (nI j) 5 = true by rw [n_5, c_ge (by omega) (by omega)]; omega)]
      have r29 : ∀ a b, a < b → b < 5 → I2 29 (5 * a + b) = nI ((T a b).getD 2) := fun a b ha hb => by rw [j4 29 (by decide) (by decide) (by decide)]; exact h29 a b ha hb
      have step : ∀ {Y : hI}, (Y 27 = fun q => if q = 5 * i + j then nI (gT T i j) else I2 27 q) → (Y 28 = fun q => if q = 5 * i + j then zI (gA T i j) else I2 28 q) → (∀ c, c ≠ 27 → c ≠ 28 → Y c = I2 c) → Y 26 = upI I 26 0 (nI m) 26 ∧ (∀ a b, a < i → b < 5 → Y 27 (5 * a + b) = nI (gT T a b) ∧ Y 28 (5 * a + b) = zI (gA T a b)) ∧ (∀ b, b < j + 1 → Y 27 (5 * i + b) = nI (gT T i b) ∧ Y 28 (5 * i + b) = zI (gA T i b)) ∧ ∀ c, c ≠ 26 → c ≠ 27 → c ≠ 28 → Y c = I c := by
        intro Y y1 y2 y3
        refine ⟨by rw [y3 26 (by decide) (by decide), j1], fun a b ha hb => ?_, fun b hb => ?_, fun c c1 c2 c3 => by rw [y3 c c2 c3]; exact j4 c c1 c2 c3⟩
        · rw [y1, y2]
          dsimp only
          rw [if_neg (by omega), if_neg (by omega)]
          exact j2 a b ha hb
        · rw [y1, y2]
          dsimp only
          by_cases hbj : b = j
          · subst hbj
            rw [if_pos rfl, if_pos rfl]
            exact ⟨rfl, rfl⟩
          · rw [if_neg (by omega), if_neg (by omega)]
            exact j3 b (by omega)
      have upe : ∀ (x y : Int32), (upI (upI I2 27 (5 * i + j) x) 28 (5 * i + j) y) 27 = (fun q => if q = 5 * i + j then x else I2 27 q) ∧ (upI (upI I2 27 (5 * i + j) x) 28 (5 * i + j) y) 28 = (fun q => if q = 5 * i + j then y else I2 28 q) ∧ ∀ c, c ≠ 27 → c ≠ 28 → (upI (upI I2 27 (5 * i + j) x) 28 (5 * i + j) y) c = I2 c := by
        intro x y
        refine ⟨?_, ?_, fun c c1 c2 => by rw [upI_ne c2, upI_ne c1]⟩
        · funext q
          rw [upI_ne (by decide), upI_at]
        · funext q
          rw [upI_at, upI_ne (by decide)]
      by_cases hij : i = j
      · subst hij
        rw [if_pos (show mc2 .ge (nI i) (nI i) = true by rw [c_ge (by omega) (by omega)]; omega), gr26_3, Option.bind_some, n_5, pk_mul, nI_add, rI29 (by omega), Option.bind_some, tk_d hi]
        have hu := upe (nI 1) (zI 2)
        refine ⟨_, rfl, step ?_ ?_ hu.2.2⟩
        · rw [hu.1]
          unfold gT
          rw [if_pos rfl]
        · rw [hu.2.1]
          unfold gA
          rw [if_pos rfl]
      · have ht := tok_d hT i j
        have hu := upe (nI ((T i j).getD 2)) (zI (nf ((T i j).getD 2) (decide (i < j))))
        have fin : ∃ y : hI, m138_47 F (m138_7 F f) (m138_14 F (m138_7 F f) g) 26 (nI i) (nI j) (nI ((T i j).getD 2)) (mkH (hs l s d tl) I2 J) = m138_14 F (m138_7 F f) g 26 (nI i) (nI (j + 1)) (mkH (hs l s d tl) y J) ∧ (y 26 = upI I 26 0 (nI m) 26 ∧ (∀ a b, a < i → b < 5 → y 27 (5 * a + b) = nI (gT T a b) ∧ y 28 (5 * a + b) = zI (gA T a b)) ∧ (∀ b, b < j + 1 → y 27 (5 * i + b) = nI (gT T i b) ∧ y 28 (5 * i + b) = zI (gA T i b)) ∧ ∀ c, c ≠ 26 → c ≠ 27 → c ≠ 28 → y c = I c) := by
          rw [tk_o hi hj hij ht]
          refine ⟨_, rfl, step ?_ ?_ hu.2.2⟩
          · rw [hu.1]
            unfold gT
            rw [if_neg hij]
          · rw [hu.2.1]
            unfold gA
            rw [if_neg hij]
        by_cases hlt : i < j
        · rw [if_neg (show ¬ mc2 .ge (nI i) (nI j) = true by rw [c_ge (by omega) (by omega)]; omega), gr26_3, Option.bind_some, n_5, pk_mul, nI_add, rI29 (by omega), Option.bind_some, r29 i j hlt hj]
          exact fin
        · rw [if_pos (show mc2 .ge (nI i) (nI j) = true by rw [c_ge (by omega) (by omega)]; omega), gr26_3, Option.bind_some, n_5, pk_mul, nI_add, rI29 (by omega), Option.bind_some, r29 j i (by omega) hi, ← (hT i j).1]
          exact fin
end S
