/-! The reference: isShift, putShift. -/
/-- rows of words that stand in the reference's queue -/
def shR (n : Nat) (A : Nat → Nat → Int) (W : List (List Nat)) (I : hI) : Prop := ∀ (i : Nat) (u : List Nat), W[i]? = some u → cx_c n A u ∧ u.length ≤ 20 ∧ I 43 i = nI u.length ∧ wd (I 44) (20 * i) u
section S
variable {l s d : Value} {tl : List hQ} {F : Nat} {I : hI} {J : hJ} {n : Nat} {A : Nat → Nat → Int} {W : List (List Nat)}
theorem shR_rf {I' : hI} (h : shR n A W I) (hr : rf I I') : shR n A W I' := by
  intro i u hu
  rw [hr.1 43 (by decide) (by decide), hr.1 44 (by decide) (by decide)]
  exact h i u hu
/-- isShift -/
theorem iss_e (hF : 9000 ≤ F) (hn5 : n ≤ 5) (hR : shR n A W I) (h300 : W.length ≤ 300) {x : List Nat} (hx : cx_L n x) (hr : rw0 x I) (h64 : x.length ≤ 20) : (e195 F 26 (nI W.length) (mkH (hs l s d tl) I J) = some (nI 1, (mkH (hs l s d tl) I J)) ∧ ∃ i : Nat, W[i]? = some x) ∨ (e195 F 26 (nI W.length) (mkH (hs l s d tl) I J) = some (nI 0, (mkH (hs l s d tl) I J)) ∧ ∀ i : Nat, W[i]? ≠ some x) := by
  have one : ∀ (rc : Nat → Int32 → Int32 → List mE → Option (Int32 × List mE)) (k : Nat) (y : List Nat), W[k]? = some y → ∀ v : Nat, ((v = 1 ∧ y.length = x.length) ∨ (v = 0 ∧ y ≠ x)) → (m195_29 F rc F 26 (nI W.length) (nI k) (nI v) (nI 0) (mkH (hs l s d tl) I J) = some (nI 1, (mkH (hs l s d tl) I J)) ∧ y = x) ∨ (m195_29 F rc F 26 (nI W.length) (nI k) (nI v) (nI 0) (mkH (hs l s d tl) I J) = rc 26 (nI W.length) (nI (k + 1)) (mkH (hs l s d tl) I J) ∧ y ≠ x) := by
    intro rc k y hy v hv
    have hkl := (List.getElem?_eq_some_iff.mp hy).1
    obtain ⟨yc, h20, yb, yw⟩ := hR k y hy
    have yL := cx_c_L yc
    refine lpc (fun f j (v : Nat) => m195_29 F rc f 26 (nI W.length) (nI k) (nI v) (nI j) (mkH (hs l s d tl) I J)) x.length (fun j v => (v = 1 ∧ y.length = x.length ∧ ∀ i, i < j → y[i]? = x[i]?) ∨ (v = 0 ∧ y ≠ x)) (fun r => (r = some (nI 1, (mkH (hs l s d tl) I J)) ∧ y = x) ∨ (r = rc 26 (nI W.length) (nI (k + 1)) (mkH (hs l s d tl) I J) ∧ y ≠ x)) ?_ ?_ F 0 v (by omega) (by omega) (hv.imp (fun h => ⟨h.1, h.2, fun j hj => by omega⟩) id)
    · intro f v hv
      show (m195_29 F rc (f + 1) _ _ _ _ _ _ = _ ∧ _) ∨ (m195_29 F rc (f + 1) _ _ _ _ _ _ = _ ∧ _)
      rw [m195_29, gi26_15, Option.bind_some, hr.2, if_pos (show mc2 .ge (nI x.length) (nI x.length) = true by rw [c_ge (by omega) (by omega)]; omega)]
      unfold m195_76
      rcases hv with ⟨rfl, h1, h2⟩ | ⟨rfl, h⟩
      · rw [if_neg (show ¬ mc1 .eq (nI 1) = true by decide)]
        refine Or.inl ⟨rfl, List.ext_getElem? (fun i => ?_)⟩
        by_cases hi : i < x.length
        · exact h2 i hi
        · rw [List.getElem?_eq_none (by omega), List.getElem?_eq_none (by omega)]
      · rw [if_pos (show mc1 .eq (nI 0) = true by decide), n_1, nI_add]
        exact Or.inr ⟨rfl, h⟩
    · intro f j v hj hv
      have m0 : m195_29 F rc (f + 1) 26 (nI W.length) (nI k) (nI v) (nI j) (mkH (hs l s d tl) I J) = if mc1 .eq (nI v) = true then m195_76 F rc 26 (nI W.length) (nI k) (nI v) (mkH (hs l s d tl) I J) else (rdI (mkH (hs l s d tl) I J) 44 (nI (20 * k + j))).bind fun x5 => (rdI (mkH (hs l s d tl) I J) 33 (nI j)).bind fun x7 => if mc2 .ne x5 x7 = true then m195_69 F rc (m195_29 F rc f) 26 (nI W.length) (nI k) (nI j) 0 (mkH (hs l s d tl) I J) else m195_69 F rc (m195_29 F rc f) 26 (nI W.length) (nI k) (nI j) 1 (mkH (hs l s d tl) I J) := by
        rw [m195_29, gi26_15, Option.bind_some, hr.2, if_neg (show ¬ mc2 .ge (nI j) (nI x.length) = true by rw [c_ge (by omega) (by omega)]; omega), gr26_29, Option.bind_some, n_20, pk_mul, nI_add, gr26_14]
        rfl
      rcases hv with ⟨rfl, h1, h2⟩ | ⟨rfl, h⟩
      · right
        obtain ⟨t, ht⟩ := ex_at (show j < y.length by omega)
        obtain ⟨r, hrr⟩ := ex_at hj
        have h33 : I 33 j = nI r := by
          have := hr.1 j r hrr
          rw [Nat.zero_add] at this
          exact this
        have htn := cx_L_at yL ht
        have hrn := cx_L_at hx hrr
        have m1 : m195_29 F rc (f + 1) 26 (nI W.length) (nI k) (nI 1) (nI j) (mkH (hs l s d tl) I J) = if nI t = nI r then m195_29 F rc f 26 (nI W.length) (nI k) (nI 1) (nI (j + 1)) (mkH (hs l s d tl) I J) else m195_29 F rc f 26 (nI W.length) (nI k) (nI 0) (nI (j + 1)) (mkH (hs l s d tl) I J) := by
          rw [m0, if_neg (show ¬ mc1 .eq (nI 1) = true by decide), rI44 (by omega), Option.bind_some, rI33 (by omega), Option.bind_some, yw j t ht, h33]
          unfold m195_69
          rw [n_1, nI_add]
          by_cases htr : nI t = nI r
          · rw [if_neg (by rw [g_ne]; exact fun h => h htr), if_pos htr]
          · rw [if_pos (by rw [g_ne]; exact htr), if_neg htr]
            rfl
        by_cases htr : nI t = nI r
        · refine ⟨1, ?_, Or.inl ⟨rfl, h1, fun i hi => ?_⟩⟩
          · show m195_29 F rc (f + 1) 26 (nI W.length) (nI k) (nI 1) (nI j) (mkH (hs l s d tl) I J) = _
            rw [m1, if_pos htr]
          · by_cases hij : i = j
            · subst hij
              rw [ht, hrr, (nI_eq (by omega) (by omega)).mp htr]
            · exact h2 i (by omega)
        · refine ⟨0, ?_, Or.inr ⟨rfl, fun e => htr ?_⟩⟩
          · show m195_29 F rc (f + 1) 26 (nI W.length) (nI k) (nI 1) (nI j) (mkH (hs l s d tl) I J) = _
            rw [m1, if_neg htr]
          · rw [e, hrr] at ht
            rw [Option.some.inj ht]
      · left
        right
        refine ⟨?_, h⟩
        show m195_29 F rc (f + 1) 26 (nI W.length) (nI k) (nI 0) (nI j) (mkH (hs l s d tl) I J) = _
        rw [m0, if_pos (show mc1 .eq (nI 0) = true by decide)]
        unfold m195_76
        rw [if_pos (show mc1 .eq (nI 0) = true by decide), n_1, nI_add]
  have e0 : e195 F 26 (nI W.length) (mkH (hs l s d tl) I J) = m195_2 F F 26 (nI W.length) (nI 0) (mkH (hs l s d tl) I J) := rfl
  rw [e0]
  refine lpc (σ := Unit) (R := Option (Int32 × List mE)) (fun f k _ => m195_2 F f 26 (nI W.length) (nI k) (mkH (hs l s d tl) I J)) W.length (fun k _ => ∀ i : Nat, i < k → W[i]? ≠ some x) (fun r => (r = some (nI 1, (mkH (hs l s d tl) I J)) ∧ ∃ i : Nat, W[i]? = some x) ∨ (r = some (nI 0, (mkH (hs l s d tl) I J)) ∧ ∀ i : Nat, W[i]? ≠ some x)) ?_ ?_ F 0 () (by omega) (by omega) (fun i hi => by omega)
  · intro f _ hno
    right
    refine ⟨?_, fun i hi => hno i (List.getElem?_eq_some_iff.mp hi).1 hi⟩
    show m195_2 F (f + 1) 26 (nI W.length) (nI W.length) (mkH (hs l s d tl) I J) = _
    rw [m195_2, if_pos (show mc2 .ge (nI W.length) (nI W.length) = true by rw [c_ge (by omega) (by omega)]; omega)]
    rfl
  · intro f k _ hk hno
    have hy := gd_ex hk
    generalize W.getD k [] = y at hy
    obtain ⟨yc, h20, yb, yw⟩ := hR k y hy
    have m0 : m195_2 F (f + 1) 26 (nI W.length) (nI k) (mkH (hs l s d tl) I J) = if y.length = x.length then m195_29 F (m195_2 F f) F 26 (nI W.length) (nI k) (nI 1) (nI 0) (mkH (hs l s d tl) I J) else m195_29 F (m195_2 F f) F 26 (nI W.length) (nI k) (nI 0) (nI 0) (mkH (hs l s d tl) I J) := by
      rw [m195_2, if_neg (show ¬ mc2 .ge (nI k) (nI W.length) = true by rw [c_ge (by omega) (by omega)]; omega), gr26_28, Option.bind_some, rI43 (by omega), Option.bind_some, yb, gi26_15, Option.bind_some, hr.2]
      unfold m195_25
      by_cases he : y.length = x.length
      · rw [if_neg (show ¬ mc2 .ne (nI y.length) (nI x.length) = true by rw [c_ne (by omega) (by omega)]; exact fun h => h he), if_pos he]
        rfl
      · rw [if_pos (show mc2 .ne (nI y.length) (nI x.length) = true by rw [c_ne (by omega) (by omega)]; exact he), if_neg he]
        rfl
    have cont : (∃ v : Nat, ((v = 1 ∧ y.length = x.length) ∨ (v = 0 ∧ y ≠ x)) ∧ m195_2 F (f + 1) 26 (nI W.length) (nI k) (mkH (hs l s d tl) I J) = m195_29 F (m195_2 F f) F 26 (nI W.length) (nI k) (nI v) (nI 0) (mkH (hs l s d tl) I J)) := by
      by_cases he : y.length = x.length
      · exact ⟨1, Or.inl ⟨rfl, he⟩, by rw [m0, if_pos he]⟩
      · exact ⟨0, Or.inr ⟨rfl, fun e => he (by rw [e])⟩, by rw [m0, if_neg he]⟩
    obtain ⟨v, hv, m1⟩ := cont
    rcases one (m195_2 F f) k y hy v hv with ⟨e1, hyx⟩ | ⟨e1, hyx⟩
    · left
      left
      exact ⟨m1.trans e1, k, by rw [hy, hyx]⟩
    · right
      refine ⟨(), m1.trans e1, fun i hi => ?_⟩
      by_cases hik : i = k
      · subst hik
        rw [hy]
        exact fun e => hyx (Option.some.inj e)
      · exact hno i (by omega)
def shf2 (I I' : hI) (J J' : hJ) : Prop := (∀ c, c ≠ 26 → c ≠ 33 → c ≠ 43 → c ≠ 44 → I' c = I c) ∧ (∀ f, f ≠ 15 → I' 26 f = I 26 f) ∧ ∀ c, c ≠ 32 → J' c = J c
theorem shf2_rf (I : hI) (J : hJ) : shf2 I I J J := ⟨fun _ _ _ _ _ => rfl, fun _ _ => rfl, fun _ _ => rfl⟩
theorem shf2_tr {I I' I'' : hI} {J J' J'' : hJ} (h : shf2 I I' J J') (h' : shf2 I' I'' J' J'') : shf2 I I'' J J'' := ⟨fun c a1 a2 a3 a4 => (h'.1 c a1 a2 a3 a4).trans (h.1 c a1 a2 a3 a4), fun f hf => (h'.2.1 f hf).trans (h.2.1 f hf), fun c hc => (h'.2.2 c hc).trans (h.2.2 c hc)⟩
theorem shf2_of {I' : hI} {J' : hJ} (h : rf I I') (h' : ∀ c, c ≠ 32 → J' c = J c) : shf2 I I' J J' := ⟨fun c a1 a2 _ _ => h.1 c a1 a2, h.2, h'⟩
/-- putShift -/
theorem psh_e (hF : 9000 ≤ F) (hR : shR n A W I) (h300 : W.length ≤ 300) {x : List Nat} (hx : cx_c n A x) (hr : rw0 x I) (h20 : x.length ≤ 20) : ∃ I', e196 F 26 (nI W.length) (mkH (hs l s d tl) I J) = some ((), (mkH (hs l s d tl) I' J)) ∧ shR n A (W ++ [x]) I' ∧ shf2 I I' J J := by
  have e0 : e196 F 26 (nI W.length) (mkH (hs l s d tl) I J) = m196_12 F F 26 (nI W.length) (nI 0) (mkH (hs l s d tl) (upI I 43 W.length (nI x.length)) J) := by
    show m196_0 F 26 _ _ = _
    unfold m196_0
    rw [gr26_28, Option.bind_some, gi26_15, Option.bind_some, hr.2, wI43 (by omega), Option.bind_some]
    rfl
  rw [e0]
  refine lpc (σ := hI) (R := Option (Unit × List mE)) (fun f j K => m196_12 F f 26 (nI W.length) (nI j) (mkH (hs l s d tl) K J)) x.length (fun j K => (∀ i, i < j → ∀ t, x[i]? = some t → K 44 (20 * W.length + i) = nI t) ∧ (∀ q, q < 20 * W.length → K 44 q = I 44 q) ∧ ∀ c, c ≠ 44 → K c = upI I 43 W.length (nI x.length) c) (fun r => ∃ I', r = some ((), (mkH (hs l s d tl) I' J)) ∧ shR n A (W ++ [x]) I' ∧ shf2 I I' J J) ?_ ?_ F 0 _ (by omega) (by omega) ⟨fun i hi => by omega, fun q _ => by rw [upI_ne (by decide)], fun _ _ => rfl⟩
  · rintro f K ⟨k1, k2, k3⟩
    have k15 : K 26 15 = nI x.length := by rw [k3 26 (by decide), upI_ne (by decide), hr.2]
    refine ⟨K, ?_, fun i u hu => ?_, fun c a1 a2 a3 a4 => by rw [k3 c a4, upI_ne a3], fun f hf => by rw [k3 26 (by decide), upI_ne (by decide)], fun _ _ => rfl⟩
    · show m196_12 F (f + 1) 26 (nI W.length) (nI x.length) (mkH (hs l s d tl) K J) = _
      rw [m196_12, gi26_15, Option.bind_some, k15, if_pos (show mc2 .ge (nI x.length) (nI x.length) = true by rw [c_ge (by omega) (by omega)]; omega)]
    · rcases ap_c hu with hu1 | ⟨rfl, rfl⟩
      · have hil := (List.getElem?_eq_some_iff.mp hu1).1
        obtain ⟨c1, c2, c3, c4⟩ := hR i u hu1
        refine ⟨c1, c2, ?_, fun j t ht => ?_⟩
        · rw [k3 43 (by decide), upI_at, if_neg (by omega)]
          exact c3
        · have := (List.getElem?_eq_some_iff.mp ht).1
          rw [k2 _ (by omega)]
          exact c4 j t ht
      · refine ⟨hx, h20, ?_, fun j t ht => k1 j (List.getElem?_eq_some_iff.mp ht).1 t ht⟩
        rw [k3 43 (by decide), upI_at, if_pos rfl]
  · rintro f j K hj ⟨k1, k2, k3⟩
    right
    have k15 : K 26 15 = nI x.length := by rw [k3 26 (by decide), upI_ne (by decide), hr.2]
    obtain ⟨t, ht⟩ := ex_at hj
    have h33 : K 33 j = nI t := by
      have := hr.1 j t ht
      rw [Nat.zero_add] at this
      rw [k3 33 (by decide), upI_ne (by decide)]
      exact this
    refine ⟨upI K 44 (20 * W.length + j) (nI t), ?_, fun i hi t' ht' => ?_, fun q hq => ?_, fun c hc => by rw [upI_ne hc]; exact k3 c hc⟩
    · show m196_12 F (f + 1) 26 (nI W.length) (nI j) (mkH (hs l s d tl) K J) = _
      rw [m196_12, gi26_15, Option.bind_some, k15, if_neg (show ¬ mc2 .ge (nI j) (nI x.length) = true by rw [c_ge (by omega) (by omega)]; omega), gr26_29, Option.bind_some, gr26_14, Option.bind_some, rI33 (by omega), Option.bind_some, h33, n_20, pk_mul, nI_add, wI44 (by omega), Option.bind_some, n_1, nI_add]
    · rw [upI_at]
      by_cases hij : i = j
      · subst hij
        rw [if_pos rfl]
        rw [ht] at ht'
        rw [Option.some.inj ht']
      · rw [if_neg (by omega)]
        exact k1 i (by omega) t' ht'
    · rw [upI_at, if_neg (by omega)]
      exact k2 q hq
end S
