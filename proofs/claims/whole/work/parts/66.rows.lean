/-! The reference: rows of letters, elements are kept. -/
theorem bw_g {F : Nat} (v a b : Int64) (hp : List mE) : (e137 F v a b hp = some (nI 1, hp) ∧ a.toInt ≤ v.toInt ∧ v.toInt ≤ b.toInt) ∨ (e137 F v a b hp = some (nI 0, hp) ∧ ¬ (a.toInt ≤ v.toInt ∧ v.toInt ≤ b.toInt)) := by
  show (m137_0 F v a b hp = _ ∧ _) ∨ (m137_0 F v a b hp = _ ∧ _)
  unfold m137_0 m137_17 m137_18
  simp only [k_lt, k_gt, Int64.lt_iff_toInt_lt]
  by_cases h1 : v.toInt < a.toInt
  · right
    rw [if_pos h1]
    exact ⟨rfl, by omega⟩
  · rw [if_neg h1]
    by_cases h2 : b.toInt < v.toInt
    · right
      rw [if_pos h2]
      exact ⟨rfl, by omega⟩
    · left
      rw [if_neg h2]
      exact ⟨rfl, by omega⟩
/-- in (x, 0, m - 1) -/
theorem bw_n {F : Nat} (x : Int32) {m : Nat} (hm : m < 2 ^ 30) (hp : List mE) : (∃ j, j < m ∧ x = nI j ∧ e137 F x.toInt64 0 ((nI m - nI 1).toInt64) hp = some (nI 1, hp)) ∨ ((∀ j, j < m → x ≠ nI j) ∧ e137 F x.toInt64 0 ((nI m - nI 1).toInt64) hp = some (nI 0, hp)) := by
  have e0 : (0 : Int64).toInt = 0 := rfl
  have e1 : ((nI m - nI 1).toInt64).toInt = (m : Int) - 1 := by
    rw [Int32.toInt_toInt64, pk_sub_toInt hm (by omega)]
    rfl
  have e2 : x.toInt64.toInt = x.toInt := Int32.toInt_toInt64 x
  rcases bw_g (F := F) x.toInt64 0 ((nI m - nI 1).toInt64) hp with ⟨h1, h2, h3⟩ | ⟨h1, h2⟩
  · left
    rw [e0, e2] at h2
    rw [e1, e2] at h3
    refine ⟨x.toInt.toNat, by omega, ?_, h1⟩
    rw [← Int32.toInt_inj, nI_toInt (by omega)]
    omega
  · right
    refine ⟨fun j hj e => h2 ?_, h1⟩
    rw [e0, e1, e2, e, nI_toInt (by omega)]
    omega
def km (n : Nat) (A : Nat → Nat → Int) (els : List (List Nat)) (I : hI) : Prop := 1 ≤ els.length ∧ els.length ≤ 40 ∧ els[0]? = some [] ∧ I 26 16 = nI els.length ∧ ∀ w y, els[w]? = some y → cx_c n A y ∧ y.length ≤ 20 ∧ I 34 w = nI y.length ∧ wd (I 35) (20 * w) y
/-- the row has a word -/
def rw0 (x : List Nat) (I : hI) : Prop := wd (I 33) 0 x ∧ I 26 15 = nI x.length
/-- what is written when the row is -/
def rf (I I' : hI) : Prop := (∀ c, c ≠ 26 → c ≠ 33 → I' c = I c) ∧ ∀ f, f ≠ 15 → I' 26 f = I 26 f
theorem rf_rf (I : hI) : rf I I := ⟨fun _ _ _ => rfl, fun _ _ => rfl⟩
theorem rf_tr {I I' I'' : hI} (h : rf I I') (h' : rf I' I'') : rf I I'' := ⟨fun c c1 c2 => (h'.1 c c1 c2).trans (h.1 c c1 c2), fun f hf => (h'.2 f hf).trans (h.2 f hf)⟩
section S
variable {l s d : Value} {tl : List hQ} {F : Nat} {I : hI} {J : hJ} {n a b o p N M : Nat} {A : Nat → Nat → Int} {els : List (List Nat)}
theorem mo_rf {I' : hI} (h : mo_n n A I) (hr : rf I I') : mo_n n A I' := mo_fr h (hr.2 0 (by decide)) (hr.1 28 (by decide) (by decide))
theorem km_fr {I' : hI} (h : km n A els I) (h1 : I' 26 16 = I 26 16) (h3 : I' 34 = I 34) (h4 : I' 35 = I 35) : km n A els I' := by
  unfold km at *
  rw [h1, h3, h4]
  exact h
theorem km_rf {I' : hI} (h : km n A els I) (hr : rf I I') : km n A els I' := km_fr h (hr.2 16 (by decide)) (hr.1 34 (by decide) (by decide)) (hr.1 35 (by decide) (by decide))
theorem km_c (hk : km n A els I) {w : Nat} {y : List Nat} (h : els[w]? = some y) : cx_c n A y ∧ cx_L n y ∧ cx_l n A y = y.length ∧ y.length ≤ 20 ∧ w < 40 ∧ I 34 w = nI y.length ∧ wd (I 35) (20 * w) y := by
  have h1 := hk.2.2.2.2 w y h
  have h2 := (List.getElem?_eq_some_iff.mp h).1
  have h3 := hk.2.1
  exact ⟨h1.1, cx_c_L h1.1, cx_c_l h1.1, h1.2.1, by omega, h1.2.2.1, h1.2.2.2⟩
/-- isElement -/
theorem ie_e (hk : km n A els I) (x : Int32) : (∃ j y, els[j]? = some y ∧ x = nI j ∧ e160 F 26 x (mkH (hs l s d tl) I J) = some (nI 1, (mkH (hs l s d tl) I J))) ∨ ((∀ j, j < els.length → x ≠ nI j) ∧ e160 F 26 x (mkH (hs l s d tl) I J) = some (nI 0, (mkH (hs l s d tl) I J))) := by
  have h40 := hk.2.1
  have e : ∀ v, e137 F x.toInt64 0 ((nI els.length - nI 1).toInt64) (mkH (hs l s d tl) I J) = some (nI v, (mkH (hs l s d tl) I J)) → (nI v = 0 ∨ nI v = 1) → e160 F 26 x (mkH (hs l s d tl) I J) = some (nI v, (mkH (hs l s d tl) I J)) := by
    intro v h hv
    show m160_0 F 26 x _ = _
    unfold m160_0
    simp only [rc26, gi26_0, pi26_0, gr26_1, gr26_2, gr26_3, gr26_4, gi26_5, pi26_5, gi26_6, pi26_6, gi26_7, pi26_7, gl26_8, pl26_8, gi26_9, pi26_9, gi26_10, pi26_10, gr26_11, gi26_12, pi26_12, gr26_13, gr26_14, gi26_15, pi26_15, gi26_16, pi26_16, gr26_17, gr26_18, gi26_19, pi26_19, gr26_20, gr26_21, gr26_22, gr26_23, gr26_24, gr26_25, gr26_26, gi26_27, pi26_27, gr26_28, gr26_29, gi26_30, pi26_30, gi26_31, pi26_31, gr26_32, gr26_33, gr26_34, gr26_35, gr26_36, gr26_37, gr26_38, gr26_39, gr26_40, Option.bind_some, hk.2.2.2.1]
    have h' : e137 F x.toInt64 0 ((nI els.length - 1).toInt64) (mkH (hs l s d tl) I J) = some (nI v, (mkH (hs l s d tl) I J)) := h
    rw [h', Option.bind_some]
    exact if_pos hv
  rcases bw_n (F := F) x (show els.length < 2 ^ 30 by omega) (mkH (hs l s d tl) I J) with ⟨j, h1, h2, h3⟩ | ⟨h1, h2⟩
  · left
    obtain ⟨y, hy⟩ : ∃ y, els[j]? = some y := ⟨els[j], List.getElem?_eq_getElem h1⟩
    exact ⟨j, y, hy, h2, e 1 h3 (Or.inr rfl)⟩
  · exact Or.inr ⟨h1, e 0 h2 (Or.inl rfl)⟩
/-- isMirror -/
theorem im_m (hM : mo_n n A I) (x : Int32) : (∃ j, j < n ∧ x = nI j ∧ e150 F 26 x (mkH (hs l s d tl) I J) = some (nI 1, (mkH (hs l s d tl) I J))) ∨ ((∀ j, j < n → x ≠ nI j) ∧ e150 F 26 x (mkH (hs l s d tl) I J) = some (nI 0, (mkH (hs l s d tl) I J))) := by
  have hn := hM.2.2.1
  have e : ∀ v, e137 F x.toInt64 0 ((nI n - nI 1).toInt64) (mkH (hs l s d tl) I J) = some (nI v, (mkH (hs l s d tl) I J)) → (nI v = 0 ∨ nI v = 1) → e150 F 26 x (mkH (hs l s d tl) I J) = some (nI v, (mkH (hs l s d tl) I J)) := by
    intro v h hv
    show m150_0 F 26 x _ = _
    unfold m150_0
    simp only [rc26, gi26_0, pi26_0, gr26_1, gr26_2, gr26_3, gr26_4, gi26_5, pi26_5, gi26_6, pi26_6, gi26_7, pi26_7, gl26_8, pl26_8, gi26_9, pi26_9, gi26_10, pi26_10, gr26_11, gi26_12, pi26_12, gr26_13, gr26_14, gi26_15, pi26_15, gi26_16, pi26_16, gr26_17, gr26_18, gi26_19, pi26_19, gr26_20, gr26_21, gr26_22, gr26_23, gr26_24, gr26_25, gr26_26, gi26_27, pi26_27, gr26_28, gr26_29, gi26_30, pi26_30, gi26_31, pi26_31, gr26_32, gr26_33, gr26_34, gr26_35, gr26_36, gr26_37, gr26_38, gr26_39, gr26_40, Option.bind_some, hM.2.2.2.1]
    have h' : e137 F x.toInt64 0 ((nI n - 1).toInt64) (mkH (hs l s d tl) I J) = some (nI v, (mkH (hs l s d tl) I J)) := h
    rw [h', Option.bind_some]
    exact if_pos hv
  rcases bw_n (F := F) x (show n < 2 ^ 30 by omega) (mkH (hs l s d tl) I J) with ⟨j, h1, h2, h3⟩ | ⟨h1, h2⟩
  · exact Or.inl ⟨j, h1, h2, e 1 h3 (Or.inr rfl)⟩
  · exact Or.inr ⟨h1, e 0 h2 (Or.inl rfl)⟩
/-- shorten -/
theorem sho_e (hM : mo_n n A I) (hF : 200 ≤ F) {x y : List Nat} (hx : cx_L n x) (hx64 : x.length ≤ 64) (hl : cx_l n A x ≤ 31) (hr : rw0 x I) (hy : cx_c n A y) (hg : cx_g n A y = cx_g n A x) :
    Tr (hs l s d tl) (e159 F 26 (mkH (hs l s d tl) I J)) (fun _ I' J' => rw0 y I' ∧ rf I I' ∧ ∀ c, c ≠ 32 → J' c = J c) := by
  have hok := hM.1
  have hn5 := hM.2.2.1
  have hxr := cx_L_rev hx
  obtain ⟨z, hz⟩ := tk_ex hok (fun _ => True) _ hxr rfl
  have hzy : z = y := by
    have := tk_c hok hxr hz
    rw [List.reverse_reverse] at this
    exact cx_c_un hok this.1 hy (this.2.trans hg.symm)
  subst hzy
  have hzL := cx_c_L hy
  have hzl : z.length ≤ 31 := by
    have h1 := cx_c_l hy
    have h2 := cx_l_eq hg
    omega
  have hlen := tk_len hok hxr hz
  rw [cx_l_rev hok hx] at hlen
  show Tr _ (m159_0 F 26 _) _
  unfold m159_0
  simp (disch := omega) only [rc26, gi26_0, pi26_0, gr26_1, gr26_2, gr26_3, gr26_4, gi26_5, pi26_5, gi26_6, pi26_6, gi26_7, pi26_7, gl26_8, pl26_8, gi26_9, pi26_9, gi26_10, pi26_10, gr26_11, gi26_12, pi26_12, gr26_13, gr26_14, gi26_15, pi26_15, gi26_16, pi26_16, gr26_17, gr26_18, gi26_19, pi26_19, gr26_20, gr26_21, gr26_22, gr26_23, gr26_24, gr26_25, gr26_26, gi26_27, pi26_27, gr26_28, gr26_29, gi26_30, pi26_30, gi26_31, pi26_31, gr26_32, gr26_33, gr26_34, gr26_35, gr26_36, gr26_37, gr26_38, gr26_39, gr26_40, Option.bind_some, n_0, n_1, n_2, n_3, n_4, n_5, n_6, n_8, n_9, n_10, n_12, n_20, n_25, n_27, n_30, n_31, n_32, n_40, n_48, n_57, n_59, n_63, n_96, n_97, n_120, n_122, n_255, n_256, n_300, n_301, n_512, n_1000, n_1001, n_1002, n_1003, n_1004, n_1005, n_2000, n_2304, n_4096, nI_add, pk_mul, n_m, c_ge, c_gt, c_lt, c_le, c_eq, c_ne, d_lt, d_ge, d_ne, d_eq, d_gt, d_le, m_ltk, m_gek, m_eq, m_ne, bg_e (by omega : 30 ≤ F), hr.2]
  refine lpd (fun f c (K : hJ) => m159_11 F f 26 (nI c - nI 1) (mkH (hs l s d tl) I K)) (fun c K => c ≤ x.length ∧ sq n A (x.drop c).reverse (K 32) 0 ∧ ∀ e, e ≠ 32 → K e = J e) (fun r => Tr (hs l s d tl) r _) ?_ ?_ F x.length (rwJ J 32 0 25 (fun q => zJ (if q / 5 = q % 5 then 1 else 0))) (by omega) ⟨Nat.le_refl _, by rw [List.drop_length]; exact sq_nil, fun e he => rwJ_ne he⟩
  · rintro f K ⟨-, h1, h2⟩
    rw [List.drop_zero] at h1
    show Tr _ (m159_11 F (f + 1) _ _ _) _
    rw [m159_11]
    simp (disch := omega) only [z_m1, m_ltk, if_true, rc26, gi26_0, pi26_0, gr26_1, gr26_2, gr26_3, gr26_4, gi26_5, pi26_5, gi26_6, pi26_6, gi26_7, pi26_7, gl26_8, pl26_8, gi26_9, pi26_9, gi26_10, pi26_10, gr26_11, gi26_12, pi26_12, gr26_13, gr26_14, gi26_15, pi26_15, gi26_16, pi26_16, gr26_17, gr26_18, gi26_19, pi26_19, gr26_20, gr26_21, gr26_22, gr26_23, gr26_24, gr26_25, gr26_26, gi26_27, pi26_27, gr26_28, gr26_29, gi26_30, pi26_30, gi26_31, pi26_31, gr26_32, gr26_33, gr26_34, gr26_35, gr26_36, gr26_37, gr26_38, gr26_39, gr26_40, Option.bind_some, n_0]
    have hM0 : mo_n n A (upI I 26 15 (nI 0)) := mo_fr hM (by rw [upI_at, if_neg (by decide)]) (upI_ne (by decide))
    obtain ⟨v, e1, e2⟩ := ld_e (l := l) (s := s) (d := d) (tl := tl) (F := F) (J := K) hM0 (by omega) hxr (by rw [cx_l_rev hok hx]; omega) h1
    rw [e1]
    simp only [Option.bind_some]
    refine lpm (fun f (q : hI × hJ × List Nat × Int32) => m159_41 F f 26 q.2.2.2 (mkH (hs l s d tl) q.1 q.2.1)) (fun q => z.length - q.2.2.1.length) (fun q => (∃ z2, z = q.2.2.1 ++ z2) ∧ sq n A (x.reverse ++ q.2.2.1) (q.2.1 32) 0 ∧ rw0 q.2.2.1 q.1 ∧ rf I q.1 ∧ (∀ c, c ≠ 32 → q.2.1 c = J c) ∧ lst n (fun j => dn n A (x.reverse ++ q.2.2.1) j) q.2.2.2) (fun r => Tr (hs l s d tl) r _) ?_ F (upI I 26 15 (nI 0), K, [], v) ⟨⟨z, rfl⟩, by rw [List.append_nil]; exact h1, ⟨wd_nil, by dsimp only; rw [upI_at, if_pos rfl]; rfl⟩, ⟨fun c c1 c2 => by dsimp only; exact upI_ne c1, fun f hf => by dsimp only; rw [upI_at, if_neg hf]⟩, h2, by rw [List.append_nil]; exact e2⟩ (by dsimp only; omega)
    rintro f ⟨I1, J1, z1, v1⟩ ⟨⟨z2, a1⟩, a2, a3, a4, a5, a6⟩
    dsimp only at a1 a2 a3 a4 a5 a6
    have hL1 : cx_L n (x.reverse ++ z1) := cx_L_app hxr (cx_L_l (a1 ▸ hzL))
    have ht : tk n A (fun _ => True) (x.reverse ++ z1) z2 := tk_app (a1 ▸ hz)
    have hl1 : cx_l n A (x.reverse ++ z1) ≤ 31 := by
      have b1 := tk_len hok hL1 ht
      rw [List.append_assoc, ← a1] at b1
      have b2 := congrArg List.length a1
      rw [List.length_append] at b2
      omega
    have hM1 := mo_rf hM a4
    have hcase := lst_tk (p := fun _ => True) (fun j hj => ⟨fun h => ⟨trivial, h⟩, fun h => h.2⟩) a6 ht
    show Tr _ (m159_41 F (f + 1) _ _ _) _ ∨ ∃ y : hI × hJ × List Nat × Int32, m159_41 F (f + 1) _ _ _ = _ ∧ _
    rw [m159_41]
    rcases hcase with ⟨b1, b2⟩ | ⟨t, z3, b1, b2, b3⟩
    · left
      rw [b2]
      simp (disch := omega) only [m_ltk, if_true]
      rw [b1, List.append_nil] at a1
      subst a1
      exact Tr_ret ⟨a3, a4, a5⟩
    · right
      have hz1 : z1.length < z.length := by
        rw [a1, b1, List.length_append, List.length_cons]
        omega
      have h15 : upI I1 33 z1.length (nI t) 26 15 = nI z1.length := by rw [upI_ne (by decide), a3.2]
      rw [b3]
      simp (disch := omega) only [n_0, n_1, n_2, n_3, n_4, n_5, n_6, n_8, n_9, n_10, n_12, n_20, n_25, n_27, n_30, n_31, n_32, n_40, n_48, n_57, n_59, n_63, n_96, n_97, n_120, n_122, n_255, n_256, n_300, n_301, n_512, n_1000, n_1001, n_1002, n_1003, n_1004, n_1005, n_2000, n_2304, n_4096, nI_add, pk_mul, n_m, c_ge, c_gt, c_lt, c_le, c_eq, c_ne, d_lt, d_ge, d_ne, d_eq, d_gt, d_le, m_ltk, m_gek, m_eq, m_ne, if_false, rc26, gi26_0, pi26_0, gr26_1, gr26_2, gr26_3, gr26_4, gi26_5, pi26_5, gi26_6, pi26_6, gi26_7, pi26_7, gl26_8, pl26_8, gi26_9, pi26_9, gi26_10, pi26_10, gr26_11, gi26_12, pi26_12, gr26_13, gr26_14, gi26_15, pi26_15, gi26_16, pi26_16, gr26_17, gr26_18, gi26_19, pi26_19, gr26_20, gr26_21, gr26_22, gr26_23, gr26_24, gr26_25, gr26_26, gi26_27, pi26_27, gr26_28, gr26_29, gi26_30, pi26_30, gi26_31, pi26_31, gr26_32, gr26_33, gr26_34, gr26_35, gr26_36, gr26_37, gr26_38, gr26_39, gr26_40, Option.bind_some, a3.2, rI33, wI33, h15]
      have hM2 : mo_n n A (upI (upI I1 33 z1.length (nI t)) 26 15 (nI (z1.length + 1))) := mo_fr hM1 (by rw [upI_at, if_neg (by decide), upI_ne (by decide)]) (by rw [upI_ne (by decide), upI_ne (by decide)])
      obtain ⟨J2, c1, c2, c3⟩ := th_e (l := l) (s := s) (d := d) (tl := tl) (F := F) (J := J1) hM2 (by omega) b2 hL1 a2
      rw [c1]
      simp only [rc26, gi26_0, pi26_0, gr26_1, gr26_2, gr26_3, gr26_4, gi26_5, pi26_5, gi26_6, pi26_6, gi26_7, pi26_7, gl26_8, pl26_8, gi26_9, pi26_9, gi26_10, pi26_10, gr26_11, gi26_12, pi26_12, gr26_13, gr26_14, gi26_15, pi26_15, gi26_16, pi26_16, gr26_17, gr26_18, gi26_19, pi26_19, gr26_20, gr26_21, gr26_22, gr26_23, gr26_24, gr26_25, gr26_26, gi26_27, pi26_27, gr26_28, gr26_29, gi26_30, pi26_30, gi26_31, pi26_31, gr26_32, gr26_33, gr26_34, gr26_35, gr26_36, gr26_37, gr26_38, gr26_39, gr26_40, Option.bind_some]
      have hL2 := cx_L_app hL1 (cx_L_1 b2)
      have hl2 : cx_l n A (x.reverse ++ z1 ++ [t]) ≤ 31 := by
        have := dn_1 hok hL1 b2 (by have := ht; rw [b1] at this; exact this.1.2.2.1)
        omega
      obtain ⟨v2, d1, d2⟩ := ld_e (l := l) (s := s) (d := d) (tl := tl) (F := F) (J := J2) hM2 (by omega) hL2 hl2 c2
      rw [d1]
      simp only [Option.bind_some, Prod.exists]
      refine ⟨_, _, z1 ++ [t], _, rfl, ⟨⟨z3, by rw [a1, b1, List.append_assoc]; rfl⟩, by rw [← List.append_assoc]; exact c2, ⟨?_, ?_⟩, ⟨fun c k1 k2 => ?_, fun g hg => ?_⟩, fun c hc => (c3 c hc).trans (a5 c hc), by rw [← List.append_assoc]; exact d2⟩, by simp; omega⟩
      · rw [upI_ne (by decide)]
        have := wd_snoc (c := t) a3.1
        rw [Nat.zero_add] at this
        exact this
      · rw [upI_at, if_pos rfl, List.length_append]
        rfl
      · rw [upI_ne k1, upI_ne k2]
        exact a4.1 c k1 k2
      · rw [upI_at, if_neg hg, upI_ne (by decide)]
        exact a4.2 g hg
  · rintro f c K ⟨h0, h1, h2⟩
    right
    obtain ⟨t, ht⟩ := ex_at (show c < x.length by omega)
    have htn := cx_L_at hx ht
    have hbt : I 33 c = nI t := by
      have := hr.1 c t ht
      rw [Nat.zero_add] at this
      exact this
    obtain ⟨J2, c1, c2, c3⟩ := th_e (l := l) (s := s) (d := d) (tl := tl) (F := F) (J := K) hM (by omega) htn (cx_L_rev (drop_L hx (c + 1))) h1
    show ∃ y, m159_11 F (f + 1) _ _ _ = _ ∧ _
    rw [m159_11]
    simp (disch := omega) only [pk_sub1, n_0, n_1, n_2, n_3, n_4, n_5, n_6, n_8, n_9, n_10, n_12, n_20, n_25, n_27, n_30, n_31, n_32, n_40, n_48, n_57, n_59, n_63, n_96, n_97, n_120, n_122, n_255, n_256, n_300, n_301, n_512, n_1000, n_1001, n_1002, n_1003, n_1004, n_1005, n_2000, n_2304, n_4096, nI_add, pk_mul, n_m, c_ge, c_gt, c_lt, c_le, c_eq, c_ne, d_lt, d_ge, d_ne, d_eq, d_gt, d_le, m_ltk, m_gek, m_eq, m_ne, rc26, gi26_0, pi26_0, gr26_1, gr26_2, gr26_3, gr26_4, gi26_5, pi26_5, gi26_6, pi26_6, gi26_7, pi26_7, gl26_8, pl26_8, gi26_9, pi26_9, gi26_10, pi26_10, gr26_11, gi26_12, pi26_12, gr26_13, gr26_14, gi26_15, pi26_15, gi26_16, pi26_16, gr26_17, gr26_18, gi26_19, pi26_19, gr26_20, gr26_21, gr26_22, gr26_23, gr26_24, gr26_25, gr26_26, gi26_27, pi26_27, gr26_28, gr26_29, gi26_30, pi26_30, gi26_31, pi26_31, gr26_32, gr26_33, gr26_34, gr26_35, gr26_36, gr26_37, gr26_38, gr26_39, gr26_40, Option.bind_some, if_false, rI33, wI33, hbt, c1, p_m1]
    refine ⟨_, rfl, by omega, ?_, fun e he => (c3 e he).trans (h2 e he)⟩
    rw [drop_c ht, List.reverse_cons]
    exact c2
/-- put -/
theorem pu_e {x : List Nat} (hr : rw0 x I) (h64 : x.length < 64) (t : Nat) : ∃ I', e164 F 26 (nI t) (mkH (hs l s d tl) I J) = some ((), (mkH (hs l s d tl) I' J)) ∧ rw0 (x ++ [t]) I' ∧ rf I I' := by
  refine ⟨upI (upI I 33 x.length (nI t)) 26 15 (nI (x.length + 1)), ?_, ⟨?_, ?_⟩, ⟨fun c k1 k2 => ?_, fun g hg => ?_⟩⟩
  · have h15 : upI I 33 x.length (nI t) 26 15 = nI x.length := by rw [upI_ne (by decide), hr.2]
    show m164_0 F 26 _ _ = _
    unfold m164_0
    simp (disch := omega) only [rc26, gi26_0, pi26_0, gr26_1, gr26_2, gr26_3, gr26_4, gi26_5, pi26_5, gi26_6, pi26_6, gi26_7, pi26_7, gl26_8, pl26_8, gi26_9, pi26_9, gi26_10, pi26_10, gr26_11, gi26_12, pi26_12, gr26_13, gr26_14, gi26_15, pi26_15, gi26_16, pi26_16, gr26_17, gr26_18, gi26_19, pi26_19, gr26_20, gr26_21, gr26_22, gr26_23, gr26_24, gr26_25, gr26_26, gi26_27, pi26_27, gr26_28, gr26_29, gi26_30, pi26_30, gi26_31, pi26_31, gr26_32, gr26_33, gr26_34, gr26_35, gr26_36, gr26_37, gr26_38, gr26_39, gr26_40, Option.bind_some, rI33, wI33, hr.2, h15, n_0, n_1, n_2, n_3, n_4, n_5, n_6, n_8, n_9, n_10, n_12, n_20, n_25, n_27, n_30, n_31, n_32, n_40, n_48, n_57, n_59, n_63, n_96, n_97, n_120, n_122, n_255, n_256, n_300, n_301, n_512, n_1000, n_1001, n_1002, n_1003, n_1004, n_1005, n_2000, n_2304, n_4096, nI_add, pk_mul, n_m, c_ge, c_gt, c_lt, c_le, c_eq, c_ne, d_lt, d_ge, d_ne, d_eq, d_gt, d_le, m_ltk, m_gek, m_eq, m_ne]
  · rw [upI_ne (by decide)]
    have := wd_snoc (c := t) hr.1
    rw [Nat.zero_add] at this
    exact this
  · rw [upI_at, if_pos rfl, List.length_append]
    rfl
  · rw [upI_ne k1, upI_ne k2]
  · rw [upI_at, if_neg hg, upI_ne (by decide)]
/-- putAll -/
theorem pa_e (hk : km n A els I) (hF : 100 ≤ F) {x y : List Nat} {w : Nat} (hw : els[w]? = some y) (hr : rw0 x I) (h64 : x.length + y.length ≤ 64) : ∃ I', e165 F 26 (nI w) (mkH (hs l s d tl) I J) = some ((), (mkH (hs l s d tl) I' J)) ∧ rw0 (x ++ y) I' ∧ rf I I' := by
  have h20 := (km_c hk hw).2.2.2.1
  have h40 := (km_c hk hw).2.2.2.2.1
  refine lpc (fun f k (I1 : hI) => m165_2 F f 26 (nI w) (nI k) (mkH (hs l s d tl) I1 J)) y.length (fun k I1 => rw0 (x ++ y.take k) I1 ∧ rf I I1) (fun r => ∃ I', r = some ((), (mkH (hs l s d tl) I' J)) ∧ rw0 (x ++ y) I' ∧ rf I I') ?_ ?_ F 0 I (by omega) (by omega) ⟨by rw [List.take_zero, List.append_nil]; exact hr, rf_rf I⟩
  · rintro f I1 ⟨h1, h2⟩
    obtain ⟨yc, yL, yl, -, -, yb, yw⟩ := km_c (km_rf hk h2) hw
    show ∃ I', m165_2 F (f + 1) _ _ _ _ = _ ∧ _
    rw [m165_2]
    simp (disch := omega) only [rc26, gi26_0, pi26_0, gr26_1, gr26_2, gr26_3, gr26_4, gi26_5, pi26_5, gi26_6, pi26_6, gi26_7, pi26_7, gl26_8, pl26_8, gi26_9, pi26_9, gi26_10, pi26_10, gr26_11, gi26_12, pi26_12, gr26_13, gr26_14, gi26_15, pi26_15, gi26_16, pi26_16, gr26_17, gr26_18, gi26_19, pi26_19, gr26_20, gr26_21, gr26_22, gr26_23, gr26_24, gr26_25, gr26_26, gi26_27, pi26_27, gr26_28, gr26_29, gi26_30, pi26_30, gi26_31, pi26_31, gr26_32, gr26_33, gr26_34, gr26_35, gr26_36, gr26_37, gr26_38, gr26_39, gr26_40, Option.bind_some, rI34, wI34, yb, n_0, n_1, n_2, n_3, n_4, n_5, n_6, n_8, n_9, n_10, n_12, n_20, n_25, n_27, n_30, n_31, n_32, n_40, n_48, n_57, n_59, n_63, n_96, n_97, n_120, n_122, n_255, n_256, n_300, n_301, n_512, n_1000, n_1001, n_1002, n_1003, n_1004, n_1005, n_2000, n_2304, n_4096, nI_add, pk_mul, n_m, c_ge, c_gt, c_lt, c_le, c_eq, c_ne, d_lt, d_ge, d_ne, d_eq, d_gt, d_le, m_ltk, m_gek, m_eq, m_ne]
    rw [if_pos (by omega)]
    rw [List.take_length] at h1
    exact ⟨_, rfl, h1, h2⟩
  · rintro f k I1 hky ⟨h1, h2⟩
    right
    obtain ⟨yc, yL, yl, -, -, yb, yw⟩ := km_c (km_rf hk h2) hw
    obtain ⟨t, ht⟩ := ex_at hky
    obtain ⟨I2, c1, c2, c3⟩ := pu_e (l := l) (s := s) (d := d) (tl := tl) (F := F) (J := J) h1 (by rw [List.length_append, List.length_take]; omega) t
    show ∃ y, m165_2 F (f + 1) _ _ _ _ = _ ∧ _
    rw [m165_2]
    simp (disch := omega) only [rc26, gi26_0, pi26_0, gr26_1, gr26_2, gr26_3, gr26_4, gi26_5, pi26_5, gi26_6, pi26_6, gi26_7, pi26_7, gl26_8, pl26_8, gi26_9, pi26_9, gi26_10, pi26_10, gr26_11, gi26_12, pi26_12, gr26_13, gr26_14, gi26_15, pi26_15, gi26_16, pi26_16, gr26_17, gr26_18, gi26_19, pi26_19, gr26_20, gr26_21, gr26_22, gr26_23, gr26_24, gr26_25, gr26_26, gi26_27, pi26_27, gr26_28, gr26_29, gi26_30, pi26_30, gi26_31, pi26_31, gr26_32, gr26_33, gr26_34, gr26_35, gr26_36, gr26_37, gr26_38, gr26_39, gr26_40, Option.bind_some, rI34, wI34, rI35, wI35, yb, n_0, n_1, n_2, n_3, n_4, n_5, n_6, n_8, n_9, n_10, n_12, n_20, n_25, n_27, n_30, n_31, n_32, n_40, n_48, n_57, n_59, n_63, n_96, n_97, n_120, n_122, n_255, n_256, n_300, n_301, n_512, n_1000, n_1001, n_1002, n_1003, n_1004, n_1005, n_2000, n_2304, n_4096, nI_add, pk_mul, n_m, c_ge, c_gt, c_lt, c_le, c_eq, c_ne, d_lt, d_ge, d_ne, d_eq, d_gt, d_le, m_ltk, m_gek, m_eq, m_ne, yw k t ht, c1]
    rw [if_neg (by omega)]
    exact ⟨_, rfl, by rw [take_app ht]; exact c2, rf_tr h2 c3⟩
/-- square -/
theorem sqr_e (hM : mo_n n A I) (hk : km n A els I) (hF : 100 ≤ F) {y : List Nat} {w : Nat} (hw : els[w]? = some y) : ∃ J', e169 F 26 (nI w) (nI 0) (mkH (hs l s d tl) I J) = some ((), (mkH (hs l s d tl) I J')) ∧ sq n A y (J' 32) 0 ∧ ∀ c, c ≠ 32 → J' c = J c := by
  obtain ⟨yc, yL, yl, h20, h40, yb, yw⟩ := km_c hk hw
  show ∃ J', m169_0 F 26 _ _ _ = _ ∧ _
  unfold m169_0
  simp (disch := omega) only [rc26, gi26_0, pi26_0, gr26_1, gr26_2, gr26_3, gr26_4, gi26_5, pi26_5, gi26_6, pi26_6, gi26_7, pi26_7, gl26_8, pl26_8, gi26_9, pi26_9, gi26_10, pi26_10, gr26_11, gi26_12, pi26_12, gr26_13, gr26_14, gi26_15, pi26_15, gi26_16, pi26_16, gr26_17, gr26_18, gi26_19, pi26_19, gr26_20, gr26_21, gr26_22, gr26_23, gr26_24, gr26_25, gr26_26, gi26_27, pi26_27, gr26_28, gr26_29, gi26_30, pi26_30, gi26_31, pi26_31, gr26_32, gr26_33, gr26_34, gr26_35, gr26_36, gr26_37, gr26_38, gr26_39, gr26_40, Option.bind_some, n_0, n_1, n_2, n_3, n_4, n_5, n_6, n_8, n_9, n_10, n_12, n_20, n_25, n_27, n_30, n_31, n_32, n_40, n_48, n_57, n_59, n_63, n_96, n_97, n_120, n_122, n_255, n_256, n_300, n_301, n_512, n_1000, n_1001, n_1002, n_1003, n_1004, n_1005, n_2000, n_2304, n_4096, nI_add, pk_mul, n_m, c_ge, c_gt, c_lt, c_le, c_eq, c_ne, d_lt, d_ge, d_ne, d_eq, d_gt, d_le, m_ltk, m_gek, m_eq, m_ne, bg_e (by omega : 30 ≤ F)]
  refine lpc (fun f k (K : hJ) => m169_6 F f 26 (nI w) (nI 0) (nI k) (mkH (hs l s d tl) I K)) y.length (fun k K => sq n A (y.take k) (K 32) 0 ∧ ∀ c, c ≠ 32 → K c = J c) (fun r => ∃ J', r = some ((), (mkH (hs l s d tl) I J')) ∧ sq n A y (J' 32) 0 ∧ ∀ c, c ≠ 32 → J' c = J c) ?_ ?_ F 0 (rwJ J 32 0 25 (fun q => zJ (if q / 5 = q % 5 then 1 else 0))) (by omega) (by omega) ⟨sq_nil, fun c hc => rwJ_ne hc⟩
  · rintro f K ⟨h1, h2⟩
    show ∃ J', m169_6 F (f + 1) _ _ _ _ _ = _ ∧ _
    rw [m169_6]
    simp (disch := omega) only [rc26, gi26_0, pi26_0, gr26_1, gr26_2, gr26_3, gr26_4, gi26_5, pi26_5, gi26_6, pi26_6, gi26_7, pi26_7, gl26_8, pl26_8, gi26_9, pi26_9, gi26_10, pi26_10, gr26_11, gi26_12, pi26_12, gr26_13, gr26_14, gi26_15, pi26_15, gi26_16, pi26_16, gr26_17, gr26_18, gi26_19, pi26_19, gr26_20, gr26_21, gr26_22, gr26_23, gr26_24, gr26_25, gr26_26, gi26_27, pi26_27, gr26_28, gr26_29, gi26_30, pi26_30, gi26_31, pi26_31, gr26_32, gr26_33, gr26_34, gr26_35, gr26_36, gr26_37, gr26_38, gr26_39, gr26_40, Option.bind_some, rI34, wI34, yb, n_0, n_1, n_2, n_3, n_4, n_5, n_6, n_8, n_9, n_10, n_12, n_20, n_25, n_27, n_30, n_31, n_32, n_40, n_48, n_57, n_59, n_63, n_96, n_97, n_120, n_122, n_255, n_256, n_300, n_301, n_512, n_1000, n_1001, n_1002, n_1003, n_1004, n_1005, n_2000, n_2304, n_4096, nI_add, pk_mul, n_m, c_ge, c_gt, c_lt, c_le, c_eq, c_ne, d_lt, d_ge, d_ne, d_eq, d_gt, d_le, m_ltk, m_gek, m_eq, m_ne]
    rw [if_pos (by omega)]
    rw [List.take_length] at h1
    exact ⟨_, rfl, h1, h2⟩
  · rintro f k K hky ⟨h1, h2⟩
    right
    obtain ⟨t, ht⟩ := ex_at hky
    have htn := cx_L_at yL ht
    obtain ⟨J2, c1, c2, c3⟩ := th_e (l := l) (s := s) (d := d) (tl := tl) (F := F) (J := K) hM (by omega) htn (take_L yL k) h1
    show ∃ y, m169_6 F (f + 1) _ _ _ _ _ = _ ∧ _
    rw [m169_6]
    unfold m169_43
    simp (disch := omega) only [rc26, gi26_0, pi26_0, gr26_1, gr26_2, gr26_3, gr26_4, gi26_5, pi26_5, gi26_6, pi26_6, gi26_7, pi26_7, gl26_8, pl26_8, gi26_9, pi26_9, gi26_10, pi26_10, gr26_11, gi26_12, pi26_12, gr26_13, gr26_14, gi26_15, pi26_15, gi26_16, pi26_16, gr26_17, gr26_18, gi26_19, pi26_19, gr26_20, gr26_21, gr26_22, gr26_23, gr26_24, gr26_25, gr26_26, gi26_27, pi26_27, gr26_28, gr26_29, gi26_30, pi26_30, gi26_31, pi26_31, gr26_32, gr26_33, gr26_34, gr26_35, gr26_36, gr26_37, gr26_38, gr26_39, gr26_40, Option.bind_some, rI34, wI34, rI35, wI35, yb, n_0, n_1, n_2, n_3, n_4, n_5, n_6, n_8, n_9, n_10, n_12, n_20, n_25, n_27, n_30, n_31, n_32, n_40, n_48, n_57, n_59, n_63, n_96, n_97, n_120, n_122, n_255, n_256, n_300, n_301, n_512, n_1000, n_1001, n_1002, n_1003, n_1004, n_1005, n_2000, n_2304, n_4096, nI_add, pk_mul, n_m, c_ge, c_gt, c_lt, c_le, c_eq, c_ne, d_lt, d_ge, d_ne, d_eq, d_gt, d_le, m_ltk, m_gek, m_eq, m_ne, yw k t ht, c1, if_true]
    rw [if_neg (by omega)]
    exact ⟨_, rfl, by rw [take_c ht]; exact c2, fun c hc => (c3 c hc).trans (h2 c hc)⟩
/-- square, from the end -/
theorem sqb_e (hM : mo_n n A I) (hk : km n A els I) (hF : 100 ≤ F) {y : List Nat} {w : Nat} (hw : els[w]? = some y) : ∃ J', e169 F 26 (nI w) (nI 1) (mkH (hs l s d tl) I J) = some ((), (mkH (hs l s d tl) I J')) ∧ sq n A y.reverse (J' 32) 0 ∧ ∀ c, c ≠ 32 → J' c = J c := by
  obtain ⟨yc, yL, yl, h20, h40, yb, yw⟩ := km_c hk hw
  show ∃ J', m169_0 F 26 _ _ _ = _ ∧ _
  unfold m169_0
  simp (disch := omega) only [rc26, gi26_0, pi26_0, gr26_1, gr26_2, gr26_3, gr26_4, gi26_5, pi26_5, gi26_6, pi26_6, gi26_7, pi26_7, gl26_8, pl26_8, gi26_9, pi26_9, gi26_10, pi26_10, gr26_11, gi26_12, pi26_12, gr26_13, gr26_14, gi26_15, pi26_15, gi26_16, pi26_16, gr26_17, gr26_18, gi26_19, pi26_19, gr26_20, gr26_21, gr26_22, gr26_23, gr26_24, gr26_25, gr26_26, gi26_27, pi26_27, gr26_28, gr26_29, gi26_30, pi26_30, gi26_31, pi26_31, gr26_32, gr26_33, gr26_34, gr26_35, gr26_36, gr26_37, gr26_38, gr26_39, gr26_40, Option.bind_some, n_0, n_1, n_2, n_3, n_4, n_5, n_6, n_8, n_9, n_10, n_12, n_20, n_25, n_27, n_30, n_31, n_32, n_40, n_48, n_57, n_59, n_63, n_96, n_97, n_120, n_122, n_255, n_256, n_300, n_301, n_512, n_1000, n_1001, n_1002, n_1003, n_1004, n_1005, n_2000, n_2304, n_4096, nI_add, pk_mul, n_m, c_ge, c_gt, c_lt, c_le, c_eq, c_ne, d_lt, d_ge, d_ne, d_eq, d_gt, d_le, m_ltk, m_gek, m_eq, m_ne, bg_e (by omega : 30 ≤ F)]
  refine lpc (fun f k (K : hJ) => m169_6 F f 26 (nI w) (nI 1) (nI k) (mkH (hs l s d tl) I K)) y.length (fun k K => sq n A (y.reverse.take k) (K 32) 0 ∧ ∀ c, c ≠ 32 → K c = J c) (fun r => ∃ J', r = some ((), (mkH (hs l s d tl) I J')) ∧ sq n A y.reverse (J' 32) 0 ∧ ∀ c, c ≠ 32 → J' c = J c) ?_ ?_ F 0 (rwJ J 32 0 25 (fun q => zJ (if q / 5 = q % 5 then 1 else 0))) (by omega) (by omega) ⟨sq_nil, fun c hc => rwJ_ne hc⟩
  · rintro f K ⟨h1, h2⟩
    show ∃ J', m169_6 F (f + 1) _ _ _ _ _ = _ ∧ _
    rw [m169_6]
    simp (disch := omega) only [rc26, gi26_0, pi26_0, gr26_1, gr26_2, gr26_3, gr26_4, gi26_5, pi26_5, gi26_6, pi26_6, gi26_7, pi26_7, gl26_8, pl26_8, gi26_9, pi26_9, gi26_10, pi26_10, gr26_11, gi26_12, pi26_12, gr26_13, gr26_14, gi26_15, pi26_15, gi26_16, pi26_16, gr26_17, gr26_18, gi26_19, pi26_19, gr26_20, gr26_21, gr26_22, gr26_23, gr26_24, gr26_25, gr26_26, gi26_27, pi26_27, gr26_28, gr26_29, gi26_30, pi26_30, gi26_31, pi26_31, gr26_32, gr26_33, gr26_34, gr26_35, gr26_36, gr26_37, gr26_38, gr26_39, gr26_40, Option.bind_some, rI34, wI34, yb, n_0, n_1, n_2, n_3, n_4, n_5, n_6, n_8, n_9, n_10, n_12, n_20, n_25, n_27, n_30, n_31, n_32, n_40, n_48, n_57, n_59, n_63, n_96, n_97, n_120, n_122, n_255, n_256, n_300, n_301, n_512, n_1000, n_1001, n_1002, n_1003, n_1004, n_1005, n_2000, n_2304, n_4096, nI_add, pk_mul, n_m, c_ge, c_gt, c_lt, c_le, c_eq, c_ne, d_lt, d_ge, d_ne, d_eq, d_gt, d_le, m_ltk, m_gek, m_eq, m_ne]
    rw [if_pos (by omega)]
    rw [← List.length_reverse, List.take_length] at h1
    exact ⟨_, rfl, h1, h2⟩
  · rintro f k K hky ⟨h1, h2⟩
    right
    obtain ⟨t, ht⟩ := ex_at (show y.length - 1 - k < y.length by omega)
    have hrt := rev_at hky ht
    have htn := cx_L_at yL ht
    obtain ⟨J2, c1, c2, c3⟩ := th_e (l := l) (s := s) (d := d) (tl := tl) (F := F) (J := K) hM (by omega) htn (take_L (cx_L_rev yL) k) h1
    show ∃ y, m169_6 F (f + 1) _ _ _ _ _ = _ ∧ _
    rw [m169_6]
    unfold m169_43
    simp (disch := omega) only [rc26, gi26_0, pi26_0, gr26_1, gr26_2, gr26_3, gr26_4, gi26_5, pi26_5, gi26_6, pi26_6, gi26_7, pi26_7, gl26_8, pl26_8, gi26_9, pi26_9, gi26_10, pi26_10, gr26_11, gi26_12, pi26_12, gr26_13, gr26_14, gi26_15, pi26_15, gi26_16, pi26_16, gr26_17, gr26_18, gi26_19, pi26_19, gr26_20, gr26_21, gr26_22, gr26_23, gr26_24, gr26_25, gr26_26, gi26_27, pi26_27, gr26_28, gr26_29, gi26_30, pi26_30, gi26_31, pi26_31, gr26_32, gr26_33, gr26_34, gr26_35, gr26_36, gr26_37, gr26_38, gr26_39, gr26_40, Option.bind_some, rI34, wI34, rI35, wI35, yb, n_0, n_1, n_2, n_3, n_4, n_5, n_6, n_8, n_9, n_10, n_12, n_20, n_25, n_27, n_30, n_31, n_32, n_40, n_48, n_57, n_59, n_63, n_96, n_97, n_120, n_122, n_255, n_256, n_300, n_301, n_512, n_1000, n_1001, n_1002, n_1003, n_1004, n_1005, n_2000, n_2304, n_4096, nI_add, pk_mul, n_m, c_ge, c_gt, c_lt, c_le, c_eq, c_ne, d_lt, d_ge, d_ne, d_eq, d_gt, d_le, m_ltk, m_gek, m_eq, m_ne, pk_sub, yw _ t ht, c1]
    rw [if_neg (by omega), if_neg (by omega)]
    exact ⟨_, rfl, by rw [take_c hrt]; exact c2, fun c hc => (c3 c hc).trans (h2 c hc)⟩
/-- isRow -/
theorem ir_e (hk : km n A els I) (hn5 : n ≤ 5) (hF : 100 ≤ F) {x y : List Nat} {w : Nat} (hw : els[w]? = some y) (hx : cx_L n x) (hr : rw0 x I) (h64 : x.length ≤ 64) : (e162 F 26 (nI w) (mkH (hs l s d tl) I J) = some (nI 1, (mkH (hs l s d tl) I J)) ∧ y = x) ∨ (e162 F 26 (nI w) (mkH (hs l s d tl) I J) = some (nI 0, (mkH (hs l s d tl) I J)) ∧ y ≠ x) := by
  obtain ⟨yc, yL, yl, h20, h40, yb, yw⟩ := km_c hk hw
  have key : ∀ v : Nat, ((v = 1 ∧ y.length = x.length) ∨ (v = 0 ∧ y ≠ x)) → (m162_21 F F 26 (nI w) (nI v) (nI 0) (mkH (hs l s d tl) I J) = some (nI 1, (mkH (hs l s d tl) I J)) ∧ y = x) ∨ (m162_21 F F 26 (nI w) (nI v) (nI 0) (mkH (hs l s d tl) I J) = some (nI 0, (mkH (hs l s d tl) I J)) ∧ y ≠ x) := by
    intro v hv
    refine lpc (fun f k (v : Nat) => m162_21 F f 26 (nI w) (nI v) (nI k) (mkH (hs l s d tl) I J)) x.length (fun k v => (v = 1 ∧ y.length = x.length ∧ ∀ j, j < k → y[j]? = x[j]?) ∨ (v = 0 ∧ y ≠ x)) (fun r => (r = some (nI 1, (mkH (hs l s d tl) I J)) ∧ y = x) ∨ (r = some (nI 0, (mkH (hs l s d tl) I J)) ∧ y ≠ x)) ?_ ?_ F 0 v (by omega) (by omega) (hv.imp (fun h => ⟨h.1, h.2, fun j hj => by omega⟩) id)
    · intro f v hv
      show (m162_21 F (f + 1) _ _ _ _ _ = _ ∧ _) ∨ (m162_21 F (f + 1) _ _ _ _ _ = _ ∧ _)
      rw [m162_21]
      simp (disch := omega) only [rc26, gi26_0, pi26_0, gr26_1, gr26_2, gr26_3, gr26_4, gi26_5, pi26_5, gi26_6, pi26_6, gi26_7, pi26_7, gl26_8, pl26_8, gi26_9, pi26_9, gi26_10, pi26_10, gr26_11, gi26_12, pi26_12, gr26_13, gr26_14, gi26_15, pi26_15, gi26_16, pi26_16, gr26_17, gr26_18, gi26_19, pi26_19, gr26_20, gr26_21, gr26_22, gr26_23, gr26_24, gr26_25, gr26_26, gi26_27, pi26_27, gr26_28, gr26_29, gi26_30, pi26_30, gi26_31, pi26_31, gr26_32, gr26_33, gr26_34, gr26_35, gr26_36, gr26_37, gr26_38, gr26_39, gr26_40, Option.bind_some, hr.2, n_0, n_1, n_2, n_3, n_4, n_5, n_6, n_8, n_9, n_10, n_12, n_20, n_25, n_27, n_30, n_31, n_32, n_40, n_48, n_57, n_59, n_63, n_96, n_97, n_120, n_122, n_255, n_256, n_300, n_301, n_512, n_1000, n_1001, n_1002, n_1003, n_1004, n_1005, n_2000, n_2304, n_4096, nI_add, pk_mul, n_m, c_ge, c_gt, c_lt, c_le, c_eq, c_ne, d_lt, d_ge, d_ne, d_eq, d_gt, d_le, m_ltk, m_gek, m_eq, m_ne]
      rw [if_pos (by omega)]
      unfold m162_65
      rcases hv with ⟨rfl, h1, h2⟩ | ⟨rfl, h⟩
      · refine Or.inl ⟨rfl, List.ext_getElem? (fun i => ?_)⟩
        by_cases hi : i < x.length
        · exact h2 i hi
        · rw [List.getElem?_eq_none (by omega), List.getElem?_eq_none (by omega)]
      · exact Or.inr ⟨rfl, h⟩
    · intro f k v hk2 hv
      show ((m162_21 F (f + 1) _ _ _ _ _ = _ ∧ _) ∨ (m162_21 F (f + 1) _ _ _ _ _ = _ ∧ _)) ∨ ∃ y, m162_21 F (f + 1) _ _ _ _ _ = _ ∧ _
      rw [m162_21]
      rcases hv with ⟨rfl, h1, h2⟩ | ⟨rfl, h⟩
      · right
        obtain ⟨t, ht⟩ := ex_at (show k < y.length by omega)
        obtain ⟨r, hrr⟩ := ex_at hk2
        have h33 : I 33 k = nI r := by
          have := hr.1 k r hrr
          rw [Nat.zero_add] at this
          exact this
        have htn := cx_L_at yL ht
        simp (disch := omega) only [rc26, gi26_0, pi26_0, gr26_1, gr26_2, gr26_3, gr26_4, gi26_5, pi26_5, gi26_6, pi26_6, gi26_7, pi26_7, gl26_8, pl26_8, gi26_9, pi26_9, gi26_10, pi26_10, gr26_11, gi26_12, pi26_12, gr26_13, gr26_14, gi26_15, pi26_15, gi26_16, pi26_16, gr26_17, gr26_18, gi26_19, pi26_19, gr26_20, gr26_21, gr26_22, gr26_23, gr26_24, gr26_25, gr26_26, gi26_27, pi26_27, gr26_28, gr26_29, gi26_30, pi26_30, gi26_31, pi26_31, gr26_32, gr26_33, gr26_34, gr26_35, gr26_36, gr26_37, gr26_38, gr26_39, gr26_40, Option.bind_some, hr.2, n_0, n_1, n_2, n_3, n_4, n_5, n_6, n_8, n_9, n_10, n_12, n_20, n_25, n_27, n_30, n_31, n_32, n_40, n_48, n_57, n_59, n_63, n_96, n_97, n_120, n_122, n_255, n_256, n_300, n_301, n_512, n_1000, n_1001, n_1002, n_1003, n_1004, n_1005, n_2000, n_2304, n_4096, nI_add, pk_mul, n_m, c_ge, c_gt, c_lt, c_le, c_eq, c_ne, d_lt, d_ge, d_ne, d_eq, d_gt, d_le, m_ltk, m_gek, m_eq, m_ne, rI33, wI33, rI35, wI35, yw k t ht, h33, g_ne]
        rw [if_neg (by omega), if_neg (by omega)]
        unfold m162_58
        by_cases htr : nI t = nI r
        · rw [if_neg (fun h => h htr)]
          simp only [n_0, n_1, n_2, n_3, n_4, n_5, n_6, n_8, n_9, n_10, n_12, n_20, n_25, n_27, n_30, n_31, n_32, n_40, n_48, n_57, n_59, n_63, n_96, n_97, n_120, n_122, n_255, n_256, n_300, n_301, n_512, n_1000, n_1001, n_1002, n_1003, n_1004, n_1005, n_2000, n_2304, n_4096, nI_add, pk_mul, n_m, c_ge, c_gt, c_lt, c_le, c_eq, c_ne, d_lt, d_ge, d_ne, d_eq, d_gt, d_le, m_ltk, m_gek, m_eq, m_ne]
          refine ⟨1, rfl, Or.inl ⟨rfl, h1, fun j hj => ?_⟩⟩
          by_cases hjk : j = k
          · subst hjk
            have hrn := cx_L_at hx hrr
            rw [ht, hrr, (nI_eq (by omega) (by omega)).mp htr]
          · exact h2 j (by omega)
        · rw [if_pos htr]
          simp only [n_0, n_1, n_2, n_3, n_4, n_5, n_6, n_8, n_9, n_10, n_12, n_20, n_25, n_27, n_30, n_31, n_32, n_40, n_48, n_57, n_59, n_63, n_96, n_97, n_120, n_122, n_255, n_256, n_300, n_301, n_512, n_1000, n_1001, n_1002, n_1003, n_1004, n_1005, n_2000, n_2304, n_4096, nI_add, pk_mul, n_m, c_ge, c_gt, c_lt, c_le, c_eq, c_ne, d_lt, d_ge, d_ne, d_eq, d_gt, d_le, m_ltk, m_gek, m_eq, m_ne]
          refine ⟨0, rfl, Or.inr ⟨rfl, fun e => htr ?_⟩⟩
          rw [e, hrr] at ht
          rw [Option.some.inj ht]
      · left
        simp (disch := omega) only [rc26, gi26_0, pi26_0, gr26_1, gr26_2, gr26_3, gr26_4, gi26_5, pi26_5, gi26_6, pi26_6, gi26_7, pi26_7, gl26_8, pl26_8, gi26_9, pi26_9, gi26_10, pi26_10, gr26_11, gi26_12, pi26_12, gr26_13, gr26_14, gi26_15, pi26_15, gi26_16, pi26_16, gr26_17, gr26_18, gi26_19, pi26_19, gr26_20, gr26_21, gr26_22, gr26_23, gr26_24, gr26_25, gr26_26, gi26_27, pi26_27, gr26_28, gr26_29, gi26_30, pi26_30, gi26_31, pi26_31, gr26_32, gr26_33, gr26_34, gr26_35, gr26_36, gr26_37, gr26_38, gr26_39, gr26_40, Option.bind_some, hr.2, n_0, n_1, n_2, n_3, n_4, n_5, n_6, n_8, n_9, n_10, n_12, n_20, n_25, n_27, n_30, n_31, n_32, n_40, n_48, n_57, n_59, n_63, n_96, n_97, n_120, n_122, n_255, n_256, n_300, n_301, n_512, n_1000, n_1001, n_1002, n_1003, n_1004, n_1005, n_2000, n_2304, n_4096, nI_add, pk_mul, n_m, c_ge, c_gt, c_lt, c_le, c_eq, c_ne, d_lt, d_ge, d_ne, d_eq, d_gt, d_le, m_ltk, m_gek, m_eq, m_ne]
        rw [if_neg (by omega), if_pos trivial]
        unfold m162_65
        exact Or.inr ⟨rfl, h⟩
  show (m162_0 F 26 _ _ = _ ∧ _) ∨ (m162_0 F 26 _ _ = _ ∧ _)
  unfold m162_0
  simp (disch := omega) only [rc26, gi26_0, pi26_0, gr26_1, gr26_2, gr26_3, gr26_4, gi26_5, pi26_5, gi26_6, pi26_6, gi26_7, pi26_7, gl26_8, pl26_8, gi26_9, pi26_9, gi26_10, pi26_10, gr26_11, gi26_12, pi26_12, gr26_13, gr26_14, gi26_15, pi26_15, gi26_16, pi26_16, gr26_17, gr26_18, gi26_19, pi26_19, gr26_20, gr26_21, gr26_22, gr26_23, gr26_24, gr26_25, gr26_26, gi26_27, pi26_27, gr26_28, gr26_29, gi26_30, pi26_30, gi26_31, pi26_31, gr26_32, gr26_33, gr26_34, gr26_35, gr26_36, gr26_37, gr26_38, gr26_39, gr26_40, Option.bind_some, hr.2, n_0, n_1, n_2, n_3, n_4, n_5, n_6, n_8, n_9, n_10, n_12, n_20, n_25, n_27, n_30, n_31, n_32, n_40, n_48, n_57, n_59, n_63, n_96, n_97, n_120, n_122, n_255, n_256, n_300, n_301, n_512, n_1000, n_1001, n_1002, n_1003, n_1004, n_1005, n_2000, n_2304, n_4096, nI_add, pk_mul, n_m, c_ge, c_gt, c_lt, c_le, c_eq, c_ne, d_lt, d_ge, d_ne, d_eq, d_gt, d_le, m_ltk, m_gek, m_eq, m_ne, rI34, wI34, yb]
  unfold m162_18
  simp only [n_0, n_1, n_2, n_3, n_4, n_5, n_6, n_8, n_9, n_10, n_12, n_20, n_25, n_27, n_30, n_31, n_32, n_40, n_48, n_57, n_59, n_63, n_96, n_97, n_120, n_122, n_255, n_256, n_300, n_301, n_512, n_1000, n_1001, n_1002, n_1003, n_1004, n_1005, n_2000, n_2304, n_4096, nI_add, pk_mul, n_m, c_ge, c_gt, c_lt, c_le, c_eq, c_ne, d_lt, d_ge, d_ne, d_eq, d_gt, d_le, m_ltk, m_gek, m_eq, m_ne]
  by_cases he : y.length = x.length
  · rw [if_neg (fun h => h he)]
    exact key 1 (Or.inl ⟨rfl, he⟩)
  · rw [if_pos he]
    exact key 0 (Or.inr ⟨rfl, fun h => he (by rw [h])⟩)
end S
