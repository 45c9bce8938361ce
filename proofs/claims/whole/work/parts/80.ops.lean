/-! A call of both: the state, and the calls that only tell. -/
def stc (n : Nat) (T : tT) (els : List (List Nat)) (x : List Nat) (N : Nat) (tx : Nat → Nat) (fl : Int32) (I : hI) (J : hJ) : Prop := cl_n n (gA T) I ∧ cl_t n T I ∧ kp n (gA T) els I J ∧ I 0 7 = nI x.length ∧ wd (I 25) 0 x ∧ tb N tx I ∧ I 4 4 = fl
def str (n : Nat) (T : tT) (els : List (List Nat)) (x : List Nat) (N : Nat) (tx : Nat → Nat) (fl : Int32) (I : hI) : Prop := mo_n n (gA T) I ∧ mo_t n T I ∧ km n (gA T) els I ∧ dr n x I ∧ rtb N tx I ∧ I 26 6 = fl
def st (n : Nat) (T : tT) (els : List (List Nat)) (x : List Nat) (N : Nat) (tx : Nat → Nat) (fl : Int32) (I : hI) (J : hJ) : Prop := tok T ∧ stc n T els x N tx fl I J ∧ str n T els x N tx fl I
/-- a call of both, one behind the other, with one answer -/
def ok2 {α : Type} (sh : List hQ) (ex em : List mE → Option (α × List mE)) (I : hI) (J : hJ) (P : hI → hJ → Prop) : Prop := ∃ v I1 J1 I2 J2, ex (mkH sh I J) = some (v, mkH sh I1 J1) ∧ em (mkH sh I1 J1) = some (v, mkH sh I2 J2) ∧ P I2 J2
theorem ok2_s {α : Type} {sh : List hQ} {ex em : List mE → Option (α × List mE)} {I : hI} {J : hJ} {P : hI → hJ → Prop} (v : α) (h1 : ex (mkH sh I J) = some (v, mkH sh I J)) (h2 : em (mkH sh I J) = some (v, mkH sh I J)) (hP : P I J) : ok2 sh ex em I J P := ⟨v, I, J, I, J, h1, h2, hP⟩
theorem ok2_mo {α : Type} {sh : List hQ} {ex em : List mE → Option (α × List mE)} {I : hI} {J : hJ} {P Q : hI → hJ → Prop} (h : ok2 sh ex em I J P) (hq : ∀ I J, P I J → Q I J) : ok2 sh ex em I J Q := by
  obtain ⟨v, I1, J1, I2, J2, a, b, c⟩ := h
  exact ⟨v, I1, J1, I2, J2, a, b, hq _ _ c⟩
/-- cells of caches and polynomials stay -/
def opf (I I' : hI) (J J' : hJ) : Prop := (∀ c, 45 ≤ c → I' c = I c ∧ J' c = J c) ∧ I' 26 30 = I 26 30 ∧ I' 26 31 = I 26 31
theorem opf_rf (I : hI) (J : hJ) : opf I I J J := ⟨fun _ _ => ⟨rfl, rfl⟩, rfl, rfl⟩
theorem opf_tr {I I' I'' : hI} {J J' J'' : hJ} (h : opf I I' J J') (h' : opf I' I'' J' J'') : opf I I'' J J'' := ⟨fun c hc => ⟨(h'.1 c hc).1.trans (h.1 c hc).1, (h'.1 c hc).2.trans (h.1 c hc).2⟩, h'.2.1.trans h.2.1, h'.2.2.trans h.2.2⟩
/-- cells of the reference stay -/
def cfr (I I' : hI) (J J' : hJ) : Prop := ∀ c, 26 ≤ c → I' c = I c ∧ J' c = J c
theorem cfr_o {I I' : hI} {J J' : hJ} (h : cfr I I' J J') : opf I I' J J' := ⟨fun c hc => h c (by omega), by rw [(h 26 (by omega)).1], by rw [(h 26 (by omega)).1]⟩
theorem rfr_o {I I' : hI} {J J' : hJ} (h : rfr I I' J J') : opf I I' J J' := ⟨fun c hc => ⟨h.1 c (by omega) (by omega) (by omega) (by omega) (by omega) (by omega) (by omega), h.2.2 c (by omega) (by omega) (by omega) (by omega) (by omega) (by omega)⟩, h.2.1 30 (by decide) (by decide) (by decide), h.2.1 31 (by decide) (by decide) (by decide)⟩
section S
variable {l s d : Value} {tl : List hQ} {F : Nat} {I : hI} {J : hJ} {n : Nat} {T : tT} {els : List (List Nat)} {x : List Nat} {N : Nat} {tx : Nat → Nat} {fl : Int32}
theorem str_c {I' : hI} {J' : hJ} (h : str n T els x N tx fl I) (hc : cfr I I' J J') : str n T els x N tx fl I' := by
  have e26 := (hc 26 (by omega)).1
  have e27 := (hc 27 (by omega)).1
  have e28 := (hc 28 (by omega)).1
  have e30 := (hc 30 (by omega)).1
  have e34 := (hc 34 (by omega)).1
  have e35 := (hc 35 (by omega)).1
  have e36 := (hc 36 (by omega)).1
  unfold str mo_n mo_t km dr rtb at *
  rw [e26, e27, e28, e30, e34, e35, e36]
  exact h
theorem stc_r {I' : hI} {J' : hJ} (h : stc n T els x N tx fl I J) (hc : ∀ c, c < 26 → I' c = I c ∧ J' c = J c) : stc n T els x N tx fl I' J' := by
  unfold stc cl_n cl_t kp tb at *
  rw [(hc 0 (by omega)).1, (hc 1 (by omega)).1, (hc 2 (by omega)).1, (hc 3 (by omega)).1, (hc 4 (by omega)).1, (hc 5 (by omega)).1, (hc 8 (by omega)).1, (hc 9 (by omega)).1, (hc 10 (by omega)).1, (hc 25 (by omega)).1, (hc 11 (by omega)).2, (hc 12 (by omega)).2]
  exact h
theorem rfr_c {I I' : hI} {J J' : hJ} (h : rfr I I' J J') : ∀ c, c < 26 → I' c = I c ∧ J' c = J c := fun c hc => ⟨h.1 c (by omega) (by omega) (by omega) (by omega) (by omega) (by omega) (by omega), h.2.2 c (by omega) (by omega) (by omega) (by omega) (by omega) (by omega)⟩
/-- what the reference knows, where els may grow and nothing else changes -/
theorem str_r {I' : hI} {J' : hJ} {els' : List (List Nat)} (h : str n T els x N tx fl I) (hc : rfr I I' J J') (hk : km n (gA T) els' I') : str n T els' x N tx fl I' := by
  obtain ⟨h1, h2, h3, h4, h5, h6⟩ := h
  have c27 : I' 27 = I 27 := hc.1 27 (by decide) (by decide) (by decide) (by decide) (by decide) (by decide) (by decide)
  have c36 : I' 36 = I 36 := hc.1 36 (by decide) (by decide) (by decide) (by decide) (by decide) (by decide) (by decide)
  have c30 : I' 30 = I 30 := hc.1 30 (by decide) (by decide) (by decide) (by decide) (by decide) (by decide) (by decide)
  refine ⟨mo_rfr h1 hc, fun i j hi hj => by rw [c27]; exact h2 i j hi hj, hk, ⟨h4.1, h4.2.1, ?_, by rw [c36]; exact h4.2.2.2⟩, ⟨h5.1, ?_, fun i hi => by rw [c30]; exact h5.2.2 i hi⟩, ?_⟩
  · rw [hc.2.1 19 (by decide) (by decide) (by decide)]; exact h4.2.2.1
  · rw [hc.2.1 5 (by decide) (by decide) (by decide)]; exact h5.2.1
  · rw [hc.2.1 6 (by decide) (by decide) (by decide)]; exact h6
theorem km_r {I' : hI} {J' : hJ} {A : Nat → Nat → Int} (h : km n A els I) (hI : I' = I) : km n A els I' := by rw [hI]; exact h
/-- has -/
theorem eh1 (hk : kp n (gA T) els I J) {j : Nat} {y : List Nat} (h : els[j]? = some y) : e16 F 8 (nI j) (mkH (hs l s d tl) I J) = some (nI 1, (mkH (hs l s d tl) I J)) := by
  have h1 := kp_lt hk h
  show m16_0 F 8 _ _ = _
  unfold m16_0 m16_16 m16_17
  rw [if_neg (show ¬ mc1 .lt (nI j) = true by rw [d_lt (by omega)]; exact id), gi8_1, Option.bind_some, hk.2.2.2.1, if_neg (show ¬ mc2 .ge (nI j) (nI els.length) = true by have := hk.2.1; rw [c_ge (by omega) (by omega)]; omega)]
  rfl
theorem ge_of {x : Int32} {m : Nat} (hm : m < 2 ^ 31) (h0 : ¬ x < 0) (h : ∀ j, j < m → x ≠ nI j) : nI m ≤ x := by
  rcases pk_ix x hm with h1 | h1 | ⟨j, hj, e⟩
  · exact absurd h1 h0
  · exact h1
  · exact absurd e (h j hj)
theorem eh0 (hk : kp n (gA T) els I J) {a : Int32} (h : ∀ j, j < els.length → a ≠ nI j) : e16 F 8 a (mkH (hs l s d tl) I J) = some (nI 0, (mkH (hs l s d tl) I J)) := by
  have h40 := hk.2.1
  show m16_0 F 8 _ _ = _
  unfold m16_0 m16_16 m16_17
  by_cases h0 : a < 0
  · rw [if_pos (show mc1 .lt a = true by unfold mc1; exact decide_eq_true h0)]
    rfl
  · rw [if_neg (show ¬ mc1 .lt a = true by unfold mc1; rw [decide_eq_true_eq]; exact h0), gi8_1, Option.bind_some, hk.2.2.2.1, if_pos (show mc2 .ge a (nI els.length) = true by unfold mc2; exact decide_eq_true (ge_of (by omega) h0 h))]
    rfl
theorem hm1 (hc : cl_n n (gA T) I) {j : Nat} (h : j < n) : e36 F 1 (nI j) (mkH (hs l s d tl) I J) = some (nI 1, (mkH (hs l s d tl) I J)) := by
  rcases hm_e (l := l) (s := s) (d := d) (tl := tl) (F := F) (I := I) (J := J) hc.2.2.2.1 hc.2.2.1 (x := nI j) with ⟨_, _, _, h1⟩ | ⟨h1, _⟩
  · exact h1
  · exact absurd rfl (h1 j h)
theorem hm0 (hc : cl_n n (gA T) I) {a : Int32} (h : ∀ j, j < n → a ≠ nI j) : e36 F 1 a (mkH (hs l s d tl) I J) = some (nI 0, (mkH (hs l s d tl) I J)) := by
  rcases hm_e (l := l) (s := s) (d := d) (tl := tl) (F := F) (I := I) (J := J) hc.2.2.2.1 hc.2.2.1 (x := a) with ⟨j, h1, h2, _⟩ | ⟨_, h1⟩
  · exact absurd h2 (h j h1)
  · exact h1
/-- hasSet -/
theorem hs1 (hc : cl_n n (gA T) I) {S : Nat} (h : S < 2 ^ n) : e37 F 1 (nI S) (mkH (hs l s d tl) I J) = some (nI 1, (mkH (hs l s d tl) I J)) := by
  have h32 := Nat.pow_le_pow_right (n := 2) (by omega) hc.2.2.1
  show m37_0 F 1 _ _ = _
  unfold m37_0 m37_18 m37_19
  have es : (1 : Int32) <<< (nI n &&& 31) = nI (2 ^ n) := shl_e n hc.2.2.1
  rw [if_neg (show ¬ mc1 .lt (nI S) = true by rw [d_lt (by omega)]; exact id), gi1_0, Option.bind_some, hc.2.2.2.1, es, if_neg (show ¬ mc2 .ge (nI S) (nI (2 ^ n)) = true by rw [c_ge (by omega) (by omega)]; omega)]
  rfl
theorem hs0 (hc : cl_n n (gA T) I) {a : Int32} (h : ∀ S, S < 2 ^ n → a ≠ nI S) : e37 F 1 a (mkH (hs l s d tl) I J) = some (nI 0, (mkH (hs l s d tl) I J)) := by
  have h32 := Nat.pow_le_pow_right (n := 2) (by omega) hc.2.2.1
  show m37_0 F 1 _ _ = _
  unfold m37_0 m37_18 m37_19
  have es : (1 : Int32) <<< (nI n &&& 31) = nI (2 ^ n) := shl_e n hc.2.2.1
  by_cases h0 : a < 0
  · rw [if_pos (show mc1 .lt a = true by unfold mc1; exact decide_eq_true h0)]
    rfl
  · rw [if_neg (show ¬ mc1 .lt a = true by unfold mc1; rw [decide_eq_true_eq]; exact h0), gi1_0, Option.bind_some, hc.2.2.2.1, es, if_pos (show mc2 .ge a (nI (2 ^ n)) = true by unfold mc2; exact decide_eq_true (ge_of (by omega) h0 h))]
    rfl
theorem el_c (els : List (List Nat)) (a : Int32) : (∃ j y, els[j]? = some y ∧ a = nI j) ∨ (∀ j, j < els.length → a ≠ nI j) := by
  by_cases h : ∃ j, j < els.length ∧ a = nI j
  · obtain ⟨j, h1, h2⟩ := h
    exact Or.inl ⟨j, els[j], List.getElem?_eq_getElem h1, h2⟩
  · exact Or.inr (fun j hj e => h ⟨j, hj, e⟩)
theorem mi_c (n : Nat) (a : Int32) : (∃ j, j < n ∧ a = nI j) ∨ (∀ j, j < n → a ≠ nI j) := by
  by_cases h : ∃ j, j < n ∧ a = nI j
  · exact Or.inl h
  · exact Or.inr (fun j hj e => h ⟨j, hj, e⟩)
theorem y1 : ¬ mc1 .eq (nI 1) = true := by decide
theorem y0 : mc1 .eq (nI 0) = true := by decide
theorem z1 : mc1 .ne (nI 1) = true := by decide
theorem z0 : ¬ mc1 .ne (nI 0) = true := by decide
/-- fault -/
theorem op2 (h : st n T els x N tx fl I J) : ok2 (hs l s d tl) (e107 F 0) (e149 F 26) I J (fun I' J' => I' = I ∧ J' = J) := by
  refine ok2_s fl ?_ ?_ ⟨rfl, rfl⟩
  · show m107_0 F 0 _ = _
    unfold m107_0
    rw [gr0_1, Option.bind_some, gi4_4, Option.bind_some, h.2.1.2.2.2.2.2.2]
  · show m149_0 F 26 _ = _
    unfold m149_0
    rw [gi26_6, Option.bind_some, h.2.2.2.2.2.2.2]
/-- turns -/
theorem op3 (h : st n T els x N tx fl I J) (a b : Int32) : ok2 (hs l s d tl) (e108 F 0 a b) (e151 F 26 a b) I J (fun I' J' => I' = I ∧ J' = J) := by
  have hc := h.2.1.1
  have hM := h.2.2.1
  have hn5 := hc.2.2.1
  rcases mi_c n a with ⟨i, hi, rfl⟩ | ha
  · rcases mi_c n b with ⟨j, hj, rfl⟩ | hb
    · refine ok2_s (nI (gT T i j)) ?_ ?_ ⟨rfl, rfl⟩
      · show m108_0 F 0 _ _ _ = _
        unfold m108_0
        rw [gr0_0, Option.bind_some, rc1, Option.bind_some, hm1 hc hi, Option.bind_some, if_neg y1, gr0_0, Option.bind_some, rc1, Option.bind_some, hm1 hc hj, Option.bind_some, if_pos z1, gr0_0, Option.bind_some, gr1_1, Option.bind_some, n_5, pk_mul, nI_add, rI2 (by omega), Option.bind_some, h.2.1.2.1 i j hi hj]
      · show m151_0 F 26 _ _ _ = _
        unfold m151_0 m151_32
        rw [rc26, Option.bind_some, mm1 hM hi, Option.bind_some, if_neg y1, rc26, Option.bind_some, mm1 hM hj, Option.bind_some, if_neg y1, gr26_1, Option.bind_some, n_5, pk_mul, nI_add, rI27 (by omega), Option.bind_some, h.2.2.2.1 i j hi hj]
    · refine ok2_s (-1002) ?_ ?_ ⟨rfl, rfl⟩
      · show m108_0 F 0 _ _ _ = _
        unfold m108_0 m108_22
        rw [gr0_0, Option.bind_some, rc1, Option.bind_some, hm1 hc hi, Option.bind_some, if_neg y1, gr0_0, Option.bind_some, rc1, Option.bind_some, hm0 hc hb, Option.bind_some, if_neg z0]
      · show m151_0 F 26 _ _ _ = _
        unfold m151_0 m151_29 m151_32
        rw [rc26, Option.bind_some, mm1 hM hi, Option.bind_some, if_neg y1, rc26, Option.bind_some, mm0 hM hb, Option.bind_some, if_pos y0]
  · refine ok2_s (-1002) ?_ ?_ ⟨rfl, rfl⟩
    · show m108_0 F 0 _ _ _ = _
      unfold m108_0 m108_22
      rw [gr0_0, Option.bind_some, rc1, Option.bind_some, hm0 hc ha, Option.bind_some, if_pos y0]
    · show m151_0 F 26 _ _ _ = _
      unfold m151_0 m151_29 m151_32
      rw [rc26, Option.bind_some, mm0 hM ha, Option.bind_some, if_pos y0]
/-- number -/
theorem op4 (h : st n T els x N tx fl I J) (a b : Int32) : ok2 (hs l s d tl) (e109 F 0 a b) (e152 F 26 a b) I J (fun I' J' => I' = I ∧ J' = J) := by
  have hc := h.2.1.1
  have hM := h.2.2.1
  have hn5 := hc.2.2.1
  rcases mi_c n a with ⟨i, hi, rfl⟩ | ha
  · rcases mi_c n b with ⟨j, hj, rfl⟩ | hb
    · refine ok2_s (zI (gA T i j)) ?_ ?_ ⟨rfl, rfl⟩
      · show m109_0 F 0 _ _ _ = _
        unfold m109_0
        rw [gr0_0, Option.bind_some, rc1, Option.bind_some, hm1 hc hi, Option.bind_some, if_neg y1, gr0_0, Option.bind_some, rc1, Option.bind_some, hm1 hc hj, Option.bind_some, if_pos z1, gr0_0, Option.bind_some, gr1_2, Option.bind_some, n_5, pk_mul, nI_add, rI3 (by omega), Option.bind_some, (hc.2.2.2.2 i j hi hj).1]
      · show m152_0 F 26 _ _ _ = _
        unfold m152_0 m152_32
        rw [rc26, Option.bind_some, mm1 hM hi, Option.bind_some, if_neg y1, rc26, Option.bind_some, mm1 hM hj, Option.bind_some, if_neg y1, gr26_2, Option.bind_some, n_5, pk_mul, nI_add, rI28 (by omega), Option.bind_some, (hM.2.2.2.2 i j hi hj).1]
    · refine ok2_s (-1002) ?_ ?_ ⟨rfl, rfl⟩
      · show m109_0 F 0 _ _ _ = _
        unfold m109_0 m109_22
        rw [gr0_0, Option.bind_some, rc1, Option.bind_some, hm1 hc hi, Option.bind_some, if_neg y1, gr0_0, Option.bind_some, rc1, Option.bind_some, hm0 hc hb, Option.bind_some, if_neg z0]
      · show m152_0 F 26 _ _ _ = _
        unfold m152_0 m152_29 m152_32
        rw [rc26, Option.bind_some, mm1 hM hi, Option.bind_some, if_neg y1, rc26, Option.bind_some, mm0 hM hb, Option.bind_some, if_pos y0]
  · refine ok2_s (-1002) ?_ ?_ ⟨rfl, rfl⟩
    · show m109_0 F 0 _ _ _ = _
      unfold m109_0 m109_22
      rw [gr0_0, Option.bind_some, rc1, Option.bind_some, hm0 hc ha, Option.bind_some, if_pos y0]
    · show m152_0 F 26 _ _ _ = _
      unfold m152_0 m152_29 m152_32
      rw [rc26, Option.bind_some, mm0 hM ha, Option.bind_some, if_pos y0]
/-- count -/
theorem op5 (h : st n T els x N tx fl I J) (a : Int32) : ok2 (hs l s d tl) (e110 F 0 a) (e153 F 26 a) I J (fun I' J' => I' = I ∧ J' = J) := by
  obtain ⟨-, ⟨c1, -, c3, c4, -, c6, -⟩, ⟨r1, -, r3, r4, r5, -⟩⟩ := h
  have e1 : e110 F 0 a (mkH (hs l s d tl) I J) = m110_0 F 0 a (mkH (hs l s d tl) I J) := rfl
  have e2 : e153 F 26 a (mkH (hs l s d tl) I J) = m153_0 F 26 a (mkH (hs l s d tl) I J) := rfl
  by_cases h0 : a = 0
  · refine ok2_s (nI n) ?_ ?_ ⟨rfl, rfl⟩
    · rw [e1]; unfold m110_0
      rw [if_pos h0, gr0_0, Option.bind_some, gi1_0, Option.bind_some, c1.2.2.2.1]
    · rw [e2]; unfold m153_0
      rw [if_pos h0, gi26_0, Option.bind_some, r1.2.2.2.1]
  · by_cases h1 : a = 1
    · refine ok2_s (nI els.length) ?_ ?_ ⟨rfl, rfl⟩
      · rw [e1]; unfold m110_0
        rw [if_neg h0, if_pos h1, gr0_2, Option.bind_some, gi8_1, Option.bind_some, c3.2.2.2.1]
      · rw [e2]; unfold m153_0
        rw [if_neg h0, if_pos h1, gi26_16, Option.bind_some, r3.2.2.2.1]
    · by_cases h2 : a = 2
      · refine ok2_s (nI N) ?_ ?_ ⟨rfl, rfl⟩
        · rw [e1]; unfold m110_0
          rw [if_neg h0, if_neg h1, if_pos h2, gr0_1, Option.bind_some, gi4_1, Option.bind_some, c6.2.1]
        · rw [e2]; unfold m153_0
          rw [if_neg h0, if_neg h1, if_pos h2, gi26_5, Option.bind_some, r5.2.1]
      · by_cases h3 : a = 3
        · refine ok2_s (nI x.length) ?_ ?_ ⟨rfl, rfl⟩
          · rw [e1]; unfold m110_0
            rw [if_neg h0, if_neg h1, if_neg h2, if_pos h3, gi0_7, Option.bind_some, c4]
          · rw [e2]; unfold m153_0
            rw [if_neg h0, if_neg h1, if_neg h2, if_pos h3, gi26_19, Option.bind_some, r4.2.2.1]
        · refine ok2_s (-1002) ?_ ?_ ⟨rfl, rfl⟩
          · rw [e1]; unfold m110_0
            rw [if_neg h0, if_neg h1, if_neg h2, if_neg h3]
          · rw [e2]; unfold m153_0
            rw [if_neg h0, if_neg h1, if_neg h2, if_neg h3]
/-- letter -/
theorem op6 (h : st n T els x N tx fl I J) (a : Int32) : ok2 (hs l s d tl) (e111 F 0 a) (e161 F 26 a) I J (fun I' J' => ∃ x', st n T els x' N tx fl I' J' ∧ opf I I' J J') := by
  have hh := h
  obtain ⟨hT, ⟨c1, c2, c3, c4, c5, c6, c7⟩, ⟨r1, r2, r3, r4, r5, r6⟩⟩ := h
  have hn5 := c1.2.2.1
  rcases mi_c n a with ⟨i, hi, rfl⟩ | ha
  · have h20 := r4.2.1
    by_cases hx : x.length < 20
    · -- one letter more
      have hu1 : upI I 25 x.length (nI i) 0 7 = nI x.length := by rw [upI_ne (by decide), c4]
      have hu2 : upI (upI I 25 x.length (nI i)) 0 7 (nI (x.length + 1)) 0 7 = nI (x.length + 1) := by rw [upI_at, if_pos rfl]
      have hM1 : mo_n n (gA T) (upI (upI I 25 x.length (nI i)) 0 7 (nI (x.length + 1))) := mo_fr r1 (by rw [upI_ne (by decide), upI_ne (by decide)]) (by rw [upI_ne (by decide), upI_ne (by decide)])
      have hv1 : upI (upI I 25 x.length (nI i)) 0 7 (nI (x.length + 1)) 26 19 = nI x.length := by rw [upI_ne (by decide), upI_ne (by decide), r4.2.2.1]
      have hv2 : upI (upI (upI I 25 x.length (nI i)) 0 7 (nI (x.length + 1))) 36 x.length (nI i) 26 19 = nI x.length := by rw [upI_ne (by decide), hv1]
      have hv3 : upI (upI (upI (upI I 25 x.length (nI i)) 0 7 (nI (x.length + 1))) 36 x.length (nI i)) 26 19 (nI (x.length + 1)) 26 19 = nI (x.length + 1) := by rw [upI_at, if_pos rfl]
      refine ⟨nI (x.length + 1), upI (upI I 25 x.length (nI i)) 0 7 (nI (x.length + 1)), J, upI (upI (upI (upI I 25 x.length (nI i)) 0 7 (nI (x.length + 1))) 36 x.length (nI i)) 26 19 (nI (x.length + 1)), J, ?_, ?_, x ++ [i], ?_, ?_⟩
      · show m111_0 F 0 _ _ = _
        unfold m111_0
        rw [gr0_0, Option.bind_some, rc1, Option.bind_some, hm1 c1 hi, Option.bind_some, if_pos z1, gi0_7, Option.bind_some, c4, n_20, if_pos (show mc2 .lt (nI x.length) (nI 20) = true by rw [c_lt (by omega) (by omega)]; exact hx), gr0_6, Option.bind_some, Option.bind_some, wI25 (by omega), Option.bind_some, gi0_7, Option.bind_some, hu1, n_1, nI_add, pi0_7, Option.bind_some, gi0_7, Option.bind_some, hu2]
      · show m161_0 F 26 _ _ = _
        unfold m161_0
        rw [rc26, Option.bind_some, mm1 hM1 hi, Option.bind_some, if_pos z1, gi26_19, Option.bind_some, hv1, n_20, if_pos (show mc2 .ne (nI x.length) (nI 20) = true by rw [c_ne (by omega) (by omega)]; omega), gr26_20, Option.bind_some, Option.bind_some, wI36 (by omega), Option.bind_some, gi26_19, Option.bind_some, hv2, n_1, nI_add, pi26_19, Option.bind_some, gi26_19, Option.bind_some, hv3]
      · have oth : ∀ c, c ≠ 0 → c ≠ 25 → c ≠ 26 → c ≠ 36 → (upI (upI (upI (upI I 25 x.length (nI i)) 0 7 (nI (x.length + 1))) 36 x.length (nI i)) 26 19 (nI (x.length + 1))) c = I c := fun c a1 a2 a3 a4 => by rw [upI_ne a3, upI_ne a4, upI_ne a1, upI_ne a2]
        have f26 : ∀ f, f ≠ 19 → (upI (upI (upI (upI I 25 x.length (nI i)) 0 7 (nI (x.length + 1))) 36 x.length (nI i)) 26 19 (nI (x.length + 1))) 26 f = I 26 f := fun f hf => by rw [upI_at, if_neg hf, upI_ne (by decide), upI_ne (by decide), upI_ne (by decide)]
        have hlen : (x ++ [i]).length = x.length + 1 := by rw [List.length_append]; rfl
        refine ⟨hT, ⟨cl_fr c1 (oth 1 (by decide) (by decide) (by decide) (by decide)) (oth 3 (by decide) (by decide) (by decide) (by decide)), fun i j hi hj => by rw [oth 2 (by decide) (by decide) (by decide) (by decide)]; exact c2 i j hi hj, kp_fr c3 (oth 8 (by decide) (by decide) (by decide) (by decide)) (oth 9 (by decide) (by decide) (by decide) (by decide)) (oth 10 (by decide) (by decide) (by decide) (by decide)) rfl rfl, ?_, ?_, ⟨c6.1, by rw [oth 4 (by decide) (by decide) (by decide) (by decide)]; exact c6.2.1, fun i hi => by rw [oth 5 (by decide) (by decide) (by decide) (by decide)]; exact c6.2.2 i hi⟩, by rw [oth 4 (by decide) (by decide) (by decide) (by decide)]; exact c7⟩, ⟨mo_fr r1 (f26 0 (by decide)) (oth 28 (by decide) (by decide) (by decide) (by decide)), fun i j hi hj => by rw [oth 27 (by decide) (by decide) (by decide) (by decide)]; exact r2 i j hi hj, km_fr r3 (f26 16 (by decide)) (oth 34 (by decide) (by decide) (by decide) (by decide)) (oth 35 (by decide) (by decide) (by decide) (by decide)), ⟨cx_L_app r4.1 (cx_L_1 hi), by omega, by rw [hlen, hv3], ?_⟩, ⟨r5.1, by rw [f26 5 (by decide)]; exact r5.2.1, fun i hi => by rw [oth 30 (by decide) (by decide) (by decide) (by decide)]; exact r5.2.2 i hi⟩, by rw [f26 6 (by decide)]; exact r6⟩⟩
        · rw [upI_ne (by decide), upI_ne (by decide), hu2, hlen]
        · rw [upI_ne (by decide), upI_ne (by decide), upI_ne (by decide)]
          have := wd_snoc (c := i) c5
          rw [Nat.zero_add] at this
          exact this
        · rw [upI_ne (by decide)]
          have := wd_snoc (I := upI (upI I 25 x.length (nI i)) 0 7 (nI (x.length + 1))) (b := 36) (p := 0) (y := x) (c := i) (by rw [upI_ne (by decide), upI_ne (by decide)]; exact r4.2.2.2)
          rw [Nat.zero_add] at this
          exact this
      · refine ⟨fun c hc => ⟨by rw [upI_ne (by omega), upI_ne (by omega), upI_ne (by omega), upI_ne (by omega)], rfl⟩, ?_, ?_⟩
        · rw [upI_at, if_neg (by decide), upI_ne (by decide), upI_ne (by decide), upI_ne (by decide)]
        · rw [upI_at, if_neg (by decide), upI_ne (by decide), upI_ne (by decide), upI_ne (by decide)]
    · refine ok2_s (-1004) ?_ ?_ ⟨x, hh, opf_rf I J⟩
      · show m111_0 F 0 _ _ = _
        unfold m111_0
        rw [gr0_0, Option.bind_some, rc1, Option.bind_some, hm1 c1 hi, Option.bind_some, if_pos z1, gi0_7, Option.bind_some, c4, if_neg (show ¬ mc2 .lt (nI x.length) 20 = true by rw [n_20, c_lt (by omega) (by omega)]; exact hx)]
      · show m161_0 F 26 _ _ = _
        unfold m161_0
        rw [rc26, Option.bind_some, mm1 r1 hi, Option.bind_some, if_pos z1, gi26_19, Option.bind_some, r4.2.2.1, if_neg (show ¬ mc2 .ne (nI x.length) 20 = true by rw [n_20, c_ne (by omega) (by omega)]; omega)]
  · refine ok2_s (-1002) ?_ ?_ ⟨x, hh, opf_rf I J⟩
    · show m111_0 F 0 _ _ = _
      unfold m111_0
      rw [gr0_0, Option.bind_some, rc1, Option.bind_some, hm0 c1 ha, Option.bind_some, if_neg z0]
    · show m161_0 F 26 _ _ = _
      unfold m161_0
      rw [rc26, Option.bind_some, mm0 r1 ha, Option.bind_some, if_neg z0]
/-- length -/
theorem op8 (h : st n T els x N tx fl I J) (a : Int32) : ok2 (hs l s d tl) (e113 F 0 a) (e167 F 26 a) I J (fun I' J' => I' = I ∧ J' = J) := by
  have hk := h.2.1.2.2.1
  have hm := h.2.2.2.2.1
  rcases el_c els a with ⟨j, y, hj, rfl⟩ | ha
  · have kc := kp_c hk hj
    have mc := km_c hm hj
    refine ok2_s (nI y.length) ?_ ?_ ⟨rfl, rfl⟩
    · show m113_0 F 0 _ _ = _
      unfold m113_0
      rw [gr0_2, Option.bind_some, rc8, Option.bind_some, eh1 hk hj, Option.bind_some, if_pos z1, gr0_2, Option.bind_some, gr8_3, Option.bind_some, rI10 kc.2.2.2.2.1, Option.bind_some, kc.2.2.2.2.2]
    · show m167_0 F 26 _ _ = _
      unfold m167_0 m167_20
      rw [rc26, Option.bind_some, ie1 hm hj, Option.bind_some, if_neg y1, gr26_17, Option.bind_some, rI34 mc.2.2.2.2.1, Option.bind_some, mc.2.2.2.2.2.1]
  · refine ok2_s (-1001) ?_ ?_ ⟨rfl, rfl⟩
    · show m113_0 F 0 _ _ = _
      unfold m113_0
      rw [gr0_2, Option.bind_some, rc8, Option.bind_some, eh0 hk ha, Option.bind_some, if_neg z0]
    · show m167_0 F 26 _ _ = _
      unfold m167_0 m167_20
      rw [rc26, Option.bind_some, ie0 hm ha, Option.bind_some, if_pos y0]
end S
