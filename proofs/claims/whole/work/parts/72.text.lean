/-! THE TEXT: what its reading comes to; the class's reading. -/
abbrev ltr (c : Nat) : Prop := 97 ≤ c ∧ c ≤ 122
theorem ltr_d (c : Nat) : ltr c ∨ ¬ ltr c := Classical.em _
theorem nn1z : ((1 : Nat) = 0) = False := by decide
def skf (tx : Nat → Nat) : Nat → Nat → Nat
  | 0, p => p
  | k + 1, p => if tx p = 32 then skf tx k (p + 1) else p
/-- behind blanks -/
def sk (N : Nat) (tx : Nat → Nat) (p : Nat) : Nat := skf tx (N - p) p
def wlf (tx : Nat → Nat) : Nat → Nat → List Nat
  | 0, _ => []
  | k + 1, p => if 97 ≤ tx p ∧ tx p ≤ 122 then tx p :: wlf tx k (p + 1) else []
/-- letters side by side -/
def wl (N : Nat) (tx : Nat → Nat) (p : Nat) : List Nat := wlf tx (N - p) p
section S
variable {N p : Nat} {tx : Nat → Nat}
theorem sk_end (h : N ≤ p) : sk N tx p = p := by
  unfold sk
  rw [show N - p = 0 by omega]
  rfl
theorem sk_go (h : p < N) (h2 : tx p = 32) : sk N tx p = sk N tx (p + 1) := by
  unfold sk
  rw [show N - p = (N - (p + 1)) + 1 by omega, skf, if_pos h2]
theorem sk_stop (h : p < N) (h2 : tx p ≠ 32) : sk N tx p = p := by
  unfold sk
  rw [show N - p = (N - (p + 1)) + 1 by omega, skf, if_neg h2]
theorem sk_sp : ∀ (k : Nat) {p : Nat}, N - p = k → p ≤ N → p ≤ sk N tx p ∧ sk N tx p ≤ N ∧ (sk N tx p < N → tx (sk N tx p) ≠ 32) := by
  intro k
  induction k with
  | zero =>
    intro p hk hp
    rw [sk_end (by omega)]
    exact ⟨by omega, by omega, fun h => by omega⟩
  | succ k ih =>
    intro p hk hp
    by_cases h2 : tx p = 32
    · rw [sk_go (by omega) h2]
      have := ih (p := p + 1) (by omega) (by omega)
      exact ⟨by omega, this.2⟩
    · rw [sk_stop (by omega) h2]
      exact ⟨by omega, hp, fun _ => h2⟩
theorem sk_le (h : p ≤ N) : p ≤ sk N tx p ∧ sk N tx p ≤ N ∧ (sk N tx p < N → tx (sk N tx p) ≠ 32) := sk_sp _ rfl h
theorem sk_sk (h : p ≤ N) : sk N tx (sk N tx p) = sk N tx p := by
  have := sk_le (tx := tx) h
  by_cases h2 : sk N tx p < N
  · exact sk_stop h2 (this.2.2 h2)
  · exact sk_end (by omega)
theorem wl_end (h : N ≤ p) : wl N tx p = [] := by
  unfold wl
  rw [show N - p = 0 by omega]
  rfl
theorem wl_go (h : p < N) (h2 : ltr (tx p)) : wl N tx p = tx p :: wl N tx (p + 1) := by
  unfold wl
  rw [show N - p = (N - (p + 1)) + 1 by omega, wlf, if_pos h2]
theorem wl_stop (h : p < N) (h2 : ¬ ltr (tx p)) : wl N tx p = [] := by
  unfold wl
  rw [show N - p = (N - (p + 1)) + 1 by omega, wlf, if_neg h2]
theorem wl_len : ∀ (k : Nat) {p : Nat}, N - p = k → p ≤ N → p + (wl N tx p).length ≤ N := by
  intro k
  induction k with
  | zero =>
    intro p hk hp
    rw [wl_end (by omega)]
    simp
    omega
  | succ k ih =>
    intro p hk hp
    by_cases h2 : ltr (tx p)
    · rw [wl_go (by omega) h2]
      have := ih (p := p + 1) (by omega) (by omega)
      simp
      omega
    · rw [wl_stop (by omega) h2]
      simp
      omega
end S
def w_mir : List Nat := [109, 105, 114, 114, 111, 114, 115]
def w_nev : List Nat := [110, 101, 118, 101, 114]
abbrev tT : Type := Nat → Nat → Option Nat
def tU (T : tT) (i j t : Nat) : tT := fun a b => if (a = i ∧ b = j) ∨ (a = j ∧ b = i) then some t else T a b
def figr (N : Nat) (tx : Nat → Nat) (p lo hi : Nat) : (Nat × Nat) ⊕ (Nat × Nat) :=
  if sk N tx p < N ∧ 48 ≤ tx (sk N tx p) ∧ tx (sk N tx p) ≤ 57 then (if lo ≤ tx (sk N tx p) - 48 ∧ tx (sk N tx p) - 48 ≤ hi then .inr (tx (sk N tx p) - 48, sk N tx p + 1) else .inl (2, sk N tx p)) else .inl (1, sk N tx p)
def endc (N : Nat) (tx : Nat → Nat) (p : Nat) : (Nat × Nat) ⊕ Nat := if sk N tx p < N ∧ tx (sk N tx p) = 59 then .inr (sk N tx p + 1) else .inl (1, sk N tx p)
noncomputable def turnc (N : Nat) (tx : Nat → Nat) (p : Nat) : (Nat × Nat) ⊕ (Nat × Nat) :=
  if sk N tx p < N ∧ (97 ≤ tx (sk N tx p) ∧ tx (sk N tx p) ≤ 122) then (if wl N tx (sk N tx p) = w_nev then .inr (0, sk N tx p + 5) else .inl (1, sk N tx p)) else
  match figr N tx p 0 9 with
  | .inl e => .inl e
  | .inr (v, p') => if v = 2 ∨ v = 3 ∨ v = 4 ∨ v = 6 then .inr (v, p') else .inl (2, p' - 1)
noncomputable def pairc (N : Nat) (tx : Nat → Nat) (m : Nat) (T : tT) (p : Nat) : (Nat × Nat) ⊕ (Nat × Nat × tT) :=
  match figr N tx p 0 (m - 1) with
  | .inl e => .inl e
  | .inr (i, p1) => match figr N tx p1 0 (m - 1) with
    | .inl e => .inl e
    | .inr (j, p2) => if i = j then .inl (2, p2 - 1) else if (T i j).isSome = true then .inl (3, p) else
      match turnc N tx p2 with
      | .inl e => .inl e
      | .inr (t, p3) => match endc N tx p3 with
        | .inl e => .inl e
        | .inr p4 => .inr (p4, m, tU T i j t)
noncomputable def mirc (N : Nat) (tx : Nat → Nat) (first : Bool) (T : tT) (p : Nat) : (Nat × Nat) ⊕ (Nat × Nat × tT) :=
  if wl N tx p = w_mir ∧ first = true then
    match figr N tx (p + 7) 1 5 with
    | .inl e => .inl e
    | .inr (v, p1) => match endc N tx p1 with
      | .inl e => .inl e
      | .inr p2 => .inr (p2, v, T)
  else .inl (1, p)
noncomputable def clf (N : Nat) (tx : Nat → Nat) (first : Bool) (m : Nat) (T : tT) (p : Nat) : (Nat × Nat) ⊕ (Nat × Nat × tT) :=
  if 97 ≤ tx p ∧ tx p ≤ 122 then mirc N tx first T p else pairc N tx m T p
/-- the class's reading: text, spot, mirrors, pairs told -/
def tb (N : Nat) (tx : Nat → Nat) (I : hI) : Prop := N ≤ 120 ∧ I 4 1 = nI N ∧ ∀ i, i < N → I 5 i = nI (tx i) ∧ tx i < 256
def tq (N : Nat) (tx : Nat → Nat) (p m : Nat) (T : tT) (I : hI) : Prop := tb N tx I ∧ p ≤ N ∧ I 4 2 = nI p ∧ I 4 3 = nI 0 ∧ I 4 4 = gI 1 ∧ 1 ≤ m ∧ m ≤ 5 ∧ I 4 5 = nI m ∧ (∀ i j, i < 5 → j < 5 → I 7 (i * 5 + j) = nI (if (T i j).isSome then 1 else 0) ∧ I 6 (i * 5 + j) = nI ((T i j).getD 2) ∧ (T i j).getD 2 < 10)
def tf (I I' : hI) : Prop := ∀ c, c ≠ 4 → c ≠ 6 → c ≠ 7 → I' c = I c
/-- a fault -/
def tw (N : Nat) (c q : Nat) (I I' : hI) : Prop := 1 ≤ c ∧ c ≤ 3 ∧ q ≤ N ∧ I' 4 3 = nI c ∧ I' 4 4 = nI q ∧ I' 4 1 = I 4 1
theorem tf_rf (I : hI) : tf I I := fun _ _ _ _ => rfl
theorem tf_tr {I I' I'' : hI} (h : tf I I') (h' : tf I' I'') : tf I I'' := fun c a b e => (h' c a b e).trans (h c a b e)
theorem tf_up (I : hI) (f : Nat) (x : Int32) : tf I (upI I 4 f x) := fun _ h _ _ => upI_ne h
section S
variable {l s d : Value} {tl : List hQ} {F : Nat} {I : hI} {J : hJ} {N p m : Nat} {tx : Nat → Nat} {T : tT}
theorem tq_p (h : tq N tx p m T I) {q : Nat} (hq : q ≤ N) : tq N tx q m T (upI I 4 2 (nI q)) := by
  obtain ⟨⟨h1, h2, h3⟩, h4, h5, h6, h7, h8, h9, h10, h11⟩ := h
  refine ⟨⟨h1, by rw [upI_at, if_neg (by decide), h2], fun i hi => by rw [upI_ne (by decide)]; exact h3 i hi⟩, hq, by rw [upI_at, if_pos rfl], by rw [upI_at, if_neg (by decide), h6], by rw [upI_at, if_neg (by decide), h7], h8, h9, by rw [upI_at, if_neg (by decide), h10], fun i j hi hj => ?_⟩
  rw [upI_ne (by decide), upI_ne (by decide)]
  exact h11 i j hi hj
/-- blame -/
theorem bl_e (c : Nat) (x : Int32) : e89 F 4 (nI c) x (mkH (hs l s d tl) I J) = some ((), (mkH (hs l s d tl) (upI (upI I 4 3 (nI c)) 4 4 x) J)) := by
  show m89_0 F 4 _ _ _ = _
  unfold m89_0
  simp only [rc0, gr0_0, gr0_1, gr0_2, gr0_3, gr0_4, gr0_5, gr0_6, gi0_7, pi0_7, rc1, gi1_0, pi1_0, gr1_1, gr1_2, rc4, gr4_0, gi4_1, pi4_1, gi4_2, pi4_2, gi4_3, pi4_3, gi4_4, pi4_4, gi4_5, pi4_5, gr4_6, gr4_7, rc8, gr8_0, gi8_1, pi8_1, gr8_2, gr8_3, gr8_4, gr8_5, gr8_6, rc14, gr14_0, gr14_1, gr14_2, gr14_3, gr14_4, gr14_5, rc19, gr19_0, gr19_1, gr19_2, gr19_3, rc22, gr22_0, gr22_1, gr22_2, gr22_3, Option.bind_some]
theorem bl_w (h : tb N tx I) {c q : Nat} (h1 : 1 ≤ c) (h3 : c ≤ 3) (hq : q ≤ N) : tw N c q I (upI (upI I 4 3 (nI c)) 4 4 (nI q)) := ⟨h1, h3, hq, by rw [upI_at, if_neg (by decide), upI_at, if_pos rfl], by rw [upI_at, if_pos rfl], by rw [upI_at, if_neg (by decide), upI_at, if_neg (by decide)]⟩
/-- findNext -/
theorem fn_e (h : tq N tx p m T I) (hF : 200 ≤ F) : ∃ I', ((sk N tx p < N ∧ e87 F 4 (mkH (hs l s d tl) I J) = some (nI 1, (mkH (hs l s d tl) I' J))) ∨ (¬ sk N tx p < N ∧ e87 F 4 (mkH (hs l s d tl) I J) = some (nI 0, (mkH (hs l s d tl) I' J)))) ∧ tq N tx (sk N tx p) m T I' ∧ tf I I' := by
  have hN := h.1.1
  have hpN := h.2.1
  have key := lpm (fun f (x : hI × Nat) => m87_0 F f 4 (mkH (hs l s d tl) x.1 J)) (fun x => N - x.2) (fun x => tq N tx x.2 m T x.1 ∧ tf I x.1 ∧ sk N tx x.2 = sk N tx p) (fun r => ∃ I', ((sk N tx p < N ∧ r = some (nI 1, (mkH (hs l s d tl) I' J))) ∨ (¬ sk N tx p < N ∧ r = some (nI 0, (mkH (hs l s d tl) I' J)))) ∧ tq N tx (sk N tx p) m T I' ∧ tf I I') ?_ F (I, p) ⟨h, tf_rf I, rfl⟩ (by dsimp only; omega)
  · exact key
  · rintro f ⟨I1, q⟩ ⟨h1, h2, h3⟩
    dsimp only at h1 h2 h3
    have hqN := h1.2.1
    have hsz := h1.1.2.1
    have hsp := h1.2.2.1
    show (∃ I', ((_ ∧ m87_0 F (f + 1) _ _ = _) ∨ (_ ∧ m87_0 F (f + 1) _ _ = _)) ∧ _) ∨ ∃ y : hI × Nat, m87_0 F (f + 1) _ _ = _ ∧ _
    rw [m87_0]
    by_cases hend : N ≤ q
    · left
      have hsk := sk_end (tx := tx) hend
      rw [h3] at hsk
      simp (disch := omega) only [rc0, gr0_0, gr0_1, gr0_2, gr0_3, gr0_4, gr0_5, gr0_6, gi0_7, pi0_7, rc1, gi1_0, pi1_0, gr1_1, gr1_2, rc4, gr4_0, gi4_1, pi4_1, gi4_2, pi4_2, gi4_3, pi4_3, gi4_4, pi4_4, gi4_5, pi4_5, gr4_6, gr4_7, rc8, gr8_0, gi8_1, pi8_1, gr8_2, gr8_3, gr8_4, gr8_5, gr8_6, rc14, gr14_0, gr14_1, gr14_2, gr14_3, gr14_4, gr14_5, rc19, gr19_0, gr19_1, gr19_2, gr19_3, rc22, gr22_0, gr22_1, gr22_2, gr22_3, Option.bind_some, hsz, hsp, c_ge]
      rw [if_pos hend]
      unfold m87_38 m87_54
      simp (disch := omega) only [rc0, gr0_0, gr0_1, gr0_2, gr0_3, gr0_4, gr0_5, gr0_6, gi0_7, pi0_7, rc1, gi1_0, pi1_0, gr1_1, gr1_2, rc4, gr4_0, gi4_1, pi4_1, gi4_2, pi4_2, gi4_3, pi4_3, gi4_4, pi4_4, gi4_5, pi4_5, gr4_6, gr4_7, rc8, gr8_0, gi8_1, pi8_1, gr8_2, gr8_3, gr8_4, gr8_5, gr8_6, rc14, gr14_0, gr14_1, gr14_2, gr14_3, gr14_4, gr14_5, rc19, gr19_0, gr19_1, gr19_2, gr19_3, rc22, gr22_0, gr22_1, gr22_2, gr22_3, Option.bind_some, hsz, hsp, c_ge]
      rw [if_pos hend, hsk]
      exact ⟨I1, Or.inr ⟨by omega, rfl⟩, h1, h2⟩
    · obtain ⟨hb, hb2⟩ := h1.1.2.2 q (by omega)
      simp (disch := omega) only [rc0, gr0_0, gr0_1, gr0_2, gr0_3, gr0_4, gr0_5, gr0_6, gi0_7, pi0_7, rc1, gi1_0, pi1_0, gr1_1, gr1_2, rc4, gr4_0, gi4_1, pi4_1, gi4_2, pi4_2, gi4_3, pi4_3, gi4_4, pi4_4, gi4_5, pi4_5, gr4_6, gr4_7, rc8, gr8_0, gi8_1, pi8_1, gr8_2, gr8_3, gr8_4, gr8_5, gr8_6, rc14, gr14_0, gr14_1, gr14_2, gr14_3, gr14_4, gr14_5, rc19, gr19_0, gr19_1, gr19_2, gr19_3, rc22, gr22_0, gr22_1, gr22_2, gr22_3, Option.bind_some, hsz, hsp, c_ge, rI5, wI5, hb, n_32, c_ne]
      rw [if_neg hend]
      by_cases h32 : tx q = 32
      · right
        rw [if_neg (fun h => h h32)]
        simp only [n_1, nI_add, Prod.exists]
        exact ⟨_, q + 1, rfl, ⟨tq_p h1 (by omega), tf_tr h2 (tf_up _ _ _), by rw [← sk_go (by omega) h32]; exact h3⟩, by omega⟩
      · left
        rw [if_pos h32]
        have hsk := sk_stop (N := N) (p := q) (by omega) h32
        rw [h3] at hsk
        unfold m87_38 m87_54
        simp (disch := omega) only [rc0, gr0_0, gr0_1, gr0_2, gr0_3, gr0_4, gr0_5, gr0_6, gi0_7, pi0_7, rc1, gi1_0, pi1_0, gr1_1, gr1_2, rc4, gr4_0, gi4_1, pi4_1, gi4_2, pi4_2, gi4_3, pi4_3, gi4_4, pi4_4, gi4_5, pi4_5, gr4_6, gr4_7, rc8, gr8_0, gi8_1, pi8_1, gr8_2, gr8_3, gr8_4, gr8_5, gr8_6, rc14, gr14_0, gr14_1, gr14_2, gr14_3, gr14_4, gr14_5, rc19, gr19_0, gr19_1, gr19_2, gr19_3, rc22, gr22_0, gr22_1, gr22_2, gr22_3, Option.bind_some, hsz, hsp, c_ge]
        rw [if_neg hend, hsk]
        exact ⟨I1, Or.inl ⟨by omega, rfl⟩, h1, h2⟩
/-- isLetter -/
theorem il_e (h : tb N tx I) {q : Nat} (hq : q < N) : (e88 F 4 (nI q) (mkH (hs l s d tl) I J) = some (nI 1, (mkH (hs l s d tl) I J)) ∧ ltr (tx q)) ∨ (e88 F 4 (nI q) (mkH (hs l s d tl) I J) = some (nI 0, (mkH (hs l s d tl) I J)) ∧ ¬ ltr (tx q)) := by
  obtain ⟨hb, hb2⟩ := h.2.2 q hq
  have hN := h.1
  show (m88_0 F 4 _ _ = _ ∧ _) ∨ (m88_0 F 4 _ _ = _ ∧ _)
  unfold m88_0 m88_26 m88_27
  simp (disch := omega) only [rc0, gr0_0, gr0_1, gr0_2, gr0_3, gr0_4, gr0_5, gr0_6, gi0_7, pi0_7, rc1, gi1_0, pi1_0, gr1_1, gr1_2, rc4, gr4_0, gi4_1, pi4_1, gi4_2, pi4_2, gi4_3, pi4_3, gi4_4, pi4_4, gi4_5, pi4_5, gr4_6, gr4_7, rc8, gr8_0, gi8_1, pi8_1, gr8_2, gr8_3, gr8_4, gr8_5, gr8_6, rc14, gr14_0, gr14_1, gr14_2, gr14_3, gr14_4, gr14_5, rc19, gr19_0, gr19_1, gr19_2, gr19_3, rc22, gr22_0, gr22_1, gr22_2, gr22_3, Option.bind_some, rI5, wI5, hb, n_97, n_122, c_lt, c_gt]
  unfold ltr
  by_cases h1 : tx q < 97
  · rw [if_pos h1]
    exact Or.inr ⟨rfl, by omega⟩
  · rw [if_neg h1]
    by_cases h2 : 122 < tx q
    · rw [if_pos h2]
      exact Or.inr ⟨rfl, by omega⟩
    · rw [if_neg h2]
      exact Or.inl ⟨rfl, by omega⟩
/-- takeFigure -/
theorem tg_e (h : tq N tx p m T I) (hF : 300 ≤ F) : (∃ I' v, figr N tx p 0 9 = .inr (v, sk N tx p + 1) ∧ v < 10 ∧ v = tx (sk N tx p) - 48 ∧ e84 F 4 (mkH (hs l s d tl) I J) = some (nI v, (mkH (hs l s d tl) I' J)) ∧ tq N tx (sk N tx p + 1) m T I' ∧ tf I I') ∨ (∃ I', figr N tx p 0 9 = .inl (1, sk N tx p) ∧ ¬ (sk N tx p < N ∧ 48 ≤ tx (sk N tx p) ∧ tx (sk N tx p) ≤ 57) ∧ e84 F 4 (mkH (hs l s d tl) I J) = some (gI 1, (mkH (hs l s d tl) I' J)) ∧ tw N 1 (sk N tx p) I I' ∧ tf I I') := by
  have hN := h.1.1
  have hpN := h.2.1
  obtain ⟨I1, e1, h1, h2⟩ := fn_e (l := l) (s := s) (d := d) (tl := tl) (F := F) (J := J) h (by omega)
  have hsz := h1.1.2.1
  have hsp := h1.2.2.1
  have hle := h1.2.1
  have h41 : I1 4 1 = I 4 1 := by rw [hsz, h.1.2.1]
  have bad : ¬ (sk N tx p < N ∧ 48 ≤ tx (sk N tx p) ∧ tx (sk N tx p) ≤ 57) → m84_35 F 4 (mkH (hs l s d tl) I1 J) = some (gI 1, (mkH (hs l s d tl) (upI (upI I1 4 3 (nI 1)) 4 4 (nI (sk N tx p))) J)) := by
    intro _
    unfold m84_35
    simp only [rc0, gr0_0, gr0_1, gr0_2, gr0_3, gr0_4, gr0_5, gr0_6, gi0_7, pi0_7, rc1, gi1_0, pi1_0, gr1_1, gr1_2, rc4, gr4_0, gi4_1, pi4_1, gi4_2, pi4_2, gi4_3, pi4_3, gi4_4, pi4_4, gi4_5, pi4_5, gr4_6, gr4_7, rc8, gr8_0, gi8_1, pi8_1, gr8_2, gr8_3, gr8_4, gr8_5, gr8_6, rc14, gr14_0, gr14_1, gr14_2, gr14_3, gr14_4, gr14_5, rc19, gr19_0, gr19_1, gr19_2, gr19_3, rc22, gr22_0, gr22_1, gr22_2, gr22_3, Option.bind_some, hsp, n_1, bl_e, n_m]
  have hw := bl_w h1.1 (c := 1) (q := sk N tx p) (by omega) (by omega) hle
  rw [show tw N 1 (sk N tx p) I1 _ ↔ tw N 1 (sk N tx p) I (upI (upI I1 4 3 (nI 1)) 4 4 (nI (sk N tx p))) by unfold tw; rw [h41]] at hw
  have htf : tf I (upI (upI I1 4 3 (nI 1)) 4 4 (nI (sk N tx p))) := tf_tr h2 (tf_tr (tf_up _ _ _) (tf_up _ _ _))
  unfold figr
  show (∃ I' v, _ ∧ _ ∧ _ ∧ m84_0 F 4 _ = _ ∧ _) ∨ (∃ I', _ ∧ _ ∧ m84_0 F 4 _ = _ ∧ _)
  unfold m84_0
  simp only [rc0, gr0_0, gr0_1, gr0_2, gr0_3, gr0_4, gr0_5, gr0_6, gi0_7, pi0_7, rc1, gi1_0, pi1_0, gr1_1, gr1_2, rc4, gr4_0, gi4_1, pi4_1, gi4_2, pi4_2, gi4_3, pi4_3, gi4_4, pi4_4, gi4_5, pi4_5, gr4_6, gr4_7, rc8, gr8_0, gi8_1, pi8_1, gr8_2, gr8_3, gr8_4, gr8_5, gr8_6, rc14, gr14_0, gr14_1, gr14_2, gr14_3, gr14_4, gr14_5, rc19, gr19_0, gr19_1, gr19_2, gr19_3, rc22, gr22_0, gr22_1, gr22_2, gr22_3, Option.bind_some]
  rcases e1 with ⟨hlt, e1⟩ | ⟨hlt, e1⟩
  · obtain ⟨hb, hb2⟩ := h1.1.2.2 _ hlt
    rw [e1]
    simp (disch := omega) only [Option.bind_some, d_eq, nn1z, if_false]
    simp (disch := omega) only [rc0, gr0_0, gr0_1, gr0_2, gr0_3, gr0_4, gr0_5, gr0_6, gi0_7, pi0_7, rc1, gi1_0, pi1_0, gr1_1, gr1_2, rc4, gr4_0, gi4_1, pi4_1, gi4_2, pi4_2, gi4_3, pi4_3, gi4_4, pi4_4, gi4_5, pi4_5, gr4_6, gr4_7, rc8, gr8_0, gi8_1, pi8_1, gr8_2, gr8_3, gr8_4, gr8_5, gr8_6, rc14, gr14_0, gr14_1, gr14_2, gr14_3, gr14_4, gr14_5, rc19, gr19_0, gr19_1, gr19_2, gr19_3, rc22, gr22_0, gr22_1, gr22_2, gr22_3, hsp, rI5, wI5, Option.bind_some, hb, n_48, n_57, c_lt, c_le]
    by_cases h48 : tx (sk N tx p) < 48
    · right
      have hn : ¬ (sk N tx p < N ∧ 48 ≤ tx (sk N tx p) ∧ tx (sk N tx p) ≤ 57) := by omega
      rw [if_pos h48, if_neg hn]
      exact ⟨_, by trivial, hn, bad hn, hw, htf⟩
    · rw [if_neg h48]
      by_cases h57 : tx (sk N tx p) ≤ 57
      · left
        have hy : sk N tx p < N ∧ 48 ≤ tx (sk N tx p) ∧ tx (sk N tx p) ≤ 57 := by omega
        have hsp2 : upI I1 4 2 (nI (sk N tx p + 1)) 4 2 = nI (sk N tx p + 1) := by rw [upI_at, if_pos rfl]
        have hb3 : upI I1 4 2 (nI (sk N tx p + 1)) 5 (sk N tx p) = nI (tx (sk N tx p)) := by rw [upI_ne (by decide), hb]
        rw [if_pos h57, if_pos hy, if_pos (by omega)]
        simp (disch := omega) only [n_1, nI_add, hsp2, pk_sub, Nat.add_sub_cancel, rI5, wI5, Option.bind_some, hb3]
        exact ⟨_, _, by trivial, by omega, rfl, by trivial, tq_p h1 (by omega), tf_tr h2 (tf_up _ _ _)⟩
      · right
        have hn : ¬ (sk N tx p < N ∧ 48 ≤ tx (sk N tx p) ∧ tx (sk N tx p) ≤ 57) := by omega
        rw [if_neg h57, if_neg hn]
        exact ⟨_, by trivial, hn, bad hn, hw, htf⟩
  · right
    have hn : ¬ (sk N tx p < N ∧ 48 ≤ tx (sk N tx p) ∧ tx (sk N tx p) ≤ 57) := by omega
    rw [e1, if_neg hn]
    simp (disch := omega) only [Option.bind_some, d_eq, if_true]
    exact ⟨_, by trivial, hn, bad hn, hw, htf⟩
/-- takeEnd -/
theorem te_e (h : tq N tx p m T I) (hF : 300 ≤ F) : (∃ I', endc N tx p = .inr (sk N tx p + 1) ∧ sk N tx p < N ∧ e85 F 4 (mkH (hs l s d tl) I J) = some ((), (mkH (hs l s d tl) I' J)) ∧ tq N tx (sk N tx p + 1) m T I' ∧ tf I I') ∨ (∃ I', endc N tx p = .inl (1, sk N tx p) ∧ e85 F 4 (mkH (hs l s d tl) I J) = some ((), (mkH (hs l s d tl) I' J)) ∧ tw N 1 (sk N tx p) I I' ∧ tf I I') := by
  have hN := h.1.1
  have hpN := h.2.1
  obtain ⟨I1, e1, h1, h2⟩ := fn_e (l := l) (s := s) (d := d) (tl := tl) (F := F) (J := J) h (by omega)
  have hsz := h1.1.2.1
  have hsp := h1.2.2.1
  have hle := h1.2.1
  have h41 : I1 4 1 = I 4 1 := by rw [hsz, h.1.2.1]
  have bad : m85_21 F 4 (mkH (hs l s d tl) I1 J) = some ((), (mkH (hs l s d tl) (upI (upI I1 4 3 (nI 1)) 4 4 (nI (sk N tx p))) J)) := by
    unfold m85_21 m85_43
    simp only [rc0, gr0_0, gr0_1, gr0_2, gr0_3, gr0_4, gr0_5, gr0_6, gi0_7, pi0_7, rc1, gi1_0, pi1_0, gr1_1, gr1_2, rc4, gr4_0, gi4_1, pi4_1, gi4_2, pi4_2, gi4_3, pi4_3, gi4_4, pi4_4, gi4_5, pi4_5, gr4_6, gr4_7, rc8, gr8_0, gi8_1, pi8_1, gr8_2, gr8_3, gr8_4, gr8_5, gr8_6, rc14, gr14_0, gr14_1, gr14_2, gr14_3, gr14_4, gr14_5, rc19, gr19_0, gr19_1, gr19_2, gr19_3, rc22, gr22_0, gr22_1, gr22_2, gr22_3, Option.bind_some, hsp, n_1, bl_e]
  have hw := bl_w h1.1 (c := 1) (q := sk N tx p) (by omega) (by omega) hle
  rw [show tw N 1 (sk N tx p) I1 _ ↔ tw N 1 (sk N tx p) I (upI (upI I1 4 3 (nI 1)) 4 4 (nI (sk N tx p))) by unfold tw; rw [h41]] at hw
  have htf : tf I (upI (upI I1 4 3 (nI 1)) 4 4 (nI (sk N tx p))) := tf_tr h2 (tf_tr (tf_up _ _ _) (tf_up _ _ _))
  unfold endc
  show (∃ I', _ ∧ _ ∧ m85_0 F 4 _ = _ ∧ _) ∨ (∃ I', _ ∧ m85_0 F 4 _ = _ ∧ _)
  unfold m85_0
  simp only [rc0, gr0_0, gr0_1, gr0_2, gr0_3, gr0_4, gr0_5, gr0_6, gi0_7, pi0_7, rc1, gi1_0, pi1_0, gr1_1, gr1_2, rc4, gr4_0, gi4_1, pi4_1, gi4_2, pi4_2, gi4_3, pi4_3, gi4_4, pi4_4, gi4_5, pi4_5, gr4_6, gr4_7, rc8, gr8_0, gi8_1, pi8_1, gr8_2, gr8_3, gr8_4, gr8_5, gr8_6, rc14, gr14_0, gr14_1, gr14_2, gr14_3, gr14_4, gr14_5, rc19, gr19_0, gr19_1, gr19_2, gr19_3, rc22, gr22_0, gr22_1, gr22_2, gr22_3, Option.bind_some]
  rcases e1 with ⟨hlt, e1⟩ | ⟨hlt, e1⟩
  · obtain ⟨hb, hb2⟩ := h1.1.2.2 _ hlt
    rw [e1]
    simp (disch := omega) only [Option.bind_some, d_eq, nn1z, if_false]
    simp (disch := omega) only [rc0, gr0_0, gr0_1, gr0_2, gr0_3, gr0_4, gr0_5, gr0_6, gi0_7, pi0_7, rc1, gi1_0, pi1_0, gr1_1, gr1_2, rc4, gr4_0, gi4_1, pi4_1, gi4_2, pi4_2, gi4_3, pi4_3, gi4_4, pi4_4, gi4_5, pi4_5, gr4_6, gr4_7, rc8, gr8_0, gi8_1, pi8_1, gr8_2, gr8_3, gr8_4, gr8_5, gr8_6, rc14, gr14_0, gr14_1, gr14_2, gr14_3, gr14_4, gr14_5, rc19, gr19_0, gr19_1, gr19_2, gr19_3, rc22, gr22_0, gr22_1, gr22_2, gr22_3, hsp, rI5, wI5, Option.bind_some, hb, n_59, c_eq]
    by_cases h59 : tx (sk N tx p) = 59
    · left
      rw [if_pos h59, if_pos ⟨hlt, h59⟩]
      unfold m85_43
      simp only [n_1, nI_add]
      exact ⟨_, by trivial, hlt, by trivial, tq_p h1 (by omega), tf_tr h2 (tf_up _ _ _)⟩
    · right
      rw [if_neg h59, if_neg (fun h => h59 h.2)]
      exact ⟨_, by trivial, bad, hw, htf⟩
  · right
    rw [e1, if_neg (fun h => hlt h.1)]
    simp (disch := omega) only [Option.bind_some, d_eq, if_true]
    exact ⟨_, by trivial, bad, hw, htf⟩
end S
