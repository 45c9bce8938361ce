/-! The reference's reading of a text. -/
def wcd : Int → List Nat → Int
  | a, [] => a
  | a, c :: r => wcd (if a > 20000000000 then 40000000000 else 27 * a + c - 96) r
theorem wcd_snoc (a : Int) (l : List Nat) (c : Nat) : wcd a (l ++ [c]) = if wcd a l > 20000000000 then 40000000000 else 27 * wcd a l + c - 96 := by
  induction l generalizing a with
  | nil => rfl
  | cons x l ih => exact ih _
theorem wcd_bd : ∀ (l : List Nat) {a : Int}, (∀ c ∈ l, 97 ≤ c ∧ c ≤ 122) → 0 ≤ a → a ≤ 600000000000 → 0 ≤ wcd a l ∧ wcd a l ≤ 600000000000 := by
  intro l
  induction l with
  | nil => intro a _ h1 h2; exact ⟨h1, h2⟩
  | cons c l ih =>
    intro a hl h1 h2
    have hc := hl c List.mem_cons_self
    rw [wcd]
    apply ih (fun d hd => hl d (List.mem_cons_of_mem _ hd))
    · split <;> omega
    · split <;> omega
theorem wcd_st {W : List Nat} {T T' d : Int} (hW : ∀ c ∈ W, 97 ≤ c ∧ c ≤ 122) (h : wcd 0 W = T) (hT : T = 27 * T' + d) (hd : 1 ≤ d) (hd2 : d ≤ 26) (hT4 : T < 40000000000) (hT0 : 0 ≤ T') : ∃ (l : List Nat) (c : Nat), W = l ++ [c] ∧ (c : Int) = d + 96 ∧ (∀ c ∈ l, 97 ≤ c ∧ c ≤ 122) ∧ wcd 0 l = T' := by
  rcases List.eq_nil_or_concat W with rfl | ⟨l, c, hWc⟩
  · have h' : (0 : Int) = T := h
    omega
  · rw [List.concat_eq_append] at hWc
    subst hWc
    have hl : ∀ c ∈ l, 97 ≤ c ∧ c ≤ 122 := fun x hx => hW x (List.mem_append_left _ hx)
    have hc := hW c (List.mem_append_right _ List.mem_cons_self)
    have hb := wcd_bd l hl (a := 0) (by omega) (by omega)
    rw [wcd_snoc] at h
    split at h
    · omega
    · exact ⟨l, c, rfl, by omega, hl, by omega⟩
theorem wcd_0 {W : List Nat} (hW : ∀ c ∈ W, 97 ≤ c ∧ c ≤ 122) (h : wcd 0 W = 0) : W = [] := by
  rcases List.eq_nil_or_concat W with rfl | ⟨l, c, hWc⟩
  · rfl
  · rw [List.concat_eq_append] at hWc
    subst hWc
    have hl : ∀ c ∈ l, 97 ≤ c ∧ c ≤ 122 := fun x hx => hW x (List.mem_append_left _ hx)
    have hc := hW c (List.mem_append_right _ List.mem_cons_self)
    have hb := wcd_bd l hl (a := 0) (by omega) (by omega)
    rw [wcd_snoc] at h
    split at h <;> omega
theorem wcd_nev {W : List Nat} (hW : ∀ c ∈ W, 97 ≤ c ∧ c ≤ 122) : wcd 0 W = 7554780 ↔ W = w_nev := by
  constructor
  · intro h
    obtain ⟨l1, c1, rfl, d1, hl1, h1⟩ := wcd_st hW h (T' := 279806) (d := 18) (by omega) (by omega) (by omega) (by omega) (by omega)
    obtain ⟨l2, c2, rfl, d2, hl2, h2⟩ := wcd_st hl1 h1 (T' := 10363) (d := 5) (by omega) (by omega) (by omega) (by omega) (by omega)
    obtain ⟨l3, c3, rfl, d3, hl3, h3⟩ := wcd_st hl2 h2 (T' := 383) (d := 22) (by omega) (by omega) (by omega) (by omega) (by omega)
    obtain ⟨l4, c4, rfl, d4, hl4, h4⟩ := wcd_st hl3 h3 (T' := 14) (d := 5) (by omega) (by omega) (by omega) (by omega) (by omega)
    obtain ⟨l5, c5, rfl, d5, hl5, h5⟩ := wcd_st hl4 h4 (T' := 0) (d := 14) (by omega) (by omega) (by omega) (by omega) (by omega)
    rw [wcd_0 hl5 h5, show c1 = 114 by omega, show c2 = 101 by omega, show c3 = 118 by omega, show c4 = 101 by omega, show c5 = 110 by omega]
    rfl
  · rintro rfl
    decide
theorem wcd_mir {W : List Nat} (hW : ∀ c ∈ W, 97 ≤ c ∧ c ≤ 122) : wcd 0 W = 5175538192 ↔ W = w_mir := by
  constructor
  · intro h
    obtain ⟨l1, c1, rfl, d1, hl1, h1⟩ := wcd_st hW h (T' := 191686599) (d := 19) (by omega) (by omega) (by omega) (by omega) (by omega)
    obtain ⟨l2, c2, rfl, d2, hl2, h2⟩ := wcd_st hl1 h1 (T' := 7099503) (d := 18) (by omega) (by omega) (by omega) (by omega) (by omega)
    obtain ⟨l3, c3, rfl, d3, hl3, h3⟩ := wcd_st hl2 h2 (T' := 262944) (d := 15) (by omega) (by omega) (by omega) (by omega) (by omega)
    obtain ⟨l4, c4, rfl, d4, hl4, h4⟩ := wcd_st hl3 h3 (T' := 9738) (d := 18) (by omega) (by omega) (by omega) (by omega) (by omega)
    obtain ⟨l5, c5, rfl, d5, hl5, h5⟩ := wcd_st hl4 h4 (T' := 360) (d := 18) (by omega) (by omega) (by omega) (by omega) (by omega)
    obtain ⟨l6, c6, rfl, d6, hl6, h6⟩ := wcd_st hl5 h5 (T' := 13) (d := 9) (by omega) (by omega) (by omega) (by omega) (by omega)
    obtain ⟨l7, c7, rfl, d7, hl7, h7⟩ := wcd_st hl6 h6 (T' := 0) (d := 13) (by omega) (by omega) (by omega) (by omega) (by omega)
    rw [wcd_0 hl7 h7, show c1 = 115 by omega, show c2 = 114 by omega, show c3 = 111 by omega, show c4 = 114 by omega, show c5 = 114 by omega, show c6 = 105 by omega, show c7 = 109 by omega]
    rfl
  · rintro rfl
    decide
theorem wl_ltr {N : Nat} {tx : Nat → Nat} : ∀ (k : Nat) {p : Nat}, N - p = k → ∀ c ∈ wl N tx p, 97 ≤ c ∧ c ≤ 122 := by
  intro k
  induction k with
  | zero =>
    intro p hk c hc
    rw [wl_end (by omega)] at hc
    cases hc
  | succ k ih =>
    intro p hk c hc
    by_cases h2 : ltr (tx p)
    · rw [wl_go (by omega) h2] at hc
      rcases List.mem_cons.mp hc with rfl | hc
      · exact h2
      · exact ih (p := p + 1) (by omega) c hc
    · rw [wl_stop (by omega) h2] at hc
      cases hc
/-- the reference's reading -/
def rq (N : Nat) (tx : Nat → Nat) (p m : Nat) (T : tT) (I : hI) : Prop := (N ≤ 120 ∧ I 26 5 = nI N ∧ ∀ i, i < N → I 30 i = nI (tx i) ∧ tx i < 256) ∧ p ≤ N ∧ I 26 7 = nI p ∧ I 26 6 = gI 1 ∧ 1 ≤ m ∧ m ≤ 5 ∧ I 26 12 = nI m ∧ (∀ i j, i < j → j < 5 → I 31 (5 * i + j) = nI (if (T i j).isSome then 1 else 0) ∧ I 29 (5 * i + j) = nI ((T i j).getD 2))
def rg (I I' : hI) : Prop := (∀ c, c ≠ 26 → c ≠ 29 → c ≠ 31 → I' c = I c) ∧ ∀ f, f ≠ 6 → f ≠ 7 → f ≠ 9 → f ≠ 10 → f ≠ 12 → I' 26 f = I 26 f
def rwg (N c q : Nat) (I' : hI) : Prop := 1 ≤ c ∧ c ≤ 3 ∧ q ≤ N ∧ I' 26 6 = nI q
theorem rg_rf (I : hI) : rg I I := ⟨fun _ _ _ _ => rfl, fun _ _ _ _ _ _ => rfl⟩
theorem rg_tr {I I' I'' : hI} (h : rg I I') (h' : rg I' I'') : rg I I'' := ⟨fun c a b e => (h'.1 c a b e).trans (h.1 c a b e), fun f a b c d e => (h'.2 f a b c d e).trans (h.2 f a b c d e)⟩
theorem rg_up (I : hI) {f : Nat} (x : Int32) (hf : f = 6 ∨ f = 7 ∨ f = 9 ∨ f = 10 ∨ f = 12) : rg I (upI I 26 f x) := ⟨fun _ h _ _ => upI_ne h, fun g _ _ _ _ _ => by rw [upI_at, if_neg (by omega)]⟩
section S
variable {l s d : Value} {tl : List hQ} {F : Nat} {I : hI} {J : hJ} {N p m : Nat} {tx : Nat → Nat} {T : tT}
theorem rq_p (h : rq N tx p m T I) {q : Nat} (hq : q ≤ N) : rq N tx q m T (upI I 26 7 (nI q)) := by
  obtain ⟨⟨h1, h2, h3⟩, h4, h5, h6, h8, h9, h10, h11⟩ := h
  refine ⟨⟨h1, by rw [upI_at, if_neg (by decide), h2], fun i hi => by rw [upI_ne (by decide)]; exact h3 i hi⟩, hq, by rw [upI_at, if_pos rfl], by rw [upI_at, if_neg (by decide), h6], h8, h9, by rw [upI_at, if_neg (by decide), h10], fun i j hi hj => ?_⟩
  rw [upI_ne (by decide), upI_ne (by decide)]
  exact h11 i j hi hj
theorem rq_f (h : rq N tx p m T I) {f : Nat} (x : Int32) (hf : f = 9 ∨ f = 10) : rq N tx p m T (upI I 26 f x) := by
  obtain ⟨⟨h1, h2, h3⟩, h4, h5, h6, h8, h9, h10, h11⟩ := h
  refine ⟨⟨h1, by rw [upI_at, if_neg (by omega), h2], fun i hi => by rw [upI_ne (by decide)]; exact h3 i hi⟩, h4, by rw [upI_at, if_neg (by omega), h5], by rw [upI_at, if_neg (by omega), h6], h8, h9, by rw [upI_at, if_neg (by omega), h10], fun i j hi hj => ?_⟩
  rw [upI_ne (by decide), upI_ne (by decide)]
  exact h11 i j hi hj
/-- fails -/
theorem fa_e (c : Nat) (x : Int32) : e141 F 26 (nI c) x (mkH (hs l s d tl) I J) = some (nI c, (mkH (hs l s d tl) (upI I 26 6 x) J)) := by
  show m141_0 F 26 _ _ _ = _
  unfold m141_0
  simp only [rc26, gi26_0, pi26_0, gr26_1, gr26_2, gr26_3, gr26_4, gi26_5, pi26_5, gi26_6, pi26_6, gi26_7, pi26_7, gl26_8, pl26_8, gi26_9, pi26_9, gi26_10, pi26_10, gr26_11, gi26_12, pi26_12, gr26_13, gr26_14, gi26_15, pi26_15, gi26_16, pi26_16, gr26_17, gr26_18, gi26_19, pi26_19, gr26_20, gr26_21, gr26_22, gr26_23, gr26_24, gr26_25, gr26_26, gi26_27, pi26_27, gr26_28, gr26_29, gi26_30, pi26_30, gi26_31, pi26_31, gr26_32, gr26_33, gr26_34, gr26_35, gr26_36, gr26_37, gr26_38, gr26_39, gr26_40, Option.bind_some]
theorem fa_w {c q : Nat} (h1 : 1 ≤ c) (h3 : c ≤ 3) (hq : q ≤ N) : rwg N c q (upI I 26 6 (nI q)) := ⟨h1, h3, hq, by rw [upI_at, if_pos rfl]⟩
/-- here -/
theorem he_e (h : rq N tx p m T I) (hF : 200 ≤ F) : ∃ I' v, e140 F 26 (mkH (hs l s d tl) I J) = some (v, (mkH (hs l s d tl) I' J)) ∧ rq N tx (sk N tx p) m T I' ∧ rg I I' ∧ ((sk N tx p < N ∧ v = nI (tx (sk N tx p))) ∨ (¬ sk N tx p < N ∧ v = gI 1)) := by
  have hN := h.1.1
  have hpN := h.2.1
  have key := lpm (fun f (x : hI × Nat) => m140_0 F f 26 (mkH (hs l s d tl) x.1 J)) (fun x => N - x.2) (fun x => rq N tx x.2 m T x.1 ∧ rg I x.1 ∧ sk N tx x.2 = sk N tx p) (fun r => ∃ I' v, r = some (v, (mkH (hs l s d tl) I' J)) ∧ rq N tx (sk N tx p) m T I' ∧ rg I I' ∧ ((sk N tx p < N ∧ v = nI (tx (sk N tx p))) ∨ (¬ sk N tx p < N ∧ v = gI 1))) ?_ F (I, p) ⟨h, rg_rf I, rfl⟩ (by dsimp only; omega)
  · exact key
  · rintro f ⟨I1, q⟩ ⟨h1, h2, h3⟩
    dsimp only at h1 h2 h3
    have hqN := h1.2.1
    have hsz := h1.1.2.1
    have hsp := h1.2.2.1
    show (∃ I' v, m140_0 F (f + 1) _ _ = _ ∧ _) ∨ ∃ y : hI × Nat, m140_0 F (f + 1) _ _ = _ ∧ _
    rw [m140_0]
    dsimp only
    by_cases hend : N ≤ q
    · left
      have hsk := sk_end (tx := tx) hend
      rw [h3] at hsk
      simp (disch := omega) only [rc26, gi26_0, pi26_0, gr26_1, gr26_2, gr26_3, gr26_4, gi26_5, pi26_5, gi26_6, pi26_6, gi26_7, pi26_7, gl26_8, pl26_8, gi26_9, pi26_9, gi26_10, pi26_10, gr26_11, gi26_12, pi26_12, gr26_13, gr26_14, gi26_15, pi26_15, gi26_16, pi26_16, gr26_17, gr26_18, gi26_19, pi26_19, gr26_20, gr26_21, gr26_22, gr26_23, gr26_24, gr26_25, gr26_26, gi26_27, pi26_27, gr26_28, gr26_29, gi26_30, pi26_30, gi26_31, pi26_31, gr26_32, gr26_33, gr26_34, gr26_35, gr26_36, gr26_37, gr26_38, gr26_39, gr26_40, Option.bind_some, hsz, hsp, c_ge]
      rw [if_pos hend]
      unfold m140_38 m140_62
      simp (disch := omega) only [rc26, gi26_0, pi26_0, gr26_1, gr26_2, gr26_3, gr26_4, gi26_5, pi26_5, gi26_6, pi26_6, gi26_7, pi26_7, gl26_8, pl26_8, gi26_9, pi26_9, gi26_10, pi26_10, gr26_11, gi26_12, pi26_12, gr26_13, gr26_14, gi26_15, pi26_15, gi26_16, pi26_16, gr26_17, gr26_18, gi26_19, pi26_19, gr26_20, gr26_21, gr26_22, gr26_23, gr26_24, gr26_25, gr26_26, gi26_27, pi26_27, gr26_28, gr26_29, gi26_30, pi26_30, gi26_31, pi26_31, gr26_32, gr26_33, gr26_34, gr26_35, gr26_36, gr26_37, gr26_38, gr26_39, gr26_40, Option.bind_some, hsz, hsp, c_ge, n_1, n_m]
      rw [if_pos hend, hsk]
      exact ⟨I1, _, rfl, h1, h2, Or.inr ⟨by omega, rfl⟩⟩
    · obtain ⟨hb, hb2⟩ := h1.1.2.2 q (by omega)
      simp (disch := omega) only [rc26, gi26_0, pi26_0, gr26_1, gr26_2, gr26_3, gr26_4, gi26_5, pi26_5, gi26_6, pi26_6, gi26_7, pi26_7, gl26_8, pl26_8, gi26_9, pi26_9, gi26_10, pi26_10, gr26_11, gi26_12, pi26_12, gr26_13, gr26_14, gi26_15, pi26_15, gi26_16, pi26_16, gr26_17, gr26_18, gi26_19, pi26_19, gr26_20, gr26_21, gr26_22, gr26_23, gr26_24, gr26_25, gr26_26, gi26_27, pi26_27, gr26_28, gr26_29, gi26_30, pi26_30, gi26_31, pi26_31, gr26_32, gr26_33, gr26_34, gr26_35, gr26_36, gr26_37, gr26_38, gr26_39, gr26_40, Option.bind_some, hsz, hsp, c_ge, rI30, wI30, hb, n_32, c_ne]
      rw [if_neg hend]
      by_cases h32 : tx q = 32
      · right
        rw [if_neg (fun h => h h32)]
        simp only [n_1, nI_add, Prod.exists]
        exact ⟨_, q + 1, rfl, ⟨rq_p h1 (by omega), rg_tr h2 (rg_up _ _ (by omega)), by rw [← sk_go (by omega) h32]; exact h3⟩, by omega⟩
      · left
        rw [if_pos h32]
        have hsk := sk_stop (N := N) (p := q) (by omega) h32
        rw [h3] at hsk
        unfold m140_38 m140_62
        simp (disch := omega) only [rc26, gi26_0, pi26_0, gr26_1, gr26_2, gr26_3, gr26_4, gi26_5, pi26_5, gi26_6, pi26_6, gi26_7, pi26_7, gl26_8, pl26_8, gi26_9, pi26_9, gi26_10, pi26_10, gr26_11, gi26_12, pi26_12, gr26_13, gr26_14, gi26_15, pi26_15, gi26_16, pi26_16, gr26_17, gr26_18, gi26_19, pi26_19, gr26_20, gr26_21, gr26_22, gr26_23, gr26_24, gr26_25, gr26_26, gi26_27, pi26_27, gr26_28, gr26_29, gi26_30, pi26_30, gi26_31, pi26_31, gr26_32, gr26_33, gr26_34, gr26_35, gr26_36, gr26_37, gr26_38, gr26_39, gr26_40, Option.bind_some, hsz, hsp, c_ge, rI30, wI30, hb]
        rw [if_neg hend, hsk]
        exact ⟨I1, _, rfl, h1, h2, Or.inl ⟨by omega, rfl⟩⟩
theorem bw_k {x a b : Nat} (hx : x < 2 ^ 31) (ha : a < 2 ^ 31) (hb : b < 2 ^ 31) (hp : List mE) : (e137 F (nI x).toInt64 (nI a).toInt64 (nI b).toInt64 hp = some (nI 1, hp) ∧ a ≤ x ∧ x ≤ b) ∨ (e137 F (nI x).toInt64 (nI a).toInt64 (nI b).toInt64 hp = some (nI 0, hp) ∧ ¬ (a ≤ x ∧ x ≤ b)) := by
  rcases bw_g (F := F) (nI x).toInt64 (nI a).toInt64 (nI b).toInt64 hp with ⟨h1, h2, h3⟩ | ⟨h1, h2⟩
  · left
    rw [Int32.toInt_toInt64, Int32.toInt_toInt64, nI_toInt hx, nI_toInt ha] at h2
    rw [Int32.toInt_toInt64, Int32.toInt_toInt64, nI_toInt hx, nI_toInt hb] at h3
    exact ⟨h1, by omega, by omega⟩
  · right
    rw [Int32.toInt_toInt64, Int32.toInt_toInt64, Int32.toInt_toInt64, nI_toInt hx, nI_toInt ha, nI_toInt hb] at h2
    exact ⟨h1, by omega⟩
theorem bw_m {a b : Nat} (ha : a < 2 ^ 31) (hp : List mE) : e137 F (gI 1).toInt64 (nI a).toInt64 (nI b).toInt64 hp = some (nI 0, hp) := by
  rcases bw_g (F := F) (gI 1).toInt64 (nI a).toInt64 (nI b).toInt64 hp with ⟨h1, h2, h3⟩ | ⟨h1, h2⟩
  · rw [Int32.toInt_toInt64, Int32.toInt_toInt64, nI_toInt ha, gI_toInt (by omega)] at h2
    omega
  · exact h1
theorem l_48 : (48 : Int64) = (nI 48).toInt64 := by decide
theorem l_57 : (57 : Int64) = (nI 57).toInt64 := by decide
theorem l_97 : (97 : Int64) = (nI 97).toInt64 := by decide
theorem l_122 : (122 : Int64) = (nI 122).toInt64 := by decide
/-- readFigure -/
theorem rf_e (h : rq N tx p m T I) (hF : 300 ≤ F) {lo hi : Nat} (hlo : lo < 10) (hhi : hi < 10) : (∃ I' v, figr N tx p lo hi = .inr (v, sk N tx p + 1) ∧ v < 10 ∧ sk N tx p < N ∧ e144 F 26 (nI lo) (nI hi) (mkH (hs l s d tl) I J) = some (nI 0, (mkH (hs l s d tl) I' J)) ∧ rq N tx (sk N tx p + 1) m T I' ∧ I' 26 10 = nI v ∧ rg I I') ∨ (∃ I' c, figr N tx p lo hi = .inl (c, sk N tx p) ∧ e144 F 26 (nI lo) (nI hi) (mkH (hs l s d tl) I J) = some (nI c, (mkH (hs l s d tl) I' J)) ∧ rwg N c (sk N tx p) I' ∧ rg I I') := by
  have hN := h.1.1
  have hpN := h.2.1
  obtain ⟨I1, v0, e1, h1, h2, h3⟩ := he_e (l := l) (s := s) (d := d) (tl := tl) (F := F) (J := J) h (by omega)
  have hsp := h1.2.2.1
  have hle := h1.2.1
  have bad : ∀ {v : Int32}, e137 F v.toInt64 48 57 (mkH (hs l s d tl) I1 J) = some (nI 0, (mkH (hs l s d tl) I1 J)) → e140 F 26 (mkH (hs l s d tl) I J) = some (v, (mkH (hs l s d tl) I1 J)) → e144 F 26 (nI lo) (nI hi) (mkH (hs l s d tl) I J) = some (nI 1, (mkH (hs l s d tl) (upI I1 26 6 (nI (sk N tx p))) J)) := by
    intro v hv he
    show m144_0 F 26 _ _ _ = _
    unfold m144_0
    rw [rc26, Option.bind_some, he, Option.bind_some, hv, Option.bind_some, if_neg (show ¬ mc1 .ne (nI 0) = true by decide), gi26_7, Option.bind_some, rc26, Option.bind_some, hsp, n_1, fa_e, Option.bind_some]
  rcases h3 with ⟨hlt, rfl⟩ | ⟨hlt, rfl⟩
  · obtain ⟨hb, hb2⟩ := h1.1.2.2 _ hlt
    rcases bw_k (F := F) (x := tx (sk N tx p)) (a := 48) (b := 57) (by omega) (by omega) (by omega) (mkH (hs l s d tl) I1 J) with ⟨e2, h4, h5⟩ | ⟨e2, h4⟩
    · have hy : sk N tx p < N ∧ 48 ≤ tx (sk N tx p) ∧ tx (sk N tx p) ≤ 57 := ⟨hlt, h4, h5⟩
      have h10 : upI I1 26 10 (nI (tx (sk N tx p) - 48)) 26 10 = nI (tx (sk N tx p) - 48) := by rw [upI_at, if_pos rfl]
      have hsp2 : upI I1 26 10 (nI (tx (sk N tx p) - 48)) 26 7 = nI (sk N tx p) := by rw [upI_at, if_neg (by decide), hsp]
      have h1' := rq_f h1 (f := 10) (nI (tx (sk N tx p) - 48)) (Or.inr rfl)
      rw [← l_48, ← l_57] at e2
      have e3 : e144 F 26 (nI lo) (nI hi) (mkH (hs l s d tl) I J) = (e137 F (nI (tx (sk N tx p) - 48)).toInt64 (nI lo).toInt64 (nI hi).toInt64 (mkH (hs l s d tl) (upI I1 26 10 (nI (tx (sk N tx p) - 48))) J)).bind fun q7 => if mc1 .ne q7.1 = true then (gfi 11 7 q7.2 26).bind fun x9 => (pfv 11 7 q7.2 26 (.int (x9 + 1))).bind fun hp10 => some (0, hp10) else (gfi 11 7 q7.2 26).bind fun x11 => (rcv 11 q7.2 26).bind fun u13 => (e141 F 26 2 x11 q7.2).bind fun q12 => some (q12.1, q12.2) := by
        show m144_0 F 26 _ _ _ = _
        unfold m144_0
        rw [rc26, Option.bind_some, e1, Option.bind_some, e2, Option.bind_some, if_pos (show mc1 .ne (nI 1) = true by decide), n_48, pk_sub h4, pi26_10, Option.bind_some, gi26_10, Option.bind_some, h10]
      rw [e3]
      unfold figr
      rw [if_pos hy]
      rcases bw_k (F := F) (x := tx (sk N tx p) - 48) (a := lo) (b := hi) (by omega) (by omega) (by omega) (mkH (hs l s d tl) (upI I1 26 10 (nI (tx (sk N tx p) - 48))) J) with ⟨e4, h6, h7⟩ | ⟨e4, h6⟩
      · left
        rw [if_pos ⟨h6, h7⟩, e4, Option.bind_some, if_pos (show mc1 .ne (nI 1) = true by decide), gi26_7, Option.bind_some, hsp2, n_1, nI_add, pi26_7, Option.bind_some]
        exact ⟨_, _, rfl, by omega, hlt, rfl, rq_p h1' (by omega), by rw [upI_at, if_neg (by decide), h10], rg_tr h2 (rg_tr (rg_up _ _ (by omega)) (rg_up _ _ (by omega)))⟩
      · right
        rw [if_neg h6, e4, Option.bind_some, if_neg (show ¬ mc1 .ne (nI 0) = true by decide), gi26_7, Option.bind_some, rc26, Option.bind_some, hsp2, n_2, fa_e, Option.bind_some]
        exact ⟨_, 2, rfl, rfl, fa_w (by omega) (by omega) hle, rg_tr h2 (rg_tr (rg_up _ _ (by omega)) (rg_up _ _ (by omega)))⟩
    · right
      rw [← l_48, ← l_57] at e2
      refine ⟨_, 1, ?_, bad e2 e1, fa_w (by omega) (by omega) hle, rg_tr h2 (rg_up _ _ (by omega))⟩
      unfold figr
      rw [if_neg (fun h => h4 ⟨h.2.1, h.2.2⟩)]
  · right
    have e2 := bw_m (F := F) (a := 48) (b := 57) (by omega) (mkH (hs l s d tl) I1 J)
    rw [← l_48, ← l_57] at e2
    refine ⟨_, 1, ?_, bad e2 e1, fa_w (by omega) (by omega) hle, rg_tr h2 (rg_up _ _ (by omega))⟩
    unfold figr
    rw [if_neg (fun h => hlt h.1)]
/-- readWord -/
theorem rwd_e (h : rq N tx p m T I) (hsk : sk N tx p = p) (hF : 300 ≤ F) : ∃ I' J', e142 F 26 (mkH (hs l s d tl) I J) = some ((), (mkH (hs l s d tl) I' J')) ∧ rq N tx p m T I' ∧ I' 26 9 = nI (p + (wl N tx p).length) ∧ J' 26 8 = zJ (wcd 0 (wl N tx p)) ∧ rg I I' ∧ ∀ c, c ≠ 26 → J' c = J c := by
  have hN := h.1.1
  have hpN := h.2.1
  obtain ⟨I1, v0, e1, h1, h2, -⟩ := he_e (l := l) (s := s) (d := d) (tl := tl) (F := F) (J := J) h (by omega)
  rw [hsk] at h1
  have e0 : e142 F 26 (mkH (hs l s d tl) I J) = m142_0 F 26 (mkH (hs l s d tl) I J) := rfl
  rw [e0]
  unfold m142_0
  rw [rc26, Option.bind_some, e1, Option.bind_some, pl26_8, Option.bind_some, gi26_7, Option.bind_some, h1.2.2.1, pi26_9, Option.bind_some]
  refine lpm (fun f (x : hI × hJ × Nat × Int) => m142_18 F f 26 (mkH (hs l s d tl) x.1 x.2.1)) (fun x => N - x.2.2.1) (fun x => rq N tx p m T x.1 ∧ rg I x.1 ∧ x.1 26 9 = nI x.2.2.1 ∧ x.2.2.1 ≤ N ∧ x.2.1 26 8 = zJ x.2.2.2 ∧ 0 ≤ x.2.2.2 ∧ x.2.2.2 ≤ 600000000000 ∧ wcd 0 (wl N tx p) = wcd x.2.2.2 (wl N tx x.2.2.1) ∧ p + (wl N tx p).length = x.2.2.1 + (wl N tx x.2.2.1).length ∧ ∀ c, c ≠ 26 → x.2.1 c = J c) (fun r => ∃ I' J', r = some ((), (mkH (hs l s d tl) I' J')) ∧ rq N tx p m T I' ∧ I' 26 9 = nI (p + (wl N tx p).length) ∧ J' 26 8 = zJ (wcd 0 (wl N tx p)) ∧ rg I I' ∧ ∀ c, c ≠ 26 → J' c = J c) ?_ F (upI I1 26 9 (nI p), upJ J 26 8 0, p, 0) ⟨rq_f h1 _ (Or.inl rfl), rg_tr h2 (rg_up _ _ (by omega)), by dsimp only; rw [upI_at, if_pos rfl], hpN, by dsimp only; rw [upJ_at, if_pos rfl]; rfl, by dsimp only; omega, by dsimp only; omega, rfl, rfl, fun c hc => upJ_ne hc⟩ (by dsimp only; omega)
  rintro f ⟨I2, J2, q, a⟩ ⟨k1, k2, k3, k4, k5, k6, k7, k8, k9, k10⟩
  dsimp only at k1 k2 k3 k4 k5 k6 k7 k8 k9 k10
  have hsz := k1.1.2.1
  show (∃ I' J', m142_18 F (f + 1) _ _ = _ ∧ _) ∨ ∃ y : hI × hJ × Nat × Int, m142_18 F (f + 1) _ _ = _ ∧ _
  rw [m142_18]
  dsimp only
  have stop : wl N tx q = [] → ∃ I' J', m142_108 F (mkH (hs l s d tl) I2 J2) = some ((), (mkH (hs l s d tl) I' J')) ∧ rq N tx p m T I' ∧ I' 26 9 = nI (p + (wl N tx p).length) ∧ J' 26 8 = zJ (wcd 0 (wl N tx p)) ∧ rg I I' ∧ ∀ c, c ≠ 26 → J' c = J c := by
    intro hw
    rw [hw] at k8 k9
    refine ⟨I2, J2, rfl, k1, ?_, ?_, k2, k10⟩
    · rw [k3, k9]; rfl
    · rw [k5, k8]; rfl
  rw [gi26_9, Option.bind_some, gi26_5, Option.bind_some, k3, hsz]
  by_cases hend : N ≤ q
  · left
    rw [if_pos (show mc2 .ge (nI q) (nI N) = true by rw [c_ge (by omega) (by omega)]; exact hend)]
    exact stop (wl_end hend)
  · obtain ⟨hb, hb2⟩ := k1.1.2.2 q (by omega)
    rw [if_neg (show ¬ mc2 .ge (nI q) (nI N) = true by rw [c_ge (by omega) (by omega)]; exact hend), gr26_4, Option.bind_some, Option.bind_some, rI30 (by omega), Option.bind_some, hb]
    rcases bw_k (F := F) (x := tx q) (a := 97) (b := 122) (by omega) (by omega) (by omega) (mkH (hs l s d tl) I2 J2) with ⟨e2, h4, h5⟩ | ⟨e2, h4⟩
    · right
      have hlt : ltr (tx q) := ⟨h4, h5⟩
      have hwl := wl_go (N := N) (p := q) (by omega) hlt
      rw [hwl] at k8 k9
      rw [List.length_cons] at k9
      rw [wcd] at k8
      rw [← l_97, ← l_122] at e2
      rw [e2, Option.bind_some, if_neg (show ¬ mc1 .eq (nI 1) = true by decide), gl26_8, Option.bind_some, k5]
      have h9 : ∀ (y : Int64), upJ J2 26 8 y 26 8 = y := fun y => by rw [upJ_at, if_pos rfl]
      have hin1 : -2 ^ 63 ≤ a := by omega
      have hin2 : a < 2 ^ 63 := by omega
      have hcmp : (mc1 .le (lg_cmp (zJ a) 20000000000) = true) = (a ≤ 20000000000) := by
        have hgt := k_gt (zJ a) 20000000000
        have e20 : (20000000000 : Int64) = zJ 20000000000 := by decide
        apply propext
        have hz : ((20000000000 : Int64) < zJ a) ↔ 20000000000 < a := by
          rw [e20, Int64.lt_iff_toInt_lt]
          unfold zJ
          rw [Int64.toInt_ofInt_of_le (by decide) (by decide), Int64.toInt_ofInt_of_le hin1 hin2]
        have hle : (mc1 .le (lg_cmp (zJ a) 20000000000) = true) ↔ ¬ (mc1 .gt (lg_cmp (zJ a) 20000000000) = true) := by
          unfold mc1
          simp only [decide_eq_true_eq, Int32.le_iff_toInt_le, Int32.lt_iff_toInt_lt, gt_iff_lt]
          omega
        rw [hle, hgt, hz]
        omega
      unfold m142_92
      by_cases ha : a ≤ 20000000000
      · rw [if_pos (by rw [hcmp]; exact ha)]
        rw [if_neg (by omega)] at k8
        rw [Option.bind_some]
        dsimp only
        rw [gr26_4, Option.bind_some, gi26_9, Option.bind_some, k3, rI30 (by omega), Option.bind_some, hb, pl26_8, Option.bind_some, gi26_9, Option.bind_some, k3, n_1, nI_add, pi26_9, Option.bind_some]
        have ev : 27 * zJ a + (nI (tx q)).toInt64 - 96 = zJ (27 * a + (tx q : Int) - 96) := by
          have e27 : (27 : Int64) = zJ 27 := by decide
          have e96 : (96 : Int64) = zJ 96 := by decide
          have et : (nI (tx q)).toInt64 = zJ (tx q : Int) := by
            rw [nI_l (by omega)]
            unfold zJ lN
            exact (Int64.ofInt_eq_ofNat).symm
          rw [e27, e96, et, zJ_mul, zJ_add, zJ_sub]
        rw [ev]
        simp only [Prod.exists]
        exact ⟨_, _, q + 1, 27 * a + (tx q : Int) - 96, rfl, ⟨rq_f k1 _ (Or.inl rfl), rg_tr k2 (rg_up _ _ (by omega)), by rw [upI_at, if_pos rfl], by omega, h9 _, by omega, by omega, k8, by omega, fun c hc => (upJ_ne hc).trans (k10 c hc)⟩, by omega⟩
      · rw [if_neg (by rw [hcmp]; exact ha)]
        rw [if_pos (by omega)] at k8
        rw [pl26_8, Option.bind_some, gi26_9, Option.bind_some, k3, n_1, nI_add, pi26_9, Option.bind_some]
        have ev : (40000000000 : Int64) = zJ 40000000000 := by decide
        rw [ev]
        simp only [Prod.exists]
        exact ⟨_, _, q + 1, 40000000000, rfl, ⟨rq_f k1 _ (Or.inl rfl), rg_tr k2 (rg_up _ _ (by omega)), by rw [upI_at, if_pos rfl], by omega, h9 _, by omega, by omega, k8, by omega, fun c hc => (upJ_ne hc).trans (k10 c hc)⟩, by omega⟩
    · left
      rw [← l_97, ← l_122] at e2
      rw [e2, Option.bind_some, if_pos (show mc1 .eq (nI 0) = true by decide)]
      exact stop (wl_stop (N := N) (p := q) (by omega) (fun h => h4 h))
end S
