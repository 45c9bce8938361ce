/-! The class: Shelf: rows put there and found. -/
/-- a shelf with these elements, found by their hash -/
def shf (n : Nat) (A : Nat → Nat → Int) (ws : List (List Nat)) (q M : Nat) (I : hI) (J : hJ) : Prop := sfb q M I ∧ sfc n A ws q M I J ∧ sfh n A ws q M I J
/-- what is written when a shelf is -/
def sff (q : Nat) (I I' : hI) (J J' : hJ) : Prop := (∀ c, c ≠ q → c ≠ q + 2 → c ≠ q + 3 → c ≠ q + 4 → I' c = I c) ∧ ∀ c, c ≠ q + 1 → J' c = J c
theorem sff_rf (q : Nat) (I : hI) (J : hJ) : sff q I I J J := ⟨fun _ _ _ _ _ => rfl, fun _ _ => rfl⟩
theorem sff_tr {q : Nat} {I I' I'' : hI} {J J' J'' : hJ} (h : sff q I I' J J') (h' : sff q I' I'' J' J'') : sff q I I'' J J'' := ⟨fun c a b e f => (h'.1 c a b e f).trans (h.1 c a b e f), fun c a => (h'.2 c a).trans (h.2 c a)⟩
section S
variable {l s d : Value} {tl : List hQ} {F : Nat} {I : hI} {J : hJ} {n q M : Nat} {A : Nat → Nat → Int} {ws : List (List Nat)}
/-- clear -/
theorem cle_e (hS : shS (hs l s d tl) q M) (hb : sfb q M I) : e60 F q (mkH (hs l s d tl) I J) = some ((), (mkH (hs l s d tl) (upI I q 2 (nI 0)) J)) ∧ shf n A [] q M (upI I q 2 (nI 0)) J ∧ sff q I (upI I q 2 (nI 0)) J J := by
  have hM := sM hS
  refine ⟨?_, ⟨⟨?_, ?_, ?_⟩, ⟨by simp, by rw [upI_at, if_pos rfl]; rfl, fun k u h => (by cases h)⟩, ⟨fun i j u w h => (by cases h), fun k => k, fun k hk => (by simp at hk)⟩⟩, ⟨fun c hc _ _ _ => upI_ne hc, fun _ _ => rfl⟩⟩
  · show m60_0 F q _ = _
    unfold m60_0
    rw [p2 hS, Option.bind_some]
    rfl
  · rw [upI_at, if_neg (by decide)]
    exact hb.1
  · intro t ht
    rw [upI_ne (by omega)]
    exact hb.2.1 t ht
  · intro k hk
    rw [upI_ne (by omega)]
    exact hb.2.2 k hk
/-- isBelow -/
theorem ib_e (hS : shS (hs l s d tl) q M) (hok : cx_ok n A) (hn5 : n ≤ 5) (hc : sfc n A ws q M I J) {k : Nat} {u : List Nat} (hk : ws[k]? = some u) {t : Nat} (ht : t < n) : (e61 F q (nI k) (nI t) (mkH (hs l s d tl) I J) = some (nI 1, (mkH (hs l s d tl) I J)) ∧ dn n A u t) ∨ (e61 F q (nI k) (nI t) (mkH (hs l s d tl) I J) = some (nI 0, (mkH (hs l s d tl) I J)) ∧ ¬ dn n A u t) := by
  have hM := sM hS
  have hkl := (List.getElem?_eq_some_iff.mp hk).1
  have hl := hc.1
  obtain ⟨c1, c2, c3, -⟩ := hc.2.2 k u hk
  have hd := wt_dn hok c1 c2 c3 ht
  have e0 : e61 F q (nI k) (nI t) (mkH (hs l s d tl) I J) = m61_0 F q (nI k) (nI t) (mkH (hs l s d tl) I J) := rfl
  rw [e0]
  unfold m61_0 m61_20
  rw [s3 hS, Option.bind_some, n_5, pk_mul, nI_add, rdJ_H hS.2.1 (by omega) (by omega), Option.bind_some]
  by_cases hlt : J (q + 1) (k * 5 + t) < 0
  · left
    rw [if_neg (by rw [k_ge]; exact fun h => h hlt)]
    exact ⟨rfl, hd.mp hlt⟩
  · right
    rw [if_pos (by rw [k_ge]; exact hlt)]
    exact ⟨rfl, fun h => hlt (hd.mpr h)⟩
/-- putLast -/
theorem pl_e (hS : shS (hs l s d tl) q M) (hb : sfb q M I) (hg : cl_n n A I) (hc : sfc n A ws q M I J) (hF : 30 ≤ F) {a R : Nat} (ha : (hs l s d tl)[a]? = some (.inl (1, R))) (hR : R < 2 ^ 31) (h5 : 5 ≤ R) (haq : a ≠ q + 1) {u : List Nat} (hu : cx_L n u) (hl : cx_l n A u ≤ 31) (hw : wt n A u (J a) 0) : (ws.length = M ∧ e64 F q a (nI (cx_l n A u)) (mkH (hs l s d tl) I J) = some (nI 0, (mkH (hs l s d tl) I J))) ∨ (ws.length < M ∧ ∃ I' J', e64 F q a (nI (cx_l n A u)) (mkH (hs l s d tl) I J) = some (nI 1, (mkH (hs l s d tl) I' J')) ∧ sfb q M I' ∧ sfc n A (ws ++ [u]) q M I' J' ∧ (∀ c, c ≠ q → c ≠ q + 2 → I' c = I c) ∧ (∀ c, c ≠ q + 1 → J' c = J c) ∧ (∀ i, i < ws.length * 5 → J' (q + 1) i = J (q + 1) i) ∧ ∀ j, j < n → J' (q + 1) (ws.length * 5 + j) = J a j) := by
  have hM := sM hS
  have hn5 := hg.2.2.1
  have hlen := hc.1
  have e0 : e64 F q a (nI (cx_l n A u)) (mkH (hs l s d tl) I J) = m64_0 F q a (nI (cx_l n A u)) (mkH (hs l s d tl) I J) := rfl
  rw [e0]
  unfold m64_0
  rw [s2 hS, Option.bind_some, s1 hS, Option.bind_some, hc.2.1, hb.1]
  by_cases hlt : ws.length < M
  · right
    refine ⟨hlt, ?_⟩
    have h2' : ∀ (K : hI), K q 2 = nI ws.length → upI K (q + 2) ws.length (nI (cx_l n A u)) q 2 = nI ws.length := fun K hK => by rw [upI_ne (by omega), hK]
    rw [if_pos (show mc2 .lt (nI ws.length) (nI M) = true by rw [c_lt (by omega) (by omega)]; exact hlt), s0 hS, Option.bind_some, s3 hS, Option.bind_some, Option.bind_some, rc1, Option.bind_some, n_0, n_5, pk_mul, cr_e hg.2.2.2.1 hn5 (by omega) ha hS.2.1 hR (by omega) (by omega) (by omega) (Or.inl haq), Option.bind_some, s4 hS, Option.bind_some, s2 hS, Option.bind_some, hc.2.1, wrI_H hS.2.2.1 (by omega) hlt, Option.bind_some, s2 hS, Option.bind_some, h2' I hc.2.1, n_1, nI_add, p2 hS, Option.bind_some]
    refine ⟨_, _, rfl, ⟨?_, fun t ht => ?_, fun k hk => ?_⟩, ⟨by simp; omega, by rw [upI_at, if_pos rfl, List.length_append]; rfl, fun k w hk => ?_⟩, fun c c1 c2 => by rw [upI_ne c1, upI_ne c2], fun c hc => rwJ_ne hc, fun i hi => rwJ_out (by omega), fun j hj => by rw [rwJ_in hj, Nat.zero_add]⟩
    · rw [upI_at, if_neg (by decide), upI_ne (by omega)]
      exact hb.1
    · rw [upI_ne (by omega), upI_ne (by omega)]
      exact hb.2.1 t ht
    · rw [upI_ne (by omega), upI_ne (by omega)]
      exact hb.2.2 k hk
    · by_cases hkl : k < ws.length
      · rw [List.getElem?_append_left hkl] at hk
        obtain ⟨c1, c2, c3, c4⟩ := hc.2.2 k w hk
        refine ⟨c1, c2, fun j hj => ?_, ?_⟩
        · rw [rwJ_out (by omega)]
          exact c3 j hj
        · rw [upI_ne (by omega), upI_at, if_neg (by omega)]
          exact c4
      · have hke : k = ws.length := by
          have := (List.getElem?_eq_some_iff.mp hk).1
          rw [List.length_append] at this
          simp at this
          omega
        subst hke
        rw [List.getElem?_append_right (Nat.le_refl _), Nat.sub_self] at hk
        have := Option.some.inj hk
        subst this
        refine ⟨hu, hl, wt_cp hw, ?_⟩
        rw [upI_ne (by omega), upI_at, if_pos rfl]
  · left
    rw [if_neg (show ¬ mc2 .lt (nI ws.length) (nI M) = true by rw [c_lt (by omega) (by omega)]; exact hlt)]
    exact ⟨by omega, rfl⟩
/-- find -/
theorem fi_e (hS : shS (hs l s d tl) q M) (hg : cl_n n A I) (hh : shf n A ws q M I J) (hF : 9000 ≤ F) {a R : Nat} (ha : (hs l s d tl)[a]? = some (.inl (1, R))) (hR : R < 2 ^ 31) (h5 : 5 ≤ R) {u : List Nat} (hu : cx_L n u) (hl : cx_l n A u ≤ 31) (hw : wt n A u (J a) 0) : (∃ (k : Nat) (w : List Nat), ws[k]? = some w ∧ cx_g n A w = cx_g n A u ∧ e63 F q a (mkH (hs l s d tl) I J) = some (nI k, (mkH (hs l s d tl) I J))) ∨ ((∀ (k : Nat) (w : List Nat), ws[k]? = some w → cx_g n A w ≠ cx_g n A u) ∧ e63 F q a (mkH (hs l s d tl) I J) = some (gI 1, (mkH (hs l s d tl) I J))) := by
  obtain ⟨hb, hc, hin, σ, hσ⟩ := hh
  have hM := sM hS
  have hlen := hc.1
  have hσ3 : ∀ k, k < ws.length → σ k < 2 * M ∧ I (q + 4) k = nI (σ k) ∧ I (q + 3) (σ k) = nI k := fun k hk => ⟨(hσ k hk).1, (hσ k hk).2.1, (hσ k hk).2.2.1⟩
  have e0 : e63 F q a (mkH (hs l s d tl) I J) = m63_0 F q a (mkH (hs l s d tl) I J) := rfl
  rw [e0]
  unfold m63_0 m63_28 m63_29
  rw [sr hS, Option.bind_some]
  rcases slf_e hS hb hg hc hF hin hσ ha hR h5 hu hl hw with ⟨k, w, k1, k2, e1⟩ | ⟨k1, dk, d1, e1, d2, d3⟩
  · left
    have hkl := (List.getElem?_eq_some_iff.mp k1).1
    have hs2 := (hσ k hkl).1
    rw [e1, Option.bind_some, if_neg (show ¬ mc2 .eq (nI (σ k)) (-1) = true by rw [g_eq]; exact Ne.symm (gI_nI (k := 1) (by omega) (by omega) (by omega))), sr hS, Option.bind_some]
    rcases us_e (F := F) hS hb hc hσ3 hs2 with ⟨k', k3, k4, k5, e2⟩ | ⟨k3, _⟩
    · rw [e2, Option.bind_some, if_neg (show ¬ mc1 .eq (nI 1) = true by decide), s5 hS, Option.bind_some, rdI_H hS.2.2.2.1 (by omega) (by omega), Option.bind_some, (hσ k hkl).2.2.1]
      exact ⟨k, w, k1, k2, rfl⟩
    · exact absurd rfl (k3 k hkl)
  · right
    have hs2 : (hsh n M (J a) + dk) % (2 * M) < 2 * M := Nat.mod_lt _ (by omega)
    rw [e1, Option.bind_some, if_neg (show ¬ mc2 .eq (nI ((hsh n M (J a) + dk) % (2 * M))) (-1) = true by rw [g_eq]; exact Ne.symm (gI_nI (k := 1) (by omega) (by omega) (by omega))), sr hS, Option.bind_some]
    rcases us_e (F := F) hS hb hc hσ3 hs2 with ⟨k', k3, k4, k5, e2⟩ | ⟨k3, e2⟩
    · exact absurd k4 (d2 k' k3)
    · rw [e2, Option.bind_some, if_pos (show mc1 .eq (nI 0) = true by decide)]
      exact ⟨k1, rfl⟩
/-- numberOf -/
theorem no_e (hS : shS (hs l s d tl) q M) (hg : cl_n n A I) (hh : shf n A ws q M I J) (hF : 9000 ≤ F) {a R : Nat} (ha : (hs l s d tl)[a]? = some (.inl (1, R))) (hR : R < 2 ^ 31) (h5 : 5 ≤ R) (haq : a ≠ q + 1) {u : List Nat} (hu : cx_L n u) (hl : cx_l n A u ≤ 31) (hw : wt n A u (J a) 0) : (∃ (k : Nat) (w : List Nat), ws[k]? = some w ∧ cx_g n A w = cx_g n A u ∧ e62 F q a (nI (cx_l n A u)) (mkH (hs l s d tl) I J) = some (nI k, (mkH (hs l s d tl) I J))) ∨ ((∀ (k : Nat) (w : List Nat), ws[k]? = some w → cx_g n A w ≠ cx_g n A u) ∧ ((ws.length = M ∧ e62 F q a (nI (cx_l n A u)) (mkH (hs l s d tl) I J) = some (gI 1, (mkH (hs l s d tl) I J))) ∨ (ws.length < M ∧ ∃ I' J', e62 F q a (nI (cx_l n A u)) (mkH (hs l s d tl) I J) = some (nI ws.length, (mkH (hs l s d tl) I' J')) ∧ shf n A (ws ++ [u]) q M I' J' ∧ sff q I I' J J'))) := by
  obtain ⟨hb, hc, hin, σ, hσ⟩ := hh
  have hM := sM hS
  have hn5 := hg.2.2.1
  have hlen := hc.1
  have hσ3 : ∀ k, k < ws.length → σ k < 2 * M ∧ I (q + 4) k = nI (σ k) ∧ I (q + 3) (σ k) = nI k := fun k hk => ⟨(hσ k hk).1, (hσ k hk).2.1, (hσ k hk).2.2.1⟩
  have e0 : e62 F q a (nI (cx_l n A u)) (mkH (hs l s d tl) I J) = m62_0 F q a (nI (cx_l n A u)) (mkH (hs l s d tl) I J) := rfl
  rw [e0]
  unfold m62_0
  rw [sr hS, Option.bind_some]
  rcases slf_e hS hb hg hc hF hin hσ ha hR h5 hu hl hw with ⟨k, w, k1, k2, e1⟩ | ⟨k1, dk, d1, e1, d2, d3⟩
  · left
    have hkl := (List.getElem?_eq_some_iff.mp k1).1
    have hs2 := (hσ k hkl).1
    rw [e1, Option.bind_some, if_pos (show mc2 .ne (nI (σ k)) (-1) = true by rw [g_ne]; exact Ne.symm (gI_nI (k := 1) (by omega) (by omega) (by omega))), sr hS, Option.bind_some]
    rcases us_e (F := F) hS hb hc hσ3 hs2 with ⟨k', k3, k4, k5, e2⟩ | ⟨k3, _⟩
    · rw [e2, Option.bind_some, if_neg (show ¬ mc1 .eq (nI 1) = true by decide), s5 hS, Option.bind_some, rdI_H hS.2.2.2.1 (by omega) (by omega), Option.bind_some, (hσ k hkl).2.2.1]
      exact ⟨k, w, k1, k2, rfl⟩
    · exact absurd rfl (k3 k hkl)
  · right
    refine ⟨k1, ?_⟩
    have hs2 : (hsh n M (J a) + dk) % (2 * M) < 2 * M := Nat.mod_lt _ (by omega)
    rw [e1, Option.bind_some, if_pos (show mc2 .ne (nI ((hsh n M (J a) + dk) % (2 * M))) (-1) = true by rw [g_ne]; exact Ne.symm (gI_nI (k := 1) (by omega) (by omega) (by omega))), sr hS, Option.bind_some]
    rcases us_e (F := F) hS hb hc hσ3 hs2 with ⟨k', k3, k4, k5, e2⟩ | ⟨k3, e2⟩
    · exact absurd k4 (d2 k' k3)
    · rw [e2, Option.bind_some, if_pos (show mc1 .eq (nI 0) = true by decide), sr hS, Option.bind_some]
      rcases pl_e (F := F) hS hb hg hc (by omega) ha hR h5 haq hu hl hw with ⟨hf, e3⟩ | ⟨hf, I1, J1, e3, b1, b2, b3, b4, b5, b6⟩
      · left
        rw [e3, Option.bind_some, if_neg (show ¬ mc1 .ne (nI 0) = true by decide)]
        exact ⟨hf, rfl⟩
      · right
        refine ⟨hf, ?_⟩
        have hlen1 : (ws ++ [u]).length = ws.length + 1 := by rw [List.length_append]; rfl
        have h21 : I1 q 2 = nI (ws.length + 1) := by rw [b2.2.1, hlen1]
        generalize hsl : (hsh n M (J a) + dk) % (2 * M) = sl at *
        have h22 : upI I1 (q + 3) sl (nI ws.length) q 2 = nI (ws.length + 1) := by rw [upI_ne (by omega), h21]
        have h23 : upI (upI I1 (q + 3) sl (nI ws.length)) (q + 4) ws.length (nI sl) q 2 = nI (ws.length + 1) := by rw [upI_ne (by omega), h22]
        rw [e3, Option.bind_some, if_pos (show mc1 .ne (nI 1) = true by decide), s5 hS, Option.bind_some, s2 hS, Option.bind_some, h21, n_1, pk_sub1, wrI_H hS.2.2.2.1 (by omega) (by omega), Option.bind_some, s6 hS, Option.bind_some, s2 hS, Option.bind_some, h22, pk_sub1, wrI_H hS.2.2.2.2.1 (by omega) hf, Option.bind_some, s2 hS, Option.bind_some, h23, pk_sub1]
        have oth : ∀ c, c ≠ q + 3 → c ≠ q + 4 → (upI (upI I1 (q + 3) sl (nI ws.length)) (q + 4) ws.length (nI sl)) c = I1 c := fun c c1 c2 => by rw [upI_ne c2, upI_ne c1]
        have at3 : ∀ t, (upI (upI I1 (q + 3) sl (nI ws.length)) (q + 4) ws.length (nI sl)) (q + 3) t = if t = sl then nI ws.length else I (q + 3) t := by
          intro t
          rw [upI_ne (by omega), upI_at, b3 (q + 3) (by omega) (by omega)]
        have at4 : ∀ k, (upI (upI I1 (q + 3) sl (nI ws.length)) (q + 4) ws.length (nI sl)) (q + 4) k = if k = ws.length then nI sl else I (q + 4) k := by
          intro k
          rw [upI_at, upI_ne (by omega), b3 (q + 4) (by omega) (by omega)]
        refine ⟨_, J1, rfl, ⟨⟨?_, fun t ht => ?_, fun k hk => ?_⟩, ⟨b2.1, ?_, fun k w hk => ?_⟩, fun i j v w hi hj hvw => ?_, fun k => if k = ws.length then sl else σ k, fun k hk => ?_⟩, ⟨fun c c1 c2 c3 c4 => by rw [oth c c3 c4]; exact b3 c c1 c2, b4⟩⟩
        · rw [oth q (by omega) (by omega)]
          exact b1.1
        · rw [at3]
          split
          · exact ⟨ws.length, hf, rfl⟩
          · exact hb.2.1 t ht
        · rw [at4]
          split
          · exact ⟨sl, hs2, rfl⟩
          · exact hb.2.2 k hk
        · rw [oth q (by omega) (by omega)]
          exact b2.2.1
        · obtain ⟨c1, c2, c3, c4⟩ := b2.2.2 k w hk
          exact ⟨c1, c2, c3, by rw [oth (q + 2) (by omega) (by omega)]; exact c4⟩
        · have hi' := (List.getElem?_eq_some_iff.mp hi).1
          have hj' := (List.getElem?_eq_some_iff.mp hj).1
          rw [hlen1] at hi' hj'
          by_cases hil : i < ws.length
          · rw [List.getElem?_append_left hil] at hi
            by_cases hjl : j < ws.length
            · rw [List.getElem?_append_left hjl] at hj
              exact hin i j v w hi hj hvw
            · have : j = ws.length := by omega
              subst this
              rw [List.getElem?_append_right (Nat.le_refl _), Nat.sub_self] at hj
              rw [← Option.some.inj hj] at hvw
              exact absurd hvw (k1 i v hi)
          · have : i = ws.length := by omega
            subst this
            rw [List.getElem?_append_right (Nat.le_refl _), Nat.sub_self] at hi
            by_cases hjl : j < ws.length
            · rw [List.getElem?_append_left hjl] at hj
              rw [← Option.some.inj hi] at hvw
              exact absurd hvw.symm (k1 j w hj)
            · omega
        · rw [hlen1] at hk
          dsimp only
          have pth : ∀ {e : Nat} {hv : Nat}, (∃ k', k' < ws.length ∧ σ k' = (hv + e) % (2 * M)) → ∃ k', k' < (ws ++ [u]).length ∧ (if k' = ws.length then sl else σ k') = (hv + e) % (2 * M) := by
            rintro e hv ⟨k', a1, a2⟩
            exact ⟨k', by rw [hlen1]; omega, by rw [if_neg (by omega)]; exact a2⟩
          by_cases hke : k = ws.length
          · subst hke
            rw [if_pos rfl]
            have hhash : hsh n M (fun j => J1 (q + 1) (ws.length * 5 + j)) = hsh n M (J a) := by
              unfold hsh
              rw [hac_cg (f := fun j => J1 (q + 1) (ws.length * 5 + j)) (g := J a) (fun j hj => b6 j hj)]
            refine ⟨hs2, by rw [at4, if_pos rfl], by rw [at3, if_pos rfl], dk, d1, by rw [hhash, hsl], fun e he => ?_⟩
            rw [hhash]
            exact pth (d3 e he)
          · have hkl : k < ws.length := by omega
            obtain ⟨o1, o2, o3, dk', o4, o5, o6⟩ := hσ k hkl
            have hhash : hsh n M (fun j => J1 (q + 1) (k * 5 + j)) = hsh n M (fun j => J (q + 1) (k * 5 + j)) := by
              unfold hsh
              rw [hac_cg (f := fun j => J1 (q + 1) (k * 5 + j)) (g := fun j => J (q + 1) (k * 5 + j)) (fun j hj => b5 _ (by omega))]
            rw [if_neg hke]
            refine ⟨o1, by rw [at4, if_neg hke]; exact o2, by rw [at3, if_neg (d2 k hkl)]; exact o3, dk', o4, by rw [hhash]; exact o5, fun e he => ?_⟩
            rw [hhash]
            exact pth (o6 e he)
end S
