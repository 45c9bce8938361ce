/-! The class: Shelf. -/
theorem pig : ∀ (b a : Nat) (f : Nat → Nat), (∀ e, e < a → f e < b) → (∀ e e', e < a → e' < a → f e = f e' → e = e') → a ≤ b := by
  intro b
  induction b with
  | zero =>
    intro a f h1 _
    cases a with
    | zero => exact Nat.le_refl _
    | succ a => exact absurd (h1 0 (by omega)) (by omega)
  | succ b ih =>
    intro a f h1 h2
    by_cases h : ∃ e, e < a ∧ f e = b
    · obtain ⟨e0, he0, hf0⟩ := h
      have := ih (a - 1) (fun e => if e < e0 then f e else f (e + 1)) (fun e he => by
        split
        · have hlt := h1 e (by omega)
          have : f e ≠ b := fun hh => by
            have := h2 e e0 (by omega) he0 (hh.trans hf0.symm)
            omega
          omega
        · have hlt := h1 (e + 1) (by omega)
          have : f (e + 1) ≠ b := fun hh => by
            have := h2 (e + 1) e0 (by omega) he0 (hh.trans hf0.symm)
            omega
          omega) (fun e e' he he' hff => by
        split at hff
        · split at hff
          · exact h2 e e' (by omega) (by omega) hff
          · have := h2 e (e' + 1) (by omega) (by omega) hff
            omega
        · split at hff
          · have := h2 (e + 1) e' (by omega) (by omega) hff
            omega
          · have := h2 (e + 1) (e' + 1) (by omega) (by omega) hff
            omega)
      omega
    · have := ih a f (fun e he => by
        have h3 := h1 e he
        have : f e ≠ b := fun hh => h ⟨e, he, hh⟩
        omega) h2
      omega
def hac : Nat → (Nat → Int64) → Int64
  | 0, _ => 0
  | k + 1, f => hac k f * (-7046029254386353131) + f k
theorem hac_cg {k : Nat} {f g : Nat → Int64} (h : ∀ j, j < k → f j = g j) : hac k f = hac k g := by
  induction k with
  | zero => rfl
  | succ k ih => rw [hac, hac, ih (fun j hj => h j (by omega)), h k (by omega)]
/-- the hash of a row -/
def hsh (n M : Nat) (f : Nat → Int64) : Nat := ((hac n f ^^^ ((hac n f).toUInt64 >>> ((32 : Int32).toInt64.toUInt64 &&& Int64.toUInt64 63)).toInt64).toInt32).toBitVec.toNat % (2 * M)
def shk (q : Nat) : List (Nat ⊕ Value) := [.inr (.ref 1), .inl 0, .inl 0, .inr (.ref (q + 1)), .inr (.ref (q + 2)), .inr (.ref (q + 3)), .inr (.ref (q + 4))]
/-- a shelf stands at q -/
def shS (sh : List hQ) (q M : Nat) : Prop := sh[q]? = some (.inr (6, shk q)) ∧ sh[q + 1]? = some (.inl (1, M * 5)) ∧ sh[q + 2]? = some (.inl (0, M)) ∧ sh[q + 3]? = some (.inl (0, M * 2)) ∧ sh[q + 4]? = some (.inl (0, M)) ∧ 54 ≤ q ∧ (M = 256 ∨ M = 512 ∨ M = 4096)
def sfb (q M : Nat) (I : hI) : Prop := I q 1 = nI M ∧ (∀ s, s < 2 * M → ∃ v, v < M ∧ I (q + 3) s = nI v) ∧ (∀ k, k < M → ∃ v, v < 2 * M ∧ I (q + 4) k = nI v)
def sfc (n : Nat) (A : Nat → Nat → Int) (ws : List (List Nat)) (q M : Nat) (I : hI) (J : hJ) : Prop := ws.length ≤ M ∧ I q 2 = nI ws.length ∧ ∀ k u, ws[k]? = some u → cx_L n u ∧ cx_l n A u ≤ 31 ∧ wt n A u (J (q + 1)) (k * 5) ∧ I (q + 2) k = nI (cx_l n A u)
def sfh (n : Nat) (A : Nat → Nat → Int) (ws : List (List Nat)) (q M : Nat) (I : hI) (J : hJ) : Prop := (∀ (i j : Nat) (u w : List Nat), ws[i]? = some u → ws[j]? = some w → cx_g n A u = cx_g n A w → i = j) ∧ ∃ σ : Nat → Nat, ∀ k, k < ws.length → σ k < 2 * M ∧ I (q + 4) k = nI (σ k) ∧ I (q + 3) (σ k) = nI k ∧ ∃ dk, dk < 2 * M ∧ σ k = (hsh n M (fun j => J (q + 1) (k * 5 + j)) + dk) % (2 * M) ∧ ∀ e, e < dk → ∃ k', k' < ws.length ∧ σ k' = (hsh n M (fun j => J (q + 1) (k * 5 + j)) + e) % (2 * M)
section S
variable {l s d : Value} {tl : List hQ} {F : Nat} {I : hI} {J : hJ} {n q M : Nat} {A : Nat → Nat → Int} {ws : List (List Nat)}
theorem aln_H {sh : List hQ} {a k : Nat} (h : sh[a]? = some (.inl (0, k))) : alnR (mkH sh I J) a = some (nI k) := by
  unfold alnR
  rw [mkH_get, h]
  rfl
theorem sM (h : shS (hs l s d tl) q M) : 256 ≤ M ∧ M ≤ 4096 := by
  rcases h.2.2.2.2.2.2 with rfl | rfl | rfl <;> omega
theorem sr (h : shS (hs l s d tl) q M) : rcv 6 (mkH (hs l s d tl) I J) q = some () := rcv_H h.1
theorem s0 (h : shS (hs l s d tl) q M) : gfr 6 0 (mkH (hs l s d tl) I J) q = some 1 := gfr_H h.1 rfl q1
theorem s1 (h : shS (hs l s d tl) q M) : gfi 6 1 (mkH (hs l s d tl) I J) q = some (I q 1) := gfi_H h.1 rfl
theorem s2 (h : shS (hs l s d tl) q M) : gfi 6 2 (mkH (hs l s d tl) I J) q = some (I q 2) := gfi_H h.1 rfl
theorem s3 (h : shS (hs l s d tl) q M) : gfr 6 3 (mkH (hs l s d tl) I J) q = some (q + 1) := gfr_H h.1 rfl h.2.1
theorem s4 (h : shS (hs l s d tl) q M) : gfr 6 4 (mkH (hs l s d tl) I J) q = some (q + 2) := gfr_H h.1 rfl h.2.2.1
theorem s5 (h : shS (hs l s d tl) q M) : gfr 6 5 (mkH (hs l s d tl) I J) q = some (q + 3) := gfr_H h.1 rfl h.2.2.2.1
theorem s6 (h : shS (hs l s d tl) q M) : gfr 6 6 (mkH (hs l s d tl) I J) q = some (q + 4) := gfr_H h.1 rfl h.2.2.2.2.1
theorem p2 (h : shS (hs l s d tl) q M) {x : Int32} : pfv 6 2 (mkH (hs l s d tl) I J) q (.int x) = some (mkH (hs l s d tl) (upI I q 2 x) J) := pfi_H h.1 rfl
theorem mask_e (h : M = 256 ∨ M = 512 ∨ M = 4096) (x : Int32) : x &&& (nI (M * 2) - 1) = nI (x.toBitVec.toNat % (2 * M)) := by
  rcases h with rfl | rfl | rfl
  · exact pk_and x 9 (by decide)
  · exact pk_and x 10 (by decide)
  · exact pk_and x 13 (by decide)
/-- hashOf -/
theorem ha_e (hS : shS (hs l s d tl) q M) (hc : cl_n n A I) (hF : 30 ≤ F) {a R : Nat} (ha : (hs l s d tl)[a]? = some (.inl (1, R))) (hR : R < 2 ^ 31) (h5 : 5 ≤ R) : e67 F q a (mkH (hs l s d tl) I J) = some (nI (hsh n M (J a)), (mkH (hs l s d tl) I J)) := by
  have hn5 := hc.2.2.1
  have hM := sM hS
  have key := lpc (fun f k (v : Int64) => m67_5 F f q a v (nI k) (mkH (hs l s d tl) I J)) n (fun k v => v = hac k (J a)) (fun r => r = some (nI (hsh n M (J a)), (mkH (hs l s d tl) I J))) ?_ ?_ F 0 0 (by omega) (by omega) rfl
  · exact key
  · intro f v hv
    show m67_5 F (f + 1) _ _ _ _ _ = _
    rw [m67_5, s0 hS, Option.bind_some, gi1_0, Option.bind_some, hc.2.2.2.1, if_pos (show mc2 .ge (nI n) (nI n) = true by rw [c_ge (by omega) (by omega)]; omega), s5 hS, Option.bind_some, aln_H hS.2.2.2.1, Option.bind_some, mask_e hS.2.2.2.2.2.2, hv]
    rfl
  · intro f k v hk hv
    right
    refine ⟨_, ?_, rfl⟩
    show m67_5 F (f + 1) _ _ _ _ _ = _
    rw [m67_5, s0 hS, Option.bind_some, gi1_0, Option.bind_some, hc.2.2.2.1, if_neg (show ¬ mc2 .ge (nI k) (nI n) = true by rw [c_ge (by omega) (by omega)]; omega), rdJ_H ha hR (by omega), Option.bind_some, hv, n_1, nI_add]
    rfl
/-- isUsed -/
theorem us_e (hS : shS (hs l s d tl) q M) (hb : sfb q M I) (hc : sfc n A ws q M I J) {σ : Nat → Nat} (hσ : ∀ k, k < ws.length → σ k < 2 * M ∧ I (q + 4) k = nI (σ k) ∧ I (q + 3) (σ k) = nI k) {t : Nat} (ht : t < 2 * M) : (∃ k, k < ws.length ∧ σ k = t ∧ I (q + 3) t = nI k ∧ e65 F q (nI t) (mkH (hs l s d tl) I J) = some (nI 1, (mkH (hs l s d tl) I J))) ∨ ((∀ k, k < ws.length → σ k ≠ t) ∧ e65 F q (nI t) (mkH (hs l s d tl) I J) = some (nI 0, (mkH (hs l s d tl) I J))) := by
  have hM := sM hS
  obtain ⟨v, hv, ev⟩ := hb.2.1 t ht
  have hl := hc.1
  have e0 : e65 F q (nI t) (mkH (hs l s d tl) I J) = m65_0 F q (nI t) (mkH (hs l s d tl) I J) := rfl
  rw [e0]
  unfold m65_0 m65_29 m65_30
  rw [s5 hS, Option.bind_some, rdI_H hS.2.2.2.1 (by omega) (by omega), Option.bind_some, s2 hS, Option.bind_some, hc.2.1, ev]
  by_cases hvl : v < ws.length
  · rw [if_neg (show ¬ mc2 .ge (nI v) (nI ws.length) = true by rw [c_ge (by omega) (by omega)]; omega), s6 hS, Option.bind_some, rdI_H hS.2.2.2.2.1 (by omega) (by omega), Option.bind_some, (hσ v hvl).2.1]
    have hs2 := (hσ v hvl).1
    by_cases hst : σ v = t
    · left
      rw [if_neg (show ¬ mc2 .ne (nI (σ v)) (nI t) = true by rw [c_ne (by omega) (by omega)]; exact fun h => h hst)]
      exact ⟨v, hvl, hst, rfl, rfl⟩
    · right
      rw [if_pos (show mc2 .ne (nI (σ v)) (nI t) = true by rw [c_ne (by omega) (by omega)]; exact hst)]
      refine ⟨fun k hk e => hst ?_, rfl⟩
      have h3 := (hσ k hk).2.2
      rw [e, ev] at h3
      have : v = k := (nI_eq (by omega) (by omega)).mp h3
      rw [this, e]
  · right
    rw [if_pos (show mc2 .ge (nI v) (nI ws.length) = true by rw [c_ge (by omega) (by omega)]; omega)]
    refine ⟨fun k hk e => hvl ?_, rfl⟩
    have h3 := (hσ k hk).2.2
    rw [e, ev] at h3
    have : v = k := (nI_eq (by omega) (by omega)).mp h3
    omega
/-- slotFor: the slot of u, or the free one where it would stand -/
theorem slf_e (hS : shS (hs l s d tl) q M) (hb : sfb q M I) (hg : cl_n n A I) (hc : sfc n A ws q M I J) (hF : 9000 ≤ F) {σ : Nat → Nat} (hin : ∀ (i j : Nat) (u w : List Nat), ws[i]? = some u → ws[j]? = some w → cx_g n A u = cx_g n A w → i = j) (hσ : ∀ k, k < ws.length → σ k < 2 * M ∧ I (q + 4) k = nI (σ k) ∧ I (q + 3) (σ k) = nI k ∧ ∃ dk, dk < 2 * M ∧ σ k = (hsh n M (fun j => J (q + 1) (k * 5 + j)) + dk) % (2 * M) ∧ ∀ e, e < dk → ∃ k', k' < ws.length ∧ σ k' = (hsh n M (fun j => J (q + 1) (k * 5 + j)) + e) % (2 * M)) {a R : Nat} (ha : (hs l s d tl)[a]? = some (.inl (1, R))) (hR : R < 2 ^ 31) (h5 : 5 ≤ R) {u : List Nat} (hu : cx_L n u) (hl : cx_l n A u ≤ 31) (hw : wt n A u (J a) 0) : (∃ (k : Nat) (w : List Nat), ws[k]? = some w ∧ cx_g n A w = cx_g n A u ∧ e66 F q a (mkH (hs l s d tl) I J) = some (nI (σ k), (mkH (hs l s d tl) I J))) ∨ ((∀ (k : Nat) (w : List Nat), ws[k]? = some w → cx_g n A w ≠ cx_g n A u) ∧ ∃ dk, dk < 2 * M ∧ e66 F q a (mkH (hs l s d tl) I J) = some (nI ((hsh n M (J a) + dk) % (2 * M)), (mkH (hs l s d tl) I J)) ∧ (∀ k, k < ws.length → σ k ≠ (hsh n M (J a) + dk) % (2 * M)) ∧ ∀ e, e < dk → ∃ k', k' < ws.length ∧ σ k' = (hsh n M (J a) + e) % (2 * M)) := by
  have hok := hg.1
  have hn5 := hg.2.2.1
  have hM := sM hS
  have hlen := hc.1
  have hh : hsh n M (J a) < 2 * M := Nat.mod_lt _ (by omega)
  have hσ3 : ∀ k, k < ws.length → σ k < 2 * M ∧ I (q + 4) k = nI (σ k) ∧ I (q + 3) (σ k) = nI k := fun k hk => ⟨(hσ k hk).1, (hσ k hk).2.1, (hσ k hk).2.2.1⟩
  have σi : ∀ k k', k < ws.length → k' < ws.length → σ k = σ k' → k = k' := by
    intro k k' hk hk' e
    have h1 := (hσ k hk).2.2.1
    have h2 := (hσ k' hk').2.2.1
    rw [e, h2] at h1
    exact ((nI_eq (by omega) (by omega)).mp h1).symm
  have hha : ∀ (k : Nat) (w : List Nat), ws[k]? = some w → cx_g n A w = cx_g n A u → hsh n M (fun j => J (q + 1) (k * 5 + j)) = hsh n M (J a) := by
    intro k w hk hgw
    have hwk := (hc.2.2 k w hk).2.2.1
    unfold hsh
    have : hac n (fun j => J (q + 1) (k * 5 + j)) = hac n (J a) := hac_cg (fun j hj => by
      have e1 := hwk j hj
      have e2 := wt_cg hgw.symm hw j hj
      rw [Nat.zero_add] at e2
      rw [e1, e2])
    rw [this]
  have e0 : e66 F q a (mkH (hs l s d tl) I J) = m66_8 F F q a (nI (hsh n M (J a))) (nI 0) (mkH (hs l s d tl) I J) := by
    show m66_0 F q a _ = _
    unfold m66_0
    rw [sr hS, Option.bind_some, ha_e hS hg (by omega) ha hR h5, Option.bind_some]
    rfl
  rw [e0]
  have z0' : nI (hsh n M (J a)) = nI ((hsh n M (J a) + 0) % (2 * M)) := by rw [Nat.add_zero, Nat.mod_eq_of_lt hh]
  rw [z0']
  refine lpc (fun f t (_ : Unit) => m66_8 F f q a (nI ((hsh n M (J a) + t) % (2 * M))) (nI t) (mkH (hs l s d tl) I J)) (2 * M) (fun t _ => ∀ e, e < t → ∃ (k : Nat) (w : List Nat), ws[k]? = some w ∧ σ k = (hsh n M (J a) + e) % (2 * M) ∧ cx_g n A w ≠ cx_g n A u) (fun r => (∃ (k : Nat) (w : List Nat), ws[k]? = some w ∧ cx_g n A w = cx_g n A u ∧ r = some (nI (σ k), (mkH (hs l s d tl) I J))) ∨ ((∀ (k : Nat) (w : List Nat), ws[k]? = some w → cx_g n A w ≠ cx_g n A u) ∧ ∃ dk, dk < 2 * M ∧ r = some (nI ((hsh n M (J a) + dk) % (2 * M)), (mkH (hs l s d tl) I J)) ∧ (∀ k, k < ws.length → σ k ≠ (hsh n M (J a) + dk) % (2 * M)) ∧ ∀ e, e < dk → ∃ k', k' < ws.length ∧ σ k' = (hsh n M (J a) + e) % (2 * M))) ?_ ?_ F 0 () (by omega) (by omega) (fun e he => by omega)
  · intro f _ hall
    exfalso
    have hch : ∀ e, ∃ k, e < 2 * M → k < ws.length ∧ σ k = (hsh n M (J a) + e) % (2 * M) := by
      intro e
      by_cases he : e < 2 * M
      · obtain ⟨k, w, h1, h2, -⟩ := hall e he
        exact ⟨k, fun _ => ⟨(List.getElem?_eq_some_iff.mp h1).1, h2⟩⟩
      · exact ⟨0, fun h => absurd h he⟩
    have := pig ws.length (2 * M) (fun e => Classical.choose (hch e)) (fun e he => (Classical.choose_spec (hch e) he).1) (fun e e' he he' hee => by
      have a1 := (Classical.choose_spec (hch e) he).2
      have a2 := (Classical.choose_spec (hch e') he').2
      rw [hee, a2] at a1
      have b1 : (hsh n M (J a) + e) % (2 * M) = if hsh n M (J a) + e < 2 * M then hsh n M (J a) + e else hsh n M (J a) + e - 2 * M := by
        split
        · exact Nat.mod_eq_of_lt (by assumption)
        · rw [Nat.mod_eq_sub_mod (by omega), Nat.mod_eq_of_lt (by omega)]
      have b2 : (hsh n M (J a) + e') % (2 * M) = if hsh n M (J a) + e' < 2 * M then hsh n M (J a) + e' else hsh n M (J a) + e' - 2 * M := by
        split
        · exact Nat.mod_eq_of_lt (by assumption)
        · rw [Nat.mod_eq_sub_mod (by omega), Nat.mod_eq_of_lt (by omega)]
      rw [b1, b2] at a1
      split at a1 <;> split at a1 <;> omega)
    omega
  · intro f t _ ht hall
    have hs' : (hsh n M (J a) + t) % (2 * M) < 2 * M := Nat.mod_lt _ (by omega)
    generalize hslot : (hsh n M (J a) + t) % (2 * M) = sl at *
    show ((∃ k w, _ ∧ _ ∧ m66_8 F (f + 1) _ _ _ _ _ = _) ∨ (_ ∧ ∃ dk, _ ∧ m66_8 F (f + 1) _ _ _ _ _ = _ ∧ _)) ∨ ∃ y : Unit, m66_8 F (f + 1) _ _ _ _ _ = _ ∧ _
    rw [m66_8, s5 hS, Option.bind_some, aln_H hS.2.2.2.1, Option.bind_some, if_neg (show ¬ mc2 .ge (nI t) (nI (M * 2)) = true by rw [c_ge (by omega) (by omega)]; omega), sr hS, Option.bind_some]
    unfold m66_49
    rcases us_e (F := F) hS hb hc hσ3 hs' with ⟨k, k1, k2, k3, e1⟩ | ⟨k1, e1⟩
    · obtain ⟨w, hwk⟩ : ∃ w, ws[k]? = some w := ⟨ws[k], List.getElem?_eq_getElem k1⟩
      have hcw := hc.2.2 k w hwk
      rw [e1, Option.bind_some, if_neg (show ¬ mc1 .eq (nI 1) = true by decide), s0 hS, Option.bind_some, s3 hS, Option.bind_some, s5 hS, Option.bind_some, rdI_H hS.2.2.2.1 (by omega) (by omega), Option.bind_some, k3, rc1, Option.bind_some, n_5, pk_mul, n_0]
      have hun := wt_un hok hu hcw.1 hl hcw.2.1 hw hcw.2.2.1
      rcases sm_e (I := I) (J := J) (o := 0) (p := k * 5) (a := a) (b := q + 1) hg.2.2.2.1 hn5 (by omega : 6 ≤ F) ha hS.2.1 hR (by omega) (by omega) (by omega) with ⟨e2, e3⟩ | ⟨e2, j, hj, e3⟩
      · left
        left
        rw [e2, Option.bind_some, if_neg (show ¬ mc1 .eq (nI 1) = true by decide)]
        exact ⟨k, w, hwk, (hun.mp e3).symm, by rw [k2]⟩
      · right
        have hne : cx_g n A w ≠ cx_g n A u := fun h => e3 (hun.mpr h.symm j hj)
        rw [e2, Option.bind_some, if_pos (show mc1 .eq (nI 0) = true by decide), s5 hS, Option.bind_some, aln_H hS.2.2.2.1, Option.bind_some]
        unfold m66_69
        have nxt : (hsh n M (J a) + (t + 1)) % (2 * M) = if sl + 1 < 2 * M then sl + 1 else 0 := by
          rw [show hsh n M (J a) + (t + 1) = (hsh n M (J a) + t) + 1 by omega, Nat.add_mod, hslot, Nat.mod_eq_of_lt (show 1 < 2 * M by omega)]
          split
          · exact Nat.mod_eq_of_lt (by assumption)
          · have : sl + 1 = 2 * M := by omega
            rw [this, Nat.mod_self]
        refine ⟨(), ?_, fun e he => ?_⟩
        · rw [nxt, n_1, nI_add, nI_add]
          by_cases hlt : sl + 1 < 2 * M
          · rw [if_neg (show ¬ mc2 .ge (nI (sl + 1)) (nI (M * 2)) = true by rw [c_ge (by omega) (by omega)]; omega), if_pos hlt]
          · rw [if_pos (show mc2 .ge (nI (sl + 1)) (nI (M * 2)) = true by rw [c_ge (by omega) (by omega)]; omega), if_neg hlt]
        · by_cases het : e = t
          · subst het
            exact ⟨k, w, hwk, by rw [k2, hslot], hne⟩
          · exact hall e (by omega)
    · left
      right
      rw [e1, Option.bind_some, if_pos (show mc1 .eq (nI 0) = true by decide)]
      refine ⟨fun k w hk hgw => ?_, t, ht, by rw [hslot], by rw [hslot]; exact k1, fun e he => ?_⟩
      · have hkl := (List.getElem?_eq_some_iff.mp hk).1
        obtain ⟨-, -, -, dk, d1, d2, d3⟩ := hσ k hkl
        rw [hha k w hk hgw] at d2 d3
        rcases Nat.lt_trichotomy dk t with h1 | h1 | h1
        · obtain ⟨k', w', a1, a2, a3⟩ := hall dk h1
          have := σi k k' hkl (List.getElem?_eq_some_iff.mp a1).1 (by rw [d2, a2])
          subst this
          rw [hk] at a1
          rw [← Option.some.inj a1] at a3
          exact a3 hgw
        · subst h1
          exact k1 k hkl (by rw [d2, hslot])
        · obtain ⟨k', a1, a2⟩ := d3 t h1
          exact k1 k' a1 (by rw [a2, hslot])
      · obtain ⟨k, w, a1, a2, -⟩ := hall e he
        exact ⟨k, (List.getElem?_eq_some_iff.mp a1).1, a2⟩
end S
