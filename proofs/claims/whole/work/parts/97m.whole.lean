/-! The reference: whole. The class: growth and whole out of what was counted. -/
/-- what whole answers -/
def whq (n : Nat) (A : Nat → Nat → Int) (w : Nat) (v : Int32) : Prop := (glS n A 31 ≤ 2000 ∧ glN n A 31 = 0 ∧ ∃ g, g ≤ 30 ∧ glN n A g ≠ 0 ∧ glN n A (g + 1) = 0 ∧ v = if w = 0 then nI (glS n A 31) else nI g) ∨ (¬ (glS n A 31 ≤ 2000 ∧ glN n A 31 = 0) ∧ v = -1005)
section S
variable {l s d : Value} {tl : List hQ} {F : Nat} {I : hI} {J : hJ} {n b : Nat} {A : Nat → Nat → Int}
theorem whq_un (hok : cx_ok n A) {w : Nat} {v v' : Int32} (h : whq n A w v) (h' : whq n A w v') : v = v' := by
  rcases h with ⟨a1, a2, g, a3, a4, a5, a6⟩ | ⟨a1, a2⟩
  · rcases h' with ⟨b1, b2, g', b3, b4, b5, b6⟩ | ⟨b1, _⟩
    · have : g = g' := by
        rcases Nat.lt_trichotomy g g' with hlt | hlt | hlt
        · exact absurd (glN_zz hok a5 g' (by omega)) b4
        · exact hlt
        · exact absurd (glN_zz hok b5 g (by omega)) a4
      rw [a6, b6, this]
    · exact absurd ⟨a1, a2⟩ b1
  · rcases h' with ⟨b1, b2, _⟩ | ⟨_, b2⟩
    · exact absurd ⟨b1, b2⟩ a1
    · rw [a2, b2]
theorem whr_e (hM : mo_n n A I) (hF : 9000 ≤ F) {w : Nat} (hw : w ≤ 1) : ∃ (v : Int32) (I' : hI) (J' : hJ), e193 F 26 (nI w) (mkH (hs l s d tl) I J) = some (v, (mkH (hs l s d tl) I' J')) ∧ whq n A w v ∧ glf I I' J J' := by
  have hok := hM.1
  obtain ⟨I1, J1, e1, r1⟩ := sl_e (l := l) (s := s) (d := d) (tl := tl) (F := F) (J := J) hM hF
  -- the end at a level without elements
  have fin : ∀ (f k : Nat) (v3 : Int32) (L2 : List (List Nat)) (I2 : hI) (J2 : hJ), k ≤ 31 → glN n A k = 0 → (∀ j, j < k → glN n A j ≠ 0) → v3 + 1 = nI k → glP n A I J k L2 I2 J2 → ∃ (v : Int32) (I' : hI) (J' : hJ), m193_22 F (f + 1) 26 (nI w) (nI (glN n A k)) v3 (mkH (hs l s d tl) I2 J2) = some (v, (mkH (hs l s d tl) I' J')) ∧ whq n A w v ∧ glf I I' J J' := by
    intro f k v3 L2 I2 J2 hk h0 hne hv3 hp
    cases k with
    | zero =>
      rw [glN_0] at h0
      omega
    | succ g =>
      have e31 : glS n A 31 = glS n A (g + 1) := glS_st hok h0 31 (by omega)
      have v3e : v3 = nI g := by
        have : v3 = nI (g + 1) - 1 := by rw [← hv3]; exact (Int32.add_sub_cancel v3 1).symm
        rw [this]
        exact pk_sub1 g
      refine ⟨if w = 0 then nI (glS n A 31) else nI g, I2, J2, ?_, Or.inl ⟨by rw [e31]; exact hp.2.2.2.1, glN_zz hok h0 31 (by omega), g, by omega, hne g (by omega), h0, rfl⟩, ⟨_, hp.2.2.1⟩, hp.2.2.2.2⟩
      have al : I2 26 27 = nI (glS n A 31) := by rw [e31, hp.2.2.1, upI_at, if_pos rfl]
      rw [m193_22, h0, if_pos (show mc1 .le (nI 0) = true by decide), if_pos (show mc1 .ge (nI 0) = true by decide)]
      by_cases hw0 : w = 0
      · rw [if_neg (show ¬ mc1 .ne (nI w) = true by rw [d_ne (by omega)]; omega), gi26_27, Option.bind_some, al, if_pos hw0]
        rfl
      · rw [if_pos (show mc1 .ne (nI w) = true by rw [d_ne (by omega)]; omega), v3e, if_neg hw0]
        rfl
  have dead : ∀ (f k : Nat) (v3 : Int32) (I2 : hI) (J2 : hJ), k ≤ 31 → 2000 < glS n A k → glf I I2 J J2 → ∃ (v : Int32) (I' : hI) (J' : hJ), m193_22 F (f + 1) 26 (nI w) (gI 1) v3 (mkH (hs l s d tl) I2 J2) = some (v, (mkH (hs l s d tl) I' J')) ∧ whq n A w v ∧ glf I I' J J' := by
    intro f k v3 I2 J2 hk ho hp
    refine ⟨-1005, I2, J2, ?_, Or.inr ⟨fun hh => ?_, rfl⟩, hp⟩
    · rw [m193_22, if_pos (show mc1 .le (gI 1) = true by decide), if_neg (show ¬ mc1 .ge (gI 1) = true by decide)]
      rfl
    · have := glS_mo (n := n) (A := A) hk
      omega
  have key : ∀ (f k : Nat) (x : (Int32 × Int32) × List (List Nat) × hI × hJ), k ≤ 31 → 31 < k + f → (x.1.1 = nI (glN n A k) ∧ x.1.2 + 1 = nI k ∧ (∀ j, j < k → glN n A j ≠ 0) ∧ glP n A I J k x.2.1 x.2.2.1 x.2.2.2) ∨ (x.1.1 = gI 1 ∧ 2000 < glS n A k ∧ glf I x.2.2.1 J x.2.2.2) → ∃ (v : Int32) (I' : hI) (J' : hJ), m193_22 F f 26 (nI w) x.1.1 x.1.2 (mkH (hs l s d tl) x.2.2.1 x.2.2.2) = some (v, (mkH (hs l s d tl) I' J')) ∧ whq n A w v ∧ glf I I' J J' := by
    refine lpc (σ := (Int32 × Int32) × List (List Nat) × hI × hJ) (R := Option (Int32 × List mE)) (fun f k x => m193_22 F f 26 (nI w) x.1.1 x.1.2 (mkH (hs l s d tl) x.2.2.1 x.2.2.2)) 31 (fun k x => (x.1.1 = nI (glN n A k) ∧ x.1.2 + 1 = nI k ∧ (∀ j, j < k → glN n A j ≠ 0) ∧ glP n A I J k x.2.1 x.2.2.1 x.2.2.2) ∨ (x.1.1 = gI 1 ∧ 2000 < glS n A k ∧ glf I x.2.2.1 J x.2.2.2)) (fun r => ∃ (v : Int32) (I' : hI) (J' : hJ), r = some (v, (mkH (hs l s d tl) I' J')) ∧ whq n A w v ∧ glf I I' J J') ?_ ?_
    · rintro f ⟨⟨m, v3⟩, L2, I2, J2⟩ (⟨hm, hv3, hne, hp⟩ | ⟨hm, ho, hp⟩)
      · have hp : glP n A I J 31 L2 I2 J2 := hp
        have hm : m = nI (glN n A 31) := hm
        have hv3 : v3 + 1 = nI 31 := hv3
        subst hm
        have h2 := gN_le hp.2.2.2.1
        by_cases h0 : glN n A 31 = 0
        · exact fin f 31 v3 L2 I2 J2 (by omega) h0 hne hv3 hp
        · refine ⟨-1005, I2, J2, ?_, Or.inr ⟨fun hh => h0 hh.2, rfl⟩, ⟨_, hp.2.2.1⟩, hp.2.2.2.2⟩
          show m193_22 F (f + 1) 26 (nI w) (nI (glN n A 31)) v3 (mkH (hs l s d tl) I2 J2) = _
          rw [m193_22, if_neg (show ¬ mc1 .le (nI (glN n A 31)) = true by rw [d_le (by omega)]; omega), hv3, if_neg (show ¬ mc2 .le (nI 31) 30 = true by decide)]
      · have hm : m = gI 1 := hm
        subst hm
        exact dead f 31 v3 I2 J2 (by omega) ho hp
    · rintro f k ⟨⟨m, v3⟩, L2, I2, J2⟩ hk (⟨hm, hv3, hne, hp⟩ | ⟨hm, ho, hp⟩)
      · have hp : glP n A I J k L2 I2 J2 := hp
        have hm : m = nI (glN n A k) := hm
        have hv3 : v3 + 1 = nI k := hv3
        subst hm
        have h2 := gN_le hp.2.2.2.1
        by_cases h0 : glN n A k = 0
        · left
          exact fin f k v3 L2 I2 J2 (by omega) h0 hne hv3 hp
        · right
          have e0 : m193_22 F (f + 1) 26 (nI w) (nI (glN n A k)) v3 (mkH (hs l s d tl) I2 J2) = (e190 F 26 (nI (glN n A k)) (mkH (hs l s d tl) I2 J2)).bind fun q6 => m193_22 F f 26 (nI w) q6.1 (nI k) q6.2 := by
            rw [m193_22, if_neg (show ¬ mc1 .le (nI (glN n A k)) = true by rw [d_le (by omega)]; omega), hv3, if_pos (show mc2 .le (nI k) 30 = true by rw [n_30, c_le (by omega) (by omega)]; omega), rc26, Option.bind_some]
          rcases gr_e (l := l) (s := s) (d := d) (tl := tl) (F := F) hM hF (by omega) hp with ⟨J3, e3, f3, o3⟩ | ⟨L3, I3, J3, e3, p3⟩
          · refine ⟨((gI 1, nI k), [], I2, J3), ?_, Or.inr ⟨rfl, o3, ⟨_, hp.2.2.1⟩, f3⟩⟩
            show m193_22 F (f + 1) 26 (nI w) (nI (glN n A k)) v3 (mkH (hs l s d tl) I2 J2) = _
            rw [e0, e3, Option.bind_some]
          · refine ⟨((nI (glN n A (k + 1)), nI k), L3, I3, J3), ?_, Or.inl ⟨rfl, by show nI k + 1 = _; rw [n_1, nI_add], fun j hj => ?_, p3⟩⟩
            · show m193_22 F (f + 1) 26 (nI w) (nI (glN n A k)) v3 (mkH (hs l s d tl) I2 J2) = _
              rw [e0, e3, Option.bind_some]
            · by_cases hjk : j = k
              · rw [hjk]; exact h0
              · exact hne j (by omega)
      · left
        have hm : m = gI 1 := hm
        subst hm
        exact dead f k v3 I2 J2 (by omega) ho hp
  obtain ⟨v, I', J', e2, r2⟩ := key F 0 ((nI (glN n A 0), -1), [[]], I1, J1) (by omega) (by omega) (Or.inl ⟨rfl, by show (-1 : Int32) + 1 = nI 0; decide, fun j hj => by omega, r1⟩)
  refine ⟨v, I', J', ?_, r2⟩
  have e3 : e137 F (nI w).toInt64 0 1 (mkH (hs l s d tl) I J) = some (nI 1, (mkH (hs l s d tl) I J)) := by
    rcases bw_n (F := F) (nI w) (m := 2) (by omega) (mkH (hs l s d tl) I J) with ⟨_, _, _, h⟩ | ⟨h, _⟩
    · exact h
    · exact absurd rfl (h w (by omega))
  show m193_0 F 26 (nI w) _ = _
  unfold m193_0
  rw [e3, Option.bind_some, if_pos (show mc1 .ne (nI 1) = true by decide), rc26, Option.bind_some, e1, Option.bind_some]
  rw [glN_0] at e2
  exact e2
theorem gdn_c {K : Nat} {I' : hI} (h : gdn n A K b I') : gch n A b I' := Or.inr (h.elim (fun ⟨K', _, h2⟩ => Or.inl ⟨K', Nat.zero_le _, h2⟩) Or.inr)
/-- countOfLength -/
theorem col_e (h : lyS (hs l s d tl) b) (hg : cl_n n A I) (hb : sfb (b + 4) 4096 I) (hF : 9000 ≤ F) {K : Nat} (hK : K ≤ 20) (hc : gch n A b I) : ∃ (I' : hI) (J' : hJ), e23 F b (nI K) (mkH (hs l s d tl) I J) = some (gwv n A K, (mkH (hs l s d tl) I' J')) ∧ gch n A b I' ∧ sfb (b + 4) 4096 I' ∧ lyh b I I' J J' := by
  obtain ⟨I1, J1, e1, r1, r2, r3⟩ := ce_e (F := F) (J := J) h hg hb hF (show K ≤ 31 by omega) hc
  refine ⟨I1, J1, ?_, gdn_c r1, r2, r3⟩
  show m23_0 F b (nI K) _ = _
  unfold m23_0 m23_25
  rw [lyr h, Option.bind_some, e1, Option.bind_some, f6 h, Option.bind_some]
  unfold gwv
  rcases r1 with ⟨K', k1, k2, k3, k4, k5, k6, k7⟩ | ⟨R, ⟨g1, g2, g3, g4⟩, r4, r5, r6⟩
  · have := glS_mo (n := n) (A := A) k1
    rw [k5, if_pos (show mc2 .lt (nI K) (nI 32) = true by rw [c_lt (by omega) (by omega)]; omega), ly5 h, Option.bind_some, rdI_H h.2.2.2.1 (by omega) (by omega), Option.bind_some, k7 K k1, if_pos (by omega)]
  · rw [r5]
    by_cases hlt : K < R
    · have := glS_mo (n := n) (A := A) (show K ≤ R - 1 by omega)
      rw [if_pos (show mc2 .lt (nI K) (nI R) = true by rw [c_lt (by omega) (by omega)]; omega), ly5 h, Option.bind_some, rdI_H h.2.2.2.1 (by omega) (by omega), Option.bind_some, r6 K hlt, if_pos (by omega)]
    · have := glS_mo (n := n) (A := A) (show R ≤ K by omega)
      rw [if_neg (show ¬ mc2 .lt (nI K) (nI R) = true by rw [c_lt (by omega) (by omega)]; omega), if_neg (by omega)]
/-- isWhole -/
theorem isw_e (h : lyS (hs l s d tl) b) (hd : gdn n A 31 b I) : (glS n A 31 ≤ 2000 ∧ glN n A 31 = 0 ∧ I b 7 = nI (glS n A 31) ∧ (∀ k, k ≤ 31 → I (b + 3) k = nI (glN n A k)) ∧ e26 F b (mkH (hs l s d tl) I J) = some (nI 1, (mkH (hs l s d tl) I J))) ∨ (¬ (glS n A 31 ≤ 2000 ∧ glN n A 31 = 0) ∧ e26 F b (mkH (hs l s d tl) I J) = some (nI 0, (mkH (hs l s d tl) I J))) := by
  have e0 : e26 F b (mkH (hs l s d tl) I J) = m26_0 F b (mkH (hs l s d tl) I J) := rfl
  rw [e0]
  unfold m26_0 m26_23 m26_24
  rw [f6 h, Option.bind_some]
  rcases hd with ⟨K', k1, k2, k3, k4, k5, k6, k7⟩ | ⟨R, ⟨g1, g2, g3, g4⟩, r4, r5, r6⟩
  · have hK : K' = 31 := by omega
    subst hK
    have h2 := gN_le k4
    have e1 : rdI (mkH (hs l s d tl) I J) (b + 3) 31 = some (nI (glN n A 31)) := by
      rw [← k7 31 (by omega)]
      exact rdI_H (i := 31) h.2.2.2.1 (by omega) (by omega)
    rw [k5, if_neg (show ¬ mc2 .le (nI 32) 31 = true by decide), ly5 h, Option.bind_some, e1, Option.bind_some]
    by_cases h0 : glN n A 31 = 0
    · left
      refine ⟨k4, h0, k6, k7, ?_⟩
      rw [h0, if_neg (show ¬ mc1 .ne (nI 0) = true by decide), if_pos (by decide)]
      rfl
    · right
      refine ⟨fun hh => h0 hh.2, ?_⟩
      rw [if_pos (show mc1 .ne (nI (glN n A 31)) = true by rw [d_ne (by omega)]; exact h0), if_pos (by decide)]
      rfl
  · right
    have := glS_mo (n := n) (A := A) g1
    refine ⟨fun hh => by omega, ?_⟩
    rw [r5, if_pos (show mc2 .le (nI R) 31 = true by rw [n_31, c_le (by omega) (by omega)]; omega), if_pos (by decide)]
    rfl
/-- countAll, greatestLength -/
theorem wha_e (h : lyS (hs l s d tl) b) (hg : cl_n n A I) (hb : sfb (b + 4) 4096 I) (hF : 9000 ≤ F) (hc : gch n A b I) : ∃ (v : Int32) (I' : hI) (J' : hJ), e24 F b (mkH (hs l s d tl) I J) = some (v, (mkH (hs l s d tl) I' J')) ∧ whq n A 0 v ∧ gch n A b I' ∧ sfb (b + 4) 4096 I' ∧ lyh b I I' J J' := by
  have hok := hg.1
  obtain ⟨I1, J1, e1, r1, r2, r3⟩ := ce_e (F := F) (J := J) h hg hb hF (K := 31) (by omega) hc
  have e0 : e24 F b (mkH (hs l s d tl) I J) = m24_0 F b (mkH (hs l s d tl) I J) := rfl
  rw [e0]
  unfold m24_0 m24_23
  rw [lyr h, Option.bind_some]
  show ∃ (v : Int32) (I' : hI) (J' : hJ), ((e27 F b (nI 31) (mkH (hs l s d tl) I J)).bind _) = _ ∧ _
  rw [e1, Option.bind_some, lyr h, Option.bind_some]
  rcases isw_e (F := F) (J := J1) h r1 with ⟨a1, a2, a3, a4, e2⟩ | ⟨a1, e2⟩
  · rw [e2, Option.bind_some, if_neg (show ¬ mc1 .eq (nI 1) = true by decide), f7 h, Option.bind_some]
    refine ⟨_, I1, J1, rfl, Or.inl ⟨a1, a2, ?_⟩, gdn_c r1, r2, r3⟩
    obtain ⟨g, hgz, hgm⟩ := cx_min_ex (P := fun g => glN n A (g + 1) = 0) ⟨30, a2⟩
    have := hgm 30 a2
    refine ⟨g, by omega, fun h0 => ?_, hgz, by rw [a3, if_pos rfl]⟩
    cases g with
    | zero =>
      rw [glN_0] at h0
      omega
    | succ g =>
      have := hgm g h0
      omega
  · rw [e2, Option.bind_some, if_pos (show mc1 .eq (nI 0) = true by decide)]
    exact ⟨_, I1, J1, rfl, Or.inr ⟨a1, rfl⟩, gdn_c r1, r2, r3⟩
theorem whl_e (h : lyS (hs l s d tl) b) (hg : cl_n n A I) (hb : sfb (b + 4) 4096 I) (hF : 9000 ≤ F) (hc : gch n A b I) : ∃ (v : Int32) (I' : hI) (J' : hJ), e25 F b (mkH (hs l s d tl) I J) = some (v, (mkH (hs l s d tl) I' J')) ∧ whq n A 1 v ∧ gch n A b I' ∧ sfb (b + 4) 4096 I' ∧ lyh b I I' J J' := by
  have hok := hg.1
  obtain ⟨I1, J1, e1, r1, r2, r3⟩ := ce_e (F := F) (J := J) h hg hb hF (K := 31) (by omega) hc
  have e0 : e25 F b (mkH (hs l s d tl) I J) = m25_0 F b (mkH (hs l s d tl) I J) := rfl
  rw [e0]
  unfold m25_0
  rw [lyr h, Option.bind_some]
  show ∃ (v : Int32) (I' : hI) (J' : hJ), ((e27 F b (nI 31) (mkH (hs l s d tl) I J)).bind _) = _ ∧ _
  rw [e1, Option.bind_some, lyr h, Option.bind_some]
  rcases isw_e (F := F) (J := J1) h r1 with ⟨a1, a2, a3, a4, e2⟩ | ⟨a1, e2⟩
  · rw [e2, Option.bind_some, if_pos (show mc1 .ne (nI 1) = true by decide)]
    have key : ∀ (f c : Nat) (x : Unit), c < f → (c ≤ 30 ∧ glN n A (c + 1) = 0) → ∃ g, g ≤ 30 ∧ glN n A g ≠ 0 ∧ glN n A (g + 1) = 0 ∧ m25_20 F f b (nI c) (mkH (hs l s d tl) I1 J1) = some (nI g, (mkH (hs l s d tl) I1 J1)) := by
      refine lpd (σ := Unit) (R := Option (Int32 × List mE)) (fun f c _ => m25_20 F f b (nI c) (mkH (hs l s d tl) I1 J1)) (fun c _ => c ≤ 30 ∧ glN n A (c + 1) = 0) (fun r => ∃ g, g ≤ 30 ∧ glN n A g ≠ 0 ∧ glN n A (g + 1) = 0 ∧ r = some (nI g, (mkH (hs l s d tl) I1 J1))) ?_ ?_
      · rintro f _ ⟨p1, p2⟩
        refine ⟨0, by omega, by rw [glN_0]; omega, p2, ?_⟩
        show m25_20 F (f + 1) b (nI 0) (mkH (hs l s d tl) I1 J1) = _
        rw [m25_20, if_pos (show mc1 .le (nI 0) = true by decide)]
        rfl
      · rintro f c _ ⟨p1, p2⟩
        have h2 := gN_le (n := n) (A := A) (k := c + 1) (by have := glS_mo (n := n) (A := A) (show c + 1 ≤ 31 by omega); omega)
        by_cases h0 : glN n A (c + 1) = 0
        · right
          refine ⟨(), ?_, by omega, h0⟩
          show m25_20 F (f + 1) b (nI (c + 1)) (mkH (hs l s d tl) I1 J1) = _
          rw [m25_20, if_neg (show ¬ mc1 .le (nI (c + 1)) = true by rw [d_le (by omega)]; omega), ly5 h, Option.bind_some, rdI_H h.2.2.2.1 (by omega) (by omega), Option.bind_some, a4 _ (by omega), h0, if_neg (show ¬ mc1 .ne (nI 0) = true by decide), nI_am1]
        · left
          refine ⟨c + 1, p1, h0, p2, ?_⟩
          show m25_20 F (f + 1) b (nI (c + 1)) (mkH (hs l s d tl) I1 J1) = _
          rw [m25_20, if_neg (show ¬ mc1 .le (nI (c + 1)) = true by rw [d_le (by omega)]; omega), ly5 h, Option.bind_some, rdI_H h.2.2.2.1 (by omega) (by omega), Option.bind_some, a4 _ (by omega), if_pos (show mc1 .ne (nI (glN n A (c + 1))) = true by rw [d_ne (by omega)]; exact h0)]
          rfl
    obtain ⟨g, g1, g2, g3, e3⟩ := key F 30 () (by omega) ⟨by omega, a2⟩
    refine ⟨nI g, I1, J1, e3, Or.inl ⟨a1, a2, g, g1, g2, g3, by rw [if_neg (by decide)]⟩, gdn_c r1, r2, r3⟩
  · rw [e2, Option.bind_some, if_neg (show ¬ mc1 .ne (nI 0) = true by decide)]
    exact ⟨_, I1, J1, rfl, Or.inr ⟨a1, rfl⟩, gdn_c r1, r2, r3⟩
end S
