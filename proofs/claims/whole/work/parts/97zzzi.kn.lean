/-! No number of P is under 0. -/
theorem split_w {i j : Nat} (hij : i ≠ j) : ∀ (w : List Nat), ¬ List.Sublist [j, i] w → ∃ W V, w = W ++ V ∧ j ∉ W ∧ i ∉ V := by
  intro w
  induction w with
  | nil => exact fun _ => ⟨[], [], rfl, List.not_mem_nil, List.not_mem_nil⟩
  | cons c w ih =>
    intro h
    by_cases e : c = j
    · refine ⟨[], c :: w, rfl, List.not_mem_nil, fun hi => ?_⟩
      rcases List.mem_cons.mp hi with h1 | h1
      · exact hij (h1.trans e)
      · refine h ?_
        rw [e]
        exact (List.singleton_sublist.mpr h1).cons_cons j
    · obtain ⟨W, V, h1, h2, h3⟩ := ih (fun hs2 => h (hs2.cons c))
      refine ⟨c :: W, V, by rw [h1]; rfl, fun hj => ?_, h3⟩
      rcases List.mem_cons.mp hj with h4 | h4
      · exact e h4.symm
      · exact h2 h4
theorem sub_tl {a b c : Nat} {y : List Nat} (h : List.Sublist [a, b] (c :: y)) (hc : c ≠ a) : List.Sublist [a, b] y := by
  cases h with
  | cons _ h1 => exact h1
  | cons_cons _ _ => exact absurd rfl hc
theorem al3 {i j : Nat} (hij : i ≠ j) : ∀ (y : List Nat), List.Sublist [i, j] y → List.Sublist [j, i] y → 3 ≤ aln i j y ∨ 3 ≤ aln j i y := by
  intro y
  induction y with
  | nil =>
    intro h _
    have := h.length_le
    simp at this
  | cons c y ih =>
    intro h1 h2
    by_cases ei : c = i
    · left
      have h3 := sub_tl h2 (by rw [ei]; exact hij)
      have h4 := aln_sub y 2 i j h3
      rw [aln, if_pos ei]
      omega
    · by_cases ej : c = j
      · right
        have h3 := sub_tl h1 ei
        have h4 := aln_sub y 2 j i h3
        rw [aln, if_pos ej]
        omega
      · rcases ih (sub_tl h1 ei) (sub_tl h2 ej) with h3 | h3
        · left
          rw [aln, if_neg ei]
          exact h3
        · right
          rw [aln, if_neg ej]
          exact h3
theorem amx_e (P : List Nat) (i j : Nat) : aln i j P ≤ amx P i j ∧ aln j i P ≤ amx P i j ∧ (amx P i j = aln i j P ∨ amx P i j = aln j i P) := by
  have h := mxn_e (kan P i j) (kan P j i)
  rw [kan_e, kan_e] at h
  have e : amx P i j = mxn (aln i j P) (aln j i P) := by
    unfold amx
    rw [kan_e, kan_e]
  rw [e]
  omega
theorem lump1 {r : Nat} {T : tT} (hT : tok T) {P : List Nat} (hP : cx_L r P) (lP : cx_l r (gA T) P = P.length) {i j : Nat} (hi : i < r) (hj : j < r) (hij : i ≠ j) (h2 : (T i j).getD 2 = 2) (ha : amx P.reverse i j ≤ 2) : tok (tU T i j 0) ∧ cx_l r (gA (tU T i j 0)) P = P.length ∧ (nng r (gA (tU T i j 0)) P → nng r (gA T) P) := by
  have hT2 : tok (tU T i j 0) := tok_U hT (Or.inl rfl)
  have hok := gA_ok hT r
  have hok2 := gA_ok hT2 r
  have u1 : tU T i j 0 i j = some 0 := if_pos (Or.inl ⟨rfl, rfl⟩)
  have u2 : tU T i j 0 j i = some 0 := if_pos (Or.inr ⟨rfl, rfl⟩)
  have H : lmp r (gA T) (gA (tU T i j 0)) i j := by
    refine ⟨hi, hj, hij, ?_, ?_, ?_, ?_, fun a b h1 h3 => ?_⟩
    · unfold gA
      rw [if_neg hij, h2]
      rfl
    · unfold gA
      rw [if_neg (Ne.symm hij), ← (hT i j).1, h2]
      rfl
    · unfold gA
      rw [if_neg hij, u1]
      rfl
    · unfold gA
      rw [if_neg (Ne.symm hij), u2]
      rfl
    · have e : tU T i j 0 a b = T a b := if_neg (fun h => h.elim h1 h3)
      unfold gA
      rw [e]
  have lB : cx_l r (gA (tU T i j 0)) P = P.length := by
    obtain ⟨r1, r2, r3⟩ := rdw_sp (A := gA (tU T i j 0)) hP
    have g := lm_hom hok hok2 H r1 hP r2
    have l1 := cx_l_le hP r1 g
    have l2 := cx_l_len (A := gA (tU T i j 0)) hP
    rw [← cx_l_eq r2, r3] at l2 ⊢
    omega
  refine ⟨hT2, lB, fun h f kf => ?_⟩
  have am := amx_e P.reverse i j
  by_cases s1 : List.Sublist [j, i] P
  · by_cases s2 : List.Sublist [i, j] P
    · exfalso
      rcases al3 hij P.reverse s1.reverse s2.reverse with h3 | h3
      · omega
      · omega
    · obtain ⟨W, V, e, w1, w2⟩ := split_w (Ne.symm hij) P s2
      rw [e] at hP lB kf h
      exact lm_nn hok hok2 (lmp_sw H) hP lB w1 w2 kf h
  · obtain ⟨W, V, e, w1, w2⟩ := split_w hij P s1
    rw [e] at hP lB kf h
    exact lm_nn hok hok2 H hP lB w1 w2 kf h
theorem lump_all {r : Nat} {P : List Nat} (hP : cx_L r P) : ∀ (ps : List (Nat × Nat)) (T : tT), tok T → cx_l r (gA T) P = P.length → ∃ T', tok T' ∧ cx_l r (gA T') P = P.length ∧ (nng r (gA T') P → nng r (gA T) P) ∧ (∀ a b, (T' a b).getD 2 = (T a b).getD 2 ∨ (T' a b).getD 2 = 0) ∧ ∀ q, q ∈ ps → q.1 < r → q.2 < r → q.1 ≠ q.2 → ¬ ((T' q.1 q.2).getD 2 = 2 ∧ amx P.reverse q.1 q.2 ≤ 2) := by
  intro ps
  induction ps with
  | nil => exact fun T hT lP => ⟨T, hT, lP, fun h => h, fun a b => Or.inl rfl, fun q hq => absurd hq List.not_mem_nil⟩
  | cons q ps ih =>
    intro T hT lP
    by_cases c : q.1 < r ∧ q.2 < r ∧ q.1 ≠ q.2 ∧ (T q.1 q.2).getD 2 = 2 ∧ amx P.reverse q.1 q.2 ≤ 2
    · obtain ⟨c1, c2, c3, c4, c5⟩ := c
      obtain ⟨t1, t2, t3⟩ := lump1 hT hP lP c1 c2 c3 c4 c5
      obtain ⟨T', a1, a2, a3, a4, a5⟩ := ih (tU T q.1 q.2 0) t1 t2
      have uv : ∀ a b, (tU T q.1 q.2 0 a b).getD 2 = (T a b).getD 2 ∨ (tU T q.1 q.2 0 a b).getD 2 = 0 := by
        intro a b
        unfold tU
        split
        · exact Or.inr rfl
        · exact Or.inl rfl
      refine ⟨T', a1, a2, fun h => t3 (a3 h), fun a b => ?_, fun p hp h1 h2 h3 h4 => ?_⟩
      · have x1 := a4 a b
        have x2 := uv a b
        omega
      · rcases List.mem_cons.mp hp with e | e
        · rw [e] at h4
          have x1 := a4 q.1 q.2
          have x2 : tU T q.1 q.2 0 q.1 q.2 = some 0 := if_pos (Or.inl ⟨rfl, rfl⟩)
          rw [x2] at x1
          have x3 : (some 0 : Option Nat).getD 2 = 0 := rfl
          rw [x3] at x1
          have x4 := h4.1
          omega
        · exact a5 p e h1 h2 h3 h4
    · obtain ⟨T', a1, a2, a3, a4, a5⟩ := ih T hT lP
      refine ⟨T', a1, a2, a3, a4, fun p hp h1 h2 h3 h4 => ?_⟩
      rcases List.mem_cons.mp hp with e | e
      · rw [e] at h1 h2 h3 h4
        have x1 := a4 q.1 q.2
        have x4 := h4.1
        exact c ⟨h1, h2, h3, by omega, h4.2⟩
      · exact a5 p e h1 h2 h3 h4
/-- a word's type -/
theorem type_nn {n : Nat} (n5 : n ≤ 5) {T : tT} (hT : tok T) {Q : List Nat} (hQ : cx_L n Q) (lQ : cx_l n (gA T) Q = Q.length) : ∃ T', tok T' ∧ (psn Q []).length ≤ 5 ∧ cx_L (psn Q []).length (ptl Q []) ∧ gmx 0 (ptl Q []) = (psn Q []).length ∧ grw 0 (ptl Q []) ∧ pcd (ptl Q []) [] 0 = pcd Q [] 0 ∧ cx_l (psn Q []).length (gA T') (ptl Q []) = (ptl Q []).length ∧ ktp (psn Q []).length (gA T') (ptl Q []).reverse ∧ (nng (psn Q []).length (gA T') (ptl Q []) → nng n (gA T) Q) := by
  have e0 : cx_L n ([] : List Nat) := fun r hr => absurd hr List.not_mem_nil
  have FL := psn_L Q [] hQ e0
  have FN := psn_nd Q [] List.nodup_nil
  obtain ⟨g1, g2⟩ := ptl_grw n5 Q [] hQ e0 List.nodup_nil
  have g2' : gmx 0 (ptl Q []) = (psn Q []).length := g2
  have r5 : (psn Q []).length ≤ n := nd_len n (psn Q []) FN FL
  have PL : cx_L (psn Q []).length (ptl Q []) := by
    have := gmx_L (ptl Q []) 0
    rw [g2'] at this
    exact this
  have EQ : (ptl Q []).map (fun i => (psn Q []).getD i 0) = Q := ptl_map Q [] rfl
  have PN := ptl_len Q []
  generalize hF : psn Q [] = F at *
  generalize hPP : ptl Q [] = P at *
  have fv : ∀ i (h : i < F.length), F.getD i 0 = F[i] := by
    intro i h
    rw [List.getD_eq_getElem?_getD, List.getElem?_eq_getElem h]
    rfl
  have fn : ∀ i, i < F.length → F.getD i 0 < n := by
    intro i h
    rw [fv i h]
    exact FL _ (List.getElem_mem h)
  have fi : ∀ i j, i < F.length → j < F.length → F.getD i 0 = F.getD j 0 → i = j := by
    intro i j hi hj h
    rw [fv i hi, fv j hj] at h
    have PW := List.pairwise_iff_getElem.mp FN
    rcases Nat.lt_trichotomy i j with h1 | h1 | h1
    · exact absurd h (PW i j hi hj h1)
    · exact h1
    · exact absurd h.symm (PW j i hj hi h1)
  have pc : pcd P [] 0 = pcd Q [] 0 := by
    have := pcd_map (p := fun i => F.getD i 0) (r := F.length) fi P [] 0 PL (fun r hr => absurd hr List.not_mem_nil)
    rw [EQ] at this
    exact this.symm
  obtain ⟨T1, hT1⟩ : ∃ T1 : tT, ∀ i j, T1 i j = some (if aln i j P.reverse < (T (F.getD i 0) (F.getD j 0)).getD 2 ∧ aln j i P.reverse < (T (F.getD i 0) (F.getD j 0)).getD 2 then 0 else (T (F.getD i 0) (F.getD j 0)).getD 2) := ⟨fun i j => some (if aln i j P.reverse < (T (F.getD i 0) (F.getD j 0)).getD 2 ∧ aln j i P.reverse < (T (F.getD i 0) (F.getD j 0)).getD 2 then 0 else (T (F.getD i 0) (F.getD j 0)).getD 2), fun i j => rfl⟩
  have v1 : ∀ i j, ((T1 i j).getD 2 = 0 ∧ aln i j P.reverse < (T (F.getD i 0) (F.getD j 0)).getD 2 ∧ aln j i P.reverse < (T (F.getD i 0) (F.getD j 0)).getD 2) ∨ ((T1 i j).getD 2 = (T (F.getD i 0) (F.getD j 0)).getD 2 ∧ ¬ (aln i j P.reverse < (T (F.getD i 0) (F.getD j 0)).getD 2 ∧ aln j i P.reverse < (T (F.getD i 0) (F.getD j 0)).getD 2)) := by
    intro i j
    rw [hT1 i j]
    by_cases c : aln i j P.reverse < (T (F.getD i 0) (F.getD j 0)).getD 2 ∧ aln j i P.reverse < (T (F.getD i 0) (F.getD j 0)).getD 2
    · rw [if_pos c]
      exact Or.inl ⟨rfl, c⟩
    · rw [if_neg c]
      exact Or.inr ⟨rfl, c⟩
  have ok1 : tok T1 := by
    intro i j
    constructor
    · rw [hT1 i j, hT1 j i, (hT (F.getD i 0) (F.getD j 0)).1]
      congr 1
      by_cases c : aln i j P.reverse < (T (F.getD j 0) (F.getD i 0)).getD 2 ∧ aln j i P.reverse < (T (F.getD j 0) (F.getD i 0)).getD 2
      · rw [if_pos c, if_pos ⟨c.2, c.1⟩]
      · rw [if_neg c, if_neg (fun h => c ⟨h.2, h.1⟩)]
    · intro t ht
      have d := tok_d hT (F.getD i 0) (F.getD j 0)
      have v := v1 i j
      rw [ht] at v
      have e : (some t : Option Nat).getD 2 = t := rfl
      rw [e] at v
      omega
  have hok := gA_ok hT n
  have hok1 := gA_ok ok1 F.length
  have TR : trf n (gA T) F.length (gA T1) (fun i => F.getD i 0) P := by
    refine ⟨fn, fi, fun i j hi hj hij => ⟨(T1 i j).getD 2, (T (F.getD i 0) (F.getD j 0)).getD 2, gA_pr ok1 hij, gA_pr hT (fun h => hij (fi i j hi hj h)), ?_⟩⟩
    have v := v1 i j
    omega
  have l1 : cx_l F.length (gA T1) P = P.length := by
    obtain ⟨r1, r2, r3⟩ := rdw_sp (A := gA T1) PL
    have g := tr_g hok hok1 TR r1 PL r2
    rw [EQ] at g
    have a := cx_l_le hQ (map_L TR r1) g
    have b := cx_l_len (A := gA T1) PL
    rw [List.length_map] at a
    rw [← cx_l_eq r2, r3] at b ⊢
    omega
  obtain ⟨T', a1, a2, a3, a4, a5⟩ := lump_all PL ((List.range 25).map (fun k => (k / 5, k % 5))) T1 ok1 l1
  refine ⟨T', a1, by omega, PL, g2', g1, pc, a2, fun i j hi hj hij => ⟨(T' i j).getD 2, gA_pr a1 hij, ?_⟩, fun h => ?_⟩
  · have v := v1 i j
    have x := a4 i j
    have am := amx_e P.reverse i j
    have mem : (i, j) ∈ (List.range 25).map (fun k => (k / 5, k % 5)) := by
      refine List.mem_map.mpr ⟨5 * i + j, List.mem_range.mpr (by omega), ?_⟩
      rw [show (5 * i + j) / 5 = i by omega, show (5 * i + j) % 5 = j by omega]
    have y := a5 (i, j) mem hi hj hij
    dsimp only at y
    omega
  · have k1 := a3 h
    have : nng n (gA T) (P.map (fun i => F.getD i 0)) := fun f kf => tr_nn hok hok1 TR PL l1 kf k1
    rw [EQ] at this
    exact this
theorem cl_nn {m : Nat} (m7 : m ≤ 7) (hm : ∀ (n : Nat) (T : tT), n ≤ 5 → tok T → knn n (gA T) m) : ∀ (c n : Nat) (T : tT) (Q : List Nat), n ≤ 5 → tok T → cx_L n Q → cx_l n (gA T) Q = Q.length → Q.length = m + 1 → pcd Q [] 0 = c → nng n (gA T) Q := by
  intro c
  induction c using Nat.strongRecOn with
  | ind c ih =>
    intro n T Q n5 hT hQ lQ Qm hc
    obtain ⟨T', b1, b2, b3, b4, b5, b6, b7, b8, b9⟩ := type_nn n5 hT hQ lQ
    have pl := ptl_len Q []
    have K := kg_all m m7 (ptl Q []) (by rw [pl, Qm]) b5
    rw [List.append_nil, b4] at K
    have K2 := K T' b1 (hm _ T' b2 b1)
    rw [List.reverse_reverse, List.length_reverse] at K2
    refine b9 (K2 b3 b7 (by rw [pl, Qm]) b8 (fun Q2 q1 q2 q3 q4 => ?_) (fun i j _ _ => Or.inl rfl))
    exact ih (pcd Q2 [] 0) (by rw [b6, hc] at q4; exact q4) _ T' Q2 b2 b1 q1 q2 q3 rfl
theorem kn_m : ∀ (m : Nat), m ≤ 8 → ∀ (n : Nat) (T : tT), n ≤ 5 → tok T → knn n (gA T) m := by
  intro m
  induction m with
  | zero =>
    intro _ n T _ hT w f hw hl hk u hu k
    have hok := gA_ok hT n
    rw [klo_un hok hw hk (klo_0 hok hw (by omega)) 0 u hu (by omega) k]
    unfold rd0
    by_cases hz : cx_l n (gA T) u = 0
    · rw [cii_p hz]
      split <;> omega
    · rw [cii_n hz]
      omega
  | succ m ih =>
    intro m8 n T n5 hT w f hw hl hk u hu k
    by_cases h : cx_l n (gA T) w ≤ m
    · exact ih (by omega) n T n5 hT w f hw h hk u hu k
    · obtain ⟨r1, r2, r3⟩ := rdw_sp (A := gA T) hw
      have lr : (rdw n (gA T) w).length = m + 1 := by
        rw [← r3, cx_l_eq r2]
        omega
      exact cl_nn (by omega) (ih (by omega)) _ n T (rdw n (gA T) w) n5 hT r1 r3 lr rfl f (klo_g r2.symm hk) u hu k
theorem kn_all : KN := fun n T hT _ h5 => kn_m 8 (Nat.le_refl _) n T h5 hT
theorem kp_all : KP := KP_of kn_all
