/-! The search: branches and leaves. -/
theorem an2 {x y : Bool} (h : (Bool.rec false x y : Bool) = true) : y = true ∧ x = true := by
  cases y with
  | false => exact absurd (show false = true from h) (by decide)
  | true => exact ⟨rfl, h⟩
theorem bro_m {a m : Nat} {yes : Bool} (h : bro a m yes = true) (hm : m ≤ a) : yes = true := by
  have h1 : (Bool.rec true yes (Nat.ble m a) : Bool) = true := h
  rw [Nat.ble_eq_true_of_le hm] at h1
  exact h1
theorem opn_m {K : List (Nat × Nat)} {i j : Nat} {no yes : Bool} (h : opn K i j no yes = true) : yes = true ∨ (kq K (cdp i j) ≠ 0 ∧ no = true) := by
  have h1 : (Bool.rec no yes (Nat.beq (kq K (cdp i j)) 0) : Bool) = true := h
  by_cases e : kq K (cdp i j) = 0
  · rw [bq_t e] at h1
    exact Or.inl h1
  · rw [bq_f e] at h1
    exact Or.inr ⟨e, h1⟩
theorem pke_m {K : List (Nat × Nat)} {w : List Nat} {yes : Nat → Nat → Bool} {no : Bool} (h : pke K w yes no = true) : (∃ i j, yes i j = true) ∨ no = true := by
  cases w with
  | nil => exact Or.inr h
  | cons a t =>
    cases t with
    | nil => exact Or.inr h
    | cons b t =>
      rcases opn_m (show opn K a b no (yes a b) = true from h) with h1 | h1
      · exact Or.inl ⟨a, b, h1⟩
      · exact Or.inr h1.2
theorem pkn_m {K : List (Nat × Nat)} {S : List (Nat × List Nat)} {yes : Nat → Nat → Bool} {no : Bool} (h : pkn K S yes no = true) : (∃ i j, yes i j = true) ∨ no = true := by
  induction S with
  | nil => exact Or.inr h
  | cons e S ih =>
    rcases pke_m (show pke K (rvl e.2 []) yes (pke K e.2 yes (pkn K S yes no)) = true from h) with h1 | h1
    · exact Or.inl h1
    · rcases pke_m h1 with h2 | h2
      · exact Or.inl h2
      · exact ih h2
theorem pka_m {K : List (Nat × Nat)} {w : List Nat} {yes : Nat → Nat → Bool} {no : Bool} (h : pka K w yes no = true) : (∃ i j, yes i j = true) ∨ no = true := by
  induction w with
  | nil => exact Or.inr h
  | cons a t ih =>
    cases t with
    | nil => exact Or.inr h
    | cons b t =>
      rcases opn_m (show opn K a b (pka K (b :: t) yes no) (yes a b) = true from h) with h1 | h1
      · exact Or.inl ⟨a, b, h1⟩
      · exact ih h1.2
theorem pkb_m {K : List (Nat × Nat)} {S : List (Nat × List Nat)} {yes : Nat → Nat → Bool} {no : Bool} (h : pkb K S yes no = true) : (∃ i j, yes i j = true) ∨ no = true := by
  induction S with
  | nil => exact Or.inr h
  | cons e S ih =>
    rcases pka_m (show pka K e.2 yes (pkb K S yes no) = true from h) with h1 | h1
    · exact Or.inl h1
    · exact ih h1
theorem pk1_m {K : List (Nat × Nat)} {i : Nat} {yes : Nat → Nat → Bool} {no : Bool} : ∀ {q : Nat}, pk1 K i q yes no = true → (∃ a b, yes a b = true) ∨ (no = true ∧ ∀ j, j < q → kq K (cdp j i) ≠ 0) := by
  intro q
  induction q with
  | zero => exact fun h => Or.inr ⟨h, fun j hj => absurd hj (Nat.not_lt_zero _)⟩
  | succ q ih =>
    intro h
    rcases opn_m (show opn K q i (pk1 K i q yes no) (yes q i) = true from h) with h1 | ⟨h1, h2⟩
    · exact Or.inl ⟨q, i, h1⟩
    · rcases ih h2 with h3 | ⟨h3, h4⟩
      · exact Or.inl h3
      · refine Or.inr ⟨h3, fun j hj => ?_⟩
        by_cases e : j = q
        · rw [e]
          exact h1
        · exact h4 j (by omega)
theorem pk2_m {K : List (Nat × Nat)} {yes : Nat → Nat → Bool} {no : Bool} : ∀ {q : Nat}, pk2 K q yes no = true → (∃ a b, yes a b = true) ∨ (no = true ∧ ∀ i, i < q → ∀ j, j < i → kq K (cdp j i) ≠ 0) := by
  intro q
  induction q with
  | zero => exact fun h => Or.inr ⟨h, fun i hi => absurd hi (Nat.not_lt_zero _)⟩
  | succ q ih =>
    intro h
    rcases pk1_m (show pk1 K q q yes (pk2 K q yes no) = true from h) with h1 | ⟨h1, h2⟩
    · exact Or.inl h1
    · rcases ih h1 with h3 | ⟨h3, h4⟩
      · exact Or.inl h3
      · refine Or.inr ⟨h3, fun i hi => ?_⟩
        by_cases e : i = q
        · rw [e]
          exact h2
        · exact h4 i (by omega)
theorem brn_m {P : List Nat} {r : Nat} {K : List (Nat × Nat)} {ih : List (Nat × Nat) → Bool} {i j : Nat} (h : brn P r K ih i j = true) : i ≠ j ∧ i < r ∧ j < r ∧ ih ((cdp i j, 1) :: K) = true ∧ (3 ≤ amx P i j → ih ((cdp i j, 2) :: K) = true) ∧ (3 ≤ amx P i j → ih ((cdp i j, 3) :: K) = true) ∧ (4 ≤ amx P i j → ih ((cdp i j, 4) :: K) = true) ∧ (6 ≤ amx P i j → ih ((cdp i j, 6) :: K) = true) := by
  have h0 : (Bool.rec (Bool.rec false (Bool.rec false (frc (amx P i j) (fun a => frc (cdp i j) (fun c => (Bool.rec false (Bool.rec false (Bool.rec false (Bool.rec false (ih ((c, 1) :: K)) (bro a 3 (ih ((c, 2) :: K)))) (bro a 3 (ih ((c, 3) :: K)))) (bro a 4 (ih ((c, 4) :: K)))) (bro a 6 (ih ((c, 6) :: K))) : Bool)))) (Nat.ble (Nat.succ j) r)) (Nat.ble (Nat.succ i) r)) false (Nat.beq i j) : Bool) = true := h
  by_cases e : i = j
  · rw [bq_t e] at h0
    exact absurd (show false = true from h0) (by decide)
  · rw [bq_f e, frc_e, frc_e] at h0
    have h1 := an2 h0
    have h2 := an2 h1.2
    have h3 := an2 h2.2
    have h4 := an2 h3.2
    have h5 := an2 h4.2
    have h6 := an2 h5.2
    exact ⟨e, Nat.le_of_ble_eq_true h1.1, Nat.le_of_ble_eq_true h2.1, h6.2, bro_m h6.1, bro_m h5.1, bro_m h4.1, bro_m h3.1⟩
theorem gA_pr {T : tT} (h : tok T) {i j : Nat} (hij : i ≠ j) : cx_pr (gA T i j) (gA T j i) ((T i j).getD 2) := by
  have key : ∀ {i j : Nat}, i < j → cx_pr (gA T i j) (gA T j i) ((T i j).getD 2) := by
    intro i j hlt
    unfold gA
    rw [if_neg (by omega), if_neg (by omega), ← (h i j).1, decide_eq_true hlt, decide_eq_false (by omega)]
    rcases tok_d h i j with e | e | e | e | e <;> rw [e]
    · unfold cx_pr nf; simp
    · unfold cx_pr nf; simp
    · unfold cx_pr nf; simp
    · unfold cx_pr nf; simp
    · unfold cx_pr nf; simp
  rcases Nat.lt_or_gt_of_ne hij with hlt | hlt
  · exact key hlt
  · rw [(h i j).1]
    exact cx_pr_t (key hlt)
section S
variable {r m C : Nat} {T : tT} {P : List Nat} {K : List (Nat × Nat)}
theorem kvl_c {A : Nat → Nat → Int} (hK : kvl r A K) (r8 : r ≤ 8) {i j o : Nat} (hi : i < r) (hj : j < r) (hij : i ≠ j) (ho : (o = 1 ∧ cx_pr (A i j) (A j i) 0) ∨ (2 ≤ o ∧ cx_pr (A i j) (A j i) o)) : kvl r A ((cdp i j, o) :: K) := by
  intro a b an bn
  rw [kq_c]
  have h1 := cdp_e i j
  have h2 := cdp_e a b
  by_cases e : cdp i j = cdp a b
  · rw [if_pos e]
    right
    have hab : (a = i ∧ b = j) ∨ (a = j ∧ b = i) := by omega
    rcases hab with ⟨e1, e2⟩ | ⟨e1, e2⟩
    · rw [e1, e2]
      exact ⟨hij, ho⟩
    · rw [e1, e2]
      refine ⟨Ne.symm hij, ?_⟩
      rcases ho with ⟨o1, o2⟩ | ⟨o1, o2⟩
      · exact Or.inl ⟨o1, cx_pr_t o2⟩
      · exact Or.inr ⟨o1, cx_pr_t o2⟩
  · rw [if_neg e]
    exact hK a b an bn
theorem A_knf (hT : tok T) (hK : kvl r (gA T) K) {q s : Nat} (hq : q < r) (hs2 : s < r) (hne : q ≠ s) (h0 : kq K (cdp q s) ≠ 0) : gA T q s = - ((knf (kq K (cdp q s)) (Nat.ble (Nat.succ q) s) : Nat) : Int) := by
  have pr := gA_pr hT hne
  have hk : (kq K (cdp q s) = 1 ∧ (T q s).getD 2 = 0) ∨ (2 ≤ kq K (cdp q s) ∧ (T q s).getD 2 = kq K (cdp q s)) := by
    rcases hK q s hq hs2 with h | ⟨_, ⟨h1, h2⟩ | ⟨h1, h2⟩⟩
    · exact absurd h h0
    · exact Or.inl ⟨h1, cx_pr_un pr h2⟩
    · exact Or.inr ⟨h1, cx_pr_un pr h2⟩
  have eb : decide (q < s) = Nat.ble (Nat.succ q) s := by
    by_cases h : q < s
    · rw [decide_eq_true h, Nat.ble_eq_true_of_le h]
    · rw [decide_eq_false h]
      cases hb : Nat.ble (Nat.succ q) s with
      | false => rfl
      | true => exact absurd (Nat.le_of_ble_eq_true hb) h
  unfold gA
  rw [if_neg hne, eb]
  generalize Nat.ble (Nat.succ q) s = b
  generalize kq K (cdp q s) = k at *
  rcases tok_d hT q s with e | e | e | e | e
  · have ek : k = 1 := by omega
    rw [e, ek]
    cases b <;> rfl
  · have ek : k = 2 := by omega
    rw [e, ek]
    cases b <;> rfl
  · have ek : k = 3 := by omega
    rw [e, ek]
    cases b <;> rfl
  · have ek : k = 4 := by omega
    rw [e, ek]
    cases b <;> rfl
  · have ek : k = 6 := by omega
    rw [e, ek]
    cases b <;> rfl
theorem krm_e (hT : tok T) (hK : kvl r (gA T) K) {s : Nat} (hs2 : s < r) (hall : ∀ j, j < r → j ≠ s → kq K (cdp j s) ≠ 0) : ∀ (q : Nat), q ≤ r → cx_sum q (fun j => gA T j s * 16777216 ^ j) = (if s < q then 2 * 16777216 ^ s else 0) - ((krm K s q : Nat) : Int) := by
  intro q
  induction q with
  | zero =>
    intro _
    rfl
  | succ q ih =>
    intro hq
    have I := ih (by omega)
    show cx_sum q (fun j => gA T j s * 16777216 ^ j) + gA T q s * 16777216 ^ q = (if s < q + 1 then 2 * 16777216 ^ s else 0) - (((Bool.rec (krm K s q + knf (kq K (cdp q s)) (Nat.ble (Nat.succ q) s) * 16777216 ^ q) (krm K s q) (Nat.beq q s) : Nat) : Nat) : Int)
    by_cases e : q = s
    · rw [bq_t e, I, if_neg (by omega), if_pos (by omega), e]
      have d : gA T s s = 2 := if_pos rfl
      rw [d]
      show 0 - ((krm K s s : Nat) : Int) + 2 * 16777216 ^ s = 2 * 16777216 ^ s - ((krm K s s : Nat) : Int)
      omega
    · rw [bq_f e, I, A_knf hT hK (by omega) hs2 e (hall q (by omega) e)]
      show _ = _ - ((krm K s q + knf (kq K (cdp q s)) (Nat.ble (Nat.succ q) s) * 16777216 ^ q : Nat) : Int)
      rw [Int.natCast_add, Int.natCast_mul, Int.natCast_pow, Int.neg_mul]
      have c : ((16777216 : Nat) : Int) = 16777216 := rfl
      rw [c]
      by_cases h2 : s < q
      · rw [if_pos h2, if_pos (by omega)]
        omega
      · rw [if_neg h2, if_neg (by omega)]
        omega
theorem krc_e {k : List (Nat × Nat) → Bool} : ∀ (q : Nat) (L : List (Nat × Nat)), ∃ M, krc K r q L k = k M ∧ (∀ s, s < q → kgd M s = (2 * 16777216 ^ s, krm K s r)) ∧ ∀ s, kgd M (q + s) = kgd L s := by
  intro q
  induction q with
  | zero => exact fun L => ⟨L, rfl, fun s hs2 => absurd hs2 (Nat.not_lt_zero _), fun s => by rw [Nat.zero_add]⟩
  | succ q ih =>
    intro L
    obtain ⟨M, h1, h2, h3⟩ := ih ((2 * 16777216 ^ q, krm K q r) :: L)
    refine ⟨M, ?_, fun s hs2 => ?_, fun s => ?_⟩
    · rw [← h1]
      show frc (krm K q r) (fun B => frc (2 * 16777216 ^ q) (fun C => krc K r q ((C, B) :: L) k)) = _
      rw [frc_e, frc_e]
    · by_cases e : s = q
      · have := h3 0
        rw [Nat.add_zero] at this
        rw [e, this]
        rfl
      · exact h2 s (by omega)
    · have := h3 (s + 1)
      rw [show q + 1 + s = q + (s + 1) by omega, this]
      rfl
theorem kn0_e {A : Nat → Nat → Int} : ∀ (q : Nat), q ≤ r → kn0 q = pks (cx_h r A []) q := by
  intro q
  induction q with
  | zero => exact fun _ => rfl
  | succ q ih =>
    intro hq
    show kn0 q + 8388609 * 16777216 ^ q = pks (cx_h r A []) q + (cx_h r A [] q + 8388608).toNat * 16777216 ^ q
    rw [ih (by omega), cx_h_nil (by omega)]
    rfl
theorem klf_ok (hT : tok T) (hm : knn r (gA T) m) (m7 : m ≤ 7) (hK : kvl r (gA T) K) (hP : cx_L r P.reverse) (lP : cx_l r (gA T) P.reverse = P.length) (Pm : P.length = m + 1) (hall : ∀ i, i < r → ∀ j, j < i → kq K (cdp j i) ≠ 0) (h : klf P r K = true) : nng r (gA T) P.reverse := by
  have hok := gA_ok hT r
  obtain ⟨M, e1, e2, _⟩ := krc_e (K := K) (r := r) (k := fun L => frc (kn0 r) (fun N => kfin N (kgd L) P)) r []
  have h1 : krc K r r [] (fun L => frc (kn0 r) (fun N => kfin N (kgd L) P)) = true := h
  rw [e1] at h1
  have h2 : frc (kn0 r) (fun N => kfin N (kgd M) P) = true := h1
  rw [frc_e] at h2
  have sy : ∀ i j, cdp i j = cdp j i := fun i j => by
    have a := cdp_e i j
    have b := cdp_e j i
    omega
  have al : ∀ i j, i < r → j < r → j ≠ i → kq K (cdp j i) ≠ 0 := by
    intro i j hi hj hne
    rcases Nat.lt_or_gt_of_ne hne with h3 | h3
    · exact hall i hi j h3
    · rw [sy]
      exact hall j hj i h3
  intro f hf
  refine kfin_ok (N0 := kn0 r) (Rs := kgd M) hok hm m7 (kn0_e r (Nat.le_refl _)) (fun s sn => ?_) hP (by rw [lP, List.length_reverse]) (by rw [List.length_reverse]; omega) hf (by rw [List.reverse_reverse]; exact h2)
  rw [e2 s sn]
  unfold kRo
  have k := krm_e hT hK sn (fun j hj hne => al s j sn hj hne) r (Nat.le_refl _)
  rw [if_pos sn] at k
  rw [k, Int.natCast_mul, Int.natCast_pow]
  rfl
/-- the turns that the search goes through -/
def ktp (r : Nat) (A : Nat → Nat → Int) (P : List Nat) : Prop := ∀ i j, i < r → j < r → i ≠ j → ∃ q, cx_pr (A i j) (A j i) q ∧ (q = 0 ∨ (q ≤ amx P i j ∧ (q = 2 → 3 ≤ amx P i j)))
/-- one pair's turns -/
theorem ksp (r8 : r ≤ 8) {A : Nat → Nat → Int} {X : Prop} (hK : kvl r A K) (tp : ktp r A P) {i j : Nat} (hi : i < r) (hj : j < r) (hij : i ≠ j) (h1 : kvl r A ((cdp i j, 1) :: K) → X) (h2 : 3 ≤ amx P i j → kvl r A ((cdp i j, 2) :: K) → X) (h3 : 3 ≤ amx P i j → kvl r A ((cdp i j, 3) :: K) → X) (h4 : 4 ≤ amx P i j → kvl r A ((cdp i j, 4) :: K) → X) (h6 : 6 ≤ amx P i j → kvl r A ((cdp i j, 6) :: K) → X) : X := by
  obtain ⟨q, hq, hq2⟩ := tp i j hi hj hij
  have V : ∀ o, (o = 1 ∧ cx_pr (A i j) (A j i) 0) ∨ (2 ≤ o ∧ cx_pr (A i j) (A j i) o) → kvl r A ((cdp i j, o) :: K) := fun o ho => kvl_c hK r8 hi hj hij ho
  have qv : q = 0 ∨ q = 2 ∨ q = 3 ∨ q = 4 ∨ q = 6 := by
    unfold cx_pr at hq
    omega
  rcases qv with e | e | e | e | e
  · rw [e] at hq
    exact h1 (V 1 (Or.inl ⟨rfl, hq⟩))
  · rw [e] at hq hq2
    exact h2 (by omega) (V 2 (Or.inr ⟨by omega, hq⟩))
  · rw [e] at hq hq2
    exact h3 (by omega) (V 3 (Or.inr ⟨by omega, hq⟩))
  · rw [e] at hq hq2
    exact h4 (by omega) (V 4 (Or.inr ⟨by omega, hq⟩))
  · rw [e] at hq hq2
    exact h6 (by omega) (V 6 (Or.inr ⟨by omega, hq⟩))
theorem krn_ok (hT : tok T) (r8 : r ≤ 8) (hm : knn r (gA T) m) (m7 : m ≤ 7) (hP : cx_L r P.reverse) (lP : cx_l r (gA T) P.reverse = P.length) (Pm : P.length = m + 1) (tp : ktp r (gA T) P) (IH : ∀ Q, cx_L r Q → cx_l r (gA T) Q = Q.length → Q.length = m + 1 → pcd Q [] 0 < C → nng r (gA T) Q) : ∀ (f : Nat) (K : List (Nat × Nat)), kvl r (gA T) K → krn P C r f K = true → nng r (gA T) P.reverse := by
  have hok := gA_ok hT r
  intro f
  induction f with
  | zero => exact fun K _ h => absurd (show false = true from h) (by decide)
  | succ f ih =>
    intro K hK h
    have h0 : (Bool.rec (pkn K (clo K 1500 [rvl P []] []) (brn P r K (krn P C r f)) (pkb K (clo K 1500 [rvl P []] []) (brn P r K (krn P C r f)) (pk2 K r (brn P r K (krn P C r f)) (klf P r K)))) true (tws P C K (clo K 1500 [rvl P []] [])) : Bool) = true := h
    have hS : ∀ e, e ∈ clo K 1500 [rvl P []] [] → cls r (gA T) P.reverse e.2 := by
      refine clo_ok hok hK 1500 _ _ (fun w hw => ?_) (fun e he => absurd he List.not_mem_nil)
      rw [List.mem_singleton.mp hw, rvl_e, List.append_nil]
      exact ⟨hP, rfl, rfl⟩
    cases ht : tws P C K (clo K 1500 [rvl P []] []) with
    | true => exact tws_ok hok hm hK IH (by rw [lP, List.length_reverse]) (by rw [List.length_reverse]; exact Pm) hS ht
    | false =>
      rw [ht] at h0
      have branch : (∃ i j, brn P r K (krn P C r f) i j = true) → nng r (gA T) P.reverse := by
        rintro ⟨i, j, hb⟩
        obtain ⟨b1, b2, b3, b4, b5, b6, b7, b8⟩ := brn_m hb
        exact ksp r8 hK tp b2 b3 b1 (fun V => ih _ V b4) (fun a V => ih _ V (b5 a)) (fun a V => ih _ V (b6 a)) (fun a V => ih _ V (b7 a)) (fun a V => ih _ V (b8 a))
      rcases pkn_m h0 with h1 | h1
      · exact branch h1
      · rcases pkb_m h1 with h2 | h2
        · exact branch h2
        · rcases pk2_m h2 with h3 | ⟨h3, h4⟩
          · exact branch h3
          · exact klf_ok hT hm m7 hK hP lP Pm h4 h3
end S
