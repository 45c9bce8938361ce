/-! Words by patterns; all words that go on from one. -/
def grw : Nat → List Nat → Prop
  | _, [] => True
  | q, s :: Q => s ≤ q ∧ s < 5 ∧ grw (mxn q (Nat.succ s)) Q
noncomputable def gmx : Nat → List Nat → Nat
  | q, [] => q
  | q, s :: Q => gmx (mxn q (Nat.succ s)) Q
/-- a word (turned over), with what K says of its turns -/
def kpn (m r : Nat) (P : List Nat) (K : List (Nat × Nat)) : Prop := ∀ T, tok T → knn r (gA T) m → cx_L r P.reverse → cx_l r (gA T) P.reverse = P.length → P.length = m + 1 → ktp r (gA T) P → (∀ Q, cx_L r Q → cx_l r (gA T) Q = Q.length → Q.length = m + 1 → pcd Q [] 0 < pcd P.reverse [] 0 → nng r (gA T) Q) → kvl r (gA T) K → nng r (gA T) P.reverse
theorem kpn_r {m r C f : Nat} {P : List Nat} {K : List (Nat × Nat)} (m7 : m ≤ 7) (r8 : r ≤ 8) (hC : C = pcd P.reverse [] 0) (h : krn P C r f K = true) : kpn m r P K := by
  intro T hT hm hP lP Pm tp IH hK
  rw [hC] at h
  exact krn_ok hT r8 hm m7 hP lP Pm tp IH f K hK h
theorem kpn_s {m r i j c : Nat} {P : List Nat} {K : List (Nat × Nat)} (r8 : r ≤ 8) (hi : i < r) (hj : j < r) (hij : i ≠ j) (hc : c = cdp i j) (h1 : kpn m r P ((c, 1) :: K)) (h2 : amx P i j < 3 ∨ kpn m r P ((c, 2) :: K)) (h3 : amx P i j < 3 ∨ kpn m r P ((c, 3) :: K)) (h4 : amx P i j < 4 ∨ kpn m r P ((c, 4) :: K)) (h6 : amx P i j < 6 ∨ kpn m r P ((c, 6) :: K)) : kpn m r P K := by
  intro T hT hm hP lP Pm tp IH hK
  rw [hc] at h1 h2 h3 h4 h6
  refine ksp r8 hK tp hi hj hij (fun V => h1 T hT hm hP lP Pm tp IH V) (fun a V => ?_) (fun a V => ?_) (fun a V => ?_) (fun a V => ?_)
  · rcases h2 with h | h
    · omega
    · exact h T hT hm hP lP Pm tp IH V
  · rcases h3 with h | h
    · omega
    · exact h T hT hm hP lP Pm tp IH V
  · rcases h4 with h | h
    · omega
    · exact h T hT hm hP lP Pm tp IH V
  · rcases h6 with h | h
    · omega
    · exact h T hT hm hP lP Pm tp IH V
/-- all words with L letters more -/
def KG (m L q : Nat) (P : List Nat) : Prop := ∀ Q, Q.length = L → grw q Q → kpn m (gmx q Q) (Q.reverse ++ P) []
theorem KG_w {m q : Nat} {P : List Nat} (h : kpn m q P []) : KG m 0 q P := by
  intro Q hQ _
  rw [List.length_eq_zero_iff.mp hQ]
  exact h
theorem KG_s {m L q : Nat} {P : List Nat} (h : ∀ s, s ≤ q → s < 5 → KG m L (mxn q (Nat.succ s)) (s :: P)) : KG m (L + 1) q P := by
  intro Q hQ hg
  cases Q with
  | nil => exact absurd hQ (by simp)
  | cons s Q =>
    obtain ⟨g1, g2, g3⟩ := hg
    rw [List.length_cons] at hQ
    have := h s g1 g2 Q (by omega) g3
    rw [List.reverse_cons, List.append_assoc]
    exact this
theorem mxn_e (a b : Nat) : (a ≤ b ∧ mxn a b = b) ∨ (b < a ∧ mxn a b = a) := by
  by_cases h : a ≤ b
  · left
    refine ⟨h, ?_⟩
    unfold mxn
    rw [Nat.ble_eq_true_of_le h]
  · right
    refine ⟨by omega, ?_⟩
    unfold mxn
    have e : Nat.ble a b = false := by
      cases hb : Nat.ble a b with
      | false => rfl
      | true => exact absurd (Nat.le_of_ble_eq_true hb) h
    rw [e]
theorem KG_o {m : Nat} (m7 : m ≤ 7) : ∀ (L q : Nat) (P : List Nat), q ≤ 5 → kgo L q P = true → KG m L q P := by
  intro L
  induction L with
  | zero =>
    intro q P q5 h
    have h1 : krn P (pcd (rvl P []) [] 0) q 11 [] = true := h
    rw [rvl_e, List.append_nil] at h1
    exact KG_w (kpn_r m7 (by omega) rfl h1)
  | succ L ih =>
    intro q P q5 h
    have all : ∀ b, (Nat.rec true (fun s h => (Bool.rec false (Bool.rec (kgo L (mxn q (Nat.succ s)) (s :: P)) true (Nat.ble 5 s)) h : Bool)) b : Bool) = true → ∀ s, s < b → s < 5 → kgo L (mxn q (Nat.succ s)) (s :: P) = true := by
      intro b
      induction b with
      | zero => exact fun _ s hs2 => absurd hs2 (Nat.not_lt_zero _)
      | succ b ihb =>
        intro hb s hs2 s5
        have h1 := an2 (show (Bool.rec false (Bool.rec (kgo L (mxn q (Nat.succ b)) (b :: P)) true (Nat.ble 5 b)) (Nat.rec true (fun s h => (Bool.rec false (Bool.rec (kgo L (mxn q (Nat.succ s)) (s :: P)) true (Nat.ble 5 s)) h : Bool)) b : Bool) : Bool) = true from hb)
        by_cases e : s = b
        · have h2 := h1.2
          rw [← e] at h2
          have e5 : Nat.ble 5 s = false := by
            cases hc : Nat.ble 5 s with
            | false => rfl
            | true => exact absurd (Nat.le_of_ble_eq_true hc) (by omega)
          rw [e5] at h2
          exact h2
        · exact ihb h1.1 s (by omega) s5
    refine KG_s (fun s s1 s2 => ih _ _ ?_ (all (Nat.succ q) h s (by omega) s2))
    have := mxn_e q (Nat.succ s)
    omega
/-- the pattern of a word -/
noncomputable def ptl : List Nat → List Nat → List Nat
  | [], _ => []
  | a :: w, S => idx a S :: ptl w (snc a S)
noncomputable def psn : List Nat → List Nat → List Nat
  | [], S => S
  | a :: w, S => psn w (snc a S)
theorem idx_c (c d : Nat) (S : List Nat) : idx c (d :: S) = if d = c then 0 else idx c S + 1 := by
  show (Bool.rec (Nat.succ (idx c S)) 0 (Nat.beq d c) : Nat) = _
  by_cases h : d = c
  · rw [bq_t h, if_pos h]
  · rw [bq_f h, if_neg h]
theorem snc_c (c d : Nat) (S : List Nat) : snc c (d :: S) = if d = c then d :: S else d :: snc c S := by
  show (Bool.rec (d :: snc c S) (d :: S) (Nat.beq d c) : List Nat) = _
  by_cases h : d = c
  · rw [bq_t h, if_pos h]
  · rw [bq_f h, if_neg h]
theorem snc_e (c : Nat) : ∀ S : List Nat, (c ∈ S ∧ snc c S = S ∧ idx c S < S.length) ∨ (c ∉ S ∧ snc c S = S ++ [c] ∧ idx c S = S.length) := by
  intro S
  induction S with
  | nil => exact Or.inr ⟨List.not_mem_nil, rfl, rfl⟩
  | cons d S ih =>
    rw [snc_c, idx_c, List.length_cons]
    by_cases h : d = c
    · rw [if_pos h, if_pos h]
      exact Or.inl ⟨by rw [h]; exact List.mem_cons_self, rfl, by omega⟩
    · rw [if_neg h, if_neg h]
      rcases ih with ⟨h1, h2, h3⟩ | ⟨h1, h2, h3⟩
      · exact Or.inl ⟨List.mem_cons_of_mem _ h1, by rw [h2], by omega⟩
      · refine Or.inr ⟨fun hc => ?_, by rw [h2]; rfl, by omega⟩
        rcases List.mem_cons.mp hc with h4 | h4
        · exact h h4.symm
        · exact h1 h4
theorem snc_at (c : Nat) : ∀ S : List Nat, (snc c S)[idx c S]? = some c := by
  intro S
  induction S with
  | nil => rfl
  | cons d S ih =>
    rw [snc_c, idx_c]
    by_cases h : d = c
    · rw [if_pos h, if_pos h, h]
      rfl
    · rw [if_neg h, if_neg h]
      exact ih
theorem snc_pre (c : Nat) (S : List Nat) {i x : Nat} (h : S[i]? = some x) : (snc c S)[i]? = some x := by
  rcases snc_e c S with ⟨_, e, _⟩ | ⟨_, e, _⟩
  · rw [e]
    exact h
  · rw [e, List.getElem?_append_left (List.getElem?_eq_some_iff.mp h).1]
    exact h
theorem psn_pre : ∀ (w S : List Nat) {i x : Nat}, S[i]? = some x → (psn w S)[i]? = some x := by
  intro w
  induction w with
  | nil => exact fun S i x h => h
  | cons a w ih => exact fun S i x h => ih (snc a S) (snc_pre a S h)
theorem psn_nd : ∀ (w S : List Nat), S.Nodup → (psn w S).Nodup := by
  intro w
  induction w with
  | nil => exact fun S h => h
  | cons a w ih =>
    intro S h
    refine ih (snc a S) ?_
    rcases snc_e a S with ⟨_, e, _⟩ | ⟨h1, e, _⟩
    · rw [e]
      exact h
    · rw [e]
      refine List.nodup_append.mpr ⟨h, by simp, fun x hx y hy e2 => ?_⟩
      rw [List.mem_singleton.mp hy] at e2
      exact h1 (e2 ▸ hx)
theorem psn_L {n : Nat} : ∀ (w S : List Nat), cx_L n w → cx_L n S → cx_L n (psn w S) := by
  intro w
  induction w with
  | nil => exact fun S _ h => h
  | cons a w ih =>
    intro S hw h
    refine ih (snc a S) (cx_L_tl hw) ?_
    rcases snc_e a S with ⟨_, e, _⟩ | ⟨_, e, _⟩
    · rw [e]
      exact h
    · rw [e]
      exact cx_L_app h (cx_L_1 (cx_L_hd hw))
theorem ptl_map {F : List Nat} : ∀ (w S : List Nat), psn w S = F → (ptl w S).map (fun i => F.getD i 0) = w := by
  intro w
  induction w with
  | nil => exact fun S _ => rfl
  | cons a w ih =>
    intro S h
    rw [ptl, List.map_cons, ih (snc a S) h]
    have e : F[idx a S]? = some a := by
      rw [← h]
      exact psn_pre w (snc a S) (snc_at a S)
    have : F.getD (idx a S) 0 = a := by
      rw [List.getD_eq_getElem?_getD, e]
      rfl
    rw [this]
theorem ptl_len : ∀ (w S : List Nat), (ptl w S).length = w.length := by
  intro w
  induction w with
  | nil => exact fun S => rfl
  | cons a w ih =>
    intro S
    rw [ptl, List.length_cons, List.length_cons, ih]
theorem nd_len : ∀ (n : Nat) (l : List Nat), l.Nodup → (∀ x, x ∈ l → x < n) → l.length ≤ n := by
  intro n
  induction n with
  | zero =>
    intro l _ h
    cases l with
    | nil => exact Nat.le_refl _
    | cons a l => exact absurd (h a List.mem_cons_self) (Nat.not_lt_zero _)
  | succ n ih =>
    intro l hd h
    by_cases hn : n ∈ l
    · have h1 := ih (l.erase n) (hd.erase n) (fun x hx => by
        have h2 := (hd.mem_erase_iff).mp hx
        have h3 := h x h2.2
        have h4 := h2.1
        omega)
      rw [List.length_erase_of_mem hn] at h1
      omega
    · have := ih l hd (fun x hx => by
        have h3 := h x hx
        have : x ≠ n := fun e => hn (e ▸ hx)
        omega)
      omega
theorem snc_mx (a : Nat) (S : List Nat) : mxn S.length (Nat.succ (idx a S)) = (snc a S).length := by
  have h := mxn_e S.length (Nat.succ (idx a S))
  rcases snc_e a S with ⟨_, e, h3⟩ | ⟨_, e, h3⟩
  · rw [e]
    omega
  · rw [e, List.length_append, List.length_singleton]
    omega
theorem ptl_grw {n : Nat} (n5 : n ≤ 5) : ∀ (w S : List Nat), cx_L n w → cx_L n S → S.Nodup → grw S.length (ptl w S) ∧ gmx S.length (ptl w S) = (psn w S).length := by
  intro w
  induction w with
  | nil => exact fun S _ _ _ => ⟨trivial, rfl⟩
  | cons a w ih =>
    intro S hw hS hd
    have hL := psn_L [a] S (cx_L_1 (cx_L_hd hw)) hS
    have hN := psn_nd [a] S hd
    have hl : (snc a S).length ≤ n := nd_len n (snc a S) hN hL
    obtain ⟨i1, i2⟩ := ih (snc a S) (cx_L_tl hw) hL hN
    have hi : idx a S ≤ S.length ∧ idx a S < (snc a S).length := by
      rcases snc_e a S with ⟨_, e, h3⟩ | ⟨_, e, h3⟩
      · rw [e]
        omega
      · rw [e, List.length_append, List.length_singleton]
        omega
    constructor
    · show idx a S ≤ S.length ∧ idx a S < 5 ∧ grw (mxn S.length (Nat.succ (idx a S))) (ptl w (snc a S))
      rw [snc_mx]
      exact ⟨hi.1, by omega, i1⟩
    · show gmx (mxn S.length (Nat.succ (idx a S))) (ptl w (snc a S)) = _
      rw [snc_mx]
      exact i2
theorem gmx_le : ∀ (Q : List Nat) (q : Nat), q ≤ gmx q Q := by
  intro Q
  induction Q with
  | nil => exact fun q => Nat.le_refl _
  | cons s Q ih =>
    intro q
    have h1 := ih (mxn q (Nat.succ s))
    have h2 := mxn_e q (Nat.succ s)
    show q ≤ gmx (mxn q (Nat.succ s)) Q
    omega
theorem gmx_L : ∀ (Q : List Nat) (q : Nat), cx_L (gmx q Q) Q := by
  intro Q
  induction Q with
  | nil => exact fun q r hr => absurd hr List.not_mem_nil
  | cons s Q ih =>
    intro q
    have h1 := gmx_le Q (mxn q (Nat.succ s))
    have h2 := mxn_e q (Nat.succ s)
    exact cx_L_cons (show s < gmx (mxn q (Nat.succ s)) Q by omega) (ih (mxn q (Nat.succ s)))
theorem idx_map {p : Nat → Nat} {a : Nat} : ∀ (S : List Nat), (∀ x, x ∈ S → p x = p a → x = a) → idx (p a) (S.map p) = idx a S ∧ snc (p a) (S.map p) = (snc a S).map p := by
  intro S
  induction S with
  | nil => exact fun _ => ⟨rfl, rfl⟩
  | cons d S ih =>
    intro h
    obtain ⟨i1, i2⟩ := ih (fun x hx => h x (List.mem_cons_of_mem _ hx))
    rw [List.map_cons, idx_c, snc_c, idx_c, snc_c, i1, i2]
    by_cases e : d = a
    · rw [if_pos e, if_pos (by rw [e]), if_pos e, if_pos (by rw [e])]
      exact ⟨rfl, rfl⟩
    · have e2 : p d ≠ p a := fun h2 => e (h d List.mem_cons_self h2)
      rw [if_neg e, if_neg e2, if_neg e, if_neg e2]
      exact ⟨rfl, rfl⟩
theorem pcd_map {p : Nat → Nat} {r : Nat} (hp : ∀ x y, x < r → y < r → p x = p y → x = y) : ∀ (w S : List Nat) (c : Nat), cx_L r w → cx_L r S → pcd (w.map p) (S.map p) c = pcd w S c := by
  intro w
  induction w with
  | nil => exact fun S c _ _ => rfl
  | cons a w ih =>
    intro S c hw hS
    have an := cx_L_hd hw
    obtain ⟨e1, e2⟩ := idx_map (p := p) (a := a) S (fun x hx h => hp x a (hS x hx) an h)
    show pcd (w.map p) (snc (p a) (S.map p)) (8 * c + idx (p a) (S.map p)) = pcd w (snc a S) (8 * c + idx a S)
    rw [e1, e2]
    refine ih (snc a S) _ (cx_L_tl hw) ?_
    rcases snc_e a S with ⟨_, e, _⟩ | ⟨_, e, _⟩
    · rw [e]
      exact hS
    · rw [e]
      exact cx_L_app hS (cx_L_1 an)
