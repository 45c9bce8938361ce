/-! The search is right. -/
theorem lcc_m {a : Nat} {M : List (List Nat)} {q : List Nat} : ∀ {L : List (List Nat)}, q ∈ lcc a L M → (∃ w, w ∈ L ∧ q = a :: w) ∨ q ∈ M := by
  intro L
  induction L with
  | nil => exact fun h => Or.inr h
  | cons w L ih =>
    intro h
    rcases List.mem_cons.mp (show q ∈ (a :: w) :: lcc a L M from h) with h1 | h1
    · exact Or.inl ⟨w, List.mem_cons_self, h1⟩
    · rcases ih h1 with ⟨w', h2, h3⟩ | h2
      · exact Or.inl ⟨w', List.mem_cons_of_mem _ h2, h3⟩
      · exact Or.inr h2
theorem lap_m {M : List (List Nat)} {q : List Nat} : ∀ {L : List (List Nat)}, q ∈ lap L M → q ∈ L ∨ q ∈ M := by
  intro L
  induction L with
  | nil => exact fun h => Or.inr h
  | cons w L ih =>
    intro h
    rcases List.mem_cons.mp (show q ∈ w :: lap L M from h) with h1 | h1
    · exact Or.inl (h1 ▸ List.mem_cons_self)
    · rcases ih h1 with h2 | h2
      · exact Or.inl (List.mem_cons_of_mem _ h2)
      · exact Or.inr h2
theorem stp_m : ∀ (k a b : Nat) (w : List Nat) (ok : List Nat → List (List Nat)) (q : List Nat), q ∈ stp k a b w ok → ∃ u, w = alw k a b u ∧ q ∈ ok u := by
  intro k
  induction k with
  | zero => exact fun a b w ok q h => ⟨w, rfl, h⟩
  | succ k ih =>
    intro a b w ok q h
    cases w with
    | nil => exact absurd h List.not_mem_nil
    | cons c u =>
      have h1 : q ∈ (Bool.rec [] (stp k b a u ok) (Nat.beq c a) : List (List Nat)) := h
      by_cases e : c = a
      · rw [bq_t e] at h1
        obtain ⟨u', h2, h3⟩ := ih b a u ok q h1
        refine ⟨u', ?_, h3⟩
        rw [e, h2]
        rfl
      · rw [bq_f e] at h1
        exact absurd h1 List.not_mem_nil
theorem alw_e : ∀ (k a b : Nat) (u : List Nat), alw k a b u = (if k % 2 = 0 then cx_al a b k else cx_al b a k) ++ u := by
  intro k
  induction k with
  | zero => exact fun a b u => rfl
  | succ k ih =>
    intro a b u
    show a :: alw k b a u = _
    rw [ih b a u]
    by_cases h : k % 2 = 0
    · rw [if_pos h, if_neg (by omega), cx_al, if_pos h]
      rfl
    · rw [if_neg h, if_pos (by omega), cx_al, if_neg h]
      rfl
theorem rvl_e : ∀ (w c : List Nat), rvl w c = w.reverse ++ c := by
  intro w
  induction w with
  | nil => exact fun c => rfl
  | cons a w ih =>
    intro c
    show rvl w (a :: c) = _
    rw [ih, List.reverse_cons, List.append_assoc]
    rfl
theorem kan_e : ∀ (w : List Nat) (a b : Nat), kan w a b = aln a b w := by
  intro w
  induction w with
  | nil => exact fun a b => rfl
  | cons c w ih =>
    intro a b
    show (Bool.rec (kan w a b) (Nat.succ (kan w b a)) (Nat.beq c a) : Nat) = _
    rw [aln, ih, ih]
    by_cases h : c = a
    · rw [bq_t h, if_pos h]
    · rw [bq_f h, if_neg h]
theorem cdp_e (i j : Nat) : (i ≤ j ∧ cdp i j = 8 * i + j) ∨ (j < i ∧ cdp i j = 8 * j + i) := by
  by_cases h : i ≤ j
  · left
    refine ⟨h, ?_⟩
    unfold cdp
    rw [Nat.ble_eq_true_of_le h]
    rfl
  · right
    refine ⟨by omega, ?_⟩
    unfold cdp
    have e : Nat.ble i j = false := by
      cases hb : Nat.ble i j with
      | false => rfl
      | true => exact absurd (Nat.le_of_ble_eq_true hb) h
    rw [e]
    rfl
theorem kq_c (K : List (Nat × Nat)) (c o d : Nat) : kq ((c, o) :: K) d = if c = d then o else kq K d := by
  show (Bool.rec (kq K d) o (Nat.beq c d) : Nat) = _
  by_cases h : c = d
  · rw [bq_t h, if_pos h]
  · rw [bq_f h, if_neg h]
section S
variable {r m C : Nat} {A : Nat → Nat → Int} {P : List Nat} {K : List (Nat × Nat)}
/-- not under 0 -/
def nng (n : Nat) (A : Nat → Nat → Int) (W : List Nat) : Prop := ∀ f, klo n A W f → ∀ u, cx_L n u → ∀ k, 0 ≤ f u k
/-- what K says is so -/
def kvl (r : Nat) (A : Nat → Nat → Int) (K : List (Nat × Nat)) : Prop := ∀ i j, i < r → j < r → kq K (cdp i j) = 0 ∨ (i ≠ j ∧ ((kq K (cdp i j) = 1 ∧ cx_pr (A i j) (A j i) 0) ∨ (2 ≤ kq K (cdp i j) ∧ cx_pr (A i j) (A j i) (kq K (cdp i j)))))
/-- a word of the same element -/
def cls (r : Nat) (A : Nat → Nat → Int) (W Q : List Nat) : Prop := cx_L r Q ∧ Q.length = W.length ∧ cx_g r A Q = cx_g r A W
theorem hmv_ok (hok : cx_ok r A) (hK : kvl r A K) {w q : List Nat} (hw : cx_L r w) (h : q ∈ hmv K w) : cls r A w q := by
  cases w with
  | nil => exact absurd h List.not_mem_nil
  | cons a t =>
    cases t with
    | nil => exact absurd h List.not_mem_nil
    | cons b t =>
      have an := cx_L_hd hw
      have bn := cx_L_hd (cx_L_tl hw)
      have h1 : q ∈ frc (kq K (cdp a b)) (fun m => (Bool.rec [] (stp m a b (a :: b :: t) (fun u => [alw m b a u])) (Nat.ble 2 m) : List (List Nat))) := h
      rw [frc_e] at h1
      cases hb : Nat.ble 2 (kq K (cdp a b)) with
      | false =>
        rw [hb] at h1
        exact absurd h1 List.not_mem_nil
      | true =>
        rw [hb] at h1
        have k2 := Nat.le_of_ble_eq_true hb
        obtain ⟨u, h2, h3⟩ := stp_m _ _ _ _ _ _ h1
        have h4 : q = alw (kq K (cdp a b)) b a u := List.mem_singleton.mp h3
        rcases hK a b an bn with h5 | ⟨hab, h5⟩
        · omega
        · have pr : cx_pr (A a b) (A b a) (kq K (cdp a b)) := by
            rcases h5 with ⟨h6, _⟩ | ⟨_, h6⟩
            · omega
            · exact h6
          have hw2 := hw
          rw [h2, alw_e] at hw2
          have uL : cx_L r u := fun x hx => hw2 x (List.mem_append_right _ hx)
          rw [h4, h2, alw_e, alw_e]
          by_cases he : kq K (cdp a b) % 2 = 0
          · rw [if_pos he, if_pos he]
            exact ⟨cx_L_app (cx_al_L bn an _) uL, by rw [List.length_append, List.length_append, cx_al_len, cx_al_len], cx_g_ap1 u (cx_g_braid hok bn an (Ne.symm hab) (cx_pr_t pr) (by omega))⟩
          · rw [if_neg he, if_neg he]
            exact ⟨cx_L_app (cx_al_L an bn _) uL, by rw [List.length_append, List.length_append, cx_al_len, cx_al_len], cx_g_ap1 u (cx_g_braid hok an bn hab pr (by omega))⟩
theorem nbs_ok (hok : cx_ok r A) (hK : kvl r A K) : ∀ {w q : List Nat}, cx_L r w → q ∈ nbs K w → cls r A w q := by
  intro w
  induction w with
  | nil => exact fun _ h => absurd h List.not_mem_nil
  | cons a t ih =>
    intro q hw h
    rcases lcc_m (show q ∈ lcc a (nbs K t) (hmv K (a :: t)) from h) with ⟨w', h1, h2⟩ | h1
    · obtain ⟨c1, c2, c3⟩ := ih (cx_L_tl hw) h1
      rw [h2]
      exact ⟨cx_L_cons (cx_L_hd hw) c1, by rw [List.length_cons, List.length_cons, c2], cx_g_cons a c3⟩
    · exact hmv_ok hok hK hw h1
theorem clo_ok (hok : cx_ok r A) (hK : kvl r A K) {W : List Nat} : ∀ (f : Nat) (V : List (List Nat)) (S : List (Nat × List Nat)), (∀ w, w ∈ V → cls r A W w) → (∀ e, e ∈ S → cls r A W e.2) → ∀ e, e ∈ clo K f V S → cls r A W e.2 := by
  intro f
  induction f with
  | zero => exact fun V S _ h2 => h2
  | succ f ih =>
    intro V S h1 h2 e he
    cases V with
    | nil => exact h2 e he
    | cons w V =>
      have he1 : e ∈ frc (cod w 1) (fun c => (Bool.rec (clo K f (lap (nbs K w) V) ((c, w) :: S)) (clo K f V S) (cme c S) : List (Nat × List Nat))) := he
      rw [frc_e] at he1
      have cw := h1 w List.mem_cons_self
      cases hb : cme (cod w 1) S with
      | true =>
        rw [hb] at he1
        exact ih V S (fun x hx => h1 x (List.mem_cons_of_mem _ hx)) h2 e he1
      | false =>
        rw [hb] at he1
        refine ih _ _ (fun x hx => ?_) (fun x hx => ?_) e he1
        · rcases lap_m hx with h | h
          · obtain ⟨c1, c2, c3⟩ := nbs_ok hok hK cw.1 h
            exact ⟨c1, c2.trans cw.2.1, c3.trans cw.2.2⟩
          · exact h1 x (List.mem_cons_of_mem _ h)
        · rcases List.mem_cons.mp hx with h | h
          · rw [h]
            exact cw
          · exact h2 x h
theorem adj_ok (hok : cx_ok r A) : ∀ {w : List Nat}, cx_L r w → adj w = true → cx_l r A w < w.length := by
  intro w
  induction w with
  | nil => exact fun _ h => absurd (show false = true from h) (by decide)
  | cons a t ih =>
    intro hw h
    cases t with
    | nil => exact absurd (show false = true from h) (by decide)
    | cons b t =>
      have h1 : (Bool.rec (adj (b :: t)) true (Nat.beq a b) : Bool) = true := h
      have an := cx_L_hd hw
      by_cases e : a = b
      · rw [← e, cx_l_eq (cx_g_sc hok an t), List.length_cons, List.length_cons]
        have := cx_l_len (A := A) (cx_L_tl (cx_L_tl hw))
        omega
      · rw [bq_f e] at h1
        have i1 := ih (cx_L_tl hw) h1
        have i2 := cx_lstep hok (cx_L_tl hw) an
        rw [List.length_cons] at i1 ⊢
        rw [List.length_cons]
        omega
theorem gdt_ok (hok : cx_ok r A) (hm : knn r A m) (hK : kvl r A K) {X : List Nat} (hX : cx_L r X) (lX : cx_l r A X.reverse = X.length) (Xm : X.length = m + 1) (h : gdt P K X = true) : nng r A X.reverse := by
  cases X with
  | nil => exact absurd (show false = true from h) (by decide)
  | cons s u =>
    cases u with
    | nil => exact absurd (show false = true from h) (by decide)
    | cons t v =>
      have sn := cx_L_hd hX
      have tn := cx_L_hd (cx_L_tl hX)
      have h1 : (Bool.rec (frc (gbd P s t (kq K (cdp s t))) (fun B => (Bool.rec false (Nat.ble (Nat.succ (kan (t :: v) t s)) B) (Nat.ble (Nat.succ (kan (t :: v) s t)) B) : Bool))) false (Nat.beq s t) : Bool) = true := h
      by_cases e : s = t
      · rw [bq_t e] at h1
        exact absurd (show false = true from h1) (by decide)
      · rw [bq_f e] at h1
        have h2 : frc (gbd P s t (kq K (cdp s t))) (fun B => (Bool.rec false (Nat.ble (Nat.succ (kan (t :: v) t s)) B) (Nat.ble (Nat.succ (kan (t :: v) s t)) B) : Bool)) = true := h1
        rw [frc_e, kan_e, kan_e] at h2
        cases hb : Nat.ble (Nat.succ (aln s t (t :: v))) (gbd P s t (kq K (cdp s t))) with
        | false =>
          rw [hb] at h2
          exact absurd (show false = true from h2) (by decide)
        | true =>
          rw [hb] at h2
          have b1 := Nat.le_of_ble_eq_true hb
          have b2 := Nat.le_of_ble_eq_true (show Nat.ble (Nat.succ (aln t s (t :: v))) (gbd P s t (kq K (cdp s t))) = true from h2)
          obtain ⟨q, hq⟩ := hok.2 s t sn tn e
          have eX : (s :: t :: v).reverse = v.reverse ++ [t] ++ [s] := by rw [List.reverse_cons, List.reverse_cons]
          have eu : (v.reverse ++ [t]).reverse = t :: v := by
            rw [List.reverse_append, List.reverse_reverse]
            rfl
          rw [List.length_cons, List.length_cons] at lX Xm
          intro f hf
          rw [eX] at hf lX
          have yL := cx_L_rev hX
          rw [eX] at yL
          refine gd_w hok yL (by rw [List.length_reverse]; exact lX) e hq (fun q0 => ?_) (by rw [List.length_reverse, show v.length + 1 = m by omega]; exact hm) hf
          rw [eu]
          have q2 := cx_pr_2 hq q0
          rcases hK s t sn tn with h5 | ⟨_, ⟨h5, h6⟩ | ⟨h5, h6⟩⟩
          · have eb : gbd P s t (kq K (cdp s t)) = 2 := by
              rw [h5]
              rfl
            rw [eb] at b1 b2
            omega
          · exact absurd (cx_pr_un hq h6) q0
          · have eb : gbd P s t (kq K (cdp s t)) = kq K (cdp s t) := by
              unfold gbd
              rw [bq_f (show kq K (cdp s t) ≠ 0 by omega), bq_f (show kq K (cdp s t) ≠ 1 by omega)]
            rw [eb, ← cx_pr_un hq h6] at b1 b2
            omega
theorem tw1_ok (hok : cx_ok r A) (hm : knn r A m) (hK : kvl r A K) (IH : ∀ Q, cx_L r Q → cx_l r A Q = Q.length → Q.length = m + 1 → pcd Q [] 0 < C → nng r A Q) {X : List Nat} (hX : cx_L r X) (lX : cx_l r A X = X.length) (Xm : X.length = m + 1) (h : tw1 P C K X = true) : nng r A X ∨ nng r A X.reverse := by
  have h1 : (Bool.rec (Bool.rec (gdt P K X) true (Nat.ble (Nat.succ (pcd X [] 0)) C)) true (adj X) : Bool) = true := h
  cases ha : adj X with
  | true =>
    have := adj_ok hok hX ha
    omega
  | false =>
    rw [ha] at h1
    have h2 : (Bool.rec (gdt P K X) true (Nat.ble (Nat.succ (pcd X [] 0)) C) : Bool) = true := h1
    cases hb : Nat.ble (Nat.succ (pcd X [] 0)) C with
    | true => exact Or.inl (IH X hX lX Xm (Nat.le_of_ble_eq_true hb))
    | false =>
      rw [hb] at h2
      exact Or.inr (gdt_ok hok hm hK hX (by rw [cx_l_rev hok hX]; exact lX) Xm h2)
theorem tws_m {S : List (Nat × List Nat)} (h : tws P C K S = true) : ∃ e, e ∈ S ∧ (tw1 P C K e.2 = true ∨ tw1 P C K e.2.reverse = true) := by
  induction S with
  | nil => exact absurd (show false = true from h) (by decide)
  | cons a S ih =>
    have h1 : (Bool.rec (Bool.rec (tws P C K S) true (tw1 P C K (rvl a.2 []))) true (tw1 P C K a.2) : Bool) = true := h
    rw [rvl_e, List.append_nil] at h1
    cases ha : tw1 P C K a.2 with
    | true => exact ⟨a, List.mem_cons_self, Or.inl ha⟩
    | false =>
      rw [ha] at h1
      have h2 : (Bool.rec (tws P C K S) true (tw1 P C K a.2.reverse) : Bool) = true := h1
      cases hb : tw1 P C K a.2.reverse with
      | true => exact ⟨a, List.mem_cons_self, Or.inr hb⟩
      | false =>
        rw [hb] at h2
        obtain ⟨e, e1, e2⟩ := ih h2
        exact ⟨e, List.mem_cons_of_mem _ e1, e2⟩
theorem nng_rv (hok : cx_ok r A) {Q : List Nat} (hQ : cx_L r Q) (h : nng r A Q.reverse) : nng r A Q := fun f hf => nn_rv hok hQ hf h
theorem tws_ok (hok : cx_ok r A) (hm : knn r A m) (hK : kvl r A K) (IH : ∀ Q, cx_L r Q → cx_l r A Q = Q.length → Q.length = m + 1 → pcd Q [] 0 < C → nng r A Q) {W : List Nat} (lW : cx_l r A W = W.length) (Wm : W.length = m + 1) {S : List (Nat × List Nat)} (hS : ∀ e, e ∈ S → cls r A W e.2) (h : tws P C K S = true) : nng r A W := by
  obtain ⟨e, he, h1⟩ := tws_m h
  obtain ⟨c1, c2, c3⟩ := hS e he
  have lQ : cx_l r A e.2 = e.2.length := by rw [cx_l_eq c3, lW, c2]
  have cR := cx_L_rev c1
  have lR : cx_l r A e.2.reverse = e.2.reverse.length := by rw [cx_l_rev hok c1, lQ, List.length_reverse]
  have main : nng r A e.2 := by
    rcases h1 with h2 | h2
    · rcases tw1_ok hok hm hK IH c1 lQ (by rw [c2, Wm]) h2 with h3 | h3
      · exact h3
      · exact nng_rv hok c1 h3
    · rcases tw1_ok hok hm hK IH cR lR (by rw [List.length_reverse, c2, Wm]) h2 with h3 | h3
      · exact nng_rv hok c1 h3
      · rw [List.reverse_reverse] at h3
        exact h3
  exact fun f hf => main f (klo_g c3.symm hf)
end S
