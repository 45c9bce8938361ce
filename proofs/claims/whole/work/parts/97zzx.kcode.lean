/-! The reckoning of P in the kernel: tables by lengths. -/
abbrev kE : Type := Nat × Nat × List Nat
abbrev kZ : Type := Nat × Nat × List (List kE)
noncomputable def klk (N : Nat) (L : List kE) : Nat := List.rec 0 (fun e _ ih => Bool.rec ih e.2.1 (Nat.beq e.1 N)) L
noncomputable def kua (R : Nat × Nat) (s : Nat) (T : List kE) (L : List kE) : List kE := List.rec [] (fun e _ ih => Bool.rec ih ((e.1, Nat.add e.2.1 (Nat.mul 4294967296 (frc (kml R (kdg s e.1) e.1) (fun N => klk N T))), e.2.2) :: ih) (kas s e.1)) L
noncomputable def kdn (R : Nat × Nat) (s : Nat) (L : List kE) : List kE := List.rec [] (fun e _ ih => frc (kml R (kdg s e.1) e.1) (fun N => (N, e.2.1, s :: e.2.2) :: ih)) L
noncomputable def kap (L M : List kE) : List kE := List.rec M (fun e _ ih => e :: ih) L
noncomputable def khd (T : List (List kE)) : List kE := List.rec [] (fun A _ _ => A) T
noncomputable def kul (R : Nat × Nat) (s : Nat) (T : List (List kE)) : List (List kE) := List.rec [] (fun A r ih => kua R s (khd r) A :: ih) T
noncomputable def kdl (R : Nat × Nat) (s : Nat) (U : List (List kE)) : List kE → List (List kE) := List.rec (fun c => [c]) (fun A _ ih c => kap A c :: ih (kdn R s A)) U
noncomputable def kmm (N : Nat) (Z : List kZ) : Bool := List.rec false (fun z _ ih => Bool.rec ih true (Nat.beq z.1 N)) Z
noncomputable def kza (rc : List Nat → List (List kE)) (lv t l s : Nat) (L : List kE) (M : List kZ) : List kZ := List.rec M (fun e _ ih => Bool.rec (Bool.rec (frc (Nat.mod (Nat.shiftRight e.2.1 (Nat.mul 32 (Nat.div (Nat.sub (Nat.sub lv l) 1) 2))) 4294967296) (fun m => Bool.rec (Bool.rec ((e.1, Nat.mul m (Nat.pow 4294967296 (Nat.div (Nat.sub (Nat.succ lv) l) 2)), rc e.2.2) :: ih) ih (kmm e.1 ih)) ih (Nat.beq m 0))) ih (kas s e.1)) ih (Bool.rec (kas t e.1) false (Nat.beq (Nat.succ l) lv))) L
noncomputable def kzl (rc : List Nat → List (List kE)) (lv t s : Nat) (T : List (List kE)) : Nat → List kZ := List.rec (fun _ => []) (fun A _ ih l => Bool.rec (ih (Nat.succ l)) (kza rc lv t l s A (ih (Nat.succ l))) (Nat.beq (Nat.mod (Nat.sub lv l) 2) 1)) T
noncomputable def kgt (T : List (List kE)) : Nat → List kE := List.rec (fun _ => []) (fun A _ ih l => Nat.rec A (fun l _ => ih l) l) T
noncomputable def ksm (Z : List kZ) (l N : Nat) : Nat := List.rec 0 (fun z _ ih => Nat.add ih (Nat.mul z.2.1 (klk N (kgt z.2.2 l)))) Z
noncomputable def kma (Z : List kZ) (l : Nat) (L : List kE) : List kE := List.rec [] (fun e _ ih => (e.1, Nat.sub e.2.1 (ksm Z l e.1), e.2.2) :: ih) L
noncomputable def kmn (Z : List kZ) (T : List (List kE)) : Nat → List (List kE) := List.rec (fun _ => []) (fun A _ ih l => kma Z l A :: ih (Nat.succ l)) T
noncomputable def kdz (Z : List kZ) (T : List (List kE)) : List (List kE) := List.rec T (fun _ _ _ => kmn Z T 0) Z
noncomputable def kst (rc : List Nat → List (List kE)) (R : Nat × Nat) (lv t s : Nat) (T : List (List kE)) : List (List kE) := kdz (kzl rc lv t s T 0) (kdl R s (kul R s T) [])
noncomputable def khl (r : List Nat) : Nat := List.rec 0 (fun a _ _ => a) r
/-- words turned over -/
noncomputable def kwd (rc : List Nat → List (List kE)) (R : Nat → Nat × Nat) (N0 : Nat) (w : List Nat) : Nat × List (List kE) := List.rec (0, [[(N0, 1, [])]]) (fun s r ih => (Nat.succ ih.1, kst rc (R s) ih.1 (khl r) s ih.2)) w
noncomputable def ktb (N0 : Nat) (R : Nat → Nat × Nat) (f : Nat) : List Nat → List (List kE) := Nat.rec (fun _ => []) (fun _ ih w => (kwd ih R N0 w).2) f
noncomputable def kg1 (q c j : Nat) : Bool := Nat.ble (Nat.mod (Nat.shiftRight c (Nat.mul 32 j)) 4294967296) (Nat.mod (Nat.shiftRight q (Nat.mul 32 j)) 4294967296)
noncomputable def kge (q c : Nat) : Bool := Bool.rec false (Bool.rec false (Bool.rec false (Bool.rec false (kg1 q c 4) (kg1 q c 3)) (kg1 q c 2)) (kg1 q c 1)) (kg1 q c 0)
noncomputable def kck (Z : List kZ) (l N : Nat) : Nat → Bool := List.rec (fun _ => true) (fun z _ ih q => frc (Nat.mul z.2.1 (klk N (kgt z.2.2 l))) (fun t => Bool.rec false (ih (Nat.sub q t)) (kge q t))) Z
noncomputable def kaa (Z : List kZ) (l : Nat) (L : List kE) (b : Bool) : Bool := List.rec b (fun e _ ih => Bool.rec false ih (kck Z l e.1 e.2.1)) L
noncomputable def kal (Z : List kZ) (T : List (List kE)) : Nat → Bool := List.rec (fun _ => true) (fun A _ ih l => kaa Z l A (ih (Nat.succ l))) T
noncomputable def kfz (Z : List kZ) (T : List (List kE)) : Bool := List.rec true (fun _ _ _ => kal Z T 0) Z
noncomputable def kf0 (rc : List Nat → List (List kE)) (R : Nat × Nat) (lv t s : Nat) (T : List (List kE)) : Bool := kfz (kzl rc lv t s T 0) (kul R s T)
noncomputable def kfin (N0 : Nat) (R : Nat → Nat × Nat) (w : List Nat) : Bool := List.rec true (fun s v _ => kf0 (ktb N0 R 9) (R s) (List.length v) (khl v) s (ktb N0 R 9 v)) w
theorem bo_t {α : Type} (a b : α) {c : Bool} (h : c = true) : (Bool.rec a b c : α) = b := by rw [h]
theorem bo_f {α : Type} (a b : α) {c : Bool} (h : c = false) : (Bool.rec a b c : α) = a := by rw [h]
theorem bq_t {a b : Nat} (h : a = b) : Nat.beq a b = true := Nat.beq_eq.mpr h
theorem bq_f {a b : Nat} (h : a ≠ b) : Nat.beq a b = false := by
  cases e : Nat.beq a b with
  | false => rfl
  | true => exact absurd (Nat.eq_of_beq_eq_true e) h
theorem klk_c (N : Nat) (e : kE) (L : List kE) : klk N (e :: L) = if e.1 = N then e.2.1 else klk N L := by
  show (Bool.rec (klk N L) e.2.1 (Nat.beq e.1 N) : Nat) = _
  by_cases h : e.1 = N
  · rw [bo_t _ _ (bq_t h), if_pos h]
  · rw [bo_f _ _ (bq_f h), if_neg h]
theorem klk_in {N : Nat} {q : Nat} : ∀ {L : List kE}, (∃ e, e ∈ L ∧ e.1 = N) → (∀ e, e ∈ L → e.1 = N → e.2.1 = q) → klk N L = q := by
  intro L
  induction L with
  | nil =>
    rintro ⟨e, he, _⟩
    exact absurd he List.not_mem_nil
  | cons a L ih =>
    rintro ⟨e, he, h1⟩ h2
    rw [klk_c]
    by_cases h : a.1 = N
    · rw [if_pos h]
      exact h2 a List.mem_cons_self h
    · rw [if_neg h]
      rcases List.mem_cons.mp he with h3 | h3
      · exact absurd (h3 ▸ h1) h
      · exact ih ⟨e, h3, h1⟩ (fun e' he' => h2 e' (List.mem_cons_of_mem _ he'))
theorem klk_no {N : Nat} : ∀ {L : List kE}, (∀ e, e ∈ L → e.1 ≠ N) → klk N L = 0 := by
  intro L
  induction L with
  | nil => exact fun _ => rfl
  | cons a L ih =>
    intro h
    rw [klk_c, if_neg (h a List.mem_cons_self)]
    exact ih (fun e he => h e (List.mem_cons_of_mem _ he))
theorem kua_m {R : Nat × Nat} {s : Nat} {T : List kE} {e : kE} : ∀ {L : List kE}, e ∈ kua R s T L ↔ ∃ a, a ∈ L ∧ kas s a.1 = true ∧ e = (a.1, a.2.1 + 4294967296 * klk (kml R (kdg s a.1) a.1) T, a.2.2) := by
  intro L
  induction L with
  | nil =>
    constructor
    · exact fun h => absurd h List.not_mem_nil
    · rintro ⟨a, h, _⟩
      exact absurd h List.not_mem_nil
  | cons a L ih =>
    have e0 : kua R s T (a :: L) = (Bool.rec (kua R s T L) ((a.1, a.2.1 + 4294967296 * klk (kml R (kdg s a.1) a.1) T, a.2.2) :: kua R s T L) (kas s a.1) : List kE) := by
      show (Bool.rec (kua R s T L) ((a.1, Nat.add a.2.1 (Nat.mul 4294967296 (frc (kml R (kdg s a.1) a.1) (fun N => klk N T))), a.2.2) :: kua R s T L) (kas s a.1) : List kE) = _
      rw [frc_e]
      rfl
    rw [e0]
    cases hk : kas s a.1 with
    | false =>
      show e ∈ kua R s T L ↔ _
      rw [ih]
      constructor
      · rintro ⟨b, h1, h2⟩
        exact ⟨b, List.mem_cons_of_mem _ h1, h2⟩
      · rintro ⟨b, h1, h2, h3⟩
        rcases List.mem_cons.mp h1 with h | h
        · rw [h, hk] at h2
          exact absurd h2 (by decide)
        · exact ⟨b, h, h2, h3⟩
    | true =>
      show e ∈ (a.1, a.2.1 + 4294967296 * klk (kml R (kdg s a.1) a.1) T, a.2.2) :: kua R s T L ↔ _
      rw [List.mem_cons, ih]
      constructor
      · rintro (h | ⟨b, h1, h2⟩)
        · exact ⟨a, List.mem_cons_self, hk, h⟩
        · exact ⟨b, List.mem_cons_of_mem _ h1, h2⟩
      · rintro ⟨b, h1, h2, h3⟩
        rcases List.mem_cons.mp h1 with h | h
        · rw [h] at h3
          exact Or.inl h3
        · exact Or.inr ⟨b, h, h2, h3⟩
theorem kdn_m {R : Nat × Nat} {s : Nat} {e : kE} : ∀ {L : List kE}, e ∈ kdn R s L ↔ ∃ a, a ∈ L ∧ e = (kml R (kdg s a.1) a.1, a.2.1, s :: a.2.2) := by
  intro L
  induction L with
  | nil =>
    constructor
    · exact fun h => absurd h List.not_mem_nil
    · rintro ⟨a, h, _⟩
      exact absurd h List.not_mem_nil
  | cons a L ih =>
    have e0 : kdn R s (a :: L) = (kml R (kdg s a.1) a.1, a.2.1, s :: a.2.2) :: kdn R s L := by
      show frc (kml R (kdg s a.1) a.1) (fun N => (N, a.2.1, s :: a.2.2) :: kdn R s L) = _
      rw [frc_e]
    rw [e0, List.mem_cons, ih]
    constructor
    · rintro (h | ⟨b, h1, h2⟩)
      · exact ⟨a, List.mem_cons_self, h⟩
      · exact ⟨b, List.mem_cons_of_mem _ h1, h2⟩
    · rintro ⟨b, h1, h2⟩
      rcases List.mem_cons.mp h1 with h | h
      · rw [h] at h2
        exact Or.inl h2
      · exact Or.inr ⟨b, h, h2⟩
theorem kap_e (L M : List kE) : kap L M = L ++ M := by
  induction L with
  | nil => rfl
  | cons a L ih =>
    show a :: kap L M = _
    rw [ih]
    rfl
theorem kgt_n (l : Nat) : kgt [] l = [] := rfl
theorem khd_e (T : List (List kE)) : khd T = kgt T 0 := by
  cases T with
  | nil => rfl
  | cons A T => rfl
theorem kgt_ul {R : Nat × Nat} {s : Nat} : ∀ (T : List (List kE)) (l : Nat), kgt (kul R s T) l = kua R s (kgt T (l + 1)) (kgt T l) := by
  intro T
  induction T with
  | nil => exact fun l => rfl
  | cons A T ih =>
    intro l
    cases l with
    | zero =>
      show kua R s (khd T) A = kua R s (kgt T 0) A
      rw [khd_e]
    | succ l => exact ih l
theorem kgt_dl {R : Nat × Nat} {s : Nat} : ∀ (U : List (List kE)) (c : List kE), kgt (kdl R s U c) 0 = kgt U 0 ++ c ∧ ∀ l, kgt (kdl R s U c) (l + 1) = kgt U (l + 1) ++ kdn R s (kgt U l) := by
  intro U
  induction U with
  | nil => exact fun c => ⟨rfl, fun l => rfl⟩
  | cons A U ih =>
    intro c
    obtain ⟨i1, i2⟩ := ih (kdn R s A)
    refine ⟨?_, fun l => ?_⟩
    · show kap A c = A ++ c
      exact kap_e A c
    · show kgt (kdl R s U (kdn R s A)) l = kgt U l ++ kdn R s (kgt (A :: U) l)
      cases l with
      | zero => exact i1
      | succ l => exact i2 l
theorem kma_m {Z : List kZ} {l : Nat} {e : kE} : ∀ {L : List kE}, e ∈ kma Z l L ↔ ∃ a, a ∈ L ∧ e = (a.1, a.2.1 - ksm Z l a.1, a.2.2) := by
  intro L
  induction L with
  | nil =>
    constructor
    · exact fun h => absurd h List.not_mem_nil
    · rintro ⟨a, h, _⟩
      exact absurd h List.not_mem_nil
  | cons a L ih =>
    have e0 : kma Z l (a :: L) = (a.1, a.2.1 - ksm Z l a.1, a.2.2) :: kma Z l L := rfl
    rw [e0, List.mem_cons, ih]
    constructor
    · rintro (h | ⟨b, h1, h2⟩)
      · exact ⟨a, List.mem_cons_self, h⟩
      · exact ⟨b, List.mem_cons_of_mem _ h1, h2⟩
    · rintro ⟨b, h1, h2⟩
      rcases List.mem_cons.mp h1 with h | h
      · rw [h] at h2
        exact Or.inl h2
      · exact Or.inr ⟨b, h, h2⟩
theorem kgt_mn {Z : List kZ} : ∀ (T : List (List kE)) (l0 l : Nat), kgt (kmn Z T l0) l = kma Z (l0 + l) (kgt T l) := by
  intro T
  induction T with
  | nil => exact fun l0 l => rfl
  | cons A T ih =>
    intro l0 l
    cases l with
    | zero => rfl
    | succ l =>
      show kgt (kmn Z T (l0 + 1)) l = kma Z (l0 + (l + 1)) (kgt T l)
      rw [ih (l0 + 1) l, show l0 + 1 + l = l0 + (l + 1) by omega]
theorem kdz_m {Z : List kZ} {T : List (List kE)} {l : Nat} {e : kE} : e ∈ kgt (kdz Z T) l ↔ ∃ a, a ∈ kgt T l ∧ e = (a.1, a.2.1 - ksm Z l a.1, a.2.2) := by
  cases Z with
  | nil =>
    show e ∈ kgt T l ↔ ∃ a, a ∈ kgt T l ∧ e = (a.1, a.2.1, a.2.2)
    constructor
    · exact fun h => ⟨e, h, rfl⟩
    · rintro ⟨a, h1, h2⟩
      rw [h2]
      exact h1
  | cons z Z =>
    show e ∈ kgt (kmn (z :: Z) T 0) l ↔ _
    rw [kgt_mn, Nat.zero_add]
    exact kma_m
theorem kmm_e {N : Nat} : ∀ {Z : List kZ}, kmm N Z = true ↔ ∃ z, z ∈ Z ∧ z.1 = N := by
  intro Z
  induction Z with
  | nil =>
    constructor
    · exact fun h => absurd (show false = true from h) (by decide)
    · rintro ⟨z, h, _⟩
      exact absurd h List.not_mem_nil
  | cons a Z ih =>
    show (Bool.rec (kmm N Z) true (Nat.beq a.1 N) : Bool) = true ↔ _
    by_cases h : a.1 = N
    · rw [bo_t _ _ (bq_t h)]
      exact ⟨fun _ => ⟨a, List.mem_cons_self, h⟩, fun _ => rfl⟩
    · rw [bo_f _ _ (bq_f h), ih]
      constructor
      · rintro ⟨z, h1, h2⟩
        exact ⟨z, List.mem_cons_of_mem _ h1, h2⟩
      · rintro ⟨z, h1, h2⟩
        rcases List.mem_cons.mp h1 with h3 | h3
        · exact absurd (h3 ▸ h2) h
        · exact ⟨z, h3, h2⟩
