/-! The start: what both constructors leave. -/
def veq (v x : Value) : Bool := match v, x with
  | .null, .null => true
  | .ref a, .ref b => a == b
  | _, _ => false
def fok : List (Nat ⊕ Value) → List Value → Bool
  | [], [] => true
  | .inl 1 :: r, .long _ :: fs => fok r fs
  | .inl 0 :: r, .int _ :: fs => fok r fs
  | .inr v :: r, x :: fs => veq v x && fok r fs
  | _, _ => false
def cok (q : hQ) (e : mE) : Bool := match q, e with
  | .inl (1, n), .inl (1, m, .inr (.inl _)) => m == n
  | .inl (0, n), .inl (0, m, .inl _) => m == n
  | .inl (2, n), .inl (2, m, .inl _) => m == n
  | .inr (ci, fk), .inr (ci', fs) => ci' == ci && fok fk fs
  | _, _ => false
def hok : List hQ → List mE → Bool
  | [], [] => true
  | q :: r, e :: t => cok q e && hok r t
  | _, _ => false
def cxI (e : Option mE) (i : Nat) : Int32 := match e with
  | some (.inl (_, _, .inl f)) => f i
  | some (.inr (_, fs)) => match fs[i]? with
    | some (.int x) => x
    | _ => 0
  | _ => 0
def cxJ (e : Option mE) (i : Nat) : Int64 := match e with
  | some (.inl (_, _, .inr (.inl f))) => f i
  | some (.inr (_, fs)) => match fs[i]? with
    | some (.long x) => x
    | _ => 0
  | _ => 0
def exI (hp : List mE) : hI := fun a i => cxI hp[a]? i
def exJ (hp : List mE) : hJ := fun a i => cxJ hp[a]? i
theorem veq_e {v x : Value} (h : veq v x = true) : x = v := by
  unfold veq at h
  split at h
  · rfl
  · rw [eq_of_beq h]
  · cases h
theorem fok_e {I : hI} {J : hJ} {a : Nat} : ∀ (fk : List (Nat ⊕ Value)) (fs : List Value) (f : Nat), fok fk fs = true → (∀ k x, fs[k]? = some (.int x) → I a (f + k) = x) → (∀ k x, fs[k]? = some (.long x) → J a (f + k) = x) → fs = hF I J a f fk := by
  intro fk
  induction fk with
  | nil =>
    intro fs f h _ _
    cases fs with
    | nil => rfl
    | cons y ys => cases h
  | cons q r ih =>
    intro fs f h hi hj
    cases fs with
    | nil =>
      cases q with
      | inl k => cases k with
        | zero => cases h
        | succ k => cases k <;> cases h
      | inr v => cases h
    | cons y ys =>
      have rest : fok r ys = true → ys = hF I J a (f + 1) r := fun h2 => ih ys (f + 1) h2 (fun k x e => by rw [show f + 1 + k = f + (k + 1) by omega]; exact hi (k + 1) x e) (fun k x e => by rw [show f + 1 + k = f + (k + 1) by omega]; exact hj (k + 1) x e)
      rw [hF]
      cases q with
      | inr v =>
        have h' : (veq v y && fok r ys) = true := h
        rw [Bool.and_eq_true] at h'
        rw [← rest h'.2, veq_e h'.1]
        rfl
      | inl k =>
        cases k with
        | zero =>
          cases y with
          | int x =>
            have e := hi 0 x rfl
            rw [← rest h]
            show _ = Value.int (I a f) :: ys
            rw [show I a f = x from e]
          | _ => cases h
        | succ k =>
          cases k with
          | zero =>
            cases y with
            | long x =>
              have e := hj 0 x rfl
              rw [← rest h]
              show _ = Value.long (J a f) :: ys
              rw [show J a f = x from e]
            | _ => cases h
          | succ k => cases h
theorem cok_e {I : hI} {J : hJ} {a : Nat} {q : hQ} {e : mE} (h : cok q e = true) (hi : I a = cxI (some e)) (hj : J a = cxJ (some e)) : e = hC I J a q := by
  unfold cok at h
  split at h
  · rw [eq_of_beq h]
    show _ = (Sum.inl (1, _, Sum.inr (Sum.inl (J a))) : mE)
    rw [hj]
    rfl
  · rw [eq_of_beq h]
    show _ = (Sum.inl (0, _, Sum.inl (I a)) : mE)
    rw [hi]
    rfl
  · rw [eq_of_beq h]
    show _ = (Sum.inl (2, _, Sum.inl (I a)) : mE)
    rw [hi]
    rfl
  · rw [Bool.and_eq_true] at h
    rename_i ci fk ci' fs
    rw [eq_of_beq h.1]
    show _ = (Sum.inr (ci, hF I J a 0 fk) : mE)
    rw [← fok_e fk fs 0 h.2 (fun k x e => ?_) (fun k x e => ?_)]
    · rw [hi]
      show (match fs[0 + k]? with
        | some (.int x) => x
        | _ => 0) = x
      rw [Nat.zero_add, e]
    · rw [hj]
      show (match fs[0 + k]? with
        | some (.long x) => x
        | _ => 0) = x
      rw [Nat.zero_add, e]
  · cases h
theorem hok_e {I : hI} {J : hJ} : ∀ (sh : List hQ) (hp : List mE) (a : Nat), hok sh hp = true → (∀ k, I (a + k) = cxI hp[k]?) → (∀ k, J (a + k) = cxJ hp[k]?) → hp = hM I J a sh := by
  intro sh
  induction sh with
  | nil =>
    intro hp a h _ _
    cases hp with
    | nil => rfl
    | cons y ys => cases h
  | cons q r ih =>
    intro hp a h hi hj
    cases hp with
    | nil => cases h
    | cons y ys =>
      have h' : (cok q y && hok r ys) = true := h
      rw [Bool.and_eq_true] at h'
      rw [hM, ← cok_e (a := a) h'.1 (hi 0) (hj 0), ← ih ys (a + 1) h'.2 (fun k => by rw [show a + 1 + k = a + (k + 1) by omega]; exact hi (k + 1)) (fun k => by rw [show a + 1 + k = a + (k + 1) by omega]; exact hj (k + 1))]
theorem hok_H {sh : List hQ} {hp : List mE} (h : hok sh hp = true) : hp = mkH sh (exI hp) (exJ hp) := hok_e sh hp 0 h (fun k => by rw [Nat.zero_add]; rfl) (fun k => by rw [Nat.zero_add]; rfl)
/-- turns of the three mirrors of a new object -/
def T0 : tT := fun i j => if (i = 0 ∧ j = 1) ∨ (i = 1 ∧ j = 0) ∨ (i = 1 ∧ j = 2) ∨ (i = 2 ∧ j = 1) then some 3 else none
theorem T0_ok : tok T0 := by
  intro i j
  refine ⟨?_, ?_⟩
  · unfold T0
    by_cases h : (i = 0 ∧ j = 1) ∨ (i = 1 ∧ j = 0) ∨ (i = 1 ∧ j = 2) ∨ (i = 2 ∧ j = 1)
    · rw [if_pos h, if_pos (by omega)]
    · rw [if_neg h, if_neg (by omega)]
  · intro t h
    unfold T0 at h
    split at h
    · cases h
      omega
    · cases h
def fxA : List Value := (mdef 10).getD []
def fxB : List Value := (mdef 11).getD []
def hpA : List mE := match e103 200 0 [.inr (10, fxA)] with
  | some (_, h) => h
  | none => []
def hpB : List mE := match e136 200 26 (hpA ++ [.inr (11, fxB)]) with
  | some (_, h) => h
  | none => []
/-- what is to be seen of the start, by reckoning -/
def sAll : Bool := (mdef 10).isSome && (mdef 11).isSome && (e103 200 0 [.inr (10, fxA)]).isSome && (e136 200 26 (hpA ++ [.inr (11, fxB)])).isSome && hpA.length == 26 && hpA.all (moke 26) && hok (hs .null .null .null []) hpB && fxA.length == 11 && fxB.length == 41
def sI : Bool := exI hpB 1 0 == 3 && exI hpB 26 0 == 3 && exI hpB 8 1 == 1 && exI hpB 10 0 == 0 && exI hpB 0 7 == 0 && exI hpB 4 1 == 0 && exI hpB 4 4 == -1 && exI hpB 26 16 == 1 && exI hpB 34 0 == 0 && exI hpB 26 19 == 0 && exI hpB 26 5 == 0 && exI hpB 26 6 == -1 && exI hpB 26 30 == -1
def sA : Bool := (List.range 3).all fun i => (List.range 3).all fun j => exI hpB 3 (i * 5 + j) == zI (gA T0 i j) && exI hpB 28 (5 * i + j) == zI (gA T0 i j) && exI hpB 2 (i * 5 + j) == nI (gT T0 i j) && exI hpB 27 (5 * i + j) == nI (gT T0 i j)
def sJ0 : Bool := (List.range 3).all fun j => exJ hpB 11 j == zJ (cx_h 3 (gA T0) [] j) && exJ hpB 12 j == zJ (cx_h 3 (gA T0) [] j)
set_option maxRecDepth 100000 in
theorem sAll_t : sAll = true := by decide +kernel
set_option maxRecDepth 100000 in
theorem sI_t : sI = true := by decide +kernel
set_option maxRecDepth 100000 in
theorem sA_t : sA = true := by decide +kernel
set_option maxRecDepth 100000 in
theorem sJ0_t : sJ0 = true := by decide +kernel
theorem r3 {P : Nat → Bool} (h : (List.range 3).all P = true) : ∀ i, i < 3 → P i = true := fun i hi => List.all_eq_true.mp h i (List.mem_range.mpr hi)
theorem start_st : st 3 T0 [[]] [] 0 (fun _ => 0) (-1) (exI hpB) (exJ hpB) := by
  have h1 := sI_t
  have h2 := sA_t
  have h3 := sJ0_t
  unfold sI at h1
  unfold sA at h2
  unfold sJ0 at h3
  simp only [Bool.and_eq_true, beq_iff_eq] at h1
  obtain ⟨⟨⟨⟨⟨⟨⟨⟨⟨⟨⟨⟨a1, a2⟩, a3⟩, a4⟩, a5⟩, a6⟩, a7⟩, a8⟩, a9⟩, a10⟩, a11⟩, a12⟩, a13⟩ := h1
  have b : ∀ i j, i < 3 → j < 3 → exI hpB 3 (i * 5 + j) = zI (gA T0 i j) ∧ exI hpB 28 (5 * i + j) = zI (gA T0 i j) ∧ exI hpB 2 (i * 5 + j) = nI (gT T0 i j) ∧ exI hpB 27 (5 * i + j) = nI (gT T0 i j) := by
    intro i j hi hj
    have q := r3 (r3 h2 i hi) j hj
    simp only [Bool.and_eq_true, beq_iff_eq] at q
    exact ⟨q.1.1.1, q.1.1.2, q.1.2, q.2⟩
  have g : ∀ j, j < 3 → exJ hpB 11 j = zJ (cx_h 3 (gA T0) [] j) ∧ exJ hpB 12 j = zJ (cx_h 3 (gA T0) [] j) := by
    intro j hj
    have q := r3 h3 j hj
    simp only [Bool.and_eq_true, beq_iff_eq] at q
    exact q
  have ok := gA_ok T0_ok 3
  have bd := gA_bd T0_ok
  have e1 : ∀ (w : Nat) (y : List Nat), ([[]] : List (List Nat))[w]? = some y → w = 0 ∧ y = [] := by
    intro w y h
    cases w with
    | zero =>
      cases h
      exact ⟨rfl, rfl⟩
    | succ w => cases h
  have w0 : ∀ (f : Nat → Int32) (p : Nat), wd f p [] := fun f p i c h => by cases h
  refine ⟨T0_ok, ⟨⟨ok, by decide, by decide, a1, fun i j hi hj => ⟨(b i j hi hj).1, bd i j⟩⟩, fun i j hi hj => (b i j hi hj).2.2.1, ⟨Nat.le_refl _, by decide, rfl, a3, ?_⟩, a5, w0 _ _, ⟨Nat.zero_le _, a6, fun i hi => absurd hi (Nat.not_lt_zero i)⟩, a7⟩, ⟨ok, by decide, by decide, a2, fun i j hi hj => ⟨(b i j hi hj).2.1, bd i j⟩⟩, fun i j hi hj => (b i j hi hj).2.2.2, ⟨Nat.le_refl _, by decide, rfl, a8, ?_⟩, ⟨cx_L_nil, Nat.zero_le _, a10, w0 _ _⟩, ⟨Nat.zero_le _, a11, fun i hi => absurd hi (Nat.not_lt_zero i)⟩, a12⟩
  · intro w y h
    obtain ⟨rfl, rfl⟩ := e1 w y h
    exact ⟨trivial, Nat.zero_le _, a4, w0 _ _, fun j hj => by rw [Nat.zero_mul, Nat.zero_add]; exact (g j hj).1, fun j hj => by rw [Nat.zero_mul, Nat.zero_add]; exact (g j hj).2⟩
  · intro w y h
    obtain ⟨rfl, rfl⟩ := e1 w y h
    exact ⟨trivial, Nat.zero_le _, a9, w0 _ _⟩
theorem start_x : exI hpB 26 30 = gI 1 := by
  have h1 := sI_t
  unfold sI at h1
  simp only [Bool.and_eq_true, beq_iff_eq] at h1
  rw [h1.2]
  rfl
theorem start_inv : inv .null .null .null [] 3 T0 [[]] [] 0 (fun _ => 0) (-1) (exI hpB) (exJ hpB) := by
  have nr : ∀ {b : Nat}, (Value.null = Value.ref b) → False := fun h => by cases h
  refine ⟨start_st, ⟨Or.inl rfl, Or.inl rfl, Or.inl rfl⟩, ⟨by decide, by decide⟩, ⟨rfl, fun b c h => (nr h).elim, fun b c h => (nr h).elim, fun b c h => (nr h).elim, fun b h => (nr h).elim, fun b h => (nr h).elim, fun b h => (nr h).elim, fun q h => (List.not_mem_nil h).elim⟩, fun b h => (nr h).elim, fun b h => (nr h).elim, fun b h => (nr h).elim, Or.inl start_x⟩
/-- WHOLE, but for KP -/
theorem lgood_of (hK : KP) (L : Nat) (xs : Nat → Int32) : LGood L xs := by
  have h := sAll_t
  unfold sAll at h
  simp only [Bool.and_eq_true, beq_iff_eq, Option.isSome_iff_exists] at h
  obtain ⟨⟨⟨⟨⟨⟨⟨⟨⟨fx, x1⟩, ⟨fm, x2⟩⟩, ⟨r1, x3⟩⟩, ⟨r2, x4⟩⟩, x5⟩, x6⟩, x7⟩, x8⟩, x9⟩ := h
  have e1 : fxA = fx := by unfold fxA; rw [x1]; rfl
  have e2 : fxB = fm := by unfold fxB; rw [x2]; rfl
  have e3 : e103 200 0 [.inr (10, fxA)] = some ((), hpA) := by
    unfold hpA
    rw [x3]
  have e4 : e136 200 26 (hpA ++ [.inr (11, fxB)]) = some ((), hpB) := by
    unfold hpB
    rw [x4]
  obtain ⟨c1, w1, f, g1⟩ := a103 (d := 30) (by decide) 200 0 _ _ _ (by decide) e3 0 0
  obtain ⟨c2, w2, g, g2⟩ := a136 (d := 30) (by decide) 200 26 _ _ _ (by rw [List.length_append, x5]; decide) e4 0 0
  obtain ⟨n1, k1, s1⟩ := exec_kn _ _ _ _ _ _ _ _ _ _ _ _ _ g1
  obtain ⟨n2, k2, s2⟩ := exec_kn _ _ _ _ _ _ _ _ _ _ _ _ _ g2
  have l1 := exec_len _ _ _ _ _ _ _ _ _ _ _ _ _ g1
  have l2 := exec_len _ _ _ _ _ _ _ _ _ _ _ _ _ g2
  have eH := hok_H x7
  rw [← e1] at x1
  rw [← e2] at x2
  refine ⟨26, fun _ hp c w => IV hp ∧ c = hp.length ∧ w = sms hp, fxA, fxB, f, g, hpA, hpB, c1, w1, c2, w2, x1, g1, by rw [x5]; exact x6, x5, by decide, by decide, x2, g2, ⟨⟨_, _, _, _, _, _, _, _, _, _, _, _, _, eH, start_inv⟩, ?_, ?_⟩, linv_of hK L xs⟩
  · rw [List.length_append] at l2
    have l3 : ([.inr (10, fxA)] : List mE).length = 1 := rfl
    have l4 : ([.inr (11, fxB)] : List mE).length = 1 := rfl
    rw [l3] at l1
    rw [l4] at l2
    omega
  · unfold sms
    rw [k2]
    simp only [List.map_append]
    rw [k1]
    simp only [List.map_append, List.sum_append, List.map_cons, List.map_nil, List.sum_cons, List.sum_nil, knd]
    rw [x8, x9]
    omega
