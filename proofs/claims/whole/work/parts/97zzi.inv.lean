/-! What stands between two calls. -/
def cz (v : Value) (k : Nat) : Nat := match v with
  | .null => 0
  | _ => k
def szq (q : hQ) : Nat := match q with
  | .inl (_, n) => n
  | .inr (_, fk) => fk.length
def lay (l s d : Value) (tl : List hQ) : Prop := tl.length = cz l 9 + cz s 8 + cz d 10 ∧ (∀ b c : Nat, l = .ref b → s = .ref c → b + 9 ≤ c ∨ c + 8 ≤ b) ∧ (∀ b c : Nat, l = .ref b → d = .ref c → b + 9 ≤ c ∨ c + 10 ≤ b) ∧ (∀ b c : Nat, s = .ref b → d = .ref c → b + 8 ≤ c ∨ c + 10 ≤ b) ∧ (∀ b : Nat, l = .ref b → b + 9 ≤ tl.length + 54) ∧ (∀ b : Nat, s = .ref b → b + 8 ≤ tl.length + 54) ∧ (∀ b : Nat, d = .ref b → b + 10 ≤ tl.length + 54) ∧ ∀ q ∈ tl, szq q ≤ 65536
def inv (l s d : Value) (tl : List hQ) (n : Nat) (T : tT) (els : List (List Nat)) (x : List Nat) (N : Nat) (tx : Nat → Nat) (fl : Int32) (I : hI) (J : hJ) : Prop := st n T els x N tx fl I J ∧ caS l s d tl ∧ okh (hs l s d tl) ∧ lay l s d tl ∧ lyK n (gA T) l I ∧ siK n (gA T) els s I ∧ idK n (gA T) (qc n (gA T)) els d I J ∧ exP n (gA T) els I J
theorem caC_b {v : Value} {P : Nat → Prop} (h : caC v P) {b : Nat} (e : v = .ref b) : 54 ≤ b ∧ P b := by
  rcases h with h | ⟨b', h, h54, hP⟩
  · rw [h] at e
    cases e
  · rw [h] at e
    cases e
    exact ⟨h54, hP⟩
section S
variable {l s d : Value} {tl : List hQ} {F : Nat} {I I' : hI} {J J' : hJ} {n : Nat} {A : Nat → Nat → Int} {T : tT} {els els' : List (List Nat)} {x : List Nat} {N : Nat} {tx : Nat → Nat} {fl : Int32}
theorem lyK_c (h : lyK n A l I) (e : ∀ b : Nat, l = .ref b → ∀ c, b ≤ c → c < b + 9 → I' c = I c) : lyK n A l I' := by
  intro b hb
  have k := e b hb
  obtain ⟨h1, h2⟩ := h b hb
  refine ⟨sfb_I h1 (k _ (by omega) (by omega)) (k _ (by omega) (by omega)) (k _ (by omega) (by omega)), ?_⟩
  unfold gch gdn at *
  rw [k b (by omega) (by omega), k (b + 3) (by omega) (by omega)]
  exact h2
theorem siK_c (h : siK n A els s I) (he : ∀ (w : Nat) (y : List Nat), els[w]? = some y → els'[w]? = some y) (e : ∀ b : Nat, s = .ref b → ∀ c, b ≤ c → c < b + 8 → I' c = I c) : siK n A els' s I' := by
  intro b hb
  have k := e b hb
  obtain ⟨h1, h2⟩ := h b hb
  refine ⟨sfb_I h1 (k _ (by omega) (by omega)) (k _ (by omega) (by omega)) (k _ (by omega) (by omega)), ?_⟩
  unfold siC siV at *
  rw [k b (by omega) (by omega)]
  rcases h2 with h2 | ⟨w, y, a1, a2⟩
  · exact Or.inl h2
  · exact Or.inr ⟨w, y, he w y a1, a2⟩
theorem idK_c {Q : List (List Nat) → Nat → (Nat → Int64) → Prop} (h : idK n A Q els d I J) (he : ∀ (w : Nat) (y : List Nat), els[w]? = some y → els'[w]? = some y) (hx : ∀ b : Nat, d = .ref b → ∀ c, b ≤ c → c < b + 10 → I' c = I c ∧ J' c = J c) : idK n A Q els' d I' J' := by
  intro b e
  have k := hx b e
  obtain ⟨h1, h2⟩ := h b e
  refine ⟨sfb_I h1 (k _ (by omega) (by omega)).1 (k _ (by omega) (by omega)).1 (k _ (by omega) (by omega)).1, ?_⟩
  rcases h2 with h7 | ⟨w, y, W, top, z, a1, a2, a3, a4, a5, a6, a7, a8, a9⟩
  · left
    rw [(k b (by omega) (by omega)).1]
    exact h7
  · refine Or.inr ⟨w, y, W, top, z, he w y a1, a2, by rw [(k b (by omega) (by omega)).1]; exact a3, a4, shf_at a5 (k _ (by omega) (by omega)).1 (k _ (by omega) (by omega)).1 (k _ (by omega) (by omega)).1 (k _ (by omega) (by omega)).1 (k _ (by omega) (by omega)).2, a6, a7, by rw [(k b (by omega) (by omega)).1]; exact a8, ?_⟩
    rw [(k (b + 3) (by omega) (by omega)).2]
    exact a9
theorem exP_c (h : exP n A els I J) (he : ∀ (w : Nat) (y : List Nat), els[w]? = some y → els'[w]? = some y) (h30 : I' 26 30 = I 26 30) (h31 : I' 26 31 = I 26 31) (e : ∀ c, 45 ≤ c → c < 54 → I' c = I c ∧ J' c = J c) : exP n A els' I' J' := by
  unfold exP exQ blF blP tbT sqs at *
  rw [h30, h31, (e 45 (by decide) (by decide)).2, (e 46 (by decide) (by decide)).1, (e 47 (by decide) (by decide)).1, (e 48 (by decide) (by decide)).1, (e 52 (by decide) (by decide)).1]
  rcases h with h | ⟨w, y, W, f, a1, a2⟩
  · exact Or.inl h
  · exact Or.inr ⟨w, y, W, f, he w y a1, a2⟩
/-- a call that leaves the caches -/
theorem inv_o {x' : List Nat} {N' : Nat} {tx' : Nat → Nat} {fl' : Int32} (hi : inv l s d tl n T els x N tx fl I J) (h : st n T els' x' N' tx' fl' I' J') (he : ∀ (w : Nat) (y : List Nat), els[w]? = some y → els'[w]? = some y) (hf : opf I I' J J') : inv l s d tl n T els' x' N' tx' fl' I' J' := by
  obtain ⟨-, hS, ho, hl, k1, k2, k3, k4⟩ := hi
  refine ⟨h, hS, ho, hl, lyK_c k1 (fun b e c c1 _ => (hf.1 c ?_).1), siK_c k2 he (fun b e c c1 _ => (hf.1 c ?_).1), idK_c k3 he (fun b e c c1 _ => hf.1 c ?_), exP_c k4 he hf.2.1 hf.2.2 (fun c c1 _ => hf.1 c c1)⟩
  · have := (caC_b hS.1 e).1
    omega
  · have := (caC_b hS.2.1 e).1
    omega
  · have := (caC_b hS.2.2 e).1
    omega
theorem up_at {a i : Nat} {v : Int32} : upI I a i v a i = v := by
  unfold upI
  rw [if_pos rfl, if_pos rfl]
/-- a new group -/
theorem inv_r {n' : Nat} {T' : tT} {x' : List Nat} {N' : Nat} {tx' : Nat → Nat} {fl' : Int32} (hi : inv l s d tl n T els x N tx fl I J) (h : st n' T' els' x' N' tx' fl' I' J') (hf : fgo l s d I I' J J') : inv l s d tl n' T' els' x' N' tx' fl' I' J' := by
  obtain ⟨-, hS, ho, hl, k1, k2, k3, -⟩ := hi
  obtain ⟨f1, f2, f3, f4, f5, f6⟩ := hf
  obtain ⟨-, l1, l2, l3, -, -, -, -⟩ := id hl
  refine ⟨h, hS, ho, hl, ?_, ?_, ?_, Or.inl f6⟩
  · intro b e
    have b54 := (caC_b hS.1 e).1
    have k : ∀ c, b < c → c < b + 9 → I' c = I c := by
      intro c c1 c2
      refine f1 c (by omega) (fun e2 => ?_) (fun e2 => ?_) (fun e2 => ?_)
      · rw [e] at e2
        cases e2
        omega
      · have := l1 b c e e2
        omega
      · have := l2 b c e e2
        omega
    exact ⟨sfb_I (k1 b e).1 (k _ (by omega) (by omega)) (k _ (by omega) (by omega)) (k _ (by omega) (by omega)), Or.inl (by rw [f2 b e, up_at])⟩
  · intro b e
    have b54 := (caC_b hS.2.1 e).1
    have k : ∀ c, b < c → c < b + 8 → I' c = I c := by
      intro c c1 c2
      refine f1 c (by omega) (fun e2 => ?_) (fun e2 => ?_) (fun e2 => ?_)
      · have := l1 c b e2 e
        omega
      · rw [e] at e2
        cases e2
        omega
      · have := l3 b c e e2
        omega
    exact ⟨sfb_I (k2 b e).1 (k _ (by omega) (by omega)) (k _ (by omega) (by omega)) (k _ (by omega) (by omega)), Or.inl (by rw [f3 b e, up_at])⟩
  · intro b e
    have b54 := (caC_b hS.2.2 e).1
    have k : ∀ c, b < c → c < b + 10 → I' c = I c := by
      intro c c1 c2
      refine f1 c (by omega) (fun e2 => ?_) (fun e2 => ?_) (fun e2 => ?_)
      · have := l2 c b e2 e
        omega
      · have := l3 c b e2 e
        omega
      · rw [e] at e2
        cases e2
        omega
    exact ⟨sfb_I (k3 b e).1 (k _ (by omega) (by omega)) (k _ (by omega) (by omega)) (k _ (by omega) (by omega)), Or.inl (by rw [f4 b e, up_at]; rfl)⟩
theorem r_get {r : List hQ} (i : Nat) : (hs l s d (tl ++ r))[tl.length + 54 + i]? = r[i]? := by
  rw [show tl.length + 54 + i = (tl.length + i) + 54 by omega]
  show (tl ++ r)[tl.length + i]? = r[i]?
  rw [List.getElem?_append_right (by omega), Nat.add_sub_cancel_left]
theorem q_ly {r : List hQ} (hr : r.length = 9) (P : lyS (hs l s d (tl ++ r)) (tl.length + 54)) : ∀ q ∈ r, szq q ≤ 65536 := by
  intro q hq
  obtain ⟨i, hi⟩ := List.mem_iff_getElem?.mp hq
  have hlt := (List.getElem?_eq_some_iff.mp hi).1
  obtain ⟨p0, p1, p2, p3, p4, p5, p6, p7, p8, -, -⟩ := P
  have g : ∀ (j : Nat) (z : hQ), (hs l s d (tl ++ r))[tl.length + 54 + j]? = some z → i = j → szq z ≤ 65536 → szq q ≤ 65536 := by
    intro j z e ej ez
    rw [r_get, ← ej, hi] at e
    cases e
    exact ez
  rcases (show i = 0 ∨ i = 1 ∨ i = 2 ∨ i = 3 ∨ i = 4 ∨ i = 5 ∨ i = 6 ∨ i = 7 ∨ i = 8 by omega) with e | e | e | e | e | e | e | e | e
  · exact g 0 _ p0 e (show (9 : Nat) ≤ 65536 by decide)
  · exact g 1 _ p1 e (show (5 : Nat) ≤ 65536 by decide)
  · exact g 2 _ p2 e (show (4096 : Nat) ≤ 65536 by decide)
  · exact g 3 _ p3 e (show (32 : Nat) ≤ 65536 by decide)
  · exact g 4 _ p4 e (show (7 : Nat) ≤ 65536 by decide)
  · exact g 5 _ p5 e (show (4096 * 5 : Nat) ≤ 65536 by decide)
  · exact g 6 _ p6 e (show (4096 : Nat) ≤ 65536 by decide)
  · exact g 7 _ p7 e (show (4096 * 2 : Nat) ≤ 65536 by decide)
  · exact g 8 _ p8 e (show (4096 : Nat) ≤ 65536 by decide)
theorem q_si {r : List hQ} (hr : r.length = 8) (P : siS (hs l s d (tl ++ r)) (tl.length + 54)) : ∀ q ∈ r, szq q ≤ 65536 := by
  intro q hq
  obtain ⟨i, hi⟩ := List.mem_iff_getElem?.mp hq
  have hlt := (List.getElem?_eq_some_iff.mp hi).1
  obtain ⟨p0, p1, p2, p4, p5, p6, p7, p8, -, -⟩ := P
  have g : ∀ (j : Nat) (z : hQ), (hs l s d (tl ++ r))[tl.length + 54 + j]? = some z → i = j → szq z ≤ 65536 → szq q ≤ 65536 := by
    intro j z e ej ez
    rw [r_get, ← ej, hi] at e
    cases e
    exact ez
  rcases (show i = 0 ∨ i = 1 ∨ i = 2 ∨ i = 3 ∨ i = 4 ∨ i = 5 ∨ i = 6 ∨ i = 7 by omega) with e | e | e | e | e | e | e | e
  · exact g 0 _ p0 e (show (10 : Nat) ≤ 65536 by decide)
  · exact g 1 _ p1 e (show (7500 : Nat) ≤ 65536 by decide)
  · exact g 2 _ p2 e (show (5 : Nat) ≤ 65536 by decide)
  · exact g 3 _ p4 e (show (7 : Nat) ≤ 65536 by decide)
  · exact g 4 _ p5 e (show (512 * 5 : Nat) ≤ 65536 by decide)
  · exact g 5 _ p6 e (show (512 : Nat) ≤ 65536 by decide)
  · exact g 6 _ p7 e (show (512 * 2 : Nat) ≤ 65536 by decide)
  · exact g 7 _ p8 e (show (512 : Nat) ≤ 65536 by decide)
theorem q_id {r : List hQ} (hr : r.length = 10) (P : idS (hs l s d (tl ++ r)) (tl.length + 54)) : ∀ q ∈ r, szq q ≤ 65536 := by
  intro q hq
  obtain ⟨i, hi⟩ := List.mem_iff_getElem?.mp hq
  have hlt := (List.getElem?_eq_some_iff.mp hi).1
  obtain ⟨p0, p1, p2, p3, p3a, p4, p5, p6, p7, p8, -, -⟩ := P
  have g : ∀ (j : Nat) (z : hQ), (hs l s d (tl ++ r))[tl.length + 54 + j]? = some z → i = j → szq z ≤ 65536 → szq q ≤ 65536 := by
    intro j z e ej ez
    rw [r_get, ← ej, hi] at e
    cases e
    exact ez
  rcases (show i = 0 ∨ i = 1 ∨ i = 2 ∨ i = 3 ∨ i = 4 ∨ i = 5 ∨ i = 6 ∨ i = 7 ∨ i = 8 ∨ i = 9 by omega) with e | e | e | e | e | e | e | e | e | e
  · exact g 0 _ p0 e (show (9 : Nat) ≤ 65536 by decide)
  · exact g 1 _ p1 e (show (5 : Nat) ≤ 65536 by decide)
  · exact g 2 _ p2 e (show (1280 : Nat) ≤ 65536 by decide)
  · exact g 3 _ p3 e (show (65536 : Nat) ≤ 65536 by decide)
  · exact g 4 _ p3a e (show (256 : Nat) ≤ 65536 by decide)
  · exact g 5 _ p4 e (show (7 : Nat) ≤ 65536 by decide)
  · exact g 6 _ p5 e (show (256 * 5 : Nat) ≤ 65536 by decide)
  · exact g 7 _ p6 e (show (256 : Nat) ≤ 65536 by decide)
  · exact g 8 _ p7 e (show (256 * 2 : Nat) ≤ 65536 by decide)
  · exact g 9 _ p8 e (show (256 : Nat) ≤ 65536 by decide)
theorem lay_l {l' : Value} {tl' : List hQ} (h : lay l s d tl) (hS : caS l' s d tl') (hc : (l' = l ∧ tl' = tl) ∨ (l = .null ∧ l' = .ref (tl.length + 54) ∧ ∃ r, tl' = tl ++ r ∧ r.length = 9)) : lay l' s d tl' := by
  rcases hc with ⟨rfl, rfl⟩ | ⟨rfl, rfl, r, rfl, hr⟩
  · exact h
  · obtain ⟨h1, h2, h3, h4, h5, h6, h7, h8⟩ := h
    have P := (caC_b hS.1 rfl).2
    have hL : (tl ++ r).length = tl.length + 9 := by rw [List.length_append, hr]
    refine ⟨?_, ?_, ?_, h4, ?_, ?_, ?_, ?_⟩
    · rw [hL, h1]
      show 0 + cz s 8 + cz d 10 + 9 = 9 + cz s 8 + cz d 10
      omega
    · intro b c e1 e2
      cases e1
      have := h6 c e2
      omega
    · intro b c e1 e2
      cases e1
      have := h7 c e2
      omega
    · intro b e
      cases e
      omega
    · intro b e
      have := h6 b e
      omega
    · intro b e
      have := h7 b e
      omega
    · intro q hq
      rcases List.mem_append.mp hq with hq | hq
      · exact h8 q hq
      · exact q_ly hr P q hq
theorem lay_s {s' : Value} {tl' : List hQ} (h : lay l s d tl) (hS : caS l s' d tl') (hc : (s' = s ∧ tl' = tl) ∨ (s = .null ∧ s' = .ref (tl.length + 54) ∧ ∃ r, tl' = tl ++ r ∧ r.length = 8)) : lay l s' d tl' := by
  rcases hc with ⟨rfl, rfl⟩ | ⟨rfl, rfl, r, rfl, hr⟩
  · exact h
  · obtain ⟨h1, h2, h3, h4, h5, h6, h7, h8⟩ := h
    have P := (caC_b hS.2.1 rfl).2
    have hL : (tl ++ r).length = tl.length + 8 := by rw [List.length_append, hr]
    refine ⟨?_, ?_, h3, ?_, ?_, ?_, ?_, ?_⟩
    · rw [hL, h1]
      show cz l 9 + 0 + cz d 10 + 8 = cz l 9 + 8 + cz d 10
      omega
    · intro b c e1 e2
      cases e2
      have := h5 b e1
      omega
    · intro b c e1 e2
      cases e1
      have := h7 c e2
      omega
    · intro b e
      have := h5 b e
      omega
    · intro b e
      cases e
      omega
    · intro b e
      have := h7 b e
      omega
    · intro q hq
      rcases List.mem_append.mp hq with hq | hq
      · exact h8 q hq
      · exact q_si hr P q hq
theorem lay_d {d' : Value} {tl' : List hQ} (h : lay l s d tl) (hS : caS l s d' tl') (hc : (d' = d ∧ tl' = tl) ∨ (d = .null ∧ d' = .ref (tl.length + 54) ∧ ∃ r, tl' = tl ++ r ∧ r.length = 10)) : lay l s d' tl' := by
  rcases hc with ⟨rfl, rfl⟩ | ⟨rfl, rfl, r, rfl, hr⟩
  · exact h
  · obtain ⟨h1, h2, h3, h4, h5, h6, h7, h8⟩ := h
    have P := (caC_b hS.2.2 rfl).2
    have hL : (tl ++ r).length = tl.length + 10 := by rw [List.length_append, hr]
    refine ⟨?_, h2, ?_, ?_, ?_, ?_, ?_, ?_⟩
    · rw [hL, h1]
      show cz l 9 + cz s 8 + 0 + 10 = cz l 9 + cz s 8 + 10
      omega
    · intro b c e1 e2
      cases e2
      have := h5 b e1
      omega
    · intro b c e1 e2
      cases e2
      have := h6 b e1
      omega
    · intro b e
      have := h5 b e
      omega
    · intro b e
      have := h6 b e
      omega
    · intro b e
      cases e
      omega
    · intro q hq
      rcases List.mem_append.mp hq with hq | hq
      · exact h8 q hq
      · exact q_id hr P q hq
theorem lay_len (h : lay l s d tl) : tl.length ≤ 27 := by
  have a : ∀ (v : Value) (k : Nat), cz v k ≤ k := by
    intro v k
    unfold cz
    split <;> omega
  have := h.1
  have := a l 9
  have := a s 8
  have := a d 10
  omega
/-- a call that may make Layers -/
theorem inv_l {l' : Value} {tl' : List hQ} (hi : inv l s d tl n T els x N tx fl I J) (h : st n T els x N tx fl I' J') (hS : caS l' s d tl') (ho : okh (hs l' s d tl')) (hf : cfm l l' 9 tl tl' I I' J J') (hk : lyK n (gA T) l' I') (h30 : I' 26 30 = I 26 30) (h31 : I' 26 31 = I 26 31) : inv l' s d tl' n T els x N tx fl I' J' := by
  obtain ⟨-, hS0, -, hl, -, k2, k3, k4⟩ := hi
  obtain ⟨-, l1, l2, l3, l4, l5, l6, -⟩ := id hl
  refine ⟨h, hS, ho, lay_l hl hS hf.1, hk, siK_c k2 (fun _ _ e => e) (fun b e c c1 c2 => (hf.2 c ?_ ?_ (fun b' e' => ?_)).1), idK_c k3 (fun _ _ e => e) (fun b e c c1 c2 => hf.2 c ?_ ?_ (fun b' e' => ?_)), exP_c k4 (fun _ _ e => e) h30 h31 (fun c c1 c2 => hf.2 c c1 (by omega) (fun b' e' => ?_))⟩
  · have := (caC_b hS0.2.1 e).1
    omega
  · have := l5 b e
    omega
  · have := l1 b' b e' e
    omega
  · have := (caC_b hS0.2.2 e).1
    omega
  · have := l6 b e
    omega
  · have := l2 b' b e' e
    omega
  · have := (caC_b hS0.1 e').1
    omega
/-- words -/
theorem inv_w {l' : Value} {tl' : List hQ} (hi : inv l s d tl n T els x N tx fl I J) (h : st n T els x N tx fl I' J') (hS : caS l' s d tl') (ho : okh (hs l' s d tl')) (hf : lyn l l' tl tl' I I' J J') : inv l' s d tl' n T els x N tx fl I' J' := by
  obtain ⟨-, hS0, -, -, k1, -, -, -⟩ := id hi
  obtain ⟨f1, f2⟩ := hf
  rcases f2 with ⟨rfl, rfl, f3, f4⟩ | ⟨rfl, rfl, rfl, f3, f4, f5⟩
  · have e26 : I' 26 = I 26 := f3 26 (by decide) (fun b e => by have := (caC_b hS0.1 e).1; omega)
    refine inv_l hi h hS ho ⟨Or.inl ⟨rfl, rfl⟩, fun c c1 c2 c3 => ⟨f3 c (by omega) (fun b e => ?_), f4 c c1 (fun b e => ?_)⟩⟩ (fun b e => ⟨f1 b e, ?_⟩) (by rw [e26]) (by rw [e26])
    · have := c3 b e
      omega
    · have := c3 b e
      omega
    · have b54 := (caC_b hS0.1 e).1
      have k := (k1 b e).2
      unfold gch gdn at *
      have q : ∀ b' : Nat, l' = .ref b' → b' = b := by
        intro b' e'
        rw [e] at e'
        cases e'
        rfl
      rw [f3 b (by omega) (fun b' e' => by have := q b' e'; omega), f3 (b + 3) (by omega) (fun b' e' => by have := q b' e'; omega)]
      exact k
  · refine inv_l hi h hS ho ⟨Or.inr ⟨rfl, rfl, _, rfl, rfl⟩, fun c c1 c2 _ => ⟨f3 c (by omega) c2, f4 c c1 c2⟩⟩ (fun b e => ⟨f1 b e, ?_⟩) (by rw [f3 26 (by decide) (by omega)]) (by rw [f3 26 (by decide) (by omega)])
    cases e
    exact Or.inl f5
/-- shifts -/
theorem inv_s {s' : Value} {tl' : List hQ} (hi : inv l s d tl n T els x N tx fl I J) (h : st n T els x N tx fl I' J') (hS : caS l s' d tl') (ho : okh (hs l s' d tl')) (hf : cfm s s' 8 tl tl' I I' J J') (hk : siK n (gA T) els s' I') (h30 : I' 26 30 = I 26 30) (h31 : I' 26 31 = I 26 31) : inv l s' d tl' n T els x N tx fl I' J' := by
  obtain ⟨-, hS0, -, hl, k1, -, k3, k4⟩ := hi
  obtain ⟨-, l1, l2, l3, l4, l5, l6, -⟩ := id hl
  refine ⟨h, hS, ho, lay_s hl hS hf.1, lyK_c k1 (fun b e c c1 c2 => (hf.2 c ?_ ?_ (fun b' e' => ?_)).1), hk, idK_c k3 (fun _ _ e => e) (fun b e c c1 c2 => hf.2 c ?_ ?_ (fun b' e' => ?_)), exP_c k4 (fun _ _ e => e) h30 h31 (fun c c1 c2 => hf.2 c c1 (by omega) (fun b' e' => ?_))⟩
  · have := (caC_b hS0.1 e).1
    omega
  · have := l4 b e
    omega
  · have := l1 b b' e e'
    omega
  · have := (caC_b hS0.2.2 e).1
    omega
  · have := l6 b e
    omega
  · have := l3 b' b e' e
    omega
  · have := (caC_b hS0.2.1 e').1
    omega
/-- p, leans, rough -/
theorem inv_d {d' : Value} {tl' : List hQ} {I1 : hI} {J1 : hJ} (hi : inv l s d tl n T els x N tx fl I J) (h : st n T els x N tx fl I' J') (hS : caS l s d' tl') (ho : okh (hs l s d' tl')) (hf : cfm d d' 10 tl tl' I I1 J J1) (hx : xfr I1 I' J1 J') (hk : idK n (gA T) (qc n (gA T)) els d' I' J') (he : exP n (gA T) els I' J') : inv l s d' tl' n T els x N tx fl I' J' := by
  obtain ⟨-, hS0, -, hl, k1, k2, -, -⟩ := hi
  obtain ⟨-, l1, l2, l3, l4, l5, l6, -⟩ := id hl
  refine ⟨h, hS, ho, lay_d hl hS hf.1, lyK_c k1 (fun b e c c1 c2 => (hx.2.2.2 c ?_).1.trans (hf.2 c ?_ ?_ (fun b' e' => ?_)).1), siK_c k2 (fun _ _ e => e) (fun b e c c1 c2 => (hx.2.2.2 c ?_).1.trans (hf.2 c ?_ ?_ (fun b' e' => ?_)).1), hk, he⟩
  · have := (caC_b hS0.1 e).1
    omega
  · have := (caC_b hS0.1 e).1
    omega
  · have := l4 b e
    omega
  · have := l2 b b' e e'
    omega
  · have := (caC_b hS0.2.1 e).1
    omega
  · have := (caC_b hS0.2.1 e).1
    omega
  · have := l5 b e
    omega
  · have := l3 b b' e e'
    omega
/-- r -/
theorem inv_x (hi : inv l s d tl n T els x N tx fl I J) (h : st n T els x N tx fl I' J') (hf : exK I I' J J') : inv l s d tl n T els x N tx fl I' J' := by
  obtain ⟨-, hS, ho, hl, k1, k2, k3, k4⟩ := hi
  refine ⟨h, hS, ho, hl, lyK_c k1 (fun b e c c1 _ => (hf.1 c ?_).1), siK_c k2 (fun _ _ e => e) (fun b e c c1 _ => (hf.1 c ?_).1), idK_c k3 (fun _ _ e => e) (fun b e c c1 _ => hf.1 c ?_), ?_⟩
  · have := (caC_b hS.1 e).1
    omega
  · have := (caC_b hS.2.1 e).1
    omega
  · have := (caC_b hS.2.2 e).1
    omega
  · rcases hf.2 with f1 | ⟨f1, f2, f3⟩
    · exact Or.inl f1
    · exact exP_c k4 (fun _ _ e => e) f2 f3 (fun c c1 _ => f1 c c1)
end S
