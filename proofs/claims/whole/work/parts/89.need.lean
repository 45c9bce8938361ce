/-! A cache that was not there is made when it is needed. -/
section S
variable {l s d l' s' d' : Value} {tl : List hQ} {F : Nat} {I : hI} {J : hJ}
theorem hs_app {r : List hQ} : hs l s d tl ++ r = hs l s d (tl ++ r) := rfl
theorem hs_len : (hs l s d tl).length = tl.length + 54 := rfl
theorem hs_get {r : List hQ} {a : Nat} {q : hQ} (ha : 54 ≤ a) (h : (hs l s d tl)[a]? = some q) : (hs l' s' d' (tl ++ r))[a]? = some q := by
  obtain ⟨k, rfl⟩ : ∃ k, a = k + 54 := ⟨a - 54, by omega⟩
  have e : ∀ (u v w : Value) (t : List hQ), (hs u v w t)[k + 54]? = t[k]? := fun _ _ _ _ => rfl
  rw [e] at h ⊢
  rw [List.getElem?_append_left (List.getElem?_eq_some_iff.mp h).1, h]
theorem hs_new {r : List hQ} {b i : Nat} (hb : b = tl.length + 54) : (hs l s d (tl ++ r))[b + i]? = r[i]? := by
  subst hb
  rw [show tl.length + 54 + i = (tl.length + i) + 54 by omega]
  show (tl ++ r)[tl.length + i]? = _
  rw [List.getElem?_append_right (by omega)]
  congr 1
  omega
theorem shS_get {r : List hQ} {q M : Nat} (h : shS (hs l s d tl) q M) : shS (hs l' s' d' (tl ++ r)) q M := by
  obtain ⟨h1, h2, h3, h4, h5, h6, h7⟩ := h
  exact ⟨hs_get h6 h1, hs_get (by omega) h2, hs_get (by omega) h3, hs_get (by omega) h4, hs_get (by omega) h5, h6, h7⟩
theorem lyS_get {r : List hQ} {b : Nat} (hb : 54 ≤ b) (h : lyS (hs l s d tl) b) : lyS (hs l' s' d' (tl ++ r)) b := by
  obtain ⟨h1, h2, h3, h4, h5⟩ := h
  exact ⟨hs_get hb h1, hs_get (by omega) h2, hs_get (by omega) h3, hs_get (by omega) h4, shS_get h5⟩
theorem siS_get {r : List hQ} {b : Nat} (hb : 54 ≤ b) (h : siS (hs l s d tl) b) : siS (hs l' s' d' (tl ++ r)) b := by
  obtain ⟨h1, h2, h3, h4⟩ := h
  exact ⟨hs_get hb h1, hs_get (by omega) h2, hs_get (by omega) h3, shS_get h4⟩
theorem idS_get {r : List hQ} {b : Nat} (hb : 54 ≤ b) (h : idS (hs l s d tl) b) : idS (hs l' s' d' (tl ++ r)) b := by
  obtain ⟨h1, h2, h3, h4, h5, h6⟩ := h
  exact ⟨hs_get hb h1, hs_get (by omega) h2, hs_get (by omega) h3, hs_get (by omega) h4, hs_get (by omega) h5, shS_get h6⟩
theorem lyS_new {b : Nat} (hb : b = tl.length + 54) : lyS (hs l s d (tl ++ lyc b)) b :=
  ⟨hs_new (i := 0) hb, hs_new (i := 1) hb, hs_new (i := 2) hb, hs_new (i := 3) hb, hs_new (i := 4) hb, hs_new (i := 5) hb, hs_new (i := 6) hb, hs_new (i := 7) hb, hs_new (i := 8) hb, by omega, by omega⟩
theorem siS_new {b : Nat} (hb : b = tl.length + 54) : siS (hs l s d (tl ++ sic b)) b :=
  ⟨hs_new (i := 0) hb, hs_new (i := 1) hb, hs_new (i := 2) hb, hs_new (i := 3) hb, hs_new (i := 4) hb, hs_new (i := 5) hb, hs_new (i := 6) hb, hs_new (i := 7) hb, by omega, by omega⟩
theorem idS_new {b : Nat} (hb : b = tl.length + 54) : idS (hs l s d (tl ++ idc b)) b :=
  ⟨hs_new (i := 0) hb, hs_new (i := 1) hb, hs_new (i := 2) hb, hs_new (i := 3) hb, hs_new (i := 4) hb, hs_new (i := 5) hb, hs_new (i := 6) hb, hs_new (i := 7) hb, hs_new (i := 8) hb, hs_new (i := 9) hb, by omega, by omega⟩
theorem caC_mo {v : Value} {P Q : Nat → Prop} (h : caC v P) (hq : ∀ b, 54 ≤ b → P b → Q b) : caC v Q := h.elim Or.inl (fun ⟨b, e, hb, hp⟩ => Or.inr ⟨b, e, hb, hq b hb hp⟩)
theorem okh_l {v : Value} (h : okh (hs l s d tl)) (hv : mokv (tl.length + 54) v = true) : okh (hs v s d tl) := by
  obtain ⟨h1, h2⟩ := h
  refine ⟨?_, h2⟩
  have e : ∀ (u v w : Value), (hs u v w tl).length = tl.length + 54 := fun _ _ _ => rfl
  rw [e, List.all_eq_true] at h1 ⊢
  intro q hq
  rcases List.mem_cons.mp hq with rfl | hq
  · have h0 : (hb0 l s d).all (okz (tl.length + 54)) = true := h1 _ (List.mem_cons_self ..)
    show (hb0 v s d).all (okz (tl.length + 54)) = true
    rw [List.all_eq_true] at h0 ⊢
    intro z hz
    simp only [hb0, List.mem_cons, List.not_mem_nil, or_false] at hz
    rcases hz with rfl | rfl | rfl | rfl | rfl | rfl | rfl | rfl | rfl | rfl | rfl
    · exact h0 _ (by simp [hb0])
    · exact h0 _ (by simp [hb0])
    · exact h0 _ (by simp [hb0])
    · exact h0 _ (by simp [hb0])
    · exact h0 _ (by simp [hb0])
    · exact h0 _ (by simp [hb0])
    · exact h0 _ (by simp [hb0])
    · exact h0 _ (by simp [hb0])
    · exact hv
    · exact h0 _ (by simp [hb0])
    · exact h0 _ (by simp [hb0])
  · exact h1 q (List.mem_cons_of_mem _ hq)
theorem okh_s {v : Value} (h : okh (hs l s d tl)) (hv : mokv (tl.length + 54) v = true) : okh (hs l v d tl) := by
  obtain ⟨h1, h2⟩ := h
  refine ⟨?_, h2⟩
  have e : ∀ (u v w : Value), (hs u v w tl).length = tl.length + 54 := fun _ _ _ => rfl
  rw [e, List.all_eq_true] at h1 ⊢
  intro q hq
  rcases List.mem_cons.mp hq with rfl | hq
  · have h0 : (hb0 l s d).all (okz (tl.length + 54)) = true := h1 _ (List.mem_cons_self ..)
    show (hb0 l v d).all (okz (tl.length + 54)) = true
    rw [List.all_eq_true] at h0 ⊢
    intro z hz
    simp only [hb0, List.mem_cons, List.not_mem_nil, or_false] at hz
    rcases hz with rfl | rfl | rfl | rfl | rfl | rfl | rfl | rfl | rfl | rfl | rfl
    · exact h0 _ (by simp [hb0])
    · exact h0 _ (by simp [hb0])
    · exact h0 _ (by simp [hb0])
    · exact h0 _ (by simp [hb0])
    · exact h0 _ (by simp [hb0])
    · exact h0 _ (by simp [hb0])
    · exact h0 _ (by simp [hb0])
    · exact h0 _ (by simp [hb0])
    · exact h0 _ (by simp [hb0])
    · exact hv
    · exact h0 _ (by simp [hb0])
  · exact h1 q (List.mem_cons_of_mem _ hq)
theorem okh_d {v : Value} (h : okh (hs l s d tl)) (hv : mokv (tl.length + 54) v = true) : okh (hs l s v tl) := by
  obtain ⟨h1, h2⟩ := h
  refine ⟨?_, h2⟩
  have e : ∀ (u v w : Value), (hs u v w tl).length = tl.length + 54 := fun _ _ _ => rfl
  rw [e, List.all_eq_true] at h1 ⊢
  intro q hq
  rcases List.mem_cons.mp hq with rfl | hq
  · have h0 : (hb0 l s d).all (okz (tl.length + 54)) = true := h1 _ (List.mem_cons_self ..)
    show (hb0 l s v).all (okz (tl.length + 54)) = true
    rw [List.all_eq_true] at h0 ⊢
    intro z hz
    simp only [hb0, List.mem_cons, List.not_mem_nil, or_false] at hz
    rcases hz with rfl | rfl | rfl | rfl | rfl | rfl | rfl | rfl | rfl | rfl | rfl
    · exact h0 _ (by simp [hb0])
    · exact h0 _ (by simp [hb0])
    · exact h0 _ (by simp [hb0])
    · exact h0 _ (by simp [hb0])
    · exact h0 _ (by simp [hb0])
    · exact h0 _ (by simp [hb0])
    · exact h0 _ (by simp [hb0])
    · exact h0 _ (by simp [hb0])
    · exact h0 _ (by simp [hb0])
    · exact h0 _ (by simp [hb0])
    · exact hv
  · exact h1 q (List.mem_cons_of_mem _ hq)
theorem rf_ok {b m : Nat} (h : b < m) : mokv m (.ref b) = true := decide_eq_true (Or.inl h)
/-- needLayers where Layers is not there -/
theorem nl_n (h : okh (hs .null s d tl)) (hl : tl.length ≤ 100) : e128 F 0 (mkH (hs .null s d tl) I J) = some (tl.length + 54, mkH (hs (.ref (tl.length + 54)) s d (tl ++ lyc (tl.length + 54))) (lyI (wzI I (tl.length + 54)) (tl.length + 54)) (lyJ (wzJ J (tl.length + 54)) (tl.length + 54))) := by
  show m128_0 F 0 _ = _
  unfold m128_0 m128_26
  rw [gfq_N q0 rfl, Option.bind_some, if_pos rfl, nwO_H md2 h, Option.bind_some, hs_app, gr0_0, Option.bind_some, gr0_2, Option.bind_some, mkH_len, ← hs_app, lyn_e h (by rw [hs_len]; omega) (by rw [hs_len]; omega), Option.bind_some, hs_len, hs_app]
  have e : ∀ (I : hI) (J : hJ), pfv 10 8 (mkH (hs .null s d (tl ++ lyc (tl.length + 54))) I J) 0 (.ref (tl.length + 54)) = some (mkH (hs (.ref (tl.length + 54)) s d (tl ++ lyc (tl.length + 54))) I J) := fun I J => pfr_H q0 (show 8 < 11 by decide)
  rw [e, Option.bind_some, gfr_H q0 rfl (lyS_new rfl).1, Option.bind_some]
/-- needLayers where it is there -/
theorem nl_r {b : Nat} (h : lyS (hs (.ref b) s d tl) b) : e128 F 0 (mkH (hs (.ref b) s d tl) I J) = some (b, mkH (hs (.ref b) s d tl) I J) := by
  show m128_0 F 0 _ = _
  unfold m128_0 m128_26
  rw [gfq_H q0 rfl, Option.bind_some, if_neg (by simp), gfr_H q0 rfl h.1, Option.bind_some]
theorem okh_ly (h : okh (hs l s d tl)) (hl : tl.length ≤ 100) : okh (hs (.ref (tl.length + 54)) s d (tl ++ lyc (tl.length + 54))) := by
  have h1 := okh_app (r := lyc (tl.length + 54)) h (by simp [lyc, shc, okq, okz, mokv, hs_len, lyk, shk]) (by rw [hs_len]; show tl.length + 54 + 9 < 1000000; omega)
  rw [hs_app] at h1
  exact okh_l h1 (rf_ok (by rw [List.length_append]; show _ < tl.length + 9 + 54; omega))
theorem caS_ly (h : caS .null s d tl) : caS (.ref (tl.length + 54)) s d (tl ++ lyc (tl.length + 54)) :=
  ⟨Or.inr ⟨_, rfl, by omega, lyS_new rfl⟩, caC_mo h.2.1 (fun b hb hp => siS_get hb hp), caC_mo h.2.2 (fun b hb hp => idS_get hb hp)⟩
theorem okh_si (h : okh (hs l s d tl)) (hl : tl.length ≤ 100) : okh (hs l (.ref (tl.length + 54)) d (tl ++ sic (tl.length + 54))) := by
  have h1 := okh_app (r := sic (tl.length + 54)) h (by simp [sic, shc, okq, okz, mokv, hs_len, sik, shk]) (by rw [hs_len]; show tl.length + 54 + 8 < 1000000; omega)
  rw [hs_app] at h1
  exact okh_s h1 (rf_ok (by rw [List.length_append]; show _ < tl.length + 8 + 54; omega))
theorem caS_si (h : caS l .null d tl) : caS l (.ref (tl.length + 54)) d (tl ++ sic (tl.length + 54)) :=
  ⟨caC_mo h.1 (fun b hb hp => lyS_get hb hp), Or.inr ⟨_, rfl, by omega, siS_new rfl⟩, caC_mo h.2.2 (fun b hb hp => idS_get hb hp)⟩
theorem okh_id (h : okh (hs l s d tl)) (hl : tl.length ≤ 100) : okh (hs l s (.ref (tl.length + 54)) (tl ++ idc (tl.length + 54))) := by
  have h1 := okh_app (r := idc (tl.length + 54)) h (by simp [idc, shc, okq, okz, mokv, hs_len, idk, shk]) (by rw [hs_len]; show tl.length + 54 + 10 < 1000000; omega)
  rw [hs_app] at h1
  exact okh_d h1 (rf_ok (by rw [List.length_append]; show _ < tl.length + 10 + 54; omega))
theorem caS_id (h : caS l s .null tl) : caS l s (.ref (tl.length + 54)) (tl ++ idc (tl.length + 54)) :=
  ⟨caC_mo h.1 (fun b hb hp => lyS_get hb hp), caC_mo h.2.1 (fun b hb hp => siS_get hb hp), Or.inr ⟨_, rfl, by omega, idS_new rfl⟩⟩
/-- needIdeal makes it first -/
theorem ni_n (h : okh (hs l s .null tl)) (hl : tl.length ≤ 100) : m135_0 F 0 (mkH (hs l s .null tl) I J) = m135_26 F 0 (mkH (hs l s (.ref (tl.length + 54)) (tl ++ idc (tl.length + 54))) (idI (wzI I (tl.length + 54)) (tl.length + 54)) (idJ (wzJ J (tl.length + 54)) (tl.length + 54))) := by
  unfold m135_0
  rw [gfq_N q0 rfl, Option.bind_some, if_pos rfl, nwO_H md0 h, Option.bind_some, hs_app, gr0_0, Option.bind_some, gr0_2, Option.bind_some, mkH_len, ← hs_app, idn_e h (by rw [hs_len]; omega) (by rw [hs_len]; omega), Option.bind_some, hs_len, hs_app]
  have e : ∀ (I : hI) (J : hJ), pfv 10 10 (mkH (hs l s .null (tl ++ idc (tl.length + 54))) I J) 0 (.ref (tl.length + 54)) = some (mkH (hs l s (.ref (tl.length + 54)) (tl ++ idc (tl.length + 54))) I J) := fun I J => pfr_H q0 (show 10 < 11 by decide)
  rw [e, Option.bind_some]
theorem ni_r {b : Nat} : m135_0 F 0 (mkH (hs l s (.ref b) tl) I J) = m135_26 F 0 (mkH (hs l s (.ref b) tl) I J) := by
  unfold m135_0
  rw [gfq_H q0 rfl, Option.bind_some, if_neg (by simp)]
/-- the values of the new cells -/
theorem shI_lo {q M c : Nat} (h : c < q) : shI I q M c = I c := by
  unfold shI
  rw [wzI_ne (by omega), wzI_ne (by omega), wzI_ne (by omega), upI_ne (by omega), upI_ne (by omega)]
theorem shI_f {q M : Nat} (hM : 1 ≤ M) : sfb q M (shI I q M) ∧ shI I q M q 2 = 0 := by
  unfold shI
  refine ⟨⟨?_, fun s hs => ⟨0, by omega, ?_⟩, fun s hs => ⟨0, by omega, ?_⟩⟩, ?_⟩
  · rw [wzI_ne (by omega), wzI_ne (by omega), wzI_ne (by omega), upI_at, if_pos rfl]
  · rw [wzI_ne (by omega), wzI_eq]
    rfl
  · rw [wzI_eq]
    rfl
  · rw [wzI_ne (by omega), wzI_ne (by omega), wzI_ne (by omega), upI_at, if_neg (by decide), upI_at, if_pos rfl]
theorem lyI_lo {b c : Nat} (h : c < b) : lyI (wzI I b) b c = I c := by
  unfold lyI
  rw [shI_lo (by omega), wzI_ne (by omega), upI_ne (by omega), wzI_ne (by omega), wzI_ne (by omega)]
theorem lyJ_lo {b c : Nat} (h : c < b) : lyJ (wzJ J b) b c = J c := by
  unfold lyJ
  rw [wzJ_ne (by omega), wzJ_ne (by omega), wzJ_ne (by omega), wzJ_ne (by omega), wzJ_ne (by omega)]
theorem siI_lo {b c : Nat} (h : c < b) : siI (wzI I b) b c = I c := by
  unfold siI
  rw [shI_lo (by omega), wzI_ne (by omega), upI_ne (by omega), wzI_ne (by omega)]
theorem siJ_lo {b c : Nat} (h : c < b) : siJ (wzJ J b) b c = J c := by
  unfold siJ
  rw [wzJ_ne (by omega), wzJ_ne (by omega), wzJ_ne (by omega), wzJ_ne (by omega), wzJ_ne (by omega)]
theorem idI_lo {b c : Nat} (h : c < b) : idI (wzI I b) b c = I c := by
  unfold idI
  rw [shI_lo (by omega), wzI_ne (by omega), upI_ne (by omega), wzI_ne (by omega), wzI_ne (by omega), wzI_ne (by omega)]
theorem idJ_lo {b c : Nat} (h : c < b) : idJ (wzJ J b) b c = J c := by
  unfold idJ
  rw [wzJ_ne (by omega), wzJ_ne (by omega), wzJ_ne (by omega), wzJ_ne (by omega), wzJ_ne (by omega)]
theorem lyI_f {b : Nat} : sfb (b + 4) 4096 (lyI I b) ∧ lyI I b b 8 = -1 := by
  unfold lyI
  refine ⟨(shI_f (by omega)).1, ?_⟩
  rw [shI_lo (by omega), wzI_ne (by omega), upI_at, if_pos rfl]
theorem siI_f {b : Nat} : sfb (b + 3) 512 (siI I b) ∧ siI I b b 5 = -1 := by
  unfold siI
  refine ⟨(shI_f (by omega)).1, ?_⟩
  rw [shI_lo (by omega), wzI_ne (by omega), upI_at, if_pos rfl]
theorem idI_f {b : Nat} : sfb (b + 5) 256 (idI I b) ∧ idI I b b 7 = -1 := by
  unfold idI
  refine ⟨(shI_f (by omega)).1, ?_⟩
  rw [shI_lo (by omega), wzI_ne (by omega), upI_at, if_pos rfl]
end S
