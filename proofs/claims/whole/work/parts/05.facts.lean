/-! The small machine's cells are the machine's: reads, writes. -/
def gtbl : List Cond := lw_tbl.filter goodWord
def isNw (w : Cond) : Bool := match w with
  | .fieldLinkNest _ _ _ _ _ _ => true
  | .methodLinkNest _ _ _ _ => true
  | _ => false
def ntbl : List Cond := lw_tbl.filter isNw
theorem in_g {w : Cond} (h : w ∈ lw_tbl) (hg : goodWord w = true) : w ∈ gtbl := List.mem_filter.mpr ⟨h, hg⟩
theorem in_n {w : Cond} (h : w ∈ lw_tbl) (hg : isNw w = true) : w ∈ ntbl := List.mem_filter.mpr ⟨h, hg⟩
theorem at_t {w : Cond} {i : Nat} (h : lw_tbl[i]? = some w) : w ∈ lw_tbl := List.mem_of_getElem? h
def cnm (o : Nat) : String := match mcl[o]? with
  | some r => r.1
  | none => ""
def flC (q : (Nat × Nat) × (Bool × Nat × Nat × Nat)) : Bool := match mcl[q.2.2.1]? with
  | none => false
  | some r => decide (q.2.2.2.1 < r.2.2) && (decide ((r.2.1 q.2.2.2.1).1 = r.1) && (if q.2.1 = true then decide (lw_tbl[q.2.2.2.2]? = some (Cond.fieldLinkNest (cnm q.1.1) q.1.2 r.1 (r.2.1 q.2.2.2.1).2.1 (r.2.1 q.2.2.2.1).2.2.1 "MirrorRoots")) else decide (lw_tbl[q.2.2.2.2]? = some (Cond.fieldLink (cnm q.1.1) q.1.2 r.1 (r.2.1 q.2.2.2.1).2.1 (r.2.1 q.2.2.2.1).2.2.1))))
set_option maxRecDepth 100000 in
theorem flA : flt.all flC = true := by decide +kernel
theorem fl_ok {o ix ci f ps : Nat} {nest : Bool} (h : plk o ix flt = some (nest, ci, f, ps)) : ∃ r, mcl[ci]? = some r ∧ f < r.2.2 ∧ (r.2.1 f).1 = r.1 ∧ (nest = false → Cond.fieldLink (cnm o) ix r.1 (r.2.1 f).2.1 (r.2.1 f).2.2.1 ∈ gtbl) ∧ (nest = true → Cond.fieldLinkNest (cnm o) ix r.1 (r.2.1 f).2.1 (r.2.1 f).2.2.1 "MirrorRoots" ∈ ntbl) := by
  have h1 := List.all_eq_true.mp flA _ (plk_mem h)
  unfold flC at h1
  dsimp only at h1
  split at h1
  · cases h1
  · rename_i r hr
    simp only [Bool.and_eq_true, decide_eq_true_eq] at h1
    obtain ⟨h2, h3, h4⟩ := h1
    refine ⟨r, hr, h2, h3, fun hn => ?_, fun hn => ?_⟩
    · subst hn
      simp only [Bool.false_eq_true, if_false, decide_eq_true_eq] at h4
      exact in_g (at_t h4) rfl
    · subst hn
      simp only [if_true, decide_eq_true_eq] at h4
      exact in_n (at_t h4) rfl
def mty0 (T : u_T) (f : Nat) : FieldType := (parseFieldDescriptor (T f).2.2.1).getD .int
def clC (r : vw_C) : Bool := (u_ws r.1 r.2.1 r.2.2).all (fun w => decide (w ∈ lw_tbl) && goodWord w) && ((List.range r.2.2).all (fun a => (List.range r.2.2).all (fun b => decide (a = b) || decide ((r.2.1 a).2.1 ≠ (r.2.1 b).2.1))) && (List.range r.2.2).all (fun f => (parseFieldDescriptor (r.2.1 f).2.2.1).isSome))
set_option maxRecDepth 100000 in
theorem clA : mcl.all clC = true := by decide +kernel
theorem cl_ok {ci : Nat} {r : vw_C} (h : mcl[ci]? = some r) : (∀ w ∈ u_ws r.1 r.2.1 r.2.2, w ∈ gtbl) ∧ (∀ a, a < r.2.2 → ∀ b, b < r.2.2 → a ≠ b → (r.2.1 a).2.1 ≠ (r.2.1 b).2.1) ∧ ∀ f, f < r.2.2 → parseFieldDescriptor (r.2.1 f).2.2.1 = some (mty0 r.2.1 f) := by
  have h1 := List.all_eq_true.mp clA _ (List.mem_of_getElem? h)
  unfold clC at h1
  simp only [Bool.and_eq_true, List.all_eq_true, decide_eq_true_eq, Bool.or_eq_true, List.mem_range] at h1
  obtain ⟨h2, h3, h4⟩ := h1
  refine ⟨fun w hw => in_g (h2 w hw).1 (h2 w hw).2, fun a ha b hb hab => ?_, fun f hf => ?_⟩
  · rcases h3 a ha b hb with q | q
    · exact absurd q hab
    · exact q
  · obtain ⟨t, ht⟩ := Option.isSome_iff_exists.mp (h4 f hf)
    unfold mty0
    rw [ht]
    rfl
