/-! THE SMALL MACHINE'S RUNS ARE THE MACHINE'S. -/
theorem nw_on {w : Cond} (h : isNw w = true) : w.onTables = true := by
  cases w <;> first | (have h' : false = true := h; cases h'; done) | rfl
theorem nw_warm {w : Cond} (h : isNw w = true) {s U : State} (hW : s.WarmedH U.vm) (hZ : va_Nw w s) : va_Nw w U := by
  cases w <;> first | (have h' : false = true := h; cases h'; done) | exact va_Nw.warmF hW hZ | exact va_Nw.warmM hW hZ
theorem nt_is {w : Cond} (h : w ∈ ntbl) : isNw w = true := (List.mem_filter.mp h).2
theorem gt_good {w : Cond} (h : w ∈ gtbl) : goodWord w = true := (List.mem_filter.mp h).2
theorem gdI {w : Cond} (h : w ∈ gtbl) : GoodIn gtbl (w :: gtbl) := by
  intro x hx
  rcases List.mem_cons.mp hx with rfl | hx
  · exact ⟨h, good_of_word (gt_good h)⟩
  · exact ⟨hx, good_of_word (gt_good hx)⟩
theorem lg_len (ad : Nat → Nat) : ∀ as : List Value, (lg_sl (as.map (mv ad))).length = (lg_sl as).length := by
  intro as
  induction as with
  | nil => rfl
  | cons v as ih =>
    show (lg_sl (mv ad v :: as.map (mv ad))).length = _
    unfold lg_sl at ih ⊢
    rw [List.flatMap_cons, List.flatMap_cons, List.length_append, List.length_append, ih, mv_cat]
    by_cases hc : v.category = 2
    · rw [if_pos hc, if_pos hc]; rfl
    · rw [if_neg hc, if_neg hc]; rfl
theorem lg_args (ad : Nat → Nat) : ∀ (as : List Value) (i : Nat), lv_args i (as.map (mv ad)) = mlv ad (lv_args i as) := by
  intro as
  induction as with
  | nil => intro i; rfl
  | cons v as ih =>
    intro i
    show (i, mv ad v) :: lv_args (if (mv ad v).category = 2 then i + 2 else i + 1) (as.map (mv ad)) = (i, mv ad v) :: mlv ad (lv_args (if v.category = 2 then i + 2 else i + 1) as)
    rw [mv_cat, ih]
theorem cat_sum (ad : Nat → Nat) (r : List Value) : ((r.map (mv ad)).map fun v => v.category).sum = (r.map fun v => v.category).sum := by
  rw [List.map_map]
  congr 1
  apply List.map_congr_left
  intro v _
  exact mv_cat ad v
def mrm (d c w : Nat) : Room := { frames := d, cells := c, slots := w, locals := 60 * d }
