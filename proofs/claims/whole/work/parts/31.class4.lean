/-! MirrorRoots$Shifts.sum -/
def m71_94 (F : Nat) (rc60 : Nat → Int32 → List mE → Option (Unit × List mE)) (v0 : Nat) (v1 : Int32) (hp : List mE) : Option (Unit × List mE) :=
  rc60 v0 (v1 + 1) hp
theorem t71_94 {d c w n : Nat} (hd : 1 ≤ d) (F : Nat) {rc60 : Nat → Int32 → List mE → Option (Unit × List mE)} (hr60 : ∀ (v0 : Nat) (v1 : Int32) (lv : List (Nat × Value)) (hp : List mE) (v : Unit) (hp' : List mE), alk 0 lv = some (.ref v0) → alk 1 lv = some (.int v1) → lvk n lv → hp.length = n → v0 < n → rc60 v0 v1 hp = some (v, hp') → Rn d 71 60 lv [] hp c w (none, hp', c, w)) : ∀ (v0 : Nat) (v1 : Int32) (lv : List (Nat × Value)) (hp : List mE) (v : Unit) (hp' : List mE), alk 0 lv = some (.ref v0) → alk 1 lv = some (.int v1) → lvk n lv → hp.length = n → v0 < n → m71_94 F rc60 v0 v1 hp = some (v, hp') → Rn d 71 94 lv [] hp c w (none, hp', c, w) := by
  obtain ⟨d', rfl⟩ : ∃ d', d = d' + 1 := ⟨d - 1, by omega⟩
  intro v0 v1 lv hp v hp' l0 l1 ok hn r_v0 h
  unfold m71_94 at h
  refine Rn.ii (m := n) (u := 1) n71_94 ml71 (by decide) (by decide) l1 (fun lv l1 hk hok => ?_)
  have l0 := hk 0 _ (by decide) (Or.inl rfl) l0
  have ok := hok ok
  refine Rn.goto (t := 60) n71_97 (by decide) ?_
  exact hr60 _ _ lv _ _ _ l0 l1 ok hn r_v0  h
def m71_60 (F : Nat) : Nat → Nat → Int32 → List mE → Option (Unit × List mE)
  | 0, _, _, _ => none
  | f + 1, v0, v1, hp =>
    (gfi 7 9 hp v0).bind fun x1 =>
    if mc2 .ge v1 x1 = true then
      some ((), hp)
    else
      (gfr 7 2 hp v0).bind fun x3 =>
      (gfr 6 4 hp x3).bind fun x4 =>
      (rdI hp x4 v1).bind fun x5 =>
      (gfi 7 7 hp v0).bind fun x6 =>
      if mc2 .ne x5 x6 = true then
        m71_94 F (m71_60 F f) v0 v1 hp
      else
        (gfi 7 8 hp v0).bind fun x8 =>
        (pfv 7 8 hp v0 (.int (x8 + 1))).bind fun hp9 =>
        m71_94 F (m71_60 F f) v0 v1 hp9
theorem t71_60 {d c w n : Nat} (hd : 1 ≤ d) (F : Nat) : ∀ f : Nat, ∀ (v0 : Nat) (v1 : Int32) (lv : List (Nat × Value)) (hp : List mE) (v : Unit) (hp' : List mE), alk 0 lv = some (.ref v0) → alk 1 lv = some (.int v1) → lvk n lv → hp.length = n → v0 < n → m71_60 F f v0 v1 hp = some (v, hp') → Rn d 71 60 lv [] hp c w (none, hp', c, w) := by
  obtain ⟨d', rfl⟩ : ∃ d', d = d' + 1 := ⟨d - 1, by omega⟩
  intro f
  induction f with
  | zero => intro v0 v1 lv hp v hp' l0 l1 ok hn r_v0 h; cases h
  | succ f hr60 =>
    intro v0 v1 lv hp v hp' l0 l1 ok hn r_v0 h
    unfold m71_60 at h
    refine Rn.iload_n n71_60 l1 ?_
    refine Rn.aload_n n71_61 l0 ?_
    obtain ⟨x1, hx1, h⟩ := Option.bind_eq_some_iff.mp h
    refine Rn.gf n71_62 mo71 fl7_56 (gfi_v hx1) ?_
    by_cases hc2 : mc2 .ge v1 x1 = true
    · rw [if_pos hc2] at h
      refine Rn.c2t (t := 100) n71_65 (by decide) hc2 ?_
      have e1 := (Prod.mk.inj (Option.some.inj h)).1
      have e2 := (Prod.mk.inj (Option.some.inj h)).2
      subst e1
      subst e2
      exact Rn.vret n71_100 mr71
    · rw [if_neg hc2] at h
      refine Rn.c2f (t := 100) n71_65 (by decide) hc2 ?_
      refine Rn.aload_n n71_68 l0 ?_
      obtain ⟨x3, hx3, h⟩ := Option.bind_eq_some_iff.mp h
      refine Rn.gf n71_69 mo71 fl7_35 (gfr_v hx3).1 ?_
      have r_x3 : x3 < n := by rw [← hn]; exact (gfr_v hx3).2
      obtain ⟨x4, hx4, h⟩ := Option.bind_eq_some_iff.mp h
      refine Rn.gf n71_72 mo71 fl7_62 (gfr_v hx4).1 ?_
      have r_x4 : x4 < n := by rw [← hn]; exact (gfr_v hx4).2
      refine Rn.iload_n n71_75 l1 ?_
      obtain ⟨x5, hx5, h⟩ := Option.bind_eq_some_iff.mp h
      refine Rn.iald n71_76 hx5 ?_
      refine Rn.aload_n n71_77 l0 ?_
      obtain ⟨x6, hx6, h⟩ := Option.bind_eq_some_iff.mp h
      refine Rn.gf n71_78 mo71 fl7_50 (gfi_v hx6) ?_
      by_cases hc7 : mc2 .ne x5 x6 = true
      · rw [if_pos hc7] at h
        refine Rn.c2t (t := 94) n71_81 (by decide) hc7 ?_
        exact t71_94 hd F hr60 _ _ lv _ _ _ l0 l1 ok hn r_v0  h
      · rw [if_neg hc7] at h
        refine Rn.c2f (t := 94) n71_81 (by decide) hc7 ?_
        refine Rn.aload_n n71_84 l0 ?_
        refine Rn.p n71_85 rfl ?_
        obtain ⟨x8, hx8, h⟩ := Option.bind_eq_some_iff.mp h
        refine Rn.gf n71_86 mo71 fl7_53 (gfi_v hx8) ?_
        refine Rn.ic (v := 1) n71_89 (by decide) ?_
        refine Rn.p n71_90 rfl ?_
        obtain ⟨hp9, hhp9, h⟩ := Option.bind_eq_some_iff.mp h
        refine Rn.pf n71_91 mo71 fl7_53 ft7_8 rfl ff7_8 (fun _ _ hh => by cases hh) hhp9 ?_
        have hn := (pfv_len hhp9).trans hn
        exact t71_94 hd F hr60 _ _ lv _ _ _ l0 l1 ok hn r_v0  h
def m71_19 (F : Nat) : Nat → Nat → Int32 → List mE → Option (Unit × List mE)
  | 0, _, _, _ => none
  | f + 1, v0, v1, hp =>
    (gfi 7 9 hp v0).bind fun x1 =>
    if mc2 .ge v1 x1 = true then
      (pfv 7 8 hp v0 (.int 0)).bind fun hp3 =>
      m71_60 F F v0 0 hp3
    else
      (gfi 7 7 hp v0).bind fun x4 =>
      (gfr 7 2 hp v0).bind fun x5 =>
      (gfr 6 4 hp x5).bind fun x6 =>
      (rdI hp x6 v1).bind fun x7 =>
      (pfv 7 7 hp v0 (.int (if x7 < x4 then x7 else x4))).bind fun hp8 =>
      m71_19 F f v0 (v1 + 1) hp8
theorem t71_19 {d c w n : Nat} (hd : 1 ≤ d) (F : Nat) : ∀ f : Nat, ∀ (v0 : Nat) (v1 : Int32) (lv : List (Nat × Value)) (hp : List mE) (v : Unit) (hp' : List mE), alk 0 lv = some (.ref v0) → alk 1 lv = some (.int v1) → lvk n lv → hp.length = n → v0 < n → m71_19 F f v0 v1 hp = some (v, hp') → Rn d 71 19 lv [] hp c w (none, hp', c, w) := by
  obtain ⟨d', rfl⟩ : ∃ d', d = d' + 1 := ⟨d - 1, by omega⟩
  intro f
  induction f with
  | zero => intro v0 v1 lv hp v hp' l0 l1 ok hn r_v0 h; cases h
  | succ f hr19 =>
    intro v0 v1 lv hp v hp' l0 l1 ok hn r_v0 h
    unfold m71_19 at h
    refine Rn.iload_n n71_19 l1 ?_
    refine Rn.aload_n n71_20 l0 ?_
    obtain ⟨x1, hx1, h⟩ := Option.bind_eq_some_iff.mp h
    refine Rn.gf n71_21 mo71 fl7_56 (gfi_v hx1) ?_
    by_cases hc2 : mc2 .ge v1 x1 = true
    · rw [if_pos hc2] at h
      refine Rn.c2t (t := 53) n71_24 (by decide) hc2 ?_
      refine Rn.aload_n n71_53 l0 ?_
      refine Rn.ic (v := 0) n71_54 (by decide) ?_
      obtain ⟨hp3, hhp3, h⟩ := Option.bind_eq_some_iff.mp h
      refine Rn.pf n71_55 mo71 fl7_53 ft7_8 rfl ff7_8 (fun _ _ hh => by cases hh) hhp3 ?_
      have hn := (pfv_len hhp3).trans hn
      refine Rn.ic (v := 0) n71_58 (by decide) ?_
      refine Rn.isn (m := n) n71_59 rfl ml71 (by decide) (fun lv l1 hk hok => ?_)
      have l0 := hk 0 _ (by decide) (Or.inl rfl) l0
      have ok := hok ok
      exact t71_60 hd F  F _ _ lv _ _ _ l0 l1 ok hn r_v0  h
    · rw [if_neg hc2] at h
      refine Rn.c2f (t := 53) n71_24 (by decide) hc2 ?_
      refine Rn.aload_n n71_27 l0 ?_
      refine Rn.aload_n n71_28 l0 ?_
      obtain ⟨x4, hx4, h⟩ := Option.bind_eq_some_iff.mp h
      refine Rn.gf n71_29 mo71 fl7_50 (gfi_v hx4) ?_
      refine Rn.aload_n n71_32 l0 ?_
      obtain ⟨x5, hx5, h⟩ := Option.bind_eq_some_iff.mp h
      refine Rn.gf n71_33 mo71 fl7_35 (gfr_v hx5).1 ?_
      have r_x5 : x5 < n := by rw [← hn]; exact (gfr_v hx5).2
      obtain ⟨x6, hx6, h⟩ := Option.bind_eq_some_iff.mp h
      refine Rn.gf n71_36 mo71 fl7_62 (gfr_v hx6).1 ?_
      have r_x6 : x6 < n := by rw [← hn]; exact (gfr_v hx6).2
      refine Rn.iload_n n71_39 l1 ?_
      obtain ⟨x7, hx7, h⟩ := Option.bind_eq_some_iff.mp h
      refine Rn.iald n71_40 hx7 ?_
      refine Rn.mn n71_41 mo71 rfl (by decide +kernel) (Nat.le_of_ble_eq_true rfl) rfl ?_
      obtain ⟨hp8, hhp8, h⟩ := Option.bind_eq_some_iff.mp h
      refine Rn.pf n71_44 mo71 fl7_50 ft7_7 rfl ff7_7 (fun _ _ hh => by cases hh) hhp8 ?_
      have hn := (pfv_len hhp8).trans hn
      refine Rn.ii (m := n) (u := 1) n71_47 ml71 (by decide) (by decide) l1 (fun lv l1 hk hok => ?_)
      have l0 := hk 0 _ (by decide) (Or.inl rfl) l0
      have ok := hok ok
      refine Rn.goto (t := 19) n71_50 (by decide) ?_
      exact hr19 _ _ lv _ _ _ l0 l1 ok hn r_v0  h
def m71_0 (F : Nat) (v0 : Nat) (hp : List mE) : Option (Unit × List mE) :=
  (gfr 7 2 hp v0).bind fun x1 =>
  (gfi 6 2 hp x1).bind fun x2 =>
  (pfv 7 9 hp v0 (.int x2)).bind fun hp3 =>
  (pfv 7 7 hp3 v0 (.int 20)).bind fun hp4 =>
  m71_19 F F v0 0 hp4
theorem t71_0 {d c w n : Nat} (hd : 1 ≤ d) (F : Nat) : ∀ (v0 : Nat) (lv : List (Nat × Value)) (hp : List mE) (v : Unit) (hp' : List mE), alk 0 lv = some (.ref v0) → lvk n lv → hp.length = n → v0 < n → m71_0 F v0 hp = some (v, hp') → Rn d 71 0 lv [] hp c w (none, hp', c, w) := by
  obtain ⟨d', rfl⟩ : ∃ d', d = d' + 1 := ⟨d - 1, by omega⟩
  intro v0 lv hp v hp' l0 ok hn r_v0 h
  unfold m71_0 at h
  refine Rn.aload_n n71_0 l0 ?_
  refine Rn.aload_n n71_1 l0 ?_
  obtain ⟨x1, hx1, h⟩ := Option.bind_eq_some_iff.mp h
  refine Rn.gf n71_2 mo71 fl7_35 (gfr_v hx1).1 ?_
  have r_x1 : x1 < n := by rw [← hn]; exact (gfr_v hx1).2
  obtain ⟨x2, hx2, h⟩ := Option.bind_eq_some_iff.mp h
  refine Rn.gf n71_5 mo71 fl7_59 (gfi_v hx2) ?_
  obtain ⟨hp3, hhp3, h⟩ := Option.bind_eq_some_iff.mp h
  refine Rn.pf n71_8 mo71 fl7_56 ft7_9 rfl ff7_9 (fun _ _ hh => by cases hh) hhp3 ?_
  have hn := (pfv_len hhp3).trans hn
  refine Rn.aload_n n71_11 l0 ?_
  refine Rn.bp (v := 20) n71_12 (by decide) ?_
  obtain ⟨hp4, hhp4, h⟩ := Option.bind_eq_some_iff.mp h
  refine Rn.pf n71_14 mo71 fl7_50 ft7_7 rfl ff7_7 (fun _ _ hh => by cases hh) hhp4 ?_
  have hn := (pfv_len hhp4).trans hn
  refine Rn.ic (v := 0) n71_17 (by decide) ?_
  refine Rn.isn (m := n) n71_18 rfl ml71 (by decide) (fun lv l1 hk hok => ?_)
  have l0 := hk 0 _ (by decide) (Or.inl rfl) l0
  have ok := hok ok
  exact t71_19 hd F  F _ _ lv _ _ _ l0 l1 ok hn r_v0  h
def e71 (F : Nat) (a0 : Nat) (hp : List mE) : Option (Unit × List mE) := m71_0 F a0 hp
theorem c71 {d : Nat} (hd : 1 ≤ d) (F : Nat) (a0 : Nat) (hp : List mE) (v : Unit) (hp' : List mE) (ra0 : a0 < hp.length) (h : e71 F a0 hp = some (v, hp')) : Rn d 71 0 (lv_args 0 [.ref a0]) [] hp 0 0 (none, hp', 0, 0) :=
  t71_0 (n := hp.length) hd F a0 (lv_args 0 [.ref a0]) hp v hp' rfl (lvk_args (okc (okr ra0) okn)) rfl ra0 h
/-! MirrorRoots$Shifts.tell -/
def m70_70 (F : Nat) (t0 : Int32) (hp : List mE) : Option (Int32 × List mE) :=
  some (t0, hp)
theorem t70_70 {d c w n : Nat} (hd : 5 ≤ d) (F : Nat) : ∀ (t0 : Int32) (lv : List (Nat × Value)) (hp : List mE) (v : Int32) (hp' : List mE), lvk n lv → hp.length = n → m70_70 F t0 hp = some (v, hp') → Rn d 70 70 lv [.int t0] hp c w (some (.int v), hp', c, w) := by
  obtain ⟨d', rfl⟩ : ∃ d', d = d' + 1 := ⟨d - 1, by omega⟩
  intro t0 lv hp v hp' ok hn h
  unfold m70_70 at h
  have e1 := (Prod.mk.inj (Option.some.inj h)).1
  have e2 := (Prod.mk.inj (Option.some.inj h)).2
  subst e1
  subst e2
  exact Rn.iret n70_70 mr70
def m70_34 (F : Nat) (v0 : Nat) (v2 : Int32) (hp : List mE) : Option (Int32 × List mE) :=
  (gfi 7 6 hp v0).bind fun x1 =>
  if mc1 .eq x1 = true then
    if mc1 .ne v2 = true then
      if mc2 .ne v2 1 = true then
        (gfi 7 9 hp v0).bind fun x5 =>
        m70_70 F x5 hp
      else
        (gfi 7 8 hp v0).bind fun x6 =>
        m70_70 F x6 hp
    else
      (gfi 7 7 hp v0).bind fun x7 =>
      some (x7, hp)
  else
    some ((-1005), hp)
theorem t70_34 {d c w n : Nat} (hd : 5 ≤ d) (F : Nat) : ∀ (v0 : Nat) (v2 : Int32) (lv : List (Nat × Value)) (hp : List mE) (v : Int32) (hp' : List mE), alk 0 lv = some (.ref v0) → alk 2 lv = some (.int v2) → lvk n lv → hp.length = n → v0 < n → m70_34 F v0 v2 hp = some (v, hp') → Rn d 70 34 lv [] hp c w (some (.int v), hp', c, w) := by
  obtain ⟨d', rfl⟩ : ∃ d', d = d' + 1 := ⟨d - 1, by omega⟩
  intro v0 v2 lv hp v hp' l0 l2 ok hn r_v0 h
  unfold m70_34 at h
  refine Rn.aload_n n70_34 l0 ?_
  obtain ⟨x1, hx1, h⟩ := Option.bind_eq_some_iff.mp h
  refine Rn.gf n70_35 mo70 fl7_43 (gfi_v hx1) ?_
  by_cases hc2 : mc1 .eq x1 = true
  · rw [if_pos hc2] at h
    refine Rn.c1t (t := 45) n70_38 (by decide) hc2 ?_
    refine Rn.iload_n n70_45 l2 ?_
    by_cases hc3 : mc1 .ne v2 = true
    · rw [if_pos hc3] at h
      refine Rn.c1t (t := 54) n70_46 (by decide) hc3 ?_
      refine Rn.iload_n n70_54 l2 ?_
      refine Rn.ic (v := 1) n70_55 (by decide) ?_
      by_cases hc4 : mc2 .ne v2 1 = true
      · rw [if_pos hc4] at h
        refine Rn.c2t (t := 66) n70_56 (by decide) hc4 ?_
        refine Rn.aload_n n70_66 l0 ?_
        obtain ⟨x5, hx5, h⟩ := Option.bind_eq_some_iff.mp h
        refine Rn.gf n70_67 mo70 fl7_56 (gfi_v hx5) ?_
        exact t70_70 hd F  _ lv _ _ _  ok hn   h
      · rw [if_neg hc4] at h
        refine Rn.c2f (t := 66) n70_56 (by decide) hc4 ?_
        refine Rn.aload_n n70_59 l0 ?_
        obtain ⟨x6, hx6, h⟩ := Option.bind_eq_some_iff.mp h
        refine Rn.gf n70_60 mo70 fl7_53 (gfi_v hx6) ?_
        refine Rn.goto (t := 70) n70_63 (by decide) ?_
        exact t70_70 hd F  _ lv _ _ _  ok hn   h
    · rw [if_neg hc3] at h
      refine Rn.c1f (t := 54) n70_46 (by decide) hc3 ?_
      refine Rn.aload_n n70_49 l0 ?_
      obtain ⟨x7, hx7, h⟩ := Option.bind_eq_some_iff.mp h
      refine Rn.gf n70_50 mo70 fl7_50 (gfi_v hx7) ?_
      have e1 := (Prod.mk.inj (Option.some.inj h)).1
      have e2 := (Prod.mk.inj (Option.some.inj h)).2
      subst e1
      subst e2
      exact Rn.iret n70_53 mr70
  · rw [if_neg hc2] at h
    refine Rn.c1f (t := 45) n70_38 (by decide) hc2 ?_
    refine Rn.sp (v := (-1005)) n70_41 (by decide) ?_
    have e1 := (Prod.mk.inj (Option.some.inj h)).1
    have e2 := (Prod.mk.inj (Option.some.inj h)).2
    subst e1
    subst e2
    exact Rn.iret n70_44 mr70
def m70_22 (F : Nat) (v0 : Nat) (v1 : Int32) (v2 : Int32) (t0 : Nat) (t1 : Int32) (hp : List mE) : Option (Int32 × List mE) :=
  if t1 = 0 ∨ t1 = 1 then
    (pfv 7 6 hp t0 (.int t1)).bind fun hp1 =>
    (rcv 7 hp1 v0).bind fun u4 =>
    (e71 F v0 hp1).bind fun q3 =>
    (pfv 7 5 q3.2 v0 (.int v1)).bind fun hp5 =>
    m70_34 F v0 v2 hp5
  else none
theorem t70_22 {d c w n : Nat} (hd : 5 ≤ d) (F : Nat) : ∀ (v0 : Nat) (v1 : Int32) (v2 : Int32) (t0 : Nat) (t1 : Int32) (lv : List (Nat × Value)) (hp : List mE) (v : Int32) (hp' : List mE), alk 0 lv = some (.ref v0) → alk 1 lv = some (.int v1) → alk 2 lv = some (.int v2) → lvk n lv → hp.length = n → v0 < n → t0 < n → m70_22 F v0 v1 v2 t0 t1 hp = some (v, hp') → Rn d 70 22 lv [.int t1, .ref t0] hp c w (some (.int v), hp', c, w) := by
  obtain ⟨d', rfl⟩ : ∃ d', d = d' + 1 := ⟨d - 1, by omega⟩
  intro v0 v1 v2 t0 t1 lv hp v hp' l0 l1 l2 ok hn r_v0 r_t0 h
  unfold m70_22 at h
  by_cases hz2 : t1 = 0 ∨ t1 = 1
  · rw [if_pos hz2] at h
    obtain ⟨hp1, hhp1, h⟩ := Option.bind_eq_some_iff.mp h
    refine Rn.pf n70_22 mo70 fl7_43 ft7_6 (decide_eq_true hz2) ff7_6 (fun _ _ hh => by cases hh) hhp1 ?_
    have hn := (pfv_len hhp1).trans hn
    refine Rn.aload_n n70_25 l0 ?_
    obtain ⟨u4, hu4, h⟩ := Option.bind_eq_some_iff.mp h
    obtain ⟨q3, hq3, h⟩ := Option.bind_eq_some_iff.mp h
    have gq3 := c71 (d := d') (by omega) F _ _ _ _ (by rw [hn]; exact r_v0) hq3
    refine Rn.cv (As := []) (rr := []) n70_26 mo70 mm7_47 (by decide) mq71 rfl rfl rfl rfl (by rw [mo71]; exact hu4) (Nat.le_of_ble_eq_true rfl) (by rw [hn]; exact (okc (okr r_v0) okn)) (by rw [hn]; exact okn) (by rw [hn]; exact ok) (by rw [ml71]; exact Nat.le_of_ble_eq_true rfl) gq3 ?_
    have hn := (Rn.len gq3).trans hn
    show Rn _ 70 29 lv [] q3.2 c w _
    refine Rn.aload_n n70_29 l0 ?_
    refine Rn.iload_n n70_30 l1 ?_
    obtain ⟨hp5, hhp5, h⟩ := Option.bind_eq_some_iff.mp h
    refine Rn.pf n70_31 mo70 fl7_18 ft7_5 rfl ff7_5 (fun _ _ hh => by cases hh) hhp5 ?_
    have hn := (pfv_len hhp5).trans hn
    exact t70_34 hd F  _ _ lv _ _ _ l0 l2 ok hn r_v0  h
  · rw [if_neg hz2] at h; cases h
def m70_0 (F : Nat) (v0 : Nat) (v1 : Int32) (v2 : Int32) (hp : List mE) : Option (Int32 × List mE) :=
  (gfi 7 5 hp v0).bind fun x1 =>
  if mc2 .eq x1 v1 = true then
    m70_34 F v0 v2 hp
  else
    (rcv 7 hp v0).bind fun u4 =>
    (e72 F v0 v1 hp).bind fun q3 =>
    if mc1 .ne q3.1 = true then
      m70_22 F v0 v1 v2 v0 0 q3.2
    else
      m70_22 F v0 v1 v2 v0 1 q3.2
theorem t70_0 {d c w n : Nat} (hd : 5 ≤ d) (F : Nat) : ∀ (v0 : Nat) (v1 : Int32) (v2 : Int32) (lv : List (Nat × Value)) (hp : List mE) (v : Int32) (hp' : List mE), alk 0 lv = some (.ref v0) → alk 1 lv = some (.int v1) → alk 2 lv = some (.int v2) → lvk n lv → hp.length = n → v0 < n → m70_0 F v0 v1 v2 hp = some (v, hp') → Rn d 70 0 lv [] hp c w (some (.int v), hp', c, w) := by
  obtain ⟨d', rfl⟩ : ∃ d', d = d' + 1 := ⟨d - 1, by omega⟩
  intro v0 v1 v2 lv hp v hp' l0 l1 l2 ok hn r_v0 h
  unfold m70_0 at h
  refine Rn.aload_n n70_0 l0 ?_
  obtain ⟨x1, hx1, h⟩ := Option.bind_eq_some_iff.mp h
  refine Rn.gf n70_1 mo70 fl7_18 (gfi_v hx1) ?_
  refine Rn.iload_n n70_4 l1 ?_
  by_cases hc2 : mc2 .eq x1 v1 = true
  · rw [if_pos hc2] at h
    refine Rn.c2t (t := 34) n70_5 (by decide) hc2 ?_
    exact t70_34 hd F  _ _ lv _ _ _ l0 l2 ok hn r_v0  h
  · rw [if_neg hc2] at h
    refine Rn.c2f (t := 34) n70_5 (by decide) hc2 ?_
    refine Rn.aload_n n70_8 l0 ?_
    refine Rn.aload_n n70_9 l0 ?_
    refine Rn.iload_n n70_10 l1 ?_
    obtain ⟨u4, hu4, h⟩ := Option.bind_eq_some_iff.mp h
    obtain ⟨q3, hq3, h⟩ := Option.bind_eq_some_iff.mp h
    have gq3 := c72 (d := d') (by omega) F _ _ _ _ _ (by rw [hn]; exact r_v0) hq3
    refine Rn.cv (As := [.int v1]) (rr := [.ref v0]) n70_11 mo70 mm7_39 (by decide) mq72 rfl rfl rfl rfl (by rw [mo72]; exact hu4) (Nat.le_of_ble_eq_true rfl) (by rw [hn]; exact (okc (okr r_v0) (okc rfl okn))) (by rw [hn]; exact (okc (okr r_v0) okn)) (by rw [hn]; exact ok) (by rw [ml72]; exact Nat.le_of_ble_eq_true rfl) gq3 ?_
    have hn := (Rn.len gq3).trans hn
    show Rn _ 70 14 lv [.int q3.1, .ref v0] q3.2 c w _
    by_cases hc5 : mc1 .ne q3.1 = true
    · rw [if_pos hc5] at h
      refine Rn.c1t (t := 21) n70_14 (by decide) hc5 ?_
      refine Rn.ic (v := 0) n70_21 (by decide) ?_
      exact t70_22 hd F  _ _ _ _ _ lv _ _ _ l0 l1 l2 ok hn r_v0 r_v0 h
    · rw [if_neg hc5] at h
      refine Rn.c1f (t := 21) n70_14 (by decide) hc5 ?_
      refine Rn.ic (v := 1) n70_17 (by decide) ?_
      refine Rn.goto (t := 22) n70_18 (by decide) ?_
      exact t70_22 hd F  _ _ _ _ _ lv _ _ _ l0 l1 l2 ok hn r_v0 r_v0 h
def e70 (F : Nat) (a0 : Nat) (a1 : Int32) (a2 : Int32) (hp : List mE) : Option (Int32 × List mE) := m70_0 F a0 a1 a2 hp
theorem c70 {d : Nat} (hd : 5 ≤ d) (F : Nat) (a0 : Nat) (a1 : Int32) (a2 : Int32) (hp : List mE) (v : Int32) (hp' : List mE) (ra0 : a0 < hp.length) (h : e70 F a0 a1 a2 hp = some (v, hp')) : Rn d 70 0 (lv_args 0 [.ref a0, .int a1, .int a2]) [] hp 0 0 (some (.int v), hp', 0, 0) :=
  t70_0 (n := hp.length) hd F a0 a1 a2 (lv_args 0 [.ref a0, .int a1, .int a2]) hp v hp' rfl rfl rfl (lvk_args (okc (okr ra0) (okc rfl (okc rfl okn)))) rfl ra0 h
/-! MirrorRoots.<init> -/
def m103_0 (F : Nat) (v0 : Nat) (hp : List mE) : Option (Unit × List mE) :=
  (nwO 3 hp).bind fun hp1 =>
  (e31 F hp.length hp1).bind fun q3 =>
  (pfv 10 0 q3.2 v0 (.ref hp.length)).bind fun hp4 =>
  (nwO 8 hp4).bind fun hp5 =>
  (e76 F hp4.length hp5).bind fun q7 =>
  (pfv 10 1 q7.2 v0 (.ref hp4.length)).bind fun hp8 =>
  (nwO 1 hp8).bind fun hp9 =>
  (gfr 10 0 hp9 v0).bind fun x11 =>
  (e14 F hp8.length x11 hp9).bind fun q12 =>
  (pfv 10 2 q12.2 v0 (.ref hp8.length)).bind fun hp13 =>
  (nwO 9 hp13).bind fun hp14 =>
  (gfr 10 0 hp14 v0).bind fun x16 =>
  (gfr 10 2 hp14 v0).bind fun x17 =>
  (e90 F hp13.length x16 x17 hp14).bind fun q18 =>
  (pfv 10 3 q18.2 v0 (.ref hp13.length)).bind fun hp19 =>
  (nwO 5 hp19).bind fun hp20 =>
  (gfr 10 0 hp20 v0).bind fun x22 =>
  (gfr 10 2 hp20 v0).bind fun x23 =>
  (e51 F hp19.length x22 x23 hp20).bind fun q24 =>
  (pfv 10 4 q24.2 v0 (.ref hp19.length)).bind fun hp25 =>
  (nwO 4 hp25).bind fun hp26 =>
  (gfr 10 0 hp26 v0).bind fun x28 =>
  (gfr 10 2 hp26 v0).bind fun x29 =>
  (e47 F hp25.length x28 x29 hp26).bind fun q30 =>
  (pfv 10 5 q30.2 v0 (.ref hp25.length)).bind fun hp31 =>
  (nwI hp31 20).bind fun hp32 =>
  (pfv 10 6 hp32 v0 (.ref hp31.length)).bind fun hp34 =>
  (pfv 10 7 hp34 v0 (.int 0)).bind fun hp35 =>
  (pfv 10 8 hp35 v0 (.null)).bind fun hp36 =>
  (pfv 10 9 hp36 v0 (.null)).bind fun hp37 =>
  (pfv 10 10 hp37 v0 (.null)).bind fun hp38 =>
  some ((), hp38)
theorem t103_0 {d n : Nat} (hd : 3 ≤ d) (F : Nat) : ∀ (v0 : Nat) (lv : List (Nat × Value)) (hp : List mE) (v : Unit) (hp' : List mE), alk 0 lv = some (.ref v0) → lvk n lv → hp.length = n → v0 < n → m103_0 F v0 hp = some (v, hp') → Ra d 103 0 lv [] hp (none) hp' := by
  obtain ⟨d', rfl⟩ : ∃ d', d = d' + 1 := ⟨d - 1, by omega⟩
  intro v0 lv hp v hp' l0 ok hn r_v0 h
  unfold m103_0 at h
  refine Ra.of (fun c w r g => Rn.aload_n n103_0 l0 g) ?_
  refine Ra.of (fun c w r g => Rn.oi n103_1 mo103 mm10_3 (Nat.le_of_ble_eq_true rfl) rfl g) ?_
  refine Ra.of (fun c w r g => Rn.aload_n n103_4 l0 g) ?_
  obtain ⟨hp1, hhp1, h⟩ := Option.bind_eq_some_iff.mp h
  refine Ra.nw n103_5 mo103 nl10_9 hhp1 (by rw [hn]; exact ok) (by rw [hn]; exact (okc (okr r_v0) okn)) ?_ 
  have rn2 : hp.length < hp1.length := by rw [nwO_len hhp1]; exact Nat.lt_succ_self _
  have hle : n ≤ hp1.length := by rw [nwO_len hhp1, hn]; exact Nat.le_succ _
  have r_v0 := Nat.lt_of_lt_of_le r_v0 hle
  have ok := lvk_mono hle ok
  have hn : hp1.length = hp1.length := rfl
  refine Ra.of (fun c w r g => Rn.p n103_8 rfl g) ?_
  obtain ⟨q3, hq3, h⟩ := Option.bind_eq_some_iff.mp h
  have gq3 := a31 (d := d') (by omega) F _ _ _ _ (by rw [hn]; exact rn2) hq3
  refine Ra.call gq3 (fun c w c1 w1 r h1 g => Rn.ci (As := []) (rr := [.ref hp.length, .ref v0]) n103_9 mo103 mm10_11 mq31 rfl rfl rfl rfl (Nat.le_of_ble_eq_true rfl) (by rw [hn]; exact (okc (okr rn2) okn)) (by rw [hn]; exact (okc (okr rn2) (okc (okr r_v0) okn))) (by rw [hn]; exact ok) (by rw [ml31]; exact Nat.le_of_ble_eq_true rfl) h1 g) ?_ 
  have hle : hp1.length ≤ q3.2.length := by rw [← hn]; exact Ra.len gq3
  have rn2 := Nat.lt_of_lt_of_le rn2 hle
  have r_v0 := Nat.lt_of_lt_of_le r_v0 hle
  have ok := lvk_mono hle ok
  have hn : q3.2.length = q3.2.length := rfl
  show Ra _ 103 12 lv [.ref hp.length, .ref v0] q3.2 _ _
  obtain ⟨hp4, hhp4, h⟩ := Option.bind_eq_some_iff.mp h
  refine Ra.of (fun c w r g => Rn.pfF n103_12 mo103 fl10_12 ft10_0 rfl mi103 rfl hhp4 g) ?_
  have hn := (pfv_len hhp4).trans hn
  refine Ra.of (fun c w r g => Rn.aload_n n103_15 l0 g) ?_
  obtain ⟨hp5, hhp5, h⟩ := Option.bind_eq_some_iff.mp h
  refine Ra.nw n103_16 mo103 nl10_16 hhp5 (by rw [hn]; exact ok) (by rw [hn]; exact (okc (okr r_v0) okn)) ?_ 
  have rn6 : hp4.length < hp5.length := by rw [nwO_len hhp5]; exact Nat.lt_succ_self _
  have hle : q3.2.length ≤ hp5.length := by rw [nwO_len hhp5, hn]; exact Nat.le_succ _
  have rn2 := Nat.lt_of_lt_of_le rn2 hle
  have r_v0 := Nat.lt_of_lt_of_le r_v0 hle
  have ok := lvk_mono hle ok
  have hn : hp5.length = hp5.length := rfl
  refine Ra.of (fun c w r g => Rn.p n103_19 rfl g) ?_
  obtain ⟨q7, hq7, h⟩ := Option.bind_eq_some_iff.mp h
  have gq7 := a76 (d := d') (by omega) F _ _ _ _ (by rw [hn]; exact rn6) hq7
  refine Ra.call gq7 (fun c w c1 w1 r h1 g => Rn.ci (As := []) (rr := [.ref hp4.length, .ref v0]) n103_20 mo103 mm10_18 mq76 rfl rfl rfl rfl (Nat.le_of_ble_eq_true rfl) (by rw [hn]; exact (okc (okr rn6) okn)) (by rw [hn]; exact (okc (okr rn6) (okc (okr r_v0) okn))) (by rw [hn]; exact ok) (by rw [ml76]; exact Nat.le_of_ble_eq_true rfl) h1 g) ?_ 
  have hle : hp5.length ≤ q7.2.length := by rw [← hn]; exact Ra.len gq7
  have rn2 := Nat.lt_of_lt_of_le rn2 hle
  have rn6 := Nat.lt_of_lt_of_le rn6 hle
  have r_v0 := Nat.lt_of_lt_of_le r_v0 hle
  have ok := lvk_mono hle ok
  have hn : q7.2.length = q7.2.length := rfl
  show Ra _ 103 23 lv [.ref hp4.length, .ref v0] q7.2 _ _
  obtain ⟨hp8, hhp8, h⟩ := Option.bind_eq_some_iff.mp h
  refine Ra.of (fun c w r g => Rn.pfF n103_23 mo103 fl10_19 ft10_1 rfl mi103 rfl hhp8 g) ?_
  have hn := (pfv_len hhp8).trans hn
  refine Ra.of (fun c w r g => Rn.aload_n n103_26 l0 g) ?_
  obtain ⟨hp9, hhp9, h⟩ := Option.bind_eq_some_iff.mp h
  refine Ra.nw n103_27 mo103 nl10_23 hhp9 (by rw [hn]; exact ok) (by rw [hn]; exact (okc (okr r_v0) okn)) ?_ 
  have rn10 : hp8.length < hp9.length := by rw [nwO_len hhp9]; exact Nat.lt_succ_self _
  have hle : q7.2.length ≤ hp9.length := by rw [nwO_len hhp9, hn]; exact Nat.le_succ _
  have rn2 := Nat.lt_of_lt_of_le rn2 hle
  have rn6 := Nat.lt_of_lt_of_le rn6 hle
  have r_v0 := Nat.lt_of_lt_of_le r_v0 hle
  have ok := lvk_mono hle ok
  have hn : hp9.length = hp9.length := rfl
  refine Ra.of (fun c w r g => Rn.p n103_30 rfl g) ?_
  refine Ra.of (fun c w r g => Rn.aload_n n103_31 l0 g) ?_
  obtain ⟨x11, hx11, h⟩ := Option.bind_eq_some_iff.mp h
  refine Ra.of (fun c w r g => Rn.gf n103_32 mo103 fl10_12 (gfr_v hx11).1 g) ?_
  have r_x11 : x11 < hp9.length := by rw [← hn]; exact (gfr_v hx11).2
  obtain ⟨q12, hq12, h⟩ := Option.bind_eq_some_iff.mp h
  have gq12 := a14 (d := d') (by omega) F _ _ _ _ _ (by rw [hn]; exact rn10) (by rw [hn]; exact r_x11) hq12
  refine Ra.call gq12 (fun c w c1 w1 r h1 g => Rn.ci (As := [.ref x11]) (rr := [.ref hp8.length, .ref v0]) n103_35 mo103 mm10_25 mq14 rfl rfl rfl rfl (Nat.le_of_ble_eq_true rfl) (by rw [hn]; exact (okc (okr rn10) (okc (okr r_x11) okn))) (by rw [hn]; exact (okc (okr rn10) (okc (okr r_v0) okn))) (by rw [hn]; exact ok) (by rw [ml14]; exact Nat.le_of_ble_eq_true rfl) h1 g) ?_ 
  have hle : hp9.length ≤ q12.2.length := by rw [← hn]; exact Ra.len gq12
  have rn2 := Nat.lt_of_lt_of_le rn2 hle
  have rn6 := Nat.lt_of_lt_of_le rn6 hle
  have rn10 := Nat.lt_of_lt_of_le rn10 hle
  have r_v0 := Nat.lt_of_lt_of_le r_v0 hle
  have r_x11 := Nat.lt_of_lt_of_le r_x11 hle
  have ok := lvk_mono hle ok
  have hn : q12.2.length = q12.2.length := rfl
  show Ra _ 103 38 lv [.ref hp8.length, .ref v0] q12.2 _ _
  obtain ⟨hp13, hhp13, h⟩ := Option.bind_eq_some_iff.mp h
  refine Ra.of (fun c w r g => Rn.pfF n103_38 mo103 fl10_28 ft10_2 rfl mi103 rfl hhp13 g) ?_
  have hn := (pfv_len hhp13).trans hn
  refine Ra.of (fun c w r g => Rn.aload_n n103_41 l0 g) ?_
  obtain ⟨hp14, hhp14, h⟩ := Option.bind_eq_some_iff.mp h
  refine Ra.nw n103_42 mo103 nl10_32 hhp14 (by rw [hn]; exact ok) (by rw [hn]; exact (okc (okr r_v0) okn)) ?_ 
  have rn15 : hp13.length < hp14.length := by rw [nwO_len hhp14]; exact Nat.lt_succ_self _
  have hle : q12.2.length ≤ hp14.length := by rw [nwO_len hhp14, hn]; exact Nat.le_succ _
  have rn2 := Nat.lt_of_lt_of_le rn2 hle
  have rn6 := Nat.lt_of_lt_of_le rn6 hle
  have rn10 := Nat.lt_of_lt_of_le rn10 hle
  have r_v0 := Nat.lt_of_lt_of_le r_v0 hle
  have r_x11 := Nat.lt_of_lt_of_le r_x11 hle
  have ok := lvk_mono hle ok
  have hn : hp14.length = hp14.length := rfl
  refine Ra.of (fun c w r g => Rn.p n103_45 rfl g) ?_
  refine Ra.of (fun c w r g => Rn.aload_n n103_46 l0 g) ?_
  obtain ⟨x16, hx16, h⟩ := Option.bind_eq_some_iff.mp h
  refine Ra.of (fun c w r g => Rn.gf n103_47 mo103 fl10_12 (gfr_v hx16).1 g) ?_
  have r_x16 : x16 < hp14.length := by rw [← hn]; exact (gfr_v hx16).2
  refine Ra.of (fun c w r g => Rn.aload_n n103_50 l0 g) ?_
  obtain ⟨x17, hx17, h⟩ := Option.bind_eq_some_iff.mp h
  refine Ra.of (fun c w r g => Rn.gf n103_51 mo103 fl10_28 (gfr_v hx17).1 g) ?_
  have r_x17 : x17 < hp14.length := by rw [← hn]; exact (gfr_v hx17).2
  obtain ⟨q18, hq18, h⟩ := Option.bind_eq_some_iff.mp h
  have gq18 := a90 (d := d') (by omega) F _ _ _ _ _ _ (by rw [hn]; exact rn15) (by rw [hn]; exact r_x16) (by rw [hn]; exact r_x17) hq18
  refine Ra.call gq18 (fun c w c1 w1 r h1 g => Rn.ci (As := [.ref x16, .ref x17]) (rr := [.ref hp13.length, .ref v0]) n103_54 mo103 mm10_34 mq90 rfl rfl rfl rfl (Nat.le_of_ble_eq_true rfl) (by rw [hn]; exact (okc (okr rn15) (okc (okr r_x16) (okc (okr r_x17) okn)))) (by rw [hn]; exact (okc (okr rn15) (okc (okr r_v0) okn))) (by rw [hn]; exact ok) (by rw [ml90]; exact Nat.le_of_ble_eq_true rfl) h1 g) ?_ 
  have hle : hp14.length ≤ q18.2.length := by rw [← hn]; exact Ra.len gq18
  have rn2 := Nat.lt_of_lt_of_le rn2 hle
  have rn15 := Nat.lt_of_lt_of_le rn15 hle
  have rn6 := Nat.lt_of_lt_of_le rn6 hle
  have rn10 := Nat.lt_of_lt_of_le rn10 hle
  have r_v0 := Nat.lt_of_lt_of_le r_v0 hle
  have r_x11 := Nat.lt_of_lt_of_le r_x11 hle
  have r_x16 := Nat.lt_of_lt_of_le r_x16 hle
  have r_x17 := Nat.lt_of_lt_of_le r_x17 hle
  have ok := lvk_mono hle ok
  have hn : q18.2.length = q18.2.length := rfl
  show Ra _ 103 57 lv [.ref hp13.length, .ref v0] q18.2 _ _
  obtain ⟨hp19, hhp19, h⟩ := Option.bind_eq_some_iff.mp h
  refine Ra.of (fun c w r g => Rn.pfF n103_57 mo103 fl10_37 ft10_3 rfl mi103 rfl hhp19 g) ?_
  have hn := (pfv_len hhp19).trans hn
  refine Ra.of (fun c w r g => Rn.aload_n n103_60 l0 g) ?_
  obtain ⟨hp20, hhp20, h⟩ := Option.bind_eq_some_iff.mp h
  refine Ra.nw n103_61 mo103 nl10_41 hhp20 (by rw [hn]; exact ok) (by rw [hn]; exact (okc (okr r_v0) okn)) ?_ 
  have rn21 : hp19.length < hp20.length := by rw [nwO_len hhp20]; exact Nat.lt_succ_self _
  have hle : q18.2.length ≤ hp20.length := by rw [nwO_len hhp20, hn]; exact Nat.le_succ _
  have rn2 := Nat.lt_of_lt_of_le rn2 hle
  have rn15 := Nat.lt_of_lt_of_le rn15 hle
  have rn6 := Nat.lt_of_lt_of_le rn6 hle
  have rn10 := Nat.lt_of_lt_of_le rn10 hle
  have r_v0 := Nat.lt_of_lt_of_le r_v0 hle
  have r_x11 := Nat.lt_of_lt_of_le r_x11 hle
  have r_x16 := Nat.lt_of_lt_of_le r_x16 hle
  have r_x17 := Nat.lt_of_lt_of_le r_x17 hle
  have ok := lvk_mono hle ok
  have hn : hp20.length = hp20.length := rfl
  refine Ra.of (fun c w r g => Rn.p n103_64 rfl g) ?_
  refine Ra.of (fun c w r g => Rn.aload_n n103_65 l0 g) ?_
  obtain ⟨x22, hx22, h⟩ := Option.bind_eq_some_iff.mp h
  refine Ra.of (fun c w r g => Rn.gf n103_66 mo103 fl10_12 (gfr_v hx22).1 g) ?_
  have r_x22 : x22 < hp20.length := by rw [← hn]; exact (gfr_v hx22).2
  refine Ra.of (fun c w r g => Rn.aload_n n103_69 l0 g) ?_
  obtain ⟨x23, hx23, h⟩ := Option.bind_eq_some_iff.mp h
  refine Ra.of (fun c w r g => Rn.gf n103_70 mo103 fl10_28 (gfr_v hx23).1 g) ?_
  have r_x23 : x23 < hp20.length := by rw [← hn]; exact (gfr_v hx23).2
  obtain ⟨q24, hq24, h⟩ := Option.bind_eq_some_iff.mp h
  have gq24 := a51 (d := d') (by omega) F _ _ _ _ _ _ (by rw [hn]; exact rn21) (by rw [hn]; exact r_x22) (by rw [hn]; exact r_x23) hq24
  refine Ra.call gq24 (fun c w c1 w1 r h1 g => Rn.ci (As := [.ref x22, .ref x23]) (rr := [.ref hp19.length, .ref v0]) n103_73 mo103 mm10_43 mq51 rfl rfl rfl rfl (Nat.le_of_ble_eq_true rfl) (by rw [hn]; exact (okc (okr rn21) (okc (okr r_x22) (okc (okr r_x23) okn)))) (by rw [hn]; exact (okc (okr rn21) (okc (okr r_v0) okn))) (by rw [hn]; exact ok) (by rw [ml51]; exact Nat.le_of_ble_eq_true rfl) h1 g) ?_ 
  have hle : hp20.length ≤ q24.2.length := by rw [← hn]; exact Ra.len gq24
  have rn2 := Nat.lt_of_lt_of_le rn2 hle
  have rn15 := Nat.lt_of_lt_of_le rn15 hle
  have rn21 := Nat.lt_of_lt_of_le rn21 hle
  have rn6 := Nat.lt_of_lt_of_le rn6 hle
  have rn10 := Nat.lt_of_lt_of_le rn10 hle
  have r_v0 := Nat.lt_of_lt_of_le r_v0 hle
  have r_x11 := Nat.lt_of_lt_of_le r_x11 hle
  have r_x16 := Nat.lt_of_lt_of_le r_x16 hle
  have r_x17 := Nat.lt_of_lt_of_le r_x17 hle
  have r_x22 := Nat.lt_of_lt_of_le r_x22 hle
  have r_x23 := Nat.lt_of_lt_of_le r_x23 hle
  have ok := lvk_mono hle ok
  have hn : q24.2.length = q24.2.length := rfl
  show Ra _ 103 76 lv [.ref hp19.length, .ref v0] q24.2 _ _
  obtain ⟨hp25, hhp25, h⟩ := Option.bind_eq_some_iff.mp h
  refine Ra.of (fun c w r g => Rn.pfF n103_76 mo103 fl10_44 ft10_4 rfl mi103 rfl hhp25 g) ?_
  have hn := (pfv_len hhp25).trans hn
  refine Ra.of (fun c w r g => Rn.aload_n n103_79 l0 g) ?_
  obtain ⟨hp26, hhp26, h⟩ := Option.bind_eq_some_iff.mp h
  refine Ra.nw n103_80 mo103 nl10_48 hhp26 (by rw [hn]; exact ok) (by rw [hn]; exact (okc (okr r_v0) okn)) ?_ 
  have rn27 : hp25.length < hp26.length := by rw [nwO_len hhp26]; exact Nat.lt_succ_self _
  have hle : q24.2.length ≤ hp26.length := by rw [nwO_len hhp26, hn]; exact Nat.le_succ _
  have rn2 := Nat.lt_of_lt_of_le rn2 hle
  have rn15 := Nat.lt_of_lt_of_le rn15 hle
  have rn21 := Nat.lt_of_lt_of_le rn21 hle
  have rn6 := Nat.lt_of_lt_of_le rn6 hle
  have rn10 := Nat.lt_of_lt_of_le rn10 hle
  have r_v0 := Nat.lt_of_lt_of_le r_v0 hle
  have r_x11 := Nat.lt_of_lt_of_le r_x11 hle
  have r_x16 := Nat.lt_of_lt_of_le r_x16 hle
  have r_x17 := Nat.lt_of_lt_of_le r_x17 hle
  have r_x22 := Nat.lt_of_lt_of_le r_x22 hle
  have r_x23 := Nat.lt_of_lt_of_le r_x23 hle
  have ok := lvk_mono hle ok
  have hn : hp26.length = hp26.length := rfl
  refine Ra.of (fun c w r g => Rn.p n103_83 rfl g) ?_
  refine Ra.of (fun c w r g => Rn.aload_n n103_84 l0 g) ?_
  obtain ⟨x28, hx28, h⟩ := Option.bind_eq_some_iff.mp h
  refine Ra.of (fun c w r g => Rn.gf n103_85 mo103 fl10_12 (gfr_v hx28).1 g) ?_
  have r_x28 : x28 < hp26.length := by rw [← hn]; exact (gfr_v hx28).2
  refine Ra.of (fun c w r g => Rn.aload_n n103_88 l0 g) ?_
  obtain ⟨x29, hx29, h⟩ := Option.bind_eq_some_iff.mp h
  refine Ra.of (fun c w r g => Rn.gf n103_89 mo103 fl10_28 (gfr_v hx29).1 g) ?_
  have r_x29 : x29 < hp26.length := by rw [← hn]; exact (gfr_v hx29).2
  obtain ⟨q30, hq30, h⟩ := Option.bind_eq_some_iff.mp h
  have gq30 := a47 (d := d') (by omega) F _ _ _ _ _ _ (by rw [hn]; exact rn27) (by rw [hn]; exact r_x28) (by rw [hn]; exact r_x29) hq30
  refine Ra.call gq30 (fun c w c1 w1 r h1 g => Rn.ci (As := [.ref x28, .ref x29]) (rr := [.ref hp25.length, .ref v0]) n103_92 mo103 mm10_50 mq47 rfl rfl rfl rfl (Nat.le_of_ble_eq_true rfl) (by rw [hn]; exact (okc (okr rn27) (okc (okr r_x28) (okc (okr r_x29) okn)))) (by rw [hn]; exact (okc (okr rn27) (okc (okr r_v0) okn))) (by rw [hn]; exact ok) (by rw [ml47]; exact Nat.le_of_ble_eq_true rfl) h1 g) ?_ 
  have hle : hp26.length ≤ q30.2.length := by rw [← hn]; exact Ra.len gq30
  have rn2 := Nat.lt_of_lt_of_le rn2 hle
  have rn15 := Nat.lt_of_lt_of_le rn15 hle
  have rn21 := Nat.lt_of_lt_of_le rn21 hle
  have rn27 := Nat.lt_of_lt_of_le rn27 hle
  have rn6 := Nat.lt_of_lt_of_le rn6 hle
  have rn10 := Nat.lt_of_lt_of_le rn10 hle
  have r_v0 := Nat.lt_of_lt_of_le r_v0 hle
  have r_x11 := Nat.lt_of_lt_of_le r_x11 hle
  have r_x16 := Nat.lt_of_lt_of_le r_x16 hle
  have r_x17 := Nat.lt_of_lt_of_le r_x17 hle
  have r_x22 := Nat.lt_of_lt_of_le r_x22 hle
  have r_x23 := Nat.lt_of_lt_of_le r_x23 hle
  have r_x28 := Nat.lt_of_lt_of_le r_x28 hle
  have r_x29 := Nat.lt_of_lt_of_le r_x29 hle
  have ok := lvk_mono hle ok
  have hn : q30.2.length = q30.2.length := rfl
  show Ra _ 103 95 lv [.ref hp25.length, .ref v0] q30.2 _ _
  obtain ⟨hp31, hhp31, h⟩ := Option.bind_eq_some_iff.mp h
  refine Ra.of (fun c w r g => Rn.pfF n103_95 mo103 fl10_51 ft10_5 rfl mi103 rfl hhp31 g) ?_
  have hn := (pfv_len hhp31).trans hn
  refine Ra.of (fun c w r g => Rn.aload_n n103_98 l0 g) ?_
  refine Ra.of (fun c w r g => Rn.bp (v := 20) n103_99 (by decide) g) ?_
  obtain ⟨hp32, hhp32, h⟩ := Option.bind_eq_some_iff.mp h
  refine Ra.nI n103_101 hhp32 (by rw [hn]; exact ok) (by rw [hn]; exact (okc (okr r_v0) okn)) ?_ 
  have rn33 : hp31.length < hp32.length := by rw [nwI_len hhp32]; exact Nat.lt_succ_self _
  have hle : q30.2.length ≤ hp32.length := by rw [nwI_len hhp32, hn]; exact Nat.le_succ _
  have rn2 := Nat.lt_of_lt_of_le rn2 hle
  have rn15 := Nat.lt_of_lt_of_le rn15 hle
  have rn21 := Nat.lt_of_lt_of_le rn21 hle
  have rn27 := Nat.lt_of_lt_of_le rn27 hle
  have rn6 := Nat.lt_of_lt_of_le rn6 hle
  have rn10 := Nat.lt_of_lt_of_le rn10 hle
  have r_v0 := Nat.lt_of_lt_of_le r_v0 hle
  have r_x11 := Nat.lt_of_lt_of_le r_x11 hle
  have r_x16 := Nat.lt_of_lt_of_le r_x16 hle
  have r_x17 := Nat.lt_of_lt_of_le r_x17 hle
  have r_x22 := Nat.lt_of_lt_of_le r_x22 hle
  have r_x23 := Nat.lt_of_lt_of_le r_x23 hle
  have r_x28 := Nat.lt_of_lt_of_le r_x28 hle
  have r_x29 := Nat.lt_of_lt_of_le r_x29 hle
  have ok := lvk_mono hle ok
  have hn : hp32.length = hp32.length := rfl
  obtain ⟨hp34, hhp34, h⟩ := Option.bind_eq_some_iff.mp h
  refine Ra.of (fun c w r g => Rn.pfF n103_103 mo103 fl10_55 ft10_6 rfl mi103 rfl hhp34 g) ?_
  have hn := (pfv_len hhp34).trans hn
  refine Ra.of (fun c w r g => Rn.aload_n n103_106 l0 g) ?_
  refine Ra.of (fun c w r g => Rn.ic (v := 0) n103_107 (by decide) g) ?_
  obtain ⟨hp35, hhp35, h⟩ := Option.bind_eq_some_iff.mp h
  refine Ra.of (fun c w r g => Rn.pf n103_108 mo103 fl10_59 ft10_7 rfl ff10_7 (fun _ _ hh => by cases hh) hhp35 g) ?_
  have hn := (pfv_len hhp35).trans hn
  refine Ra.of (fun c w r g => Rn.aload_n n103_111 l0 g) ?_
  refine Ra.of (fun c w r g => Rn.p n103_112 rfl g) ?_
  obtain ⟨hp36, hhp36, h⟩ := Option.bind_eq_some_iff.mp h
  refine Ra.of (fun c w r g => Rn.pf n103_113 mo103 fl10_63 ft10_8 rfl ff10_8 (fun _ _ hh => by cases hh) hhp36 g) ?_
  have hn := (pfv_len hhp36).trans hn
  refine Ra.of (fun c w r g => Rn.aload_n n103_116 l0 g) ?_
  refine Ra.of (fun c w r g => Rn.p n103_117 rfl g) ?_
  obtain ⟨hp37, hhp37, h⟩ := Option.bind_eq_some_iff.mp h
  refine Ra.of (fun c w r g => Rn.pf n103_118 mo103 fl10_67 ft10_9 rfl ff10_9 (fun _ _ hh => by cases hh) hhp37 g) ?_
  have hn := (pfv_len hhp37).trans hn
  refine Ra.of (fun c w r g => Rn.aload_n n103_121 l0 g) ?_
  refine Ra.of (fun c w r g => Rn.p n103_122 rfl g) ?_
  obtain ⟨hp38, hhp38, h⟩ := Option.bind_eq_some_iff.mp h
  refine Ra.of (fun c w r g => Rn.pf n103_123 mo103 fl10_71 ft10_10 rfl ff10_10 (fun _ _ hh => by cases hh) hhp38 g) ?_
  have hn := (pfv_len hhp38).trans hn
  have e1 := (Prod.mk.inj (Option.some.inj h)).1
  have e2 := (Prod.mk.inj (Option.some.inj h)).2
  subst e1
  subst e2
  exact Ra.ret (fun c w => Rn.vret n103_126 mr103)
def e103 (F : Nat) (a0 : Nat) (hp : List mE) : Option (Unit × List mE) := m103_0 F a0 hp
theorem a103 {d : Nat} (hd : 3 ≤ d) (F : Nat) (a0 : Nat) (hp : List mE) (v : Unit) (hp' : List mE) (ra0 : a0 < hp.length) (h : e103 F a0 hp = some (v, hp')) : Ra d 103 0 (lv_args 0 [.ref a0]) [] hp (none) hp' :=
  t103_0 (n := hp.length) hd F a0 (lv_args 0 [.ref a0]) hp v hp' rfl (lvk_args (okc (okr ra0) okn)) rfl ra0 h
/-! MirrorRoots.shifts -/
def m130_54 (F : Nat) (v0 : Nat) (v1 : Int32) (v2 : Int32) (hp : List mE) : Option (Int32 × List mE) :=
  (gfr 10 9 hp v0).bind fun x1 =>
  (rcv 7 hp x1).bind fun u3 =>
  (e70 F x1 v1 v2 hp).bind fun q2 =>
  some (q2.1, q2.2)
theorem t130_54 {d n : Nat} (hd : 6 ≤ d) (F : Nat) : ∀ (v0 : Nat) (v1 : Int32) (v2 : Int32) (lv : List (Nat × Value)) (hp : List mE) (v : Int32) (hp' : List mE), alk 0 lv = some (.ref v0) → alk 1 lv = some (.int v1) → alk 2 lv = some (.int v2) → lvk n lv → hp.length = n → v0 < n → m130_54 F v0 v1 v2 hp = some (v, hp') → Ra d 130 54 lv [] hp (some (.int v)) hp' := by
  obtain ⟨d', rfl⟩ : ∃ d', d = d' + 1 := ⟨d - 1, by omega⟩
  intro v0 v1 v2 lv hp v hp' l0 l1 l2 ok hn r_v0 h
  unfold m130_54 at h
  refine Ra.of (fun c w r g => Rn.aload_n n130_54 l0 g) ?_
  obtain ⟨x1, hx1, h⟩ := Option.bind_eq_some_iff.mp h
  refine Ra.of (fun c w r g => Rn.gf n130_55 mo130 fl10_67 (gfr_v hx1).1 g) ?_
  have r_x1 : x1 < n := by rw [← hn]; exact (gfr_v hx1).2
  refine Ra.of (fun c w r g => Rn.iload_n n130_58 l1 g) ?_
  refine Ra.of (fun c w r g => Rn.iload_n n130_59 l2 g) ?_
  obtain ⟨u3, hu3, h⟩ := Option.bind_eq_some_iff.mp h
  obtain ⟨q2, hq2, h⟩ := Option.bind_eq_some_iff.mp h
  have gq2 := c70 (d := d') (by omega) F _ _ _ _ _ _ (by rw [hn]; exact r_x1) hq2
  refine Ra.of (fun c w r g => Rn.cv (As := [.int v1, .int v2]) (rr := []) n130_60 mo130 mm10_214 (by decide) mq70 rfl rfl rfl rfl (by rw [mo70]; exact hu3) (Nat.le_of_ble_eq_true rfl) (by rw [hn]; exact (okc (okr r_x1) (okc rfl (okc rfl okn)))) (by rw [hn]; exact okn) (by rw [hn]; exact ok) (by rw [ml70]; exact Nat.le_of_ble_eq_true rfl) gq2 g) ?_
  have hn := (Rn.len gq2).trans hn
  show Ra _ 130 63 lv [.int q2.1] q2.2 _ _
  have e1 := (Prod.mk.inj (Option.some.inj h)).1
  have e2 := (Prod.mk.inj (Option.some.inj h)).2
  subst e1
  subst e2
  exact Ra.ret (fun c w => Rn.iret n130_63 mr130)
def m130_24 (F : Nat) (hp : List mE) : Option (Int32 × List mE) :=
  some ((-1002), hp)
theorem t130_24 {d n : Nat} (hd : 6 ≤ d) (F : Nat) : ∀ (lv : List (Nat × Value)) (hp : List mE) (v : Int32) (hp' : List mE), lvk n lv → hp.length = n → m130_24 F hp = some (v, hp') → Ra d 130 24 lv [] hp (some (.int v)) hp' := by
  obtain ⟨d', rfl⟩ : ∃ d', d = d' + 1 := ⟨d - 1, by omega⟩
  intro lv hp v hp' ok hn h
  unfold m130_24 at h
  refine Ra.of (fun c w r g => Rn.sp (v := (-1002)) n130_24 (by decide) g) ?_
  have e1 := (Prod.mk.inj (Option.some.inj h)).1
  have e2 := (Prod.mk.inj (Option.some.inj h)).2
  subst e1
  subst e2
  exact Ra.ret (fun c w => Rn.iret n130_27 mr130)
def m130_0 (F : Nat) (v0 : Nat) (v1 : Int32) (v2 : Int32) (hp : List mE) : Option (Int32 × List mE) :=
  (gfr 10 2 hp v0).bind fun x1 =>
  (rcv 1 hp x1).bind fun u3 =>
  (e16 F x1 v1 hp).bind fun q2 =>
  if mc1 .ne q2.1 = true then
    if mc1 .lt v2 = true then
      m130_24 F q2.2
    else
      if mc2 .le v2 2 = true then
        (gfq 10 9 q2.2 v0).bind fun x7 =>
        if x7 = none then
          (nwO 7 q2.2).bind fun hp9 =>
          (gfr 10 0 hp9 v0).bind fun x11 =>
          (gfr 10 2 hp9 v0).bind fun x12 =>
          (e68 F q2.2.length x11 x12 hp9).bind fun q13 =>
          (pfv 10 9 q13.2 v0 (.ref q2.2.length)).bind fun hp14 =>
          m130_54 F v0 v1 v2 hp14
        else
          m130_54 F v0 v1 v2 q2.2
      else
        m130_24 F q2.2
  else
    some ((-1001), q2.2)
theorem t130_0 {d n : Nat} (hd : 6 ≤ d) (F : Nat) : ∀ (v0 : Nat) (v1 : Int32) (v2 : Int32) (lv : List (Nat × Value)) (hp : List mE) (v : Int32) (hp' : List mE), alk 0 lv = some (.ref v0) → alk 1 lv = some (.int v1) → alk 2 lv = some (.int v2) → lvk n lv → hp.length = n → v0 < n → m130_0 F v0 v1 v2 hp = some (v, hp') → Ra d 130 0 lv [] hp (some (.int v)) hp' := by
  obtain ⟨d', rfl⟩ : ∃ d', d = d' + 1 := ⟨d - 1, by omega⟩
  intro v0 v1 v2 lv hp v hp' l0 l1 l2 ok hn r_v0 h
  unfold m130_0 at h
  refine Ra.of (fun c w r g => Rn.aload_n n130_0 l0 g) ?_
  obtain ⟨x1, hx1, h⟩ := Option.bind_eq_some_iff.mp h
  refine Ra.of (fun c w r g => Rn.gf n130_1 mo130 fl10_28 (gfr_v hx1).1 g) ?_
  have r_x1 : x1 < n := by rw [← hn]; exact (gfr_v hx1).2
  refine Ra.of (fun c w r g => Rn.iload_n n130_4 l1 g) ?_
  obtain ⟨u3, hu3, h⟩ := Option.bind_eq_some_iff.mp h
  obtain ⟨q2, hq2, h⟩ := Option.bind_eq_some_iff.mp h
  have gq2 := c16 (d := d') (by omega) F _ _ _ _ _ (by rw [hn]; exact r_x1) hq2
  refine Ra.of (fun c w r g => Rn.cv (As := [.int v1]) (rr := []) n130_5 mo130 mm10_130 (by decide) mq16 rfl rfl rfl rfl (by rw [mo16]; exact hu3) (Nat.le_of_ble_eq_true rfl) (by rw [hn]; exact (okc (okr r_x1) (okc rfl okn))) (by rw [hn]; exact okn) (by rw [hn]; exact ok) (by rw [ml16]; exact Nat.le_of_ble_eq_true rfl) gq2 g) ?_
  have hn := (Rn.len gq2).trans hn
  show Ra _ 130 8 lv [.int q2.1] q2.2 _ _
  by_cases hc4 : mc1 .ne q2.1 = true
  · rw [if_pos hc4] at h
    refine Ra.of (fun c w r g => Rn.c1t (t := 15) n130_8 (by decide) hc4 g) ?_
    refine Ra.of (fun c w r g => Rn.iload_n n130_15 l2 g) ?_
    by_cases hc5 : mc1 .lt v2 = true
    · rw [if_pos hc5] at h
      refine Ra.of (fun c w r g => Rn.c1t (t := 24) n130_16 (by decide) hc5 g) ?_
      exact t130_24 hd F  lv _ _ _  ok hn   h
    · rw [if_neg hc5] at h
      refine Ra.of (fun c w r g => Rn.c1f (t := 24) n130_16 (by decide) hc5 g) ?_
      refine Ra.of (fun c w r g => Rn.iload_n n130_19 l2 g) ?_
      refine Ra.of (fun c w r g => Rn.ic (v := 2) n130_20 (by decide) g) ?_
      by_cases hc6 : mc2 .le v2 2 = true
      · rw [if_pos hc6] at h
        refine Ra.of (fun c w r g => Rn.c2t (t := 28) n130_21 (by decide) hc6 g) ?_
        refine Ra.of (fun c w r g => Rn.aload_n n130_28 l0 g) ?_
        obtain ⟨x7, hx7, h⟩ := Option.bind_eq_some_iff.mp h
        by_cases hq8 : x7 = none
        · rw [if_pos hq8] at h
          refine Ra.of (fun c w r g => Rn.gf n130_29 mo130 fl10_67 (gfq_n hq8 hx7) g) ?_
          refine Ra.of (fun c w r g => Rn.nnf (t := 54) n130_32 (by decide) g) ?_
          refine Ra.of (fun c w r g => Rn.aload_n n130_35 l0 g) ?_
          obtain ⟨hp9, hhp9, h⟩ := Option.bind_eq_some_iff.mp h
          refine Ra.nw n130_36 mo130 nl10_106 hhp9 (by rw [hn]; exact ok) (by rw [hn]; exact (okc (okr r_v0) okn)) ?_ 
          have rn10 : q2.2.length < hp9.length := by rw [nwO_len hhp9]; exact Nat.lt_succ_self _
          have hle : n ≤ hp9.length := by rw [nwO_len hhp9, hn]; exact Nat.le_succ _
          have r_v0 := Nat.lt_of_lt_of_le r_v0 hle
          have r_x1 := Nat.lt_of_lt_of_le r_x1 hle
          have ok := lvk_mono hle ok
          have hn : hp9.length = hp9.length := rfl
          refine Ra.of (fun c w r g => Rn.p n130_39 rfl g) ?_
          refine Ra.of (fun c w r g => Rn.aload_n n130_40 l0 g) ?_
          obtain ⟨x11, hx11, h⟩ := Option.bind_eq_some_iff.mp h
          refine Ra.of (fun c w r g => Rn.gf n130_41 mo130 fl10_12 (gfr_v hx11).1 g) ?_
          have r_x11 : x11 < hp9.length := by rw [← hn]; exact (gfr_v hx11).2
          refine Ra.of (fun c w r g => Rn.aload_n n130_44 l0 g) ?_
          obtain ⟨x12, hx12, h⟩ := Option.bind_eq_some_iff.mp h
          refine Ra.of (fun c w r g => Rn.gf n130_45 mo130 fl10_28 (gfr_v hx12).1 g) ?_
          have r_x12 : x12 < hp9.length := by rw [← hn]; exact (gfr_v hx12).2
          obtain ⟨q13, hq13, h⟩ := Option.bind_eq_some_iff.mp h
          have gq13 := a68 (d := d') (by omega) F _ _ _ _ _ _ (by rw [hn]; exact rn10) (by rw [hn]; exact r_x11) (by rw [hn]; exact r_x12) hq13
          refine Ra.call gq13 (fun c w c1 w1 r h1 g => Rn.ci (As := [.ref x11, .ref x12]) (rr := [.ref q2.2.length, .ref v0]) n130_48 mo130 mm10_213 mq68 rfl rfl rfl rfl (Nat.le_of_ble_eq_true rfl) (by rw [hn]; exact (okc (okr rn10) (okc (okr r_x11) (okc (okr r_x12) okn)))) (by rw [hn]; exact (okc (okr rn10) (okc (okr r_v0) okn))) (by rw [hn]; exact ok) (by rw [ml68]; exact Nat.le_of_ble_eq_true rfl) h1 g) ?_ 
          have hle : hp9.length ≤ q13.2.length := by rw [← hn]; exact Ra.len gq13
          have rn10 := Nat.lt_of_lt_of_le rn10 hle
          have r_v0 := Nat.lt_of_lt_of_le r_v0 hle
          have r_x1 := Nat.lt_of_lt_of_le r_x1 hle
          have r_x11 := Nat.lt_of_lt_of_le r_x11 hle
          have r_x12 := Nat.lt_of_lt_of_le r_x12 hle
          have ok := lvk_mono hle ok
          have hn : q13.2.length = q13.2.length := rfl
          show Ra _ 130 51 lv [.ref q2.2.length, .ref v0] q13.2 _ _
          obtain ⟨hp14, hhp14, h⟩ := Option.bind_eq_some_iff.mp h
          refine Ra.of (fun c w r g => Rn.pf n130_51 mo130 fl10_67 ft10_9 rfl ff10_9 (fun _ _ hh => by cases hh) hhp14 g) ?_
          have hn := (pfv_len hhp14).trans hn
          exact t130_54 hd F  _ _ _ lv _ _ _ l0 l1 l2 ok hn r_v0  h
        · rw [if_neg hq8] at h
          obtain ⟨bx7, hbx7⟩ := gfq_s hq8 hx7
          refine Ra.of (fun c w r g => Rn.gf n130_29 mo130 fl10_67 hbx7 g) ?_
          refine Ra.of (fun c w r g => Rn.nnt (t := 54) n130_32 (by decide) g) ?_
          exact t130_54 hd F  _ _ _ lv _ _ _ l0 l1 l2 ok hn r_v0  h
      · rw [if_neg hc6] at h
        refine Ra.of (fun c w r g => Rn.c2f (t := 28) n130_21 (by decide) hc6 g) ?_
        exact t130_24 hd F  lv _ _ _  ok hn   h
  · rw [if_neg hc4] at h
    refine Ra.of (fun c w r g => Rn.c1f (t := 15) n130_8 (by decide) hc4 g) ?_
    refine Ra.of (fun c w r g => Rn.sp (v := (-1001)) n130_11 (by decide) g) ?_
    have e1 := (Prod.mk.inj (Option.some.inj h)).1
    have e2 := (Prod.mk.inj (Option.some.inj h)).2
    subst e1
    subst e2
    exact Ra.ret (fun c w => Rn.iret n130_14 mr130)
def e130 (F : Nat) (a0 : Nat) (a1 : Int32) (a2 : Int32) (hp : List mE) : Option (Int32 × List mE) := m130_0 F a0 a1 a2 hp
theorem a130 {d : Nat} (hd : 6 ≤ d) (F : Nat) (a0 : Nat) (a1 : Int32) (a2 : Int32) (hp : List mE) (v : Int32) (hp' : List mE) (ra0 : a0 < hp.length) (h : e130 F a0 a1 a2 hp = some (v, hp')) : Ra d 130 0 (lv_args 0 [.ref a0, .int a1, .int a2]) [] hp (some (.int v)) hp' :=
  t130_0 (n := hp.length) hd F a0 a1 a2 (lv_args 0 [.ref a0, .int a1, .int a2]) hp v hp' rfl rfl rfl (lvk_args (okc (okr ra0) (okc rfl (okc rfl okn)))) rfl ra0 h
