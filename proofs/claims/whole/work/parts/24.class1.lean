/-! MirrorRoots$Ideal.forget -/
def m1_0 (F : Nat) (v0 : Nat) (hp : List mE) : Option (Unit × List mE) :=
  (pfv 0 7 hp v0 (.int ((-1)))).bind fun hp1 =>
  some ((), hp1)
theorem t1_0 {d c w n : Nat} (hd : 0 ≤ d) (F : Nat) : ∀ (v0 : Nat) (lv : List (Nat × Value)) (hp : List mE) (v : Unit) (hp' : List mE), alk 0 lv = some (.ref v0) → lvk n lv → hp.length = n → v0 < n → m1_0 F v0 hp = some (v, hp') → Rn d 1 0 lv [] hp c w (none, hp', c, w) := by
  intro v0 lv hp v hp' l0 ok hn r_v0 h
  unfold m1_0 at h
  refine Rn.aload_n n1_0 l0 ?_
  refine Rn.ic (v := (-1)) n1_1 (by decide) ?_
  obtain ⟨hp1, hhp1, h⟩ := Option.bind_eq_some_iff.mp h
  refine Rn.pf n1_2 mo1 fl0_27 ft0_7 rfl ff0_7 (fun _ _ hh => by cases hh) hhp1 ?_
  have hn := (pfv_len hhp1).trans hn
  have e1 := (Prod.mk.inj (Option.some.inj h)).1
  have e2 := (Prod.mk.inj (Option.some.inj h)).2
  subst e1
  subst e2
  exact Rn.vret n1_5 mr1
def e1 (F : Nat) (a0 : Nat) (hp : List mE) : Option (Unit × List mE) := m1_0 F a0 hp
theorem c1 {d : Nat} (hd : 0 ≤ d) (F : Nat) (a0 : Nat) (hp : List mE) (v : Unit) (hp' : List mE) (ra0 : a0 < hp.length) (h : e1 F a0 hp = some (v, hp')) : Rn d 1 0 (lv_args 0 [.ref a0]) [] hp 0 0 (none, hp', 0, 0) :=
  t1_0 (n := hp.length) hd F a0 (lv_args 0 [.ref a0]) hp v hp' rfl (lvk_args (okc (okr ra0) okn)) rfl ra0 h
/-! MirrorRoots$Ideal.coefficient -/
def m4_24 (F : Nat) (t0 : Int32) (hp : List mE) : Option (Int32 × List mE) :=
  some (t0, hp)
theorem t4_24 {d c w n : Nat} (hd : 0 ≤ d) (F : Nat) : ∀ (t0 : Int32) (lv : List (Nat × Value)) (hp : List mE) (v : Int32) (hp' : List mE), lvk n lv → hp.length = n → m4_24 F t0 hp = some (v, hp') → Rn d 4 24 lv [.int t0] hp c w (some (.int v), hp', c, w) := by
  intro t0 lv hp v hp' ok hn h
  unfold m4_24 at h
  have e1 := (Prod.mk.inj (Option.some.inj h)).1
  have e2 := (Prod.mk.inj (Option.some.inj h)).2
  subst e1
  subst e2
  exact Rn.iret n4_24 mr4
def m4_9 (F : Nat) (hp : List mE) : Option (Int32 × List mE) :=
  m4_24 F 0 hp
theorem t4_9 {d c w n : Nat} (hd : 0 ≤ d) (F : Nat) : ∀ (lv : List (Nat × Value)) (hp : List mE) (v : Int32) (hp' : List mE), lvk n lv → hp.length = n → m4_9 F hp = some (v, hp') → Rn d 4 9 lv [] hp c w (some (.int v), hp', c, w) := by
  intro lv hp v hp' ok hn h
  unfold m4_9 at h
  refine Rn.ic (v := 0) n4_9 (by decide) ?_
  refine Rn.goto (t := 24) n4_10 (by decide) ?_
  exact t4_24 hd F  _ lv _ _ _  ok hn   h
def m4_0 (F : Nat) (v0 : Int64) (v2 : Int32) (hp : List mE) : Option (Int32 × List mE) :=
  if mc1 .lt v2 = true then
    m4_9 F hp
  else
    if mc2 .le v2 4 = true then
      m4_24 F (((v0 >>> ((12 * v2).toInt64 &&& 63)).toInt32) &&& 4095) hp
    else
      m4_9 F hp
theorem t4_0 {d c w n : Nat} (hd : 0 ≤ d) (F : Nat) : ∀ (v0 : Int64) (v2 : Int32) (lv : List (Nat × Value)) (hp : List mE) (v : Int32) (hp' : List mE), alk 0 lv = some (.long v0) → alk 2 lv = some (.int v2) → lvk n lv → hp.length = n → m4_0 F v0 v2 hp = some (v, hp') → Rn d 4 0 lv [] hp c w (some (.int v), hp', c, w) := by
  intro v0 v2 lv hp v hp' l0 l2 ok hn h
  unfold m4_0 at h
  refine Rn.iload_n n4_0 l2 ?_
  by_cases hc1 : mc1 .lt v2 = true
  · rw [if_pos hc1] at h
    refine Rn.c1t (t := 9) n4_1 (by decide) hc1 ?_
    exact t4_9 hd F  lv _ _ _  ok hn   h
  · rw [if_neg hc1] at h
    refine Rn.c1f (t := 9) n4_1 (by decide) hc1 ?_
    refine Rn.iload_n n4_4 l2 ?_
    refine Rn.ic (v := 4) n4_5 (by decide) ?_
    by_cases hc2 : mc2 .le v2 4 = true
    · rw [if_pos hc2] at h
      refine Rn.c2t (t := 13) n4_6 (by decide) hc2 ?_
      refine Rn.lload_n n4_13 l0 ?_
      refine Rn.bp (v := 12) n4_14 (by decide) ?_
      refine Rn.iload_n n4_16 l2 ?_
      refine Rn.p n4_17 rfl ?_
      refine Rn.p n4_18 rfl ?_
      refine Rn.p n4_19 rfl ?_
      refine Rn.sp (v := 4095) n4_20 (by decide) ?_
      refine Rn.p n4_23 rfl ?_
      exact t4_24 hd F  _ lv _ _ _  ok hn   h
    · rw [if_neg hc2] at h
      refine Rn.c2f (t := 13) n4_6 (by decide) hc2 ?_
      exact t4_9 hd F  lv _ _ _  ok hn   h
def e4 (F : Nat) (a0 : Int64) (a1 : Int32) (hp : List mE) : Option (Int32 × List mE) := m4_0 F a0 a1 hp
theorem c4 {d : Nat} (hd : 0 ≤ d) (F : Nat) (a0 : Int64) (a1 : Int32) (hp : List mE) (v : Int32) (hp' : List mE) (h : e4 F a0 a1 hp = some (v, hp')) : Rn d 4 0 (lv_args 0 [.long a0, .int a1]) [] hp 0 0 (some (.int v), hp', 0, 0) :=
  t4_0 (n := hp.length) hd F a0 a1 (lv_args 0 [.long a0, .int a1]) hp v hp' rfl rfl (lvk_args (okc rfl (okc rfl okn))) rfl  h
/-! MirrorRoots$Mirrors.copyRow -/
def m42_3 (F : Nat) : Nat → Nat → Nat → Int32 → Nat → Int32 → Int32 → List mE → Option (Unit × List mE)
  | 0, _, _, _, _, _, _, _ => none
  | f + 1, v0, v1, v2, v3, v4, v5, hp =>
    (gfi 3 0 hp v0).bind fun x1 =>
    if mc2 .ge v5 x1 = true then
      some ((), hp)
    else
      (rdJ hp v1 (v2 + v5)).bind fun x3 =>
      (wrJ hp v3 (v4 + v5) x3).bind fun hp4 =>
      m42_3 F f v0 v1 v2 v3 v4 (v5 + 1) hp4
theorem t42_3 {d c w n : Nat} (hd : 0 ≤ d) (F : Nat) : ∀ f : Nat, ∀ (v0 : Nat) (v1 : Nat) (v2 : Int32) (v3 : Nat) (v4 : Int32) (v5 : Int32) (lv : List (Nat × Value)) (hp : List mE) (v : Unit) (hp' : List mE), alk 0 lv = some (.ref v0) → alk 1 lv = some (.ref v1) → alk 2 lv = some (.int v2) → alk 3 lv = some (.ref v3) → alk 4 lv = some (.int v4) → alk 5 lv = some (.int v5) → lvk n lv → hp.length = n → v0 < n → v1 < n → v3 < n → m42_3 F f v0 v1 v2 v3 v4 v5 hp = some (v, hp') → Rn d 42 3 lv [] hp c w (none, hp', c, w) := by
  intro f
  induction f with
  | zero => intro v0 v1 v2 v3 v4 v5 lv hp v hp' l0 l1 l2 l3 l4 l5 ok hn r_v0 r_v1 r_v3 h; cases h
  | succ f hr3 =>
    intro v0 v1 v2 v3 v4 v5 lv hp v hp' l0 l1 l2 l3 l4 l5 ok hn r_v0 r_v1 r_v3 h
    unfold m42_3 at h
    refine Rn.iload n42_3 l5 ?_
    refine Rn.aload_n n42_5 l0 ?_
    obtain ⟨x1, hx1, h⟩ := Option.bind_eq_some_iff.mp h
    refine Rn.gf n42_6 mo42 fl3_18 (gfi_v hx1) ?_
    by_cases hc2 : mc2 .ge v5 x1 = true
    · rw [if_pos hc2] at h
      refine Rn.c2t (t := 31) n42_9 (by decide) hc2 ?_
      have e1 := (Prod.mk.inj (Option.some.inj h)).1
      have e2 := (Prod.mk.inj (Option.some.inj h)).2
      subst e1
      subst e2
      exact Rn.vret n42_31 mr42
    · rw [if_neg hc2] at h
      refine Rn.c2f (t := 31) n42_9 (by decide) hc2 ?_
      refine Rn.aload_n n42_12 l3 ?_
      refine Rn.iload n42_13 l4 ?_
      refine Rn.iload n42_15 l5 ?_
      refine Rn.p n42_17 rfl ?_
      refine Rn.aload_n n42_18 l1 ?_
      refine Rn.iload_n n42_19 l2 ?_
      refine Rn.iload n42_20 l5 ?_
      refine Rn.p n42_22 rfl ?_
      obtain ⟨x3, hx3, h⟩ := Option.bind_eq_some_iff.mp h
      refine Rn.lald n42_23 hx3 ?_
      obtain ⟨hp4, hhp4, h⟩ := Option.bind_eq_some_iff.mp h
      refine Rn.last n42_24 hhp4 ?_
      have hn := (wrJ_st (st := []) hhp4).2.trans hn
      refine Rn.ii (m := n) (u := 1) n42_25 ml42 (by decide) (by decide) l5 (fun lv l5 hk hok => ?_)
      have l0 := hk 0 _ (by decide) (Or.inl rfl) l0
      have l1 := hk 1 _ (by decide) (Or.inl rfl) l1
      have l2 := hk 2 _ (by decide) (Or.inl rfl) l2
      have l3 := hk 3 _ (by decide) (Or.inl rfl) l3
      have l4 := hk 4 _ (by decide) (Or.inl rfl) l4
      have ok := hok ok
      refine Rn.goto (t := 3) n42_28 (by decide) ?_
      exact hr3 _ _ _ _ _ _ lv _ _ _ l0 l1 l2 l3 l4 l5 ok hn r_v0 r_v1 r_v3  h
def m42_0 (F : Nat) (v0 : Nat) (v1 : Nat) (v2 : Int32) (v3 : Nat) (v4 : Int32) (hp : List mE) : Option (Unit × List mE) :=
  m42_3 F F v0 v1 v2 v3 v4 0 hp
theorem t42_0 {d c w n : Nat} (hd : 0 ≤ d) (F : Nat) : ∀ (v0 : Nat) (v1 : Nat) (v2 : Int32) (v3 : Nat) (v4 : Int32) (lv : List (Nat × Value)) (hp : List mE) (v : Unit) (hp' : List mE), alk 0 lv = some (.ref v0) → alk 1 lv = some (.ref v1) → alk 2 lv = some (.int v2) → alk 3 lv = some (.ref v3) → alk 4 lv = some (.int v4) → lvk n lv → hp.length = n → v0 < n → v1 < n → v3 < n → m42_0 F v0 v1 v2 v3 v4 hp = some (v, hp') → Rn d 42 0 lv [] hp c w (none, hp', c, w) := by
  intro v0 v1 v2 v3 v4 lv hp v hp' l0 l1 l2 l3 l4 ok hn r_v0 r_v1 r_v3 h
  unfold m42_0 at h
  refine Rn.ic (v := 0) n42_0 (by decide) ?_
  refine Rn.is (m := n) n42_1 ml42 (by decide) (fun lv l5 hk hok => ?_)
  have l0 := hk 0 _ (by decide) (Or.inl rfl) l0
  have l1 := hk 1 _ (by decide) (Or.inl rfl) l1
  have l2 := hk 2 _ (by decide) (Or.inl rfl) l2
  have l3 := hk 3 _ (by decide) (Or.inl rfl) l3
  have l4 := hk 4 _ (by decide) (Or.inl rfl) l4
  have ok := hok ok
  exact t42_3 hd F  F _ _ _ _ _ _ lv _ _ _ l0 l1 l2 l3 l4 l5 ok hn r_v0 r_v1 r_v3  h
def e42 (F : Nat) (a0 : Nat) (a1 : Nat) (a2 : Int32) (a3 : Nat) (a4 : Int32) (hp : List mE) : Option (Unit × List mE) := m42_0 F a0 a1 a2 a3 a4 hp
theorem c42 {d : Nat} (hd : 0 ≤ d) (F : Nat) (a0 : Nat) (a1 : Nat) (a2 : Int32) (a3 : Nat) (a4 : Int32) (hp : List mE) (v : Unit) (hp' : List mE) (ra0 : a0 < hp.length) (ra1 : a1 < hp.length) (ra3 : a3 < hp.length) (h : e42 F a0 a1 a2 a3 a4 hp = some (v, hp')) : Rn d 42 0 (lv_args 0 [.ref a0, .ref a1, .int a2, .ref a3, .int a4]) [] hp 0 0 (none, hp', 0, 0) :=
  t42_0 (n := hp.length) hd F a0 a1 a2 a3 a4 (lv_args 0 [.ref a0, .ref a1, .int a2, .ref a3, .int a4]) hp v hp' rfl rfl rfl rfl rfl (lvk_args (okc (okr ra0) (okc (okr ra1) (okc rfl (okc (okr ra3) (okc rfl okn)))))) rfl ra0 ra1 ra3 h
/-! MirrorRoots$Shelf.isUsed -/
def m65_30 (F : Nat) (t0 : Int32) (hp : List mE) : Option (Int32 × List mE) :=
  if t0 = 0 ∨ t0 = 1 then some (t0, hp) else none
theorem t65_30 {d c w n : Nat} (hd : 0 ≤ d) (F : Nat) : ∀ (t0 : Int32) (lv : List (Nat × Value)) (hp : List mE) (v : Int32) (hp' : List mE), lvk n lv → hp.length = n → m65_30 F t0 hp = some (v, hp') → Rn d 65 30 lv [.int t0] hp c w (some (.int v), hp', c, w) := by
  intro t0 lv hp v hp' ok hn h
  unfold m65_30 at h
  by_cases hz1 : t0 = 0 ∨ t0 = 1
  · rw [if_pos hz1] at h
    have e1 := (Prod.mk.inj (Option.some.inj h)).1
    have e2 := (Prod.mk.inj (Option.some.inj h)).2
    subst e1
    subst e2
    exact Rn.zret n65_30 mr65 hz1
  · rw [if_neg hz1] at h; cases h
def m65_29 (F : Nat) (hp : List mE) : Option (Int32 × List mE) :=
  m65_30 F 0 hp
theorem t65_29 {d c w n : Nat} (hd : 0 ≤ d) (F : Nat) : ∀ (lv : List (Nat × Value)) (hp : List mE) (v : Int32) (hp' : List mE), lvk n lv → hp.length = n → m65_29 F hp = some (v, hp') → Rn d 65 29 lv [] hp c w (some (.int v), hp', c, w) := by
  intro lv hp v hp' ok hn h
  unfold m65_29 at h
  refine Rn.ic (v := 0) n65_29 (by decide) ?_
  exact t65_30 hd F  _ lv _ _ _  ok hn   h
def m65_0 (F : Nat) (v0 : Nat) (v1 : Int32) (hp : List mE) : Option (Int32 × List mE) :=
  (gfr 6 5 hp v0).bind fun x1 =>
  (rdI hp x1 v1).bind fun x2 =>
  (gfi 6 2 hp v0).bind fun x3 =>
  if mc2 .ge x2 x3 = true then
    m65_29 F hp
  else
    (gfr 6 6 hp v0).bind fun x5 =>
    (rdI hp x5 x2).bind fun x6 =>
    if mc2 .ne x6 v1 = true then
      m65_29 F hp
    else
      m65_30 F 1 hp
theorem t65_0 {d c w n : Nat} (hd : 0 ≤ d) (F : Nat) : ∀ (v0 : Nat) (v1 : Int32) (lv : List (Nat × Value)) (hp : List mE) (v : Int32) (hp' : List mE), alk 0 lv = some (.ref v0) → alk 1 lv = some (.int v1) → lvk n lv → hp.length = n → v0 < n → m65_0 F v0 v1 hp = some (v, hp') → Rn d 65 0 lv [] hp c w (some (.int v), hp', c, w) := by
  intro v0 v1 lv hp v hp' l0 l1 ok hn r_v0 h
  unfold m65_0 at h
  refine Rn.aload_n n65_0 l0 ?_
  obtain ⟨x1, hx1, h⟩ := Option.bind_eq_some_iff.mp h
  refine Rn.gf n65_1 mo65 fl6_30 (gfr_v hx1).1 ?_
  have r_x1 : x1 < n := by rw [← hn]; exact (gfr_v hx1).2
  refine Rn.iload_n n65_4 l1 ?_
  obtain ⟨x2, hx2, h⟩ := Option.bind_eq_some_iff.mp h
  refine Rn.iald n65_5 hx2 ?_
  refine Rn.isn (m := n) n65_6 rfl ml65 (by decide) (fun lv l2 hk hok => ?_)
  have l0 := hk 0 _ (by decide) (Or.inl rfl) l0
  have l1 := hk 1 _ (by decide) (Or.inl rfl) l1
  have ok := hok ok
  refine Rn.iload_n n65_7 l2 ?_
  refine Rn.aload_n n65_8 l0 ?_
  obtain ⟨x3, hx3, h⟩ := Option.bind_eq_some_iff.mp h
  refine Rn.gf n65_9 mo65 fl6_9 (gfi_v hx3) ?_
  by_cases hc4 : mc2 .ge x2 x3 = true
  · rw [if_pos hc4] at h
    refine Rn.c2t (t := 29) n65_12 (by decide) hc4 ?_
    exact t65_29 hd F  lv _ _ _  ok hn   h
  · rw [if_neg hc4] at h
    refine Rn.c2f (t := 29) n65_12 (by decide) hc4 ?_
    refine Rn.aload_n n65_15 l0 ?_
    obtain ⟨x5, hx5, h⟩ := Option.bind_eq_some_iff.mp h
    refine Rn.gf n65_16 mo65 fl6_33 (gfr_v hx5).1 ?_
    have r_x5 : x5 < n := by rw [← hn]; exact (gfr_v hx5).2
    refine Rn.iload_n n65_19 l2 ?_
    obtain ⟨x6, hx6, h⟩ := Option.bind_eq_some_iff.mp h
    refine Rn.iald n65_20 hx6 ?_
    refine Rn.iload_n n65_21 l1 ?_
    by_cases hc7 : mc2 .ne x6 v1 = true
    · rw [if_pos hc7] at h
      refine Rn.c2t (t := 29) n65_22 (by decide) hc7 ?_
      exact t65_29 hd F  lv _ _ _  ok hn   h
    · rw [if_neg hc7] at h
      refine Rn.c2f (t := 29) n65_22 (by decide) hc7 ?_
      refine Rn.ic (v := 1) n65_25 (by decide) ?_
      refine Rn.goto (t := 30) n65_26 (by decide) ?_
      exact t65_30 hd F  _ lv _ _ _  ok hn   h
def e65 (F : Nat) (a0 : Nat) (a1 : Int32) (hp : List mE) : Option (Int32 × List mE) := m65_0 F a0 a1 hp
theorem c65 {d : Nat} (hd : 0 ≤ d) (F : Nat) (a0 : Nat) (a1 : Int32) (hp : List mE) (v : Int32) (hp' : List mE) (ra0 : a0 < hp.length) (h : e65 F a0 a1 hp = some (v, hp')) : Rn d 65 0 (lv_args 0 [.ref a0, .int a1]) [] hp 0 0 (some (.int v), hp', 0, 0) :=
  t65_0 (n := hp.length) hd F a0 a1 (lv_args 0 [.ref a0, .int a1]) hp v hp' rfl rfl (lvk_args (okc (okr ra0) (okc rfl okn))) rfl ra0 h
/-! MirrorRoots$Mirrors.sameRow -/
def m43_3 (F : Nat) : Nat → Nat → Nat → Int32 → Nat → Int32 → Int32 → List mE → Option (Int32 × List mE)
  | 0, _, _, _, _, _, _, _ => none
  | f + 1, v0, v1, v2, v3, v4, v5, hp =>
    (gfi 3 0 hp v0).bind fun x1 =>
    if mc2 .ge v5 x1 = true then
      some (1, hp)
    else
      (rdJ hp v1 (v2 + v5)).bind fun x3 =>
      (rdJ hp v3 (v4 + v5)).bind fun x4 =>
      if mc1 .eq (lg_cmp x3 x4) = true then
        m43_3 F f v0 v1 v2 v3 v4 (v5 + 1) hp
      else
        some (0, hp)
theorem t43_3 {d c w n : Nat} (hd : 0 ≤ d) (F : Nat) : ∀ f : Nat, ∀ (v0 : Nat) (v1 : Nat) (v2 : Int32) (v3 : Nat) (v4 : Int32) (v5 : Int32) (lv : List (Nat × Value)) (hp : List mE) (v : Int32) (hp' : List mE), alk 0 lv = some (.ref v0) → alk 1 lv = some (.ref v1) → alk 2 lv = some (.int v2) → alk 3 lv = some (.ref v3) → alk 4 lv = some (.int v4) → alk 5 lv = some (.int v5) → lvk n lv → hp.length = n → v0 < n → v1 < n → v3 < n → m43_3 F f v0 v1 v2 v3 v4 v5 hp = some (v, hp') → Rn d 43 3 lv [] hp c w (some (.int v), hp', c, w) := by
  intro f
  induction f with
  | zero => intro v0 v1 v2 v3 v4 v5 lv hp v hp' l0 l1 l2 l3 l4 l5 ok hn r_v0 r_v1 r_v3 h; cases h
  | succ f hr3 =>
    intro v0 v1 v2 v3 v4 v5 lv hp v hp' l0 l1 l2 l3 l4 l5 ok hn r_v0 r_v1 r_v3 h
    unfold m43_3 at h
    refine Rn.iload n43_3 l5 ?_
    refine Rn.aload_n n43_5 l0 ?_
    obtain ⟨x1, hx1, h⟩ := Option.bind_eq_some_iff.mp h
    refine Rn.gf n43_6 mo43 fl3_18 (gfi_v hx1) ?_
    by_cases hc2 : mc2 .ge v5 x1 = true
    · rw [if_pos hc2] at h
      refine Rn.c2t (t := 37) n43_9 (by decide) hc2 ?_
      refine Rn.ic (v := 1) n43_37 (by decide) ?_
      have e1 := (Prod.mk.inj (Option.some.inj h)).1
      have e2 := (Prod.mk.inj (Option.some.inj h)).2
      subst e1
      subst e2
      exact Rn.zret n43_38 mr43 (Or.inr rfl)
    · rw [if_neg hc2] at h
      refine Rn.c2f (t := 37) n43_9 (by decide) hc2 ?_
      refine Rn.aload_n n43_12 l1 ?_
      refine Rn.iload_n n43_13 l2 ?_
      refine Rn.iload n43_14 l5 ?_
      refine Rn.p n43_16 rfl ?_
      obtain ⟨x3, hx3, h⟩ := Option.bind_eq_some_iff.mp h
      refine Rn.lald n43_17 hx3 ?_
      refine Rn.aload_n n43_18 l3 ?_
      refine Rn.iload n43_19 l4 ?_
      refine Rn.iload n43_21 l5 ?_
      refine Rn.p n43_23 rfl ?_
      obtain ⟨x4, hx4, h⟩ := Option.bind_eq_some_iff.mp h
      refine Rn.lald n43_24 hx4 ?_
      refine Rn.p n43_25 rfl ?_
      by_cases hc5 : mc1 .eq (lg_cmp x3 x4) = true
      · rw [if_pos hc5] at h
        refine Rn.c1t (t := 31) n43_26 (by decide) hc5 ?_
        refine Rn.ii (m := n) (u := 1) n43_31 ml43 (by decide) (by decide) l5 (fun lv l5 hk hok => ?_)
        have l0 := hk 0 _ (by decide) (Or.inl rfl) l0
        have l1 := hk 1 _ (by decide) (Or.inl rfl) l1
        have l2 := hk 2 _ (by decide) (Or.inl rfl) l2
        have l3 := hk 3 _ (by decide) (Or.inl rfl) l3
        have l4 := hk 4 _ (by decide) (Or.inl rfl) l4
        have ok := hok ok
        refine Rn.goto (t := 3) n43_34 (by decide) ?_
        exact hr3 _ _ _ _ _ _ lv _ _ _ l0 l1 l2 l3 l4 l5 ok hn r_v0 r_v1 r_v3  h
      · rw [if_neg hc5] at h
        refine Rn.c1f (t := 31) n43_26 (by decide) hc5 ?_
        refine Rn.ic (v := 0) n43_29 (by decide) ?_
        have e1 := (Prod.mk.inj (Option.some.inj h)).1
        have e2 := (Prod.mk.inj (Option.some.inj h)).2
        subst e1
        subst e2
        exact Rn.zret n43_30 mr43 (Or.inl rfl)
def m43_0 (F : Nat) (v0 : Nat) (v1 : Nat) (v2 : Int32) (v3 : Nat) (v4 : Int32) (hp : List mE) : Option (Int32 × List mE) :=
  m43_3 F F v0 v1 v2 v3 v4 0 hp
theorem t43_0 {d c w n : Nat} (hd : 0 ≤ d) (F : Nat) : ∀ (v0 : Nat) (v1 : Nat) (v2 : Int32) (v3 : Nat) (v4 : Int32) (lv : List (Nat × Value)) (hp : List mE) (v : Int32) (hp' : List mE), alk 0 lv = some (.ref v0) → alk 1 lv = some (.ref v1) → alk 2 lv = some (.int v2) → alk 3 lv = some (.ref v3) → alk 4 lv = some (.int v4) → lvk n lv → hp.length = n → v0 < n → v1 < n → v3 < n → m43_0 F v0 v1 v2 v3 v4 hp = some (v, hp') → Rn d 43 0 lv [] hp c w (some (.int v), hp', c, w) := by
  intro v0 v1 v2 v3 v4 lv hp v hp' l0 l1 l2 l3 l4 ok hn r_v0 r_v1 r_v3 h
  unfold m43_0 at h
  refine Rn.ic (v := 0) n43_0 (by decide) ?_
  refine Rn.is (m := n) n43_1 ml43 (by decide) (fun lv l5 hk hok => ?_)
  have l0 := hk 0 _ (by decide) (Or.inl rfl) l0
  have l1 := hk 1 _ (by decide) (Or.inl rfl) l1
  have l2 := hk 2 _ (by decide) (Or.inl rfl) l2
  have l3 := hk 3 _ (by decide) (Or.inl rfl) l3
  have l4 := hk 4 _ (by decide) (Or.inl rfl) l4
  have ok := hok ok
  exact t43_3 hd F  F _ _ _ _ _ _ lv _ _ _ l0 l1 l2 l3 l4 l5 ok hn r_v0 r_v1 r_v3  h
def e43 (F : Nat) (a0 : Nat) (a1 : Nat) (a2 : Int32) (a3 : Nat) (a4 : Int32) (hp : List mE) : Option (Int32 × List mE) := m43_0 F a0 a1 a2 a3 a4 hp
theorem c43 {d : Nat} (hd : 0 ≤ d) (F : Nat) (a0 : Nat) (a1 : Nat) (a2 : Int32) (a3 : Nat) (a4 : Int32) (hp : List mE) (v : Int32) (hp' : List mE) (ra0 : a0 < hp.length) (ra1 : a1 < hp.length) (ra3 : a3 < hp.length) (h : e43 F a0 a1 a2 a3 a4 hp = some (v, hp')) : Rn d 43 0 (lv_args 0 [.ref a0, .ref a1, .int a2, .ref a3, .int a4]) [] hp 0 0 (some (.int v), hp', 0, 0) :=
  t43_0 (n := hp.length) hd F a0 a1 a2 a3 a4 (lv_args 0 [.ref a0, .ref a1, .int a2, .ref a3, .int a4]) hp v hp' rfl rfl rfl rfl rfl (lvk_args (okc (okr ra0) (okc (okr ra1) (okc rfl (okc (okr ra3) (okc rfl okn)))))) rfl ra0 ra1 ra3 h
/-! MirrorRoots$Shelf.hashOf -/
def m67_5 (F : Nat) : Nat → Nat → Nat → Int64 → Int32 → List mE → Option (Int32 × List mE)
  | 0, _, _, _, _, _ => none
  | f + 1, v0, v1, v2, v4, hp =>
    (gfr 6 0 hp v0).bind fun x1 =>
    (gfi 3 0 hp x1).bind fun x2 =>
    if mc2 .ge v4 x2 = true then
      (gfr 6 5 hp v0).bind fun x4 =>
      (alnR hp x4).bind fun x5 =>
      some (((v2 ^^^ ((v2.toUInt64 >>> ((32 : Int32).toInt64.toUInt64 &&& Int64.toUInt64 63)).toInt64)).toInt32) &&& (x5 - 1), hp)
    else
      (rdJ hp v1 v4).bind fun x6 =>
      m67_5 F f v0 v1 ((v2 * ((-7046029254386353131))) + x6) (v4 + 1) hp
theorem t67_5 {d c w n : Nat} (hd : 0 ≤ d) (F : Nat) : ∀ f : Nat, ∀ (v0 : Nat) (v1 : Nat) (v2 : Int64) (v4 : Int32) (lv : List (Nat × Value)) (hp : List mE) (v : Int32) (hp' : List mE), alk 0 lv = some (.ref v0) → alk 1 lv = some (.ref v1) → alk 2 lv = some (.long v2) → alk 4 lv = some (.int v4) → lvk n lv → hp.length = n → v0 < n → v1 < n → m67_5 F f v0 v1 v2 v4 hp = some (v, hp') → Rn d 67 5 lv [] hp c w (some (.int v), hp', c, w) := by
  intro f
  induction f with
  | zero => intro v0 v1 v2 v4 lv hp v hp' l0 l1 l2 l4 ok hn r_v0 r_v1 h; cases h
  | succ f hr5 =>
    intro v0 v1 v2 v4 lv hp v hp' l0 l1 l2 l4 ok hn r_v0 r_v1 h
    unfold m67_5 at h
    refine Rn.iload n67_5 l4 ?_
    refine Rn.aload_n n67_7 l0 ?_
    obtain ⟨x1, hx1, h⟩ := Option.bind_eq_some_iff.mp h
    refine Rn.gf n67_8 mo67 fl6_15 (gfr_v hx1).1 ?_
    have r_x1 : x1 < n := by rw [← hn]; exact (gfr_v hx1).2
    obtain ⟨x2, hx2, h⟩ := Option.bind_eq_some_iff.mp h
    refine Rn.gf n67_11 mo67 fl6_61 (gfi_v hx2) ?_
    by_cases hc3 : mc2 .ge v4 x2 = true
    · rw [if_pos hc3] at h
      refine Rn.c2t (t := 34) n67_14 (by decide) hc3 ?_
      refine Rn.lload_n n67_34 l2 ?_
      refine Rn.lload_n n67_35 l2 ?_
      refine Rn.bp (v := 32) n67_36 (by decide) ?_
      refine Rn.p n67_38 rfl ?_
      refine Rn.p n67_39 rfl ?_
      refine Rn.lsn (m := n) n67_40 rfl ml67 (by decide) (fun lv l2 hk hok => ?_)
      have l0 := hk 0 _ (by decide) (by decide) (Or.inl rfl) l0
      have l1 := hk 1 _ (by decide) (by decide) (Or.inl rfl) l1
      have l4 := hk 4 _ (by decide) (by decide) (Or.inl rfl) l4
      have ok := hok ok
      refine Rn.lload_n n67_41 l2 ?_
      refine Rn.p n67_42 rfl ?_
      refine Rn.aload_n n67_43 l0 ?_
      obtain ⟨x4, hx4, h⟩ := Option.bind_eq_some_iff.mp h
      refine Rn.gf n67_44 mo67 fl6_30 (gfr_v hx4).1 ?_
      have r_x4 : x4 < n := by rw [← hn]; exact (gfr_v hx4).2
      obtain ⟨x5, hx5, h⟩ := Option.bind_eq_some_iff.mp h
      refine Rn.alen n67_47 hx5 ?_
      refine Rn.ic (v := 1) n67_48 (by decide) ?_
      refine Rn.p n67_49 rfl ?_
      refine Rn.p n67_50 rfl ?_
      have e1 := (Prod.mk.inj (Option.some.inj h)).1
      have e2 := (Prod.mk.inj (Option.some.inj h)).2
      subst e1
      subst e2
      exact Rn.iret n67_51 mr67
    · rw [if_neg hc3] at h
      refine Rn.c2f (t := 34) n67_14 (by decide) hc3 ?_
      refine Rn.lload_n n67_17 l2 ?_
      refine Rn.ldc2 n67_18 mo67 cL6_62 ?_
      refine Rn.p n67_21 rfl ?_
      refine Rn.aload_n n67_22 l1 ?_
      refine Rn.iload n67_23 l4 ?_
      obtain ⟨x6, hx6, h⟩ := Option.bind_eq_some_iff.mp h
      refine Rn.lald n67_25 hx6 ?_
      refine Rn.p n67_26 rfl ?_
      refine Rn.lsn (m := n) n67_27 rfl ml67 (by decide) (fun lv l2 hk hok => ?_)
      have l0 := hk 0 _ (by decide) (by decide) (Or.inl rfl) l0
      have l1 := hk 1 _ (by decide) (by decide) (Or.inl rfl) l1
      have l4 := hk 4 _ (by decide) (by decide) (Or.inl rfl) l4
      have ok := hok ok
      refine Rn.ii (m := n) (u := 1) n67_28 ml67 (by decide) (by decide) l4 (fun lv l4 hk hok => ?_)
      have l0 := hk 0 _ (by decide) (Or.inl rfl) l0
      have l1 := hk 1 _ (by decide) (Or.inl rfl) l1
      have l2 := hk 2 _ (by decide) (Or.inr (by decide)) l2
      have ok := hok ok
      refine Rn.goto (t := 5) n67_31 (by decide) ?_
      exact hr5 _ _ _ _ lv _ _ _ l0 l1 l2 l4 ok hn r_v0 r_v1  h
def m67_0 (F : Nat) (v0 : Nat) (v1 : Nat) (hp : List mE) : Option (Int32 × List mE) :=
  m67_5 F F v0 v1 0 0 hp
theorem t67_0 {d c w n : Nat} (hd : 0 ≤ d) (F : Nat) : ∀ (v0 : Nat) (v1 : Nat) (lv : List (Nat × Value)) (hp : List mE) (v : Int32) (hp' : List mE), alk 0 lv = some (.ref v0) → alk 1 lv = some (.ref v1) → lvk n lv → hp.length = n → v0 < n → v1 < n → m67_0 F v0 v1 hp = some (v, hp') → Rn d 67 0 lv [] hp c w (some (.int v), hp', c, w) := by
  intro v0 v1 lv hp v hp' l0 l1 ok hn r_v0 r_v1 h
  unfold m67_0 at h
  refine Rn.lc (v := 0) n67_0 (by decide) ?_
  refine Rn.lsn (m := n) n67_1 rfl ml67 (by decide) (fun lv l2 hk hok => ?_)
  have l0 := hk 0 _ (by decide) (by decide) (Or.inl rfl) l0
  have l1 := hk 1 _ (by decide) (by decide) (Or.inl rfl) l1
  have ok := hok ok
  refine Rn.ic (v := 0) n67_2 (by decide) ?_
  refine Rn.is (m := n) n67_3 ml67 (by decide) (fun lv l4 hk hok => ?_)
  have l0 := hk 0 _ (by decide) (Or.inl rfl) l0
  have l1 := hk 1 _ (by decide) (Or.inl rfl) l1
  have l2 := hk 2 _ (by decide) (Or.inr (by decide)) l2
  have ok := hok ok
  exact t67_5 hd F  F _ _ _ _ lv _ _ _ l0 l1 l2 l4 ok hn r_v0 r_v1  h
def e67 (F : Nat) (a0 : Nat) (a1 : Nat) (hp : List mE) : Option (Int32 × List mE) := m67_0 F a0 a1 hp
theorem c67 {d : Nat} (hd : 0 ≤ d) (F : Nat) (a0 : Nat) (a1 : Nat) (hp : List mE) (v : Int32) (hp' : List mE) (ra0 : a0 < hp.length) (ra1 : a1 < hp.length) (h : e67 F a0 a1 hp = some (v, hp')) : Rn d 67 0 (lv_args 0 [.ref a0, .ref a1]) [] hp 0 0 (some (.int v), hp', 0, 0) :=
  t67_0 (n := hp.length) hd F a0 a1 (lv_args 0 [.ref a0, .ref a1]) hp v hp' rfl rfl (lvk_args (okc (okr ra0) (okc (okr ra1) okn))) rfl ra0 ra1 h
/-! MirrorRoots$Shelf.slotFor -/
def m66_69 (F : Nat) (rc8 : Nat → Nat → Int32 → Int32 → List mE → Option (Int32 × List mE)) (v0 : Nat) (v1 : Nat) (v3 : Int32) (t0 : Int32) (hp : List mE) : Option (Int32 × List mE) :=
  rc8 v0 v1 t0 (v3 + 1) hp
theorem t66_69 {d c w n : Nat} (hd : 1 ≤ d) (F : Nat) {rc8 : Nat → Nat → Int32 → Int32 → List mE → Option (Int32 × List mE)} (hr8 : ∀ (v0 : Nat) (v1 : Nat) (v2 : Int32) (v3 : Int32) (lv : List (Nat × Value)) (hp : List mE) (v : Int32) (hp' : List mE), alk 0 lv = some (.ref v0) → alk 1 lv = some (.ref v1) → alk 2 lv = some (.int v2) → alk 3 lv = some (.int v3) → lvk n lv → hp.length = n → v0 < n → v1 < n → rc8 v0 v1 v2 v3 hp = some (v, hp') → Rn d 66 8 lv [] hp c w (some (.int v), hp', c, w)) : ∀ (v0 : Nat) (v1 : Nat) (v3 : Int32) (t0 : Int32) (lv : List (Nat × Value)) (hp : List mE) (v : Int32) (hp' : List mE), alk 0 lv = some (.ref v0) → alk 1 lv = some (.ref v1) → alk 3 lv = some (.int v3) → lvk n lv → hp.length = n → v0 < n → v1 < n → m66_69 F rc8 v0 v1 v3 t0 hp = some (v, hp') → Rn d 66 69 lv [.int t0] hp c w (some (.int v), hp', c, w) := by
  obtain ⟨d', rfl⟩ : ∃ d', d = d' + 1 := ⟨d - 1, by omega⟩
  intro v0 v1 v3 t0 lv hp v hp' l0 l1 l3 ok hn r_v0 r_v1 h
  unfold m66_69 at h
  refine Rn.isn (m := n) n66_69 rfl ml66 (by decide) (fun lv l2 hk hok => ?_)
  have l0 := hk 0 _ (by decide) (Or.inl rfl) l0
  have l1 := hk 1 _ (by decide) (Or.inl rfl) l1
  have l3 := hk 3 _ (by decide) (Or.inl rfl) l3
  have ok := hok ok
  refine Rn.ii (m := n) (u := 1) n66_70 ml66 (by decide) (by decide) l3 (fun lv l3 hk hok => ?_)
  have l0 := hk 0 _ (by decide) (Or.inl rfl) l0
  have l1 := hk 1 _ (by decide) (Or.inl rfl) l1
  have l2 := hk 2 _ (by decide) (Or.inl rfl) l2
  have ok := hok ok
  refine Rn.goto (t := 8) n66_73 (by decide) ?_
  exact hr8 _ _ _ _ lv _ _ _ l0 l1 l2 l3 ok hn r_v0 r_v1  h
def m66_49 (F : Nat) (v2 : Int32) (hp : List mE) : Option (Int32 × List mE) :=
  some (v2, hp)
theorem t66_49 {d c w n : Nat} (hd : 1 ≤ d) (F : Nat) : ∀ (v2 : Int32) (lv : List (Nat × Value)) (hp : List mE) (v : Int32) (hp' : List mE), alk 2 lv = some (.int v2) → lvk n lv → hp.length = n → m66_49 F v2 hp = some (v, hp') → Rn d 66 49 lv [] hp c w (some (.int v), hp', c, w) := by
  obtain ⟨d', rfl⟩ : ∃ d', d = d' + 1 := ⟨d - 1, by omega⟩
  intro v2 lv hp v hp' l2 ok hn h
  unfold m66_49 at h
  refine Rn.iload_n n66_49 l2 ?_
  have e1 := (Prod.mk.inj (Option.some.inj h)).1
  have e2 := (Prod.mk.inj (Option.some.inj h)).2
  subst e1
  subst e2
  exact Rn.iret n66_50 mr66
def m66_8 (F : Nat) : Nat → Nat → Nat → Int32 → Int32 → List mE → Option (Int32 × List mE)
  | 0, _, _, _, _, _ => none
  | f + 1, v0, v1, v2, v3, hp =>
    (gfr 6 5 hp v0).bind fun x1 =>
    (alnR hp x1).bind fun x2 =>
    if mc2 .ge v3 x2 = true then
      some ((-1), hp)
    else
      (rcv 6 hp v0).bind fun u5 =>
      (e65 F v0 v2 hp).bind fun q4 =>
      if mc1 .eq q4.1 = true then
        m66_49 F v2 q4.2
      else
        (gfr 6 0 q4.2 v0).bind fun x7 =>
        (gfr 6 3 q4.2 v0).bind fun x8 =>
        (gfr 6 5 q4.2 v0).bind fun x9 =>
        (rdI q4.2 x9 v2).bind fun x10 =>
        (rcv 3 q4.2 x7).bind fun u12 =>
        (e43 F x7 v1 0 x8 (x10 * 5) q4.2).bind fun q11 =>
        if mc1 .eq q11.1 = true then
          (gfr 6 5 q11.2 v0).bind fun x14 =>
          (alnR q11.2 x14).bind fun x15 =>
          if mc2 .ge (v2 + 1) x15 = true then
            m66_69 F (m66_8 F f) v0 v1 v3 0 q11.2
          else
            m66_69 F (m66_8 F f) v0 v1 v3 (v2 + 1) q11.2
        else
          m66_49 F v2 q11.2
theorem t66_8 {d c w n : Nat} (hd : 1 ≤ d) (F : Nat) : ∀ f : Nat, ∀ (v0 : Nat) (v1 : Nat) (v2 : Int32) (v3 : Int32) (lv : List (Nat × Value)) (hp : List mE) (v : Int32) (hp' : List mE), alk 0 lv = some (.ref v0) → alk 1 lv = some (.ref v1) → alk 2 lv = some (.int v2) → alk 3 lv = some (.int v3) → lvk n lv → hp.length = n → v0 < n → v1 < n → m66_8 F f v0 v1 v2 v3 hp = some (v, hp') → Rn d 66 8 lv [] hp c w (some (.int v), hp', c, w) := by
  obtain ⟨d', rfl⟩ : ∃ d', d = d' + 1 := ⟨d - 1, by omega⟩
  intro f
  induction f with
  | zero => intro v0 v1 v2 v3 lv hp v hp' l0 l1 l2 l3 ok hn r_v0 r_v1 h; cases h
  | succ f hr8 =>
    intro v0 v1 v2 v3 lv hp v hp' l0 l1 l2 l3 ok hn r_v0 r_v1 h
    unfold m66_8 at h
    refine Rn.iload_n n66_8 l3 ?_
    refine Rn.aload_n n66_9 l0 ?_
    obtain ⟨x1, hx1, h⟩ := Option.bind_eq_some_iff.mp h
    refine Rn.gf n66_10 mo66 fl6_30 (gfr_v hx1).1 ?_
    have r_x1 : x1 < n := by rw [← hn]; exact (gfr_v hx1).2
    obtain ⟨x2, hx2, h⟩ := Option.bind_eq_some_iff.mp h
    refine Rn.alen n66_13 hx2 ?_
    by_cases hc3 : mc2 .ge v3 x2 = true
    · rw [if_pos hc3] at h
      refine Rn.c2t (t := 76) n66_14 (by decide) hc3 ?_
      refine Rn.ic (v := (-1)) n66_76 (by decide) ?_
      have e1 := (Prod.mk.inj (Option.some.inj h)).1
      have e2 := (Prod.mk.inj (Option.some.inj h)).2
      subst e1
      subst e2
      exact Rn.iret n66_77 mr66
    · rw [if_neg hc3] at h
      refine Rn.c2f (t := 76) n66_14 (by decide) hc3 ?_
      refine Rn.aload_n n66_17 l0 ?_
      refine Rn.iload_n n66_18 l2 ?_
      obtain ⟨u5, hu5, h⟩ := Option.bind_eq_some_iff.mp h
      obtain ⟨q4, hq4, h⟩ := Option.bind_eq_some_iff.mp h
      have gq4 := c65 (d := d') (by omega) F _ _ _ _ _ (by rw [hn]; exact r_v0) hq4
      refine Rn.cv (As := [.int v2]) (rr := []) n66_19 mo66 mm6_40 (by decide) mq65 rfl rfl rfl rfl (by rw [mo65]; exact hu5) (Nat.le_of_ble_eq_true rfl) (by rw [hn]; exact (okc (okr r_v0) (okc rfl okn))) (by rw [hn]; exact okn) (by rw [hn]; exact ok) (by rw [ml65]; exact Nat.le_of_ble_eq_true rfl) gq4 ?_
      have hn := (Rn.len gq4).trans hn
      show Rn _ 66 22 lv [.int q4.1] q4.2 c w _
      by_cases hc6 : mc1 .eq q4.1 = true
      · rw [if_pos hc6] at h
        refine Rn.c1t (t := 49) n66_22 (by decide) hc6 ?_
        exact t66_49 hd F  _ lv _ _ _ l2 ok hn   h
      · rw [if_neg hc6] at h
        refine Rn.c1f (t := 49) n66_22 (by decide) hc6 ?_
        refine Rn.aload_n n66_25 l0 ?_
        obtain ⟨x7, hx7, h⟩ := Option.bind_eq_some_iff.mp h
        refine Rn.gf n66_26 mo66 fl6_15 (gfr_v hx7).1 ?_
        have r_x7 : x7 < n := by rw [← hn]; exact (gfr_v hx7).2
        refine Rn.aload_n n66_29 l1 ?_
        refine Rn.ic (v := 0) n66_30 (by decide) ?_
        refine Rn.aload_n n66_31 l0 ?_
        obtain ⟨x8, hx8, h⟩ := Option.bind_eq_some_iff.mp h
        refine Rn.gf n66_32 mo66 fl6_22 (gfr_v hx8).1 ?_
        have r_x8 : x8 < n := by rw [← hn]; exact (gfr_v hx8).2
        refine Rn.aload_n n66_35 l0 ?_
        obtain ⟨x9, hx9, h⟩ := Option.bind_eq_some_iff.mp h
        refine Rn.gf n66_36 mo66 fl6_30 (gfr_v hx9).1 ?_
        have r_x9 : x9 < n := by rw [← hn]; exact (gfr_v hx9).2
        refine Rn.iload_n n66_39 l2 ?_
        obtain ⟨x10, hx10, h⟩ := Option.bind_eq_some_iff.mp h
        refine Rn.iald n66_40 hx10 ?_
        refine Rn.ic (v := 5) n66_41 (by decide) ?_
        refine Rn.p n66_42 rfl ?_
        obtain ⟨u12, hu12, h⟩ := Option.bind_eq_some_iff.mp h
        obtain ⟨q11, hq11, h⟩ := Option.bind_eq_some_iff.mp h
        have gq11 := c43 (d := d') (by omega) F _ _ _ _ _ _ _ _ (by rw [hn]; exact r_x7) (by rw [hn]; exact r_v1) (by rw [hn]; exact r_x8) hq11
        refine Rn.cv (As := [.ref v1, .int 0, .ref x8, .int (x10 * 5)]) (rr := []) n66_43 mo66 mm6_57 (by decide) mq43 rfl rfl rfl rfl (by rw [mo43]; exact hu12) (Nat.le_of_ble_eq_true rfl) (by rw [hn]; exact (okc (okr r_x7) (okc (okr r_v1) (okc rfl (okc (okr r_x8) (okc rfl okn)))))) (by rw [hn]; exact okn) (by rw [hn]; exact ok) (by rw [ml43]; exact Nat.le_of_ble_eq_true rfl) gq11 ?_
        have hn := (Rn.len gq11).trans hn
        show Rn _ 66 46 lv [.int q11.1] q11.2 c w _
        by_cases hc13 : mc1 .eq q11.1 = true
        · rw [if_pos hc13] at h
          refine Rn.c1t (t := 51) n66_46 (by decide) hc13 ?_
          refine Rn.iload_n n66_51 l2 ?_
          refine Rn.ic (v := 1) n66_52 (by decide) ?_
          refine Rn.p n66_53 rfl ?_
          refine Rn.aload_n n66_54 l0 ?_
          obtain ⟨x14, hx14, h⟩ := Option.bind_eq_some_iff.mp h
          refine Rn.gf n66_55 mo66 fl6_30 (gfr_v hx14).1 ?_
          have r_x14 : x14 < n := by rw [← hn]; exact (gfr_v hx14).2
          obtain ⟨x15, hx15, h⟩ := Option.bind_eq_some_iff.mp h
          refine Rn.alen n66_58 hx15 ?_
          by_cases hc16 : mc2 .ge (v2 + 1) x15 = true
          · rw [if_pos hc16] at h
            refine Rn.c2t (t := 68) n66_59 (by decide) hc16 ?_
            refine Rn.ic (v := 0) n66_68 (by decide) ?_
            exact t66_69 hd F hr8 _ _ _ _ lv _ _ _ l0 l1 l3 ok hn r_v0 r_v1  h
          · rw [if_neg hc16] at h
            refine Rn.c2f (t := 68) n66_59 (by decide) hc16 ?_
            refine Rn.iload_n n66_62 l2 ?_
            refine Rn.ic (v := 1) n66_63 (by decide) ?_
            refine Rn.p n66_64 rfl ?_
            refine Rn.goto (t := 69) n66_65 (by decide) ?_
            exact t66_69 hd F hr8 _ _ _ _ lv _ _ _ l0 l1 l3 ok hn r_v0 r_v1  h
        · rw [if_neg hc13] at h
          refine Rn.c1f (t := 51) n66_46 (by decide) hc13 ?_
          exact t66_49 hd F  _ lv _ _ _ l2 ok hn   h
def m66_0 (F : Nat) (v0 : Nat) (v1 : Nat) (hp : List mE) : Option (Int32 × List mE) :=
  (rcv 6 hp v0).bind fun u2 =>
  (e67 F v0 v1 hp).bind fun q1 =>
  m66_8 F F v0 v1 q1.1 0 q1.2
theorem t66_0 {d c w n : Nat} (hd : 1 ≤ d) (F : Nat) : ∀ (v0 : Nat) (v1 : Nat) (lv : List (Nat × Value)) (hp : List mE) (v : Int32) (hp' : List mE), alk 0 lv = some (.ref v0) → alk 1 lv = some (.ref v1) → lvk n lv → hp.length = n → v0 < n → v1 < n → m66_0 F v0 v1 hp = some (v, hp') → Rn d 66 0 lv [] hp c w (some (.int v), hp', c, w) := by
  obtain ⟨d', rfl⟩ : ∃ d', d = d' + 1 := ⟨d - 1, by omega⟩
  intro v0 v1 lv hp v hp' l0 l1 ok hn r_v0 r_v1 h
  unfold m66_0 at h
  refine Rn.aload_n n66_0 l0 ?_
  refine Rn.aload_n n66_1 l1 ?_
  obtain ⟨u2, hu2, h⟩ := Option.bind_eq_some_iff.mp h
  obtain ⟨q1, hq1, h⟩ := Option.bind_eq_some_iff.mp h
  have gq1 := c67 (d := d') (by omega) F _ _ _ _ _ (by rw [hn]; exact r_v0) (by rw [hn]; exact r_v1) hq1
  refine Rn.cv (As := [.ref v1]) (rr := []) n66_2 mo66 mm6_54 (by decide) mq67 rfl rfl rfl rfl (by rw [mo67]; exact hu2) (Nat.le_of_ble_eq_true rfl) (by rw [hn]; exact (okc (okr r_v0) (okc (okr r_v1) okn))) (by rw [hn]; exact okn) (by rw [hn]; exact ok) (by rw [ml67]; exact Nat.le_of_ble_eq_true rfl) gq1 ?_
  have hn := (Rn.len gq1).trans hn
  show Rn _ 66 5 lv [.int q1.1] q1.2 c w _
  refine Rn.isn (m := n) n66_5 rfl ml66 (by decide) (fun lv l2 hk hok => ?_)
  have l0 := hk 0 _ (by decide) (Or.inl rfl) l0
  have l1 := hk 1 _ (by decide) (Or.inl rfl) l1
  have ok := hok ok
  refine Rn.ic (v := 0) n66_6 (by decide) ?_
  refine Rn.isn (m := n) n66_7 rfl ml66 (by decide) (fun lv l3 hk hok => ?_)
  have l0 := hk 0 _ (by decide) (Or.inl rfl) l0
  have l1 := hk 1 _ (by decide) (Or.inl rfl) l1
  have l2 := hk 2 _ (by decide) (Or.inl rfl) l2
  have ok := hok ok
  exact t66_8 hd F  F _ _ _ _ lv _ _ _ l0 l1 l2 l3 ok hn r_v0 r_v1  h
def e66 (F : Nat) (a0 : Nat) (a1 : Nat) (hp : List mE) : Option (Int32 × List mE) := m66_0 F a0 a1 hp
theorem c66 {d : Nat} (hd : 1 ≤ d) (F : Nat) (a0 : Nat) (a1 : Nat) (hp : List mE) (v : Int32) (hp' : List mE) (ra0 : a0 < hp.length) (ra1 : a1 < hp.length) (h : e66 F a0 a1 hp = some (v, hp')) : Rn d 66 0 (lv_args 0 [.ref a0, .ref a1]) [] hp 0 0 (some (.int v), hp', 0, 0) :=
  t66_0 (n := hp.length) hd F a0 a1 (lv_args 0 [.ref a0, .ref a1]) hp v hp' rfl rfl (lvk_args (okc (okr ra0) (okc (okr ra1) okn))) rfl ra0 ra1 h
/-! MirrorRoots$Shelf.find -/
def m63_29 (F : Nat) (t0 : Int32) (hp : List mE) : Option (Int32 × List mE) :=
  some (t0, hp)
theorem t63_29 {d c w n : Nat} (hd : 2 ≤ d) (F : Nat) : ∀ (t0 : Int32) (lv : List (Nat × Value)) (hp : List mE) (v : Int32) (hp' : List mE), lvk n lv → hp.length = n → m63_29 F t0 hp = some (v, hp') → Rn d 63 29 lv [.int t0] hp c w (some (.int v), hp', c, w) := by
  obtain ⟨d', rfl⟩ : ∃ d', d = d' + 1 := ⟨d - 1, by omega⟩
  intro t0 lv hp v hp' ok hn h
  unfold m63_29 at h
  have e1 := (Prod.mk.inj (Option.some.inj h)).1
  have e2 := (Prod.mk.inj (Option.some.inj h)).2
  subst e1
  subst e2
  exact Rn.iret n63_29 mr63
def m63_28 (F : Nat) (hp : List mE) : Option (Int32 × List mE) :=
  m63_29 F ((-1)) hp
theorem t63_28 {d c w n : Nat} (hd : 2 ≤ d) (F : Nat) : ∀ (lv : List (Nat × Value)) (hp : List mE) (v : Int32) (hp' : List mE), lvk n lv → hp.length = n → m63_28 F hp = some (v, hp') → Rn d 63 28 lv [] hp c w (some (.int v), hp', c, w) := by
  obtain ⟨d', rfl⟩ : ∃ d', d = d' + 1 := ⟨d - 1, by omega⟩
  intro lv hp v hp' ok hn h
  unfold m63_28 at h
  refine Rn.ic (v := (-1)) n63_28 (by decide) ?_
  exact t63_29 hd F  _ lv _ _ _  ok hn   h
def m63_0 (F : Nat) (v0 : Nat) (v1 : Nat) (hp : List mE) : Option (Int32 × List mE) :=
  (rcv 6 hp v0).bind fun u2 =>
  (e66 F v0 v1 hp).bind fun q1 =>
  if mc2 .eq q1.1 ((-1)) = true then
    m63_28 F q1.2
  else
    (rcv 6 q1.2 v0).bind fun u5 =>
    (e65 F v0 q1.1 q1.2).bind fun q4 =>
    if mc1 .eq q4.1 = true then
      m63_28 F q4.2
    else
      (gfr 6 5 q4.2 v0).bind fun x7 =>
      (rdI q4.2 x7 q1.1).bind fun x8 =>
      m63_29 F x8 q4.2
theorem t63_0 {d c w n : Nat} (hd : 2 ≤ d) (F : Nat) : ∀ (v0 : Nat) (v1 : Nat) (lv : List (Nat × Value)) (hp : List mE) (v : Int32) (hp' : List mE), alk 0 lv = some (.ref v0) → alk 1 lv = some (.ref v1) → lvk n lv → hp.length = n → v0 < n → v1 < n → m63_0 F v0 v1 hp = some (v, hp') → Rn d 63 0 lv [] hp c w (some (.int v), hp', c, w) := by
  obtain ⟨d', rfl⟩ : ∃ d', d = d' + 1 := ⟨d - 1, by omega⟩
  intro v0 v1 lv hp v hp' l0 l1 ok hn r_v0 r_v1 h
  unfold m63_0 at h
  refine Rn.aload_n n63_0 l0 ?_
  refine Rn.aload_n n63_1 l1 ?_
  obtain ⟨u2, hu2, h⟩ := Option.bind_eq_some_iff.mp h
  obtain ⟨q1, hq1, h⟩ := Option.bind_eq_some_iff.mp h
  have gq1 := c66 (d := d') (by omega) F _ _ _ _ _ (by rw [hn]; exact r_v0) (by rw [hn]; exact r_v1) hq1
  refine Rn.cv (As := [.ref v1]) (rr := []) n63_2 mo63 mm6_36 (by decide) mq66 rfl rfl rfl rfl (by rw [mo66]; exact hu2) (Nat.le_of_ble_eq_true rfl) (by rw [hn]; exact (okc (okr r_v0) (okc (okr r_v1) okn))) (by rw [hn]; exact okn) (by rw [hn]; exact ok) (by rw [ml66]; exact Nat.le_of_ble_eq_true rfl) gq1 ?_
  have hn := (Rn.len gq1).trans hn
  show Rn _ 63 5 lv [.int q1.1] q1.2 c w _
  refine Rn.isn (m := n) n63_5 rfl ml63 (by decide) (fun lv l2 hk hok => ?_)
  have l0 := hk 0 _ (by decide) (Or.inl rfl) l0
  have l1 := hk 1 _ (by decide) (Or.inl rfl) l1
  have ok := hok ok
  refine Rn.iload_n n63_6 l2 ?_
  refine Rn.ic (v := (-1)) n63_7 (by decide) ?_
  by_cases hc3 : mc2 .eq q1.1 ((-1)) = true
  · rw [if_pos hc3] at h
    refine Rn.c2t (t := 28) n63_8 (by decide) hc3 ?_
    exact t63_28 hd F  lv _ _ _  ok hn   h
  · rw [if_neg hc3] at h
    refine Rn.c2f (t := 28) n63_8 (by decide) hc3 ?_
    refine Rn.aload_n n63_11 l0 ?_
    refine Rn.iload_n n63_12 l2 ?_
    obtain ⟨u5, hu5, h⟩ := Option.bind_eq_some_iff.mp h
    obtain ⟨q4, hq4, h⟩ := Option.bind_eq_some_iff.mp h
    have gq4 := c65 (d := d') (by omega) F _ _ _ _ _ (by rw [hn]; exact r_v0) hq4
    refine Rn.cv (As := [.int q1.1]) (rr := []) n63_13 mo63 mm6_40 (by decide) mq65 rfl rfl rfl rfl (by rw [mo65]; exact hu5) (Nat.le_of_ble_eq_true rfl) (by rw [hn]; exact (okc (okr r_v0) (okc rfl okn))) (by rw [hn]; exact okn) (by rw [hn]; exact ok) (by rw [ml65]; exact Nat.le_of_ble_eq_true rfl) gq4 ?_
    have hn := (Rn.len gq4).trans hn
    show Rn _ 63 16 lv [.int q4.1] q4.2 c w _
    by_cases hc6 : mc1 .eq q4.1 = true
    · rw [if_pos hc6] at h
      refine Rn.c1t (t := 28) n63_16 (by decide) hc6 ?_
      exact t63_28 hd F  lv _ _ _  ok hn   h
    · rw [if_neg hc6] at h
      refine Rn.c1f (t := 28) n63_16 (by decide) hc6 ?_
      refine Rn.aload_n n63_19 l0 ?_
      obtain ⟨x7, hx7, h⟩ := Option.bind_eq_some_iff.mp h
      refine Rn.gf n63_20 mo63 fl6_30 (gfr_v hx7).1 ?_
      have r_x7 : x7 < n := by rw [← hn]; exact (gfr_v hx7).2
      refine Rn.iload_n n63_23 l2 ?_
      obtain ⟨x8, hx8, h⟩ := Option.bind_eq_some_iff.mp h
      refine Rn.iald n63_24 hx8 ?_
      refine Rn.goto (t := 29) n63_25 (by decide) ?_
      exact t63_29 hd F  _ lv _ _ _  ok hn   h
def e63 (F : Nat) (a0 : Nat) (a1 : Nat) (hp : List mE) : Option (Int32 × List mE) := m63_0 F a0 a1 hp
theorem c63 {d : Nat} (hd : 2 ≤ d) (F : Nat) (a0 : Nat) (a1 : Nat) (hp : List mE) (v : Int32) (hp' : List mE) (ra0 : a0 < hp.length) (ra1 : a1 < hp.length) (h : e63 F a0 a1 hp = some (v, hp')) : Rn d 63 0 (lv_args 0 [.ref a0, .ref a1]) [] hp 0 0 (some (.int v), hp', 0, 0) :=
  t63_0 (n := hp.length) hd F a0 a1 (lv_args 0 [.ref a0, .ref a1]) hp v hp' rfl rfl (lvk_args (okc (okr ra0) (okc (okr ra1) okn))) rfl ra0 ra1 h
/-! MirrorRoots$Ideal.numberAt -/
def m2_70 (F : Nat) (t0 : Int32) (hp : List mE) : Option (Int32 × List mE) :=
  some (t0, hp)
theorem t2_70 {d c w n : Nat} (hd : 3 ≤ d) (F : Nat) : ∀ (t0 : Int32) (lv : List (Nat × Value)) (hp : List mE) (v : Int32) (hp' : List mE), lvk n lv → hp.length = n → m2_70 F t0 hp = some (v, hp') → Rn d 2 70 lv [.int t0] hp c w (some (.int v), hp', c, w) := by
  obtain ⟨d', rfl⟩ : ∃ d', d = d' + 1 := ⟨d - 1, by omega⟩
  intro t0 lv hp v hp' ok hn h
  unfold m2_70 at h
  have e1 := (Prod.mk.inj (Option.some.inj h)).1
  have e2 := (Prod.mk.inj (Option.some.inj h)).2
  subst e1
  subst e2
  exact Rn.iret n2_70 mr2
def m2_47 (F : Nat) (hp : List mE) : Option (Int32 × List mE) :=
  m2_70 F 0 hp
theorem t2_47 {d c w n : Nat} (hd : 3 ≤ d) (F : Nat) : ∀ (lv : List (Nat × Value)) (hp : List mE) (v : Int32) (hp' : List mE), lvk n lv → hp.length = n → m2_47 F hp = some (v, hp') → Rn d 2 47 lv [] hp c w (some (.int v), hp', c, w) := by
  obtain ⟨d', rfl⟩ : ∃ d', d = d' + 1 := ⟨d - 1, by omega⟩
  intro lv hp v hp' ok hn h
  unfold m2_47 at h
  refine Rn.ic (v := 0) n2_47 (by decide) ?_
  refine Rn.goto (t := 70) n2_48 (by decide) ?_
  exact t2_70 hd F  _ lv _ _ _  ok hn   h
def m2_0 (F : Nat) (v0 : Nat) (v1 : Int32) (v2 : Int32) (hp : List mE) : Option (Int32 × List mE) :=
  (gfr 0 0 hp v0).bind fun x1 =>
  (gfr 0 1 hp v0).bind fun x2 =>
  (gfr 1 5 hp x2).bind fun x3 =>
  (gfr 0 3 hp v0).bind fun x4 =>
  (rcv 3 hp x1).bind fun u6 =>
  (e42 F x1 x3 (v1 * 5) x4 0 hp).bind fun q5 =>
  (gfr 0 2 q5.2 v0).bind fun x7 =>
  (gfr 0 3 q5.2 v0).bind fun x8 =>
  (rcv 6 q5.2 x7).bind fun u10 =>
  (e63 F x7 x8 q5.2).bind fun q9 =>
  if mc2 .eq q9.1 ((-1)) = true then
    m2_47 F q9.2
  else
    (gfi 0 8 q9.2 v0).bind fun x12 =>
    if mc2 .ne x12 ((-1)) = true then
      (gfr 0 5 q9.2 v0).bind fun x14 =>
      (gfi 0 8 q9.2 v0).bind fun x15 =>
      (rdJ q9.2 x14 ((x15 * 256) + q9.1)).bind fun x16 =>
      (e4 F x16 v2 q9.2).bind fun q17 =>
      m2_70 F q17.1 q17.2
    else
      m2_47 F q9.2
theorem t2_0 {d c w n : Nat} (hd : 3 ≤ d) (F : Nat) : ∀ (v0 : Nat) (v1 : Int32) (v2 : Int32) (lv : List (Nat × Value)) (hp : List mE) (v : Int32) (hp' : List mE), alk 0 lv = some (.ref v0) → alk 1 lv = some (.int v1) → alk 2 lv = some (.int v2) → lvk n lv → hp.length = n → v0 < n → m2_0 F v0 v1 v2 hp = some (v, hp') → Rn d 2 0 lv [] hp c w (some (.int v), hp', c, w) := by
  obtain ⟨d', rfl⟩ : ∃ d', d = d' + 1 := ⟨d - 1, by omega⟩
  intro v0 v1 v2 lv hp v hp' l0 l1 l2 ok hn r_v0 h
  unfold m2_0 at h
  refine Rn.aload_n n2_0 l0 ?_
  obtain ⟨x1, hx1, h⟩ := Option.bind_eq_some_iff.mp h
  refine Rn.gf n2_1 mo2 fl0_31 (gfr_v hx1).1 ?_
  have r_x1 : x1 < n := by rw [← hn]; exact (gfr_v hx1).2
  refine Rn.aload_n n2_4 l0 ?_
  obtain ⟨x2, hx2, h⟩ := Option.bind_eq_some_iff.mp h
  refine Rn.gf n2_5 mo2 fl0_35 (gfr_v hx2).1 ?_
  have r_x2 : x2 < n := by rw [← hn]; exact (gfr_v hx2).2
  obtain ⟨x3, hx3, h⟩ := Option.bind_eq_some_iff.mp h
  refine Rn.gf n2_8 mo2 fl0_48 (gfr_v hx3).1 ?_
  have r_x3 : x3 < n := by rw [← hn]; exact (gfr_v hx3).2
  refine Rn.iload_n n2_11 l1 ?_
  refine Rn.ic (v := 5) n2_12 (by decide) ?_
  refine Rn.p n2_13 rfl ?_
  refine Rn.aload_n n2_14 l0 ?_
  obtain ⟨x4, hx4, h⟩ := Option.bind_eq_some_iff.mp h
  refine Rn.gf n2_15 mo2 fl0_11 (gfr_v hx4).1 ?_
  have r_x4 : x4 < n := by rw [← hn]; exact (gfr_v hx4).2
  refine Rn.ic (v := 0) n2_18 (by decide) ?_
  obtain ⟨u6, hu6, h⟩ := Option.bind_eq_some_iff.mp h
  obtain ⟨q5, hq5, h⟩ := Option.bind_eq_some_iff.mp h
  have gq5 := c42 (d := d') (by omega) F _ _ _ _ _ _ _ _ (by rw [hn]; exact r_x1) (by rw [hn]; exact r_x3) (by rw [hn]; exact r_x4) hq5
  refine Rn.cv (As := [.ref x3, .int (v1 * 5), .ref x4, .int 0]) (rr := []) n2_19 mo2 mm0_53 (by decide) mq42 rfl rfl rfl rfl (by rw [mo42]; exact hu6) (Nat.le_of_ble_eq_true rfl) (by rw [hn]; exact (okc (okr r_x1) (okc (okr r_x3) (okc rfl (okc (okr r_x4) (okc rfl okn)))))) (by rw [hn]; exact okn) (by rw [hn]; exact ok) (by rw [ml42]; exact Nat.le_of_ble_eq_true rfl) gq5 ?_
  have hn := (Rn.len gq5).trans hn
  show Rn _ 2 22 lv [] q5.2 c w _
  refine Rn.aload_n n2_22 l0 ?_
  obtain ⟨x7, hx7, h⟩ := Option.bind_eq_some_iff.mp h
  refine Rn.gf n2_23 mo2 fl0_44 (gfr_v hx7).1 ?_
  have r_x7 : x7 < n := by rw [← hn]; exact (gfr_v hx7).2
  refine Rn.aload_n n2_26 l0 ?_
  obtain ⟨x8, hx8, h⟩ := Option.bind_eq_some_iff.mp h
  refine Rn.gf n2_27 mo2 fl0_11 (gfr_v hx8).1 ?_
  have r_x8 : x8 < n := by rw [← hn]; exact (gfr_v hx8).2
  obtain ⟨u10, hu10, h⟩ := Option.bind_eq_some_iff.mp h
  obtain ⟨q9, hq9, h⟩ := Option.bind_eq_some_iff.mp h
  have gq9 := c63 (d := d') (by omega) F _ _ _ _ _ (by rw [hn]; exact r_x7) (by rw [hn]; exact r_x8) hq9
  refine Rn.cv (As := [.ref x8]) (rr := []) n2_30 mo2 mm0_59 (by decide) mq63 rfl rfl rfl rfl (by rw [mo63]; exact hu10) (Nat.le_of_ble_eq_true rfl) (by rw [hn]; exact (okc (okr r_x7) (okc (okr r_x8) okn))) (by rw [hn]; exact okn) (by rw [hn]; exact ok) (by rw [ml63]; exact Nat.le_of_ble_eq_true rfl) gq9 ?_
  have hn := (Rn.len gq9).trans hn
  show Rn _ 2 33 lv [.int q9.1] q9.2 c w _
  refine Rn.isn (m := n) n2_33 rfl ml2 (by decide) (fun lv l3 hk hok => ?_)
  have l0 := hk 0 _ (by decide) (Or.inl rfl) l0
  have l1 := hk 1 _ (by decide) (Or.inl rfl) l1
  have l2 := hk 2 _ (by decide) (Or.inl rfl) l2
  have ok := hok ok
  refine Rn.iload_n n2_34 l3 ?_
  refine Rn.ic (v := (-1)) n2_35 (by decide) ?_
  by_cases hc11 : mc2 .eq q9.1 ((-1)) = true
  · rw [if_pos hc11] at h
    refine Rn.c2t (t := 47) n2_36 (by decide) hc11 ?_
    exact t2_47 hd F  lv _ _ _  ok hn   h
  · rw [if_neg hc11] at h
    refine Rn.c2f (t := 47) n2_36 (by decide) hc11 ?_
    refine Rn.aload_n n2_39 l0 ?_
    obtain ⟨x12, hx12, h⟩ := Option.bind_eq_some_iff.mp h
    refine Rn.gf n2_40 mo2 fl0_63 (gfi_v hx12) ?_
    refine Rn.ic (v := (-1)) n2_43 (by decide) ?_
    by_cases hc13 : mc2 .ne x12 ((-1)) = true
    · rw [if_pos hc13] at h
      refine Rn.c2t (t := 51) n2_44 (by decide) hc13 ?_
      refine Rn.aload_n n2_51 l0 ?_
      obtain ⟨x14, hx14, h⟩ := Option.bind_eq_some_iff.mp h
      refine Rn.gf n2_52 mo2 fl0_20 (gfr_v hx14).1 ?_
      have r_x14 : x14 < n := by rw [← hn]; exact (gfr_v hx14).2
      refine Rn.aload_n n2_55 l0 ?_
      obtain ⟨x15, hx15, h⟩ := Option.bind_eq_some_iff.mp h
      refine Rn.gf n2_56 mo2 fl0_63 (gfi_v hx15) ?_
      refine Rn.sp (v := 256) n2_59 (by decide) ?_
      refine Rn.p n2_62 rfl ?_
      refine Rn.iload_n n2_63 l3 ?_
      refine Rn.p n2_64 rfl ?_
      obtain ⟨x16, hx16, h⟩ := Option.bind_eq_some_iff.mp h
      refine Rn.lald n2_65 hx16 ?_
      refine Rn.iload_n n2_66 l2 ?_
      obtain ⟨q17, hq17, h⟩ := Option.bind_eq_some_iff.mp h
      have gq17 := c4 (d := d') (by omega) F _ _ _ _ _  hq17
      refine Rn.cs (as := [.long x16, .int v2]) (rr := []) n2_67 mo2 mm0_66 mq4 rfl rfl rfl rfl (Nat.le_of_ble_eq_true rfl) (by rw [hn]; exact (okc rfl (okc rfl okn))) (by rw [hn]; exact okn) (by rw [hn]; exact ok) (by rw [ml4]; exact Nat.le_of_ble_eq_true rfl) gq17 ?_
      have hn := (Rn.len gq17).trans hn
      show Rn _ 2 70 lv [.int q17.1] q17.2 c w _
      exact t2_70 hd F  _ lv _ _ _  ok hn   h
    · rw [if_neg hc13] at h
      refine Rn.c2f (t := 51) n2_44 (by decide) hc13 ?_
      exact t2_47 hd F  lv _ _ _  ok hn   h
def e2 (F : Nat) (a0 : Nat) (a1 : Int32) (a2 : Int32) (hp : List mE) : Option (Int32 × List mE) := m2_0 F a0 a1 a2 hp
theorem c2 {d : Nat} (hd : 3 ≤ d) (F : Nat) (a0 : Nat) (a1 : Int32) (a2 : Int32) (hp : List mE) (v : Int32) (hp' : List mE) (ra0 : a0 < hp.length) (h : e2 F a0 a1 a2 hp = some (v, hp')) : Rn d 2 0 (lv_args 0 [.ref a0, .int a1, .int a2]) [] hp 0 0 (some (.int v), hp', 0, 0) :=
  t2_0 (n := hp.length) hd F a0 a1 a2 (lv_args 0 [.ref a0, .int a1, .int a2]) hp v hp' rfl rfl rfl (lvk_args (okc (okr ra0) (okc rfl (okc rfl okn)))) rfl ra0 h
/-! MirrorRoots$Ideal.countRough -/
def m3_48 (F : Nat) (rc14 : Nat → Int32 → Int32 → List mE → Option (Int32 × List mE)) (v0 : Nat) (v1 : Int32) (v2 : Int32) (hp : List mE) : Option (Int32 × List mE) :=
  rc14 v0 v1 (v2 + 1) hp
theorem t3_48 {d c w n : Nat} (hd : 0 ≤ d) (F : Nat) {rc14 : Nat → Int32 → Int32 → List mE → Option (Int32 × List mE)} (hr14 : ∀ (v0 : Nat) (v1 : Int32) (v2 : Int32) (lv : List (Nat × Value)) (hp : List mE) (v : Int32) (hp' : List mE), alk 0 lv = some (.ref v0) → alk 1 lv = some (.int v1) → alk 2 lv = some (.int v2) → lvk n lv → hp.length = n → v0 < n → rc14 v0 v1 v2 hp = some (v, hp') → Rn d 3 14 lv [] hp c w (some (.int v), hp', c, w)) : ∀ (v0 : Nat) (v1 : Int32) (v2 : Int32) (lv : List (Nat × Value)) (hp : List mE) (v : Int32) (hp' : List mE), alk 0 lv = some (.ref v0) → alk 1 lv = some (.int v1) → alk 2 lv = some (.int v2) → lvk n lv → hp.length = n → v0 < n → m3_48 F rc14 v0 v1 v2 hp = some (v, hp') → Rn d 3 48 lv [] hp c w (some (.int v), hp', c, w) := by
  intro v0 v1 v2 lv hp v hp' l0 l1 l2 ok hn r_v0 h
  unfold m3_48 at h
  refine Rn.ii (m := n) (u := 1) n3_48 ml3 (by decide) (by decide) l2 (fun lv l2 hk hok => ?_)
  have l0 := hk 0 _ (by decide) (Or.inl rfl) l0
  have l1 := hk 1 _ (by decide) (Or.inl rfl) l1
  have ok := hok ok
  refine Rn.goto (t := 14) n3_51 (by decide) ?_
  exact hr14 _ _ _ lv _ _ _ l0 l1 l2 ok hn r_v0  h
def m3_14 (F : Nat) : Nat → Nat → Int32 → Int32 → List mE → Option (Int32 × List mE)
  | 0, _, _, _, _ => none
  | f + 1, v0, v1, v2, hp =>
    (gfr 0 2 hp v0).bind fun x1 =>
    (gfi 6 2 hp x1).bind fun x2 =>
    if mc2 .ge v2 x2 = true then
      some (v1, hp)
    else
      (gfr 0 5 hp v0).bind fun x4 =>
      (gfi 0 8 hp v0).bind fun x5 =>
      (rdJ hp x4 ((x5 * 256) + v2)).bind fun x6 =>
      if mc1 .eq (lg_cmp x6 1) = true then
        m3_48 F (m3_14 F f) v0 v1 v2 hp
      else
        m3_48 F (m3_14 F f) v0 (v1 + 1) v2 hp
theorem t3_14 {d c w n : Nat} (hd : 0 ≤ d) (F : Nat) : ∀ f : Nat, ∀ (v0 : Nat) (v1 : Int32) (v2 : Int32) (lv : List (Nat × Value)) (hp : List mE) (v : Int32) (hp' : List mE), alk 0 lv = some (.ref v0) → alk 1 lv = some (.int v1) → alk 2 lv = some (.int v2) → lvk n lv → hp.length = n → v0 < n → m3_14 F f v0 v1 v2 hp = some (v, hp') → Rn d 3 14 lv [] hp c w (some (.int v), hp', c, w) := by
  intro f
  induction f with
  | zero => intro v0 v1 v2 lv hp v hp' l0 l1 l2 ok hn r_v0 h; cases h
  | succ f hr14 =>
    intro v0 v1 v2 lv hp v hp' l0 l1 l2 ok hn r_v0 h
    unfold m3_14 at h
    refine Rn.iload_n n3_14 l2 ?_
    refine Rn.aload_n n3_15 l0 ?_
    obtain ⟨x1, hx1, h⟩ := Option.bind_eq_some_iff.mp h
    refine Rn.gf n3_16 mo3 fl0_44 (gfr_v hx1).1 ?_
    have r_x1 : x1 < n := by rw [← hn]; exact (gfr_v hx1).2
    obtain ⟨x2, hx2, h⟩ := Option.bind_eq_some_iff.mp h
    refine Rn.gf n3_19 mo3 fl0_70 (gfi_v hx2) ?_
    by_cases hc3 : mc2 .ge v2 x2 = true
    · rw [if_pos hc3] at h
      refine Rn.c2t (t := 54) n3_22 (by decide) hc3 ?_
      refine Rn.iload_n n3_54 l1 ?_
      have e1 := (Prod.mk.inj (Option.some.inj h)).1
      have e2 := (Prod.mk.inj (Option.some.inj h)).2
      subst e1
      subst e2
      exact Rn.iret n3_55 mr3
    · rw [if_neg hc3] at h
      refine Rn.c2f (t := 54) n3_22 (by decide) hc3 ?_
      refine Rn.aload_n n3_25 l0 ?_
      obtain ⟨x4, hx4, h⟩ := Option.bind_eq_some_iff.mp h
      refine Rn.gf n3_26 mo3 fl0_20 (gfr_v hx4).1 ?_
      have r_x4 : x4 < n := by rw [← hn]; exact (gfr_v hx4).2
      refine Rn.aload_n n3_29 l0 ?_
      obtain ⟨x5, hx5, h⟩ := Option.bind_eq_some_iff.mp h
      refine Rn.gf n3_30 mo3 fl0_63 (gfi_v hx5) ?_
      refine Rn.sp (v := 256) n3_33 (by decide) ?_
      refine Rn.p n3_36 rfl ?_
      refine Rn.iload_n n3_37 l2 ?_
      refine Rn.p n3_38 rfl ?_
      obtain ⟨x6, hx6, h⟩ := Option.bind_eq_some_iff.mp h
      refine Rn.lald n3_39 hx6 ?_
      refine Rn.lc (v := 1) n3_40 (by decide) ?_
      refine Rn.p n3_41 rfl ?_
      by_cases hc7 : mc1 .eq (lg_cmp x6 1) = true
      · rw [if_pos hc7] at h
        refine Rn.c1t (t := 48) n3_42 (by decide) hc7 ?_
        exact t3_48 hd F hr14 _ _ _ lv _ _ _ l0 l1 l2 ok hn r_v0  h
      · rw [if_neg hc7] at h
        refine Rn.c1f (t := 48) n3_42 (by decide) hc7 ?_
        refine Rn.ii (m := n) (u := 1) n3_45 ml3 (by decide) (by decide) l1 (fun lv l1 hk hok => ?_)
        have l0 := hk 0 _ (by decide) (Or.inl rfl) l0
        have l2 := hk 2 _ (by decide) (Or.inl rfl) l2
        have ok := hok ok
        exact t3_48 hd F hr14 _ _ _ lv _ _ _ l0 l1 l2 ok hn r_v0  h
def m3_0 (F : Nat) (v0 : Nat) (hp : List mE) : Option (Int32 × List mE) :=
  (gfi 0 8 hp v0).bind fun x1 =>
  if mc2 .ne x1 ((-1)) = true then
    m3_14 F F v0 0 0 hp
  else
    some (0, hp)
theorem t3_0 {d c w n : Nat} (hd : 0 ≤ d) (F : Nat) : ∀ (v0 : Nat) (lv : List (Nat × Value)) (hp : List mE) (v : Int32) (hp' : List mE), alk 0 lv = some (.ref v0) → lvk n lv → hp.length = n → v0 < n → m3_0 F v0 hp = some (v, hp') → Rn d 3 0 lv [] hp c w (some (.int v), hp', c, w) := by
  intro v0 lv hp v hp' l0 ok hn r_v0 h
  unfold m3_0 at h
  refine Rn.aload_n n3_0 l0 ?_
  obtain ⟨x1, hx1, h⟩ := Option.bind_eq_some_iff.mp h
  refine Rn.gf n3_1 mo3 fl0_63 (gfi_v hx1) ?_
  refine Rn.ic (v := (-1)) n3_4 (by decide) ?_
  by_cases hc2 : mc2 .ne x1 ((-1)) = true
  · rw [if_pos hc2] at h
    refine Rn.c2t (t := 10) n3_5 (by decide) hc2 ?_
    refine Rn.ic (v := 0) n3_10 (by decide) ?_
    refine Rn.isn (m := n) n3_11 rfl ml3 (by decide) (fun lv l1 hk hok => ?_)
    have l0 := hk 0 _ (by decide) (Or.inl rfl) l0
    have ok := hok ok
    refine Rn.ic (v := 0) n3_12 (by decide) ?_
    refine Rn.isn (m := n) n3_13 rfl ml3 (by decide) (fun lv l2 hk hok => ?_)
    have l0 := hk 0 _ (by decide) (Or.inl rfl) l0
    have l1 := hk 1 _ (by decide) (Or.inl rfl) l1
    have ok := hok ok
    exact t3_14 hd F  F _ _ _ lv _ _ _ l0 l1 l2 ok hn r_v0  h
  · rw [if_neg hc2] at h
    refine Rn.c2f (t := 10) n3_5 (by decide) hc2 ?_
    refine Rn.ic (v := 0) n3_8 (by decide) ?_
    have e1 := (Prod.mk.inj (Option.some.inj h)).1
    have e2 := (Prod.mk.inj (Option.some.inj h)).2
    subst e1
    subst e2
    exact Rn.iret n3_9 mr3
def e3 (F : Nat) (a0 : Nat) (hp : List mE) : Option (Int32 × List mE) := m3_0 F a0 hp
theorem c3 {d : Nat} (hd : 0 ≤ d) (F : Nat) (a0 : Nat) (hp : List mE) (v : Int32) (hp' : List mE) (ra0 : a0 < hp.length) (h : e3 F a0 hp = some (v, hp')) : Rn d 3 0 (lv_args 0 [.ref a0]) [] hp 0 0 (some (.int v), hp', 0, 0) :=
  t3_0 (n := hp.length) hd F a0 (lv_args 0 [.ref a0]) hp v hp' rfl (lvk_args (okc (okr ra0) okn)) rfl ra0 h
/-! MirrorRoots$Ideal.welcome -/
def m8_9 (F : Nat) : Nat → Nat → Int32 → Int32 → List mE → Option (Unit × List mE)
  | 0, _, _, _, _ => none
  | f + 1, v0, v1, v2, hp =>
    if mc2 .ge v2 5 = true then
      some ((), hp)
    else
      (gfr 0 4 hp v0).bind fun x2 =>
      (wrI hp x2 ((v1 * 5) + v2) ((-2))).bind fun hp3 =>
      m8_9 F f v0 v1 (v2 + 1) hp3
theorem t8_9 {d c w n : Nat} (hd : 0 ≤ d) (F : Nat) : ∀ f : Nat, ∀ (v0 : Nat) (v1 : Int32) (v2 : Int32) (lv : List (Nat × Value)) (hp : List mE) (v : Unit) (hp' : List mE), alk 0 lv = some (.ref v0) → alk 1 lv = some (.int v1) → alk 2 lv = some (.int v2) → lvk n lv → hp.length = n → v0 < n → m8_9 F f v0 v1 v2 hp = some (v, hp') → Rn d 8 9 lv [] hp c w (none, hp', c, w) := by
  intro f
  induction f with
  | zero => intro v0 v1 v2 lv hp v hp' l0 l1 l2 ok hn r_v0 h; cases h
  | succ f hr9 =>
    intro v0 v1 v2 lv hp v hp' l0 l1 l2 ok hn r_v0 h
    unfold m8_9 at h
    refine Rn.iload_n n8_9 l2 ?_
    refine Rn.ic (v := 5) n8_10 (by decide) ?_
    by_cases hc1 : mc2 .ge v2 5 = true
    · rw [if_pos hc1] at h
      refine Rn.c2t (t := 32) n8_11 (by decide) hc1 ?_
      have e1 := (Prod.mk.inj (Option.some.inj h)).1
      have e2 := (Prod.mk.inj (Option.some.inj h)).2
      subst e1
      subst e2
      exact Rn.vret n8_32 mr8
    · rw [if_neg hc1] at h
      refine Rn.c2f (t := 32) n8_11 (by decide) hc1 ?_
      refine Rn.aload_n n8_14 l0 ?_
      obtain ⟨x2, hx2, h⟩ := Option.bind_eq_some_iff.mp h
      refine Rn.gf n8_15 mo8 fl0_15 (gfr_v hx2).1 ?_
      have r_x2 : x2 < n := by rw [← hn]; exact (gfr_v hx2).2
      refine Rn.iload_n n8_18 l1 ?_
      refine Rn.ic (v := 5) n8_19 (by decide) ?_
      refine Rn.p n8_20 rfl ?_
      refine Rn.iload_n n8_21 l2 ?_
      refine Rn.p n8_22 rfl ?_
      refine Rn.bp (v := (-2)) n8_23 (by decide) ?_
      obtain ⟨hp3, hhp3, h⟩ := Option.bind_eq_some_iff.mp h
      refine Rn.iast n8_25 hhp3 ?_
      have hn := (wrI_st (st := []) hhp3).2.trans hn
      refine Rn.ii (m := n) (u := 1) n8_26 ml8 (by decide) (by decide) l2 (fun lv l2 hk hok => ?_)
      have l0 := hk 0 _ (by decide) (Or.inl rfl) l0
      have l1 := hk 1 _ (by decide) (Or.inl rfl) l1
      have ok := hok ok
      refine Rn.goto (t := 9) n8_29 (by decide) ?_
      exact hr9 _ _ _ lv _ _ _ l0 l1 l2 ok hn r_v0  h
def m8_0 (F : Nat) (v0 : Nat) (v1 : Int32) (hp : List mE) : Option (Unit × List mE) :=
  (gfr 0 6 hp v0).bind fun x1 =>
  (wrZ hp x1 v1 0).bind fun hp2 =>
  m8_9 F F v0 v1 0 hp2
theorem t8_0 {d c w n : Nat} (hd : 0 ≤ d) (F : Nat) : ∀ (v0 : Nat) (v1 : Int32) (lv : List (Nat × Value)) (hp : List mE) (v : Unit) (hp' : List mE), alk 0 lv = some (.ref v0) → alk 1 lv = some (.int v1) → lvk n lv → hp.length = n → v0 < n → m8_0 F v0 v1 hp = some (v, hp') → Rn d 8 0 lv [] hp c w (none, hp', c, w) := by
  intro v0 v1 lv hp v hp' l0 l1 ok hn r_v0 h
  unfold m8_0 at h
  refine Rn.aload_n n8_0 l0 ?_
  obtain ⟨x1, hx1, h⟩ := Option.bind_eq_some_iff.mp h
  refine Rn.gf n8_1 mo8 fl0_23 (gfr_v hx1).1 ?_
  have r_x1 : x1 < n := by rw [← hn]; exact (gfr_v hx1).2
  refine Rn.iload_n n8_4 l1 ?_
  refine Rn.ic (v := 0) n8_5 (by decide) ?_
  obtain ⟨hp2, hhp2, h⟩ := Option.bind_eq_some_iff.mp h
  refine Rn.zast n8_6 hhp2 ?_
  have hn := (wrZ_st (st := []) hhp2).2.trans hn
  refine Rn.ic (v := 0) n8_7 (by decide) ?_
  refine Rn.isn (m := n) n8_8 rfl ml8 (by decide) (fun lv l2 hk hok => ?_)
  have l0 := hk 0 _ (by decide) (Or.inl rfl) l0
  have l1 := hk 1 _ (by decide) (Or.inl rfl) l1
  have ok := hok ok
  exact t8_9 hd F  F _ _ _ lv _ _ _ l0 l1 l2 ok hn r_v0  h
def e8 (F : Nat) (a0 : Nat) (a1 : Int32) (hp : List mE) : Option (Unit × List mE) := m8_0 F a0 a1 hp
theorem c8 {d : Nat} (hd : 0 ≤ d) (F : Nat) (a0 : Nat) (a1 : Int32) (hp : List mE) (v : Unit) (hp' : List mE) (ra0 : a0 < hp.length) (h : e8 F a0 a1 hp = some (v, hp')) : Rn d 8 0 (lv_args 0 [.ref a0, .int a1]) [] hp 0 0 (none, hp', 0, 0) :=
  t8_0 (n := hp.length) hd F a0 a1 (lv_args 0 [.ref a0, .int a1]) hp v hp' rfl rfl (lvk_args (okc (okr ra0) (okc rfl okn))) rfl ra0 h
/-! MirrorRoots$Mirrors.turnWeights -/
def m41_10 (F : Nat) : Nat → Nat → Nat → Int32 → Int32 → Int64 → Int32 → List mE → Option (Unit × List mE)
  | 0, _, _, _, _, _, _, _ => none
  | f + 1, v0, v1, v2, v3, v4, v6, hp =>
    (gfi 3 0 hp v0).bind fun x1 =>
    if mc2 .ge v6 x1 = true then
      some ((), hp)
    else
      (rdJ hp v1 (v2 + v6)).bind fun x3 =>
      (gfr 3 2 hp v0).bind fun x4 =>
      (rdI hp x4 ((v6 * 5) + v3)).bind fun x5 =>
      (wrJ hp v1 (v2 + v6) (x3 - (v4 * x5.toInt64))).bind fun hp6 =>
      m41_10 F f v0 v1 v2 v3 v4 (v6 + 1) hp6
theorem t41_10 {d c w n : Nat} (hd : 0 ≤ d) (F : Nat) : ∀ f : Nat, ∀ (v0 : Nat) (v1 : Nat) (v2 : Int32) (v3 : Int32) (v4 : Int64) (v6 : Int32) (lv : List (Nat × Value)) (hp : List mE) (v : Unit) (hp' : List mE), alk 0 lv = some (.ref v0) → alk 1 lv = some (.ref v1) → alk 2 lv = some (.int v2) → alk 3 lv = some (.int v3) → alk 4 lv = some (.long v4) → alk 6 lv = some (.int v6) → lvk n lv → hp.length = n → v0 < n → v1 < n → m41_10 F f v0 v1 v2 v3 v4 v6 hp = some (v, hp') → Rn d 41 10 lv [] hp c w (none, hp', c, w) := by
  intro f
  induction f with
  | zero => intro v0 v1 v2 v3 v4 v6 lv hp v hp' l0 l1 l2 l3 l4 l6 ok hn r_v0 r_v1 h; cases h
  | succ f hr10 =>
    intro v0 v1 v2 v3 v4 v6 lv hp v hp' l0 l1 l2 l3 l4 l6 ok hn r_v0 r_v1 h
    unfold m41_10 at h
    refine Rn.iload n41_10 l6 ?_
    refine Rn.aload_n n41_12 l0 ?_
    obtain ⟨x1, hx1, h⟩ := Option.bind_eq_some_iff.mp h
    refine Rn.gf n41_13 mo41 fl3_18 (gfi_v hx1) ?_
    by_cases hc2 : mc2 .ge v6 x1 = true
    · rw [if_pos hc2] at h
      refine Rn.c2t (t := 49) n41_16 (by decide) hc2 ?_
      have e1 := (Prod.mk.inj (Option.some.inj h)).1
      have e2 := (Prod.mk.inj (Option.some.inj h)).2
      subst e1
      subst e2
      exact Rn.vret n41_49 mr41
    · rw [if_neg hc2] at h
      refine Rn.c2f (t := 49) n41_16 (by decide) hc2 ?_
      refine Rn.aload_n n41_19 l1 ?_
      refine Rn.iload_n n41_20 l2 ?_
      refine Rn.iload n41_21 l6 ?_
      refine Rn.p n41_23 rfl ?_
      refine Rn.p n41_24 rfl ?_
      obtain ⟨x3, hx3, h⟩ := Option.bind_eq_some_iff.mp h
      refine Rn.lald n41_25 hx3 ?_
      refine Rn.lload n41_26 l4 ?_
      refine Rn.aload_n n41_28 l0 ?_
      obtain ⟨x4, hx4, h⟩ := Option.bind_eq_some_iff.mp h
      refine Rn.gf n41_29 mo41 fl3_15 (gfr_v hx4).1 ?_
      have r_x4 : x4 < n := by rw [← hn]; exact (gfr_v hx4).2
      refine Rn.iload n41_32 l6 ?_
      refine Rn.ic (v := 5) n41_34 (by decide) ?_
      refine Rn.p n41_35 rfl ?_
      refine Rn.iload_n n41_36 l3 ?_
      refine Rn.p n41_37 rfl ?_
      obtain ⟨x5, hx5, h⟩ := Option.bind_eq_some_iff.mp h
      refine Rn.iald n41_38 hx5 ?_
      refine Rn.p n41_39 rfl ?_
      refine Rn.p n41_40 rfl ?_
      refine Rn.p n41_41 rfl ?_
      obtain ⟨hp6, hhp6, h⟩ := Option.bind_eq_some_iff.mp h
      refine Rn.last n41_42 hhp6 ?_
      have hn := (wrJ_st (st := []) hhp6).2.trans hn
      refine Rn.ii (m := n) (u := 1) n41_43 ml41 (by decide) (by decide) l6 (fun lv l6 hk hok => ?_)
      have l0 := hk 0 _ (by decide) (Or.inl rfl) l0
      have l1 := hk 1 _ (by decide) (Or.inl rfl) l1
      have l2 := hk 2 _ (by decide) (Or.inl rfl) l2
      have l3 := hk 3 _ (by decide) (Or.inl rfl) l3
      have l4 := hk 4 _ (by decide) (Or.inr (by decide)) l4
      have ok := hok ok
      refine Rn.goto (t := 10) n41_46 (by decide) ?_
      exact hr10 _ _ _ _ _ _ lv _ _ _ l0 l1 l2 l3 l4 l6 ok hn r_v0 r_v1  h
def m41_0 (F : Nat) (v0 : Nat) (v1 : Nat) (v2 : Int32) (v3 : Int32) (hp : List mE) : Option (Unit × List mE) :=
  (rdJ hp v1 (v2 + v3)).bind fun x1 =>
  m41_10 F F v0 v1 v2 v3 x1 0 hp
theorem t41_0 {d c w n : Nat} (hd : 0 ≤ d) (F : Nat) : ∀ (v0 : Nat) (v1 : Nat) (v2 : Int32) (v3 : Int32) (lv : List (Nat × Value)) (hp : List mE) (v : Unit) (hp' : List mE), alk 0 lv = some (.ref v0) → alk 1 lv = some (.ref v1) → alk 2 lv = some (.int v2) → alk 3 lv = some (.int v3) → lvk n lv → hp.length = n → v0 < n → v1 < n → m41_0 F v0 v1 v2 v3 hp = some (v, hp') → Rn d 41 0 lv [] hp c w (none, hp', c, w) := by
  intro v0 v1 v2 v3 lv hp v hp' l0 l1 l2 l3 ok hn r_v0 r_v1 h
  unfold m41_0 at h
  refine Rn.aload_n n41_0 l1 ?_
  refine Rn.iload_n n41_1 l2 ?_
  refine Rn.iload_n n41_2 l3 ?_
  refine Rn.p n41_3 rfl ?_
  obtain ⟨x1, hx1, h⟩ := Option.bind_eq_some_iff.mp h
  refine Rn.lald n41_4 hx1 ?_
  refine Rn.ls (m := n) n41_5 ml41 (by decide) (fun lv l4 hk hok => ?_)
  have l0 := hk 0 _ (by decide) (by decide) (Or.inl rfl) l0
  have l1 := hk 1 _ (by decide) (by decide) (Or.inl rfl) l1
  have l2 := hk 2 _ (by decide) (by decide) (Or.inl rfl) l2
  have l3 := hk 3 _ (by decide) (by decide) (Or.inl rfl) l3
  have ok := hok ok
  refine Rn.ic (v := 0) n41_7 (by decide) ?_
  refine Rn.is (m := n) n41_8 ml41 (by decide) (fun lv l6 hk hok => ?_)
  have l0 := hk 0 _ (by decide) (Or.inl rfl) l0
  have l1 := hk 1 _ (by decide) (Or.inl rfl) l1
  have l2 := hk 2 _ (by decide) (Or.inl rfl) l2
  have l3 := hk 3 _ (by decide) (Or.inl rfl) l3
  have l4 := hk 4 _ (by decide) (Or.inr (by decide)) l4
  have ok := hok ok
  exact t41_10 hd F  F _ _ _ _ _ _ lv _ _ _ l0 l1 l2 l3 l4 l6 ok hn r_v0 r_v1  h
def e41 (F : Nat) (a0 : Nat) (a1 : Nat) (a2 : Int32) (a3 : Int32) (hp : List mE) : Option (Unit × List mE) := m41_0 F a0 a1 a2 a3 hp
theorem c41 {d : Nat} (hd : 0 ≤ d) (F : Nat) (a0 : Nat) (a1 : Nat) (a2 : Int32) (a3 : Int32) (hp : List mE) (v : Unit) (hp' : List mE) (ra0 : a0 < hp.length) (ra1 : a1 < hp.length) (h : e41 F a0 a1 a2 a3 hp = some (v, hp')) : Rn d 41 0 (lv_args 0 [.ref a0, .ref a1, .int a2, .int a3]) [] hp 0 0 (none, hp', 0, 0) :=
  t41_0 (n := hp.length) hd F a0 a1 a2 a3 (lv_args 0 [.ref a0, .ref a1, .int a2, .int a3]) hp v hp' rfl rfl rfl rfl (lvk_args (okc (okr ra0) (okc (okr ra1) (okc rfl (okc rfl okn))))) rfl ra0 ra1 h
/-! MirrorRoots$Shelf.isBelow -/
def m61_20 (F : Nat) (t0 : Int32) (hp : List mE) : Option (Int32 × List mE) :=
  if t0 = 0 ∨ t0 = 1 then some (t0, hp) else none
theorem t61_20 {d c w n : Nat} (hd : 0 ≤ d) (F : Nat) : ∀ (t0 : Int32) (lv : List (Nat × Value)) (hp : List mE) (v : Int32) (hp' : List mE), lvk n lv → hp.length = n → m61_20 F t0 hp = some (v, hp') → Rn d 61 20 lv [.int t0] hp c w (some (.int v), hp', c, w) := by
  intro t0 lv hp v hp' ok hn h
  unfold m61_20 at h
  by_cases hz1 : t0 = 0 ∨ t0 = 1
  · rw [if_pos hz1] at h
    have e1 := (Prod.mk.inj (Option.some.inj h)).1
    have e2 := (Prod.mk.inj (Option.some.inj h)).2
    subst e1
    subst e2
    exact Rn.zret n61_20 mr61 hz1
  · rw [if_neg hz1] at h; cases h
def m61_0 (F : Nat) (v0 : Nat) (v1 : Int32) (v2 : Int32) (hp : List mE) : Option (Int32 × List mE) :=
  (gfr 6 3 hp v0).bind fun x1 =>
  (rdJ hp x1 ((v1 * 5) + v2)).bind fun x2 =>
  if mc1 .ge (lg_cmp x2 0) = true then
    m61_20 F 0 hp
  else
    m61_20 F 1 hp
theorem t61_0 {d c w n : Nat} (hd : 0 ≤ d) (F : Nat) : ∀ (v0 : Nat) (v1 : Int32) (v2 : Int32) (lv : List (Nat × Value)) (hp : List mE) (v : Int32) (hp' : List mE), alk 0 lv = some (.ref v0) → alk 1 lv = some (.int v1) → alk 2 lv = some (.int v2) → lvk n lv → hp.length = n → v0 < n → m61_0 F v0 v1 v2 hp = some (v, hp') → Rn d 61 0 lv [] hp c w (some (.int v), hp', c, w) := by
  intro v0 v1 v2 lv hp v hp' l0 l1 l2 ok hn r_v0 h
  unfold m61_0 at h
  refine Rn.aload_n n61_0 l0 ?_
  obtain ⟨x1, hx1, h⟩ := Option.bind_eq_some_iff.mp h
  refine Rn.gf n61_1 mo61 fl6_22 (gfr_v hx1).1 ?_
  have r_x1 : x1 < n := by rw [← hn]; exact (gfr_v hx1).2
  refine Rn.iload_n n61_4 l1 ?_
  refine Rn.ic (v := 5) n61_5 (by decide) ?_
  refine Rn.p n61_6 rfl ?_
  refine Rn.iload_n n61_7 l2 ?_
  refine Rn.p n61_8 rfl ?_
  obtain ⟨x2, hx2, h⟩ := Option.bind_eq_some_iff.mp h
  refine Rn.lald n61_9 hx2 ?_
  refine Rn.lc (v := 0) n61_10 (by decide) ?_
  refine Rn.p n61_11 rfl ?_
  by_cases hc3 : mc1 .ge (lg_cmp x2 0) = true
  · rw [if_pos hc3] at h
    refine Rn.c1t (t := 19) n61_12 (by decide) hc3 ?_
    refine Rn.ic (v := 0) n61_19 (by decide) ?_
    exact t61_20 hd F  _ lv _ _ _  ok hn   h
  · rw [if_neg hc3] at h
    refine Rn.c1f (t := 19) n61_12 (by decide) hc3 ?_
    refine Rn.ic (v := 1) n61_15 (by decide) ?_
    refine Rn.goto (t := 20) n61_16 (by decide) ?_
    exact t61_20 hd F  _ lv _ _ _  ok hn   h
def e61 (F : Nat) (a0 : Nat) (a1 : Int32) (a2 : Int32) (hp : List mE) : Option (Int32 × List mE) := m61_0 F a0 a1 a2 hp
theorem c61 {d : Nat} (hd : 0 ≤ d) (F : Nat) (a0 : Nat) (a1 : Int32) (a2 : Int32) (hp : List mE) (v : Int32) (hp' : List mE) (ra0 : a0 < hp.length) (h : e61 F a0 a1 a2 hp = some (v, hp')) : Rn d 61 0 (lv_args 0 [.ref a0, .int a1, .int a2]) [] hp 0 0 (some (.int v), hp', 0, 0) :=
  t61_0 (n := hp.length) hd F a0 a1 a2 (lv_args 0 [.ref a0, .int a1, .int a2]) hp v hp' rfl rfl rfl (lvk_args (okc (okr ra0) (okc rfl (okc rfl okn)))) rfl ra0 h
/-! MirrorRoots$Shelf.putLast -/
def m64_0 (F : Nat) (v0 : Nat) (v1 : Nat) (v2 : Int32) (hp : List mE) : Option (Int32 × List mE) :=
  (gfi 6 2 hp v0).bind fun x1 =>
  (gfi 6 1 hp v0).bind fun x2 =>
  if mc2 .lt x1 x2 = true then
    (gfr 6 0 hp v0).bind fun x4 =>
    (gfr 6 3 hp v0).bind fun x5 =>
    (gfi 6 2 hp v0).bind fun x6 =>
    (rcv 3 hp x4).bind fun u8 =>
    (e42 F x4 v1 0 x5 (x6 * 5) hp).bind fun q7 =>
    (gfr 6 4 q7.2 v0).bind fun x9 =>
    (gfi 6 2 q7.2 v0).bind fun x10 =>
    (wrI q7.2 x9 x10 v2).bind fun hp11 =>
    (gfi 6 2 hp11 v0).bind fun x12 =>
    (pfv 6 2 hp11 v0 (.int (x12 + 1))).bind fun hp13 =>
    some (1, hp13)
  else
    some (0, hp)
theorem t64_0 {d c w n : Nat} (hd : 1 ≤ d) (F : Nat) : ∀ (v0 : Nat) (v1 : Nat) (v2 : Int32) (lv : List (Nat × Value)) (hp : List mE) (v : Int32) (hp' : List mE), alk 0 lv = some (.ref v0) → alk 1 lv = some (.ref v1) → alk 2 lv = some (.int v2) → lvk n lv → hp.length = n → v0 < n → v1 < n → m64_0 F v0 v1 v2 hp = some (v, hp') → Rn d 64 0 lv [] hp c w (some (.int v), hp', c, w) := by
  obtain ⟨d', rfl⟩ : ∃ d', d = d' + 1 := ⟨d - 1, by omega⟩
  intro v0 v1 v2 lv hp v hp' l0 l1 l2 ok hn r_v0 r_v1 h
  unfold m64_0 at h
  refine Rn.aload_n n64_0 l0 ?_
  obtain ⟨x1, hx1, h⟩ := Option.bind_eq_some_iff.mp h
  refine Rn.gf n64_1 mo64 fl6_9 (gfi_v hx1) ?_
  refine Rn.aload_n n64_4 l0 ?_
  obtain ⟨x2, hx2, h⟩ := Option.bind_eq_some_iff.mp h
  refine Rn.gf n64_5 mo64 fl6_19 (gfi_v hx2) ?_
  by_cases hc3 : mc2 .lt x1 x2 = true
  · rw [if_pos hc3] at h
    refine Rn.c2t (t := 13) n64_8 (by decide) hc3 ?_
    refine Rn.aload_n n64_13 l0 ?_
    obtain ⟨x4, hx4, h⟩ := Option.bind_eq_some_iff.mp h
    refine Rn.gf n64_14 mo64 fl6_15 (gfr_v hx4).1 ?_
    have r_x4 : x4 < n := by rw [← hn]; exact (gfr_v hx4).2
    refine Rn.aload_n n64_17 l1 ?_
    refine Rn.ic (v := 0) n64_18 (by decide) ?_
    refine Rn.aload_n n64_19 l0 ?_
    obtain ⟨x5, hx5, h⟩ := Option.bind_eq_some_iff.mp h
    refine Rn.gf n64_20 mo64 fl6_22 (gfr_v hx5).1 ?_
    have r_x5 : x5 < n := by rw [← hn]; exact (gfr_v hx5).2
    refine Rn.aload_n n64_23 l0 ?_
    obtain ⟨x6, hx6, h⟩ := Option.bind_eq_some_iff.mp h
    refine Rn.gf n64_24 mo64 fl6_9 (gfi_v hx6) ?_
    refine Rn.ic (v := 5) n64_27 (by decide) ?_
    refine Rn.p n64_28 rfl ?_
    obtain ⟨u8, hu8, h⟩ := Option.bind_eq_some_iff.mp h
    obtain ⟨q7, hq7, h⟩ := Option.bind_eq_some_iff.mp h
    have gq7 := c42 (d := d') (by omega) F _ _ _ _ _ _ _ _ (by rw [hn]; exact r_x4) (by rw [hn]; exact r_v1) (by rw [hn]; exact r_x5) hq7
    refine Rn.cv (As := [.ref v1, .int 0, .ref x5, .int (x6 * 5)]) (rr := []) n64_29 mo64 mm6_48 (by decide) mq42 rfl rfl rfl rfl (by rw [mo42]; exact hu8) (Nat.le_of_ble_eq_true rfl) (by rw [hn]; exact (okc (okr r_x4) (okc (okr r_v1) (okc rfl (okc (okr r_x5) (okc rfl okn)))))) (by rw [hn]; exact okn) (by rw [hn]; exact ok) (by rw [ml42]; exact Nat.le_of_ble_eq_true rfl) gq7 ?_
    have hn := (Rn.len gq7).trans hn
    show Rn _ 64 32 lv [] q7.2 c w _
    refine Rn.aload_n n64_32 l0 ?_
    obtain ⟨x9, hx9, h⟩ := Option.bind_eq_some_iff.mp h
    refine Rn.gf n64_33 mo64 fl6_26 (gfr_v hx9).1 ?_
    have r_x9 : x9 < n := by rw [← hn]; exact (gfr_v hx9).2
    refine Rn.aload_n n64_36 l0 ?_
    obtain ⟨x10, hx10, h⟩ := Option.bind_eq_some_iff.mp h
    refine Rn.gf n64_37 mo64 fl6_9 (gfi_v hx10) ?_
    refine Rn.iload_n n64_40 l2 ?_
    obtain ⟨hp11, hhp11, h⟩ := Option.bind_eq_some_iff.mp h
    refine Rn.iast n64_41 hhp11 ?_
    have hn := (wrI_st (st := []) hhp11).2.trans hn
    refine Rn.aload_n n64_42 l0 ?_
    refine Rn.p n64_43 rfl ?_
    obtain ⟨x12, hx12, h⟩ := Option.bind_eq_some_iff.mp h
    refine Rn.gf n64_44 mo64 fl6_9 (gfi_v hx12) ?_
    refine Rn.ic (v := 1) n64_47 (by decide) ?_
    refine Rn.p n64_48 rfl ?_
    obtain ⟨hp13, hhp13, h⟩ := Option.bind_eq_some_iff.mp h
    refine Rn.pf n64_49 mo64 fl6_9 ft6_2 rfl ff6_2 (fun _ _ hh => by cases hh) hhp13 ?_
    have hn := (pfv_len hhp13).trans hn
    refine Rn.ic (v := 1) n64_52 (by decide) ?_
    have e1 := (Prod.mk.inj (Option.some.inj h)).1
    have e2 := (Prod.mk.inj (Option.some.inj h)).2
    subst e1
    subst e2
    exact Rn.zret n64_53 mr64 (Or.inr rfl)
  · rw [if_neg hc3] at h
    refine Rn.c2f (t := 13) n64_8 (by decide) hc3 ?_
    refine Rn.ic (v := 0) n64_11 (by decide) ?_
    have e1 := (Prod.mk.inj (Option.some.inj h)).1
    have e2 := (Prod.mk.inj (Option.some.inj h)).2
    subst e1
    subst e2
    exact Rn.zret n64_12 mr64 (Or.inl rfl)
def e64 (F : Nat) (a0 : Nat) (a1 : Nat) (a2 : Int32) (hp : List mE) : Option (Int32 × List mE) := m64_0 F a0 a1 a2 hp
theorem c64 {d : Nat} (hd : 1 ≤ d) (F : Nat) (a0 : Nat) (a1 : Nat) (a2 : Int32) (hp : List mE) (v : Int32) (hp' : List mE) (ra0 : a0 < hp.length) (ra1 : a1 < hp.length) (h : e64 F a0 a1 a2 hp = some (v, hp')) : Rn d 64 0 (lv_args 0 [.ref a0, .ref a1, .int a2]) [] hp 0 0 (some (.int v), hp', 0, 0) :=
  t64_0 (n := hp.length) hd F a0 a1 a2 (lv_args 0 [.ref a0, .ref a1, .int a2]) hp v hp' rfl rfl rfl (lvk_args (okc (okr ra0) (okc (okr ra1) (okc rfl okn)))) rfl ra0 ra1 h
/-! MirrorRoots$Shelf.numberOf -/
def m62_0 (F : Nat) (v0 : Nat) (v1 : Nat) (v2 : Int32) (hp : List mE) : Option (Int32 × List mE) :=
  (rcv 6 hp v0).bind fun u2 =>
  (e66 F v0 v1 hp).bind fun q1 =>
  if mc2 .ne q1.1 ((-1)) = true then
    (rcv 6 q1.2 v0).bind fun u5 =>
    (e65 F v0 q1.1 q1.2).bind fun q4 =>
    if mc1 .eq q4.1 = true then
      (rcv 6 q4.2 v0).bind fun u8 =>
      (e64 F v0 v1 v2 q4.2).bind fun q7 =>
      if mc1 .ne q7.1 = true then
        (gfr 6 5 q7.2 v0).bind fun x10 =>
        (gfi 6 2 q7.2 v0).bind fun x11 =>
        (wrI q7.2 x10 q1.1 (x11 - 1)).bind fun hp12 =>
        (gfr 6 6 hp12 v0).bind fun x13 =>
        (gfi 6 2 hp12 v0).bind fun x14 =>
        (wrI hp12 x13 (x14 - 1) q1.1).bind fun hp15 =>
        (gfi 6 2 hp15 v0).bind fun x16 =>
        some (x16 - 1, hp15)
      else
        some ((-1), q7.2)
    else
      (gfr 6 5 q4.2 v0).bind fun x17 =>
      (rdI q4.2 x17 q1.1).bind fun x18 =>
      some (x18, q4.2)
  else
    some ((-1), q1.2)
theorem t62_0 {d c w n : Nat} (hd : 2 ≤ d) (F : Nat) : ∀ (v0 : Nat) (v1 : Nat) (v2 : Int32) (lv : List (Nat × Value)) (hp : List mE) (v : Int32) (hp' : List mE), alk 0 lv = some (.ref v0) → alk 1 lv = some (.ref v1) → alk 2 lv = some (.int v2) → lvk n lv → hp.length = n → v0 < n → v1 < n → m62_0 F v0 v1 v2 hp = some (v, hp') → Rn d 62 0 lv [] hp c w (some (.int v), hp', c, w) := by
  obtain ⟨d', rfl⟩ : ∃ d', d = d' + 1 := ⟨d - 1, by omega⟩
  intro v0 v1 v2 lv hp v hp' l0 l1 l2 ok hn r_v0 r_v1 h
  unfold m62_0 at h
  refine Rn.aload_n n62_0 l0 ?_
  refine Rn.aload_n n62_1 l1 ?_
  obtain ⟨u2, hu2, h⟩ := Option.bind_eq_some_iff.mp h
  obtain ⟨q1, hq1, h⟩ := Option.bind_eq_some_iff.mp h
  have gq1 := c66 (d := d') (by omega) F _ _ _ _ _ (by rw [hn]; exact r_v0) (by rw [hn]; exact r_v1) hq1
  refine Rn.cv (As := [.ref v1]) (rr := []) n62_2 mo62 mm6_36 (by decide) mq66 rfl rfl rfl rfl (by rw [mo66]; exact hu2) (Nat.le_of_ble_eq_true rfl) (by rw [hn]; exact (okc (okr r_v0) (okc (okr r_v1) okn))) (by rw [hn]; exact okn) (by rw [hn]; exact ok) (by rw [ml66]; exact Nat.le_of_ble_eq_true rfl) gq1 ?_
  have hn := (Rn.len gq1).trans hn
  show Rn _ 62 5 lv [.int q1.1] q1.2 c w _
  refine Rn.isn (m := n) n62_5 rfl ml62 (by decide) (fun lv l3 hk hok => ?_)
  have l0 := hk 0 _ (by decide) (Or.inl rfl) l0
  have l1 := hk 1 _ (by decide) (Or.inl rfl) l1
  have l2 := hk 2 _ (by decide) (Or.inl rfl) l2
  have ok := hok ok
  refine Rn.iload_n n62_6 l3 ?_
  refine Rn.ic (v := (-1)) n62_7 (by decide) ?_
  by_cases hc3 : mc2 .ne q1.1 ((-1)) = true
  · rw [if_pos hc3] at h
    refine Rn.c2t (t := 13) n62_8 (by decide) hc3 ?_
    refine Rn.aload_n n62_13 l0 ?_
    refine Rn.iload_n n62_14 l3 ?_
    obtain ⟨u5, hu5, h⟩ := Option.bind_eq_some_iff.mp h
    obtain ⟨q4, hq4, h⟩ := Option.bind_eq_some_iff.mp h
    have gq4 := c65 (d := d') (by omega) F _ _ _ _ _ (by rw [hn]; exact r_v0) hq4
    refine Rn.cv (As := [.int q1.1]) (rr := []) n62_15 mo62 mm6_40 (by decide) mq65 rfl rfl rfl rfl (by rw [mo65]; exact hu5) (Nat.le_of_ble_eq_true rfl) (by rw [hn]; exact (okc (okr r_v0) (okc rfl okn))) (by rw [hn]; exact okn) (by rw [hn]; exact ok) (by rw [ml65]; exact Nat.le_of_ble_eq_true rfl) gq4 ?_
    have hn := (Rn.len gq4).trans hn
    show Rn _ 62 18 lv [.int q4.1] q4.2 c w _
    by_cases hc6 : mc1 .eq q4.1 = true
    · rw [if_pos hc6] at h
      refine Rn.c1t (t := 28) n62_18 (by decide) hc6 ?_
      refine Rn.aload_n n62_28 l0 ?_
      refine Rn.aload_n n62_29 l1 ?_
      refine Rn.iload_n n62_30 l2 ?_
      obtain ⟨u8, hu8, h⟩ := Option.bind_eq_some_iff.mp h
      obtain ⟨q7, hq7, h⟩ := Option.bind_eq_some_iff.mp h
      have gq7 := c64 (d := d') (by omega) F _ _ _ _ _ _ (by rw [hn]; exact r_v0) (by rw [hn]; exact r_v1) hq7
      refine Rn.cv (As := [.ref v1, .int v2]) (rr := []) n62_31 mo62 mm6_44 (by decide) mq64 rfl rfl rfl rfl (by rw [mo64]; exact hu8) (Nat.le_of_ble_eq_true rfl) (by rw [hn]; exact (okc (okr r_v0) (okc (okr r_v1) (okc rfl okn)))) (by rw [hn]; exact okn) (by rw [hn]; exact ok) (by rw [ml64]; exact Nat.le_of_ble_eq_true rfl) gq7 ?_
      have hn := (Rn.len gq7).trans hn
      show Rn _ 62 34 lv [.int q7.1] q7.2 c w _
      by_cases hc9 : mc1 .ne q7.1 = true
      · rw [if_pos hc9] at h
        refine Rn.c1t (t := 39) n62_34 (by decide) hc9 ?_
        refine Rn.aload_n n62_39 l0 ?_
        obtain ⟨x10, hx10, h⟩ := Option.bind_eq_some_iff.mp h
        refine Rn.gf n62_40 mo62 fl6_30 (gfr_v hx10).1 ?_
        have r_x10 : x10 < n := by rw [← hn]; exact (gfr_v hx10).2
        refine Rn.iload_n n62_43 l3 ?_
        refine Rn.aload_n n62_44 l0 ?_
        obtain ⟨x11, hx11, h⟩ := Option.bind_eq_some_iff.mp h
        refine Rn.gf n62_45 mo62 fl6_9 (gfi_v hx11) ?_
        refine Rn.ic (v := 1) n62_48 (by decide) ?_
        refine Rn.p n62_49 rfl ?_
        obtain ⟨hp12, hhp12, h⟩ := Option.bind_eq_some_iff.mp h
        refine Rn.iast n62_50 hhp12 ?_
        have hn := (wrI_st (st := []) hhp12).2.trans hn
        refine Rn.aload_n n62_51 l0 ?_
        obtain ⟨x13, hx13, h⟩ := Option.bind_eq_some_iff.mp h
        refine Rn.gf n62_52 mo62 fl6_33 (gfr_v hx13).1 ?_
        have r_x13 : x13 < n := by rw [← hn]; exact (gfr_v hx13).2
        refine Rn.aload_n n62_55 l0 ?_
        obtain ⟨x14, hx14, h⟩ := Option.bind_eq_some_iff.mp h
        refine Rn.gf n62_56 mo62 fl6_9 (gfi_v hx14) ?_
        refine Rn.ic (v := 1) n62_59 (by decide) ?_
        refine Rn.p n62_60 rfl ?_
        refine Rn.iload_n n62_61 l3 ?_
        obtain ⟨hp15, hhp15, h⟩ := Option.bind_eq_some_iff.mp h
        refine Rn.iast n62_62 hhp15 ?_
        have hn := (wrI_st (st := []) hhp15).2.trans hn
        refine Rn.aload_n n62_63 l0 ?_
        obtain ⟨x16, hx16, h⟩ := Option.bind_eq_some_iff.mp h
        refine Rn.gf n62_64 mo62 fl6_9 (gfi_v hx16) ?_
        refine Rn.ic (v := 1) n62_67 (by decide) ?_
        refine Rn.p n62_68 rfl ?_
        have e1 := (Prod.mk.inj (Option.some.inj h)).1
        have e2 := (Prod.mk.inj (Option.some.inj h)).2
        subst e1
        subst e2
        exact Rn.iret n62_69 mr62
      · rw [if_neg hc9] at h
        refine Rn.c1f (t := 39) n62_34 (by decide) hc9 ?_
        refine Rn.ic (v := (-1)) n62_37 (by decide) ?_
        have e1 := (Prod.mk.inj (Option.some.inj h)).1
        have e2 := (Prod.mk.inj (Option.some.inj h)).2
        subst e1
        subst e2
        exact Rn.iret n62_38 mr62
    · rw [if_neg hc6] at h
      refine Rn.c1f (t := 28) n62_18 (by decide) hc6 ?_
      refine Rn.aload_n n62_21 l0 ?_
      obtain ⟨x17, hx17, h⟩ := Option.bind_eq_some_iff.mp h
      refine Rn.gf n62_22 mo62 fl6_30 (gfr_v hx17).1 ?_
      have r_x17 : x17 < n := by rw [← hn]; exact (gfr_v hx17).2
      refine Rn.iload_n n62_25 l3 ?_
      obtain ⟨x18, hx18, h⟩ := Option.bind_eq_some_iff.mp h
      refine Rn.iald n62_26 hx18 ?_
      have e1 := (Prod.mk.inj (Option.some.inj h)).1
      have e2 := (Prod.mk.inj (Option.some.inj h)).2
      subst e1
      subst e2
      exact Rn.iret n62_27 mr62
  · rw [if_neg hc3] at h
    refine Rn.c2f (t := 13) n62_8 (by decide) hc3 ?_
    refine Rn.ic (v := (-1)) n62_11 (by decide) ?_
    have e1 := (Prod.mk.inj (Option.some.inj h)).1
    have e2 := (Prod.mk.inj (Option.some.inj h)).2
    subst e1
    subst e2
    exact Rn.iret n62_12 mr62
def e62 (F : Nat) (a0 : Nat) (a1 : Nat) (a2 : Int32) (hp : List mE) : Option (Int32 × List mE) := m62_0 F a0 a1 a2 hp
theorem c62 {d : Nat} (hd : 2 ≤ d) (F : Nat) (a0 : Nat) (a1 : Nat) (a2 : Int32) (hp : List mE) (v : Int32) (hp' : List mE) (ra0 : a0 < hp.length) (ra1 : a1 < hp.length) (h : e62 F a0 a1 a2 hp = some (v, hp')) : Rn d 62 0 (lv_args 0 [.ref a0, .ref a1, .int a2]) [] hp 0 0 (some (.int v), hp', 0, 0) :=
  t62_0 (n := hp.length) hd F a0 a1 a2 (lv_args 0 [.ref a0, .ref a1, .int a2]) hp v hp' rfl rfl rfl (lvk_args (okc (okr ra0) (okc (okr ra1) (okc rfl okn)))) rfl ra0 ra1 h
/-! MirrorRoots$Ideal.join -/
def m7_102 (F : Nat) (v0 : Nat) (v1 : Int32) (v2 : Int32) (v4 : Int32) (hp : List mE) : Option (Unit × List mE) :=
  (gfr 0 4 hp v0).bind fun x1 =>
  (wrI hp x1 ((v1 * 5) + v2) v4).bind fun hp2 =>
  (gfr 0 4 hp2 v0).bind fun x3 =>
  (wrI hp2 x3 ((v4 * 5) + v2) v1).bind fun hp4 =>
  some ((), hp4)
theorem t7_102 {d c w n : Nat} (hd : 3 ≤ d) (F : Nat) : ∀ (v0 : Nat) (v1 : Int32) (v2 : Int32) (v4 : Int32) (lv : List (Nat × Value)) (hp : List mE) (v : Unit) (hp' : List mE), alk 0 lv = some (.ref v0) → alk 1 lv = some (.int v1) → alk 2 lv = some (.int v2) → alk 4 lv = some (.int v4) → lvk n lv → hp.length = n → v0 < n → m7_102 F v0 v1 v2 v4 hp = some (v, hp') → Rn d 7 102 lv [] hp c w (none, hp', c, w) := by
  obtain ⟨d', rfl⟩ : ∃ d', d = d' + 1 := ⟨d - 1, by omega⟩
  intro v0 v1 v2 v4 lv hp v hp' l0 l1 l2 l4 ok hn r_v0 h
  unfold m7_102 at h
  refine Rn.aload_n n7_102 l0 ?_
  obtain ⟨x1, hx1, h⟩ := Option.bind_eq_some_iff.mp h
  refine Rn.gf n7_103 mo7 fl0_15 (gfr_v hx1).1 ?_
  have r_x1 : x1 < n := by rw [← hn]; exact (gfr_v hx1).2
  refine Rn.iload_n n7_106 l1 ?_
  refine Rn.ic (v := 5) n7_107 (by decide) ?_
  refine Rn.p n7_108 rfl ?_
  refine Rn.iload_n n7_109 l2 ?_
  refine Rn.p n7_110 rfl ?_
  refine Rn.iload n7_111 l4 ?_
  obtain ⟨hp2, hhp2, h⟩ := Option.bind_eq_some_iff.mp h
  refine Rn.iast n7_113 hhp2 ?_
  have hn := (wrI_st (st := []) hhp2).2.trans hn
  refine Rn.aload_n n7_114 l0 ?_
  obtain ⟨x3, hx3, h⟩ := Option.bind_eq_some_iff.mp h
  refine Rn.gf n7_115 mo7 fl0_15 (gfr_v hx3).1 ?_
  have r_x3 : x3 < n := by rw [← hn]; exact (gfr_v hx3).2
  refine Rn.iload n7_118 l4 ?_
  refine Rn.ic (v := 5) n7_120 (by decide) ?_
  refine Rn.p n7_121 rfl ?_
  refine Rn.iload_n n7_122 l2 ?_
  refine Rn.p n7_123 rfl ?_
  refine Rn.iload_n n7_124 l1 ?_
  obtain ⟨hp4, hhp4, h⟩ := Option.bind_eq_some_iff.mp h
  refine Rn.iast n7_125 hhp4 ?_
  have hn := (wrI_st (st := []) hhp4).2.trans hn
  have e1 := (Prod.mk.inj (Option.some.inj h)).1
  have e2 := (Prod.mk.inj (Option.some.inj h)).2
  subst e1
  subst e2
  exact Rn.vret n7_126 mr7
def m7_77 (F : Nat) (v0 : Nat) (v1 : Int32) (v2 : Int32) (v3 : Int32) (t0 : Nat) (t1 : Nat) (t2 : Int32) (t3 : Int32) (hp : List mE) : Option (Unit × List mE) :=
  (rcv 6 hp t0).bind fun u2 =>
  (e62 F t0 t1 (t2 + t3) hp).bind fun q1 =>
  if mc2 .ne q1.1 ((-1)) = true then
    if mc2 .ne q1.1 v3 = true then
      m7_102 F v0 v1 v2 q1.1 q1.2
    else
      (rcv 0 q1.2 v0).bind fun u6 =>
      (e8 F v0 q1.1 q1.2).bind fun q5 =>
      m7_102 F v0 v1 v2 q1.1 q5.2
  else
    some ((), q1.2)
theorem t7_77 {d c w n : Nat} (hd : 3 ≤ d) (F : Nat) : ∀ (v0 : Nat) (v1 : Int32) (v2 : Int32) (v3 : Int32) (t0 : Nat) (t1 : Nat) (t2 : Int32) (t3 : Int32) (lv : List (Nat × Value)) (hp : List mE) (v : Unit) (hp' : List mE), alk 0 lv = some (.ref v0) → alk 1 lv = some (.int v1) → alk 2 lv = some (.int v2) → alk 3 lv = some (.int v3) → lvk n lv → hp.length = n → v0 < n → t0 < n → t1 < n → m7_77 F v0 v1 v2 v3 t0 t1 t2 t3 hp = some (v, hp') → Rn d 7 77 lv [.int t3, .int t2, .ref t1, .ref t0] hp c w (none, hp', c, w) := by
  obtain ⟨d', rfl⟩ : ∃ d', d = d' + 1 := ⟨d - 1, by omega⟩
  intro v0 v1 v2 v3 t0 t1 t2 t3 lv hp v hp' l0 l1 l2 l3 ok hn r_v0 r_t0 r_t1 h
  unfold m7_77 at h
  refine Rn.p n7_77 rfl ?_
  obtain ⟨u2, hu2, h⟩ := Option.bind_eq_some_iff.mp h
  obtain ⟨q1, hq1, h⟩ := Option.bind_eq_some_iff.mp h
  have gq1 := c62 (d := d') (by omega) F _ _ _ _ _ _ (by rw [hn]; exact r_t0) (by rw [hn]; exact r_t1) hq1
  refine Rn.cv (As := [.ref t1, .int (t2 + t3)]) (rr := []) n7_78 mo7 mm0_88 (by decide) mq62 rfl rfl rfl rfl (by rw [mo62]; exact hu2) (Nat.le_of_ble_eq_true rfl) (by rw [hn]; exact (okc (okr r_t0) (okc (okr r_t1) (okc rfl okn)))) (by rw [hn]; exact okn) (by rw [hn]; exact ok) (by rw [ml62]; exact Nat.le_of_ble_eq_true rfl) gq1 ?_
  have hn := (Rn.len gq1).trans hn
  show Rn _ 7 81 lv [.int q1.1] q1.2 c w _
  refine Rn.is (m := n) n7_81 ml7 (by decide) (fun lv l4 hk hok => ?_)
  have l0 := hk 0 _ (by decide) (Or.inl rfl) l0
  have l1 := hk 1 _ (by decide) (Or.inl rfl) l1
  have l2 := hk 2 _ (by decide) (Or.inl rfl) l2
  have l3 := hk 3 _ (by decide) (Or.inl rfl) l3
  have ok := hok ok
  refine Rn.iload n7_83 l4 ?_
  refine Rn.ic (v := (-1)) n7_85 (by decide) ?_
  by_cases hc3 : mc2 .ne q1.1 ((-1)) = true
  · rw [if_pos hc3] at h
    refine Rn.c2t (t := 90) n7_86 (by decide) hc3 ?_
    refine Rn.iload n7_90 l4 ?_
    refine Rn.iload_n n7_92 l3 ?_
    by_cases hc4 : mc2 .ne q1.1 v3 = true
    · rw [if_pos hc4] at h
      refine Rn.c2t (t := 102) n7_93 (by decide) hc4 ?_
      exact t7_102 hd F  _ _ _ _ lv _ _ _ l0 l1 l2 l4 ok hn r_v0  h
    · rw [if_neg hc4] at h
      refine Rn.c2f (t := 102) n7_93 (by decide) hc4 ?_
      refine Rn.aload_n n7_96 l0 ?_
      refine Rn.iload n7_97 l4 ?_
      obtain ⟨u6, hu6, h⟩ := Option.bind_eq_some_iff.mp h
      obtain ⟨q5, hq5, h⟩ := Option.bind_eq_some_iff.mp h
      have gq5 := c8 (d := d') (by omega) F _ _ _ _ _ (by rw [hn]; exact r_v0) hq5
      refine Rn.cv (As := [.int q1.1]) (rr := []) n7_99 mo7 mm0_92 (by decide) mq8 rfl rfl rfl rfl (by rw [mo8]; exact hu6) (Nat.le_of_ble_eq_true rfl) (by rw [hn]; exact (okc (okr r_v0) (okc rfl okn))) (by rw [hn]; exact okn) (by rw [hn]; exact ok) (by rw [ml8]; exact Nat.le_of_ble_eq_true rfl) gq5 ?_
      have hn := (Rn.len gq5).trans hn
      show Rn _ 7 102 lv [] q5.2 c w _
      exact t7_102 hd F  _ _ _ _ lv _ _ _ l0 l1 l2 l4 ok hn r_v0  h
  · rw [if_neg hc3] at h
    refine Rn.c2f (t := 90) n7_86 (by decide) hc3 ?_
    have e1 := (Prod.mk.inj (Option.some.inj h)).1
    have e2 := (Prod.mk.inj (Option.some.inj h)).2
    subst e1
    subst e2
    exact Rn.vret n7_89 mr7
def m7_0 (F : Nat) (v0 : Nat) (v1 : Int32) (v2 : Int32) (hp : List mE) : Option (Unit × List mE) :=
  (gfr 0 2 hp v0).bind fun x1 =>
  (gfi 6 2 hp x1).bind fun x2 =>
  (gfr 0 0 hp v0).bind fun x3 =>
  (gfr 0 2 hp v0).bind fun x4 =>
  (gfr 6 3 hp x4).bind fun x5 =>
  (gfr 0 3 hp v0).bind fun x6 =>
  (rcv 3 hp x3).bind fun u8 =>
  (e42 F x3 x5 (v1 * 5) x6 0 hp).bind fun q7 =>
  (gfr 0 0 q7.2 v0).bind fun x9 =>
  (gfr 0 3 q7.2 v0).bind fun x10 =>
  (rcv 3 q7.2 x9).bind fun u12 =>
  (e41 F x9 x10 0 v2 q7.2).bind fun q11 =>
  (gfr 0 2 q11.2 v0).bind fun x13 =>
  (gfr 0 3 q11.2 v0).bind fun x14 =>
  (gfr 0 2 q11.2 v0).bind fun x15 =>
  (gfr 6 4 q11.2 x15).bind fun x16 =>
  (rdI q11.2 x16 v1).bind fun x17 =>
  (gfr 0 2 q11.2 v0).bind fun x18 =>
  (rcv 6 q11.2 x18).bind fun u20 =>
  (e61 F x18 v1 v2 q11.2).bind fun q19 =>
  if mc1 .eq q19.1 = true then
    m7_77 F v0 v1 v2 x2 x13 x14 x17 1 q19.2
  else
    m7_77 F v0 v1 v2 x2 x13 x14 x17 ((-1)) q19.2
theorem t7_0 {d c w n : Nat} (hd : 3 ≤ d) (F : Nat) : ∀ (v0 : Nat) (v1 : Int32) (v2 : Int32) (lv : List (Nat × Value)) (hp : List mE) (v : Unit) (hp' : List mE), alk 0 lv = some (.ref v0) → alk 1 lv = some (.int v1) → alk 2 lv = some (.int v2) → lvk n lv → hp.length = n → v0 < n → m7_0 F v0 v1 v2 hp = some (v, hp') → Rn d 7 0 lv [] hp c w (none, hp', c, w) := by
  obtain ⟨d', rfl⟩ : ∃ d', d = d' + 1 := ⟨d - 1, by omega⟩
  intro v0 v1 v2 lv hp v hp' l0 l1 l2 ok hn r_v0 h
  unfold m7_0 at h
  refine Rn.aload_n n7_0 l0 ?_
  obtain ⟨x1, hx1, h⟩ := Option.bind_eq_some_iff.mp h
  refine Rn.gf n7_1 mo7 fl0_44 (gfr_v hx1).1 ?_
  have r_x1 : x1 < n := by rw [← hn]; exact (gfr_v hx1).2
  obtain ⟨x2, hx2, h⟩ := Option.bind_eq_some_iff.mp h
  refine Rn.gf n7_4 mo7 fl0_70 (gfi_v hx2) ?_
  refine Rn.isn (m := n) n7_7 rfl ml7 (by decide) (fun lv l3 hk hok => ?_)
  have l0 := hk 0 _ (by decide) (Or.inl rfl) l0
  have l1 := hk 1 _ (by decide) (Or.inl rfl) l1
  have l2 := hk 2 _ (by decide) (Or.inl rfl) l2
  have ok := hok ok
  refine Rn.aload_n n7_8 l0 ?_
  obtain ⟨x3, hx3, h⟩ := Option.bind_eq_some_iff.mp h
  refine Rn.gf n7_9 mo7 fl0_31 (gfr_v hx3).1 ?_
  have r_x3 : x3 < n := by rw [← hn]; exact (gfr_v hx3).2
  refine Rn.aload_n n7_12 l0 ?_
  obtain ⟨x4, hx4, h⟩ := Option.bind_eq_some_iff.mp h
  refine Rn.gf n7_13 mo7 fl0_44 (gfr_v hx4).1 ?_
  have r_x4 : x4 < n := by rw [← hn]; exact (gfr_v hx4).2
  obtain ⟨x5, hx5, h⟩ := Option.bind_eq_some_iff.mp h
  refine Rn.gf n7_16 mo7 fl0_106 (gfr_v hx5).1 ?_
  have r_x5 : x5 < n := by rw [← hn]; exact (gfr_v hx5).2
  refine Rn.iload_n n7_19 l1 ?_
  refine Rn.ic (v := 5) n7_20 (by decide) ?_
  refine Rn.p n7_21 rfl ?_
  refine Rn.aload_n n7_22 l0 ?_
  obtain ⟨x6, hx6, h⟩ := Option.bind_eq_some_iff.mp h
  refine Rn.gf n7_23 mo7 fl0_11 (gfr_v hx6).1 ?_
  have r_x6 : x6 < n := by rw [← hn]; exact (gfr_v hx6).2
  refine Rn.ic (v := 0) n7_26 (by decide) ?_
  obtain ⟨u8, hu8, h⟩ := Option.bind_eq_some_iff.mp h
  obtain ⟨q7, hq7, h⟩ := Option.bind_eq_some_iff.mp h
  have gq7 := c42 (d := d') (by omega) F _ _ _ _ _ _ _ _ (by rw [hn]; exact r_x3) (by rw [hn]; exact r_x5) (by rw [hn]; exact r_x6) hq7
  refine Rn.cv (As := [.ref x5, .int (v1 * 5), .ref x6, .int 0]) (rr := []) n7_27 mo7 mm0_53 (by decide) mq42 rfl rfl rfl rfl (by rw [mo42]; exact hu8) (Nat.le_of_ble_eq_true rfl) (by rw [hn]; exact (okc (okr r_x3) (okc (okr r_x5) (okc rfl (okc (okr r_x6) (okc rfl okn)))))) (by rw [hn]; exact okn) (by rw [hn]; exact ok) (by rw [ml42]; exact Nat.le_of_ble_eq_true rfl) gq7 ?_
  have hn := (Rn.len gq7).trans hn
  show Rn _ 7 30 lv [] q7.2 c w _
  refine Rn.aload_n n7_30 l0 ?_
  obtain ⟨x9, hx9, h⟩ := Option.bind_eq_some_iff.mp h
  refine Rn.gf n7_31 mo7 fl0_31 (gfr_v hx9).1 ?_
  have r_x9 : x9 < n := by rw [← hn]; exact (gfr_v hx9).2
  refine Rn.aload_n n7_34 l0 ?_
  obtain ⟨x10, hx10, h⟩ := Option.bind_eq_some_iff.mp h
  refine Rn.gf n7_35 mo7 fl0_11 (gfr_v hx10).1 ?_
  have r_x10 : x10 < n := by rw [← hn]; exact (gfr_v hx10).2
  refine Rn.ic (v := 0) n7_38 (by decide) ?_
  refine Rn.iload_n n7_39 l2 ?_
  obtain ⟨u12, hu12, h⟩ := Option.bind_eq_some_iff.mp h
  obtain ⟨q11, hq11, h⟩ := Option.bind_eq_some_iff.mp h
  have gq11 := c41 (d := d') (by omega) F _ _ _ _ _ _ _ (by rw [hn]; exact r_x9) (by rw [hn]; exact r_x10) hq11
  refine Rn.cv (As := [.ref x10, .int 0, .int v2]) (rr := []) n7_40 mo7 mm0_109 (by decide) mq41 rfl rfl rfl rfl (by rw [mo41]; exact hu12) (Nat.le_of_ble_eq_true rfl) (by rw [hn]; exact (okc (okr r_x9) (okc (okr r_x10) (okc rfl (okc rfl okn))))) (by rw [hn]; exact okn) (by rw [hn]; exact ok) (by rw [ml41]; exact Nat.le_of_ble_eq_true rfl) gq11 ?_
  have hn := (Rn.len gq11).trans hn
  show Rn _ 7 43 lv [] q11.2 c w _
  refine Rn.aload_n n7_43 l0 ?_
  obtain ⟨x13, hx13, h⟩ := Option.bind_eq_some_iff.mp h
  refine Rn.gf n7_44 mo7 fl0_44 (gfr_v hx13).1 ?_
  have r_x13 : x13 < n := by rw [← hn]; exact (gfr_v hx13).2
  refine Rn.aload_n n7_47 l0 ?_
  obtain ⟨x14, hx14, h⟩ := Option.bind_eq_some_iff.mp h
  refine Rn.gf n7_48 mo7 fl0_11 (gfr_v hx14).1 ?_
  have r_x14 : x14 < n := by rw [← hn]; exact (gfr_v hx14).2
  refine Rn.aload_n n7_51 l0 ?_
  obtain ⟨x15, hx15, h⟩ := Option.bind_eq_some_iff.mp h
  refine Rn.gf n7_52 mo7 fl0_44 (gfr_v hx15).1 ?_
  have r_x15 : x15 < n := by rw [← hn]; exact (gfr_v hx15).2
  obtain ⟨x16, hx16, h⟩ := Option.bind_eq_some_iff.mp h
  refine Rn.gf n7_55 mo7 fl0_113 (gfr_v hx16).1 ?_
  have r_x16 : x16 < n := by rw [← hn]; exact (gfr_v hx16).2
  refine Rn.iload_n n7_58 l1 ?_
  obtain ⟨x17, hx17, h⟩ := Option.bind_eq_some_iff.mp h
  refine Rn.iald n7_59 hx17 ?_
  refine Rn.aload_n n7_60 l0 ?_
  obtain ⟨x18, hx18, h⟩ := Option.bind_eq_some_iff.mp h
  refine Rn.gf n7_61 mo7 fl0_44 (gfr_v hx18).1 ?_
  have r_x18 : x18 < n := by rw [← hn]; exact (gfr_v hx18).2
  refine Rn.iload_n n7_64 l1 ?_
  refine Rn.iload_n n7_65 l2 ?_
  obtain ⟨u20, hu20, h⟩ := Option.bind_eq_some_iff.mp h
  obtain ⟨q19, hq19, h⟩ := Option.bind_eq_some_iff.mp h
  have gq19 := c61 (d := d') (by omega) F _ _ _ _ _ _ (by rw [hn]; exact r_x18) hq19
  refine Rn.cv (As := [.int v1, .int v2]) (rr := [.int x17, .ref x14, .ref x13]) n7_66 mo7 mm0_114 (by decide) mq61 rfl rfl rfl rfl (by rw [mo61]; exact hu20) (Nat.le_of_ble_eq_true rfl) (by rw [hn]; exact (okc (okr r_x18) (okc rfl (okc rfl okn)))) (by rw [hn]; exact (okc rfl (okc (okr r_x14) (okc (okr r_x13) okn)))) (by rw [hn]; exact ok) (by rw [ml61]; exact Nat.le_of_ble_eq_true rfl) gq19 ?_
  have hn := (Rn.len gq19).trans hn
  show Rn _ 7 69 lv [.int q19.1, .int x17, .ref x14, .ref x13] q19.2 c w _
  by_cases hc21 : mc1 .eq q19.1 = true
  · rw [if_pos hc21] at h
    refine Rn.c1t (t := 76) n7_69 (by decide) hc21 ?_
    refine Rn.ic (v := 1) n7_76 (by decide) ?_
    exact t7_77 hd F  _ _ _ _ _ _ _ _ lv _ _ _ l0 l1 l2 l3 ok hn r_v0 r_x13 r_x14 h
  · rw [if_neg hc21] at h
    refine Rn.c1f (t := 76) n7_69 (by decide) hc21 ?_
    refine Rn.ic (v := (-1)) n7_72 (by decide) ?_
    refine Rn.goto (t := 77) n7_73 (by decide) ?_
    exact t7_77 hd F  _ _ _ _ _ _ _ _ lv _ _ _ l0 l1 l2 l3 ok hn r_v0 r_x13 r_x14 h
def e7 (F : Nat) (a0 : Nat) (a1 : Int32) (a2 : Int32) (hp : List mE) : Option (Unit × List mE) := m7_0 F a0 a1 a2 hp
theorem c7 {d : Nat} (hd : 3 ≤ d) (F : Nat) (a0 : Nat) (a1 : Int32) (a2 : Int32) (hp : List mE) (v : Unit) (hp' : List mE) (ra0 : a0 < hp.length) (h : e7 F a0 a1 a2 hp = some (v, hp')) : Rn d 7 0 (lv_args 0 [.ref a0, .int a1, .int a2]) [] hp 0 0 (none, hp', 0, 0) :=
  t7_0 (n := hp.length) hd F a0 a1 a2 (lv_args 0 [.ref a0, .int a1, .int a2]) hp v hp' rfl rfl rfl (lvk_args (okc (okr ra0) (okc rfl (okc rfl okn)))) rfl ra0 h
/-! MirrorRoots$Kept.letterOf -/
def m17_0 (F : Nat) (v0 : Nat) (v1 : Int32) (v2 : Int32) (hp : List mE) : Option (Int32 × List mE) :=
  (gfr 1 2 hp v0).bind fun x1 =>
  (rdI hp x1 ((v1 * 20) + v2)).bind fun x2 =>
  some (x2, hp)
theorem t17_0 {d c w n : Nat} (hd : 0 ≤ d) (F : Nat) : ∀ (v0 : Nat) (v1 : Int32) (v2 : Int32) (lv : List (Nat × Value)) (hp : List mE) (v : Int32) (hp' : List mE), alk 0 lv = some (.ref v0) → alk 1 lv = some (.int v1) → alk 2 lv = some (.int v2) → lvk n lv → hp.length = n → v0 < n → m17_0 F v0 v1 v2 hp = some (v, hp') → Rn d 17 0 lv [] hp c w (some (.int v), hp', c, w) := by
  intro v0 v1 v2 lv hp v hp' l0 l1 l2 ok hn r_v0 h
  unfold m17_0 at h
  refine Rn.aload_n n17_0 l0 ?_
  obtain ⟨x1, hx1, h⟩ := Option.bind_eq_some_iff.mp h
  refine Rn.gf n17_1 mo17 fl1_9 (gfr_v hx1).1 ?_
  have r_x1 : x1 < n := by rw [← hn]; exact (gfr_v hx1).2
  refine Rn.iload_n n17_4 l1 ?_
  refine Rn.bp (v := 20) n17_5 (by decide) ?_
  refine Rn.p n17_7 rfl ?_
  refine Rn.iload_n n17_8 l2 ?_
  refine Rn.p n17_9 rfl ?_
  obtain ⟨x2, hx2, h⟩ := Option.bind_eq_some_iff.mp h
  refine Rn.iald n17_10 hx2 ?_
  have e1 := (Prod.mk.inj (Option.some.inj h)).1
  have e2 := (Prod.mk.inj (Option.some.inj h)).2
  subst e1
  subst e2
  exact Rn.iret n17_11 mr17
def e17 (F : Nat) (a0 : Nat) (a1 : Int32) (a2 : Int32) (hp : List mE) : Option (Int32 × List mE) := m17_0 F a0 a1 a2 hp
theorem c17 {d : Nat} (hd : 0 ≤ d) (F : Nat) (a0 : Nat) (a1 : Int32) (a2 : Int32) (hp : List mE) (v : Int32) (hp' : List mE) (ra0 : a0 < hp.length) (h : e17 F a0 a1 a2 hp = some (v, hp')) : Rn d 17 0 (lv_args 0 [.ref a0, .int a1, .int a2]) [] hp 0 0 (some (.int v), hp', 0, 0) :=
  t17_0 (n := hp.length) hd F a0 a1 a2 (lv_args 0 [.ref a0, .int a1, .int a2]) hp v hp' rfl rfl rfl (lvk_args (okc (okr ra0) (okc rfl (okc rfl okn)))) rfl ra0 h
/-! MirrorRoots$Mirrors.startWeights -/
def m40_2 (F : Nat) : Nat → Nat → Nat → Int32 → Int32 → List mE → Option (Unit × List mE)
  | 0, _, _, _, _, _ => none
  | f + 1, v0, v1, v2, v3, hp =>
    (gfi 3 0 hp v0).bind fun x1 =>
    if mc2 .ge v3 x1 = true then
      some ((), hp)
    else
      (wrJ hp v1 (v2 + v3) 1).bind fun hp3 =>
      m40_2 F f v0 v1 v2 (v3 + 1) hp3
theorem t40_2 {d c w n : Nat} (hd : 0 ≤ d) (F : Nat) : ∀ f : Nat, ∀ (v0 : Nat) (v1 : Nat) (v2 : Int32) (v3 : Int32) (lv : List (Nat × Value)) (hp : List mE) (v : Unit) (hp' : List mE), alk 0 lv = some (.ref v0) → alk 1 lv = some (.ref v1) → alk 2 lv = some (.int v2) → alk 3 lv = some (.int v3) → lvk n lv → hp.length = n → v0 < n → v1 < n → m40_2 F f v0 v1 v2 v3 hp = some (v, hp') → Rn d 40 2 lv [] hp c w (none, hp', c, w) := by
  intro f
  induction f with
  | zero => intro v0 v1 v2 v3 lv hp v hp' l0 l1 l2 l3 ok hn r_v0 r_v1 h; cases h
  | succ f hr2 =>
    intro v0 v1 v2 v3 lv hp v hp' l0 l1 l2 l3 ok hn r_v0 r_v1 h
    unfold m40_2 at h
    refine Rn.iload_n n40_2 l3 ?_
    refine Rn.aload_n n40_3 l0 ?_
    obtain ⟨x1, hx1, h⟩ := Option.bind_eq_some_iff.mp h
    refine Rn.gf n40_4 mo40 fl3_18 (gfi_v hx1) ?_
    by_cases hc2 : mc2 .ge v3 x1 = true
    · rw [if_pos hc2] at h
      refine Rn.c2t (t := 22) n40_7 (by decide) hc2 ?_
      have e1 := (Prod.mk.inj (Option.some.inj h)).1
      have e2 := (Prod.mk.inj (Option.some.inj h)).2
      subst e1
      subst e2
      exact Rn.vret n40_22 mr40
    · rw [if_neg hc2] at h
      refine Rn.c2f (t := 22) n40_7 (by decide) hc2 ?_
      refine Rn.aload_n n40_10 l1 ?_
      refine Rn.iload_n n40_11 l2 ?_
      refine Rn.iload_n n40_12 l3 ?_
      refine Rn.p n40_13 rfl ?_
      refine Rn.lc (v := 1) n40_14 (by decide) ?_
      obtain ⟨hp3, hhp3, h⟩ := Option.bind_eq_some_iff.mp h
      refine Rn.last n40_15 hhp3 ?_
      have hn := (wrJ_st (st := []) hhp3).2.trans hn
      refine Rn.ii (m := n) (u := 1) n40_16 ml40 (by decide) (by decide) l3 (fun lv l3 hk hok => ?_)
      have l0 := hk 0 _ (by decide) (Or.inl rfl) l0
      have l1 := hk 1 _ (by decide) (Or.inl rfl) l1
      have l2 := hk 2 _ (by decide) (Or.inl rfl) l2
      have ok := hok ok
      refine Rn.goto (t := 2) n40_19 (by decide) ?_
      exact hr2 _ _ _ _ lv _ _ _ l0 l1 l2 l3 ok hn r_v0 r_v1  h
def m40_0 (F : Nat) (v0 : Nat) (v1 : Nat) (v2 : Int32) (hp : List mE) : Option (Unit × List mE) :=
  m40_2 F F v0 v1 v2 0 hp
theorem t40_0 {d c w n : Nat} (hd : 0 ≤ d) (F : Nat) : ∀ (v0 : Nat) (v1 : Nat) (v2 : Int32) (lv : List (Nat × Value)) (hp : List mE) (v : Unit) (hp' : List mE), alk 0 lv = some (.ref v0) → alk 1 lv = some (.ref v1) → alk 2 lv = some (.int v2) → lvk n lv → hp.length = n → v0 < n → v1 < n → m40_0 F v0 v1 v2 hp = some (v, hp') → Rn d 40 0 lv [] hp c w (none, hp', c, w) := by
  intro v0 v1 v2 lv hp v hp' l0 l1 l2 ok hn r_v0 r_v1 h
  unfold m40_0 at h
  refine Rn.ic (v := 0) n40_0 (by decide) ?_
  refine Rn.isn (m := n) n40_1 rfl ml40 (by decide) (fun lv l3 hk hok => ?_)
  have l0 := hk 0 _ (by decide) (Or.inl rfl) l0
  have l1 := hk 1 _ (by decide) (Or.inl rfl) l1
  have l2 := hk 2 _ (by decide) (Or.inl rfl) l2
  have ok := hok ok
  exact t40_2 hd F  F _ _ _ _ lv _ _ _ l0 l1 l2 l3 ok hn r_v0 r_v1  h
def e40 (F : Nat) (a0 : Nat) (a1 : Nat) (a2 : Int32) (hp : List mE) : Option (Unit × List mE) := m40_0 F a0 a1 a2 hp
theorem c40 {d : Nat} (hd : 0 ≤ d) (F : Nat) (a0 : Nat) (a1 : Nat) (a2 : Int32) (hp : List mE) (v : Unit) (hp' : List mE) (ra0 : a0 < hp.length) (ra1 : a1 < hp.length) (h : e40 F a0 a1 a2 hp = some (v, hp')) : Rn d 40 0 (lv_args 0 [.ref a0, .ref a1, .int a2]) [] hp 0 0 (none, hp', 0, 0) :=
  t40_0 (n := hp.length) hd F a0 a1 a2 (lv_args 0 [.ref a0, .ref a1, .int a2]) hp v hp' rfl rfl rfl (lvk_args (okc (okr ra0) (okc (okr ra1) (okc rfl okn)))) rfl ra0 ra1 h
/-! MirrorRoots$Shelf.clear -/
def m60_0 (F : Nat) (v0 : Nat) (hp : List mE) : Option (Unit × List mE) :=
  (pfv 6 2 hp v0 (.int 0)).bind fun hp1 =>
  some ((), hp1)
theorem t60_0 {d c w n : Nat} (hd : 0 ≤ d) (F : Nat) : ∀ (v0 : Nat) (lv : List (Nat × Value)) (hp : List mE) (v : Unit) (hp' : List mE), alk 0 lv = some (.ref v0) → lvk n lv → hp.length = n → v0 < n → m60_0 F v0 hp = some (v, hp') → Rn d 60 0 lv [] hp c w (none, hp', c, w) := by
  intro v0 lv hp v hp' l0 ok hn r_v0 h
  unfold m60_0 at h
  refine Rn.aload_n n60_0 l0 ?_
  refine Rn.ic (v := 0) n60_1 (by decide) ?_
  obtain ⟨hp1, hhp1, h⟩ := Option.bind_eq_some_iff.mp h
  refine Rn.pf n60_2 mo60 fl6_9 ft6_2 rfl ff6_2 (fun _ _ hh => by cases hh) hhp1 ?_
  have hn := (pfv_len hhp1).trans hn
  have e1 := (Prod.mk.inj (Option.some.inj h)).1
  have e2 := (Prod.mk.inj (Option.some.inj h)).2
  subst e1
  subst e2
  exact Rn.vret n60_5 mr60
def e60 (F : Nat) (a0 : Nat) (hp : List mE) : Option (Unit × List mE) := m60_0 F a0 hp
theorem c60 {d : Nat} (hd : 0 ≤ d) (F : Nat) (a0 : Nat) (hp : List mE) (v : Unit) (hp' : List mE) (ra0 : a0 < hp.length) (h : e60 F a0 hp = some (v, hp')) : Rn d 60 0 (lv_args 0 [.ref a0]) [] hp 0 0 (none, hp', 0, 0) :=
  t60_0 (n := hp.length) hd F a0 (lv_args 0 [.ref a0]) hp v hp' rfl (lvk_args (okc (okr ra0) okn)) rfl ra0 h
/-! MirrorRoots$Ideal.gather -/
def m6_74 (F : Nat) (rc39 : Nat → Int32 → Int32 → List mE → Option (Unit × List mE)) : Nat → Nat → Int32 → Int32 → Int32 → Int32 → Int32 → List mE → Option (Unit × List mE)
  | 0, _, _, _, _, _, _, _ => none
  | f + 1, v0, v1, v2, v3, v4, v5, hp =>
    if mc2 .ge v5 v4 = true then
      rc39 v0 v1 (v2 + 1) hp
    else
      (rcv 0 hp v0).bind fun u3 =>
      (e7 F v0 v5 v3 hp).bind fun q2 =>
      m6_74 F rc39 f v0 v1 v2 v3 v4 (v5 + 1) q2.2
theorem t6_74 {d c w n : Nat} (hd : 4 ≤ d) (F : Nat) {rc39 : Nat → Int32 → Int32 → List mE → Option (Unit × List mE)} (hr39 : ∀ (v0 : Nat) (v1 : Int32) (v2 : Int32) (lv : List (Nat × Value)) (hp : List mE) (v : Unit) (hp' : List mE), alk 0 lv = some (.ref v0) → alk 1 lv = some (.int v1) → alk 2 lv = some (.int v2) → lvk n lv → hp.length = n → v0 < n → rc39 v0 v1 v2 hp = some (v, hp') → Rn d 6 39 lv [] hp c w (none, hp', c, w)) : ∀ f : Nat, ∀ (v0 : Nat) (v1 : Int32) (v2 : Int32) (v3 : Int32) (v4 : Int32) (v5 : Int32) (lv : List (Nat × Value)) (hp : List mE) (v : Unit) (hp' : List mE), alk 0 lv = some (.ref v0) → alk 1 lv = some (.int v1) → alk 2 lv = some (.int v2) → alk 3 lv = some (.int v3) → alk 4 lv = some (.int v4) → alk 5 lv = some (.int v5) → lvk n lv → hp.length = n → v0 < n → m6_74 F rc39 f v0 v1 v2 v3 v4 v5 hp = some (v, hp') → Rn d 6 74 lv [] hp c w (none, hp', c, w) := by
  obtain ⟨d', rfl⟩ : ∃ d', d = d' + 1 := ⟨d - 1, by omega⟩
  intro f
  induction f with
  | zero => intro v0 v1 v2 v3 v4 v5 lv hp v hp' l0 l1 l2 l3 l4 l5 ok hn r_v0 h; cases h
  | succ f hr74 =>
    intro v0 v1 v2 v3 v4 v5 lv hp v hp' l0 l1 l2 l3 l4 l5 ok hn r_v0 h
    unfold m6_74 at h
    refine Rn.iload n6_74 l5 ?_
    refine Rn.iload n6_76 l4 ?_
    by_cases hc1 : mc2 .ge v5 v4 = true
    · rw [if_pos hc1] at h
      refine Rn.c2t (t := 94) n6_78 (by decide) hc1 ?_
      refine Rn.ii (m := n) (u := 1) n6_94 ml6 (by decide) (by decide) l2 (fun lv l2 hk hok => ?_)
      have l0 := hk 0 _ (by decide) (Or.inl rfl) l0
      have l1 := hk 1 _ (by decide) (Or.inl rfl) l1
      have l3 := hk 3 _ (by decide) (Or.inl rfl) l3
      have l4 := hk 4 _ (by decide) (Or.inl rfl) l4
      have l5 := hk 5 _ (by decide) (Or.inl rfl) l5
      have ok := hok ok
      refine Rn.goto (t := 39) n6_97 (by decide) ?_
      exact hr39 _ _ _ lv _ _ _ l0 l1 l2 ok hn r_v0  h
    · rw [if_neg hc1] at h
      refine Rn.c2f (t := 94) n6_78 (by decide) hc1 ?_
      refine Rn.aload_n n6_81 l0 ?_
      refine Rn.iload n6_82 l5 ?_
      refine Rn.iload_n n6_84 l3 ?_
      obtain ⟨u3, hu3, h⟩ := Option.bind_eq_some_iff.mp h
      obtain ⟨q2, hq2, h⟩ := Option.bind_eq_some_iff.mp h
      have gq2 := c7 (d := d') (by omega) F _ _ _ _ _ _ (by rw [hn]; exact r_v0) hq2
      refine Rn.cv (As := [.int v5, .int v3]) (rr := []) n6_85 mo6 mm0_102 (by decide) mq7 rfl rfl rfl rfl (by rw [mo7]; exact hu3) (Nat.le_of_ble_eq_true rfl) (by rw [hn]; exact (okc (okr r_v0) (okc rfl (okc rfl okn)))) (by rw [hn]; exact okn) (by rw [hn]; exact ok) (by rw [ml7]; exact Nat.le_of_ble_eq_true rfl) gq2 ?_
      have hn := (Rn.len gq2).trans hn
      show Rn _ 6 88 lv [] q2.2 c w _
      refine Rn.ii (m := n) (u := 1) n6_88 ml6 (by decide) (by decide) l5 (fun lv l5 hk hok => ?_)
      have l0 := hk 0 _ (by decide) (Or.inl rfl) l0
      have l1 := hk 1 _ (by decide) (Or.inl rfl) l1
      have l2 := hk 2 _ (by decide) (Or.inl rfl) l2
      have l3 := hk 3 _ (by decide) (Or.inl rfl) l3
      have l4 := hk 4 _ (by decide) (Or.inl rfl) l4
      have ok := hok ok
      refine Rn.goto (t := 74) n6_91 (by decide) ?_
      exact hr74 _ _ _ _ _ _ lv _ _ _ l0 l1 l2 l3 l4 l5 ok hn r_v0  h
def m6_39 (F : Nat) : Nat → Nat → Int32 → Int32 → List mE → Option (Unit × List mE)
  | 0, _, _, _, _ => none
  | f + 1, v0, v1, v2, hp =>
    (gfr 0 1 hp v0).bind fun x1 =>
    (gfr 1 3 hp x1).bind fun x2 =>
    (rdI hp x2 v1).bind fun x3 =>
    if mc2 .ge v2 x3 = true then
      some ((), hp)
    else
      (gfr 0 1 hp v0).bind fun x5 =>
      (rcv 1 hp x5).bind fun u7 =>
      (e17 F x5 v1 v2 hp).bind fun q6 =>
      (gfr 0 2 q6.2 v0).bind fun x8 =>
      (gfi 6 2 q6.2 x8).bind fun x9 =>
      m6_74 F (m6_39 F f) F v0 v1 v2 q6.1 x9 0 q6.2
theorem t6_39 {d c w n : Nat} (hd : 4 ≤ d) (F : Nat) : ∀ f : Nat, ∀ (v0 : Nat) (v1 : Int32) (v2 : Int32) (lv : List (Nat × Value)) (hp : List mE) (v : Unit) (hp' : List mE), alk 0 lv = some (.ref v0) → alk 1 lv = some (.int v1) → alk 2 lv = some (.int v2) → lvk n lv → hp.length = n → v0 < n → m6_39 F f v0 v1 v2 hp = some (v, hp') → Rn d 6 39 lv [] hp c w (none, hp', c, w) := by
  obtain ⟨d', rfl⟩ : ∃ d', d = d' + 1 := ⟨d - 1, by omega⟩
  intro f
  induction f with
  | zero => intro v0 v1 v2 lv hp v hp' l0 l1 l2 ok hn r_v0 h; cases h
  | succ f hr39 =>
    intro v0 v1 v2 lv hp v hp' l0 l1 l2 ok hn r_v0 h
    unfold m6_39 at h
    refine Rn.iload_n n6_39 l2 ?_
    refine Rn.aload_n n6_40 l0 ?_
    obtain ⟨x1, hx1, h⟩ := Option.bind_eq_some_iff.mp h
    refine Rn.gf n6_41 mo6 fl0_35 (gfr_v hx1).1 ?_
    have r_x1 : x1 < n := by rw [← hn]; exact (gfr_v hx1).2
    obtain ⟨x2, hx2, h⟩ := Option.bind_eq_some_iff.mp h
    refine Rn.gf n6_44 mo6 fl0_95 (gfr_v hx2).1 ?_
    have r_x2 : x2 < n := by rw [← hn]; exact (gfr_v hx2).2
    refine Rn.iload_n n6_47 l1 ?_
    obtain ⟨x3, hx3, h⟩ := Option.bind_eq_some_iff.mp h
    refine Rn.iald n6_48 hx3 ?_
    by_cases hc4 : mc2 .ge v2 x3 = true
    · rw [if_pos hc4] at h
      refine Rn.c2t (t := 100) n6_49 (by decide) hc4 ?_
      have e1 := (Prod.mk.inj (Option.some.inj h)).1
      have e2 := (Prod.mk.inj (Option.some.inj h)).2
      subst e1
      subst e2
      exact Rn.vret n6_100 mr6
    · rw [if_neg hc4] at h
      refine Rn.c2f (t := 100) n6_49 (by decide) hc4 ?_
      refine Rn.aload_n n6_52 l0 ?_
      obtain ⟨x5, hx5, h⟩ := Option.bind_eq_some_iff.mp h
      refine Rn.gf n6_53 mo6 fl0_35 (gfr_v hx5).1 ?_
      have r_x5 : x5 < n := by rw [← hn]; exact (gfr_v hx5).2
      refine Rn.iload_n n6_56 l1 ?_
      refine Rn.iload_n n6_57 l2 ?_
      obtain ⟨u7, hu7, h⟩ := Option.bind_eq_some_iff.mp h
      obtain ⟨q6, hq6, h⟩ := Option.bind_eq_some_iff.mp h
      have gq6 := c17 (d := d') (by omega) F _ _ _ _ _ _ (by rw [hn]; exact r_x5) hq6
      refine Rn.cv (As := [.int v1, .int v2]) (rr := []) n6_58 mo6 mm0_98 (by decide) mq17 rfl rfl rfl rfl (by rw [mo17]; exact hu7) (Nat.le_of_ble_eq_true rfl) (by rw [hn]; exact (okc (okr r_x5) (okc rfl (okc rfl okn)))) (by rw [hn]; exact okn) (by rw [hn]; exact ok) (by rw [ml17]; exact Nat.le_of_ble_eq_true rfl) gq6 ?_
      have hn := (Rn.len gq6).trans hn
      show Rn _ 6 61 lv [.int q6.1] q6.2 c w _
      refine Rn.isn (m := n) n6_61 rfl ml6 (by decide) (fun lv l3 hk hok => ?_)
      have l0 := hk 0 _ (by decide) (Or.inl rfl) l0
      have l1 := hk 1 _ (by decide) (Or.inl rfl) l1
      have l2 := hk 2 _ (by decide) (Or.inl rfl) l2
      have ok := hok ok
      refine Rn.aload_n n6_62 l0 ?_
      obtain ⟨x8, hx8, h⟩ := Option.bind_eq_some_iff.mp h
      refine Rn.gf n6_63 mo6 fl0_44 (gfr_v hx8).1 ?_
      have r_x8 : x8 < n := by rw [← hn]; exact (gfr_v hx8).2
      obtain ⟨x9, hx9, h⟩ := Option.bind_eq_some_iff.mp h
      refine Rn.gf n6_66 mo6 fl0_70 (gfi_v hx9) ?_
      refine Rn.is (m := n) n6_69 ml6 (by decide) (fun lv l4 hk hok => ?_)
      have l0 := hk 0 _ (by decide) (Or.inl rfl) l0
      have l1 := hk 1 _ (by decide) (Or.inl rfl) l1
      have l2 := hk 2 _ (by decide) (Or.inl rfl) l2
      have l3 := hk 3 _ (by decide) (Or.inl rfl) l3
      have ok := hok ok
      refine Rn.ic (v := 0) n6_71 (by decide) ?_
      refine Rn.is (m := n) n6_72 ml6 (by decide) (fun lv l5 hk hok => ?_)
      have l0 := hk 0 _ (by decide) (Or.inl rfl) l0
      have l1 := hk 1 _ (by decide) (Or.inl rfl) l1
      have l2 := hk 2 _ (by decide) (Or.inl rfl) l2
      have l3 := hk 3 _ (by decide) (Or.inl rfl) l3
      have l4 := hk 4 _ (by decide) (Or.inl rfl) l4
      have ok := hok ok
      exact t6_74 hd F hr39 F _ _ _ _ _ _ lv _ _ _ l0 l1 l2 l3 l4 l5 ok hn r_v0  h
def m6_0 (F : Nat) (v0 : Nat) (v1 : Int32) (hp : List mE) : Option (Unit × List mE) :=
  (gfr 0 2 hp v0).bind fun x1 =>
  (rcv 6 hp x1).bind fun u3 =>
  (e60 F x1 hp).bind fun q2 =>
  (gfr 0 0 q2.2 v0).bind fun x4 =>
  (gfr 0 3 q2.2 v0).bind fun x5 =>
  (rcv 3 q2.2 x4).bind fun u7 =>
  (e40 F x4 x5 0 q2.2).bind fun q6 =>
  (gfr 0 2 q6.2 v0).bind fun x8 =>
  (gfr 0 3 q6.2 v0).bind fun x9 =>
  (rcv 6 q6.2 x8).bind fun u11 =>
  (e62 F x8 x9 0 q6.2).bind fun q10 =>
  (rcv 0 q10.2 v0).bind fun u13 =>
  (e8 F v0 0 q10.2).bind fun q12 =>
  m6_39 F F v0 v1 0 q12.2
theorem t6_0 {d c w n : Nat} (hd : 4 ≤ d) (F : Nat) : ∀ (v0 : Nat) (v1 : Int32) (lv : List (Nat × Value)) (hp : List mE) (v : Unit) (hp' : List mE), alk 0 lv = some (.ref v0) → alk 1 lv = some (.int v1) → lvk n lv → hp.length = n → v0 < n → m6_0 F v0 v1 hp = some (v, hp') → Rn d 6 0 lv [] hp c w (none, hp', c, w) := by
  obtain ⟨d', rfl⟩ : ∃ d', d = d' + 1 := ⟨d - 1, by omega⟩
  intro v0 v1 lv hp v hp' l0 l1 ok hn r_v0 h
  unfold m6_0 at h
  refine Rn.aload_n n6_0 l0 ?_
  obtain ⟨x1, hx1, h⟩ := Option.bind_eq_some_iff.mp h
  refine Rn.gf n6_1 mo6 fl0_44 (gfr_v hx1).1 ?_
  have r_x1 : x1 < n := by rw [← hn]; exact (gfr_v hx1).2
  obtain ⟨u3, hu3, h⟩ := Option.bind_eq_some_iff.mp h
  obtain ⟨q2, hq2, h⟩ := Option.bind_eq_some_iff.mp h
  have gq2 := c60 (d := d') (by omega) F _ _ _ _ (by rw [hn]; exact r_x1) hq2
  refine Rn.cv (As := []) (rr := []) n6_4 mo6 mm0_81 (by decide) mq60 rfl rfl rfl rfl (by rw [mo60]; exact hu3) (Nat.le_of_ble_eq_true rfl) (by rw [hn]; exact (okc (okr r_x1) okn)) (by rw [hn]; exact okn) (by rw [hn]; exact ok) (by rw [ml60]; exact Nat.le_of_ble_eq_true rfl) gq2 ?_
  have hn := (Rn.len gq2).trans hn
  show Rn _ 6 7 lv [] q2.2 c w _
  refine Rn.aload_n n6_7 l0 ?_
  obtain ⟨x4, hx4, h⟩ := Option.bind_eq_some_iff.mp h
  refine Rn.gf n6_8 mo6 fl0_31 (gfr_v hx4).1 ?_
  have r_x4 : x4 < n := by rw [← hn]; exact (gfr_v hx4).2
  refine Rn.aload_n n6_11 l0 ?_
  obtain ⟨x5, hx5, h⟩ := Option.bind_eq_some_iff.mp h
  refine Rn.gf n6_12 mo6 fl0_11 (gfr_v hx5).1 ?_
  have r_x5 : x5 < n := by rw [← hn]; exact (gfr_v hx5).2
  refine Rn.ic (v := 0) n6_15 (by decide) ?_
  obtain ⟨u7, hu7, h⟩ := Option.bind_eq_some_iff.mp h
  obtain ⟨q6, hq6, h⟩ := Option.bind_eq_some_iff.mp h
  have gq6 := c40 (d := d') (by omega) F _ _ _ _ _ _ (by rw [hn]; exact r_x4) (by rw [hn]; exact r_x5) hq6
  refine Rn.cv (As := [.ref x5, .int 0]) (rr := []) n6_16 mo6 mm0_84 (by decide) mq40 rfl rfl rfl rfl (by rw [mo40]; exact hu7) (Nat.le_of_ble_eq_true rfl) (by rw [hn]; exact (okc (okr r_x4) (okc (okr r_x5) (okc rfl okn)))) (by rw [hn]; exact okn) (by rw [hn]; exact ok) (by rw [ml40]; exact Nat.le_of_ble_eq_true rfl) gq6 ?_
  have hn := (Rn.len gq6).trans hn
  show Rn _ 6 19 lv [] q6.2 c w _
  refine Rn.aload_n n6_19 l0 ?_
  obtain ⟨x8, hx8, h⟩ := Option.bind_eq_some_iff.mp h
  refine Rn.gf n6_20 mo6 fl0_44 (gfr_v hx8).1 ?_
  have r_x8 : x8 < n := by rw [← hn]; exact (gfr_v hx8).2
  refine Rn.aload_n n6_23 l0 ?_
  obtain ⟨x9, hx9, h⟩ := Option.bind_eq_some_iff.mp h
  refine Rn.gf n6_24 mo6 fl0_11 (gfr_v hx9).1 ?_
  have r_x9 : x9 < n := by rw [← hn]; exact (gfr_v hx9).2
  refine Rn.ic (v := 0) n6_27 (by decide) ?_
  obtain ⟨u11, hu11, h⟩ := Option.bind_eq_some_iff.mp h
  obtain ⟨q10, hq10, h⟩ := Option.bind_eq_some_iff.mp h
  have gq10 := c62 (d := d') (by omega) F _ _ _ _ _ _ (by rw [hn]; exact r_x8) (by rw [hn]; exact r_x9) hq10
  refine Rn.cv (As := [.ref x9, .int 0]) (rr := []) n6_28 mo6 mm0_88 (by decide) mq62 rfl rfl rfl rfl (by rw [mo62]; exact hu11) (Nat.le_of_ble_eq_true rfl) (by rw [hn]; exact (okc (okr r_x8) (okc (okr r_x9) (okc rfl okn)))) (by rw [hn]; exact okn) (by rw [hn]; exact ok) (by rw [ml62]; exact Nat.le_of_ble_eq_true rfl) gq10 ?_
  have hn := (Rn.len gq10).trans hn
  show Rn _ 6 31 lv [.int q10.1] q10.2 c w _
  refine Rn.p n6_31 rfl ?_
  refine Rn.aload_n n6_32 l0 ?_
  refine Rn.ic (v := 0) n6_33 (by decide) ?_
  obtain ⟨u13, hu13, h⟩ := Option.bind_eq_some_iff.mp h
  obtain ⟨q12, hq12, h⟩ := Option.bind_eq_some_iff.mp h
  have gq12 := c8 (d := d') (by omega) F _ _ _ _ _ (by rw [hn]; exact r_v0) hq12
  refine Rn.cv (As := [.int 0]) (rr := []) n6_34 mo6 mm0_92 (by decide) mq8 rfl rfl rfl rfl (by rw [mo8]; exact hu13) (Nat.le_of_ble_eq_true rfl) (by rw [hn]; exact (okc (okr r_v0) (okc rfl okn))) (by rw [hn]; exact okn) (by rw [hn]; exact ok) (by rw [ml8]; exact Nat.le_of_ble_eq_true rfl) gq12 ?_
  have hn := (Rn.len gq12).trans hn
  show Rn _ 6 37 lv [] q12.2 c w _
  refine Rn.ic (v := 0) n6_37 (by decide) ?_
  refine Rn.isn (m := n) n6_38 rfl ml6 (by decide) (fun lv l2 hk hok => ?_)
  have l0 := hk 0 _ (by decide) (Or.inl rfl) l0
  have l1 := hk 1 _ (by decide) (Or.inl rfl) l1
  have ok := hok ok
  exact t6_39 hd F  F _ _ _ lv _ _ _ l0 l1 l2 ok hn r_v0  h
def e6 (F : Nat) (a0 : Nat) (a1 : Int32) (hp : List mE) : Option (Unit × List mE) := m6_0 F a0 a1 hp
theorem c6 {d : Nat} (hd : 4 ≤ d) (F : Nat) (a0 : Nat) (a1 : Int32) (hp : List mE) (v : Unit) (hp' : List mE) (ra0 : a0 < hp.length) (h : e6 F a0 a1 hp = some (v, hp')) : Rn d 6 0 (lv_args 0 [.ref a0, .int a1]) [] hp 0 0 (none, hp', 0, 0) :=
  t6_0 (n := hp.length) hd F a0 a1 (lv_args 0 [.ref a0, .int a1]) hp v hp' rfl rfl (lvk_args (okc (okr ra0) (okc rfl okn))) rfl ra0 h
/-! MirrorRoots$Ideal.neighbour -/
def m9_97 (F : Nat) (v4 : Int32) (hp : List mE) : Option (Int32 × List mE) :=
  some (v4, hp)
theorem t9_97 {d c w n : Nat} (hd : 3 ≤ d) (F : Nat) : ∀ (v4 : Int32) (lv : List (Nat × Value)) (hp : List mE) (v : Int32) (hp' : List mE), alk 4 lv = some (.int v4) → lvk n lv → hp.length = n → m9_97 F v4 hp = some (v, hp') → Rn d 9 97 lv [] hp c w (some (.int v), hp', c, w) := by
  obtain ⟨d', rfl⟩ : ∃ d', d = d' + 1 := ⟨d - 1, by omega⟩
  intro v4 lv hp v hp' l4 ok hn h
  unfold m9_97 at h
  refine Rn.iload n9_97 l4 ?_
  have e1 := (Prod.mk.inj (Option.some.inj h)).1
  have e2 := (Prod.mk.inj (Option.some.inj h)).2
  subst e1
  subst e2
  exact Rn.iret n9_99 mr9
def m9_0 (F : Nat) (v0 : Nat) (v1 : Int32) (v2 : Int32) (hp : List mE) : Option (Int32 × List mE) :=
  (gfr 0 4 hp v0).bind fun x1 =>
  (rdI hp x1 ((v1 * 5) + v2)).bind fun x2 =>
  if mc2 .eq x2 ((-2)) = true then
    (gfr 0 0 hp v0).bind fun x4 =>
    (gfr 0 2 hp v0).bind fun x5 =>
    (gfr 6 3 hp x5).bind fun x6 =>
    (gfr 0 3 hp v0).bind fun x7 =>
    (rcv 3 hp x4).bind fun u9 =>
    (e42 F x4 x6 (v1 * 5) x7 0 hp).bind fun q8 =>
    (gfr 0 0 q8.2 v0).bind fun x10 =>
    (gfr 0 3 q8.2 v0).bind fun x11 =>
    (rcv 3 q8.2 x10).bind fun u13 =>
    (e41 F x10 x11 0 v2 q8.2).bind fun q12 =>
    (gfr 0 2 q12.2 v0).bind fun x14 =>
    (gfr 0 3 q12.2 v0).bind fun x15 =>
    (rcv 6 q12.2 x14).bind fun u17 =>
    (e63 F x14 x15 q12.2).bind fun q16 =>
    (gfr 0 4 q16.2 v0).bind fun x18 =>
    (wrI q16.2 x18 ((v1 * 5) + v2) q16.1).bind fun hp19 =>
    if mc2 .eq q16.1 ((-1)) = true then
      m9_97 F q16.1 hp19
    else
      (gfr 0 4 hp19 v0).bind fun x21 =>
      (wrI hp19 x21 ((q16.1 * 5) + v2) v1).bind fun hp22 =>
      m9_97 F q16.1 hp22
  else
    some (x2, hp)
theorem t9_0 {d c w n : Nat} (hd : 3 ≤ d) (F : Nat) : ∀ (v0 : Nat) (v1 : Int32) (v2 : Int32) (lv : List (Nat × Value)) (hp : List mE) (v : Int32) (hp' : List mE), alk 0 lv = some (.ref v0) → alk 1 lv = some (.int v1) → alk 2 lv = some (.int v2) → lvk n lv → hp.length = n → v0 < n → m9_0 F v0 v1 v2 hp = some (v, hp') → Rn d 9 0 lv [] hp c w (some (.int v), hp', c, w) := by
  obtain ⟨d', rfl⟩ : ∃ d', d = d' + 1 := ⟨d - 1, by omega⟩
  intro v0 v1 v2 lv hp v hp' l0 l1 l2 ok hn r_v0 h
  unfold m9_0 at h
  refine Rn.aload_n n9_0 l0 ?_
  obtain ⟨x1, hx1, h⟩ := Option.bind_eq_some_iff.mp h
  refine Rn.gf n9_1 mo9 fl0_15 (gfr_v hx1).1 ?_
  have r_x1 : x1 < n := by rw [← hn]; exact (gfr_v hx1).2
  refine Rn.iload_n n9_4 l1 ?_
  refine Rn.ic (v := 5) n9_5 (by decide) ?_
  refine Rn.p n9_6 rfl ?_
  refine Rn.iload_n n9_7 l2 ?_
  refine Rn.p n9_8 rfl ?_
  obtain ⟨x2, hx2, h⟩ := Option.bind_eq_some_iff.mp h
  refine Rn.iald n9_9 hx2 ?_
  refine Rn.isn (m := n) n9_10 rfl ml9 (by decide) (fun lv l3 hk hok => ?_)
  have l0 := hk 0 _ (by decide) (Or.inl rfl) l0
  have l1 := hk 1 _ (by decide) (Or.inl rfl) l1
  have l2 := hk 2 _ (by decide) (Or.inl rfl) l2
  have ok := hok ok
  refine Rn.iload_n n9_11 l3 ?_
  refine Rn.bp (v := (-2)) n9_12 (by decide) ?_
  by_cases hc3 : mc2 .eq x2 ((-2)) = true
  · rw [if_pos hc3] at h
    refine Rn.c2t (t := 19) n9_14 (by decide) hc3 ?_
    refine Rn.aload_n n9_19 l0 ?_
    obtain ⟨x4, hx4, h⟩ := Option.bind_eq_some_iff.mp h
    refine Rn.gf n9_20 mo9 fl0_31 (gfr_v hx4).1 ?_
    have r_x4 : x4 < n := by rw [← hn]; exact (gfr_v hx4).2
    refine Rn.aload_n n9_23 l0 ?_
    obtain ⟨x5, hx5, h⟩ := Option.bind_eq_some_iff.mp h
    refine Rn.gf n9_24 mo9 fl0_44 (gfr_v hx5).1 ?_
    have r_x5 : x5 < n := by rw [← hn]; exact (gfr_v hx5).2
    obtain ⟨x6, hx6, h⟩ := Option.bind_eq_some_iff.mp h
    refine Rn.gf n9_27 mo9 fl0_106 (gfr_v hx6).1 ?_
    have r_x6 : x6 < n := by rw [← hn]; exact (gfr_v hx6).2
    refine Rn.iload_n n9_30 l1 ?_
    refine Rn.ic (v := 5) n9_31 (by decide) ?_
    refine Rn.p n9_32 rfl ?_
    refine Rn.aload_n n9_33 l0 ?_
    obtain ⟨x7, hx7, h⟩ := Option.bind_eq_some_iff.mp h
    refine Rn.gf n9_34 mo9 fl0_11 (gfr_v hx7).1 ?_
    have r_x7 : x7 < n := by rw [← hn]; exact (gfr_v hx7).2
    refine Rn.ic (v := 0) n9_37 (by decide) ?_
    obtain ⟨u9, hu9, h⟩ := Option.bind_eq_some_iff.mp h
    obtain ⟨q8, hq8, h⟩ := Option.bind_eq_some_iff.mp h
    have gq8 := c42 (d := d') (by omega) F _ _ _ _ _ _ _ _ (by rw [hn]; exact r_x4) (by rw [hn]; exact r_x6) (by rw [hn]; exact r_x7) hq8
    refine Rn.cv (As := [.ref x6, .int (v1 * 5), .ref x7, .int 0]) (rr := []) n9_38 mo9 mm0_53 (by decide) mq42 rfl rfl rfl rfl (by rw [mo42]; exact hu9) (Nat.le_of_ble_eq_true rfl) (by rw [hn]; exact (okc (okr r_x4) (okc (okr r_x6) (okc rfl (okc (okr r_x7) (okc rfl okn)))))) (by rw [hn]; exact okn) (by rw [hn]; exact ok) (by rw [ml42]; exact Nat.le_of_ble_eq_true rfl) gq8 ?_
    have hn := (Rn.len gq8).trans hn
    show Rn _ 9 41 lv [] q8.2 c w _
    refine Rn.aload_n n9_41 l0 ?_
    obtain ⟨x10, hx10, h⟩ := Option.bind_eq_some_iff.mp h
    refine Rn.gf n9_42 mo9 fl0_31 (gfr_v hx10).1 ?_
    have r_x10 : x10 < n := by rw [← hn]; exact (gfr_v hx10).2
    refine Rn.aload_n n9_45 l0 ?_
    obtain ⟨x11, hx11, h⟩ := Option.bind_eq_some_iff.mp h
    refine Rn.gf n9_46 mo9 fl0_11 (gfr_v hx11).1 ?_
    have r_x11 : x11 < n := by rw [← hn]; exact (gfr_v hx11).2
    refine Rn.ic (v := 0) n9_49 (by decide) ?_
    refine Rn.iload_n n9_50 l2 ?_
    obtain ⟨u13, hu13, h⟩ := Option.bind_eq_some_iff.mp h
    obtain ⟨q12, hq12, h⟩ := Option.bind_eq_some_iff.mp h
    have gq12 := c41 (d := d') (by omega) F _ _ _ _ _ _ _ (by rw [hn]; exact r_x10) (by rw [hn]; exact r_x11) hq12
    refine Rn.cv (As := [.ref x11, .int 0, .int v2]) (rr := []) n9_51 mo9 mm0_109 (by decide) mq41 rfl rfl rfl rfl (by rw [mo41]; exact hu13) (Nat.le_of_ble_eq_true rfl) (by rw [hn]; exact (okc (okr r_x10) (okc (okr r_x11) (okc rfl (okc rfl okn))))) (by rw [hn]; exact okn) (by rw [hn]; exact ok) (by rw [ml41]; exact Nat.le_of_ble_eq_true rfl) gq12 ?_
    have hn := (Rn.len gq12).trans hn
    show Rn _ 9 54 lv [] q12.2 c w _
    refine Rn.aload_n n9_54 l0 ?_
    obtain ⟨x14, hx14, h⟩ := Option.bind_eq_some_iff.mp h
    refine Rn.gf n9_55 mo9 fl0_44 (gfr_v hx14).1 ?_
    have r_x14 : x14 < n := by rw [← hn]; exact (gfr_v hx14).2
    refine Rn.aload_n n9_58 l0 ?_
    obtain ⟨x15, hx15, h⟩ := Option.bind_eq_some_iff.mp h
    refine Rn.gf n9_59 mo9 fl0_11 (gfr_v hx15).1 ?_
    have r_x15 : x15 < n := by rw [← hn]; exact (gfr_v hx15).2
    obtain ⟨u17, hu17, h⟩ := Option.bind_eq_some_iff.mp h
    obtain ⟨q16, hq16, h⟩ := Option.bind_eq_some_iff.mp h
    have gq16 := c63 (d := d') (by omega) F _ _ _ _ _ (by rw [hn]; exact r_x14) (by rw [hn]; exact r_x15) hq16
    refine Rn.cv (As := [.ref x15]) (rr := []) n9_62 mo9 mm0_59 (by decide) mq63 rfl rfl rfl rfl (by rw [mo63]; exact hu17) (Nat.le_of_ble_eq_true rfl) (by rw [hn]; exact (okc (okr r_x14) (okc (okr r_x15) okn))) (by rw [hn]; exact okn) (by rw [hn]; exact ok) (by rw [ml63]; exact Nat.le_of_ble_eq_true rfl) gq16 ?_
    have hn := (Rn.len gq16).trans hn
    show Rn _ 9 65 lv [.int q16.1] q16.2 c w _
    refine Rn.is (m := n) n9_65 ml9 (by decide) (fun lv l4 hk hok => ?_)
    have l0 := hk 0 _ (by decide) (Or.inl rfl) l0
    have l1 := hk 1 _ (by decide) (Or.inl rfl) l1
    have l2 := hk 2 _ (by decide) (Or.inl rfl) l2
    have l3 := hk 3 _ (by decide) (Or.inl rfl) l3
    have ok := hok ok
    refine Rn.aload_n n9_67 l0 ?_
    obtain ⟨x18, hx18, h⟩ := Option.bind_eq_some_iff.mp h
    refine Rn.gf n9_68 mo9 fl0_15 (gfr_v hx18).1 ?_
    have r_x18 : x18 < n := by rw [← hn]; exact (gfr_v hx18).2
    refine Rn.iload_n n9_71 l1 ?_
    refine Rn.ic (v := 5) n9_72 (by decide) ?_
    refine Rn.p n9_73 rfl ?_
    refine Rn.iload_n n9_74 l2 ?_
    refine Rn.p n9_75 rfl ?_
    refine Rn.iload n9_76 l4 ?_
    obtain ⟨hp19, hhp19, h⟩ := Option.bind_eq_some_iff.mp h
    refine Rn.iast n9_78 hhp19 ?_
    have hn := (wrI_st (st := []) hhp19).2.trans hn
    refine Rn.iload n9_79 l4 ?_
    refine Rn.ic (v := (-1)) n9_81 (by decide) ?_
    by_cases hc20 : mc2 .eq q16.1 ((-1)) = true
    · rw [if_pos hc20] at h
      refine Rn.c2t (t := 97) n9_82 (by decide) hc20 ?_
      exact t9_97 hd F  _ lv _ _ _ l4 ok hn   h
    · rw [if_neg hc20] at h
      refine Rn.c2f (t := 97) n9_82 (by decide) hc20 ?_
      refine Rn.aload_n n9_85 l0 ?_
      obtain ⟨x21, hx21, h⟩ := Option.bind_eq_some_iff.mp h
      refine Rn.gf n9_86 mo9 fl0_15 (gfr_v hx21).1 ?_
      have r_x21 : x21 < n := by rw [← hn]; exact (gfr_v hx21).2
      refine Rn.iload n9_89 l4 ?_
      refine Rn.ic (v := 5) n9_91 (by decide) ?_
      refine Rn.p n9_92 rfl ?_
      refine Rn.iload_n n9_93 l2 ?_
      refine Rn.p n9_94 rfl ?_
      refine Rn.iload_n n9_95 l1 ?_
      obtain ⟨hp22, hhp22, h⟩ := Option.bind_eq_some_iff.mp h
      refine Rn.iast n9_96 hhp22 ?_
      have hn := (wrI_st (st := []) hhp22).2.trans hn
      exact t9_97 hd F  _ lv _ _ _ l4 ok hn   h
  · rw [if_neg hc3] at h
    refine Rn.c2f (t := 19) n9_14 (by decide) hc3 ?_
    refine Rn.iload_n n9_17 l3 ?_
    have e1 := (Prod.mk.inj (Option.some.inj h)).1
    have e2 := (Prod.mk.inj (Option.some.inj h)).2
    subst e1
    subst e2
    exact Rn.iret n9_18 mr9
def e9 (F : Nat) (a0 : Nat) (a1 : Int32) (a2 : Int32) (hp : List mE) : Option (Int32 × List mE) := m9_0 F a0 a1 a2 hp
theorem c9 {d : Nat} (hd : 3 ≤ d) (F : Nat) (a0 : Nat) (a1 : Int32) (a2 : Int32) (hp : List mE) (v : Int32) (hp' : List mE) (ra0 : a0 < hp.length) (h : e9 F a0 a1 a2 hp = some (v, hp')) : Rn d 9 0 (lv_args 0 [.ref a0, .int a1, .int a2]) [] hp 0 0 (some (.int v), hp', 0, 0) :=
  t9_0 (n := hp.length) hd F a0 a1 a2 (lv_args 0 [.ref a0, .int a1, .int a2]) hp v hp' rfl rfl rfl (lvk_args (okc (okr ra0) (okc rfl (okc rfl okn)))) rfl ra0 h
/-! MirrorRoots$Ideal.spread -/
def m11_108 (F : Nat) (rc3 : Nat → Int32 → Int32 → Int32 → Int32 → List mE → Option (Unit × List mE)) (v0 : Nat) (v1 : Int32) (v2 : Int32) (v3 : Int32) (v4 : Int32) (t0 : Nat) (t1 : Int32) (t2 : Int64) (hp : List mE) : Option (Unit × List mE) :=
  (wrJ hp t0 t1 t2).bind fun hp1 =>
  rc3 v0 v1 v2 v3 (v4 + 1) hp1
theorem t11_108 {d c w n : Nat} (hd : 4 ≤ d) (F : Nat) {rc3 : Nat → Int32 → Int32 → Int32 → Int32 → List mE → Option (Unit × List mE)} (hr3 : ∀ (v0 : Nat) (v1 : Int32) (v2 : Int32) (v3 : Int32) (v4 : Int32) (lv : List (Nat × Value)) (hp : List mE) (v : Unit) (hp' : List mE), alk 0 lv = some (.ref v0) → alk 1 lv = some (.int v1) → alk 2 lv = some (.int v2) → alk 3 lv = some (.int v3) → alk 4 lv = some (.int v4) → lvk n lv → hp.length = n → v0 < n → rc3 v0 v1 v2 v3 v4 hp = some (v, hp') → Rn d 11 3 lv [] hp c w (none, hp', c, w)) : ∀ (v0 : Nat) (v1 : Int32) (v2 : Int32) (v3 : Int32) (v4 : Int32) (t0 : Nat) (t1 : Int32) (t2 : Int64) (lv : List (Nat × Value)) (hp : List mE) (v : Unit) (hp' : List mE), alk 0 lv = some (.ref v0) → alk 1 lv = some (.int v1) → alk 2 lv = some (.int v2) → alk 3 lv = some (.int v3) → alk 4 lv = some (.int v4) → lvk n lv → hp.length = n → v0 < n → t0 < n → m11_108 F rc3 v0 v1 v2 v3 v4 t0 t1 t2 hp = some (v, hp') → Rn d 11 108 lv [.long t2, .int t1, .ref t0] hp c w (none, hp', c, w) := by
  obtain ⟨d', rfl⟩ : ∃ d', d = d' + 1 := ⟨d - 1, by omega⟩
  intro v0 v1 v2 v3 v4 t0 t1 t2 lv hp v hp' l0 l1 l2 l3 l4 ok hn r_v0 r_t0 h
  unfold m11_108 at h
  obtain ⟨hp1, hhp1, h⟩ := Option.bind_eq_some_iff.mp h
  refine Rn.last n11_108 hhp1 ?_
  have hn := (wrJ_st (st := []) hhp1).2.trans hn
  refine Rn.ii (m := n) (u := 1) n11_109 ml11 (by decide) (by decide) l4 (fun lv l4 hk hok => ?_)
  have l0 := hk 0 _ (by decide) (Or.inl rfl) l0
  have l1 := hk 1 _ (by decide) (Or.inl rfl) l1
  have l2 := hk 2 _ (by decide) (Or.inl rfl) l2
  have l3 := hk 3 _ (by decide) (Or.inl rfl) l3
  have ok := hok ok
  refine Rn.goto (t := 3) n11_112 (by decide) ?_
  exact hr3 _ _ _ _ _ lv _ _ _ l0 l1 l2 l3 l4 ok hn r_v0  h
def m11_62 (F : Nat) (rc3 : Nat → Int32 → Int32 → Int32 → Int32 → List mE → Option (Unit × List mE)) (v0 : Nat) (v1 : Int32) (v2 : Int32) (v3 : Int32) (v4 : Int32) (v6 : Int64) (t0 : Int64) (hp : List mE) : Option (Unit × List mE) :=
  (gfr 0 5 hp v0).bind fun x1 =>
  (gfr 0 2 hp v0).bind fun x2 =>
  (rcv 6 hp x2).bind fun u4 =>
  (e61 F x2 v4 v3 hp).bind fun q3 =>
  if mc1 .eq q3.1 = true then
    m11_108 F rc3 v0 v1 v2 v3 v4 x1 ((v1 * 256) + v4) (v6 + (t0 <<< ((12 : Int32).toInt64 &&& 63))) q3.2
  else
    m11_108 F rc3 v0 v1 v2 v3 v4 x1 ((v1 * 256) + v4) (t0 + (v6 <<< ((12 : Int32).toInt64 &&& 63))) q3.2
theorem t11_62 {d c w n : Nat} (hd : 4 ≤ d) (F : Nat) {rc3 : Nat → Int32 → Int32 → Int32 → Int32 → List mE → Option (Unit × List mE)} (hr3 : ∀ (v0 : Nat) (v1 : Int32) (v2 : Int32) (v3 : Int32) (v4 : Int32) (lv : List (Nat × Value)) (hp : List mE) (v : Unit) (hp' : List mE), alk 0 lv = some (.ref v0) → alk 1 lv = some (.int v1) → alk 2 lv = some (.int v2) → alk 3 lv = some (.int v3) → alk 4 lv = some (.int v4) → lvk n lv → hp.length = n → v0 < n → rc3 v0 v1 v2 v3 v4 hp = some (v, hp') → Rn d 11 3 lv [] hp c w (none, hp', c, w)) : ∀ (v0 : Nat) (v1 : Int32) (v2 : Int32) (v3 : Int32) (v4 : Int32) (v6 : Int64) (t0 : Int64) (lv : List (Nat × Value)) (hp : List mE) (v : Unit) (hp' : List mE), alk 0 lv = some (.ref v0) → alk 1 lv = some (.int v1) → alk 2 lv = some (.int v2) → alk 3 lv = some (.int v3) → alk 4 lv = some (.int v4) → alk 6 lv = some (.long v6) → lvk n lv → hp.length = n → v0 < n → m11_62 F rc3 v0 v1 v2 v3 v4 v6 t0 hp = some (v, hp') → Rn d 11 62 lv [.long t0] hp c w (none, hp', c, w) := by
  obtain ⟨d', rfl⟩ : ∃ d', d = d' + 1 := ⟨d - 1, by omega⟩
  intro v0 v1 v2 v3 v4 v6 t0 lv hp v hp' l0 l1 l2 l3 l4 l6 ok hn r_v0 h
  unfold m11_62 at h
  refine Rn.ls (m := n) n11_62 ml11 (by decide) (fun lv l8 hk hok => ?_)
  have l0 := hk 0 _ (by decide) (by decide) (Or.inl rfl) l0
  have l1 := hk 1 _ (by decide) (by decide) (Or.inl rfl) l1
  have l2 := hk 2 _ (by decide) (by decide) (Or.inl rfl) l2
  have l3 := hk 3 _ (by decide) (by decide) (Or.inl rfl) l3
  have l4 := hk 4 _ (by decide) (by decide) (Or.inl rfl) l4
  have l6 := hk 6 _ (by decide) (by decide) (Or.inr (by decide)) l6
  have ok := hok ok
  refine Rn.aload_n n11_64 l0 ?_
  obtain ⟨x1, hx1, h⟩ := Option.bind_eq_some_iff.mp h
  refine Rn.gf n11_65 mo11 fl0_20 (gfr_v hx1).1 ?_
  have r_x1 : x1 < n := by rw [← hn]; exact (gfr_v hx1).2
  refine Rn.iload_n n11_68 l1 ?_
  refine Rn.sp (v := 256) n11_69 (by decide) ?_
  refine Rn.p n11_72 rfl ?_
  refine Rn.iload n11_73 l4 ?_
  refine Rn.p n11_75 rfl ?_
  refine Rn.aload_n n11_76 l0 ?_
  obtain ⟨x2, hx2, h⟩ := Option.bind_eq_some_iff.mp h
  refine Rn.gf n11_77 mo11 fl0_44 (gfr_v hx2).1 ?_
  have r_x2 : x2 < n := by rw [← hn]; exact (gfr_v hx2).2
  refine Rn.iload n11_80 l4 ?_
  refine Rn.iload_n n11_82 l3 ?_
  obtain ⟨u4, hu4, h⟩ := Option.bind_eq_some_iff.mp h
  obtain ⟨q3, hq3, h⟩ := Option.bind_eq_some_iff.mp h
  have gq3 := c61 (d := d') (by omega) F _ _ _ _ _ _ (by rw [hn]; exact r_x2) hq3
  refine Rn.cv (As := [.int v4, .int v3]) (rr := [.int ((v1 * 256) + v4), .ref x1]) n11_83 mo11 mm0_114 (by decide) mq61 rfl rfl rfl rfl (by rw [mo61]; exact hu4) (Nat.le_of_ble_eq_true rfl) (by rw [hn]; exact (okc (okr r_x2) (okc rfl (okc rfl okn)))) (by rw [hn]; exact (okc rfl (okc (okr r_x1) okn))) (by rw [hn]; exact ok) (by rw [ml61]; exact Nat.le_of_ble_eq_true rfl) gq3 ?_
  have hn := (Rn.len gq3).trans hn
  show Rn _ 11 86 lv [.int q3.1, .int ((v1 * 256) + v4), .ref x1] q3.2 c w _
  by_cases hc5 : mc1 .eq q3.1 = true
  · rw [if_pos hc5] at h
    refine Rn.c1t (t := 100) n11_86 (by decide) hc5 ?_
    refine Rn.lload n11_100 l6 ?_
    refine Rn.lload n11_102 l8 ?_
    refine Rn.bp (v := 12) n11_104 (by decide) ?_
    refine Rn.p n11_106 rfl ?_
    refine Rn.p n11_107 rfl ?_
    exact t11_108 hd F hr3 _ _ _ _ _ _ _ _ lv _ _ _ l0 l1 l2 l3 l4 ok hn r_v0 r_x1 h
  · rw [if_neg hc5] at h
    refine Rn.c1f (t := 100) n11_86 (by decide) hc5 ?_
    refine Rn.lload n11_89 l8 ?_
    refine Rn.lload n11_91 l6 ?_
    refine Rn.bp (v := 12) n11_93 (by decide) ?_
    refine Rn.p n11_95 rfl ?_
    refine Rn.p n11_96 rfl ?_
    refine Rn.goto (t := 108) n11_97 (by decide) ?_
    exact t11_108 hd F hr3 _ _ _ _ _ _ _ _ lv _ _ _ l0 l1 l2 l3 l4 ok hn r_v0 r_x1 h
def m11_3 (F : Nat) : Nat → Nat → Int32 → Int32 → Int32 → Int32 → List mE → Option (Unit × List mE)
  | 0, _, _, _, _, _, _ => none
  | f + 1, v0, v1, v2, v3, v4, hp =>
    (gfr 0 2 hp v0).bind fun x1 =>
    (gfi 6 2 hp x1).bind fun x2 =>
    if mc2 .ge v4 x2 = true then
      some ((), hp)
    else
      (rcv 0 hp v0).bind fun u5 =>
      (e9 F v0 v4 v3 hp).bind fun q4 =>
      (gfr 0 5 q4.2 v0).bind fun x6 =>
      (rdJ q4.2 x6 ((v2 * 256) + v4)).bind fun x7 =>
      if mc2 .ne q4.1 ((-1)) = true then
        (gfr 0 5 q4.2 v0).bind fun x9 =>
        (rdJ q4.2 x9 ((v2 * 256) + q4.1)).bind fun x10 =>
        m11_62 F (m11_3 F f) v0 v1 v2 v3 v4 x7 x10 q4.2
      else
        m11_62 F (m11_3 F f) v0 v1 v2 v3 v4 x7 0 q4.2
theorem t11_3 {d c w n : Nat} (hd : 4 ≤ d) (F : Nat) : ∀ f : Nat, ∀ (v0 : Nat) (v1 : Int32) (v2 : Int32) (v3 : Int32) (v4 : Int32) (lv : List (Nat × Value)) (hp : List mE) (v : Unit) (hp' : List mE), alk 0 lv = some (.ref v0) → alk 1 lv = some (.int v1) → alk 2 lv = some (.int v2) → alk 3 lv = some (.int v3) → alk 4 lv = some (.int v4) → lvk n lv → hp.length = n → v0 < n → m11_3 F f v0 v1 v2 v3 v4 hp = some (v, hp') → Rn d 11 3 lv [] hp c w (none, hp', c, w) := by
  obtain ⟨d', rfl⟩ : ∃ d', d = d' + 1 := ⟨d - 1, by omega⟩
  intro f
  induction f with
  | zero => intro v0 v1 v2 v3 v4 lv hp v hp' l0 l1 l2 l3 l4 ok hn r_v0 h; cases h
  | succ f hr3 =>
    intro v0 v1 v2 v3 v4 lv hp v hp' l0 l1 l2 l3 l4 ok hn r_v0 h
    unfold m11_3 at h
    refine Rn.iload n11_3 l4 ?_
    refine Rn.aload_n n11_5 l0 ?_
    obtain ⟨x1, hx1, h⟩ := Option.bind_eq_some_iff.mp h
    refine Rn.gf n11_6 mo11 fl0_44 (gfr_v hx1).1 ?_
    have r_x1 : x1 < n := by rw [← hn]; exact (gfr_v hx1).2
    obtain ⟨x2, hx2, h⟩ := Option.bind_eq_some_iff.mp h
    refine Rn.gf n11_9 mo11 fl0_70 (gfi_v hx2) ?_
    by_cases hc3 : mc2 .ge v4 x2 = true
    · rw [if_pos hc3] at h
      refine Rn.c2t (t := 115) n11_12 (by decide) hc3 ?_
      have e1 := (Prod.mk.inj (Option.some.inj h)).1
      have e2 := (Prod.mk.inj (Option.some.inj h)).2
      subst e1
      subst e2
      exact Rn.vret n11_115 mr11
    · rw [if_neg hc3] at h
      refine Rn.c2f (t := 115) n11_12 (by decide) hc3 ?_
      refine Rn.aload_n n11_15 l0 ?_
      refine Rn.iload n11_16 l4 ?_
      refine Rn.iload_n n11_18 l3 ?_
      obtain ⟨u5, hu5, h⟩ := Option.bind_eq_some_iff.mp h
      obtain ⟨q4, hq4, h⟩ := Option.bind_eq_some_iff.mp h
      have gq4 := c9 (d := d') (by omega) F _ _ _ _ _ _ (by rw [hn]; exact r_v0) hq4
      refine Rn.cv (As := [.int v4, .int v3]) (rr := []) n11_19 mo11 mm0_126 (by decide) mq9 rfl rfl rfl rfl (by rw [mo9]; exact hu5) (Nat.le_of_ble_eq_true rfl) (by rw [hn]; exact (okc (okr r_v0) (okc rfl (okc rfl okn)))) (by rw [hn]; exact okn) (by rw [hn]; exact ok) (by rw [ml9]; exact Nat.le_of_ble_eq_true rfl) gq4 ?_
      have hn := (Rn.len gq4).trans hn
      show Rn _ 11 22 lv [.int q4.1] q4.2 c w _
      refine Rn.is (m := n) n11_22 ml11 (by decide) (fun lv l5 hk hok => ?_)
      have l0 := hk 0 _ (by decide) (Or.inl rfl) l0
      have l1 := hk 1 _ (by decide) (Or.inl rfl) l1
      have l2 := hk 2 _ (by decide) (Or.inl rfl) l2
      have l3 := hk 3 _ (by decide) (Or.inl rfl) l3
      have l4 := hk 4 _ (by decide) (Or.inl rfl) l4
      have ok := hok ok
      refine Rn.aload_n n11_24 l0 ?_
      obtain ⟨x6, hx6, h⟩ := Option.bind_eq_some_iff.mp h
      refine Rn.gf n11_25 mo11 fl0_20 (gfr_v hx6).1 ?_
      have r_x6 : x6 < n := by rw [← hn]; exact (gfr_v hx6).2
      refine Rn.iload_n n11_28 l2 ?_
      refine Rn.sp (v := 256) n11_29 (by decide) ?_
      refine Rn.p n11_32 rfl ?_
      refine Rn.iload n11_33 l4 ?_
      refine Rn.p n11_35 rfl ?_
      obtain ⟨x7, hx7, h⟩ := Option.bind_eq_some_iff.mp h
      refine Rn.lald n11_36 hx7 ?_
      refine Rn.ls (m := n) n11_37 ml11 (by decide) (fun lv l6 hk hok => ?_)
      have l0 := hk 0 _ (by decide) (by decide) (Or.inl rfl) l0
      have l1 := hk 1 _ (by decide) (by decide) (Or.inl rfl) l1
      have l2 := hk 2 _ (by decide) (by decide) (Or.inl rfl) l2
      have l3 := hk 3 _ (by decide) (by decide) (Or.inl rfl) l3
      have l4 := hk 4 _ (by decide) (by decide) (Or.inl rfl) l4
      have l5 := hk 5 _ (by decide) (by decide) (Or.inl rfl) l5
      have ok := hok ok
      refine Rn.iload n11_39 l5 ?_
      refine Rn.ic (v := (-1)) n11_41 (by decide) ?_
      by_cases hc8 : mc2 .ne q4.1 ((-1)) = true
      · rw [if_pos hc8] at h
        refine Rn.c2t (t := 49) n11_42 (by decide) hc8 ?_
        refine Rn.aload_n n11_49 l0 ?_
        obtain ⟨x9, hx9, h⟩ := Option.bind_eq_some_iff.mp h
        refine Rn.gf n11_50 mo11 fl0_20 (gfr_v hx9).1 ?_
        have r_x9 : x9 < n := by rw [← hn]; exact (gfr_v hx9).2
        refine Rn.iload_n n11_53 l2 ?_
        refine Rn.sp (v := 256) n11_54 (by decide) ?_
        refine Rn.p n11_57 rfl ?_
        refine Rn.iload n11_58 l5 ?_
        refine Rn.p n11_60 rfl ?_
        obtain ⟨x10, hx10, h⟩ := Option.bind_eq_some_iff.mp h
        refine Rn.lald n11_61 hx10 ?_
        exact t11_62 hd F hr3 _ _ _ _ _ _ _ lv _ _ _ l0 l1 l2 l3 l4 l6 ok hn r_v0  h
      · rw [if_neg hc8] at h
        refine Rn.c2f (t := 49) n11_42 (by decide) hc8 ?_
        refine Rn.lc (v := 0) n11_45 (by decide) ?_
        refine Rn.goto (t := 62) n11_46 (by decide) ?_
        exact t11_62 hd F hr3 _ _ _ _ _ _ _ lv _ _ _ l0 l1 l2 l3 l4 l6 ok hn r_v0  h
def m11_0 (F : Nat) (v0 : Nat) (v1 : Int32) (v2 : Int32) (v3 : Int32) (hp : List mE) : Option (Unit × List mE) :=
  m11_3 F F v0 v1 v2 v3 0 hp
theorem t11_0 {d c w n : Nat} (hd : 4 ≤ d) (F : Nat) : ∀ (v0 : Nat) (v1 : Int32) (v2 : Int32) (v3 : Int32) (lv : List (Nat × Value)) (hp : List mE) (v : Unit) (hp' : List mE), alk 0 lv = some (.ref v0) → alk 1 lv = some (.int v1) → alk 2 lv = some (.int v2) → alk 3 lv = some (.int v3) → lvk n lv → hp.length = n → v0 < n → m11_0 F v0 v1 v2 v3 hp = some (v, hp') → Rn d 11 0 lv [] hp c w (none, hp', c, w) := by
  obtain ⟨d', rfl⟩ : ∃ d', d = d' + 1 := ⟨d - 1, by omega⟩
  intro v0 v1 v2 v3 lv hp v hp' l0 l1 l2 l3 ok hn r_v0 h
  unfold m11_0 at h
  refine Rn.ic (v := 0) n11_0 (by decide) ?_
  refine Rn.is (m := n) n11_1 ml11 (by decide) (fun lv l4 hk hok => ?_)
  have l0 := hk 0 _ (by decide) (Or.inl rfl) l0
  have l1 := hk 1 _ (by decide) (Or.inl rfl) l1
  have l2 := hk 2 _ (by decide) (Or.inl rfl) l2
  have l3 := hk 3 _ (by decide) (Or.inl rfl) l3
  have ok := hok ok
  exact t11_3 hd F  F _ _ _ _ _ lv _ _ _ l0 l1 l2 l3 l4 ok hn r_v0  h
def e11 (F : Nat) (a0 : Nat) (a1 : Int32) (a2 : Int32) (a3 : Int32) (hp : List mE) : Option (Unit × List mE) := m11_0 F a0 a1 a2 a3 hp
theorem c11 {d : Nat} (hd : 4 ≤ d) (F : Nat) (a0 : Nat) (a1 : Int32) (a2 : Int32) (a3 : Int32) (hp : List mE) (v : Unit) (hp' : List mE) (ra0 : a0 < hp.length) (h : e11 F a0 a1 a2 a3 hp = some (v, hp')) : Rn d 11 0 (lv_args 0 [.ref a0, .int a1, .int a2, .int a3]) [] hp 0 0 (none, hp', 0, 0) :=
  t11_0 (n := hp.length) hd F a0 a1 a2 a3 (lv_args 0 [.ref a0, .int a1, .int a2, .int a3]) hp v hp' rfl rfl rfl rfl (lvk_args (okc (okr ra0) (okc rfl (okc rfl (okc rfl okn))))) rfl ra0 h
/-! MirrorRoots$Ideal.leaningOf -/
def m12_54 (F : Nat) (t0 : Int32) (hp : List mE) : Option (Int32 × List mE) :=
  some (t0, hp)
theorem t12_54 {d c w n : Nat} (hd : 1 ≤ d) (F : Nat) : ∀ (t0 : Int32) (lv : List (Nat × Value)) (hp : List mE) (v : Int32) (hp' : List mE), lvk n lv → hp.length = n → m12_54 F t0 hp = some (v, hp') → Rn d 12 54 lv [.int t0] hp c w (some (.int v), hp', c, w) := by
  obtain ⟨d', rfl⟩ : ∃ d', d = d' + 1 := ⟨d - 1, by omega⟩
  intro t0 lv hp v hp' ok hn h
  unfold m12_54 at h
  have e1 := (Prod.mk.inj (Option.some.inj h)).1
  have e2 := (Prod.mk.inj (Option.some.inj h)).2
  subst e1
  subst e2
  exact Rn.iret n12_54 mr12
def m12_30 (F : Nat) (hp : List mE) : Option (Int32 × List mE) :=
  m12_54 F 0 hp
theorem t12_30 {d c w n : Nat} (hd : 1 ≤ d) (F : Nat) : ∀ (lv : List (Nat × Value)) (hp : List mE) (v : Int32) (hp' : List mE), lvk n lv → hp.length = n → m12_30 F hp = some (v, hp') → Rn d 12 30 lv [] hp c w (some (.int v), hp', c, w) := by
  obtain ⟨d', rfl⟩ : ∃ d', d = d' + 1 := ⟨d - 1, by omega⟩
  intro lv hp v hp' ok hn h
  unfold m12_30 at h
  refine Rn.ic (v := 0) n12_30 (by decide) ?_
  refine Rn.goto (t := 54) n12_31 (by decide) ?_
  exact t12_54 hd F  _ lv _ _ _  ok hn   h
def m12_0 (F : Nat) (v0 : Nat) (v1 : Int32) (v2 : Int32) (hp : List mE) : Option (Int32 × List mE) :=
  (gfr 0 2 hp v0).bind fun x1 =>
  (gfr 6 4 hp x1).bind fun x2 =>
  (rdI hp x2 v2).bind fun x3 =>
  (gfr 0 2 hp v0).bind fun x4 =>
  (gfr 6 4 hp x4).bind fun x5 =>
  (rdI hp x5 v1).bind fun x6 =>
  if mc1 .lt (x3 - x6) = true then
    m12_30 F hp
  else
    if mc1 .ne ((x3 - x6) - (x3 - x6) / 2 * 2) = true then
      (gfr 0 5 hp v0).bind fun x9 =>
      (rdJ hp x9 ((v2 * 256) + v1)).bind fun x10 =>
      (e4 F x10 (((x3 - x6) - 1) / 2) hp).bind fun q11 =>
      m12_54 F q11.1 q11.2
    else
      m12_30 F hp
theorem t12_0 {d c w n : Nat} (hd : 1 ≤ d) (F : Nat) : ∀ (v0 : Nat) (v1 : Int32) (v2 : Int32) (lv : List (Nat × Value)) (hp : List mE) (v : Int32) (hp' : List mE), alk 0 lv = some (.ref v0) → alk 1 lv = some (.int v1) → alk 2 lv = some (.int v2) → lvk n lv → hp.length = n → v0 < n → m12_0 F v0 v1 v2 hp = some (v, hp') → Rn d 12 0 lv [] hp c w (some (.int v), hp', c, w) := by
  obtain ⟨d', rfl⟩ : ∃ d', d = d' + 1 := ⟨d - 1, by omega⟩
  intro v0 v1 v2 lv hp v hp' l0 l1 l2 ok hn r_v0 h
  unfold m12_0 at h
  refine Rn.aload_n n12_0 l0 ?_
  obtain ⟨x1, hx1, h⟩ := Option.bind_eq_some_iff.mp h
  refine Rn.gf n12_1 mo12 fl0_44 (gfr_v hx1).1 ?_
  have r_x1 : x1 < n := by rw [← hn]; exact (gfr_v hx1).2
  obtain ⟨x2, hx2, h⟩ := Option.bind_eq_some_iff.mp h
  refine Rn.gf n12_4 mo12 fl0_113 (gfr_v hx2).1 ?_
  have r_x2 : x2 < n := by rw [← hn]; exact (gfr_v hx2).2
  refine Rn.iload_n n12_7 l2 ?_
  obtain ⟨x3, hx3, h⟩ := Option.bind_eq_some_iff.mp h
  refine Rn.iald n12_8 hx3 ?_
  refine Rn.aload_n n12_9 l0 ?_
  obtain ⟨x4, hx4, h⟩ := Option.bind_eq_some_iff.mp h
  refine Rn.gf n12_10 mo12 fl0_44 (gfr_v hx4).1 ?_
  have r_x4 : x4 < n := by rw [← hn]; exact (gfr_v hx4).2
  obtain ⟨x5, hx5, h⟩ := Option.bind_eq_some_iff.mp h
  refine Rn.gf n12_13 mo12 fl0_113 (gfr_v hx5).1 ?_
  have r_x5 : x5 < n := by rw [← hn]; exact (gfr_v hx5).2
  refine Rn.iload_n n12_16 l1 ?_
  obtain ⟨x6, hx6, h⟩ := Option.bind_eq_some_iff.mp h
  refine Rn.iald n12_17 hx6 ?_
  refine Rn.p n12_18 rfl ?_
  refine Rn.isn (m := n) n12_19 rfl ml12 (by decide) (fun lv l3 hk hok => ?_)
  have l0 := hk 0 _ (by decide) (Or.inl rfl) l0
  have l1 := hk 1 _ (by decide) (Or.inl rfl) l1
  have l2 := hk 2 _ (by decide) (Or.inl rfl) l2
  have ok := hok ok
  refine Rn.iload_n n12_20 l3 ?_
  by_cases hc7 : mc1 .lt (x3 - x6) = true
  · rw [if_pos hc7] at h
    refine Rn.c1t (t := 30) n12_21 (by decide) hc7 ?_
    exact t12_30 hd F  lv _ _ _  ok hn   h
  · rw [if_neg hc7] at h
    refine Rn.c1f (t := 30) n12_21 (by decide) hc7 ?_
    refine Rn.iload_n n12_24 l3 ?_
    refine Rn.ic (v := 2) n12_25 (by decide) ?_
    refine Rn.irm n12_26 (by decide) ?_
    by_cases hc8 : mc1 .ne ((x3 - x6) - (x3 - x6) / 2 * 2) = true
    · rw [if_pos hc8] at h
      refine Rn.c1t (t := 34) n12_27 (by decide) hc8 ?_
      refine Rn.aload_n n12_34 l0 ?_
      obtain ⟨x9, hx9, h⟩ := Option.bind_eq_some_iff.mp h
      refine Rn.gf n12_35 mo12 fl0_20 (gfr_v hx9).1 ?_
      have r_x9 : x9 < n := by rw [← hn]; exact (gfr_v hx9).2
      refine Rn.iload_n n12_38 l2 ?_
      refine Rn.sp (v := 256) n12_39 (by decide) ?_
      refine Rn.p n12_42 rfl ?_
      refine Rn.iload_n n12_43 l1 ?_
      refine Rn.p n12_44 rfl ?_
      obtain ⟨x10, hx10, h⟩ := Option.bind_eq_some_iff.mp h
      refine Rn.lald n12_45 hx10 ?_
      refine Rn.iload_n n12_46 l3 ?_
      refine Rn.ic (v := 1) n12_47 (by decide) ?_
      refine Rn.p n12_48 rfl ?_
      refine Rn.ic (v := 2) n12_49 (by decide) ?_
      refine Rn.idv n12_50 (by decide) ?_
      obtain ⟨q11, hq11, h⟩ := Option.bind_eq_some_iff.mp h
      have gq11 := c4 (d := d') (by omega) F _ _ _ _ _  hq11
      refine Rn.cs (as := [.long x10, .int (((x3 - x6) - 1) / 2)]) (rr := []) n12_51 mo12 mm0_66 mq4 rfl rfl rfl rfl (Nat.le_of_ble_eq_true rfl) (by rw [hn]; exact (okc rfl (okc rfl okn))) (by rw [hn]; exact okn) (by rw [hn]; exact ok) (by rw [ml4]; exact Nat.le_of_ble_eq_true rfl) gq11 ?_
      have hn := (Rn.len gq11).trans hn
      show Rn _ 12 54 lv [.int q11.1] q11.2 c w _
      exact t12_54 hd F  _ lv _ _ _  ok hn   h
    · rw [if_neg hc8] at h
      refine Rn.c1f (t := 34) n12_27 (by decide) hc8 ?_
      exact t12_30 hd F  lv _ _ _  ok hn   h
def e12 (F : Nat) (a0 : Nat) (a1 : Int32) (a2 : Int32) (hp : List mE) : Option (Int32 × List mE) := m12_0 F a0 a1 a2 hp
theorem c12 {d : Nat} (hd : 1 ≤ d) (F : Nat) (a0 : Nat) (a1 : Int32) (a2 : Int32) (hp : List mE) (v : Int32) (hp' : List mE) (ra0 : a0 < hp.length) (h : e12 F a0 a1 a2 hp = some (v, hp')) : Rn d 12 0 (lv_args 0 [.ref a0, .int a1, .int a2]) [] hp 0 0 (some (.int v), hp', 0, 0) :=
  t12_0 (n := hp.length) hd F a0 a1 a2 (lv_args 0 [.ref a0, .int a1, .int a2]) hp v hp' rfl rfl rfl (lvk_args (okc (okr ra0) (okc rfl (okc rfl okn)))) rfl ra0 h
/-! MirrorRoots$Ideal.lessen -/
def m13_29 (F : Nat) : Nat → Nat → Int32 → Int32 → Int32 → Int32 → Int32 → List mE → Option (Unit × List mE)
  | 0, _, _, _, _, _, _, _ => none
  | f + 1, v0, v1, v2, v3, v4, v5, hp =>
    (gfr 0 2 hp v0).bind fun x1 =>
    (gfi 6 2 hp x1).bind fun x2 =>
    if mc2 .ge v5 x2 = true then
      some ((), hp)
    else
      (gfr 0 5 hp v0).bind fun x4 =>
      (rdJ hp x4 ((v1 * 256) + v5)).bind fun x5 =>
      (gfr 0 5 hp v0).bind fun x6 =>
      (rdJ hp x6 ((v2 * 256) + v5)).bind fun x7 =>
      (wrJ hp x4 ((v1 * 256) + v5) (x5 - ((x7 * v3.toInt64) <<< (v4.toInt64 &&& 63)))).bind fun hp8 =>
      m13_29 F f v0 v1 v2 v3 v4 (v5 + 1) hp8
theorem t13_29 {d c w n : Nat} (hd : 0 ≤ d) (F : Nat) : ∀ f : Nat, ∀ (v0 : Nat) (v1 : Int32) (v2 : Int32) (v3 : Int32) (v4 : Int32) (v5 : Int32) (lv : List (Nat × Value)) (hp : List mE) (v : Unit) (hp' : List mE), alk 0 lv = some (.ref v0) → alk 1 lv = some (.int v1) → alk 2 lv = some (.int v2) → alk 3 lv = some (.int v3) → alk 4 lv = some (.int v4) → alk 5 lv = some (.int v5) → lvk n lv → hp.length = n → v0 < n → m13_29 F f v0 v1 v2 v3 v4 v5 hp = some (v, hp') → Rn d 13 29 lv [] hp c w (none, hp', c, w) := by
  intro f
  induction f with
  | zero => intro v0 v1 v2 v3 v4 v5 lv hp v hp' l0 l1 l2 l3 l4 l5 ok hn r_v0 h; cases h
  | succ f hr29 =>
    intro v0 v1 v2 v3 v4 v5 lv hp v hp' l0 l1 l2 l3 l4 l5 ok hn r_v0 h
    unfold m13_29 at h
    refine Rn.iload n13_29 l5 ?_
    refine Rn.aload_n n13_31 l0 ?_
    obtain ⟨x1, hx1, h⟩ := Option.bind_eq_some_iff.mp h
    refine Rn.gf n13_32 mo13 fl0_44 (gfr_v hx1).1 ?_
    have r_x1 : x1 < n := by rw [← hn]; exact (gfr_v hx1).2
    obtain ⟨x2, hx2, h⟩ := Option.bind_eq_some_iff.mp h
    refine Rn.gf n13_35 mo13 fl0_70 (gfi_v hx2) ?_
    by_cases hc3 : mc2 .ge v5 x2 = true
    · rw [if_pos hc3] at h
      refine Rn.c2t (t := 82) n13_38 (by decide) hc3 ?_
      have e1 := (Prod.mk.inj (Option.some.inj h)).1
      have e2 := (Prod.mk.inj (Option.some.inj h)).2
      subst e1
      subst e2
      exact Rn.vret n13_82 mr13
    · rw [if_neg hc3] at h
      refine Rn.c2f (t := 82) n13_38 (by decide) hc3 ?_
      refine Rn.aload_n n13_41 l0 ?_
      obtain ⟨x4, hx4, h⟩ := Option.bind_eq_some_iff.mp h
      refine Rn.gf n13_42 mo13 fl0_20 (gfr_v hx4).1 ?_
      have r_x4 : x4 < n := by rw [← hn]; exact (gfr_v hx4).2
      refine Rn.iload_n n13_45 l1 ?_
      refine Rn.sp (v := 256) n13_46 (by decide) ?_
      refine Rn.p n13_49 rfl ?_
      refine Rn.iload n13_50 l5 ?_
      refine Rn.p n13_52 rfl ?_
      refine Rn.p n13_53 rfl ?_
      obtain ⟨x5, hx5, h⟩ := Option.bind_eq_some_iff.mp h
      refine Rn.lald n13_54 hx5 ?_
      refine Rn.aload_n n13_55 l0 ?_
      obtain ⟨x6, hx6, h⟩ := Option.bind_eq_some_iff.mp h
      refine Rn.gf n13_56 mo13 fl0_20 (gfr_v hx6).1 ?_
      have r_x6 : x6 < n := by rw [← hn]; exact (gfr_v hx6).2
      refine Rn.iload_n n13_59 l2 ?_
      refine Rn.sp (v := 256) n13_60 (by decide) ?_
      refine Rn.p n13_63 rfl ?_
      refine Rn.iload n13_64 l5 ?_
      refine Rn.p n13_66 rfl ?_
      obtain ⟨x7, hx7, h⟩ := Option.bind_eq_some_iff.mp h
      refine Rn.lald n13_67 hx7 ?_
      refine Rn.iload_n n13_68 l3 ?_
      refine Rn.p n13_69 rfl ?_
      refine Rn.p n13_70 rfl ?_
      refine Rn.iload n13_71 l4 ?_
      refine Rn.p n13_73 rfl ?_
      refine Rn.p n13_74 rfl ?_
      obtain ⟨hp8, hhp8, h⟩ := Option.bind_eq_some_iff.mp h
      refine Rn.last n13_75 hhp8 ?_
      have hn := (wrJ_st (st := []) hhp8).2.trans hn
      refine Rn.ii (m := n) (u := 1) n13_76 ml13 (by decide) (by decide) l5 (fun lv l5 hk hok => ?_)
      have l0 := hk 0 _ (by decide) (Or.inl rfl) l0
      have l1 := hk 1 _ (by decide) (Or.inl rfl) l1
      have l2 := hk 2 _ (by decide) (Or.inl rfl) l2
      have l3 := hk 3 _ (by decide) (Or.inl rfl) l3
      have l4 := hk 4 _ (by decide) (Or.inl rfl) l4
      have ok := hok ok
      refine Rn.goto (t := 29) n13_79 (by decide) ?_
      exact hr29 _ _ _ _ _ _ lv _ _ _ l0 l1 l2 l3 l4 l5 ok hn r_v0  h
def m13_0 (F : Nat) (v0 : Nat) (v1 : Int32) (v2 : Int32) (v3 : Int32) (hp : List mE) : Option (Unit × List mE) :=
  (gfr 0 2 hp v0).bind fun x1 =>
  (gfr 6 4 hp x1).bind fun x2 =>
  (rdI hp x2 v1).bind fun x3 =>
  (gfr 0 2 hp v0).bind fun x4 =>
  (gfr 6 4 hp x4).bind fun x5 =>
  (rdI hp x5 v2).bind fun x6 =>
  m13_29 F F v0 v1 v2 v3 (12 * ((x3 - x6) / 2)) 0 hp
theorem t13_0 {d c w n : Nat} (hd : 0 ≤ d) (F : Nat) : ∀ (v0 : Nat) (v1 : Int32) (v2 : Int32) (v3 : Int32) (lv : List (Nat × Value)) (hp : List mE) (v : Unit) (hp' : List mE), alk 0 lv = some (.ref v0) → alk 1 lv = some (.int v1) → alk 2 lv = some (.int v2) → alk 3 lv = some (.int v3) → lvk n lv → hp.length = n → v0 < n → m13_0 F v0 v1 v2 v3 hp = some (v, hp') → Rn d 13 0 lv [] hp c w (none, hp', c, w) := by
  intro v0 v1 v2 v3 lv hp v hp' l0 l1 l2 l3 ok hn r_v0 h
  unfold m13_0 at h
  refine Rn.bp (v := 12) n13_0 (by decide) ?_
  refine Rn.aload_n n13_2 l0 ?_
  obtain ⟨x1, hx1, h⟩ := Option.bind_eq_some_iff.mp h
  refine Rn.gf n13_3 mo13 fl0_44 (gfr_v hx1).1 ?_
  have r_x1 : x1 < n := by rw [← hn]; exact (gfr_v hx1).2
  obtain ⟨x2, hx2, h⟩ := Option.bind_eq_some_iff.mp h
  refine Rn.gf n13_6 mo13 fl0_113 (gfr_v hx2).1 ?_
  have r_x2 : x2 < n := by rw [← hn]; exact (gfr_v hx2).2
  refine Rn.iload_n n13_9 l1 ?_
  obtain ⟨x3, hx3, h⟩ := Option.bind_eq_some_iff.mp h
  refine Rn.iald n13_10 hx3 ?_
  refine Rn.aload_n n13_11 l0 ?_
  obtain ⟨x4, hx4, h⟩ := Option.bind_eq_some_iff.mp h
  refine Rn.gf n13_12 mo13 fl0_44 (gfr_v hx4).1 ?_
  have r_x4 : x4 < n := by rw [← hn]; exact (gfr_v hx4).2
  obtain ⟨x5, hx5, h⟩ := Option.bind_eq_some_iff.mp h
  refine Rn.gf n13_15 mo13 fl0_113 (gfr_v hx5).1 ?_
  have r_x5 : x5 < n := by rw [← hn]; exact (gfr_v hx5).2
  refine Rn.iload_n n13_18 l2 ?_
  obtain ⟨x6, hx6, h⟩ := Option.bind_eq_some_iff.mp h
  refine Rn.iald n13_19 hx6 ?_
  refine Rn.p n13_20 rfl ?_
  refine Rn.ic (v := 2) n13_21 (by decide) ?_
  refine Rn.idv n13_22 (by decide) ?_
  refine Rn.p n13_23 rfl ?_
  refine Rn.is (m := n) n13_24 ml13 (by decide) (fun lv l4 hk hok => ?_)
  have l0 := hk 0 _ (by decide) (Or.inl rfl) l0
  have l1 := hk 1 _ (by decide) (Or.inl rfl) l1
  have l2 := hk 2 _ (by decide) (Or.inl rfl) l2
  have l3 := hk 3 _ (by decide) (Or.inl rfl) l3
  have ok := hok ok
  refine Rn.ic (v := 0) n13_26 (by decide) ?_
  refine Rn.is (m := n) n13_27 ml13 (by decide) (fun lv l5 hk hok => ?_)
  have l0 := hk 0 _ (by decide) (Or.inl rfl) l0
  have l1 := hk 1 _ (by decide) (Or.inl rfl) l1
  have l2 := hk 2 _ (by decide) (Or.inl rfl) l2
  have l3 := hk 3 _ (by decide) (Or.inl rfl) l3
  have l4 := hk 4 _ (by decide) (Or.inl rfl) l4
  have ok := hok ok
  exact t13_29 hd F  F _ _ _ _ _ _ lv _ _ _ l0 l1 l2 l3 l4 l5 ok hn r_v0  h
def e13 (F : Nat) (a0 : Nat) (a1 : Int32) (a2 : Int32) (a3 : Int32) (hp : List mE) : Option (Unit × List mE) := m13_0 F a0 a1 a2 a3 hp
theorem c13 {d : Nat} (hd : 0 ≤ d) (F : Nat) (a0 : Nat) (a1 : Int32) (a2 : Int32) (a3 : Int32) (hp : List mE) (v : Unit) (hp' : List mE) (ra0 : a0 < hp.length) (h : e13 F a0 a1 a2 a3 hp = some (v, hp')) : Rn d 13 0 (lv_args 0 [.ref a0, .int a1, .int a2, .int a3]) [] hp 0 0 (none, hp', 0, 0) :=
  t13_0 (n := hp.length) hd F a0 a1 a2 a3 (lv_args 0 [.ref a0, .int a1, .int a2, .int a3]) hp v hp' rfl rfl rfl rfl (lvk_args (okc (okr ra0) (okc rfl (okc rfl (okc rfl okn))))) rfl ra0 h
/-! MirrorRoots$Kept.begin -/
def m15_0 (F : Nat) (v0 : Nat) (hp : List mE) : Option (Unit × List mE) :=
  (pfv 1 1 hp v0 (.int 1)).bind fun hp1 =>
  (gfr 1 3 hp1 v0).bind fun x2 =>
  (wrI hp1 x2 0 0).bind fun hp3 =>
  (gfr 1 0 hp3 v0).bind fun x4 =>
  (gfr 1 4 hp3 v0).bind fun x5 =>
  (rcv 3 hp3 x4).bind fun u7 =>
  (e40 F x4 x5 0 hp3).bind fun q6 =>
  (gfr 1 0 q6.2 v0).bind fun x8 =>
  (gfr 1 5 q6.2 v0).bind fun x9 =>
  (rcv 3 q6.2 x8).bind fun u11 =>
  (e40 F x8 x9 0 q6.2).bind fun q10 =>
  some ((), q10.2)
theorem t15_0 {d c w n : Nat} (hd : 1 ≤ d) (F : Nat) : ∀ (v0 : Nat) (lv : List (Nat × Value)) (hp : List mE) (v : Unit) (hp' : List mE), alk 0 lv = some (.ref v0) → lvk n lv → hp.length = n → v0 < n → m15_0 F v0 hp = some (v, hp') → Rn d 15 0 lv [] hp c w (none, hp', c, w) := by
  obtain ⟨d', rfl⟩ : ∃ d', d = d' + 1 := ⟨d - 1, by omega⟩
  intro v0 lv hp v hp' l0 ok hn r_v0 h
  unfold m15_0 at h
  refine Rn.aload_n n15_0 l0 ?_
  refine Rn.ic (v := 1) n15_1 (by decide) ?_
  obtain ⟨hp1, hhp1, h⟩ := Option.bind_eq_some_iff.mp h
  refine Rn.pf n15_2 mo15 fl1_35 ft1_1 rfl ff1_1 (fun _ _ hh => by cases hh) hhp1 ?_
  have hn := (pfv_len hhp1).trans hn
  refine Rn.aload_n n15_5 l0 ?_
  obtain ⟨x2, hx2, h⟩ := Option.bind_eq_some_iff.mp h
  refine Rn.gf n15_6 mo15 fl1_15 (gfr_v hx2).1 ?_
  have r_x2 : x2 < n := by rw [← hn]; exact (gfr_v hx2).2
  refine Rn.ic (v := 0) n15_9 (by decide) ?_
  refine Rn.ic (v := 0) n15_10 (by decide) ?_
  obtain ⟨hp3, hhp3, h⟩ := Option.bind_eq_some_iff.mp h
  refine Rn.iast n15_11 hhp3 ?_
  have hn := (wrI_st (st := []) hhp3).2.trans hn
  refine Rn.aload_n n15_12 l0 ?_
  obtain ⟨x4, hx4, h⟩ := Option.bind_eq_some_iff.mp h
  refine Rn.gf n15_13 mo15 fl1_28 (gfr_v hx4).1 ?_
  have r_x4 : x4 < n := by rw [← hn]; exact (gfr_v hx4).2
  refine Rn.aload_n n15_16 l0 ?_
  obtain ⟨x5, hx5, h⟩ := Option.bind_eq_some_iff.mp h
  refine Rn.gf n15_17 mo15 fl1_18 (gfr_v hx5).1 ?_
  have r_x5 : x5 < n := by rw [← hn]; exact (gfr_v hx5).2
  refine Rn.ic (v := 0) n15_20 (by decide) ?_
  obtain ⟨u7, hu7, h⟩ := Option.bind_eq_some_iff.mp h
  obtain ⟨q6, hq6, h⟩ := Option.bind_eq_some_iff.mp h
  have gq6 := c40 (d := d') (by omega) F _ _ _ _ _ _ (by rw [hn]; exact r_x4) (by rw [hn]; exact r_x5) hq6
  refine Rn.cv (As := [.ref x5, .int 0]) (rr := []) n15_21 mo15 mm1_39 (by decide) mq40 rfl rfl rfl rfl (by rw [mo40]; exact hu7) (Nat.le_of_ble_eq_true rfl) (by rw [hn]; exact (okc (okr r_x4) (okc (okr r_x5) (okc rfl okn)))) (by rw [hn]; exact okn) (by rw [hn]; exact ok) (by rw [ml40]; exact Nat.le_of_ble_eq_true rfl) gq6 ?_
  have hn := (Rn.len gq6).trans hn
  show Rn _ 15 24 lv [] q6.2 c w _
  refine Rn.aload_n n15_24 l0 ?_
  obtain ⟨x8, hx8, h⟩ := Option.bind_eq_some_iff.mp h
  refine Rn.gf n15_25 mo15 fl1_28 (gfr_v hx8).1 ?_
  have r_x8 : x8 < n := by rw [← hn]; exact (gfr_v hx8).2
  refine Rn.aload_n n15_28 l0 ?_
  obtain ⟨x9, hx9, h⟩ := Option.bind_eq_some_iff.mp h
  refine Rn.gf n15_29 mo15 fl1_22 (gfr_v hx9).1 ?_
  have r_x9 : x9 < n := by rw [← hn]; exact (gfr_v hx9).2
  refine Rn.ic (v := 0) n15_32 (by decide) ?_
  obtain ⟨u11, hu11, h⟩ := Option.bind_eq_some_iff.mp h
  obtain ⟨q10, hq10, h⟩ := Option.bind_eq_some_iff.mp h
  have gq10 := c40 (d := d') (by omega) F _ _ _ _ _ _ (by rw [hn]; exact r_x8) (by rw [hn]; exact r_x9) hq10
  refine Rn.cv (As := [.ref x9, .int 0]) (rr := []) n15_33 mo15 mm1_39 (by decide) mq40 rfl rfl rfl rfl (by rw [mo40]; exact hu11) (Nat.le_of_ble_eq_true rfl) (by rw [hn]; exact (okc (okr r_x8) (okc (okr r_x9) (okc rfl okn)))) (by rw [hn]; exact okn) (by rw [hn]; exact ok) (by rw [ml40]; exact Nat.le_of_ble_eq_true rfl) gq10 ?_
  have hn := (Rn.len gq10).trans hn
  show Rn _ 15 36 lv [] q10.2 c w _
  have e1 := (Prod.mk.inj (Option.some.inj h)).1
  have e2 := (Prod.mk.inj (Option.some.inj h)).2
  subst e1
  subst e2
  exact Rn.vret n15_36 mr15
def e15 (F : Nat) (a0 : Nat) (hp : List mE) : Option (Unit × List mE) := m15_0 F a0 hp
theorem c15 {d : Nat} (hd : 1 ≤ d) (F : Nat) (a0 : Nat) (hp : List mE) (v : Unit) (hp' : List mE) (ra0 : a0 < hp.length) (h : e15 F a0 hp = some (v, hp')) : Rn d 15 0 (lv_args 0 [.ref a0]) [] hp 0 0 (none, hp', 0, 0) :=
  t15_0 (n := hp.length) hd F a0 (lv_args 0 [.ref a0]) hp v hp' rfl (lvk_args (okc (okr ra0) okn)) rfl ra0 h
/-! MirrorRoots$Kept.has -/
def m16_17 (F : Nat) (t0 : Int32) (hp : List mE) : Option (Int32 × List mE) :=
  if t0 = 0 ∨ t0 = 1 then some (t0, hp) else none
theorem t16_17 {d c w n : Nat} (hd : 0 ≤ d) (F : Nat) : ∀ (t0 : Int32) (lv : List (Nat × Value)) (hp : List mE) (v : Int32) (hp' : List mE), lvk n lv → hp.length = n → m16_17 F t0 hp = some (v, hp') → Rn d 16 17 lv [.int t0] hp c w (some (.int v), hp', c, w) := by
  intro t0 lv hp v hp' ok hn h
  unfold m16_17 at h
  by_cases hz1 : t0 = 0 ∨ t0 = 1
  · rw [if_pos hz1] at h
    have e1 := (Prod.mk.inj (Option.some.inj h)).1
    have e2 := (Prod.mk.inj (Option.some.inj h)).2
    subst e1
    subst e2
    exact Rn.zret n16_17 mr16 hz1
  · rw [if_neg hz1] at h; cases h
def m16_16 (F : Nat) (hp : List mE) : Option (Int32 × List mE) :=
  m16_17 F 0 hp
theorem t16_16 {d c w n : Nat} (hd : 0 ≤ d) (F : Nat) : ∀ (lv : List (Nat × Value)) (hp : List mE) (v : Int32) (hp' : List mE), lvk n lv → hp.length = n → m16_16 F hp = some (v, hp') → Rn d 16 16 lv [] hp c w (some (.int v), hp', c, w) := by
  intro lv hp v hp' ok hn h
  unfold m16_16 at h
  refine Rn.ic (v := 0) n16_16 (by decide) ?_
  exact t16_17 hd F  _ lv _ _ _  ok hn   h
def m16_0 (F : Nat) (v0 : Nat) (v1 : Int32) (hp : List mE) : Option (Int32 × List mE) :=
  if mc1 .lt v1 = true then
    m16_16 F hp
  else
    (gfi 1 1 hp v0).bind fun x2 =>
    if mc2 .ge v1 x2 = true then
      m16_16 F hp
    else
      m16_17 F 1 hp
theorem t16_0 {d c w n : Nat} (hd : 0 ≤ d) (F : Nat) : ∀ (v0 : Nat) (v1 : Int32) (lv : List (Nat × Value)) (hp : List mE) (v : Int32) (hp' : List mE), alk 0 lv = some (.ref v0) → alk 1 lv = some (.int v1) → lvk n lv → hp.length = n → v0 < n → m16_0 F v0 v1 hp = some (v, hp') → Rn d 16 0 lv [] hp c w (some (.int v), hp', c, w) := by
  intro v0 v1 lv hp v hp' l0 l1 ok hn r_v0 h
  unfold m16_0 at h
  refine Rn.iload_n n16_0 l1 ?_
  by_cases hc1 : mc1 .lt v1 = true
  · rw [if_pos hc1] at h
    refine Rn.c1t (t := 16) n16_1 (by decide) hc1 ?_
    exact t16_16 hd F  lv _ _ _  ok hn   h
  · rw [if_neg hc1] at h
    refine Rn.c1f (t := 16) n16_1 (by decide) hc1 ?_
    refine Rn.iload_n n16_4 l1 ?_
    refine Rn.aload_n n16_5 l0 ?_
    obtain ⟨x2, hx2, h⟩ := Option.bind_eq_some_iff.mp h
    refine Rn.gf n16_6 mo16 fl1_35 (gfi_v hx2) ?_
    by_cases hc3 : mc2 .ge v1 x2 = true
    · rw [if_pos hc3] at h
      refine Rn.c2t (t := 16) n16_9 (by decide) hc3 ?_
      exact t16_16 hd F  lv _ _ _  ok hn   h
    · rw [if_neg hc3] at h
      refine Rn.c2f (t := 16) n16_9 (by decide) hc3 ?_
      refine Rn.ic (v := 1) n16_12 (by decide) ?_
      refine Rn.goto (t := 17) n16_13 (by decide) ?_
      exact t16_17 hd F  _ lv _ _ _  ok hn   h
def e16 (F : Nat) (a0 : Nat) (a1 : Int32) (hp : List mE) : Option (Int32 × List mE) := m16_0 F a0 a1 hp
theorem c16 {d : Nat} (hd : 0 ≤ d) (F : Nat) (a0 : Nat) (a1 : Int32) (hp : List mE) (v : Int32) (hp' : List mE) (ra0 : a0 < hp.length) (h : e16 F a0 a1 hp = some (v, hp')) : Rn d 16 0 (lv_args 0 [.ref a0, .int a1]) [] hp 0 0 (some (.int v), hp', 0, 0) :=
  t16_0 (n := hp.length) hd F a0 a1 (lv_args 0 [.ref a0, .int a1]) hp v hp' rfl rfl (lvk_args (okc (okr ra0) (okc rfl okn))) rfl ra0 h
/-! MirrorRoots$Mirrors.leastBelow -/
def m45_36 (F : Nat) (rc3 : Nat → Nat → Int32 → Int32 → Int32 → List mE → Option (Int32 × List mE)) (v0 : Nat) (v1 : Nat) (v2 : Int32) (v3 : Int32) (v4 : Int32) (hp : List mE) : Option (Int32 × List mE) :=
  rc3 v0 v1 v2 v3 (v4 + 1) hp
theorem t45_36 {d c w n : Nat} (hd : 0 ≤ d) (F : Nat) {rc3 : Nat → Nat → Int32 → Int32 → Int32 → List mE → Option (Int32 × List mE)} (hr3 : ∀ (v0 : Nat) (v1 : Nat) (v2 : Int32) (v3 : Int32) (v4 : Int32) (lv : List (Nat × Value)) (hp : List mE) (v : Int32) (hp' : List mE), alk 0 lv = some (.ref v0) → alk 1 lv = some (.ref v1) → alk 2 lv = some (.int v2) → alk 3 lv = some (.int v3) → alk 4 lv = some (.int v4) → lvk n lv → hp.length = n → v0 < n → v1 < n → rc3 v0 v1 v2 v3 v4 hp = some (v, hp') → Rn d 45 3 lv [] hp c w (some (.int v), hp', c, w)) : ∀ (v0 : Nat) (v1 : Nat) (v2 : Int32) (v3 : Int32) (v4 : Int32) (lv : List (Nat × Value)) (hp : List mE) (v : Int32) (hp' : List mE), alk 0 lv = some (.ref v0) → alk 1 lv = some (.ref v1) → alk 2 lv = some (.int v2) → alk 3 lv = some (.int v3) → alk 4 lv = some (.int v4) → lvk n lv → hp.length = n → v0 < n → v1 < n → m45_36 F rc3 v0 v1 v2 v3 v4 hp = some (v, hp') → Rn d 45 36 lv [] hp c w (some (.int v), hp', c, w) := by
  intro v0 v1 v2 v3 v4 lv hp v hp' l0 l1 l2 l3 l4 ok hn r_v0 r_v1 h
  unfold m45_36 at h
  refine Rn.ii (m := n) (u := 1) n45_36 ml45 (by decide) (by decide) l4 (fun lv l4 hk hok => ?_)
  have l0 := hk 0 _ (by decide) (Or.inl rfl) l0
  have l1 := hk 1 _ (by decide) (Or.inl rfl) l1
  have l2 := hk 2 _ (by decide) (Or.inl rfl) l2
  have l3 := hk 3 _ (by decide) (Or.inl rfl) l3
  have ok := hok ok
  refine Rn.goto (t := 3) n45_39 (by decide) ?_
  exact hr3 _ _ _ _ _ lv _ _ _ l0 l1 l2 l3 l4 ok hn r_v0 r_v1  h
def m45_3 (F : Nat) : Nat → Nat → Nat → Int32 → Int32 → Int32 → List mE → Option (Int32 × List mE)
  | 0, _, _, _, _, _, _ => none
  | f + 1, v0, v1, v2, v3, v4, hp =>
    (gfi 3 0 hp v0).bind fun x1 =>
    if mc2 .ge v4 x1 = true then
      some ((-1), hp)
    else
      (rdJ hp v1 (v2 + v4)).bind fun x3 =>
      if mc1 .ge (lg_cmp x3 0) = true then
        m45_36 F (m45_3 F f) v0 v1 v2 v3 v4 hp
      else
        if mc2 .ne ((v3 >>> (v4 &&& 31)) &&& 1) 1 = true then
          m45_36 F (m45_3 F f) v0 v1 v2 v3 v4 hp
        else
          some (v4, hp)
theorem t45_3 {d c w n : Nat} (hd : 0 ≤ d) (F : Nat) : ∀ f : Nat, ∀ (v0 : Nat) (v1 : Nat) (v2 : Int32) (v3 : Int32) (v4 : Int32) (lv : List (Nat × Value)) (hp : List mE) (v : Int32) (hp' : List mE), alk 0 lv = some (.ref v0) → alk 1 lv = some (.ref v1) → alk 2 lv = some (.int v2) → alk 3 lv = some (.int v3) → alk 4 lv = some (.int v4) → lvk n lv → hp.length = n → v0 < n → v1 < n → m45_3 F f v0 v1 v2 v3 v4 hp = some (v, hp') → Rn d 45 3 lv [] hp c w (some (.int v), hp', c, w) := by
  intro f
  induction f with
  | zero => intro v0 v1 v2 v3 v4 lv hp v hp' l0 l1 l2 l3 l4 ok hn r_v0 r_v1 h; cases h
  | succ f hr3 =>
    intro v0 v1 v2 v3 v4 lv hp v hp' l0 l1 l2 l3 l4 ok hn r_v0 r_v1 h
    unfold m45_3 at h
    refine Rn.iload n45_3 l4 ?_
    refine Rn.aload_n n45_5 l0 ?_
    obtain ⟨x1, hx1, h⟩ := Option.bind_eq_some_iff.mp h
    refine Rn.gf n45_6 mo45 fl3_18 (gfi_v hx1) ?_
    by_cases hc2 : mc2 .ge v4 x1 = true
    · rw [if_pos hc2] at h
      refine Rn.c2t (t := 42) n45_9 (by decide) hc2 ?_
      refine Rn.ic (v := (-1)) n45_42 (by decide) ?_
      have e1 := (Prod.mk.inj (Option.some.inj h)).1
      have e2 := (Prod.mk.inj (Option.some.inj h)).2
      subst e1
      subst e2
      exact Rn.iret n45_43 mr45
    · rw [if_neg hc2] at h
      refine Rn.c2f (t := 42) n45_9 (by decide) hc2 ?_
      refine Rn.aload_n n45_12 l1 ?_
      refine Rn.iload_n n45_13 l2 ?_
      refine Rn.iload n45_14 l4 ?_
      refine Rn.p n45_16 rfl ?_
      obtain ⟨x3, hx3, h⟩ := Option.bind_eq_some_iff.mp h
      refine Rn.lald n45_17 hx3 ?_
      refine Rn.lc (v := 0) n45_18 (by decide) ?_
      refine Rn.p n45_19 rfl ?_
      by_cases hc4 : mc1 .ge (lg_cmp x3 0) = true
      · rw [if_pos hc4] at h
        refine Rn.c1t (t := 36) n45_20 (by decide) hc4 ?_
        exact t45_36 hd F hr3 _ _ _ _ _ lv _ _ _ l0 l1 l2 l3 l4 ok hn r_v0 r_v1  h
      · rw [if_neg hc4] at h
        refine Rn.c1f (t := 36) n45_20 (by decide) hc4 ?_
        refine Rn.iload_n n45_23 l3 ?_
        refine Rn.iload n45_24 l4 ?_
        refine Rn.p n45_26 rfl ?_
        refine Rn.ic (v := 1) n45_27 (by decide) ?_
        refine Rn.p n45_28 rfl ?_
        refine Rn.ic (v := 1) n45_29 (by decide) ?_
        by_cases hc5 : mc2 .ne ((v3 >>> (v4 &&& 31)) &&& 1) 1 = true
        · rw [if_pos hc5] at h
          refine Rn.c2t (t := 36) n45_30 (by decide) hc5 ?_
          exact t45_36 hd F hr3 _ _ _ _ _ lv _ _ _ l0 l1 l2 l3 l4 ok hn r_v0 r_v1  h
        · rw [if_neg hc5] at h
          refine Rn.c2f (t := 36) n45_30 (by decide) hc5 ?_
          refine Rn.iload n45_33 l4 ?_
          have e1 := (Prod.mk.inj (Option.some.inj h)).1
          have e2 := (Prod.mk.inj (Option.some.inj h)).2
          subst e1
          subst e2
          exact Rn.iret n45_35 mr45
def m45_0 (F : Nat) (v0 : Nat) (v1 : Nat) (v2 : Int32) (v3 : Int32) (hp : List mE) : Option (Int32 × List mE) :=
  m45_3 F F v0 v1 v2 v3 0 hp
theorem t45_0 {d c w n : Nat} (hd : 0 ≤ d) (F : Nat) : ∀ (v0 : Nat) (v1 : Nat) (v2 : Int32) (v3 : Int32) (lv : List (Nat × Value)) (hp : List mE) (v : Int32) (hp' : List mE), alk 0 lv = some (.ref v0) → alk 1 lv = some (.ref v1) → alk 2 lv = some (.int v2) → alk 3 lv = some (.int v3) → lvk n lv → hp.length = n → v0 < n → v1 < n → m45_0 F v0 v1 v2 v3 hp = some (v, hp') → Rn d 45 0 lv [] hp c w (some (.int v), hp', c, w) := by
  intro v0 v1 v2 v3 lv hp v hp' l0 l1 l2 l3 ok hn r_v0 r_v1 h
  unfold m45_0 at h
  refine Rn.ic (v := 0) n45_0 (by decide) ?_
  refine Rn.is (m := n) n45_1 ml45 (by decide) (fun lv l4 hk hok => ?_)
  have l0 := hk 0 _ (by decide) (Or.inl rfl) l0
  have l1 := hk 1 _ (by decide) (Or.inl rfl) l1
  have l2 := hk 2 _ (by decide) (Or.inl rfl) l2
  have l3 := hk 3 _ (by decide) (Or.inl rfl) l3
  have ok := hok ok
  exact t45_3 hd F  F _ _ _ _ _ lv _ _ _ l0 l1 l2 l3 l4 ok hn r_v0 r_v1  h
def e45 (F : Nat) (a0 : Nat) (a1 : Nat) (a2 : Int32) (a3 : Int32) (hp : List mE) : Option (Int32 × List mE) := m45_0 F a0 a1 a2 a3 hp
theorem c45 {d : Nat} (hd : 0 ≤ d) (F : Nat) (a0 : Nat) (a1 : Nat) (a2 : Int32) (a3 : Int32) (hp : List mE) (v : Int32) (hp' : List mE) (ra0 : a0 < hp.length) (ra1 : a1 < hp.length) (h : e45 F a0 a1 a2 a3 hp = some (v, hp')) : Rn d 45 0 (lv_args 0 [.ref a0, .ref a1, .int a2, .int a3]) [] hp 0 0 (some (.int v), hp', 0, 0) :=
  t45_0 (n := hp.length) hd F a0 a1 a2 a3 (lv_args 0 [.ref a0, .ref a1, .int a2, .int a3]) hp v hp' rfl rfl rfl rfl (lvk_args (okc (okr ra0) (okc (okr ra1) (okc rfl (okc rfl okn))))) rfl ra0 ra1 h
/-! MirrorRoots$Mirrors.allMirrors -/
def m46_0 (F : Nat) (v0 : Nat) (hp : List mE) : Option (Int32 × List mE) :=
  (gfi 3 0 hp v0).bind fun x1 =>
  some ((1 <<< (x1 &&& 31)) - 1, hp)
theorem t46_0 {d c w n : Nat} (hd : 0 ≤ d) (F : Nat) : ∀ (v0 : Nat) (lv : List (Nat × Value)) (hp : List mE) (v : Int32) (hp' : List mE), alk 0 lv = some (.ref v0) → lvk n lv → hp.length = n → v0 < n → m46_0 F v0 hp = some (v, hp') → Rn d 46 0 lv [] hp c w (some (.int v), hp', c, w) := by
  intro v0 lv hp v hp' l0 ok hn r_v0 h
  unfold m46_0 at h
  refine Rn.ic (v := 1) n46_0 (by decide) ?_
  refine Rn.aload_n n46_1 l0 ?_
  obtain ⟨x1, hx1, h⟩ := Option.bind_eq_some_iff.mp h
  refine Rn.gf n46_2 mo46 fl3_18 (gfi_v hx1) ?_
  refine Rn.p n46_5 rfl ?_
  refine Rn.ic (v := 1) n46_6 (by decide) ?_
  refine Rn.p n46_7 rfl ?_
  have e1 := (Prod.mk.inj (Option.some.inj h)).1
  have e2 := (Prod.mk.inj (Option.some.inj h)).2
  subst e1
  subst e2
  exact Rn.iret n46_8 mr46
def e46 (F : Nat) (a0 : Nat) (hp : List mE) : Option (Int32 × List mE) := m46_0 F a0 hp
theorem c46 {d : Nat} (hd : 0 ≤ d) (F : Nat) (a0 : Nat) (hp : List mE) (v : Int32) (hp' : List mE) (ra0 : a0 < hp.length) (h : e46 F a0 hp = some (v, hp')) : Rn d 46 0 (lv_args 0 [.ref a0]) [] hp 0 0 (some (.int v), hp', 0, 0) :=
  t46_0 (n := hp.length) hd F a0 (lv_args 0 [.ref a0]) hp v hp' rfl (lvk_args (okc (okr ra0) okn)) rfl ra0 h
/-! MirrorRoots$Kept.spell -/
def m20_3 (F : Nat) : Nat → Nat → Nat → Nat → Int32 → Int32 → List mE → Option (Int32 × List mE)
  | 0, _, _, _, _, _, _ => none
  | f + 1, v0, v1, v2, v3, v4, hp =>
    if mc2 .ge v4 20 = true then
      some (20, hp)
    else
      (gfr 1 0 hp v0).bind fun x2 =>
      (gfr 1 0 hp v0).bind fun x3 =>
      (rcv 3 hp x3).bind fun u5 =>
      (e46 F x3 hp).bind fun q4 =>
      (rcv 3 q4.2 x2).bind fun u7 =>
      (e45 F x2 v1 0 q4.1 q4.2).bind fun q6 =>
      if mc2 .ne q6.1 ((-1)) = true then
        (wrI q6.2 v2 (v3 + v4) q6.1).bind fun hp9 =>
        (gfr 1 0 hp9 v0).bind fun x10 =>
        (rcv 3 hp9 x10).bind fun u12 =>
        (e41 F x10 v1 0 q6.1 hp9).bind fun q11 =>
        m20_3 F f v0 v1 v2 v3 (v4 + 1) q11.2
      else
        some (v4, q6.2)
theorem t20_3 {d c w n : Nat} (hd : 1 ≤ d) (F : Nat) : ∀ f : Nat, ∀ (v0 : Nat) (v1 : Nat) (v2 : Nat) (v3 : Int32) (v4 : Int32) (lv : List (Nat × Value)) (hp : List mE) (v : Int32) (hp' : List mE), alk 0 lv = some (.ref v0) → alk 1 lv = some (.ref v1) → alk 2 lv = some (.ref v2) → alk 3 lv = some (.int v3) → alk 4 lv = some (.int v4) → lvk n lv → hp.length = n → v0 < n → v1 < n → v2 < n → m20_3 F f v0 v1 v2 v3 v4 hp = some (v, hp') → Rn d 20 3 lv [] hp c w (some (.int v), hp', c, w) := by
  obtain ⟨d', rfl⟩ : ∃ d', d = d' + 1 := ⟨d - 1, by omega⟩
  intro f
  induction f with
  | zero => intro v0 v1 v2 v3 v4 lv hp v hp' l0 l1 l2 l3 l4 ok hn r_v0 r_v1 r_v2 h; cases h
  | succ f hr3 =>
    intro v0 v1 v2 v3 v4 lv hp v hp' l0 l1 l2 l3 l4 ok hn r_v0 r_v1 r_v2 h
    unfold m20_3 at h
    refine Rn.iload n20_3 l4 ?_
    refine Rn.bp (v := 20) n20_5 (by decide) ?_
    by_cases hc1 : mc2 .ge v4 20 = true
    · rw [if_pos hc1] at h
      refine Rn.c2t (t := 62) n20_7 (by decide) hc1 ?_
      refine Rn.bp (v := 20) n20_62 (by decide) ?_
      have e1 := (Prod.mk.inj (Option.some.inj h)).1
      have e2 := (Prod.mk.inj (Option.some.inj h)).2
      subst e1
      subst e2
      exact Rn.iret n20_64 mr20
    · rw [if_neg hc1] at h
      refine Rn.c2f (t := 62) n20_7 (by decide) hc1 ?_
      refine Rn.aload_n n20_10 l0 ?_
      obtain ⟨x2, hx2, h⟩ := Option.bind_eq_some_iff.mp h
      refine Rn.gf n20_11 mo20 fl1_28 (gfr_v hx2).1 ?_
      have r_x2 : x2 < n := by rw [← hn]; exact (gfr_v hx2).2
      refine Rn.aload_n n20_14 l1 ?_
      refine Rn.ic (v := 0) n20_15 (by decide) ?_
      refine Rn.aload_n n20_16 l0 ?_
      obtain ⟨x3, hx3, h⟩ := Option.bind_eq_some_iff.mp h
      refine Rn.gf n20_17 mo20 fl1_28 (gfr_v hx3).1 ?_
      have r_x3 : x3 < n := by rw [← hn]; exact (gfr_v hx3).2
      obtain ⟨u5, hu5, h⟩ := Option.bind_eq_some_iff.mp h
      obtain ⟨q4, hq4, h⟩ := Option.bind_eq_some_iff.mp h
      have gq4 := c46 (d := d') (by omega) F _ _ _ _ (by rw [hn]; exact r_x3) hq4
      refine Rn.cv (As := []) (rr := [.int 0, .ref v1, .ref x2]) n20_20 mo20 mm1_68 (by decide) mq46 rfl rfl rfl rfl (by rw [mo46]; exact hu5) (Nat.le_of_ble_eq_true rfl) (by rw [hn]; exact (okc (okr r_x3) okn)) (by rw [hn]; exact (okc rfl (okc (okr r_v1) (okc (okr r_x2) okn)))) (by rw [hn]; exact ok) (by rw [ml46]; exact Nat.le_of_ble_eq_true rfl) gq4 ?_
      have hn := (Rn.len gq4).trans hn
      show Rn _ 20 23 lv [.int q4.1, .int 0, .ref v1, .ref x2] q4.2 c w _
      obtain ⟨u7, hu7, h⟩ := Option.bind_eq_some_iff.mp h
      obtain ⟨q6, hq6, h⟩ := Option.bind_eq_some_iff.mp h
      have gq6 := c45 (d := d') (by omega) F _ _ _ _ _ _ _ (by rw [hn]; exact r_x2) (by rw [hn]; exact r_v1) hq6
      refine Rn.cv (As := [.ref v1, .int 0, .int q4.1]) (rr := []) n20_23 mo20 mm1_72 (by decide) mq45 rfl rfl rfl rfl (by rw [mo45]; exact hu7) (Nat.le_of_ble_eq_true rfl) (by rw [hn]; exact (okc (okr r_x2) (okc (okr r_v1) (okc rfl (okc rfl okn))))) (by rw [hn]; exact okn) (by rw [hn]; exact ok) (by rw [ml45]; exact Nat.le_of_ble_eq_true rfl) gq6 ?_
      have hn := (Rn.len gq6).trans hn
      show Rn _ 20 26 lv [.int q6.1] q6.2 c w _
      refine Rn.is (m := n) n20_26 ml20 (by decide) (fun lv l5 hk hok => ?_)
      have l0 := hk 0 _ (by decide) (Or.inl rfl) l0
      have l1 := hk 1 _ (by decide) (Or.inl rfl) l1
      have l2 := hk 2 _ (by decide) (Or.inl rfl) l2
      have l3 := hk 3 _ (by decide) (Or.inl rfl) l3
      have l4 := hk 4 _ (by decide) (Or.inl rfl) l4
      have ok := hok ok
      refine Rn.iload n20_28 l5 ?_
      refine Rn.ic (v := (-1)) n20_30 (by decide) ?_
      by_cases hc8 : mc2 .ne q6.1 ((-1)) = true
      · rw [if_pos hc8] at h
        refine Rn.c2t (t := 37) n20_31 (by decide) hc8 ?_
        refine Rn.aload_n n20_37 l2 ?_
        refine Rn.iload_n n20_38 l3 ?_
        refine Rn.iload n20_39 l4 ?_
        refine Rn.p n20_41 rfl ?_
        refine Rn.iload n20_42 l5 ?_
        obtain ⟨hp9, hhp9, h⟩ := Option.bind_eq_some_iff.mp h
        refine Rn.iast n20_44 hhp9 ?_
        have hn := (wrI_st (st := []) hhp9).2.trans hn
        refine Rn.aload_n n20_45 l0 ?_
        obtain ⟨x10, hx10, h⟩ := Option.bind_eq_some_iff.mp h
        refine Rn.gf n20_46 mo20 fl1_28 (gfr_v hx10).1 ?_
        have r_x10 : x10 < n := by rw [← hn]; exact (gfr_v hx10).2
        refine Rn.aload_n n20_49 l1 ?_
        refine Rn.ic (v := 0) n20_50 (by decide) ?_
        refine Rn.iload n20_51 l5 ?_
        obtain ⟨u12, hu12, h⟩ := Option.bind_eq_some_iff.mp h
        obtain ⟨q11, hq11, h⟩ := Option.bind_eq_some_iff.mp h
        have gq11 := c41 (d := d') (by omega) F _ _ _ _ _ _ _ (by rw [hn]; exact r_x10) (by rw [hn]; exact r_v1) hq11
        refine Rn.cv (As := [.ref v1, .int 0, .int q6.1]) (rr := []) n20_53 mo20 mm1_45 (by decide) mq41 rfl rfl rfl rfl (by rw [mo41]; exact hu12) (Nat.le_of_ble_eq_true rfl) (by rw [hn]; exact (okc (okr r_x10) (okc (okr r_v1) (okc rfl (okc rfl okn))))) (by rw [hn]; exact okn) (by rw [hn]; exact ok) (by rw [ml41]; exact Nat.le_of_ble_eq_true rfl) gq11 ?_
        have hn := (Rn.len gq11).trans hn
        show Rn _ 20 56 lv [] q11.2 c w _
        refine Rn.ii (m := n) (u := 1) n20_56 ml20 (by decide) (by decide) l4 (fun lv l4 hk hok => ?_)
        have l0 := hk 0 _ (by decide) (Or.inl rfl) l0
        have l1 := hk 1 _ (by decide) (Or.inl rfl) l1
        have l2 := hk 2 _ (by decide) (Or.inl rfl) l2
        have l3 := hk 3 _ (by decide) (Or.inl rfl) l3
        have l5 := hk 5 _ (by decide) (Or.inl rfl) l5
        have ok := hok ok
        refine Rn.goto (t := 3) n20_59 (by decide) ?_
        exact hr3 _ _ _ _ _ lv _ _ _ l0 l1 l2 l3 l4 ok hn r_v0 r_v1 r_v2  h
      · rw [if_neg hc8] at h
        refine Rn.c2f (t := 37) n20_31 (by decide) hc8 ?_
        refine Rn.iload n20_34 l4 ?_
        have e1 := (Prod.mk.inj (Option.some.inj h)).1
        have e2 := (Prod.mk.inj (Option.some.inj h)).2
        subst e1
        subst e2
        exact Rn.iret n20_36 mr20
def m20_0 (F : Nat) (v0 : Nat) (v1 : Nat) (v2 : Nat) (v3 : Int32) (hp : List mE) : Option (Int32 × List mE) :=
  m20_3 F F v0 v1 v2 v3 0 hp
theorem t20_0 {d c w n : Nat} (hd : 1 ≤ d) (F : Nat) : ∀ (v0 : Nat) (v1 : Nat) (v2 : Nat) (v3 : Int32) (lv : List (Nat × Value)) (hp : List mE) (v : Int32) (hp' : List mE), alk 0 lv = some (.ref v0) → alk 1 lv = some (.ref v1) → alk 2 lv = some (.ref v2) → alk 3 lv = some (.int v3) → lvk n lv → hp.length = n → v0 < n → v1 < n → v2 < n → m20_0 F v0 v1 v2 v3 hp = some (v, hp') → Rn d 20 0 lv [] hp c w (some (.int v), hp', c, w) := by
  obtain ⟨d', rfl⟩ : ∃ d', d = d' + 1 := ⟨d - 1, by omega⟩
  intro v0 v1 v2 v3 lv hp v hp' l0 l1 l2 l3 ok hn r_v0 r_v1 r_v2 h
  unfold m20_0 at h
  refine Rn.ic (v := 0) n20_0 (by decide) ?_
  refine Rn.is (m := n) n20_1 ml20 (by decide) (fun lv l4 hk hok => ?_)
  have l0 := hk 0 _ (by decide) (Or.inl rfl) l0
  have l1 := hk 1 _ (by decide) (Or.inl rfl) l1
  have l2 := hk 2 _ (by decide) (Or.inl rfl) l2
  have l3 := hk 3 _ (by decide) (Or.inl rfl) l3
  have ok := hok ok
  exact t20_3 hd F  F _ _ _ _ _ lv _ _ _ l0 l1 l2 l3 l4 ok hn r_v0 r_v1 r_v2  h
def e20 (F : Nat) (a0 : Nat) (a1 : Nat) (a2 : Nat) (a3 : Int32) (hp : List mE) : Option (Int32 × List mE) := m20_0 F a0 a1 a2 a3 hp
theorem c20 {d : Nat} (hd : 1 ≤ d) (F : Nat) (a0 : Nat) (a1 : Nat) (a2 : Nat) (a3 : Int32) (hp : List mE) (v : Int32) (hp' : List mE) (ra0 : a0 < hp.length) (ra1 : a1 < hp.length) (ra2 : a2 < hp.length) (h : e20 F a0 a1 a2 a3 hp = some (v, hp')) : Rn d 20 0 (lv_args 0 [.ref a0, .ref a1, .ref a2, .int a3]) [] hp 0 0 (some (.int v), hp', 0, 0) :=
  t20_0 (n := hp.length) hd F a0 a1 a2 a3 (lv_args 0 [.ref a0, .ref a1, .ref a2, .int a3]) hp v hp' rfl rfl rfl rfl (lvk_args (okc (okr ra0) (okc (okr ra1) (okc (okr ra2) (okc rfl okn))))) rfl ra0 ra1 ra2 h
/-! MirrorRoots$Kept.writeLast -/
def m19_64 (F : Nat) : Nat → Nat → Int32 → Int32 → List mE → Option (Unit × List mE)
  | 0, _, _, _, _ => none
  | f + 1, v0, v1, v2, hp =>
    (gfr 1 3 hp v0).bind fun x1 =>
    (rdI hp x1 v1).bind fun x2 =>
    if mc2 .ge v2 x2 = true then
      some ((), hp)
    else
      (gfr 1 0 hp v0).bind fun x4 =>
      (gfr 1 5 hp v0).bind fun x5 =>
      (rcv 1 hp v0).bind fun u7 =>
      (e17 F v0 v1 v2 hp).bind fun q6 =>
      (rcv 3 q6.2 x4).bind fun u9 =>
      (e41 F x4 x5 (v1 * 5) q6.1 q6.2).bind fun q8 =>
      m19_64 F f v0 v1 (v2 + 1) q8.2
theorem t19_64 {d c w n : Nat} (hd : 2 ≤ d) (F : Nat) : ∀ f : Nat, ∀ (v0 : Nat) (v1 : Int32) (v2 : Int32) (lv : List (Nat × Value)) (hp : List mE) (v : Unit) (hp' : List mE), alk 0 lv = some (.ref v0) → alk 1 lv = some (.int v1) → alk 2 lv = some (.int v2) → lvk n lv → hp.length = n → v0 < n → m19_64 F f v0 v1 v2 hp = some (v, hp') → Rn d 19 64 lv [] hp c w (none, hp', c, w) := by
  obtain ⟨d', rfl⟩ : ∃ d', d = d' + 1 := ⟨d - 1, by omega⟩
  intro f
  induction f with
  | zero => intro v0 v1 v2 lv hp v hp' l0 l1 l2 ok hn r_v0 h; cases h
  | succ f hr64 =>
    intro v0 v1 v2 lv hp v hp' l0 l1 l2 ok hn r_v0 h
    unfold m19_64 at h
    refine Rn.iload_n n19_64 l2 ?_
    refine Rn.aload_n n19_65 l0 ?_
    obtain ⟨x1, hx1, h⟩ := Option.bind_eq_some_iff.mp h
    refine Rn.gf n19_66 mo19 fl1_15 (gfr_v hx1).1 ?_
    have r_x1 : x1 < n := by rw [← hn]; exact (gfr_v hx1).2
    refine Rn.iload_n n19_69 l1 ?_
    obtain ⟨x2, hx2, h⟩ := Option.bind_eq_some_iff.mp h
    refine Rn.iald n19_70 hx2 ?_
    by_cases hc3 : mc2 .ge v2 x2 = true
    · rw [if_pos hc3] at h
      refine Rn.c2t (t := 100) n19_71 (by decide) hc3 ?_
      have e1 := (Prod.mk.inj (Option.some.inj h)).1
      have e2 := (Prod.mk.inj (Option.some.inj h)).2
      subst e1
      subst e2
      exact Rn.vret n19_100 mr19
    · rw [if_neg hc3] at h
      refine Rn.c2f (t := 100) n19_71 (by decide) hc3 ?_
      refine Rn.aload_n n19_74 l0 ?_
      obtain ⟨x4, hx4, h⟩ := Option.bind_eq_some_iff.mp h
      refine Rn.gf n19_75 mo19 fl1_28 (gfr_v hx4).1 ?_
      have r_x4 : x4 < n := by rw [← hn]; exact (gfr_v hx4).2
      refine Rn.aload_n n19_78 l0 ?_
      obtain ⟨x5, hx5, h⟩ := Option.bind_eq_some_iff.mp h
      refine Rn.gf n19_79 mo19 fl1_22 (gfr_v hx5).1 ?_
      have r_x5 : x5 < n := by rw [← hn]; exact (gfr_v hx5).2
      refine Rn.iload_n n19_82 l1 ?_
      refine Rn.ic (v := 5) n19_83 (by decide) ?_
      refine Rn.p n19_84 rfl ?_
      refine Rn.aload_n n19_85 l0 ?_
      refine Rn.iload_n n19_86 l1 ?_
      refine Rn.iload_n n19_87 l2 ?_
      obtain ⟨u7, hu7, h⟩ := Option.bind_eq_some_iff.mp h
      obtain ⟨q6, hq6, h⟩ := Option.bind_eq_some_iff.mp h
      have gq6 := c17 (d := d') (by omega) F _ _ _ _ _ _ (by rw [hn]; exact r_v0) hq6
      refine Rn.cv (As := [.int v1, .int v2]) (rr := [.int (v1 * 5), .ref x5, .ref x4]) n19_88 mo19 mm1_64 (by decide) mq17 rfl rfl rfl rfl (by rw [mo17]; exact hu7) (Nat.le_of_ble_eq_true rfl) (by rw [hn]; exact (okc (okr r_v0) (okc rfl (okc rfl okn)))) (by rw [hn]; exact (okc rfl (okc (okr r_x5) (okc (okr r_x4) okn)))) (by rw [hn]; exact ok) (by rw [ml17]; exact Nat.le_of_ble_eq_true rfl) gq6 ?_
      have hn := (Rn.len gq6).trans hn
      show Rn _ 19 91 lv [.int q6.1, .int (v1 * 5), .ref x5, .ref x4] q6.2 c w _
      obtain ⟨u9, hu9, h⟩ := Option.bind_eq_some_iff.mp h
      obtain ⟨q8, hq8, h⟩ := Option.bind_eq_some_iff.mp h
      have gq8 := c41 (d := d') (by omega) F _ _ _ _ _ _ _ (by rw [hn]; exact r_x4) (by rw [hn]; exact r_x5) hq8
      refine Rn.cv (As := [.ref x5, .int (v1 * 5), .int q6.1]) (rr := []) n19_91 mo19 mm1_45 (by decide) mq41 rfl rfl rfl rfl (by rw [mo41]; exact hu9) (Nat.le_of_ble_eq_true rfl) (by rw [hn]; exact (okc (okr r_x4) (okc (okr r_x5) (okc rfl (okc rfl okn))))) (by rw [hn]; exact okn) (by rw [hn]; exact ok) (by rw [ml41]; exact Nat.le_of_ble_eq_true rfl) gq8 ?_
      have hn := (Rn.len gq8).trans hn
      show Rn _ 19 94 lv [] q8.2 c w _
      refine Rn.ii (m := n) (u := 1) n19_94 ml19 (by decide) (by decide) l2 (fun lv l2 hk hok => ?_)
      have l0 := hk 0 _ (by decide) (Or.inl rfl) l0
      have l1 := hk 1 _ (by decide) (Or.inl rfl) l1
      have ok := hok ok
      refine Rn.goto (t := 64) n19_97 (by decide) ?_
      exact hr64 _ _ _ lv _ _ _ l0 l1 l2 ok hn r_v0  h
def m19_0 (F : Nat) (v0 : Nat) (hp : List mE) : Option (Unit × List mE) :=
  (gfi 1 1 hp v0).bind fun x1 =>
  (gfr 1 0 hp v0).bind fun x2 =>
  (gfr 1 6 hp v0).bind fun x3 =>
  (gfr 1 4 hp v0).bind fun x4 =>
  (rcv 3 hp x2).bind fun u6 =>
  (e42 F x2 x3 0 x4 ((x1 - 1) * 5) hp).bind fun q5 =>
  (gfr 1 3 q5.2 v0).bind fun x7 =>
  (gfr 1 6 q5.2 v0).bind fun x8 =>
  (gfr 1 2 q5.2 v0).bind fun x9 =>
  (rcv 1 q5.2 v0).bind fun u11 =>
  (e20 F v0 x8 x9 ((x1 - 1) * 20) q5.2).bind fun q10 =>
  (wrI q10.2 x7 (x1 - 1) q10.1).bind fun hp12 =>
  (gfr 1 0 hp12 v0).bind fun x13 =>
  (gfr 1 5 hp12 v0).bind fun x14 =>
  (rcv 3 hp12 x13).bind fun u16 =>
  (e40 F x13 x14 ((x1 - 1) * 5) hp12).bind fun q15 =>
  m19_64 F F v0 (x1 - 1) 0 q15.2
theorem t19_0 {d c w n : Nat} (hd : 2 ≤ d) (F : Nat) : ∀ (v0 : Nat) (lv : List (Nat × Value)) (hp : List mE) (v : Unit) (hp' : List mE), alk 0 lv = some (.ref v0) → lvk n lv → hp.length = n → v0 < n → m19_0 F v0 hp = some (v, hp') → Rn d 19 0 lv [] hp c w (none, hp', c, w) := by
  obtain ⟨d', rfl⟩ : ∃ d', d = d' + 1 := ⟨d - 1, by omega⟩
  intro v0 lv hp v hp' l0 ok hn r_v0 h
  unfold m19_0 at h
  refine Rn.aload_n n19_0 l0 ?_
  obtain ⟨x1, hx1, h⟩ := Option.bind_eq_some_iff.mp h
  refine Rn.gf n19_1 mo19 fl1_35 (gfi_v hx1) ?_
  refine Rn.ic (v := 1) n19_4 (by decide) ?_
  refine Rn.p n19_5 rfl ?_
  refine Rn.isn (m := n) n19_6 rfl ml19 (by decide) (fun lv l1 hk hok => ?_)
  have l0 := hk 0 _ (by decide) (Or.inl rfl) l0
  have ok := hok ok
  refine Rn.aload_n n19_7 l0 ?_
  obtain ⟨x2, hx2, h⟩ := Option.bind_eq_some_iff.mp h
  refine Rn.gf n19_8 mo19 fl1_28 (gfr_v hx2).1 ?_
  have r_x2 : x2 < n := by rw [← hn]; exact (gfr_v hx2).2
  refine Rn.aload_n n19_11 l0 ?_
  obtain ⟨x3, hx3, h⟩ := Option.bind_eq_some_iff.mp h
  refine Rn.gf n19_12 mo19 fl1_25 (gfr_v hx3).1 ?_
  have r_x3 : x3 < n := by rw [← hn]; exact (gfr_v hx3).2
  refine Rn.ic (v := 0) n19_15 (by decide) ?_
  refine Rn.aload_n n19_16 l0 ?_
  obtain ⟨x4, hx4, h⟩ := Option.bind_eq_some_iff.mp h
  refine Rn.gf n19_17 mo19 fl1_18 (gfr_v hx4).1 ?_
  have r_x4 : x4 < n := by rw [← hn]; exact (gfr_v hx4).2
  refine Rn.iload_n n19_20 l1 ?_
  refine Rn.ic (v := 5) n19_21 (by decide) ?_
  refine Rn.p n19_22 rfl ?_
  obtain ⟨u6, hu6, h⟩ := Option.bind_eq_some_iff.mp h
  obtain ⟨q5, hq5, h⟩ := Option.bind_eq_some_iff.mp h
  have gq5 := c42 (d := d') (by omega) F _ _ _ _ _ _ _ _ (by rw [hn]; exact r_x2) (by rw [hn]; exact r_x3) (by rw [hn]; exact r_x4) hq5
  refine Rn.cv (As := [.ref x3, .int 0, .ref x4, .int ((x1 - 1) * 5)]) (rr := []) n19_23 mo19 mm1_56 (by decide) mq42 rfl rfl rfl rfl (by rw [mo42]; exact hu6) (Nat.le_of_ble_eq_true rfl) (by rw [hn]; exact (okc (okr r_x2) (okc (okr r_x3) (okc rfl (okc (okr r_x4) (okc rfl okn)))))) (by rw [hn]; exact okn) (by rw [hn]; exact ok) (by rw [ml42]; exact Nat.le_of_ble_eq_true rfl) gq5 ?_
  have hn := (Rn.len gq5).trans hn
  show Rn _ 19 26 lv [] q5.2 c w _
  refine Rn.aload_n n19_26 l0 ?_
  obtain ⟨x7, hx7, h⟩ := Option.bind_eq_some_iff.mp h
  refine Rn.gf n19_27 mo19 fl1_15 (gfr_v hx7).1 ?_
  have r_x7 : x7 < n := by rw [← hn]; exact (gfr_v hx7).2
  refine Rn.iload_n n19_30 l1 ?_
  refine Rn.aload_n n19_31 l0 ?_
  refine Rn.aload_n n19_32 l0 ?_
  obtain ⟨x8, hx8, h⟩ := Option.bind_eq_some_iff.mp h
  refine Rn.gf n19_33 mo19 fl1_25 (gfr_v hx8).1 ?_
  have r_x8 : x8 < n := by rw [← hn]; exact (gfr_v hx8).2
  refine Rn.aload_n n19_36 l0 ?_
  obtain ⟨x9, hx9, h⟩ := Option.bind_eq_some_iff.mp h
  refine Rn.gf n19_37 mo19 fl1_9 (gfr_v hx9).1 ?_
  have r_x9 : x9 < n := by rw [← hn]; exact (gfr_v hx9).2
  refine Rn.iload_n n19_40 l1 ?_
  refine Rn.bp (v := 20) n19_41 (by decide) ?_
  refine Rn.p n19_43 rfl ?_
  obtain ⟨u11, hu11, h⟩ := Option.bind_eq_some_iff.mp h
  obtain ⟨q10, hq10, h⟩ := Option.bind_eq_some_iff.mp h
  have gq10 := c20 (d := d') (by omega) F _ _ _ _ _ _ _ (by rw [hn]; exact r_v0) (by rw [hn]; exact r_x8) (by rw [hn]; exact r_x9) hq10
  refine Rn.cv (As := [.ref x8, .ref x9, .int ((x1 - 1) * 20)]) (rr := [.int (x1 - 1), .ref x7]) n19_44 mo19 mm1_60 (by decide) mq20 rfl rfl rfl rfl (by rw [mo20]; exact hu11) (Nat.le_of_ble_eq_true rfl) (by rw [hn]; exact (okc (okr r_v0) (okc (okr r_x8) (okc (okr r_x9) (okc rfl okn))))) (by rw [hn]; exact (okc rfl (okc (okr r_x7) okn))) (by rw [hn]; exact ok) (by rw [ml20]; exact Nat.le_of_ble_eq_true rfl) gq10 ?_
  have hn := (Rn.len gq10).trans hn
  show Rn _ 19 47 lv [.int q10.1, .int (x1 - 1), .ref x7] q10.2 c w _
  obtain ⟨hp12, hhp12, h⟩ := Option.bind_eq_some_iff.mp h
  refine Rn.iast n19_47 hhp12 ?_
  have hn := (wrI_st (st := []) hhp12).2.trans hn
  refine Rn.aload_n n19_48 l0 ?_
  obtain ⟨x13, hx13, h⟩ := Option.bind_eq_some_iff.mp h
  refine Rn.gf n19_49 mo19 fl1_28 (gfr_v hx13).1 ?_
  have r_x13 : x13 < n := by rw [← hn]; exact (gfr_v hx13).2
  refine Rn.aload_n n19_52 l0 ?_
  obtain ⟨x14, hx14, h⟩ := Option.bind_eq_some_iff.mp h
  refine Rn.gf n19_53 mo19 fl1_22 (gfr_v hx14).1 ?_
  have r_x14 : x14 < n := by rw [← hn]; exact (gfr_v hx14).2
  refine Rn.iload_n n19_56 l1 ?_
  refine Rn.ic (v := 5) n19_57 (by decide) ?_
  refine Rn.p n19_58 rfl ?_
  obtain ⟨u16, hu16, h⟩ := Option.bind_eq_some_iff.mp h
  obtain ⟨q15, hq15, h⟩ := Option.bind_eq_some_iff.mp h
  have gq15 := c40 (d := d') (by omega) F _ _ _ _ _ _ (by rw [hn]; exact r_x13) (by rw [hn]; exact r_x14) hq15
  refine Rn.cv (As := [.ref x14, .int ((x1 - 1) * 5)]) (rr := []) n19_59 mo19 mm1_39 (by decide) mq40 rfl rfl rfl rfl (by rw [mo40]; exact hu16) (Nat.le_of_ble_eq_true rfl) (by rw [hn]; exact (okc (okr r_x13) (okc (okr r_x14) (okc rfl okn)))) (by rw [hn]; exact okn) (by rw [hn]; exact ok) (by rw [ml40]; exact Nat.le_of_ble_eq_true rfl) gq15 ?_
  have hn := (Rn.len gq15).trans hn
  show Rn _ 19 62 lv [] q15.2 c w _
  refine Rn.ic (v := 0) n19_62 (by decide) ?_
  refine Rn.isn (m := n) n19_63 rfl ml19 (by decide) (fun lv l2 hk hok => ?_)
  have l0 := hk 0 _ (by decide) (Or.inl rfl) l0
  have l1 := hk 1 _ (by decide) (Or.inl rfl) l1
  have ok := hok ok
  exact t19_64 hd F  F _ _ _ lv _ _ _ l0 l1 l2 ok hn r_v0  h
def e19 (F : Nat) (a0 : Nat) (hp : List mE) : Option (Unit × List mE) := m19_0 F a0 hp
theorem c19 {d : Nat} (hd : 2 ≤ d) (F : Nat) (a0 : Nat) (hp : List mE) (v : Unit) (hp' : List mE) (ra0 : a0 < hp.length) (h : e19 F a0 hp = some (v, hp')) : Rn d 19 0 (lv_args 0 [.ref a0]) [] hp 0 0 (none, hp', 0, 0) :=
  t19_0 (n := hp.length) hd F a0 (lv_args 0 [.ref a0]) hp v hp' rfl (lvk_args (okc (okr ra0) okn)) rfl ra0 h
/-! MirrorRoots$Kept.keepWord -/
def m18_43 (F : Nat) : Nat → Nat → Int32 → List mE → Option (Int32 × List mE)
  | 0, _, _, _ => none
  | f + 1, v0, v3, hp =>
    (gfi 1 1 hp v0).bind fun x1 =>
    if mc2 .ge v3 x1 = true then
      (gfi 1 1 hp v0).bind fun x3 =>
      if mc2 .lt x3 40 = true then
        (gfi 1 1 hp v0).bind fun x5 =>
        (pfv 1 1 hp v0 (.int (x5 + 1))).bind fun hp6 =>
        (rcv 1 hp6 v0).bind fun u8 =>
        (e19 F v0 hp6).bind fun q7 =>
        (gfi 1 1 q7.2 v0).bind fun x9 =>
        some (x9 - 1, q7.2)
      else
        some ((-1004), hp)
    else
      (gfr 1 0 hp v0).bind fun x10 =>
      (gfr 1 6 hp v0).bind fun x11 =>
      (gfr 1 4 hp v0).bind fun x12 =>
      (rcv 3 hp x10).bind fun u14 =>
      (e43 F x10 x11 0 x12 (v3 * 5) hp).bind fun q13 =>
      if mc1 .eq q13.1 = true then
        m18_43 F f v0 (v3 + 1) q13.2
      else
        some (v3, q13.2)
theorem t18_43 {d c w n : Nat} (hd : 3 ≤ d) (F : Nat) : ∀ f : Nat, ∀ (v0 : Nat) (v3 : Int32) (lv : List (Nat × Value)) (hp : List mE) (v : Int32) (hp' : List mE), alk 0 lv = some (.ref v0) → alk 3 lv = some (.int v3) → lvk n lv → hp.length = n → v0 < n → m18_43 F f v0 v3 hp = some (v, hp') → Rn d 18 43 lv [] hp c w (some (.int v), hp', c, w) := by
  obtain ⟨d', rfl⟩ : ∃ d', d = d' + 1 := ⟨d - 1, by omega⟩
  intro f
  induction f with
  | zero => intro v0 v3 lv hp v hp' l0 l3 ok hn r_v0 h; cases h
  | succ f hr43 =>
    intro v0 v3 lv hp v hp' l0 l3 ok hn r_v0 h
    unfold m18_43 at h
    refine Rn.iload_n n18_43 l3 ?_
    refine Rn.aload_n n18_44 l0 ?_
    obtain ⟨x1, hx1, h⟩ := Option.bind_eq_some_iff.mp h
    refine Rn.gf n18_45 mo18 fl1_35 (gfi_v hx1) ?_
    by_cases hc2 : mc2 .ge v3 x1 = true
    · rw [if_pos hc2] at h
      refine Rn.c2t (t := 81) n18_48 (by decide) hc2 ?_
      refine Rn.aload_n n18_81 l0 ?_
      obtain ⟨x3, hx3, h⟩ := Option.bind_eq_some_iff.mp h
      refine Rn.gf n18_82 mo18 fl1_35 (gfi_v hx3) ?_
      refine Rn.bp (v := 40) n18_85 (by decide) ?_
      by_cases hc4 : mc2 .lt x3 40 = true
      · rw [if_pos hc4] at h
        refine Rn.c2t (t := 94) n18_87 (by decide) hc4 ?_
        refine Rn.aload_n n18_94 l0 ?_
        refine Rn.p n18_95 rfl ?_
        obtain ⟨x5, hx5, h⟩ := Option.bind_eq_some_iff.mp h
        refine Rn.gf n18_96 mo18 fl1_35 (gfi_v hx5) ?_
        refine Rn.ic (v := 1) n18_99 (by decide) ?_
        refine Rn.p n18_100 rfl ?_
        obtain ⟨hp6, hhp6, h⟩ := Option.bind_eq_some_iff.mp h
        refine Rn.pf n18_101 mo18 fl1_35 ft1_1 rfl ff1_1 (fun _ _ hh => by cases hh) hhp6 ?_
        have hn := (pfv_len hhp6).trans hn
        refine Rn.aload_n n18_104 l0 ?_
        obtain ⟨u8, hu8, h⟩ := Option.bind_eq_some_iff.mp h
        obtain ⟨q7, hq7, h⟩ := Option.bind_eq_some_iff.mp h
        have gq7 := c19 (d := d') (by omega) F _ _ _ _ (by rw [hn]; exact r_v0) hq7
        refine Rn.cv (As := []) (rr := []) n18_105 mo18 mm1_53 (by decide) mq19 rfl rfl rfl rfl (by rw [mo19]; exact hu8) (Nat.le_of_ble_eq_true rfl) (by rw [hn]; exact (okc (okr r_v0) okn)) (by rw [hn]; exact okn) (by rw [hn]; exact ok) (by rw [ml19]; exact Nat.le_of_ble_eq_true rfl) gq7 ?_
        have hn := (Rn.len gq7).trans hn
        show Rn _ 18 108 lv [] q7.2 c w _
        refine Rn.aload_n n18_108 l0 ?_
        obtain ⟨x9, hx9, h⟩ := Option.bind_eq_some_iff.mp h
        refine Rn.gf n18_109 mo18 fl1_35 (gfi_v hx9) ?_
        refine Rn.ic (v := 1) n18_112 (by decide) ?_
        refine Rn.p n18_113 rfl ?_
        have e1 := (Prod.mk.inj (Option.some.inj h)).1
        have e2 := (Prod.mk.inj (Option.some.inj h)).2
        subst e1
        subst e2
        exact Rn.iret n18_114 mr18
      · rw [if_neg hc4] at h
        refine Rn.c2f (t := 94) n18_87 (by decide) hc4 ?_
        refine Rn.sp (v := (-1004)) n18_90 (by decide) ?_
        have e1 := (Prod.mk.inj (Option.some.inj h)).1
        have e2 := (Prod.mk.inj (Option.some.inj h)).2
        subst e1
        subst e2
        exact Rn.iret n18_93 mr18
    · rw [if_neg hc2] at h
      refine Rn.c2f (t := 81) n18_48 (by decide) hc2 ?_
      refine Rn.aload_n n18_51 l0 ?_
      obtain ⟨x10, hx10, h⟩ := Option.bind_eq_some_iff.mp h
      refine Rn.gf n18_52 mo18 fl1_28 (gfr_v hx10).1 ?_
      have r_x10 : x10 < n := by rw [← hn]; exact (gfr_v hx10).2
      refine Rn.aload_n n18_55 l0 ?_
      obtain ⟨x11, hx11, h⟩ := Option.bind_eq_some_iff.mp h
      refine Rn.gf n18_56 mo18 fl1_25 (gfr_v hx11).1 ?_
      have r_x11 : x11 < n := by rw [← hn]; exact (gfr_v hx11).2
      refine Rn.ic (v := 0) n18_59 (by decide) ?_
      refine Rn.aload_n n18_60 l0 ?_
      obtain ⟨x12, hx12, h⟩ := Option.bind_eq_some_iff.mp h
      refine Rn.gf n18_61 mo18 fl1_18 (gfr_v hx12).1 ?_
      have r_x12 : x12 < n := by rw [← hn]; exact (gfr_v hx12).2
      refine Rn.iload_n n18_64 l3 ?_
      refine Rn.ic (v := 5) n18_65 (by decide) ?_
      refine Rn.p n18_66 rfl ?_
      obtain ⟨u14, hu14, h⟩ := Option.bind_eq_some_iff.mp h
      obtain ⟨q13, hq13, h⟩ := Option.bind_eq_some_iff.mp h
      have gq13 := c43 (d := d') (by omega) F _ _ _ _ _ _ _ _ (by rw [hn]; exact r_x10) (by rw [hn]; exact r_x11) (by rw [hn]; exact r_x12) hq13
      refine Rn.cv (As := [.ref x11, .int 0, .ref x12, .int (v3 * 5)]) (rr := []) n18_67 mo18 mm1_49 (by decide) mq43 rfl rfl rfl rfl (by rw [mo43]; exact hu14) (Nat.le_of_ble_eq_true rfl) (by rw [hn]; exact (okc (okr r_x10) (okc (okr r_x11) (okc rfl (okc (okr r_x12) (okc rfl okn)))))) (by rw [hn]; exact okn) (by rw [hn]; exact ok) (by rw [ml43]; exact Nat.le_of_ble_eq_true rfl) gq13 ?_
      have hn := (Rn.len gq13).trans hn
      show Rn _ 18 70 lv [.int q13.1] q13.2 c w _
      by_cases hc15 : mc1 .eq q13.1 = true
      · rw [if_pos hc15] at h
        refine Rn.c1t (t := 75) n18_70 (by decide) hc15 ?_
        refine Rn.ii (m := n) (u := 1) n18_75 ml18 (by decide) (by decide) l3 (fun lv l3 hk hok => ?_)
        have l0 := hk 0 _ (by decide) (Or.inl rfl) l0
        have ok := hok ok
        refine Rn.goto (t := 43) n18_78 (by decide) ?_
        exact hr43 _ _ lv _ _ _ l0 l3 ok hn r_v0  h
      · rw [if_neg hc15] at h
        refine Rn.c1f (t := 75) n18_70 (by decide) hc15 ?_
        refine Rn.iload_n n18_73 l3 ?_
        have e1 := (Prod.mk.inj (Option.some.inj h)).1
        have e2 := (Prod.mk.inj (Option.some.inj h)).2
        subst e1
        subst e2
        exact Rn.iret n18_74 mr18
def m18_16 (F : Nat) : Nat → Nat → Nat → Int32 → List mE → Option (Int32 × List mE)
  | 0, _, _, _, _ => none
  | f + 1, v0, v1, v3, hp =>
    if mc1 .lt v3 = true then
      m18_43 F F v0 0 hp
    else
      (gfr 1 0 hp v0).bind fun x2 =>
      (gfr 1 6 hp v0).bind fun x3 =>
      (rdI hp v1 v3).bind fun x4 =>
      (rcv 3 hp x2).bind fun u6 =>
      (e41 F x2 x3 0 x4 hp).bind fun q5 =>
      m18_16 F f v0 v1 (v3 + (-1)) q5.2
theorem t18_16 {d c w n : Nat} (hd : 3 ≤ d) (F : Nat) : ∀ f : Nat, ∀ (v0 : Nat) (v1 : Nat) (v3 : Int32) (lv : List (Nat × Value)) (hp : List mE) (v : Int32) (hp' : List mE), alk 0 lv = some (.ref v0) → alk 1 lv = some (.ref v1) → alk 3 lv = some (.int v3) → lvk n lv → hp.length = n → v0 < n → v1 < n → m18_16 F f v0 v1 v3 hp = some (v, hp') → Rn d 18 16 lv [] hp c w (some (.int v), hp', c, w) := by
  obtain ⟨d', rfl⟩ : ∃ d', d = d' + 1 := ⟨d - 1, by omega⟩
  intro f
  induction f with
  | zero => intro v0 v1 v3 lv hp v hp' l0 l1 l3 ok hn r_v0 r_v1 h; cases h
  | succ f hr16 =>
    intro v0 v1 v3 lv hp v hp' l0 l1 l3 ok hn r_v0 r_v1 h
    unfold m18_16 at h
    refine Rn.iload_n n18_16 l3 ?_
    by_cases hc1 : mc1 .lt v3 = true
    · rw [if_pos hc1] at h
      refine Rn.c1t (t := 41) n18_17 (by decide) hc1 ?_
      refine Rn.ic (v := 0) n18_41 (by decide) ?_
      refine Rn.isn (m := n) n18_42 rfl ml18 (by decide) (fun lv l3 hk hok => ?_)
      have l0 := hk 0 _ (by decide) (Or.inl rfl) l0
      have l1 := hk 1 _ (by decide) (Or.inl rfl) l1
      have ok := hok ok
      exact t18_43 hd F  F _ _ lv _ _ _ l0 l3 ok hn r_v0  h
    · rw [if_neg hc1] at h
      refine Rn.c1f (t := 41) n18_17 (by decide) hc1 ?_
      refine Rn.aload_n n18_20 l0 ?_
      obtain ⟨x2, hx2, h⟩ := Option.bind_eq_some_iff.mp h
      refine Rn.gf n18_21 mo18 fl1_28 (gfr_v hx2).1 ?_
      have r_x2 : x2 < n := by rw [← hn]; exact (gfr_v hx2).2
      refine Rn.aload_n n18_24 l0 ?_
      obtain ⟨x3, hx3, h⟩ := Option.bind_eq_some_iff.mp h
      refine Rn.gf n18_25 mo18 fl1_25 (gfr_v hx3).1 ?_
      have r_x3 : x3 < n := by rw [← hn]; exact (gfr_v hx3).2
      refine Rn.ic (v := 0) n18_28 (by decide) ?_
      refine Rn.aload_n n18_29 l1 ?_
      refine Rn.iload_n n18_30 l3 ?_
      obtain ⟨x4, hx4, h⟩ := Option.bind_eq_some_iff.mp h
      refine Rn.iald n18_31 hx4 ?_
      obtain ⟨u6, hu6, h⟩ := Option.bind_eq_some_iff.mp h
      obtain ⟨q5, hq5, h⟩ := Option.bind_eq_some_iff.mp h
      have gq5 := c41 (d := d') (by omega) F _ _ _ _ _ _ _ (by rw [hn]; exact r_x2) (by rw [hn]; exact r_x3) hq5
      refine Rn.cv (As := [.ref x3, .int 0, .int x4]) (rr := []) n18_32 mo18 mm1_45 (by decide) mq41 rfl rfl rfl rfl (by rw [mo41]; exact hu6) (Nat.le_of_ble_eq_true rfl) (by rw [hn]; exact (okc (okr r_x2) (okc (okr r_x3) (okc rfl (okc rfl okn))))) (by rw [hn]; exact okn) (by rw [hn]; exact ok) (by rw [ml41]; exact Nat.le_of_ble_eq_true rfl) gq5 ?_
      have hn := (Rn.len gq5).trans hn
      show Rn _ 18 35 lv [] q5.2 c w _
      refine Rn.ii (m := n) (u := (-1)) n18_35 ml18 (by decide) (by decide) l3 (fun lv l3 hk hok => ?_)
      have l0 := hk 0 _ (by decide) (Or.inl rfl) l0
      have l1 := hk 1 _ (by decide) (Or.inl rfl) l1
      have ok := hok ok
      refine Rn.goto (t := 16) n18_38 (by decide) ?_
      exact hr16 _ _ _ lv _ _ _ l0 l1 l3 ok hn r_v0 r_v1  h
def m18_0 (F : Nat) (v0 : Nat) (v1 : Nat) (v2 : Int32) (hp : List mE) : Option (Int32 × List mE) :=
  (gfr 1 0 hp v0).bind fun x1 =>
  (gfr 1 6 hp v0).bind fun x2 =>
  (rcv 3 hp x1).bind fun u4 =>
  (e40 F x1 x2 0 hp).bind fun q3 =>
  m18_16 F F v0 v1 (v2 - 1) q3.2
theorem t18_0 {d c w n : Nat} (hd : 3 ≤ d) (F : Nat) : ∀ (v0 : Nat) (v1 : Nat) (v2 : Int32) (lv : List (Nat × Value)) (hp : List mE) (v : Int32) (hp' : List mE), alk 0 lv = some (.ref v0) → alk 1 lv = some (.ref v1) → alk 2 lv = some (.int v2) → lvk n lv → hp.length = n → v0 < n → v1 < n → m18_0 F v0 v1 v2 hp = some (v, hp') → Rn d 18 0 lv [] hp c w (some (.int v), hp', c, w) := by
  obtain ⟨d', rfl⟩ : ∃ d', d = d' + 1 := ⟨d - 1, by omega⟩
  intro v0 v1 v2 lv hp v hp' l0 l1 l2 ok hn r_v0 r_v1 h
  unfold m18_0 at h
  refine Rn.aload_n n18_0 l0 ?_
  obtain ⟨x1, hx1, h⟩ := Option.bind_eq_some_iff.mp h
  refine Rn.gf n18_1 mo18 fl1_28 (gfr_v hx1).1 ?_
  have r_x1 : x1 < n := by rw [← hn]; exact (gfr_v hx1).2
  refine Rn.aload_n n18_4 l0 ?_
  obtain ⟨x2, hx2, h⟩ := Option.bind_eq_some_iff.mp h
  refine Rn.gf n18_5 mo18 fl1_25 (gfr_v hx2).1 ?_
  have r_x2 : x2 < n := by rw [← hn]; exact (gfr_v hx2).2
  refine Rn.ic (v := 0) n18_8 (by decide) ?_
  obtain ⟨u4, hu4, h⟩ := Option.bind_eq_some_iff.mp h
  obtain ⟨q3, hq3, h⟩ := Option.bind_eq_some_iff.mp h
  have gq3 := c40 (d := d') (by omega) F _ _ _ _ _ _ (by rw [hn]; exact r_x1) (by rw [hn]; exact r_x2) hq3
  refine Rn.cv (As := [.ref x2, .int 0]) (rr := []) n18_9 mo18 mm1_39 (by decide) mq40 rfl rfl rfl rfl (by rw [mo40]; exact hu4) (Nat.le_of_ble_eq_true rfl) (by rw [hn]; exact (okc (okr r_x1) (okc (okr r_x2) (okc rfl okn)))) (by rw [hn]; exact okn) (by rw [hn]; exact ok) (by rw [ml40]; exact Nat.le_of_ble_eq_true rfl) gq3 ?_
  have hn := (Rn.len gq3).trans hn
  show Rn _ 18 12 lv [] q3.2 c w _
  refine Rn.iload_n n18_12 l2 ?_
  refine Rn.ic (v := 1) n18_13 (by decide) ?_
  refine Rn.p n18_14 rfl ?_
  refine Rn.isn (m := n) n18_15 rfl ml18 (by decide) (fun lv l3 hk hok => ?_)
  have l0 := hk 0 _ (by decide) (Or.inl rfl) l0
  have l1 := hk 1 _ (by decide) (Or.inl rfl) l1
  have l2 := hk 2 _ (by decide) (Or.inl rfl) l2
  have ok := hok ok
  exact t18_16 hd F  F _ _ _ lv _ _ _ l0 l1 l3 ok hn r_v0 r_v1  h
def e18 (F : Nat) (a0 : Nat) (a1 : Nat) (a2 : Int32) (hp : List mE) : Option (Int32 × List mE) := m18_0 F a0 a1 a2 hp
theorem c18 {d : Nat} (hd : 3 ≤ d) (F : Nat) (a0 : Nat) (a1 : Nat) (a2 : Int32) (hp : List mE) (v : Int32) (hp' : List mE) (ra0 : a0 < hp.length) (ra1 : a1 < hp.length) (h : e18 F a0 a1 a2 hp = some (v, hp')) : Rn d 18 0 (lv_args 0 [.ref a0, .ref a1, .int a2]) [] hp 0 0 (some (.int v), hp', 0, 0) :=
  t18_0 (n := hp.length) hd F a0 a1 a2 (lv_args 0 [.ref a0, .ref a1, .int a2]) hp v hp' rfl rfl rfl (lvk_args (okc (okr ra0) (okc (okr ra1) (okc rfl okn)))) rfl ra0 ra1 h
/-! MirrorRoots$Layers.forget -/
def m22_0 (F : Nat) (v0 : Nat) (hp : List mE) : Option (Unit × List mE) :=
  (pfv 2 8 hp v0 (.int ((-1)))).bind fun hp1 =>
  some ((), hp1)
theorem t22_0 {d c w n : Nat} (hd : 0 ≤ d) (F : Nat) : ∀ (v0 : Nat) (lv : List (Nat × Value)) (hp : List mE) (v : Unit) (hp' : List mE), alk 0 lv = some (.ref v0) → lvk n lv → hp.length = n → v0 < n → m22_0 F v0 hp = some (v, hp') → Rn d 22 0 lv [] hp c w (none, hp', c, w) := by
  intro v0 lv hp v hp' l0 ok hn r_v0 h
  unfold m22_0 at h
  refine Rn.aload_n n22_0 l0 ?_
  refine Rn.ic (v := (-1)) n22_1 (by decide) ?_
  obtain ⟨hp1, hhp1, h⟩ := Option.bind_eq_some_iff.mp h
  refine Rn.pf n22_2 mo22 fl2_22 ft2_8 rfl ff2_8 (fun _ _ hh => by cases hh) hhp1 ?_
  have hn := (pfv_len hhp1).trans hn
  have e1 := (Prod.mk.inj (Option.some.inj h)).1
  have e2 := (Prod.mk.inj (Option.some.inj h)).2
  subst e1
  subst e2
  exact Rn.vret n22_5 mr22
def e22 (F : Nat) (a0 : Nat) (hp : List mE) : Option (Unit × List mE) := m22_0 F a0 hp
theorem c22 {d : Nat} (hd : 0 ≤ d) (F : Nat) (a0 : Nat) (hp : List mE) (v : Unit) (hp' : List mE) (ra0 : a0 < hp.length) (h : e22 F a0 hp = some (v, hp')) : Rn d 22 0 (lv_args 0 [.ref a0]) [] hp 0 0 (none, hp', 0, 0) :=
  t22_0 (n := hp.length) hd F a0 (lv_args 0 [.ref a0]) hp v hp' rfl (lvk_args (okc (okr ra0) okn)) rfl ra0 h
/-! MirrorRoots$Layers.putLonger -/
def m28_123 (F : Nat) (rc14 : Nat → Int32 → Int32 → Int32 → List mE → Option (Unit × List mE)) (v0 : Nat) (v1 : Int32) (v2 : Int32) (v3 : Int32) (hp : List mE) : Option (Unit × List mE) :=
  rc14 v0 v1 v2 (v3 + 1) hp
theorem t28_123 {d c w n : Nat} (hd : 2 ≤ d) (F : Nat) {rc14 : Nat → Int32 → Int32 → Int32 → List mE → Option (Unit × List mE)} (hr14 : ∀ (v0 : Nat) (v1 : Int32) (v2 : Int32) (v3 : Int32) (lv : List (Nat × Value)) (hp : List mE) (v : Unit) (hp' : List mE), alk 0 lv = some (.ref v0) → alk 1 lv = some (.int v1) → alk 2 lv = some (.int v2) → alk 3 lv = some (.int v3) → lvk n lv → hp.length = n → v0 < n → rc14 v0 v1 v2 v3 hp = some (v, hp') → Rn d 28 14 lv [] hp c w (none, hp', c, w)) : ∀ (v0 : Nat) (v1 : Int32) (v2 : Int32) (v3 : Int32) (lv : List (Nat × Value)) (hp : List mE) (v : Unit) (hp' : List mE), alk 0 lv = some (.ref v0) → alk 1 lv = some (.int v1) → alk 2 lv = some (.int v2) → alk 3 lv = some (.int v3) → lvk n lv → hp.length = n → v0 < n → m28_123 F rc14 v0 v1 v2 v3 hp = some (v, hp') → Rn d 28 123 lv [] hp c w (none, hp', c, w) := by
  obtain ⟨d', rfl⟩ : ∃ d', d = d' + 1 := ⟨d - 1, by omega⟩
  intro v0 v1 v2 v3 lv hp v hp' l0 l1 l2 l3 ok hn r_v0 h
  unfold m28_123 at h
  refine Rn.ii (m := n) (u := 1) n28_123 ml28 (by decide) (by decide) l3 (fun lv l3 hk hok => ?_)
  have l0 := hk 0 _ (by decide) (Or.inl rfl) l0
  have l1 := hk 1 _ (by decide) (Or.inl rfl) l1
  have l2 := hk 2 _ (by decide) (Or.inl rfl) l2
  have ok := hok ok
  refine Rn.goto (t := 14) n28_126 (by decide) ?_
  exact hr14 _ _ _ _ lv _ _ _ l0 l1 l2 l3 ok hn r_v0  h
def m28_14 (F : Nat) : Nat → Nat → Int32 → Int32 → Int32 → List mE → Option (Unit × List mE)
  | 0, _, _, _, _, _ => none
  | f + 1, v0, v1, v2, v3, hp =>
    (gfr 2 0 hp v0).bind fun x1 =>
    (gfi 3 0 hp x1).bind fun x2 =>
    if mc2 .ge v3 x2 = true then
      some ((), hp)
    else
      (gfr 2 2 hp v0).bind fun x4 =>
      (rcv 6 hp x4).bind fun u6 =>
      (e61 F x4 v1 v3 hp).bind fun q5 =>
      if mc1 .eq q5.1 = true then
        (gfr 2 0 q5.2 v0).bind fun x8 =>
        (gfr 2 2 q5.2 v0).bind fun x9 =>
        (gfr 6 3 q5.2 x9).bind fun x10 =>
        (gfr 2 3 q5.2 v0).bind fun x11 =>
        (rcv 3 q5.2 x8).bind fun u13 =>
        (e42 F x8 x10 (v1 * 5) x11 0 q5.2).bind fun q12 =>
        (gfr 2 0 q12.2 v0).bind fun x14 =>
        (gfr 2 3 q12.2 v0).bind fun x15 =>
        (rcv 3 q12.2 x14).bind fun u17 =>
        (e41 F x14 x15 0 v3 q12.2).bind fun q16 =>
        (gfr 2 0 q16.2 v0).bind fun x18 =>
        (gfr 2 3 q16.2 v0).bind fun x19 =>
        (gfr 2 0 q16.2 v0).bind fun x20 =>
        (rcv 3 q16.2 x20).bind fun u22 =>
        (e46 F x20 q16.2).bind fun q21 =>
        (rcv 3 q21.2 x18).bind fun u24 =>
        (e45 F x18 x19 0 q21.1 q21.2).bind fun q23 =>
        if mc2 .ne q23.1 v3 = true then
          m28_123 F (m28_14 F f) v0 v1 v2 v3 q23.2
        else
          (gfr 2 2 q23.2 v0).bind fun x26 =>
          (gfr 2 3 q23.2 v0).bind fun x27 =>
          (rcv 6 q23.2 x26).bind fun u29 =>
          (e64 F x26 x27 v2 q23.2).bind fun q28 =>
          if mc1 .eq q28.1 = true then
            m28_123 F (m28_14 F f) v0 v1 v2 v3 q28.2
          else
            (gfr 2 5 q28.2 v0).bind fun x31 =>
            (rdI q28.2 x31 v2).bind fun x32 =>
            (wrI q28.2 x31 v2 (x32 + 1)).bind fun hp33 =>
            m28_123 F (m28_14 F f) v0 v1 v2 v3 hp33
      else
        m28_123 F (m28_14 F f) v0 v1 v2 v3 q5.2
theorem t28_14 {d c w n : Nat} (hd : 2 ≤ d) (F : Nat) : ∀ f : Nat, ∀ (v0 : Nat) (v1 : Int32) (v2 : Int32) (v3 : Int32) (lv : List (Nat × Value)) (hp : List mE) (v : Unit) (hp' : List mE), alk 0 lv = some (.ref v0) → alk 1 lv = some (.int v1) → alk 2 lv = some (.int v2) → alk 3 lv = some (.int v3) → lvk n lv → hp.length = n → v0 < n → m28_14 F f v0 v1 v2 v3 hp = some (v, hp') → Rn d 28 14 lv [] hp c w (none, hp', c, w) := by
  obtain ⟨d', rfl⟩ : ∃ d', d = d' + 1 := ⟨d - 1, by omega⟩
  intro f
  induction f with
  | zero => intro v0 v1 v2 v3 lv hp v hp' l0 l1 l2 l3 ok hn r_v0 h; cases h
  | succ f hr14 =>
    intro v0 v1 v2 v3 lv hp v hp' l0 l1 l2 l3 ok hn r_v0 h
    unfold m28_14 at h
    refine Rn.iload_n n28_14 l3 ?_
    refine Rn.aload_n n28_15 l0 ?_
    obtain ⟨x1, hx1, h⟩ := Option.bind_eq_some_iff.mp h
    refine Rn.gf n28_16 mo28 fl2_26 (gfr_v hx1).1 ?_
    have r_x1 : x1 < n := by rw [← hn]; exact (gfr_v hx1).2
    obtain ⟨x2, hx2, h⟩ := Option.bind_eq_some_iff.mp h
    refine Rn.gf n28_19 mo28 fl2_79 (gfi_v hx2) ?_
    by_cases hc3 : mc2 .ge v3 x2 = true
    · rw [if_pos hc3] at h
      refine Rn.c2t (t := 129) n28_22 (by decide) hc3 ?_
      have e1 := (Prod.mk.inj (Option.some.inj h)).1
      have e2 := (Prod.mk.inj (Option.some.inj h)).2
      subst e1
      subst e2
      exact Rn.vret n28_129 mr28
    · rw [if_neg hc3] at h
      refine Rn.c2f (t := 129) n28_22 (by decide) hc3 ?_
      refine Rn.aload_n n28_25 l0 ?_
      obtain ⟨x4, hx4, h⟩ := Option.bind_eq_some_iff.mp h
      refine Rn.gf n28_26 mo28 fl2_39 (gfr_v hx4).1 ?_
      have r_x4 : x4 < n := by rw [← hn]; exact (gfr_v hx4).2
      refine Rn.iload_n n28_29 l1 ?_
      refine Rn.iload_n n28_30 l3 ?_
      obtain ⟨u6, hu6, h⟩ := Option.bind_eq_some_iff.mp h
      obtain ⟨q5, hq5, h⟩ := Option.bind_eq_some_iff.mp h
      have gq5 := c61 (d := d') (by omega) F _ _ _ _ _ _ (by rw [hn]; exact r_x4) hq5
      refine Rn.cv (As := [.int v1, .int v3]) (rr := []) n28_31 mo28 mm2_80 (by decide) mq61 rfl rfl rfl rfl (by rw [mo61]; exact hu6) (Nat.le_of_ble_eq_true rfl) (by rw [hn]; exact (okc (okr r_x4) (okc rfl (okc rfl okn)))) (by rw [hn]; exact okn) (by rw [hn]; exact ok) (by rw [ml61]; exact Nat.le_of_ble_eq_true rfl) gq5 ?_
      have hn := (Rn.len gq5).trans hn
      show Rn _ 28 34 lv [.int q5.1] q5.2 c w _
      by_cases hc7 : mc1 .eq q5.1 = true
      · rw [if_pos hc7] at h
        refine Rn.c1t (t := 40) n28_34 (by decide) hc7 ?_
        refine Rn.aload_n n28_40 l0 ?_
        obtain ⟨x8, hx8, h⟩ := Option.bind_eq_some_iff.mp h
        refine Rn.gf n28_41 mo28 fl2_26 (gfr_v hx8).1 ?_
        have r_x8 : x8 < n := by rw [← hn]; exact (gfr_v hx8).2
        refine Rn.aload_n n28_44 l0 ?_
        obtain ⟨x9, hx9, h⟩ := Option.bind_eq_some_iff.mp h
        refine Rn.gf n28_45 mo28 fl2_39 (gfr_v hx9).1 ?_
        have r_x9 : x9 < n := by rw [← hn]; exact (gfr_v hx9).2
        obtain ⟨x10, hx10, h⟩ := Option.bind_eq_some_iff.mp h
        refine Rn.gf n28_48 mo28 fl2_84 (gfr_v hx10).1 ?_
        have r_x10 : x10 < n := by rw [← hn]; exact (gfr_v hx10).2
        refine Rn.iload_n n28_51 l1 ?_
        refine Rn.ic (v := 5) n28_52 (by decide) ?_
        refine Rn.p n28_53 rfl ?_
        refine Rn.aload_n n28_54 l0 ?_
        obtain ⟨x11, hx11, h⟩ := Option.bind_eq_some_iff.mp h
        refine Rn.gf n28_55 mo28 fl2_9 (gfr_v hx11).1 ?_
        have r_x11 : x11 < n := by rw [← hn]; exact (gfr_v hx11).2
        refine Rn.ic (v := 0) n28_58 (by decide) ?_
        obtain ⟨u13, hu13, h⟩ := Option.bind_eq_some_iff.mp h
        obtain ⟨q12, hq12, h⟩ := Option.bind_eq_some_iff.mp h
        have gq12 := c42 (d := d') (by omega) F _ _ _ _ _ _ _ _ (by rw [hn]; exact r_x8) (by rw [hn]; exact r_x10) (by rw [hn]; exact r_x11) hq12
        refine Rn.cv (As := [.ref x10, .int (v1 * 5), .ref x11, .int 0]) (rr := []) n28_59 mo28 mm2_87 (by decide) mq42 rfl rfl rfl rfl (by rw [mo42]; exact hu13) (Nat.le_of_ble_eq_true rfl) (by rw [hn]; exact (okc (okr r_x8) (okc (okr r_x10) (okc rfl (okc (okr r_x11) (okc rfl okn)))))) (by rw [hn]; exact okn) (by rw [hn]; exact ok) (by rw [ml42]; exact Nat.le_of_ble_eq_true rfl) gq12 ?_
        have hn := (Rn.len gq12).trans hn
        show Rn _ 28 62 lv [] q12.2 c w _
        refine Rn.aload_n n28_62 l0 ?_
        obtain ⟨x14, hx14, h⟩ := Option.bind_eq_some_iff.mp h
        refine Rn.gf n28_63 mo28 fl2_26 (gfr_v hx14).1 ?_
        have r_x14 : x14 < n := by rw [← hn]; exact (gfr_v hx14).2
        refine Rn.aload_n n28_66 l0 ?_
        obtain ⟨x15, hx15, h⟩ := Option.bind_eq_some_iff.mp h
        refine Rn.gf n28_67 mo28 fl2_9 (gfr_v hx15).1 ?_
        have r_x15 : x15 < n := by rw [← hn]; exact (gfr_v hx15).2
        refine Rn.ic (v := 0) n28_70 (by decide) ?_
        refine Rn.iload_n n28_71 l3 ?_
        obtain ⟨u17, hu17, h⟩ := Option.bind_eq_some_iff.mp h
        obtain ⟨q16, hq16, h⟩ := Option.bind_eq_some_iff.mp h
        have gq16 := c41 (d := d') (by omega) F _ _ _ _ _ _ _ (by rw [hn]; exact r_x14) (by rw [hn]; exact r_x15) hq16
        refine Rn.cv (As := [.ref x15, .int 0, .int v3]) (rr := []) n28_72 mo28 mm2_91 (by decide) mq41 rfl rfl rfl rfl (by rw [mo41]; exact hu17) (Nat.le_of_ble_eq_true rfl) (by rw [hn]; exact (okc (okr r_x14) (okc (okr r_x15) (okc rfl (okc rfl okn))))) (by rw [hn]; exact okn) (by rw [hn]; exact ok) (by rw [ml41]; exact Nat.le_of_ble_eq_true rfl) gq16 ?_
        have hn := (Rn.len gq16).trans hn
        show Rn _ 28 75 lv [] q16.2 c w _
        refine Rn.aload_n n28_75 l0 ?_
        obtain ⟨x18, hx18, h⟩ := Option.bind_eq_some_iff.mp h
        refine Rn.gf n28_76 mo28 fl2_26 (gfr_v hx18).1 ?_
        have r_x18 : x18 < n := by rw [← hn]; exact (gfr_v hx18).2
        refine Rn.aload_n n28_79 l0 ?_
        obtain ⟨x19, hx19, h⟩ := Option.bind_eq_some_iff.mp h
        refine Rn.gf n28_80 mo28 fl2_9 (gfr_v hx19).1 ?_
        have r_x19 : x19 < n := by rw [← hn]; exact (gfr_v hx19).2
        refine Rn.ic (v := 0) n28_83 (by decide) ?_
        refine Rn.aload_n n28_84 l0 ?_
        obtain ⟨x20, hx20, h⟩ := Option.bind_eq_some_iff.mp h
        refine Rn.gf n28_85 mo28 fl2_26 (gfr_v hx20).1 ?_
        have r_x20 : x20 < n := by rw [← hn]; exact (gfr_v hx20).2
        obtain ⟨u22, hu22, h⟩ := Option.bind_eq_some_iff.mp h
        obtain ⟨q21, hq21, h⟩ := Option.bind_eq_some_iff.mp h
        have gq21 := c46 (d := d') (by omega) F _ _ _ _ (by rw [hn]; exact r_x20) hq21
        refine Rn.cv (As := []) (rr := [.int 0, .ref x19, .ref x18]) n28_88 mo28 mm2_95 (by decide) mq46 rfl rfl rfl rfl (by rw [mo46]; exact hu22) (Nat.le_of_ble_eq_true rfl) (by rw [hn]; exact (okc (okr r_x20) okn)) (by rw [hn]; exact (okc rfl (okc (okr r_x19) (okc (okr r_x18) okn)))) (by rw [hn]; exact ok) (by rw [ml46]; exact Nat.le_of_ble_eq_true rfl) gq21 ?_
        have hn := (Rn.len gq21).trans hn
        show Rn _ 28 91 lv [.int q21.1, .int 0, .ref x19, .ref x18] q21.2 c w _
        obtain ⟨u24, hu24, h⟩ := Option.bind_eq_some_iff.mp h
        obtain ⟨q23, hq23, h⟩ := Option.bind_eq_some_iff.mp h
        have gq23 := c45 (d := d') (by omega) F _ _ _ _ _ _ _ (by rw [hn]; exact r_x18) (by rw [hn]; exact r_x19) hq23
        refine Rn.cv (As := [.ref x19, .int 0, .int q21.1]) (rr := []) n28_91 mo28 mm2_99 (by decide) mq45 rfl rfl rfl rfl (by rw [mo45]; exact hu24) (Nat.le_of_ble_eq_true rfl) (by rw [hn]; exact (okc (okr r_x18) (okc (okr r_x19) (okc rfl (okc rfl okn))))) (by rw [hn]; exact okn) (by rw [hn]; exact ok) (by rw [ml45]; exact Nat.le_of_ble_eq_true rfl) gq23 ?_
        have hn := (Rn.len gq23).trans hn
        show Rn _ 28 94 lv [.int q23.1] q23.2 c w _
        refine Rn.iload_n n28_94 l3 ?_
        by_cases hc25 : mc2 .ne q23.1 v3 = true
        · rw [if_pos hc25] at h
          refine Rn.c2t (t := 123) n28_95 (by decide) hc25 ?_
          exact t28_123 hd F hr14 _ _ _ _ lv _ _ _ l0 l1 l2 l3 ok hn r_v0  h
        · rw [if_neg hc25] at h
          refine Rn.c2f (t := 123) n28_95 (by decide) hc25 ?_
          refine Rn.aload_n n28_98 l0 ?_
          obtain ⟨x26, hx26, h⟩ := Option.bind_eq_some_iff.mp h
          refine Rn.gf n28_99 mo28 fl2_39 (gfr_v hx26).1 ?_
          have r_x26 : x26 < n := by rw [← hn]; exact (gfr_v hx26).2
          refine Rn.aload_n n28_102 l0 ?_
          obtain ⟨x27, hx27, h⟩ := Option.bind_eq_some_iff.mp h
          refine Rn.gf n28_103 mo28 fl2_9 (gfr_v hx27).1 ?_
          have r_x27 : x27 < n := by rw [← hn]; exact (gfr_v hx27).2
          refine Rn.iload_n n28_106 l2 ?_
          obtain ⟨u29, hu29, h⟩ := Option.bind_eq_some_iff.mp h
          obtain ⟨q28, hq28, h⟩ := Option.bind_eq_some_iff.mp h
          have gq28 := c64 (d := d') (by omega) F _ _ _ _ _ _ (by rw [hn]; exact r_x26) (by rw [hn]; exact r_x27) hq28
          refine Rn.cv (As := [.ref x27, .int v2]) (rr := []) n28_107 mo28 mm2_66 (by decide) mq64 rfl rfl rfl rfl (by rw [mo64]; exact hu29) (Nat.le_of_ble_eq_true rfl) (by rw [hn]; exact (okc (okr r_x26) (okc (okr r_x27) (okc rfl okn)))) (by rw [hn]; exact okn) (by rw [hn]; exact ok) (by rw [ml64]; exact Nat.le_of_ble_eq_true rfl) gq28 ?_
          have hn := (Rn.len gq28).trans hn
          show Rn _ 28 110 lv [.int q28.1] q28.2 c w _
          by_cases hc30 : mc1 .eq q28.1 = true
          · rw [if_pos hc30] at h
            refine Rn.c1t (t := 123) n28_110 (by decide) hc30 ?_
            exact t28_123 hd F hr14 _ _ _ _ lv _ _ _ l0 l1 l2 l3 ok hn r_v0  h
          · rw [if_neg hc30] at h
            refine Rn.c1f (t := 123) n28_110 (by decide) hc30 ?_
            refine Rn.aload_n n28_113 l0 ?_
            obtain ⟨x31, hx31, h⟩ := Option.bind_eq_some_iff.mp h
            refine Rn.gf n28_114 mo28 fl2_18 (gfr_v hx31).1 ?_
            have r_x31 : x31 < n := by rw [← hn]; exact (gfr_v hx31).2
            refine Rn.iload_n n28_117 l2 ?_
            refine Rn.p n28_118 rfl ?_
            obtain ⟨x32, hx32, h⟩ := Option.bind_eq_some_iff.mp h
            refine Rn.iald n28_119 hx32 ?_
            refine Rn.ic (v := 1) n28_120 (by decide) ?_
            refine Rn.p n28_121 rfl ?_
            obtain ⟨hp33, hhp33, h⟩ := Option.bind_eq_some_iff.mp h
            refine Rn.iast n28_122 hhp33 ?_
            have hn := (wrI_st (st := []) hhp33).2.trans hn
            exact t28_123 hd F hr14 _ _ _ _ lv _ _ _ l0 l1 l2 l3 ok hn r_v0  h
      · rw [if_neg hc7] at h
        refine Rn.c1f (t := 40) n28_34 (by decide) hc7 ?_
        refine Rn.goto (t := 123) n28_37 (by decide) ?_
        exact t28_123 hd F hr14 _ _ _ _ lv _ _ _ l0 l1 l2 l3 ok hn r_v0  h
def m28_0 (F : Nat) (v0 : Nat) (v1 : Int32) (hp : List mE) : Option (Unit × List mE) :=
  (gfr 2 2 hp v0).bind fun x1 =>
  (gfr 6 4 hp x1).bind fun x2 =>
  (rdI hp x2 v1).bind fun x3 =>
  m28_14 F F v0 v1 (x3 + 1) 0 hp
theorem t28_0 {d c w n : Nat} (hd : 2 ≤ d) (F : Nat) : ∀ (v0 : Nat) (v1 : Int32) (lv : List (Nat × Value)) (hp : List mE) (v : Unit) (hp' : List mE), alk 0 lv = some (.ref v0) → alk 1 lv = some (.int v1) → lvk n lv → hp.length = n → v0 < n → m28_0 F v0 v1 hp = some (v, hp') → Rn d 28 0 lv [] hp c w (none, hp', c, w) := by
  obtain ⟨d', rfl⟩ : ∃ d', d = d' + 1 := ⟨d - 1, by omega⟩
  intro v0 v1 lv hp v hp' l0 l1 ok hn r_v0 h
  unfold m28_0 at h
  refine Rn.aload_n n28_0 l0 ?_
  obtain ⟨x1, hx1, h⟩ := Option.bind_eq_some_iff.mp h
  refine Rn.gf n28_1 mo28 fl2_39 (gfr_v hx1).1 ?_
  have r_x1 : x1 < n := by rw [← hn]; exact (gfr_v hx1).2
  obtain ⟨x2, hx2, h⟩ := Option.bind_eq_some_iff.mp h
  refine Rn.gf n28_4 mo28 fl2_73 (gfr_v hx2).1 ?_
  have r_x2 : x2 < n := by rw [← hn]; exact (gfr_v hx2).2
  refine Rn.iload_n n28_7 l1 ?_
  obtain ⟨x3, hx3, h⟩ := Option.bind_eq_some_iff.mp h
  refine Rn.iald n28_8 hx3 ?_
  refine Rn.ic (v := 1) n28_9 (by decide) ?_
  refine Rn.p n28_10 rfl ?_
  refine Rn.isn (m := n) n28_11 rfl ml28 (by decide) (fun lv l2 hk hok => ?_)
  have l0 := hk 0 _ (by decide) (Or.inl rfl) l0
  have l1 := hk 1 _ (by decide) (Or.inl rfl) l1
  have ok := hok ok
  refine Rn.ic (v := 0) n28_12 (by decide) ?_
  refine Rn.isn (m := n) n28_13 rfl ml28 (by decide) (fun lv l3 hk hok => ?_)
  have l0 := hk 0 _ (by decide) (Or.inl rfl) l0
  have l1 := hk 1 _ (by decide) (Or.inl rfl) l1
  have l2 := hk 2 _ (by decide) (Or.inl rfl) l2
  have ok := hok ok
  exact t28_14 hd F  F _ _ _ _ lv _ _ _ l0 l1 l2 l3 ok hn r_v0  h
def e28 (F : Nat) (a0 : Nat) (a1 : Int32) (hp : List mE) : Option (Unit × List mE) := m28_0 F a0 a1 hp
theorem c28 {d : Nat} (hd : 2 ≤ d) (F : Nat) (a0 : Nat) (a1 : Int32) (hp : List mE) (v : Unit) (hp' : List mE) (ra0 : a0 < hp.length) (h : e28 F a0 a1 hp = some (v, hp')) : Rn d 28 0 (lv_args 0 [.ref a0, .int a1]) [] hp 0 0 (none, hp', 0, 0) :=
  t28_0 (n := hp.length) hd F a0 a1 (lv_args 0 [.ref a0, .int a1]) hp v hp' rfl rfl (lvk_args (okc (okr ra0) (okc rfl okn))) rfl ra0 h
/-! MirrorRoots$Layers.countElements -/
def m27_193 (F : Nat) (t0 : Nat) (t1 : Int32) (hp : List mE) : Option (Unit × List mE) :=
  (pfv 2 8 hp t0 (.int t1)).bind fun hp1 =>
  some ((), hp1)
theorem t27_193 {d c w n : Nat} (hd : 3 ≤ d) (F : Nat) : ∀ (t0 : Nat) (t1 : Int32) (lv : List (Nat × Value)) (hp : List mE) (v : Unit) (hp' : List mE), lvk n lv → hp.length = n → t0 < n → m27_193 F t0 t1 hp = some (v, hp') → Rn d 27 193 lv [.int t1, .ref t0] hp c w (none, hp', c, w) := by
  obtain ⟨d', rfl⟩ : ∃ d', d = d' + 1 := ⟨d - 1, by omega⟩
  intro t0 t1 lv hp v hp' ok hn r_t0 h
  unfold m27_193 at h
  obtain ⟨hp1, hhp1, h⟩ := Option.bind_eq_some_iff.mp h
  refine Rn.pf n27_193 mo27 fl2_22 ft2_8 rfl ff2_8 (fun _ _ hh => by cases hh) hhp1 ?_
  have hn := (pfv_len hhp1).trans hn
  have e1 := (Prod.mk.inj (Option.some.inj h)).1
  have e2 := (Prod.mk.inj (Option.some.inj h)).2
  subst e1
  subst e2
  exact Rn.vret n27_196 mr27
def m27_176 (F : Nat) (v0 : Nat) (v1 : Int32) (v2 : Int32) (t0 : Nat) (t1 : Int32) (hp : List mE) : Option (Unit × List mE) :=
  (pfv 2 6 hp t0 (.int t1)).bind fun hp1 =>
  if mc1 .eq v2 = true then
    m27_193 F v0 v1 hp1
  else
    (gfr 2 5 hp1 v0).bind fun x3 =>
    (alnR hp1 x3).bind fun x4 =>
    m27_193 F v0 x4 hp1
theorem t27_176 {d c w n : Nat} (hd : 3 ≤ d) (F : Nat) : ∀ (v0 : Nat) (v1 : Int32) (v2 : Int32) (t0 : Nat) (t1 : Int32) (lv : List (Nat × Value)) (hp : List mE) (v : Unit) (hp' : List mE), alk 0 lv = some (.ref v0) → alk 1 lv = some (.int v1) → alk 2 lv = some (.int v2) → lvk n lv → hp.length = n → v0 < n → t0 < n → m27_176 F v0 v1 v2 t0 t1 hp = some (v, hp') → Rn d 27 176 lv [.int t1, .ref t0] hp c w (none, hp', c, w) := by
  obtain ⟨d', rfl⟩ : ∃ d', d = d' + 1 := ⟨d - 1, by omega⟩
  intro v0 v1 v2 t0 t1 lv hp v hp' l0 l1 l2 ok hn r_v0 r_t0 h
  unfold m27_176 at h
  obtain ⟨hp1, hhp1, h⟩ := Option.bind_eq_some_iff.mp h
  refine Rn.pf n27_176 mo27 fl2_47 ft2_6 rfl ff2_6 (fun _ _ hh => by cases hh) hhp1 ?_
  have hn := (pfv_len hhp1).trans hn
  refine Rn.aload_n n27_179 l0 ?_
  refine Rn.iload_n n27_180 l2 ?_
  by_cases hc2 : mc1 .eq v2 = true
  · rw [if_pos hc2] at h
    refine Rn.c1t (t := 192) n27_181 (by decide) hc2 ?_
    refine Rn.iload_n n27_192 l1 ?_
    exact t27_193 hd F  _ _ lv _ _ _  ok hn  r_v0 h
  · rw [if_neg hc2] at h
    refine Rn.c1f (t := 192) n27_181 (by decide) hc2 ?_
    refine Rn.aload_n n27_184 l0 ?_
    obtain ⟨x3, hx3, h⟩ := Option.bind_eq_some_iff.mp h
    refine Rn.gf n27_185 mo27 fl2_18 (gfr_v hx3).1 ?_
    have r_x3 : x3 < n := by rw [← hn]; exact (gfr_v hx3).2
    obtain ⟨x4, hx4, h⟩ := Option.bind_eq_some_iff.mp h
    refine Rn.alen n27_188 hx4 ?_
    refine Rn.goto (t := 193) n27_189 (by decide) ?_
    exact t27_193 hd F  _ _ lv _ _ _  ok hn  r_v0 h
def m27_148 (F : Nat) (v0 : Nat) (v1 : Int32) (t0 : Int32) (hp : List mE) : Option (Unit × List mE) :=
  if mc1 .eq t0 = true then
    (gfr 2 5 hp v0).bind fun x2 =>
    (alnR hp x2).bind fun x3 =>
    m27_176 F v0 v1 t0 v0 x3 hp
  else
    (gfr 2 2 hp v0).bind fun x4 =>
    (gfr 6 4 hp x4).bind fun x5 =>
    (gfi 2 7 hp v0).bind fun x6 =>
    (rdI hp x5 (x6 - 1)).bind fun x7 =>
    m27_176 F v0 v1 t0 v0 x7 hp
theorem t27_148 {d c w n : Nat} (hd : 3 ≤ d) (F : Nat) : ∀ (v0 : Nat) (v1 : Int32) (t0 : Int32) (lv : List (Nat × Value)) (hp : List mE) (v : Unit) (hp' : List mE), alk 0 lv = some (.ref v0) → alk 1 lv = some (.int v1) → lvk n lv → hp.length = n → v0 < n → m27_148 F v0 v1 t0 hp = some (v, hp') → Rn d 27 148 lv [.int t0] hp c w (none, hp', c, w) := by
  obtain ⟨d', rfl⟩ : ∃ d', d = d' + 1 := ⟨d - 1, by omega⟩
  intro v0 v1 t0 lv hp v hp' l0 l1 ok hn r_v0 h
  unfold m27_148 at h
  refine Rn.isn (m := n) n27_148 rfl ml27 (by decide) (fun lv l2 hk hok => ?_)
  have l0 := hk 0 _ (by decide) (Or.inl rfl) l0
  have l1 := hk 1 _ (by decide) (Or.inl rfl) l1
  have ok := hok ok
  refine Rn.aload_n n27_149 l0 ?_
  refine Rn.iload_n n27_150 l2 ?_
  by_cases hc1 : mc1 .eq t0 = true
  · rw [if_pos hc1] at h
    refine Rn.c1t (t := 171) n27_151 (by decide) hc1 ?_
    refine Rn.aload_n n27_171 l0 ?_
    obtain ⟨x2, hx2, h⟩ := Option.bind_eq_some_iff.mp h
    refine Rn.gf n27_172 mo27 fl2_18 (gfr_v hx2).1 ?_
    have r_x2 : x2 < n := by rw [← hn]; exact (gfr_v hx2).2
    obtain ⟨x3, hx3, h⟩ := Option.bind_eq_some_iff.mp h
    refine Rn.alen n27_175 hx3 ?_
    exact t27_176 hd F  _ _ _ _ _ lv _ _ _ l0 l1 l2 ok hn r_v0 r_v0 h
  · rw [if_neg hc1] at h
    refine Rn.c1f (t := 171) n27_151 (by decide) hc1 ?_
    refine Rn.aload_n n27_154 l0 ?_
    obtain ⟨x4, hx4, h⟩ := Option.bind_eq_some_iff.mp h
    refine Rn.gf n27_155 mo27 fl2_39 (gfr_v hx4).1 ?_
    have r_x4 : x4 < n := by rw [← hn]; exact (gfr_v hx4).2
    obtain ⟨x5, hx5, h⟩ := Option.bind_eq_some_iff.mp h
    refine Rn.gf n27_158 mo27 fl2_73 (gfr_v hx5).1 ?_
    have r_x5 : x5 < n := by rw [← hn]; exact (gfr_v hx5).2
    refine Rn.aload_n n27_161 l0 ?_
    obtain ⟨x6, hx6, h⟩ := Option.bind_eq_some_iff.mp h
    refine Rn.gf n27_162 mo27 fl2_54 (gfi_v hx6) ?_
    refine Rn.ic (v := 1) n27_165 (by decide) ?_
    refine Rn.p n27_166 rfl ?_
    obtain ⟨x7, hx7, h⟩ := Option.bind_eq_some_iff.mp h
    refine Rn.iald n27_167 hx7 ?_
    refine Rn.goto (t := 176) n27_168 (by decide) ?_
    exact t27_176 hd F  _ _ _ _ _ lv _ _ _ l0 l1 l2 ok hn r_v0 r_v0 h
def m27_122 (F : Nat) (v0 : Nat) (v1 : Int32) (hp : List mE) : Option (Unit × List mE) :=
  (gfr 2 2 hp v0).bind fun x1 =>
  (gfi 6 2 hp x1).bind fun x2 =>
  (pfv 2 7 hp v0 (.int x2)).bind fun hp3 =>
  (gfi 2 7 hp3 v0).bind fun x4 =>
  if mc2 .le x4 2000 = true then
    m27_148 F v0 v1 0 hp3
  else
    m27_148 F v0 v1 1 hp3
theorem t27_122 {d c w n : Nat} (hd : 3 ≤ d) (F : Nat) : ∀ (v0 : Nat) (v1 : Int32) (lv : List (Nat × Value)) (hp : List mE) (v : Unit) (hp' : List mE), alk 0 lv = some (.ref v0) → alk 1 lv = some (.int v1) → lvk n lv → hp.length = n → v0 < n → m27_122 F v0 v1 hp = some (v, hp') → Rn d 27 122 lv [] hp c w (none, hp', c, w) := by
  obtain ⟨d', rfl⟩ : ∃ d', d = d' + 1 := ⟨d - 1, by omega⟩
  intro v0 v1 lv hp v hp' l0 l1 ok hn r_v0 h
  unfold m27_122 at h
  refine Rn.aload_n n27_122 l0 ?_
  refine Rn.aload_n n27_123 l0 ?_
  obtain ⟨x1, hx1, h⟩ := Option.bind_eq_some_iff.mp h
  refine Rn.gf n27_124 mo27 fl2_39 (gfr_v hx1).1 ?_
  have r_x1 : x1 < n := by rw [← hn]; exact (gfr_v hx1).2
  obtain ⟨x2, hx2, h⟩ := Option.bind_eq_some_iff.mp h
  refine Rn.gf n27_127 mo27 fl2_70 (gfi_v hx2) ?_
  obtain ⟨hp3, hhp3, h⟩ := Option.bind_eq_some_iff.mp h
  refine Rn.pf n27_130 mo27 fl2_54 ft2_7 rfl ff2_7 (fun _ _ hh => by cases hh) hhp3 ?_
  have hn := (pfv_len hhp3).trans hn
  refine Rn.aload_n n27_133 l0 ?_
  obtain ⟨x4, hx4, h⟩ := Option.bind_eq_some_iff.mp h
  refine Rn.gf n27_134 mo27 fl2_54 (gfi_v hx4) ?_
  refine Rn.sp (v := 2000) n27_137 (by decide) ?_
  by_cases hc5 : mc2 .le x4 2000 = true
  · rw [if_pos hc5] at h
    refine Rn.c2t (t := 147) n27_140 (by decide) hc5 ?_
    refine Rn.ic (v := 0) n27_147 (by decide) ?_
    exact t27_148 hd F  _ _ _ lv _ _ _ l0 l1 ok hn r_v0  h
  · rw [if_neg hc5] at h
    refine Rn.c2f (t := 147) n27_140 (by decide) hc5 ?_
    refine Rn.ic (v := 1) n27_143 (by decide) ?_
    refine Rn.goto (t := 148) n27_144 (by decide) ?_
    exact t27_148 hd F  _ _ _ lv _ _ _ l0 l1 ok hn r_v0  h
def m27_116 (F : Nat) (rc74 : Nat → Int32 → Int32 → List mE → Option (Unit × List mE)) (v0 : Nat) (v1 : Int32) (v2 : Int32) (hp : List mE) : Option (Unit × List mE) :=
  rc74 v0 v1 (v2 + 1) hp
theorem t27_116 {d c w n : Nat} (hd : 3 ≤ d) (F : Nat) {rc74 : Nat → Int32 → Int32 → List mE → Option (Unit × List mE)} (hr74 : ∀ (v0 : Nat) (v1 : Int32) (v2 : Int32) (lv : List (Nat × Value)) (hp : List mE) (v : Unit) (hp' : List mE), alk 0 lv = some (.ref v0) → alk 1 lv = some (.int v1) → alk 2 lv = some (.int v2) → lvk n lv → hp.length = n → v0 < n → rc74 v0 v1 v2 hp = some (v, hp') → Rn d 27 74 lv [] hp c w (none, hp', c, w)) : ∀ (v0 : Nat) (v1 : Int32) (v2 : Int32) (lv : List (Nat × Value)) (hp : List mE) (v : Unit) (hp' : List mE), alk 0 lv = some (.ref v0) → alk 1 lv = some (.int v1) → alk 2 lv = some (.int v2) → lvk n lv → hp.length = n → v0 < n → m27_116 F rc74 v0 v1 v2 hp = some (v, hp') → Rn d 27 116 lv [] hp c w (none, hp', c, w) := by
  obtain ⟨d', rfl⟩ : ∃ d', d = d' + 1 := ⟨d - 1, by omega⟩
  intro v0 v1 v2 lv hp v hp' l0 l1 l2 ok hn r_v0 h
  unfold m27_116 at h
  refine Rn.ii (m := n) (u := 1) n27_116 ml27 (by decide) (by decide) l2 (fun lv l2 hk hok => ?_)
  have l0 := hk 0 _ (by decide) (Or.inl rfl) l0
  have l1 := hk 1 _ (by decide) (Or.inl rfl) l1
  have ok := hok ok
  refine Rn.goto (t := 74) n27_119 (by decide) ?_
  exact hr74 _ _ _ lv _ _ _ l0 l1 l2 ok hn r_v0  h
def m27_74 (F : Nat) : Nat → Nat → Int32 → Int32 → List mE → Option (Unit × List mE)
  | 0, _, _, _, _ => none
  | f + 1, v0, v1, v2, hp =>
    (gfr 2 2 hp v0).bind fun x1 =>
    (gfi 6 2 hp x1).bind fun x2 =>
    if mc2 .ge v2 x2 = true then
      m27_122 F v0 v1 hp
    else
      (gfr 2 2 hp v0).bind fun x4 =>
      (gfi 6 2 hp x4).bind fun x5 =>
      if mc2 .gt x5 2000 = true then
        m27_122 F v0 v1 hp
      else
        (gfr 2 2 hp v0).bind fun x7 =>
        (gfr 6 4 hp x7).bind fun x8 =>
        (rdI hp x8 v2).bind fun x9 =>
        if mc2 .ge x9 v1 = true then
          m27_116 F (m27_74 F f) v0 v1 v2 hp
        else
          (rcv 2 hp v0).bind fun u12 =>
          (e28 F v0 v2 hp).bind fun q11 =>
          m27_116 F (m27_74 F f) v0 v1 v2 q11.2
theorem t27_74 {d c w n : Nat} (hd : 3 ≤ d) (F : Nat) : ∀ f : Nat, ∀ (v0 : Nat) (v1 : Int32) (v2 : Int32) (lv : List (Nat × Value)) (hp : List mE) (v : Unit) (hp' : List mE), alk 0 lv = some (.ref v0) → alk 1 lv = some (.int v1) → alk 2 lv = some (.int v2) → lvk n lv → hp.length = n → v0 < n → m27_74 F f v0 v1 v2 hp = some (v, hp') → Rn d 27 74 lv [] hp c w (none, hp', c, w) := by
  obtain ⟨d', rfl⟩ : ∃ d', d = d' + 1 := ⟨d - 1, by omega⟩
  intro f
  induction f with
  | zero => intro v0 v1 v2 lv hp v hp' l0 l1 l2 ok hn r_v0 h; cases h
  | succ f hr74 =>
    intro v0 v1 v2 lv hp v hp' l0 l1 l2 ok hn r_v0 h
    unfold m27_74 at h
    refine Rn.iload_n n27_74 l2 ?_
    refine Rn.aload_n n27_75 l0 ?_
    obtain ⟨x1, hx1, h⟩ := Option.bind_eq_some_iff.mp h
    refine Rn.gf n27_76 mo27 fl2_39 (gfr_v hx1).1 ?_
    have r_x1 : x1 < n := by rw [← hn]; exact (gfr_v hx1).2
    obtain ⟨x2, hx2, h⟩ := Option.bind_eq_some_iff.mp h
    refine Rn.gf n27_79 mo27 fl2_70 (gfi_v hx2) ?_
    by_cases hc3 : mc2 .ge v2 x2 = true
    · rw [if_pos hc3] at h
      refine Rn.c2t (t := 122) n27_82 (by decide) hc3 ?_
      exact t27_122 hd F  _ _ lv _ _ _ l0 l1 ok hn r_v0  h
    · rw [if_neg hc3] at h
      refine Rn.c2f (t := 122) n27_82 (by decide) hc3 ?_
      refine Rn.aload_n n27_85 l0 ?_
      obtain ⟨x4, hx4, h⟩ := Option.bind_eq_some_iff.mp h
      refine Rn.gf n27_86 mo27 fl2_39 (gfr_v hx4).1 ?_
      have r_x4 : x4 < n := by rw [← hn]; exact (gfr_v hx4).2
      obtain ⟨x5, hx5, h⟩ := Option.bind_eq_some_iff.mp h
      refine Rn.gf n27_89 mo27 fl2_70 (gfi_v hx5) ?_
      refine Rn.sp (v := 2000) n27_92 (by decide) ?_
      by_cases hc6 : mc2 .gt x5 2000 = true
      · rw [if_pos hc6] at h
        refine Rn.c2t (t := 122) n27_95 (by decide) hc6 ?_
        exact t27_122 hd F  _ _ lv _ _ _ l0 l1 ok hn r_v0  h
      · rw [if_neg hc6] at h
        refine Rn.c2f (t := 122) n27_95 (by decide) hc6 ?_
        refine Rn.aload_n n27_98 l0 ?_
        obtain ⟨x7, hx7, h⟩ := Option.bind_eq_some_iff.mp h
        refine Rn.gf n27_99 mo27 fl2_39 (gfr_v hx7).1 ?_
        have r_x7 : x7 < n := by rw [← hn]; exact (gfr_v hx7).2
        obtain ⟨x8, hx8, h⟩ := Option.bind_eq_some_iff.mp h
        refine Rn.gf n27_102 mo27 fl2_73 (gfr_v hx8).1 ?_
        have r_x8 : x8 < n := by rw [← hn]; exact (gfr_v hx8).2
        refine Rn.iload_n n27_105 l2 ?_
        obtain ⟨x9, hx9, h⟩ := Option.bind_eq_some_iff.mp h
        refine Rn.iald n27_106 hx9 ?_
        refine Rn.iload_n n27_107 l1 ?_
        by_cases hc10 : mc2 .ge x9 v1 = true
        · rw [if_pos hc10] at h
          refine Rn.c2t (t := 116) n27_108 (by decide) hc10 ?_
          exact t27_116 hd F hr74 _ _ _ lv _ _ _ l0 l1 l2 ok hn r_v0  h
        · rw [if_neg hc10] at h
          refine Rn.c2f (t := 116) n27_108 (by decide) hc10 ?_
          refine Rn.aload_n n27_111 l0 ?_
          refine Rn.iload_n n27_112 l2 ?_
          obtain ⟨u12, hu12, h⟩ := Option.bind_eq_some_iff.mp h
          obtain ⟨q11, hq11, h⟩ := Option.bind_eq_some_iff.mp h
          have gq11 := c28 (d := d') (by omega) F _ _ _ _ _ (by rw [hn]; exact r_v0) hq11
          refine Rn.cv (As := [.int v2]) (rr := []) n27_113 mo27 mm2_76 (by decide) mq28 rfl rfl rfl rfl (by rw [mo28]; exact hu12) (Nat.le_of_ble_eq_true rfl) (by rw [hn]; exact (okc (okr r_v0) (okc rfl okn))) (by rw [hn]; exact okn) (by rw [hn]; exact ok) (by rw [ml28]; exact Nat.le_of_ble_eq_true rfl) gq11 ?_
          have hn := (Rn.len gq11).trans hn
          show Rn _ 27 116 lv [] q11.2 c w _
          exact t27_116 hd F hr74 _ _ _ lv _ _ _ l0 l1 l2 ok hn r_v0  h
def m27_11 (F : Nat) : Nat → Nat → Int32 → Int32 → List mE → Option (Unit × List mE)
  | 0, _, _, _, _ => none
  | f + 1, v0, v1, v2, hp =>
    (gfr 2 5 hp v0).bind fun x1 =>
    (alnR hp x1).bind fun x2 =>
    if mc2 .ge v2 x2 = true then
      (gfr 2 2 hp v0).bind fun x4 =>
      (rcv 6 hp x4).bind fun u6 =>
      (e60 F x4 hp).bind fun q5 =>
      (gfr 2 0 q5.2 v0).bind fun x7 =>
      (gfr 2 3 q5.2 v0).bind fun x8 =>
      (rcv 3 q5.2 x7).bind fun u10 =>
      (e40 F x7 x8 0 q5.2).bind fun q9 =>
      (gfr 2 2 q9.2 v0).bind fun x11 =>
      (gfr 2 3 q9.2 v0).bind fun x12 =>
      (rcv 6 q9.2 x11).bind fun u14 =>
      (e64 F x11 x12 0 q9.2).bind fun q13 =>
      (gfr 2 5 q13.2 v0).bind fun x15 =>
      (wrI q13.2 x15 0 1).bind fun hp16 =>
      m27_74 F F v0 v1 0 hp16
    else
      (gfr 2 5 hp v0).bind fun x17 =>
      (wrI hp x17 v2 0).bind fun hp18 =>
      m27_11 F f v0 v1 (v2 + 1) hp18
theorem t27_11 {d c w n : Nat} (hd : 3 ≤ d) (F : Nat) : ∀ f : Nat, ∀ (v0 : Nat) (v1 : Int32) (v2 : Int32) (lv : List (Nat × Value)) (hp : List mE) (v : Unit) (hp' : List mE), alk 0 lv = some (.ref v0) → alk 1 lv = some (.int v1) → alk 2 lv = some (.int v2) → lvk n lv → hp.length = n → v0 < n → m27_11 F f v0 v1 v2 hp = some (v, hp') → Rn d 27 11 lv [] hp c w (none, hp', c, w) := by
  obtain ⟨d', rfl⟩ : ∃ d', d = d' + 1 := ⟨d - 1, by omega⟩
  intro f
  induction f with
  | zero => intro v0 v1 v2 lv hp v hp' l0 l1 l2 ok hn r_v0 h; cases h
  | succ f hr11 =>
    intro v0 v1 v2 lv hp v hp' l0 l1 l2 ok hn r_v0 h
    unfold m27_11 at h
    refine Rn.iload_n n27_11 l2 ?_
    refine Rn.aload_n n27_12 l0 ?_
    obtain ⟨x1, hx1, h⟩ := Option.bind_eq_some_iff.mp h
    refine Rn.gf n27_13 mo27 fl2_18 (gfr_v hx1).1 ?_
    have r_x1 : x1 < n := by rw [← hn]; exact (gfr_v hx1).2
    obtain ⟨x2, hx2, h⟩ := Option.bind_eq_some_iff.mp h
    refine Rn.alen n27_16 hx2 ?_
    by_cases hc3 : mc2 .ge v2 x2 = true
    · rw [if_pos hc3] at h
      refine Rn.c2t (t := 33) n27_17 (by decide) hc3 ?_
      refine Rn.aload_n n27_33 l0 ?_
      obtain ⟨x4, hx4, h⟩ := Option.bind_eq_some_iff.mp h
      refine Rn.gf n27_34 mo27 fl2_39 (gfr_v hx4).1 ?_
      have r_x4 : x4 < n := by rw [← hn]; exact (gfr_v hx4).2
      obtain ⟨u6, hu6, h⟩ := Option.bind_eq_some_iff.mp h
      obtain ⟨q5, hq5, h⟩ := Option.bind_eq_some_iff.mp h
      have gq5 := c60 (d := d') (by omega) F _ _ _ _ (by rw [hn]; exact r_x4) hq5
      refine Rn.cv (As := []) (rr := []) n27_37 mo27 mm2_57 (by decide) mq60 rfl rfl rfl rfl (by rw [mo60]; exact hu6) (Nat.le_of_ble_eq_true rfl) (by rw [hn]; exact (okc (okr r_x4) okn)) (by rw [hn]; exact okn) (by rw [hn]; exact ok) (by rw [ml60]; exact Nat.le_of_ble_eq_true rfl) gq5 ?_
      have hn := (Rn.len gq5).trans hn
      show Rn _ 27 40 lv [] q5.2 c w _
      refine Rn.aload_n n27_40 l0 ?_
      obtain ⟨x7, hx7, h⟩ := Option.bind_eq_some_iff.mp h
      refine Rn.gf n27_41 mo27 fl2_26 (gfr_v hx7).1 ?_
      have r_x7 : x7 < n := by rw [← hn]; exact (gfr_v hx7).2
      refine Rn.aload_n n27_44 l0 ?_
      obtain ⟨x8, hx8, h⟩ := Option.bind_eq_some_iff.mp h
      refine Rn.gf n27_45 mo27 fl2_9 (gfr_v hx8).1 ?_
      have r_x8 : x8 < n := by rw [← hn]; exact (gfr_v hx8).2
      refine Rn.ic (v := 0) n27_48 (by decide) ?_
      obtain ⟨u10, hu10, h⟩ := Option.bind_eq_some_iff.mp h
      obtain ⟨q9, hq9, h⟩ := Option.bind_eq_some_iff.mp h
      have gq9 := c40 (d := d') (by omega) F _ _ _ _ _ _ (by rw [hn]; exact r_x7) (by rw [hn]; exact r_x8) hq9
      refine Rn.cv (As := [.ref x8, .int 0]) (rr := []) n27_49 mo27 mm2_60 (by decide) mq40 rfl rfl rfl rfl (by rw [mo40]; exact hu10) (Nat.le_of_ble_eq_true rfl) (by rw [hn]; exact (okc (okr r_x7) (okc (okr r_x8) (okc rfl okn)))) (by rw [hn]; exact okn) (by rw [hn]; exact ok) (by rw [ml40]; exact Nat.le_of_ble_eq_true rfl) gq9 ?_
      have hn := (Rn.len gq9).trans hn
      show Rn _ 27 52 lv [] q9.2 c w _
      refine Rn.aload_n n27_52 l0 ?_
      obtain ⟨x11, hx11, h⟩ := Option.bind_eq_some_iff.mp h
      refine Rn.gf n27_53 mo27 fl2_39 (gfr_v hx11).1 ?_
      have r_x11 : x11 < n := by rw [← hn]; exact (gfr_v hx11).2
      refine Rn.aload_n n27_56 l0 ?_
      obtain ⟨x12, hx12, h⟩ := Option.bind_eq_some_iff.mp h
      refine Rn.gf n27_57 mo27 fl2_9 (gfr_v hx12).1 ?_
      have r_x12 : x12 < n := by rw [← hn]; exact (gfr_v hx12).2
      refine Rn.ic (v := 0) n27_60 (by decide) ?_
      obtain ⟨u14, hu14, h⟩ := Option.bind_eq_some_iff.mp h
      obtain ⟨q13, hq13, h⟩ := Option.bind_eq_some_iff.mp h
      have gq13 := c64 (d := d') (by omega) F _ _ _ _ _ _ (by rw [hn]; exact r_x11) (by rw [hn]; exact r_x12) hq13
      refine Rn.cv (As := [.ref x12, .int 0]) (rr := []) n27_61 mo27 mm2_66 (by decide) mq64 rfl rfl rfl rfl (by rw [mo64]; exact hu14) (Nat.le_of_ble_eq_true rfl) (by rw [hn]; exact (okc (okr r_x11) (okc (okr r_x12) (okc rfl okn)))) (by rw [hn]; exact okn) (by rw [hn]; exact ok) (by rw [ml64]; exact Nat.le_of_ble_eq_true rfl) gq13 ?_
      have hn := (Rn.len gq13).trans hn
      show Rn _ 27 64 lv [.int q13.1] q13.2 c w _
      refine Rn.p n27_64 rfl ?_
      refine Rn.aload_n n27_65 l0 ?_
      obtain ⟨x15, hx15, h⟩ := Option.bind_eq_some_iff.mp h
      refine Rn.gf n27_66 mo27 fl2_18 (gfr_v hx15).1 ?_
      have r_x15 : x15 < n := by rw [← hn]; exact (gfr_v hx15).2
      refine Rn.ic (v := 0) n27_69 (by decide) ?_
      refine Rn.ic (v := 1) n27_70 (by decide) ?_
      obtain ⟨hp16, hhp16, h⟩ := Option.bind_eq_some_iff.mp h
      refine Rn.iast n27_71 hhp16 ?_
      have hn := (wrI_st (st := []) hhp16).2.trans hn
      refine Rn.ic (v := 0) n27_72 (by decide) ?_
      refine Rn.isn (m := n) n27_73 rfl ml27 (by decide) (fun lv l2 hk hok => ?_)
      have l0 := hk 0 _ (by decide) (Or.inl rfl) l0
      have l1 := hk 1 _ (by decide) (Or.inl rfl) l1
      have ok := hok ok
      exact t27_74 hd F  F _ _ _ lv _ _ _ l0 l1 l2 ok hn r_v0  h
    · rw [if_neg hc3] at h
      refine Rn.c2f (t := 33) n27_17 (by decide) hc3 ?_
      refine Rn.aload_n n27_20 l0 ?_
      obtain ⟨x17, hx17, h⟩ := Option.bind_eq_some_iff.mp h
      refine Rn.gf n27_21 mo27 fl2_18 (gfr_v hx17).1 ?_
      have r_x17 : x17 < n := by rw [← hn]; exact (gfr_v hx17).2
      refine Rn.iload_n n27_24 l2 ?_
      refine Rn.ic (v := 0) n27_25 (by decide) ?_
      obtain ⟨hp18, hhp18, h⟩ := Option.bind_eq_some_iff.mp h
      refine Rn.iast n27_26 hhp18 ?_
      have hn := (wrI_st (st := []) hhp18).2.trans hn
      refine Rn.ii (m := n) (u := 1) n27_27 ml27 (by decide) (by decide) l2 (fun lv l2 hk hok => ?_)
      have l0 := hk 0 _ (by decide) (Or.inl rfl) l0
      have l1 := hk 1 _ (by decide) (Or.inl rfl) l1
      have ok := hok ok
      refine Rn.goto (t := 11) n27_30 (by decide) ?_
      exact hr11 _ _ _ lv _ _ _ l0 l1 l2 ok hn r_v0  h
def m27_0 (F : Nat) (v0 : Nat) (v1 : Int32) (hp : List mE) : Option (Unit × List mE) :=
  (gfi 2 8 hp v0).bind fun x1 =>
  if mc2 .gt v1 x1 = true then
    m27_11 F F v0 v1 0 hp
  else
    some ((), hp)
theorem t27_0 {d c w n : Nat} (hd : 3 ≤ d) (F : Nat) : ∀ (v0 : Nat) (v1 : Int32) (lv : List (Nat × Value)) (hp : List mE) (v : Unit) (hp' : List mE), alk 0 lv = some (.ref v0) → alk 1 lv = some (.int v1) → lvk n lv → hp.length = n → v0 < n → m27_0 F v0 v1 hp = some (v, hp') → Rn d 27 0 lv [] hp c w (none, hp', c, w) := by
  obtain ⟨d', rfl⟩ : ∃ d', d = d' + 1 := ⟨d - 1, by omega⟩
  intro v0 v1 lv hp v hp' l0 l1 ok hn r_v0 h
  unfold m27_0 at h
  refine Rn.iload_n n27_0 l1 ?_
  refine Rn.aload_n n27_1 l0 ?_
  obtain ⟨x1, hx1, h⟩ := Option.bind_eq_some_iff.mp h
  refine Rn.gf n27_2 mo27 fl2_22 (gfi_v hx1) ?_
  by_cases hc2 : mc2 .gt v1 x1 = true
  · rw [if_pos hc2] at h
    refine Rn.c2t (t := 9) n27_5 (by decide) hc2 ?_
    refine Rn.ic (v := 0) n27_9 (by decide) ?_
    refine Rn.isn (m := n) n27_10 rfl ml27 (by decide) (fun lv l2 hk hok => ?_)
    have l0 := hk 0 _ (by decide) (Or.inl rfl) l0
    have l1 := hk 1 _ (by decide) (Or.inl rfl) l1
    have ok := hok ok
    exact t27_11 hd F  F _ _ _ lv _ _ _ l0 l1 l2 ok hn r_v0  h
  · rw [if_neg hc2] at h
    refine Rn.c2f (t := 9) n27_5 (by decide) hc2 ?_
    have e1 := (Prod.mk.inj (Option.some.inj h)).1
    have e2 := (Prod.mk.inj (Option.some.inj h)).2
    subst e1
    subst e2
    exact Rn.vret n27_8 mr27
def e27 (F : Nat) (a0 : Nat) (a1 : Int32) (hp : List mE) : Option (Unit × List mE) := m27_0 F a0 a1 hp
theorem c27 {d : Nat} (hd : 3 ≤ d) (F : Nat) (a0 : Nat) (a1 : Int32) (hp : List mE) (v : Unit) (hp' : List mE) (ra0 : a0 < hp.length) (h : e27 F a0 a1 hp = some (v, hp')) : Rn d 27 0 (lv_args 0 [.ref a0, .int a1]) [] hp 0 0 (none, hp', 0, 0) :=
  t27_0 (n := hp.length) hd F a0 a1 (lv_args 0 [.ref a0, .int a1]) hp v hp' rfl rfl (lvk_args (okc (okr ra0) (okc rfl okn))) rfl ra0 h
/-! MirrorRoots$Layers.countOfLength -/
def m23_25 (F : Nat) (t0 : Int32) (hp : List mE) : Option (Int32 × List mE) :=
  some (t0, hp)
theorem t23_25 {d c w n : Nat} (hd : 4 ≤ d) (F : Nat) : ∀ (t0 : Int32) (lv : List (Nat × Value)) (hp : List mE) (v : Int32) (hp' : List mE), lvk n lv → hp.length = n → m23_25 F t0 hp = some (v, hp') → Rn d 23 25 lv [.int t0] hp c w (some (.int v), hp', c, w) := by
  obtain ⟨d', rfl⟩ : ∃ d', d = d' + 1 := ⟨d - 1, by omega⟩
  intro t0 lv hp v hp' ok hn h
  unfold m23_25 at h
  have e1 := (Prod.mk.inj (Option.some.inj h)).1
  have e2 := (Prod.mk.inj (Option.some.inj h)).2
  subst e1
  subst e2
  exact Rn.iret n23_25 mr23
def m23_0 (F : Nat) (v0 : Nat) (v1 : Int32) (hp : List mE) : Option (Int32 × List mE) :=
  (rcv 2 hp v0).bind fun u2 =>
  (e27 F v0 v1 hp).bind fun q1 =>
  (gfi 2 6 q1.2 v0).bind fun x3 =>
  if mc2 .lt v1 x3 = true then
    (gfr 2 5 q1.2 v0).bind fun x5 =>
    (rdI q1.2 x5 v1).bind fun x6 =>
    m23_25 F x6 q1.2
  else
    m23_25 F ((-1005)) q1.2
theorem t23_0 {d c w n : Nat} (hd : 4 ≤ d) (F : Nat) : ∀ (v0 : Nat) (v1 : Int32) (lv : List (Nat × Value)) (hp : List mE) (v : Int32) (hp' : List mE), alk 0 lv = some (.ref v0) → alk 1 lv = some (.int v1) → lvk n lv → hp.length = n → v0 < n → m23_0 F v0 v1 hp = some (v, hp') → Rn d 23 0 lv [] hp c w (some (.int v), hp', c, w) := by
  obtain ⟨d', rfl⟩ : ∃ d', d = d' + 1 := ⟨d - 1, by omega⟩
  intro v0 v1 lv hp v hp' l0 l1 ok hn r_v0 h
  unfold m23_0 at h
  refine Rn.aload_n n23_0 l0 ?_
  refine Rn.iload_n n23_1 l1 ?_
  obtain ⟨u2, hu2, h⟩ := Option.bind_eq_some_iff.mp h
  obtain ⟨q1, hq1, h⟩ := Option.bind_eq_some_iff.mp h
  have gq1 := c27 (d := d') (by omega) F _ _ _ _ _ (by rw [hn]; exact r_v0) hq1
  refine Rn.cv (As := [.int v1]) (rr := []) n23_2 mo23 mm2_43 (by decide) mq27 rfl rfl rfl rfl (by rw [mo27]; exact hu2) (Nat.le_of_ble_eq_true rfl) (by rw [hn]; exact (okc (okr r_v0) (okc rfl okn))) (by rw [hn]; exact okn) (by rw [hn]; exact ok) (by rw [ml27]; exact Nat.le_of_ble_eq_true rfl) gq1 ?_
  have hn := (Rn.len gq1).trans hn
  show Rn _ 23 5 lv [] q1.2 c w _
  refine Rn.iload_n n23_5 l1 ?_
  refine Rn.aload_n n23_6 l0 ?_
  obtain ⟨x3, hx3, h⟩ := Option.bind_eq_some_iff.mp h
  refine Rn.gf n23_7 mo23 fl2_47 (gfi_v hx3) ?_
  by_cases hc4 : mc2 .lt v1 x3 = true
  · rw [if_pos hc4] at h
    refine Rn.c2t (t := 19) n23_10 (by decide) hc4 ?_
    refine Rn.aload_n n23_19 l0 ?_
    obtain ⟨x5, hx5, h⟩ := Option.bind_eq_some_iff.mp h
    refine Rn.gf n23_20 mo23 fl2_18 (gfr_v hx5).1 ?_
    have r_x5 : x5 < n := by rw [← hn]; exact (gfr_v hx5).2
    refine Rn.iload_n n23_23 l1 ?_
    obtain ⟨x6, hx6, h⟩ := Option.bind_eq_some_iff.mp h
    refine Rn.iald n23_24 hx6 ?_
    exact t23_25 hd F  _ lv _ _ _  ok hn   h
  · rw [if_neg hc4] at h
    refine Rn.c2f (t := 19) n23_10 (by decide) hc4 ?_
    refine Rn.sp (v := (-1005)) n23_13 (by decide) ?_
    refine Rn.goto (t := 25) n23_16 (by decide) ?_
    exact t23_25 hd F  _ lv _ _ _  ok hn   h
def e23 (F : Nat) (a0 : Nat) (a1 : Int32) (hp : List mE) : Option (Int32 × List mE) := m23_0 F a0 a1 hp
theorem c23 {d : Nat} (hd : 4 ≤ d) (F : Nat) (a0 : Nat) (a1 : Int32) (hp : List mE) (v : Int32) (hp' : List mE) (ra0 : a0 < hp.length) (h : e23 F a0 a1 hp = some (v, hp')) : Rn d 23 0 (lv_args 0 [.ref a0, .int a1]) [] hp 0 0 (some (.int v), hp', 0, 0) :=
  t23_0 (n := hp.length) hd F a0 a1 (lv_args 0 [.ref a0, .int a1]) hp v hp' rfl rfl (lvk_args (okc (okr ra0) (okc rfl okn))) rfl ra0 h
/-! MirrorRoots$Layers.isWhole -/
def m26_24 (F : Nat) (t0 : Int32) (hp : List mE) : Option (Int32 × List mE) :=
  if t0 = 0 ∨ t0 = 1 then some (t0, hp) else none
theorem t26_24 {d c w n : Nat} (hd : 0 ≤ d) (F : Nat) : ∀ (t0 : Int32) (lv : List (Nat × Value)) (hp : List mE) (v : Int32) (hp' : List mE), lvk n lv → hp.length = n → m26_24 F t0 hp = some (v, hp') → Rn d 26 24 lv [.int t0] hp c w (some (.int v), hp', c, w) := by
  intro t0 lv hp v hp' ok hn h
  unfold m26_24 at h
  by_cases hz1 : t0 = 0 ∨ t0 = 1
  · rw [if_pos hz1] at h
    have e1 := (Prod.mk.inj (Option.some.inj h)).1
    have e2 := (Prod.mk.inj (Option.some.inj h)).2
    subst e1
    subst e2
    exact Rn.zret n26_24 mr26 hz1
  · rw [if_neg hz1] at h; cases h
def m26_23 (F : Nat) (hp : List mE) : Option (Int32 × List mE) :=
  m26_24 F 0 hp
theorem t26_23 {d c w n : Nat} (hd : 0 ≤ d) (F : Nat) : ∀ (lv : List (Nat × Value)) (hp : List mE) (v : Int32) (hp' : List mE), lvk n lv → hp.length = n → m26_23 F hp = some (v, hp') → Rn d 26 23 lv [] hp c w (some (.int v), hp', c, w) := by
  intro lv hp v hp' ok hn h
  unfold m26_23 at h
  refine Rn.ic (v := 0) n26_23 (by decide) ?_
  exact t26_24 hd F  _ lv _ _ _  ok hn   h
def m26_0 (F : Nat) (v0 : Nat) (hp : List mE) : Option (Int32 × List mE) :=
  (gfi 2 6 hp v0).bind fun x1 =>
  if mc2 .le x1 31 = true then
    m26_23 F hp
  else
    (gfr 2 5 hp v0).bind fun x3 =>
    (rdI hp x3 31).bind fun x4 =>
    if mc1 .ne x4 = true then
      m26_23 F hp
    else
      m26_24 F 1 hp
theorem t26_0 {d c w n : Nat} (hd : 0 ≤ d) (F : Nat) : ∀ (v0 : Nat) (lv : List (Nat × Value)) (hp : List mE) (v : Int32) (hp' : List mE), alk 0 lv = some (.ref v0) → lvk n lv → hp.length = n → v0 < n → m26_0 F v0 hp = some (v, hp') → Rn d 26 0 lv [] hp c w (some (.int v), hp', c, w) := by
  intro v0 lv hp v hp' l0 ok hn r_v0 h
  unfold m26_0 at h
  refine Rn.aload_n n26_0 l0 ?_
  obtain ⟨x1, hx1, h⟩ := Option.bind_eq_some_iff.mp h
  refine Rn.gf n26_1 mo26 fl2_47 (gfi_v hx1) ?_
  refine Rn.bp (v := 31) n26_4 (by decide) ?_
  by_cases hc2 : mc2 .le x1 31 = true
  · rw [if_pos hc2] at h
    refine Rn.c2t (t := 23) n26_6 (by decide) hc2 ?_
    exact t26_23 hd F  lv _ _ _  ok hn   h
  · rw [if_neg hc2] at h
    refine Rn.c2f (t := 23) n26_6 (by decide) hc2 ?_
    refine Rn.aload_n n26_9 l0 ?_
    obtain ⟨x3, hx3, h⟩ := Option.bind_eq_some_iff.mp h
    refine Rn.gf n26_10 mo26 fl2_18 (gfr_v hx3).1 ?_
    have r_x3 : x3 < n := by rw [← hn]; exact (gfr_v hx3).2
    refine Rn.bp (v := 31) n26_13 (by decide) ?_
    obtain ⟨x4, hx4, h⟩ := Option.bind_eq_some_iff.mp h
    refine Rn.iald n26_15 hx4 ?_
    by_cases hc5 : mc1 .ne x4 = true
    · rw [if_pos hc5] at h
      refine Rn.c1t (t := 23) n26_16 (by decide) hc5 ?_
      exact t26_23 hd F  lv _ _ _  ok hn   h
    · rw [if_neg hc5] at h
      refine Rn.c1f (t := 23) n26_16 (by decide) hc5 ?_
      refine Rn.ic (v := 1) n26_19 (by decide) ?_
      refine Rn.goto (t := 24) n26_20 (by decide) ?_
      exact t26_24 hd F  _ lv _ _ _  ok hn   h
def e26 (F : Nat) (a0 : Nat) (hp : List mE) : Option (Int32 × List mE) := m26_0 F a0 hp
theorem c26 {d : Nat} (hd : 0 ≤ d) (F : Nat) (a0 : Nat) (hp : List mE) (v : Int32) (hp' : List mE) (ra0 : a0 < hp.length) (h : e26 F a0 hp = some (v, hp')) : Rn d 26 0 (lv_args 0 [.ref a0]) [] hp 0 0 (some (.int v), hp', 0, 0) :=
  t26_0 (n := hp.length) hd F a0 (lv_args 0 [.ref a0]) hp v hp' rfl (lvk_args (okc (okr ra0) okn)) rfl ra0 h
/-! MirrorRoots$Layers.countAll -/
def m24_23 (F : Nat) (t0 : Int32) (hp : List mE) : Option (Int32 × List mE) :=
  some (t0, hp)
theorem t24_23 {d c w n : Nat} (hd : 4 ≤ d) (F : Nat) : ∀ (t0 : Int32) (lv : List (Nat × Value)) (hp : List mE) (v : Int32) (hp' : List mE), lvk n lv → hp.length = n → m24_23 F t0 hp = some (v, hp') → Rn d 24 23 lv [.int t0] hp c w (some (.int v), hp', c, w) := by
  obtain ⟨d', rfl⟩ : ∃ d', d = d' + 1 := ⟨d - 1, by omega⟩
  intro t0 lv hp v hp' ok hn h
  unfold m24_23 at h
  have e1 := (Prod.mk.inj (Option.some.inj h)).1
  have e2 := (Prod.mk.inj (Option.some.inj h)).2
  subst e1
  subst e2
  exact Rn.iret n24_23 mr24
def m24_0 (F : Nat) (v0 : Nat) (hp : List mE) : Option (Int32 × List mE) :=
  (rcv 2 hp v0).bind fun u2 =>
  (e27 F v0 31 hp).bind fun q1 =>
  (rcv 2 q1.2 v0).bind fun u4 =>
  (e26 F v0 q1.2).bind fun q3 =>
  if mc1 .eq q3.1 = true then
    m24_23 F ((-1005)) q3.2
  else
    (gfi 2 7 q3.2 v0).bind fun x6 =>
    m24_23 F x6 q3.2
theorem t24_0 {d c w n : Nat} (hd : 4 ≤ d) (F : Nat) : ∀ (v0 : Nat) (lv : List (Nat × Value)) (hp : List mE) (v : Int32) (hp' : List mE), alk 0 lv = some (.ref v0) → lvk n lv → hp.length = n → v0 < n → m24_0 F v0 hp = some (v, hp') → Rn d 24 0 lv [] hp c w (some (.int v), hp', c, w) := by
  obtain ⟨d', rfl⟩ : ∃ d', d = d' + 1 := ⟨d - 1, by omega⟩
  intro v0 lv hp v hp' l0 ok hn r_v0 h
  unfold m24_0 at h
  refine Rn.aload_n n24_0 l0 ?_
  refine Rn.bp (v := 31) n24_1 (by decide) ?_
  obtain ⟨u2, hu2, h⟩ := Option.bind_eq_some_iff.mp h
  obtain ⟨q1, hq1, h⟩ := Option.bind_eq_some_iff.mp h
  have gq1 := c27 (d := d') (by omega) F _ _ _ _ _ (by rw [hn]; exact r_v0) hq1
  refine Rn.cv (As := [.int 31]) (rr := []) n24_3 mo24 mm2_43 (by decide) mq27 rfl rfl rfl rfl (by rw [mo27]; exact hu2) (Nat.le_of_ble_eq_true rfl) (by rw [hn]; exact (okc (okr r_v0) (okc rfl okn))) (by rw [hn]; exact okn) (by rw [hn]; exact ok) (by rw [ml27]; exact Nat.le_of_ble_eq_true rfl) gq1 ?_
  have hn := (Rn.len gq1).trans hn
  show Rn _ 24 6 lv [] q1.2 c w _
  refine Rn.aload_n n24_6 l0 ?_
  obtain ⟨u4, hu4, h⟩ := Option.bind_eq_some_iff.mp h
  obtain ⟨q3, hq3, h⟩ := Option.bind_eq_some_iff.mp h
  have gq3 := c26 (d := d') (by omega) F _ _ _ _ (by rw [hn]; exact r_v0) hq3
  refine Rn.cv (As := []) (rr := []) n24_7 mo24 mm2_50 (by decide) mq26 rfl rfl rfl rfl (by rw [mo26]; exact hu4) (Nat.le_of_ble_eq_true rfl) (by rw [hn]; exact (okc (okr r_v0) okn)) (by rw [hn]; exact okn) (by rw [hn]; exact ok) (by rw [ml26]; exact Nat.le_of_ble_eq_true rfl) gq3 ?_
  have hn := (Rn.len gq3).trans hn
  show Rn _ 24 10 lv [.int q3.1] q3.2 c w _
  by_cases hc5 : mc1 .eq q3.1 = true
  · rw [if_pos hc5] at h
    refine Rn.c1t (t := 20) n24_10 (by decide) hc5 ?_
    refine Rn.sp (v := (-1005)) n24_20 (by decide) ?_
    exact t24_23 hd F  _ lv _ _ _  ok hn   h
  · rw [if_neg hc5] at h
    refine Rn.c1f (t := 20) n24_10 (by decide) hc5 ?_
    refine Rn.aload_n n24_13 l0 ?_
    obtain ⟨x6, hx6, h⟩ := Option.bind_eq_some_iff.mp h
    refine Rn.gf n24_14 mo24 fl2_54 (gfi_v hx6) ?_
    refine Rn.goto (t := 23) n24_17 (by decide) ?_
    exact t24_23 hd F  _ lv _ _ _  ok hn   h
def e24 (F : Nat) (a0 : Nat) (hp : List mE) : Option (Int32 × List mE) := m24_0 F a0 hp
theorem c24 {d : Nat} (hd : 4 ≤ d) (F : Nat) (a0 : Nat) (hp : List mE) (v : Int32) (hp' : List mE) (ra0 : a0 < hp.length) (h : e24 F a0 hp = some (v, hp')) : Rn d 24 0 (lv_args 0 [.ref a0]) [] hp 0 0 (some (.int v), hp', 0, 0) :=
  t24_0 (n := hp.length) hd F a0 (lv_args 0 [.ref a0]) hp v hp' rfl (lvk_args (okc (okr ra0) okn)) rfl ra0 h
/-! MirrorRoots$Layers.greatestLength -/
def m25_39 (F : Nat) (v1 : Int32) (hp : List mE) : Option (Int32 × List mE) :=
  some (v1, hp)
theorem t25_39 {d c w n : Nat} (hd : 4 ≤ d) (F : Nat) : ∀ (v1 : Int32) (lv : List (Nat × Value)) (hp : List mE) (v : Int32) (hp' : List mE), alk 1 lv = some (.int v1) → lvk n lv → hp.length = n → m25_39 F v1 hp = some (v, hp') → Rn d 25 39 lv [] hp c w (some (.int v), hp', c, w) := by
  obtain ⟨d', rfl⟩ : ∃ d', d = d' + 1 := ⟨d - 1, by omega⟩
  intro v1 lv hp v hp' l1 ok hn h
  unfold m25_39 at h
  refine Rn.iload_n n25_39 l1 ?_
  have e1 := (Prod.mk.inj (Option.some.inj h)).1
  have e2 := (Prod.mk.inj (Option.some.inj h)).2
  subst e1
  subst e2
  exact Rn.iret n25_40 mr25
def m25_20 (F : Nat) : Nat → Nat → Int32 → List mE → Option (Int32 × List mE)
  | 0, _, _, _ => none
  | f + 1, v0, v1, hp =>
    if mc1 .le v1 = true then
      m25_39 F v1 hp
    else
      (gfr 2 5 hp v0).bind fun x2 =>
      (rdI hp x2 v1).bind fun x3 =>
      if mc1 .ne x3 = true then
        m25_39 F v1 hp
      else
        m25_20 F f v0 (v1 + (-1)) hp
theorem t25_20 {d c w n : Nat} (hd : 4 ≤ d) (F : Nat) : ∀ f : Nat, ∀ (v0 : Nat) (v1 : Int32) (lv : List (Nat × Value)) (hp : List mE) (v : Int32) (hp' : List mE), alk 0 lv = some (.ref v0) → alk 1 lv = some (.int v1) → lvk n lv → hp.length = n → v0 < n → m25_20 F f v0 v1 hp = some (v, hp') → Rn d 25 20 lv [] hp c w (some (.int v), hp', c, w) := by
  obtain ⟨d', rfl⟩ : ∃ d', d = d' + 1 := ⟨d - 1, by omega⟩
  intro f
  induction f with
  | zero => intro v0 v1 lv hp v hp' l0 l1 ok hn r_v0 h; cases h
  | succ f hr20 =>
    intro v0 v1 lv hp v hp' l0 l1 ok hn r_v0 h
    unfold m25_20 at h
    refine Rn.iload_n n25_20 l1 ?_
    by_cases hc1 : mc1 .le v1 = true
    · rw [if_pos hc1] at h
      refine Rn.c1t (t := 39) n25_21 (by decide) hc1 ?_
      exact t25_39 hd F  _ lv _ _ _ l1 ok hn   h
    · rw [if_neg hc1] at h
      refine Rn.c1f (t := 39) n25_21 (by decide) hc1 ?_
      refine Rn.aload_n n25_24 l0 ?_
      obtain ⟨x2, hx2, h⟩ := Option.bind_eq_some_iff.mp h
      refine Rn.gf n25_25 mo25 fl2_18 (gfr_v hx2).1 ?_
      have r_x2 : x2 < n := by rw [← hn]; exact (gfr_v hx2).2
      refine Rn.iload_n n25_28 l1 ?_
      obtain ⟨x3, hx3, h⟩ := Option.bind_eq_some_iff.mp h
      refine Rn.iald n25_29 hx3 ?_
      by_cases hc4 : mc1 .ne x3 = true
      · rw [if_pos hc4] at h
        refine Rn.c1t (t := 39) n25_30 (by decide) hc4 ?_
        exact t25_39 hd F  _ lv _ _ _ l1 ok hn   h
      · rw [if_neg hc4] at h
        refine Rn.c1f (t := 39) n25_30 (by decide) hc4 ?_
        refine Rn.ii (m := n) (u := (-1)) n25_33 ml25 (by decide) (by decide) l1 (fun lv l1 hk hok => ?_)
        have l0 := hk 0 _ (by decide) (Or.inl rfl) l0
        have ok := hok ok
        refine Rn.goto (t := 20) n25_36 (by decide) ?_
        exact hr20 _ _ lv _ _ _ l0 l1 ok hn r_v0  h
def m25_0 (F : Nat) (v0 : Nat) (hp : List mE) : Option (Int32 × List mE) :=
  (rcv 2 hp v0).bind fun u2 =>
  (e27 F v0 31 hp).bind fun q1 =>
  (rcv 2 q1.2 v0).bind fun u4 =>
  (e26 F v0 q1.2).bind fun q3 =>
  if mc1 .ne q3.1 = true then
    m25_20 F F v0 30 q3.2
  else
    some ((-1005), q3.2)
theorem t25_0 {d c w n : Nat} (hd : 4 ≤ d) (F : Nat) : ∀ (v0 : Nat) (lv : List (Nat × Value)) (hp : List mE) (v : Int32) (hp' : List mE), alk 0 lv = some (.ref v0) → lvk n lv → hp.length = n → v0 < n → m25_0 F v0 hp = some (v, hp') → Rn d 25 0 lv [] hp c w (some (.int v), hp', c, w) := by
  obtain ⟨d', rfl⟩ : ∃ d', d = d' + 1 := ⟨d - 1, by omega⟩
  intro v0 lv hp v hp' l0 ok hn r_v0 h
  unfold m25_0 at h
  refine Rn.aload_n n25_0 l0 ?_
  refine Rn.bp (v := 31) n25_1 (by decide) ?_
  obtain ⟨u2, hu2, h⟩ := Option.bind_eq_some_iff.mp h
  obtain ⟨q1, hq1, h⟩ := Option.bind_eq_some_iff.mp h
  have gq1 := c27 (d := d') (by omega) F _ _ _ _ _ (by rw [hn]; exact r_v0) hq1
  refine Rn.cv (As := [.int 31]) (rr := []) n25_3 mo25 mm2_43 (by decide) mq27 rfl rfl rfl rfl (by rw [mo27]; exact hu2) (Nat.le_of_ble_eq_true rfl) (by rw [hn]; exact (okc (okr r_v0) (okc rfl okn))) (by rw [hn]; exact okn) (by rw [hn]; exact ok) (by rw [ml27]; exact Nat.le_of_ble_eq_true rfl) gq1 ?_
  have hn := (Rn.len gq1).trans hn
  show Rn _ 25 6 lv [] q1.2 c w _
  refine Rn.aload_n n25_6 l0 ?_
  obtain ⟨u4, hu4, h⟩ := Option.bind_eq_some_iff.mp h
  obtain ⟨q3, hq3, h⟩ := Option.bind_eq_some_iff.mp h
  have gq3 := c26 (d := d') (by omega) F _ _ _ _ (by rw [hn]; exact r_v0) hq3
  refine Rn.cv (As := []) (rr := []) n25_7 mo25 mm2_50 (by decide) mq26 rfl rfl rfl rfl (by rw [mo26]; exact hu4) (Nat.le_of_ble_eq_true rfl) (by rw [hn]; exact (okc (okr r_v0) okn)) (by rw [hn]; exact okn) (by rw [hn]; exact ok) (by rw [ml26]; exact Nat.le_of_ble_eq_true rfl) gq3 ?_
  have hn := (Rn.len gq3).trans hn
  show Rn _ 25 10 lv [.int q3.1] q3.2 c w _
  by_cases hc5 : mc1 .ne q3.1 = true
  · rw [if_pos hc5] at h
    refine Rn.c1t (t := 17) n25_10 (by decide) hc5 ?_
    refine Rn.bp (v := 30) n25_17 (by decide) ?_
    refine Rn.isn (m := n) n25_19 rfl ml25 (by decide) (fun lv l1 hk hok => ?_)
    have l0 := hk 0 _ (by decide) (Or.inl rfl) l0
    have ok := hok ok
    exact t25_20 hd F  F _ _ lv _ _ _ l0 l1 ok hn r_v0  h
  · rw [if_neg hc5] at h
    refine Rn.c1f (t := 17) n25_10 (by decide) hc5 ?_
    refine Rn.sp (v := (-1005)) n25_13 (by decide) ?_
    have e1 := (Prod.mk.inj (Option.some.inj h)).1
    have e2 := (Prod.mk.inj (Option.some.inj h)).2
    subst e1
    subst e2
    exact Rn.iret n25_16 mr25
def e25 (F : Nat) (a0 : Nat) (hp : List mE) : Option (Int32 × List mE) := m25_0 F a0 hp
theorem c25 {d : Nat} (hd : 4 ≤ d) (F : Nat) (a0 : Nat) (hp : List mE) (v : Int32) (hp' : List mE) (ra0 : a0 < hp.length) (h : e25 F a0 hp = some (v, hp')) : Rn d 25 0 (lv_args 0 [.ref a0]) [] hp 0 0 (some (.int v), hp', 0, 0) :=
  t25_0 (n := hp.length) hd F a0 (lv_args 0 [.ref a0]) hp v hp' rfl (lvk_args (okc (okr ra0) okn)) rfl ra0 h
/-! MirrorRoots$Layers.addWays -/
def m30_88 (F : Nat) (v0 : Nat) (v1 : Int32) (v4 : Int32) (hp : List mE) : Option (Unit × List mE) :=
  (gfr 2 4 hp v0).bind fun x1 =>
  (rdJ hp x1 v4).bind fun x2 =>
  (gfr 2 4 hp v0).bind fun x3 =>
  (rdJ hp x3 v1).bind fun x4 =>
  (wrJ hp x1 v4 (x2 + x4)).bind fun hp5 =>
  some ((), hp5)
theorem t30_88 {d c w n : Nat} (hd : 3 ≤ d) (F : Nat) : ∀ (v0 : Nat) (v1 : Int32) (v4 : Int32) (lv : List (Nat × Value)) (hp : List mE) (v : Unit) (hp' : List mE), alk 0 lv = some (.ref v0) → alk 1 lv = some (.int v1) → alk 4 lv = some (.int v4) → lvk n lv → hp.length = n → v0 < n → m30_88 F v0 v1 v4 hp = some (v, hp') → Rn d 30 88 lv [] hp c w (none, hp', c, w) := by
  obtain ⟨d', rfl⟩ : ∃ d', d = d' + 1 := ⟨d - 1, by omega⟩
  intro v0 v1 v4 lv hp v hp' l0 l1 l4 ok hn r_v0 h
  unfold m30_88 at h
  refine Rn.aload_n n30_88 l0 ?_
  obtain ⟨x1, hx1, h⟩ := Option.bind_eq_some_iff.mp h
  refine Rn.gf n30_89 mo30 fl2_15 (gfr_v hx1).1 ?_
  have r_x1 : x1 < n := by rw [← hn]; exact (gfr_v hx1).2
  refine Rn.iload n30_92 l4 ?_
  refine Rn.p n30_94 rfl ?_
  obtain ⟨x2, hx2, h⟩ := Option.bind_eq_some_iff.mp h
  refine Rn.lald n30_95 hx2 ?_
  refine Rn.aload_n n30_96 l0 ?_
  obtain ⟨x3, hx3, h⟩ := Option.bind_eq_some_iff.mp h
  refine Rn.gf n30_97 mo30 fl2_15 (gfr_v hx3).1 ?_
  have r_x3 : x3 < n := by rw [← hn]; exact (gfr_v hx3).2
  refine Rn.iload_n n30_100 l1 ?_
  obtain ⟨x4, hx4, h⟩ := Option.bind_eq_some_iff.mp h
  refine Rn.lald n30_101 hx4 ?_
  refine Rn.p n30_102 rfl ?_
  obtain ⟨hp5, hhp5, h⟩ := Option.bind_eq_some_iff.mp h
  refine Rn.last n30_103 hhp5 ?_
  have hn := (wrJ_st (st := []) hhp5).2.trans hn
  have e1 := (Prod.mk.inj (Option.some.inj h)).1
  have e2 := (Prod.mk.inj (Option.some.inj h)).2
  subst e1
  subst e2
  exact Rn.vret n30_104 mr30
def m30_0 (F : Nat) (v0 : Nat) (v1 : Int32) (v2 : Int32) (hp : List mE) : Option (Unit × List mE) :=
  (gfr 2 0 hp v0).bind fun x1 =>
  (gfr 2 2 hp v0).bind fun x2 =>
  (gfr 6 3 hp x2).bind fun x3 =>
  (gfr 2 3 hp v0).bind fun x4 =>
  (rcv 3 hp x1).bind fun u6 =>
  (e42 F x1 x3 (v1 * 5) x4 0 hp).bind fun q5 =>
  (gfr 2 0 q5.2 v0).bind fun x7 =>
  (gfr 2 3 q5.2 v0).bind fun x8 =>
  (rcv 3 q5.2 x7).bind fun u10 =>
  (e41 F x7 x8 0 v2 q5.2).bind fun q9 =>
  (gfr 2 2 q9.2 v0).bind fun x11 =>
  (gfi 6 2 q9.2 x11).bind fun x12 =>
  (gfr 2 2 q9.2 v0).bind fun x13 =>
  (gfr 2 3 q9.2 v0).bind fun x14 =>
  (gfr 2 2 q9.2 v0).bind fun x15 =>
  (gfr 6 4 q9.2 x15).bind fun x16 =>
  (rdI q9.2 x16 v1).bind fun x17 =>
  (rcv 6 q9.2 x13).bind fun u19 =>
  (e62 F x13 x14 (x17 - 1) q9.2).bind fun q18 =>
  if mc2 .ne q18.1 ((-1)) = true then
    if mc2 .ne q18.1 x12 = true then
      m30_88 F v0 v1 q18.1 q18.2
    else
      (gfr 2 4 q18.2 v0).bind fun x22 =>
      (wrJ q18.2 x22 q18.1 0).bind fun hp23 =>
      m30_88 F v0 v1 q18.1 hp23
  else
    some ((), q18.2)
theorem t30_0 {d c w n : Nat} (hd : 3 ≤ d) (F : Nat) : ∀ (v0 : Nat) (v1 : Int32) (v2 : Int32) (lv : List (Nat × Value)) (hp : List mE) (v : Unit) (hp' : List mE), alk 0 lv = some (.ref v0) → alk 1 lv = some (.int v1) → alk 2 lv = some (.int v2) → lvk n lv → hp.length = n → v0 < n → m30_0 F v0 v1 v2 hp = some (v, hp') → Rn d 30 0 lv [] hp c w (none, hp', c, w) := by
  obtain ⟨d', rfl⟩ : ∃ d', d = d' + 1 := ⟨d - 1, by omega⟩
  intro v0 v1 v2 lv hp v hp' l0 l1 l2 ok hn r_v0 h
  unfold m30_0 at h
  refine Rn.aload_n n30_0 l0 ?_
  obtain ⟨x1, hx1, h⟩ := Option.bind_eq_some_iff.mp h
  refine Rn.gf n30_1 mo30 fl2_26 (gfr_v hx1).1 ?_
  have r_x1 : x1 < n := by rw [← hn]; exact (gfr_v hx1).2
  refine Rn.aload_n n30_4 l0 ?_
  obtain ⟨x2, hx2, h⟩ := Option.bind_eq_some_iff.mp h
  refine Rn.gf n30_5 mo30 fl2_39 (gfr_v hx2).1 ?_
  have r_x2 : x2 < n := by rw [← hn]; exact (gfr_v hx2).2
  obtain ⟨x3, hx3, h⟩ := Option.bind_eq_some_iff.mp h
  refine Rn.gf n30_8 mo30 fl2_84 (gfr_v hx3).1 ?_
  have r_x3 : x3 < n := by rw [← hn]; exact (gfr_v hx3).2
  refine Rn.iload_n n30_11 l1 ?_
  refine Rn.ic (v := 5) n30_12 (by decide) ?_
  refine Rn.p n30_13 rfl ?_
  refine Rn.aload_n n30_14 l0 ?_
  obtain ⟨x4, hx4, h⟩ := Option.bind_eq_some_iff.mp h
  refine Rn.gf n30_15 mo30 fl2_9 (gfr_v hx4).1 ?_
  have r_x4 : x4 < n := by rw [← hn]; exact (gfr_v hx4).2
  refine Rn.ic (v := 0) n30_18 (by decide) ?_
  obtain ⟨u6, hu6, h⟩ := Option.bind_eq_some_iff.mp h
  obtain ⟨q5, hq5, h⟩ := Option.bind_eq_some_iff.mp h
  have gq5 := c42 (d := d') (by omega) F _ _ _ _ _ _ _ _ (by rw [hn]; exact r_x1) (by rw [hn]; exact r_x3) (by rw [hn]; exact r_x4) hq5
  refine Rn.cv (As := [.ref x3, .int (v1 * 5), .ref x4, .int 0]) (rr := []) n30_19 mo30 mm2_87 (by decide) mq42 rfl rfl rfl rfl (by rw [mo42]; exact hu6) (Nat.le_of_ble_eq_true rfl) (by rw [hn]; exact (okc (okr r_x1) (okc (okr r_x3) (okc rfl (okc (okr r_x4) (okc rfl okn)))))) (by rw [hn]; exact okn) (by rw [hn]; exact ok) (by rw [ml42]; exact Nat.le_of_ble_eq_true rfl) gq5 ?_
  have hn := (Rn.len gq5).trans hn
  show Rn _ 30 22 lv [] q5.2 c w _
  refine Rn.aload_n n30_22 l0 ?_
  obtain ⟨x7, hx7, h⟩ := Option.bind_eq_some_iff.mp h
  refine Rn.gf n30_23 mo30 fl2_26 (gfr_v hx7).1 ?_
  have r_x7 : x7 < n := by rw [← hn]; exact (gfr_v hx7).2
  refine Rn.aload_n n30_26 l0 ?_
  obtain ⟨x8, hx8, h⟩ := Option.bind_eq_some_iff.mp h
  refine Rn.gf n30_27 mo30 fl2_9 (gfr_v hx8).1 ?_
  have r_x8 : x8 < n := by rw [← hn]; exact (gfr_v hx8).2
  refine Rn.ic (v := 0) n30_30 (by decide) ?_
  refine Rn.iload_n n30_31 l2 ?_
  obtain ⟨u10, hu10, h⟩ := Option.bind_eq_some_iff.mp h
  obtain ⟨q9, hq9, h⟩ := Option.bind_eq_some_iff.mp h
  have gq9 := c41 (d := d') (by omega) F _ _ _ _ _ _ _ (by rw [hn]; exact r_x7) (by rw [hn]; exact r_x8) hq9
  refine Rn.cv (As := [.ref x8, .int 0, .int v2]) (rr := []) n30_32 mo30 mm2_91 (by decide) mq41 rfl rfl rfl rfl (by rw [mo41]; exact hu10) (Nat.le_of_ble_eq_true rfl) (by rw [hn]; exact (okc (okr r_x7) (okc (okr r_x8) (okc rfl (okc rfl okn))))) (by rw [hn]; exact okn) (by rw [hn]; exact ok) (by rw [ml41]; exact Nat.le_of_ble_eq_true rfl) gq9 ?_
  have hn := (Rn.len gq9).trans hn
  show Rn _ 30 35 lv [] q9.2 c w _
  refine Rn.aload_n n30_35 l0 ?_
  obtain ⟨x11, hx11, h⟩ := Option.bind_eq_some_iff.mp h
  refine Rn.gf n30_36 mo30 fl2_39 (gfr_v hx11).1 ?_
  have r_x11 : x11 < n := by rw [← hn]; exact (gfr_v hx11).2
  obtain ⟨x12, hx12, h⟩ := Option.bind_eq_some_iff.mp h
  refine Rn.gf n30_39 mo30 fl2_70 (gfi_v hx12) ?_
  refine Rn.isn (m := n) n30_42 rfl ml30 (by decide) (fun lv l3 hk hok => ?_)
  have l0 := hk 0 _ (by decide) (Or.inl rfl) l0
  have l1 := hk 1 _ (by decide) (Or.inl rfl) l1
  have l2 := hk 2 _ (by decide) (Or.inl rfl) l2
  have ok := hok ok
  refine Rn.aload_n n30_43 l0 ?_
  obtain ⟨x13, hx13, h⟩ := Option.bind_eq_some_iff.mp h
  refine Rn.gf n30_44 mo30 fl2_39 (gfr_v hx13).1 ?_
  have r_x13 : x13 < n := by rw [← hn]; exact (gfr_v hx13).2
  refine Rn.aload_n n30_47 l0 ?_
  obtain ⟨x14, hx14, h⟩ := Option.bind_eq_some_iff.mp h
  refine Rn.gf n30_48 mo30 fl2_9 (gfr_v hx14).1 ?_
  have r_x14 : x14 < n := by rw [← hn]; exact (gfr_v hx14).2
  refine Rn.aload_n n30_51 l0 ?_
  obtain ⟨x15, hx15, h⟩ := Option.bind_eq_some_iff.mp h
  refine Rn.gf n30_52 mo30 fl2_39 (gfr_v hx15).1 ?_
  have r_x15 : x15 < n := by rw [← hn]; exact (gfr_v hx15).2
  obtain ⟨x16, hx16, h⟩ := Option.bind_eq_some_iff.mp h
  refine Rn.gf n30_55 mo30 fl2_73 (gfr_v hx16).1 ?_
  have r_x16 : x16 < n := by rw [← hn]; exact (gfr_v hx16).2
  refine Rn.iload_n n30_58 l1 ?_
  obtain ⟨x17, hx17, h⟩ := Option.bind_eq_some_iff.mp h
  refine Rn.iald n30_59 hx17 ?_
  refine Rn.ic (v := 1) n30_60 (by decide) ?_
  refine Rn.p n30_61 rfl ?_
  obtain ⟨u19, hu19, h⟩ := Option.bind_eq_some_iff.mp h
  obtain ⟨q18, hq18, h⟩ := Option.bind_eq_some_iff.mp h
  have gq18 := c62 (d := d') (by omega) F _ _ _ _ _ _ (by rw [hn]; exact r_x13) (by rw [hn]; exact r_x14) hq18
  refine Rn.cv (As := [.ref x14, .int (x17 - 1)]) (rr := []) n30_62 mo30 mm2_109 (by decide) mq62 rfl rfl rfl rfl (by rw [mo62]; exact hu19) (Nat.le_of_ble_eq_true rfl) (by rw [hn]; exact (okc (okr r_x13) (okc (okr r_x14) (okc rfl okn)))) (by rw [hn]; exact okn) (by rw [hn]; exact ok) (by rw [ml62]; exact Nat.le_of_ble_eq_true rfl) gq18 ?_
  have hn := (Rn.len gq18).trans hn
  show Rn _ 30 65 lv [.int q18.1] q18.2 c w _
  refine Rn.is (m := n) n30_65 ml30 (by decide) (fun lv l4 hk hok => ?_)
  have l0 := hk 0 _ (by decide) (Or.inl rfl) l0
  have l1 := hk 1 _ (by decide) (Or.inl rfl) l1
  have l2 := hk 2 _ (by decide) (Or.inl rfl) l2
  have l3 := hk 3 _ (by decide) (Or.inl rfl) l3
  have ok := hok ok
  refine Rn.iload n30_67 l4 ?_
  refine Rn.ic (v := (-1)) n30_69 (by decide) ?_
  by_cases hc20 : mc2 .ne q18.1 ((-1)) = true
  · rw [if_pos hc20] at h
    refine Rn.c2t (t := 74) n30_70 (by decide) hc20 ?_
    refine Rn.iload n30_74 l4 ?_
    refine Rn.iload_n n30_76 l3 ?_
    by_cases hc21 : mc2 .ne q18.1 x12 = true
    · rw [if_pos hc21] at h
      refine Rn.c2t (t := 88) n30_77 (by decide) hc21 ?_
      exact t30_88 hd F  _ _ _ lv _ _ _ l0 l1 l4 ok hn r_v0  h
    · rw [if_neg hc21] at h
      refine Rn.c2f (t := 88) n30_77 (by decide) hc21 ?_
      refine Rn.aload_n n30_80 l0 ?_
      obtain ⟨x22, hx22, h⟩ := Option.bind_eq_some_iff.mp h
      refine Rn.gf n30_81 mo30 fl2_15 (gfr_v hx22).1 ?_
      have r_x22 : x22 < n := by rw [← hn]; exact (gfr_v hx22).2
      refine Rn.iload n30_84 l4 ?_
      refine Rn.lc (v := 0) n30_86 (by decide) ?_
      obtain ⟨hp23, hhp23, h⟩ := Option.bind_eq_some_iff.mp h
      refine Rn.last n30_87 hhp23 ?_
      have hn := (wrJ_st (st := []) hhp23).2.trans hn
      exact t30_88 hd F  _ _ _ lv _ _ _ l0 l1 l4 ok hn r_v0  h
  · rw [if_neg hc20] at h
    refine Rn.c2f (t := 74) n30_70 (by decide) hc20 ?_
    have e1 := (Prod.mk.inj (Option.some.inj h)).1
    have e2 := (Prod.mk.inj (Option.some.inj h)).2
    subst e1
    subst e2
    exact Rn.vret n30_73 mr30
def e30 (F : Nat) (a0 : Nat) (a1 : Int32) (a2 : Int32) (hp : List mE) : Option (Unit × List mE) := m30_0 F a0 a1 a2 hp
theorem c30 {d : Nat} (hd : 3 ≤ d) (F : Nat) (a0 : Nat) (a1 : Int32) (a2 : Int32) (hp : List mE) (v : Unit) (hp' : List mE) (ra0 : a0 < hp.length) (h : e30 F a0 a1 a2 hp = some (v, hp')) : Rn d 30 0 (lv_args 0 [.ref a0, .int a1, .int a2]) [] hp 0 0 (none, hp', 0, 0) :=
  t30_0 (n := hp.length) hd F a0 a1 a2 (lv_args 0 [.ref a0, .int a1, .int a2]) hp v hp' rfl rfl rfl (lvk_args (okc (okr ra0) (okc rfl (okc rfl okn)))) rfl ra0 h
/-! MirrorRoots$Layers.countLeastWords -/
def m29_148 (F : Nat) (t0 : Int64) (hp : List mE) : Option (Int64 × List mE) :=
  some (t0, hp)
theorem t29_148 {d c w n : Nat} (hd : 4 ≤ d) (F : Nat) : ∀ (t0 : Int64) (lv : List (Nat × Value)) (hp : List mE) (v : Int64) (hp' : List mE), lvk n lv → hp.length = n → m29_148 F t0 hp = some (v, hp') → Rn d 29 148 lv [.long t0] hp c w (some (.long v), hp', c, w) := by
  obtain ⟨d', rfl⟩ : ∃ d', d = d' + 1 := ⟨d - 1, by omega⟩
  intro t0 lv hp v hp' ok hn h
  unfold m29_148 at h
  have e1 := (Prod.mk.inj (Option.some.inj h)).1
  have e2 := (Prod.mk.inj (Option.some.inj h)).2
  subst e1
  subst e2
  exact Rn.lret n29_148 mr29
def m29_120 (F : Nat) (v0 : Nat) (hp : List mE) : Option (Int64 × List mE) :=
  (gfr 2 2 hp v0).bind fun x1 =>
  (gfi 6 2 hp x1).bind fun x2 =>
  if mc1 .ne x2 = true then
    (gfr 2 4 hp v0).bind fun x4 =>
    (gfr 2 2 hp v0).bind fun x5 =>
    (gfi 6 2 hp x5).bind fun x6 =>
    (rdJ hp x4 (x6 - 1)).bind fun x7 =>
    m29_148 F x7 hp
  else
    m29_148 F 0 hp
theorem t29_120 {d c w n : Nat} (hd : 4 ≤ d) (F : Nat) : ∀ (v0 : Nat) (lv : List (Nat × Value)) (hp : List mE) (v : Int64) (hp' : List mE), alk 0 lv = some (.ref v0) → lvk n lv → hp.length = n → v0 < n → m29_120 F v0 hp = some (v, hp') → Rn d 29 120 lv [] hp c w (some (.long v), hp', c, w) := by
  obtain ⟨d', rfl⟩ : ∃ d', d = d' + 1 := ⟨d - 1, by omega⟩
  intro v0 lv hp v hp' l0 ok hn r_v0 h
  unfold m29_120 at h
  refine Rn.aload_n n29_120 l0 ?_
  obtain ⟨x1, hx1, h⟩ := Option.bind_eq_some_iff.mp h
  refine Rn.gf n29_121 mo29 fl2_39 (gfr_v hx1).1 ?_
  have r_x1 : x1 < n := by rw [← hn]; exact (gfr_v hx1).2
  obtain ⟨x2, hx2, h⟩ := Option.bind_eq_some_iff.mp h
  refine Rn.gf n29_124 mo29 fl2_70 (gfi_v hx2) ?_
  by_cases hc3 : mc1 .ne x2 = true
  · rw [if_pos hc3] at h
    refine Rn.c1t (t := 134) n29_127 (by decide) hc3 ?_
    refine Rn.aload_n n29_134 l0 ?_
    obtain ⟨x4, hx4, h⟩ := Option.bind_eq_some_iff.mp h
    refine Rn.gf n29_135 mo29 fl2_15 (gfr_v hx4).1 ?_
    have r_x4 : x4 < n := by rw [← hn]; exact (gfr_v hx4).2
    refine Rn.aload_n n29_138 l0 ?_
    obtain ⟨x5, hx5, h⟩ := Option.bind_eq_some_iff.mp h
    refine Rn.gf n29_139 mo29 fl2_39 (gfr_v hx5).1 ?_
    have r_x5 : x5 < n := by rw [← hn]; exact (gfr_v hx5).2
    obtain ⟨x6, hx6, h⟩ := Option.bind_eq_some_iff.mp h
    refine Rn.gf n29_142 mo29 fl2_70 (gfi_v hx6) ?_
    refine Rn.ic (v := 1) n29_145 (by decide) ?_
    refine Rn.p n29_146 rfl ?_
    obtain ⟨x7, hx7, h⟩ := Option.bind_eq_some_iff.mp h
    refine Rn.lald n29_147 hx7 ?_
    exact t29_148 hd F  _ lv _ _ _  ok hn   h
  · rw [if_neg hc3] at h
    refine Rn.c1f (t := 134) n29_127 (by decide) hc3 ?_
    refine Rn.lc (v := 0) n29_130 (by decide) ?_
    refine Rn.goto (t := 148) n29_131 (by decide) ?_
    exact t29_148 hd F  _ lv _ _ _  ok hn   h
def m29_108 (F : Nat) (rc59 : Nat → Int32 → List mE → Option (Int64 × List mE)) (rc79 : Nat → Int32 → Int32 → List mE → Option (Int64 × List mE)) (v0 : Nat) (v2 : Int32) (v3 : Int32) (hp : List mE) : Option (Int64 × List mE) :=
  rc79 v0 v2 (v3 + 1) hp
theorem t29_108 {d c w n : Nat} (hd : 4 ≤ d) (F : Nat) {rc59 : Nat → Int32 → List mE → Option (Int64 × List mE)} {rc79 : Nat → Int32 → Int32 → List mE → Option (Int64 × List mE)} (hr59 : ∀ (v0 : Nat) (v2 : Int32) (lv : List (Nat × Value)) (hp : List mE) (v : Int64) (hp' : List mE), alk 0 lv = some (.ref v0) → alk 2 lv = some (.int v2) → lvk n lv → hp.length = n → v0 < n → rc59 v0 v2 hp = some (v, hp') → Rn d 29 59 lv [] hp c w (some (.long v), hp', c, w)) (hr79 : ∀ (v0 : Nat) (v2 : Int32) (v3 : Int32) (lv : List (Nat × Value)) (hp : List mE) (v : Int64) (hp' : List mE), alk 0 lv = some (.ref v0) → alk 2 lv = some (.int v2) → alk 3 lv = some (.int v3) → lvk n lv → hp.length = n → v0 < n → rc79 v0 v2 v3 hp = some (v, hp') → Rn d 29 79 lv [] hp c w (some (.long v), hp', c, w)) : ∀ (v0 : Nat) (v2 : Int32) (v3 : Int32) (lv : List (Nat × Value)) (hp : List mE) (v : Int64) (hp' : List mE), alk 0 lv = some (.ref v0) → alk 2 lv = some (.int v2) → alk 3 lv = some (.int v3) → lvk n lv → hp.length = n → v0 < n → m29_108 F rc59 rc79 v0 v2 v3 hp = some (v, hp') → Rn d 29 108 lv [] hp c w (some (.long v), hp', c, w) := by
  obtain ⟨d', rfl⟩ : ∃ d', d = d' + 1 := ⟨d - 1, by omega⟩
  intro v0 v2 v3 lv hp v hp' l0 l2 l3 ok hn r_v0 h
  unfold m29_108 at h
  refine Rn.ii (m := n) (u := 1) n29_108 ml29 (by decide) (by decide) l3 (fun lv l3 hk hok => ?_)
  have l0 := hk 0 _ (by decide) (Or.inl rfl) l0
  have l2 := hk 2 _ (by decide) (Or.inl rfl) l2
  have ok := hok ok
  refine Rn.goto (t := 79) n29_111 (by decide) ?_
  exact hr79 _ _ _ lv _ _ _ l0 l2 l3 ok hn r_v0  h
def m29_79 (F : Nat) (rc59 : Nat → Int32 → List mE → Option (Int64 × List mE)) : Nat → Nat → Int32 → Int32 → List mE → Option (Int64 × List mE)
  | 0, _, _, _, _ => none
  | f + 1, v0, v2, v3, hp =>
    (gfr 2 0 hp v0).bind fun x1 =>
    (gfi 3 0 hp x1).bind fun x2 =>
    if mc2 .ge v3 x2 = true then
      rc59 v0 (v2 + 1) hp
    else
      (gfr 2 2 hp v0).bind fun x4 =>
      (rcv 6 hp x4).bind fun u6 =>
      (e61 F x4 v2 v3 hp).bind fun q5 =>
      if mc1 .eq q5.1 = true then
        m29_108 F rc59 (m29_79 F rc59 f) v0 v2 v3 q5.2
      else
        (rcv 2 q5.2 v0).bind fun u9 =>
        (e30 F v0 v2 v3 q5.2).bind fun q8 =>
        m29_108 F rc59 (m29_79 F rc59 f) v0 v2 v3 q8.2
theorem t29_79 {d c w n : Nat} (hd : 4 ≤ d) (F : Nat) {rc59 : Nat → Int32 → List mE → Option (Int64 × List mE)} (hr59 : ∀ (v0 : Nat) (v2 : Int32) (lv : List (Nat × Value)) (hp : List mE) (v : Int64) (hp' : List mE), alk 0 lv = some (.ref v0) → alk 2 lv = some (.int v2) → lvk n lv → hp.length = n → v0 < n → rc59 v0 v2 hp = some (v, hp') → Rn d 29 59 lv [] hp c w (some (.long v), hp', c, w)) : ∀ f : Nat, ∀ (v0 : Nat) (v2 : Int32) (v3 : Int32) (lv : List (Nat × Value)) (hp : List mE) (v : Int64) (hp' : List mE), alk 0 lv = some (.ref v0) → alk 2 lv = some (.int v2) → alk 3 lv = some (.int v3) → lvk n lv → hp.length = n → v0 < n → m29_79 F rc59 f v0 v2 v3 hp = some (v, hp') → Rn d 29 79 lv [] hp c w (some (.long v), hp', c, w) := by
  obtain ⟨d', rfl⟩ : ∃ d', d = d' + 1 := ⟨d - 1, by omega⟩
  intro f
  induction f with
  | zero => intro v0 v2 v3 lv hp v hp' l0 l2 l3 ok hn r_v0 h; cases h
  | succ f hr79 =>
    intro v0 v2 v3 lv hp v hp' l0 l2 l3 ok hn r_v0 h
    unfold m29_79 at h
    refine Rn.iload_n n29_79 l3 ?_
    refine Rn.aload_n n29_80 l0 ?_
    obtain ⟨x1, hx1, h⟩ := Option.bind_eq_some_iff.mp h
    refine Rn.gf n29_81 mo29 fl2_26 (gfr_v hx1).1 ?_
    have r_x1 : x1 < n := by rw [← hn]; exact (gfr_v hx1).2
    obtain ⟨x2, hx2, h⟩ := Option.bind_eq_some_iff.mp h
    refine Rn.gf n29_84 mo29 fl2_79 (gfi_v hx2) ?_
    by_cases hc3 : mc2 .ge v3 x2 = true
    · rw [if_pos hc3] at h
      refine Rn.c2t (t := 114) n29_87 (by decide) hc3 ?_
      refine Rn.ii (m := n) (u := 1) n29_114 ml29 (by decide) (by decide) l2 (fun lv l2 hk hok => ?_)
      have l0 := hk 0 _ (by decide) (Or.inl rfl) l0
      have l3 := hk 3 _ (by decide) (Or.inl rfl) l3
      have ok := hok ok
      refine Rn.goto (t := 59) n29_117 (by decide) ?_
      exact hr59 _ _ lv _ _ _ l0 l2 ok hn r_v0  h
    · rw [if_neg hc3] at h
      refine Rn.c2f (t := 114) n29_87 (by decide) hc3 ?_
      refine Rn.aload_n n29_90 l0 ?_
      obtain ⟨x4, hx4, h⟩ := Option.bind_eq_some_iff.mp h
      refine Rn.gf n29_91 mo29 fl2_39 (gfr_v hx4).1 ?_
      have r_x4 : x4 < n := by rw [← hn]; exact (gfr_v hx4).2
      refine Rn.iload_n n29_94 l2 ?_
      refine Rn.iload_n n29_95 l3 ?_
      obtain ⟨u6, hu6, h⟩ := Option.bind_eq_some_iff.mp h
      obtain ⟨q5, hq5, h⟩ := Option.bind_eq_some_iff.mp h
      have gq5 := c61 (d := d') (by omega) F _ _ _ _ _ _ (by rw [hn]; exact r_x4) hq5
      refine Rn.cv (As := [.int v2, .int v3]) (rr := []) n29_96 mo29 mm2_80 (by decide) mq61 rfl rfl rfl rfl (by rw [mo61]; exact hu6) (Nat.le_of_ble_eq_true rfl) (by rw [hn]; exact (okc (okr r_x4) (okc rfl (okc rfl okn)))) (by rw [hn]; exact okn) (by rw [hn]; exact ok) (by rw [ml61]; exact Nat.le_of_ble_eq_true rfl) gq5 ?_
      have hn := (Rn.len gq5).trans hn
      show Rn _ 29 99 lv [.int q5.1] q5.2 c w _
      by_cases hc7 : mc1 .eq q5.1 = true
      · rw [if_pos hc7] at h
        refine Rn.c1t (t := 108) n29_99 (by decide) hc7 ?_
        exact t29_108 hd F hr59 hr79 _ _ _ lv _ _ _ l0 l2 l3 ok hn r_v0  h
      · rw [if_neg hc7] at h
        refine Rn.c1f (t := 108) n29_99 (by decide) hc7 ?_
        refine Rn.aload_n n29_102 l0 ?_
        refine Rn.iload_n n29_103 l2 ?_
        refine Rn.iload_n n29_104 l3 ?_
        obtain ⟨u9, hu9, h⟩ := Option.bind_eq_some_iff.mp h
        obtain ⟨q8, hq8, h⟩ := Option.bind_eq_some_iff.mp h
        have gq8 := c30 (d := d') (by omega) F _ _ _ _ _ _ (by rw [hn]; exact r_v0) hq8
        refine Rn.cv (As := [.int v2, .int v3]) (rr := []) n29_105 mo29 mm2_113 (by decide) mq30 rfl rfl rfl rfl (by rw [mo30]; exact hu9) (Nat.le_of_ble_eq_true rfl) (by rw [hn]; exact (okc (okr r_v0) (okc rfl (okc rfl okn)))) (by rw [hn]; exact okn) (by rw [hn]; exact ok) (by rw [ml30]; exact Nat.le_of_ble_eq_true rfl) gq8 ?_
        have hn := (Rn.len gq8).trans hn
        show Rn _ 29 108 lv [] q8.2 c w _
        exact t29_108 hd F hr59 hr79 _ _ _ lv _ _ _ l0 l2 l3 ok hn r_v0  h
def m29_59 (F : Nat) : Nat → Nat → Int32 → List mE → Option (Int64 × List mE)
  | 0, _, _, _ => none
  | f + 1, v0, v2, hp =>
    (gfr 2 2 hp v0).bind fun x1 =>
    (gfi 6 2 hp x1).bind fun x2 =>
    if mc2 .ge v2 x2 = true then
      m29_120 F v0 hp
    else
      if mc2 .ge v2 4096 = true then
        m29_120 F v0 hp
      else
        m29_79 F (m29_59 F f) F v0 v2 0 hp
theorem t29_59 {d c w n : Nat} (hd : 4 ≤ d) (F : Nat) : ∀ f : Nat, ∀ (v0 : Nat) (v2 : Int32) (lv : List (Nat × Value)) (hp : List mE) (v : Int64) (hp' : List mE), alk 0 lv = some (.ref v0) → alk 2 lv = some (.int v2) → lvk n lv → hp.length = n → v0 < n → m29_59 F f v0 v2 hp = some (v, hp') → Rn d 29 59 lv [] hp c w (some (.long v), hp', c, w) := by
  obtain ⟨d', rfl⟩ : ∃ d', d = d' + 1 := ⟨d - 1, by omega⟩
  intro f
  induction f with
  | zero => intro v0 v2 lv hp v hp' l0 l2 ok hn r_v0 h; cases h
  | succ f hr59 =>
    intro v0 v2 lv hp v hp' l0 l2 ok hn r_v0 h
    unfold m29_59 at h
    refine Rn.iload_n n29_59 l2 ?_
    refine Rn.aload_n n29_60 l0 ?_
    obtain ⟨x1, hx1, h⟩ := Option.bind_eq_some_iff.mp h
    refine Rn.gf n29_61 mo29 fl2_39 (gfr_v hx1).1 ?_
    have r_x1 : x1 < n := by rw [← hn]; exact (gfr_v hx1).2
    obtain ⟨x2, hx2, h⟩ := Option.bind_eq_some_iff.mp h
    refine Rn.gf n29_64 mo29 fl2_70 (gfi_v hx2) ?_
    by_cases hc3 : mc2 .ge v2 x2 = true
    · rw [if_pos hc3] at h
      refine Rn.c2t (t := 120) n29_67 (by decide) hc3 ?_
      exact t29_120 hd F  _ lv _ _ _ l0 ok hn r_v0  h
    · rw [if_neg hc3] at h
      refine Rn.c2f (t := 120) n29_67 (by decide) hc3 ?_
      refine Rn.iload_n n29_70 l2 ?_
      refine Rn.sp (v := 4096) n29_71 (by decide) ?_
      by_cases hc4 : mc2 .ge v2 4096 = true
      · rw [if_pos hc4] at h
        refine Rn.c2t (t := 120) n29_74 (by decide) hc4 ?_
        exact t29_120 hd F  _ lv _ _ _ l0 ok hn r_v0  h
      · rw [if_neg hc4] at h
        refine Rn.c2f (t := 120) n29_74 (by decide) hc4 ?_
        refine Rn.ic (v := 0) n29_77 (by decide) ?_
        refine Rn.isn (m := n) n29_78 rfl ml29 (by decide) (fun lv l3 hk hok => ?_)
        have l0 := hk 0 _ (by decide) (Or.inl rfl) l0
        have l2 := hk 2 _ (by decide) (Or.inl rfl) l2
        have ok := hok ok
        exact t29_79 hd F hr59 F _ _ _ lv _ _ _ l0 l2 l3 ok hn r_v0  h
def m29_0 (F : Nat) (v0 : Nat) (v1 : Int32) (hp : List mE) : Option (Int64 × List mE) :=
  (gfr 2 2 hp v0).bind fun x1 =>
  (rcv 6 hp x1).bind fun u3 =>
  (e60 F x1 hp).bind fun q2 =>
  (gfr 2 0 q2.2 v0).bind fun x4 =>
  (gfr 2 1 q2.2 v0).bind fun x5 =>
  (gfr 1 5 q2.2 x5).bind fun x6 =>
  (gfr 2 3 q2.2 v0).bind fun x7 =>
  (rcv 3 q2.2 x4).bind fun u9 =>
  (e42 F x4 x6 (v1 * 5) x7 0 q2.2).bind fun q8 =>
  (gfr 2 2 q8.2 v0).bind fun x10 =>
  (gfr 2 3 q8.2 v0).bind fun x11 =>
  (gfr 2 1 q8.2 v0).bind fun x12 =>
  (gfr 1 3 q8.2 x12).bind fun x13 =>
  (rdI q8.2 x13 v1).bind fun x14 =>
  (rcv 6 q8.2 x10).bind fun u16 =>
  (e62 F x10 x11 x14 q8.2).bind fun q15 =>
  (gfr 2 4 q15.2 v0).bind fun x17 =>
  (wrJ q15.2 x17 0 1).bind fun hp18 =>
  m29_59 F F v0 0 hp18
theorem t29_0 {d c w n : Nat} (hd : 4 ≤ d) (F : Nat) : ∀ (v0 : Nat) (v1 : Int32) (lv : List (Nat × Value)) (hp : List mE) (v : Int64) (hp' : List mE), alk 0 lv = some (.ref v0) → alk 1 lv = some (.int v1) → lvk n lv → hp.length = n → v0 < n → m29_0 F v0 v1 hp = some (v, hp') → Rn d 29 0 lv [] hp c w (some (.long v), hp', c, w) := by
  obtain ⟨d', rfl⟩ : ∃ d', d = d' + 1 := ⟨d - 1, by omega⟩
  intro v0 v1 lv hp v hp' l0 l1 ok hn r_v0 h
  unfold m29_0 at h
  refine Rn.aload_n n29_0 l0 ?_
  obtain ⟨x1, hx1, h⟩ := Option.bind_eq_some_iff.mp h
  refine Rn.gf n29_1 mo29 fl2_39 (gfr_v hx1).1 ?_
  have r_x1 : x1 < n := by rw [← hn]; exact (gfr_v hx1).2
  obtain ⟨u3, hu3, h⟩ := Option.bind_eq_some_iff.mp h
  obtain ⟨q2, hq2, h⟩ := Option.bind_eq_some_iff.mp h
  have gq2 := c60 (d := d') (by omega) F _ _ _ _ (by rw [hn]; exact r_x1) hq2
  refine Rn.cv (As := []) (rr := []) n29_4 mo29 mm2_57 (by decide) mq60 rfl rfl rfl rfl (by rw [mo60]; exact hu3) (Nat.le_of_ble_eq_true rfl) (by rw [hn]; exact (okc (okr r_x1) okn)) (by rw [hn]; exact okn) (by rw [hn]; exact ok) (by rw [ml60]; exact Nat.le_of_ble_eq_true rfl) gq2 ?_
  have hn := (Rn.len gq2).trans hn
  show Rn _ 29 7 lv [] q2.2 c w _
  refine Rn.aload_n n29_7 l0 ?_
  obtain ⟨x4, hx4, h⟩ := Option.bind_eq_some_iff.mp h
  refine Rn.gf n29_8 mo29 fl2_26 (gfr_v hx4).1 ?_
  have r_x4 : x4 < n := by rw [← hn]; exact (gfr_v hx4).2
  refine Rn.aload_n n29_11 l0 ?_
  obtain ⟨x5, hx5, h⟩ := Option.bind_eq_some_iff.mp h
  refine Rn.gf n29_12 mo29 fl2_30 (gfr_v hx5).1 ?_
  have r_x5 : x5 < n := by rw [← hn]; exact (gfr_v hx5).2
  obtain ⟨x6, hx6, h⟩ := Option.bind_eq_some_iff.mp h
  refine Rn.gf n29_15 mo29 fl2_103 (gfr_v hx6).1 ?_
  have r_x6 : x6 < n := by rw [← hn]; exact (gfr_v hx6).2
  refine Rn.iload_n n29_18 l1 ?_
  refine Rn.ic (v := 5) n29_19 (by decide) ?_
  refine Rn.p n29_20 rfl ?_
  refine Rn.aload_n n29_21 l0 ?_
  obtain ⟨x7, hx7, h⟩ := Option.bind_eq_some_iff.mp h
  refine Rn.gf n29_22 mo29 fl2_9 (gfr_v hx7).1 ?_
  have r_x7 : x7 < n := by rw [← hn]; exact (gfr_v hx7).2
  refine Rn.ic (v := 0) n29_25 (by decide) ?_
  obtain ⟨u9, hu9, h⟩ := Option.bind_eq_some_iff.mp h
  obtain ⟨q8, hq8, h⟩ := Option.bind_eq_some_iff.mp h
  have gq8 := c42 (d := d') (by omega) F _ _ _ _ _ _ _ _ (by rw [hn]; exact r_x4) (by rw [hn]; exact r_x6) (by rw [hn]; exact r_x7) hq8
  refine Rn.cv (As := [.ref x6, .int (v1 * 5), .ref x7, .int 0]) (rr := []) n29_26 mo29 mm2_87 (by decide) mq42 rfl rfl rfl rfl (by rw [mo42]; exact hu9) (Nat.le_of_ble_eq_true rfl) (by rw [hn]; exact (okc (okr r_x4) (okc (okr r_x6) (okc rfl (okc (okr r_x7) (okc rfl okn)))))) (by rw [hn]; exact okn) (by rw [hn]; exact ok) (by rw [ml42]; exact Nat.le_of_ble_eq_true rfl) gq8 ?_
  have hn := (Rn.len gq8).trans hn
  show Rn _ 29 29 lv [] q8.2 c w _
  refine Rn.aload_n n29_29 l0 ?_
  obtain ⟨x10, hx10, h⟩ := Option.bind_eq_some_iff.mp h
  refine Rn.gf n29_30 mo29 fl2_39 (gfr_v hx10).1 ?_
  have r_x10 : x10 < n := by rw [← hn]; exact (gfr_v hx10).2
  refine Rn.aload_n n29_33 l0 ?_
  obtain ⟨x11, hx11, h⟩ := Option.bind_eq_some_iff.mp h
  refine Rn.gf n29_34 mo29 fl2_9 (gfr_v hx11).1 ?_
  have r_x11 : x11 < n := by rw [← hn]; exact (gfr_v hx11).2
  refine Rn.aload_n n29_37 l0 ?_
  obtain ⟨x12, hx12, h⟩ := Option.bind_eq_some_iff.mp h
  refine Rn.gf n29_38 mo29 fl2_30 (gfr_v hx12).1 ?_
  have r_x12 : x12 < n := by rw [← hn]; exact (gfr_v hx12).2
  obtain ⟨x13, hx13, h⟩ := Option.bind_eq_some_iff.mp h
  refine Rn.gf n29_41 mo29 fl2_108 (gfr_v hx13).1 ?_
  have r_x13 : x13 < n := by rw [← hn]; exact (gfr_v hx13).2
  refine Rn.iload_n n29_44 l1 ?_
  obtain ⟨x14, hx14, h⟩ := Option.bind_eq_some_iff.mp h
  refine Rn.iald n29_45 hx14 ?_
  obtain ⟨u16, hu16, h⟩ := Option.bind_eq_some_iff.mp h
  obtain ⟨q15, hq15, h⟩ := Option.bind_eq_some_iff.mp h
  have gq15 := c62 (d := d') (by omega) F _ _ _ _ _ _ (by rw [hn]; exact r_x10) (by rw [hn]; exact r_x11) hq15
  refine Rn.cv (As := [.ref x11, .int x14]) (rr := []) n29_46 mo29 mm2_109 (by decide) mq62 rfl rfl rfl rfl (by rw [mo62]; exact hu16) (Nat.le_of_ble_eq_true rfl) (by rw [hn]; exact (okc (okr r_x10) (okc (okr r_x11) (okc rfl okn)))) (by rw [hn]; exact okn) (by rw [hn]; exact ok) (by rw [ml62]; exact Nat.le_of_ble_eq_true rfl) gq15 ?_
  have hn := (Rn.len gq15).trans hn
  show Rn _ 29 49 lv [.int q15.1] q15.2 c w _
  refine Rn.p n29_49 rfl ?_
  refine Rn.aload_n n29_50 l0 ?_
  obtain ⟨x17, hx17, h⟩ := Option.bind_eq_some_iff.mp h
  refine Rn.gf n29_51 mo29 fl2_15 (gfr_v hx17).1 ?_
  have r_x17 : x17 < n := by rw [← hn]; exact (gfr_v hx17).2
  refine Rn.ic (v := 0) n29_54 (by decide) ?_
  refine Rn.lc (v := 1) n29_55 (by decide) ?_
  obtain ⟨hp18, hhp18, h⟩ := Option.bind_eq_some_iff.mp h
  refine Rn.last n29_56 hhp18 ?_
  have hn := (wrJ_st (st := []) hhp18).2.trans hn
  refine Rn.ic (v := 0) n29_57 (by decide) ?_
  refine Rn.isn (m := n) n29_58 rfl ml29 (by decide) (fun lv l2 hk hok => ?_)
  have l0 := hk 0 _ (by decide) (Or.inl rfl) l0
  have l1 := hk 1 _ (by decide) (Or.inl rfl) l1
  have ok := hok ok
  exact t29_59 hd F  F _ _ lv _ _ _ l0 l2 ok hn r_v0  h
def e29 (F : Nat) (a0 : Nat) (a1 : Int32) (hp : List mE) : Option (Int64 × List mE) := m29_0 F a0 a1 hp
theorem c29 {d : Nat} (hd : 4 ≤ d) (F : Nat) (a0 : Nat) (a1 : Int32) (hp : List mE) (v : Int64) (hp' : List mE) (ra0 : a0 < hp.length) (h : e29 F a0 a1 hp = some (v, hp')) : Rn d 29 0 (lv_args 0 [.ref a0, .int a1]) [] hp 0 0 (some (.long v), hp', 0, 0) :=
  t29_0 (n := hp.length) hd F a0 a1 (lv_args 0 [.ref a0, .int a1]) hp v hp' rfl rfl (lvk_args (okc (okr ra0) (okc rfl okn))) rfl ra0 h
/-! MirrorRoots$Mirrors.startTurns -/
def m32_19 (F : Nat) (t0 : Int32) (hp : List mE) : Option (Int32 × List mE) :=
  some (t0, hp)
theorem t32_19 {d c w n : Nat} (hd : 0 ≤ d) (F : Nat) : ∀ (t0 : Int32) (lv : List (Nat × Value)) (hp : List mE) (v : Int32) (hp' : List mE), lvk n lv → hp.length = n → m32_19 F t0 hp = some (v, hp') → Rn d 32 19 lv [.int t0] hp c w (some (.int v), hp', c, w) := by
  intro t0 lv hp v hp' ok hn h
  unfold m32_19 at h
  have e1 := (Prod.mk.inj (Option.some.inj h)).1
  have e2 := (Prod.mk.inj (Option.some.inj h)).2
  subst e1
  subst e2
  exact Rn.iret n32_19 mr32
def m32_0 (F : Nat) (v0 : Int32) (v1 : Int32) (hp : List mE) : Option (Int32 × List mE) :=
  if mc2 .ne v0 v1 = true then
    if mc2 .ne (v0 + v1) 2 = true then
      m32_19 F 3 hp
    else
      m32_19 F 2 hp
  else
    some (1, hp)
theorem t32_0 {d c w n : Nat} (hd : 0 ≤ d) (F : Nat) : ∀ (v0 : Int32) (v1 : Int32) (lv : List (Nat × Value)) (hp : List mE) (v : Int32) (hp' : List mE), alk 0 lv = some (.int v0) → alk 1 lv = some (.int v1) → lvk n lv → hp.length = n → m32_0 F v0 v1 hp = some (v, hp') → Rn d 32 0 lv [] hp c w (some (.int v), hp', c, w) := by
  intro v0 v1 lv hp v hp' l0 l1 ok hn h
  unfold m32_0 at h
  refine Rn.iload_n n32_0 l0 ?_
  refine Rn.iload_n n32_1 l1 ?_
  by_cases hc1 : mc2 .ne v0 v1 = true
  · rw [if_pos hc1] at h
    refine Rn.c2t (t := 7) n32_2 (by decide) hc1 ?_
    refine Rn.iload_n n32_7 l0 ?_
    refine Rn.iload_n n32_8 l1 ?_
    refine Rn.p n32_9 rfl ?_
    refine Rn.ic (v := 2) n32_10 (by decide) ?_
    by_cases hc2 : mc2 .ne (v0 + v1) 2 = true
    · rw [if_pos hc2] at h
      refine Rn.c2t (t := 18) n32_11 (by decide) hc2 ?_
      refine Rn.ic (v := 3) n32_18 (by decide) ?_
      exact t32_19 hd F  _ lv _ _ _  ok hn   h
    · rw [if_neg hc2] at h
      refine Rn.c2f (t := 18) n32_11 (by decide) hc2 ?_
      refine Rn.ic (v := 2) n32_14 (by decide) ?_
      refine Rn.goto (t := 19) n32_15 (by decide) ?_
      exact t32_19 hd F  _ lv _ _ _  ok hn   h
  · rw [if_neg hc1] at h
    refine Rn.c2f (t := 7) n32_2 (by decide) hc1 ?_
    refine Rn.ic (v := 1) n32_5 (by decide) ?_
    have e1 := (Prod.mk.inj (Option.some.inj h)).1
    have e2 := (Prod.mk.inj (Option.some.inj h)).2
    subst e1
    subst e2
    exact Rn.iret n32_6 mr32
def e32 (F : Nat) (a0 : Int32) (a1 : Int32) (hp : List mE) : Option (Int32 × List mE) := m32_0 F a0 a1 hp
theorem c32 {d : Nat} (hd : 0 ≤ d) (F : Nat) (a0 : Int32) (a1 : Int32) (hp : List mE) (v : Int32) (hp' : List mE) (h : e32 F a0 a1 hp = some (v, hp')) : Rn d 32 0 (lv_args 0 [.int a0, .int a1]) [] hp 0 0 (some (.int v), hp', 0, 0) :=
  t32_0 (n := hp.length) hd F a0 a1 (lv_args 0 [.int a0, .int a1]) hp v hp' rfl rfl (lvk_args (okc rfl (okc rfl okn))) rfl  h
/-! MirrorRoots$Mirrors.numberFor -/
def m35_67 (F : Nat) (t0 : Int32) (hp : List mE) : Option (Int32 × List mE) :=
  some (t0, hp)
theorem t35_67 {d c w n : Nat} (hd : 0 ≤ d) (F : Nat) : ∀ (t0 : Int32) (lv : List (Nat × Value)) (hp : List mE) (v : Int32) (hp' : List mE), lvk n lv → hp.length = n → m35_67 F t0 hp = some (v, hp') → Rn d 35 67 lv [.int t0] hp c w (some (.int v), hp', c, w) := by
  intro t0 lv hp v hp' ok hn h
  unfold m35_67 at h
  have e1 := (Prod.mk.inj (Option.some.inj h)).1
  have e2 := (Prod.mk.inj (Option.some.inj h)).2
  subst e1
  subst e2
  exact Rn.iret n35_67 mr35
def m35_56 (F : Nat) (t0 : Int32) (hp : List mE) : Option (Int32 × List mE) :=
  some (t0, hp)
theorem t35_56 {d c w n : Nat} (hd : 0 ≤ d) (F : Nat) : ∀ (t0 : Int32) (lv : List (Nat × Value)) (hp : List mE) (v : Int32) (hp' : List mE), lvk n lv → hp.length = n → m35_56 F t0 hp = some (v, hp') → Rn d 35 56 lv [.int t0] hp c w (some (.int v), hp', c, w) := by
  intro t0 lv hp v hp' ok hn h
  unfold m35_56 at h
  have e1 := (Prod.mk.inj (Option.some.inj h)).1
  have e2 := (Prod.mk.inj (Option.some.inj h)).2
  subst e1
  subst e2
  exact Rn.iret n35_56 mr35
def m35_0 (F : Nat) (v0 : Int32) (v1 : Int32) (hp : List mE) : Option (Int32 × List mE) :=
  if v0 = 0 then
    some ((-2), hp)
  else
  if v0 = 1 then
    some (0, hp)
  else
  if v0 = 2 then
    some (0, hp)
  else
  if v0 = 3 then
    some ((-1), hp)
  else
  if v0 = 4 then
    if mc1 .eq v1 = true then
      m35_56 F ((-1)) hp
    else
      m35_56 F ((-2)) hp
  else
  if v0 = 5 then
    some (0, hp)
  else
  if v0 = 6 then
    if mc1 .eq v1 = true then
      m35_67 F ((-1)) hp
    else
      m35_67 F ((-3)) hp
  else
  some (0, hp)
theorem t35_0 {d c w n : Nat} (hd : 0 ≤ d) (F : Nat) : ∀ (v0 : Int32) (v1 : Int32) (lv : List (Nat × Value)) (hp : List mE) (v : Int32) (hp' : List mE), alk 0 lv = some (.int v0) → alk 1 lv = some (.int v1) → lvk n lv → hp.length = n → m35_0 F v0 v1 hp = some (v, hp') → Rn d 35 0 lv [] hp c w (some (.int v), hp', c, w) := by
  intro v0 v1 lv hp v hp' l0 l1 ok hn h
  unfold m35_0 at h
  refine Rn.iload_n n35_0 l0 ?_
  by_cases hs1 : v0 = 0
  · rw [if_pos hs1] at h
    refine Rn.sw (pc' := 68) n35_1 (by rw [hs1]; rfl) ?_
    refine Rn.bp (v := (-2)) n35_68 (by decide) ?_
    have e1 := (Prod.mk.inj (Option.some.inj h)).1
    have e2 := (Prod.mk.inj (Option.some.inj h)).2
    subst e1
    subst e2
    exact Rn.iret n35_70 mr35
  rw [if_neg hs1] at h
  by_cases hs2 : v0 = 1
  · rw [if_pos hs2] at h
    refine Rn.sw (pc' := 71) n35_1 (by rw [hs2]; rfl) ?_
    refine Rn.ic (v := 0) n35_71 (by decide) ?_
    have e1 := (Prod.mk.inj (Option.some.inj h)).1
    have e2 := (Prod.mk.inj (Option.some.inj h)).2
    subst e1
    subst e2
    exact Rn.iret n35_72 mr35
  rw [if_neg hs2] at h
  by_cases hs3 : v0 = 2
  · rw [if_pos hs3] at h
    refine Rn.sw (pc' := 71) n35_1 (by rw [hs3]; rfl) ?_
    refine Rn.ic (v := 0) n35_71 (by decide) ?_
    have e1 := (Prod.mk.inj (Option.some.inj h)).1
    have e2 := (Prod.mk.inj (Option.some.inj h)).2
    subst e1
    subst e2
    exact Rn.iret n35_72 mr35
  rw [if_neg hs3] at h
  by_cases hs4 : v0 = 3
  · rw [if_pos hs4] at h
    refine Rn.sw (pc' := 44) n35_1 (by rw [hs4]; rfl) ?_
    refine Rn.ic (v := (-1)) n35_44 (by decide) ?_
    have e1 := (Prod.mk.inj (Option.some.inj h)).1
    have e2 := (Prod.mk.inj (Option.some.inj h)).2
    subst e1
    subst e2
    exact Rn.iret n35_45 mr35
  rw [if_neg hs4] at h
  by_cases hs5 : v0 = 4
  · rw [if_pos hs5] at h
    refine Rn.sw (pc' := 46) n35_1 (by rw [hs5]; rfl) ?_
    refine Rn.iload_n n35_46 l1 ?_
    by_cases hc6 : mc1 .eq v1 = true
    · rw [if_pos hc6] at h
      refine Rn.c1t (t := 55) n35_47 (by decide) hc6 ?_
      refine Rn.ic (v := (-1)) n35_55 (by decide) ?_
      exact t35_56 hd F  _ lv _ _ _  ok hn   h
    · rw [if_neg hc6] at h
      refine Rn.c1f (t := 55) n35_47 (by decide) hc6 ?_
      refine Rn.bp (v := (-2)) n35_50 (by decide) ?_
      refine Rn.goto (t := 56) n35_52 (by decide) ?_
      exact t35_56 hd F  _ lv _ _ _  ok hn   h
  rw [if_neg hs5] at h
  by_cases hs7 : v0 = 5
  · rw [if_pos hs7] at h
    refine Rn.sw (pc' := 71) n35_1 (by rw [hs7]; rfl) ?_
    refine Rn.ic (v := 0) n35_71 (by decide) ?_
    have e1 := (Prod.mk.inj (Option.some.inj h)).1
    have e2 := (Prod.mk.inj (Option.some.inj h)).2
    subst e1
    subst e2
    exact Rn.iret n35_72 mr35
  rw [if_neg hs7] at h
  by_cases hs8 : v0 = 6
  · rw [if_pos hs8] at h
    refine Rn.sw (pc' := 57) n35_1 (by rw [hs8]; rfl) ?_
    refine Rn.iload_n n35_57 l1 ?_
    by_cases hc9 : mc1 .eq v1 = true
    · rw [if_pos hc9] at h
      refine Rn.c1t (t := 66) n35_58 (by decide) hc9 ?_
      refine Rn.ic (v := (-1)) n35_66 (by decide) ?_
      exact t35_67 hd F  _ lv _ _ _  ok hn   h
    · rw [if_neg hc9] at h
      refine Rn.c1f (t := 66) n35_58 (by decide) hc9 ?_
      refine Rn.bp (v := (-3)) n35_61 (by decide) ?_
      refine Rn.goto (t := 67) n35_63 (by decide) ?_
      exact t35_67 hd F  _ lv _ _ _  ok hn   h
  rw [if_neg hs8] at h
  refine Rn.sw (pc' := 71) n35_1 (mtab_out (tsw_out (n := 6) (by decide) (fun j hj => by rcases (show j = 0 ∨ j = 1 ∨ j = 2 ∨ j = 3 ∨ j = 4 ∨ j = 5 ∨ j = 6 by omega) with rfl | rfl | rfl | rfl | rfl | rfl | rfl <;> first | exact hs1 | exact hs2 | exact hs3 | exact hs4 | exact hs5 | exact hs7 | exact hs8)) (by decide)) ?_
  refine Rn.ic (v := 0) n35_71 (by decide) ?_
  have e1 := (Prod.mk.inj (Option.some.inj h)).1
  have e2 := (Prod.mk.inj (Option.some.inj h)).2
  subst e1
  subst e2
  exact Rn.iret n35_72 mr35
def e35 (F : Nat) (a0 : Int32) (a1 : Int32) (hp : List mE) : Option (Int32 × List mE) := m35_0 F a0 a1 hp
theorem c35 {d : Nat} (hd : 0 ≤ d) (F : Nat) (a0 : Int32) (a1 : Int32) (hp : List mE) (v : Int32) (hp' : List mE) (h : e35 F a0 a1 hp = some (v, hp')) : Rn d 35 0 (lv_args 0 [.int a0, .int a1]) [] hp 0 0 (some (.int v), hp', 0, 0) :=
  t35_0 (n := hp.length) hd F a0 a1 (lv_args 0 [.int a0, .int a1]) hp v hp' rfl rfl (lvk_args (okc rfl (okc rfl okn))) rfl  h
/-! MirrorRoots$Mirrors.setPair -/
def m34_43 (F : Nat) (t0 : Nat) (t1 : Int32) (t2 : Int32) (hp : List mE) : Option (Unit × List mE) :=
  (wrI hp t0 t1 t2).bind fun hp1 =>
  some ((), hp1)
theorem t34_43 {d c w n : Nat} (hd : 1 ≤ d) (F : Nat) : ∀ (t0 : Nat) (t1 : Int32) (t2 : Int32) (lv : List (Nat × Value)) (hp : List mE) (v : Unit) (hp' : List mE), lvk n lv → hp.length = n → t0 < n → m34_43 F t0 t1 t2 hp = some (v, hp') → Rn d 34 43 lv [.int t2, .int t1, .ref t0] hp c w (none, hp', c, w) := by
  obtain ⟨d', rfl⟩ : ∃ d', d = d' + 1 := ⟨d - 1, by omega⟩
  intro t0 t1 t2 lv hp v hp' ok hn r_t0 h
  unfold m34_43 at h
  obtain ⟨hp1, hhp1, h⟩ := Option.bind_eq_some_iff.mp h
  refine Rn.iast n34_43 hhp1 ?_
  have hn := (wrI_st (st := []) hhp1).2.trans hn
  have e1 := (Prod.mk.inj (Option.some.inj h)).1
  have e2 := (Prod.mk.inj (Option.some.inj h)).2
  subst e1
  subst e2
  exact Rn.vret n34_44 mr34
def m34_40 (F : Nat) (t0 : Nat) (t1 : Int32) (t2 : Int32) (t3 : Int32) (hp : List mE) : Option (Unit × List mE) :=
  (e35 F t2 t3 hp).bind fun q1 =>
  m34_43 F t0 t1 q1.1 q1.2
theorem t34_40 {d c w n : Nat} (hd : 1 ≤ d) (F : Nat) : ∀ (t0 : Nat) (t1 : Int32) (t2 : Int32) (t3 : Int32) (lv : List (Nat × Value)) (hp : List mE) (v : Unit) (hp' : List mE), lvk n lv → hp.length = n → t0 < n → m34_40 F t0 t1 t2 t3 hp = some (v, hp') → Rn d 34 40 lv [.int t3, .int t2, .int t1, .ref t0] hp c w (none, hp', c, w) := by
  obtain ⟨d', rfl⟩ : ∃ d', d = d' + 1 := ⟨d - 1, by omega⟩
  intro t0 t1 t2 t3 lv hp v hp' ok hn r_t0 h
  unfold m34_40 at h
  obtain ⟨q1, hq1, h⟩ := Option.bind_eq_some_iff.mp h
  have gq1 := c35 (d := d') (by omega) F _ _ _ _ _  hq1
  refine Rn.cs (as := [.int t2, .int t3]) (rr := [.int t1, .ref t0]) n34_40 mo34 mm3_30 mq35 rfl rfl rfl rfl (Nat.le_of_ble_eq_true rfl) (by rw [hn]; exact (okc rfl (okc rfl okn))) (by rw [hn]; exact (okc rfl (okc (okr r_t0) okn))) (by rw [hn]; exact ok) (by rw [ml35]; exact Nat.le_of_ble_eq_true rfl) gq1 ?_
  have hn := (Rn.len gq1).trans hn
  show Rn _ 34 43 lv [.int q1.1, .int t1, .ref t0] q1.2 c w _
  exact t34_43 hd F  _ _ _ lv _ _ _  ok hn  r_t0 h
def m34_0 (F : Nat) (v0 : Nat) (v1 : Int32) (v2 : Int32) (v3 : Int32) (hp : List mE) : Option (Unit × List mE) :=
  (gfr 3 1 hp v0).bind fun x1 =>
  (wrI hp x1 ((v1 * 5) + v2) v3).bind fun hp2 =>
  (gfr 3 2 hp2 v0).bind fun x3 =>
  if mc2 .ne v1 v2 = true then
    if mc2 .ge v1 v2 = true then
      m34_40 F x3 ((v1 * 5) + v2) v3 0 hp2
    else
      m34_40 F x3 ((v1 * 5) + v2) v3 1 hp2
  else
    m34_43 F x3 ((v1 * 5) + v2) 2 hp2
theorem t34_0 {d c w n : Nat} (hd : 1 ≤ d) (F : Nat) : ∀ (v0 : Nat) (v1 : Int32) (v2 : Int32) (v3 : Int32) (lv : List (Nat × Value)) (hp : List mE) (v : Unit) (hp' : List mE), alk 0 lv = some (.ref v0) → alk 1 lv = some (.int v1) → alk 2 lv = some (.int v2) → alk 3 lv = some (.int v3) → lvk n lv → hp.length = n → v0 < n → m34_0 F v0 v1 v2 v3 hp = some (v, hp') → Rn d 34 0 lv [] hp c w (none, hp', c, w) := by
  obtain ⟨d', rfl⟩ : ∃ d', d = d' + 1 := ⟨d - 1, by omega⟩
  intro v0 v1 v2 v3 lv hp v hp' l0 l1 l2 l3 ok hn r_v0 h
  unfold m34_0 at h
  refine Rn.aload_n n34_0 l0 ?_
  obtain ⟨x1, hx1, h⟩ := Option.bind_eq_some_iff.mp h
  refine Rn.gf n34_1 mo34 fl3_9 (gfr_v hx1).1 ?_
  have r_x1 : x1 < n := by rw [← hn]; exact (gfr_v hx1).2
  refine Rn.iload_n n34_4 l1 ?_
  refine Rn.ic (v := 5) n34_5 (by decide) ?_
  refine Rn.p n34_6 rfl ?_
  refine Rn.iload_n n34_7 l2 ?_
  refine Rn.p n34_8 rfl ?_
  refine Rn.iload_n n34_9 l3 ?_
  obtain ⟨hp2, hhp2, h⟩ := Option.bind_eq_some_iff.mp h
  refine Rn.iast n34_10 hhp2 ?_
  have hn := (wrI_st (st := []) hhp2).2.trans hn
  refine Rn.aload_n n34_11 l0 ?_
  obtain ⟨x3, hx3, h⟩ := Option.bind_eq_some_iff.mp h
  refine Rn.gf n34_12 mo34 fl3_15 (gfr_v hx3).1 ?_
  have r_x3 : x3 < n := by rw [← hn]; exact (gfr_v hx3).2
  refine Rn.iload_n n34_15 l1 ?_
  refine Rn.ic (v := 5) n34_16 (by decide) ?_
  refine Rn.p n34_17 rfl ?_
  refine Rn.iload_n n34_18 l2 ?_
  refine Rn.p n34_19 rfl ?_
  refine Rn.iload_n n34_20 l1 ?_
  refine Rn.iload_n n34_21 l2 ?_
  by_cases hc4 : mc2 .ne v1 v2 = true
  · rw [if_pos hc4] at h
    refine Rn.c2t (t := 29) n34_22 (by decide) hc4 ?_
    refine Rn.iload_n n34_29 l3 ?_
    refine Rn.iload_n n34_30 l1 ?_
    refine Rn.iload_n n34_31 l2 ?_
    by_cases hc5 : mc2 .ge v1 v2 = true
    · rw [if_pos hc5] at h
      refine Rn.c2t (t := 39) n34_32 (by decide) hc5 ?_
      refine Rn.ic (v := 0) n34_39 (by decide) ?_
      exact t34_40 hd F  _ _ _ _ lv _ _ _  ok hn  r_x3 h
    · rw [if_neg hc5] at h
      refine Rn.c2f (t := 39) n34_32 (by decide) hc5 ?_
      refine Rn.ic (v := 1) n34_35 (by decide) ?_
      refine Rn.goto (t := 40) n34_36 (by decide) ?_
      exact t34_40 hd F  _ _ _ _ lv _ _ _  ok hn  r_x3 h
  · rw [if_neg hc4] at h
    refine Rn.c2f (t := 29) n34_22 (by decide) hc4 ?_
    refine Rn.ic (v := 2) n34_25 (by decide) ?_
    refine Rn.goto (t := 43) n34_26 (by decide) ?_
    exact t34_43 hd F  _ _ _ lv _ _ _  ok hn  r_x3 h
def e34 (F : Nat) (a0 : Nat) (a1 : Int32) (a2 : Int32) (a3 : Int32) (hp : List mE) : Option (Unit × List mE) := m34_0 F a0 a1 a2 a3 hp
theorem c34 {d : Nat} (hd : 1 ≤ d) (F : Nat) (a0 : Nat) (a1 : Int32) (a2 : Int32) (a3 : Int32) (hp : List mE) (v : Unit) (hp' : List mE) (ra0 : a0 < hp.length) (h : e34 F a0 a1 a2 a3 hp = some (v, hp')) : Rn d 34 0 (lv_args 0 [.ref a0, .int a1, .int a2, .int a3]) [] hp 0 0 (none, hp', 0, 0) :=
  t34_0 (n := hp.length) hd F a0 a1 a2 a3 (lv_args 0 [.ref a0, .int a1, .int a2, .int a3]) hp v hp' rfl rfl rfl rfl (lvk_args (okc (okr ra0) (okc rfl (okc rfl (okc rfl okn))))) rfl ra0 h
/-! MirrorRoots$Mirrors.become -/
def m33_43 (F : Nat) (rc7 : Nat → Int32 → Nat → Int32 → List mE → Option (Unit × List mE)) (rc15 : Nat → Int32 → Nat → Int32 → Int32 → List mE → Option (Unit × List mE)) (v0 : Nat) (v1 : Int32) (v2 : Nat) (v3 : Int32) (v4 : Int32) (t0 : Nat) (t1 : Int32) (t2 : Int32) (t3 : Int32) (hp : List mE) : Option (Unit × List mE) :=
  (rcv 3 hp t0).bind fun u2 =>
  (e34 F t0 t1 t2 t3 hp).bind fun q1 =>
  rc15 v0 v1 v2 v3 (v4 + 1) q1.2
theorem t33_43 {d c w n : Nat} (hd : 2 ≤ d) (F : Nat) {rc7 : Nat → Int32 → Nat → Int32 → List mE → Option (Unit × List mE)} {rc15 : Nat → Int32 → Nat → Int32 → Int32 → List mE → Option (Unit × List mE)} (hr7 : ∀ (v0 : Nat) (v1 : Int32) (v2 : Nat) (v3 : Int32) (lv : List (Nat × Value)) (hp : List mE) (v : Unit) (hp' : List mE), alk 0 lv = some (.ref v0) → alk 1 lv = some (.int v1) → alk 2 lv = some (.ref v2) → alk 3 lv = some (.int v3) → lvk n lv → hp.length = n → v0 < n → v2 < n → rc7 v0 v1 v2 v3 hp = some (v, hp') → Rn d 33 7 lv [] hp c w (none, hp', c, w)) (hr15 : ∀ (v0 : Nat) (v1 : Int32) (v2 : Nat) (v3 : Int32) (v4 : Int32) (lv : List (Nat × Value)) (hp : List mE) (v : Unit) (hp' : List mE), alk 0 lv = some (.ref v0) → alk 1 lv = some (.int v1) → alk 2 lv = some (.ref v2) → alk 3 lv = some (.int v3) → alk 4 lv = some (.int v4) → lvk n lv → hp.length = n → v0 < n → v2 < n → rc15 v0 v1 v2 v3 v4 hp = some (v, hp') → Rn d 33 15 lv [] hp c w (none, hp', c, w)) : ∀ (v0 : Nat) (v1 : Int32) (v2 : Nat) (v3 : Int32) (v4 : Int32) (t0 : Nat) (t1 : Int32) (t2 : Int32) (t3 : Int32) (lv : List (Nat × Value)) (hp : List mE) (v : Unit) (hp' : List mE), alk 0 lv = some (.ref v0) → alk 1 lv = some (.int v1) → alk 2 lv = some (.ref v2) → alk 3 lv = some (.int v3) → alk 4 lv = some (.int v4) → lvk n lv → hp.length = n → v0 < n → v2 < n → t0 < n → m33_43 F rc7 rc15 v0 v1 v2 v3 v4 t0 t1 t2 t3 hp = some (v, hp') → Rn d 33 43 lv [.int t3, .int t2, .int t1, .ref t0] hp c w (none, hp', c, w) := by
  obtain ⟨d', rfl⟩ : ∃ d', d = d' + 1 := ⟨d - 1, by omega⟩
  intro v0 v1 v2 v3 v4 t0 t1 t2 t3 lv hp v hp' l0 l1 l2 l3 l4 ok hn r_v0 r_v2 r_t0 h
  unfold m33_43 at h
  obtain ⟨u2, hu2, h⟩ := Option.bind_eq_some_iff.mp h
  obtain ⟨q1, hq1, h⟩ := Option.bind_eq_some_iff.mp h
  have gq1 := c34 (d := d') (by omega) F _ _ _ _ _ _ _ (by rw [hn]; exact r_t0) hq1
  refine Rn.cv (As := [.int t1, .int t2, .int t3]) (rr := []) n33_43 mo33 mm3_26 (by decide) mq34 rfl rfl rfl rfl (by rw [mo34]; exact hu2) (Nat.le_of_ble_eq_true rfl) (by rw [hn]; exact (okc (okr r_t0) (okc rfl (okc rfl (okc rfl okn))))) (by rw [hn]; exact okn) (by rw [hn]; exact ok) (by rw [ml34]; exact Nat.le_of_ble_eq_true rfl) gq1 ?_
  have hn := (Rn.len gq1).trans hn
  show Rn _ 33 46 lv [] q1.2 c w _
  refine Rn.ii (m := n) (u := 1) n33_46 ml33 (by decide) (by decide) l4 (fun lv l4 hk hok => ?_)
  have l0 := hk 0 _ (by decide) (Or.inl rfl) l0
  have l1 := hk 1 _ (by decide) (Or.inl rfl) l1
  have l2 := hk 2 _ (by decide) (Or.inl rfl) l2
  have l3 := hk 3 _ (by decide) (Or.inl rfl) l3
  have ok := hok ok
  refine Rn.goto (t := 15) n33_49 (by decide) ?_
  exact hr15 _ _ _ _ _ lv _ _ _ l0 l1 l2 l3 l4 ok hn r_v0 r_v2  h
def m33_15 (F : Nat) (rc7 : Nat → Int32 → Nat → Int32 → List mE → Option (Unit × List mE)) : Nat → Nat → Int32 → Nat → Int32 → Int32 → List mE → Option (Unit × List mE)
  | 0, _, _, _, _, _, _ => none
  | f + 1, v0, v1, v2, v3, v4, hp =>
    if mc2 .ge v4 v1 = true then
      rc7 v0 v1 v2 (v3 + 1) hp
    else
      if mc2 .ne v3 v4 = true then
        (rdI hp v2 ((v3 * 5) + v4)).bind fun x3 =>
        m33_43 F rc7 (m33_15 F rc7 f) v0 v1 v2 v3 v4 v0 v3 v4 x3 hp
      else
        m33_43 F rc7 (m33_15 F rc7 f) v0 v1 v2 v3 v4 v0 v3 v4 1 hp
theorem t33_15 {d c w n : Nat} (hd : 2 ≤ d) (F : Nat) {rc7 : Nat → Int32 → Nat → Int32 → List mE → Option (Unit × List mE)} (hr7 : ∀ (v0 : Nat) (v1 : Int32) (v2 : Nat) (v3 : Int32) (lv : List (Nat × Value)) (hp : List mE) (v : Unit) (hp' : List mE), alk 0 lv = some (.ref v0) → alk 1 lv = some (.int v1) → alk 2 lv = some (.ref v2) → alk 3 lv = some (.int v3) → lvk n lv → hp.length = n → v0 < n → v2 < n → rc7 v0 v1 v2 v3 hp = some (v, hp') → Rn d 33 7 lv [] hp c w (none, hp', c, w)) : ∀ f : Nat, ∀ (v0 : Nat) (v1 : Int32) (v2 : Nat) (v3 : Int32) (v4 : Int32) (lv : List (Nat × Value)) (hp : List mE) (v : Unit) (hp' : List mE), alk 0 lv = some (.ref v0) → alk 1 lv = some (.int v1) → alk 2 lv = some (.ref v2) → alk 3 lv = some (.int v3) → alk 4 lv = some (.int v4) → lvk n lv → hp.length = n → v0 < n → v2 < n → m33_15 F rc7 f v0 v1 v2 v3 v4 hp = some (v, hp') → Rn d 33 15 lv [] hp c w (none, hp', c, w) := by
  obtain ⟨d', rfl⟩ : ∃ d', d = d' + 1 := ⟨d - 1, by omega⟩
  intro f
  induction f with
  | zero => intro v0 v1 v2 v3 v4 lv hp v hp' l0 l1 l2 l3 l4 ok hn r_v0 r_v2 h; cases h
  | succ f hr15 =>
    intro v0 v1 v2 v3 v4 lv hp v hp' l0 l1 l2 l3 l4 ok hn r_v0 r_v2 h
    unfold m33_15 at h
    refine Rn.iload n33_15 l4 ?_
    refine Rn.iload_n n33_17 l1 ?_
    by_cases hc1 : mc2 .ge v4 v1 = true
    · rw [if_pos hc1] at h
      refine Rn.c2t (t := 52) n33_18 (by decide) hc1 ?_
      refine Rn.ii (m := n) (u := 1) n33_52 ml33 (by decide) (by decide) l3 (fun lv l3 hk hok => ?_)
      have l0 := hk 0 _ (by decide) (Or.inl rfl) l0
      have l1 := hk 1 _ (by decide) (Or.inl rfl) l1
      have l2 := hk 2 _ (by decide) (Or.inl rfl) l2
      have l4 := hk 4 _ (by decide) (Or.inl rfl) l4
      have ok := hok ok
      refine Rn.goto (t := 7) n33_55 (by decide) ?_
      exact hr7 _ _ _ _ lv _ _ _ l0 l1 l2 l3 ok hn r_v0 r_v2  h
    · rw [if_neg hc1] at h
      refine Rn.c2f (t := 52) n33_18 (by decide) hc1 ?_
      refine Rn.aload_n n33_21 l0 ?_
      refine Rn.iload_n n33_22 l3 ?_
      refine Rn.iload n33_23 l4 ?_
      refine Rn.iload_n n33_25 l3 ?_
      refine Rn.iload n33_26 l4 ?_
      by_cases hc2 : mc2 .ne v3 v4 = true
      · rw [if_pos hc2] at h
        refine Rn.c2t (t := 35) n33_28 (by decide) hc2 ?_
        refine Rn.aload_n n33_35 l2 ?_
        refine Rn.iload_n n33_36 l3 ?_
        refine Rn.ic (v := 5) n33_37 (by decide) ?_
        refine Rn.p n33_38 rfl ?_
        refine Rn.iload n33_39 l4 ?_
        refine Rn.p n33_41 rfl ?_
        obtain ⟨x3, hx3, h⟩ := Option.bind_eq_some_iff.mp h
        refine Rn.iald n33_42 hx3 ?_
        exact t33_43 hd F hr7 hr15 _ _ _ _ _ _ _ _ _ lv _ _ _ l0 l1 l2 l3 l4 ok hn r_v0 r_v2 r_v0 h
      · rw [if_neg hc2] at h
        refine Rn.c2f (t := 35) n33_28 (by decide) hc2 ?_
        refine Rn.ic (v := 1) n33_31 (by decide) ?_
        refine Rn.goto (t := 43) n33_32 (by decide) ?_
        exact t33_43 hd F hr7 hr15 _ _ _ _ _ _ _ _ _ lv _ _ _ l0 l1 l2 l3 l4 ok hn r_v0 r_v2 r_v0 h
def m33_7 (F : Nat) : Nat → Nat → Int32 → Nat → Int32 → List mE → Option (Unit × List mE)
  | 0, _, _, _, _, _ => none
  | f + 1, v0, v1, v2, v3, hp =>
    if mc2 .ge v3 v1 = true then
      some ((), hp)
    else
      m33_15 F (m33_7 F f) F v0 v1 v2 v3 0 hp
theorem t33_7 {d c w n : Nat} (hd : 2 ≤ d) (F : Nat) : ∀ f : Nat, ∀ (v0 : Nat) (v1 : Int32) (v2 : Nat) (v3 : Int32) (lv : List (Nat × Value)) (hp : List mE) (v : Unit) (hp' : List mE), alk 0 lv = some (.ref v0) → alk 1 lv = some (.int v1) → alk 2 lv = some (.ref v2) → alk 3 lv = some (.int v3) → lvk n lv → hp.length = n → v0 < n → v2 < n → m33_7 F f v0 v1 v2 v3 hp = some (v, hp') → Rn d 33 7 lv [] hp c w (none, hp', c, w) := by
  obtain ⟨d', rfl⟩ : ∃ d', d = d' + 1 := ⟨d - 1, by omega⟩
  intro f
  induction f with
  | zero => intro v0 v1 v2 v3 lv hp v hp' l0 l1 l2 l3 ok hn r_v0 r_v2 h; cases h
  | succ f hr7 =>
    intro v0 v1 v2 v3 lv hp v hp' l0 l1 l2 l3 ok hn r_v0 r_v2 h
    unfold m33_7 at h
    refine Rn.iload_n n33_7 l3 ?_
    refine Rn.iload_n n33_8 l1 ?_
    by_cases hc1 : mc2 .ge v3 v1 = true
    · rw [if_pos hc1] at h
      refine Rn.c2t (t := 58) n33_9 (by decide) hc1 ?_
      have e1 := (Prod.mk.inj (Option.some.inj h)).1
      have e2 := (Prod.mk.inj (Option.some.inj h)).2
      subst e1
      subst e2
      exact Rn.vret n33_58 mr33
    · rw [if_neg hc1] at h
      refine Rn.c2f (t := 58) n33_9 (by decide) hc1 ?_
      refine Rn.ic (v := 0) n33_12 (by decide) ?_
      refine Rn.is (m := n) n33_13 ml33 (by decide) (fun lv l4 hk hok => ?_)
      have l0 := hk 0 _ (by decide) (Or.inl rfl) l0
      have l1 := hk 1 _ (by decide) (Or.inl rfl) l1
      have l2 := hk 2 _ (by decide) (Or.inl rfl) l2
      have l3 := hk 3 _ (by decide) (Or.inl rfl) l3
      have ok := hok ok
      exact t33_15 hd F hr7 F _ _ _ _ _ lv _ _ _ l0 l1 l2 l3 l4 ok hn r_v0 r_v2  h
def m33_0 (F : Nat) (v0 : Nat) (v1 : Int32) (v2 : Nat) (hp : List mE) : Option (Unit × List mE) :=
  (pfv 3 0 hp v0 (.int v1)).bind fun hp1 =>
  m33_7 F F v0 v1 v2 0 hp1
theorem t33_0 {d c w n : Nat} (hd : 2 ≤ d) (F : Nat) : ∀ (v0 : Nat) (v1 : Int32) (v2 : Nat) (lv : List (Nat × Value)) (hp : List mE) (v : Unit) (hp' : List mE), alk 0 lv = some (.ref v0) → alk 1 lv = some (.int v1) → alk 2 lv = some (.ref v2) → lvk n lv → hp.length = n → v0 < n → v2 < n → m33_0 F v0 v1 v2 hp = some (v, hp') → Rn d 33 0 lv [] hp c w (none, hp', c, w) := by
  obtain ⟨d', rfl⟩ : ∃ d', d = d' + 1 := ⟨d - 1, by omega⟩
  intro v0 v1 v2 lv hp v hp' l0 l1 l2 ok hn r_v0 r_v2 h
  unfold m33_0 at h
  refine Rn.aload_n n33_0 l0 ?_
  refine Rn.iload_n n33_1 l1 ?_
  obtain ⟨hp1, hhp1, h⟩ := Option.bind_eq_some_iff.mp h
  refine Rn.pf n33_2 mo33 fl3_18 ft3_0 rfl ff3_0 (fun _ _ hh => by cases hh) hhp1 ?_
  have hn := (pfv_len hhp1).trans hn
  refine Rn.ic (v := 0) n33_5 (by decide) ?_
  refine Rn.isn (m := n) n33_6 rfl ml33 (by decide) (fun lv l3 hk hok => ?_)
  have l0 := hk 0 _ (by decide) (Or.inl rfl) l0
  have l1 := hk 1 _ (by decide) (Or.inl rfl) l1
  have l2 := hk 2 _ (by decide) (Or.inl rfl) l2
  have ok := hok ok
  exact t33_7 hd F  F _ _ _ _ lv _ _ _ l0 l1 l2 l3 ok hn r_v0 r_v2  h
def e33 (F : Nat) (a0 : Nat) (a1 : Int32) (a2 : Nat) (hp : List mE) : Option (Unit × List mE) := m33_0 F a0 a1 a2 hp
theorem c33 {d : Nat} (hd : 2 ≤ d) (F : Nat) (a0 : Nat) (a1 : Int32) (a2 : Nat) (hp : List mE) (v : Unit) (hp' : List mE) (ra0 : a0 < hp.length) (ra2 : a2 < hp.length) (h : e33 F a0 a1 a2 hp = some (v, hp')) : Rn d 33 0 (lv_args 0 [.ref a0, .int a1, .ref a2]) [] hp 0 0 (none, hp', 0, 0) :=
  t33_0 (n := hp.length) hd F a0 a1 a2 (lv_args 0 [.ref a0, .int a1, .ref a2]) hp v hp' rfl rfl rfl (lvk_args (okc (okr ra0) (okc rfl (okc (okr ra2) okn)))) rfl ra0 ra2 h
/-! MirrorRoots$Mirrors.has -/
def m36_17 (F : Nat) (t0 : Int32) (hp : List mE) : Option (Int32 × List mE) :=
  if t0 = 0 ∨ t0 = 1 then some (t0, hp) else none
theorem t36_17 {d c w n : Nat} (hd : 0 ≤ d) (F : Nat) : ∀ (t0 : Int32) (lv : List (Nat × Value)) (hp : List mE) (v : Int32) (hp' : List mE), lvk n lv → hp.length = n → m36_17 F t0 hp = some (v, hp') → Rn d 36 17 lv [.int t0] hp c w (some (.int v), hp', c, w) := by
  intro t0 lv hp v hp' ok hn h
  unfold m36_17 at h
  by_cases hz1 : t0 = 0 ∨ t0 = 1
  · rw [if_pos hz1] at h
    have e1 := (Prod.mk.inj (Option.some.inj h)).1
    have e2 := (Prod.mk.inj (Option.some.inj h)).2
    subst e1
    subst e2
    exact Rn.zret n36_17 mr36 hz1
  · rw [if_neg hz1] at h; cases h
def m36_16 (F : Nat) (hp : List mE) : Option (Int32 × List mE) :=
  m36_17 F 0 hp
theorem t36_16 {d c w n : Nat} (hd : 0 ≤ d) (F : Nat) : ∀ (lv : List (Nat × Value)) (hp : List mE) (v : Int32) (hp' : List mE), lvk n lv → hp.length = n → m36_16 F hp = some (v, hp') → Rn d 36 16 lv [] hp c w (some (.int v), hp', c, w) := by
  intro lv hp v hp' ok hn h
  unfold m36_16 at h
  refine Rn.ic (v := 0) n36_16 (by decide) ?_
  exact t36_17 hd F  _ lv _ _ _  ok hn   h
def m36_0 (F : Nat) (v0 : Nat) (v1 : Int32) (hp : List mE) : Option (Int32 × List mE) :=
  if mc1 .lt v1 = true then
    m36_16 F hp
  else
    (gfi 3 0 hp v0).bind fun x2 =>
    if mc2 .ge v1 x2 = true then
      m36_16 F hp
    else
      m36_17 F 1 hp
theorem t36_0 {d c w n : Nat} (hd : 0 ≤ d) (F : Nat) : ∀ (v0 : Nat) (v1 : Int32) (lv : List (Nat × Value)) (hp : List mE) (v : Int32) (hp' : List mE), alk 0 lv = some (.ref v0) → alk 1 lv = some (.int v1) → lvk n lv → hp.length = n → v0 < n → m36_0 F v0 v1 hp = some (v, hp') → Rn d 36 0 lv [] hp c w (some (.int v), hp', c, w) := by
  intro v0 v1 lv hp v hp' l0 l1 ok hn r_v0 h
  unfold m36_0 at h
  refine Rn.iload_n n36_0 l1 ?_
  by_cases hc1 : mc1 .lt v1 = true
  · rw [if_pos hc1] at h
    refine Rn.c1t (t := 16) n36_1 (by decide) hc1 ?_
    exact t36_16 hd F  lv _ _ _  ok hn   h
  · rw [if_neg hc1] at h
    refine Rn.c1f (t := 16) n36_1 (by decide) hc1 ?_
    refine Rn.iload_n n36_4 l1 ?_
    refine Rn.aload_n n36_5 l0 ?_
    obtain ⟨x2, hx2, h⟩ := Option.bind_eq_some_iff.mp h
    refine Rn.gf n36_6 mo36 fl3_18 (gfi_v hx2) ?_
    by_cases hc3 : mc2 .ge v1 x2 = true
    · rw [if_pos hc3] at h
      refine Rn.c2t (t := 16) n36_9 (by decide) hc3 ?_
      exact t36_16 hd F  lv _ _ _  ok hn   h
    · rw [if_neg hc3] at h
      refine Rn.c2f (t := 16) n36_9 (by decide) hc3 ?_
      refine Rn.ic (v := 1) n36_12 (by decide) ?_
      refine Rn.goto (t := 17) n36_13 (by decide) ?_
      exact t36_17 hd F  _ lv _ _ _  ok hn   h
def e36 (F : Nat) (a0 : Nat) (a1 : Int32) (hp : List mE) : Option (Int32 × List mE) := m36_0 F a0 a1 hp
theorem c36 {d : Nat} (hd : 0 ≤ d) (F : Nat) (a0 : Nat) (a1 : Int32) (hp : List mE) (v : Int32) (hp' : List mE) (ra0 : a0 < hp.length) (h : e36 F a0 a1 hp = some (v, hp')) : Rn d 36 0 (lv_args 0 [.ref a0, .int a1]) [] hp 0 0 (some (.int v), hp', 0, 0) :=
  t36_0 (n := hp.length) hd F a0 a1 (lv_args 0 [.ref a0, .int a1]) hp v hp' rfl rfl (lvk_args (okc (okr ra0) (okc rfl okn))) rfl ra0 h
/-! MirrorRoots$Mirrors.hasSet -/
def m37_19 (F : Nat) (t0 : Int32) (hp : List mE) : Option (Int32 × List mE) :=
  if t0 = 0 ∨ t0 = 1 then some (t0, hp) else none
theorem t37_19 {d c w n : Nat} (hd : 0 ≤ d) (F : Nat) : ∀ (t0 : Int32) (lv : List (Nat × Value)) (hp : List mE) (v : Int32) (hp' : List mE), lvk n lv → hp.length = n → m37_19 F t0 hp = some (v, hp') → Rn d 37 19 lv [.int t0] hp c w (some (.int v), hp', c, w) := by
  intro t0 lv hp v hp' ok hn h
  unfold m37_19 at h
  by_cases hz1 : t0 = 0 ∨ t0 = 1
  · rw [if_pos hz1] at h
    have e1 := (Prod.mk.inj (Option.some.inj h)).1
    have e2 := (Prod.mk.inj (Option.some.inj h)).2
    subst e1
    subst e2
    exact Rn.zret n37_19 mr37 hz1
  · rw [if_neg hz1] at h; cases h
def m37_18 (F : Nat) (hp : List mE) : Option (Int32 × List mE) :=
  m37_19 F 0 hp
theorem t37_18 {d c w n : Nat} (hd : 0 ≤ d) (F : Nat) : ∀ (lv : List (Nat × Value)) (hp : List mE) (v : Int32) (hp' : List mE), lvk n lv → hp.length = n → m37_18 F hp = some (v, hp') → Rn d 37 18 lv [] hp c w (some (.int v), hp', c, w) := by
  intro lv hp v hp' ok hn h
  unfold m37_18 at h
  refine Rn.ic (v := 0) n37_18 (by decide) ?_
  exact t37_19 hd F  _ lv _ _ _  ok hn   h
def m37_0 (F : Nat) (v0 : Nat) (v1 : Int32) (hp : List mE) : Option (Int32 × List mE) :=
  if mc1 .lt v1 = true then
    m37_18 F hp
  else
    (gfi 3 0 hp v0).bind fun x2 =>
    if mc2 .ge v1 (1 <<< (x2 &&& 31)) = true then
      m37_18 F hp
    else
      m37_19 F 1 hp
theorem t37_0 {d c w n : Nat} (hd : 0 ≤ d) (F : Nat) : ∀ (v0 : Nat) (v1 : Int32) (lv : List (Nat × Value)) (hp : List mE) (v : Int32) (hp' : List mE), alk 0 lv = some (.ref v0) → alk 1 lv = some (.int v1) → lvk n lv → hp.length = n → v0 < n → m37_0 F v0 v1 hp = some (v, hp') → Rn d 37 0 lv [] hp c w (some (.int v), hp', c, w) := by
  intro v0 v1 lv hp v hp' l0 l1 ok hn r_v0 h
  unfold m37_0 at h
  refine Rn.iload_n n37_0 l1 ?_
  by_cases hc1 : mc1 .lt v1 = true
  · rw [if_pos hc1] at h
    refine Rn.c1t (t := 18) n37_1 (by decide) hc1 ?_
    exact t37_18 hd F  lv _ _ _  ok hn   h
  · rw [if_neg hc1] at h
    refine Rn.c1f (t := 18) n37_1 (by decide) hc1 ?_
    refine Rn.iload_n n37_4 l1 ?_
    refine Rn.ic (v := 1) n37_5 (by decide) ?_
    refine Rn.aload_n n37_6 l0 ?_
    obtain ⟨x2, hx2, h⟩ := Option.bind_eq_some_iff.mp h
    refine Rn.gf n37_7 mo37 fl3_18 (gfi_v hx2) ?_
    refine Rn.p n37_10 rfl ?_
    by_cases hc3 : mc2 .ge v1 (1 <<< (x2 &&& 31)) = true
    · rw [if_pos hc3] at h
      refine Rn.c2t (t := 18) n37_11 (by decide) hc3 ?_
      exact t37_18 hd F  lv _ _ _  ok hn   h
    · rw [if_neg hc3] at h
      refine Rn.c2f (t := 18) n37_11 (by decide) hc3 ?_
      refine Rn.ic (v := 1) n37_14 (by decide) ?_
      refine Rn.goto (t := 19) n37_15 (by decide) ?_
      exact t37_19 hd F  _ lv _ _ _  ok hn   h
def e37 (F : Nat) (a0 : Nat) (a1 : Int32) (hp : List mE) : Option (Int32 × List mE) := m37_0 F a0 a1 hp
theorem c37 {d : Nat} (hd : 0 ≤ d) (F : Nat) (a0 : Nat) (a1 : Int32) (hp : List mE) (v : Int32) (hp' : List mE) (ra0 : a0 < hp.length) (h : e37 F a0 a1 hp = some (v, hp')) : Rn d 37 0 (lv_args 0 [.ref a0, .int a1]) [] hp 0 0 (some (.int v), hp', 0, 0) :=
  t37_0 (n := hp.length) hd F a0 a1 (lv_args 0 [.ref a0, .int a1]) hp v hp' rfl rfl (lvk_args (okc (okr ra0) (okc rfl okn))) rfl ra0 h
/-! MirrorRoots$Mirrors.startRoot -/
def m38_28 (F : Nat) (rc3 : Nat → Nat → Int32 → Int32 → Int32 → List mE → Option (Unit × List mE)) (v0 : Nat) (v1 : Nat) (v2 : Int32) (v3 : Int32) (v4 : Int32) (t0 : Nat) (t1 : Int32) (t2 : Int64) (hp : List mE) : Option (Unit × List mE) :=
  (wrJ hp t0 t1 t2).bind fun hp1 =>
  rc3 v0 v1 v2 v3 (v4 + 1) hp1
theorem t38_28 {d c w n : Nat} (hd : 0 ≤ d) (F : Nat) {rc3 : Nat → Nat → Int32 → Int32 → Int32 → List mE → Option (Unit × List mE)} (hr3 : ∀ (v0 : Nat) (v1 : Nat) (v2 : Int32) (v3 : Int32) (v4 : Int32) (lv : List (Nat × Value)) (hp : List mE) (v : Unit) (hp' : List mE), alk 0 lv = some (.ref v0) → alk 1 lv = some (.ref v1) → alk 2 lv = some (.int v2) → alk 3 lv = some (.int v3) → alk 4 lv = some (.int v4) → lvk n lv → hp.length = n → v0 < n → v1 < n → rc3 v0 v1 v2 v3 v4 hp = some (v, hp') → Rn d 38 3 lv [] hp c w (none, hp', c, w)) : ∀ (v0 : Nat) (v1 : Nat) (v2 : Int32) (v3 : Int32) (v4 : Int32) (t0 : Nat) (t1 : Int32) (t2 : Int64) (lv : List (Nat × Value)) (hp : List mE) (v : Unit) (hp' : List mE), alk 0 lv = some (.ref v0) → alk 1 lv = some (.ref v1) → alk 2 lv = some (.int v2) → alk 3 lv = some (.int v3) → alk 4 lv = some (.int v4) → lvk n lv → hp.length = n → v0 < n → v1 < n → t0 < n → m38_28 F rc3 v0 v1 v2 v3 v4 t0 t1 t2 hp = some (v, hp') → Rn d 38 28 lv [.long t2, .int t1, .ref t0] hp c w (none, hp', c, w) := by
  intro v0 v1 v2 v3 v4 t0 t1 t2 lv hp v hp' l0 l1 l2 l3 l4 ok hn r_v0 r_v1 r_t0 h
  unfold m38_28 at h
  obtain ⟨hp1, hhp1, h⟩ := Option.bind_eq_some_iff.mp h
  refine Rn.last n38_28 hhp1 ?_
  have hn := (wrJ_st (st := []) hhp1).2.trans hn
  refine Rn.ii (m := n) (u := 1) n38_29 ml38 (by decide) (by decide) l4 (fun lv l4 hk hok => ?_)
  have l0 := hk 0 _ (by decide) (Or.inl rfl) l0
  have l1 := hk 1 _ (by decide) (Or.inl rfl) l1
  have l2 := hk 2 _ (by decide) (Or.inl rfl) l2
  have l3 := hk 3 _ (by decide) (Or.inl rfl) l3
  have ok := hok ok
  refine Rn.goto (t := 3) n38_32 (by decide) ?_
  exact hr3 _ _ _ _ _ lv _ _ _ l0 l1 l2 l3 l4 ok hn r_v0 r_v1  h
def m38_3 (F : Nat) : Nat → Nat → Nat → Int32 → Int32 → Int32 → List mE → Option (Unit × List mE)
  | 0, _, _, _, _, _, _ => none
  | f + 1, v0, v1, v2, v3, v4, hp =>
    (gfi 3 0 hp v0).bind fun x1 =>
    if mc2 .ge v4 x1 = true then
      some ((), hp)
    else
      if mc2 .ne v4 v3 = true then
        m38_28 F (m38_3 F f) v0 v1 v2 v3 v4 v1 (v2 + v4) 0 hp
      else
        m38_28 F (m38_3 F f) v0 v1 v2 v3 v4 v1 (v2 + v4) 1 hp
theorem t38_3 {d c w n : Nat} (hd : 0 ≤ d) (F : Nat) : ∀ f : Nat, ∀ (v0 : Nat) (v1 : Nat) (v2 : Int32) (v3 : Int32) (v4 : Int32) (lv : List (Nat × Value)) (hp : List mE) (v : Unit) (hp' : List mE), alk 0 lv = some (.ref v0) → alk 1 lv = some (.ref v1) → alk 2 lv = some (.int v2) → alk 3 lv = some (.int v3) → alk 4 lv = some (.int v4) → lvk n lv → hp.length = n → v0 < n → v1 < n → m38_3 F f v0 v1 v2 v3 v4 hp = some (v, hp') → Rn d 38 3 lv [] hp c w (none, hp', c, w) := by
  intro f
  induction f with
  | zero => intro v0 v1 v2 v3 v4 lv hp v hp' l0 l1 l2 l3 l4 ok hn r_v0 r_v1 h; cases h
  | succ f hr3 =>
    intro v0 v1 v2 v3 v4 lv hp v hp' l0 l1 l2 l3 l4 ok hn r_v0 r_v1 h
    unfold m38_3 at h
    refine Rn.iload n38_3 l4 ?_
    refine Rn.aload_n n38_5 l0 ?_
    obtain ⟨x1, hx1, h⟩ := Option.bind_eq_some_iff.mp h
    refine Rn.gf n38_6 mo38 fl3_18 (gfi_v hx1) ?_
    by_cases hc2 : mc2 .ge v4 x1 = true
    · rw [if_pos hc2] at h
      refine Rn.c2t (t := 35) n38_9 (by decide) hc2 ?_
      have e1 := (Prod.mk.inj (Option.some.inj h)).1
      have e2 := (Prod.mk.inj (Option.some.inj h)).2
      subst e1
      subst e2
      exact Rn.vret n38_35 mr38
    · rw [if_neg hc2] at h
      refine Rn.c2f (t := 35) n38_9 (by decide) hc2 ?_
      refine Rn.aload_n n38_12 l1 ?_
      refine Rn.iload_n n38_13 l2 ?_
      refine Rn.iload n38_14 l4 ?_
      refine Rn.p n38_16 rfl ?_
      refine Rn.iload n38_17 l4 ?_
      refine Rn.iload_n n38_19 l3 ?_
      by_cases hc3 : mc2 .ne v4 v3 = true
      · rw [if_pos hc3] at h
        refine Rn.c2t (t := 27) n38_20 (by decide) hc3 ?_
        refine Rn.lc (v := 0) n38_27 (by decide) ?_
        exact t38_28 hd F hr3 _ _ _ _ _ _ _ _ lv _ _ _ l0 l1 l2 l3 l4 ok hn r_v0 r_v1 r_v1 h
      · rw [if_neg hc3] at h
        refine Rn.c2f (t := 27) n38_20 (by decide) hc3 ?_
        refine Rn.lc (v := 1) n38_23 (by decide) ?_
        refine Rn.goto (t := 28) n38_24 (by decide) ?_
        exact t38_28 hd F hr3 _ _ _ _ _ _ _ _ lv _ _ _ l0 l1 l2 l3 l4 ok hn r_v0 r_v1 r_v1 h
def m38_0 (F : Nat) (v0 : Nat) (v1 : Nat) (v2 : Int32) (v3 : Int32) (hp : List mE) : Option (Unit × List mE) :=
  m38_3 F F v0 v1 v2 v3 0 hp
theorem t38_0 {d c w n : Nat} (hd : 0 ≤ d) (F : Nat) : ∀ (v0 : Nat) (v1 : Nat) (v2 : Int32) (v3 : Int32) (lv : List (Nat × Value)) (hp : List mE) (v : Unit) (hp' : List mE), alk 0 lv = some (.ref v0) → alk 1 lv = some (.ref v1) → alk 2 lv = some (.int v2) → alk 3 lv = some (.int v3) → lvk n lv → hp.length = n → v0 < n → v1 < n → m38_0 F v0 v1 v2 v3 hp = some (v, hp') → Rn d 38 0 lv [] hp c w (none, hp', c, w) := by
  intro v0 v1 v2 v3 lv hp v hp' l0 l1 l2 l3 ok hn r_v0 r_v1 h
  unfold m38_0 at h
  refine Rn.ic (v := 0) n38_0 (by decide) ?_
  refine Rn.is (m := n) n38_1 ml38 (by decide) (fun lv l4 hk hok => ?_)
  have l0 := hk 0 _ (by decide) (Or.inl rfl) l0
  have l1 := hk 1 _ (by decide) (Or.inl rfl) l1
  have l2 := hk 2 _ (by decide) (Or.inl rfl) l2
  have l3 := hk 3 _ (by decide) (Or.inl rfl) l3
  have ok := hok ok
  exact t38_3 hd F  F _ _ _ _ _ lv _ _ _ l0 l1 l2 l3 l4 ok hn r_v0 r_v1  h
def e38 (F : Nat) (a0 : Nat) (a1 : Nat) (a2 : Int32) (a3 : Int32) (hp : List mE) : Option (Unit × List mE) := m38_0 F a0 a1 a2 a3 hp
theorem c38 {d : Nat} (hd : 0 ≤ d) (F : Nat) (a0 : Nat) (a1 : Nat) (a2 : Int32) (a3 : Int32) (hp : List mE) (v : Unit) (hp' : List mE) (ra0 : a0 < hp.length) (ra1 : a1 < hp.length) (h : e38 F a0 a1 a2 a3 hp = some (v, hp')) : Rn d 38 0 (lv_args 0 [.ref a0, .ref a1, .int a2, .int a3]) [] hp 0 0 (none, hp', 0, 0) :=
  t38_0 (n := hp.length) hd F a0 a1 a2 a3 (lv_args 0 [.ref a0, .ref a1, .int a2, .int a3]) hp v hp' rfl rfl rfl rfl (lvk_args (okc (okr ra0) (okc (okr ra1) (okc rfl (okc rfl okn))))) rfl ra0 ra1 h
/-! MirrorRoots$Mirrors.turnRoot -/
def m39_6 (F : Nat) : Nat → Nat → Nat → Int32 → Int32 → Int64 → Int32 → List mE → Option (Unit × List mE)
  | 0, _, _, _, _, _, _, _ => none
  | f + 1, v0, v1, v2, v3, v4, v6, hp =>
    (gfi 3 0 hp v0).bind fun x1 =>
    if mc2 .ge v6 x1 = true then
      (rdJ hp v1 (v2 + v3)).bind fun x3 =>
      (wrJ hp v1 (v2 + v3) (x3 - v4)).bind fun hp4 =>
      some ((), hp4)
    else
      (gfr 3 2 hp v0).bind fun x5 =>
      (rdI hp x5 ((v3 * 5) + v6)).bind fun x6 =>
      (rdJ hp v1 (v2 + v6)).bind fun x7 =>
      m39_6 F f v0 v1 v2 v3 (v4 + (x6.toInt64 * x7)) (v6 + 1) hp
theorem t39_6 {d c w n : Nat} (hd : 0 ≤ d) (F : Nat) : ∀ f : Nat, ∀ (v0 : Nat) (v1 : Nat) (v2 : Int32) (v3 : Int32) (v4 : Int64) (v6 : Int32) (lv : List (Nat × Value)) (hp : List mE) (v : Unit) (hp' : List mE), alk 0 lv = some (.ref v0) → alk 1 lv = some (.ref v1) → alk 2 lv = some (.int v2) → alk 3 lv = some (.int v3) → alk 4 lv = some (.long v4) → alk 6 lv = some (.int v6) → lvk n lv → hp.length = n → v0 < n → v1 < n → m39_6 F f v0 v1 v2 v3 v4 v6 hp = some (v, hp') → Rn d 39 6 lv [] hp c w (none, hp', c, w) := by
  intro f
  induction f with
  | zero => intro v0 v1 v2 v3 v4 v6 lv hp v hp' l0 l1 l2 l3 l4 l6 ok hn r_v0 r_v1 h; cases h
  | succ f hr6 =>
    intro v0 v1 v2 v3 v4 v6 lv hp v hp' l0 l1 l2 l3 l4 l6 ok hn r_v0 r_v1 h
    unfold m39_6 at h
    refine Rn.iload n39_6 l6 ?_
    refine Rn.aload_n n39_8 l0 ?_
    obtain ⟨x1, hx1, h⟩ := Option.bind_eq_some_iff.mp h
    refine Rn.gf n39_9 mo39 fl3_18 (gfi_v hx1) ?_
    by_cases hc2 : mc2 .ge v6 x1 = true
    · rw [if_pos hc2] at h
      refine Rn.c2t (t := 45) n39_12 (by decide) hc2 ?_
      refine Rn.aload_n n39_45 l1 ?_
      refine Rn.iload_n n39_46 l2 ?_
      refine Rn.iload_n n39_47 l3 ?_
      refine Rn.p n39_48 rfl ?_
      refine Rn.p n39_49 rfl ?_
      obtain ⟨x3, hx3, h⟩ := Option.bind_eq_some_iff.mp h
      refine Rn.lald n39_50 hx3 ?_
      refine Rn.lload n39_51 l4 ?_
      refine Rn.p n39_53 rfl ?_
      obtain ⟨hp4, hhp4, h⟩ := Option.bind_eq_some_iff.mp h
      refine Rn.last n39_54 hhp4 ?_
      have hn := (wrJ_st (st := []) hhp4).2.trans hn
      have e1 := (Prod.mk.inj (Option.some.inj h)).1
      have e2 := (Prod.mk.inj (Option.some.inj h)).2
      subst e1
      subst e2
      exact Rn.vret n39_55 mr39
    · rw [if_neg hc2] at h
      refine Rn.c2f (t := 45) n39_12 (by decide) hc2 ?_
      refine Rn.lload n39_15 l4 ?_
      refine Rn.aload_n n39_17 l0 ?_
      obtain ⟨x5, hx5, h⟩ := Option.bind_eq_some_iff.mp h
      refine Rn.gf n39_18 mo39 fl3_15 (gfr_v hx5).1 ?_
      have r_x5 : x5 < n := by rw [← hn]; exact (gfr_v hx5).2
      refine Rn.iload_n n39_21 l3 ?_
      refine Rn.ic (v := 5) n39_22 (by decide) ?_
      refine Rn.p n39_23 rfl ?_
      refine Rn.iload n39_24 l6 ?_
      refine Rn.p n39_26 rfl ?_
      obtain ⟨x6, hx6, h⟩ := Option.bind_eq_some_iff.mp h
      refine Rn.iald n39_27 hx6 ?_
      refine Rn.p n39_28 rfl ?_
      refine Rn.aload_n n39_29 l1 ?_
      refine Rn.iload_n n39_30 l2 ?_
      refine Rn.iload n39_31 l6 ?_
      refine Rn.p n39_33 rfl ?_
      obtain ⟨x7, hx7, h⟩ := Option.bind_eq_some_iff.mp h
      refine Rn.lald n39_34 hx7 ?_
      refine Rn.p n39_35 rfl ?_
      refine Rn.p n39_36 rfl ?_
      refine Rn.ls (m := n) n39_37 ml39 (by decide) (fun lv l4 hk hok => ?_)
      have l0 := hk 0 _ (by decide) (by decide) (Or.inl rfl) l0
      have l1 := hk 1 _ (by decide) (by decide) (Or.inl rfl) l1
      have l2 := hk 2 _ (by decide) (by decide) (Or.inl rfl) l2
      have l3 := hk 3 _ (by decide) (by decide) (Or.inl rfl) l3
      have l6 := hk 6 _ (by decide) (by decide) (Or.inl rfl) l6
      have ok := hok ok
      refine Rn.ii (m := n) (u := 1) n39_39 ml39 (by decide) (by decide) l6 (fun lv l6 hk hok => ?_)
      have l0 := hk 0 _ (by decide) (Or.inl rfl) l0
      have l1 := hk 1 _ (by decide) (Or.inl rfl) l1
      have l2 := hk 2 _ (by decide) (Or.inl rfl) l2
      have l3 := hk 3 _ (by decide) (Or.inl rfl) l3
      have l4 := hk 4 _ (by decide) (Or.inr (by decide)) l4
      have ok := hok ok
      refine Rn.goto (t := 6) n39_42 (by decide) ?_
      exact hr6 _ _ _ _ _ _ lv _ _ _ l0 l1 l2 l3 l4 l6 ok hn r_v0 r_v1  h
def m39_0 (F : Nat) (v0 : Nat) (v1 : Nat) (v2 : Int32) (v3 : Int32) (hp : List mE) : Option (Unit × List mE) :=
  m39_6 F F v0 v1 v2 v3 0 0 hp
theorem t39_0 {d c w n : Nat} (hd : 0 ≤ d) (F : Nat) : ∀ (v0 : Nat) (v1 : Nat) (v2 : Int32) (v3 : Int32) (lv : List (Nat × Value)) (hp : List mE) (v : Unit) (hp' : List mE), alk 0 lv = some (.ref v0) → alk 1 lv = some (.ref v1) → alk 2 lv = some (.int v2) → alk 3 lv = some (.int v3) → lvk n lv → hp.length = n → v0 < n → v1 < n → m39_0 F v0 v1 v2 v3 hp = some (v, hp') → Rn d 39 0 lv [] hp c w (none, hp', c, w) := by
  intro v0 v1 v2 v3 lv hp v hp' l0 l1 l2 l3 ok hn r_v0 r_v1 h
  unfold m39_0 at h
  refine Rn.lc (v := 0) n39_0 (by decide) ?_
  refine Rn.ls (m := n) n39_1 ml39 (by decide) (fun lv l4 hk hok => ?_)
  have l0 := hk 0 _ (by decide) (by decide) (Or.inl rfl) l0
  have l1 := hk 1 _ (by decide) (by decide) (Or.inl rfl) l1
  have l2 := hk 2 _ (by decide) (by decide) (Or.inl rfl) l2
  have l3 := hk 3 _ (by decide) (by decide) (Or.inl rfl) l3
  have ok := hok ok
  refine Rn.ic (v := 0) n39_3 (by decide) ?_
  refine Rn.is (m := n) n39_4 ml39 (by decide) (fun lv l6 hk hok => ?_)
  have l0 := hk 0 _ (by decide) (Or.inl rfl) l0
  have l1 := hk 1 _ (by decide) (Or.inl rfl) l1
  have l2 := hk 2 _ (by decide) (Or.inl rfl) l2
  have l3 := hk 3 _ (by decide) (Or.inl rfl) l3
  have l4 := hk 4 _ (by decide) (Or.inr (by decide)) l4
  have ok := hok ok
  exact t39_6 hd F  F _ _ _ _ _ _ lv _ _ _ l0 l1 l2 l3 l4 l6 ok hn r_v0 r_v1  h
def e39 (F : Nat) (a0 : Nat) (a1 : Nat) (a2 : Int32) (a3 : Int32) (hp : List mE) : Option (Unit × List mE) := m39_0 F a0 a1 a2 a3 hp
theorem c39 {d : Nat} (hd : 0 ≤ d) (F : Nat) (a0 : Nat) (a1 : Nat) (a2 : Int32) (a3 : Int32) (hp : List mE) (v : Unit) (hp' : List mE) (ra0 : a0 < hp.length) (ra1 : a1 < hp.length) (h : e39 F a0 a1 a2 a3 hp = some (v, hp')) : Rn d 39 0 (lv_args 0 [.ref a0, .ref a1, .int a2, .int a3]) [] hp 0 0 (none, hp', 0, 0) :=
  t39_0 (n := hp.length) hd F a0 a1 a2 a3 (lv_args 0 [.ref a0, .ref a1, .int a2, .int a3]) hp v hp' rfl rfl rfl rfl (lvk_args (okc (okr ra0) (okc (okr ra1) (okc rfl (okc rfl okn))))) rfl ra0 ra1 h
/-! MirrorRoots$Mirrors.setBelow -/
def m44_32 (F : Nat) (rc5 : Nat → Nat → Int32 → Int32 → Int32 → List mE → Option (Int32 × List mE)) (v0 : Nat) (v1 : Nat) (v2 : Int32) (v3 : Int32) (v4 : Int32) (hp : List mE) : Option (Int32 × List mE) :=
  rc5 v0 v1 v2 v3 (v4 + 1) hp
theorem t44_32 {d c w n : Nat} (hd : 0 ≤ d) (F : Nat) {rc5 : Nat → Nat → Int32 → Int32 → Int32 → List mE → Option (Int32 × List mE)} (hr5 : ∀ (v0 : Nat) (v1 : Nat) (v2 : Int32) (v3 : Int32) (v4 : Int32) (lv : List (Nat × Value)) (hp : List mE) (v : Int32) (hp' : List mE), alk 0 lv = some (.ref v0) → alk 1 lv = some (.ref v1) → alk 2 lv = some (.int v2) → alk 3 lv = some (.int v3) → alk 4 lv = some (.int v4) → lvk n lv → hp.length = n → v0 < n → v1 < n → rc5 v0 v1 v2 v3 v4 hp = some (v, hp') → Rn d 44 5 lv [] hp c w (some (.int v), hp', c, w)) : ∀ (v0 : Nat) (v1 : Nat) (v2 : Int32) (v3 : Int32) (v4 : Int32) (lv : List (Nat × Value)) (hp : List mE) (v : Int32) (hp' : List mE), alk 0 lv = some (.ref v0) → alk 1 lv = some (.ref v1) → alk 2 lv = some (.int v2) → alk 3 lv = some (.int v3) → alk 4 lv = some (.int v4) → lvk n lv → hp.length = n → v0 < n → v1 < n → m44_32 F rc5 v0 v1 v2 v3 v4 hp = some (v, hp') → Rn d 44 32 lv [] hp c w (some (.int v), hp', c, w) := by
  intro v0 v1 v2 v3 v4 lv hp v hp' l0 l1 l2 l3 l4 ok hn r_v0 r_v1 h
  unfold m44_32 at h
  refine Rn.ii (m := n) (u := 1) n44_32 ml44 (by decide) (by decide) l4 (fun lv l4 hk hok => ?_)
  have l0 := hk 0 _ (by decide) (Or.inl rfl) l0
  have l1 := hk 1 _ (by decide) (Or.inl rfl) l1
  have l2 := hk 2 _ (by decide) (Or.inl rfl) l2
  have l3 := hk 3 _ (by decide) (Or.inl rfl) l3
  have ok := hok ok
  refine Rn.goto (t := 5) n44_35 (by decide) ?_
  exact hr5 _ _ _ _ _ lv _ _ _ l0 l1 l2 l3 l4 ok hn r_v0 r_v1  h
def m44_5 (F : Nat) : Nat → Nat → Nat → Int32 → Int32 → Int32 → List mE → Option (Int32 × List mE)
  | 0, _, _, _, _, _, _ => none
  | f + 1, v0, v1, v2, v3, v4, hp =>
    (gfi 3 0 hp v0).bind fun x1 =>
    if mc2 .ge v4 x1 = true then
      some (v3, hp)
    else
      (rdJ hp v1 (v2 + v4)).bind fun x3 =>
      if mc1 .ge (lg_cmp x3 0) = true then
        m44_32 F (m44_5 F f) v0 v1 v2 v3 v4 hp
      else
        m44_32 F (m44_5 F f) v0 v1 v2 (v3 ||| (1 <<< (v4 &&& 31))) v4 hp
theorem t44_5 {d c w n : Nat} (hd : 0 ≤ d) (F : Nat) : ∀ f : Nat, ∀ (v0 : Nat) (v1 : Nat) (v2 : Int32) (v3 : Int32) (v4 : Int32) (lv : List (Nat × Value)) (hp : List mE) (v : Int32) (hp' : List mE), alk 0 lv = some (.ref v0) → alk 1 lv = some (.ref v1) → alk 2 lv = some (.int v2) → alk 3 lv = some (.int v3) → alk 4 lv = some (.int v4) → lvk n lv → hp.length = n → v0 < n → v1 < n → m44_5 F f v0 v1 v2 v3 v4 hp = some (v, hp') → Rn d 44 5 lv [] hp c w (some (.int v), hp', c, w) := by
  intro f
  induction f with
  | zero => intro v0 v1 v2 v3 v4 lv hp v hp' l0 l1 l2 l3 l4 ok hn r_v0 r_v1 h; cases h
  | succ f hr5 =>
    intro v0 v1 v2 v3 v4 lv hp v hp' l0 l1 l2 l3 l4 ok hn r_v0 r_v1 h
    unfold m44_5 at h
    refine Rn.iload n44_5 l4 ?_
    refine Rn.aload_n n44_7 l0 ?_
    obtain ⟨x1, hx1, h⟩ := Option.bind_eq_some_iff.mp h
    refine Rn.gf n44_8 mo44 fl3_18 (gfi_v hx1) ?_
    by_cases hc2 : mc2 .ge v4 x1 = true
    · rw [if_pos hc2] at h
      refine Rn.c2t (t := 38) n44_11 (by decide) hc2 ?_
      refine Rn.iload_n n44_38 l3 ?_
      have e1 := (Prod.mk.inj (Option.some.inj h)).1
      have e2 := (Prod.mk.inj (Option.some.inj h)).2
      subst e1
      subst e2
      exact Rn.iret n44_39 mr44
    · rw [if_neg hc2] at h
      refine Rn.c2f (t := 38) n44_11 (by decide) hc2 ?_
      refine Rn.aload_n n44_14 l1 ?_
      refine Rn.iload_n n44_15 l2 ?_
      refine Rn.iload n44_16 l4 ?_
      refine Rn.p n44_18 rfl ?_
      obtain ⟨x3, hx3, h⟩ := Option.bind_eq_some_iff.mp h
      refine Rn.lald n44_19 hx3 ?_
      refine Rn.lc (v := 0) n44_20 (by decide) ?_
      refine Rn.p n44_21 rfl ?_
      by_cases hc4 : mc1 .ge (lg_cmp x3 0) = true
      · rw [if_pos hc4] at h
        refine Rn.c1t (t := 32) n44_22 (by decide) hc4 ?_
        exact t44_32 hd F hr5 _ _ _ _ _ lv _ _ _ l0 l1 l2 l3 l4 ok hn r_v0 r_v1  h
      · rw [if_neg hc4] at h
        refine Rn.c1f (t := 32) n44_22 (by decide) hc4 ?_
        refine Rn.iload_n n44_25 l3 ?_
        refine Rn.ic (v := 1) n44_26 (by decide) ?_
        refine Rn.iload n44_27 l4 ?_
        refine Rn.p n44_29 rfl ?_
        refine Rn.p n44_30 rfl ?_
        refine Rn.isn (m := n) n44_31 rfl ml44 (by decide) (fun lv l3 hk hok => ?_)
        have l0 := hk 0 _ (by decide) (Or.inl rfl) l0
        have l1 := hk 1 _ (by decide) (Or.inl rfl) l1
        have l2 := hk 2 _ (by decide) (Or.inl rfl) l2
        have l4 := hk 4 _ (by decide) (Or.inl rfl) l4
        have ok := hok ok
        exact t44_32 hd F hr5 _ _ _ _ _ lv _ _ _ l0 l1 l2 l3 l4 ok hn r_v0 r_v1  h
def m44_0 (F : Nat) (v0 : Nat) (v1 : Nat) (v2 : Int32) (hp : List mE) : Option (Int32 × List mE) :=
  m44_5 F F v0 v1 v2 0 0 hp
theorem t44_0 {d c w n : Nat} (hd : 0 ≤ d) (F : Nat) : ∀ (v0 : Nat) (v1 : Nat) (v2 : Int32) (lv : List (Nat × Value)) (hp : List mE) (v : Int32) (hp' : List mE), alk 0 lv = some (.ref v0) → alk 1 lv = some (.ref v1) → alk 2 lv = some (.int v2) → lvk n lv → hp.length = n → v0 < n → v1 < n → m44_0 F v0 v1 v2 hp = some (v, hp') → Rn d 44 0 lv [] hp c w (some (.int v), hp', c, w) := by
  intro v0 v1 v2 lv hp v hp' l0 l1 l2 ok hn r_v0 r_v1 h
  unfold m44_0 at h
  refine Rn.ic (v := 0) n44_0 (by decide) ?_
  refine Rn.isn (m := n) n44_1 rfl ml44 (by decide) (fun lv l3 hk hok => ?_)
  have l0 := hk 0 _ (by decide) (Or.inl rfl) l0
  have l1 := hk 1 _ (by decide) (Or.inl rfl) l1
  have l2 := hk 2 _ (by decide) (Or.inl rfl) l2
  have ok := hok ok
  refine Rn.ic (v := 0) n44_2 (by decide) ?_
  refine Rn.is (m := n) n44_3 ml44 (by decide) (fun lv l4 hk hok => ?_)
  have l0 := hk 0 _ (by decide) (Or.inl rfl) l0
  have l1 := hk 1 _ (by decide) (Or.inl rfl) l1
  have l2 := hk 2 _ (by decide) (Or.inl rfl) l2
  have l3 := hk 3 _ (by decide) (Or.inl rfl) l3
  have ok := hok ok
  exact t44_5 hd F  F _ _ _ _ _ lv _ _ _ l0 l1 l2 l3 l4 ok hn r_v0 r_v1  h
def e44 (F : Nat) (a0 : Nat) (a1 : Nat) (a2 : Int32) (hp : List mE) : Option (Int32 × List mE) := m44_0 F a0 a1 a2 hp
theorem c44 {d : Nat} (hd : 0 ≤ d) (F : Nat) (a0 : Nat) (a1 : Nat) (a2 : Int32) (hp : List mE) (v : Int32) (hp' : List mE) (ra0 : a0 < hp.length) (ra1 : a1 < hp.length) (h : e44 F a0 a1 a2 hp = some (v, hp')) : Rn d 44 0 (lv_args 0 [.ref a0, .ref a1, .int a2]) [] hp 0 0 (some (.int v), hp', 0, 0) :=
  t44_0 (n := hp.length) hd F a0 a1 a2 (lv_args 0 [.ref a0, .ref a1, .int a2]) hp v hp' rfl rfl rfl (lvk_args (okc (okr ra0) (okc (okr ra1) (okc rfl okn)))) rfl ra0 ra1 h
/-! MirrorRoots$Paths.powerAt -/
def m50_27 (F : Nat) : Nat → Int32 → Int32 → Int32 → Int32 → List mE → Option (Int32 × List mE)
  | 0, _, _, _, _, _ => none
  | f + 1, v0, v1, v2, v3, hp =>
    if mc2 .gt v3 v1 = true then
      some (v2, hp)
    else
      if v3 = 0 then none else
      m50_27 F f v0 v1 ((v2 * ((v0 - v3) + 1)) / v3) (v3 + 1) hp
theorem t50_27 {d c w n : Nat} (hd : 0 ≤ d) (F : Nat) : ∀ f : Nat, ∀ (v0 : Int32) (v1 : Int32) (v2 : Int32) (v3 : Int32) (lv : List (Nat × Value)) (hp : List mE) (v : Int32) (hp' : List mE), alk 0 lv = some (.int v0) → alk 1 lv = some (.int v1) → alk 2 lv = some (.int v2) → alk 3 lv = some (.int v3) → lvk n lv → hp.length = n → m50_27 F f v0 v1 v2 v3 hp = some (v, hp') → Rn d 50 27 lv [] hp c w (some (.int v), hp', c, w) := by
  intro f
  induction f with
  | zero => intro v0 v1 v2 v3 lv hp v hp' l0 l1 l2 l3 ok hn h; cases h
  | succ f hr27 =>
    intro v0 v1 v2 v3 lv hp v hp' l0 l1 l2 l3 ok hn h
    unfold m50_27 at h
    refine Rn.iload_n n50_27 l3 ?_
    refine Rn.iload_n n50_28 l1 ?_
    by_cases hc1 : mc2 .gt v3 v1 = true
    · rw [if_pos hc1] at h
      refine Rn.c2t (t := 48) n50_29 (by decide) hc1 ?_
      refine Rn.iload_n n50_48 l2 ?_
      have e1 := (Prod.mk.inj (Option.some.inj h)).1
      have e2 := (Prod.mk.inj (Option.some.inj h)).2
      subst e1
      subst e2
      exact Rn.iret n50_49 mr50
    · rw [if_neg hc1] at h
      refine Rn.c2f (t := 48) n50_29 (by decide) hc1 ?_
      refine Rn.iload_n n50_32 l2 ?_
      refine Rn.iload_n n50_33 l0 ?_
      refine Rn.iload_n n50_34 l3 ?_
      refine Rn.p n50_35 rfl ?_
      refine Rn.ic (v := 1) n50_36 (by decide) ?_
      refine Rn.p n50_37 rfl ?_
      refine Rn.p n50_38 rfl ?_
      refine Rn.iload_n n50_39 l3 ?_
      by_cases hz2 : v3 = 0
      · rw [if_pos hz2] at h; cases h
      rw [if_neg hz2] at h
      refine Rn.idv n50_40 hz2 ?_
      refine Rn.isn (m := n) n50_41 rfl ml50 (by decide) (fun lv l2 hk hok => ?_)
      have l0 := hk 0 _ (by decide) (Or.inl rfl) l0
      have l1 := hk 1 _ (by decide) (Or.inl rfl) l1
      have l3 := hk 3 _ (by decide) (Or.inl rfl) l3
      have ok := hok ok
      refine Rn.ii (m := n) (u := 1) n50_42 ml50 (by decide) (by decide) l3 (fun lv l3 hk hok => ?_)
      have l0 := hk 0 _ (by decide) (Or.inl rfl) l0
      have l1 := hk 1 _ (by decide) (Or.inl rfl) l1
      have l2 := hk 2 _ (by decide) (Or.inl rfl) l2
      have ok := hok ok
      refine Rn.goto (t := 27) n50_45 (by decide) ?_
      exact hr27 _ _ _ _ lv _ _ _ l0 l1 l2 l3 ok hn   h
def m50_24 (F : Nat) (v0 : Int32) (v1 : Int32) (t0 : Int32) (hp : List mE) : Option (Int32 × List mE) :=
  m50_27 F F v0 v1 t0 1 hp
theorem t50_24 {d c w n : Nat} (hd : 0 ≤ d) (F : Nat) : ∀ (v0 : Int32) (v1 : Int32) (t0 : Int32) (lv : List (Nat × Value)) (hp : List mE) (v : Int32) (hp' : List mE), alk 0 lv = some (.int v0) → alk 1 lv = some (.int v1) → lvk n lv → hp.length = n → m50_24 F v0 v1 t0 hp = some (v, hp') → Rn d 50 24 lv [.int t0] hp c w (some (.int v), hp', c, w) := by
  intro v0 v1 t0 lv hp v hp' l0 l1 ok hn h
  unfold m50_24 at h
  refine Rn.isn (m := n) n50_24 rfl ml50 (by decide) (fun lv l2 hk hok => ?_)
  have l0 := hk 0 _ (by decide) (Or.inl rfl) l0
  have l1 := hk 1 _ (by decide) (Or.inl rfl) l1
  have ok := hok ok
  refine Rn.ic (v := 1) n50_25 (by decide) ?_
  refine Rn.isn (m := n) n50_26 rfl ml50 (by decide) (fun lv l3 hk hok => ?_)
  have l0 := hk 0 _ (by decide) (Or.inl rfl) l0
  have l1 := hk 1 _ (by decide) (Or.inl rfl) l1
  have l2 := hk 2 _ (by decide) (Or.inl rfl) l2
  have ok := hok ok
  exact t50_27 hd F  F _ _ _ _ lv _ _ _ l0 l1 l2 l3 ok hn   h
def m50_9 (F : Nat) (hp : List mE) : Option (Int32 × List mE) :=
  some (0, hp)
theorem t50_9 {d c w n : Nat} (hd : 0 ≤ d) (F : Nat) : ∀ (lv : List (Nat × Value)) (hp : List mE) (v : Int32) (hp' : List mE), lvk n lv → hp.length = n → m50_9 F hp = some (v, hp') → Rn d 50 9 lv [] hp c w (some (.int v), hp', c, w) := by
  intro lv hp v hp' ok hn h
  unfold m50_9 at h
  refine Rn.ic (v := 0) n50_9 (by decide) ?_
  have e1 := (Prod.mk.inj (Option.some.inj h)).1
  have e2 := (Prod.mk.inj (Option.some.inj h)).2
  subst e1
  subst e2
  exact Rn.iret n50_10 mr50
def m50_0 (F : Nat) (v0 : Int32) (v1 : Int32) (hp : List mE) : Option (Int32 × List mE) :=
  if mc1 .lt v1 = true then
    m50_9 F hp
  else
    if mc2 .le v1 v0 = true then
      if mc1 .ne ((v0 - v1) - (v0 - v1) / 2 * 2) = true then
        m50_24 F v0 v1 ((-1)) hp
      else
        m50_24 F v0 v1 1 hp
    else
      m50_9 F hp
theorem t50_0 {d c w n : Nat} (hd : 0 ≤ d) (F : Nat) : ∀ (v0 : Int32) (v1 : Int32) (lv : List (Nat × Value)) (hp : List mE) (v : Int32) (hp' : List mE), alk 0 lv = some (.int v0) → alk 1 lv = some (.int v1) → lvk n lv → hp.length = n → m50_0 F v0 v1 hp = some (v, hp') → Rn d 50 0 lv [] hp c w (some (.int v), hp', c, w) := by
  intro v0 v1 lv hp v hp' l0 l1 ok hn h
  unfold m50_0 at h
  refine Rn.iload_n n50_0 l1 ?_
  by_cases hc1 : mc1 .lt v1 = true
  · rw [if_pos hc1] at h
    refine Rn.c1t (t := 9) n50_1 (by decide) hc1 ?_
    exact t50_9 hd F  lv _ _ _  ok hn   h
  · rw [if_neg hc1] at h
    refine Rn.c1f (t := 9) n50_1 (by decide) hc1 ?_
    refine Rn.iload_n n50_4 l1 ?_
    refine Rn.iload_n n50_5 l0 ?_
    by_cases hc2 : mc2 .le v1 v0 = true
    · rw [if_pos hc2] at h
      refine Rn.c2t (t := 11) n50_6 (by decide) hc2 ?_
      refine Rn.iload_n n50_11 l0 ?_
      refine Rn.iload_n n50_12 l1 ?_
      refine Rn.p n50_13 rfl ?_
      refine Rn.ic (v := 2) n50_14 (by decide) ?_
      refine Rn.irm n50_15 (by decide) ?_
      by_cases hc3 : mc1 .ne ((v0 - v1) - (v0 - v1) / 2 * 2) = true
      · rw [if_pos hc3] at h
        refine Rn.c1t (t := 23) n50_16 (by decide) hc3 ?_
        refine Rn.ic (v := (-1)) n50_23 (by decide) ?_
        exact t50_24 hd F  _ _ _ lv _ _ _ l0 l1 ok hn   h
      · rw [if_neg hc3] at h
        refine Rn.c1f (t := 23) n50_16 (by decide) hc3 ?_
        refine Rn.ic (v := 1) n50_19 (by decide) ?_
        refine Rn.goto (t := 24) n50_20 (by decide) ?_
        exact t50_24 hd F  _ _ _ lv _ _ _ l0 l1 ok hn   h
    · rw [if_neg hc2] at h
      refine Rn.c2f (t := 11) n50_6 (by decide) hc2 ?_
      exact t50_9 hd F  lv _ _ _  ok hn   h
def e50 (F : Nat) (a0 : Int32) (a1 : Int32) (hp : List mE) : Option (Int32 × List mE) := m50_0 F a0 a1 hp
theorem c50 {d : Nat} (hd : 0 ≤ d) (F : Nat) (a0 : Int32) (a1 : Int32) (hp : List mE) (v : Int32) (hp' : List mE) (h : e50 F a0 a1 hp = some (v, hp')) : Rn d 50 0 (lv_args 0 [.int a0, .int a1]) [] hp 0 0 (some (.int v), hp', 0, 0) :=
  t50_0 (n := hp.length) hd F a0 a1 (lv_args 0 [.int a0, .int a1]) hp v hp' rfl rfl (lvk_args (okc rfl (okc rfl okn))) rfl  h
/-! MirrorRoots$Roots.turnBy -/
def m52_13 (F : Nat) : Nat → Nat → Int32 → Nat → Int32 → Int32 → List mE → Option (Unit × List mE)
  | 0, _, _, _, _, _, _ => none
  | f + 1, v0, v1, v2, v3, v4, hp =>
    if mc1 .lt v4 = true then
      some ((), hp)
    else
      (gfr 5 0 hp v0).bind fun x2 =>
      (gfr 5 1 hp v0).bind fun x3 =>
      (rcv 1 hp x3).bind fun u5 =>
      (e17 F x3 v1 v4 hp).bind fun q4 =>
      (rcv 3 q4.2 x2).bind fun u7 =>
      (e39 F x2 v2 v3 q4.1 q4.2).bind fun q6 =>
      m52_13 F f v0 v1 v2 v3 (v4 + (-1)) q6.2
theorem t52_13 {d c w n : Nat} (hd : 1 ≤ d) (F : Nat) : ∀ f : Nat, ∀ (v0 : Nat) (v1 : Int32) (v2 : Nat) (v3 : Int32) (v4 : Int32) (lv : List (Nat × Value)) (hp : List mE) (v : Unit) (hp' : List mE), alk 0 lv = some (.ref v0) → alk 1 lv = some (.int v1) → alk 2 lv = some (.ref v2) → alk 3 lv = some (.int v3) → alk 4 lv = some (.int v4) → lvk n lv → hp.length = n → v0 < n → v2 < n → m52_13 F f v0 v1 v2 v3 v4 hp = some (v, hp') → Rn d 52 13 lv [] hp c w (none, hp', c, w) := by
  obtain ⟨d', rfl⟩ : ∃ d', d = d' + 1 := ⟨d - 1, by omega⟩
  intro f
  induction f with
  | zero => intro v0 v1 v2 v3 v4 lv hp v hp' l0 l1 l2 l3 l4 ok hn r_v0 r_v2 h; cases h
  | succ f hr13 =>
    intro v0 v1 v2 v3 v4 lv hp v hp' l0 l1 l2 l3 l4 ok hn r_v0 r_v2 h
    unfold m52_13 at h
    refine Rn.iload n52_13 l4 ?_
    by_cases hc1 : mc1 .lt v4 = true
    · rw [if_pos hc1] at h
      refine Rn.c1t (t := 43) n52_15 (by decide) hc1 ?_
      have e1 := (Prod.mk.inj (Option.some.inj h)).1
      have e2 := (Prod.mk.inj (Option.some.inj h)).2
      subst e1
      subst e2
      exact Rn.vret n52_43 mr52
    · rw [if_neg hc1] at h
      refine Rn.c1f (t := 43) n52_15 (by decide) hc1 ?_
      refine Rn.aload_n n52_18 l0 ?_
      obtain ⟨x2, hx2, h⟩ := Option.bind_eq_some_iff.mp h
      refine Rn.gf n52_19 mo52 fl5_18 (gfr_v hx2).1 ?_
      have r_x2 : x2 < n := by rw [← hn]; exact (gfr_v hx2).2
      refine Rn.aload_n n52_22 l2 ?_
      refine Rn.iload_n n52_23 l3 ?_
      refine Rn.aload_n n52_24 l0 ?_
      obtain ⟨x3, hx3, h⟩ := Option.bind_eq_some_iff.mp h
      refine Rn.gf n52_25 mo52 fl5_22 (gfr_v hx3).1 ?_
      have r_x3 : x3 < n := by rw [← hn]; exact (gfr_v hx3).2
      refine Rn.iload_n n52_28 l1 ?_
      refine Rn.iload n52_29 l4 ?_
      obtain ⟨u5, hu5, h⟩ := Option.bind_eq_some_iff.mp h
      obtain ⟨q4, hq4, h⟩ := Option.bind_eq_some_iff.mp h
      have gq4 := c17 (d := d') (by omega) F _ _ _ _ _ _ (by rw [hn]; exact r_x3) hq4
      refine Rn.cv (As := [.int v1, .int v4]) (rr := [.int v3, .ref v2, .ref x2]) n52_31 mo52 mm5_32 (by decide) mq17 rfl rfl rfl rfl (by rw [mo17]; exact hu5) (Nat.le_of_ble_eq_true rfl) (by rw [hn]; exact (okc (okr r_x3) (okc rfl (okc rfl okn)))) (by rw [hn]; exact (okc rfl (okc (okr r_v2) (okc (okr r_x2) okn)))) (by rw [hn]; exact ok) (by rw [ml17]; exact Nat.le_of_ble_eq_true rfl) gq4 ?_
      have hn := (Rn.len gq4).trans hn
      show Rn _ 52 34 lv [.int q4.1, .int v3, .ref v2, .ref x2] q4.2 c w _
      obtain ⟨u7, hu7, h⟩ := Option.bind_eq_some_iff.mp h
      obtain ⟨q6, hq6, h⟩ := Option.bind_eq_some_iff.mp h
      have gq6 := c39 (d := d') (by omega) F _ _ _ _ _ _ _ (by rw [hn]; exact r_x2) (by rw [hn]; exact r_v2) hq6
      refine Rn.cv (As := [.ref v2, .int v3, .int q4.1]) (rr := []) n52_34 mo52 mm5_36 (by decide) mq39 rfl rfl rfl rfl (by rw [mo39]; exact hu7) (Nat.le_of_ble_eq_true rfl) (by rw [hn]; exact (okc (okr r_x2) (okc (okr r_v2) (okc rfl (okc rfl okn))))) (by rw [hn]; exact okn) (by rw [hn]; exact ok) (by rw [ml39]; exact Nat.le_of_ble_eq_true rfl) gq6 ?_
      have hn := (Rn.len gq6).trans hn
      show Rn _ 52 37 lv [] q6.2 c w _
      refine Rn.ii (m := n) (u := (-1)) n52_37 ml52 (by decide) (by decide) l4 (fun lv l4 hk hok => ?_)
      have l0 := hk 0 _ (by decide) (Or.inl rfl) l0
      have l1 := hk 1 _ (by decide) (Or.inl rfl) l1
      have l2 := hk 2 _ (by decide) (Or.inl rfl) l2
      have l3 := hk 3 _ (by decide) (Or.inl rfl) l3
      have ok := hok ok
      refine Rn.goto (t := 13) n52_40 (by decide) ?_
      exact hr13 _ _ _ _ _ lv _ _ _ l0 l1 l2 l3 l4 ok hn r_v0 r_v2  h
def m52_0 (F : Nat) (v0 : Nat) (v1 : Int32) (v2 : Nat) (v3 : Int32) (hp : List mE) : Option (Unit × List mE) :=
  (gfr 5 1 hp v0).bind fun x1 =>
  (gfr 1 3 hp x1).bind fun x2 =>
  (rdI hp x2 v1).bind fun x3 =>
  m52_13 F F v0 v1 v2 v3 (x3 - 1) hp
theorem t52_0 {d c w n : Nat} (hd : 1 ≤ d) (F : Nat) : ∀ (v0 : Nat) (v1 : Int32) (v2 : Nat) (v3 : Int32) (lv : List (Nat × Value)) (hp : List mE) (v : Unit) (hp' : List mE), alk 0 lv = some (.ref v0) → alk 1 lv = some (.int v1) → alk 2 lv = some (.ref v2) → alk 3 lv = some (.int v3) → lvk n lv → hp.length = n → v0 < n → v2 < n → m52_0 F v0 v1 v2 v3 hp = some (v, hp') → Rn d 52 0 lv [] hp c w (none, hp', c, w) := by
  obtain ⟨d', rfl⟩ : ∃ d', d = d' + 1 := ⟨d - 1, by omega⟩
  intro v0 v1 v2 v3 lv hp v hp' l0 l1 l2 l3 ok hn r_v0 r_v2 h
  unfold m52_0 at h
  refine Rn.aload_n n52_0 l0 ?_
  obtain ⟨x1, hx1, h⟩ := Option.bind_eq_some_iff.mp h
  refine Rn.gf n52_1 mo52 fl5_22 (gfr_v hx1).1 ?_
  have r_x1 : x1 < n := by rw [← hn]; exact (gfr_v hx1).2
  obtain ⟨x2, hx2, h⟩ := Option.bind_eq_some_iff.mp h
  refine Rn.gf n52_4 mo52 fl5_26 (gfr_v hx2).1 ?_
  have r_x2 : x2 < n := by rw [← hn]; exact (gfr_v hx2).2
  refine Rn.iload_n n52_7 l1 ?_
  obtain ⟨x3, hx3, h⟩ := Option.bind_eq_some_iff.mp h
  refine Rn.iald n52_8 hx3 ?_
  refine Rn.ic (v := 1) n52_9 (by decide) ?_
  refine Rn.p n52_10 rfl ?_
  refine Rn.is (m := n) n52_11 ml52 (by decide) (fun lv l4 hk hok => ?_)
  have l0 := hk 0 _ (by decide) (Or.inl rfl) l0
  have l1 := hk 1 _ (by decide) (Or.inl rfl) l1
  have l2 := hk 2 _ (by decide) (Or.inl rfl) l2
  have l3 := hk 3 _ (by decide) (Or.inl rfl) l3
  have ok := hok ok
  exact t52_13 hd F  F _ _ _ _ _ lv _ _ _ l0 l1 l2 l3 l4 ok hn r_v0 r_v2  h
def e52 (F : Nat) (a0 : Nat) (a1 : Int32) (a2 : Nat) (a3 : Int32) (hp : List mE) : Option (Unit × List mE) := m52_0 F a0 a1 a2 a3 hp
theorem c52 {d : Nat} (hd : 1 ≤ d) (F : Nat) (a0 : Nat) (a1 : Int32) (a2 : Nat) (a3 : Int32) (hp : List mE) (v : Unit) (hp' : List mE) (ra0 : a0 < hp.length) (ra2 : a2 < hp.length) (h : e52 F a0 a1 a2 a3 hp = some (v, hp')) : Rn d 52 0 (lv_args 0 [.ref a0, .int a1, .ref a2, .int a3]) [] hp 0 0 (none, hp', 0, 0) :=
  t52_0 (n := hp.length) hd F a0 a1 a2 a3 (lv_args 0 [.ref a0, .int a1, .ref a2, .int a3]) hp v hp' rfl rfl rfl rfl (lvk_args (okc (okr ra0) (okc rfl (okc (okr ra2) (okc rfl okn))))) rfl ra0 ra2 h
/-! MirrorRoots$Roots.imageAt -/
def m53_0 (F : Nat) (v0 : Nat) (v1 : Int32) (v2 : Int32) (v3 : Int32) (hp : List mE) : Option (Int64 × List mE) :=
  (gfr 5 0 hp v0).bind fun x1 =>
  (gfr 5 2 hp v0).bind fun x2 =>
  (rcv 3 hp x1).bind fun u4 =>
  (e38 F x1 x2 0 v2 hp).bind fun q3 =>
  (gfr 5 2 q3.2 v0).bind fun x5 =>
  (rcv 5 q3.2 v0).bind fun u7 =>
  (e52 F v0 v1 x5 0 q3.2).bind fun q6 =>
  (gfr 5 2 q6.2 v0).bind fun x8 =>
  (rdJ q6.2 x8 v3).bind fun x9 =>
  some (x9, q6.2)
theorem t53_0 {d c w n : Nat} (hd : 2 ≤ d) (F : Nat) : ∀ (v0 : Nat) (v1 : Int32) (v2 : Int32) (v3 : Int32) (lv : List (Nat × Value)) (hp : List mE) (v : Int64) (hp' : List mE), alk 0 lv = some (.ref v0) → alk 1 lv = some (.int v1) → alk 2 lv = some (.int v2) → alk 3 lv = some (.int v3) → lvk n lv → hp.length = n → v0 < n → m53_0 F v0 v1 v2 v3 hp = some (v, hp') → Rn d 53 0 lv [] hp c w (some (.long v), hp', c, w) := by
  obtain ⟨d', rfl⟩ : ∃ d', d = d' + 1 := ⟨d - 1, by omega⟩
  intro v0 v1 v2 v3 lv hp v hp' l0 l1 l2 l3 ok hn r_v0 h
  unfold m53_0 at h
  refine Rn.aload_n n53_0 l0 ?_
  obtain ⟨x1, hx1, h⟩ := Option.bind_eq_some_iff.mp h
  refine Rn.gf n53_1 mo53 fl5_18 (gfr_v hx1).1 ?_
  have r_x1 : x1 < n := by rw [← hn]; exact (gfr_v hx1).2
  refine Rn.aload_n n53_4 l0 ?_
  obtain ⟨x2, hx2, h⟩ := Option.bind_eq_some_iff.mp h
  refine Rn.gf n53_5 mo53 fl5_9 (gfr_v hx2).1 ?_
  have r_x2 : x2 < n := by rw [← hn]; exact (gfr_v hx2).2
  refine Rn.ic (v := 0) n53_8 (by decide) ?_
  refine Rn.iload_n n53_9 l2 ?_
  obtain ⟨u4, hu4, h⟩ := Option.bind_eq_some_iff.mp h
  obtain ⟨q3, hq3, h⟩ := Option.bind_eq_some_iff.mp h
  have gq3 := c38 (d := d') (by omega) F _ _ _ _ _ _ _ (by rw [hn]; exact r_x1) (by rw [hn]; exact r_x2) hq3
  refine Rn.cv (As := [.ref x2, .int 0, .int v2]) (rr := []) n53_10 mo53 mm5_42 (by decide) mq38 rfl rfl rfl rfl (by rw [mo38]; exact hu4) (Nat.le_of_ble_eq_true rfl) (by rw [hn]; exact (okc (okr r_x1) (okc (okr r_x2) (okc rfl (okc rfl okn))))) (by rw [hn]; exact okn) (by rw [hn]; exact ok) (by rw [ml38]; exact Nat.le_of_ble_eq_true rfl) gq3 ?_
  have hn := (Rn.len gq3).trans hn
  show Rn _ 53 13 lv [] q3.2 c w _
  refine Rn.aload_n n53_13 l0 ?_
  refine Rn.iload_n n53_14 l1 ?_
  refine Rn.aload_n n53_15 l0 ?_
  obtain ⟨x5, hx5, h⟩ := Option.bind_eq_some_iff.mp h
  refine Rn.gf n53_16 mo53 fl5_9 (gfr_v hx5).1 ?_
  have r_x5 : x5 < n := by rw [← hn]; exact (gfr_v hx5).2
  refine Rn.ic (v := 0) n53_19 (by decide) ?_
  obtain ⟨u7, hu7, h⟩ := Option.bind_eq_some_iff.mp h
  obtain ⟨q6, hq6, h⟩ := Option.bind_eq_some_iff.mp h
  have gq6 := c52 (d := d') (by omega) F _ _ _ _ _ _ _ (by rw [hn]; exact r_v0) (by rw [hn]; exact r_x5) hq6
  refine Rn.cv (As := [.int v1, .ref x5, .int 0]) (rr := []) n53_20 mo53 mm5_45 (by decide) mq52 rfl rfl rfl rfl (by rw [mo52]; exact hu7) (Nat.le_of_ble_eq_true rfl) (by rw [hn]; exact (okc (okr r_v0) (okc rfl (okc (okr r_x5) (okc rfl okn))))) (by rw [hn]; exact okn) (by rw [hn]; exact ok) (by rw [ml52]; exact Nat.le_of_ble_eq_true rfl) gq6 ?_
  have hn := (Rn.len gq6).trans hn
  show Rn _ 53 23 lv [] q6.2 c w _
  refine Rn.aload_n n53_23 l0 ?_
  obtain ⟨x8, hx8, h⟩ := Option.bind_eq_some_iff.mp h
  refine Rn.gf n53_24 mo53 fl5_9 (gfr_v hx8).1 ?_
  have r_x8 : x8 < n := by rw [← hn]; exact (gfr_v hx8).2
  refine Rn.iload_n n53_27 l3 ?_
  obtain ⟨x9, hx9, h⟩ := Option.bind_eq_some_iff.mp h
  refine Rn.lald n53_28 hx9 ?_
  have e1 := (Prod.mk.inj (Option.some.inj h)).1
  have e2 := (Prod.mk.inj (Option.some.inj h)).2
  subst e1
  subst e2
  exact Rn.lret n53_29 mr53
def e53 (F : Nat) (a0 : Nat) (a1 : Int32) (a2 : Int32) (a3 : Int32) (hp : List mE) : Option (Int64 × List mE) := m53_0 F a0 a1 a2 a3 hp
theorem c53 {d : Nat} (hd : 2 ≤ d) (F : Nat) (a0 : Nat) (a1 : Int32) (a2 : Int32) (a3 : Int32) (hp : List mE) (v : Int64) (hp' : List mE) (ra0 : a0 < hp.length) (h : e53 F a0 a1 a2 a3 hp = some (v, hp')) : Rn d 53 0 (lv_args 0 [.ref a0, .int a1, .int a2, .int a3]) [] hp 0 0 (some (.long v), hp', 0, 0) :=
  t53_0 (n := hp.length) hd F a0 a1 a2 a3 (lv_args 0 [.ref a0, .int a1, .int a2, .int a3]) hp v hp' rfl rfl rfl rfl (lvk_args (okc (okr ra0) (okc rfl (okc rfl (okc rfl okn))))) rfl ra0 h
/-! MirrorRoots$Roots.inversionAt -/
def m54_43 (F : Nat) : Nat → Nat → Int32 → Int32 → Int32 → List mE → Option (Int64 × List mE)
  | 0, _, _, _, _, _ => none
  | f + 1, v0, v1, v3, v5, hp =>
    (gfr 5 1 hp v0).bind fun x1 =>
    (gfr 1 3 hp x1).bind fun x2 =>
    (rdI hp x2 v1).bind fun x3 =>
    if mc2 .ge v5 x3 = true then
      (gfr 5 2 hp v0).bind fun x5 =>
      (rdJ hp x5 v3).bind fun x6 =>
      some (x6, hp)
    else
      (gfr 5 0 hp v0).bind fun x7 =>
      (gfr 5 2 hp v0).bind fun x8 =>
      (gfr 5 1 hp v0).bind fun x9 =>
      (rcv 1 hp x9).bind fun u11 =>
      (e17 F x9 v1 v5 hp).bind fun q10 =>
      (rcv 3 q10.2 x7).bind fun u13 =>
      (e39 F x7 x8 0 q10.1 q10.2).bind fun q12 =>
      m54_43 F f v0 v1 v3 (v5 + 1) q12.2
theorem t54_43 {d c w n : Nat} (hd : 1 ≤ d) (F : Nat) : ∀ f : Nat, ∀ (v0 : Nat) (v1 : Int32) (v3 : Int32) (v5 : Int32) (lv : List (Nat × Value)) (hp : List mE) (v : Int64) (hp' : List mE), alk 0 lv = some (.ref v0) → alk 1 lv = some (.int v1) → alk 3 lv = some (.int v3) → alk 5 lv = some (.int v5) → lvk n lv → hp.length = n → v0 < n → m54_43 F f v0 v1 v3 v5 hp = some (v, hp') → Rn d 54 43 lv [] hp c w (some (.long v), hp', c, w) := by
  obtain ⟨d', rfl⟩ : ∃ d', d = d' + 1 := ⟨d - 1, by omega⟩
  intro f
  induction f with
  | zero => intro v0 v1 v3 v5 lv hp v hp' l0 l1 l3 l5 ok hn r_v0 h; cases h
  | succ f hr43 =>
    intro v0 v1 v3 v5 lv hp v hp' l0 l1 l3 l5 ok hn r_v0 h
    unfold m54_43 at h
    refine Rn.iload n54_43 l5 ?_
    refine Rn.aload_n n54_45 l0 ?_
    obtain ⟨x1, hx1, h⟩ := Option.bind_eq_some_iff.mp h
    refine Rn.gf n54_46 mo54 fl5_22 (gfr_v hx1).1 ?_
    have r_x1 : x1 < n := by rw [← hn]; exact (gfr_v hx1).2
    obtain ⟨x2, hx2, h⟩ := Option.bind_eq_some_iff.mp h
    refine Rn.gf n54_49 mo54 fl5_26 (gfr_v hx2).1 ?_
    have r_x2 : x2 < n := by rw [← hn]; exact (gfr_v hx2).2
    refine Rn.iload_n n54_52 l1 ?_
    obtain ⟨x3, hx3, h⟩ := Option.bind_eq_some_iff.mp h
    refine Rn.iald n54_53 hx3 ?_
    by_cases hc4 : mc2 .ge v5 x3 = true
    · rw [if_pos hc4] at h
      refine Rn.c2t (t := 85) n54_54 (by decide) hc4 ?_
      refine Rn.aload_n n54_85 l0 ?_
      obtain ⟨x5, hx5, h⟩ := Option.bind_eq_some_iff.mp h
      refine Rn.gf n54_86 mo54 fl5_9 (gfr_v hx5).1 ?_
      have r_x5 : x5 < n := by rw [← hn]; exact (gfr_v hx5).2
      refine Rn.iload_n n54_89 l3 ?_
      obtain ⟨x6, hx6, h⟩ := Option.bind_eq_some_iff.mp h
      refine Rn.lald n54_90 hx6 ?_
      have e1 := (Prod.mk.inj (Option.some.inj h)).1
      have e2 := (Prod.mk.inj (Option.some.inj h)).2
      subst e1
      subst e2
      exact Rn.lret n54_91 mr54
    · rw [if_neg hc4] at h
      refine Rn.c2f (t := 85) n54_54 (by decide) hc4 ?_
      refine Rn.aload_n n54_57 l0 ?_
      obtain ⟨x7, hx7, h⟩ := Option.bind_eq_some_iff.mp h
      refine Rn.gf n54_58 mo54 fl5_18 (gfr_v hx7).1 ?_
      have r_x7 : x7 < n := by rw [← hn]; exact (gfr_v hx7).2
      refine Rn.aload_n n54_61 l0 ?_
      obtain ⟨x8, hx8, h⟩ := Option.bind_eq_some_iff.mp h
      refine Rn.gf n54_62 mo54 fl5_9 (gfr_v hx8).1 ?_
      have r_x8 : x8 < n := by rw [← hn]; exact (gfr_v hx8).2
      refine Rn.ic (v := 0) n54_65 (by decide) ?_
      refine Rn.aload_n n54_66 l0 ?_
      obtain ⟨x9, hx9, h⟩ := Option.bind_eq_some_iff.mp h
      refine Rn.gf n54_67 mo54 fl5_22 (gfr_v hx9).1 ?_
      have r_x9 : x9 < n := by rw [← hn]; exact (gfr_v hx9).2
      refine Rn.iload_n n54_70 l1 ?_
      refine Rn.iload n54_71 l5 ?_
      obtain ⟨u11, hu11, h⟩ := Option.bind_eq_some_iff.mp h
      obtain ⟨q10, hq10, h⟩ := Option.bind_eq_some_iff.mp h
      have gq10 := c17 (d := d') (by omega) F _ _ _ _ _ _ (by rw [hn]; exact r_x9) hq10
      refine Rn.cv (As := [.int v1, .int v5]) (rr := [.int 0, .ref x8, .ref x7]) n54_73 mo54 mm5_32 (by decide) mq17 rfl rfl rfl rfl (by rw [mo17]; exact hu11) (Nat.le_of_ble_eq_true rfl) (by rw [hn]; exact (okc (okr r_x9) (okc rfl (okc rfl okn)))) (by rw [hn]; exact (okc rfl (okc (okr r_x8) (okc (okr r_x7) okn)))) (by rw [hn]; exact ok) (by rw [ml17]; exact Nat.le_of_ble_eq_true rfl) gq10 ?_
      have hn := (Rn.len gq10).trans hn
      show Rn _ 54 76 lv [.int q10.1, .int 0, .ref x8, .ref x7] q10.2 c w _
      obtain ⟨u13, hu13, h⟩ := Option.bind_eq_some_iff.mp h
      obtain ⟨q12, hq12, h⟩ := Option.bind_eq_some_iff.mp h
      have gq12 := c39 (d := d') (by omega) F _ _ _ _ _ _ _ (by rw [hn]; exact r_x7) (by rw [hn]; exact r_x8) hq12
      refine Rn.cv (As := [.ref x8, .int 0, .int q10.1]) (rr := []) n54_76 mo54 mm5_36 (by decide) mq39 rfl rfl rfl rfl (by rw [mo39]; exact hu13) (Nat.le_of_ble_eq_true rfl) (by rw [hn]; exact (okc (okr r_x7) (okc (okr r_x8) (okc rfl (okc rfl okn))))) (by rw [hn]; exact okn) (by rw [hn]; exact ok) (by rw [ml39]; exact Nat.le_of_ble_eq_true rfl) gq12 ?_
      have hn := (Rn.len gq12).trans hn
      show Rn _ 54 79 lv [] q12.2 c w _
      refine Rn.ii (m := n) (u := 1) n54_79 ml54 (by decide) (by decide) l5 (fun lv l5 hk hok => ?_)
      have l0 := hk 0 _ (by decide) (Or.inl rfl) l0
      have l1 := hk 1 _ (by decide) (Or.inl rfl) l1
      have l3 := hk 3 _ (by decide) (Or.inl rfl) l3
      have ok := hok ok
      refine Rn.goto (t := 43) n54_82 (by decide) ?_
      exact hr43 _ _ _ _ lv _ _ _ l0 l1 l3 l5 ok hn r_v0  h
def m54_0 (F : Nat) (v0 : Nat) (v1 : Int32) (v2 : Int32) (v3 : Int32) (hp : List mE) : Option (Int64 × List mE) :=
  (gfr 5 1 hp v0).bind fun x1 =>
  (gfr 1 3 hp x1).bind fun x2 =>
  (rdI hp x2 v1).bind fun x3 =>
  (gfr 5 0 hp v0).bind fun x4 =>
  (gfr 5 2 hp v0).bind fun x5 =>
  (gfr 5 1 hp v0).bind fun x6 =>
  (rcv 1 hp x6).bind fun u8 =>
  (e17 F x6 v1 ((x3 - 1) - v2) hp).bind fun q7 =>
  (rcv 3 q7.2 x4).bind fun u10 =>
  (e38 F x4 x5 0 q7.1 q7.2).bind fun q9 =>
  m54_43 F F v0 v1 v3 (((x3 - 1) - v2) + 1) q9.2
theorem t54_0 {d c w n : Nat} (hd : 1 ≤ d) (F : Nat) : ∀ (v0 : Nat) (v1 : Int32) (v2 : Int32) (v3 : Int32) (lv : List (Nat × Value)) (hp : List mE) (v : Int64) (hp' : List mE), alk 0 lv = some (.ref v0) → alk 1 lv = some (.int v1) → alk 2 lv = some (.int v2) → alk 3 lv = some (.int v3) → lvk n lv → hp.length = n → v0 < n → m54_0 F v0 v1 v2 v3 hp = some (v, hp') → Rn d 54 0 lv [] hp c w (some (.long v), hp', c, w) := by
  obtain ⟨d', rfl⟩ : ∃ d', d = d' + 1 := ⟨d - 1, by omega⟩
  intro v0 v1 v2 v3 lv hp v hp' l0 l1 l2 l3 ok hn r_v0 h
  unfold m54_0 at h
  refine Rn.aload_n n54_0 l0 ?_
  obtain ⟨x1, hx1, h⟩ := Option.bind_eq_some_iff.mp h
  refine Rn.gf n54_1 mo54 fl5_22 (gfr_v hx1).1 ?_
  have r_x1 : x1 < n := by rw [← hn]; exact (gfr_v hx1).2
  obtain ⟨x2, hx2, h⟩ := Option.bind_eq_some_iff.mp h
  refine Rn.gf n54_4 mo54 fl5_26 (gfr_v hx2).1 ?_
  have r_x2 : x2 < n := by rw [← hn]; exact (gfr_v hx2).2
  refine Rn.iload_n n54_7 l1 ?_
  obtain ⟨x3, hx3, h⟩ := Option.bind_eq_some_iff.mp h
  refine Rn.iald n54_8 hx3 ?_
  refine Rn.ic (v := 1) n54_9 (by decide) ?_
  refine Rn.p n54_10 rfl ?_
  refine Rn.iload_n n54_11 l2 ?_
  refine Rn.p n54_12 rfl ?_
  refine Rn.is (m := n) n54_13 ml54 (by decide) (fun lv l4 hk hok => ?_)
  have l0 := hk 0 _ (by decide) (Or.inl rfl) l0
  have l1 := hk 1 _ (by decide) (Or.inl rfl) l1
  have l2 := hk 2 _ (by decide) (Or.inl rfl) l2
  have l3 := hk 3 _ (by decide) (Or.inl rfl) l3
  have ok := hok ok
  refine Rn.aload_n n54_15 l0 ?_
  obtain ⟨x4, hx4, h⟩ := Option.bind_eq_some_iff.mp h
  refine Rn.gf n54_16 mo54 fl5_18 (gfr_v hx4).1 ?_
  have r_x4 : x4 < n := by rw [← hn]; exact (gfr_v hx4).2
  refine Rn.aload_n n54_19 l0 ?_
  obtain ⟨x5, hx5, h⟩ := Option.bind_eq_some_iff.mp h
  refine Rn.gf n54_20 mo54 fl5_9 (gfr_v hx5).1 ?_
  have r_x5 : x5 < n := by rw [← hn]; exact (gfr_v hx5).2
  refine Rn.ic (v := 0) n54_23 (by decide) ?_
  refine Rn.aload_n n54_24 l0 ?_
  obtain ⟨x6, hx6, h⟩ := Option.bind_eq_some_iff.mp h
  refine Rn.gf n54_25 mo54 fl5_22 (gfr_v hx6).1 ?_
  have r_x6 : x6 < n := by rw [← hn]; exact (gfr_v hx6).2
  refine Rn.iload_n n54_28 l1 ?_
  refine Rn.iload n54_29 l4 ?_
  obtain ⟨u8, hu8, h⟩ := Option.bind_eq_some_iff.mp h
  obtain ⟨q7, hq7, h⟩ := Option.bind_eq_some_iff.mp h
  have gq7 := c17 (d := d') (by omega) F _ _ _ _ _ _ (by rw [hn]; exact r_x6) hq7
  refine Rn.cv (As := [.int v1, .int ((x3 - 1) - v2)]) (rr := [.int 0, .ref x5, .ref x4]) n54_31 mo54 mm5_32 (by decide) mq17 rfl rfl rfl rfl (by rw [mo17]; exact hu8) (Nat.le_of_ble_eq_true rfl) (by rw [hn]; exact (okc (okr r_x6) (okc rfl (okc rfl okn)))) (by rw [hn]; exact (okc rfl (okc (okr r_x5) (okc (okr r_x4) okn)))) (by rw [hn]; exact ok) (by rw [ml17]; exact Nat.le_of_ble_eq_true rfl) gq7 ?_
  have hn := (Rn.len gq7).trans hn
  show Rn _ 54 34 lv [.int q7.1, .int 0, .ref x5, .ref x4] q7.2 c w _
  obtain ⟨u10, hu10, h⟩ := Option.bind_eq_some_iff.mp h
  obtain ⟨q9, hq9, h⟩ := Option.bind_eq_some_iff.mp h
  have gq9 := c38 (d := d') (by omega) F _ _ _ _ _ _ _ (by rw [hn]; exact r_x4) (by rw [hn]; exact r_x5) hq9
  refine Rn.cv (As := [.ref x5, .int 0, .int q7.1]) (rr := []) n54_34 mo54 mm5_42 (by decide) mq38 rfl rfl rfl rfl (by rw [mo38]; exact hu10) (Nat.le_of_ble_eq_true rfl) (by rw [hn]; exact (okc (okr r_x4) (okc (okr r_x5) (okc rfl (okc rfl okn))))) (by rw [hn]; exact okn) (by rw [hn]; exact ok) (by rw [ml38]; exact Nat.le_of_ble_eq_true rfl) gq9 ?_
  have hn := (Rn.len gq9).trans hn
  show Rn _ 54 37 lv [] q9.2 c w _
  refine Rn.iload n54_37 l4 ?_
  refine Rn.ic (v := 1) n54_39 (by decide) ?_
  refine Rn.p n54_40 rfl ?_
  refine Rn.is (m := n) n54_41 ml54 (by decide) (fun lv l5 hk hok => ?_)
  have l0 := hk 0 _ (by decide) (Or.inl rfl) l0
  have l1 := hk 1 _ (by decide) (Or.inl rfl) l1
  have l2 := hk 2 _ (by decide) (Or.inl rfl) l2
  have l3 := hk 3 _ (by decide) (Or.inl rfl) l3
  have l4 := hk 4 _ (by decide) (Or.inl rfl) l4
  have ok := hok ok
  exact t54_43 hd F  F _ _ _ _ lv _ _ _ l0 l1 l3 l5 ok hn r_v0  h
def e54 (F : Nat) (a0 : Nat) (a1 : Int32) (a2 : Int32) (a3 : Int32) (hp : List mE) : Option (Int64 × List mE) := m54_0 F a0 a1 a2 a3 hp
theorem c54 {d : Nat} (hd : 1 ≤ d) (F : Nat) (a0 : Nat) (a1 : Int32) (a2 : Int32) (a3 : Int32) (hp : List mE) (v : Int64) (hp' : List mE) (ra0 : a0 < hp.length) (h : e54 F a0 a1 a2 a3 hp = some (v, hp')) : Rn d 54 0 (lv_args 0 [.ref a0, .int a1, .int a2, .int a3]) [] hp 0 0 (some (.long v), hp', 0, 0) :=
  t54_0 (n := hp.length) hd F a0 a1 a2 a3 (lv_args 0 [.ref a0, .int a1, .int a2, .int a3]) hp v hp' rfl rfl rfl rfl (lvk_args (okc (okr ra0) (okc rfl (okc rfl (okc rfl okn))))) rfl ra0 h
/-! MirrorRoots$Roots.exchanged -/
def m55_25 (F : Nat) : Nat → Nat → Int32 → Int32 → List mE → Option (Int32 × List mE)
  | 0, _, _, _, _ => none
  | f + 1, v0, v1, v3, hp =>
    if mc1 .lt v3 = true then
      some ((-1), hp)
    else
      (gfr 5 1 hp v0).bind fun x2 =>
      (rcv 1 hp x2).bind fun u4 =>
      (e17 F x2 v1 v3 hp).bind fun q3 =>
      (gfr 5 0 q3.2 v0).bind fun x5 =>
      (gfr 5 2 q3.2 v0).bind fun x6 =>
      (rcv 3 q3.2 x5).bind fun u8 =>
      (e39 F x5 x6 0 q3.1 q3.2).bind fun q7 =>
      (gfr 5 2 q7.2 v0).bind fun x9 =>
      (rdJ q7.2 x9 q3.1).bind fun x10 =>
      if mc1 .ge (lg_cmp x10 0) = true then
        m55_25 F f v0 v1 (v3 + (-1)) q7.2
      else
        some (v3, q7.2)
theorem t55_25 {d c w n : Nat} (hd : 1 ≤ d) (F : Nat) : ∀ f : Nat, ∀ (v0 : Nat) (v1 : Int32) (v3 : Int32) (lv : List (Nat × Value)) (hp : List mE) (v : Int32) (hp' : List mE), alk 0 lv = some (.ref v0) → alk 1 lv = some (.int v1) → alk 3 lv = some (.int v3) → lvk n lv → hp.length = n → v0 < n → m55_25 F f v0 v1 v3 hp = some (v, hp') → Rn d 55 25 lv [] hp c w (some (.int v), hp', c, w) := by
  obtain ⟨d', rfl⟩ : ∃ d', d = d' + 1 := ⟨d - 1, by omega⟩
  intro f
  induction f with
  | zero => intro v0 v1 v3 lv hp v hp' l0 l1 l3 ok hn r_v0 h; cases h
  | succ f hr25 =>
    intro v0 v1 v3 lv hp v hp' l0 l1 l3 ok hn r_v0 h
    unfold m55_25 at h
    refine Rn.iload_n n55_25 l3 ?_
    by_cases hc1 : mc1 .lt v3 = true
    · rw [if_pos hc1] at h
      refine Rn.c1t (t := 74) n55_26 (by decide) hc1 ?_
      refine Rn.ic (v := (-1)) n55_74 (by decide) ?_
      have e1 := (Prod.mk.inj (Option.some.inj h)).1
      have e2 := (Prod.mk.inj (Option.some.inj h)).2
      subst e1
      subst e2
      exact Rn.iret n55_75 mr55
    · rw [if_neg hc1] at h
      refine Rn.c1f (t := 74) n55_26 (by decide) hc1 ?_
      refine Rn.aload_n n55_29 l0 ?_
      obtain ⟨x2, hx2, h⟩ := Option.bind_eq_some_iff.mp h
      refine Rn.gf n55_30 mo55 fl5_22 (gfr_v hx2).1 ?_
      have r_x2 : x2 < n := by rw [← hn]; exact (gfr_v hx2).2
      refine Rn.iload_n n55_33 l1 ?_
      refine Rn.iload_n n55_34 l3 ?_
      obtain ⟨u4, hu4, h⟩ := Option.bind_eq_some_iff.mp h
      obtain ⟨q3, hq3, h⟩ := Option.bind_eq_some_iff.mp h
      have gq3 := c17 (d := d') (by omega) F _ _ _ _ _ _ (by rw [hn]; exact r_x2) hq3
      refine Rn.cv (As := [.int v1, .int v3]) (rr := []) n55_35 mo55 mm5_32 (by decide) mq17 rfl rfl rfl rfl (by rw [mo17]; exact hu4) (Nat.le_of_ble_eq_true rfl) (by rw [hn]; exact (okc (okr r_x2) (okc rfl (okc rfl okn)))) (by rw [hn]; exact okn) (by rw [hn]; exact ok) (by rw [ml17]; exact Nat.le_of_ble_eq_true rfl) gq3 ?_
      have hn := (Rn.len gq3).trans hn
      show Rn _ 55 38 lv [.int q3.1] q3.2 c w _
      refine Rn.is (m := n) n55_38 ml55 (by decide) (fun lv l4 hk hok => ?_)
      have l0 := hk 0 _ (by decide) (Or.inl rfl) l0
      have l1 := hk 1 _ (by decide) (Or.inl rfl) l1
      have l3 := hk 3 _ (by decide) (Or.inl rfl) l3
      have ok := hok ok
      refine Rn.aload_n n55_40 l0 ?_
      obtain ⟨x5, hx5, h⟩ := Option.bind_eq_some_iff.mp h
      refine Rn.gf n55_41 mo55 fl5_18 (gfr_v hx5).1 ?_
      have r_x5 : x5 < n := by rw [← hn]; exact (gfr_v hx5).2
      refine Rn.aload_n n55_44 l0 ?_
      obtain ⟨x6, hx6, h⟩ := Option.bind_eq_some_iff.mp h
      refine Rn.gf n55_45 mo55 fl5_9 (gfr_v hx6).1 ?_
      have r_x6 : x6 < n := by rw [← hn]; exact (gfr_v hx6).2
      refine Rn.ic (v := 0) n55_48 (by decide) ?_
      refine Rn.iload n55_49 l4 ?_
      obtain ⟨u8, hu8, h⟩ := Option.bind_eq_some_iff.mp h
      obtain ⟨q7, hq7, h⟩ := Option.bind_eq_some_iff.mp h
      have gq7 := c39 (d := d') (by omega) F _ _ _ _ _ _ _ (by rw [hn]; exact r_x5) (by rw [hn]; exact r_x6) hq7
      refine Rn.cv (As := [.ref x6, .int 0, .int q3.1]) (rr := []) n55_51 mo55 mm5_36 (by decide) mq39 rfl rfl rfl rfl (by rw [mo39]; exact hu8) (Nat.le_of_ble_eq_true rfl) (by rw [hn]; exact (okc (okr r_x5) (okc (okr r_x6) (okc rfl (okc rfl okn))))) (by rw [hn]; exact okn) (by rw [hn]; exact ok) (by rw [ml39]; exact Nat.le_of_ble_eq_true rfl) gq7 ?_
      have hn := (Rn.len gq7).trans hn
      show Rn _ 55 54 lv [] q7.2 c w _
      refine Rn.aload_n n55_54 l0 ?_
      obtain ⟨x9, hx9, h⟩ := Option.bind_eq_some_iff.mp h
      refine Rn.gf n55_55 mo55 fl5_9 (gfr_v hx9).1 ?_
      have r_x9 : x9 < n := by rw [← hn]; exact (gfr_v hx9).2
      refine Rn.iload n55_58 l4 ?_
      obtain ⟨x10, hx10, h⟩ := Option.bind_eq_some_iff.mp h
      refine Rn.lald n55_60 hx10 ?_
      refine Rn.lc (v := 0) n55_61 (by decide) ?_
      refine Rn.p n55_62 rfl ?_
      by_cases hc11 : mc1 .ge (lg_cmp x10 0) = true
      · rw [if_pos hc11] at h
        refine Rn.c1t (t := 68) n55_63 (by decide) hc11 ?_
        refine Rn.ii (m := n) (u := (-1)) n55_68 ml55 (by decide) (by decide) l3 (fun lv l3 hk hok => ?_)
        have l0 := hk 0 _ (by decide) (Or.inl rfl) l0
        have l1 := hk 1 _ (by decide) (Or.inl rfl) l1
        have l4 := hk 4 _ (by decide) (Or.inl rfl) l4
        have ok := hok ok
        refine Rn.goto (t := 25) n55_71 (by decide) ?_
        exact hr25 _ _ _ lv _ _ _ l0 l1 l3 ok hn r_v0  h
      · rw [if_neg hc11] at h
        refine Rn.c1f (t := 68) n55_63 (by decide) hc11 ?_
        refine Rn.iload_n n55_66 l3 ?_
        have e1 := (Prod.mk.inj (Option.some.inj h)).1
        have e2 := (Prod.mk.inj (Option.some.inj h)).2
        subst e1
        subst e2
        exact Rn.iret n55_67 mr55
def m55_0 (F : Nat) (v0 : Nat) (v1 : Int32) (v2 : Int32) (hp : List mE) : Option (Int32 × List mE) :=
  (gfr 5 0 hp v0).bind fun x1 =>
  (gfr 5 2 hp v0).bind fun x2 =>
  (rcv 3 hp x1).bind fun u4 =>
  (e38 F x1 x2 0 v2 hp).bind fun q3 =>
  (gfr 5 1 q3.2 v0).bind fun x5 =>
  (gfr 1 3 q3.2 x5).bind fun x6 =>
  (rdI q3.2 x6 v1).bind fun x7 =>
  m55_25 F F v0 v1 (x7 - 1) q3.2
theorem t55_0 {d c w n : Nat} (hd : 1 ≤ d) (F : Nat) : ∀ (v0 : Nat) (v1 : Int32) (v2 : Int32) (lv : List (Nat × Value)) (hp : List mE) (v : Int32) (hp' : List mE), alk 0 lv = some (.ref v0) → alk 1 lv = some (.int v1) → alk 2 lv = some (.int v2) → lvk n lv → hp.length = n → v0 < n → m55_0 F v0 v1 v2 hp = some (v, hp') → Rn d 55 0 lv [] hp c w (some (.int v), hp', c, w) := by
  obtain ⟨d', rfl⟩ : ∃ d', d = d' + 1 := ⟨d - 1, by omega⟩
  intro v0 v1 v2 lv hp v hp' l0 l1 l2 ok hn r_v0 h
  unfold m55_0 at h
  refine Rn.aload_n n55_0 l0 ?_
  obtain ⟨x1, hx1, h⟩ := Option.bind_eq_some_iff.mp h
  refine Rn.gf n55_1 mo55 fl5_18 (gfr_v hx1).1 ?_
  have r_x1 : x1 < n := by rw [← hn]; exact (gfr_v hx1).2
  refine Rn.aload_n n55_4 l0 ?_
  obtain ⟨x2, hx2, h⟩ := Option.bind_eq_some_iff.mp h
  refine Rn.gf n55_5 mo55 fl5_9 (gfr_v hx2).1 ?_
  have r_x2 : x2 < n := by rw [← hn]; exact (gfr_v hx2).2
  refine Rn.ic (v := 0) n55_8 (by decide) ?_
  refine Rn.iload_n n55_9 l2 ?_
  obtain ⟨u4, hu4, h⟩ := Option.bind_eq_some_iff.mp h
  obtain ⟨q3, hq3, h⟩ := Option.bind_eq_some_iff.mp h
  have gq3 := c38 (d := d') (by omega) F _ _ _ _ _ _ _ (by rw [hn]; exact r_x1) (by rw [hn]; exact r_x2) hq3
  refine Rn.cv (As := [.ref x2, .int 0, .int v2]) (rr := []) n55_10 mo55 mm5_42 (by decide) mq38 rfl rfl rfl rfl (by rw [mo38]; exact hu4) (Nat.le_of_ble_eq_true rfl) (by rw [hn]; exact (okc (okr r_x1) (okc (okr r_x2) (okc rfl (okc rfl okn))))) (by rw [hn]; exact okn) (by rw [hn]; exact ok) (by rw [ml38]; exact Nat.le_of_ble_eq_true rfl) gq3 ?_
  have hn := (Rn.len gq3).trans hn
  show Rn _ 55 13 lv [] q3.2 c w _
  refine Rn.aload_n n55_13 l0 ?_
  obtain ⟨x5, hx5, h⟩ := Option.bind_eq_some_iff.mp h
  refine Rn.gf n55_14 mo55 fl5_22 (gfr_v hx5).1 ?_
  have r_x5 : x5 < n := by rw [← hn]; exact (gfr_v hx5).2
  obtain ⟨x6, hx6, h⟩ := Option.bind_eq_some_iff.mp h
  refine Rn.gf n55_17 mo55 fl5_26 (gfr_v hx6).1 ?_
  have r_x6 : x6 < n := by rw [← hn]; exact (gfr_v hx6).2
  refine Rn.iload_n n55_20 l1 ?_
  obtain ⟨x7, hx7, h⟩ := Option.bind_eq_some_iff.mp h
  refine Rn.iald n55_21 hx7 ?_
  refine Rn.ic (v := 1) n55_22 (by decide) ?_
  refine Rn.p n55_23 rfl ?_
  refine Rn.isn (m := n) n55_24 rfl ml55 (by decide) (fun lv l3 hk hok => ?_)
  have l0 := hk 0 _ (by decide) (Or.inl rfl) l0
  have l1 := hk 1 _ (by decide) (Or.inl rfl) l1
  have l2 := hk 2 _ (by decide) (Or.inl rfl) l2
  have ok := hok ok
  exact t55_25 hd F  F _ _ _ lv _ _ _ l0 l1 l3 ok hn r_v0  h
def e55 (F : Nat) (a0 : Nat) (a1 : Int32) (a2 : Int32) (hp : List mE) : Option (Int32 × List mE) := m55_0 F a0 a1 a2 hp
theorem c55 {d : Nat} (hd : 1 ≤ d) (F : Nat) (a0 : Nat) (a1 : Int32) (a2 : Int32) (hp : List mE) (v : Int32) (hp' : List mE) (ra0 : a0 < hp.length) (h : e55 F a0 a1 a2 hp = some (v, hp')) : Rn d 55 0 (lv_args 0 [.ref a0, .int a1, .int a2]) [] hp 0 0 (some (.int v), hp', 0, 0) :=
  t55_0 (n := hp.length) hd F a0 a1 a2 (lv_args 0 [.ref a0, .int a1, .int a2]) hp v hp' rfl rfl rfl (lvk_args (okc (okr ra0) (okc rfl (okc rfl okn)))) rfl ra0 h
/-! MirrorRoots$Roots.imagesAreStart -/
def m57_2 (F : Nat) : Nat → Nat → Int32 → List mE → Option (Int32 × List mE)
  | 0, _, _, _ => none
  | f + 1, v0, v1, hp =>
    (gfr 5 0 hp v0).bind fun x1 =>
    (gfi 3 0 hp x1).bind fun x2 =>
    if mc2 .ge v1 x2 = true then
      some (1, hp)
    else
      (gfr 5 0 hp v0).bind fun x4 =>
      (gfr 5 2 hp v0).bind fun x5 =>
      (rcv 3 hp x4).bind fun u7 =>
      (e38 F x4 x5 0 v1 hp).bind fun q6 =>
      (gfr 5 0 q6.2 v0).bind fun x8 =>
      (gfr 5 2 q6.2 v0).bind fun x9 =>
      (gfr 5 3 q6.2 v0).bind fun x10 =>
      (rcv 3 q6.2 x8).bind fun u12 =>
      (e43 F x8 x9 0 x10 (v1 * 5) q6.2).bind fun q11 =>
      if mc1 .ne q11.1 = true then
        m57_2 F f v0 (v1 + 1) q11.2
      else
        some (0, q11.2)
theorem t57_2 {d c w n : Nat} (hd : 1 ≤ d) (F : Nat) : ∀ f : Nat, ∀ (v0 : Nat) (v1 : Int32) (lv : List (Nat × Value)) (hp : List mE) (v : Int32) (hp' : List mE), alk 0 lv = some (.ref v0) → alk 1 lv = some (.int v1) → lvk n lv → hp.length = n → v0 < n → m57_2 F f v0 v1 hp = some (v, hp') → Rn d 57 2 lv [] hp c w (some (.int v), hp', c, w) := by
  obtain ⟨d', rfl⟩ : ∃ d', d = d' + 1 := ⟨d - 1, by omega⟩
  intro f
  induction f with
  | zero => intro v0 v1 lv hp v hp' l0 l1 ok hn r_v0 h; cases h
  | succ f hr2 =>
    intro v0 v1 lv hp v hp' l0 l1 ok hn r_v0 h
    unfold m57_2 at h
    refine Rn.iload_n n57_2 l1 ?_
    refine Rn.aload_n n57_3 l0 ?_
    obtain ⟨x1, hx1, h⟩ := Option.bind_eq_some_iff.mp h
    refine Rn.gf n57_4 mo57 fl5_18 (gfr_v hx1).1 ?_
    have r_x1 : x1 < n := by rw [← hn]; exact (gfr_v hx1).2
    obtain ⟨x2, hx2, h⟩ := Option.bind_eq_some_iff.mp h
    refine Rn.gf n57_7 mo57 fl5_49 (gfi_v hx2) ?_
    by_cases hc3 : mc2 .ge v1 x2 = true
    · rw [if_pos hc3] at h
      refine Rn.c2t (t := 56) n57_10 (by decide) hc3 ?_
      refine Rn.ic (v := 1) n57_56 (by decide) ?_
      have e1 := (Prod.mk.inj (Option.some.inj h)).1
      have e2 := (Prod.mk.inj (Option.some.inj h)).2
      subst e1
      subst e2
      exact Rn.zret n57_57 mr57 (Or.inr rfl)
    · rw [if_neg hc3] at h
      refine Rn.c2f (t := 56) n57_10 (by decide) hc3 ?_
      refine Rn.aload_n n57_13 l0 ?_
      obtain ⟨x4, hx4, h⟩ := Option.bind_eq_some_iff.mp h
      refine Rn.gf n57_14 mo57 fl5_18 (gfr_v hx4).1 ?_
      have r_x4 : x4 < n := by rw [← hn]; exact (gfr_v hx4).2
      refine Rn.aload_n n57_17 l0 ?_
      obtain ⟨x5, hx5, h⟩ := Option.bind_eq_some_iff.mp h
      refine Rn.gf n57_18 mo57 fl5_9 (gfr_v hx5).1 ?_
      have r_x5 : x5 < n := by rw [← hn]; exact (gfr_v hx5).2
      refine Rn.ic (v := 0) n57_21 (by decide) ?_
      refine Rn.iload_n n57_22 l1 ?_
      obtain ⟨u7, hu7, h⟩ := Option.bind_eq_some_iff.mp h
      obtain ⟨q6, hq6, h⟩ := Option.bind_eq_some_iff.mp h
      have gq6 := c38 (d := d') (by omega) F _ _ _ _ _ _ _ (by rw [hn]; exact r_x4) (by rw [hn]; exact r_x5) hq6
      refine Rn.cv (As := [.ref x5, .int 0, .int v1]) (rr := []) n57_23 mo57 mm5_42 (by decide) mq38 rfl rfl rfl rfl (by rw [mo38]; exact hu7) (Nat.le_of_ble_eq_true rfl) (by rw [hn]; exact (okc (okr r_x4) (okc (okr r_x5) (okc rfl (okc rfl okn))))) (by rw [hn]; exact okn) (by rw [hn]; exact ok) (by rw [ml38]; exact Nat.le_of_ble_eq_true rfl) gq6 ?_
      have hn := (Rn.len gq6).trans hn
      show Rn _ 57 26 lv [] q6.2 c w _
      refine Rn.aload_n n57_26 l0 ?_
      obtain ⟨x8, hx8, h⟩ := Option.bind_eq_some_iff.mp h
      refine Rn.gf n57_27 mo57 fl5_18 (gfr_v hx8).1 ?_
      have r_x8 : x8 < n := by rw [← hn]; exact (gfr_v hx8).2
      refine Rn.aload_n n57_30 l0 ?_
      obtain ⟨x9, hx9, h⟩ := Option.bind_eq_some_iff.mp h
      refine Rn.gf n57_31 mo57 fl5_9 (gfr_v hx9).1 ?_
      have r_x9 : x9 < n := by rw [← hn]; exact (gfr_v hx9).2
      refine Rn.ic (v := 0) n57_34 (by decide) ?_
      refine Rn.aload_n n57_35 l0 ?_
      obtain ⟨x10, hx10, h⟩ := Option.bind_eq_some_iff.mp h
      refine Rn.gf n57_36 mo57 fl5_15 (gfr_v hx10).1 ?_
      have r_x10 : x10 < n := by rw [← hn]; exact (gfr_v hx10).2
      refine Rn.iload_n n57_39 l1 ?_
      refine Rn.ic (v := 5) n57_40 (by decide) ?_
      refine Rn.p n57_41 rfl ?_
      obtain ⟨u12, hu12, h⟩ := Option.bind_eq_some_iff.mp h
      obtain ⟨q11, hq11, h⟩ := Option.bind_eq_some_iff.mp h
      have gq11 := c43 (d := d') (by omega) F _ _ _ _ _ _ _ _ (by rw [hn]; exact r_x8) (by rw [hn]; exact r_x9) (by rw [hn]; exact r_x10) hq11
      refine Rn.cv (As := [.ref x9, .int 0, .ref x10, .int (v1 * 5)]) (rr := []) n57_42 mo57 mm5_60 (by decide) mq43 rfl rfl rfl rfl (by rw [mo43]; exact hu12) (Nat.le_of_ble_eq_true rfl) (by rw [hn]; exact (okc (okr r_x8) (okc (okr r_x9) (okc rfl (okc (okr r_x10) (okc rfl okn)))))) (by rw [hn]; exact okn) (by rw [hn]; exact ok) (by rw [ml43]; exact Nat.le_of_ble_eq_true rfl) gq11 ?_
      have hn := (Rn.len gq11).trans hn
      show Rn _ 57 45 lv [.int q11.1] q11.2 c w _
      by_cases hc13 : mc1 .ne q11.1 = true
      · rw [if_pos hc13] at h
        refine Rn.c1t (t := 50) n57_45 (by decide) hc13 ?_
        refine Rn.ii (m := n) (u := 1) n57_50 ml57 (by decide) (by decide) l1 (fun lv l1 hk hok => ?_)
        have l0 := hk 0 _ (by decide) (Or.inl rfl) l0
        have ok := hok ok
        refine Rn.goto (t := 2) n57_53 (by decide) ?_
        exact hr2 _ _ lv _ _ _ l0 l1 ok hn r_v0  h
      · rw [if_neg hc13] at h
        refine Rn.c1f (t := 50) n57_45 (by decide) hc13 ?_
        refine Rn.ic (v := 0) n57_48 (by decide) ?_
        have e1 := (Prod.mk.inj (Option.some.inj h)).1
        have e2 := (Prod.mk.inj (Option.some.inj h)).2
        subst e1
        subst e2
        exact Rn.zret n57_49 mr57 (Or.inl rfl)
def m57_0 (F : Nat) (v0 : Nat) (hp : List mE) : Option (Int32 × List mE) :=
  m57_2 F F v0 0 hp
theorem t57_0 {d c w n : Nat} (hd : 1 ≤ d) (F : Nat) : ∀ (v0 : Nat) (lv : List (Nat × Value)) (hp : List mE) (v : Int32) (hp' : List mE), alk 0 lv = some (.ref v0) → lvk n lv → hp.length = n → v0 < n → m57_0 F v0 hp = some (v, hp') → Rn d 57 0 lv [] hp c w (some (.int v), hp', c, w) := by
  obtain ⟨d', rfl⟩ : ∃ d', d = d' + 1 := ⟨d - 1, by omega⟩
  intro v0 lv hp v hp' l0 ok hn r_v0 h
  unfold m57_0 at h
  refine Rn.ic (v := 0) n57_0 (by decide) ?_
  refine Rn.isn (m := n) n57_1 rfl ml57 (by decide) (fun lv l1 hk hok => ?_)
  have l0 := hk 0 _ (by decide) (Or.inl rfl) l0
  have ok := hok ok
  exact t57_2 hd F  F _ _ lv _ _ _ l0 l1 ok hn r_v0  h
def e57 (F : Nat) (a0 : Nat) (hp : List mE) : Option (Int32 × List mE) := m57_0 F a0 hp
theorem c57 {d : Nat} (hd : 1 ≤ d) (F : Nat) (a0 : Nat) (hp : List mE) (v : Int32) (hp' : List mE) (ra0 : a0 < hp.length) (h : e57 F a0 hp = some (v, hp')) : Rn d 57 0 (lv_args 0 [.ref a0]) [] hp 0 0 (some (.int v), hp', 0, 0) :=
  t57_0 (n := hp.length) hd F a0 (lv_args 0 [.ref a0]) hp v hp' rfl (lvk_args (okc (okr ra0) okn)) rfl ra0 h
/-! MirrorRoots$Roots.imagesAreFar -/
def m58_53 (F : Nat) (hp : List mE) : Option (Int32 × List mE) :=
  some (1, hp)
theorem t58_53 {d c w n : Nat} (hd : 0 ≤ d) (F : Nat) : ∀ (lv : List (Nat × Value)) (hp : List mE) (v : Int32) (hp' : List mE), lvk n lv → hp.length = n → m58_53 F hp = some (v, hp') → Rn d 58 53 lv [] hp c w (some (.int v), hp', c, w) := by
  intro lv hp v hp' ok hn h
  unfold m58_53 at h
  refine Rn.ic (v := 1) n58_53 (by decide) ?_
  have e1 := (Prod.mk.inj (Option.some.inj h)).1
  have e2 := (Prod.mk.inj (Option.some.inj h)).2
  subst e1
  subst e2
  exact Rn.zret n58_54 mr58 (Or.inr rfl)
def m58_15 (F : Nat) (rc2 : Nat → Int32 → List mE → Option (Int32 × List mE)) : Nat → Nat → Int32 → Int32 → List mE → Option (Int32 × List mE)
  | 0, _, _, _, _ => none
  | f + 1, v0, v1, v2, hp =>
    (gfr 5 0 hp v0).bind fun x1 =>
    (gfi 3 0 hp x1).bind fun x2 =>
    if mc2 .ge v2 x2 = true then
      rc2 v0 (v1 + 1) hp
    else
      (gfr 5 3 hp v0).bind fun x4 =>
      (rdJ hp x4 ((v1 * 5) + v2)).bind fun x5 =>
      if mc1 .gt (lg_cmp x5 1000000000000) = true then
        m58_53 F hp
      else
        if mc1 .ge (lg_cmp x5 ((-1000000000000))) = true then
          m58_15 F rc2 f v0 v1 (v2 + 1) hp
        else
          m58_53 F hp
theorem t58_15 {d c w n : Nat} (hd : 0 ≤ d) (F : Nat) {rc2 : Nat → Int32 → List mE → Option (Int32 × List mE)} (hr2 : ∀ (v0 : Nat) (v1 : Int32) (lv : List (Nat × Value)) (hp : List mE) (v : Int32) (hp' : List mE), alk 0 lv = some (.ref v0) → alk 1 lv = some (.int v1) → lvk n lv → hp.length = n → v0 < n → rc2 v0 v1 hp = some (v, hp') → Rn d 58 2 lv [] hp c w (some (.int v), hp', c, w)) : ∀ f : Nat, ∀ (v0 : Nat) (v1 : Int32) (v2 : Int32) (lv : List (Nat × Value)) (hp : List mE) (v : Int32) (hp' : List mE), alk 0 lv = some (.ref v0) → alk 1 lv = some (.int v1) → alk 2 lv = some (.int v2) → lvk n lv → hp.length = n → v0 < n → m58_15 F rc2 f v0 v1 v2 hp = some (v, hp') → Rn d 58 15 lv [] hp c w (some (.int v), hp', c, w) := by
  intro f
  induction f with
  | zero => intro v0 v1 v2 lv hp v hp' l0 l1 l2 ok hn r_v0 h; cases h
  | succ f hr15 =>
    intro v0 v1 v2 lv hp v hp' l0 l1 l2 ok hn r_v0 h
    unfold m58_15 at h
    refine Rn.iload_n n58_15 l2 ?_
    refine Rn.aload_n n58_16 l0 ?_
    obtain ⟨x1, hx1, h⟩ := Option.bind_eq_some_iff.mp h
    refine Rn.gf n58_17 mo58 fl5_18 (gfr_v hx1).1 ?_
    have r_x1 : x1 < n := by rw [← hn]; exact (gfr_v hx1).2
    obtain ⟨x2, hx2, h⟩ := Option.bind_eq_some_iff.mp h
    refine Rn.gf n58_20 mo58 fl5_49 (gfi_v hx2) ?_
    by_cases hc3 : mc2 .ge v2 x2 = true
    · rw [if_pos hc3] at h
      refine Rn.c2t (t := 61) n58_23 (by decide) hc3 ?_
      refine Rn.ii (m := n) (u := 1) n58_61 ml58 (by decide) (by decide) l1 (fun lv l1 hk hok => ?_)
      have l0 := hk 0 _ (by decide) (Or.inl rfl) l0
      have l2 := hk 2 _ (by decide) (Or.inl rfl) l2
      have ok := hok ok
      refine Rn.goto (t := 2) n58_64 (by decide) ?_
      exact hr2 _ _ lv _ _ _ l0 l1 ok hn r_v0  h
    · rw [if_neg hc3] at h
      refine Rn.c2f (t := 61) n58_23 (by decide) hc3 ?_
      refine Rn.aload_n n58_26 l0 ?_
      obtain ⟨x4, hx4, h⟩ := Option.bind_eq_some_iff.mp h
      refine Rn.gf n58_27 mo58 fl5_15 (gfr_v hx4).1 ?_
      have r_x4 : x4 < n := by rw [← hn]; exact (gfr_v hx4).2
      refine Rn.iload_n n58_30 l1 ?_
      refine Rn.ic (v := 5) n58_31 (by decide) ?_
      refine Rn.p n58_32 rfl ?_
      refine Rn.iload_n n58_33 l2 ?_
      refine Rn.p n58_34 rfl ?_
      obtain ⟨x5, hx5, h⟩ := Option.bind_eq_some_iff.mp h
      refine Rn.lald n58_35 hx5 ?_
      refine Rn.lsn (m := n) n58_36 rfl ml58 (by decide) (fun lv l3 hk hok => ?_)
      have l0 := hk 0 _ (by decide) (by decide) (Or.inl rfl) l0
      have l1 := hk 1 _ (by decide) (by decide) (Or.inl rfl) l1
      have l2 := hk 2 _ (by decide) (by decide) (Or.inl rfl) l2
      have ok := hok ok
      refine Rn.lload_n n58_37 l3 ?_
      refine Rn.ldc2 n58_38 mo58 cL5_64 ?_
      refine Rn.p n58_41 rfl ?_
      by_cases hc6 : mc1 .gt (lg_cmp x5 1000000000000) = true
      · rw [if_pos hc6] at h
        refine Rn.c1t (t := 53) n58_42 (by decide) hc6 ?_
        exact t58_53 hd F  lv _ _ _  ok hn   h
      · rw [if_neg hc6] at h
        refine Rn.c1f (t := 53) n58_42 (by decide) hc6 ?_
        refine Rn.lload_n n58_45 l3 ?_
        refine Rn.ldc2 n58_46 mo58 cL5_66 ?_
        refine Rn.p n58_49 rfl ?_
        by_cases hc7 : mc1 .ge (lg_cmp x5 ((-1000000000000))) = true
        · rw [if_pos hc7] at h
          refine Rn.c1t (t := 55) n58_50 (by decide) hc7 ?_
          refine Rn.ii (m := n) (u := 1) n58_55 ml58 (by decide) (by decide) l2 (fun lv l2 hk hok => ?_)
          have l0 := hk 0 _ (by decide) (Or.inl rfl) l0
          have l1 := hk 1 _ (by decide) (Or.inl rfl) l1
          have l3 := hk 3 _ (by decide) (Or.inr (by decide)) l3
          have ok := hok ok
          refine Rn.goto (t := 15) n58_58 (by decide) ?_
          exact hr15 _ _ _ lv _ _ _ l0 l1 l2 ok hn r_v0  h
        · rw [if_neg hc7] at h
          refine Rn.c1f (t := 55) n58_50 (by decide) hc7 ?_
          exact t58_53 hd F  lv _ _ _  ok hn   h
def m58_2 (F : Nat) : Nat → Nat → Int32 → List mE → Option (Int32 × List mE)
  | 0, _, _, _ => none
  | f + 1, v0, v1, hp =>
    (gfr 5 0 hp v0).bind fun x1 =>
    (gfi 3 0 hp x1).bind fun x2 =>
    if mc2 .ge v1 x2 = true then
      some (0, hp)
    else
      m58_15 F (m58_2 F f) F v0 v1 0 hp
theorem t58_2 {d c w n : Nat} (hd : 0 ≤ d) (F : Nat) : ∀ f : Nat, ∀ (v0 : Nat) (v1 : Int32) (lv : List (Nat × Value)) (hp : List mE) (v : Int32) (hp' : List mE), alk 0 lv = some (.ref v0) → alk 1 lv = some (.int v1) → lvk n lv → hp.length = n → v0 < n → m58_2 F f v0 v1 hp = some (v, hp') → Rn d 58 2 lv [] hp c w (some (.int v), hp', c, w) := by
  intro f
  induction f with
  | zero => intro v0 v1 lv hp v hp' l0 l1 ok hn r_v0 h; cases h
  | succ f hr2 =>
    intro v0 v1 lv hp v hp' l0 l1 ok hn r_v0 h
    unfold m58_2 at h
    refine Rn.iload_n n58_2 l1 ?_
    refine Rn.aload_n n58_3 l0 ?_
    obtain ⟨x1, hx1, h⟩ := Option.bind_eq_some_iff.mp h
    refine Rn.gf n58_4 mo58 fl5_18 (gfr_v hx1).1 ?_
    have r_x1 : x1 < n := by rw [← hn]; exact (gfr_v hx1).2
    obtain ⟨x2, hx2, h⟩ := Option.bind_eq_some_iff.mp h
    refine Rn.gf n58_7 mo58 fl5_49 (gfi_v hx2) ?_
    by_cases hc3 : mc2 .ge v1 x2 = true
    · rw [if_pos hc3] at h
      refine Rn.c2t (t := 67) n58_10 (by decide) hc3 ?_
      refine Rn.ic (v := 0) n58_67 (by decide) ?_
      have e1 := (Prod.mk.inj (Option.some.inj h)).1
      have e2 := (Prod.mk.inj (Option.some.inj h)).2
      subst e1
      subst e2
      exact Rn.zret n58_68 mr58 (Or.inl rfl)
    · rw [if_neg hc3] at h
      refine Rn.c2f (t := 67) n58_10 (by decide) hc3 ?_
      refine Rn.ic (v := 0) n58_13 (by decide) ?_
      refine Rn.isn (m := n) n58_14 rfl ml58 (by decide) (fun lv l2 hk hok => ?_)
      have l0 := hk 0 _ (by decide) (Or.inl rfl) l0
      have l1 := hk 1 _ (by decide) (Or.inl rfl) l1
      have ok := hok ok
      exact t58_15 hd F hr2 F _ _ _ lv _ _ _ l0 l1 l2 ok hn r_v0  h
def m58_0 (F : Nat) (v0 : Nat) (hp : List mE) : Option (Int32 × List mE) :=
  m58_2 F F v0 0 hp
theorem t58_0 {d c w n : Nat} (hd : 0 ≤ d) (F : Nat) : ∀ (v0 : Nat) (lv : List (Nat × Value)) (hp : List mE) (v : Int32) (hp' : List mE), alk 0 lv = some (.ref v0) → lvk n lv → hp.length = n → v0 < n → m58_0 F v0 hp = some (v, hp') → Rn d 58 0 lv [] hp c w (some (.int v), hp', c, w) := by
  intro v0 lv hp v hp' l0 ok hn r_v0 h
  unfold m58_0 at h
  refine Rn.ic (v := 0) n58_0 (by decide) ?_
  refine Rn.isn (m := n) n58_1 rfl ml58 (by decide) (fun lv l1 hk hok => ?_)
  have l0 := hk 0 _ (by decide) (Or.inl rfl) l0
  have ok := hok ok
  exact t58_2 hd F  F _ _ lv _ _ _ l0 l1 ok hn r_v0  h
def e58 (F : Nat) (a0 : Nat) (hp : List mE) : Option (Int32 × List mE) := m58_0 F a0 hp
theorem c58 {d : Nat} (hd : 0 ≤ d) (F : Nat) (a0 : Nat) (hp : List mE) (v : Int32) (hp' : List mE) (ra0 : a0 < hp.length) (h : e58 F a0 hp = some (v, hp')) : Rn d 58 0 (lv_args 0 [.ref a0]) [] hp 0 0 (some (.int v), hp', 0, 0) :=
  t58_0 (n := hp.length) hd F a0 (lv_args 0 [.ref a0]) hp v hp' rfl (lvk_args (okc (okr ra0) okn)) rfl ra0 h
/-! MirrorRoots$Roots.orderOf -/
def m56_44 (F : Nat) (rc36 : Nat → Int32 → Int32 → List mE → Option (Int32 × List mE)) : Nat → Nat → Int32 → Int32 → Int32 → List mE → Option (Int32 × List mE)
  | 0, _, _, _, _, _ => none
  | f + 1, v0, v1, v2, v3, hp =>
    (gfr 5 0 hp v0).bind fun x1 =>
    (gfi 3 0 hp x1).bind fun x2 =>
    if mc2 .ge v3 x2 = true then
      (rcv 5 hp v0).bind fun u5 =>
      (e57 F v0 hp).bind fun q4 =>
      if mc1 .eq q4.1 = true then
        (rcv 5 q4.2 v0).bind fun u8 =>
        (e58 F v0 q4.2).bind fun q7 =>
        if mc1 .eq q7.1 = true then
          rc36 v0 v1 (v2 + 1) q7.2
        else
          some ((-1), q7.2)
      else
        some (v2, q4.2)
    else
      (gfr 5 3 hp v0).bind fun x10 =>
      (rcv 5 hp v0).bind fun u12 =>
      (e52 F v0 v1 x10 (v3 * 5) hp).bind fun q11 =>
      m56_44 F rc36 f v0 v1 v2 (v3 + 1) q11.2
theorem t56_44 {d c w n : Nat} (hd : 2 ≤ d) (F : Nat) {rc36 : Nat → Int32 → Int32 → List mE → Option (Int32 × List mE)} (hr36 : ∀ (v0 : Nat) (v1 : Int32) (v2 : Int32) (lv : List (Nat × Value)) (hp : List mE) (v : Int32) (hp' : List mE), alk 0 lv = some (.ref v0) → alk 1 lv = some (.int v1) → alk 2 lv = some (.int v2) → lvk n lv → hp.length = n → v0 < n → rc36 v0 v1 v2 hp = some (v, hp') → Rn d 56 36 lv [] hp c w (some (.int v), hp', c, w)) : ∀ f : Nat, ∀ (v0 : Nat) (v1 : Int32) (v2 : Int32) (v3 : Int32) (lv : List (Nat × Value)) (hp : List mE) (v : Int32) (hp' : List mE), alk 0 lv = some (.ref v0) → alk 1 lv = some (.int v1) → alk 2 lv = some (.int v2) → alk 3 lv = some (.int v3) → lvk n lv → hp.length = n → v0 < n → m56_44 F rc36 f v0 v1 v2 v3 hp = some (v, hp') → Rn d 56 44 lv [] hp c w (some (.int v), hp', c, w) := by
  obtain ⟨d', rfl⟩ : ∃ d', d = d' + 1 := ⟨d - 1, by omega⟩
  intro f
  induction f with
  | zero => intro v0 v1 v2 v3 lv hp v hp' l0 l1 l2 l3 ok hn r_v0 h; cases h
  | succ f hr44 =>
    intro v0 v1 v2 v3 lv hp v hp' l0 l1 l2 l3 ok hn r_v0 h
    unfold m56_44 at h
    refine Rn.iload_n n56_44 l3 ?_
    refine Rn.aload_n n56_45 l0 ?_
    obtain ⟨x1, hx1, h⟩ := Option.bind_eq_some_iff.mp h
    refine Rn.gf n56_46 mo56 fl5_18 (gfr_v hx1).1 ?_
    have r_x1 : x1 < n := by rw [← hn]; exact (gfr_v hx1).2
    obtain ⟨x2, hx2, h⟩ := Option.bind_eq_some_iff.mp h
    refine Rn.gf n56_49 mo56 fl5_49 (gfi_v hx2) ?_
    by_cases hc3 : mc2 .ge v3 x2 = true
    · rw [if_pos hc3] at h
      refine Rn.c2t (t := 73) n56_52 (by decide) hc3 ?_
      refine Rn.aload_n n56_73 l0 ?_
      obtain ⟨u5, hu5, h⟩ := Option.bind_eq_some_iff.mp h
      obtain ⟨q4, hq4, h⟩ := Option.bind_eq_some_iff.mp h
      have gq4 := c57 (d := d') (by omega) F _ _ _ _ (by rw [hn]; exact r_v0) hq4
      refine Rn.cv (As := []) (rr := []) n56_74 mo56 mm5_53 (by decide) mq57 rfl rfl rfl rfl (by rw [mo57]; exact hu5) (Nat.le_of_ble_eq_true rfl) (by rw [hn]; exact (okc (okr r_v0) okn)) (by rw [hn]; exact okn) (by rw [hn]; exact ok) (by rw [ml57]; exact Nat.le_of_ble_eq_true rfl) gq4 ?_
      have hn := (Rn.len gq4).trans hn
      show Rn _ 56 77 lv [.int q4.1] q4.2 c w _
      by_cases hc6 : mc1 .eq q4.1 = true
      · rw [if_pos hc6] at h
        refine Rn.c1t (t := 82) n56_77 (by decide) hc6 ?_
        refine Rn.aload_n n56_82 l0 ?_
        obtain ⟨u8, hu8, h⟩ := Option.bind_eq_some_iff.mp h
        obtain ⟨q7, hq7, h⟩ := Option.bind_eq_some_iff.mp h
        have gq7 := c58 (d := d') (by omega) F _ _ _ _ (by rw [hn]; exact r_v0) hq7
        refine Rn.cv (As := []) (rr := []) n56_83 mo56 mm5_57 (by decide) mq58 rfl rfl rfl rfl (by rw [mo58]; exact hu8) (Nat.le_of_ble_eq_true rfl) (by rw [hn]; exact (okc (okr r_v0) okn)) (by rw [hn]; exact okn) (by rw [hn]; exact ok) (by rw [ml58]; exact Nat.le_of_ble_eq_true rfl) gq7 ?_
        have hn := (Rn.len gq7).trans hn
        show Rn _ 56 86 lv [.int q7.1] q7.2 c w _
        by_cases hc9 : mc1 .eq q7.1 = true
        · rw [if_pos hc9] at h
          refine Rn.c1t (t := 91) n56_86 (by decide) hc9 ?_
          refine Rn.ii (m := n) (u := 1) n56_91 ml56 (by decide) (by decide) l2 (fun lv l2 hk hok => ?_)
          have l0 := hk 0 _ (by decide) (Or.inl rfl) l0
          have l1 := hk 1 _ (by decide) (Or.inl rfl) l1
          have l3 := hk 3 _ (by decide) (Or.inl rfl) l3
          have ok := hok ok
          refine Rn.goto (t := 36) n56_94 (by decide) ?_
          exact hr36 _ _ _ lv _ _ _ l0 l1 l2 ok hn r_v0  h
        · rw [if_neg hc9] at h
          refine Rn.c1f (t := 91) n56_86 (by decide) hc9 ?_
          refine Rn.ic (v := (-1)) n56_89 (by decide) ?_
          have e1 := (Prod.mk.inj (Option.some.inj h)).1
          have e2 := (Prod.mk.inj (Option.some.inj h)).2
          subst e1
          subst e2
          exact Rn.iret n56_90 mr56
      · rw [if_neg hc6] at h
        refine Rn.c1f (t := 82) n56_77 (by decide) hc6 ?_
        refine Rn.iload_n n56_80 l2 ?_
        have e1 := (Prod.mk.inj (Option.some.inj h)).1
        have e2 := (Prod.mk.inj (Option.some.inj h)).2
        subst e1
        subst e2
        exact Rn.iret n56_81 mr56
    · rw [if_neg hc3] at h
      refine Rn.c2f (t := 73) n56_52 (by decide) hc3 ?_
      refine Rn.aload_n n56_55 l0 ?_
      refine Rn.iload_n n56_56 l1 ?_
      refine Rn.aload_n n56_57 l0 ?_
      obtain ⟨x10, hx10, h⟩ := Option.bind_eq_some_iff.mp h
      refine Rn.gf n56_58 mo56 fl5_15 (gfr_v hx10).1 ?_
      have r_x10 : x10 < n := by rw [← hn]; exact (gfr_v hx10).2
      refine Rn.iload_n n56_61 l3 ?_
      refine Rn.ic (v := 5) n56_62 (by decide) ?_
      refine Rn.p n56_63 rfl ?_
      obtain ⟨u12, hu12, h⟩ := Option.bind_eq_some_iff.mp h
      obtain ⟨q11, hq11, h⟩ := Option.bind_eq_some_iff.mp h
      have gq11 := c52 (d := d') (by omega) F _ _ _ _ _ _ _ (by rw [hn]; exact r_v0) (by rw [hn]; exact r_x10) hq11
      refine Rn.cv (As := [.int v1, .ref x10, .int (v3 * 5)]) (rr := []) n56_64 mo56 mm5_45 (by decide) mq52 rfl rfl rfl rfl (by rw [mo52]; exact hu12) (Nat.le_of_ble_eq_true rfl) (by rw [hn]; exact (okc (okr r_v0) (okc rfl (okc (okr r_x10) (okc rfl okn))))) (by rw [hn]; exact okn) (by rw [hn]; exact ok) (by rw [ml52]; exact Nat.le_of_ble_eq_true rfl) gq11 ?_
      have hn := (Rn.len gq11).trans hn
      show Rn _ 56 67 lv [] q11.2 c w _
      refine Rn.ii (m := n) (u := 1) n56_67 ml56 (by decide) (by decide) l3 (fun lv l3 hk hok => ?_)
      have l0 := hk 0 _ (by decide) (Or.inl rfl) l0
      have l1 := hk 1 _ (by decide) (Or.inl rfl) l1
      have l2 := hk 2 _ (by decide) (Or.inl rfl) l2
      have ok := hok ok
      refine Rn.goto (t := 44) n56_70 (by decide) ?_
      exact hr44 _ _ _ _ lv _ _ _ l0 l1 l2 l3 ok hn r_v0  h
def m56_36 (F : Nat) : Nat → Nat → Int32 → Int32 → List mE → Option (Int32 × List mE)
  | 0, _, _, _, _ => none
  | f + 1, v0, v1, v2, hp =>
    if mc2 .gt v2 30 = true then
      some ((-1), hp)
    else
      m56_44 F (m56_36 F f) F v0 v1 v2 0 hp
theorem t56_36 {d c w n : Nat} (hd : 2 ≤ d) (F : Nat) : ∀ f : Nat, ∀ (v0 : Nat) (v1 : Int32) (v2 : Int32) (lv : List (Nat × Value)) (hp : List mE) (v : Int32) (hp' : List mE), alk 0 lv = some (.ref v0) → alk 1 lv = some (.int v1) → alk 2 lv = some (.int v2) → lvk n lv → hp.length = n → v0 < n → m56_36 F f v0 v1 v2 hp = some (v, hp') → Rn d 56 36 lv [] hp c w (some (.int v), hp', c, w) := by
  obtain ⟨d', rfl⟩ : ∃ d', d = d' + 1 := ⟨d - 1, by omega⟩
  intro f
  induction f with
  | zero => intro v0 v1 v2 lv hp v hp' l0 l1 l2 ok hn r_v0 h; cases h
  | succ f hr36 =>
    intro v0 v1 v2 lv hp v hp' l0 l1 l2 ok hn r_v0 h
    unfold m56_36 at h
    refine Rn.iload_n n56_36 l2 ?_
    refine Rn.bp (v := 30) n56_37 (by decide) ?_
    by_cases hc1 : mc2 .gt v2 30 = true
    · rw [if_pos hc1] at h
      refine Rn.c2t (t := 97) n56_39 (by decide) hc1 ?_
      refine Rn.ic (v := (-1)) n56_97 (by decide) ?_
      have e1 := (Prod.mk.inj (Option.some.inj h)).1
      have e2 := (Prod.mk.inj (Option.some.inj h)).2
      subst e1
      subst e2
      exact Rn.iret n56_98 mr56
    · rw [if_neg hc1] at h
      refine Rn.c2f (t := 97) n56_39 (by decide) hc1 ?_
      refine Rn.ic (v := 0) n56_42 (by decide) ?_
      refine Rn.isn (m := n) n56_43 rfl ml56 (by decide) (fun lv l3 hk hok => ?_)
      have l0 := hk 0 _ (by decide) (Or.inl rfl) l0
      have l1 := hk 1 _ (by decide) (Or.inl rfl) l1
      have l2 := hk 2 _ (by decide) (Or.inl rfl) l2
      have ok := hok ok
      exact t56_44 hd F hr36 F _ _ _ _ lv _ _ _ l0 l1 l2 l3 ok hn r_v0  h
def m56_2 (F : Nat) : Nat → Nat → Int32 → Int32 → List mE → Option (Int32 × List mE)
  | 0, _, _, _, _ => none
  | f + 1, v0, v1, v2, hp =>
    (gfr 5 0 hp v0).bind fun x1 =>
    (gfi 3 0 hp x1).bind fun x2 =>
    if mc2 .ge v2 x2 = true then
      m56_36 F F v0 v1 1 hp
    else
      (gfr 5 0 hp v0).bind fun x4 =>
      (gfr 5 3 hp v0).bind fun x5 =>
      (rcv 3 hp x4).bind fun u7 =>
      (e38 F x4 x5 (v2 * 5) v2 hp).bind fun q6 =>
      m56_2 F f v0 v1 (v2 + 1) q6.2
theorem t56_2 {d c w n : Nat} (hd : 2 ≤ d) (F : Nat) : ∀ f : Nat, ∀ (v0 : Nat) (v1 : Int32) (v2 : Int32) (lv : List (Nat × Value)) (hp : List mE) (v : Int32) (hp' : List mE), alk 0 lv = some (.ref v0) → alk 1 lv = some (.int v1) → alk 2 lv = some (.int v2) → lvk n lv → hp.length = n → v0 < n → m56_2 F f v0 v1 v2 hp = some (v, hp') → Rn d 56 2 lv [] hp c w (some (.int v), hp', c, w) := by
  obtain ⟨d', rfl⟩ : ∃ d', d = d' + 1 := ⟨d - 1, by omega⟩
  intro f
  induction f with
  | zero => intro v0 v1 v2 lv hp v hp' l0 l1 l2 ok hn r_v0 h; cases h
  | succ f hr2 =>
    intro v0 v1 v2 lv hp v hp' l0 l1 l2 ok hn r_v0 h
    unfold m56_2 at h
    refine Rn.iload_n n56_2 l2 ?_
    refine Rn.aload_n n56_3 l0 ?_
    obtain ⟨x1, hx1, h⟩ := Option.bind_eq_some_iff.mp h
    refine Rn.gf n56_4 mo56 fl5_18 (gfr_v hx1).1 ?_
    have r_x1 : x1 < n := by rw [← hn]; exact (gfr_v hx1).2
    obtain ⟨x2, hx2, h⟩ := Option.bind_eq_some_iff.mp h
    refine Rn.gf n56_7 mo56 fl5_49 (gfi_v hx2) ?_
    by_cases hc3 : mc2 .ge v2 x2 = true
    · rw [if_pos hc3] at h
      refine Rn.c2t (t := 34) n56_10 (by decide) hc3 ?_
      refine Rn.ic (v := 1) n56_34 (by decide) ?_
      refine Rn.isn (m := n) n56_35 rfl ml56 (by decide) (fun lv l2 hk hok => ?_)
      have l0 := hk 0 _ (by decide) (Or.inl rfl) l0
      have l1 := hk 1 _ (by decide) (Or.inl rfl) l1
      have ok := hok ok
      exact t56_36 hd F  F _ _ _ lv _ _ _ l0 l1 l2 ok hn r_v0  h
    · rw [if_neg hc3] at h
      refine Rn.c2f (t := 34) n56_10 (by decide) hc3 ?_
      refine Rn.aload_n n56_13 l0 ?_
      obtain ⟨x4, hx4, h⟩ := Option.bind_eq_some_iff.mp h
      refine Rn.gf n56_14 mo56 fl5_18 (gfr_v hx4).1 ?_
      have r_x4 : x4 < n := by rw [← hn]; exact (gfr_v hx4).2
      refine Rn.aload_n n56_17 l0 ?_
      obtain ⟨x5, hx5, h⟩ := Option.bind_eq_some_iff.mp h
      refine Rn.gf n56_18 mo56 fl5_15 (gfr_v hx5).1 ?_
      have r_x5 : x5 < n := by rw [← hn]; exact (gfr_v hx5).2
      refine Rn.iload_n n56_21 l2 ?_
      refine Rn.ic (v := 5) n56_22 (by decide) ?_
      refine Rn.p n56_23 rfl ?_
      refine Rn.iload_n n56_24 l2 ?_
      obtain ⟨u7, hu7, h⟩ := Option.bind_eq_some_iff.mp h
      obtain ⟨q6, hq6, h⟩ := Option.bind_eq_some_iff.mp h
      have gq6 := c38 (d := d') (by omega) F _ _ _ _ _ _ _ (by rw [hn]; exact r_x4) (by rw [hn]; exact r_x5) hq6
      refine Rn.cv (As := [.ref x5, .int (v2 * 5), .int v2]) (rr := []) n56_25 mo56 mm5_42 (by decide) mq38 rfl rfl rfl rfl (by rw [mo38]; exact hu7) (Nat.le_of_ble_eq_true rfl) (by rw [hn]; exact (okc (okr r_x4) (okc (okr r_x5) (okc rfl (okc rfl okn))))) (by rw [hn]; exact okn) (by rw [hn]; exact ok) (by rw [ml38]; exact Nat.le_of_ble_eq_true rfl) gq6 ?_
      have hn := (Rn.len gq6).trans hn
      show Rn _ 56 28 lv [] q6.2 c w _
      refine Rn.ii (m := n) (u := 1) n56_28 ml56 (by decide) (by decide) l2 (fun lv l2 hk hok => ?_)
      have l0 := hk 0 _ (by decide) (Or.inl rfl) l0
      have l1 := hk 1 _ (by decide) (Or.inl rfl) l1
      have ok := hok ok
      refine Rn.goto (t := 2) n56_31 (by decide) ?_
      exact hr2 _ _ _ lv _ _ _ l0 l1 l2 ok hn r_v0  h
def m56_0 (F : Nat) (v0 : Nat) (v1 : Int32) (hp : List mE) : Option (Int32 × List mE) :=
  m56_2 F F v0 v1 0 hp
theorem t56_0 {d c w n : Nat} (hd : 2 ≤ d) (F : Nat) : ∀ (v0 : Nat) (v1 : Int32) (lv : List (Nat × Value)) (hp : List mE) (v : Int32) (hp' : List mE), alk 0 lv = some (.ref v0) → alk 1 lv = some (.int v1) → lvk n lv → hp.length = n → v0 < n → m56_0 F v0 v1 hp = some (v, hp') → Rn d 56 0 lv [] hp c w (some (.int v), hp', c, w) := by
  obtain ⟨d', rfl⟩ : ∃ d', d = d' + 1 := ⟨d - 1, by omega⟩
  intro v0 v1 lv hp v hp' l0 l1 ok hn r_v0 h
  unfold m56_0 at h
  refine Rn.ic (v := 0) n56_0 (by decide) ?_
  refine Rn.isn (m := n) n56_1 rfl ml56 (by decide) (fun lv l2 hk hok => ?_)
  have l0 := hk 0 _ (by decide) (Or.inl rfl) l0
  have l1 := hk 1 _ (by decide) (Or.inl rfl) l1
  have ok := hok ok
  exact t56_2 hd F  F _ _ _ lv _ _ _ l0 l1 l2 ok hn r_v0  h
def e56 (F : Nat) (a0 : Nat) (a1 : Int32) (hp : List mE) : Option (Int32 × List mE) := m56_0 F a0 a1 hp
theorem c56 {d : Nat} (hd : 2 ≤ d) (F : Nat) (a0 : Nat) (a1 : Int32) (hp : List mE) (v : Int32) (hp' : List mE) (ra0 : a0 < hp.length) (h : e56 F a0 a1 hp = some (v, hp')) : Rn d 56 0 (lv_args 0 [.ref a0, .int a1]) [] hp 0 0 (some (.int v), hp', 0, 0) :=
  t56_0 (n := hp.length) hd F a0 a1 (lv_args 0 [.ref a0, .int a1]) hp v hp' rfl rfl (lvk_args (okc (okr ra0) (okc rfl okn))) rfl ra0 h
/-! MirrorRoots$Shifts.forget -/
def m69_0 (F : Nat) (v0 : Nat) (hp : List mE) : Option (Unit × List mE) :=
  (pfv 7 5 hp v0 (.int ((-1)))).bind fun hp1 =>
  some ((), hp1)
theorem t69_0 {d c w n : Nat} (hd : 0 ≤ d) (F : Nat) : ∀ (v0 : Nat) (lv : List (Nat × Value)) (hp : List mE) (v : Unit) (hp' : List mE), alk 0 lv = some (.ref v0) → lvk n lv → hp.length = n → v0 < n → m69_0 F v0 hp = some (v, hp') → Rn d 69 0 lv [] hp c w (none, hp', c, w) := by
  intro v0 lv hp v hp' l0 ok hn r_v0 h
  unfold m69_0 at h
  refine Rn.aload_n n69_0 l0 ?_
  refine Rn.ic (v := (-1)) n69_1 (by decide) ?_
  obtain ⟨hp1, hhp1, h⟩ := Option.bind_eq_some_iff.mp h
  refine Rn.pf n69_2 mo69 fl7_18 ft7_5 rfl ff7_5 (fun _ _ hh => by cases hh) hhp1 ?_
  have hn := (pfv_len hhp1).trans hn
  have e1 := (Prod.mk.inj (Option.some.inj h)).1
  have e2 := (Prod.mk.inj (Option.some.inj h)).2
  subst e1
  subst e2
  exact Rn.vret n69_5 mr69
def e69 (F : Nat) (a0 : Nat) (hp : List mE) : Option (Unit × List mE) := m69_0 F a0 hp
theorem c69 {d : Nat} (hd : 0 ≤ d) (F : Nat) (a0 : Nat) (hp : List mE) (v : Unit) (hp' : List mE) (ra0 : a0 < hp.length) (h : e69 F a0 hp = some (v, hp')) : Rn d 69 0 (lv_args 0 [.ref a0]) [] hp 0 0 (none, hp', 0, 0) :=
  t69_0 (n := hp.length) hd F a0 (lv_args 0 [.ref a0]) hp v hp' rfl (lvk_args (okc (okr ra0) okn)) rfl ra0 h
/-! MirrorRoots$Shifts.weighRight -/
def m74_123 (F : Nat) (rc15 : Nat → Int32 → Int32 → Int32 → Int32 → List mE → Option (Int32 × List mE)) (v0 : Nat) (v1 : Int32) (v3 : Int32) (v4 : Int32) (v5 : Int32) (hp : List mE) : Option (Int32 × List mE) :=
  rc15 v0 v1 v3 v4 (v5 + 1) hp
theorem t74_123 {d c w n : Nat} (hd : 0 ≤ d) (F : Nat) {rc15 : Nat → Int32 → Int32 → Int32 → Int32 → List mE → Option (Int32 × List mE)} (hr15 : ∀ (v0 : Nat) (v1 : Int32) (v3 : Int32) (v4 : Int32) (v5 : Int32) (lv : List (Nat × Value)) (hp : List mE) (v : Int32) (hp' : List mE), alk 0 lv = some (.ref v0) → alk 1 lv = some (.int v1) → alk 3 lv = some (.int v3) → alk 4 lv = some (.int v4) → alk 5 lv = some (.int v5) → lvk n lv → hp.length = n → v0 < n → rc15 v0 v1 v3 v4 v5 hp = some (v, hp') → Rn d 74 15 lv [] hp c w (some (.int v), hp', c, w)) : ∀ (v0 : Nat) (v1 : Int32) (v3 : Int32) (v4 : Int32) (v5 : Int32) (lv : List (Nat × Value)) (hp : List mE) (v : Int32) (hp' : List mE), alk 0 lv = some (.ref v0) → alk 1 lv = some (.int v1) → alk 3 lv = some (.int v3) → alk 4 lv = some (.int v4) → alk 5 lv = some (.int v5) → lvk n lv → hp.length = n → v0 < n → m74_123 F rc15 v0 v1 v3 v4 v5 hp = some (v, hp') → Rn d 74 123 lv [] hp c w (some (.int v), hp', c, w) := by
  intro v0 v1 v3 v4 v5 lv hp v hp' l0 l1 l3 l4 l5 ok hn r_v0 h
  unfold m74_123 at h
  refine Rn.ii (m := n) (u := 1) n74_123 ml74 (by decide) (by decide) l5 (fun lv l5 hk hok => ?_)
  have l0 := hk 0 _ (by decide) (Or.inl rfl) l0
  have l1 := hk 1 _ (by decide) (Or.inl rfl) l1
  have l3 := hk 3 _ (by decide) (Or.inl rfl) l3
  have l4 := hk 4 _ (by decide) (Or.inl rfl) l4
  have ok := hok ok
  refine Rn.goto (t := 15) n74_126 (by decide) ?_
  exact hr15 _ _ _ _ _ lv _ _ _ l0 l1 l3 l4 l5 ok hn r_v0  h
def m74_33 (F : Nat) (rc15 : Nat → Int32 → Int32 → Int32 → Int32 → List mE → Option (Int32 × List mE)) : Nat → Nat → Int32 → Int32 → Int32 → Int32 → Int64 → Int32 → List mE → Option (Int32 × List mE)
  | 0, _, _, _, _, _, _, _, _ => none
  | f + 1, v0, v1, v3, v4, v5, v6, v8, hp =>
    (gfr 7 0 hp v0).bind fun x1 =>
    (gfi 3 0 hp x1).bind fun x2 =>
    if mc2 .ge v8 x2 = true then
      (gfr 7 4 hp v0).bind fun x4 =>
      (gfr 7 2 hp v0).bind fun x5 =>
      (gfr 6 3 hp x5).bind fun x6 =>
      (rdJ hp x6 ((v1 * 5) + v5)).bind fun x7 =>
      (wrJ hp x4 v5 (x7 - v6)).bind fun hp8 =>
      (gfr 7 3 hp8 v0).bind fun x9 =>
      (rdJ hp8 x9 (v3 + v5)).bind fun x10 =>
      if mc1 .ge (lg_cmp x10 0) = true then
        m74_123 F rc15 v0 v1 v3 v4 v5 hp8
      else
        m74_123 F rc15 v0 v1 v3 ((-1)) v5 hp8
    else
      (gfr 7 0 hp v0).bind fun x12 =>
      (gfr 3 2 hp x12).bind fun x13 =>
      (rdI hp x13 ((v5 * 5) + v8)).bind fun x14 =>
      (gfr 7 3 hp v0).bind fun x15 =>
      (rdJ hp x15 (v3 + v8)).bind fun x16 =>
      m74_33 F rc15 f v0 v1 v3 v4 v5 (v6 + (x14.toInt64 * x16)) (v8 + 1) hp
theorem t74_33 {d c w n : Nat} (hd : 0 ≤ d) (F : Nat) {rc15 : Nat → Int32 → Int32 → Int32 → Int32 → List mE → Option (Int32 × List mE)} (hr15 : ∀ (v0 : Nat) (v1 : Int32) (v3 : Int32) (v4 : Int32) (v5 : Int32) (lv : List (Nat × Value)) (hp : List mE) (v : Int32) (hp' : List mE), alk 0 lv = some (.ref v0) → alk 1 lv = some (.int v1) → alk 3 lv = some (.int v3) → alk 4 lv = some (.int v4) → alk 5 lv = some (.int v5) → lvk n lv → hp.length = n → v0 < n → rc15 v0 v1 v3 v4 v5 hp = some (v, hp') → Rn d 74 15 lv [] hp c w (some (.int v), hp', c, w)) : ∀ f : Nat, ∀ (v0 : Nat) (v1 : Int32) (v3 : Int32) (v4 : Int32) (v5 : Int32) (v6 : Int64) (v8 : Int32) (lv : List (Nat × Value)) (hp : List mE) (v : Int32) (hp' : List mE), alk 0 lv = some (.ref v0) → alk 1 lv = some (.int v1) → alk 3 lv = some (.int v3) → alk 4 lv = some (.int v4) → alk 5 lv = some (.int v5) → alk 6 lv = some (.long v6) → alk 8 lv = some (.int v8) → lvk n lv → hp.length = n → v0 < n → m74_33 F rc15 f v0 v1 v3 v4 v5 v6 v8 hp = some (v, hp') → Rn d 74 33 lv [] hp c w (some (.int v), hp', c, w) := by
  intro f
  induction f with
  | zero => intro v0 v1 v3 v4 v5 v6 v8 lv hp v hp' l0 l1 l3 l4 l5 l6 l8 ok hn r_v0 h; cases h
  | succ f hr33 =>
    intro v0 v1 v3 v4 v5 v6 v8 lv hp v hp' l0 l1 l3 l4 l5 l6 l8 ok hn r_v0 h
    unfold m74_33 at h
    refine Rn.iload n74_33 l8 ?_
    refine Rn.aload_n n74_35 l0 ?_
    obtain ⟨x1, hx1, h⟩ := Option.bind_eq_some_iff.mp h
    refine Rn.gf n74_36 mo74 fl7_22 (gfr_v hx1).1 ?_
    have r_x1 : x1 < n := by rw [← hn]; exact (gfr_v hx1).2
    obtain ⟨x2, hx2, h⟩ := Option.bind_eq_some_iff.mp h
    refine Rn.gf n74_39 mo74 fl7_91 (gfi_v hx2) ?_
    by_cases hc3 : mc2 .ge v8 x2 = true
    · rw [if_pos hc3] at h
      refine Rn.c2t (t := 82) n74_42 (by decide) hc3 ?_
      refine Rn.aload_n n74_82 l0 ?_
      obtain ⟨x4, hx4, h⟩ := Option.bind_eq_some_iff.mp h
      refine Rn.gf n74_83 mo74 fl7_15 (gfr_v hx4).1 ?_
      have r_x4 : x4 < n := by rw [← hn]; exact (gfr_v hx4).2
      refine Rn.iload n74_86 l5 ?_
      refine Rn.aload_n n74_88 l0 ?_
      obtain ⟨x5, hx5, h⟩ := Option.bind_eq_some_iff.mp h
      refine Rn.gf n74_89 mo74 fl7_35 (gfr_v hx5).1 ?_
      have r_x5 : x5 < n := by rw [← hn]; exact (gfr_v hx5).2
      obtain ⟨x6, hx6, h⟩ := Option.bind_eq_some_iff.mp h
      refine Rn.gf n74_92 mo74 fl7_123 (gfr_v hx6).1 ?_
      have r_x6 : x6 < n := by rw [← hn]; exact (gfr_v hx6).2
      refine Rn.iload_n n74_95 l1 ?_
      refine Rn.ic (v := 5) n74_96 (by decide) ?_
      refine Rn.p n74_97 rfl ?_
      refine Rn.iload n74_98 l5 ?_
      refine Rn.p n74_100 rfl ?_
      obtain ⟨x7, hx7, h⟩ := Option.bind_eq_some_iff.mp h
      refine Rn.lald n74_101 hx7 ?_
      refine Rn.lload n74_102 l6 ?_
      refine Rn.p n74_104 rfl ?_
      obtain ⟨hp8, hhp8, h⟩ := Option.bind_eq_some_iff.mp h
      refine Rn.last n74_105 hhp8 ?_
      have hn := (wrJ_st (st := []) hhp8).2.trans hn
      refine Rn.aload_n n74_106 l0 ?_
      obtain ⟨x9, hx9, h⟩ := Option.bind_eq_some_iff.mp h
      refine Rn.gf n74_107 mo74 fl7_11 (gfr_v hx9).1 ?_
      have r_x9 : x9 < n := by rw [← hn]; exact (gfr_v hx9).2
      refine Rn.iload_n n74_110 l3 ?_
      refine Rn.iload n74_111 l5 ?_
      refine Rn.p n74_113 rfl ?_
      obtain ⟨x10, hx10, h⟩ := Option.bind_eq_some_iff.mp h
      refine Rn.lald n74_114 hx10 ?_
      refine Rn.lc (v := 0) n74_115 (by decide) ?_
      refine Rn.p n74_116 rfl ?_
      by_cases hc11 : mc1 .ge (lg_cmp x10 0) = true
      · rw [if_pos hc11] at h
        refine Rn.c1t (t := 123) n74_117 (by decide) hc11 ?_
        exact t74_123 hd F hr15 _ _ _ _ _ lv _ _ _ l0 l1 l3 l4 l5 ok hn r_v0  h
      · rw [if_neg hc11] at h
        refine Rn.c1f (t := 123) n74_117 (by decide) hc11 ?_
        refine Rn.ic (v := (-1)) n74_120 (by decide) ?_
        refine Rn.is (m := n) n74_121 ml74 (by decide) (fun lv l4 hk hok => ?_)
        have l0 := hk 0 _ (by decide) (Or.inl rfl) l0
        have l1 := hk 1 _ (by decide) (Or.inl rfl) l1
        have l3 := hk 3 _ (by decide) (Or.inl rfl) l3
        have l5 := hk 5 _ (by decide) (Or.inl rfl) l5
        have l6 := hk 6 _ (by decide) (Or.inr (by decide)) l6
        have l8 := hk 8 _ (by decide) (Or.inl rfl) l8
        have ok := hok ok
        exact t74_123 hd F hr15 _ _ _ _ _ lv _ _ _ l0 l1 l3 l4 l5 ok hn r_v0  h
    · rw [if_neg hc3] at h
      refine Rn.c2f (t := 82) n74_42 (by decide) hc3 ?_
      refine Rn.lload n74_45 l6 ?_
      refine Rn.aload_n n74_47 l0 ?_
      obtain ⟨x12, hx12, h⟩ := Option.bind_eq_some_iff.mp h
      refine Rn.gf n74_48 mo74 fl7_22 (gfr_v hx12).1 ?_
      have r_x12 : x12 < n := by rw [← hn]; exact (gfr_v hx12).2
      obtain ⟨x13, hx13, h⟩ := Option.bind_eq_some_iff.mp h
      refine Rn.gf n74_51 mo74 fl7_120 (gfr_v hx13).1 ?_
      have r_x13 : x13 < n := by rw [← hn]; exact (gfr_v hx13).2
      refine Rn.iload n74_54 l5 ?_
      refine Rn.ic (v := 5) n74_56 (by decide) ?_
      refine Rn.p n74_57 rfl ?_
      refine Rn.iload n74_58 l8 ?_
      refine Rn.p n74_60 rfl ?_
      obtain ⟨x14, hx14, h⟩ := Option.bind_eq_some_iff.mp h
      refine Rn.iald n74_61 hx14 ?_
      refine Rn.p n74_62 rfl ?_
      refine Rn.aload_n n74_63 l0 ?_
      obtain ⟨x15, hx15, h⟩ := Option.bind_eq_some_iff.mp h
      refine Rn.gf n74_64 mo74 fl7_11 (gfr_v hx15).1 ?_
      have r_x15 : x15 < n := by rw [← hn]; exact (gfr_v hx15).2
      refine Rn.iload_n n74_67 l3 ?_
      refine Rn.iload n74_68 l8 ?_
      refine Rn.p n74_70 rfl ?_
      obtain ⟨x16, hx16, h⟩ := Option.bind_eq_some_iff.mp h
      refine Rn.lald n74_71 hx16 ?_
      refine Rn.p n74_72 rfl ?_
      refine Rn.p n74_73 rfl ?_
      refine Rn.ls (m := n) n74_74 ml74 (by decide) (fun lv l6 hk hok => ?_)
      have l0 := hk 0 _ (by decide) (by decide) (Or.inl rfl) l0
      have l1 := hk 1 _ (by decide) (by decide) (Or.inl rfl) l1
      have l3 := hk 3 _ (by decide) (by decide) (Or.inl rfl) l3
      have l4 := hk 4 _ (by decide) (by decide) (Or.inl rfl) l4
      have l5 := hk 5 _ (by decide) (by decide) (Or.inl rfl) l5
      have l8 := hk 8 _ (by decide) (by decide) (Or.inl rfl) l8
      have ok := hok ok
      refine Rn.ii (m := n) (u := 1) n74_76 ml74 (by decide) (by decide) l8 (fun lv l8 hk hok => ?_)
      have l0 := hk 0 _ (by decide) (Or.inl rfl) l0
      have l1 := hk 1 _ (by decide) (Or.inl rfl) l1
      have l3 := hk 3 _ (by decide) (Or.inl rfl) l3
      have l4 := hk 4 _ (by decide) (Or.inl rfl) l4
      have l5 := hk 5 _ (by decide) (Or.inl rfl) l5
      have l6 := hk 6 _ (by decide) (Or.inr (by decide)) l6
      have ok := hok ok
      refine Rn.goto (t := 33) n74_79 (by decide) ?_
      exact hr33 _ _ _ _ _ _ _ lv _ _ _ l0 l1 l3 l4 l5 l6 l8 ok hn r_v0  h
def m74_15 (F : Nat) : Nat → Nat → Int32 → Int32 → Int32 → Int32 → List mE → Option (Int32 × List mE)
  | 0, _, _, _, _, _, _ => none
  | f + 1, v0, v1, v3, v4, v5, hp =>
    (gfr 7 0 hp v0).bind fun x1 =>
    (gfi 3 0 hp x1).bind fun x2 =>
    if mc2 .ge v5 x2 = true then
      some (v4, hp)
    else
      m74_33 F (m74_15 F f) F v0 v1 v3 v4 v5 0 0 hp
theorem t74_15 {d c w n : Nat} (hd : 0 ≤ d) (F : Nat) : ∀ f : Nat, ∀ (v0 : Nat) (v1 : Int32) (v3 : Int32) (v4 : Int32) (v5 : Int32) (lv : List (Nat × Value)) (hp : List mE) (v : Int32) (hp' : List mE), alk 0 lv = some (.ref v0) → alk 1 lv = some (.int v1) → alk 3 lv = some (.int v3) → alk 4 lv = some (.int v4) → alk 5 lv = some (.int v5) → lvk n lv → hp.length = n → v0 < n → m74_15 F f v0 v1 v3 v4 v5 hp = some (v, hp') → Rn d 74 15 lv [] hp c w (some (.int v), hp', c, w) := by
  intro f
  induction f with
  | zero => intro v0 v1 v3 v4 v5 lv hp v hp' l0 l1 l3 l4 l5 ok hn r_v0 h; cases h
  | succ f hr15 =>
    intro v0 v1 v3 v4 v5 lv hp v hp' l0 l1 l3 l4 l5 ok hn r_v0 h
    unfold m74_15 at h
    refine Rn.iload n74_15 l5 ?_
    refine Rn.aload_n n74_17 l0 ?_
    obtain ⟨x1, hx1, h⟩ := Option.bind_eq_some_iff.mp h
    refine Rn.gf n74_18 mo74 fl7_22 (gfr_v hx1).1 ?_
    have r_x1 : x1 < n := by rw [← hn]; exact (gfr_v hx1).2
    obtain ⟨x2, hx2, h⟩ := Option.bind_eq_some_iff.mp h
    refine Rn.gf n74_21 mo74 fl7_91 (gfi_v hx2) ?_
    by_cases hc3 : mc2 .ge v5 x2 = true
    · rw [if_pos hc3] at h
      refine Rn.c2t (t := 129) n74_24 (by decide) hc3 ?_
      refine Rn.iload n74_129 l4 ?_
      have e1 := (Prod.mk.inj (Option.some.inj h)).1
      have e2 := (Prod.mk.inj (Option.some.inj h)).2
      subst e1
      subst e2
      exact Rn.iret n74_131 mr74
    · rw [if_neg hc3] at h
      refine Rn.c2f (t := 129) n74_24 (by decide) hc3 ?_
      refine Rn.lc (v := 0) n74_27 (by decide) ?_
      refine Rn.ls (m := n) n74_28 ml74 (by decide) (fun lv l6 hk hok => ?_)
      have l0 := hk 0 _ (by decide) (by decide) (Or.inl rfl) l0
      have l1 := hk 1 _ (by decide) (by decide) (Or.inl rfl) l1
      have l3 := hk 3 _ (by decide) (by decide) (Or.inl rfl) l3
      have l4 := hk 4 _ (by decide) (by decide) (Or.inl rfl) l4
      have l5 := hk 5 _ (by decide) (by decide) (Or.inl rfl) l5
      have ok := hok ok
      refine Rn.ic (v := 0) n74_30 (by decide) ?_
      refine Rn.is (m := n) n74_31 ml74 (by decide) (fun lv l8 hk hok => ?_)
      have l0 := hk 0 _ (by decide) (Or.inl rfl) l0
      have l1 := hk 1 _ (by decide) (Or.inl rfl) l1
      have l3 := hk 3 _ (by decide) (Or.inl rfl) l3
      have l4 := hk 4 _ (by decide) (Or.inl rfl) l4
      have l5 := hk 5 _ (by decide) (Or.inl rfl) l5
      have l6 := hk 6 _ (by decide) (Or.inr (by decide)) l6
      have ok := hok ok
      exact t74_33 hd F hr15 F _ _ _ _ _ _ _ lv _ _ _ l0 l1 l3 l4 l5 l6 l8 ok hn r_v0  h
def m74_0 (F : Nat) (v0 : Nat) (v1 : Int32) (v2 : Int32) (hp : List mE) : Option (Int32 × List mE) :=
  m74_15 F F v0 v1 ((v1 * 25) + (v2 * 5)) 1 0 hp
theorem t74_0 {d c w n : Nat} (hd : 0 ≤ d) (F : Nat) : ∀ (v0 : Nat) (v1 : Int32) (v2 : Int32) (lv : List (Nat × Value)) (hp : List mE) (v : Int32) (hp' : List mE), alk 0 lv = some (.ref v0) → alk 1 lv = some (.int v1) → alk 2 lv = some (.int v2) → lvk n lv → hp.length = n → v0 < n → m74_0 F v0 v1 v2 hp = some (v, hp') → Rn d 74 0 lv [] hp c w (some (.int v), hp', c, w) := by
  intro v0 v1 v2 lv hp v hp' l0 l1 l2 ok hn r_v0 h
  unfold m74_0 at h
  refine Rn.iload_n n74_0 l1 ?_
  refine Rn.bp (v := 25) n74_1 (by decide) ?_
  refine Rn.p n74_3 rfl ?_
  refine Rn.iload_n n74_4 l2 ?_
  refine Rn.ic (v := 5) n74_5 (by decide) ?_
  refine Rn.p n74_6 rfl ?_
  refine Rn.p n74_7 rfl ?_
  refine Rn.isn (m := n) n74_8 rfl ml74 (by decide) (fun lv l3 hk hok => ?_)
  have l0 := hk 0 _ (by decide) (Or.inl rfl) l0
  have l1 := hk 1 _ (by decide) (Or.inl rfl) l1
  have l2 := hk 2 _ (by decide) (Or.inl rfl) l2
  have ok := hok ok
  refine Rn.ic (v := 1) n74_9 (by decide) ?_
  refine Rn.is (m := n) n74_10 ml74 (by decide) (fun lv l4 hk hok => ?_)
  have l0 := hk 0 _ (by decide) (Or.inl rfl) l0
  have l1 := hk 1 _ (by decide) (Or.inl rfl) l1
  have l2 := hk 2 _ (by decide) (Or.inl rfl) l2
  have l3 := hk 3 _ (by decide) (Or.inl rfl) l3
  have ok := hok ok
  refine Rn.ic (v := 0) n74_12 (by decide) ?_
  refine Rn.is (m := n) n74_13 ml74 (by decide) (fun lv l5 hk hok => ?_)
  have l0 := hk 0 _ (by decide) (Or.inl rfl) l0
  have l1 := hk 1 _ (by decide) (Or.inl rfl) l1
  have l2 := hk 2 _ (by decide) (Or.inl rfl) l2
  have l3 := hk 3 _ (by decide) (Or.inl rfl) l3
  have l4 := hk 4 _ (by decide) (Or.inl rfl) l4
  have ok := hok ok
  exact t74_15 hd F  F _ _ _ _ _ lv _ _ _ l0 l1 l3 l4 l5 ok hn r_v0  h
def e74 (F : Nat) (a0 : Nat) (a1 : Int32) (a2 : Int32) (hp : List mE) : Option (Int32 × List mE) := m74_0 F a0 a1 a2 hp
theorem c74 {d : Nat} (hd : 0 ≤ d) (F : Nat) (a0 : Nat) (a1 : Int32) (a2 : Int32) (hp : List mE) (v : Int32) (hp' : List mE) (ra0 : a0 < hp.length) (h : e74 F a0 a1 a2 hp = some (v, hp')) : Rn d 74 0 (lv_args 0 [.ref a0, .int a1, .int a2]) [] hp 0 0 (some (.int v), hp', 0, 0) :=
  t74_0 (n := hp.length) hd F a0 a1 a2 (lv_args 0 [.ref a0, .int a1, .int a2]) hp v hp' rfl rfl rfl (lvk_args (okc (okr ra0) (okc rfl (okc rfl okn)))) rfl ra0 h
/-! MirrorRoots$Shifts.drawImages -/
def m75_67 (F : Nat) (rc13 : Nat → Int32 → Int32 → Int32 → Int32 → Int32 → List mE → Option (Unit × List mE)) : Nat → Nat → Int32 → Int32 → Int32 → Int32 → Int32 → Int32 → Int32 → Int64 → Int32 → List mE → Option (Unit × List mE)
  | 0, _, _, _, _, _, _, _, _, _, _, _ => none
  | f + 1, v0, v1, v2, v3, v4, v5, v6, v7, v8, v10, hp =>
    (gfr 7 0 hp v0).bind fun x1 =>
    (gfi 3 0 hp x1).bind fun x2 =>
    if mc2 .ge v10 x2 = true then
      (gfr 7 0 hp v0).bind fun x4 =>
      (gfr 7 3 hp v0).bind fun x5 =>
      (rcv 3 hp x4).bind fun u7 =>
      (e39 F x4 x5 v7 v2 hp).bind fun q6 =>
      rc13 v0 v1 v2 v3 v4 (v5 + 1) q6.2
    else
      (gfr 7 3 hp v0).bind fun x8 =>
      (gfr 7 3 hp v0).bind fun x9 =>
      (rdJ hp x9 (v6 + v10)).bind fun x10 =>
      (gfr 7 3 hp v0).bind fun x11 =>
      (rdJ hp x11 (v4 + v10)).bind fun x12 =>
      (wrJ hp x8 (v7 + v10) (x10 - (v8 * x12))).bind fun hp13 =>
      m75_67 F rc13 f v0 v1 v2 v3 v4 v5 v6 v7 v8 (v10 + 1) hp13
theorem t75_67 {d c w n : Nat} (hd : 1 ≤ d) (F : Nat) {rc13 : Nat → Int32 → Int32 → Int32 → Int32 → Int32 → List mE → Option (Unit × List mE)} (hr13 : ∀ (v0 : Nat) (v1 : Int32) (v2 : Int32) (v3 : Int32) (v4 : Int32) (v5 : Int32) (lv : List (Nat × Value)) (hp : List mE) (v : Unit) (hp' : List mE), alk 0 lv = some (.ref v0) → alk 1 lv = some (.int v1) → alk 2 lv = some (.int v2) → alk 3 lv = some (.int v3) → alk 4 lv = some (.int v4) → alk 5 lv = some (.int v5) → lvk n lv → hp.length = n → v0 < n → rc13 v0 v1 v2 v3 v4 v5 hp = some (v, hp') → Rn d 75 13 lv [] hp c w (none, hp', c, w)) : ∀ f : Nat, ∀ (v0 : Nat) (v1 : Int32) (v2 : Int32) (v3 : Int32) (v4 : Int32) (v5 : Int32) (v6 : Int32) (v7 : Int32) (v8 : Int64) (v10 : Int32) (lv : List (Nat × Value)) (hp : List mE) (v : Unit) (hp' : List mE), alk 0 lv = some (.ref v0) → alk 1 lv = some (.int v1) → alk 2 lv = some (.int v2) → alk 3 lv = some (.int v3) → alk 4 lv = some (.int v4) → alk 5 lv = some (.int v5) → alk 6 lv = some (.int v6) → alk 7 lv = some (.int v7) → alk 8 lv = some (.long v8) → alk 10 lv = some (.int v10) → lvk n lv → hp.length = n → v0 < n → m75_67 F rc13 f v0 v1 v2 v3 v4 v5 v6 v7 v8 v10 hp = some (v, hp') → Rn d 75 67 lv [] hp c w (none, hp', c, w) := by
  obtain ⟨d', rfl⟩ : ∃ d', d = d' + 1 := ⟨d - 1, by omega⟩
  intro f
  induction f with
  | zero => intro v0 v1 v2 v3 v4 v5 v6 v7 v8 v10 lv hp v hp' l0 l1 l2 l3 l4 l5 l6 l7 l8 l10 ok hn r_v0 h; cases h
  | succ f hr67 =>
    intro v0 v1 v2 v3 v4 v5 v6 v7 v8 v10 lv hp v hp' l0 l1 l2 l3 l4 l5 l6 l7 l8 l10 ok hn r_v0 h
    unfold m75_67 at h
    refine Rn.iload n75_67 l10 ?_
    refine Rn.aload_n n75_69 l0 ?_
    obtain ⟨x1, hx1, h⟩ := Option.bind_eq_some_iff.mp h
    refine Rn.gf n75_70 mo75 fl7_22 (gfr_v hx1).1 ?_
    have r_x1 : x1 < n := by rw [← hn]; exact (gfr_v hx1).2
    obtain ⟨x2, hx2, h⟩ := Option.bind_eq_some_iff.mp h
    refine Rn.gf n75_73 mo75 fl7_91 (gfi_v hx2) ?_
    by_cases hc3 : mc2 .ge v10 x2 = true
    · rw [if_pos hc3] at h
      refine Rn.c2t (t := 119) n75_76 (by decide) hc3 ?_
      refine Rn.aload_n n75_119 l0 ?_
      obtain ⟨x4, hx4, h⟩ := Option.bind_eq_some_iff.mp h
      refine Rn.gf n75_120 mo75 fl7_22 (gfr_v hx4).1 ?_
      have r_x4 : x4 < n := by rw [← hn]; exact (gfr_v hx4).2
      refine Rn.aload_n n75_123 l0 ?_
      obtain ⟨x5, hx5, h⟩ := Option.bind_eq_some_iff.mp h
      refine Rn.gf n75_124 mo75 fl7_11 (gfr_v hx5).1 ?_
      have r_x5 : x5 < n := by rw [← hn]; exact (gfr_v hx5).2
      refine Rn.iload n75_127 l7 ?_
      refine Rn.iload_n n75_129 l2 ?_
      obtain ⟨u7, hu7, h⟩ := Option.bind_eq_some_iff.mp h
      obtain ⟨q6, hq6, h⟩ := Option.bind_eq_some_iff.mp h
      have gq6 := c39 (d := d') (by omega) F _ _ _ _ _ _ _ (by rw [hn]; exact r_x4) (by rw [hn]; exact r_x5) hq6
      refine Rn.cv (As := [.ref x5, .int v7, .int v2]) (rr := []) n75_130 mo75 mm7_99 (by decide) mq39 rfl rfl rfl rfl (by rw [mo39]; exact hu7) (Nat.le_of_ble_eq_true rfl) (by rw [hn]; exact (okc (okr r_x4) (okc (okr r_x5) (okc rfl (okc rfl okn))))) (by rw [hn]; exact okn) (by rw [hn]; exact ok) (by rw [ml39]; exact Nat.le_of_ble_eq_true rfl) gq6 ?_
      have hn := (Rn.len gq6).trans hn
      show Rn _ 75 133 lv [] q6.2 c w _
      refine Rn.ii (m := n) (u := 1) n75_133 ml75 (by decide) (by decide) l5 (fun lv l5 hk hok => ?_)
      have l0 := hk 0 _ (by decide) (Or.inl rfl) l0
      have l1 := hk 1 _ (by decide) (Or.inl rfl) l1
      have l2 := hk 2 _ (by decide) (Or.inl rfl) l2
      have l3 := hk 3 _ (by decide) (Or.inl rfl) l3
      have l4 := hk 4 _ (by decide) (Or.inl rfl) l4
      have l6 := hk 6 _ (by decide) (Or.inl rfl) l6
      have l7 := hk 7 _ (by decide) (Or.inl rfl) l7
      have l8 := hk 8 _ (by decide) (Or.inr (by decide)) l8
      have l10 := hk 10 _ (by decide) (Or.inl rfl) l10
      have ok := hok ok
      refine Rn.goto (t := 13) n75_136 (by decide) ?_
      exact hr13 _ _ _ _ _ _ lv _ _ _ l0 l1 l2 l3 l4 l5 ok hn r_v0  h
    · rw [if_neg hc3] at h
      refine Rn.c2f (t := 119) n75_76 (by decide) hc3 ?_
      refine Rn.aload_n n75_79 l0 ?_
      obtain ⟨x8, hx8, h⟩ := Option.bind_eq_some_iff.mp h
      refine Rn.gf n75_80 mo75 fl7_11 (gfr_v hx8).1 ?_
      have r_x8 : x8 < n := by rw [← hn]; exact (gfr_v hx8).2
      refine Rn.iload n75_83 l7 ?_
      refine Rn.iload n75_85 l10 ?_
      refine Rn.p n75_87 rfl ?_
      refine Rn.aload_n n75_88 l0 ?_
      obtain ⟨x9, hx9, h⟩ := Option.bind_eq_some_iff.mp h
      refine Rn.gf n75_89 mo75 fl7_11 (gfr_v hx9).1 ?_
      have r_x9 : x9 < n := by rw [← hn]; exact (gfr_v hx9).2
      refine Rn.iload n75_92 l6 ?_
      refine Rn.iload n75_94 l10 ?_
      refine Rn.p n75_96 rfl ?_
      obtain ⟨x10, hx10, h⟩ := Option.bind_eq_some_iff.mp h
      refine Rn.lald n75_97 hx10 ?_
      refine Rn.lload n75_98 l8 ?_
      refine Rn.aload_n n75_100 l0 ?_
      obtain ⟨x11, hx11, h⟩ := Option.bind_eq_some_iff.mp h
      refine Rn.gf n75_101 mo75 fl7_11 (gfr_v hx11).1 ?_
      have r_x11 : x11 < n := by rw [← hn]; exact (gfr_v hx11).2
      refine Rn.iload n75_104 l4 ?_
      refine Rn.iload n75_106 l10 ?_
      refine Rn.p n75_108 rfl ?_
      obtain ⟨x12, hx12, h⟩ := Option.bind_eq_some_iff.mp h
      refine Rn.lald n75_109 hx12 ?_
      refine Rn.p n75_110 rfl ?_
      refine Rn.p n75_111 rfl ?_
      obtain ⟨hp13, hhp13, h⟩ := Option.bind_eq_some_iff.mp h
      refine Rn.last n75_112 hhp13 ?_
      have hn := (wrJ_st (st := []) hhp13).2.trans hn
      refine Rn.ii (m := n) (u := 1) n75_113 ml75 (by decide) (by decide) l10 (fun lv l10 hk hok => ?_)
      have l0 := hk 0 _ (by decide) (Or.inl rfl) l0
      have l1 := hk 1 _ (by decide) (Or.inl rfl) l1
      have l2 := hk 2 _ (by decide) (Or.inl rfl) l2
      have l3 := hk 3 _ (by decide) (Or.inl rfl) l3
      have l4 := hk 4 _ (by decide) (Or.inl rfl) l4
      have l5 := hk 5 _ (by decide) (Or.inl rfl) l5
      have l6 := hk 6 _ (by decide) (Or.inl rfl) l6
      have l7 := hk 7 _ (by decide) (Or.inl rfl) l7
      have l8 := hk 8 _ (by decide) (Or.inr (by decide)) l8
      have ok := hok ok
      refine Rn.goto (t := 67) n75_116 (by decide) ?_
      exact hr67 _ _ _ _ _ _ _ _ _ _ lv _ _ _ l0 l1 l2 l3 l4 l5 l6 l7 l8 l10 ok hn r_v0  h
def m75_13 (F : Nat) : Nat → Nat → Int32 → Int32 → Int32 → Int32 → Int32 → List mE → Option (Unit × List mE)
  | 0, _, _, _, _, _, _, _ => none
  | f + 1, v0, v1, v2, v3, v4, v5, hp =>
    (gfr 7 0 hp v0).bind fun x1 =>
    (gfi 3 0 hp x1).bind fun x2 =>
    if mc2 .ge v5 x2 = true then
      some ((), hp)
    else
      (gfr 7 0 hp v0).bind fun x4 =>
      (gfr 3 2 hp x4).bind fun x5 =>
      (rdI hp x5 ((v2 * 5) + v5)).bind fun x6 =>
      m75_67 F (m75_13 F f) F v0 v1 v2 v3 v4 v5 ((v1 * 25) + (v5 * 5)) ((v3 * 25) + (v5 * 5)) x6.toInt64 0 hp
theorem t75_13 {d c w n : Nat} (hd : 1 ≤ d) (F : Nat) : ∀ f : Nat, ∀ (v0 : Nat) (v1 : Int32) (v2 : Int32) (v3 : Int32) (v4 : Int32) (v5 : Int32) (lv : List (Nat × Value)) (hp : List mE) (v : Unit) (hp' : List mE), alk 0 lv = some (.ref v0) → alk 1 lv = some (.int v1) → alk 2 lv = some (.int v2) → alk 3 lv = some (.int v3) → alk 4 lv = some (.int v4) → alk 5 lv = some (.int v5) → lvk n lv → hp.length = n → v0 < n → m75_13 F f v0 v1 v2 v3 v4 v5 hp = some (v, hp') → Rn d 75 13 lv [] hp c w (none, hp', c, w) := by
  obtain ⟨d', rfl⟩ : ∃ d', d = d' + 1 := ⟨d - 1, by omega⟩
  intro f
  induction f with
  | zero => intro v0 v1 v2 v3 v4 v5 lv hp v hp' l0 l1 l2 l3 l4 l5 ok hn r_v0 h; cases h
  | succ f hr13 =>
    intro v0 v1 v2 v3 v4 v5 lv hp v hp' l0 l1 l2 l3 l4 l5 ok hn r_v0 h
    unfold m75_13 at h
    refine Rn.iload n75_13 l5 ?_
    refine Rn.aload_n n75_15 l0 ?_
    obtain ⟨x1, hx1, h⟩ := Option.bind_eq_some_iff.mp h
    refine Rn.gf n75_16 mo75 fl7_22 (gfr_v hx1).1 ?_
    have r_x1 : x1 < n := by rw [← hn]; exact (gfr_v hx1).2
    obtain ⟨x2, hx2, h⟩ := Option.bind_eq_some_iff.mp h
    refine Rn.gf n75_19 mo75 fl7_91 (gfi_v hx2) ?_
    by_cases hc3 : mc2 .ge v5 x2 = true
    · rw [if_pos hc3] at h
      refine Rn.c2t (t := 139) n75_22 (by decide) hc3 ?_
      have e1 := (Prod.mk.inj (Option.some.inj h)).1
      have e2 := (Prod.mk.inj (Option.some.inj h)).2
      subst e1
      subst e2
      exact Rn.vret n75_139 mr75
    · rw [if_neg hc3] at h
      refine Rn.c2f (t := 139) n75_22 (by decide) hc3 ?_
      refine Rn.iload_n n75_25 l1 ?_
      refine Rn.bp (v := 25) n75_26 (by decide) ?_
      refine Rn.p n75_28 rfl ?_
      refine Rn.iload n75_29 l5 ?_
      refine Rn.ic (v := 5) n75_31 (by decide) ?_
      refine Rn.p n75_32 rfl ?_
      refine Rn.p n75_33 rfl ?_
      refine Rn.is (m := n) n75_34 ml75 (by decide) (fun lv l6 hk hok => ?_)
      have l0 := hk 0 _ (by decide) (Or.inl rfl) l0
      have l1 := hk 1 _ (by decide) (Or.inl rfl) l1
      have l2 := hk 2 _ (by decide) (Or.inl rfl) l2
      have l3 := hk 3 _ (by decide) (Or.inl rfl) l3
      have l4 := hk 4 _ (by decide) (Or.inl rfl) l4
      have l5 := hk 5 _ (by decide) (Or.inl rfl) l5
      have ok := hok ok
      refine Rn.iload_n n75_36 l3 ?_
      refine Rn.bp (v := 25) n75_37 (by decide) ?_
      refine Rn.p n75_39 rfl ?_
      refine Rn.iload n75_40 l5 ?_
      refine Rn.ic (v := 5) n75_42 (by decide) ?_
      refine Rn.p n75_43 rfl ?_
      refine Rn.p n75_44 rfl ?_
      refine Rn.is (m := n) n75_45 ml75 (by decide) (fun lv l7 hk hok => ?_)
      have l0 := hk 0 _ (by decide) (Or.inl rfl) l0
      have l1 := hk 1 _ (by decide) (Or.inl rfl) l1
      have l2 := hk 2 _ (by decide) (Or.inl rfl) l2
      have l3 := hk 3 _ (by decide) (Or.inl rfl) l3
      have l4 := hk 4 _ (by decide) (Or.inl rfl) l4
      have l5 := hk 5 _ (by decide) (Or.inl rfl) l5
      have l6 := hk 6 _ (by decide) (Or.inl rfl) l6
      have ok := hok ok
      refine Rn.aload_n n75_47 l0 ?_
      obtain ⟨x4, hx4, h⟩ := Option.bind_eq_some_iff.mp h
      refine Rn.gf n75_48 mo75 fl7_22 (gfr_v hx4).1 ?_
      have r_x4 : x4 < n := by rw [← hn]; exact (gfr_v hx4).2
      obtain ⟨x5, hx5, h⟩ := Option.bind_eq_some_iff.mp h
      refine Rn.gf n75_51 mo75 fl7_120 (gfr_v hx5).1 ?_
      have r_x5 : x5 < n := by rw [← hn]; exact (gfr_v hx5).2
      refine Rn.iload_n n75_54 l2 ?_
      refine Rn.ic (v := 5) n75_55 (by decide) ?_
      refine Rn.p n75_56 rfl ?_
      refine Rn.iload n75_57 l5 ?_
      refine Rn.p n75_59 rfl ?_
      obtain ⟨x6, hx6, h⟩ := Option.bind_eq_some_iff.mp h
      refine Rn.iald n75_60 hx6 ?_
      refine Rn.p n75_61 rfl ?_
      refine Rn.ls (m := n) n75_62 ml75 (by decide) (fun lv l8 hk hok => ?_)
      have l0 := hk 0 _ (by decide) (by decide) (Or.inl rfl) l0
      have l1 := hk 1 _ (by decide) (by decide) (Or.inl rfl) l1
      have l2 := hk 2 _ (by decide) (by decide) (Or.inl rfl) l2
      have l3 := hk 3 _ (by decide) (by decide) (Or.inl rfl) l3
      have l4 := hk 4 _ (by decide) (by decide) (Or.inl rfl) l4
      have l5 := hk 5 _ (by decide) (by decide) (Or.inl rfl) l5
      have l6 := hk 6 _ (by decide) (by decide) (Or.inl rfl) l6
      have l7 := hk 7 _ (by decide) (by decide) (Or.inl rfl) l7
      have ok := hok ok
      refine Rn.ic (v := 0) n75_64 (by decide) ?_
      refine Rn.is (m := n) n75_65 ml75 (by decide) (fun lv l10 hk hok => ?_)
      have l0 := hk 0 _ (by decide) (Or.inl rfl) l0
      have l1 := hk 1 _ (by decide) (Or.inl rfl) l1
      have l2 := hk 2 _ (by decide) (Or.inl rfl) l2
      have l3 := hk 3 _ (by decide) (Or.inl rfl) l3
      have l4 := hk 4 _ (by decide) (Or.inl rfl) l4
      have l5 := hk 5 _ (by decide) (Or.inl rfl) l5
      have l6 := hk 6 _ (by decide) (Or.inl rfl) l6
      have l7 := hk 7 _ (by decide) (Or.inl rfl) l7
      have l8 := hk 8 _ (by decide) (Or.inr (by decide)) l8
      have ok := hok ok
      exact t75_67 hd F hr13 F _ _ _ _ _ _ _ _ _ _ lv _ _ _ l0 l1 l2 l3 l4 l5 l6 l7 l8 l10 ok hn r_v0  h
def m75_0 (F : Nat) (v0 : Nat) (v1 : Int32) (v2 : Int32) (v3 : Int32) (hp : List mE) : Option (Unit × List mE) :=
  m75_13 F F v0 v1 v2 v3 ((v1 * 25) + (v2 * 5)) 0 hp
theorem t75_0 {d c w n : Nat} (hd : 1 ≤ d) (F : Nat) : ∀ (v0 : Nat) (v1 : Int32) (v2 : Int32) (v3 : Int32) (lv : List (Nat × Value)) (hp : List mE) (v : Unit) (hp' : List mE), alk 0 lv = some (.ref v0) → alk 1 lv = some (.int v1) → alk 2 lv = some (.int v2) → alk 3 lv = some (.int v3) → lvk n lv → hp.length = n → v0 < n → m75_0 F v0 v1 v2 v3 hp = some (v, hp') → Rn d 75 0 lv [] hp c w (none, hp', c, w) := by
  obtain ⟨d', rfl⟩ : ∃ d', d = d' + 1 := ⟨d - 1, by omega⟩
  intro v0 v1 v2 v3 lv hp v hp' l0 l1 l2 l3 ok hn r_v0 h
  unfold m75_0 at h
  refine Rn.iload_n n75_0 l1 ?_
  refine Rn.bp (v := 25) n75_1 (by decide) ?_
  refine Rn.p n75_3 rfl ?_
  refine Rn.iload_n n75_4 l2 ?_
  refine Rn.ic (v := 5) n75_5 (by decide) ?_
  refine Rn.p n75_6 rfl ?_
  refine Rn.p n75_7 rfl ?_
  refine Rn.is (m := n) n75_8 ml75 (by decide) (fun lv l4 hk hok => ?_)
  have l0 := hk 0 _ (by decide) (Or.inl rfl) l0
  have l1 := hk 1 _ (by decide) (Or.inl rfl) l1
  have l2 := hk 2 _ (by decide) (Or.inl rfl) l2
  have l3 := hk 3 _ (by decide) (Or.inl rfl) l3
  have ok := hok ok
  refine Rn.ic (v := 0) n75_10 (by decide) ?_
  refine Rn.is (m := n) n75_11 ml75 (by decide) (fun lv l5 hk hok => ?_)
  have l0 := hk 0 _ (by decide) (Or.inl rfl) l0
  have l1 := hk 1 _ (by decide) (Or.inl rfl) l1
  have l2 := hk 2 _ (by decide) (Or.inl rfl) l2
  have l3 := hk 3 _ (by decide) (Or.inl rfl) l3
  have l4 := hk 4 _ (by decide) (Or.inl rfl) l4
  have ok := hok ok
  exact t75_13 hd F  F _ _ _ _ _ _ lv _ _ _ l0 l1 l2 l3 l4 l5 ok hn r_v0  h
def e75 (F : Nat) (a0 : Nat) (a1 : Int32) (a2 : Int32) (a3 : Int32) (hp : List mE) : Option (Unit × List mE) := m75_0 F a0 a1 a2 a3 hp
theorem c75 {d : Nat} (hd : 1 ≤ d) (F : Nat) (a0 : Nat) (a1 : Int32) (a2 : Int32) (a3 : Int32) (hp : List mE) (v : Unit) (hp' : List mE) (ra0 : a0 < hp.length) (h : e75 F a0 a1 a2 a3 hp = some (v, hp')) : Rn d 75 0 (lv_args 0 [.ref a0, .int a1, .int a2, .int a3]) [] hp 0 0 (none, hp', 0, 0) :=
  t75_0 (n := hp.length) hd F a0 a1 a2 a3 (lv_args 0 [.ref a0, .int a1, .int a2, .int a3]) hp v hp' rfl rfl rfl rfl (lvk_args (okc (okr ra0) (okc rfl (okc rfl (okc rfl okn))))) rfl ra0 h
/-! MirrorRoots$Shifts.step -/
def m73_133 (F : Nat) (t0 : Int32) (hp : List mE) : Option (Int32 × List mE) :=
  if t0 = 0 ∨ t0 = 1 then some (t0, hp) else none
theorem t73_133 {d c w n : Nat} (hd : 3 ≤ d) (F : Nat) : ∀ (t0 : Int32) (lv : List (Nat × Value)) (hp : List mE) (v : Int32) (hp' : List mE), lvk n lv → hp.length = n → m73_133 F t0 hp = some (v, hp') → Rn d 73 133 lv [.int t0] hp c w (some (.int v), hp', c, w) := by
  obtain ⟨d', rfl⟩ : ∃ d', d = d' + 1 := ⟨d - 1, by omega⟩
  intro t0 lv hp v hp' ok hn h
  unfold m73_133 at h
  by_cases hz1 : t0 = 0 ∨ t0 = 1
  · rw [if_pos hz1] at h
    have e1 := (Prod.mk.inj (Option.some.inj h)).1
    have e2 := (Prod.mk.inj (Option.some.inj h)).2
    subst e1
    subst e2
    exact Rn.zret n73_133 mr73 hz1
  · rw [if_neg hz1] at h; cases h
def m73_111 (F : Nat) (hp : List mE) : Option (Int32 × List mE) :=
  some (1, hp)
theorem t73_111 {d c w n : Nat} (hd : 3 ≤ d) (F : Nat) : ∀ (lv : List (Nat × Value)) (hp : List mE) (v : Int32) (hp' : List mE), lvk n lv → hp.length = n → m73_111 F hp = some (v, hp') → Rn d 73 111 lv [] hp c w (some (.int v), hp', c, w) := by
  obtain ⟨d', rfl⟩ : ∃ d', d = d' + 1 := ⟨d - 1, by omega⟩
  intro lv hp v hp' ok hn h
  unfold m73_111 at h
  refine Rn.ic (v := 1) n73_111 (by decide) ?_
  have e1 := (Prod.mk.inj (Option.some.inj h)).1
  have e2 := (Prod.mk.inj (Option.some.inj h)).2
  subst e1
  subst e2
  exact Rn.zret n73_112 mr73 (Or.inr rfl)
def m73_34 (F : Nat) (v0 : Nat) (v1 : Int32) (v2 : Int32) (t0 : Int32) (t1 : Int32) (hp : List mE) : Option (Int32 × List mE) :=
  (gfr 7 2 hp v0).bind fun x1 =>
  (gfr 6 4 hp x1).bind fun x2 =>
  (rdI hp x2 v1).bind fun x3 =>
  if mc2 .le (t0 + t1) x3 = true then
    (gfr 7 0 hp v0).bind fun x5 =>
    (gfr 7 4 hp v0).bind fun x6 =>
    (rcv 3 hp x5).bind fun u8 =>
    (e41 F x5 x6 0 v2 hp).bind fun q7 =>
    (gfr 7 2 q7.2 v0).bind fun x9 =>
    (gfi 6 2 q7.2 x9).bind fun x10 =>
    if mc2 .ge x10 300 = true then
      (gfr 7 2 q7.2 v0).bind fun x12 =>
      (gfr 7 4 q7.2 v0).bind fun x13 =>
      (rcv 6 q7.2 x12).bind fun u15 =>
      (e63 F x12 x13 q7.2).bind fun q14 =>
      if mc2 .eq q14.1 ((-1)) = true then
        m73_133 F 0 q14.2
      else
        m73_133 F 1 q14.2
    else
      (gfr 7 2 q7.2 v0).bind fun x17 =>
      (gfi 6 2 q7.2 x17).bind fun x18 =>
      (gfr 7 2 q7.2 v0).bind fun x19 =>
      (gfr 7 4 q7.2 v0).bind fun x20 =>
      (rcv 6 q7.2 x19).bind fun u22 =>
      (e62 F x19 x20 (t0 + t1) q7.2).bind fun q21 =>
      if mc2 .ne q21.1 x18 = true then
        m73_111 F q21.2
      else
        (rcv 7 q21.2 v0).bind fun u25 =>
        (e75 F v0 v1 v2 x18 q21.2).bind fun q24 =>
        m73_111 F q24.2
  else
    some (1, hp)
theorem t73_34 {d c w n : Nat} (hd : 3 ≤ d) (F : Nat) : ∀ (v0 : Nat) (v1 : Int32) (v2 : Int32) (t0 : Int32) (t1 : Int32) (lv : List (Nat × Value)) (hp : List mE) (v : Int32) (hp' : List mE), alk 0 lv = some (.ref v0) → alk 1 lv = some (.int v1) → alk 2 lv = some (.int v2) → lvk n lv → hp.length = n → v0 < n → m73_34 F v0 v1 v2 t0 t1 hp = some (v, hp') → Rn d 73 34 lv [.int t1, .int t0] hp c w (some (.int v), hp', c, w) := by
  obtain ⟨d', rfl⟩ : ∃ d', d = d' + 1 := ⟨d - 1, by omega⟩
  intro v0 v1 v2 t0 t1 lv hp v hp' l0 l1 l2 ok hn r_v0 h
  unfold m73_34 at h
  refine Rn.p n73_34 rfl ?_
  refine Rn.isn (m := n) n73_35 rfl ml73 (by decide) (fun lv l3 hk hok => ?_)
  have l0 := hk 0 _ (by decide) (Or.inl rfl) l0
  have l1 := hk 1 _ (by decide) (Or.inl rfl) l1
  have l2 := hk 2 _ (by decide) (Or.inl rfl) l2
  have ok := hok ok
  refine Rn.iload_n n73_36 l3 ?_
  refine Rn.aload_n n73_37 l0 ?_
  obtain ⟨x1, hx1, h⟩ := Option.bind_eq_some_iff.mp h
  refine Rn.gf n73_38 mo73 fl7_35 (gfr_v hx1).1 ?_
  have r_x1 : x1 < n := by rw [← hn]; exact (gfr_v hx1).2
  obtain ⟨x2, hx2, h⟩ := Option.bind_eq_some_iff.mp h
  refine Rn.gf n73_41 mo73 fl7_62 (gfr_v hx2).1 ?_
  have r_x2 : x2 < n := by rw [← hn]; exact (gfr_v hx2).2
  refine Rn.iload_n n73_44 l1 ?_
  obtain ⟨x3, hx3, h⟩ := Option.bind_eq_some_iff.mp h
  refine Rn.iald n73_45 hx3 ?_
  by_cases hc4 : mc2 .le (t0 + t1) x3 = true
  · rw [if_pos hc4] at h
    refine Rn.c2t (t := 51) n73_46 (by decide) hc4 ?_
    refine Rn.aload_n n73_51 l0 ?_
    obtain ⟨x5, hx5, h⟩ := Option.bind_eq_some_iff.mp h
    refine Rn.gf n73_52 mo73 fl7_22 (gfr_v hx5).1 ?_
    have r_x5 : x5 < n := by rw [← hn]; exact (gfr_v hx5).2
    refine Rn.aload_n n73_55 l0 ?_
    obtain ⟨x6, hx6, h⟩ := Option.bind_eq_some_iff.mp h
    refine Rn.gf n73_56 mo73 fl7_15 (gfr_v hx6).1 ?_
    have r_x6 : x6 < n := by rw [← hn]; exact (gfr_v hx6).2
    refine Rn.ic (v := 0) n73_59 (by decide) ?_
    refine Rn.iload_n n73_60 l2 ?_
    obtain ⟨u8, hu8, h⟩ := Option.bind_eq_some_iff.mp h
    obtain ⟨q7, hq7, h⟩ := Option.bind_eq_some_iff.mp h
    have gq7 := c41 (d := d') (by omega) F _ _ _ _ _ _ _ (by rw [hn]; exact r_x5) (by rw [hn]; exact r_x6) hq7
    refine Rn.cv (As := [.ref x6, .int 0, .int v2]) (rr := []) n73_61 mo73 mm7_109 (by decide) mq41 rfl rfl rfl rfl (by rw [mo41]; exact hu8) (Nat.le_of_ble_eq_true rfl) (by rw [hn]; exact (okc (okr r_x5) (okc (okr r_x6) (okc rfl (okc rfl okn))))) (by rw [hn]; exact okn) (by rw [hn]; exact ok) (by rw [ml41]; exact Nat.le_of_ble_eq_true rfl) gq7 ?_
    have hn := (Rn.len gq7).trans hn
    show Rn _ 73 64 lv [] q7.2 c w _
    refine Rn.aload_n n73_64 l0 ?_
    obtain ⟨x9, hx9, h⟩ := Option.bind_eq_some_iff.mp h
    refine Rn.gf n73_65 mo73 fl7_35 (gfr_v hx9).1 ?_
    have r_x9 : x9 < n := by rw [← hn]; exact (gfr_v hx9).2
    obtain ⟨x10, hx10, h⟩ := Option.bind_eq_some_iff.mp h
    refine Rn.gf n73_68 mo73 fl7_59 (gfi_v hx10) ?_
    refine Rn.sp (v := 300) n73_71 (by decide) ?_
    by_cases hc11 : mc2 .ge x10 300 = true
    · rw [if_pos hc11] at h
      refine Rn.c2t (t := 113) n73_74 (by decide) hc11 ?_
      refine Rn.aload_n n73_113 l0 ?_
      obtain ⟨x12, hx12, h⟩ := Option.bind_eq_some_iff.mp h
      refine Rn.gf n73_114 mo73 fl7_35 (gfr_v hx12).1 ?_
      have r_x12 : x12 < n := by rw [← hn]; exact (gfr_v hx12).2
      refine Rn.aload_n n73_117 l0 ?_
      obtain ⟨x13, hx13, h⟩ := Option.bind_eq_some_iff.mp h
      refine Rn.gf n73_118 mo73 fl7_15 (gfr_v hx13).1 ?_
      have r_x13 : x13 < n := by rw [← hn]; exact (gfr_v hx13).2
      obtain ⟨u15, hu15, h⟩ := Option.bind_eq_some_iff.mp h
      obtain ⟨q14, hq14, h⟩ := Option.bind_eq_some_iff.mp h
      have gq14 := c63 (d := d') (by omega) F _ _ _ _ _ (by rw [hn]; exact r_x12) (by rw [hn]; exact r_x13) hq14
      refine Rn.cv (As := [.ref x13]) (rr := []) n73_121 mo73 mm7_116 (by decide) mq63 rfl rfl rfl rfl (by rw [mo63]; exact hu15) (Nat.le_of_ble_eq_true rfl) (by rw [hn]; exact (okc (okr r_x12) (okc (okr r_x13) okn))) (by rw [hn]; exact okn) (by rw [hn]; exact ok) (by rw [ml63]; exact Nat.le_of_ble_eq_true rfl) gq14 ?_
      have hn := (Rn.len gq14).trans hn
      show Rn _ 73 124 lv [.int q14.1] q14.2 c w _
      refine Rn.ic (v := (-1)) n73_124 (by decide) ?_
      by_cases hc16 : mc2 .eq q14.1 ((-1)) = true
      · rw [if_pos hc16] at h
        refine Rn.c2t (t := 132) n73_125 (by decide) hc16 ?_
        refine Rn.ic (v := 0) n73_132 (by decide) ?_
        exact t73_133 hd F  _ lv _ _ _  ok hn   h
      · rw [if_neg hc16] at h
        refine Rn.c2f (t := 132) n73_125 (by decide) hc16 ?_
        refine Rn.ic (v := 1) n73_128 (by decide) ?_
        refine Rn.goto (t := 133) n73_129 (by decide) ?_
        exact t73_133 hd F  _ lv _ _ _  ok hn   h
    · rw [if_neg hc11] at h
      refine Rn.c2f (t := 113) n73_74 (by decide) hc11 ?_
      refine Rn.aload_n n73_77 l0 ?_
      obtain ⟨x17, hx17, h⟩ := Option.bind_eq_some_iff.mp h
      refine Rn.gf n73_78 mo73 fl7_35 (gfr_v hx17).1 ?_
      have r_x17 : x17 < n := by rw [← hn]; exact (gfr_v hx17).2
      obtain ⟨x18, hx18, h⟩ := Option.bind_eq_some_iff.mp h
      refine Rn.gf n73_81 mo73 fl7_59 (gfi_v hx18) ?_
      refine Rn.is (m := n) n73_84 ml73 (by decide) (fun lv l4 hk hok => ?_)
      have l0 := hk 0 _ (by decide) (Or.inl rfl) l0
      have l1 := hk 1 _ (by decide) (Or.inl rfl) l1
      have l2 := hk 2 _ (by decide) (Or.inl rfl) l2
      have l3 := hk 3 _ (by decide) (Or.inl rfl) l3
      have ok := hok ok
      refine Rn.aload_n n73_86 l0 ?_
      obtain ⟨x19, hx19, h⟩ := Option.bind_eq_some_iff.mp h
      refine Rn.gf n73_87 mo73 fl7_35 (gfr_v hx19).1 ?_
      have r_x19 : x19 < n := by rw [← hn]; exact (gfr_v hx19).2
      refine Rn.aload_n n73_90 l0 ?_
      obtain ⟨x20, hx20, h⟩ := Option.bind_eq_some_iff.mp h
      refine Rn.gf n73_91 mo73 fl7_15 (gfr_v hx20).1 ?_
      have r_x20 : x20 < n := by rw [← hn]; exact (gfr_v hx20).2
      refine Rn.iload_n n73_94 l3 ?_
      obtain ⟨u22, hu22, h⟩ := Option.bind_eq_some_iff.mp h
      obtain ⟨q21, hq21, h⟩ := Option.bind_eq_some_iff.mp h
      have gq21 := c62 (d := d') (by omega) F _ _ _ _ _ _ (by rw [hn]; exact r_x19) (by rw [hn]; exact r_x20) hq21
      refine Rn.cv (As := [.ref x20, .int (t0 + t1)]) (rr := []) n73_95 mo73 mm7_87 (by decide) mq62 rfl rfl rfl rfl (by rw [mo62]; exact hu22) (Nat.le_of_ble_eq_true rfl) (by rw [hn]; exact (okc (okr r_x19) (okc (okr r_x20) (okc rfl okn)))) (by rw [hn]; exact okn) (by rw [hn]; exact ok) (by rw [ml62]; exact Nat.le_of_ble_eq_true rfl) gq21 ?_
      have hn := (Rn.len gq21).trans hn
      show Rn _ 73 98 lv [.int q21.1] q21.2 c w _
      refine Rn.iload n73_98 l4 ?_
      by_cases hc23 : mc2 .ne q21.1 x18 = true
      · rw [if_pos hc23] at h
        refine Rn.c2t (t := 111) n73_100 (by decide) hc23 ?_
        exact t73_111 hd F  lv _ _ _  ok hn   h
      · rw [if_neg hc23] at h
        refine Rn.c2f (t := 111) n73_100 (by decide) hc23 ?_
        refine Rn.aload_n n73_103 l0 ?_
        refine Rn.iload_n n73_104 l1 ?_
        refine Rn.iload_n n73_105 l2 ?_
        refine Rn.iload n73_106 l4 ?_
        obtain ⟨u25, hu25, h⟩ := Option.bind_eq_some_iff.mp h
        obtain ⟨q24, hq24, h⟩ := Option.bind_eq_some_iff.mp h
        have gq24 := c75 (d := d') (by omega) F _ _ _ _ _ _ _ (by rw [hn]; exact r_v0) hq24
        refine Rn.cv (As := [.int v1, .int v2, .int x18]) (rr := []) n73_108 mo73 mm7_112 (by decide) mq75 rfl rfl rfl rfl (by rw [mo75]; exact hu25) (Nat.le_of_ble_eq_true rfl) (by rw [hn]; exact (okc (okr r_v0) (okc rfl (okc rfl (okc rfl okn))))) (by rw [hn]; exact okn) (by rw [hn]; exact ok) (by rw [ml75]; exact Nat.le_of_ble_eq_true rfl) gq24 ?_
        have hn := (Rn.len gq24).trans hn
        show Rn _ 73 111 lv [] q24.2 c w _
        exact t73_111 hd F  lv _ _ _  ok hn   h
  · rw [if_neg hc4] at h
    refine Rn.c2f (t := 51) n73_46 (by decide) hc4 ?_
    refine Rn.ic (v := 1) n73_49 (by decide) ?_
    have e1 := (Prod.mk.inj (Option.some.inj h)).1
    have e2 := (Prod.mk.inj (Option.some.inj h)).2
    subst e1
    subst e2
    exact Rn.zret n73_50 mr73 (Or.inr rfl)
def m73_0 (F : Nat) (v0 : Nat) (v1 : Int32) (v2 : Int32) (hp : List mE) : Option (Int32 × List mE) :=
  (gfr 7 2 hp v0).bind fun x1 =>
  (gfr 6 4 hp x1).bind fun x2 =>
  (rdI hp x2 v1).bind fun x3 =>
  (rcv 7 hp v0).bind fun u5 =>
  (e74 F v0 v1 v2 hp).bind fun q4 =>
  (gfr 7 4 q4.2 v0).bind fun x6 =>
  (rdJ q4.2 x6 v2).bind fun x7 =>
  if mc1 .ge (lg_cmp x7 0) = true then
    m73_34 F v0 v1 v2 (x3 + q4.1) 1 q4.2
  else
    m73_34 F v0 v1 v2 (x3 + q4.1) ((-1)) q4.2
theorem t73_0 {d c w n : Nat} (hd : 3 ≤ d) (F : Nat) : ∀ (v0 : Nat) (v1 : Int32) (v2 : Int32) (lv : List (Nat × Value)) (hp : List mE) (v : Int32) (hp' : List mE), alk 0 lv = some (.ref v0) → alk 1 lv = some (.int v1) → alk 2 lv = some (.int v2) → lvk n lv → hp.length = n → v0 < n → m73_0 F v0 v1 v2 hp = some (v, hp') → Rn d 73 0 lv [] hp c w (some (.int v), hp', c, w) := by
  obtain ⟨d', rfl⟩ : ∃ d', d = d' + 1 := ⟨d - 1, by omega⟩
  intro v0 v1 v2 lv hp v hp' l0 l1 l2 ok hn r_v0 h
  unfold m73_0 at h
  refine Rn.aload_n n73_0 l0 ?_
  obtain ⟨x1, hx1, h⟩ := Option.bind_eq_some_iff.mp h
  refine Rn.gf n73_1 mo73 fl7_35 (gfr_v hx1).1 ?_
  have r_x1 : x1 < n := by rw [← hn]; exact (gfr_v hx1).2
  obtain ⟨x2, hx2, h⟩ := Option.bind_eq_some_iff.mp h
  refine Rn.gf n73_4 mo73 fl7_62 (gfr_v hx2).1 ?_
  have r_x2 : x2 < n := by rw [← hn]; exact (gfr_v hx2).2
  refine Rn.iload_n n73_7 l1 ?_
  obtain ⟨x3, hx3, h⟩ := Option.bind_eq_some_iff.mp h
  refine Rn.iald n73_8 hx3 ?_
  refine Rn.aload_n n73_9 l0 ?_
  refine Rn.iload_n n73_10 l1 ?_
  refine Rn.iload_n n73_11 l2 ?_
  obtain ⟨u5, hu5, h⟩ := Option.bind_eq_some_iff.mp h
  obtain ⟨q4, hq4, h⟩ := Option.bind_eq_some_iff.mp h
  have gq4 := c74 (d := d') (by omega) F _ _ _ _ _ _ (by rw [hn]; exact r_v0) hq4
  refine Rn.cv (As := [.int v1, .int v2]) (rr := [.int x3]) n73_12 mo73 mm7_106 (by decide) mq74 rfl rfl rfl rfl (by rw [mo74]; exact hu5) (Nat.le_of_ble_eq_true rfl) (by rw [hn]; exact (okc (okr r_v0) (okc rfl (okc rfl okn)))) (by rw [hn]; exact (okc rfl okn)) (by rw [hn]; exact ok) (by rw [ml74]; exact Nat.le_of_ble_eq_true rfl) gq4 ?_
  have hn := (Rn.len gq4).trans hn
  show Rn _ 73 15 lv [.int q4.1, .int x3] q4.2 c w _
  refine Rn.p n73_15 rfl ?_
  refine Rn.isn (m := n) n73_16 rfl ml73 (by decide) (fun lv l3 hk hok => ?_)
  have l0 := hk 0 _ (by decide) (Or.inl rfl) l0
  have l1 := hk 1 _ (by decide) (Or.inl rfl) l1
  have l2 := hk 2 _ (by decide) (Or.inl rfl) l2
  have ok := hok ok
  refine Rn.iload_n n73_17 l3 ?_
  refine Rn.aload_n n73_18 l0 ?_
  obtain ⟨x6, hx6, h⟩ := Option.bind_eq_some_iff.mp h
  refine Rn.gf n73_19 mo73 fl7_15 (gfr_v hx6).1 ?_
  have r_x6 : x6 < n := by rw [← hn]; exact (gfr_v hx6).2
  refine Rn.iload_n n73_22 l2 ?_
  obtain ⟨x7, hx7, h⟩ := Option.bind_eq_some_iff.mp h
  refine Rn.lald n73_23 hx7 ?_
  refine Rn.lc (v := 0) n73_24 (by decide) ?_
  refine Rn.p n73_25 rfl ?_
  by_cases hc8 : mc1 .ge (lg_cmp x7 0) = true
  · rw [if_pos hc8] at h
    refine Rn.c1t (t := 33) n73_26 (by decide) hc8 ?_
    refine Rn.ic (v := 1) n73_33 (by decide) ?_
    exact t73_34 hd F  _ _ _ _ _ lv _ _ _ l0 l1 l2 ok hn r_v0  h
  · rw [if_neg hc8] at h
    refine Rn.c1f (t := 33) n73_26 (by decide) hc8 ?_
    refine Rn.ic (v := (-1)) n73_29 (by decide) ?_
    refine Rn.goto (t := 34) n73_30 (by decide) ?_
    exact t73_34 hd F  _ _ _ _ _ lv _ _ _ l0 l1 l2 ok hn r_v0  h
def e73 (F : Nat) (a0 : Nat) (a1 : Int32) (a2 : Int32) (hp : List mE) : Option (Int32 × List mE) := m73_0 F a0 a1 a2 hp
theorem c73 {d : Nat} (hd : 3 ≤ d) (F : Nat) (a0 : Nat) (a1 : Int32) (a2 : Int32) (hp : List mE) (v : Int32) (hp' : List mE) (ra0 : a0 < hp.length) (h : e73 F a0 a1 a2 hp = some (v, hp')) : Rn d 73 0 (lv_args 0 [.ref a0, .int a1, .int a2]) [] hp 0 0 (some (.int v), hp', 0, 0) :=
  t73_0 (n := hp.length) hd F a0 a1 a2 (lv_args 0 [.ref a0, .int a1, .int a2]) hp v hp' rfl rfl rfl (lvk_args (okc (okr ra0) (okc rfl (okc rfl okn)))) rfl ra0 h
/-! MirrorRoots$Shifts.walk -/
def m72_185 (F : Nat) (hp : List mE) : Option (Int32 × List mE) :=
  some (1, hp)
theorem t72_185 {d c w n : Nat} (hd : 4 ≤ d) (F : Nat) : ∀ (lv : List (Nat × Value)) (hp : List mE) (v : Int32) (hp' : List mE), lvk n lv → hp.length = n → m72_185 F hp = some (v, hp') → Rn d 72 185 lv [] hp c w (some (.int v), hp', c, w) := by
  obtain ⟨d', rfl⟩ : ∃ d', d = d' + 1 := ⟨d - 1, by omega⟩
  intro lv hp v hp' ok hn h
  unfold m72_185 at h
  refine Rn.ic (v := 1) n72_185 (by decide) ?_
  have e1 := (Prod.mk.inj (Option.some.inj h)).1
  have e2 := (Prod.mk.inj (Option.some.inj h)).2
  subst e1
  subst e2
  exact Rn.zret n72_186 mr72 (Or.inr rfl)
def m72_151 (F : Nat) (rc131 : Nat → Int32 → List mE → Option (Int32 × List mE)) : Nat → Nat → Int32 → Int32 → List mE → Option (Int32 × List mE)
  | 0, _, _, _, _ => none
  | f + 1, v0, v2, v3, hp =>
    (gfr 7 0 hp v0).bind fun x1 =>
    (gfi 3 0 hp x1).bind fun x2 =>
    if mc2 .ge v3 x2 = true then
      rc131 v0 (v2 + 1) hp
    else
      (rcv 7 hp v0).bind fun u5 =>
      (e73 F v0 v2 v3 hp).bind fun q4 =>
      if mc1 .ne q4.1 = true then
        m72_151 F rc131 f v0 v2 (v3 + 1) q4.2
      else
        some (0, q4.2)
theorem t72_151 {d c w n : Nat} (hd : 4 ≤ d) (F : Nat) {rc131 : Nat → Int32 → List mE → Option (Int32 × List mE)} (hr131 : ∀ (v0 : Nat) (v2 : Int32) (lv : List (Nat × Value)) (hp : List mE) (v : Int32) (hp' : List mE), alk 0 lv = some (.ref v0) → alk 2 lv = some (.int v2) → lvk n lv → hp.length = n → v0 < n → rc131 v0 v2 hp = some (v, hp') → Rn d 72 131 lv [] hp c w (some (.int v), hp', c, w)) : ∀ f : Nat, ∀ (v0 : Nat) (v2 : Int32) (v3 : Int32) (lv : List (Nat × Value)) (hp : List mE) (v : Int32) (hp' : List mE), alk 0 lv = some (.ref v0) → alk 2 lv = some (.int v2) → alk 3 lv = some (.int v3) → lvk n lv → hp.length = n → v0 < n → m72_151 F rc131 f v0 v2 v3 hp = some (v, hp') → Rn d 72 151 lv [] hp c w (some (.int v), hp', c, w) := by
  obtain ⟨d', rfl⟩ : ∃ d', d = d' + 1 := ⟨d - 1, by omega⟩
  intro f
  induction f with
  | zero => intro v0 v2 v3 lv hp v hp' l0 l2 l3 ok hn r_v0 h; cases h
  | succ f hr151 =>
    intro v0 v2 v3 lv hp v hp' l0 l2 l3 ok hn r_v0 h
    unfold m72_151 at h
    refine Rn.iload_n n72_151 l3 ?_
    refine Rn.aload_n n72_152 l0 ?_
    obtain ⟨x1, hx1, h⟩ := Option.bind_eq_some_iff.mp h
    refine Rn.gf n72_153 mo72 fl7_22 (gfr_v hx1).1 ?_
    have r_x1 : x1 < n := by rw [← hn]; exact (gfr_v hx1).2
    obtain ⟨x2, hx2, h⟩ := Option.bind_eq_some_iff.mp h
    refine Rn.gf n72_156 mo72 fl7_91 (gfi_v hx2) ?_
    by_cases hc3 : mc2 .ge v3 x2 = true
    · rw [if_pos hc3] at h
      refine Rn.c2t (t := 179) n72_159 (by decide) hc3 ?_
      refine Rn.ii (m := n) (u := 1) n72_179 ml72 (by decide) (by decide) l2 (fun lv l2 hk hok => ?_)
      have l0 := hk 0 _ (by decide) (Or.inl rfl) l0
      have l3 := hk 3 _ (by decide) (Or.inl rfl) l3
      have ok := hok ok
      refine Rn.goto (t := 131) n72_182 (by decide) ?_
      exact hr131 _ _ lv _ _ _ l0 l2 ok hn r_v0  h
    · rw [if_neg hc3] at h
      refine Rn.c2f (t := 179) n72_159 (by decide) hc3 ?_
      refine Rn.aload_n n72_162 l0 ?_
      refine Rn.iload_n n72_163 l2 ?_
      refine Rn.iload_n n72_164 l3 ?_
      obtain ⟨u5, hu5, h⟩ := Option.bind_eq_some_iff.mp h
      obtain ⟨q4, hq4, h⟩ := Option.bind_eq_some_iff.mp h
      have gq4 := c73 (d := d') (by omega) F _ _ _ _ _ _ (by rw [hn]; exact r_v0) hq4
      refine Rn.cv (As := [.int v2, .int v3]) (rr := []) n72_165 mo72 mm7_102 (by decide) mq73 rfl rfl rfl rfl (by rw [mo73]; exact hu5) (Nat.le_of_ble_eq_true rfl) (by rw [hn]; exact (okc (okr r_v0) (okc rfl (okc rfl okn)))) (by rw [hn]; exact okn) (by rw [hn]; exact ok) (by rw [ml73]; exact Nat.le_of_ble_eq_true rfl) gq4 ?_
      have hn := (Rn.len gq4).trans hn
      show Rn _ 72 168 lv [.int q4.1] q4.2 c w _
      by_cases hc6 : mc1 .ne q4.1 = true
      · rw [if_pos hc6] at h
        refine Rn.c1t (t := 173) n72_168 (by decide) hc6 ?_
        refine Rn.ii (m := n) (u := 1) n72_173 ml72 (by decide) (by decide) l3 (fun lv l3 hk hok => ?_)
        have l0 := hk 0 _ (by decide) (Or.inl rfl) l0
        have l2 := hk 2 _ (by decide) (Or.inl rfl) l2
        have ok := hok ok
        refine Rn.goto (t := 151) n72_176 (by decide) ?_
        exact hr151 _ _ _ lv _ _ _ l0 l2 l3 ok hn r_v0  h
      · rw [if_neg hc6] at h
        refine Rn.c1f (t := 173) n72_168 (by decide) hc6 ?_
        refine Rn.ic (v := 0) n72_171 (by decide) ?_
        have e1 := (Prod.mk.inj (Option.some.inj h)).1
        have e2 := (Prod.mk.inj (Option.some.inj h)).2
        subst e1
        subst e2
        exact Rn.zret n72_172 mr72 (Or.inl rfl)
def m72_131 (F : Nat) : Nat → Nat → Int32 → List mE → Option (Int32 × List mE)
  | 0, _, _, _ => none
  | f + 1, v0, v2, hp =>
    (gfr 7 2 hp v0).bind fun x1 =>
    (gfi 6 2 hp x1).bind fun x2 =>
    if mc2 .ge v2 x2 = true then
      m72_185 F hp
    else
      if mc2 .ge v2 300 = true then
        m72_185 F hp
      else
        m72_151 F (m72_131 F f) F v0 v2 0 hp
theorem t72_131 {d c w n : Nat} (hd : 4 ≤ d) (F : Nat) : ∀ f : Nat, ∀ (v0 : Nat) (v2 : Int32) (lv : List (Nat × Value)) (hp : List mE) (v : Int32) (hp' : List mE), alk 0 lv = some (.ref v0) → alk 2 lv = some (.int v2) → lvk n lv → hp.length = n → v0 < n → m72_131 F f v0 v2 hp = some (v, hp') → Rn d 72 131 lv [] hp c w (some (.int v), hp', c, w) := by
  obtain ⟨d', rfl⟩ : ∃ d', d = d' + 1 := ⟨d - 1, by omega⟩
  intro f
  induction f with
  | zero => intro v0 v2 lv hp v hp' l0 l2 ok hn r_v0 h; cases h
  | succ f hr131 =>
    intro v0 v2 lv hp v hp' l0 l2 ok hn r_v0 h
    unfold m72_131 at h
    refine Rn.iload_n n72_131 l2 ?_
    refine Rn.aload_n n72_132 l0 ?_
    obtain ⟨x1, hx1, h⟩ := Option.bind_eq_some_iff.mp h
    refine Rn.gf n72_133 mo72 fl7_35 (gfr_v hx1).1 ?_
    have r_x1 : x1 < n := by rw [← hn]; exact (gfr_v hx1).2
    obtain ⟨x2, hx2, h⟩ := Option.bind_eq_some_iff.mp h
    refine Rn.gf n72_136 mo72 fl7_59 (gfi_v hx2) ?_
    by_cases hc3 : mc2 .ge v2 x2 = true
    · rw [if_pos hc3] at h
      refine Rn.c2t (t := 185) n72_139 (by decide) hc3 ?_
      exact t72_185 hd F  lv _ _ _  ok hn   h
    · rw [if_neg hc3] at h
      refine Rn.c2f (t := 185) n72_139 (by decide) hc3 ?_
      refine Rn.iload_n n72_142 l2 ?_
      refine Rn.sp (v := 300) n72_143 (by decide) ?_
      by_cases hc4 : mc2 .ge v2 300 = true
      · rw [if_pos hc4] at h
        refine Rn.c2t (t := 185) n72_146 (by decide) hc4 ?_
        exact t72_185 hd F  lv _ _ _  ok hn   h
      · rw [if_neg hc4] at h
        refine Rn.c2f (t := 185) n72_146 (by decide) hc4 ?_
        refine Rn.ic (v := 0) n72_149 (by decide) ?_
        refine Rn.isn (m := n) n72_150 rfl ml72 (by decide) (fun lv l3 hk hok => ?_)
        have l0 := hk 0 _ (by decide) (Or.inl rfl) l0
        have l2 := hk 2 _ (by decide) (Or.inl rfl) l2
        have ok := hok ok
        exact t72_151 hd F hr131 F _ _ _ lv _ _ _ l0 l2 l3 ok hn r_v0  h
def m72_90 (F : Nat) (rc52 : Nat → Int32 → Int32 → List mE → Option (Int32 × List mE)) : Nat → Nat → Int32 → Int32 → Int32 → List mE → Option (Int32 × List mE)
  | 0, _, _, _, _, _ => none
  | f + 1, v0, v1, v2, v3, hp =>
    if mc1 .lt v3 = true then
      rc52 v0 v1 (v2 + 1) hp
    else
      (gfr 7 0 hp v0).bind fun x2 =>
      (gfr 7 3 hp v0).bind fun x3 =>
      (gfr 7 1 hp v0).bind fun x4 =>
      (rcv 1 hp x4).bind fun u6 =>
      (e17 F x4 v1 v3 hp).bind fun q5 =>
      (rcv 3 q5.2 x2).bind fun u8 =>
      (e39 F x2 x3 (v2 * 5) q5.1 q5.2).bind fun q7 =>
      m72_90 F rc52 f v0 v1 v2 (v3 + (-1)) q7.2
theorem t72_90 {d c w n : Nat} (hd : 4 ≤ d) (F : Nat) {rc52 : Nat → Int32 → Int32 → List mE → Option (Int32 × List mE)} (hr52 : ∀ (v0 : Nat) (v1 : Int32) (v2 : Int32) (lv : List (Nat × Value)) (hp : List mE) (v : Int32) (hp' : List mE), alk 0 lv = some (.ref v0) → alk 1 lv = some (.int v1) → alk 2 lv = some (.int v2) → lvk n lv → hp.length = n → v0 < n → rc52 v0 v1 v2 hp = some (v, hp') → Rn d 72 52 lv [] hp c w (some (.int v), hp', c, w)) : ∀ f : Nat, ∀ (v0 : Nat) (v1 : Int32) (v2 : Int32) (v3 : Int32) (lv : List (Nat × Value)) (hp : List mE) (v : Int32) (hp' : List mE), alk 0 lv = some (.ref v0) → alk 1 lv = some (.int v1) → alk 2 lv = some (.int v2) → alk 3 lv = some (.int v3) → lvk n lv → hp.length = n → v0 < n → m72_90 F rc52 f v0 v1 v2 v3 hp = some (v, hp') → Rn d 72 90 lv [] hp c w (some (.int v), hp', c, w) := by
  obtain ⟨d', rfl⟩ : ∃ d', d = d' + 1 := ⟨d - 1, by omega⟩
  intro f
  induction f with
  | zero => intro v0 v1 v2 v3 lv hp v hp' l0 l1 l2 l3 ok hn r_v0 h; cases h
  | succ f hr90 =>
    intro v0 v1 v2 v3 lv hp v hp' l0 l1 l2 l3 ok hn r_v0 h
    unfold m72_90 at h
    refine Rn.iload_n n72_90 l3 ?_
    by_cases hc1 : mc1 .lt v3 = true
    · rw [if_pos hc1] at h
      refine Rn.c1t (t := 123) n72_91 (by decide) hc1 ?_
      refine Rn.ii (m := n) (u := 1) n72_123 ml72 (by decide) (by decide) l2 (fun lv l2 hk hok => ?_)
      have l0 := hk 0 _ (by decide) (Or.inl rfl) l0
      have l1 := hk 1 _ (by decide) (Or.inl rfl) l1
      have l3 := hk 3 _ (by decide) (Or.inl rfl) l3
      have ok := hok ok
      refine Rn.goto (t := 52) n72_126 (by decide) ?_
      exact hr52 _ _ _ lv _ _ _ l0 l1 l2 ok hn r_v0  h
    · rw [if_neg hc1] at h
      refine Rn.c1f (t := 123) n72_91 (by decide) hc1 ?_
      refine Rn.aload_n n72_94 l0 ?_
      obtain ⟨x2, hx2, h⟩ := Option.bind_eq_some_iff.mp h
      refine Rn.gf n72_95 mo72 fl7_22 (gfr_v hx2).1 ?_
      have r_x2 : x2 < n := by rw [← hn]; exact (gfr_v hx2).2
      refine Rn.aload_n n72_98 l0 ?_
      obtain ⟨x3, hx3, h⟩ := Option.bind_eq_some_iff.mp h
      refine Rn.gf n72_99 mo72 fl7_11 (gfr_v hx3).1 ?_
      have r_x3 : x3 < n := by rw [← hn]; exact (gfr_v hx3).2
      refine Rn.iload_n n72_102 l2 ?_
      refine Rn.ic (v := 5) n72_103 (by decide) ?_
      refine Rn.p n72_104 rfl ?_
      refine Rn.aload_n n72_105 l0 ?_
      obtain ⟨x4, hx4, h⟩ := Option.bind_eq_some_iff.mp h
      refine Rn.gf n72_106 mo72 fl7_26 (gfr_v hx4).1 ?_
      have r_x4 : x4 < n := by rw [← hn]; exact (gfr_v hx4).2
      refine Rn.iload_n n72_109 l1 ?_
      refine Rn.iload_n n72_110 l3 ?_
      obtain ⟨u6, hu6, h⟩ := Option.bind_eq_some_iff.mp h
      obtain ⟨q5, hq5, h⟩ := Option.bind_eq_some_iff.mp h
      have gq5 := c17 (d := d') (by omega) F _ _ _ _ _ _ (by rw [hn]; exact r_x4) hq5
      refine Rn.cv (As := [.int v1, .int v3]) (rr := [.int (v2 * 5), .ref x3, .ref x2]) n72_111 mo72 mm7_96 (by decide) mq17 rfl rfl rfl rfl (by rw [mo17]; exact hu6) (Nat.le_of_ble_eq_true rfl) (by rw [hn]; exact (okc (okr r_x4) (okc rfl (okc rfl okn)))) (by rw [hn]; exact (okc rfl (okc (okr r_x3) (okc (okr r_x2) okn)))) (by rw [hn]; exact ok) (by rw [ml17]; exact Nat.le_of_ble_eq_true rfl) gq5 ?_
      have hn := (Rn.len gq5).trans hn
      show Rn _ 72 114 lv [.int q5.1, .int (v2 * 5), .ref x3, .ref x2] q5.2 c w _
      obtain ⟨u8, hu8, h⟩ := Option.bind_eq_some_iff.mp h
      obtain ⟨q7, hq7, h⟩ := Option.bind_eq_some_iff.mp h
      have gq7 := c39 (d := d') (by omega) F _ _ _ _ _ _ _ (by rw [hn]; exact r_x2) (by rw [hn]; exact r_x3) hq7
      refine Rn.cv (As := [.ref x3, .int (v2 * 5), .int q5.1]) (rr := []) n72_114 mo72 mm7_99 (by decide) mq39 rfl rfl rfl rfl (by rw [mo39]; exact hu8) (Nat.le_of_ble_eq_true rfl) (by rw [hn]; exact (okc (okr r_x2) (okc (okr r_x3) (okc rfl (okc rfl okn))))) (by rw [hn]; exact okn) (by rw [hn]; exact ok) (by rw [ml39]; exact Nat.le_of_ble_eq_true rfl) gq7 ?_
      have hn := (Rn.len gq7).trans hn
      show Rn _ 72 117 lv [] q7.2 c w _
      refine Rn.ii (m := n) (u := (-1)) n72_117 ml72 (by decide) (by decide) l3 (fun lv l3 hk hok => ?_)
      have l0 := hk 0 _ (by decide) (Or.inl rfl) l0
      have l1 := hk 1 _ (by decide) (Or.inl rfl) l1
      have l2 := hk 2 _ (by decide) (Or.inl rfl) l2
      have ok := hok ok
      refine Rn.goto (t := 90) n72_120 (by decide) ?_
      exact hr90 _ _ _ _ lv _ _ _ l0 l1 l2 l3 ok hn r_v0  h
def m72_52 (F : Nat) : Nat → Nat → Int32 → Int32 → List mE → Option (Int32 × List mE)
  | 0, _, _, _, _ => none
  | f + 1, v0, v1, v2, hp =>
    (gfr 7 0 hp v0).bind fun x1 =>
    (gfi 3 0 hp x1).bind fun x2 =>
    if mc2 .ge v2 x2 = true then
      m72_131 F F v0 0 hp
    else
      (gfr 7 0 hp v0).bind fun x4 =>
      (gfr 7 3 hp v0).bind fun x5 =>
      (rcv 3 hp x4).bind fun u7 =>
      (e38 F x4 x5 (v2 * 5) v2 hp).bind fun q6 =>
      (gfr 7 1 q6.2 v0).bind fun x8 =>
      (gfr 1 3 q6.2 x8).bind fun x9 =>
      (rdI q6.2 x9 v1).bind fun x10 =>
      m72_90 F (m72_52 F f) F v0 v1 v2 (x10 - 1) q6.2
theorem t72_52 {d c w n : Nat} (hd : 4 ≤ d) (F : Nat) : ∀ f : Nat, ∀ (v0 : Nat) (v1 : Int32) (v2 : Int32) (lv : List (Nat × Value)) (hp : List mE) (v : Int32) (hp' : List mE), alk 0 lv = some (.ref v0) → alk 1 lv = some (.int v1) → alk 2 lv = some (.int v2) → lvk n lv → hp.length = n → v0 < n → m72_52 F f v0 v1 v2 hp = some (v, hp') → Rn d 72 52 lv [] hp c w (some (.int v), hp', c, w) := by
  obtain ⟨d', rfl⟩ : ∃ d', d = d' + 1 := ⟨d - 1, by omega⟩
  intro f
  induction f with
  | zero => intro v0 v1 v2 lv hp v hp' l0 l1 l2 ok hn r_v0 h; cases h
  | succ f hr52 =>
    intro v0 v1 v2 lv hp v hp' l0 l1 l2 ok hn r_v0 h
    unfold m72_52 at h
    refine Rn.iload_n n72_52 l2 ?_
    refine Rn.aload_n n72_53 l0 ?_
    obtain ⟨x1, hx1, h⟩ := Option.bind_eq_some_iff.mp h
    refine Rn.gf n72_54 mo72 fl7_22 (gfr_v hx1).1 ?_
    have r_x1 : x1 < n := by rw [← hn]; exact (gfr_v hx1).2
    obtain ⟨x2, hx2, h⟩ := Option.bind_eq_some_iff.mp h
    refine Rn.gf n72_57 mo72 fl7_91 (gfi_v hx2) ?_
    by_cases hc3 : mc2 .ge v2 x2 = true
    · rw [if_pos hc3] at h
      refine Rn.c2t (t := 129) n72_60 (by decide) hc3 ?_
      refine Rn.ic (v := 0) n72_129 (by decide) ?_
      refine Rn.isn (m := n) n72_130 rfl ml72 (by decide) (fun lv l2 hk hok => ?_)
      have l0 := hk 0 _ (by decide) (Or.inl rfl) l0
      have l1 := hk 1 _ (by decide) (Or.inl rfl) l1
      have ok := hok ok
      exact t72_131 hd F  F _ _ lv _ _ _ l0 l2 ok hn r_v0  h
    · rw [if_neg hc3] at h
      refine Rn.c2f (t := 129) n72_60 (by decide) hc3 ?_
      refine Rn.aload_n n72_63 l0 ?_
      obtain ⟨x4, hx4, h⟩ := Option.bind_eq_some_iff.mp h
      refine Rn.gf n72_64 mo72 fl7_22 (gfr_v hx4).1 ?_
      have r_x4 : x4 < n := by rw [← hn]; exact (gfr_v hx4).2
      refine Rn.aload_n n72_67 l0 ?_
      obtain ⟨x5, hx5, h⟩ := Option.bind_eq_some_iff.mp h
      refine Rn.gf n72_68 mo72 fl7_11 (gfr_v hx5).1 ?_
      have r_x5 : x5 < n := by rw [← hn]; exact (gfr_v hx5).2
      refine Rn.iload_n n72_71 l2 ?_
      refine Rn.ic (v := 5) n72_72 (by decide) ?_
      refine Rn.p n72_73 rfl ?_
      refine Rn.iload_n n72_74 l2 ?_
      obtain ⟨u7, hu7, h⟩ := Option.bind_eq_some_iff.mp h
      obtain ⟨q6, hq6, h⟩ := Option.bind_eq_some_iff.mp h
      have gq6 := c38 (d := d') (by omega) F _ _ _ _ _ _ _ (by rw [hn]; exact r_x4) (by rw [hn]; exact r_x5) hq6
      refine Rn.cv (As := [.ref x5, .int (v2 * 5), .int v2]) (rr := []) n72_75 mo72 mm7_92 (by decide) mq38 rfl rfl rfl rfl (by rw [mo38]; exact hu7) (Nat.le_of_ble_eq_true rfl) (by rw [hn]; exact (okc (okr r_x4) (okc (okr r_x5) (okc rfl (okc rfl okn))))) (by rw [hn]; exact okn) (by rw [hn]; exact ok) (by rw [ml38]; exact Nat.le_of_ble_eq_true rfl) gq6 ?_
      have hn := (Rn.len gq6).trans hn
      show Rn _ 72 78 lv [] q6.2 c w _
      refine Rn.aload_n n72_78 l0 ?_
      obtain ⟨x8, hx8, h⟩ := Option.bind_eq_some_iff.mp h
      refine Rn.gf n72_79 mo72 fl7_26 (gfr_v hx8).1 ?_
      have r_x8 : x8 < n := by rw [← hn]; exact (gfr_v hx8).2
      obtain ⟨x9, hx9, h⟩ := Option.bind_eq_some_iff.mp h
      refine Rn.gf n72_82 mo72 fl7_86 (gfr_v hx9).1 ?_
      have r_x9 : x9 < n := by rw [← hn]; exact (gfr_v hx9).2
      refine Rn.iload_n n72_85 l1 ?_
      obtain ⟨x10, hx10, h⟩ := Option.bind_eq_some_iff.mp h
      refine Rn.iald n72_86 hx10 ?_
      refine Rn.ic (v := 1) n72_87 (by decide) ?_
      refine Rn.p n72_88 rfl ?_
      refine Rn.isn (m := n) n72_89 rfl ml72 (by decide) (fun lv l3 hk hok => ?_)
      have l0 := hk 0 _ (by decide) (Or.inl rfl) l0
      have l1 := hk 1 _ (by decide) (Or.inl rfl) l1
      have l2 := hk 2 _ (by decide) (Or.inl rfl) l2
      have ok := hok ok
      exact t72_90 hd F hr52 F _ _ _ _ lv _ _ _ l0 l1 l2 l3 ok hn r_v0  h
def m72_0 (F : Nat) (v0 : Nat) (v1 : Int32) (hp : List mE) : Option (Int32 × List mE) :=
  (gfr 7 2 hp v0).bind fun x1 =>
  (rcv 6 hp x1).bind fun u3 =>
  (e60 F x1 hp).bind fun q2 =>
  (gfr 7 0 q2.2 v0).bind fun x4 =>
  (gfr 7 1 q2.2 v0).bind fun x5 =>
  (gfr 1 4 q2.2 x5).bind fun x6 =>
  (gfr 7 4 q2.2 v0).bind fun x7 =>
  (rcv 3 q2.2 x4).bind fun u9 =>
  (e42 F x4 x6 (v1 * 5) x7 0 q2.2).bind fun q8 =>
  (gfr 7 2 q8.2 v0).bind fun x10 =>
  (gfr 7 4 q8.2 v0).bind fun x11 =>
  (gfr 7 1 q8.2 v0).bind fun x12 =>
  (gfr 1 3 q8.2 x12).bind fun x13 =>
  (rdI q8.2 x13 v1).bind fun x14 =>
  (rcv 6 q8.2 x10).bind fun u16 =>
  (e62 F x10 x11 x14 q8.2).bind fun q15 =>
  m72_52 F F v0 v1 0 q15.2
theorem t72_0 {d c w n : Nat} (hd : 4 ≤ d) (F : Nat) : ∀ (v0 : Nat) (v1 : Int32) (lv : List (Nat × Value)) (hp : List mE) (v : Int32) (hp' : List mE), alk 0 lv = some (.ref v0) → alk 1 lv = some (.int v1) → lvk n lv → hp.length = n → v0 < n → m72_0 F v0 v1 hp = some (v, hp') → Rn d 72 0 lv [] hp c w (some (.int v), hp', c, w) := by
  obtain ⟨d', rfl⟩ : ∃ d', d = d' + 1 := ⟨d - 1, by omega⟩
  intro v0 v1 lv hp v hp' l0 l1 ok hn r_v0 h
  unfold m72_0 at h
  refine Rn.aload_n n72_0 l0 ?_
  obtain ⟨x1, hx1, h⟩ := Option.bind_eq_some_iff.mp h
  refine Rn.gf n72_1 mo72 fl7_35 (gfr_v hx1).1 ?_
  have r_x1 : x1 < n := by rw [← hn]; exact (gfr_v hx1).2
  obtain ⟨u3, hu3, h⟩ := Option.bind_eq_some_iff.mp h
  obtain ⟨q2, hq2, h⟩ := Option.bind_eq_some_iff.mp h
  have gq2 := c60 (d := d') (by omega) F _ _ _ _ (by rw [hn]; exact r_x1) hq2
  refine Rn.cv (As := []) (rr := []) n72_4 mo72 mm7_72 (by decide) mq60 rfl rfl rfl rfl (by rw [mo60]; exact hu3) (Nat.le_of_ble_eq_true rfl) (by rw [hn]; exact (okc (okr r_x1) okn)) (by rw [hn]; exact okn) (by rw [hn]; exact ok) (by rw [ml60]; exact Nat.le_of_ble_eq_true rfl) gq2 ?_
  have hn := (Rn.len gq2).trans hn
  show Rn _ 72 7 lv [] q2.2 c w _
  refine Rn.aload_n n72_7 l0 ?_
  obtain ⟨x4, hx4, h⟩ := Option.bind_eq_some_iff.mp h
  refine Rn.gf n72_8 mo72 fl7_22 (gfr_v hx4).1 ?_
  have r_x4 : x4 < n := by rw [← hn]; exact (gfr_v hx4).2
  refine Rn.aload_n n72_11 l0 ?_
  obtain ⟨x5, hx5, h⟩ := Option.bind_eq_some_iff.mp h
  refine Rn.gf n72_12 mo72 fl7_26 (gfr_v hx5).1 ?_
  have r_x5 : x5 < n := by rw [← hn]; exact (gfr_v hx5).2
  obtain ⟨x6, hx6, h⟩ := Option.bind_eq_some_iff.mp h
  refine Rn.gf n72_15 mo72 fl7_75 (gfr_v hx6).1 ?_
  have r_x6 : x6 < n := by rw [← hn]; exact (gfr_v hx6).2
  refine Rn.iload_n n72_18 l1 ?_
  refine Rn.ic (v := 5) n72_19 (by decide) ?_
  refine Rn.p n72_20 rfl ?_
  refine Rn.aload_n n72_21 l0 ?_
  obtain ⟨x7, hx7, h⟩ := Option.bind_eq_some_iff.mp h
  refine Rn.gf n72_22 mo72 fl7_15 (gfr_v hx7).1 ?_
  have r_x7 : x7 < n := by rw [← hn]; exact (gfr_v hx7).2
  refine Rn.ic (v := 0) n72_25 (by decide) ?_
  obtain ⟨u9, hu9, h⟩ := Option.bind_eq_some_iff.mp h
  obtain ⟨q8, hq8, h⟩ := Option.bind_eq_some_iff.mp h
  have gq8 := c42 (d := d') (by omega) F _ _ _ _ _ _ _ _ (by rw [hn]; exact r_x4) (by rw [hn]; exact r_x6) (by rw [hn]; exact r_x7) hq8
  refine Rn.cv (As := [.ref x6, .int (v1 * 5), .ref x7, .int 0]) (rr := []) n72_26 mo72 mm7_80 (by decide) mq42 rfl rfl rfl rfl (by rw [mo42]; exact hu9) (Nat.le_of_ble_eq_true rfl) (by rw [hn]; exact (okc (okr r_x4) (okc (okr r_x6) (okc rfl (okc (okr r_x7) (okc rfl okn)))))) (by rw [hn]; exact okn) (by rw [hn]; exact ok) (by rw [ml42]; exact Nat.le_of_ble_eq_true rfl) gq8 ?_
  have hn := (Rn.len gq8).trans hn
  show Rn _ 72 29 lv [] q8.2 c w _
  refine Rn.aload_n n72_29 l0 ?_
  obtain ⟨x10, hx10, h⟩ := Option.bind_eq_some_iff.mp h
  refine Rn.gf n72_30 mo72 fl7_35 (gfr_v hx10).1 ?_
  have r_x10 : x10 < n := by rw [← hn]; exact (gfr_v hx10).2
  refine Rn.aload_n n72_33 l0 ?_
  obtain ⟨x11, hx11, h⟩ := Option.bind_eq_some_iff.mp h
  refine Rn.gf n72_34 mo72 fl7_15 (gfr_v hx11).1 ?_
  have r_x11 : x11 < n := by rw [← hn]; exact (gfr_v hx11).2
  refine Rn.aload_n n72_37 l0 ?_
  obtain ⟨x12, hx12, h⟩ := Option.bind_eq_some_iff.mp h
  refine Rn.gf n72_38 mo72 fl7_26 (gfr_v hx12).1 ?_
  have r_x12 : x12 < n := by rw [← hn]; exact (gfr_v hx12).2
  obtain ⟨x13, hx13, h⟩ := Option.bind_eq_some_iff.mp h
  refine Rn.gf n72_41 mo72 fl7_86 (gfr_v hx13).1 ?_
  have r_x13 : x13 < n := by rw [← hn]; exact (gfr_v hx13).2
  refine Rn.iload_n n72_44 l1 ?_
  obtain ⟨x14, hx14, h⟩ := Option.bind_eq_some_iff.mp h
  refine Rn.iald n72_45 hx14 ?_
  obtain ⟨u16, hu16, h⟩ := Option.bind_eq_some_iff.mp h
  obtain ⟨q15, hq15, h⟩ := Option.bind_eq_some_iff.mp h
  have gq15 := c62 (d := d') (by omega) F _ _ _ _ _ _ (by rw [hn]; exact r_x10) (by rw [hn]; exact r_x11) hq15
  refine Rn.cv (As := [.ref x11, .int x14]) (rr := []) n72_46 mo72 mm7_87 (by decide) mq62 rfl rfl rfl rfl (by rw [mo62]; exact hu16) (Nat.le_of_ble_eq_true rfl) (by rw [hn]; exact (okc (okr r_x10) (okc (okr r_x11) (okc rfl okn)))) (by rw [hn]; exact okn) (by rw [hn]; exact ok) (by rw [ml62]; exact Nat.le_of_ble_eq_true rfl) gq15 ?_
  have hn := (Rn.len gq15).trans hn
  show Rn _ 72 49 lv [.int q15.1] q15.2 c w _
  refine Rn.p n72_49 rfl ?_
  refine Rn.ic (v := 0) n72_50 (by decide) ?_
  refine Rn.isn (m := n) n72_51 rfl ml72 (by decide) (fun lv l2 hk hok => ?_)
  have l0 := hk 0 _ (by decide) (Or.inl rfl) l0
  have l1 := hk 1 _ (by decide) (Or.inl rfl) l1
  have ok := hok ok
  exact t72_52 hd F  F _ _ _ lv _ _ _ l0 l1 l2 ok hn r_v0  h
def e72 (F : Nat) (a0 : Nat) (a1 : Int32) (hp : List mE) : Option (Int32 × List mE) := m72_0 F a0 a1 hp
theorem c72 {d : Nat} (hd : 4 ≤ d) (F : Nat) (a0 : Nat) (a1 : Int32) (hp : List mE) (v : Int32) (hp' : List mE) (ra0 : a0 < hp.length) (h : e72 F a0 a1 hp = some (v, hp')) : Rn d 72 0 (lv_args 0 [.ref a0, .int a1]) [] hp 0 0 (some (.int v), hp', 0, 0) :=
  t72_0 (n := hp.length) hd F a0 a1 (lv_args 0 [.ref a0, .int a1]) hp v hp' rfl rfl (lvk_args (okc (okr ra0) (okc rfl okn))) rfl ra0 h
/-! MirrorRoots$Telling.append -/
def m77_20 (F : Nat) : Nat → Nat → Int64 → Int32 → List mE → Option (Int32 × List mE)
  | 0, _, _, _, _ => none
  | f + 1, v0, v2, v4, hp =>
    if mc1 .lt v4 = true then
      (gfi 8 1 hp v0).bind fun x2 =>
      some (x2, hp)
    else
      (gfr 8 0 hp v0).bind fun x3 =>
      (gfi 8 1 hp v0).bind fun x4 =>
      (wrI hp x3 x4 (((v2 >>> ((8 * v4).toInt64 &&& 63)) &&& 255).toInt32)).bind fun hp5 =>
      (gfi 8 1 hp5 v0).bind fun x6 =>
      (pfv 8 1 hp5 v0 (.int (x6 + 1))).bind fun hp7 =>
      m77_20 F f v0 v2 (v4 + (-1)) hp7
theorem t77_20 {d c w n : Nat} (hd : 0 ≤ d) (F : Nat) : ∀ f : Nat, ∀ (v0 : Nat) (v2 : Int64) (v4 : Int32) (lv : List (Nat × Value)) (hp : List mE) (v : Int32) (hp' : List mE), alk 0 lv = some (.ref v0) → alk 2 lv = some (.long v2) → alk 4 lv = some (.int v4) → lvk n lv → hp.length = n → v0 < n → m77_20 F f v0 v2 v4 hp = some (v, hp') → Rn d 77 20 lv [] hp c w (some (.int v), hp', c, w) := by
  intro f
  induction f with
  | zero => intro v0 v2 v4 lv hp v hp' l0 l2 l4 ok hn r_v0 h; cases h
  | succ f hr20 =>
    intro v0 v2 v4 lv hp v hp' l0 l2 l4 ok hn r_v0 h
    unfold m77_20 at h
    refine Rn.iload n77_20 l4 ?_
    by_cases hc1 : mc1 .lt v4 = true
    · rw [if_pos hc1] at h
      refine Rn.c1t (t := 62) n77_22 (by decide) hc1 ?_
      refine Rn.aload_n n77_62 l0 ?_
      obtain ⟨x2, hx2, h⟩ := Option.bind_eq_some_iff.mp h
      refine Rn.gf n77_63 mo77 fl8_15 (gfi_v hx2) ?_
      have e1 := (Prod.mk.inj (Option.some.inj h)).1
      have e2 := (Prod.mk.inj (Option.some.inj h)).2
      subst e1
      subst e2
      exact Rn.iret n77_66 mr77
    · rw [if_neg hc1] at h
      refine Rn.c1f (t := 62) n77_22 (by decide) hc1 ?_
      refine Rn.aload_n n77_25 l0 ?_
      obtain ⟨x3, hx3, h⟩ := Option.bind_eq_some_iff.mp h
      refine Rn.gf n77_26 mo77 fl8_9 (gfr_v hx3).1 ?_
      have r_x3 : x3 < n := by rw [← hn]; exact (gfr_v hx3).2
      refine Rn.aload_n n77_29 l0 ?_
      obtain ⟨x4, hx4, h⟩ := Option.bind_eq_some_iff.mp h
      refine Rn.gf n77_30 mo77 fl8_15 (gfi_v hx4) ?_
      refine Rn.lload_n n77_33 l2 ?_
      refine Rn.bp (v := 8) n77_34 (by decide) ?_
      refine Rn.iload n77_36 l4 ?_
      refine Rn.p n77_38 rfl ?_
      refine Rn.p n77_39 rfl ?_
      refine Rn.ldc2 n77_40 mo77 cL8_29 ?_
      refine Rn.p n77_43 rfl ?_
      refine Rn.p n77_44 rfl ?_
      obtain ⟨hp5, hhp5, h⟩ := Option.bind_eq_some_iff.mp h
      refine Rn.iast n77_45 hhp5 ?_
      have hn := (wrI_st (st := []) hhp5).2.trans hn
      refine Rn.aload_n n77_46 l0 ?_
      refine Rn.p n77_47 rfl ?_
      obtain ⟨x6, hx6, h⟩ := Option.bind_eq_some_iff.mp h
      refine Rn.gf n77_48 mo77 fl8_15 (gfi_v hx6) ?_
      refine Rn.ic (v := 1) n77_51 (by decide) ?_
      refine Rn.p n77_52 rfl ?_
      obtain ⟨hp7, hhp7, h⟩ := Option.bind_eq_some_iff.mp h
      refine Rn.pf n77_53 mo77 fl8_15 ft8_1 rfl ff8_1 (fun _ _ hh => by cases hh) hhp7 ?_
      have hn := (pfv_len hhp7).trans hn
      refine Rn.ii (m := n) (u := (-1)) n77_56 ml77 (by decide) (by decide) l4 (fun lv l4 hk hok => ?_)
      have l0 := hk 0 _ (by decide) (Or.inl rfl) l0
      have l2 := hk 2 _ (by decide) (Or.inr (by decide)) l2
      have ok := hok ok
      refine Rn.goto (t := 20) n77_59 (by decide) ?_
      exact hr20 _ _ _ lv _ _ _ l0 l2 l4 ok hn r_v0  h
def m77_0 (F : Nat) (v0 : Nat) (v1 : Int32) (v2 : Int64) (hp : List mE) : Option (Int32 × List mE) :=
  (gfi 8 1 hp v0).bind fun x1 =>
  if mc2 .le (x1 + v1) 120 = true then
    m77_20 F F v0 v2 (v1 - 1) hp
  else
    some ((-1004), hp)
theorem t77_0 {d c w n : Nat} (hd : 0 ≤ d) (F : Nat) : ∀ (v0 : Nat) (v1 : Int32) (v2 : Int64) (lv : List (Nat × Value)) (hp : List mE) (v : Int32) (hp' : List mE), alk 0 lv = some (.ref v0) → alk 1 lv = some (.int v1) → alk 2 lv = some (.long v2) → lvk n lv → hp.length = n → v0 < n → m77_0 F v0 v1 v2 hp = some (v, hp') → Rn d 77 0 lv [] hp c w (some (.int v), hp', c, w) := by
  intro v0 v1 v2 lv hp v hp' l0 l1 l2 ok hn r_v0 h
  unfold m77_0 at h
  refine Rn.aload_n n77_0 l0 ?_
  obtain ⟨x1, hx1, h⟩ := Option.bind_eq_some_iff.mp h
  refine Rn.gf n77_1 mo77 fl8_15 (gfi_v hx1) ?_
  refine Rn.iload_n n77_4 l1 ?_
  refine Rn.p n77_5 rfl ?_
  refine Rn.bp (v := 120) n77_6 (by decide) ?_
  by_cases hc2 : mc2 .le (x1 + v1) 120 = true
  · rw [if_pos hc2] at h
    refine Rn.c2t (t := 15) n77_8 (by decide) hc2 ?_
    refine Rn.iload_n n77_15 l1 ?_
    refine Rn.ic (v := 1) n77_16 (by decide) ?_
    refine Rn.p n77_17 rfl ?_
    refine Rn.is (m := n) n77_18 ml77 (by decide) (fun lv l4 hk hok => ?_)
    have l0 := hk 0 _ (by decide) (Or.inl rfl) l0
    have l1 := hk 1 _ (by decide) (Or.inl rfl) l1
    have l2 := hk 2 _ (by decide) (Or.inr (by decide)) l2
    have ok := hok ok
    exact t77_20 hd F  F _ _ _ lv _ _ _ l0 l2 l4 ok hn r_v0  h
  · rw [if_neg hc2] at h
    refine Rn.c2f (t := 15) n77_8 (by decide) hc2 ?_
    refine Rn.sp (v := (-1004)) n77_11 (by decide) ?_
    have e1 := (Prod.mk.inj (Option.some.inj h)).1
    have e2 := (Prod.mk.inj (Option.some.inj h)).2
    subst e1
    subst e2
    exact Rn.iret n77_14 mr77
def e77 (F : Nat) (a0 : Nat) (a1 : Int32) (a2 : Int64) (hp : List mE) : Option (Int32 × List mE) := m77_0 F a0 a1 a2 hp
theorem c77 {d : Nat} (hd : 0 ≤ d) (F : Nat) (a0 : Nat) (a1 : Int32) (a2 : Int64) (hp : List mE) (v : Int32) (hp' : List mE) (ra0 : a0 < hp.length) (h : e77 F a0 a1 a2 hp = some (v, hp')) : Rn d 77 0 (lv_args 0 [.ref a0, .int a1, .long a2]) [] hp 0 0 (some (.int v), hp', 0, 0) :=
  t77_0 (n := hp.length) hd F a0 a1 a2 (lv_args 0 [.ref a0, .int a1, .long a2]) hp v hp' rfl rfl rfl (lvk_args (okc (okr ra0) (okc rfl (okc rfl okn)))) rfl ra0 h
/-! MirrorRoots$Telling.begin -/
def m79_22 (F : Nat) : Nat → Nat → Int32 → List mE → Option (Unit × List mE)
  | 0, _, _, _ => none
  | f + 1, v0, v1, hp =>
    if mc2 .ge v1 25 = true then
      some ((), hp)
    else
      (gfr 8 6 hp v0).bind fun x2 =>
      (wrI hp x2 v1 2).bind fun hp3 =>
      (gfr 8 7 hp3 v0).bind fun x4 =>
      (wrZ hp3 x4 v1 0).bind fun hp5 =>
      m79_22 F f v0 (v1 + 1) hp5
theorem t79_22 {d c w n : Nat} (hd : 0 ≤ d) (F : Nat) : ∀ f : Nat, ∀ (v0 : Nat) (v1 : Int32) (lv : List (Nat × Value)) (hp : List mE) (v : Unit) (hp' : List mE), alk 0 lv = some (.ref v0) → alk 1 lv = some (.int v1) → lvk n lv → hp.length = n → v0 < n → m79_22 F f v0 v1 hp = some (v, hp') → Rn d 79 22 lv [] hp c w (none, hp', c, w) := by
  intro f
  induction f with
  | zero => intro v0 v1 lv hp v hp' l0 l1 ok hn r_v0 h; cases h
  | succ f hr22 =>
    intro v0 v1 lv hp v hp' l0 l1 ok hn r_v0 h
    unfold m79_22 at h
    refine Rn.iload_n n79_22 l1 ?_
    refine Rn.bp (v := 25) n79_23 (by decide) ?_
    by_cases hc1 : mc2 .ge v1 25 = true
    · rw [if_pos hc1] at h
      refine Rn.c2t (t := 48) n79_25 (by decide) hc1 ?_
      have e1 := (Prod.mk.inj (Option.some.inj h)).1
      have e2 := (Prod.mk.inj (Option.some.inj h)).2
      subst e1
      subst e2
      exact Rn.vret n79_48 mr79
    · rw [if_neg hc1] at h
      refine Rn.c2f (t := 48) n79_25 (by decide) hc1 ?_
      refine Rn.aload_n n79_28 l0 ?_
      obtain ⟨x2, hx2, h⟩ := Option.bind_eq_some_iff.mp h
      refine Rn.gf n79_29 mo79 fl8_22 (gfr_v hx2).1 ?_
      have r_x2 : x2 < n := by rw [← hn]; exact (gfr_v hx2).2
      refine Rn.iload_n n79_32 l1 ?_
      refine Rn.ic (v := 2) n79_33 (by decide) ?_
      obtain ⟨hp3, hhp3, h⟩ := Option.bind_eq_some_iff.mp h
      refine Rn.iast n79_34 hhp3 ?_
      have hn := (wrI_st (st := []) hhp3).2.trans hn
      refine Rn.aload_n n79_35 l0 ?_
      obtain ⟨x4, hx4, h⟩ := Option.bind_eq_some_iff.mp h
      refine Rn.gf n79_36 mo79 fl8_25 (gfr_v hx4).1 ?_
      have r_x4 : x4 < n := by rw [← hn]; exact (gfr_v hx4).2
      refine Rn.iload_n n79_39 l1 ?_
      refine Rn.ic (v := 0) n79_40 (by decide) ?_
      obtain ⟨hp5, hhp5, h⟩ := Option.bind_eq_some_iff.mp h
      refine Rn.zast n79_41 hhp5 ?_
      have hn := (wrZ_st (st := []) hhp5).2.trans hn
      refine Rn.ii (m := n) (u := 1) n79_42 ml79 (by decide) (by decide) l1 (fun lv l1 hk hok => ?_)
      have l0 := hk 0 _ (by decide) (Or.inl rfl) l0
      have ok := hok ok
      refine Rn.goto (t := 22) n79_45 (by decide) ?_
      exact hr22 _ _ lv _ _ _ l0 l1 ok hn r_v0  h
def m79_0 (F : Nat) (v0 : Nat) (hp : List mE) : Option (Unit × List mE) :=
  (pfv 8 2 hp v0 (.int 0)).bind fun hp1 =>
  (pfv 8 3 hp1 v0 (.int 0)).bind fun hp2 =>
  (pfv 8 4 hp2 v0 (.int ((-1)))).bind fun hp3 =>
  (pfv 8 5 hp3 v0 (.int 3)).bind fun hp4 =>
  m79_22 F F v0 0 hp4
theorem t79_0 {d c w n : Nat} (hd : 0 ≤ d) (F : Nat) : ∀ (v0 : Nat) (lv : List (Nat × Value)) (hp : List mE) (v : Unit) (hp' : List mE), alk 0 lv = some (.ref v0) → lvk n lv → hp.length = n → v0 < n → m79_0 F v0 hp = some (v, hp') → Rn d 79 0 lv [] hp c w (none, hp', c, w) := by
  intro v0 lv hp v hp' l0 ok hn r_v0 h
  unfold m79_0 at h
  refine Rn.aload_n n79_0 l0 ?_
  refine Rn.ic (v := 0) n79_1 (by decide) ?_
  obtain ⟨hp1, hhp1, h⟩ := Option.bind_eq_some_iff.mp h
  refine Rn.pf n79_2 mo79 fl8_41 ft8_2 rfl ff8_2 (fun _ _ hh => by cases hh) hhp1 ?_
  have hn := (pfv_len hhp1).trans hn
  refine Rn.aload_n n79_5 l0 ?_
  refine Rn.ic (v := 0) n79_6 (by decide) ?_
  obtain ⟨hp2, hhp2, h⟩ := Option.bind_eq_some_iff.mp h
  refine Rn.pf n79_7 mo79 fl8_34 ft8_3 rfl ff8_3 (fun _ _ hh => by cases hh) hhp2 ?_
  have hn := (pfv_len hhp2).trans hn
  refine Rn.aload_n n79_10 l0 ?_
  refine Rn.ic (v := (-1)) n79_11 (by decide) ?_
  obtain ⟨hp3, hhp3, h⟩ := Option.bind_eq_some_iff.mp h
  refine Rn.pf n79_12 mo79 fl8_19 ft8_4 rfl ff8_4 (fun _ _ hh => by cases hh) hhp3 ?_
  have hn := (pfv_len hhp3).trans hn
  refine Rn.aload_n n79_15 l0 ?_
  refine Rn.ic (v := 3) n79_16 (by decide) ?_
  obtain ⟨hp4, hhp4, h⟩ := Option.bind_eq_some_iff.mp h
  refine Rn.pf n79_17 mo79 fl8_55 ft8_5 rfl ff8_5 (fun _ _ hh => by cases hh) hhp4 ?_
  have hn := (pfv_len hhp4).trans hn
  refine Rn.ic (v := 0) n79_20 (by decide) ?_
  refine Rn.isn (m := n) n79_21 rfl ml79 (by decide) (fun lv l1 hk hok => ?_)
  have l0 := hk 0 _ (by decide) (Or.inl rfl) l0
  have ok := hok ok
  exact t79_22 hd F  F _ _ lv _ _ _ l0 l1 ok hn r_v0  h
def e79 (F : Nat) (a0 : Nat) (hp : List mE) : Option (Unit × List mE) := m79_0 F a0 hp
theorem c79 {d : Nat} (hd : 0 ≤ d) (F : Nat) (a0 : Nat) (hp : List mE) (v : Unit) (hp' : List mE) (ra0 : a0 < hp.length) (h : e79 F a0 hp = some (v, hp')) : Rn d 79 0 (lv_args 0 [.ref a0]) [] hp 0 0 (none, hp', 0, 0) :=
  t79_0 (n := hp.length) hd F a0 (lv_args 0 [.ref a0]) hp v hp' rfl (lvk_args (okc (okr ra0) okn)) rfl ra0 h
/-! MirrorRoots$Telling.findNext -/
def m87_54 (F : Nat) (t0 : Int32) (hp : List mE) : Option (Int32 × List mE) :=
  if t0 = 0 ∨ t0 = 1 then some (t0, hp) else none
theorem t87_54 {d c w n : Nat} (hd : 0 ≤ d) (F : Nat) : ∀ (t0 : Int32) (lv : List (Nat × Value)) (hp : List mE) (v : Int32) (hp' : List mE), lvk n lv → hp.length = n → m87_54 F t0 hp = some (v, hp') → Rn d 87 54 lv [.int t0] hp c w (some (.int v), hp', c, w) := by
  intro t0 lv hp v hp' ok hn h
  unfold m87_54 at h
  by_cases hz1 : t0 = 0 ∨ t0 = 1
  · rw [if_pos hz1] at h
    have e1 := (Prod.mk.inj (Option.some.inj h)).1
    have e2 := (Prod.mk.inj (Option.some.inj h)).2
    subst e1
    subst e2
    exact Rn.zret n87_54 mr87 hz1
  · rw [if_neg hz1] at h; cases h
def m87_38 (F : Nat) (v0 : Nat) (hp : List mE) : Option (Int32 × List mE) :=
  (gfi 8 2 hp v0).bind fun x1 =>
  (gfi 8 1 hp v0).bind fun x2 =>
  if mc2 .ge x1 x2 = true then
    m87_54 F 0 hp
  else
    m87_54 F 1 hp
theorem t87_38 {d c w n : Nat} (hd : 0 ≤ d) (F : Nat) : ∀ (v0 : Nat) (lv : List (Nat × Value)) (hp : List mE) (v : Int32) (hp' : List mE), alk 0 lv = some (.ref v0) → lvk n lv → hp.length = n → v0 < n → m87_38 F v0 hp = some (v, hp') → Rn d 87 38 lv [] hp c w (some (.int v), hp', c, w) := by
  intro v0 lv hp v hp' l0 ok hn r_v0 h
  unfold m87_38 at h
  refine Rn.aload_n n87_38 l0 ?_
  obtain ⟨x1, hx1, h⟩ := Option.bind_eq_some_iff.mp h
  refine Rn.gf n87_39 mo87 fl8_41 (gfi_v hx1) ?_
  refine Rn.aload_n n87_42 l0 ?_
  obtain ⟨x2, hx2, h⟩ := Option.bind_eq_some_iff.mp h
  refine Rn.gf n87_43 mo87 fl8_15 (gfi_v hx2) ?_
  by_cases hc3 : mc2 .ge x1 x2 = true
  · rw [if_pos hc3] at h
    refine Rn.c2t (t := 53) n87_46 (by decide) hc3 ?_
    refine Rn.ic (v := 0) n87_53 (by decide) ?_
    exact t87_54 hd F  _ lv _ _ _  ok hn   h
  · rw [if_neg hc3] at h
    refine Rn.c2f (t := 53) n87_46 (by decide) hc3 ?_
    refine Rn.ic (v := 1) n87_49 (by decide) ?_
    refine Rn.goto (t := 54) n87_50 (by decide) ?_
    exact t87_54 hd F  _ lv _ _ _  ok hn   h
def m87_0 (F : Nat) : Nat → Nat → List mE → Option (Int32 × List mE)
  | 0, _, _ => none
  | f + 1, v0, hp =>
    (gfi 8 2 hp v0).bind fun x1 =>
    (gfi 8 1 hp v0).bind fun x2 =>
    if mc2 .ge x1 x2 = true then
      m87_38 F v0 hp
    else
      (gfr 8 0 hp v0).bind fun x4 =>
      (gfi 8 2 hp v0).bind fun x5 =>
      (rdI hp x4 x5).bind fun x6 =>
      if mc2 .ne x6 32 = true then
        m87_38 F v0 hp
      else
        (gfi 8 2 hp v0).bind fun x8 =>
        (pfv 8 2 hp v0 (.int (x8 + 1))).bind fun hp9 =>
        m87_0 F f v0 hp9
theorem t87_0 {d c w n : Nat} (hd : 0 ≤ d) (F : Nat) : ∀ f : Nat, ∀ (v0 : Nat) (lv : List (Nat × Value)) (hp : List mE) (v : Int32) (hp' : List mE), alk 0 lv = some (.ref v0) → lvk n lv → hp.length = n → v0 < n → m87_0 F f v0 hp = some (v, hp') → Rn d 87 0 lv [] hp c w (some (.int v), hp', c, w) := by
  intro f
  induction f with
  | zero => intro v0 lv hp v hp' l0 ok hn r_v0 h; cases h
  | succ f hr0 =>
    intro v0 lv hp v hp' l0 ok hn r_v0 h
    unfold m87_0 at h
    refine Rn.aload_n n87_0 l0 ?_
    obtain ⟨x1, hx1, h⟩ := Option.bind_eq_some_iff.mp h
    refine Rn.gf n87_1 mo87 fl8_41 (gfi_v hx1) ?_
    refine Rn.aload_n n87_4 l0 ?_
    obtain ⟨x2, hx2, h⟩ := Option.bind_eq_some_iff.mp h
    refine Rn.gf n87_5 mo87 fl8_15 (gfi_v hx2) ?_
    by_cases hc3 : mc2 .ge x1 x2 = true
    · rw [if_pos hc3] at h
      refine Rn.c2t (t := 38) n87_8 (by decide) hc3 ?_
      exact t87_38 hd F  _ lv _ _ _ l0 ok hn r_v0  h
    · rw [if_neg hc3] at h
      refine Rn.c2f (t := 38) n87_8 (by decide) hc3 ?_
      refine Rn.aload_n n87_11 l0 ?_
      obtain ⟨x4, hx4, h⟩ := Option.bind_eq_some_iff.mp h
      refine Rn.gf n87_12 mo87 fl8_9 (gfr_v hx4).1 ?_
      have r_x4 : x4 < n := by rw [← hn]; exact (gfr_v hx4).2
      refine Rn.aload_n n87_15 l0 ?_
      obtain ⟨x5, hx5, h⟩ := Option.bind_eq_some_iff.mp h
      refine Rn.gf n87_16 mo87 fl8_41 (gfi_v hx5) ?_
      obtain ⟨x6, hx6, h⟩ := Option.bind_eq_some_iff.mp h
      refine Rn.iald n87_19 hx6 ?_
      refine Rn.bp (v := 32) n87_20 (by decide) ?_
      by_cases hc7 : mc2 .ne x6 32 = true
      · rw [if_pos hc7] at h
        refine Rn.c2t (t := 38) n87_22 (by decide) hc7 ?_
        exact t87_38 hd F  _ lv _ _ _ l0 ok hn r_v0  h
      · rw [if_neg hc7] at h
        refine Rn.c2f (t := 38) n87_22 (by decide) hc7 ?_
        refine Rn.aload_n n87_25 l0 ?_
        refine Rn.p n87_26 rfl ?_
        obtain ⟨x8, hx8, h⟩ := Option.bind_eq_some_iff.mp h
        refine Rn.gf n87_27 mo87 fl8_41 (gfi_v hx8) ?_
        refine Rn.ic (v := 1) n87_30 (by decide) ?_
        refine Rn.p n87_31 rfl ?_
        obtain ⟨hp9, hhp9, h⟩ := Option.bind_eq_some_iff.mp h
        refine Rn.pf n87_32 mo87 fl8_41 ft8_2 rfl ff8_2 (fun _ _ hh => by cases hh) hhp9 ?_
        have hn := (pfv_len hhp9).trans hn
        refine Rn.goto (t := 0) n87_35 (by decide) ?_
        exact hr0 _ lv _ _ _ l0 ok hn r_v0  h
def e87 (F : Nat) (a0 : Nat) (hp : List mE) : Option (Int32 × List mE) := m87_0 F F a0 hp
theorem c87 {d : Nat} (hd : 0 ≤ d) (F : Nat) (a0 : Nat) (hp : List mE) (v : Int32) (hp' : List mE) (ra0 : a0 < hp.length) (h : e87 F a0 hp = some (v, hp')) : Rn d 87 0 (lv_args 0 [.ref a0]) [] hp 0 0 (some (.int v), hp', 0, 0) :=
  t87_0 (n := hp.length) hd F F a0 (lv_args 0 [.ref a0]) hp v hp' rfl (lvk_args (okc (okr ra0) okn)) rfl ra0 h
/-! MirrorRoots$Telling.blame -/
def m89_0 (F : Nat) (v0 : Nat) (v1 : Int32) (v2 : Int32) (hp : List mE) : Option (Unit × List mE) :=
  (pfv 8 3 hp v0 (.int v1)).bind fun hp1 =>
  (pfv 8 4 hp1 v0 (.int v2)).bind fun hp2 =>
  some ((), hp2)
theorem t89_0 {d c w n : Nat} (hd : 0 ≤ d) (F : Nat) : ∀ (v0 : Nat) (v1 : Int32) (v2 : Int32) (lv : List (Nat × Value)) (hp : List mE) (v : Unit) (hp' : List mE), alk 0 lv = some (.ref v0) → alk 1 lv = some (.int v1) → alk 2 lv = some (.int v2) → lvk n lv → hp.length = n → v0 < n → m89_0 F v0 v1 v2 hp = some (v, hp') → Rn d 89 0 lv [] hp c w (none, hp', c, w) := by
  intro v0 v1 v2 lv hp v hp' l0 l1 l2 ok hn r_v0 h
  unfold m89_0 at h
  refine Rn.aload_n n89_0 l0 ?_
  refine Rn.iload_n n89_1 l1 ?_
  obtain ⟨hp1, hhp1, h⟩ := Option.bind_eq_some_iff.mp h
  refine Rn.pf n89_2 mo89 fl8_34 ft8_3 rfl ff8_3 (fun _ _ hh => by cases hh) hhp1 ?_
  have hn := (pfv_len hhp1).trans hn
  refine Rn.aload_n n89_5 l0 ?_
  refine Rn.iload_n n89_6 l2 ?_
  obtain ⟨hp2, hhp2, h⟩ := Option.bind_eq_some_iff.mp h
  refine Rn.pf n89_7 mo89 fl8_19 ft8_4 rfl ff8_4 (fun _ _ hh => by cases hh) hhp2 ?_
  have hn := (pfv_len hhp2).trans hn
  have e1 := (Prod.mk.inj (Option.some.inj h)).1
  have e2 := (Prod.mk.inj (Option.some.inj h)).2
  subst e1
  subst e2
  exact Rn.vret n89_10 mr89
def e89 (F : Nat) (a0 : Nat) (a1 : Int32) (a2 : Int32) (hp : List mE) : Option (Unit × List mE) := m89_0 F a0 a1 a2 hp
theorem c89 {d : Nat} (hd : 0 ≤ d) (F : Nat) (a0 : Nat) (a1 : Int32) (a2 : Int32) (hp : List mE) (v : Unit) (hp' : List mE) (ra0 : a0 < hp.length) (h : e89 F a0 a1 a2 hp = some (v, hp')) : Rn d 89 0 (lv_args 0 [.ref a0, .int a1, .int a2]) [] hp 0 0 (none, hp', 0, 0) :=
  t89_0 (n := hp.length) hd F a0 a1 a2 (lv_args 0 [.ref a0, .int a1, .int a2]) hp v hp' rfl rfl rfl (lvk_args (okc (okr ra0) (okc rfl (okc rfl okn)))) rfl ra0 h
/-! MirrorRoots$Telling.takeFigure -/
def m84_35 (F : Nat) (v0 : Nat) (hp : List mE) : Option (Int32 × List mE) :=
  (gfi 8 2 hp v0).bind fun x1 =>
  (rcv 8 hp v0).bind fun u3 =>
  (e89 F v0 1 x1 hp).bind fun q2 =>
  some ((-1), q2.2)
theorem t84_35 {d c w n : Nat} (hd : 1 ≤ d) (F : Nat) : ∀ (v0 : Nat) (lv : List (Nat × Value)) (hp : List mE) (v : Int32) (hp' : List mE), alk 0 lv = some (.ref v0) → lvk n lv → hp.length = n → v0 < n → m84_35 F v0 hp = some (v, hp') → Rn d 84 35 lv [] hp c w (some (.int v), hp', c, w) := by
  obtain ⟨d', rfl⟩ : ∃ d', d = d' + 1 := ⟨d - 1, by omega⟩
  intro v0 lv hp v hp' l0 ok hn r_v0 h
  unfold m84_35 at h
  refine Rn.aload_n n84_35 l0 ?_
  refine Rn.ic (v := 1) n84_36 (by decide) ?_
  refine Rn.aload_n n84_37 l0 ?_
  obtain ⟨x1, hx1, h⟩ := Option.bind_eq_some_iff.mp h
  refine Rn.gf n84_38 mo84 fl8_41 (gfi_v hx1) ?_
  obtain ⟨u3, hu3, h⟩ := Option.bind_eq_some_iff.mp h
  obtain ⟨q2, hq2, h⟩ := Option.bind_eq_some_iff.mp h
  have gq2 := c89 (d := d') (by omega) F _ _ _ _ _ _ (by rw [hn]; exact r_v0) hq2
  refine Rn.cv (As := [.int 1, .int x1]) (rr := []) n84_41 mo84 mm8_64 (by decide) mq89 rfl rfl rfl rfl (by rw [mo89]; exact hu3) (Nat.le_of_ble_eq_true rfl) (by rw [hn]; exact (okc (okr r_v0) (okc rfl (okc rfl okn)))) (by rw [hn]; exact okn) (by rw [hn]; exact ok) (by rw [ml89]; exact Nat.le_of_ble_eq_true rfl) gq2 ?_
  have hn := (Rn.len gq2).trans hn
  show Rn _ 84 44 lv [] q2.2 c w _
  refine Rn.ic (v := (-1)) n84_44 (by decide) ?_
  have e1 := (Prod.mk.inj (Option.some.inj h)).1
  have e2 := (Prod.mk.inj (Option.some.inj h)).2
  subst e1
  subst e2
  exact Rn.iret n84_45 mr84
def m84_0 (F : Nat) (v0 : Nat) (hp : List mE) : Option (Int32 × List mE) :=
  (rcv 8 hp v0).bind fun u2 =>
  (e87 F v0 hp).bind fun q1 =>
  if mc1 .eq q1.1 = true then
    m84_35 F v0 q1.2
  else
    (gfr 8 0 q1.2 v0).bind fun x4 =>
    (gfi 8 2 q1.2 v0).bind fun x5 =>
    (rdI q1.2 x4 x5).bind fun x6 =>
    if mc2 .lt x6 48 = true then
      m84_35 F v0 q1.2
    else
      (gfr 8 0 q1.2 v0).bind fun x8 =>
      (gfi 8 2 q1.2 v0).bind fun x9 =>
      (rdI q1.2 x8 x9).bind fun x10 =>
      if mc2 .le x10 57 = true then
        (gfi 8 2 q1.2 v0).bind fun x12 =>
        (pfv 8 2 q1.2 v0 (.int (x12 + 1))).bind fun hp13 =>
        (gfr 8 0 hp13 v0).bind fun x14 =>
        (gfi 8 2 hp13 v0).bind fun x15 =>
        (rdI hp13 x14 (x15 - 1)).bind fun x16 =>
        some (x16 - 48, hp13)
      else
        m84_35 F v0 q1.2
theorem t84_0 {d c w n : Nat} (hd : 1 ≤ d) (F : Nat) : ∀ (v0 : Nat) (lv : List (Nat × Value)) (hp : List mE) (v : Int32) (hp' : List mE), alk 0 lv = some (.ref v0) → lvk n lv → hp.length = n → v0 < n → m84_0 F v0 hp = some (v, hp') → Rn d 84 0 lv [] hp c w (some (.int v), hp', c, w) := by
  obtain ⟨d', rfl⟩ : ∃ d', d = d' + 1 := ⟨d - 1, by omega⟩
  intro v0 lv hp v hp' l0 ok hn r_v0 h
  unfold m84_0 at h
  refine Rn.aload_n n84_0 l0 ?_
  obtain ⟨u2, hu2, h⟩ := Option.bind_eq_some_iff.mp h
  obtain ⟨q1, hq1, h⟩ := Option.bind_eq_some_iff.mp h
  have gq1 := c87 (d := d') (by omega) F _ _ _ _ (by rw [hn]; exact r_v0) hq1
  refine Rn.cv (As := []) (rr := []) n84_1 mo84 mm8_37 (by decide) mq87 rfl rfl rfl rfl (by rw [mo87]; exact hu2) (Nat.le_of_ble_eq_true rfl) (by rw [hn]; exact (okc (okr r_v0) okn)) (by rw [hn]; exact okn) (by rw [hn]; exact ok) (by rw [ml87]; exact Nat.le_of_ble_eq_true rfl) gq1 ?_
  have hn := (Rn.len gq1).trans hn
  show Rn _ 84 4 lv [.int q1.1] q1.2 c w _
  by_cases hc3 : mc1 .eq q1.1 = true
  · rw [if_pos hc3] at h
    refine Rn.c1t (t := 35) n84_4 (by decide) hc3 ?_
    exact t84_35 hd F  _ lv _ _ _ l0 ok hn r_v0  h
  · rw [if_neg hc3] at h
    refine Rn.c1f (t := 35) n84_4 (by decide) hc3 ?_
    refine Rn.aload_n n84_7 l0 ?_
    obtain ⟨x4, hx4, h⟩ := Option.bind_eq_some_iff.mp h
    refine Rn.gf n84_8 mo84 fl8_9 (gfr_v hx4).1 ?_
    have r_x4 : x4 < n := by rw [← hn]; exact (gfr_v hx4).2
    refine Rn.aload_n n84_11 l0 ?_
    obtain ⟨x5, hx5, h⟩ := Option.bind_eq_some_iff.mp h
    refine Rn.gf n84_12 mo84 fl8_41 (gfi_v hx5) ?_
    obtain ⟨x6, hx6, h⟩ := Option.bind_eq_some_iff.mp h
    refine Rn.iald n84_15 hx6 ?_
    refine Rn.bp (v := 48) n84_16 (by decide) ?_
    by_cases hc7 : mc2 .lt x6 48 = true
    · rw [if_pos hc7] at h
      refine Rn.c2t (t := 35) n84_18 (by decide) hc7 ?_
      exact t84_35 hd F  _ lv _ _ _ l0 ok hn r_v0  h
    · rw [if_neg hc7] at h
      refine Rn.c2f (t := 35) n84_18 (by decide) hc7 ?_
      refine Rn.aload_n n84_21 l0 ?_
      obtain ⟨x8, hx8, h⟩ := Option.bind_eq_some_iff.mp h
      refine Rn.gf n84_22 mo84 fl8_9 (gfr_v hx8).1 ?_
      have r_x8 : x8 < n := by rw [← hn]; exact (gfr_v hx8).2
      refine Rn.aload_n n84_25 l0 ?_
      obtain ⟨x9, hx9, h⟩ := Option.bind_eq_some_iff.mp h
      refine Rn.gf n84_26 mo84 fl8_41 (gfi_v hx9) ?_
      obtain ⟨x10, hx10, h⟩ := Option.bind_eq_some_iff.mp h
      refine Rn.iald n84_29 hx10 ?_
      refine Rn.bp (v := 57) n84_30 (by decide) ?_
      by_cases hc11 : mc2 .le x10 57 = true
      · rw [if_pos hc11] at h
        refine Rn.c2t (t := 46) n84_32 (by decide) hc11 ?_
        refine Rn.aload_n n84_46 l0 ?_
        refine Rn.p n84_47 rfl ?_
        obtain ⟨x12, hx12, h⟩ := Option.bind_eq_some_iff.mp h
        refine Rn.gf n84_48 mo84 fl8_41 (gfi_v hx12) ?_
        refine Rn.ic (v := 1) n84_51 (by decide) ?_
        refine Rn.p n84_52 rfl ?_
        obtain ⟨hp13, hhp13, h⟩ := Option.bind_eq_some_iff.mp h
        refine Rn.pf n84_53 mo84 fl8_41 ft8_2 rfl ff8_2 (fun _ _ hh => by cases hh) hhp13 ?_
        have hn := (pfv_len hhp13).trans hn
        refine Rn.aload_n n84_56 l0 ?_
        obtain ⟨x14, hx14, h⟩ := Option.bind_eq_some_iff.mp h
        refine Rn.gf n84_57 mo84 fl8_9 (gfr_v hx14).1 ?_
        have r_x14 : x14 < n := by rw [← hn]; exact (gfr_v hx14).2
        refine Rn.aload_n n84_60 l0 ?_
        obtain ⟨x15, hx15, h⟩ := Option.bind_eq_some_iff.mp h
        refine Rn.gf n84_61 mo84 fl8_41 (gfi_v hx15) ?_
        refine Rn.ic (v := 1) n84_64 (by decide) ?_
        refine Rn.p n84_65 rfl ?_
        obtain ⟨x16, hx16, h⟩ := Option.bind_eq_some_iff.mp h
        refine Rn.iald n84_66 hx16 ?_
        refine Rn.bp (v := 48) n84_67 (by decide) ?_
        refine Rn.p n84_69 rfl ?_
        have e1 := (Prod.mk.inj (Option.some.inj h)).1
        have e2 := (Prod.mk.inj (Option.some.inj h)).2
        subst e1
        subst e2
        exact Rn.iret n84_70 mr84
      · rw [if_neg hc11] at h
        refine Rn.c2f (t := 46) n84_32 (by decide) hc11 ?_
        exact t84_35 hd F  _ lv _ _ _ l0 ok hn r_v0  h
def e84 (F : Nat) (a0 : Nat) (hp : List mE) : Option (Int32 × List mE) := m84_0 F a0 hp
theorem c84 {d : Nat} (hd : 1 ≤ d) (F : Nat) (a0 : Nat) (hp : List mE) (v : Int32) (hp' : List mE) (ra0 : a0 < hp.length) (h : e84 F a0 hp = some (v, hp')) : Rn d 84 0 (lv_args 0 [.ref a0]) [] hp 0 0 (some (.int v), hp', 0, 0) :=
  t84_0 (n := hp.length) hd F a0 (lv_args 0 [.ref a0]) hp v hp' rfl (lvk_args (okc (okr ra0) okn)) rfl ra0 h
/-! MirrorRoots$Telling.takeEnd -/
def m85_43 (F : Nat) (hp : List mE) : Option (Unit × List mE) :=
  some ((), hp)
theorem t85_43 {d c w n : Nat} (hd : 1 ≤ d) (F : Nat) : ∀ (lv : List (Nat × Value)) (hp : List mE) (v : Unit) (hp' : List mE), lvk n lv → hp.length = n → m85_43 F hp = some (v, hp') → Rn d 85 43 lv [] hp c w (none, hp', c, w) := by
  obtain ⟨d', rfl⟩ : ∃ d', d = d' + 1 := ⟨d - 1, by omega⟩
  intro lv hp v hp' ok hn h
  unfold m85_43 at h
  have e1 := (Prod.mk.inj (Option.some.inj h)).1
  have e2 := (Prod.mk.inj (Option.some.inj h)).2
  subst e1
  subst e2
  exact Rn.vret n85_43 mr85
def m85_21 (F : Nat) (v0 : Nat) (hp : List mE) : Option (Unit × List mE) :=
  (gfi 8 2 hp v0).bind fun x1 =>
  (rcv 8 hp v0).bind fun u3 =>
  (e89 F v0 1 x1 hp).bind fun q2 =>
  m85_43 F q2.2
theorem t85_21 {d c w n : Nat} (hd : 1 ≤ d) (F : Nat) : ∀ (v0 : Nat) (lv : List (Nat × Value)) (hp : List mE) (v : Unit) (hp' : List mE), alk 0 lv = some (.ref v0) → lvk n lv → hp.length = n → v0 < n → m85_21 F v0 hp = some (v, hp') → Rn d 85 21 lv [] hp c w (none, hp', c, w) := by
  obtain ⟨d', rfl⟩ : ∃ d', d = d' + 1 := ⟨d - 1, by omega⟩
  intro v0 lv hp v hp' l0 ok hn r_v0 h
  unfold m85_21 at h
  refine Rn.aload_n n85_21 l0 ?_
  refine Rn.ic (v := 1) n85_22 (by decide) ?_
  refine Rn.aload_n n85_23 l0 ?_
  obtain ⟨x1, hx1, h⟩ := Option.bind_eq_some_iff.mp h
  refine Rn.gf n85_24 mo85 fl8_41 (gfi_v hx1) ?_
  obtain ⟨u3, hu3, h⟩ := Option.bind_eq_some_iff.mp h
  obtain ⟨q2, hq2, h⟩ := Option.bind_eq_some_iff.mp h
  have gq2 := c89 (d := d') (by omega) F _ _ _ _ _ _ (by rw [hn]; exact r_v0) hq2
  refine Rn.cv (As := [.int 1, .int x1]) (rr := []) n85_27 mo85 mm8_64 (by decide) mq89 rfl rfl rfl rfl (by rw [mo89]; exact hu3) (Nat.le_of_ble_eq_true rfl) (by rw [hn]; exact (okc (okr r_v0) (okc rfl (okc rfl okn)))) (by rw [hn]; exact okn) (by rw [hn]; exact ok) (by rw [ml89]; exact Nat.le_of_ble_eq_true rfl) gq2 ?_
  have hn := (Rn.len gq2).trans hn
  show Rn _ 85 30 lv [] q2.2 c w _
  refine Rn.goto (t := 43) n85_30 (by decide) ?_
  exact t85_43 hd F  lv _ _ _  ok hn   h
def m85_0 (F : Nat) (v0 : Nat) (hp : List mE) : Option (Unit × List mE) :=
  (rcv 8 hp v0).bind fun u2 =>
  (e87 F v0 hp).bind fun q1 =>
  if mc1 .eq q1.1 = true then
    m85_21 F v0 q1.2
  else
    (gfr 8 0 q1.2 v0).bind fun x4 =>
    (gfi 8 2 q1.2 v0).bind fun x5 =>
    (rdI q1.2 x4 x5).bind fun x6 =>
    if mc2 .eq x6 59 = true then
      (gfi 8 2 q1.2 v0).bind fun x8 =>
      (pfv 8 2 q1.2 v0 (.int (x8 + 1))).bind fun hp9 =>
      m85_43 F hp9
    else
      m85_21 F v0 q1.2
theorem t85_0 {d c w n : Nat} (hd : 1 ≤ d) (F : Nat) : ∀ (v0 : Nat) (lv : List (Nat × Value)) (hp : List mE) (v : Unit) (hp' : List mE), alk 0 lv = some (.ref v0) → lvk n lv → hp.length = n → v0 < n → m85_0 F v0 hp = some (v, hp') → Rn d 85 0 lv [] hp c w (none, hp', c, w) := by
  obtain ⟨d', rfl⟩ : ∃ d', d = d' + 1 := ⟨d - 1, by omega⟩
  intro v0 lv hp v hp' l0 ok hn r_v0 h
  unfold m85_0 at h
  refine Rn.aload_n n85_0 l0 ?_
  obtain ⟨u2, hu2, h⟩ := Option.bind_eq_some_iff.mp h
  obtain ⟨q1, hq1, h⟩ := Option.bind_eq_some_iff.mp h
  have gq1 := c87 (d := d') (by omega) F _ _ _ _ (by rw [hn]; exact r_v0) hq1
  refine Rn.cv (As := []) (rr := []) n85_1 mo85 mm8_37 (by decide) mq87 rfl rfl rfl rfl (by rw [mo87]; exact hu2) (Nat.le_of_ble_eq_true rfl) (by rw [hn]; exact (okc (okr r_v0) okn)) (by rw [hn]; exact okn) (by rw [hn]; exact ok) (by rw [ml87]; exact Nat.le_of_ble_eq_true rfl) gq1 ?_
  have hn := (Rn.len gq1).trans hn
  show Rn _ 85 4 lv [.int q1.1] q1.2 c w _
  by_cases hc3 : mc1 .eq q1.1 = true
  · rw [if_pos hc3] at h
    refine Rn.c1t (t := 21) n85_4 (by decide) hc3 ?_
    exact t85_21 hd F  _ lv _ _ _ l0 ok hn r_v0  h
  · rw [if_neg hc3] at h
    refine Rn.c1f (t := 21) n85_4 (by decide) hc3 ?_
    refine Rn.aload_n n85_7 l0 ?_
    obtain ⟨x4, hx4, h⟩ := Option.bind_eq_some_iff.mp h
    refine Rn.gf n85_8 mo85 fl8_9 (gfr_v hx4).1 ?_
    have r_x4 : x4 < n := by rw [← hn]; exact (gfr_v hx4).2
    refine Rn.aload_n n85_11 l0 ?_
    obtain ⟨x5, hx5, h⟩ := Option.bind_eq_some_iff.mp h
    refine Rn.gf n85_12 mo85 fl8_41 (gfi_v hx5) ?_
    obtain ⟨x6, hx6, h⟩ := Option.bind_eq_some_iff.mp h
    refine Rn.iald n85_15 hx6 ?_
    refine Rn.bp (v := 59) n85_16 (by decide) ?_
    by_cases hc7 : mc2 .eq x6 59 = true
    · rw [if_pos hc7] at h
      refine Rn.c2t (t := 33) n85_18 (by decide) hc7 ?_
      refine Rn.aload_n n85_33 l0 ?_
      refine Rn.p n85_34 rfl ?_
      obtain ⟨x8, hx8, h⟩ := Option.bind_eq_some_iff.mp h
      refine Rn.gf n85_35 mo85 fl8_41 (gfi_v hx8) ?_
      refine Rn.ic (v := 1) n85_38 (by decide) ?_
      refine Rn.p n85_39 rfl ?_
      obtain ⟨hp9, hhp9, h⟩ := Option.bind_eq_some_iff.mp h
      refine Rn.pf n85_40 mo85 fl8_41 ft8_2 rfl ff8_2 (fun _ _ hh => by cases hh) hhp9 ?_
      have hn := (pfv_len hhp9).trans hn
      exact t85_43 hd F  lv _ _ _  ok hn   h
    · rw [if_neg hc7] at h
      refine Rn.c2f (t := 33) n85_18 (by decide) hc7 ?_
      exact t85_21 hd F  _ lv _ _ _ l0 ok hn r_v0  h
def e85 (F : Nat) (a0 : Nat) (hp : List mE) : Option (Unit × List mE) := m85_0 F a0 hp
theorem c85 {d : Nat} (hd : 1 ≤ d) (F : Nat) (a0 : Nat) (hp : List mE) (v : Unit) (hp' : List mE) (ra0 : a0 < hp.length) (h : e85 F a0 hp = some (v, hp')) : Rn d 85 0 (lv_args 0 [.ref a0]) [] hp 0 0 (none, hp', 0, 0) :=
  t85_0 (n := hp.length) hd F a0 (lv_args 0 [.ref a0]) hp v hp' rfl (lvk_args (okc (okr ra0) okn)) rfl ra0 h
/-! MirrorRoots$Telling.setPair -/
def m82_0 (F : Nat) (v0 : Nat) (v1 : Int32) (v2 : Int32) (v3 : Int32) (hp : List mE) : Option (Unit × List mE) :=
  (gfr 8 7 hp v0).bind fun x1 =>
  (wrZ hp x1 ((v1 * 5) + v2) 1).bind fun hp2 =>
  (gfr 8 6 hp2 v0).bind fun x3 =>
  (wrI hp2 x3 ((v1 * 5) + v2) v3).bind fun hp4 =>
  some ((), hp4)
theorem t82_0 {d c w n : Nat} (hd : 0 ≤ d) (F : Nat) : ∀ (v0 : Nat) (v1 : Int32) (v2 : Int32) (v3 : Int32) (lv : List (Nat × Value)) (hp : List mE) (v : Unit) (hp' : List mE), alk 0 lv = some (.ref v0) → alk 1 lv = some (.int v1) → alk 2 lv = some (.int v2) → alk 3 lv = some (.int v3) → lvk n lv → hp.length = n → v0 < n → m82_0 F v0 v1 v2 v3 hp = some (v, hp') → Rn d 82 0 lv [] hp c w (none, hp', c, w) := by
  intro v0 v1 v2 v3 lv hp v hp' l0 l1 l2 l3 ok hn r_v0 h
  unfold m82_0 at h
  refine Rn.aload_n n82_0 l0 ?_
  obtain ⟨x1, hx1, h⟩ := Option.bind_eq_some_iff.mp h
  refine Rn.gf n82_1 mo82 fl8_25 (gfr_v hx1).1 ?_
  have r_x1 : x1 < n := by rw [← hn]; exact (gfr_v hx1).2
  refine Rn.iload_n n82_4 l1 ?_
  refine Rn.ic (v := 5) n82_5 (by decide) ?_
  refine Rn.p n82_6 rfl ?_
  refine Rn.iload_n n82_7 l2 ?_
  refine Rn.p n82_8 rfl ?_
  refine Rn.ic (v := 1) n82_9 (by decide) ?_
  obtain ⟨hp2, hhp2, h⟩ := Option.bind_eq_some_iff.mp h
  refine Rn.zast n82_10 hhp2 ?_
  have hn := (wrZ_st (st := []) hhp2).2.trans hn
  refine Rn.aload_n n82_11 l0 ?_
  obtain ⟨x3, hx3, h⟩ := Option.bind_eq_some_iff.mp h
  refine Rn.gf n82_12 mo82 fl8_22 (gfr_v hx3).1 ?_
  have r_x3 : x3 < n := by rw [← hn]; exact (gfr_v hx3).2
  refine Rn.iload_n n82_15 l1 ?_
  refine Rn.ic (v := 5) n82_16 (by decide) ?_
  refine Rn.p n82_17 rfl ?_
  refine Rn.iload_n n82_18 l2 ?_
  refine Rn.p n82_19 rfl ?_
  refine Rn.iload_n n82_20 l3 ?_
  obtain ⟨hp4, hhp4, h⟩ := Option.bind_eq_some_iff.mp h
  refine Rn.iast n82_21 hhp4 ?_
  have hn := (wrI_st (st := []) hhp4).2.trans hn
  have e1 := (Prod.mk.inj (Option.some.inj h)).1
  have e2 := (Prod.mk.inj (Option.some.inj h)).2
  subst e1
  subst e2
  exact Rn.vret n82_22 mr82
def e82 (F : Nat) (a0 : Nat) (a1 : Int32) (a2 : Int32) (a3 : Int32) (hp : List mE) : Option (Unit × List mE) := m82_0 F a0 a1 a2 a3 hp
theorem c82 {d : Nat} (hd : 0 ≤ d) (F : Nat) (a0 : Nat) (a1 : Int32) (a2 : Int32) (a3 : Int32) (hp : List mE) (v : Unit) (hp' : List mE) (ra0 : a0 < hp.length) (h : e82 F a0 a1 a2 a3 hp = some (v, hp')) : Rn d 82 0 (lv_args 0 [.ref a0, .int a1, .int a2, .int a3]) [] hp 0 0 (none, hp', 0, 0) :=
  t82_0 (n := hp.length) hd F a0 a1 a2 a3 (lv_args 0 [.ref a0, .int a1, .int a2, .int a3]) hp v hp' rfl rfl rfl rfl (lvk_args (okc (okr ra0) (okc rfl (okc rfl (okc rfl okn))))) rfl ra0 h
/-! MirrorRoots$Telling.isLetter -/
def m88_27 (F : Nat) (t0 : Int32) (hp : List mE) : Option (Int32 × List mE) :=
  if t0 = 0 ∨ t0 = 1 then some (t0, hp) else none
theorem t88_27 {d c w n : Nat} (hd : 0 ≤ d) (F : Nat) : ∀ (t0 : Int32) (lv : List (Nat × Value)) (hp : List mE) (v : Int32) (hp' : List mE), lvk n lv → hp.length = n → m88_27 F t0 hp = some (v, hp') → Rn d 88 27 lv [.int t0] hp c w (some (.int v), hp', c, w) := by
  intro t0 lv hp v hp' ok hn h
  unfold m88_27 at h
  by_cases hz1 : t0 = 0 ∨ t0 = 1
  · rw [if_pos hz1] at h
    have e1 := (Prod.mk.inj (Option.some.inj h)).1
    have e2 := (Prod.mk.inj (Option.some.inj h)).2
    subst e1
    subst e2
    exact Rn.zret n88_27 mr88 hz1
  · rw [if_neg hz1] at h; cases h
def m88_26 (F : Nat) (hp : List mE) : Option (Int32 × List mE) :=
  m88_27 F 0 hp
theorem t88_26 {d c w n : Nat} (hd : 0 ≤ d) (F : Nat) : ∀ (lv : List (Nat × Value)) (hp : List mE) (v : Int32) (hp' : List mE), lvk n lv → hp.length = n → m88_26 F hp = some (v, hp') → Rn d 88 26 lv [] hp c w (some (.int v), hp', c, w) := by
  intro lv hp v hp' ok hn h
  unfold m88_26 at h
  refine Rn.ic (v := 0) n88_26 (by decide) ?_
  exact t88_27 hd F  _ lv _ _ _  ok hn   h
def m88_0 (F : Nat) (v0 : Nat) (v1 : Int32) (hp : List mE) : Option (Int32 × List mE) :=
  (gfr 8 0 hp v0).bind fun x1 =>
  (rdI hp x1 v1).bind fun x2 =>
  if mc2 .lt x2 97 = true then
    m88_26 F hp
  else
    (gfr 8 0 hp v0).bind fun x4 =>
    (rdI hp x4 v1).bind fun x5 =>
    if mc2 .gt x5 122 = true then
      m88_26 F hp
    else
      m88_27 F 1 hp
theorem t88_0 {d c w n : Nat} (hd : 0 ≤ d) (F : Nat) : ∀ (v0 : Nat) (v1 : Int32) (lv : List (Nat × Value)) (hp : List mE) (v : Int32) (hp' : List mE), alk 0 lv = some (.ref v0) → alk 1 lv = some (.int v1) → lvk n lv → hp.length = n → v0 < n → m88_0 F v0 v1 hp = some (v, hp') → Rn d 88 0 lv [] hp c w (some (.int v), hp', c, w) := by
  intro v0 v1 lv hp v hp' l0 l1 ok hn r_v0 h
  unfold m88_0 at h
  refine Rn.aload_n n88_0 l0 ?_
  obtain ⟨x1, hx1, h⟩ := Option.bind_eq_some_iff.mp h
  refine Rn.gf n88_1 mo88 fl8_9 (gfr_v hx1).1 ?_
  have r_x1 : x1 < n := by rw [← hn]; exact (gfr_v hx1).2
  refine Rn.iload_n n88_4 l1 ?_
  obtain ⟨x2, hx2, h⟩ := Option.bind_eq_some_iff.mp h
  refine Rn.iald n88_5 hx2 ?_
  refine Rn.bp (v := 97) n88_6 (by decide) ?_
  by_cases hc3 : mc2 .lt x2 97 = true
  · rw [if_pos hc3] at h
    refine Rn.c2t (t := 26) n88_8 (by decide) hc3 ?_
    exact t88_26 hd F  lv _ _ _  ok hn   h
  · rw [if_neg hc3] at h
    refine Rn.c2f (t := 26) n88_8 (by decide) hc3 ?_
    refine Rn.aload_n n88_11 l0 ?_
    obtain ⟨x4, hx4, h⟩ := Option.bind_eq_some_iff.mp h
    refine Rn.gf n88_12 mo88 fl8_9 (gfr_v hx4).1 ?_
    have r_x4 : x4 < n := by rw [← hn]; exact (gfr_v hx4).2
    refine Rn.iload_n n88_15 l1 ?_
    obtain ⟨x5, hx5, h⟩ := Option.bind_eq_some_iff.mp h
    refine Rn.iald n88_16 hx5 ?_
    refine Rn.bp (v := 122) n88_17 (by decide) ?_
    by_cases hc6 : mc2 .gt x5 122 = true
    · rw [if_pos hc6] at h
      refine Rn.c2t (t := 26) n88_19 (by decide) hc6 ?_
      exact t88_26 hd F  lv _ _ _  ok hn   h
    · rw [if_neg hc6] at h
      refine Rn.c2f (t := 26) n88_19 (by decide) hc6 ?_
      refine Rn.ic (v := 1) n88_22 (by decide) ?_
      refine Rn.goto (t := 27) n88_23 (by decide) ?_
      exact t88_27 hd F  _ lv _ _ _  ok hn   h
def e88 (F : Nat) (a0 : Nat) (a1 : Int32) (hp : List mE) : Option (Int32 × List mE) := m88_0 F a0 a1 hp
theorem c88 {d : Nat} (hd : 0 ≤ d) (F : Nat) (a0 : Nat) (a1 : Int32) (hp : List mE) (v : Int32) (hp' : List mE) (ra0 : a0 < hp.length) (h : e88 F a0 a1 hp = some (v, hp')) : Rn d 88 0 (lv_args 0 [.ref a0, .int a1]) [] hp 0 0 (some (.int v), hp', 0, 0) :=
  t88_0 (n := hp.length) hd F a0 a1 (lv_args 0 [.ref a0, .int a1]) hp v hp' rfl rfl (lvk_args (okc (okr ra0) (okc rfl okn))) rfl ra0 h
/-! MirrorRoots$Words.keepTaken -/
def m102_2 (F : Nat) : Nat → Nat → Int32 → Int32 → List mE → Option (Int32 × List mE)
  | 0, _, _, _, _ => none
  | f + 1, v0, v1, v2, hp =>
    if mc2 .ge v2 v1 = true then
      (gfr 9 1 hp v0).bind fun x2 =>
      (gfr 9 5 hp v0).bind fun x3 =>
      (rcv 1 hp x2).bind fun u5 =>
      (e18 F x2 x3 v1 hp).bind fun q4 =>
      some (q4.1, q4.2)
    else
      (gfr 9 5 hp v0).bind fun x6 =>
      (gfr 9 4 hp v0).bind fun x7 =>
      (rdI hp x7 ((v1 - 1) - v2)).bind fun x8 =>
      (wrI hp x6 v2 x8).bind fun hp9 =>
      m102_2 F f v0 v1 (v2 + 1) hp9
theorem t102_2 {d c w n : Nat} (hd : 4 ≤ d) (F : Nat) : ∀ f : Nat, ∀ (v0 : Nat) (v1 : Int32) (v2 : Int32) (lv : List (Nat × Value)) (hp : List mE) (v : Int32) (hp' : List mE), alk 0 lv = some (.ref v0) → alk 1 lv = some (.int v1) → alk 2 lv = some (.int v2) → lvk n lv → hp.length = n → v0 < n → m102_2 F f v0 v1 v2 hp = some (v, hp') → Rn d 102 2 lv [] hp c w (some (.int v), hp', c, w) := by
  obtain ⟨d', rfl⟩ : ∃ d', d = d' + 1 := ⟨d - 1, by omega⟩
  intro f
  induction f with
  | zero => intro v0 v1 v2 lv hp v hp' l0 l1 l2 ok hn r_v0 h; cases h
  | succ f hr2 =>
    intro v0 v1 v2 lv hp v hp' l0 l1 l2 ok hn r_v0 h
    unfold m102_2 at h
    refine Rn.iload_n n102_2 l2 ?_
    refine Rn.iload_n n102_3 l1 ?_
    by_cases hc1 : mc2 .ge v2 v1 = true
    · rw [if_pos hc1] at h
      refine Rn.c2t (t := 29) n102_4 (by decide) hc1 ?_
      refine Rn.aload_n n102_29 l0 ?_
      obtain ⟨x2, hx2, h⟩ := Option.bind_eq_some_iff.mp h
      refine Rn.gf n102_30 mo102 fl9_29 (gfr_v hx2).1 ?_
      have r_x2 : x2 < n := by rw [← hn]; exact (gfr_v hx2).2
      refine Rn.aload_n n102_33 l0 ?_
      obtain ⟨x3, hx3, h⟩ := Option.bind_eq_some_iff.mp h
      refine Rn.gf n102_34 mo102 fl9_22 (gfr_v hx3).1 ?_
      have r_x3 : x3 < n := by rw [← hn]; exact (gfr_v hx3).2
      refine Rn.iload_n n102_37 l1 ?_
      obtain ⟨u5, hu5, h⟩ := Option.bind_eq_some_iff.mp h
      obtain ⟨q4, hq4, h⟩ := Option.bind_eq_some_iff.mp h
      have gq4 := c18 (d := d') (by omega) F _ _ _ _ _ _ (by rw [hn]; exact r_x2) (by rw [hn]; exact r_x3) hq4
      refine Rn.cv (As := [.ref x3, .int v1]) (rr := []) n102_38 mo102 mm9_91 (by decide) mq18 rfl rfl rfl rfl (by rw [mo18]; exact hu5) (Nat.le_of_ble_eq_true rfl) (by rw [hn]; exact (okc (okr r_x2) (okc (okr r_x3) (okc rfl okn)))) (by rw [hn]; exact okn) (by rw [hn]; exact ok) (by rw [ml18]; exact Nat.le_of_ble_eq_true rfl) gq4 ?_
      have hn := (Rn.len gq4).trans hn
      show Rn _ 102 41 lv [.int q4.1] q4.2 c w _
      have e1 := (Prod.mk.inj (Option.some.inj h)).1
      have e2 := (Prod.mk.inj (Option.some.inj h)).2
      subst e1
      subst e2
      exact Rn.iret n102_41 mr102
    · rw [if_neg hc1] at h
      refine Rn.c2f (t := 29) n102_4 (by decide) hc1 ?_
      refine Rn.aload_n n102_7 l0 ?_
      obtain ⟨x6, hx6, h⟩ := Option.bind_eq_some_iff.mp h
      refine Rn.gf n102_8 mo102 fl9_22 (gfr_v hx6).1 ?_
      have r_x6 : x6 < n := by rw [← hn]; exact (gfr_v hx6).2
      refine Rn.iload_n n102_11 l2 ?_
      refine Rn.aload_n n102_12 l0 ?_
      obtain ⟨x7, hx7, h⟩ := Option.bind_eq_some_iff.mp h
      refine Rn.gf n102_13 mo102 fl9_18 (gfr_v hx7).1 ?_
      have r_x7 : x7 < n := by rw [← hn]; exact (gfr_v hx7).2
      refine Rn.iload_n n102_16 l1 ?_
      refine Rn.ic (v := 1) n102_17 (by decide) ?_
      refine Rn.p n102_18 rfl ?_
      refine Rn.iload_n n102_19 l2 ?_
      refine Rn.p n102_20 rfl ?_
      obtain ⟨x8, hx8, h⟩ := Option.bind_eq_some_iff.mp h
      refine Rn.iald n102_21 hx8 ?_
      obtain ⟨hp9, hhp9, h⟩ := Option.bind_eq_some_iff.mp h
      refine Rn.iast n102_22 hhp9 ?_
      have hn := (wrI_st (st := []) hhp9).2.trans hn
      refine Rn.ii (m := n) (u := 1) n102_23 ml102 (by decide) (by decide) l2 (fun lv l2 hk hok => ?_)
      have l0 := hk 0 _ (by decide) (Or.inl rfl) l0
      have l1 := hk 1 _ (by decide) (Or.inl rfl) l1
      have ok := hok ok
      refine Rn.goto (t := 2) n102_26 (by decide) ?_
      exact hr2 _ _ _ lv _ _ _ l0 l1 l2 ok hn r_v0  h
def m102_0 (F : Nat) (v0 : Nat) (v1 : Int32) (hp : List mE) : Option (Int32 × List mE) :=
  m102_2 F F v0 v1 0 hp
theorem t102_0 {d c w n : Nat} (hd : 4 ≤ d) (F : Nat) : ∀ (v0 : Nat) (v1 : Int32) (lv : List (Nat × Value)) (hp : List mE) (v : Int32) (hp' : List mE), alk 0 lv = some (.ref v0) → alk 1 lv = some (.int v1) → lvk n lv → hp.length = n → v0 < n → m102_0 F v0 v1 hp = some (v, hp') → Rn d 102 0 lv [] hp c w (some (.int v), hp', c, w) := by
  obtain ⟨d', rfl⟩ : ∃ d', d = d' + 1 := ⟨d - 1, by omega⟩
  intro v0 v1 lv hp v hp' l0 l1 ok hn r_v0 h
  unfold m102_0 at h
  refine Rn.ic (v := 0) n102_0 (by decide) ?_
  refine Rn.isn (m := n) n102_1 rfl ml102 (by decide) (fun lv l2 hk hok => ?_)
  have l0 := hk 0 _ (by decide) (Or.inl rfl) l0
  have l1 := hk 1 _ (by decide) (Or.inl rfl) l1
  have ok := hok ok
  exact t102_2 hd F  F _ _ _ lv _ _ _ l0 l1 l2 ok hn r_v0  h
def e102 (F : Nat) (a0 : Nat) (a1 : Int32) (hp : List mE) : Option (Int32 × List mE) := m102_0 F a0 a1 hp
theorem c102 {d : Nat} (hd : 4 ≤ d) (F : Nat) (a0 : Nat) (a1 : Int32) (hp : List mE) (v : Int32) (hp' : List mE) (ra0 : a0 < hp.length) (h : e102 F a0 a1 hp = some (v, hp')) : Rn d 102 0 (lv_args 0 [.ref a0, .int a1]) [] hp 0 0 (some (.int v), hp', 0, 0) :=
  t102_0 (n := hp.length) hd F a0 a1 (lv_args 0 [.ref a0, .int a1]) hp v hp' rfl rfl (lvk_args (okc (okr ra0) (okc rfl okn))) rfl ra0 h
/-! MirrorRoots$Words.keepOfRight -/
def m101_0 (F : Nat) (v0 : Nat) (hp : List mE) : Option (Int32 × List mE) :=
  (gfr 9 1 hp v0).bind fun x1 =>
  (gfr 9 2 hp v0).bind fun x2 =>
  (gfr 9 4 hp v0).bind fun x3 =>
  (rcv 1 hp x1).bind fun u5 =>
  (e20 F x1 x2 x3 0 hp).bind fun q4 =>
  (rcv 9 q4.2 v0).bind fun u7 =>
  (e102 F v0 q4.1 q4.2).bind fun q6 =>
  some (q6.1, q6.2)
theorem t101_0 {d c w n : Nat} (hd : 5 ≤ d) (F : Nat) : ∀ (v0 : Nat) (lv : List (Nat × Value)) (hp : List mE) (v : Int32) (hp' : List mE), alk 0 lv = some (.ref v0) → lvk n lv → hp.length = n → v0 < n → m101_0 F v0 hp = some (v, hp') → Rn d 101 0 lv [] hp c w (some (.int v), hp', c, w) := by
  obtain ⟨d', rfl⟩ : ∃ d', d = d' + 1 := ⟨d - 1, by omega⟩
  intro v0 lv hp v hp' l0 ok hn r_v0 h
  unfold m101_0 at h
  refine Rn.aload_n n101_0 l0 ?_
  refine Rn.aload_n n101_1 l0 ?_
  obtain ⟨x1, hx1, h⟩ := Option.bind_eq_some_iff.mp h
  refine Rn.gf n101_2 mo101 fl9_29 (gfr_v hx1).1 ?_
  have r_x1 : x1 < n := by rw [← hn]; exact (gfr_v hx1).2
  refine Rn.aload_n n101_5 l0 ?_
  obtain ⟨x2, hx2, h⟩ := Option.bind_eq_some_iff.mp h
  refine Rn.gf n101_6 mo101 fl9_9 (gfr_v hx2).1 ?_
  have r_x2 : x2 < n := by rw [← hn]; exact (gfr_v hx2).2
  refine Rn.aload_n n101_9 l0 ?_
  obtain ⟨x3, hx3, h⟩ := Option.bind_eq_some_iff.mp h
  refine Rn.gf n101_10 mo101 fl9_18 (gfr_v hx3).1 ?_
  have r_x3 : x3 < n := by rw [← hn]; exact (gfr_v hx3).2
  refine Rn.ic (v := 0) n101_13 (by decide) ?_
  obtain ⟨u5, hu5, h⟩ := Option.bind_eq_some_iff.mp h
  obtain ⟨q4, hq4, h⟩ := Option.bind_eq_some_iff.mp h
  have gq4 := c20 (d := d') (by omega) F _ _ _ _ _ _ _ (by rw [hn]; exact r_x1) (by rw [hn]; exact r_x2) (by rw [hn]; exact r_x3) hq4
  refine Rn.cv (As := [.ref x2, .ref x3, .int 0]) (rr := [.ref v0]) n101_14 mo101 mm9_87 (by decide) mq20 rfl rfl rfl rfl (by rw [mo20]; exact hu5) (Nat.le_of_ble_eq_true rfl) (by rw [hn]; exact (okc (okr r_x1) (okc (okr r_x2) (okc (okr r_x3) (okc rfl okn))))) (by rw [hn]; exact (okc (okr r_v0) okn)) (by rw [hn]; exact ok) (by rw [ml20]; exact Nat.le_of_ble_eq_true rfl) gq4 ?_
  have hn := (Rn.len gq4).trans hn
  show Rn _ 101 17 lv [.int q4.1, .ref v0] q4.2 c w _
  obtain ⟨u7, hu7, h⟩ := Option.bind_eq_some_iff.mp h
  obtain ⟨q6, hq6, h⟩ := Option.bind_eq_some_iff.mp h
  have gq6 := c102 (d := d') (by omega) F _ _ _ _ _ (by rw [hn]; exact r_v0) hq6
  refine Rn.cv (As := [.int q4.1]) (rr := []) n101_17 mo101 mm9_59 (by decide) mq102 rfl rfl rfl rfl (by rw [mo102]; exact hu7) (Nat.le_of_ble_eq_true rfl) (by rw [hn]; exact (okc (okr r_v0) (okc rfl okn))) (by rw [hn]; exact okn) (by rw [hn]; exact ok) (by rw [ml102]; exact Nat.le_of_ble_eq_true rfl) gq6 ?_
  have hn := (Rn.len gq6).trans hn
  show Rn _ 101 20 lv [.int q6.1] q6.2 c w _
  have e1 := (Prod.mk.inj (Option.some.inj h)).1
  have e2 := (Prod.mk.inj (Option.some.inj h)).2
  subst e1
  subst e2
  exact Rn.iret n101_20 mr101
def e101 (F : Nat) (a0 : Nat) (hp : List mE) : Option (Int32 × List mE) := m101_0 F a0 hp
theorem c101 {d : Nat} (hd : 5 ≤ d) (F : Nat) (a0 : Nat) (hp : List mE) (v : Int32) (hp' : List mE) (ra0 : a0 < hp.length) (h : e101 F a0 hp = some (v, hp')) : Rn d 101 0 (lv_args 0 [.ref a0]) [] hp 0 0 (some (.int v), hp', 0, 0) :=
  t101_0 (n := hp.length) hd F a0 (lv_args 0 [.ref a0]) hp v hp' rfl (lvk_args (okc (okr ra0) okn)) rfl ra0 h
/-! MirrorRoots$Words.keepProduct -/
def m91_79 (F : Nat) (rc35 : Nat → Int32 → Int32 → Int32 → List mE → Option (Int32 × List mE)) (v0 : Nat) (v2 : Int32) (v4 : Int32) (v5 : Int32) (t0 : Int32) (t1 : Int32) (hp : List mE) : Option (Int32 × List mE) :=
  if mc2 .le (t0 + t1) 20 = true then
    (gfr 9 0 hp v0).bind fun x2 =>
    (gfr 9 2 hp v0).bind fun x3 =>
    (rcv 3 hp x2).bind fun u5 =>
    (e41 F x2 x3 0 v5 hp).bind fun q4 =>
    rc35 v0 v2 (t0 + t1) (v4 + 1) q4.2
  else
    some ((-1005), hp)
theorem t91_79 {d c w n : Nat} (hd : 6 ≤ d) (F : Nat) {rc35 : Nat → Int32 → Int32 → Int32 → List mE → Option (Int32 × List mE)} (hr35 : ∀ (v0 : Nat) (v2 : Int32) (v3 : Int32) (v4 : Int32) (lv : List (Nat × Value)) (hp : List mE) (v : Int32) (hp' : List mE), alk 0 lv = some (.ref v0) → alk 2 lv = some (.int v2) → alk 3 lv = some (.int v3) → alk 4 lv = some (.int v4) → lvk n lv → hp.length = n → v0 < n → rc35 v0 v2 v3 v4 hp = some (v, hp') → Rn d 91 35 lv [] hp c w (some (.int v), hp', c, w)) : ∀ (v0 : Nat) (v2 : Int32) (v4 : Int32) (v5 : Int32) (t0 : Int32) (t1 : Int32) (lv : List (Nat × Value)) (hp : List mE) (v : Int32) (hp' : List mE), alk 0 lv = some (.ref v0) → alk 2 lv = some (.int v2) → alk 4 lv = some (.int v4) → alk 5 lv = some (.int v5) → lvk n lv → hp.length = n → v0 < n → m91_79 F rc35 v0 v2 v4 v5 t0 t1 hp = some (v, hp') → Rn d 91 79 lv [.int t1, .int t0] hp c w (some (.int v), hp', c, w) := by
  obtain ⟨d', rfl⟩ : ∃ d', d = d' + 1 := ⟨d - 1, by omega⟩
  intro v0 v2 v4 v5 t0 t1 lv hp v hp' l0 l2 l4 l5 ok hn r_v0 h
  unfold m91_79 at h
  refine Rn.p n91_79 rfl ?_
  refine Rn.isn (m := n) n91_80 rfl ml91 (by decide) (fun lv l3 hk hok => ?_)
  have l0 := hk 0 _ (by decide) (Or.inl rfl) l0
  have l2 := hk 2 _ (by decide) (Or.inl rfl) l2
  have l4 := hk 4 _ (by decide) (Or.inl rfl) l4
  have l5 := hk 5 _ (by decide) (Or.inl rfl) l5
  have ok := hok ok
  refine Rn.iload_n n91_81 l3 ?_
  refine Rn.bp (v := 20) n91_82 (by decide) ?_
  by_cases hc1 : mc2 .le (t0 + t1) 20 = true
  · rw [if_pos hc1] at h
    refine Rn.c2t (t := 91) n91_84 (by decide) hc1 ?_
    refine Rn.aload_n n91_91 l0 ?_
    obtain ⟨x2, hx2, h⟩ := Option.bind_eq_some_iff.mp h
    refine Rn.gf n91_92 mo91 fl9_25 (gfr_v hx2).1 ?_
    have r_x2 : x2 < n := by rw [← hn]; exact (gfr_v hx2).2
    refine Rn.aload_n n91_95 l0 ?_
    obtain ⟨x3, hx3, h⟩ := Option.bind_eq_some_iff.mp h
    refine Rn.gf n91_96 mo91 fl9_9 (gfr_v hx3).1 ?_
    have r_x3 : x3 < n := by rw [← hn]; exact (gfr_v hx3).2
    refine Rn.ic (v := 0) n91_99 (by decide) ?_
    refine Rn.iload n91_100 l5 ?_
    obtain ⟨u5, hu5, h⟩ := Option.bind_eq_some_iff.mp h
    obtain ⟨q4, hq4, h⟩ := Option.bind_eq_some_iff.mp h
    have gq4 := c41 (d := d') (by omega) F _ _ _ _ _ _ _ (by rw [hn]; exact r_x2) (by rw [hn]; exact r_x3) hq4
    refine Rn.cv (As := [.ref x3, .int 0, .int v5]) (rr := []) n91_102 mo91 mm9_51 (by decide) mq41 rfl rfl rfl rfl (by rw [mo41]; exact hu5) (Nat.le_of_ble_eq_true rfl) (by rw [hn]; exact (okc (okr r_x2) (okc (okr r_x3) (okc rfl (okc rfl okn))))) (by rw [hn]; exact okn) (by rw [hn]; exact ok) (by rw [ml41]; exact Nat.le_of_ble_eq_true rfl) gq4 ?_
    have hn := (Rn.len gq4).trans hn
    show Rn _ 91 105 lv [] q4.2 c w _
    refine Rn.ii (m := n) (u := 1) n91_105 ml91 (by decide) (by decide) l4 (fun lv l4 hk hok => ?_)
    have l0 := hk 0 _ (by decide) (Or.inl rfl) l0
    have l2 := hk 2 _ (by decide) (Or.inl rfl) l2
    have l3 := hk 3 _ (by decide) (Or.inl rfl) l3
    have l5 := hk 5 _ (by decide) (Or.inl rfl) l5
    have ok := hok ok
    refine Rn.goto (t := 35) n91_108 (by decide) ?_
    exact hr35 _ _ _ _ lv _ _ _ l0 l2 l3 l4 ok hn r_v0  h
  · rw [if_neg hc1] at h
    refine Rn.c2f (t := 91) n91_84 (by decide) hc1 ?_
    refine Rn.sp (v := (-1005)) n91_87 (by decide) ?_
    have e1 := (Prod.mk.inj (Option.some.inj h)).1
    have e2 := (Prod.mk.inj (Option.some.inj h)).2
    subst e1
    subst e2
    exact Rn.iret n91_90 mr91
def m91_35 (F : Nat) : Nat → Nat → Int32 → Int32 → Int32 → List mE → Option (Int32 × List mE)
  | 0, _, _, _, _, _ => none
  | f + 1, v0, v2, v3, v4, hp =>
    (gfr 9 1 hp v0).bind fun x1 =>
    (gfr 1 3 hp x1).bind fun x2 =>
    (rdI hp x2 v2).bind fun x3 =>
    if mc2 .ge v4 x3 = true then
      (rcv 9 hp v0).bind fun u6 =>
      (e101 F v0 hp).bind fun q5 =>
      some (q5.1, q5.2)
    else
      (gfr 9 1 hp v0).bind fun x7 =>
      (rcv 1 hp x7).bind fun u9 =>
      (e17 F x7 v2 v4 hp).bind fun q8 =>
      (gfr 9 2 q8.2 v0).bind fun x10 =>
      (rdJ q8.2 x10 q8.1).bind fun x11 =>
      if mc1 .ge (lg_cmp x11 0) = true then
        m91_79 F (m91_35 F f) v0 v2 v4 q8.1 v3 1 q8.2
      else
        m91_79 F (m91_35 F f) v0 v2 v4 q8.1 v3 ((-1)) q8.2
theorem t91_35 {d c w n : Nat} (hd : 6 ≤ d) (F : Nat) : ∀ f : Nat, ∀ (v0 : Nat) (v2 : Int32) (v3 : Int32) (v4 : Int32) (lv : List (Nat × Value)) (hp : List mE) (v : Int32) (hp' : List mE), alk 0 lv = some (.ref v0) → alk 2 lv = some (.int v2) → alk 3 lv = some (.int v3) → alk 4 lv = some (.int v4) → lvk n lv → hp.length = n → v0 < n → m91_35 F f v0 v2 v3 v4 hp = some (v, hp') → Rn d 91 35 lv [] hp c w (some (.int v), hp', c, w) := by
  obtain ⟨d', rfl⟩ : ∃ d', d = d' + 1 := ⟨d - 1, by omega⟩
  intro f
  induction f with
  | zero => intro v0 v2 v3 v4 lv hp v hp' l0 l2 l3 l4 ok hn r_v0 h; cases h
  | succ f hr35 =>
    intro v0 v2 v3 v4 lv hp v hp' l0 l2 l3 l4 ok hn r_v0 h
    unfold m91_35 at h
    refine Rn.iload n91_35 l4 ?_
    refine Rn.aload_n n91_37 l0 ?_
    obtain ⟨x1, hx1, h⟩ := Option.bind_eq_some_iff.mp h
    refine Rn.gf n91_38 mo91 fl9_29 (gfr_v hx1).1 ?_
    have r_x1 : x1 < n := by rw [← hn]; exact (gfr_v hx1).2
    obtain ⟨x2, hx2, h⟩ := Option.bind_eq_some_iff.mp h
    refine Rn.gf n91_41 mo91 fl9_44 (gfr_v hx2).1 ?_
    have r_x2 : x2 < n := by rw [← hn]; exact (gfr_v hx2).2
    refine Rn.iload_n n91_44 l2 ?_
    obtain ⟨x3, hx3, h⟩ := Option.bind_eq_some_iff.mp h
    refine Rn.iald n91_45 hx3 ?_
    by_cases hc4 : mc2 .ge v4 x3 = true
    · rw [if_pos hc4] at h
      refine Rn.c2t (t := 111) n91_46 (by decide) hc4 ?_
      refine Rn.aload_n n91_111 l0 ?_
      obtain ⟨u6, hu6, h⟩ := Option.bind_eq_some_iff.mp h
      obtain ⟨q5, hq5, h⟩ := Option.bind_eq_some_iff.mp h
      have gq5 := c101 (d := d') (by omega) F _ _ _ _ (by rw [hn]; exact r_v0) hq5
      refine Rn.cv (As := []) (rr := []) n91_112 mo91 mm9_55 (by decide) mq101 rfl rfl rfl rfl (by rw [mo101]; exact hu6) (Nat.le_of_ble_eq_true rfl) (by rw [hn]; exact (okc (okr r_v0) okn)) (by rw [hn]; exact okn) (by rw [hn]; exact ok) (by rw [ml101]; exact Nat.le_of_ble_eq_true rfl) gq5 ?_
      have hn := (Rn.len gq5).trans hn
      show Rn _ 91 115 lv [.int q5.1] q5.2 c w _
      have e1 := (Prod.mk.inj (Option.some.inj h)).1
      have e2 := (Prod.mk.inj (Option.some.inj h)).2
      subst e1
      subst e2
      exact Rn.iret n91_115 mr91
    · rw [if_neg hc4] at h
      refine Rn.c2f (t := 111) n91_46 (by decide) hc4 ?_
      refine Rn.aload_n n91_49 l0 ?_
      obtain ⟨x7, hx7, h⟩ := Option.bind_eq_some_iff.mp h
      refine Rn.gf n91_50 mo91 fl9_29 (gfr_v hx7).1 ?_
      have r_x7 : x7 < n := by rw [← hn]; exact (gfr_v hx7).2
      refine Rn.iload_n n91_53 l2 ?_
      refine Rn.iload n91_54 l4 ?_
      obtain ⟨u9, hu9, h⟩ := Option.bind_eq_some_iff.mp h
      obtain ⟨q8, hq8, h⟩ := Option.bind_eq_some_iff.mp h
      have gq8 := c17 (d := d') (by omega) F _ _ _ _ _ _ (by rw [hn]; exact r_x7) hq8
      refine Rn.cv (As := [.int v2, .int v4]) (rr := []) n91_56 mo91 mm9_47 (by decide) mq17 rfl rfl rfl rfl (by rw [mo17]; exact hu9) (Nat.le_of_ble_eq_true rfl) (by rw [hn]; exact (okc (okr r_x7) (okc rfl (okc rfl okn)))) (by rw [hn]; exact okn) (by rw [hn]; exact ok) (by rw [ml17]; exact Nat.le_of_ble_eq_true rfl) gq8 ?_
      have hn := (Rn.len gq8).trans hn
      show Rn _ 91 59 lv [.int q8.1] q8.2 c w _
      refine Rn.is (m := n) n91_59 ml91 (by decide) (fun lv l5 hk hok => ?_)
      have l0 := hk 0 _ (by decide) (Or.inl rfl) l0
      have l2 := hk 2 _ (by decide) (Or.inl rfl) l2
      have l3 := hk 3 _ (by decide) (Or.inl rfl) l3
      have l4 := hk 4 _ (by decide) (Or.inl rfl) l4
      have ok := hok ok
      refine Rn.iload_n n91_61 l3 ?_
      refine Rn.aload_n n91_62 l0 ?_
      obtain ⟨x10, hx10, h⟩ := Option.bind_eq_some_iff.mp h
      refine Rn.gf n91_63 mo91 fl9_9 (gfr_v hx10).1 ?_
      have r_x10 : x10 < n := by rw [← hn]; exact (gfr_v hx10).2
      refine Rn.iload n91_66 l5 ?_
      obtain ⟨x11, hx11, h⟩ := Option.bind_eq_some_iff.mp h
      refine Rn.lald n91_68 hx11 ?_
      refine Rn.lc (v := 0) n91_69 (by decide) ?_
      refine Rn.p n91_70 rfl ?_
      by_cases hc12 : mc1 .ge (lg_cmp x11 0) = true
      · rw [if_pos hc12] at h
        refine Rn.c1t (t := 78) n91_71 (by decide) hc12 ?_
        refine Rn.ic (v := 1) n91_78 (by decide) ?_
        exact t91_79 hd F hr35 _ _ _ _ _ _ lv _ _ _ l0 l2 l4 l5 ok hn r_v0  h
      · rw [if_neg hc12] at h
        refine Rn.c1f (t := 78) n91_71 (by decide) hc12 ?_
        refine Rn.ic (v := (-1)) n91_74 (by decide) ?_
        refine Rn.goto (t := 79) n91_75 (by decide) ?_
        exact t91_79 hd F hr35 _ _ _ _ _ _ lv _ _ _ l0 l2 l4 l5 ok hn r_v0  h
def m91_0 (F : Nat) (v0 : Nat) (v1 : Int32) (v2 : Int32) (hp : List mE) : Option (Int32 × List mE) :=
  (gfr 9 0 hp v0).bind fun x1 =>
  (gfr 9 1 hp v0).bind fun x2 =>
  (gfr 1 5 hp x2).bind fun x3 =>
  (gfr 9 2 hp v0).bind fun x4 =>
  (rcv 3 hp x1).bind fun u6 =>
  (e42 F x1 x3 (v1 * 5) x4 0 hp).bind fun q5 =>
  (gfr 9 1 q5.2 v0).bind fun x7 =>
  (gfr 1 3 q5.2 x7).bind fun x8 =>
  (rdI q5.2 x8 v1).bind fun x9 =>
  m91_35 F F v0 v2 x9 0 q5.2
theorem t91_0 {d c w n : Nat} (hd : 6 ≤ d) (F : Nat) : ∀ (v0 : Nat) (v1 : Int32) (v2 : Int32) (lv : List (Nat × Value)) (hp : List mE) (v : Int32) (hp' : List mE), alk 0 lv = some (.ref v0) → alk 1 lv = some (.int v1) → alk 2 lv = some (.int v2) → lvk n lv → hp.length = n → v0 < n → m91_0 F v0 v1 v2 hp = some (v, hp') → Rn d 91 0 lv [] hp c w (some (.int v), hp', c, w) := by
  obtain ⟨d', rfl⟩ : ∃ d', d = d' + 1 := ⟨d - 1, by omega⟩
  intro v0 v1 v2 lv hp v hp' l0 l1 l2 ok hn r_v0 h
  unfold m91_0 at h
  refine Rn.aload_n n91_0 l0 ?_
  obtain ⟨x1, hx1, h⟩ := Option.bind_eq_some_iff.mp h
  refine Rn.gf n91_1 mo91 fl9_25 (gfr_v hx1).1 ?_
  have r_x1 : x1 < n := by rw [← hn]; exact (gfr_v hx1).2
  refine Rn.aload_n n91_4 l0 ?_
  obtain ⟨x2, hx2, h⟩ := Option.bind_eq_some_iff.mp h
  refine Rn.gf n91_5 mo91 fl9_29 (gfr_v hx2).1 ?_
  have r_x2 : x2 < n := by rw [← hn]; exact (gfr_v hx2).2
  obtain ⟨x3, hx3, h⟩ := Option.bind_eq_some_iff.mp h
  refine Rn.gf n91_8 mo91 fl9_33 (gfr_v hx3).1 ?_
  have r_x3 : x3 < n := by rw [← hn]; exact (gfr_v hx3).2
  refine Rn.iload_n n91_11 l1 ?_
  refine Rn.ic (v := 5) n91_12 (by decide) ?_
  refine Rn.p n91_13 rfl ?_
  refine Rn.aload_n n91_14 l0 ?_
  obtain ⟨x4, hx4, h⟩ := Option.bind_eq_some_iff.mp h
  refine Rn.gf n91_15 mo91 fl9_9 (gfr_v hx4).1 ?_
  have r_x4 : x4 < n := by rw [← hn]; exact (gfr_v hx4).2
  refine Rn.ic (v := 0) n91_18 (by decide) ?_
  obtain ⟨u6, hu6, h⟩ := Option.bind_eq_some_iff.mp h
  obtain ⟨q5, hq5, h⟩ := Option.bind_eq_some_iff.mp h
  have gq5 := c42 (d := d') (by omega) F _ _ _ _ _ _ _ _ (by rw [hn]; exact r_x1) (by rw [hn]; exact r_x3) (by rw [hn]; exact r_x4) hq5
  refine Rn.cv (As := [.ref x3, .int (v1 * 5), .ref x4, .int 0]) (rr := []) n91_19 mo91 mm9_38 (by decide) mq42 rfl rfl rfl rfl (by rw [mo42]; exact hu6) (Nat.le_of_ble_eq_true rfl) (by rw [hn]; exact (okc (okr r_x1) (okc (okr r_x3) (okc rfl (okc (okr r_x4) (okc rfl okn)))))) (by rw [hn]; exact okn) (by rw [hn]; exact ok) (by rw [ml42]; exact Nat.le_of_ble_eq_true rfl) gq5 ?_
  have hn := (Rn.len gq5).trans hn
  show Rn _ 91 22 lv [] q5.2 c w _
  refine Rn.aload_n n91_22 l0 ?_
  obtain ⟨x7, hx7, h⟩ := Option.bind_eq_some_iff.mp h
  refine Rn.gf n91_23 mo91 fl9_29 (gfr_v hx7).1 ?_
  have r_x7 : x7 < n := by rw [← hn]; exact (gfr_v hx7).2
  obtain ⟨x8, hx8, h⟩ := Option.bind_eq_some_iff.mp h
  refine Rn.gf n91_26 mo91 fl9_44 (gfr_v hx8).1 ?_
  have r_x8 : x8 < n := by rw [← hn]; exact (gfr_v hx8).2
  refine Rn.iload_n n91_29 l1 ?_
  obtain ⟨x9, hx9, h⟩ := Option.bind_eq_some_iff.mp h
  refine Rn.iald n91_30 hx9 ?_
  refine Rn.isn (m := n) n91_31 rfl ml91 (by decide) (fun lv l3 hk hok => ?_)
  have l0 := hk 0 _ (by decide) (Or.inl rfl) l0
  have l1 := hk 1 _ (by decide) (Or.inl rfl) l1
  have l2 := hk 2 _ (by decide) (Or.inl rfl) l2
  have ok := hok ok
  refine Rn.ic (v := 0) n91_32 (by decide) ?_
  refine Rn.is (m := n) n91_33 ml91 (by decide) (fun lv l4 hk hok => ?_)
  have l0 := hk 0 _ (by decide) (Or.inl rfl) l0
  have l1 := hk 1 _ (by decide) (Or.inl rfl) l1
  have l2 := hk 2 _ (by decide) (Or.inl rfl) l2
  have l3 := hk 3 _ (by decide) (Or.inl rfl) l3
  have ok := hok ok
  exact t91_35 hd F  F _ _ _ _ lv _ _ _ l0 l2 l3 l4 ok hn r_v0  h
def e91 (F : Nat) (a0 : Nat) (a1 : Int32) (a2 : Int32) (hp : List mE) : Option (Int32 × List mE) := m91_0 F a0 a1 a2 hp
theorem c91 {d : Nat} (hd : 6 ≤ d) (F : Nat) (a0 : Nat) (a1 : Int32) (a2 : Int32) (hp : List mE) (v : Int32) (hp' : List mE) (ra0 : a0 < hp.length) (h : e91 F a0 a1 a2 hp = some (v, hp')) : Rn d 91 0 (lv_args 0 [.ref a0, .int a1, .int a2]) [] hp 0 0 (some (.int v), hp', 0, 0) :=
  t91_0 (n := hp.length) hd F a0 a1 a2 (lv_args 0 [.ref a0, .int a1, .int a2]) hp v hp' rfl rfl rfl (lvk_args (okc (okr ra0) (okc rfl (okc rfl okn)))) rfl ra0 h
/-! MirrorRoots$Words.keepBack -/
def m92_2 (F : Nat) : Nat → Nat → Int32 → Int32 → List mE → Option (Int32 × List mE)
  | 0, _, _, _, _ => none
  | f + 1, v0, v1, v2, hp =>
    (gfr 9 1 hp v0).bind fun x1 =>
    (gfr 1 3 hp x1).bind fun x2 =>
    (rdI hp x2 v1).bind fun x3 =>
    if mc2 .ge v2 x3 = true then
      (gfr 9 1 hp v0).bind fun x5 =>
      (gfr 1 3 hp x5).bind fun x6 =>
      (rdI hp x6 v1).bind fun x7 =>
      (rcv 9 hp v0).bind fun u9 =>
      (e102 F v0 x7 hp).bind fun q8 =>
      some (q8.1, q8.2)
    else
      (gfr 9 4 hp v0).bind fun x10 =>
      (gfr 9 1 hp v0).bind fun x11 =>
      (rcv 1 hp x11).bind fun u13 =>
      (e17 F x11 v1 v2 hp).bind fun q12 =>
      (wrI q12.2 x10 v2 q12.1).bind fun hp14 =>
      m92_2 F f v0 v1 (v2 + 1) hp14
theorem t92_2 {d c w n : Nat} (hd : 5 ≤ d) (F : Nat) : ∀ f : Nat, ∀ (v0 : Nat) (v1 : Int32) (v2 : Int32) (lv : List (Nat × Value)) (hp : List mE) (v : Int32) (hp' : List mE), alk 0 lv = some (.ref v0) → alk 1 lv = some (.int v1) → alk 2 lv = some (.int v2) → lvk n lv → hp.length = n → v0 < n → m92_2 F f v0 v1 v2 hp = some (v, hp') → Rn d 92 2 lv [] hp c w (some (.int v), hp', c, w) := by
  obtain ⟨d', rfl⟩ : ∃ d', d = d' + 1 := ⟨d - 1, by omega⟩
  intro f
  induction f with
  | zero => intro v0 v1 v2 lv hp v hp' l0 l1 l2 ok hn r_v0 h; cases h
  | succ f hr2 =>
    intro v0 v1 v2 lv hp v hp' l0 l1 l2 ok hn r_v0 h
    unfold m92_2 at h
    refine Rn.iload_n n92_2 l2 ?_
    refine Rn.aload_n n92_3 l0 ?_
    obtain ⟨x1, hx1, h⟩ := Option.bind_eq_some_iff.mp h
    refine Rn.gf n92_4 mo92 fl9_29 (gfr_v hx1).1 ?_
    have r_x1 : x1 < n := by rw [← hn]; exact (gfr_v hx1).2
    obtain ⟨x2, hx2, h⟩ := Option.bind_eq_some_iff.mp h
    refine Rn.gf n92_7 mo92 fl9_44 (gfr_v hx2).1 ?_
    have r_x2 : x2 < n := by rw [← hn]; exact (gfr_v hx2).2
    refine Rn.iload_n n92_10 l1 ?_
    obtain ⟨x3, hx3, h⟩ := Option.bind_eq_some_iff.mp h
    refine Rn.iald n92_11 hx3 ?_
    by_cases hc4 : mc2 .ge v2 x3 = true
    · rw [if_pos hc4] at h
      refine Rn.c2t (t := 36) n92_12 (by decide) hc4 ?_
      refine Rn.aload_n n92_36 l0 ?_
      refine Rn.aload_n n92_37 l0 ?_
      obtain ⟨x5, hx5, h⟩ := Option.bind_eq_some_iff.mp h
      refine Rn.gf n92_38 mo92 fl9_29 (gfr_v hx5).1 ?_
      have r_x5 : x5 < n := by rw [← hn]; exact (gfr_v hx5).2
      obtain ⟨x6, hx6, h⟩ := Option.bind_eq_some_iff.mp h
      refine Rn.gf n92_41 mo92 fl9_44 (gfr_v hx6).1 ?_
      have r_x6 : x6 < n := by rw [← hn]; exact (gfr_v hx6).2
      refine Rn.iload_n n92_44 l1 ?_
      obtain ⟨x7, hx7, h⟩ := Option.bind_eq_some_iff.mp h
      refine Rn.iald n92_45 hx7 ?_
      obtain ⟨u9, hu9, h⟩ := Option.bind_eq_some_iff.mp h
      obtain ⟨q8, hq8, h⟩ := Option.bind_eq_some_iff.mp h
      have gq8 := c102 (d := d') (by omega) F _ _ _ _ _ (by rw [hn]; exact r_v0) hq8
      refine Rn.cv (As := [.int x7]) (rr := []) n92_46 mo92 mm9_59 (by decide) mq102 rfl rfl rfl rfl (by rw [mo102]; exact hu9) (Nat.le_of_ble_eq_true rfl) (by rw [hn]; exact (okc (okr r_v0) (okc rfl okn))) (by rw [hn]; exact okn) (by rw [hn]; exact ok) (by rw [ml102]; exact Nat.le_of_ble_eq_true rfl) gq8 ?_
      have hn := (Rn.len gq8).trans hn
      show Rn _ 92 49 lv [.int q8.1] q8.2 c w _
      have e1 := (Prod.mk.inj (Option.some.inj h)).1
      have e2 := (Prod.mk.inj (Option.some.inj h)).2
      subst e1
      subst e2
      exact Rn.iret n92_49 mr92
    · rw [if_neg hc4] at h
      refine Rn.c2f (t := 36) n92_12 (by decide) hc4 ?_
      refine Rn.aload_n n92_15 l0 ?_
      obtain ⟨x10, hx10, h⟩ := Option.bind_eq_some_iff.mp h
      refine Rn.gf n92_16 mo92 fl9_18 (gfr_v hx10).1 ?_
      have r_x10 : x10 < n := by rw [← hn]; exact (gfr_v hx10).2
      refine Rn.iload_n n92_19 l2 ?_
      refine Rn.aload_n n92_20 l0 ?_
      obtain ⟨x11, hx11, h⟩ := Option.bind_eq_some_iff.mp h
      refine Rn.gf n92_21 mo92 fl9_29 (gfr_v hx11).1 ?_
      have r_x11 : x11 < n := by rw [← hn]; exact (gfr_v hx11).2
      refine Rn.iload_n n92_24 l1 ?_
      refine Rn.iload_n n92_25 l2 ?_
      obtain ⟨u13, hu13, h⟩ := Option.bind_eq_some_iff.mp h
      obtain ⟨q12, hq12, h⟩ := Option.bind_eq_some_iff.mp h
      have gq12 := c17 (d := d') (by omega) F _ _ _ _ _ _ (by rw [hn]; exact r_x11) hq12
      refine Rn.cv (As := [.int v1, .int v2]) (rr := [.int v2, .ref x10]) n92_26 mo92 mm9_47 (by decide) mq17 rfl rfl rfl rfl (by rw [mo17]; exact hu13) (Nat.le_of_ble_eq_true rfl) (by rw [hn]; exact (okc (okr r_x11) (okc rfl (okc rfl okn)))) (by rw [hn]; exact (okc rfl (okc (okr r_x10) okn))) (by rw [hn]; exact ok) (by rw [ml17]; exact Nat.le_of_ble_eq_true rfl) gq12 ?_
      have hn := (Rn.len gq12).trans hn
      show Rn _ 92 29 lv [.int q12.1, .int v2, .ref x10] q12.2 c w _
      obtain ⟨hp14, hhp14, h⟩ := Option.bind_eq_some_iff.mp h
      refine Rn.iast n92_29 hhp14 ?_
      have hn := (wrI_st (st := []) hhp14).2.trans hn
      refine Rn.ii (m := n) (u := 1) n92_30 ml92 (by decide) (by decide) l2 (fun lv l2 hk hok => ?_)
      have l0 := hk 0 _ (by decide) (Or.inl rfl) l0
      have l1 := hk 1 _ (by decide) (Or.inl rfl) l1
      have ok := hok ok
      refine Rn.goto (t := 2) n92_33 (by decide) ?_
      exact hr2 _ _ _ lv _ _ _ l0 l1 l2 ok hn r_v0  h
def m92_0 (F : Nat) (v0 : Nat) (v1 : Int32) (hp : List mE) : Option (Int32 × List mE) :=
  m92_2 F F v0 v1 0 hp
theorem t92_0 {d c w n : Nat} (hd : 5 ≤ d) (F : Nat) : ∀ (v0 : Nat) (v1 : Int32) (lv : List (Nat × Value)) (hp : List mE) (v : Int32) (hp' : List mE), alk 0 lv = some (.ref v0) → alk 1 lv = some (.int v1) → lvk n lv → hp.length = n → v0 < n → m92_0 F v0 v1 hp = some (v, hp') → Rn d 92 0 lv [] hp c w (some (.int v), hp', c, w) := by
  obtain ⟨d', rfl⟩ : ∃ d', d = d' + 1 := ⟨d - 1, by omega⟩
  intro v0 v1 lv hp v hp' l0 l1 ok hn r_v0 h
  unfold m92_0 at h
  refine Rn.ic (v := 0) n92_0 (by decide) ?_
  refine Rn.isn (m := n) n92_1 rfl ml92 (by decide) (fun lv l2 hk hok => ?_)
  have l0 := hk 0 _ (by decide) (Or.inl rfl) l0
  have l1 := hk 1 _ (by decide) (Or.inl rfl) l1
  have ok := hok ok
  exact t92_2 hd F  F _ _ _ lv _ _ _ l0 l1 l2 ok hn r_v0  h
def e92 (F : Nat) (a0 : Nat) (a1 : Int32) (hp : List mE) : Option (Int32 × List mE) := m92_0 F a0 a1 hp
theorem c92 {d : Nat} (hd : 5 ≤ d) (F : Nat) (a0 : Nat) (a1 : Int32) (hp : List mE) (v : Int32) (hp' : List mE) (ra0 : a0 < hp.length) (h : e92 F a0 a1 hp = some (v, hp')) : Rn d 92 0 (lv_args 0 [.ref a0, .int a1]) [] hp 0 0 (some (.int v), hp', 0, 0) :=
  t92_0 (n := hp.length) hd F a0 a1 (lv_args 0 [.ref a0, .int a1]) hp v hp' rfl rfl (lvk_args (okc (okr ra0) (okc rfl okn))) rfl ra0 h
/-! MirrorRoots$Words.takeDown -/
def m99_2 (F : Nat) : Nat → Nat → Int32 → Int32 → List mE → Option (Int32 × List mE)
  | 0, _, _, _, _ => none
  | f + 1, v0, v1, v2, hp =>
    if mc2 .ge v2 20 = true then
      some (20, hp)
    else
      (gfr 9 0 hp v0).bind fun x2 =>
      (gfr 9 2 hp v0).bind fun x3 =>
      (rcv 3 hp x2).bind fun u5 =>
      (e45 F x2 x3 0 v1 hp).bind fun q4 =>
      if mc2 .ne q4.1 ((-1)) = true then
        (gfr 9 4 q4.2 v0).bind fun x7 =>
        (wrI q4.2 x7 v2 q4.1).bind fun hp8 =>
        (gfr 9 0 hp8 v0).bind fun x9 =>
        (gfr 9 2 hp8 v0).bind fun x10 =>
        (rcv 3 hp8 x9).bind fun u12 =>
        (e41 F x9 x10 0 q4.1 hp8).bind fun q11 =>
        m99_2 F f v0 v1 (v2 + 1) q11.2
      else
        some (v2, q4.2)
theorem t99_2 {d c w n : Nat} (hd : 1 ≤ d) (F : Nat) : ∀ f : Nat, ∀ (v0 : Nat) (v1 : Int32) (v2 : Int32) (lv : List (Nat × Value)) (hp : List mE) (v : Int32) (hp' : List mE), alk 0 lv = some (.ref v0) → alk 1 lv = some (.int v1) → alk 2 lv = some (.int v2) → lvk n lv → hp.length = n → v0 < n → m99_2 F f v0 v1 v2 hp = some (v, hp') → Rn d 99 2 lv [] hp c w (some (.int v), hp', c, w) := by
  obtain ⟨d', rfl⟩ : ∃ d', d = d' + 1 := ⟨d - 1, by omega⟩
  intro f
  induction f with
  | zero => intro v0 v1 v2 lv hp v hp' l0 l1 l2 ok hn r_v0 h; cases h
  | succ f hr2 =>
    intro v0 v1 v2 lv hp v hp' l0 l1 l2 ok hn r_v0 h
    unfold m99_2 at h
    refine Rn.iload_n n99_2 l2 ?_
    refine Rn.bp (v := 20) n99_3 (by decide) ?_
    by_cases hc1 : mc2 .ge v2 20 = true
    · rw [if_pos hc1] at h
      refine Rn.c2t (t := 55) n99_5 (by decide) hc1 ?_
      refine Rn.bp (v := 20) n99_55 (by decide) ?_
      have e1 := (Prod.mk.inj (Option.some.inj h)).1
      have e2 := (Prod.mk.inj (Option.some.inj h)).2
      subst e1
      subst e2
      exact Rn.iret n99_57 mr99
    · rw [if_neg hc1] at h
      refine Rn.c2f (t := 55) n99_5 (by decide) hc1 ?_
      refine Rn.aload_n n99_8 l0 ?_
      obtain ⟨x2, hx2, h⟩ := Option.bind_eq_some_iff.mp h
      refine Rn.gf n99_9 mo99 fl9_25 (gfr_v hx2).1 ?_
      have r_x2 : x2 < n := by rw [← hn]; exact (gfr_v hx2).2
      refine Rn.aload_n n99_12 l0 ?_
      obtain ⟨x3, hx3, h⟩ := Option.bind_eq_some_iff.mp h
      refine Rn.gf n99_13 mo99 fl9_9 (gfr_v hx3).1 ?_
      have r_x3 : x3 < n := by rw [← hn]; exact (gfr_v hx3).2
      refine Rn.ic (v := 0) n99_16 (by decide) ?_
      refine Rn.iload_n n99_17 l1 ?_
      obtain ⟨u5, hu5, h⟩ := Option.bind_eq_some_iff.mp h
      obtain ⟨q4, hq4, h⟩ := Option.bind_eq_some_iff.mp h
      have gq4 := c45 (d := d') (by omega) F _ _ _ _ _ _ _ (by rw [hn]; exact r_x2) (by rw [hn]; exact r_x3) hq4
      refine Rn.cv (As := [.ref x3, .int 0, .int v1]) (rr := []) n99_18 mo99 mm9_75 (by decide) mq45 rfl rfl rfl rfl (by rw [mo45]; exact hu5) (Nat.le_of_ble_eq_true rfl) (by rw [hn]; exact (okc (okr r_x2) (okc (okr r_x3) (okc rfl (okc rfl okn))))) (by rw [hn]; exact okn) (by rw [hn]; exact ok) (by rw [ml45]; exact Nat.le_of_ble_eq_true rfl) gq4 ?_
      have hn := (Rn.len gq4).trans hn
      show Rn _ 99 21 lv [.int q4.1] q4.2 c w _
      refine Rn.isn (m := n) n99_21 rfl ml99 (by decide) (fun lv l3 hk hok => ?_)
      have l0 := hk 0 _ (by decide) (Or.inl rfl) l0
      have l1 := hk 1 _ (by decide) (Or.inl rfl) l1
      have l2 := hk 2 _ (by decide) (Or.inl rfl) l2
      have ok := hok ok
      refine Rn.iload_n n99_22 l3 ?_
      refine Rn.ic (v := (-1)) n99_23 (by decide) ?_
      by_cases hc6 : mc2 .ne q4.1 ((-1)) = true
      · rw [if_pos hc6] at h
        refine Rn.c2t (t := 29) n99_24 (by decide) hc6 ?_
        refine Rn.aload_n n99_29 l0 ?_
        obtain ⟨x7, hx7, h⟩ := Option.bind_eq_some_iff.mp h
        refine Rn.gf n99_30 mo99 fl9_18 (gfr_v hx7).1 ?_
        have r_x7 : x7 < n := by rw [← hn]; exact (gfr_v hx7).2
        refine Rn.iload_n n99_33 l2 ?_
        refine Rn.iload_n n99_34 l3 ?_
        obtain ⟨hp8, hhp8, h⟩ := Option.bind_eq_some_iff.mp h
        refine Rn.iast n99_35 hhp8 ?_
        have hn := (wrI_st (st := []) hhp8).2.trans hn
        refine Rn.aload_n n99_36 l0 ?_
        obtain ⟨x9, hx9, h⟩ := Option.bind_eq_some_iff.mp h
        refine Rn.gf n99_37 mo99 fl9_25 (gfr_v hx9).1 ?_
        have r_x9 : x9 < n := by rw [← hn]; exact (gfr_v hx9).2
        refine Rn.aload_n n99_40 l0 ?_
        obtain ⟨x10, hx10, h⟩ := Option.bind_eq_some_iff.mp h
        refine Rn.gf n99_41 mo99 fl9_9 (gfr_v hx10).1 ?_
        have r_x10 : x10 < n := by rw [← hn]; exact (gfr_v hx10).2
        refine Rn.ic (v := 0) n99_44 (by decide) ?_
        refine Rn.iload_n n99_45 l3 ?_
        obtain ⟨u12, hu12, h⟩ := Option.bind_eq_some_iff.mp h
        obtain ⟨q11, hq11, h⟩ := Option.bind_eq_some_iff.mp h
        have gq11 := c41 (d := d') (by omega) F _ _ _ _ _ _ _ (by rw [hn]; exact r_x9) (by rw [hn]; exact r_x10) hq11
        refine Rn.cv (As := [.ref x10, .int 0, .int q4.1]) (rr := []) n99_46 mo99 mm9_51 (by decide) mq41 rfl rfl rfl rfl (by rw [mo41]; exact hu12) (Nat.le_of_ble_eq_true rfl) (by rw [hn]; exact (okc (okr r_x9) (okc (okr r_x10) (okc rfl (okc rfl okn))))) (by rw [hn]; exact okn) (by rw [hn]; exact ok) (by rw [ml41]; exact Nat.le_of_ble_eq_true rfl) gq11 ?_
        have hn := (Rn.len gq11).trans hn
        show Rn _ 99 49 lv [] q11.2 c w _
        refine Rn.ii (m := n) (u := 1) n99_49 ml99 (by decide) (by decide) l2 (fun lv l2 hk hok => ?_)
        have l0 := hk 0 _ (by decide) (Or.inl rfl) l0
        have l1 := hk 1 _ (by decide) (Or.inl rfl) l1
        have l3 := hk 3 _ (by decide) (Or.inl rfl) l3
        have ok := hok ok
        refine Rn.goto (t := 2) n99_52 (by decide) ?_
        exact hr2 _ _ _ lv _ _ _ l0 l1 l2 ok hn r_v0  h
      · rw [if_neg hc6] at h
        refine Rn.c2f (t := 29) n99_24 (by decide) hc6 ?_
        refine Rn.iload_n n99_27 l2 ?_
        have e1 := (Prod.mk.inj (Option.some.inj h)).1
        have e2 := (Prod.mk.inj (Option.some.inj h)).2
        subst e1
        subst e2
        exact Rn.iret n99_28 mr99
def m99_0 (F : Nat) (v0 : Nat) (v1 : Int32) (hp : List mE) : Option (Int32 × List mE) :=
  m99_2 F F v0 v1 0 hp
theorem t99_0 {d c w n : Nat} (hd : 1 ≤ d) (F : Nat) : ∀ (v0 : Nat) (v1 : Int32) (lv : List (Nat × Value)) (hp : List mE) (v : Int32) (hp' : List mE), alk 0 lv = some (.ref v0) → alk 1 lv = some (.int v1) → lvk n lv → hp.length = n → v0 < n → m99_0 F v0 v1 hp = some (v, hp') → Rn d 99 0 lv [] hp c w (some (.int v), hp', c, w) := by
  obtain ⟨d', rfl⟩ : ∃ d', d = d' + 1 := ⟨d - 1, by omega⟩
  intro v0 v1 lv hp v hp' l0 l1 ok hn r_v0 h
  unfold m99_0 at h
  refine Rn.ic (v := 0) n99_0 (by decide) ?_
  refine Rn.isn (m := n) n99_1 rfl ml99 (by decide) (fun lv l2 hk hok => ?_)
  have l0 := hk 0 _ (by decide) (Or.inl rfl) l0
  have l1 := hk 1 _ (by decide) (Or.inl rfl) l1
  have ok := hok ok
  exact t99_2 hd F  F _ _ _ lv _ _ _ l0 l1 l2 ok hn r_v0  h
def e99 (F : Nat) (a0 : Nat) (a1 : Int32) (hp : List mE) : Option (Int32 × List mE) := m99_0 F a0 a1 hp
theorem c99 {d : Nat} (hd : 1 ≤ d) (F : Nat) (a0 : Nat) (a1 : Int32) (hp : List mE) (v : Int32) (hp' : List mE) (ra0 : a0 < hp.length) (h : e99 F a0 a1 hp = some (v, hp')) : Rn d 99 0 (lv_args 0 [.ref a0, .int a1]) [] hp 0 0 (some (.int v), hp', 0, 0) :=
  t99_0 (n := hp.length) hd F a0 a1 (lv_args 0 [.ref a0, .int a1]) hp v hp' rfl rfl (lvk_args (okc (okr ra0) (okc rfl okn))) rfl ra0 h
/-! MirrorRoots$Words.keepLeast -/
def m93_0 (F : Nat) (v0 : Nat) (v1 : Int32) (v2 : Int32) (hp : List mE) : Option (Int32 × List mE) :=
  (gfr 9 0 hp v0).bind fun x1 =>
  (gfr 9 1 hp v0).bind fun x2 =>
  (gfr 1 5 hp x2).bind fun x3 =>
  (gfr 9 2 hp v0).bind fun x4 =>
  (rcv 3 hp x1).bind fun u6 =>
  (e42 F x1 x3 (v1 * 5) x4 0 hp).bind fun q5 =>
  (rcv 9 q5.2 v0).bind fun u8 =>
  (e99 F v0 v2 q5.2).bind fun q7 =>
  (rcv 9 q7.2 v0).bind fun u10 =>
  (e101 F v0 q7.2).bind fun q9 =>
  some (q9.1, q9.2)
theorem t93_0 {d c w n : Nat} (hd : 6 ≤ d) (F : Nat) : ∀ (v0 : Nat) (v1 : Int32) (v2 : Int32) (lv : List (Nat × Value)) (hp : List mE) (v : Int32) (hp' : List mE), alk 0 lv = some (.ref v0) → alk 1 lv = some (.int v1) → alk 2 lv = some (.int v2) → lvk n lv → hp.length = n → v0 < n → m93_0 F v0 v1 v2 hp = some (v, hp') → Rn d 93 0 lv [] hp c w (some (.int v), hp', c, w) := by
  obtain ⟨d', rfl⟩ : ∃ d', d = d' + 1 := ⟨d - 1, by omega⟩
  intro v0 v1 v2 lv hp v hp' l0 l1 l2 ok hn r_v0 h
  unfold m93_0 at h
  refine Rn.aload_n n93_0 l0 ?_
  obtain ⟨x1, hx1, h⟩ := Option.bind_eq_some_iff.mp h
  refine Rn.gf n93_1 mo93 fl9_25 (gfr_v hx1).1 ?_
  have r_x1 : x1 < n := by rw [← hn]; exact (gfr_v hx1).2
  refine Rn.aload_n n93_4 l0 ?_
  obtain ⟨x2, hx2, h⟩ := Option.bind_eq_some_iff.mp h
  refine Rn.gf n93_5 mo93 fl9_29 (gfr_v hx2).1 ?_
  have r_x2 : x2 < n := by rw [← hn]; exact (gfr_v hx2).2
  obtain ⟨x3, hx3, h⟩ := Option.bind_eq_some_iff.mp h
  refine Rn.gf n93_8 mo93 fl9_33 (gfr_v hx3).1 ?_
  have r_x3 : x3 < n := by rw [← hn]; exact (gfr_v hx3).2
  refine Rn.iload_n n93_11 l1 ?_
  refine Rn.ic (v := 5) n93_12 (by decide) ?_
  refine Rn.p n93_13 rfl ?_
  refine Rn.aload_n n93_14 l0 ?_
  obtain ⟨x4, hx4, h⟩ := Option.bind_eq_some_iff.mp h
  refine Rn.gf n93_15 mo93 fl9_9 (gfr_v hx4).1 ?_
  have r_x4 : x4 < n := by rw [← hn]; exact (gfr_v hx4).2
  refine Rn.ic (v := 0) n93_18 (by decide) ?_
  obtain ⟨u6, hu6, h⟩ := Option.bind_eq_some_iff.mp h
  obtain ⟨q5, hq5, h⟩ := Option.bind_eq_some_iff.mp h
  have gq5 := c42 (d := d') (by omega) F _ _ _ _ _ _ _ _ (by rw [hn]; exact r_x1) (by rw [hn]; exact r_x3) (by rw [hn]; exact r_x4) hq5
  refine Rn.cv (As := [.ref x3, .int (v1 * 5), .ref x4, .int 0]) (rr := []) n93_19 mo93 mm9_38 (by decide) mq42 rfl rfl rfl rfl (by rw [mo42]; exact hu6) (Nat.le_of_ble_eq_true rfl) (by rw [hn]; exact (okc (okr r_x1) (okc (okr r_x3) (okc rfl (okc (okr r_x4) (okc rfl okn)))))) (by rw [hn]; exact okn) (by rw [hn]; exact ok) (by rw [ml42]; exact Nat.le_of_ble_eq_true rfl) gq5 ?_
  have hn := (Rn.len gq5).trans hn
  show Rn _ 93 22 lv [] q5.2 c w _
  refine Rn.aload_n n93_22 l0 ?_
  refine Rn.iload_n n93_23 l2 ?_
  obtain ⟨u8, hu8, h⟩ := Option.bind_eq_some_iff.mp h
  obtain ⟨q7, hq7, h⟩ := Option.bind_eq_some_iff.mp h
  have gq7 := c99 (d := d') (by omega) F _ _ _ _ _ (by rw [hn]; exact r_v0) hq7
  refine Rn.cv (As := [.int v2]) (rr := []) n93_24 mo93 mm9_63 (by decide) mq99 rfl rfl rfl rfl (by rw [mo99]; exact hu8) (Nat.le_of_ble_eq_true rfl) (by rw [hn]; exact (okc (okr r_v0) (okc rfl okn))) (by rw [hn]; exact okn) (by rw [hn]; exact ok) (by rw [ml99]; exact Nat.le_of_ble_eq_true rfl) gq7 ?_
  have hn := (Rn.len gq7).trans hn
  show Rn _ 93 27 lv [.int q7.1] q7.2 c w _
  refine Rn.p n93_27 rfl ?_
  refine Rn.aload_n n93_28 l0 ?_
  obtain ⟨u10, hu10, h⟩ := Option.bind_eq_some_iff.mp h
  obtain ⟨q9, hq9, h⟩ := Option.bind_eq_some_iff.mp h
  have gq9 := c101 (d := d') (by omega) F _ _ _ _ (by rw [hn]; exact r_v0) hq9
  refine Rn.cv (As := []) (rr := []) n93_29 mo93 mm9_55 (by decide) mq101 rfl rfl rfl rfl (by rw [mo101]; exact hu10) (Nat.le_of_ble_eq_true rfl) (by rw [hn]; exact (okc (okr r_v0) okn)) (by rw [hn]; exact okn) (by rw [hn]; exact ok) (by rw [ml101]; exact Nat.le_of_ble_eq_true rfl) gq9 ?_
  have hn := (Rn.len gq9).trans hn
  show Rn _ 93 32 lv [.int q9.1] q9.2 c w _
  have e1 := (Prod.mk.inj (Option.some.inj h)).1
  have e2 := (Prod.mk.inj (Option.some.inj h)).2
  subst e1
  subst e2
  exact Rn.iret n93_32 mr93
def e93 (F : Nat) (a0 : Nat) (a1 : Int32) (a2 : Int32) (hp : List mE) : Option (Int32 × List mE) := m93_0 F a0 a1 a2 hp
theorem c93 {d : Nat} (hd : 6 ≤ d) (F : Nat) (a0 : Nat) (a1 : Int32) (a2 : Int32) (hp : List mE) (v : Int32) (hp' : List mE) (ra0 : a0 < hp.length) (h : e93 F a0 a1 a2 hp = some (v, hp')) : Rn d 93 0 (lv_args 0 [.ref a0, .int a1, .int a2]) [] hp 0 0 (some (.int v), hp', 0, 0) :=
  t93_0 (n := hp.length) hd F a0 a1 a2 (lv_args 0 [.ref a0, .int a1, .int a2]) hp v hp' rfl rfl rfl (lvk_args (okc (okr ra0) (okc rfl (okc rfl okn)))) rfl ra0 h
/-! MirrorRoots$Words.keepRest -/
def m94_0 (F : Nat) (v0 : Nat) (v1 : Int32) (v2 : Int32) (hp : List mE) : Option (Int32 × List mE) :=
  (gfr 9 0 hp v0).bind fun x1 =>
  (gfr 9 1 hp v0).bind fun x2 =>
  (gfr 1 5 hp x2).bind fun x3 =>
  (gfr 9 2 hp v0).bind fun x4 =>
  (rcv 3 hp x1).bind fun u6 =>
  (e42 F x1 x3 (v1 * 5) x4 0 hp).bind fun q5 =>
  (rcv 9 q5.2 v0).bind fun u8 =>
  (e99 F v0 v2 q5.2).bind fun q7 =>
  (rcv 9 q7.2 v0).bind fun u10 =>
  (e102 F v0 q7.1 q7.2).bind fun q9 =>
  some (q9.1, q9.2)
theorem t94_0 {d c w n : Nat} (hd : 5 ≤ d) (F : Nat) : ∀ (v0 : Nat) (v1 : Int32) (v2 : Int32) (lv : List (Nat × Value)) (hp : List mE) (v : Int32) (hp' : List mE), alk 0 lv = some (.ref v0) → alk 1 lv = some (.int v1) → alk 2 lv = some (.int v2) → lvk n lv → hp.length = n → v0 < n → m94_0 F v0 v1 v2 hp = some (v, hp') → Rn d 94 0 lv [] hp c w (some (.int v), hp', c, w) := by
  obtain ⟨d', rfl⟩ : ∃ d', d = d' + 1 := ⟨d - 1, by omega⟩
  intro v0 v1 v2 lv hp v hp' l0 l1 l2 ok hn r_v0 h
  unfold m94_0 at h
  refine Rn.aload_n n94_0 l0 ?_
  obtain ⟨x1, hx1, h⟩ := Option.bind_eq_some_iff.mp h
  refine Rn.gf n94_1 mo94 fl9_25 (gfr_v hx1).1 ?_
  have r_x1 : x1 < n := by rw [← hn]; exact (gfr_v hx1).2
  refine Rn.aload_n n94_4 l0 ?_
  obtain ⟨x2, hx2, h⟩ := Option.bind_eq_some_iff.mp h
  refine Rn.gf n94_5 mo94 fl9_29 (gfr_v hx2).1 ?_
  have r_x2 : x2 < n := by rw [← hn]; exact (gfr_v hx2).2
  obtain ⟨x3, hx3, h⟩ := Option.bind_eq_some_iff.mp h
  refine Rn.gf n94_8 mo94 fl9_33 (gfr_v hx3).1 ?_
  have r_x3 : x3 < n := by rw [← hn]; exact (gfr_v hx3).2
  refine Rn.iload_n n94_11 l1 ?_
  refine Rn.ic (v := 5) n94_12 (by decide) ?_
  refine Rn.p n94_13 rfl ?_
  refine Rn.aload_n n94_14 l0 ?_
  obtain ⟨x4, hx4, h⟩ := Option.bind_eq_some_iff.mp h
  refine Rn.gf n94_15 mo94 fl9_9 (gfr_v hx4).1 ?_
  have r_x4 : x4 < n := by rw [← hn]; exact (gfr_v hx4).2
  refine Rn.ic (v := 0) n94_18 (by decide) ?_
  obtain ⟨u6, hu6, h⟩ := Option.bind_eq_some_iff.mp h
  obtain ⟨q5, hq5, h⟩ := Option.bind_eq_some_iff.mp h
  have gq5 := c42 (d := d') (by omega) F _ _ _ _ _ _ _ _ (by rw [hn]; exact r_x1) (by rw [hn]; exact r_x3) (by rw [hn]; exact r_x4) hq5
  refine Rn.cv (As := [.ref x3, .int (v1 * 5), .ref x4, .int 0]) (rr := []) n94_19 mo94 mm9_38 (by decide) mq42 rfl rfl rfl rfl (by rw [mo42]; exact hu6) (Nat.le_of_ble_eq_true rfl) (by rw [hn]; exact (okc (okr r_x1) (okc (okr r_x3) (okc rfl (okc (okr r_x4) (okc rfl okn)))))) (by rw [hn]; exact okn) (by rw [hn]; exact ok) (by rw [ml42]; exact Nat.le_of_ble_eq_true rfl) gq5 ?_
  have hn := (Rn.len gq5).trans hn
  show Rn _ 94 22 lv [] q5.2 c w _
  refine Rn.aload_n n94_22 l0 ?_
  refine Rn.aload_n n94_23 l0 ?_
  refine Rn.iload_n n94_24 l2 ?_
  obtain ⟨u8, hu8, h⟩ := Option.bind_eq_some_iff.mp h
  obtain ⟨q7, hq7, h⟩ := Option.bind_eq_some_iff.mp h
  have gq7 := c99 (d := d') (by omega) F _ _ _ _ _ (by rw [hn]; exact r_v0) hq7
  refine Rn.cv (As := [.int v2]) (rr := [.ref v0]) n94_25 mo94 mm9_63 (by decide) mq99 rfl rfl rfl rfl (by rw [mo99]; exact hu8) (Nat.le_of_ble_eq_true rfl) (by rw [hn]; exact (okc (okr r_v0) (okc rfl okn))) (by rw [hn]; exact (okc (okr r_v0) okn)) (by rw [hn]; exact ok) (by rw [ml99]; exact Nat.le_of_ble_eq_true rfl) gq7 ?_
  have hn := (Rn.len gq7).trans hn
  show Rn _ 94 28 lv [.int q7.1, .ref v0] q7.2 c w _
  obtain ⟨u10, hu10, h⟩ := Option.bind_eq_some_iff.mp h
  obtain ⟨q9, hq9, h⟩ := Option.bind_eq_some_iff.mp h
  have gq9 := c102 (d := d') (by omega) F _ _ _ _ _ (by rw [hn]; exact r_v0) hq9
  refine Rn.cv (As := [.int q7.1]) (rr := []) n94_28 mo94 mm9_59 (by decide) mq102 rfl rfl rfl rfl (by rw [mo102]; exact hu10) (Nat.le_of_ble_eq_true rfl) (by rw [hn]; exact (okc (okr r_v0) (okc rfl okn))) (by rw [hn]; exact okn) (by rw [hn]; exact ok) (by rw [ml102]; exact Nat.le_of_ble_eq_true rfl) gq9 ?_
  have hn := (Rn.len gq9).trans hn
  show Rn _ 94 31 lv [.int q9.1] q9.2 c w _
  have e1 := (Prod.mk.inj (Option.some.inj h)).1
  have e2 := (Prod.mk.inj (Option.some.inj h)).2
  subst e1
  subst e2
  exact Rn.iret n94_31 mr94
def e94 (F : Nat) (a0 : Nat) (a1 : Int32) (a2 : Int32) (hp : List mE) : Option (Int32 × List mE) := m94_0 F a0 a1 a2 hp
theorem c94 {d : Nat} (hd : 5 ≤ d) (F : Nat) (a0 : Nat) (a1 : Int32) (a2 : Int32) (hp : List mE) (v : Int32) (hp' : List mE) (ra0 : a0 < hp.length) (h : e94 F a0 a1 a2 hp = some (v, hp')) : Rn d 94 0 (lv_args 0 [.ref a0, .int a1, .int a2]) [] hp 0 0 (some (.int v), hp', 0, 0) :=
  t94_0 (n := hp.length) hd F a0 a1 a2 (lv_args 0 [.ref a0, .int a1, .int a2]) hp v hp' rfl rfl rfl (lvk_args (okc (okr ra0) (okc rfl (okc rfl okn)))) rfl ra0 h
/-! MirrorRoots$Words.turnOver -/
def m100_31 (F : Nat) : Nat → Nat → Int32 → Int32 → List mE → Option (Int32 × List mE)
  | 0, _, _, _, _ => none
  | f + 1, v0, v1, v2, hp =>
    if mc2 .ge v2 v1 = true then
      some (v1, hp)
    else
      (gfr 9 0 hp v0).bind fun x2 =>
      (gfr 9 2 hp v0).bind fun x3 =>
      (gfr 9 4 hp v0).bind fun x4 =>
      (rdI hp x4 v2).bind fun x5 =>
      (rcv 3 hp x2).bind fun u7 =>
      (e41 F x2 x3 0 x5 hp).bind fun q6 =>
      m100_31 F f v0 v1 (v2 + 1) q6.2
theorem t100_31 {d c w n : Nat} (hd : 2 ≤ d) (F : Nat) : ∀ f : Nat, ∀ (v0 : Nat) (v1 : Int32) (v2 : Int32) (lv : List (Nat × Value)) (hp : List mE) (v : Int32) (hp' : List mE), alk 0 lv = some (.ref v0) → alk 1 lv = some (.int v1) → alk 2 lv = some (.int v2) → lvk n lv → hp.length = n → v0 < n → m100_31 F f v0 v1 v2 hp = some (v, hp') → Rn d 100 31 lv [] hp c w (some (.int v), hp', c, w) := by
  obtain ⟨d', rfl⟩ : ∃ d', d = d' + 1 := ⟨d - 1, by omega⟩
  intro f
  induction f with
  | zero => intro v0 v1 v2 lv hp v hp' l0 l1 l2 ok hn r_v0 h; cases h
  | succ f hr31 =>
    intro v0 v1 v2 lv hp v hp' l0 l1 l2 ok hn r_v0 h
    unfold m100_31 at h
    refine Rn.iload_n n100_31 l2 ?_
    refine Rn.iload_n n100_32 l1 ?_
    by_cases hc1 : mc2 .ge v2 v1 = true
    · rw [if_pos hc1] at h
      refine Rn.c2t (t := 60) n100_33 (by decide) hc1 ?_
      refine Rn.iload_n n100_60 l1 ?_
      have e1 := (Prod.mk.inj (Option.some.inj h)).1
      have e2 := (Prod.mk.inj (Option.some.inj h)).2
      subst e1
      subst e2
      exact Rn.iret n100_61 mr100
    · rw [if_neg hc1] at h
      refine Rn.c2f (t := 60) n100_33 (by decide) hc1 ?_
      refine Rn.aload_n n100_36 l0 ?_
      obtain ⟨x2, hx2, h⟩ := Option.bind_eq_some_iff.mp h
      refine Rn.gf n100_37 mo100 fl9_25 (gfr_v hx2).1 ?_
      have r_x2 : x2 < n := by rw [← hn]; exact (gfr_v hx2).2
      refine Rn.aload_n n100_40 l0 ?_
      obtain ⟨x3, hx3, h⟩ := Option.bind_eq_some_iff.mp h
      refine Rn.gf n100_41 mo100 fl9_9 (gfr_v hx3).1 ?_
      have r_x3 : x3 < n := by rw [← hn]; exact (gfr_v hx3).2
      refine Rn.ic (v := 0) n100_44 (by decide) ?_
      refine Rn.aload_n n100_45 l0 ?_
      obtain ⟨x4, hx4, h⟩ := Option.bind_eq_some_iff.mp h
      refine Rn.gf n100_46 mo100 fl9_18 (gfr_v hx4).1 ?_
      have r_x4 : x4 < n := by rw [← hn]; exact (gfr_v hx4).2
      refine Rn.iload_n n100_49 l2 ?_
      obtain ⟨x5, hx5, h⟩ := Option.bind_eq_some_iff.mp h
      refine Rn.iald n100_50 hx5 ?_
      obtain ⟨u7, hu7, h⟩ := Option.bind_eq_some_iff.mp h
      obtain ⟨q6, hq6, h⟩ := Option.bind_eq_some_iff.mp h
      have gq6 := c41 (d := d') (by omega) F _ _ _ _ _ _ _ (by rw [hn]; exact r_x2) (by rw [hn]; exact r_x3) hq6
      refine Rn.cv (As := [.ref x3, .int 0, .int x5]) (rr := []) n100_51 mo100 mm9_51 (by decide) mq41 rfl rfl rfl rfl (by rw [mo41]; exact hu7) (Nat.le_of_ble_eq_true rfl) (by rw [hn]; exact (okc (okr r_x2) (okc (okr r_x3) (okc rfl (okc rfl okn))))) (by rw [hn]; exact okn) (by rw [hn]; exact ok) (by rw [ml41]; exact Nat.le_of_ble_eq_true rfl) gq6 ?_
      have hn := (Rn.len gq6).trans hn
      show Rn _ 100 54 lv [] q6.2 c w _
      refine Rn.ii (m := n) (u := 1) n100_54 ml100 (by decide) (by decide) l2 (fun lv l2 hk hok => ?_)
      have l0 := hk 0 _ (by decide) (Or.inl rfl) l0
      have l1 := hk 1 _ (by decide) (Or.inl rfl) l1
      have ok := hok ok
      refine Rn.goto (t := 31) n100_57 (by decide) ?_
      exact hr31 _ _ _ lv _ _ _ l0 l1 l2 ok hn r_v0  h
def m100_0 (F : Nat) (v0 : Nat) (hp : List mE) : Option (Int32 × List mE) :=
  (gfr 9 1 hp v0).bind fun x1 =>
  (gfr 9 2 hp v0).bind fun x2 =>
  (gfr 9 4 hp v0).bind fun x3 =>
  (rcv 1 hp x1).bind fun u5 =>
  (e20 F x1 x2 x3 0 hp).bind fun q4 =>
  (gfr 9 0 q4.2 v0).bind fun x6 =>
  (gfr 9 2 q4.2 v0).bind fun x7 =>
  (rcv 3 q4.2 x6).bind fun u9 =>
  (e40 F x6 x7 0 q4.2).bind fun q8 =>
  m100_31 F F v0 q4.1 0 q8.2
theorem t100_0 {d c w n : Nat} (hd : 2 ≤ d) (F : Nat) : ∀ (v0 : Nat) (lv : List (Nat × Value)) (hp : List mE) (v : Int32) (hp' : List mE), alk 0 lv = some (.ref v0) → lvk n lv → hp.length = n → v0 < n → m100_0 F v0 hp = some (v, hp') → Rn d 100 0 lv [] hp c w (some (.int v), hp', c, w) := by
  obtain ⟨d', rfl⟩ : ∃ d', d = d' + 1 := ⟨d - 1, by omega⟩
  intro v0 lv hp v hp' l0 ok hn r_v0 h
  unfold m100_0 at h
  refine Rn.aload_n n100_0 l0 ?_
  obtain ⟨x1, hx1, h⟩ := Option.bind_eq_some_iff.mp h
  refine Rn.gf n100_1 mo100 fl9_29 (gfr_v hx1).1 ?_
  have r_x1 : x1 < n := by rw [← hn]; exact (gfr_v hx1).2
  refine Rn.aload_n n100_4 l0 ?_
  obtain ⟨x2, hx2, h⟩ := Option.bind_eq_some_iff.mp h
  refine Rn.gf n100_5 mo100 fl9_9 (gfr_v hx2).1 ?_
  have r_x2 : x2 < n := by rw [← hn]; exact (gfr_v hx2).2
  refine Rn.aload_n n100_8 l0 ?_
  obtain ⟨x3, hx3, h⟩ := Option.bind_eq_some_iff.mp h
  refine Rn.gf n100_9 mo100 fl9_18 (gfr_v hx3).1 ?_
  have r_x3 : x3 < n := by rw [← hn]; exact (gfr_v hx3).2
  refine Rn.ic (v := 0) n100_12 (by decide) ?_
  obtain ⟨u5, hu5, h⟩ := Option.bind_eq_some_iff.mp h
  obtain ⟨q4, hq4, h⟩ := Option.bind_eq_some_iff.mp h
  have gq4 := c20 (d := d') (by omega) F _ _ _ _ _ _ _ (by rw [hn]; exact r_x1) (by rw [hn]; exact r_x2) (by rw [hn]; exact r_x3) hq4
  refine Rn.cv (As := [.ref x2, .ref x3, .int 0]) (rr := []) n100_13 mo100 mm9_87 (by decide) mq20 rfl rfl rfl rfl (by rw [mo20]; exact hu5) (Nat.le_of_ble_eq_true rfl) (by rw [hn]; exact (okc (okr r_x1) (okc (okr r_x2) (okc (okr r_x3) (okc rfl okn))))) (by rw [hn]; exact okn) (by rw [hn]; exact ok) (by rw [ml20]; exact Nat.le_of_ble_eq_true rfl) gq4 ?_
  have hn := (Rn.len gq4).trans hn
  show Rn _ 100 16 lv [.int q4.1] q4.2 c w _
  refine Rn.isn (m := n) n100_16 rfl ml100 (by decide) (fun lv l1 hk hok => ?_)
  have l0 := hk 0 _ (by decide) (Or.inl rfl) l0
  have ok := hok ok
  refine Rn.aload_n n100_17 l0 ?_
  obtain ⟨x6, hx6, h⟩ := Option.bind_eq_some_iff.mp h
  refine Rn.gf n100_18 mo100 fl9_25 (gfr_v hx6).1 ?_
  have r_x6 : x6 < n := by rw [← hn]; exact (gfr_v hx6).2
  refine Rn.aload_n n100_21 l0 ?_
  obtain ⟨x7, hx7, h⟩ := Option.bind_eq_some_iff.mp h
  refine Rn.gf n100_22 mo100 fl9_9 (gfr_v hx7).1 ?_
  have r_x7 : x7 < n := by rw [← hn]; exact (gfr_v hx7).2
  refine Rn.ic (v := 0) n100_25 (by decide) ?_
  obtain ⟨u9, hu9, h⟩ := Option.bind_eq_some_iff.mp h
  obtain ⟨q8, hq8, h⟩ := Option.bind_eq_some_iff.mp h
  have gq8 := c40 (d := d') (by omega) F _ _ _ _ _ _ (by rw [hn]; exact r_x6) (by rw [hn]; exact r_x7) hq8
  refine Rn.cv (As := [.ref x7, .int 0]) (rr := []) n100_26 mo100 mm9_79 (by decide) mq40 rfl rfl rfl rfl (by rw [mo40]; exact hu9) (Nat.le_of_ble_eq_true rfl) (by rw [hn]; exact (okc (okr r_x6) (okc (okr r_x7) (okc rfl okn)))) (by rw [hn]; exact okn) (by rw [hn]; exact ok) (by rw [ml40]; exact Nat.le_of_ble_eq_true rfl) gq8 ?_
  have hn := (Rn.len gq8).trans hn
  show Rn _ 100 29 lv [] q8.2 c w _
  refine Rn.ic (v := 0) n100_29 (by decide) ?_
  refine Rn.isn (m := n) n100_30 rfl ml100 (by decide) (fun lv l2 hk hok => ?_)
  have l0 := hk 0 _ (by decide) (Or.inl rfl) l0
  have l1 := hk 1 _ (by decide) (Or.inl rfl) l1
  have ok := hok ok
  exact t100_31 hd F  F _ _ _ lv _ _ _ l0 l1 l2 ok hn r_v0  h
def e100 (F : Nat) (a0 : Nat) (hp : List mE) : Option (Int32 × List mE) := m100_0 F a0 hp
theorem c100 {d : Nat} (hd : 2 ≤ d) (F : Nat) (a0 : Nat) (hp : List mE) (v : Int32) (hp' : List mE) (ra0 : a0 < hp.length) (h : e100 F a0 hp = some (v, hp')) : Rn d 100 0 (lv_args 0 [.ref a0]) [] hp 0 0 (some (.int v), hp', 0, 0) :=
  t100_0 (n := hp.length) hd F a0 (lv_args 0 [.ref a0]) hp v hp' rfl (lvk_args (okc (okr ra0) okn)) rfl ra0 h
/-! MirrorRoots$Words.shortestBetween -/
def m95_0 (F : Nat) (v0 : Nat) (v1 : Int32) (v2 : Int32) (v3 : Int32) (hp : List mE) : Option (Int32 × List mE) :=
  (gfr 9 0 hp v0).bind fun x1 =>
  (gfr 9 1 hp v0).bind fun x2 =>
  (gfr 1 5 hp x2).bind fun x3 =>
  (gfr 9 2 hp v0).bind fun x4 =>
  (rcv 3 hp x1).bind fun u6 =>
  (e42 F x1 x3 (v1 * 5) x4 0 hp).bind fun q5 =>
  (rcv 9 q5.2 v0).bind fun u8 =>
  (e99 F v0 v3 q5.2).bind fun q7 =>
  (rcv 9 q7.2 v0).bind fun u10 =>
  (e100 F v0 q7.2).bind fun q9 =>
  (rcv 9 q9.2 v0).bind fun u12 =>
  (e99 F v0 v2 q9.2).bind fun q11 =>
  some (q9.1 - q11.1, q11.2)
theorem t95_0 {d c w n : Nat} (hd : 3 ≤ d) (F : Nat) : ∀ (v0 : Nat) (v1 : Int32) (v2 : Int32) (v3 : Int32) (lv : List (Nat × Value)) (hp : List mE) (v : Int32) (hp' : List mE), alk 0 lv = some (.ref v0) → alk 1 lv = some (.int v1) → alk 2 lv = some (.int v2) → alk 3 lv = some (.int v3) → lvk n lv → hp.length = n → v0 < n → m95_0 F v0 v1 v2 v3 hp = some (v, hp') → Rn d 95 0 lv [] hp c w (some (.int v), hp', c, w) := by
  obtain ⟨d', rfl⟩ : ∃ d', d = d' + 1 := ⟨d - 1, by omega⟩
  intro v0 v1 v2 v3 lv hp v hp' l0 l1 l2 l3 ok hn r_v0 h
  unfold m95_0 at h
  refine Rn.aload_n n95_0 l0 ?_
  obtain ⟨x1, hx1, h⟩ := Option.bind_eq_some_iff.mp h
  refine Rn.gf n95_1 mo95 fl9_25 (gfr_v hx1).1 ?_
  have r_x1 : x1 < n := by rw [← hn]; exact (gfr_v hx1).2
  refine Rn.aload_n n95_4 l0 ?_
  obtain ⟨x2, hx2, h⟩ := Option.bind_eq_some_iff.mp h
  refine Rn.gf n95_5 mo95 fl9_29 (gfr_v hx2).1 ?_
  have r_x2 : x2 < n := by rw [← hn]; exact (gfr_v hx2).2
  obtain ⟨x3, hx3, h⟩ := Option.bind_eq_some_iff.mp h
  refine Rn.gf n95_8 mo95 fl9_33 (gfr_v hx3).1 ?_
  have r_x3 : x3 < n := by rw [← hn]; exact (gfr_v hx3).2
  refine Rn.iload_n n95_11 l1 ?_
  refine Rn.ic (v := 5) n95_12 (by decide) ?_
  refine Rn.p n95_13 rfl ?_
  refine Rn.aload_n n95_14 l0 ?_
  obtain ⟨x4, hx4, h⟩ := Option.bind_eq_some_iff.mp h
  refine Rn.gf n95_15 mo95 fl9_9 (gfr_v hx4).1 ?_
  have r_x4 : x4 < n := by rw [← hn]; exact (gfr_v hx4).2
  refine Rn.ic (v := 0) n95_18 (by decide) ?_
  obtain ⟨u6, hu6, h⟩ := Option.bind_eq_some_iff.mp h
  obtain ⟨q5, hq5, h⟩ := Option.bind_eq_some_iff.mp h
  have gq5 := c42 (d := d') (by omega) F _ _ _ _ _ _ _ _ (by rw [hn]; exact r_x1) (by rw [hn]; exact r_x3) (by rw [hn]; exact r_x4) hq5
  refine Rn.cv (As := [.ref x3, .int (v1 * 5), .ref x4, .int 0]) (rr := []) n95_19 mo95 mm9_38 (by decide) mq42 rfl rfl rfl rfl (by rw [mo42]; exact hu6) (Nat.le_of_ble_eq_true rfl) (by rw [hn]; exact (okc (okr r_x1) (okc (okr r_x3) (okc rfl (okc (okr r_x4) (okc rfl okn)))))) (by rw [hn]; exact okn) (by rw [hn]; exact ok) (by rw [ml42]; exact Nat.le_of_ble_eq_true rfl) gq5 ?_
  have hn := (Rn.len gq5).trans hn
  show Rn _ 95 22 lv [] q5.2 c w _
  refine Rn.aload_n n95_22 l0 ?_
  refine Rn.iload_n n95_23 l3 ?_
  obtain ⟨u8, hu8, h⟩ := Option.bind_eq_some_iff.mp h
  obtain ⟨q7, hq7, h⟩ := Option.bind_eq_some_iff.mp h
  have gq7 := c99 (d := d') (by omega) F _ _ _ _ _ (by rw [hn]; exact r_v0) hq7
  refine Rn.cv (As := [.int v3]) (rr := []) n95_24 mo95 mm9_63 (by decide) mq99 rfl rfl rfl rfl (by rw [mo99]; exact hu8) (Nat.le_of_ble_eq_true rfl) (by rw [hn]; exact (okc (okr r_v0) (okc rfl okn))) (by rw [hn]; exact okn) (by rw [hn]; exact ok) (by rw [ml99]; exact Nat.le_of_ble_eq_true rfl) gq7 ?_
  have hn := (Rn.len gq7).trans hn
  show Rn _ 95 27 lv [.int q7.1] q7.2 c w _
  refine Rn.p n95_27 rfl ?_
  refine Rn.aload_n n95_28 l0 ?_
  obtain ⟨u10, hu10, h⟩ := Option.bind_eq_some_iff.mp h
  obtain ⟨q9, hq9, h⟩ := Option.bind_eq_some_iff.mp h
  have gq9 := c100 (d := d') (by omega) F _ _ _ _ (by rw [hn]; exact r_v0) hq9
  refine Rn.cv (As := []) (rr := []) n95_29 mo95 mm9_66 (by decide) mq100 rfl rfl rfl rfl (by rw [mo100]; exact hu10) (Nat.le_of_ble_eq_true rfl) (by rw [hn]; exact (okc (okr r_v0) okn)) (by rw [hn]; exact okn) (by rw [hn]; exact ok) (by rw [ml100]; exact Nat.le_of_ble_eq_true rfl) gq9 ?_
  have hn := (Rn.len gq9).trans hn
  show Rn _ 95 32 lv [.int q9.1] q9.2 c w _
  refine Rn.is (m := n) n95_32 ml95 (by decide) (fun lv l4 hk hok => ?_)
  have l0 := hk 0 _ (by decide) (Or.inl rfl) l0
  have l1 := hk 1 _ (by decide) (Or.inl rfl) l1
  have l2 := hk 2 _ (by decide) (Or.inl rfl) l2
  have l3 := hk 3 _ (by decide) (Or.inl rfl) l3
  have ok := hok ok
  refine Rn.iload n95_34 l4 ?_
  refine Rn.aload_n n95_36 l0 ?_
  refine Rn.iload_n n95_37 l2 ?_
  obtain ⟨u12, hu12, h⟩ := Option.bind_eq_some_iff.mp h
  obtain ⟨q11, hq11, h⟩ := Option.bind_eq_some_iff.mp h
  have gq11 := c99 (d := d') (by omega) F _ _ _ _ _ (by rw [hn]; exact r_v0) hq11
  refine Rn.cv (As := [.int v2]) (rr := [.int q9.1]) n95_38 mo95 mm9_63 (by decide) mq99 rfl rfl rfl rfl (by rw [mo99]; exact hu12) (Nat.le_of_ble_eq_true rfl) (by rw [hn]; exact (okc (okr r_v0) (okc rfl okn))) (by rw [hn]; exact (okc rfl okn)) (by rw [hn]; exact ok) (by rw [ml99]; exact Nat.le_of_ble_eq_true rfl) gq11 ?_
  have hn := (Rn.len gq11).trans hn
  show Rn _ 95 41 lv [.int q11.1, .int q9.1] q11.2 c w _
  refine Rn.p n95_41 rfl ?_
  have e1 := (Prod.mk.inj (Option.some.inj h)).1
  have e2 := (Prod.mk.inj (Option.some.inj h)).2
  subst e1
  subst e2
  exact Rn.iret n95_42 mr95
def e95 (F : Nat) (a0 : Nat) (a1 : Int32) (a2 : Int32) (a3 : Int32) (hp : List mE) : Option (Int32 × List mE) := m95_0 F a0 a1 a2 a3 hp
theorem c95 {d : Nat} (hd : 3 ≤ d) (F : Nat) (a0 : Nat) (a1 : Int32) (a2 : Int32) (a3 : Int32) (hp : List mE) (v : Int32) (hp' : List mE) (ra0 : a0 < hp.length) (h : e95 F a0 a1 a2 a3 hp = some (v, hp')) : Rn d 95 0 (lv_args 0 [.ref a0, .int a1, .int a2, .int a3]) [] hp 0 0 (some (.int v), hp', 0, 0) :=
  t95_0 (n := hp.length) hd F a0 a1 a2 a3 (lv_args 0 [.ref a0, .int a1, .int a2, .int a3]) hp v hp' rfl rfl rfl rfl (lvk_args (okc (okr ra0) (okc rfl (okc rfl (okc rfl okn))))) rfl ra0 h
/-! MirrorRoots$Words.standsBelow -/
def m96_108 (F : Nat) (t0 : Int32) (hp : List mE) : Option (Int32 × List mE) :=
  if t0 = 0 ∨ t0 = 1 then some (t0, hp) else none
theorem t96_108 {d c w n : Nat} (hd : 1 ≤ d) (F : Nat) : ∀ (t0 : Int32) (lv : List (Nat × Value)) (hp : List mE) (v : Int32) (hp' : List mE), lvk n lv → hp.length = n → m96_108 F t0 hp = some (v, hp') → Rn d 96 108 lv [.int t0] hp c w (some (.int v), hp', c, w) := by
  obtain ⟨d', rfl⟩ : ∃ d', d = d' + 1 := ⟨d - 1, by omega⟩
  intro t0 lv hp v hp' ok hn h
  unfold m96_108 at h
  by_cases hz1 : t0 = 0 ∨ t0 = 1
  · rw [if_pos hz1] at h
    have e1 := (Prod.mk.inj (Option.some.inj h)).1
    have e2 := (Prod.mk.inj (Option.some.inj h)).2
    subst e1
    subst e2
    exact Rn.zret n96_108 mr96 hz1
  · rw [if_neg hz1] at h; cases h
def m96_74 (F : Nat) (rc24 : Nat → Int32 → Int32 → List mE → Option (Int32 × List mE)) (v0 : Nat) (v2 : Int32) (v3 : Int32) (hp : List mE) : Option (Int32 × List mE) :=
  rc24 v0 v2 (v3 + 1) hp
theorem t96_74 {d c w n : Nat} (hd : 1 ≤ d) (F : Nat) {rc24 : Nat → Int32 → Int32 → List mE → Option (Int32 × List mE)} (hr24 : ∀ (v0 : Nat) (v2 : Int32) (v3 : Int32) (lv : List (Nat × Value)) (hp : List mE) (v : Int32) (hp' : List mE), alk 0 lv = some (.ref v0) → alk 2 lv = some (.int v2) → alk 3 lv = some (.int v3) → lvk n lv → hp.length = n → v0 < n → rc24 v0 v2 v3 hp = some (v, hp') → Rn d 96 24 lv [] hp c w (some (.int v), hp', c, w)) : ∀ (v0 : Nat) (v2 : Int32) (v3 : Int32) (lv : List (Nat × Value)) (hp : List mE) (v : Int32) (hp' : List mE), alk 0 lv = some (.ref v0) → alk 2 lv = some (.int v2) → alk 3 lv = some (.int v3) → lvk n lv → hp.length = n → v0 < n → m96_74 F rc24 v0 v2 v3 hp = some (v, hp') → Rn d 96 74 lv [] hp c w (some (.int v), hp', c, w) := by
  obtain ⟨d', rfl⟩ : ∃ d', d = d' + 1 := ⟨d - 1, by omega⟩
  intro v0 v2 v3 lv hp v hp' l0 l2 l3 ok hn r_v0 h
  unfold m96_74 at h
  refine Rn.ii (m := n) (u := 1) n96_74 ml96 (by decide) (by decide) l3 (fun lv l3 hk hok => ?_)
  have l0 := hk 0 _ (by decide) (Or.inl rfl) l0
  have l2 := hk 2 _ (by decide) (Or.inl rfl) l2
  have ok := hok ok
  refine Rn.goto (t := 24) n96_77 (by decide) ?_
  exact hr24 _ _ _ lv _ _ _ l0 l2 l3 ok hn r_v0  h
def m96_24 (F : Nat) : Nat → Nat → Int32 → Int32 → List mE → Option (Int32 × List mE)
  | 0, _, _, _, _ => none
  | f + 1, v0, v2, v3, hp =>
    (gfr 9 1 hp v0).bind fun x1 =>
    (gfr 1 3 hp x1).bind fun x2 =>
    (rdI hp x2 v2).bind fun x3 =>
    if mc2 .ge v3 x3 = true then
      (gfr 9 0 hp v0).bind fun x5 =>
      (gfr 9 2 hp v0).bind fun x6 =>
      (gfr 9 0 hp v0).bind fun x7 =>
      (rcv 3 hp x7).bind fun u9 =>
      (e46 F x7 hp).bind fun q8 =>
      (rcv 3 q8.2 x5).bind fun u11 =>
      (e45 F x5 x6 0 q8.1 q8.2).bind fun q10 =>
      if mc2 .ne q10.1 ((-1)) = true then
        m96_108 F 0 q10.2
      else
        m96_108 F 1 q10.2
    else
      (gfr 9 1 hp v0).bind fun x13 =>
      (rcv 1 hp x13).bind fun u15 =>
      (e17 F x13 v2 v3 hp).bind fun q14 =>
      (gfr 9 2 q14.2 v0).bind fun x16 =>
      (rdJ q14.2 x16 q14.1).bind fun x17 =>
      if mc1 .ge (lg_cmp x17 0) = true then
        m96_74 F (m96_24 F f) v0 v2 v3 q14.2
      else
        (gfr 9 0 q14.2 v0).bind fun x19 =>
        (gfr 9 2 q14.2 v0).bind fun x20 =>
        (rcv 3 q14.2 x19).bind fun u22 =>
        (e41 F x19 x20 0 q14.1 q14.2).bind fun q21 =>
        m96_74 F (m96_24 F f) v0 v2 v3 q21.2
theorem t96_24 {d c w n : Nat} (hd : 1 ≤ d) (F : Nat) : ∀ f : Nat, ∀ (v0 : Nat) (v2 : Int32) (v3 : Int32) (lv : List (Nat × Value)) (hp : List mE) (v : Int32) (hp' : List mE), alk 0 lv = some (.ref v0) → alk 2 lv = some (.int v2) → alk 3 lv = some (.int v3) → lvk n lv → hp.length = n → v0 < n → m96_24 F f v0 v2 v3 hp = some (v, hp') → Rn d 96 24 lv [] hp c w (some (.int v), hp', c, w) := by
  obtain ⟨d', rfl⟩ : ∃ d', d = d' + 1 := ⟨d - 1, by omega⟩
  intro f
  induction f with
  | zero => intro v0 v2 v3 lv hp v hp' l0 l2 l3 ok hn r_v0 h; cases h
  | succ f hr24 =>
    intro v0 v2 v3 lv hp v hp' l0 l2 l3 ok hn r_v0 h
    unfold m96_24 at h
    refine Rn.iload_n n96_24 l3 ?_
    refine Rn.aload_n n96_25 l0 ?_
    obtain ⟨x1, hx1, h⟩ := Option.bind_eq_some_iff.mp h
    refine Rn.gf n96_26 mo96 fl9_29 (gfr_v hx1).1 ?_
    have r_x1 : x1 < n := by rw [← hn]; exact (gfr_v hx1).2
    obtain ⟨x2, hx2, h⟩ := Option.bind_eq_some_iff.mp h
    refine Rn.gf n96_29 mo96 fl9_44 (gfr_v hx2).1 ?_
    have r_x2 : x2 < n := by rw [← hn]; exact (gfr_v hx2).2
    refine Rn.iload_n n96_32 l2 ?_
    obtain ⟨x3, hx3, h⟩ := Option.bind_eq_some_iff.mp h
    refine Rn.iald n96_33 hx3 ?_
    by_cases hc4 : mc2 .ge v3 x3 = true
    · rw [if_pos hc4] at h
      refine Rn.c2t (t := 80) n96_34 (by decide) hc4 ?_
      refine Rn.aload_n n96_80 l0 ?_
      obtain ⟨x5, hx5, h⟩ := Option.bind_eq_some_iff.mp h
      refine Rn.gf n96_81 mo96 fl9_25 (gfr_v hx5).1 ?_
      have r_x5 : x5 < n := by rw [← hn]; exact (gfr_v hx5).2
      refine Rn.aload_n n96_84 l0 ?_
      obtain ⟨x6, hx6, h⟩ := Option.bind_eq_some_iff.mp h
      refine Rn.gf n96_85 mo96 fl9_9 (gfr_v hx6).1 ?_
      have r_x6 : x6 < n := by rw [← hn]; exact (gfr_v hx6).2
      refine Rn.ic (v := 0) n96_88 (by decide) ?_
      refine Rn.aload_n n96_89 l0 ?_
      obtain ⟨x7, hx7, h⟩ := Option.bind_eq_some_iff.mp h
      refine Rn.gf n96_90 mo96 fl9_25 (gfr_v hx7).1 ?_
      have r_x7 : x7 < n := by rw [← hn]; exact (gfr_v hx7).2
      obtain ⟨u9, hu9, h⟩ := Option.bind_eq_some_iff.mp h
      obtain ⟨q8, hq8, h⟩ := Option.bind_eq_some_iff.mp h
      have gq8 := c46 (d := d') (by omega) F _ _ _ _ (by rw [hn]; exact r_x7) hq8
      refine Rn.cv (As := []) (rr := [.int 0, .ref x6, .ref x5]) n96_93 mo96 mm9_72 (by decide) mq46 rfl rfl rfl rfl (by rw [mo46]; exact hu9) (Nat.le_of_ble_eq_true rfl) (by rw [hn]; exact (okc (okr r_x7) okn)) (by rw [hn]; exact (okc rfl (okc (okr r_x6) (okc (okr r_x5) okn)))) (by rw [hn]; exact ok) (by rw [ml46]; exact Nat.le_of_ble_eq_true rfl) gq8 ?_
      have hn := (Rn.len gq8).trans hn
      show Rn _ 96 96 lv [.int q8.1, .int 0, .ref x6, .ref x5] q8.2 c w _
      obtain ⟨u11, hu11, h⟩ := Option.bind_eq_some_iff.mp h
      obtain ⟨q10, hq10, h⟩ := Option.bind_eq_some_iff.mp h
      have gq10 := c45 (d := d') (by omega) F _ _ _ _ _ _ _ (by rw [hn]; exact r_x5) (by rw [hn]; exact r_x6) hq10
      refine Rn.cv (As := [.ref x6, .int 0, .int q8.1]) (rr := []) n96_96 mo96 mm9_75 (by decide) mq45 rfl rfl rfl rfl (by rw [mo45]; exact hu11) (Nat.le_of_ble_eq_true rfl) (by rw [hn]; exact (okc (okr r_x5) (okc (okr r_x6) (okc rfl (okc rfl okn))))) (by rw [hn]; exact okn) (by rw [hn]; exact ok) (by rw [ml45]; exact Nat.le_of_ble_eq_true rfl) gq10 ?_
      have hn := (Rn.len gq10).trans hn
      show Rn _ 96 99 lv [.int q10.1] q10.2 c w _
      refine Rn.ic (v := (-1)) n96_99 (by decide) ?_
      by_cases hc12 : mc2 .ne q10.1 ((-1)) = true
      · rw [if_pos hc12] at h
        refine Rn.c2t (t := 107) n96_100 (by decide) hc12 ?_
        refine Rn.ic (v := 0) n96_107 (by decide) ?_
        exact t96_108 hd F  _ lv _ _ _  ok hn   h
      · rw [if_neg hc12] at h
        refine Rn.c2f (t := 107) n96_100 (by decide) hc12 ?_
        refine Rn.ic (v := 1) n96_103 (by decide) ?_
        refine Rn.goto (t := 108) n96_104 (by decide) ?_
        exact t96_108 hd F  _ lv _ _ _  ok hn   h
    · rw [if_neg hc4] at h
      refine Rn.c2f (t := 80) n96_34 (by decide) hc4 ?_
      refine Rn.aload_n n96_37 l0 ?_
      obtain ⟨x13, hx13, h⟩ := Option.bind_eq_some_iff.mp h
      refine Rn.gf n96_38 mo96 fl9_29 (gfr_v hx13).1 ?_
      have r_x13 : x13 < n := by rw [← hn]; exact (gfr_v hx13).2
      refine Rn.iload_n n96_41 l2 ?_
      refine Rn.iload_n n96_42 l3 ?_
      obtain ⟨u15, hu15, h⟩ := Option.bind_eq_some_iff.mp h
      obtain ⟨q14, hq14, h⟩ := Option.bind_eq_some_iff.mp h
      have gq14 := c17 (d := d') (by omega) F _ _ _ _ _ _ (by rw [hn]; exact r_x13) hq14
      refine Rn.cv (As := [.int v2, .int v3]) (rr := []) n96_43 mo96 mm9_47 (by decide) mq17 rfl rfl rfl rfl (by rw [mo17]; exact hu15) (Nat.le_of_ble_eq_true rfl) (by rw [hn]; exact (okc (okr r_x13) (okc rfl (okc rfl okn)))) (by rw [hn]; exact okn) (by rw [hn]; exact ok) (by rw [ml17]; exact Nat.le_of_ble_eq_true rfl) gq14 ?_
      have hn := (Rn.len gq14).trans hn
      show Rn _ 96 46 lv [.int q14.1] q14.2 c w _
      refine Rn.is (m := n) n96_46 ml96 (by decide) (fun lv l4 hk hok => ?_)
      have l0 := hk 0 _ (by decide) (Or.inl rfl) l0
      have l2 := hk 2 _ (by decide) (Or.inl rfl) l2
      have l3 := hk 3 _ (by decide) (Or.inl rfl) l3
      have ok := hok ok
      refine Rn.aload_n n96_48 l0 ?_
      obtain ⟨x16, hx16, h⟩ := Option.bind_eq_some_iff.mp h
      refine Rn.gf n96_49 mo96 fl9_9 (gfr_v hx16).1 ?_
      have r_x16 : x16 < n := by rw [← hn]; exact (gfr_v hx16).2
      refine Rn.iload n96_52 l4 ?_
      obtain ⟨x17, hx17, h⟩ := Option.bind_eq_some_iff.mp h
      refine Rn.lald n96_54 hx17 ?_
      refine Rn.lc (v := 0) n96_55 (by decide) ?_
      refine Rn.p n96_56 rfl ?_
      by_cases hc18 : mc1 .ge (lg_cmp x17 0) = true
      · rw [if_pos hc18] at h
        refine Rn.c1t (t := 74) n96_57 (by decide) hc18 ?_
        exact t96_74 hd F hr24 _ _ _ lv _ _ _ l0 l2 l3 ok hn r_v0  h
      · rw [if_neg hc18] at h
        refine Rn.c1f (t := 74) n96_57 (by decide) hc18 ?_
        refine Rn.aload_n n96_60 l0 ?_
        obtain ⟨x19, hx19, h⟩ := Option.bind_eq_some_iff.mp h
        refine Rn.gf n96_61 mo96 fl9_25 (gfr_v hx19).1 ?_
        have r_x19 : x19 < n := by rw [← hn]; exact (gfr_v hx19).2
        refine Rn.aload_n n96_64 l0 ?_
        obtain ⟨x20, hx20, h⟩ := Option.bind_eq_some_iff.mp h
        refine Rn.gf n96_65 mo96 fl9_9 (gfr_v hx20).1 ?_
        have r_x20 : x20 < n := by rw [← hn]; exact (gfr_v hx20).2
        refine Rn.ic (v := 0) n96_68 (by decide) ?_
        refine Rn.iload n96_69 l4 ?_
        obtain ⟨u22, hu22, h⟩ := Option.bind_eq_some_iff.mp h
        obtain ⟨q21, hq21, h⟩ := Option.bind_eq_some_iff.mp h
        have gq21 := c41 (d := d') (by omega) F _ _ _ _ _ _ _ (by rw [hn]; exact r_x19) (by rw [hn]; exact r_x20) hq21
        refine Rn.cv (As := [.ref x20, .int 0, .int q14.1]) (rr := []) n96_71 mo96 mm9_51 (by decide) mq41 rfl rfl rfl rfl (by rw [mo41]; exact hu22) (Nat.le_of_ble_eq_true rfl) (by rw [hn]; exact (okc (okr r_x19) (okc (okr r_x20) (okc rfl (okc rfl okn))))) (by rw [hn]; exact okn) (by rw [hn]; exact ok) (by rw [ml41]; exact Nat.le_of_ble_eq_true rfl) gq21 ?_
        have hn := (Rn.len gq21).trans hn
        show Rn _ 96 74 lv [] q21.2 c w _
        exact t96_74 hd F hr24 _ _ _ lv _ _ _ l0 l2 l3 ok hn r_v0  h
def m96_0 (F : Nat) (v0 : Nat) (v1 : Int32) (v2 : Int32) (hp : List mE) : Option (Int32 × List mE) :=
  (gfr 9 0 hp v0).bind fun x1 =>
  (gfr 9 1 hp v0).bind fun x2 =>
  (gfr 1 4 hp x2).bind fun x3 =>
  (gfr 9 2 hp v0).bind fun x4 =>
  (rcv 3 hp x1).bind fun u6 =>
  (e42 F x1 x3 (v1 * 5) x4 0 hp).bind fun q5 =>
  m96_24 F F v0 v2 0 q5.2
theorem t96_0 {d c w n : Nat} (hd : 1 ≤ d) (F : Nat) : ∀ (v0 : Nat) (v1 : Int32) (v2 : Int32) (lv : List (Nat × Value)) (hp : List mE) (v : Int32) (hp' : List mE), alk 0 lv = some (.ref v0) → alk 1 lv = some (.int v1) → alk 2 lv = some (.int v2) → lvk n lv → hp.length = n → v0 < n → m96_0 F v0 v1 v2 hp = some (v, hp') → Rn d 96 0 lv [] hp c w (some (.int v), hp', c, w) := by
  obtain ⟨d', rfl⟩ : ∃ d', d = d' + 1 := ⟨d - 1, by omega⟩
  intro v0 v1 v2 lv hp v hp' l0 l1 l2 ok hn r_v0 h
  unfold m96_0 at h
  refine Rn.aload_n n96_0 l0 ?_
  obtain ⟨x1, hx1, h⟩ := Option.bind_eq_some_iff.mp h
  refine Rn.gf n96_1 mo96 fl9_25 (gfr_v hx1).1 ?_
  have r_x1 : x1 < n := by rw [← hn]; exact (gfr_v hx1).2
  refine Rn.aload_n n96_4 l0 ?_
  obtain ⟨x2, hx2, h⟩ := Option.bind_eq_some_iff.mp h
  refine Rn.gf n96_5 mo96 fl9_29 (gfr_v hx2).1 ?_
  have r_x2 : x2 < n := by rw [← hn]; exact (gfr_v hx2).2
  obtain ⟨x3, hx3, h⟩ := Option.bind_eq_some_iff.mp h
  refine Rn.gf n96_8 mo96 fl9_69 (gfr_v hx3).1 ?_
  have r_x3 : x3 < n := by rw [← hn]; exact (gfr_v hx3).2
  refine Rn.iload_n n96_11 l1 ?_
  refine Rn.ic (v := 5) n96_12 (by decide) ?_
  refine Rn.p n96_13 rfl ?_
  refine Rn.aload_n n96_14 l0 ?_
  obtain ⟨x4, hx4, h⟩ := Option.bind_eq_some_iff.mp h
  refine Rn.gf n96_15 mo96 fl9_9 (gfr_v hx4).1 ?_
  have r_x4 : x4 < n := by rw [← hn]; exact (gfr_v hx4).2
  refine Rn.ic (v := 0) n96_18 (by decide) ?_
  obtain ⟨u6, hu6, h⟩ := Option.bind_eq_some_iff.mp h
  obtain ⟨q5, hq5, h⟩ := Option.bind_eq_some_iff.mp h
  have gq5 := c42 (d := d') (by omega) F _ _ _ _ _ _ _ _ (by rw [hn]; exact r_x1) (by rw [hn]; exact r_x3) (by rw [hn]; exact r_x4) hq5
  refine Rn.cv (As := [.ref x3, .int (v1 * 5), .ref x4, .int 0]) (rr := []) n96_19 mo96 mm9_38 (by decide) mq42 rfl rfl rfl rfl (by rw [mo42]; exact hu6) (Nat.le_of_ble_eq_true rfl) (by rw [hn]; exact (okc (okr r_x1) (okc (okr r_x3) (okc rfl (okc (okr r_x4) (okc rfl okn)))))) (by rw [hn]; exact okn) (by rw [hn]; exact ok) (by rw [ml42]; exact Nat.le_of_ble_eq_true rfl) gq5 ?_
  have hn := (Rn.len gq5).trans hn
  show Rn _ 96 22 lv [] q5.2 c w _
  refine Rn.ic (v := 0) n96_22 (by decide) ?_
  refine Rn.isn (m := n) n96_23 rfl ml96 (by decide) (fun lv l3 hk hok => ?_)
  have l0 := hk 0 _ (by decide) (Or.inl rfl) l0
  have l1 := hk 1 _ (by decide) (Or.inl rfl) l1
  have l2 := hk 2 _ (by decide) (Or.inl rfl) l2
  have ok := hok ok
  exact t96_24 hd F  F _ _ _ lv _ _ _ l0 l2 l3 ok hn r_v0  h
def e96 (F : Nat) (a0 : Nat) (a1 : Int32) (a2 : Int32) (hp : List mE) : Option (Int32 × List mE) := m96_0 F a0 a1 a2 hp
theorem c96 {d : Nat} (hd : 1 ≤ d) (F : Nat) (a0 : Nat) (a1 : Int32) (a2 : Int32) (hp : List mE) (v : Int32) (hp' : List mE) (ra0 : a0 < hp.length) (h : e96 F a0 a1 a2 hp = some (v, hp')) : Rn d 96 0 (lv_args 0 [.ref a0, .int a1, .int a2]) [] hp 0 0 (some (.int v), hp', 0, 0) :=
  t96_0 (n := hp.length) hd F a0 a1 a2 (lv_args 0 [.ref a0, .int a1, .int a2]) hp v hp' rfl rfl rfl (lvk_args (okc (okr ra0) (okc rfl (okc rfl okn)))) rfl ra0 h
/-! MirrorRoots$Words.staysShortest -/
def m98_21 (F : Nat) : Nat → Nat → Int32 → Int32 → List mE → Option (Int32 × List mE)
  | 0, _, _, _, _ => none
  | f + 1, v0, v1, v3, hp =>
    (gfr 9 1 hp v0).bind fun x1 =>
    (gfr 1 3 hp x1).bind fun x2 =>
    (rdI hp x2 v1).bind fun x3 =>
    if mc2 .ge v3 x3 = true then
      some (1, hp)
    else
      (gfr 9 1 hp v0).bind fun x5 =>
      (rcv 1 hp x5).bind fun u7 =>
      (e17 F x5 v1 v3 hp).bind fun q6 =>
      (gfr 9 2 q6.2 v0).bind fun x8 =>
      (rdJ q6.2 x8 q6.1).bind fun x9 =>
      if mc1 .ge (lg_cmp x9 0) = true then
        (gfr 9 0 q6.2 v0).bind fun x11 =>
        (gfr 9 2 q6.2 v0).bind fun x12 =>
        (rcv 3 q6.2 x11).bind fun u14 =>
        (e41 F x11 x12 0 q6.1 q6.2).bind fun q13 =>
        m98_21 F f v0 v1 (v3 + 1) q13.2
      else
        some (0, q6.2)
theorem t98_21 {d c w n : Nat} (hd : 1 ≤ d) (F : Nat) : ∀ f : Nat, ∀ (v0 : Nat) (v1 : Int32) (v3 : Int32) (lv : List (Nat × Value)) (hp : List mE) (v : Int32) (hp' : List mE), alk 0 lv = some (.ref v0) → alk 1 lv = some (.int v1) → alk 3 lv = some (.int v3) → lvk n lv → hp.length = n → v0 < n → m98_21 F f v0 v1 v3 hp = some (v, hp') → Rn d 98 21 lv [] hp c w (some (.int v), hp', c, w) := by
  obtain ⟨d', rfl⟩ : ∃ d', d = d' + 1 := ⟨d - 1, by omega⟩
  intro f
  induction f with
  | zero => intro v0 v1 v3 lv hp v hp' l0 l1 l3 ok hn r_v0 h; cases h
  | succ f hr21 =>
    intro v0 v1 v3 lv hp v hp' l0 l1 l3 ok hn r_v0 h
    unfold m98_21 at h
    refine Rn.iload_n n98_21 l3 ?_
    refine Rn.aload_n n98_22 l0 ?_
    obtain ⟨x1, hx1, h⟩ := Option.bind_eq_some_iff.mp h
    refine Rn.gf n98_23 mo98 fl9_29 (gfr_v hx1).1 ?_
    have r_x1 : x1 < n := by rw [← hn]; exact (gfr_v hx1).2
    obtain ⟨x2, hx2, h⟩ := Option.bind_eq_some_iff.mp h
    refine Rn.gf n98_26 mo98 fl9_44 (gfr_v hx2).1 ?_
    have r_x2 : x2 < n := by rw [← hn]; exact (gfr_v hx2).2
    refine Rn.iload_n n98_29 l1 ?_
    obtain ⟨x3, hx3, h⟩ := Option.bind_eq_some_iff.mp h
    refine Rn.iald n98_30 hx3 ?_
    by_cases hc4 : mc2 .ge v3 x3 = true
    · rw [if_pos hc4] at h
      refine Rn.c2t (t := 79) n98_31 (by decide) hc4 ?_
      refine Rn.ic (v := 1) n98_79 (by decide) ?_
      have e1 := (Prod.mk.inj (Option.some.inj h)).1
      have e2 := (Prod.mk.inj (Option.some.inj h)).2
      subst e1
      subst e2
      exact Rn.zret n98_80 mr98 (Or.inr rfl)
    · rw [if_neg hc4] at h
      refine Rn.c2f (t := 79) n98_31 (by decide) hc4 ?_
      refine Rn.aload_n n98_34 l0 ?_
      obtain ⟨x5, hx5, h⟩ := Option.bind_eq_some_iff.mp h
      refine Rn.gf n98_35 mo98 fl9_29 (gfr_v hx5).1 ?_
      have r_x5 : x5 < n := by rw [← hn]; exact (gfr_v hx5).2
      refine Rn.iload_n n98_38 l1 ?_
      refine Rn.iload_n n98_39 l3 ?_
      obtain ⟨u7, hu7, h⟩ := Option.bind_eq_some_iff.mp h
      obtain ⟨q6, hq6, h⟩ := Option.bind_eq_some_iff.mp h
      have gq6 := c17 (d := d') (by omega) F _ _ _ _ _ _ (by rw [hn]; exact r_x5) hq6
      refine Rn.cv (As := [.int v1, .int v3]) (rr := []) n98_40 mo98 mm9_47 (by decide) mq17 rfl rfl rfl rfl (by rw [mo17]; exact hu7) (Nat.le_of_ble_eq_true rfl) (by rw [hn]; exact (okc (okr r_x5) (okc rfl (okc rfl okn)))) (by rw [hn]; exact okn) (by rw [hn]; exact ok) (by rw [ml17]; exact Nat.le_of_ble_eq_true rfl) gq6 ?_
      have hn := (Rn.len gq6).trans hn
      show Rn _ 98 43 lv [.int q6.1] q6.2 c w _
      refine Rn.is (m := n) n98_43 ml98 (by decide) (fun lv l4 hk hok => ?_)
      have l0 := hk 0 _ (by decide) (Or.inl rfl) l0
      have l1 := hk 1 _ (by decide) (Or.inl rfl) l1
      have l3 := hk 3 _ (by decide) (Or.inl rfl) l3
      have ok := hok ok
      refine Rn.aload_n n98_45 l0 ?_
      obtain ⟨x8, hx8, h⟩ := Option.bind_eq_some_iff.mp h
      refine Rn.gf n98_46 mo98 fl9_9 (gfr_v hx8).1 ?_
      have r_x8 : x8 < n := by rw [← hn]; exact (gfr_v hx8).2
      refine Rn.iload n98_49 l4 ?_
      obtain ⟨x9, hx9, h⟩ := Option.bind_eq_some_iff.mp h
      refine Rn.lald n98_51 hx9 ?_
      refine Rn.lc (v := 0) n98_52 (by decide) ?_
      refine Rn.p n98_53 rfl ?_
      by_cases hc10 : mc1 .ge (lg_cmp x9 0) = true
      · rw [if_pos hc10] at h
        refine Rn.c1t (t := 59) n98_54 (by decide) hc10 ?_
        refine Rn.aload_n n98_59 l0 ?_
        obtain ⟨x11, hx11, h⟩ := Option.bind_eq_some_iff.mp h
        refine Rn.gf n98_60 mo98 fl9_25 (gfr_v hx11).1 ?_
        have r_x11 : x11 < n := by rw [← hn]; exact (gfr_v hx11).2
        refine Rn.aload_n n98_63 l0 ?_
        obtain ⟨x12, hx12, h⟩ := Option.bind_eq_some_iff.mp h
        refine Rn.gf n98_64 mo98 fl9_9 (gfr_v hx12).1 ?_
        have r_x12 : x12 < n := by rw [← hn]; exact (gfr_v hx12).2
        refine Rn.ic (v := 0) n98_67 (by decide) ?_
        refine Rn.iload n98_68 l4 ?_
        obtain ⟨u14, hu14, h⟩ := Option.bind_eq_some_iff.mp h
        obtain ⟨q13, hq13, h⟩ := Option.bind_eq_some_iff.mp h
        have gq13 := c41 (d := d') (by omega) F _ _ _ _ _ _ _ (by rw [hn]; exact r_x11) (by rw [hn]; exact r_x12) hq13
        refine Rn.cv (As := [.ref x12, .int 0, .int q6.1]) (rr := []) n98_70 mo98 mm9_51 (by decide) mq41 rfl rfl rfl rfl (by rw [mo41]; exact hu14) (Nat.le_of_ble_eq_true rfl) (by rw [hn]; exact (okc (okr r_x11) (okc (okr r_x12) (okc rfl (okc rfl okn))))) (by rw [hn]; exact okn) (by rw [hn]; exact ok) (by rw [ml41]; exact Nat.le_of_ble_eq_true rfl) gq13 ?_
        have hn := (Rn.len gq13).trans hn
        show Rn _ 98 73 lv [] q13.2 c w _
        refine Rn.ii (m := n) (u := 1) n98_73 ml98 (by decide) (by decide) l3 (fun lv l3 hk hok => ?_)
        have l0 := hk 0 _ (by decide) (Or.inl rfl) l0
        have l1 := hk 1 _ (by decide) (Or.inl rfl) l1
        have l4 := hk 4 _ (by decide) (Or.inl rfl) l4
        have ok := hok ok
        refine Rn.goto (t := 21) n98_76 (by decide) ?_
        exact hr21 _ _ _ lv _ _ _ l0 l1 l3 ok hn r_v0  h
      · rw [if_neg hc10] at h
        refine Rn.c1f (t := 59) n98_54 (by decide) hc10 ?_
        refine Rn.ic (v := 0) n98_57 (by decide) ?_
        have e1 := (Prod.mk.inj (Option.some.inj h)).1
        have e2 := (Prod.mk.inj (Option.some.inj h)).2
        subst e1
        subst e2
        exact Rn.zret n98_58 mr98 (Or.inl rfl)
def m98_0 (F : Nat) (v0 : Nat) (v1 : Int32) (v2 : Int32) (hp : List mE) : Option (Int32 × List mE) :=
  (gfr 9 0 hp v0).bind fun x1 =>
  (gfr 9 3 hp v0).bind fun x2 =>
  (gfr 9 2 hp v0).bind fun x3 =>
  (rcv 3 hp x1).bind fun u5 =>
  (e42 F x1 x2 0 x3 0 hp).bind fun q4 =>
  m98_21 F F v0 v1 (v2 + 1) q4.2
theorem t98_0 {d c w n : Nat} (hd : 1 ≤ d) (F : Nat) : ∀ (v0 : Nat) (v1 : Int32) (v2 : Int32) (lv : List (Nat × Value)) (hp : List mE) (v : Int32) (hp' : List mE), alk 0 lv = some (.ref v0) → alk 1 lv = some (.int v1) → alk 2 lv = some (.int v2) → lvk n lv → hp.length = n → v0 < n → m98_0 F v0 v1 v2 hp = some (v, hp') → Rn d 98 0 lv [] hp c w (some (.int v), hp', c, w) := by
  obtain ⟨d', rfl⟩ : ∃ d', d = d' + 1 := ⟨d - 1, by omega⟩
  intro v0 v1 v2 lv hp v hp' l0 l1 l2 ok hn r_v0 h
  unfold m98_0 at h
  refine Rn.aload_n n98_0 l0 ?_
  obtain ⟨x1, hx1, h⟩ := Option.bind_eq_some_iff.mp h
  refine Rn.gf n98_1 mo98 fl9_25 (gfr_v hx1).1 ?_
  have r_x1 : x1 < n := by rw [← hn]; exact (gfr_v hx1).2
  refine Rn.aload_n n98_4 l0 ?_
  obtain ⟨x2, hx2, h⟩ := Option.bind_eq_some_iff.mp h
  refine Rn.gf n98_5 mo98 fl9_15 (gfr_v hx2).1 ?_
  have r_x2 : x2 < n := by rw [← hn]; exact (gfr_v hx2).2
  refine Rn.ic (v := 0) n98_8 (by decide) ?_
  refine Rn.aload_n n98_9 l0 ?_
  obtain ⟨x3, hx3, h⟩ := Option.bind_eq_some_iff.mp h
  refine Rn.gf n98_10 mo98 fl9_9 (gfr_v hx3).1 ?_
  have r_x3 : x3 < n := by rw [← hn]; exact (gfr_v hx3).2
  refine Rn.ic (v := 0) n98_13 (by decide) ?_
  obtain ⟨u5, hu5, h⟩ := Option.bind_eq_some_iff.mp h
  obtain ⟨q4, hq4, h⟩ := Option.bind_eq_some_iff.mp h
  have gq4 := c42 (d := d') (by omega) F _ _ _ _ _ _ _ _ (by rw [hn]; exact r_x1) (by rw [hn]; exact r_x2) (by rw [hn]; exact r_x3) hq4
  refine Rn.cv (As := [.ref x2, .int 0, .ref x3, .int 0]) (rr := []) n98_14 mo98 mm9_38 (by decide) mq42 rfl rfl rfl rfl (by rw [mo42]; exact hu5) (Nat.le_of_ble_eq_true rfl) (by rw [hn]; exact (okc (okr r_x1) (okc (okr r_x2) (okc rfl (okc (okr r_x3) (okc rfl okn)))))) (by rw [hn]; exact okn) (by rw [hn]; exact ok) (by rw [ml42]; exact Nat.le_of_ble_eq_true rfl) gq4 ?_
  have hn := (Rn.len gq4).trans hn
  show Rn _ 98 17 lv [] q4.2 c w _
  refine Rn.iload_n n98_17 l2 ?_
  refine Rn.ic (v := 1) n98_18 (by decide) ?_
  refine Rn.p n98_19 rfl ?_
  refine Rn.isn (m := n) n98_20 rfl ml98 (by decide) (fun lv l3 hk hok => ?_)
  have l0 := hk 0 _ (by decide) (Or.inl rfl) l0
  have l1 := hk 1 _ (by decide) (Or.inl rfl) l1
  have l2 := hk 2 _ (by decide) (Or.inl rfl) l2
  have ok := hok ok
  exact t98_21 hd F  F _ _ _ lv _ _ _ l0 l1 l3 ok hn r_v0  h
def e98 (F : Nat) (a0 : Nat) (a1 : Int32) (a2 : Int32) (hp : List mE) : Option (Int32 × List mE) := m98_0 F a0 a1 a2 hp
theorem c98 {d : Nat} (hd : 1 ≤ d) (F : Nat) (a0 : Nat) (a1 : Int32) (a2 : Int32) (hp : List mE) (v : Int32) (hp' : List mE) (ra0 : a0 < hp.length) (h : e98 F a0 a1 a2 hp = some (v, hp')) : Rn d 98 0 (lv_args 0 [.ref a0, .int a1, .int a2]) [] hp 0 0 (some (.int v), hp', 0, 0) :=
  t98_0 (n := hp.length) hd F a0 a1 a2 (lv_args 0 [.ref a0, .int a1, .int a2]) hp v hp' rfl rfl rfl (lvk_args (okc (okr ra0) (okc rfl (okc rfl okn)))) rfl ra0 h
/-! MirrorRoots$Words.countCovers -/
def m97_41 (F : Nat) (rc16 : Nat → Int32 → Int32 → Int32 → List mE → Option (Int32 × List mE)) (v0 : Nat) (v1 : Int32) (v2 : Int32) (v3 : Int32) (hp : List mE) : Option (Int32 × List mE) :=
  (gfr 9 0 hp v0).bind fun x1 =>
  (gfr 9 3 hp v0).bind fun x2 =>
  (gfr 9 1 hp v0).bind fun x3 =>
  (rcv 1 hp x3).bind fun u5 =>
  (e17 F x3 v1 v3 hp).bind fun q4 =>
  (rcv 3 q4.2 x1).bind fun u7 =>
  (e41 F x1 x2 0 q4.1 q4.2).bind fun q6 =>
  rc16 v0 v1 v2 (v3 + 1) q6.2
theorem t97_41 {d c w n : Nat} (hd : 2 ≤ d) (F : Nat) {rc16 : Nat → Int32 → Int32 → Int32 → List mE → Option (Int32 × List mE)} (hr16 : ∀ (v0 : Nat) (v1 : Int32) (v2 : Int32) (v3 : Int32) (lv : List (Nat × Value)) (hp : List mE) (v : Int32) (hp' : List mE), alk 0 lv = some (.ref v0) → alk 1 lv = some (.int v1) → alk 2 lv = some (.int v2) → alk 3 lv = some (.int v3) → lvk n lv → hp.length = n → v0 < n → rc16 v0 v1 v2 v3 hp = some (v, hp') → Rn d 97 16 lv [] hp c w (some (.int v), hp', c, w)) : ∀ (v0 : Nat) (v1 : Int32) (v2 : Int32) (v3 : Int32) (lv : List (Nat × Value)) (hp : List mE) (v : Int32) (hp' : List mE), alk 0 lv = some (.ref v0) → alk 1 lv = some (.int v1) → alk 2 lv = some (.int v2) → alk 3 lv = some (.int v3) → lvk n lv → hp.length = n → v0 < n → m97_41 F rc16 v0 v1 v2 v3 hp = some (v, hp') → Rn d 97 41 lv [] hp c w (some (.int v), hp', c, w) := by
  obtain ⟨d', rfl⟩ : ∃ d', d = d' + 1 := ⟨d - 1, by omega⟩
  intro v0 v1 v2 v3 lv hp v hp' l0 l1 l2 l3 ok hn r_v0 h
  unfold m97_41 at h
  refine Rn.aload_n n97_41 l0 ?_
  obtain ⟨x1, hx1, h⟩ := Option.bind_eq_some_iff.mp h
  refine Rn.gf n97_42 mo97 fl9_25 (gfr_v hx1).1 ?_
  have r_x1 : x1 < n := by rw [← hn]; exact (gfr_v hx1).2
  refine Rn.aload_n n97_45 l0 ?_
  obtain ⟨x2, hx2, h⟩ := Option.bind_eq_some_iff.mp h
  refine Rn.gf n97_46 mo97 fl9_15 (gfr_v hx2).1 ?_
  have r_x2 : x2 < n := by rw [← hn]; exact (gfr_v hx2).2
  refine Rn.ic (v := 0) n97_49 (by decide) ?_
  refine Rn.aload_n n97_50 l0 ?_
  obtain ⟨x3, hx3, h⟩ := Option.bind_eq_some_iff.mp h
  refine Rn.gf n97_51 mo97 fl9_29 (gfr_v hx3).1 ?_
  have r_x3 : x3 < n := by rw [← hn]; exact (gfr_v hx3).2
  refine Rn.iload_n n97_54 l1 ?_
  refine Rn.iload_n n97_55 l3 ?_
  obtain ⟨u5, hu5, h⟩ := Option.bind_eq_some_iff.mp h
  obtain ⟨q4, hq4, h⟩ := Option.bind_eq_some_iff.mp h
  have gq4 := c17 (d := d') (by omega) F _ _ _ _ _ _ (by rw [hn]; exact r_x3) hq4
  refine Rn.cv (As := [.int v1, .int v3]) (rr := [.int 0, .ref x2, .ref x1]) n97_56 mo97 mm9_47 (by decide) mq17 rfl rfl rfl rfl (by rw [mo17]; exact hu5) (Nat.le_of_ble_eq_true rfl) (by rw [hn]; exact (okc (okr r_x3) (okc rfl (okc rfl okn)))) (by rw [hn]; exact (okc rfl (okc (okr r_x2) (okc (okr r_x1) okn)))) (by rw [hn]; exact ok) (by rw [ml17]; exact Nat.le_of_ble_eq_true rfl) gq4 ?_
  have hn := (Rn.len gq4).trans hn
  show Rn _ 97 59 lv [.int q4.1, .int 0, .ref x2, .ref x1] q4.2 c w _
  obtain ⟨u7, hu7, h⟩ := Option.bind_eq_some_iff.mp h
  obtain ⟨q6, hq6, h⟩ := Option.bind_eq_some_iff.mp h
  have gq6 := c41 (d := d') (by omega) F _ _ _ _ _ _ _ (by rw [hn]; exact r_x1) (by rw [hn]; exact r_x2) hq6
  refine Rn.cv (As := [.ref x2, .int 0, .int q4.1]) (rr := []) n97_59 mo97 mm9_51 (by decide) mq41 rfl rfl rfl rfl (by rw [mo41]; exact hu7) (Nat.le_of_ble_eq_true rfl) (by rw [hn]; exact (okc (okr r_x1) (okc (okr r_x2) (okc rfl (okc rfl okn))))) (by rw [hn]; exact okn) (by rw [hn]; exact ok) (by rw [ml41]; exact Nat.le_of_ble_eq_true rfl) gq6 ?_
  have hn := (Rn.len gq6).trans hn
  show Rn _ 97 62 lv [] q6.2 c w _
  refine Rn.ii (m := n) (u := 1) n97_62 ml97 (by decide) (by decide) l3 (fun lv l3 hk hok => ?_)
  have l0 := hk 0 _ (by decide) (Or.inl rfl) l0
  have l1 := hk 1 _ (by decide) (Or.inl rfl) l1
  have l2 := hk 2 _ (by decide) (Or.inl rfl) l2
  have ok := hok ok
  refine Rn.goto (t := 16) n97_65 (by decide) ?_
  exact hr16 _ _ _ _ lv _ _ _ l0 l1 l2 l3 ok hn r_v0  h
def m97_16 (F : Nat) : Nat → Nat → Int32 → Int32 → Int32 → List mE → Option (Int32 × List mE)
  | 0, _, _, _, _, _ => none
  | f + 1, v0, v1, v2, v3, hp =>
    (gfr 9 1 hp v0).bind fun x1 =>
    (gfr 1 3 hp x1).bind fun x2 =>
    (rdI hp x2 v1).bind fun x3 =>
    if mc2 .ge v3 x3 = true then
      some (v2, hp)
    else
      (rcv 9 hp v0).bind fun u6 =>
      (e98 F v0 v1 v3 hp).bind fun q5 =>
      if mc1 .eq q5.1 = true then
        m97_41 F (m97_16 F f) v0 v1 v2 v3 q5.2
      else
        m97_41 F (m97_16 F f) v0 v1 (v2 + 1) v3 q5.2
theorem t97_16 {d c w n : Nat} (hd : 2 ≤ d) (F : Nat) : ∀ f : Nat, ∀ (v0 : Nat) (v1 : Int32) (v2 : Int32) (v3 : Int32) (lv : List (Nat × Value)) (hp : List mE) (v : Int32) (hp' : List mE), alk 0 lv = some (.ref v0) → alk 1 lv = some (.int v1) → alk 2 lv = some (.int v2) → alk 3 lv = some (.int v3) → lvk n lv → hp.length = n → v0 < n → m97_16 F f v0 v1 v2 v3 hp = some (v, hp') → Rn d 97 16 lv [] hp c w (some (.int v), hp', c, w) := by
  obtain ⟨d', rfl⟩ : ∃ d', d = d' + 1 := ⟨d - 1, by omega⟩
  intro f
  induction f with
  | zero => intro v0 v1 v2 v3 lv hp v hp' l0 l1 l2 l3 ok hn r_v0 h; cases h
  | succ f hr16 =>
    intro v0 v1 v2 v3 lv hp v hp' l0 l1 l2 l3 ok hn r_v0 h
    unfold m97_16 at h
    refine Rn.iload_n n97_16 l3 ?_
    refine Rn.aload_n n97_17 l0 ?_
    obtain ⟨x1, hx1, h⟩ := Option.bind_eq_some_iff.mp h
    refine Rn.gf n97_18 mo97 fl9_29 (gfr_v hx1).1 ?_
    have r_x1 : x1 < n := by rw [← hn]; exact (gfr_v hx1).2
    obtain ⟨x2, hx2, h⟩ := Option.bind_eq_some_iff.mp h
    refine Rn.gf n97_21 mo97 fl9_44 (gfr_v hx2).1 ?_
    have r_x2 : x2 < n := by rw [← hn]; exact (gfr_v hx2).2
    refine Rn.iload_n n97_24 l1 ?_
    obtain ⟨x3, hx3, h⟩ := Option.bind_eq_some_iff.mp h
    refine Rn.iald n97_25 hx3 ?_
    by_cases hc4 : mc2 .ge v3 x3 = true
    · rw [if_pos hc4] at h
      refine Rn.c2t (t := 68) n97_26 (by decide) hc4 ?_
      refine Rn.iload_n n97_68 l2 ?_
      have e1 := (Prod.mk.inj (Option.some.inj h)).1
      have e2 := (Prod.mk.inj (Option.some.inj h)).2
      subst e1
      subst e2
      exact Rn.iret n97_69 mr97
    · rw [if_neg hc4] at h
      refine Rn.c2f (t := 68) n97_26 (by decide) hc4 ?_
      refine Rn.aload_n n97_29 l0 ?_
      refine Rn.iload_n n97_30 l1 ?_
      refine Rn.iload_n n97_31 l3 ?_
      obtain ⟨u6, hu6, h⟩ := Option.bind_eq_some_iff.mp h
      obtain ⟨q5, hq5, h⟩ := Option.bind_eq_some_iff.mp h
      have gq5 := c98 (d := d') (by omega) F _ _ _ _ _ _ (by rw [hn]; exact r_v0) hq5
      refine Rn.cv (As := [.int v1, .int v3]) (rr := []) n97_32 mo97 mm9_83 (by decide) mq98 rfl rfl rfl rfl (by rw [mo98]; exact hu6) (Nat.le_of_ble_eq_true rfl) (by rw [hn]; exact (okc (okr r_v0) (okc rfl (okc rfl okn)))) (by rw [hn]; exact okn) (by rw [hn]; exact ok) (by rw [ml98]; exact Nat.le_of_ble_eq_true rfl) gq5 ?_
      have hn := (Rn.len gq5).trans hn
      show Rn _ 97 35 lv [.int q5.1] q5.2 c w _
      by_cases hc7 : mc1 .eq q5.1 = true
      · rw [if_pos hc7] at h
        refine Rn.c1t (t := 41) n97_35 (by decide) hc7 ?_
        exact t97_41 hd F hr16 _ _ _ _ lv _ _ _ l0 l1 l2 l3 ok hn r_v0  h
      · rw [if_neg hc7] at h
        refine Rn.c1f (t := 41) n97_35 (by decide) hc7 ?_
        refine Rn.ii (m := n) (u := 1) n97_38 ml97 (by decide) (by decide) l2 (fun lv l2 hk hok => ?_)
        have l0 := hk 0 _ (by decide) (Or.inl rfl) l0
        have l1 := hk 1 _ (by decide) (Or.inl rfl) l1
        have l3 := hk 3 _ (by decide) (Or.inl rfl) l3
        have ok := hok ok
        exact t97_41 hd F hr16 _ _ _ _ lv _ _ _ l0 l1 l2 l3 ok hn r_v0  h
def m97_0 (F : Nat) (v0 : Nat) (v1 : Int32) (hp : List mE) : Option (Int32 × List mE) :=
  (gfr 9 0 hp v0).bind fun x1 =>
  (gfr 9 3 hp v0).bind fun x2 =>
  (rcv 3 hp x1).bind fun u4 =>
  (e40 F x1 x2 0 hp).bind fun q3 =>
  m97_16 F F v0 v1 0 0 q3.2
theorem t97_0 {d c w n : Nat} (hd : 2 ≤ d) (F : Nat) : ∀ (v0 : Nat) (v1 : Int32) (lv : List (Nat × Value)) (hp : List mE) (v : Int32) (hp' : List mE), alk 0 lv = some (.ref v0) → alk 1 lv = some (.int v1) → lvk n lv → hp.length = n → v0 < n → m97_0 F v0 v1 hp = some (v, hp') → Rn d 97 0 lv [] hp c w (some (.int v), hp', c, w) := by
  obtain ⟨d', rfl⟩ : ∃ d', d = d' + 1 := ⟨d - 1, by omega⟩
  intro v0 v1 lv hp v hp' l0 l1 ok hn r_v0 h
  unfold m97_0 at h
  refine Rn.ic (v := 0) n97_0 (by decide) ?_
  refine Rn.isn (m := n) n97_1 rfl ml97 (by decide) (fun lv l2 hk hok => ?_)
  have l0 := hk 0 _ (by decide) (Or.inl rfl) l0
  have l1 := hk 1 _ (by decide) (Or.inl rfl) l1
  have ok := hok ok
  refine Rn.aload_n n97_2 l0 ?_
  obtain ⟨x1, hx1, h⟩ := Option.bind_eq_some_iff.mp h
  refine Rn.gf n97_3 mo97 fl9_25 (gfr_v hx1).1 ?_
  have r_x1 : x1 < n := by rw [← hn]; exact (gfr_v hx1).2
  refine Rn.aload_n n97_6 l0 ?_
  obtain ⟨x2, hx2, h⟩ := Option.bind_eq_some_iff.mp h
  refine Rn.gf n97_7 mo97 fl9_15 (gfr_v hx2).1 ?_
  have r_x2 : x2 < n := by rw [← hn]; exact (gfr_v hx2).2
  refine Rn.ic (v := 0) n97_10 (by decide) ?_
  obtain ⟨u4, hu4, h⟩ := Option.bind_eq_some_iff.mp h
  obtain ⟨q3, hq3, h⟩ := Option.bind_eq_some_iff.mp h
  have gq3 := c40 (d := d') (by omega) F _ _ _ _ _ _ (by rw [hn]; exact r_x1) (by rw [hn]; exact r_x2) hq3
  refine Rn.cv (As := [.ref x2, .int 0]) (rr := []) n97_11 mo97 mm9_79 (by decide) mq40 rfl rfl rfl rfl (by rw [mo40]; exact hu4) (Nat.le_of_ble_eq_true rfl) (by rw [hn]; exact (okc (okr r_x1) (okc (okr r_x2) (okc rfl okn)))) (by rw [hn]; exact okn) (by rw [hn]; exact ok) (by rw [ml40]; exact Nat.le_of_ble_eq_true rfl) gq3 ?_
  have hn := (Rn.len gq3).trans hn
  show Rn _ 97 14 lv [] q3.2 c w _
  refine Rn.ic (v := 0) n97_14 (by decide) ?_
  refine Rn.isn (m := n) n97_15 rfl ml97 (by decide) (fun lv l3 hk hok => ?_)
  have l0 := hk 0 _ (by decide) (Or.inl rfl) l0
  have l1 := hk 1 _ (by decide) (Or.inl rfl) l1
  have l2 := hk 2 _ (by decide) (Or.inl rfl) l2
  have ok := hok ok
  exact t97_16 hd F  F _ _ _ _ lv _ _ _ l0 l1 l2 l3 ok hn r_v0  h
def e97 (F : Nat) (a0 : Nat) (a1 : Int32) (hp : List mE) : Option (Int32 × List mE) := m97_0 F a0 a1 hp
theorem c97 {d : Nat} (hd : 2 ≤ d) (F : Nat) (a0 : Nat) (a1 : Int32) (hp : List mE) (v : Int32) (hp' : List mE) (ra0 : a0 < hp.length) (h : e97 F a0 a1 hp = some (v, hp')) : Rn d 97 0 (lv_args 0 [.ref a0, .int a1]) [] hp 0 0 (some (.int v), hp', 0, 0) :=
  t97_0 (n := hp.length) hd F a0 a1 (lv_args 0 [.ref a0, .int a1]) hp v hp' rfl rfl (lvk_args (okc (okr ra0) (okc rfl okn))) rfl ra0 h
/-! MirrorRoots.feed -/
def m104_11 (F : Nat) (hp : List mE) : Option (Int32 × List mE) :=
  some ((-1002), hp)
theorem t104_11 {d c w n : Nat} (hd : 1 ≤ d) (F : Nat) : ∀ (lv : List (Nat × Value)) (hp : List mE) (v : Int32) (hp' : List mE), lvk n lv → hp.length = n → m104_11 F hp = some (v, hp') → Rn d 104 11 lv [] hp c w (some (.int v), hp', c, w) := by
  obtain ⟨d', rfl⟩ : ∃ d', d = d' + 1 := ⟨d - 1, by omega⟩
  intro lv hp v hp' ok hn h
  unfold m104_11 at h
  refine Rn.sp (v := (-1002)) n104_11 (by decide) ?_
  have e1 := (Prod.mk.inj (Option.some.inj h)).1
  have e2 := (Prod.mk.inj (Option.some.inj h)).2
  subst e1
  subst e2
  exact Rn.iret n104_14 mr104
def m104_0 (F : Nat) (v0 : Nat) (v1 : Int32) (v2 : Int64) (hp : List mE) : Option (Int32 × List mE) :=
  if mc2 .lt v1 1 = true then
    m104_11 F hp
  else
    if mc2 .le v1 8 = true then
      (gfr 10 1 hp v0).bind fun x3 =>
      (rcv 8 hp x3).bind fun u5 =>
      (e77 F x3 v1 v2 hp).bind fun q4 =>
      some (q4.1, q4.2)
    else
      m104_11 F hp
theorem t104_0 {d c w n : Nat} (hd : 1 ≤ d) (F : Nat) : ∀ (v0 : Nat) (v1 : Int32) (v2 : Int64) (lv : List (Nat × Value)) (hp : List mE) (v : Int32) (hp' : List mE), alk 0 lv = some (.ref v0) → alk 1 lv = some (.int v1) → alk 2 lv = some (.long v2) → lvk n lv → hp.length = n → v0 < n → m104_0 F v0 v1 v2 hp = some (v, hp') → Rn d 104 0 lv [] hp c w (some (.int v), hp', c, w) := by
  obtain ⟨d', rfl⟩ : ∃ d', d = d' + 1 := ⟨d - 1, by omega⟩
  intro v0 v1 v2 lv hp v hp' l0 l1 l2 ok hn r_v0 h
  unfold m104_0 at h
  refine Rn.iload_n n104_0 l1 ?_
  refine Rn.ic (v := 1) n104_1 (by decide) ?_
  by_cases hc1 : mc2 .lt v1 1 = true
  · rw [if_pos hc1] at h
    refine Rn.c2t (t := 11) n104_2 (by decide) hc1 ?_
    exact t104_11 hd F  lv _ _ _  ok hn   h
  · rw [if_neg hc1] at h
    refine Rn.c2f (t := 11) n104_2 (by decide) hc1 ?_
    refine Rn.iload_n n104_5 l1 ?_
    refine Rn.bp (v := 8) n104_6 (by decide) ?_
    by_cases hc2 : mc2 .le v1 8 = true
    · rw [if_pos hc2] at h
      refine Rn.c2t (t := 15) n104_8 (by decide) hc2 ?_
      refine Rn.aload_n n104_15 l0 ?_
      obtain ⟨x3, hx3, h⟩ := Option.bind_eq_some_iff.mp h
      refine Rn.gf n104_16 mo104 fl10_19 (gfr_v hx3).1 ?_
      have r_x3 : x3 < n := by rw [← hn]; exact (gfr_v hx3).2
      refine Rn.iload_n n104_19 l1 ?_
      refine Rn.lload_n n104_20 l2 ?_
      obtain ⟨u5, hu5, h⟩ := Option.bind_eq_some_iff.mp h
      obtain ⟨q4, hq4, h⟩ := Option.bind_eq_some_iff.mp h
      have gq4 := c77 (d := d') (by omega) F _ _ _ _ _ _ (by rw [hn]; exact r_x3) hq4
      refine Rn.cv (As := [.int v1, .long v2]) (rr := []) n104_21 mo104 mm10_75 (by decide) mq77 rfl rfl rfl rfl (by rw [mo77]; exact hu5) (Nat.le_of_ble_eq_true rfl) (by rw [hn]; exact (okc (okr r_x3) (okc rfl (okc rfl okn)))) (by rw [hn]; exact okn) (by rw [hn]; exact ok) (by rw [ml77]; exact Nat.le_of_ble_eq_true rfl) gq4 ?_
      have hn := (Rn.len gq4).trans hn
      show Rn _ 104 24 lv [.int q4.1] q4.2 c w _
      have e1 := (Prod.mk.inj (Option.some.inj h)).1
      have e2 := (Prod.mk.inj (Option.some.inj h)).2
      subst e1
      subst e2
      exact Rn.iret n104_24 mr104
    · rw [if_neg hc2] at h
      refine Rn.c2f (t := 15) n104_8 (by decide) hc2 ?_
      exact t104_11 hd F  lv _ _ _  ok hn   h
def e104 (F : Nat) (a0 : Nat) (a1 : Int32) (a2 : Int64) (hp : List mE) : Option (Int32 × List mE) := m104_0 F a0 a1 a2 hp
theorem c104 {d : Nat} (hd : 1 ≤ d) (F : Nat) (a0 : Nat) (a1 : Int32) (a2 : Int64) (hp : List mE) (v : Int32) (hp' : List mE) (ra0 : a0 < hp.length) (h : e104 F a0 a1 a2 hp = some (v, hp')) : Rn d 104 0 (lv_args 0 [.ref a0, .int a1, .long a2]) [] hp 0 0 (some (.int v), hp', 0, 0) :=
  t104_0 (n := hp.length) hd F a0 a1 a2 (lv_args 0 [.ref a0, .int a1, .long a2]) hp v hp' rfl rfl rfl (lvk_args (okc (okr ra0) (okc rfl (okc rfl okn)))) rfl ra0 h
/-! MirrorRoots.fault -/
def m107_0 (F : Nat) (v0 : Nat) (hp : List mE) : Option (Int32 × List mE) :=
  (gfr 10 1 hp v0).bind fun x1 =>
  (gfi 8 4 hp x1).bind fun x2 =>
  some (x2, hp)
theorem t107_0 {d c w n : Nat} (hd : 0 ≤ d) (F : Nat) : ∀ (v0 : Nat) (lv : List (Nat × Value)) (hp : List mE) (v : Int32) (hp' : List mE), alk 0 lv = some (.ref v0) → lvk n lv → hp.length = n → v0 < n → m107_0 F v0 hp = some (v, hp') → Rn d 107 0 lv [] hp c w (some (.int v), hp', c, w) := by
  intro v0 lv hp v hp' l0 ok hn r_v0 h
  unfold m107_0 at h
  refine Rn.aload_n n107_0 l0 ?_
  obtain ⟨x1, hx1, h⟩ := Option.bind_eq_some_iff.mp h
  refine Rn.gf n107_1 mo107 fl10_19 (gfr_v hx1).1 ?_
  have r_x1 : x1 < n := by rw [← hn]; exact (gfr_v hx1).2
  obtain ⟨x2, hx2, h⟩ := Option.bind_eq_some_iff.mp h
  refine Rn.gf n107_4 mo107 fl10_111 (gfi_v hx2) ?_
  have e1 := (Prod.mk.inj (Option.some.inj h)).1
  have e2 := (Prod.mk.inj (Option.some.inj h)).2
  subst e1
  subst e2
  exact Rn.iret n107_7 mr107
def e107 (F : Nat) (a0 : Nat) (hp : List mE) : Option (Int32 × List mE) := m107_0 F a0 hp
theorem c107 {d : Nat} (hd : 0 ≤ d) (F : Nat) (a0 : Nat) (hp : List mE) (v : Int32) (hp' : List mE) (ra0 : a0 < hp.length) (h : e107 F a0 hp = some (v, hp')) : Rn d 107 0 (lv_args 0 [.ref a0]) [] hp 0 0 (some (.int v), hp', 0, 0) :=
  t107_0 (n := hp.length) hd F a0 (lv_args 0 [.ref a0]) hp v hp' rfl (lvk_args (okc (okr ra0) okn)) rfl ra0 h
/-! MirrorRoots.turns -/
def m108_22 (F : Nat) (hp : List mE) : Option (Int32 × List mE) :=
  some ((-1002), hp)
theorem t108_22 {d c w n : Nat} (hd : 1 ≤ d) (F : Nat) : ∀ (lv : List (Nat × Value)) (hp : List mE) (v : Int32) (hp' : List mE), lvk n lv → hp.length = n → m108_22 F hp = some (v, hp') → Rn d 108 22 lv [] hp c w (some (.int v), hp', c, w) := by
  obtain ⟨d', rfl⟩ : ∃ d', d = d' + 1 := ⟨d - 1, by omega⟩
  intro lv hp v hp' ok hn h
  unfold m108_22 at h
  refine Rn.sp (v := (-1002)) n108_22 (by decide) ?_
  have e1 := (Prod.mk.inj (Option.some.inj h)).1
  have e2 := (Prod.mk.inj (Option.some.inj h)).2
  subst e1
  subst e2
  exact Rn.iret n108_25 mr108
def m108_0 (F : Nat) (v0 : Nat) (v1 : Int32) (v2 : Int32) (hp : List mE) : Option (Int32 × List mE) :=
  (gfr 10 0 hp v0).bind fun x1 =>
  (rcv 3 hp x1).bind fun u3 =>
  (e36 F x1 v1 hp).bind fun q2 =>
  if mc1 .eq q2.1 = true then
    m108_22 F q2.2
  else
    (gfr 10 0 q2.2 v0).bind fun x5 =>
    (rcv 3 q2.2 x5).bind fun u7 =>
    (e36 F x5 v2 q2.2).bind fun q6 =>
    if mc1 .ne q6.1 = true then
      (gfr 10 0 q6.2 v0).bind fun x9 =>
      (gfr 3 1 q6.2 x9).bind fun x10 =>
      (rdI q6.2 x10 ((v1 * 5) + v2)).bind fun x11 =>
      some (x11, q6.2)
    else
      m108_22 F q6.2
theorem t108_0 {d c w n : Nat} (hd : 1 ≤ d) (F : Nat) : ∀ (v0 : Nat) (v1 : Int32) (v2 : Int32) (lv : List (Nat × Value)) (hp : List mE) (v : Int32) (hp' : List mE), alk 0 lv = some (.ref v0) → alk 1 lv = some (.int v1) → alk 2 lv = some (.int v2) → lvk n lv → hp.length = n → v0 < n → m108_0 F v0 v1 v2 hp = some (v, hp') → Rn d 108 0 lv [] hp c w (some (.int v), hp', c, w) := by
  obtain ⟨d', rfl⟩ : ∃ d', d = d' + 1 := ⟨d - 1, by omega⟩
  intro v0 v1 v2 lv hp v hp' l0 l1 l2 ok hn r_v0 h
  unfold m108_0 at h
  refine Rn.aload_n n108_0 l0 ?_
  obtain ⟨x1, hx1, h⟩ := Option.bind_eq_some_iff.mp h
  refine Rn.gf n108_1 mo108 fl10_12 (gfr_v hx1).1 ?_
  have r_x1 : x1 < n := by rw [← hn]; exact (gfr_v hx1).2
  refine Rn.iload_n n108_4 l1 ?_
  obtain ⟨u3, hu3, h⟩ := Option.bind_eq_some_iff.mp h
  obtain ⟨q2, hq2, h⟩ := Option.bind_eq_some_iff.mp h
  have gq2 := c36 (d := d') (by omega) F _ _ _ _ _ (by rw [hn]; exact r_x1) hq2
  refine Rn.cv (As := [.int v1]) (rr := []) n108_5 mo108 mm10_114 (by decide) mq36 rfl rfl rfl rfl (by rw [mo36]; exact hu3) (Nat.le_of_ble_eq_true rfl) (by rw [hn]; exact (okc (okr r_x1) (okc rfl okn))) (by rw [hn]; exact okn) (by rw [hn]; exact ok) (by rw [ml36]; exact Nat.le_of_ble_eq_true rfl) gq2 ?_
  have hn := (Rn.len gq2).trans hn
  show Rn _ 108 8 lv [.int q2.1] q2.2 c w _
  by_cases hc4 : mc1 .eq q2.1 = true
  · rw [if_pos hc4] at h
    refine Rn.c1t (t := 22) n108_8 (by decide) hc4 ?_
    exact t108_22 hd F  lv _ _ _  ok hn   h
  · rw [if_neg hc4] at h
    refine Rn.c1f (t := 22) n108_8 (by decide) hc4 ?_
    refine Rn.aload_n n108_11 l0 ?_
    obtain ⟨x5, hx5, h⟩ := Option.bind_eq_some_iff.mp h
    refine Rn.gf n108_12 mo108 fl10_12 (gfr_v hx5).1 ?_
    have r_x5 : x5 < n := by rw [← hn]; exact (gfr_v hx5).2
    refine Rn.iload_n n108_15 l2 ?_
    obtain ⟨u7, hu7, h⟩ := Option.bind_eq_some_iff.mp h
    obtain ⟨q6, hq6, h⟩ := Option.bind_eq_some_iff.mp h
    have gq6 := c36 (d := d') (by omega) F _ _ _ _ _ (by rw [hn]; exact r_x5) hq6
    refine Rn.cv (As := [.int v2]) (rr := []) n108_16 mo108 mm10_114 (by decide) mq36 rfl rfl rfl rfl (by rw [mo36]; exact hu7) (Nat.le_of_ble_eq_true rfl) (by rw [hn]; exact (okc (okr r_x5) (okc rfl okn))) (by rw [hn]; exact okn) (by rw [hn]; exact ok) (by rw [ml36]; exact Nat.le_of_ble_eq_true rfl) gq6 ?_
    have hn := (Rn.len gq6).trans hn
    show Rn _ 108 19 lv [.int q6.1] q6.2 c w _
    by_cases hc8 : mc1 .ne q6.1 = true
    · rw [if_pos hc8] at h
      refine Rn.c1t (t := 26) n108_19 (by decide) hc8 ?_
      refine Rn.aload_n n108_26 l0 ?_
      obtain ⟨x9, hx9, h⟩ := Option.bind_eq_some_iff.mp h
      refine Rn.gf n108_27 mo108 fl10_12 (gfr_v hx9).1 ?_
      have r_x9 : x9 < n := by rw [← hn]; exact (gfr_v hx9).2
      obtain ⟨x10, hx10, h⟩ := Option.bind_eq_some_iff.mp h
      refine Rn.gf n108_30 mo108 fl10_118 (gfr_v hx10).1 ?_
      have r_x10 : x10 < n := by rw [← hn]; exact (gfr_v hx10).2
      refine Rn.iload_n n108_33 l1 ?_
      refine Rn.ic (v := 5) n108_34 (by decide) ?_
      refine Rn.p n108_35 rfl ?_
      refine Rn.iload_n n108_36 l2 ?_
      refine Rn.p n108_37 rfl ?_
      obtain ⟨x11, hx11, h⟩ := Option.bind_eq_some_iff.mp h
      refine Rn.iald n108_38 hx11 ?_
      have e1 := (Prod.mk.inj (Option.some.inj h)).1
      have e2 := (Prod.mk.inj (Option.some.inj h)).2
      subst e1
      subst e2
      exact Rn.iret n108_39 mr108
    · rw [if_neg hc8] at h
      refine Rn.c1f (t := 26) n108_19 (by decide) hc8 ?_
      exact t108_22 hd F  lv _ _ _  ok hn   h
def e108 (F : Nat) (a0 : Nat) (a1 : Int32) (a2 : Int32) (hp : List mE) : Option (Int32 × List mE) := m108_0 F a0 a1 a2 hp
theorem c108 {d : Nat} (hd : 1 ≤ d) (F : Nat) (a0 : Nat) (a1 : Int32) (a2 : Int32) (hp : List mE) (v : Int32) (hp' : List mE) (ra0 : a0 < hp.length) (h : e108 F a0 a1 a2 hp = some (v, hp')) : Rn d 108 0 (lv_args 0 [.ref a0, .int a1, .int a2]) [] hp 0 0 (some (.int v), hp', 0, 0) :=
  t108_0 (n := hp.length) hd F a0 a1 a2 (lv_args 0 [.ref a0, .int a1, .int a2]) hp v hp' rfl rfl rfl (lvk_args (okc (okr ra0) (okc rfl (okc rfl okn)))) rfl ra0 h
/-! MirrorRoots.number -/
def m109_22 (F : Nat) (hp : List mE) : Option (Int32 × List mE) :=
  some ((-1002), hp)
theorem t109_22 {d c w n : Nat} (hd : 1 ≤ d) (F : Nat) : ∀ (lv : List (Nat × Value)) (hp : List mE) (v : Int32) (hp' : List mE), lvk n lv → hp.length = n → m109_22 F hp = some (v, hp') → Rn d 109 22 lv [] hp c w (some (.int v), hp', c, w) := by
  obtain ⟨d', rfl⟩ : ∃ d', d = d' + 1 := ⟨d - 1, by omega⟩
  intro lv hp v hp' ok hn h
  unfold m109_22 at h
  refine Rn.sp (v := (-1002)) n109_22 (by decide) ?_
  have e1 := (Prod.mk.inj (Option.some.inj h)).1
  have e2 := (Prod.mk.inj (Option.some.inj h)).2
  subst e1
  subst e2
  exact Rn.iret n109_25 mr109
def m109_0 (F : Nat) (v0 : Nat) (v1 : Int32) (v2 : Int32) (hp : List mE) : Option (Int32 × List mE) :=
  (gfr 10 0 hp v0).bind fun x1 =>
  (rcv 3 hp x1).bind fun u3 =>
  (e36 F x1 v1 hp).bind fun q2 =>
  if mc1 .eq q2.1 = true then
    m109_22 F q2.2
  else
    (gfr 10 0 q2.2 v0).bind fun x5 =>
    (rcv 3 q2.2 x5).bind fun u7 =>
    (e36 F x5 v2 q2.2).bind fun q6 =>
    if mc1 .ne q6.1 = true then
      (gfr 10 0 q6.2 v0).bind fun x9 =>
      (gfr 3 2 q6.2 x9).bind fun x10 =>
      (rdI q6.2 x10 ((v1 * 5) + v2)).bind fun x11 =>
      some (x11, q6.2)
    else
      m109_22 F q6.2
theorem t109_0 {d c w n : Nat} (hd : 1 ≤ d) (F : Nat) : ∀ (v0 : Nat) (v1 : Int32) (v2 : Int32) (lv : List (Nat × Value)) (hp : List mE) (v : Int32) (hp' : List mE), alk 0 lv = some (.ref v0) → alk 1 lv = some (.int v1) → alk 2 lv = some (.int v2) → lvk n lv → hp.length = n → v0 < n → m109_0 F v0 v1 v2 hp = some (v, hp') → Rn d 109 0 lv [] hp c w (some (.int v), hp', c, w) := by
  obtain ⟨d', rfl⟩ : ∃ d', d = d' + 1 := ⟨d - 1, by omega⟩
  intro v0 v1 v2 lv hp v hp' l0 l1 l2 ok hn r_v0 h
  unfold m109_0 at h
  refine Rn.aload_n n109_0 l0 ?_
  obtain ⟨x1, hx1, h⟩ := Option.bind_eq_some_iff.mp h
  refine Rn.gf n109_1 mo109 fl10_12 (gfr_v hx1).1 ?_
  have r_x1 : x1 < n := by rw [← hn]; exact (gfr_v hx1).2
  refine Rn.iload_n n109_4 l1 ?_
  obtain ⟨u3, hu3, h⟩ := Option.bind_eq_some_iff.mp h
  obtain ⟨q2, hq2, h⟩ := Option.bind_eq_some_iff.mp h
  have gq2 := c36 (d := d') (by omega) F _ _ _ _ _ (by rw [hn]; exact r_x1) hq2
  refine Rn.cv (As := [.int v1]) (rr := []) n109_5 mo109 mm10_114 (by decide) mq36 rfl rfl rfl rfl (by rw [mo36]; exact hu3) (Nat.le_of_ble_eq_true rfl) (by rw [hn]; exact (okc (okr r_x1) (okc rfl okn))) (by rw [hn]; exact okn) (by rw [hn]; exact ok) (by rw [ml36]; exact Nat.le_of_ble_eq_true rfl) gq2 ?_
  have hn := (Rn.len gq2).trans hn
  show Rn _ 109 8 lv [.int q2.1] q2.2 c w _
  by_cases hc4 : mc1 .eq q2.1 = true
  · rw [if_pos hc4] at h
    refine Rn.c1t (t := 22) n109_8 (by decide) hc4 ?_
    exact t109_22 hd F  lv _ _ _  ok hn   h
  · rw [if_neg hc4] at h
    refine Rn.c1f (t := 22) n109_8 (by decide) hc4 ?_
    refine Rn.aload_n n109_11 l0 ?_
    obtain ⟨x5, hx5, h⟩ := Option.bind_eq_some_iff.mp h
    refine Rn.gf n109_12 mo109 fl10_12 (gfr_v hx5).1 ?_
    have r_x5 : x5 < n := by rw [← hn]; exact (gfr_v hx5).2
    refine Rn.iload_n n109_15 l2 ?_
    obtain ⟨u7, hu7, h⟩ := Option.bind_eq_some_iff.mp h
    obtain ⟨q6, hq6, h⟩ := Option.bind_eq_some_iff.mp h
    have gq6 := c36 (d := d') (by omega) F _ _ _ _ _ (by rw [hn]; exact r_x5) hq6
    refine Rn.cv (As := [.int v2]) (rr := []) n109_16 mo109 mm10_114 (by decide) mq36 rfl rfl rfl rfl (by rw [mo36]; exact hu7) (Nat.le_of_ble_eq_true rfl) (by rw [hn]; exact (okc (okr r_x5) (okc rfl okn))) (by rw [hn]; exact okn) (by rw [hn]; exact ok) (by rw [ml36]; exact Nat.le_of_ble_eq_true rfl) gq6 ?_
    have hn := (Rn.len gq6).trans hn
    show Rn _ 109 19 lv [.int q6.1] q6.2 c w _
    by_cases hc8 : mc1 .ne q6.1 = true
    · rw [if_pos hc8] at h
      refine Rn.c1t (t := 26) n109_19 (by decide) hc8 ?_
      refine Rn.aload_n n109_26 l0 ?_
      obtain ⟨x9, hx9, h⟩ := Option.bind_eq_some_iff.mp h
      refine Rn.gf n109_27 mo109 fl10_12 (gfr_v hx9).1 ?_
      have r_x9 : x9 < n := by rw [← hn]; exact (gfr_v hx9).2
      obtain ⟨x10, hx10, h⟩ := Option.bind_eq_some_iff.mp h
      refine Rn.gf n109_30 mo109 fl10_119 (gfr_v hx10).1 ?_
      have r_x10 : x10 < n := by rw [← hn]; exact (gfr_v hx10).2
      refine Rn.iload_n n109_33 l1 ?_
      refine Rn.ic (v := 5) n109_34 (by decide) ?_
      refine Rn.p n109_35 rfl ?_
      refine Rn.iload_n n109_36 l2 ?_
      refine Rn.p n109_37 rfl ?_
      obtain ⟨x11, hx11, h⟩ := Option.bind_eq_some_iff.mp h
      refine Rn.iald n109_38 hx11 ?_
      have e1 := (Prod.mk.inj (Option.some.inj h)).1
      have e2 := (Prod.mk.inj (Option.some.inj h)).2
      subst e1
      subst e2
      exact Rn.iret n109_39 mr109
    · rw [if_neg hc8] at h
      refine Rn.c1f (t := 26) n109_19 (by decide) hc8 ?_
      exact t109_22 hd F  lv _ _ _  ok hn   h
def e109 (F : Nat) (a0 : Nat) (a1 : Int32) (a2 : Int32) (hp : List mE) : Option (Int32 × List mE) := m109_0 F a0 a1 a2 hp
theorem c109 {d : Nat} (hd : 1 ≤ d) (F : Nat) (a0 : Nat) (a1 : Int32) (a2 : Int32) (hp : List mE) (v : Int32) (hp' : List mE) (ra0 : a0 < hp.length) (h : e109 F a0 a1 a2 hp = some (v, hp')) : Rn d 109 0 (lv_args 0 [.ref a0, .int a1, .int a2]) [] hp 0 0 (some (.int v), hp', 0, 0) :=
  t109_0 (n := hp.length) hd F a0 a1 a2 (lv_args 0 [.ref a0, .int a1, .int a2]) hp v hp' rfl rfl rfl (lvk_args (okc (okr ra0) (okc rfl (okc rfl okn)))) rfl ra0 h
/-! MirrorRoots.count -/
def m110_0 (F : Nat) (v0 : Nat) (v1 : Int32) (hp : List mE) : Option (Int32 × List mE) :=
  if v1 = 0 then
    (gfr 10 0 hp v0).bind fun x2 =>
    (gfi 3 0 hp x2).bind fun x3 =>
    some (x3, hp)
  else
  if v1 = 1 then
    (gfr 10 2 hp v0).bind fun x5 =>
    (gfi 1 1 hp x5).bind fun x6 =>
    some (x6, hp)
  else
  if v1 = 2 then
    (gfr 10 1 hp v0).bind fun x8 =>
    (gfi 8 1 hp x8).bind fun x9 =>
    some (x9, hp)
  else
  if v1 = 3 then
    (gfi 10 7 hp v0).bind fun x11 =>
    some (x11, hp)
  else
  some ((-1002), hp)
theorem t110_0 {d c w n : Nat} (hd : 0 ≤ d) (F : Nat) : ∀ (v0 : Nat) (v1 : Int32) (lv : List (Nat × Value)) (hp : List mE) (v : Int32) (hp' : List mE), alk 0 lv = some (.ref v0) → alk 1 lv = some (.int v1) → lvk n lv → hp.length = n → v0 < n → m110_0 F v0 v1 hp = some (v, hp') → Rn d 110 0 lv [] hp c w (some (.int v), hp', c, w) := by
  intro v0 v1 lv hp v hp' l0 l1 ok hn r_v0 h
  unfold m110_0 at h
  refine Rn.iload_n n110_0 l1 ?_
  by_cases hs1 : v1 = 0
  · rw [if_pos hs1] at h
    refine Rn.sw (pc' := 32) n110_1 (by rw [hs1]; rfl) ?_
    refine Rn.aload_n n110_32 l0 ?_
    obtain ⟨x2, hx2, h⟩ := Option.bind_eq_some_iff.mp h
    refine Rn.gf n110_33 mo110 fl10_12 (gfr_v hx2).1 ?_
    have r_x2 : x2 < n := by rw [← hn]; exact (gfr_v hx2).2
    obtain ⟨x3, hx3, h⟩ := Option.bind_eq_some_iff.mp h
    refine Rn.gf n110_36 mo110 fl10_99 (gfi_v hx3) ?_
    have e1 := (Prod.mk.inj (Option.some.inj h)).1
    have e2 := (Prod.mk.inj (Option.some.inj h)).2
    subst e1
    subst e2
    exact Rn.iret n110_39 mr110
  rw [if_neg hs1] at h
  by_cases hs4 : v1 = 1
  · rw [if_pos hs4] at h
    refine Rn.sw (pc' := 40) n110_1 (by rw [hs4]; rfl) ?_
    refine Rn.aload_n n110_40 l0 ?_
    obtain ⟨x5, hx5, h⟩ := Option.bind_eq_some_iff.mp h
    refine Rn.gf n110_41 mo110 fl10_28 (gfr_v hx5).1 ?_
    have r_x5 : x5 < n := by rw [← hn]; exact (gfr_v hx5).2
    obtain ⟨x6, hx6, h⟩ := Option.bind_eq_some_iff.mp h
    refine Rn.gf n110_44 mo110 fl10_122 (gfi_v hx6) ?_
    have e1 := (Prod.mk.inj (Option.some.inj h)).1
    have e2 := (Prod.mk.inj (Option.some.inj h)).2
    subst e1
    subst e2
    exact Rn.iret n110_47 mr110
  rw [if_neg hs4] at h
  by_cases hs7 : v1 = 2
  · rw [if_pos hs7] at h
    refine Rn.sw (pc' := 48) n110_1 (by rw [hs7]; rfl) ?_
    refine Rn.aload_n n110_48 l0 ?_
    obtain ⟨x8, hx8, h⟩ := Option.bind_eq_some_iff.mp h
    refine Rn.gf n110_49 mo110 fl10_19 (gfr_v hx8).1 ?_
    have r_x8 : x8 < n := by rw [← hn]; exact (gfr_v hx8).2
    obtain ⟨x9, hx9, h⟩ := Option.bind_eq_some_iff.mp h
    refine Rn.gf n110_52 mo110 fl10_123 (gfi_v hx9) ?_
    have e1 := (Prod.mk.inj (Option.some.inj h)).1
    have e2 := (Prod.mk.inj (Option.some.inj h)).2
    subst e1
    subst e2
    exact Rn.iret n110_55 mr110
  rw [if_neg hs7] at h
  by_cases hs10 : v1 = 3
  · rw [if_pos hs10] at h
    refine Rn.sw (pc' := 56) n110_1 (by rw [hs10]; rfl) ?_
    refine Rn.aload_n n110_56 l0 ?_
    obtain ⟨x11, hx11, h⟩ := Option.bind_eq_some_iff.mp h
    refine Rn.gf n110_57 mo110 fl10_59 (gfi_v hx11) ?_
    have e1 := (Prod.mk.inj (Option.some.inj h)).1
    have e2 := (Prod.mk.inj (Option.some.inj h)).2
    subst e1
    subst e2
    exact Rn.iret n110_60 mr110
  rw [if_neg hs10] at h
  refine Rn.sw (pc' := 61) n110_1 (mtab_out (tsw_out (n := 3) (by decide) (fun j hj => by rcases (show j = 0 ∨ j = 1 ∨ j = 2 ∨ j = 3 by omega) with rfl | rfl | rfl | rfl <;> first | exact hs1 | exact hs4 | exact hs7 | exact hs10)) (by decide)) ?_
  refine Rn.sp (v := (-1002)) n110_61 (by decide) ?_
  have e1 := (Prod.mk.inj (Option.some.inj h)).1
  have e2 := (Prod.mk.inj (Option.some.inj h)).2
  subst e1
  subst e2
  exact Rn.iret n110_64 mr110
def e110 (F : Nat) (a0 : Nat) (a1 : Int32) (hp : List mE) : Option (Int32 × List mE) := m110_0 F a0 a1 hp
theorem c110 {d : Nat} (hd : 0 ≤ d) (F : Nat) (a0 : Nat) (a1 : Int32) (hp : List mE) (v : Int32) (hp' : List mE) (ra0 : a0 < hp.length) (h : e110 F a0 a1 hp = some (v, hp')) : Rn d 110 0 (lv_args 0 [.ref a0, .int a1]) [] hp 0 0 (some (.int v), hp', 0, 0) :=
  t110_0 (n := hp.length) hd F a0 a1 (lv_args 0 [.ref a0, .int a1]) hp v hp' rfl rfl (lvk_args (okc (okr ra0) (okc rfl okn))) rfl ra0 h
/-! MirrorRoots.letter -/
def m111_0 (F : Nat) (v0 : Nat) (v1 : Int32) (hp : List mE) : Option (Int32 × List mE) :=
  (gfr 10 0 hp v0).bind fun x1 =>
  (rcv 3 hp x1).bind fun u3 =>
  (e36 F x1 v1 hp).bind fun q2 =>
  if mc1 .ne q2.1 = true then
    (gfi 10 7 q2.2 v0).bind fun x5 =>
    if mc2 .lt x5 20 = true then
      (gfr 10 6 q2.2 v0).bind fun x7 =>
      (gfi 10 7 q2.2 v0).bind fun x8 =>
      (wrI q2.2 x7 x8 v1).bind fun hp9 =>
      (gfi 10 7 hp9 v0).bind fun x10 =>
      (pfv 10 7 hp9 v0 (.int (x10 + 1))).bind fun hp11 =>
      (gfi 10 7 hp11 v0).bind fun x12 =>
      some (x12, hp11)
    else
      some ((-1004), q2.2)
  else
    some ((-1002), q2.2)
theorem t111_0 {d c w n : Nat} (hd : 1 ≤ d) (F : Nat) : ∀ (v0 : Nat) (v1 : Int32) (lv : List (Nat × Value)) (hp : List mE) (v : Int32) (hp' : List mE), alk 0 lv = some (.ref v0) → alk 1 lv = some (.int v1) → lvk n lv → hp.length = n → v0 < n → m111_0 F v0 v1 hp = some (v, hp') → Rn d 111 0 lv [] hp c w (some (.int v), hp', c, w) := by
  obtain ⟨d', rfl⟩ : ∃ d', d = d' + 1 := ⟨d - 1, by omega⟩
  intro v0 v1 lv hp v hp' l0 l1 ok hn r_v0 h
  unfold m111_0 at h
  refine Rn.aload_n n111_0 l0 ?_
  obtain ⟨x1, hx1, h⟩ := Option.bind_eq_some_iff.mp h
  refine Rn.gf n111_1 mo111 fl10_12 (gfr_v hx1).1 ?_
  have r_x1 : x1 < n := by rw [← hn]; exact (gfr_v hx1).2
  refine Rn.iload_n n111_4 l1 ?_
  obtain ⟨u3, hu3, h⟩ := Option.bind_eq_some_iff.mp h
  obtain ⟨q2, hq2, h⟩ := Option.bind_eq_some_iff.mp h
  have gq2 := c36 (d := d') (by omega) F _ _ _ _ _ (by rw [hn]; exact r_x1) hq2
  refine Rn.cv (As := [.int v1]) (rr := []) n111_5 mo111 mm10_114 (by decide) mq36 rfl rfl rfl rfl (by rw [mo36]; exact hu3) (Nat.le_of_ble_eq_true rfl) (by rw [hn]; exact (okc (okr r_x1) (okc rfl okn))) (by rw [hn]; exact okn) (by rw [hn]; exact ok) (by rw [ml36]; exact Nat.le_of_ble_eq_true rfl) gq2 ?_
  have hn := (Rn.len gq2).trans hn
  show Rn _ 111 8 lv [.int q2.1] q2.2 c w _
  by_cases hc4 : mc1 .ne q2.1 = true
  · rw [if_pos hc4] at h
    refine Rn.c1t (t := 15) n111_8 (by decide) hc4 ?_
    refine Rn.aload_n n111_15 l0 ?_
    obtain ⟨x5, hx5, h⟩ := Option.bind_eq_some_iff.mp h
    refine Rn.gf n111_16 mo111 fl10_59 (gfi_v hx5) ?_
    refine Rn.bp (v := 20) n111_19 (by decide) ?_
    by_cases hc6 : mc2 .lt x5 20 = true
    · rw [if_pos hc6] at h
      refine Rn.c2t (t := 28) n111_21 (by decide) hc6 ?_
      refine Rn.aload_n n111_28 l0 ?_
      obtain ⟨x7, hx7, h⟩ := Option.bind_eq_some_iff.mp h
      refine Rn.gf n111_29 mo111 fl10_55 (gfr_v hx7).1 ?_
      have r_x7 : x7 < n := by rw [← hn]; exact (gfr_v hx7).2
      refine Rn.aload_n n111_32 l0 ?_
      obtain ⟨x8, hx8, h⟩ := Option.bind_eq_some_iff.mp h
      refine Rn.gf n111_33 mo111 fl10_59 (gfi_v hx8) ?_
      refine Rn.iload_n n111_36 l1 ?_
      obtain ⟨hp9, hhp9, h⟩ := Option.bind_eq_some_iff.mp h
      refine Rn.iast n111_37 hhp9 ?_
      have hn := (wrI_st (st := []) hhp9).2.trans hn
      refine Rn.aload_n n111_38 l0 ?_
      refine Rn.p n111_39 rfl ?_
      obtain ⟨x10, hx10, h⟩ := Option.bind_eq_some_iff.mp h
      refine Rn.gf n111_40 mo111 fl10_59 (gfi_v hx10) ?_
      refine Rn.ic (v := 1) n111_43 (by decide) ?_
      refine Rn.p n111_44 rfl ?_
      obtain ⟨hp11, hhp11, h⟩ := Option.bind_eq_some_iff.mp h
      refine Rn.pf n111_45 mo111 fl10_59 ft10_7 rfl ff10_7 (fun _ _ hh => by cases hh) hhp11 ?_
      have hn := (pfv_len hhp11).trans hn
      refine Rn.aload_n n111_48 l0 ?_
      obtain ⟨x12, hx12, h⟩ := Option.bind_eq_some_iff.mp h
      refine Rn.gf n111_49 mo111 fl10_59 (gfi_v hx12) ?_
      have e1 := (Prod.mk.inj (Option.some.inj h)).1
      have e2 := (Prod.mk.inj (Option.some.inj h)).2
      subst e1
      subst e2
      exact Rn.iret n111_52 mr111
    · rw [if_neg hc6] at h
      refine Rn.c2f (t := 28) n111_21 (by decide) hc6 ?_
      refine Rn.sp (v := (-1004)) n111_24 (by decide) ?_
      have e1 := (Prod.mk.inj (Option.some.inj h)).1
      have e2 := (Prod.mk.inj (Option.some.inj h)).2
      subst e1
      subst e2
      exact Rn.iret n111_27 mr111
  · rw [if_neg hc4] at h
    refine Rn.c1f (t := 15) n111_8 (by decide) hc4 ?_
    refine Rn.sp (v := (-1002)) n111_11 (by decide) ?_
    have e1 := (Prod.mk.inj (Option.some.inj h)).1
    have e2 := (Prod.mk.inj (Option.some.inj h)).2
    subst e1
    subst e2
    exact Rn.iret n111_14 mr111
def e111 (F : Nat) (a0 : Nat) (a1 : Int32) (hp : List mE) : Option (Int32 × List mE) := m111_0 F a0 a1 hp
theorem c111 {d : Nat} (hd : 1 ≤ d) (F : Nat) (a0 : Nat) (a1 : Int32) (hp : List mE) (v : Int32) (hp' : List mE) (ra0 : a0 < hp.length) (h : e111 F a0 a1 hp = some (v, hp')) : Rn d 111 0 (lv_args 0 [.ref a0, .int a1]) [] hp 0 0 (some (.int v), hp', 0, 0) :=
  t111_0 (n := hp.length) hd F a0 a1 (lv_args 0 [.ref a0, .int a1]) hp v hp' rfl rfl (lvk_args (okc (okr ra0) (okc rfl okn))) rfl ra0 h
/-! MirrorRoots.keep -/
def m112_28 (F : Nat) (v1 : Int32) (hp : List mE) : Option (Int32 × List mE) :=
  some (v1, hp)
theorem t112_28 {d c w n : Nat} (hd : 4 ≤ d) (F : Nat) : ∀ (v1 : Int32) (lv : List (Nat × Value)) (hp : List mE) (v : Int32) (hp' : List mE), alk 1 lv = some (.int v1) → lvk n lv → hp.length = n → m112_28 F v1 hp = some (v, hp') → Rn d 112 28 lv [] hp c w (some (.int v), hp', c, w) := by
  obtain ⟨d', rfl⟩ : ∃ d', d = d' + 1 := ⟨d - 1, by omega⟩
  intro v1 lv hp v hp' l1 ok hn h
  unfold m112_28 at h
  refine Rn.iload_n n112_28 l1 ?_
  have e1 := (Prod.mk.inj (Option.some.inj h)).1
  have e2 := (Prod.mk.inj (Option.some.inj h)).2
  subst e1
  subst e2
  exact Rn.iret n112_29 mr112
def m112_0 (F : Nat) (v0 : Nat) (hp : List mE) : Option (Int32 × List mE) :=
  (gfr 10 2 hp v0).bind fun x1 =>
  (gfr 10 6 hp v0).bind fun x2 =>
  (gfi 10 7 hp v0).bind fun x3 =>
  (rcv 1 hp x1).bind fun u5 =>
  (e18 F x1 x2 x3 hp).bind fun q4 =>
  if mc2 .eq q4.1 ((-1004)) = true then
    m112_28 F q4.1 q4.2
  else
    (pfv 10 7 q4.2 v0 (.int 0)).bind fun hp7 =>
    m112_28 F q4.1 hp7
theorem t112_0 {d c w n : Nat} (hd : 4 ≤ d) (F : Nat) : ∀ (v0 : Nat) (lv : List (Nat × Value)) (hp : List mE) (v : Int32) (hp' : List mE), alk 0 lv = some (.ref v0) → lvk n lv → hp.length = n → v0 < n → m112_0 F v0 hp = some (v, hp') → Rn d 112 0 lv [] hp c w (some (.int v), hp', c, w) := by
  obtain ⟨d', rfl⟩ : ∃ d', d = d' + 1 := ⟨d - 1, by omega⟩
  intro v0 lv hp v hp' l0 ok hn r_v0 h
  unfold m112_0 at h
  refine Rn.aload_n n112_0 l0 ?_
  obtain ⟨x1, hx1, h⟩ := Option.bind_eq_some_iff.mp h
  refine Rn.gf n112_1 mo112 fl10_28 (gfr_v hx1).1 ?_
  have r_x1 : x1 < n := by rw [← hn]; exact (gfr_v hx1).2
  refine Rn.aload_n n112_4 l0 ?_
  obtain ⟨x2, hx2, h⟩ := Option.bind_eq_some_iff.mp h
  refine Rn.gf n112_5 mo112 fl10_55 (gfr_v hx2).1 ?_
  have r_x2 : x2 < n := by rw [← hn]; exact (gfr_v hx2).2
  refine Rn.aload_n n112_8 l0 ?_
  obtain ⟨x3, hx3, h⟩ := Option.bind_eq_some_iff.mp h
  refine Rn.gf n112_9 mo112 fl10_59 (gfi_v hx3) ?_
  obtain ⟨u5, hu5, h⟩ := Option.bind_eq_some_iff.mp h
  obtain ⟨q4, hq4, h⟩ := Option.bind_eq_some_iff.mp h
  have gq4 := c18 (d := d') (by omega) F _ _ _ _ _ _ (by rw [hn]; exact r_x1) (by rw [hn]; exact r_x2) hq4
  refine Rn.cv (As := [.ref x2, .int x3]) (rr := []) n112_12 mo112 mm10_126 (by decide) mq18 rfl rfl rfl rfl (by rw [mo18]; exact hu5) (Nat.le_of_ble_eq_true rfl) (by rw [hn]; exact (okc (okr r_x1) (okc (okr r_x2) (okc rfl okn)))) (by rw [hn]; exact okn) (by rw [hn]; exact ok) (by rw [ml18]; exact Nat.le_of_ble_eq_true rfl) gq4 ?_
  have hn := (Rn.len gq4).trans hn
  show Rn _ 112 15 lv [.int q4.1] q4.2 c w _
  refine Rn.isn (m := n) n112_15 rfl ml112 (by decide) (fun lv l1 hk hok => ?_)
  have l0 := hk 0 _ (by decide) (Or.inl rfl) l0
  have ok := hok ok
  refine Rn.iload_n n112_16 l1 ?_
  refine Rn.sp (v := (-1004)) n112_17 (by decide) ?_
  by_cases hc6 : mc2 .eq q4.1 ((-1004)) = true
  · rw [if_pos hc6] at h
    refine Rn.c2t (t := 28) n112_20 (by decide) hc6 ?_
    exact t112_28 hd F  _ lv _ _ _ l1 ok hn   h
  · rw [if_neg hc6] at h
    refine Rn.c2f (t := 28) n112_20 (by decide) hc6 ?_
    refine Rn.aload_n n112_23 l0 ?_
    refine Rn.ic (v := 0) n112_24 (by decide) ?_
    obtain ⟨hp7, hhp7, h⟩ := Option.bind_eq_some_iff.mp h
    refine Rn.pf n112_25 mo112 fl10_59 ft10_7 rfl ff10_7 (fun _ _ hh => by cases hh) hhp7 ?_
    have hn := (pfv_len hhp7).trans hn
    exact t112_28 hd F  _ lv _ _ _ l1 ok hn   h
def e112 (F : Nat) (a0 : Nat) (hp : List mE) : Option (Int32 × List mE) := m112_0 F a0 hp
theorem c112 {d : Nat} (hd : 4 ≤ d) (F : Nat) (a0 : Nat) (hp : List mE) (v : Int32) (hp' : List mE) (ra0 : a0 < hp.length) (h : e112 F a0 hp = some (v, hp')) : Rn d 112 0 (lv_args 0 [.ref a0]) [] hp 0 0 (some (.int v), hp', 0, 0) :=
  t112_0 (n := hp.length) hd F a0 (lv_args 0 [.ref a0]) hp v hp' rfl (lvk_args (okc (okr ra0) okn)) rfl ra0 h
/-! MirrorRoots.length -/
def m113_0 (F : Nat) (v0 : Nat) (v1 : Int32) (hp : List mE) : Option (Int32 × List mE) :=
  (gfr 10 2 hp v0).bind fun x1 =>
  (rcv 1 hp x1).bind fun u3 =>
  (e16 F x1 v1 hp).bind fun q2 =>
  if mc1 .ne q2.1 = true then
    (gfr 10 2 q2.2 v0).bind fun x5 =>
    (gfr 1 3 q2.2 x5).bind fun x6 =>
    (rdI q2.2 x6 v1).bind fun x7 =>
    some (x7, q2.2)
  else
    some ((-1001), q2.2)
theorem t113_0 {d c w n : Nat} (hd : 1 ≤ d) (F : Nat) : ∀ (v0 : Nat) (v1 : Int32) (lv : List (Nat × Value)) (hp : List mE) (v : Int32) (hp' : List mE), alk 0 lv = some (.ref v0) → alk 1 lv = some (.int v1) → lvk n lv → hp.length = n → v0 < n → m113_0 F v0 v1 hp = some (v, hp') → Rn d 113 0 lv [] hp c w (some (.int v), hp', c, w) := by
  obtain ⟨d', rfl⟩ : ∃ d', d = d' + 1 := ⟨d - 1, by omega⟩
  intro v0 v1 lv hp v hp' l0 l1 ok hn r_v0 h
  unfold m113_0 at h
  refine Rn.aload_n n113_0 l0 ?_
  obtain ⟨x1, hx1, h⟩ := Option.bind_eq_some_iff.mp h
  refine Rn.gf n113_1 mo113 fl10_28 (gfr_v hx1).1 ?_
  have r_x1 : x1 < n := by rw [← hn]; exact (gfr_v hx1).2
  refine Rn.iload_n n113_4 l1 ?_
  obtain ⟨u3, hu3, h⟩ := Option.bind_eq_some_iff.mp h
  obtain ⟨q2, hq2, h⟩ := Option.bind_eq_some_iff.mp h
  have gq2 := c16 (d := d') (by omega) F _ _ _ _ _ (by rw [hn]; exact r_x1) hq2
  refine Rn.cv (As := [.int v1]) (rr := []) n113_5 mo113 mm10_130 (by decide) mq16 rfl rfl rfl rfl (by rw [mo16]; exact hu3) (Nat.le_of_ble_eq_true rfl) (by rw [hn]; exact (okc (okr r_x1) (okc rfl okn))) (by rw [hn]; exact okn) (by rw [hn]; exact ok) (by rw [ml16]; exact Nat.le_of_ble_eq_true rfl) gq2 ?_
  have hn := (Rn.len gq2).trans hn
  show Rn _ 113 8 lv [.int q2.1] q2.2 c w _
  by_cases hc4 : mc1 .ne q2.1 = true
  · rw [if_pos hc4] at h
    refine Rn.c1t (t := 15) n113_8 (by decide) hc4 ?_
    refine Rn.aload_n n113_15 l0 ?_
    obtain ⟨x5, hx5, h⟩ := Option.bind_eq_some_iff.mp h
    refine Rn.gf n113_16 mo113 fl10_28 (gfr_v hx5).1 ?_
    have r_x5 : x5 < n := by rw [← hn]; exact (gfr_v hx5).2
    obtain ⟨x6, hx6, h⟩ := Option.bind_eq_some_iff.mp h
    refine Rn.gf n113_19 mo113 fl10_131 (gfr_v hx6).1 ?_
    have r_x6 : x6 < n := by rw [← hn]; exact (gfr_v hx6).2
    refine Rn.iload_n n113_22 l1 ?_
    obtain ⟨x7, hx7, h⟩ := Option.bind_eq_some_iff.mp h
    refine Rn.iald n113_23 hx7 ?_
    have e1 := (Prod.mk.inj (Option.some.inj h)).1
    have e2 := (Prod.mk.inj (Option.some.inj h)).2
    subst e1
    subst e2
    exact Rn.iret n113_24 mr113
  · rw [if_neg hc4] at h
    refine Rn.c1f (t := 15) n113_8 (by decide) hc4 ?_
    refine Rn.sp (v := (-1001)) n113_11 (by decide) ?_
    have e1 := (Prod.mk.inj (Option.some.inj h)).1
    have e2 := (Prod.mk.inj (Option.some.inj h)).2
    subst e1
    subst e2
    exact Rn.iret n113_14 mr113
def e113 (F : Nat) (a0 : Nat) (a1 : Int32) (hp : List mE) : Option (Int32 × List mE) := m113_0 F a0 a1 hp
theorem c113 {d : Nat} (hd : 1 ≤ d) (F : Nat) (a0 : Nat) (a1 : Int32) (hp : List mE) (v : Int32) (hp' : List mE) (ra0 : a0 < hp.length) (h : e113 F a0 a1 hp = some (v, hp')) : Rn d 113 0 (lv_args 0 [.ref a0, .int a1]) [] hp 0 0 (some (.int v), hp', 0, 0) :=
  t113_0 (n := hp.length) hd F a0 a1 (lv_args 0 [.ref a0, .int a1]) hp v hp' rfl rfl (lvk_args (okc (okr ra0) (okc rfl okn))) rfl ra0 h
/-! MirrorRoots.at -/
def m114_32 (F : Nat) (hp : List mE) : Option (Int32 × List mE) :=
  some ((-1), hp)
theorem t114_32 {d c w n : Nat} (hd : 1 ≤ d) (F : Nat) : ∀ (lv : List (Nat × Value)) (hp : List mE) (v : Int32) (hp' : List mE), lvk n lv → hp.length = n → m114_32 F hp = some (v, hp') → Rn d 114 32 lv [] hp c w (some (.int v), hp', c, w) := by
  obtain ⟨d', rfl⟩ : ∃ d', d = d' + 1 := ⟨d - 1, by omega⟩
  intro lv hp v hp' ok hn h
  unfold m114_32 at h
  refine Rn.ic (v := (-1)) n114_32 (by decide) ?_
  have e1 := (Prod.mk.inj (Option.some.inj h)).1
  have e2 := (Prod.mk.inj (Option.some.inj h)).2
  subst e1
  subst e2
  exact Rn.iret n114_33 mr114
def m114_0 (F : Nat) (v0 : Nat) (v1 : Int32) (v2 : Int32) (hp : List mE) : Option (Int32 × List mE) :=
  (gfr 10 2 hp v0).bind fun x1 =>
  (rcv 1 hp x1).bind fun u3 =>
  (e16 F x1 v1 hp).bind fun q2 =>
  if mc1 .ne q2.1 = true then
    if mc1 .lt v2 = true then
      m114_32 F q2.2
    else
      (gfr 10 2 q2.2 v0).bind fun x6 =>
      (gfr 1 3 q2.2 x6).bind fun x7 =>
      (rdI q2.2 x7 v1).bind fun x8 =>
      if mc2 .lt v2 x8 = true then
        (gfr 10 2 q2.2 v0).bind fun x10 =>
        (rcv 1 q2.2 x10).bind fun u12 =>
        (e17 F x10 v1 v2 q2.2).bind fun q11 =>
        some (q11.1, q11.2)
      else
        m114_32 F q2.2
  else
    some ((-1001), q2.2)
theorem t114_0 {d c w n : Nat} (hd : 1 ≤ d) (F : Nat) : ∀ (v0 : Nat) (v1 : Int32) (v2 : Int32) (lv : List (Nat × Value)) (hp : List mE) (v : Int32) (hp' : List mE), alk 0 lv = some (.ref v0) → alk 1 lv = some (.int v1) → alk 2 lv = some (.int v2) → lvk n lv → hp.length = n → v0 < n → m114_0 F v0 v1 v2 hp = some (v, hp') → Rn d 114 0 lv [] hp c w (some (.int v), hp', c, w) := by
  obtain ⟨d', rfl⟩ : ∃ d', d = d' + 1 := ⟨d - 1, by omega⟩
  intro v0 v1 v2 lv hp v hp' l0 l1 l2 ok hn r_v0 h
  unfold m114_0 at h
  refine Rn.aload_n n114_0 l0 ?_
  obtain ⟨x1, hx1, h⟩ := Option.bind_eq_some_iff.mp h
  refine Rn.gf n114_1 mo114 fl10_28 (gfr_v hx1).1 ?_
  have r_x1 : x1 < n := by rw [← hn]; exact (gfr_v hx1).2
  refine Rn.iload_n n114_4 l1 ?_
  obtain ⟨u3, hu3, h⟩ := Option.bind_eq_some_iff.mp h
  obtain ⟨q2, hq2, h⟩ := Option.bind_eq_some_iff.mp h
  have gq2 := c16 (d := d') (by omega) F _ _ _ _ _ (by rw [hn]; exact r_x1) hq2
  refine Rn.cv (As := [.int v1]) (rr := []) n114_5 mo114 mm10_130 (by decide) mq16 rfl rfl rfl rfl (by rw [mo16]; exact hu3) (Nat.le_of_ble_eq_true rfl) (by rw [hn]; exact (okc (okr r_x1) (okc rfl okn))) (by rw [hn]; exact okn) (by rw [hn]; exact ok) (by rw [ml16]; exact Nat.le_of_ble_eq_true rfl) gq2 ?_
  have hn := (Rn.len gq2).trans hn
  show Rn _ 114 8 lv [.int q2.1] q2.2 c w _
  by_cases hc4 : mc1 .ne q2.1 = true
  · rw [if_pos hc4] at h
    refine Rn.c1t (t := 15) n114_8 (by decide) hc4 ?_
    refine Rn.iload_n n114_15 l2 ?_
    by_cases hc5 : mc1 .lt v2 = true
    · rw [if_pos hc5] at h
      refine Rn.c1t (t := 32) n114_16 (by decide) hc5 ?_
      exact t114_32 hd F  lv _ _ _  ok hn   h
    · rw [if_neg hc5] at h
      refine Rn.c1f (t := 32) n114_16 (by decide) hc5 ?_
      refine Rn.iload_n n114_19 l2 ?_
      refine Rn.aload_n n114_20 l0 ?_
      obtain ⟨x6, hx6, h⟩ := Option.bind_eq_some_iff.mp h
      refine Rn.gf n114_21 mo114 fl10_28 (gfr_v hx6).1 ?_
      have r_x6 : x6 < n := by rw [← hn]; exact (gfr_v hx6).2
      obtain ⟨x7, hx7, h⟩ := Option.bind_eq_some_iff.mp h
      refine Rn.gf n114_24 mo114 fl10_131 (gfr_v hx7).1 ?_
      have r_x7 : x7 < n := by rw [← hn]; exact (gfr_v hx7).2
      refine Rn.iload_n n114_27 l1 ?_
      obtain ⟨x8, hx8, h⟩ := Option.bind_eq_some_iff.mp h
      refine Rn.iald n114_28 hx8 ?_
      by_cases hc9 : mc2 .lt v2 x8 = true
      · rw [if_pos hc9] at h
        refine Rn.c2t (t := 34) n114_29 (by decide) hc9 ?_
        refine Rn.aload_n n114_34 l0 ?_
        obtain ⟨x10, hx10, h⟩ := Option.bind_eq_some_iff.mp h
        refine Rn.gf n114_35 mo114 fl10_28 (gfr_v hx10).1 ?_
        have r_x10 : x10 < n := by rw [← hn]; exact (gfr_v hx10).2
        refine Rn.iload_n n114_38 l1 ?_
        refine Rn.iload_n n114_39 l2 ?_
        obtain ⟨u12, hu12, h⟩ := Option.bind_eq_some_iff.mp h
        obtain ⟨q11, hq11, h⟩ := Option.bind_eq_some_iff.mp h
        have gq11 := c17 (d := d') (by omega) F _ _ _ _ _ _ (by rw [hn]; exact r_x10) hq11
        refine Rn.cv (As := [.int v1, .int v2]) (rr := []) n114_40 mo114 mm10_134 (by decide) mq17 rfl rfl rfl rfl (by rw [mo17]; exact hu12) (Nat.le_of_ble_eq_true rfl) (by rw [hn]; exact (okc (okr r_x10) (okc rfl (okc rfl okn)))) (by rw [hn]; exact okn) (by rw [hn]; exact ok) (by rw [ml17]; exact Nat.le_of_ble_eq_true rfl) gq11 ?_
        have hn := (Rn.len gq11).trans hn
        show Rn _ 114 43 lv [.int q11.1] q11.2 c w _
        have e1 := (Prod.mk.inj (Option.some.inj h)).1
        have e2 := (Prod.mk.inj (Option.some.inj h)).2
        subst e1
        subst e2
        exact Rn.iret n114_43 mr114
      · rw [if_neg hc9] at h
        refine Rn.c2f (t := 34) n114_29 (by decide) hc9 ?_
        exact t114_32 hd F  lv _ _ _  ok hn   h
  · rw [if_neg hc4] at h
    refine Rn.c1f (t := 15) n114_8 (by decide) hc4 ?_
    refine Rn.sp (v := (-1001)) n114_11 (by decide) ?_
    have e1 := (Prod.mk.inj (Option.some.inj h)).1
    have e2 := (Prod.mk.inj (Option.some.inj h)).2
    subst e1
    subst e2
    exact Rn.iret n114_14 mr114
def e114 (F : Nat) (a0 : Nat) (a1 : Int32) (a2 : Int32) (hp : List mE) : Option (Int32 × List mE) := m114_0 F a0 a1 a2 hp
theorem c114 {d : Nat} (hd : 1 ≤ d) (F : Nat) (a0 : Nat) (a1 : Int32) (a2 : Int32) (hp : List mE) (v : Int32) (hp' : List mE) (ra0 : a0 < hp.length) (h : e114 F a0 a1 a2 hp = some (v, hp')) : Rn d 114 0 (lv_args 0 [.ref a0, .int a1, .int a2]) [] hp 0 0 (some (.int v), hp', 0, 0) :=
  t114_0 (n := hp.length) hd F a0 a1 a2 (lv_args 0 [.ref a0, .int a1, .int a2]) hp v hp' rfl rfl rfl (lvk_args (okc (okr ra0) (okc rfl (okc rfl okn)))) rfl ra0 h
/-! MirrorRoots.down -/
def m115_53 (F : Nat) (v1 : Int32) (t0 : Nat) (t1 : Nat) (hp : List mE) : Option (Int32 × List mE) :=
  (rcv 3 hp t0).bind fun u2 =>
  (e44 F t0 t1 (v1 * 5) hp).bind fun q1 =>
  some (q1.1, q1.2)
theorem t115_53 {d c w n : Nat} (hd : 1 ≤ d) (F : Nat) : ∀ (v1 : Int32) (t0 : Nat) (t1 : Nat) (lv : List (Nat × Value)) (hp : List mE) (v : Int32) (hp' : List mE), alk 1 lv = some (.int v1) → lvk n lv → hp.length = n → t0 < n → t1 < n → m115_53 F v1 t0 t1 hp = some (v, hp') → Rn d 115 53 lv [.ref t1, .ref t0] hp c w (some (.int v), hp', c, w) := by
  obtain ⟨d', rfl⟩ : ∃ d', d = d' + 1 := ⟨d - 1, by omega⟩
  intro v1 t0 t1 lv hp v hp' l1 ok hn r_t0 r_t1 h
  unfold m115_53 at h
  refine Rn.iload_n n115_53 l1 ?_
  refine Rn.ic (v := 5) n115_54 (by decide) ?_
  refine Rn.p n115_55 rfl ?_
  obtain ⟨u2, hu2, h⟩ := Option.bind_eq_some_iff.mp h
  obtain ⟨q1, hq1, h⟩ := Option.bind_eq_some_iff.mp h
  have gq1 := c44 (d := d') (by omega) F _ _ _ _ _ _ (by rw [hn]; exact r_t0) (by rw [hn]; exact r_t1) hq1
  refine Rn.cv (As := [.ref t1, .int (v1 * 5)]) (rr := []) n115_56 mo115 mm10_145 (by decide) mq44 rfl rfl rfl rfl (by rw [mo44]; exact hu2) (Nat.le_of_ble_eq_true rfl) (by rw [hn]; exact (okc (okr r_t0) (okc (okr r_t1) (okc rfl okn)))) (by rw [hn]; exact okn) (by rw [hn]; exact ok) (by rw [ml44]; exact Nat.le_of_ble_eq_true rfl) gq1 ?_
  have hn := (Rn.len gq1).trans hn
  show Rn _ 115 59 lv [.int q1.1] q1.2 c w _
  have e1 := (Prod.mk.inj (Option.some.inj h)).1
  have e2 := (Prod.mk.inj (Option.some.inj h)).2
  subst e1
  subst e2
  exact Rn.iret n115_59 mr115
def m115_24 (F : Nat) (hp : List mE) : Option (Int32 × List mE) :=
  some ((-1002), hp)
theorem t115_24 {d c w n : Nat} (hd : 1 ≤ d) (F : Nat) : ∀ (lv : List (Nat × Value)) (hp : List mE) (v : Int32) (hp' : List mE), lvk n lv → hp.length = n → m115_24 F hp = some (v, hp') → Rn d 115 24 lv [] hp c w (some (.int v), hp', c, w) := by
  obtain ⟨d', rfl⟩ : ∃ d', d = d' + 1 := ⟨d - 1, by omega⟩
  intro lv hp v hp' ok hn h
  unfold m115_24 at h
  refine Rn.sp (v := (-1002)) n115_24 (by decide) ?_
  have e1 := (Prod.mk.inj (Option.some.inj h)).1
  have e2 := (Prod.mk.inj (Option.some.inj h)).2
  subst e1
  subst e2
  exact Rn.iret n115_27 mr115
def m115_0 (F : Nat) (v0 : Nat) (v1 : Int32) (v2 : Int32) (hp : List mE) : Option (Int32 × List mE) :=
  (gfr 10 2 hp v0).bind fun x1 =>
  (rcv 1 hp x1).bind fun u3 =>
  (e16 F x1 v1 hp).bind fun q2 =>
  if mc1 .ne q2.1 = true then
    if mc1 .lt v2 = true then
      m115_24 F q2.2
    else
      if mc2 .le v2 1 = true then
        (gfr 10 0 q2.2 v0).bind fun x7 =>
        if mc1 .ne v2 = true then
          (gfr 10 2 q2.2 v0).bind fun x9 =>
          (gfr 1 5 q2.2 x9).bind fun x10 =>
          m115_53 F v1 x7 x10 q2.2
        else
          (gfr 10 2 q2.2 v0).bind fun x11 =>
          (gfr 1 4 q2.2 x11).bind fun x12 =>
          m115_53 F v1 x7 x12 q2.2
      else
        m115_24 F q2.2
  else
    some ((-1001), q2.2)
theorem t115_0 {d c w n : Nat} (hd : 1 ≤ d) (F : Nat) : ∀ (v0 : Nat) (v1 : Int32) (v2 : Int32) (lv : List (Nat × Value)) (hp : List mE) (v : Int32) (hp' : List mE), alk 0 lv = some (.ref v0) → alk 1 lv = some (.int v1) → alk 2 lv = some (.int v2) → lvk n lv → hp.length = n → v0 < n → m115_0 F v0 v1 v2 hp = some (v, hp') → Rn d 115 0 lv [] hp c w (some (.int v), hp', c, w) := by
  obtain ⟨d', rfl⟩ : ∃ d', d = d' + 1 := ⟨d - 1, by omega⟩
  intro v0 v1 v2 lv hp v hp' l0 l1 l2 ok hn r_v0 h
  unfold m115_0 at h
  refine Rn.aload_n n115_0 l0 ?_
  obtain ⟨x1, hx1, h⟩ := Option.bind_eq_some_iff.mp h
  refine Rn.gf n115_1 mo115 fl10_28 (gfr_v hx1).1 ?_
  have r_x1 : x1 < n := by rw [← hn]; exact (gfr_v hx1).2
  refine Rn.iload_n n115_4 l1 ?_
  obtain ⟨u3, hu3, h⟩ := Option.bind_eq_some_iff.mp h
  obtain ⟨q2, hq2, h⟩ := Option.bind_eq_some_iff.mp h
  have gq2 := c16 (d := d') (by omega) F _ _ _ _ _ (by rw [hn]; exact r_x1) hq2
  refine Rn.cv (As := [.int v1]) (rr := []) n115_5 mo115 mm10_130 (by decide) mq16 rfl rfl rfl rfl (by rw [mo16]; exact hu3) (Nat.le_of_ble_eq_true rfl) (by rw [hn]; exact (okc (okr r_x1) (okc rfl okn))) (by rw [hn]; exact okn) (by rw [hn]; exact ok) (by rw [ml16]; exact Nat.le_of_ble_eq_true rfl) gq2 ?_
  have hn := (Rn.len gq2).trans hn
  show Rn _ 115 8 lv [.int q2.1] q2.2 c w _
  by_cases hc4 : mc1 .ne q2.1 = true
  · rw [if_pos hc4] at h
    refine Rn.c1t (t := 15) n115_8 (by decide) hc4 ?_
    refine Rn.iload_n n115_15 l2 ?_
    by_cases hc5 : mc1 .lt v2 = true
    · rw [if_pos hc5] at h
      refine Rn.c1t (t := 24) n115_16 (by decide) hc5 ?_
      exact t115_24 hd F  lv _ _ _  ok hn   h
    · rw [if_neg hc5] at h
      refine Rn.c1f (t := 24) n115_16 (by decide) hc5 ?_
      refine Rn.iload_n n115_19 l2 ?_
      refine Rn.ic (v := 1) n115_20 (by decide) ?_
      by_cases hc6 : mc2 .le v2 1 = true
      · rw [if_pos hc6] at h
        refine Rn.c2t (t := 28) n115_21 (by decide) hc6 ?_
        refine Rn.aload_n n115_28 l0 ?_
        obtain ⟨x7, hx7, h⟩ := Option.bind_eq_some_iff.mp h
        refine Rn.gf n115_29 mo115 fl10_12 (gfr_v hx7).1 ?_
        have r_x7 : x7 < n := by rw [← hn]; exact (gfr_v hx7).2
        refine Rn.iload_n n115_32 l2 ?_
        by_cases hc8 : mc1 .ne v2 = true
        · rw [if_pos hc8] at h
          refine Rn.c1t (t := 46) n115_33 (by decide) hc8 ?_
          refine Rn.aload_n n115_46 l0 ?_
          obtain ⟨x9, hx9, h⟩ := Option.bind_eq_some_iff.mp h
          refine Rn.gf n115_47 mo115 fl10_28 (gfr_v hx9).1 ?_
          have r_x9 : x9 < n := by rw [← hn]; exact (gfr_v hx9).2
          obtain ⟨x10, hx10, h⟩ := Option.bind_eq_some_iff.mp h
          refine Rn.gf n115_50 mo115 fl10_142 (gfr_v hx10).1 ?_
          have r_x10 : x10 < n := by rw [← hn]; exact (gfr_v hx10).2
          exact t115_53 hd F  _ _ _ lv _ _ _ l1 ok hn  r_x7 r_x10 h
        · rw [if_neg hc8] at h
          refine Rn.c1f (t := 46) n115_33 (by decide) hc8 ?_
          refine Rn.aload_n n115_36 l0 ?_
          obtain ⟨x11, hx11, h⟩ := Option.bind_eq_some_iff.mp h
          refine Rn.gf n115_37 mo115 fl10_28 (gfr_v hx11).1 ?_
          have r_x11 : x11 < n := by rw [← hn]; exact (gfr_v hx11).2
          obtain ⟨x12, hx12, h⟩ := Option.bind_eq_some_iff.mp h
          refine Rn.gf n115_40 mo115 fl10_138 (gfr_v hx12).1 ?_
          have r_x12 : x12 < n := by rw [← hn]; exact (gfr_v hx12).2
          refine Rn.goto (t := 53) n115_43 (by decide) ?_
          exact t115_53 hd F  _ _ _ lv _ _ _ l1 ok hn  r_x7 r_x12 h
      · rw [if_neg hc6] at h
        refine Rn.c2f (t := 28) n115_21 (by decide) hc6 ?_
        exact t115_24 hd F  lv _ _ _  ok hn   h
  · rw [if_neg hc4] at h
    refine Rn.c1f (t := 15) n115_8 (by decide) hc4 ?_
    refine Rn.sp (v := (-1001)) n115_11 (by decide) ?_
    have e1 := (Prod.mk.inj (Option.some.inj h)).1
    have e2 := (Prod.mk.inj (Option.some.inj h)).2
    subst e1
    subst e2
    exact Rn.iret n115_14 mr115
def e115 (F : Nat) (a0 : Nat) (a1 : Int32) (a2 : Int32) (hp : List mE) : Option (Int32 × List mE) := m115_0 F a0 a1 a2 hp
theorem c115 {d : Nat} (hd : 1 ≤ d) (F : Nat) (a0 : Nat) (a1 : Int32) (a2 : Int32) (hp : List mE) (v : Int32) (hp' : List mE) (ra0 : a0 < hp.length) (h : e115 F a0 a1 a2 hp = some (v, hp')) : Rn d 115 0 (lv_args 0 [.ref a0, .int a1, .int a2]) [] hp 0 0 (some (.int v), hp', 0, 0) :=
  t115_0 (n := hp.length) hd F a0 a1 a2 (lv_args 0 [.ref a0, .int a1, .int a2]) hp v hp' rfl rfl rfl (lvk_args (okc (okr ra0) (okc rfl (okc rfl okn)))) rfl ra0 h
/-! MirrorRoots.root -/
def m116_37 (F : Nat) (hp : List mE) : Option (Int64 × List mE) :=
  some ((-1002), hp)
theorem t116_37 {d c w n : Nat} (hd : 3 ≤ d) (F : Nat) : ∀ (lv : List (Nat × Value)) (hp : List mE) (v : Int64) (hp' : List mE), lvk n lv → hp.length = n → m116_37 F hp = some (v, hp') → Rn d 116 37 lv [] hp c w (some (.long v), hp', c, w) := by
  obtain ⟨d', rfl⟩ : ∃ d', d = d' + 1 := ⟨d - 1, by omega⟩
  intro lv hp v hp' ok hn h
  unfold m116_37 at h
  refine Rn.ldc2 n116_37 mo116 cL10_151 ?_
  have e1 := (Prod.mk.inj (Option.some.inj h)).1
  have e2 := (Prod.mk.inj (Option.some.inj h)).2
  subst e1
  subst e2
  exact Rn.lret n116_40 mr116
def m116_0 (F : Nat) (v0 : Nat) (v1 : Int32) (v2 : Int32) (v3 : Int32) (hp : List mE) : Option (Int64 × List mE) :=
  (gfr 10 2 hp v0).bind fun x1 =>
  (rcv 1 hp x1).bind fun u3 =>
  (e16 F x1 v1 hp).bind fun q2 =>
  if mc1 .ne q2.1 = true then
    (gfr 10 0 q2.2 v0).bind fun x5 =>
    (rcv 3 q2.2 x5).bind fun u7 =>
    (e36 F x5 v2 q2.2).bind fun q6 =>
    if mc1 .eq q6.1 = true then
      m116_37 F q6.2
    else
      (gfr 10 0 q6.2 v0).bind fun x9 =>
      (rcv 3 q6.2 x9).bind fun u11 =>
      (e36 F x9 v3 q6.2).bind fun q10 =>
      if mc1 .ne q10.1 = true then
        (gfr 10 4 q10.2 v0).bind fun x13 =>
        (rcv 5 q10.2 x13).bind fun u15 =>
        (e53 F x13 v1 v2 v3 q10.2).bind fun q14 =>
        some (q14.1, q14.2)
      else
        m116_37 F q10.2
  else
    some ((-1001), q2.2)
theorem t116_0 {d c w n : Nat} (hd : 3 ≤ d) (F : Nat) : ∀ (v0 : Nat) (v1 : Int32) (v2 : Int32) (v3 : Int32) (lv : List (Nat × Value)) (hp : List mE) (v : Int64) (hp' : List mE), alk 0 lv = some (.ref v0) → alk 1 lv = some (.int v1) → alk 2 lv = some (.int v2) → alk 3 lv = some (.int v3) → lvk n lv → hp.length = n → v0 < n → m116_0 F v0 v1 v2 v3 hp = some (v, hp') → Rn d 116 0 lv [] hp c w (some (.long v), hp', c, w) := by
  obtain ⟨d', rfl⟩ : ∃ d', d = d' + 1 := ⟨d - 1, by omega⟩
  intro v0 v1 v2 v3 lv hp v hp' l0 l1 l2 l3 ok hn r_v0 h
  unfold m116_0 at h
  refine Rn.aload_n n116_0 l0 ?_
  obtain ⟨x1, hx1, h⟩ := Option.bind_eq_some_iff.mp h
  refine Rn.gf n116_1 mo116 fl10_28 (gfr_v hx1).1 ?_
  have r_x1 : x1 < n := by rw [← hn]; exact (gfr_v hx1).2
  refine Rn.iload_n n116_4 l1 ?_
  obtain ⟨u3, hu3, h⟩ := Option.bind_eq_some_iff.mp h
  obtain ⟨q2, hq2, h⟩ := Option.bind_eq_some_iff.mp h
  have gq2 := c16 (d := d') (by omega) F _ _ _ _ _ (by rw [hn]; exact r_x1) hq2
  refine Rn.cv (As := [.int v1]) (rr := []) n116_5 mo116 mm10_130 (by decide) mq16 rfl rfl rfl rfl (by rw [mo16]; exact hu3) (Nat.le_of_ble_eq_true rfl) (by rw [hn]; exact (okc (okr r_x1) (okc rfl okn))) (by rw [hn]; exact okn) (by rw [hn]; exact ok) (by rw [ml16]; exact Nat.le_of_ble_eq_true rfl) gq2 ?_
  have hn := (Rn.len gq2).trans hn
  show Rn _ 116 8 lv [.int q2.1] q2.2 c w _
  by_cases hc4 : mc1 .ne q2.1 = true
  · rw [if_pos hc4] at h
    refine Rn.c1t (t := 15) n116_8 (by decide) hc4 ?_
    refine Rn.aload_n n116_15 l0 ?_
    obtain ⟨x5, hx5, h⟩ := Option.bind_eq_some_iff.mp h
    refine Rn.gf n116_16 mo116 fl10_12 (gfr_v hx5).1 ?_
    have r_x5 : x5 < n := by rw [← hn]; exact (gfr_v hx5).2
    refine Rn.iload_n n116_19 l2 ?_
    obtain ⟨u7, hu7, h⟩ := Option.bind_eq_some_iff.mp h
    obtain ⟨q6, hq6, h⟩ := Option.bind_eq_some_iff.mp h
    have gq6 := c36 (d := d') (by omega) F _ _ _ _ _ (by rw [hn]; exact r_x5) hq6
    refine Rn.cv (As := [.int v2]) (rr := []) n116_20 mo116 mm10_114 (by decide) mq36 rfl rfl rfl rfl (by rw [mo36]; exact hu7) (Nat.le_of_ble_eq_true rfl) (by rw [hn]; exact (okc (okr r_x5) (okc rfl okn))) (by rw [hn]; exact okn) (by rw [hn]; exact ok) (by rw [ml36]; exact Nat.le_of_ble_eq_true rfl) gq6 ?_
    have hn := (Rn.len gq6).trans hn
    show Rn _ 116 23 lv [.int q6.1] q6.2 c w _
    by_cases hc8 : mc1 .eq q6.1 = true
    · rw [if_pos hc8] at h
      refine Rn.c1t (t := 37) n116_23 (by decide) hc8 ?_
      exact t116_37 hd F  lv _ _ _  ok hn   h
    · rw [if_neg hc8] at h
      refine Rn.c1f (t := 37) n116_23 (by decide) hc8 ?_
      refine Rn.aload_n n116_26 l0 ?_
      obtain ⟨x9, hx9, h⟩ := Option.bind_eq_some_iff.mp h
      refine Rn.gf n116_27 mo116 fl10_12 (gfr_v hx9).1 ?_
      have r_x9 : x9 < n := by rw [← hn]; exact (gfr_v hx9).2
      refine Rn.iload_n n116_30 l3 ?_
      obtain ⟨u11, hu11, h⟩ := Option.bind_eq_some_iff.mp h
      obtain ⟨q10, hq10, h⟩ := Option.bind_eq_some_iff.mp h
      have gq10 := c36 (d := d') (by omega) F _ _ _ _ _ (by rw [hn]; exact r_x9) hq10
      refine Rn.cv (As := [.int v3]) (rr := []) n116_31 mo116 mm10_114 (by decide) mq36 rfl rfl rfl rfl (by rw [mo36]; exact hu11) (Nat.le_of_ble_eq_true rfl) (by rw [hn]; exact (okc (okr r_x9) (okc rfl okn))) (by rw [hn]; exact okn) (by rw [hn]; exact ok) (by rw [ml36]; exact Nat.le_of_ble_eq_true rfl) gq10 ?_
      have hn := (Rn.len gq10).trans hn
      show Rn _ 116 34 lv [.int q10.1] q10.2 c w _
      by_cases hc12 : mc1 .ne q10.1 = true
      · rw [if_pos hc12] at h
        refine Rn.c1t (t := 41) n116_34 (by decide) hc12 ?_
        refine Rn.aload_n n116_41 l0 ?_
        obtain ⟨x13, hx13, h⟩ := Option.bind_eq_some_iff.mp h
        refine Rn.gf n116_42 mo116 fl10_44 (gfr_v hx13).1 ?_
        have r_x13 : x13 < n := by rw [← hn]; exact (gfr_v hx13).2
        refine Rn.iload_n n116_45 l1 ?_
        refine Rn.iload_n n116_46 l2 ?_
        refine Rn.iload_n n116_47 l3 ?_
        obtain ⟨u15, hu15, h⟩ := Option.bind_eq_some_iff.mp h
        obtain ⟨q14, hq14, h⟩ := Option.bind_eq_some_iff.mp h
        have gq14 := c53 (d := d') (by omega) F _ _ _ _ _ _ _ (by rw [hn]; exact r_x13) hq14
        refine Rn.cv (As := [.int v1, .int v2, .int v3]) (rr := []) n116_48 mo116 mm10_153 (by decide) mq53 rfl rfl rfl rfl (by rw [mo53]; exact hu15) (Nat.le_of_ble_eq_true rfl) (by rw [hn]; exact (okc (okr r_x13) (okc rfl (okc rfl (okc rfl okn))))) (by rw [hn]; exact okn) (by rw [hn]; exact ok) (by rw [ml53]; exact Nat.le_of_ble_eq_true rfl) gq14 ?_
        have hn := (Rn.len gq14).trans hn
        show Rn _ 116 51 lv [.long q14.1] q14.2 c w _
        have e1 := (Prod.mk.inj (Option.some.inj h)).1
        have e2 := (Prod.mk.inj (Option.some.inj h)).2
        subst e1
        subst e2
        exact Rn.lret n116_51 mr116
      · rw [if_neg hc12] at h
        refine Rn.c1f (t := 41) n116_34 (by decide) hc12 ?_
        exact t116_37 hd F  lv _ _ _  ok hn   h
  · rw [if_neg hc4] at h
    refine Rn.c1f (t := 15) n116_8 (by decide) hc4 ?_
    refine Rn.ldc2 n116_11 mo116 cL10_149 ?_
    have e1 := (Prod.mk.inj (Option.some.inj h)).1
    have e2 := (Prod.mk.inj (Option.some.inj h)).2
    subst e1
    subst e2
    exact Rn.lret n116_14 mr116
def e116 (F : Nat) (a0 : Nat) (a1 : Int32) (a2 : Int32) (a3 : Int32) (hp : List mE) : Option (Int64 × List mE) := m116_0 F a0 a1 a2 a3 hp
theorem c116 {d : Nat} (hd : 3 ≤ d) (F : Nat) (a0 : Nat) (a1 : Int32) (a2 : Int32) (a3 : Int32) (hp : List mE) (v : Int64) (hp' : List mE) (ra0 : a0 < hp.length) (h : e116 F a0 a1 a2 a3 hp = some (v, hp')) : Rn d 116 0 (lv_args 0 [.ref a0, .int a1, .int a2, .int a3]) [] hp 0 0 (some (.long v), hp', 0, 0) :=
  t116_0 (n := hp.length) hd F a0 a1 a2 a3 (lv_args 0 [.ref a0, .int a1, .int a2, .int a3]) hp v hp' rfl rfl rfl rfl (lvk_args (okc (okr ra0) (okc rfl (okc rfl (okc rfl okn))))) rfl ra0 h
/-! MirrorRoots.times -/
def m117_22 (F : Nat) (hp : List mE) : Option (Int32 × List mE) :=
  some ((-1001), hp)
theorem t117_22 {d c w n : Nat} (hd : 7 ≤ d) (F : Nat) : ∀ (lv : List (Nat × Value)) (hp : List mE) (v : Int32) (hp' : List mE), lvk n lv → hp.length = n → m117_22 F hp = some (v, hp') → Rn d 117 22 lv [] hp c w (some (.int v), hp', c, w) := by
  obtain ⟨d', rfl⟩ : ∃ d', d = d' + 1 := ⟨d - 1, by omega⟩
  intro lv hp v hp' ok hn h
  unfold m117_22 at h
  refine Rn.sp (v := (-1001)) n117_22 (by decide) ?_
  have e1 := (Prod.mk.inj (Option.some.inj h)).1
  have e2 := (Prod.mk.inj (Option.some.inj h)).2
  subst e1
  subst e2
  exact Rn.iret n117_25 mr117
def m117_0 (F : Nat) (v0 : Nat) (v1 : Int32) (v2 : Int32) (hp : List mE) : Option (Int32 × List mE) :=
  (gfr 10 2 hp v0).bind fun x1 =>
  (rcv 1 hp x1).bind fun u3 =>
  (e16 F x1 v1 hp).bind fun q2 =>
  if mc1 .eq q2.1 = true then
    m117_22 F q2.2
  else
    (gfr 10 2 q2.2 v0).bind fun x5 =>
    (rcv 1 q2.2 x5).bind fun u7 =>
    (e16 F x5 v2 q2.2).bind fun q6 =>
    if mc1 .ne q6.1 = true then
      (gfr 10 3 q6.2 v0).bind fun x9 =>
      (rcv 9 q6.2 x9).bind fun u11 =>
      (e91 F x9 v1 v2 q6.2).bind fun q10 =>
      some (q10.1, q10.2)
    else
      m117_22 F q6.2
theorem t117_0 {d c w n : Nat} (hd : 7 ≤ d) (F : Nat) : ∀ (v0 : Nat) (v1 : Int32) (v2 : Int32) (lv : List (Nat × Value)) (hp : List mE) (v : Int32) (hp' : List mE), alk 0 lv = some (.ref v0) → alk 1 lv = some (.int v1) → alk 2 lv = some (.int v2) → lvk n lv → hp.length = n → v0 < n → m117_0 F v0 v1 v2 hp = some (v, hp') → Rn d 117 0 lv [] hp c w (some (.int v), hp', c, w) := by
  obtain ⟨d', rfl⟩ : ∃ d', d = d' + 1 := ⟨d - 1, by omega⟩
  intro v0 v1 v2 lv hp v hp' l0 l1 l2 ok hn r_v0 h
  unfold m117_0 at h
  refine Rn.aload_n n117_0 l0 ?_
  obtain ⟨x1, hx1, h⟩ := Option.bind_eq_some_iff.mp h
  refine Rn.gf n117_1 mo117 fl10_28 (gfr_v hx1).1 ?_
  have r_x1 : x1 < n := by rw [← hn]; exact (gfr_v hx1).2
  refine Rn.iload_n n117_4 l1 ?_
  obtain ⟨u3, hu3, h⟩ := Option.bind_eq_some_iff.mp h
  obtain ⟨q2, hq2, h⟩ := Option.bind_eq_some_iff.mp h
  have gq2 := c16 (d := d') (by omega) F _ _ _ _ _ (by rw [hn]; exact r_x1) hq2
  refine Rn.cv (As := [.int v1]) (rr := []) n117_5 mo117 mm10_130 (by decide) mq16 rfl rfl rfl rfl (by rw [mo16]; exact hu3) (Nat.le_of_ble_eq_true rfl) (by rw [hn]; exact (okc (okr r_x1) (okc rfl okn))) (by rw [hn]; exact okn) (by rw [hn]; exact ok) (by rw [ml16]; exact Nat.le_of_ble_eq_true rfl) gq2 ?_
  have hn := (Rn.len gq2).trans hn
  show Rn _ 117 8 lv [.int q2.1] q2.2 c w _
  by_cases hc4 : mc1 .eq q2.1 = true
  · rw [if_pos hc4] at h
    refine Rn.c1t (t := 22) n117_8 (by decide) hc4 ?_
    exact t117_22 hd F  lv _ _ _  ok hn   h
  · rw [if_neg hc4] at h
    refine Rn.c1f (t := 22) n117_8 (by decide) hc4 ?_
    refine Rn.aload_n n117_11 l0 ?_
    obtain ⟨x5, hx5, h⟩ := Option.bind_eq_some_iff.mp h
    refine Rn.gf n117_12 mo117 fl10_28 (gfr_v hx5).1 ?_
    have r_x5 : x5 < n := by rw [← hn]; exact (gfr_v hx5).2
    refine Rn.iload_n n117_15 l2 ?_
    obtain ⟨u7, hu7, h⟩ := Option.bind_eq_some_iff.mp h
    obtain ⟨q6, hq6, h⟩ := Option.bind_eq_some_iff.mp h
    have gq6 := c16 (d := d') (by omega) F _ _ _ _ _ (by rw [hn]; exact r_x5) hq6
    refine Rn.cv (As := [.int v2]) (rr := []) n117_16 mo117 mm10_130 (by decide) mq16 rfl rfl rfl rfl (by rw [mo16]; exact hu7) (Nat.le_of_ble_eq_true rfl) (by rw [hn]; exact (okc (okr r_x5) (okc rfl okn))) (by rw [hn]; exact okn) (by rw [hn]; exact ok) (by rw [ml16]; exact Nat.le_of_ble_eq_true rfl) gq6 ?_
    have hn := (Rn.len gq6).trans hn
    show Rn _ 117 19 lv [.int q6.1] q6.2 c w _
    by_cases hc8 : mc1 .ne q6.1 = true
    · rw [if_pos hc8] at h
      refine Rn.c1t (t := 26) n117_19 (by decide) hc8 ?_
      refine Rn.aload_n n117_26 l0 ?_
      obtain ⟨x9, hx9, h⟩ := Option.bind_eq_some_iff.mp h
      refine Rn.gf n117_27 mo117 fl10_37 (gfr_v hx9).1 ?_
      have r_x9 : x9 < n := by rw [← hn]; exact (gfr_v hx9).2
      refine Rn.iload_n n117_30 l1 ?_
      refine Rn.iload_n n117_31 l2 ?_
      obtain ⟨u11, hu11, h⟩ := Option.bind_eq_some_iff.mp h
      obtain ⟨q10, hq10, h⟩ := Option.bind_eq_some_iff.mp h
      have gq10 := c91 (d := d') (by omega) F _ _ _ _ _ _ (by rw [hn]; exact r_x9) hq10
      refine Rn.cv (As := [.int v1, .int v2]) (rr := []) n117_32 mo117 mm10_157 (by decide) mq91 rfl rfl rfl rfl (by rw [mo91]; exact hu11) (Nat.le_of_ble_eq_true rfl) (by rw [hn]; exact (okc (okr r_x9) (okc rfl (okc rfl okn)))) (by rw [hn]; exact okn) (by rw [hn]; exact ok) (by rw [ml91]; exact Nat.le_of_ble_eq_true rfl) gq10 ?_
      have hn := (Rn.len gq10).trans hn
      show Rn _ 117 35 lv [.int q10.1] q10.2 c w _
      have e1 := (Prod.mk.inj (Option.some.inj h)).1
      have e2 := (Prod.mk.inj (Option.some.inj h)).2
      subst e1
      subst e2
      exact Rn.iret n117_35 mr117
    · rw [if_neg hc8] at h
      refine Rn.c1f (t := 26) n117_19 (by decide) hc8 ?_
      exact t117_22 hd F  lv _ _ _  ok hn   h
def e117 (F : Nat) (a0 : Nat) (a1 : Int32) (a2 : Int32) (hp : List mE) : Option (Int32 × List mE) := m117_0 F a0 a1 a2 hp
theorem c117 {d : Nat} (hd : 7 ≤ d) (F : Nat) (a0 : Nat) (a1 : Int32) (a2 : Int32) (hp : List mE) (v : Int32) (hp' : List mE) (ra0 : a0 < hp.length) (h : e117 F a0 a1 a2 hp = some (v, hp')) : Rn d 117 0 (lv_args 0 [.ref a0, .int a1, .int a2]) [] hp 0 0 (some (.int v), hp', 0, 0) :=
  t117_0 (n := hp.length) hd F a0 a1 a2 (lv_args 0 [.ref a0, .int a1, .int a2]) hp v hp' rfl rfl rfl (lvk_args (okc (okr ra0) (okc rfl (okc rfl okn)))) rfl ra0 h
/-! MirrorRoots.back -/
def m118_0 (F : Nat) (v0 : Nat) (v1 : Int32) (hp : List mE) : Option (Int32 × List mE) :=
  (gfr 10 2 hp v0).bind fun x1 =>
  (rcv 1 hp x1).bind fun u3 =>
  (e16 F x1 v1 hp).bind fun q2 =>
  if mc1 .ne q2.1 = true then
    (gfr 10 3 q2.2 v0).bind fun x5 =>
    (rcv 9 q2.2 x5).bind fun u7 =>
    (e92 F x5 v1 q2.2).bind fun q6 =>
    some (q6.1, q6.2)
  else
    some ((-1001), q2.2)
theorem t118_0 {d c w n : Nat} (hd : 6 ≤ d) (F : Nat) : ∀ (v0 : Nat) (v1 : Int32) (lv : List (Nat × Value)) (hp : List mE) (v : Int32) (hp' : List mE), alk 0 lv = some (.ref v0) → alk 1 lv = some (.int v1) → lvk n lv → hp.length = n → v0 < n → m118_0 F v0 v1 hp = some (v, hp') → Rn d 118 0 lv [] hp c w (some (.int v), hp', c, w) := by
  obtain ⟨d', rfl⟩ : ∃ d', d = d' + 1 := ⟨d - 1, by omega⟩
  intro v0 v1 lv hp v hp' l0 l1 ok hn r_v0 h
  unfold m118_0 at h
  refine Rn.aload_n n118_0 l0 ?_
  obtain ⟨x1, hx1, h⟩ := Option.bind_eq_some_iff.mp h
  refine Rn.gf n118_1 mo118 fl10_28 (gfr_v hx1).1 ?_
  have r_x1 : x1 < n := by rw [← hn]; exact (gfr_v hx1).2
  refine Rn.iload_n n118_4 l1 ?_
  obtain ⟨u3, hu3, h⟩ := Option.bind_eq_some_iff.mp h
  obtain ⟨q2, hq2, h⟩ := Option.bind_eq_some_iff.mp h
  have gq2 := c16 (d := d') (by omega) F _ _ _ _ _ (by rw [hn]; exact r_x1) hq2
  refine Rn.cv (As := [.int v1]) (rr := []) n118_5 mo118 mm10_130 (by decide) mq16 rfl rfl rfl rfl (by rw [mo16]; exact hu3) (Nat.le_of_ble_eq_true rfl) (by rw [hn]; exact (okc (okr r_x1) (okc rfl okn))) (by rw [hn]; exact okn) (by rw [hn]; exact ok) (by rw [ml16]; exact Nat.le_of_ble_eq_true rfl) gq2 ?_
  have hn := (Rn.len gq2).trans hn
  show Rn _ 118 8 lv [.int q2.1] q2.2 c w _
  by_cases hc4 : mc1 .ne q2.1 = true
  · rw [if_pos hc4] at h
    refine Rn.c1t (t := 15) n118_8 (by decide) hc4 ?_
    refine Rn.aload_n n118_15 l0 ?_
    obtain ⟨x5, hx5, h⟩ := Option.bind_eq_some_iff.mp h
    refine Rn.gf n118_16 mo118 fl10_37 (gfr_v hx5).1 ?_
    have r_x5 : x5 < n := by rw [← hn]; exact (gfr_v hx5).2
    refine Rn.iload_n n118_19 l1 ?_
    obtain ⟨u7, hu7, h⟩ := Option.bind_eq_some_iff.mp h
    obtain ⟨q6, hq6, h⟩ := Option.bind_eq_some_iff.mp h
    have gq6 := c92 (d := d') (by omega) F _ _ _ _ _ (by rw [hn]; exact r_x5) hq6
    refine Rn.cv (As := [.int v1]) (rr := []) n118_20 mo118 mm10_160 (by decide) mq92 rfl rfl rfl rfl (by rw [mo92]; exact hu7) (Nat.le_of_ble_eq_true rfl) (by rw [hn]; exact (okc (okr r_x5) (okc rfl okn))) (by rw [hn]; exact okn) (by rw [hn]; exact ok) (by rw [ml92]; exact Nat.le_of_ble_eq_true rfl) gq6 ?_
    have hn := (Rn.len gq6).trans hn
    show Rn _ 118 23 lv [.int q6.1] q6.2 c w _
    have e1 := (Prod.mk.inj (Option.some.inj h)).1
    have e2 := (Prod.mk.inj (Option.some.inj h)).2
    subst e1
    subst e2
    exact Rn.iret n118_23 mr118
  · rw [if_neg hc4] at h
    refine Rn.c1f (t := 15) n118_8 (by decide) hc4 ?_
    refine Rn.sp (v := (-1001)) n118_11 (by decide) ?_
    have e1 := (Prod.mk.inj (Option.some.inj h)).1
    have e2 := (Prod.mk.inj (Option.some.inj h)).2
    subst e1
    subst e2
    exact Rn.iret n118_14 mr118
def e118 (F : Nat) (a0 : Nat) (a1 : Int32) (hp : List mE) : Option (Int32 × List mE) := m118_0 F a0 a1 hp
theorem c118 {d : Nat} (hd : 6 ≤ d) (F : Nat) (a0 : Nat) (a1 : Int32) (hp : List mE) (v : Int32) (hp' : List mE) (ra0 : a0 < hp.length) (h : e118 F a0 a1 hp = some (v, hp')) : Rn d 118 0 (lv_args 0 [.ref a0, .int a1]) [] hp 0 0 (some (.int v), hp', 0, 0) :=
  t118_0 (n := hp.length) hd F a0 a1 (lv_args 0 [.ref a0, .int a1]) hp v hp' rfl rfl (lvk_args (okc (okr ra0) (okc rfl okn))) rfl ra0 h
/-! MirrorRoots.below -/
def m119_43 (F : Nat) (t0 : Int32) (hp : List mE) : Option (Int32 × List mE) :=
  some (t0, hp)
theorem t119_43 {d c w n : Nat} (hd : 2 ≤ d) (F : Nat) : ∀ (t0 : Int32) (lv : List (Nat × Value)) (hp : List mE) (v : Int32) (hp' : List mE), lvk n lv → hp.length = n → m119_43 F t0 hp = some (v, hp') → Rn d 119 43 lv [.int t0] hp c w (some (.int v), hp', c, w) := by
  obtain ⟨d', rfl⟩ : ∃ d', d = d' + 1 := ⟨d - 1, by omega⟩
  intro t0 lv hp v hp' ok hn h
  unfold m119_43 at h
  have e1 := (Prod.mk.inj (Option.some.inj h)).1
  have e2 := (Prod.mk.inj (Option.some.inj h)).2
  subst e1
  subst e2
  exact Rn.iret n119_43 mr119
def m119_22 (F : Nat) (hp : List mE) : Option (Int32 × List mE) :=
  some ((-1001), hp)
theorem t119_22 {d c w n : Nat} (hd : 2 ≤ d) (F : Nat) : ∀ (lv : List (Nat × Value)) (hp : List mE) (v : Int32) (hp' : List mE), lvk n lv → hp.length = n → m119_22 F hp = some (v, hp') → Rn d 119 22 lv [] hp c w (some (.int v), hp', c, w) := by
  obtain ⟨d', rfl⟩ : ∃ d', d = d' + 1 := ⟨d - 1, by omega⟩
  intro lv hp v hp' ok hn h
  unfold m119_22 at h
  refine Rn.sp (v := (-1001)) n119_22 (by decide) ?_
  have e1 := (Prod.mk.inj (Option.some.inj h)).1
  have e2 := (Prod.mk.inj (Option.some.inj h)).2
  subst e1
  subst e2
  exact Rn.iret n119_25 mr119
def m119_0 (F : Nat) (v0 : Nat) (v1 : Int32) (v2 : Int32) (hp : List mE) : Option (Int32 × List mE) :=
  (gfr 10 2 hp v0).bind fun x1 =>
  (rcv 1 hp x1).bind fun u3 =>
  (e16 F x1 v1 hp).bind fun q2 =>
  if mc1 .eq q2.1 = true then
    m119_22 F q2.2
  else
    (gfr 10 2 q2.2 v0).bind fun x5 =>
    (rcv 1 q2.2 x5).bind fun u7 =>
    (e16 F x5 v2 q2.2).bind fun q6 =>
    if mc1 .ne q6.1 = true then
      (gfr 10 3 q6.2 v0).bind fun x9 =>
      (rcv 9 q6.2 x9).bind fun u11 =>
      (e96 F x9 v1 v2 q6.2).bind fun q10 =>
      if mc1 .eq q10.1 = true then
        m119_43 F 0 q10.2
      else
        m119_43 F 1 q10.2
    else
      m119_22 F q6.2
theorem t119_0 {d c w n : Nat} (hd : 2 ≤ d) (F : Nat) : ∀ (v0 : Nat) (v1 : Int32) (v2 : Int32) (lv : List (Nat × Value)) (hp : List mE) (v : Int32) (hp' : List mE), alk 0 lv = some (.ref v0) → alk 1 lv = some (.int v1) → alk 2 lv = some (.int v2) → lvk n lv → hp.length = n → v0 < n → m119_0 F v0 v1 v2 hp = some (v, hp') → Rn d 119 0 lv [] hp c w (some (.int v), hp', c, w) := by
  obtain ⟨d', rfl⟩ : ∃ d', d = d' + 1 := ⟨d - 1, by omega⟩
  intro v0 v1 v2 lv hp v hp' l0 l1 l2 ok hn r_v0 h
  unfold m119_0 at h
  refine Rn.aload_n n119_0 l0 ?_
  obtain ⟨x1, hx1, h⟩ := Option.bind_eq_some_iff.mp h
  refine Rn.gf n119_1 mo119 fl10_28 (gfr_v hx1).1 ?_
  have r_x1 : x1 < n := by rw [← hn]; exact (gfr_v hx1).2
  refine Rn.iload_n n119_4 l1 ?_
  obtain ⟨u3, hu3, h⟩ := Option.bind_eq_some_iff.mp h
  obtain ⟨q2, hq2, h⟩ := Option.bind_eq_some_iff.mp h
  have gq2 := c16 (d := d') (by omega) F _ _ _ _ _ (by rw [hn]; exact r_x1) hq2
  refine Rn.cv (As := [.int v1]) (rr := []) n119_5 mo119 mm10_130 (by decide) mq16 rfl rfl rfl rfl (by rw [mo16]; exact hu3) (Nat.le_of_ble_eq_true rfl) (by rw [hn]; exact (okc (okr r_x1) (okc rfl okn))) (by rw [hn]; exact okn) (by rw [hn]; exact ok) (by rw [ml16]; exact Nat.le_of_ble_eq_true rfl) gq2 ?_
  have hn := (Rn.len gq2).trans hn
  show Rn _ 119 8 lv [.int q2.1] q2.2 c w _
  by_cases hc4 : mc1 .eq q2.1 = true
  · rw [if_pos hc4] at h
    refine Rn.c1t (t := 22) n119_8 (by decide) hc4 ?_
    exact t119_22 hd F  lv _ _ _  ok hn   h
  · rw [if_neg hc4] at h
    refine Rn.c1f (t := 22) n119_8 (by decide) hc4 ?_
    refine Rn.aload_n n119_11 l0 ?_
    obtain ⟨x5, hx5, h⟩ := Option.bind_eq_some_iff.mp h
    refine Rn.gf n119_12 mo119 fl10_28 (gfr_v hx5).1 ?_
    have r_x5 : x5 < n := by rw [← hn]; exact (gfr_v hx5).2
    refine Rn.iload_n n119_15 l2 ?_
    obtain ⟨u7, hu7, h⟩ := Option.bind_eq_some_iff.mp h
    obtain ⟨q6, hq6, h⟩ := Option.bind_eq_some_iff.mp h
    have gq6 := c16 (d := d') (by omega) F _ _ _ _ _ (by rw [hn]; exact r_x5) hq6
    refine Rn.cv (As := [.int v2]) (rr := []) n119_16 mo119 mm10_130 (by decide) mq16 rfl rfl rfl rfl (by rw [mo16]; exact hu7) (Nat.le_of_ble_eq_true rfl) (by rw [hn]; exact (okc (okr r_x5) (okc rfl okn))) (by rw [hn]; exact okn) (by rw [hn]; exact ok) (by rw [ml16]; exact Nat.le_of_ble_eq_true rfl) gq6 ?_
    have hn := (Rn.len gq6).trans hn
    show Rn _ 119 19 lv [.int q6.1] q6.2 c w _
    by_cases hc8 : mc1 .ne q6.1 = true
    · rw [if_pos hc8] at h
      refine Rn.c1t (t := 26) n119_19 (by decide) hc8 ?_
      refine Rn.aload_n n119_26 l0 ?_
      obtain ⟨x9, hx9, h⟩ := Option.bind_eq_some_iff.mp h
      refine Rn.gf n119_27 mo119 fl10_37 (gfr_v hx9).1 ?_
      have r_x9 : x9 < n := by rw [← hn]; exact (gfr_v hx9).2
      refine Rn.iload_n n119_30 l1 ?_
      refine Rn.iload_n n119_31 l2 ?_
      obtain ⟨u11, hu11, h⟩ := Option.bind_eq_some_iff.mp h
      obtain ⟨q10, hq10, h⟩ := Option.bind_eq_some_iff.mp h
      have gq10 := c96 (d := d') (by omega) F _ _ _ _ _ _ (by rw [hn]; exact r_x9) hq10
      refine Rn.cv (As := [.int v1, .int v2]) (rr := []) n119_32 mo119 mm10_164 (by decide) mq96 rfl rfl rfl rfl (by rw [mo96]; exact hu11) (Nat.le_of_ble_eq_true rfl) (by rw [hn]; exact (okc (okr r_x9) (okc rfl (okc rfl okn)))) (by rw [hn]; exact okn) (by rw [hn]; exact ok) (by rw [ml96]; exact Nat.le_of_ble_eq_true rfl) gq10 ?_
      have hn := (Rn.len gq10).trans hn
      show Rn _ 119 35 lv [.int q10.1] q10.2 c w _
      by_cases hc12 : mc1 .eq q10.1 = true
      · rw [if_pos hc12] at h
        refine Rn.c1t (t := 42) n119_35 (by decide) hc12 ?_
        refine Rn.ic (v := 0) n119_42 (by decide) ?_
        exact t119_43 hd F  _ lv _ _ _  ok hn   h
      · rw [if_neg hc12] at h
        refine Rn.c1f (t := 42) n119_35 (by decide) hc12 ?_
        refine Rn.ic (v := 1) n119_38 (by decide) ?_
        refine Rn.goto (t := 43) n119_39 (by decide) ?_
        exact t119_43 hd F  _ lv _ _ _  ok hn   h
    · rw [if_neg hc8] at h
      refine Rn.c1f (t := 26) n119_19 (by decide) hc8 ?_
      exact t119_22 hd F  lv _ _ _  ok hn   h
def e119 (F : Nat) (a0 : Nat) (a1 : Int32) (a2 : Int32) (hp : List mE) : Option (Int32 × List mE) := m119_0 F a0 a1 a2 hp
theorem c119 {d : Nat} (hd : 2 ≤ d) (F : Nat) (a0 : Nat) (a1 : Int32) (a2 : Int32) (hp : List mE) (v : Int32) (hp' : List mE) (ra0 : a0 < hp.length) (h : e119 F a0 a1 a2 hp = some (v, hp')) : Rn d 119 0 (lv_args 0 [.ref a0, .int a1, .int a2]) [] hp 0 0 (some (.int v), hp', 0, 0) :=
  t119_0 (n := hp.length) hd F a0 a1 a2 (lv_args 0 [.ref a0, .int a1, .int a2]) hp v hp' rfl rfl rfl (lvk_args (okc (okr ra0) (okc rfl (okc rfl okn)))) rfl ra0 h
/-! MirrorRoots.covers -/
def m120_0 (F : Nat) (v0 : Nat) (v1 : Int32) (hp : List mE) : Option (Int32 × List mE) :=
  (gfr 10 2 hp v0).bind fun x1 =>
  (rcv 1 hp x1).bind fun u3 =>
  (e16 F x1 v1 hp).bind fun q2 =>
  if mc1 .ne q2.1 = true then
    (gfr 10 3 q2.2 v0).bind fun x5 =>
    (rcv 9 q2.2 x5).bind fun u7 =>
    (e97 F x5 v1 q2.2).bind fun q6 =>
    some (q6.1, q6.2)
  else
    some ((-1001), q2.2)
theorem t120_0 {d c w n : Nat} (hd : 3 ≤ d) (F : Nat) : ∀ (v0 : Nat) (v1 : Int32) (lv : List (Nat × Value)) (hp : List mE) (v : Int32) (hp' : List mE), alk 0 lv = some (.ref v0) → alk 1 lv = some (.int v1) → lvk n lv → hp.length = n → v0 < n → m120_0 F v0 v1 hp = some (v, hp') → Rn d 120 0 lv [] hp c w (some (.int v), hp', c, w) := by
  obtain ⟨d', rfl⟩ : ∃ d', d = d' + 1 := ⟨d - 1, by omega⟩
  intro v0 v1 lv hp v hp' l0 l1 ok hn r_v0 h
  unfold m120_0 at h
  refine Rn.aload_n n120_0 l0 ?_
  obtain ⟨x1, hx1, h⟩ := Option.bind_eq_some_iff.mp h
  refine Rn.gf n120_1 mo120 fl10_28 (gfr_v hx1).1 ?_
  have r_x1 : x1 < n := by rw [← hn]; exact (gfr_v hx1).2
  refine Rn.iload_n n120_4 l1 ?_
  obtain ⟨u3, hu3, h⟩ := Option.bind_eq_some_iff.mp h
  obtain ⟨q2, hq2, h⟩ := Option.bind_eq_some_iff.mp h
  have gq2 := c16 (d := d') (by omega) F _ _ _ _ _ (by rw [hn]; exact r_x1) hq2
  refine Rn.cv (As := [.int v1]) (rr := []) n120_5 mo120 mm10_130 (by decide) mq16 rfl rfl rfl rfl (by rw [mo16]; exact hu3) (Nat.le_of_ble_eq_true rfl) (by rw [hn]; exact (okc (okr r_x1) (okc rfl okn))) (by rw [hn]; exact okn) (by rw [hn]; exact ok) (by rw [ml16]; exact Nat.le_of_ble_eq_true rfl) gq2 ?_
  have hn := (Rn.len gq2).trans hn
  show Rn _ 120 8 lv [.int q2.1] q2.2 c w _
  by_cases hc4 : mc1 .ne q2.1 = true
  · rw [if_pos hc4] at h
    refine Rn.c1t (t := 15) n120_8 (by decide) hc4 ?_
    refine Rn.aload_n n120_15 l0 ?_
    obtain ⟨x5, hx5, h⟩ := Option.bind_eq_some_iff.mp h
    refine Rn.gf n120_16 mo120 fl10_37 (gfr_v hx5).1 ?_
    have r_x5 : x5 < n := by rw [← hn]; exact (gfr_v hx5).2
    refine Rn.iload_n n120_19 l1 ?_
    obtain ⟨u7, hu7, h⟩ := Option.bind_eq_some_iff.mp h
    obtain ⟨q6, hq6, h⟩ := Option.bind_eq_some_iff.mp h
    have gq6 := c97 (d := d') (by omega) F _ _ _ _ _ (by rw [hn]; exact r_x5) hq6
    refine Rn.cv (As := [.int v1]) (rr := []) n120_20 mo120 mm10_168 (by decide) mq97 rfl rfl rfl rfl (by rw [mo97]; exact hu7) (Nat.le_of_ble_eq_true rfl) (by rw [hn]; exact (okc (okr r_x5) (okc rfl okn))) (by rw [hn]; exact okn) (by rw [hn]; exact ok) (by rw [ml97]; exact Nat.le_of_ble_eq_true rfl) gq6 ?_
    have hn := (Rn.len gq6).trans hn
    show Rn _ 120 23 lv [.int q6.1] q6.2 c w _
    have e1 := (Prod.mk.inj (Option.some.inj h)).1
    have e2 := (Prod.mk.inj (Option.some.inj h)).2
    subst e1
    subst e2
    exact Rn.iret n120_23 mr120
  · rw [if_neg hc4] at h
    refine Rn.c1f (t := 15) n120_8 (by decide) hc4 ?_
    refine Rn.sp (v := (-1001)) n120_11 (by decide) ?_
    have e1 := (Prod.mk.inj (Option.some.inj h)).1
    have e2 := (Prod.mk.inj (Option.some.inj h)).2
    subst e1
    subst e2
    exact Rn.iret n120_14 mr120
def e120 (F : Nat) (a0 : Nat) (a1 : Int32) (hp : List mE) : Option (Int32 × List mE) := m120_0 F a0 a1 hp
theorem c120 {d : Nat} (hd : 3 ≤ d) (F : Nat) (a0 : Nat) (a1 : Int32) (hp : List mE) (v : Int32) (hp' : List mE) (ra0 : a0 < hp.length) (h : e120 F a0 a1 hp = some (v, hp')) : Rn d 120 0 (lv_args 0 [.ref a0, .int a1]) [] hp 0 0 (some (.int v), hp', 0, 0) :=
  t120_0 (n := hp.length) hd F a0 a1 (lv_args 0 [.ref a0, .int a1]) hp v hp' rfl rfl (lvk_args (okc (okr ra0) (okc rfl okn))) rfl ra0 h
/-! MirrorRoots.exchange -/
def m122_0 (F : Nat) (v0 : Nat) (v1 : Int32) (v2 : Int32) (hp : List mE) : Option (Int32 × List mE) :=
  (gfr 10 2 hp v0).bind fun x1 =>
  (rcv 1 hp x1).bind fun u3 =>
  (e16 F x1 v1 hp).bind fun q2 =>
  if mc1 .ne q2.1 = true then
    (gfr 10 0 q2.2 v0).bind fun x5 =>
    (rcv 3 q2.2 x5).bind fun u7 =>
    (e36 F x5 v2 q2.2).bind fun q6 =>
    if mc1 .ne q6.1 = true then
      (gfr 10 2 q6.2 v0).bind fun x9 =>
      (gfr 1 5 q6.2 x9).bind fun x10 =>
      (rdJ q6.2 x10 ((v1 * 5) + v2)).bind fun x11 =>
      if mc1 .le (lg_cmp x11 0) = true then
        (gfr 10 4 q6.2 v0).bind fun x13 =>
        (rcv 5 q6.2 x13).bind fun u15 =>
        (e55 F x13 v1 v2 q6.2).bind fun q14 =>
        some (q14.1, q14.2)
      else
        some ((-1003), q6.2)
    else
      some ((-1002), q6.2)
  else
    some ((-1001), q2.2)
theorem t122_0 {d c w n : Nat} (hd : 2 ≤ d) (F : Nat) : ∀ (v0 : Nat) (v1 : Int32) (v2 : Int32) (lv : List (Nat × Value)) (hp : List mE) (v : Int32) (hp' : List mE), alk 0 lv = some (.ref v0) → alk 1 lv = some (.int v1) → alk 2 lv = some (.int v2) → lvk n lv → hp.length = n → v0 < n → m122_0 F v0 v1 v2 hp = some (v, hp') → Rn d 122 0 lv [] hp c w (some (.int v), hp', c, w) := by
  obtain ⟨d', rfl⟩ : ∃ d', d = d' + 1 := ⟨d - 1, by omega⟩
  intro v0 v1 v2 lv hp v hp' l0 l1 l2 ok hn r_v0 h
  unfold m122_0 at h
  refine Rn.aload_n n122_0 l0 ?_
  obtain ⟨x1, hx1, h⟩ := Option.bind_eq_some_iff.mp h
  refine Rn.gf n122_1 mo122 fl10_28 (gfr_v hx1).1 ?_
  have r_x1 : x1 < n := by rw [← hn]; exact (gfr_v hx1).2
  refine Rn.iload_n n122_4 l1 ?_
  obtain ⟨u3, hu3, h⟩ := Option.bind_eq_some_iff.mp h
  obtain ⟨q2, hq2, h⟩ := Option.bind_eq_some_iff.mp h
  have gq2 := c16 (d := d') (by omega) F _ _ _ _ _ (by rw [hn]; exact r_x1) hq2
  refine Rn.cv (As := [.int v1]) (rr := []) n122_5 mo122 mm10_130 (by decide) mq16 rfl rfl rfl rfl (by rw [mo16]; exact hu3) (Nat.le_of_ble_eq_true rfl) (by rw [hn]; exact (okc (okr r_x1) (okc rfl okn))) (by rw [hn]; exact okn) (by rw [hn]; exact ok) (by rw [ml16]; exact Nat.le_of_ble_eq_true rfl) gq2 ?_
  have hn := (Rn.len gq2).trans hn
  show Rn _ 122 8 lv [.int q2.1] q2.2 c w _
  by_cases hc4 : mc1 .ne q2.1 = true
  · rw [if_pos hc4] at h
    refine Rn.c1t (t := 15) n122_8 (by decide) hc4 ?_
    refine Rn.aload_n n122_15 l0 ?_
    obtain ⟨x5, hx5, h⟩ := Option.bind_eq_some_iff.mp h
    refine Rn.gf n122_16 mo122 fl10_12 (gfr_v hx5).1 ?_
    have r_x5 : x5 < n := by rw [← hn]; exact (gfr_v hx5).2
    refine Rn.iload_n n122_19 l2 ?_
    obtain ⟨u7, hu7, h⟩ := Option.bind_eq_some_iff.mp h
    obtain ⟨q6, hq6, h⟩ := Option.bind_eq_some_iff.mp h
    have gq6 := c36 (d := d') (by omega) F _ _ _ _ _ (by rw [hn]; exact r_x5) hq6
    refine Rn.cv (As := [.int v2]) (rr := []) n122_20 mo122 mm10_114 (by decide) mq36 rfl rfl rfl rfl (by rw [mo36]; exact hu7) (Nat.le_of_ble_eq_true rfl) (by rw [hn]; exact (okc (okr r_x5) (okc rfl okn))) (by rw [hn]; exact okn) (by rw [hn]; exact ok) (by rw [ml36]; exact Nat.le_of_ble_eq_true rfl) gq6 ?_
    have hn := (Rn.len gq6).trans hn
    show Rn _ 122 23 lv [.int q6.1] q6.2 c w _
    by_cases hc8 : mc1 .ne q6.1 = true
    · rw [if_pos hc8] at h
      refine Rn.c1t (t := 30) n122_23 (by decide) hc8 ?_
      refine Rn.aload_n n122_30 l0 ?_
      obtain ⟨x9, hx9, h⟩ := Option.bind_eq_some_iff.mp h
      refine Rn.gf n122_31 mo122 fl10_28 (gfr_v hx9).1 ?_
      have r_x9 : x9 < n := by rw [← hn]; exact (gfr_v hx9).2
      obtain ⟨x10, hx10, h⟩ := Option.bind_eq_some_iff.mp h
      refine Rn.gf n122_34 mo122 fl10_142 (gfr_v hx10).1 ?_
      have r_x10 : x10 < n := by rw [← hn]; exact (gfr_v hx10).2
      refine Rn.iload_n n122_37 l1 ?_
      refine Rn.ic (v := 5) n122_38 (by decide) ?_
      refine Rn.p n122_39 rfl ?_
      refine Rn.iload_n n122_40 l2 ?_
      refine Rn.p n122_41 rfl ?_
      obtain ⟨x11, hx11, h⟩ := Option.bind_eq_some_iff.mp h
      refine Rn.lald n122_42 hx11 ?_
      refine Rn.lc (v := 0) n122_43 (by decide) ?_
      refine Rn.p n122_44 rfl ?_
      by_cases hc12 : mc1 .le (lg_cmp x11 0) = true
      · rw [if_pos hc12] at h
        refine Rn.c1t (t := 52) n122_45 (by decide) hc12 ?_
        refine Rn.aload_n n122_52 l0 ?_
        obtain ⟨x13, hx13, h⟩ := Option.bind_eq_some_iff.mp h
        refine Rn.gf n122_53 mo122 fl10_44 (gfr_v hx13).1 ?_
        have r_x13 : x13 < n := by rw [← hn]; exact (gfr_v hx13).2
        refine Rn.iload_n n122_56 l1 ?_
        refine Rn.iload_n n122_57 l2 ?_
        obtain ⟨u15, hu15, h⟩ := Option.bind_eq_some_iff.mp h
        obtain ⟨q14, hq14, h⟩ := Option.bind_eq_some_iff.mp h
        have gq14 := c55 (d := d') (by omega) F _ _ _ _ _ _ (by rw [hn]; exact r_x13) hq14
        refine Rn.cv (As := [.int v1, .int v2]) (rr := []) n122_58 mo122 mm10_181 (by decide) mq55 rfl rfl rfl rfl (by rw [mo55]; exact hu15) (Nat.le_of_ble_eq_true rfl) (by rw [hn]; exact (okc (okr r_x13) (okc rfl (okc rfl okn)))) (by rw [hn]; exact okn) (by rw [hn]; exact ok) (by rw [ml55]; exact Nat.le_of_ble_eq_true rfl) gq14 ?_
        have hn := (Rn.len gq14).trans hn
        show Rn _ 122 61 lv [.int q14.1] q14.2 c w _
        have e1 := (Prod.mk.inj (Option.some.inj h)).1
        have e2 := (Prod.mk.inj (Option.some.inj h)).2
        subst e1
        subst e2
        exact Rn.iret n122_61 mr122
      · rw [if_neg hc12] at h
        refine Rn.c1f (t := 52) n122_45 (by decide) hc12 ?_
        refine Rn.sp (v := (-1003)) n122_48 (by decide) ?_
        have e1 := (Prod.mk.inj (Option.some.inj h)).1
        have e2 := (Prod.mk.inj (Option.some.inj h)).2
        subst e1
        subst e2
        exact Rn.iret n122_51 mr122
    · rw [if_neg hc8] at h
      refine Rn.c1f (t := 30) n122_23 (by decide) hc8 ?_
      refine Rn.sp (v := (-1002)) n122_26 (by decide) ?_
      have e1 := (Prod.mk.inj (Option.some.inj h)).1
      have e2 := (Prod.mk.inj (Option.some.inj h)).2
      subst e1
      subst e2
      exact Rn.iret n122_29 mr122
  · rw [if_neg hc4] at h
    refine Rn.c1f (t := 15) n122_8 (by decide) hc4 ?_
    refine Rn.sp (v := (-1001)) n122_11 (by decide) ?_
    have e1 := (Prod.mk.inj (Option.some.inj h)).1
    have e2 := (Prod.mk.inj (Option.some.inj h)).2
    subst e1
    subst e2
    exact Rn.iret n122_14 mr122
def e122 (F : Nat) (a0 : Nat) (a1 : Int32) (a2 : Int32) (hp : List mE) : Option (Int32 × List mE) := m122_0 F a0 a1 a2 hp
theorem c122 {d : Nat} (hd : 2 ≤ d) (F : Nat) (a0 : Nat) (a1 : Int32) (a2 : Int32) (hp : List mE) (v : Int32) (hp' : List mE) (ra0 : a0 < hp.length) (h : e122 F a0 a1 a2 hp = some (v, hp')) : Rn d 122 0 (lv_args 0 [.ref a0, .int a1, .int a2]) [] hp 0 0 (some (.int v), hp', 0, 0) :=
  t122_0 (n := hp.length) hd F a0 a1 a2 (lv_args 0 [.ref a0, .int a1, .int a2]) hp v hp' rfl rfl rfl (lvk_args (okc (okr ra0) (okc rfl (okc rfl okn)))) rfl ra0 h
/-! MirrorRoots.inversion -/
def m123_47 (F : Nat) (hp : List mE) : Option (Int64 × List mE) :=
  some (0, hp)
theorem t123_47 {d c w n : Nat} (hd : 2 ≤ d) (F : Nat) : ∀ (lv : List (Nat × Value)) (hp : List mE) (v : Int64) (hp' : List mE), lvk n lv → hp.length = n → m123_47 F hp = some (v, hp') → Rn d 123 47 lv [] hp c w (some (.long v), hp', c, w) := by
  obtain ⟨d', rfl⟩ : ∃ d', d = d' + 1 := ⟨d - 1, by omega⟩
  intro lv hp v hp' ok hn h
  unfold m123_47 at h
  refine Rn.lc (v := 0) n123_47 (by decide) ?_
  have e1 := (Prod.mk.inj (Option.some.inj h)).1
  have e2 := (Prod.mk.inj (Option.some.inj h)).2
  subst e1
  subst e2
  exact Rn.lret n123_48 mr123
def m123_0 (F : Nat) (v0 : Nat) (v1 : Int32) (v2 : Int32) (v3 : Int32) (hp : List mE) : Option (Int64 × List mE) :=
  (gfr 10 2 hp v0).bind fun x1 =>
  (rcv 1 hp x1).bind fun u3 =>
  (e16 F x1 v1 hp).bind fun q2 =>
  if mc1 .ne q2.1 = true then
    (gfr 10 0 q2.2 v0).bind fun x5 =>
    (rcv 3 q2.2 x5).bind fun u7 =>
    (e36 F x5 v3 q2.2).bind fun q6 =>
    if mc1 .ne q6.1 = true then
      if mc1 .lt v2 = true then
        m123_47 F q6.2
      else
        (gfr 10 2 q6.2 v0).bind fun x10 =>
        (gfr 1 3 q6.2 x10).bind fun x11 =>
        (rdI q6.2 x11 v1).bind fun x12 =>
        if mc2 .lt v2 x12 = true then
          (gfr 10 4 q6.2 v0).bind fun x14 =>
          (rcv 5 q6.2 x14).bind fun u16 =>
          (e54 F x14 v1 v2 v3 q6.2).bind fun q15 =>
          some (q15.1, q15.2)
        else
          m123_47 F q6.2
    else
      some ((-1002), q6.2)
  else
    some ((-1001), q2.2)
theorem t123_0 {d c w n : Nat} (hd : 2 ≤ d) (F : Nat) : ∀ (v0 : Nat) (v1 : Int32) (v2 : Int32) (v3 : Int32) (lv : List (Nat × Value)) (hp : List mE) (v : Int64) (hp' : List mE), alk 0 lv = some (.ref v0) → alk 1 lv = some (.int v1) → alk 2 lv = some (.int v2) → alk 3 lv = some (.int v3) → lvk n lv → hp.length = n → v0 < n → m123_0 F v0 v1 v2 v3 hp = some (v, hp') → Rn d 123 0 lv [] hp c w (some (.long v), hp', c, w) := by
  obtain ⟨d', rfl⟩ : ∃ d', d = d' + 1 := ⟨d - 1, by omega⟩
  intro v0 v1 v2 v3 lv hp v hp' l0 l1 l2 l3 ok hn r_v0 h
  unfold m123_0 at h
  refine Rn.aload_n n123_0 l0 ?_
  obtain ⟨x1, hx1, h⟩ := Option.bind_eq_some_iff.mp h
  refine Rn.gf n123_1 mo123 fl10_28 (gfr_v hx1).1 ?_
  have r_x1 : x1 < n := by rw [← hn]; exact (gfr_v hx1).2
  refine Rn.iload_n n123_4 l1 ?_
  obtain ⟨u3, hu3, h⟩ := Option.bind_eq_some_iff.mp h
  obtain ⟨q2, hq2, h⟩ := Option.bind_eq_some_iff.mp h
  have gq2 := c16 (d := d') (by omega) F _ _ _ _ _ (by rw [hn]; exact r_x1) hq2
  refine Rn.cv (As := [.int v1]) (rr := []) n123_5 mo123 mm10_130 (by decide) mq16 rfl rfl rfl rfl (by rw [mo16]; exact hu3) (Nat.le_of_ble_eq_true rfl) (by rw [hn]; exact (okc (okr r_x1) (okc rfl okn))) (by rw [hn]; exact okn) (by rw [hn]; exact ok) (by rw [ml16]; exact Nat.le_of_ble_eq_true rfl) gq2 ?_
  have hn := (Rn.len gq2).trans hn
  show Rn _ 123 8 lv [.int q2.1] q2.2 c w _
  by_cases hc4 : mc1 .ne q2.1 = true
  · rw [if_pos hc4] at h
    refine Rn.c1t (t := 15) n123_8 (by decide) hc4 ?_
    refine Rn.aload_n n123_15 l0 ?_
    obtain ⟨x5, hx5, h⟩ := Option.bind_eq_some_iff.mp h
    refine Rn.gf n123_16 mo123 fl10_12 (gfr_v hx5).1 ?_
    have r_x5 : x5 < n := by rw [← hn]; exact (gfr_v hx5).2
    refine Rn.iload_n n123_19 l3 ?_
    obtain ⟨u7, hu7, h⟩ := Option.bind_eq_some_iff.mp h
    obtain ⟨q6, hq6, h⟩ := Option.bind_eq_some_iff.mp h
    have gq6 := c36 (d := d') (by omega) F _ _ _ _ _ (by rw [hn]; exact r_x5) hq6
    refine Rn.cv (As := [.int v3]) (rr := []) n123_20 mo123 mm10_114 (by decide) mq36 rfl rfl rfl rfl (by rw [mo36]; exact hu7) (Nat.le_of_ble_eq_true rfl) (by rw [hn]; exact (okc (okr r_x5) (okc rfl okn))) (by rw [hn]; exact okn) (by rw [hn]; exact ok) (by rw [ml36]; exact Nat.le_of_ble_eq_true rfl) gq6 ?_
    have hn := (Rn.len gq6).trans hn
    show Rn _ 123 23 lv [.int q6.1] q6.2 c w _
    by_cases hc8 : mc1 .ne q6.1 = true
    · rw [if_pos hc8] at h
      refine Rn.c1t (t := 30) n123_23 (by decide) hc8 ?_
      refine Rn.iload_n n123_30 l2 ?_
      by_cases hc9 : mc1 .lt v2 = true
      · rw [if_pos hc9] at h
        refine Rn.c1t (t := 47) n123_31 (by decide) hc9 ?_
        exact t123_47 hd F  lv _ _ _  ok hn   h
      · rw [if_neg hc9] at h
        refine Rn.c1f (t := 47) n123_31 (by decide) hc9 ?_
        refine Rn.iload_n n123_34 l2 ?_
        refine Rn.aload_n n123_35 l0 ?_
        obtain ⟨x10, hx10, h⟩ := Option.bind_eq_some_iff.mp h
        refine Rn.gf n123_36 mo123 fl10_28 (gfr_v hx10).1 ?_
        have r_x10 : x10 < n := by rw [← hn]; exact (gfr_v hx10).2
        obtain ⟨x11, hx11, h⟩ := Option.bind_eq_some_iff.mp h
        refine Rn.gf n123_39 mo123 fl10_131 (gfr_v hx11).1 ?_
        have r_x11 : x11 < n := by rw [← hn]; exact (gfr_v hx11).2
        refine Rn.iload_n n123_42 l1 ?_
        obtain ⟨x12, hx12, h⟩ := Option.bind_eq_some_iff.mp h
        refine Rn.iald n123_43 hx12 ?_
        by_cases hc13 : mc2 .lt v2 x12 = true
        · rw [if_pos hc13] at h
          refine Rn.c2t (t := 49) n123_44 (by decide) hc13 ?_
          refine Rn.aload_n n123_49 l0 ?_
          obtain ⟨x14, hx14, h⟩ := Option.bind_eq_some_iff.mp h
          refine Rn.gf n123_50 mo123 fl10_44 (gfr_v hx14).1 ?_
          have r_x14 : x14 < n := by rw [← hn]; exact (gfr_v hx14).2
          refine Rn.iload_n n123_53 l1 ?_
          refine Rn.iload_n n123_54 l2 ?_
          refine Rn.iload_n n123_55 l3 ?_
          obtain ⟨u16, hu16, h⟩ := Option.bind_eq_some_iff.mp h
          obtain ⟨q15, hq15, h⟩ := Option.bind_eq_some_iff.mp h
          have gq15 := c54 (d := d') (by omega) F _ _ _ _ _ _ _ (by rw [hn]; exact r_x14) hq15
          refine Rn.cv (As := [.int v1, .int v2, .int v3]) (rr := []) n123_56 mo123 mm10_184 (by decide) mq54 rfl rfl rfl rfl (by rw [mo54]; exact hu16) (Nat.le_of_ble_eq_true rfl) (by rw [hn]; exact (okc (okr r_x14) (okc rfl (okc rfl (okc rfl okn))))) (by rw [hn]; exact okn) (by rw [hn]; exact ok) (by rw [ml54]; exact Nat.le_of_ble_eq_true rfl) gq15 ?_
          have hn := (Rn.len gq15).trans hn
          show Rn _ 123 59 lv [.long q15.1] q15.2 c w _
          have e1 := (Prod.mk.inj (Option.some.inj h)).1
          have e2 := (Prod.mk.inj (Option.some.inj h)).2
          subst e1
          subst e2
          exact Rn.lret n123_59 mr123
        · rw [if_neg hc13] at h
          refine Rn.c2f (t := 49) n123_44 (by decide) hc13 ?_
          exact t123_47 hd F  lv _ _ _  ok hn   h
    · rw [if_neg hc8] at h
      refine Rn.c1f (t := 30) n123_23 (by decide) hc8 ?_
      refine Rn.ldc2 n123_26 mo123 cL10_151 ?_
      have e1 := (Prod.mk.inj (Option.some.inj h)).1
      have e2 := (Prod.mk.inj (Option.some.inj h)).2
      subst e1
      subst e2
      exact Rn.lret n123_29 mr123
  · rw [if_neg hc4] at h
    refine Rn.c1f (t := 15) n123_8 (by decide) hc4 ?_
    refine Rn.ldc2 n123_11 mo123 cL10_149 ?_
    have e1 := (Prod.mk.inj (Option.some.inj h)).1
    have e2 := (Prod.mk.inj (Option.some.inj h)).2
    subst e1
    subst e2
    exact Rn.lret n123_14 mr123
def e123 (F : Nat) (a0 : Nat) (a1 : Int32) (a2 : Int32) (a3 : Int32) (hp : List mE) : Option (Int64 × List mE) := m123_0 F a0 a1 a2 a3 hp
theorem c123 {d : Nat} (hd : 2 ≤ d) (F : Nat) (a0 : Nat) (a1 : Int32) (a2 : Int32) (a3 : Int32) (hp : List mE) (v : Int64) (hp' : List mE) (ra0 : a0 < hp.length) (h : e123 F a0 a1 a2 a3 hp = some (v, hp')) : Rn d 123 0 (lv_args 0 [.ref a0, .int a1, .int a2, .int a3]) [] hp 0 0 (some (.long v), hp', 0, 0) :=
  t123_0 (n := hp.length) hd F a0 a1 a2 a3 (lv_args 0 [.ref a0, .int a1, .int a2, .int a3]) hp v hp' rfl rfl rfl rfl (lvk_args (okc (okr ra0) (okc rfl (okc rfl (okc rfl okn))))) rfl ra0 h
/-! MirrorRoots.coset -/
def m124_64 (F : Nat) (t0 : Int32) (hp : List mE) : Option (Int32 × List mE) :=
  some (t0, hp)
theorem t124_64 {d c w n : Nat} (hd : 7 ≤ d) (F : Nat) : ∀ (t0 : Int32) (lv : List (Nat × Value)) (hp : List mE) (v : Int32) (hp' : List mE), lvk n lv → hp.length = n → m124_64 F t0 hp = some (v, hp') → Rn d 124 64 lv [.int t0] hp c w (some (.int v), hp', c, w) := by
  obtain ⟨d', rfl⟩ : ∃ d', d = d' + 1 := ⟨d - 1, by omega⟩
  intro t0 lv hp v hp' ok hn h
  unfold m124_64 at h
  have e1 := (Prod.mk.inj (Option.some.inj h)).1
  have e2 := (Prod.mk.inj (Option.some.inj h)).2
  subst e1
  subst e2
  exact Rn.iret n124_64 mr124
def m124_35 (F : Nat) (hp : List mE) : Option (Int32 × List mE) :=
  some ((-1002), hp)
theorem t124_35 {d c w n : Nat} (hd : 7 ≤ d) (F : Nat) : ∀ (lv : List (Nat × Value)) (hp : List mE) (v : Int32) (hp' : List mE), lvk n lv → hp.length = n → m124_35 F hp = some (v, hp') → Rn d 124 35 lv [] hp c w (some (.int v), hp', c, w) := by
  obtain ⟨d', rfl⟩ : ∃ d', d = d' + 1 := ⟨d - 1, by omega⟩
  intro lv hp v hp' ok hn h
  unfold m124_35 at h
  refine Rn.sp (v := (-1002)) n124_35 (by decide) ?_
  have e1 := (Prod.mk.inj (Option.some.inj h)).1
  have e2 := (Prod.mk.inj (Option.some.inj h)).2
  subst e1
  subst e2
  exact Rn.iret n124_38 mr124
def m124_0 (F : Nat) (v0 : Nat) (v1 : Int32) (v2 : Int32) (v3 : Int32) (hp : List mE) : Option (Int32 × List mE) :=
  (gfr 10 2 hp v0).bind fun x1 =>
  (rcv 1 hp x1).bind fun u3 =>
  (e16 F x1 v1 hp).bind fun q2 =>
  if mc1 .ne q2.1 = true then
    (gfr 10 0 q2.2 v0).bind fun x5 =>
    (rcv 3 q2.2 x5).bind fun u7 =>
    (e37 F x5 v2 q2.2).bind fun q6 =>
    if mc1 .eq q6.1 = true then
      m124_35 F q6.2
    else
      if mc1 .lt v3 = true then
        m124_35 F q6.2
      else
        if mc2 .le v3 1 = true then
          if mc1 .ne v3 = true then
            (gfr 10 3 q6.2 v0).bind fun x12 =>
            (rcv 9 q6.2 x12).bind fun u14 =>
            (e94 F x12 v1 v2 q6.2).bind fun q13 =>
            m124_64 F q13.1 q13.2
          else
            (gfr 10 3 q6.2 v0).bind fun x15 =>
            (rcv 9 q6.2 x15).bind fun u17 =>
            (e93 F x15 v1 v2 q6.2).bind fun q16 =>
            m124_64 F q16.1 q16.2
        else
          m124_35 F q6.2
  else
    some ((-1001), q2.2)
theorem t124_0 {d c w n : Nat} (hd : 7 ≤ d) (F : Nat) : ∀ (v0 : Nat) (v1 : Int32) (v2 : Int32) (v3 : Int32) (lv : List (Nat × Value)) (hp : List mE) (v : Int32) (hp' : List mE), alk 0 lv = some (.ref v0) → alk 1 lv = some (.int v1) → alk 2 lv = some (.int v2) → alk 3 lv = some (.int v3) → lvk n lv → hp.length = n → v0 < n → m124_0 F v0 v1 v2 v3 hp = some (v, hp') → Rn d 124 0 lv [] hp c w (some (.int v), hp', c, w) := by
  obtain ⟨d', rfl⟩ : ∃ d', d = d' + 1 := ⟨d - 1, by omega⟩
  intro v0 v1 v2 v3 lv hp v hp' l0 l1 l2 l3 ok hn r_v0 h
  unfold m124_0 at h
  refine Rn.aload_n n124_0 l0 ?_
  obtain ⟨x1, hx1, h⟩ := Option.bind_eq_some_iff.mp h
  refine Rn.gf n124_1 mo124 fl10_28 (gfr_v hx1).1 ?_
  have r_x1 : x1 < n := by rw [← hn]; exact (gfr_v hx1).2
  refine Rn.iload_n n124_4 l1 ?_
  obtain ⟨u3, hu3, h⟩ := Option.bind_eq_some_iff.mp h
  obtain ⟨q2, hq2, h⟩ := Option.bind_eq_some_iff.mp h
  have gq2 := c16 (d := d') (by omega) F _ _ _ _ _ (by rw [hn]; exact r_x1) hq2
  refine Rn.cv (As := [.int v1]) (rr := []) n124_5 mo124 mm10_130 (by decide) mq16 rfl rfl rfl rfl (by rw [mo16]; exact hu3) (Nat.le_of_ble_eq_true rfl) (by rw [hn]; exact (okc (okr r_x1) (okc rfl okn))) (by rw [hn]; exact okn) (by rw [hn]; exact ok) (by rw [ml16]; exact Nat.le_of_ble_eq_true rfl) gq2 ?_
  have hn := (Rn.len gq2).trans hn
  show Rn _ 124 8 lv [.int q2.1] q2.2 c w _
  by_cases hc4 : mc1 .ne q2.1 = true
  · rw [if_pos hc4] at h
    refine Rn.c1t (t := 15) n124_8 (by decide) hc4 ?_
    refine Rn.aload_n n124_15 l0 ?_
    obtain ⟨x5, hx5, h⟩ := Option.bind_eq_some_iff.mp h
    refine Rn.gf n124_16 mo124 fl10_12 (gfr_v hx5).1 ?_
    have r_x5 : x5 < n := by rw [← hn]; exact (gfr_v hx5).2
    refine Rn.iload_n n124_19 l2 ?_
    obtain ⟨u7, hu7, h⟩ := Option.bind_eq_some_iff.mp h
    obtain ⟨q6, hq6, h⟩ := Option.bind_eq_some_iff.mp h
    have gq6 := c37 (d := d') (by omega) F _ _ _ _ _ (by rw [hn]; exact r_x5) hq6
    refine Rn.cv (As := [.int v2]) (rr := []) n124_20 mo124 mm10_187 (by decide) mq37 rfl rfl rfl rfl (by rw [mo37]; exact hu7) (Nat.le_of_ble_eq_true rfl) (by rw [hn]; exact (okc (okr r_x5) (okc rfl okn))) (by rw [hn]; exact okn) (by rw [hn]; exact ok) (by rw [ml37]; exact Nat.le_of_ble_eq_true rfl) gq6 ?_
    have hn := (Rn.len gq6).trans hn
    show Rn _ 124 23 lv [.int q6.1] q6.2 c w _
    by_cases hc8 : mc1 .eq q6.1 = true
    · rw [if_pos hc8] at h
      refine Rn.c1t (t := 35) n124_23 (by decide) hc8 ?_
      exact t124_35 hd F  lv _ _ _  ok hn   h
    · rw [if_neg hc8] at h
      refine Rn.c1f (t := 35) n124_23 (by decide) hc8 ?_
      refine Rn.iload_n n124_26 l3 ?_
      by_cases hc9 : mc1 .lt v3 = true
      · rw [if_pos hc9] at h
        refine Rn.c1t (t := 35) n124_27 (by decide) hc9 ?_
        exact t124_35 hd F  lv _ _ _  ok hn   h
      · rw [if_neg hc9] at h
        refine Rn.c1f (t := 35) n124_27 (by decide) hc9 ?_
        refine Rn.iload_n n124_30 l3 ?_
        refine Rn.ic (v := 1) n124_31 (by decide) ?_
        by_cases hc10 : mc2 .le v3 1 = true
        · rw [if_pos hc10] at h
          refine Rn.c2t (t := 39) n124_32 (by decide) hc10 ?_
          refine Rn.iload_n n124_39 l3 ?_
          by_cases hc11 : mc1 .ne v3 = true
          · rw [if_pos hc11] at h
            refine Rn.c1t (t := 55) n124_40 (by decide) hc11 ?_
            refine Rn.aload_n n124_55 l0 ?_
            obtain ⟨x12, hx12, h⟩ := Option.bind_eq_some_iff.mp h
            refine Rn.gf n124_56 mo124 fl10_37 (gfr_v hx12).1 ?_
            have r_x12 : x12 < n := by rw [← hn]; exact (gfr_v hx12).2
            refine Rn.iload_n n124_59 l1 ?_
            refine Rn.iload_n n124_60 l2 ?_
            obtain ⟨u14, hu14, h⟩ := Option.bind_eq_some_iff.mp h
            obtain ⟨q13, hq13, h⟩ := Option.bind_eq_some_iff.mp h
            have gq13 := c94 (d := d') (by omega) F _ _ _ _ _ _ (by rw [hn]; exact r_x12) hq13
            refine Rn.cv (As := [.int v1, .int v2]) (rr := []) n124_61 mo124 mm10_193 (by decide) mq94 rfl rfl rfl rfl (by rw [mo94]; exact hu14) (Nat.le_of_ble_eq_true rfl) (by rw [hn]; exact (okc (okr r_x12) (okc rfl (okc rfl okn)))) (by rw [hn]; exact okn) (by rw [hn]; exact ok) (by rw [ml94]; exact Nat.le_of_ble_eq_true rfl) gq13 ?_
            have hn := (Rn.len gq13).trans hn
            show Rn _ 124 64 lv [.int q13.1] q13.2 c w _
            exact t124_64 hd F  _ lv _ _ _  ok hn   h
          · rw [if_neg hc11] at h
            refine Rn.c1f (t := 55) n124_40 (by decide) hc11 ?_
            refine Rn.aload_n n124_43 l0 ?_
            obtain ⟨x15, hx15, h⟩ := Option.bind_eq_some_iff.mp h
            refine Rn.gf n124_44 mo124 fl10_37 (gfr_v hx15).1 ?_
            have r_x15 : x15 < n := by rw [← hn]; exact (gfr_v hx15).2
            refine Rn.iload_n n124_47 l1 ?_
            refine Rn.iload_n n124_48 l2 ?_
            obtain ⟨u17, hu17, h⟩ := Option.bind_eq_some_iff.mp h
            obtain ⟨q16, hq16, h⟩ := Option.bind_eq_some_iff.mp h
            have gq16 := c93 (d := d') (by omega) F _ _ _ _ _ _ (by rw [hn]; exact r_x15) hq16
            refine Rn.cv (As := [.int v1, .int v2]) (rr := []) n124_49 mo124 mm10_190 (by decide) mq93 rfl rfl rfl rfl (by rw [mo93]; exact hu17) (Nat.le_of_ble_eq_true rfl) (by rw [hn]; exact (okc (okr r_x15) (okc rfl (okc rfl okn)))) (by rw [hn]; exact okn) (by rw [hn]; exact ok) (by rw [ml93]; exact Nat.le_of_ble_eq_true rfl) gq16 ?_
            have hn := (Rn.len gq16).trans hn
            show Rn _ 124 52 lv [.int q16.1] q16.2 c w _
            refine Rn.goto (t := 64) n124_52 (by decide) ?_
            exact t124_64 hd F  _ lv _ _ _  ok hn   h
        · rw [if_neg hc10] at h
          refine Rn.c2f (t := 39) n124_32 (by decide) hc10 ?_
          exact t124_35 hd F  lv _ _ _  ok hn   h
  · rw [if_neg hc4] at h
    refine Rn.c1f (t := 15) n124_8 (by decide) hc4 ?_
    refine Rn.sp (v := (-1001)) n124_11 (by decide) ?_
    have e1 := (Prod.mk.inj (Option.some.inj h)).1
    have e2 := (Prod.mk.inj (Option.some.inj h)).2
    subst e1
    subst e2
    exact Rn.iret n124_14 mr124
def e124 (F : Nat) (a0 : Nat) (a1 : Int32) (a2 : Int32) (a3 : Int32) (hp : List mE) : Option (Int32 × List mE) := m124_0 F a0 a1 a2 a3 hp
theorem c124 {d : Nat} (hd : 7 ≤ d) (F : Nat) (a0 : Nat) (a1 : Int32) (a2 : Int32) (a3 : Int32) (hp : List mE) (v : Int32) (hp' : List mE) (ra0 : a0 < hp.length) (h : e124 F a0 a1 a2 a3 hp = some (v, hp')) : Rn d 124 0 (lv_args 0 [.ref a0, .int a1, .int a2, .int a3]) [] hp 0 0 (some (.int v), hp', 0, 0) :=
  t124_0 (n := hp.length) hd F a0 a1 a2 a3 (lv_args 0 [.ref a0, .int a1, .int a2, .int a3]) hp v hp' rfl rfl rfl rfl (lvk_args (okc (okr ra0) (okc rfl (okc rfl (okc rfl okn))))) rfl ra0 h
/-! MirrorRoots.both -/
def m125_37 (F : Nat) (hp : List mE) : Option (Int32 × List mE) :=
  some ((-1002), hp)
theorem t125_37 {d c w n : Nat} (hd : 4 ≤ d) (F : Nat) : ∀ (lv : List (Nat × Value)) (hp : List mE) (v : Int32) (hp' : List mE), lvk n lv → hp.length = n → m125_37 F hp = some (v, hp') → Rn d 125 37 lv [] hp c w (some (.int v), hp', c, w) := by
  obtain ⟨d', rfl⟩ : ∃ d', d = d' + 1 := ⟨d - 1, by omega⟩
  intro lv hp v hp' ok hn h
  unfold m125_37 at h
  refine Rn.sp (v := (-1002)) n125_37 (by decide) ?_
  have e1 := (Prod.mk.inj (Option.some.inj h)).1
  have e2 := (Prod.mk.inj (Option.some.inj h)).2
  subst e1
  subst e2
  exact Rn.iret n125_40 mr125
def m125_0 (F : Nat) (v0 : Nat) (v1 : Int32) (v2 : Int32) (v3 : Int32) (hp : List mE) : Option (Int32 × List mE) :=
  (gfr 10 2 hp v0).bind fun x1 =>
  (rcv 1 hp x1).bind fun u3 =>
  (e16 F x1 v1 hp).bind fun q2 =>
  if mc1 .ne q2.1 = true then
    (gfr 10 0 q2.2 v0).bind fun x5 =>
    (rcv 3 q2.2 x5).bind fun u7 =>
    (e37 F x5 v2 q2.2).bind fun q6 =>
    if mc1 .eq q6.1 = true then
      m125_37 F q6.2
    else
      (gfr 10 0 q6.2 v0).bind fun x9 =>
      (rcv 3 q6.2 x9).bind fun u11 =>
      (e37 F x9 v3 q6.2).bind fun q10 =>
      if mc1 .ne q10.1 = true then
        (gfr 10 3 q10.2 v0).bind fun x13 =>
        (rcv 9 q10.2 x13).bind fun u15 =>
        (e95 F x13 v1 v2 v3 q10.2).bind fun q14 =>
        some (q14.1, q14.2)
      else
        m125_37 F q10.2
  else
    some ((-1001), q2.2)
theorem t125_0 {d c w n : Nat} (hd : 4 ≤ d) (F : Nat) : ∀ (v0 : Nat) (v1 : Int32) (v2 : Int32) (v3 : Int32) (lv : List (Nat × Value)) (hp : List mE) (v : Int32) (hp' : List mE), alk 0 lv = some (.ref v0) → alk 1 lv = some (.int v1) → alk 2 lv = some (.int v2) → alk 3 lv = some (.int v3) → lvk n lv → hp.length = n → v0 < n → m125_0 F v0 v1 v2 v3 hp = some (v, hp') → Rn d 125 0 lv [] hp c w (some (.int v), hp', c, w) := by
  obtain ⟨d', rfl⟩ : ∃ d', d = d' + 1 := ⟨d - 1, by omega⟩
  intro v0 v1 v2 v3 lv hp v hp' l0 l1 l2 l3 ok hn r_v0 h
  unfold m125_0 at h
  refine Rn.aload_n n125_0 l0 ?_
  obtain ⟨x1, hx1, h⟩ := Option.bind_eq_some_iff.mp h
  refine Rn.gf n125_1 mo125 fl10_28 (gfr_v hx1).1 ?_
  have r_x1 : x1 < n := by rw [← hn]; exact (gfr_v hx1).2
  refine Rn.iload_n n125_4 l1 ?_
  obtain ⟨u3, hu3, h⟩ := Option.bind_eq_some_iff.mp h
  obtain ⟨q2, hq2, h⟩ := Option.bind_eq_some_iff.mp h
  have gq2 := c16 (d := d') (by omega) F _ _ _ _ _ (by rw [hn]; exact r_x1) hq2
  refine Rn.cv (As := [.int v1]) (rr := []) n125_5 mo125 mm10_130 (by decide) mq16 rfl rfl rfl rfl (by rw [mo16]; exact hu3) (Nat.le_of_ble_eq_true rfl) (by rw [hn]; exact (okc (okr r_x1) (okc rfl okn))) (by rw [hn]; exact okn) (by rw [hn]; exact ok) (by rw [ml16]; exact Nat.le_of_ble_eq_true rfl) gq2 ?_
  have hn := (Rn.len gq2).trans hn
  show Rn _ 125 8 lv [.int q2.1] q2.2 c w _
  by_cases hc4 : mc1 .ne q2.1 = true
  · rw [if_pos hc4] at h
    refine Rn.c1t (t := 15) n125_8 (by decide) hc4 ?_
    refine Rn.aload_n n125_15 l0 ?_
    obtain ⟨x5, hx5, h⟩ := Option.bind_eq_some_iff.mp h
    refine Rn.gf n125_16 mo125 fl10_12 (gfr_v hx5).1 ?_
    have r_x5 : x5 < n := by rw [← hn]; exact (gfr_v hx5).2
    refine Rn.iload_n n125_19 l2 ?_
    obtain ⟨u7, hu7, h⟩ := Option.bind_eq_some_iff.mp h
    obtain ⟨q6, hq6, h⟩ := Option.bind_eq_some_iff.mp h
    have gq6 := c37 (d := d') (by omega) F _ _ _ _ _ (by rw [hn]; exact r_x5) hq6
    refine Rn.cv (As := [.int v2]) (rr := []) n125_20 mo125 mm10_187 (by decide) mq37 rfl rfl rfl rfl (by rw [mo37]; exact hu7) (Nat.le_of_ble_eq_true rfl) (by rw [hn]; exact (okc (okr r_x5) (okc rfl okn))) (by rw [hn]; exact okn) (by rw [hn]; exact ok) (by rw [ml37]; exact Nat.le_of_ble_eq_true rfl) gq6 ?_
    have hn := (Rn.len gq6).trans hn
    show Rn _ 125 23 lv [.int q6.1] q6.2 c w _
    by_cases hc8 : mc1 .eq q6.1 = true
    · rw [if_pos hc8] at h
      refine Rn.c1t (t := 37) n125_23 (by decide) hc8 ?_
      exact t125_37 hd F  lv _ _ _  ok hn   h
    · rw [if_neg hc8] at h
      refine Rn.c1f (t := 37) n125_23 (by decide) hc8 ?_
      refine Rn.aload_n n125_26 l0 ?_
      obtain ⟨x9, hx9, h⟩ := Option.bind_eq_some_iff.mp h
      refine Rn.gf n125_27 mo125 fl10_12 (gfr_v hx9).1 ?_
      have r_x9 : x9 < n := by rw [← hn]; exact (gfr_v hx9).2
      refine Rn.iload_n n125_30 l3 ?_
      obtain ⟨u11, hu11, h⟩ := Option.bind_eq_some_iff.mp h
      obtain ⟨q10, hq10, h⟩ := Option.bind_eq_some_iff.mp h
      have gq10 := c37 (d := d') (by omega) F _ _ _ _ _ (by rw [hn]; exact r_x9) hq10
      refine Rn.cv (As := [.int v3]) (rr := []) n125_31 mo125 mm10_187 (by decide) mq37 rfl rfl rfl rfl (by rw [mo37]; exact hu11) (Nat.le_of_ble_eq_true rfl) (by rw [hn]; exact (okc (okr r_x9) (okc rfl okn))) (by rw [hn]; exact okn) (by rw [hn]; exact ok) (by rw [ml37]; exact Nat.le_of_ble_eq_true rfl) gq10 ?_
      have hn := (Rn.len gq10).trans hn
      show Rn _ 125 34 lv [.int q10.1] q10.2 c w _
      by_cases hc12 : mc1 .ne q10.1 = true
      · rw [if_pos hc12] at h
        refine Rn.c1t (t := 41) n125_34 (by decide) hc12 ?_
        refine Rn.aload_n n125_41 l0 ?_
        obtain ⟨x13, hx13, h⟩ := Option.bind_eq_some_iff.mp h
        refine Rn.gf n125_42 mo125 fl10_37 (gfr_v hx13).1 ?_
        have r_x13 : x13 < n := by rw [← hn]; exact (gfr_v hx13).2
        refine Rn.iload_n n125_45 l1 ?_
        refine Rn.iload_n n125_46 l2 ?_
        refine Rn.iload_n n125_47 l3 ?_
        obtain ⟨u15, hu15, h⟩ := Option.bind_eq_some_iff.mp h
        obtain ⟨q14, hq14, h⟩ := Option.bind_eq_some_iff.mp h
        have gq14 := c95 (d := d') (by omega) F _ _ _ _ _ _ _ (by rw [hn]; exact r_x13) hq14
        refine Rn.cv (As := [.int v1, .int v2, .int v3]) (rr := []) n125_48 mo125 mm10_196 (by decide) mq95 rfl rfl rfl rfl (by rw [mo95]; exact hu15) (Nat.le_of_ble_eq_true rfl) (by rw [hn]; exact (okc (okr r_x13) (okc rfl (okc rfl (okc rfl okn))))) (by rw [hn]; exact okn) (by rw [hn]; exact ok) (by rw [ml95]; exact Nat.le_of_ble_eq_true rfl) gq14 ?_
        have hn := (Rn.len gq14).trans hn
        show Rn _ 125 51 lv [.int q14.1] q14.2 c w _
        have e1 := (Prod.mk.inj (Option.some.inj h)).1
        have e2 := (Prod.mk.inj (Option.some.inj h)).2
        subst e1
        subst e2
        exact Rn.iret n125_51 mr125
      · rw [if_neg hc12] at h
        refine Rn.c1f (t := 41) n125_34 (by decide) hc12 ?_
        exact t125_37 hd F  lv _ _ _  ok hn   h
  · rw [if_neg hc4] at h
    refine Rn.c1f (t := 15) n125_8 (by decide) hc4 ?_
    refine Rn.sp (v := (-1001)) n125_11 (by decide) ?_
    have e1 := (Prod.mk.inj (Option.some.inj h)).1
    have e2 := (Prod.mk.inj (Option.some.inj h)).2
    subst e1
    subst e2
    exact Rn.iret n125_14 mr125
def e125 (F : Nat) (a0 : Nat) (a1 : Int32) (a2 : Int32) (a3 : Int32) (hp : List mE) : Option (Int32 × List mE) := m125_0 F a0 a1 a2 a3 hp
theorem c125 {d : Nat} (hd : 4 ≤ d) (F : Nat) (a0 : Nat) (a1 : Int32) (a2 : Int32) (a3 : Int32) (hp : List mE) (v : Int32) (hp' : List mE) (ra0 : a0 < hp.length) (h : e125 F a0 a1 a2 a3 hp = some (v, hp')) : Rn d 125 0 (lv_args 0 [.ref a0, .int a1, .int a2, .int a3]) [] hp 0 0 (some (.int v), hp', 0, 0) :=
  t125_0 (n := hp.length) hd F a0 a1 a2 a3 (lv_args 0 [.ref a0, .int a1, .int a2, .int a3]) hp v hp' rfl rfl rfl rfl (lvk_args (okc (okr ra0) (okc rfl (okc rfl (okc rfl okn))))) rfl ra0 h
/-! MirrorRoots.order -/
def m129_0 (F : Nat) (v0 : Nat) (v1 : Int32) (hp : List mE) : Option (Int32 × List mE) :=
  (gfr 10 2 hp v0).bind fun x1 =>
  (rcv 1 hp x1).bind fun u3 =>
  (e16 F x1 v1 hp).bind fun q2 =>
  if mc1 .ne q2.1 = true then
    (gfr 10 2 q2.2 v0).bind fun x5 =>
    (gfr 1 3 q2.2 x5).bind fun x6 =>
    (rdI q2.2 x6 v1).bind fun x7 =>
    if mc2 .le x7 8 = true then
      (gfr 10 4 q2.2 v0).bind fun x9 =>
      (rcv 5 q2.2 x9).bind fun u11 =>
      (e56 F x9 v1 q2.2).bind fun q10 =>
      some (q10.1, q10.2)
    else
      some ((-1005), q2.2)
  else
    some ((-1001), q2.2)
theorem t129_0 {d c w n : Nat} (hd : 3 ≤ d) (F : Nat) : ∀ (v0 : Nat) (v1 : Int32) (lv : List (Nat × Value)) (hp : List mE) (v : Int32) (hp' : List mE), alk 0 lv = some (.ref v0) → alk 1 lv = some (.int v1) → lvk n lv → hp.length = n → v0 < n → m129_0 F v0 v1 hp = some (v, hp') → Rn d 129 0 lv [] hp c w (some (.int v), hp', c, w) := by
  obtain ⟨d', rfl⟩ : ∃ d', d = d' + 1 := ⟨d - 1, by omega⟩
  intro v0 v1 lv hp v hp' l0 l1 ok hn r_v0 h
  unfold m129_0 at h
  refine Rn.aload_n n129_0 l0 ?_
  obtain ⟨x1, hx1, h⟩ := Option.bind_eq_some_iff.mp h
  refine Rn.gf n129_1 mo129 fl10_28 (gfr_v hx1).1 ?_
  have r_x1 : x1 < n := by rw [← hn]; exact (gfr_v hx1).2
  refine Rn.iload_n n129_4 l1 ?_
  obtain ⟨u3, hu3, h⟩ := Option.bind_eq_some_iff.mp h
  obtain ⟨q2, hq2, h⟩ := Option.bind_eq_some_iff.mp h
  have gq2 := c16 (d := d') (by omega) F _ _ _ _ _ (by rw [hn]; exact r_x1) hq2
  refine Rn.cv (As := [.int v1]) (rr := []) n129_5 mo129 mm10_130 (by decide) mq16 rfl rfl rfl rfl (by rw [mo16]; exact hu3) (Nat.le_of_ble_eq_true rfl) (by rw [hn]; exact (okc (okr r_x1) (okc rfl okn))) (by rw [hn]; exact okn) (by rw [hn]; exact ok) (by rw [ml16]; exact Nat.le_of_ble_eq_true rfl) gq2 ?_
  have hn := (Rn.len gq2).trans hn
  show Rn _ 129 8 lv [.int q2.1] q2.2 c w _
  by_cases hc4 : mc1 .ne q2.1 = true
  · rw [if_pos hc4] at h
    refine Rn.c1t (t := 15) n129_8 (by decide) hc4 ?_
    refine Rn.aload_n n129_15 l0 ?_
    obtain ⟨x5, hx5, h⟩ := Option.bind_eq_some_iff.mp h
    refine Rn.gf n129_16 mo129 fl10_28 (gfr_v hx5).1 ?_
    have r_x5 : x5 < n := by rw [← hn]; exact (gfr_v hx5).2
    obtain ⟨x6, hx6, h⟩ := Option.bind_eq_some_iff.mp h
    refine Rn.gf n129_19 mo129 fl10_131 (gfr_v hx6).1 ?_
    have r_x6 : x6 < n := by rw [← hn]; exact (gfr_v hx6).2
    refine Rn.iload_n n129_22 l1 ?_
    obtain ⟨x7, hx7, h⟩ := Option.bind_eq_some_iff.mp h
    refine Rn.iald n129_23 hx7 ?_
    refine Rn.bp (v := 8) n129_24 (by decide) ?_
    by_cases hc8 : mc2 .le x7 8 = true
    · rw [if_pos hc8] at h
      refine Rn.c2t (t := 33) n129_26 (by decide) hc8 ?_
      refine Rn.aload_n n129_33 l0 ?_
      obtain ⟨x9, hx9, h⟩ := Option.bind_eq_some_iff.mp h
      refine Rn.gf n129_34 mo129 fl10_44 (gfr_v hx9).1 ?_
      have r_x9 : x9 < n := by rw [← hn]; exact (gfr_v hx9).2
      refine Rn.iload_n n129_37 l1 ?_
      obtain ⟨u11, hu11, h⟩ := Option.bind_eq_some_iff.mp h
      obtain ⟨q10, hq10, h⟩ := Option.bind_eq_some_iff.mp h
      have gq10 := c56 (d := d') (by omega) F _ _ _ _ _ (by rw [hn]; exact r_x9) hq10
      refine Rn.cv (As := [.int v1]) (rr := []) n129_38 mo129 mm10_210 (by decide) mq56 rfl rfl rfl rfl (by rw [mo56]; exact hu11) (Nat.le_of_ble_eq_true rfl) (by rw [hn]; exact (okc (okr r_x9) (okc rfl okn))) (by rw [hn]; exact okn) (by rw [hn]; exact ok) (by rw [ml56]; exact Nat.le_of_ble_eq_true rfl) gq10 ?_
      have hn := (Rn.len gq10).trans hn
      show Rn _ 129 41 lv [.int q10.1] q10.2 c w _
      have e1 := (Prod.mk.inj (Option.some.inj h)).1
      have e2 := (Prod.mk.inj (Option.some.inj h)).2
      subst e1
      subst e2
      exact Rn.iret n129_41 mr129
    · rw [if_neg hc8] at h
      refine Rn.c2f (t := 33) n129_26 (by decide) hc8 ?_
      refine Rn.sp (v := (-1005)) n129_29 (by decide) ?_
      have e1 := (Prod.mk.inj (Option.some.inj h)).1
      have e2 := (Prod.mk.inj (Option.some.inj h)).2
      subst e1
      subst e2
      exact Rn.iret n129_32 mr129
  · rw [if_neg hc4] at h
    refine Rn.c1f (t := 15) n129_8 (by decide) hc4 ?_
    refine Rn.sp (v := (-1001)) n129_11 (by decide) ?_
    have e1 := (Prod.mk.inj (Option.some.inj h)).1
    have e2 := (Prod.mk.inj (Option.some.inj h)).2
    subst e1
    subst e2
    exact Rn.iret n129_14 mr129
def e129 (F : Nat) (a0 : Nat) (a1 : Int32) (hp : List mE) : Option (Int32 × List mE) := m129_0 F a0 a1 hp
theorem c129 {d : Nat} (hd : 3 ≤ d) (F : Nat) (a0 : Nat) (a1 : Int32) (hp : List mE) (v : Int32) (hp' : List mE) (ra0 : a0 < hp.length) (h : e129 F a0 a1 hp = some (v, hp')) : Rn d 129 0 (lv_args 0 [.ref a0, .int a1]) [] hp 0 0 (some (.int v), hp', 0, 0) :=
  t129_0 (n := hp.length) hd F a0 a1 (lv_args 0 [.ref a0, .int a1]) hp v hp' rfl rfl (lvk_args (okc (okr ra0) (okc rfl okn))) rfl ra0 h
