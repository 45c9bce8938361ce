/-! MirrorRootsModel.in -/
def m137_18 (F : Nat) (t0 : Int32) (hp : List mE) : Option (Int32 × List mE) :=
  if t0 = 0 ∨ t0 = 1 then some (t0, hp) else none
theorem t137_18 {d c w n : Nat} (hd : 0 ≤ d) (F : Nat) : ∀ (t0 : Int32) (lv : List (Nat × Value)) (hp : List mE) (v : Int32) (hp' : List mE), lvk n lv → hp.length = n → m137_18 F t0 hp = some (v, hp') → Rn d 137 18 lv [.int t0] hp c w (some (.int v), hp', c, w) := by
  intro t0 lv hp v hp' ok hn h
  unfold m137_18 at h
  by_cases hz1 : t0 = 0 ∨ t0 = 1
  · rw [if_pos hz1] at h
    have e1 := (Prod.mk.inj (Option.some.inj h)).1
    have e2 := (Prod.mk.inj (Option.some.inj h)).2
    subst e1
    subst e2
    exact Rn.zret n137_18 mr137 hz1
  · rw [if_neg hz1] at h; cases h
def m137_17 (F : Nat) (hp : List mE) : Option (Int32 × List mE) :=
  m137_18 F 0 hp
theorem t137_17 {d c w n : Nat} (hd : 0 ≤ d) (F : Nat) : ∀ (lv : List (Nat × Value)) (hp : List mE) (v : Int32) (hp' : List mE), lvk n lv → hp.length = n → m137_17 F hp = some (v, hp') → Rn d 137 17 lv [] hp c w (some (.int v), hp', c, w) := by
  intro lv hp v hp' ok hn h
  unfold m137_17 at h
  refine Rn.ic (v := 0) n137_17 (by decide) ?_
  exact t137_18 hd F  _ lv _ _ _  ok hn   h
def m137_0 (F : Nat) (v0 : Int64) (v2 : Int64) (v4 : Int64) (hp : List mE) : Option (Int32 × List mE) :=
  if mc1 .lt (lg_cmp v0 v2) = true then
    m137_17 F hp
  else
    if mc1 .gt (lg_cmp v0 v4) = true then
      m137_17 F hp
    else
      m137_18 F 1 hp
theorem t137_0 {d c w n : Nat} (hd : 0 ≤ d) (F : Nat) : ∀ (v0 : Int64) (v2 : Int64) (v4 : Int64) (lv : List (Nat × Value)) (hp : List mE) (v : Int32) (hp' : List mE), alk 0 lv = some (.long v0) → alk 2 lv = some (.long v2) → alk 4 lv = some (.long v4) → lvk n lv → hp.length = n → m137_0 F v0 v2 v4 hp = some (v, hp') → Rn d 137 0 lv [] hp c w (some (.int v), hp', c, w) := by
  intro v0 v2 v4 lv hp v hp' l0 l2 l4 ok hn h
  unfold m137_0 at h
  refine Rn.lload_n n137_0 l0 ?_
  refine Rn.lload_n n137_1 l2 ?_
  refine Rn.p n137_2 rfl ?_
  by_cases hc1 : mc1 .lt (lg_cmp v0 v2) = true
  · rw [if_pos hc1] at h
    refine Rn.c1t (t := 17) n137_3 (by decide) hc1 ?_
    exact t137_17 hd F  lv _ _ _  ok hn   h
  · rw [if_neg hc1] at h
    refine Rn.c1f (t := 17) n137_3 (by decide) hc1 ?_
    refine Rn.lload_n n137_6 l0 ?_
    refine Rn.lload n137_7 l4 ?_
    refine Rn.p n137_9 rfl ?_
    by_cases hc2 : mc1 .gt (lg_cmp v0 v4) = true
    · rw [if_pos hc2] at h
      refine Rn.c1t (t := 17) n137_10 (by decide) hc2 ?_
      exact t137_17 hd F  lv _ _ _  ok hn   h
    · rw [if_neg hc2] at h
      refine Rn.c1f (t := 17) n137_10 (by decide) hc2 ?_
      refine Rn.ic (v := 1) n137_13 (by decide) ?_
      refine Rn.goto (t := 18) n137_14 (by decide) ?_
      exact t137_18 hd F  _ lv _ _ _  ok hn   h
def e137 (F : Nat) (a0 : Int64) (a1 : Int64) (a2 : Int64) (hp : List mE) : Option (Int32 × List mE) := m137_0 F a0 a1 a2 hp
theorem c137 {d : Nat} (hd : 0 ≤ d) (F : Nat) (a0 : Int64) (a1 : Int64) (a2 : Int64) (hp : List mE) (v : Int32) (hp' : List mE) (h : e137 F a0 a1 a2 hp = some (v, hp')) : Rn d 137 0 (lv_args 0 [.long a0, .long a1, .long a2]) [] hp 0 0 (some (.int v), hp', 0, 0) :=
  t137_0 (n := hp.length) hd F a0 a1 a2 (lv_args 0 [.long a0, .long a1, .long a2]) hp v hp' rfl rfl rfl (lvk_args (okc rfl (okc rfl (okc rfl okn)))) rfl  h
/-! MirrorRootsModel.take -/
def m138_169 (F : Nat) (rc7 : Nat → Int32 → List mE → Option (Unit × List mE)) (rc14 : Nat → Int32 → Int32 → List mE → Option (Unit × List mE)) (v0 : Nat) (v2 : Int32) (v3 : Int32) (t0 : Nat) (t1 : Int32) (t2 : Int32) (hp : List mE) : Option (Unit × List mE) :=
  (wrI hp t0 t1 t2).bind fun hp1 =>
  rc14 v0 v2 (v3 + 1) hp1
theorem t138_169 {d c w n : Nat} (hd : 0 ≤ d) (F : Nat) {rc7 : Nat → Int32 → List mE → Option (Unit × List mE)} {rc14 : Nat → Int32 → Int32 → List mE → Option (Unit × List mE)} (hr7 : ∀ (v0 : Nat) (v2 : Int32) (lv : List (Nat × Value)) (hp : List mE) (v : Unit) (hp' : List mE), alk 0 lv = some (.ref v0) → alk 2 lv = some (.int v2) → lvk n lv → hp.length = n → v0 < n → rc7 v0 v2 hp = some (v, hp') → Rn d 138 7 lv [] hp c w (none, hp', c, w)) (hr14 : ∀ (v0 : Nat) (v2 : Int32) (v3 : Int32) (lv : List (Nat × Value)) (hp : List mE) (v : Unit) (hp' : List mE), alk 0 lv = some (.ref v0) → alk 2 lv = some (.int v2) → alk 3 lv = some (.int v3) → lvk n lv → hp.length = n → v0 < n → rc14 v0 v2 v3 hp = some (v, hp') → Rn d 138 14 lv [] hp c w (none, hp', c, w)) : ∀ (v0 : Nat) (v2 : Int32) (v3 : Int32) (t0 : Nat) (t1 : Int32) (t2 : Int32) (lv : List (Nat × Value)) (hp : List mE) (v : Unit) (hp' : List mE), alk 0 lv = some (.ref v0) → alk 2 lv = some (.int v2) → alk 3 lv = some (.int v3) → lvk n lv → hp.length = n → v0 < n → t0 < n → m138_169 F rc7 rc14 v0 v2 v3 t0 t1 t2 hp = some (v, hp') → Rn d 138 169 lv [.int t2, .int t1, .ref t0] hp c w (none, hp', c, w) := by
  intro v0 v2 v3 t0 t1 t2 lv hp v hp' l0 l2 l3 ok hn r_v0 r_t0 h
  unfold m138_169 at h
  obtain ⟨hp1, hhp1, h⟩ := Option.bind_eq_some_iff.mp h
  refine Rn.iast n138_169 hhp1 ?_
  have hn := (wrI_st (st := []) hhp1).2.trans hn
  refine Rn.ii (m := n) (u := 1) n138_170 ml138 (by decide) (by decide) l3 (fun lv l3 hk hok => ?_)
  have l0 := hk 0 _ (by decide) (Or.inl rfl) l0
  have l2 := hk 2 _ (by decide) (Or.inl rfl) l2
  have ok := hok ok
  refine Rn.goto (t := 14) n138_173 (by decide) ?_
  exact hr14 _ _ _ lv _ _ _ l0 l2 l3 ok hn r_v0  h
def m138_137 (F : Nat) (rc7 : Nat → Int32 → List mE → Option (Unit × List mE)) (rc14 : Nat → Int32 → Int32 → List mE → Option (Unit × List mE)) (v0 : Nat) (v2 : Int32) (v3 : Int32) (v5 : Int32) (t0 : Int32) (hp : List mE) : Option (Unit × List mE) :=
  (gfr 11 2 hp v0).bind fun x1 =>
  if mc2 .ne v2 v3 = true then
    if mc2 .ge v2 v3 = true then
      m138_169 F rc7 rc14 v0 v2 v3 x1 ((5 * v2) + v3) t0 hp
    else
      m138_169 F rc7 rc14 v0 v2 v3 x1 ((5 * v2) + v3) v5 hp
  else
    m138_169 F rc7 rc14 v0 v2 v3 x1 ((5 * v2) + v3) 2 hp
theorem t138_137 {d c w n : Nat} (hd : 0 ≤ d) (F : Nat) {rc7 : Nat → Int32 → List mE → Option (Unit × List mE)} {rc14 : Nat → Int32 → Int32 → List mE → Option (Unit × List mE)} (hr7 : ∀ (v0 : Nat) (v2 : Int32) (lv : List (Nat × Value)) (hp : List mE) (v : Unit) (hp' : List mE), alk 0 lv = some (.ref v0) → alk 2 lv = some (.int v2) → lvk n lv → hp.length = n → v0 < n → rc7 v0 v2 hp = some (v, hp') → Rn d 138 7 lv [] hp c w (none, hp', c, w)) (hr14 : ∀ (v0 : Nat) (v2 : Int32) (v3 : Int32) (lv : List (Nat × Value)) (hp : List mE) (v : Unit) (hp' : List mE), alk 0 lv = some (.ref v0) → alk 2 lv = some (.int v2) → alk 3 lv = some (.int v3) → lvk n lv → hp.length = n → v0 < n → rc14 v0 v2 v3 hp = some (v, hp') → Rn d 138 14 lv [] hp c w (none, hp', c, w)) : ∀ (v0 : Nat) (v2 : Int32) (v3 : Int32) (v5 : Int32) (t0 : Int32) (lv : List (Nat × Value)) (hp : List mE) (v : Unit) (hp' : List mE), alk 0 lv = some (.ref v0) → alk 2 lv = some (.int v2) → alk 3 lv = some (.int v3) → alk 5 lv = some (.int v5) → lvk n lv → hp.length = n → v0 < n → m138_137 F rc7 rc14 v0 v2 v3 v5 t0 hp = some (v, hp') → Rn d 138 137 lv [.int t0] hp c w (none, hp', c, w) := by
  intro v0 v2 v3 v5 t0 lv hp v hp' l0 l2 l3 l5 ok hn r_v0 h
  unfold m138_137 at h
  refine Rn.is (m := n) n138_137 ml138 (by decide) (fun lv l6 hk hok => ?_)
  have l0 := hk 0 _ (by decide) (Or.inl rfl) l0
  have l2 := hk 2 _ (by decide) (Or.inl rfl) l2
  have l3 := hk 3 _ (by decide) (Or.inl rfl) l3
  have l5 := hk 5 _ (by decide) (Or.inl rfl) l5
  have ok := hok ok
  refine Rn.aload_n n138_139 l0 ?_
  obtain ⟨x1, hx1, h⟩ := Option.bind_eq_some_iff.mp h
  refine Rn.gf n138_140 mo138 fl11_17 (gfr_v hx1).1 ?_
  have r_x1 : x1 < n := by rw [← hn]; exact (gfr_v hx1).2
  refine Rn.ic (v := 5) n138_143 (by decide) ?_
  refine Rn.iload_n n138_144 l2 ?_
  refine Rn.p n138_145 rfl ?_
  refine Rn.iload_n n138_146 l3 ?_
  refine Rn.p n138_147 rfl ?_
  refine Rn.iload_n n138_148 l2 ?_
  refine Rn.iload_n n138_149 l3 ?_
  by_cases hc2 : mc2 .ne v2 v3 = true
  · rw [if_pos hc2] at h
    refine Rn.c2t (t := 157) n138_150 (by decide) hc2 ?_
    refine Rn.iload_n n138_157 l2 ?_
    refine Rn.iload_n n138_158 l3 ?_
    by_cases hc3 : mc2 .ge v2 v3 = true
    · rw [if_pos hc3] at h
      refine Rn.c2t (t := 167) n138_159 (by decide) hc3 ?_
      refine Rn.iload n138_167 l6 ?_
      exact t138_169 hd F hr7 hr14 _ _ _ _ _ _ lv _ _ _ l0 l2 l3 ok hn r_v0 r_x1 h
    · rw [if_neg hc3] at h
      refine Rn.c2f (t := 167) n138_159 (by decide) hc3 ?_
      refine Rn.iload n138_162 l5 ?_
      refine Rn.goto (t := 169) n138_164 (by decide) ?_
      exact t138_169 hd F hr7 hr14 _ _ _ _ _ _ lv _ _ _ l0 l2 l3 ok hn r_v0 r_x1 h
  · rw [if_neg hc2] at h
    refine Rn.c2f (t := 157) n138_150 (by decide) hc2 ?_
    refine Rn.ic (v := 2) n138_153 (by decide) ?_
    refine Rn.goto (t := 169) n138_154 (by decide) ?_
    exact t138_169 hd F hr7 hr14 _ _ _ _ _ _ lv _ _ _ l0 l2 l3 ok hn r_v0 r_x1 h
def m138_114 (F : Nat) (rc7 : Nat → Int32 → List mE → Option (Unit × List mE)) (rc14 : Nat → Int32 → Int32 → List mE → Option (Unit × List mE)) (v0 : Nat) (v2 : Int32) (v3 : Int32) (v4 : Int32) (t0 : Int32) (hp : List mE) : Option (Unit × List mE) :=
  if mc2 .ne v4 2 = true then
    if mc1 .ne v4 = true then
      m138_137 F rc7 rc14 v0 v2 v3 t0 ((-1)) hp
    else
      m138_137 F rc7 rc14 v0 v2 v3 t0 ((-2)) hp
  else
    m138_137 F rc7 rc14 v0 v2 v3 t0 0 hp
theorem t138_114 {d c w n : Nat} (hd : 0 ≤ d) (F : Nat) {rc7 : Nat → Int32 → List mE → Option (Unit × List mE)} {rc14 : Nat → Int32 → Int32 → List mE → Option (Unit × List mE)} (hr7 : ∀ (v0 : Nat) (v2 : Int32) (lv : List (Nat × Value)) (hp : List mE) (v : Unit) (hp' : List mE), alk 0 lv = some (.ref v0) → alk 2 lv = some (.int v2) → lvk n lv → hp.length = n → v0 < n → rc7 v0 v2 hp = some (v, hp') → Rn d 138 7 lv [] hp c w (none, hp', c, w)) (hr14 : ∀ (v0 : Nat) (v2 : Int32) (v3 : Int32) (lv : List (Nat × Value)) (hp : List mE) (v : Unit) (hp' : List mE), alk 0 lv = some (.ref v0) → alk 2 lv = some (.int v2) → alk 3 lv = some (.int v3) → lvk n lv → hp.length = n → v0 < n → rc14 v0 v2 v3 hp = some (v, hp') → Rn d 138 14 lv [] hp c w (none, hp', c, w)) : ∀ (v0 : Nat) (v2 : Int32) (v3 : Int32) (v4 : Int32) (t0 : Int32) (lv : List (Nat × Value)) (hp : List mE) (v : Unit) (hp' : List mE), alk 0 lv = some (.ref v0) → alk 2 lv = some (.int v2) → alk 3 lv = some (.int v3) → alk 4 lv = some (.int v4) → lvk n lv → hp.length = n → v0 < n → m138_114 F rc7 rc14 v0 v2 v3 v4 t0 hp = some (v, hp') → Rn d 138 114 lv [.int t0] hp c w (none, hp', c, w) := by
  intro v0 v2 v3 v4 t0 lv hp v hp' l0 l2 l3 l4 ok hn r_v0 h
  unfold m138_114 at h
  refine Rn.is (m := n) n138_114 ml138 (by decide) (fun lv l5 hk hok => ?_)
  have l0 := hk 0 _ (by decide) (Or.inl rfl) l0
  have l2 := hk 2 _ (by decide) (Or.inl rfl) l2
  have l3 := hk 3 _ (by decide) (Or.inl rfl) l3
  have l4 := hk 4 _ (by decide) (Or.inl rfl) l4
  have ok := hok ok
  refine Rn.iload n138_116 l4 ?_
  refine Rn.ic (v := 2) n138_118 (by decide) ?_
  by_cases hc1 : mc2 .ne v4 2 = true
  · rw [if_pos hc1] at h
    refine Rn.c2t (t := 126) n138_119 (by decide) hc1 ?_
    refine Rn.iload n138_126 l4 ?_
    by_cases hc2 : mc1 .ne v4 = true
    · rw [if_pos hc2] at h
      refine Rn.c1t (t := 136) n138_128 (by decide) hc2 ?_
      refine Rn.ic (v := (-1)) n138_136 (by decide) ?_
      exact t138_137 hd F hr7 hr14 _ _ _ _ _ lv _ _ _ l0 l2 l3 l5 ok hn r_v0  h
    · rw [if_neg hc2] at h
      refine Rn.c1f (t := 136) n138_128 (by decide) hc2 ?_
      refine Rn.bp (v := (-2)) n138_131 (by decide) ?_
      refine Rn.goto (t := 137) n138_133 (by decide) ?_
      exact t138_137 hd F hr7 hr14 _ _ _ _ _ lv _ _ _ l0 l2 l3 l5 ok hn r_v0  h
  · rw [if_neg hc1] at h
    refine Rn.c2f (t := 126) n138_119 (by decide) hc1 ?_
    refine Rn.ic (v := 0) n138_122 (by decide) ?_
    refine Rn.goto (t := 137) n138_123 (by decide) ?_
    exact t138_137 hd F hr7 hr14 _ _ _ _ _ lv _ _ _ l0 l2 l3 l5 ok hn r_v0  h
def m138_69 (F : Nat) (rc7 : Nat → Int32 → List mE → Option (Unit × List mE)) (rc14 : Nat → Int32 → Int32 → List mE → Option (Unit × List mE)) (v0 : Nat) (v2 : Int32) (v3 : Int32) (v4 : Int32) (t0 : Nat) (t1 : Int32) (t2 : Int32) (hp : List mE) : Option (Unit × List mE) :=
  (wrI hp t0 t1 t2).bind fun hp1 =>
  if mc2 .ne v4 3 = true then
    if mc2 .ne v4 4 = true then
      if mc2 .ne v4 6 = true then
        if mc1 .ne v4 = true then
          m138_114 F rc7 rc14 v0 v2 v3 v4 0 hp1
        else
          m138_114 F rc7 rc14 v0 v2 v3 v4 ((-2)) hp1
      else
        m138_114 F rc7 rc14 v0 v2 v3 v4 ((-3)) hp1
    else
      m138_114 F rc7 rc14 v0 v2 v3 v4 ((-2)) hp1
  else
    m138_114 F rc7 rc14 v0 v2 v3 v4 ((-1)) hp1
theorem t138_69 {d c w n : Nat} (hd : 0 ≤ d) (F : Nat) {rc7 : Nat → Int32 → List mE → Option (Unit × List mE)} {rc14 : Nat → Int32 → Int32 → List mE → Option (Unit × List mE)} (hr7 : ∀ (v0 : Nat) (v2 : Int32) (lv : List (Nat × Value)) (hp : List mE) (v : Unit) (hp' : List mE), alk 0 lv = some (.ref v0) → alk 2 lv = some (.int v2) → lvk n lv → hp.length = n → v0 < n → rc7 v0 v2 hp = some (v, hp') → Rn d 138 7 lv [] hp c w (none, hp', c, w)) (hr14 : ∀ (v0 : Nat) (v2 : Int32) (v3 : Int32) (lv : List (Nat × Value)) (hp : List mE) (v : Unit) (hp' : List mE), alk 0 lv = some (.ref v0) → alk 2 lv = some (.int v2) → alk 3 lv = some (.int v3) → lvk n lv → hp.length = n → v0 < n → rc14 v0 v2 v3 hp = some (v, hp') → Rn d 138 14 lv [] hp c w (none, hp', c, w)) : ∀ (v0 : Nat) (v2 : Int32) (v3 : Int32) (v4 : Int32) (t0 : Nat) (t1 : Int32) (t2 : Int32) (lv : List (Nat × Value)) (hp : List mE) (v : Unit) (hp' : List mE), alk 0 lv = some (.ref v0) → alk 2 lv = some (.int v2) → alk 3 lv = some (.int v3) → alk 4 lv = some (.int v4) → lvk n lv → hp.length = n → v0 < n → t0 < n → m138_69 F rc7 rc14 v0 v2 v3 v4 t0 t1 t2 hp = some (v, hp') → Rn d 138 69 lv [.int t2, .int t1, .ref t0] hp c w (none, hp', c, w) := by
  intro v0 v2 v3 v4 t0 t1 t2 lv hp v hp' l0 l2 l3 l4 ok hn r_v0 r_t0 h
  unfold m138_69 at h
  obtain ⟨hp1, hhp1, h⟩ := Option.bind_eq_some_iff.mp h
  refine Rn.iast n138_69 hhp1 ?_
  have hn := (wrI_st (st := []) hhp1).2.trans hn
  refine Rn.iload n138_70 l4 ?_
  refine Rn.ic (v := 3) n138_72 (by decide) ?_
  by_cases hc2 : mc2 .ne v4 3 = true
  · rw [if_pos hc2] at h
    refine Rn.c2t (t := 80) n138_73 (by decide) hc2 ?_
    refine Rn.iload n138_80 l4 ?_
    refine Rn.ic (v := 4) n138_82 (by decide) ?_
    by_cases hc3 : mc2 .ne v4 4 = true
    · rw [if_pos hc3] at h
      refine Rn.c2t (t := 91) n138_83 (by decide) hc3 ?_
      refine Rn.iload n138_91 l4 ?_
      refine Rn.bp (v := 6) n138_93 (by decide) ?_
      by_cases hc4 : mc2 .ne v4 6 = true
      · rw [if_pos hc4] at h
        refine Rn.c2t (t := 103) n138_95 (by decide) hc4 ?_
        refine Rn.iload n138_103 l4 ?_
        by_cases hc5 : mc1 .ne v4 = true
        · rw [if_pos hc5] at h
          refine Rn.c1t (t := 113) n138_105 (by decide) hc5 ?_
          refine Rn.ic (v := 0) n138_113 (by decide) ?_
          exact t138_114 hd F hr7 hr14 _ _ _ _ _ lv _ _ _ l0 l2 l3 l4 ok hn r_v0  h
        · rw [if_neg hc5] at h
          refine Rn.c1f (t := 113) n138_105 (by decide) hc5 ?_
          refine Rn.bp (v := (-2)) n138_108 (by decide) ?_
          refine Rn.goto (t := 114) n138_110 (by decide) ?_
          exact t138_114 hd F hr7 hr14 _ _ _ _ _ lv _ _ _ l0 l2 l3 l4 ok hn r_v0  h
      · rw [if_neg hc4] at h
        refine Rn.c2f (t := 103) n138_95 (by decide) hc4 ?_
        refine Rn.bp (v := (-3)) n138_98 (by decide) ?_
        refine Rn.goto (t := 114) n138_100 (by decide) ?_
        exact t138_114 hd F hr7 hr14 _ _ _ _ _ lv _ _ _ l0 l2 l3 l4 ok hn r_v0  h
    · rw [if_neg hc3] at h
      refine Rn.c2f (t := 91) n138_83 (by decide) hc3 ?_
      refine Rn.bp (v := (-2)) n138_86 (by decide) ?_
      refine Rn.goto (t := 114) n138_88 (by decide) ?_
      exact t138_114 hd F hr7 hr14 _ _ _ _ _ lv _ _ _ l0 l2 l3 l4 ok hn r_v0  h
  · rw [if_neg hc2] at h
    refine Rn.c2f (t := 80) n138_73 (by decide) hc2 ?_
    refine Rn.ic (v := (-1)) n138_76 (by decide) ?_
    refine Rn.goto (t := 114) n138_77 (by decide) ?_
    exact t138_114 hd F hr7 hr14 _ _ _ _ _ lv _ _ _ l0 l2 l3 l4 ok hn r_v0  h
def m138_47 (F : Nat) (rc7 : Nat → Int32 → List mE → Option (Unit × List mE)) (rc14 : Nat → Int32 → Int32 → List mE → Option (Unit × List mE)) (v0 : Nat) (v2 : Int32) (v3 : Int32) (t0 : Int32) (hp : List mE) : Option (Unit × List mE) :=
  (gfr 11 1 hp v0).bind fun x1 =>
  if mc2 .ne v2 v3 = true then
    m138_69 F rc7 rc14 v0 v2 v3 t0 x1 ((5 * v2) + v3) t0 hp
  else
    m138_69 F rc7 rc14 v0 v2 v3 t0 x1 ((5 * v2) + v3) 1 hp
theorem t138_47 {d c w n : Nat} (hd : 0 ≤ d) (F : Nat) {rc7 : Nat → Int32 → List mE → Option (Unit × List mE)} {rc14 : Nat → Int32 → Int32 → List mE → Option (Unit × List mE)} (hr7 : ∀ (v0 : Nat) (v2 : Int32) (lv : List (Nat × Value)) (hp : List mE) (v : Unit) (hp' : List mE), alk 0 lv = some (.ref v0) → alk 2 lv = some (.int v2) → lvk n lv → hp.length = n → v0 < n → rc7 v0 v2 hp = some (v, hp') → Rn d 138 7 lv [] hp c w (none, hp', c, w)) (hr14 : ∀ (v0 : Nat) (v2 : Int32) (v3 : Int32) (lv : List (Nat × Value)) (hp : List mE) (v : Unit) (hp' : List mE), alk 0 lv = some (.ref v0) → alk 2 lv = some (.int v2) → alk 3 lv = some (.int v3) → lvk n lv → hp.length = n → v0 < n → rc14 v0 v2 v3 hp = some (v, hp') → Rn d 138 14 lv [] hp c w (none, hp', c, w)) : ∀ (v0 : Nat) (v2 : Int32) (v3 : Int32) (t0 : Int32) (lv : List (Nat × Value)) (hp : List mE) (v : Unit) (hp' : List mE), alk 0 lv = some (.ref v0) → alk 2 lv = some (.int v2) → alk 3 lv = some (.int v3) → lvk n lv → hp.length = n → v0 < n → m138_47 F rc7 rc14 v0 v2 v3 t0 hp = some (v, hp') → Rn d 138 47 lv [.int t0] hp c w (none, hp', c, w) := by
  intro v0 v2 v3 t0 lv hp v hp' l0 l2 l3 ok hn r_v0 h
  unfold m138_47 at h
  refine Rn.is (m := n) n138_47 ml138 (by decide) (fun lv l4 hk hok => ?_)
  have l0 := hk 0 _ (by decide) (Or.inl rfl) l0
  have l2 := hk 2 _ (by decide) (Or.inl rfl) l2
  have l3 := hk 3 _ (by decide) (Or.inl rfl) l3
  have ok := hok ok
  refine Rn.aload_n n138_49 l0 ?_
  obtain ⟨x1, hx1, h⟩ := Option.bind_eq_some_iff.mp h
  refine Rn.gf n138_50 mo138 fl11_13 (gfr_v hx1).1 ?_
  have r_x1 : x1 < n := by rw [← hn]; exact (gfr_v hx1).2
  refine Rn.ic (v := 5) n138_53 (by decide) ?_
  refine Rn.iload_n n138_54 l2 ?_
  refine Rn.p n138_55 rfl ?_
  refine Rn.iload_n n138_56 l3 ?_
  refine Rn.p n138_57 rfl ?_
  refine Rn.iload_n n138_58 l2 ?_
  refine Rn.iload_n n138_59 l3 ?_
  by_cases hc2 : mc2 .ne v2 v3 = true
  · rw [if_pos hc2] at h
    refine Rn.c2t (t := 67) n138_60 (by decide) hc2 ?_
    refine Rn.iload n138_67 l4 ?_
    exact t138_69 hd F hr7 hr14 _ _ _ _ _ _ _ lv _ _ _ l0 l2 l3 l4 ok hn r_v0 r_x1 h
  · rw [if_neg hc2] at h
    refine Rn.c2f (t := 67) n138_60 (by decide) hc2 ?_
    refine Rn.ic (v := 1) n138_63 (by decide) ?_
    refine Rn.goto (t := 69) n138_64 (by decide) ?_
    exact t138_69 hd F hr7 hr14 _ _ _ _ _ _ _ lv _ _ _ l0 l2 l3 l4 ok hn r_v0 r_x1 h
def m138_14 (F : Nat) (rc7 : Nat → Int32 → List mE → Option (Unit × List mE)) : Nat → Nat → Int32 → Int32 → List mE → Option (Unit × List mE)
  | 0, _, _, _, _ => none
  | f + 1, v0, v2, v3, hp =>
    if mc2 .ge v3 5 = true then
      rc7 v0 (v2 + 1) hp
    else
      if mc2 .ge v2 v3 = true then
        (gfr 11 3 hp v0).bind fun x3 =>
        (rdI hp x3 ((5 * v3) + v2)).bind fun x4 =>
        m138_47 F rc7 (m138_14 F rc7 f) v0 v2 v3 x4 hp
      else
        (gfr 11 3 hp v0).bind fun x5 =>
        (rdI hp x5 ((5 * v2) + v3)).bind fun x6 =>
        m138_47 F rc7 (m138_14 F rc7 f) v0 v2 v3 x6 hp
theorem t138_14 {d c w n : Nat} (hd : 0 ≤ d) (F : Nat) {rc7 : Nat → Int32 → List mE → Option (Unit × List mE)} (hr7 : ∀ (v0 : Nat) (v2 : Int32) (lv : List (Nat × Value)) (hp : List mE) (v : Unit) (hp' : List mE), alk 0 lv = some (.ref v0) → alk 2 lv = some (.int v2) → lvk n lv → hp.length = n → v0 < n → rc7 v0 v2 hp = some (v, hp') → Rn d 138 7 lv [] hp c w (none, hp', c, w)) : ∀ f : Nat, ∀ (v0 : Nat) (v2 : Int32) (v3 : Int32) (lv : List (Nat × Value)) (hp : List mE) (v : Unit) (hp' : List mE), alk 0 lv = some (.ref v0) → alk 2 lv = some (.int v2) → alk 3 lv = some (.int v3) → lvk n lv → hp.length = n → v0 < n → m138_14 F rc7 f v0 v2 v3 hp = some (v, hp') → Rn d 138 14 lv [] hp c w (none, hp', c, w) := by
  intro f
  induction f with
  | zero => intro v0 v2 v3 lv hp v hp' l0 l2 l3 ok hn r_v0 h; cases h
  | succ f hr14 =>
    intro v0 v2 v3 lv hp v hp' l0 l2 l3 ok hn r_v0 h
    unfold m138_14 at h
    refine Rn.iload_n n138_14 l3 ?_
    refine Rn.ic (v := 5) n138_15 (by decide) ?_
    by_cases hc1 : mc2 .ge v3 5 = true
    · rw [if_pos hc1] at h
      refine Rn.c2t (t := 176) n138_16 (by decide) hc1 ?_
      refine Rn.ii (m := n) (u := 1) n138_176 ml138 (by decide) (by decide) l2 (fun lv l2 hk hok => ?_)
      have l0 := hk 0 _ (by decide) (Or.inl rfl) l0
      have l3 := hk 3 _ (by decide) (Or.inl rfl) l3
      have ok := hok ok
      refine Rn.goto (t := 7) n138_179 (by decide) ?_
      exact hr7 _ _ lv _ _ _ l0 l2 ok hn r_v0  h
    · rw [if_neg hc1] at h
      refine Rn.c2f (t := 176) n138_16 (by decide) hc1 ?_
      refine Rn.iload_n n138_19 l2 ?_
      refine Rn.iload_n n138_20 l3 ?_
      by_cases hc2 : mc2 .ge v2 v3 = true
      · rw [if_pos hc2] at h
        refine Rn.c2t (t := 37) n138_21 (by decide) hc2 ?_
        refine Rn.aload_n n138_37 l0 ?_
        obtain ⟨x3, hx3, h⟩ := Option.bind_eq_some_iff.mp h
        refine Rn.gf n138_38 mo138 fl11_20 (gfr_v hx3).1 ?_
        have r_x3 : x3 < n := by rw [← hn]; exact (gfr_v hx3).2
        refine Rn.ic (v := 5) n138_41 (by decide) ?_
        refine Rn.iload_n n138_42 l3 ?_
        refine Rn.p n138_43 rfl ?_
        refine Rn.iload_n n138_44 l2 ?_
        refine Rn.p n138_45 rfl ?_
        obtain ⟨x4, hx4, h⟩ := Option.bind_eq_some_iff.mp h
        refine Rn.iald n138_46 hx4 ?_
        exact t138_47 hd F hr7 hr14 _ _ _ _ lv _ _ _ l0 l2 l3 ok hn r_v0  h
      · rw [if_neg hc2] at h
        refine Rn.c2f (t := 37) n138_21 (by decide) hc2 ?_
        refine Rn.aload_n n138_24 l0 ?_
        obtain ⟨x5, hx5, h⟩ := Option.bind_eq_some_iff.mp h
        refine Rn.gf n138_25 mo138 fl11_20 (gfr_v hx5).1 ?_
        have r_x5 : x5 < n := by rw [← hn]; exact (gfr_v hx5).2
        refine Rn.ic (v := 5) n138_28 (by decide) ?_
        refine Rn.iload_n n138_29 l2 ?_
        refine Rn.p n138_30 rfl ?_
        refine Rn.iload_n n138_31 l3 ?_
        refine Rn.p n138_32 rfl ?_
        obtain ⟨x6, hx6, h⟩ := Option.bind_eq_some_iff.mp h
        refine Rn.iald n138_33 hx6 ?_
        refine Rn.goto (t := 47) n138_34 (by decide) ?_
        exact t138_47 hd F hr7 hr14 _ _ _ _ lv _ _ _ l0 l2 l3 ok hn r_v0  h
def m138_7 (F : Nat) : Nat → Nat → Int32 → List mE → Option (Unit × List mE)
  | 0, _, _, _ => none
  | f + 1, v0, v2, hp =>
    if mc2 .ge v2 5 = true then
      (pfv 11 16 hp v0 (.int 1)).bind fun hp2 =>
      (gfr 11 17 hp2 v0).bind fun x3 =>
      (wrI hp2 x3 0 0).bind fun hp4 =>
      (pfv 11 19 hp4 v0 (.int 0)).bind fun hp5 =>
      (pfv 11 30 hp5 v0 (.int ((-1)))).bind fun hp6 =>
      some ((), hp6)
    else
      m138_14 F (m138_7 F f) F v0 v2 0 hp
theorem t138_7 {d c w n : Nat} (hd : 0 ≤ d) (F : Nat) : ∀ f : Nat, ∀ (v0 : Nat) (v2 : Int32) (lv : List (Nat × Value)) (hp : List mE) (v : Unit) (hp' : List mE), alk 0 lv = some (.ref v0) → alk 2 lv = some (.int v2) → lvk n lv → hp.length = n → v0 < n → m138_7 F f v0 v2 hp = some (v, hp') → Rn d 138 7 lv [] hp c w (none, hp', c, w) := by
  intro f
  induction f with
  | zero => intro v0 v2 lv hp v hp' l0 l2 ok hn r_v0 h; cases h
  | succ f hr7 =>
    intro v0 v2 lv hp v hp' l0 l2 ok hn r_v0 h
    unfold m138_7 at h
    refine Rn.iload_n n138_7 l2 ?_
    refine Rn.ic (v := 5) n138_8 (by decide) ?_
    by_cases hc1 : mc2 .ge v2 5 = true
    · rw [if_pos hc1] at h
      refine Rn.c2t (t := 182) n138_9 (by decide) hc1 ?_
      refine Rn.aload_n n138_182 l0 ?_
      refine Rn.ic (v := 1) n138_183 (by decide) ?_
      obtain ⟨hp2, hhp2, h⟩ := Option.bind_eq_some_iff.mp h
      refine Rn.pf n138_184 mo138 fl11_108 ft11_16 rfl ff11_16 (fun _ _ hh => by cases hh) hhp2 ?_
      have hn := (pfv_len hhp2).trans hn
      refine Rn.aload_n n138_187 l0 ?_
      obtain ⟨x3, hx3, h⟩ := Option.bind_eq_some_iff.mp h
      refine Rn.gf n138_188 mo138 fl11_40 (gfr_v hx3).1 ?_
      have r_x3 : x3 < n := by rw [← hn]; exact (gfr_v hx3).2
      refine Rn.ic (v := 0) n138_191 (by decide) ?_
      refine Rn.ic (v := 0) n138_192 (by decide) ?_
      obtain ⟨hp4, hhp4, h⟩ := Option.bind_eq_some_iff.mp h
      refine Rn.iast n138_193 hhp4 ?_
      have hn := (wrI_st (st := []) hhp4).2.trans hn
      refine Rn.aload_n n138_194 l0 ?_
      refine Rn.ic (v := 0) n138_195 (by decide) ?_
      obtain ⟨hp5, hhp5, h⟩ := Option.bind_eq_some_iff.mp h
      refine Rn.pf n138_196 mo138 fl11_111 ft11_19 rfl ff11_19 (fun _ _ hh => by cases hh) hhp5 ?_
      have hn := (pfv_len hhp5).trans hn
      refine Rn.aload_n n138_199 l0 ?_
      refine Rn.ic (v := (-1)) n138_200 (by decide) ?_
      obtain ⟨hp6, hhp6, h⟩ := Option.bind_eq_some_iff.mp h
      refine Rn.pf n138_201 mo138 fl11_74 ft11_30 rfl ff11_30 (fun _ _ hh => by cases hh) hhp6 ?_
      have hn := (pfv_len hhp6).trans hn
      have e1 := (Prod.mk.inj (Option.some.inj h)).1
      have e2 := (Prod.mk.inj (Option.some.inj h)).2
      subst e1
      subst e2
      exact Rn.vret n138_204 mr138
    · rw [if_neg hc1] at h
      refine Rn.c2f (t := 182) n138_9 (by decide) hc1 ?_
      refine Rn.ic (v := 0) n138_12 (by decide) ?_
      refine Rn.isn (m := n) n138_13 rfl ml138 (by decide) (fun lv l3 hk hok => ?_)
      have l0 := hk 0 _ (by decide) (Or.inl rfl) l0
      have l2 := hk 2 _ (by decide) (Or.inl rfl) l2
      have ok := hok ok
      exact t138_14 hd F hr7 F _ _ _ lv _ _ _ l0 l2 l3 ok hn r_v0  h
def m138_0 (F : Nat) (v0 : Nat) (v1 : Int32) (hp : List mE) : Option (Unit × List mE) :=
  (pfv 11 0 hp v0 (.int v1)).bind fun hp1 =>
  m138_7 F F v0 0 hp1
theorem t138_0 {d c w n : Nat} (hd : 0 ≤ d) (F : Nat) : ∀ (v0 : Nat) (v1 : Int32) (lv : List (Nat × Value)) (hp : List mE) (v : Unit) (hp' : List mE), alk 0 lv = some (.ref v0) → alk 1 lv = some (.int v1) → lvk n lv → hp.length = n → v0 < n → m138_0 F v0 v1 hp = some (v, hp') → Rn d 138 0 lv [] hp c w (none, hp', c, w) := by
  intro v0 v1 lv hp v hp' l0 l1 ok hn r_v0 h
  unfold m138_0 at h
  refine Rn.aload_n n138_0 l0 ?_
  refine Rn.iload_n n138_1 l1 ?_
  obtain ⟨hp1, hhp1, h⟩ := Option.bind_eq_some_iff.mp h
  refine Rn.pf n138_2 mo138 fl11_7 ft11_0 rfl ff11_0 (fun _ _ hh => by cases hh) hhp1 ?_
  have hn := (pfv_len hhp1).trans hn
  refine Rn.ic (v := 0) n138_5 (by decide) ?_
  refine Rn.isn (m := n) n138_6 rfl ml138 (by decide) (fun lv l2 hk hok => ?_)
  have l0 := hk 0 _ (by decide) (Or.inl rfl) l0
  have l1 := hk 1 _ (by decide) (Or.inl rfl) l1
  have ok := hok ok
  exact t138_7 hd F  F _ _ lv _ _ _ l0 l2 ok hn r_v0  h
def e138 (F : Nat) (a0 : Nat) (a1 : Int32) (hp : List mE) : Option (Unit × List mE) := m138_0 F a0 a1 hp
theorem c138 {d : Nat} (hd : 0 ≤ d) (F : Nat) (a0 : Nat) (a1 : Int32) (hp : List mE) (v : Unit) (hp' : List mE) (ra0 : a0 < hp.length) (h : e138 F a0 a1 hp = some (v, hp')) : Rn d 138 0 (lv_args 0 [.ref a0, .int a1]) [] hp 0 0 (none, hp', 0, 0) :=
  t138_0 (n := hp.length) hd F a0 a1 (lv_args 0 [.ref a0, .int a1]) hp v hp' rfl rfl (lvk_args (okc (okr ra0) (okc rfl okn))) rfl ra0 h
/-! MirrorRootsModel.feed -/
def m139_36 (F : Nat) : Nat → Nat → Int64 → Int32 → List mE → Option (Int32 × List mE)
  | 0, _, _, _, _ => none
  | f + 1, v0, v2, v4, hp =>
    if mc1 .lt v4 = true then
      (gfi 11 5 hp v0).bind fun x2 =>
      some (x2, hp)
    else
      (gfr 11 4 hp v0).bind fun x3 =>
      (gfi 11 5 hp v0).bind fun x4 =>
      (wrI hp x3 x4 (((v2 >>> ((8 * v4).toInt64 &&& 63)) &&& 255).toInt32)).bind fun hp5 =>
      (gfi 11 5 hp5 v0).bind fun x6 =>
      (pfv 11 5 hp5 v0 (.int (x6 + 1))).bind fun hp7 =>
      m139_36 F f v0 v2 (v4 + (-1)) hp7
theorem t139_36 {d c w n : Nat} (hd : 1 ≤ d) (F : Nat) : ∀ f : Nat, ∀ (v0 : Nat) (v2 : Int64) (v4 : Int32) (lv : List (Nat × Value)) (hp : List mE) (v : Int32) (hp' : List mE), alk 0 lv = some (.ref v0) → alk 2 lv = some (.long v2) → alk 4 lv = some (.int v4) → lvk n lv → hp.length = n → v0 < n → m139_36 F f v0 v2 v4 hp = some (v, hp') → Rn d 139 36 lv [] hp c w (some (.int v), hp', c, w) := by
  obtain ⟨d', rfl⟩ : ∃ d', d = d' + 1 := ⟨d - 1, by omega⟩
  intro f
  induction f with
  | zero => intro v0 v2 v4 lv hp v hp' l0 l2 l4 ok hn r_v0 h; cases h
  | succ f hr36 =>
    intro v0 v2 v4 lv hp v hp' l0 l2 l4 ok hn r_v0 h
    unfold m139_36 at h
    refine Rn.iload n139_36 l4 ?_
    by_cases hc1 : mc1 .lt v4 = true
    · rw [if_pos hc1] at h
      refine Rn.c1t (t := 78) n139_38 (by decide) hc1 ?_
      refine Rn.aload_n n139_78 l0 ?_
      obtain ⟨x2, hx2, h⟩ := Option.bind_eq_some_iff.mp h
      refine Rn.gf n139_79 mo139 fl11_120 (gfi_v hx2) ?_
      have e1 := (Prod.mk.inj (Option.some.inj h)).1
      have e2 := (Prod.mk.inj (Option.some.inj h)).2
      subst e1
      subst e2
      exact Rn.iret n139_82 mr139
    · rw [if_neg hc1] at h
      refine Rn.c1f (t := 78) n139_38 (by decide) hc1 ?_
      refine Rn.aload_n n139_41 l0 ?_
      obtain ⟨x3, hx3, h⟩ := Option.bind_eq_some_iff.mp h
      refine Rn.gf n139_42 mo139 fl11_23 (gfr_v hx3).1 ?_
      have r_x3 : x3 < n := by rw [← hn]; exact (gfr_v hx3).2
      refine Rn.aload_n n139_45 l0 ?_
      obtain ⟨x4, hx4, h⟩ := Option.bind_eq_some_iff.mp h
      refine Rn.gf n139_46 mo139 fl11_120 (gfi_v hx4) ?_
      refine Rn.lload_n n139_49 l2 ?_
      refine Rn.bp (v := 8) n139_50 (by decide) ?_
      refine Rn.iload n139_52 l4 ?_
      refine Rn.p n139_54 rfl ?_
      refine Rn.p n139_55 rfl ?_
      refine Rn.ldc2 n139_56 mo139 cL11_123 ?_
      refine Rn.p n139_59 rfl ?_
      refine Rn.p n139_60 rfl ?_
      obtain ⟨hp5, hhp5, h⟩ := Option.bind_eq_some_iff.mp h
      refine Rn.iast n139_61 hhp5 ?_
      have hn := (wrI_st (st := []) hhp5).2.trans hn
      refine Rn.aload_n n139_62 l0 ?_
      refine Rn.p n139_63 rfl ?_
      obtain ⟨x6, hx6, h⟩ := Option.bind_eq_some_iff.mp h
      refine Rn.gf n139_64 mo139 fl11_120 (gfi_v hx6) ?_
      refine Rn.ic (v := 1) n139_67 (by decide) ?_
      refine Rn.p n139_68 rfl ?_
      obtain ⟨hp7, hhp7, h⟩ := Option.bind_eq_some_iff.mp h
      refine Rn.pf n139_69 mo139 fl11_120 ft11_5 rfl ff11_5 (fun _ _ hh => by cases hh) hhp7 ?_
      have hn := (pfv_len hhp7).trans hn
      refine Rn.ii (m := n) (u := (-1)) n139_72 ml139 (by decide) (by decide) l4 (fun lv l4 hk hok => ?_)
      have l0 := hk 0 _ (by decide) (Or.inl rfl) l0
      have l2 := hk 2 _ (by decide) (Or.inr (by decide)) l2
      have ok := hok ok
      refine Rn.goto (t := 36) n139_75 (by decide) ?_
      exact hr36 _ _ _ lv _ _ _ l0 l2 l4 ok hn r_v0  h
def m139_0 (F : Nat) (v0 : Nat) (v1 : Int32) (v2 : Int64) (hp : List mE) : Option (Int32 × List mE) :=
  (e137 F v1.toInt64 1 8 hp).bind fun q1 =>
  if mc1 .ne q1.1 = true then
    (gfi 11 5 q1.2 v0).bind fun x3 =>
    if mc2 .le (x3 + v1) 120 = true then
      m139_36 F F v0 v2 (v1 - 1) q1.2
    else
      some ((-1004), q1.2)
  else
    some ((-1002), q1.2)
theorem t139_0 {d c w n : Nat} (hd : 1 ≤ d) (F : Nat) : ∀ (v0 : Nat) (v1 : Int32) (v2 : Int64) (lv : List (Nat × Value)) (hp : List mE) (v : Int32) (hp' : List mE), alk 0 lv = some (.ref v0) → alk 1 lv = some (.int v1) → alk 2 lv = some (.long v2) → lvk n lv → hp.length = n → v0 < n → m139_0 F v0 v1 v2 hp = some (v, hp') → Rn d 139 0 lv [] hp c w (some (.int v), hp', c, w) := by
  obtain ⟨d', rfl⟩ : ∃ d', d = d' + 1 := ⟨d - 1, by omega⟩
  intro v0 v1 v2 lv hp v hp' l0 l1 l2 ok hn r_v0 h
  unfold m139_0 at h
  refine Rn.iload_n n139_0 l1 ?_
  refine Rn.p n139_1 rfl ?_
  refine Rn.lc (v := 1) n139_2 (by decide) ?_
  refine Rn.ldc2 n139_3 mo139 cL11_114 ?_
  obtain ⟨q1, hq1, h⟩ := Option.bind_eq_some_iff.mp h
  have gq1 := c137 (d := d') (by omega) F _ _ _ _ _ _  hq1
  refine Rn.cs (as := [.long v1.toInt64, .long 1, .long 8]) (rr := []) n139_6 mo139 mm11_116 mq137 rfl rfl rfl rfl (Nat.le_of_ble_eq_true rfl) (by rw [hn]; exact (okc rfl (okc rfl (okc rfl okn)))) (by rw [hn]; exact okn) (by rw [hn]; exact ok) (by rw [ml137]; exact Nat.le_of_ble_eq_true rfl) gq1 ?_
  have hn := (Rn.len gq1).trans hn
  show Rn _ 139 9 lv [.int q1.1] q1.2 c w _
  by_cases hc2 : mc1 .ne q1.1 = true
  · rw [if_pos hc2] at h
    refine Rn.c1t (t := 16) n139_9 (by decide) hc2 ?_
    refine Rn.aload_n n139_16 l0 ?_
    obtain ⟨x3, hx3, h⟩ := Option.bind_eq_some_iff.mp h
    refine Rn.gf n139_17 mo139 fl11_120 (gfi_v hx3) ?_
    refine Rn.iload_n n139_20 l1 ?_
    refine Rn.p n139_21 rfl ?_
    refine Rn.bp (v := 120) n139_22 (by decide) ?_
    by_cases hc4 : mc2 .le (x3 + v1) 120 = true
    · rw [if_pos hc4] at h
      refine Rn.c2t (t := 31) n139_24 (by decide) hc4 ?_
      refine Rn.iload_n n139_31 l1 ?_
      refine Rn.ic (v := 1) n139_32 (by decide) ?_
      refine Rn.p n139_33 rfl ?_
      refine Rn.is (m := n) n139_34 ml139 (by decide) (fun lv l4 hk hok => ?_)
      have l0 := hk 0 _ (by decide) (Or.inl rfl) l0
      have l1 := hk 1 _ (by decide) (Or.inl rfl) l1
      have l2 := hk 2 _ (by decide) (Or.inr (by decide)) l2
      have ok := hok ok
      exact t139_36 hd F  F _ _ _ lv _ _ _ l0 l2 l4 ok hn r_v0  h
    · rw [if_neg hc4] at h
      refine Rn.c2f (t := 31) n139_24 (by decide) hc4 ?_
      refine Rn.sp (v := (-1004)) n139_27 (by decide) ?_
      have e1 := (Prod.mk.inj (Option.some.inj h)).1
      have e2 := (Prod.mk.inj (Option.some.inj h)).2
      subst e1
      subst e2
      exact Rn.iret n139_30 mr139
  · rw [if_neg hc2] at h
    refine Rn.c1f (t := 16) n139_9 (by decide) hc2 ?_
    refine Rn.sp (v := (-1002)) n139_12 (by decide) ?_
    have e1 := (Prod.mk.inj (Option.some.inj h)).1
    have e2 := (Prod.mk.inj (Option.some.inj h)).2
    subst e1
    subst e2
    exact Rn.iret n139_15 mr139
def e139 (F : Nat) (a0 : Nat) (a1 : Int32) (a2 : Int64) (hp : List mE) : Option (Int32 × List mE) := m139_0 F a0 a1 a2 hp
theorem c139 {d : Nat} (hd : 1 ≤ d) (F : Nat) (a0 : Nat) (a1 : Int32) (a2 : Int64) (hp : List mE) (v : Int32) (hp' : List mE) (ra0 : a0 < hp.length) (h : e139 F a0 a1 a2 hp = some (v, hp')) : Rn d 139 0 (lv_args 0 [.ref a0, .int a1, .long a2]) [] hp 0 0 (some (.int v), hp', 0, 0) :=
  t139_0 (n := hp.length) hd F a0 a1 a2 (lv_args 0 [.ref a0, .int a1, .long a2]) hp v hp' rfl rfl rfl (lvk_args (okc (okr ra0) (okc rfl (okc rfl okn)))) rfl ra0 h
/-! MirrorRootsModel.here -/
def m140_62 (F : Nat) (t0 : Int32) (hp : List mE) : Option (Int32 × List mE) :=
  some (t0, hp)
theorem t140_62 {d c w n : Nat} (hd : 0 ≤ d) (F : Nat) : ∀ (t0 : Int32) (lv : List (Nat × Value)) (hp : List mE) (v : Int32) (hp' : List mE), lvk n lv → hp.length = n → m140_62 F t0 hp = some (v, hp') → Rn d 140 62 lv [.int t0] hp c w (some (.int v), hp', c, w) := by
  intro t0 lv hp v hp' ok hn h
  unfold m140_62 at h
  have e1 := (Prod.mk.inj (Option.some.inj h)).1
  have e2 := (Prod.mk.inj (Option.some.inj h)).2
  subst e1
  subst e2
  exact Rn.iret n140_62 mr140
def m140_38 (F : Nat) (v0 : Nat) (hp : List mE) : Option (Int32 × List mE) :=
  (gfi 11 7 hp v0).bind fun x1 =>
  (gfi 11 5 hp v0).bind fun x2 =>
  if mc2 .ge x1 x2 = true then
    m140_62 F ((-1)) hp
  else
    (gfr 11 4 hp v0).bind fun x4 =>
    (gfi 11 7 hp v0).bind fun x5 =>
    (rdI hp x4 x5).bind fun x6 =>
    m140_62 F x6 hp
theorem t140_38 {d c w n : Nat} (hd : 0 ≤ d) (F : Nat) : ∀ (v0 : Nat) (lv : List (Nat × Value)) (hp : List mE) (v : Int32) (hp' : List mE), alk 0 lv = some (.ref v0) → lvk n lv → hp.length = n → v0 < n → m140_38 F v0 hp = some (v, hp') → Rn d 140 38 lv [] hp c w (some (.int v), hp', c, w) := by
  intro v0 lv hp v hp' l0 ok hn r_v0 h
  unfold m140_38 at h
  refine Rn.aload_n n140_38 l0 ?_
  obtain ⟨x1, hx1, h⟩ := Option.bind_eq_some_iff.mp h
  refine Rn.gf n140_39 mo140 fl11_125 (gfi_v hx1) ?_
  refine Rn.aload_n n140_42 l0 ?_
  obtain ⟨x2, hx2, h⟩ := Option.bind_eq_some_iff.mp h
  refine Rn.gf n140_43 mo140 fl11_120 (gfi_v hx2) ?_
  by_cases hc3 : mc2 .ge x1 x2 = true
  · rw [if_pos hc3] at h
    refine Rn.c2t (t := 61) n140_46 (by decide) hc3 ?_
    refine Rn.ic (v := (-1)) n140_61 (by decide) ?_
    exact t140_62 hd F  _ lv _ _ _  ok hn   h
  · rw [if_neg hc3] at h
    refine Rn.c2f (t := 61) n140_46 (by decide) hc3 ?_
    refine Rn.aload_n n140_49 l0 ?_
    obtain ⟨x4, hx4, h⟩ := Option.bind_eq_some_iff.mp h
    refine Rn.gf n140_50 mo140 fl11_23 (gfr_v hx4).1 ?_
    have r_x4 : x4 < n := by rw [← hn]; exact (gfr_v hx4).2
    refine Rn.aload_n n140_53 l0 ?_
    obtain ⟨x5, hx5, h⟩ := Option.bind_eq_some_iff.mp h
    refine Rn.gf n140_54 mo140 fl11_125 (gfi_v hx5) ?_
    obtain ⟨x6, hx6, h⟩ := Option.bind_eq_some_iff.mp h
    refine Rn.iald n140_57 hx6 ?_
    refine Rn.goto (t := 62) n140_58 (by decide) ?_
    exact t140_62 hd F  _ lv _ _ _  ok hn   h
def m140_0 (F : Nat) : Nat → Nat → List mE → Option (Int32 × List mE)
  | 0, _, _ => none
  | f + 1, v0, hp =>
    (gfi 11 7 hp v0).bind fun x1 =>
    (gfi 11 5 hp v0).bind fun x2 =>
    if mc2 .ge x1 x2 = true then
      m140_38 F v0 hp
    else
      (gfr 11 4 hp v0).bind fun x4 =>
      (gfi 11 7 hp v0).bind fun x5 =>
      (rdI hp x4 x5).bind fun x6 =>
      if mc2 .ne x6 32 = true then
        m140_38 F v0 hp
      else
        (gfi 11 7 hp v0).bind fun x8 =>
        (pfv 11 7 hp v0 (.int (x8 + 1))).bind fun hp9 =>
        m140_0 F f v0 hp9
theorem t140_0 {d c w n : Nat} (hd : 0 ≤ d) (F : Nat) : ∀ f : Nat, ∀ (v0 : Nat) (lv : List (Nat × Value)) (hp : List mE) (v : Int32) (hp' : List mE), alk 0 lv = some (.ref v0) → lvk n lv → hp.length = n → v0 < n → m140_0 F f v0 hp = some (v, hp') → Rn d 140 0 lv [] hp c w (some (.int v), hp', c, w) := by
  intro f
  induction f with
  | zero => intro v0 lv hp v hp' l0 ok hn r_v0 h; cases h
  | succ f hr0 =>
    intro v0 lv hp v hp' l0 ok hn r_v0 h
    unfold m140_0 at h
    refine Rn.aload_n n140_0 l0 ?_
    obtain ⟨x1, hx1, h⟩ := Option.bind_eq_some_iff.mp h
    refine Rn.gf n140_1 mo140 fl11_125 (gfi_v hx1) ?_
    refine Rn.aload_n n140_4 l0 ?_
    obtain ⟨x2, hx2, h⟩ := Option.bind_eq_some_iff.mp h
    refine Rn.gf n140_5 mo140 fl11_120 (gfi_v hx2) ?_
    by_cases hc3 : mc2 .ge x1 x2 = true
    · rw [if_pos hc3] at h
      refine Rn.c2t (t := 38) n140_8 (by decide) hc3 ?_
      exact t140_38 hd F  _ lv _ _ _ l0 ok hn r_v0  h
    · rw [if_neg hc3] at h
      refine Rn.c2f (t := 38) n140_8 (by decide) hc3 ?_
      refine Rn.aload_n n140_11 l0 ?_
      obtain ⟨x4, hx4, h⟩ := Option.bind_eq_some_iff.mp h
      refine Rn.gf n140_12 mo140 fl11_23 (gfr_v hx4).1 ?_
      have r_x4 : x4 < n := by rw [← hn]; exact (gfr_v hx4).2
      refine Rn.aload_n n140_15 l0 ?_
      obtain ⟨x5, hx5, h⟩ := Option.bind_eq_some_iff.mp h
      refine Rn.gf n140_16 mo140 fl11_125 (gfi_v hx5) ?_
      obtain ⟨x6, hx6, h⟩ := Option.bind_eq_some_iff.mp h
      refine Rn.iald n140_19 hx6 ?_
      refine Rn.bp (v := 32) n140_20 (by decide) ?_
      by_cases hc7 : mc2 .ne x6 32 = true
      · rw [if_pos hc7] at h
        refine Rn.c2t (t := 38) n140_22 (by decide) hc7 ?_
        exact t140_38 hd F  _ lv _ _ _ l0 ok hn r_v0  h
      · rw [if_neg hc7] at h
        refine Rn.c2f (t := 38) n140_22 (by decide) hc7 ?_
        refine Rn.aload_n n140_25 l0 ?_
        refine Rn.p n140_26 rfl ?_
        obtain ⟨x8, hx8, h⟩ := Option.bind_eq_some_iff.mp h
        refine Rn.gf n140_27 mo140 fl11_125 (gfi_v hx8) ?_
        refine Rn.ic (v := 1) n140_30 (by decide) ?_
        refine Rn.p n140_31 rfl ?_
        obtain ⟨hp9, hhp9, h⟩ := Option.bind_eq_some_iff.mp h
        refine Rn.pf n140_32 mo140 fl11_125 ft11_7 rfl ff11_7 (fun _ _ hh => by cases hh) hhp9 ?_
        have hn := (pfv_len hhp9).trans hn
        refine Rn.goto (t := 0) n140_35 (by decide) ?_
        exact hr0 _ lv _ _ _ l0 ok hn r_v0  h
def e140 (F : Nat) (a0 : Nat) (hp : List mE) : Option (Int32 × List mE) := m140_0 F F a0 hp
theorem c140 {d : Nat} (hd : 0 ≤ d) (F : Nat) (a0 : Nat) (hp : List mE) (v : Int32) (hp' : List mE) (ra0 : a0 < hp.length) (h : e140 F a0 hp = some (v, hp')) : Rn d 140 0 (lv_args 0 [.ref a0]) [] hp 0 0 (some (.int v), hp', 0, 0) :=
  t140_0 (n := hp.length) hd F F a0 (lv_args 0 [.ref a0]) hp v hp' rfl (lvk_args (okc (okr ra0) okn)) rfl ra0 h
/-! MirrorRootsModel.fails -/
def m141_0 (F : Nat) (v0 : Nat) (v1 : Int32) (v2 : Int32) (hp : List mE) : Option (Int32 × List mE) :=
  (pfv 11 6 hp v0 (.int v2)).bind fun hp1 =>
  some (v1, hp1)
theorem t141_0 {d c w n : Nat} (hd : 0 ≤ d) (F : Nat) : ∀ (v0 : Nat) (v1 : Int32) (v2 : Int32) (lv : List (Nat × Value)) (hp : List mE) (v : Int32) (hp' : List mE), alk 0 lv = some (.ref v0) → alk 1 lv = some (.int v1) → alk 2 lv = some (.int v2) → lvk n lv → hp.length = n → v0 < n → m141_0 F v0 v1 v2 hp = some (v, hp') → Rn d 141 0 lv [] hp c w (some (.int v), hp', c, w) := by
  intro v0 v1 v2 lv hp v hp' l0 l1 l2 ok hn r_v0 h
  unfold m141_0 at h
  refine Rn.aload_n n141_0 l0 ?_
  refine Rn.iload_n n141_1 l2 ?_
  obtain ⟨hp1, hhp1, h⟩ := Option.bind_eq_some_iff.mp h
  refine Rn.pf n141_2 mo141 fl11_26 ft11_6 rfl ff11_6 (fun _ _ hh => by cases hh) hhp1 ?_
  have hn := (pfv_len hhp1).trans hn
  refine Rn.iload_n n141_5 l1 ?_
  have e1 := (Prod.mk.inj (Option.some.inj h)).1
  have e2 := (Prod.mk.inj (Option.some.inj h)).2
  subst e1
  subst e2
  exact Rn.iret n141_6 mr141
def e141 (F : Nat) (a0 : Nat) (a1 : Int32) (a2 : Int32) (hp : List mE) : Option (Int32 × List mE) := m141_0 F a0 a1 a2 hp
theorem c141 {d : Nat} (hd : 0 ≤ d) (F : Nat) (a0 : Nat) (a1 : Int32) (a2 : Int32) (hp : List mE) (v : Int32) (hp' : List mE) (ra0 : a0 < hp.length) (h : e141 F a0 a1 a2 hp = some (v, hp')) : Rn d 141 0 (lv_args 0 [.ref a0, .int a1, .int a2]) [] hp 0 0 (some (.int v), hp', 0, 0) :=
  t141_0 (n := hp.length) hd F a0 a1 a2 (lv_args 0 [.ref a0, .int a1, .int a2]) hp v hp' rfl rfl rfl (lvk_args (okc (okr ra0) (okc rfl (okc rfl okn)))) rfl ra0 h
/-! MirrorRootsModel.readWord -/
def m142_108 (F : Nat) (hp : List mE) : Option (Unit × List mE) :=
  some ((), hp)
theorem t142_108 {d c w n : Nat} (hd : 1 ≤ d) (F : Nat) : ∀ (lv : List (Nat × Value)) (hp : List mE) (v : Unit) (hp' : List mE), lvk n lv → hp.length = n → m142_108 F hp = some (v, hp') → Rn d 142 108 lv [] hp c w (none, hp', c, w) := by
  obtain ⟨d', rfl⟩ : ∃ d', d = d' + 1 := ⟨d - 1, by omega⟩
  intro lv hp v hp' ok hn h
  unfold m142_108 at h
  have e1 := (Prod.mk.inj (Option.some.inj h)).1
  have e2 := (Prod.mk.inj (Option.some.inj h)).2
  subst e1
  subst e2
  exact Rn.vret n142_108 mr142
def m142_92 (F : Nat) (rc18 : Nat → List mE → Option (Unit × List mE)) (v0 : Nat) (t0 : Nat) (t1 : Int64) (hp : List mE) : Option (Unit × List mE) :=
  (pfv 11 8 hp t0 (.long t1)).bind fun hp1 =>
  (gfi 11 9 hp1 v0).bind fun x2 =>
  (pfv 11 9 hp1 v0 (.int (x2 + 1))).bind fun hp3 =>
  rc18 v0 hp3
theorem t142_92 {d c w n : Nat} (hd : 1 ≤ d) (F : Nat) {rc18 : Nat → List mE → Option (Unit × List mE)} (hr18 : ∀ (v0 : Nat) (lv : List (Nat × Value)) (hp : List mE) (v : Unit) (hp' : List mE), alk 0 lv = some (.ref v0) → lvk n lv → hp.length = n → v0 < n → rc18 v0 hp = some (v, hp') → Rn d 142 18 lv [] hp c w (none, hp', c, w)) : ∀ (v0 : Nat) (t0 : Nat) (t1 : Int64) (lv : List (Nat × Value)) (hp : List mE) (v : Unit) (hp' : List mE), alk 0 lv = some (.ref v0) → lvk n lv → hp.length = n → v0 < n → t0 < n → m142_92 F rc18 v0 t0 t1 hp = some (v, hp') → Rn d 142 92 lv [.long t1, .ref t0] hp c w (none, hp', c, w) := by
  obtain ⟨d', rfl⟩ : ∃ d', d = d' + 1 := ⟨d - 1, by omega⟩
  intro v0 t0 t1 lv hp v hp' l0 ok hn r_v0 r_t0 h
  unfold m142_92 at h
  obtain ⟨hp1, hhp1, h⟩ := Option.bind_eq_some_iff.mp h
  refine Rn.pf n142_92 mo142 fl11_132 ft11_8 rfl ff11_8 (fun _ _ hh => by cases hh) hhp1 ?_
  have hn := (pfv_len hhp1).trans hn
  refine Rn.aload_n n142_95 l0 ?_
  refine Rn.p n142_96 rfl ?_
  obtain ⟨x2, hx2, h⟩ := Option.bind_eq_some_iff.mp h
  refine Rn.gf n142_97 mo142 fl11_136 (gfi_v hx2) ?_
  refine Rn.ic (v := 1) n142_100 (by decide) ?_
  refine Rn.p n142_101 rfl ?_
  obtain ⟨hp3, hhp3, h⟩ := Option.bind_eq_some_iff.mp h
  refine Rn.pf n142_102 mo142 fl11_136 ft11_9 rfl ff11_9 (fun _ _ hh => by cases hh) hhp3 ?_
  have hn := (pfv_len hhp3).trans hn
  refine Rn.goto (t := 18) n142_105 (by decide) ?_
  exact hr18 _ lv _ _ _ l0 ok hn r_v0  h
def m142_18 (F : Nat) : Nat → Nat → List mE → Option (Unit × List mE)
  | 0, _, _ => none
  | f + 1, v0, hp =>
    (gfi 11 9 hp v0).bind fun x1 =>
    (gfi 11 5 hp v0).bind fun x2 =>
    if mc2 .ge x1 x2 = true then
      m142_108 F hp
    else
      (gfr 11 4 hp v0).bind fun x4 =>
      (gfi 11 9 hp v0).bind fun x5 =>
      (rdI hp x4 x5).bind fun x6 =>
      (e137 F x6.toInt64 97 122 hp).bind fun q7 =>
      if mc1 .eq q7.1 = true then
        m142_108 F q7.2
      else
        (gfl 11 8 q7.2 v0).bind fun x9 =>
        if mc1 .le (lg_cmp x9 20000000000) = true then
          (gfl 11 8 q7.2 v0).bind fun x11 =>
          (gfr 11 4 q7.2 v0).bind fun x12 =>
          (gfi 11 9 q7.2 v0).bind fun x13 =>
          (rdI q7.2 x12 x13).bind fun x14 =>
          m142_92 F (m142_18 F f) v0 v0 (((27 * x11) + x14.toInt64) - 96) q7.2
        else
          m142_92 F (m142_18 F f) v0 v0 40000000000 q7.2
theorem t142_18 {d c w n : Nat} (hd : 1 ≤ d) (F : Nat) : ∀ f : Nat, ∀ (v0 : Nat) (lv : List (Nat × Value)) (hp : List mE) (v : Unit) (hp' : List mE), alk 0 lv = some (.ref v0) → lvk n lv → hp.length = n → v0 < n → m142_18 F f v0 hp = some (v, hp') → Rn d 142 18 lv [] hp c w (none, hp', c, w) := by
  obtain ⟨d', rfl⟩ : ∃ d', d = d' + 1 := ⟨d - 1, by omega⟩
  intro f
  induction f with
  | zero => intro v0 lv hp v hp' l0 ok hn r_v0 h; cases h
  | succ f hr18 =>
    intro v0 lv hp v hp' l0 ok hn r_v0 h
    unfold m142_18 at h
    refine Rn.aload_n n142_18 l0 ?_
    obtain ⟨x1, hx1, h⟩ := Option.bind_eq_some_iff.mp h
    refine Rn.gf n142_19 mo142 fl11_136 (gfi_v hx1) ?_
    refine Rn.aload_n n142_22 l0 ?_
    obtain ⟨x2, hx2, h⟩ := Option.bind_eq_some_iff.mp h
    refine Rn.gf n142_23 mo142 fl11_120 (gfi_v hx2) ?_
    by_cases hc3 : mc2 .ge x1 x2 = true
    · rw [if_pos hc3] at h
      refine Rn.c2t (t := 108) n142_26 (by decide) hc3 ?_
      exact t142_108 hd F  lv _ _ _  ok hn   h
    · rw [if_neg hc3] at h
      refine Rn.c2f (t := 108) n142_26 (by decide) hc3 ?_
      refine Rn.aload_n n142_29 l0 ?_
      obtain ⟨x4, hx4, h⟩ := Option.bind_eq_some_iff.mp h
      refine Rn.gf n142_30 mo142 fl11_23 (gfr_v hx4).1 ?_
      have r_x4 : x4 < n := by rw [← hn]; exact (gfr_v hx4).2
      refine Rn.aload_n n142_33 l0 ?_
      obtain ⟨x5, hx5, h⟩ := Option.bind_eq_some_iff.mp h
      refine Rn.gf n142_34 mo142 fl11_136 (gfi_v hx5) ?_
      obtain ⟨x6, hx6, h⟩ := Option.bind_eq_some_iff.mp h
      refine Rn.iald n142_37 hx6 ?_
      refine Rn.p n142_38 rfl ?_
      refine Rn.ldc2 n142_39 mo142 cL11_139 ?_
      refine Rn.ldc2 n142_42 mo142 cL11_141 ?_
      obtain ⟨q7, hq7, h⟩ := Option.bind_eq_some_iff.mp h
      have gq7 := c137 (d := d') (by omega) F _ _ _ _ _ _  hq7
      refine Rn.cs (as := [.long x6.toInt64, .long 97, .long 122]) (rr := []) n142_45 mo142 mm11_116 mq137 rfl rfl rfl rfl (Nat.le_of_ble_eq_true rfl) (by rw [hn]; exact (okc rfl (okc rfl (okc rfl okn)))) (by rw [hn]; exact okn) (by rw [hn]; exact ok) (by rw [ml137]; exact Nat.le_of_ble_eq_true rfl) gq7 ?_
      have hn := (Rn.len gq7).trans hn
      show Rn _ 142 48 lv [.int q7.1] q7.2 c w _
      by_cases hc8 : mc1 .eq q7.1 = true
      · rw [if_pos hc8] at h
        refine Rn.c1t (t := 108) n142_48 (by decide) hc8 ?_
        exact t142_108 hd F  lv _ _ _  ok hn   h
      · rw [if_neg hc8] at h
        refine Rn.c1f (t := 108) n142_48 (by decide) hc8 ?_
        refine Rn.aload_n n142_51 l0 ?_
        refine Rn.aload_n n142_52 l0 ?_
        obtain ⟨x9, hx9, h⟩ := Option.bind_eq_some_iff.mp h
        refine Rn.gf n142_53 mo142 fl11_132 (gfl_v hx9) ?_
        refine Rn.ldc2 n142_56 mo142 cL11_143 ?_
        refine Rn.p n142_59 rfl ?_
        by_cases hc10 : mc1 .le (lg_cmp x9 20000000000) = true
        · rw [if_pos hc10] at h
          refine Rn.c1t (t := 69) n142_60 (by decide) hc10 ?_
          refine Rn.ldc2 n142_69 mo142 cL11_147 ?_
          refine Rn.aload_n n142_72 l0 ?_
          obtain ⟨x11, hx11, h⟩ := Option.bind_eq_some_iff.mp h
          refine Rn.gf n142_73 mo142 fl11_132 (gfl_v hx11) ?_
          refine Rn.p n142_76 rfl ?_
          refine Rn.aload_n n142_77 l0 ?_
          obtain ⟨x12, hx12, h⟩ := Option.bind_eq_some_iff.mp h
          refine Rn.gf n142_78 mo142 fl11_23 (gfr_v hx12).1 ?_
          have r_x12 : x12 < n := by rw [← hn]; exact (gfr_v hx12).2
          refine Rn.aload_n n142_81 l0 ?_
          obtain ⟨x13, hx13, h⟩ := Option.bind_eq_some_iff.mp h
          refine Rn.gf n142_82 mo142 fl11_136 (gfi_v hx13) ?_
          obtain ⟨x14, hx14, h⟩ := Option.bind_eq_some_iff.mp h
          refine Rn.iald n142_85 hx14 ?_
          refine Rn.p n142_86 rfl ?_
          refine Rn.p n142_87 rfl ?_
          refine Rn.ldc2 n142_88 mo142 cL11_149 ?_
          refine Rn.p n142_91 rfl ?_
          exact t142_92 hd F hr18 _ _ _ lv _ _ _ l0 ok hn r_v0 r_v0 h
        · rw [if_neg hc10] at h
          refine Rn.c1f (t := 69) n142_60 (by decide) hc10 ?_
          refine Rn.ldc2 n142_63 mo142 cL11_145 ?_
          refine Rn.goto (t := 92) n142_66 (by decide) ?_
          exact t142_92 hd F hr18 _ _ _ lv _ _ _ l0 ok hn r_v0 r_v0 h
def m142_0 (F : Nat) (v0 : Nat) (hp : List mE) : Option (Unit × List mE) :=
  (rcv 11 hp v0).bind fun u2 =>
  (e140 F v0 hp).bind fun q1 =>
  (pfv 11 8 q1.2 v0 (.long 0)).bind fun hp3 =>
  (gfi 11 7 hp3 v0).bind fun x4 =>
  (pfv 11 9 hp3 v0 (.int x4)).bind fun hp5 =>
  m142_18 F F v0 hp5
theorem t142_0 {d c w n : Nat} (hd : 1 ≤ d) (F : Nat) : ∀ (v0 : Nat) (lv : List (Nat × Value)) (hp : List mE) (v : Unit) (hp' : List mE), alk 0 lv = some (.ref v0) → lvk n lv → hp.length = n → v0 < n → m142_0 F v0 hp = some (v, hp') → Rn d 142 0 lv [] hp c w (none, hp', c, w) := by
  obtain ⟨d', rfl⟩ : ∃ d', d = d' + 1 := ⟨d - 1, by omega⟩
  intro v0 lv hp v hp' l0 ok hn r_v0 h
  unfold m142_0 at h
  refine Rn.aload_n n142_0 l0 ?_
  obtain ⟨u2, hu2, h⟩ := Option.bind_eq_some_iff.mp h
  obtain ⟨q1, hq1, h⟩ := Option.bind_eq_some_iff.mp h
  have gq1 := c140 (d := d') (by omega) F _ _ _ _ (by rw [hn]; exact r_v0) hq1
  refine Rn.cv (As := []) (rr := []) n142_1 mo142 mm11_128 (by decide) mq140 rfl rfl rfl rfl (by rw [mo140]; exact hu2) (Nat.le_of_ble_eq_true rfl) (by rw [hn]; exact (okc (okr r_v0) okn)) (by rw [hn]; exact okn) (by rw [hn]; exact ok) (by rw [ml140]; exact Nat.le_of_ble_eq_true rfl) gq1 ?_
  have hn := (Rn.len gq1).trans hn
  show Rn _ 142 4 lv [.int q1.1] q1.2 c w _
  refine Rn.isn (m := n) n142_4 rfl ml142 (by decide) (fun lv l1 hk hok => ?_)
  have l0 := hk 0 _ (by decide) (Or.inl rfl) l0
  have ok := hok ok
  refine Rn.aload_n n142_5 l0 ?_
  refine Rn.lc (v := 0) n142_6 (by decide) ?_
  obtain ⟨hp3, hhp3, h⟩ := Option.bind_eq_some_iff.mp h
  refine Rn.pf n142_7 mo142 fl11_132 ft11_8 rfl ff11_8 (fun _ _ hh => by cases hh) hhp3 ?_
  have hn := (pfv_len hhp3).trans hn
  refine Rn.aload_n n142_10 l0 ?_
  refine Rn.aload_n n142_11 l0 ?_
  obtain ⟨x4, hx4, h⟩ := Option.bind_eq_some_iff.mp h
  refine Rn.gf n142_12 mo142 fl11_125 (gfi_v hx4) ?_
  obtain ⟨hp5, hhp5, h⟩ := Option.bind_eq_some_iff.mp h
  refine Rn.pf n142_15 mo142 fl11_136 ft11_9 rfl ff11_9 (fun _ _ hh => by cases hh) hhp5 ?_
  have hn := (pfv_len hhp5).trans hn
  exact t142_18 hd F  F _ lv _ _ _ l0 ok hn r_v0  h
def e142 (F : Nat) (a0 : Nat) (hp : List mE) : Option (Unit × List mE) := m142_0 F a0 hp
theorem c142 {d : Nat} (hd : 1 ≤ d) (F : Nat) (a0 : Nat) (hp : List mE) (v : Unit) (hp' : List mE) (ra0 : a0 < hp.length) (h : e142 F a0 hp = some (v, hp')) : Rn d 142 0 (lv_args 0 [.ref a0]) [] hp 0 0 (none, hp', 0, 0) :=
  t142_0 (n := hp.length) hd F a0 (lv_args 0 [.ref a0]) hp v hp' rfl (lvk_args (okc (okr ra0) okn)) rfl ra0 h
/-! MirrorRootsModel.code -/
def m143_88 (F : Nat) (t0 : Int64) (hp : List mE) : Option (Int64 × List mE) :=
  some (t0, hp)
theorem t143_88 {d c w n : Nat} (hd : 0 ≤ d) (F : Nat) : ∀ (t0 : Int64) (lv : List (Nat × Value)) (hp : List mE) (v : Int64) (hp' : List mE), lvk n lv → hp.length = n → m143_88 F t0 hp = some (v, hp') → Rn d 143 88 lv [.long t0] hp c w (some (.long v), hp', c, w) := by
  intro t0 lv hp v hp' ok hn h
  unfold m143_88 at h
  have e1 := (Prod.mk.inj (Option.some.inj h)).1
  have e2 := (Prod.mk.inj (Option.some.inj h)).2
  subst e1
  subst e2
  exact Rn.lret n143_88 mr143
def m143_62 (F : Nat) (v5 : Int32) (t0 : Int64) (hp : List mE) : Option (Int64 × List mE) :=
  if mc1 .ne v5 = true then
    m143_88 F (((27 * t0) + v5.toInt64) - 96) hp
  else
    m143_88 F t0 hp
theorem t143_62 {d c w n : Nat} (hd : 0 ≤ d) (F : Nat) : ∀ (v5 : Int32) (t0 : Int64) (lv : List (Nat × Value)) (hp : List mE) (v : Int64) (hp' : List mE), alk 5 lv = some (.int v5) → lvk n lv → hp.length = n → m143_62 F v5 t0 hp = some (v, hp') → Rn d 143 62 lv [.long t0] hp c w (some (.long v), hp', c, w) := by
  intro v5 t0 lv hp v hp' l5 ok hn h
  unfold m143_62 at h
  refine Rn.ls (m := n) n143_62 ml143 (by decide) (fun lv l6 hk hok => ?_)
  have l5 := hk 5 _ (by decide) (by decide) (Or.inl rfl) l5
  have ok := hok ok
  refine Rn.iload n143_64 l5 ?_
  by_cases hc1 : mc1 .ne v5 = true
  · rw [if_pos hc1] at h
    refine Rn.c1t (t := 74) n143_66 (by decide) hc1 ?_
    refine Rn.ldc2 n143_74 mo143 cL11_147 ?_
    refine Rn.lload n143_77 l6 ?_
    refine Rn.p n143_79 rfl ?_
    refine Rn.iload n143_80 l5 ?_
    refine Rn.p n143_82 rfl ?_
    refine Rn.p n143_83 rfl ?_
    refine Rn.ldc2 n143_84 mo143 cL11_149 ?_
    refine Rn.p n143_87 rfl ?_
    exact t143_88 hd F  _ lv _ _ _  ok hn   h
  · rw [if_neg hc1] at h
    refine Rn.c1f (t := 74) n143_66 (by decide) hc1 ?_
    refine Rn.lload n143_69 l6 ?_
    refine Rn.goto (t := 88) n143_71 (by decide) ?_
    exact t143_88 hd F  _ lv _ _ _  ok hn   h
def m143_36 (F : Nat) (v4 : Int32) (v5 : Int32) (t0 : Int64) (hp : List mE) : Option (Int64 × List mE) :=
  if mc1 .ne v4 = true then
    m143_62 F v5 (((27 * t0) + v4.toInt64) - 96) hp
  else
    m143_62 F v5 t0 hp
theorem t143_36 {d c w n : Nat} (hd : 0 ≤ d) (F : Nat) : ∀ (v4 : Int32) (v5 : Int32) (t0 : Int64) (lv : List (Nat × Value)) (hp : List mE) (v : Int64) (hp' : List mE), alk 4 lv = some (.int v4) → alk 5 lv = some (.int v5) → lvk n lv → hp.length = n → m143_36 F v4 v5 t0 hp = some (v, hp') → Rn d 143 36 lv [.long t0] hp c w (some (.long v), hp', c, w) := by
  intro v4 v5 t0 lv hp v hp' l4 l5 ok hn h
  unfold m143_36 at h
  refine Rn.ls (m := n) n143_36 ml143 (by decide) (fun lv l6 hk hok => ?_)
  have l4 := hk 4 _ (by decide) (by decide) (Or.inl rfl) l4
  have l5 := hk 5 _ (by decide) (by decide) (Or.inl rfl) l5
  have ok := hok ok
  refine Rn.iload n143_38 l4 ?_
  by_cases hc1 : mc1 .ne v4 = true
  · rw [if_pos hc1] at h
    refine Rn.c1t (t := 48) n143_40 (by decide) hc1 ?_
    refine Rn.ldc2 n143_48 mo143 cL11_147 ?_
    refine Rn.lload n143_51 l6 ?_
    refine Rn.p n143_53 rfl ?_
    refine Rn.iload n143_54 l4 ?_
    refine Rn.p n143_56 rfl ?_
    refine Rn.p n143_57 rfl ?_
    refine Rn.ldc2 n143_58 mo143 cL11_149 ?_
    refine Rn.p n143_61 rfl ?_
    exact t143_62 hd F  _ _ lv _ _ _ l5 ok hn   h
  · rw [if_neg hc1] at h
    refine Rn.c1f (t := 48) n143_40 (by decide) hc1 ?_
    refine Rn.lload n143_43 l6 ?_
    refine Rn.goto (t := 62) n143_45 (by decide) ?_
    exact t143_62 hd F  _ _ lv _ _ _ l5 ok hn   h
def m143_0 (F : Nat) (v0 : Int64) (v2 : Int32) (v3 : Int32) (v4 : Int32) (v5 : Int32) (hp : List mE) : Option (Int64 × List mE) :=
  if mc1 .ne v3 = true then
    m143_36 F v4 v5 (((27 * (((27 * v0) + v2.toInt64) - 96)) + v3.toInt64) - 96) hp
  else
    m143_36 F v4 v5 (((27 * v0) + v2.toInt64) - 96) hp
theorem t143_0 {d c w n : Nat} (hd : 0 ≤ d) (F : Nat) : ∀ (v0 : Int64) (v2 : Int32) (v3 : Int32) (v4 : Int32) (v5 : Int32) (lv : List (Nat × Value)) (hp : List mE) (v : Int64) (hp' : List mE), alk 0 lv = some (.long v0) → alk 2 lv = some (.int v2) → alk 3 lv = some (.int v3) → alk 4 lv = some (.int v4) → alk 5 lv = some (.int v5) → lvk n lv → hp.length = n → m143_0 F v0 v2 v3 v4 v5 hp = some (v, hp') → Rn d 143 0 lv [] hp c w (some (.long v), hp', c, w) := by
  intro v0 v2 v3 v4 v5 lv hp v hp' l0 l2 l3 l4 l5 ok hn h
  unfold m143_0 at h
  refine Rn.ldc2 n143_0 mo143 cL11_147 ?_
  refine Rn.lload_n n143_3 l0 ?_
  refine Rn.p n143_4 rfl ?_
  refine Rn.iload_n n143_5 l2 ?_
  refine Rn.p n143_6 rfl ?_
  refine Rn.p n143_7 rfl ?_
  refine Rn.ldc2 n143_8 mo143 cL11_149 ?_
  refine Rn.p n143_11 rfl ?_
  refine Rn.ls (m := n) n143_12 ml143 (by decide) (fun lv l6 hk hok => ?_)
  have l0 := hk 0 _ (by decide) (by decide) (Or.inr (by decide)) l0
  have l2 := hk 2 _ (by decide) (by decide) (Or.inl rfl) l2
  have l3 := hk 3 _ (by decide) (by decide) (Or.inl rfl) l3
  have l4 := hk 4 _ (by decide) (by decide) (Or.inl rfl) l4
  have l5 := hk 5 _ (by decide) (by decide) (Or.inl rfl) l5
  have ok := hok ok
  refine Rn.iload_n n143_14 l3 ?_
  by_cases hc1 : mc1 .ne v3 = true
  · rw [if_pos hc1] at h
    refine Rn.c1t (t := 23) n143_15 (by decide) hc1 ?_
    refine Rn.ldc2 n143_23 mo143 cL11_147 ?_
    refine Rn.lload n143_26 l6 ?_
    refine Rn.p n143_28 rfl ?_
    refine Rn.iload_n n143_29 l3 ?_
    refine Rn.p n143_30 rfl ?_
    refine Rn.p n143_31 rfl ?_
    refine Rn.ldc2 n143_32 mo143 cL11_149 ?_
    refine Rn.p n143_35 rfl ?_
    exact t143_36 hd F  _ _ _ lv _ _ _ l4 l5 ok hn   h
  · rw [if_neg hc1] at h
    refine Rn.c1f (t := 23) n143_15 (by decide) hc1 ?_
    refine Rn.lload n143_18 l6 ?_
    refine Rn.goto (t := 36) n143_20 (by decide) ?_
    exact t143_36 hd F  _ _ _ lv _ _ _ l4 l5 ok hn   h
def e143 (F : Nat) (a0 : Int64) (a1 : Int32) (a2 : Int32) (a3 : Int32) (a4 : Int32) (hp : List mE) : Option (Int64 × List mE) := m143_0 F a0 a1 a2 a3 a4 hp
theorem c143 {d : Nat} (hd : 0 ≤ d) (F : Nat) (a0 : Int64) (a1 : Int32) (a2 : Int32) (a3 : Int32) (a4 : Int32) (hp : List mE) (v : Int64) (hp' : List mE) (h : e143 F a0 a1 a2 a3 a4 hp = some (v, hp')) : Rn d 143 0 (lv_args 0 [.long a0, .int a1, .int a2, .int a3, .int a4]) [] hp 0 0 (some (.long v), hp', 0, 0) :=
  t143_0 (n := hp.length) hd F a0 a1 a2 a3 a4 (lv_args 0 [.long a0, .int a1, .int a2, .int a3, .int a4]) hp v hp' rfl rfl rfl rfl rfl (lvk_args (okc rfl (okc rfl (okc rfl (okc rfl (okc rfl okn)))))) rfl  h
/-! MirrorRootsModel.readFigure -/
def m144_0 (F : Nat) (v0 : Nat) (v1 : Int32) (v2 : Int32) (hp : List mE) : Option (Int32 × List mE) :=
  (rcv 11 hp v0).bind fun u2 =>
  (e140 F v0 hp).bind fun q1 =>
  (e137 F q1.1.toInt64 48 57 q1.2).bind fun q3 =>
  if mc1 .ne q3.1 = true then
    (pfv 11 10 q3.2 v0 (.int (q1.1 - 48))).bind fun hp5 =>
    (gfi 11 10 hp5 v0).bind fun x6 =>
    (e137 F x6.toInt64 v1.toInt64 v2.toInt64 hp5).bind fun q7 =>
    if mc1 .ne q7.1 = true then
      (gfi 11 7 q7.2 v0).bind fun x9 =>
      (pfv 11 7 q7.2 v0 (.int (x9 + 1))).bind fun hp10 =>
      some (0, hp10)
    else
      (gfi 11 7 q7.2 v0).bind fun x11 =>
      (rcv 11 q7.2 v0).bind fun u13 =>
      (e141 F v0 2 x11 q7.2).bind fun q12 =>
      some (q12.1, q12.2)
  else
    (gfi 11 7 q3.2 v0).bind fun x14 =>
    (rcv 11 q3.2 v0).bind fun u16 =>
    (e141 F v0 1 x14 q3.2).bind fun q15 =>
    some (q15.1, q15.2)
theorem t144_0 {d c w n : Nat} (hd : 1 ≤ d) (F : Nat) : ∀ (v0 : Nat) (v1 : Int32) (v2 : Int32) (lv : List (Nat × Value)) (hp : List mE) (v : Int32) (hp' : List mE), alk 0 lv = some (.ref v0) → alk 1 lv = some (.int v1) → alk 2 lv = some (.int v2) → lvk n lv → hp.length = n → v0 < n → m144_0 F v0 v1 v2 hp = some (v, hp') → Rn d 144 0 lv [] hp c w (some (.int v), hp', c, w) := by
  obtain ⟨d', rfl⟩ : ∃ d', d = d' + 1 := ⟨d - 1, by omega⟩
  intro v0 v1 v2 lv hp v hp' l0 l1 l2 ok hn r_v0 h
  unfold m144_0 at h
  refine Rn.aload_n n144_0 l0 ?_
  obtain ⟨u2, hu2, h⟩ := Option.bind_eq_some_iff.mp h
  obtain ⟨q1, hq1, h⟩ := Option.bind_eq_some_iff.mp h
  have gq1 := c140 (d := d') (by omega) F _ _ _ _ (by rw [hn]; exact r_v0) hq1
  refine Rn.cv (As := []) (rr := []) n144_1 mo144 mm11_128 (by decide) mq140 rfl rfl rfl rfl (by rw [mo140]; exact hu2) (Nat.le_of_ble_eq_true rfl) (by rw [hn]; exact (okc (okr r_v0) okn)) (by rw [hn]; exact okn) (by rw [hn]; exact ok) (by rw [ml140]; exact Nat.le_of_ble_eq_true rfl) gq1 ?_
  have hn := (Rn.len gq1).trans hn
  show Rn _ 144 4 lv [.int q1.1] q1.2 c w _
  refine Rn.isn (m := n) n144_4 rfl ml144 (by decide) (fun lv l3 hk hok => ?_)
  have l0 := hk 0 _ (by decide) (Or.inl rfl) l0
  have l1 := hk 1 _ (by decide) (Or.inl rfl) l1
  have l2 := hk 2 _ (by decide) (Or.inl rfl) l2
  have ok := hok ok
  refine Rn.iload_n n144_5 l3 ?_
  refine Rn.p n144_6 rfl ?_
  refine Rn.ldc2 n144_7 mo144 cL11_151 ?_
  refine Rn.ldc2 n144_10 mo144 cL11_153 ?_
  obtain ⟨q3, hq3, h⟩ := Option.bind_eq_some_iff.mp h
  have gq3 := c137 (d := d') (by omega) F _ _ _ _ _ _  hq3
  refine Rn.cs (as := [.long q1.1.toInt64, .long 48, .long 57]) (rr := []) n144_13 mo144 mm11_116 mq137 rfl rfl rfl rfl (Nat.le_of_ble_eq_true rfl) (by rw [hn]; exact (okc rfl (okc rfl (okc rfl okn)))) (by rw [hn]; exact okn) (by rw [hn]; exact ok) (by rw [ml137]; exact Nat.le_of_ble_eq_true rfl) gq3 ?_
  have hn := (Rn.len gq3).trans hn
  show Rn _ 144 16 lv [.int q3.1] q3.2 c w _
  by_cases hc4 : mc1 .ne q3.1 = true
  · rw [if_pos hc4] at h
    refine Rn.c1t (t := 29) n144_16 (by decide) hc4 ?_
    refine Rn.aload_n n144_29 l0 ?_
    refine Rn.iload_n n144_30 l3 ?_
    refine Rn.bp (v := 48) n144_31 (by decide) ?_
    refine Rn.p n144_33 rfl ?_
    obtain ⟨hp5, hhp5, h⟩ := Option.bind_eq_some_iff.mp h
    refine Rn.pf n144_34 mo144 fl11_159 ft11_10 rfl ff11_10 (fun _ _ hh => by cases hh) hhp5 ?_
    have hn := (pfv_len hhp5).trans hn
    refine Rn.aload_n n144_37 l0 ?_
    obtain ⟨x6, hx6, h⟩ := Option.bind_eq_some_iff.mp h
    refine Rn.gf n144_38 mo144 fl11_159 (gfi_v hx6) ?_
    refine Rn.p n144_41 rfl ?_
    refine Rn.iload_n n144_42 l1 ?_
    refine Rn.p n144_43 rfl ?_
    refine Rn.iload_n n144_44 l2 ?_
    refine Rn.p n144_45 rfl ?_
    obtain ⟨q7, hq7, h⟩ := Option.bind_eq_some_iff.mp h
    have gq7 := c137 (d := d') (by omega) F _ _ _ _ _ _  hq7
    refine Rn.cs (as := [.long x6.toInt64, .long v1.toInt64, .long v2.toInt64]) (rr := []) n144_46 mo144 mm11_116 mq137 rfl rfl rfl rfl (Nat.le_of_ble_eq_true rfl) (by rw [hn]; exact (okc rfl (okc rfl (okc rfl okn)))) (by rw [hn]; exact okn) (by rw [hn]; exact ok) (by rw [ml137]; exact Nat.le_of_ble_eq_true rfl) gq7 ?_
    have hn := (Rn.len gq7).trans hn
    show Rn _ 144 49 lv [.int q7.1] q7.2 c w _
    by_cases hc8 : mc1 .ne q7.1 = true
    · rw [if_pos hc8] at h
      refine Rn.c1t (t := 62) n144_49 (by decide) hc8 ?_
      refine Rn.aload_n n144_62 l0 ?_
      refine Rn.p n144_63 rfl ?_
      obtain ⟨x9, hx9, h⟩ := Option.bind_eq_some_iff.mp h
      refine Rn.gf n144_64 mo144 fl11_125 (gfi_v hx9) ?_
      refine Rn.ic (v := 1) n144_67 (by decide) ?_
      refine Rn.p n144_68 rfl ?_
      obtain ⟨hp10, hhp10, h⟩ := Option.bind_eq_some_iff.mp h
      refine Rn.pf n144_69 mo144 fl11_125 ft11_7 rfl ff11_7 (fun _ _ hh => by cases hh) hhp10 ?_
      have hn := (pfv_len hhp10).trans hn
      refine Rn.ic (v := 0) n144_72 (by decide) ?_
      have e1 := (Prod.mk.inj (Option.some.inj h)).1
      have e2 := (Prod.mk.inj (Option.some.inj h)).2
      subst e1
      subst e2
      exact Rn.iret n144_73 mr144
    · rw [if_neg hc8] at h
      refine Rn.c1f (t := 62) n144_49 (by decide) hc8 ?_
      refine Rn.aload_n n144_52 l0 ?_
      refine Rn.ic (v := 2) n144_53 (by decide) ?_
      refine Rn.aload_n n144_54 l0 ?_
      obtain ⟨x11, hx11, h⟩ := Option.bind_eq_some_iff.mp h
      refine Rn.gf n144_55 mo144 fl11_125 (gfi_v hx11) ?_
      obtain ⟨u13, hu13, h⟩ := Option.bind_eq_some_iff.mp h
      obtain ⟨q12, hq12, h⟩ := Option.bind_eq_some_iff.mp h
      have gq12 := c141 (d := d') (by omega) F _ _ _ _ _ _ (by rw [hn]; exact r_v0) hq12
      refine Rn.cv (As := [.int 2, .int x11]) (rr := []) n144_58 mo144 mm11_155 (by decide) mq141 rfl rfl rfl rfl (by rw [mo141]; exact hu13) (Nat.le_of_ble_eq_true rfl) (by rw [hn]; exact (okc (okr r_v0) (okc rfl (okc rfl okn)))) (by rw [hn]; exact okn) (by rw [hn]; exact ok) (by rw [ml141]; exact Nat.le_of_ble_eq_true rfl) gq12 ?_
      have hn := (Rn.len gq12).trans hn
      show Rn _ 144 61 lv [.int q12.1] q12.2 c w _
      have e1 := (Prod.mk.inj (Option.some.inj h)).1
      have e2 := (Prod.mk.inj (Option.some.inj h)).2
      subst e1
      subst e2
      exact Rn.iret n144_61 mr144
  · rw [if_neg hc4] at h
    refine Rn.c1f (t := 29) n144_16 (by decide) hc4 ?_
    refine Rn.aload_n n144_19 l0 ?_
    refine Rn.ic (v := 1) n144_20 (by decide) ?_
    refine Rn.aload_n n144_21 l0 ?_
    obtain ⟨x14, hx14, h⟩ := Option.bind_eq_some_iff.mp h
    refine Rn.gf n144_22 mo144 fl11_125 (gfi_v hx14) ?_
    obtain ⟨u16, hu16, h⟩ := Option.bind_eq_some_iff.mp h
    obtain ⟨q15, hq15, h⟩ := Option.bind_eq_some_iff.mp h
    have gq15 := c141 (d := d') (by omega) F _ _ _ _ _ _ (by rw [hn]; exact r_v0) hq15
    refine Rn.cv (As := [.int 1, .int x14]) (rr := []) n144_25 mo144 mm11_155 (by decide) mq141 rfl rfl rfl rfl (by rw [mo141]; exact hu16) (Nat.le_of_ble_eq_true rfl) (by rw [hn]; exact (okc (okr r_v0) (okc rfl (okc rfl okn)))) (by rw [hn]; exact okn) (by rw [hn]; exact ok) (by rw [ml141]; exact Nat.le_of_ble_eq_true rfl) gq15 ?_
    have hn := (Rn.len gq15).trans hn
    show Rn _ 144 28 lv [.int q15.1] q15.2 c w _
    have e1 := (Prod.mk.inj (Option.some.inj h)).1
    have e2 := (Prod.mk.inj (Option.some.inj h)).2
    subst e1
    subst e2
    exact Rn.iret n144_28 mr144
def e144 (F : Nat) (a0 : Nat) (a1 : Int32) (a2 : Int32) (hp : List mE) : Option (Int32 × List mE) := m144_0 F a0 a1 a2 hp
theorem c144 {d : Nat} (hd : 1 ≤ d) (F : Nat) (a0 : Nat) (a1 : Int32) (a2 : Int32) (hp : List mE) (v : Int32) (hp' : List mE) (ra0 : a0 < hp.length) (h : e144 F a0 a1 a2 hp = some (v, hp')) : Rn d 144 0 (lv_args 0 [.ref a0, .int a1, .int a2]) [] hp 0 0 (some (.int v), hp', 0, 0) :=
  t144_0 (n := hp.length) hd F a0 a1 a2 (lv_args 0 [.ref a0, .int a1, .int a2]) hp v hp' rfl rfl rfl (lvk_args (okc (okr ra0) (okc rfl (okc rfl okn)))) rfl ra0 h
/-! MirrorRootsModel.readTurns -/
def m145_108 (F : Nat) (v0 : Nat) (v1 : Int32) (v2 : Int32) (hp : List mE) : Option (Int32 × List mE) :=
  (gfr 11 3 hp v0).bind fun x1 =>
  (gfi 11 10 hp v0).bind fun x2 =>
  (wrI hp x1 v1 x2).bind fun hp3 =>
  some (v2, hp3)
theorem t145_108 {d c w n : Nat} (hd : 2 ≤ d) (F : Nat) : ∀ (v0 : Nat) (v1 : Int32) (v2 : Int32) (lv : List (Nat × Value)) (hp : List mE) (v : Int32) (hp' : List mE), alk 0 lv = some (.ref v0) → alk 1 lv = some (.int v1) → alk 2 lv = some (.int v2) → lvk n lv → hp.length = n → v0 < n → m145_108 F v0 v1 v2 hp = some (v, hp') → Rn d 145 108 lv [] hp c w (some (.int v), hp', c, w) := by
  obtain ⟨d', rfl⟩ : ∃ d', d = d' + 1 := ⟨d - 1, by omega⟩
  intro v0 v1 v2 lv hp v hp' l0 l1 l2 ok hn r_v0 h
  unfold m145_108 at h
  refine Rn.aload_n n145_108 l0 ?_
  obtain ⟨x1, hx1, h⟩ := Option.bind_eq_some_iff.mp h
  refine Rn.gf n145_109 mo145 fl11_20 (gfr_v hx1).1 ?_
  have r_x1 : x1 < n := by rw [← hn]; exact (gfr_v hx1).2
  refine Rn.iload_n n145_112 l1 ?_
  refine Rn.aload_n n145_113 l0 ?_
  obtain ⟨x2, hx2, h⟩ := Option.bind_eq_some_iff.mp h
  refine Rn.gf n145_114 mo145 fl11_159 (gfi_v hx2) ?_
  obtain ⟨hp3, hhp3, h⟩ := Option.bind_eq_some_iff.mp h
  refine Rn.iast n145_117 hhp3 ?_
  have hn := (wrI_st (st := []) hhp3).2.trans hn
  refine Rn.iload_n n145_118 l2 ?_
  have e1 := (Prod.mk.inj (Option.some.inj h)).1
  have e2 := (Prod.mk.inj (Option.some.inj h)).2
  subst e1
  subst e2
  exact Rn.iret n145_119 mr145
def m145_0 (F : Nat) (v0 : Nat) (v1 : Int32) (hp : List mE) : Option (Int32 × List mE) :=
  (rcv 11 hp v0).bind fun u2 =>
  (e140 F v0 hp).bind fun q1 =>
  (e137 F q1.1.toInt64 97 122 q1.2).bind fun q3 =>
  if mc1 .eq q3.1 = true then
    (rcv 11 q3.2 v0).bind fun u6 =>
    (e144 F v0 2 6 q3.2).bind fun q5 =>
    if mc1 .ne q5.1 = true then
      m145_108 F v0 v1 q5.1 q5.2
    else
      (gfi 11 10 q5.2 v0).bind fun x8 =>
      if mc2 .ne x8 5 = true then
        m145_108 F v0 v1 q5.1 q5.2
      else
        (gfi 11 7 q5.2 v0).bind fun x10 =>
        (rcv 11 q5.2 v0).bind fun u12 =>
        (e141 F v0 2 (x10 - 1) q5.2).bind fun q11 =>
        some (q11.1, q11.2)
  else
    (rcv 11 q3.2 v0).bind fun u14 =>
    (e142 F v0 q3.2).bind fun q13 =>
    (gfl 11 8 q13.2 v0).bind fun x15 =>
    (e143 F 0 110 101 118 101 q13.2).bind fun q16 =>
    (e143 F q16.1 114 0 0 0 q16.2).bind fun q17 =>
    if mc1 .eq (lg_cmp x15 q17.1) = true then
      (gfi 11 9 q17.2 v0).bind fun x19 =>
      (pfv 11 7 q17.2 v0 (.int x19)).bind fun hp20 =>
      (gfr 11 3 hp20 v0).bind fun x21 =>
      (wrI hp20 x21 v1 0).bind fun hp22 =>
      some (0, hp22)
    else
      (gfi 11 7 q17.2 v0).bind fun x23 =>
      (rcv 11 q17.2 v0).bind fun u25 =>
      (e141 F v0 1 x23 q17.2).bind fun q24 =>
      some (q24.1, q24.2)
theorem t145_0 {d c w n : Nat} (hd : 2 ≤ d) (F : Nat) : ∀ (v0 : Nat) (v1 : Int32) (lv : List (Nat × Value)) (hp : List mE) (v : Int32) (hp' : List mE), alk 0 lv = some (.ref v0) → alk 1 lv = some (.int v1) → lvk n lv → hp.length = n → v0 < n → m145_0 F v0 v1 hp = some (v, hp') → Rn d 145 0 lv [] hp c w (some (.int v), hp', c, w) := by
  obtain ⟨d', rfl⟩ : ∃ d', d = d' + 1 := ⟨d - 1, by omega⟩
  intro v0 v1 lv hp v hp' l0 l1 ok hn r_v0 h
  unfold m145_0 at h
  refine Rn.aload_n n145_0 l0 ?_
  obtain ⟨u2, hu2, h⟩ := Option.bind_eq_some_iff.mp h
  obtain ⟨q1, hq1, h⟩ := Option.bind_eq_some_iff.mp h
  have gq1 := c140 (d := d') (by omega) F _ _ _ _ (by rw [hn]; exact r_v0) hq1
  refine Rn.cv (As := []) (rr := []) n145_1 mo145 mm11_128 (by decide) mq140 rfl rfl rfl rfl (by rw [mo140]; exact hu2) (Nat.le_of_ble_eq_true rfl) (by rw [hn]; exact (okc (okr r_v0) okn)) (by rw [hn]; exact okn) (by rw [hn]; exact ok) (by rw [ml140]; exact Nat.le_of_ble_eq_true rfl) gq1 ?_
  have hn := (Rn.len gq1).trans hn
  show Rn _ 145 4 lv [.int q1.1] q1.2 c w _
  refine Rn.p n145_4 rfl ?_
  refine Rn.ldc2 n145_5 mo145 cL11_139 ?_
  refine Rn.ldc2 n145_8 mo145 cL11_141 ?_
  obtain ⟨q3, hq3, h⟩ := Option.bind_eq_some_iff.mp h
  have gq3 := c137 (d := d') (by omega) F _ _ _ _ _ _  hq3
  refine Rn.cs (as := [.long q1.1.toInt64, .long 97, .long 122]) (rr := []) n145_11 mo145 mm11_116 mq137 rfl rfl rfl rfl (Nat.le_of_ble_eq_true rfl) (by rw [hn]; exact (okc rfl (okc rfl (okc rfl okn)))) (by rw [hn]; exact okn) (by rw [hn]; exact ok) (by rw [ml137]; exact Nat.le_of_ble_eq_true rfl) gq3 ?_
  have hn := (Rn.len gq3).trans hn
  show Rn _ 145 14 lv [.int q3.1] q3.2 c w _
  by_cases hc4 : mc1 .eq q3.1 = true
  · rw [if_pos hc4] at h
    refine Rn.c1t (t := 76) n145_14 (by decide) hc4 ?_
    refine Rn.aload_n n145_76 l0 ?_
    refine Rn.ic (v := 2) n145_77 (by decide) ?_
    refine Rn.bp (v := 6) n145_78 (by decide) ?_
    obtain ⟨u6, hu6, h⟩ := Option.bind_eq_some_iff.mp h
    obtain ⟨q5, hq5, h⟩ := Option.bind_eq_some_iff.mp h
    have gq5 := c144 (d := d') (by omega) F _ _ _ _ _ _ (by rw [hn]; exact r_v0) hq5
    refine Rn.cv (As := [.int 2, .int 6]) (rr := []) n145_80 mo145 mm11_169 (by decide) mq144 rfl rfl rfl rfl (by rw [mo144]; exact hu6) (Nat.le_of_ble_eq_true rfl) (by rw [hn]; exact (okc (okr r_v0) (okc rfl (okc rfl okn)))) (by rw [hn]; exact okn) (by rw [hn]; exact ok) (by rw [ml144]; exact Nat.le_of_ble_eq_true rfl) gq5 ?_
    have hn := (Rn.len gq5).trans hn
    show Rn _ 145 83 lv [.int q5.1] q5.2 c w _
    refine Rn.isn (m := n) n145_83 rfl ml145 (by decide) (fun lv l2 hk hok => ?_)
    have l0 := hk 0 _ (by decide) (Or.inl rfl) l0
    have l1 := hk 1 _ (by decide) (Or.inl rfl) l1
    have ok := hok ok
    refine Rn.iload_n n145_84 l2 ?_
    by_cases hc7 : mc1 .ne q5.1 = true
    · rw [if_pos hc7] at h
      refine Rn.c1t (t := 108) n145_85 (by decide) hc7 ?_
      exact t145_108 hd F  _ _ _ lv _ _ _ l0 l1 l2 ok hn r_v0  h
    · rw [if_neg hc7] at h
      refine Rn.c1f (t := 108) n145_85 (by decide) hc7 ?_
      refine Rn.aload_n n145_88 l0 ?_
      obtain ⟨x8, hx8, h⟩ := Option.bind_eq_some_iff.mp h
      refine Rn.gf n145_89 mo145 fl11_159 (gfi_v hx8) ?_
      refine Rn.ic (v := 5) n145_92 (by decide) ?_
      by_cases hc9 : mc2 .ne x8 5 = true
      · rw [if_pos hc9] at h
        refine Rn.c2t (t := 108) n145_93 (by decide) hc9 ?_
        exact t145_108 hd F  _ _ _ lv _ _ _ l0 l1 l2 ok hn r_v0  h
      · rw [if_neg hc9] at h
        refine Rn.c2f (t := 108) n145_93 (by decide) hc9 ?_
        refine Rn.aload_n n145_96 l0 ?_
        refine Rn.ic (v := 2) n145_97 (by decide) ?_
        refine Rn.aload_n n145_98 l0 ?_
        obtain ⟨x10, hx10, h⟩ := Option.bind_eq_some_iff.mp h
        refine Rn.gf n145_99 mo145 fl11_125 (gfi_v hx10) ?_
        refine Rn.ic (v := 1) n145_102 (by decide) ?_
        refine Rn.p n145_103 rfl ?_
        obtain ⟨u12, hu12, h⟩ := Option.bind_eq_some_iff.mp h
        obtain ⟨q11, hq11, h⟩ := Option.bind_eq_some_iff.mp h
        have gq11 := c141 (d := d') (by omega) F _ _ _ _ _ _ (by rw [hn]; exact r_v0) hq11
        refine Rn.cv (As := [.int 2, .int (x10 - 1)]) (rr := []) n145_104 mo145 mm11_155 (by decide) mq141 rfl rfl rfl rfl (by rw [mo141]; exact hu12) (Nat.le_of_ble_eq_true rfl) (by rw [hn]; exact (okc (okr r_v0) (okc rfl (okc rfl okn)))) (by rw [hn]; exact okn) (by rw [hn]; exact ok) (by rw [ml141]; exact Nat.le_of_ble_eq_true rfl) gq11 ?_
        have hn := (Rn.len gq11).trans hn
        show Rn _ 145 107 lv [.int q11.1] q11.2 c w _
        have e1 := (Prod.mk.inj (Option.some.inj h)).1
        have e2 := (Prod.mk.inj (Option.some.inj h)).2
        subst e1
        subst e2
        exact Rn.iret n145_107 mr145
  · rw [if_neg hc4] at h
    refine Rn.c1f (t := 76) n145_14 (by decide) hc4 ?_
    refine Rn.aload_n n145_17 l0 ?_
    obtain ⟨u14, hu14, h⟩ := Option.bind_eq_some_iff.mp h
    obtain ⟨q13, hq13, h⟩ := Option.bind_eq_some_iff.mp h
    have gq13 := c142 (d := d') (by omega) F _ _ _ _ (by rw [hn]; exact r_v0) hq13
    refine Rn.cv (As := []) (rr := []) n145_18 mo145 mm11_162 (by decide) mq142 rfl rfl rfl rfl (by rw [mo142]; exact hu14) (Nat.le_of_ble_eq_true rfl) (by rw [hn]; exact (okc (okr r_v0) okn)) (by rw [hn]; exact okn) (by rw [hn]; exact ok) (by rw [ml142]; exact Nat.le_of_ble_eq_true rfl) gq13 ?_
    have hn := (Rn.len gq13).trans hn
    show Rn _ 145 21 lv [] q13.2 c w _
    refine Rn.aload_n n145_21 l0 ?_
    obtain ⟨x15, hx15, h⟩ := Option.bind_eq_some_iff.mp h
    refine Rn.gf n145_22 mo145 fl11_132 (gfl_v hx15) ?_
    refine Rn.lc (v := 0) n145_25 (by decide) ?_
    refine Rn.bp (v := 110) n145_26 (by decide) ?_
    refine Rn.bp (v := 101) n145_28 (by decide) ?_
    refine Rn.bp (v := 118) n145_30 (by decide) ?_
    refine Rn.bp (v := 101) n145_32 (by decide) ?_
    obtain ⟨q16, hq16, h⟩ := Option.bind_eq_some_iff.mp h
    have gq16 := c143 (d := d') (by omega) F _ _ _ _ _ _ _ _  hq16
    refine Rn.cs (as := [.long 0, .int 110, .int 101, .int 118, .int 101]) (rr := [.long x15]) n145_34 mo145 mm11_165 mq143 rfl rfl rfl rfl (Nat.le_of_ble_eq_true rfl) (by rw [hn]; exact (okc rfl (okc rfl (okc rfl (okc rfl (okc rfl okn)))))) (by rw [hn]; exact (okc rfl okn)) (by rw [hn]; exact ok) (by rw [ml143]; exact Nat.le_of_ble_eq_true rfl) gq16 ?_
    have hn := (Rn.len gq16).trans hn
    show Rn _ 145 37 lv [.long q16.1, .long x15] q16.2 c w _
    refine Rn.bp (v := 114) n145_37 (by decide) ?_
    refine Rn.ic (v := 0) n145_39 (by decide) ?_
    refine Rn.ic (v := 0) n145_40 (by decide) ?_
    refine Rn.ic (v := 0) n145_41 (by decide) ?_
    obtain ⟨q17, hq17, h⟩ := Option.bind_eq_some_iff.mp h
    have gq17 := c143 (d := d') (by omega) F _ _ _ _ _ _ _ _  hq17
    refine Rn.cs (as := [.long q16.1, .int 114, .int 0, .int 0, .int 0]) (rr := [.long x15]) n145_42 mo145 mm11_165 mq143 rfl rfl rfl rfl (Nat.le_of_ble_eq_true rfl) (by rw [hn]; exact (okc rfl (okc rfl (okc rfl (okc rfl (okc rfl okn)))))) (by rw [hn]; exact (okc rfl okn)) (by rw [hn]; exact ok) (by rw [ml143]; exact Nat.le_of_ble_eq_true rfl) gq17 ?_
    have hn := (Rn.len gq17).trans hn
    show Rn _ 145 45 lv [.long q17.1, .long x15] q17.2 c w _
    refine Rn.p n145_45 rfl ?_
    by_cases hc18 : mc1 .eq (lg_cmp x15 q17.1) = true
    · rw [if_pos hc18] at h
      refine Rn.c1t (t := 59) n145_46 (by decide) hc18 ?_
      refine Rn.aload_n n145_59 l0 ?_
      refine Rn.aload_n n145_60 l0 ?_
      obtain ⟨x19, hx19, h⟩ := Option.bind_eq_some_iff.mp h
      refine Rn.gf n145_61 mo145 fl11_136 (gfi_v hx19) ?_
      obtain ⟨hp20, hhp20, h⟩ := Option.bind_eq_some_iff.mp h
      refine Rn.pf n145_64 mo145 fl11_125 ft11_7 rfl ff11_7 (fun _ _ hh => by cases hh) hhp20 ?_
      have hn := (pfv_len hhp20).trans hn
      refine Rn.aload_n n145_67 l0 ?_
      obtain ⟨x21, hx21, h⟩ := Option.bind_eq_some_iff.mp h
      refine Rn.gf n145_68 mo145 fl11_20 (gfr_v hx21).1 ?_
      have r_x21 : x21 < n := by rw [← hn]; exact (gfr_v hx21).2
      refine Rn.iload_n n145_71 l1 ?_
      refine Rn.ic (v := 0) n145_72 (by decide) ?_
      obtain ⟨hp22, hhp22, h⟩ := Option.bind_eq_some_iff.mp h
      refine Rn.iast n145_73 hhp22 ?_
      have hn := (wrI_st (st := []) hhp22).2.trans hn
      refine Rn.ic (v := 0) n145_74 (by decide) ?_
      have e1 := (Prod.mk.inj (Option.some.inj h)).1
      have e2 := (Prod.mk.inj (Option.some.inj h)).2
      subst e1
      subst e2
      exact Rn.iret n145_75 mr145
    · rw [if_neg hc18] at h
      refine Rn.c1f (t := 59) n145_46 (by decide) hc18 ?_
      refine Rn.aload_n n145_49 l0 ?_
      refine Rn.ic (v := 1) n145_50 (by decide) ?_
      refine Rn.aload_n n145_51 l0 ?_
      obtain ⟨x23, hx23, h⟩ := Option.bind_eq_some_iff.mp h
      refine Rn.gf n145_52 mo145 fl11_125 (gfi_v hx23) ?_
      obtain ⟨u25, hu25, h⟩ := Option.bind_eq_some_iff.mp h
      obtain ⟨q24, hq24, h⟩ := Option.bind_eq_some_iff.mp h
      have gq24 := c141 (d := d') (by omega) F _ _ _ _ _ _ (by rw [hn]; exact r_v0) hq24
      refine Rn.cv (As := [.int 1, .int x23]) (rr := []) n145_55 mo145 mm11_155 (by decide) mq141 rfl rfl rfl rfl (by rw [mo141]; exact hu25) (Nat.le_of_ble_eq_true rfl) (by rw [hn]; exact (okc (okr r_v0) (okc rfl (okc rfl okn)))) (by rw [hn]; exact okn) (by rw [hn]; exact ok) (by rw [ml141]; exact Nat.le_of_ble_eq_true rfl) gq24 ?_
      have hn := (Rn.len gq24).trans hn
      show Rn _ 145 58 lv [.int q24.1] q24.2 c w _
      have e1 := (Prod.mk.inj (Option.some.inj h)).1
      have e2 := (Prod.mk.inj (Option.some.inj h)).2
      subst e1
      subst e2
      exact Rn.iret n145_58 mr145
def e145 (F : Nat) (a0 : Nat) (a1 : Int32) (hp : List mE) : Option (Int32 × List mE) := m145_0 F a0 a1 hp
theorem c145 {d : Nat} (hd : 2 ≤ d) (F : Nat) (a0 : Nat) (a1 : Int32) (hp : List mE) (v : Int32) (hp' : List mE) (ra0 : a0 < hp.length) (h : e145 F a0 a1 hp = some (v, hp')) : Rn d 145 0 (lv_args 0 [.ref a0, .int a1]) [] hp 0 0 (some (.int v), hp', 0, 0) :=
  t145_0 (n := hp.length) hd F a0 a1 (lv_args 0 [.ref a0, .int a1]) hp v hp' rfl rfl (lvk_args (okc (okr ra0) (okc rfl okn))) rfl ra0 h
/-! MirrorRootsModel.readPair -/
def m146_90 (F : Nat) (v0 : Nat) (v2 : Int32) (t0 : Int32) (hp : List mE) : Option (Int32 × List mE) :=
  (gfr 11 11 hp v0).bind fun x1 =>
  (rdZ hp x1 t0).bind fun x2 =>
  if mc1 .eq x2 = true then
    (gfr 11 11 hp v0).bind fun x4 =>
    (wrZ hp x4 t0 1).bind fun hp5 =>
    (rcv 11 hp5 v0).bind fun u7 =>
    (e145 F v0 t0 hp5).bind fun q6 =>
    some (q6.1, q6.2)
  else
    (rcv 11 hp v0).bind fun u9 =>
    (e141 F v0 3 v2 hp).bind fun q8 =>
    some (q8.1, q8.2)
theorem t146_90 {d c w n : Nat} (hd : 3 ≤ d) (F : Nat) : ∀ (v0 : Nat) (v2 : Int32) (t0 : Int32) (lv : List (Nat × Value)) (hp : List mE) (v : Int32) (hp' : List mE), alk 0 lv = some (.ref v0) → alk 2 lv = some (.int v2) → lvk n lv → hp.length = n → v0 < n → m146_90 F v0 v2 t0 hp = some (v, hp') → Rn d 146 90 lv [.int t0] hp c w (some (.int v), hp', c, w) := by
  obtain ⟨d', rfl⟩ : ∃ d', d = d' + 1 := ⟨d - 1, by omega⟩
  intro v0 v2 t0 lv hp v hp' l0 l2 ok hn r_v0 h
  unfold m146_90 at h
  refine Rn.is (m := n) n146_90 ml146 (by decide) (fun lv l6 hk hok => ?_)
  have l0 := hk 0 _ (by decide) (Or.inl rfl) l0
  have l2 := hk 2 _ (by decide) (Or.inl rfl) l2
  have ok := hok ok
  refine Rn.aload_n n146_92 l0 ?_
  obtain ⟨x1, hx1, h⟩ := Option.bind_eq_some_iff.mp h
  refine Rn.gf n146_93 mo146 fl11_29 (gfr_v hx1).1 ?_
  have r_x1 : x1 < n := by rw [← hn]; exact (gfr_v hx1).2
  refine Rn.iload n146_96 l6 ?_
  obtain ⟨x2, hx2, h⟩ := Option.bind_eq_some_iff.mp h
  refine Rn.zald n146_98 hx2 ?_
  by_cases hc3 : mc1 .eq x2 = true
  · rw [if_pos hc3] at h
    refine Rn.c1t (t := 109) n146_99 (by decide) hc3 ?_
    refine Rn.aload_n n146_109 l0 ?_
    obtain ⟨x4, hx4, h⟩ := Option.bind_eq_some_iff.mp h
    refine Rn.gf n146_110 mo146 fl11_29 (gfr_v hx4).1 ?_
    have r_x4 : x4 < n := by rw [← hn]; exact (gfr_v hx4).2
    refine Rn.iload n146_113 l6 ?_
    refine Rn.ic (v := 1) n146_115 (by decide) ?_
    obtain ⟨hp5, hhp5, h⟩ := Option.bind_eq_some_iff.mp h
    refine Rn.zast n146_116 hhp5 ?_
    have hn := (wrZ_st (st := []) hhp5).2.trans hn
    refine Rn.aload_n n146_117 l0 ?_
    refine Rn.iload n146_118 l6 ?_
    obtain ⟨u7, hu7, h⟩ := Option.bind_eq_some_iff.mp h
    obtain ⟨q6, hq6, h⟩ := Option.bind_eq_some_iff.mp h
    have gq6 := c145 (d := d') (by omega) F _ _ _ _ _ (by rw [hn]; exact r_v0) hq6
    refine Rn.cv (As := [.int t0]) (rr := []) n146_120 mo146 mm11_172 (by decide) mq145 rfl rfl rfl rfl (by rw [mo145]; exact hu7) (Nat.le_of_ble_eq_true rfl) (by rw [hn]; exact (okc (okr r_v0) (okc rfl okn))) (by rw [hn]; exact okn) (by rw [hn]; exact ok) (by rw [ml145]; exact Nat.le_of_ble_eq_true rfl) gq6 ?_
    have hn := (Rn.len gq6).trans hn
    show Rn _ 146 123 lv [.int q6.1] q6.2 c w _
    have e1 := (Prod.mk.inj (Option.some.inj h)).1
    have e2 := (Prod.mk.inj (Option.some.inj h)).2
    subst e1
    subst e2
    exact Rn.iret n146_123 mr146
  · rw [if_neg hc3] at h
    refine Rn.c1f (t := 109) n146_99 (by decide) hc3 ?_
    refine Rn.aload_n n146_102 l0 ?_
    refine Rn.ic (v := 3) n146_103 (by decide) ?_
    refine Rn.iload_n n146_104 l2 ?_
    obtain ⟨u9, hu9, h⟩ := Option.bind_eq_some_iff.mp h
    obtain ⟨q8, hq8, h⟩ := Option.bind_eq_some_iff.mp h
    have gq8 := c141 (d := d') (by omega) F _ _ _ _ _ _ (by rw [hn]; exact r_v0) hq8
    refine Rn.cv (As := [.int 3, .int v2]) (rr := []) n146_105 mo146 mm11_155 (by decide) mq141 rfl rfl rfl rfl (by rw [mo141]; exact hu9) (Nat.le_of_ble_eq_true rfl) (by rw [hn]; exact (okc (okr r_v0) (okc rfl (okc rfl okn)))) (by rw [hn]; exact okn) (by rw [hn]; exact ok) (by rw [ml141]; exact Nat.le_of_ble_eq_true rfl) gq8 ?_
    have hn := (Rn.len gq8).trans hn
    show Rn _ 146 108 lv [.int q8.1] q8.2 c w _
    have e1 := (Prod.mk.inj (Option.some.inj h)).1
    have e2 := (Prod.mk.inj (Option.some.inj h)).2
    subst e1
    subst e2
    exact Rn.iret n146_108 mr146
def m146_0 (F : Nat) (v0 : Nat) (v1 : Int32) (hp : List mE) : Option (Int32 × List mE) :=
  (gfi 11 7 hp v0).bind fun x1 =>
  (rcv 11 hp v0).bind fun u3 =>
  (e144 F v0 0 (v1 - 1) hp).bind fun q2 =>
  (gfi 11 10 q2.2 v0).bind fun x4 =>
  if mc1 .le q2.1 = true then
    (rcv 11 q2.2 v0).bind fun u7 =>
    (e144 F v0 0 (v1 - 1) q2.2).bind fun q6 =>
    (gfi 11 10 q6.2 v0).bind fun x8 =>
    if mc1 .le q6.1 = true then
      if mc2 .ne x4 x8 = true then
        if mc2 .ge x4 x8 = true then
          m146_90 F v0 x1 ((5 * x8) + x4) q6.2
        else
          m146_90 F v0 x1 ((5 * x4) + x8) q6.2
      else
        (gfi 11 7 q6.2 v0).bind fun x12 =>
        (rcv 11 q6.2 v0).bind fun u14 =>
        (e141 F v0 2 (x12 - 1) q6.2).bind fun q13 =>
        some (q13.1, q13.2)
    else
      some (q6.1, q6.2)
  else
    some (q2.1, q2.2)
theorem t146_0 {d c w n : Nat} (hd : 3 ≤ d) (F : Nat) : ∀ (v0 : Nat) (v1 : Int32) (lv : List (Nat × Value)) (hp : List mE) (v : Int32) (hp' : List mE), alk 0 lv = some (.ref v0) → alk 1 lv = some (.int v1) → lvk n lv → hp.length = n → v0 < n → m146_0 F v0 v1 hp = some (v, hp') → Rn d 146 0 lv [] hp c w (some (.int v), hp', c, w) := by
  obtain ⟨d', rfl⟩ : ∃ d', d = d' + 1 := ⟨d - 1, by omega⟩
  intro v0 v1 lv hp v hp' l0 l1 ok hn r_v0 h
  unfold m146_0 at h
  refine Rn.aload_n n146_0 l0 ?_
  obtain ⟨x1, hx1, h⟩ := Option.bind_eq_some_iff.mp h
  refine Rn.gf n146_1 mo146 fl11_125 (gfi_v hx1) ?_
  refine Rn.isn (m := n) n146_4 rfl ml146 (by decide) (fun lv l2 hk hok => ?_)
  have l0 := hk 0 _ (by decide) (Or.inl rfl) l0
  have l1 := hk 1 _ (by decide) (Or.inl rfl) l1
  have ok := hok ok
  refine Rn.aload_n n146_5 l0 ?_
  refine Rn.ic (v := 0) n146_6 (by decide) ?_
  refine Rn.iload_n n146_7 l1 ?_
  refine Rn.ic (v := 1) n146_8 (by decide) ?_
  refine Rn.p n146_9 rfl ?_
  obtain ⟨u3, hu3, h⟩ := Option.bind_eq_some_iff.mp h
  obtain ⟨q2, hq2, h⟩ := Option.bind_eq_some_iff.mp h
  have gq2 := c144 (d := d') (by omega) F _ _ _ _ _ _ (by rw [hn]; exact r_v0) hq2
  refine Rn.cv (As := [.int 0, .int (v1 - 1)]) (rr := []) n146_10 mo146 mm11_169 (by decide) mq144 rfl rfl rfl rfl (by rw [mo144]; exact hu3) (Nat.le_of_ble_eq_true rfl) (by rw [hn]; exact (okc (okr r_v0) (okc rfl (okc rfl okn)))) (by rw [hn]; exact okn) (by rw [hn]; exact ok) (by rw [ml144]; exact Nat.le_of_ble_eq_true rfl) gq2 ?_
  have hn := (Rn.len gq2).trans hn
  show Rn _ 146 13 lv [.int q2.1] q2.2 c w _
  refine Rn.isn (m := n) n146_13 rfl ml146 (by decide) (fun lv l3 hk hok => ?_)
  have l0 := hk 0 _ (by decide) (Or.inl rfl) l0
  have l1 := hk 1 _ (by decide) (Or.inl rfl) l1
  have l2 := hk 2 _ (by decide) (Or.inl rfl) l2
  have ok := hok ok
  refine Rn.aload_n n146_14 l0 ?_
  obtain ⟨x4, hx4, h⟩ := Option.bind_eq_some_iff.mp h
  refine Rn.gf n146_15 mo146 fl11_159 (gfi_v hx4) ?_
  refine Rn.is (m := n) n146_18 ml146 (by decide) (fun lv l4 hk hok => ?_)
  have l0 := hk 0 _ (by decide) (Or.inl rfl) l0
  have l1 := hk 1 _ (by decide) (Or.inl rfl) l1
  have l2 := hk 2 _ (by decide) (Or.inl rfl) l2
  have l3 := hk 3 _ (by decide) (Or.inl rfl) l3
  have ok := hok ok
  refine Rn.iload_n n146_20 l3 ?_
  by_cases hc5 : mc1 .le q2.1 = true
  · rw [if_pos hc5] at h
    refine Rn.c1t (t := 26) n146_21 (by decide) hc5 ?_
    refine Rn.aload_n n146_26 l0 ?_
    refine Rn.ic (v := 0) n146_27 (by decide) ?_
    refine Rn.iload_n n146_28 l1 ?_
    refine Rn.ic (v := 1) n146_29 (by decide) ?_
    refine Rn.p n146_30 rfl ?_
    obtain ⟨u7, hu7, h⟩ := Option.bind_eq_some_iff.mp h
    obtain ⟨q6, hq6, h⟩ := Option.bind_eq_some_iff.mp h
    have gq6 := c144 (d := d') (by omega) F _ _ _ _ _ _ (by rw [hn]; exact r_v0) hq6
    refine Rn.cv (As := [.int 0, .int (v1 - 1)]) (rr := []) n146_31 mo146 mm11_169 (by decide) mq144 rfl rfl rfl rfl (by rw [mo144]; exact hu7) (Nat.le_of_ble_eq_true rfl) (by rw [hn]; exact (okc (okr r_v0) (okc rfl (okc rfl okn)))) (by rw [hn]; exact okn) (by rw [hn]; exact ok) (by rw [ml144]; exact Nat.le_of_ble_eq_true rfl) gq6 ?_
    have hn := (Rn.len gq6).trans hn
    show Rn _ 146 34 lv [.int q6.1] q6.2 c w _
    refine Rn.isn (m := n) n146_34 rfl ml146 (by decide) (fun lv l3 hk hok => ?_)
    have l0 := hk 0 _ (by decide) (Or.inl rfl) l0
    have l1 := hk 1 _ (by decide) (Or.inl rfl) l1
    have l2 := hk 2 _ (by decide) (Or.inl rfl) l2
    have l4 := hk 4 _ (by decide) (Or.inl rfl) l4
    have ok := hok ok
    refine Rn.aload_n n146_35 l0 ?_
    obtain ⟨x8, hx8, h⟩ := Option.bind_eq_some_iff.mp h
    refine Rn.gf n146_36 mo146 fl11_159 (gfi_v hx8) ?_
    refine Rn.is (m := n) n146_39 ml146 (by decide) (fun lv l5 hk hok => ?_)
    have l0 := hk 0 _ (by decide) (Or.inl rfl) l0
    have l1 := hk 1 _ (by decide) (Or.inl rfl) l1
    have l2 := hk 2 _ (by decide) (Or.inl rfl) l2
    have l3 := hk 3 _ (by decide) (Or.inl rfl) l3
    have l4 := hk 4 _ (by decide) (Or.inl rfl) l4
    have ok := hok ok
    refine Rn.iload_n n146_41 l3 ?_
    by_cases hc9 : mc1 .le q6.1 = true
    · rw [if_pos hc9] at h
      refine Rn.c1t (t := 47) n146_42 (by decide) hc9 ?_
      refine Rn.iload n146_47 l4 ?_
      refine Rn.iload n146_49 l5 ?_
      by_cases hc10 : mc2 .ne x4 x8 = true
      · rw [if_pos hc10] at h
        refine Rn.c2t (t := 66) n146_51 (by decide) hc10 ?_
        refine Rn.iload n146_66 l4 ?_
        refine Rn.iload n146_68 l5 ?_
        by_cases hc11 : mc2 .ge x4 x8 = true
        · rw [if_pos hc11] at h
          refine Rn.c2t (t := 83) n146_70 (by decide) hc11 ?_
          refine Rn.ic (v := 5) n146_83 (by decide) ?_
          refine Rn.iload n146_84 l5 ?_
          refine Rn.p n146_86 rfl ?_
          refine Rn.iload n146_87 l4 ?_
          refine Rn.p n146_89 rfl ?_
          exact t146_90 hd F  _ _ _ lv _ _ _ l0 l2 ok hn r_v0  h
        · rw [if_neg hc11] at h
          refine Rn.c2f (t := 83) n146_70 (by decide) hc11 ?_
          refine Rn.ic (v := 5) n146_73 (by decide) ?_
          refine Rn.iload n146_74 l4 ?_
          refine Rn.p n146_76 rfl ?_
          refine Rn.iload n146_77 l5 ?_
          refine Rn.p n146_79 rfl ?_
          refine Rn.goto (t := 90) n146_80 (by decide) ?_
          exact t146_90 hd F  _ _ _ lv _ _ _ l0 l2 ok hn r_v0  h
      · rw [if_neg hc10] at h
        refine Rn.c2f (t := 66) n146_51 (by decide) hc10 ?_
        refine Rn.aload_n n146_54 l0 ?_
        refine Rn.ic (v := 2) n146_55 (by decide) ?_
        refine Rn.aload_n n146_56 l0 ?_
        obtain ⟨x12, hx12, h⟩ := Option.bind_eq_some_iff.mp h
        refine Rn.gf n146_57 mo146 fl11_125 (gfi_v hx12) ?_
        refine Rn.ic (v := 1) n146_60 (by decide) ?_
        refine Rn.p n146_61 rfl ?_
        obtain ⟨u14, hu14, h⟩ := Option.bind_eq_some_iff.mp h
        obtain ⟨q13, hq13, h⟩ := Option.bind_eq_some_iff.mp h
        have gq13 := c141 (d := d') (by omega) F _ _ _ _ _ _ (by rw [hn]; exact r_v0) hq13
        refine Rn.cv (As := [.int 2, .int (x12 - 1)]) (rr := []) n146_62 mo146 mm11_155 (by decide) mq141 rfl rfl rfl rfl (by rw [mo141]; exact hu14) (Nat.le_of_ble_eq_true rfl) (by rw [hn]; exact (okc (okr r_v0) (okc rfl (okc rfl okn)))) (by rw [hn]; exact okn) (by rw [hn]; exact ok) (by rw [ml141]; exact Nat.le_of_ble_eq_true rfl) gq13 ?_
        have hn := (Rn.len gq13).trans hn
        show Rn _ 146 65 lv [.int q13.1] q13.2 c w _
        have e1 := (Prod.mk.inj (Option.some.inj h)).1
        have e2 := (Prod.mk.inj (Option.some.inj h)).2
        subst e1
        subst e2
        exact Rn.iret n146_65 mr146
    · rw [if_neg hc9] at h
      refine Rn.c1f (t := 47) n146_42 (by decide) hc9 ?_
      refine Rn.iload_n n146_45 l3 ?_
      have e1 := (Prod.mk.inj (Option.some.inj h)).1
      have e2 := (Prod.mk.inj (Option.some.inj h)).2
      subst e1
      subst e2
      exact Rn.iret n146_46 mr146
  · rw [if_neg hc5] at h
    refine Rn.c1f (t := 26) n146_21 (by decide) hc5 ?_
    refine Rn.iload_n n146_24 l3 ?_
    have e1 := (Prod.mk.inj (Option.some.inj h)).1
    have e2 := (Prod.mk.inj (Option.some.inj h)).2
    subst e1
    subst e2
    exact Rn.iret n146_25 mr146
def e146 (F : Nat) (a0 : Nat) (a1 : Int32) (hp : List mE) : Option (Int32 × List mE) := m146_0 F a0 a1 hp
theorem c146 {d : Nat} (hd : 3 ≤ d) (F : Nat) (a0 : Nat) (a1 : Int32) (hp : List mE) (v : Int32) (hp' : List mE) (ra0 : a0 < hp.length) (h : e146 F a0 a1 hp = some (v, hp')) : Rn d 146 0 (lv_args 0 [.ref a0, .int a1]) [] hp 0 0 (some (.int v), hp', 0, 0) :=
  t146_0 (n := hp.length) hd F a0 a1 (lv_args 0 [.ref a0, .int a1]) hp v hp' rfl rfl (lvk_args (okc (okr ra0) (okc rfl okn))) rfl ra0 h
/-! MirrorRootsModel.readClause -/
def m147_115 (F : Nat) (v0 : Nat) (v3 : Int32) (hp : List mE) : Option (Int32 × List mE) :=
  if mc1 .le v3 = true then
    (rcv 11 hp v0).bind fun u3 =>
    (e140 F v0 hp).bind fun q2 =>
    if mc2 .eq q2.1 59 = true then
      (gfi 11 7 q2.2 v0).bind fun x5 =>
      (pfv 11 7 q2.2 v0 (.int (x5 + 1))).bind fun hp6 =>
      some (0, hp6)
    else
      (gfi 11 7 q2.2 v0).bind fun x7 =>
      (rcv 11 q2.2 v0).bind fun u9 =>
      (e141 F v0 1 x7 q2.2).bind fun q8 =>
      some (q8.1, q8.2)
  else
    some (v3, hp)
theorem t147_115 {d c w n : Nat} (hd : 4 ≤ d) (F : Nat) : ∀ (v0 : Nat) (v3 : Int32) (lv : List (Nat × Value)) (hp : List mE) (v : Int32) (hp' : List mE), alk 0 lv = some (.ref v0) → alk 3 lv = some (.int v3) → lvk n lv → hp.length = n → v0 < n → m147_115 F v0 v3 hp = some (v, hp') → Rn d 147 115 lv [] hp c w (some (.int v), hp', c, w) := by
  obtain ⟨d', rfl⟩ : ∃ d', d = d' + 1 := ⟨d - 1, by omega⟩
  intro v0 v3 lv hp v hp' l0 l3 ok hn r_v0 h
  unfold m147_115 at h
  refine Rn.iload_n n147_115 l3 ?_
  by_cases hc1 : mc1 .le v3 = true
  · rw [if_pos hc1] at h
    refine Rn.c1t (t := 121) n147_116 (by decide) hc1 ?_
    refine Rn.aload_n n147_121 l0 ?_
    obtain ⟨u3, hu3, h⟩ := Option.bind_eq_some_iff.mp h
    obtain ⟨q2, hq2, h⟩ := Option.bind_eq_some_iff.mp h
    have gq2 := c140 (d := d') (by omega) F _ _ _ _ (by rw [hn]; exact r_v0) hq2
    refine Rn.cv (As := []) (rr := []) n147_122 mo147 mm11_128 (by decide) mq140 rfl rfl rfl rfl (by rw [mo140]; exact hu3) (Nat.le_of_ble_eq_true rfl) (by rw [hn]; exact (okc (okr r_v0) okn)) (by rw [hn]; exact okn) (by rw [hn]; exact ok) (by rw [ml140]; exact Nat.le_of_ble_eq_true rfl) gq2 ?_
    have hn := (Rn.len gq2).trans hn
    show Rn _ 147 125 lv [.int q2.1] q2.2 c w _
    refine Rn.bp (v := 59) n147_125 (by decide) ?_
    by_cases hc4 : mc2 .eq q2.1 59 = true
    · rw [if_pos hc4] at h
      refine Rn.c2t (t := 140) n147_127 (by decide) hc4 ?_
      refine Rn.aload_n n147_140 l0 ?_
      refine Rn.p n147_141 rfl ?_
      obtain ⟨x5, hx5, h⟩ := Option.bind_eq_some_iff.mp h
      refine Rn.gf n147_142 mo147 fl11_125 (gfi_v hx5) ?_
      refine Rn.ic (v := 1) n147_145 (by decide) ?_
      refine Rn.p n147_146 rfl ?_
      obtain ⟨hp6, hhp6, h⟩ := Option.bind_eq_some_iff.mp h
      refine Rn.pf n147_147 mo147 fl11_125 ft11_7 rfl ff11_7 (fun _ _ hh => by cases hh) hhp6 ?_
      have hn := (pfv_len hhp6).trans hn
      refine Rn.ic (v := 0) n147_150 (by decide) ?_
      have e1 := (Prod.mk.inj (Option.some.inj h)).1
      have e2 := (Prod.mk.inj (Option.some.inj h)).2
      subst e1
      subst e2
      exact Rn.iret n147_151 mr147
    · rw [if_neg hc4] at h
      refine Rn.c2f (t := 140) n147_127 (by decide) hc4 ?_
      refine Rn.aload_n n147_130 l0 ?_
      refine Rn.ic (v := 1) n147_131 (by decide) ?_
      refine Rn.aload_n n147_132 l0 ?_
      obtain ⟨x7, hx7, h⟩ := Option.bind_eq_some_iff.mp h
      refine Rn.gf n147_133 mo147 fl11_125 (gfi_v hx7) ?_
      obtain ⟨u9, hu9, h⟩ := Option.bind_eq_some_iff.mp h
      obtain ⟨q8, hq8, h⟩ := Option.bind_eq_some_iff.mp h
      have gq8 := c141 (d := d') (by omega) F _ _ _ _ _ _ (by rw [hn]; exact r_v0) hq8
      refine Rn.cv (As := [.int 1, .int x7]) (rr := []) n147_136 mo147 mm11_155 (by decide) mq141 rfl rfl rfl rfl (by rw [mo141]; exact hu9) (Nat.le_of_ble_eq_true rfl) (by rw [hn]; exact (okc (okr r_v0) (okc rfl (okc rfl okn)))) (by rw [hn]; exact okn) (by rw [hn]; exact ok) (by rw [ml141]; exact Nat.le_of_ble_eq_true rfl) gq8 ?_
      have hn := (Rn.len gq8).trans hn
      show Rn _ 147 139 lv [.int q8.1] q8.2 c w _
      have e1 := (Prod.mk.inj (Option.some.inj h)).1
      have e2 := (Prod.mk.inj (Option.some.inj h)).2
      subst e1
      subst e2
      exact Rn.iret n147_139 mr147
  · rw [if_neg hc1] at h
    refine Rn.c1f (t := 121) n147_116 (by decide) hc1 ?_
    refine Rn.iload_n n147_119 l3 ?_
    have e1 := (Prod.mk.inj (Option.some.inj h)).1
    have e2 := (Prod.mk.inj (Option.some.inj h)).2
    subst e1
    subst e2
    exact Rn.iret n147_120 mr147
def m147_100 (F : Nat) (v0 : Nat) (v3 : Int32) (t0 : Nat) (t1 : Int32) (hp : List mE) : Option (Int32 × List mE) :=
  (pfv 11 12 hp t0 (.int t1)).bind fun hp1 =>
  m147_115 F v0 v3 hp1
theorem t147_100 {d c w n : Nat} (hd : 4 ≤ d) (F : Nat) : ∀ (v0 : Nat) (v3 : Int32) (t0 : Nat) (t1 : Int32) (lv : List (Nat × Value)) (hp : List mE) (v : Int32) (hp' : List mE), alk 0 lv = some (.ref v0) → alk 3 lv = some (.int v3) → lvk n lv → hp.length = n → v0 < n → t0 < n → m147_100 F v0 v3 t0 t1 hp = some (v, hp') → Rn d 147 100 lv [.int t1, .ref t0] hp c w (some (.int v), hp', c, w) := by
  obtain ⟨d', rfl⟩ : ∃ d', d = d' + 1 := ⟨d - 1, by omega⟩
  intro v0 v3 t0 t1 lv hp v hp' l0 l3 ok hn r_v0 r_t0 h
  unfold m147_100 at h
  obtain ⟨hp1, hhp1, h⟩ := Option.bind_eq_some_iff.mp h
  refine Rn.pf n147_100 mo147 fl11_176 ft11_12 rfl ff11_12 (fun _ _ hh => by cases hh) hhp1 ?_
  have hn := (pfv_len hhp1).trans hn
  refine Rn.goto (t := 115) n147_103 (by decide) ?_
  exact t147_115 hd F  _ _ lv _ _ _ l0 l3 ok hn r_v0  h
def m147_59 (F : Nat) (v0 : Nat) (hp : List mE) : Option (Int32 × List mE) :=
  (gfi 11 7 hp v0).bind fun x1 =>
  (rcv 11 hp v0).bind fun u3 =>
  (e141 F v0 1 x1 hp).bind fun q2 =>
  some (q2.1, q2.2)
theorem t147_59 {d c w n : Nat} (hd : 4 ≤ d) (F : Nat) : ∀ (v0 : Nat) (lv : List (Nat × Value)) (hp : List mE) (v : Int32) (hp' : List mE), alk 0 lv = some (.ref v0) → lvk n lv → hp.length = n → v0 < n → m147_59 F v0 hp = some (v, hp') → Rn d 147 59 lv [] hp c w (some (.int v), hp', c, w) := by
  obtain ⟨d', rfl⟩ : ∃ d', d = d' + 1 := ⟨d - 1, by omega⟩
  intro v0 lv hp v hp' l0 ok hn r_v0 h
  unfold m147_59 at h
  refine Rn.aload_n n147_59 l0 ?_
  refine Rn.ic (v := 1) n147_60 (by decide) ?_
  refine Rn.aload_n n147_61 l0 ?_
  obtain ⟨x1, hx1, h⟩ := Option.bind_eq_some_iff.mp h
  refine Rn.gf n147_62 mo147 fl11_125 (gfi_v hx1) ?_
  obtain ⟨u3, hu3, h⟩ := Option.bind_eq_some_iff.mp h
  obtain ⟨q2, hq2, h⟩ := Option.bind_eq_some_iff.mp h
  have gq2 := c141 (d := d') (by omega) F _ _ _ _ _ _ (by rw [hn]; exact r_v0) hq2
  refine Rn.cv (As := [.int 1, .int x1]) (rr := []) n147_65 mo147 mm11_155 (by decide) mq141 rfl rfl rfl rfl (by rw [mo141]; exact hu3) (Nat.le_of_ble_eq_true rfl) (by rw [hn]; exact (okc (okr r_v0) (okc rfl (okc rfl okn)))) (by rw [hn]; exact okn) (by rw [hn]; exact ok) (by rw [ml141]; exact Nat.le_of_ble_eq_true rfl) gq2 ?_
  have hn := (Rn.len gq2).trans hn
  show Rn _ 147 68 lv [.int q2.1] q2.2 c w _
  have e1 := (Prod.mk.inj (Option.some.inj h)).1
  have e2 := (Prod.mk.inj (Option.some.inj h)).2
  subst e1
  subst e2
  exact Rn.iret n147_68 mr147
def m147_0 (F : Nat) (v0 : Nat) (v1 : Int32) (hp : List mE) : Option (Int32 × List mE) :=
  (rcv 11 hp v0).bind fun u2 =>
  (e140 F v0 hp).bind fun q1 =>
  (e137 F q1.1.toInt64 97 122 q1.2).bind fun q3 =>
  if mc1 .eq q3.1 = true then
    (gfi 11 12 q3.2 v0).bind fun x5 =>
    (rcv 11 q3.2 v0).bind fun u7 =>
    (e146 F v0 x5 q3.2).bind fun q6 =>
    m147_115 F v0 q6.1 q6.2
  else
    (rcv 11 q3.2 v0).bind fun u9 =>
    (e142 F v0 q3.2).bind fun q8 =>
    if mc1 .eq v1 = true then
      m147_59 F v0 q8.2
    else
      (gfl 11 8 q8.2 v0).bind fun x11 =>
      (e143 F 0 109 105 114 114 q8.2).bind fun q12 =>
      (e143 F q12.1 111 114 115 0 q12.2).bind fun q13 =>
      if mc1 .eq (lg_cmp x11 q13.1) = true then
        (gfi 11 9 q13.2 v0).bind fun x15 =>
        (pfv 11 7 q13.2 v0 (.int x15)).bind fun hp16 =>
        (rcv 11 hp16 v0).bind fun u18 =>
        (e144 F v0 1 5 hp16).bind fun q17 =>
        if mc1 .ne q17.1 = true then
          (gfi 11 12 q17.2 v0).bind fun x20 =>
          m147_100 F v0 q17.1 v0 x20 q17.2
        else
          (gfi 11 10 q17.2 v0).bind fun x21 =>
          m147_100 F v0 q17.1 v0 x21 q17.2
      else
        m147_59 F v0 q13.2
theorem t147_0 {d c w n : Nat} (hd : 4 ≤ d) (F : Nat) : ∀ (v0 : Nat) (v1 : Int32) (lv : List (Nat × Value)) (hp : List mE) (v : Int32) (hp' : List mE), alk 0 lv = some (.ref v0) → alk 1 lv = some (.int v1) → lvk n lv → hp.length = n → v0 < n → m147_0 F v0 v1 hp = some (v, hp') → Rn d 147 0 lv [] hp c w (some (.int v), hp', c, w) := by
  obtain ⟨d', rfl⟩ : ∃ d', d = d' + 1 := ⟨d - 1, by omega⟩
  intro v0 v1 lv hp v hp' l0 l1 ok hn r_v0 h
  unfold m147_0 at h
  refine Rn.aload_n n147_0 l0 ?_
  obtain ⟨u2, hu2, h⟩ := Option.bind_eq_some_iff.mp h
  obtain ⟨q1, hq1, h⟩ := Option.bind_eq_some_iff.mp h
  have gq1 := c140 (d := d') (by omega) F _ _ _ _ (by rw [hn]; exact r_v0) hq1
  refine Rn.cv (As := []) (rr := []) n147_1 mo147 mm11_128 (by decide) mq140 rfl rfl rfl rfl (by rw [mo140]; exact hu2) (Nat.le_of_ble_eq_true rfl) (by rw [hn]; exact (okc (okr r_v0) okn)) (by rw [hn]; exact okn) (by rw [hn]; exact ok) (by rw [ml140]; exact Nat.le_of_ble_eq_true rfl) gq1 ?_
  have hn := (Rn.len gq1).trans hn
  show Rn _ 147 4 lv [.int q1.1] q1.2 c w _
  refine Rn.isn (m := n) n147_4 rfl ml147 (by decide) (fun lv l2 hk hok => ?_)
  have l0 := hk 0 _ (by decide) (Or.inl rfl) l0
  have l1 := hk 1 _ (by decide) (Or.inl rfl) l1
  have ok := hok ok
  refine Rn.ic (v := 0) n147_5 (by decide) ?_
  refine Rn.isn (m := n) n147_6 rfl ml147 (by decide) (fun lv l3 hk hok => ?_)
  have l0 := hk 0 _ (by decide) (Or.inl rfl) l0
  have l1 := hk 1 _ (by decide) (Or.inl rfl) l1
  have l2 := hk 2 _ (by decide) (Or.inl rfl) l2
  have ok := hok ok
  refine Rn.iload_n n147_7 l2 ?_
  refine Rn.p n147_8 rfl ?_
  refine Rn.ldc2 n147_9 mo147 cL11_139 ?_
  refine Rn.ldc2 n147_12 mo147 cL11_141 ?_
  obtain ⟨q3, hq3, h⟩ := Option.bind_eq_some_iff.mp h
  have gq3 := c137 (d := d') (by omega) F _ _ _ _ _ _  hq3
  refine Rn.cs (as := [.long q1.1.toInt64, .long 97, .long 122]) (rr := []) n147_15 mo147 mm11_116 mq137 rfl rfl rfl rfl (Nat.le_of_ble_eq_true rfl) (by rw [hn]; exact (okc rfl (okc rfl (okc rfl okn)))) (by rw [hn]; exact okn) (by rw [hn]; exact ok) (by rw [ml137]; exact Nat.le_of_ble_eq_true rfl) gq3 ?_
  have hn := (Rn.len gq3).trans hn
  show Rn _ 147 18 lv [.int q3.1] q3.2 c w _
  by_cases hc4 : mc1 .eq q3.1 = true
  · rw [if_pos hc4] at h
    refine Rn.c1t (t := 106) n147_18 (by decide) hc4 ?_
    refine Rn.aload_n n147_106 l0 ?_
    refine Rn.aload_n n147_107 l0 ?_
    obtain ⟨x5, hx5, h⟩ := Option.bind_eq_some_iff.mp h
    refine Rn.gf n147_108 mo147 fl11_176 (gfi_v hx5) ?_
    obtain ⟨u7, hu7, h⟩ := Option.bind_eq_some_iff.mp h
    obtain ⟨q6, hq6, h⟩ := Option.bind_eq_some_iff.mp h
    have gq6 := c146 (d := d') (by omega) F _ _ _ _ _ (by rw [hn]; exact r_v0) hq6
    refine Rn.cv (As := [.int x5]) (rr := []) n147_111 mo147 mm11_179 (by decide) mq146 rfl rfl rfl rfl (by rw [mo146]; exact hu7) (Nat.le_of_ble_eq_true rfl) (by rw [hn]; exact (okc (okr r_v0) (okc rfl okn))) (by rw [hn]; exact okn) (by rw [hn]; exact ok) (by rw [ml146]; exact Nat.le_of_ble_eq_true rfl) gq6 ?_
    have hn := (Rn.len gq6).trans hn
    show Rn _ 147 114 lv [.int q6.1] q6.2 c w _
    refine Rn.isn (m := n) n147_114 rfl ml147 (by decide) (fun lv l3 hk hok => ?_)
    have l0 := hk 0 _ (by decide) (Or.inl rfl) l0
    have l1 := hk 1 _ (by decide) (Or.inl rfl) l1
    have l2 := hk 2 _ (by decide) (Or.inl rfl) l2
    have ok := hok ok
    exact t147_115 hd F  _ _ lv _ _ _ l0 l3 ok hn r_v0  h
  · rw [if_neg hc4] at h
    refine Rn.c1f (t := 106) n147_18 (by decide) hc4 ?_
    refine Rn.aload_n n147_21 l0 ?_
    obtain ⟨u9, hu9, h⟩ := Option.bind_eq_some_iff.mp h
    obtain ⟨q8, hq8, h⟩ := Option.bind_eq_some_iff.mp h
    have gq8 := c142 (d := d') (by omega) F _ _ _ _ (by rw [hn]; exact r_v0) hq8
    refine Rn.cv (As := []) (rr := []) n147_22 mo147 mm11_162 (by decide) mq142 rfl rfl rfl rfl (by rw [mo142]; exact hu9) (Nat.le_of_ble_eq_true rfl) (by rw [hn]; exact (okc (okr r_v0) okn)) (by rw [hn]; exact okn) (by rw [hn]; exact ok) (by rw [ml142]; exact Nat.le_of_ble_eq_true rfl) gq8 ?_
    have hn := (Rn.len gq8).trans hn
    show Rn _ 147 25 lv [] q8.2 c w _
    refine Rn.iload_n n147_25 l1 ?_
    by_cases hc10 : mc1 .eq v1 = true
    · rw [if_pos hc10] at h
      refine Rn.c1t (t := 59) n147_26 (by decide) hc10 ?_
      exact t147_59 hd F  _ lv _ _ _ l0 ok hn r_v0  h
    · rw [if_neg hc10] at h
      refine Rn.c1f (t := 59) n147_26 (by decide) hc10 ?_
      refine Rn.aload_n n147_29 l0 ?_
      obtain ⟨x11, hx11, h⟩ := Option.bind_eq_some_iff.mp h
      refine Rn.gf n147_30 mo147 fl11_132 (gfl_v hx11) ?_
      refine Rn.lc (v := 0) n147_33 (by decide) ?_
      refine Rn.bp (v := 109) n147_34 (by decide) ?_
      refine Rn.bp (v := 105) n147_36 (by decide) ?_
      refine Rn.bp (v := 114) n147_38 (by decide) ?_
      refine Rn.bp (v := 114) n147_40 (by decide) ?_
      obtain ⟨q12, hq12, h⟩ := Option.bind_eq_some_iff.mp h
      have gq12 := c143 (d := d') (by omega) F _ _ _ _ _ _ _ _  hq12
      refine Rn.cs (as := [.long 0, .int 109, .int 105, .int 114, .int 114]) (rr := [.long x11]) n147_42 mo147 mm11_165 mq143 rfl rfl rfl rfl (Nat.le_of_ble_eq_true rfl) (by rw [hn]; exact (okc rfl (okc rfl (okc rfl (okc rfl (okc rfl okn)))))) (by rw [hn]; exact (okc rfl okn)) (by rw [hn]; exact ok) (by rw [ml143]; exact Nat.le_of_ble_eq_true rfl) gq12 ?_
      have hn := (Rn.len gq12).trans hn
      show Rn _ 147 45 lv [.long q12.1, .long x11] q12.2 c w _
      refine Rn.bp (v := 111) n147_45 (by decide) ?_
      refine Rn.bp (v := 114) n147_47 (by decide) ?_
      refine Rn.bp (v := 115) n147_49 (by decide) ?_
      refine Rn.ic (v := 0) n147_51 (by decide) ?_
      obtain ⟨q13, hq13, h⟩ := Option.bind_eq_some_iff.mp h
      have gq13 := c143 (d := d') (by omega) F _ _ _ _ _ _ _ _  hq13
      refine Rn.cs (as := [.long q12.1, .int 111, .int 114, .int 115, .int 0]) (rr := [.long x11]) n147_52 mo147 mm11_165 mq143 rfl rfl rfl rfl (Nat.le_of_ble_eq_true rfl) (by rw [hn]; exact (okc rfl (okc rfl (okc rfl (okc rfl (okc rfl okn)))))) (by rw [hn]; exact (okc rfl okn)) (by rw [hn]; exact ok) (by rw [ml143]; exact Nat.le_of_ble_eq_true rfl) gq13 ?_
      have hn := (Rn.len gq13).trans hn
      show Rn _ 147 55 lv [.long q13.1, .long x11] q13.2 c w _
      refine Rn.p n147_55 rfl ?_
      by_cases hc14 : mc1 .eq (lg_cmp x11 q13.1) = true
      · rw [if_pos hc14] at h
        refine Rn.c1t (t := 69) n147_56 (by decide) hc14 ?_
        refine Rn.aload_n n147_69 l0 ?_
        refine Rn.aload_n n147_70 l0 ?_
        obtain ⟨x15, hx15, h⟩ := Option.bind_eq_some_iff.mp h
        refine Rn.gf n147_71 mo147 fl11_136 (gfi_v hx15) ?_
        obtain ⟨hp16, hhp16, h⟩ := Option.bind_eq_some_iff.mp h
        refine Rn.pf n147_74 mo147 fl11_125 ft11_7 rfl ff11_7 (fun _ _ hh => by cases hh) hhp16 ?_
        have hn := (pfv_len hhp16).trans hn
        refine Rn.aload_n n147_77 l0 ?_
        refine Rn.ic (v := 1) n147_78 (by decide) ?_
        refine Rn.ic (v := 5) n147_79 (by decide) ?_
        obtain ⟨u18, hu18, h⟩ := Option.bind_eq_some_iff.mp h
        obtain ⟨q17, hq17, h⟩ := Option.bind_eq_some_iff.mp h
        have gq17 := c144 (d := d') (by omega) F _ _ _ _ _ _ (by rw [hn]; exact r_v0) hq17
        refine Rn.cv (As := [.int 1, .int 5]) (rr := []) n147_80 mo147 mm11_169 (by decide) mq144 rfl rfl rfl rfl (by rw [mo144]; exact hu18) (Nat.le_of_ble_eq_true rfl) (by rw [hn]; exact (okc (okr r_v0) (okc rfl (okc rfl okn)))) (by rw [hn]; exact okn) (by rw [hn]; exact ok) (by rw [ml144]; exact Nat.le_of_ble_eq_true rfl) gq17 ?_
        have hn := (Rn.len gq17).trans hn
        show Rn _ 147 83 lv [.int q17.1] q17.2 c w _
        refine Rn.isn (m := n) n147_83 rfl ml147 (by decide) (fun lv l3 hk hok => ?_)
        have l0 := hk 0 _ (by decide) (Or.inl rfl) l0
        have l1 := hk 1 _ (by decide) (Or.inl rfl) l1
        have l2 := hk 2 _ (by decide) (Or.inl rfl) l2
        have ok := hok ok
        refine Rn.aload_n n147_84 l0 ?_
        refine Rn.iload_n n147_85 l3 ?_
        by_cases hc19 : mc1 .ne q17.1 = true
        · rw [if_pos hc19] at h
          refine Rn.c1t (t := 96) n147_86 (by decide) hc19 ?_
          refine Rn.aload_n n147_96 l0 ?_
          obtain ⟨x20, hx20, h⟩ := Option.bind_eq_some_iff.mp h
          refine Rn.gf n147_97 mo147 fl11_176 (gfi_v hx20) ?_
          exact t147_100 hd F  _ _ _ _ lv _ _ _ l0 l3 ok hn r_v0 r_v0 h
        · rw [if_neg hc19] at h
          refine Rn.c1f (t := 96) n147_86 (by decide) hc19 ?_
          refine Rn.aload_n n147_89 l0 ?_
          obtain ⟨x21, hx21, h⟩ := Option.bind_eq_some_iff.mp h
          refine Rn.gf n147_90 mo147 fl11_159 (gfi_v hx21) ?_
          refine Rn.goto (t := 100) n147_93 (by decide) ?_
          exact t147_100 hd F  _ _ _ _ lv _ _ _ l0 l3 ok hn r_v0 r_v0 h
      · rw [if_neg hc14] at h
        refine Rn.c1f (t := 69) n147_56 (by decide) hc14 ?_
        exact t147_59 hd F  _ lv _ _ _ l0 ok hn r_v0  h
def e147 (F : Nat) (a0 : Nat) (a1 : Int32) (hp : List mE) : Option (Int32 × List mE) := m147_0 F a0 a1 hp
theorem c147 {d : Nat} (hd : 4 ≤ d) (F : Nat) (a0 : Nat) (a1 : Int32) (hp : List mE) (v : Int32) (hp' : List mE) (ra0 : a0 < hp.length) (h : e147 F a0 a1 hp = some (v, hp')) : Rn d 147 0 (lv_args 0 [.ref a0, .int a1]) [] hp 0 0 (some (.int v), hp', 0, 0) :=
  t147_0 (n := hp.length) hd F a0 a1 (lv_args 0 [.ref a0, .int a1]) hp v hp' rfl rfl (lvk_args (okc (okr ra0) (okc rfl okn))) rfl ra0 h
/-! MirrorRootsModel.read -/
def m148_69 (F : Nat) (v0 : Nat) (v2 : Int32) (hp : List mE) : Option (Int32 × List mE) :=
  (pfv 11 5 hp v0 (.int 0)).bind fun hp1 =>
  if mc1 .le v2 = true then
    (gfi 11 12 hp1 v0).bind fun x3 =>
    (rcv 11 hp1 v0).bind fun u5 =>
    (e138 F v0 x3 hp1).bind fun q4 =>
    (gfi 11 0 q4.2 v0).bind fun x6 =>
    some (x6, q4.2)
  else
    some (((-10)) - v2, hp1)
theorem t148_69 {d c w n : Nat} (hd : 5 ≤ d) (F : Nat) : ∀ (v0 : Nat) (v2 : Int32) (lv : List (Nat × Value)) (hp : List mE) (v : Int32) (hp' : List mE), alk 0 lv = some (.ref v0) → alk 2 lv = some (.int v2) → lvk n lv → hp.length = n → v0 < n → m148_69 F v0 v2 hp = some (v, hp') → Rn d 148 69 lv [] hp c w (some (.int v), hp', c, w) := by
  obtain ⟨d', rfl⟩ : ∃ d', d = d' + 1 := ⟨d - 1, by omega⟩
  intro v0 v2 lv hp v hp' l0 l2 ok hn r_v0 h
  unfold m148_69 at h
  refine Rn.aload_n n148_69 l0 ?_
  refine Rn.ic (v := 0) n148_70 (by decide) ?_
  obtain ⟨hp1, hhp1, h⟩ := Option.bind_eq_some_iff.mp h
  refine Rn.pf n148_71 mo148 fl11_120 ft11_5 rfl ff11_5 (fun _ _ hh => by cases hh) hhp1 ?_
  have hn := (pfv_len hhp1).trans hn
  refine Rn.iload_n n148_74 l2 ?_
  by_cases hc2 : mc1 .le v2 = true
  · rw [if_pos hc2] at h
    refine Rn.c1t (t := 83) n148_75 (by decide) hc2 ?_
    refine Rn.aload_n n148_83 l0 ?_
    refine Rn.aload_n n148_84 l0 ?_
    obtain ⟨x3, hx3, h⟩ := Option.bind_eq_some_iff.mp h
    refine Rn.gf n148_85 mo148 fl11_176 (gfi_v hx3) ?_
    obtain ⟨u5, hu5, h⟩ := Option.bind_eq_some_iff.mp h
    obtain ⟨q4, hq4, h⟩ := Option.bind_eq_some_iff.mp h
    have gq4 := c138 (d := d') (by omega) F _ _ _ _ _ (by rw [hn]; exact r_v0) hq4
    refine Rn.cv (As := [.int x3]) (rr := []) n148_88 mo148 mm11_104 (by decide) mq138 rfl rfl rfl rfl (by rw [mo138]; exact hu5) (Nat.le_of_ble_eq_true rfl) (by rw [hn]; exact (okc (okr r_v0) (okc rfl okn))) (by rw [hn]; exact okn) (by rw [hn]; exact ok) (by rw [ml138]; exact Nat.le_of_ble_eq_true rfl) gq4 ?_
    have hn := (Rn.len gq4).trans hn
    show Rn _ 148 91 lv [] q4.2 c w _
    refine Rn.aload_n n148_91 l0 ?_
    obtain ⟨x6, hx6, h⟩ := Option.bind_eq_some_iff.mp h
    refine Rn.gf n148_92 mo148 fl11_7 (gfi_v hx6) ?_
    have e1 := (Prod.mk.inj (Option.some.inj h)).1
    have e2 := (Prod.mk.inj (Option.some.inj h)).2
    subst e1
    subst e2
    exact Rn.iret n148_95 mr148
  · rw [if_neg hc2] at h
    refine Rn.c1f (t := 83) n148_75 (by decide) hc2 ?_
    refine Rn.bp (v := (-10)) n148_78 (by decide) ?_
    refine Rn.iload_n n148_80 l2 ?_
    refine Rn.p n148_81 rfl ?_
    have e1 := (Prod.mk.inj (Option.some.inj h)).1
    have e2 := (Prod.mk.inj (Option.some.inj h)).2
    subst e1
    subst e2
    exact Rn.iret n148_82 mr148
def m148_47 (F : Nat) : Nat → Nat → Int32 → Int32 → List mE → Option (Int32 × List mE)
  | 0, _, _, _, _ => none
  | f + 1, v0, v1, v2, hp =>
    if mc1 .ne v2 = true then
      m148_69 F v0 v2 hp
    else
      (rcv 11 hp v0).bind fun u3 =>
      (e140 F v0 hp).bind fun q2 =>
      if mc1 .lt q2.1 = true then
        m148_69 F v0 v2 q2.2
      else
        (rcv 11 q2.2 v0).bind fun u6 =>
        (e147 F v0 v1 q2.2).bind fun q5 =>
        m148_47 F f v0 0 q5.1 q5.2
theorem t148_47 {d c w n : Nat} (hd : 5 ≤ d) (F : Nat) : ∀ f : Nat, ∀ (v0 : Nat) (v1 : Int32) (v2 : Int32) (lv : List (Nat × Value)) (hp : List mE) (v : Int32) (hp' : List mE), alk 0 lv = some (.ref v0) → alk 1 lv = some (.int v1) → alk 2 lv = some (.int v2) → lvk n lv → hp.length = n → v0 < n → m148_47 F f v0 v1 v2 hp = some (v, hp') → Rn d 148 47 lv [] hp c w (some (.int v), hp', c, w) := by
  obtain ⟨d', rfl⟩ : ∃ d', d = d' + 1 := ⟨d - 1, by omega⟩
  intro f
  induction f with
  | zero => intro v0 v1 v2 lv hp v hp' l0 l1 l2 ok hn r_v0 h; cases h
  | succ f hr47 =>
    intro v0 v1 v2 lv hp v hp' l0 l1 l2 ok hn r_v0 h
    unfold m148_47 at h
    refine Rn.iload_n n148_47 l2 ?_
    by_cases hc1 : mc1 .ne v2 = true
    · rw [if_pos hc1] at h
      refine Rn.c1t (t := 69) n148_48 (by decide) hc1 ?_
      exact t148_69 hd F  _ _ lv _ _ _ l0 l2 ok hn r_v0  h
    · rw [if_neg hc1] at h
      refine Rn.c1f (t := 69) n148_48 (by decide) hc1 ?_
      refine Rn.aload_n n148_51 l0 ?_
      obtain ⟨u3, hu3, h⟩ := Option.bind_eq_some_iff.mp h
      obtain ⟨q2, hq2, h⟩ := Option.bind_eq_some_iff.mp h
      have gq2 := c140 (d := d') (by omega) F _ _ _ _ (by rw [hn]; exact r_v0) hq2
      refine Rn.cv (As := []) (rr := []) n148_52 mo148 mm11_128 (by decide) mq140 rfl rfl rfl rfl (by rw [mo140]; exact hu3) (Nat.le_of_ble_eq_true rfl) (by rw [hn]; exact (okc (okr r_v0) okn)) (by rw [hn]; exact okn) (by rw [hn]; exact ok) (by rw [ml140]; exact Nat.le_of_ble_eq_true rfl) gq2 ?_
      have hn := (Rn.len gq2).trans hn
      show Rn _ 148 55 lv [.int q2.1] q2.2 c w _
      by_cases hc4 : mc1 .lt q2.1 = true
      · rw [if_pos hc4] at h
        refine Rn.c1t (t := 69) n148_55 (by decide) hc4 ?_
        exact t148_69 hd F  _ _ lv _ _ _ l0 l2 ok hn r_v0  h
      · rw [if_neg hc4] at h
        refine Rn.c1f (t := 69) n148_55 (by decide) hc4 ?_
        refine Rn.aload_n n148_58 l0 ?_
        refine Rn.iload_n n148_59 l1 ?_
        obtain ⟨u6, hu6, h⟩ := Option.bind_eq_some_iff.mp h
        obtain ⟨q5, hq5, h⟩ := Option.bind_eq_some_iff.mp h
        have gq5 := c147 (d := d') (by omega) F _ _ _ _ _ (by rw [hn]; exact r_v0) hq5
        refine Rn.cv (As := [.int v1]) (rr := []) n148_60 mo148 mm11_182 (by decide) mq147 rfl rfl rfl rfl (by rw [mo147]; exact hu6) (Nat.le_of_ble_eq_true rfl) (by rw [hn]; exact (okc (okr r_v0) (okc rfl okn))) (by rw [hn]; exact okn) (by rw [hn]; exact ok) (by rw [ml147]; exact Nat.le_of_ble_eq_true rfl) gq5 ?_
        have hn := (Rn.len gq5).trans hn
        show Rn _ 148 63 lv [.int q5.1] q5.2 c w _
        refine Rn.isn (m := n) n148_63 rfl ml148 (by decide) (fun lv l2 hk hok => ?_)
        have l0 := hk 0 _ (by decide) (Or.inl rfl) l0
        have l1 := hk 1 _ (by decide) (Or.inl rfl) l1
        have ok := hok ok
        refine Rn.ic (v := 0) n148_64 (by decide) ?_
        refine Rn.isn (m := n) n148_65 rfl ml148 (by decide) (fun lv l1 hk hok => ?_)
        have l0 := hk 0 _ (by decide) (Or.inl rfl) l0
        have l2 := hk 2 _ (by decide) (Or.inl rfl) l2
        have ok := hok ok
        refine Rn.goto (t := 47) n148_66 (by decide) ?_
        exact hr47 _ _ _ lv _ _ _ l0 l1 l2 ok hn r_v0  h
def m148_17 (F : Nat) : Nat → Nat → Int32 → List mE → Option (Int32 × List mE)
  | 0, _, _, _ => none
  | f + 1, v0, v1, hp =>
    if mc2 .ge v1 25 = true then
      m148_47 F F v0 1 0 hp
    else
      (gfr 11 3 hp v0).bind fun x2 =>
      (wrI hp x2 v1 2).bind fun hp3 =>
      (gfr 11 11 hp3 v0).bind fun x4 =>
      (wrZ hp3 x4 v1 0).bind fun hp5 =>
      m148_17 F f v0 (v1 + 1) hp5
theorem t148_17 {d c w n : Nat} (hd : 5 ≤ d) (F : Nat) : ∀ f : Nat, ∀ (v0 : Nat) (v1 : Int32) (lv : List (Nat × Value)) (hp : List mE) (v : Int32) (hp' : List mE), alk 0 lv = some (.ref v0) → alk 1 lv = some (.int v1) → lvk n lv → hp.length = n → v0 < n → m148_17 F f v0 v1 hp = some (v, hp') → Rn d 148 17 lv [] hp c w (some (.int v), hp', c, w) := by
  obtain ⟨d', rfl⟩ : ∃ d', d = d' + 1 := ⟨d - 1, by omega⟩
  intro f
  induction f with
  | zero => intro v0 v1 lv hp v hp' l0 l1 ok hn r_v0 h; cases h
  | succ f hr17 =>
    intro v0 v1 lv hp v hp' l0 l1 ok hn r_v0 h
    unfold m148_17 at h
    refine Rn.iload_n n148_17 l1 ?_
    refine Rn.bp (v := 25) n148_18 (by decide) ?_
    by_cases hc1 : mc2 .ge v1 25 = true
    · rw [if_pos hc1] at h
      refine Rn.c2t (t := 43) n148_20 (by decide) hc1 ?_
      refine Rn.ic (v := 1) n148_43 (by decide) ?_
      refine Rn.isn (m := n) n148_44 rfl ml148 (by decide) (fun lv l1 hk hok => ?_)
      have l0 := hk 0 _ (by decide) (Or.inl rfl) l0
      have ok := hok ok
      refine Rn.ic (v := 0) n148_45 (by decide) ?_
      refine Rn.isn (m := n) n148_46 rfl ml148 (by decide) (fun lv l2 hk hok => ?_)
      have l0 := hk 0 _ (by decide) (Or.inl rfl) l0
      have l1 := hk 1 _ (by decide) (Or.inl rfl) l1
      have ok := hok ok
      exact t148_47 hd F  F _ _ _ lv _ _ _ l0 l1 l2 ok hn r_v0  h
    · rw [if_neg hc1] at h
      refine Rn.c2f (t := 43) n148_20 (by decide) hc1 ?_
      refine Rn.aload_n n148_23 l0 ?_
      obtain ⟨x2, hx2, h⟩ := Option.bind_eq_some_iff.mp h
      refine Rn.gf n148_24 mo148 fl11_20 (gfr_v hx2).1 ?_
      have r_x2 : x2 < n := by rw [← hn]; exact (gfr_v hx2).2
      refine Rn.iload_n n148_27 l1 ?_
      refine Rn.ic (v := 2) n148_28 (by decide) ?_
      obtain ⟨hp3, hhp3, h⟩ := Option.bind_eq_some_iff.mp h
      refine Rn.iast n148_29 hhp3 ?_
      have hn := (wrI_st (st := []) hhp3).2.trans hn
      refine Rn.aload_n n148_30 l0 ?_
      obtain ⟨x4, hx4, h⟩ := Option.bind_eq_some_iff.mp h
      refine Rn.gf n148_31 mo148 fl11_29 (gfr_v hx4).1 ?_
      have r_x4 : x4 < n := by rw [← hn]; exact (gfr_v hx4).2
      refine Rn.iload_n n148_34 l1 ?_
      refine Rn.ic (v := 0) n148_35 (by decide) ?_
      obtain ⟨hp5, hhp5, h⟩ := Option.bind_eq_some_iff.mp h
      refine Rn.zast n148_36 hhp5 ?_
      have hn := (wrZ_st (st := []) hhp5).2.trans hn
      refine Rn.ii (m := n) (u := 1) n148_37 ml148 (by decide) (by decide) l1 (fun lv l1 hk hok => ?_)
      have l0 := hk 0 _ (by decide) (Or.inl rfl) l0
      have ok := hok ok
      refine Rn.goto (t := 17) n148_40 (by decide) ?_
      exact hr17 _ _ lv _ _ _ l0 l1 ok hn r_v0  h
def m148_0 (F : Nat) (v0 : Nat) (hp : List mE) : Option (Int32 × List mE) :=
  (pfv 11 6 hp v0 (.int ((-1)))).bind fun hp1 =>
  (pfv 11 7 hp1 v0 (.int 0)).bind fun hp2 =>
  (pfv 11 12 hp2 v0 (.int 3)).bind fun hp3 =>
  m148_17 F F v0 0 hp3
theorem t148_0 {d c w n : Nat} (hd : 5 ≤ d) (F : Nat) : ∀ (v0 : Nat) (lv : List (Nat × Value)) (hp : List mE) (v : Int32) (hp' : List mE), alk 0 lv = some (.ref v0) → lvk n lv → hp.length = n → v0 < n → m148_0 F v0 hp = some (v, hp') → Rn d 148 0 lv [] hp c w (some (.int v), hp', c, w) := by
  obtain ⟨d', rfl⟩ : ∃ d', d = d' + 1 := ⟨d - 1, by omega⟩
  intro v0 lv hp v hp' l0 ok hn r_v0 h
  unfold m148_0 at h
  refine Rn.aload_n n148_0 l0 ?_
  refine Rn.ic (v := (-1)) n148_1 (by decide) ?_
  obtain ⟨hp1, hhp1, h⟩ := Option.bind_eq_some_iff.mp h
  refine Rn.pf n148_2 mo148 fl11_26 ft11_6 rfl ff11_6 (fun _ _ hh => by cases hh) hhp1 ?_
  have hn := (pfv_len hhp1).trans hn
  refine Rn.aload_n n148_5 l0 ?_
  refine Rn.ic (v := 0) n148_6 (by decide) ?_
  obtain ⟨hp2, hhp2, h⟩ := Option.bind_eq_some_iff.mp h
  refine Rn.pf n148_7 mo148 fl11_125 ft11_7 rfl ff11_7 (fun _ _ hh => by cases hh) hhp2 ?_
  have hn := (pfv_len hhp2).trans hn
  refine Rn.aload_n n148_10 l0 ?_
  refine Rn.ic (v := 3) n148_11 (by decide) ?_
  obtain ⟨hp3, hhp3, h⟩ := Option.bind_eq_some_iff.mp h
  refine Rn.pf n148_12 mo148 fl11_176 ft11_12 rfl ff11_12 (fun _ _ hh => by cases hh) hhp3 ?_
  have hn := (pfv_len hhp3).trans hn
  refine Rn.ic (v := 0) n148_15 (by decide) ?_
  refine Rn.isn (m := n) n148_16 rfl ml148 (by decide) (fun lv l1 hk hok => ?_)
  have l0 := hk 0 _ (by decide) (Or.inl rfl) l0
  have ok := hok ok
  exact t148_17 hd F  F _ _ lv _ _ _ l0 l1 ok hn r_v0  h
def e148 (F : Nat) (a0 : Nat) (hp : List mE) : Option (Int32 × List mE) := m148_0 F a0 hp
theorem c148 {d : Nat} (hd : 5 ≤ d) (F : Nat) (a0 : Nat) (hp : List mE) (v : Int32) (hp' : List mE) (ra0 : a0 < hp.length) (h : e148 F a0 hp = some (v, hp')) : Rn d 148 0 (lv_args 0 [.ref a0]) [] hp 0 0 (some (.int v), hp', 0, 0) :=
  t148_0 (n := hp.length) hd F a0 (lv_args 0 [.ref a0]) hp v hp' rfl (lvk_args (okc (okr ra0) okn)) rfl ra0 h
/-! MirrorRootsModel.fault -/
def m149_0 (F : Nat) (v0 : Nat) (hp : List mE) : Option (Int32 × List mE) :=
  (gfi 11 6 hp v0).bind fun x1 =>
  some (x1, hp)
theorem t149_0 {d c w n : Nat} (hd : 0 ≤ d) (F : Nat) : ∀ (v0 : Nat) (lv : List (Nat × Value)) (hp : List mE) (v : Int32) (hp' : List mE), alk 0 lv = some (.ref v0) → lvk n lv → hp.length = n → v0 < n → m149_0 F v0 hp = some (v, hp') → Rn d 149 0 lv [] hp c w (some (.int v), hp', c, w) := by
  intro v0 lv hp v hp' l0 ok hn r_v0 h
  unfold m149_0 at h
  refine Rn.aload_n n149_0 l0 ?_
  obtain ⟨x1, hx1, h⟩ := Option.bind_eq_some_iff.mp h
  refine Rn.gf n149_1 mo149 fl11_26 (gfi_v hx1) ?_
  have e1 := (Prod.mk.inj (Option.some.inj h)).1
  have e2 := (Prod.mk.inj (Option.some.inj h)).2
  subst e1
  subst e2
  exact Rn.iret n149_4 mr149
def e149 (F : Nat) (a0 : Nat) (hp : List mE) : Option (Int32 × List mE) := m149_0 F a0 hp
theorem c149 {d : Nat} (hd : 0 ≤ d) (F : Nat) (a0 : Nat) (hp : List mE) (v : Int32) (hp' : List mE) (ra0 : a0 < hp.length) (h : e149 F a0 hp = some (v, hp')) : Rn d 149 0 (lv_args 0 [.ref a0]) [] hp 0 0 (some (.int v), hp', 0, 0) :=
  t149_0 (n := hp.length) hd F a0 (lv_args 0 [.ref a0]) hp v hp' rfl (lvk_args (okc (okr ra0) okn)) rfl ra0 h
/-! MirrorRootsModel.isMirror -/
def m150_0 (F : Nat) (v0 : Nat) (v1 : Int32) (hp : List mE) : Option (Int32 × List mE) :=
  (gfi 11 0 hp v0).bind fun x1 =>
  (e137 F v1.toInt64 0 ((x1 - 1).toInt64) hp).bind fun q2 =>
  if q2.1 = 0 ∨ q2.1 = 1 then some (q2.1, q2.2) else none
theorem t150_0 {d c w n : Nat} (hd : 1 ≤ d) (F : Nat) : ∀ (v0 : Nat) (v1 : Int32) (lv : List (Nat × Value)) (hp : List mE) (v : Int32) (hp' : List mE), alk 0 lv = some (.ref v0) → alk 1 lv = some (.int v1) → lvk n lv → hp.length = n → v0 < n → m150_0 F v0 v1 hp = some (v, hp') → Rn d 150 0 lv [] hp c w (some (.int v), hp', c, w) := by
  obtain ⟨d', rfl⟩ : ∃ d', d = d' + 1 := ⟨d - 1, by omega⟩
  intro v0 v1 lv hp v hp' l0 l1 ok hn r_v0 h
  unfold m150_0 at h
  refine Rn.iload_n n150_0 l1 ?_
  refine Rn.p n150_1 rfl ?_
  refine Rn.lc (v := 0) n150_2 (by decide) ?_
  refine Rn.aload_n n150_3 l0 ?_
  obtain ⟨x1, hx1, h⟩ := Option.bind_eq_some_iff.mp h
  refine Rn.gf n150_4 mo150 fl11_7 (gfi_v hx1) ?_
  refine Rn.ic (v := 1) n150_7 (by decide) ?_
  refine Rn.p n150_8 rfl ?_
  refine Rn.p n150_9 rfl ?_
  obtain ⟨q2, hq2, h⟩ := Option.bind_eq_some_iff.mp h
  have gq2 := c137 (d := d') (by omega) F _ _ _ _ _ _  hq2
  refine Rn.cs (as := [.long v1.toInt64, .long 0, .long ((x1 - 1).toInt64)]) (rr := []) n150_10 mo150 mm11_116 mq137 rfl rfl rfl rfl (Nat.le_of_ble_eq_true rfl) (by rw [hn]; exact (okc rfl (okc rfl (okc rfl okn)))) (by rw [hn]; exact okn) (by rw [hn]; exact ok) (by rw [ml137]; exact Nat.le_of_ble_eq_true rfl) gq2 ?_
  have hn := (Rn.len gq2).trans hn
  show Rn _ 150 13 lv [.int q2.1] q2.2 c w _
  by_cases hz3 : q2.1 = 0 ∨ q2.1 = 1
  · rw [if_pos hz3] at h
    have e1 := (Prod.mk.inj (Option.some.inj h)).1
    have e2 := (Prod.mk.inj (Option.some.inj h)).2
    subst e1
    subst e2
    exact Rn.zret n150_13 mr150 hz3
  · rw [if_neg hz3] at h; cases h
def e150 (F : Nat) (a0 : Nat) (a1 : Int32) (hp : List mE) : Option (Int32 × List mE) := m150_0 F a0 a1 hp
theorem c150 {d : Nat} (hd : 1 ≤ d) (F : Nat) (a0 : Nat) (a1 : Int32) (hp : List mE) (v : Int32) (hp' : List mE) (ra0 : a0 < hp.length) (h : e150 F a0 a1 hp = some (v, hp')) : Rn d 150 0 (lv_args 0 [.ref a0, .int a1]) [] hp 0 0 (some (.int v), hp', 0, 0) :=
  t150_0 (n := hp.length) hd F a0 a1 (lv_args 0 [.ref a0, .int a1]) hp v hp' rfl rfl (lvk_args (okc (okr ra0) (okc rfl okn))) rfl ra0 h
/-! MirrorRootsModel.turns -/
def m151_32 (F : Nat) (t0 : Int32) (hp : List mE) : Option (Int32 × List mE) :=
  some (t0, hp)
theorem t151_32 {d c w n : Nat} (hd : 2 ≤ d) (F : Nat) : ∀ (t0 : Int32) (lv : List (Nat × Value)) (hp : List mE) (v : Int32) (hp' : List mE), lvk n lv → hp.length = n → m151_32 F t0 hp = some (v, hp') → Rn d 151 32 lv [.int t0] hp c w (some (.int v), hp', c, w) := by
  obtain ⟨d', rfl⟩ : ∃ d', d = d' + 1 := ⟨d - 1, by omega⟩
  intro t0 lv hp v hp' ok hn h
  unfold m151_32 at h
  have e1 := (Prod.mk.inj (Option.some.inj h)).1
  have e2 := (Prod.mk.inj (Option.some.inj h)).2
  subst e1
  subst e2
  exact Rn.iret n151_32 mr151
def m151_29 (F : Nat) (hp : List mE) : Option (Int32 × List mE) :=
  m151_32 F ((-1002)) hp
theorem t151_29 {d c w n : Nat} (hd : 2 ≤ d) (F : Nat) : ∀ (lv : List (Nat × Value)) (hp : List mE) (v : Int32) (hp' : List mE), lvk n lv → hp.length = n → m151_29 F hp = some (v, hp') → Rn d 151 29 lv [] hp c w (some (.int v), hp', c, w) := by
  obtain ⟨d', rfl⟩ : ∃ d', d = d' + 1 := ⟨d - 1, by omega⟩
  intro lv hp v hp' ok hn h
  unfold m151_29 at h
  refine Rn.sp (v := (-1002)) n151_29 (by decide) ?_
  exact t151_32 hd F  _ lv _ _ _  ok hn   h
def m151_0 (F : Nat) (v0 : Nat) (v1 : Int32) (v2 : Int32) (hp : List mE) : Option (Int32 × List mE) :=
  (rcv 11 hp v0).bind fun u2 =>
  (e150 F v0 v1 hp).bind fun q1 =>
  if mc1 .eq q1.1 = true then
    m151_29 F q1.2
  else
    (rcv 11 q1.2 v0).bind fun u5 =>
    (e150 F v0 v2 q1.2).bind fun q4 =>
    if mc1 .eq q4.1 = true then
      m151_29 F q4.2
    else
      (gfr 11 1 q4.2 v0).bind fun x7 =>
      (rdI q4.2 x7 ((5 * v1) + v2)).bind fun x8 =>
      m151_32 F x8 q4.2
theorem t151_0 {d c w n : Nat} (hd : 2 ≤ d) (F : Nat) : ∀ (v0 : Nat) (v1 : Int32) (v2 : Int32) (lv : List (Nat × Value)) (hp : List mE) (v : Int32) (hp' : List mE), alk 0 lv = some (.ref v0) → alk 1 lv = some (.int v1) → alk 2 lv = some (.int v2) → lvk n lv → hp.length = n → v0 < n → m151_0 F v0 v1 v2 hp = some (v, hp') → Rn d 151 0 lv [] hp c w (some (.int v), hp', c, w) := by
  obtain ⟨d', rfl⟩ : ∃ d', d = d' + 1 := ⟨d - 1, by omega⟩
  intro v0 v1 v2 lv hp v hp' l0 l1 l2 ok hn r_v0 h
  unfold m151_0 at h
  refine Rn.aload_n n151_0 l0 ?_
  refine Rn.iload_n n151_1 l1 ?_
  obtain ⟨u2, hu2, h⟩ := Option.bind_eq_some_iff.mp h
  obtain ⟨q1, hq1, h⟩ := Option.bind_eq_some_iff.mp h
  have gq1 := c150 (d := d') (by omega) F _ _ _ _ _ (by rw [hn]; exact r_v0) hq1
  refine Rn.cv (As := [.int v1]) (rr := []) n151_2 mo151 mm11_186 (by decide) mq150 rfl rfl rfl rfl (by rw [mo150]; exact hu2) (Nat.le_of_ble_eq_true rfl) (by rw [hn]; exact (okc (okr r_v0) (okc rfl okn))) (by rw [hn]; exact okn) (by rw [hn]; exact ok) (by rw [ml150]; exact Nat.le_of_ble_eq_true rfl) gq1 ?_
  have hn := (Rn.len gq1).trans hn
  show Rn _ 151 5 lv [.int q1.1] q1.2 c w _
  by_cases hc3 : mc1 .eq q1.1 = true
  · rw [if_pos hc3] at h
    refine Rn.c1t (t := 29) n151_5 (by decide) hc3 ?_
    exact t151_29 hd F  lv _ _ _  ok hn   h
  · rw [if_neg hc3] at h
    refine Rn.c1f (t := 29) n151_5 (by decide) hc3 ?_
    refine Rn.aload_n n151_8 l0 ?_
    refine Rn.iload_n n151_9 l2 ?_
    obtain ⟨u5, hu5, h⟩ := Option.bind_eq_some_iff.mp h
    obtain ⟨q4, hq4, h⟩ := Option.bind_eq_some_iff.mp h
    have gq4 := c150 (d := d') (by omega) F _ _ _ _ _ (by rw [hn]; exact r_v0) hq4
    refine Rn.cv (As := [.int v2]) (rr := []) n151_10 mo151 mm11_186 (by decide) mq150 rfl rfl rfl rfl (by rw [mo150]; exact hu5) (Nat.le_of_ble_eq_true rfl) (by rw [hn]; exact (okc (okr r_v0) (okc rfl okn))) (by rw [hn]; exact okn) (by rw [hn]; exact ok) (by rw [ml150]; exact Nat.le_of_ble_eq_true rfl) gq4 ?_
    have hn := (Rn.len gq4).trans hn
    show Rn _ 151 13 lv [.int q4.1] q4.2 c w _
    by_cases hc6 : mc1 .eq q4.1 = true
    · rw [if_pos hc6] at h
      refine Rn.c1t (t := 29) n151_13 (by decide) hc6 ?_
      exact t151_29 hd F  lv _ _ _  ok hn   h
    · rw [if_neg hc6] at h
      refine Rn.c1f (t := 29) n151_13 (by decide) hc6 ?_
      refine Rn.aload_n n151_16 l0 ?_
      obtain ⟨x7, hx7, h⟩ := Option.bind_eq_some_iff.mp h
      refine Rn.gf n151_17 mo151 fl11_13 (gfr_v hx7).1 ?_
      have r_x7 : x7 < n := by rw [← hn]; exact (gfr_v hx7).2
      refine Rn.ic (v := 5) n151_20 (by decide) ?_
      refine Rn.iload_n n151_21 l1 ?_
      refine Rn.p n151_22 rfl ?_
      refine Rn.iload_n n151_23 l2 ?_
      refine Rn.p n151_24 rfl ?_
      obtain ⟨x8, hx8, h⟩ := Option.bind_eq_some_iff.mp h
      refine Rn.iald n151_25 hx8 ?_
      refine Rn.goto (t := 32) n151_26 (by decide) ?_
      exact t151_32 hd F  _ lv _ _ _  ok hn   h
def e151 (F : Nat) (a0 : Nat) (a1 : Int32) (a2 : Int32) (hp : List mE) : Option (Int32 × List mE) := m151_0 F a0 a1 a2 hp
theorem c151 {d : Nat} (hd : 2 ≤ d) (F : Nat) (a0 : Nat) (a1 : Int32) (a2 : Int32) (hp : List mE) (v : Int32) (hp' : List mE) (ra0 : a0 < hp.length) (h : e151 F a0 a1 a2 hp = some (v, hp')) : Rn d 151 0 (lv_args 0 [.ref a0, .int a1, .int a2]) [] hp 0 0 (some (.int v), hp', 0, 0) :=
  t151_0 (n := hp.length) hd F a0 a1 a2 (lv_args 0 [.ref a0, .int a1, .int a2]) hp v hp' rfl rfl rfl (lvk_args (okc (okr ra0) (okc rfl (okc rfl okn)))) rfl ra0 h
/-! MirrorRootsModel.number -/
def m152_32 (F : Nat) (t0 : Int32) (hp : List mE) : Option (Int32 × List mE) :=
  some (t0, hp)
theorem t152_32 {d c w n : Nat} (hd : 2 ≤ d) (F : Nat) : ∀ (t0 : Int32) (lv : List (Nat × Value)) (hp : List mE) (v : Int32) (hp' : List mE), lvk n lv → hp.length = n → m152_32 F t0 hp = some (v, hp') → Rn d 152 32 lv [.int t0] hp c w (some (.int v), hp', c, w) := by
  obtain ⟨d', rfl⟩ : ∃ d', d = d' + 1 := ⟨d - 1, by omega⟩
  intro t0 lv hp v hp' ok hn h
  unfold m152_32 at h
  have e1 := (Prod.mk.inj (Option.some.inj h)).1
  have e2 := (Prod.mk.inj (Option.some.inj h)).2
  subst e1
  subst e2
  exact Rn.iret n152_32 mr152
def m152_29 (F : Nat) (hp : List mE) : Option (Int32 × List mE) :=
  m152_32 F ((-1002)) hp
theorem t152_29 {d c w n : Nat} (hd : 2 ≤ d) (F : Nat) : ∀ (lv : List (Nat × Value)) (hp : List mE) (v : Int32) (hp' : List mE), lvk n lv → hp.length = n → m152_29 F hp = some (v, hp') → Rn d 152 29 lv [] hp c w (some (.int v), hp', c, w) := by
  obtain ⟨d', rfl⟩ : ∃ d', d = d' + 1 := ⟨d - 1, by omega⟩
  intro lv hp v hp' ok hn h
  unfold m152_29 at h
  refine Rn.sp (v := (-1002)) n152_29 (by decide) ?_
  exact t152_32 hd F  _ lv _ _ _  ok hn   h
def m152_0 (F : Nat) (v0 : Nat) (v1 : Int32) (v2 : Int32) (hp : List mE) : Option (Int32 × List mE) :=
  (rcv 11 hp v0).bind fun u2 =>
  (e150 F v0 v1 hp).bind fun q1 =>
  if mc1 .eq q1.1 = true then
    m152_29 F q1.2
  else
    (rcv 11 q1.2 v0).bind fun u5 =>
    (e150 F v0 v2 q1.2).bind fun q4 =>
    if mc1 .eq q4.1 = true then
      m152_29 F q4.2
    else
      (gfr 11 2 q4.2 v0).bind fun x7 =>
      (rdI q4.2 x7 ((5 * v1) + v2)).bind fun x8 =>
      m152_32 F x8 q4.2
theorem t152_0 {d c w n : Nat} (hd : 2 ≤ d) (F : Nat) : ∀ (v0 : Nat) (v1 : Int32) (v2 : Int32) (lv : List (Nat × Value)) (hp : List mE) (v : Int32) (hp' : List mE), alk 0 lv = some (.ref v0) → alk 1 lv = some (.int v1) → alk 2 lv = some (.int v2) → lvk n lv → hp.length = n → v0 < n → m152_0 F v0 v1 v2 hp = some (v, hp') → Rn d 152 0 lv [] hp c w (some (.int v), hp', c, w) := by
  obtain ⟨d', rfl⟩ : ∃ d', d = d' + 1 := ⟨d - 1, by omega⟩
  intro v0 v1 v2 lv hp v hp' l0 l1 l2 ok hn r_v0 h
  unfold m152_0 at h
  refine Rn.aload_n n152_0 l0 ?_
  refine Rn.iload_n n152_1 l1 ?_
  obtain ⟨u2, hu2, h⟩ := Option.bind_eq_some_iff.mp h
  obtain ⟨q1, hq1, h⟩ := Option.bind_eq_some_iff.mp h
  have gq1 := c150 (d := d') (by omega) F _ _ _ _ _ (by rw [hn]; exact r_v0) hq1
  refine Rn.cv (As := [.int v1]) (rr := []) n152_2 mo152 mm11_186 (by decide) mq150 rfl rfl rfl rfl (by rw [mo150]; exact hu2) (Nat.le_of_ble_eq_true rfl) (by rw [hn]; exact (okc (okr r_v0) (okc rfl okn))) (by rw [hn]; exact okn) (by rw [hn]; exact ok) (by rw [ml150]; exact Nat.le_of_ble_eq_true rfl) gq1 ?_
  have hn := (Rn.len gq1).trans hn
  show Rn _ 152 5 lv [.int q1.1] q1.2 c w _
  by_cases hc3 : mc1 .eq q1.1 = true
  · rw [if_pos hc3] at h
    refine Rn.c1t (t := 29) n152_5 (by decide) hc3 ?_
    exact t152_29 hd F  lv _ _ _  ok hn   h
  · rw [if_neg hc3] at h
    refine Rn.c1f (t := 29) n152_5 (by decide) hc3 ?_
    refine Rn.aload_n n152_8 l0 ?_
    refine Rn.iload_n n152_9 l2 ?_
    obtain ⟨u5, hu5, h⟩ := Option.bind_eq_some_iff.mp h
    obtain ⟨q4, hq4, h⟩ := Option.bind_eq_some_iff.mp h
    have gq4 := c150 (d := d') (by omega) F _ _ _ _ _ (by rw [hn]; exact r_v0) hq4
    refine Rn.cv (As := [.int v2]) (rr := []) n152_10 mo152 mm11_186 (by decide) mq150 rfl rfl rfl rfl (by rw [mo150]; exact hu5) (Nat.le_of_ble_eq_true rfl) (by rw [hn]; exact (okc (okr r_v0) (okc rfl okn))) (by rw [hn]; exact okn) (by rw [hn]; exact ok) (by rw [ml150]; exact Nat.le_of_ble_eq_true rfl) gq4 ?_
    have hn := (Rn.len gq4).trans hn
    show Rn _ 152 13 lv [.int q4.1] q4.2 c w _
    by_cases hc6 : mc1 .eq q4.1 = true
    · rw [if_pos hc6] at h
      refine Rn.c1t (t := 29) n152_13 (by decide) hc6 ?_
      exact t152_29 hd F  lv _ _ _  ok hn   h
    · rw [if_neg hc6] at h
      refine Rn.c1f (t := 29) n152_13 (by decide) hc6 ?_
      refine Rn.aload_n n152_16 l0 ?_
      obtain ⟨x7, hx7, h⟩ := Option.bind_eq_some_iff.mp h
      refine Rn.gf n152_17 mo152 fl11_17 (gfr_v hx7).1 ?_
      have r_x7 : x7 < n := by rw [← hn]; exact (gfr_v hx7).2
      refine Rn.ic (v := 5) n152_20 (by decide) ?_
      refine Rn.iload_n n152_21 l1 ?_
      refine Rn.p n152_22 rfl ?_
      refine Rn.iload_n n152_23 l2 ?_
      refine Rn.p n152_24 rfl ?_
      obtain ⟨x8, hx8, h⟩ := Option.bind_eq_some_iff.mp h
      refine Rn.iald n152_25 hx8 ?_
      refine Rn.goto (t := 32) n152_26 (by decide) ?_
      exact t152_32 hd F  _ lv _ _ _  ok hn   h
def e152 (F : Nat) (a0 : Nat) (a1 : Int32) (a2 : Int32) (hp : List mE) : Option (Int32 × List mE) := m152_0 F a0 a1 a2 hp
theorem c152 {d : Nat} (hd : 2 ≤ d) (F : Nat) (a0 : Nat) (a1 : Int32) (a2 : Int32) (hp : List mE) (v : Int32) (hp' : List mE) (ra0 : a0 < hp.length) (h : e152 F a0 a1 a2 hp = some (v, hp')) : Rn d 152 0 (lv_args 0 [.ref a0, .int a1, .int a2]) [] hp 0 0 (some (.int v), hp', 0, 0) :=
  t152_0 (n := hp.length) hd F a0 a1 a2 (lv_args 0 [.ref a0, .int a1, .int a2]) hp v hp' rfl rfl rfl (lvk_args (okc (okr ra0) (okc rfl (okc rfl okn)))) rfl ra0 h
/-! MirrorRootsModel.count -/
def m153_0 (F : Nat) (v0 : Nat) (v1 : Int32) (hp : List mE) : Option (Int32 × List mE) :=
  if v1 = 0 then
    (gfi 11 0 hp v0).bind fun x2 =>
    some (x2, hp)
  else
  if v1 = 1 then
    (gfi 11 16 hp v0).bind fun x4 =>
    some (x4, hp)
  else
  if v1 = 2 then
    (gfi 11 5 hp v0).bind fun x6 =>
    some (x6, hp)
  else
  if v1 = 3 then
    (gfi 11 19 hp v0).bind fun x8 =>
    some (x8, hp)
  else
  some ((-1002), hp)
theorem t153_0 {d c w n : Nat} (hd : 0 ≤ d) (F : Nat) : ∀ (v0 : Nat) (v1 : Int32) (lv : List (Nat × Value)) (hp : List mE) (v : Int32) (hp' : List mE), alk 0 lv = some (.ref v0) → alk 1 lv = some (.int v1) → lvk n lv → hp.length = n → v0 < n → m153_0 F v0 v1 hp = some (v, hp') → Rn d 153 0 lv [] hp c w (some (.int v), hp', c, w) := by
  intro v0 v1 lv hp v hp' l0 l1 ok hn r_v0 h
  unfold m153_0 at h
  refine Rn.iload_n n153_0 l1 ?_
  by_cases hs1 : v1 = 0
  · rw [if_pos hs1] at h
    refine Rn.sw (pc' := 32) n153_1 (by rw [hs1]; rfl) ?_
    refine Rn.aload_n n153_32 l0 ?_
    obtain ⟨x2, hx2, h⟩ := Option.bind_eq_some_iff.mp h
    refine Rn.gf n153_33 mo153 fl11_7 (gfi_v hx2) ?_
    have e1 := (Prod.mk.inj (Option.some.inj h)).1
    have e2 := (Prod.mk.inj (Option.some.inj h)).2
    subst e1
    subst e2
    exact Rn.iret n153_36 mr153
  rw [if_neg hs1] at h
  by_cases hs3 : v1 = 1
  · rw [if_pos hs3] at h
    refine Rn.sw (pc' := 37) n153_1 (by rw [hs3]; rfl) ?_
    refine Rn.aload_n n153_37 l0 ?_
    obtain ⟨x4, hx4, h⟩ := Option.bind_eq_some_iff.mp h
    refine Rn.gf n153_38 mo153 fl11_108 (gfi_v hx4) ?_
    have e1 := (Prod.mk.inj (Option.some.inj h)).1
    have e2 := (Prod.mk.inj (Option.some.inj h)).2
    subst e1
    subst e2
    exact Rn.iret n153_41 mr153
  rw [if_neg hs3] at h
  by_cases hs5 : v1 = 2
  · rw [if_pos hs5] at h
    refine Rn.sw (pc' := 42) n153_1 (by rw [hs5]; rfl) ?_
    refine Rn.aload_n n153_42 l0 ?_
    obtain ⟨x6, hx6, h⟩ := Option.bind_eq_some_iff.mp h
    refine Rn.gf n153_43 mo153 fl11_120 (gfi_v hx6) ?_
    have e1 := (Prod.mk.inj (Option.some.inj h)).1
    have e2 := (Prod.mk.inj (Option.some.inj h)).2
    subst e1
    subst e2
    exact Rn.iret n153_46 mr153
  rw [if_neg hs5] at h
  by_cases hs7 : v1 = 3
  · rw [if_pos hs7] at h
    refine Rn.sw (pc' := 47) n153_1 (by rw [hs7]; rfl) ?_
    refine Rn.aload_n n153_47 l0 ?_
    obtain ⟨x8, hx8, h⟩ := Option.bind_eq_some_iff.mp h
    refine Rn.gf n153_48 mo153 fl11_111 (gfi_v hx8) ?_
    have e1 := (Prod.mk.inj (Option.some.inj h)).1
    have e2 := (Prod.mk.inj (Option.some.inj h)).2
    subst e1
    subst e2
    exact Rn.iret n153_51 mr153
  rw [if_neg hs7] at h
  refine Rn.sw (pc' := 52) n153_1 (mtab_out (tsw_out (n := 3) (by decide) (fun j hj => by rcases (show j = 0 ∨ j = 1 ∨ j = 2 ∨ j = 3 by omega) with rfl | rfl | rfl | rfl <;> first | exact hs1 | exact hs3 | exact hs5 | exact hs7)) (by decide)) ?_
  refine Rn.sp (v := (-1002)) n153_52 (by decide) ?_
  have e1 := (Prod.mk.inj (Option.some.inj h)).1
  have e2 := (Prod.mk.inj (Option.some.inj h)).2
  subst e1
  subst e2
  exact Rn.iret n153_55 mr153
def e153 (F : Nat) (a0 : Nat) (a1 : Int32) (hp : List mE) : Option (Int32 × List mE) := m153_0 F a0 a1 hp
theorem c153 {d : Nat} (hd : 0 ≤ d) (F : Nat) (a0 : Nat) (a1 : Int32) (hp : List mE) (v : Int32) (hp' : List mE) (ra0 : a0 < hp.length) (h : e153 F a0 a1 hp = some (v, hp')) : Rn d 153 0 (lv_args 0 [.ref a0, .int a1]) [] hp 0 0 (some (.int v), hp', 0, 0) :=
  t153_0 (n := hp.length) hd F a0 a1 (lv_args 0 [.ref a0, .int a1]) hp v hp' rfl rfl (lvk_args (okc (okr ra0) (okc rfl okn))) rfl ra0 h
/-! MirrorRootsModel.begin -/
def m154_27 (F : Nat) (rc2 : Nat → Int32 → List mE → Option (Unit × List mE)) (v0 : Nat) (v1 : Int32) (t0 : Nat) (t1 : Int32) (t2 : Int64) (hp : List mE) : Option (Unit × List mE) :=
  (wrJ hp t0 t1 t2).bind fun hp1 =>
  rc2 v0 (v1 + 1) hp1
theorem t154_27 {d c w n : Nat} (hd : 0 ≤ d) (F : Nat) {rc2 : Nat → Int32 → List mE → Option (Unit × List mE)} (hr2 : ∀ (v0 : Nat) (v1 : Int32) (lv : List (Nat × Value)) (hp : List mE) (v : Unit) (hp' : List mE), alk 0 lv = some (.ref v0) → alk 1 lv = some (.int v1) → lvk n lv → hp.length = n → v0 < n → rc2 v0 v1 hp = some (v, hp') → Rn d 154 2 lv [] hp c w (none, hp', c, w)) : ∀ (v0 : Nat) (v1 : Int32) (t0 : Nat) (t1 : Int32) (t2 : Int64) (lv : List (Nat × Value)) (hp : List mE) (v : Unit) (hp' : List mE), alk 0 lv = some (.ref v0) → alk 1 lv = some (.int v1) → lvk n lv → hp.length = n → v0 < n → t0 < n → m154_27 F rc2 v0 v1 t0 t1 t2 hp = some (v, hp') → Rn d 154 27 lv [.long t2, .int t1, .ref t0] hp c w (none, hp', c, w) := by
  intro v0 v1 t0 t1 t2 lv hp v hp' l0 l1 ok hn r_v0 r_t0 h
  unfold m154_27 at h
  obtain ⟨hp1, hhp1, h⟩ := Option.bind_eq_some_iff.mp h
  refine Rn.last n154_27 hhp1 ?_
  have hn := (wrJ_st (st := []) hhp1).2.trans hn
  refine Rn.ii (m := n) (u := 1) n154_28 ml154 (by decide) (by decide) l1 (fun lv l1 hk hok => ?_)
  have l0 := hk 0 _ (by decide) (Or.inl rfl) l0
  have ok := hok ok
  refine Rn.goto (t := 2) n154_31 (by decide) ?_
  exact hr2 _ _ lv _ _ _ l0 l1 ok hn r_v0  h
def m154_2 (F : Nat) : Nat → Nat → Int32 → List mE → Option (Unit × List mE)
  | 0, _, _, _ => none
  | f + 1, v0, v1, hp =>
    if mc2 .ge v1 25 = true then
      some ((), hp)
    else
      (gfr 11 13 hp v0).bind fun x2 =>
      if mc2 .ne (v1 / 5) (v1 - v1 / 5 * 5) = true then
        m154_27 F (m154_2 F f) v0 v1 x2 v1 0 hp
      else
        m154_27 F (m154_2 F f) v0 v1 x2 v1 1 hp
theorem t154_2 {d c w n : Nat} (hd : 0 ≤ d) (F : Nat) : ∀ f : Nat, ∀ (v0 : Nat) (v1 : Int32) (lv : List (Nat × Value)) (hp : List mE) (v : Unit) (hp' : List mE), alk 0 lv = some (.ref v0) → alk 1 lv = some (.int v1) → lvk n lv → hp.length = n → v0 < n → m154_2 F f v0 v1 hp = some (v, hp') → Rn d 154 2 lv [] hp c w (none, hp', c, w) := by
  intro f
  induction f with
  | zero => intro v0 v1 lv hp v hp' l0 l1 ok hn r_v0 h; cases h
  | succ f hr2 =>
    intro v0 v1 lv hp v hp' l0 l1 ok hn r_v0 h
    unfold m154_2 at h
    refine Rn.iload_n n154_2 l1 ?_
    refine Rn.bp (v := 25) n154_3 (by decide) ?_
    by_cases hc1 : mc2 .ge v1 25 = true
    · rw [if_pos hc1] at h
      refine Rn.c2t (t := 34) n154_5 (by decide) hc1 ?_
      have e1 := (Prod.mk.inj (Option.some.inj h)).1
      have e2 := (Prod.mk.inj (Option.some.inj h)).2
      subst e1
      subst e2
      exact Rn.vret n154_34 mr154
    · rw [if_neg hc1] at h
      refine Rn.c2f (t := 34) n154_5 (by decide) hc1 ?_
      refine Rn.aload_n n154_8 l0 ?_
      obtain ⟨x2, hx2, h⟩ := Option.bind_eq_some_iff.mp h
      refine Rn.gf n154_9 mo154 fl11_33 (gfr_v hx2).1 ?_
      have r_x2 : x2 < n := by rw [← hn]; exact (gfr_v hx2).2
      refine Rn.iload_n n154_12 l1 ?_
      refine Rn.iload_n n154_13 l1 ?_
      refine Rn.ic (v := 5) n154_14 (by decide) ?_
      refine Rn.idv n154_15 (by decide) ?_
      refine Rn.iload_n n154_16 l1 ?_
      refine Rn.ic (v := 5) n154_17 (by decide) ?_
      refine Rn.irm n154_18 (by decide) ?_
      by_cases hc3 : mc2 .ne (v1 / 5) (v1 - v1 / 5 * 5) = true
      · rw [if_pos hc3] at h
        refine Rn.c2t (t := 26) n154_19 (by decide) hc3 ?_
        refine Rn.lc (v := 0) n154_26 (by decide) ?_
        exact t154_27 hd F hr2 _ _ _ _ _ lv _ _ _ l0 l1 ok hn r_v0 r_x2 h
      · rw [if_neg hc3] at h
        refine Rn.c2f (t := 26) n154_19 (by decide) hc3 ?_
        refine Rn.lc (v := 1) n154_22 (by decide) ?_
        refine Rn.goto (t := 27) n154_23 (by decide) ?_
        exact t154_27 hd F hr2 _ _ _ _ _ lv _ _ _ l0 l1 ok hn r_v0 r_x2 h
def m154_0 (F : Nat) (v0 : Nat) (hp : List mE) : Option (Unit × List mE) :=
  m154_2 F F v0 0 hp
theorem t154_0 {d c w n : Nat} (hd : 0 ≤ d) (F : Nat) : ∀ (v0 : Nat) (lv : List (Nat × Value)) (hp : List mE) (v : Unit) (hp' : List mE), alk 0 lv = some (.ref v0) → lvk n lv → hp.length = n → v0 < n → m154_0 F v0 hp = some (v, hp') → Rn d 154 0 lv [] hp c w (none, hp', c, w) := by
  intro v0 lv hp v hp' l0 ok hn r_v0 h
  unfold m154_0 at h
  refine Rn.ic (v := 0) n154_0 (by decide) ?_
  refine Rn.isn (m := n) n154_1 rfl ml154 (by decide) (fun lv l1 hk hok => ?_)
  have l0 := hk 0 _ (by decide) (Or.inl rfl) l0
  have ok := hok ok
  exact t154_2 hd F  F _ _ lv _ _ _ l0 l1 ok hn r_v0  h
def e154 (F : Nat) (a0 : Nat) (hp : List mE) : Option (Unit × List mE) := m154_0 F a0 hp
theorem c154 {d : Nat} (hd : 0 ≤ d) (F : Nat) (a0 : Nat) (hp : List mE) (v : Unit) (hp' : List mE) (ra0 : a0 < hp.length) (h : e154 F a0 hp = some (v, hp')) : Rn d 154 0 (lv_args 0 [.ref a0]) [] hp 0 0 (none, hp', 0, 0) :=
  t154_0 (n := hp.length) hd F a0 (lv_args 0 [.ref a0]) hp v hp' rfl (lvk_args (okc (okr ra0) okn)) rfl ra0 h
/-! MirrorRootsModel.follow -/
def m155_74 (F : Nat) : Nat → Nat → Int32 → Int32 → Int32 → Int32 → List mE → Option (Unit × List mE)
  | 0, _, _, _, _, _, _ => none
  | f + 1, v0, v1, v2, v3, v5, hp =>
    if mc2 .ge v5 v3 = true then
      some ((), hp)
    else
      (rdJ hp v0 ((v1 + (5 * v2)) + v5)).bind fun x2 =>
      (wrJ hp v0 ((v1 + (5 * v2)) + v5) (-x2)).bind fun hp3 =>
      m155_74 F f v0 v1 v2 v3 (v5 + 1) hp3
theorem t155_74 {d c w n : Nat} (hd : 0 ≤ d) (F : Nat) : ∀ f : Nat, ∀ (v0 : Nat) (v1 : Int32) (v2 : Int32) (v3 : Int32) (v5 : Int32) (lv : List (Nat × Value)) (hp : List mE) (v : Unit) (hp' : List mE), alk 0 lv = some (.ref v0) → alk 1 lv = some (.int v1) → alk 2 lv = some (.int v2) → alk 3 lv = some (.int v3) → alk 5 lv = some (.int v5) → lvk n lv → hp.length = n → v0 < n → m155_74 F f v0 v1 v2 v3 v5 hp = some (v, hp') → Rn d 155 74 lv [] hp c w (none, hp', c, w) := by
  intro f
  induction f with
  | zero => intro v0 v1 v2 v3 v5 lv hp v hp' l0 l1 l2 l3 l5 ok hn r_v0 h; cases h
  | succ f hr74 =>
    intro v0 v1 v2 v3 v5 lv hp v hp' l0 l1 l2 l3 l5 ok hn r_v0 h
    unfold m155_74 at h
    refine Rn.iload n155_74 l5 ?_
    refine Rn.iload_n n155_76 l3 ?_
    by_cases hc1 : mc2 .ge v5 v3 = true
    · rw [if_pos hc1] at h
      refine Rn.c2t (t := 107) n155_77 (by decide) hc1 ?_
      have e1 := (Prod.mk.inj (Option.some.inj h)).1
      have e2 := (Prod.mk.inj (Option.some.inj h)).2
      subst e1
      subst e2
      exact Rn.vret n155_107 mr155
    · rw [if_neg hc1] at h
      refine Rn.c2f (t := 107) n155_77 (by decide) hc1 ?_
      refine Rn.aload_n n155_80 l0 ?_
      refine Rn.iload_n n155_81 l1 ?_
      refine Rn.ic (v := 5) n155_82 (by decide) ?_
      refine Rn.iload_n n155_83 l2 ?_
      refine Rn.p n155_84 rfl ?_
      refine Rn.p n155_85 rfl ?_
      refine Rn.iload n155_86 l5 ?_
      refine Rn.p n155_88 rfl ?_
      refine Rn.aload_n n155_89 l0 ?_
      refine Rn.iload_n n155_90 l1 ?_
      refine Rn.ic (v := 5) n155_91 (by decide) ?_
      refine Rn.iload_n n155_92 l2 ?_
      refine Rn.p n155_93 rfl ?_
      refine Rn.p n155_94 rfl ?_
      refine Rn.iload n155_95 l5 ?_
      refine Rn.p n155_97 rfl ?_
      obtain ⟨x2, hx2, h⟩ := Option.bind_eq_some_iff.mp h
      refine Rn.lald n155_98 hx2 ?_
      refine Rn.p n155_99 rfl ?_
      obtain ⟨hp3, hhp3, h⟩ := Option.bind_eq_some_iff.mp h
      refine Rn.last n155_100 hhp3 ?_
      have hn := (wrJ_st (st := []) hhp3).2.trans hn
      refine Rn.ii (m := n) (u := 1) n155_101 ml155 (by decide) (by decide) l5 (fun lv l5 hk hok => ?_)
      have l0 := hk 0 _ (by decide) (Or.inl rfl) l0
      have l1 := hk 1 _ (by decide) (Or.inl rfl) l1
      have l2 := hk 2 _ (by decide) (Or.inl rfl) l2
      have l3 := hk 3 _ (by decide) (Or.inl rfl) l3
      have ok := hok ok
      refine Rn.goto (t := 74) n155_104 (by decide) ?_
      exact hr74 _ _ _ _ _ lv _ _ _ l0 l1 l2 l3 l5 ok hn r_v0  h
def m155_65 (F : Nat) (rc3 : Nat → Int32 → Int32 → Int32 → Nat → Int32 → List mE → Option (Unit × List mE)) (v0 : Nat) (v1 : Int32) (v2 : Int32) (v3 : Int32) (v4 : Nat) (v5 : Int32) (hp : List mE) : Option (Unit × List mE) :=
  rc3 v0 v1 v2 v3 v4 (v5 + 1) hp
theorem t155_65 {d c w n : Nat} (hd : 0 ≤ d) (F : Nat) {rc3 : Nat → Int32 → Int32 → Int32 → Nat → Int32 → List mE → Option (Unit × List mE)} (hr3 : ∀ (v0 : Nat) (v1 : Int32) (v2 : Int32) (v3 : Int32) (v4 : Nat) (v5 : Int32) (lv : List (Nat × Value)) (hp : List mE) (v : Unit) (hp' : List mE), alk 0 lv = some (.ref v0) → alk 1 lv = some (.int v1) → alk 2 lv = some (.int v2) → alk 3 lv = some (.int v3) → alk 4 lv = some (.ref v4) → alk 5 lv = some (.int v5) → lvk n lv → hp.length = n → v0 < n → v4 < n → rc3 v0 v1 v2 v3 v4 v5 hp = some (v, hp') → Rn d 155 3 lv [] hp c w (none, hp', c, w)) : ∀ (v0 : Nat) (v1 : Int32) (v2 : Int32) (v3 : Int32) (v4 : Nat) (v5 : Int32) (lv : List (Nat × Value)) (hp : List mE) (v : Unit) (hp' : List mE), alk 0 lv = some (.ref v0) → alk 1 lv = some (.int v1) → alk 2 lv = some (.int v2) → alk 3 lv = some (.int v3) → alk 4 lv = some (.ref v4) → alk 5 lv = some (.int v5) → lvk n lv → hp.length = n → v0 < n → v4 < n → m155_65 F rc3 v0 v1 v2 v3 v4 v5 hp = some (v, hp') → Rn d 155 65 lv [] hp c w (none, hp', c, w) := by
  intro v0 v1 v2 v3 v4 v5 lv hp v hp' l0 l1 l2 l3 l4 l5 ok hn r_v0 r_v4 h
  unfold m155_65 at h
  refine Rn.ii (m := n) (u := 1) n155_65 ml155 (by decide) (by decide) l5 (fun lv l5 hk hok => ?_)
  have l0 := hk 0 _ (by decide) (Or.inl rfl) l0
  have l1 := hk 1 _ (by decide) (Or.inl rfl) l1
  have l2 := hk 2 _ (by decide) (Or.inl rfl) l2
  have l3 := hk 3 _ (by decide) (Or.inl rfl) l3
  have l4 := hk 4 _ (by decide) (Or.inl rfl) l4
  have ok := hok ok
  refine Rn.goto (t := 3) n155_68 (by decide) ?_
  exact hr3 _ _ _ _ _ _ lv _ _ _ l0 l1 l2 l3 l4 l5 ok hn r_v0 r_v4  h
def m155_12 (F : Nat) (rc3 : Nat → Int32 → Int32 → Int32 → Nat → Int32 → List mE → Option (Unit × List mE)) : Nat → Nat → Int32 → Int32 → Int32 → Nat → Int32 → Int32 → List mE → Option (Unit × List mE)
  | 0, _, _, _, _, _, _, _, _ => none
  | f + 1, v0, v1, v2, v3, v4, v5, v6, hp =>
    if mc2 .ge v6 v3 = true then
      m155_65 F rc3 v0 v1 v2 v3 v4 v5 hp
    else
      if mc2 .eq v5 v2 = true then
        m155_65 F rc3 v0 v1 v2 v3 v4 v5 hp
      else
        (rdJ hp v0 ((v1 + (5 * v5)) + v6)).bind fun x3 =>
        (rdI hp v4 ((5 * v2) + v5)).bind fun x4 =>
        (rdJ hp v0 ((v1 + (5 * v2)) + v6)).bind fun x5 =>
        (wrJ hp v0 ((v1 + (5 * v5)) + v6) (x3 - (x4.toInt64 * x5))).bind fun hp6 =>
        m155_12 F rc3 f v0 v1 v2 v3 v4 v5 (v6 + 1) hp6
theorem t155_12 {d c w n : Nat} (hd : 0 ≤ d) (F : Nat) {rc3 : Nat → Int32 → Int32 → Int32 → Nat → Int32 → List mE → Option (Unit × List mE)} (hr3 : ∀ (v0 : Nat) (v1 : Int32) (v2 : Int32) (v3 : Int32) (v4 : Nat) (v5 : Int32) (lv : List (Nat × Value)) (hp : List mE) (v : Unit) (hp' : List mE), alk 0 lv = some (.ref v0) → alk 1 lv = some (.int v1) → alk 2 lv = some (.int v2) → alk 3 lv = some (.int v3) → alk 4 lv = some (.ref v4) → alk 5 lv = some (.int v5) → lvk n lv → hp.length = n → v0 < n → v4 < n → rc3 v0 v1 v2 v3 v4 v5 hp = some (v, hp') → Rn d 155 3 lv [] hp c w (none, hp', c, w)) : ∀ f : Nat, ∀ (v0 : Nat) (v1 : Int32) (v2 : Int32) (v3 : Int32) (v4 : Nat) (v5 : Int32) (v6 : Int32) (lv : List (Nat × Value)) (hp : List mE) (v : Unit) (hp' : List mE), alk 0 lv = some (.ref v0) → alk 1 lv = some (.int v1) → alk 2 lv = some (.int v2) → alk 3 lv = some (.int v3) → alk 4 lv = some (.ref v4) → alk 5 lv = some (.int v5) → alk 6 lv = some (.int v6) → lvk n lv → hp.length = n → v0 < n → v4 < n → m155_12 F rc3 f v0 v1 v2 v3 v4 v5 v6 hp = some (v, hp') → Rn d 155 12 lv [] hp c w (none, hp', c, w) := by
  intro f
  induction f with
  | zero => intro v0 v1 v2 v3 v4 v5 v6 lv hp v hp' l0 l1 l2 l3 l4 l5 l6 ok hn r_v0 r_v4 h; cases h
  | succ f hr12 =>
    intro v0 v1 v2 v3 v4 v5 v6 lv hp v hp' l0 l1 l2 l3 l4 l5 l6 ok hn r_v0 r_v4 h
    unfold m155_12 at h
    refine Rn.iload n155_12 l6 ?_
    refine Rn.iload_n n155_14 l3 ?_
    by_cases hc1 : mc2 .ge v6 v3 = true
    · rw [if_pos hc1] at h
      refine Rn.c2t (t := 65) n155_15 (by decide) hc1 ?_
      exact t155_65 hd F hr3 _ _ _ _ _ _ lv _ _ _ l0 l1 l2 l3 l4 l5 ok hn r_v0 r_v4  h
    · rw [if_neg hc1] at h
      refine Rn.c2f (t := 65) n155_15 (by decide) hc1 ?_
      refine Rn.iload n155_18 l5 ?_
      refine Rn.iload_n n155_20 l2 ?_
      by_cases hc2 : mc2 .eq v5 v2 = true
      · rw [if_pos hc2] at h
        refine Rn.c2t (t := 65) n155_21 (by decide) hc2 ?_
        exact t155_65 hd F hr3 _ _ _ _ _ _ lv _ _ _ l0 l1 l2 l3 l4 l5 ok hn r_v0 r_v4  h
      · rw [if_neg hc2] at h
        refine Rn.c2f (t := 65) n155_21 (by decide) hc2 ?_
        refine Rn.aload_n n155_24 l0 ?_
        refine Rn.iload_n n155_25 l1 ?_
        refine Rn.ic (v := 5) n155_26 (by decide) ?_
        refine Rn.iload n155_27 l5 ?_
        refine Rn.p n155_29 rfl ?_
        refine Rn.p n155_30 rfl ?_
        refine Rn.iload n155_31 l6 ?_
        refine Rn.p n155_33 rfl ?_
        refine Rn.p n155_34 rfl ?_
        obtain ⟨x3, hx3, h⟩ := Option.bind_eq_some_iff.mp h
        refine Rn.lald n155_35 hx3 ?_
        refine Rn.aload n155_36 l4 ?_
        refine Rn.ic (v := 5) n155_38 (by decide) ?_
        refine Rn.iload_n n155_39 l2 ?_
        refine Rn.p n155_40 rfl ?_
        refine Rn.iload n155_41 l5 ?_
        refine Rn.p n155_43 rfl ?_
        obtain ⟨x4, hx4, h⟩ := Option.bind_eq_some_iff.mp h
        refine Rn.iald n155_44 hx4 ?_
        refine Rn.p n155_45 rfl ?_
        refine Rn.aload_n n155_46 l0 ?_
        refine Rn.iload_n n155_47 l1 ?_
        refine Rn.ic (v := 5) n155_48 (by decide) ?_
        refine Rn.iload_n n155_49 l2 ?_
        refine Rn.p n155_50 rfl ?_
        refine Rn.p n155_51 rfl ?_
        refine Rn.iload n155_52 l6 ?_
        refine Rn.p n155_54 rfl ?_
        obtain ⟨x5, hx5, h⟩ := Option.bind_eq_some_iff.mp h
        refine Rn.lald n155_55 hx5 ?_
        refine Rn.p n155_56 rfl ?_
        refine Rn.p n155_57 rfl ?_
        obtain ⟨hp6, hhp6, h⟩ := Option.bind_eq_some_iff.mp h
        refine Rn.last n155_58 hhp6 ?_
        have hn := (wrJ_st (st := []) hhp6).2.trans hn
        refine Rn.ii (m := n) (u := 1) n155_59 ml155 (by decide) (by decide) l6 (fun lv l6 hk hok => ?_)
        have l0 := hk 0 _ (by decide) (Or.inl rfl) l0
        have l1 := hk 1 _ (by decide) (Or.inl rfl) l1
        have l2 := hk 2 _ (by decide) (Or.inl rfl) l2
        have l3 := hk 3 _ (by decide) (Or.inl rfl) l3
        have l4 := hk 4 _ (by decide) (Or.inl rfl) l4
        have l5 := hk 5 _ (by decide) (Or.inl rfl) l5
        have ok := hok ok
        refine Rn.goto (t := 12) n155_62 (by decide) ?_
        exact hr12 _ _ _ _ _ _ _ lv _ _ _ l0 l1 l2 l3 l4 l5 l6 ok hn r_v0 r_v4  h
def m155_3 (F : Nat) : Nat → Nat → Int32 → Int32 → Int32 → Nat → Int32 → List mE → Option (Unit × List mE)
  | 0, _, _, _, _, _, _, _ => none
  | f + 1, v0, v1, v2, v3, v4, v5, hp =>
    if mc2 .ge v5 v3 = true then
      m155_74 F F v0 v1 v2 v3 0 hp
    else
      m155_12 F (m155_3 F f) F v0 v1 v2 v3 v4 v5 0 hp
theorem t155_3 {d c w n : Nat} (hd : 0 ≤ d) (F : Nat) : ∀ f : Nat, ∀ (v0 : Nat) (v1 : Int32) (v2 : Int32) (v3 : Int32) (v4 : Nat) (v5 : Int32) (lv : List (Nat × Value)) (hp : List mE) (v : Unit) (hp' : List mE), alk 0 lv = some (.ref v0) → alk 1 lv = some (.int v1) → alk 2 lv = some (.int v2) → alk 3 lv = some (.int v3) → alk 4 lv = some (.ref v4) → alk 5 lv = some (.int v5) → lvk n lv → hp.length = n → v0 < n → v4 < n → m155_3 F f v0 v1 v2 v3 v4 v5 hp = some (v, hp') → Rn d 155 3 lv [] hp c w (none, hp', c, w) := by
  intro f
  induction f with
  | zero => intro v0 v1 v2 v3 v4 v5 lv hp v hp' l0 l1 l2 l3 l4 l5 ok hn r_v0 r_v4 h; cases h
  | succ f hr3 =>
    intro v0 v1 v2 v3 v4 v5 lv hp v hp' l0 l1 l2 l3 l4 l5 ok hn r_v0 r_v4 h
    unfold m155_3 at h
    refine Rn.iload n155_3 l5 ?_
    refine Rn.iload_n n155_5 l3 ?_
    by_cases hc1 : mc2 .ge v5 v3 = true
    · rw [if_pos hc1] at h
      refine Rn.c2t (t := 71) n155_6 (by decide) hc1 ?_
      refine Rn.ic (v := 0) n155_71 (by decide) ?_
      refine Rn.is (m := n) n155_72 ml155 (by decide) (fun lv l5 hk hok => ?_)
      have l0 := hk 0 _ (by decide) (Or.inl rfl) l0
      have l1 := hk 1 _ (by decide) (Or.inl rfl) l1
      have l2 := hk 2 _ (by decide) (Or.inl rfl) l2
      have l3 := hk 3 _ (by decide) (Or.inl rfl) l3
      have l4 := hk 4 _ (by decide) (Or.inl rfl) l4
      have ok := hok ok
      exact t155_74 hd F  F _ _ _ _ _ lv _ _ _ l0 l1 l2 l3 l5 ok hn r_v0  h
    · rw [if_neg hc1] at h
      refine Rn.c2f (t := 71) n155_6 (by decide) hc1 ?_
      refine Rn.ic (v := 0) n155_9 (by decide) ?_
      refine Rn.is (m := n) n155_10 ml155 (by decide) (fun lv l6 hk hok => ?_)
      have l0 := hk 0 _ (by decide) (Or.inl rfl) l0
      have l1 := hk 1 _ (by decide) (Or.inl rfl) l1
      have l2 := hk 2 _ (by decide) (Or.inl rfl) l2
      have l3 := hk 3 _ (by decide) (Or.inl rfl) l3
      have l4 := hk 4 _ (by decide) (Or.inl rfl) l4
      have l5 := hk 5 _ (by decide) (Or.inl rfl) l5
      have ok := hok ok
      exact t155_12 hd F hr3 F _ _ _ _ _ _ _ lv _ _ _ l0 l1 l2 l3 l4 l5 l6 ok hn r_v0 r_v4  h
def m155_0 (F : Nat) (v0 : Nat) (v1 : Int32) (v2 : Int32) (v3 : Int32) (v4 : Nat) (hp : List mE) : Option (Unit × List mE) :=
  m155_3 F F v0 v1 v2 v3 v4 0 hp
theorem t155_0 {d c w n : Nat} (hd : 0 ≤ d) (F : Nat) : ∀ (v0 : Nat) (v1 : Int32) (v2 : Int32) (v3 : Int32) (v4 : Nat) (lv : List (Nat × Value)) (hp : List mE) (v : Unit) (hp' : List mE), alk 0 lv = some (.ref v0) → alk 1 lv = some (.int v1) → alk 2 lv = some (.int v2) → alk 3 lv = some (.int v3) → alk 4 lv = some (.ref v4) → lvk n lv → hp.length = n → v0 < n → v4 < n → m155_0 F v0 v1 v2 v3 v4 hp = some (v, hp') → Rn d 155 0 lv [] hp c w (none, hp', c, w) := by
  intro v0 v1 v2 v3 v4 lv hp v hp' l0 l1 l2 l3 l4 ok hn r_v0 r_v4 h
  unfold m155_0 at h
  refine Rn.ic (v := 0) n155_0 (by decide) ?_
  refine Rn.is (m := n) n155_1 ml155 (by decide) (fun lv l5 hk hok => ?_)
  have l0 := hk 0 _ (by decide) (Or.inl rfl) l0
  have l1 := hk 1 _ (by decide) (Or.inl rfl) l1
  have l2 := hk 2 _ (by decide) (Or.inl rfl) l2
  have l3 := hk 3 _ (by decide) (Or.inl rfl) l3
  have l4 := hk 4 _ (by decide) (Or.inl rfl) l4
  have ok := hok ok
  exact t155_3 hd F  F _ _ _ _ _ _ lv _ _ _ l0 l1 l2 l3 l4 l5 ok hn r_v0 r_v4  h
def e155 (F : Nat) (a0 : Nat) (a1 : Int32) (a2 : Int32) (a3 : Int32) (a4 : Nat) (hp : List mE) : Option (Unit × List mE) := m155_0 F a0 a1 a2 a3 a4 hp
theorem c155 {d : Nat} (hd : 0 ≤ d) (F : Nat) (a0 : Nat) (a1 : Int32) (a2 : Int32) (a3 : Int32) (a4 : Nat) (hp : List mE) (v : Unit) (hp' : List mE) (ra0 : a0 < hp.length) (ra4 : a4 < hp.length) (h : e155 F a0 a1 a2 a3 a4 hp = some (v, hp')) : Rn d 155 0 (lv_args 0 [.ref a0, .int a1, .int a2, .int a3, .ref a4]) [] hp 0 0 (none, hp', 0, 0) :=
  t155_0 (n := hp.length) hd F a0 a1 a2 a3 a4 (lv_args 0 [.ref a0, .int a1, .int a2, .int a3, .ref a4]) hp v hp' rfl rfl rfl rfl rfl (lvk_args (okc (okr ra0) (okc rfl (okc rfl (okc rfl (okc (okr ra4) okn)))))) rfl ra0 ra4 h
/-! MirrorRootsModel.then -/
def m156_0 (F : Nat) (v0 : Nat) (v1 : Int32) (hp : List mE) : Option (Unit × List mE) :=
  (gfr 11 13 hp v0).bind fun x1 =>
  (gfi 11 0 hp v0).bind fun x2 =>
  (gfr 11 2 hp v0).bind fun x3 =>
  (e155 F x1 0 v1 x2 x3 hp).bind fun q4 =>
  some ((), q4.2)
theorem t156_0 {d c w n : Nat} (hd : 1 ≤ d) (F : Nat) : ∀ (v0 : Nat) (v1 : Int32) (lv : List (Nat × Value)) (hp : List mE) (v : Unit) (hp' : List mE), alk 0 lv = some (.ref v0) → alk 1 lv = some (.int v1) → lvk n lv → hp.length = n → v0 < n → m156_0 F v0 v1 hp = some (v, hp') → Rn d 156 0 lv [] hp c w (none, hp', c, w) := by
  obtain ⟨d', rfl⟩ : ∃ d', d = d' + 1 := ⟨d - 1, by omega⟩
  intro v0 v1 lv hp v hp' l0 l1 ok hn r_v0 h
  unfold m156_0 at h
  refine Rn.aload_n n156_0 l0 ?_
  obtain ⟨x1, hx1, h⟩ := Option.bind_eq_some_iff.mp h
  refine Rn.gf n156_1 mo156 fl11_33 (gfr_v hx1).1 ?_
  have r_x1 : x1 < n := by rw [← hn]; exact (gfr_v hx1).2
  refine Rn.ic (v := 0) n156_4 (by decide) ?_
  refine Rn.iload_n n156_5 l1 ?_
  refine Rn.aload_n n156_6 l0 ?_
  obtain ⟨x2, hx2, h⟩ := Option.bind_eq_some_iff.mp h
  refine Rn.gf n156_7 mo156 fl11_7 (gfi_v hx2) ?_
  refine Rn.aload_n n156_10 l0 ?_
  obtain ⟨x3, hx3, h⟩ := Option.bind_eq_some_iff.mp h
  refine Rn.gf n156_11 mo156 fl11_17 (gfr_v hx3).1 ?_
  have r_x3 : x3 < n := by rw [← hn]; exact (gfr_v hx3).2
  obtain ⟨q4, hq4, h⟩ := Option.bind_eq_some_iff.mp h
  have gq4 := c155 (d := d') (by omega) F _ _ _ _ _ _ _ _ (by rw [hn]; exact r_x1) (by rw [hn]; exact r_x3) hq4
  refine Rn.cs (as := [.ref x1, .int 0, .int v1, .int x2, .ref x3]) (rr := []) n156_14 mo156 mm11_190 mq155 rfl rfl rfl rfl (Nat.le_of_ble_eq_true rfl) (by rw [hn]; exact (okc (okr r_x1) (okc rfl (okc rfl (okc rfl (okc (okr r_x3) okn)))))) (by rw [hn]; exact okn) (by rw [hn]; exact ok) (by rw [ml155]; exact Nat.le_of_ble_eq_true rfl) gq4 ?_
  have hn := (Rn.len gq4).trans hn
  show Rn _ 156 17 lv [] q4.2 c w _
  have e1 := (Prod.mk.inj (Option.some.inj h)).1
  have e2 := (Prod.mk.inj (Option.some.inj h)).2
  subst e1
  subst e2
  exact Rn.vret n156_17 mr156
def e156 (F : Nat) (a0 : Nat) (a1 : Int32) (hp : List mE) : Option (Unit × List mE) := m156_0 F a0 a1 hp
theorem c156 {d : Nat} (hd : 1 ≤ d) (F : Nat) (a0 : Nat) (a1 : Int32) (hp : List mE) (v : Unit) (hp' : List mE) (ra0 : a0 < hp.length) (h : e156 F a0 a1 hp = some (v, hp')) : Rn d 156 0 (lv_args 0 [.ref a0, .int a1]) [] hp 0 0 (none, hp', 0, 0) :=
  t156_0 (n := hp.length) hd F a0 a1 (lv_args 0 [.ref a0, .int a1]) hp v hp' rfl rfl (lvk_args (okc (okr ra0) (okc rfl okn))) rfl ra0 h
/-! MirrorRootsModel.isDown -/
def m157_35 (F : Nat) (rc5 : Nat → Int32 → Int32 → Int32 → Int32 → List mE → Option (Int32 × List mE)) (v0 : Nat) (v1 : Int32) (v2 : Int32) (v4 : Int32) (t0 : Int32) (hp : List mE) : Option (Int32 × List mE) :=
  rc5 v0 v1 v2 t0 (v4 + 1) hp
theorem t157_35 {d c w n : Nat} (hd : 0 ≤ d) (F : Nat) {rc5 : Nat → Int32 → Int32 → Int32 → Int32 → List mE → Option (Int32 × List mE)} (hr5 : ∀ (v0 : Nat) (v1 : Int32) (v2 : Int32) (v3 : Int32) (v4 : Int32) (lv : List (Nat × Value)) (hp : List mE) (v : Int32) (hp' : List mE), alk 0 lv = some (.ref v0) → alk 1 lv = some (.int v1) → alk 2 lv = some (.int v2) → alk 3 lv = some (.int v3) → alk 4 lv = some (.int v4) → lvk n lv → hp.length = n → v0 < n → rc5 v0 v1 v2 v3 v4 hp = some (v, hp') → Rn d 157 5 lv [] hp c w (some (.int v), hp', c, w)) : ∀ (v0 : Nat) (v1 : Int32) (v2 : Int32) (v4 : Int32) (t0 : Int32) (lv : List (Nat × Value)) (hp : List mE) (v : Int32) (hp' : List mE), alk 0 lv = some (.ref v0) → alk 1 lv = some (.int v1) → alk 2 lv = some (.int v2) → alk 4 lv = some (.int v4) → lvk n lv → hp.length = n → v0 < n → m157_35 F rc5 v0 v1 v2 v4 t0 hp = some (v, hp') → Rn d 157 35 lv [.int t0] hp c w (some (.int v), hp', c, w) := by
  intro v0 v1 v2 v4 t0 lv hp v hp' l0 l1 l2 l4 ok hn r_v0 h
  unfold m157_35 at h
  refine Rn.isn (m := n) n157_35 rfl ml157 (by decide) (fun lv l3 hk hok => ?_)
  have l0 := hk 0 _ (by decide) (Or.inl rfl) l0
  have l1 := hk 1 _ (by decide) (Or.inl rfl) l1
  have l2 := hk 2 _ (by decide) (Or.inl rfl) l2
  have l4 := hk 4 _ (by decide) (Or.inl rfl) l4
  have ok := hok ok
  refine Rn.ii (m := n) (u := 1) n157_36 ml157 (by decide) (by decide) l4 (fun lv l4 hk hok => ?_)
  have l0 := hk 0 _ (by decide) (Or.inl rfl) l0
  have l1 := hk 1 _ (by decide) (Or.inl rfl) l1
  have l2 := hk 2 _ (by decide) (Or.inl rfl) l2
  have l3 := hk 3 _ (by decide) (Or.inl rfl) l3
  have ok := hok ok
  refine Rn.goto (t := 5) n157_39 (by decide) ?_
  exact hr5 _ _ _ _ _ lv _ _ _ l0 l1 l2 l3 l4 ok hn r_v0  h
def m157_30 (F : Nat) (rc5 : Nat → Int32 → Int32 → Int32 → Int32 → List mE → Option (Int32 × List mE)) (v0 : Nat) (v1 : Int32) (v2 : Int32) (v4 : Int32) (hp : List mE) : Option (Int32 × List mE) :=
  m157_35 F rc5 v0 v1 v2 v4 1 hp
theorem t157_30 {d c w n : Nat} (hd : 0 ≤ d) (F : Nat) {rc5 : Nat → Int32 → Int32 → Int32 → Int32 → List mE → Option (Int32 × List mE)} (hr5 : ∀ (v0 : Nat) (v1 : Int32) (v2 : Int32) (v3 : Int32) (v4 : Int32) (lv : List (Nat × Value)) (hp : List mE) (v : Int32) (hp' : List mE), alk 0 lv = some (.ref v0) → alk 1 lv = some (.int v1) → alk 2 lv = some (.int v2) → alk 3 lv = some (.int v3) → alk 4 lv = some (.int v4) → lvk n lv → hp.length = n → v0 < n → rc5 v0 v1 v2 v3 v4 hp = some (v, hp') → Rn d 157 5 lv [] hp c w (some (.int v), hp', c, w)) : ∀ (v0 : Nat) (v1 : Int32) (v2 : Int32) (v4 : Int32) (lv : List (Nat × Value)) (hp : List mE) (v : Int32) (hp' : List mE), alk 0 lv = some (.ref v0) → alk 1 lv = some (.int v1) → alk 2 lv = some (.int v2) → alk 4 lv = some (.int v4) → lvk n lv → hp.length = n → v0 < n → m157_30 F rc5 v0 v1 v2 v4 hp = some (v, hp') → Rn d 157 30 lv [] hp c w (some (.int v), hp', c, w) := by
  intro v0 v1 v2 v4 lv hp v hp' l0 l1 l2 l4 ok hn r_v0 h
  unfold m157_30 at h
  refine Rn.ic (v := 1) n157_30 (by decide) ?_
  refine Rn.goto (t := 35) n157_31 (by decide) ?_
  exact t157_35 hd F hr5 _ _ _ _ _ lv _ _ _ l0 l1 l2 l4 ok hn r_v0  h
def m157_5 (F : Nat) : Nat → Nat → Int32 → Int32 → Int32 → Int32 → List mE → Option (Int32 × List mE)
  | 0, _, _, _, _, _, _ => none
  | f + 1, v0, v1, v2, v3, v4, hp =>
    if mc2 .ge v4 5 = true then
      if v3 = 0 ∨ v3 = 1 then some (v3, hp) else none
    else
      if mc1 .ne v3 = true then
        m157_30 F (m157_5 F f) v0 v1 v2 v4 hp
      else
        (rdJ hp v0 ((v1 + (5 * v2)) + v4)).bind fun x4 =>
        if mc1 .ge (lg_cmp x4 0) = true then
          m157_35 F (m157_5 F f) v0 v1 v2 v4 0 hp
        else
          m157_30 F (m157_5 F f) v0 v1 v2 v4 hp
theorem t157_5 {d c w n : Nat} (hd : 0 ≤ d) (F : Nat) : ∀ f : Nat, ∀ (v0 : Nat) (v1 : Int32) (v2 : Int32) (v3 : Int32) (v4 : Int32) (lv : List (Nat × Value)) (hp : List mE) (v : Int32) (hp' : List mE), alk 0 lv = some (.ref v0) → alk 1 lv = some (.int v1) → alk 2 lv = some (.int v2) → alk 3 lv = some (.int v3) → alk 4 lv = some (.int v4) → lvk n lv → hp.length = n → v0 < n → m157_5 F f v0 v1 v2 v3 v4 hp = some (v, hp') → Rn d 157 5 lv [] hp c w (some (.int v), hp', c, w) := by
  intro f
  induction f with
  | zero => intro v0 v1 v2 v3 v4 lv hp v hp' l0 l1 l2 l3 l4 ok hn r_v0 h; cases h
  | succ f hr5 =>
    intro v0 v1 v2 v3 v4 lv hp v hp' l0 l1 l2 l3 l4 ok hn r_v0 h
    unfold m157_5 at h
    refine Rn.iload n157_5 l4 ?_
    refine Rn.ic (v := 5) n157_7 (by decide) ?_
    by_cases hc1 : mc2 .ge v4 5 = true
    · rw [if_pos hc1] at h
      refine Rn.c2t (t := 42) n157_8 (by decide) hc1 ?_
      refine Rn.iload_n n157_42 l3 ?_
      by_cases hz2 : v3 = 0 ∨ v3 = 1
      · rw [if_pos hz2] at h
        have e1 := (Prod.mk.inj (Option.some.inj h)).1
        have e2 := (Prod.mk.inj (Option.some.inj h)).2
        subst e1
        subst e2
        exact Rn.zret n157_43 mr157 hz2
      · rw [if_neg hz2] at h; cases h
    · rw [if_neg hc1] at h
      refine Rn.c2f (t := 42) n157_8 (by decide) hc1 ?_
      refine Rn.iload_n n157_11 l3 ?_
      by_cases hc3 : mc1 .ne v3 = true
      · rw [if_pos hc3] at h
        refine Rn.c1t (t := 30) n157_12 (by decide) hc3 ?_
        exact t157_30 hd F hr5 _ _ _ _ lv _ _ _ l0 l1 l2 l4 ok hn r_v0  h
      · rw [if_neg hc3] at h
        refine Rn.c1f (t := 30) n157_12 (by decide) hc3 ?_
        refine Rn.aload_n n157_15 l0 ?_
        refine Rn.iload_n n157_16 l1 ?_
        refine Rn.ic (v := 5) n157_17 (by decide) ?_
        refine Rn.iload_n n157_18 l2 ?_
        refine Rn.p n157_19 rfl ?_
        refine Rn.p n157_20 rfl ?_
        refine Rn.iload n157_21 l4 ?_
        refine Rn.p n157_23 rfl ?_
        obtain ⟨x4, hx4, h⟩ := Option.bind_eq_some_iff.mp h
        refine Rn.lald n157_24 hx4 ?_
        refine Rn.lc (v := 0) n157_25 (by decide) ?_
        refine Rn.p n157_26 rfl ?_
        by_cases hc5 : mc1 .ge (lg_cmp x4 0) = true
        · rw [if_pos hc5] at h
          refine Rn.c1t (t := 34) n157_27 (by decide) hc5 ?_
          refine Rn.ic (v := 0) n157_34 (by decide) ?_
          exact t157_35 hd F hr5 _ _ _ _ _ lv _ _ _ l0 l1 l2 l4 ok hn r_v0  h
        · rw [if_neg hc5] at h
          refine Rn.c1f (t := 34) n157_27 (by decide) hc5 ?_
          exact t157_30 hd F hr5 _ _ _ _ lv _ _ _ l0 l1 l2 l4 ok hn r_v0  h
def m157_0 (F : Nat) (v0 : Nat) (v1 : Int32) (v2 : Int32) (hp : List mE) : Option (Int32 × List mE) :=
  m157_5 F F v0 v1 v2 0 0 hp
theorem t157_0 {d c w n : Nat} (hd : 0 ≤ d) (F : Nat) : ∀ (v0 : Nat) (v1 : Int32) (v2 : Int32) (lv : List (Nat × Value)) (hp : List mE) (v : Int32) (hp' : List mE), alk 0 lv = some (.ref v0) → alk 1 lv = some (.int v1) → alk 2 lv = some (.int v2) → lvk n lv → hp.length = n → v0 < n → m157_0 F v0 v1 v2 hp = some (v, hp') → Rn d 157 0 lv [] hp c w (some (.int v), hp', c, w) := by
  intro v0 v1 v2 lv hp v hp' l0 l1 l2 ok hn r_v0 h
  unfold m157_0 at h
  refine Rn.ic (v := 0) n157_0 (by decide) ?_
  refine Rn.isn (m := n) n157_1 rfl ml157 (by decide) (fun lv l3 hk hok => ?_)
  have l0 := hk 0 _ (by decide) (Or.inl rfl) l0
  have l1 := hk 1 _ (by decide) (Or.inl rfl) l1
  have l2 := hk 2 _ (by decide) (Or.inl rfl) l2
  have ok := hok ok
  refine Rn.ic (v := 0) n157_2 (by decide) ?_
  refine Rn.is (m := n) n157_3 ml157 (by decide) (fun lv l4 hk hok => ?_)
  have l0 := hk 0 _ (by decide) (Or.inl rfl) l0
  have l1 := hk 1 _ (by decide) (Or.inl rfl) l1
  have l2 := hk 2 _ (by decide) (Or.inl rfl) l2
  have l3 := hk 3 _ (by decide) (Or.inl rfl) l3
  have ok := hok ok
  exact t157_5 hd F  F _ _ _ _ _ lv _ _ _ l0 l1 l2 l3 l4 ok hn r_v0  h
def e157 (F : Nat) (a0 : Nat) (a1 : Int32) (a2 : Int32) (hp : List mE) : Option (Int32 × List mE) := m157_0 F a0 a1 a2 hp
theorem c157 {d : Nat} (hd : 0 ≤ d) (F : Nat) (a0 : Nat) (a1 : Int32) (a2 : Int32) (hp : List mE) (v : Int32) (hp' : List mE) (ra0 : a0 < hp.length) (h : e157 F a0 a1 a2 hp = some (v, hp')) : Rn d 157 0 (lv_args 0 [.ref a0, .int a1, .int a2]) [] hp 0 0 (some (.int v), hp', 0, 0) :=
  t157_0 (n := hp.length) hd F a0 a1 a2 (lv_args 0 [.ref a0, .int a1, .int a2]) hp v hp' rfl rfl rfl (lvk_args (okc (okr ra0) (okc rfl (okc rfl okn)))) rfl ra0 h
/-! MirrorRootsModel.leastDown -/
def m158_2 (F : Nat) : Nat → Nat → Int32 → List mE → Option (Int32 × List mE)
  | 0, _, _, _ => none
  | f + 1, v0, v1, hp =>
    (gfi 11 0 hp v0).bind fun x1 =>
    if mc2 .ge v1 x1 = true then
      some ((-1), hp)
    else
      (gfr 11 13 hp v0).bind fun x3 =>
      (e157 F x3 0 v1 hp).bind fun q4 =>
      if mc1 .eq q4.1 = true then
        m158_2 F f v0 (v1 + 1) q4.2
      else
        some (v1, q4.2)
theorem t158_2 {d c w n : Nat} (hd : 1 ≤ d) (F : Nat) : ∀ f : Nat, ∀ (v0 : Nat) (v1 : Int32) (lv : List (Nat × Value)) (hp : List mE) (v : Int32) (hp' : List mE), alk 0 lv = some (.ref v0) → alk 1 lv = some (.int v1) → lvk n lv → hp.length = n → v0 < n → m158_2 F f v0 v1 hp = some (v, hp') → Rn d 158 2 lv [] hp c w (some (.int v), hp', c, w) := by
  obtain ⟨d', rfl⟩ : ∃ d', d = d' + 1 := ⟨d - 1, by omega⟩
  intro f
  induction f with
  | zero => intro v0 v1 lv hp v hp' l0 l1 ok hn r_v0 h; cases h
  | succ f hr2 =>
    intro v0 v1 lv hp v hp' l0 l1 ok hn r_v0 h
    unfold m158_2 at h
    refine Rn.iload_n n158_2 l1 ?_
    refine Rn.aload_n n158_3 l0 ?_
    obtain ⟨x1, hx1, h⟩ := Option.bind_eq_some_iff.mp h
    refine Rn.gf n158_4 mo158 fl11_7 (gfi_v hx1) ?_
    by_cases hc2 : mc2 .ge v1 x1 = true
    · rw [if_pos hc2] at h
      refine Rn.c2t (t := 30) n158_7 (by decide) hc2 ?_
      refine Rn.ic (v := (-1)) n158_30 (by decide) ?_
      have e1 := (Prod.mk.inj (Option.some.inj h)).1
      have e2 := (Prod.mk.inj (Option.some.inj h)).2
      subst e1
      subst e2
      exact Rn.iret n158_31 mr158
    · rw [if_neg hc2] at h
      refine Rn.c2f (t := 30) n158_7 (by decide) hc2 ?_
      refine Rn.aload_n n158_10 l0 ?_
      obtain ⟨x3, hx3, h⟩ := Option.bind_eq_some_iff.mp h
      refine Rn.gf n158_11 mo158 fl11_33 (gfr_v hx3).1 ?_
      have r_x3 : x3 < n := by rw [← hn]; exact (gfr_v hx3).2
      refine Rn.ic (v := 0) n158_14 (by decide) ?_
      refine Rn.iload_n n158_15 l1 ?_
      obtain ⟨q4, hq4, h⟩ := Option.bind_eq_some_iff.mp h
      have gq4 := c157 (d := d') (by omega) F _ _ _ _ _ _ (by rw [hn]; exact r_x3) hq4
      refine Rn.cs (as := [.ref x3, .int 0, .int v1]) (rr := []) n158_16 mo158 mm11_194 mq157 rfl rfl rfl rfl (Nat.le_of_ble_eq_true rfl) (by rw [hn]; exact (okc (okr r_x3) (okc rfl (okc rfl okn)))) (by rw [hn]; exact okn) (by rw [hn]; exact ok) (by rw [ml157]; exact Nat.le_of_ble_eq_true rfl) gq4 ?_
      have hn := (Rn.len gq4).trans hn
      show Rn _ 158 19 lv [.int q4.1] q4.2 c w _
      by_cases hc5 : mc1 .eq q4.1 = true
      · rw [if_pos hc5] at h
        refine Rn.c1t (t := 24) n158_19 (by decide) hc5 ?_
        refine Rn.ii (m := n) (u := 1) n158_24 ml158 (by decide) (by decide) l1 (fun lv l1 hk hok => ?_)
        have l0 := hk 0 _ (by decide) (Or.inl rfl) l0
        have ok := hok ok
        refine Rn.goto (t := 2) n158_27 (by decide) ?_
        exact hr2 _ _ lv _ _ _ l0 l1 ok hn r_v0  h
      · rw [if_neg hc5] at h
        refine Rn.c1f (t := 24) n158_19 (by decide) hc5 ?_
        refine Rn.iload_n n158_22 l1 ?_
        have e1 := (Prod.mk.inj (Option.some.inj h)).1
        have e2 := (Prod.mk.inj (Option.some.inj h)).2
        subst e1
        subst e2
        exact Rn.iret n158_23 mr158
def m158_0 (F : Nat) (v0 : Nat) (hp : List mE) : Option (Int32 × List mE) :=
  m158_2 F F v0 0 hp
theorem t158_0 {d c w n : Nat} (hd : 1 ≤ d) (F : Nat) : ∀ (v0 : Nat) (lv : List (Nat × Value)) (hp : List mE) (v : Int32) (hp' : List mE), alk 0 lv = some (.ref v0) → lvk n lv → hp.length = n → v0 < n → m158_0 F v0 hp = some (v, hp') → Rn d 158 0 lv [] hp c w (some (.int v), hp', c, w) := by
  obtain ⟨d', rfl⟩ : ∃ d', d = d' + 1 := ⟨d - 1, by omega⟩
  intro v0 lv hp v hp' l0 ok hn r_v0 h
  unfold m158_0 at h
  refine Rn.ic (v := 0) n158_0 (by decide) ?_
  refine Rn.isn (m := n) n158_1 rfl ml158 (by decide) (fun lv l1 hk hok => ?_)
  have l0 := hk 0 _ (by decide) (Or.inl rfl) l0
  have ok := hok ok
  exact t158_2 hd F  F _ _ lv _ _ _ l0 l1 ok hn r_v0  h
def e158 (F : Nat) (a0 : Nat) (hp : List mE) : Option (Int32 × List mE) := m158_0 F a0 hp
theorem c158 {d : Nat} (hd : 1 ≤ d) (F : Nat) (a0 : Nat) (hp : List mE) (v : Int32) (hp' : List mE) (ra0 : a0 < hp.length) (h : e158 F a0 hp = some (v, hp')) : Rn d 158 0 (lv_args 0 [.ref a0]) [] hp 0 0 (some (.int v), hp', 0, 0) :=
  t158_0 (n := hp.length) hd F a0 (lv_args 0 [.ref a0]) hp v hp' rfl (lvk_args (okc (okr ra0) okn)) rfl ra0 h
/-! MirrorRootsModel.shorten -/
def m159_41 (F : Nat) : Nat → Nat → Int32 → List mE → Option (Unit × List mE)
  | 0, _, _, _ => none
  | f + 1, v0, v1, hp =>
    if mc1 .lt v1 = true then
      some ((), hp)
    else
      (gfr 11 14 hp v0).bind fun x2 =>
      (gfi 11 15 hp v0).bind fun x3 =>
      (wrI hp x2 x3 v1).bind fun hp4 =>
      (gfi 11 15 hp4 v0).bind fun x5 =>
      (pfv 11 15 hp4 v0 (.int (x5 + 1))).bind fun hp6 =>
      (rcv 11 hp6 v0).bind fun u8 =>
      (e156 F v0 v1 hp6).bind fun q7 =>
      (rcv 11 q7.2 v0).bind fun u10 =>
      (e158 F v0 q7.2).bind fun q9 =>
      m159_41 F f v0 q9.1 q9.2
theorem t159_41 {d c w n : Nat} (hd : 2 ≤ d) (F : Nat) : ∀ f : Nat, ∀ (v0 : Nat) (v1 : Int32) (lv : List (Nat × Value)) (hp : List mE) (v : Unit) (hp' : List mE), alk 0 lv = some (.ref v0) → alk 1 lv = some (.int v1) → lvk n lv → hp.length = n → v0 < n → m159_41 F f v0 v1 hp = some (v, hp') → Rn d 159 41 lv [] hp c w (none, hp', c, w) := by
  obtain ⟨d', rfl⟩ : ∃ d', d = d' + 1 := ⟨d - 1, by omega⟩
  intro f
  induction f with
  | zero => intro v0 v1 lv hp v hp' l0 l1 ok hn r_v0 h; cases h
  | succ f hr41 =>
    intro v0 v1 lv hp v hp' l0 l1 ok hn r_v0 h
    unfold m159_41 at h
    refine Rn.iload_n n159_41 l1 ?_
    by_cases hc1 : mc1 .lt v1 = true
    · rw [if_pos hc1] at h
      refine Rn.c1t (t := 78) n159_42 (by decide) hc1 ?_
      have e1 := (Prod.mk.inj (Option.some.inj h)).1
      have e2 := (Prod.mk.inj (Option.some.inj h)).2
      subst e1
      subst e2
      exact Rn.vret n159_78 mr159
    · rw [if_neg hc1] at h
      refine Rn.c1f (t := 78) n159_42 (by decide) hc1 ?_
      refine Rn.aload_n n159_45 l0 ?_
      obtain ⟨x2, hx2, h⟩ := Option.bind_eq_some_iff.mp h
      refine Rn.gf n159_46 mo159 fl11_37 (gfr_v hx2).1 ?_
      have r_x2 : x2 < n := by rw [← hn]; exact (gfr_v hx2).2
      refine Rn.aload_n n159_49 l0 ?_
      obtain ⟨x3, hx3, h⟩ := Option.bind_eq_some_iff.mp h
      refine Rn.gf n159_50 mo159 fl11_201 (gfi_v hx3) ?_
      refine Rn.iload_n n159_53 l1 ?_
      obtain ⟨hp4, hhp4, h⟩ := Option.bind_eq_some_iff.mp h
      refine Rn.iast n159_54 hhp4 ?_
      have hn := (wrI_st (st := []) hhp4).2.trans hn
      refine Rn.aload_n n159_55 l0 ?_
      refine Rn.p n159_56 rfl ?_
      obtain ⟨x5, hx5, h⟩ := Option.bind_eq_some_iff.mp h
      refine Rn.gf n159_57 mo159 fl11_201 (gfi_v hx5) ?_
      refine Rn.ic (v := 1) n159_60 (by decide) ?_
      refine Rn.p n159_61 rfl ?_
      obtain ⟨hp6, hhp6, h⟩ := Option.bind_eq_some_iff.mp h
      refine Rn.pf n159_62 mo159 fl11_201 ft11_15 rfl ff11_15 (fun _ _ hh => by cases hh) hhp6 ?_
      have hn := (pfv_len hhp6).trans hn
      refine Rn.aload_n n159_65 l0 ?_
      refine Rn.iload_n n159_66 l1 ?_
      obtain ⟨u8, hu8, h⟩ := Option.bind_eq_some_iff.mp h
      obtain ⟨q7, hq7, h⟩ := Option.bind_eq_some_iff.mp h
      have gq7 := c156 (d := d') (by omega) F _ _ _ _ _ (by rw [hn]; exact r_v0) hq7
      refine Rn.cv (As := [.int v1]) (rr := []) n159_67 mo159 mm11_204 (by decide) mq156 rfl rfl rfl rfl (by rw [mo156]; exact hu8) (Nat.le_of_ble_eq_true rfl) (by rw [hn]; exact (okc (okr r_v0) (okc rfl okn))) (by rw [hn]; exact okn) (by rw [hn]; exact ok) (by rw [ml156]; exact Nat.le_of_ble_eq_true rfl) gq7 ?_
      have hn := (Rn.len gq7).trans hn
      show Rn _ 159 70 lv [] q7.2 c w _
      refine Rn.aload_n n159_70 l0 ?_
      obtain ⟨u10, hu10, h⟩ := Option.bind_eq_some_iff.mp h
      obtain ⟨q9, hq9, h⟩ := Option.bind_eq_some_iff.mp h
      have gq9 := c158 (d := d') (by omega) F _ _ _ _ (by rw [hn]; exact r_v0) hq9
      refine Rn.cv (As := []) (rr := []) n159_71 mo159 mm11_207 (by decide) mq158 rfl rfl rfl rfl (by rw [mo158]; exact hu10) (Nat.le_of_ble_eq_true rfl) (by rw [hn]; exact (okc (okr r_v0) okn)) (by rw [hn]; exact okn) (by rw [hn]; exact ok) (by rw [ml158]; exact Nat.le_of_ble_eq_true rfl) gq9 ?_
      have hn := (Rn.len gq9).trans hn
      show Rn _ 159 74 lv [.int q9.1] q9.2 c w _
      refine Rn.isn (m := n) n159_74 rfl ml159 (by decide) (fun lv l1 hk hok => ?_)
      have l0 := hk 0 _ (by decide) (Or.inl rfl) l0
      have ok := hok ok
      refine Rn.goto (t := 41) n159_75 (by decide) ?_
      exact hr41 _ _ lv _ _ _ l0 l1 ok hn r_v0  h
def m159_11 (F : Nat) : Nat → Nat → Int32 → List mE → Option (Unit × List mE)
  | 0, _, _, _ => none
  | f + 1, v0, v1, hp =>
    if mc1 .lt v1 = true then
      (pfv 11 15 hp v0 (.int 0)).bind fun hp2 =>
      (rcv 11 hp2 v0).bind fun u4 =>
      (e158 F v0 hp2).bind fun q3 =>
      m159_41 F F v0 q3.1 q3.2
    else
      (gfr 11 14 hp v0).bind fun x5 =>
      (rdI hp x5 v1).bind fun x6 =>
      (rcv 11 hp v0).bind fun u8 =>
      (e156 F v0 x6 hp).bind fun q7 =>
      m159_11 F f v0 (v1 + (-1)) q7.2
theorem t159_11 {d c w n : Nat} (hd : 2 ≤ d) (F : Nat) : ∀ f : Nat, ∀ (v0 : Nat) (v1 : Int32) (lv : List (Nat × Value)) (hp : List mE) (v : Unit) (hp' : List mE), alk 0 lv = some (.ref v0) → alk 1 lv = some (.int v1) → lvk n lv → hp.length = n → v0 < n → m159_11 F f v0 v1 hp = some (v, hp') → Rn d 159 11 lv [] hp c w (none, hp', c, w) := by
  obtain ⟨d', rfl⟩ : ∃ d', d = d' + 1 := ⟨d - 1, by omega⟩
  intro f
  induction f with
  | zero => intro v0 v1 lv hp v hp' l0 l1 ok hn r_v0 h; cases h
  | succ f hr11 =>
    intro v0 v1 lv hp v hp' l0 l1 ok hn r_v0 h
    unfold m159_11 at h
    refine Rn.iload_n n159_11 l1 ?_
    by_cases hc1 : mc1 .lt v1 = true
    · rw [if_pos hc1] at h
      refine Rn.c1t (t := 31) n159_12 (by decide) hc1 ?_
      refine Rn.aload_n n159_31 l0 ?_
      refine Rn.ic (v := 0) n159_32 (by decide) ?_
      obtain ⟨hp2, hhp2, h⟩ := Option.bind_eq_some_iff.mp h
      refine Rn.pf n159_33 mo159 fl11_201 ft11_15 rfl ff11_15 (fun _ _ hh => by cases hh) hhp2 ?_
      have hn := (pfv_len hhp2).trans hn
      refine Rn.aload_n n159_36 l0 ?_
      obtain ⟨u4, hu4, h⟩ := Option.bind_eq_some_iff.mp h
      obtain ⟨q3, hq3, h⟩ := Option.bind_eq_some_iff.mp h
      have gq3 := c158 (d := d') (by omega) F _ _ _ _ (by rw [hn]; exact r_v0) hq3
      refine Rn.cv (As := []) (rr := []) n159_37 mo159 mm11_207 (by decide) mq158 rfl rfl rfl rfl (by rw [mo158]; exact hu4) (Nat.le_of_ble_eq_true rfl) (by rw [hn]; exact (okc (okr r_v0) okn)) (by rw [hn]; exact okn) (by rw [hn]; exact ok) (by rw [ml158]; exact Nat.le_of_ble_eq_true rfl) gq3 ?_
      have hn := (Rn.len gq3).trans hn
      show Rn _ 159 40 lv [.int q3.1] q3.2 c w _
      refine Rn.isn (m := n) n159_40 rfl ml159 (by decide) (fun lv l1 hk hok => ?_)
      have l0 := hk 0 _ (by decide) (Or.inl rfl) l0
      have ok := hok ok
      exact t159_41 hd F  F _ _ lv _ _ _ l0 l1 ok hn r_v0  h
    · rw [if_neg hc1] at h
      refine Rn.c1f (t := 31) n159_12 (by decide) hc1 ?_
      refine Rn.aload_n n159_15 l0 ?_
      refine Rn.aload_n n159_16 l0 ?_
      obtain ⟨x5, hx5, h⟩ := Option.bind_eq_some_iff.mp h
      refine Rn.gf n159_17 mo159 fl11_37 (gfr_v hx5).1 ?_
      have r_x5 : x5 < n := by rw [← hn]; exact (gfr_v hx5).2
      refine Rn.iload_n n159_20 l1 ?_
      obtain ⟨x6, hx6, h⟩ := Option.bind_eq_some_iff.mp h
      refine Rn.iald n159_21 hx6 ?_
      obtain ⟨u8, hu8, h⟩ := Option.bind_eq_some_iff.mp h
      obtain ⟨q7, hq7, h⟩ := Option.bind_eq_some_iff.mp h
      have gq7 := c156 (d := d') (by omega) F _ _ _ _ _ (by rw [hn]; exact r_v0) hq7
      refine Rn.cv (As := [.int x6]) (rr := []) n159_22 mo159 mm11_204 (by decide) mq156 rfl rfl rfl rfl (by rw [mo156]; exact hu8) (Nat.le_of_ble_eq_true rfl) (by rw [hn]; exact (okc (okr r_v0) (okc rfl okn))) (by rw [hn]; exact okn) (by rw [hn]; exact ok) (by rw [ml156]; exact Nat.le_of_ble_eq_true rfl) gq7 ?_
      have hn := (Rn.len gq7).trans hn
      show Rn _ 159 25 lv [] q7.2 c w _
      refine Rn.ii (m := n) (u := (-1)) n159_25 ml159 (by decide) (by decide) l1 (fun lv l1 hk hok => ?_)
      have l0 := hk 0 _ (by decide) (Or.inl rfl) l0
      have ok := hok ok
      refine Rn.goto (t := 11) n159_28 (by decide) ?_
      exact hr11 _ _ lv _ _ _ l0 l1 ok hn r_v0  h
def m159_0 (F : Nat) (v0 : Nat) (hp : List mE) : Option (Unit × List mE) :=
  (rcv 11 hp v0).bind fun u2 =>
  (e154 F v0 hp).bind fun q1 =>
  (gfi 11 15 q1.2 v0).bind fun x3 =>
  m159_11 F F v0 (x3 - 1) q1.2
theorem t159_0 {d c w n : Nat} (hd : 2 ≤ d) (F : Nat) : ∀ (v0 : Nat) (lv : List (Nat × Value)) (hp : List mE) (v : Unit) (hp' : List mE), alk 0 lv = some (.ref v0) → lvk n lv → hp.length = n → v0 < n → m159_0 F v0 hp = some (v, hp') → Rn d 159 0 lv [] hp c w (none, hp', c, w) := by
  obtain ⟨d', rfl⟩ : ∃ d', d = d' + 1 := ⟨d - 1, by omega⟩
  intro v0 lv hp v hp' l0 ok hn r_v0 h
  unfold m159_0 at h
  refine Rn.aload_n n159_0 l0 ?_
  obtain ⟨u2, hu2, h⟩ := Option.bind_eq_some_iff.mp h
  obtain ⟨q1, hq1, h⟩ := Option.bind_eq_some_iff.mp h
  have gq1 := c154 (d := d') (by omega) F _ _ _ _ (by rw [hn]; exact r_v0) hq1
  refine Rn.cv (As := []) (rr := []) n159_1 mo159 mm11_198 (by decide) mq154 rfl rfl rfl rfl (by rw [mo154]; exact hu2) (Nat.le_of_ble_eq_true rfl) (by rw [hn]; exact (okc (okr r_v0) okn)) (by rw [hn]; exact okn) (by rw [hn]; exact ok) (by rw [ml154]; exact Nat.le_of_ble_eq_true rfl) gq1 ?_
  have hn := (Rn.len gq1).trans hn
  show Rn _ 159 4 lv [] q1.2 c w _
  refine Rn.aload_n n159_4 l0 ?_
  obtain ⟨x3, hx3, h⟩ := Option.bind_eq_some_iff.mp h
  refine Rn.gf n159_5 mo159 fl11_201 (gfi_v hx3) ?_
  refine Rn.ic (v := 1) n159_8 (by decide) ?_
  refine Rn.p n159_9 rfl ?_
  refine Rn.isn (m := n) n159_10 rfl ml159 (by decide) (fun lv l1 hk hok => ?_)
  have l0 := hk 0 _ (by decide) (Or.inl rfl) l0
  have ok := hok ok
  exact t159_11 hd F  F _ _ lv _ _ _ l0 l1 ok hn r_v0  h
def e159 (F : Nat) (a0 : Nat) (hp : List mE) : Option (Unit × List mE) := m159_0 F a0 hp
theorem c159 {d : Nat} (hd : 2 ≤ d) (F : Nat) (a0 : Nat) (hp : List mE) (v : Unit) (hp' : List mE) (ra0 : a0 < hp.length) (h : e159 F a0 hp = some (v, hp')) : Rn d 159 0 (lv_args 0 [.ref a0]) [] hp 0 0 (none, hp', 0, 0) :=
  t159_0 (n := hp.length) hd F a0 (lv_args 0 [.ref a0]) hp v hp' rfl (lvk_args (okc (okr ra0) okn)) rfl ra0 h
/-! MirrorRootsModel.isElement -/
def m160_0 (F : Nat) (v0 : Nat) (v1 : Int32) (hp : List mE) : Option (Int32 × List mE) :=
  (gfi 11 16 hp v0).bind fun x1 =>
  (e137 F v1.toInt64 0 ((x1 - 1).toInt64) hp).bind fun q2 =>
  if q2.1 = 0 ∨ q2.1 = 1 then some (q2.1, q2.2) else none
theorem t160_0 {d c w n : Nat} (hd : 1 ≤ d) (F : Nat) : ∀ (v0 : Nat) (v1 : Int32) (lv : List (Nat × Value)) (hp : List mE) (v : Int32) (hp' : List mE), alk 0 lv = some (.ref v0) → alk 1 lv = some (.int v1) → lvk n lv → hp.length = n → v0 < n → m160_0 F v0 v1 hp = some (v, hp') → Rn d 160 0 lv [] hp c w (some (.int v), hp', c, w) := by
  obtain ⟨d', rfl⟩ : ∃ d', d = d' + 1 := ⟨d - 1, by omega⟩
  intro v0 v1 lv hp v hp' l0 l1 ok hn r_v0 h
  unfold m160_0 at h
  refine Rn.iload_n n160_0 l1 ?_
  refine Rn.p n160_1 rfl ?_
  refine Rn.lc (v := 0) n160_2 (by decide) ?_
  refine Rn.aload_n n160_3 l0 ?_
  obtain ⟨x1, hx1, h⟩ := Option.bind_eq_some_iff.mp h
  refine Rn.gf n160_4 mo160 fl11_108 (gfi_v hx1) ?_
  refine Rn.ic (v := 1) n160_7 (by decide) ?_
  refine Rn.p n160_8 rfl ?_
  refine Rn.p n160_9 rfl ?_
  obtain ⟨q2, hq2, h⟩ := Option.bind_eq_some_iff.mp h
  have gq2 := c137 (d := d') (by omega) F _ _ _ _ _ _  hq2
  refine Rn.cs (as := [.long v1.toInt64, .long 0, .long ((x1 - 1).toInt64)]) (rr := []) n160_10 mo160 mm11_116 mq137 rfl rfl rfl rfl (Nat.le_of_ble_eq_true rfl) (by rw [hn]; exact (okc rfl (okc rfl (okc rfl okn)))) (by rw [hn]; exact okn) (by rw [hn]; exact ok) (by rw [ml137]; exact Nat.le_of_ble_eq_true rfl) gq2 ?_
  have hn := (Rn.len gq2).trans hn
  show Rn _ 160 13 lv [.int q2.1] q2.2 c w _
  by_cases hz3 : q2.1 = 0 ∨ q2.1 = 1
  · rw [if_pos hz3] at h
    have e1 := (Prod.mk.inj (Option.some.inj h)).1
    have e2 := (Prod.mk.inj (Option.some.inj h)).2
    subst e1
    subst e2
    exact Rn.zret n160_13 mr160 hz3
  · rw [if_neg hz3] at h; cases h
def e160 (F : Nat) (a0 : Nat) (a1 : Int32) (hp : List mE) : Option (Int32 × List mE) := m160_0 F a0 a1 hp
theorem c160 {d : Nat} (hd : 1 ≤ d) (F : Nat) (a0 : Nat) (a1 : Int32) (hp : List mE) (v : Int32) (hp' : List mE) (ra0 : a0 < hp.length) (h : e160 F a0 a1 hp = some (v, hp')) : Rn d 160 0 (lv_args 0 [.ref a0, .int a1]) [] hp 0 0 (some (.int v), hp', 0, 0) :=
  t160_0 (n := hp.length) hd F a0 a1 (lv_args 0 [.ref a0, .int a1]) hp v hp' rfl rfl (lvk_args (okc (okr ra0) (okc rfl okn))) rfl ra0 h
/-! MirrorRootsModel.letter -/
def m161_0 (F : Nat) (v0 : Nat) (v1 : Int32) (hp : List mE) : Option (Int32 × List mE) :=
  (rcv 11 hp v0).bind fun u2 =>
  (e150 F v0 v1 hp).bind fun q1 =>
  if mc1 .ne q1.1 = true then
    (gfi 11 19 q1.2 v0).bind fun x4 =>
    if mc2 .ne x4 20 = true then
      (gfr 11 20 q1.2 v0).bind fun x6 =>
      (gfi 11 19 q1.2 v0).bind fun x7 =>
      (wrI q1.2 x6 x7 v1).bind fun hp8 =>
      (gfi 11 19 hp8 v0).bind fun x9 =>
      (pfv 11 19 hp8 v0 (.int (x9 + 1))).bind fun hp10 =>
      (gfi 11 19 hp10 v0).bind fun x11 =>
      some (x11, hp10)
    else
      some ((-1004), q1.2)
  else
    some ((-1002), q1.2)
theorem t161_0 {d c w n : Nat} (hd : 2 ≤ d) (F : Nat) : ∀ (v0 : Nat) (v1 : Int32) (lv : List (Nat × Value)) (hp : List mE) (v : Int32) (hp' : List mE), alk 0 lv = some (.ref v0) → alk 1 lv = some (.int v1) → lvk n lv → hp.length = n → v0 < n → m161_0 F v0 v1 hp = some (v, hp') → Rn d 161 0 lv [] hp c w (some (.int v), hp', c, w) := by
  obtain ⟨d', rfl⟩ : ∃ d', d = d' + 1 := ⟨d - 1, by omega⟩
  intro v0 v1 lv hp v hp' l0 l1 ok hn r_v0 h
  unfold m161_0 at h
  refine Rn.aload_n n161_0 l0 ?_
  refine Rn.iload_n n161_1 l1 ?_
  obtain ⟨u2, hu2, h⟩ := Option.bind_eq_some_iff.mp h
  obtain ⟨q1, hq1, h⟩ := Option.bind_eq_some_iff.mp h
  have gq1 := c150 (d := d') (by omega) F _ _ _ _ _ (by rw [hn]; exact r_v0) hq1
  refine Rn.cv (As := [.int v1]) (rr := []) n161_2 mo161 mm11_186 (by decide) mq150 rfl rfl rfl rfl (by rw [mo150]; exact hu2) (Nat.le_of_ble_eq_true rfl) (by rw [hn]; exact (okc (okr r_v0) (okc rfl okn))) (by rw [hn]; exact okn) (by rw [hn]; exact ok) (by rw [ml150]; exact Nat.le_of_ble_eq_true rfl) gq1 ?_
  have hn := (Rn.len gq1).trans hn
  show Rn _ 161 5 lv [.int q1.1] q1.2 c w _
  by_cases hc3 : mc1 .ne q1.1 = true
  · rw [if_pos hc3] at h
    refine Rn.c1t (t := 12) n161_5 (by decide) hc3 ?_
    refine Rn.aload_n n161_12 l0 ?_
    obtain ⟨x4, hx4, h⟩ := Option.bind_eq_some_iff.mp h
    refine Rn.gf n161_13 mo161 fl11_111 (gfi_v hx4) ?_
    refine Rn.bp (v := 20) n161_16 (by decide) ?_
    by_cases hc5 : mc2 .ne x4 20 = true
    · rw [if_pos hc5] at h
      refine Rn.c2t (t := 25) n161_18 (by decide) hc5 ?_
      refine Rn.aload_n n161_25 l0 ?_
      obtain ⟨x6, hx6, h⟩ := Option.bind_eq_some_iff.mp h
      refine Rn.gf n161_26 mo161 fl11_46 (gfr_v hx6).1 ?_
      have r_x6 : x6 < n := by rw [← hn]; exact (gfr_v hx6).2
      refine Rn.aload_n n161_29 l0 ?_
      obtain ⟨x7, hx7, h⟩ := Option.bind_eq_some_iff.mp h
      refine Rn.gf n161_30 mo161 fl11_111 (gfi_v hx7) ?_
      refine Rn.iload_n n161_33 l1 ?_
      obtain ⟨hp8, hhp8, h⟩ := Option.bind_eq_some_iff.mp h
      refine Rn.iast n161_34 hhp8 ?_
      have hn := (wrI_st (st := []) hhp8).2.trans hn
      refine Rn.aload_n n161_35 l0 ?_
      refine Rn.p n161_36 rfl ?_
      obtain ⟨x9, hx9, h⟩ := Option.bind_eq_some_iff.mp h
      refine Rn.gf n161_37 mo161 fl11_111 (gfi_v hx9) ?_
      refine Rn.ic (v := 1) n161_40 (by decide) ?_
      refine Rn.p n161_41 rfl ?_
      obtain ⟨hp10, hhp10, h⟩ := Option.bind_eq_some_iff.mp h
      refine Rn.pf n161_42 mo161 fl11_111 ft11_19 rfl ff11_19 (fun _ _ hh => by cases hh) hhp10 ?_
      have hn := (pfv_len hhp10).trans hn
      refine Rn.aload_n n161_45 l0 ?_
      obtain ⟨x11, hx11, h⟩ := Option.bind_eq_some_iff.mp h
      refine Rn.gf n161_46 mo161 fl11_111 (gfi_v hx11) ?_
      have e1 := (Prod.mk.inj (Option.some.inj h)).1
      have e2 := (Prod.mk.inj (Option.some.inj h)).2
      subst e1
      subst e2
      exact Rn.iret n161_49 mr161
    · rw [if_neg hc5] at h
      refine Rn.c2f (t := 25) n161_18 (by decide) hc5 ?_
      refine Rn.sp (v := (-1004)) n161_21 (by decide) ?_
      have e1 := (Prod.mk.inj (Option.some.inj h)).1
      have e2 := (Prod.mk.inj (Option.some.inj h)).2
      subst e1
      subst e2
      exact Rn.iret n161_24 mr161
  · rw [if_neg hc3] at h
    refine Rn.c1f (t := 12) n161_5 (by decide) hc3 ?_
    refine Rn.sp (v := (-1002)) n161_8 (by decide) ?_
    have e1 := (Prod.mk.inj (Option.some.inj h)).1
    have e2 := (Prod.mk.inj (Option.some.inj h)).2
    subst e1
    subst e2
    exact Rn.iret n161_11 mr161
def e161 (F : Nat) (a0 : Nat) (a1 : Int32) (hp : List mE) : Option (Int32 × List mE) := m161_0 F a0 a1 hp
theorem c161 {d : Nat} (hd : 2 ≤ d) (F : Nat) (a0 : Nat) (a1 : Int32) (hp : List mE) (v : Int32) (hp' : List mE) (ra0 : a0 < hp.length) (h : e161 F a0 a1 hp = some (v, hp')) : Rn d 161 0 (lv_args 0 [.ref a0, .int a1]) [] hp 0 0 (some (.int v), hp', 0, 0) :=
  t161_0 (n := hp.length) hd F a0 a1 (lv_args 0 [.ref a0, .int a1]) hp v hp' rfl rfl (lvk_args (okc (okr ra0) (okc rfl okn))) rfl ra0 h
/-! MirrorRootsModel.isRow -/
def m162_65 (F : Nat) (v2 : Int32) (hp : List mE) : Option (Int32 × List mE) :=
  if v2 = 0 ∨ v2 = 1 then some (v2, hp) else none
theorem t162_65 {d c w n : Nat} (hd : 0 ≤ d) (F : Nat) : ∀ (v2 : Int32) (lv : List (Nat × Value)) (hp : List mE) (v : Int32) (hp' : List mE), alk 2 lv = some (.int v2) → lvk n lv → hp.length = n → m162_65 F v2 hp = some (v, hp') → Rn d 162 65 lv [] hp c w (some (.int v), hp', c, w) := by
  intro v2 lv hp v hp' l2 ok hn h
  unfold m162_65 at h
  refine Rn.iload_n n162_65 l2 ?_
  by_cases hz1 : v2 = 0 ∨ v2 = 1
  · rw [if_pos hz1] at h
    have e1 := (Prod.mk.inj (Option.some.inj h)).1
    have e2 := (Prod.mk.inj (Option.some.inj h)).2
    subst e1
    subst e2
    exact Rn.zret n162_66 mr162 hz1
  · rw [if_neg hz1] at h; cases h
def m162_58 (F : Nat) (rc21 : Nat → Int32 → Int32 → Int32 → List mE → Option (Int32 × List mE)) (v0 : Nat) (v1 : Int32) (v3 : Int32) (t0 : Int32) (hp : List mE) : Option (Int32 × List mE) :=
  rc21 v0 v1 t0 (v3 + 1) hp
theorem t162_58 {d c w n : Nat} (hd : 0 ≤ d) (F : Nat) {rc21 : Nat → Int32 → Int32 → Int32 → List mE → Option (Int32 × List mE)} (hr21 : ∀ (v0 : Nat) (v1 : Int32) (v2 : Int32) (v3 : Int32) (lv : List (Nat × Value)) (hp : List mE) (v : Int32) (hp' : List mE), alk 0 lv = some (.ref v0) → alk 1 lv = some (.int v1) → alk 2 lv = some (.int v2) → alk 3 lv = some (.int v3) → lvk n lv → hp.length = n → v0 < n → rc21 v0 v1 v2 v3 hp = some (v, hp') → Rn d 162 21 lv [] hp c w (some (.int v), hp', c, w)) : ∀ (v0 : Nat) (v1 : Int32) (v3 : Int32) (t0 : Int32) (lv : List (Nat × Value)) (hp : List mE) (v : Int32) (hp' : List mE), alk 0 lv = some (.ref v0) → alk 1 lv = some (.int v1) → alk 3 lv = some (.int v3) → lvk n lv → hp.length = n → v0 < n → m162_58 F rc21 v0 v1 v3 t0 hp = some (v, hp') → Rn d 162 58 lv [.int t0] hp c w (some (.int v), hp', c, w) := by
  intro v0 v1 v3 t0 lv hp v hp' l0 l1 l3 ok hn r_v0 h
  unfold m162_58 at h
  refine Rn.isn (m := n) n162_58 rfl ml162 (by decide) (fun lv l2 hk hok => ?_)
  have l0 := hk 0 _ (by decide) (Or.inl rfl) l0
  have l1 := hk 1 _ (by decide) (Or.inl rfl) l1
  have l3 := hk 3 _ (by decide) (Or.inl rfl) l3
  have ok := hok ok
  refine Rn.ii (m := n) (u := 1) n162_59 ml162 (by decide) (by decide) l3 (fun lv l3 hk hok => ?_)
  have l0 := hk 0 _ (by decide) (Or.inl rfl) l0
  have l1 := hk 1 _ (by decide) (Or.inl rfl) l1
  have l2 := hk 2 _ (by decide) (Or.inl rfl) l2
  have ok := hok ok
  refine Rn.goto (t := 21) n162_62 (by decide) ?_
  exact hr21 _ _ _ _ lv _ _ _ l0 l1 l2 l3 ok hn r_v0  h
def m162_21 (F : Nat) : Nat → Nat → Int32 → Int32 → Int32 → List mE → Option (Int32 × List mE)
  | 0, _, _, _, _, _ => none
  | f + 1, v0, v1, v2, v3, hp =>
    (gfi 11 15 hp v0).bind fun x1 =>
    if mc2 .ge v3 x1 = true then
      m162_65 F v2 hp
    else
      if mc1 .eq v2 = true then
        m162_65 F v2 hp
      else
        (gfr 11 18 hp v0).bind fun x4 =>
        (rdI hp x4 ((20 * v1) + v3)).bind fun x5 =>
        (gfr 11 14 hp v0).bind fun x6 =>
        (rdI hp x6 v3).bind fun x7 =>
        if mc2 .ne x5 x7 = true then
          m162_58 F (m162_21 F f) v0 v1 v3 0 hp
        else
          m162_58 F (m162_21 F f) v0 v1 v3 1 hp
theorem t162_21 {d c w n : Nat} (hd : 0 ≤ d) (F : Nat) : ∀ f : Nat, ∀ (v0 : Nat) (v1 : Int32) (v2 : Int32) (v3 : Int32) (lv : List (Nat × Value)) (hp : List mE) (v : Int32) (hp' : List mE), alk 0 lv = some (.ref v0) → alk 1 lv = some (.int v1) → alk 2 lv = some (.int v2) → alk 3 lv = some (.int v3) → lvk n lv → hp.length = n → v0 < n → m162_21 F f v0 v1 v2 v3 hp = some (v, hp') → Rn d 162 21 lv [] hp c w (some (.int v), hp', c, w) := by
  intro f
  induction f with
  | zero => intro v0 v1 v2 v3 lv hp v hp' l0 l1 l2 l3 ok hn r_v0 h; cases h
  | succ f hr21 =>
    intro v0 v1 v2 v3 lv hp v hp' l0 l1 l2 l3 ok hn r_v0 h
    unfold m162_21 at h
    refine Rn.iload_n n162_21 l3 ?_
    refine Rn.aload_n n162_22 l0 ?_
    obtain ⟨x1, hx1, h⟩ := Option.bind_eq_some_iff.mp h
    refine Rn.gf n162_23 mo162 fl11_201 (gfi_v hx1) ?_
    by_cases hc2 : mc2 .ge v3 x1 = true
    · rw [if_pos hc2] at h
      refine Rn.c2t (t := 65) n162_26 (by decide) hc2 ?_
      exact t162_65 hd F  _ lv _ _ _ l2 ok hn   h
    · rw [if_neg hc2] at h
      refine Rn.c2f (t := 65) n162_26 (by decide) hc2 ?_
      refine Rn.iload_n n162_29 l2 ?_
      by_cases hc3 : mc1 .eq v2 = true
      · rw [if_pos hc3] at h
        refine Rn.c1t (t := 65) n162_30 (by decide) hc3 ?_
        exact t162_65 hd F  _ lv _ _ _ l2 ok hn   h
      · rw [if_neg hc3] at h
        refine Rn.c1f (t := 65) n162_30 (by decide) hc3 ?_
        refine Rn.aload_n n162_33 l0 ?_
        obtain ⟨x4, hx4, h⟩ := Option.bind_eq_some_iff.mp h
        refine Rn.gf n162_34 mo162 fl11_43 (gfr_v hx4).1 ?_
        have r_x4 : x4 < n := by rw [← hn]; exact (gfr_v hx4).2
        refine Rn.bp (v := 20) n162_37 (by decide) ?_
        refine Rn.iload_n n162_39 l1 ?_
        refine Rn.p n162_40 rfl ?_
        refine Rn.iload_n n162_41 l3 ?_
        refine Rn.p n162_42 rfl ?_
        obtain ⟨x5, hx5, h⟩ := Option.bind_eq_some_iff.mp h
        refine Rn.iald n162_43 hx5 ?_
        refine Rn.aload_n n162_44 l0 ?_
        obtain ⟨x6, hx6, h⟩ := Option.bind_eq_some_iff.mp h
        refine Rn.gf n162_45 mo162 fl11_37 (gfr_v hx6).1 ?_
        have r_x6 : x6 < n := by rw [← hn]; exact (gfr_v hx6).2
        refine Rn.iload_n n162_48 l3 ?_
        obtain ⟨x7, hx7, h⟩ := Option.bind_eq_some_iff.mp h
        refine Rn.iald n162_49 hx7 ?_
        by_cases hc8 : mc2 .ne x5 x7 = true
        · rw [if_pos hc8] at h
          refine Rn.c2t (t := 57) n162_50 (by decide) hc8 ?_
          refine Rn.ic (v := 0) n162_57 (by decide) ?_
          exact t162_58 hd F hr21 _ _ _ _ lv _ _ _ l0 l1 l3 ok hn r_v0  h
        · rw [if_neg hc8] at h
          refine Rn.c2f (t := 57) n162_50 (by decide) hc8 ?_
          refine Rn.ic (v := 1) n162_53 (by decide) ?_
          refine Rn.goto (t := 58) n162_54 (by decide) ?_
          exact t162_58 hd F hr21 _ _ _ _ lv _ _ _ l0 l1 l3 ok hn r_v0  h
def m162_18 (F : Nat) (v0 : Nat) (v1 : Int32) (t0 : Int32) (hp : List mE) : Option (Int32 × List mE) :=
  m162_21 F F v0 v1 t0 0 hp
theorem t162_18 {d c w n : Nat} (hd : 0 ≤ d) (F : Nat) : ∀ (v0 : Nat) (v1 : Int32) (t0 : Int32) (lv : List (Nat × Value)) (hp : List mE) (v : Int32) (hp' : List mE), alk 0 lv = some (.ref v0) → alk 1 lv = some (.int v1) → lvk n lv → hp.length = n → v0 < n → m162_18 F v0 v1 t0 hp = some (v, hp') → Rn d 162 18 lv [.int t0] hp c w (some (.int v), hp', c, w) := by
  intro v0 v1 t0 lv hp v hp' l0 l1 ok hn r_v0 h
  unfold m162_18 at h
  refine Rn.isn (m := n) n162_18 rfl ml162 (by decide) (fun lv l2 hk hok => ?_)
  have l0 := hk 0 _ (by decide) (Or.inl rfl) l0
  have l1 := hk 1 _ (by decide) (Or.inl rfl) l1
  have ok := hok ok
  refine Rn.ic (v := 0) n162_19 (by decide) ?_
  refine Rn.isn (m := n) n162_20 rfl ml162 (by decide) (fun lv l3 hk hok => ?_)
  have l0 := hk 0 _ (by decide) (Or.inl rfl) l0
  have l1 := hk 1 _ (by decide) (Or.inl rfl) l1
  have l2 := hk 2 _ (by decide) (Or.inl rfl) l2
  have ok := hok ok
  exact t162_21 hd F  F _ _ _ _ lv _ _ _ l0 l1 l2 l3 ok hn r_v0  h
def m162_0 (F : Nat) (v0 : Nat) (v1 : Int32) (hp : List mE) : Option (Int32 × List mE) :=
  (gfr 11 17 hp v0).bind fun x1 =>
  (rdI hp x1 v1).bind fun x2 =>
  (gfi 11 15 hp v0).bind fun x3 =>
  if mc2 .ne x2 x3 = true then
    m162_18 F v0 v1 0 hp
  else
    m162_18 F v0 v1 1 hp
theorem t162_0 {d c w n : Nat} (hd : 0 ≤ d) (F : Nat) : ∀ (v0 : Nat) (v1 : Int32) (lv : List (Nat × Value)) (hp : List mE) (v : Int32) (hp' : List mE), alk 0 lv = some (.ref v0) → alk 1 lv = some (.int v1) → lvk n lv → hp.length = n → v0 < n → m162_0 F v0 v1 hp = some (v, hp') → Rn d 162 0 lv [] hp c w (some (.int v), hp', c, w) := by
  intro v0 v1 lv hp v hp' l0 l1 ok hn r_v0 h
  unfold m162_0 at h
  refine Rn.aload_n n162_0 l0 ?_
  obtain ⟨x1, hx1, h⟩ := Option.bind_eq_some_iff.mp h
  refine Rn.gf n162_1 mo162 fl11_40 (gfr_v hx1).1 ?_
  have r_x1 : x1 < n := by rw [← hn]; exact (gfr_v hx1).2
  refine Rn.iload_n n162_4 l1 ?_
  obtain ⟨x2, hx2, h⟩ := Option.bind_eq_some_iff.mp h
  refine Rn.iald n162_5 hx2 ?_
  refine Rn.aload_n n162_6 l0 ?_
  obtain ⟨x3, hx3, h⟩ := Option.bind_eq_some_iff.mp h
  refine Rn.gf n162_7 mo162 fl11_201 (gfi_v hx3) ?_
  by_cases hc4 : mc2 .ne x2 x3 = true
  · rw [if_pos hc4] at h
    refine Rn.c2t (t := 17) n162_10 (by decide) hc4 ?_
    refine Rn.ic (v := 0) n162_17 (by decide) ?_
    exact t162_18 hd F  _ _ _ lv _ _ _ l0 l1 ok hn r_v0  h
  · rw [if_neg hc4] at h
    refine Rn.c2f (t := 17) n162_10 (by decide) hc4 ?_
    refine Rn.ic (v := 1) n162_13 (by decide) ?_
    refine Rn.goto (t := 18) n162_14 (by decide) ?_
    exact t162_18 hd F  _ _ _ lv _ _ _ l0 l1 ok hn r_v0  h
def e162 (F : Nat) (a0 : Nat) (a1 : Int32) (hp : List mE) : Option (Int32 × List mE) := m162_0 F a0 a1 hp
theorem c162 {d : Nat} (hd : 0 ≤ d) (F : Nat) (a0 : Nat) (a1 : Int32) (hp : List mE) (v : Int32) (hp' : List mE) (ra0 : a0 < hp.length) (h : e162 F a0 a1 hp = some (v, hp')) : Rn d 162 0 (lv_args 0 [.ref a0, .int a1]) [] hp 0 0 (some (.int v), hp', 0, 0) :=
  t162_0 (n := hp.length) hd F a0 a1 (lv_args 0 [.ref a0, .int a1]) hp v hp' rfl rfl (lvk_args (okc (okr ra0) (okc rfl okn))) rfl ra0 h
/-! MirrorRootsModel.keepRow -/
def m163_58 (F : Nat) : Nat → Nat → Int32 → List mE → Option (Int32 × List mE)
  | 0, _, _, _ => none
  | f + 1, v0, v1, hp =>
    (gfi 11 15 hp v0).bind fun x1 =>
    if mc2 .ge v1 x1 = true then
      (gfi 11 16 hp v0).bind fun x3 =>
      (pfv 11 16 hp v0 (.int (x3 + 1))).bind fun hp4 =>
      (gfi 11 16 hp4 v0).bind fun x5 =>
      some (x5 - 1, hp4)
    else
      (gfr 11 18 hp v0).bind fun x6 =>
      (gfi 11 16 hp v0).bind fun x7 =>
      (gfr 11 14 hp v0).bind fun x8 =>
      (rdI hp x8 v1).bind fun x9 =>
      (wrI hp x6 ((20 * x7) + v1) x9).bind fun hp10 =>
      m163_58 F f v0 (v1 + 1) hp10
theorem t163_58 {d c w n : Nat} (hd : 3 ≤ d) (F : Nat) : ∀ f : Nat, ∀ (v0 : Nat) (v1 : Int32) (lv : List (Nat × Value)) (hp : List mE) (v : Int32) (hp' : List mE), alk 0 lv = some (.ref v0) → alk 1 lv = some (.int v1) → lvk n lv → hp.length = n → v0 < n → m163_58 F f v0 v1 hp = some (v, hp') → Rn d 163 58 lv [] hp c w (some (.int v), hp', c, w) := by
  obtain ⟨d', rfl⟩ : ∃ d', d = d' + 1 := ⟨d - 1, by omega⟩
  intro f
  induction f with
  | zero => intro v0 v1 lv hp v hp' l0 l1 ok hn r_v0 h; cases h
  | succ f hr58 =>
    intro v0 v1 lv hp v hp' l0 l1 ok hn r_v0 h
    unfold m163_58 at h
    refine Rn.iload_n n163_58 l1 ?_
    refine Rn.aload_n n163_59 l0 ?_
    obtain ⟨x1, hx1, h⟩ := Option.bind_eq_some_iff.mp h
    refine Rn.gf n163_60 mo163 fl11_201 (gfi_v hx1) ?_
    by_cases hc2 : mc2 .ge v1 x1 = true
    · rw [if_pos hc2] at h
      refine Rn.c2t (t := 92) n163_63 (by decide) hc2 ?_
      refine Rn.aload_n n163_92 l0 ?_
      refine Rn.p n163_93 rfl ?_
      obtain ⟨x3, hx3, h⟩ := Option.bind_eq_some_iff.mp h
      refine Rn.gf n163_94 mo163 fl11_108 (gfi_v hx3) ?_
      refine Rn.ic (v := 1) n163_97 (by decide) ?_
      refine Rn.p n163_98 rfl ?_
      obtain ⟨hp4, hhp4, h⟩ := Option.bind_eq_some_iff.mp h
      refine Rn.pf n163_99 mo163 fl11_108 ft11_16 rfl ff11_16 (fun _ _ hh => by cases hh) hhp4 ?_
      have hn := (pfv_len hhp4).trans hn
      refine Rn.aload_n n163_102 l0 ?_
      obtain ⟨x5, hx5, h⟩ := Option.bind_eq_some_iff.mp h
      refine Rn.gf n163_103 mo163 fl11_108 (gfi_v hx5) ?_
      refine Rn.ic (v := 1) n163_106 (by decide) ?_
      refine Rn.p n163_107 rfl ?_
      have e1 := (Prod.mk.inj (Option.some.inj h)).1
      have e2 := (Prod.mk.inj (Option.some.inj h)).2
      subst e1
      subst e2
      exact Rn.iret n163_108 mr163
    · rw [if_neg hc2] at h
      refine Rn.c2f (t := 92) n163_63 (by decide) hc2 ?_
      refine Rn.aload_n n163_66 l0 ?_
      obtain ⟨x6, hx6, h⟩ := Option.bind_eq_some_iff.mp h
      refine Rn.gf n163_67 mo163 fl11_43 (gfr_v hx6).1 ?_
      have r_x6 : x6 < n := by rw [← hn]; exact (gfr_v hx6).2
      refine Rn.bp (v := 20) n163_70 (by decide) ?_
      refine Rn.aload_n n163_72 l0 ?_
      obtain ⟨x7, hx7, h⟩ := Option.bind_eq_some_iff.mp h
      refine Rn.gf n163_73 mo163 fl11_108 (gfi_v hx7) ?_
      refine Rn.p n163_76 rfl ?_
      refine Rn.iload_n n163_77 l1 ?_
      refine Rn.p n163_78 rfl ?_
      refine Rn.aload_n n163_79 l0 ?_
      obtain ⟨x8, hx8, h⟩ := Option.bind_eq_some_iff.mp h
      refine Rn.gf n163_80 mo163 fl11_37 (gfr_v hx8).1 ?_
      have r_x8 : x8 < n := by rw [← hn]; exact (gfr_v hx8).2
      refine Rn.iload_n n163_83 l1 ?_
      obtain ⟨x9, hx9, h⟩ := Option.bind_eq_some_iff.mp h
      refine Rn.iald n163_84 hx9 ?_
      obtain ⟨hp10, hhp10, h⟩ := Option.bind_eq_some_iff.mp h
      refine Rn.iast n163_85 hhp10 ?_
      have hn := (wrI_st (st := []) hhp10).2.trans hn
      refine Rn.ii (m := n) (u := 1) n163_86 ml163 (by decide) (by decide) l1 (fun lv l1 hk hok => ?_)
      have l0 := hk 0 _ (by decide) (Or.inl rfl) l0
      have ok := hok ok
      refine Rn.goto (t := 58) n163_89 (by decide) ?_
      exact hr58 _ _ lv _ _ _ l0 l1 ok hn r_v0  h
def m163_6 (F : Nat) : Nat → Nat → Int32 → List mE → Option (Int32 × List mE)
  | 0, _, _, _ => none
  | f + 1, v0, v1, hp =>
    (gfi 11 16 hp v0).bind fun x1 =>
    if mc2 .ge v1 x1 = true then
      (gfi 11 16 hp v0).bind fun x3 =>
      if mc2 .ne x3 40 = true then
        (gfr 11 17 hp v0).bind fun x5 =>
        (gfi 11 16 hp v0).bind fun x6 =>
        (gfi 11 15 hp v0).bind fun x7 =>
        (wrI hp x5 x6 x7).bind fun hp8 =>
        m163_58 F F v0 0 hp8
      else
        some ((-1004), hp)
    else
      (rcv 11 hp v0).bind fun u10 =>
      (e162 F v0 v1 hp).bind fun q9 =>
      if mc1 .eq q9.1 = true then
        m163_6 F f v0 (v1 + 1) q9.2
      else
        some (v1, q9.2)
theorem t163_6 {d c w n : Nat} (hd : 3 ≤ d) (F : Nat) : ∀ f : Nat, ∀ (v0 : Nat) (v1 : Int32) (lv : List (Nat × Value)) (hp : List mE) (v : Int32) (hp' : List mE), alk 0 lv = some (.ref v0) → alk 1 lv = some (.int v1) → lvk n lv → hp.length = n → v0 < n → m163_6 F f v0 v1 hp = some (v, hp') → Rn d 163 6 lv [] hp c w (some (.int v), hp', c, w) := by
  obtain ⟨d', rfl⟩ : ∃ d', d = d' + 1 := ⟨d - 1, by omega⟩
  intro f
  induction f with
  | zero => intro v0 v1 lv hp v hp' l0 l1 ok hn r_v0 h; cases h
  | succ f hr6 =>
    intro v0 v1 lv hp v hp' l0 l1 ok hn r_v0 h
    unfold m163_6 at h
    refine Rn.iload_n n163_6 l1 ?_
    refine Rn.aload_n n163_7 l0 ?_
    obtain ⟨x1, hx1, h⟩ := Option.bind_eq_some_iff.mp h
    refine Rn.gf n163_8 mo163 fl11_108 (gfi_v hx1) ?_
    by_cases hc2 : mc2 .ge v1 x1 = true
    · rw [if_pos hc2] at h
      refine Rn.c2t (t := 30) n163_11 (by decide) hc2 ?_
      refine Rn.aload_n n163_30 l0 ?_
      obtain ⟨x3, hx3, h⟩ := Option.bind_eq_some_iff.mp h
      refine Rn.gf n163_31 mo163 fl11_108 (gfi_v hx3) ?_
      refine Rn.bp (v := 40) n163_34 (by decide) ?_
      by_cases hc4 : mc2 .ne x3 40 = true
      · rw [if_pos hc4] at h
        refine Rn.c2t (t := 43) n163_36 (by decide) hc4 ?_
        refine Rn.aload_n n163_43 l0 ?_
        obtain ⟨x5, hx5, h⟩ := Option.bind_eq_some_iff.mp h
        refine Rn.gf n163_44 mo163 fl11_40 (gfr_v hx5).1 ?_
        have r_x5 : x5 < n := by rw [← hn]; exact (gfr_v hx5).2
        refine Rn.aload_n n163_47 l0 ?_
        obtain ⟨x6, hx6, h⟩ := Option.bind_eq_some_iff.mp h
        refine Rn.gf n163_48 mo163 fl11_108 (gfi_v hx6) ?_
        refine Rn.aload_n n163_51 l0 ?_
        obtain ⟨x7, hx7, h⟩ := Option.bind_eq_some_iff.mp h
        refine Rn.gf n163_52 mo163 fl11_201 (gfi_v hx7) ?_
        obtain ⟨hp8, hhp8, h⟩ := Option.bind_eq_some_iff.mp h
        refine Rn.iast n163_55 hhp8 ?_
        have hn := (wrI_st (st := []) hhp8).2.trans hn
        refine Rn.ic (v := 0) n163_56 (by decide) ?_
        refine Rn.isn (m := n) n163_57 rfl ml163 (by decide) (fun lv l1 hk hok => ?_)
        have l0 := hk 0 _ (by decide) (Or.inl rfl) l0
        have ok := hok ok
        exact t163_58 hd F  F _ _ lv _ _ _ l0 l1 ok hn r_v0  h
      · rw [if_neg hc4] at h
        refine Rn.c2f (t := 43) n163_36 (by decide) hc4 ?_
        refine Rn.sp (v := (-1004)) n163_39 (by decide) ?_
        have e1 := (Prod.mk.inj (Option.some.inj h)).1
        have e2 := (Prod.mk.inj (Option.some.inj h)).2
        subst e1
        subst e2
        exact Rn.iret n163_42 mr163
    · rw [if_neg hc2] at h
      refine Rn.c2f (t := 30) n163_11 (by decide) hc2 ?_
      refine Rn.aload_n n163_14 l0 ?_
      refine Rn.iload_n n163_15 l1 ?_
      obtain ⟨u10, hu10, h⟩ := Option.bind_eq_some_iff.mp h
      obtain ⟨q9, hq9, h⟩ := Option.bind_eq_some_iff.mp h
      have gq9 := c162 (d := d') (by omega) F _ _ _ _ _ (by rw [hn]; exact r_v0) hq9
      refine Rn.cv (As := [.int v1]) (rr := []) n163_16 mo163 mm11_213 (by decide) mq162 rfl rfl rfl rfl (by rw [mo162]; exact hu10) (Nat.le_of_ble_eq_true rfl) (by rw [hn]; exact (okc (okr r_v0) (okc rfl okn))) (by rw [hn]; exact okn) (by rw [hn]; exact ok) (by rw [ml162]; exact Nat.le_of_ble_eq_true rfl) gq9 ?_
      have hn := (Rn.len gq9).trans hn
      show Rn _ 163 19 lv [.int q9.1] q9.2 c w _
      by_cases hc11 : mc1 .eq q9.1 = true
      · rw [if_pos hc11] at h
        refine Rn.c1t (t := 24) n163_19 (by decide) hc11 ?_
        refine Rn.ii (m := n) (u := 1) n163_24 ml163 (by decide) (by decide) l1 (fun lv l1 hk hok => ?_)
        have l0 := hk 0 _ (by decide) (Or.inl rfl) l0
        have ok := hok ok
        refine Rn.goto (t := 6) n163_27 (by decide) ?_
        exact hr6 _ _ lv _ _ _ l0 l1 ok hn r_v0  h
      · rw [if_neg hc11] at h
        refine Rn.c1f (t := 24) n163_19 (by decide) hc11 ?_
        refine Rn.iload_n n163_22 l1 ?_
        have e1 := (Prod.mk.inj (Option.some.inj h)).1
        have e2 := (Prod.mk.inj (Option.some.inj h)).2
        subst e1
        subst e2
        exact Rn.iret n163_23 mr163
def m163_0 (F : Nat) (v0 : Nat) (hp : List mE) : Option (Int32 × List mE) :=
  (rcv 11 hp v0).bind fun u2 =>
  (e159 F v0 hp).bind fun q1 =>
  m163_6 F F v0 0 q1.2
theorem t163_0 {d c w n : Nat} (hd : 3 ≤ d) (F : Nat) : ∀ (v0 : Nat) (lv : List (Nat × Value)) (hp : List mE) (v : Int32) (hp' : List mE), alk 0 lv = some (.ref v0) → lvk n lv → hp.length = n → v0 < n → m163_0 F v0 hp = some (v, hp') → Rn d 163 0 lv [] hp c w (some (.int v), hp', c, w) := by
  obtain ⟨d', rfl⟩ : ∃ d', d = d' + 1 := ⟨d - 1, by omega⟩
  intro v0 lv hp v hp' l0 ok hn r_v0 h
  unfold m163_0 at h
  refine Rn.aload_n n163_0 l0 ?_
  obtain ⟨u2, hu2, h⟩ := Option.bind_eq_some_iff.mp h
  obtain ⟨q1, hq1, h⟩ := Option.bind_eq_some_iff.mp h
  have gq1 := c159 (d := d') (by omega) F _ _ _ _ (by rw [hn]; exact r_v0) hq1
  refine Rn.cv (As := []) (rr := []) n163_1 mo163 mm11_210 (by decide) mq159 rfl rfl rfl rfl (by rw [mo159]; exact hu2) (Nat.le_of_ble_eq_true rfl) (by rw [hn]; exact (okc (okr r_v0) okn)) (by rw [hn]; exact okn) (by rw [hn]; exact ok) (by rw [ml159]; exact Nat.le_of_ble_eq_true rfl) gq1 ?_
  have hn := (Rn.len gq1).trans hn
  show Rn _ 163 4 lv [] q1.2 c w _
  refine Rn.ic (v := 0) n163_4 (by decide) ?_
  refine Rn.isn (m := n) n163_5 rfl ml163 (by decide) (fun lv l1 hk hok => ?_)
  have l0 := hk 0 _ (by decide) (Or.inl rfl) l0
  have ok := hok ok
  exact t163_6 hd F  F _ _ lv _ _ _ l0 l1 ok hn r_v0  h
def e163 (F : Nat) (a0 : Nat) (hp : List mE) : Option (Int32 × List mE) := m163_0 F a0 hp
theorem c163 {d : Nat} (hd : 3 ≤ d) (F : Nat) (a0 : Nat) (hp : List mE) (v : Int32) (hp' : List mE) (ra0 : a0 < hp.length) (h : e163 F a0 hp = some (v, hp')) : Rn d 163 0 (lv_args 0 [.ref a0]) [] hp 0 0 (some (.int v), hp', 0, 0) :=
  t163_0 (n := hp.length) hd F a0 (lv_args 0 [.ref a0]) hp v hp' rfl (lvk_args (okc (okr ra0) okn)) rfl ra0 h
/-! MirrorRootsModel.put -/
def m164_0 (F : Nat) (v0 : Nat) (v1 : Int32) (hp : List mE) : Option (Unit × List mE) :=
  (gfr 11 14 hp v0).bind fun x1 =>
  (gfi 11 15 hp v0).bind fun x2 =>
  (wrI hp x1 x2 v1).bind fun hp3 =>
  (gfi 11 15 hp3 v0).bind fun x4 =>
  (pfv 11 15 hp3 v0 (.int (x4 + 1))).bind fun hp5 =>
  some ((), hp5)
theorem t164_0 {d c w n : Nat} (hd : 0 ≤ d) (F : Nat) : ∀ (v0 : Nat) (v1 : Int32) (lv : List (Nat × Value)) (hp : List mE) (v : Unit) (hp' : List mE), alk 0 lv = some (.ref v0) → alk 1 lv = some (.int v1) → lvk n lv → hp.length = n → v0 < n → m164_0 F v0 v1 hp = some (v, hp') → Rn d 164 0 lv [] hp c w (none, hp', c, w) := by
  intro v0 v1 lv hp v hp' l0 l1 ok hn r_v0 h
  unfold m164_0 at h
  refine Rn.aload_n n164_0 l0 ?_
  obtain ⟨x1, hx1, h⟩ := Option.bind_eq_some_iff.mp h
  refine Rn.gf n164_1 mo164 fl11_37 (gfr_v hx1).1 ?_
  have r_x1 : x1 < n := by rw [← hn]; exact (gfr_v hx1).2
  refine Rn.aload_n n164_4 l0 ?_
  obtain ⟨x2, hx2, h⟩ := Option.bind_eq_some_iff.mp h
  refine Rn.gf n164_5 mo164 fl11_201 (gfi_v hx2) ?_
  refine Rn.iload_n n164_8 l1 ?_
  obtain ⟨hp3, hhp3, h⟩ := Option.bind_eq_some_iff.mp h
  refine Rn.iast n164_9 hhp3 ?_
  have hn := (wrI_st (st := []) hhp3).2.trans hn
  refine Rn.aload_n n164_10 l0 ?_
  refine Rn.p n164_11 rfl ?_
  obtain ⟨x4, hx4, h⟩ := Option.bind_eq_some_iff.mp h
  refine Rn.gf n164_12 mo164 fl11_201 (gfi_v hx4) ?_
  refine Rn.ic (v := 1) n164_15 (by decide) ?_
  refine Rn.p n164_16 rfl ?_
  obtain ⟨hp5, hhp5, h⟩ := Option.bind_eq_some_iff.mp h
  refine Rn.pf n164_17 mo164 fl11_201 ft11_15 rfl ff11_15 (fun _ _ hh => by cases hh) hhp5 ?_
  have hn := (pfv_len hhp5).trans hn
  have e1 := (Prod.mk.inj (Option.some.inj h)).1
  have e2 := (Prod.mk.inj (Option.some.inj h)).2
  subst e1
  subst e2
  exact Rn.vret n164_20 mr164
def e164 (F : Nat) (a0 : Nat) (a1 : Int32) (hp : List mE) : Option (Unit × List mE) := m164_0 F a0 a1 hp
theorem c164 {d : Nat} (hd : 0 ≤ d) (F : Nat) (a0 : Nat) (a1 : Int32) (hp : List mE) (v : Unit) (hp' : List mE) (ra0 : a0 < hp.length) (h : e164 F a0 a1 hp = some (v, hp')) : Rn d 164 0 (lv_args 0 [.ref a0, .int a1]) [] hp 0 0 (none, hp', 0, 0) :=
  t164_0 (n := hp.length) hd F a0 a1 (lv_args 0 [.ref a0, .int a1]) hp v hp' rfl rfl (lvk_args (okc (okr ra0) (okc rfl okn))) rfl ra0 h
/-! MirrorRootsModel.putAll -/
def m165_2 (F : Nat) : Nat → Nat → Int32 → Int32 → List mE → Option (Unit × List mE)
  | 0, _, _, _, _ => none
  | f + 1, v0, v1, v2, hp =>
    (gfr 11 17 hp v0).bind fun x1 =>
    (rdI hp x1 v1).bind fun x2 =>
    if mc2 .ge v2 x2 = true then
      some ((), hp)
    else
      (gfr 11 18 hp v0).bind fun x4 =>
      (rdI hp x4 ((20 * v1) + v2)).bind fun x5 =>
      (rcv 11 hp v0).bind fun u7 =>
      (e164 F v0 x5 hp).bind fun q6 =>
      m165_2 F f v0 v1 (v2 + 1) q6.2
theorem t165_2 {d c w n : Nat} (hd : 1 ≤ d) (F : Nat) : ∀ f : Nat, ∀ (v0 : Nat) (v1 : Int32) (v2 : Int32) (lv : List (Nat × Value)) (hp : List mE) (v : Unit) (hp' : List mE), alk 0 lv = some (.ref v0) → alk 1 lv = some (.int v1) → alk 2 lv = some (.int v2) → lvk n lv → hp.length = n → v0 < n → m165_2 F f v0 v1 v2 hp = some (v, hp') → Rn d 165 2 lv [] hp c w (none, hp', c, w) := by
  obtain ⟨d', rfl⟩ : ∃ d', d = d' + 1 := ⟨d - 1, by omega⟩
  intro f
  induction f with
  | zero => intro v0 v1 v2 lv hp v hp' l0 l1 l2 ok hn r_v0 h; cases h
  | succ f hr2 =>
    intro v0 v1 v2 lv hp v hp' l0 l1 l2 ok hn r_v0 h
    unfold m165_2 at h
    refine Rn.iload_n n165_2 l2 ?_
    refine Rn.aload_n n165_3 l0 ?_
    obtain ⟨x1, hx1, h⟩ := Option.bind_eq_some_iff.mp h
    refine Rn.gf n165_4 mo165 fl11_40 (gfr_v hx1).1 ?_
    have r_x1 : x1 < n := by rw [← hn]; exact (gfr_v hx1).2
    refine Rn.iload_n n165_7 l1 ?_
    obtain ⟨x2, hx2, h⟩ := Option.bind_eq_some_iff.mp h
    refine Rn.iald n165_8 hx2 ?_
    by_cases hc3 : mc2 .ge v2 x2 = true
    · rw [if_pos hc3] at h
      refine Rn.c2t (t := 33) n165_9 (by decide) hc3 ?_
      have e1 := (Prod.mk.inj (Option.some.inj h)).1
      have e2 := (Prod.mk.inj (Option.some.inj h)).2
      subst e1
      subst e2
      exact Rn.vret n165_33 mr165
    · rw [if_neg hc3] at h
      refine Rn.c2f (t := 33) n165_9 (by decide) hc3 ?_
      refine Rn.aload_n n165_12 l0 ?_
      refine Rn.aload_n n165_13 l0 ?_
      obtain ⟨x4, hx4, h⟩ := Option.bind_eq_some_iff.mp h
      refine Rn.gf n165_14 mo165 fl11_43 (gfr_v hx4).1 ?_
      have r_x4 : x4 < n := by rw [← hn]; exact (gfr_v hx4).2
      refine Rn.bp (v := 20) n165_17 (by decide) ?_
      refine Rn.iload_n n165_19 l1 ?_
      refine Rn.p n165_20 rfl ?_
      refine Rn.iload_n n165_21 l2 ?_
      refine Rn.p n165_22 rfl ?_
      obtain ⟨x5, hx5, h⟩ := Option.bind_eq_some_iff.mp h
      refine Rn.iald n165_23 hx5 ?_
      obtain ⟨u7, hu7, h⟩ := Option.bind_eq_some_iff.mp h
      obtain ⟨q6, hq6, h⟩ := Option.bind_eq_some_iff.mp h
      have gq6 := c164 (d := d') (by omega) F _ _ _ _ _ (by rw [hn]; exact r_v0) hq6
      refine Rn.cv (As := [.int x5]) (rr := []) n165_24 mo165 mm11_216 (by decide) mq164 rfl rfl rfl rfl (by rw [mo164]; exact hu7) (Nat.le_of_ble_eq_true rfl) (by rw [hn]; exact (okc (okr r_v0) (okc rfl okn))) (by rw [hn]; exact okn) (by rw [hn]; exact ok) (by rw [ml164]; exact Nat.le_of_ble_eq_true rfl) gq6 ?_
      have hn := (Rn.len gq6).trans hn
      show Rn _ 165 27 lv [] q6.2 c w _
      refine Rn.ii (m := n) (u := 1) n165_27 ml165 (by decide) (by decide) l2 (fun lv l2 hk hok => ?_)
      have l0 := hk 0 _ (by decide) (Or.inl rfl) l0
      have l1 := hk 1 _ (by decide) (Or.inl rfl) l1
      have ok := hok ok
      refine Rn.goto (t := 2) n165_30 (by decide) ?_
      exact hr2 _ _ _ lv _ _ _ l0 l1 l2 ok hn r_v0  h
def m165_0 (F : Nat) (v0 : Nat) (v1 : Int32) (hp : List mE) : Option (Unit × List mE) :=
  m165_2 F F v0 v1 0 hp
theorem t165_0 {d c w n : Nat} (hd : 1 ≤ d) (F : Nat) : ∀ (v0 : Nat) (v1 : Int32) (lv : List (Nat × Value)) (hp : List mE) (v : Unit) (hp' : List mE), alk 0 lv = some (.ref v0) → alk 1 lv = some (.int v1) → lvk n lv → hp.length = n → v0 < n → m165_0 F v0 v1 hp = some (v, hp') → Rn d 165 0 lv [] hp c w (none, hp', c, w) := by
  obtain ⟨d', rfl⟩ : ∃ d', d = d' + 1 := ⟨d - 1, by omega⟩
  intro v0 v1 lv hp v hp' l0 l1 ok hn r_v0 h
  unfold m165_0 at h
  refine Rn.ic (v := 0) n165_0 (by decide) ?_
  refine Rn.isn (m := n) n165_1 rfl ml165 (by decide) (fun lv l2 hk hok => ?_)
  have l0 := hk 0 _ (by decide) (Or.inl rfl) l0
  have l1 := hk 1 _ (by decide) (Or.inl rfl) l1
  have ok := hok ok
  exact t165_2 hd F  F _ _ _ lv _ _ _ l0 l1 l2 ok hn r_v0  h
def e165 (F : Nat) (a0 : Nat) (a1 : Int32) (hp : List mE) : Option (Unit × List mE) := m165_0 F a0 a1 hp
theorem c165 {d : Nat} (hd : 1 ≤ d) (F : Nat) (a0 : Nat) (a1 : Int32) (hp : List mE) (v : Unit) (hp' : List mE) (ra0 : a0 < hp.length) (h : e165 F a0 a1 hp = some (v, hp')) : Rn d 165 0 (lv_args 0 [.ref a0, .int a1]) [] hp 0 0 (none, hp', 0, 0) :=
  t165_0 (n := hp.length) hd F a0 a1 (lv_args 0 [.ref a0, .int a1]) hp v hp' rfl rfl (lvk_args (okc (okr ra0) (okc rfl okn))) rfl ra0 h
/-! MirrorRootsModel.keep -/
def m166_49 (F : Nat) (v1 : Int32) (t0 : Nat) (t1 : Int32) (hp : List mE) : Option (Int32 × List mE) :=
  (pfv 11 19 hp t0 (.int t1)).bind fun hp1 =>
  some (v1, hp1)
theorem t166_49 {d c w n : Nat} (hd : 4 ≤ d) (F : Nat) : ∀ (v1 : Int32) (t0 : Nat) (t1 : Int32) (lv : List (Nat × Value)) (hp : List mE) (v : Int32) (hp' : List mE), alk 1 lv = some (.int v1) → lvk n lv → hp.length = n → t0 < n → m166_49 F v1 t0 t1 hp = some (v, hp') → Rn d 166 49 lv [.int t1, .ref t0] hp c w (some (.int v), hp', c, w) := by
  obtain ⟨d', rfl⟩ : ∃ d', d = d' + 1 := ⟨d - 1, by omega⟩
  intro v1 t0 t1 lv hp v hp' l1 ok hn r_t0 h
  unfold m166_49 at h
  obtain ⟨hp1, hhp1, h⟩ := Option.bind_eq_some_iff.mp h
  refine Rn.pf n166_49 mo166 fl11_111 ft11_19 rfl ff11_19 (fun _ _ hh => by cases hh) hhp1 ?_
  have hn := (pfv_len hhp1).trans hn
  refine Rn.iload_n n166_52 l1 ?_
  have e1 := (Prod.mk.inj (Option.some.inj h)).1
  have e2 := (Prod.mk.inj (Option.some.inj h)).2
  subst e1
  subst e2
  exact Rn.iret n166_53 mr166
def m166_7 (F : Nat) : Nat → Nat → Int32 → List mE → Option (Int32 × List mE)
  | 0, _, _, _ => none
  | f + 1, v0, v1, hp =>
    (gfi 11 19 hp v0).bind fun x1 =>
    if mc2 .ge v1 x1 = true then
      (rcv 11 hp v0).bind fun u4 =>
      (e163 F v0 hp).bind fun q3 =>
      if mc1 .ge q3.1 = true then
        m166_49 F q3.1 v0 0 q3.2
      else
        (gfi 11 19 q3.2 v0).bind fun x6 =>
        m166_49 F q3.1 v0 x6 q3.2
    else
      (gfr 11 20 hp v0).bind fun x7 =>
      (rdI hp x7 v1).bind fun x8 =>
      (rcv 11 hp v0).bind fun u10 =>
      (e164 F v0 x8 hp).bind fun q9 =>
      m166_7 F f v0 (v1 + 1) q9.2
theorem t166_7 {d c w n : Nat} (hd : 4 ≤ d) (F : Nat) : ∀ f : Nat, ∀ (v0 : Nat) (v1 : Int32) (lv : List (Nat × Value)) (hp : List mE) (v : Int32) (hp' : List mE), alk 0 lv = some (.ref v0) → alk 1 lv = some (.int v1) → lvk n lv → hp.length = n → v0 < n → m166_7 F f v0 v1 hp = some (v, hp') → Rn d 166 7 lv [] hp c w (some (.int v), hp', c, w) := by
  obtain ⟨d', rfl⟩ : ∃ d', d = d' + 1 := ⟨d - 1, by omega⟩
  intro f
  induction f with
  | zero => intro v0 v1 lv hp v hp' l0 l1 ok hn r_v0 h; cases h
  | succ f hr7 =>
    intro v0 v1 lv hp v hp' l0 l1 ok hn r_v0 h
    unfold m166_7 at h
    refine Rn.iload_n n166_7 l1 ?_
    refine Rn.aload_n n166_8 l0 ?_
    obtain ⟨x1, hx1, h⟩ := Option.bind_eq_some_iff.mp h
    refine Rn.gf n166_9 mo166 fl11_111 (gfi_v hx1) ?_
    by_cases hc2 : mc2 .ge v1 x1 = true
    · rw [if_pos hc2] at h
      refine Rn.c2t (t := 31) n166_12 (by decide) hc2 ?_
      refine Rn.aload_n n166_31 l0 ?_
      obtain ⟨u4, hu4, h⟩ := Option.bind_eq_some_iff.mp h
      obtain ⟨q3, hq3, h⟩ := Option.bind_eq_some_iff.mp h
      have gq3 := c163 (d := d') (by omega) F _ _ _ _ (by rw [hn]; exact r_v0) hq3
      refine Rn.cv (As := []) (rr := []) n166_32 mo166 mm11_219 (by decide) mq163 rfl rfl rfl rfl (by rw [mo163]; exact hu4) (Nat.le_of_ble_eq_true rfl) (by rw [hn]; exact (okc (okr r_v0) okn)) (by rw [hn]; exact okn) (by rw [hn]; exact ok) (by rw [ml163]; exact Nat.le_of_ble_eq_true rfl) gq3 ?_
      have hn := (Rn.len gq3).trans hn
      show Rn _ 166 35 lv [.int q3.1] q3.2 c w _
      refine Rn.isn (m := n) n166_35 rfl ml166 (by decide) (fun lv l1 hk hok => ?_)
      have l0 := hk 0 _ (by decide) (Or.inl rfl) l0
      have ok := hok ok
      refine Rn.aload_n n166_36 l0 ?_
      refine Rn.iload_n n166_37 l1 ?_
      by_cases hc5 : mc1 .ge q3.1 = true
      · rw [if_pos hc5] at h
        refine Rn.c1t (t := 48) n166_38 (by decide) hc5 ?_
        refine Rn.ic (v := 0) n166_48 (by decide) ?_
        exact t166_49 hd F  _ _ _ lv _ _ _ l1 ok hn  r_v0 h
      · rw [if_neg hc5] at h
        refine Rn.c1f (t := 48) n166_38 (by decide) hc5 ?_
        refine Rn.aload_n n166_41 l0 ?_
        obtain ⟨x6, hx6, h⟩ := Option.bind_eq_some_iff.mp h
        refine Rn.gf n166_42 mo166 fl11_111 (gfi_v hx6) ?_
        refine Rn.goto (t := 49) n166_45 (by decide) ?_
        exact t166_49 hd F  _ _ _ lv _ _ _ l1 ok hn  r_v0 h
    · rw [if_neg hc2] at h
      refine Rn.c2f (t := 31) n166_12 (by decide) hc2 ?_
      refine Rn.aload_n n166_15 l0 ?_
      refine Rn.aload_n n166_16 l0 ?_
      obtain ⟨x7, hx7, h⟩ := Option.bind_eq_some_iff.mp h
      refine Rn.gf n166_17 mo166 fl11_46 (gfr_v hx7).1 ?_
      have r_x7 : x7 < n := by rw [← hn]; exact (gfr_v hx7).2
      refine Rn.iload_n n166_20 l1 ?_
      obtain ⟨x8, hx8, h⟩ := Option.bind_eq_some_iff.mp h
      refine Rn.iald n166_21 hx8 ?_
      obtain ⟨u10, hu10, h⟩ := Option.bind_eq_some_iff.mp h
      obtain ⟨q9, hq9, h⟩ := Option.bind_eq_some_iff.mp h
      have gq9 := c164 (d := d') (by omega) F _ _ _ _ _ (by rw [hn]; exact r_v0) hq9
      refine Rn.cv (As := [.int x8]) (rr := []) n166_22 mo166 mm11_216 (by decide) mq164 rfl rfl rfl rfl (by rw [mo164]; exact hu10) (Nat.le_of_ble_eq_true rfl) (by rw [hn]; exact (okc (okr r_v0) (okc rfl okn))) (by rw [hn]; exact okn) (by rw [hn]; exact ok) (by rw [ml164]; exact Nat.le_of_ble_eq_true rfl) gq9 ?_
      have hn := (Rn.len gq9).trans hn
      show Rn _ 166 25 lv [] q9.2 c w _
      refine Rn.ii (m := n) (u := 1) n166_25 ml166 (by decide) (by decide) l1 (fun lv l1 hk hok => ?_)
      have l0 := hk 0 _ (by decide) (Or.inl rfl) l0
      have ok := hok ok
      refine Rn.goto (t := 7) n166_28 (by decide) ?_
      exact hr7 _ _ lv _ _ _ l0 l1 ok hn r_v0  h
def m166_0 (F : Nat) (v0 : Nat) (hp : List mE) : Option (Int32 × List mE) :=
  (pfv 11 15 hp v0 (.int 0)).bind fun hp1 =>
  m166_7 F F v0 0 hp1
theorem t166_0 {d c w n : Nat} (hd : 4 ≤ d) (F : Nat) : ∀ (v0 : Nat) (lv : List (Nat × Value)) (hp : List mE) (v : Int32) (hp' : List mE), alk 0 lv = some (.ref v0) → lvk n lv → hp.length = n → v0 < n → m166_0 F v0 hp = some (v, hp') → Rn d 166 0 lv [] hp c w (some (.int v), hp', c, w) := by
  obtain ⟨d', rfl⟩ : ∃ d', d = d' + 1 := ⟨d - 1, by omega⟩
  intro v0 lv hp v hp' l0 ok hn r_v0 h
  unfold m166_0 at h
  refine Rn.aload_n n166_0 l0 ?_
  refine Rn.ic (v := 0) n166_1 (by decide) ?_
  obtain ⟨hp1, hhp1, h⟩ := Option.bind_eq_some_iff.mp h
  refine Rn.pf n166_2 mo166 fl11_201 ft11_15 rfl ff11_15 (fun _ _ hh => by cases hh) hhp1 ?_
  have hn := (pfv_len hhp1).trans hn
  refine Rn.ic (v := 0) n166_5 (by decide) ?_
  refine Rn.isn (m := n) n166_6 rfl ml166 (by decide) (fun lv l1 hk hok => ?_)
  have l0 := hk 0 _ (by decide) (Or.inl rfl) l0
  have ok := hok ok
  exact t166_7 hd F  F _ _ lv _ _ _ l0 l1 ok hn r_v0  h
def e166 (F : Nat) (a0 : Nat) (hp : List mE) : Option (Int32 × List mE) := m166_0 F a0 hp
theorem c166 {d : Nat} (hd : 4 ≤ d) (F : Nat) (a0 : Nat) (hp : List mE) (v : Int32) (hp' : List mE) (ra0 : a0 < hp.length) (h : e166 F a0 hp = some (v, hp')) : Rn d 166 0 (lv_args 0 [.ref a0]) [] hp 0 0 (some (.int v), hp', 0, 0) :=
  t166_0 (n := hp.length) hd F a0 (lv_args 0 [.ref a0]) hp v hp' rfl (lvk_args (okc (okr ra0) okn)) rfl ra0 h
/-! MirrorRootsModel.length -/
def m167_20 (F : Nat) (t0 : Int32) (hp : List mE) : Option (Int32 × List mE) :=
  some (t0, hp)
theorem t167_20 {d c w n : Nat} (hd : 2 ≤ d) (F : Nat) : ∀ (t0 : Int32) (lv : List (Nat × Value)) (hp : List mE) (v : Int32) (hp' : List mE), lvk n lv → hp.length = n → m167_20 F t0 hp = some (v, hp') → Rn d 167 20 lv [.int t0] hp c w (some (.int v), hp', c, w) := by
  obtain ⟨d', rfl⟩ : ∃ d', d = d' + 1 := ⟨d - 1, by omega⟩
  intro t0 lv hp v hp' ok hn h
  unfold m167_20 at h
  have e1 := (Prod.mk.inj (Option.some.inj h)).1
  have e2 := (Prod.mk.inj (Option.some.inj h)).2
  subst e1
  subst e2
  exact Rn.iret n167_20 mr167
def m167_0 (F : Nat) (v0 : Nat) (v1 : Int32) (hp : List mE) : Option (Int32 × List mE) :=
  (rcv 11 hp v0).bind fun u2 =>
  (e160 F v0 v1 hp).bind fun q1 =>
  if mc1 .eq q1.1 = true then
    m167_20 F ((-1001)) q1.2
  else
    (gfr 11 17 q1.2 v0).bind fun x4 =>
    (rdI q1.2 x4 v1).bind fun x5 =>
    m167_20 F x5 q1.2
theorem t167_0 {d c w n : Nat} (hd : 2 ≤ d) (F : Nat) : ∀ (v0 : Nat) (v1 : Int32) (lv : List (Nat × Value)) (hp : List mE) (v : Int32) (hp' : List mE), alk 0 lv = some (.ref v0) → alk 1 lv = some (.int v1) → lvk n lv → hp.length = n → v0 < n → m167_0 F v0 v1 hp = some (v, hp') → Rn d 167 0 lv [] hp c w (some (.int v), hp', c, w) := by
  obtain ⟨d', rfl⟩ : ∃ d', d = d' + 1 := ⟨d - 1, by omega⟩
  intro v0 v1 lv hp v hp' l0 l1 ok hn r_v0 h
  unfold m167_0 at h
  refine Rn.aload_n n167_0 l0 ?_
  refine Rn.iload_n n167_1 l1 ?_
  obtain ⟨u2, hu2, h⟩ := Option.bind_eq_some_iff.mp h
  obtain ⟨q1, hq1, h⟩ := Option.bind_eq_some_iff.mp h
  have gq1 := c160 (d := d') (by omega) F _ _ _ _ _ (by rw [hn]; exact r_v0) hq1
  refine Rn.cv (As := [.int v1]) (rr := []) n167_2 mo167 mm11_222 (by decide) mq160 rfl rfl rfl rfl (by rw [mo160]; exact hu2) (Nat.le_of_ble_eq_true rfl) (by rw [hn]; exact (okc (okr r_v0) (okc rfl okn))) (by rw [hn]; exact okn) (by rw [hn]; exact ok) (by rw [ml160]; exact Nat.le_of_ble_eq_true rfl) gq1 ?_
  have hn := (Rn.len gq1).trans hn
  show Rn _ 167 5 lv [.int q1.1] q1.2 c w _
  by_cases hc3 : mc1 .eq q1.1 = true
  · rw [if_pos hc3] at h
    refine Rn.c1t (t := 17) n167_5 (by decide) hc3 ?_
    refine Rn.sp (v := (-1001)) n167_17 (by decide) ?_
    exact t167_20 hd F  _ lv _ _ _  ok hn   h
  · rw [if_neg hc3] at h
    refine Rn.c1f (t := 17) n167_5 (by decide) hc3 ?_
    refine Rn.aload_n n167_8 l0 ?_
    obtain ⟨x4, hx4, h⟩ := Option.bind_eq_some_iff.mp h
    refine Rn.gf n167_9 mo167 fl11_40 (gfr_v hx4).1 ?_
    have r_x4 : x4 < n := by rw [← hn]; exact (gfr_v hx4).2
    refine Rn.iload_n n167_12 l1 ?_
    obtain ⟨x5, hx5, h⟩ := Option.bind_eq_some_iff.mp h
    refine Rn.iald n167_13 hx5 ?_
    refine Rn.goto (t := 20) n167_14 (by decide) ?_
    exact t167_20 hd F  _ lv _ _ _  ok hn   h
def e167 (F : Nat) (a0 : Nat) (a1 : Int32) (hp : List mE) : Option (Int32 × List mE) := m167_0 F a0 a1 hp
theorem c167 {d : Nat} (hd : 2 ≤ d) (F : Nat) (a0 : Nat) (a1 : Int32) (hp : List mE) (v : Int32) (hp' : List mE) (ra0 : a0 < hp.length) (h : e167 F a0 a1 hp = some (v, hp')) : Rn d 167 0 (lv_args 0 [.ref a0, .int a1]) [] hp 0 0 (some (.int v), hp', 0, 0) :=
  t167_0 (n := hp.length) hd F a0 a1 (lv_args 0 [.ref a0, .int a1]) hp v hp' rfl rfl (lvk_args (okc (okr ra0) (okc rfl okn))) rfl ra0 h
/-! MirrorRootsModel.at -/
def m168_45 (F : Nat) (t0 : Int32) (hp : List mE) : Option (Int32 × List mE) :=
  some (t0, hp)
theorem t168_45 {d c w n : Nat} (hd : 2 ≤ d) (F : Nat) : ∀ (t0 : Int32) (lv : List (Nat × Value)) (hp : List mE) (v : Int32) (hp' : List mE), lvk n lv → hp.length = n → m168_45 F t0 hp = some (v, hp') → Rn d 168 45 lv [.int t0] hp c w (some (.int v), hp', c, w) := by
  obtain ⟨d', rfl⟩ : ∃ d', d = d' + 1 := ⟨d - 1, by omega⟩
  intro t0 lv hp v hp' ok hn h
  unfold m168_45 at h
  have e1 := (Prod.mk.inj (Option.some.inj h)).1
  have e2 := (Prod.mk.inj (Option.some.inj h)).2
  subst e1
  subst e2
  exact Rn.iret n168_45 mr168
def m168_0 (F : Nat) (v0 : Nat) (v1 : Int32) (v2 : Int32) (hp : List mE) : Option (Int32 × List mE) :=
  (rcv 11 hp v0).bind fun u2 =>
  (e160 F v0 v1 hp).bind fun q1 =>
  if mc1 .ne q1.1 = true then
    (gfr 11 17 q1.2 v0).bind fun x4 =>
    (rdI q1.2 x4 v1).bind fun x5 =>
    (e137 F v2.toInt64 0 ((x5 - 1).toInt64) q1.2).bind fun q6 =>
    if mc1 .eq q6.1 = true then
      m168_45 F ((-1)) q6.2
    else
      (gfr 11 18 q6.2 v0).bind fun x8 =>
      (rdI q6.2 x8 ((20 * v1) + v2)).bind fun x9 =>
      m168_45 F x9 q6.2
  else
    some ((-1001), q1.2)
theorem t168_0 {d c w n : Nat} (hd : 2 ≤ d) (F : Nat) : ∀ (v0 : Nat) (v1 : Int32) (v2 : Int32) (lv : List (Nat × Value)) (hp : List mE) (v : Int32) (hp' : List mE), alk 0 lv = some (.ref v0) → alk 1 lv = some (.int v1) → alk 2 lv = some (.int v2) → lvk n lv → hp.length = n → v0 < n → m168_0 F v0 v1 v2 hp = some (v, hp') → Rn d 168 0 lv [] hp c w (some (.int v), hp', c, w) := by
  obtain ⟨d', rfl⟩ : ∃ d', d = d' + 1 := ⟨d - 1, by omega⟩
  intro v0 v1 v2 lv hp v hp' l0 l1 l2 ok hn r_v0 h
  unfold m168_0 at h
  refine Rn.aload_n n168_0 l0 ?_
  refine Rn.iload_n n168_1 l1 ?_
  obtain ⟨u2, hu2, h⟩ := Option.bind_eq_some_iff.mp h
  obtain ⟨q1, hq1, h⟩ := Option.bind_eq_some_iff.mp h
  have gq1 := c160 (d := d') (by omega) F _ _ _ _ _ (by rw [hn]; exact r_v0) hq1
  refine Rn.cv (As := [.int v1]) (rr := []) n168_2 mo168 mm11_222 (by decide) mq160 rfl rfl rfl rfl (by rw [mo160]; exact hu2) (Nat.le_of_ble_eq_true rfl) (by rw [hn]; exact (okc (okr r_v0) (okc rfl okn))) (by rw [hn]; exact okn) (by rw [hn]; exact ok) (by rw [ml160]; exact Nat.le_of_ble_eq_true rfl) gq1 ?_
  have hn := (Rn.len gq1).trans hn
  show Rn _ 168 5 lv [.int q1.1] q1.2 c w _
  by_cases hc3 : mc1 .ne q1.1 = true
  · rw [if_pos hc3] at h
    refine Rn.c1t (t := 12) n168_5 (by decide) hc3 ?_
    refine Rn.iload_n n168_12 l2 ?_
    refine Rn.p n168_13 rfl ?_
    refine Rn.lc (v := 0) n168_14 (by decide) ?_
    refine Rn.aload_n n168_15 l0 ?_
    obtain ⟨x4, hx4, h⟩ := Option.bind_eq_some_iff.mp h
    refine Rn.gf n168_16 mo168 fl11_40 (gfr_v hx4).1 ?_
    have r_x4 : x4 < n := by rw [← hn]; exact (gfr_v hx4).2
    refine Rn.iload_n n168_19 l1 ?_
    obtain ⟨x5, hx5, h⟩ := Option.bind_eq_some_iff.mp h
    refine Rn.iald n168_20 hx5 ?_
    refine Rn.ic (v := 1) n168_21 (by decide) ?_
    refine Rn.p n168_22 rfl ?_
    refine Rn.p n168_23 rfl ?_
    obtain ⟨q6, hq6, h⟩ := Option.bind_eq_some_iff.mp h
    have gq6 := c137 (d := d') (by omega) F _ _ _ _ _ _  hq6
    refine Rn.cs (as := [.long v2.toInt64, .long 0, .long ((x5 - 1).toInt64)]) (rr := []) n168_24 mo168 mm11_116 mq137 rfl rfl rfl rfl (Nat.le_of_ble_eq_true rfl) (by rw [hn]; exact (okc rfl (okc rfl (okc rfl okn)))) (by rw [hn]; exact okn) (by rw [hn]; exact ok) (by rw [ml137]; exact Nat.le_of_ble_eq_true rfl) gq6 ?_
    have hn := (Rn.len gq6).trans hn
    show Rn _ 168 27 lv [.int q6.1] q6.2 c w _
    by_cases hc7 : mc1 .eq q6.1 = true
    · rw [if_pos hc7] at h
      refine Rn.c1t (t := 44) n168_27 (by decide) hc7 ?_
      refine Rn.ic (v := (-1)) n168_44 (by decide) ?_
      exact t168_45 hd F  _ lv _ _ _  ok hn   h
    · rw [if_neg hc7] at h
      refine Rn.c1f (t := 44) n168_27 (by decide) hc7 ?_
      refine Rn.aload_n n168_30 l0 ?_
      obtain ⟨x8, hx8, h⟩ := Option.bind_eq_some_iff.mp h
      refine Rn.gf n168_31 mo168 fl11_43 (gfr_v hx8).1 ?_
      have r_x8 : x8 < n := by rw [← hn]; exact (gfr_v hx8).2
      refine Rn.bp (v := 20) n168_34 (by decide) ?_
      refine Rn.iload_n n168_36 l1 ?_
      refine Rn.p n168_37 rfl ?_
      refine Rn.iload_n n168_38 l2 ?_
      refine Rn.p n168_39 rfl ?_
      obtain ⟨x9, hx9, h⟩ := Option.bind_eq_some_iff.mp h
      refine Rn.iald n168_40 hx9 ?_
      refine Rn.goto (t := 45) n168_41 (by decide) ?_
      exact t168_45 hd F  _ lv _ _ _  ok hn   h
  · rw [if_neg hc3] at h
    refine Rn.c1f (t := 12) n168_5 (by decide) hc3 ?_
    refine Rn.sp (v := (-1001)) n168_8 (by decide) ?_
    have e1 := (Prod.mk.inj (Option.some.inj h)).1
    have e2 := (Prod.mk.inj (Option.some.inj h)).2
    subst e1
    subst e2
    exact Rn.iret n168_11 mr168
def e168 (F : Nat) (a0 : Nat) (a1 : Int32) (a2 : Int32) (hp : List mE) : Option (Int32 × List mE) := m168_0 F a0 a1 a2 hp
theorem c168 {d : Nat} (hd : 2 ≤ d) (F : Nat) (a0 : Nat) (a1 : Int32) (a2 : Int32) (hp : List mE) (v : Int32) (hp' : List mE) (ra0 : a0 < hp.length) (h : e168 F a0 a1 a2 hp = some (v, hp')) : Rn d 168 0 (lv_args 0 [.ref a0, .int a1, .int a2]) [] hp 0 0 (some (.int v), hp', 0, 0) :=
  t168_0 (n := hp.length) hd F a0 a1 a2 (lv_args 0 [.ref a0, .int a1, .int a2]) hp v hp' rfl rfl rfl (lvk_args (okc (okr ra0) (okc rfl (okc rfl okn)))) rfl ra0 h
/-! MirrorRootsModel.square -/
def m169_43 (F : Nat) (rc6 : Nat → Int32 → Int32 → Int32 → List mE → Option (Unit × List mE)) (v0 : Nat) (v1 : Int32) (v2 : Int32) (v3 : Int32) (t0 : Nat) (t1 : Nat) (t2 : Int32) (t3 : Int32) (hp : List mE) : Option (Unit × List mE) :=
  (rdI hp t1 (t2 + t3)).bind fun x1 =>
  (rcv 11 hp t0).bind fun u3 =>
  (e156 F t0 x1 hp).bind fun q2 =>
  rc6 v0 v1 v2 (v3 + 1) q2.2
theorem t169_43 {d c w n : Nat} (hd : 2 ≤ d) (F : Nat) {rc6 : Nat → Int32 → Int32 → Int32 → List mE → Option (Unit × List mE)} (hr6 : ∀ (v0 : Nat) (v1 : Int32) (v2 : Int32) (v3 : Int32) (lv : List (Nat × Value)) (hp : List mE) (v : Unit) (hp' : List mE), alk 0 lv = some (.ref v0) → alk 1 lv = some (.int v1) → alk 2 lv = some (.int v2) → alk 3 lv = some (.int v3) → lvk n lv → hp.length = n → v0 < n → rc6 v0 v1 v2 v3 hp = some (v, hp') → Rn d 169 6 lv [] hp c w (none, hp', c, w)) : ∀ (v0 : Nat) (v1 : Int32) (v2 : Int32) (v3 : Int32) (t0 : Nat) (t1 : Nat) (t2 : Int32) (t3 : Int32) (lv : List (Nat × Value)) (hp : List mE) (v : Unit) (hp' : List mE), alk 0 lv = some (.ref v0) → alk 1 lv = some (.int v1) → alk 2 lv = some (.int v2) → alk 3 lv = some (.int v3) → lvk n lv → hp.length = n → v0 < n → t0 < n → t1 < n → m169_43 F rc6 v0 v1 v2 v3 t0 t1 t2 t3 hp = some (v, hp') → Rn d 169 43 lv [.int t3, .int t2, .ref t1, .ref t0] hp c w (none, hp', c, w) := by
  obtain ⟨d', rfl⟩ : ∃ d', d = d' + 1 := ⟨d - 1, by omega⟩
  intro v0 v1 v2 v3 t0 t1 t2 t3 lv hp v hp' l0 l1 l2 l3 ok hn r_v0 r_t0 r_t1 h
  unfold m169_43 at h
  refine Rn.p n169_43 rfl ?_
  obtain ⟨x1, hx1, h⟩ := Option.bind_eq_some_iff.mp h
  refine Rn.iald n169_44 hx1 ?_
  obtain ⟨u3, hu3, h⟩ := Option.bind_eq_some_iff.mp h
  obtain ⟨q2, hq2, h⟩ := Option.bind_eq_some_iff.mp h
  have gq2 := c156 (d := d') (by omega) F _ _ _ _ _ (by rw [hn]; exact r_t0) hq2
  refine Rn.cv (As := [.int x1]) (rr := []) n169_45 mo169 mm11_204 (by decide) mq156 rfl rfl rfl rfl (by rw [mo156]; exact hu3) (Nat.le_of_ble_eq_true rfl) (by rw [hn]; exact (okc (okr r_t0) (okc rfl okn))) (by rw [hn]; exact okn) (by rw [hn]; exact ok) (by rw [ml156]; exact Nat.le_of_ble_eq_true rfl) gq2 ?_
  have hn := (Rn.len gq2).trans hn
  show Rn _ 169 48 lv [] q2.2 c w _
  refine Rn.ii (m := n) (u := 1) n169_48 ml169 (by decide) (by decide) l3 (fun lv l3 hk hok => ?_)
  have l0 := hk 0 _ (by decide) (Or.inl rfl) l0
  have l1 := hk 1 _ (by decide) (Or.inl rfl) l1
  have l2 := hk 2 _ (by decide) (Or.inl rfl) l2
  have ok := hok ok
  refine Rn.goto (t := 6) n169_51 (by decide) ?_
  exact hr6 _ _ _ _ lv _ _ _ l0 l1 l2 l3 ok hn r_v0  h
def m169_6 (F : Nat) : Nat → Nat → Int32 → Int32 → Int32 → List mE → Option (Unit × List mE)
  | 0, _, _, _, _, _ => none
  | f + 1, v0, v1, v2, v3, hp =>
    (gfr 11 17 hp v0).bind fun x1 =>
    (rdI hp x1 v1).bind fun x2 =>
    if mc2 .ge v3 x2 = true then
      some ((), hp)
    else
      (gfr 11 18 hp v0).bind fun x4 =>
      if mc1 .eq v2 = true then
        m169_43 F (m169_6 F f) v0 v1 v2 v3 v0 x4 (20 * v1) v3 hp
      else
        (gfr 11 17 hp v0).bind fun x6 =>
        (rdI hp x6 v1).bind fun x7 =>
        m169_43 F (m169_6 F f) v0 v1 v2 v3 v0 x4 (20 * v1) ((x7 - 1) - v3) hp
theorem t169_6 {d c w n : Nat} (hd : 2 ≤ d) (F : Nat) : ∀ f : Nat, ∀ (v0 : Nat) (v1 : Int32) (v2 : Int32) (v3 : Int32) (lv : List (Nat × Value)) (hp : List mE) (v : Unit) (hp' : List mE), alk 0 lv = some (.ref v0) → alk 1 lv = some (.int v1) → alk 2 lv = some (.int v2) → alk 3 lv = some (.int v3) → lvk n lv → hp.length = n → v0 < n → m169_6 F f v0 v1 v2 v3 hp = some (v, hp') → Rn d 169 6 lv [] hp c w (none, hp', c, w) := by
  obtain ⟨d', rfl⟩ : ∃ d', d = d' + 1 := ⟨d - 1, by omega⟩
  intro f
  induction f with
  | zero => intro v0 v1 v2 v3 lv hp v hp' l0 l1 l2 l3 ok hn r_v0 h; cases h
  | succ f hr6 =>
    intro v0 v1 v2 v3 lv hp v hp' l0 l1 l2 l3 ok hn r_v0 h
    unfold m169_6 at h
    refine Rn.iload_n n169_6 l3 ?_
    refine Rn.aload_n n169_7 l0 ?_
    obtain ⟨x1, hx1, h⟩ := Option.bind_eq_some_iff.mp h
    refine Rn.gf n169_8 mo169 fl11_40 (gfr_v hx1).1 ?_
    have r_x1 : x1 < n := by rw [← hn]; exact (gfr_v hx1).2
    refine Rn.iload_n n169_11 l1 ?_
    obtain ⟨x2, hx2, h⟩ := Option.bind_eq_some_iff.mp h
    refine Rn.iald n169_12 hx2 ?_
    by_cases hc3 : mc2 .ge v3 x2 = true
    · rw [if_pos hc3] at h
      refine Rn.c2t (t := 54) n169_13 (by decide) hc3 ?_
      have e1 := (Prod.mk.inj (Option.some.inj h)).1
      have e2 := (Prod.mk.inj (Option.some.inj h)).2
      subst e1
      subst e2
      exact Rn.vret n169_54 mr169
    · rw [if_neg hc3] at h
      refine Rn.c2f (t := 54) n169_13 (by decide) hc3 ?_
      refine Rn.aload_n n169_16 l0 ?_
      refine Rn.aload_n n169_17 l0 ?_
      obtain ⟨x4, hx4, h⟩ := Option.bind_eq_some_iff.mp h
      refine Rn.gf n169_18 mo169 fl11_43 (gfr_v hx4).1 ?_
      have r_x4 : x4 < n := by rw [← hn]; exact (gfr_v hx4).2
      refine Rn.bp (v := 20) n169_21 (by decide) ?_
      refine Rn.iload_n n169_23 l1 ?_
      refine Rn.p n169_24 rfl ?_
      refine Rn.iload_n n169_25 l2 ?_
      by_cases hc5 : mc1 .eq v2 = true
      · rw [if_pos hc5] at h
        refine Rn.c1t (t := 42) n169_26 (by decide) hc5 ?_
        refine Rn.iload_n n169_42 l3 ?_
        exact t169_43 hd F hr6 _ _ _ _ _ _ _ _ lv _ _ _ l0 l1 l2 l3 ok hn r_v0 r_v0 r_x4 h
      · rw [if_neg hc5] at h
        refine Rn.c1f (t := 42) n169_26 (by decide) hc5 ?_
        refine Rn.aload_n n169_29 l0 ?_
        obtain ⟨x6, hx6, h⟩ := Option.bind_eq_some_iff.mp h
        refine Rn.gf n169_30 mo169 fl11_40 (gfr_v hx6).1 ?_
        have r_x6 : x6 < n := by rw [← hn]; exact (gfr_v hx6).2
        refine Rn.iload_n n169_33 l1 ?_
        obtain ⟨x7, hx7, h⟩ := Option.bind_eq_some_iff.mp h
        refine Rn.iald n169_34 hx7 ?_
        refine Rn.ic (v := 1) n169_35 (by decide) ?_
        refine Rn.p n169_36 rfl ?_
        refine Rn.iload_n n169_37 l3 ?_
        refine Rn.p n169_38 rfl ?_
        refine Rn.goto (t := 43) n169_39 (by decide) ?_
        exact t169_43 hd F hr6 _ _ _ _ _ _ _ _ lv _ _ _ l0 l1 l2 l3 ok hn r_v0 r_v0 r_x4 h
def m169_0 (F : Nat) (v0 : Nat) (v1 : Int32) (v2 : Int32) (hp : List mE) : Option (Unit × List mE) :=
  (rcv 11 hp v0).bind fun u2 =>
  (e154 F v0 hp).bind fun q1 =>
  m169_6 F F v0 v1 v2 0 q1.2
theorem t169_0 {d c w n : Nat} (hd : 2 ≤ d) (F : Nat) : ∀ (v0 : Nat) (v1 : Int32) (v2 : Int32) (lv : List (Nat × Value)) (hp : List mE) (v : Unit) (hp' : List mE), alk 0 lv = some (.ref v0) → alk 1 lv = some (.int v1) → alk 2 lv = some (.int v2) → lvk n lv → hp.length = n → v0 < n → m169_0 F v0 v1 v2 hp = some (v, hp') → Rn d 169 0 lv [] hp c w (none, hp', c, w) := by
  obtain ⟨d', rfl⟩ : ∃ d', d = d' + 1 := ⟨d - 1, by omega⟩
  intro v0 v1 v2 lv hp v hp' l0 l1 l2 ok hn r_v0 h
  unfold m169_0 at h
  refine Rn.aload_n n169_0 l0 ?_
  obtain ⟨u2, hu2, h⟩ := Option.bind_eq_some_iff.mp h
  obtain ⟨q1, hq1, h⟩ := Option.bind_eq_some_iff.mp h
  have gq1 := c154 (d := d') (by omega) F _ _ _ _ (by rw [hn]; exact r_v0) hq1
  refine Rn.cv (As := []) (rr := []) n169_1 mo169 mm11_198 (by decide) mq154 rfl rfl rfl rfl (by rw [mo154]; exact hu2) (Nat.le_of_ble_eq_true rfl) (by rw [hn]; exact (okc (okr r_v0) okn)) (by rw [hn]; exact okn) (by rw [hn]; exact ok) (by rw [ml154]; exact Nat.le_of_ble_eq_true rfl) gq1 ?_
  have hn := (Rn.len gq1).trans hn
  show Rn _ 169 4 lv [] q1.2 c w _
  refine Rn.ic (v := 0) n169_4 (by decide) ?_
  refine Rn.isn (m := n) n169_5 rfl ml169 (by decide) (fun lv l3 hk hok => ?_)
  have l0 := hk 0 _ (by decide) (Or.inl rfl) l0
  have l1 := hk 1 _ (by decide) (Or.inl rfl) l1
  have l2 := hk 2 _ (by decide) (Or.inl rfl) l2
  have ok := hok ok
  exact t169_6 hd F  F _ _ _ _ lv _ _ _ l0 l1 l2 l3 ok hn r_v0  h
def e169 (F : Nat) (a0 : Nat) (a1 : Int32) (a2 : Int32) (hp : List mE) : Option (Unit × List mE) := m169_0 F a0 a1 a2 hp
theorem c169 {d : Nat} (hd : 2 ≤ d) (F : Nat) (a0 : Nat) (a1 : Int32) (a2 : Int32) (hp : List mE) (v : Unit) (hp' : List mE) (ra0 : a0 < hp.length) (h : e169 F a0 a1 a2 hp = some (v, hp')) : Rn d 169 0 (lv_args 0 [.ref a0, .int a1, .int a2]) [] hp 0 0 (none, hp', 0, 0) :=
  t169_0 (n := hp.length) hd F a0 a1 a2 (lv_args 0 [.ref a0, .int a1, .int a2]) hp v hp' rfl rfl rfl (lvk_args (okc (okr ra0) (okc rfl (okc rfl okn)))) rfl ra0 h
/-! MirrorRootsModel.down -/
def m170_76 (F : Nat) (rc45 : Nat → Int32 → Int32 → List mE → Option (Int32 × List mE)) (v0 : Nat) (v4 : Int32) (t0 : Int32) (t1 : Int32) (hp : List mE) : Option (Int32 × List mE) :=
  rc45 v0 (t0 ||| t1) (v4 + 1) hp
theorem t170_76 {d c w n : Nat} (hd : 3 ≤ d) (F : Nat) {rc45 : Nat → Int32 → Int32 → List mE → Option (Int32 × List mE)} (hr45 : ∀ (v0 : Nat) (v3 : Int32) (v4 : Int32) (lv : List (Nat × Value)) (hp : List mE) (v : Int32) (hp' : List mE), alk 0 lv = some (.ref v0) → alk 3 lv = some (.int v3) → alk 4 lv = some (.int v4) → lvk n lv → hp.length = n → v0 < n → rc45 v0 v3 v4 hp = some (v, hp') → Rn d 170 45 lv [] hp c w (some (.int v), hp', c, w)) : ∀ (v0 : Nat) (v4 : Int32) (t0 : Int32) (t1 : Int32) (lv : List (Nat × Value)) (hp : List mE) (v : Int32) (hp' : List mE), alk 0 lv = some (.ref v0) → alk 4 lv = some (.int v4) → lvk n lv → hp.length = n → v0 < n → m170_76 F rc45 v0 v4 t0 t1 hp = some (v, hp') → Rn d 170 76 lv [.int t1, .int t0] hp c w (some (.int v), hp', c, w) := by
  obtain ⟨d', rfl⟩ : ∃ d', d = d' + 1 := ⟨d - 1, by omega⟩
  intro v0 v4 t0 t1 lv hp v hp' l0 l4 ok hn r_v0 h
  unfold m170_76 at h
  refine Rn.p n170_76 rfl ?_
  refine Rn.isn (m := n) n170_77 rfl ml170 (by decide) (fun lv l3 hk hok => ?_)
  have l0 := hk 0 _ (by decide) (Or.inl rfl) l0
  have l4 := hk 4 _ (by decide) (Or.inl rfl) l4
  have ok := hok ok
  refine Rn.ii (m := n) (u := 1) n170_78 ml170 (by decide) (by decide) l4 (fun lv l4 hk hok => ?_)
  have l0 := hk 0 _ (by decide) (Or.inl rfl) l0
  have l3 := hk 3 _ (by decide) (Or.inl rfl) l3
  have ok := hok ok
  refine Rn.goto (t := 45) n170_81 (by decide) ?_
  exact hr45 _ _ _ lv _ _ _ l0 l3 l4 ok hn r_v0  h
def m170_45 (F : Nat) : Nat → Nat → Int32 → Int32 → List mE → Option (Int32 × List mE)
  | 0, _, _, _, _ => none
  | f + 1, v0, v3, v4, hp =>
    (gfi 11 0 hp v0).bind fun x1 =>
    if mc2 .ge v4 x1 = true then
      some (v3, hp)
    else
      (gfr 11 13 hp v0).bind fun x3 =>
      (e157 F x3 0 v4 hp).bind fun q4 =>
      if mc1 .eq q4.1 = true then
        m170_76 F (m170_45 F f) v0 v4 v3 0 q4.2
      else
        m170_76 F (m170_45 F f) v0 v4 v3 (1 <<< (v4 &&& 31)) q4.2
theorem t170_45 {d c w n : Nat} (hd : 3 ≤ d) (F : Nat) : ∀ f : Nat, ∀ (v0 : Nat) (v3 : Int32) (v4 : Int32) (lv : List (Nat × Value)) (hp : List mE) (v : Int32) (hp' : List mE), alk 0 lv = some (.ref v0) → alk 3 lv = some (.int v3) → alk 4 lv = some (.int v4) → lvk n lv → hp.length = n → v0 < n → m170_45 F f v0 v3 v4 hp = some (v, hp') → Rn d 170 45 lv [] hp c w (some (.int v), hp', c, w) := by
  obtain ⟨d', rfl⟩ : ∃ d', d = d' + 1 := ⟨d - 1, by omega⟩
  intro f
  induction f with
  | zero => intro v0 v3 v4 lv hp v hp' l0 l3 l4 ok hn r_v0 h; cases h
  | succ f hr45 =>
    intro v0 v3 v4 lv hp v hp' l0 l3 l4 ok hn r_v0 h
    unfold m170_45 at h
    refine Rn.iload n170_45 l4 ?_
    refine Rn.aload_n n170_47 l0 ?_
    obtain ⟨x1, hx1, h⟩ := Option.bind_eq_some_iff.mp h
    refine Rn.gf n170_48 mo170 fl11_7 (gfi_v hx1) ?_
    by_cases hc2 : mc2 .ge v4 x1 = true
    · rw [if_pos hc2] at h
      refine Rn.c2t (t := 84) n170_51 (by decide) hc2 ?_
      refine Rn.iload_n n170_84 l3 ?_
      have e1 := (Prod.mk.inj (Option.some.inj h)).1
      have e2 := (Prod.mk.inj (Option.some.inj h)).2
      subst e1
      subst e2
      exact Rn.iret n170_85 mr170
    · rw [if_neg hc2] at h
      refine Rn.c2f (t := 84) n170_51 (by decide) hc2 ?_
      refine Rn.iload_n n170_54 l3 ?_
      refine Rn.aload_n n170_55 l0 ?_
      obtain ⟨x3, hx3, h⟩ := Option.bind_eq_some_iff.mp h
      refine Rn.gf n170_56 mo170 fl11_33 (gfr_v hx3).1 ?_
      have r_x3 : x3 < n := by rw [← hn]; exact (gfr_v hx3).2
      refine Rn.ic (v := 0) n170_59 (by decide) ?_
      refine Rn.iload n170_60 l4 ?_
      obtain ⟨q4, hq4, h⟩ := Option.bind_eq_some_iff.mp h
      have gq4 := c157 (d := d') (by omega) F _ _ _ _ _ _ (by rw [hn]; exact r_x3) hq4
      refine Rn.cs (as := [.ref x3, .int 0, .int v4]) (rr := [.int v3]) n170_62 mo170 mm11_194 mq157 rfl rfl rfl rfl (Nat.le_of_ble_eq_true rfl) (by rw [hn]; exact (okc (okr r_x3) (okc rfl (okc rfl okn)))) (by rw [hn]; exact (okc rfl okn)) (by rw [hn]; exact ok) (by rw [ml157]; exact Nat.le_of_ble_eq_true rfl) gq4 ?_
      have hn := (Rn.len gq4).trans hn
      show Rn _ 170 65 lv [.int q4.1, .int v3] q4.2 c w _
      by_cases hc5 : mc1 .eq q4.1 = true
      · rw [if_pos hc5] at h
        refine Rn.c1t (t := 75) n170_65 (by decide) hc5 ?_
        refine Rn.ic (v := 0) n170_75 (by decide) ?_
        exact t170_76 hd F hr45 _ _ _ _ lv _ _ _ l0 l4 ok hn r_v0  h
      · rw [if_neg hc5] at h
        refine Rn.c1f (t := 75) n170_65 (by decide) hc5 ?_
        refine Rn.ic (v := 1) n170_68 (by decide) ?_
        refine Rn.iload n170_69 l4 ?_
        refine Rn.p n170_71 rfl ?_
        refine Rn.goto (t := 76) n170_72 (by decide) ?_
        exact t170_76 hd F hr45 _ _ _ _ lv _ _ _ l0 l4 ok hn r_v0  h
def m170_37 (F : Nat) (v0 : Nat) (t0 : Nat) (t1 : Int32) (t2 : Int32) (hp : List mE) : Option (Int32 × List mE) :=
  (rcv 11 hp t0).bind fun u2 =>
  (e169 F t0 t1 t2 hp).bind fun q1 =>
  m170_45 F F v0 0 0 q1.2
theorem t170_37 {d c w n : Nat} (hd : 3 ≤ d) (F : Nat) : ∀ (v0 : Nat) (t0 : Nat) (t1 : Int32) (t2 : Int32) (lv : List (Nat × Value)) (hp : List mE) (v : Int32) (hp' : List mE), alk 0 lv = some (.ref v0) → lvk n lv → hp.length = n → v0 < n → t0 < n → m170_37 F v0 t0 t1 t2 hp = some (v, hp') → Rn d 170 37 lv [.int t2, .int t1, .ref t0] hp c w (some (.int v), hp', c, w) := by
  obtain ⟨d', rfl⟩ : ∃ d', d = d' + 1 := ⟨d - 1, by omega⟩
  intro v0 t0 t1 t2 lv hp v hp' l0 ok hn r_v0 r_t0 h
  unfold m170_37 at h
  obtain ⟨u2, hu2, h⟩ := Option.bind_eq_some_iff.mp h
  obtain ⟨q1, hq1, h⟩ := Option.bind_eq_some_iff.mp h
  have gq1 := c169 (d := d') (by omega) F _ _ _ _ _ _ (by rw [hn]; exact r_t0) hq1
  refine Rn.cv (As := [.int t1, .int t2]) (rr := []) n170_37 mo170 mm11_225 (by decide) mq169 rfl rfl rfl rfl (by rw [mo169]; exact hu2) (Nat.le_of_ble_eq_true rfl) (by rw [hn]; exact (okc (okr r_t0) (okc rfl (okc rfl okn)))) (by rw [hn]; exact okn) (by rw [hn]; exact ok) (by rw [ml169]; exact Nat.le_of_ble_eq_true rfl) gq1 ?_
  have hn := (Rn.len gq1).trans hn
  show Rn _ 170 40 lv [] q1.2 c w _
  refine Rn.ic (v := 0) n170_40 (by decide) ?_
  refine Rn.isn (m := n) n170_41 rfl ml170 (by decide) (fun lv l3 hk hok => ?_)
  have l0 := hk 0 _ (by decide) (Or.inl rfl) l0
  have ok := hok ok
  refine Rn.ic (v := 0) n170_42 (by decide) ?_
  refine Rn.is (m := n) n170_43 ml170 (by decide) (fun lv l4 hk hok => ?_)
  have l0 := hk 0 _ (by decide) (Or.inl rfl) l0
  have l3 := hk 3 _ (by decide) (Or.inl rfl) l3
  have ok := hok ok
  exact t170_45 hd F  F _ _ _ lv _ _ _ l0 l3 l4 ok hn r_v0  h
def m170_0 (F : Nat) (v0 : Nat) (v1 : Int32) (v2 : Int32) (hp : List mE) : Option (Int32 × List mE) :=
  (rcv 11 hp v0).bind fun u2 =>
  (e160 F v0 v1 hp).bind fun q1 =>
  if mc1 .ne q1.1 = true then
    (e137 F v2.toInt64 0 1 q1.2).bind fun q4 =>
    if mc1 .ne q4.1 = true then
      if mc1 .ne v2 = true then
        m170_37 F v0 v0 v1 0 q4.2
      else
        m170_37 F v0 v0 v1 1 q4.2
    else
      some ((-1002), q4.2)
  else
    some ((-1001), q1.2)
theorem t170_0 {d c w n : Nat} (hd : 3 ≤ d) (F : Nat) : ∀ (v0 : Nat) (v1 : Int32) (v2 : Int32) (lv : List (Nat × Value)) (hp : List mE) (v : Int32) (hp' : List mE), alk 0 lv = some (.ref v0) → alk 1 lv = some (.int v1) → alk 2 lv = some (.int v2) → lvk n lv → hp.length = n → v0 < n → m170_0 F v0 v1 v2 hp = some (v, hp') → Rn d 170 0 lv [] hp c w (some (.int v), hp', c, w) := by
  obtain ⟨d', rfl⟩ : ∃ d', d = d' + 1 := ⟨d - 1, by omega⟩
  intro v0 v1 v2 lv hp v hp' l0 l1 l2 ok hn r_v0 h
  unfold m170_0 at h
  refine Rn.aload_n n170_0 l0 ?_
  refine Rn.iload_n n170_1 l1 ?_
  obtain ⟨u2, hu2, h⟩ := Option.bind_eq_some_iff.mp h
  obtain ⟨q1, hq1, h⟩ := Option.bind_eq_some_iff.mp h
  have gq1 := c160 (d := d') (by omega) F _ _ _ _ _ (by rw [hn]; exact r_v0) hq1
  refine Rn.cv (As := [.int v1]) (rr := []) n170_2 mo170 mm11_222 (by decide) mq160 rfl rfl rfl rfl (by rw [mo160]; exact hu2) (Nat.le_of_ble_eq_true rfl) (by rw [hn]; exact (okc (okr r_v0) (okc rfl okn))) (by rw [hn]; exact okn) (by rw [hn]; exact ok) (by rw [ml160]; exact Nat.le_of_ble_eq_true rfl) gq1 ?_
  have hn := (Rn.len gq1).trans hn
  show Rn _ 170 5 lv [.int q1.1] q1.2 c w _
  by_cases hc3 : mc1 .ne q1.1 = true
  · rw [if_pos hc3] at h
    refine Rn.c1t (t := 12) n170_5 (by decide) hc3 ?_
    refine Rn.iload_n n170_12 l2 ?_
    refine Rn.p n170_13 rfl ?_
    refine Rn.lc (v := 0) n170_14 (by decide) ?_
    refine Rn.lc (v := 1) n170_15 (by decide) ?_
    obtain ⟨q4, hq4, h⟩ := Option.bind_eq_some_iff.mp h
    have gq4 := c137 (d := d') (by omega) F _ _ _ _ _ _  hq4
    refine Rn.cs (as := [.long v2.toInt64, .long 0, .long 1]) (rr := []) n170_16 mo170 mm11_116 mq137 rfl rfl rfl rfl (Nat.le_of_ble_eq_true rfl) (by rw [hn]; exact (okc rfl (okc rfl (okc rfl okn)))) (by rw [hn]; exact okn) (by rw [hn]; exact ok) (by rw [ml137]; exact Nat.le_of_ble_eq_true rfl) gq4 ?_
    have hn := (Rn.len gq4).trans hn
    show Rn _ 170 19 lv [.int q4.1] q4.2 c w _
    by_cases hc5 : mc1 .ne q4.1 = true
    · rw [if_pos hc5] at h
      refine Rn.c1t (t := 26) n170_19 (by decide) hc5 ?_
      refine Rn.aload_n n170_26 l0 ?_
      refine Rn.iload_n n170_27 l1 ?_
      refine Rn.iload_n n170_28 l2 ?_
      by_cases hc6 : mc1 .ne v2 = true
      · rw [if_pos hc6] at h
        refine Rn.c1t (t := 36) n170_29 (by decide) hc6 ?_
        refine Rn.ic (v := 0) n170_36 (by decide) ?_
        exact t170_37 hd F  _ _ _ _ lv _ _ _ l0 ok hn r_v0 r_v0 h
      · rw [if_neg hc6] at h
        refine Rn.c1f (t := 36) n170_29 (by decide) hc6 ?_
        refine Rn.ic (v := 1) n170_32 (by decide) ?_
        refine Rn.goto (t := 37) n170_33 (by decide) ?_
        exact t170_37 hd F  _ _ _ _ lv _ _ _ l0 ok hn r_v0 r_v0 h
    · rw [if_neg hc5] at h
      refine Rn.c1f (t := 26) n170_19 (by decide) hc5 ?_
      refine Rn.sp (v := (-1002)) n170_22 (by decide) ?_
      have e1 := (Prod.mk.inj (Option.some.inj h)).1
      have e2 := (Prod.mk.inj (Option.some.inj h)).2
      subst e1
      subst e2
      exact Rn.iret n170_25 mr170
  · rw [if_neg hc3] at h
    refine Rn.c1f (t := 12) n170_5 (by decide) hc3 ?_
    refine Rn.sp (v := (-1001)) n170_8 (by decide) ?_
    have e1 := (Prod.mk.inj (Option.some.inj h)).1
    have e2 := (Prod.mk.inj (Option.some.inj h)).2
    subst e1
    subst e2
    exact Rn.iret n170_11 mr170
def e170 (F : Nat) (a0 : Nat) (a1 : Int32) (a2 : Int32) (hp : List mE) : Option (Int32 × List mE) := m170_0 F a0 a1 a2 hp
theorem c170 {d : Nat} (hd : 3 ≤ d) (F : Nat) (a0 : Nat) (a1 : Int32) (a2 : Int32) (hp : List mE) (v : Int32) (hp' : List mE) (ra0 : a0 < hp.length) (h : e170 F a0 a1 a2 hp = some (v, hp')) : Rn d 170 0 (lv_args 0 [.ref a0, .int a1, .int a2]) [] hp 0 0 (some (.int v), hp', 0, 0) :=
  t170_0 (n := hp.length) hd F a0 a1 a2 (lv_args 0 [.ref a0, .int a1, .int a2]) hp v hp' rfl rfl rfl (lvk_args (okc (okr ra0) (okc rfl (okc rfl okn)))) rfl ra0 h
/-! MirrorRootsModel.root -/
def m171_28 (F : Nat) (hp : List mE) : Option (Int64 × List mE) :=
  some ((-1002), hp)
theorem t171_28 {d c w n : Nat} (hd : 3 ≤ d) (F : Nat) : ∀ (lv : List (Nat × Value)) (hp : List mE) (v : Int64) (hp' : List mE), lvk n lv → hp.length = n → m171_28 F hp = some (v, hp') → Rn d 171 28 lv [] hp c w (some (.long v), hp', c, w) := by
  obtain ⟨d', rfl⟩ : ∃ d', d = d' + 1 := ⟨d - 1, by omega⟩
  intro lv hp v hp' ok hn h
  unfold m171_28 at h
  refine Rn.ldc2 n171_28 mo171 cL11_231 ?_
  have e1 := (Prod.mk.inj (Option.some.inj h)).1
  have e2 := (Prod.mk.inj (Option.some.inj h)).2
  subst e1
  subst e2
  exact Rn.lret n171_31 mr171
def m171_0 (F : Nat) (v0 : Nat) (v1 : Int32) (v2 : Int32) (v3 : Int32) (hp : List mE) : Option (Int64 × List mE) :=
  (rcv 11 hp v0).bind fun u2 =>
  (e160 F v0 v1 hp).bind fun q1 =>
  if mc1 .ne q1.1 = true then
    (rcv 11 q1.2 v0).bind fun u5 =>
    (e150 F v0 v2 q1.2).bind fun q4 =>
    if mc1 .eq q4.1 = true then
      m171_28 F q4.2
    else
      (rcv 11 q4.2 v0).bind fun u8 =>
      (e150 F v0 v3 q4.2).bind fun q7 =>
      if mc1 .ne q7.1 = true then
        (rcv 11 q7.2 v0).bind fun u11 =>
        (e169 F v0 v1 0 q7.2).bind fun q10 =>
        (gfr 11 13 q10.2 v0).bind fun x12 =>
        (rdJ q10.2 x12 ((5 * v2) + v3)).bind fun x13 =>
        some (x13, q10.2)
      else
        m171_28 F q7.2
  else
    some ((-1001), q1.2)
theorem t171_0 {d c w n : Nat} (hd : 3 ≤ d) (F : Nat) : ∀ (v0 : Nat) (v1 : Int32) (v2 : Int32) (v3 : Int32) (lv : List (Nat × Value)) (hp : List mE) (v : Int64) (hp' : List mE), alk 0 lv = some (.ref v0) → alk 1 lv = some (.int v1) → alk 2 lv = some (.int v2) → alk 3 lv = some (.int v3) → lvk n lv → hp.length = n → v0 < n → m171_0 F v0 v1 v2 v3 hp = some (v, hp') → Rn d 171 0 lv [] hp c w (some (.long v), hp', c, w) := by
  obtain ⟨d', rfl⟩ : ∃ d', d = d' + 1 := ⟨d - 1, by omega⟩
  intro v0 v1 v2 v3 lv hp v hp' l0 l1 l2 l3 ok hn r_v0 h
  unfold m171_0 at h
  refine Rn.aload_n n171_0 l0 ?_
  refine Rn.iload_n n171_1 l1 ?_
  obtain ⟨u2, hu2, h⟩ := Option.bind_eq_some_iff.mp h
  obtain ⟨q1, hq1, h⟩ := Option.bind_eq_some_iff.mp h
  have gq1 := c160 (d := d') (by omega) F _ _ _ _ _ (by rw [hn]; exact r_v0) hq1
  refine Rn.cv (As := [.int v1]) (rr := []) n171_2 mo171 mm11_222 (by decide) mq160 rfl rfl rfl rfl (by rw [mo160]; exact hu2) (Nat.le_of_ble_eq_true rfl) (by rw [hn]; exact (okc (okr r_v0) (okc rfl okn))) (by rw [hn]; exact okn) (by rw [hn]; exact ok) (by rw [ml160]; exact Nat.le_of_ble_eq_true rfl) gq1 ?_
  have hn := (Rn.len gq1).trans hn
  show Rn _ 171 5 lv [.int q1.1] q1.2 c w _
  by_cases hc3 : mc1 .ne q1.1 = true
  · rw [if_pos hc3] at h
    refine Rn.c1t (t := 12) n171_5 (by decide) hc3 ?_
    refine Rn.aload_n n171_12 l0 ?_
    refine Rn.iload_n n171_13 l2 ?_
    obtain ⟨u5, hu5, h⟩ := Option.bind_eq_some_iff.mp h
    obtain ⟨q4, hq4, h⟩ := Option.bind_eq_some_iff.mp h
    have gq4 := c150 (d := d') (by omega) F _ _ _ _ _ (by rw [hn]; exact r_v0) hq4
    refine Rn.cv (As := [.int v2]) (rr := []) n171_14 mo171 mm11_186 (by decide) mq150 rfl rfl rfl rfl (by rw [mo150]; exact hu5) (Nat.le_of_ble_eq_true rfl) (by rw [hn]; exact (okc (okr r_v0) (okc rfl okn))) (by rw [hn]; exact okn) (by rw [hn]; exact ok) (by rw [ml150]; exact Nat.le_of_ble_eq_true rfl) gq4 ?_
    have hn := (Rn.len gq4).trans hn
    show Rn _ 171 17 lv [.int q4.1] q4.2 c w _
    by_cases hc6 : mc1 .eq q4.1 = true
    · rw [if_pos hc6] at h
      refine Rn.c1t (t := 28) n171_17 (by decide) hc6 ?_
      exact t171_28 hd F  lv _ _ _  ok hn   h
    · rw [if_neg hc6] at h
      refine Rn.c1f (t := 28) n171_17 (by decide) hc6 ?_
      refine Rn.aload_n n171_20 l0 ?_
      refine Rn.iload_n n171_21 l3 ?_
      obtain ⟨u8, hu8, h⟩ := Option.bind_eq_some_iff.mp h
      obtain ⟨q7, hq7, h⟩ := Option.bind_eq_some_iff.mp h
      have gq7 := c150 (d := d') (by omega) F _ _ _ _ _ (by rw [hn]; exact r_v0) hq7
      refine Rn.cv (As := [.int v3]) (rr := []) n171_22 mo171 mm11_186 (by decide) mq150 rfl rfl rfl rfl (by rw [mo150]; exact hu8) (Nat.le_of_ble_eq_true rfl) (by rw [hn]; exact (okc (okr r_v0) (okc rfl okn))) (by rw [hn]; exact okn) (by rw [hn]; exact ok) (by rw [ml150]; exact Nat.le_of_ble_eq_true rfl) gq7 ?_
      have hn := (Rn.len gq7).trans hn
      show Rn _ 171 25 lv [.int q7.1] q7.2 c w _
      by_cases hc9 : mc1 .ne q7.1 = true
      · rw [if_pos hc9] at h
        refine Rn.c1t (t := 32) n171_25 (by decide) hc9 ?_
        refine Rn.aload_n n171_32 l0 ?_
        refine Rn.iload_n n171_33 l1 ?_
        refine Rn.ic (v := 0) n171_34 (by decide) ?_
        obtain ⟨u11, hu11, h⟩ := Option.bind_eq_some_iff.mp h
        obtain ⟨q10, hq10, h⟩ := Option.bind_eq_some_iff.mp h
        have gq10 := c169 (d := d') (by omega) F _ _ _ _ _ _ (by rw [hn]; exact r_v0) hq10
        refine Rn.cv (As := [.int v1, .int 0]) (rr := []) n171_35 mo171 mm11_225 (by decide) mq169 rfl rfl rfl rfl (by rw [mo169]; exact hu11) (Nat.le_of_ble_eq_true rfl) (by rw [hn]; exact (okc (okr r_v0) (okc rfl (okc rfl okn)))) (by rw [hn]; exact okn) (by rw [hn]; exact ok) (by rw [ml169]; exact Nat.le_of_ble_eq_true rfl) gq10 ?_
        have hn := (Rn.len gq10).trans hn
        show Rn _ 171 38 lv [] q10.2 c w _
        refine Rn.aload_n n171_38 l0 ?_
        obtain ⟨x12, hx12, h⟩ := Option.bind_eq_some_iff.mp h
        refine Rn.gf n171_39 mo171 fl11_33 (gfr_v hx12).1 ?_
        have r_x12 : x12 < n := by rw [← hn]; exact (gfr_v hx12).2
        refine Rn.ic (v := 5) n171_42 (by decide) ?_
        refine Rn.iload_n n171_43 l2 ?_
        refine Rn.p n171_44 rfl ?_
        refine Rn.iload_n n171_45 l3 ?_
        refine Rn.p n171_46 rfl ?_
        obtain ⟨x13, hx13, h⟩ := Option.bind_eq_some_iff.mp h
        refine Rn.lald n171_47 hx13 ?_
        have e1 := (Prod.mk.inj (Option.some.inj h)).1
        have e2 := (Prod.mk.inj (Option.some.inj h)).2
        subst e1
        subst e2
        exact Rn.lret n171_48 mr171
      · rw [if_neg hc9] at h
        refine Rn.c1f (t := 32) n171_25 (by decide) hc9 ?_
        exact t171_28 hd F  lv _ _ _  ok hn   h
  · rw [if_neg hc3] at h
    refine Rn.c1f (t := 12) n171_5 (by decide) hc3 ?_
    refine Rn.ldc2 n171_8 mo171 cL11_229 ?_
    have e1 := (Prod.mk.inj (Option.some.inj h)).1
    have e2 := (Prod.mk.inj (Option.some.inj h)).2
    subst e1
    subst e2
    exact Rn.lret n171_11 mr171
def e171 (F : Nat) (a0 : Nat) (a1 : Int32) (a2 : Int32) (a3 : Int32) (hp : List mE) : Option (Int64 × List mE) := m171_0 F a0 a1 a2 a3 hp
theorem c171 {d : Nat} (hd : 3 ≤ d) (F : Nat) (a0 : Nat) (a1 : Int32) (a2 : Int32) (a3 : Int32) (hp : List mE) (v : Int64) (hp' : List mE) (ra0 : a0 < hp.length) (h : e171 F a0 a1 a2 a3 hp = some (v, hp')) : Rn d 171 0 (lv_args 0 [.ref a0, .int a1, .int a2, .int a3]) [] hp 0 0 (some (.long v), hp', 0, 0) :=
  t171_0 (n := hp.length) hd F a0 a1 a2 a3 (lv_args 0 [.ref a0, .int a1, .int a2, .int a3]) hp v hp' rfl rfl rfl rfl (lvk_args (okc (okr ra0) (okc rfl (okc rfl (okc rfl okn))))) rfl ra0 h
/-! MirrorRootsModel.times -/
def m172_80 (F : Nat) (rc36 : Nat → Int32 → Int32 → Int32 → Int32 → List mE → Option (Int32 × List mE)) (v0 : Nat) (v1 : Int32) (v2 : Int32) (v4 : Int32) (v5 : Int32) (t0 : Int32) (t1 : Int32) (hp : List mE) : Option (Int32 × List mE) :=
  if mc2 .le (t0 + t1) 20 = true then
    (rcv 11 hp v0).bind fun u3 =>
    (e156 F v0 v5 hp).bind fun q2 =>
    rc36 v0 v1 v2 (t0 + t1) (v4 + 1) q2.2
  else
    some ((-1005), hp)
theorem t172_80 {d c w n : Nat} (hd : 4 ≤ d) (F : Nat) {rc36 : Nat → Int32 → Int32 → Int32 → Int32 → List mE → Option (Int32 × List mE)} (hr36 : ∀ (v0 : Nat) (v1 : Int32) (v2 : Int32) (v3 : Int32) (v4 : Int32) (lv : List (Nat × Value)) (hp : List mE) (v : Int32) (hp' : List mE), alk 0 lv = some (.ref v0) → alk 1 lv = some (.int v1) → alk 2 lv = some (.int v2) → alk 3 lv = some (.int v3) → alk 4 lv = some (.int v4) → lvk n lv → hp.length = n → v0 < n → rc36 v0 v1 v2 v3 v4 hp = some (v, hp') → Rn d 172 36 lv [] hp c w (some (.int v), hp', c, w)) : ∀ (v0 : Nat) (v1 : Int32) (v2 : Int32) (v4 : Int32) (v5 : Int32) (t0 : Int32) (t1 : Int32) (lv : List (Nat × Value)) (hp : List mE) (v : Int32) (hp' : List mE), alk 0 lv = some (.ref v0) → alk 1 lv = some (.int v1) → alk 2 lv = some (.int v2) → alk 4 lv = some (.int v4) → alk 5 lv = some (.int v5) → lvk n lv → hp.length = n → v0 < n → m172_80 F rc36 v0 v1 v2 v4 v5 t0 t1 hp = some (v, hp') → Rn d 172 80 lv [.int t1, .int t0] hp c w (some (.int v), hp', c, w) := by
  obtain ⟨d', rfl⟩ : ∃ d', d = d' + 1 := ⟨d - 1, by omega⟩
  intro v0 v1 v2 v4 v5 t0 t1 lv hp v hp' l0 l1 l2 l4 l5 ok hn r_v0 h
  unfold m172_80 at h
  refine Rn.p n172_80 rfl ?_
  refine Rn.isn (m := n) n172_81 rfl ml172 (by decide) (fun lv l3 hk hok => ?_)
  have l0 := hk 0 _ (by decide) (Or.inl rfl) l0
  have l1 := hk 1 _ (by decide) (Or.inl rfl) l1
  have l2 := hk 2 _ (by decide) (Or.inl rfl) l2
  have l4 := hk 4 _ (by decide) (Or.inl rfl) l4
  have l5 := hk 5 _ (by decide) (Or.inl rfl) l5
  have ok := hok ok
  refine Rn.iload_n n172_82 l3 ?_
  refine Rn.bp (v := 20) n172_83 (by decide) ?_
  by_cases hc1 : mc2 .le (t0 + t1) 20 = true
  · rw [if_pos hc1] at h
    refine Rn.c2t (t := 92) n172_85 (by decide) hc1 ?_
    refine Rn.aload_n n172_92 l0 ?_
    refine Rn.iload n172_93 l5 ?_
    obtain ⟨u3, hu3, h⟩ := Option.bind_eq_some_iff.mp h
    obtain ⟨q2, hq2, h⟩ := Option.bind_eq_some_iff.mp h
    have gq2 := c156 (d := d') (by omega) F _ _ _ _ _ (by rw [hn]; exact r_v0) hq2
    refine Rn.cv (As := [.int v5]) (rr := []) n172_95 mo172 mm11_204 (by decide) mq156 rfl rfl rfl rfl (by rw [mo156]; exact hu3) (Nat.le_of_ble_eq_true rfl) (by rw [hn]; exact (okc (okr r_v0) (okc rfl okn))) (by rw [hn]; exact okn) (by rw [hn]; exact ok) (by rw [ml156]; exact Nat.le_of_ble_eq_true rfl) gq2 ?_
    have hn := (Rn.len gq2).trans hn
    show Rn _ 172 98 lv [] q2.2 c w _
    refine Rn.ii (m := n) (u := 1) n172_98 ml172 (by decide) (by decide) l4 (fun lv l4 hk hok => ?_)
    have l0 := hk 0 _ (by decide) (Or.inl rfl) l0
    have l1 := hk 1 _ (by decide) (Or.inl rfl) l1
    have l2 := hk 2 _ (by decide) (Or.inl rfl) l2
    have l3 := hk 3 _ (by decide) (Or.inl rfl) l3
    have l5 := hk 5 _ (by decide) (Or.inl rfl) l5
    have ok := hok ok
    refine Rn.goto (t := 36) n172_101 (by decide) ?_
    exact hr36 _ _ _ _ _ lv _ _ _ l0 l1 l2 l3 l4 ok hn r_v0  h
  · rw [if_neg hc1] at h
    refine Rn.c2f (t := 92) n172_85 (by decide) hc1 ?_
    refine Rn.sp (v := (-1005)) n172_88 (by decide) ?_
    have e1 := (Prod.mk.inj (Option.some.inj h)).1
    have e2 := (Prod.mk.inj (Option.some.inj h)).2
    subst e1
    subst e2
    exact Rn.iret n172_91 mr172
def m172_36 (F : Nat) : Nat → Nat → Int32 → Int32 → Int32 → Int32 → List mE → Option (Int32 × List mE)
  | 0, _, _, _, _, _, _ => none
  | f + 1, v0, v1, v2, v3, v4, hp =>
    (gfr 11 17 hp v0).bind fun x1 =>
    (rdI hp x1 v2).bind fun x2 =>
    if mc2 .ge v4 x2 = true then
      (pfv 11 15 hp v0 (.int 0)).bind fun hp4 =>
      (rcv 11 hp4 v0).bind fun u6 =>
      (e165 F v0 v1 hp4).bind fun q5 =>
      (rcv 11 q5.2 v0).bind fun u8 =>
      (e165 F v0 v2 q5.2).bind fun q7 =>
      (rcv 11 q7.2 v0).bind fun u10 =>
      (e163 F v0 q7.2).bind fun q9 =>
      some (q9.1, q9.2)
    else
      (gfr 11 18 hp v0).bind fun x11 =>
      (rdI hp x11 ((20 * v2) + v4)).bind fun x12 =>
      (gfr 11 13 hp v0).bind fun x13 =>
      (e157 F x13 0 x12 hp).bind fun q14 =>
      if mc1 .eq q14.1 = true then
        m172_80 F (m172_36 F f) v0 v1 v2 v4 x12 v3 1 q14.2
      else
        m172_80 F (m172_36 F f) v0 v1 v2 v4 x12 v3 ((-1)) q14.2
theorem t172_36 {d c w n : Nat} (hd : 4 ≤ d) (F : Nat) : ∀ f : Nat, ∀ (v0 : Nat) (v1 : Int32) (v2 : Int32) (v3 : Int32) (v4 : Int32) (lv : List (Nat × Value)) (hp : List mE) (v : Int32) (hp' : List mE), alk 0 lv = some (.ref v0) → alk 1 lv = some (.int v1) → alk 2 lv = some (.int v2) → alk 3 lv = some (.int v3) → alk 4 lv = some (.int v4) → lvk n lv → hp.length = n → v0 < n → m172_36 F f v0 v1 v2 v3 v4 hp = some (v, hp') → Rn d 172 36 lv [] hp c w (some (.int v), hp', c, w) := by
  obtain ⟨d', rfl⟩ : ∃ d', d = d' + 1 := ⟨d - 1, by omega⟩
  intro f
  induction f with
  | zero => intro v0 v1 v2 v3 v4 lv hp v hp' l0 l1 l2 l3 l4 ok hn r_v0 h; cases h
  | succ f hr36 =>
    intro v0 v1 v2 v3 v4 lv hp v hp' l0 l1 l2 l3 l4 ok hn r_v0 h
    unfold m172_36 at h
    refine Rn.iload n172_36 l4 ?_
    refine Rn.aload_n n172_38 l0 ?_
    obtain ⟨x1, hx1, h⟩ := Option.bind_eq_some_iff.mp h
    refine Rn.gf n172_39 mo172 fl11_40 (gfr_v hx1).1 ?_
    have r_x1 : x1 < n := by rw [← hn]; exact (gfr_v hx1).2
    refine Rn.iload_n n172_42 l2 ?_
    obtain ⟨x2, hx2, h⟩ := Option.bind_eq_some_iff.mp h
    refine Rn.iald n172_43 hx2 ?_
    by_cases hc3 : mc2 .ge v4 x2 = true
    · rw [if_pos hc3] at h
      refine Rn.c2t (t := 104) n172_44 (by decide) hc3 ?_
      refine Rn.aload_n n172_104 l0 ?_
      refine Rn.ic (v := 0) n172_105 (by decide) ?_
      obtain ⟨hp4, hhp4, h⟩ := Option.bind_eq_some_iff.mp h
      refine Rn.pf n172_106 mo172 fl11_201 ft11_15 rfl ff11_15 (fun _ _ hh => by cases hh) hhp4 ?_
      have hn := (pfv_len hhp4).trans hn
      refine Rn.aload_n n172_109 l0 ?_
      refine Rn.iload_n n172_110 l1 ?_
      obtain ⟨u6, hu6, h⟩ := Option.bind_eq_some_iff.mp h
      obtain ⟨q5, hq5, h⟩ := Option.bind_eq_some_iff.mp h
      have gq5 := c165 (d := d') (by omega) F _ _ _ _ _ (by rw [hn]; exact r_v0) hq5
      refine Rn.cv (As := [.int v1]) (rr := []) n172_111 mo172 mm11_233 (by decide) mq165 rfl rfl rfl rfl (by rw [mo165]; exact hu6) (Nat.le_of_ble_eq_true rfl) (by rw [hn]; exact (okc (okr r_v0) (okc rfl okn))) (by rw [hn]; exact okn) (by rw [hn]; exact ok) (by rw [ml165]; exact Nat.le_of_ble_eq_true rfl) gq5 ?_
      have hn := (Rn.len gq5).trans hn
      show Rn _ 172 114 lv [] q5.2 c w _
      refine Rn.aload_n n172_114 l0 ?_
      refine Rn.iload_n n172_115 l2 ?_
      obtain ⟨u8, hu8, h⟩ := Option.bind_eq_some_iff.mp h
      obtain ⟨q7, hq7, h⟩ := Option.bind_eq_some_iff.mp h
      have gq7 := c165 (d := d') (by omega) F _ _ _ _ _ (by rw [hn]; exact r_v0) hq7
      refine Rn.cv (As := [.int v2]) (rr := []) n172_116 mo172 mm11_233 (by decide) mq165 rfl rfl rfl rfl (by rw [mo165]; exact hu8) (Nat.le_of_ble_eq_true rfl) (by rw [hn]; exact (okc (okr r_v0) (okc rfl okn))) (by rw [hn]; exact okn) (by rw [hn]; exact ok) (by rw [ml165]; exact Nat.le_of_ble_eq_true rfl) gq7 ?_
      have hn := (Rn.len gq7).trans hn
      show Rn _ 172 119 lv [] q7.2 c w _
      refine Rn.aload_n n172_119 l0 ?_
      obtain ⟨u10, hu10, h⟩ := Option.bind_eq_some_iff.mp h
      obtain ⟨q9, hq9, h⟩ := Option.bind_eq_some_iff.mp h
      have gq9 := c163 (d := d') (by omega) F _ _ _ _ (by rw [hn]; exact r_v0) hq9
      refine Rn.cv (As := []) (rr := []) n172_120 mo172 mm11_219 (by decide) mq163 rfl rfl rfl rfl (by rw [mo163]; exact hu10) (Nat.le_of_ble_eq_true rfl) (by rw [hn]; exact (okc (okr r_v0) okn)) (by rw [hn]; exact okn) (by rw [hn]; exact ok) (by rw [ml163]; exact Nat.le_of_ble_eq_true rfl) gq9 ?_
      have hn := (Rn.len gq9).trans hn
      show Rn _ 172 123 lv [.int q9.1] q9.2 c w _
      have e1 := (Prod.mk.inj (Option.some.inj h)).1
      have e2 := (Prod.mk.inj (Option.some.inj h)).2
      subst e1
      subst e2
      exact Rn.iret n172_123 mr172
    · rw [if_neg hc3] at h
      refine Rn.c2f (t := 104) n172_44 (by decide) hc3 ?_
      refine Rn.aload_n n172_47 l0 ?_
      obtain ⟨x11, hx11, h⟩ := Option.bind_eq_some_iff.mp h
      refine Rn.gf n172_48 mo172 fl11_43 (gfr_v hx11).1 ?_
      have r_x11 : x11 < n := by rw [← hn]; exact (gfr_v hx11).2
      refine Rn.bp (v := 20) n172_51 (by decide) ?_
      refine Rn.iload_n n172_53 l2 ?_
      refine Rn.p n172_54 rfl ?_
      refine Rn.iload n172_55 l4 ?_
      refine Rn.p n172_57 rfl ?_
      obtain ⟨x12, hx12, h⟩ := Option.bind_eq_some_iff.mp h
      refine Rn.iald n172_58 hx12 ?_
      refine Rn.is (m := n) n172_59 ml172 (by decide) (fun lv l5 hk hok => ?_)
      have l0 := hk 0 _ (by decide) (Or.inl rfl) l0
      have l1 := hk 1 _ (by decide) (Or.inl rfl) l1
      have l2 := hk 2 _ (by decide) (Or.inl rfl) l2
      have l3 := hk 3 _ (by decide) (Or.inl rfl) l3
      have l4 := hk 4 _ (by decide) (Or.inl rfl) l4
      have ok := hok ok
      refine Rn.iload_n n172_61 l3 ?_
      refine Rn.aload_n n172_62 l0 ?_
      obtain ⟨x13, hx13, h⟩ := Option.bind_eq_some_iff.mp h
      refine Rn.gf n172_63 mo172 fl11_33 (gfr_v hx13).1 ?_
      have r_x13 : x13 < n := by rw [← hn]; exact (gfr_v hx13).2
      refine Rn.ic (v := 0) n172_66 (by decide) ?_
      refine Rn.iload n172_67 l5 ?_
      obtain ⟨q14, hq14, h⟩ := Option.bind_eq_some_iff.mp h
      have gq14 := c157 (d := d') (by omega) F _ _ _ _ _ _ (by rw [hn]; exact r_x13) hq14
      refine Rn.cs (as := [.ref x13, .int 0, .int x12]) (rr := [.int v3]) n172_69 mo172 mm11_194 mq157 rfl rfl rfl rfl (Nat.le_of_ble_eq_true rfl) (by rw [hn]; exact (okc (okr r_x13) (okc rfl (okc rfl okn)))) (by rw [hn]; exact (okc rfl okn)) (by rw [hn]; exact ok) (by rw [ml157]; exact Nat.le_of_ble_eq_true rfl) gq14 ?_
      have hn := (Rn.len gq14).trans hn
      show Rn _ 172 72 lv [.int q14.1, .int v3] q14.2 c w _
      by_cases hc15 : mc1 .eq q14.1 = true
      · rw [if_pos hc15] at h
        refine Rn.c1t (t := 79) n172_72 (by decide) hc15 ?_
        refine Rn.ic (v := 1) n172_79 (by decide) ?_
        exact t172_80 hd F hr36 _ _ _ _ _ _ _ lv _ _ _ l0 l1 l2 l4 l5 ok hn r_v0  h
      · rw [if_neg hc15] at h
        refine Rn.c1f (t := 79) n172_72 (by decide) hc15 ?_
        refine Rn.ic (v := (-1)) n172_75 (by decide) ?_
        refine Rn.goto (t := 80) n172_76 (by decide) ?_
        exact t172_80 hd F hr36 _ _ _ _ _ _ _ lv _ _ _ l0 l1 l2 l4 l5 ok hn r_v0  h
def m172_16 (F : Nat) (hp : List mE) : Option (Int32 × List mE) :=
  some ((-1001), hp)
theorem t172_16 {d c w n : Nat} (hd : 4 ≤ d) (F : Nat) : ∀ (lv : List (Nat × Value)) (hp : List mE) (v : Int32) (hp' : List mE), lvk n lv → hp.length = n → m172_16 F hp = some (v, hp') → Rn d 172 16 lv [] hp c w (some (.int v), hp', c, w) := by
  obtain ⟨d', rfl⟩ : ∃ d', d = d' + 1 := ⟨d - 1, by omega⟩
  intro lv hp v hp' ok hn h
  unfold m172_16 at h
  refine Rn.sp (v := (-1001)) n172_16 (by decide) ?_
  have e1 := (Prod.mk.inj (Option.some.inj h)).1
  have e2 := (Prod.mk.inj (Option.some.inj h)).2
  subst e1
  subst e2
  exact Rn.iret n172_19 mr172
def m172_0 (F : Nat) (v0 : Nat) (v1 : Int32) (v2 : Int32) (hp : List mE) : Option (Int32 × List mE) :=
  (rcv 11 hp v0).bind fun u2 =>
  (e160 F v0 v1 hp).bind fun q1 =>
  if mc1 .eq q1.1 = true then
    m172_16 F q1.2
  else
    (rcv 11 q1.2 v0).bind fun u5 =>
    (e160 F v0 v2 q1.2).bind fun q4 =>
    if mc1 .ne q4.1 = true then
      (rcv 11 q4.2 v0).bind fun u8 =>
      (e169 F v0 v1 0 q4.2).bind fun q7 =>
      (gfr 11 17 q7.2 v0).bind fun x9 =>
      (rdI q7.2 x9 v1).bind fun x10 =>
      m172_36 F F v0 v1 v2 x10 0 q7.2
    else
      m172_16 F q4.2
theorem t172_0 {d c w n : Nat} (hd : 4 ≤ d) (F : Nat) : ∀ (v0 : Nat) (v1 : Int32) (v2 : Int32) (lv : List (Nat × Value)) (hp : List mE) (v : Int32) (hp' : List mE), alk 0 lv = some (.ref v0) → alk 1 lv = some (.int v1) → alk 2 lv = some (.int v2) → lvk n lv → hp.length = n → v0 < n → m172_0 F v0 v1 v2 hp = some (v, hp') → Rn d 172 0 lv [] hp c w (some (.int v), hp', c, w) := by
  obtain ⟨d', rfl⟩ : ∃ d', d = d' + 1 := ⟨d - 1, by omega⟩
  intro v0 v1 v2 lv hp v hp' l0 l1 l2 ok hn r_v0 h
  unfold m172_0 at h
  refine Rn.aload_n n172_0 l0 ?_
  refine Rn.iload_n n172_1 l1 ?_
  obtain ⟨u2, hu2, h⟩ := Option.bind_eq_some_iff.mp h
  obtain ⟨q1, hq1, h⟩ := Option.bind_eq_some_iff.mp h
  have gq1 := c160 (d := d') (by omega) F _ _ _ _ _ (by rw [hn]; exact r_v0) hq1
  refine Rn.cv (As := [.int v1]) (rr := []) n172_2 mo172 mm11_222 (by decide) mq160 rfl rfl rfl rfl (by rw [mo160]; exact hu2) (Nat.le_of_ble_eq_true rfl) (by rw [hn]; exact (okc (okr r_v0) (okc rfl okn))) (by rw [hn]; exact okn) (by rw [hn]; exact ok) (by rw [ml160]; exact Nat.le_of_ble_eq_true rfl) gq1 ?_
  have hn := (Rn.len gq1).trans hn
  show Rn _ 172 5 lv [.int q1.1] q1.2 c w _
  by_cases hc3 : mc1 .eq q1.1 = true
  · rw [if_pos hc3] at h
    refine Rn.c1t (t := 16) n172_5 (by decide) hc3 ?_
    exact t172_16 hd F  lv _ _ _  ok hn   h
  · rw [if_neg hc3] at h
    refine Rn.c1f (t := 16) n172_5 (by decide) hc3 ?_
    refine Rn.aload_n n172_8 l0 ?_
    refine Rn.iload_n n172_9 l2 ?_
    obtain ⟨u5, hu5, h⟩ := Option.bind_eq_some_iff.mp h
    obtain ⟨q4, hq4, h⟩ := Option.bind_eq_some_iff.mp h
    have gq4 := c160 (d := d') (by omega) F _ _ _ _ _ (by rw [hn]; exact r_v0) hq4
    refine Rn.cv (As := [.int v2]) (rr := []) n172_10 mo172 mm11_222 (by decide) mq160 rfl rfl rfl rfl (by rw [mo160]; exact hu5) (Nat.le_of_ble_eq_true rfl) (by rw [hn]; exact (okc (okr r_v0) (okc rfl okn))) (by rw [hn]; exact okn) (by rw [hn]; exact ok) (by rw [ml160]; exact Nat.le_of_ble_eq_true rfl) gq4 ?_
    have hn := (Rn.len gq4).trans hn
    show Rn _ 172 13 lv [.int q4.1] q4.2 c w _
    by_cases hc6 : mc1 .ne q4.1 = true
    · rw [if_pos hc6] at h
      refine Rn.c1t (t := 20) n172_13 (by decide) hc6 ?_
      refine Rn.aload_n n172_20 l0 ?_
      refine Rn.iload_n n172_21 l1 ?_
      refine Rn.ic (v := 0) n172_22 (by decide) ?_
      obtain ⟨u8, hu8, h⟩ := Option.bind_eq_some_iff.mp h
      obtain ⟨q7, hq7, h⟩ := Option.bind_eq_some_iff.mp h
      have gq7 := c169 (d := d') (by omega) F _ _ _ _ _ _ (by rw [hn]; exact r_v0) hq7
      refine Rn.cv (As := [.int v1, .int 0]) (rr := []) n172_23 mo172 mm11_225 (by decide) mq169 rfl rfl rfl rfl (by rw [mo169]; exact hu8) (Nat.le_of_ble_eq_true rfl) (by rw [hn]; exact (okc (okr r_v0) (okc rfl (okc rfl okn)))) (by rw [hn]; exact okn) (by rw [hn]; exact ok) (by rw [ml169]; exact Nat.le_of_ble_eq_true rfl) gq7 ?_
      have hn := (Rn.len gq7).trans hn
      show Rn _ 172 26 lv [] q7.2 c w _
      refine Rn.aload_n n172_26 l0 ?_
      obtain ⟨x9, hx9, h⟩ := Option.bind_eq_some_iff.mp h
      refine Rn.gf n172_27 mo172 fl11_40 (gfr_v hx9).1 ?_
      have r_x9 : x9 < n := by rw [← hn]; exact (gfr_v hx9).2
      refine Rn.iload_n n172_30 l1 ?_
      obtain ⟨x10, hx10, h⟩ := Option.bind_eq_some_iff.mp h
      refine Rn.iald n172_31 hx10 ?_
      refine Rn.isn (m := n) n172_32 rfl ml172 (by decide) (fun lv l3 hk hok => ?_)
      have l0 := hk 0 _ (by decide) (Or.inl rfl) l0
      have l1 := hk 1 _ (by decide) (Or.inl rfl) l1
      have l2 := hk 2 _ (by decide) (Or.inl rfl) l2
      have ok := hok ok
      refine Rn.ic (v := 0) n172_33 (by decide) ?_
      refine Rn.is (m := n) n172_34 ml172 (by decide) (fun lv l4 hk hok => ?_)
      have l0 := hk 0 _ (by decide) (Or.inl rfl) l0
      have l1 := hk 1 _ (by decide) (Or.inl rfl) l1
      have l2 := hk 2 _ (by decide) (Or.inl rfl) l2
      have l3 := hk 3 _ (by decide) (Or.inl rfl) l3
      have ok := hok ok
      exact t172_36 hd F  F _ _ _ _ _ lv _ _ _ l0 l1 l2 l3 l4 ok hn r_v0  h
    · rw [if_neg hc6] at h
      refine Rn.c1f (t := 20) n172_13 (by decide) hc6 ?_
      exact t172_16 hd F  lv _ _ _  ok hn   h
def e172 (F : Nat) (a0 : Nat) (a1 : Int32) (a2 : Int32) (hp : List mE) : Option (Int32 × List mE) := m172_0 F a0 a1 a2 hp
theorem c172 {d : Nat} (hd : 4 ≤ d) (F : Nat) (a0 : Nat) (a1 : Int32) (a2 : Int32) (hp : List mE) (v : Int32) (hp' : List mE) (ra0 : a0 < hp.length) (h : e172 F a0 a1 a2 hp = some (v, hp')) : Rn d 172 0 (lv_args 0 [.ref a0, .int a1, .int a2]) [] hp 0 0 (some (.int v), hp', 0, 0) :=
  t172_0 (n := hp.length) hd F a0 a1 a2 (lv_args 0 [.ref a0, .int a1, .int a2]) hp v hp' rfl rfl rfl (lvk_args (okc (okr ra0) (okc rfl (okc rfl okn)))) rfl ra0 h
/-! MirrorRootsModel.back -/
def m173_26 (F : Nat) : Nat → Nat → Int32 → Int32 → List mE → Option (Int32 × List mE)
  | 0, _, _, _, _ => none
  | f + 1, v0, v1, v2, hp =>
    if mc1 .lt v2 = true then
      (rcv 11 hp v0).bind fun u3 =>
      (e163 F v0 hp).bind fun q2 =>
      some (q2.1, q2.2)
    else
      (gfr 11 18 hp v0).bind fun x4 =>
      (rdI hp x4 ((20 * v1) + v2)).bind fun x5 =>
      (rcv 11 hp v0).bind fun u7 =>
      (e164 F v0 x5 hp).bind fun q6 =>
      m173_26 F f v0 v1 (v2 + (-1)) q6.2
theorem t173_26 {d c w n : Nat} (hd : 4 ≤ d) (F : Nat) : ∀ f : Nat, ∀ (v0 : Nat) (v1 : Int32) (v2 : Int32) (lv : List (Nat × Value)) (hp : List mE) (v : Int32) (hp' : List mE), alk 0 lv = some (.ref v0) → alk 1 lv = some (.int v1) → alk 2 lv = some (.int v2) → lvk n lv → hp.length = n → v0 < n → m173_26 F f v0 v1 v2 hp = some (v, hp') → Rn d 173 26 lv [] hp c w (some (.int v), hp', c, w) := by
  obtain ⟨d', rfl⟩ : ∃ d', d = d' + 1 := ⟨d - 1, by omega⟩
  intro f
  induction f with
  | zero => intro v0 v1 v2 lv hp v hp' l0 l1 l2 ok hn r_v0 h; cases h
  | succ f hr26 =>
    intro v0 v1 v2 lv hp v hp' l0 l1 l2 ok hn r_v0 h
    unfold m173_26 at h
    refine Rn.iload_n n173_26 l2 ?_
    by_cases hc1 : mc1 .lt v2 = true
    · rw [if_pos hc1] at h
      refine Rn.c1t (t := 51) n173_27 (by decide) hc1 ?_
      refine Rn.aload_n n173_51 l0 ?_
      obtain ⟨u3, hu3, h⟩ := Option.bind_eq_some_iff.mp h
      obtain ⟨q2, hq2, h⟩ := Option.bind_eq_some_iff.mp h
      have gq2 := c163 (d := d') (by omega) F _ _ _ _ (by rw [hn]; exact r_v0) hq2
      refine Rn.cv (As := []) (rr := []) n173_52 mo173 mm11_219 (by decide) mq163 rfl rfl rfl rfl (by rw [mo163]; exact hu3) (Nat.le_of_ble_eq_true rfl) (by rw [hn]; exact (okc (okr r_v0) okn)) (by rw [hn]; exact okn) (by rw [hn]; exact ok) (by rw [ml163]; exact Nat.le_of_ble_eq_true rfl) gq2 ?_
      have hn := (Rn.len gq2).trans hn
      show Rn _ 173 55 lv [.int q2.1] q2.2 c w _
      have e1 := (Prod.mk.inj (Option.some.inj h)).1
      have e2 := (Prod.mk.inj (Option.some.inj h)).2
      subst e1
      subst e2
      exact Rn.iret n173_55 mr173
    · rw [if_neg hc1] at h
      refine Rn.c1f (t := 51) n173_27 (by decide) hc1 ?_
      refine Rn.aload_n n173_30 l0 ?_
      refine Rn.aload_n n173_31 l0 ?_
      obtain ⟨x4, hx4, h⟩ := Option.bind_eq_some_iff.mp h
      refine Rn.gf n173_32 mo173 fl11_43 (gfr_v hx4).1 ?_
      have r_x4 : x4 < n := by rw [← hn]; exact (gfr_v hx4).2
      refine Rn.bp (v := 20) n173_35 (by decide) ?_
      refine Rn.iload_n n173_37 l1 ?_
      refine Rn.p n173_38 rfl ?_
      refine Rn.iload_n n173_39 l2 ?_
      refine Rn.p n173_40 rfl ?_
      obtain ⟨x5, hx5, h⟩ := Option.bind_eq_some_iff.mp h
      refine Rn.iald n173_41 hx5 ?_
      obtain ⟨u7, hu7, h⟩ := Option.bind_eq_some_iff.mp h
      obtain ⟨q6, hq6, h⟩ := Option.bind_eq_some_iff.mp h
      have gq6 := c164 (d := d') (by omega) F _ _ _ _ _ (by rw [hn]; exact r_v0) hq6
      refine Rn.cv (As := [.int x5]) (rr := []) n173_42 mo173 mm11_216 (by decide) mq164 rfl rfl rfl rfl (by rw [mo164]; exact hu7) (Nat.le_of_ble_eq_true rfl) (by rw [hn]; exact (okc (okr r_v0) (okc rfl okn))) (by rw [hn]; exact okn) (by rw [hn]; exact ok) (by rw [ml164]; exact Nat.le_of_ble_eq_true rfl) gq6 ?_
      have hn := (Rn.len gq6).trans hn
      show Rn _ 173 45 lv [] q6.2 c w _
      refine Rn.ii (m := n) (u := (-1)) n173_45 ml173 (by decide) (by decide) l2 (fun lv l2 hk hok => ?_)
      have l0 := hk 0 _ (by decide) (Or.inl rfl) l0
      have l1 := hk 1 _ (by decide) (Or.inl rfl) l1
      have ok := hok ok
      refine Rn.goto (t := 26) n173_48 (by decide) ?_
      exact hr26 _ _ _ lv _ _ _ l0 l1 l2 ok hn r_v0  h
def m173_0 (F : Nat) (v0 : Nat) (v1 : Int32) (hp : List mE) : Option (Int32 × List mE) :=
  (rcv 11 hp v0).bind fun u2 =>
  (e160 F v0 v1 hp).bind fun q1 =>
  if mc1 .ne q1.1 = true then
    (pfv 11 15 q1.2 v0 (.int 0)).bind fun hp4 =>
    (gfr 11 17 hp4 v0).bind fun x5 =>
    (rdI hp4 x5 v1).bind fun x6 =>
    m173_26 F F v0 v1 (x6 - 1) hp4
  else
    some ((-1001), q1.2)
theorem t173_0 {d c w n : Nat} (hd : 4 ≤ d) (F : Nat) : ∀ (v0 : Nat) (v1 : Int32) (lv : List (Nat × Value)) (hp : List mE) (v : Int32) (hp' : List mE), alk 0 lv = some (.ref v0) → alk 1 lv = some (.int v1) → lvk n lv → hp.length = n → v0 < n → m173_0 F v0 v1 hp = some (v, hp') → Rn d 173 0 lv [] hp c w (some (.int v), hp', c, w) := by
  obtain ⟨d', rfl⟩ : ∃ d', d = d' + 1 := ⟨d - 1, by omega⟩
  intro v0 v1 lv hp v hp' l0 l1 ok hn r_v0 h
  unfold m173_0 at h
  refine Rn.aload_n n173_0 l0 ?_
  refine Rn.iload_n n173_1 l1 ?_
  obtain ⟨u2, hu2, h⟩ := Option.bind_eq_some_iff.mp h
  obtain ⟨q1, hq1, h⟩ := Option.bind_eq_some_iff.mp h
  have gq1 := c160 (d := d') (by omega) F _ _ _ _ _ (by rw [hn]; exact r_v0) hq1
  refine Rn.cv (As := [.int v1]) (rr := []) n173_2 mo173 mm11_222 (by decide) mq160 rfl rfl rfl rfl (by rw [mo160]; exact hu2) (Nat.le_of_ble_eq_true rfl) (by rw [hn]; exact (okc (okr r_v0) (okc rfl okn))) (by rw [hn]; exact okn) (by rw [hn]; exact ok) (by rw [ml160]; exact Nat.le_of_ble_eq_true rfl) gq1 ?_
  have hn := (Rn.len gq1).trans hn
  show Rn _ 173 5 lv [.int q1.1] q1.2 c w _
  by_cases hc3 : mc1 .ne q1.1 = true
  · rw [if_pos hc3] at h
    refine Rn.c1t (t := 12) n173_5 (by decide) hc3 ?_
    refine Rn.aload_n n173_12 l0 ?_
    refine Rn.ic (v := 0) n173_13 (by decide) ?_
    obtain ⟨hp4, hhp4, h⟩ := Option.bind_eq_some_iff.mp h
    refine Rn.pf n173_14 mo173 fl11_201 ft11_15 rfl ff11_15 (fun _ _ hh => by cases hh) hhp4 ?_
    have hn := (pfv_len hhp4).trans hn
    refine Rn.aload_n n173_17 l0 ?_
    obtain ⟨x5, hx5, h⟩ := Option.bind_eq_some_iff.mp h
    refine Rn.gf n173_18 mo173 fl11_40 (gfr_v hx5).1 ?_
    have r_x5 : x5 < n := by rw [← hn]; exact (gfr_v hx5).2
    refine Rn.iload_n n173_21 l1 ?_
    obtain ⟨x6, hx6, h⟩ := Option.bind_eq_some_iff.mp h
    refine Rn.iald n173_22 hx6 ?_
    refine Rn.ic (v := 1) n173_23 (by decide) ?_
    refine Rn.p n173_24 rfl ?_
    refine Rn.isn (m := n) n173_25 rfl ml173 (by decide) (fun lv l2 hk hok => ?_)
    have l0 := hk 0 _ (by decide) (Or.inl rfl) l0
    have l1 := hk 1 _ (by decide) (Or.inl rfl) l1
    have ok := hok ok
    exact t173_26 hd F  F _ _ _ lv _ _ _ l0 l1 l2 ok hn r_v0  h
  · rw [if_neg hc3] at h
    refine Rn.c1f (t := 12) n173_5 (by decide) hc3 ?_
    refine Rn.sp (v := (-1001)) n173_8 (by decide) ?_
    have e1 := (Prod.mk.inj (Option.some.inj h)).1
    have e2 := (Prod.mk.inj (Option.some.inj h)).2
    subst e1
    subst e2
    exact Rn.iret n173_11 mr173
def e173 (F : Nat) (a0 : Nat) (a1 : Int32) (hp : List mE) : Option (Int32 × List mE) := m173_0 F a0 a1 hp
theorem c173 {d : Nat} (hd : 4 ≤ d) (F : Nat) (a0 : Nat) (a1 : Int32) (hp : List mE) (v : Int32) (hp' : List mE) (ra0 : a0 < hp.length) (h : e173 F a0 a1 hp = some (v, hp')) : Rn d 173 0 (lv_args 0 [.ref a0, .int a1]) [] hp 0 0 (some (.int v), hp', 0, 0) :=
  t173_0 (n := hp.length) hd F a0 a1 (lv_args 0 [.ref a0, .int a1]) hp v hp' rfl rfl (lvk_args (okc (okr ra0) (okc rfl okn))) rfl ra0 h
/-! MirrorRootsModel.isOne -/
def m174_43 (F : Nat) (rc4 : Nat → Int32 → Int32 → List mE → Option (Int32 × List mE)) (v0 : Nat) (v2 : Int32) (t0 : Int32) (hp : List mE) : Option (Int32 × List mE) :=
  rc4 v0 t0 (v2 + 1) hp
theorem t174_43 {d c w n : Nat} (hd : 0 ≤ d) (F : Nat) {rc4 : Nat → Int32 → Int32 → List mE → Option (Int32 × List mE)} (hr4 : ∀ (v0 : Nat) (v1 : Int32) (v2 : Int32) (lv : List (Nat × Value)) (hp : List mE) (v : Int32) (hp' : List mE), alk 0 lv = some (.ref v0) → alk 1 lv = some (.int v1) → alk 2 lv = some (.int v2) → lvk n lv → hp.length = n → v0 < n → rc4 v0 v1 v2 hp = some (v, hp') → Rn d 174 4 lv [] hp c w (some (.int v), hp', c, w)) : ∀ (v0 : Nat) (v2 : Int32) (t0 : Int32) (lv : List (Nat × Value)) (hp : List mE) (v : Int32) (hp' : List mE), alk 0 lv = some (.ref v0) → alk 2 lv = some (.int v2) → lvk n lv → hp.length = n → v0 < n → m174_43 F rc4 v0 v2 t0 hp = some (v, hp') → Rn d 174 43 lv [.int t0] hp c w (some (.int v), hp', c, w) := by
  intro v0 v2 t0 lv hp v hp' l0 l2 ok hn r_v0 h
  unfold m174_43 at h
  refine Rn.isn (m := n) n174_43 rfl ml174 (by decide) (fun lv l1 hk hok => ?_)
  have l0 := hk 0 _ (by decide) (Or.inl rfl) l0
  have l2 := hk 2 _ (by decide) (Or.inl rfl) l2
  have ok := hok ok
  refine Rn.ii (m := n) (u := 1) n174_44 ml174 (by decide) (by decide) l2 (fun lv l2 hk hok => ?_)
  have l0 := hk 0 _ (by decide) (Or.inl rfl) l0
  have l1 := hk 1 _ (by decide) (Or.inl rfl) l1
  have ok := hok ok
  refine Rn.goto (t := 4) n174_47 (by decide) ?_
  exact hr4 _ _ _ lv _ _ _ l0 l1 l2 ok hn r_v0  h
def m174_42 (F : Nat) (rc4 : Nat → Int32 → Int32 → List mE → Option (Int32 × List mE)) (v0 : Nat) (v2 : Int32) (hp : List mE) : Option (Int32 × List mE) :=
  m174_43 F rc4 v0 v2 0 hp
theorem t174_42 {d c w n : Nat} (hd : 0 ≤ d) (F : Nat) {rc4 : Nat → Int32 → Int32 → List mE → Option (Int32 × List mE)} (hr4 : ∀ (v0 : Nat) (v1 : Int32) (v2 : Int32) (lv : List (Nat × Value)) (hp : List mE) (v : Int32) (hp' : List mE), alk 0 lv = some (.ref v0) → alk 1 lv = some (.int v1) → alk 2 lv = some (.int v2) → lvk n lv → hp.length = n → v0 < n → rc4 v0 v1 v2 hp = some (v, hp') → Rn d 174 4 lv [] hp c w (some (.int v), hp', c, w)) : ∀ (v0 : Nat) (v2 : Int32) (lv : List (Nat × Value)) (hp : List mE) (v : Int32) (hp' : List mE), alk 0 lv = some (.ref v0) → alk 2 lv = some (.int v2) → lvk n lv → hp.length = n → v0 < n → m174_42 F rc4 v0 v2 hp = some (v, hp') → Rn d 174 42 lv [] hp c w (some (.int v), hp', c, w) := by
  intro v0 v2 lv hp v hp' l0 l2 ok hn r_v0 h
  unfold m174_42 at h
  refine Rn.ic (v := 0) n174_42 (by decide) ?_
  exact t174_43 hd F hr4 _ _ _ lv _ _ _ l0 l2 ok hn r_v0  h
def m174_34 (F : Nat) (rc4 : Nat → Int32 → Int32 → List mE → Option (Int32 × List mE)) (v0 : Nat) (v2 : Int32) (t0 : Int64) (t1 : Int64) (hp : List mE) : Option (Int32 × List mE) :=
  if mc1 .ne (lg_cmp t0 t1) = true then
    m174_42 F rc4 v0 v2 hp
  else
    m174_43 F rc4 v0 v2 1 hp
theorem t174_34 {d c w n : Nat} (hd : 0 ≤ d) (F : Nat) {rc4 : Nat → Int32 → Int32 → List mE → Option (Int32 × List mE)} (hr4 : ∀ (v0 : Nat) (v1 : Int32) (v2 : Int32) (lv : List (Nat × Value)) (hp : List mE) (v : Int32) (hp' : List mE), alk 0 lv = some (.ref v0) → alk 1 lv = some (.int v1) → alk 2 lv = some (.int v2) → lvk n lv → hp.length = n → v0 < n → rc4 v0 v1 v2 hp = some (v, hp') → Rn d 174 4 lv [] hp c w (some (.int v), hp', c, w)) : ∀ (v0 : Nat) (v2 : Int32) (t0 : Int64) (t1 : Int64) (lv : List (Nat × Value)) (hp : List mE) (v : Int32) (hp' : List mE), alk 0 lv = some (.ref v0) → alk 2 lv = some (.int v2) → lvk n lv → hp.length = n → v0 < n → m174_34 F rc4 v0 v2 t0 t1 hp = some (v, hp') → Rn d 174 34 lv [.long t1, .long t0] hp c w (some (.int v), hp', c, w) := by
  intro v0 v2 t0 t1 lv hp v hp' l0 l2 ok hn r_v0 h
  unfold m174_34 at h
  refine Rn.p n174_34 rfl ?_
  by_cases hc1 : mc1 .ne (lg_cmp t0 t1) = true
  · rw [if_pos hc1] at h
    refine Rn.c1t (t := 42) n174_35 (by decide) hc1 ?_
    exact t174_42 hd F hr4 _ _ lv _ _ _ l0 l2 ok hn r_v0  h
  · rw [if_neg hc1] at h
    refine Rn.c1f (t := 42) n174_35 (by decide) hc1 ?_
    refine Rn.ic (v := 1) n174_38 (by decide) ?_
    refine Rn.goto (t := 43) n174_39 (by decide) ?_
    exact t174_43 hd F hr4 _ _ _ lv _ _ _ l0 l2 ok hn r_v0  h
def m174_4 (F : Nat) : Nat → Nat → Int32 → Int32 → List mE → Option (Int32 × List mE)
  | 0, _, _, _, _ => none
  | f + 1, v0, v1, v2, hp =>
    if mc2 .ge v2 25 = true then
      if v1 = 0 ∨ v1 = 1 then some (v1, hp) else none
    else
      if mc1 .eq v1 = true then
        m174_42 F (m174_4 F f) v0 v2 hp
      else
        (gfr 11 13 hp v0).bind fun x4 =>
        (rdJ hp x4 v2).bind fun x5 =>
        if mc2 .ne (v2 / 5) (v2 - v2 / 5 * 5) = true then
          m174_34 F (m174_4 F f) v0 v2 x5 0 hp
        else
          m174_34 F (m174_4 F f) v0 v2 x5 1 hp
theorem t174_4 {d c w n : Nat} (hd : 0 ≤ d) (F : Nat) : ∀ f : Nat, ∀ (v0 : Nat) (v1 : Int32) (v2 : Int32) (lv : List (Nat × Value)) (hp : List mE) (v : Int32) (hp' : List mE), alk 0 lv = some (.ref v0) → alk 1 lv = some (.int v1) → alk 2 lv = some (.int v2) → lvk n lv → hp.length = n → v0 < n → m174_4 F f v0 v1 v2 hp = some (v, hp') → Rn d 174 4 lv [] hp c w (some (.int v), hp', c, w) := by
  intro f
  induction f with
  | zero => intro v0 v1 v2 lv hp v hp' l0 l1 l2 ok hn r_v0 h; cases h
  | succ f hr4 =>
    intro v0 v1 v2 lv hp v hp' l0 l1 l2 ok hn r_v0 h
    unfold m174_4 at h
    refine Rn.iload_n n174_4 l2 ?_
    refine Rn.bp (v := 25) n174_5 (by decide) ?_
    by_cases hc1 : mc2 .ge v2 25 = true
    · rw [if_pos hc1] at h
      refine Rn.c2t (t := 50) n174_7 (by decide) hc1 ?_
      refine Rn.iload_n n174_50 l1 ?_
      by_cases hz2 : v1 = 0 ∨ v1 = 1
      · rw [if_pos hz2] at h
        have e1 := (Prod.mk.inj (Option.some.inj h)).1
        have e2 := (Prod.mk.inj (Option.some.inj h)).2
        subst e1
        subst e2
        exact Rn.zret n174_51 mr174 hz2
      · rw [if_neg hz2] at h; cases h
    · rw [if_neg hc1] at h
      refine Rn.c2f (t := 50) n174_7 (by decide) hc1 ?_
      refine Rn.iload_n n174_10 l1 ?_
      by_cases hc3 : mc1 .eq v1 = true
      · rw [if_pos hc3] at h
        refine Rn.c1t (t := 42) n174_11 (by decide) hc3 ?_
        exact t174_42 hd F hr4 _ _ lv _ _ _ l0 l2 ok hn r_v0  h
      · rw [if_neg hc3] at h
        refine Rn.c1f (t := 42) n174_11 (by decide) hc3 ?_
        refine Rn.aload_n n174_14 l0 ?_
        obtain ⟨x4, hx4, h⟩ := Option.bind_eq_some_iff.mp h
        refine Rn.gf n174_15 mo174 fl11_33 (gfr_v hx4).1 ?_
        have r_x4 : x4 < n := by rw [← hn]; exact (gfr_v hx4).2
        refine Rn.iload_n n174_18 l2 ?_
        obtain ⟨x5, hx5, h⟩ := Option.bind_eq_some_iff.mp h
        refine Rn.lald n174_19 hx5 ?_
        refine Rn.iload_n n174_20 l2 ?_
        refine Rn.ic (v := 5) n174_21 (by decide) ?_
        refine Rn.idv n174_22 (by decide) ?_
        refine Rn.iload_n n174_23 l2 ?_
        refine Rn.ic (v := 5) n174_24 (by decide) ?_
        refine Rn.irm n174_25 (by decide) ?_
        by_cases hc6 : mc2 .ne (v2 / 5) (v2 - v2 / 5 * 5) = true
        · rw [if_pos hc6] at h
          refine Rn.c2t (t := 33) n174_26 (by decide) hc6 ?_
          refine Rn.lc (v := 0) n174_33 (by decide) ?_
          exact t174_34 hd F hr4 _ _ _ _ lv _ _ _ l0 l2 ok hn r_v0  h
        · rw [if_neg hc6] at h
          refine Rn.c2f (t := 33) n174_26 (by decide) hc6 ?_
          refine Rn.lc (v := 1) n174_29 (by decide) ?_
          refine Rn.goto (t := 34) n174_30 (by decide) ?_
          exact t174_34 hd F hr4 _ _ _ _ lv _ _ _ l0 l2 ok hn r_v0  h
def m174_0 (F : Nat) (v0 : Nat) (hp : List mE) : Option (Int32 × List mE) :=
  m174_4 F F v0 1 0 hp
theorem t174_0 {d c w n : Nat} (hd : 0 ≤ d) (F : Nat) : ∀ (v0 : Nat) (lv : List (Nat × Value)) (hp : List mE) (v : Int32) (hp' : List mE), alk 0 lv = some (.ref v0) → lvk n lv → hp.length = n → v0 < n → m174_0 F v0 hp = some (v, hp') → Rn d 174 0 lv [] hp c w (some (.int v), hp', c, w) := by
  intro v0 lv hp v hp' l0 ok hn r_v0 h
  unfold m174_0 at h
  refine Rn.ic (v := 1) n174_0 (by decide) ?_
  refine Rn.isn (m := n) n174_1 rfl ml174 (by decide) (fun lv l1 hk hok => ?_)
  have l0 := hk 0 _ (by decide) (Or.inl rfl) l0
  have ok := hok ok
  refine Rn.ic (v := 0) n174_2 (by decide) ?_
  refine Rn.isn (m := n) n174_3 rfl ml174 (by decide) (fun lv l2 hk hok => ?_)
  have l0 := hk 0 _ (by decide) (Or.inl rfl) l0
  have l1 := hk 1 _ (by decide) (Or.inl rfl) l1
  have ok := hok ok
  exact t174_4 hd F  F _ _ _ lv _ _ _ l0 l1 l2 ok hn r_v0  h
def e174 (F : Nat) (a0 : Nat) (hp : List mE) : Option (Int32 × List mE) := m174_0 F a0 hp
theorem c174 {d : Nat} (hd : 0 ≤ d) (F : Nat) (a0 : Nat) (hp : List mE) (v : Int32) (hp' : List mE) (ra0 : a0 < hp.length) (h : e174 F a0 hp = some (v, hp')) : Rn d 174 0 (lv_args 0 [.ref a0]) [] hp 0 0 (some (.int v), hp', 0, 0) :=
  t174_0 (n := hp.length) hd F a0 (lv_args 0 [.ref a0]) hp v hp' rfl (lvk_args (okc (okr ra0) okn)) rfl ra0 h
/-! MirrorRootsModel.below -/
def m175_89 (F : Nat) (t0 : Int32) (hp : List mE) : Option (Int32 × List mE) :=
  some (t0, hp)
theorem t175_89 {d c w n : Nat} (hd : 3 ≤ d) (F : Nat) : ∀ (t0 : Int32) (lv : List (Nat × Value)) (hp : List mE) (v : Int32) (hp' : List mE), lvk n lv → hp.length = n → m175_89 F t0 hp = some (v, hp') → Rn d 175 89 lv [.int t0] hp c w (some (.int v), hp', c, w) := by
  obtain ⟨d', rfl⟩ : ∃ d', d = d' + 1 := ⟨d - 1, by omega⟩
  intro t0 lv hp v hp' ok hn h
  unfold m175_89 at h
  have e1 := (Prod.mk.inj (Option.some.inj h)).1
  have e2 := (Prod.mk.inj (Option.some.inj h)).2
  subst e1
  subst e2
  exact Rn.iret n175_89 mr175
def m175_71 (F : Nat) (rc35 : Nat → Int32 → Int32 → List mE → Option (Int32 × List mE)) (v0 : Nat) (v2 : Int32) (v3 : Int32) (hp : List mE) : Option (Int32 × List mE) :=
  rc35 v0 v2 (v3 + (-1)) hp
theorem t175_71 {d c w n : Nat} (hd : 3 ≤ d) (F : Nat) {rc35 : Nat → Int32 → Int32 → List mE → Option (Int32 × List mE)} (hr35 : ∀ (v0 : Nat) (v2 : Int32) (v3 : Int32) (lv : List (Nat × Value)) (hp : List mE) (v : Int32) (hp' : List mE), alk 0 lv = some (.ref v0) → alk 2 lv = some (.int v2) → alk 3 lv = some (.int v3) → lvk n lv → hp.length = n → v0 < n → rc35 v0 v2 v3 hp = some (v, hp') → Rn d 175 35 lv [] hp c w (some (.int v), hp', c, w)) : ∀ (v0 : Nat) (v2 : Int32) (v3 : Int32) (lv : List (Nat × Value)) (hp : List mE) (v : Int32) (hp' : List mE), alk 0 lv = some (.ref v0) → alk 2 lv = some (.int v2) → alk 3 lv = some (.int v3) → lvk n lv → hp.length = n → v0 < n → m175_71 F rc35 v0 v2 v3 hp = some (v, hp') → Rn d 175 71 lv [] hp c w (some (.int v), hp', c, w) := by
  obtain ⟨d', rfl⟩ : ∃ d', d = d' + 1 := ⟨d - 1, by omega⟩
  intro v0 v2 v3 lv hp v hp' l0 l2 l3 ok hn r_v0 h
  unfold m175_71 at h
  refine Rn.ii (m := n) (u := (-1)) n175_71 ml175 (by decide) (by decide) l3 (fun lv l3 hk hok => ?_)
  have l0 := hk 0 _ (by decide) (Or.inl rfl) l0
  have l2 := hk 2 _ (by decide) (Or.inl rfl) l2
  have ok := hok ok
  refine Rn.goto (t := 35) n175_74 (by decide) ?_
  exact hr35 _ _ _ lv _ _ _ l0 l2 l3 ok hn r_v0  h
def m175_35 (F : Nat) : Nat → Nat → Int32 → Int32 → List mE → Option (Int32 × List mE)
  | 0, _, _, _, _ => none
  | f + 1, v0, v2, v3, hp =>
    if mc1 .lt v3 = true then
      (rcv 11 hp v0).bind fun u3 =>
      (e174 F v0 hp).bind fun q2 =>
      if mc1 .eq q2.1 = true then
        m175_89 F 0 q2.2
      else
        m175_89 F 1 q2.2
    else
      (gfr 11 18 hp v0).bind fun x5 =>
      (rdI hp x5 ((20 * v2) + v3)).bind fun x6 =>
      (gfr 11 13 hp v0).bind fun x7 =>
      (e157 F x7 0 x6 hp).bind fun q8 =>
      if mc1 .eq q8.1 = true then
        m175_71 F (m175_35 F f) v0 v2 v3 q8.2
      else
        (rcv 11 q8.2 v0).bind fun u11 =>
        (e156 F v0 x6 q8.2).bind fun q10 =>
        m175_71 F (m175_35 F f) v0 v2 v3 q10.2
theorem t175_35 {d c w n : Nat} (hd : 3 ≤ d) (F : Nat) : ∀ f : Nat, ∀ (v0 : Nat) (v2 : Int32) (v3 : Int32) (lv : List (Nat × Value)) (hp : List mE) (v : Int32) (hp' : List mE), alk 0 lv = some (.ref v0) → alk 2 lv = some (.int v2) → alk 3 lv = some (.int v3) → lvk n lv → hp.length = n → v0 < n → m175_35 F f v0 v2 v3 hp = some (v, hp') → Rn d 175 35 lv [] hp c w (some (.int v), hp', c, w) := by
  obtain ⟨d', rfl⟩ : ∃ d', d = d' + 1 := ⟨d - 1, by omega⟩
  intro f
  induction f with
  | zero => intro v0 v2 v3 lv hp v hp' l0 l2 l3 ok hn r_v0 h; cases h
  | succ f hr35 =>
    intro v0 v2 v3 lv hp v hp' l0 l2 l3 ok hn r_v0 h
    unfold m175_35 at h
    refine Rn.iload_n n175_35 l3 ?_
    by_cases hc1 : mc1 .lt v3 = true
    · rw [if_pos hc1] at h
      refine Rn.c1t (t := 77) n175_36 (by decide) hc1 ?_
      refine Rn.aload_n n175_77 l0 ?_
      obtain ⟨u3, hu3, h⟩ := Option.bind_eq_some_iff.mp h
      obtain ⟨q2, hq2, h⟩ := Option.bind_eq_some_iff.mp h
      have gq2 := c174 (d := d') (by omega) F _ _ _ _ (by rw [hn]; exact r_v0) hq2
      refine Rn.cv (As := []) (rr := []) n175_78 mo175 mm11_236 (by decide) mq174 rfl rfl rfl rfl (by rw [mo174]; exact hu3) (Nat.le_of_ble_eq_true rfl) (by rw [hn]; exact (okc (okr r_v0) okn)) (by rw [hn]; exact okn) (by rw [hn]; exact ok) (by rw [ml174]; exact Nat.le_of_ble_eq_true rfl) gq2 ?_
      have hn := (Rn.len gq2).trans hn
      show Rn _ 175 81 lv [.int q2.1] q2.2 c w _
      by_cases hc4 : mc1 .eq q2.1 = true
      · rw [if_pos hc4] at h
        refine Rn.c1t (t := 88) n175_81 (by decide) hc4 ?_
        refine Rn.ic (v := 0) n175_88 (by decide) ?_
        exact t175_89 hd F  _ lv _ _ _  ok hn   h
      · rw [if_neg hc4] at h
        refine Rn.c1f (t := 88) n175_81 (by decide) hc4 ?_
        refine Rn.ic (v := 1) n175_84 (by decide) ?_
        refine Rn.goto (t := 89) n175_85 (by decide) ?_
        exact t175_89 hd F  _ lv _ _ _  ok hn   h
    · rw [if_neg hc1] at h
      refine Rn.c1f (t := 77) n175_36 (by decide) hc1 ?_
      refine Rn.aload_n n175_39 l0 ?_
      obtain ⟨x5, hx5, h⟩ := Option.bind_eq_some_iff.mp h
      refine Rn.gf n175_40 mo175 fl11_43 (gfr_v hx5).1 ?_
      have r_x5 : x5 < n := by rw [← hn]; exact (gfr_v hx5).2
      refine Rn.bp (v := 20) n175_43 (by decide) ?_
      refine Rn.iload_n n175_45 l2 ?_
      refine Rn.p n175_46 rfl ?_
      refine Rn.iload_n n175_47 l3 ?_
      refine Rn.p n175_48 rfl ?_
      obtain ⟨x6, hx6, h⟩ := Option.bind_eq_some_iff.mp h
      refine Rn.iald n175_49 hx6 ?_
      refine Rn.is (m := n) n175_50 ml175 (by decide) (fun lv l4 hk hok => ?_)
      have l0 := hk 0 _ (by decide) (Or.inl rfl) l0
      have l2 := hk 2 _ (by decide) (Or.inl rfl) l2
      have l3 := hk 3 _ (by decide) (Or.inl rfl) l3
      have ok := hok ok
      refine Rn.aload_n n175_52 l0 ?_
      obtain ⟨x7, hx7, h⟩ := Option.bind_eq_some_iff.mp h
      refine Rn.gf n175_53 mo175 fl11_33 (gfr_v hx7).1 ?_
      have r_x7 : x7 < n := by rw [← hn]; exact (gfr_v hx7).2
      refine Rn.ic (v := 0) n175_56 (by decide) ?_
      refine Rn.iload n175_57 l4 ?_
      obtain ⟨q8, hq8, h⟩ := Option.bind_eq_some_iff.mp h
      have gq8 := c157 (d := d') (by omega) F _ _ _ _ _ _ (by rw [hn]; exact r_x7) hq8
      refine Rn.cs (as := [.ref x7, .int 0, .int x6]) (rr := []) n175_59 mo175 mm11_194 mq157 rfl rfl rfl rfl (Nat.le_of_ble_eq_true rfl) (by rw [hn]; exact (okc (okr r_x7) (okc rfl (okc rfl okn)))) (by rw [hn]; exact okn) (by rw [hn]; exact ok) (by rw [ml157]; exact Nat.le_of_ble_eq_true rfl) gq8 ?_
      have hn := (Rn.len gq8).trans hn
      show Rn _ 175 62 lv [.int q8.1] q8.2 c w _
      by_cases hc9 : mc1 .eq q8.1 = true
      · rw [if_pos hc9] at h
        refine Rn.c1t (t := 71) n175_62 (by decide) hc9 ?_
        exact t175_71 hd F hr35 _ _ _ lv _ _ _ l0 l2 l3 ok hn r_v0  h
      · rw [if_neg hc9] at h
        refine Rn.c1f (t := 71) n175_62 (by decide) hc9 ?_
        refine Rn.aload_n n175_65 l0 ?_
        refine Rn.iload n175_66 l4 ?_
        obtain ⟨u11, hu11, h⟩ := Option.bind_eq_some_iff.mp h
        obtain ⟨q10, hq10, h⟩ := Option.bind_eq_some_iff.mp h
        have gq10 := c156 (d := d') (by omega) F _ _ _ _ _ (by rw [hn]; exact r_v0) hq10
        refine Rn.cv (As := [.int x6]) (rr := []) n175_68 mo175 mm11_204 (by decide) mq156 rfl rfl rfl rfl (by rw [mo156]; exact hu11) (Nat.le_of_ble_eq_true rfl) (by rw [hn]; exact (okc (okr r_v0) (okc rfl okn))) (by rw [hn]; exact okn) (by rw [hn]; exact ok) (by rw [ml156]; exact Nat.le_of_ble_eq_true rfl) gq10 ?_
        have hn := (Rn.len gq10).trans hn
        show Rn _ 175 71 lv [] q10.2 c w _
        exact t175_71 hd F hr35 _ _ _ lv _ _ _ l0 l2 l3 ok hn r_v0  h
def m175_16 (F : Nat) (hp : List mE) : Option (Int32 × List mE) :=
  some ((-1001), hp)
theorem t175_16 {d c w n : Nat} (hd : 3 ≤ d) (F : Nat) : ∀ (lv : List (Nat × Value)) (hp : List mE) (v : Int32) (hp' : List mE), lvk n lv → hp.length = n → m175_16 F hp = some (v, hp') → Rn d 175 16 lv [] hp c w (some (.int v), hp', c, w) := by
  obtain ⟨d', rfl⟩ : ∃ d', d = d' + 1 := ⟨d - 1, by omega⟩
  intro lv hp v hp' ok hn h
  unfold m175_16 at h
  refine Rn.sp (v := (-1001)) n175_16 (by decide) ?_
  have e1 := (Prod.mk.inj (Option.some.inj h)).1
  have e2 := (Prod.mk.inj (Option.some.inj h)).2
  subst e1
  subst e2
  exact Rn.iret n175_19 mr175
def m175_0 (F : Nat) (v0 : Nat) (v1 : Int32) (v2 : Int32) (hp : List mE) : Option (Int32 × List mE) :=
  (rcv 11 hp v0).bind fun u2 =>
  (e160 F v0 v1 hp).bind fun q1 =>
  if mc1 .eq q1.1 = true then
    m175_16 F q1.2
  else
    (rcv 11 q1.2 v0).bind fun u5 =>
    (e160 F v0 v2 q1.2).bind fun q4 =>
    if mc1 .ne q4.1 = true then
      (rcv 11 q4.2 v0).bind fun u8 =>
      (e169 F v0 v1 0 q4.2).bind fun q7 =>
      (gfr 11 17 q7.2 v0).bind fun x9 =>
      (rdI q7.2 x9 v2).bind fun x10 =>
      m175_35 F F v0 v2 (x10 - 1) q7.2
    else
      m175_16 F q4.2
theorem t175_0 {d c w n : Nat} (hd : 3 ≤ d) (F : Nat) : ∀ (v0 : Nat) (v1 : Int32) (v2 : Int32) (lv : List (Nat × Value)) (hp : List mE) (v : Int32) (hp' : List mE), alk 0 lv = some (.ref v0) → alk 1 lv = some (.int v1) → alk 2 lv = some (.int v2) → lvk n lv → hp.length = n → v0 < n → m175_0 F v0 v1 v2 hp = some (v, hp') → Rn d 175 0 lv [] hp c w (some (.int v), hp', c, w) := by
  obtain ⟨d', rfl⟩ : ∃ d', d = d' + 1 := ⟨d - 1, by omega⟩
  intro v0 v1 v2 lv hp v hp' l0 l1 l2 ok hn r_v0 h
  unfold m175_0 at h
  refine Rn.aload_n n175_0 l0 ?_
  refine Rn.iload_n n175_1 l1 ?_
  obtain ⟨u2, hu2, h⟩ := Option.bind_eq_some_iff.mp h
  obtain ⟨q1, hq1, h⟩ := Option.bind_eq_some_iff.mp h
  have gq1 := c160 (d := d') (by omega) F _ _ _ _ _ (by rw [hn]; exact r_v0) hq1
  refine Rn.cv (As := [.int v1]) (rr := []) n175_2 mo175 mm11_222 (by decide) mq160 rfl rfl rfl rfl (by rw [mo160]; exact hu2) (Nat.le_of_ble_eq_true rfl) (by rw [hn]; exact (okc (okr r_v0) (okc rfl okn))) (by rw [hn]; exact okn) (by rw [hn]; exact ok) (by rw [ml160]; exact Nat.le_of_ble_eq_true rfl) gq1 ?_
  have hn := (Rn.len gq1).trans hn
  show Rn _ 175 5 lv [.int q1.1] q1.2 c w _
  by_cases hc3 : mc1 .eq q1.1 = true
  · rw [if_pos hc3] at h
    refine Rn.c1t (t := 16) n175_5 (by decide) hc3 ?_
    exact t175_16 hd F  lv _ _ _  ok hn   h
  · rw [if_neg hc3] at h
    refine Rn.c1f (t := 16) n175_5 (by decide) hc3 ?_
    refine Rn.aload_n n175_8 l0 ?_
    refine Rn.iload_n n175_9 l2 ?_
    obtain ⟨u5, hu5, h⟩ := Option.bind_eq_some_iff.mp h
    obtain ⟨q4, hq4, h⟩ := Option.bind_eq_some_iff.mp h
    have gq4 := c160 (d := d') (by omega) F _ _ _ _ _ (by rw [hn]; exact r_v0) hq4
    refine Rn.cv (As := [.int v2]) (rr := []) n175_10 mo175 mm11_222 (by decide) mq160 rfl rfl rfl rfl (by rw [mo160]; exact hu5) (Nat.le_of_ble_eq_true rfl) (by rw [hn]; exact (okc (okr r_v0) (okc rfl okn))) (by rw [hn]; exact okn) (by rw [hn]; exact ok) (by rw [ml160]; exact Nat.le_of_ble_eq_true rfl) gq4 ?_
    have hn := (Rn.len gq4).trans hn
    show Rn _ 175 13 lv [.int q4.1] q4.2 c w _
    by_cases hc6 : mc1 .ne q4.1 = true
    · rw [if_pos hc6] at h
      refine Rn.c1t (t := 20) n175_13 (by decide) hc6 ?_
      refine Rn.aload_n n175_20 l0 ?_
      refine Rn.iload_n n175_21 l1 ?_
      refine Rn.ic (v := 0) n175_22 (by decide) ?_
      obtain ⟨u8, hu8, h⟩ := Option.bind_eq_some_iff.mp h
      obtain ⟨q7, hq7, h⟩ := Option.bind_eq_some_iff.mp h
      have gq7 := c169 (d := d') (by omega) F _ _ _ _ _ _ (by rw [hn]; exact r_v0) hq7
      refine Rn.cv (As := [.int v1, .int 0]) (rr := []) n175_23 mo175 mm11_225 (by decide) mq169 rfl rfl rfl rfl (by rw [mo169]; exact hu8) (Nat.le_of_ble_eq_true rfl) (by rw [hn]; exact (okc (okr r_v0) (okc rfl (okc rfl okn)))) (by rw [hn]; exact okn) (by rw [hn]; exact ok) (by rw [ml169]; exact Nat.le_of_ble_eq_true rfl) gq7 ?_
      have hn := (Rn.len gq7).trans hn
      show Rn _ 175 26 lv [] q7.2 c w _
      refine Rn.aload_n n175_26 l0 ?_
      obtain ⟨x9, hx9, h⟩ := Option.bind_eq_some_iff.mp h
      refine Rn.gf n175_27 mo175 fl11_40 (gfr_v hx9).1 ?_
      have r_x9 : x9 < n := by rw [← hn]; exact (gfr_v hx9).2
      refine Rn.iload_n n175_30 l2 ?_
      obtain ⟨x10, hx10, h⟩ := Option.bind_eq_some_iff.mp h
      refine Rn.iald n175_31 hx10 ?_
      refine Rn.ic (v := 1) n175_32 (by decide) ?_
      refine Rn.p n175_33 rfl ?_
      refine Rn.isn (m := n) n175_34 rfl ml175 (by decide) (fun lv l3 hk hok => ?_)
      have l0 := hk 0 _ (by decide) (Or.inl rfl) l0
      have l1 := hk 1 _ (by decide) (Or.inl rfl) l1
      have l2 := hk 2 _ (by decide) (Or.inl rfl) l2
      have ok := hok ok
      exact t175_35 hd F  F _ _ _ lv _ _ _ l0 l2 l3 ok hn r_v0  h
    · rw [if_neg hc6] at h
      refine Rn.c1f (t := 20) n175_13 (by decide) hc6 ?_
      exact t175_16 hd F  lv _ _ _  ok hn   h
def e175 (F : Nat) (a0 : Nat) (a1 : Int32) (a2 : Int32) (hp : List mE) : Option (Int32 × List mE) := m175_0 F a0 a1 a2 hp
theorem c175 {d : Nat} (hd : 3 ≤ d) (F : Nat) (a0 : Nat) (a1 : Int32) (a2 : Int32) (hp : List mE) (v : Int32) (hp' : List mE) (ra0 : a0 < hp.length) (h : e175 F a0 a1 a2 hp = some (v, hp')) : Rn d 175 0 (lv_args 0 [.ref a0, .int a1, .int a2]) [] hp 0 0 (some (.int v), hp', 0, 0) :=
  t175_0 (n := hp.length) hd F a0 a1 a2 (lv_args 0 [.ref a0, .int a1, .int a2]) hp v hp' rfl rfl rfl (lvk_args (okc (okr ra0) (okc rfl (okc rfl okn)))) rfl ra0 h
/-! MirrorRootsModel.isSame -/
def m176_47 (F : Nat) (v4 : Int32) (hp : List mE) : Option (Int32 × List mE) :=
  if v4 = 0 ∨ v4 = 1 then some (v4, hp) else none
theorem t176_47 {d c w n : Nat} (hd : 0 ≤ d) (F : Nat) : ∀ (v4 : Int32) (lv : List (Nat × Value)) (hp : List mE) (v : Int32) (hp' : List mE), alk 4 lv = some (.int v4) → lvk n lv → hp.length = n → m176_47 F v4 hp = some (v, hp') → Rn d 176 47 lv [] hp c w (some (.int v), hp', c, w) := by
  intro v4 lv hp v hp' l4 ok hn h
  unfold m176_47 at h
  refine Rn.iload n176_47 l4 ?_
  by_cases hz1 : v4 = 0 ∨ v4 = 1
  · rw [if_pos hz1] at h
    have e1 := (Prod.mk.inj (Option.some.inj h)).1
    have e2 := (Prod.mk.inj (Option.some.inj h)).2
    subst e1
    subst e2
    exact Rn.zret n176_49 mr176 hz1
  · rw [if_neg hz1] at h; cases h
def m176_39 (F : Nat) (rc6 : Nat → Int32 → Nat → Int32 → Int32 → Int32 → List mE → Option (Int32 × List mE)) (v0 : Nat) (v1 : Int32) (v2 : Nat) (v3 : Int32) (v5 : Int32) (t0 : Int32) (hp : List mE) : Option (Int32 × List mE) :=
  rc6 v0 v1 v2 v3 t0 (v5 + 1) hp
theorem t176_39 {d c w n : Nat} (hd : 0 ≤ d) (F : Nat) {rc6 : Nat → Int32 → Nat → Int32 → Int32 → Int32 → List mE → Option (Int32 × List mE)} (hr6 : ∀ (v0 : Nat) (v1 : Int32) (v2 : Nat) (v3 : Int32) (v4 : Int32) (v5 : Int32) (lv : List (Nat × Value)) (hp : List mE) (v : Int32) (hp' : List mE), alk 0 lv = some (.ref v0) → alk 1 lv = some (.int v1) → alk 2 lv = some (.ref v2) → alk 3 lv = some (.int v3) → alk 4 lv = some (.int v4) → alk 5 lv = some (.int v5) → lvk n lv → hp.length = n → v0 < n → v2 < n → rc6 v0 v1 v2 v3 v4 v5 hp = some (v, hp') → Rn d 176 6 lv [] hp c w (some (.int v), hp', c, w)) : ∀ (v0 : Nat) (v1 : Int32) (v2 : Nat) (v3 : Int32) (v5 : Int32) (t0 : Int32) (lv : List (Nat × Value)) (hp : List mE) (v : Int32) (hp' : List mE), alk 0 lv = some (.ref v0) → alk 1 lv = some (.int v1) → alk 2 lv = some (.ref v2) → alk 3 lv = some (.int v3) → alk 5 lv = some (.int v5) → lvk n lv → hp.length = n → v0 < n → v2 < n → m176_39 F rc6 v0 v1 v2 v3 v5 t0 hp = some (v, hp') → Rn d 176 39 lv [.int t0] hp c w (some (.int v), hp', c, w) := by
  intro v0 v1 v2 v3 v5 t0 lv hp v hp' l0 l1 l2 l3 l5 ok hn r_v0 r_v2 h
  unfold m176_39 at h
  refine Rn.is (m := n) n176_39 ml176 (by decide) (fun lv l4 hk hok => ?_)
  have l0 := hk 0 _ (by decide) (Or.inl rfl) l0
  have l1 := hk 1 _ (by decide) (Or.inl rfl) l1
  have l2 := hk 2 _ (by decide) (Or.inl rfl) l2
  have l3 := hk 3 _ (by decide) (Or.inl rfl) l3
  have l5 := hk 5 _ (by decide) (Or.inl rfl) l5
  have ok := hok ok
  refine Rn.ii (m := n) (u := 1) n176_41 ml176 (by decide) (by decide) l5 (fun lv l5 hk hok => ?_)
  have l0 := hk 0 _ (by decide) (Or.inl rfl) l0
  have l1 := hk 1 _ (by decide) (Or.inl rfl) l1
  have l2 := hk 2 _ (by decide) (Or.inl rfl) l2
  have l3 := hk 3 _ (by decide) (Or.inl rfl) l3
  have l4 := hk 4 _ (by decide) (Or.inl rfl) l4
  have ok := hok ok
  refine Rn.goto (t := 6) n176_44 (by decide) ?_
  exact hr6 _ _ _ _ _ _ lv _ _ _ l0 l1 l2 l3 l4 l5 ok hn r_v0 r_v2  h
def m176_6 (F : Nat) : Nat → Nat → Int32 → Nat → Int32 → Int32 → Int32 → List mE → Option (Int32 × List mE)
  | 0, _, _, _, _, _, _, _ => none
  | f + 1, v0, v1, v2, v3, v4, v5, hp =>
    if mc2 .ge v5 25 = true then
      m176_47 F v4 hp
    else
      if mc1 .eq v4 = true then
        m176_47 F v4 hp
      else
        (rdJ hp v0 (v1 + v5)).bind fun x3 =>
        (rdJ hp v2 (v3 + v5)).bind fun x4 =>
        if mc1 .ne (lg_cmp x3 x4) = true then
          m176_39 F (m176_6 F f) v0 v1 v2 v3 v5 0 hp
        else
          m176_39 F (m176_6 F f) v0 v1 v2 v3 v5 1 hp
theorem t176_6 {d c w n : Nat} (hd : 0 ≤ d) (F : Nat) : ∀ f : Nat, ∀ (v0 : Nat) (v1 : Int32) (v2 : Nat) (v3 : Int32) (v4 : Int32) (v5 : Int32) (lv : List (Nat × Value)) (hp : List mE) (v : Int32) (hp' : List mE), alk 0 lv = some (.ref v0) → alk 1 lv = some (.int v1) → alk 2 lv = some (.ref v2) → alk 3 lv = some (.int v3) → alk 4 lv = some (.int v4) → alk 5 lv = some (.int v5) → lvk n lv → hp.length = n → v0 < n → v2 < n → m176_6 F f v0 v1 v2 v3 v4 v5 hp = some (v, hp') → Rn d 176 6 lv [] hp c w (some (.int v), hp', c, w) := by
  intro f
  induction f with
  | zero => intro v0 v1 v2 v3 v4 v5 lv hp v hp' l0 l1 l2 l3 l4 l5 ok hn r_v0 r_v2 h; cases h
  | succ f hr6 =>
    intro v0 v1 v2 v3 v4 v5 lv hp v hp' l0 l1 l2 l3 l4 l5 ok hn r_v0 r_v2 h
    unfold m176_6 at h
    refine Rn.iload n176_6 l5 ?_
    refine Rn.bp (v := 25) n176_8 (by decide) ?_
    by_cases hc1 : mc2 .ge v5 25 = true
    · rw [if_pos hc1] at h
      refine Rn.c2t (t := 47) n176_10 (by decide) hc1 ?_
      exact t176_47 hd F  _ lv _ _ _ l4 ok hn   h
    · rw [if_neg hc1] at h
      refine Rn.c2f (t := 47) n176_10 (by decide) hc1 ?_
      refine Rn.iload n176_13 l4 ?_
      by_cases hc2 : mc1 .eq v4 = true
      · rw [if_pos hc2] at h
        refine Rn.c1t (t := 47) n176_15 (by decide) hc2 ?_
        exact t176_47 hd F  _ lv _ _ _ l4 ok hn   h
      · rw [if_neg hc2] at h
        refine Rn.c1f (t := 47) n176_15 (by decide) hc2 ?_
        refine Rn.aload_n n176_18 l0 ?_
        refine Rn.iload_n n176_19 l1 ?_
        refine Rn.iload n176_20 l5 ?_
        refine Rn.p n176_22 rfl ?_
        obtain ⟨x3, hx3, h⟩ := Option.bind_eq_some_iff.mp h
        refine Rn.lald n176_23 hx3 ?_
        refine Rn.aload_n n176_24 l2 ?_
        refine Rn.iload_n n176_25 l3 ?_
        refine Rn.iload n176_26 l5 ?_
        refine Rn.p n176_28 rfl ?_
        obtain ⟨x4, hx4, h⟩ := Option.bind_eq_some_iff.mp h
        refine Rn.lald n176_29 hx4 ?_
        refine Rn.p n176_30 rfl ?_
        by_cases hc5 : mc1 .ne (lg_cmp x3 x4) = true
        · rw [if_pos hc5] at h
          refine Rn.c1t (t := 38) n176_31 (by decide) hc5 ?_
          refine Rn.ic (v := 0) n176_38 (by decide) ?_
          exact t176_39 hd F hr6 _ _ _ _ _ _ lv _ _ _ l0 l1 l2 l3 l5 ok hn r_v0 r_v2  h
        · rw [if_neg hc5] at h
          refine Rn.c1f (t := 38) n176_31 (by decide) hc5 ?_
          refine Rn.ic (v := 1) n176_34 (by decide) ?_
          refine Rn.goto (t := 39) n176_35 (by decide) ?_
          exact t176_39 hd F hr6 _ _ _ _ _ _ lv _ _ _ l0 l1 l2 l3 l5 ok hn r_v0 r_v2  h
def m176_0 (F : Nat) (v0 : Nat) (v1 : Int32) (v2 : Nat) (v3 : Int32) (hp : List mE) : Option (Int32 × List mE) :=
  m176_6 F F v0 v1 v2 v3 1 0 hp
theorem t176_0 {d c w n : Nat} (hd : 0 ≤ d) (F : Nat) : ∀ (v0 : Nat) (v1 : Int32) (v2 : Nat) (v3 : Int32) (lv : List (Nat × Value)) (hp : List mE) (v : Int32) (hp' : List mE), alk 0 lv = some (.ref v0) → alk 1 lv = some (.int v1) → alk 2 lv = some (.ref v2) → alk 3 lv = some (.int v3) → lvk n lv → hp.length = n → v0 < n → v2 < n → m176_0 F v0 v1 v2 v3 hp = some (v, hp') → Rn d 176 0 lv [] hp c w (some (.int v), hp', c, w) := by
  intro v0 v1 v2 v3 lv hp v hp' l0 l1 l2 l3 ok hn r_v0 r_v2 h
  unfold m176_0 at h
  refine Rn.ic (v := 1) n176_0 (by decide) ?_
  refine Rn.is (m := n) n176_1 ml176 (by decide) (fun lv l4 hk hok => ?_)
  have l0 := hk 0 _ (by decide) (Or.inl rfl) l0
  have l1 := hk 1 _ (by decide) (Or.inl rfl) l1
  have l2 := hk 2 _ (by decide) (Or.inl rfl) l2
  have l3 := hk 3 _ (by decide) (Or.inl rfl) l3
  have ok := hok ok
  refine Rn.ic (v := 0) n176_3 (by decide) ?_
  refine Rn.is (m := n) n176_4 ml176 (by decide) (fun lv l5 hk hok => ?_)
  have l0 := hk 0 _ (by decide) (Or.inl rfl) l0
  have l1 := hk 1 _ (by decide) (Or.inl rfl) l1
  have l2 := hk 2 _ (by decide) (Or.inl rfl) l2
  have l3 := hk 3 _ (by decide) (Or.inl rfl) l3
  have l4 := hk 4 _ (by decide) (Or.inl rfl) l4
  have ok := hok ok
  exact t176_6 hd F  F _ _ _ _ _ _ lv _ _ _ l0 l1 l2 l3 l4 l5 ok hn r_v0 r_v2  h
def e176 (F : Nat) (a0 : Nat) (a1 : Int32) (a2 : Nat) (a3 : Int32) (hp : List mE) : Option (Int32 × List mE) := m176_0 F a0 a1 a2 a3 hp
theorem c176 {d : Nat} (hd : 0 ≤ d) (F : Nat) (a0 : Nat) (a1 : Int32) (a2 : Nat) (a3 : Int32) (hp : List mE) (v : Int32) (hp' : List mE) (ra0 : a0 < hp.length) (ra2 : a2 < hp.length) (h : e176 F a0 a1 a2 a3 hp = some (v, hp')) : Rn d 176 0 (lv_args 0 [.ref a0, .int a1, .ref a2, .int a3]) [] hp 0 0 (some (.int v), hp', 0, 0) :=
  t176_0 (n := hp.length) hd F a0 a1 a2 a3 (lv_args 0 [.ref a0, .int a1, .ref a2, .int a3]) hp v hp' rfl rfl rfl rfl (lvk_args (okc (okr ra0) (okc rfl (okc (okr ra2) (okc rfl okn))))) rfl ra0 ra2 h
/-! MirrorRootsModel.copy -/
def m177_3 (F : Nat) : Nat → Nat → Int32 → Nat → Int32 → Int32 → List mE → Option (Unit × List mE)
  | 0, _, _, _, _, _, _ => none
  | f + 1, v0, v1, v2, v3, v4, hp =>
    if mc2 .ge v4 25 = true then
      some ((), hp)
    else
      (rdJ hp v0 (v1 + v4)).bind fun x2 =>
      (wrJ hp v2 (v3 + v4) x2).bind fun hp3 =>
      m177_3 F f v0 v1 v2 v3 (v4 + 1) hp3
theorem t177_3 {d c w n : Nat} (hd : 0 ≤ d) (F : Nat) : ∀ f : Nat, ∀ (v0 : Nat) (v1 : Int32) (v2 : Nat) (v3 : Int32) (v4 : Int32) (lv : List (Nat × Value)) (hp : List mE) (v : Unit) (hp' : List mE), alk 0 lv = some (.ref v0) → alk 1 lv = some (.int v1) → alk 2 lv = some (.ref v2) → alk 3 lv = some (.int v3) → alk 4 lv = some (.int v4) → lvk n lv → hp.length = n → v0 < n → v2 < n → m177_3 F f v0 v1 v2 v3 v4 hp = some (v, hp') → Rn d 177 3 lv [] hp c w (none, hp', c, w) := by
  intro f
  induction f with
  | zero => intro v0 v1 v2 v3 v4 lv hp v hp' l0 l1 l2 l3 l4 ok hn r_v0 r_v2 h; cases h
  | succ f hr3 =>
    intro v0 v1 v2 v3 v4 lv hp v hp' l0 l1 l2 l3 l4 ok hn r_v0 r_v2 h
    unfold m177_3 at h
    refine Rn.iload n177_3 l4 ?_
    refine Rn.bp (v := 25) n177_5 (by decide) ?_
    by_cases hc1 : mc2 .ge v4 25 = true
    · rw [if_pos hc1] at h
      refine Rn.c2t (t := 28) n177_7 (by decide) hc1 ?_
      have e1 := (Prod.mk.inj (Option.some.inj h)).1
      have e2 := (Prod.mk.inj (Option.some.inj h)).2
      subst e1
      subst e2
      exact Rn.vret n177_28 mr177
    · rw [if_neg hc1] at h
      refine Rn.c2f (t := 28) n177_7 (by decide) hc1 ?_
      refine Rn.aload_n n177_10 l2 ?_
      refine Rn.iload_n n177_11 l3 ?_
      refine Rn.iload n177_12 l4 ?_
      refine Rn.p n177_14 rfl ?_
      refine Rn.aload_n n177_15 l0 ?_
      refine Rn.iload_n n177_16 l1 ?_
      refine Rn.iload n177_17 l4 ?_
      refine Rn.p n177_19 rfl ?_
      obtain ⟨x2, hx2, h⟩ := Option.bind_eq_some_iff.mp h
      refine Rn.lald n177_20 hx2 ?_
      obtain ⟨hp3, hhp3, h⟩ := Option.bind_eq_some_iff.mp h
      refine Rn.last n177_21 hhp3 ?_
      have hn := (wrJ_st (st := []) hhp3).2.trans hn
      refine Rn.ii (m := n) (u := 1) n177_22 ml177 (by decide) (by decide) l4 (fun lv l4 hk hok => ?_)
      have l0 := hk 0 _ (by decide) (Or.inl rfl) l0
      have l1 := hk 1 _ (by decide) (Or.inl rfl) l1
      have l2 := hk 2 _ (by decide) (Or.inl rfl) l2
      have l3 := hk 3 _ (by decide) (Or.inl rfl) l3
      have ok := hok ok
      refine Rn.goto (t := 3) n177_25 (by decide) ?_
      exact hr3 _ _ _ _ _ lv _ _ _ l0 l1 l2 l3 l4 ok hn r_v0 r_v2  h
def m177_0 (F : Nat) (v0 : Nat) (v1 : Int32) (v2 : Nat) (v3 : Int32) (hp : List mE) : Option (Unit × List mE) :=
  m177_3 F F v0 v1 v2 v3 0 hp
theorem t177_0 {d c w n : Nat} (hd : 0 ≤ d) (F : Nat) : ∀ (v0 : Nat) (v1 : Int32) (v2 : Nat) (v3 : Int32) (lv : List (Nat × Value)) (hp : List mE) (v : Unit) (hp' : List mE), alk 0 lv = some (.ref v0) → alk 1 lv = some (.int v1) → alk 2 lv = some (.ref v2) → alk 3 lv = some (.int v3) → lvk n lv → hp.length = n → v0 < n → v2 < n → m177_0 F v0 v1 v2 v3 hp = some (v, hp') → Rn d 177 0 lv [] hp c w (none, hp', c, w) := by
  intro v0 v1 v2 v3 lv hp v hp' l0 l1 l2 l3 ok hn r_v0 r_v2 h
  unfold m177_0 at h
  refine Rn.ic (v := 0) n177_0 (by decide) ?_
  refine Rn.is (m := n) n177_1 ml177 (by decide) (fun lv l4 hk hok => ?_)
  have l0 := hk 0 _ (by decide) (Or.inl rfl) l0
  have l1 := hk 1 _ (by decide) (Or.inl rfl) l1
  have l2 := hk 2 _ (by decide) (Or.inl rfl) l2
  have l3 := hk 3 _ (by decide) (Or.inl rfl) l3
  have ok := hok ok
  exact t177_3 hd F  F _ _ _ _ _ lv _ _ _ l0 l1 l2 l3 l4 ok hn r_v0 r_v2  h
def e177 (F : Nat) (a0 : Nat) (a1 : Int32) (a2 : Nat) (a3 : Int32) (hp : List mE) : Option (Unit × List mE) := m177_0 F a0 a1 a2 a3 hp
theorem c177 {d : Nat} (hd : 0 ≤ d) (F : Nat) (a0 : Nat) (a1 : Int32) (a2 : Nat) (a3 : Int32) (hp : List mE) (v : Unit) (hp' : List mE) (ra0 : a0 < hp.length) (ra2 : a2 < hp.length) (h : e177 F a0 a1 a2 a3 hp = some (v, hp')) : Rn d 177 0 (lv_args 0 [.ref a0, .int a1, .ref a2, .int a3]) [] hp 0 0 (none, hp', 0, 0) :=
  t177_0 (n := hp.length) hd F a0 a1 a2 a3 (lv_args 0 [.ref a0, .int a1, .ref a2, .int a3]) hp v hp' rfl rfl rfl rfl (lvk_args (okc (okr ra0) (okc rfl (okc (okr ra2) (okc rfl okn))))) rfl ra0 ra2 h
/-! MirrorRootsModel.putSquare -/
def m178_2 (F : Nat) : Nat → Nat → Nat → Int32 → Int32 → List mE → Option (Int32 × List mE)
  | 0, _, _, _, _, _ => none
  | f + 1, v0, v1, v2, v3, hp =>
    if mc2 .ge v3 v2 = true then
      (gfr 11 13 hp v0).bind fun x2 =>
      (e177 F x2 0 v1 (25 * v2) hp).bind fun q3 =>
      some (v2, q3.2)
    else
      (gfr 11 13 hp v0).bind fun x4 =>
      (e176 F x4 0 v1 (25 * v3) hp).bind fun q5 =>
      if mc1 .eq q5.1 = true then
        m178_2 F f v0 v1 v2 (v3 + 1) q5.2
      else
        some (v3, q5.2)
theorem t178_2 {d c w n : Nat} (hd : 1 ≤ d) (F : Nat) : ∀ f : Nat, ∀ (v0 : Nat) (v1 : Nat) (v2 : Int32) (v3 : Int32) (lv : List (Nat × Value)) (hp : List mE) (v : Int32) (hp' : List mE), alk 0 lv = some (.ref v0) → alk 1 lv = some (.ref v1) → alk 2 lv = some (.int v2) → alk 3 lv = some (.int v3) → lvk n lv → hp.length = n → v0 < n → v1 < n → m178_2 F f v0 v1 v2 v3 hp = some (v, hp') → Rn d 178 2 lv [] hp c w (some (.int v), hp', c, w) := by
  obtain ⟨d', rfl⟩ : ∃ d', d = d' + 1 := ⟨d - 1, by omega⟩
  intro f
  induction f with
  | zero => intro v0 v1 v2 v3 lv hp v hp' l0 l1 l2 l3 ok hn r_v0 r_v1 h; cases h
  | succ f hr2 =>
    intro v0 v1 v2 v3 lv hp v hp' l0 l1 l2 l3 ok hn r_v0 r_v1 h
    unfold m178_2 at h
    refine Rn.iload_n n178_2 l3 ?_
    refine Rn.iload_n n178_3 l2 ?_
    by_cases hc1 : mc2 .ge v3 v2 = true
    · rw [if_pos hc1] at h
      refine Rn.c2t (t := 31) n178_4 (by decide) hc1 ?_
      refine Rn.aload_n n178_31 l0 ?_
      obtain ⟨x2, hx2, h⟩ := Option.bind_eq_some_iff.mp h
      refine Rn.gf n178_32 mo178 fl11_33 (gfr_v hx2).1 ?_
      have r_x2 : x2 < n := by rw [← hn]; exact (gfr_v hx2).2
      refine Rn.ic (v := 0) n178_35 (by decide) ?_
      refine Rn.aload_n n178_36 l1 ?_
      refine Rn.bp (v := 25) n178_37 (by decide) ?_
      refine Rn.iload_n n178_39 l2 ?_
      refine Rn.p n178_40 rfl ?_
      obtain ⟨q3, hq3, h⟩ := Option.bind_eq_some_iff.mp h
      have gq3 := c177 (d := d') (by omega) F _ _ _ _ _ _ _ (by rw [hn]; exact r_x2) (by rw [hn]; exact r_v1) hq3
      refine Rn.cs (as := [.ref x2, .int 0, .ref v1, .int (25 * v2)]) (rr := []) n178_41 mo178 mm11_244 mq177 rfl rfl rfl rfl (Nat.le_of_ble_eq_true rfl) (by rw [hn]; exact (okc (okr r_x2) (okc rfl (okc (okr r_v1) (okc rfl okn))))) (by rw [hn]; exact okn) (by rw [hn]; exact ok) (by rw [ml177]; exact Nat.le_of_ble_eq_true rfl) gq3 ?_
      have hn := (Rn.len gq3).trans hn
      show Rn _ 178 44 lv [] q3.2 c w _
      refine Rn.iload_n n178_44 l2 ?_
      have e1 := (Prod.mk.inj (Option.some.inj h)).1
      have e2 := (Prod.mk.inj (Option.some.inj h)).2
      subst e1
      subst e2
      exact Rn.iret n178_45 mr178
    · rw [if_neg hc1] at h
      refine Rn.c2f (t := 31) n178_4 (by decide) hc1 ?_
      refine Rn.aload_n n178_7 l0 ?_
      obtain ⟨x4, hx4, h⟩ := Option.bind_eq_some_iff.mp h
      refine Rn.gf n178_8 mo178 fl11_33 (gfr_v hx4).1 ?_
      have r_x4 : x4 < n := by rw [← hn]; exact (gfr_v hx4).2
      refine Rn.ic (v := 0) n178_11 (by decide) ?_
      refine Rn.aload_n n178_12 l1 ?_
      refine Rn.bp (v := 25) n178_13 (by decide) ?_
      refine Rn.iload_n n178_15 l3 ?_
      refine Rn.p n178_16 rfl ?_
      obtain ⟨q5, hq5, h⟩ := Option.bind_eq_some_iff.mp h
      have gq5 := c176 (d := d') (by omega) F _ _ _ _ _ _ _ (by rw [hn]; exact r_x4) (by rw [hn]; exact r_v1) hq5
      refine Rn.cs (as := [.ref x4, .int 0, .ref v1, .int (25 * v3)]) (rr := []) n178_17 mo178 mm11_240 mq176 rfl rfl rfl rfl (Nat.le_of_ble_eq_true rfl) (by rw [hn]; exact (okc (okr r_x4) (okc rfl (okc (okr r_v1) (okc rfl okn))))) (by rw [hn]; exact okn) (by rw [hn]; exact ok) (by rw [ml176]; exact Nat.le_of_ble_eq_true rfl) gq5 ?_
      have hn := (Rn.len gq5).trans hn
      show Rn _ 178 20 lv [.int q5.1] q5.2 c w _
      by_cases hc6 : mc1 .eq q5.1 = true
      · rw [if_pos hc6] at h
        refine Rn.c1t (t := 25) n178_20 (by decide) hc6 ?_
        refine Rn.ii (m := n) (u := 1) n178_25 ml178 (by decide) (by decide) l3 (fun lv l3 hk hok => ?_)
        have l0 := hk 0 _ (by decide) (Or.inl rfl) l0
        have l1 := hk 1 _ (by decide) (Or.inl rfl) l1
        have l2 := hk 2 _ (by decide) (Or.inl rfl) l2
        have ok := hok ok
        refine Rn.goto (t := 2) n178_28 (by decide) ?_
        exact hr2 _ _ _ _ lv _ _ _ l0 l1 l2 l3 ok hn r_v0 r_v1  h
      · rw [if_neg hc6] at h
        refine Rn.c1f (t := 25) n178_20 (by decide) hc6 ?_
        refine Rn.iload_n n178_23 l3 ?_
        have e1 := (Prod.mk.inj (Option.some.inj h)).1
        have e2 := (Prod.mk.inj (Option.some.inj h)).2
        subst e1
        subst e2
        exact Rn.iret n178_24 mr178
def m178_0 (F : Nat) (v0 : Nat) (v1 : Nat) (v2 : Int32) (hp : List mE) : Option (Int32 × List mE) :=
  m178_2 F F v0 v1 v2 0 hp
theorem t178_0 {d c w n : Nat} (hd : 1 ≤ d) (F : Nat) : ∀ (v0 : Nat) (v1 : Nat) (v2 : Int32) (lv : List (Nat × Value)) (hp : List mE) (v : Int32) (hp' : List mE), alk 0 lv = some (.ref v0) → alk 1 lv = some (.ref v1) → alk 2 lv = some (.int v2) → lvk n lv → hp.length = n → v0 < n → v1 < n → m178_0 F v0 v1 v2 hp = some (v, hp') → Rn d 178 0 lv [] hp c w (some (.int v), hp', c, w) := by
  obtain ⟨d', rfl⟩ : ∃ d', d = d' + 1 := ⟨d - 1, by omega⟩
  intro v0 v1 v2 lv hp v hp' l0 l1 l2 ok hn r_v0 r_v1 h
  unfold m178_0 at h
  refine Rn.ic (v := 0) n178_0 (by decide) ?_
  refine Rn.isn (m := n) n178_1 rfl ml178 (by decide) (fun lv l3 hk hok => ?_)
  have l0 := hk 0 _ (by decide) (Or.inl rfl) l0
  have l1 := hk 1 _ (by decide) (Or.inl rfl) l1
  have l2 := hk 2 _ (by decide) (Or.inl rfl) l2
  have ok := hok ok
  exact t178_2 hd F  F _ _ _ _ lv _ _ _ l0 l1 l2 l3 ok hn r_v0 r_v1  h
def e178 (F : Nat) (a0 : Nat) (a1 : Nat) (a2 : Int32) (hp : List mE) : Option (Int32 × List mE) := m178_0 F a0 a1 a2 hp
theorem c178 {d : Nat} (hd : 1 ≤ d) (F : Nat) (a0 : Nat) (a1 : Nat) (a2 : Int32) (hp : List mE) (v : Int32) (hp' : List mE) (ra0 : a0 < hp.length) (ra1 : a1 < hp.length) (h : e178 F a0 a1 a2 hp = some (v, hp')) : Rn d 178 0 (lv_args 0 [.ref a0, .ref a1, .int a2]) [] hp 0 0 (some (.int v), hp', 0, 0) :=
  t178_0 (n := hp.length) hd F a0 a1 a2 (lv_args 0 [.ref a0, .ref a1, .int a2]) hp v hp' rfl rfl rfl (lvk_args (okc (okr ra0) (okc (okr ra1) (okc rfl okn)))) rfl ra0 ra1 h
/-! MirrorRootsModel.covers -/
def m179_136 (F : Nat) (rc16 : Nat → Int32 → Int32 → Int32 → List mE → Option (Int32 × List mE)) (v0 : Nat) (v1 : Int32) (v2 : Int32) (v3 : Int32) (hp : List mE) : Option (Int32 × List mE) :=
  rc16 v0 v1 v2 (v3 + 1) hp
theorem t179_136 {d c w n : Nat} (hd : 2 ≤ d) (F : Nat) {rc16 : Nat → Int32 → Int32 → Int32 → List mE → Option (Int32 × List mE)} (hr16 : ∀ (v0 : Nat) (v1 : Int32) (v2 : Int32) (v3 : Int32) (lv : List (Nat × Value)) (hp : List mE) (v : Int32) (hp' : List mE), alk 0 lv = some (.ref v0) → alk 1 lv = some (.int v1) → alk 2 lv = some (.int v2) → alk 3 lv = some (.int v3) → lvk n lv → hp.length = n → v0 < n → rc16 v0 v1 v2 v3 hp = some (v, hp') → Rn d 179 16 lv [] hp c w (some (.int v), hp', c, w)) : ∀ (v0 : Nat) (v1 : Int32) (v2 : Int32) (v3 : Int32) (lv : List (Nat × Value)) (hp : List mE) (v : Int32) (hp' : List mE), alk 0 lv = some (.ref v0) → alk 1 lv = some (.int v1) → alk 2 lv = some (.int v2) → alk 3 lv = some (.int v3) → lvk n lv → hp.length = n → v0 < n → m179_136 F rc16 v0 v1 v2 v3 hp = some (v, hp') → Rn d 179 136 lv [] hp c w (some (.int v), hp', c, w) := by
  obtain ⟨d', rfl⟩ : ∃ d', d = d' + 1 := ⟨d - 1, by omega⟩
  intro v0 v1 v2 v3 lv hp v hp' l0 l1 l2 l3 ok hn r_v0 h
  unfold m179_136 at h
  refine Rn.ii (m := n) (u := 1) n179_136 ml179 (by decide) (by decide) l3 (fun lv l3 hk hok => ?_)
  have l0 := hk 0 _ (by decide) (Or.inl rfl) l0
  have l1 := hk 1 _ (by decide) (Or.inl rfl) l1
  have l2 := hk 2 _ (by decide) (Or.inl rfl) l2
  have ok := hok ok
  refine Rn.goto (t := 16) n179_139 (by decide) ?_
  exact hr16 _ _ _ _ lv _ _ _ l0 l1 l2 l3 ok hn r_v0  h
def m179_134 (F : Nat) (rc16 : Nat → Int32 → Int32 → Int32 → List mE → Option (Int32 × List mE)) (v0 : Nat) (v1 : Int32) (v3 : Int32) (t0 : Int32) (t1 : Int32) (hp : List mE) : Option (Int32 × List mE) :=
  m179_136 F rc16 v0 v1 (t0 + t1) v3 hp
theorem t179_134 {d c w n : Nat} (hd : 2 ≤ d) (F : Nat) {rc16 : Nat → Int32 → Int32 → Int32 → List mE → Option (Int32 × List mE)} (hr16 : ∀ (v0 : Nat) (v1 : Int32) (v2 : Int32) (v3 : Int32) (lv : List (Nat × Value)) (hp : List mE) (v : Int32) (hp' : List mE), alk 0 lv = some (.ref v0) → alk 1 lv = some (.int v1) → alk 2 lv = some (.int v2) → alk 3 lv = some (.int v3) → lvk n lv → hp.length = n → v0 < n → rc16 v0 v1 v2 v3 hp = some (v, hp') → Rn d 179 16 lv [] hp c w (some (.int v), hp', c, w)) : ∀ (v0 : Nat) (v1 : Int32) (v3 : Int32) (t0 : Int32) (t1 : Int32) (lv : List (Nat × Value)) (hp : List mE) (v : Int32) (hp' : List mE), alk 0 lv = some (.ref v0) → alk 1 lv = some (.int v1) → alk 3 lv = some (.int v3) → lvk n lv → hp.length = n → v0 < n → m179_134 F rc16 v0 v1 v3 t0 t1 hp = some (v, hp') → Rn d 179 134 lv [.int t1, .int t0] hp c w (some (.int v), hp', c, w) := by
  obtain ⟨d', rfl⟩ : ∃ d', d = d' + 1 := ⟨d - 1, by omega⟩
  intro v0 v1 v3 t0 t1 lv hp v hp' l0 l1 l3 ok hn r_v0 h
  unfold m179_134 at h
  refine Rn.p n179_134 rfl ?_
  refine Rn.isn (m := n) n179_135 rfl ml179 (by decide) (fun lv l2 hk hok => ?_)
  have l0 := hk 0 _ (by decide) (Or.inl rfl) l0
  have l1 := hk 1 _ (by decide) (Or.inl rfl) l1
  have l3 := hk 3 _ (by decide) (Or.inl rfl) l3
  have ok := hok ok
  exact t179_136 hd F hr16 _ _ _ _ lv _ _ _ l0 l1 l2 l3 ok hn r_v0  h
def m179_96 (F : Nat) (rc16 : Nat → Int32 → Int32 → Int32 → List mE → Option (Int32 × List mE)) (rc36 : Nat → Int32 → Int32 → Int32 → Int32 → Int32 → List mE → Option (Int32 × List mE)) (v0 : Nat) (v1 : Int32) (v2 : Int32) (v3 : Int32) (v4 : Int32) (v5 : Int32) (hp : List mE) : Option (Int32 × List mE) :=
  rc36 v0 v1 v2 v3 v4 (v5 + 1) hp
theorem t179_96 {d c w n : Nat} (hd : 2 ≤ d) (F : Nat) {rc16 : Nat → Int32 → Int32 → Int32 → List mE → Option (Int32 × List mE)} {rc36 : Nat → Int32 → Int32 → Int32 → Int32 → Int32 → List mE → Option (Int32 × List mE)} (hr16 : ∀ (v0 : Nat) (v1 : Int32) (v2 : Int32) (v3 : Int32) (lv : List (Nat × Value)) (hp : List mE) (v : Int32) (hp' : List mE), alk 0 lv = some (.ref v0) → alk 1 lv = some (.int v1) → alk 2 lv = some (.int v2) → alk 3 lv = some (.int v3) → lvk n lv → hp.length = n → v0 < n → rc16 v0 v1 v2 v3 hp = some (v, hp') → Rn d 179 16 lv [] hp c w (some (.int v), hp', c, w)) (hr36 : ∀ (v0 : Nat) (v1 : Int32) (v2 : Int32) (v3 : Int32) (v4 : Int32) (v5 : Int32) (lv : List (Nat × Value)) (hp : List mE) (v : Int32) (hp' : List mE), alk 0 lv = some (.ref v0) → alk 1 lv = some (.int v1) → alk 2 lv = some (.int v2) → alk 3 lv = some (.int v3) → alk 4 lv = some (.int v4) → alk 5 lv = some (.int v5) → lvk n lv → hp.length = n → v0 < n → rc36 v0 v1 v2 v3 v4 v5 hp = some (v, hp') → Rn d 179 36 lv [] hp c w (some (.int v), hp', c, w)) : ∀ (v0 : Nat) (v1 : Int32) (v2 : Int32) (v3 : Int32) (v4 : Int32) (v5 : Int32) (lv : List (Nat × Value)) (hp : List mE) (v : Int32) (hp' : List mE), alk 0 lv = some (.ref v0) → alk 1 lv = some (.int v1) → alk 2 lv = some (.int v2) → alk 3 lv = some (.int v3) → alk 4 lv = some (.int v4) → alk 5 lv = some (.int v5) → lvk n lv → hp.length = n → v0 < n → m179_96 F rc16 rc36 v0 v1 v2 v3 v4 v5 hp = some (v, hp') → Rn d 179 96 lv [] hp c w (some (.int v), hp', c, w) := by
  obtain ⟨d', rfl⟩ : ∃ d', d = d' + 1 := ⟨d - 1, by omega⟩
  intro v0 v1 v2 v3 v4 v5 lv hp v hp' l0 l1 l2 l3 l4 l5 ok hn r_v0 h
  unfold m179_96 at h
  refine Rn.ii (m := n) (u := 1) n179_96 ml179 (by decide) (by decide) l5 (fun lv l5 hk hok => ?_)
  have l0 := hk 0 _ (by decide) (Or.inl rfl) l0
  have l1 := hk 1 _ (by decide) (Or.inl rfl) l1
  have l2 := hk 2 _ (by decide) (Or.inl rfl) l2
  have l3 := hk 3 _ (by decide) (Or.inl rfl) l3
  have l4 := hk 4 _ (by decide) (Or.inl rfl) l4
  have ok := hok ok
  refine Rn.goto (t := 36) n179_99 (by decide) ?_
  exact hr36 _ _ _ _ _ _ lv _ _ _ l0 l1 l2 l3 l4 l5 ok hn r_v0  h
def m179_87 (F : Nat) (rc16 : Nat → Int32 → Int32 → Int32 → List mE → Option (Int32 × List mE)) (rc36 : Nat → Int32 → Int32 → Int32 → Int32 → Int32 → List mE → Option (Int32 × List mE)) (v0 : Nat) (v1 : Int32) (v2 : Int32) (v3 : Int32) (v5 : Int32) (v6 : Int32) (t0 : Int32) (t1 : Int32) (hp : List mE) : Option (Int32 × List mE) :=
  (rcv 11 hp v0).bind fun u2 =>
  (e156 F v0 v6 hp).bind fun q1 =>
  m179_96 F rc16 rc36 v0 v1 v2 v3 (t0 + t1) v5 q1.2
theorem t179_87 {d c w n : Nat} (hd : 2 ≤ d) (F : Nat) {rc16 : Nat → Int32 → Int32 → Int32 → List mE → Option (Int32 × List mE)} {rc36 : Nat → Int32 → Int32 → Int32 → Int32 → Int32 → List mE → Option (Int32 × List mE)} (hr16 : ∀ (v0 : Nat) (v1 : Int32) (v2 : Int32) (v3 : Int32) (lv : List (Nat × Value)) (hp : List mE) (v : Int32) (hp' : List mE), alk 0 lv = some (.ref v0) → alk 1 lv = some (.int v1) → alk 2 lv = some (.int v2) → alk 3 lv = some (.int v3) → lvk n lv → hp.length = n → v0 < n → rc16 v0 v1 v2 v3 hp = some (v, hp') → Rn d 179 16 lv [] hp c w (some (.int v), hp', c, w)) (hr36 : ∀ (v0 : Nat) (v1 : Int32) (v2 : Int32) (v3 : Int32) (v4 : Int32) (v5 : Int32) (lv : List (Nat × Value)) (hp : List mE) (v : Int32) (hp' : List mE), alk 0 lv = some (.ref v0) → alk 1 lv = some (.int v1) → alk 2 lv = some (.int v2) → alk 3 lv = some (.int v3) → alk 4 lv = some (.int v4) → alk 5 lv = some (.int v5) → lvk n lv → hp.length = n → v0 < n → rc36 v0 v1 v2 v3 v4 v5 hp = some (v, hp') → Rn d 179 36 lv [] hp c w (some (.int v), hp', c, w)) : ∀ (v0 : Nat) (v1 : Int32) (v2 : Int32) (v3 : Int32) (v5 : Int32) (v6 : Int32) (t0 : Int32) (t1 : Int32) (lv : List (Nat × Value)) (hp : List mE) (v : Int32) (hp' : List mE), alk 0 lv = some (.ref v0) → alk 1 lv = some (.int v1) → alk 2 lv = some (.int v2) → alk 3 lv = some (.int v3) → alk 5 lv = some (.int v5) → alk 6 lv = some (.int v6) → lvk n lv → hp.length = n → v0 < n → m179_87 F rc16 rc36 v0 v1 v2 v3 v5 v6 t0 t1 hp = some (v, hp') → Rn d 179 87 lv [.int t1, .int t0] hp c w (some (.int v), hp', c, w) := by
  obtain ⟨d', rfl⟩ : ∃ d', d = d' + 1 := ⟨d - 1, by omega⟩
  intro v0 v1 v2 v3 v5 v6 t0 t1 lv hp v hp' l0 l1 l2 l3 l5 l6 ok hn r_v0 h
  unfold m179_87 at h
  refine Rn.p n179_87 rfl ?_
  refine Rn.is (m := n) n179_88 ml179 (by decide) (fun lv l4 hk hok => ?_)
  have l0 := hk 0 _ (by decide) (Or.inl rfl) l0
  have l1 := hk 1 _ (by decide) (Or.inl rfl) l1
  have l2 := hk 2 _ (by decide) (Or.inl rfl) l2
  have l3 := hk 3 _ (by decide) (Or.inl rfl) l3
  have l5 := hk 5 _ (by decide) (Or.inl rfl) l5
  have l6 := hk 6 _ (by decide) (Or.inl rfl) l6
  have ok := hok ok
  refine Rn.aload_n n179_90 l0 ?_
  refine Rn.iload n179_91 l6 ?_
  obtain ⟨u2, hu2, h⟩ := Option.bind_eq_some_iff.mp h
  obtain ⟨q1, hq1, h⟩ := Option.bind_eq_some_iff.mp h
  have gq1 := c156 (d := d') (by omega) F _ _ _ _ _ (by rw [hn]; exact r_v0) hq1
  refine Rn.cv (As := [.int v6]) (rr := []) n179_93 mo179 mm11_204 (by decide) mq156 rfl rfl rfl rfl (by rw [mo156]; exact hu2) (Nat.le_of_ble_eq_true rfl) (by rw [hn]; exact (okc (okr r_v0) (okc rfl okn))) (by rw [hn]; exact okn) (by rw [hn]; exact ok) (by rw [ml156]; exact Nat.le_of_ble_eq_true rfl) gq1 ?_
  have hn := (Rn.len gq1).trans hn
  show Rn _ 179 96 lv [] q1.2 c w _
  exact t179_96 hd F hr16 hr36 _ _ _ _ _ _ lv _ _ _ l0 l1 l2 l3 l4 l5 ok hn r_v0  h
def m179_36 (F : Nat) (rc16 : Nat → Int32 → Int32 → Int32 → List mE → Option (Int32 × List mE)) : Nat → Nat → Int32 → Int32 → Int32 → Int32 → Int32 → List mE → Option (Int32 × List mE)
  | 0, _, _, _, _, _, _, _ => none
  | f + 1, v0, v1, v2, v3, v4, v5, hp =>
    (gfr 11 17 hp v0).bind fun x1 =>
    (rdI hp x1 v1).bind fun x2 =>
    if mc2 .ge v5 x2 = true then
      (gfr 11 17 hp v0).bind fun x4 =>
      (rdI hp x4 v1).bind fun x5 =>
      if mc2 .ne v4 (x5 - 1) = true then
        m179_136 F rc16 v0 v1 v2 v3 hp
      else
        (gfr 11 21 hp v0).bind fun x7 =>
        (rcv 11 hp v0).bind fun u9 =>
        (e178 F v0 x7 v2 hp).bind fun q8 =>
        if mc2 .ne q8.1 v2 = true then
          m179_134 F rc16 v0 v1 v3 v2 0 q8.2
        else
          m179_134 F rc16 v0 v1 v3 v2 1 q8.2
    else
      (gfr 11 18 hp v0).bind fun x11 =>
      (rdI hp x11 ((20 * v1) + v5)).bind fun x12 =>
      if mc2 .eq v5 v3 = true then
        m179_96 F rc16 (m179_36 F rc16 f) v0 v1 v2 v3 v4 v5 hp
      else
        (gfr 11 13 hp v0).bind fun x14 =>
        (e157 F x14 0 x12 hp).bind fun q15 =>
        if mc1 .eq q15.1 = true then
          m179_87 F rc16 (m179_36 F rc16 f) v0 v1 v2 v3 v5 x12 v4 1 q15.2
        else
          m179_87 F rc16 (m179_36 F rc16 f) v0 v1 v2 v3 v5 x12 v4 ((-1)) q15.2
theorem t179_36 {d c w n : Nat} (hd : 2 ≤ d) (F : Nat) {rc16 : Nat → Int32 → Int32 → Int32 → List mE → Option (Int32 × List mE)} (hr16 : ∀ (v0 : Nat) (v1 : Int32) (v2 : Int32) (v3 : Int32) (lv : List (Nat × Value)) (hp : List mE) (v : Int32) (hp' : List mE), alk 0 lv = some (.ref v0) → alk 1 lv = some (.int v1) → alk 2 lv = some (.int v2) → alk 3 lv = some (.int v3) → lvk n lv → hp.length = n → v0 < n → rc16 v0 v1 v2 v3 hp = some (v, hp') → Rn d 179 16 lv [] hp c w (some (.int v), hp', c, w)) : ∀ f : Nat, ∀ (v0 : Nat) (v1 : Int32) (v2 : Int32) (v3 : Int32) (v4 : Int32) (v5 : Int32) (lv : List (Nat × Value)) (hp : List mE) (v : Int32) (hp' : List mE), alk 0 lv = some (.ref v0) → alk 1 lv = some (.int v1) → alk 2 lv = some (.int v2) → alk 3 lv = some (.int v3) → alk 4 lv = some (.int v4) → alk 5 lv = some (.int v5) → lvk n lv → hp.length = n → v0 < n → m179_36 F rc16 f v0 v1 v2 v3 v4 v5 hp = some (v, hp') → Rn d 179 36 lv [] hp c w (some (.int v), hp', c, w) := by
  obtain ⟨d', rfl⟩ : ∃ d', d = d' + 1 := ⟨d - 1, by omega⟩
  intro f
  induction f with
  | zero => intro v0 v1 v2 v3 v4 v5 lv hp v hp' l0 l1 l2 l3 l4 l5 ok hn r_v0 h; cases h
  | succ f hr36 =>
    intro v0 v1 v2 v3 v4 v5 lv hp v hp' l0 l1 l2 l3 l4 l5 ok hn r_v0 h
    unfold m179_36 at h
    refine Rn.iload n179_36 l5 ?_
    refine Rn.aload_n n179_38 l0 ?_
    obtain ⟨x1, hx1, h⟩ := Option.bind_eq_some_iff.mp h
    refine Rn.gf n179_39 mo179 fl11_40 (gfr_v hx1).1 ?_
    have r_x1 : x1 < n := by rw [← hn]; exact (gfr_v hx1).2
    refine Rn.iload_n n179_42 l1 ?_
    obtain ⟨x2, hx2, h⟩ := Option.bind_eq_some_iff.mp h
    refine Rn.iald n179_43 hx2 ?_
    by_cases hc3 : mc2 .ge v5 x2 = true
    · rw [if_pos hc3] at h
      refine Rn.c2t (t := 102) n179_44 (by decide) hc3 ?_
      refine Rn.iload n179_102 l4 ?_
      refine Rn.aload_n n179_104 l0 ?_
      obtain ⟨x4, hx4, h⟩ := Option.bind_eq_some_iff.mp h
      refine Rn.gf n179_105 mo179 fl11_40 (gfr_v hx4).1 ?_
      have r_x4 : x4 < n := by rw [← hn]; exact (gfr_v hx4).2
      refine Rn.iload_n n179_108 l1 ?_
      obtain ⟨x5, hx5, h⟩ := Option.bind_eq_some_iff.mp h
      refine Rn.iald n179_109 hx5 ?_
      refine Rn.ic (v := 1) n179_110 (by decide) ?_
      refine Rn.p n179_111 rfl ?_
      by_cases hc6 : mc2 .ne v4 (x5 - 1) = true
      · rw [if_pos hc6] at h
        refine Rn.c2t (t := 136) n179_112 (by decide) hc6 ?_
        exact t179_136 hd F hr16 _ _ _ _ lv _ _ _ l0 l1 l2 l3 ok hn r_v0  h
      · rw [if_neg hc6] at h
        refine Rn.c2f (t := 136) n179_112 (by decide) hc6 ?_
        refine Rn.iload_n n179_115 l2 ?_
        refine Rn.aload_n n179_116 l0 ?_
        refine Rn.aload_n n179_117 l0 ?_
        obtain ⟨x7, hx7, h⟩ := Option.bind_eq_some_iff.mp h
        refine Rn.gf n179_118 mo179 fl11_50 (gfr_v hx7).1 ?_
        have r_x7 : x7 < n := by rw [← hn]; exact (gfr_v hx7).2
        refine Rn.iload_n n179_121 l2 ?_
        obtain ⟨u9, hu9, h⟩ := Option.bind_eq_some_iff.mp h
        obtain ⟨q8, hq8, h⟩ := Option.bind_eq_some_iff.mp h
        have gq8 := c178 (d := d') (by omega) F _ _ _ _ _ _ (by rw [hn]; exact r_v0) (by rw [hn]; exact r_x7) hq8
        refine Rn.cv (As := [.ref x7, .int v2]) (rr := [.int v2]) n179_122 mo179 mm11_248 (by decide) mq178 rfl rfl rfl rfl (by rw [mo178]; exact hu9) (Nat.le_of_ble_eq_true rfl) (by rw [hn]; exact (okc (okr r_v0) (okc (okr r_x7) (okc rfl okn)))) (by rw [hn]; exact (okc rfl okn)) (by rw [hn]; exact ok) (by rw [ml178]; exact Nat.le_of_ble_eq_true rfl) gq8 ?_
        have hn := (Rn.len gq8).trans hn
        show Rn _ 179 125 lv [.int q8.1, .int v2] q8.2 c w _
        refine Rn.iload_n n179_125 l2 ?_
        by_cases hc10 : mc2 .ne q8.1 v2 = true
        · rw [if_pos hc10] at h
          refine Rn.c2t (t := 133) n179_126 (by decide) hc10 ?_
          refine Rn.ic (v := 0) n179_133 (by decide) ?_
          exact t179_134 hd F hr16 _ _ _ _ _ lv _ _ _ l0 l1 l3 ok hn r_v0  h
        · rw [if_neg hc10] at h
          refine Rn.c2f (t := 133) n179_126 (by decide) hc10 ?_
          refine Rn.ic (v := 1) n179_129 (by decide) ?_
          refine Rn.goto (t := 134) n179_130 (by decide) ?_
          exact t179_134 hd F hr16 _ _ _ _ _ lv _ _ _ l0 l1 l3 ok hn r_v0  h
    · rw [if_neg hc3] at h
      refine Rn.c2f (t := 102) n179_44 (by decide) hc3 ?_
      refine Rn.aload_n n179_47 l0 ?_
      obtain ⟨x11, hx11, h⟩ := Option.bind_eq_some_iff.mp h
      refine Rn.gf n179_48 mo179 fl11_43 (gfr_v hx11).1 ?_
      have r_x11 : x11 < n := by rw [← hn]; exact (gfr_v hx11).2
      refine Rn.bp (v := 20) n179_51 (by decide) ?_
      refine Rn.iload_n n179_53 l1 ?_
      refine Rn.p n179_54 rfl ?_
      refine Rn.iload n179_55 l5 ?_
      refine Rn.p n179_57 rfl ?_
      obtain ⟨x12, hx12, h⟩ := Option.bind_eq_some_iff.mp h
      refine Rn.iald n179_58 hx12 ?_
      refine Rn.is (m := n) n179_59 ml179 (by decide) (fun lv l6 hk hok => ?_)
      have l0 := hk 0 _ (by decide) (Or.inl rfl) l0
      have l1 := hk 1 _ (by decide) (Or.inl rfl) l1
      have l2 := hk 2 _ (by decide) (Or.inl rfl) l2
      have l3 := hk 3 _ (by decide) (Or.inl rfl) l3
      have l4 := hk 4 _ (by decide) (Or.inl rfl) l4
      have l5 := hk 5 _ (by decide) (Or.inl rfl) l5
      have ok := hok ok
      refine Rn.iload n179_61 l5 ?_
      refine Rn.iload_n n179_63 l3 ?_
      by_cases hc13 : mc2 .eq v5 v3 = true
      · rw [if_pos hc13] at h
        refine Rn.c2t (t := 96) n179_64 (by decide) hc13 ?_
        exact t179_96 hd F hr16 hr36 _ _ _ _ _ _ lv _ _ _ l0 l1 l2 l3 l4 l5 ok hn r_v0  h
      · rw [if_neg hc13] at h
        refine Rn.c2f (t := 96) n179_64 (by decide) hc13 ?_
        refine Rn.iload n179_67 l4 ?_
        refine Rn.aload_n n179_69 l0 ?_
        obtain ⟨x14, hx14, h⟩ := Option.bind_eq_some_iff.mp h
        refine Rn.gf n179_70 mo179 fl11_33 (gfr_v hx14).1 ?_
        have r_x14 : x14 < n := by rw [← hn]; exact (gfr_v hx14).2
        refine Rn.ic (v := 0) n179_73 (by decide) ?_
        refine Rn.iload n179_74 l6 ?_
        obtain ⟨q15, hq15, h⟩ := Option.bind_eq_some_iff.mp h
        have gq15 := c157 (d := d') (by omega) F _ _ _ _ _ _ (by rw [hn]; exact r_x14) hq15
        refine Rn.cs (as := [.ref x14, .int 0, .int x12]) (rr := [.int v4]) n179_76 mo179 mm11_194 mq157 rfl rfl rfl rfl (Nat.le_of_ble_eq_true rfl) (by rw [hn]; exact (okc (okr r_x14) (okc rfl (okc rfl okn)))) (by rw [hn]; exact (okc rfl okn)) (by rw [hn]; exact ok) (by rw [ml157]; exact Nat.le_of_ble_eq_true rfl) gq15 ?_
        have hn := (Rn.len gq15).trans hn
        show Rn _ 179 79 lv [.int q15.1, .int v4] q15.2 c w _
        by_cases hc16 : mc1 .eq q15.1 = true
        · rw [if_pos hc16] at h
          refine Rn.c1t (t := 86) n179_79 (by decide) hc16 ?_
          refine Rn.ic (v := 1) n179_86 (by decide) ?_
          exact t179_87 hd F hr16 hr36 _ _ _ _ _ _ _ _ lv _ _ _ l0 l1 l2 l3 l5 l6 ok hn r_v0  h
        · rw [if_neg hc16] at h
          refine Rn.c1f (t := 86) n179_79 (by decide) hc16 ?_
          refine Rn.ic (v := (-1)) n179_82 (by decide) ?_
          refine Rn.goto (t := 87) n179_83 (by decide) ?_
          exact t179_87 hd F hr16 hr36 _ _ _ _ _ _ _ _ lv _ _ _ l0 l1 l2 l3 l5 l6 ok hn r_v0  h
def m179_16 (F : Nat) : Nat → Nat → Int32 → Int32 → Int32 → List mE → Option (Int32 × List mE)
  | 0, _, _, _, _, _ => none
  | f + 1, v0, v1, v2, v3, hp =>
    (gfr 11 17 hp v0).bind fun x1 =>
    (rdI hp x1 v1).bind fun x2 =>
    if mc2 .ge v3 x2 = true then
      some (v2, hp)
    else
      (rcv 11 hp v0).bind fun u5 =>
      (e154 F v0 hp).bind fun q4 =>
      m179_36 F (m179_16 F f) F v0 v1 v2 v3 0 0 q4.2
theorem t179_16 {d c w n : Nat} (hd : 2 ≤ d) (F : Nat) : ∀ f : Nat, ∀ (v0 : Nat) (v1 : Int32) (v2 : Int32) (v3 : Int32) (lv : List (Nat × Value)) (hp : List mE) (v : Int32) (hp' : List mE), alk 0 lv = some (.ref v0) → alk 1 lv = some (.int v1) → alk 2 lv = some (.int v2) → alk 3 lv = some (.int v3) → lvk n lv → hp.length = n → v0 < n → m179_16 F f v0 v1 v2 v3 hp = some (v, hp') → Rn d 179 16 lv [] hp c w (some (.int v), hp', c, w) := by
  obtain ⟨d', rfl⟩ : ∃ d', d = d' + 1 := ⟨d - 1, by omega⟩
  intro f
  induction f with
  | zero => intro v0 v1 v2 v3 lv hp v hp' l0 l1 l2 l3 ok hn r_v0 h; cases h
  | succ f hr16 =>
    intro v0 v1 v2 v3 lv hp v hp' l0 l1 l2 l3 ok hn r_v0 h
    unfold m179_16 at h
    refine Rn.iload_n n179_16 l3 ?_
    refine Rn.aload_n n179_17 l0 ?_
    obtain ⟨x1, hx1, h⟩ := Option.bind_eq_some_iff.mp h
    refine Rn.gf n179_18 mo179 fl11_40 (gfr_v hx1).1 ?_
    have r_x1 : x1 < n := by rw [← hn]; exact (gfr_v hx1).2
    refine Rn.iload_n n179_21 l1 ?_
    obtain ⟨x2, hx2, h⟩ := Option.bind_eq_some_iff.mp h
    refine Rn.iald n179_22 hx2 ?_
    by_cases hc3 : mc2 .ge v3 x2 = true
    · rw [if_pos hc3] at h
      refine Rn.c2t (t := 142) n179_23 (by decide) hc3 ?_
      refine Rn.iload_n n179_142 l2 ?_
      have e1 := (Prod.mk.inj (Option.some.inj h)).1
      have e2 := (Prod.mk.inj (Option.some.inj h)).2
      subst e1
      subst e2
      exact Rn.iret n179_143 mr179
    · rw [if_neg hc3] at h
      refine Rn.c2f (t := 142) n179_23 (by decide) hc3 ?_
      refine Rn.aload_n n179_26 l0 ?_
      obtain ⟨u5, hu5, h⟩ := Option.bind_eq_some_iff.mp h
      obtain ⟨q4, hq4, h⟩ := Option.bind_eq_some_iff.mp h
      have gq4 := c154 (d := d') (by omega) F _ _ _ _ (by rw [hn]; exact r_v0) hq4
      refine Rn.cv (As := []) (rr := []) n179_27 mo179 mm11_198 (by decide) mq154 rfl rfl rfl rfl (by rw [mo154]; exact hu5) (Nat.le_of_ble_eq_true rfl) (by rw [hn]; exact (okc (okr r_v0) okn)) (by rw [hn]; exact okn) (by rw [hn]; exact ok) (by rw [ml154]; exact Nat.le_of_ble_eq_true rfl) gq4 ?_
      have hn := (Rn.len gq4).trans hn
      show Rn _ 179 30 lv [] q4.2 c w _
      refine Rn.ic (v := 0) n179_30 (by decide) ?_
      refine Rn.is (m := n) n179_31 ml179 (by decide) (fun lv l4 hk hok => ?_)
      have l0 := hk 0 _ (by decide) (Or.inl rfl) l0
      have l1 := hk 1 _ (by decide) (Or.inl rfl) l1
      have l2 := hk 2 _ (by decide) (Or.inl rfl) l2
      have l3 := hk 3 _ (by decide) (Or.inl rfl) l3
      have ok := hok ok
      refine Rn.ic (v := 0) n179_33 (by decide) ?_
      refine Rn.is (m := n) n179_34 ml179 (by decide) (fun lv l5 hk hok => ?_)
      have l0 := hk 0 _ (by decide) (Or.inl rfl) l0
      have l1 := hk 1 _ (by decide) (Or.inl rfl) l1
      have l2 := hk 2 _ (by decide) (Or.inl rfl) l2
      have l3 := hk 3 _ (by decide) (Or.inl rfl) l3
      have l4 := hk 4 _ (by decide) (Or.inl rfl) l4
      have ok := hok ok
      exact t179_36 hd F hr16 F _ _ _ _ _ _ lv _ _ _ l0 l1 l2 l3 l4 l5 ok hn r_v0  h
def m179_0 (F : Nat) (v0 : Nat) (v1 : Int32) (hp : List mE) : Option (Int32 × List mE) :=
  (rcv 11 hp v0).bind fun u2 =>
  (e160 F v0 v1 hp).bind fun q1 =>
  if mc1 .ne q1.1 = true then
    m179_16 F F v0 v1 0 0 q1.2
  else
    some ((-1001), q1.2)
theorem t179_0 {d c w n : Nat} (hd : 2 ≤ d) (F : Nat) : ∀ (v0 : Nat) (v1 : Int32) (lv : List (Nat × Value)) (hp : List mE) (v : Int32) (hp' : List mE), alk 0 lv = some (.ref v0) → alk 1 lv = some (.int v1) → lvk n lv → hp.length = n → v0 < n → m179_0 F v0 v1 hp = some (v, hp') → Rn d 179 0 lv [] hp c w (some (.int v), hp', c, w) := by
  obtain ⟨d', rfl⟩ : ∃ d', d = d' + 1 := ⟨d - 1, by omega⟩
  intro v0 v1 lv hp v hp' l0 l1 ok hn r_v0 h
  unfold m179_0 at h
  refine Rn.aload_n n179_0 l0 ?_
  refine Rn.iload_n n179_1 l1 ?_
  obtain ⟨u2, hu2, h⟩ := Option.bind_eq_some_iff.mp h
  obtain ⟨q1, hq1, h⟩ := Option.bind_eq_some_iff.mp h
  have gq1 := c160 (d := d') (by omega) F _ _ _ _ _ (by rw [hn]; exact r_v0) hq1
  refine Rn.cv (As := [.int v1]) (rr := []) n179_2 mo179 mm11_222 (by decide) mq160 rfl rfl rfl rfl (by rw [mo160]; exact hu2) (Nat.le_of_ble_eq_true rfl) (by rw [hn]; exact (okc (okr r_v0) (okc rfl okn))) (by rw [hn]; exact okn) (by rw [hn]; exact ok) (by rw [ml160]; exact Nat.le_of_ble_eq_true rfl) gq1 ?_
  have hn := (Rn.len gq1).trans hn
  show Rn _ 179 5 lv [.int q1.1] q1.2 c w _
  by_cases hc3 : mc1 .ne q1.1 = true
  · rw [if_pos hc3] at h
    refine Rn.c1t (t := 12) n179_5 (by decide) hc3 ?_
    refine Rn.ic (v := 0) n179_12 (by decide) ?_
    refine Rn.isn (m := n) n179_13 rfl ml179 (by decide) (fun lv l2 hk hok => ?_)
    have l0 := hk 0 _ (by decide) (Or.inl rfl) l0
    have l1 := hk 1 _ (by decide) (Or.inl rfl) l1
    have ok := hok ok
    refine Rn.ic (v := 0) n179_14 (by decide) ?_
    refine Rn.isn (m := n) n179_15 rfl ml179 (by decide) (fun lv l3 hk hok => ?_)
    have l0 := hk 0 _ (by decide) (Or.inl rfl) l0
    have l1 := hk 1 _ (by decide) (Or.inl rfl) l1
    have l2 := hk 2 _ (by decide) (Or.inl rfl) l2
    have ok := hok ok
    exact t179_16 hd F  F _ _ _ _ lv _ _ _ l0 l1 l2 l3 ok hn r_v0  h
  · rw [if_neg hc3] at h
    refine Rn.c1f (t := 12) n179_5 (by decide) hc3 ?_
    refine Rn.sp (v := (-1001)) n179_8 (by decide) ?_
    have e1 := (Prod.mk.inj (Option.some.inj h)).1
    have e2 := (Prod.mk.inj (Option.some.inj h)).2
    subst e1
    subst e2
    exact Rn.iret n179_11 mr179
def e179 (F : Nat) (a0 : Nat) (a1 : Int32) (hp : List mE) : Option (Int32 × List mE) := m179_0 F a0 a1 hp
theorem c179 {d : Nat} (hd : 2 ≤ d) (F : Nat) (a0 : Nat) (a1 : Int32) (hp : List mE) (v : Int32) (hp' : List mE) (ra0 : a0 < hp.length) (h : e179 F a0 a1 hp = some (v, hp')) : Rn d 179 0 (lv_args 0 [.ref a0, .int a1]) [] hp 0 0 (some (.int v), hp', 0, 0) :=
  t179_0 (n := hp.length) hd F a0 a1 (lv_args 0 [.ref a0, .int a1]) hp v hp' rfl rfl (lvk_args (okc (okr ra0) (okc rfl okn))) rfl ra0 h
/-! MirrorRootsModel.words -/
def m180_216 (F : Nat) (rc62 : Nat → Int32 → Int32 → List mE → Option (Int64 × List mE)) : Nat → Nat → Int32 → Int32 → Int32 → List mE → Option (Int64 × List mE)
  | 0, _, _, _, _, _ => none
  | f + 1, v0, v2, v3, v5, hp =>
    if mc2 .ge v5 v2 = true then
      rc62 v0 v2 (v3 + (-1)) hp
    else
      (gfr 11 22 hp v0).bind fun x2 =>
      (gfr 11 21 hp v0).bind fun x3 =>
      (e177 F x2 (25 * v5) x3 (25 * v5) hp).bind fun q4 =>
      (gfr 11 23 q4.2 v0).bind fun x5 =>
      (gfr 11 24 q4.2 v0).bind fun x6 =>
      (rdJ q4.2 x6 v5).bind fun x7 =>
      (wrJ q4.2 x5 v5 x7).bind fun hp8 =>
      m180_216 F rc62 f v0 v2 v3 (v5 + 1) hp8
theorem t180_216 {d c w n : Nat} (hd : 3 ≤ d) (F : Nat) {rc62 : Nat → Int32 → Int32 → List mE → Option (Int64 × List mE)} (hr62 : ∀ (v0 : Nat) (v2 : Int32) (v3 : Int32) (lv : List (Nat × Value)) (hp : List mE) (v : Int64) (hp' : List mE), alk 0 lv = some (.ref v0) → alk 2 lv = some (.int v2) → alk 3 lv = some (.int v3) → lvk n lv → hp.length = n → v0 < n → rc62 v0 v2 v3 hp = some (v, hp') → Rn d 180 62 lv [] hp c w (some (.long v), hp', c, w)) : ∀ f : Nat, ∀ (v0 : Nat) (v2 : Int32) (v3 : Int32) (v5 : Int32) (lv : List (Nat × Value)) (hp : List mE) (v : Int64) (hp' : List mE), alk 0 lv = some (.ref v0) → alk 2 lv = some (.int v2) → alk 3 lv = some (.int v3) → alk 5 lv = some (.int v5) → lvk n lv → hp.length = n → v0 < n → m180_216 F rc62 f v0 v2 v3 v5 hp = some (v, hp') → Rn d 180 216 lv [] hp c w (some (.long v), hp', c, w) := by
  obtain ⟨d', rfl⟩ : ∃ d', d = d' + 1 := ⟨d - 1, by omega⟩
  intro f
  induction f with
  | zero => intro v0 v2 v3 v5 lv hp v hp' l0 l2 l3 l5 ok hn r_v0 h; cases h
  | succ f hr216 =>
    intro v0 v2 v3 v5 lv hp v hp' l0 l2 l3 l5 ok hn r_v0 h
    unfold m180_216 at h
    refine Rn.iload n180_216 l5 ?_
    refine Rn.iload_n n180_218 l2 ?_
    by_cases hc1 : mc2 .ge v5 v2 = true
    · rw [if_pos hc1] at h
      refine Rn.c2t (t := 263) n180_219 (by decide) hc1 ?_
      refine Rn.ii (m := n) (u := (-1)) n180_263 ml180 (by decide) (by decide) l3 (fun lv l3 hk hok => ?_)
      have l0 := hk 0 _ (by decide) (Or.inl rfl) l0
      have l2 := hk 2 _ (by decide) (Or.inl rfl) l2
      have l5 := hk 5 _ (by decide) (Or.inl rfl) l5
      have ok := hok ok
      refine Rn.goto (t := 62) n180_266 (by decide) ?_
      exact hr62 _ _ _ lv _ _ _ l0 l2 l3 ok hn r_v0  h
    · rw [if_neg hc1] at h
      refine Rn.c2f (t := 263) n180_219 (by decide) hc1 ?_
      refine Rn.aload_n n180_222 l0 ?_
      obtain ⟨x2, hx2, h⟩ := Option.bind_eq_some_iff.mp h
      refine Rn.gf n180_223 mo180 fl11_53 (gfr_v hx2).1 ?_
      have r_x2 : x2 < n := by rw [← hn]; exact (gfr_v hx2).2
      refine Rn.bp (v := 25) n180_226 (by decide) ?_
      refine Rn.iload n180_228 l5 ?_
      refine Rn.p n180_230 rfl ?_
      refine Rn.aload_n n180_231 l0 ?_
      obtain ⟨x3, hx3, h⟩ := Option.bind_eq_some_iff.mp h
      refine Rn.gf n180_232 mo180 fl11_50 (gfr_v hx3).1 ?_
      have r_x3 : x3 < n := by rw [← hn]; exact (gfr_v hx3).2
      refine Rn.bp (v := 25) n180_235 (by decide) ?_
      refine Rn.iload n180_237 l5 ?_
      refine Rn.p n180_239 rfl ?_
      obtain ⟨q4, hq4, h⟩ := Option.bind_eq_some_iff.mp h
      have gq4 := c177 (d := d') (by omega) F _ _ _ _ _ _ _ (by rw [hn]; exact r_x2) (by rw [hn]; exact r_x3) hq4
      refine Rn.cs (as := [.ref x2, .int (25 * v5), .ref x3, .int (25 * v5)]) (rr := []) n180_240 mo180 mm11_244 mq177 rfl rfl rfl rfl (Nat.le_of_ble_eq_true rfl) (by rw [hn]; exact (okc (okr r_x2) (okc rfl (okc (okr r_x3) (okc rfl okn))))) (by rw [hn]; exact okn) (by rw [hn]; exact ok) (by rw [ml177]; exact Nat.le_of_ble_eq_true rfl) gq4 ?_
      have hn := (Rn.len gq4).trans hn
      show Rn _ 180 243 lv [] q4.2 c w _
      refine Rn.aload_n n180_243 l0 ?_
      obtain ⟨x5, hx5, h⟩ := Option.bind_eq_some_iff.mp h
      refine Rn.gf n180_244 mo180 fl11_56 (gfr_v hx5).1 ?_
      have r_x5 : x5 < n := by rw [← hn]; exact (gfr_v hx5).2
      refine Rn.iload n180_247 l5 ?_
      refine Rn.aload_n n180_249 l0 ?_
      obtain ⟨x6, hx6, h⟩ := Option.bind_eq_some_iff.mp h
      refine Rn.gf n180_250 mo180 fl11_59 (gfr_v hx6).1 ?_
      have r_x6 : x6 < n := by rw [← hn]; exact (gfr_v hx6).2
      refine Rn.iload n180_253 l5 ?_
      obtain ⟨x7, hx7, h⟩ := Option.bind_eq_some_iff.mp h
      refine Rn.lald n180_255 hx7 ?_
      obtain ⟨hp8, hhp8, h⟩ := Option.bind_eq_some_iff.mp h
      refine Rn.last n180_256 hhp8 ?_
      have hn := (wrJ_st (st := []) hhp8).2.trans hn
      refine Rn.ii (m := n) (u := 1) n180_257 ml180 (by decide) (by decide) l5 (fun lv l5 hk hok => ?_)
      have l0 := hk 0 _ (by decide) (Or.inl rfl) l0
      have l2 := hk 2 _ (by decide) (Or.inl rfl) l2
      have l3 := hk 3 _ (by decide) (Or.inl rfl) l3
      have ok := hok ok
      refine Rn.goto (t := 216) n180_260 (by decide) ?_
      exact hr216 _ _ _ _ lv _ _ _ l0 l2 l3 l5 ok hn r_v0  h
def m180_198 (F : Nat) (rc62 : Nat → Int32 → Int32 → List mE → Option (Int64 × List mE)) (rc72 : Nat → Int32 → Int32 → Int32 → Int32 → List mE → Option (Int64 × List mE)) (rc81 : Nat → Int32 → Int32 → Int32 → Int32 → Int32 → List mE → Option (Int64 × List mE)) (v0 : Nat) (v2 : Int32) (v3 : Int32) (v4 : Int32) (v5 : Int32) (v6 : Int32) (hp : List mE) : Option (Int64 × List mE) :=
  rc81 v0 v2 v3 v4 v5 (v6 + 1) hp
theorem t180_198 {d c w n : Nat} (hd : 3 ≤ d) (F : Nat) {rc62 : Nat → Int32 → Int32 → List mE → Option (Int64 × List mE)} {rc72 : Nat → Int32 → Int32 → Int32 → Int32 → List mE → Option (Int64 × List mE)} {rc81 : Nat → Int32 → Int32 → Int32 → Int32 → Int32 → List mE → Option (Int64 × List mE)} (hr62 : ∀ (v0 : Nat) (v2 : Int32) (v3 : Int32) (lv : List (Nat × Value)) (hp : List mE) (v : Int64) (hp' : List mE), alk 0 lv = some (.ref v0) → alk 2 lv = some (.int v2) → alk 3 lv = some (.int v3) → lvk n lv → hp.length = n → v0 < n → rc62 v0 v2 v3 hp = some (v, hp') → Rn d 180 62 lv [] hp c w (some (.long v), hp', c, w)) (hr72 : ∀ (v0 : Nat) (v2 : Int32) (v3 : Int32) (v4 : Int32) (v5 : Int32) (lv : List (Nat × Value)) (hp : List mE) (v : Int64) (hp' : List mE), alk 0 lv = some (.ref v0) → alk 2 lv = some (.int v2) → alk 3 lv = some (.int v3) → alk 4 lv = some (.int v4) → alk 5 lv = some (.int v5) → lvk n lv → hp.length = n → v0 < n → rc72 v0 v2 v3 v4 v5 hp = some (v, hp') → Rn d 180 72 lv [] hp c w (some (.long v), hp', c, w)) (hr81 : ∀ (v0 : Nat) (v2 : Int32) (v3 : Int32) (v4 : Int32) (v5 : Int32) (v6 : Int32) (lv : List (Nat × Value)) (hp : List mE) (v : Int64) (hp' : List mE), alk 0 lv = some (.ref v0) → alk 2 lv = some (.int v2) → alk 3 lv = some (.int v3) → alk 4 lv = some (.int v4) → alk 5 lv = some (.int v5) → alk 6 lv = some (.int v6) → lvk n lv → hp.length = n → v0 < n → rc81 v0 v2 v3 v4 v5 v6 hp = some (v, hp') → Rn d 180 81 lv [] hp c w (some (.long v), hp', c, w)) : ∀ (v0 : Nat) (v2 : Int32) (v3 : Int32) (v4 : Int32) (v5 : Int32) (v6 : Int32) (lv : List (Nat × Value)) (hp : List mE) (v : Int64) (hp' : List mE), alk 0 lv = some (.ref v0) → alk 2 lv = some (.int v2) → alk 3 lv = some (.int v3) → alk 4 lv = some (.int v4) → alk 5 lv = some (.int v5) → alk 6 lv = some (.int v6) → lvk n lv → hp.length = n → v0 < n → m180_198 F rc62 rc72 rc81 v0 v2 v3 v4 v5 v6 hp = some (v, hp') → Rn d 180 198 lv [] hp c w (some (.long v), hp', c, w) := by
  obtain ⟨d', rfl⟩ : ∃ d', d = d' + 1 := ⟨d - 1, by omega⟩
  intro v0 v2 v3 v4 v5 v6 lv hp v hp' l0 l2 l3 l4 l5 l6 ok hn r_v0 h
  unfold m180_198 at h
  refine Rn.ii (m := n) (u := 1) n180_198 ml180 (by decide) (by decide) l6 (fun lv l6 hk hok => ?_)
  have l0 := hk 0 _ (by decide) (Or.inl rfl) l0
  have l2 := hk 2 _ (by decide) (Or.inl rfl) l2
  have l3 := hk 3 _ (by decide) (Or.inl rfl) l3
  have l4 := hk 4 _ (by decide) (Or.inl rfl) l4
  have l5 := hk 5 _ (by decide) (Or.inl rfl) l5
  have ok := hok ok
  refine Rn.goto (t := 81) n180_201 (by decide) ?_
  exact hr81 _ _ _ _ _ _ lv _ _ _ l0 l2 l3 l4 l5 l6 ok hn r_v0  h
def m180_195 (F : Nat) (rc62 : Nat → Int32 → Int32 → List mE → Option (Int64 × List mE)) (rc72 : Nat → Int32 → Int32 → Int32 → Int32 → List mE → Option (Int64 × List mE)) (rc81 : Nat → Int32 → Int32 → Int32 → Int32 → Int32 → List mE → Option (Int64 × List mE)) (v0 : Nat) (v2 : Int32) (v3 : Int32) (v5 : Int32) (v6 : Int32) (t0 : Int32) (t1 : Int32) (hp : List mE) : Option (Int64 × List mE) :=
  m180_198 F rc62 rc72 rc81 v0 v2 v3 (t0 + t1) v5 v6 hp
theorem t180_195 {d c w n : Nat} (hd : 3 ≤ d) (F : Nat) {rc62 : Nat → Int32 → Int32 → List mE → Option (Int64 × List mE)} {rc72 : Nat → Int32 → Int32 → Int32 → Int32 → List mE → Option (Int64 × List mE)} {rc81 : Nat → Int32 → Int32 → Int32 → Int32 → Int32 → List mE → Option (Int64 × List mE)} (hr62 : ∀ (v0 : Nat) (v2 : Int32) (v3 : Int32) (lv : List (Nat × Value)) (hp : List mE) (v : Int64) (hp' : List mE), alk 0 lv = some (.ref v0) → alk 2 lv = some (.int v2) → alk 3 lv = some (.int v3) → lvk n lv → hp.length = n → v0 < n → rc62 v0 v2 v3 hp = some (v, hp') → Rn d 180 62 lv [] hp c w (some (.long v), hp', c, w)) (hr72 : ∀ (v0 : Nat) (v2 : Int32) (v3 : Int32) (v4 : Int32) (v5 : Int32) (lv : List (Nat × Value)) (hp : List mE) (v : Int64) (hp' : List mE), alk 0 lv = some (.ref v0) → alk 2 lv = some (.int v2) → alk 3 lv = some (.int v3) → alk 4 lv = some (.int v4) → alk 5 lv = some (.int v5) → lvk n lv → hp.length = n → v0 < n → rc72 v0 v2 v3 v4 v5 hp = some (v, hp') → Rn d 180 72 lv [] hp c w (some (.long v), hp', c, w)) (hr81 : ∀ (v0 : Nat) (v2 : Int32) (v3 : Int32) (v4 : Int32) (v5 : Int32) (v6 : Int32) (lv : List (Nat × Value)) (hp : List mE) (v : Int64) (hp' : List mE), alk 0 lv = some (.ref v0) → alk 2 lv = some (.int v2) → alk 3 lv = some (.int v3) → alk 4 lv = some (.int v4) → alk 5 lv = some (.int v5) → alk 6 lv = some (.int v6) → lvk n lv → hp.length = n → v0 < n → rc81 v0 v2 v3 v4 v5 v6 hp = some (v, hp') → Rn d 180 81 lv [] hp c w (some (.long v), hp', c, w)) : ∀ (v0 : Nat) (v2 : Int32) (v3 : Int32) (v5 : Int32) (v6 : Int32) (t0 : Int32) (t1 : Int32) (lv : List (Nat × Value)) (hp : List mE) (v : Int64) (hp' : List mE), alk 0 lv = some (.ref v0) → alk 2 lv = some (.int v2) → alk 3 lv = some (.int v3) → alk 5 lv = some (.int v5) → alk 6 lv = some (.int v6) → lvk n lv → hp.length = n → v0 < n → m180_195 F rc62 rc72 rc81 v0 v2 v3 v5 v6 t0 t1 hp = some (v, hp') → Rn d 180 195 lv [.int t1, .int t0] hp c w (some (.long v), hp', c, w) := by
  obtain ⟨d', rfl⟩ : ∃ d', d = d' + 1 := ⟨d - 1, by omega⟩
  intro v0 v2 v3 v5 v6 t0 t1 lv hp v hp' l0 l2 l3 l5 l6 ok hn r_v0 h
  unfold m180_195 at h
  refine Rn.p n180_195 rfl ?_
  refine Rn.is (m := n) n180_196 ml180 (by decide) (fun lv l4 hk hok => ?_)
  have l0 := hk 0 _ (by decide) (Or.inl rfl) l0
  have l2 := hk 2 _ (by decide) (Or.inl rfl) l2
  have l3 := hk 3 _ (by decide) (Or.inl rfl) l3
  have l5 := hk 5 _ (by decide) (Or.inl rfl) l5
  have l6 := hk 6 _ (by decide) (Or.inl rfl) l6
  have ok := hok ok
  exact t180_198 hd F hr62 hr72 hr81 _ _ _ _ _ _ lv _ _ _ l0 l2 l3 l4 l5 l6 ok hn r_v0  h
def m180_180 (F : Nat) (rc62 : Nat → Int32 → Int32 → List mE → Option (Int64 × List mE)) (rc72 : Nat → Int32 → Int32 → Int32 → Int32 → List mE → Option (Int64 × List mE)) (rc81 : Nat → Int32 → Int32 → Int32 → Int32 → Int32 → List mE → Option (Int64 × List mE)) (v0 : Nat) (v2 : Int32) (v3 : Int32) (v4 : Int32) (v5 : Int32) (v6 : Int32) (v7 : Int32) (t0 : Nat) (t1 : Int32) (t2 : Int64) (hp : List mE) : Option (Int64 × List mE) :=
  (wrJ hp t0 t1 t2).bind fun hp1 =>
  if mc2 .ne v7 v4 = true then
    m180_195 F rc62 rc72 rc81 v0 v2 v3 v5 v6 v4 0 hp1
  else
    m180_195 F rc62 rc72 rc81 v0 v2 v3 v5 v6 v4 1 hp1
theorem t180_180 {d c w n : Nat} (hd : 3 ≤ d) (F : Nat) {rc62 : Nat → Int32 → Int32 → List mE → Option (Int64 × List mE)} {rc72 : Nat → Int32 → Int32 → Int32 → Int32 → List mE → Option (Int64 × List mE)} {rc81 : Nat → Int32 → Int32 → Int32 → Int32 → Int32 → List mE → Option (Int64 × List mE)} (hr62 : ∀ (v0 : Nat) (v2 : Int32) (v3 : Int32) (lv : List (Nat × Value)) (hp : List mE) (v : Int64) (hp' : List mE), alk 0 lv = some (.ref v0) → alk 2 lv = some (.int v2) → alk 3 lv = some (.int v3) → lvk n lv → hp.length = n → v0 < n → rc62 v0 v2 v3 hp = some (v, hp') → Rn d 180 62 lv [] hp c w (some (.long v), hp', c, w)) (hr72 : ∀ (v0 : Nat) (v2 : Int32) (v3 : Int32) (v4 : Int32) (v5 : Int32) (lv : List (Nat × Value)) (hp : List mE) (v : Int64) (hp' : List mE), alk 0 lv = some (.ref v0) → alk 2 lv = some (.int v2) → alk 3 lv = some (.int v3) → alk 4 lv = some (.int v4) → alk 5 lv = some (.int v5) → lvk n lv → hp.length = n → v0 < n → rc72 v0 v2 v3 v4 v5 hp = some (v, hp') → Rn d 180 72 lv [] hp c w (some (.long v), hp', c, w)) (hr81 : ∀ (v0 : Nat) (v2 : Int32) (v3 : Int32) (v4 : Int32) (v5 : Int32) (v6 : Int32) (lv : List (Nat × Value)) (hp : List mE) (v : Int64) (hp' : List mE), alk 0 lv = some (.ref v0) → alk 2 lv = some (.int v2) → alk 3 lv = some (.int v3) → alk 4 lv = some (.int v4) → alk 5 lv = some (.int v5) → alk 6 lv = some (.int v6) → lvk n lv → hp.length = n → v0 < n → rc81 v0 v2 v3 v4 v5 v6 hp = some (v, hp') → Rn d 180 81 lv [] hp c w (some (.long v), hp', c, w)) : ∀ (v0 : Nat) (v2 : Int32) (v3 : Int32) (v4 : Int32) (v5 : Int32) (v6 : Int32) (v7 : Int32) (t0 : Nat) (t1 : Int32) (t2 : Int64) (lv : List (Nat × Value)) (hp : List mE) (v : Int64) (hp' : List mE), alk 0 lv = some (.ref v0) → alk 2 lv = some (.int v2) → alk 3 lv = some (.int v3) → alk 4 lv = some (.int v4) → alk 5 lv = some (.int v5) → alk 6 lv = some (.int v6) → alk 7 lv = some (.int v7) → lvk n lv → hp.length = n → v0 < n → t0 < n → m180_180 F rc62 rc72 rc81 v0 v2 v3 v4 v5 v6 v7 t0 t1 t2 hp = some (v, hp') → Rn d 180 180 lv [.long t2, .int t1, .ref t0] hp c w (some (.long v), hp', c, w) := by
  obtain ⟨d', rfl⟩ : ∃ d', d = d' + 1 := ⟨d - 1, by omega⟩
  intro v0 v2 v3 v4 v5 v6 v7 t0 t1 t2 lv hp v hp' l0 l2 l3 l4 l5 l6 l7 ok hn r_v0 r_t0 h
  unfold m180_180 at h
  obtain ⟨hp1, hhp1, h⟩ := Option.bind_eq_some_iff.mp h
  refine Rn.last n180_180 hhp1 ?_
  have hn := (wrJ_st (st := []) hhp1).2.trans hn
  refine Rn.iload n180_181 l4 ?_
  refine Rn.iload n180_183 l7 ?_
  refine Rn.iload n180_185 l4 ?_
  by_cases hc2 : mc2 .ne v7 v4 = true
  · rw [if_pos hc2] at h
    refine Rn.c2t (t := 194) n180_187 (by decide) hc2 ?_
    refine Rn.ic (v := 0) n180_194 (by decide) ?_
    exact t180_195 hd F hr62 hr72 hr81 _ _ _ _ _ _ _ lv _ _ _ l0 l2 l3 l5 l6 ok hn r_v0  h
  · rw [if_neg hc2] at h
    refine Rn.c2f (t := 194) n180_187 (by decide) hc2 ?_
    refine Rn.ic (v := 1) n180_190 (by decide) ?_
    refine Rn.goto (t := 195) n180_191 (by decide) ?_
    exact t180_195 hd F hr62 hr72 hr81 _ _ _ _ _ _ _ lv _ _ _ l0 l2 l3 l5 l6 ok hn r_v0  h
def m180_81 (F : Nat) (rc62 : Nat → Int32 → Int32 → List mE → Option (Int64 × List mE)) (rc72 : Nat → Int32 → Int32 → Int32 → Int32 → List mE → Option (Int64 × List mE)) : Nat → Nat → Int32 → Int32 → Int32 → Int32 → Int32 → List mE → Option (Int64 × List mE)
  | 0, _, _, _, _, _, _, _ => none
  | f + 1, v0, v2, v3, v4, v5, v6, hp =>
    (gfi 11 0 hp v0).bind fun x1 =>
    if mc2 .ge v6 x1 = true then
      rc72 v0 v2 v3 v4 (v5 + 1) hp
    else
      (gfr 11 21 hp v0).bind fun x3 =>
      (e157 F x3 (25 * v5) v6 hp).bind fun q4 =>
      if mc1 .eq q4.1 = true then
        m180_198 F rc62 rc72 (m180_81 F rc62 rc72 f) v0 v2 v3 v4 v5 v6 q4.2
      else
        (gfr 11 21 q4.2 v0).bind fun x6 =>
        (gfr 11 13 q4.2 v0).bind fun x7 =>
        (e177 F x6 (25 * v5) x7 0 q4.2).bind fun q8 =>
        (rcv 11 q8.2 v0).bind fun u10 =>
        (e156 F v0 v6 q8.2).bind fun q9 =>
        (gfr 11 22 q9.2 v0).bind fun x11 =>
        (rcv 11 q9.2 v0).bind fun u13 =>
        (e178 F v0 x11 v4 q9.2).bind fun q12 =>
        (gfr 11 24 q12.2 v0).bind fun x14 =>
        if mc2 .ne q12.1 v4 = true then
          (gfr 11 24 q12.2 v0).bind fun x16 =>
          (rdJ q12.2 x16 q12.1).bind fun x17 =>
          (gfr 11 23 q12.2 v0).bind fun x18 =>
          (rdJ q12.2 x18 v5).bind fun x19 =>
          m180_180 F rc62 rc72 (m180_81 F rc62 rc72 f) v0 v2 v3 v4 v5 v6 q12.1 x14 q12.1 (x17 + x19) q12.2
        else
          (gfr 11 23 q12.2 v0).bind fun x20 =>
          (rdJ q12.2 x20 v5).bind fun x21 =>
          m180_180 F rc62 rc72 (m180_81 F rc62 rc72 f) v0 v2 v3 v4 v5 v6 q12.1 x14 q12.1 x21 q12.2
theorem t180_81 {d c w n : Nat} (hd : 3 ≤ d) (F : Nat) {rc62 : Nat → Int32 → Int32 → List mE → Option (Int64 × List mE)} {rc72 : Nat → Int32 → Int32 → Int32 → Int32 → List mE → Option (Int64 × List mE)} (hr62 : ∀ (v0 : Nat) (v2 : Int32) (v3 : Int32) (lv : List (Nat × Value)) (hp : List mE) (v : Int64) (hp' : List mE), alk 0 lv = some (.ref v0) → alk 2 lv = some (.int v2) → alk 3 lv = some (.int v3) → lvk n lv → hp.length = n → v0 < n → rc62 v0 v2 v3 hp = some (v, hp') → Rn d 180 62 lv [] hp c w (some (.long v), hp', c, w)) (hr72 : ∀ (v0 : Nat) (v2 : Int32) (v3 : Int32) (v4 : Int32) (v5 : Int32) (lv : List (Nat × Value)) (hp : List mE) (v : Int64) (hp' : List mE), alk 0 lv = some (.ref v0) → alk 2 lv = some (.int v2) → alk 3 lv = some (.int v3) → alk 4 lv = some (.int v4) → alk 5 lv = some (.int v5) → lvk n lv → hp.length = n → v0 < n → rc72 v0 v2 v3 v4 v5 hp = some (v, hp') → Rn d 180 72 lv [] hp c w (some (.long v), hp', c, w)) : ∀ f : Nat, ∀ (v0 : Nat) (v2 : Int32) (v3 : Int32) (v4 : Int32) (v5 : Int32) (v6 : Int32) (lv : List (Nat × Value)) (hp : List mE) (v : Int64) (hp' : List mE), alk 0 lv = some (.ref v0) → alk 2 lv = some (.int v2) → alk 3 lv = some (.int v3) → alk 4 lv = some (.int v4) → alk 5 lv = some (.int v5) → alk 6 lv = some (.int v6) → lvk n lv → hp.length = n → v0 < n → m180_81 F rc62 rc72 f v0 v2 v3 v4 v5 v6 hp = some (v, hp') → Rn d 180 81 lv [] hp c w (some (.long v), hp', c, w) := by
  obtain ⟨d', rfl⟩ : ∃ d', d = d' + 1 := ⟨d - 1, by omega⟩
  intro f
  induction f with
  | zero => intro v0 v2 v3 v4 v5 v6 lv hp v hp' l0 l2 l3 l4 l5 l6 ok hn r_v0 h; cases h
  | succ f hr81 =>
    intro v0 v2 v3 v4 v5 v6 lv hp v hp' l0 l2 l3 l4 l5 l6 ok hn r_v0 h
    unfold m180_81 at h
    refine Rn.iload n180_81 l6 ?_
    refine Rn.aload_n n180_83 l0 ?_
    obtain ⟨x1, hx1, h⟩ := Option.bind_eq_some_iff.mp h
    refine Rn.gf n180_84 mo180 fl11_7 (gfi_v hx1) ?_
    by_cases hc2 : mc2 .ge v6 x1 = true
    · rw [if_pos hc2] at h
      refine Rn.c2t (t := 204) n180_87 (by decide) hc2 ?_
      refine Rn.ii (m := n) (u := 1) n180_204 ml180 (by decide) (by decide) l5 (fun lv l5 hk hok => ?_)
      have l0 := hk 0 _ (by decide) (Or.inl rfl) l0
      have l2 := hk 2 _ (by decide) (Or.inl rfl) l2
      have l3 := hk 3 _ (by decide) (Or.inl rfl) l3
      have l4 := hk 4 _ (by decide) (Or.inl rfl) l4
      have l6 := hk 6 _ (by decide) (Or.inl rfl) l6
      have ok := hok ok
      refine Rn.goto (t := 72) n180_207 (by decide) ?_
      exact hr72 _ _ _ _ _ lv _ _ _ l0 l2 l3 l4 l5 ok hn r_v0  h
    · rw [if_neg hc2] at h
      refine Rn.c2f (t := 204) n180_87 (by decide) hc2 ?_
      refine Rn.aload_n n180_90 l0 ?_
      obtain ⟨x3, hx3, h⟩ := Option.bind_eq_some_iff.mp h
      refine Rn.gf n180_91 mo180 fl11_50 (gfr_v hx3).1 ?_
      have r_x3 : x3 < n := by rw [← hn]; exact (gfr_v hx3).2
      refine Rn.bp (v := 25) n180_94 (by decide) ?_
      refine Rn.iload n180_96 l5 ?_
      refine Rn.p n180_98 rfl ?_
      refine Rn.iload n180_99 l6 ?_
      obtain ⟨q4, hq4, h⟩ := Option.bind_eq_some_iff.mp h
      have gq4 := c157 (d := d') (by omega) F _ _ _ _ _ _ (by rw [hn]; exact r_x3) hq4
      refine Rn.cs (as := [.ref x3, .int (25 * v5), .int v6]) (rr := []) n180_101 mo180 mm11_194 mq157 rfl rfl rfl rfl (Nat.le_of_ble_eq_true rfl) (by rw [hn]; exact (okc (okr r_x3) (okc rfl (okc rfl okn)))) (by rw [hn]; exact okn) (by rw [hn]; exact ok) (by rw [ml157]; exact Nat.le_of_ble_eq_true rfl) gq4 ?_
      have hn := (Rn.len gq4).trans hn
      show Rn _ 180 104 lv [.int q4.1] q4.2 c w _
      by_cases hc5 : mc1 .eq q4.1 = true
      · rw [if_pos hc5] at h
        refine Rn.c1t (t := 198) n180_104 (by decide) hc5 ?_
        exact t180_198 hd F hr62 hr72 hr81 _ _ _ _ _ _ lv _ _ _ l0 l2 l3 l4 l5 l6 ok hn r_v0  h
      · rw [if_neg hc5] at h
        refine Rn.c1f (t := 198) n180_104 (by decide) hc5 ?_
        refine Rn.aload_n n180_107 l0 ?_
        obtain ⟨x6, hx6, h⟩ := Option.bind_eq_some_iff.mp h
        refine Rn.gf n180_108 mo180 fl11_50 (gfr_v hx6).1 ?_
        have r_x6 : x6 < n := by rw [← hn]; exact (gfr_v hx6).2
        refine Rn.bp (v := 25) n180_111 (by decide) ?_
        refine Rn.iload n180_113 l5 ?_
        refine Rn.p n180_115 rfl ?_
        refine Rn.aload_n n180_116 l0 ?_
        obtain ⟨x7, hx7, h⟩ := Option.bind_eq_some_iff.mp h
        refine Rn.gf n180_117 mo180 fl11_33 (gfr_v hx7).1 ?_
        have r_x7 : x7 < n := by rw [← hn]; exact (gfr_v hx7).2
        refine Rn.ic (v := 0) n180_120 (by decide) ?_
        obtain ⟨q8, hq8, h⟩ := Option.bind_eq_some_iff.mp h
        have gq8 := c177 (d := d') (by omega) F _ _ _ _ _ _ _ (by rw [hn]; exact r_x6) (by rw [hn]; exact r_x7) hq8
        refine Rn.cs (as := [.ref x6, .int (25 * v5), .ref x7, .int 0]) (rr := []) n180_121 mo180 mm11_244 mq177 rfl rfl rfl rfl (Nat.le_of_ble_eq_true rfl) (by rw [hn]; exact (okc (okr r_x6) (okc rfl (okc (okr r_x7) (okc rfl okn))))) (by rw [hn]; exact okn) (by rw [hn]; exact ok) (by rw [ml177]; exact Nat.le_of_ble_eq_true rfl) gq8 ?_
        have hn := (Rn.len gq8).trans hn
        show Rn _ 180 124 lv [] q8.2 c w _
        refine Rn.aload_n n180_124 l0 ?_
        refine Rn.iload n180_125 l6 ?_
        obtain ⟨u10, hu10, h⟩ := Option.bind_eq_some_iff.mp h
        obtain ⟨q9, hq9, h⟩ := Option.bind_eq_some_iff.mp h
        have gq9 := c156 (d := d') (by omega) F _ _ _ _ _ (by rw [hn]; exact r_v0) hq9
        refine Rn.cv (As := [.int v6]) (rr := []) n180_127 mo180 mm11_204 (by decide) mq156 rfl rfl rfl rfl (by rw [mo156]; exact hu10) (Nat.le_of_ble_eq_true rfl) (by rw [hn]; exact (okc (okr r_v0) (okc rfl okn))) (by rw [hn]; exact okn) (by rw [hn]; exact ok) (by rw [ml156]; exact Nat.le_of_ble_eq_true rfl) gq9 ?_
        have hn := (Rn.len gq9).trans hn
        show Rn _ 180 130 lv [] q9.2 c w _
        refine Rn.aload_n n180_130 l0 ?_
        refine Rn.aload_n n180_131 l0 ?_
        obtain ⟨x11, hx11, h⟩ := Option.bind_eq_some_iff.mp h
        refine Rn.gf n180_132 mo180 fl11_53 (gfr_v hx11).1 ?_
        have r_x11 : x11 < n := by rw [← hn]; exact (gfr_v hx11).2
        refine Rn.iload n180_135 l4 ?_
        obtain ⟨u13, hu13, h⟩ := Option.bind_eq_some_iff.mp h
        obtain ⟨q12, hq12, h⟩ := Option.bind_eq_some_iff.mp h
        have gq12 := c178 (d := d') (by omega) F _ _ _ _ _ _ (by rw [hn]; exact r_v0) (by rw [hn]; exact r_x11) hq12
        refine Rn.cv (As := [.ref x11, .int v4]) (rr := []) n180_137 mo180 mm11_248 (by decide) mq178 rfl rfl rfl rfl (by rw [mo178]; exact hu13) (Nat.le_of_ble_eq_true rfl) (by rw [hn]; exact (okc (okr r_v0) (okc (okr r_x11) (okc rfl okn)))) (by rw [hn]; exact okn) (by rw [hn]; exact ok) (by rw [ml178]; exact Nat.le_of_ble_eq_true rfl) gq12 ?_
        have hn := (Rn.len gq12).trans hn
        show Rn _ 180 140 lv [.int q12.1] q12.2 c w _
        refine Rn.is (m := n) n180_140 ml180 (by decide) (fun lv l7 hk hok => ?_)
        have l0 := hk 0 _ (by decide) (Or.inl rfl) l0
        have l2 := hk 2 _ (by decide) (Or.inl rfl) l2
        have l3 := hk 3 _ (by decide) (Or.inl rfl) l3
        have l4 := hk 4 _ (by decide) (Or.inl rfl) l4
        have l5 := hk 5 _ (by decide) (Or.inl rfl) l5
        have l6 := hk 6 _ (by decide) (Or.inl rfl) l6
        have ok := hok ok
        refine Rn.aload_n n180_142 l0 ?_
        obtain ⟨x14, hx14, h⟩ := Option.bind_eq_some_iff.mp h
        refine Rn.gf n180_143 mo180 fl11_59 (gfr_v hx14).1 ?_
        have r_x14 : x14 < n := by rw [← hn]; exact (gfr_v hx14).2
        refine Rn.iload n180_146 l7 ?_
        refine Rn.iload n180_148 l7 ?_
        refine Rn.iload n180_150 l4 ?_
        by_cases hc15 : mc2 .ne q12.1 v4 = true
        · rw [if_pos hc15] at h
          refine Rn.c2t (t := 165) n180_152 (by decide) hc15 ?_
          refine Rn.aload_n n180_165 l0 ?_
          obtain ⟨x16, hx16, h⟩ := Option.bind_eq_some_iff.mp h
          refine Rn.gf n180_166 mo180 fl11_59 (gfr_v hx16).1 ?_
          have r_x16 : x16 < n := by rw [← hn]; exact (gfr_v hx16).2
          refine Rn.iload n180_169 l7 ?_
          obtain ⟨x17, hx17, h⟩ := Option.bind_eq_some_iff.mp h
          refine Rn.lald n180_171 hx17 ?_
          refine Rn.aload_n n180_172 l0 ?_
          obtain ⟨x18, hx18, h⟩ := Option.bind_eq_some_iff.mp h
          refine Rn.gf n180_173 mo180 fl11_56 (gfr_v hx18).1 ?_
          have r_x18 : x18 < n := by rw [← hn]; exact (gfr_v hx18).2
          refine Rn.iload n180_176 l5 ?_
          obtain ⟨x19, hx19, h⟩ := Option.bind_eq_some_iff.mp h
          refine Rn.lald n180_178 hx19 ?_
          refine Rn.p n180_179 rfl ?_
          exact t180_180 hd F hr62 hr72 hr81 _ _ _ _ _ _ _ _ _ _ lv _ _ _ l0 l2 l3 l4 l5 l6 l7 ok hn r_v0 r_x14 h
        · rw [if_neg hc15] at h
          refine Rn.c2f (t := 165) n180_152 (by decide) hc15 ?_
          refine Rn.aload_n n180_155 l0 ?_
          obtain ⟨x20, hx20, h⟩ := Option.bind_eq_some_iff.mp h
          refine Rn.gf n180_156 mo180 fl11_56 (gfr_v hx20).1 ?_
          have r_x20 : x20 < n := by rw [← hn]; exact (gfr_v hx20).2
          refine Rn.iload n180_159 l5 ?_
          obtain ⟨x21, hx21, h⟩ := Option.bind_eq_some_iff.mp h
          refine Rn.lald n180_161 hx21 ?_
          refine Rn.goto (t := 180) n180_162 (by decide) ?_
          exact t180_180 hd F hr62 hr72 hr81 _ _ _ _ _ _ _ _ _ _ lv _ _ _ l0 l2 l3 l4 l5 l6 l7 ok hn r_v0 r_x14 h
def m180_72 (F : Nat) (rc62 : Nat → Int32 → Int32 → List mE → Option (Int64 × List mE)) : Nat → Nat → Int32 → Int32 → Int32 → Int32 → List mE → Option (Int64 × List mE)
  | 0, _, _, _, _, _, _ => none
  | f + 1, v0, v2, v3, v4, v5, hp =>
    if mc2 .ge v5 v2 = true then
      m180_216 F rc62 F v0 v4 v3 0 hp
    else
      m180_81 F rc62 (m180_72 F rc62 f) F v0 v2 v3 v4 v5 0 hp
theorem t180_72 {d c w n : Nat} (hd : 3 ≤ d) (F : Nat) {rc62 : Nat → Int32 → Int32 → List mE → Option (Int64 × List mE)} (hr62 : ∀ (v0 : Nat) (v2 : Int32) (v3 : Int32) (lv : List (Nat × Value)) (hp : List mE) (v : Int64) (hp' : List mE), alk 0 lv = some (.ref v0) → alk 2 lv = some (.int v2) → alk 3 lv = some (.int v3) → lvk n lv → hp.length = n → v0 < n → rc62 v0 v2 v3 hp = some (v, hp') → Rn d 180 62 lv [] hp c w (some (.long v), hp', c, w)) : ∀ f : Nat, ∀ (v0 : Nat) (v2 : Int32) (v3 : Int32) (v4 : Int32) (v5 : Int32) (lv : List (Nat × Value)) (hp : List mE) (v : Int64) (hp' : List mE), alk 0 lv = some (.ref v0) → alk 2 lv = some (.int v2) → alk 3 lv = some (.int v3) → alk 4 lv = some (.int v4) → alk 5 lv = some (.int v5) → lvk n lv → hp.length = n → v0 < n → m180_72 F rc62 f v0 v2 v3 v4 v5 hp = some (v, hp') → Rn d 180 72 lv [] hp c w (some (.long v), hp', c, w) := by
  obtain ⟨d', rfl⟩ : ∃ d', d = d' + 1 := ⟨d - 1, by omega⟩
  intro f
  induction f with
  | zero => intro v0 v2 v3 v4 v5 lv hp v hp' l0 l2 l3 l4 l5 ok hn r_v0 h; cases h
  | succ f hr72 =>
    intro v0 v2 v3 v4 v5 lv hp v hp' l0 l2 l3 l4 l5 ok hn r_v0 h
    unfold m180_72 at h
    refine Rn.iload n180_72 l5 ?_
    refine Rn.iload_n n180_74 l2 ?_
    by_cases hc1 : mc2 .ge v5 v2 = true
    · rw [if_pos hc1] at h
      refine Rn.c2t (t := 210) n180_75 (by decide) hc1 ?_
      refine Rn.iload n180_210 l4 ?_
      refine Rn.isn (m := n) n180_212 rfl ml180 (by decide) (fun lv l2 hk hok => ?_)
      have l0 := hk 0 _ (by decide) (Or.inl rfl) l0
      have l3 := hk 3 _ (by decide) (Or.inl rfl) l3
      have l4 := hk 4 _ (by decide) (Or.inl rfl) l4
      have l5 := hk 5 _ (by decide) (Or.inl rfl) l5
      have ok := hok ok
      refine Rn.ic (v := 0) n180_213 (by decide) ?_
      refine Rn.is (m := n) n180_214 ml180 (by decide) (fun lv l5 hk hok => ?_)
      have l0 := hk 0 _ (by decide) (Or.inl rfl) l0
      have l2 := hk 2 _ (by decide) (Or.inl rfl) l2
      have l3 := hk 3 _ (by decide) (Or.inl rfl) l3
      have l4 := hk 4 _ (by decide) (Or.inl rfl) l4
      have ok := hok ok
      exact t180_216 hd F hr62 F _ _ _ _ lv _ _ _ l0 l2 l3 l5 ok hn r_v0  h
    · rw [if_neg hc1] at h
      refine Rn.c2f (t := 210) n180_75 (by decide) hc1 ?_
      refine Rn.ic (v := 0) n180_78 (by decide) ?_
      refine Rn.is (m := n) n180_79 ml180 (by decide) (fun lv l6 hk hok => ?_)
      have l0 := hk 0 _ (by decide) (Or.inl rfl) l0
      have l2 := hk 2 _ (by decide) (Or.inl rfl) l2
      have l3 := hk 3 _ (by decide) (Or.inl rfl) l3
      have l4 := hk 4 _ (by decide) (Or.inl rfl) l4
      have l5 := hk 5 _ (by decide) (Or.inl rfl) l5
      have ok := hok ok
      exact t180_81 hd F hr62 hr72 F _ _ _ _ _ _ lv _ _ _ l0 l2 l3 l4 l5 l6 ok hn r_v0  h
def m180_62 (F : Nat) : Nat → Nat → Int32 → Int32 → List mE → Option (Int64 × List mE)
  | 0, _, _, _, _ => none
  | f + 1, v0, v2, v3, hp =>
    if mc1 .le v3 = true then
      (gfr 11 23 hp v0).bind fun x2 =>
      (rdJ hp x2 0).bind fun x3 =>
      some (x3, hp)
    else
      m180_72 F (m180_62 F f) F v0 v2 v3 0 0 hp
theorem t180_62 {d c w n : Nat} (hd : 3 ≤ d) (F : Nat) : ∀ f : Nat, ∀ (v0 : Nat) (v2 : Int32) (v3 : Int32) (lv : List (Nat × Value)) (hp : List mE) (v : Int64) (hp' : List mE), alk 0 lv = some (.ref v0) → alk 2 lv = some (.int v2) → alk 3 lv = some (.int v3) → lvk n lv → hp.length = n → v0 < n → m180_62 F f v0 v2 v3 hp = some (v, hp') → Rn d 180 62 lv [] hp c w (some (.long v), hp', c, w) := by
  obtain ⟨d', rfl⟩ : ∃ d', d = d' + 1 := ⟨d - 1, by omega⟩
  intro f
  induction f with
  | zero => intro v0 v2 v3 lv hp v hp' l0 l2 l3 ok hn r_v0 h; cases h
  | succ f hr62 =>
    intro v0 v2 v3 lv hp v hp' l0 l2 l3 ok hn r_v0 h
    unfold m180_62 at h
    refine Rn.iload_n n180_62 l3 ?_
    by_cases hc1 : mc1 .le v3 = true
    · rw [if_pos hc1] at h
      refine Rn.c1t (t := 269) n180_63 (by decide) hc1 ?_
      refine Rn.aload_n n180_269 l0 ?_
      obtain ⟨x2, hx2, h⟩ := Option.bind_eq_some_iff.mp h
      refine Rn.gf n180_270 mo180 fl11_56 (gfr_v hx2).1 ?_
      have r_x2 : x2 < n := by rw [← hn]; exact (gfr_v hx2).2
      refine Rn.ic (v := 0) n180_273 (by decide) ?_
      obtain ⟨x3, hx3, h⟩ := Option.bind_eq_some_iff.mp h
      refine Rn.lald n180_274 hx3 ?_
      have e1 := (Prod.mk.inj (Option.some.inj h)).1
      have e2 := (Prod.mk.inj (Option.some.inj h)).2
      subst e1
      subst e2
      exact Rn.lret n180_275 mr180
    · rw [if_neg hc1] at h
      refine Rn.c1f (t := 269) n180_63 (by decide) hc1 ?_
      refine Rn.ic (v := 0) n180_66 (by decide) ?_
      refine Rn.is (m := n) n180_67 ml180 (by decide) (fun lv l4 hk hok => ?_)
      have l0 := hk 0 _ (by decide) (Or.inl rfl) l0
      have l2 := hk 2 _ (by decide) (Or.inl rfl) l2
      have l3 := hk 3 _ (by decide) (Or.inl rfl) l3
      have ok := hok ok
      refine Rn.ic (v := 0) n180_69 (by decide) ?_
      refine Rn.is (m := n) n180_70 ml180 (by decide) (fun lv l5 hk hok => ?_)
      have l0 := hk 0 _ (by decide) (Or.inl rfl) l0
      have l2 := hk 2 _ (by decide) (Or.inl rfl) l2
      have l3 := hk 3 _ (by decide) (Or.inl rfl) l3
      have l4 := hk 4 _ (by decide) (Or.inl rfl) l4
      have ok := hok ok
      exact t180_72 hd F hr62 F _ _ _ _ _ lv _ _ _ l0 l2 l3 l4 l5 ok hn r_v0  h
def m180_0 (F : Nat) (v0 : Nat) (v1 : Int32) (hp : List mE) : Option (Int64 × List mE) :=
  (rcv 11 hp v0).bind fun u2 =>
  (e160 F v0 v1 hp).bind fun q1 =>
  if mc1 .ne q1.1 = true then
    (gfr 11 17 q1.2 v0).bind fun x4 =>
    (rdI q1.2 x4 v1).bind fun x5 =>
    if mc2 .le x5 12 = true then
      (rcv 11 q1.2 v0).bind fun u8 =>
      (e169 F v0 v1 0 q1.2).bind fun q7 =>
      (gfr 11 13 q7.2 v0).bind fun x9 =>
      (gfr 11 21 q7.2 v0).bind fun x10 =>
      (e177 F x9 0 x10 0 q7.2).bind fun q11 =>
      (gfr 11 23 q11.2 v0).bind fun x12 =>
      (wrJ q11.2 x12 0 1).bind fun hp13 =>
      (gfr 11 17 hp13 v0).bind fun x14 =>
      (rdI hp13 x14 v1).bind fun x15 =>
      m180_62 F F v0 1 x15 hp13
    else
      some ((-1005), q1.2)
  else
    some ((-1001), q1.2)
theorem t180_0 {d c w n : Nat} (hd : 3 ≤ d) (F : Nat) : ∀ (v0 : Nat) (v1 : Int32) (lv : List (Nat × Value)) (hp : List mE) (v : Int64) (hp' : List mE), alk 0 lv = some (.ref v0) → alk 1 lv = some (.int v1) → lvk n lv → hp.length = n → v0 < n → m180_0 F v0 v1 hp = some (v, hp') → Rn d 180 0 lv [] hp c w (some (.long v), hp', c, w) := by
  obtain ⟨d', rfl⟩ : ∃ d', d = d' + 1 := ⟨d - 1, by omega⟩
  intro v0 v1 lv hp v hp' l0 l1 ok hn r_v0 h
  unfold m180_0 at h
  refine Rn.aload_n n180_0 l0 ?_
  refine Rn.iload_n n180_1 l1 ?_
  obtain ⟨u2, hu2, h⟩ := Option.bind_eq_some_iff.mp h
  obtain ⟨q1, hq1, h⟩ := Option.bind_eq_some_iff.mp h
  have gq1 := c160 (d := d') (by omega) F _ _ _ _ _ (by rw [hn]; exact r_v0) hq1
  refine Rn.cv (As := [.int v1]) (rr := []) n180_2 mo180 mm11_222 (by decide) mq160 rfl rfl rfl rfl (by rw [mo160]; exact hu2) (Nat.le_of_ble_eq_true rfl) (by rw [hn]; exact (okc (okr r_v0) (okc rfl okn))) (by rw [hn]; exact okn) (by rw [hn]; exact ok) (by rw [ml160]; exact Nat.le_of_ble_eq_true rfl) gq1 ?_
  have hn := (Rn.len gq1).trans hn
  show Rn _ 180 5 lv [.int q1.1] q1.2 c w _
  by_cases hc3 : mc1 .ne q1.1 = true
  · rw [if_pos hc3] at h
    refine Rn.c1t (t := 12) n180_5 (by decide) hc3 ?_
    refine Rn.aload_n n180_12 l0 ?_
    obtain ⟨x4, hx4, h⟩ := Option.bind_eq_some_iff.mp h
    refine Rn.gf n180_13 mo180 fl11_40 (gfr_v hx4).1 ?_
    have r_x4 : x4 < n := by rw [← hn]; exact (gfr_v hx4).2
    refine Rn.iload_n n180_16 l1 ?_
    obtain ⟨x5, hx5, h⟩ := Option.bind_eq_some_iff.mp h
    refine Rn.iald n180_17 hx5 ?_
    refine Rn.bp (v := 12) n180_18 (by decide) ?_
    by_cases hc6 : mc2 .le x5 12 = true
    · rw [if_pos hc6] at h
      refine Rn.c2t (t := 27) n180_20 (by decide) hc6 ?_
      refine Rn.aload_n n180_27 l0 ?_
      refine Rn.iload_n n180_28 l1 ?_
      refine Rn.ic (v := 0) n180_29 (by decide) ?_
      obtain ⟨u8, hu8, h⟩ := Option.bind_eq_some_iff.mp h
      obtain ⟨q7, hq7, h⟩ := Option.bind_eq_some_iff.mp h
      have gq7 := c169 (d := d') (by omega) F _ _ _ _ _ _ (by rw [hn]; exact r_v0) hq7
      refine Rn.cv (As := [.int v1, .int 0]) (rr := []) n180_30 mo180 mm11_225 (by decide) mq169 rfl rfl rfl rfl (by rw [mo169]; exact hu8) (Nat.le_of_ble_eq_true rfl) (by rw [hn]; exact (okc (okr r_v0) (okc rfl (okc rfl okn)))) (by rw [hn]; exact okn) (by rw [hn]; exact ok) (by rw [ml169]; exact Nat.le_of_ble_eq_true rfl) gq7 ?_
      have hn := (Rn.len gq7).trans hn
      show Rn _ 180 33 lv [] q7.2 c w _
      refine Rn.aload_n n180_33 l0 ?_
      obtain ⟨x9, hx9, h⟩ := Option.bind_eq_some_iff.mp h
      refine Rn.gf n180_34 mo180 fl11_33 (gfr_v hx9).1 ?_
      have r_x9 : x9 < n := by rw [← hn]; exact (gfr_v hx9).2
      refine Rn.ic (v := 0) n180_37 (by decide) ?_
      refine Rn.aload_n n180_38 l0 ?_
      obtain ⟨x10, hx10, h⟩ := Option.bind_eq_some_iff.mp h
      refine Rn.gf n180_39 mo180 fl11_50 (gfr_v hx10).1 ?_
      have r_x10 : x10 < n := by rw [← hn]; exact (gfr_v hx10).2
      refine Rn.ic (v := 0) n180_42 (by decide) ?_
      obtain ⟨q11, hq11, h⟩ := Option.bind_eq_some_iff.mp h
      have gq11 := c177 (d := d') (by omega) F _ _ _ _ _ _ _ (by rw [hn]; exact r_x9) (by rw [hn]; exact r_x10) hq11
      refine Rn.cs (as := [.ref x9, .int 0, .ref x10, .int 0]) (rr := []) n180_43 mo180 mm11_244 mq177 rfl rfl rfl rfl (Nat.le_of_ble_eq_true rfl) (by rw [hn]; exact (okc (okr r_x9) (okc rfl (okc (okr r_x10) (okc rfl okn))))) (by rw [hn]; exact okn) (by rw [hn]; exact ok) (by rw [ml177]; exact Nat.le_of_ble_eq_true rfl) gq11 ?_
      have hn := (Rn.len gq11).trans hn
      show Rn _ 180 46 lv [] q11.2 c w _
      refine Rn.aload_n n180_46 l0 ?_
      obtain ⟨x12, hx12, h⟩ := Option.bind_eq_some_iff.mp h
      refine Rn.gf n180_47 mo180 fl11_56 (gfr_v hx12).1 ?_
      have r_x12 : x12 < n := by rw [← hn]; exact (gfr_v hx12).2
      refine Rn.ic (v := 0) n180_50 (by decide) ?_
      refine Rn.lc (v := 1) n180_51 (by decide) ?_
      obtain ⟨hp13, hhp13, h⟩ := Option.bind_eq_some_iff.mp h
      refine Rn.last n180_52 hhp13 ?_
      have hn := (wrJ_st (st := []) hhp13).2.trans hn
      refine Rn.ic (v := 1) n180_53 (by decide) ?_
      refine Rn.isn (m := n) n180_54 rfl ml180 (by decide) (fun lv l2 hk hok => ?_)
      have l0 := hk 0 _ (by decide) (Or.inl rfl) l0
      have l1 := hk 1 _ (by decide) (Or.inl rfl) l1
      have ok := hok ok
      refine Rn.aload_n n180_55 l0 ?_
      obtain ⟨x14, hx14, h⟩ := Option.bind_eq_some_iff.mp h
      refine Rn.gf n180_56 mo180 fl11_40 (gfr_v hx14).1 ?_
      have r_x14 : x14 < n := by rw [← hn]; exact (gfr_v hx14).2
      refine Rn.iload_n n180_59 l1 ?_
      obtain ⟨x15, hx15, h⟩ := Option.bind_eq_some_iff.mp h
      refine Rn.iald n180_60 hx15 ?_
      refine Rn.isn (m := n) n180_61 rfl ml180 (by decide) (fun lv l3 hk hok => ?_)
      have l0 := hk 0 _ (by decide) (Or.inl rfl) l0
      have l1 := hk 1 _ (by decide) (Or.inl rfl) l1
      have l2 := hk 2 _ (by decide) (Or.inl rfl) l2
      have ok := hok ok
      exact t180_62 hd F  F _ _ _ lv _ _ _ l0 l2 l3 ok hn r_v0  h
    · rw [if_neg hc6] at h
      refine Rn.c2f (t := 27) n180_20 (by decide) hc6 ?_
      refine Rn.ldc2 n180_23 mo180 cL11_252 ?_
      have e1 := (Prod.mk.inj (Option.some.inj h)).1
      have e2 := (Prod.mk.inj (Option.some.inj h)).2
      subst e1
      subst e2
      exact Rn.lret n180_26 mr180
  · rw [if_neg hc3] at h
    refine Rn.c1f (t := 12) n180_5 (by decide) hc3 ?_
    refine Rn.ldc2 n180_8 mo180 cL11_229 ?_
    have e1 := (Prod.mk.inj (Option.some.inj h)).1
    have e2 := (Prod.mk.inj (Option.some.inj h)).2
    subst e1
    subst e2
    exact Rn.lret n180_11 mr180
def e180 (F : Nat) (a0 : Nat) (a1 : Int32) (hp : List mE) : Option (Int64 × List mE) := m180_0 F a0 a1 hp
theorem c180 {d : Nat} (hd : 3 ≤ d) (F : Nat) (a0 : Nat) (a1 : Int32) (hp : List mE) (v : Int64) (hp' : List mE) (ra0 : a0 < hp.length) (h : e180 F a0 a1 hp = some (v, hp')) : Rn d 180 0 (lv_args 0 [.ref a0, .int a1]) [] hp 0 0 (some (.long v), hp', 0, 0) :=
  t180_0 (n := hp.length) hd F a0 a1 (lv_args 0 [.ref a0, .int a1]) hp v hp' rfl rfl (lvk_args (okc (okr ra0) (okc rfl okn))) rfl ra0 h
/-! MirrorRootsModel.exchange -/
def m181_117 (F : Nat) (rc69 : Nat → Int32 → Int32 → Int32 → List mE → Option (Int32 × List mE)) (rc84 : Nat → Int32 → Int32 → Int32 → List mE → Option (Int32 × List mE)) (v0 : Nat) (v1 : Int32) (v3 : Int32) (v5 : Int32) (hp : List mE) : Option (Int32 × List mE) :=
  rc84 v0 v1 v3 (v5 + 1) hp
theorem t181_117 {d c w n : Nat} (hd : 3 ≤ d) (F : Nat) {rc69 : Nat → Int32 → Int32 → Int32 → List mE → Option (Int32 × List mE)} {rc84 : Nat → Int32 → Int32 → Int32 → List mE → Option (Int32 × List mE)} (hr69 : ∀ (v0 : Nat) (v1 : Int32) (v3 : Int32) (v4 : Int32) (lv : List (Nat × Value)) (hp : List mE) (v : Int32) (hp' : List mE), alk 0 lv = some (.ref v0) → alk 1 lv = some (.int v1) → alk 3 lv = some (.int v3) → alk 4 lv = some (.int v4) → lvk n lv → hp.length = n → v0 < n → rc69 v0 v1 v3 v4 hp = some (v, hp') → Rn d 181 69 lv [] hp c w (some (.int v), hp', c, w)) (hr84 : ∀ (v0 : Nat) (v1 : Int32) (v3 : Int32) (v5 : Int32) (lv : List (Nat × Value)) (hp : List mE) (v : Int32) (hp' : List mE), alk 0 lv = some (.ref v0) → alk 1 lv = some (.int v1) → alk 3 lv = some (.int v3) → alk 5 lv = some (.int v5) → lvk n lv → hp.length = n → v0 < n → rc84 v0 v1 v3 v5 hp = some (v, hp') → Rn d 181 84 lv [] hp c w (some (.int v), hp', c, w)) : ∀ (v0 : Nat) (v1 : Int32) (v3 : Int32) (v5 : Int32) (lv : List (Nat × Value)) (hp : List mE) (v : Int32) (hp' : List mE), alk 0 lv = some (.ref v0) → alk 1 lv = some (.int v1) → alk 3 lv = some (.int v3) → alk 5 lv = some (.int v5) → lvk n lv → hp.length = n → v0 < n → m181_117 F rc69 rc84 v0 v1 v3 v5 hp = some (v, hp') → Rn d 181 117 lv [] hp c w (some (.int v), hp', c, w) := by
  obtain ⟨d', rfl⟩ : ∃ d', d = d' + 1 := ⟨d - 1, by omega⟩
  intro v0 v1 v3 v5 lv hp v hp' l0 l1 l3 l5 ok hn r_v0 h
  unfold m181_117 at h
  refine Rn.ii (m := n) (u := 1) n181_117 ml181 (by decide) (by decide) l5 (fun lv l5 hk hok => ?_)
  have l0 := hk 0 _ (by decide) (Or.inl rfl) l0
  have l1 := hk 1 _ (by decide) (Or.inl rfl) l1
  have l3 := hk 3 _ (by decide) (Or.inl rfl) l3
  have ok := hok ok
  refine Rn.goto (t := 84) n181_120 (by decide) ?_
  exact hr84 _ _ _ _ lv _ _ _ l0 l1 l3 l5 ok hn r_v0  h
def m181_84 (F : Nat) (rc69 : Nat → Int32 → Int32 → Int32 → List mE → Option (Int32 × List mE)) : Nat → Nat → Int32 → Int32 → Int32 → List mE → Option (Int32 × List mE)
  | 0, _, _, _, _, _ => none
  | f + 1, v0, v1, v3, v5, hp =>
    (gfr 11 17 hp v0).bind fun x1 =>
    (rdI hp x1 v1).bind fun x2 =>
    if mc2 .ge v5 x2 = true then
      (gfr 11 13 hp v0).bind fun x4 =>
      (gfr 11 21 hp v0).bind fun x5 =>
      (e176 F x4 0 x5 0 hp).bind fun q6 =>
      rc69 v0 v1 v3 q6.1 q6.2
    else
      if mc2 .eq v5 v3 = true then
        m181_117 F rc69 (m181_84 F rc69 f) v0 v1 v3 v5 hp
      else
        (gfr 11 18 hp v0).bind fun x8 =>
        (rdI hp x8 ((20 * v1) + v5)).bind fun x9 =>
        (rcv 11 hp v0).bind fun u11 =>
        (e156 F v0 x9 hp).bind fun q10 =>
        m181_117 F rc69 (m181_84 F rc69 f) v0 v1 v3 v5 q10.2
theorem t181_84 {d c w n : Nat} (hd : 3 ≤ d) (F : Nat) {rc69 : Nat → Int32 → Int32 → Int32 → List mE → Option (Int32 × List mE)} (hr69 : ∀ (v0 : Nat) (v1 : Int32) (v3 : Int32) (v4 : Int32) (lv : List (Nat × Value)) (hp : List mE) (v : Int32) (hp' : List mE), alk 0 lv = some (.ref v0) → alk 1 lv = some (.int v1) → alk 3 lv = some (.int v3) → alk 4 lv = some (.int v4) → lvk n lv → hp.length = n → v0 < n → rc69 v0 v1 v3 v4 hp = some (v, hp') → Rn d 181 69 lv [] hp c w (some (.int v), hp', c, w)) : ∀ f : Nat, ∀ (v0 : Nat) (v1 : Int32) (v3 : Int32) (v5 : Int32) (lv : List (Nat × Value)) (hp : List mE) (v : Int32) (hp' : List mE), alk 0 lv = some (.ref v0) → alk 1 lv = some (.int v1) → alk 3 lv = some (.int v3) → alk 5 lv = some (.int v5) → lvk n lv → hp.length = n → v0 < n → m181_84 F rc69 f v0 v1 v3 v5 hp = some (v, hp') → Rn d 181 84 lv [] hp c w (some (.int v), hp', c, w) := by
  obtain ⟨d', rfl⟩ : ∃ d', d = d' + 1 := ⟨d - 1, by omega⟩
  intro f
  induction f with
  | zero => intro v0 v1 v3 v5 lv hp v hp' l0 l1 l3 l5 ok hn r_v0 h; cases h
  | succ f hr84 =>
    intro v0 v1 v3 v5 lv hp v hp' l0 l1 l3 l5 ok hn r_v0 h
    unfold m181_84 at h
    refine Rn.iload n181_84 l5 ?_
    refine Rn.aload_n n181_86 l0 ?_
    obtain ⟨x1, hx1, h⟩ := Option.bind_eq_some_iff.mp h
    refine Rn.gf n181_87 mo181 fl11_40 (gfr_v hx1).1 ?_
    have r_x1 : x1 < n := by rw [← hn]; exact (gfr_v hx1).2
    refine Rn.iload_n n181_90 l1 ?_
    obtain ⟨x2, hx2, h⟩ := Option.bind_eq_some_iff.mp h
    refine Rn.iald n181_91 hx2 ?_
    by_cases hc3 : mc2 .ge v5 x2 = true
    · rw [if_pos hc3] at h
      refine Rn.c2t (t := 123) n181_92 (by decide) hc3 ?_
      refine Rn.aload_n n181_123 l0 ?_
      obtain ⟨x4, hx4, h⟩ := Option.bind_eq_some_iff.mp h
      refine Rn.gf n181_124 mo181 fl11_33 (gfr_v hx4).1 ?_
      have r_x4 : x4 < n := by rw [← hn]; exact (gfr_v hx4).2
      refine Rn.ic (v := 0) n181_127 (by decide) ?_
      refine Rn.aload_n n181_128 l0 ?_
      obtain ⟨x5, hx5, h⟩ := Option.bind_eq_some_iff.mp h
      refine Rn.gf n181_129 mo181 fl11_50 (gfr_v hx5).1 ?_
      have r_x5 : x5 < n := by rw [← hn]; exact (gfr_v hx5).2
      refine Rn.ic (v := 0) n181_132 (by decide) ?_
      obtain ⟨q6, hq6, h⟩ := Option.bind_eq_some_iff.mp h
      have gq6 := c176 (d := d') (by omega) F _ _ _ _ _ _ _ (by rw [hn]; exact r_x4) (by rw [hn]; exact r_x5) hq6
      refine Rn.cs (as := [.ref x4, .int 0, .ref x5, .int 0]) (rr := []) n181_133 mo181 mm11_240 mq176 rfl rfl rfl rfl (Nat.le_of_ble_eq_true rfl) (by rw [hn]; exact (okc (okr r_x4) (okc rfl (okc (okr r_x5) (okc rfl okn))))) (by rw [hn]; exact okn) (by rw [hn]; exact ok) (by rw [ml176]; exact Nat.le_of_ble_eq_true rfl) gq6 ?_
      have hn := (Rn.len gq6).trans hn
      show Rn _ 181 136 lv [.int q6.1] q6.2 c w _
      refine Rn.is (m := n) n181_136 ml181 (by decide) (fun lv l4 hk hok => ?_)
      have l0 := hk 0 _ (by decide) (Or.inl rfl) l0
      have l1 := hk 1 _ (by decide) (Or.inl rfl) l1
      have l3 := hk 3 _ (by decide) (Or.inl rfl) l3
      have l5 := hk 5 _ (by decide) (Or.inl rfl) l5
      have ok := hok ok
      refine Rn.goto (t := 69) n181_138 (by decide) ?_
      exact hr69 _ _ _ _ lv _ _ _ l0 l1 l3 l4 ok hn r_v0  h
    · rw [if_neg hc3] at h
      refine Rn.c2f (t := 123) n181_92 (by decide) hc3 ?_
      refine Rn.iload n181_95 l5 ?_
      refine Rn.iload_n n181_97 l3 ?_
      by_cases hc7 : mc2 .eq v5 v3 = true
      · rw [if_pos hc7] at h
        refine Rn.c2t (t := 117) n181_98 (by decide) hc7 ?_
        exact t181_117 hd F hr69 hr84 _ _ _ _ lv _ _ _ l0 l1 l3 l5 ok hn r_v0  h
      · rw [if_neg hc7] at h
        refine Rn.c2f (t := 117) n181_98 (by decide) hc7 ?_
        refine Rn.aload_n n181_101 l0 ?_
        refine Rn.aload_n n181_102 l0 ?_
        obtain ⟨x8, hx8, h⟩ := Option.bind_eq_some_iff.mp h
        refine Rn.gf n181_103 mo181 fl11_43 (gfr_v hx8).1 ?_
        have r_x8 : x8 < n := by rw [← hn]; exact (gfr_v hx8).2
        refine Rn.bp (v := 20) n181_106 (by decide) ?_
        refine Rn.iload_n n181_108 l1 ?_
        refine Rn.p n181_109 rfl ?_
        refine Rn.iload n181_110 l5 ?_
        refine Rn.p n181_112 rfl ?_
        obtain ⟨x9, hx9, h⟩ := Option.bind_eq_some_iff.mp h
        refine Rn.iald n181_113 hx9 ?_
        obtain ⟨u11, hu11, h⟩ := Option.bind_eq_some_iff.mp h
        obtain ⟨q10, hq10, h⟩ := Option.bind_eq_some_iff.mp h
        have gq10 := c156 (d := d') (by omega) F _ _ _ _ _ (by rw [hn]; exact r_v0) hq10
        refine Rn.cv (As := [.int x9]) (rr := []) n181_114 mo181 mm11_204 (by decide) mq156 rfl rfl rfl rfl (by rw [mo156]; exact hu11) (Nat.le_of_ble_eq_true rfl) (by rw [hn]; exact (okc (okr r_v0) (okc rfl okn))) (by rw [hn]; exact okn) (by rw [hn]; exact ok) (by rw [ml156]; exact Nat.le_of_ble_eq_true rfl) gq10 ?_
        have hn := (Rn.len gq10).trans hn
        show Rn _ 181 117 lv [] q10.2 c w _
        exact t181_117 hd F hr69 hr84 _ _ _ _ lv _ _ _ l0 l1 l3 l5 ok hn r_v0  h
def m181_69 (F : Nat) : Nat → Nat → Int32 → Int32 → Int32 → List mE → Option (Int32 × List mE)
  | 0, _, _, _, _, _ => none
  | f + 1, v0, v1, v3, v4, hp =>
    if mc1 .ne v4 = true then
      some (v3, hp)
    else
      (rcv 11 hp v0).bind fun u3 =>
      (e154 F v0 hp).bind fun q2 =>
      m181_84 F (m181_69 F f) F v0 v1 (v3 + 1) 0 q2.2
theorem t181_69 {d c w n : Nat} (hd : 3 ≤ d) (F : Nat) : ∀ f : Nat, ∀ (v0 : Nat) (v1 : Int32) (v3 : Int32) (v4 : Int32) (lv : List (Nat × Value)) (hp : List mE) (v : Int32) (hp' : List mE), alk 0 lv = some (.ref v0) → alk 1 lv = some (.int v1) → alk 3 lv = some (.int v3) → alk 4 lv = some (.int v4) → lvk n lv → hp.length = n → v0 < n → m181_69 F f v0 v1 v3 v4 hp = some (v, hp') → Rn d 181 69 lv [] hp c w (some (.int v), hp', c, w) := by
  obtain ⟨d', rfl⟩ : ∃ d', d = d' + 1 := ⟨d - 1, by omega⟩
  intro f
  induction f with
  | zero => intro v0 v1 v3 v4 lv hp v hp' l0 l1 l3 l4 ok hn r_v0 h; cases h
  | succ f hr69 =>
    intro v0 v1 v3 v4 lv hp v hp' l0 l1 l3 l4 ok hn r_v0 h
    unfold m181_69 at h
    refine Rn.iload n181_69 l4 ?_
    by_cases hc1 : mc1 .ne v4 = true
    · rw [if_pos hc1] at h
      refine Rn.c1t (t := 141) n181_71 (by decide) hc1 ?_
      refine Rn.iload_n n181_141 l3 ?_
      have e1 := (Prod.mk.inj (Option.some.inj h)).1
      have e2 := (Prod.mk.inj (Option.some.inj h)).2
      subst e1
      subst e2
      exact Rn.iret n181_142 mr181
    · rw [if_neg hc1] at h
      refine Rn.c1f (t := 141) n181_71 (by decide) hc1 ?_
      refine Rn.ii (m := n) (u := 1) n181_74 ml181 (by decide) (by decide) l3 (fun lv l3 hk hok => ?_)
      have l0 := hk 0 _ (by decide) (Or.inl rfl) l0
      have l1 := hk 1 _ (by decide) (Or.inl rfl) l1
      have l4 := hk 4 _ (by decide) (Or.inl rfl) l4
      have ok := hok ok
      refine Rn.aload_n n181_77 l0 ?_
      obtain ⟨u3, hu3, h⟩ := Option.bind_eq_some_iff.mp h
      obtain ⟨q2, hq2, h⟩ := Option.bind_eq_some_iff.mp h
      have gq2 := c154 (d := d') (by omega) F _ _ _ _ (by rw [hn]; exact r_v0) hq2
      refine Rn.cv (As := []) (rr := []) n181_78 mo181 mm11_198 (by decide) mq154 rfl rfl rfl rfl (by rw [mo154]; exact hu3) (Nat.le_of_ble_eq_true rfl) (by rw [hn]; exact (okc (okr r_v0) okn)) (by rw [hn]; exact okn) (by rw [hn]; exact ok) (by rw [ml154]; exact Nat.le_of_ble_eq_true rfl) gq2 ?_
      have hn := (Rn.len gq2).trans hn
      show Rn _ 181 81 lv [] q2.2 c w _
      refine Rn.ic (v := 0) n181_81 (by decide) ?_
      refine Rn.is (m := n) n181_82 ml181 (by decide) (fun lv l5 hk hok => ?_)
      have l0 := hk 0 _ (by decide) (Or.inl rfl) l0
      have l1 := hk 1 _ (by decide) (Or.inl rfl) l1
      have l3 := hk 3 _ (by decide) (Or.inl rfl) l3
      have l4 := hk 4 _ (by decide) (Or.inl rfl) l4
      have ok := hok ok
      exact t181_84 hd F hr69 F _ _ _ _ lv _ _ _ l0 l1 l3 l5 ok hn r_v0  h
def m181_0 (F : Nat) (v0 : Nat) (v1 : Int32) (v2 : Int32) (hp : List mE) : Option (Int32 × List mE) :=
  (rcv 11 hp v0).bind fun u2 =>
  (e160 F v0 v1 hp).bind fun q1 =>
  if mc1 .ne q1.1 = true then
    (rcv 11 q1.2 v0).bind fun u5 =>
    (e150 F v0 v2 q1.2).bind fun q4 =>
    if mc1 .ne q4.1 = true then
      (rcv 11 q4.2 v0).bind fun u8 =>
      (e169 F v0 v1 0 q4.2).bind fun q7 =>
      (gfr 11 13 q7.2 v0).bind fun x9 =>
      (e157 F x9 0 v2 q7.2).bind fun q10 =>
      if mc1 .ne q10.1 = true then
        (rcv 11 q10.2 v0).bind fun u13 =>
        (e156 F v0 v2 q10.2).bind fun q12 =>
        (gfr 11 13 q12.2 v0).bind fun x14 =>
        (gfr 11 21 q12.2 v0).bind fun x15 =>
        (e177 F x14 0 x15 0 q12.2).bind fun q16 =>
        m181_69 F F v0 v1 ((-1)) 0 q16.2
      else
        some ((-1003), q10.2)
    else
      some ((-1002), q4.2)
  else
    some ((-1001), q1.2)
theorem t181_0 {d c w n : Nat} (hd : 3 ≤ d) (F : Nat) : ∀ (v0 : Nat) (v1 : Int32) (v2 : Int32) (lv : List (Nat × Value)) (hp : List mE) (v : Int32) (hp' : List mE), alk 0 lv = some (.ref v0) → alk 1 lv = some (.int v1) → alk 2 lv = some (.int v2) → lvk n lv → hp.length = n → v0 < n → m181_0 F v0 v1 v2 hp = some (v, hp') → Rn d 181 0 lv [] hp c w (some (.int v), hp', c, w) := by
  obtain ⟨d', rfl⟩ : ∃ d', d = d' + 1 := ⟨d - 1, by omega⟩
  intro v0 v1 v2 lv hp v hp' l0 l1 l2 ok hn r_v0 h
  unfold m181_0 at h
  refine Rn.aload_n n181_0 l0 ?_
  refine Rn.iload_n n181_1 l1 ?_
  obtain ⟨u2, hu2, h⟩ := Option.bind_eq_some_iff.mp h
  obtain ⟨q1, hq1, h⟩ := Option.bind_eq_some_iff.mp h
  have gq1 := c160 (d := d') (by omega) F _ _ _ _ _ (by rw [hn]; exact r_v0) hq1
  refine Rn.cv (As := [.int v1]) (rr := []) n181_2 mo181 mm11_222 (by decide) mq160 rfl rfl rfl rfl (by rw [mo160]; exact hu2) (Nat.le_of_ble_eq_true rfl) (by rw [hn]; exact (okc (okr r_v0) (okc rfl okn))) (by rw [hn]; exact okn) (by rw [hn]; exact ok) (by rw [ml160]; exact Nat.le_of_ble_eq_true rfl) gq1 ?_
  have hn := (Rn.len gq1).trans hn
  show Rn _ 181 5 lv [.int q1.1] q1.2 c w _
  by_cases hc3 : mc1 .ne q1.1 = true
  · rw [if_pos hc3] at h
    refine Rn.c1t (t := 12) n181_5 (by decide) hc3 ?_
    refine Rn.aload_n n181_12 l0 ?_
    refine Rn.iload_n n181_13 l2 ?_
    obtain ⟨u5, hu5, h⟩ := Option.bind_eq_some_iff.mp h
    obtain ⟨q4, hq4, h⟩ := Option.bind_eq_some_iff.mp h
    have gq4 := c150 (d := d') (by omega) F _ _ _ _ _ (by rw [hn]; exact r_v0) hq4
    refine Rn.cv (As := [.int v2]) (rr := []) n181_14 mo181 mm11_186 (by decide) mq150 rfl rfl rfl rfl (by rw [mo150]; exact hu5) (Nat.le_of_ble_eq_true rfl) (by rw [hn]; exact (okc (okr r_v0) (okc rfl okn))) (by rw [hn]; exact okn) (by rw [hn]; exact ok) (by rw [ml150]; exact Nat.le_of_ble_eq_true rfl) gq4 ?_
    have hn := (Rn.len gq4).trans hn
    show Rn _ 181 17 lv [.int q4.1] q4.2 c w _
    by_cases hc6 : mc1 .ne q4.1 = true
    · rw [if_pos hc6] at h
      refine Rn.c1t (t := 24) n181_17 (by decide) hc6 ?_
      refine Rn.aload_n n181_24 l0 ?_
      refine Rn.iload_n n181_25 l1 ?_
      refine Rn.ic (v := 0) n181_26 (by decide) ?_
      obtain ⟨u8, hu8, h⟩ := Option.bind_eq_some_iff.mp h
      obtain ⟨q7, hq7, h⟩ := Option.bind_eq_some_iff.mp h
      have gq7 := c169 (d := d') (by omega) F _ _ _ _ _ _ (by rw [hn]; exact r_v0) hq7
      refine Rn.cv (As := [.int v1, .int 0]) (rr := []) n181_27 mo181 mm11_225 (by decide) mq169 rfl rfl rfl rfl (by rw [mo169]; exact hu8) (Nat.le_of_ble_eq_true rfl) (by rw [hn]; exact (okc (okr r_v0) (okc rfl (okc rfl okn)))) (by rw [hn]; exact okn) (by rw [hn]; exact ok) (by rw [ml169]; exact Nat.le_of_ble_eq_true rfl) gq7 ?_
      have hn := (Rn.len gq7).trans hn
      show Rn _ 181 30 lv [] q7.2 c w _
      refine Rn.aload_n n181_30 l0 ?_
      obtain ⟨x9, hx9, h⟩ := Option.bind_eq_some_iff.mp h
      refine Rn.gf n181_31 mo181 fl11_33 (gfr_v hx9).1 ?_
      have r_x9 : x9 < n := by rw [← hn]; exact (gfr_v hx9).2
      refine Rn.ic (v := 0) n181_34 (by decide) ?_
      refine Rn.iload_n n181_35 l2 ?_
      obtain ⟨q10, hq10, h⟩ := Option.bind_eq_some_iff.mp h
      have gq10 := c157 (d := d') (by omega) F _ _ _ _ _ _ (by rw [hn]; exact r_x9) hq10
      refine Rn.cs (as := [.ref x9, .int 0, .int v2]) (rr := []) n181_36 mo181 mm11_194 mq157 rfl rfl rfl rfl (Nat.le_of_ble_eq_true rfl) (by rw [hn]; exact (okc (okr r_x9) (okc rfl (okc rfl okn)))) (by rw [hn]; exact okn) (by rw [hn]; exact ok) (by rw [ml157]; exact Nat.le_of_ble_eq_true rfl) gq10 ?_
      have hn := (Rn.len gq10).trans hn
      show Rn _ 181 39 lv [.int q10.1] q10.2 c w _
      by_cases hc11 : mc1 .ne q10.1 = true
      · rw [if_pos hc11] at h
        refine Rn.c1t (t := 46) n181_39 (by decide) hc11 ?_
        refine Rn.aload_n n181_46 l0 ?_
        refine Rn.iload_n n181_47 l2 ?_
        obtain ⟨u13, hu13, h⟩ := Option.bind_eq_some_iff.mp h
        obtain ⟨q12, hq12, h⟩ := Option.bind_eq_some_iff.mp h
        have gq12 := c156 (d := d') (by omega) F _ _ _ _ _ (by rw [hn]; exact r_v0) hq12
        refine Rn.cv (As := [.int v2]) (rr := []) n181_48 mo181 mm11_204 (by decide) mq156 rfl rfl rfl rfl (by rw [mo156]; exact hu13) (Nat.le_of_ble_eq_true rfl) (by rw [hn]; exact (okc (okr r_v0) (okc rfl okn))) (by rw [hn]; exact okn) (by rw [hn]; exact ok) (by rw [ml156]; exact Nat.le_of_ble_eq_true rfl) gq12 ?_
        have hn := (Rn.len gq12).trans hn
        show Rn _ 181 51 lv [] q12.2 c w _
        refine Rn.aload_n n181_51 l0 ?_
        obtain ⟨x14, hx14, h⟩ := Option.bind_eq_some_iff.mp h
        refine Rn.gf n181_52 mo181 fl11_33 (gfr_v hx14).1 ?_
        have r_x14 : x14 < n := by rw [← hn]; exact (gfr_v hx14).2
        refine Rn.ic (v := 0) n181_55 (by decide) ?_
        refine Rn.aload_n n181_56 l0 ?_
        obtain ⟨x15, hx15, h⟩ := Option.bind_eq_some_iff.mp h
        refine Rn.gf n181_57 mo181 fl11_50 (gfr_v hx15).1 ?_
        have r_x15 : x15 < n := by rw [← hn]; exact (gfr_v hx15).2
        refine Rn.ic (v := 0) n181_60 (by decide) ?_
        obtain ⟨q16, hq16, h⟩ := Option.bind_eq_some_iff.mp h
        have gq16 := c177 (d := d') (by omega) F _ _ _ _ _ _ _ (by rw [hn]; exact r_x14) (by rw [hn]; exact r_x15) hq16
        refine Rn.cs (as := [.ref x14, .int 0, .ref x15, .int 0]) (rr := []) n181_61 mo181 mm11_244 mq177 rfl rfl rfl rfl (Nat.le_of_ble_eq_true rfl) (by rw [hn]; exact (okc (okr r_x14) (okc rfl (okc (okr r_x15) (okc rfl okn))))) (by rw [hn]; exact okn) (by rw [hn]; exact ok) (by rw [ml177]; exact Nat.le_of_ble_eq_true rfl) gq16 ?_
        have hn := (Rn.len gq16).trans hn
        show Rn _ 181 64 lv [] q16.2 c w _
        refine Rn.ic (v := (-1)) n181_64 (by decide) ?_
        refine Rn.isn (m := n) n181_65 rfl ml181 (by decide) (fun lv l3 hk hok => ?_)
        have l0 := hk 0 _ (by decide) (Or.inl rfl) l0
        have l1 := hk 1 _ (by decide) (Or.inl rfl) l1
        have l2 := hk 2 _ (by decide) (Or.inl rfl) l2
        have ok := hok ok
        refine Rn.ic (v := 0) n181_66 (by decide) ?_
        refine Rn.is (m := n) n181_67 ml181 (by decide) (fun lv l4 hk hok => ?_)
        have l0 := hk 0 _ (by decide) (Or.inl rfl) l0
        have l1 := hk 1 _ (by decide) (Or.inl rfl) l1
        have l2 := hk 2 _ (by decide) (Or.inl rfl) l2
        have l3 := hk 3 _ (by decide) (Or.inl rfl) l3
        have ok := hok ok
        exact t181_69 hd F  F _ _ _ _ lv _ _ _ l0 l1 l3 l4 ok hn r_v0  h
      · rw [if_neg hc11] at h
        refine Rn.c1f (t := 46) n181_39 (by decide) hc11 ?_
        refine Rn.sp (v := (-1003)) n181_42 (by decide) ?_
        have e1 := (Prod.mk.inj (Option.some.inj h)).1
        have e2 := (Prod.mk.inj (Option.some.inj h)).2
        subst e1
        subst e2
        exact Rn.iret n181_45 mr181
    · rw [if_neg hc6] at h
      refine Rn.c1f (t := 24) n181_17 (by decide) hc6 ?_
      refine Rn.sp (v := (-1002)) n181_20 (by decide) ?_
      have e1 := (Prod.mk.inj (Option.some.inj h)).1
      have e2 := (Prod.mk.inj (Option.some.inj h)).2
      subst e1
      subst e2
      exact Rn.iret n181_23 mr181
  · rw [if_neg hc3] at h
    refine Rn.c1f (t := 12) n181_5 (by decide) hc3 ?_
    refine Rn.sp (v := (-1001)) n181_8 (by decide) ?_
    have e1 := (Prod.mk.inj (Option.some.inj h)).1
    have e2 := (Prod.mk.inj (Option.some.inj h)).2
    subst e1
    subst e2
    exact Rn.iret n181_11 mr181
def e181 (F : Nat) (a0 : Nat) (a1 : Int32) (a2 : Int32) (hp : List mE) : Option (Int32 × List mE) := m181_0 F a0 a1 a2 hp
theorem c181 {d : Nat} (hd : 3 ≤ d) (F : Nat) (a0 : Nat) (a1 : Int32) (a2 : Int32) (hp : List mE) (v : Int32) (hp' : List mE) (ra0 : a0 < hp.length) (h : e181 F a0 a1 a2 hp = some (v, hp')) : Rn d 181 0 (lv_args 0 [.ref a0, .int a1, .int a2]) [] hp 0 0 (some (.int v), hp', 0, 0) :=
  t181_0 (n := hp.length) hd F a0 a1 a2 (lv_args 0 [.ref a0, .int a1, .int a2]) hp v hp' rfl rfl rfl (lvk_args (okc (okr ra0) (okc rfl (okc rfl okn)))) rfl ra0 h
/-! MirrorRootsModel.turnLine -/
def m182_5 (F : Nat) : Nat → Nat → Int32 → Int64 → Int32 → List mE → Option (Unit × List mE)
  | 0, _, _, _, _, _ => none
  | f + 1, v0, v1, v2, v4, hp =>
    (gfi 11 0 hp v0).bind fun x1 =>
    if mc2 .ge v4 x1 = true then
      (gfr 11 25 hp v0).bind fun x3 =>
      (rdJ hp x3 v1).bind fun x4 =>
      (wrJ hp x3 v1 (x4 - v2)).bind fun hp5 =>
      some ((), hp5)
    else
      (gfr 11 2 hp v0).bind fun x6 =>
      (rdI hp x6 ((5 * v1) + v4)).bind fun x7 =>
      (gfr 11 25 hp v0).bind fun x8 =>
      (rdJ hp x8 v4).bind fun x9 =>
      m182_5 F f v0 v1 (v2 + (x7.toInt64 * x9)) (v4 + 1) hp
theorem t182_5 {d c w n : Nat} (hd : 0 ≤ d) (F : Nat) : ∀ f : Nat, ∀ (v0 : Nat) (v1 : Int32) (v2 : Int64) (v4 : Int32) (lv : List (Nat × Value)) (hp : List mE) (v : Unit) (hp' : List mE), alk 0 lv = some (.ref v0) → alk 1 lv = some (.int v1) → alk 2 lv = some (.long v2) → alk 4 lv = some (.int v4) → lvk n lv → hp.length = n → v0 < n → m182_5 F f v0 v1 v2 v4 hp = some (v, hp') → Rn d 182 5 lv [] hp c w (none, hp', c, w) := by
  intro f
  induction f with
  | zero => intro v0 v1 v2 v4 lv hp v hp' l0 l1 l2 l4 ok hn r_v0 h; cases h
  | succ f hr5 =>
    intro v0 v1 v2 v4 lv hp v hp' l0 l1 l2 l4 ok hn r_v0 h
    unfold m182_5 at h
    refine Rn.iload n182_5 l4 ?_
    refine Rn.aload_n n182_7 l0 ?_
    obtain ⟨x1, hx1, h⟩ := Option.bind_eq_some_iff.mp h
    refine Rn.gf n182_8 mo182 fl11_7 (gfi_v hx1) ?_
    by_cases hc2 : mc2 .ge v4 x1 = true
    · rw [if_pos hc2] at h
      refine Rn.c2t (t := 43) n182_11 (by decide) hc2 ?_
      refine Rn.aload_n n182_43 l0 ?_
      obtain ⟨x3, hx3, h⟩ := Option.bind_eq_some_iff.mp h
      refine Rn.gf n182_44 mo182 fl11_62 (gfr_v hx3).1 ?_
      have r_x3 : x3 < n := by rw [← hn]; exact (gfr_v hx3).2
      refine Rn.iload_n n182_47 l1 ?_
      refine Rn.p n182_48 rfl ?_
      obtain ⟨x4, hx4, h⟩ := Option.bind_eq_some_iff.mp h
      refine Rn.lald n182_49 hx4 ?_
      refine Rn.lload_n n182_50 l2 ?_
      refine Rn.p n182_51 rfl ?_
      obtain ⟨hp5, hhp5, h⟩ := Option.bind_eq_some_iff.mp h
      refine Rn.last n182_52 hhp5 ?_
      have hn := (wrJ_st (st := []) hhp5).2.trans hn
      have e1 := (Prod.mk.inj (Option.some.inj h)).1
      have e2 := (Prod.mk.inj (Option.some.inj h)).2
      subst e1
      subst e2
      exact Rn.vret n182_53 mr182
    · rw [if_neg hc2] at h
      refine Rn.c2f (t := 43) n182_11 (by decide) hc2 ?_
      refine Rn.lload_n n182_14 l2 ?_
      refine Rn.aload_n n182_15 l0 ?_
      obtain ⟨x6, hx6, h⟩ := Option.bind_eq_some_iff.mp h
      refine Rn.gf n182_16 mo182 fl11_17 (gfr_v hx6).1 ?_
      have r_x6 : x6 < n := by rw [← hn]; exact (gfr_v hx6).2
      refine Rn.ic (v := 5) n182_19 (by decide) ?_
      refine Rn.iload_n n182_20 l1 ?_
      refine Rn.p n182_21 rfl ?_
      refine Rn.iload n182_22 l4 ?_
      refine Rn.p n182_24 rfl ?_
      obtain ⟨x7, hx7, h⟩ := Option.bind_eq_some_iff.mp h
      refine Rn.iald n182_25 hx7 ?_
      refine Rn.p n182_26 rfl ?_
      refine Rn.aload_n n182_27 l0 ?_
      obtain ⟨x8, hx8, h⟩ := Option.bind_eq_some_iff.mp h
      refine Rn.gf n182_28 mo182 fl11_62 (gfr_v hx8).1 ?_
      have r_x8 : x8 < n := by rw [← hn]; exact (gfr_v hx8).2
      refine Rn.iload n182_31 l4 ?_
      obtain ⟨x9, hx9, h⟩ := Option.bind_eq_some_iff.mp h
      refine Rn.lald n182_33 hx9 ?_
      refine Rn.p n182_34 rfl ?_
      refine Rn.p n182_35 rfl ?_
      refine Rn.lsn (m := n) n182_36 rfl ml182 (by decide) (fun lv l2 hk hok => ?_)
      have l0 := hk 0 _ (by decide) (by decide) (Or.inl rfl) l0
      have l1 := hk 1 _ (by decide) (by decide) (Or.inl rfl) l1
      have l4 := hk 4 _ (by decide) (by decide) (Or.inl rfl) l4
      have ok := hok ok
      refine Rn.ii (m := n) (u := 1) n182_37 ml182 (by decide) (by decide) l4 (fun lv l4 hk hok => ?_)
      have l0 := hk 0 _ (by decide) (Or.inl rfl) l0
      have l1 := hk 1 _ (by decide) (Or.inl rfl) l1
      have l2 := hk 2 _ (by decide) (Or.inr (by decide)) l2
      have ok := hok ok
      refine Rn.goto (t := 5) n182_40 (by decide) ?_
      exact hr5 _ _ _ _ lv _ _ _ l0 l1 l2 l4 ok hn r_v0  h
def m182_0 (F : Nat) (v0 : Nat) (v1 : Int32) (hp : List mE) : Option (Unit × List mE) :=
  m182_5 F F v0 v1 0 0 hp
theorem t182_0 {d c w n : Nat} (hd : 0 ≤ d) (F : Nat) : ∀ (v0 : Nat) (v1 : Int32) (lv : List (Nat × Value)) (hp : List mE) (v : Unit) (hp' : List mE), alk 0 lv = some (.ref v0) → alk 1 lv = some (.int v1) → lvk n lv → hp.length = n → v0 < n → m182_0 F v0 v1 hp = some (v, hp') → Rn d 182 0 lv [] hp c w (none, hp', c, w) := by
  intro v0 v1 lv hp v hp' l0 l1 ok hn r_v0 h
  unfold m182_0 at h
  refine Rn.lc (v := 0) n182_0 (by decide) ?_
  refine Rn.lsn (m := n) n182_1 rfl ml182 (by decide) (fun lv l2 hk hok => ?_)
  have l0 := hk 0 _ (by decide) (by decide) (Or.inl rfl) l0
  have l1 := hk 1 _ (by decide) (by decide) (Or.inl rfl) l1
  have ok := hok ok
  refine Rn.ic (v := 0) n182_2 (by decide) ?_
  refine Rn.is (m := n) n182_3 ml182 (by decide) (fun lv l4 hk hok => ?_)
  have l0 := hk 0 _ (by decide) (Or.inl rfl) l0
  have l1 := hk 1 _ (by decide) (Or.inl rfl) l1
  have l2 := hk 2 _ (by decide) (Or.inr (by decide)) l2
  have ok := hok ok
  exact t182_5 hd F  F _ _ _ _ lv _ _ _ l0 l1 l2 l4 ok hn r_v0  h
def e182 (F : Nat) (a0 : Nat) (a1 : Int32) (hp : List mE) : Option (Unit × List mE) := m182_0 F a0 a1 hp
theorem c182 {d : Nat} (hd : 0 ≤ d) (F : Nat) (a0 : Nat) (a1 : Int32) (hp : List mE) (v : Unit) (hp' : List mE) (ra0 : a0 < hp.length) (h : e182 F a0 a1 hp = some (v, hp')) : Rn d 182 0 (lv_args 0 [.ref a0, .int a1]) [] hp 0 0 (none, hp', 0, 0) :=
  t182_0 (n := hp.length) hd F a0 a1 (lv_args 0 [.ref a0, .int a1]) hp v hp' rfl rfl (lvk_args (okc (okr ra0) (okc rfl okn))) rfl ra0 h
/-! MirrorRootsModel.inversion -/
def m183_106 (F : Nat) : Nat → Nat → Int32 → Int32 → Int32 → List mE → Option (Int64 × List mE)
  | 0, _, _, _, _, _ => none
  | f + 1, v0, v1, v3, v5, hp =>
    (gfr 11 17 hp v0).bind fun x1 =>
    (rdI hp x1 v1).bind fun x2 =>
    if mc2 .ge v5 x2 = true then
      (gfr 11 25 hp v0).bind fun x4 =>
      (rdJ hp x4 v3).bind fun x5 =>
      some (x5, hp)
    else
      (gfr 11 18 hp v0).bind fun x6 =>
      (rdI hp x6 ((20 * v1) + v5)).bind fun x7 =>
      (rcv 11 hp v0).bind fun u9 =>
      (e182 F v0 x7 hp).bind fun q8 =>
      m183_106 F f v0 v1 v3 (v5 + 1) q8.2
theorem t183_106 {d c w n : Nat} (hd : 2 ≤ d) (F : Nat) : ∀ f : Nat, ∀ (v0 : Nat) (v1 : Int32) (v3 : Int32) (v5 : Int32) (lv : List (Nat × Value)) (hp : List mE) (v : Int64) (hp' : List mE), alk 0 lv = some (.ref v0) → alk 1 lv = some (.int v1) → alk 3 lv = some (.int v3) → alk 5 lv = some (.int v5) → lvk n lv → hp.length = n → v0 < n → m183_106 F f v0 v1 v3 v5 hp = some (v, hp') → Rn d 183 106 lv [] hp c w (some (.long v), hp', c, w) := by
  obtain ⟨d', rfl⟩ : ∃ d', d = d' + 1 := ⟨d - 1, by omega⟩
  intro f
  induction f with
  | zero => intro v0 v1 v3 v5 lv hp v hp' l0 l1 l3 l5 ok hn r_v0 h; cases h
  | succ f hr106 =>
    intro v0 v1 v3 v5 lv hp v hp' l0 l1 l3 l5 ok hn r_v0 h
    unfold m183_106 at h
    refine Rn.iload n183_106 l5 ?_
    refine Rn.aload_n n183_108 l0 ?_
    obtain ⟨x1, hx1, h⟩ := Option.bind_eq_some_iff.mp h
    refine Rn.gf n183_109 mo183 fl11_40 (gfr_v hx1).1 ?_
    have r_x1 : x1 < n := by rw [← hn]; exact (gfr_v hx1).2
    refine Rn.iload_n n183_112 l1 ?_
    obtain ⟨x2, hx2, h⟩ := Option.bind_eq_some_iff.mp h
    refine Rn.iald n183_113 hx2 ?_
    by_cases hc3 : mc2 .ge v5 x2 = true
    · rw [if_pos hc3] at h
      refine Rn.c2t (t := 139) n183_114 (by decide) hc3 ?_
      refine Rn.aload_n n183_139 l0 ?_
      obtain ⟨x4, hx4, h⟩ := Option.bind_eq_some_iff.mp h
      refine Rn.gf n183_140 mo183 fl11_62 (gfr_v hx4).1 ?_
      have r_x4 : x4 < n := by rw [← hn]; exact (gfr_v hx4).2
      refine Rn.iload_n n183_143 l3 ?_
      obtain ⟨x5, hx5, h⟩ := Option.bind_eq_some_iff.mp h
      refine Rn.lald n183_144 hx5 ?_
      have e1 := (Prod.mk.inj (Option.some.inj h)).1
      have e2 := (Prod.mk.inj (Option.some.inj h)).2
      subst e1
      subst e2
      exact Rn.lret n183_145 mr183
    · rw [if_neg hc3] at h
      refine Rn.c2f (t := 139) n183_114 (by decide) hc3 ?_
      refine Rn.aload_n n183_117 l0 ?_
      refine Rn.aload_n n183_118 l0 ?_
      obtain ⟨x6, hx6, h⟩ := Option.bind_eq_some_iff.mp h
      refine Rn.gf n183_119 mo183 fl11_43 (gfr_v hx6).1 ?_
      have r_x6 : x6 < n := by rw [← hn]; exact (gfr_v hx6).2
      refine Rn.bp (v := 20) n183_122 (by decide) ?_
      refine Rn.iload_n n183_124 l1 ?_
      refine Rn.p n183_125 rfl ?_
      refine Rn.iload n183_126 l5 ?_
      refine Rn.p n183_128 rfl ?_
      obtain ⟨x7, hx7, h⟩ := Option.bind_eq_some_iff.mp h
      refine Rn.iald n183_129 hx7 ?_
      obtain ⟨u9, hu9, h⟩ := Option.bind_eq_some_iff.mp h
      obtain ⟨q8, hq8, h⟩ := Option.bind_eq_some_iff.mp h
      have gq8 := c182 (d := d') (by omega) F _ _ _ _ _ (by rw [hn]; exact r_v0) hq8
      refine Rn.cv (As := [.int x7]) (rr := []) n183_130 mo183 mm11_254 (by decide) mq182 rfl rfl rfl rfl (by rw [mo182]; exact hu9) (Nat.le_of_ble_eq_true rfl) (by rw [hn]; exact (okc (okr r_v0) (okc rfl okn))) (by rw [hn]; exact okn) (by rw [hn]; exact ok) (by rw [ml182]; exact Nat.le_of_ble_eq_true rfl) gq8 ?_
      have hn := (Rn.len gq8).trans hn
      show Rn _ 183 133 lv [] q8.2 c w _
      refine Rn.ii (m := n) (u := 1) n183_133 ml183 (by decide) (by decide) l5 (fun lv l5 hk hok => ?_)
      have l0 := hk 0 _ (by decide) (Or.inl rfl) l0
      have l1 := hk 1 _ (by decide) (Or.inl rfl) l1
      have l3 := hk 3 _ (by decide) (Or.inl rfl) l3
      have ok := hok ok
      refine Rn.goto (t := 106) n183_136 (by decide) ?_
      exact hr106 _ _ _ _ lv _ _ _ l0 l1 l3 l5 ok hn r_v0  h
def m183_93 (F : Nat) (rc59 : Nat → Int32 → Int32 → Int32 → Int32 → List mE → Option (Int64 × List mE)) (v0 : Nat) (v1 : Int32) (v3 : Int32) (v4 : Int32) (v5 : Int32) (t0 : Nat) (t1 : Int32) (t2 : Int64) (hp : List mE) : Option (Int64 × List mE) :=
  (wrJ hp t0 t1 t2).bind fun hp1 =>
  rc59 v0 v1 v3 v4 (v5 + 1) hp1
theorem t183_93 {d c w n : Nat} (hd : 2 ≤ d) (F : Nat) {rc59 : Nat → Int32 → Int32 → Int32 → Int32 → List mE → Option (Int64 × List mE)} (hr59 : ∀ (v0 : Nat) (v1 : Int32) (v3 : Int32) (v4 : Int32) (v5 : Int32) (lv : List (Nat × Value)) (hp : List mE) (v : Int64) (hp' : List mE), alk 0 lv = some (.ref v0) → alk 1 lv = some (.int v1) → alk 3 lv = some (.int v3) → alk 4 lv = some (.int v4) → alk 5 lv = some (.int v5) → lvk n lv → hp.length = n → v0 < n → rc59 v0 v1 v3 v4 v5 hp = some (v, hp') → Rn d 183 59 lv [] hp c w (some (.long v), hp', c, w)) : ∀ (v0 : Nat) (v1 : Int32) (v3 : Int32) (v4 : Int32) (v5 : Int32) (t0 : Nat) (t1 : Int32) (t2 : Int64) (lv : List (Nat × Value)) (hp : List mE) (v : Int64) (hp' : List mE), alk 0 lv = some (.ref v0) → alk 1 lv = some (.int v1) → alk 3 lv = some (.int v3) → alk 4 lv = some (.int v4) → alk 5 lv = some (.int v5) → lvk n lv → hp.length = n → v0 < n → t0 < n → m183_93 F rc59 v0 v1 v3 v4 v5 t0 t1 t2 hp = some (v, hp') → Rn d 183 93 lv [.long t2, .int t1, .ref t0] hp c w (some (.long v), hp', c, w) := by
  obtain ⟨d', rfl⟩ : ∃ d', d = d' + 1 := ⟨d - 1, by omega⟩
  intro v0 v1 v3 v4 v5 t0 t1 t2 lv hp v hp' l0 l1 l3 l4 l5 ok hn r_v0 r_t0 h
  unfold m183_93 at h
  obtain ⟨hp1, hhp1, h⟩ := Option.bind_eq_some_iff.mp h
  refine Rn.last n183_93 hhp1 ?_
  have hn := (wrJ_st (st := []) hhp1).2.trans hn
  refine Rn.ii (m := n) (u := 1) n183_94 ml183 (by decide) (by decide) l5 (fun lv l5 hk hok => ?_)
  have l0 := hk 0 _ (by decide) (Or.inl rfl) l0
  have l1 := hk 1 _ (by decide) (Or.inl rfl) l1
  have l3 := hk 3 _ (by decide) (Or.inl rfl) l3
  have l4 := hk 4 _ (by decide) (Or.inl rfl) l4
  have ok := hok ok
  refine Rn.goto (t := 59) n183_97 (by decide) ?_
  exact hr59 _ _ _ _ _ lv _ _ _ l0 l1 l3 l4 l5 ok hn r_v0  h
def m183_59 (F : Nat) : Nat → Nat → Int32 → Int32 → Int32 → Int32 → List mE → Option (Int64 × List mE)
  | 0, _, _, _, _, _, _ => none
  | f + 1, v0, v1, v3, v4, v5, hp =>
    if mc2 .ge v5 5 = true then
      m183_106 F F v0 v1 v3 (v4 + 1) hp
    else
      (gfr 11 25 hp v0).bind fun x2 =>
      (gfr 11 18 hp v0).bind fun x3 =>
      (rdI hp x3 ((20 * v1) + v4)).bind fun x4 =>
      if mc2 .ne v5 x4 = true then
        m183_93 F (m183_59 F f) v0 v1 v3 v4 v5 x2 v5 0 hp
      else
        m183_93 F (m183_59 F f) v0 v1 v3 v4 v5 x2 v5 1 hp
theorem t183_59 {d c w n : Nat} (hd : 2 ≤ d) (F : Nat) : ∀ f : Nat, ∀ (v0 : Nat) (v1 : Int32) (v3 : Int32) (v4 : Int32) (v5 : Int32) (lv : List (Nat × Value)) (hp : List mE) (v : Int64) (hp' : List mE), alk 0 lv = some (.ref v0) → alk 1 lv = some (.int v1) → alk 3 lv = some (.int v3) → alk 4 lv = some (.int v4) → alk 5 lv = some (.int v5) → lvk n lv → hp.length = n → v0 < n → m183_59 F f v0 v1 v3 v4 v5 hp = some (v, hp') → Rn d 183 59 lv [] hp c w (some (.long v), hp', c, w) := by
  obtain ⟨d', rfl⟩ : ∃ d', d = d' + 1 := ⟨d - 1, by omega⟩
  intro f
  induction f with
  | zero => intro v0 v1 v3 v4 v5 lv hp v hp' l0 l1 l3 l4 l5 ok hn r_v0 h; cases h
  | succ f hr59 =>
    intro v0 v1 v3 v4 v5 lv hp v hp' l0 l1 l3 l4 l5 ok hn r_v0 h
    unfold m183_59 at h
    refine Rn.iload n183_59 l5 ?_
    refine Rn.ic (v := 5) n183_61 (by decide) ?_
    by_cases hc1 : mc2 .ge v5 5 = true
    · rw [if_pos hc1] at h
      refine Rn.c2t (t := 100) n183_62 (by decide) hc1 ?_
      refine Rn.iload n183_100 l4 ?_
      refine Rn.ic (v := 1) n183_102 (by decide) ?_
      refine Rn.p n183_103 rfl ?_
      refine Rn.is (m := n) n183_104 ml183 (by decide) (fun lv l5 hk hok => ?_)
      have l0 := hk 0 _ (by decide) (Or.inl rfl) l0
      have l1 := hk 1 _ (by decide) (Or.inl rfl) l1
      have l3 := hk 3 _ (by decide) (Or.inl rfl) l3
      have l4 := hk 4 _ (by decide) (Or.inl rfl) l4
      have ok := hok ok
      exact t183_106 hd F  F _ _ _ _ lv _ _ _ l0 l1 l3 l5 ok hn r_v0  h
    · rw [if_neg hc1] at h
      refine Rn.c2f (t := 100) n183_62 (by decide) hc1 ?_
      refine Rn.aload_n n183_65 l0 ?_
      obtain ⟨x2, hx2, h⟩ := Option.bind_eq_some_iff.mp h
      refine Rn.gf n183_66 mo183 fl11_62 (gfr_v hx2).1 ?_
      have r_x2 : x2 < n := by rw [← hn]; exact (gfr_v hx2).2
      refine Rn.iload n183_69 l5 ?_
      refine Rn.iload n183_71 l5 ?_
      refine Rn.aload_n n183_73 l0 ?_
      obtain ⟨x3, hx3, h⟩ := Option.bind_eq_some_iff.mp h
      refine Rn.gf n183_74 mo183 fl11_43 (gfr_v hx3).1 ?_
      have r_x3 : x3 < n := by rw [← hn]; exact (gfr_v hx3).2
      refine Rn.bp (v := 20) n183_77 (by decide) ?_
      refine Rn.iload_n n183_79 l1 ?_
      refine Rn.p n183_80 rfl ?_
      refine Rn.iload n183_81 l4 ?_
      refine Rn.p n183_83 rfl ?_
      obtain ⟨x4, hx4, h⟩ := Option.bind_eq_some_iff.mp h
      refine Rn.iald n183_84 hx4 ?_
      by_cases hc5 : mc2 .ne v5 x4 = true
      · rw [if_pos hc5] at h
        refine Rn.c2t (t := 92) n183_85 (by decide) hc5 ?_
        refine Rn.lc (v := 0) n183_92 (by decide) ?_
        exact t183_93 hd F hr59 _ _ _ _ _ _ _ _ lv _ _ _ l0 l1 l3 l4 l5 ok hn r_v0 r_x2 h
      · rw [if_neg hc5] at h
        refine Rn.c2f (t := 92) n183_85 (by decide) hc5 ?_
        refine Rn.lc (v := 1) n183_88 (by decide) ?_
        refine Rn.goto (t := 93) n183_89 (by decide) ?_
        exact t183_93 hd F hr59 _ _ _ _ _ _ _ _ lv _ _ _ l0 l1 l3 l4 l5 ok hn r_v0 r_x2 h
def m183_0 (F : Nat) (v0 : Nat) (v1 : Int32) (v2 : Int32) (v3 : Int32) (hp : List mE) : Option (Int64 × List mE) :=
  (rcv 11 hp v0).bind fun u2 =>
  (e160 F v0 v1 hp).bind fun q1 =>
  if mc1 .ne q1.1 = true then
    (rcv 11 q1.2 v0).bind fun u5 =>
    (e150 F v0 v3 q1.2).bind fun q4 =>
    if mc1 .ne q4.1 = true then
      (gfr 11 17 q4.2 v0).bind fun x7 =>
      (rdI q4.2 x7 v1).bind fun x8 =>
      (e137 F v2.toInt64 0 ((x8 - 1).toInt64) q4.2).bind fun q9 =>
      if mc1 .ne q9.1 = true then
        (gfr 11 17 q9.2 v0).bind fun x11 =>
        (rdI q9.2 x11 v1).bind fun x12 =>
        m183_59 F F v0 v1 v3 ((x12 - 1) - v2) 0 q9.2
      else
        some (0, q9.2)
    else
      some ((-1002), q4.2)
  else
    some ((-1001), q1.2)
theorem t183_0 {d c w n : Nat} (hd : 2 ≤ d) (F : Nat) : ∀ (v0 : Nat) (v1 : Int32) (v2 : Int32) (v3 : Int32) (lv : List (Nat × Value)) (hp : List mE) (v : Int64) (hp' : List mE), alk 0 lv = some (.ref v0) → alk 1 lv = some (.int v1) → alk 2 lv = some (.int v2) → alk 3 lv = some (.int v3) → lvk n lv → hp.length = n → v0 < n → m183_0 F v0 v1 v2 v3 hp = some (v, hp') → Rn d 183 0 lv [] hp c w (some (.long v), hp', c, w) := by
  obtain ⟨d', rfl⟩ : ∃ d', d = d' + 1 := ⟨d - 1, by omega⟩
  intro v0 v1 v2 v3 lv hp v hp' l0 l1 l2 l3 ok hn r_v0 h
  unfold m183_0 at h
  refine Rn.aload_n n183_0 l0 ?_
  refine Rn.iload_n n183_1 l1 ?_
  obtain ⟨u2, hu2, h⟩ := Option.bind_eq_some_iff.mp h
  obtain ⟨q1, hq1, h⟩ := Option.bind_eq_some_iff.mp h
  have gq1 := c160 (d := d') (by omega) F _ _ _ _ _ (by rw [hn]; exact r_v0) hq1
  refine Rn.cv (As := [.int v1]) (rr := []) n183_2 mo183 mm11_222 (by decide) mq160 rfl rfl rfl rfl (by rw [mo160]; exact hu2) (Nat.le_of_ble_eq_true rfl) (by rw [hn]; exact (okc (okr r_v0) (okc rfl okn))) (by rw [hn]; exact okn) (by rw [hn]; exact ok) (by rw [ml160]; exact Nat.le_of_ble_eq_true rfl) gq1 ?_
  have hn := (Rn.len gq1).trans hn
  show Rn _ 183 5 lv [.int q1.1] q1.2 c w _
  by_cases hc3 : mc1 .ne q1.1 = true
  · rw [if_pos hc3] at h
    refine Rn.c1t (t := 12) n183_5 (by decide) hc3 ?_
    refine Rn.aload_n n183_12 l0 ?_
    refine Rn.iload_n n183_13 l3 ?_
    obtain ⟨u5, hu5, h⟩ := Option.bind_eq_some_iff.mp h
    obtain ⟨q4, hq4, h⟩ := Option.bind_eq_some_iff.mp h
    have gq4 := c150 (d := d') (by omega) F _ _ _ _ _ (by rw [hn]; exact r_v0) hq4
    refine Rn.cv (As := [.int v3]) (rr := []) n183_14 mo183 mm11_186 (by decide) mq150 rfl rfl rfl rfl (by rw [mo150]; exact hu5) (Nat.le_of_ble_eq_true rfl) (by rw [hn]; exact (okc (okr r_v0) (okc rfl okn))) (by rw [hn]; exact okn) (by rw [hn]; exact ok) (by rw [ml150]; exact Nat.le_of_ble_eq_true rfl) gq4 ?_
    have hn := (Rn.len gq4).trans hn
    show Rn _ 183 17 lv [.int q4.1] q4.2 c w _
    by_cases hc6 : mc1 .ne q4.1 = true
    · rw [if_pos hc6] at h
      refine Rn.c1t (t := 24) n183_17 (by decide) hc6 ?_
      refine Rn.iload_n n183_24 l2 ?_
      refine Rn.p n183_25 rfl ?_
      refine Rn.lc (v := 0) n183_26 (by decide) ?_
      refine Rn.aload_n n183_27 l0 ?_
      obtain ⟨x7, hx7, h⟩ := Option.bind_eq_some_iff.mp h
      refine Rn.gf n183_28 mo183 fl11_40 (gfr_v hx7).1 ?_
      have r_x7 : x7 < n := by rw [← hn]; exact (gfr_v hx7).2
      refine Rn.iload_n n183_31 l1 ?_
      obtain ⟨x8, hx8, h⟩ := Option.bind_eq_some_iff.mp h
      refine Rn.iald n183_32 hx8 ?_
      refine Rn.ic (v := 1) n183_33 (by decide) ?_
      refine Rn.p n183_34 rfl ?_
      refine Rn.p n183_35 rfl ?_
      obtain ⟨q9, hq9, h⟩ := Option.bind_eq_some_iff.mp h
      have gq9 := c137 (d := d') (by omega) F _ _ _ _ _ _  hq9
      refine Rn.cs (as := [.long v2.toInt64, .long 0, .long ((x8 - 1).toInt64)]) (rr := []) n183_36 mo183 mm11_116 mq137 rfl rfl rfl rfl (Nat.le_of_ble_eq_true rfl) (by rw [hn]; exact (okc rfl (okc rfl (okc rfl okn)))) (by rw [hn]; exact okn) (by rw [hn]; exact ok) (by rw [ml137]; exact Nat.le_of_ble_eq_true rfl) gq9 ?_
      have hn := (Rn.len gq9).trans hn
      show Rn _ 183 39 lv [.int q9.1] q9.2 c w _
      by_cases hc10 : mc1 .ne q9.1 = true
      · rw [if_pos hc10] at h
        refine Rn.c1t (t := 44) n183_39 (by decide) hc10 ?_
        refine Rn.aload_n n183_44 l0 ?_
        obtain ⟨x11, hx11, h⟩ := Option.bind_eq_some_iff.mp h
        refine Rn.gf n183_45 mo183 fl11_40 (gfr_v hx11).1 ?_
        have r_x11 : x11 < n := by rw [← hn]; exact (gfr_v hx11).2
        refine Rn.iload_n n183_48 l1 ?_
        obtain ⟨x12, hx12, h⟩ := Option.bind_eq_some_iff.mp h
        refine Rn.iald n183_49 hx12 ?_
        refine Rn.ic (v := 1) n183_50 (by decide) ?_
        refine Rn.p n183_51 rfl ?_
        refine Rn.iload_n n183_52 l2 ?_
        refine Rn.p n183_53 rfl ?_
        refine Rn.is (m := n) n183_54 ml183 (by decide) (fun lv l4 hk hok => ?_)
        have l0 := hk 0 _ (by decide) (Or.inl rfl) l0
        have l1 := hk 1 _ (by decide) (Or.inl rfl) l1
        have l2 := hk 2 _ (by decide) (Or.inl rfl) l2
        have l3 := hk 3 _ (by decide) (Or.inl rfl) l3
        have ok := hok ok
        refine Rn.ic (v := 0) n183_56 (by decide) ?_
        refine Rn.is (m := n) n183_57 ml183 (by decide) (fun lv l5 hk hok => ?_)
        have l0 := hk 0 _ (by decide) (Or.inl rfl) l0
        have l1 := hk 1 _ (by decide) (Or.inl rfl) l1
        have l2 := hk 2 _ (by decide) (Or.inl rfl) l2
        have l3 := hk 3 _ (by decide) (Or.inl rfl) l3
        have l4 := hk 4 _ (by decide) (Or.inl rfl) l4
        have ok := hok ok
        exact t183_59 hd F  F _ _ _ _ _ lv _ _ _ l0 l1 l3 l4 l5 ok hn r_v0  h
      · rw [if_neg hc10] at h
        refine Rn.c1f (t := 44) n183_39 (by decide) hc10 ?_
        refine Rn.lc (v := 0) n183_42 (by decide) ?_
        have e1 := (Prod.mk.inj (Option.some.inj h)).1
        have e2 := (Prod.mk.inj (Option.some.inj h)).2
        subst e1
        subst e2
        exact Rn.lret n183_43 mr183
    · rw [if_neg hc6] at h
      refine Rn.c1f (t := 24) n183_17 (by decide) hc6 ?_
      refine Rn.ldc2 n183_20 mo183 cL11_231 ?_
      have e1 := (Prod.mk.inj (Option.some.inj h)).1
      have e2 := (Prod.mk.inj (Option.some.inj h)).2
      subst e1
      subst e2
      exact Rn.lret n183_23 mr183
  · rw [if_neg hc3] at h
    refine Rn.c1f (t := 12) n183_5 (by decide) hc3 ?_
    refine Rn.ldc2 n183_8 mo183 cL11_229 ?_
    have e1 := (Prod.mk.inj (Option.some.inj h)).1
    have e2 := (Prod.mk.inj (Option.some.inj h)).2
    subst e1
    subst e2
    exact Rn.lret n183_11 mr183
def e183 (F : Nat) (a0 : Nat) (a1 : Int32) (a2 : Int32) (a3 : Int32) (hp : List mE) : Option (Int64 × List mE) := m183_0 F a0 a1 a2 a3 hp
theorem c183 {d : Nat} (hd : 2 ≤ d) (F : Nat) (a0 : Nat) (a1 : Int32) (a2 : Int32) (a3 : Int32) (hp : List mE) (v : Int64) (hp' : List mE) (ra0 : a0 < hp.length) (h : e183 F a0 a1 a2 a3 hp = some (v, hp')) : Rn d 183 0 (lv_args 0 [.ref a0, .int a1, .int a2, .int a3]) [] hp 0 0 (some (.long v), hp', 0, 0) :=
  t183_0 (n := hp.length) hd F a0 a1 a2 a3 (lv_args 0 [.ref a0, .int a1, .int a2, .int a3]) hp v hp' rfl rfl rfl rfl (lvk_args (okc (okr ra0) (okc rfl (okc rfl (okc rfl okn))))) rfl ra0 h
/-! MirrorRootsModel.isSet -/
def m184_0 (F : Nat) (v0 : Nat) (v1 : Int32) (hp : List mE) : Option (Int32 × List mE) :=
  (gfi 11 0 hp v0).bind fun x1 =>
  (e137 F v1.toInt64 0 (((1 <<< (x1 &&& 31)) - 1).toInt64) hp).bind fun q2 =>
  if q2.1 = 0 ∨ q2.1 = 1 then some (q2.1, q2.2) else none
theorem t184_0 {d c w n : Nat} (hd : 1 ≤ d) (F : Nat) : ∀ (v0 : Nat) (v1 : Int32) (lv : List (Nat × Value)) (hp : List mE) (v : Int32) (hp' : List mE), alk 0 lv = some (.ref v0) → alk 1 lv = some (.int v1) → lvk n lv → hp.length = n → v0 < n → m184_0 F v0 v1 hp = some (v, hp') → Rn d 184 0 lv [] hp c w (some (.int v), hp', c, w) := by
  obtain ⟨d', rfl⟩ : ∃ d', d = d' + 1 := ⟨d - 1, by omega⟩
  intro v0 v1 lv hp v hp' l0 l1 ok hn r_v0 h
  unfold m184_0 at h
  refine Rn.iload_n n184_0 l1 ?_
  refine Rn.p n184_1 rfl ?_
  refine Rn.lc (v := 0) n184_2 (by decide) ?_
  refine Rn.ic (v := 1) n184_3 (by decide) ?_
  refine Rn.aload_n n184_4 l0 ?_
  obtain ⟨x1, hx1, h⟩ := Option.bind_eq_some_iff.mp h
  refine Rn.gf n184_5 mo184 fl11_7 (gfi_v hx1) ?_
  refine Rn.p n184_8 rfl ?_
  refine Rn.ic (v := 1) n184_9 (by decide) ?_
  refine Rn.p n184_10 rfl ?_
  refine Rn.p n184_11 rfl ?_
  obtain ⟨q2, hq2, h⟩ := Option.bind_eq_some_iff.mp h
  have gq2 := c137 (d := d') (by omega) F _ _ _ _ _ _  hq2
  refine Rn.cs (as := [.long v1.toInt64, .long 0, .long (((1 <<< (x1 &&& 31)) - 1).toInt64)]) (rr := []) n184_12 mo184 mm11_116 mq137 rfl rfl rfl rfl (Nat.le_of_ble_eq_true rfl) (by rw [hn]; exact (okc rfl (okc rfl (okc rfl okn)))) (by rw [hn]; exact okn) (by rw [hn]; exact ok) (by rw [ml137]; exact Nat.le_of_ble_eq_true rfl) gq2 ?_
  have hn := (Rn.len gq2).trans hn
  show Rn _ 184 15 lv [.int q2.1] q2.2 c w _
  by_cases hz3 : q2.1 = 0 ∨ q2.1 = 1
  · rw [if_pos hz3] at h
    have e1 := (Prod.mk.inj (Option.some.inj h)).1
    have e2 := (Prod.mk.inj (Option.some.inj h)).2
    subst e1
    subst e2
    exact Rn.zret n184_15 mr184 hz3
  · rw [if_neg hz3] at h; cases h
def e184 (F : Nat) (a0 : Nat) (a1 : Int32) (hp : List mE) : Option (Int32 × List mE) := m184_0 F a0 a1 hp
theorem c184 {d : Nat} (hd : 1 ≤ d) (F : Nat) (a0 : Nat) (a1 : Int32) (hp : List mE) (v : Int32) (hp' : List mE) (ra0 : a0 < hp.length) (h : e184 F a0 a1 hp = some (v, hp')) : Rn d 184 0 (lv_args 0 [.ref a0, .int a1]) [] hp 0 0 (some (.int v), hp', 0, 0) :=
  t184_0 (n := hp.length) hd F a0 a1 (lv_args 0 [.ref a0, .int a1]) hp v hp' rfl rfl (lvk_args (okc (okr ra0) (okc rfl okn))) rfl ra0 h
/-! MirrorRootsModel.downOf -/
def m185_33 (F : Nat) (rc2 : Nat → Int32 → Int32 → List mE → Option (Int32 × List mE)) (v0 : Nat) (v1 : Int32) (v2 : Int32) (hp : List mE) : Option (Int32 × List mE) :=
  rc2 v0 v1 (v2 + 1) hp
theorem t185_33 {d c w n : Nat} (hd : 1 ≤ d) (F : Nat) {rc2 : Nat → Int32 → Int32 → List mE → Option (Int32 × List mE)} (hr2 : ∀ (v0 : Nat) (v1 : Int32) (v2 : Int32) (lv : List (Nat × Value)) (hp : List mE) (v : Int32) (hp' : List mE), alk 0 lv = some (.ref v0) → alk 1 lv = some (.int v1) → alk 2 lv = some (.int v2) → lvk n lv → hp.length = n → v0 < n → rc2 v0 v1 v2 hp = some (v, hp') → Rn d 185 2 lv [] hp c w (some (.int v), hp', c, w)) : ∀ (v0 : Nat) (v1 : Int32) (v2 : Int32) (lv : List (Nat × Value)) (hp : List mE) (v : Int32) (hp' : List mE), alk 0 lv = some (.ref v0) → alk 1 lv = some (.int v1) → alk 2 lv = some (.int v2) → lvk n lv → hp.length = n → v0 < n → m185_33 F rc2 v0 v1 v2 hp = some (v, hp') → Rn d 185 33 lv [] hp c w (some (.int v), hp', c, w) := by
  obtain ⟨d', rfl⟩ : ∃ d', d = d' + 1 := ⟨d - 1, by omega⟩
  intro v0 v1 v2 lv hp v hp' l0 l1 l2 ok hn r_v0 h
  unfold m185_33 at h
  refine Rn.ii (m := n) (u := 1) n185_33 ml185 (by decide) (by decide) l2 (fun lv l2 hk hok => ?_)
  have l0 := hk 0 _ (by decide) (Or.inl rfl) l0
  have l1 := hk 1 _ (by decide) (Or.inl rfl) l1
  have ok := hok ok
  refine Rn.goto (t := 2) n185_36 (by decide) ?_
  exact hr2 _ _ _ lv _ _ _ l0 l1 l2 ok hn r_v0  h
def m185_2 (F : Nat) : Nat → Nat → Int32 → Int32 → List mE → Option (Int32 × List mE)
  | 0, _, _, _, _ => none
  | f + 1, v0, v1, v2, hp =>
    (gfi 11 0 hp v0).bind fun x1 =>
    if mc2 .ge v2 x1 = true then
      some ((-1), hp)
    else
      if mc2 .ne ((v1 >>> (v2 &&& 31)) &&& 1) 1 = true then
        m185_33 F (m185_2 F f) v0 v1 v2 hp
      else
        (gfr 11 13 hp v0).bind fun x4 =>
        (e157 F x4 0 v2 hp).bind fun q5 =>
        if mc1 .eq q5.1 = true then
          m185_33 F (m185_2 F f) v0 v1 v2 q5.2
        else
          some (v2, q5.2)
theorem t185_2 {d c w n : Nat} (hd : 1 ≤ d) (F : Nat) : ∀ f : Nat, ∀ (v0 : Nat) (v1 : Int32) (v2 : Int32) (lv : List (Nat × Value)) (hp : List mE) (v : Int32) (hp' : List mE), alk 0 lv = some (.ref v0) → alk 1 lv = some (.int v1) → alk 2 lv = some (.int v2) → lvk n lv → hp.length = n → v0 < n → m185_2 F f v0 v1 v2 hp = some (v, hp') → Rn d 185 2 lv [] hp c w (some (.int v), hp', c, w) := by
  obtain ⟨d', rfl⟩ : ∃ d', d = d' + 1 := ⟨d - 1, by omega⟩
  intro f
  induction f with
  | zero => intro v0 v1 v2 lv hp v hp' l0 l1 l2 ok hn r_v0 h; cases h
  | succ f hr2 =>
    intro v0 v1 v2 lv hp v hp' l0 l1 l2 ok hn r_v0 h
    unfold m185_2 at h
    refine Rn.iload_n n185_2 l2 ?_
    refine Rn.aload_n n185_3 l0 ?_
    obtain ⟨x1, hx1, h⟩ := Option.bind_eq_some_iff.mp h
    refine Rn.gf n185_4 mo185 fl11_7 (gfi_v hx1) ?_
    by_cases hc2 : mc2 .ge v2 x1 = true
    · rw [if_pos hc2] at h
      refine Rn.c2t (t := 39) n185_7 (by decide) hc2 ?_
      refine Rn.ic (v := (-1)) n185_39 (by decide) ?_
      have e1 := (Prod.mk.inj (Option.some.inj h)).1
      have e2 := (Prod.mk.inj (Option.some.inj h)).2
      subst e1
      subst e2
      exact Rn.iret n185_40 mr185
    · rw [if_neg hc2] at h
      refine Rn.c2f (t := 39) n185_7 (by decide) hc2 ?_
      refine Rn.iload_n n185_10 l1 ?_
      refine Rn.iload_n n185_11 l2 ?_
      refine Rn.p n185_12 rfl ?_
      refine Rn.ic (v := 1) n185_13 (by decide) ?_
      refine Rn.p n185_14 rfl ?_
      refine Rn.ic (v := 1) n185_15 (by decide) ?_
      by_cases hc3 : mc2 .ne ((v1 >>> (v2 &&& 31)) &&& 1) 1 = true
      · rw [if_pos hc3] at h
        refine Rn.c2t (t := 33) n185_16 (by decide) hc3 ?_
        exact t185_33 hd F hr2 _ _ _ lv _ _ _ l0 l1 l2 ok hn r_v0  h
      · rw [if_neg hc3] at h
        refine Rn.c2f (t := 33) n185_16 (by decide) hc3 ?_
        refine Rn.aload_n n185_19 l0 ?_
        obtain ⟨x4, hx4, h⟩ := Option.bind_eq_some_iff.mp h
        refine Rn.gf n185_20 mo185 fl11_33 (gfr_v hx4).1 ?_
        have r_x4 : x4 < n := by rw [← hn]; exact (gfr_v hx4).2
        refine Rn.ic (v := 0) n185_23 (by decide) ?_
        refine Rn.iload_n n185_24 l2 ?_
        obtain ⟨q5, hq5, h⟩ := Option.bind_eq_some_iff.mp h
        have gq5 := c157 (d := d') (by omega) F _ _ _ _ _ _ (by rw [hn]; exact r_x4) hq5
        refine Rn.cs (as := [.ref x4, .int 0, .int v2]) (rr := []) n185_25 mo185 mm11_194 mq157 rfl rfl rfl rfl (Nat.le_of_ble_eq_true rfl) (by rw [hn]; exact (okc (okr r_x4) (okc rfl (okc rfl okn)))) (by rw [hn]; exact okn) (by rw [hn]; exact ok) (by rw [ml157]; exact Nat.le_of_ble_eq_true rfl) gq5 ?_
        have hn := (Rn.len gq5).trans hn
        show Rn _ 185 28 lv [.int q5.1] q5.2 c w _
        by_cases hc6 : mc1 .eq q5.1 = true
        · rw [if_pos hc6] at h
          refine Rn.c1t (t := 33) n185_28 (by decide) hc6 ?_
          exact t185_33 hd F hr2 _ _ _ lv _ _ _ l0 l1 l2 ok hn r_v0  h
        · rw [if_neg hc6] at h
          refine Rn.c1f (t := 33) n185_28 (by decide) hc6 ?_
          refine Rn.iload_n n185_31 l2 ?_
          have e1 := (Prod.mk.inj (Option.some.inj h)).1
          have e2 := (Prod.mk.inj (Option.some.inj h)).2
          subst e1
          subst e2
          exact Rn.iret n185_32 mr185
def m185_0 (F : Nat) (v0 : Nat) (v1 : Int32) (hp : List mE) : Option (Int32 × List mE) :=
  m185_2 F F v0 v1 0 hp
theorem t185_0 {d c w n : Nat} (hd : 1 ≤ d) (F : Nat) : ∀ (v0 : Nat) (v1 : Int32) (lv : List (Nat × Value)) (hp : List mE) (v : Int32) (hp' : List mE), alk 0 lv = some (.ref v0) → alk 1 lv = some (.int v1) → lvk n lv → hp.length = n → v0 < n → m185_0 F v0 v1 hp = some (v, hp') → Rn d 185 0 lv [] hp c w (some (.int v), hp', c, w) := by
  obtain ⟨d', rfl⟩ : ∃ d', d = d' + 1 := ⟨d - 1, by omega⟩
  intro v0 v1 lv hp v hp' l0 l1 ok hn r_v0 h
  unfold m185_0 at h
  refine Rn.ic (v := 0) n185_0 (by decide) ?_
  refine Rn.isn (m := n) n185_1 rfl ml185 (by decide) (fun lv l2 hk hok => ?_)
  have l0 := hk 0 _ (by decide) (Or.inl rfl) l0
  have l1 := hk 1 _ (by decide) (Or.inl rfl) l1
  have ok := hok ok
  exact t185_2 hd F  F _ _ _ lv _ _ _ l0 l1 l2 ok hn r_v0  h
def e185 (F : Nat) (a0 : Nat) (a1 : Int32) (hp : List mE) : Option (Int32 × List mE) := m185_0 F a0 a1 hp
theorem c185 {d : Nat} (hd : 1 ≤ d) (F : Nat) (a0 : Nat) (a1 : Int32) (hp : List mE) (v : Int32) (hp' : List mE) (ra0 : a0 < hp.length) (h : e185 F a0 a1 hp = some (v, hp')) : Rn d 185 0 (lv_args 0 [.ref a0, .int a1]) [] hp 0 0 (some (.int v), hp', 0, 0) :=
  t185_0 (n := hp.length) hd F a0 a1 (lv_args 0 [.ref a0, .int a1]) hp v hp' rfl rfl (lvk_args (okc (okr ra0) (okc rfl okn))) rfl ra0 h
/-! MirrorRootsModel.coset -/
def m186_155 (F : Nat) (v0 : Nat) (hp : List mE) : Option (Int32 × List mE) :=
  (rcv 11 hp v0).bind fun u2 =>
  (e163 F v0 hp).bind fun q1 =>
  some (q1.1, q1.2)
theorem t186_155 {d c w n : Nat} (hd : 4 ≤ d) (F : Nat) : ∀ (v0 : Nat) (lv : List (Nat × Value)) (hp : List mE) (v : Int32) (hp' : List mE), alk 0 lv = some (.ref v0) → lvk n lv → hp.length = n → v0 < n → m186_155 F v0 hp = some (v, hp') → Rn d 186 155 lv [] hp c w (some (.int v), hp', c, w) := by
  obtain ⟨d', rfl⟩ : ∃ d', d = d' + 1 := ⟨d - 1, by omega⟩
  intro v0 lv hp v hp' l0 ok hn r_v0 h
  unfold m186_155 at h
  refine Rn.aload_n n186_155 l0 ?_
  obtain ⟨u2, hu2, h⟩ := Option.bind_eq_some_iff.mp h
  obtain ⟨q1, hq1, h⟩ := Option.bind_eq_some_iff.mp h
  have gq1 := c163 (d := d') (by omega) F _ _ _ _ (by rw [hn]; exact r_v0) hq1
  refine Rn.cv (As := []) (rr := []) n186_156 mo186 mm11_219 (by decide) mq163 rfl rfl rfl rfl (by rw [mo163]; exact hu2) (Nat.le_of_ble_eq_true rfl) (by rw [hn]; exact (okc (okr r_v0) okn)) (by rw [hn]; exact okn) (by rw [hn]; exact ok) (by rw [ml163]; exact Nat.le_of_ble_eq_true rfl) gq1 ?_
  have hn := (Rn.len gq1).trans hn
  show Rn _ 186 159 lv [.int q1.1] q1.2 c w _
  have e1 := (Prod.mk.inj (Option.some.inj h)).1
  have e2 := (Prod.mk.inj (Option.some.inj h)).2
  subst e1
  subst e2
  exact Rn.iret n186_159 mr186
def m186_133 (F : Nat) : Nat → Nat → Int32 → List mE → Option (Int32 × List mE)
  | 0, _, _, _ => none
  | f + 1, v0, v6, hp =>
    if mc1 .lt v6 = true then
      m186_155 F v0 hp
    else
      (gfr 11 26 hp v0).bind fun x2 =>
      (rdI hp x2 v6).bind fun x3 =>
      (rcv 11 hp v0).bind fun u5 =>
      (e164 F v0 x3 hp).bind fun q4 =>
      m186_133 F f v0 (v6 + (-1)) q4.2
theorem t186_133 {d c w n : Nat} (hd : 4 ≤ d) (F : Nat) : ∀ f : Nat, ∀ (v0 : Nat) (v6 : Int32) (lv : List (Nat × Value)) (hp : List mE) (v : Int32) (hp' : List mE), alk 0 lv = some (.ref v0) → alk 6 lv = some (.int v6) → lvk n lv → hp.length = n → v0 < n → m186_133 F f v0 v6 hp = some (v, hp') → Rn d 186 133 lv [] hp c w (some (.int v), hp', c, w) := by
  obtain ⟨d', rfl⟩ : ∃ d', d = d' + 1 := ⟨d - 1, by omega⟩
  intro f
  induction f with
  | zero => intro v0 v6 lv hp v hp' l0 l6 ok hn r_v0 h; cases h
  | succ f hr133 =>
    intro v0 v6 lv hp v hp' l0 l6 ok hn r_v0 h
    unfold m186_133 at h
    refine Rn.iload n186_133 l6 ?_
    by_cases hc1 : mc1 .lt v6 = true
    · rw [if_pos hc1] at h
      refine Rn.c1t (t := 155) n186_135 (by decide) hc1 ?_
      exact t186_155 hd F  _ lv _ _ _ l0 ok hn r_v0  h
    · rw [if_neg hc1] at h
      refine Rn.c1f (t := 155) n186_135 (by decide) hc1 ?_
      refine Rn.aload_n n186_138 l0 ?_
      refine Rn.aload_n n186_139 l0 ?_
      obtain ⟨x2, hx2, h⟩ := Option.bind_eq_some_iff.mp h
      refine Rn.gf n186_140 mo186 fl11_65 (gfr_v hx2).1 ?_
      have r_x2 : x2 < n := by rw [← hn]; exact (gfr_v hx2).2
      refine Rn.iload n186_143 l6 ?_
      obtain ⟨x3, hx3, h⟩ := Option.bind_eq_some_iff.mp h
      refine Rn.iald n186_145 hx3 ?_
      obtain ⟨u5, hu5, h⟩ := Option.bind_eq_some_iff.mp h
      obtain ⟨q4, hq4, h⟩ := Option.bind_eq_some_iff.mp h
      have gq4 := c164 (d := d') (by omega) F _ _ _ _ _ (by rw [hn]; exact r_v0) hq4
      refine Rn.cv (As := [.int x3]) (rr := []) n186_146 mo186 mm11_216 (by decide) mq164 rfl rfl rfl rfl (by rw [mo164]; exact hu5) (Nat.le_of_ble_eq_true rfl) (by rw [hn]; exact (okc (okr r_v0) (okc rfl okn))) (by rw [hn]; exact okn) (by rw [hn]; exact ok) (by rw [ml164]; exact Nat.le_of_ble_eq_true rfl) gq4 ?_
      have hn := (Rn.len gq4).trans hn
      show Rn _ 186 149 lv [] q4.2 c w _
      refine Rn.ii (m := n) (u := (-1)) n186_149 ml186 (by decide) (by decide) l6 (fun lv l6 hk hok => ?_)
      have l0 := hk 0 _ (by decide) (Or.inl rfl) l0
      have ok := hok ok
      refine Rn.goto (t := 133) n186_152 (by decide) ?_
      exact hr133 _ _ lv _ _ _ l0 l6 ok hn r_v0  h
def m186_100 (F : Nat) : Nat → Nat → Int32 → Int32 → List mE → Option (Int32 × List mE)
  | 0, _, _, _, _ => none
  | f + 1, v0, v4, v6, hp =>
    if mc2 .ge v6 v4 = true then
      m186_155 F v0 hp
    else
      (gfr 11 26 hp v0).bind fun x2 =>
      (rdI hp x2 v6).bind fun x3 =>
      (rcv 11 hp v0).bind fun u5 =>
      (e164 F v0 x3 hp).bind fun q4 =>
      m186_100 F f v0 v4 (v6 + 1) q4.2
theorem t186_100 {d c w n : Nat} (hd : 4 ≤ d) (F : Nat) : ∀ f : Nat, ∀ (v0 : Nat) (v4 : Int32) (v6 : Int32) (lv : List (Nat × Value)) (hp : List mE) (v : Int32) (hp' : List mE), alk 0 lv = some (.ref v0) → alk 4 lv = some (.int v4) → alk 6 lv = some (.int v6) → lvk n lv → hp.length = n → v0 < n → m186_100 F f v0 v4 v6 hp = some (v, hp') → Rn d 186 100 lv [] hp c w (some (.int v), hp', c, w) := by
  obtain ⟨d', rfl⟩ : ∃ d', d = d' + 1 := ⟨d - 1, by omega⟩
  intro f
  induction f with
  | zero => intro v0 v4 v6 lv hp v hp' l0 l4 l6 ok hn r_v0 h; cases h
  | succ f hr100 =>
    intro v0 v4 v6 lv hp v hp' l0 l4 l6 ok hn r_v0 h
    unfold m186_100 at h
    refine Rn.iload n186_100 l6 ?_
    refine Rn.iload n186_102 l4 ?_
    by_cases hc1 : mc2 .ge v6 v4 = true
    · rw [if_pos hc1] at h
      refine Rn.c2t (t := 124) n186_104 (by decide) hc1 ?_
      refine Rn.goto (t := 155) n186_124 (by decide) ?_
      exact t186_155 hd F  _ lv _ _ _ l0 ok hn r_v0  h
    · rw [if_neg hc1] at h
      refine Rn.c2f (t := 124) n186_104 (by decide) hc1 ?_
      refine Rn.aload_n n186_107 l0 ?_
      refine Rn.aload_n n186_108 l0 ?_
      obtain ⟨x2, hx2, h⟩ := Option.bind_eq_some_iff.mp h
      refine Rn.gf n186_109 mo186 fl11_65 (gfr_v hx2).1 ?_
      have r_x2 : x2 < n := by rw [← hn]; exact (gfr_v hx2).2
      refine Rn.iload n186_112 l6 ?_
      obtain ⟨x3, hx3, h⟩ := Option.bind_eq_some_iff.mp h
      refine Rn.iald n186_114 hx3 ?_
      obtain ⟨u5, hu5, h⟩ := Option.bind_eq_some_iff.mp h
      obtain ⟨q4, hq4, h⟩ := Option.bind_eq_some_iff.mp h
      have gq4 := c164 (d := d') (by omega) F _ _ _ _ _ (by rw [hn]; exact r_v0) hq4
      refine Rn.cv (As := [.int x3]) (rr := []) n186_115 mo186 mm11_216 (by decide) mq164 rfl rfl rfl rfl (by rw [mo164]; exact hu5) (Nat.le_of_ble_eq_true rfl) (by rw [hn]; exact (okc (okr r_v0) (okc rfl okn))) (by rw [hn]; exact okn) (by rw [hn]; exact ok) (by rw [ml164]; exact Nat.le_of_ble_eq_true rfl) gq4 ?_
      have hn := (Rn.len gq4).trans hn
      show Rn _ 186 118 lv [] q4.2 c w _
      refine Rn.ii (m := n) (u := 1) n186_118 ml186 (by decide) (by decide) l6 (fun lv l6 hk hok => ?_)
      have l0 := hk 0 _ (by decide) (Or.inl rfl) l0
      have l4 := hk 4 _ (by decide) (Or.inl rfl) l4
      have ok := hok ok
      refine Rn.goto (t := 100) n186_121 (by decide) ?_
      exact hr100 _ _ _ lv _ _ _ l0 l4 l6 ok hn r_v0  h
def m186_50 (F : Nat) : Nat → Nat → Int32 → Int32 → Int32 → Int32 → Int32 → List mE → Option (Int32 × List mE)
  | 0, _, _, _, _, _, _, _ => none
  | f + 1, v0, v1, v2, v3, v4, v5, hp =>
    if mc1 .lt v5 = true then
      (pfv 11 15 hp v0 (.int 0)).bind fun hp2 =>
      if mc1 .ne v3 = true then
        m186_133 F F v0 (v4 - 1) hp2
      else
        (rcv 11 hp2 v0).bind fun u5 =>
        (e165 F v0 v1 hp2).bind fun q4 =>
        m186_100 F F v0 v4 0 q4.2
    else
      (gfr 11 26 hp v0).bind fun x6 =>
      (wrI hp x6 v4 v5).bind fun hp7 =>
      (rcv 11 hp7 v0).bind fun u9 =>
      (e156 F v0 v5 hp7).bind fun q8 =>
      (rcv 11 q8.2 v0).bind fun u11 =>
      (e185 F v0 v2 q8.2).bind fun q10 =>
      m186_50 F f v0 v1 v2 v3 (v4 + 1) q10.1 q10.2
theorem t186_50 {d c w n : Nat} (hd : 4 ≤ d) (F : Nat) : ∀ f : Nat, ∀ (v0 : Nat) (v1 : Int32) (v2 : Int32) (v3 : Int32) (v4 : Int32) (v5 : Int32) (lv : List (Nat × Value)) (hp : List mE) (v : Int32) (hp' : List mE), alk 0 lv = some (.ref v0) → alk 1 lv = some (.int v1) → alk 2 lv = some (.int v2) → alk 3 lv = some (.int v3) → alk 4 lv = some (.int v4) → alk 5 lv = some (.int v5) → lvk n lv → hp.length = n → v0 < n → m186_50 F f v0 v1 v2 v3 v4 v5 hp = some (v, hp') → Rn d 186 50 lv [] hp c w (some (.int v), hp', c, w) := by
  obtain ⟨d', rfl⟩ : ∃ d', d = d' + 1 := ⟨d - 1, by omega⟩
  intro f
  induction f with
  | zero => intro v0 v1 v2 v3 v4 v5 lv hp v hp' l0 l1 l2 l3 l4 l5 ok hn r_v0 h; cases h
  | succ f hr50 =>
    intro v0 v1 v2 v3 v4 v5 lv hp v hp' l0 l1 l2 l3 l4 l5 ok hn r_v0 h
    unfold m186_50 at h
    refine Rn.iload n186_50 l5 ?_
    by_cases hc1 : mc1 .lt v5 = true
    · rw [if_pos hc1] at h
      refine Rn.c1t (t := 83) n186_52 (by decide) hc1 ?_
      refine Rn.aload_n n186_83 l0 ?_
      refine Rn.ic (v := 0) n186_84 (by decide) ?_
      obtain ⟨hp2, hhp2, h⟩ := Option.bind_eq_some_iff.mp h
      refine Rn.pf n186_85 mo186 fl11_201 ft11_15 rfl ff11_15 (fun _ _ hh => by cases hh) hhp2 ?_
      have hn := (pfv_len hhp2).trans hn
      refine Rn.iload_n n186_88 l3 ?_
      by_cases hc3 : mc1 .ne v3 = true
      · rw [if_pos hc3] at h
        refine Rn.c1t (t := 127) n186_89 (by decide) hc3 ?_
        refine Rn.iload n186_127 l4 ?_
        refine Rn.ic (v := 1) n186_129 (by decide) ?_
        refine Rn.p n186_130 rfl ?_
        refine Rn.is (m := n) n186_131 ml186 (by decide) (fun lv l6 hk hok => ?_)
        have l0 := hk 0 _ (by decide) (Or.inl rfl) l0
        have l1 := hk 1 _ (by decide) (Or.inl rfl) l1
        have l2 := hk 2 _ (by decide) (Or.inl rfl) l2
        have l3 := hk 3 _ (by decide) (Or.inl rfl) l3
        have l4 := hk 4 _ (by decide) (Or.inl rfl) l4
        have l5 := hk 5 _ (by decide) (Or.inl rfl) l5
        have ok := hok ok
        exact t186_133 hd F  F _ _ lv _ _ _ l0 l6 ok hn r_v0  h
      · rw [if_neg hc3] at h
        refine Rn.c1f (t := 127) n186_89 (by decide) hc3 ?_
        refine Rn.aload_n n186_92 l0 ?_
        refine Rn.iload_n n186_93 l1 ?_
        obtain ⟨u5, hu5, h⟩ := Option.bind_eq_some_iff.mp h
        obtain ⟨q4, hq4, h⟩ := Option.bind_eq_some_iff.mp h
        have gq4 := c165 (d := d') (by omega) F _ _ _ _ _ (by rw [hn]; exact r_v0) hq4
        refine Rn.cv (As := [.int v1]) (rr := []) n186_94 mo186 mm11_233 (by decide) mq165 rfl rfl rfl rfl (by rw [mo165]; exact hu5) (Nat.le_of_ble_eq_true rfl) (by rw [hn]; exact (okc (okr r_v0) (okc rfl okn))) (by rw [hn]; exact okn) (by rw [hn]; exact ok) (by rw [ml165]; exact Nat.le_of_ble_eq_true rfl) gq4 ?_
        have hn := (Rn.len gq4).trans hn
        show Rn _ 186 97 lv [] q4.2 c w _
        refine Rn.ic (v := 0) n186_97 (by decide) ?_
        refine Rn.is (m := n) n186_98 ml186 (by decide) (fun lv l6 hk hok => ?_)
        have l0 := hk 0 _ (by decide) (Or.inl rfl) l0
        have l1 := hk 1 _ (by decide) (Or.inl rfl) l1
        have l2 := hk 2 _ (by decide) (Or.inl rfl) l2
        have l3 := hk 3 _ (by decide) (Or.inl rfl) l3
        have l4 := hk 4 _ (by decide) (Or.inl rfl) l4
        have l5 := hk 5 _ (by decide) (Or.inl rfl) l5
        have ok := hok ok
        exact t186_100 hd F  F _ _ _ lv _ _ _ l0 l4 l6 ok hn r_v0  h
    · rw [if_neg hc1] at h
      refine Rn.c1f (t := 83) n186_52 (by decide) hc1 ?_
      refine Rn.aload_n n186_55 l0 ?_
      obtain ⟨x6, hx6, h⟩ := Option.bind_eq_some_iff.mp h
      refine Rn.gf n186_56 mo186 fl11_65 (gfr_v hx6).1 ?_
      have r_x6 : x6 < n := by rw [← hn]; exact (gfr_v hx6).2
      refine Rn.iload n186_59 l4 ?_
      refine Rn.iload n186_61 l5 ?_
      obtain ⟨hp7, hhp7, h⟩ := Option.bind_eq_some_iff.mp h
      refine Rn.iast n186_63 hhp7 ?_
      have hn := (wrI_st (st := []) hhp7).2.trans hn
      refine Rn.ii (m := n) (u := 1) n186_64 ml186 (by decide) (by decide) l4 (fun lv l4 hk hok => ?_)
      have l0 := hk 0 _ (by decide) (Or.inl rfl) l0
      have l1 := hk 1 _ (by decide) (Or.inl rfl) l1
      have l2 := hk 2 _ (by decide) (Or.inl rfl) l2
      have l3 := hk 3 _ (by decide) (Or.inl rfl) l3
      have l5 := hk 5 _ (by decide) (Or.inl rfl) l5
      have ok := hok ok
      refine Rn.aload_n n186_67 l0 ?_
      refine Rn.iload n186_68 l5 ?_
      obtain ⟨u9, hu9, h⟩ := Option.bind_eq_some_iff.mp h
      obtain ⟨q8, hq8, h⟩ := Option.bind_eq_some_iff.mp h
      have gq8 := c156 (d := d') (by omega) F _ _ _ _ _ (by rw [hn]; exact r_v0) hq8
      refine Rn.cv (As := [.int v5]) (rr := []) n186_70 mo186 mm11_204 (by decide) mq156 rfl rfl rfl rfl (by rw [mo156]; exact hu9) (Nat.le_of_ble_eq_true rfl) (by rw [hn]; exact (okc (okr r_v0) (okc rfl okn))) (by rw [hn]; exact okn) (by rw [hn]; exact ok) (by rw [ml156]; exact Nat.le_of_ble_eq_true rfl) gq8 ?_
      have hn := (Rn.len gq8).trans hn
      show Rn _ 186 73 lv [] q8.2 c w _
      refine Rn.aload_n n186_73 l0 ?_
      refine Rn.iload_n n186_74 l2 ?_
      obtain ⟨u11, hu11, h⟩ := Option.bind_eq_some_iff.mp h
      obtain ⟨q10, hq10, h⟩ := Option.bind_eq_some_iff.mp h
      have gq10 := c185 (d := d') (by omega) F _ _ _ _ _ (by rw [hn]; exact r_v0) hq10
      refine Rn.cv (As := [.int v2]) (rr := []) n186_75 mo186 mm11_260 (by decide) mq185 rfl rfl rfl rfl (by rw [mo185]; exact hu11) (Nat.le_of_ble_eq_true rfl) (by rw [hn]; exact (okc (okr r_v0) (okc rfl okn))) (by rw [hn]; exact okn) (by rw [hn]; exact ok) (by rw [ml185]; exact Nat.le_of_ble_eq_true rfl) gq10 ?_
      have hn := (Rn.len gq10).trans hn
      show Rn _ 186 78 lv [.int q10.1] q10.2 c w _
      refine Rn.is (m := n) n186_78 ml186 (by decide) (fun lv l5 hk hok => ?_)
      have l0 := hk 0 _ (by decide) (Or.inl rfl) l0
      have l1 := hk 1 _ (by decide) (Or.inl rfl) l1
      have l2 := hk 2 _ (by decide) (Or.inl rfl) l2
      have l3 := hk 3 _ (by decide) (Or.inl rfl) l3
      have l4 := hk 4 _ (by decide) (Or.inl rfl) l4
      have ok := hok ok
      refine Rn.goto (t := 50) n186_80 (by decide) ?_
      exact hr50 _ _ _ _ _ _ lv _ _ _ l0 l1 l2 l3 l4 l5 ok hn r_v0  h
def m186_30 (F : Nat) (hp : List mE) : Option (Int32 × List mE) :=
  some ((-1002), hp)
theorem t186_30 {d c w n : Nat} (hd : 4 ≤ d) (F : Nat) : ∀ (lv : List (Nat × Value)) (hp : List mE) (v : Int32) (hp' : List mE), lvk n lv → hp.length = n → m186_30 F hp = some (v, hp') → Rn d 186 30 lv [] hp c w (some (.int v), hp', c, w) := by
  obtain ⟨d', rfl⟩ : ∃ d', d = d' + 1 := ⟨d - 1, by omega⟩
  intro lv hp v hp' ok hn h
  unfold m186_30 at h
  refine Rn.sp (v := (-1002)) n186_30 (by decide) ?_
  have e1 := (Prod.mk.inj (Option.some.inj h)).1
  have e2 := (Prod.mk.inj (Option.some.inj h)).2
  subst e1
  subst e2
  exact Rn.iret n186_33 mr186
def m186_0 (F : Nat) (v0 : Nat) (v1 : Int32) (v2 : Int32) (v3 : Int32) (hp : List mE) : Option (Int32 × List mE) :=
  (rcv 11 hp v0).bind fun u2 =>
  (e160 F v0 v1 hp).bind fun q1 =>
  if mc1 .ne q1.1 = true then
    (rcv 11 q1.2 v0).bind fun u5 =>
    (e184 F v0 v2 q1.2).bind fun q4 =>
    if mc1 .eq q4.1 = true then
      m186_30 F q4.2
    else
      (e137 F v3.toInt64 0 1 q4.2).bind fun q7 =>
      if mc1 .ne q7.1 = true then
        (rcv 11 q7.2 v0).bind fun u10 =>
        (e169 F v0 v1 0 q7.2).bind fun q9 =>
        (rcv 11 q9.2 v0).bind fun u12 =>
        (e185 F v0 v2 q9.2).bind fun q11 =>
        m186_50 F F v0 v1 v2 v3 0 q11.1 q11.2
      else
        m186_30 F q7.2
  else
    some ((-1001), q1.2)
theorem t186_0 {d c w n : Nat} (hd : 4 ≤ d) (F : Nat) : ∀ (v0 : Nat) (v1 : Int32) (v2 : Int32) (v3 : Int32) (lv : List (Nat × Value)) (hp : List mE) (v : Int32) (hp' : List mE), alk 0 lv = some (.ref v0) → alk 1 lv = some (.int v1) → alk 2 lv = some (.int v2) → alk 3 lv = some (.int v3) → lvk n lv → hp.length = n → v0 < n → m186_0 F v0 v1 v2 v3 hp = some (v, hp') → Rn d 186 0 lv [] hp c w (some (.int v), hp', c, w) := by
  obtain ⟨d', rfl⟩ : ∃ d', d = d' + 1 := ⟨d - 1, by omega⟩
  intro v0 v1 v2 v3 lv hp v hp' l0 l1 l2 l3 ok hn r_v0 h
  unfold m186_0 at h
  refine Rn.aload_n n186_0 l0 ?_
  refine Rn.iload_n n186_1 l1 ?_
  obtain ⟨u2, hu2, h⟩ := Option.bind_eq_some_iff.mp h
  obtain ⟨q1, hq1, h⟩ := Option.bind_eq_some_iff.mp h
  have gq1 := c160 (d := d') (by omega) F _ _ _ _ _ (by rw [hn]; exact r_v0) hq1
  refine Rn.cv (As := [.int v1]) (rr := []) n186_2 mo186 mm11_222 (by decide) mq160 rfl rfl rfl rfl (by rw [mo160]; exact hu2) (Nat.le_of_ble_eq_true rfl) (by rw [hn]; exact (okc (okr r_v0) (okc rfl okn))) (by rw [hn]; exact okn) (by rw [hn]; exact ok) (by rw [ml160]; exact Nat.le_of_ble_eq_true rfl) gq1 ?_
  have hn := (Rn.len gq1).trans hn
  show Rn _ 186 5 lv [.int q1.1] q1.2 c w _
  by_cases hc3 : mc1 .ne q1.1 = true
  · rw [if_pos hc3] at h
    refine Rn.c1t (t := 12) n186_5 (by decide) hc3 ?_
    refine Rn.aload_n n186_12 l0 ?_
    refine Rn.iload_n n186_13 l2 ?_
    obtain ⟨u5, hu5, h⟩ := Option.bind_eq_some_iff.mp h
    obtain ⟨q4, hq4, h⟩ := Option.bind_eq_some_iff.mp h
    have gq4 := c184 (d := d') (by omega) F _ _ _ _ _ (by rw [hn]; exact r_v0) hq4
    refine Rn.cv (As := [.int v2]) (rr := []) n186_14 mo186 mm11_257 (by decide) mq184 rfl rfl rfl rfl (by rw [mo184]; exact hu5) (Nat.le_of_ble_eq_true rfl) (by rw [hn]; exact (okc (okr r_v0) (okc rfl okn))) (by rw [hn]; exact okn) (by rw [hn]; exact ok) (by rw [ml184]; exact Nat.le_of_ble_eq_true rfl) gq4 ?_
    have hn := (Rn.len gq4).trans hn
    show Rn _ 186 17 lv [.int q4.1] q4.2 c w _
    by_cases hc6 : mc1 .eq q4.1 = true
    · rw [if_pos hc6] at h
      refine Rn.c1t (t := 30) n186_17 (by decide) hc6 ?_
      exact t186_30 hd F  lv _ _ _  ok hn   h
    · rw [if_neg hc6] at h
      refine Rn.c1f (t := 30) n186_17 (by decide) hc6 ?_
      refine Rn.iload_n n186_20 l3 ?_
      refine Rn.p n186_21 rfl ?_
      refine Rn.lc (v := 0) n186_22 (by decide) ?_
      refine Rn.lc (v := 1) n186_23 (by decide) ?_
      obtain ⟨q7, hq7, h⟩ := Option.bind_eq_some_iff.mp h
      have gq7 := c137 (d := d') (by omega) F _ _ _ _ _ _  hq7
      refine Rn.cs (as := [.long v3.toInt64, .long 0, .long 1]) (rr := []) n186_24 mo186 mm11_116 mq137 rfl rfl rfl rfl (Nat.le_of_ble_eq_true rfl) (by rw [hn]; exact (okc rfl (okc rfl (okc rfl okn)))) (by rw [hn]; exact okn) (by rw [hn]; exact ok) (by rw [ml137]; exact Nat.le_of_ble_eq_true rfl) gq7 ?_
      have hn := (Rn.len gq7).trans hn
      show Rn _ 186 27 lv [.int q7.1] q7.2 c w _
      by_cases hc8 : mc1 .ne q7.1 = true
      · rw [if_pos hc8] at h
        refine Rn.c1t (t := 34) n186_27 (by decide) hc8 ?_
        refine Rn.aload_n n186_34 l0 ?_
        refine Rn.iload_n n186_35 l1 ?_
        refine Rn.ic (v := 0) n186_36 (by decide) ?_
        obtain ⟨u10, hu10, h⟩ := Option.bind_eq_some_iff.mp h
        obtain ⟨q9, hq9, h⟩ := Option.bind_eq_some_iff.mp h
        have gq9 := c169 (d := d') (by omega) F _ _ _ _ _ _ (by rw [hn]; exact r_v0) hq9
        refine Rn.cv (As := [.int v1, .int 0]) (rr := []) n186_37 mo186 mm11_225 (by decide) mq169 rfl rfl rfl rfl (by rw [mo169]; exact hu10) (Nat.le_of_ble_eq_true rfl) (by rw [hn]; exact (okc (okr r_v0) (okc rfl (okc rfl okn)))) (by rw [hn]; exact okn) (by rw [hn]; exact ok) (by rw [ml169]; exact Nat.le_of_ble_eq_true rfl) gq9 ?_
        have hn := (Rn.len gq9).trans hn
        show Rn _ 186 40 lv [] q9.2 c w _
        refine Rn.ic (v := 0) n186_40 (by decide) ?_
        refine Rn.is (m := n) n186_41 ml186 (by decide) (fun lv l4 hk hok => ?_)
        have l0 := hk 0 _ (by decide) (Or.inl rfl) l0
        have l1 := hk 1 _ (by decide) (Or.inl rfl) l1
        have l2 := hk 2 _ (by decide) (Or.inl rfl) l2
        have l3 := hk 3 _ (by decide) (Or.inl rfl) l3
        have ok := hok ok
        refine Rn.aload_n n186_43 l0 ?_
        refine Rn.iload_n n186_44 l2 ?_
        obtain ⟨u12, hu12, h⟩ := Option.bind_eq_some_iff.mp h
        obtain ⟨q11, hq11, h⟩ := Option.bind_eq_some_iff.mp h
        have gq11 := c185 (d := d') (by omega) F _ _ _ _ _ (by rw [hn]; exact r_v0) hq11
        refine Rn.cv (As := [.int v2]) (rr := []) n186_45 mo186 mm11_260 (by decide) mq185 rfl rfl rfl rfl (by rw [mo185]; exact hu12) (Nat.le_of_ble_eq_true rfl) (by rw [hn]; exact (okc (okr r_v0) (okc rfl okn))) (by rw [hn]; exact okn) (by rw [hn]; exact ok) (by rw [ml185]; exact Nat.le_of_ble_eq_true rfl) gq11 ?_
        have hn := (Rn.len gq11).trans hn
        show Rn _ 186 48 lv [.int q11.1] q11.2 c w _
        refine Rn.is (m := n) n186_48 ml186 (by decide) (fun lv l5 hk hok => ?_)
        have l0 := hk 0 _ (by decide) (Or.inl rfl) l0
        have l1 := hk 1 _ (by decide) (Or.inl rfl) l1
        have l2 := hk 2 _ (by decide) (Or.inl rfl) l2
        have l3 := hk 3 _ (by decide) (Or.inl rfl) l3
        have l4 := hk 4 _ (by decide) (Or.inl rfl) l4
        have ok := hok ok
        exact t186_50 hd F  F _ _ _ _ _ _ lv _ _ _ l0 l1 l2 l3 l4 l5 ok hn r_v0  h
      · rw [if_neg hc8] at h
        refine Rn.c1f (t := 34) n186_27 (by decide) hc8 ?_
        exact t186_30 hd F  lv _ _ _  ok hn   h
  · rw [if_neg hc3] at h
    refine Rn.c1f (t := 12) n186_5 (by decide) hc3 ?_
    refine Rn.sp (v := (-1001)) n186_8 (by decide) ?_
    have e1 := (Prod.mk.inj (Option.some.inj h)).1
    have e2 := (Prod.mk.inj (Option.some.inj h)).2
    subst e1
    subst e2
    exact Rn.iret n186_11 mr186
def e186 (F : Nat) (a0 : Nat) (a1 : Int32) (a2 : Int32) (a3 : Int32) (hp : List mE) : Option (Int32 × List mE) := m186_0 F a0 a1 a2 a3 hp
theorem c186 {d : Nat} (hd : 4 ≤ d) (F : Nat) (a0 : Nat) (a1 : Int32) (a2 : Int32) (a3 : Int32) (hp : List mE) (v : Int32) (hp' : List mE) (ra0 : a0 < hp.length) (h : e186 F a0 a1 a2 a3 hp = some (v, hp')) : Rn d 186 0 (lv_args 0 [.ref a0, .int a1, .int a2, .int a3]) [] hp 0 0 (some (.int v), hp', 0, 0) :=
  t186_0 (n := hp.length) hd F a0 a1 a2 a3 (lv_args 0 [.ref a0, .int a1, .int a2, .int a3]) hp v hp' rfl rfl rfl rfl (lvk_args (okc (okr ra0) (okc rfl (okc rfl (okc rfl okn))))) rfl ra0 h
/-! MirrorRootsModel.reduce -/
def m187_36 (F : Nat) : Nat → Nat → Int32 → Int32 → List mE → Option (Unit × List mE)
  | 0, _, _, _, _ => none
  | f + 1, v0, v1, v2, hp =>
    if mc1 .lt v2 = true then
      (rcv 11 hp v0).bind fun u3 =>
      (e159 F v0 hp).bind fun q2 =>
      some ((), q2.2)
    else
      (rcv 11 hp v0).bind fun u5 =>
      (e164 F v0 v2 hp).bind fun q4 =>
      (rcv 11 q4.2 v0).bind fun u7 =>
      (e156 F v0 v2 q4.2).bind fun q6 =>
      (rcv 11 q6.2 v0).bind fun u9 =>
      (e185 F v0 v1 q6.2).bind fun q8 =>
      m187_36 F f v0 v1 q8.1 q8.2
theorem t187_36 {d c w n : Nat} (hd : 3 ≤ d) (F : Nat) : ∀ f : Nat, ∀ (v0 : Nat) (v1 : Int32) (v2 : Int32) (lv : List (Nat × Value)) (hp : List mE) (v : Unit) (hp' : List mE), alk 0 lv = some (.ref v0) → alk 1 lv = some (.int v1) → alk 2 lv = some (.int v2) → lvk n lv → hp.length = n → v0 < n → m187_36 F f v0 v1 v2 hp = some (v, hp') → Rn d 187 36 lv [] hp c w (none, hp', c, w) := by
  obtain ⟨d', rfl⟩ : ∃ d', d = d' + 1 := ⟨d - 1, by omega⟩
  intro f
  induction f with
  | zero => intro v0 v1 v2 lv hp v hp' l0 l1 l2 ok hn r_v0 h; cases h
  | succ f hr36 =>
    intro v0 v1 v2 lv hp v hp' l0 l1 l2 ok hn r_v0 h
    unfold m187_36 at h
    refine Rn.iload_n n187_36 l2 ?_
    by_cases hc1 : mc1 .lt v2 = true
    · rw [if_pos hc1] at h
      refine Rn.c1t (t := 59) n187_37 (by decide) hc1 ?_
      refine Rn.aload_n n187_59 l0 ?_
      obtain ⟨u3, hu3, h⟩ := Option.bind_eq_some_iff.mp h
      obtain ⟨q2, hq2, h⟩ := Option.bind_eq_some_iff.mp h
      have gq2 := c159 (d := d') (by omega) F _ _ _ _ (by rw [hn]; exact r_v0) hq2
      refine Rn.cv (As := []) (rr := []) n187_60 mo187 mm11_210 (by decide) mq159 rfl rfl rfl rfl (by rw [mo159]; exact hu3) (Nat.le_of_ble_eq_true rfl) (by rw [hn]; exact (okc (okr r_v0) okn)) (by rw [hn]; exact okn) (by rw [hn]; exact ok) (by rw [ml159]; exact Nat.le_of_ble_eq_true rfl) gq2 ?_
      have hn := (Rn.len gq2).trans hn
      show Rn _ 187 63 lv [] q2.2 c w _
      have e1 := (Prod.mk.inj (Option.some.inj h)).1
      have e2 := (Prod.mk.inj (Option.some.inj h)).2
      subst e1
      subst e2
      exact Rn.vret n187_63 mr187
    · rw [if_neg hc1] at h
      refine Rn.c1f (t := 59) n187_37 (by decide) hc1 ?_
      refine Rn.aload_n n187_40 l0 ?_
      refine Rn.iload_n n187_41 l2 ?_
      obtain ⟨u5, hu5, h⟩ := Option.bind_eq_some_iff.mp h
      obtain ⟨q4, hq4, h⟩ := Option.bind_eq_some_iff.mp h
      have gq4 := c164 (d := d') (by omega) F _ _ _ _ _ (by rw [hn]; exact r_v0) hq4
      refine Rn.cv (As := [.int v2]) (rr := []) n187_42 mo187 mm11_216 (by decide) mq164 rfl rfl rfl rfl (by rw [mo164]; exact hu5) (Nat.le_of_ble_eq_true rfl) (by rw [hn]; exact (okc (okr r_v0) (okc rfl okn))) (by rw [hn]; exact okn) (by rw [hn]; exact ok) (by rw [ml164]; exact Nat.le_of_ble_eq_true rfl) gq4 ?_
      have hn := (Rn.len gq4).trans hn
      show Rn _ 187 45 lv [] q4.2 c w _
      refine Rn.aload_n n187_45 l0 ?_
      refine Rn.iload_n n187_46 l2 ?_
      obtain ⟨u7, hu7, h⟩ := Option.bind_eq_some_iff.mp h
      obtain ⟨q6, hq6, h⟩ := Option.bind_eq_some_iff.mp h
      have gq6 := c156 (d := d') (by omega) F _ _ _ _ _ (by rw [hn]; exact r_v0) hq6
      refine Rn.cv (As := [.int v2]) (rr := []) n187_47 mo187 mm11_204 (by decide) mq156 rfl rfl rfl rfl (by rw [mo156]; exact hu7) (Nat.le_of_ble_eq_true rfl) (by rw [hn]; exact (okc (okr r_v0) (okc rfl okn))) (by rw [hn]; exact okn) (by rw [hn]; exact ok) (by rw [ml156]; exact Nat.le_of_ble_eq_true rfl) gq6 ?_
      have hn := (Rn.len gq6).trans hn
      show Rn _ 187 50 lv [] q6.2 c w _
      refine Rn.aload_n n187_50 l0 ?_
      refine Rn.iload_n n187_51 l1 ?_
      obtain ⟨u9, hu9, h⟩ := Option.bind_eq_some_iff.mp h
      obtain ⟨q8, hq8, h⟩ := Option.bind_eq_some_iff.mp h
      have gq8 := c185 (d := d') (by omega) F _ _ _ _ _ (by rw [hn]; exact r_v0) hq8
      refine Rn.cv (As := [.int v1]) (rr := []) n187_52 mo187 mm11_260 (by decide) mq185 rfl rfl rfl rfl (by rw [mo185]; exact hu9) (Nat.le_of_ble_eq_true rfl) (by rw [hn]; exact (okc (okr r_v0) (okc rfl okn))) (by rw [hn]; exact okn) (by rw [hn]; exact ok) (by rw [ml185]; exact Nat.le_of_ble_eq_true rfl) gq8 ?_
      have hn := (Rn.len gq8).trans hn
      show Rn _ 187 55 lv [.int q8.1] q8.2 c w _
      refine Rn.isn (m := n) n187_55 rfl ml187 (by decide) (fun lv l2 hk hok => ?_)
      have l0 := hk 0 _ (by decide) (Or.inl rfl) l0
      have l1 := hk 1 _ (by decide) (Or.inl rfl) l1
      have ok := hok ok
      refine Rn.goto (t := 36) n187_56 (by decide) ?_
      exact hr36 _ _ _ lv _ _ _ l0 l1 l2 ok hn r_v0  h
def m187_6 (F : Nat) : Nat → Nat → Int32 → Int32 → List mE → Option (Unit × List mE)
  | 0, _, _, _, _ => none
  | f + 1, v0, v1, v2, hp =>
    (gfi 11 15 hp v0).bind fun x1 =>
    if mc2 .ge v2 x1 = true then
      (rcv 11 hp v0).bind fun u4 =>
      (e185 F v0 v1 hp).bind fun q3 =>
      m187_36 F F v0 v1 q3.1 q3.2
    else
      (gfr 11 14 hp v0).bind fun x5 =>
      (rdI hp x5 v2).bind fun x6 =>
      (rcv 11 hp v0).bind fun u8 =>
      (e156 F v0 x6 hp).bind fun q7 =>
      m187_6 F f v0 v1 (v2 + 1) q7.2
theorem t187_6 {d c w n : Nat} (hd : 3 ≤ d) (F : Nat) : ∀ f : Nat, ∀ (v0 : Nat) (v1 : Int32) (v2 : Int32) (lv : List (Nat × Value)) (hp : List mE) (v : Unit) (hp' : List mE), alk 0 lv = some (.ref v0) → alk 1 lv = some (.int v1) → alk 2 lv = some (.int v2) → lvk n lv → hp.length = n → v0 < n → m187_6 F f v0 v1 v2 hp = some (v, hp') → Rn d 187 6 lv [] hp c w (none, hp', c, w) := by
  obtain ⟨d', rfl⟩ : ∃ d', d = d' + 1 := ⟨d - 1, by omega⟩
  intro f
  induction f with
  | zero => intro v0 v1 v2 lv hp v hp' l0 l1 l2 ok hn r_v0 h; cases h
  | succ f hr6 =>
    intro v0 v1 v2 lv hp v hp' l0 l1 l2 ok hn r_v0 h
    unfold m187_6 at h
    refine Rn.iload_n n187_6 l2 ?_
    refine Rn.aload_n n187_7 l0 ?_
    obtain ⟨x1, hx1, h⟩ := Option.bind_eq_some_iff.mp h
    refine Rn.gf n187_8 mo187 fl11_201 (gfi_v hx1) ?_
    by_cases hc2 : mc2 .ge v2 x1 = true
    · rw [if_pos hc2] at h
      refine Rn.c2t (t := 30) n187_11 (by decide) hc2 ?_
      refine Rn.aload_n n187_30 l0 ?_
      refine Rn.iload_n n187_31 l1 ?_
      obtain ⟨u4, hu4, h⟩ := Option.bind_eq_some_iff.mp h
      obtain ⟨q3, hq3, h⟩ := Option.bind_eq_some_iff.mp h
      have gq3 := c185 (d := d') (by omega) F _ _ _ _ _ (by rw [hn]; exact r_v0) hq3
      refine Rn.cv (As := [.int v1]) (rr := []) n187_32 mo187 mm11_260 (by decide) mq185 rfl rfl rfl rfl (by rw [mo185]; exact hu4) (Nat.le_of_ble_eq_true rfl) (by rw [hn]; exact (okc (okr r_v0) (okc rfl okn))) (by rw [hn]; exact okn) (by rw [hn]; exact ok) (by rw [ml185]; exact Nat.le_of_ble_eq_true rfl) gq3 ?_
      have hn := (Rn.len gq3).trans hn
      show Rn _ 187 35 lv [.int q3.1] q3.2 c w _
      refine Rn.isn (m := n) n187_35 rfl ml187 (by decide) (fun lv l2 hk hok => ?_)
      have l0 := hk 0 _ (by decide) (Or.inl rfl) l0
      have l1 := hk 1 _ (by decide) (Or.inl rfl) l1
      have ok := hok ok
      exact t187_36 hd F  F _ _ _ lv _ _ _ l0 l1 l2 ok hn r_v0  h
    · rw [if_neg hc2] at h
      refine Rn.c2f (t := 30) n187_11 (by decide) hc2 ?_
      refine Rn.aload_n n187_14 l0 ?_
      refine Rn.aload_n n187_15 l0 ?_
      obtain ⟨x5, hx5, h⟩ := Option.bind_eq_some_iff.mp h
      refine Rn.gf n187_16 mo187 fl11_37 (gfr_v hx5).1 ?_
      have r_x5 : x5 < n := by rw [← hn]; exact (gfr_v hx5).2
      refine Rn.iload_n n187_19 l2 ?_
      obtain ⟨x6, hx6, h⟩ := Option.bind_eq_some_iff.mp h
      refine Rn.iald n187_20 hx6 ?_
      obtain ⟨u8, hu8, h⟩ := Option.bind_eq_some_iff.mp h
      obtain ⟨q7, hq7, h⟩ := Option.bind_eq_some_iff.mp h
      have gq7 := c156 (d := d') (by omega) F _ _ _ _ _ (by rw [hn]; exact r_v0) hq7
      refine Rn.cv (As := [.int x6]) (rr := []) n187_21 mo187 mm11_204 (by decide) mq156 rfl rfl rfl rfl (by rw [mo156]; exact hu8) (Nat.le_of_ble_eq_true rfl) (by rw [hn]; exact (okc (okr r_v0) (okc rfl okn))) (by rw [hn]; exact okn) (by rw [hn]; exact ok) (by rw [ml156]; exact Nat.le_of_ble_eq_true rfl) gq7 ?_
      have hn := (Rn.len gq7).trans hn
      show Rn _ 187 24 lv [] q7.2 c w _
      refine Rn.ii (m := n) (u := 1) n187_24 ml187 (by decide) (by decide) l2 (fun lv l2 hk hok => ?_)
      have l0 := hk 0 _ (by decide) (Or.inl rfl) l0
      have l1 := hk 1 _ (by decide) (Or.inl rfl) l1
      have ok := hok ok
      refine Rn.goto (t := 6) n187_27 (by decide) ?_
      exact hr6 _ _ _ lv _ _ _ l0 l1 l2 ok hn r_v0  h
def m187_0 (F : Nat) (v0 : Nat) (v1 : Int32) (hp : List mE) : Option (Unit × List mE) :=
  (rcv 11 hp v0).bind fun u2 =>
  (e154 F v0 hp).bind fun q1 =>
  m187_6 F F v0 v1 0 q1.2
theorem t187_0 {d c w n : Nat} (hd : 3 ≤ d) (F : Nat) : ∀ (v0 : Nat) (v1 : Int32) (lv : List (Nat × Value)) (hp : List mE) (v : Unit) (hp' : List mE), alk 0 lv = some (.ref v0) → alk 1 lv = some (.int v1) → lvk n lv → hp.length = n → v0 < n → m187_0 F v0 v1 hp = some (v, hp') → Rn d 187 0 lv [] hp c w (none, hp', c, w) := by
  obtain ⟨d', rfl⟩ : ∃ d', d = d' + 1 := ⟨d - 1, by omega⟩
  intro v0 v1 lv hp v hp' l0 l1 ok hn r_v0 h
  unfold m187_0 at h
  refine Rn.aload_n n187_0 l0 ?_
  obtain ⟨u2, hu2, h⟩ := Option.bind_eq_some_iff.mp h
  obtain ⟨q1, hq1, h⟩ := Option.bind_eq_some_iff.mp h
  have gq1 := c154 (d := d') (by omega) F _ _ _ _ (by rw [hn]; exact r_v0) hq1
  refine Rn.cv (As := []) (rr := []) n187_1 mo187 mm11_198 (by decide) mq154 rfl rfl rfl rfl (by rw [mo154]; exact hu2) (Nat.le_of_ble_eq_true rfl) (by rw [hn]; exact (okc (okr r_v0) okn)) (by rw [hn]; exact okn) (by rw [hn]; exact ok) (by rw [ml154]; exact Nat.le_of_ble_eq_true rfl) gq1 ?_
  have hn := (Rn.len gq1).trans hn
  show Rn _ 187 4 lv [] q1.2 c w _
  refine Rn.ic (v := 0) n187_4 (by decide) ?_
  refine Rn.isn (m := n) n187_5 rfl ml187 (by decide) (fun lv l2 hk hok => ?_)
  have l0 := hk 0 _ (by decide) (Or.inl rfl) l0
  have l1 := hk 1 _ (by decide) (Or.inl rfl) l1
  have ok := hok ok
  exact t187_6 hd F  F _ _ _ lv _ _ _ l0 l1 l2 ok hn r_v0  h
def e187 (F : Nat) (a0 : Nat) (a1 : Int32) (hp : List mE) : Option (Unit × List mE) := m187_0 F a0 a1 hp
theorem c187 {d : Nat} (hd : 3 ≤ d) (F : Nat) (a0 : Nat) (a1 : Int32) (hp : List mE) (v : Unit) (hp' : List mE) (ra0 : a0 < hp.length) (h : e187 F a0 a1 hp = some (v, hp')) : Rn d 187 0 (lv_args 0 [.ref a0, .int a1]) [] hp 0 0 (none, hp', 0, 0) :=
  t187_0 (n := hp.length) hd F a0 a1 (lv_args 0 [.ref a0, .int a1]) hp v hp' rfl rfl (lvk_args (okc (okr ra0) (okc rfl okn))) rfl ra0 h
/-! MirrorRootsModel.reverse -/
def m188_2 (F : Nat) : Nat → Nat → Int32 → List mE → Option (Unit × List mE)
  | 0, _, _, _ => none
  | f + 1, v0, v1, hp =>
    (gfi 11 15 hp v0).bind fun x1 =>
    if mc2 .ge v1 ((x1 - 1) - v1) = true then
      some ((), hp)
    else
      (gfr 11 14 hp v0).bind fun x3 =>
      (rdI hp x3 v1).bind fun x4 =>
      (gfr 11 14 hp v0).bind fun x5 =>
      (gfr 11 14 hp v0).bind fun x6 =>
      (gfi 11 15 hp v0).bind fun x7 =>
      (rdI hp x6 ((x7 - 1) - v1)).bind fun x8 =>
      (wrI hp x5 v1 x8).bind fun hp9 =>
      (gfr 11 14 hp9 v0).bind fun x10 =>
      (gfi 11 15 hp9 v0).bind fun x11 =>
      (wrI hp9 x10 ((x11 - 1) - v1) x4).bind fun hp12 =>
      m188_2 F f v0 (v1 + 1) hp12
theorem t188_2 {d c w n : Nat} (hd : 0 ≤ d) (F : Nat) : ∀ f : Nat, ∀ (v0 : Nat) (v1 : Int32) (lv : List (Nat × Value)) (hp : List mE) (v : Unit) (hp' : List mE), alk 0 lv = some (.ref v0) → alk 1 lv = some (.int v1) → lvk n lv → hp.length = n → v0 < n → m188_2 F f v0 v1 hp = some (v, hp') → Rn d 188 2 lv [] hp c w (none, hp', c, w) := by
  intro f
  induction f with
  | zero => intro v0 v1 lv hp v hp' l0 l1 ok hn r_v0 h; cases h
  | succ f hr2 =>
    intro v0 v1 lv hp v hp' l0 l1 ok hn r_v0 h
    unfold m188_2 at h
    refine Rn.iload_n n188_2 l1 ?_
    refine Rn.aload_n n188_3 l0 ?_
    obtain ⟨x1, hx1, h⟩ := Option.bind_eq_some_iff.mp h
    refine Rn.gf n188_4 mo188 fl11_201 (gfi_v hx1) ?_
    refine Rn.ic (v := 1) n188_7 (by decide) ?_
    refine Rn.p n188_8 rfl ?_
    refine Rn.iload_n n188_9 l1 ?_
    refine Rn.p n188_10 rfl ?_
    by_cases hc2 : mc2 .ge v1 ((x1 - 1) - v1) = true
    · rw [if_pos hc2] at h
      refine Rn.c2t (t := 60) n188_11 (by decide) hc2 ?_
      have e1 := (Prod.mk.inj (Option.some.inj h)).1
      have e2 := (Prod.mk.inj (Option.some.inj h)).2
      subst e1
      subst e2
      exact Rn.vret n188_60 mr188
    · rw [if_neg hc2] at h
      refine Rn.c2f (t := 60) n188_11 (by decide) hc2 ?_
      refine Rn.aload_n n188_14 l0 ?_
      obtain ⟨x3, hx3, h⟩ := Option.bind_eq_some_iff.mp h
      refine Rn.gf n188_15 mo188 fl11_37 (gfr_v hx3).1 ?_
      have r_x3 : x3 < n := by rw [← hn]; exact (gfr_v hx3).2
      refine Rn.iload_n n188_18 l1 ?_
      obtain ⟨x4, hx4, h⟩ := Option.bind_eq_some_iff.mp h
      refine Rn.iald n188_19 hx4 ?_
      refine Rn.isn (m := n) n188_20 rfl ml188 (by decide) (fun lv l2 hk hok => ?_)
      have l0 := hk 0 _ (by decide) (Or.inl rfl) l0
      have l1 := hk 1 _ (by decide) (Or.inl rfl) l1
      have ok := hok ok
      refine Rn.aload_n n188_21 l0 ?_
      obtain ⟨x5, hx5, h⟩ := Option.bind_eq_some_iff.mp h
      refine Rn.gf n188_22 mo188 fl11_37 (gfr_v hx5).1 ?_
      have r_x5 : x5 < n := by rw [← hn]; exact (gfr_v hx5).2
      refine Rn.iload_n n188_25 l1 ?_
      refine Rn.aload_n n188_26 l0 ?_
      obtain ⟨x6, hx6, h⟩ := Option.bind_eq_some_iff.mp h
      refine Rn.gf n188_27 mo188 fl11_37 (gfr_v hx6).1 ?_
      have r_x6 : x6 < n := by rw [← hn]; exact (gfr_v hx6).2
      refine Rn.aload_n n188_30 l0 ?_
      obtain ⟨x7, hx7, h⟩ := Option.bind_eq_some_iff.mp h
      refine Rn.gf n188_31 mo188 fl11_201 (gfi_v hx7) ?_
      refine Rn.ic (v := 1) n188_34 (by decide) ?_
      refine Rn.p n188_35 rfl ?_
      refine Rn.iload_n n188_36 l1 ?_
      refine Rn.p n188_37 rfl ?_
      obtain ⟨x8, hx8, h⟩ := Option.bind_eq_some_iff.mp h
      refine Rn.iald n188_38 hx8 ?_
      obtain ⟨hp9, hhp9, h⟩ := Option.bind_eq_some_iff.mp h
      refine Rn.iast n188_39 hhp9 ?_
      have hn := (wrI_st (st := []) hhp9).2.trans hn
      refine Rn.aload_n n188_40 l0 ?_
      obtain ⟨x10, hx10, h⟩ := Option.bind_eq_some_iff.mp h
      refine Rn.gf n188_41 mo188 fl11_37 (gfr_v hx10).1 ?_
      have r_x10 : x10 < n := by rw [← hn]; exact (gfr_v hx10).2
      refine Rn.aload_n n188_44 l0 ?_
      obtain ⟨x11, hx11, h⟩ := Option.bind_eq_some_iff.mp h
      refine Rn.gf n188_45 mo188 fl11_201 (gfi_v hx11) ?_
      refine Rn.ic (v := 1) n188_48 (by decide) ?_
      refine Rn.p n188_49 rfl ?_
      refine Rn.iload_n n188_50 l1 ?_
      refine Rn.p n188_51 rfl ?_
      refine Rn.iload_n n188_52 l2 ?_
      obtain ⟨hp12, hhp12, h⟩ := Option.bind_eq_some_iff.mp h
      refine Rn.iast n188_53 hhp12 ?_
      have hn := (wrI_st (st := []) hhp12).2.trans hn
      refine Rn.ii (m := n) (u := 1) n188_54 ml188 (by decide) (by decide) l1 (fun lv l1 hk hok => ?_)
      have l0 := hk 0 _ (by decide) (Or.inl rfl) l0
      have l2 := hk 2 _ (by decide) (Or.inl rfl) l2
      have ok := hok ok
      refine Rn.goto (t := 2) n188_57 (by decide) ?_
      exact hr2 _ _ lv _ _ _ l0 l1 ok hn r_v0  h
def m188_0 (F : Nat) (v0 : Nat) (hp : List mE) : Option (Unit × List mE) :=
  m188_2 F F v0 0 hp
theorem t188_0 {d c w n : Nat} (hd : 0 ≤ d) (F : Nat) : ∀ (v0 : Nat) (lv : List (Nat × Value)) (hp : List mE) (v : Unit) (hp' : List mE), alk 0 lv = some (.ref v0) → lvk n lv → hp.length = n → v0 < n → m188_0 F v0 hp = some (v, hp') → Rn d 188 0 lv [] hp c w (none, hp', c, w) := by
  intro v0 lv hp v hp' l0 ok hn r_v0 h
  unfold m188_0 at h
  refine Rn.ic (v := 0) n188_0 (by decide) ?_
  refine Rn.isn (m := n) n188_1 rfl ml188 (by decide) (fun lv l1 hk hok => ?_)
  have l0 := hk 0 _ (by decide) (Or.inl rfl) l0
  have ok := hok ok
  exact t188_2 hd F  F _ _ lv _ _ _ l0 l1 ok hn r_v0  h
def e188 (F : Nat) (a0 : Nat) (hp : List mE) : Option (Unit × List mE) := m188_0 F a0 hp
theorem c188 {d : Nat} (hd : 0 ≤ d) (F : Nat) (a0 : Nat) (hp : List mE) (v : Unit) (hp' : List mE) (ra0 : a0 < hp.length) (h : e188 F a0 hp = some (v, hp')) : Rn d 188 0 (lv_args 0 [.ref a0]) [] hp 0 0 (none, hp', 0, 0) :=
  t188_0 (n := hp.length) hd F a0 (lv_args 0 [.ref a0]) hp v hp' rfl (lvk_args (okc (okr ra0) okn)) rfl ra0 h
/-! MirrorRootsModel.both -/
def m189_45 (F : Nat) : Nat → Nat → Int32 → Int32 → Int32 → List mE → Option (Int32 × List mE)
  | 0, _, _, _, _, _ => none
  | f + 1, v0, v2, v3, v4, hp =>
    (gfi 11 15 hp v0).bind fun x1 =>
    if mc2 .eq v4 x1 = true then
      (gfi 11 15 hp v0).bind fun x3 =>
      some (x3, hp)
    else
      (gfi 11 15 hp v0).bind fun x4 =>
      (rcv 11 hp v0).bind fun u6 =>
      (e187 F v0 v3 hp).bind fun q5 =>
      (rcv 11 q5.2 v0).bind fun u8 =>
      (e188 F v0 q5.2).bind fun q7 =>
      (rcv 11 q7.2 v0).bind fun u10 =>
      (e187 F v0 v2 q7.2).bind fun q9 =>
      (rcv 11 q9.2 v0).bind fun u12 =>
      (e188 F v0 q9.2).bind fun q11 =>
      m189_45 F f v0 v2 v3 x4 q11.2
theorem t189_45 {d c w n : Nat} (hd : 4 ≤ d) (F : Nat) : ∀ f : Nat, ∀ (v0 : Nat) (v2 : Int32) (v3 : Int32) (v4 : Int32) (lv : List (Nat × Value)) (hp : List mE) (v : Int32) (hp' : List mE), alk 0 lv = some (.ref v0) → alk 2 lv = some (.int v2) → alk 3 lv = some (.int v3) → alk 4 lv = some (.int v4) → lvk n lv → hp.length = n → v0 < n → m189_45 F f v0 v2 v3 v4 hp = some (v, hp') → Rn d 189 45 lv [] hp c w (some (.int v), hp', c, w) := by
  obtain ⟨d', rfl⟩ : ∃ d', d = d' + 1 := ⟨d - 1, by omega⟩
  intro f
  induction f with
  | zero => intro v0 v2 v3 v4 lv hp v hp' l0 l2 l3 l4 ok hn r_v0 h; cases h
  | succ f hr45 =>
    intro v0 v2 v3 v4 lv hp v hp' l0 l2 l3 l4 ok hn r_v0 h
    unfold m189_45 at h
    refine Rn.iload n189_45 l4 ?_
    refine Rn.aload_n n189_47 l0 ?_
    obtain ⟨x1, hx1, h⟩ := Option.bind_eq_some_iff.mp h
    refine Rn.gf n189_48 mo189 fl11_201 (gfi_v hx1) ?_
    by_cases hc2 : mc2 .eq v4 x1 = true
    · rw [if_pos hc2] at h
      refine Rn.c2t (t := 81) n189_51 (by decide) hc2 ?_
      refine Rn.aload_n n189_81 l0 ?_
      obtain ⟨x3, hx3, h⟩ := Option.bind_eq_some_iff.mp h
      refine Rn.gf n189_82 mo189 fl11_201 (gfi_v hx3) ?_
      have e1 := (Prod.mk.inj (Option.some.inj h)).1
      have e2 := (Prod.mk.inj (Option.some.inj h)).2
      subst e1
      subst e2
      exact Rn.iret n189_85 mr189
    · rw [if_neg hc2] at h
      refine Rn.c2f (t := 81) n189_51 (by decide) hc2 ?_
      refine Rn.aload_n n189_54 l0 ?_
      obtain ⟨x4, hx4, h⟩ := Option.bind_eq_some_iff.mp h
      refine Rn.gf n189_55 mo189 fl11_201 (gfi_v hx4) ?_
      refine Rn.is (m := n) n189_58 ml189 (by decide) (fun lv l4 hk hok => ?_)
      have l0 := hk 0 _ (by decide) (Or.inl rfl) l0
      have l2 := hk 2 _ (by decide) (Or.inl rfl) l2
      have l3 := hk 3 _ (by decide) (Or.inl rfl) l3
      have ok := hok ok
      refine Rn.aload_n n189_60 l0 ?_
      refine Rn.iload_n n189_61 l3 ?_
      obtain ⟨u6, hu6, h⟩ := Option.bind_eq_some_iff.mp h
      obtain ⟨q5, hq5, h⟩ := Option.bind_eq_some_iff.mp h
      have gq5 := c187 (d := d') (by omega) F _ _ _ _ _ (by rw [hn]; exact r_v0) hq5
      refine Rn.cv (As := [.int v3]) (rr := []) n189_62 mo189 mm11_263 (by decide) mq187 rfl rfl rfl rfl (by rw [mo187]; exact hu6) (Nat.le_of_ble_eq_true rfl) (by rw [hn]; exact (okc (okr r_v0) (okc rfl okn))) (by rw [hn]; exact okn) (by rw [hn]; exact ok) (by rw [ml187]; exact Nat.le_of_ble_eq_true rfl) gq5 ?_
      have hn := (Rn.len gq5).trans hn
      show Rn _ 189 65 lv [] q5.2 c w _
      refine Rn.aload_n n189_65 l0 ?_
      obtain ⟨u8, hu8, h⟩ := Option.bind_eq_some_iff.mp h
      obtain ⟨q7, hq7, h⟩ := Option.bind_eq_some_iff.mp h
      have gq7 := c188 (d := d') (by omega) F _ _ _ _ (by rw [hn]; exact r_v0) hq7
      refine Rn.cv (As := []) (rr := []) n189_66 mo189 mm11_266 (by decide) mq188 rfl rfl rfl rfl (by rw [mo188]; exact hu8) (Nat.le_of_ble_eq_true rfl) (by rw [hn]; exact (okc (okr r_v0) okn)) (by rw [hn]; exact okn) (by rw [hn]; exact ok) (by rw [ml188]; exact Nat.le_of_ble_eq_true rfl) gq7 ?_
      have hn := (Rn.len gq7).trans hn
      show Rn _ 189 69 lv [] q7.2 c w _
      refine Rn.aload_n n189_69 l0 ?_
      refine Rn.iload_n n189_70 l2 ?_
      obtain ⟨u10, hu10, h⟩ := Option.bind_eq_some_iff.mp h
      obtain ⟨q9, hq9, h⟩ := Option.bind_eq_some_iff.mp h
      have gq9 := c187 (d := d') (by omega) F _ _ _ _ _ (by rw [hn]; exact r_v0) hq9
      refine Rn.cv (As := [.int v2]) (rr := []) n189_71 mo189 mm11_263 (by decide) mq187 rfl rfl rfl rfl (by rw [mo187]; exact hu10) (Nat.le_of_ble_eq_true rfl) (by rw [hn]; exact (okc (okr r_v0) (okc rfl okn))) (by rw [hn]; exact okn) (by rw [hn]; exact ok) (by rw [ml187]; exact Nat.le_of_ble_eq_true rfl) gq9 ?_
      have hn := (Rn.len gq9).trans hn
      show Rn _ 189 74 lv [] q9.2 c w _
      refine Rn.aload_n n189_74 l0 ?_
      obtain ⟨u12, hu12, h⟩ := Option.bind_eq_some_iff.mp h
      obtain ⟨q11, hq11, h⟩ := Option.bind_eq_some_iff.mp h
      have gq11 := c188 (d := d') (by omega) F _ _ _ _ (by rw [hn]; exact r_v0) hq11
      refine Rn.cv (As := []) (rr := []) n189_75 mo189 mm11_266 (by decide) mq188 rfl rfl rfl rfl (by rw [mo188]; exact hu12) (Nat.le_of_ble_eq_true rfl) (by rw [hn]; exact (okc (okr r_v0) okn)) (by rw [hn]; exact okn) (by rw [hn]; exact ok) (by rw [ml188]; exact Nat.le_of_ble_eq_true rfl) gq11 ?_
      have hn := (Rn.len gq11).trans hn
      show Rn _ 189 78 lv [] q11.2 c w _
      refine Rn.goto (t := 45) n189_78 (by decide) ?_
      exact hr45 _ _ _ _ lv _ _ _ l0 l2 l3 l4 ok hn r_v0  h
def m189_28 (F : Nat) (hp : List mE) : Option (Int32 × List mE) :=
  some ((-1002), hp)
theorem t189_28 {d c w n : Nat} (hd : 4 ≤ d) (F : Nat) : ∀ (lv : List (Nat × Value)) (hp : List mE) (v : Int32) (hp' : List mE), lvk n lv → hp.length = n → m189_28 F hp = some (v, hp') → Rn d 189 28 lv [] hp c w (some (.int v), hp', c, w) := by
  obtain ⟨d', rfl⟩ : ∃ d', d = d' + 1 := ⟨d - 1, by omega⟩
  intro lv hp v hp' ok hn h
  unfold m189_28 at h
  refine Rn.sp (v := (-1002)) n189_28 (by decide) ?_
  have e1 := (Prod.mk.inj (Option.some.inj h)).1
  have e2 := (Prod.mk.inj (Option.some.inj h)).2
  subst e1
  subst e2
  exact Rn.iret n189_31 mr189
def m189_0 (F : Nat) (v0 : Nat) (v1 : Int32) (v2 : Int32) (v3 : Int32) (hp : List mE) : Option (Int32 × List mE) :=
  (rcv 11 hp v0).bind fun u2 =>
  (e160 F v0 v1 hp).bind fun q1 =>
  if mc1 .ne q1.1 = true then
    (rcv 11 q1.2 v0).bind fun u5 =>
    (e184 F v0 v2 q1.2).bind fun q4 =>
    if mc1 .eq q4.1 = true then
      m189_28 F q4.2
    else
      (rcv 11 q4.2 v0).bind fun u8 =>
      (e184 F v0 v3 q4.2).bind fun q7 =>
      if mc1 .ne q7.1 = true then
        (pfv 11 15 q7.2 v0 (.int 0)).bind fun hp10 =>
        (rcv 11 hp10 v0).bind fun u12 =>
        (e165 F v0 v1 hp10).bind fun q11 =>
        m189_45 F F v0 v2 v3 ((-1)) q11.2
      else
        m189_28 F q7.2
  else
    some ((-1001), q1.2)
theorem t189_0 {d c w n : Nat} (hd : 4 ≤ d) (F : Nat) : ∀ (v0 : Nat) (v1 : Int32) (v2 : Int32) (v3 : Int32) (lv : List (Nat × Value)) (hp : List mE) (v : Int32) (hp' : List mE), alk 0 lv = some (.ref v0) → alk 1 lv = some (.int v1) → alk 2 lv = some (.int v2) → alk 3 lv = some (.int v3) → lvk n lv → hp.length = n → v0 < n → m189_0 F v0 v1 v2 v3 hp = some (v, hp') → Rn d 189 0 lv [] hp c w (some (.int v), hp', c, w) := by
  obtain ⟨d', rfl⟩ : ∃ d', d = d' + 1 := ⟨d - 1, by omega⟩
  intro v0 v1 v2 v3 lv hp v hp' l0 l1 l2 l3 ok hn r_v0 h
  unfold m189_0 at h
  refine Rn.aload_n n189_0 l0 ?_
  refine Rn.iload_n n189_1 l1 ?_
  obtain ⟨u2, hu2, h⟩ := Option.bind_eq_some_iff.mp h
  obtain ⟨q1, hq1, h⟩ := Option.bind_eq_some_iff.mp h
  have gq1 := c160 (d := d') (by omega) F _ _ _ _ _ (by rw [hn]; exact r_v0) hq1
  refine Rn.cv (As := [.int v1]) (rr := []) n189_2 mo189 mm11_222 (by decide) mq160 rfl rfl rfl rfl (by rw [mo160]; exact hu2) (Nat.le_of_ble_eq_true rfl) (by rw [hn]; exact (okc (okr r_v0) (okc rfl okn))) (by rw [hn]; exact okn) (by rw [hn]; exact ok) (by rw [ml160]; exact Nat.le_of_ble_eq_true rfl) gq1 ?_
  have hn := (Rn.len gq1).trans hn
  show Rn _ 189 5 lv [.int q1.1] q1.2 c w _
  by_cases hc3 : mc1 .ne q1.1 = true
  · rw [if_pos hc3] at h
    refine Rn.c1t (t := 12) n189_5 (by decide) hc3 ?_
    refine Rn.aload_n n189_12 l0 ?_
    refine Rn.iload_n n189_13 l2 ?_
    obtain ⟨u5, hu5, h⟩ := Option.bind_eq_some_iff.mp h
    obtain ⟨q4, hq4, h⟩ := Option.bind_eq_some_iff.mp h
    have gq4 := c184 (d := d') (by omega) F _ _ _ _ _ (by rw [hn]; exact r_v0) hq4
    refine Rn.cv (As := [.int v2]) (rr := []) n189_14 mo189 mm11_257 (by decide) mq184 rfl rfl rfl rfl (by rw [mo184]; exact hu5) (Nat.le_of_ble_eq_true rfl) (by rw [hn]; exact (okc (okr r_v0) (okc rfl okn))) (by rw [hn]; exact okn) (by rw [hn]; exact ok) (by rw [ml184]; exact Nat.le_of_ble_eq_true rfl) gq4 ?_
    have hn := (Rn.len gq4).trans hn
    show Rn _ 189 17 lv [.int q4.1] q4.2 c w _
    by_cases hc6 : mc1 .eq q4.1 = true
    · rw [if_pos hc6] at h
      refine Rn.c1t (t := 28) n189_17 (by decide) hc6 ?_
      exact t189_28 hd F  lv _ _ _  ok hn   h
    · rw [if_neg hc6] at h
      refine Rn.c1f (t := 28) n189_17 (by decide) hc6 ?_
      refine Rn.aload_n n189_20 l0 ?_
      refine Rn.iload_n n189_21 l3 ?_
      obtain ⟨u8, hu8, h⟩ := Option.bind_eq_some_iff.mp h
      obtain ⟨q7, hq7, h⟩ := Option.bind_eq_some_iff.mp h
      have gq7 := c184 (d := d') (by omega) F _ _ _ _ _ (by rw [hn]; exact r_v0) hq7
      refine Rn.cv (As := [.int v3]) (rr := []) n189_22 mo189 mm11_257 (by decide) mq184 rfl rfl rfl rfl (by rw [mo184]; exact hu8) (Nat.le_of_ble_eq_true rfl) (by rw [hn]; exact (okc (okr r_v0) (okc rfl okn))) (by rw [hn]; exact okn) (by rw [hn]; exact ok) (by rw [ml184]; exact Nat.le_of_ble_eq_true rfl) gq7 ?_
      have hn := (Rn.len gq7).trans hn
      show Rn _ 189 25 lv [.int q7.1] q7.2 c w _
      by_cases hc9 : mc1 .ne q7.1 = true
      · rw [if_pos hc9] at h
        refine Rn.c1t (t := 32) n189_25 (by decide) hc9 ?_
        refine Rn.aload_n n189_32 l0 ?_
        refine Rn.ic (v := 0) n189_33 (by decide) ?_
        obtain ⟨hp10, hhp10, h⟩ := Option.bind_eq_some_iff.mp h
        refine Rn.pf n189_34 mo189 fl11_201 ft11_15 rfl ff11_15 (fun _ _ hh => by cases hh) hhp10 ?_
        have hn := (pfv_len hhp10).trans hn
        refine Rn.aload_n n189_37 l0 ?_
        refine Rn.iload_n n189_38 l1 ?_
        obtain ⟨u12, hu12, h⟩ := Option.bind_eq_some_iff.mp h
        obtain ⟨q11, hq11, h⟩ := Option.bind_eq_some_iff.mp h
        have gq11 := c165 (d := d') (by omega) F _ _ _ _ _ (by rw [hn]; exact r_v0) hq11
        refine Rn.cv (As := [.int v1]) (rr := []) n189_39 mo189 mm11_233 (by decide) mq165 rfl rfl rfl rfl (by rw [mo165]; exact hu12) (Nat.le_of_ble_eq_true rfl) (by rw [hn]; exact (okc (okr r_v0) (okc rfl okn))) (by rw [hn]; exact okn) (by rw [hn]; exact ok) (by rw [ml165]; exact Nat.le_of_ble_eq_true rfl) gq11 ?_
        have hn := (Rn.len gq11).trans hn
        show Rn _ 189 42 lv [] q11.2 c w _
        refine Rn.ic (v := (-1)) n189_42 (by decide) ?_
        refine Rn.is (m := n) n189_43 ml189 (by decide) (fun lv l4 hk hok => ?_)
        have l0 := hk 0 _ (by decide) (Or.inl rfl) l0
        have l1 := hk 1 _ (by decide) (Or.inl rfl) l1
        have l2 := hk 2 _ (by decide) (Or.inl rfl) l2
        have l3 := hk 3 _ (by decide) (Or.inl rfl) l3
        have ok := hok ok
        exact t189_45 hd F  F _ _ _ _ lv _ _ _ l0 l2 l3 l4 ok hn r_v0  h
      · rw [if_neg hc9] at h
        refine Rn.c1f (t := 32) n189_25 (by decide) hc9 ?_
        exact t189_28 hd F  lv _ _ _  ok hn   h
  · rw [if_neg hc3] at h
    refine Rn.c1f (t := 12) n189_5 (by decide) hc3 ?_
    refine Rn.sp (v := (-1001)) n189_8 (by decide) ?_
    have e1 := (Prod.mk.inj (Option.some.inj h)).1
    have e2 := (Prod.mk.inj (Option.some.inj h)).2
    subst e1
    subst e2
    exact Rn.iret n189_11 mr189
def e189 (F : Nat) (a0 : Nat) (a1 : Int32) (a2 : Int32) (a3 : Int32) (hp : List mE) : Option (Int32 × List mE) := m189_0 F a0 a1 a2 a3 hp
theorem c189 {d : Nat} (hd : 4 ≤ d) (F : Nat) (a0 : Nat) (a1 : Int32) (a2 : Int32) (a3 : Int32) (hp : List mE) (v : Int32) (hp' : List mE) (ra0 : a0 < hp.length) (h : e189 F a0 a1 a2 a3 hp = some (v, hp')) : Rn d 189 0 (lv_args 0 [.ref a0, .int a1, .int a2, .int a3]) [] hp 0 0 (some (.int v), hp', 0, 0) :=
  t189_0 (n := hp.length) hd F a0 a1 a2 a3 (lv_args 0 [.ref a0, .int a1, .int a2, .int a3]) hp v hp' rfl rfl rfl rfl (lvk_args (okc (okr ra0) (okc rfl (okc rfl (okc rfl okn))))) rfl ra0 h
/-! MirrorRootsModel.grow -/
def m190_108 (F : Nat) : Nat → Nat → Int32 → Int32 → List mE → Option (Int32 × List mE)
  | 0, _, _, _, _ => none
  | f + 1, v0, v2, v3, hp =>
    if mc2 .ge v3 v2 = true then
      (gfi 11 27 hp v0).bind fun x2 =>
      (pfv 11 27 hp v0 (.int (x2 + v2))).bind fun hp3 =>
      some (v2, hp3)
    else
      (gfr 11 22 hp v0).bind fun x4 =>
      (gfr 11 21 hp v0).bind fun x5 =>
      (e177 F x4 (25 * v3) x5 (25 * v3) hp).bind fun q6 =>
      m190_108 F f v0 v2 (v3 + 1) q6.2
theorem t190_108 {d c w n : Nat} (hd : 2 ≤ d) (F : Nat) : ∀ f : Nat, ∀ (v0 : Nat) (v2 : Int32) (v3 : Int32) (lv : List (Nat × Value)) (hp : List mE) (v : Int32) (hp' : List mE), alk 0 lv = some (.ref v0) → alk 2 lv = some (.int v2) → alk 3 lv = some (.int v3) → lvk n lv → hp.length = n → v0 < n → m190_108 F f v0 v2 v3 hp = some (v, hp') → Rn d 190 108 lv [] hp c w (some (.int v), hp', c, w) := by
  obtain ⟨d', rfl⟩ : ∃ d', d = d' + 1 := ⟨d - 1, by omega⟩
  intro f
  induction f with
  | zero => intro v0 v2 v3 lv hp v hp' l0 l2 l3 ok hn r_v0 h; cases h
  | succ f hr108 =>
    intro v0 v2 v3 lv hp v hp' l0 l2 l3 ok hn r_v0 h
    unfold m190_108 at h
    refine Rn.iload_n n190_108 l3 ?_
    refine Rn.iload_n n190_109 l2 ?_
    by_cases hc1 : mc2 .ge v3 v2 = true
    · rw [if_pos hc1] at h
      refine Rn.c2t (t := 138) n190_110 (by decide) hc1 ?_
      refine Rn.aload_n n190_138 l0 ?_
      refine Rn.p n190_139 rfl ?_
      obtain ⟨x2, hx2, h⟩ := Option.bind_eq_some_iff.mp h
      refine Rn.gf n190_140 mo190 fl11_269 (gfi_v hx2) ?_
      refine Rn.iload_n n190_143 l2 ?_
      refine Rn.p n190_144 rfl ?_
      obtain ⟨hp3, hhp3, h⟩ := Option.bind_eq_some_iff.mp h
      refine Rn.pf n190_145 mo190 fl11_269 ft11_27 rfl ff11_27 (fun _ _ hh => by cases hh) hhp3 ?_
      have hn := (pfv_len hhp3).trans hn
      refine Rn.iload_n n190_148 l2 ?_
      have e1 := (Prod.mk.inj (Option.some.inj h)).1
      have e2 := (Prod.mk.inj (Option.some.inj h)).2
      subst e1
      subst e2
      exact Rn.iret n190_149 mr190
    · rw [if_neg hc1] at h
      refine Rn.c2f (t := 138) n190_110 (by decide) hc1 ?_
      refine Rn.aload_n n190_113 l0 ?_
      obtain ⟨x4, hx4, h⟩ := Option.bind_eq_some_iff.mp h
      refine Rn.gf n190_114 mo190 fl11_53 (gfr_v hx4).1 ?_
      have r_x4 : x4 < n := by rw [← hn]; exact (gfr_v hx4).2
      refine Rn.bp (v := 25) n190_117 (by decide) ?_
      refine Rn.iload_n n190_119 l3 ?_
      refine Rn.p n190_120 rfl ?_
      refine Rn.aload_n n190_121 l0 ?_
      obtain ⟨x5, hx5, h⟩ := Option.bind_eq_some_iff.mp h
      refine Rn.gf n190_122 mo190 fl11_50 (gfr_v hx5).1 ?_
      have r_x5 : x5 < n := by rw [← hn]; exact (gfr_v hx5).2
      refine Rn.bp (v := 25) n190_125 (by decide) ?_
      refine Rn.iload_n n190_127 l3 ?_
      refine Rn.p n190_128 rfl ?_
      obtain ⟨q6, hq6, h⟩ := Option.bind_eq_some_iff.mp h
      have gq6 := c177 (d := d') (by omega) F _ _ _ _ _ _ _ (by rw [hn]; exact r_x4) (by rw [hn]; exact r_x5) hq6
      refine Rn.cs (as := [.ref x4, .int (25 * v3), .ref x5, .int (25 * v3)]) (rr := []) n190_129 mo190 mm11_244 mq177 rfl rfl rfl rfl (Nat.le_of_ble_eq_true rfl) (by rw [hn]; exact (okc (okr r_x4) (okc rfl (okc (okr r_x5) (okc rfl okn))))) (by rw [hn]; exact okn) (by rw [hn]; exact ok) (by rw [ml177]; exact Nat.le_of_ble_eq_true rfl) gq6 ?_
      have hn := (Rn.len gq6).trans hn
      show Rn _ 190 132 lv [] q6.2 c w _
      refine Rn.ii (m := n) (u := 1) n190_132 ml190 (by decide) (by decide) l3 (fun lv l3 hk hok => ?_)
      have l0 := hk 0 _ (by decide) (Or.inl rfl) l0
      have l2 := hk 2 _ (by decide) (Or.inl rfl) l2
      have ok := hok ok
      refine Rn.goto (t := 108) n190_135 (by decide) ?_
      exact hr108 _ _ _ lv _ _ _ l0 l2 l3 ok hn r_v0  h
def m190_94 (F : Nat) (rc4 : Nat → Int32 → Int32 → Int32 → List mE → Option (Int32 × List mE)) (rc12 : Nat → Int32 → Int32 → Int32 → Int32 → List mE → Option (Int32 × List mE)) (v0 : Nat) (v1 : Int32) (v2 : Int32) (v3 : Int32) (v4 : Int32) (hp : List mE) : Option (Int32 × List mE) :=
  rc12 v0 v1 v2 v3 (v4 + 1) hp
theorem t190_94 {d c w n : Nat} (hd : 2 ≤ d) (F : Nat) {rc4 : Nat → Int32 → Int32 → Int32 → List mE → Option (Int32 × List mE)} {rc12 : Nat → Int32 → Int32 → Int32 → Int32 → List mE → Option (Int32 × List mE)} (hr4 : ∀ (v0 : Nat) (v1 : Int32) (v2 : Int32) (v3 : Int32) (lv : List (Nat × Value)) (hp : List mE) (v : Int32) (hp' : List mE), alk 0 lv = some (.ref v0) → alk 1 lv = some (.int v1) → alk 2 lv = some (.int v2) → alk 3 lv = some (.int v3) → lvk n lv → hp.length = n → v0 < n → rc4 v0 v1 v2 v3 hp = some (v, hp') → Rn d 190 4 lv [] hp c w (some (.int v), hp', c, w)) (hr12 : ∀ (v0 : Nat) (v1 : Int32) (v2 : Int32) (v3 : Int32) (v4 : Int32) (lv : List (Nat × Value)) (hp : List mE) (v : Int32) (hp' : List mE), alk 0 lv = some (.ref v0) → alk 1 lv = some (.int v1) → alk 2 lv = some (.int v2) → alk 3 lv = some (.int v3) → alk 4 lv = some (.int v4) → lvk n lv → hp.length = n → v0 < n → rc12 v0 v1 v2 v3 v4 hp = some (v, hp') → Rn d 190 12 lv [] hp c w (some (.int v), hp', c, w)) : ∀ (v0 : Nat) (v1 : Int32) (v2 : Int32) (v3 : Int32) (v4 : Int32) (lv : List (Nat × Value)) (hp : List mE) (v : Int32) (hp' : List mE), alk 0 lv = some (.ref v0) → alk 1 lv = some (.int v1) → alk 2 lv = some (.int v2) → alk 3 lv = some (.int v3) → alk 4 lv = some (.int v4) → lvk n lv → hp.length = n → v0 < n → m190_94 F rc4 rc12 v0 v1 v2 v3 v4 hp = some (v, hp') → Rn d 190 94 lv [] hp c w (some (.int v), hp', c, w) := by
  obtain ⟨d', rfl⟩ : ∃ d', d = d' + 1 := ⟨d - 1, by omega⟩
  intro v0 v1 v2 v3 v4 lv hp v hp' l0 l1 l2 l3 l4 ok hn r_v0 h
  unfold m190_94 at h
  refine Rn.ii (m := n) (u := 1) n190_94 ml190 (by decide) (by decide) l4 (fun lv l4 hk hok => ?_)
  have l0 := hk 0 _ (by decide) (Or.inl rfl) l0
  have l1 := hk 1 _ (by decide) (Or.inl rfl) l1
  have l2 := hk 2 _ (by decide) (Or.inl rfl) l2
  have l3 := hk 3 _ (by decide) (Or.inl rfl) l3
  have ok := hok ok
  refine Rn.goto (t := 12) n190_97 (by decide) ?_
  exact hr12 _ _ _ _ _ lv _ _ _ l0 l1 l2 l3 l4 ok hn r_v0  h
def m190_78 (F : Nat) (rc4 : Nat → Int32 → Int32 → Int32 → List mE → Option (Int32 × List mE)) (rc12 : Nat → Int32 → Int32 → Int32 → Int32 → List mE → Option (Int32 × List mE)) (v0 : Nat) (v1 : Int32) (v3 : Int32) (v4 : Int32) (t0 : Int32) (t1 : Int32) (hp : List mE) : Option (Int32 × List mE) :=
  (gfi 11 27 hp v0).bind fun x1 =>
  if mc2 .le (x1 + (t0 + t1)) 2000 = true then
    m190_94 F rc4 rc12 v0 v1 (t0 + t1) v3 v4 hp
  else
    some ((-1), hp)
theorem t190_78 {d c w n : Nat} (hd : 2 ≤ d) (F : Nat) {rc4 : Nat → Int32 → Int32 → Int32 → List mE → Option (Int32 × List mE)} {rc12 : Nat → Int32 → Int32 → Int32 → Int32 → List mE → Option (Int32 × List mE)} (hr4 : ∀ (v0 : Nat) (v1 : Int32) (v2 : Int32) (v3 : Int32) (lv : List (Nat × Value)) (hp : List mE) (v : Int32) (hp' : List mE), alk 0 lv = some (.ref v0) → alk 1 lv = some (.int v1) → alk 2 lv = some (.int v2) → alk 3 lv = some (.int v3) → lvk n lv → hp.length = n → v0 < n → rc4 v0 v1 v2 v3 hp = some (v, hp') → Rn d 190 4 lv [] hp c w (some (.int v), hp', c, w)) (hr12 : ∀ (v0 : Nat) (v1 : Int32) (v2 : Int32) (v3 : Int32) (v4 : Int32) (lv : List (Nat × Value)) (hp : List mE) (v : Int32) (hp' : List mE), alk 0 lv = some (.ref v0) → alk 1 lv = some (.int v1) → alk 2 lv = some (.int v2) → alk 3 lv = some (.int v3) → alk 4 lv = some (.int v4) → lvk n lv → hp.length = n → v0 < n → rc12 v0 v1 v2 v3 v4 hp = some (v, hp') → Rn d 190 12 lv [] hp c w (some (.int v), hp', c, w)) : ∀ (v0 : Nat) (v1 : Int32) (v3 : Int32) (v4 : Int32) (t0 : Int32) (t1 : Int32) (lv : List (Nat × Value)) (hp : List mE) (v : Int32) (hp' : List mE), alk 0 lv = some (.ref v0) → alk 1 lv = some (.int v1) → alk 3 lv = some (.int v3) → alk 4 lv = some (.int v4) → lvk n lv → hp.length = n → v0 < n → m190_78 F rc4 rc12 v0 v1 v3 v4 t0 t1 hp = some (v, hp') → Rn d 190 78 lv [.int t1, .int t0] hp c w (some (.int v), hp', c, w) := by
  obtain ⟨d', rfl⟩ : ∃ d', d = d' + 1 := ⟨d - 1, by omega⟩
  intro v0 v1 v3 v4 t0 t1 lv hp v hp' l0 l1 l3 l4 ok hn r_v0 h
  unfold m190_78 at h
  refine Rn.p n190_78 rfl ?_
  refine Rn.isn (m := n) n190_79 rfl ml190 (by decide) (fun lv l2 hk hok => ?_)
  have l0 := hk 0 _ (by decide) (Or.inl rfl) l0
  have l1 := hk 1 _ (by decide) (Or.inl rfl) l1
  have l3 := hk 3 _ (by decide) (Or.inl rfl) l3
  have l4 := hk 4 _ (by decide) (Or.inl rfl) l4
  have ok := hok ok
  refine Rn.aload_n n190_80 l0 ?_
  obtain ⟨x1, hx1, h⟩ := Option.bind_eq_some_iff.mp h
  refine Rn.gf n190_81 mo190 fl11_269 (gfi_v hx1) ?_
  refine Rn.iload_n n190_84 l2 ?_
  refine Rn.p n190_85 rfl ?_
  refine Rn.sp (v := 2000) n190_86 (by decide) ?_
  by_cases hc2 : mc2 .le (x1 + (t0 + t1)) 2000 = true
  · rw [if_pos hc2] at h
    refine Rn.c2t (t := 94) n190_89 (by decide) hc2 ?_
    exact t190_94 hd F hr4 hr12 _ _ _ _ _ lv _ _ _ l0 l1 l2 l3 l4 ok hn r_v0  h
  · rw [if_neg hc2] at h
    refine Rn.c2f (t := 94) n190_89 (by decide) hc2 ?_
    refine Rn.ic (v := (-1)) n190_92 (by decide) ?_
    have e1 := (Prod.mk.inj (Option.some.inj h)).1
    have e2 := (Prod.mk.inj (Option.some.inj h)).2
    subst e1
    subst e2
    exact Rn.iret n190_93 mr190
def m190_12 (F : Nat) (rc4 : Nat → Int32 → Int32 → Int32 → List mE → Option (Int32 × List mE)) : Nat → Nat → Int32 → Int32 → Int32 → Int32 → List mE → Option (Int32 × List mE)
  | 0, _, _, _, _, _, _ => none
  | f + 1, v0, v1, v2, v3, v4, hp =>
    (gfi 11 0 hp v0).bind fun x1 =>
    if mc2 .ge v4 x1 = true then
      rc4 v0 v1 v2 (v3 + 1) hp
    else
      (gfr 11 21 hp v0).bind fun x3 =>
      (e157 F x3 (25 * v3) v4 hp).bind fun q4 =>
      if mc1 .ne q4.1 = true then
        m190_94 F rc4 (m190_12 F rc4 f) v0 v1 v2 v3 v4 q4.2
      else
        (gfr 11 21 q4.2 v0).bind fun x6 =>
        (gfr 11 13 q4.2 v0).bind fun x7 =>
        (e177 F x6 (25 * v3) x7 0 q4.2).bind fun q8 =>
        (rcv 11 q8.2 v0).bind fun u10 =>
        (e156 F v0 v4 q8.2).bind fun q9 =>
        (gfr 11 22 q9.2 v0).bind fun x11 =>
        (rcv 11 q9.2 v0).bind fun u13 =>
        (e178 F v0 x11 v2 q9.2).bind fun q12 =>
        if mc2 .ne q12.1 v2 = true then
          m190_78 F rc4 (m190_12 F rc4 f) v0 v1 v3 v4 v2 0 q12.2
        else
          m190_78 F rc4 (m190_12 F rc4 f) v0 v1 v3 v4 v2 1 q12.2
theorem t190_12 {d c w n : Nat} (hd : 2 ≤ d) (F : Nat) {rc4 : Nat → Int32 → Int32 → Int32 → List mE → Option (Int32 × List mE)} (hr4 : ∀ (v0 : Nat) (v1 : Int32) (v2 : Int32) (v3 : Int32) (lv : List (Nat × Value)) (hp : List mE) (v : Int32) (hp' : List mE), alk 0 lv = some (.ref v0) → alk 1 lv = some (.int v1) → alk 2 lv = some (.int v2) → alk 3 lv = some (.int v3) → lvk n lv → hp.length = n → v0 < n → rc4 v0 v1 v2 v3 hp = some (v, hp') → Rn d 190 4 lv [] hp c w (some (.int v), hp', c, w)) : ∀ f : Nat, ∀ (v0 : Nat) (v1 : Int32) (v2 : Int32) (v3 : Int32) (v4 : Int32) (lv : List (Nat × Value)) (hp : List mE) (v : Int32) (hp' : List mE), alk 0 lv = some (.ref v0) → alk 1 lv = some (.int v1) → alk 2 lv = some (.int v2) → alk 3 lv = some (.int v3) → alk 4 lv = some (.int v4) → lvk n lv → hp.length = n → v0 < n → m190_12 F rc4 f v0 v1 v2 v3 v4 hp = some (v, hp') → Rn d 190 12 lv [] hp c w (some (.int v), hp', c, w) := by
  obtain ⟨d', rfl⟩ : ∃ d', d = d' + 1 := ⟨d - 1, by omega⟩
  intro f
  induction f with
  | zero => intro v0 v1 v2 v3 v4 lv hp v hp' l0 l1 l2 l3 l4 ok hn r_v0 h; cases h
  | succ f hr12 =>
    intro v0 v1 v2 v3 v4 lv hp v hp' l0 l1 l2 l3 l4 ok hn r_v0 h
    unfold m190_12 at h
    refine Rn.iload n190_12 l4 ?_
    refine Rn.aload_n n190_14 l0 ?_
    obtain ⟨x1, hx1, h⟩ := Option.bind_eq_some_iff.mp h
    refine Rn.gf n190_15 mo190 fl11_7 (gfi_v hx1) ?_
    by_cases hc2 : mc2 .ge v4 x1 = true
    · rw [if_pos hc2] at h
      refine Rn.c2t (t := 100) n190_18 (by decide) hc2 ?_
      refine Rn.ii (m := n) (u := 1) n190_100 ml190 (by decide) (by decide) l3 (fun lv l3 hk hok => ?_)
      have l0 := hk 0 _ (by decide) (Or.inl rfl) l0
      have l1 := hk 1 _ (by decide) (Or.inl rfl) l1
      have l2 := hk 2 _ (by decide) (Or.inl rfl) l2
      have l4 := hk 4 _ (by decide) (Or.inl rfl) l4
      have ok := hok ok
      refine Rn.goto (t := 4) n190_103 (by decide) ?_
      exact hr4 _ _ _ _ lv _ _ _ l0 l1 l2 l3 ok hn r_v0  h
    · rw [if_neg hc2] at h
      refine Rn.c2f (t := 100) n190_18 (by decide) hc2 ?_
      refine Rn.aload_n n190_21 l0 ?_
      obtain ⟨x3, hx3, h⟩ := Option.bind_eq_some_iff.mp h
      refine Rn.gf n190_22 mo190 fl11_50 (gfr_v hx3).1 ?_
      have r_x3 : x3 < n := by rw [← hn]; exact (gfr_v hx3).2
      refine Rn.bp (v := 25) n190_25 (by decide) ?_
      refine Rn.iload_n n190_27 l3 ?_
      refine Rn.p n190_28 rfl ?_
      refine Rn.iload n190_29 l4 ?_
      obtain ⟨q4, hq4, h⟩ := Option.bind_eq_some_iff.mp h
      have gq4 := c157 (d := d') (by omega) F _ _ _ _ _ _ (by rw [hn]; exact r_x3) hq4
      refine Rn.cs (as := [.ref x3, .int (25 * v3), .int v4]) (rr := []) n190_31 mo190 mm11_194 mq157 rfl rfl rfl rfl (Nat.le_of_ble_eq_true rfl) (by rw [hn]; exact (okc (okr r_x3) (okc rfl (okc rfl okn)))) (by rw [hn]; exact okn) (by rw [hn]; exact ok) (by rw [ml157]; exact Nat.le_of_ble_eq_true rfl) gq4 ?_
      have hn := (Rn.len gq4).trans hn
      show Rn _ 190 34 lv [.int q4.1] q4.2 c w _
      by_cases hc5 : mc1 .ne q4.1 = true
      · rw [if_pos hc5] at h
        refine Rn.c1t (t := 94) n190_34 (by decide) hc5 ?_
        exact t190_94 hd F hr4 hr12 _ _ _ _ _ lv _ _ _ l0 l1 l2 l3 l4 ok hn r_v0  h
      · rw [if_neg hc5] at h
        refine Rn.c1f (t := 94) n190_34 (by decide) hc5 ?_
        refine Rn.aload_n n190_37 l0 ?_
        obtain ⟨x6, hx6, h⟩ := Option.bind_eq_some_iff.mp h
        refine Rn.gf n190_38 mo190 fl11_50 (gfr_v hx6).1 ?_
        have r_x6 : x6 < n := by rw [← hn]; exact (gfr_v hx6).2
        refine Rn.bp (v := 25) n190_41 (by decide) ?_
        refine Rn.iload_n n190_43 l3 ?_
        refine Rn.p n190_44 rfl ?_
        refine Rn.aload_n n190_45 l0 ?_
        obtain ⟨x7, hx7, h⟩ := Option.bind_eq_some_iff.mp h
        refine Rn.gf n190_46 mo190 fl11_33 (gfr_v hx7).1 ?_
        have r_x7 : x7 < n := by rw [← hn]; exact (gfr_v hx7).2
        refine Rn.ic (v := 0) n190_49 (by decide) ?_
        obtain ⟨q8, hq8, h⟩ := Option.bind_eq_some_iff.mp h
        have gq8 := c177 (d := d') (by omega) F _ _ _ _ _ _ _ (by rw [hn]; exact r_x6) (by rw [hn]; exact r_x7) hq8
        refine Rn.cs (as := [.ref x6, .int (25 * v3), .ref x7, .int 0]) (rr := []) n190_50 mo190 mm11_244 mq177 rfl rfl rfl rfl (Nat.le_of_ble_eq_true rfl) (by rw [hn]; exact (okc (okr r_x6) (okc rfl (okc (okr r_x7) (okc rfl okn))))) (by rw [hn]; exact okn) (by rw [hn]; exact ok) (by rw [ml177]; exact Nat.le_of_ble_eq_true rfl) gq8 ?_
        have hn := (Rn.len gq8).trans hn
        show Rn _ 190 53 lv [] q8.2 c w _
        refine Rn.aload_n n190_53 l0 ?_
        refine Rn.iload n190_54 l4 ?_
        obtain ⟨u10, hu10, h⟩ := Option.bind_eq_some_iff.mp h
        obtain ⟨q9, hq9, h⟩ := Option.bind_eq_some_iff.mp h
        have gq9 := c156 (d := d') (by omega) F _ _ _ _ _ (by rw [hn]; exact r_v0) hq9
        refine Rn.cv (As := [.int v4]) (rr := []) n190_56 mo190 mm11_204 (by decide) mq156 rfl rfl rfl rfl (by rw [mo156]; exact hu10) (Nat.le_of_ble_eq_true rfl) (by rw [hn]; exact (okc (okr r_v0) (okc rfl okn))) (by rw [hn]; exact okn) (by rw [hn]; exact ok) (by rw [ml156]; exact Nat.le_of_ble_eq_true rfl) gq9 ?_
        have hn := (Rn.len gq9).trans hn
        show Rn _ 190 59 lv [] q9.2 c w _
        refine Rn.iload_n n190_59 l2 ?_
        refine Rn.aload_n n190_60 l0 ?_
        refine Rn.aload_n n190_61 l0 ?_
        obtain ⟨x11, hx11, h⟩ := Option.bind_eq_some_iff.mp h
        refine Rn.gf n190_62 mo190 fl11_53 (gfr_v hx11).1 ?_
        have r_x11 : x11 < n := by rw [← hn]; exact (gfr_v hx11).2
        refine Rn.iload_n n190_65 l2 ?_
        obtain ⟨u13, hu13, h⟩ := Option.bind_eq_some_iff.mp h
        obtain ⟨q12, hq12, h⟩ := Option.bind_eq_some_iff.mp h
        have gq12 := c178 (d := d') (by omega) F _ _ _ _ _ _ (by rw [hn]; exact r_v0) (by rw [hn]; exact r_x11) hq12
        refine Rn.cv (As := [.ref x11, .int v2]) (rr := [.int v2]) n190_66 mo190 mm11_248 (by decide) mq178 rfl rfl rfl rfl (by rw [mo178]; exact hu13) (Nat.le_of_ble_eq_true rfl) (by rw [hn]; exact (okc (okr r_v0) (okc (okr r_x11) (okc rfl okn)))) (by rw [hn]; exact (okc rfl okn)) (by rw [hn]; exact ok) (by rw [ml178]; exact Nat.le_of_ble_eq_true rfl) gq12 ?_
        have hn := (Rn.len gq12).trans hn
        show Rn _ 190 69 lv [.int q12.1, .int v2] q12.2 c w _
        refine Rn.iload_n n190_69 l2 ?_
        by_cases hc14 : mc2 .ne q12.1 v2 = true
        · rw [if_pos hc14] at h
          refine Rn.c2t (t := 77) n190_70 (by decide) hc14 ?_
          refine Rn.ic (v := 0) n190_77 (by decide) ?_
          exact t190_78 hd F hr4 hr12 _ _ _ _ _ _ lv _ _ _ l0 l1 l3 l4 ok hn r_v0  h
        · rw [if_neg hc14] at h
          refine Rn.c2f (t := 77) n190_70 (by decide) hc14 ?_
          refine Rn.ic (v := 1) n190_73 (by decide) ?_
          refine Rn.goto (t := 78) n190_74 (by decide) ?_
          exact t190_78 hd F hr4 hr12 _ _ _ _ _ _ lv _ _ _ l0 l1 l3 l4 ok hn r_v0  h
def m190_4 (F : Nat) : Nat → Nat → Int32 → Int32 → Int32 → List mE → Option (Int32 × List mE)
  | 0, _, _, _, _, _ => none
  | f + 1, v0, v1, v2, v3, hp =>
    if mc2 .ge v3 v1 = true then
      m190_108 F F v0 v2 0 hp
    else
      m190_12 F (m190_4 F f) F v0 v1 v2 v3 0 hp
theorem t190_4 {d c w n : Nat} (hd : 2 ≤ d) (F : Nat) : ∀ f : Nat, ∀ (v0 : Nat) (v1 : Int32) (v2 : Int32) (v3 : Int32) (lv : List (Nat × Value)) (hp : List mE) (v : Int32) (hp' : List mE), alk 0 lv = some (.ref v0) → alk 1 lv = some (.int v1) → alk 2 lv = some (.int v2) → alk 3 lv = some (.int v3) → lvk n lv → hp.length = n → v0 < n → m190_4 F f v0 v1 v2 v3 hp = some (v, hp') → Rn d 190 4 lv [] hp c w (some (.int v), hp', c, w) := by
  obtain ⟨d', rfl⟩ : ∃ d', d = d' + 1 := ⟨d - 1, by omega⟩
  intro f
  induction f with
  | zero => intro v0 v1 v2 v3 lv hp v hp' l0 l1 l2 l3 ok hn r_v0 h; cases h
  | succ f hr4 =>
    intro v0 v1 v2 v3 lv hp v hp' l0 l1 l2 l3 ok hn r_v0 h
    unfold m190_4 at h
    refine Rn.iload_n n190_4 l3 ?_
    refine Rn.iload_n n190_5 l1 ?_
    by_cases hc1 : mc2 .ge v3 v1 = true
    · rw [if_pos hc1] at h
      refine Rn.c2t (t := 106) n190_6 (by decide) hc1 ?_
      refine Rn.ic (v := 0) n190_106 (by decide) ?_
      refine Rn.isn (m := n) n190_107 rfl ml190 (by decide) (fun lv l3 hk hok => ?_)
      have l0 := hk 0 _ (by decide) (Or.inl rfl) l0
      have l1 := hk 1 _ (by decide) (Or.inl rfl) l1
      have l2 := hk 2 _ (by decide) (Or.inl rfl) l2
      have ok := hok ok
      exact t190_108 hd F  F _ _ _ lv _ _ _ l0 l2 l3 ok hn r_v0  h
    · rw [if_neg hc1] at h
      refine Rn.c2f (t := 106) n190_6 (by decide) hc1 ?_
      refine Rn.ic (v := 0) n190_9 (by decide) ?_
      refine Rn.is (m := n) n190_10 ml190 (by decide) (fun lv l4 hk hok => ?_)
      have l0 := hk 0 _ (by decide) (Or.inl rfl) l0
      have l1 := hk 1 _ (by decide) (Or.inl rfl) l1
      have l2 := hk 2 _ (by decide) (Or.inl rfl) l2
      have l3 := hk 3 _ (by decide) (Or.inl rfl) l3
      have ok := hok ok
      exact t190_12 hd F hr4 F _ _ _ _ _ lv _ _ _ l0 l1 l2 l3 l4 ok hn r_v0  h
def m190_0 (F : Nat) (v0 : Nat) (v1 : Int32) (hp : List mE) : Option (Int32 × List mE) :=
  m190_4 F F v0 v1 0 0 hp
theorem t190_0 {d c w n : Nat} (hd : 2 ≤ d) (F : Nat) : ∀ (v0 : Nat) (v1 : Int32) (lv : List (Nat × Value)) (hp : List mE) (v : Int32) (hp' : List mE), alk 0 lv = some (.ref v0) → alk 1 lv = some (.int v1) → lvk n lv → hp.length = n → v0 < n → m190_0 F v0 v1 hp = some (v, hp') → Rn d 190 0 lv [] hp c w (some (.int v), hp', c, w) := by
  obtain ⟨d', rfl⟩ : ∃ d', d = d' + 1 := ⟨d - 1, by omega⟩
  intro v0 v1 lv hp v hp' l0 l1 ok hn r_v0 h
  unfold m190_0 at h
  refine Rn.ic (v := 0) n190_0 (by decide) ?_
  refine Rn.isn (m := n) n190_1 rfl ml190 (by decide) (fun lv l2 hk hok => ?_)
  have l0 := hk 0 _ (by decide) (Or.inl rfl) l0
  have l1 := hk 1 _ (by decide) (Or.inl rfl) l1
  have ok := hok ok
  refine Rn.ic (v := 0) n190_2 (by decide) ?_
  refine Rn.isn (m := n) n190_3 rfl ml190 (by decide) (fun lv l3 hk hok => ?_)
  have l0 := hk 0 _ (by decide) (Or.inl rfl) l0
  have l1 := hk 1 _ (by decide) (Or.inl rfl) l1
  have l2 := hk 2 _ (by decide) (Or.inl rfl) l2
  have ok := hok ok
  exact t190_4 hd F  F _ _ _ _ lv _ _ _ l0 l1 l2 l3 ok hn r_v0  h
def e190 (F : Nat) (a0 : Nat) (a1 : Int32) (hp : List mE) : Option (Int32 × List mE) := m190_0 F a0 a1 hp
theorem c190 {d : Nat} (hd : 2 ≤ d) (F : Nat) (a0 : Nat) (a1 : Int32) (hp : List mE) (v : Int32) (hp' : List mE) (ra0 : a0 < hp.length) (h : e190 F a0 a1 hp = some (v, hp')) : Rn d 190 0 (lv_args 0 [.ref a0, .int a1]) [] hp 0 0 (some (.int v), hp', 0, 0) :=
  t190_0 (n := hp.length) hd F a0 a1 (lv_args 0 [.ref a0, .int a1]) hp v hp' rfl rfl (lvk_args (okc (okr ra0) (okc rfl okn))) rfl ra0 h
/-! MirrorRootsModel.startLevels -/
def m191_0 (F : Nat) (v0 : Nat) (hp : List mE) : Option (Unit × List mE) :=
  (rcv 11 hp v0).bind fun u2 =>
  (e154 F v0 hp).bind fun q1 =>
  (gfr 11 13 q1.2 v0).bind fun x3 =>
  (gfr 11 21 q1.2 v0).bind fun x4 =>
  (e177 F x3 0 x4 0 q1.2).bind fun q5 =>
  (pfv 11 27 q5.2 v0 (.int 1)).bind fun hp6 =>
  some ((), hp6)
theorem t191_0 {d c w n : Nat} (hd : 1 ≤ d) (F : Nat) : ∀ (v0 : Nat) (lv : List (Nat × Value)) (hp : List mE) (v : Unit) (hp' : List mE), alk 0 lv = some (.ref v0) → lvk n lv → hp.length = n → v0 < n → m191_0 F v0 hp = some (v, hp') → Rn d 191 0 lv [] hp c w (none, hp', c, w) := by
  obtain ⟨d', rfl⟩ : ∃ d', d = d' + 1 := ⟨d - 1, by omega⟩
  intro v0 lv hp v hp' l0 ok hn r_v0 h
  unfold m191_0 at h
  refine Rn.aload_n n191_0 l0 ?_
  obtain ⟨u2, hu2, h⟩ := Option.bind_eq_some_iff.mp h
  obtain ⟨q1, hq1, h⟩ := Option.bind_eq_some_iff.mp h
  have gq1 := c154 (d := d') (by omega) F _ _ _ _ (by rw [hn]; exact r_v0) hq1
  refine Rn.cv (As := []) (rr := []) n191_1 mo191 mm11_198 (by decide) mq154 rfl rfl rfl rfl (by rw [mo154]; exact hu2) (Nat.le_of_ble_eq_true rfl) (by rw [hn]; exact (okc (okr r_v0) okn)) (by rw [hn]; exact okn) (by rw [hn]; exact ok) (by rw [ml154]; exact Nat.le_of_ble_eq_true rfl) gq1 ?_
  have hn := (Rn.len gq1).trans hn
  show Rn _ 191 4 lv [] q1.2 c w _
  refine Rn.aload_n n191_4 l0 ?_
  obtain ⟨x3, hx3, h⟩ := Option.bind_eq_some_iff.mp h
  refine Rn.gf n191_5 mo191 fl11_33 (gfr_v hx3).1 ?_
  have r_x3 : x3 < n := by rw [← hn]; exact (gfr_v hx3).2
  refine Rn.ic (v := 0) n191_8 (by decide) ?_
  refine Rn.aload_n n191_9 l0 ?_
  obtain ⟨x4, hx4, h⟩ := Option.bind_eq_some_iff.mp h
  refine Rn.gf n191_10 mo191 fl11_50 (gfr_v hx4).1 ?_
  have r_x4 : x4 < n := by rw [← hn]; exact (gfr_v hx4).2
  refine Rn.ic (v := 0) n191_13 (by decide) ?_
  obtain ⟨q5, hq5, h⟩ := Option.bind_eq_some_iff.mp h
  have gq5 := c177 (d := d') (by omega) F _ _ _ _ _ _ _ (by rw [hn]; exact r_x3) (by rw [hn]; exact r_x4) hq5
  refine Rn.cs (as := [.ref x3, .int 0, .ref x4, .int 0]) (rr := []) n191_14 mo191 mm11_244 mq177 rfl rfl rfl rfl (Nat.le_of_ble_eq_true rfl) (by rw [hn]; exact (okc (okr r_x3) (okc rfl (okc (okr r_x4) (okc rfl okn))))) (by rw [hn]; exact okn) (by rw [hn]; exact ok) (by rw [ml177]; exact Nat.le_of_ble_eq_true rfl) gq5 ?_
  have hn := (Rn.len gq5).trans hn
  show Rn _ 191 17 lv [] q5.2 c w _
  refine Rn.aload_n n191_17 l0 ?_
  refine Rn.ic (v := 1) n191_18 (by decide) ?_
  obtain ⟨hp6, hhp6, h⟩ := Option.bind_eq_some_iff.mp h
  refine Rn.pf n191_19 mo191 fl11_269 ft11_27 rfl ff11_27 (fun _ _ hh => by cases hh) hhp6 ?_
  have hn := (pfv_len hhp6).trans hn
  have e1 := (Prod.mk.inj (Option.some.inj h)).1
  have e2 := (Prod.mk.inj (Option.some.inj h)).2
  subst e1
  subst e2
  exact Rn.vret n191_22 mr191
def e191 (F : Nat) (a0 : Nat) (hp : List mE) : Option (Unit × List mE) := m191_0 F a0 hp
theorem c191 {d : Nat} (hd : 1 ≤ d) (F : Nat) (a0 : Nat) (hp : List mE) (v : Unit) (hp' : List mE) (ra0 : a0 < hp.length) (h : e191 F a0 hp = some (v, hp')) : Rn d 191 0 (lv_args 0 [.ref a0]) [] hp 0 0 (none, hp', 0, 0) :=
  t191_0 (n := hp.length) hd F a0 (lv_args 0 [.ref a0]) hp v hp' rfl (lvk_args (okc (okr ra0) okn)) rfl ra0 h
/-! MirrorRootsModel.growth -/
def m192_56 (F : Nat) (t0 : Int32) (hp : List mE) : Option (Int32 × List mE) :=
  some (t0, hp)
theorem t192_56 {d c w n : Nat} (hd : 3 ≤ d) (F : Nat) : ∀ (t0 : Int32) (lv : List (Nat × Value)) (hp : List mE) (v : Int32) (hp' : List mE), lvk n lv → hp.length = n → m192_56 F t0 hp = some (v, hp') → Rn d 192 56 lv [.int t0] hp c w (some (.int v), hp', c, w) := by
  obtain ⟨d', rfl⟩ : ∃ d', d = d' + 1 := ⟨d - 1, by omega⟩
  intro t0 lv hp v hp' ok hn h
  unfold m192_56 at h
  have e1 := (Prod.mk.inj (Option.some.inj h)).1
  have e2 := (Prod.mk.inj (Option.some.inj h)).2
  subst e1
  subst e2
  exact Rn.iret n192_56 mr192
def m192_45 (F : Nat) (v2 : Int32) (hp : List mE) : Option (Int32 × List mE) :=
  if mc1 .ge v2 = true then
    m192_56 F v2 hp
  else
    m192_56 F ((-1005)) hp
theorem t192_45 {d c w n : Nat} (hd : 3 ≤ d) (F : Nat) : ∀ (v2 : Int32) (lv : List (Nat × Value)) (hp : List mE) (v : Int32) (hp' : List mE), alk 2 lv = some (.int v2) → lvk n lv → hp.length = n → m192_45 F v2 hp = some (v, hp') → Rn d 192 45 lv [] hp c w (some (.int v), hp', c, w) := by
  obtain ⟨d', rfl⟩ : ∃ d', d = d' + 1 := ⟨d - 1, by omega⟩
  intro v2 lv hp v hp' l2 ok hn h
  unfold m192_45 at h
  refine Rn.iload_n n192_45 l2 ?_
  by_cases hc1 : mc1 .ge v2 = true
  · rw [if_pos hc1] at h
    refine Rn.c1t (t := 55) n192_46 (by decide) hc1 ?_
    refine Rn.iload_n n192_55 l2 ?_
    exact t192_56 hd F  _ lv _ _ _  ok hn   h
  · rw [if_neg hc1] at h
    refine Rn.c1f (t := 55) n192_46 (by decide) hc1 ?_
    refine Rn.sp (v := (-1005)) n192_49 (by decide) ?_
    refine Rn.goto (t := 56) n192_52 (by decide) ?_
    exact t192_56 hd F  _ lv _ _ _  ok hn   h
def m192_24 (F : Nat) : Nat → Nat → Int32 → Int32 → Int32 → List mE → Option (Int32 × List mE)
  | 0, _, _, _, _, _ => none
  | f + 1, v0, v1, v2, v3, hp =>
    if mc2 .ge v3 v1 = true then
      m192_45 F v2 hp
    else
      if mc1 .le v2 = true then
        m192_45 F v2 hp
      else
        (rcv 11 hp v0).bind fun u4 =>
        (e190 F v0 v2 hp).bind fun q3 =>
        m192_24 F f v0 v1 q3.1 (v3 + 1) q3.2
theorem t192_24 {d c w n : Nat} (hd : 3 ≤ d) (F : Nat) : ∀ f : Nat, ∀ (v0 : Nat) (v1 : Int32) (v2 : Int32) (v3 : Int32) (lv : List (Nat × Value)) (hp : List mE) (v : Int32) (hp' : List mE), alk 0 lv = some (.ref v0) → alk 1 lv = some (.int v1) → alk 2 lv = some (.int v2) → alk 3 lv = some (.int v3) → lvk n lv → hp.length = n → v0 < n → m192_24 F f v0 v1 v2 v3 hp = some (v, hp') → Rn d 192 24 lv [] hp c w (some (.int v), hp', c, w) := by
  obtain ⟨d', rfl⟩ : ∃ d', d = d' + 1 := ⟨d - 1, by omega⟩
  intro f
  induction f with
  | zero => intro v0 v1 v2 v3 lv hp v hp' l0 l1 l2 l3 ok hn r_v0 h; cases h
  | succ f hr24 =>
    intro v0 v1 v2 v3 lv hp v hp' l0 l1 l2 l3 ok hn r_v0 h
    unfold m192_24 at h
    refine Rn.iload_n n192_24 l3 ?_
    refine Rn.iload_n n192_25 l1 ?_
    by_cases hc1 : mc2 .ge v3 v1 = true
    · rw [if_pos hc1] at h
      refine Rn.c2t (t := 45) n192_26 (by decide) hc1 ?_
      exact t192_45 hd F  _ lv _ _ _ l2 ok hn   h
    · rw [if_neg hc1] at h
      refine Rn.c2f (t := 45) n192_26 (by decide) hc1 ?_
      refine Rn.iload_n n192_29 l2 ?_
      by_cases hc2 : mc1 .le v2 = true
      · rw [if_pos hc2] at h
        refine Rn.c1t (t := 45) n192_30 (by decide) hc2 ?_
        exact t192_45 hd F  _ lv _ _ _ l2 ok hn   h
      · rw [if_neg hc2] at h
        refine Rn.c1f (t := 45) n192_30 (by decide) hc2 ?_
        refine Rn.aload_n n192_33 l0 ?_
        refine Rn.iload_n n192_34 l2 ?_
        obtain ⟨u4, hu4, h⟩ := Option.bind_eq_some_iff.mp h
        obtain ⟨q3, hq3, h⟩ := Option.bind_eq_some_iff.mp h
        have gq3 := c190 (d := d') (by omega) F _ _ _ _ _ (by rw [hn]; exact r_v0) hq3
        refine Rn.cv (As := [.int v2]) (rr := []) n192_35 mo192 mm11_277 (by decide) mq190 rfl rfl rfl rfl (by rw [mo190]; exact hu4) (Nat.le_of_ble_eq_true rfl) (by rw [hn]; exact (okc (okr r_v0) (okc rfl okn))) (by rw [hn]; exact okn) (by rw [hn]; exact ok) (by rw [ml190]; exact Nat.le_of_ble_eq_true rfl) gq3 ?_
        have hn := (Rn.len gq3).trans hn
        show Rn _ 192 38 lv [.int q3.1] q3.2 c w _
        refine Rn.isn (m := n) n192_38 rfl ml192 (by decide) (fun lv l2 hk hok => ?_)
        have l0 := hk 0 _ (by decide) (Or.inl rfl) l0
        have l1 := hk 1 _ (by decide) (Or.inl rfl) l1
        have l3 := hk 3 _ (by decide) (Or.inl rfl) l3
        have ok := hok ok
        refine Rn.ii (m := n) (u := 1) n192_39 ml192 (by decide) (by decide) l3 (fun lv l3 hk hok => ?_)
        have l0 := hk 0 _ (by decide) (Or.inl rfl) l0
        have l1 := hk 1 _ (by decide) (Or.inl rfl) l1
        have l2 := hk 2 _ (by decide) (Or.inl rfl) l2
        have ok := hok ok
        refine Rn.goto (t := 24) n192_42 (by decide) ?_
        exact hr24 _ _ _ _ lv _ _ _ l0 l1 l2 l3 ok hn r_v0  h
def m192_0 (F : Nat) (v0 : Nat) (v1 : Int32) (hp : List mE) : Option (Int32 × List mE) :=
  (e137 F v1.toInt64 0 20 hp).bind fun q1 =>
  if mc1 .ne q1.1 = true then
    (rcv 11 q1.2 v0).bind fun u4 =>
    (e191 F v0 q1.2).bind fun q3 =>
    m192_24 F F v0 v1 1 0 q3.2
  else
    some ((-1002), q1.2)
theorem t192_0 {d c w n : Nat} (hd : 3 ≤ d) (F : Nat) : ∀ (v0 : Nat) (v1 : Int32) (lv : List (Nat × Value)) (hp : List mE) (v : Int32) (hp' : List mE), alk 0 lv = some (.ref v0) → alk 1 lv = some (.int v1) → lvk n lv → hp.length = n → v0 < n → m192_0 F v0 v1 hp = some (v, hp') → Rn d 192 0 lv [] hp c w (some (.int v), hp', c, w) := by
  obtain ⟨d', rfl⟩ : ∃ d', d = d' + 1 := ⟨d - 1, by omega⟩
  intro v0 v1 lv hp v hp' l0 l1 ok hn r_v0 h
  unfold m192_0 at h
  refine Rn.iload_n n192_0 l1 ?_
  refine Rn.p n192_1 rfl ?_
  refine Rn.lc (v := 0) n192_2 (by decide) ?_
  refine Rn.ldc2 n192_3 mo192 cL11_272 ?_
  obtain ⟨q1, hq1, h⟩ := Option.bind_eq_some_iff.mp h
  have gq1 := c137 (d := d') (by omega) F _ _ _ _ _ _  hq1
  refine Rn.cs (as := [.long v1.toInt64, .long 0, .long 20]) (rr := []) n192_6 mo192 mm11_116 mq137 rfl rfl rfl rfl (Nat.le_of_ble_eq_true rfl) (by rw [hn]; exact (okc rfl (okc rfl (okc rfl okn)))) (by rw [hn]; exact okn) (by rw [hn]; exact ok) (by rw [ml137]; exact Nat.le_of_ble_eq_true rfl) gq1 ?_
  have hn := (Rn.len gq1).trans hn
  show Rn _ 192 9 lv [.int q1.1] q1.2 c w _
  by_cases hc2 : mc1 .ne q1.1 = true
  · rw [if_pos hc2] at h
    refine Rn.c1t (t := 16) n192_9 (by decide) hc2 ?_
    refine Rn.aload_n n192_16 l0 ?_
    obtain ⟨u4, hu4, h⟩ := Option.bind_eq_some_iff.mp h
    obtain ⟨q3, hq3, h⟩ := Option.bind_eq_some_iff.mp h
    have gq3 := c191 (d := d') (by omega) F _ _ _ _ (by rw [hn]; exact r_v0) hq3
    refine Rn.cv (As := []) (rr := []) n192_17 mo192 mm11_274 (by decide) mq191 rfl rfl rfl rfl (by rw [mo191]; exact hu4) (Nat.le_of_ble_eq_true rfl) (by rw [hn]; exact (okc (okr r_v0) okn)) (by rw [hn]; exact okn) (by rw [hn]; exact ok) (by rw [ml191]; exact Nat.le_of_ble_eq_true rfl) gq3 ?_
    have hn := (Rn.len gq3).trans hn
    show Rn _ 192 20 lv [] q3.2 c w _
    refine Rn.ic (v := 1) n192_20 (by decide) ?_
    refine Rn.isn (m := n) n192_21 rfl ml192 (by decide) (fun lv l2 hk hok => ?_)
    have l0 := hk 0 _ (by decide) (Or.inl rfl) l0
    have l1 := hk 1 _ (by decide) (Or.inl rfl) l1
    have ok := hok ok
    refine Rn.ic (v := 0) n192_22 (by decide) ?_
    refine Rn.isn (m := n) n192_23 rfl ml192 (by decide) (fun lv l3 hk hok => ?_)
    have l0 := hk 0 _ (by decide) (Or.inl rfl) l0
    have l1 := hk 1 _ (by decide) (Or.inl rfl) l1
    have l2 := hk 2 _ (by decide) (Or.inl rfl) l2
    have ok := hok ok
    exact t192_24 hd F  F _ _ _ _ lv _ _ _ l0 l1 l2 l3 ok hn r_v0  h
  · rw [if_neg hc2] at h
    refine Rn.c1f (t := 16) n192_9 (by decide) hc2 ?_
    refine Rn.sp (v := (-1002)) n192_12 (by decide) ?_
    have e1 := (Prod.mk.inj (Option.some.inj h)).1
    have e2 := (Prod.mk.inj (Option.some.inj h)).2
    subst e1
    subst e2
    exact Rn.iret n192_15 mr192
def e192 (F : Nat) (a0 : Nat) (a1 : Int32) (hp : List mE) : Option (Int32 × List mE) := m192_0 F a0 a1 hp
theorem c192 {d : Nat} (hd : 3 ≤ d) (F : Nat) (a0 : Nat) (a1 : Int32) (hp : List mE) (v : Int32) (hp' : List mE) (ra0 : a0 < hp.length) (h : e192 F a0 a1 hp = some (v, hp')) : Rn d 192 0 (lv_args 0 [.ref a0, .int a1]) [] hp 0 0 (some (.int v), hp', 0, 0) :=
  t192_0 (n := hp.length) hd F a0 a1 (lv_args 0 [.ref a0, .int a1]) hp v hp' rfl rfl (lvk_args (okc (okr ra0) (okc rfl okn))) rfl ra0 h
/-! MirrorRootsModel.whole -/
def m193_70 (F : Nat) (t0 : Int32) (hp : List mE) : Option (Int32 × List mE) :=
  some (t0, hp)
theorem t193_70 {d c w n : Nat} (hd : 3 ≤ d) (F : Nat) : ∀ (t0 : Int32) (lv : List (Nat × Value)) (hp : List mE) (v : Int32) (hp' : List mE), lvk n lv → hp.length = n → m193_70 F t0 hp = some (v, hp') → Rn d 193 70 lv [.int t0] hp c w (some (.int v), hp', c, w) := by
  obtain ⟨d', rfl⟩ : ∃ d', d = d' + 1 := ⟨d - 1, by omega⟩
  intro t0 lv hp v hp' ok hn h
  unfold m193_70 at h
  have e1 := (Prod.mk.inj (Option.some.inj h)).1
  have e2 := (Prod.mk.inj (Option.some.inj h)).2
  subst e1
  subst e2
  exact Rn.iret n193_70 mr193
def m193_22 (F : Nat) : Nat → Nat → Int32 → Int32 → Int32 → List mE → Option (Int32 × List mE)
  | 0, _, _, _, _, _ => none
  | f + 1, v0, v1, v2, v3, hp =>
    if mc1 .le v2 = true then
      if mc1 .ge v2 = true then
        if mc1 .ne v1 = true then
          m193_70 F v3 hp
        else
          (gfi 11 27 hp v0).bind fun x4 =>
          m193_70 F x4 hp
      else
        m193_70 F ((-1005)) hp
    else
      if mc2 .le (v3 + 1) 30 = true then
        (rcv 11 hp v0).bind fun u7 =>
        (e190 F v0 v2 hp).bind fun q6 =>
        m193_22 F f v0 v1 q6.1 (v3 + 1) q6.2
      else
        some ((-1005), hp)
theorem t193_22 {d c w n : Nat} (hd : 3 ≤ d) (F : Nat) : ∀ f : Nat, ∀ (v0 : Nat) (v1 : Int32) (v2 : Int32) (v3 : Int32) (lv : List (Nat × Value)) (hp : List mE) (v : Int32) (hp' : List mE), alk 0 lv = some (.ref v0) → alk 1 lv = some (.int v1) → alk 2 lv = some (.int v2) → alk 3 lv = some (.int v3) → lvk n lv → hp.length = n → v0 < n → m193_22 F f v0 v1 v2 v3 hp = some (v, hp') → Rn d 193 22 lv [] hp c w (some (.int v), hp', c, w) := by
  obtain ⟨d', rfl⟩ : ∃ d', d = d' + 1 := ⟨d - 1, by omega⟩
  intro f
  induction f with
  | zero => intro v0 v1 v2 v3 lv hp v hp' l0 l1 l2 l3 ok hn r_v0 h; cases h
  | succ f hr22 =>
    intro v0 v1 v2 v3 lv hp v hp' l0 l1 l2 l3 ok hn r_v0 h
    unfold m193_22 at h
    refine Rn.iload_n n193_22 l2 ?_
    by_cases hc1 : mc1 .le v2 = true
    · rw [if_pos hc1] at h
      refine Rn.c1t (t := 48) n193_23 (by decide) hc1 ?_
      refine Rn.iload_n n193_48 l2 ?_
      by_cases hc2 : mc1 .ge v2 = true
      · rw [if_pos hc2] at h
        refine Rn.c1t (t := 58) n193_49 (by decide) hc2 ?_
        refine Rn.iload_n n193_58 l1 ?_
        by_cases hc3 : mc1 .ne v1 = true
        · rw [if_pos hc3] at h
          refine Rn.c1t (t := 69) n193_59 (by decide) hc3 ?_
          refine Rn.iload_n n193_69 l3 ?_
          exact t193_70 hd F  _ lv _ _ _  ok hn   h
        · rw [if_neg hc3] at h
          refine Rn.c1f (t := 69) n193_59 (by decide) hc3 ?_
          refine Rn.aload_n n193_62 l0 ?_
          obtain ⟨x4, hx4, h⟩ := Option.bind_eq_some_iff.mp h
          refine Rn.gf n193_63 mo193 fl11_269 (gfi_v hx4) ?_
          refine Rn.goto (t := 70) n193_66 (by decide) ?_
          exact t193_70 hd F  _ lv _ _ _  ok hn   h
      · rw [if_neg hc2] at h
        refine Rn.c1f (t := 58) n193_49 (by decide) hc2 ?_
        refine Rn.sp (v := (-1005)) n193_52 (by decide) ?_
        refine Rn.goto (t := 70) n193_55 (by decide) ?_
        exact t193_70 hd F  _ lv _ _ _  ok hn   h
    · rw [if_neg hc1] at h
      refine Rn.c1f (t := 48) n193_23 (by decide) hc1 ?_
      refine Rn.ii (m := n) (u := 1) n193_26 ml193 (by decide) (by decide) l3 (fun lv l3 hk hok => ?_)
      have l0 := hk 0 _ (by decide) (Or.inl rfl) l0
      have l1 := hk 1 _ (by decide) (Or.inl rfl) l1
      have l2 := hk 2 _ (by decide) (Or.inl rfl) l2
      have ok := hok ok
      refine Rn.iload_n n193_29 l3 ?_
      refine Rn.bp (v := 30) n193_30 (by decide) ?_
      by_cases hc5 : mc2 .le (v3 + 1) 30 = true
      · rw [if_pos hc5] at h
        refine Rn.c2t (t := 39) n193_32 (by decide) hc5 ?_
        refine Rn.aload_n n193_39 l0 ?_
        refine Rn.iload_n n193_40 l2 ?_
        obtain ⟨u7, hu7, h⟩ := Option.bind_eq_some_iff.mp h
        obtain ⟨q6, hq6, h⟩ := Option.bind_eq_some_iff.mp h
        have gq6 := c190 (d := d') (by omega) F _ _ _ _ _ (by rw [hn]; exact r_v0) hq6
        refine Rn.cv (As := [.int v2]) (rr := []) n193_41 mo193 mm11_277 (by decide) mq190 rfl rfl rfl rfl (by rw [mo190]; exact hu7) (Nat.le_of_ble_eq_true rfl) (by rw [hn]; exact (okc (okr r_v0) (okc rfl okn))) (by rw [hn]; exact okn) (by rw [hn]; exact ok) (by rw [ml190]; exact Nat.le_of_ble_eq_true rfl) gq6 ?_
        have hn := (Rn.len gq6).trans hn
        show Rn _ 193 44 lv [.int q6.1] q6.2 c w _
        refine Rn.isn (m := n) n193_44 rfl ml193 (by decide) (fun lv l2 hk hok => ?_)
        have l0 := hk 0 _ (by decide) (Or.inl rfl) l0
        have l1 := hk 1 _ (by decide) (Or.inl rfl) l1
        have l3 := hk 3 _ (by decide) (Or.inl rfl) l3
        have ok := hok ok
        refine Rn.goto (t := 22) n193_45 (by decide) ?_
        exact hr22 _ _ _ _ lv _ _ _ l0 l1 l2 l3 ok hn r_v0  h
      · rw [if_neg hc5] at h
        refine Rn.c2f (t := 39) n193_32 (by decide) hc5 ?_
        refine Rn.sp (v := (-1005)) n193_35 (by decide) ?_
        have e1 := (Prod.mk.inj (Option.some.inj h)).1
        have e2 := (Prod.mk.inj (Option.some.inj h)).2
        subst e1
        subst e2
        exact Rn.iret n193_38 mr193
def m193_0 (F : Nat) (v0 : Nat) (v1 : Int32) (hp : List mE) : Option (Int32 × List mE) :=
  (e137 F v1.toInt64 0 1 hp).bind fun q1 =>
  if mc1 .ne q1.1 = true then
    (rcv 11 q1.2 v0).bind fun u4 =>
    (e191 F v0 q1.2).bind fun q3 =>
    m193_22 F F v0 v1 1 ((-1)) q3.2
  else
    some ((-1002), q1.2)
theorem t193_0 {d c w n : Nat} (hd : 3 ≤ d) (F : Nat) : ∀ (v0 : Nat) (v1 : Int32) (lv : List (Nat × Value)) (hp : List mE) (v : Int32) (hp' : List mE), alk 0 lv = some (.ref v0) → alk 1 lv = some (.int v1) → lvk n lv → hp.length = n → v0 < n → m193_0 F v0 v1 hp = some (v, hp') → Rn d 193 0 lv [] hp c w (some (.int v), hp', c, w) := by
  obtain ⟨d', rfl⟩ : ∃ d', d = d' + 1 := ⟨d - 1, by omega⟩
  intro v0 v1 lv hp v hp' l0 l1 ok hn r_v0 h
  unfold m193_0 at h
  refine Rn.iload_n n193_0 l1 ?_
  refine Rn.p n193_1 rfl ?_
  refine Rn.lc (v := 0) n193_2 (by decide) ?_
  refine Rn.lc (v := 1) n193_3 (by decide) ?_
  obtain ⟨q1, hq1, h⟩ := Option.bind_eq_some_iff.mp h
  have gq1 := c137 (d := d') (by omega) F _ _ _ _ _ _  hq1
  refine Rn.cs (as := [.long v1.toInt64, .long 0, .long 1]) (rr := []) n193_4 mo193 mm11_116 mq137 rfl rfl rfl rfl (Nat.le_of_ble_eq_true rfl) (by rw [hn]; exact (okc rfl (okc rfl (okc rfl okn)))) (by rw [hn]; exact okn) (by rw [hn]; exact ok) (by rw [ml137]; exact Nat.le_of_ble_eq_true rfl) gq1 ?_
  have hn := (Rn.len gq1).trans hn
  show Rn _ 193 7 lv [.int q1.1] q1.2 c w _
  by_cases hc2 : mc1 .ne q1.1 = true
  · rw [if_pos hc2] at h
    refine Rn.c1t (t := 14) n193_7 (by decide) hc2 ?_
    refine Rn.aload_n n193_14 l0 ?_
    obtain ⟨u4, hu4, h⟩ := Option.bind_eq_some_iff.mp h
    obtain ⟨q3, hq3, h⟩ := Option.bind_eq_some_iff.mp h
    have gq3 := c191 (d := d') (by omega) F _ _ _ _ (by rw [hn]; exact r_v0) hq3
    refine Rn.cv (As := []) (rr := []) n193_15 mo193 mm11_274 (by decide) mq191 rfl rfl rfl rfl (by rw [mo191]; exact hu4) (Nat.le_of_ble_eq_true rfl) (by rw [hn]; exact (okc (okr r_v0) okn)) (by rw [hn]; exact okn) (by rw [hn]; exact ok) (by rw [ml191]; exact Nat.le_of_ble_eq_true rfl) gq3 ?_
    have hn := (Rn.len gq3).trans hn
    show Rn _ 193 18 lv [] q3.2 c w _
    refine Rn.ic (v := 1) n193_18 (by decide) ?_
    refine Rn.isn (m := n) n193_19 rfl ml193 (by decide) (fun lv l2 hk hok => ?_)
    have l0 := hk 0 _ (by decide) (Or.inl rfl) l0
    have l1 := hk 1 _ (by decide) (Or.inl rfl) l1
    have ok := hok ok
    refine Rn.ic (v := (-1)) n193_20 (by decide) ?_
    refine Rn.isn (m := n) n193_21 rfl ml193 (by decide) (fun lv l3 hk hok => ?_)
    have l0 := hk 0 _ (by decide) (Or.inl rfl) l0
    have l1 := hk 1 _ (by decide) (Or.inl rfl) l1
    have l2 := hk 2 _ (by decide) (Or.inl rfl) l2
    have ok := hok ok
    exact t193_22 hd F  F _ _ _ _ lv _ _ _ l0 l1 l2 l3 ok hn r_v0  h
  · rw [if_neg hc2] at h
    refine Rn.c1f (t := 14) n193_7 (by decide) hc2 ?_
    refine Rn.sp (v := (-1002)) n193_10 (by decide) ?_
    have e1 := (Prod.mk.inj (Option.some.inj h)).1
    have e2 := (Prod.mk.inj (Option.some.inj h)).2
    subst e1
    subst e2
    exact Rn.iret n193_13 mr193
def e193 (F : Nat) (a0 : Nat) (a1 : Int32) (hp : List mE) : Option (Int32 × List mE) := m193_0 F a0 a1 hp
theorem c193 {d : Nat} (hd : 3 ≤ d) (F : Nat) (a0 : Nat) (a1 : Int32) (hp : List mE) (v : Int32) (hp' : List mE) (ra0 : a0 < hp.length) (h : e193 F a0 a1 hp = some (v, hp')) : Rn d 193 0 (lv_args 0 [.ref a0, .int a1]) [] hp 0 0 (some (.int v), hp', 0, 0) :=
  t193_0 (n := hp.length) hd F a0 a1 (lv_args 0 [.ref a0, .int a1]) hp v hp' rfl rfl (lvk_args (okc (okr ra0) (okc rfl okn))) rfl ra0 h
/-! MirrorRootsModel.order -/
def m194_106 (F : Nat) (hp : List mE) : Option (Int32 × List mE) :=
  some ((-1), hp)
theorem t194_106 {d c w n : Nat} (hd : 2 ≤ d) (F : Nat) : ∀ (lv : List (Nat × Value)) (hp : List mE) (v : Int32) (hp' : List mE), lvk n lv → hp.length = n → m194_106 F hp = some (v, hp') → Rn d 194 106 lv [] hp c w (some (.int v), hp', c, w) := by
  obtain ⟨d', rfl⟩ : ∃ d', d = d' + 1 := ⟨d - 1, by omega⟩
  intro lv hp v hp' ok hn h
  unfold m194_106 at h
  refine Rn.ic (v := (-1)) n194_106 (by decide) ?_
  have e1 := (Prod.mk.inj (Option.some.inj h)).1
  have e2 := (Prod.mk.inj (Option.some.inj h)).2
  subst e1
  subst e2
  exact Rn.iret n194_107 mr194
def m194_74 (F : Nat) (rc33 : Nat → Int32 → Int32 → List mE → Option (Int32 × List mE)) : Nat → Nat → Int32 → Int32 → Int32 → List mE → Option (Int32 × List mE)
  | 0, _, _, _, _, _ => none
  | f + 1, v0, v1, v2, v3, hp =>
    if mc2 .ge v3 25 = true then
      (rcv 11 hp v0).bind fun u3 =>
      (e174 F v0 hp).bind fun q2 =>
      if mc1 .eq q2.1 = true then
        rc33 v0 v1 (v2 + 1) q2.2
      else
        some (v2, q2.2)
    else
      (gfr 11 13 hp v0).bind fun x5 =>
      (rdJ hp x5 v3).bind fun x6 =>
      if mc1 .gt (lg_cmp x6 1000000000000) = true then
        m194_106 F hp
      else
        (gfr 11 13 hp v0).bind fun x8 =>
        (rdJ hp x8 v3).bind fun x9 =>
        if mc1 .ge (lg_cmp x9 ((-1000000000000))) = true then
          m194_74 F rc33 f v0 v1 v2 (v3 + 1) hp
        else
          m194_106 F hp
theorem t194_74 {d c w n : Nat} (hd : 2 ≤ d) (F : Nat) {rc33 : Nat → Int32 → Int32 → List mE → Option (Int32 × List mE)} (hr33 : ∀ (v0 : Nat) (v1 : Int32) (v2 : Int32) (lv : List (Nat × Value)) (hp : List mE) (v : Int32) (hp' : List mE), alk 0 lv = some (.ref v0) → alk 1 lv = some (.int v1) → alk 2 lv = some (.int v2) → lvk n lv → hp.length = n → v0 < n → rc33 v0 v1 v2 hp = some (v, hp') → Rn d 194 33 lv [] hp c w (some (.int v), hp', c, w)) : ∀ f : Nat, ∀ (v0 : Nat) (v1 : Int32) (v2 : Int32) (v3 : Int32) (lv : List (Nat × Value)) (hp : List mE) (v : Int32) (hp' : List mE), alk 0 lv = some (.ref v0) → alk 1 lv = some (.int v1) → alk 2 lv = some (.int v2) → alk 3 lv = some (.int v3) → lvk n lv → hp.length = n → v0 < n → m194_74 F rc33 f v0 v1 v2 v3 hp = some (v, hp') → Rn d 194 74 lv [] hp c w (some (.int v), hp', c, w) := by
  obtain ⟨d', rfl⟩ : ∃ d', d = d' + 1 := ⟨d - 1, by omega⟩
  intro f
  induction f with
  | zero => intro v0 v1 v2 v3 lv hp v hp' l0 l1 l2 l3 ok hn r_v0 h; cases h
  | succ f hr74 =>
    intro v0 v1 v2 v3 lv hp v hp' l0 l1 l2 l3 ok hn r_v0 h
    unfold m194_74 at h
    refine Rn.iload_n n194_74 l3 ?_
    refine Rn.bp (v := 25) n194_75 (by decide) ?_
    by_cases hc1 : mc2 .ge v3 25 = true
    · rw [if_pos hc1] at h
      refine Rn.c2t (t := 114) n194_77 (by decide) hc1 ?_
      refine Rn.aload_n n194_114 l0 ?_
      obtain ⟨u3, hu3, h⟩ := Option.bind_eq_some_iff.mp h
      obtain ⟨q2, hq2, h⟩ := Option.bind_eq_some_iff.mp h
      have gq2 := c174 (d := d') (by omega) F _ _ _ _ (by rw [hn]; exact r_v0) hq2
      refine Rn.cv (As := []) (rr := []) n194_115 mo194 mm11_236 (by decide) mq174 rfl rfl rfl rfl (by rw [mo174]; exact hu3) (Nat.le_of_ble_eq_true rfl) (by rw [hn]; exact (okc (okr r_v0) okn)) (by rw [hn]; exact okn) (by rw [hn]; exact ok) (by rw [ml174]; exact Nat.le_of_ble_eq_true rfl) gq2 ?_
      have hn := (Rn.len gq2).trans hn
      show Rn _ 194 118 lv [.int q2.1] q2.2 c w _
      by_cases hc4 : mc1 .eq q2.1 = true
      · rw [if_pos hc4] at h
        refine Rn.c1t (t := 123) n194_118 (by decide) hc4 ?_
        refine Rn.ii (m := n) (u := 1) n194_123 ml194 (by decide) (by decide) l2 (fun lv l2 hk hok => ?_)
        have l0 := hk 0 _ (by decide) (Or.inl rfl) l0
        have l1 := hk 1 _ (by decide) (Or.inl rfl) l1
        have l3 := hk 3 _ (by decide) (Or.inl rfl) l3
        have ok := hok ok
        refine Rn.goto (t := 33) n194_126 (by decide) ?_
        exact hr33 _ _ _ lv _ _ _ l0 l1 l2 ok hn r_v0  h
      · rw [if_neg hc4] at h
        refine Rn.c1f (t := 123) n194_118 (by decide) hc4 ?_
        refine Rn.iload_n n194_121 l2 ?_
        have e1 := (Prod.mk.inj (Option.some.inj h)).1
        have e2 := (Prod.mk.inj (Option.some.inj h)).2
        subst e1
        subst e2
        exact Rn.iret n194_122 mr194
    · rw [if_neg hc1] at h
      refine Rn.c2f (t := 114) n194_77 (by decide) hc1 ?_
      refine Rn.aload_n n194_80 l0 ?_
      obtain ⟨x5, hx5, h⟩ := Option.bind_eq_some_iff.mp h
      refine Rn.gf n194_81 mo194 fl11_33 (gfr_v hx5).1 ?_
      have r_x5 : x5 < n := by rw [← hn]; exact (gfr_v hx5).2
      refine Rn.iload_n n194_84 l3 ?_
      obtain ⟨x6, hx6, h⟩ := Option.bind_eq_some_iff.mp h
      refine Rn.lald n194_85 hx6 ?_
      refine Rn.ldc2 n194_86 mo194 cL11_280 ?_
      refine Rn.p n194_89 rfl ?_
      by_cases hc7 : mc1 .gt (lg_cmp x6 1000000000000) = true
      · rw [if_pos hc7] at h
        refine Rn.c1t (t := 106) n194_90 (by decide) hc7 ?_
        exact t194_106 hd F  lv _ _ _  ok hn   h
      · rw [if_neg hc7] at h
        refine Rn.c1f (t := 106) n194_90 (by decide) hc7 ?_
        refine Rn.aload_n n194_93 l0 ?_
        obtain ⟨x8, hx8, h⟩ := Option.bind_eq_some_iff.mp h
        refine Rn.gf n194_94 mo194 fl11_33 (gfr_v hx8).1 ?_
        have r_x8 : x8 < n := by rw [← hn]; exact (gfr_v hx8).2
        refine Rn.iload_n n194_97 l3 ?_
        obtain ⟨x9, hx9, h⟩ := Option.bind_eq_some_iff.mp h
        refine Rn.lald n194_98 hx9 ?_
        refine Rn.ldc2 n194_99 mo194 cL11_282 ?_
        refine Rn.p n194_102 rfl ?_
        by_cases hc10 : mc1 .ge (lg_cmp x9 ((-1000000000000))) = true
        · rw [if_pos hc10] at h
          refine Rn.c1t (t := 108) n194_103 (by decide) hc10 ?_
          refine Rn.ii (m := n) (u := 1) n194_108 ml194 (by decide) (by decide) l3 (fun lv l3 hk hok => ?_)
          have l0 := hk 0 _ (by decide) (Or.inl rfl) l0
          have l1 := hk 1 _ (by decide) (Or.inl rfl) l1
          have l2 := hk 2 _ (by decide) (Or.inl rfl) l2
          have ok := hok ok
          refine Rn.goto (t := 74) n194_111 (by decide) ?_
          exact hr74 _ _ _ _ lv _ _ _ l0 l1 l2 l3 ok hn r_v0  h
        · rw [if_neg hc10] at h
          refine Rn.c1f (t := 108) n194_103 (by decide) hc10 ?_
          exact t194_106 hd F  lv _ _ _  ok hn   h
def m194_41 (F : Nat) (rc33 : Nat → Int32 → Int32 → List mE → Option (Int32 × List mE)) : Nat → Nat → Int32 → Int32 → Int32 → List mE → Option (Int32 × List mE)
  | 0, _, _, _, _, _ => none
  | f + 1, v0, v1, v2, v3, hp =>
    (gfr 11 17 hp v0).bind fun x1 =>
    (rdI hp x1 v1).bind fun x2 =>
    if mc2 .ge v3 x2 = true then
      m194_74 F rc33 F v0 v1 v2 0 hp
    else
      (gfr 11 18 hp v0).bind fun x4 =>
      (rdI hp x4 ((20 * v1) + v3)).bind fun x5 =>
      (rcv 11 hp v0).bind fun u7 =>
      (e156 F v0 x5 hp).bind fun q6 =>
      m194_41 F rc33 f v0 v1 v2 (v3 + 1) q6.2
theorem t194_41 {d c w n : Nat} (hd : 2 ≤ d) (F : Nat) {rc33 : Nat → Int32 → Int32 → List mE → Option (Int32 × List mE)} (hr33 : ∀ (v0 : Nat) (v1 : Int32) (v2 : Int32) (lv : List (Nat × Value)) (hp : List mE) (v : Int32) (hp' : List mE), alk 0 lv = some (.ref v0) → alk 1 lv = some (.int v1) → alk 2 lv = some (.int v2) → lvk n lv → hp.length = n → v0 < n → rc33 v0 v1 v2 hp = some (v, hp') → Rn d 194 33 lv [] hp c w (some (.int v), hp', c, w)) : ∀ f : Nat, ∀ (v0 : Nat) (v1 : Int32) (v2 : Int32) (v3 : Int32) (lv : List (Nat × Value)) (hp : List mE) (v : Int32) (hp' : List mE), alk 0 lv = some (.ref v0) → alk 1 lv = some (.int v1) → alk 2 lv = some (.int v2) → alk 3 lv = some (.int v3) → lvk n lv → hp.length = n → v0 < n → m194_41 F rc33 f v0 v1 v2 v3 hp = some (v, hp') → Rn d 194 41 lv [] hp c w (some (.int v), hp', c, w) := by
  obtain ⟨d', rfl⟩ : ∃ d', d = d' + 1 := ⟨d - 1, by omega⟩
  intro f
  induction f with
  | zero => intro v0 v1 v2 v3 lv hp v hp' l0 l1 l2 l3 ok hn r_v0 h; cases h
  | succ f hr41 =>
    intro v0 v1 v2 v3 lv hp v hp' l0 l1 l2 l3 ok hn r_v0 h
    unfold m194_41 at h
    refine Rn.iload_n n194_41 l3 ?_
    refine Rn.aload_n n194_42 l0 ?_
    obtain ⟨x1, hx1, h⟩ := Option.bind_eq_some_iff.mp h
    refine Rn.gf n194_43 mo194 fl11_40 (gfr_v hx1).1 ?_
    have r_x1 : x1 < n := by rw [← hn]; exact (gfr_v hx1).2
    refine Rn.iload_n n194_46 l1 ?_
    obtain ⟨x2, hx2, h⟩ := Option.bind_eq_some_iff.mp h
    refine Rn.iald n194_47 hx2 ?_
    by_cases hc3 : mc2 .ge v3 x2 = true
    · rw [if_pos hc3] at h
      refine Rn.c2t (t := 72) n194_48 (by decide) hc3 ?_
      refine Rn.ic (v := 0) n194_72 (by decide) ?_
      refine Rn.isn (m := n) n194_73 rfl ml194 (by decide) (fun lv l3 hk hok => ?_)
      have l0 := hk 0 _ (by decide) (Or.inl rfl) l0
      have l1 := hk 1 _ (by decide) (Or.inl rfl) l1
      have l2 := hk 2 _ (by decide) (Or.inl rfl) l2
      have ok := hok ok
      exact t194_74 hd F hr33 F _ _ _ _ lv _ _ _ l0 l1 l2 l3 ok hn r_v0  h
    · rw [if_neg hc3] at h
      refine Rn.c2f (t := 72) n194_48 (by decide) hc3 ?_
      refine Rn.aload_n n194_51 l0 ?_
      refine Rn.aload_n n194_52 l0 ?_
      obtain ⟨x4, hx4, h⟩ := Option.bind_eq_some_iff.mp h
      refine Rn.gf n194_53 mo194 fl11_43 (gfr_v hx4).1 ?_
      have r_x4 : x4 < n := by rw [← hn]; exact (gfr_v hx4).2
      refine Rn.bp (v := 20) n194_56 (by decide) ?_
      refine Rn.iload_n n194_58 l1 ?_
      refine Rn.p n194_59 rfl ?_
      refine Rn.iload_n n194_60 l3 ?_
      refine Rn.p n194_61 rfl ?_
      obtain ⟨x5, hx5, h⟩ := Option.bind_eq_some_iff.mp h
      refine Rn.iald n194_62 hx5 ?_
      obtain ⟨u7, hu7, h⟩ := Option.bind_eq_some_iff.mp h
      obtain ⟨q6, hq6, h⟩ := Option.bind_eq_some_iff.mp h
      have gq6 := c156 (d := d') (by omega) F _ _ _ _ _ (by rw [hn]; exact r_v0) hq6
      refine Rn.cv (As := [.int x5]) (rr := []) n194_63 mo194 mm11_204 (by decide) mq156 rfl rfl rfl rfl (by rw [mo156]; exact hu7) (Nat.le_of_ble_eq_true rfl) (by rw [hn]; exact (okc (okr r_v0) (okc rfl okn))) (by rw [hn]; exact okn) (by rw [hn]; exact ok) (by rw [ml156]; exact Nat.le_of_ble_eq_true rfl) gq6 ?_
      have hn := (Rn.len gq6).trans hn
      show Rn _ 194 66 lv [] q6.2 c w _
      refine Rn.ii (m := n) (u := 1) n194_66 ml194 (by decide) (by decide) l3 (fun lv l3 hk hok => ?_)
      have l0 := hk 0 _ (by decide) (Or.inl rfl) l0
      have l1 := hk 1 _ (by decide) (Or.inl rfl) l1
      have l2 := hk 2 _ (by decide) (Or.inl rfl) l2
      have ok := hok ok
      refine Rn.goto (t := 41) n194_69 (by decide) ?_
      exact hr41 _ _ _ _ lv _ _ _ l0 l1 l2 l3 ok hn r_v0  h
def m194_33 (F : Nat) : Nat → Nat → Int32 → Int32 → List mE → Option (Int32 × List mE)
  | 0, _, _, _, _ => none
  | f + 1, v0, v1, v2, hp =>
    if mc2 .gt v2 30 = true then
      some ((-1), hp)
    else
      m194_41 F (m194_33 F f) F v0 v1 v2 0 hp
theorem t194_33 {d c w n : Nat} (hd : 2 ≤ d) (F : Nat) : ∀ f : Nat, ∀ (v0 : Nat) (v1 : Int32) (v2 : Int32) (lv : List (Nat × Value)) (hp : List mE) (v : Int32) (hp' : List mE), alk 0 lv = some (.ref v0) → alk 1 lv = some (.int v1) → alk 2 lv = some (.int v2) → lvk n lv → hp.length = n → v0 < n → m194_33 F f v0 v1 v2 hp = some (v, hp') → Rn d 194 33 lv [] hp c w (some (.int v), hp', c, w) := by
  obtain ⟨d', rfl⟩ : ∃ d', d = d' + 1 := ⟨d - 1, by omega⟩
  intro f
  induction f with
  | zero => intro v0 v1 v2 lv hp v hp' l0 l1 l2 ok hn r_v0 h; cases h
  | succ f hr33 =>
    intro v0 v1 v2 lv hp v hp' l0 l1 l2 ok hn r_v0 h
    unfold m194_33 at h
    refine Rn.iload_n n194_33 l2 ?_
    refine Rn.bp (v := 30) n194_34 (by decide) ?_
    by_cases hc1 : mc2 .gt v2 30 = true
    · rw [if_pos hc1] at h
      refine Rn.c2t (t := 129) n194_36 (by decide) hc1 ?_
      refine Rn.ic (v := (-1)) n194_129 (by decide) ?_
      have e1 := (Prod.mk.inj (Option.some.inj h)).1
      have e2 := (Prod.mk.inj (Option.some.inj h)).2
      subst e1
      subst e2
      exact Rn.iret n194_130 mr194
    · rw [if_neg hc1] at h
      refine Rn.c2f (t := 129) n194_36 (by decide) hc1 ?_
      refine Rn.ic (v := 0) n194_39 (by decide) ?_
      refine Rn.isn (m := n) n194_40 rfl ml194 (by decide) (fun lv l3 hk hok => ?_)
      have l0 := hk 0 _ (by decide) (Or.inl rfl) l0
      have l1 := hk 1 _ (by decide) (Or.inl rfl) l1
      have l2 := hk 2 _ (by decide) (Or.inl rfl) l2
      have ok := hok ok
      exact t194_41 hd F hr33 F _ _ _ _ lv _ _ _ l0 l1 l2 l3 ok hn r_v0  h
def m194_0 (F : Nat) (v0 : Nat) (v1 : Int32) (hp : List mE) : Option (Int32 × List mE) :=
  (rcv 11 hp v0).bind fun u2 =>
  (e160 F v0 v1 hp).bind fun q1 =>
  if mc1 .ne q1.1 = true then
    (gfr 11 17 q1.2 v0).bind fun x4 =>
    (rdI q1.2 x4 v1).bind fun x5 =>
    if mc2 .le x5 8 = true then
      (rcv 11 q1.2 v0).bind fun u8 =>
      (e154 F v0 q1.2).bind fun q7 =>
      m194_33 F F v0 v1 1 q7.2
    else
      some ((-1005), q1.2)
  else
    some ((-1001), q1.2)
theorem t194_0 {d c w n : Nat} (hd : 2 ≤ d) (F : Nat) : ∀ (v0 : Nat) (v1 : Int32) (lv : List (Nat × Value)) (hp : List mE) (v : Int32) (hp' : List mE), alk 0 lv = some (.ref v0) → alk 1 lv = some (.int v1) → lvk n lv → hp.length = n → v0 < n → m194_0 F v0 v1 hp = some (v, hp') → Rn d 194 0 lv [] hp c w (some (.int v), hp', c, w) := by
  obtain ⟨d', rfl⟩ : ∃ d', d = d' + 1 := ⟨d - 1, by omega⟩
  intro v0 v1 lv hp v hp' l0 l1 ok hn r_v0 h
  unfold m194_0 at h
  refine Rn.aload_n n194_0 l0 ?_
  refine Rn.iload_n n194_1 l1 ?_
  obtain ⟨u2, hu2, h⟩ := Option.bind_eq_some_iff.mp h
  obtain ⟨q1, hq1, h⟩ := Option.bind_eq_some_iff.mp h
  have gq1 := c160 (d := d') (by omega) F _ _ _ _ _ (by rw [hn]; exact r_v0) hq1
  refine Rn.cv (As := [.int v1]) (rr := []) n194_2 mo194 mm11_222 (by decide) mq160 rfl rfl rfl rfl (by rw [mo160]; exact hu2) (Nat.le_of_ble_eq_true rfl) (by rw [hn]; exact (okc (okr r_v0) (okc rfl okn))) (by rw [hn]; exact okn) (by rw [hn]; exact ok) (by rw [ml160]; exact Nat.le_of_ble_eq_true rfl) gq1 ?_
  have hn := (Rn.len gq1).trans hn
  show Rn _ 194 5 lv [.int q1.1] q1.2 c w _
  by_cases hc3 : mc1 .ne q1.1 = true
  · rw [if_pos hc3] at h
    refine Rn.c1t (t := 12) n194_5 (by decide) hc3 ?_
    refine Rn.aload_n n194_12 l0 ?_
    obtain ⟨x4, hx4, h⟩ := Option.bind_eq_some_iff.mp h
    refine Rn.gf n194_13 mo194 fl11_40 (gfr_v hx4).1 ?_
    have r_x4 : x4 < n := by rw [← hn]; exact (gfr_v hx4).2
    refine Rn.iload_n n194_16 l1 ?_
    obtain ⟨x5, hx5, h⟩ := Option.bind_eq_some_iff.mp h
    refine Rn.iald n194_17 hx5 ?_
    refine Rn.bp (v := 8) n194_18 (by decide) ?_
    by_cases hc6 : mc2 .le x5 8 = true
    · rw [if_pos hc6] at h
      refine Rn.c2t (t := 27) n194_20 (by decide) hc6 ?_
      refine Rn.aload_n n194_27 l0 ?_
      obtain ⟨u8, hu8, h⟩ := Option.bind_eq_some_iff.mp h
      obtain ⟨q7, hq7, h⟩ := Option.bind_eq_some_iff.mp h
      have gq7 := c154 (d := d') (by omega) F _ _ _ _ (by rw [hn]; exact r_v0) hq7
      refine Rn.cv (As := []) (rr := []) n194_28 mo194 mm11_198 (by decide) mq154 rfl rfl rfl rfl (by rw [mo154]; exact hu8) (Nat.le_of_ble_eq_true rfl) (by rw [hn]; exact (okc (okr r_v0) okn)) (by rw [hn]; exact okn) (by rw [hn]; exact ok) (by rw [ml154]; exact Nat.le_of_ble_eq_true rfl) gq7 ?_
      have hn := (Rn.len gq7).trans hn
      show Rn _ 194 31 lv [] q7.2 c w _
      refine Rn.ic (v := 1) n194_31 (by decide) ?_
      refine Rn.isn (m := n) n194_32 rfl ml194 (by decide) (fun lv l2 hk hok => ?_)
      have l0 := hk 0 _ (by decide) (Or.inl rfl) l0
      have l1 := hk 1 _ (by decide) (Or.inl rfl) l1
      have ok := hok ok
      exact t194_33 hd F  F _ _ _ lv _ _ _ l0 l1 l2 ok hn r_v0  h
    · rw [if_neg hc6] at h
      refine Rn.c2f (t := 27) n194_20 (by decide) hc6 ?_
      refine Rn.sp (v := (-1005)) n194_23 (by decide) ?_
      have e1 := (Prod.mk.inj (Option.some.inj h)).1
      have e2 := (Prod.mk.inj (Option.some.inj h)).2
      subst e1
      subst e2
      exact Rn.iret n194_26 mr194
  · rw [if_neg hc3] at h
    refine Rn.c1f (t := 12) n194_5 (by decide) hc3 ?_
    refine Rn.sp (v := (-1001)) n194_8 (by decide) ?_
    have e1 := (Prod.mk.inj (Option.some.inj h)).1
    have e2 := (Prod.mk.inj (Option.some.inj h)).2
    subst e1
    subst e2
    exact Rn.iret n194_11 mr194
def e194 (F : Nat) (a0 : Nat) (a1 : Int32) (hp : List mE) : Option (Int32 × List mE) := m194_0 F a0 a1 hp
theorem c194 {d : Nat} (hd : 2 ≤ d) (F : Nat) (a0 : Nat) (a1 : Int32) (hp : List mE) (v : Int32) (hp' : List mE) (ra0 : a0 < hp.length) (h : e194 F a0 a1 hp = some (v, hp')) : Rn d 194 0 (lv_args 0 [.ref a0, .int a1]) [] hp 0 0 (some (.int v), hp', 0, 0) :=
  t194_0 (n := hp.length) hd F a0 a1 (lv_args 0 [.ref a0, .int a1]) hp v hp' rfl rfl (lvk_args (okc (okr ra0) (okc rfl okn))) rfl ra0 h
/-! MirrorRootsModel.isShift -/
def m195_76 (F : Nat) (rc2 : Nat → Int32 → Int32 → List mE → Option (Int32 × List mE)) (v0 : Nat) (v1 : Int32) (v2 : Int32) (v3 : Int32) (hp : List mE) : Option (Int32 × List mE) :=
  if mc1 .eq v3 = true then
    rc2 v0 v1 (v2 + 1) hp
  else
    some (1, hp)
theorem t195_76 {d c w n : Nat} (hd : 0 ≤ d) (F : Nat) {rc2 : Nat → Int32 → Int32 → List mE → Option (Int32 × List mE)} (hr2 : ∀ (v0 : Nat) (v1 : Int32) (v2 : Int32) (lv : List (Nat × Value)) (hp : List mE) (v : Int32) (hp' : List mE), alk 0 lv = some (.ref v0) → alk 1 lv = some (.int v1) → alk 2 lv = some (.int v2) → lvk n lv → hp.length = n → v0 < n → rc2 v0 v1 v2 hp = some (v, hp') → Rn d 195 2 lv [] hp c w (some (.int v), hp', c, w)) : ∀ (v0 : Nat) (v1 : Int32) (v2 : Int32) (v3 : Int32) (lv : List (Nat × Value)) (hp : List mE) (v : Int32) (hp' : List mE), alk 0 lv = some (.ref v0) → alk 1 lv = some (.int v1) → alk 2 lv = some (.int v2) → alk 3 lv = some (.int v3) → lvk n lv → hp.length = n → v0 < n → m195_76 F rc2 v0 v1 v2 v3 hp = some (v, hp') → Rn d 195 76 lv [] hp c w (some (.int v), hp', c, w) := by
  intro v0 v1 v2 v3 lv hp v hp' l0 l1 l2 l3 ok hn r_v0 h
  unfold m195_76 at h
  refine Rn.iload_n n195_76 l3 ?_
  by_cases hc1 : mc1 .eq v3 = true
  · rw [if_pos hc1] at h
    refine Rn.c1t (t := 82) n195_77 (by decide) hc1 ?_
    refine Rn.ii (m := n) (u := 1) n195_82 ml195 (by decide) (by decide) l2 (fun lv l2 hk hok => ?_)
    have l0 := hk 0 _ (by decide) (Or.inl rfl) l0
    have l1 := hk 1 _ (by decide) (Or.inl rfl) l1
    have l3 := hk 3 _ (by decide) (Or.inl rfl) l3
    have ok := hok ok
    refine Rn.goto (t := 2) n195_85 (by decide) ?_
    exact hr2 _ _ _ lv _ _ _ l0 l1 l2 ok hn r_v0  h
  · rw [if_neg hc1] at h
    refine Rn.c1f (t := 82) n195_77 (by decide) hc1 ?_
    refine Rn.ic (v := 1) n195_80 (by decide) ?_
    have e1 := (Prod.mk.inj (Option.some.inj h)).1
    have e2 := (Prod.mk.inj (Option.some.inj h)).2
    subst e1
    subst e2
    exact Rn.zret n195_81 mr195 (Or.inr rfl)
def m195_69 (F : Nat) (rc2 : Nat → Int32 → Int32 → List mE → Option (Int32 × List mE)) (rc29 : Nat → Int32 → Int32 → Int32 → Int32 → List mE → Option (Int32 × List mE)) (v0 : Nat) (v1 : Int32) (v2 : Int32) (v4 : Int32) (t0 : Int32) (hp : List mE) : Option (Int32 × List mE) :=
  rc29 v0 v1 v2 t0 (v4 + 1) hp
theorem t195_69 {d c w n : Nat} (hd : 0 ≤ d) (F : Nat) {rc2 : Nat → Int32 → Int32 → List mE → Option (Int32 × List mE)} {rc29 : Nat → Int32 → Int32 → Int32 → Int32 → List mE → Option (Int32 × List mE)} (hr2 : ∀ (v0 : Nat) (v1 : Int32) (v2 : Int32) (lv : List (Nat × Value)) (hp : List mE) (v : Int32) (hp' : List mE), alk 0 lv = some (.ref v0) → alk 1 lv = some (.int v1) → alk 2 lv = some (.int v2) → lvk n lv → hp.length = n → v0 < n → rc2 v0 v1 v2 hp = some (v, hp') → Rn d 195 2 lv [] hp c w (some (.int v), hp', c, w)) (hr29 : ∀ (v0 : Nat) (v1 : Int32) (v2 : Int32) (v3 : Int32) (v4 : Int32) (lv : List (Nat × Value)) (hp : List mE) (v : Int32) (hp' : List mE), alk 0 lv = some (.ref v0) → alk 1 lv = some (.int v1) → alk 2 lv = some (.int v2) → alk 3 lv = some (.int v3) → alk 4 lv = some (.int v4) → lvk n lv → hp.length = n → v0 < n → rc29 v0 v1 v2 v3 v4 hp = some (v, hp') → Rn d 195 29 lv [] hp c w (some (.int v), hp', c, w)) : ∀ (v0 : Nat) (v1 : Int32) (v2 : Int32) (v4 : Int32) (t0 : Int32) (lv : List (Nat × Value)) (hp : List mE) (v : Int32) (hp' : List mE), alk 0 lv = some (.ref v0) → alk 1 lv = some (.int v1) → alk 2 lv = some (.int v2) → alk 4 lv = some (.int v4) → lvk n lv → hp.length = n → v0 < n → m195_69 F rc2 rc29 v0 v1 v2 v4 t0 hp = some (v, hp') → Rn d 195 69 lv [.int t0] hp c w (some (.int v), hp', c, w) := by
  intro v0 v1 v2 v4 t0 lv hp v hp' l0 l1 l2 l4 ok hn r_v0 h
  unfold m195_69 at h
  refine Rn.isn (m := n) n195_69 rfl ml195 (by decide) (fun lv l3 hk hok => ?_)
  have l0 := hk 0 _ (by decide) (Or.inl rfl) l0
  have l1 := hk 1 _ (by decide) (Or.inl rfl) l1
  have l2 := hk 2 _ (by decide) (Or.inl rfl) l2
  have l4 := hk 4 _ (by decide) (Or.inl rfl) l4
  have ok := hok ok
  refine Rn.ii (m := n) (u := 1) n195_70 ml195 (by decide) (by decide) l4 (fun lv l4 hk hok => ?_)
  have l0 := hk 0 _ (by decide) (Or.inl rfl) l0
  have l1 := hk 1 _ (by decide) (Or.inl rfl) l1
  have l2 := hk 2 _ (by decide) (Or.inl rfl) l2
  have l3 := hk 3 _ (by decide) (Or.inl rfl) l3
  have ok := hok ok
  refine Rn.goto (t := 29) n195_73 (by decide) ?_
  exact hr29 _ _ _ _ _ lv _ _ _ l0 l1 l2 l3 l4 ok hn r_v0  h
def m195_29 (F : Nat) (rc2 : Nat → Int32 → Int32 → List mE → Option (Int32 × List mE)) : Nat → Nat → Int32 → Int32 → Int32 → Int32 → List mE → Option (Int32 × List mE)
  | 0, _, _, _, _, _, _ => none
  | f + 1, v0, v1, v2, v3, v4, hp =>
    (gfi 11 15 hp v0).bind fun x1 =>
    if mc2 .ge v4 x1 = true then
      m195_76 F rc2 v0 v1 v2 v3 hp
    else
      if mc1 .eq v3 = true then
        m195_76 F rc2 v0 v1 v2 v3 hp
      else
        (gfr 11 29 hp v0).bind fun x4 =>
        (rdI hp x4 ((20 * v2) + v4)).bind fun x5 =>
        (gfr 11 14 hp v0).bind fun x6 =>
        (rdI hp x6 v4).bind fun x7 =>
        if mc2 .ne x5 x7 = true then
          m195_69 F rc2 (m195_29 F rc2 f) v0 v1 v2 v4 0 hp
        else
          m195_69 F rc2 (m195_29 F rc2 f) v0 v1 v2 v4 1 hp
theorem t195_29 {d c w n : Nat} (hd : 0 ≤ d) (F : Nat) {rc2 : Nat → Int32 → Int32 → List mE → Option (Int32 × List mE)} (hr2 : ∀ (v0 : Nat) (v1 : Int32) (v2 : Int32) (lv : List (Nat × Value)) (hp : List mE) (v : Int32) (hp' : List mE), alk 0 lv = some (.ref v0) → alk 1 lv = some (.int v1) → alk 2 lv = some (.int v2) → lvk n lv → hp.length = n → v0 < n → rc2 v0 v1 v2 hp = some (v, hp') → Rn d 195 2 lv [] hp c w (some (.int v), hp', c, w)) : ∀ f : Nat, ∀ (v0 : Nat) (v1 : Int32) (v2 : Int32) (v3 : Int32) (v4 : Int32) (lv : List (Nat × Value)) (hp : List mE) (v : Int32) (hp' : List mE), alk 0 lv = some (.ref v0) → alk 1 lv = some (.int v1) → alk 2 lv = some (.int v2) → alk 3 lv = some (.int v3) → alk 4 lv = some (.int v4) → lvk n lv → hp.length = n → v0 < n → m195_29 F rc2 f v0 v1 v2 v3 v4 hp = some (v, hp') → Rn d 195 29 lv [] hp c w (some (.int v), hp', c, w) := by
  intro f
  induction f with
  | zero => intro v0 v1 v2 v3 v4 lv hp v hp' l0 l1 l2 l3 l4 ok hn r_v0 h; cases h
  | succ f hr29 =>
    intro v0 v1 v2 v3 v4 lv hp v hp' l0 l1 l2 l3 l4 ok hn r_v0 h
    unfold m195_29 at h
    refine Rn.iload n195_29 l4 ?_
    refine Rn.aload_n n195_31 l0 ?_
    obtain ⟨x1, hx1, h⟩ := Option.bind_eq_some_iff.mp h
    refine Rn.gf n195_32 mo195 fl11_201 (gfi_v hx1) ?_
    by_cases hc2 : mc2 .ge v4 x1 = true
    · rw [if_pos hc2] at h
      refine Rn.c2t (t := 76) n195_35 (by decide) hc2 ?_
      exact t195_76 hd F hr2 _ _ _ _ lv _ _ _ l0 l1 l2 l3 ok hn r_v0  h
    · rw [if_neg hc2] at h
      refine Rn.c2f (t := 76) n195_35 (by decide) hc2 ?_
      refine Rn.iload_n n195_38 l3 ?_
      by_cases hc3 : mc1 .eq v3 = true
      · rw [if_pos hc3] at h
        refine Rn.c1t (t := 76) n195_39 (by decide) hc3 ?_
        exact t195_76 hd F hr2 _ _ _ _ lv _ _ _ l0 l1 l2 l3 ok hn r_v0  h
      · rw [if_neg hc3] at h
        refine Rn.c1f (t := 76) n195_39 (by decide) hc3 ?_
        refine Rn.aload_n n195_42 l0 ?_
        obtain ⟨x4, hx4, h⟩ := Option.bind_eq_some_iff.mp h
        refine Rn.gf n195_43 mo195 fl11_71 (gfr_v hx4).1 ?_
        have r_x4 : x4 < n := by rw [← hn]; exact (gfr_v hx4).2
        refine Rn.bp (v := 20) n195_46 (by decide) ?_
        refine Rn.iload_n n195_48 l2 ?_
        refine Rn.p n195_49 rfl ?_
        refine Rn.iload n195_50 l4 ?_
        refine Rn.p n195_52 rfl ?_
        obtain ⟨x5, hx5, h⟩ := Option.bind_eq_some_iff.mp h
        refine Rn.iald n195_53 hx5 ?_
        refine Rn.aload_n n195_54 l0 ?_
        obtain ⟨x6, hx6, h⟩ := Option.bind_eq_some_iff.mp h
        refine Rn.gf n195_55 mo195 fl11_37 (gfr_v hx6).1 ?_
        have r_x6 : x6 < n := by rw [← hn]; exact (gfr_v hx6).2
        refine Rn.iload n195_58 l4 ?_
        obtain ⟨x7, hx7, h⟩ := Option.bind_eq_some_iff.mp h
        refine Rn.iald n195_60 hx7 ?_
        by_cases hc8 : mc2 .ne x5 x7 = true
        · rw [if_pos hc8] at h
          refine Rn.c2t (t := 68) n195_61 (by decide) hc8 ?_
          refine Rn.ic (v := 0) n195_68 (by decide) ?_
          exact t195_69 hd F hr2 hr29 _ _ _ _ _ lv _ _ _ l0 l1 l2 l4 ok hn r_v0  h
        · rw [if_neg hc8] at h
          refine Rn.c2f (t := 68) n195_61 (by decide) hc8 ?_
          refine Rn.ic (v := 1) n195_64 (by decide) ?_
          refine Rn.goto (t := 69) n195_65 (by decide) ?_
          exact t195_69 hd F hr2 hr29 _ _ _ _ _ lv _ _ _ l0 l1 l2 l4 ok hn r_v0  h
def m195_25 (F : Nat) (rc2 : Nat → Int32 → Int32 → List mE → Option (Int32 × List mE)) (v0 : Nat) (v1 : Int32) (v2 : Int32) (t0 : Int32) (hp : List mE) : Option (Int32 × List mE) :=
  m195_29 F rc2 F v0 v1 v2 t0 0 hp
theorem t195_25 {d c w n : Nat} (hd : 0 ≤ d) (F : Nat) {rc2 : Nat → Int32 → Int32 → List mE → Option (Int32 × List mE)} (hr2 : ∀ (v0 : Nat) (v1 : Int32) (v2 : Int32) (lv : List (Nat × Value)) (hp : List mE) (v : Int32) (hp' : List mE), alk 0 lv = some (.ref v0) → alk 1 lv = some (.int v1) → alk 2 lv = some (.int v2) → lvk n lv → hp.length = n → v0 < n → rc2 v0 v1 v2 hp = some (v, hp') → Rn d 195 2 lv [] hp c w (some (.int v), hp', c, w)) : ∀ (v0 : Nat) (v1 : Int32) (v2 : Int32) (t0 : Int32) (lv : List (Nat × Value)) (hp : List mE) (v : Int32) (hp' : List mE), alk 0 lv = some (.ref v0) → alk 1 lv = some (.int v1) → alk 2 lv = some (.int v2) → lvk n lv → hp.length = n → v0 < n → m195_25 F rc2 v0 v1 v2 t0 hp = some (v, hp') → Rn d 195 25 lv [.int t0] hp c w (some (.int v), hp', c, w) := by
  intro v0 v1 v2 t0 lv hp v hp' l0 l1 l2 ok hn r_v0 h
  unfold m195_25 at h
  refine Rn.isn (m := n) n195_25 rfl ml195 (by decide) (fun lv l3 hk hok => ?_)
  have l0 := hk 0 _ (by decide) (Or.inl rfl) l0
  have l1 := hk 1 _ (by decide) (Or.inl rfl) l1
  have l2 := hk 2 _ (by decide) (Or.inl rfl) l2
  have ok := hok ok
  refine Rn.ic (v := 0) n195_26 (by decide) ?_
  refine Rn.is (m := n) n195_27 ml195 (by decide) (fun lv l4 hk hok => ?_)
  have l0 := hk 0 _ (by decide) (Or.inl rfl) l0
  have l1 := hk 1 _ (by decide) (Or.inl rfl) l1
  have l2 := hk 2 _ (by decide) (Or.inl rfl) l2
  have l3 := hk 3 _ (by decide) (Or.inl rfl) l3
  have ok := hok ok
  exact t195_29 hd F hr2 F _ _ _ _ _ lv _ _ _ l0 l1 l2 l3 l4 ok hn r_v0  h
def m195_2 (F : Nat) : Nat → Nat → Int32 → Int32 → List mE → Option (Int32 × List mE)
  | 0, _, _, _, _ => none
  | f + 1, v0, v1, v2, hp =>
    if mc2 .ge v2 v1 = true then
      some (0, hp)
    else
      (gfr 11 28 hp v0).bind fun x2 =>
      (rdI hp x2 v2).bind fun x3 =>
      (gfi 11 15 hp v0).bind fun x4 =>
      if mc2 .ne x3 x4 = true then
        m195_25 F (m195_2 F f) v0 v1 v2 0 hp
      else
        m195_25 F (m195_2 F f) v0 v1 v2 1 hp
theorem t195_2 {d c w n : Nat} (hd : 0 ≤ d) (F : Nat) : ∀ f : Nat, ∀ (v0 : Nat) (v1 : Int32) (v2 : Int32) (lv : List (Nat × Value)) (hp : List mE) (v : Int32) (hp' : List mE), alk 0 lv = some (.ref v0) → alk 1 lv = some (.int v1) → alk 2 lv = some (.int v2) → lvk n lv → hp.length = n → v0 < n → m195_2 F f v0 v1 v2 hp = some (v, hp') → Rn d 195 2 lv [] hp c w (some (.int v), hp', c, w) := by
  intro f
  induction f with
  | zero => intro v0 v1 v2 lv hp v hp' l0 l1 l2 ok hn r_v0 h; cases h
  | succ f hr2 =>
    intro v0 v1 v2 lv hp v hp' l0 l1 l2 ok hn r_v0 h
    unfold m195_2 at h
    refine Rn.iload_n n195_2 l2 ?_
    refine Rn.iload_n n195_3 l1 ?_
    by_cases hc1 : mc2 .ge v2 v1 = true
    · rw [if_pos hc1] at h
      refine Rn.c2t (t := 88) n195_4 (by decide) hc1 ?_
      refine Rn.ic (v := 0) n195_88 (by decide) ?_
      have e1 := (Prod.mk.inj (Option.some.inj h)).1
      have e2 := (Prod.mk.inj (Option.some.inj h)).2
      subst e1
      subst e2
      exact Rn.zret n195_89 mr195 (Or.inl rfl)
    · rw [if_neg hc1] at h
      refine Rn.c2f (t := 88) n195_4 (by decide) hc1 ?_
      refine Rn.aload_n n195_7 l0 ?_
      obtain ⟨x2, hx2, h⟩ := Option.bind_eq_some_iff.mp h
      refine Rn.gf n195_8 mo195 fl11_68 (gfr_v hx2).1 ?_
      have r_x2 : x2 < n := by rw [← hn]; exact (gfr_v hx2).2
      refine Rn.iload_n n195_11 l2 ?_
      obtain ⟨x3, hx3, h⟩ := Option.bind_eq_some_iff.mp h
      refine Rn.iald n195_12 hx3 ?_
      refine Rn.aload_n n195_13 l0 ?_
      obtain ⟨x4, hx4, h⟩ := Option.bind_eq_some_iff.mp h
      refine Rn.gf n195_14 mo195 fl11_201 (gfi_v hx4) ?_
      by_cases hc5 : mc2 .ne x3 x4 = true
      · rw [if_pos hc5] at h
        refine Rn.c2t (t := 24) n195_17 (by decide) hc5 ?_
        refine Rn.ic (v := 0) n195_24 (by decide) ?_
        exact t195_25 hd F hr2 _ _ _ _ lv _ _ _ l0 l1 l2 ok hn r_v0  h
      · rw [if_neg hc5] at h
        refine Rn.c2f (t := 24) n195_17 (by decide) hc5 ?_
        refine Rn.ic (v := 1) n195_20 (by decide) ?_
        refine Rn.goto (t := 25) n195_21 (by decide) ?_
        exact t195_25 hd F hr2 _ _ _ _ lv _ _ _ l0 l1 l2 ok hn r_v0  h
def m195_0 (F : Nat) (v0 : Nat) (v1 : Int32) (hp : List mE) : Option (Int32 × List mE) :=
  m195_2 F F v0 v1 0 hp
theorem t195_0 {d c w n : Nat} (hd : 0 ≤ d) (F : Nat) : ∀ (v0 : Nat) (v1 : Int32) (lv : List (Nat × Value)) (hp : List mE) (v : Int32) (hp' : List mE), alk 0 lv = some (.ref v0) → alk 1 lv = some (.int v1) → lvk n lv → hp.length = n → v0 < n → m195_0 F v0 v1 hp = some (v, hp') → Rn d 195 0 lv [] hp c w (some (.int v), hp', c, w) := by
  intro v0 v1 lv hp v hp' l0 l1 ok hn r_v0 h
  unfold m195_0 at h
  refine Rn.ic (v := 0) n195_0 (by decide) ?_
  refine Rn.isn (m := n) n195_1 rfl ml195 (by decide) (fun lv l2 hk hok => ?_)
  have l0 := hk 0 _ (by decide) (Or.inl rfl) l0
  have l1 := hk 1 _ (by decide) (Or.inl rfl) l1
  have ok := hok ok
  exact t195_2 hd F  F _ _ _ lv _ _ _ l0 l1 l2 ok hn r_v0  h
def e195 (F : Nat) (a0 : Nat) (a1 : Int32) (hp : List mE) : Option (Int32 × List mE) := m195_0 F a0 a1 hp
theorem c195 {d : Nat} (hd : 0 ≤ d) (F : Nat) (a0 : Nat) (a1 : Int32) (hp : List mE) (v : Int32) (hp' : List mE) (ra0 : a0 < hp.length) (h : e195 F a0 a1 hp = some (v, hp')) : Rn d 195 0 (lv_args 0 [.ref a0, .int a1]) [] hp 0 0 (some (.int v), hp', 0, 0) :=
  t195_0 (n := hp.length) hd F a0 a1 (lv_args 0 [.ref a0, .int a1]) hp v hp' rfl rfl (lvk_args (okc (okr ra0) (okc rfl okn))) rfl ra0 h
/-! MirrorRootsModel.putShift -/
def m196_12 (F : Nat) : Nat → Nat → Int32 → Int32 → List mE → Option (Unit × List mE)
  | 0, _, _, _, _ => none
  | f + 1, v0, v1, v2, hp =>
    (gfi 11 15 hp v0).bind fun x1 =>
    if mc2 .ge v2 x1 = true then
      some ((), hp)
    else
      (gfr 11 29 hp v0).bind fun x3 =>
      (gfr 11 14 hp v0).bind fun x4 =>
      (rdI hp x4 v2).bind fun x5 =>
      (wrI hp x3 ((20 * v1) + v2) x5).bind fun hp6 =>
      m196_12 F f v0 v1 (v2 + 1) hp6
theorem t196_12 {d c w n : Nat} (hd : 0 ≤ d) (F : Nat) : ∀ f : Nat, ∀ (v0 : Nat) (v1 : Int32) (v2 : Int32) (lv : List (Nat × Value)) (hp : List mE) (v : Unit) (hp' : List mE), alk 0 lv = some (.ref v0) → alk 1 lv = some (.int v1) → alk 2 lv = some (.int v2) → lvk n lv → hp.length = n → v0 < n → m196_12 F f v0 v1 v2 hp = some (v, hp') → Rn d 196 12 lv [] hp c w (none, hp', c, w) := by
  intro f
  induction f with
  | zero => intro v0 v1 v2 lv hp v hp' l0 l1 l2 ok hn r_v0 h; cases h
  | succ f hr12 =>
    intro v0 v1 v2 lv hp v hp' l0 l1 l2 ok hn r_v0 h
    unfold m196_12 at h
    refine Rn.iload_n n196_12 l2 ?_
    refine Rn.aload_n n196_13 l0 ?_
    obtain ⟨x1, hx1, h⟩ := Option.bind_eq_some_iff.mp h
    refine Rn.gf n196_14 mo196 fl11_201 (gfi_v hx1) ?_
    by_cases hc2 : mc2 .ge v2 x1 = true
    · rw [if_pos hc2] at h
      refine Rn.c2t (t := 43) n196_17 (by decide) hc2 ?_
      have e1 := (Prod.mk.inj (Option.some.inj h)).1
      have e2 := (Prod.mk.inj (Option.some.inj h)).2
      subst e1
      subst e2
      exact Rn.vret n196_43 mr196
    · rw [if_neg hc2] at h
      refine Rn.c2f (t := 43) n196_17 (by decide) hc2 ?_
      refine Rn.aload_n n196_20 l0 ?_
      obtain ⟨x3, hx3, h⟩ := Option.bind_eq_some_iff.mp h
      refine Rn.gf n196_21 mo196 fl11_71 (gfr_v hx3).1 ?_
      have r_x3 : x3 < n := by rw [← hn]; exact (gfr_v hx3).2
      refine Rn.bp (v := 20) n196_24 (by decide) ?_
      refine Rn.iload_n n196_26 l1 ?_
      refine Rn.p n196_27 rfl ?_
      refine Rn.iload_n n196_28 l2 ?_
      refine Rn.p n196_29 rfl ?_
      refine Rn.aload_n n196_30 l0 ?_
      obtain ⟨x4, hx4, h⟩ := Option.bind_eq_some_iff.mp h
      refine Rn.gf n196_31 mo196 fl11_37 (gfr_v hx4).1 ?_
      have r_x4 : x4 < n := by rw [← hn]; exact (gfr_v hx4).2
      refine Rn.iload_n n196_34 l2 ?_
      obtain ⟨x5, hx5, h⟩ := Option.bind_eq_some_iff.mp h
      refine Rn.iald n196_35 hx5 ?_
      obtain ⟨hp6, hhp6, h⟩ := Option.bind_eq_some_iff.mp h
      refine Rn.iast n196_36 hhp6 ?_
      have hn := (wrI_st (st := []) hhp6).2.trans hn
      refine Rn.ii (m := n) (u := 1) n196_37 ml196 (by decide) (by decide) l2 (fun lv l2 hk hok => ?_)
      have l0 := hk 0 _ (by decide) (Or.inl rfl) l0
      have l1 := hk 1 _ (by decide) (Or.inl rfl) l1
      have ok := hok ok
      refine Rn.goto (t := 12) n196_40 (by decide) ?_
      exact hr12 _ _ _ lv _ _ _ l0 l1 l2 ok hn r_v0  h
def m196_0 (F : Nat) (v0 : Nat) (v1 : Int32) (hp : List mE) : Option (Unit × List mE) :=
  (gfr 11 28 hp v0).bind fun x1 =>
  (gfi 11 15 hp v0).bind fun x2 =>
  (wrI hp x1 v1 x2).bind fun hp3 =>
  m196_12 F F v0 v1 0 hp3
theorem t196_0 {d c w n : Nat} (hd : 0 ≤ d) (F : Nat) : ∀ (v0 : Nat) (v1 : Int32) (lv : List (Nat × Value)) (hp : List mE) (v : Unit) (hp' : List mE), alk 0 lv = some (.ref v0) → alk 1 lv = some (.int v1) → lvk n lv → hp.length = n → v0 < n → m196_0 F v0 v1 hp = some (v, hp') → Rn d 196 0 lv [] hp c w (none, hp', c, w) := by
  intro v0 v1 lv hp v hp' l0 l1 ok hn r_v0 h
  unfold m196_0 at h
  refine Rn.aload_n n196_0 l0 ?_
  obtain ⟨x1, hx1, h⟩ := Option.bind_eq_some_iff.mp h
  refine Rn.gf n196_1 mo196 fl11_68 (gfr_v hx1).1 ?_
  have r_x1 : x1 < n := by rw [← hn]; exact (gfr_v hx1).2
  refine Rn.iload_n n196_4 l1 ?_
  refine Rn.aload_n n196_5 l0 ?_
  obtain ⟨x2, hx2, h⟩ := Option.bind_eq_some_iff.mp h
  refine Rn.gf n196_6 mo196 fl11_201 (gfi_v hx2) ?_
  obtain ⟨hp3, hhp3, h⟩ := Option.bind_eq_some_iff.mp h
  refine Rn.iast n196_9 hhp3 ?_
  have hn := (wrI_st (st := []) hhp3).2.trans hn
  refine Rn.ic (v := 0) n196_10 (by decide) ?_
  refine Rn.isn (m := n) n196_11 rfl ml196 (by decide) (fun lv l2 hk hok => ?_)
  have l0 := hk 0 _ (by decide) (Or.inl rfl) l0
  have l1 := hk 1 _ (by decide) (Or.inl rfl) l1
  have ok := hok ok
  exact t196_12 hd F  F _ _ _ lv _ _ _ l0 l1 l2 ok hn r_v0  h
def e196 (F : Nat) (a0 : Nat) (a1 : Int32) (hp : List mE) : Option (Unit × List mE) := m196_0 F a0 a1 hp
theorem c196 {d : Nat} (hd : 0 ≤ d) (F : Nat) (a0 : Nat) (a1 : Int32) (hp : List mE) (v : Unit) (hp' : List mE) (ra0 : a0 < hp.length) (h : e196 F a0 a1 hp = some (v, hp')) : Rn d 196 0 (lv_args 0 [.ref a0, .int a1]) [] hp 0 0 (none, hp', 0, 0) :=
  t196_0 (n := hp.length) hd F a0 a1 (lv_args 0 [.ref a0, .int a1]) hp v hp' rfl rfl (lvk_args (okc (okr ra0) (okc rfl okn))) rfl ra0 h
/-! MirrorRootsModel.shifts -/
def m197_283 (F : Nat) (t0 : Int32) (hp : List mE) : Option (Int32 × List mE) :=
  some (t0, hp)
theorem t197_283 {d c w n : Nat} (hd : 3 ≤ d) (F : Nat) : ∀ (t0 : Int32) (lv : List (Nat × Value)) (hp : List mE) (v : Int32) (hp' : List mE), lvk n lv → hp.length = n → m197_283 F t0 hp = some (v, hp') → Rn d 197 283 lv [.int t0] hp c w (some (.int v), hp', c, w) := by
  obtain ⟨d', rfl⟩ : ∃ d', d = d' + 1 := ⟨d - 1, by omega⟩
  intro t0 lv hp v hp' ok hn h
  unfold m197_283 at h
  have e1 := (Prod.mk.inj (Option.some.inj h)).1
  have e2 := (Prod.mk.inj (Option.some.inj h)).2
  subst e1
  subst e2
  exact Rn.iret n197_283 mr197
def m197_254 (F : Nat) (rc229 : Nat → Int32 → Int32 → Int32 → Int32 → Int32 → List mE → Option (Int32 × List mE)) (v0 : Nat) (v2 : Int32) (v3 : Int32) (v4 : Int32) (v6 : Int32) (t0 : Int32) (t1 : Int32) (hp : List mE) : Option (Int32 × List mE) :=
  rc229 v0 v2 v3 v4 (t0 + t1) (v6 + 1) hp
theorem t197_254 {d c w n : Nat} (hd : 3 ≤ d) (F : Nat) {rc229 : Nat → Int32 → Int32 → Int32 → Int32 → Int32 → List mE → Option (Int32 × List mE)} (hr229 : ∀ (v0 : Nat) (v2 : Int32) (v3 : Int32) (v4 : Int32) (v5 : Int32) (v6 : Int32) (lv : List (Nat × Value)) (hp : List mE) (v : Int32) (hp' : List mE), alk 0 lv = some (.ref v0) → alk 2 lv = some (.int v2) → alk 3 lv = some (.int v3) → alk 4 lv = some (.int v4) → alk 5 lv = some (.int v5) → alk 6 lv = some (.int v6) → lvk n lv → hp.length = n → v0 < n → rc229 v0 v2 v3 v4 v5 v6 hp = some (v, hp') → Rn d 197 229 lv [] hp c w (some (.int v), hp', c, w)) : ∀ (v0 : Nat) (v2 : Int32) (v3 : Int32) (v4 : Int32) (v6 : Int32) (t0 : Int32) (t1 : Int32) (lv : List (Nat × Value)) (hp : List mE) (v : Int32) (hp' : List mE), alk 0 lv = some (.ref v0) → alk 2 lv = some (.int v2) → alk 3 lv = some (.int v3) → alk 4 lv = some (.int v4) → alk 6 lv = some (.int v6) → lvk n lv → hp.length = n → v0 < n → m197_254 F rc229 v0 v2 v3 v4 v6 t0 t1 hp = some (v, hp') → Rn d 197 254 lv [.int t1, .int t0] hp c w (some (.int v), hp', c, w) := by
  obtain ⟨d', rfl⟩ : ∃ d', d = d' + 1 := ⟨d - 1, by omega⟩
  intro v0 v2 v3 v4 v6 t0 t1 lv hp v hp' l0 l2 l3 l4 l6 ok hn r_v0 h
  unfold m197_254 at h
  refine Rn.p n197_254 rfl ?_
  refine Rn.is (m := n) n197_255 ml197 (by decide) (fun lv l5 hk hok => ?_)
  have l0 := hk 0 _ (by decide) (Or.inl rfl) l0
  have l2 := hk 2 _ (by decide) (Or.inl rfl) l2
  have l3 := hk 3 _ (by decide) (Or.inl rfl) l3
  have l4 := hk 4 _ (by decide) (Or.inl rfl) l4
  have l6 := hk 6 _ (by decide) (Or.inl rfl) l6
  have ok := hok ok
  refine Rn.ii (m := n) (u := 1) n197_257 ml197 (by decide) (by decide) l6 (fun lv l6 hk hok => ?_)
  have l0 := hk 0 _ (by decide) (Or.inl rfl) l0
  have l2 := hk 2 _ (by decide) (Or.inl rfl) l2
  have l3 := hk 3 _ (by decide) (Or.inl rfl) l3
  have l4 := hk 4 _ (by decide) (Or.inl rfl) l4
  have l5 := hk 5 _ (by decide) (Or.inl rfl) l5
  have ok := hok ok
  refine Rn.goto (t := 229) n197_260 (by decide) ?_
  exact hr229 _ _ _ _ _ _ lv _ _ _ l0 l2 l3 l4 l5 l6 ok hn r_v0  h
def m197_229 (F : Nat) : Nat → Nat → Int32 → Int32 → Int32 → Int32 → Int32 → List mE → Option (Int32 × List mE)
  | 0, _, _, _, _, _, _, _ => none
  | f + 1, v0, v2, v3, v4, v5, v6, hp =>
    if mc2 .ge v6 v3 = true then
      if mc1 .ne v2 = true then
        if mc2 .ne v2 1 = true then
          m197_283 F v3 hp
        else
          m197_283 F v5 hp
      else
        m197_283 F v4 hp
    else
      (gfr 11 28 hp v0).bind fun x4 =>
      (rdI hp x4 v6).bind fun x5 =>
      if mc2 .ne x5 v4 = true then
        m197_254 F (m197_229 F f) v0 v2 v3 v4 v6 v5 0 hp
      else
        m197_254 F (m197_229 F f) v0 v2 v3 v4 v6 v5 1 hp
theorem t197_229 {d c w n : Nat} (hd : 3 ≤ d) (F : Nat) : ∀ f : Nat, ∀ (v0 : Nat) (v2 : Int32) (v3 : Int32) (v4 : Int32) (v5 : Int32) (v6 : Int32) (lv : List (Nat × Value)) (hp : List mE) (v : Int32) (hp' : List mE), alk 0 lv = some (.ref v0) → alk 2 lv = some (.int v2) → alk 3 lv = some (.int v3) → alk 4 lv = some (.int v4) → alk 5 lv = some (.int v5) → alk 6 lv = some (.int v6) → lvk n lv → hp.length = n → v0 < n → m197_229 F f v0 v2 v3 v4 v5 v6 hp = some (v, hp') → Rn d 197 229 lv [] hp c w (some (.int v), hp', c, w) := by
  obtain ⟨d', rfl⟩ : ∃ d', d = d' + 1 := ⟨d - 1, by omega⟩
  intro f
  induction f with
  | zero => intro v0 v2 v3 v4 v5 v6 lv hp v hp' l0 l2 l3 l4 l5 l6 ok hn r_v0 h; cases h
  | succ f hr229 =>
    intro v0 v2 v3 v4 v5 v6 lv hp v hp' l0 l2 l3 l4 l5 l6 ok hn r_v0 h
    unfold m197_229 at h
    refine Rn.iload n197_229 l6 ?_
    refine Rn.iload_n n197_231 l3 ?_
    by_cases hc1 : mc2 .ge v6 v3 = true
    · rw [if_pos hc1] at h
      refine Rn.c2t (t := 263) n197_232 (by decide) hc1 ?_
      refine Rn.iload_n n197_263 l2 ?_
      by_cases hc2 : mc1 .ne v2 = true
      · rw [if_pos hc2] at h
        refine Rn.c1t (t := 272) n197_264 (by decide) hc2 ?_
        refine Rn.iload_n n197_272 l2 ?_
        refine Rn.ic (v := 1) n197_273 (by decide) ?_
        by_cases hc3 : mc2 .ne v2 1 = true
        · rw [if_pos hc3] at h
          refine Rn.c2t (t := 282) n197_274 (by decide) hc3 ?_
          refine Rn.iload_n n197_282 l3 ?_
          exact t197_283 hd F  _ lv _ _ _  ok hn   h
        · rw [if_neg hc3] at h
          refine Rn.c2f (t := 282) n197_274 (by decide) hc3 ?_
          refine Rn.iload n197_277 l5 ?_
          refine Rn.goto (t := 283) n197_279 (by decide) ?_
          exact t197_283 hd F  _ lv _ _ _  ok hn   h
      · rw [if_neg hc2] at h
        refine Rn.c1f (t := 272) n197_264 (by decide) hc2 ?_
        refine Rn.iload n197_267 l4 ?_
        refine Rn.goto (t := 283) n197_269 (by decide) ?_
        exact t197_283 hd F  _ lv _ _ _  ok hn   h
    · rw [if_neg hc1] at h
      refine Rn.c2f (t := 263) n197_232 (by decide) hc1 ?_
      refine Rn.iload n197_235 l5 ?_
      refine Rn.aload_n n197_237 l0 ?_
      obtain ⟨x4, hx4, h⟩ := Option.bind_eq_some_iff.mp h
      refine Rn.gf n197_238 mo197 fl11_68 (gfr_v hx4).1 ?_
      have r_x4 : x4 < n := by rw [← hn]; exact (gfr_v hx4).2
      refine Rn.iload n197_241 l6 ?_
      obtain ⟨x5, hx5, h⟩ := Option.bind_eq_some_iff.mp h
      refine Rn.iald n197_243 hx5 ?_
      refine Rn.iload n197_244 l4 ?_
      by_cases hc6 : mc2 .ne x5 v4 = true
      · rw [if_pos hc6] at h
        refine Rn.c2t (t := 253) n197_246 (by decide) hc6 ?_
        refine Rn.ic (v := 0) n197_253 (by decide) ?_
        exact t197_254 hd F hr229 _ _ _ _ _ _ _ lv _ _ _ l0 l2 l3 l4 l6 ok hn r_v0  h
      · rw [if_neg hc6] at h
        refine Rn.c2f (t := 253) n197_246 (by decide) hc6 ?_
        refine Rn.ic (v := 1) n197_249 (by decide) ?_
        refine Rn.goto (t := 254) n197_250 (by decide) ?_
        exact t197_254 hd F hr229 _ _ _ _ _ _ _ lv _ _ _ l0 l2 l3 l4 l6 ok hn r_v0  h
def m197_215 (F : Nat) (rc185 : Nat → Int32 → Int32 → Int32 → Int32 → List mE → Option (Int32 × List mE)) (v0 : Nat) (v2 : Int32) (v3 : Int32) (v5 : Int32) (t0 : Int32) (hp : List mE) : Option (Int32 × List mE) :=
  rc185 v0 v2 v3 t0 (v5 + 1) hp
theorem t197_215 {d c w n : Nat} (hd : 3 ≤ d) (F : Nat) {rc185 : Nat → Int32 → Int32 → Int32 → Int32 → List mE → Option (Int32 × List mE)} (hr185 : ∀ (v0 : Nat) (v2 : Int32) (v3 : Int32) (v4 : Int32) (v5 : Int32) (lv : List (Nat × Value)) (hp : List mE) (v : Int32) (hp' : List mE), alk 0 lv = some (.ref v0) → alk 2 lv = some (.int v2) → alk 3 lv = some (.int v3) → alk 4 lv = some (.int v4) → alk 5 lv = some (.int v5) → lvk n lv → hp.length = n → v0 < n → rc185 v0 v2 v3 v4 v5 hp = some (v, hp') → Rn d 197 185 lv [] hp c w (some (.int v), hp', c, w)) : ∀ (v0 : Nat) (v2 : Int32) (v3 : Int32) (v5 : Int32) (t0 : Int32) (lv : List (Nat × Value)) (hp : List mE) (v : Int32) (hp' : List mE), alk 0 lv = some (.ref v0) → alk 2 lv = some (.int v2) → alk 3 lv = some (.int v3) → alk 5 lv = some (.int v5) → lvk n lv → hp.length = n → v0 < n → m197_215 F rc185 v0 v2 v3 v5 t0 hp = some (v, hp') → Rn d 197 215 lv [.int t0] hp c w (some (.int v), hp', c, w) := by
  obtain ⟨d', rfl⟩ : ∃ d', d = d' + 1 := ⟨d - 1, by omega⟩
  intro v0 v2 v3 v5 t0 lv hp v hp' l0 l2 l3 l5 ok hn r_v0 h
  unfold m197_215 at h
  refine Rn.is (m := n) n197_215 ml197 (by decide) (fun lv l4 hk hok => ?_)
  have l0 := hk 0 _ (by decide) (Or.inl rfl) l0
  have l2 := hk 2 _ (by decide) (Or.inl rfl) l2
  have l3 := hk 3 _ (by decide) (Or.inl rfl) l3
  have l5 := hk 5 _ (by decide) (Or.inl rfl) l5
  have ok := hok ok
  refine Rn.ii (m := n) (u := 1) n197_217 ml197 (by decide) (by decide) l5 (fun lv l5 hk hok => ?_)
  have l0 := hk 0 _ (by decide) (Or.inl rfl) l0
  have l2 := hk 2 _ (by decide) (Or.inl rfl) l2
  have l3 := hk 3 _ (by decide) (Or.inl rfl) l3
  have l4 := hk 4 _ (by decide) (Or.inl rfl) l4
  have ok := hok ok
  refine Rn.goto (t := 185) n197_220 (by decide) ?_
  exact hr185 _ _ _ _ _ lv _ _ _ l0 l2 l3 l4 l5 ok hn r_v0  h
def m197_185 (F : Nat) : Nat → Nat → Int32 → Int32 → Int32 → Int32 → List mE → Option (Int32 × List mE)
  | 0, _, _, _, _, _, _ => none
  | f + 1, v0, v2, v3, v4, v5, hp =>
    if mc2 .ge v5 v3 = true then
      m197_229 F F v0 v2 v3 v4 0 0 hp
    else
      (gfr 11 28 hp v0).bind fun x2 =>
      (rdI hp x2 v5).bind fun x3 =>
      if mc2 .ge x3 v4 = true then
        m197_215 F (m197_185 F f) v0 v2 v3 v5 v4 hp
      else
        (gfr 11 28 hp v0).bind fun x5 =>
        (rdI hp x5 v5).bind fun x6 =>
        m197_215 F (m197_185 F f) v0 v2 v3 v5 x6 hp
theorem t197_185 {d c w n : Nat} (hd : 3 ≤ d) (F : Nat) : ∀ f : Nat, ∀ (v0 : Nat) (v2 : Int32) (v3 : Int32) (v4 : Int32) (v5 : Int32) (lv : List (Nat × Value)) (hp : List mE) (v : Int32) (hp' : List mE), alk 0 lv = some (.ref v0) → alk 2 lv = some (.int v2) → alk 3 lv = some (.int v3) → alk 4 lv = some (.int v4) → alk 5 lv = some (.int v5) → lvk n lv → hp.length = n → v0 < n → m197_185 F f v0 v2 v3 v4 v5 hp = some (v, hp') → Rn d 197 185 lv [] hp c w (some (.int v), hp', c, w) := by
  obtain ⟨d', rfl⟩ : ∃ d', d = d' + 1 := ⟨d - 1, by omega⟩
  intro f
  induction f with
  | zero => intro v0 v2 v3 v4 v5 lv hp v hp' l0 l2 l3 l4 l5 ok hn r_v0 h; cases h
  | succ f hr185 =>
    intro v0 v2 v3 v4 v5 lv hp v hp' l0 l2 l3 l4 l5 ok hn r_v0 h
    unfold m197_185 at h
    refine Rn.iload n197_185 l5 ?_
    refine Rn.iload_n n197_187 l3 ?_
    by_cases hc1 : mc2 .ge v5 v3 = true
    · rw [if_pos hc1] at h
      refine Rn.c2t (t := 223) n197_188 (by decide) hc1 ?_
      refine Rn.ic (v := 0) n197_223 (by decide) ?_
      refine Rn.is (m := n) n197_224 ml197 (by decide) (fun lv l5 hk hok => ?_)
      have l0 := hk 0 _ (by decide) (Or.inl rfl) l0
      have l2 := hk 2 _ (by decide) (Or.inl rfl) l2
      have l3 := hk 3 _ (by decide) (Or.inl rfl) l3
      have l4 := hk 4 _ (by decide) (Or.inl rfl) l4
      have ok := hok ok
      refine Rn.ic (v := 0) n197_226 (by decide) ?_
      refine Rn.is (m := n) n197_227 ml197 (by decide) (fun lv l6 hk hok => ?_)
      have l0 := hk 0 _ (by decide) (Or.inl rfl) l0
      have l2 := hk 2 _ (by decide) (Or.inl rfl) l2
      have l3 := hk 3 _ (by decide) (Or.inl rfl) l3
      have l4 := hk 4 _ (by decide) (Or.inl rfl) l4
      have l5 := hk 5 _ (by decide) (Or.inl rfl) l5
      have ok := hok ok
      exact t197_229 hd F  F _ _ _ _ _ _ lv _ _ _ l0 l2 l3 l4 l5 l6 ok hn r_v0  h
    · rw [if_neg hc1] at h
      refine Rn.c2f (t := 223) n197_188 (by decide) hc1 ?_
      refine Rn.aload_n n197_191 l0 ?_
      obtain ⟨x2, hx2, h⟩ := Option.bind_eq_some_iff.mp h
      refine Rn.gf n197_192 mo197 fl11_68 (gfr_v hx2).1 ?_
      have r_x2 : x2 < n := by rw [← hn]; exact (gfr_v hx2).2
      refine Rn.iload n197_195 l5 ?_
      obtain ⟨x3, hx3, h⟩ := Option.bind_eq_some_iff.mp h
      refine Rn.iald n197_197 hx3 ?_
      refine Rn.iload n197_198 l4 ?_
      by_cases hc4 : mc2 .ge x3 v4 = true
      · rw [if_pos hc4] at h
        refine Rn.c2t (t := 213) n197_200 (by decide) hc4 ?_
        refine Rn.iload n197_213 l4 ?_
        exact t197_215 hd F hr185 _ _ _ _ _ lv _ _ _ l0 l2 l3 l5 ok hn r_v0  h
      · rw [if_neg hc4] at h
        refine Rn.c2f (t := 213) n197_200 (by decide) hc4 ?_
        refine Rn.aload_n n197_203 l0 ?_
        obtain ⟨x5, hx5, h⟩ := Option.bind_eq_some_iff.mp h
        refine Rn.gf n197_204 mo197 fl11_68 (gfr_v hx5).1 ?_
        have r_x5 : x5 < n := by rw [← hn]; exact (gfr_v hx5).2
        refine Rn.iload n197_207 l5 ?_
        obtain ⟨x6, hx6, h⟩ := Option.bind_eq_some_iff.mp h
        refine Rn.iald n197_209 hx6 ?_
        refine Rn.goto (t := 215) n197_210 (by decide) ?_
        exact t197_215 hd F hr185 _ _ _ _ _ lv _ _ _ l0 l2 l3 l5 ok hn r_v0  h
def m197_166 (F : Nat) (rc48 : Nat → Int32 → Int32 → Int32 → List mE → Option (Int32 × List mE)) (rc57 : Nat → Int32 → Int32 → Int32 → Int32 → List mE → Option (Int32 × List mE)) (v0 : Nat) (v2 : Int32) (v3 : Int32) (v4 : Int32) (v5 : Int32) (hp : List mE) : Option (Int32 × List mE) :=
  rc57 v0 v2 v3 v4 (v5 + 1) hp
theorem t197_166 {d c w n : Nat} (hd : 3 ≤ d) (F : Nat) {rc48 : Nat → Int32 → Int32 → Int32 → List mE → Option (Int32 × List mE)} {rc57 : Nat → Int32 → Int32 → Int32 → Int32 → List mE → Option (Int32 × List mE)} (hr48 : ∀ (v0 : Nat) (v2 : Int32) (v3 : Int32) (v4 : Int32) (lv : List (Nat × Value)) (hp : List mE) (v : Int32) (hp' : List mE), alk 0 lv = some (.ref v0) → alk 2 lv = some (.int v2) → alk 3 lv = some (.int v3) → alk 4 lv = some (.int v4) → lvk n lv → hp.length = n → v0 < n → rc48 v0 v2 v3 v4 hp = some (v, hp') → Rn d 197 48 lv [] hp c w (some (.int v), hp', c, w)) (hr57 : ∀ (v0 : Nat) (v2 : Int32) (v3 : Int32) (v4 : Int32) (v5 : Int32) (lv : List (Nat × Value)) (hp : List mE) (v : Int32) (hp' : List mE), alk 0 lv = some (.ref v0) → alk 2 lv = some (.int v2) → alk 3 lv = some (.int v3) → alk 4 lv = some (.int v4) → alk 5 lv = some (.int v5) → lvk n lv → hp.length = n → v0 < n → rc57 v0 v2 v3 v4 v5 hp = some (v, hp') → Rn d 197 57 lv [] hp c w (some (.int v), hp', c, w)) : ∀ (v0 : Nat) (v2 : Int32) (v3 : Int32) (v4 : Int32) (v5 : Int32) (lv : List (Nat × Value)) (hp : List mE) (v : Int32) (hp' : List mE), alk 0 lv = some (.ref v0) → alk 2 lv = some (.int v2) → alk 3 lv = some (.int v3) → alk 4 lv = some (.int v4) → alk 5 lv = some (.int v5) → lvk n lv → hp.length = n → v0 < n → m197_166 F rc48 rc57 v0 v2 v3 v4 v5 hp = some (v, hp') → Rn d 197 166 lv [] hp c w (some (.int v), hp', c, w) := by
  obtain ⟨d', rfl⟩ : ∃ d', d = d' + 1 := ⟨d - 1, by omega⟩
  intro v0 v2 v3 v4 v5 lv hp v hp' l0 l2 l3 l4 l5 ok hn r_v0 h
  unfold m197_166 at h
  refine Rn.ii (m := n) (u := 1) n197_166 ml197 (by decide) (by decide) l5 (fun lv l5 hk hok => ?_)
  have l0 := hk 0 _ (by decide) (Or.inl rfl) l0
  have l2 := hk 2 _ (by decide) (Or.inl rfl) l2
  have l3 := hk 3 _ (by decide) (Or.inl rfl) l3
  have l4 := hk 4 _ (by decide) (Or.inl rfl) l4
  have ok := hok ok
  refine Rn.goto (t := 57) n197_169 (by decide) ?_
  exact hr57 _ _ _ _ _ lv _ _ _ l0 l2 l3 l4 l5 ok hn r_v0  h
def m197_80 (F : Nat) (rc48 : Nat → Int32 → Int32 → Int32 → List mE → Option (Int32 × List mE)) (rc57 : Nat → Int32 → Int32 → Int32 → Int32 → List mE → Option (Int32 × List mE)) : Nat → Nat → Int32 → Int32 → Int32 → Int32 → Int32 → List mE → Option (Int32 × List mE)
  | 0, _, _, _, _, _, _, _ => none
  | f + 1, v0, v2, v3, v4, v5, v6, hp =>
    (gfr 11 28 hp v0).bind fun x1 =>
    (rdI hp x1 v4).bind fun x2 =>
    if mc2 .ge v6 x2 = true then
      (rcv 11 hp v0).bind fun u5 =>
      (e164 F v0 v5 hp).bind fun q4 =>
      (rcv 11 q4.2 v0).bind fun u7 =>
      (e159 F v0 q4.2).bind fun q6 =>
      (gfi 11 15 q6.2 v0).bind fun x8 =>
      (gfr 11 28 q6.2 v0).bind fun x9 =>
      (rdI q6.2 x9 v4).bind fun x10 =>
      if mc2 .gt x8 x10 = true then
        m197_166 F rc48 rc57 v0 v2 v3 v4 v5 q6.2
      else
        (rcv 11 q6.2 v0).bind fun u13 =>
        (e195 F v0 v3 q6.2).bind fun q12 =>
        if mc1 .ne q12.1 = true then
          m197_166 F rc48 rc57 v0 v2 v3 v4 v5 q12.2
        else
          if mc2 .ne v3 300 = true then
            (rcv 11 q12.2 v0).bind fun u17 =>
            (e196 F v0 v3 q12.2).bind fun q16 =>
            m197_166 F rc48 rc57 v0 v2 (v3 + 1) v4 v5 q16.2
          else
            some ((-1005), q12.2)
    else
      (gfr 11 29 hp v0).bind fun x18 =>
      (rdI hp x18 ((20 * v4) + v6)).bind fun x19 =>
      (rcv 11 hp v0).bind fun u21 =>
      (e164 F v0 x19 hp).bind fun q20 =>
      m197_80 F rc48 rc57 f v0 v2 v3 v4 v5 (v6 + 1) q20.2
theorem t197_80 {d c w n : Nat} (hd : 3 ≤ d) (F : Nat) {rc48 : Nat → Int32 → Int32 → Int32 → List mE → Option (Int32 × List mE)} {rc57 : Nat → Int32 → Int32 → Int32 → Int32 → List mE → Option (Int32 × List mE)} (hr48 : ∀ (v0 : Nat) (v2 : Int32) (v3 : Int32) (v4 : Int32) (lv : List (Nat × Value)) (hp : List mE) (v : Int32) (hp' : List mE), alk 0 lv = some (.ref v0) → alk 2 lv = some (.int v2) → alk 3 lv = some (.int v3) → alk 4 lv = some (.int v4) → lvk n lv → hp.length = n → v0 < n → rc48 v0 v2 v3 v4 hp = some (v, hp') → Rn d 197 48 lv [] hp c w (some (.int v), hp', c, w)) (hr57 : ∀ (v0 : Nat) (v2 : Int32) (v3 : Int32) (v4 : Int32) (v5 : Int32) (lv : List (Nat × Value)) (hp : List mE) (v : Int32) (hp' : List mE), alk 0 lv = some (.ref v0) → alk 2 lv = some (.int v2) → alk 3 lv = some (.int v3) → alk 4 lv = some (.int v4) → alk 5 lv = some (.int v5) → lvk n lv → hp.length = n → v0 < n → rc57 v0 v2 v3 v4 v5 hp = some (v, hp') → Rn d 197 57 lv [] hp c w (some (.int v), hp', c, w)) : ∀ f : Nat, ∀ (v0 : Nat) (v2 : Int32) (v3 : Int32) (v4 : Int32) (v5 : Int32) (v6 : Int32) (lv : List (Nat × Value)) (hp : List mE) (v : Int32) (hp' : List mE), alk 0 lv = some (.ref v0) → alk 2 lv = some (.int v2) → alk 3 lv = some (.int v3) → alk 4 lv = some (.int v4) → alk 5 lv = some (.int v5) → alk 6 lv = some (.int v6) → lvk n lv → hp.length = n → v0 < n → m197_80 F rc48 rc57 f v0 v2 v3 v4 v5 v6 hp = some (v, hp') → Rn d 197 80 lv [] hp c w (some (.int v), hp', c, w) := by
  obtain ⟨d', rfl⟩ : ∃ d', d = d' + 1 := ⟨d - 1, by omega⟩
  intro f
  induction f with
  | zero => intro v0 v2 v3 v4 v5 v6 lv hp v hp' l0 l2 l3 l4 l5 l6 ok hn r_v0 h; cases h
  | succ f hr80 =>
    intro v0 v2 v3 v4 v5 v6 lv hp v hp' l0 l2 l3 l4 l5 l6 ok hn r_v0 h
    unfold m197_80 at h
    refine Rn.iload n197_80 l6 ?_
    refine Rn.aload_n n197_82 l0 ?_
    obtain ⟨x1, hx1, h⟩ := Option.bind_eq_some_iff.mp h
    refine Rn.gf n197_83 mo197 fl11_68 (gfr_v hx1).1 ?_
    have r_x1 : x1 < n := by rw [← hn]; exact (gfr_v hx1).2
    refine Rn.iload n197_86 l4 ?_
    obtain ⟨x2, hx2, h⟩ := Option.bind_eq_some_iff.mp h
    refine Rn.iald n197_88 hx2 ?_
    by_cases hc3 : mc2 .ge v6 x2 = true
    · rw [if_pos hc3] at h
      refine Rn.c2t (t := 115) n197_89 (by decide) hc3 ?_
      refine Rn.aload_n n197_115 l0 ?_
      refine Rn.iload n197_116 l5 ?_
      obtain ⟨u5, hu5, h⟩ := Option.bind_eq_some_iff.mp h
      obtain ⟨q4, hq4, h⟩ := Option.bind_eq_some_iff.mp h
      have gq4 := c164 (d := d') (by omega) F _ _ _ _ _ (by rw [hn]; exact r_v0) hq4
      refine Rn.cv (As := [.int v5]) (rr := []) n197_118 mo197 mm11_216 (by decide) mq164 rfl rfl rfl rfl (by rw [mo164]; exact hu5) (Nat.le_of_ble_eq_true rfl) (by rw [hn]; exact (okc (okr r_v0) (okc rfl okn))) (by rw [hn]; exact okn) (by rw [hn]; exact ok) (by rw [ml164]; exact Nat.le_of_ble_eq_true rfl) gq4 ?_
      have hn := (Rn.len gq4).trans hn
      show Rn _ 197 121 lv [] q4.2 c w _
      refine Rn.aload_n n197_121 l0 ?_
      obtain ⟨u7, hu7, h⟩ := Option.bind_eq_some_iff.mp h
      obtain ⟨q6, hq6, h⟩ := Option.bind_eq_some_iff.mp h
      have gq6 := c159 (d := d') (by omega) F _ _ _ _ (by rw [hn]; exact r_v0) hq6
      refine Rn.cv (As := []) (rr := []) n197_122 mo197 mm11_210 (by decide) mq159 rfl rfl rfl rfl (by rw [mo159]; exact hu7) (Nat.le_of_ble_eq_true rfl) (by rw [hn]; exact (okc (okr r_v0) okn)) (by rw [hn]; exact okn) (by rw [hn]; exact ok) (by rw [ml159]; exact Nat.le_of_ble_eq_true rfl) gq6 ?_
      have hn := (Rn.len gq6).trans hn
      show Rn _ 197 125 lv [] q6.2 c w _
      refine Rn.aload_n n197_125 l0 ?_
      obtain ⟨x8, hx8, h⟩ := Option.bind_eq_some_iff.mp h
      refine Rn.gf n197_126 mo197 fl11_201 (gfi_v hx8) ?_
      refine Rn.aload_n n197_129 l0 ?_
      obtain ⟨x9, hx9, h⟩ := Option.bind_eq_some_iff.mp h
      refine Rn.gf n197_130 mo197 fl11_68 (gfr_v hx9).1 ?_
      have r_x9 : x9 < n := by rw [← hn]; exact (gfr_v hx9).2
      refine Rn.iload n197_133 l4 ?_
      obtain ⟨x10, hx10, h⟩ := Option.bind_eq_some_iff.mp h
      refine Rn.iald n197_135 hx10 ?_
      by_cases hc11 : mc2 .gt x8 x10 = true
      · rw [if_pos hc11] at h
        refine Rn.c2t (t := 166) n197_136 (by decide) hc11 ?_
        exact t197_166 hd F hr48 hr57 _ _ _ _ _ lv _ _ _ l0 l2 l3 l4 l5 ok hn r_v0  h
      · rw [if_neg hc11] at h
        refine Rn.c2f (t := 166) n197_136 (by decide) hc11 ?_
        refine Rn.aload_n n197_139 l0 ?_
        refine Rn.iload_n n197_140 l3 ?_
        obtain ⟨u13, hu13, h⟩ := Option.bind_eq_some_iff.mp h
        obtain ⟨q12, hq12, h⟩ := Option.bind_eq_some_iff.mp h
        have gq12 := c195 (d := d') (by omega) F _ _ _ _ _ (by rw [hn]; exact r_v0) hq12
        refine Rn.cv (As := [.int v3]) (rr := []) n197_141 mo197 mm11_289 (by decide) mq195 rfl rfl rfl rfl (by rw [mo195]; exact hu13) (Nat.le_of_ble_eq_true rfl) (by rw [hn]; exact (okc (okr r_v0) (okc rfl okn))) (by rw [hn]; exact okn) (by rw [hn]; exact ok) (by rw [ml195]; exact Nat.le_of_ble_eq_true rfl) gq12 ?_
        have hn := (Rn.len gq12).trans hn
        show Rn _ 197 144 lv [.int q12.1] q12.2 c w _
        by_cases hc14 : mc1 .ne q12.1 = true
        · rw [if_pos hc14] at h
          refine Rn.c1t (t := 166) n197_144 (by decide) hc14 ?_
          exact t197_166 hd F hr48 hr57 _ _ _ _ _ lv _ _ _ l0 l2 l3 l4 l5 ok hn r_v0  h
        · rw [if_neg hc14] at h
          refine Rn.c1f (t := 166) n197_144 (by decide) hc14 ?_
          refine Rn.iload_n n197_147 l3 ?_
          refine Rn.sp (v := 300) n197_148 (by decide) ?_
          by_cases hc15 : mc2 .ne v3 300 = true
          · rw [if_pos hc15] at h
            refine Rn.c2t (t := 158) n197_151 (by decide) hc15 ?_
            refine Rn.aload_n n197_158 l0 ?_
            refine Rn.iload_n n197_159 l3 ?_
            obtain ⟨u17, hu17, h⟩ := Option.bind_eq_some_iff.mp h
            obtain ⟨q16, hq16, h⟩ := Option.bind_eq_some_iff.mp h
            have gq16 := c196 (d := d') (by omega) F _ _ _ _ _ (by rw [hn]; exact r_v0) hq16
            refine Rn.cv (As := [.int v3]) (rr := []) n197_160 mo197 mm11_286 (by decide) mq196 rfl rfl rfl rfl (by rw [mo196]; exact hu17) (Nat.le_of_ble_eq_true rfl) (by rw [hn]; exact (okc (okr r_v0) (okc rfl okn))) (by rw [hn]; exact okn) (by rw [hn]; exact ok) (by rw [ml196]; exact Nat.le_of_ble_eq_true rfl) gq16 ?_
            have hn := (Rn.len gq16).trans hn
            show Rn _ 197 163 lv [] q16.2 c w _
            refine Rn.ii (m := n) (u := 1) n197_163 ml197 (by decide) (by decide) l3 (fun lv l3 hk hok => ?_)
            have l0 := hk 0 _ (by decide) (Or.inl rfl) l0
            have l2 := hk 2 _ (by decide) (Or.inl rfl) l2
            have l4 := hk 4 _ (by decide) (Or.inl rfl) l4
            have l5 := hk 5 _ (by decide) (Or.inl rfl) l5
            have l6 := hk 6 _ (by decide) (Or.inl rfl) l6
            have ok := hok ok
            exact t197_166 hd F hr48 hr57 _ _ _ _ _ lv _ _ _ l0 l2 l3 l4 l5 ok hn r_v0  h
          · rw [if_neg hc15] at h
            refine Rn.c2f (t := 158) n197_151 (by decide) hc15 ?_
            refine Rn.sp (v := (-1005)) n197_154 (by decide) ?_
            have e1 := (Prod.mk.inj (Option.some.inj h)).1
            have e2 := (Prod.mk.inj (Option.some.inj h)).2
            subst e1
            subst e2
            exact Rn.iret n197_157 mr197
    · rw [if_neg hc3] at h
      refine Rn.c2f (t := 115) n197_89 (by decide) hc3 ?_
      refine Rn.aload_n n197_92 l0 ?_
      refine Rn.aload_n n197_93 l0 ?_
      obtain ⟨x18, hx18, h⟩ := Option.bind_eq_some_iff.mp h
      refine Rn.gf n197_94 mo197 fl11_71 (gfr_v hx18).1 ?_
      have r_x18 : x18 < n := by rw [← hn]; exact (gfr_v hx18).2
      refine Rn.bp (v := 20) n197_97 (by decide) ?_
      refine Rn.iload n197_99 l4 ?_
      refine Rn.p n197_101 rfl ?_
      refine Rn.iload n197_102 l6 ?_
      refine Rn.p n197_104 rfl ?_
      obtain ⟨x19, hx19, h⟩ := Option.bind_eq_some_iff.mp h
      refine Rn.iald n197_105 hx19 ?_
      obtain ⟨u21, hu21, h⟩ := Option.bind_eq_some_iff.mp h
      obtain ⟨q20, hq20, h⟩ := Option.bind_eq_some_iff.mp h
      have gq20 := c164 (d := d') (by omega) F _ _ _ _ _ (by rw [hn]; exact r_v0) hq20
      refine Rn.cv (As := [.int x19]) (rr := []) n197_106 mo197 mm11_216 (by decide) mq164 rfl rfl rfl rfl (by rw [mo164]; exact hu21) (Nat.le_of_ble_eq_true rfl) (by rw [hn]; exact (okc (okr r_v0) (okc rfl okn))) (by rw [hn]; exact okn) (by rw [hn]; exact ok) (by rw [ml164]; exact Nat.le_of_ble_eq_true rfl) gq20 ?_
      have hn := (Rn.len gq20).trans hn
      show Rn _ 197 109 lv [] q20.2 c w _
      refine Rn.ii (m := n) (u := 1) n197_109 ml197 (by decide) (by decide) l6 (fun lv l6 hk hok => ?_)
      have l0 := hk 0 _ (by decide) (Or.inl rfl) l0
      have l2 := hk 2 _ (by decide) (Or.inl rfl) l2
      have l3 := hk 3 _ (by decide) (Or.inl rfl) l3
      have l4 := hk 4 _ (by decide) (Or.inl rfl) l4
      have l5 := hk 5 _ (by decide) (Or.inl rfl) l5
      have ok := hok ok
      refine Rn.goto (t := 80) n197_112 (by decide) ?_
      exact hr80 _ _ _ _ _ _ lv _ _ _ l0 l2 l3 l4 l5 l6 ok hn r_v0  h
def m197_57 (F : Nat) (rc48 : Nat → Int32 → Int32 → Int32 → List mE → Option (Int32 × List mE)) : Nat → Nat → Int32 → Int32 → Int32 → Int32 → List mE → Option (Int32 × List mE)
  | 0, _, _, _, _, _, _ => none
  | f + 1, v0, v2, v3, v4, v5, hp =>
    (gfi 11 0 hp v0).bind fun x1 =>
    if mc2 .ge v5 x1 = true then
      rc48 v0 v2 v3 (v4 + 1) hp
    else
      (pfv 11 15 hp v0 (.int 0)).bind fun hp3 =>
      (rcv 11 hp3 v0).bind fun u5 =>
      (e164 F v0 v5 hp3).bind fun q4 =>
      m197_80 F rc48 (m197_57 F rc48 f) F v0 v2 v3 v4 v5 0 q4.2
theorem t197_57 {d c w n : Nat} (hd : 3 ≤ d) (F : Nat) {rc48 : Nat → Int32 → Int32 → Int32 → List mE → Option (Int32 × List mE)} (hr48 : ∀ (v0 : Nat) (v2 : Int32) (v3 : Int32) (v4 : Int32) (lv : List (Nat × Value)) (hp : List mE) (v : Int32) (hp' : List mE), alk 0 lv = some (.ref v0) → alk 2 lv = some (.int v2) → alk 3 lv = some (.int v3) → alk 4 lv = some (.int v4) → lvk n lv → hp.length = n → v0 < n → rc48 v0 v2 v3 v4 hp = some (v, hp') → Rn d 197 48 lv [] hp c w (some (.int v), hp', c, w)) : ∀ f : Nat, ∀ (v0 : Nat) (v2 : Int32) (v3 : Int32) (v4 : Int32) (v5 : Int32) (lv : List (Nat × Value)) (hp : List mE) (v : Int32) (hp' : List mE), alk 0 lv = some (.ref v0) → alk 2 lv = some (.int v2) → alk 3 lv = some (.int v3) → alk 4 lv = some (.int v4) → alk 5 lv = some (.int v5) → lvk n lv → hp.length = n → v0 < n → m197_57 F rc48 f v0 v2 v3 v4 v5 hp = some (v, hp') → Rn d 197 57 lv [] hp c w (some (.int v), hp', c, w) := by
  obtain ⟨d', rfl⟩ : ∃ d', d = d' + 1 := ⟨d - 1, by omega⟩
  intro f
  induction f with
  | zero => intro v0 v2 v3 v4 v5 lv hp v hp' l0 l2 l3 l4 l5 ok hn r_v0 h; cases h
  | succ f hr57 =>
    intro v0 v2 v3 v4 v5 lv hp v hp' l0 l2 l3 l4 l5 ok hn r_v0 h
    unfold m197_57 at h
    refine Rn.iload n197_57 l5 ?_
    refine Rn.aload_n n197_59 l0 ?_
    obtain ⟨x1, hx1, h⟩ := Option.bind_eq_some_iff.mp h
    refine Rn.gf n197_60 mo197 fl11_7 (gfi_v hx1) ?_
    by_cases hc2 : mc2 .ge v5 x1 = true
    · rw [if_pos hc2] at h
      refine Rn.c2t (t := 172) n197_63 (by decide) hc2 ?_
      refine Rn.ii (m := n) (u := 1) n197_172 ml197 (by decide) (by decide) l4 (fun lv l4 hk hok => ?_)
      have l0 := hk 0 _ (by decide) (Or.inl rfl) l0
      have l2 := hk 2 _ (by decide) (Or.inl rfl) l2
      have l3 := hk 3 _ (by decide) (Or.inl rfl) l3
      have l5 := hk 5 _ (by decide) (Or.inl rfl) l5
      have ok := hok ok
      refine Rn.goto (t := 48) n197_175 (by decide) ?_
      exact hr48 _ _ _ _ lv _ _ _ l0 l2 l3 l4 ok hn r_v0  h
    · rw [if_neg hc2] at h
      refine Rn.c2f (t := 172) n197_63 (by decide) hc2 ?_
      refine Rn.aload_n n197_66 l0 ?_
      refine Rn.ic (v := 0) n197_67 (by decide) ?_
      obtain ⟨hp3, hhp3, h⟩ := Option.bind_eq_some_iff.mp h
      refine Rn.pf n197_68 mo197 fl11_201 ft11_15 rfl ff11_15 (fun _ _ hh => by cases hh) hhp3 ?_
      have hn := (pfv_len hhp3).trans hn
      refine Rn.aload_n n197_71 l0 ?_
      refine Rn.iload n197_72 l5 ?_
      obtain ⟨u5, hu5, h⟩ := Option.bind_eq_some_iff.mp h
      obtain ⟨q4, hq4, h⟩ := Option.bind_eq_some_iff.mp h
      have gq4 := c164 (d := d') (by omega) F _ _ _ _ _ (by rw [hn]; exact r_v0) hq4
      refine Rn.cv (As := [.int v5]) (rr := []) n197_74 mo197 mm11_216 (by decide) mq164 rfl rfl rfl rfl (by rw [mo164]; exact hu5) (Nat.le_of_ble_eq_true rfl) (by rw [hn]; exact (okc (okr r_v0) (okc rfl okn))) (by rw [hn]; exact okn) (by rw [hn]; exact ok) (by rw [ml164]; exact Nat.le_of_ble_eq_true rfl) gq4 ?_
      have hn := (Rn.len gq4).trans hn
      show Rn _ 197 77 lv [] q4.2 c w _
      refine Rn.ic (v := 0) n197_77 (by decide) ?_
      refine Rn.is (m := n) n197_78 ml197 (by decide) (fun lv l6 hk hok => ?_)
      have l0 := hk 0 _ (by decide) (Or.inl rfl) l0
      have l2 := hk 2 _ (by decide) (Or.inl rfl) l2
      have l3 := hk 3 _ (by decide) (Or.inl rfl) l3
      have l4 := hk 4 _ (by decide) (Or.inl rfl) l4
      have l5 := hk 5 _ (by decide) (Or.inl rfl) l5
      have ok := hok ok
      exact t197_80 hd F hr48 hr57 F _ _ _ _ _ _ lv _ _ _ l0 l2 l3 l4 l5 l6 ok hn r_v0  h
def m197_48 (F : Nat) : Nat → Nat → Int32 → Int32 → Int32 → List mE → Option (Int32 × List mE)
  | 0, _, _, _, _, _ => none
  | f + 1, v0, v2, v3, v4, hp =>
    if mc2 .ge v4 v3 = true then
      m197_185 F F v0 v2 v3 20 0 hp
    else
      m197_57 F (m197_48 F f) F v0 v2 v3 v4 0 hp
theorem t197_48 {d c w n : Nat} (hd : 3 ≤ d) (F : Nat) : ∀ f : Nat, ∀ (v0 : Nat) (v2 : Int32) (v3 : Int32) (v4 : Int32) (lv : List (Nat × Value)) (hp : List mE) (v : Int32) (hp' : List mE), alk 0 lv = some (.ref v0) → alk 2 lv = some (.int v2) → alk 3 lv = some (.int v3) → alk 4 lv = some (.int v4) → lvk n lv → hp.length = n → v0 < n → m197_48 F f v0 v2 v3 v4 hp = some (v, hp') → Rn d 197 48 lv [] hp c w (some (.int v), hp', c, w) := by
  obtain ⟨d', rfl⟩ : ∃ d', d = d' + 1 := ⟨d - 1, by omega⟩
  intro f
  induction f with
  | zero => intro v0 v2 v3 v4 lv hp v hp' l0 l2 l3 l4 ok hn r_v0 h; cases h
  | succ f hr48 =>
    intro v0 v2 v3 v4 lv hp v hp' l0 l2 l3 l4 ok hn r_v0 h
    unfold m197_48 at h
    refine Rn.iload n197_48 l4 ?_
    refine Rn.iload_n n197_50 l3 ?_
    by_cases hc1 : mc2 .ge v4 v3 = true
    · rw [if_pos hc1] at h
      refine Rn.c2t (t := 178) n197_51 (by decide) hc1 ?_
      refine Rn.bp (v := 20) n197_178 (by decide) ?_
      refine Rn.is (m := n) n197_180 ml197 (by decide) (fun lv l4 hk hok => ?_)
      have l0 := hk 0 _ (by decide) (Or.inl rfl) l0
      have l2 := hk 2 _ (by decide) (Or.inl rfl) l2
      have l3 := hk 3 _ (by decide) (Or.inl rfl) l3
      have ok := hok ok
      refine Rn.ic (v := 0) n197_182 (by decide) ?_
      refine Rn.is (m := n) n197_183 ml197 (by decide) (fun lv l5 hk hok => ?_)
      have l0 := hk 0 _ (by decide) (Or.inl rfl) l0
      have l2 := hk 2 _ (by decide) (Or.inl rfl) l2
      have l3 := hk 3 _ (by decide) (Or.inl rfl) l3
      have l4 := hk 4 _ (by decide) (Or.inl rfl) l4
      have ok := hok ok
      exact t197_185 hd F  F _ _ _ _ _ lv _ _ _ l0 l2 l3 l4 l5 ok hn r_v0  h
    · rw [if_neg hc1] at h
      refine Rn.c2f (t := 178) n197_51 (by decide) hc1 ?_
      refine Rn.ic (v := 0) n197_54 (by decide) ?_
      refine Rn.is (m := n) n197_55 ml197 (by decide) (fun lv l5 hk hok => ?_)
      have l0 := hk 0 _ (by decide) (Or.inl rfl) l0
      have l2 := hk 2 _ (by decide) (Or.inl rfl) l2
      have l3 := hk 3 _ (by decide) (Or.inl rfl) l3
      have l4 := hk 4 _ (by decide) (Or.inl rfl) l4
      have ok := hok ok
      exact t197_57 hd F hr48 F _ _ _ _ _ lv _ _ _ l0 l2 l3 l4 l5 ok hn r_v0  h
def m197_0 (F : Nat) (v0 : Nat) (v1 : Int32) (v2 : Int32) (hp : List mE) : Option (Int32 × List mE) :=
  (rcv 11 hp v0).bind fun u2 =>
  (e160 F v0 v1 hp).bind fun q1 =>
  if mc1 .ne q1.1 = true then
    (e137 F v2.toInt64 0 2 q1.2).bind fun q4 =>
    if mc1 .ne q4.1 = true then
      (pfv 11 15 q4.2 v0 (.int 0)).bind fun hp6 =>
      (rcv 11 hp6 v0).bind fun u8 =>
      (e165 F v0 v1 hp6).bind fun q7 =>
      (rcv 11 q7.2 v0).bind fun u10 =>
      (e196 F v0 0 q7.2).bind fun q9 =>
      m197_48 F F v0 v2 1 0 q9.2
    else
      some ((-1002), q4.2)
  else
    some ((-1001), q1.2)
theorem t197_0 {d c w n : Nat} (hd : 3 ≤ d) (F : Nat) : ∀ (v0 : Nat) (v1 : Int32) (v2 : Int32) (lv : List (Nat × Value)) (hp : List mE) (v : Int32) (hp' : List mE), alk 0 lv = some (.ref v0) → alk 1 lv = some (.int v1) → alk 2 lv = some (.int v2) → lvk n lv → hp.length = n → v0 < n → m197_0 F v0 v1 v2 hp = some (v, hp') → Rn d 197 0 lv [] hp c w (some (.int v), hp', c, w) := by
  obtain ⟨d', rfl⟩ : ∃ d', d = d' + 1 := ⟨d - 1, by omega⟩
  intro v0 v1 v2 lv hp v hp' l0 l1 l2 ok hn r_v0 h
  unfold m197_0 at h
  refine Rn.aload_n n197_0 l0 ?_
  refine Rn.iload_n n197_1 l1 ?_
  obtain ⟨u2, hu2, h⟩ := Option.bind_eq_some_iff.mp h
  obtain ⟨q1, hq1, h⟩ := Option.bind_eq_some_iff.mp h
  have gq1 := c160 (d := d') (by omega) F _ _ _ _ _ (by rw [hn]; exact r_v0) hq1
  refine Rn.cv (As := [.int v1]) (rr := []) n197_2 mo197 mm11_222 (by decide) mq160 rfl rfl rfl rfl (by rw [mo160]; exact hu2) (Nat.le_of_ble_eq_true rfl) (by rw [hn]; exact (okc (okr r_v0) (okc rfl okn))) (by rw [hn]; exact okn) (by rw [hn]; exact ok) (by rw [ml160]; exact Nat.le_of_ble_eq_true rfl) gq1 ?_
  have hn := (Rn.len gq1).trans hn
  show Rn _ 197 5 lv [.int q1.1] q1.2 c w _
  by_cases hc3 : mc1 .ne q1.1 = true
  · rw [if_pos hc3] at h
    refine Rn.c1t (t := 12) n197_5 (by decide) hc3 ?_
    refine Rn.iload_n n197_12 l2 ?_
    refine Rn.p n197_13 rfl ?_
    refine Rn.lc (v := 0) n197_14 (by decide) ?_
    refine Rn.ldc2 n197_15 mo197 cL11_284 ?_
    obtain ⟨q4, hq4, h⟩ := Option.bind_eq_some_iff.mp h
    have gq4 := c137 (d := d') (by omega) F _ _ _ _ _ _  hq4
    refine Rn.cs (as := [.long v2.toInt64, .long 0, .long 2]) (rr := []) n197_18 mo197 mm11_116 mq137 rfl rfl rfl rfl (Nat.le_of_ble_eq_true rfl) (by rw [hn]; exact (okc rfl (okc rfl (okc rfl okn)))) (by rw [hn]; exact okn) (by rw [hn]; exact ok) (by rw [ml137]; exact Nat.le_of_ble_eq_true rfl) gq4 ?_
    have hn := (Rn.len gq4).trans hn
    show Rn _ 197 21 lv [.int q4.1] q4.2 c w _
    by_cases hc5 : mc1 .ne q4.1 = true
    · rw [if_pos hc5] at h
      refine Rn.c1t (t := 28) n197_21 (by decide) hc5 ?_
      refine Rn.aload_n n197_28 l0 ?_
      refine Rn.ic (v := 0) n197_29 (by decide) ?_
      obtain ⟨hp6, hhp6, h⟩ := Option.bind_eq_some_iff.mp h
      refine Rn.pf n197_30 mo197 fl11_201 ft11_15 rfl ff11_15 (fun _ _ hh => by cases hh) hhp6 ?_
      have hn := (pfv_len hhp6).trans hn
      refine Rn.aload_n n197_33 l0 ?_
      refine Rn.iload_n n197_34 l1 ?_
      obtain ⟨u8, hu8, h⟩ := Option.bind_eq_some_iff.mp h
      obtain ⟨q7, hq7, h⟩ := Option.bind_eq_some_iff.mp h
      have gq7 := c165 (d := d') (by omega) F _ _ _ _ _ (by rw [hn]; exact r_v0) hq7
      refine Rn.cv (As := [.int v1]) (rr := []) n197_35 mo197 mm11_233 (by decide) mq165 rfl rfl rfl rfl (by rw [mo165]; exact hu8) (Nat.le_of_ble_eq_true rfl) (by rw [hn]; exact (okc (okr r_v0) (okc rfl okn))) (by rw [hn]; exact okn) (by rw [hn]; exact ok) (by rw [ml165]; exact Nat.le_of_ble_eq_true rfl) gq7 ?_
      have hn := (Rn.len gq7).trans hn
      show Rn _ 197 38 lv [] q7.2 c w _
      refine Rn.aload_n n197_38 l0 ?_
      refine Rn.ic (v := 0) n197_39 (by decide) ?_
      obtain ⟨u10, hu10, h⟩ := Option.bind_eq_some_iff.mp h
      obtain ⟨q9, hq9, h⟩ := Option.bind_eq_some_iff.mp h
      have gq9 := c196 (d := d') (by omega) F _ _ _ _ _ (by rw [hn]; exact r_v0) hq9
      refine Rn.cv (As := [.int 0]) (rr := []) n197_40 mo197 mm11_286 (by decide) mq196 rfl rfl rfl rfl (by rw [mo196]; exact hu10) (Nat.le_of_ble_eq_true rfl) (by rw [hn]; exact (okc (okr r_v0) (okc rfl okn))) (by rw [hn]; exact okn) (by rw [hn]; exact ok) (by rw [ml196]; exact Nat.le_of_ble_eq_true rfl) gq9 ?_
      have hn := (Rn.len gq9).trans hn
      show Rn _ 197 43 lv [] q9.2 c w _
      refine Rn.ic (v := 1) n197_43 (by decide) ?_
      refine Rn.isn (m := n) n197_44 rfl ml197 (by decide) (fun lv l3 hk hok => ?_)
      have l0 := hk 0 _ (by decide) (Or.inl rfl) l0
      have l1 := hk 1 _ (by decide) (Or.inl rfl) l1
      have l2 := hk 2 _ (by decide) (Or.inl rfl) l2
      have ok := hok ok
      refine Rn.ic (v := 0) n197_45 (by decide) ?_
      refine Rn.is (m := n) n197_46 ml197 (by decide) (fun lv l4 hk hok => ?_)
      have l0 := hk 0 _ (by decide) (Or.inl rfl) l0
      have l1 := hk 1 _ (by decide) (Or.inl rfl) l1
      have l2 := hk 2 _ (by decide) (Or.inl rfl) l2
      have l3 := hk 3 _ (by decide) (Or.inl rfl) l3
      have ok := hok ok
      exact t197_48 hd F  F _ _ _ _ lv _ _ _ l0 l2 l3 l4 ok hn r_v0  h
    · rw [if_neg hc5] at h
      refine Rn.c1f (t := 28) n197_21 (by decide) hc5 ?_
      refine Rn.sp (v := (-1002)) n197_24 (by decide) ?_
      have e1 := (Prod.mk.inj (Option.some.inj h)).1
      have e2 := (Prod.mk.inj (Option.some.inj h)).2
      subst e1
      subst e2
      exact Rn.iret n197_27 mr197
  · rw [if_neg hc3] at h
    refine Rn.c1f (t := 12) n197_5 (by decide) hc3 ?_
    refine Rn.sp (v := (-1001)) n197_8 (by decide) ?_
    have e1 := (Prod.mk.inj (Option.some.inj h)).1
    have e2 := (Prod.mk.inj (Option.some.inj h)).2
    subst e1
    subst e2
    exact Rn.iret n197_11 mr197
def e197 (F : Nat) (a0 : Nat) (a1 : Int32) (a2 : Int32) (hp : List mE) : Option (Int32 × List mE) := m197_0 F a0 a1 a2 hp
theorem c197 {d : Nat} (hd : 3 ≤ d) (F : Nat) (a0 : Nat) (a1 : Int32) (a2 : Int32) (hp : List mE) (v : Int32) (hp' : List mE) (ra0 : a0 < hp.length) (h : e197 F a0 a1 a2 hp = some (v, hp')) : Rn d 197 0 (lv_args 0 [.ref a0, .int a1, .int a2]) [] hp 0 0 (some (.int v), hp', 0, 0) :=
  t197_0 (n := hp.length) hd F a0 a1 a2 (lv_args 0 [.ref a0, .int a1, .int a2]) hp v hp' rfl rfl rfl (lvk_args (okc (okr ra0) (okc rfl (okc rfl okn)))) rfl ra0 h
/-! MirrorRootsModel.find -/
def m199_2 (F : Nat) : Nat → Nat → Int32 → List mE → Option (Int32 × List mE)
  | 0, _, _, _ => none
  | f + 1, v0, v1, hp =>
    (gfi 11 31 hp v0).bind fun x1 =>
    if mc2 .ge v1 x1 = true then
      some ((-1), hp)
    else
      (gfr 11 13 hp v0).bind fun x3 =>
      (gfr 11 32 hp v0).bind fun x4 =>
      (e176 F x3 0 x4 (25 * v1) hp).bind fun q5 =>
      if mc1 .eq q5.1 = true then
        m199_2 F f v0 (v1 + 1) q5.2
      else
        some (v1, q5.2)
theorem t199_2 {d c w n : Nat} (hd : 1 ≤ d) (F : Nat) : ∀ f : Nat, ∀ (v0 : Nat) (v1 : Int32) (lv : List (Nat × Value)) (hp : List mE) (v : Int32) (hp' : List mE), alk 0 lv = some (.ref v0) → alk 1 lv = some (.int v1) → lvk n lv → hp.length = n → v0 < n → m199_2 F f v0 v1 hp = some (v, hp') → Rn d 199 2 lv [] hp c w (some (.int v), hp', c, w) := by
  obtain ⟨d', rfl⟩ : ∃ d', d = d' + 1 := ⟨d - 1, by omega⟩
  intro f
  induction f with
  | zero => intro v0 v1 lv hp v hp' l0 l1 ok hn r_v0 h; cases h
  | succ f hr2 =>
    intro v0 v1 lv hp v hp' l0 l1 ok hn r_v0 h
    unfold m199_2 at h
    refine Rn.iload_n n199_2 l1 ?_
    refine Rn.aload_n n199_3 l0 ?_
    obtain ⟨x1, hx1, h⟩ := Option.bind_eq_some_iff.mp h
    refine Rn.gf n199_4 mo199 fl11_292 (gfi_v hx1) ?_
    by_cases hc2 : mc2 .ge v1 x1 = true
    · rw [if_pos hc2] at h
      refine Rn.c2t (t := 37) n199_7 (by decide) hc2 ?_
      refine Rn.ic (v := (-1)) n199_37 (by decide) ?_
      have e1 := (Prod.mk.inj (Option.some.inj h)).1
      have e2 := (Prod.mk.inj (Option.some.inj h)).2
      subst e1
      subst e2
      exact Rn.iret n199_38 mr199
    · rw [if_neg hc2] at h
      refine Rn.c2f (t := 37) n199_7 (by decide) hc2 ?_
      refine Rn.aload_n n199_10 l0 ?_
      obtain ⟨x3, hx3, h⟩ := Option.bind_eq_some_iff.mp h
      refine Rn.gf n199_11 mo199 fl11_33 (gfr_v hx3).1 ?_
      have r_x3 : x3 < n := by rw [← hn]; exact (gfr_v hx3).2
      refine Rn.ic (v := 0) n199_14 (by decide) ?_
      refine Rn.aload_n n199_15 l0 ?_
      obtain ⟨x4, hx4, h⟩ := Option.bind_eq_some_iff.mp h
      refine Rn.gf n199_16 mo199 fl11_77 (gfr_v hx4).1 ?_
      have r_x4 : x4 < n := by rw [← hn]; exact (gfr_v hx4).2
      refine Rn.bp (v := 25) n199_19 (by decide) ?_
      refine Rn.iload_n n199_21 l1 ?_
      refine Rn.p n199_22 rfl ?_
      obtain ⟨q5, hq5, h⟩ := Option.bind_eq_some_iff.mp h
      have gq5 := c176 (d := d') (by omega) F _ _ _ _ _ _ _ (by rw [hn]; exact r_x3) (by rw [hn]; exact r_x4) hq5
      refine Rn.cs (as := [.ref x3, .int 0, .ref x4, .int (25 * v1)]) (rr := []) n199_23 mo199 mm11_240 mq176 rfl rfl rfl rfl (Nat.le_of_ble_eq_true rfl) (by rw [hn]; exact (okc (okr r_x3) (okc rfl (okc (okr r_x4) (okc rfl okn))))) (by rw [hn]; exact okn) (by rw [hn]; exact ok) (by rw [ml176]; exact Nat.le_of_ble_eq_true rfl) gq5 ?_
      have hn := (Rn.len gq5).trans hn
      show Rn _ 199 26 lv [.int q5.1] q5.2 c w _
      by_cases hc6 : mc1 .eq q5.1 = true
      · rw [if_pos hc6] at h
        refine Rn.c1t (t := 31) n199_26 (by decide) hc6 ?_
        refine Rn.ii (m := n) (u := 1) n199_31 ml199 (by decide) (by decide) l1 (fun lv l1 hk hok => ?_)
        have l0 := hk 0 _ (by decide) (Or.inl rfl) l0
        have ok := hok ok
        refine Rn.goto (t := 2) n199_34 (by decide) ?_
        exact hr2 _ _ lv _ _ _ l0 l1 ok hn r_v0  h
      · rw [if_neg hc6] at h
        refine Rn.c1f (t := 31) n199_26 (by decide) hc6 ?_
        refine Rn.iload_n n199_29 l1 ?_
        have e1 := (Prod.mk.inj (Option.some.inj h)).1
        have e2 := (Prod.mk.inj (Option.some.inj h)).2
        subst e1
        subst e2
        exact Rn.iret n199_30 mr199
def m199_0 (F : Nat) (v0 : Nat) (hp : List mE) : Option (Int32 × List mE) :=
  m199_2 F F v0 0 hp
theorem t199_0 {d c w n : Nat} (hd : 1 ≤ d) (F : Nat) : ∀ (v0 : Nat) (lv : List (Nat × Value)) (hp : List mE) (v : Int32) (hp' : List mE), alk 0 lv = some (.ref v0) → lvk n lv → hp.length = n → v0 < n → m199_0 F v0 hp = some (v, hp') → Rn d 199 0 lv [] hp c w (some (.int v), hp', c, w) := by
  obtain ⟨d', rfl⟩ : ∃ d', d = d' + 1 := ⟨d - 1, by omega⟩
  intro v0 lv hp v hp' l0 ok hn r_v0 h
  unfold m199_0 at h
  refine Rn.ic (v := 0) n199_0 (by decide) ?_
  refine Rn.isn (m := n) n199_1 rfl ml199 (by decide) (fun lv l1 hk hok => ?_)
  have l0 := hk 0 _ (by decide) (Or.inl rfl) l0
  have ok := hok ok
  exact t199_2 hd F  F _ _ lv _ _ _ l0 l1 ok hn r_v0  h
def e199 (F : Nat) (a0 : Nat) (hp : List mE) : Option (Int32 × List mE) := m199_0 F a0 hp
theorem c199 {d : Nat} (hd : 1 ≤ d) (F : Nat) (a0 : Nat) (hp : List mE) (v : Int32) (hp' : List mE) (ra0 : a0 < hp.length) (h : e199 F a0 hp = some (v, hp')) : Rn d 199 0 (lv_args 0 [.ref a0]) [] hp 0 0 (some (.int v), hp', 0, 0) :=
  t199_0 (n := hp.length) hd F a0 (lv_args 0 [.ref a0]) hp v hp' rfl (lvk_args (okc (okr ra0) okn)) rfl ra0 h
/-! MirrorRootsModel.findBelow -/
def m198_188 (F : Nat) (rc178 : Nat → Int32 → List mE → Option (Unit × List mE)) : Nat → Nat → Int32 → Int32 → List mE → Option (Unit × List mE)
  | 0, _, _, _, _ => none
  | f + 1, v0, v2, v3, hp =>
    (gfi 11 0 hp v0).bind fun x1 =>
    if mc2 .ge v3 x1 = true then
      rc178 v0 (v2 + 1) hp
    else
      (gfr 11 32 hp v0).bind fun x3 =>
      (gfr 11 13 hp v0).bind fun x4 =>
      (e177 F x3 (25 * v2) x4 0 hp).bind fun q5 =>
      (gfr 11 35 q5.2 v0).bind fun x6 =>
      (gfr 11 13 q5.2 v0).bind fun x7 =>
      (e157 F x7 0 v3 q5.2).bind fun q8 =>
      (wrZ q8.2 x6 ((5 * v2) + v3) q8.1).bind fun hp9 =>
      (rcv 11 hp9 v0).bind fun u11 =>
      (e156 F v0 v3 hp9).bind fun q10 =>
      (gfr 11 34 q10.2 v0).bind fun x12 =>
      (rcv 11 q10.2 v0).bind fun u14 =>
      (e199 F v0 q10.2).bind fun q13 =>
      (wrI q13.2 x12 ((5 * v2) + v3) q13.1).bind fun hp15 =>
      m198_188 F rc178 f v0 v2 (v3 + 1) hp15
theorem t198_188 {d c w n : Nat} (hd : 2 ≤ d) (F : Nat) {rc178 : Nat → Int32 → List mE → Option (Unit × List mE)} (hr178 : ∀ (v0 : Nat) (v2 : Int32) (lv : List (Nat × Value)) (hp : List mE) (v : Unit) (hp' : List mE), alk 0 lv = some (.ref v0) → alk 2 lv = some (.int v2) → lvk n lv → hp.length = n → v0 < n → rc178 v0 v2 hp = some (v, hp') → Rn d 198 178 lv [] hp c w (none, hp', c, w)) : ∀ f : Nat, ∀ (v0 : Nat) (v2 : Int32) (v3 : Int32) (lv : List (Nat × Value)) (hp : List mE) (v : Unit) (hp' : List mE), alk 0 lv = some (.ref v0) → alk 2 lv = some (.int v2) → alk 3 lv = some (.int v3) → lvk n lv → hp.length = n → v0 < n → m198_188 F rc178 f v0 v2 v3 hp = some (v, hp') → Rn d 198 188 lv [] hp c w (none, hp', c, w) := by
  obtain ⟨d', rfl⟩ : ∃ d', d = d' + 1 := ⟨d - 1, by omega⟩
  intro f
  induction f with
  | zero => intro v0 v2 v3 lv hp v hp' l0 l2 l3 ok hn r_v0 h; cases h
  | succ f hr188 =>
    intro v0 v2 v3 lv hp v hp' l0 l2 l3 ok hn r_v0 h
    unfold m198_188 at h
    refine Rn.iload_n n198_188 l3 ?_
    refine Rn.aload_n n198_189 l0 ?_
    obtain ⟨x1, hx1, h⟩ := Option.bind_eq_some_iff.mp h
    refine Rn.gf n198_190 mo198 fl11_7 (gfi_v hx1) ?_
    by_cases hc2 : mc2 .ge v3 x1 = true
    · rw [if_pos hc2] at h
      refine Rn.c2t (t := 256) n198_193 (by decide) hc2 ?_
      refine Rn.ii (m := n) (u := 1) n198_256 ml198 (by decide) (by decide) l2 (fun lv l2 hk hok => ?_)
      have l0 := hk 0 _ (by decide) (Or.inl rfl) l0
      have l3 := hk 3 _ (by decide) (Or.inl rfl) l3
      have ok := hok ok
      refine Rn.goto (t := 178) n198_259 (by decide) ?_
      exact hr178 _ _ lv _ _ _ l0 l2 ok hn r_v0  h
    · rw [if_neg hc2] at h
      refine Rn.c2f (t := 256) n198_193 (by decide) hc2 ?_
      refine Rn.aload_n n198_196 l0 ?_
      obtain ⟨x3, hx3, h⟩ := Option.bind_eq_some_iff.mp h
      refine Rn.gf n198_197 mo198 fl11_77 (gfr_v hx3).1 ?_
      have r_x3 : x3 < n := by rw [← hn]; exact (gfr_v hx3).2
      refine Rn.bp (v := 25) n198_200 (by decide) ?_
      refine Rn.iload_n n198_202 l2 ?_
      refine Rn.p n198_203 rfl ?_
      refine Rn.aload_n n198_204 l0 ?_
      obtain ⟨x4, hx4, h⟩ := Option.bind_eq_some_iff.mp h
      refine Rn.gf n198_205 mo198 fl11_33 (gfr_v hx4).1 ?_
      have r_x4 : x4 < n := by rw [← hn]; exact (gfr_v hx4).2
      refine Rn.ic (v := 0) n198_208 (by decide) ?_
      obtain ⟨q5, hq5, h⟩ := Option.bind_eq_some_iff.mp h
      have gq5 := c177 (d := d') (by omega) F _ _ _ _ _ _ _ (by rw [hn]; exact r_x3) (by rw [hn]; exact r_x4) hq5
      refine Rn.cs (as := [.ref x3, .int (25 * v2), .ref x4, .int 0]) (rr := []) n198_209 mo198 mm11_244 mq177 rfl rfl rfl rfl (Nat.le_of_ble_eq_true rfl) (by rw [hn]; exact (okc (okr r_x3) (okc rfl (okc (okr r_x4) (okc rfl okn))))) (by rw [hn]; exact okn) (by rw [hn]; exact ok) (by rw [ml177]; exact Nat.le_of_ble_eq_true rfl) gq5 ?_
      have hn := (Rn.len gq5).trans hn
      show Rn _ 198 212 lv [] q5.2 c w _
      refine Rn.aload_n n198_212 l0 ?_
      obtain ⟨x6, hx6, h⟩ := Option.bind_eq_some_iff.mp h
      refine Rn.gf n198_213 mo198 fl11_86 (gfr_v hx6).1 ?_
      have r_x6 : x6 < n := by rw [← hn]; exact (gfr_v hx6).2
      refine Rn.ic (v := 5) n198_216 (by decide) ?_
      refine Rn.iload_n n198_217 l2 ?_
      refine Rn.p n198_218 rfl ?_
      refine Rn.iload_n n198_219 l3 ?_
      refine Rn.p n198_220 rfl ?_
      refine Rn.aload_n n198_221 l0 ?_
      obtain ⟨x7, hx7, h⟩ := Option.bind_eq_some_iff.mp h
      refine Rn.gf n198_222 mo198 fl11_33 (gfr_v hx7).1 ?_
      have r_x7 : x7 < n := by rw [← hn]; exact (gfr_v hx7).2
      refine Rn.ic (v := 0) n198_225 (by decide) ?_
      refine Rn.iload_n n198_226 l3 ?_
      obtain ⟨q8, hq8, h⟩ := Option.bind_eq_some_iff.mp h
      have gq8 := c157 (d := d') (by omega) F _ _ _ _ _ _ (by rw [hn]; exact r_x7) hq8
      refine Rn.cs (as := [.ref x7, .int 0, .int v3]) (rr := [.int ((5 * v2) + v3), .ref x6]) n198_227 mo198 mm11_194 mq157 rfl rfl rfl rfl (Nat.le_of_ble_eq_true rfl) (by rw [hn]; exact (okc (okr r_x7) (okc rfl (okc rfl okn)))) (by rw [hn]; exact (okc rfl (okc (okr r_x6) okn))) (by rw [hn]; exact ok) (by rw [ml157]; exact Nat.le_of_ble_eq_true rfl) gq8 ?_
      have hn := (Rn.len gq8).trans hn
      show Rn _ 198 230 lv [.int q8.1, .int ((5 * v2) + v3), .ref x6] q8.2 c w _
      obtain ⟨hp9, hhp9, h⟩ := Option.bind_eq_some_iff.mp h
      refine Rn.zast n198_230 hhp9 ?_
      have hn := (wrZ_st (st := []) hhp9).2.trans hn
      refine Rn.aload_n n198_231 l0 ?_
      refine Rn.iload_n n198_232 l3 ?_
      obtain ⟨u11, hu11, h⟩ := Option.bind_eq_some_iff.mp h
      obtain ⟨q10, hq10, h⟩ := Option.bind_eq_some_iff.mp h
      have gq10 := c156 (d := d') (by omega) F _ _ _ _ _ (by rw [hn]; exact r_v0) hq10
      refine Rn.cv (As := [.int v3]) (rr := []) n198_233 mo198 mm11_204 (by decide) mq156 rfl rfl rfl rfl (by rw [mo156]; exact hu11) (Nat.le_of_ble_eq_true rfl) (by rw [hn]; exact (okc (okr r_v0) (okc rfl okn))) (by rw [hn]; exact okn) (by rw [hn]; exact ok) (by rw [ml156]; exact Nat.le_of_ble_eq_true rfl) gq10 ?_
      have hn := (Rn.len gq10).trans hn
      show Rn _ 198 236 lv [] q10.2 c w _
      refine Rn.aload_n n198_236 l0 ?_
      obtain ⟨x12, hx12, h⟩ := Option.bind_eq_some_iff.mp h
      refine Rn.gf n198_237 mo198 fl11_83 (gfr_v hx12).1 ?_
      have r_x12 : x12 < n := by rw [← hn]; exact (gfr_v hx12).2
      refine Rn.ic (v := 5) n198_240 (by decide) ?_
      refine Rn.iload_n n198_241 l2 ?_
      refine Rn.p n198_242 rfl ?_
      refine Rn.iload_n n198_243 l3 ?_
      refine Rn.p n198_244 rfl ?_
      refine Rn.aload_n n198_245 l0 ?_
      obtain ⟨u14, hu14, h⟩ := Option.bind_eq_some_iff.mp h
      obtain ⟨q13, hq13, h⟩ := Option.bind_eq_some_iff.mp h
      have gq13 := c199 (d := d') (by omega) F _ _ _ _ (by rw [hn]; exact r_v0) hq13
      refine Rn.cv (As := []) (rr := [.int ((5 * v2) + v3), .ref x12]) n198_246 mo198 mm11_295 (by decide) mq199 rfl rfl rfl rfl (by rw [mo199]; exact hu14) (Nat.le_of_ble_eq_true rfl) (by rw [hn]; exact (okc (okr r_v0) okn)) (by rw [hn]; exact (okc rfl (okc (okr r_x12) okn))) (by rw [hn]; exact ok) (by rw [ml199]; exact Nat.le_of_ble_eq_true rfl) gq13 ?_
      have hn := (Rn.len gq13).trans hn
      show Rn _ 198 249 lv [.int q13.1, .int ((5 * v2) + v3), .ref x12] q13.2 c w _
      obtain ⟨hp15, hhp15, h⟩ := Option.bind_eq_some_iff.mp h
      refine Rn.iast n198_249 hhp15 ?_
      have hn := (wrI_st (st := []) hhp15).2.trans hn
      refine Rn.ii (m := n) (u := 1) n198_250 ml198 (by decide) (by decide) l3 (fun lv l3 hk hok => ?_)
      have l0 := hk 0 _ (by decide) (Or.inl rfl) l0
      have l2 := hk 2 _ (by decide) (Or.inl rfl) l2
      have ok := hok ok
      refine Rn.goto (t := 188) n198_253 (by decide) ?_
      exact hr188 _ _ _ lv _ _ _ l0 l2 l3 ok hn r_v0  h
def m198_178 (F : Nat) : Nat → Nat → Int32 → List mE → Option (Unit × List mE)
  | 0, _, _, _ => none
  | f + 1, v0, v2, hp =>
    (gfi 11 31 hp v0).bind fun x1 =>
    if mc2 .ge v2 x1 = true then
      some ((), hp)
    else
      m198_188 F (m198_178 F f) F v0 v2 0 hp
theorem t198_178 {d c w n : Nat} (hd : 2 ≤ d) (F : Nat) : ∀ f : Nat, ∀ (v0 : Nat) (v2 : Int32) (lv : List (Nat × Value)) (hp : List mE) (v : Unit) (hp' : List mE), alk 0 lv = some (.ref v0) → alk 2 lv = some (.int v2) → lvk n lv → hp.length = n → v0 < n → m198_178 F f v0 v2 hp = some (v, hp') → Rn d 198 178 lv [] hp c w (none, hp', c, w) := by
  obtain ⟨d', rfl⟩ : ∃ d', d = d' + 1 := ⟨d - 1, by omega⟩
  intro f
  induction f with
  | zero => intro v0 v2 lv hp v hp' l0 l2 ok hn r_v0 h; cases h
  | succ f hr178 =>
    intro v0 v2 lv hp v hp' l0 l2 ok hn r_v0 h
    unfold m198_178 at h
    refine Rn.iload_n n198_178 l2 ?_
    refine Rn.aload_n n198_179 l0 ?_
    obtain ⟨x1, hx1, h⟩ := Option.bind_eq_some_iff.mp h
    refine Rn.gf n198_180 mo198 fl11_292 (gfi_v hx1) ?_
    by_cases hc2 : mc2 .ge v2 x1 = true
    · rw [if_pos hc2] at h
      refine Rn.c2t (t := 262) n198_183 (by decide) hc2 ?_
      have e1 := (Prod.mk.inj (Option.some.inj h)).1
      have e2 := (Prod.mk.inj (Option.some.inj h)).2
      subst e1
      subst e2
      exact Rn.vret n198_262 mr198
    · rw [if_neg hc2] at h
      refine Rn.c2f (t := 262) n198_183 (by decide) hc2 ?_
      refine Rn.ic (v := 0) n198_186 (by decide) ?_
      refine Rn.isn (m := n) n198_187 rfl ml198 (by decide) (fun lv l3 hk hok => ?_)
      have l0 := hk 0 _ (by decide) (Or.inl rfl) l0
      have l2 := hk 2 _ (by decide) (Or.inl rfl) l2
      have ok := hok ok
      exact t198_188 hd F hr178 F _ _ _ lv _ _ _ l0 l2 l3 ok hn r_v0  h
def m198_160 (F : Nat) (rc31 : Nat → Int32 → Int32 → List mE → Option (Unit × List mE)) (rc62 : Nat → Int32 → Int32 → Int32 → Int32 → Int32 → List mE → Option (Unit × List mE)) (v0 : Nat) (v1 : Int32) (v2 : Int32) (v3 : Int32) (v4 : Int32) (v5 : Int32) (t0 : Nat) (t1 : Int32) (t2 : Int32) (hp : List mE) : Option (Unit × List mE) :=
  (pfv 11 31 hp t0 (.int (t1 + t2))).bind fun hp1 =>
  rc62 v0 v1 v2 v3 v4 (v5 + 1) hp1
theorem t198_160 {d c w n : Nat} (hd : 2 ≤ d) (F : Nat) {rc31 : Nat → Int32 → Int32 → List mE → Option (Unit × List mE)} {rc62 : Nat → Int32 → Int32 → Int32 → Int32 → Int32 → List mE → Option (Unit × List mE)} (hr31 : ∀ (v0 : Nat) (v1 : Int32) (v2 : Int32) (lv : List (Nat × Value)) (hp : List mE) (v : Unit) (hp' : List mE), alk 0 lv = some (.ref v0) → alk 1 lv = some (.int v1) → alk 2 lv = some (.int v2) → lvk n lv → hp.length = n → v0 < n → rc31 v0 v1 v2 hp = some (v, hp') → Rn d 198 31 lv [] hp c w (none, hp', c, w)) (hr62 : ∀ (v0 : Nat) (v1 : Int32) (v2 : Int32) (v3 : Int32) (v4 : Int32) (v5 : Int32) (lv : List (Nat × Value)) (hp : List mE) (v : Unit) (hp' : List mE), alk 0 lv = some (.ref v0) → alk 1 lv = some (.int v1) → alk 2 lv = some (.int v2) → alk 3 lv = some (.int v3) → alk 4 lv = some (.int v4) → alk 5 lv = some (.int v5) → lvk n lv → hp.length = n → v0 < n → rc62 v0 v1 v2 v3 v4 v5 hp = some (v, hp') → Rn d 198 62 lv [] hp c w (none, hp', c, w)) : ∀ (v0 : Nat) (v1 : Int32) (v2 : Int32) (v3 : Int32) (v4 : Int32) (v5 : Int32) (t0 : Nat) (t1 : Int32) (t2 : Int32) (lv : List (Nat × Value)) (hp : List mE) (v : Unit) (hp' : List mE), alk 0 lv = some (.ref v0) → alk 1 lv = some (.int v1) → alk 2 lv = some (.int v2) → alk 3 lv = some (.int v3) → alk 4 lv = some (.int v4) → alk 5 lv = some (.int v5) → lvk n lv → hp.length = n → v0 < n → t0 < n → m198_160 F rc31 rc62 v0 v1 v2 v3 v4 v5 t0 t1 t2 hp = some (v, hp') → Rn d 198 160 lv [.int t2, .int t1, .ref t0] hp c w (none, hp', c, w) := by
  obtain ⟨d', rfl⟩ : ∃ d', d = d' + 1 := ⟨d - 1, by omega⟩
  intro v0 v1 v2 v3 v4 v5 t0 t1 t2 lv hp v hp' l0 l1 l2 l3 l4 l5 ok hn r_v0 r_t0 h
  unfold m198_160 at h
  refine Rn.p n198_160 rfl ?_
  obtain ⟨hp1, hhp1, h⟩ := Option.bind_eq_some_iff.mp h
  refine Rn.pf n198_161 mo198 fl11_292 ft11_31 rfl ff11_31 (fun _ _ hh => by cases hh) hhp1 ?_
  have hn := (pfv_len hhp1).trans hn
  refine Rn.ii (m := n) (u := 1) n198_164 ml198 (by decide) (by decide) l5 (fun lv l5 hk hok => ?_)
  have l0 := hk 0 _ (by decide) (Or.inl rfl) l0
  have l1 := hk 1 _ (by decide) (Or.inl rfl) l1
  have l2 := hk 2 _ (by decide) (Or.inl rfl) l2
  have l3 := hk 3 _ (by decide) (Or.inl rfl) l3
  have l4 := hk 4 _ (by decide) (Or.inl rfl) l4
  have ok := hok ok
  refine Rn.goto (t := 62) n198_167 (by decide) ?_
  exact hr62 _ _ _ _ _ _ lv _ _ _ l0 l1 l2 l3 l4 l5 ok hn r_v0  h
def m198_110 (F : Nat) (rc31 : Nat → Int32 → Int32 → List mE → Option (Unit × List mE)) (rc62 : Nat → Int32 → Int32 → Int32 → Int32 → Int32 → List mE → Option (Unit × List mE)) (v0 : Nat) (v1 : Int32) (v2 : Int32) (v3 : Int32) (v4 : Int32) (v5 : Int32) (t0 : Int32) (t1 : Int32) (hp : List mE) : Option (Unit × List mE) :=
  (rcv 11 hp v0).bind fun u2 =>
  (e156 F v0 v3 hp).bind fun q1 =>
  (gfr 11 32 q1.2 v0).bind fun x3 =>
  (gfi 11 31 q1.2 v0).bind fun x4 =>
  (rcv 11 q1.2 v0).bind fun u6 =>
  (e178 F v0 x3 x4 q1.2).bind fun q5 =>
  (gfr 11 33 q5.2 v0).bind fun x7 =>
  (wrI q5.2 x7 q5.1 (t0 + t1)).bind fun hp8 =>
  (gfi 11 31 hp8 v0).bind fun x9 =>
  (gfi 11 31 hp8 v0).bind fun x10 =>
  if mc2 .ne q5.1 x10 = true then
    m198_160 F rc31 rc62 v0 v1 v2 v3 v4 v5 v0 x9 0 hp8
  else
    m198_160 F rc31 rc62 v0 v1 v2 v3 v4 v5 v0 x9 1 hp8
theorem t198_110 {d c w n : Nat} (hd : 2 ≤ d) (F : Nat) {rc31 : Nat → Int32 → Int32 → List mE → Option (Unit × List mE)} {rc62 : Nat → Int32 → Int32 → Int32 → Int32 → Int32 → List mE → Option (Unit × List mE)} (hr31 : ∀ (v0 : Nat) (v1 : Int32) (v2 : Int32) (lv : List (Nat × Value)) (hp : List mE) (v : Unit) (hp' : List mE), alk 0 lv = some (.ref v0) → alk 1 lv = some (.int v1) → alk 2 lv = some (.int v2) → lvk n lv → hp.length = n → v0 < n → rc31 v0 v1 v2 hp = some (v, hp') → Rn d 198 31 lv [] hp c w (none, hp', c, w)) (hr62 : ∀ (v0 : Nat) (v1 : Int32) (v2 : Int32) (v3 : Int32) (v4 : Int32) (v5 : Int32) (lv : List (Nat × Value)) (hp : List mE) (v : Unit) (hp' : List mE), alk 0 lv = some (.ref v0) → alk 1 lv = some (.int v1) → alk 2 lv = some (.int v2) → alk 3 lv = some (.int v3) → alk 4 lv = some (.int v4) → alk 5 lv = some (.int v5) → lvk n lv → hp.length = n → v0 < n → rc62 v0 v1 v2 v3 v4 v5 hp = some (v, hp') → Rn d 198 62 lv [] hp c w (none, hp', c, w)) : ∀ (v0 : Nat) (v1 : Int32) (v2 : Int32) (v3 : Int32) (v4 : Int32) (v5 : Int32) (t0 : Int32) (t1 : Int32) (lv : List (Nat × Value)) (hp : List mE) (v : Unit) (hp' : List mE), alk 0 lv = some (.ref v0) → alk 1 lv = some (.int v1) → alk 2 lv = some (.int v2) → alk 3 lv = some (.int v3) → alk 4 lv = some (.int v4) → alk 5 lv = some (.int v5) → lvk n lv → hp.length = n → v0 < n → m198_110 F rc31 rc62 v0 v1 v2 v3 v4 v5 t0 t1 hp = some (v, hp') → Rn d 198 110 lv [.int t1, .int t0] hp c w (none, hp', c, w) := by
  obtain ⟨d', rfl⟩ : ∃ d', d = d' + 1 := ⟨d - 1, by omega⟩
  intro v0 v1 v2 v3 v4 v5 t0 t1 lv hp v hp' l0 l1 l2 l3 l4 l5 ok hn r_v0 h
  unfold m198_110 at h
  refine Rn.p n198_110 rfl ?_
  refine Rn.is (m := n) n198_111 ml198 (by decide) (fun lv l6 hk hok => ?_)
  have l0 := hk 0 _ (by decide) (Or.inl rfl) l0
  have l1 := hk 1 _ (by decide) (Or.inl rfl) l1
  have l2 := hk 2 _ (by decide) (Or.inl rfl) l2
  have l3 := hk 3 _ (by decide) (Or.inl rfl) l3
  have l4 := hk 4 _ (by decide) (Or.inl rfl) l4
  have l5 := hk 5 _ (by decide) (Or.inl rfl) l5
  have ok := hok ok
  refine Rn.aload_n n198_113 l0 ?_
  refine Rn.iload_n n198_114 l3 ?_
  obtain ⟨u2, hu2, h⟩ := Option.bind_eq_some_iff.mp h
  obtain ⟨q1, hq1, h⟩ := Option.bind_eq_some_iff.mp h
  have gq1 := c156 (d := d') (by omega) F _ _ _ _ _ (by rw [hn]; exact r_v0) hq1
  refine Rn.cv (As := [.int v3]) (rr := []) n198_115 mo198 mm11_204 (by decide) mq156 rfl rfl rfl rfl (by rw [mo156]; exact hu2) (Nat.le_of_ble_eq_true rfl) (by rw [hn]; exact (okc (okr r_v0) (okc rfl okn))) (by rw [hn]; exact okn) (by rw [hn]; exact ok) (by rw [ml156]; exact Nat.le_of_ble_eq_true rfl) gq1 ?_
  have hn := (Rn.len gq1).trans hn
  show Rn _ 198 118 lv [] q1.2 c w _
  refine Rn.aload_n n198_118 l0 ?_
  refine Rn.aload_n n198_119 l0 ?_
  obtain ⟨x3, hx3, h⟩ := Option.bind_eq_some_iff.mp h
  refine Rn.gf n198_120 mo198 fl11_77 (gfr_v hx3).1 ?_
  have r_x3 : x3 < n := by rw [← hn]; exact (gfr_v hx3).2
  refine Rn.aload_n n198_123 l0 ?_
  obtain ⟨x4, hx4, h⟩ := Option.bind_eq_some_iff.mp h
  refine Rn.gf n198_124 mo198 fl11_292 (gfi_v hx4) ?_
  obtain ⟨u6, hu6, h⟩ := Option.bind_eq_some_iff.mp h
  obtain ⟨q5, hq5, h⟩ := Option.bind_eq_some_iff.mp h
  have gq5 := c178 (d := d') (by omega) F _ _ _ _ _ _ (by rw [hn]; exact r_v0) (by rw [hn]; exact r_x3) hq5
  refine Rn.cv (As := [.ref x3, .int x4]) (rr := []) n198_127 mo198 mm11_248 (by decide) mq178 rfl rfl rfl rfl (by rw [mo178]; exact hu6) (Nat.le_of_ble_eq_true rfl) (by rw [hn]; exact (okc (okr r_v0) (okc (okr r_x3) (okc rfl okn)))) (by rw [hn]; exact okn) (by rw [hn]; exact ok) (by rw [ml178]; exact Nat.le_of_ble_eq_true rfl) gq5 ?_
  have hn := (Rn.len gq5).trans hn
  show Rn _ 198 130 lv [.int q5.1] q5.2 c w _
  refine Rn.is (m := n) n198_130 ml198 (by decide) (fun lv l7 hk hok => ?_)
  have l0 := hk 0 _ (by decide) (Or.inl rfl) l0
  have l1 := hk 1 _ (by decide) (Or.inl rfl) l1
  have l2 := hk 2 _ (by decide) (Or.inl rfl) l2
  have l3 := hk 3 _ (by decide) (Or.inl rfl) l3
  have l4 := hk 4 _ (by decide) (Or.inl rfl) l4
  have l5 := hk 5 _ (by decide) (Or.inl rfl) l5
  have l6 := hk 6 _ (by decide) (Or.inl rfl) l6
  have ok := hok ok
  refine Rn.aload_n n198_132 l0 ?_
  obtain ⟨x7, hx7, h⟩ := Option.bind_eq_some_iff.mp h
  refine Rn.gf n198_133 mo198 fl11_80 (gfr_v hx7).1 ?_
  have r_x7 : x7 < n := by rw [← hn]; exact (gfr_v hx7).2
  refine Rn.iload n198_136 l7 ?_
  refine Rn.iload n198_138 l6 ?_
  obtain ⟨hp8, hhp8, h⟩ := Option.bind_eq_some_iff.mp h
  refine Rn.iast n198_140 hhp8 ?_
  have hn := (wrI_st (st := []) hhp8).2.trans hn
  refine Rn.aload_n n198_141 l0 ?_
  refine Rn.p n198_142 rfl ?_
  obtain ⟨x9, hx9, h⟩ := Option.bind_eq_some_iff.mp h
  refine Rn.gf n198_143 mo198 fl11_292 (gfi_v hx9) ?_
  refine Rn.iload n198_146 l7 ?_
  refine Rn.aload_n n198_148 l0 ?_
  obtain ⟨x10, hx10, h⟩ := Option.bind_eq_some_iff.mp h
  refine Rn.gf n198_149 mo198 fl11_292 (gfi_v hx10) ?_
  by_cases hc11 : mc2 .ne q5.1 x10 = true
  · rw [if_pos hc11] at h
    refine Rn.c2t (t := 159) n198_152 (by decide) hc11 ?_
    refine Rn.ic (v := 0) n198_159 (by decide) ?_
    exact t198_160 hd F hr31 hr62 _ _ _ _ _ _ _ _ _ lv _ _ _ l0 l1 l2 l3 l4 l5 ok hn r_v0 r_v0 h
  · rw [if_neg hc11] at h
    refine Rn.c2f (t := 159) n198_152 (by decide) hc11 ?_
    refine Rn.ic (v := 1) n198_155 (by decide) ?_
    refine Rn.goto (t := 160) n198_156 (by decide) ?_
    exact t198_160 hd F hr31 hr62 _ _ _ _ _ _ _ _ _ lv _ _ _ l0 l1 l2 l3 l4 l5 ok hn r_v0 r_v0 h
def m198_62 (F : Nat) (rc31 : Nat → Int32 → Int32 → List mE → Option (Unit × List mE)) : Nat → Nat → Int32 → Int32 → Int32 → Int32 → Int32 → List mE → Option (Unit × List mE)
  | 0, _, _, _, _, _, _, _ => none
  | f + 1, v0, v1, v2, v3, v4, v5, hp =>
    if mc2 .ge v5 v4 = true then
      rc31 v0 v1 (v2 + 1) hp
    else
      (gfr 11 32 hp v0).bind fun x2 =>
      (gfr 11 13 hp v0).bind fun x3 =>
      (e177 F x2 (25 * v5) x3 0 hp).bind fun q4 =>
      (gfr 11 33 q4.2 v0).bind fun x5 =>
      (rdI q4.2 x5 v5).bind fun x6 =>
      (gfr 11 13 q4.2 v0).bind fun x7 =>
      (e157 F x7 0 v3 q4.2).bind fun q8 =>
      if mc1 .eq q8.1 = true then
        m198_110 F rc31 (m198_62 F rc31 f) v0 v1 v2 v3 v4 v5 x6 1 q8.2
      else
        m198_110 F rc31 (m198_62 F rc31 f) v0 v1 v2 v3 v4 v5 x6 ((-1)) q8.2
theorem t198_62 {d c w n : Nat} (hd : 2 ≤ d) (F : Nat) {rc31 : Nat → Int32 → Int32 → List mE → Option (Unit × List mE)} (hr31 : ∀ (v0 : Nat) (v1 : Int32) (v2 : Int32) (lv : List (Nat × Value)) (hp : List mE) (v : Unit) (hp' : List mE), alk 0 lv = some (.ref v0) → alk 1 lv = some (.int v1) → alk 2 lv = some (.int v2) → lvk n lv → hp.length = n → v0 < n → rc31 v0 v1 v2 hp = some (v, hp') → Rn d 198 31 lv [] hp c w (none, hp', c, w)) : ∀ f : Nat, ∀ (v0 : Nat) (v1 : Int32) (v2 : Int32) (v3 : Int32) (v4 : Int32) (v5 : Int32) (lv : List (Nat × Value)) (hp : List mE) (v : Unit) (hp' : List mE), alk 0 lv = some (.ref v0) → alk 1 lv = some (.int v1) → alk 2 lv = some (.int v2) → alk 3 lv = some (.int v3) → alk 4 lv = some (.int v4) → alk 5 lv = some (.int v5) → lvk n lv → hp.length = n → v0 < n → m198_62 F rc31 f v0 v1 v2 v3 v4 v5 hp = some (v, hp') → Rn d 198 62 lv [] hp c w (none, hp', c, w) := by
  obtain ⟨d', rfl⟩ : ∃ d', d = d' + 1 := ⟨d - 1, by omega⟩
  intro f
  induction f with
  | zero => intro v0 v1 v2 v3 v4 v5 lv hp v hp' l0 l1 l2 l3 l4 l5 ok hn r_v0 h; cases h
  | succ f hr62 =>
    intro v0 v1 v2 v3 v4 v5 lv hp v hp' l0 l1 l2 l3 l4 l5 ok hn r_v0 h
    unfold m198_62 at h
    refine Rn.iload n198_62 l5 ?_
    refine Rn.iload n198_64 l4 ?_
    by_cases hc1 : mc2 .ge v5 v4 = true
    · rw [if_pos hc1] at h
      refine Rn.c2t (t := 170) n198_66 (by decide) hc1 ?_
      refine Rn.ii (m := n) (u := 1) n198_170 ml198 (by decide) (by decide) l2 (fun lv l2 hk hok => ?_)
      have l0 := hk 0 _ (by decide) (Or.inl rfl) l0
      have l1 := hk 1 _ (by decide) (Or.inl rfl) l1
      have l3 := hk 3 _ (by decide) (Or.inl rfl) l3
      have l4 := hk 4 _ (by decide) (Or.inl rfl) l4
      have l5 := hk 5 _ (by decide) (Or.inl rfl) l5
      have ok := hok ok
      refine Rn.goto (t := 31) n198_173 (by decide) ?_
      exact hr31 _ _ _ lv _ _ _ l0 l1 l2 ok hn r_v0  h
    · rw [if_neg hc1] at h
      refine Rn.c2f (t := 170) n198_66 (by decide) hc1 ?_
      refine Rn.aload_n n198_69 l0 ?_
      obtain ⟨x2, hx2, h⟩ := Option.bind_eq_some_iff.mp h
      refine Rn.gf n198_70 mo198 fl11_77 (gfr_v hx2).1 ?_
      have r_x2 : x2 < n := by rw [← hn]; exact (gfr_v hx2).2
      refine Rn.bp (v := 25) n198_73 (by decide) ?_
      refine Rn.iload n198_75 l5 ?_
      refine Rn.p n198_77 rfl ?_
      refine Rn.aload_n n198_78 l0 ?_
      obtain ⟨x3, hx3, h⟩ := Option.bind_eq_some_iff.mp h
      refine Rn.gf n198_79 mo198 fl11_33 (gfr_v hx3).1 ?_
      have r_x3 : x3 < n := by rw [← hn]; exact (gfr_v hx3).2
      refine Rn.ic (v := 0) n198_82 (by decide) ?_
      obtain ⟨q4, hq4, h⟩ := Option.bind_eq_some_iff.mp h
      have gq4 := c177 (d := d') (by omega) F _ _ _ _ _ _ _ (by rw [hn]; exact r_x2) (by rw [hn]; exact r_x3) hq4
      refine Rn.cs (as := [.ref x2, .int (25 * v5), .ref x3, .int 0]) (rr := []) n198_83 mo198 mm11_244 mq177 rfl rfl rfl rfl (Nat.le_of_ble_eq_true rfl) (by rw [hn]; exact (okc (okr r_x2) (okc rfl (okc (okr r_x3) (okc rfl okn))))) (by rw [hn]; exact okn) (by rw [hn]; exact ok) (by rw [ml177]; exact Nat.le_of_ble_eq_true rfl) gq4 ?_
      have hn := (Rn.len gq4).trans hn
      show Rn _ 198 86 lv [] q4.2 c w _
      refine Rn.aload_n n198_86 l0 ?_
      obtain ⟨x5, hx5, h⟩ := Option.bind_eq_some_iff.mp h
      refine Rn.gf n198_87 mo198 fl11_80 (gfr_v hx5).1 ?_
      have r_x5 : x5 < n := by rw [← hn]; exact (gfr_v hx5).2
      refine Rn.iload n198_90 l5 ?_
      obtain ⟨x6, hx6, h⟩ := Option.bind_eq_some_iff.mp h
      refine Rn.iald n198_92 hx6 ?_
      refine Rn.aload_n n198_93 l0 ?_
      obtain ⟨x7, hx7, h⟩ := Option.bind_eq_some_iff.mp h
      refine Rn.gf n198_94 mo198 fl11_33 (gfr_v hx7).1 ?_
      have r_x7 : x7 < n := by rw [← hn]; exact (gfr_v hx7).2
      refine Rn.ic (v := 0) n198_97 (by decide) ?_
      refine Rn.iload_n n198_98 l3 ?_
      obtain ⟨q8, hq8, h⟩ := Option.bind_eq_some_iff.mp h
      have gq8 := c157 (d := d') (by omega) F _ _ _ _ _ _ (by rw [hn]; exact r_x7) hq8
      refine Rn.cs (as := [.ref x7, .int 0, .int v3]) (rr := [.int x6]) n198_99 mo198 mm11_194 mq157 rfl rfl rfl rfl (Nat.le_of_ble_eq_true rfl) (by rw [hn]; exact (okc (okr r_x7) (okc rfl (okc rfl okn)))) (by rw [hn]; exact (okc rfl okn)) (by rw [hn]; exact ok) (by rw [ml157]; exact Nat.le_of_ble_eq_true rfl) gq8 ?_
      have hn := (Rn.len gq8).trans hn
      show Rn _ 198 102 lv [.int q8.1, .int x6] q8.2 c w _
      by_cases hc9 : mc1 .eq q8.1 = true
      · rw [if_pos hc9] at h
        refine Rn.c1t (t := 109) n198_102 (by decide) hc9 ?_
        refine Rn.ic (v := 1) n198_109 (by decide) ?_
        exact t198_110 hd F hr31 hr62 _ _ _ _ _ _ _ _ lv _ _ _ l0 l1 l2 l3 l4 l5 ok hn r_v0  h
      · rw [if_neg hc9] at h
        refine Rn.c1f (t := 109) n198_102 (by decide) hc9 ?_
        refine Rn.ic (v := (-1)) n198_105 (by decide) ?_
        refine Rn.goto (t := 110) n198_106 (by decide) ?_
        exact t198_110 hd F hr31 hr62 _ _ _ _ _ _ _ _ lv _ _ _ l0 l1 l2 l3 l4 l5 ok hn r_v0  h
def m198_31 (F : Nat) : Nat → Nat → Int32 → Int32 → List mE → Option (Unit × List mE)
  | 0, _, _, _, _ => none
  | f + 1, v0, v1, v2, hp =>
    (gfr 11 17 hp v0).bind fun x1 =>
    (rdI hp x1 v1).bind fun x2 =>
    if mc2 .ge v2 x2 = true then
      m198_178 F F v0 0 hp
    else
      (gfr 11 18 hp v0).bind fun x4 =>
      (rdI hp x4 ((20 * v1) + v2)).bind fun x5 =>
      (gfi 11 31 hp v0).bind fun x6 =>
      m198_62 F (m198_31 F f) F v0 v1 v2 x5 x6 0 hp
theorem t198_31 {d c w n : Nat} (hd : 2 ≤ d) (F : Nat) : ∀ f : Nat, ∀ (v0 : Nat) (v1 : Int32) (v2 : Int32) (lv : List (Nat × Value)) (hp : List mE) (v : Unit) (hp' : List mE), alk 0 lv = some (.ref v0) → alk 1 lv = some (.int v1) → alk 2 lv = some (.int v2) → lvk n lv → hp.length = n → v0 < n → m198_31 F f v0 v1 v2 hp = some (v, hp') → Rn d 198 31 lv [] hp c w (none, hp', c, w) := by
  obtain ⟨d', rfl⟩ : ∃ d', d = d' + 1 := ⟨d - 1, by omega⟩
  intro f
  induction f with
  | zero => intro v0 v1 v2 lv hp v hp' l0 l1 l2 ok hn r_v0 h; cases h
  | succ f hr31 =>
    intro v0 v1 v2 lv hp v hp' l0 l1 l2 ok hn r_v0 h
    unfold m198_31 at h
    refine Rn.iload_n n198_31 l2 ?_
    refine Rn.aload_n n198_32 l0 ?_
    obtain ⟨x1, hx1, h⟩ := Option.bind_eq_some_iff.mp h
    refine Rn.gf n198_33 mo198 fl11_40 (gfr_v hx1).1 ?_
    have r_x1 : x1 < n := by rw [← hn]; exact (gfr_v hx1).2
    refine Rn.iload_n n198_36 l1 ?_
    obtain ⟨x2, hx2, h⟩ := Option.bind_eq_some_iff.mp h
    refine Rn.iald n198_37 hx2 ?_
    by_cases hc3 : mc2 .ge v2 x2 = true
    · rw [if_pos hc3] at h
      refine Rn.c2t (t := 176) n198_38 (by decide) hc3 ?_
      refine Rn.ic (v := 0) n198_176 (by decide) ?_
      refine Rn.isn (m := n) n198_177 rfl ml198 (by decide) (fun lv l2 hk hok => ?_)
      have l0 := hk 0 _ (by decide) (Or.inl rfl) l0
      have l1 := hk 1 _ (by decide) (Or.inl rfl) l1
      have ok := hok ok
      exact t198_178 hd F  F _ _ lv _ _ _ l0 l2 ok hn r_v0  h
    · rw [if_neg hc3] at h
      refine Rn.c2f (t := 176) n198_38 (by decide) hc3 ?_
      refine Rn.aload_n n198_41 l0 ?_
      obtain ⟨x4, hx4, h⟩ := Option.bind_eq_some_iff.mp h
      refine Rn.gf n198_42 mo198 fl11_43 (gfr_v hx4).1 ?_
      have r_x4 : x4 < n := by rw [← hn]; exact (gfr_v hx4).2
      refine Rn.bp (v := 20) n198_45 (by decide) ?_
      refine Rn.iload_n n198_47 l1 ?_
      refine Rn.p n198_48 rfl ?_
      refine Rn.iload_n n198_49 l2 ?_
      refine Rn.p n198_50 rfl ?_
      obtain ⟨x5, hx5, h⟩ := Option.bind_eq_some_iff.mp h
      refine Rn.iald n198_51 hx5 ?_
      refine Rn.isn (m := n) n198_52 rfl ml198 (by decide) (fun lv l3 hk hok => ?_)
      have l0 := hk 0 _ (by decide) (Or.inl rfl) l0
      have l1 := hk 1 _ (by decide) (Or.inl rfl) l1
      have l2 := hk 2 _ (by decide) (Or.inl rfl) l2
      have ok := hok ok
      refine Rn.aload_n n198_53 l0 ?_
      obtain ⟨x6, hx6, h⟩ := Option.bind_eq_some_iff.mp h
      refine Rn.gf n198_54 mo198 fl11_292 (gfi_v hx6) ?_
      refine Rn.is (m := n) n198_57 ml198 (by decide) (fun lv l4 hk hok => ?_)
      have l0 := hk 0 _ (by decide) (Or.inl rfl) l0
      have l1 := hk 1 _ (by decide) (Or.inl rfl) l1
      have l2 := hk 2 _ (by decide) (Or.inl rfl) l2
      have l3 := hk 3 _ (by decide) (Or.inl rfl) l3
      have ok := hok ok
      refine Rn.ic (v := 0) n198_59 (by decide) ?_
      refine Rn.is (m := n) n198_60 ml198 (by decide) (fun lv l5 hk hok => ?_)
      have l0 := hk 0 _ (by decide) (Or.inl rfl) l0
      have l1 := hk 1 _ (by decide) (Or.inl rfl) l1
      have l2 := hk 2 _ (by decide) (Or.inl rfl) l2
      have l3 := hk 3 _ (by decide) (Or.inl rfl) l3
      have l4 := hk 4 _ (by decide) (Or.inl rfl) l4
      have ok := hok ok
      exact t198_62 hd F hr31 F _ _ _ _ _ _ lv _ _ _ l0 l1 l2 l3 l4 l5 ok hn r_v0  h
def m198_0 (F : Nat) (v0 : Nat) (v1 : Int32) (hp : List mE) : Option (Unit × List mE) :=
  (rcv 11 hp v0).bind fun u2 =>
  (e154 F v0 hp).bind fun q1 =>
  (gfr 11 13 q1.2 v0).bind fun x3 =>
  (gfr 11 32 q1.2 v0).bind fun x4 =>
  (e177 F x3 0 x4 0 q1.2).bind fun q5 =>
  (gfr 11 33 q5.2 v0).bind fun x6 =>
  (wrI q5.2 x6 0 0).bind fun hp7 =>
  (pfv 11 31 hp7 v0 (.int 1)).bind fun hp8 =>
  m198_31 F F v0 v1 0 hp8
theorem t198_0 {d c w n : Nat} (hd : 2 ≤ d) (F : Nat) : ∀ (v0 : Nat) (v1 : Int32) (lv : List (Nat × Value)) (hp : List mE) (v : Unit) (hp' : List mE), alk 0 lv = some (.ref v0) → alk 1 lv = some (.int v1) → lvk n lv → hp.length = n → v0 < n → m198_0 F v0 v1 hp = some (v, hp') → Rn d 198 0 lv [] hp c w (none, hp', c, w) := by
  obtain ⟨d', rfl⟩ : ∃ d', d = d' + 1 := ⟨d - 1, by omega⟩
  intro v0 v1 lv hp v hp' l0 l1 ok hn r_v0 h
  unfold m198_0 at h
  refine Rn.aload_n n198_0 l0 ?_
  obtain ⟨u2, hu2, h⟩ := Option.bind_eq_some_iff.mp h
  obtain ⟨q1, hq1, h⟩ := Option.bind_eq_some_iff.mp h
  have gq1 := c154 (d := d') (by omega) F _ _ _ _ (by rw [hn]; exact r_v0) hq1
  refine Rn.cv (As := []) (rr := []) n198_1 mo198 mm11_198 (by decide) mq154 rfl rfl rfl rfl (by rw [mo154]; exact hu2) (Nat.le_of_ble_eq_true rfl) (by rw [hn]; exact (okc (okr r_v0) okn)) (by rw [hn]; exact okn) (by rw [hn]; exact ok) (by rw [ml154]; exact Nat.le_of_ble_eq_true rfl) gq1 ?_
  have hn := (Rn.len gq1).trans hn
  show Rn _ 198 4 lv [] q1.2 c w _
  refine Rn.aload_n n198_4 l0 ?_
  obtain ⟨x3, hx3, h⟩ := Option.bind_eq_some_iff.mp h
  refine Rn.gf n198_5 mo198 fl11_33 (gfr_v hx3).1 ?_
  have r_x3 : x3 < n := by rw [← hn]; exact (gfr_v hx3).2
  refine Rn.ic (v := 0) n198_8 (by decide) ?_
  refine Rn.aload_n n198_9 l0 ?_
  obtain ⟨x4, hx4, h⟩ := Option.bind_eq_some_iff.mp h
  refine Rn.gf n198_10 mo198 fl11_77 (gfr_v hx4).1 ?_
  have r_x4 : x4 < n := by rw [← hn]; exact (gfr_v hx4).2
  refine Rn.ic (v := 0) n198_13 (by decide) ?_
  obtain ⟨q5, hq5, h⟩ := Option.bind_eq_some_iff.mp h
  have gq5 := c177 (d := d') (by omega) F _ _ _ _ _ _ _ (by rw [hn]; exact r_x3) (by rw [hn]; exact r_x4) hq5
  refine Rn.cs (as := [.ref x3, .int 0, .ref x4, .int 0]) (rr := []) n198_14 mo198 mm11_244 mq177 rfl rfl rfl rfl (Nat.le_of_ble_eq_true rfl) (by rw [hn]; exact (okc (okr r_x3) (okc rfl (okc (okr r_x4) (okc rfl okn))))) (by rw [hn]; exact okn) (by rw [hn]; exact ok) (by rw [ml177]; exact Nat.le_of_ble_eq_true rfl) gq5 ?_
  have hn := (Rn.len gq5).trans hn
  show Rn _ 198 17 lv [] q5.2 c w _
  refine Rn.aload_n n198_17 l0 ?_
  obtain ⟨x6, hx6, h⟩ := Option.bind_eq_some_iff.mp h
  refine Rn.gf n198_18 mo198 fl11_80 (gfr_v hx6).1 ?_
  have r_x6 : x6 < n := by rw [← hn]; exact (gfr_v hx6).2
  refine Rn.ic (v := 0) n198_21 (by decide) ?_
  refine Rn.ic (v := 0) n198_22 (by decide) ?_
  obtain ⟨hp7, hhp7, h⟩ := Option.bind_eq_some_iff.mp h
  refine Rn.iast n198_23 hhp7 ?_
  have hn := (wrI_st (st := []) hhp7).2.trans hn
  refine Rn.aload_n n198_24 l0 ?_
  refine Rn.ic (v := 1) n198_25 (by decide) ?_
  obtain ⟨hp8, hhp8, h⟩ := Option.bind_eq_some_iff.mp h
  refine Rn.pf n198_26 mo198 fl11_292 ft11_31 rfl ff11_31 (fun _ _ hh => by cases hh) hhp8 ?_
  have hn := (pfv_len hhp8).trans hn
  refine Rn.ic (v := 0) n198_29 (by decide) ?_
  refine Rn.isn (m := n) n198_30 rfl ml198 (by decide) (fun lv l2 hk hok => ?_)
  have l0 := hk 0 _ (by decide) (Or.inl rfl) l0
  have l1 := hk 1 _ (by decide) (Or.inl rfl) l1
  have ok := hok ok
  exact t198_31 hd F  F _ _ _ lv _ _ _ l0 l1 l2 ok hn r_v0  h
def e198 (F : Nat) (a0 : Nat) (a1 : Int32) (hp : List mE) : Option (Unit × List mE) := m198_0 F a0 a1 hp
theorem c198 {d : Nat} (hd : 2 ≤ d) (F : Nat) (a0 : Nat) (a1 : Int32) (hp : List mE) (v : Unit) (hp' : List mE) (ra0 : a0 < hp.length) (h : e198 F a0 a1 hp = some (v, hp')) : Rn d 198 0 (lv_args 0 [.ref a0, .int a1]) [] hp 0 0 (none, hp', 0, 0) :=
  t198_0 (n := hp.length) hd F a0 a1 (lv_args 0 [.ref a0, .int a1]) hp v hp' rfl rfl (lvk_args (okc (okr ra0) (okc rfl okn))) rfl ra0 h
/-! MirrorRootsModel.old -/
def m200_23 (F : Nat) (t0 : Int32) (hp : List mE) : Option (Int32 × List mE) :=
  some (t0, hp)
theorem t200_23 {d c w n : Nat} (hd : 0 ≤ d) (F : Nat) : ∀ (t0 : Int32) (lv : List (Nat × Value)) (hp : List mE) (v : Int32) (hp' : List mE), lvk n lv → hp.length = n → m200_23 F t0 hp = some (v, hp') → Rn d 200 23 lv [.int t0] hp c w (some (.int v), hp', c, w) := by
  intro t0 lv hp v hp' ok hn h
  unfold m200_23 at h
  have e1 := (Prod.mk.inj (Option.some.inj h)).1
  have e2 := (Prod.mk.inj (Option.some.inj h)).2
  subst e1
  subst e2
  exact Rn.iret n200_23 mr200
def m200_8 (F : Nat) (hp : List mE) : Option (Int32 × List mE) :=
  m200_23 F 0 hp
theorem t200_8 {d c w n : Nat} (hd : 0 ≤ d) (F : Nat) : ∀ (lv : List (Nat × Value)) (hp : List mE) (v : Int32) (hp' : List mE), lvk n lv → hp.length = n → m200_8 F hp = some (v, hp') → Rn d 200 8 lv [] hp c w (some (.int v), hp', c, w) := by
  intro lv hp v hp' ok hn h
  unfold m200_8 at h
  refine Rn.ic (v := 0) n200_8 (by decide) ?_
  refine Rn.goto (t := 23) n200_9 (by decide) ?_
  exact t200_23 hd F  _ lv _ _ _  ok hn   h
def m200_0 (F : Nat) (v0 : Nat) (v1 : Int32) (v2 : Int32) (hp : List mE) : Option (Int32 × List mE) :=
  if mc1 .lt v1 = true then
    m200_8 F hp
  else
    if mc1 .ge v2 = true then
      (gfr 11 36 hp v0).bind fun x3 =>
      (rdI hp x3 ((9 * v1) + v2)).bind fun x4 =>
      m200_23 F x4 hp
    else
      m200_8 F hp
theorem t200_0 {d c w n : Nat} (hd : 0 ≤ d) (F : Nat) : ∀ (v0 : Nat) (v1 : Int32) (v2 : Int32) (lv : List (Nat × Value)) (hp : List mE) (v : Int32) (hp' : List mE), alk 0 lv = some (.ref v0) → alk 1 lv = some (.int v1) → alk 2 lv = some (.int v2) → lvk n lv → hp.length = n → v0 < n → m200_0 F v0 v1 v2 hp = some (v, hp') → Rn d 200 0 lv [] hp c w (some (.int v), hp', c, w) := by
  intro v0 v1 v2 lv hp v hp' l0 l1 l2 ok hn r_v0 h
  unfold m200_0 at h
  refine Rn.iload_n n200_0 l1 ?_
  by_cases hc1 : mc1 .lt v1 = true
  · rw [if_pos hc1] at h
    refine Rn.c1t (t := 8) n200_1 (by decide) hc1 ?_
    exact t200_8 hd F  lv _ _ _  ok hn   h
  · rw [if_neg hc1] at h
    refine Rn.c1f (t := 8) n200_1 (by decide) hc1 ?_
    refine Rn.iload_n n200_4 l2 ?_
    by_cases hc2 : mc1 .ge v2 = true
    · rw [if_pos hc2] at h
      refine Rn.c1t (t := 12) n200_5 (by decide) hc2 ?_
      refine Rn.aload_n n200_12 l0 ?_
      obtain ⟨x3, hx3, h⟩ := Option.bind_eq_some_iff.mp h
      refine Rn.gf n200_13 mo200 fl11_89 (gfr_v hx3).1 ?_
      have r_x3 : x3 < n := by rw [← hn]; exact (gfr_v hx3).2
      refine Rn.bp (v := 9) n200_16 (by decide) ?_
      refine Rn.iload_n n200_18 l1 ?_
      refine Rn.p n200_19 rfl ?_
      refine Rn.iload_n n200_20 l2 ?_
      refine Rn.p n200_21 rfl ?_
      obtain ⟨x4, hx4, h⟩ := Option.bind_eq_some_iff.mp h
      refine Rn.iald n200_22 hx4 ?_
      exact t200_23 hd F  _ lv _ _ _  ok hn   h
    · rw [if_neg hc2] at h
      refine Rn.c1f (t := 12) n200_5 (by decide) hc2 ?_
      exact t200_8 hd F  lv _ _ _  ok hn   h
def e200 (F : Nat) (a0 : Nat) (a1 : Int32) (a2 : Int32) (hp : List mE) : Option (Int32 × List mE) := m200_0 F a0 a1 a2 hp
theorem c200 {d : Nat} (hd : 0 ≤ d) (F : Nat) (a0 : Nat) (a1 : Int32) (a2 : Int32) (hp : List mE) (v : Int32) (hp' : List mE) (ra0 : a0 < hp.length) (h : e200 F a0 a1 a2 hp = some (v, hp')) : Rn d 200 0 (lv_args 0 [.ref a0, .int a1, .int a2]) [] hp 0 0 (some (.int v), hp', 0, 0) :=
  t200_0 (n := hp.length) hd F a0 a1 a2 (lv_args 0 [.ref a0, .int a1, .int a2]) hp v hp' rfl rfl rfl (lvk_args (okc (okr ra0) (okc rfl (okc rfl okn)))) rfl ra0 h
/-! MirrorRootsModel.findR -/
def m201_239 (F : Nat) (rc105 : Nat → Int32 → List mE → Option (Unit × List mE)) : Nat → Nat → Int32 → Int32 → List mE → Option (Unit × List mE)
  | 0, _, _, _, _ => none
  | f + 1, v0, v4, v6, hp =>
    (gfi 11 31 hp v0).bind fun x1 =>
    if mc2 .ge v6 (9 * x1) = true then
      rc105 v0 (v4 + (-1)) hp
    else
      (gfr 11 36 hp v0).bind fun x3 =>
      (gfr 11 37 hp v0).bind fun x4 =>
      (rdI hp x4 v6).bind fun x5 =>
      (wrI hp x3 v6 x5).bind fun hp6 =>
      m201_239 F rc105 f v0 v4 (v6 + 1) hp6
theorem t201_239 {d c w n : Nat} (hd : 1 ≤ d) (F : Nat) {rc105 : Nat → Int32 → List mE → Option (Unit × List mE)} (hr105 : ∀ (v0 : Nat) (v4 : Int32) (lv : List (Nat × Value)) (hp : List mE) (v : Unit) (hp' : List mE), alk 0 lv = some (.ref v0) → alk 4 lv = some (.int v4) → lvk n lv → hp.length = n → v0 < n → rc105 v0 v4 hp = some (v, hp') → Rn d 201 105 lv [] hp c w (none, hp', c, w)) : ∀ f : Nat, ∀ (v0 : Nat) (v4 : Int32) (v6 : Int32) (lv : List (Nat × Value)) (hp : List mE) (v : Unit) (hp' : List mE), alk 0 lv = some (.ref v0) → alk 4 lv = some (.int v4) → alk 6 lv = some (.int v6) → lvk n lv → hp.length = n → v0 < n → m201_239 F rc105 f v0 v4 v6 hp = some (v, hp') → Rn d 201 239 lv [] hp c w (none, hp', c, w) := by
  obtain ⟨d', rfl⟩ : ∃ d', d = d' + 1 := ⟨d - 1, by omega⟩
  intro f
  induction f with
  | zero => intro v0 v4 v6 lv hp v hp' l0 l4 l6 ok hn r_v0 h; cases h
  | succ f hr239 =>
    intro v0 v4 v6 lv hp v hp' l0 l4 l6 ok hn r_v0 h
    unfold m201_239 at h
    refine Rn.iload n201_239 l6 ?_
    refine Rn.bp (v := 9) n201_241 (by decide) ?_
    refine Rn.aload_n n201_243 l0 ?_
    obtain ⟨x1, hx1, h⟩ := Option.bind_eq_some_iff.mp h
    refine Rn.gf n201_244 mo201 fl11_292 (gfi_v hx1) ?_
    refine Rn.p n201_247 rfl ?_
    by_cases hc2 : mc2 .ge v6 (9 * x1) = true
    · rw [if_pos hc2] at h
      refine Rn.c2t (t := 271) n201_248 (by decide) hc2 ?_
      refine Rn.ii (m := n) (u := (-1)) n201_271 ml201 (by decide) (by decide) l4 (fun lv l4 hk hok => ?_)
      have l0 := hk 0 _ (by decide) (Or.inl rfl) l0
      have l6 := hk 6 _ (by decide) (Or.inl rfl) l6
      have ok := hok ok
      refine Rn.goto (t := 105) n201_274 (by decide) ?_
      exact hr105 _ _ lv _ _ _ l0 l4 ok hn r_v0  h
    · rw [if_neg hc2] at h
      refine Rn.c2f (t := 271) n201_248 (by decide) hc2 ?_
      refine Rn.aload_n n201_251 l0 ?_
      obtain ⟨x3, hx3, h⟩ := Option.bind_eq_some_iff.mp h
      refine Rn.gf n201_252 mo201 fl11_89 (gfr_v hx3).1 ?_
      have r_x3 : x3 < n := by rw [← hn]; exact (gfr_v hx3).2
      refine Rn.iload n201_255 l6 ?_
      refine Rn.aload_n n201_257 l0 ?_
      obtain ⟨x4, hx4, h⟩ := Option.bind_eq_some_iff.mp h
      refine Rn.gf n201_258 mo201 fl11_92 (gfr_v hx4).1 ?_
      have r_x4 : x4 < n := by rw [← hn]; exact (gfr_v hx4).2
      refine Rn.iload n201_261 l6 ?_
      obtain ⟨x5, hx5, h⟩ := Option.bind_eq_some_iff.mp h
      refine Rn.iald n201_263 hx5 ?_
      obtain ⟨hp6, hhp6, h⟩ := Option.bind_eq_some_iff.mp h
      refine Rn.iast n201_264 hhp6 ?_
      have hn := (wrI_st (st := []) hhp6).2.trans hn
      refine Rn.ii (m := n) (u := 1) n201_265 ml201 (by decide) (by decide) l6 (fun lv l6 hk hok => ?_)
      have l0 := hk 0 _ (by decide) (Or.inl rfl) l0
      have l4 := hk 4 _ (by decide) (Or.inl rfl) l4
      have ok := hok ok
      refine Rn.goto (t := 239) n201_268 (by decide) ?_
      exact hr239 _ _ _ lv _ _ _ l0 l4 l6 ok hn r_v0  h
def m201_223 (F : Nat) (rc105 : Nat → Int32 → List mE → Option (Unit × List mE)) (rc122 : Nat → Int32 → Int32 → Int32 → List mE → Option (Unit × List mE)) (rc148 : Nat → Int32 → Int32 → Int32 → Int32 → Int32 → List mE → Option (Unit × List mE)) (v0 : Nat) (v4 : Int32) (v5 : Int32) (v6 : Int32) (v7 : Int32) (v8 : Int32) (t0 : Nat) (t1 : Int32) (t2 : Int32) (hp : List mE) : Option (Unit × List mE) :=
  (wrI hp t0 t1 t2).bind fun hp1 =>
  rc148 v0 v4 v5 v6 v7 (v8 + 1) hp1
theorem t201_223 {d c w n : Nat} (hd : 1 ≤ d) (F : Nat) {rc105 : Nat → Int32 → List mE → Option (Unit × List mE)} {rc122 : Nat → Int32 → Int32 → Int32 → List mE → Option (Unit × List mE)} {rc148 : Nat → Int32 → Int32 → Int32 → Int32 → Int32 → List mE → Option (Unit × List mE)} (hr105 : ∀ (v0 : Nat) (v4 : Int32) (lv : List (Nat × Value)) (hp : List mE) (v : Unit) (hp' : List mE), alk 0 lv = some (.ref v0) → alk 4 lv = some (.int v4) → lvk n lv → hp.length = n → v0 < n → rc105 v0 v4 hp = some (v, hp') → Rn d 201 105 lv [] hp c w (none, hp', c, w)) (hr122 : ∀ (v0 : Nat) (v4 : Int32) (v5 : Int32) (v6 : Int32) (lv : List (Nat × Value)) (hp : List mE) (v : Unit) (hp' : List mE), alk 0 lv = some (.ref v0) → alk 4 lv = some (.int v4) → alk 5 lv = some (.int v5) → alk 6 lv = some (.int v6) → lvk n lv → hp.length = n → v0 < n → rc122 v0 v4 v5 v6 hp = some (v, hp') → Rn d 201 122 lv [] hp c w (none, hp', c, w)) (hr148 : ∀ (v0 : Nat) (v4 : Int32) (v5 : Int32) (v6 : Int32) (v7 : Int32) (v8 : Int32) (lv : List (Nat × Value)) (hp : List mE) (v : Unit) (hp' : List mE), alk 0 lv = some (.ref v0) → alk 4 lv = some (.int v4) → alk 5 lv = some (.int v5) → alk 6 lv = some (.int v6) → alk 7 lv = some (.int v7) → alk 8 lv = some (.int v8) → lvk n lv → hp.length = n → v0 < n → rc148 v0 v4 v5 v6 v7 v8 hp = some (v, hp') → Rn d 201 148 lv [] hp c w (none, hp', c, w)) : ∀ (v0 : Nat) (v4 : Int32) (v5 : Int32) (v6 : Int32) (v7 : Int32) (v8 : Int32) (t0 : Nat) (t1 : Int32) (t2 : Int32) (lv : List (Nat × Value)) (hp : List mE) (v : Unit) (hp' : List mE), alk 0 lv = some (.ref v0) → alk 4 lv = some (.int v4) → alk 5 lv = some (.int v5) → alk 6 lv = some (.int v6) → alk 7 lv = some (.int v7) → alk 8 lv = some (.int v8) → lvk n lv → hp.length = n → v0 < n → t0 < n → m201_223 F rc105 rc122 rc148 v0 v4 v5 v6 v7 v8 t0 t1 t2 hp = some (v, hp') → Rn d 201 223 lv [.int t2, .int t1, .ref t0] hp c w (none, hp', c, w) := by
  obtain ⟨d', rfl⟩ : ∃ d', d = d' + 1 := ⟨d - 1, by omega⟩
  intro v0 v4 v5 v6 v7 v8 t0 t1 t2 lv hp v hp' l0 l4 l5 l6 l7 l8 ok hn r_v0 r_t0 h
  unfold m201_223 at h
  obtain ⟨hp1, hhp1, h⟩ := Option.bind_eq_some_iff.mp h
  refine Rn.iast n201_223 hhp1 ?_
  have hn := (wrI_st (st := []) hhp1).2.trans hn
  refine Rn.ii (m := n) (u := 1) n201_224 ml201 (by decide) (by decide) l8 (fun lv l8 hk hok => ?_)
  have l0 := hk 0 _ (by decide) (Or.inl rfl) l0
  have l4 := hk 4 _ (by decide) (Or.inl rfl) l4
  have l5 := hk 5 _ (by decide) (Or.inl rfl) l5
  have l6 := hk 6 _ (by decide) (Or.inl rfl) l6
  have l7 := hk 7 _ (by decide) (Or.inl rfl) l7
  have ok := hok ok
  refine Rn.goto (t := 148) n201_227 (by decide) ?_
  exact hr148 _ _ _ _ _ _ lv _ _ _ l0 l4 l5 l6 l7 l8 ok hn r_v0  h
def m201_148 (F : Nat) (rc105 : Nat → Int32 → List mE → Option (Unit × List mE)) (rc122 : Nat → Int32 → Int32 → Int32 → List mE → Option (Unit × List mE)) : Nat → Nat → Int32 → Int32 → Int32 → Int32 → Int32 → List mE → Option (Unit × List mE)
  | 0, _, _, _, _, _, _, _ => none
  | f + 1, v0, v4, v5, v6, v7, v8, hp =>
    if mc2 .ge v8 9 = true then
      rc122 v0 v4 v5 (v6 + 1) hp
    else
      (gfr 11 37 hp v0).bind fun x2 =>
      (gfr 11 35 hp v0).bind fun x3 =>
      (rdZ hp x3 ((5 * v6) + v5)).bind fun x4 =>
      if mc1 .eq x4 = true then
        (rcv 11 hp v0).bind fun u7 =>
        (e200 F v0 v6 (v8 - 1) hp).bind fun q6 =>
        (rcv 11 q6.2 v0).bind fun u9 =>
        (e200 F v0 v6 v8 q6.2).bind fun q8 =>
        (rcv 11 q8.2 v0).bind fun u11 =>
        (e200 F v0 v7 (v8 - 1) q8.2).bind fun q10 =>
        m201_223 F rc105 rc122 (m201_148 F rc105 rc122 f) v0 v4 v5 v6 v7 v8 x2 ((9 * v6) + v8) ((q6.1 - q8.1) + q10.1) q10.2
      else
        (rcv 11 hp v0).bind fun u13 =>
        (e200 F v0 v7 v8 hp).bind fun q12 =>
        m201_223 F rc105 rc122 (m201_148 F rc105 rc122 f) v0 v4 v5 v6 v7 v8 x2 ((9 * v6) + v8) q12.1 q12.2
theorem t201_148 {d c w n : Nat} (hd : 1 ≤ d) (F : Nat) {rc105 : Nat → Int32 → List mE → Option (Unit × List mE)} {rc122 : Nat → Int32 → Int32 → Int32 → List mE → Option (Unit × List mE)} (hr105 : ∀ (v0 : Nat) (v4 : Int32) (lv : List (Nat × Value)) (hp : List mE) (v : Unit) (hp' : List mE), alk 0 lv = some (.ref v0) → alk 4 lv = some (.int v4) → lvk n lv → hp.length = n → v0 < n → rc105 v0 v4 hp = some (v, hp') → Rn d 201 105 lv [] hp c w (none, hp', c, w)) (hr122 : ∀ (v0 : Nat) (v4 : Int32) (v5 : Int32) (v6 : Int32) (lv : List (Nat × Value)) (hp : List mE) (v : Unit) (hp' : List mE), alk 0 lv = some (.ref v0) → alk 4 lv = some (.int v4) → alk 5 lv = some (.int v5) → alk 6 lv = some (.int v6) → lvk n lv → hp.length = n → v0 < n → rc122 v0 v4 v5 v6 hp = some (v, hp') → Rn d 201 122 lv [] hp c w (none, hp', c, w)) : ∀ f : Nat, ∀ (v0 : Nat) (v4 : Int32) (v5 : Int32) (v6 : Int32) (v7 : Int32) (v8 : Int32) (lv : List (Nat × Value)) (hp : List mE) (v : Unit) (hp' : List mE), alk 0 lv = some (.ref v0) → alk 4 lv = some (.int v4) → alk 5 lv = some (.int v5) → alk 6 lv = some (.int v6) → alk 7 lv = some (.int v7) → alk 8 lv = some (.int v8) → lvk n lv → hp.length = n → v0 < n → m201_148 F rc105 rc122 f v0 v4 v5 v6 v7 v8 hp = some (v, hp') → Rn d 201 148 lv [] hp c w (none, hp', c, w) := by
  obtain ⟨d', rfl⟩ : ∃ d', d = d' + 1 := ⟨d - 1, by omega⟩
  intro f
  induction f with
  | zero => intro v0 v4 v5 v6 v7 v8 lv hp v hp' l0 l4 l5 l6 l7 l8 ok hn r_v0 h; cases h
  | succ f hr148 =>
    intro v0 v4 v5 v6 v7 v8 lv hp v hp' l0 l4 l5 l6 l7 l8 ok hn r_v0 h
    unfold m201_148 at h
    refine Rn.iload n201_148 l8 ?_
    refine Rn.bp (v := 9) n201_150 (by decide) ?_
    by_cases hc1 : mc2 .ge v8 9 = true
    · rw [if_pos hc1] at h
      refine Rn.c2t (t := 230) n201_152 (by decide) hc1 ?_
      refine Rn.ii (m := n) (u := 1) n201_230 ml201 (by decide) (by decide) l6 (fun lv l6 hk hok => ?_)
      have l0 := hk 0 _ (by decide) (Or.inl rfl) l0
      have l4 := hk 4 _ (by decide) (Or.inl rfl) l4
      have l5 := hk 5 _ (by decide) (Or.inl rfl) l5
      have l7 := hk 7 _ (by decide) (Or.inl rfl) l7
      have l8 := hk 8 _ (by decide) (Or.inl rfl) l8
      have ok := hok ok
      refine Rn.goto (t := 122) n201_233 (by decide) ?_
      exact hr122 _ _ _ _ lv _ _ _ l0 l4 l5 l6 ok hn r_v0  h
    · rw [if_neg hc1] at h
      refine Rn.c2f (t := 230) n201_152 (by decide) hc1 ?_
      refine Rn.aload_n n201_155 l0 ?_
      obtain ⟨x2, hx2, h⟩ := Option.bind_eq_some_iff.mp h
      refine Rn.gf n201_156 mo201 fl11_92 (gfr_v hx2).1 ?_
      have r_x2 : x2 < n := by rw [← hn]; exact (gfr_v hx2).2
      refine Rn.bp (v := 9) n201_159 (by decide) ?_
      refine Rn.iload n201_161 l6 ?_
      refine Rn.p n201_163 rfl ?_
      refine Rn.iload n201_164 l8 ?_
      refine Rn.p n201_166 rfl ?_
      refine Rn.aload_n n201_167 l0 ?_
      obtain ⟨x3, hx3, h⟩ := Option.bind_eq_some_iff.mp h
      refine Rn.gf n201_168 mo201 fl11_86 (gfr_v hx3).1 ?_
      have r_x3 : x3 < n := by rw [← hn]; exact (gfr_v hx3).2
      refine Rn.ic (v := 5) n201_171 (by decide) ?_
      refine Rn.iload n201_172 l6 ?_
      refine Rn.p n201_174 rfl ?_
      refine Rn.iload n201_175 l5 ?_
      refine Rn.p n201_177 rfl ?_
      obtain ⟨x4, hx4, h⟩ := Option.bind_eq_some_iff.mp h
      refine Rn.zald n201_178 hx4 ?_
      by_cases hc5 : mc1 .eq x4 = true
      · rw [if_pos hc5] at h
        refine Rn.c1t (t := 193) n201_179 (by decide) hc5 ?_
        refine Rn.aload_n n201_193 l0 ?_
        refine Rn.iload n201_194 l6 ?_
        refine Rn.iload n201_196 l8 ?_
        refine Rn.ic (v := 1) n201_198 (by decide) ?_
        refine Rn.p n201_199 rfl ?_
        obtain ⟨u7, hu7, h⟩ := Option.bind_eq_some_iff.mp h
        obtain ⟨q6, hq6, h⟩ := Option.bind_eq_some_iff.mp h
        have gq6 := c200 (d := d') (by omega) F _ _ _ _ _ _ (by rw [hn]; exact r_v0) hq6
        refine Rn.cv (As := [.int v6, .int (v8 - 1)]) (rr := [.int ((9 * v6) + v8), .ref x2]) n201_200 mo201 mm11_298 (by decide) mq200 rfl rfl rfl rfl (by rw [mo200]; exact hu7) (Nat.le_of_ble_eq_true rfl) (by rw [hn]; exact (okc (okr r_v0) (okc rfl (okc rfl okn)))) (by rw [hn]; exact (okc rfl (okc (okr r_x2) okn))) (by rw [hn]; exact ok) (by rw [ml200]; exact Nat.le_of_ble_eq_true rfl) gq6 ?_
        have hn := (Rn.len gq6).trans hn
        show Rn _ 201 203 lv [.int q6.1, .int ((9 * v6) + v8), .ref x2] q6.2 c w _
        refine Rn.aload_n n201_203 l0 ?_
        refine Rn.iload n201_204 l6 ?_
        refine Rn.iload n201_206 l8 ?_
        obtain ⟨u9, hu9, h⟩ := Option.bind_eq_some_iff.mp h
        obtain ⟨q8, hq8, h⟩ := Option.bind_eq_some_iff.mp h
        have gq8 := c200 (d := d') (by omega) F _ _ _ _ _ _ (by rw [hn]; exact r_v0) hq8
        refine Rn.cv (As := [.int v6, .int v8]) (rr := [.int q6.1, .int ((9 * v6) + v8), .ref x2]) n201_208 mo201 mm11_298 (by decide) mq200 rfl rfl rfl rfl (by rw [mo200]; exact hu9) (Nat.le_of_ble_eq_true rfl) (by rw [hn]; exact (okc (okr r_v0) (okc rfl (okc rfl okn)))) (by rw [hn]; exact (okc rfl (okc rfl (okc (okr r_x2) okn)))) (by rw [hn]; exact ok) (by rw [ml200]; exact Nat.le_of_ble_eq_true rfl) gq8 ?_
        have hn := (Rn.len gq8).trans hn
        show Rn _ 201 211 lv [.int q8.1, .int q6.1, .int ((9 * v6) + v8), .ref x2] q8.2 c w _
        refine Rn.p n201_211 rfl ?_
        refine Rn.aload_n n201_212 l0 ?_
        refine Rn.iload n201_213 l7 ?_
        refine Rn.iload n201_215 l8 ?_
        refine Rn.ic (v := 1) n201_217 (by decide) ?_
        refine Rn.p n201_218 rfl ?_
        obtain ⟨u11, hu11, h⟩ := Option.bind_eq_some_iff.mp h
        obtain ⟨q10, hq10, h⟩ := Option.bind_eq_some_iff.mp h
        have gq10 := c200 (d := d') (by omega) F _ _ _ _ _ _ (by rw [hn]; exact r_v0) hq10
        refine Rn.cv (As := [.int v7, .int (v8 - 1)]) (rr := [.int (q6.1 - q8.1), .int ((9 * v6) + v8), .ref x2]) n201_219 mo201 mm11_298 (by decide) mq200 rfl rfl rfl rfl (by rw [mo200]; exact hu11) (Nat.le_of_ble_eq_true rfl) (by rw [hn]; exact (okc (okr r_v0) (okc rfl (okc rfl okn)))) (by rw [hn]; exact (okc rfl (okc rfl (okc (okr r_x2) okn)))) (by rw [hn]; exact ok) (by rw [ml200]; exact Nat.le_of_ble_eq_true rfl) gq10 ?_
        have hn := (Rn.len gq10).trans hn
        show Rn _ 201 222 lv [.int q10.1, .int (q6.1 - q8.1), .int ((9 * v6) + v8), .ref x2] q10.2 c w _
        refine Rn.p n201_222 rfl ?_
        exact t201_223 hd F hr105 hr122 hr148 _ _ _ _ _ _ _ _ _ lv _ _ _ l0 l4 l5 l6 l7 l8 ok hn r_v0 r_x2 h
      · rw [if_neg hc5] at h
        refine Rn.c1f (t := 193) n201_179 (by decide) hc5 ?_
        refine Rn.aload_n n201_182 l0 ?_
        refine Rn.iload n201_183 l7 ?_
        refine Rn.iload n201_185 l8 ?_
        obtain ⟨u13, hu13, h⟩ := Option.bind_eq_some_iff.mp h
        obtain ⟨q12, hq12, h⟩ := Option.bind_eq_some_iff.mp h
        have gq12 := c200 (d := d') (by omega) F _ _ _ _ _ _ (by rw [hn]; exact r_v0) hq12
        refine Rn.cv (As := [.int v7, .int v8]) (rr := [.int ((9 * v6) + v8), .ref x2]) n201_187 mo201 mm11_298 (by decide) mq200 rfl rfl rfl rfl (by rw [mo200]; exact hu13) (Nat.le_of_ble_eq_true rfl) (by rw [hn]; exact (okc (okr r_v0) (okc rfl (okc rfl okn)))) (by rw [hn]; exact (okc rfl (okc (okr r_x2) okn))) (by rw [hn]; exact ok) (by rw [ml200]; exact Nat.le_of_ble_eq_true rfl) gq12 ?_
        have hn := (Rn.len gq12).trans hn
        show Rn _ 201 190 lv [.int q12.1, .int ((9 * v6) + v8), .ref x2] q12.2 c w _
        refine Rn.goto (t := 223) n201_190 (by decide) ?_
        exact t201_223 hd F hr105 hr122 hr148 _ _ _ _ _ _ _ _ _ lv _ _ _ l0 l4 l5 l6 l7 l8 ok hn r_v0 r_x2 h
def m201_122 (F : Nat) (rc105 : Nat → Int32 → List mE → Option (Unit × List mE)) : Nat → Nat → Int32 → Int32 → Int32 → List mE → Option (Unit × List mE)
  | 0, _, _, _, _, _ => none
  | f + 1, v0, v4, v5, v6, hp =>
    (gfi 11 31 hp v0).bind fun x1 =>
    if mc2 .ge v6 x1 = true then
      m201_239 F rc105 F v0 v4 0 hp
    else
      (gfr 11 34 hp v0).bind fun x3 =>
      (rdI hp x3 ((5 * v6) + v5)).bind fun x4 =>
      m201_148 F rc105 (m201_122 F rc105 f) F v0 v4 v5 v6 x4 0 hp
theorem t201_122 {d c w n : Nat} (hd : 1 ≤ d) (F : Nat) {rc105 : Nat → Int32 → List mE → Option (Unit × List mE)} (hr105 : ∀ (v0 : Nat) (v4 : Int32) (lv : List (Nat × Value)) (hp : List mE) (v : Unit) (hp' : List mE), alk 0 lv = some (.ref v0) → alk 4 lv = some (.int v4) → lvk n lv → hp.length = n → v0 < n → rc105 v0 v4 hp = some (v, hp') → Rn d 201 105 lv [] hp c w (none, hp', c, w)) : ∀ f : Nat, ∀ (v0 : Nat) (v4 : Int32) (v5 : Int32) (v6 : Int32) (lv : List (Nat × Value)) (hp : List mE) (v : Unit) (hp' : List mE), alk 0 lv = some (.ref v0) → alk 4 lv = some (.int v4) → alk 5 lv = some (.int v5) → alk 6 lv = some (.int v6) → lvk n lv → hp.length = n → v0 < n → m201_122 F rc105 f v0 v4 v5 v6 hp = some (v, hp') → Rn d 201 122 lv [] hp c w (none, hp', c, w) := by
  obtain ⟨d', rfl⟩ : ∃ d', d = d' + 1 := ⟨d - 1, by omega⟩
  intro f
  induction f with
  | zero => intro v0 v4 v5 v6 lv hp v hp' l0 l4 l5 l6 ok hn r_v0 h; cases h
  | succ f hr122 =>
    intro v0 v4 v5 v6 lv hp v hp' l0 l4 l5 l6 ok hn r_v0 h
    unfold m201_122 at h
    refine Rn.iload n201_122 l6 ?_
    refine Rn.aload_n n201_124 l0 ?_
    obtain ⟨x1, hx1, h⟩ := Option.bind_eq_some_iff.mp h
    refine Rn.gf n201_125 mo201 fl11_292 (gfi_v hx1) ?_
    by_cases hc2 : mc2 .ge v6 x1 = true
    · rw [if_pos hc2] at h
      refine Rn.c2t (t := 236) n201_128 (by decide) hc2 ?_
      refine Rn.ic (v := 0) n201_236 (by decide) ?_
      refine Rn.is (m := n) n201_237 ml201 (by decide) (fun lv l6 hk hok => ?_)
      have l0 := hk 0 _ (by decide) (Or.inl rfl) l0
      have l4 := hk 4 _ (by decide) (Or.inl rfl) l4
      have l5 := hk 5 _ (by decide) (Or.inl rfl) l5
      have ok := hok ok
      exact t201_239 hd F hr105 F _ _ _ lv _ _ _ l0 l4 l6 ok hn r_v0  h
    · rw [if_neg hc2] at h
      refine Rn.c2f (t := 236) n201_128 (by decide) hc2 ?_
      refine Rn.aload_n n201_131 l0 ?_
      obtain ⟨x3, hx3, h⟩ := Option.bind_eq_some_iff.mp h
      refine Rn.gf n201_132 mo201 fl11_83 (gfr_v hx3).1 ?_
      have r_x3 : x3 < n := by rw [← hn]; exact (gfr_v hx3).2
      refine Rn.ic (v := 5) n201_135 (by decide) ?_
      refine Rn.iload n201_136 l6 ?_
      refine Rn.p n201_138 rfl ?_
      refine Rn.iload n201_139 l5 ?_
      refine Rn.p n201_141 rfl ?_
      obtain ⟨x4, hx4, h⟩ := Option.bind_eq_some_iff.mp h
      refine Rn.iald n201_142 hx4 ?_
      refine Rn.is (m := n) n201_143 ml201 (by decide) (fun lv l7 hk hok => ?_)
      have l0 := hk 0 _ (by decide) (Or.inl rfl) l0
      have l4 := hk 4 _ (by decide) (Or.inl rfl) l4
      have l5 := hk 5 _ (by decide) (Or.inl rfl) l5
      have l6 := hk 6 _ (by decide) (Or.inl rfl) l6
      have ok := hok ok
      refine Rn.ic (v := 0) n201_145 (by decide) ?_
      refine Rn.is (m := n) n201_146 ml201 (by decide) (fun lv l8 hk hok => ?_)
      have l0 := hk 0 _ (by decide) (Or.inl rfl) l0
      have l4 := hk 4 _ (by decide) (Or.inl rfl) l4
      have l5 := hk 5 _ (by decide) (Or.inl rfl) l5
      have l6 := hk 6 _ (by decide) (Or.inl rfl) l6
      have l7 := hk 7 _ (by decide) (Or.inl rfl) l7
      have ok := hok ok
      exact t201_148 hd F hr105 hr122 F _ _ _ _ _ _ lv _ _ _ l0 l4 l5 l6 l7 l8 ok hn r_v0  h
def m201_105 (F : Nat) : Nat → Nat → Int32 → List mE → Option (Unit × List mE)
  | 0, _, _, _ => none
  | f + 1, v0, v4, hp =>
    if mc1 .lt v4 = true then
      some ((), hp)
    else
      (gfr 11 38 hp v0).bind fun x2 =>
      (rdI hp x2 v4).bind fun x3 =>
      m201_122 F (m201_105 F f) F v0 v4 x3 0 hp
theorem t201_105 {d c w n : Nat} (hd : 1 ≤ d) (F : Nat) : ∀ f : Nat, ∀ (v0 : Nat) (v4 : Int32) (lv : List (Nat × Value)) (hp : List mE) (v : Unit) (hp' : List mE), alk 0 lv = some (.ref v0) → alk 4 lv = some (.int v4) → lvk n lv → hp.length = n → v0 < n → m201_105 F f v0 v4 hp = some (v, hp') → Rn d 201 105 lv [] hp c w (none, hp', c, w) := by
  obtain ⟨d', rfl⟩ : ∃ d', d = d' + 1 := ⟨d - 1, by omega⟩
  intro f
  induction f with
  | zero => intro v0 v4 lv hp v hp' l0 l4 ok hn r_v0 h; cases h
  | succ f hr105 =>
    intro v0 v4 lv hp v hp' l0 l4 ok hn r_v0 h
    unfold m201_105 at h
    refine Rn.iload n201_105 l4 ?_
    by_cases hc1 : mc1 .lt v4 = true
    · rw [if_pos hc1] at h
      refine Rn.c1t (t := 277) n201_107 (by decide) hc1 ?_
      have e1 := (Prod.mk.inj (Option.some.inj h)).1
      have e2 := (Prod.mk.inj (Option.some.inj h)).2
      subst e1
      subst e2
      exact Rn.vret n201_277 mr201
    · rw [if_neg hc1] at h
      refine Rn.c1f (t := 277) n201_107 (by decide) hc1 ?_
      refine Rn.aload_n n201_110 l0 ?_
      obtain ⟨x2, hx2, h⟩ := Option.bind_eq_some_iff.mp h
      refine Rn.gf n201_111 mo201 fl11_95 (gfr_v hx2).1 ?_
      have r_x2 : x2 < n := by rw [← hn]; exact (gfr_v hx2).2
      refine Rn.iload n201_114 l4 ?_
      obtain ⟨x3, hx3, h⟩ := Option.bind_eq_some_iff.mp h
      refine Rn.iald n201_116 hx3 ?_
      refine Rn.is (m := n) n201_117 ml201 (by decide) (fun lv l5 hk hok => ?_)
      have l0 := hk 0 _ (by decide) (Or.inl rfl) l0
      have l4 := hk 4 _ (by decide) (Or.inl rfl) l4
      have ok := hok ok
      refine Rn.ic (v := 0) n201_119 (by decide) ?_
      refine Rn.is (m := n) n201_120 ml201 (by decide) (fun lv l6 hk hok => ?_)
      have l0 := hk 0 _ (by decide) (Or.inl rfl) l0
      have l4 := hk 4 _ (by decide) (Or.inl rfl) l4
      have l5 := hk 5 _ (by decide) (Or.inl rfl) l5
      have ok := hok ok
      exact t201_122 hd F hr105 F _ _ _ _ lv _ _ _ l0 l4 l5 l6 ok hn r_v0  h
def m201_93 (F : Nat) (rc65 : Nat → Int32 → Int32 → Int32 → List mE → Option (Unit × List mE)) (v0 : Nat) (v2 : Int32) (v3 : Int32) (v4 : Int32) (t0 : Nat) (t1 : Int32) (t2 : Int32) (hp : List mE) : Option (Unit × List mE) :=
  (wrI hp t0 t1 t2).bind fun hp1 =>
  rc65 v0 v2 v3 (v4 + 1) hp1
theorem t201_93 {d c w n : Nat} (hd : 1 ≤ d) (F : Nat) {rc65 : Nat → Int32 → Int32 → Int32 → List mE → Option (Unit × List mE)} (hr65 : ∀ (v0 : Nat) (v2 : Int32) (v3 : Int32) (v4 : Int32) (lv : List (Nat × Value)) (hp : List mE) (v : Unit) (hp' : List mE), alk 0 lv = some (.ref v0) → alk 2 lv = some (.int v2) → alk 3 lv = some (.int v3) → alk 4 lv = some (.int v4) → lvk n lv → hp.length = n → v0 < n → rc65 v0 v2 v3 v4 hp = some (v, hp') → Rn d 201 65 lv [] hp c w (none, hp', c, w)) : ∀ (v0 : Nat) (v2 : Int32) (v3 : Int32) (v4 : Int32) (t0 : Nat) (t1 : Int32) (t2 : Int32) (lv : List (Nat × Value)) (hp : List mE) (v : Unit) (hp' : List mE), alk 0 lv = some (.ref v0) → alk 2 lv = some (.int v2) → alk 3 lv = some (.int v3) → alk 4 lv = some (.int v4) → lvk n lv → hp.length = n → v0 < n → t0 < n → m201_93 F rc65 v0 v2 v3 v4 t0 t1 t2 hp = some (v, hp') → Rn d 201 93 lv [.int t2, .int t1, .ref t0] hp c w (none, hp', c, w) := by
  obtain ⟨d', rfl⟩ : ∃ d', d = d' + 1 := ⟨d - 1, by omega⟩
  intro v0 v2 v3 v4 t0 t1 t2 lv hp v hp' l0 l2 l3 l4 ok hn r_v0 r_t0 h
  unfold m201_93 at h
  obtain ⟨hp1, hhp1, h⟩ := Option.bind_eq_some_iff.mp h
  refine Rn.iast n201_93 hhp1 ?_
  have hn := (wrI_st (st := []) hhp1).2.trans hn
  refine Rn.ii (m := n) (u := 1) n201_94 ml201 (by decide) (by decide) l4 (fun lv l4 hk hok => ?_)
  have l0 := hk 0 _ (by decide) (Or.inl rfl) l0
  have l2 := hk 2 _ (by decide) (Or.inl rfl) l2
  have l3 := hk 3 _ (by decide) (Or.inl rfl) l3
  have ok := hok ok
  refine Rn.goto (t := 65) n201_97 (by decide) ?_
  exact hr65 _ _ _ _ lv _ _ _ l0 l2 l3 l4 ok hn r_v0  h
def m201_65 (F : Nat) : Nat → Nat → Int32 → Int32 → Int32 → List mE → Option (Unit × List mE)
  | 0, _, _, _, _, _ => none
  | f + 1, v0, v2, v3, v4, hp =>
    if mc2 .ge v4 2304 = true then
      m201_105 F F v0 (v2 - 1) hp
    else
      (gfr 11 36 hp v0).bind fun x2 =>
      if mc2 .ne v4 (9 * v3) = true then
        m201_93 F (m201_65 F f) v0 v2 v3 v4 x2 v4 0 hp
      else
        m201_93 F (m201_65 F f) v0 v2 v3 v4 x2 v4 1 hp
theorem t201_65 {d c w n : Nat} (hd : 1 ≤ d) (F : Nat) : ∀ f : Nat, ∀ (v0 : Nat) (v2 : Int32) (v3 : Int32) (v4 : Int32) (lv : List (Nat × Value)) (hp : List mE) (v : Unit) (hp' : List mE), alk 0 lv = some (.ref v0) → alk 2 lv = some (.int v2) → alk 3 lv = some (.int v3) → alk 4 lv = some (.int v4) → lvk n lv → hp.length = n → v0 < n → m201_65 F f v0 v2 v3 v4 hp = some (v, hp') → Rn d 201 65 lv [] hp c w (none, hp', c, w) := by
  obtain ⟨d', rfl⟩ : ∃ d', d = d' + 1 := ⟨d - 1, by omega⟩
  intro f
  induction f with
  | zero => intro v0 v2 v3 v4 lv hp v hp' l0 l2 l3 l4 ok hn r_v0 h; cases h
  | succ f hr65 =>
    intro v0 v2 v3 v4 lv hp v hp' l0 l2 l3 l4 ok hn r_v0 h
    unfold m201_65 at h
    refine Rn.iload n201_65 l4 ?_
    refine Rn.sp (v := 2304) n201_67 (by decide) ?_
    by_cases hc1 : mc2 .ge v4 2304 = true
    · rw [if_pos hc1] at h
      refine Rn.c2t (t := 100) n201_70 (by decide) hc1 ?_
      refine Rn.iload_n n201_100 l2 ?_
      refine Rn.ic (v := 1) n201_101 (by decide) ?_
      refine Rn.p n201_102 rfl ?_
      refine Rn.is (m := n) n201_103 ml201 (by decide) (fun lv l4 hk hok => ?_)
      have l0 := hk 0 _ (by decide) (Or.inl rfl) l0
      have l2 := hk 2 _ (by decide) (Or.inl rfl) l2
      have l3 := hk 3 _ (by decide) (Or.inl rfl) l3
      have ok := hok ok
      exact t201_105 hd F  F _ _ lv _ _ _ l0 l4 ok hn r_v0  h
    · rw [if_neg hc1] at h
      refine Rn.c2f (t := 100) n201_70 (by decide) hc1 ?_
      refine Rn.aload_n n201_73 l0 ?_
      obtain ⟨x2, hx2, h⟩ := Option.bind_eq_some_iff.mp h
      refine Rn.gf n201_74 mo201 fl11_89 (gfr_v hx2).1 ?_
      have r_x2 : x2 < n := by rw [← hn]; exact (gfr_v hx2).2
      refine Rn.iload n201_77 l4 ?_
      refine Rn.iload n201_79 l4 ?_
      refine Rn.bp (v := 9) n201_81 (by decide) ?_
      refine Rn.iload_n n201_83 l3 ?_
      refine Rn.p n201_84 rfl ?_
      by_cases hc3 : mc2 .ne v4 (9 * v3) = true
      · rw [if_pos hc3] at h
        refine Rn.c2t (t := 92) n201_85 (by decide) hc3 ?_
        refine Rn.ic (v := 0) n201_92 (by decide) ?_
        exact t201_93 hd F hr65 _ _ _ _ _ _ _ lv _ _ _ l0 l2 l3 l4 ok hn r_v0 r_x2 h
      · rw [if_neg hc3] at h
        refine Rn.c2f (t := 92) n201_85 (by decide) hc3 ?_
        refine Rn.ic (v := 1) n201_88 (by decide) ?_
        refine Rn.goto (t := 93) n201_89 (by decide) ?_
        exact t201_93 hd F hr65 _ _ _ _ _ _ _ lv _ _ _ l0 l2 l3 l4 ok hn r_v0 r_x2 h
def m201_16 (F : Nat) (rc4 : Nat → Int32 → Int32 → List mE → Option (Unit × List mE)) : Nat → Nat → Int32 → Int32 → Int32 → List mE → Option (Unit × List mE)
  | 0, _, _, _, _, _ => none
  | f + 1, v0, v2, v3, v4, hp =>
    (gfr 11 35 hp v0).bind fun x1 =>
    (rdZ hp x1 ((5 * v3) + v4)).bind fun x2 =>
    if mc1 .ne x2 = true then
      (gfr 11 38 hp v0).bind fun x4 =>
      (wrI hp x4 v2 v4).bind fun hp5 =>
      (gfr 11 34 hp5 v0).bind fun x6 =>
      (rdI hp5 x6 ((5 * v3) + v4)).bind fun x7 =>
      rc4 v0 (v2 + 1) x7 hp5
    else
      m201_16 F rc4 f v0 v2 v3 (v4 + 1) hp
theorem t201_16 {d c w n : Nat} (hd : 1 ≤ d) (F : Nat) {rc4 : Nat → Int32 → Int32 → List mE → Option (Unit × List mE)} (hr4 : ∀ (v0 : Nat) (v2 : Int32) (v3 : Int32) (lv : List (Nat × Value)) (hp : List mE) (v : Unit) (hp' : List mE), alk 0 lv = some (.ref v0) → alk 2 lv = some (.int v2) → alk 3 lv = some (.int v3) → lvk n lv → hp.length = n → v0 < n → rc4 v0 v2 v3 hp = some (v, hp') → Rn d 201 4 lv [] hp c w (none, hp', c, w)) : ∀ f : Nat, ∀ (v0 : Nat) (v2 : Int32) (v3 : Int32) (v4 : Int32) (lv : List (Nat × Value)) (hp : List mE) (v : Unit) (hp' : List mE), alk 0 lv = some (.ref v0) → alk 2 lv = some (.int v2) → alk 3 lv = some (.int v3) → alk 4 lv = some (.int v4) → lvk n lv → hp.length = n → v0 < n → m201_16 F rc4 f v0 v2 v3 v4 hp = some (v, hp') → Rn d 201 16 lv [] hp c w (none, hp', c, w) := by
  obtain ⟨d', rfl⟩ : ∃ d', d = d' + 1 := ⟨d - 1, by omega⟩
  intro f
  induction f with
  | zero => intro v0 v2 v3 v4 lv hp v hp' l0 l2 l3 l4 ok hn r_v0 h; cases h
  | succ f hr16 =>
    intro v0 v2 v3 v4 lv hp v hp' l0 l2 l3 l4 ok hn r_v0 h
    unfold m201_16 at h
    refine Rn.aload_n n201_16 l0 ?_
    obtain ⟨x1, hx1, h⟩ := Option.bind_eq_some_iff.mp h
    refine Rn.gf n201_17 mo201 fl11_86 (gfr_v hx1).1 ?_
    have r_x1 : x1 < n := by rw [← hn]; exact (gfr_v hx1).2
    refine Rn.ic (v := 5) n201_20 (by decide) ?_
    refine Rn.iload_n n201_21 l3 ?_
    refine Rn.p n201_22 rfl ?_
    refine Rn.iload n201_23 l4 ?_
    refine Rn.p n201_25 rfl ?_
    obtain ⟨x2, hx2, h⟩ := Option.bind_eq_some_iff.mp h
    refine Rn.zald n201_26 hx2 ?_
    by_cases hc3 : mc1 .ne x2 = true
    · rw [if_pos hc3] at h
      refine Rn.c1t (t := 36) n201_27 (by decide) hc3 ?_
      refine Rn.aload_n n201_36 l0 ?_
      obtain ⟨x4, hx4, h⟩ := Option.bind_eq_some_iff.mp h
      refine Rn.gf n201_37 mo201 fl11_95 (gfr_v hx4).1 ?_
      have r_x4 : x4 < n := by rw [← hn]; exact (gfr_v hx4).2
      refine Rn.iload_n n201_40 l2 ?_
      refine Rn.iload n201_41 l4 ?_
      obtain ⟨hp5, hhp5, h⟩ := Option.bind_eq_some_iff.mp h
      refine Rn.iast n201_43 hhp5 ?_
      have hn := (wrI_st (st := []) hhp5).2.trans hn
      refine Rn.ii (m := n) (u := 1) n201_44 ml201 (by decide) (by decide) l2 (fun lv l2 hk hok => ?_)
      have l0 := hk 0 _ (by decide) (Or.inl rfl) l0
      have l3 := hk 3 _ (by decide) (Or.inl rfl) l3
      have l4 := hk 4 _ (by decide) (Or.inl rfl) l4
      have ok := hok ok
      refine Rn.aload_n n201_47 l0 ?_
      obtain ⟨x6, hx6, h⟩ := Option.bind_eq_some_iff.mp h
      refine Rn.gf n201_48 mo201 fl11_83 (gfr_v hx6).1 ?_
      have r_x6 : x6 < n := by rw [← hn]; exact (gfr_v hx6).2
      refine Rn.ic (v := 5) n201_51 (by decide) ?_
      refine Rn.iload_n n201_52 l3 ?_
      refine Rn.p n201_53 rfl ?_
      refine Rn.iload n201_54 l4 ?_
      refine Rn.p n201_56 rfl ?_
      obtain ⟨x7, hx7, h⟩ := Option.bind_eq_some_iff.mp h
      refine Rn.iald n201_57 hx7 ?_
      refine Rn.isn (m := n) n201_58 rfl ml201 (by decide) (fun lv l3 hk hok => ?_)
      have l0 := hk 0 _ (by decide) (Or.inl rfl) l0
      have l2 := hk 2 _ (by decide) (Or.inl rfl) l2
      have l4 := hk 4 _ (by decide) (Or.inl rfl) l4
      have ok := hok ok
      refine Rn.goto (t := 4) n201_59 (by decide) ?_
      exact hr4 _ _ _ lv _ _ _ l0 l2 l3 ok hn r_v0  h
    · rw [if_neg hc3] at h
      refine Rn.c1f (t := 36) n201_27 (by decide) hc3 ?_
      refine Rn.ii (m := n) (u := 1) n201_30 ml201 (by decide) (by decide) l4 (fun lv l4 hk hok => ?_)
      have l0 := hk 0 _ (by decide) (Or.inl rfl) l0
      have l2 := hk 2 _ (by decide) (Or.inl rfl) l2
      have l3 := hk 3 _ (by decide) (Or.inl rfl) l3
      have ok := hok ok
      refine Rn.goto (t := 16) n201_33 (by decide) ?_
      exact hr16 _ _ _ _ lv _ _ _ l0 l2 l3 l4 ok hn r_v0  h
def m201_4 (F : Nat) : Nat → Nat → Int32 → Int32 → List mE → Option (Unit × List mE)
  | 0, _, _, _, _ => none
  | f + 1, v0, v2, v3, hp =>
    (gfr 11 33 hp v0).bind fun x1 =>
    (rdI hp x1 v3).bind fun x2 =>
    if mc1 .le x2 = true then
      m201_65 F F v0 v2 v3 0 hp
    else
      m201_16 F (m201_4 F f) F v0 v2 v3 0 hp
theorem t201_4 {d c w n : Nat} (hd : 1 ≤ d) (F : Nat) : ∀ f : Nat, ∀ (v0 : Nat) (v2 : Int32) (v3 : Int32) (lv : List (Nat × Value)) (hp : List mE) (v : Unit) (hp' : List mE), alk 0 lv = some (.ref v0) → alk 2 lv = some (.int v2) → alk 3 lv = some (.int v3) → lvk n lv → hp.length = n → v0 < n → m201_4 F f v0 v2 v3 hp = some (v, hp') → Rn d 201 4 lv [] hp c w (none, hp', c, w) := by
  obtain ⟨d', rfl⟩ : ∃ d', d = d' + 1 := ⟨d - 1, by omega⟩
  intro f
  induction f with
  | zero => intro v0 v2 v3 lv hp v hp' l0 l2 l3 ok hn r_v0 h; cases h
  | succ f hr4 =>
    intro v0 v2 v3 lv hp v hp' l0 l2 l3 ok hn r_v0 h
    unfold m201_4 at h
    refine Rn.aload_n n201_4 l0 ?_
    obtain ⟨x1, hx1, h⟩ := Option.bind_eq_some_iff.mp h
    refine Rn.gf n201_5 mo201 fl11_80 (gfr_v hx1).1 ?_
    have r_x1 : x1 < n := by rw [← hn]; exact (gfr_v hx1).2
    refine Rn.iload_n n201_8 l3 ?_
    obtain ⟨x2, hx2, h⟩ := Option.bind_eq_some_iff.mp h
    refine Rn.iald n201_9 hx2 ?_
    by_cases hc3 : mc1 .le x2 = true
    · rw [if_pos hc3] at h
      refine Rn.c1t (t := 62) n201_10 (by decide) hc3 ?_
      refine Rn.ic (v := 0) n201_62 (by decide) ?_
      refine Rn.is (m := n) n201_63 ml201 (by decide) (fun lv l4 hk hok => ?_)
      have l0 := hk 0 _ (by decide) (Or.inl rfl) l0
      have l2 := hk 2 _ (by decide) (Or.inl rfl) l2
      have l3 := hk 3 _ (by decide) (Or.inl rfl) l3
      have ok := hok ok
      exact t201_65 hd F  F _ _ _ _ lv _ _ _ l0 l2 l3 l4 ok hn r_v0  h
    · rw [if_neg hc3] at h
      refine Rn.c1f (t := 62) n201_10 (by decide) hc3 ?_
      refine Rn.ic (v := 0) n201_13 (by decide) ?_
      refine Rn.is (m := n) n201_14 ml201 (by decide) (fun lv l4 hk hok => ?_)
      have l0 := hk 0 _ (by decide) (Or.inl rfl) l0
      have l2 := hk 2 _ (by decide) (Or.inl rfl) l2
      have l3 := hk 3 _ (by decide) (Or.inl rfl) l3
      have ok := hok ok
      exact t201_16 hd F hr4 F _ _ _ _ lv _ _ _ l0 l2 l3 l4 ok hn r_v0  h
def m201_0 (F : Nat) (v0 : Nat) (v1 : Int32) (hp : List mE) : Option (Unit × List mE) :=
  m201_4 F F v0 0 v1 hp
theorem t201_0 {d c w n : Nat} (hd : 1 ≤ d) (F : Nat) : ∀ (v0 : Nat) (v1 : Int32) (lv : List (Nat × Value)) (hp : List mE) (v : Unit) (hp' : List mE), alk 0 lv = some (.ref v0) → alk 1 lv = some (.int v1) → lvk n lv → hp.length = n → v0 < n → m201_0 F v0 v1 hp = some (v, hp') → Rn d 201 0 lv [] hp c w (none, hp', c, w) := by
  obtain ⟨d', rfl⟩ : ∃ d', d = d' + 1 := ⟨d - 1, by omega⟩
  intro v0 v1 lv hp v hp' l0 l1 ok hn r_v0 h
  unfold m201_0 at h
  refine Rn.ic (v := 0) n201_0 (by decide) ?_
  refine Rn.isn (m := n) n201_1 rfl ml201 (by decide) (fun lv l2 hk hok => ?_)
  have l0 := hk 0 _ (by decide) (Or.inl rfl) l0
  have l1 := hk 1 _ (by decide) (Or.inl rfl) l1
  have ok := hok ok
  refine Rn.iload_n n201_2 l1 ?_
  refine Rn.isn (m := n) n201_3 rfl ml201 (by decide) (fun lv l3 hk hok => ?_)
  have l0 := hk 0 _ (by decide) (Or.inl rfl) l0
  have l1 := hk 1 _ (by decide) (Or.inl rfl) l1
  have l2 := hk 2 _ (by decide) (Or.inl rfl) l2
  have ok := hok ok
  exact t201_4 hd F  F _ _ _ lv _ _ _ l0 l2 l3 ok hn r_v0  h
def e201 (F : Nat) (a0 : Nat) (a1 : Int32) (hp : List mE) : Option (Unit × List mE) := m201_0 F a0 a1 hp
theorem c201 {d : Nat} (hd : 1 ≤ d) (F : Nat) (a0 : Nat) (a1 : Int32) (hp : List mE) (v : Unit) (hp' : List mE) (ra0 : a0 < hp.length) (h : e201 F a0 a1 hp = some (v, hp')) : Rn d 201 0 (lv_args 0 [.ref a0, .int a1]) [] hp 0 0 (none, hp', 0, 0) :=
  t201_0 (n := hp.length) hd F a0 a1 (lv_args 0 [.ref a0, .int a1]) hp v hp' rfl rfl (lvk_args (okc (okr ra0) (okc rfl okn))) rfl ra0 h
/-! MirrorRootsModel.bring -/
def m202_11 (F : Nat) (rc2 : Nat → Int32 → Int32 → Int32 → List mE → Option (Unit × List mE)) : Nat → Nat → Int32 → Int32 → Int32 → Int32 → List mE → Option (Unit × List mE)
  | 0, _, _, _, _, _, _ => none
  | f + 1, v0, v1, v2, v3, v4, hp =>
    if mc2 .ge (v3 + v4) 9 = true then
      rc2 v0 v1 v2 (v3 + 1) hp
    else
      (gfr 11 40 hp v0).bind fun x2 =>
      (rdI hp x2 (((9 * v1) + v3) + v4)).bind fun x3 =>
      (gfr 11 36 hp v0).bind fun x4 =>
      (rdI hp x4 ((9 * v1) + v3)).bind fun x5 =>
      (gfr 11 39 hp v0).bind fun x6 =>
      (rdI hp x6 ((9 * v2) + v4)).bind fun x7 =>
      (wrI hp x2 (((9 * v1) + v3) + v4) (x3 + (x5 * x7))).bind fun hp8 =>
      m202_11 F rc2 f v0 v1 v2 v3 (v4 + 1) hp8
theorem t202_11 {d c w n : Nat} (hd : 0 ≤ d) (F : Nat) {rc2 : Nat → Int32 → Int32 → Int32 → List mE → Option (Unit × List mE)} (hr2 : ∀ (v0 : Nat) (v1 : Int32) (v2 : Int32) (v3 : Int32) (lv : List (Nat × Value)) (hp : List mE) (v : Unit) (hp' : List mE), alk 0 lv = some (.ref v0) → alk 1 lv = some (.int v1) → alk 2 lv = some (.int v2) → alk 3 lv = some (.int v3) → lvk n lv → hp.length = n → v0 < n → rc2 v0 v1 v2 v3 hp = some (v, hp') → Rn d 202 2 lv [] hp c w (none, hp', c, w)) : ∀ f : Nat, ∀ (v0 : Nat) (v1 : Int32) (v2 : Int32) (v3 : Int32) (v4 : Int32) (lv : List (Nat × Value)) (hp : List mE) (v : Unit) (hp' : List mE), alk 0 lv = some (.ref v0) → alk 1 lv = some (.int v1) → alk 2 lv = some (.int v2) → alk 3 lv = some (.int v3) → alk 4 lv = some (.int v4) → lvk n lv → hp.length = n → v0 < n → m202_11 F rc2 f v0 v1 v2 v3 v4 hp = some (v, hp') → Rn d 202 11 lv [] hp c w (none, hp', c, w) := by
  intro f
  induction f with
  | zero => intro v0 v1 v2 v3 v4 lv hp v hp' l0 l1 l2 l3 l4 ok hn r_v0 h; cases h
  | succ f hr11 =>
    intro v0 v1 v2 v3 v4 lv hp v hp' l0 l1 l2 l3 l4 ok hn r_v0 h
    unfold m202_11 at h
    refine Rn.iload_n n202_11 l3 ?_
    refine Rn.iload n202_12 l4 ?_
    refine Rn.p n202_14 rfl ?_
    refine Rn.bp (v := 9) n202_15 (by decide) ?_
    by_cases hc1 : mc2 .ge (v3 + v4) 9 = true
    · rw [if_pos hc1] at h
      refine Rn.c2t (t := 67) n202_17 (by decide) hc1 ?_
      refine Rn.ii (m := n) (u := 1) n202_67 ml202 (by decide) (by decide) l3 (fun lv l3 hk hok => ?_)
      have l0 := hk 0 _ (by decide) (Or.inl rfl) l0
      have l1 := hk 1 _ (by decide) (Or.inl rfl) l1
      have l2 := hk 2 _ (by decide) (Or.inl rfl) l2
      have l4 := hk 4 _ (by decide) (Or.inl rfl) l4
      have ok := hok ok
      refine Rn.goto (t := 2) n202_70 (by decide) ?_
      exact hr2 _ _ _ _ lv _ _ _ l0 l1 l2 l3 ok hn r_v0  h
    · rw [if_neg hc1] at h
      refine Rn.c2f (t := 67) n202_17 (by decide) hc1 ?_
      refine Rn.aload_n n202_20 l0 ?_
      obtain ⟨x2, hx2, h⟩ := Option.bind_eq_some_iff.mp h
      refine Rn.gf n202_21 mo202 fl11_101 (gfr_v hx2).1 ?_
      have r_x2 : x2 < n := by rw [← hn]; exact (gfr_v hx2).2
      refine Rn.bp (v := 9) n202_24 (by decide) ?_
      refine Rn.iload_n n202_26 l1 ?_
      refine Rn.p n202_27 rfl ?_
      refine Rn.iload_n n202_28 l3 ?_
      refine Rn.p n202_29 rfl ?_
      refine Rn.iload n202_30 l4 ?_
      refine Rn.p n202_32 rfl ?_
      refine Rn.p n202_33 rfl ?_
      obtain ⟨x3, hx3, h⟩ := Option.bind_eq_some_iff.mp h
      refine Rn.iald n202_34 hx3 ?_
      refine Rn.aload_n n202_35 l0 ?_
      obtain ⟨x4, hx4, h⟩ := Option.bind_eq_some_iff.mp h
      refine Rn.gf n202_36 mo202 fl11_89 (gfr_v hx4).1 ?_
      have r_x4 : x4 < n := by rw [← hn]; exact (gfr_v hx4).2
      refine Rn.bp (v := 9) n202_39 (by decide) ?_
      refine Rn.iload_n n202_41 l1 ?_
      refine Rn.p n202_42 rfl ?_
      refine Rn.iload_n n202_43 l3 ?_
      refine Rn.p n202_44 rfl ?_
      obtain ⟨x5, hx5, h⟩ := Option.bind_eq_some_iff.mp h
      refine Rn.iald n202_45 hx5 ?_
      refine Rn.aload_n n202_46 l0 ?_
      obtain ⟨x6, hx6, h⟩ := Option.bind_eq_some_iff.mp h
      refine Rn.gf n202_47 mo202 fl11_98 (gfr_v hx6).1 ?_
      have r_x6 : x6 < n := by rw [← hn]; exact (gfr_v hx6).2
      refine Rn.bp (v := 9) n202_50 (by decide) ?_
      refine Rn.iload_n n202_52 l2 ?_
      refine Rn.p n202_53 rfl ?_
      refine Rn.iload n202_54 l4 ?_
      refine Rn.p n202_56 rfl ?_
      obtain ⟨x7, hx7, h⟩ := Option.bind_eq_some_iff.mp h
      refine Rn.iald n202_57 hx7 ?_
      refine Rn.p n202_58 rfl ?_
      refine Rn.p n202_59 rfl ?_
      obtain ⟨hp8, hhp8, h⟩ := Option.bind_eq_some_iff.mp h
      refine Rn.iast n202_60 hhp8 ?_
      have hn := (wrI_st (st := []) hhp8).2.trans hn
      refine Rn.ii (m := n) (u := 1) n202_61 ml202 (by decide) (by decide) l4 (fun lv l4 hk hok => ?_)
      have l0 := hk 0 _ (by decide) (Or.inl rfl) l0
      have l1 := hk 1 _ (by decide) (Or.inl rfl) l1
      have l2 := hk 2 _ (by decide) (Or.inl rfl) l2
      have l3 := hk 3 _ (by decide) (Or.inl rfl) l3
      have ok := hok ok
      refine Rn.goto (t := 11) n202_64 (by decide) ?_
      exact hr11 _ _ _ _ _ lv _ _ _ l0 l1 l2 l3 l4 ok hn r_v0  h
def m202_2 (F : Nat) : Nat → Nat → Int32 → Int32 → Int32 → List mE → Option (Unit × List mE)
  | 0, _, _, _, _, _ => none
  | f + 1, v0, v1, v2, v3, hp =>
    if mc2 .ge v3 9 = true then
      some ((), hp)
    else
      m202_11 F (m202_2 F f) F v0 v1 v2 v3 0 hp
theorem t202_2 {d c w n : Nat} (hd : 0 ≤ d) (F : Nat) : ∀ f : Nat, ∀ (v0 : Nat) (v1 : Int32) (v2 : Int32) (v3 : Int32) (lv : List (Nat × Value)) (hp : List mE) (v : Unit) (hp' : List mE), alk 0 lv = some (.ref v0) → alk 1 lv = some (.int v1) → alk 2 lv = some (.int v2) → alk 3 lv = some (.int v3) → lvk n lv → hp.length = n → v0 < n → m202_2 F f v0 v1 v2 v3 hp = some (v, hp') → Rn d 202 2 lv [] hp c w (none, hp', c, w) := by
  intro f
  induction f with
  | zero => intro v0 v1 v2 v3 lv hp v hp' l0 l1 l2 l3 ok hn r_v0 h; cases h
  | succ f hr2 =>
    intro v0 v1 v2 v3 lv hp v hp' l0 l1 l2 l3 ok hn r_v0 h
    unfold m202_2 at h
    refine Rn.iload_n n202_2 l3 ?_
    refine Rn.bp (v := 9) n202_3 (by decide) ?_
    by_cases hc1 : mc2 .ge v3 9 = true
    · rw [if_pos hc1] at h
      refine Rn.c2t (t := 73) n202_5 (by decide) hc1 ?_
      have e1 := (Prod.mk.inj (Option.some.inj h)).1
      have e2 := (Prod.mk.inj (Option.some.inj h)).2
      subst e1
      subst e2
      exact Rn.vret n202_73 mr202
    · rw [if_neg hc1] at h
      refine Rn.c2f (t := 73) n202_5 (by decide) hc1 ?_
      refine Rn.ic (v := 0) n202_8 (by decide) ?_
      refine Rn.is (m := n) n202_9 ml202 (by decide) (fun lv l4 hk hok => ?_)
      have l0 := hk 0 _ (by decide) (Or.inl rfl) l0
      have l1 := hk 1 _ (by decide) (Or.inl rfl) l1
      have l2 := hk 2 _ (by decide) (Or.inl rfl) l2
      have l3 := hk 3 _ (by decide) (Or.inl rfl) l3
      have ok := hok ok
      exact t202_11 hd F hr2 F _ _ _ _ _ lv _ _ _ l0 l1 l2 l3 l4 ok hn r_v0  h
def m202_0 (F : Nat) (v0 : Nat) (v1 : Int32) (v2 : Int32) (hp : List mE) : Option (Unit × List mE) :=
  m202_2 F F v0 v1 v2 0 hp
theorem t202_0 {d c w n : Nat} (hd : 0 ≤ d) (F : Nat) : ∀ (v0 : Nat) (v1 : Int32) (v2 : Int32) (lv : List (Nat × Value)) (hp : List mE) (v : Unit) (hp' : List mE), alk 0 lv = some (.ref v0) → alk 1 lv = some (.int v1) → alk 2 lv = some (.int v2) → lvk n lv → hp.length = n → v0 < n → m202_0 F v0 v1 v2 hp = some (v, hp') → Rn d 202 0 lv [] hp c w (none, hp', c, w) := by
  intro v0 v1 v2 lv hp v hp' l0 l1 l2 ok hn r_v0 h
  unfold m202_0 at h
  refine Rn.ic (v := 0) n202_0 (by decide) ?_
  refine Rn.isn (m := n) n202_1 rfl ml202 (by decide) (fun lv l3 hk hok => ?_)
  have l0 := hk 0 _ (by decide) (Or.inl rfl) l0
  have l1 := hk 1 _ (by decide) (Or.inl rfl) l1
  have l2 := hk 2 _ (by decide) (Or.inl rfl) l2
  have ok := hok ok
  exact t202_2 hd F  F _ _ _ _ lv _ _ _ l0 l1 l2 l3 ok hn r_v0  h
def e202 (F : Nat) (a0 : Nat) (a1 : Int32) (a2 : Int32) (hp : List mE) : Option (Unit × List mE) := m202_0 F a0 a1 a2 hp
theorem c202 {d : Nat} (hd : 0 ≤ d) (F : Nat) (a0 : Nat) (a1 : Int32) (a2 : Int32) (hp : List mE) (v : Unit) (hp' : List mE) (ra0 : a0 < hp.length) (h : e202 F a0 a1 a2 hp = some (v, hp')) : Rn d 202 0 (lv_args 0 [.ref a0, .int a1, .int a2]) [] hp 0 0 (none, hp', 0, 0) :=
  t202_0 (n := hp.length) hd F a0 a1 a2 (lv_args 0 [.ref a0, .int a1, .int a2]) hp v hp' rfl rfl rfl (lvk_args (okc (okr ra0) (okc rfl (okc rfl okn)))) rfl ra0 h
/-! MirrorRootsModel.findP -/
def m203_194 (F : Nat) (rc50 : Nat → Int32 → Int32 → List mE → Option (Unit × List mE)) (rc56 : Nat → Int32 → Int32 → Int32 → List mE → Option (Unit × List mE)) (v0 : Nat) (v1 : Int32) (v2 : Int32) (v3 : Int32) (hp : List mE) : Option (Unit × List mE) :=
  rc56 v0 v1 v2 (v3 + 1) hp
theorem t203_194 {d c w n : Nat} (hd : 3 ≤ d) (F : Nat) {rc50 : Nat → Int32 → Int32 → List mE → Option (Unit × List mE)} {rc56 : Nat → Int32 → Int32 → Int32 → List mE → Option (Unit × List mE)} (hr50 : ∀ (v0 : Nat) (v1 : Int32) (v2 : Int32) (lv : List (Nat × Value)) (hp : List mE) (v : Unit) (hp' : List mE), alk 0 lv = some (.ref v0) → alk 1 lv = some (.int v1) → alk 2 lv = some (.int v2) → lvk n lv → hp.length = n → v0 < n → rc50 v0 v1 v2 hp = some (v, hp') → Rn d 203 50 lv [] hp c w (none, hp', c, w)) (hr56 : ∀ (v0 : Nat) (v1 : Int32) (v2 : Int32) (v3 : Int32) (lv : List (Nat × Value)) (hp : List mE) (v : Unit) (hp' : List mE), alk 0 lv = some (.ref v0) → alk 1 lv = some (.int v1) → alk 2 lv = some (.int v2) → alk 3 lv = some (.int v3) → lvk n lv → hp.length = n → v0 < n → rc56 v0 v1 v2 v3 hp = some (v, hp') → Rn d 203 56 lv [] hp c w (none, hp', c, w)) : ∀ (v0 : Nat) (v1 : Int32) (v2 : Int32) (v3 : Int32) (lv : List (Nat × Value)) (hp : List mE) (v : Unit) (hp' : List mE), alk 0 lv = some (.ref v0) → alk 1 lv = some (.int v1) → alk 2 lv = some (.int v2) → alk 3 lv = some (.int v3) → lvk n lv → hp.length = n → v0 < n → m203_194 F rc50 rc56 v0 v1 v2 v3 hp = some (v, hp') → Rn d 203 194 lv [] hp c w (none, hp', c, w) := by
  obtain ⟨d', rfl⟩ : ∃ d', d = d' + 1 := ⟨d - 1, by omega⟩
  intro v0 v1 v2 v3 lv hp v hp' l0 l1 l2 l3 ok hn r_v0 h
  unfold m203_194 at h
  refine Rn.ii (m := n) (u := 1) n203_194 ml203 (by decide) (by decide) l3 (fun lv l3 hk hok => ?_)
  have l0 := hk 0 _ (by decide) (Or.inl rfl) l0
  have l1 := hk 1 _ (by decide) (Or.inl rfl) l1
  have l2 := hk 2 _ (by decide) (Or.inl rfl) l2
  have ok := hok ok
  refine Rn.goto (t := 56) n203_197 (by decide) ?_
  exact hr56 _ _ _ _ lv _ _ _ l0 l1 l2 l3 ok hn r_v0  h
def m203_188 (F : Nat) (rc50 : Nat → Int32 → Int32 → List mE → Option (Unit × List mE)) (rc56 : Nat → Int32 → Int32 → Int32 → List mE → Option (Unit × List mE)) (rc161 : Nat → Int32 → Int32 → Int32 → Int32 → List mE → Option (Unit × List mE)) (v0 : Nat) (v1 : Int32) (v2 : Int32) (v3 : Int32) (v5 : Int32) (hp : List mE) : Option (Unit × List mE) :=
  rc161 v0 v1 v2 v3 (v5 + 1) hp
theorem t203_188 {d c w n : Nat} (hd : 3 ≤ d) (F : Nat) {rc50 : Nat → Int32 → Int32 → List mE → Option (Unit × List mE)} {rc56 : Nat → Int32 → Int32 → Int32 → List mE → Option (Unit × List mE)} {rc161 : Nat → Int32 → Int32 → Int32 → Int32 → List mE → Option (Unit × List mE)} (hr50 : ∀ (v0 : Nat) (v1 : Int32) (v2 : Int32) (lv : List (Nat × Value)) (hp : List mE) (v : Unit) (hp' : List mE), alk 0 lv = some (.ref v0) → alk 1 lv = some (.int v1) → alk 2 lv = some (.int v2) → lvk n lv → hp.length = n → v0 < n → rc50 v0 v1 v2 hp = some (v, hp') → Rn d 203 50 lv [] hp c w (none, hp', c, w)) (hr56 : ∀ (v0 : Nat) (v1 : Int32) (v2 : Int32) (v3 : Int32) (lv : List (Nat × Value)) (hp : List mE) (v : Unit) (hp' : List mE), alk 0 lv = some (.ref v0) → alk 1 lv = some (.int v1) → alk 2 lv = some (.int v2) → alk 3 lv = some (.int v3) → lvk n lv → hp.length = n → v0 < n → rc56 v0 v1 v2 v3 hp = some (v, hp') → Rn d 203 56 lv [] hp c w (none, hp', c, w)) (hr161 : ∀ (v0 : Nat) (v1 : Int32) (v2 : Int32) (v3 : Int32) (v5 : Int32) (lv : List (Nat × Value)) (hp : List mE) (v : Unit) (hp' : List mE), alk 0 lv = some (.ref v0) → alk 1 lv = some (.int v1) → alk 2 lv = some (.int v2) → alk 3 lv = some (.int v3) → alk 5 lv = some (.int v5) → lvk n lv → hp.length = n → v0 < n → rc161 v0 v1 v2 v3 v5 hp = some (v, hp') → Rn d 203 161 lv [] hp c w (none, hp', c, w)) : ∀ (v0 : Nat) (v1 : Int32) (v2 : Int32) (v3 : Int32) (v5 : Int32) (lv : List (Nat × Value)) (hp : List mE) (v : Unit) (hp' : List mE), alk 0 lv = some (.ref v0) → alk 1 lv = some (.int v1) → alk 2 lv = some (.int v2) → alk 3 lv = some (.int v3) → alk 5 lv = some (.int v5) → lvk n lv → hp.length = n → v0 < n → m203_188 F rc50 rc56 rc161 v0 v1 v2 v3 v5 hp = some (v, hp') → Rn d 203 188 lv [] hp c w (none, hp', c, w) := by
  obtain ⟨d', rfl⟩ : ∃ d', d = d' + 1 := ⟨d - 1, by omega⟩
  intro v0 v1 v2 v3 v5 lv hp v hp' l0 l1 l2 l3 l5 ok hn r_v0 h
  unfold m203_188 at h
  refine Rn.ii (m := n) (u := 1) n203_188 ml203 (by decide) (by decide) l5 (fun lv l5 hk hok => ?_)
  have l0 := hk 0 _ (by decide) (Or.inl rfl) l0
  have l1 := hk 1 _ (by decide) (Or.inl rfl) l1
  have l2 := hk 2 _ (by decide) (Or.inl rfl) l2
  have l3 := hk 3 _ (by decide) (Or.inl rfl) l3
  have ok := hok ok
  refine Rn.goto (t := 161) n203_191 (by decide) ?_
  exact hr161 _ _ _ _ _ lv _ _ _ l0 l1 l2 l3 l5 ok hn r_v0  h
def m203_161 (F : Nat) (rc50 : Nat → Int32 → Int32 → List mE → Option (Unit × List mE)) (rc56 : Nat → Int32 → Int32 → Int32 → List mE → Option (Unit × List mE)) : Nat → Nat → Int32 → Int32 → Int32 → Int32 → List mE → Option (Unit × List mE)
  | 0, _, _, _, _, _, _ => none
  | f + 1, v0, v1, v2, v3, v5, hp =>
    (gfi 11 31 hp v0).bind fun x1 =>
    if mc2 .ge v5 x1 = true then
      m203_194 F rc50 rc56 v0 v1 v2 v3 hp
    else
      (gfr 11 33 hp v0).bind fun x3 =>
      (rdI hp x3 v5).bind fun x4 =>
      if mc2 .ge x4 v2 = true then
        m203_188 F rc50 rc56 (m203_161 F rc50 rc56 f) v0 v1 v2 v3 v5 hp
      else
        (rcv 11 hp v0).bind fun u7 =>
        (e202 F v0 v5 v3 hp).bind fun q6 =>
        m203_188 F rc50 rc56 (m203_161 F rc50 rc56 f) v0 v1 v2 v3 v5 q6.2
theorem t203_161 {d c w n : Nat} (hd : 3 ≤ d) (F : Nat) {rc50 : Nat → Int32 → Int32 → List mE → Option (Unit × List mE)} {rc56 : Nat → Int32 → Int32 → Int32 → List mE → Option (Unit × List mE)} (hr50 : ∀ (v0 : Nat) (v1 : Int32) (v2 : Int32) (lv : List (Nat × Value)) (hp : List mE) (v : Unit) (hp' : List mE), alk 0 lv = some (.ref v0) → alk 1 lv = some (.int v1) → alk 2 lv = some (.int v2) → lvk n lv → hp.length = n → v0 < n → rc50 v0 v1 v2 hp = some (v, hp') → Rn d 203 50 lv [] hp c w (none, hp', c, w)) (hr56 : ∀ (v0 : Nat) (v1 : Int32) (v2 : Int32) (v3 : Int32) (lv : List (Nat × Value)) (hp : List mE) (v : Unit) (hp' : List mE), alk 0 lv = some (.ref v0) → alk 1 lv = some (.int v1) → alk 2 lv = some (.int v2) → alk 3 lv = some (.int v3) → lvk n lv → hp.length = n → v0 < n → rc56 v0 v1 v2 v3 hp = some (v, hp') → Rn d 203 56 lv [] hp c w (none, hp', c, w)) : ∀ f : Nat, ∀ (v0 : Nat) (v1 : Int32) (v2 : Int32) (v3 : Int32) (v5 : Int32) (lv : List (Nat × Value)) (hp : List mE) (v : Unit) (hp' : List mE), alk 0 lv = some (.ref v0) → alk 1 lv = some (.int v1) → alk 2 lv = some (.int v2) → alk 3 lv = some (.int v3) → alk 5 lv = some (.int v5) → lvk n lv → hp.length = n → v0 < n → m203_161 F rc50 rc56 f v0 v1 v2 v3 v5 hp = some (v, hp') → Rn d 203 161 lv [] hp c w (none, hp', c, w) := by
  obtain ⟨d', rfl⟩ : ∃ d', d = d' + 1 := ⟨d - 1, by omega⟩
  intro f
  induction f with
  | zero => intro v0 v1 v2 v3 v5 lv hp v hp' l0 l1 l2 l3 l5 ok hn r_v0 h; cases h
  | succ f hr161 =>
    intro v0 v1 v2 v3 v5 lv hp v hp' l0 l1 l2 l3 l5 ok hn r_v0 h
    unfold m203_161 at h
    refine Rn.iload n203_161 l5 ?_
    refine Rn.aload_n n203_163 l0 ?_
    obtain ⟨x1, hx1, h⟩ := Option.bind_eq_some_iff.mp h
    refine Rn.gf n203_164 mo203 fl11_292 (gfi_v hx1) ?_
    by_cases hc2 : mc2 .ge v5 x1 = true
    · rw [if_pos hc2] at h
      refine Rn.c2t (t := 194) n203_167 (by decide) hc2 ?_
      exact t203_194 hd F hr50 hr56 _ _ _ _ lv _ _ _ l0 l1 l2 l3 ok hn r_v0  h
    · rw [if_neg hc2] at h
      refine Rn.c2f (t := 194) n203_167 (by decide) hc2 ?_
      refine Rn.aload_n n203_170 l0 ?_
      obtain ⟨x3, hx3, h⟩ := Option.bind_eq_some_iff.mp h
      refine Rn.gf n203_171 mo203 fl11_80 (gfr_v hx3).1 ?_
      have r_x3 : x3 < n := by rw [← hn]; exact (gfr_v hx3).2
      refine Rn.iload n203_174 l5 ?_
      obtain ⟨x4, hx4, h⟩ := Option.bind_eq_some_iff.mp h
      refine Rn.iald n203_176 hx4 ?_
      refine Rn.iload_n n203_177 l2 ?_
      by_cases hc5 : mc2 .ge x4 v2 = true
      · rw [if_pos hc5] at h
        refine Rn.c2t (t := 188) n203_178 (by decide) hc5 ?_
        exact t203_188 hd F hr50 hr56 hr161 _ _ _ _ _ lv _ _ _ l0 l1 l2 l3 l5 ok hn r_v0  h
      · rw [if_neg hc5] at h
        refine Rn.c2f (t := 188) n203_178 (by decide) hc5 ?_
        refine Rn.aload_n n203_181 l0 ?_
        refine Rn.iload n203_182 l5 ?_
        refine Rn.iload_n n203_184 l3 ?_
        obtain ⟨u7, hu7, h⟩ := Option.bind_eq_some_iff.mp h
        obtain ⟨q6, hq6, h⟩ := Option.bind_eq_some_iff.mp h
        have gq6 := c202 (d := d') (by omega) F _ _ _ _ _ _ (by rw [hn]; exact r_v0) hq6
        refine Rn.cv (As := [.int v5, .int v3]) (rr := []) n203_185 mo203 mm11_307 (by decide) mq202 rfl rfl rfl rfl (by rw [mo202]; exact hu7) (Nat.le_of_ble_eq_true rfl) (by rw [hn]; exact (okc (okr r_v0) (okc rfl (okc rfl okn)))) (by rw [hn]; exact okn) (by rw [hn]; exact ok) (by rw [ml202]; exact Nat.le_of_ble_eq_true rfl) gq6 ?_
        have hn := (Rn.len gq6).trans hn
        show Rn _ 203 188 lv [] q6.2 c w _
        exact t203_188 hd F hr50 hr56 hr161 _ _ _ _ _ lv _ _ _ l0 l1 l2 l3 l5 ok hn r_v0  h
def m203_153 (F : Nat) (rc50 : Nat → Int32 → Int32 → List mE → Option (Unit × List mE)) (rc56 : Nat → Int32 → Int32 → Int32 → List mE → Option (Unit × List mE)) (v0 : Nat) (v1 : Int32) (v2 : Int32) (v3 : Int32) (hp : List mE) : Option (Unit × List mE) :=
  (rcv 11 hp v0).bind fun u2 =>
  (e201 F v0 v3 hp).bind fun q1 =>
  m203_161 F rc50 rc56 F v0 v1 v2 v3 0 q1.2
theorem t203_153 {d c w n : Nat} (hd : 3 ≤ d) (F : Nat) {rc50 : Nat → Int32 → Int32 → List mE → Option (Unit × List mE)} {rc56 : Nat → Int32 → Int32 → Int32 → List mE → Option (Unit × List mE)} (hr50 : ∀ (v0 : Nat) (v1 : Int32) (v2 : Int32) (lv : List (Nat × Value)) (hp : List mE) (v : Unit) (hp' : List mE), alk 0 lv = some (.ref v0) → alk 1 lv = some (.int v1) → alk 2 lv = some (.int v2) → lvk n lv → hp.length = n → v0 < n → rc50 v0 v1 v2 hp = some (v, hp') → Rn d 203 50 lv [] hp c w (none, hp', c, w)) (hr56 : ∀ (v0 : Nat) (v1 : Int32) (v2 : Int32) (v3 : Int32) (lv : List (Nat × Value)) (hp : List mE) (v : Unit) (hp' : List mE), alk 0 lv = some (.ref v0) → alk 1 lv = some (.int v1) → alk 2 lv = some (.int v2) → alk 3 lv = some (.int v3) → lvk n lv → hp.length = n → v0 < n → rc56 v0 v1 v2 v3 hp = some (v, hp') → Rn d 203 56 lv [] hp c w (none, hp', c, w)) : ∀ (v0 : Nat) (v1 : Int32) (v2 : Int32) (v3 : Int32) (lv : List (Nat × Value)) (hp : List mE) (v : Unit) (hp' : List mE), alk 0 lv = some (.ref v0) → alk 1 lv = some (.int v1) → alk 2 lv = some (.int v2) → alk 3 lv = some (.int v3) → lvk n lv → hp.length = n → v0 < n → m203_153 F rc50 rc56 v0 v1 v2 v3 hp = some (v, hp') → Rn d 203 153 lv [] hp c w (none, hp', c, w) := by
  obtain ⟨d', rfl⟩ : ∃ d', d = d' + 1 := ⟨d - 1, by omega⟩
  intro v0 v1 v2 v3 lv hp v hp' l0 l1 l2 l3 ok hn r_v0 h
  unfold m203_153 at h
  refine Rn.aload_n n203_153 l0 ?_
  refine Rn.iload_n n203_154 l3 ?_
  obtain ⟨u2, hu2, h⟩ := Option.bind_eq_some_iff.mp h
  obtain ⟨q1, hq1, h⟩ := Option.bind_eq_some_iff.mp h
  have gq1 := c201 (d := d') (by omega) F _ _ _ _ _ (by rw [hn]; exact r_v0) hq1
  refine Rn.cv (As := [.int v3]) (rr := []) n203_155 mo203 mm11_304 (by decide) mq201 rfl rfl rfl rfl (by rw [mo201]; exact hu2) (Nat.le_of_ble_eq_true rfl) (by rw [hn]; exact (okc (okr r_v0) (okc rfl okn))) (by rw [hn]; exact okn) (by rw [hn]; exact ok) (by rw [ml201]; exact Nat.le_of_ble_eq_true rfl) gq1 ?_
  have hn := (Rn.len gq1).trans hn
  show Rn _ 203 158 lv [] q1.2 c w _
  refine Rn.ic (v := 0) n203_158 (by decide) ?_
  refine Rn.is (m := n) n203_159 ml203 (by decide) (fun lv l5 hk hok => ?_)
  have l0 := hk 0 _ (by decide) (Or.inl rfl) l0
  have l1 := hk 1 _ (by decide) (Or.inl rfl) l1
  have l2 := hk 2 _ (by decide) (Or.inl rfl) l2
  have l3 := hk 3 _ (by decide) (Or.inl rfl) l3
  have ok := hok ok
  exact t203_161 hd F hr50 hr56 F _ _ _ _ _ lv _ _ _ l0 l1 l2 l3 l5 ok hn r_v0  h
def m203_106 (F : Nat) (rc50 : Nat → Int32 → Int32 → List mE → Option (Unit × List mE)) (rc56 : Nat → Int32 → Int32 → Int32 → List mE → Option (Unit × List mE)) : Nat → Nat → Int32 → Int32 → Int32 → Int32 → Int32 → List mE → Option (Unit × List mE)
  | 0, _, _, _, _, _, _, _ => none
  | f + 1, v0, v1, v2, v3, v4, v5, hp =>
    if mc1 .le v4 = true then
      m203_153 F rc50 rc56 v0 v1 v2 v3 hp
    else
      if mc2 .gt (2 * v5) (v4 - 1) = true then
        m203_153 F rc50 rc56 v0 v1 v2 v3 hp
      else
        (gfr 11 39 hp v0).bind fun x3 =>
        (gfr 11 40 hp v0).bind fun x4 =>
        (rdI hp x4 ((9 * v3) + v5)).bind fun x5 =>
        (wrI hp x3 ((9 * v3) + v5) (-x5)).bind fun hp6 =>
        m203_106 F rc50 rc56 f v0 v1 v2 v3 v4 (v5 + 1) hp6
theorem t203_106 {d c w n : Nat} (hd : 3 ≤ d) (F : Nat) {rc50 : Nat → Int32 → Int32 → List mE → Option (Unit × List mE)} {rc56 : Nat → Int32 → Int32 → Int32 → List mE → Option (Unit × List mE)} (hr50 : ∀ (v0 : Nat) (v1 : Int32) (v2 : Int32) (lv : List (Nat × Value)) (hp : List mE) (v : Unit) (hp' : List mE), alk 0 lv = some (.ref v0) → alk 1 lv = some (.int v1) → alk 2 lv = some (.int v2) → lvk n lv → hp.length = n → v0 < n → rc50 v0 v1 v2 hp = some (v, hp') → Rn d 203 50 lv [] hp c w (none, hp', c, w)) (hr56 : ∀ (v0 : Nat) (v1 : Int32) (v2 : Int32) (v3 : Int32) (lv : List (Nat × Value)) (hp : List mE) (v : Unit) (hp' : List mE), alk 0 lv = some (.ref v0) → alk 1 lv = some (.int v1) → alk 2 lv = some (.int v2) → alk 3 lv = some (.int v3) → lvk n lv → hp.length = n → v0 < n → rc56 v0 v1 v2 v3 hp = some (v, hp') → Rn d 203 56 lv [] hp c w (none, hp', c, w)) : ∀ f : Nat, ∀ (v0 : Nat) (v1 : Int32) (v2 : Int32) (v3 : Int32) (v4 : Int32) (v5 : Int32) (lv : List (Nat × Value)) (hp : List mE) (v : Unit) (hp' : List mE), alk 0 lv = some (.ref v0) → alk 1 lv = some (.int v1) → alk 2 lv = some (.int v2) → alk 3 lv = some (.int v3) → alk 4 lv = some (.int v4) → alk 5 lv = some (.int v5) → lvk n lv → hp.length = n → v0 < n → m203_106 F rc50 rc56 f v0 v1 v2 v3 v4 v5 hp = some (v, hp') → Rn d 203 106 lv [] hp c w (none, hp', c, w) := by
  obtain ⟨d', rfl⟩ : ∃ d', d = d' + 1 := ⟨d - 1, by omega⟩
  intro f
  induction f with
  | zero => intro v0 v1 v2 v3 v4 v5 lv hp v hp' l0 l1 l2 l3 l4 l5 ok hn r_v0 h; cases h
  | succ f hr106 =>
    intro v0 v1 v2 v3 v4 v5 lv hp v hp' l0 l1 l2 l3 l4 l5 ok hn r_v0 h
    unfold m203_106 at h
    refine Rn.iload n203_106 l4 ?_
    by_cases hc1 : mc1 .le v4 = true
    · rw [if_pos hc1] at h
      refine Rn.c1t (t := 153) n203_108 (by decide) hc1 ?_
      exact t203_153 hd F hr50 hr56 _ _ _ _ lv _ _ _ l0 l1 l2 l3 ok hn r_v0  h
    · rw [if_neg hc1] at h
      refine Rn.c1f (t := 153) n203_108 (by decide) hc1 ?_
      refine Rn.ic (v := 2) n203_111 (by decide) ?_
      refine Rn.iload n203_112 l5 ?_
      refine Rn.p n203_114 rfl ?_
      refine Rn.iload n203_115 l4 ?_
      refine Rn.ic (v := 1) n203_117 (by decide) ?_
      refine Rn.p n203_118 rfl ?_
      by_cases hc2 : mc2 .gt (2 * v5) (v4 - 1) = true
      · rw [if_pos hc2] at h
        refine Rn.c2t (t := 153) n203_119 (by decide) hc2 ?_
        exact t203_153 hd F hr50 hr56 _ _ _ _ lv _ _ _ l0 l1 l2 l3 ok hn r_v0  h
      · rw [if_neg hc2] at h
        refine Rn.c2f (t := 153) n203_119 (by decide) hc2 ?_
        refine Rn.aload_n n203_122 l0 ?_
        obtain ⟨x3, hx3, h⟩ := Option.bind_eq_some_iff.mp h
        refine Rn.gf n203_123 mo203 fl11_98 (gfr_v hx3).1 ?_
        have r_x3 : x3 < n := by rw [← hn]; exact (gfr_v hx3).2
        refine Rn.bp (v := 9) n203_126 (by decide) ?_
        refine Rn.iload_n n203_128 l3 ?_
        refine Rn.p n203_129 rfl ?_
        refine Rn.iload n203_130 l5 ?_
        refine Rn.p n203_132 rfl ?_
        refine Rn.aload_n n203_133 l0 ?_
        obtain ⟨x4, hx4, h⟩ := Option.bind_eq_some_iff.mp h
        refine Rn.gf n203_134 mo203 fl11_101 (gfr_v hx4).1 ?_
        have r_x4 : x4 < n := by rw [← hn]; exact (gfr_v hx4).2
        refine Rn.bp (v := 9) n203_137 (by decide) ?_
        refine Rn.iload_n n203_139 l3 ?_
        refine Rn.p n203_140 rfl ?_
        refine Rn.iload n203_141 l5 ?_
        refine Rn.p n203_143 rfl ?_
        obtain ⟨x5, hx5, h⟩ := Option.bind_eq_some_iff.mp h
        refine Rn.iald n203_144 hx5 ?_
        refine Rn.p n203_145 rfl ?_
        obtain ⟨hp6, hhp6, h⟩ := Option.bind_eq_some_iff.mp h
        refine Rn.iast n203_146 hhp6 ?_
        have hn := (wrI_st (st := []) hhp6).2.trans hn
        refine Rn.ii (m := n) (u := 1) n203_147 ml203 (by decide) (by decide) l5 (fun lv l5 hk hok => ?_)
        have l0 := hk 0 _ (by decide) (Or.inl rfl) l0
        have l1 := hk 1 _ (by decide) (Or.inl rfl) l1
        have l2 := hk 2 _ (by decide) (Or.inl rfl) l2
        have l3 := hk 3 _ (by decide) (Or.inl rfl) l3
        have l4 := hk 4 _ (by decide) (Or.inl rfl) l4
        have ok := hok ok
        refine Rn.goto (t := 106) n203_150 (by decide) ?_
        exact hr106 _ _ _ _ _ _ lv _ _ _ l0 l1 l2 l3 l4 l5 ok hn r_v0  h
def m203_102 (F : Nat) (rc50 : Nat → Int32 → Int32 → List mE → Option (Unit × List mE)) (rc56 : Nat → Int32 → Int32 → Int32 → List mE → Option (Unit × List mE)) (v0 : Nat) (v1 : Int32) (v2 : Int32) (v3 : Int32) (v4 : Int32) (t0 : Nat) (t1 : Int32) (t2 : Int32) (hp : List mE) : Option (Unit × List mE) :=
  (wrI hp t0 t1 t2).bind fun hp1 =>
  m203_106 F rc50 rc56 F v0 v1 v2 v3 v4 0 hp1
theorem t203_102 {d c w n : Nat} (hd : 3 ≤ d) (F : Nat) {rc50 : Nat → Int32 → Int32 → List mE → Option (Unit × List mE)} {rc56 : Nat → Int32 → Int32 → Int32 → List mE → Option (Unit × List mE)} (hr50 : ∀ (v0 : Nat) (v1 : Int32) (v2 : Int32) (lv : List (Nat × Value)) (hp : List mE) (v : Unit) (hp' : List mE), alk 0 lv = some (.ref v0) → alk 1 lv = some (.int v1) → alk 2 lv = some (.int v2) → lvk n lv → hp.length = n → v0 < n → rc50 v0 v1 v2 hp = some (v, hp') → Rn d 203 50 lv [] hp c w (none, hp', c, w)) (hr56 : ∀ (v0 : Nat) (v1 : Int32) (v2 : Int32) (v3 : Int32) (lv : List (Nat × Value)) (hp : List mE) (v : Unit) (hp' : List mE), alk 0 lv = some (.ref v0) → alk 1 lv = some (.int v1) → alk 2 lv = some (.int v2) → alk 3 lv = some (.int v3) → lvk n lv → hp.length = n → v0 < n → rc56 v0 v1 v2 v3 hp = some (v, hp') → Rn d 203 56 lv [] hp c w (none, hp', c, w)) : ∀ (v0 : Nat) (v1 : Int32) (v2 : Int32) (v3 : Int32) (v4 : Int32) (t0 : Nat) (t1 : Int32) (t2 : Int32) (lv : List (Nat × Value)) (hp : List mE) (v : Unit) (hp' : List mE), alk 0 lv = some (.ref v0) → alk 1 lv = some (.int v1) → alk 2 lv = some (.int v2) → alk 3 lv = some (.int v3) → alk 4 lv = some (.int v4) → lvk n lv → hp.length = n → v0 < n → t0 < n → m203_102 F rc50 rc56 v0 v1 v2 v3 v4 t0 t1 t2 hp = some (v, hp') → Rn d 203 102 lv [.int t2, .int t1, .ref t0] hp c w (none, hp', c, w) := by
  obtain ⟨d', rfl⟩ : ∃ d', d = d' + 1 := ⟨d - 1, by omega⟩
  intro v0 v1 v2 v3 v4 t0 t1 t2 lv hp v hp' l0 l1 l2 l3 l4 ok hn r_v0 r_t0 h
  unfold m203_102 at h
  obtain ⟨hp1, hhp1, h⟩ := Option.bind_eq_some_iff.mp h
  refine Rn.iast n203_102 hhp1 ?_
  have hn := (wrI_st (st := []) hhp1).2.trans hn
  refine Rn.ic (v := 0) n203_103 (by decide) ?_
  refine Rn.is (m := n) n203_104 ml203 (by decide) (fun lv l5 hk hok => ?_)
  have l0 := hk 0 _ (by decide) (Or.inl rfl) l0
  have l1 := hk 1 _ (by decide) (Or.inl rfl) l1
  have l2 := hk 2 _ (by decide) (Or.inl rfl) l2
  have l3 := hk 3 _ (by decide) (Or.inl rfl) l3
  have l4 := hk 4 _ (by decide) (Or.inl rfl) l4
  have ok := hok ok
  exact t203_106 hd F hr50 hr56 F _ _ _ _ _ _ lv _ _ _ l0 l1 l2 l3 l4 l5 ok hn r_v0  h
def m203_56 (F : Nat) (rc50 : Nat → Int32 → Int32 → List mE → Option (Unit × List mE)) : Nat → Nat → Int32 → Int32 → Int32 → List mE → Option (Unit × List mE)
  | 0, _, _, _, _, _ => none
  | f + 1, v0, v1, v2, v3, hp =>
    (gfi 11 31 hp v0).bind fun x1 =>
    if mc2 .ge v3 x1 = true then
      rc50 v0 v1 (v2 + (-1)) hp
    else
      (gfr 11 33 hp v0).bind fun x3 =>
      (rdI hp x3 v3).bind fun x4 =>
      if mc2 .ne x4 v2 = true then
        m203_194 F rc50 (m203_56 F rc50 f) v0 v1 v2 v3 hp
      else
        (gfr 11 17 hp v0).bind fun x6 =>
        (rdI hp x6 v1).bind fun x7 =>
        (gfr 11 39 hp v0).bind fun x8 =>
        if mc1 .ne (x7 - v2) = true then
          m203_102 F rc50 (m203_56 F rc50 f) v0 v1 v2 v3 (x7 - v2) x8 (9 * v3) 0 hp
        else
          m203_102 F rc50 (m203_56 F rc50 f) v0 v1 v2 v3 (x7 - v2) x8 (9 * v3) 1 hp
theorem t203_56 {d c w n : Nat} (hd : 3 ≤ d) (F : Nat) {rc50 : Nat → Int32 → Int32 → List mE → Option (Unit × List mE)} (hr50 : ∀ (v0 : Nat) (v1 : Int32) (v2 : Int32) (lv : List (Nat × Value)) (hp : List mE) (v : Unit) (hp' : List mE), alk 0 lv = some (.ref v0) → alk 1 lv = some (.int v1) → alk 2 lv = some (.int v2) → lvk n lv → hp.length = n → v0 < n → rc50 v0 v1 v2 hp = some (v, hp') → Rn d 203 50 lv [] hp c w (none, hp', c, w)) : ∀ f : Nat, ∀ (v0 : Nat) (v1 : Int32) (v2 : Int32) (v3 : Int32) (lv : List (Nat × Value)) (hp : List mE) (v : Unit) (hp' : List mE), alk 0 lv = some (.ref v0) → alk 1 lv = some (.int v1) → alk 2 lv = some (.int v2) → alk 3 lv = some (.int v3) → lvk n lv → hp.length = n → v0 < n → m203_56 F rc50 f v0 v1 v2 v3 hp = some (v, hp') → Rn d 203 56 lv [] hp c w (none, hp', c, w) := by
  obtain ⟨d', rfl⟩ : ∃ d', d = d' + 1 := ⟨d - 1, by omega⟩
  intro f
  induction f with
  | zero => intro v0 v1 v2 v3 lv hp v hp' l0 l1 l2 l3 ok hn r_v0 h; cases h
  | succ f hr56 =>
    intro v0 v1 v2 v3 lv hp v hp' l0 l1 l2 l3 ok hn r_v0 h
    unfold m203_56 at h
    refine Rn.iload_n n203_56 l3 ?_
    refine Rn.aload_n n203_57 l0 ?_
    obtain ⟨x1, hx1, h⟩ := Option.bind_eq_some_iff.mp h
    refine Rn.gf n203_58 mo203 fl11_292 (gfi_v hx1) ?_
    by_cases hc2 : mc2 .ge v3 x1 = true
    · rw [if_pos hc2] at h
      refine Rn.c2t (t := 200) n203_61 (by decide) hc2 ?_
      refine Rn.ii (m := n) (u := (-1)) n203_200 ml203 (by decide) (by decide) l2 (fun lv l2 hk hok => ?_)
      have l0 := hk 0 _ (by decide) (Or.inl rfl) l0
      have l1 := hk 1 _ (by decide) (Or.inl rfl) l1
      have l3 := hk 3 _ (by decide) (Or.inl rfl) l3
      have ok := hok ok
      refine Rn.goto (t := 50) n203_203 (by decide) ?_
      exact hr50 _ _ _ lv _ _ _ l0 l1 l2 ok hn r_v0  h
    · rw [if_neg hc2] at h
      refine Rn.c2f (t := 200) n203_61 (by decide) hc2 ?_
      refine Rn.aload_n n203_64 l0 ?_
      obtain ⟨x3, hx3, h⟩ := Option.bind_eq_some_iff.mp h
      refine Rn.gf n203_65 mo203 fl11_80 (gfr_v hx3).1 ?_
      have r_x3 : x3 < n := by rw [← hn]; exact (gfr_v hx3).2
      refine Rn.iload_n n203_68 l3 ?_
      obtain ⟨x4, hx4, h⟩ := Option.bind_eq_some_iff.mp h
      refine Rn.iald n203_69 hx4 ?_
      refine Rn.iload_n n203_70 l2 ?_
      by_cases hc5 : mc2 .ne x4 v2 = true
      · rw [if_pos hc5] at h
        refine Rn.c2t (t := 194) n203_71 (by decide) hc5 ?_
        exact t203_194 hd F hr50 hr56 _ _ _ _ lv _ _ _ l0 l1 l2 l3 ok hn r_v0  h
      · rw [if_neg hc5] at h
        refine Rn.c2f (t := 194) n203_71 (by decide) hc5 ?_
        refine Rn.aload_n n203_74 l0 ?_
        obtain ⟨x6, hx6, h⟩ := Option.bind_eq_some_iff.mp h
        refine Rn.gf n203_75 mo203 fl11_40 (gfr_v hx6).1 ?_
        have r_x6 : x6 < n := by rw [← hn]; exact (gfr_v hx6).2
        refine Rn.iload_n n203_78 l1 ?_
        obtain ⟨x7, hx7, h⟩ := Option.bind_eq_some_iff.mp h
        refine Rn.iald n203_79 hx7 ?_
        refine Rn.iload_n n203_80 l2 ?_
        refine Rn.p n203_81 rfl ?_
        refine Rn.is (m := n) n203_82 ml203 (by decide) (fun lv l4 hk hok => ?_)
        have l0 := hk 0 _ (by decide) (Or.inl rfl) l0
        have l1 := hk 1 _ (by decide) (Or.inl rfl) l1
        have l2 := hk 2 _ (by decide) (Or.inl rfl) l2
        have l3 := hk 3 _ (by decide) (Or.inl rfl) l3
        have ok := hok ok
        refine Rn.aload_n n203_84 l0 ?_
        obtain ⟨x8, hx8, h⟩ := Option.bind_eq_some_iff.mp h
        refine Rn.gf n203_85 mo203 fl11_98 (gfr_v hx8).1 ?_
        have r_x8 : x8 < n := by rw [← hn]; exact (gfr_v hx8).2
        refine Rn.bp (v := 9) n203_88 (by decide) ?_
        refine Rn.iload_n n203_90 l3 ?_
        refine Rn.p n203_91 rfl ?_
        refine Rn.iload n203_92 l4 ?_
        by_cases hc9 : mc1 .ne (x7 - v2) = true
        · rw [if_pos hc9] at h
          refine Rn.c1t (t := 101) n203_94 (by decide) hc9 ?_
          refine Rn.ic (v := 0) n203_101 (by decide) ?_
          exact t203_102 hd F hr50 hr56 _ _ _ _ _ _ _ _ lv _ _ _ l0 l1 l2 l3 l4 ok hn r_v0 r_x8 h
        · rw [if_neg hc9] at h
          refine Rn.c1f (t := 101) n203_94 (by decide) hc9 ?_
          refine Rn.ic (v := 1) n203_97 (by decide) ?_
          refine Rn.goto (t := 102) n203_98 (by decide) ?_
          exact t203_102 hd F hr50 hr56 _ _ _ _ _ _ _ _ lv _ _ _ l0 l1 l2 l3 l4 ok hn r_v0 r_x8 h
def m203_50 (F : Nat) : Nat → Nat → Int32 → Int32 → List mE → Option (Unit × List mE)
  | 0, _, _, _, _ => none
  | f + 1, v0, v1, v2, hp =>
    if mc1 .lt v2 = true then
      (pfv 11 30 hp v0 (.int v1)).bind fun hp2 =>
      some ((), hp2)
    else
      m203_56 F (m203_50 F f) F v0 v1 v2 0 hp
theorem t203_50 {d c w n : Nat} (hd : 3 ≤ d) (F : Nat) : ∀ f : Nat, ∀ (v0 : Nat) (v1 : Int32) (v2 : Int32) (lv : List (Nat × Value)) (hp : List mE) (v : Unit) (hp' : List mE), alk 0 lv = some (.ref v0) → alk 1 lv = some (.int v1) → alk 2 lv = some (.int v2) → lvk n lv → hp.length = n → v0 < n → m203_50 F f v0 v1 v2 hp = some (v, hp') → Rn d 203 50 lv [] hp c w (none, hp', c, w) := by
  obtain ⟨d', rfl⟩ : ∃ d', d = d' + 1 := ⟨d - 1, by omega⟩
  intro f
  induction f with
  | zero => intro v0 v1 v2 lv hp v hp' l0 l1 l2 ok hn r_v0 h; cases h
  | succ f hr50 =>
    intro v0 v1 v2 lv hp v hp' l0 l1 l2 ok hn r_v0 h
    unfold m203_50 at h
    refine Rn.iload_n n203_50 l2 ?_
    by_cases hc1 : mc1 .lt v2 = true
    · rw [if_pos hc1] at h
      refine Rn.c1t (t := 206) n203_51 (by decide) hc1 ?_
      refine Rn.aload_n n203_206 l0 ?_
      refine Rn.iload_n n203_207 l1 ?_
      obtain ⟨hp2, hhp2, h⟩ := Option.bind_eq_some_iff.mp h
      refine Rn.pf n203_208 mo203 fl11_74 ft11_30 rfl ff11_30 (fun _ _ hh => by cases hh) hhp2 ?_
      have hn := (pfv_len hhp2).trans hn
      have e1 := (Prod.mk.inj (Option.some.inj h)).1
      have e2 := (Prod.mk.inj (Option.some.inj h)).2
      subst e1
      subst e2
      exact Rn.vret n203_211 mr203
    · rw [if_neg hc1] at h
      refine Rn.c1f (t := 206) n203_51 (by decide) hc1 ?_
      refine Rn.ic (v := 0) n203_54 (by decide) ?_
      refine Rn.isn (m := n) n203_55 rfl ml203 (by decide) (fun lv l3 hk hok => ?_)
      have l0 := hk 0 _ (by decide) (Or.inl rfl) l0
      have l1 := hk 1 _ (by decide) (Or.inl rfl) l1
      have l2 := hk 2 _ (by decide) (Or.inl rfl) l2
      have ok := hok ok
      exact t203_56 hd F hr50 F _ _ _ _ lv _ _ _ l0 l1 l2 l3 ok hn r_v0  h
def m203_16 (F : Nat) : Nat → Nat → Int32 → Int32 → List mE → Option (Unit × List mE)
  | 0, _, _, _, _ => none
  | f + 1, v0, v1, v2, hp =>
    if mc2 .ge v2 2304 = true then
      (gfr 11 17 hp v0).bind fun x2 =>
      (rdI hp x2 v1).bind fun x3 =>
      m203_50 F F v0 v1 x3 hp
    else
      (gfr 11 39 hp v0).bind fun x4 =>
      (wrI hp x4 v2 0).bind fun hp5 =>
      (gfr 11 40 hp5 v0).bind fun x6 =>
      (wrI hp5 x6 v2 0).bind fun hp7 =>
      m203_16 F f v0 v1 (v2 + 1) hp7
theorem t203_16 {d c w n : Nat} (hd : 3 ≤ d) (F : Nat) : ∀ f : Nat, ∀ (v0 : Nat) (v1 : Int32) (v2 : Int32) (lv : List (Nat × Value)) (hp : List mE) (v : Unit) (hp' : List mE), alk 0 lv = some (.ref v0) → alk 1 lv = some (.int v1) → alk 2 lv = some (.int v2) → lvk n lv → hp.length = n → v0 < n → m203_16 F f v0 v1 v2 hp = some (v, hp') → Rn d 203 16 lv [] hp c w (none, hp', c, w) := by
  obtain ⟨d', rfl⟩ : ∃ d', d = d' + 1 := ⟨d - 1, by omega⟩
  intro f
  induction f with
  | zero => intro v0 v1 v2 lv hp v hp' l0 l1 l2 ok hn r_v0 h; cases h
  | succ f hr16 =>
    intro v0 v1 v2 lv hp v hp' l0 l1 l2 ok hn r_v0 h
    unfold m203_16 at h
    refine Rn.iload_n n203_16 l2 ?_
    refine Rn.sp (v := 2304) n203_17 (by decide) ?_
    by_cases hc1 : mc2 .ge v2 2304 = true
    · rw [if_pos hc1] at h
      refine Rn.c2t (t := 43) n203_20 (by decide) hc1 ?_
      refine Rn.aload_n n203_43 l0 ?_
      obtain ⟨x2, hx2, h⟩ := Option.bind_eq_some_iff.mp h
      refine Rn.gf n203_44 mo203 fl11_40 (gfr_v hx2).1 ?_
      have r_x2 : x2 < n := by rw [← hn]; exact (gfr_v hx2).2
      refine Rn.iload_n n203_47 l1 ?_
      obtain ⟨x3, hx3, h⟩ := Option.bind_eq_some_iff.mp h
      refine Rn.iald n203_48 hx3 ?_
      refine Rn.isn (m := n) n203_49 rfl ml203 (by decide) (fun lv l2 hk hok => ?_)
      have l0 := hk 0 _ (by decide) (Or.inl rfl) l0
      have l1 := hk 1 _ (by decide) (Or.inl rfl) l1
      have ok := hok ok
      exact t203_50 hd F  F _ _ _ lv _ _ _ l0 l1 l2 ok hn r_v0  h
    · rw [if_neg hc1] at h
      refine Rn.c2f (t := 43) n203_20 (by decide) hc1 ?_
      refine Rn.aload_n n203_23 l0 ?_
      obtain ⟨x4, hx4, h⟩ := Option.bind_eq_some_iff.mp h
      refine Rn.gf n203_24 mo203 fl11_98 (gfr_v hx4).1 ?_
      have r_x4 : x4 < n := by rw [← hn]; exact (gfr_v hx4).2
      refine Rn.iload_n n203_27 l2 ?_
      refine Rn.ic (v := 0) n203_28 (by decide) ?_
      obtain ⟨hp5, hhp5, h⟩ := Option.bind_eq_some_iff.mp h
      refine Rn.iast n203_29 hhp5 ?_
      have hn := (wrI_st (st := []) hhp5).2.trans hn
      refine Rn.aload_n n203_30 l0 ?_
      obtain ⟨x6, hx6, h⟩ := Option.bind_eq_some_iff.mp h
      refine Rn.gf n203_31 mo203 fl11_101 (gfr_v hx6).1 ?_
      have r_x6 : x6 < n := by rw [← hn]; exact (gfr_v hx6).2
      refine Rn.iload_n n203_34 l2 ?_
      refine Rn.ic (v := 0) n203_35 (by decide) ?_
      obtain ⟨hp7, hhp7, h⟩ := Option.bind_eq_some_iff.mp h
      refine Rn.iast n203_36 hhp7 ?_
      have hn := (wrI_st (st := []) hhp7).2.trans hn
      refine Rn.ii (m := n) (u := 1) n203_37 ml203 (by decide) (by decide) l2 (fun lv l2 hk hok => ?_)
      have l0 := hk 0 _ (by decide) (Or.inl rfl) l0
      have l1 := hk 1 _ (by decide) (Or.inl rfl) l1
      have ok := hok ok
      refine Rn.goto (t := 16) n203_40 (by decide) ?_
      exact hr16 _ _ _ lv _ _ _ l0 l1 l2 ok hn r_v0  h
def m203_0 (F : Nat) (v0 : Nat) (v1 : Int32) (hp : List mE) : Option (Unit × List mE) :=
  (gfi 11 30 hp v0).bind fun x1 =>
  if mc2 .ne x1 v1 = true then
    (rcv 11 hp v0).bind fun u4 =>
    (e198 F v0 v1 hp).bind fun q3 =>
    m203_16 F F v0 v1 0 q3.2
  else
    some ((), hp)
theorem t203_0 {d c w n : Nat} (hd : 3 ≤ d) (F : Nat) : ∀ (v0 : Nat) (v1 : Int32) (lv : List (Nat × Value)) (hp : List mE) (v : Unit) (hp' : List mE), alk 0 lv = some (.ref v0) → alk 1 lv = some (.int v1) → lvk n lv → hp.length = n → v0 < n → m203_0 F v0 v1 hp = some (v, hp') → Rn d 203 0 lv [] hp c w (none, hp', c, w) := by
  obtain ⟨d', rfl⟩ : ∃ d', d = d' + 1 := ⟨d - 1, by omega⟩
  intro v0 v1 lv hp v hp' l0 l1 ok hn r_v0 h
  unfold m203_0 at h
  refine Rn.aload_n n203_0 l0 ?_
  obtain ⟨x1, hx1, h⟩ := Option.bind_eq_some_iff.mp h
  refine Rn.gf n203_1 mo203 fl11_74 (gfi_v hx1) ?_
  refine Rn.iload_n n203_4 l1 ?_
  by_cases hc2 : mc2 .ne x1 v1 = true
  · rw [if_pos hc2] at h
    refine Rn.c2t (t := 9) n203_5 (by decide) hc2 ?_
    refine Rn.aload_n n203_9 l0 ?_
    refine Rn.iload_n n203_10 l1 ?_
    obtain ⟨u4, hu4, h⟩ := Option.bind_eq_some_iff.mp h
    obtain ⟨q3, hq3, h⟩ := Option.bind_eq_some_iff.mp h
    have gq3 := c198 (d := d') (by omega) F _ _ _ _ _ (by rw [hn]; exact r_v0) hq3
    refine Rn.cv (As := [.int v1]) (rr := []) n203_11 mo203 mm11_301 (by decide) mq198 rfl rfl rfl rfl (by rw [mo198]; exact hu4) (Nat.le_of_ble_eq_true rfl) (by rw [hn]; exact (okc (okr r_v0) (okc rfl okn))) (by rw [hn]; exact okn) (by rw [hn]; exact ok) (by rw [ml198]; exact Nat.le_of_ble_eq_true rfl) gq3 ?_
    have hn := (Rn.len gq3).trans hn
    show Rn _ 203 14 lv [] q3.2 c w _
    refine Rn.ic (v := 0) n203_14 (by decide) ?_
    refine Rn.isn (m := n) n203_15 rfl ml203 (by decide) (fun lv l2 hk hok => ?_)
    have l0 := hk 0 _ (by decide) (Or.inl rfl) l0
    have l1 := hk 1 _ (by decide) (Or.inl rfl) l1
    have ok := hok ok
    exact t203_16 hd F  F _ _ _ lv _ _ _ l0 l1 l2 ok hn r_v0  h
  · rw [if_neg hc2] at h
    refine Rn.c2f (t := 9) n203_5 (by decide) hc2 ?_
    have e1 := (Prod.mk.inj (Option.some.inj h)).1
    have e2 := (Prod.mk.inj (Option.some.inj h)).2
    subst e1
    subst e2
    exact Rn.vret n203_8 mr203
def e203 (F : Nat) (a0 : Nat) (a1 : Int32) (hp : List mE) : Option (Unit × List mE) := m203_0 F a0 a1 hp
theorem c203 {d : Nat} (hd : 3 ≤ d) (F : Nat) (a0 : Nat) (a1 : Int32) (hp : List mE) (v : Unit) (hp' : List mE) (ra0 : a0 < hp.length) (h : e203 F a0 a1 hp = some (v, hp')) : Rn d 203 0 (lv_args 0 [.ref a0, .int a1]) [] hp 0 0 (none, hp', 0, 0) :=
  t203_0 (n := hp.length) hd F a0 a1 (lv_args 0 [.ref a0, .int a1]) hp v hp' rfl rfl (lvk_args (okc (okr ra0) (okc rfl okn))) rfl ra0 h
/-! MirrorRootsModel.placeOf -/
def m204_0 (F : Nat) (v0 : Nat) (v1 : Int32) (hp : List mE) : Option (Int32 × List mE) :=
  (rcv 11 hp v0).bind fun u2 =>
  (e169 F v0 v1 0 hp).bind fun q1 =>
  (rcv 11 q1.2 v0).bind fun u4 =>
  (e199 F v0 q1.2).bind fun q3 =>
  some (q3.1, q3.2)
theorem t204_0 {d c w n : Nat} (hd : 3 ≤ d) (F : Nat) : ∀ (v0 : Nat) (v1 : Int32) (lv : List (Nat × Value)) (hp : List mE) (v : Int32) (hp' : List mE), alk 0 lv = some (.ref v0) → alk 1 lv = some (.int v1) → lvk n lv → hp.length = n → v0 < n → m204_0 F v0 v1 hp = some (v, hp') → Rn d 204 0 lv [] hp c w (some (.int v), hp', c, w) := by
  obtain ⟨d', rfl⟩ : ∃ d', d = d' + 1 := ⟨d - 1, by omega⟩
  intro v0 v1 lv hp v hp' l0 l1 ok hn r_v0 h
  unfold m204_0 at h
  refine Rn.aload_n n204_0 l0 ?_
  refine Rn.iload_n n204_1 l1 ?_
  refine Rn.ic (v := 0) n204_2 (by decide) ?_
  obtain ⟨u2, hu2, h⟩ := Option.bind_eq_some_iff.mp h
  obtain ⟨q1, hq1, h⟩ := Option.bind_eq_some_iff.mp h
  have gq1 := c169 (d := d') (by omega) F _ _ _ _ _ _ (by rw [hn]; exact r_v0) hq1
  refine Rn.cv (As := [.int v1, .int 0]) (rr := []) n204_3 mo204 mm11_225 (by decide) mq169 rfl rfl rfl rfl (by rw [mo169]; exact hu2) (Nat.le_of_ble_eq_true rfl) (by rw [hn]; exact (okc (okr r_v0) (okc rfl (okc rfl okn)))) (by rw [hn]; exact okn) (by rw [hn]; exact ok) (by rw [ml169]; exact Nat.le_of_ble_eq_true rfl) gq1 ?_
  have hn := (Rn.len gq1).trans hn
  show Rn _ 204 6 lv [] q1.2 c w _
  refine Rn.aload_n n204_6 l0 ?_
  obtain ⟨u4, hu4, h⟩ := Option.bind_eq_some_iff.mp h
  obtain ⟨q3, hq3, h⟩ := Option.bind_eq_some_iff.mp h
  have gq3 := c199 (d := d') (by omega) F _ _ _ _ (by rw [hn]; exact r_v0) hq3
  refine Rn.cv (As := []) (rr := []) n204_7 mo204 mm11_295 (by decide) mq199 rfl rfl rfl rfl (by rw [mo199]; exact hu4) (Nat.le_of_ble_eq_true rfl) (by rw [hn]; exact (okc (okr r_v0) okn)) (by rw [hn]; exact okn) (by rw [hn]; exact ok) (by rw [ml199]; exact Nat.le_of_ble_eq_true rfl) gq3 ?_
  have hn := (Rn.len gq3).trans hn
  show Rn _ 204 10 lv [.int q3.1] q3.2 c w _
  have e1 := (Prod.mk.inj (Option.some.inj h)).1
  have e2 := (Prod.mk.inj (Option.some.inj h)).2
  subst e1
  subst e2
  exact Rn.iret n204_10 mr204
def e204 (F : Nat) (a0 : Nat) (a1 : Int32) (hp : List mE) : Option (Int32 × List mE) := m204_0 F a0 a1 hp
theorem c204 {d : Nat} (hd : 3 ≤ d) (F : Nat) (a0 : Nat) (a1 : Int32) (hp : List mE) (v : Int32) (hp' : List mE) (ra0 : a0 < hp.length) (h : e204 F a0 a1 hp = some (v, hp')) : Rn d 204 0 (lv_args 0 [.ref a0, .int a1]) [] hp 0 0 (some (.int v), hp', 0, 0) :=
  t204_0 (n := hp.length) hd F a0 a1 (lv_args 0 [.ref a0, .int a1]) hp v hp' rfl rfl (lvk_args (okc (okr ra0) (okc rfl okn))) rfl ra0 h
/-! MirrorRootsModel.r -/
def m205_100 (F : Nat) (t0 : Int32) (hp : List mE) : Option (Int32 × List mE) :=
  some (t0, hp)
theorem t205_100 {d c w n : Nat} (hd : 4 ≤ d) (F : Nat) : ∀ (t0 : Int32) (lv : List (Nat × Value)) (hp : List mE) (v : Int32) (hp' : List mE), lvk n lv → hp.length = n → m205_100 F t0 hp = some (v, hp') → Rn d 205 100 lv [.int t0] hp c w (some (.int v), hp', c, w) := by
  obtain ⟨d', rfl⟩ : ∃ d', d = d' + 1 := ⟨d - 1, by omega⟩
  intro t0 lv hp v hp' ok hn h
  unfold m205_100 at h
  have e1 := (Prod.mk.inj (Option.some.inj h)).1
  have e2 := (Prod.mk.inj (Option.some.inj h)).2
  subst e1
  subst e2
  exact Rn.iret n205_100 mr205
def m205_84 (F : Nat) (hp : List mE) : Option (Int32 × List mE) :=
  m205_100 F 0 hp
theorem t205_84 {d c w n : Nat} (hd : 4 ≤ d) (F : Nat) : ∀ (lv : List (Nat × Value)) (hp : List mE) (v : Int32) (hp' : List mE), lvk n lv → hp.length = n → m205_84 F hp = some (v, hp') → Rn d 205 84 lv [] hp c w (some (.int v), hp', c, w) := by
  obtain ⟨d', rfl⟩ : ∃ d', d = d' + 1 := ⟨d - 1, by omega⟩
  intro lv hp v hp' ok hn h
  unfold m205_84 at h
  refine Rn.ic (v := 0) n205_84 (by decide) ?_
  refine Rn.goto (t := 100) n205_85 (by decide) ?_
  exact t205_100 hd F  _ lv _ _ _  ok hn   h
def m205_16 (F : Nat) (hp : List mE) : Option (Int32 × List mE) :=
  some ((-1001), hp)
theorem t205_16 {d c w n : Nat} (hd : 4 ≤ d) (F : Nat) : ∀ (lv : List (Nat × Value)) (hp : List mE) (v : Int32) (hp' : List mE), lvk n lv → hp.length = n → m205_16 F hp = some (v, hp') → Rn d 205 16 lv [] hp c w (some (.int v), hp', c, w) := by
  obtain ⟨d', rfl⟩ : ∃ d', d = d' + 1 := ⟨d - 1, by omega⟩
  intro lv hp v hp' ok hn h
  unfold m205_16 at h
  refine Rn.sp (v := (-1001)) n205_16 (by decide) ?_
  have e1 := (Prod.mk.inj (Option.some.inj h)).1
  have e2 := (Prod.mk.inj (Option.some.inj h)).2
  subst e1
  subst e2
  exact Rn.iret n205_19 mr205
def m205_0 (F : Nat) (v0 : Nat) (v1 : Int32) (v2 : Int32) (v3 : Int32) (hp : List mE) : Option (Int32 × List mE) :=
  (rcv 11 hp v0).bind fun u2 =>
  (e160 F v0 v1 hp).bind fun q1 =>
  if mc1 .eq q1.1 = true then
    m205_16 F q1.2
  else
    (rcv 11 q1.2 v0).bind fun u5 =>
    (e160 F v0 v2 q1.2).bind fun q4 =>
    if mc1 .ne q4.1 = true then
      if mc1 .ge v3 = true then
        (gfr 11 17 q4.2 v0).bind fun x8 =>
        (rdI q4.2 x8 v2).bind fun x9 =>
        if mc2 .le x9 8 = true then
          (rcv 11 q4.2 v0).bind fun u12 =>
          (e198 F v0 v2 q4.2).bind fun q11 =>
          (pfv 11 30 q11.2 v0 (.int ((-1)))).bind fun hp13 =>
          (rcv 11 hp13 v0).bind fun u15 =>
          (e204 F v0 v2 hp13).bind fun q14 =>
          (rcv 11 q14.2 v0).bind fun u17 =>
          (e204 F v0 v1 q14.2).bind fun q16 =>
          (rcv 11 q16.2 v0).bind fun u19 =>
          (e201 F v0 q14.1 q16.2).bind fun q18 =>
          if mc1 .lt q16.1 = true then
            m205_84 F q18.2
          else
            if mc2 .le v3 8 = true then
              (gfr 11 36 q18.2 v0).bind fun x22 =>
              (rdI q18.2 x22 ((9 * q16.1) + v3)).bind fun x23 =>
              m205_100 F x23 q18.2
            else
              m205_84 F q18.2
        else
          some ((-1005), q4.2)
      else
        some ((-1002), q4.2)
    else
      m205_16 F q4.2
theorem t205_0 {d c w n : Nat} (hd : 4 ≤ d) (F : Nat) : ∀ (v0 : Nat) (v1 : Int32) (v2 : Int32) (v3 : Int32) (lv : List (Nat × Value)) (hp : List mE) (v : Int32) (hp' : List mE), alk 0 lv = some (.ref v0) → alk 1 lv = some (.int v1) → alk 2 lv = some (.int v2) → alk 3 lv = some (.int v3) → lvk n lv → hp.length = n → v0 < n → m205_0 F v0 v1 v2 v3 hp = some (v, hp') → Rn d 205 0 lv [] hp c w (some (.int v), hp', c, w) := by
  obtain ⟨d', rfl⟩ : ∃ d', d = d' + 1 := ⟨d - 1, by omega⟩
  intro v0 v1 v2 v3 lv hp v hp' l0 l1 l2 l3 ok hn r_v0 h
  unfold m205_0 at h
  refine Rn.aload_n n205_0 l0 ?_
  refine Rn.iload_n n205_1 l1 ?_
  obtain ⟨u2, hu2, h⟩ := Option.bind_eq_some_iff.mp h
  obtain ⟨q1, hq1, h⟩ := Option.bind_eq_some_iff.mp h
  have gq1 := c160 (d := d') (by omega) F _ _ _ _ _ (by rw [hn]; exact r_v0) hq1
  refine Rn.cv (As := [.int v1]) (rr := []) n205_2 mo205 mm11_222 (by decide) mq160 rfl rfl rfl rfl (by rw [mo160]; exact hu2) (Nat.le_of_ble_eq_true rfl) (by rw [hn]; exact (okc (okr r_v0) (okc rfl okn))) (by rw [hn]; exact okn) (by rw [hn]; exact ok) (by rw [ml160]; exact Nat.le_of_ble_eq_true rfl) gq1 ?_
  have hn := (Rn.len gq1).trans hn
  show Rn _ 205 5 lv [.int q1.1] q1.2 c w _
  by_cases hc3 : mc1 .eq q1.1 = true
  · rw [if_pos hc3] at h
    refine Rn.c1t (t := 16) n205_5 (by decide) hc3 ?_
    exact t205_16 hd F  lv _ _ _  ok hn   h
  · rw [if_neg hc3] at h
    refine Rn.c1f (t := 16) n205_5 (by decide) hc3 ?_
    refine Rn.aload_n n205_8 l0 ?_
    refine Rn.iload_n n205_9 l2 ?_
    obtain ⟨u5, hu5, h⟩ := Option.bind_eq_some_iff.mp h
    obtain ⟨q4, hq4, h⟩ := Option.bind_eq_some_iff.mp h
    have gq4 := c160 (d := d') (by omega) F _ _ _ _ _ (by rw [hn]; exact r_v0) hq4
    refine Rn.cv (As := [.int v2]) (rr := []) n205_10 mo205 mm11_222 (by decide) mq160 rfl rfl rfl rfl (by rw [mo160]; exact hu5) (Nat.le_of_ble_eq_true rfl) (by rw [hn]; exact (okc (okr r_v0) (okc rfl okn))) (by rw [hn]; exact okn) (by rw [hn]; exact ok) (by rw [ml160]; exact Nat.le_of_ble_eq_true rfl) gq4 ?_
    have hn := (Rn.len gq4).trans hn
    show Rn _ 205 13 lv [.int q4.1] q4.2 c w _
    by_cases hc6 : mc1 .ne q4.1 = true
    · rw [if_pos hc6] at h
      refine Rn.c1t (t := 20) n205_13 (by decide) hc6 ?_
      refine Rn.iload_n n205_20 l3 ?_
      by_cases hc7 : mc1 .ge v3 = true
      · rw [if_pos hc7] at h
        refine Rn.c1t (t := 28) n205_21 (by decide) hc7 ?_
        refine Rn.aload_n n205_28 l0 ?_
        obtain ⟨x8, hx8, h⟩ := Option.bind_eq_some_iff.mp h
        refine Rn.gf n205_29 mo205 fl11_40 (gfr_v hx8).1 ?_
        have r_x8 : x8 < n := by rw [← hn]; exact (gfr_v hx8).2
        refine Rn.iload_n n205_32 l2 ?_
        obtain ⟨x9, hx9, h⟩ := Option.bind_eq_some_iff.mp h
        refine Rn.iald n205_33 hx9 ?_
        refine Rn.bp (v := 8) n205_34 (by decide) ?_
        by_cases hc10 : mc2 .le x9 8 = true
        · rw [if_pos hc10] at h
          refine Rn.c2t (t := 43) n205_36 (by decide) hc10 ?_
          refine Rn.aload_n n205_43 l0 ?_
          refine Rn.iload_n n205_44 l2 ?_
          obtain ⟨u12, hu12, h⟩ := Option.bind_eq_some_iff.mp h
          obtain ⟨q11, hq11, h⟩ := Option.bind_eq_some_iff.mp h
          have gq11 := c198 (d := d') (by omega) F _ _ _ _ _ (by rw [hn]; exact r_v0) hq11
          refine Rn.cv (As := [.int v2]) (rr := []) n205_45 mo205 mm11_301 (by decide) mq198 rfl rfl rfl rfl (by rw [mo198]; exact hu12) (Nat.le_of_ble_eq_true rfl) (by rw [hn]; exact (okc (okr r_v0) (okc rfl okn))) (by rw [hn]; exact okn) (by rw [hn]; exact ok) (by rw [ml198]; exact Nat.le_of_ble_eq_true rfl) gq11 ?_
          have hn := (Rn.len gq11).trans hn
          show Rn _ 205 48 lv [] q11.2 c w _
          refine Rn.aload_n n205_48 l0 ?_
          refine Rn.ic (v := (-1)) n205_49 (by decide) ?_
          obtain ⟨hp13, hhp13, h⟩ := Option.bind_eq_some_iff.mp h
          refine Rn.pf n205_50 mo205 fl11_74 ft11_30 rfl ff11_30 (fun _ _ hh => by cases hh) hhp13 ?_
          have hn := (pfv_len hhp13).trans hn
          refine Rn.aload_n n205_53 l0 ?_
          refine Rn.iload_n n205_54 l2 ?_
          obtain ⟨u15, hu15, h⟩ := Option.bind_eq_some_iff.mp h
          obtain ⟨q14, hq14, h⟩ := Option.bind_eq_some_iff.mp h
          have gq14 := c204 (d := d') (by omega) F _ _ _ _ _ (by rw [hn]; exact r_v0) hq14
          refine Rn.cv (As := [.int v2]) (rr := []) n205_55 mo205 mm11_311 (by decide) mq204 rfl rfl rfl rfl (by rw [mo204]; exact hu15) (Nat.le_of_ble_eq_true rfl) (by rw [hn]; exact (okc (okr r_v0) (okc rfl okn))) (by rw [hn]; exact okn) (by rw [hn]; exact ok) (by rw [ml204]; exact Nat.le_of_ble_eq_true rfl) gq14 ?_
          have hn := (Rn.len gq14).trans hn
          show Rn _ 205 58 lv [.int q14.1] q14.2 c w _
          refine Rn.is (m := n) n205_58 ml205 (by decide) (fun lv l4 hk hok => ?_)
          have l0 := hk 0 _ (by decide) (Or.inl rfl) l0
          have l1 := hk 1 _ (by decide) (Or.inl rfl) l1
          have l2 := hk 2 _ (by decide) (Or.inl rfl) l2
          have l3 := hk 3 _ (by decide) (Or.inl rfl) l3
          have ok := hok ok
          refine Rn.aload_n n205_60 l0 ?_
          refine Rn.iload_n n205_61 l1 ?_
          obtain ⟨u17, hu17, h⟩ := Option.bind_eq_some_iff.mp h
          obtain ⟨q16, hq16, h⟩ := Option.bind_eq_some_iff.mp h
          have gq16 := c204 (d := d') (by omega) F _ _ _ _ _ (by rw [hn]; exact r_v0) hq16
          refine Rn.cv (As := [.int v1]) (rr := []) n205_62 mo205 mm11_311 (by decide) mq204 rfl rfl rfl rfl (by rw [mo204]; exact hu17) (Nat.le_of_ble_eq_true rfl) (by rw [hn]; exact (okc (okr r_v0) (okc rfl okn))) (by rw [hn]; exact okn) (by rw [hn]; exact ok) (by rw [ml204]; exact Nat.le_of_ble_eq_true rfl) gq16 ?_
          have hn := (Rn.len gq16).trans hn
          show Rn _ 205 65 lv [.int q16.1] q16.2 c w _
          refine Rn.is (m := n) n205_65 ml205 (by decide) (fun lv l5 hk hok => ?_)
          have l0 := hk 0 _ (by decide) (Or.inl rfl) l0
          have l1 := hk 1 _ (by decide) (Or.inl rfl) l1
          have l2 := hk 2 _ (by decide) (Or.inl rfl) l2
          have l3 := hk 3 _ (by decide) (Or.inl rfl) l3
          have l4 := hk 4 _ (by decide) (Or.inl rfl) l4
          have ok := hok ok
          refine Rn.aload_n n205_67 l0 ?_
          refine Rn.iload n205_68 l4 ?_
          obtain ⟨u19, hu19, h⟩ := Option.bind_eq_some_iff.mp h
          obtain ⟨q18, hq18, h⟩ := Option.bind_eq_some_iff.mp h
          have gq18 := c201 (d := d') (by omega) F _ _ _ _ _ (by rw [hn]; exact r_v0) hq18
          refine Rn.cv (As := [.int q14.1]) (rr := []) n205_70 mo205 mm11_304 (by decide) mq201 rfl rfl rfl rfl (by rw [mo201]; exact hu19) (Nat.le_of_ble_eq_true rfl) (by rw [hn]; exact (okc (okr r_v0) (okc rfl okn))) (by rw [hn]; exact okn) (by rw [hn]; exact ok) (by rw [ml201]; exact Nat.le_of_ble_eq_true rfl) gq18 ?_
          have hn := (Rn.len gq18).trans hn
          show Rn _ 205 73 lv [] q18.2 c w _
          refine Rn.iload n205_73 l5 ?_
          by_cases hc20 : mc1 .lt q16.1 = true
          · rw [if_pos hc20] at h
            refine Rn.c1t (t := 84) n205_75 (by decide) hc20 ?_
            exact t205_84 hd F  lv _ _ _  ok hn   h
          · rw [if_neg hc20] at h
            refine Rn.c1f (t := 84) n205_75 (by decide) hc20 ?_
            refine Rn.iload_n n205_78 l3 ?_
            refine Rn.bp (v := 8) n205_79 (by decide) ?_
            by_cases hc21 : mc2 .le v3 8 = true
            · rw [if_pos hc21] at h
              refine Rn.c2t (t := 88) n205_81 (by decide) hc21 ?_
              refine Rn.aload_n n205_88 l0 ?_
              obtain ⟨x22, hx22, h⟩ := Option.bind_eq_some_iff.mp h
              refine Rn.gf n205_89 mo205 fl11_89 (gfr_v hx22).1 ?_
              have r_x22 : x22 < n := by rw [← hn]; exact (gfr_v hx22).2
              refine Rn.bp (v := 9) n205_92 (by decide) ?_
              refine Rn.iload n205_94 l5 ?_
              refine Rn.p n205_96 rfl ?_
              refine Rn.iload_n n205_97 l3 ?_
              refine Rn.p n205_98 rfl ?_
              obtain ⟨x23, hx23, h⟩ := Option.bind_eq_some_iff.mp h
              refine Rn.iald n205_99 hx23 ?_
              exact t205_100 hd F  _ lv _ _ _  ok hn   h
            · rw [if_neg hc21] at h
              refine Rn.c2f (t := 88) n205_81 (by decide) hc21 ?_
              exact t205_84 hd F  lv _ _ _  ok hn   h
        · rw [if_neg hc10] at h
          refine Rn.c2f (t := 43) n205_36 (by decide) hc10 ?_
          refine Rn.sp (v := (-1005)) n205_39 (by decide) ?_
          have e1 := (Prod.mk.inj (Option.some.inj h)).1
          have e2 := (Prod.mk.inj (Option.some.inj h)).2
          subst e1
          subst e2
          exact Rn.iret n205_42 mr205
      · rw [if_neg hc7] at h
        refine Rn.c1f (t := 28) n205_21 (by decide) hc7 ?_
        refine Rn.sp (v := (-1002)) n205_24 (by decide) ?_
        have e1 := (Prod.mk.inj (Option.some.inj h)).1
        have e2 := (Prod.mk.inj (Option.some.inj h)).2
        subst e1
        subst e2
        exact Rn.iret n205_27 mr205
    · rw [if_neg hc6] at h
      refine Rn.c1f (t := 20) n205_13 (by decide) hc6 ?_
      exact t205_16 hd F  lv _ _ _  ok hn   h
def e205 (F : Nat) (a0 : Nat) (a1 : Int32) (a2 : Int32) (a3 : Int32) (hp : List mE) : Option (Int32 × List mE) := m205_0 F a0 a1 a2 a3 hp
theorem c205 {d : Nat} (hd : 4 ≤ d) (F : Nat) (a0 : Nat) (a1 : Int32) (a2 : Int32) (a3 : Int32) (hp : List mE) (v : Int32) (hp' : List mE) (ra0 : a0 < hp.length) (h : e205 F a0 a1 a2 a3 hp = some (v, hp')) : Rn d 205 0 (lv_args 0 [.ref a0, .int a1, .int a2, .int a3]) [] hp 0 0 (some (.int v), hp', 0, 0) :=
  t205_0 (n := hp.length) hd F a0 a1 a2 a3 (lv_args 0 [.ref a0, .int a1, .int a2, .int a3]) hp v hp' rfl rfl rfl rfl (lvk_args (okc (okr ra0) (okc rfl (okc rfl (okc rfl okn))))) rfl ra0 h
/-! MirrorRootsModel.p -/
def m206_82 (F : Nat) (t0 : Int32) (hp : List mE) : Option (Int32 × List mE) :=
  some (t0, hp)
theorem t206_82 {d c w n : Nat} (hd : 4 ≤ d) (F : Nat) : ∀ (t0 : Int32) (lv : List (Nat × Value)) (hp : List mE) (v : Int32) (hp' : List mE), lvk n lv → hp.length = n → m206_82 F t0 hp = some (v, hp') → Rn d 206 82 lv [.int t0] hp c w (some (.int v), hp', c, w) := by
  obtain ⟨d', rfl⟩ : ∃ d', d = d' + 1 := ⟨d - 1, by omega⟩
  intro t0 lv hp v hp' ok hn h
  unfold m206_82 at h
  have e1 := (Prod.mk.inj (Option.some.inj h)).1
  have e2 := (Prod.mk.inj (Option.some.inj h)).2
  subst e1
  subst e2
  exact Rn.iret n206_82 mr206
def m206_66 (F : Nat) (hp : List mE) : Option (Int32 × List mE) :=
  m206_82 F 0 hp
theorem t206_66 {d c w n : Nat} (hd : 4 ≤ d) (F : Nat) : ∀ (lv : List (Nat × Value)) (hp : List mE) (v : Int32) (hp' : List mE), lvk n lv → hp.length = n → m206_66 F hp = some (v, hp') → Rn d 206 66 lv [] hp c w (some (.int v), hp', c, w) := by
  obtain ⟨d', rfl⟩ : ∃ d', d = d' + 1 := ⟨d - 1, by omega⟩
  intro lv hp v hp' ok hn h
  unfold m206_66 at h
  refine Rn.ic (v := 0) n206_66 (by decide) ?_
  refine Rn.goto (t := 82) n206_67 (by decide) ?_
  exact t206_82 hd F  _ lv _ _ _  ok hn   h
def m206_16 (F : Nat) (hp : List mE) : Option (Int32 × List mE) :=
  some ((-1001), hp)
theorem t206_16 {d c w n : Nat} (hd : 4 ≤ d) (F : Nat) : ∀ (lv : List (Nat × Value)) (hp : List mE) (v : Int32) (hp' : List mE), lvk n lv → hp.length = n → m206_16 F hp = some (v, hp') → Rn d 206 16 lv [] hp c w (some (.int v), hp', c, w) := by
  obtain ⟨d', rfl⟩ : ∃ d', d = d' + 1 := ⟨d - 1, by omega⟩
  intro lv hp v hp' ok hn h
  unfold m206_16 at h
  refine Rn.sp (v := (-1001)) n206_16 (by decide) ?_
  have e1 := (Prod.mk.inj (Option.some.inj h)).1
  have e2 := (Prod.mk.inj (Option.some.inj h)).2
  subst e1
  subst e2
  exact Rn.iret n206_19 mr206
def m206_0 (F : Nat) (v0 : Nat) (v1 : Int32) (v2 : Int32) (v3 : Int32) (hp : List mE) : Option (Int32 × List mE) :=
  (rcv 11 hp v0).bind fun u2 =>
  (e160 F v0 v1 hp).bind fun q1 =>
  if mc1 .eq q1.1 = true then
    m206_16 F q1.2
  else
    (rcv 11 q1.2 v0).bind fun u5 =>
    (e160 F v0 v2 q1.2).bind fun q4 =>
    if mc1 .ne q4.1 = true then
      if mc1 .ge v3 = true then
        (gfr 11 17 q4.2 v0).bind fun x8 =>
        (rdI q4.2 x8 v2).bind fun x9 =>
        if mc2 .le x9 8 = true then
          (rcv 11 q4.2 v0).bind fun u12 =>
          (e203 F v0 v2 q4.2).bind fun q11 =>
          (rcv 11 q11.2 v0).bind fun u14 =>
          (e204 F v0 v1 q11.2).bind fun q13 =>
          if mc1 .lt q13.1 = true then
            m206_66 F q13.2
          else
            if mc2 .le v3 8 = true then
              (gfr 11 39 q13.2 v0).bind fun x17 =>
              (rdI q13.2 x17 ((9 * q13.1) + v3)).bind fun x18 =>
              m206_82 F x18 q13.2
            else
              m206_66 F q13.2
        else
          some ((-1005), q4.2)
      else
        some ((-1002), q4.2)
    else
      m206_16 F q4.2
theorem t206_0 {d c w n : Nat} (hd : 4 ≤ d) (F : Nat) : ∀ (v0 : Nat) (v1 : Int32) (v2 : Int32) (v3 : Int32) (lv : List (Nat × Value)) (hp : List mE) (v : Int32) (hp' : List mE), alk 0 lv = some (.ref v0) → alk 1 lv = some (.int v1) → alk 2 lv = some (.int v2) → alk 3 lv = some (.int v3) → lvk n lv → hp.length = n → v0 < n → m206_0 F v0 v1 v2 v3 hp = some (v, hp') → Rn d 206 0 lv [] hp c w (some (.int v), hp', c, w) := by
  obtain ⟨d', rfl⟩ : ∃ d', d = d' + 1 := ⟨d - 1, by omega⟩
  intro v0 v1 v2 v3 lv hp v hp' l0 l1 l2 l3 ok hn r_v0 h
  unfold m206_0 at h
  refine Rn.aload_n n206_0 l0 ?_
  refine Rn.iload_n n206_1 l1 ?_
  obtain ⟨u2, hu2, h⟩ := Option.bind_eq_some_iff.mp h
  obtain ⟨q1, hq1, h⟩ := Option.bind_eq_some_iff.mp h
  have gq1 := c160 (d := d') (by omega) F _ _ _ _ _ (by rw [hn]; exact r_v0) hq1
  refine Rn.cv (As := [.int v1]) (rr := []) n206_2 mo206 mm11_222 (by decide) mq160 rfl rfl rfl rfl (by rw [mo160]; exact hu2) (Nat.le_of_ble_eq_true rfl) (by rw [hn]; exact (okc (okr r_v0) (okc rfl okn))) (by rw [hn]; exact okn) (by rw [hn]; exact ok) (by rw [ml160]; exact Nat.le_of_ble_eq_true rfl) gq1 ?_
  have hn := (Rn.len gq1).trans hn
  show Rn _ 206 5 lv [.int q1.1] q1.2 c w _
  by_cases hc3 : mc1 .eq q1.1 = true
  · rw [if_pos hc3] at h
    refine Rn.c1t (t := 16) n206_5 (by decide) hc3 ?_
    exact t206_16 hd F  lv _ _ _  ok hn   h
  · rw [if_neg hc3] at h
    refine Rn.c1f (t := 16) n206_5 (by decide) hc3 ?_
    refine Rn.aload_n n206_8 l0 ?_
    refine Rn.iload_n n206_9 l2 ?_
    obtain ⟨u5, hu5, h⟩ := Option.bind_eq_some_iff.mp h
    obtain ⟨q4, hq4, h⟩ := Option.bind_eq_some_iff.mp h
    have gq4 := c160 (d := d') (by omega) F _ _ _ _ _ (by rw [hn]; exact r_v0) hq4
    refine Rn.cv (As := [.int v2]) (rr := []) n206_10 mo206 mm11_222 (by decide) mq160 rfl rfl rfl rfl (by rw [mo160]; exact hu5) (Nat.le_of_ble_eq_true rfl) (by rw [hn]; exact (okc (okr r_v0) (okc rfl okn))) (by rw [hn]; exact okn) (by rw [hn]; exact ok) (by rw [ml160]; exact Nat.le_of_ble_eq_true rfl) gq4 ?_
    have hn := (Rn.len gq4).trans hn
    show Rn _ 206 13 lv [.int q4.1] q4.2 c w _
    by_cases hc6 : mc1 .ne q4.1 = true
    · rw [if_pos hc6] at h
      refine Rn.c1t (t := 20) n206_13 (by decide) hc6 ?_
      refine Rn.iload_n n206_20 l3 ?_
      by_cases hc7 : mc1 .ge v3 = true
      · rw [if_pos hc7] at h
        refine Rn.c1t (t := 28) n206_21 (by decide) hc7 ?_
        refine Rn.aload_n n206_28 l0 ?_
        obtain ⟨x8, hx8, h⟩ := Option.bind_eq_some_iff.mp h
        refine Rn.gf n206_29 mo206 fl11_40 (gfr_v hx8).1 ?_
        have r_x8 : x8 < n := by rw [← hn]; exact (gfr_v hx8).2
        refine Rn.iload_n n206_32 l2 ?_
        obtain ⟨x9, hx9, h⟩ := Option.bind_eq_some_iff.mp h
        refine Rn.iald n206_33 hx9 ?_
        refine Rn.bp (v := 8) n206_34 (by decide) ?_
        by_cases hc10 : mc2 .le x9 8 = true
        · rw [if_pos hc10] at h
          refine Rn.c2t (t := 43) n206_36 (by decide) hc10 ?_
          refine Rn.aload_n n206_43 l0 ?_
          refine Rn.iload_n n206_44 l2 ?_
          obtain ⟨u12, hu12, h⟩ := Option.bind_eq_some_iff.mp h
          obtain ⟨q11, hq11, h⟩ := Option.bind_eq_some_iff.mp h
          have gq11 := c203 (d := d') (by omega) F _ _ _ _ _ (by rw [hn]; exact r_v0) hq11
          refine Rn.cv (As := [.int v2]) (rr := []) n206_45 mo206 mm11_314 (by decide) mq203 rfl rfl rfl rfl (by rw [mo203]; exact hu12) (Nat.le_of_ble_eq_true rfl) (by rw [hn]; exact (okc (okr r_v0) (okc rfl okn))) (by rw [hn]; exact okn) (by rw [hn]; exact ok) (by rw [ml203]; exact Nat.le_of_ble_eq_true rfl) gq11 ?_
          have hn := (Rn.len gq11).trans hn
          show Rn _ 206 48 lv [] q11.2 c w _
          refine Rn.aload_n n206_48 l0 ?_
          refine Rn.iload_n n206_49 l1 ?_
          obtain ⟨u14, hu14, h⟩ := Option.bind_eq_some_iff.mp h
          obtain ⟨q13, hq13, h⟩ := Option.bind_eq_some_iff.mp h
          have gq13 := c204 (d := d') (by omega) F _ _ _ _ _ (by rw [hn]; exact r_v0) hq13
          refine Rn.cv (As := [.int v1]) (rr := []) n206_50 mo206 mm11_311 (by decide) mq204 rfl rfl rfl rfl (by rw [mo204]; exact hu14) (Nat.le_of_ble_eq_true rfl) (by rw [hn]; exact (okc (okr r_v0) (okc rfl okn))) (by rw [hn]; exact okn) (by rw [hn]; exact ok) (by rw [ml204]; exact Nat.le_of_ble_eq_true rfl) gq13 ?_
          have hn := (Rn.len gq13).trans hn
          show Rn _ 206 53 lv [.int q13.1] q13.2 c w _
          refine Rn.is (m := n) n206_53 ml206 (by decide) (fun lv l4 hk hok => ?_)
          have l0 := hk 0 _ (by decide) (Or.inl rfl) l0
          have l1 := hk 1 _ (by decide) (Or.inl rfl) l1
          have l2 := hk 2 _ (by decide) (Or.inl rfl) l2
          have l3 := hk 3 _ (by decide) (Or.inl rfl) l3
          have ok := hok ok
          refine Rn.iload n206_55 l4 ?_
          by_cases hc15 : mc1 .lt q13.1 = true
          · rw [if_pos hc15] at h
            refine Rn.c1t (t := 66) n206_57 (by decide) hc15 ?_
            exact t206_66 hd F  lv _ _ _  ok hn   h
          · rw [if_neg hc15] at h
            refine Rn.c1f (t := 66) n206_57 (by decide) hc15 ?_
            refine Rn.iload_n n206_60 l3 ?_
            refine Rn.bp (v := 8) n206_61 (by decide) ?_
            by_cases hc16 : mc2 .le v3 8 = true
            · rw [if_pos hc16] at h
              refine Rn.c2t (t := 70) n206_63 (by decide) hc16 ?_
              refine Rn.aload_n n206_70 l0 ?_
              obtain ⟨x17, hx17, h⟩ := Option.bind_eq_some_iff.mp h
              refine Rn.gf n206_71 mo206 fl11_98 (gfr_v hx17).1 ?_
              have r_x17 : x17 < n := by rw [← hn]; exact (gfr_v hx17).2
              refine Rn.bp (v := 9) n206_74 (by decide) ?_
              refine Rn.iload n206_76 l4 ?_
              refine Rn.p n206_78 rfl ?_
              refine Rn.iload_n n206_79 l3 ?_
              refine Rn.p n206_80 rfl ?_
              obtain ⟨x18, hx18, h⟩ := Option.bind_eq_some_iff.mp h
              refine Rn.iald n206_81 hx18 ?_
              exact t206_82 hd F  _ lv _ _ _  ok hn   h
            · rw [if_neg hc16] at h
              refine Rn.c2f (t := 70) n206_63 (by decide) hc16 ?_
              exact t206_66 hd F  lv _ _ _  ok hn   h
        · rw [if_neg hc10] at h
          refine Rn.c2f (t := 43) n206_36 (by decide) hc10 ?_
          refine Rn.sp (v := (-1005)) n206_39 (by decide) ?_
          have e1 := (Prod.mk.inj (Option.some.inj h)).1
          have e2 := (Prod.mk.inj (Option.some.inj h)).2
          subst e1
          subst e2
          exact Rn.iret n206_42 mr206
      · rw [if_neg hc7] at h
        refine Rn.c1f (t := 28) n206_21 (by decide) hc7 ?_
        refine Rn.sp (v := (-1002)) n206_24 (by decide) ?_
        have e1 := (Prod.mk.inj (Option.some.inj h)).1
        have e2 := (Prod.mk.inj (Option.some.inj h)).2
        subst e1
        subst e2
        exact Rn.iret n206_27 mr206
    · rw [if_neg hc6] at h
      refine Rn.c1f (t := 20) n206_13 (by decide) hc6 ?_
      exact t206_16 hd F  lv _ _ _  ok hn   h
def e206 (F : Nat) (a0 : Nat) (a1 : Int32) (a2 : Int32) (a3 : Int32) (hp : List mE) : Option (Int32 × List mE) := m206_0 F a0 a1 a2 a3 hp
theorem c206 {d : Nat} (hd : 4 ≤ d) (F : Nat) (a0 : Nat) (a1 : Int32) (a2 : Int32) (a3 : Int32) (hp : List mE) (v : Int32) (hp' : List mE) (ra0 : a0 < hp.length) (h : e206 F a0 a1 a2 a3 hp = some (v, hp')) : Rn d 206 0 (lv_args 0 [.ref a0, .int a1, .int a2, .int a3]) [] hp 0 0 (some (.int v), hp', 0, 0) :=
  t206_0 (n := hp.length) hd F a0 a1 a2 a3 (lv_args 0 [.ref a0, .int a1, .int a2, .int a3]) hp v hp' rfl rfl rfl rfl (lvk_args (okc (okr ra0) (okc rfl (okc rfl (okc rfl okn))))) rfl ra0 h
/-! MirrorRootsModel.leans -/
def m207_92 (F : Nat) (t0 : Int32) (hp : List mE) : Option (Int32 × List mE) :=
  some (t0, hp)
theorem t207_92 {d c w n : Nat} (hd : 4 ≤ d) (F : Nat) : ∀ (t0 : Int32) (lv : List (Nat × Value)) (hp : List mE) (v : Int32) (hp' : List mE), lvk n lv → hp.length = n → m207_92 F t0 hp = some (v, hp') → Rn d 207 92 lv [.int t0] hp c w (some (.int v), hp', c, w) := by
  obtain ⟨d', rfl⟩ : ∃ d', d = d' + 1 := ⟨d - 1, by omega⟩
  intro t0 lv hp v hp' ok hn h
  unfold m207_92 at h
  have e1 := (Prod.mk.inj (Option.some.inj h)).1
  have e2 := (Prod.mk.inj (Option.some.inj h)).2
  subst e1
  subst e2
  exact Rn.iret n207_92 mr207
def m207_72 (F : Nat) (hp : List mE) : Option (Int32 × List mE) :=
  m207_92 F 0 hp
theorem t207_72 {d c w n : Nat} (hd : 4 ≤ d) (F : Nat) : ∀ (lv : List (Nat × Value)) (hp : List mE) (v : Int32) (hp' : List mE), lvk n lv → hp.length = n → m207_72 F hp = some (v, hp') → Rn d 207 72 lv [] hp c w (some (.int v), hp', c, w) := by
  obtain ⟨d', rfl⟩ : ∃ d', d = d' + 1 := ⟨d - 1, by omega⟩
  intro lv hp v hp' ok hn h
  unfold m207_72 at h
  refine Rn.ic (v := 0) n207_72 (by decide) ?_
  refine Rn.goto (t := 92) n207_73 (by decide) ?_
  exact t207_92 hd F  _ lv _ _ _  ok hn   h
def m207_16 (F : Nat) (hp : List mE) : Option (Int32 × List mE) :=
  some ((-1001), hp)
theorem t207_16 {d c w n : Nat} (hd : 4 ≤ d) (F : Nat) : ∀ (lv : List (Nat × Value)) (hp : List mE) (v : Int32) (hp' : List mE), lvk n lv → hp.length = n → m207_16 F hp = some (v, hp') → Rn d 207 16 lv [] hp c w (some (.int v), hp', c, w) := by
  obtain ⟨d', rfl⟩ : ∃ d', d = d' + 1 := ⟨d - 1, by omega⟩
  intro lv hp v hp' ok hn h
  unfold m207_16 at h
  refine Rn.sp (v := (-1001)) n207_16 (by decide) ?_
  have e1 := (Prod.mk.inj (Option.some.inj h)).1
  have e2 := (Prod.mk.inj (Option.some.inj h)).2
  subst e1
  subst e2
  exact Rn.iret n207_19 mr207
def m207_0 (F : Nat) (v0 : Nat) (v1 : Int32) (v2 : Int32) (hp : List mE) : Option (Int32 × List mE) :=
  (rcv 11 hp v0).bind fun u2 =>
  (e160 F v0 v1 hp).bind fun q1 =>
  if mc1 .eq q1.1 = true then
    m207_16 F q1.2
  else
    (rcv 11 q1.2 v0).bind fun u5 =>
    (e160 F v0 v2 q1.2).bind fun q4 =>
    if mc1 .ne q4.1 = true then
      (gfr 11 17 q4.2 v0).bind fun x7 =>
      (rdI q4.2 x7 v2).bind fun x8 =>
      if mc2 .le x8 8 = true then
        (rcv 11 q4.2 v0).bind fun u11 =>
        (e203 F v0 v2 q4.2).bind fun q10 =>
        (rcv 11 q10.2 v0).bind fun u13 =>
        (e204 F v0 v1 q10.2).bind fun q12 =>
        (gfr 11 17 q12.2 v0).bind fun x14 =>
        (rdI q12.2 x14 v2).bind fun x15 =>
        (gfr 11 17 q12.2 v0).bind fun x16 =>
        (rdI q12.2 x16 v1).bind fun x17 =>
        if mc1 .lt q12.1 = true then
          m207_72 F q12.2
        else
          if mc1 .ne ((x15 - x17) - (x15 - x17) / 2 * 2) = true then
            (gfr 11 39 q12.2 v0).bind fun x20 =>
            (rdI q12.2 x20 ((9 * q12.1) + (((x15 - x17) - 1) / 2))).bind fun x21 =>
            m207_92 F x21 q12.2
          else
            m207_72 F q12.2
      else
        some ((-1005), q4.2)
    else
      m207_16 F q4.2
theorem t207_0 {d c w n : Nat} (hd : 4 ≤ d) (F : Nat) : ∀ (v0 : Nat) (v1 : Int32) (v2 : Int32) (lv : List (Nat × Value)) (hp : List mE) (v : Int32) (hp' : List mE), alk 0 lv = some (.ref v0) → alk 1 lv = some (.int v1) → alk 2 lv = some (.int v2) → lvk n lv → hp.length = n → v0 < n → m207_0 F v0 v1 v2 hp = some (v, hp') → Rn d 207 0 lv [] hp c w (some (.int v), hp', c, w) := by
  obtain ⟨d', rfl⟩ : ∃ d', d = d' + 1 := ⟨d - 1, by omega⟩
  intro v0 v1 v2 lv hp v hp' l0 l1 l2 ok hn r_v0 h
  unfold m207_0 at h
  refine Rn.aload_n n207_0 l0 ?_
  refine Rn.iload_n n207_1 l1 ?_
  obtain ⟨u2, hu2, h⟩ := Option.bind_eq_some_iff.mp h
  obtain ⟨q1, hq1, h⟩ := Option.bind_eq_some_iff.mp h
  have gq1 := c160 (d := d') (by omega) F _ _ _ _ _ (by rw [hn]; exact r_v0) hq1
  refine Rn.cv (As := [.int v1]) (rr := []) n207_2 mo207 mm11_222 (by decide) mq160 rfl rfl rfl rfl (by rw [mo160]; exact hu2) (Nat.le_of_ble_eq_true rfl) (by rw [hn]; exact (okc (okr r_v0) (okc rfl okn))) (by rw [hn]; exact okn) (by rw [hn]; exact ok) (by rw [ml160]; exact Nat.le_of_ble_eq_true rfl) gq1 ?_
  have hn := (Rn.len gq1).trans hn
  show Rn _ 207 5 lv [.int q1.1] q1.2 c w _
  by_cases hc3 : mc1 .eq q1.1 = true
  · rw [if_pos hc3] at h
    refine Rn.c1t (t := 16) n207_5 (by decide) hc3 ?_
    exact t207_16 hd F  lv _ _ _  ok hn   h
  · rw [if_neg hc3] at h
    refine Rn.c1f (t := 16) n207_5 (by decide) hc3 ?_
    refine Rn.aload_n n207_8 l0 ?_
    refine Rn.iload_n n207_9 l2 ?_
    obtain ⟨u5, hu5, h⟩ := Option.bind_eq_some_iff.mp h
    obtain ⟨q4, hq4, h⟩ := Option.bind_eq_some_iff.mp h
    have gq4 := c160 (d := d') (by omega) F _ _ _ _ _ (by rw [hn]; exact r_v0) hq4
    refine Rn.cv (As := [.int v2]) (rr := []) n207_10 mo207 mm11_222 (by decide) mq160 rfl rfl rfl rfl (by rw [mo160]; exact hu5) (Nat.le_of_ble_eq_true rfl) (by rw [hn]; exact (okc (okr r_v0) (okc rfl okn))) (by rw [hn]; exact okn) (by rw [hn]; exact ok) (by rw [ml160]; exact Nat.le_of_ble_eq_true rfl) gq4 ?_
    have hn := (Rn.len gq4).trans hn
    show Rn _ 207 13 lv [.int q4.1] q4.2 c w _
    by_cases hc6 : mc1 .ne q4.1 = true
    · rw [if_pos hc6] at h
      refine Rn.c1t (t := 20) n207_13 (by decide) hc6 ?_
      refine Rn.aload_n n207_20 l0 ?_
      obtain ⟨x7, hx7, h⟩ := Option.bind_eq_some_iff.mp h
      refine Rn.gf n207_21 mo207 fl11_40 (gfr_v hx7).1 ?_
      have r_x7 : x7 < n := by rw [← hn]; exact (gfr_v hx7).2
      refine Rn.iload_n n207_24 l2 ?_
      obtain ⟨x8, hx8, h⟩ := Option.bind_eq_some_iff.mp h
      refine Rn.iald n207_25 hx8 ?_
      refine Rn.bp (v := 8) n207_26 (by decide) ?_
      by_cases hc9 : mc2 .le x8 8 = true
      · rw [if_pos hc9] at h
        refine Rn.c2t (t := 35) n207_28 (by decide) hc9 ?_
        refine Rn.aload_n n207_35 l0 ?_
        refine Rn.iload_n n207_36 l2 ?_
        obtain ⟨u11, hu11, h⟩ := Option.bind_eq_some_iff.mp h
        obtain ⟨q10, hq10, h⟩ := Option.bind_eq_some_iff.mp h
        have gq10 := c203 (d := d') (by omega) F _ _ _ _ _ (by rw [hn]; exact r_v0) hq10
        refine Rn.cv (As := [.int v2]) (rr := []) n207_37 mo207 mm11_314 (by decide) mq203 rfl rfl rfl rfl (by rw [mo203]; exact hu11) (Nat.le_of_ble_eq_true rfl) (by rw [hn]; exact (okc (okr r_v0) (okc rfl okn))) (by rw [hn]; exact okn) (by rw [hn]; exact ok) (by rw [ml203]; exact Nat.le_of_ble_eq_true rfl) gq10 ?_
        have hn := (Rn.len gq10).trans hn
        show Rn _ 207 40 lv [] q10.2 c w _
        refine Rn.aload_n n207_40 l0 ?_
        refine Rn.iload_n n207_41 l1 ?_
        obtain ⟨u13, hu13, h⟩ := Option.bind_eq_some_iff.mp h
        obtain ⟨q12, hq12, h⟩ := Option.bind_eq_some_iff.mp h
        have gq12 := c204 (d := d') (by omega) F _ _ _ _ _ (by rw [hn]; exact r_v0) hq12
        refine Rn.cv (As := [.int v1]) (rr := []) n207_42 mo207 mm11_311 (by decide) mq204 rfl rfl rfl rfl (by rw [mo204]; exact hu13) (Nat.le_of_ble_eq_true rfl) (by rw [hn]; exact (okc (okr r_v0) (okc rfl okn))) (by rw [hn]; exact okn) (by rw [hn]; exact ok) (by rw [ml204]; exact Nat.le_of_ble_eq_true rfl) gq12 ?_
        have hn := (Rn.len gq12).trans hn
        show Rn _ 207 45 lv [.int q12.1] q12.2 c w _
        refine Rn.isn (m := n) n207_45 rfl ml207 (by decide) (fun lv l3 hk hok => ?_)
        have l0 := hk 0 _ (by decide) (Or.inl rfl) l0
        have l1 := hk 1 _ (by decide) (Or.inl rfl) l1
        have l2 := hk 2 _ (by decide) (Or.inl rfl) l2
        have ok := hok ok
        refine Rn.aload_n n207_46 l0 ?_
        obtain ⟨x14, hx14, h⟩ := Option.bind_eq_some_iff.mp h
        refine Rn.gf n207_47 mo207 fl11_40 (gfr_v hx14).1 ?_
        have r_x14 : x14 < n := by rw [← hn]; exact (gfr_v hx14).2
        refine Rn.iload_n n207_50 l2 ?_
        obtain ⟨x15, hx15, h⟩ := Option.bind_eq_some_iff.mp h
        refine Rn.iald n207_51 hx15 ?_
        refine Rn.aload_n n207_52 l0 ?_
        obtain ⟨x16, hx16, h⟩ := Option.bind_eq_some_iff.mp h
        refine Rn.gf n207_53 mo207 fl11_40 (gfr_v hx16).1 ?_
        have r_x16 : x16 < n := by rw [← hn]; exact (gfr_v hx16).2
        refine Rn.iload_n n207_56 l1 ?_
        obtain ⟨x17, hx17, h⟩ := Option.bind_eq_some_iff.mp h
        refine Rn.iald n207_57 hx17 ?_
        refine Rn.p n207_58 rfl ?_
        refine Rn.is (m := n) n207_59 ml207 (by decide) (fun lv l4 hk hok => ?_)
        have l0 := hk 0 _ (by decide) (Or.inl rfl) l0
        have l1 := hk 1 _ (by decide) (Or.inl rfl) l1
        have l2 := hk 2 _ (by decide) (Or.inl rfl) l2
        have l3 := hk 3 _ (by decide) (Or.inl rfl) l3
        have ok := hok ok
        refine Rn.iload_n n207_61 l3 ?_
        by_cases hc18 : mc1 .lt q12.1 = true
        · rw [if_pos hc18] at h
          refine Rn.c1t (t := 72) n207_62 (by decide) hc18 ?_
          exact t207_72 hd F  lv _ _ _  ok hn   h
        · rw [if_neg hc18] at h
          refine Rn.c1f (t := 72) n207_62 (by decide) hc18 ?_
          refine Rn.iload n207_65 l4 ?_
          refine Rn.ic (v := 2) n207_67 (by decide) ?_
          refine Rn.irm n207_68 (by decide) ?_
          by_cases hc19 : mc1 .ne ((x15 - x17) - (x15 - x17) / 2 * 2) = true
          · rw [if_pos hc19] at h
            refine Rn.c1t (t := 76) n207_69 (by decide) hc19 ?_
            refine Rn.aload_n n207_76 l0 ?_
            obtain ⟨x20, hx20, h⟩ := Option.bind_eq_some_iff.mp h
            refine Rn.gf n207_77 mo207 fl11_98 (gfr_v hx20).1 ?_
            have r_x20 : x20 < n := by rw [← hn]; exact (gfr_v hx20).2
            refine Rn.bp (v := 9) n207_80 (by decide) ?_
            refine Rn.iload_n n207_82 l3 ?_
            refine Rn.p n207_83 rfl ?_
            refine Rn.iload n207_84 l4 ?_
            refine Rn.ic (v := 1) n207_86 (by decide) ?_
            refine Rn.p n207_87 rfl ?_
            refine Rn.ic (v := 2) n207_88 (by decide) ?_
            refine Rn.idv n207_89 (by decide) ?_
            refine Rn.p n207_90 rfl ?_
            obtain ⟨x21, hx21, h⟩ := Option.bind_eq_some_iff.mp h
            refine Rn.iald n207_91 hx21 ?_
            exact t207_92 hd F  _ lv _ _ _  ok hn   h
          · rw [if_neg hc19] at h
            refine Rn.c1f (t := 76) n207_69 (by decide) hc19 ?_
            exact t207_72 hd F  lv _ _ _  ok hn   h
      · rw [if_neg hc9] at h
        refine Rn.c2f (t := 35) n207_28 (by decide) hc9 ?_
        refine Rn.sp (v := (-1005)) n207_31 (by decide) ?_
        have e1 := (Prod.mk.inj (Option.some.inj h)).1
        have e2 := (Prod.mk.inj (Option.some.inj h)).2
        subst e1
        subst e2
        exact Rn.iret n207_34 mr207
    · rw [if_neg hc6] at h
      refine Rn.c1f (t := 20) n207_13 (by decide) hc6 ?_
      exact t207_16 hd F  lv _ _ _  ok hn   h
def e207 (F : Nat) (a0 : Nat) (a1 : Int32) (a2 : Int32) (hp : List mE) : Option (Int32 × List mE) := m207_0 F a0 a1 a2 hp
theorem c207 {d : Nat} (hd : 4 ≤ d) (F : Nat) (a0 : Nat) (a1 : Int32) (a2 : Int32) (hp : List mE) (v : Int32) (hp' : List mE) (ra0 : a0 < hp.length) (h : e207 F a0 a1 a2 hp = some (v, hp')) : Rn d 207 0 (lv_args 0 [.ref a0, .int a1, .int a2]) [] hp 0 0 (some (.int v), hp', 0, 0) :=
  t207_0 (n := hp.length) hd F a0 a1 a2 (lv_args 0 [.ref a0, .int a1, .int a2]) hp v hp' rfl rfl rfl (lvk_args (okc (okr ra0) (okc rfl (okc rfl okn)))) rfl ra0 h
/-! MirrorRootsModel.rough -/
def m208_118 (F : Nat) (rc36 : Nat → Int32 → Int32 → List mE → Option (Int32 × List mE)) (v0 : Nat) (v3 : Int32) (t0 : Int32) (t1 : Int32) (hp : List mE) : Option (Int32 × List mE) :=
  rc36 v0 (t0 + t1) (v3 + 1) hp
theorem t208_118 {d c w n : Nat} (hd : 4 ≤ d) (F : Nat) {rc36 : Nat → Int32 → Int32 → List mE → Option (Int32 × List mE)} (hr36 : ∀ (v0 : Nat) (v2 : Int32) (v3 : Int32) (lv : List (Nat × Value)) (hp : List mE) (v : Int32) (hp' : List mE), alk 0 lv = some (.ref v0) → alk 2 lv = some (.int v2) → alk 3 lv = some (.int v3) → lvk n lv → hp.length = n → v0 < n → rc36 v0 v2 v3 hp = some (v, hp') → Rn d 208 36 lv [] hp c w (some (.int v), hp', c, w)) : ∀ (v0 : Nat) (v3 : Int32) (t0 : Int32) (t1 : Int32) (lv : List (Nat × Value)) (hp : List mE) (v : Int32) (hp' : List mE), alk 0 lv = some (.ref v0) → alk 3 lv = some (.int v3) → lvk n lv → hp.length = n → v0 < n → m208_118 F rc36 v0 v3 t0 t1 hp = some (v, hp') → Rn d 208 118 lv [.int t1, .int t0] hp c w (some (.int v), hp', c, w) := by
  obtain ⟨d', rfl⟩ : ∃ d', d = d' + 1 := ⟨d - 1, by omega⟩
  intro v0 v3 t0 t1 lv hp v hp' l0 l3 ok hn r_v0 h
  unfold m208_118 at h
  refine Rn.p n208_118 rfl ?_
  refine Rn.isn (m := n) n208_119 rfl ml208 (by decide) (fun lv l2 hk hok => ?_)
  have l0 := hk 0 _ (by decide) (Or.inl rfl) l0
  have l3 := hk 3 _ (by decide) (Or.inl rfl) l3
  have ok := hok ok
  refine Rn.ii (m := n) (u := 1) n208_120 ml208 (by decide) (by decide) l3 (fun lv l3 hk hok => ?_)
  have l0 := hk 0 _ (by decide) (Or.inl rfl) l0
  have l2 := hk 2 _ (by decide) (Or.inl rfl) l2
  have ok := hok ok
  refine Rn.goto (t := 36) n208_123 (by decide) ?_
  exact hr36 _ _ _ lv _ _ _ l0 l2 l3 ok hn r_v0  h
def m208_99 (F : Nat) (rc36 : Nat → Int32 → Int32 → List mE → Option (Int32 × List mE)) (rc67 : Nat → Int32 → Int32 → Int32 → Int32 → List mE → Option (Int32 × List mE)) (v0 : Nat) (v2 : Int32) (v3 : Int32) (v5 : Int32) (t0 : Int32) (hp : List mE) : Option (Int32 × List mE) :=
  rc67 v0 v2 v3 t0 (v5 + 1) hp
theorem t208_99 {d c w n : Nat} (hd : 4 ≤ d) (F : Nat) {rc36 : Nat → Int32 → Int32 → List mE → Option (Int32 × List mE)} {rc67 : Nat → Int32 → Int32 → Int32 → Int32 → List mE → Option (Int32 × List mE)} (hr36 : ∀ (v0 : Nat) (v2 : Int32) (v3 : Int32) (lv : List (Nat × Value)) (hp : List mE) (v : Int32) (hp' : List mE), alk 0 lv = some (.ref v0) → alk 2 lv = some (.int v2) → alk 3 lv = some (.int v3) → lvk n lv → hp.length = n → v0 < n → rc36 v0 v2 v3 hp = some (v, hp') → Rn d 208 36 lv [] hp c w (some (.int v), hp', c, w)) (hr67 : ∀ (v0 : Nat) (v2 : Int32) (v3 : Int32) (v4 : Int32) (v5 : Int32) (lv : List (Nat × Value)) (hp : List mE) (v : Int32) (hp' : List mE), alk 0 lv = some (.ref v0) → alk 2 lv = some (.int v2) → alk 3 lv = some (.int v3) → alk 4 lv = some (.int v4) → alk 5 lv = some (.int v5) → lvk n lv → hp.length = n → v0 < n → rc67 v0 v2 v3 v4 v5 hp = some (v, hp') → Rn d 208 67 lv [] hp c w (some (.int v), hp', c, w)) : ∀ (v0 : Nat) (v2 : Int32) (v3 : Int32) (v5 : Int32) (t0 : Int32) (lv : List (Nat × Value)) (hp : List mE) (v : Int32) (hp' : List mE), alk 0 lv = some (.ref v0) → alk 2 lv = some (.int v2) → alk 3 lv = some (.int v3) → alk 5 lv = some (.int v5) → lvk n lv → hp.length = n → v0 < n → m208_99 F rc36 rc67 v0 v2 v3 v5 t0 hp = some (v, hp') → Rn d 208 99 lv [.int t0] hp c w (some (.int v), hp', c, w) := by
  obtain ⟨d', rfl⟩ : ∃ d', d = d' + 1 := ⟨d - 1, by omega⟩
  intro v0 v2 v3 v5 t0 lv hp v hp' l0 l2 l3 l5 ok hn r_v0 h
  unfold m208_99 at h
  refine Rn.is (m := n) n208_99 ml208 (by decide) (fun lv l4 hk hok => ?_)
  have l0 := hk 0 _ (by decide) (Or.inl rfl) l0
  have l2 := hk 2 _ (by decide) (Or.inl rfl) l2
  have l3 := hk 3 _ (by decide) (Or.inl rfl) l3
  have l5 := hk 5 _ (by decide) (Or.inl rfl) l5
  have ok := hok ok
  refine Rn.ii (m := n) (u := 1) n208_101 ml208 (by decide) (by decide) l5 (fun lv l5 hk hok => ?_)
  have l0 := hk 0 _ (by decide) (Or.inl rfl) l0
  have l2 := hk 2 _ (by decide) (Or.inl rfl) l2
  have l3 := hk 3 _ (by decide) (Or.inl rfl) l3
  have l4 := hk 4 _ (by decide) (Or.inl rfl) l4
  have ok := hok ok
  refine Rn.goto (t := 67) n208_104 (by decide) ?_
  exact hr67 _ _ _ _ _ lv _ _ _ l0 l2 l3 l4 l5 ok hn r_v0  h
def m208_98 (F : Nat) (rc36 : Nat → Int32 → Int32 → List mE → Option (Int32 × List mE)) (rc67 : Nat → Int32 → Int32 → Int32 → Int32 → List mE → Option (Int32 × List mE)) (v0 : Nat) (v2 : Int32) (v3 : Int32) (v5 : Int32) (hp : List mE) : Option (Int32 × List mE) :=
  m208_99 F rc36 rc67 v0 v2 v3 v5 0 hp
theorem t208_98 {d c w n : Nat} (hd : 4 ≤ d) (F : Nat) {rc36 : Nat → Int32 → Int32 → List mE → Option (Int32 × List mE)} {rc67 : Nat → Int32 → Int32 → Int32 → Int32 → List mE → Option (Int32 × List mE)} (hr36 : ∀ (v0 : Nat) (v2 : Int32) (v3 : Int32) (lv : List (Nat × Value)) (hp : List mE) (v : Int32) (hp' : List mE), alk 0 lv = some (.ref v0) → alk 2 lv = some (.int v2) → alk 3 lv = some (.int v3) → lvk n lv → hp.length = n → v0 < n → rc36 v0 v2 v3 hp = some (v, hp') → Rn d 208 36 lv [] hp c w (some (.int v), hp', c, w)) (hr67 : ∀ (v0 : Nat) (v2 : Int32) (v3 : Int32) (v4 : Int32) (v5 : Int32) (lv : List (Nat × Value)) (hp : List mE) (v : Int32) (hp' : List mE), alk 0 lv = some (.ref v0) → alk 2 lv = some (.int v2) → alk 3 lv = some (.int v3) → alk 4 lv = some (.int v4) → alk 5 lv = some (.int v5) → lvk n lv → hp.length = n → v0 < n → rc67 v0 v2 v3 v4 v5 hp = some (v, hp') → Rn d 208 67 lv [] hp c w (some (.int v), hp', c, w)) : ∀ (v0 : Nat) (v2 : Int32) (v3 : Int32) (v5 : Int32) (lv : List (Nat × Value)) (hp : List mE) (v : Int32) (hp' : List mE), alk 0 lv = some (.ref v0) → alk 2 lv = some (.int v2) → alk 3 lv = some (.int v3) → alk 5 lv = some (.int v5) → lvk n lv → hp.length = n → v0 < n → m208_98 F rc36 rc67 v0 v2 v3 v5 hp = some (v, hp') → Rn d 208 98 lv [] hp c w (some (.int v), hp', c, w) := by
  obtain ⟨d', rfl⟩ : ∃ d', d = d' + 1 := ⟨d - 1, by omega⟩
  intro v0 v2 v3 v5 lv hp v hp' l0 l2 l3 l5 ok hn r_v0 h
  unfold m208_98 at h
  refine Rn.ic (v := 0) n208_98 (by decide) ?_
  exact t208_99 hd F hr36 hr67 _ _ _ _ _ lv _ _ _ l0 l2 l3 l5 ok hn r_v0  h
def m208_67 (F : Nat) (rc36 : Nat → Int32 → Int32 → List mE → Option (Int32 × List mE)) : Nat → Nat → Int32 → Int32 → Int32 → Int32 → List mE → Option (Int32 × List mE)
  | 0, _, _, _, _, _, _ => none
  | f + 1, v0, v2, v3, v4, v5, hp =>
    if mc2 .ge v5 9 = true then
      if mc1 .eq v4 = true then
        m208_118 F rc36 v0 v3 v2 1 hp
      else
        m208_118 F rc36 v0 v3 v2 0 hp
    else
      if mc1 .eq v4 = true then
        m208_98 F rc36 (m208_67 F rc36 f) v0 v2 v3 v5 hp
      else
        (gfr 11 39 hp v0).bind fun x4 =>
        (rdI hp x4 ((9 * v3) + v5)).bind fun x5 =>
        if mc1 .ne x5 = true then
          m208_98 F rc36 (m208_67 F rc36 f) v0 v2 v3 v5 hp
        else
          m208_99 F rc36 (m208_67 F rc36 f) v0 v2 v3 v5 1 hp
theorem t208_67 {d c w n : Nat} (hd : 4 ≤ d) (F : Nat) {rc36 : Nat → Int32 → Int32 → List mE → Option (Int32 × List mE)} (hr36 : ∀ (v0 : Nat) (v2 : Int32) (v3 : Int32) (lv : List (Nat × Value)) (hp : List mE) (v : Int32) (hp' : List mE), alk 0 lv = some (.ref v0) → alk 2 lv = some (.int v2) → alk 3 lv = some (.int v3) → lvk n lv → hp.length = n → v0 < n → rc36 v0 v2 v3 hp = some (v, hp') → Rn d 208 36 lv [] hp c w (some (.int v), hp', c, w)) : ∀ f : Nat, ∀ (v0 : Nat) (v2 : Int32) (v3 : Int32) (v4 : Int32) (v5 : Int32) (lv : List (Nat × Value)) (hp : List mE) (v : Int32) (hp' : List mE), alk 0 lv = some (.ref v0) → alk 2 lv = some (.int v2) → alk 3 lv = some (.int v3) → alk 4 lv = some (.int v4) → alk 5 lv = some (.int v5) → lvk n lv → hp.length = n → v0 < n → m208_67 F rc36 f v0 v2 v3 v4 v5 hp = some (v, hp') → Rn d 208 67 lv [] hp c w (some (.int v), hp', c, w) := by
  obtain ⟨d', rfl⟩ : ∃ d', d = d' + 1 := ⟨d - 1, by omega⟩
  intro f
  induction f with
  | zero => intro v0 v2 v3 v4 v5 lv hp v hp' l0 l2 l3 l4 l5 ok hn r_v0 h; cases h
  | succ f hr67 =>
    intro v0 v2 v3 v4 v5 lv hp v hp' l0 l2 l3 l4 l5 ok hn r_v0 h
    unfold m208_67 at h
    refine Rn.iload n208_67 l5 ?_
    refine Rn.bp (v := 9) n208_69 (by decide) ?_
    by_cases hc1 : mc2 .ge v5 9 = true
    · rw [if_pos hc1] at h
      refine Rn.c2t (t := 107) n208_71 (by decide) hc1 ?_
      refine Rn.iload_n n208_107 l2 ?_
      refine Rn.iload n208_108 l4 ?_
      by_cases hc2 : mc1 .eq v4 = true
      · rw [if_pos hc2] at h
        refine Rn.c1t (t := 117) n208_110 (by decide) hc2 ?_
        refine Rn.ic (v := 1) n208_117 (by decide) ?_
        exact t208_118 hd F hr36 _ _ _ _ lv _ _ _ l0 l3 ok hn r_v0  h
      · rw [if_neg hc2] at h
        refine Rn.c1f (t := 117) n208_110 (by decide) hc2 ?_
        refine Rn.ic (v := 0) n208_113 (by decide) ?_
        refine Rn.goto (t := 118) n208_114 (by decide) ?_
        exact t208_118 hd F hr36 _ _ _ _ lv _ _ _ l0 l3 ok hn r_v0  h
    · rw [if_neg hc1] at h
      refine Rn.c2f (t := 107) n208_71 (by decide) hc1 ?_
      refine Rn.iload n208_74 l4 ?_
      by_cases hc3 : mc1 .eq v4 = true
      · rw [if_pos hc3] at h
        refine Rn.c1t (t := 98) n208_76 (by decide) hc3 ?_
        exact t208_98 hd F hr36 hr67 _ _ _ _ lv _ _ _ l0 l2 l3 l5 ok hn r_v0  h
      · rw [if_neg hc3] at h
        refine Rn.c1f (t := 98) n208_76 (by decide) hc3 ?_
        refine Rn.aload_n n208_79 l0 ?_
        obtain ⟨x4, hx4, h⟩ := Option.bind_eq_some_iff.mp h
        refine Rn.gf n208_80 mo208 fl11_98 (gfr_v hx4).1 ?_
        have r_x4 : x4 < n := by rw [← hn]; exact (gfr_v hx4).2
        refine Rn.bp (v := 9) n208_83 (by decide) ?_
        refine Rn.iload_n n208_85 l3 ?_
        refine Rn.p n208_86 rfl ?_
        refine Rn.iload n208_87 l5 ?_
        refine Rn.p n208_89 rfl ?_
        obtain ⟨x5, hx5, h⟩ := Option.bind_eq_some_iff.mp h
        refine Rn.iald n208_90 hx5 ?_
        by_cases hc6 : mc1 .ne x5 = true
        · rw [if_pos hc6] at h
          refine Rn.c1t (t := 98) n208_91 (by decide) hc6 ?_
          exact t208_98 hd F hr36 hr67 _ _ _ _ lv _ _ _ l0 l2 l3 l5 ok hn r_v0  h
        · rw [if_neg hc6] at h
          refine Rn.c1f (t := 98) n208_91 (by decide) hc6 ?_
          refine Rn.ic (v := 1) n208_94 (by decide) ?_
          refine Rn.goto (t := 99) n208_95 (by decide) ?_
          exact t208_99 hd F hr36 hr67 _ _ _ _ _ lv _ _ _ l0 l2 l3 l5 ok hn r_v0  h
def m208_62 (F : Nat) (rc36 : Nat → Int32 → Int32 → List mE → Option (Int32 × List mE)) (v0 : Nat) (v2 : Int32) (v3 : Int32) (t0 : Int32) (hp : List mE) : Option (Int32 × List mE) :=
  m208_67 F rc36 F v0 v2 v3 t0 1 hp
theorem t208_62 {d c w n : Nat} (hd : 4 ≤ d) (F : Nat) {rc36 : Nat → Int32 → Int32 → List mE → Option (Int32 × List mE)} (hr36 : ∀ (v0 : Nat) (v2 : Int32) (v3 : Int32) (lv : List (Nat × Value)) (hp : List mE) (v : Int32) (hp' : List mE), alk 0 lv = some (.ref v0) → alk 2 lv = some (.int v2) → alk 3 lv = some (.int v3) → lvk n lv → hp.length = n → v0 < n → rc36 v0 v2 v3 hp = some (v, hp') → Rn d 208 36 lv [] hp c w (some (.int v), hp', c, w)) : ∀ (v0 : Nat) (v2 : Int32) (v3 : Int32) (t0 : Int32) (lv : List (Nat × Value)) (hp : List mE) (v : Int32) (hp' : List mE), alk 0 lv = some (.ref v0) → alk 2 lv = some (.int v2) → alk 3 lv = some (.int v3) → lvk n lv → hp.length = n → v0 < n → m208_62 F rc36 v0 v2 v3 t0 hp = some (v, hp') → Rn d 208 62 lv [.int t0] hp c w (some (.int v), hp', c, w) := by
  obtain ⟨d', rfl⟩ : ∃ d', d = d' + 1 := ⟨d - 1, by omega⟩
  intro v0 v2 v3 t0 lv hp v hp' l0 l2 l3 ok hn r_v0 h
  unfold m208_62 at h
  refine Rn.is (m := n) n208_62 ml208 (by decide) (fun lv l4 hk hok => ?_)
  have l0 := hk 0 _ (by decide) (Or.inl rfl) l0
  have l2 := hk 2 _ (by decide) (Or.inl rfl) l2
  have l3 := hk 3 _ (by decide) (Or.inl rfl) l3
  have ok := hok ok
  refine Rn.ic (v := 1) n208_64 (by decide) ?_
  refine Rn.is (m := n) n208_65 ml208 (by decide) (fun lv l5 hk hok => ?_)
  have l0 := hk 0 _ (by decide) (Or.inl rfl) l0
  have l2 := hk 2 _ (by decide) (Or.inl rfl) l2
  have l3 := hk 3 _ (by decide) (Or.inl rfl) l3
  have l4 := hk 4 _ (by decide) (Or.inl rfl) l4
  have ok := hok ok
  exact t208_67 hd F hr36 F _ _ _ _ _ lv _ _ _ l0 l2 l3 l4 l5 ok hn r_v0  h
def m208_36 (F : Nat) : Nat → Nat → Int32 → Int32 → List mE → Option (Int32 × List mE)
  | 0, _, _, _, _ => none
  | f + 1, v0, v2, v3, hp =>
    (gfi 11 31 hp v0).bind fun x1 =>
    if mc2 .ge v3 x1 = true then
      some (v2, hp)
    else
      (gfr 11 39 hp v0).bind fun x3 =>
      (rdI hp x3 (9 * v3)).bind fun x4 =>
      if mc2 .ne x4 1 = true then
        m208_62 F (m208_36 F f) v0 v2 v3 0 hp
      else
        m208_62 F (m208_36 F f) v0 v2 v3 1 hp
theorem t208_36 {d c w n : Nat} (hd : 4 ≤ d) (F : Nat) : ∀ f : Nat, ∀ (v0 : Nat) (v2 : Int32) (v3 : Int32) (lv : List (Nat × Value)) (hp : List mE) (v : Int32) (hp' : List mE), alk 0 lv = some (.ref v0) → alk 2 lv = some (.int v2) → alk 3 lv = some (.int v3) → lvk n lv → hp.length = n → v0 < n → m208_36 F f v0 v2 v3 hp = some (v, hp') → Rn d 208 36 lv [] hp c w (some (.int v), hp', c, w) := by
  obtain ⟨d', rfl⟩ : ∃ d', d = d' + 1 := ⟨d - 1, by omega⟩
  intro f
  induction f with
  | zero => intro v0 v2 v3 lv hp v hp' l0 l2 l3 ok hn r_v0 h; cases h
  | succ f hr36 =>
    intro v0 v2 v3 lv hp v hp' l0 l2 l3 ok hn r_v0 h
    unfold m208_36 at h
    refine Rn.iload_n n208_36 l3 ?_
    refine Rn.aload_n n208_37 l0 ?_
    obtain ⟨x1, hx1, h⟩ := Option.bind_eq_some_iff.mp h
    refine Rn.gf n208_38 mo208 fl11_292 (gfi_v hx1) ?_
    by_cases hc2 : mc2 .ge v3 x1 = true
    · rw [if_pos hc2] at h
      refine Rn.c2t (t := 126) n208_41 (by decide) hc2 ?_
      refine Rn.iload_n n208_126 l2 ?_
      have e1 := (Prod.mk.inj (Option.some.inj h)).1
      have e2 := (Prod.mk.inj (Option.some.inj h)).2
      subst e1
      subst e2
      exact Rn.iret n208_127 mr208
    · rw [if_neg hc2] at h
      refine Rn.c2f (t := 126) n208_41 (by decide) hc2 ?_
      refine Rn.aload_n n208_44 l0 ?_
      obtain ⟨x3, hx3, h⟩ := Option.bind_eq_some_iff.mp h
      refine Rn.gf n208_45 mo208 fl11_98 (gfr_v hx3).1 ?_
      have r_x3 : x3 < n := by rw [← hn]; exact (gfr_v hx3).2
      refine Rn.bp (v := 9) n208_48 (by decide) ?_
      refine Rn.iload_n n208_50 l3 ?_
      refine Rn.p n208_51 rfl ?_
      obtain ⟨x4, hx4, h⟩ := Option.bind_eq_some_iff.mp h
      refine Rn.iald n208_52 hx4 ?_
      refine Rn.ic (v := 1) n208_53 (by decide) ?_
      by_cases hc5 : mc2 .ne x4 1 = true
      · rw [if_pos hc5] at h
        refine Rn.c2t (t := 61) n208_54 (by decide) hc5 ?_
        refine Rn.ic (v := 0) n208_61 (by decide) ?_
        exact t208_62 hd F hr36 _ _ _ _ lv _ _ _ l0 l2 l3 ok hn r_v0  h
      · rw [if_neg hc5] at h
        refine Rn.c2f (t := 61) n208_54 (by decide) hc5 ?_
        refine Rn.ic (v := 1) n208_57 (by decide) ?_
        refine Rn.goto (t := 62) n208_58 (by decide) ?_
        exact t208_62 hd F hr36 _ _ _ _ lv _ _ _ l0 l2 l3 ok hn r_v0  h
def m208_0 (F : Nat) (v0 : Nat) (v1 : Int32) (hp : List mE) : Option (Int32 × List mE) :=
  (rcv 11 hp v0).bind fun u2 =>
  (e160 F v0 v1 hp).bind fun q1 =>
  if mc1 .ne q1.1 = true then
    (gfr 11 17 q1.2 v0).bind fun x4 =>
    (rdI q1.2 x4 v1).bind fun x5 =>
    if mc2 .le x5 8 = true then
      (rcv 11 q1.2 v0).bind fun u8 =>
      (e203 F v0 v1 q1.2).bind fun q7 =>
      m208_36 F F v0 0 0 q7.2
    else
      some ((-1005), q1.2)
  else
    some ((-1001), q1.2)
theorem t208_0 {d c w n : Nat} (hd : 4 ≤ d) (F : Nat) : ∀ (v0 : Nat) (v1 : Int32) (lv : List (Nat × Value)) (hp : List mE) (v : Int32) (hp' : List mE), alk 0 lv = some (.ref v0) → alk 1 lv = some (.int v1) → lvk n lv → hp.length = n → v0 < n → m208_0 F v0 v1 hp = some (v, hp') → Rn d 208 0 lv [] hp c w (some (.int v), hp', c, w) := by
  obtain ⟨d', rfl⟩ : ∃ d', d = d' + 1 := ⟨d - 1, by omega⟩
  intro v0 v1 lv hp v hp' l0 l1 ok hn r_v0 h
  unfold m208_0 at h
  refine Rn.aload_n n208_0 l0 ?_
  refine Rn.iload_n n208_1 l1 ?_
  obtain ⟨u2, hu2, h⟩ := Option.bind_eq_some_iff.mp h
  obtain ⟨q1, hq1, h⟩ := Option.bind_eq_some_iff.mp h
  have gq1 := c160 (d := d') (by omega) F _ _ _ _ _ (by rw [hn]; exact r_v0) hq1
  refine Rn.cv (As := [.int v1]) (rr := []) n208_2 mo208 mm11_222 (by decide) mq160 rfl rfl rfl rfl (by rw [mo160]; exact hu2) (Nat.le_of_ble_eq_true rfl) (by rw [hn]; exact (okc (okr r_v0) (okc rfl okn))) (by rw [hn]; exact okn) (by rw [hn]; exact ok) (by rw [ml160]; exact Nat.le_of_ble_eq_true rfl) gq1 ?_
  have hn := (Rn.len gq1).trans hn
  show Rn _ 208 5 lv [.int q1.1] q1.2 c w _
  by_cases hc3 : mc1 .ne q1.1 = true
  · rw [if_pos hc3] at h
    refine Rn.c1t (t := 12) n208_5 (by decide) hc3 ?_
    refine Rn.aload_n n208_12 l0 ?_
    obtain ⟨x4, hx4, h⟩ := Option.bind_eq_some_iff.mp h
    refine Rn.gf n208_13 mo208 fl11_40 (gfr_v hx4).1 ?_
    have r_x4 : x4 < n := by rw [← hn]; exact (gfr_v hx4).2
    refine Rn.iload_n n208_16 l1 ?_
    obtain ⟨x5, hx5, h⟩ := Option.bind_eq_some_iff.mp h
    refine Rn.iald n208_17 hx5 ?_
    refine Rn.bp (v := 8) n208_18 (by decide) ?_
    by_cases hc6 : mc2 .le x5 8 = true
    · rw [if_pos hc6] at h
      refine Rn.c2t (t := 27) n208_20 (by decide) hc6 ?_
      refine Rn.aload_n n208_27 l0 ?_
      refine Rn.iload_n n208_28 l1 ?_
      obtain ⟨u8, hu8, h⟩ := Option.bind_eq_some_iff.mp h
      obtain ⟨q7, hq7, h⟩ := Option.bind_eq_some_iff.mp h
      have gq7 := c203 (d := d') (by omega) F _ _ _ _ _ (by rw [hn]; exact r_v0) hq7
      refine Rn.cv (As := [.int v1]) (rr := []) n208_29 mo208 mm11_314 (by decide) mq203 rfl rfl rfl rfl (by rw [mo203]; exact hu8) (Nat.le_of_ble_eq_true rfl) (by rw [hn]; exact (okc (okr r_v0) (okc rfl okn))) (by rw [hn]; exact okn) (by rw [hn]; exact ok) (by rw [ml203]; exact Nat.le_of_ble_eq_true rfl) gq7 ?_
      have hn := (Rn.len gq7).trans hn
      show Rn _ 208 32 lv [] q7.2 c w _
      refine Rn.ic (v := 0) n208_32 (by decide) ?_
      refine Rn.isn (m := n) n208_33 rfl ml208 (by decide) (fun lv l2 hk hok => ?_)
      have l0 := hk 0 _ (by decide) (Or.inl rfl) l0
      have l1 := hk 1 _ (by decide) (Or.inl rfl) l1
      have ok := hok ok
      refine Rn.ic (v := 0) n208_34 (by decide) ?_
      refine Rn.isn (m := n) n208_35 rfl ml208 (by decide) (fun lv l3 hk hok => ?_)
      have l0 := hk 0 _ (by decide) (Or.inl rfl) l0
      have l1 := hk 1 _ (by decide) (Or.inl rfl) l1
      have l2 := hk 2 _ (by decide) (Or.inl rfl) l2
      have ok := hok ok
      exact t208_36 hd F  F _ _ _ lv _ _ _ l0 l2 l3 ok hn r_v0  h
    · rw [if_neg hc6] at h
      refine Rn.c2f (t := 27) n208_20 (by decide) hc6 ?_
      refine Rn.sp (v := (-1005)) n208_23 (by decide) ?_
      have e1 := (Prod.mk.inj (Option.some.inj h)).1
      have e2 := (Prod.mk.inj (Option.some.inj h)).2
      subst e1
      subst e2
      exact Rn.iret n208_26 mr208
  · rw [if_neg hc3] at h
    refine Rn.c1f (t := 12) n208_5 (by decide) hc3 ?_
    refine Rn.sp (v := (-1001)) n208_8 (by decide) ?_
    have e1 := (Prod.mk.inj (Option.some.inj h)).1
    have e2 := (Prod.mk.inj (Option.some.inj h)).2
    subst e1
    subst e2
    exact Rn.iret n208_11 mr208
def e208 (F : Nat) (a0 : Nat) (a1 : Int32) (hp : List mE) : Option (Int32 × List mE) := m208_0 F a0 a1 hp
theorem c208 {d : Nat} (hd : 4 ≤ d) (F : Nat) (a0 : Nat) (a1 : Int32) (hp : List mE) (v : Int32) (hp' : List mE) (ra0 : a0 < hp.length) (h : e208 F a0 a1 hp = some (v, hp')) : Rn d 208 0 (lv_args 0 [.ref a0, .int a1]) [] hp 0 0 (some (.int v), hp', 0, 0) :=
  t208_0 (n := hp.length) hd F a0 a1 (lv_args 0 [.ref a0, .int a1]) hp v hp' rfl rfl (lvk_args (okc (okr ra0) (okc rfl okn))) rfl ra0 h
