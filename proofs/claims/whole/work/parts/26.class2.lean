/-! MirrorRoots$Ideal.fill -/
def m10_197 (F : Nat) (self : Nat → Int32 → Int32 → List mE → Option (Unit × List mE)) (rc135 : Nat → Int32 → Int32 → Int32 → Int32 → Int32 → List mE → Option (Unit × List mE)) (v0 : Nat) (v1 : Int32) (v2 : Int32) (v3 : Int32) (v4 : Int32) (v5 : Int32) (hp : List mE) : Option (Unit × List mE) :=
  rc135 v0 v1 v2 v3 v4 (v5 + 1) hp
theorem t10_197 {d c w n : Nat} (hd : 5 ≤ d) (F : Nat) {self : Nat → Int32 → Int32 → List mE → Option (Unit × List mE)} {rc135 : Nat → Int32 → Int32 → Int32 → Int32 → Int32 → List mE → Option (Unit × List mE)} (hself : ∀ d', d = d' + 1 → ∀ (a0 : Nat) (a1 : Int32) (a2 : Int32) (hp : List mE) (v : Unit) (hp' : List mE), a0 < hp.length → self a0 a1 a2 hp = some (v, hp') → Rn d' 10 0 (lv_args 0 [.ref a0, .int a1, .int a2]) [] hp 0 0 (none, hp', 0, 0)) (hr135 : ∀ (v0 : Nat) (v1 : Int32) (v2 : Int32) (v3 : Int32) (v4 : Int32) (v5 : Int32) (lv : List (Nat × Value)) (hp : List mE) (v : Unit) (hp' : List mE), alk 0 lv = some (.ref v0) → alk 1 lv = some (.int v1) → alk 2 lv = some (.int v2) → alk 3 lv = some (.int v3) → alk 4 lv = some (.int v4) → alk 5 lv = some (.int v5) → lvk n lv → hp.length = n → v0 < n → rc135 v0 v1 v2 v3 v4 v5 hp = some (v, hp') → Rn d 10 135 lv [] hp c w (none, hp', c, w)) : ∀ (v0 : Nat) (v1 : Int32) (v2 : Int32) (v3 : Int32) (v4 : Int32) (v5 : Int32) (lv : List (Nat × Value)) (hp : List mE) (v : Unit) (hp' : List mE), alk 0 lv = some (.ref v0) → alk 1 lv = some (.int v1) → alk 2 lv = some (.int v2) → alk 3 lv = some (.int v3) → alk 4 lv = some (.int v4) → alk 5 lv = some (.int v5) → lvk n lv → hp.length = n → v0 < n → m10_197 F self rc135 v0 v1 v2 v3 v4 v5 hp = some (v, hp') → Rn d 10 197 lv [] hp c w (none, hp', c, w) := by
  obtain ⟨d', rfl⟩ : ∃ d', d = d' + 1 := ⟨d - 1, by omega⟩
  intro v0 v1 v2 v3 v4 v5 lv hp v hp' l0 l1 l2 l3 l4 l5 ok hn r_v0 h
  unfold m10_197 at h
  refine Rn.ii (m := n) (u := 1) n10_197 ml10 (by decide) (by decide) l5 (fun lv l5 hk hok => ?_)
  have l0 := hk 0 _ (by decide) (Or.inl rfl) l0
  have l1 := hk 1 _ (by decide) (Or.inl rfl) l1
  have l2 := hk 2 _ (by decide) (Or.inl rfl) l2
  have l3 := hk 3 _ (by decide) (Or.inl rfl) l3
  have l4 := hk 4 _ (by decide) (Or.inl rfl) l4
  have ok := hok ok
  refine Rn.goto (t := 135) n10_200 (by decide) ?_
  exact hr135 _ _ _ _ _ _ lv _ _ _ l0 l1 l2 l3 l4 l5 ok hn r_v0  h
def m10_172 (F : Nat) (self : Nat → Int32 → Int32 → List mE → Option (Unit × List mE)) (rc135 : Nat → Int32 → Int32 → Int32 → Int32 → Int32 → List mE → Option (Unit × List mE)) (v0 : Nat) (v1 : Int32) (v2 : Int32) (v3 : Int32) (v4 : Int32) (v5 : Int32) (t0 : Int32) (hp : List mE) : Option (Unit × List mE) :=
  if mc1 .eq t0 = true then
    m10_197 F self rc135 v0 v1 v2 v3 v4 v5 hp
  else
    (self v0 v5 (v2 - 1) hp).bind fun q2 =>
    (rcv 0 q2.2 v0).bind fun u4 =>
    (e13 F v0 v1 v5 t0 q2.2).bind fun q3 =>
    m10_197 F self rc135 v0 v1 v2 v3 v4 v5 q3.2
theorem t10_172 {d c w n : Nat} (hd : 5 ≤ d) (F : Nat) {self : Nat → Int32 → Int32 → List mE → Option (Unit × List mE)} {rc135 : Nat → Int32 → Int32 → Int32 → Int32 → Int32 → List mE → Option (Unit × List mE)} (hself : ∀ d', d = d' + 1 → ∀ (a0 : Nat) (a1 : Int32) (a2 : Int32) (hp : List mE) (v : Unit) (hp' : List mE), a0 < hp.length → self a0 a1 a2 hp = some (v, hp') → Rn d' 10 0 (lv_args 0 [.ref a0, .int a1, .int a2]) [] hp 0 0 (none, hp', 0, 0)) (hr135 : ∀ (v0 : Nat) (v1 : Int32) (v2 : Int32) (v3 : Int32) (v4 : Int32) (v5 : Int32) (lv : List (Nat × Value)) (hp : List mE) (v : Unit) (hp' : List mE), alk 0 lv = some (.ref v0) → alk 1 lv = some (.int v1) → alk 2 lv = some (.int v2) → alk 3 lv = some (.int v3) → alk 4 lv = some (.int v4) → alk 5 lv = some (.int v5) → lvk n lv → hp.length = n → v0 < n → rc135 v0 v1 v2 v3 v4 v5 hp = some (v, hp') → Rn d 10 135 lv [] hp c w (none, hp', c, w)) : ∀ (v0 : Nat) (v1 : Int32) (v2 : Int32) (v3 : Int32) (v4 : Int32) (v5 : Int32) (t0 : Int32) (lv : List (Nat × Value)) (hp : List mE) (v : Unit) (hp' : List mE), alk 0 lv = some (.ref v0) → alk 1 lv = some (.int v1) → alk 2 lv = some (.int v2) → alk 3 lv = some (.int v3) → alk 4 lv = some (.int v4) → alk 5 lv = some (.int v5) → lvk n lv → hp.length = n → v0 < n → m10_172 F self rc135 v0 v1 v2 v3 v4 v5 t0 hp = some (v, hp') → Rn d 10 172 lv [.int t0] hp c w (none, hp', c, w) := by
  obtain ⟨d', rfl⟩ : ∃ d', d = d' + 1 := ⟨d - 1, by omega⟩
  intro v0 v1 v2 v3 v4 v5 t0 lv hp v hp' l0 l1 l2 l3 l4 l5 ok hn r_v0 h
  unfold m10_172 at h
  refine Rn.is (m := n) n10_172 ml10 (by decide) (fun lv l6 hk hok => ?_)
  have l0 := hk 0 _ (by decide) (Or.inl rfl) l0
  have l1 := hk 1 _ (by decide) (Or.inl rfl) l1
  have l2 := hk 2 _ (by decide) (Or.inl rfl) l2
  have l3 := hk 3 _ (by decide) (Or.inl rfl) l3
  have l4 := hk 4 _ (by decide) (Or.inl rfl) l4
  have l5 := hk 5 _ (by decide) (Or.inl rfl) l5
  have ok := hok ok
  refine Rn.iload n10_174 l6 ?_
  by_cases hc1 : mc1 .eq t0 = true
  · rw [if_pos hc1] at h
    refine Rn.c1t (t := 197) n10_176 (by decide) hc1 ?_
    exact t10_197 hd F hself hr135 _ _ _ _ _ _ lv _ _ _ l0 l1 l2 l3 l4 l5 ok hn r_v0  h
  · rw [if_neg hc1] at h
    refine Rn.c1f (t := 197) n10_176 (by decide) hc1 ?_
    refine Rn.aload_n n10_179 l0 ?_
    refine Rn.iload n10_180 l5 ?_
    refine Rn.iload_n n10_182 l2 ?_
    refine Rn.ic (v := 1) n10_183 (by decide) ?_
    refine Rn.p n10_184 rfl ?_
    obtain ⟨q2, hq2, h⟩ := Option.bind_eq_some_iff.mp h
    have gq2 := hself d' rfl _ _ _ _ _ _ (by rw [hn]; exact r_v0) hq2
    refine Rn.cs (as := [.ref v0, .int v5, .int (v2 - 1)]) (rr := []) n10_185 mo10 mm0_77 mq10 rfl rfl rfl rfl (Nat.le_of_ble_eq_true rfl) (by rw [hn]; exact (okc (okr r_v0) (okc rfl (okc rfl okn)))) (by rw [hn]; exact okn) (by rw [hn]; exact ok) (by rw [ml10]; exact Nat.le_of_ble_eq_true rfl) gq2 ?_
    have hn := (Rn.len gq2).trans hn
    show Rn _ 10 188 lv [] q2.2 c w _
    refine Rn.aload_n n10_188 l0 ?_
    refine Rn.iload_n n10_189 l1 ?_
    refine Rn.iload n10_190 l5 ?_
    refine Rn.iload n10_192 l6 ?_
    obtain ⟨u4, hu4, h⟩ := Option.bind_eq_some_iff.mp h
    obtain ⟨q3, hq3, h⟩ := Option.bind_eq_some_iff.mp h
    have gq3 := c13 (d := d') (by omega) F _ _ _ _ _ _ _ (by rw [hn]; exact r_v0) hq3
    refine Rn.cv (As := [.int v1, .int v5, .int t0]) (rr := []) n10_194 mo10 mm0_136 (by decide) mq13 rfl rfl rfl rfl (by rw [mo13]; exact hu4) (Nat.le_of_ble_eq_true rfl) (by rw [hn]; exact (okc (okr r_v0) (okc rfl (okc rfl (okc rfl okn))))) (by rw [hn]; exact okn) (by rw [hn]; exact ok) (by rw [ml13]; exact Nat.le_of_ble_eq_true rfl) gq3 ?_
    have hn := (Rn.len gq3).trans hn
    show Rn _ 10 197 lv [] q3.2 c w _
    exact t10_197 hd F hself hr135 _ _ _ _ _ _ lv _ _ _ l0 l1 l2 l3 l4 l5 ok hn r_v0  h
def m10_135 (F : Nat) (self : Nat → Int32 → Int32 → List mE → Option (Unit × List mE)) : Nat → Nat → Int32 → Int32 → Int32 → Int32 → Int32 → List mE → Option (Unit × List mE)
  | 0, _, _, _, _, _, _, _ => none
  | f + 1, v0, v1, v2, v3, v4, v5, hp =>
    (gfr 0 2 hp v0).bind fun x1 =>
    (gfi 6 2 hp x1).bind fun x2 =>
    if mc2 .ge v5 x2 = true then
      some ((), hp)
    else
      (gfr 0 2 hp v0).bind fun x4 =>
      (rcv 6 hp x4).bind fun u6 =>
      (e61 F x4 v5 v3 hp).bind fun q5 =>
      if mc1 .eq q5.1 = true then
        m10_172 F self (m10_135 F self f) v0 v1 v2 v3 v4 v5 0 q5.2
      else
        (rcv 0 q5.2 v0).bind fun u9 =>
        (e12 F v0 v5 v4 q5.2).bind fun q8 =>
        m10_172 F self (m10_135 F self f) v0 v1 v2 v3 v4 v5 q8.1 q8.2
theorem t10_135 {d c w n : Nat} (hd : 5 ≤ d) (F : Nat) {self : Nat → Int32 → Int32 → List mE → Option (Unit × List mE)} (hself : ∀ d', d = d' + 1 → ∀ (a0 : Nat) (a1 : Int32) (a2 : Int32) (hp : List mE) (v : Unit) (hp' : List mE), a0 < hp.length → self a0 a1 a2 hp = some (v, hp') → Rn d' 10 0 (lv_args 0 [.ref a0, .int a1, .int a2]) [] hp 0 0 (none, hp', 0, 0)) : ∀ f : Nat, ∀ (v0 : Nat) (v1 : Int32) (v2 : Int32) (v3 : Int32) (v4 : Int32) (v5 : Int32) (lv : List (Nat × Value)) (hp : List mE) (v : Unit) (hp' : List mE), alk 0 lv = some (.ref v0) → alk 1 lv = some (.int v1) → alk 2 lv = some (.int v2) → alk 3 lv = some (.int v3) → alk 4 lv = some (.int v4) → alk 5 lv = some (.int v5) → lvk n lv → hp.length = n → v0 < n → m10_135 F self f v0 v1 v2 v3 v4 v5 hp = some (v, hp') → Rn d 10 135 lv [] hp c w (none, hp', c, w) := by
  obtain ⟨d', rfl⟩ : ∃ d', d = d' + 1 := ⟨d - 1, by omega⟩
  intro f
  induction f with
  | zero => intro v0 v1 v2 v3 v4 v5 lv hp v hp' l0 l1 l2 l3 l4 l5 ok hn r_v0 h; cases h
  | succ f hr135 =>
    intro v0 v1 v2 v3 v4 v5 lv hp v hp' l0 l1 l2 l3 l4 l5 ok hn r_v0 h
    unfold m10_135 at h
    refine Rn.iload n10_135 l5 ?_
    refine Rn.aload_n n10_137 l0 ?_
    obtain ⟨x1, hx1, h⟩ := Option.bind_eq_some_iff.mp h
    refine Rn.gf n10_138 mo10 fl0_44 (gfr_v hx1).1 ?_
    have r_x1 : x1 < n := by rw [← hn]; exact (gfr_v hx1).2
    obtain ⟨x2, hx2, h⟩ := Option.bind_eq_some_iff.mp h
    refine Rn.gf n10_141 mo10 fl0_70 (gfi_v hx2) ?_
    by_cases hc3 : mc2 .ge v5 x2 = true
    · rw [if_pos hc3] at h
      refine Rn.c2t (t := 203) n10_144 (by decide) hc3 ?_
      have e1 := (Prod.mk.inj (Option.some.inj h)).1
      have e2 := (Prod.mk.inj (Option.some.inj h)).2
      subst e1
      subst e2
      exact Rn.vret n10_203 mr10
    · rw [if_neg hc3] at h
      refine Rn.c2f (t := 203) n10_144 (by decide) hc3 ?_
      refine Rn.aload_n n10_147 l0 ?_
      obtain ⟨x4, hx4, h⟩ := Option.bind_eq_some_iff.mp h
      refine Rn.gf n10_148 mo10 fl0_44 (gfr_v hx4).1 ?_
      have r_x4 : x4 < n := by rw [← hn]; exact (gfr_v hx4).2
      refine Rn.iload n10_151 l5 ?_
      refine Rn.iload_n n10_153 l3 ?_
      obtain ⟨u6, hu6, h⟩ := Option.bind_eq_some_iff.mp h
      obtain ⟨q5, hq5, h⟩ := Option.bind_eq_some_iff.mp h
      have gq5 := c61 (d := d') (by omega) F _ _ _ _ _ _ (by rw [hn]; exact r_x4) hq5
      refine Rn.cv (As := [.int v5, .int v3]) (rr := []) n10_154 mo10 mm0_114 (by decide) mq61 rfl rfl rfl rfl (by rw [mo61]; exact hu6) (Nat.le_of_ble_eq_true rfl) (by rw [hn]; exact (okc (okr r_x4) (okc rfl (okc rfl okn)))) (by rw [hn]; exact okn) (by rw [hn]; exact ok) (by rw [ml61]; exact Nat.le_of_ble_eq_true rfl) gq5 ?_
      have hn := (Rn.len gq5).trans hn
      show Rn _ 10 157 lv [.int q5.1] q5.2 c w _
      by_cases hc7 : mc1 .eq q5.1 = true
      · rw [if_pos hc7] at h
        refine Rn.c1t (t := 171) n10_157 (by decide) hc7 ?_
        refine Rn.ic (v := 0) n10_171 (by decide) ?_
        exact t10_172 hd F hself hr135 _ _ _ _ _ _ _ lv _ _ _ l0 l1 l2 l3 l4 l5 ok hn r_v0  h
      · rw [if_neg hc7] at h
        refine Rn.c1f (t := 171) n10_157 (by decide) hc7 ?_
        refine Rn.aload_n n10_160 l0 ?_
        refine Rn.iload n10_161 l5 ?_
        refine Rn.iload n10_163 l4 ?_
        obtain ⟨u9, hu9, h⟩ := Option.bind_eq_some_iff.mp h
        obtain ⟨q8, hq8, h⟩ := Option.bind_eq_some_iff.mp h
        have gq8 := c12 (d := d') (by omega) F _ _ _ _ _ _ (by rw [hn]; exact r_v0) hq8
        refine Rn.cv (As := [.int v5, .int v4]) (rr := []) n10_165 mo10 mm0_133 (by decide) mq12 rfl rfl rfl rfl (by rw [mo12]; exact hu9) (Nat.le_of_ble_eq_true rfl) (by rw [hn]; exact (okc (okr r_v0) (okc rfl (okc rfl okn)))) (by rw [hn]; exact okn) (by rw [hn]; exact ok) (by rw [ml12]; exact Nat.le_of_ble_eq_true rfl) gq8 ?_
        have hn := (Rn.len gq8).trans hn
        show Rn _ 10 168 lv [.int q8.1] q8.2 c w _
        refine Rn.goto (t := 172) n10_168 (by decide) ?_
        exact t10_172 hd F hself hr135 _ _ _ _ _ _ _ lv _ _ _ l0 l1 l2 l3 l4 l5 ok hn r_v0  h
def m10_107 (F : Nat) (self : Nat → Int32 → Int32 → List mE → Option (Unit × List mE)) (rc72 : Nat → Int32 → Int32 → List mE → Option (Unit × List mE)) (v0 : Nat) (v1 : Int32) (v5 : Int32) (t0 : Nat) (t1 : Int32) (t2 : Int64) (hp : List mE) : Option (Unit × List mE) :=
  (wrJ hp t0 t1 t2).bind fun hp1 =>
  rc72 v0 v1 (v5 + 1) hp1
theorem t10_107 {d c w n : Nat} (hd : 5 ≤ d) (F : Nat) {self : Nat → Int32 → Int32 → List mE → Option (Unit × List mE)} {rc72 : Nat → Int32 → Int32 → List mE → Option (Unit × List mE)} (hself : ∀ d', d = d' + 1 → ∀ (a0 : Nat) (a1 : Int32) (a2 : Int32) (hp : List mE) (v : Unit) (hp' : List mE), a0 < hp.length → self a0 a1 a2 hp = some (v, hp') → Rn d' 10 0 (lv_args 0 [.ref a0, .int a1, .int a2]) [] hp 0 0 (none, hp', 0, 0)) (hr72 : ∀ (v0 : Nat) (v1 : Int32) (v5 : Int32) (lv : List (Nat × Value)) (hp : List mE) (v : Unit) (hp' : List mE), alk 0 lv = some (.ref v0) → alk 1 lv = some (.int v1) → alk 5 lv = some (.int v5) → lvk n lv → hp.length = n → v0 < n → rc72 v0 v1 v5 hp = some (v, hp') → Rn d 10 72 lv [] hp c w (none, hp', c, w)) : ∀ (v0 : Nat) (v1 : Int32) (v5 : Int32) (t0 : Nat) (t1 : Int32) (t2 : Int64) (lv : List (Nat × Value)) (hp : List mE) (v : Unit) (hp' : List mE), alk 0 lv = some (.ref v0) → alk 1 lv = some (.int v1) → alk 5 lv = some (.int v5) → lvk n lv → hp.length = n → v0 < n → t0 < n → m10_107 F self rc72 v0 v1 v5 t0 t1 t2 hp = some (v, hp') → Rn d 10 107 lv [.long t2, .int t1, .ref t0] hp c w (none, hp', c, w) := by
  obtain ⟨d', rfl⟩ : ∃ d', d = d' + 1 := ⟨d - 1, by omega⟩
  intro v0 v1 v5 t0 t1 t2 lv hp v hp' l0 l1 l5 ok hn r_v0 r_t0 h
  unfold m10_107 at h
  obtain ⟨hp1, hhp1, h⟩ := Option.bind_eq_some_iff.mp h
  refine Rn.last n10_107 hhp1 ?_
  have hn := (wrJ_st (st := []) hhp1).2.trans hn
  refine Rn.ii (m := n) (u := 1) n10_108 ml10 (by decide) (by decide) l5 (fun lv l5 hk hok => ?_)
  have l0 := hk 0 _ (by decide) (Or.inl rfl) l0
  have l1 := hk 1 _ (by decide) (Or.inl rfl) l1
  have ok := hok ok
  refine Rn.goto (t := 72) n10_111 (by decide) ?_
  exact hr72 _ _ _ lv _ _ _ l0 l1 l5 ok hn r_v0  h
def m10_72 (F : Nat) (self : Nat → Int32 → Int32 → List mE → Option (Unit × List mE)) : Nat → Nat → Int32 → Int32 → List mE → Option (Unit × List mE)
  | 0, _, _, _, _ => none
  | f + 1, v0, v1, v5, hp =>
    (gfr 0 2 hp v0).bind fun x1 =>
    (gfi 6 2 hp x1).bind fun x2 =>
    if mc2 .ge v5 x2 = true then
      some ((), hp)
    else
      (gfr 0 5 hp v0).bind fun x4 =>
      if mc2 .ne v5 v1 = true then
        m10_107 F self (m10_72 F self f) v0 v1 v5 x4 ((v1 * 256) + v5) 0 hp
      else
        m10_107 F self (m10_72 F self f) v0 v1 v5 x4 ((v1 * 256) + v5) 1 hp
theorem t10_72 {d c w n : Nat} (hd : 5 ≤ d) (F : Nat) {self : Nat → Int32 → Int32 → List mE → Option (Unit × List mE)} (hself : ∀ d', d = d' + 1 → ∀ (a0 : Nat) (a1 : Int32) (a2 : Int32) (hp : List mE) (v : Unit) (hp' : List mE), a0 < hp.length → self a0 a1 a2 hp = some (v, hp') → Rn d' 10 0 (lv_args 0 [.ref a0, .int a1, .int a2]) [] hp 0 0 (none, hp', 0, 0)) : ∀ f : Nat, ∀ (v0 : Nat) (v1 : Int32) (v5 : Int32) (lv : List (Nat × Value)) (hp : List mE) (v : Unit) (hp' : List mE), alk 0 lv = some (.ref v0) → alk 1 lv = some (.int v1) → alk 5 lv = some (.int v5) → lvk n lv → hp.length = n → v0 < n → m10_72 F self f v0 v1 v5 hp = some (v, hp') → Rn d 10 72 lv [] hp c w (none, hp', c, w) := by
  obtain ⟨d', rfl⟩ : ∃ d', d = d' + 1 := ⟨d - 1, by omega⟩
  intro f
  induction f with
  | zero => intro v0 v1 v5 lv hp v hp' l0 l1 l5 ok hn r_v0 h; cases h
  | succ f hr72 =>
    intro v0 v1 v5 lv hp v hp' l0 l1 l5 ok hn r_v0 h
    unfold m10_72 at h
    refine Rn.iload n10_72 l5 ?_
    refine Rn.aload_n n10_74 l0 ?_
    obtain ⟨x1, hx1, h⟩ := Option.bind_eq_some_iff.mp h
    refine Rn.gf n10_75 mo10 fl0_44 (gfr_v hx1).1 ?_
    have r_x1 : x1 < n := by rw [← hn]; exact (gfr_v hx1).2
    obtain ⟨x2, hx2, h⟩ := Option.bind_eq_some_iff.mp h
    refine Rn.gf n10_78 mo10 fl0_70 (gfi_v hx2) ?_
    by_cases hc3 : mc2 .ge v5 x2 = true
    · rw [if_pos hc3] at h
      refine Rn.c2t (t := 114) n10_81 (by decide) hc3 ?_
      have e1 := (Prod.mk.inj (Option.some.inj h)).1
      have e2 := (Prod.mk.inj (Option.some.inj h)).2
      subst e1
      subst e2
      exact Rn.vret n10_114 mr10
    · rw [if_neg hc3] at h
      refine Rn.c2f (t := 114) n10_81 (by decide) hc3 ?_
      refine Rn.aload_n n10_84 l0 ?_
      obtain ⟨x4, hx4, h⟩ := Option.bind_eq_some_iff.mp h
      refine Rn.gf n10_85 mo10 fl0_20 (gfr_v hx4).1 ?_
      have r_x4 : x4 < n := by rw [← hn]; exact (gfr_v hx4).2
      refine Rn.iload_n n10_88 l1 ?_
      refine Rn.sp (v := 256) n10_89 (by decide) ?_
      refine Rn.p n10_92 rfl ?_
      refine Rn.iload n10_93 l5 ?_
      refine Rn.p n10_95 rfl ?_
      refine Rn.iload n10_96 l5 ?_
      refine Rn.iload_n n10_98 l1 ?_
      by_cases hc5 : mc2 .ne v5 v1 = true
      · rw [if_pos hc5] at h
        refine Rn.c2t (t := 106) n10_99 (by decide) hc5 ?_
        refine Rn.lc (v := 0) n10_106 (by decide) ?_
        exact t10_107 hd F hself hr72 _ _ _ _ _ _ lv _ _ _ l0 l1 l5 ok hn r_v0 r_x4 h
      · rw [if_neg hc5] at h
        refine Rn.c2f (t := 106) n10_99 (by decide) hc5 ?_
        refine Rn.lc (v := 1) n10_102 (by decide) ?_
        refine Rn.goto (t := 107) n10_103 (by decide) ?_
        exact t10_107 hd F hself hr72 _ _ _ _ _ _ lv _ _ _ l0 l1 l5 ok hn r_v0 r_x4 h
def m10_61 (F : Nat) (self : Nat → Int32 → Int32 → List mE → Option (Unit × List mE)) (v0 : Nat) (v1 : Int32) (v2 : Int32) (v3 : Int32) (t0 : Int32) (hp : List mE) : Option (Unit × List mE) :=
  if mc2 .ne t0 ((-1)) = true then
    (self v0 t0 (v2 - 1) hp).bind fun q2 =>
    (rcv 0 q2.2 v0).bind fun u4 =>
    (e11 F v0 v1 t0 v3 q2.2).bind fun q3 =>
    m10_135 F self F v0 v1 v2 v3 t0 0 q3.2
  else
    m10_72 F self F v0 v1 0 hp
theorem t10_61 {d c w n : Nat} (hd : 5 ≤ d) (F : Nat) {self : Nat → Int32 → Int32 → List mE → Option (Unit × List mE)} (hself : ∀ d', d = d' + 1 → ∀ (a0 : Nat) (a1 : Int32) (a2 : Int32) (hp : List mE) (v : Unit) (hp' : List mE), a0 < hp.length → self a0 a1 a2 hp = some (v, hp') → Rn d' 10 0 (lv_args 0 [.ref a0, .int a1, .int a2]) [] hp 0 0 (none, hp', 0, 0)) : ∀ (v0 : Nat) (v1 : Int32) (v2 : Int32) (v3 : Int32) (t0 : Int32) (lv : List (Nat × Value)) (hp : List mE) (v : Unit) (hp' : List mE), alk 0 lv = some (.ref v0) → alk 1 lv = some (.int v1) → alk 2 lv = some (.int v2) → alk 3 lv = some (.int v3) → lvk n lv → hp.length = n → v0 < n → m10_61 F self v0 v1 v2 v3 t0 hp = some (v, hp') → Rn d 10 61 lv [.int t0] hp c w (none, hp', c, w) := by
  obtain ⟨d', rfl⟩ : ∃ d', d = d' + 1 := ⟨d - 1, by omega⟩
  intro v0 v1 v2 v3 t0 lv hp v hp' l0 l1 l2 l3 ok hn r_v0 h
  unfold m10_61 at h
  refine Rn.is (m := n) n10_61 ml10 (by decide) (fun lv l4 hk hok => ?_)
  have l0 := hk 0 _ (by decide) (Or.inl rfl) l0
  have l1 := hk 1 _ (by decide) (Or.inl rfl) l1
  have l2 := hk 2 _ (by decide) (Or.inl rfl) l2
  have l3 := hk 3 _ (by decide) (Or.inl rfl) l3
  have ok := hok ok
  refine Rn.iload n10_63 l4 ?_
  refine Rn.ic (v := (-1)) n10_65 (by decide) ?_
  by_cases hc1 : mc2 .ne t0 ((-1)) = true
  · rw [if_pos hc1] at h
    refine Rn.c2t (t := 115) n10_66 (by decide) hc1 ?_
    refine Rn.aload_n n10_115 l0 ?_
    refine Rn.iload n10_116 l4 ?_
    refine Rn.iload_n n10_118 l2 ?_
    refine Rn.ic (v := 1) n10_119 (by decide) ?_
    refine Rn.p n10_120 rfl ?_
    obtain ⟨q2, hq2, h⟩ := Option.bind_eq_some_iff.mp h
    have gq2 := hself d' rfl _ _ _ _ _ _ (by rw [hn]; exact r_v0) hq2
    refine Rn.cs (as := [.ref v0, .int t0, .int (v2 - 1)]) (rr := []) n10_121 mo10 mm0_77 mq10 rfl rfl rfl rfl (Nat.le_of_ble_eq_true rfl) (by rw [hn]; exact (okc (okr r_v0) (okc rfl (okc rfl okn)))) (by rw [hn]; exact okn) (by rw [hn]; exact ok) (by rw [ml10]; exact Nat.le_of_ble_eq_true rfl) gq2 ?_
    have hn := (Rn.len gq2).trans hn
    show Rn _ 10 124 lv [] q2.2 c w _
    refine Rn.aload_n n10_124 l0 ?_
    refine Rn.iload_n n10_125 l1 ?_
    refine Rn.iload n10_126 l4 ?_
    refine Rn.iload_n n10_128 l3 ?_
    obtain ⟨u4, hu4, h⟩ := Option.bind_eq_some_iff.mp h
    obtain ⟨q3, hq3, h⟩ := Option.bind_eq_some_iff.mp h
    have gq3 := c11 (d := d') (by omega) F _ _ _ _ _ _ _ (by rw [hn]; exact r_v0) hq3
    refine Rn.cv (As := [.int v1, .int t0, .int v3]) (rr := []) n10_129 mo10 mm0_129 (by decide) mq11 rfl rfl rfl rfl (by rw [mo11]; exact hu4) (Nat.le_of_ble_eq_true rfl) (by rw [hn]; exact (okc (okr r_v0) (okc rfl (okc rfl (okc rfl okn))))) (by rw [hn]; exact okn) (by rw [hn]; exact ok) (by rw [ml11]; exact Nat.le_of_ble_eq_true rfl) gq3 ?_
    have hn := (Rn.len gq3).trans hn
    show Rn _ 10 132 lv [] q3.2 c w _
    refine Rn.ic (v := 0) n10_132 (by decide) ?_
    refine Rn.is (m := n) n10_133 ml10 (by decide) (fun lv l5 hk hok => ?_)
    have l0 := hk 0 _ (by decide) (Or.inl rfl) l0
    have l1 := hk 1 _ (by decide) (Or.inl rfl) l1
    have l2 := hk 2 _ (by decide) (Or.inl rfl) l2
    have l3 := hk 3 _ (by decide) (Or.inl rfl) l3
    have l4 := hk 4 _ (by decide) (Or.inl rfl) l4
    have ok := hok ok
    exact t10_135 hd F hself  F _ _ _ _ _ _ lv _ _ _ l0 l1 l2 l3 l4 l5 ok hn r_v0  h
  · rw [if_neg hc1] at h
    refine Rn.c2f (t := 115) n10_66 (by decide) hc1 ?_
    refine Rn.ic (v := 0) n10_69 (by decide) ?_
    refine Rn.is (m := n) n10_70 ml10 (by decide) (fun lv l5 hk hok => ?_)
    have l0 := hk 0 _ (by decide) (Or.inl rfl) l0
    have l1 := hk 1 _ (by decide) (Or.inl rfl) l1
    have l2 := hk 2 _ (by decide) (Or.inl rfl) l2
    have l3 := hk 3 _ (by decide) (Or.inl rfl) l3
    have l4 := hk 4 _ (by decide) (Or.inl rfl) l4
    have ok := hok ok
    exact t10_72 hd F hself  F _ _ _ lv _ _ _ l0 l1 l5 ok hn r_v0  h
def m10_13 (F : Nat) (self : Nat → Int32 → Int32 → List mE → Option (Unit × List mE)) (hp : List mE) : Option (Unit × List mE) :=
  some ((), hp)
theorem t10_13 {d c w n : Nat} (hd : 5 ≤ d) (F : Nat) {self : Nat → Int32 → Int32 → List mE → Option (Unit × List mE)} (hself : ∀ d', d = d' + 1 → ∀ (a0 : Nat) (a1 : Int32) (a2 : Int32) (hp : List mE) (v : Unit) (hp' : List mE), a0 < hp.length → self a0 a1 a2 hp = some (v, hp') → Rn d' 10 0 (lv_args 0 [.ref a0, .int a1, .int a2]) [] hp 0 0 (none, hp', 0, 0)) : ∀ (lv : List (Nat × Value)) (hp : List mE) (v : Unit) (hp' : List mE), lvk n lv → hp.length = n → m10_13 F self hp = some (v, hp') → Rn d 10 13 lv [] hp c w (none, hp', c, w) := by
  obtain ⟨d', rfl⟩ : ∃ d', d = d' + 1 := ⟨d - 1, by omega⟩
  intro lv hp v hp' ok hn h
  unfold m10_13 at h
  have e1 := (Prod.mk.inj (Option.some.inj h)).1
  have e2 := (Prod.mk.inj (Option.some.inj h)).2
  subst e1
  subst e2
  exact Rn.vret n10_13 mr10
def m10_0 (F : Nat) (self : Nat → Int32 → Int32 → List mE → Option (Unit × List mE)) (v0 : Nat) (v1 : Int32) (v2 : Int32) (hp : List mE) : Option (Unit × List mE) :=
  (gfr 0 6 hp v0).bind fun x1 =>
  (rdZ hp x1 v1).bind fun x2 =>
  if mc1 .ne x2 = true then
    m10_13 F self hp
  else
    if mc1 .ge v2 = true then
      (gfr 0 6 hp v0).bind fun x5 =>
      (wrZ hp x5 v1 1).bind fun hp6 =>
      (gfr 0 0 hp6 v0).bind fun x7 =>
      (gfr 0 2 hp6 v0).bind fun x8 =>
      (gfr 6 3 hp6 x8).bind fun x9 =>
      (gfr 0 0 hp6 v0).bind fun x10 =>
      (rcv 3 hp6 x10).bind fun u12 =>
      (e46 F x10 hp6).bind fun q11 =>
      (rcv 3 q11.2 x7).bind fun u14 =>
      (e45 F x7 x9 (v1 * 5) q11.1 q11.2).bind fun q13 =>
      if mc2 .ne q13.1 ((-1)) = true then
        (rcv 0 q13.2 v0).bind fun u17 =>
        (e9 F v0 v1 q13.1 q13.2).bind fun q16 =>
        m10_61 F self v0 v1 v2 q13.1 q16.1 q16.2
      else
        m10_61 F self v0 v1 v2 q13.1 ((-1)) q13.2
    else
      m10_13 F self hp
theorem t10_0 {d c w n : Nat} (hd : 5 ≤ d) (F : Nat) {self : Nat → Int32 → Int32 → List mE → Option (Unit × List mE)} (hself : ∀ d', d = d' + 1 → ∀ (a0 : Nat) (a1 : Int32) (a2 : Int32) (hp : List mE) (v : Unit) (hp' : List mE), a0 < hp.length → self a0 a1 a2 hp = some (v, hp') → Rn d' 10 0 (lv_args 0 [.ref a0, .int a1, .int a2]) [] hp 0 0 (none, hp', 0, 0)) : ∀ (v0 : Nat) (v1 : Int32) (v2 : Int32) (lv : List (Nat × Value)) (hp : List mE) (v : Unit) (hp' : List mE), alk 0 lv = some (.ref v0) → alk 1 lv = some (.int v1) → alk 2 lv = some (.int v2) → lvk n lv → hp.length = n → v0 < n → m10_0 F self v0 v1 v2 hp = some (v, hp') → Rn d 10 0 lv [] hp c w (none, hp', c, w) := by
  obtain ⟨d', rfl⟩ : ∃ d', d = d' + 1 := ⟨d - 1, by omega⟩
  intro v0 v1 v2 lv hp v hp' l0 l1 l2 ok hn r_v0 h
  unfold m10_0 at h
  refine Rn.aload_n n10_0 l0 ?_
  obtain ⟨x1, hx1, h⟩ := Option.bind_eq_some_iff.mp h
  refine Rn.gf n10_1 mo10 fl0_23 (gfr_v hx1).1 ?_
  have r_x1 : x1 < n := by rw [← hn]; exact (gfr_v hx1).2
  refine Rn.iload_n n10_4 l1 ?_
  obtain ⟨x2, hx2, h⟩ := Option.bind_eq_some_iff.mp h
  refine Rn.zald n10_5 hx2 ?_
  by_cases hc3 : mc1 .ne x2 = true
  · rw [if_pos hc3] at h
    refine Rn.c1t (t := 13) n10_6 (by decide) hc3 ?_
    exact t10_13 hd F hself  lv _ _ _  ok hn   h
  · rw [if_neg hc3] at h
    refine Rn.c1f (t := 13) n10_6 (by decide) hc3 ?_
    refine Rn.iload_n n10_9 l2 ?_
    by_cases hc4 : mc1 .ge v2 = true
    · rw [if_pos hc4] at h
      refine Rn.c1t (t := 14) n10_10 (by decide) hc4 ?_
      refine Rn.aload_n n10_14 l0 ?_
      obtain ⟨x5, hx5, h⟩ := Option.bind_eq_some_iff.mp h
      refine Rn.gf n10_15 mo10 fl0_23 (gfr_v hx5).1 ?_
      have r_x5 : x5 < n := by rw [← hn]; exact (gfr_v hx5).2
      refine Rn.iload_n n10_18 l1 ?_
      refine Rn.ic (v := 1) n10_19 (by decide) ?_
      obtain ⟨hp6, hhp6, h⟩ := Option.bind_eq_some_iff.mp h
      refine Rn.zast n10_20 hhp6 ?_
      have hn := (wrZ_st (st := []) hhp6).2.trans hn
      refine Rn.aload_n n10_21 l0 ?_
      obtain ⟨x7, hx7, h⟩ := Option.bind_eq_some_iff.mp h
      refine Rn.gf n10_22 mo10 fl0_31 (gfr_v hx7).1 ?_
      have r_x7 : x7 < n := by rw [← hn]; exact (gfr_v hx7).2
      refine Rn.aload_n n10_25 l0 ?_
      obtain ⟨x8, hx8, h⟩ := Option.bind_eq_some_iff.mp h
      refine Rn.gf n10_26 mo10 fl0_44 (gfr_v hx8).1 ?_
      have r_x8 : x8 < n := by rw [← hn]; exact (gfr_v hx8).2
      obtain ⟨x9, hx9, h⟩ := Option.bind_eq_some_iff.mp h
      refine Rn.gf n10_29 mo10 fl0_106 (gfr_v hx9).1 ?_
      have r_x9 : x9 < n := by rw [← hn]; exact (gfr_v hx9).2
      refine Rn.iload_n n10_32 l1 ?_
      refine Rn.ic (v := 5) n10_33 (by decide) ?_
      refine Rn.p n10_34 rfl ?_
      refine Rn.aload_n n10_35 l0 ?_
      obtain ⟨x10, hx10, h⟩ := Option.bind_eq_some_iff.mp h
      refine Rn.gf n10_36 mo10 fl0_31 (gfr_v hx10).1 ?_
      have r_x10 : x10 < n := by rw [← hn]; exact (gfr_v hx10).2
      obtain ⟨u12, hu12, h⟩ := Option.bind_eq_some_iff.mp h
      obtain ⟨q11, hq11, h⟩ := Option.bind_eq_some_iff.mp h
      have gq11 := c46 (d := d') (by omega) F _ _ _ _ (by rw [hn]; exact r_x10) hq11
      refine Rn.cv (As := []) (rr := [.int (v1 * 5), .ref x9, .ref x7]) n10_39 mo10 mm0_118 (by decide) mq46 rfl rfl rfl rfl (by rw [mo46]; exact hu12) (Nat.le_of_ble_eq_true rfl) (by rw [hn]; exact (okc (okr r_x10) okn)) (by rw [hn]; exact (okc rfl (okc (okr r_x9) (okc (okr r_x7) okn)))) (by rw [hn]; exact ok) (by rw [ml46]; exact Nat.le_of_ble_eq_true rfl) gq11 ?_
      have hn := (Rn.len gq11).trans hn
      show Rn _ 10 42 lv [.int q11.1, .int (v1 * 5), .ref x9, .ref x7] q11.2 c w _
      obtain ⟨u14, hu14, h⟩ := Option.bind_eq_some_iff.mp h
      obtain ⟨q13, hq13, h⟩ := Option.bind_eq_some_iff.mp h
      have gq13 := c45 (d := d') (by omega) F _ _ _ _ _ _ _ (by rw [hn]; exact r_x7) (by rw [hn]; exact r_x9) hq13
      refine Rn.cv (As := [.ref x9, .int (v1 * 5), .int q11.1]) (rr := []) n10_42 mo10 mm0_122 (by decide) mq45 rfl rfl rfl rfl (by rw [mo45]; exact hu14) (Nat.le_of_ble_eq_true rfl) (by rw [hn]; exact (okc (okr r_x7) (okc (okr r_x9) (okc rfl (okc rfl okn))))) (by rw [hn]; exact okn) (by rw [hn]; exact ok) (by rw [ml45]; exact Nat.le_of_ble_eq_true rfl) gq13 ?_
      have hn := (Rn.len gq13).trans hn
      show Rn _ 10 45 lv [.int q13.1] q13.2 c w _
      refine Rn.isn (m := n) n10_45 rfl ml10 (by decide) (fun lv l3 hk hok => ?_)
      have l0 := hk 0 _ (by decide) (Or.inl rfl) l0
      have l1 := hk 1 _ (by decide) (Or.inl rfl) l1
      have l2 := hk 2 _ (by decide) (Or.inl rfl) l2
      have ok := hok ok
      refine Rn.iload_n n10_46 l3 ?_
      refine Rn.ic (v := (-1)) n10_47 (by decide) ?_
      by_cases hc15 : mc2 .ne q13.1 ((-1)) = true
      · rw [if_pos hc15] at h
        refine Rn.c2t (t := 55) n10_48 (by decide) hc15 ?_
        refine Rn.aload_n n10_55 l0 ?_
        refine Rn.iload_n n10_56 l1 ?_
        refine Rn.iload_n n10_57 l3 ?_
        obtain ⟨u17, hu17, h⟩ := Option.bind_eq_some_iff.mp h
        obtain ⟨q16, hq16, h⟩ := Option.bind_eq_some_iff.mp h
        have gq16 := c9 (d := d') (by omega) F _ _ _ _ _ _ (by rw [hn]; exact r_v0) hq16
        refine Rn.cv (As := [.int v1, .int q13.1]) (rr := []) n10_58 mo10 mm0_126 (by decide) mq9 rfl rfl rfl rfl (by rw [mo9]; exact hu17) (Nat.le_of_ble_eq_true rfl) (by rw [hn]; exact (okc (okr r_v0) (okc rfl (okc rfl okn)))) (by rw [hn]; exact okn) (by rw [hn]; exact ok) (by rw [ml9]; exact Nat.le_of_ble_eq_true rfl) gq16 ?_
        have hn := (Rn.len gq16).trans hn
        show Rn _ 10 61 lv [.int q16.1] q16.2 c w _
        exact t10_61 hd F hself  _ _ _ _ _ lv _ _ _ l0 l1 l2 l3 ok hn r_v0  h
      · rw [if_neg hc15] at h
        refine Rn.c2f (t := 55) n10_48 (by decide) hc15 ?_
        refine Rn.ic (v := (-1)) n10_51 (by decide) ?_
        refine Rn.goto (t := 61) n10_52 (by decide) ?_
        exact t10_61 hd F hself  _ _ _ _ _ lv _ _ _ l0 l1 l2 l3 ok hn r_v0  h
    · rw [if_neg hc4] at h
      refine Rn.c1f (t := 14) n10_10 (by decide) hc4 ?_
      exact t10_13 hd F hself  lv _ _ _  ok hn   h
def e10 (F : Nat) : Nat → Nat → Int32 → Int32 → List mE → Option (Unit × List mE)
  | 0, _, _, _, _ => none
  | g + 1, a0, a1, a2, hp => m10_0 F (e10 F g) a0 a1 a2 hp
theorem c10 (F : Nat) : ∀ (g : Nat) {d : Nat}, 5 + g ≤ d → ∀ (a0 : Nat) (a1 : Int32) (a2 : Int32) (hp : List mE) (v : Unit) (hp' : List mE), a0 < hp.length → e10 F g a0 a1 a2 hp = some (v, hp') → Rn d 10 0 (lv_args 0 [.ref a0, .int a1, .int a2]) [] hp 0 0 (none, hp', 0, 0) := by
  intro g
  induction g with
  | zero => intro d hd a0 a1 a2 hp v hp' ra0 h; cases h
  | succ g ih =>
    intro d hd a0 a1 a2 hp v hp' ra0 h
    unfold e10 at h
    exact t10_0 (n := hp.length) (by omega) F (fun d' hd' b0 b1 b2 hp v hp' ra0 h => ih (by omega) b0 b1 b2 hp v hp' ra0 h) a0 a1 a2 (lv_args 0 [.ref a0, .int a1, .int a2]) hp v hp' rfl rfl rfl (lvk_args (okc (okr ra0) (okc rfl (okc rfl okn)))) rfl ra0 h
/-! MirrorRoots$Ideal.under -/
def m5_70 (F : Nat) (v0 : Nat) (v1 : Int32) (hp : List mE) : Option (Nat × List mE) :=
  (pfv 0 7 hp v0 (.int v1)).bind fun hp1 =>
  some (v0, hp1)
theorem t5_70 {d c w n : Nat} (hd : 18 ≤ d) (F : Nat) : ∀ (v0 : Nat) (v1 : Int32) (lv : List (Nat × Value)) (hp : List mE) (v : Nat) (hp' : List mE), alk 0 lv = some (.ref v0) → alk 1 lv = some (.int v1) → lvk n lv → hp.length = n → v0 < n → m5_70 F v0 v1 hp = some (v, hp') → Rn d 5 70 lv [] hp c w (some (.ref v), hp', c, w) := by
  obtain ⟨d', rfl⟩ : ∃ d', d = d' + 1 := ⟨d - 1, by omega⟩
  intro v0 v1 lv hp v hp' l0 l1 ok hn r_v0 h
  unfold m5_70 at h
  refine Rn.aload_n n5_70 l0 ?_
  refine Rn.iload_n n5_71 l1 ?_
  obtain ⟨hp1, hhp1, h⟩ := Option.bind_eq_some_iff.mp h
  refine Rn.pf n5_72 mo5 fl0_27 ft0_7 rfl ff0_7 (fun _ _ hh => by cases hh) hhp1 ?_
  have hn := (pfv_len hhp1).trans hn
  refine Rn.aload_n n5_75 l0 ?_
  have e1 := (Prod.mk.inj (Option.some.inj h)).1
  have e2 := (Prod.mk.inj (Option.some.inj h)).2
  subst e1
  subst e2
  exact Rn.aret n5_76 mr5
def m5_0 (F : Nat) (v0 : Nat) (v1 : Int32) (hp : List mE) : Option (Nat × List mE) :=
  (gfi 0 7 hp v0).bind fun x1 =>
  if mc2 .ne x1 v1 = true then
    (rcv 0 hp v0).bind fun u4 =>
    (e6 F v0 v1 hp).bind fun q3 =>
    (gfr 0 0 q3.2 v0).bind fun x5 =>
    (gfr 0 1 q3.2 v0).bind fun x6 =>
    (gfr 1 5 q3.2 x6).bind fun x7 =>
    (gfr 0 3 q3.2 v0).bind fun x8 =>
    (rcv 3 q3.2 x5).bind fun u10 =>
    (e42 F x5 x7 (v1 * 5) x8 0 q3.2).bind fun q9 =>
    (gfr 0 2 q9.2 v0).bind fun x11 =>
    (gfr 0 3 q9.2 v0).bind fun x12 =>
    (rcv 6 q9.2 x11).bind fun u14 =>
    (e63 F x11 x12 q9.2).bind fun q13 =>
    (pfv 0 8 q13.2 v0 (.int q13.1)).bind fun hp15 =>
    (gfi 0 8 hp15 v0).bind fun x16 =>
    if mc2 .eq x16 ((-1)) = true then
      m5_70 F v0 v1 hp15
    else
      (gfi 0 8 hp15 v0).bind fun x18 =>
      (e10 F 12 v0 x18 8 hp15).bind fun q19 =>
      m5_70 F v0 v1 q19.2
  else
    some (v0, hp)
theorem t5_0 {d c w n : Nat} (hd : 18 ≤ d) (F : Nat) : ∀ (v0 : Nat) (v1 : Int32) (lv : List (Nat × Value)) (hp : List mE) (v : Nat) (hp' : List mE), alk 0 lv = some (.ref v0) → alk 1 lv = some (.int v1) → lvk n lv → hp.length = n → v0 < n → m5_0 F v0 v1 hp = some (v, hp') → Rn d 5 0 lv [] hp c w (some (.ref v), hp', c, w) := by
  obtain ⟨d', rfl⟩ : ∃ d', d = d' + 1 := ⟨d - 1, by omega⟩
  intro v0 v1 lv hp v hp' l0 l1 ok hn r_v0 h
  unfold m5_0 at h
  refine Rn.aload_n n5_0 l0 ?_
  obtain ⟨x1, hx1, h⟩ := Option.bind_eq_some_iff.mp h
  refine Rn.gf n5_1 mo5 fl0_27 (gfi_v hx1) ?_
  refine Rn.iload_n n5_4 l1 ?_
  by_cases hc2 : mc2 .ne x1 v1 = true
  · rw [if_pos hc2] at h
    refine Rn.c2t (t := 10) n5_5 (by decide) hc2 ?_
    refine Rn.aload_n n5_10 l0 ?_
    refine Rn.iload_n n5_11 l1 ?_
    obtain ⟨u4, hu4, h⟩ := Option.bind_eq_some_iff.mp h
    obtain ⟨q3, hq3, h⟩ := Option.bind_eq_some_iff.mp h
    have gq3 := c6 (d := d') (by omega) F _ _ _ _ _ (by rw [hn]; exact r_v0) hq3
    refine Rn.cv (As := [.int v1]) (rr := []) n5_12 mo5 mm0_73 (by decide) mq6 rfl rfl rfl rfl (by rw [mo6]; exact hu4) (Nat.le_of_ble_eq_true rfl) (by rw [hn]; exact (okc (okr r_v0) (okc rfl okn))) (by rw [hn]; exact okn) (by rw [hn]; exact ok) (by rw [ml6]; exact Nat.le_of_ble_eq_true rfl) gq3 ?_
    have hn := (Rn.len gq3).trans hn
    show Rn _ 5 15 lv [] q3.2 c w _
    refine Rn.aload_n n5_15 l0 ?_
    obtain ⟨x5, hx5, h⟩ := Option.bind_eq_some_iff.mp h
    refine Rn.gf n5_16 mo5 fl0_31 (gfr_v hx5).1 ?_
    have r_x5 : x5 < n := by rw [← hn]; exact (gfr_v hx5).2
    refine Rn.aload_n n5_19 l0 ?_
    obtain ⟨x6, hx6, h⟩ := Option.bind_eq_some_iff.mp h
    refine Rn.gf n5_20 mo5 fl0_35 (gfr_v hx6).1 ?_
    have r_x6 : x6 < n := by rw [← hn]; exact (gfr_v hx6).2
    obtain ⟨x7, hx7, h⟩ := Option.bind_eq_some_iff.mp h
    refine Rn.gf n5_23 mo5 fl0_48 (gfr_v hx7).1 ?_
    have r_x7 : x7 < n := by rw [← hn]; exact (gfr_v hx7).2
    refine Rn.iload_n n5_26 l1 ?_
    refine Rn.ic (v := 5) n5_27 (by decide) ?_
    refine Rn.p n5_28 rfl ?_
    refine Rn.aload_n n5_29 l0 ?_
    obtain ⟨x8, hx8, h⟩ := Option.bind_eq_some_iff.mp h
    refine Rn.gf n5_30 mo5 fl0_11 (gfr_v hx8).1 ?_
    have r_x8 : x8 < n := by rw [← hn]; exact (gfr_v hx8).2
    refine Rn.ic (v := 0) n5_33 (by decide) ?_
    obtain ⟨u10, hu10, h⟩ := Option.bind_eq_some_iff.mp h
    obtain ⟨q9, hq9, h⟩ := Option.bind_eq_some_iff.mp h
    have gq9 := c42 (d := d') (by omega) F _ _ _ _ _ _ _ _ (by rw [hn]; exact r_x5) (by rw [hn]; exact r_x7) (by rw [hn]; exact r_x8) hq9
    refine Rn.cv (As := [.ref x7, .int (v1 * 5), .ref x8, .int 0]) (rr := []) n5_34 mo5 mm0_53 (by decide) mq42 rfl rfl rfl rfl (by rw [mo42]; exact hu10) (Nat.le_of_ble_eq_true rfl) (by rw [hn]; exact (okc (okr r_x5) (okc (okr r_x7) (okc rfl (okc (okr r_x8) (okc rfl okn)))))) (by rw [hn]; exact okn) (by rw [hn]; exact ok) (by rw [ml42]; exact Nat.le_of_ble_eq_true rfl) gq9 ?_
    have hn := (Rn.len gq9).trans hn
    show Rn _ 5 37 lv [] q9.2 c w _
    refine Rn.aload_n n5_37 l0 ?_
    refine Rn.aload_n n5_38 l0 ?_
    obtain ⟨x11, hx11, h⟩ := Option.bind_eq_some_iff.mp h
    refine Rn.gf n5_39 mo5 fl0_44 (gfr_v hx11).1 ?_
    have r_x11 : x11 < n := by rw [← hn]; exact (gfr_v hx11).2
    refine Rn.aload_n n5_42 l0 ?_
    obtain ⟨x12, hx12, h⟩ := Option.bind_eq_some_iff.mp h
    refine Rn.gf n5_43 mo5 fl0_11 (gfr_v hx12).1 ?_
    have r_x12 : x12 < n := by rw [← hn]; exact (gfr_v hx12).2
    obtain ⟨u14, hu14, h⟩ := Option.bind_eq_some_iff.mp h
    obtain ⟨q13, hq13, h⟩ := Option.bind_eq_some_iff.mp h
    have gq13 := c63 (d := d') (by omega) F _ _ _ _ _ (by rw [hn]; exact r_x11) (by rw [hn]; exact r_x12) hq13
    refine Rn.cv (As := [.ref x12]) (rr := [.ref v0]) n5_46 mo5 mm0_59 (by decide) mq63 rfl rfl rfl rfl (by rw [mo63]; exact hu14) (Nat.le_of_ble_eq_true rfl) (by rw [hn]; exact (okc (okr r_x11) (okc (okr r_x12) okn))) (by rw [hn]; exact (okc (okr r_v0) okn)) (by rw [hn]; exact ok) (by rw [ml63]; exact Nat.le_of_ble_eq_true rfl) gq13 ?_
    have hn := (Rn.len gq13).trans hn
    show Rn _ 5 49 lv [.int q13.1, .ref v0] q13.2 c w _
    obtain ⟨hp15, hhp15, h⟩ := Option.bind_eq_some_iff.mp h
    refine Rn.pf n5_49 mo5 fl0_63 ft0_8 rfl ff0_8 (fun _ _ hh => by cases hh) hhp15 ?_
    have hn := (pfv_len hhp15).trans hn
    refine Rn.aload_n n5_52 l0 ?_
    obtain ⟨x16, hx16, h⟩ := Option.bind_eq_some_iff.mp h
    refine Rn.gf n5_53 mo5 fl0_63 (gfi_v hx16) ?_
    refine Rn.ic (v := (-1)) n5_56 (by decide) ?_
    by_cases hc17 : mc2 .eq x16 ((-1)) = true
    · rw [if_pos hc17] at h
      refine Rn.c2t (t := 70) n5_57 (by decide) hc17 ?_
      exact t5_70 hd F  _ _ lv _ _ _ l0 l1 ok hn r_v0  h
    · rw [if_neg hc17] at h
      refine Rn.c2f (t := 70) n5_57 (by decide) hc17 ?_
      refine Rn.aload_n n5_60 l0 ?_
      refine Rn.aload_n n5_61 l0 ?_
      obtain ⟨x18, hx18, h⟩ := Option.bind_eq_some_iff.mp h
      refine Rn.gf n5_62 mo5 fl0_63 (gfi_v hx18) ?_
      refine Rn.bp (v := 8) n5_65 (by decide) ?_
      obtain ⟨q19, hq19, h⟩ := Option.bind_eq_some_iff.mp h
      have gq19 := c10 F 12 (d := d') (by omega) _ _ _ _ _ _ (by rw [hn]; exact r_v0) hq19
      refine Rn.cs (as := [.ref v0, .int x18, .int 8]) (rr := []) n5_67 mo5 mm0_77 mq10 rfl rfl rfl rfl (Nat.le_of_ble_eq_true rfl) (by rw [hn]; exact (okc (okr r_v0) (okc rfl (okc rfl okn)))) (by rw [hn]; exact okn) (by rw [hn]; exact ok) (by rw [ml10]; exact Nat.le_of_ble_eq_true rfl) gq19 ?_
      have hn := (Rn.len gq19).trans hn
      show Rn _ 5 70 lv [] q19.2 c w _
      exact t5_70 hd F  _ _ lv _ _ _ l0 l1 ok hn r_v0  h
  · rw [if_neg hc2] at h
    refine Rn.c2f (t := 10) n5_5 (by decide) hc2 ?_
    refine Rn.aload_n n5_8 l0 ?_
    have e1 := (Prod.mk.inj (Option.some.inj h)).1
    have e2 := (Prod.mk.inj (Option.some.inj h)).2
    subst e1
    subst e2
    exact Rn.aret n5_9 mr5
def e5 (F : Nat) (a0 : Nat) (a1 : Int32) (hp : List mE) : Option (Nat × List mE) := m5_0 F a0 a1 hp
theorem c5 {d : Nat} (hd : 18 ≤ d) (F : Nat) (a0 : Nat) (a1 : Int32) (hp : List mE) (v : Nat) (hp' : List mE) (ra0 : a0 < hp.length) (h : e5 F a0 a1 hp = some (v, hp')) : Rn d 5 0 (lv_args 0 [.ref a0, .int a1]) [] hp 0 0 (some (.ref v), hp', 0, 0) :=
  t5_0 (n := hp.length) hd F a0 a1 (lv_args 0 [.ref a0, .int a1]) hp v hp' rfl rfl (lvk_args (okc (okr ra0) (okc rfl okn))) rfl ra0 h
/-! MirrorRoots$Paths.walk -/
def m49_155 (F : Nat) (self : Nat → Int32 → Int32 → Int32 → Int32 → List mE → Option (Unit × List mE)) (t0 : Nat) (t1 : Int32) (t2 : Int32) (t3 : Int32) (t4 : Int32) (hp : List mE) : Option (Unit × List mE) :=
  (self t0 t1 t2 t3 t4 hp).bind fun q1 =>
  some ((), q1.2)
theorem t49_155 {d c w n : Nat} (hd : 1 ≤ d) (F : Nat) {self : Nat → Int32 → Int32 → Int32 → Int32 → List mE → Option (Unit × List mE)} (hself : ∀ d', d = d' + 1 → ∀ (a0 : Nat) (a1 : Int32) (a2 : Int32) (a3 : Int32) (a4 : Int32) (hp : List mE) (v : Unit) (hp' : List mE), a0 < hp.length → self a0 a1 a2 a3 a4 hp = some (v, hp') → Rn d' 49 0 (lv_args 0 [.ref a0, .int a1, .int a2, .int a3, .int a4]) [] hp 0 0 (none, hp', 0, 0)) : ∀ (t0 : Nat) (t1 : Int32) (t2 : Int32) (t3 : Int32) (t4 : Int32) (lv : List (Nat × Value)) (hp : List mE) (v : Unit) (hp' : List mE), lvk n lv → hp.length = n → t0 < n → m49_155 F self t0 t1 t2 t3 t4 hp = some (v, hp') → Rn d 49 155 lv [.int t4, .int t3, .int t2, .int t1, .ref t0] hp c w (none, hp', c, w) := by
  obtain ⟨d', rfl⟩ : ∃ d', d = d' + 1 := ⟨d - 1, by omega⟩
  intro t0 t1 t2 t3 t4 lv hp v hp' ok hn r_t0 h
  unfold m49_155 at h
  obtain ⟨q1, hq1, h⟩ := Option.bind_eq_some_iff.mp h
  have gq1 := hself d' rfl _ _ _ _ _ _ _ _ (by rw [hn]; exact r_t0) hq1
  refine Rn.cs (as := [.ref t0, .int t1, .int t2, .int t3, .int t4]) (rr := []) n49_155 mo49 mm4_41 mq49 rfl rfl rfl rfl (Nat.le_of_ble_eq_true rfl) (by rw [hn]; exact (okc (okr r_t0) (okc rfl (okc rfl (okc rfl (okc rfl okn)))))) (by rw [hn]; exact okn) (by rw [hn]; exact ok) (by rw [ml49]; exact Nat.le_of_ble_eq_true rfl) gq1 ?_
  have hn := (Rn.len gq1).trans hn
  show Rn _ 49 158 lv [] q1.2 c w _
  have e1 := (Prod.mk.inj (Option.some.inj h)).1
  have e2 := (Prod.mk.inj (Option.some.inj h)).2
  subst e1
  subst e2
  exact Rn.vret n49_158 mr49
def m49_141 (F : Nat) (self : Nat → Int32 → Int32 → Int32 → Int32 → List mE → Option (Unit × List mE)) (v4 : Int32) (v7 : Int32) (t0 : Nat) (t1 : Int32) (t2 : Int32) (t3 : Int32) (hp : List mE) : Option (Unit × List mE) :=
  if mc1 .eq v7 = true then
    m49_155 F self t0 t1 t2 t3 (v4 + 1) hp
  else
    m49_155 F self t0 t1 t2 t3 v4 hp
theorem t49_141 {d c w n : Nat} (hd : 1 ≤ d) (F : Nat) {self : Nat → Int32 → Int32 → Int32 → Int32 → List mE → Option (Unit × List mE)} (hself : ∀ d', d = d' + 1 → ∀ (a0 : Nat) (a1 : Int32) (a2 : Int32) (a3 : Int32) (a4 : Int32) (hp : List mE) (v : Unit) (hp' : List mE), a0 < hp.length → self a0 a1 a2 a3 a4 hp = some (v, hp') → Rn d' 49 0 (lv_args 0 [.ref a0, .int a1, .int a2, .int a3, .int a4]) [] hp 0 0 (none, hp', 0, 0)) : ∀ (v4 : Int32) (v7 : Int32) (t0 : Nat) (t1 : Int32) (t2 : Int32) (t3 : Int32) (lv : List (Nat × Value)) (hp : List mE) (v : Unit) (hp' : List mE), alk 4 lv = some (.int v4) → alk 7 lv = some (.int v7) → lvk n lv → hp.length = n → t0 < n → m49_141 F self v4 v7 t0 t1 t2 t3 hp = some (v, hp') → Rn d 49 141 lv [.int t3, .int t2, .int t1, .ref t0] hp c w (none, hp', c, w) := by
  obtain ⟨d', rfl⟩ : ∃ d', d = d' + 1 := ⟨d - 1, by omega⟩
  intro v4 v7 t0 t1 t2 t3 lv hp v hp' l4 l7 ok hn r_t0 h
  unfold m49_141 at h
  refine Rn.iload n49_141 l7 ?_
  by_cases hc1 : mc1 .eq v7 = true
  · rw [if_pos hc1] at h
    refine Rn.c1t (t := 151) n49_143 (by decide) hc1 ?_
    refine Rn.iload n49_151 l4 ?_
    refine Rn.ic (v := 1) n49_153 (by decide) ?_
    refine Rn.p n49_154 rfl ?_
    exact t49_155 hd F hself  _ _ _ _ _ lv _ _ _  ok hn  r_t0 h
  · rw [if_neg hc1] at h
    refine Rn.c1f (t := 151) n49_143 (by decide) hc1 ?_
    refine Rn.iload n49_146 l4 ?_
    refine Rn.goto (t := 155) n49_148 (by decide) ?_
    exact t49_155 hd F hself  _ _ _ _ _ lv _ _ _  ok hn  r_t0 h
def m49_107 (F : Nat) (self : Nat → Int32 → Int32 → Int32 → Int32 → List mE → Option (Unit × List mE)) (v0 : Nat) (v1 : Int32) (v2 : Int32) (v3 : Int32) (v4 : Int32) (v5 : Int32) (v6 : Int32) (v7 : Int32) (hp : List mE) : Option (Unit × List mE) :=
  (gfr 4 0 hp v0).bind fun x1 =>
  (gfr 4 2 hp v0).bind fun x2 =>
  (rcv 3 hp x1).bind fun u4 =>
  (e41 F x1 x2 v6 v5 hp).bind fun q3 =>
  if mc1 .eq v7 = true then
    m49_141 F self v4 v7 v0 v1 (v2 - 1) (v3 + 1) q3.2
  else
    m49_141 F self v4 v7 v0 v1 (v2 - 1) (v3 - 1) q3.2
theorem t49_107 {d c w n : Nat} (hd : 1 ≤ d) (F : Nat) {self : Nat → Int32 → Int32 → Int32 → Int32 → List mE → Option (Unit × List mE)} (hself : ∀ d', d = d' + 1 → ∀ (a0 : Nat) (a1 : Int32) (a2 : Int32) (a3 : Int32) (a4 : Int32) (hp : List mE) (v : Unit) (hp' : List mE), a0 < hp.length → self a0 a1 a2 a3 a4 hp = some (v, hp') → Rn d' 49 0 (lv_args 0 [.ref a0, .int a1, .int a2, .int a3, .int a4]) [] hp 0 0 (none, hp', 0, 0)) : ∀ (v0 : Nat) (v1 : Int32) (v2 : Int32) (v3 : Int32) (v4 : Int32) (v5 : Int32) (v6 : Int32) (v7 : Int32) (lv : List (Nat × Value)) (hp : List mE) (v : Unit) (hp' : List mE), alk 0 lv = some (.ref v0) → alk 1 lv = some (.int v1) → alk 2 lv = some (.int v2) → alk 3 lv = some (.int v3) → alk 4 lv = some (.int v4) → alk 5 lv = some (.int v5) → alk 6 lv = some (.int v6) → alk 7 lv = some (.int v7) → lvk n lv → hp.length = n → v0 < n → m49_107 F self v0 v1 v2 v3 v4 v5 v6 v7 hp = some (v, hp') → Rn d 49 107 lv [] hp c w (none, hp', c, w) := by
  obtain ⟨d', rfl⟩ : ∃ d', d = d' + 1 := ⟨d - 1, by omega⟩
  intro v0 v1 v2 v3 v4 v5 v6 v7 lv hp v hp' l0 l1 l2 l3 l4 l5 l6 l7 ok hn r_v0 h
  unfold m49_107 at h
  refine Rn.aload_n n49_107 l0 ?_
  obtain ⟨x1, hx1, h⟩ := Option.bind_eq_some_iff.mp h
  refine Rn.gf n49_108 mo49 fl4_19 (gfr_v hx1).1 ?_
  have r_x1 : x1 < n := by rw [← hn]; exact (gfr_v hx1).2
  refine Rn.aload_n n49_111 l0 ?_
  obtain ⟨x2, hx2, h⟩ := Option.bind_eq_some_iff.mp h
  refine Rn.gf n49_112 mo49 fl4_9 (gfr_v hx2).1 ?_
  have r_x2 : x2 < n := by rw [← hn]; exact (gfr_v hx2).2
  refine Rn.iload n49_115 l6 ?_
  refine Rn.iload n49_117 l5 ?_
  obtain ⟨u4, hu4, h⟩ := Option.bind_eq_some_iff.mp h
  obtain ⟨q3, hq3, h⟩ := Option.bind_eq_some_iff.mp h
  have gq3 := c41 (d := d') (by omega) F _ _ _ _ _ _ _ (by rw [hn]; exact r_x1) (by rw [hn]; exact r_x2) hq3
  refine Rn.cv (As := [.ref x2, .int v6, .int v5]) (rr := []) n49_119 mo49 mm4_52 (by decide) mq41 rfl rfl rfl rfl (by rw [mo41]; exact hu4) (Nat.le_of_ble_eq_true rfl) (by rw [hn]; exact (okc (okr r_x1) (okc (okr r_x2) (okc rfl (okc rfl okn))))) (by rw [hn]; exact okn) (by rw [hn]; exact ok) (by rw [ml41]; exact Nat.le_of_ble_eq_true rfl) gq3 ?_
  have hn := (Rn.len gq3).trans hn
  show Rn _ 49 122 lv [] q3.2 c w _
  refine Rn.aload_n n49_122 l0 ?_
  refine Rn.iload_n n49_123 l1 ?_
  refine Rn.iload_n n49_124 l2 ?_
  refine Rn.ic (v := 1) n49_125 (by decide) ?_
  refine Rn.p n49_126 rfl ?_
  refine Rn.iload n49_127 l7 ?_
  by_cases hc5 : mc1 .eq v7 = true
  · rw [if_pos hc5] at h
    refine Rn.c1t (t := 138) n49_129 (by decide) hc5 ?_
    refine Rn.iload_n n49_138 l3 ?_
    refine Rn.ic (v := 1) n49_139 (by decide) ?_
    refine Rn.p n49_140 rfl ?_
    exact t49_141 hd F hself  _ _ _ _ _ _ lv _ _ _ l4 l7 ok hn  r_v0 h
  · rw [if_neg hc5] at h
    refine Rn.c1f (t := 138) n49_129 (by decide) hc5 ?_
    refine Rn.iload_n n49_132 l3 ?_
    refine Rn.ic (v := 1) n49_133 (by decide) ?_
    refine Rn.p n49_134 rfl ?_
    refine Rn.goto (t := 141) n49_135 (by decide) ?_
    exact t49_141 hd F hself  _ _ _ _ _ _ lv _ _ _ l4 l7 ok hn  r_v0 h
def m49_69 (F : Nat) (self : Nat → Int32 → Int32 → Int32 → Int32 → List mE → Option (Unit × List mE)) (v0 : Nat) (v1 : Int32) (v2 : Int32) (v3 : Int32) (v4 : Int32) (v5 : Int32) (v6 : Int32) (t0 : Int32) (hp : List mE) : Option (Unit × List mE) :=
  (gfr 4 0 hp v0).bind fun x1 =>
  (gfr 4 2 hp v0).bind fun x2 =>
  (gfr 4 2 hp v0).bind fun x3 =>
  (rcv 3 hp x1).bind fun u5 =>
  (e42 F x1 x2 (v2 * 5) x3 v6 hp).bind fun q4 =>
  if mc1 .ne t0 = true then
    m49_107 F self v0 v1 v2 v3 v4 v5 v6 t0 q4.2
  else
    (self v0 v1 (v2 - 1) v3 v4 q4.2).bind fun q7 =>
    m49_107 F self v0 v1 v2 v3 v4 v5 v6 t0 q7.2
theorem t49_69 {d c w n : Nat} (hd : 1 ≤ d) (F : Nat) {self : Nat → Int32 → Int32 → Int32 → Int32 → List mE → Option (Unit × List mE)} (hself : ∀ d', d = d' + 1 → ∀ (a0 : Nat) (a1 : Int32) (a2 : Int32) (a3 : Int32) (a4 : Int32) (hp : List mE) (v : Unit) (hp' : List mE), a0 < hp.length → self a0 a1 a2 a3 a4 hp = some (v, hp') → Rn d' 49 0 (lv_args 0 [.ref a0, .int a1, .int a2, .int a3, .int a4]) [] hp 0 0 (none, hp', 0, 0)) : ∀ (v0 : Nat) (v1 : Int32) (v2 : Int32) (v3 : Int32) (v4 : Int32) (v5 : Int32) (v6 : Int32) (t0 : Int32) (lv : List (Nat × Value)) (hp : List mE) (v : Unit) (hp' : List mE), alk 0 lv = some (.ref v0) → alk 1 lv = some (.int v1) → alk 2 lv = some (.int v2) → alk 3 lv = some (.int v3) → alk 4 lv = some (.int v4) → alk 5 lv = some (.int v5) → alk 6 lv = some (.int v6) → lvk n lv → hp.length = n → v0 < n → m49_69 F self v0 v1 v2 v3 v4 v5 v6 t0 hp = some (v, hp') → Rn d 49 69 lv [.int t0] hp c w (none, hp', c, w) := by
  obtain ⟨d', rfl⟩ : ∃ d', d = d' + 1 := ⟨d - 1, by omega⟩
  intro v0 v1 v2 v3 v4 v5 v6 t0 lv hp v hp' l0 l1 l2 l3 l4 l5 l6 ok hn r_v0 h
  unfold m49_69 at h
  refine Rn.is (m := n) n49_69 ml49 (by decide) (fun lv l7 hk hok => ?_)
  have l0 := hk 0 _ (by decide) (Or.inl rfl) l0
  have l1 := hk 1 _ (by decide) (Or.inl rfl) l1
  have l2 := hk 2 _ (by decide) (Or.inl rfl) l2
  have l3 := hk 3 _ (by decide) (Or.inl rfl) l3
  have l4 := hk 4 _ (by decide) (Or.inl rfl) l4
  have l5 := hk 5 _ (by decide) (Or.inl rfl) l5
  have l6 := hk 6 _ (by decide) (Or.inl rfl) l6
  have ok := hok ok
  refine Rn.aload_n n49_71 l0 ?_
  obtain ⟨x1, hx1, h⟩ := Option.bind_eq_some_iff.mp h
  refine Rn.gf n49_72 mo49 fl4_19 (gfr_v hx1).1 ?_
  have r_x1 : x1 < n := by rw [← hn]; exact (gfr_v hx1).2
  refine Rn.aload_n n49_75 l0 ?_
  obtain ⟨x2, hx2, h⟩ := Option.bind_eq_some_iff.mp h
  refine Rn.gf n49_76 mo49 fl4_9 (gfr_v hx2).1 ?_
  have r_x2 : x2 < n := by rw [← hn]; exact (gfr_v hx2).2
  refine Rn.iload_n n49_79 l2 ?_
  refine Rn.ic (v := 5) n49_80 (by decide) ?_
  refine Rn.p n49_81 rfl ?_
  refine Rn.aload_n n49_82 l0 ?_
  obtain ⟨x3, hx3, h⟩ := Option.bind_eq_some_iff.mp h
  refine Rn.gf n49_83 mo49 fl4_9 (gfr_v hx3).1 ?_
  have r_x3 : x3 < n := by rw [← hn]; exact (gfr_v hx3).2
  refine Rn.iload n49_86 l6 ?_
  obtain ⟨u5, hu5, h⟩ := Option.bind_eq_some_iff.mp h
  obtain ⟨q4, hq4, h⟩ := Option.bind_eq_some_iff.mp h
  have gq4 := c42 (d := d') (by omega) F _ _ _ _ _ _ _ _ (by rw [hn]; exact r_x1) (by rw [hn]; exact r_x2) (by rw [hn]; exact r_x3) hq4
  refine Rn.cv (As := [.ref x2, .int (v2 * 5), .ref x3, .int v6]) (rr := []) n49_88 mo49 mm4_35 (by decide) mq42 rfl rfl rfl rfl (by rw [mo42]; exact hu5) (Nat.le_of_ble_eq_true rfl) (by rw [hn]; exact (okc (okr r_x1) (okc (okr r_x2) (okc rfl (okc (okr r_x3) (okc rfl okn)))))) (by rw [hn]; exact okn) (by rw [hn]; exact ok) (by rw [ml42]; exact Nat.le_of_ble_eq_true rfl) gq4 ?_
  have hn := (Rn.len gq4).trans hn
  show Rn _ 49 91 lv [] q4.2 c w _
  refine Rn.iload n49_91 l7 ?_
  by_cases hc6 : mc1 .ne t0 = true
  · rw [if_pos hc6] at h
    refine Rn.c1t (t := 107) n49_93 (by decide) hc6 ?_
    exact t49_107 hd F hself  _ _ _ _ _ _ _ _ lv _ _ _ l0 l1 l2 l3 l4 l5 l6 l7 ok hn r_v0  h
  · rw [if_neg hc6] at h
    refine Rn.c1f (t := 107) n49_93 (by decide) hc6 ?_
    refine Rn.aload_n n49_96 l0 ?_
    refine Rn.iload_n n49_97 l1 ?_
    refine Rn.iload_n n49_98 l2 ?_
    refine Rn.ic (v := 1) n49_99 (by decide) ?_
    refine Rn.p n49_100 rfl ?_
    refine Rn.iload_n n49_101 l3 ?_
    refine Rn.iload n49_102 l4 ?_
    obtain ⟨q7, hq7, h⟩ := Option.bind_eq_some_iff.mp h
    have gq7 := hself d' rfl _ _ _ _ _ _ _ _ (by rw [hn]; exact r_v0) hq7
    refine Rn.cs (as := [.ref v0, .int v1, .int (v2 - 1), .int v3, .int v4]) (rr := []) n49_104 mo49 mm4_41 mq49 rfl rfl rfl rfl (Nat.le_of_ble_eq_true rfl) (by rw [hn]; exact (okc (okr r_v0) (okc rfl (okc rfl (okc rfl (okc rfl okn)))))) (by rw [hn]; exact okn) (by rw [hn]; exact ok) (by rw [ml49]; exact Nat.le_of_ble_eq_true rfl) gq7 ?_
    have hn := (Rn.len gq7).trans hn
    show Rn _ 49 107 lv [] q7.2 c w _
    exact t49_107 hd F hself  _ _ _ _ _ _ _ _ lv _ _ _ l0 l1 l2 l3 l4 l5 l6 l7 ok hn r_v0  h
def m49_11 (F : Nat) (self : Nat → Int32 → Int32 → Int32 → Int32 → List mE → Option (Unit × List mE)) (hp : List mE) : Option (Unit × List mE) :=
  some ((), hp)
theorem t49_11 {d c w n : Nat} (hd : 1 ≤ d) (F : Nat) {self : Nat → Int32 → Int32 → Int32 → Int32 → List mE → Option (Unit × List mE)} (hself : ∀ d', d = d' + 1 → ∀ (a0 : Nat) (a1 : Int32) (a2 : Int32) (a3 : Int32) (a4 : Int32) (hp : List mE) (v : Unit) (hp' : List mE), a0 < hp.length → self a0 a1 a2 a3 a4 hp = some (v, hp') → Rn d' 49 0 (lv_args 0 [.ref a0, .int a1, .int a2, .int a3, .int a4]) [] hp 0 0 (none, hp', 0, 0)) : ∀ (lv : List (Nat × Value)) (hp : List mE) (v : Unit) (hp' : List mE), lvk n lv → hp.length = n → m49_11 F self hp = some (v, hp') → Rn d 49 11 lv [] hp c w (none, hp', c, w) := by
  obtain ⟨d', rfl⟩ : ∃ d', d = d' + 1 := ⟨d - 1, by omega⟩
  intro lv hp v hp' ok hn h
  unfold m49_11 at h
  have e1 := (Prod.mk.inj (Option.some.inj h)).1
  have e2 := (Prod.mk.inj (Option.some.inj h)).2
  subst e1
  subst e2
  exact Rn.vret n49_11 mr49
def m49_0 (F : Nat) (self : Nat → Int32 → Int32 → Int32 → Int32 → List mE → Option (Unit × List mE)) (v0 : Nat) (v1 : Int32) (v2 : Int32) (v3 : Int32) (v4 : Int32) (hp : List mE) : Option (Unit × List mE) :=
  if mc2 .gt v3 v2 = true then
    m49_11 F self hp
  else
    if mc2 .le v2 8 = true then
      if mc1 .ne v2 = true then
        (gfr 4 1 hp v0).bind fun x4 =>
        (rcv 1 hp x4).bind fun u6 =>
        (e17 F x4 v1 (v2 - 1) hp).bind fun q5 =>
        (gfr 4 2 q5.2 v0).bind fun x7 =>
        (rdJ q5.2 x7 ((v2 * 5) + q5.1)).bind fun x8 =>
        if mc1 .ge (lg_cmp x8 0) = true then
          m49_69 F self v0 v1 v2 v3 v4 q5.1 ((v2 - 1) * 5) 0 q5.2
        else
          m49_69 F self v0 v1 v2 v3 v4 q5.1 ((v2 - 1) * 5) 1 q5.2
      else
        (gfr 4 3 hp v0).bind fun x10 =>
        (rdI hp x10 v4).bind fun x11 =>
        (wrI hp x10 v4 (x11 + 1)).bind fun hp12 =>
        some ((), hp12)
    else
      m49_11 F self hp
theorem t49_0 {d c w n : Nat} (hd : 1 ≤ d) (F : Nat) {self : Nat → Int32 → Int32 → Int32 → Int32 → List mE → Option (Unit × List mE)} (hself : ∀ d', d = d' + 1 → ∀ (a0 : Nat) (a1 : Int32) (a2 : Int32) (a3 : Int32) (a4 : Int32) (hp : List mE) (v : Unit) (hp' : List mE), a0 < hp.length → self a0 a1 a2 a3 a4 hp = some (v, hp') → Rn d' 49 0 (lv_args 0 [.ref a0, .int a1, .int a2, .int a3, .int a4]) [] hp 0 0 (none, hp', 0, 0)) : ∀ (v0 : Nat) (v1 : Int32) (v2 : Int32) (v3 : Int32) (v4 : Int32) (lv : List (Nat × Value)) (hp : List mE) (v : Unit) (hp' : List mE), alk 0 lv = some (.ref v0) → alk 1 lv = some (.int v1) → alk 2 lv = some (.int v2) → alk 3 lv = some (.int v3) → alk 4 lv = some (.int v4) → lvk n lv → hp.length = n → v0 < n → m49_0 F self v0 v1 v2 v3 v4 hp = some (v, hp') → Rn d 49 0 lv [] hp c w (none, hp', c, w) := by
  obtain ⟨d', rfl⟩ : ∃ d', d = d' + 1 := ⟨d - 1, by omega⟩
  intro v0 v1 v2 v3 v4 lv hp v hp' l0 l1 l2 l3 l4 ok hn r_v0 h
  unfold m49_0 at h
  refine Rn.iload_n n49_0 l3 ?_
  refine Rn.iload_n n49_1 l2 ?_
  by_cases hc1 : mc2 .gt v3 v2 = true
  · rw [if_pos hc1] at h
    refine Rn.c2t (t := 11) n49_2 (by decide) hc1 ?_
    exact t49_11 hd F hself  lv _ _ _  ok hn   h
  · rw [if_neg hc1] at h
    refine Rn.c2f (t := 11) n49_2 (by decide) hc1 ?_
    refine Rn.iload_n n49_5 l2 ?_
    refine Rn.bp (v := 8) n49_6 (by decide) ?_
    by_cases hc2 : mc2 .le v2 8 = true
    · rw [if_pos hc2] at h
      refine Rn.c2t (t := 12) n49_8 (by decide) hc2 ?_
      refine Rn.iload_n n49_12 l2 ?_
      by_cases hc3 : mc1 .ne v2 = true
      · rw [if_pos hc3] at h
        refine Rn.c1t (t := 28) n49_13 (by decide) hc3 ?_
        refine Rn.aload_n n49_28 l0 ?_
        obtain ⟨x4, hx4, h⟩ := Option.bind_eq_some_iff.mp h
        refine Rn.gf n49_29 mo49 fl4_23 (gfr_v hx4).1 ?_
        have r_x4 : x4 < n := by rw [← hn]; exact (gfr_v hx4).2
        refine Rn.iload_n n49_32 l1 ?_
        refine Rn.iload_n n49_33 l2 ?_
        refine Rn.ic (v := 1) n49_34 (by decide) ?_
        refine Rn.p n49_35 rfl ?_
        obtain ⟨u6, hu6, h⟩ := Option.bind_eq_some_iff.mp h
        obtain ⟨q5, hq5, h⟩ := Option.bind_eq_some_iff.mp h
        have gq5 := c17 (d := d') (by omega) F _ _ _ _ _ _ (by rw [hn]; exact r_x4) hq5
        refine Rn.cv (As := [.int v1, .int (v2 - 1)]) (rr := []) n49_36 mo49 mm4_49 (by decide) mq17 rfl rfl rfl rfl (by rw [mo17]; exact hu6) (Nat.le_of_ble_eq_true rfl) (by rw [hn]; exact (okc (okr r_x4) (okc rfl (okc rfl okn)))) (by rw [hn]; exact okn) (by rw [hn]; exact ok) (by rw [ml17]; exact Nat.le_of_ble_eq_true rfl) gq5 ?_
        have hn := (Rn.len gq5).trans hn
        show Rn _ 49 39 lv [.int q5.1] q5.2 c w _
        refine Rn.is (m := n) n49_39 ml49 (by decide) (fun lv l5 hk hok => ?_)
        have l0 := hk 0 _ (by decide) (Or.inl rfl) l0
        have l1 := hk 1 _ (by decide) (Or.inl rfl) l1
        have l2 := hk 2 _ (by decide) (Or.inl rfl) l2
        have l3 := hk 3 _ (by decide) (Or.inl rfl) l3
        have l4 := hk 4 _ (by decide) (Or.inl rfl) l4
        have ok := hok ok
        refine Rn.iload_n n49_41 l2 ?_
        refine Rn.ic (v := 1) n49_42 (by decide) ?_
        refine Rn.p n49_43 rfl ?_
        refine Rn.ic (v := 5) n49_44 (by decide) ?_
        refine Rn.p n49_45 rfl ?_
        refine Rn.is (m := n) n49_46 ml49 (by decide) (fun lv l6 hk hok => ?_)
        have l0 := hk 0 _ (by decide) (Or.inl rfl) l0
        have l1 := hk 1 _ (by decide) (Or.inl rfl) l1
        have l2 := hk 2 _ (by decide) (Or.inl rfl) l2
        have l3 := hk 3 _ (by decide) (Or.inl rfl) l3
        have l4 := hk 4 _ (by decide) (Or.inl rfl) l4
        have l5 := hk 5 _ (by decide) (Or.inl rfl) l5
        have ok := hok ok
        refine Rn.aload_n n49_48 l0 ?_
        obtain ⟨x7, hx7, h⟩ := Option.bind_eq_some_iff.mp h
        refine Rn.gf n49_49 mo49 fl4_9 (gfr_v hx7).1 ?_
        have r_x7 : x7 < n := by rw [← hn]; exact (gfr_v hx7).2
        refine Rn.iload_n n49_52 l2 ?_
        refine Rn.ic (v := 5) n49_53 (by decide) ?_
        refine Rn.p n49_54 rfl ?_
        refine Rn.iload n49_55 l5 ?_
        refine Rn.p n49_57 rfl ?_
        obtain ⟨x8, hx8, h⟩ := Option.bind_eq_some_iff.mp h
        refine Rn.lald n49_58 hx8 ?_
        refine Rn.lc (v := 0) n49_59 (by decide) ?_
        refine Rn.p n49_60 rfl ?_
        by_cases hc9 : mc1 .ge (lg_cmp x8 0) = true
        · rw [if_pos hc9] at h
          refine Rn.c1t (t := 68) n49_61 (by decide) hc9 ?_
          refine Rn.ic (v := 0) n49_68 (by decide) ?_
          exact t49_69 hd F hself  _ _ _ _ _ _ _ _ lv _ _ _ l0 l1 l2 l3 l4 l5 l6 ok hn r_v0  h
        · rw [if_neg hc9] at h
          refine Rn.c1f (t := 68) n49_61 (by decide) hc9 ?_
          refine Rn.ic (v := 1) n49_64 (by decide) ?_
          refine Rn.goto (t := 69) n49_65 (by decide) ?_
          exact t49_69 hd F hself  _ _ _ _ _ _ _ _ lv _ _ _ l0 l1 l2 l3 l4 l5 l6 ok hn r_v0  h
      · rw [if_neg hc3] at h
        refine Rn.c1f (t := 28) n49_13 (by decide) hc3 ?_
        refine Rn.aload_n n49_16 l0 ?_
        obtain ⟨x10, hx10, h⟩ := Option.bind_eq_some_iff.mp h
        refine Rn.gf n49_17 mo49 fl4_15 (gfr_v hx10).1 ?_
        have r_x10 : x10 < n := by rw [← hn]; exact (gfr_v hx10).2
        refine Rn.iload n49_20 l4 ?_
        refine Rn.p n49_22 rfl ?_
        obtain ⟨x11, hx11, h⟩ := Option.bind_eq_some_iff.mp h
        refine Rn.iald n49_23 hx11 ?_
        refine Rn.ic (v := 1) n49_24 (by decide) ?_
        refine Rn.p n49_25 rfl ?_
        obtain ⟨hp12, hhp12, h⟩ := Option.bind_eq_some_iff.mp h
        refine Rn.iast n49_26 hhp12 ?_
        have hn := (wrI_st (st := []) hhp12).2.trans hn
        have e1 := (Prod.mk.inj (Option.some.inj h)).1
        have e2 := (Prod.mk.inj (Option.some.inj h)).2
        subst e1
        subst e2
        exact Rn.vret n49_27 mr49
    · rw [if_neg hc2] at h
      refine Rn.c2f (t := 12) n49_8 (by decide) hc2 ?_
      exact t49_11 hd F hself  lv _ _ _  ok hn   h
def e49 (F : Nat) : Nat → Nat → Int32 → Int32 → Int32 → Int32 → List mE → Option (Unit × List mE)
  | 0, _, _, _, _, _, _ => none
  | g + 1, a0, a1, a2, a3, a4, hp => m49_0 F (e49 F g) a0 a1 a2 a3 a4 hp
theorem c49 (F : Nat) : ∀ (g : Nat) {d : Nat}, 1 + g ≤ d → ∀ (a0 : Nat) (a1 : Int32) (a2 : Int32) (a3 : Int32) (a4 : Int32) (hp : List mE) (v : Unit) (hp' : List mE), a0 < hp.length → e49 F g a0 a1 a2 a3 a4 hp = some (v, hp') → Rn d 49 0 (lv_args 0 [.ref a0, .int a1, .int a2, .int a3, .int a4]) [] hp 0 0 (none, hp', 0, 0) := by
  intro g
  induction g with
  | zero => intro d hd a0 a1 a2 a3 a4 hp v hp' ra0 h; cases h
  | succ g ih =>
    intro d hd a0 a1 a2 a3 a4 hp v hp' ra0 h
    unfold e49 at h
    exact t49_0 (n := hp.length) (by omega) F (fun d' hd' b0 b1 b2 b3 b4 hp v hp' ra0 h => ih (by omega) b0 b1 b2 b3 b4 hp v hp' ra0 h) a0 a1 a2 a3 a4 (lv_args 0 [.ref a0, .int a1, .int a2, .int a3, .int a4]) hp v hp' rfl rfl rfl rfl rfl (lvk_args (okc (okr ra0) (okc rfl (okc rfl (okc rfl (okc rfl okn)))))) rfl ra0 h
/-! MirrorRoots$Paths.numberAt -/
def m48_120 (F : Nat) : Nat → Nat → Int32 → Int32 → Int32 → Int32 → List mE → Option (Int32 × List mE)
  | 0, _, _, _, _, _, _ => none
  | f + 1, v0, v3, v4, v5, v6, hp =>
    if mc2 .gt (2 * v6) v4 = true then
      some (v5, hp)
    else
      (gfr 4 3 hp v0).bind fun x2 =>
      (rdI hp x2 v6).bind fun x3 =>
      (e50 F (v4 - (2 * v6)) (v3 - v6) hp).bind fun q4 =>
      m48_120 F f v0 v3 v4 (v5 + (x3 * q4.1)) (v6 + 1) q4.2
theorem t48_120 {d c w n : Nat} (hd : 14 ≤ d) (F : Nat) : ∀ f : Nat, ∀ (v0 : Nat) (v3 : Int32) (v4 : Int32) (v5 : Int32) (v6 : Int32) (lv : List (Nat × Value)) (hp : List mE) (v : Int32) (hp' : List mE), alk 0 lv = some (.ref v0) → alk 3 lv = some (.int v3) → alk 4 lv = some (.int v4) → alk 5 lv = some (.int v5) → alk 6 lv = some (.int v6) → lvk n lv → hp.length = n → v0 < n → m48_120 F f v0 v3 v4 v5 v6 hp = some (v, hp') → Rn d 48 120 lv [] hp c w (some (.int v), hp', c, w) := by
  obtain ⟨d', rfl⟩ : ∃ d', d = d' + 1 := ⟨d - 1, by omega⟩
  intro f
  induction f with
  | zero => intro v0 v3 v4 v5 v6 lv hp v hp' l0 l3 l4 l5 l6 ok hn r_v0 h; cases h
  | succ f hr120 =>
    intro v0 v3 v4 v5 v6 lv hp v hp' l0 l3 l4 l5 l6 ok hn r_v0 h
    unfold m48_120 at h
    refine Rn.ic (v := 2) n48_120 (by decide) ?_
    refine Rn.iload n48_121 l6 ?_
    refine Rn.p n48_123 rfl ?_
    refine Rn.iload n48_124 l4 ?_
    by_cases hc1 : mc2 .gt (2 * v6) v4 = true
    · rw [if_pos hc1] at h
      refine Rn.c2t (t := 162) n48_126 (by decide) hc1 ?_
      refine Rn.iload n48_162 l5 ?_
      have e1 := (Prod.mk.inj (Option.some.inj h)).1
      have e2 := (Prod.mk.inj (Option.some.inj h)).2
      subst e1
      subst e2
      exact Rn.iret n48_164 mr48
    · rw [if_neg hc1] at h
      refine Rn.c2f (t := 162) n48_126 (by decide) hc1 ?_
      refine Rn.iload n48_129 l5 ?_
      refine Rn.aload_n n48_131 l0 ?_
      obtain ⟨x2, hx2, h⟩ := Option.bind_eq_some_iff.mp h
      refine Rn.gf n48_132 mo48 fl4_15 (gfr_v hx2).1 ?_
      have r_x2 : x2 < n := by rw [← hn]; exact (gfr_v hx2).2
      refine Rn.iload n48_135 l6 ?_
      obtain ⟨x3, hx3, h⟩ := Option.bind_eq_some_iff.mp h
      refine Rn.iald n48_137 hx3 ?_
      refine Rn.iload n48_138 l4 ?_
      refine Rn.ic (v := 2) n48_140 (by decide) ?_
      refine Rn.iload n48_141 l6 ?_
      refine Rn.p n48_143 rfl ?_
      refine Rn.p n48_144 rfl ?_
      refine Rn.iload_n n48_145 l3 ?_
      refine Rn.iload n48_146 l6 ?_
      refine Rn.p n48_148 rfl ?_
      obtain ⟨q4, hq4, h⟩ := Option.bind_eq_some_iff.mp h
      have gq4 := c50 (d := d') (by omega) F _ _ _ _ _  hq4
      refine Rn.cs (as := [.int (v4 - (2 * v6)), .int (v3 - v6)]) (rr := [.int x3, .int v5]) n48_149 mo48 mm4_45 mq50 rfl rfl rfl rfl (Nat.le_of_ble_eq_true rfl) (by rw [hn]; exact (okc rfl (okc rfl okn))) (by rw [hn]; exact (okc rfl (okc rfl okn))) (by rw [hn]; exact ok) (by rw [ml50]; exact Nat.le_of_ble_eq_true rfl) gq4 ?_
      have hn := (Rn.len gq4).trans hn
      show Rn _ 48 152 lv [.int q4.1, .int x3, .int v5] q4.2 c w _
      refine Rn.p n48_152 rfl ?_
      refine Rn.p n48_153 rfl ?_
      refine Rn.is (m := n) n48_154 ml48 (by decide) (fun lv l5 hk hok => ?_)
      have l0 := hk 0 _ (by decide) (Or.inl rfl) l0
      have l3 := hk 3 _ (by decide) (Or.inl rfl) l3
      have l4 := hk 4 _ (by decide) (Or.inl rfl) l4
      have l6 := hk 6 _ (by decide) (Or.inl rfl) l6
      have ok := hok ok
      refine Rn.ii (m := n) (u := 1) n48_156 ml48 (by decide) (by decide) l6 (fun lv l6 hk hok => ?_)
      have l0 := hk 0 _ (by decide) (Or.inl rfl) l0
      have l3 := hk 3 _ (by decide) (Or.inl rfl) l3
      have l4 := hk 4 _ (by decide) (Or.inl rfl) l4
      have l5 := hk 5 _ (by decide) (Or.inl rfl) l5
      have ok := hok ok
      refine Rn.goto (t := 120) n48_159 (by decide) ?_
      exact hr120 _ _ _ _ _ lv _ _ _ l0 l3 l4 l5 l6 ok hn r_v0  h
def m48_37 (F : Nat) : Nat → Nat → Int32 → Int32 → Int32 → Int32 → Int32 → List mE → Option (Int32 × List mE)
  | 0, _, _, _, _, _, _, _ => none
  | f + 1, v0, v1, v2, v3, v4, v5, hp =>
    if mc2 .gt v5 8 = true then
      (gfr 4 0 hp v0).bind fun x2 =>
      (gfr 4 1 hp v0).bind fun x3 =>
      (gfr 1 5 hp x3).bind fun x4 =>
      (gfr 4 2 hp v0).bind fun x5 =>
      (gfr 4 1 hp v0).bind fun x6 =>
      (gfr 1 3 hp x6).bind fun x7 =>
      (rdI hp x7 v2).bind fun x8 =>
      (rcv 3 hp x2).bind fun u10 =>
      (e42 F x2 x4 (v1 * 5) x5 (x8 * 5) hp).bind fun q9 =>
      (gfr 4 1 q9.2 v0).bind fun x11 =>
      (gfr 1 3 q9.2 x11).bind fun x12 =>
      (rdI q9.2 x12 v2).bind fun x13 =>
      (gfr 4 1 q9.2 v0).bind fun x14 =>
      (gfr 1 3 q9.2 x14).bind fun x15 =>
      (rdI q9.2 x15 v1).bind fun x16 =>
      (e49 F 12 v0 v2 x13 x16 0 q9.2).bind fun q17 =>
      m48_120 F F v0 v3 v4 0 0 q17.2
    else
      (gfr 4 3 hp v0).bind fun x18 =>
      (wrI hp x18 v5 0).bind fun hp19 =>
      m48_37 F f v0 v1 v2 v3 v4 (v5 + 1) hp19
theorem t48_37 {d c w n : Nat} (hd : 14 ≤ d) (F : Nat) : ∀ f : Nat, ∀ (v0 : Nat) (v1 : Int32) (v2 : Int32) (v3 : Int32) (v4 : Int32) (v5 : Int32) (lv : List (Nat × Value)) (hp : List mE) (v : Int32) (hp' : List mE), alk 0 lv = some (.ref v0) → alk 1 lv = some (.int v1) → alk 2 lv = some (.int v2) → alk 3 lv = some (.int v3) → alk 4 lv = some (.int v4) → alk 5 lv = some (.int v5) → lvk n lv → hp.length = n → v0 < n → m48_37 F f v0 v1 v2 v3 v4 v5 hp = some (v, hp') → Rn d 48 37 lv [] hp c w (some (.int v), hp', c, w) := by
  obtain ⟨d', rfl⟩ : ∃ d', d = d' + 1 := ⟨d - 1, by omega⟩
  intro f
  induction f with
  | zero => intro v0 v1 v2 v3 v4 v5 lv hp v hp' l0 l1 l2 l3 l4 l5 ok hn r_v0 h; cases h
  | succ f hr37 =>
    intro v0 v1 v2 v3 v4 v5 lv hp v hp' l0 l1 l2 l3 l4 l5 ok hn r_v0 h
    unfold m48_37 at h
    refine Rn.iload n48_37 l5 ?_
    refine Rn.bp (v := 8) n48_39 (by decide) ?_
    by_cases hc1 : mc2 .gt v5 8 = true
    · rw [if_pos hc1] at h
      refine Rn.c2t (t := 58) n48_41 (by decide) hc1 ?_
      refine Rn.aload_n n48_58 l0 ?_
      obtain ⟨x2, hx2, h⟩ := Option.bind_eq_some_iff.mp h
      refine Rn.gf n48_59 mo48 fl4_19 (gfr_v hx2).1 ?_
      have r_x2 : x2 < n := by rw [← hn]; exact (gfr_v hx2).2
      refine Rn.aload_n n48_62 l0 ?_
      obtain ⟨x3, hx3, h⟩ := Option.bind_eq_some_iff.mp h
      refine Rn.gf n48_63 mo48 fl4_23 (gfr_v hx3).1 ?_
      have r_x3 : x3 < n := by rw [← hn]; exact (gfr_v hx3).2
      obtain ⟨x4, hx4, h⟩ := Option.bind_eq_some_iff.mp h
      refine Rn.gf n48_66 mo48 fl4_32 (gfr_v hx4).1 ?_
      have r_x4 : x4 < n := by rw [← hn]; exact (gfr_v hx4).2
      refine Rn.iload_n n48_69 l1 ?_
      refine Rn.ic (v := 5) n48_70 (by decide) ?_
      refine Rn.p n48_71 rfl ?_
      refine Rn.aload_n n48_72 l0 ?_
      obtain ⟨x5, hx5, h⟩ := Option.bind_eq_some_iff.mp h
      refine Rn.gf n48_73 mo48 fl4_9 (gfr_v hx5).1 ?_
      have r_x5 : x5 < n := by rw [← hn]; exact (gfr_v hx5).2
      refine Rn.aload_n n48_76 l0 ?_
      obtain ⟨x6, hx6, h⟩ := Option.bind_eq_some_iff.mp h
      refine Rn.gf n48_77 mo48 fl4_23 (gfr_v hx6).1 ?_
      have r_x6 : x6 < n := by rw [← hn]; exact (gfr_v hx6).2
      obtain ⟨x7, hx7, h⟩ := Option.bind_eq_some_iff.mp h
      refine Rn.gf n48_80 mo48 fl4_27 (gfr_v hx7).1 ?_
      have r_x7 : x7 < n := by rw [← hn]; exact (gfr_v hx7).2
      refine Rn.iload_n n48_83 l2 ?_
      obtain ⟨x8, hx8, h⟩ := Option.bind_eq_some_iff.mp h
      refine Rn.iald n48_84 hx8 ?_
      refine Rn.ic (v := 5) n48_85 (by decide) ?_
      refine Rn.p n48_86 rfl ?_
      obtain ⟨u10, hu10, h⟩ := Option.bind_eq_some_iff.mp h
      obtain ⟨q9, hq9, h⟩ := Option.bind_eq_some_iff.mp h
      have gq9 := c42 (d := d') (by omega) F _ _ _ _ _ _ _ _ (by rw [hn]; exact r_x2) (by rw [hn]; exact r_x4) (by rw [hn]; exact r_x5) hq9
      refine Rn.cv (As := [.ref x4, .int (v1 * 5), .ref x5, .int (x8 * 5)]) (rr := []) n48_87 mo48 mm4_35 (by decide) mq42 rfl rfl rfl rfl (by rw [mo42]; exact hu10) (Nat.le_of_ble_eq_true rfl) (by rw [hn]; exact (okc (okr r_x2) (okc (okr r_x4) (okc rfl (okc (okr r_x5) (okc rfl okn)))))) (by rw [hn]; exact okn) (by rw [hn]; exact ok) (by rw [ml42]; exact Nat.le_of_ble_eq_true rfl) gq9 ?_
      have hn := (Rn.len gq9).trans hn
      show Rn _ 48 90 lv [] q9.2 c w _
      refine Rn.aload_n n48_90 l0 ?_
      refine Rn.iload_n n48_91 l2 ?_
      refine Rn.aload_n n48_92 l0 ?_
      obtain ⟨x11, hx11, h⟩ := Option.bind_eq_some_iff.mp h
      refine Rn.gf n48_93 mo48 fl4_23 (gfr_v hx11).1 ?_
      have r_x11 : x11 < n := by rw [← hn]; exact (gfr_v hx11).2
      obtain ⟨x12, hx12, h⟩ := Option.bind_eq_some_iff.mp h
      refine Rn.gf n48_96 mo48 fl4_27 (gfr_v hx12).1 ?_
      have r_x12 : x12 < n := by rw [← hn]; exact (gfr_v hx12).2
      refine Rn.iload_n n48_99 l2 ?_
      obtain ⟨x13, hx13, h⟩ := Option.bind_eq_some_iff.mp h
      refine Rn.iald n48_100 hx13 ?_
      refine Rn.aload_n n48_101 l0 ?_
      obtain ⟨x14, hx14, h⟩ := Option.bind_eq_some_iff.mp h
      refine Rn.gf n48_102 mo48 fl4_23 (gfr_v hx14).1 ?_
      have r_x14 : x14 < n := by rw [← hn]; exact (gfr_v hx14).2
      obtain ⟨x15, hx15, h⟩ := Option.bind_eq_some_iff.mp h
      refine Rn.gf n48_105 mo48 fl4_27 (gfr_v hx15).1 ?_
      have r_x15 : x15 < n := by rw [← hn]; exact (gfr_v hx15).2
      refine Rn.iload_n n48_108 l1 ?_
      obtain ⟨x16, hx16, h⟩ := Option.bind_eq_some_iff.mp h
      refine Rn.iald n48_109 hx16 ?_
      refine Rn.ic (v := 0) n48_110 (by decide) ?_
      obtain ⟨q17, hq17, h⟩ := Option.bind_eq_some_iff.mp h
      have gq17 := c49 F 12 (d := d') (by omega) _ _ _ _ _ _ _ _ (by rw [hn]; exact r_v0) hq17
      refine Rn.cs (as := [.ref v0, .int v2, .int x13, .int x16, .int 0]) (rr := []) n48_111 mo48 mm4_41 mq49 rfl rfl rfl rfl (Nat.le_of_ble_eq_true rfl) (by rw [hn]; exact (okc (okr r_v0) (okc rfl (okc rfl (okc rfl (okc rfl okn)))))) (by rw [hn]; exact okn) (by rw [hn]; exact ok) (by rw [ml49]; exact Nat.le_of_ble_eq_true rfl) gq17 ?_
      have hn := (Rn.len gq17).trans hn
      show Rn _ 48 114 lv [] q17.2 c w _
      refine Rn.ic (v := 0) n48_114 (by decide) ?_
      refine Rn.is (m := n) n48_115 ml48 (by decide) (fun lv l5 hk hok => ?_)
      have l0 := hk 0 _ (by decide) (Or.inl rfl) l0
      have l1 := hk 1 _ (by decide) (Or.inl rfl) l1
      have l2 := hk 2 _ (by decide) (Or.inl rfl) l2
      have l3 := hk 3 _ (by decide) (Or.inl rfl) l3
      have l4 := hk 4 _ (by decide) (Or.inl rfl) l4
      have ok := hok ok
      refine Rn.ic (v := 0) n48_117 (by decide) ?_
      refine Rn.is (m := n) n48_118 ml48 (by decide) (fun lv l6 hk hok => ?_)
      have l0 := hk 0 _ (by decide) (Or.inl rfl) l0
      have l1 := hk 1 _ (by decide) (Or.inl rfl) l1
      have l2 := hk 2 _ (by decide) (Or.inl rfl) l2
      have l3 := hk 3 _ (by decide) (Or.inl rfl) l3
      have l4 := hk 4 _ (by decide) (Or.inl rfl) l4
      have l5 := hk 5 _ (by decide) (Or.inl rfl) l5
      have ok := hok ok
      exact t48_120 hd F  F _ _ _ _ _ lv _ _ _ l0 l3 l4 l5 l6 ok hn r_v0  h
    · rw [if_neg hc1] at h
      refine Rn.c2f (t := 58) n48_41 (by decide) hc1 ?_
      refine Rn.aload_n n48_44 l0 ?_
      obtain ⟨x18, hx18, h⟩ := Option.bind_eq_some_iff.mp h
      refine Rn.gf n48_45 mo48 fl4_15 (gfr_v hx18).1 ?_
      have r_x18 : x18 < n := by rw [← hn]; exact (gfr_v hx18).2
      refine Rn.iload n48_48 l5 ?_
      refine Rn.ic (v := 0) n48_50 (by decide) ?_
      obtain ⟨hp19, hhp19, h⟩ := Option.bind_eq_some_iff.mp h
      refine Rn.iast n48_51 hhp19 ?_
      have hn := (wrI_st (st := []) hhp19).2.trans hn
      refine Rn.ii (m := n) (u := 1) n48_52 ml48 (by decide) (by decide) l5 (fun lv l5 hk hok => ?_)
      have l0 := hk 0 _ (by decide) (Or.inl rfl) l0
      have l1 := hk 1 _ (by decide) (Or.inl rfl) l1
      have l2 := hk 2 _ (by decide) (Or.inl rfl) l2
      have l3 := hk 3 _ (by decide) (Or.inl rfl) l3
      have l4 := hk 4 _ (by decide) (Or.inl rfl) l4
      have ok := hok ok
      refine Rn.goto (t := 37) n48_55 (by decide) ?_
      exact hr37 _ _ _ _ _ _ lv _ _ _ l0 l1 l2 l3 l4 l5 ok hn r_v0  h
def m48_32 (F : Nat) (hp : List mE) : Option (Int32 × List mE) :=
  some (0, hp)
theorem t48_32 {d c w n : Nat} (hd : 14 ≤ d) (F : Nat) : ∀ (lv : List (Nat × Value)) (hp : List mE) (v : Int32) (hp' : List mE), lvk n lv → hp.length = n → m48_32 F hp = some (v, hp') → Rn d 48 32 lv [] hp c w (some (.int v), hp', c, w) := by
  obtain ⟨d', rfl⟩ : ∃ d', d = d' + 1 := ⟨d - 1, by omega⟩
  intro lv hp v hp' ok hn h
  unfold m48_32 at h
  refine Rn.ic (v := 0) n48_32 (by decide) ?_
  have e1 := (Prod.mk.inj (Option.some.inj h)).1
  have e2 := (Prod.mk.inj (Option.some.inj h)).2
  subst e1
  subst e2
  exact Rn.iret n48_33 mr48
def m48_0 (F : Nat) (v0 : Nat) (v1 : Int32) (v2 : Int32) (v3 : Int32) (hp : List mE) : Option (Int32 × List mE) :=
  (gfr 4 1 hp v0).bind fun x1 =>
  (gfr 1 3 hp x1).bind fun x2 =>
  (rdI hp x2 v2).bind fun x3 =>
  (gfr 4 1 hp v0).bind fun x4 =>
  (gfr 1 3 hp x4).bind fun x5 =>
  (rdI hp x5 v1).bind fun x6 =>
  if mc1 .lt (x3 - x6) = true then
    m48_32 F hp
  else
    if mc2 .le v3 (x3 - x6) = true then
      m48_37 F F v0 v1 v2 v3 (x3 - x6) 0 hp
    else
      m48_32 F hp
theorem t48_0 {d c w n : Nat} (hd : 14 ≤ d) (F : Nat) : ∀ (v0 : Nat) (v1 : Int32) (v2 : Int32) (v3 : Int32) (lv : List (Nat × Value)) (hp : List mE) (v : Int32) (hp' : List mE), alk 0 lv = some (.ref v0) → alk 1 lv = some (.int v1) → alk 2 lv = some (.int v2) → alk 3 lv = some (.int v3) → lvk n lv → hp.length = n → v0 < n → m48_0 F v0 v1 v2 v3 hp = some (v, hp') → Rn d 48 0 lv [] hp c w (some (.int v), hp', c, w) := by
  obtain ⟨d', rfl⟩ : ∃ d', d = d' + 1 := ⟨d - 1, by omega⟩
  intro v0 v1 v2 v3 lv hp v hp' l0 l1 l2 l3 ok hn r_v0 h
  unfold m48_0 at h
  refine Rn.aload_n n48_0 l0 ?_
  obtain ⟨x1, hx1, h⟩ := Option.bind_eq_some_iff.mp h
  refine Rn.gf n48_1 mo48 fl4_23 (gfr_v hx1).1 ?_
  have r_x1 : x1 < n := by rw [← hn]; exact (gfr_v hx1).2
  obtain ⟨x2, hx2, h⟩ := Option.bind_eq_some_iff.mp h
  refine Rn.gf n48_4 mo48 fl4_27 (gfr_v hx2).1 ?_
  have r_x2 : x2 < n := by rw [← hn]; exact (gfr_v hx2).2
  refine Rn.iload_n n48_7 l2 ?_
  obtain ⟨x3, hx3, h⟩ := Option.bind_eq_some_iff.mp h
  refine Rn.iald n48_8 hx3 ?_
  refine Rn.aload_n n48_9 l0 ?_
  obtain ⟨x4, hx4, h⟩ := Option.bind_eq_some_iff.mp h
  refine Rn.gf n48_10 mo48 fl4_23 (gfr_v hx4).1 ?_
  have r_x4 : x4 < n := by rw [← hn]; exact (gfr_v hx4).2
  obtain ⟨x5, hx5, h⟩ := Option.bind_eq_some_iff.mp h
  refine Rn.gf n48_13 mo48 fl4_27 (gfr_v hx5).1 ?_
  have r_x5 : x5 < n := by rw [← hn]; exact (gfr_v hx5).2
  refine Rn.iload_n n48_16 l1 ?_
  obtain ⟨x6, hx6, h⟩ := Option.bind_eq_some_iff.mp h
  refine Rn.iald n48_17 hx6 ?_
  refine Rn.p n48_18 rfl ?_
  refine Rn.is (m := n) n48_19 ml48 (by decide) (fun lv l4 hk hok => ?_)
  have l0 := hk 0 _ (by decide) (Or.inl rfl) l0
  have l1 := hk 1 _ (by decide) (Or.inl rfl) l1
  have l2 := hk 2 _ (by decide) (Or.inl rfl) l2
  have l3 := hk 3 _ (by decide) (Or.inl rfl) l3
  have ok := hok ok
  refine Rn.iload n48_21 l4 ?_
  by_cases hc7 : mc1 .lt (x3 - x6) = true
  · rw [if_pos hc7] at h
    refine Rn.c1t (t := 32) n48_23 (by decide) hc7 ?_
    exact t48_32 hd F  lv _ _ _  ok hn   h
  · rw [if_neg hc7] at h
    refine Rn.c1f (t := 32) n48_23 (by decide) hc7 ?_
    refine Rn.iload_n n48_26 l3 ?_
    refine Rn.iload n48_27 l4 ?_
    by_cases hc8 : mc2 .le v3 (x3 - x6) = true
    · rw [if_pos hc8] at h
      refine Rn.c2t (t := 34) n48_29 (by decide) hc8 ?_
      refine Rn.ic (v := 0) n48_34 (by decide) ?_
      refine Rn.is (m := n) n48_35 ml48 (by decide) (fun lv l5 hk hok => ?_)
      have l0 := hk 0 _ (by decide) (Or.inl rfl) l0
      have l1 := hk 1 _ (by decide) (Or.inl rfl) l1
      have l2 := hk 2 _ (by decide) (Or.inl rfl) l2
      have l3 := hk 3 _ (by decide) (Or.inl rfl) l3
      have l4 := hk 4 _ (by decide) (Or.inl rfl) l4
      have ok := hok ok
      exact t48_37 hd F  F _ _ _ _ _ _ lv _ _ _ l0 l1 l2 l3 l4 l5 ok hn r_v0  h
    · rw [if_neg hc8] at h
      refine Rn.c2f (t := 34) n48_29 (by decide) hc8 ?_
      exact t48_32 hd F  lv _ _ _  ok hn   h
def e48 (F : Nat) (a0 : Nat) (a1 : Int32) (a2 : Int32) (a3 : Int32) (hp : List mE) : Option (Int32 × List mE) := m48_0 F a0 a1 a2 a3 hp
theorem c48 {d : Nat} (hd : 14 ≤ d) (F : Nat) (a0 : Nat) (a1 : Int32) (a2 : Int32) (a3 : Int32) (hp : List mE) (v : Int32) (hp' : List mE) (ra0 : a0 < hp.length) (h : e48 F a0 a1 a2 a3 hp = some (v, hp')) : Rn d 48 0 (lv_args 0 [.ref a0, .int a1, .int a2, .int a3]) [] hp 0 0 (some (.int v), hp', 0, 0) :=
  t48_0 (n := hp.length) hd F a0 a1 a2 a3 (lv_args 0 [.ref a0, .int a1, .int a2, .int a3]) hp v hp' rfl rfl rfl rfl (lvk_args (okc (okr ra0) (okc rfl (okc rfl (okc rfl okn))))) rfl ra0 h
/-! MirrorRoots.forgetCounted -/
def m106_42 (F : Nat) (hp : List mE) : Option (Unit × List mE) :=
  some ((), hp)
theorem t106_42 {d c w n : Nat} (hd : 1 ≤ d) (F : Nat) : ∀ (lv : List (Nat × Value)) (hp : List mE) (v : Unit) (hp' : List mE), lvk n lv → hp.length = n → m106_42 F hp = some (v, hp') → Rn d 106 42 lv [] hp c w (none, hp', c, w) := by
  obtain ⟨d', rfl⟩ : ∃ d', d = d' + 1 := ⟨d - 1, by omega⟩
  intro lv hp v hp' ok hn h
  unfold m106_42 at h
  have e1 := (Prod.mk.inj (Option.some.inj h)).1
  have e2 := (Prod.mk.inj (Option.some.inj h)).2
  subst e1
  subst e2
  exact Rn.vret n106_42 mr106
def m106_28 (F : Nat) (v0 : Nat) (hp : List mE) : Option (Unit × List mE) :=
  (gfq 10 10 hp v0).bind fun x1 =>
  if x1 = none then
    m106_42 F hp
  else
    (gfr 10 10 hp v0).bind fun x3 =>
    (rcv 0 hp x3).bind fun u5 =>
    (e1 F x3 hp).bind fun q4 =>
    m106_42 F q4.2
theorem t106_28 {d c w n : Nat} (hd : 1 ≤ d) (F : Nat) : ∀ (v0 : Nat) (lv : List (Nat × Value)) (hp : List mE) (v : Unit) (hp' : List mE), alk 0 lv = some (.ref v0) → lvk n lv → hp.length = n → v0 < n → m106_28 F v0 hp = some (v, hp') → Rn d 106 28 lv [] hp c w (none, hp', c, w) := by
  obtain ⟨d', rfl⟩ : ∃ d', d = d' + 1 := ⟨d - 1, by omega⟩
  intro v0 lv hp v hp' l0 ok hn r_v0 h
  unfold m106_28 at h
  refine Rn.aload_n n106_28 l0 ?_
  obtain ⟨x1, hx1, h⟩ := Option.bind_eq_some_iff.mp h
  by_cases hq2 : x1 = none
  · rw [if_pos hq2] at h
    refine Rn.gf n106_29 mo106 fl10_71 (gfq_n hq2 hx1) ?_
    refine Rn.nt (t := 42) n106_32 (by decide) ?_
    exact t106_42 hd F  lv _ _ _  ok hn   h
  · rw [if_neg hq2] at h
    obtain ⟨bx1, hbx1⟩ := gfq_s hq2 hx1
    refine Rn.gf n106_29 mo106 fl10_71 hbx1 ?_
    refine Rn.nf (t := 42) n106_32 (by decide) ?_
    refine Rn.aload_n n106_35 l0 ?_
    obtain ⟨x3, hx3, h⟩ := Option.bind_eq_some_iff.mp h
    refine Rn.gf n106_36 mo106 fl10_71 (gfr_v hx3).1 ?_
    have r_x3 : x3 < n := by rw [← hn]; exact (gfr_v hx3).2
    obtain ⟨u5, hu5, h⟩ := Option.bind_eq_some_iff.mp h
    obtain ⟨q4, hq4, h⟩ := Option.bind_eq_some_iff.mp h
    have gq4 := c1 (d := d') (by omega) F _ _ _ _ (by rw [hn]; exact r_x3) hq4
    refine Rn.cv (As := []) (rr := []) n106_39 mo106 mm10_108 (by decide) mq1 rfl rfl rfl rfl (by rw [mo1]; exact hu5) (Nat.le_of_ble_eq_true rfl) (by rw [hn]; exact (okc (okr r_x3) okn)) (by rw [hn]; exact okn) (by rw [hn]; exact ok) (by rw [ml1]; exact Nat.le_of_ble_eq_true rfl) gq4 ?_
    have hn := (Rn.len gq4).trans hn
    show Rn _ 106 42 lv [] q4.2 c w _
    exact t106_42 hd F  lv _ _ _  ok hn   h
def m106_14 (F : Nat) (v0 : Nat) (hp : List mE) : Option (Unit × List mE) :=
  (gfq 10 9 hp v0).bind fun x1 =>
  if x1 = none then
    m106_28 F v0 hp
  else
    (gfr 10 9 hp v0).bind fun x3 =>
    (rcv 7 hp x3).bind fun u5 =>
    (e69 F x3 hp).bind fun q4 =>
    m106_28 F v0 q4.2
theorem t106_14 {d c w n : Nat} (hd : 1 ≤ d) (F : Nat) : ∀ (v0 : Nat) (lv : List (Nat × Value)) (hp : List mE) (v : Unit) (hp' : List mE), alk 0 lv = some (.ref v0) → lvk n lv → hp.length = n → v0 < n → m106_14 F v0 hp = some (v, hp') → Rn d 106 14 lv [] hp c w (none, hp', c, w) := by
  obtain ⟨d', rfl⟩ : ∃ d', d = d' + 1 := ⟨d - 1, by omega⟩
  intro v0 lv hp v hp' l0 ok hn r_v0 h
  unfold m106_14 at h
  refine Rn.aload_n n106_14 l0 ?_
  obtain ⟨x1, hx1, h⟩ := Option.bind_eq_some_iff.mp h
  by_cases hq2 : x1 = none
  · rw [if_pos hq2] at h
    refine Rn.gf n106_15 mo106 fl10_67 (gfq_n hq2 hx1) ?_
    refine Rn.nt (t := 28) n106_18 (by decide) ?_
    exact t106_28 hd F  _ lv _ _ _ l0 ok hn r_v0  h
  · rw [if_neg hq2] at h
    obtain ⟨bx1, hbx1⟩ := gfq_s hq2 hx1
    refine Rn.gf n106_15 mo106 fl10_67 hbx1 ?_
    refine Rn.nf (t := 28) n106_18 (by decide) ?_
    refine Rn.aload_n n106_21 l0 ?_
    obtain ⟨x3, hx3, h⟩ := Option.bind_eq_some_iff.mp h
    refine Rn.gf n106_22 mo106 fl10_67 (gfr_v hx3).1 ?_
    have r_x3 : x3 < n := by rw [← hn]; exact (gfr_v hx3).2
    obtain ⟨u5, hu5, h⟩ := Option.bind_eq_some_iff.mp h
    obtain ⟨q4, hq4, h⟩ := Option.bind_eq_some_iff.mp h
    have gq4 := c69 (d := d') (by omega) F _ _ _ _ (by rw [hn]; exact r_x3) hq4
    refine Rn.cv (As := []) (rr := []) n106_25 mo106 mm10_105 (by decide) mq69 rfl rfl rfl rfl (by rw [mo69]; exact hu5) (Nat.le_of_ble_eq_true rfl) (by rw [hn]; exact (okc (okr r_x3) okn)) (by rw [hn]; exact okn) (by rw [hn]; exact ok) (by rw [ml69]; exact Nat.le_of_ble_eq_true rfl) gq4 ?_
    have hn := (Rn.len gq4).trans hn
    show Rn _ 106 28 lv [] q4.2 c w _
    exact t106_28 hd F  _ lv _ _ _ l0 ok hn r_v0  h
def m106_0 (F : Nat) (v0 : Nat) (hp : List mE) : Option (Unit × List mE) :=
  (gfq 10 8 hp v0).bind fun x1 =>
  if x1 = none then
    m106_14 F v0 hp
  else
    (gfr 10 8 hp v0).bind fun x3 =>
    (rcv 2 hp x3).bind fun u5 =>
    (e22 F x3 hp).bind fun q4 =>
    m106_14 F v0 q4.2
theorem t106_0 {d c w n : Nat} (hd : 1 ≤ d) (F : Nat) : ∀ (v0 : Nat) (lv : List (Nat × Value)) (hp : List mE) (v : Unit) (hp' : List mE), alk 0 lv = some (.ref v0) → lvk n lv → hp.length = n → v0 < n → m106_0 F v0 hp = some (v, hp') → Rn d 106 0 lv [] hp c w (none, hp', c, w) := by
  obtain ⟨d', rfl⟩ : ∃ d', d = d' + 1 := ⟨d - 1, by omega⟩
  intro v0 lv hp v hp' l0 ok hn r_v0 h
  unfold m106_0 at h
  refine Rn.aload_n n106_0 l0 ?_
  obtain ⟨x1, hx1, h⟩ := Option.bind_eq_some_iff.mp h
  by_cases hq2 : x1 = none
  · rw [if_pos hq2] at h
    refine Rn.gf n106_1 mo106 fl10_63 (gfq_n hq2 hx1) ?_
    refine Rn.nt (t := 14) n106_4 (by decide) ?_
    exact t106_14 hd F  _ lv _ _ _ l0 ok hn r_v0  h
  · rw [if_neg hq2] at h
    obtain ⟨bx1, hbx1⟩ := gfq_s hq2 hx1
    refine Rn.gf n106_1 mo106 fl10_63 hbx1 ?_
    refine Rn.nf (t := 14) n106_4 (by decide) ?_
    refine Rn.aload_n n106_7 l0 ?_
    obtain ⟨x3, hx3, h⟩ := Option.bind_eq_some_iff.mp h
    refine Rn.gf n106_8 mo106 fl10_63 (gfr_v hx3).1 ?_
    have r_x3 : x3 < n := by rw [← hn]; exact (gfr_v hx3).2
    obtain ⟨u5, hu5, h⟩ := Option.bind_eq_some_iff.mp h
    obtain ⟨q4, hq4, h⟩ := Option.bind_eq_some_iff.mp h
    have gq4 := c22 (d := d') (by omega) F _ _ _ _ (by rw [hn]; exact r_x3) hq4
    refine Rn.cv (As := []) (rr := []) n106_11 mo106 mm10_100 (by decide) mq22 rfl rfl rfl rfl (by rw [mo22]; exact hu5) (Nat.le_of_ble_eq_true rfl) (by rw [hn]; exact (okc (okr r_x3) okn)) (by rw [hn]; exact okn) (by rw [hn]; exact ok) (by rw [ml22]; exact Nat.le_of_ble_eq_true rfl) gq4 ?_
    have hn := (Rn.len gq4).trans hn
    show Rn _ 106 14 lv [] q4.2 c w _
    exact t106_14 hd F  _ lv _ _ _ l0 ok hn r_v0  h
def e106 (F : Nat) (a0 : Nat) (hp : List mE) : Option (Unit × List mE) := m106_0 F a0 hp
theorem c106 {d : Nat} (hd : 1 ≤ d) (F : Nat) (a0 : Nat) (hp : List mE) (v : Unit) (hp' : List mE) (ra0 : a0 < hp.length) (h : e106 F a0 hp = some (v, hp')) : Rn d 106 0 (lv_args 0 [.ref a0]) [] hp 0 0 (none, hp', 0, 0) :=
  t106_0 (n := hp.length) hd F a0 (lv_args 0 [.ref a0]) hp v hp' rfl (lvk_args (okc (okr ra0) okn)) rfl ra0 h
/-! MirrorRoots.r -/
def m131_22 (F : Nat) (hp : List mE) : Option (Int32 × List mE) :=
  some ((-1001), hp)
theorem t131_22 {d c w n : Nat} (hd : 15 ≤ d) (F : Nat) : ∀ (lv : List (Nat × Value)) (hp : List mE) (v : Int32) (hp' : List mE), lvk n lv → hp.length = n → m131_22 F hp = some (v, hp') → Rn d 131 22 lv [] hp c w (some (.int v), hp', c, w) := by
  obtain ⟨d', rfl⟩ : ∃ d', d = d' + 1 := ⟨d - 1, by omega⟩
  intro lv hp v hp' ok hn h
  unfold m131_22 at h
  refine Rn.sp (v := (-1001)) n131_22 (by decide) ?_
  have e1 := (Prod.mk.inj (Option.some.inj h)).1
  have e2 := (Prod.mk.inj (Option.some.inj h)).2
  subst e1
  subst e2
  exact Rn.iret n131_25 mr131
def m131_0 (F : Nat) (v0 : Nat) (v1 : Int32) (v2 : Int32) (v3 : Int32) (hp : List mE) : Option (Int32 × List mE) :=
  (gfr 10 2 hp v0).bind fun x1 =>
  (rcv 1 hp x1).bind fun u3 =>
  (e16 F x1 v1 hp).bind fun q2 =>
  if mc1 .eq q2.1 = true then
    m131_22 F q2.2
  else
    (gfr 10 2 q2.2 v0).bind fun x5 =>
    (rcv 1 q2.2 x5).bind fun u7 =>
    (e16 F x5 v2 q2.2).bind fun q6 =>
    if mc1 .ne q6.1 = true then
      if mc1 .ge v3 = true then
        (gfr 10 2 q6.2 v0).bind fun x10 =>
        (gfr 1 3 q6.2 x10).bind fun x11 =>
        (rdI q6.2 x11 v2).bind fun x12 =>
        if mc2 .le x12 8 = true then
          (gfr 10 5 q6.2 v0).bind fun x14 =>
          (rcv 4 q6.2 x14).bind fun u16 =>
          (e48 F x14 v1 v2 v3 q6.2).bind fun q15 =>
          some (q15.1, q15.2)
        else
          some ((-1005), q6.2)
      else
        some ((-1002), q6.2)
    else
      m131_22 F q6.2
theorem t131_0 {d c w n : Nat} (hd : 15 ≤ d) (F : Nat) : ∀ (v0 : Nat) (v1 : Int32) (v2 : Int32) (v3 : Int32) (lv : List (Nat × Value)) (hp : List mE) (v : Int32) (hp' : List mE), alk 0 lv = some (.ref v0) → alk 1 lv = some (.int v1) → alk 2 lv = some (.int v2) → alk 3 lv = some (.int v3) → lvk n lv → hp.length = n → v0 < n → m131_0 F v0 v1 v2 v3 hp = some (v, hp') → Rn d 131 0 lv [] hp c w (some (.int v), hp', c, w) := by
  obtain ⟨d', rfl⟩ : ∃ d', d = d' + 1 := ⟨d - 1, by omega⟩
  intro v0 v1 v2 v3 lv hp v hp' l0 l1 l2 l3 ok hn r_v0 h
  unfold m131_0 at h
  refine Rn.aload_n n131_0 l0 ?_
  obtain ⟨x1, hx1, h⟩ := Option.bind_eq_some_iff.mp h
  refine Rn.gf n131_1 mo131 fl10_28 (gfr_v hx1).1 ?_
  have r_x1 : x1 < n := by rw [← hn]; exact (gfr_v hx1).2
  refine Rn.iload_n n131_4 l1 ?_
  obtain ⟨u3, hu3, h⟩ := Option.bind_eq_some_iff.mp h
  obtain ⟨q2, hq2, h⟩ := Option.bind_eq_some_iff.mp h
  have gq2 := c16 (d := d') (by omega) F _ _ _ _ _ (by rw [hn]; exact r_x1) hq2
  refine Rn.cv (As := [.int v1]) (rr := []) n131_5 mo131 mm10_130 (by decide) mq16 rfl rfl rfl rfl (by rw [mo16]; exact hu3) (Nat.le_of_ble_eq_true rfl) (by rw [hn]; exact (okc (okr r_x1) (okc rfl okn))) (by rw [hn]; exact okn) (by rw [hn]; exact ok) (by rw [ml16]; exact Nat.le_of_ble_eq_true rfl) gq2 ?_
  have hn := (Rn.len gq2).trans hn
  show Rn _ 131 8 lv [.int q2.1] q2.2 c w _
  by_cases hc4 : mc1 .eq q2.1 = true
  · rw [if_pos hc4] at h
    refine Rn.c1t (t := 22) n131_8 (by decide) hc4 ?_
    exact t131_22 hd F  lv _ _ _  ok hn   h
  · rw [if_neg hc4] at h
    refine Rn.c1f (t := 22) n131_8 (by decide) hc4 ?_
    refine Rn.aload_n n131_11 l0 ?_
    obtain ⟨x5, hx5, h⟩ := Option.bind_eq_some_iff.mp h
    refine Rn.gf n131_12 mo131 fl10_28 (gfr_v hx5).1 ?_
    have r_x5 : x5 < n := by rw [← hn]; exact (gfr_v hx5).2
    refine Rn.iload_n n131_15 l2 ?_
    obtain ⟨u7, hu7, h⟩ := Option.bind_eq_some_iff.mp h
    obtain ⟨q6, hq6, h⟩ := Option.bind_eq_some_iff.mp h
    have gq6 := c16 (d := d') (by omega) F _ _ _ _ _ (by rw [hn]; exact r_x5) hq6
    refine Rn.cv (As := [.int v2]) (rr := []) n131_16 mo131 mm10_130 (by decide) mq16 rfl rfl rfl rfl (by rw [mo16]; exact hu7) (Nat.le_of_ble_eq_true rfl) (by rw [hn]; exact (okc (okr r_x5) (okc rfl okn))) (by rw [hn]; exact okn) (by rw [hn]; exact ok) (by rw [ml16]; exact Nat.le_of_ble_eq_true rfl) gq6 ?_
    have hn := (Rn.len gq6).trans hn
    show Rn _ 131 19 lv [.int q6.1] q6.2 c w _
    by_cases hc8 : mc1 .ne q6.1 = true
    · rw [if_pos hc8] at h
      refine Rn.c1t (t := 26) n131_19 (by decide) hc8 ?_
      refine Rn.iload_n n131_26 l3 ?_
      by_cases hc9 : mc1 .ge v3 = true
      · rw [if_pos hc9] at h
        refine Rn.c1t (t := 34) n131_27 (by decide) hc9 ?_
        refine Rn.aload_n n131_34 l0 ?_
        obtain ⟨x10, hx10, h⟩ := Option.bind_eq_some_iff.mp h
        refine Rn.gf n131_35 mo131 fl10_28 (gfr_v hx10).1 ?_
        have r_x10 : x10 < n := by rw [← hn]; exact (gfr_v hx10).2
        obtain ⟨x11, hx11, h⟩ := Option.bind_eq_some_iff.mp h
        refine Rn.gf n131_38 mo131 fl10_131 (gfr_v hx11).1 ?_
        have r_x11 : x11 < n := by rw [← hn]; exact (gfr_v hx11).2
        refine Rn.iload_n n131_41 l2 ?_
        obtain ⟨x12, hx12, h⟩ := Option.bind_eq_some_iff.mp h
        refine Rn.iald n131_42 hx12 ?_
        refine Rn.bp (v := 8) n131_43 (by decide) ?_
        by_cases hc13 : mc2 .le x12 8 = true
        · rw [if_pos hc13] at h
          refine Rn.c2t (t := 52) n131_45 (by decide) hc13 ?_
          refine Rn.aload_n n131_52 l0 ?_
          obtain ⟨x14, hx14, h⟩ := Option.bind_eq_some_iff.mp h
          refine Rn.gf n131_53 mo131 fl10_51 (gfr_v hx14).1 ?_
          have r_x14 : x14 < n := by rw [← hn]; exact (gfr_v hx14).2
          refine Rn.iload_n n131_56 l1 ?_
          refine Rn.iload_n n131_57 l2 ?_
          refine Rn.iload_n n131_58 l3 ?_
          obtain ⟨u16, hu16, h⟩ := Option.bind_eq_some_iff.mp h
          obtain ⟨q15, hq15, h⟩ := Option.bind_eq_some_iff.mp h
          have gq15 := c48 (d := d') (by omega) F _ _ _ _ _ _ _ (by rw [hn]; exact r_x14) hq15
          refine Rn.cv (As := [.int v1, .int v2, .int v3]) (rr := []) n131_59 mo131 mm10_217 (by decide) mq48 rfl rfl rfl rfl (by rw [mo48]; exact hu16) (Nat.le_of_ble_eq_true rfl) (by rw [hn]; exact (okc (okr r_x14) (okc rfl (okc rfl (okc rfl okn))))) (by rw [hn]; exact okn) (by rw [hn]; exact ok) (by rw [ml48]; exact Nat.le_of_ble_eq_true rfl) gq15 ?_
          have hn := (Rn.len gq15).trans hn
          show Rn _ 131 62 lv [.int q15.1] q15.2 c w _
          have e1 := (Prod.mk.inj (Option.some.inj h)).1
          have e2 := (Prod.mk.inj (Option.some.inj h)).2
          subst e1
          subst e2
          exact Rn.iret n131_62 mr131
        · rw [if_neg hc13] at h
          refine Rn.c2f (t := 52) n131_45 (by decide) hc13 ?_
          refine Rn.sp (v := (-1005)) n131_48 (by decide) ?_
          have e1 := (Prod.mk.inj (Option.some.inj h)).1
          have e2 := (Prod.mk.inj (Option.some.inj h)).2
          subst e1
          subst e2
          exact Rn.iret n131_51 mr131
      · rw [if_neg hc9] at h
        refine Rn.c1f (t := 34) n131_27 (by decide) hc9 ?_
        refine Rn.sp (v := (-1002)) n131_30 (by decide) ?_
        have e1 := (Prod.mk.inj (Option.some.inj h)).1
        have e2 := (Prod.mk.inj (Option.some.inj h)).2
        subst e1
        subst e2
        exact Rn.iret n131_33 mr131
    · rw [if_neg hc8] at h
      refine Rn.c1f (t := 26) n131_19 (by decide) hc8 ?_
      exact t131_22 hd F  lv _ _ _  ok hn   h
def e131 (F : Nat) (a0 : Nat) (a1 : Int32) (a2 : Int32) (a3 : Int32) (hp : List mE) : Option (Int32 × List mE) := m131_0 F a0 a1 a2 a3 hp
theorem c131 {d : Nat} (hd : 15 ≤ d) (F : Nat) (a0 : Nat) (a1 : Int32) (a2 : Int32) (a3 : Int32) (hp : List mE) (v : Int32) (hp' : List mE) (ra0 : a0 < hp.length) (h : e131 F a0 a1 a2 a3 hp = some (v, hp')) : Rn d 131 0 (lv_args 0 [.ref a0, .int a1, .int a2, .int a3]) [] hp 0 0 (some (.int v), hp', 0, 0) :=
  t131_0 (n := hp.length) hd F a0 a1 a2 a3 (lv_args 0 [.ref a0, .int a1, .int a2, .int a3]) hp v hp' rfl rfl rfl rfl (lvk_args (okc (okr ra0) (okc rfl (okc rfl (okc rfl okn))))) rfl ra0 h
