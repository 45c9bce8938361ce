/-! MirrorRoots$Telling.takeWord -/
def m86_101 (F : Nat) (t0 : Int32) (hp : List mE) : Option (Int32 × List mE) :=
  if t0 = 0 ∨ t0 = 1 then some (t0, hp) else none
theorem t86_101 {d c w n : Nat} (hd : 5 ≤ d) (F : Nat) : ∀ (t0 : Int32) (lv : List (Nat × Value)) (hp : List mE) (v : Int32) (hp' : List mE), lvk n lv → hp.length = n → m86_101 F t0 hp = some (v, hp') → Rn d 86 101 lv [.int t0] hp c w (some (.int v), hp', c, w) := by
  obtain ⟨d', rfl⟩ : ∃ d', d = d' + 1 := ⟨d - 1, by omega⟩
  intro t0 lv hp v hp' ok hn h
  unfold m86_101 at h
  by_cases hz1 : t0 = 0 ∨ t0 = 1
  · rw [if_pos hz1] at h
    have e1 := (Prod.mk.inj (Option.some.inj h)).1
    have e2 := (Prod.mk.inj (Option.some.inj h)).2
    subst e1
    subst e2
    exact Rn.zret n86_101 mr86 hz1
  · rw [if_neg hz1] at h; cases h
def m86_100 (F : Nat) (hp : List mE) : Option (Int32 × List mE) :=
  m86_101 F 0 hp
theorem t86_100 {d c w n : Nat} (hd : 5 ≤ d) (F : Nat) : ∀ (lv : List (Nat × Value)) (hp : List mE) (v : Int32) (hp' : List mE), lvk n lv → hp.length = n → m86_100 F hp = some (v, hp') → Rn d 86 100 lv [] hp c w (some (.int v), hp', c, w) := by
  obtain ⟨d', rfl⟩ : ∃ d', d = d' + 1 := ⟨d - 1, by omega⟩
  intro lv hp v hp' ok hn h
  unfold m86_100 at h
  refine Rn.ic (v := 0) n86_100 (by decide) ?_
  exact t86_101 hd F  _ lv _ _ _  ok hn   h
def m86_79 (F : Nat) (v0 : Nat) (v1 : Nat) (v2 : Int32) (v3 : Int32) (hp : List mE) : Option (Int32 × List mE) :=
  if mc1 .eq v3 = true then
    m86_100 F hp
  else
    (gfi 8 2 hp v0).bind fun x2 =>
    if v1 = 1000001 ∨ v1 = 1000002 then
      if mc2 .ne (x2 - v2) (Int32.ofNat (sLen.getD (v1 - 1000001) 0) >>> ((0 : Int32) &&& 31)) = true then
        m86_100 F hp
      else
        m86_101 F 1 hp
    else none
theorem t86_79 {d c w n : Nat} (hd : 5 ≤ d) (F : Nat) : ∀ (v0 : Nat) (v1 : Nat) (v2 : Int32) (v3 : Int32) (lv : List (Nat × Value)) (hp : List mE) (v : Int32) (hp' : List mE), alk 0 lv = some (.ref v0) → alk 1 lv = some (.ref v1) → alk 2 lv = some (.int v2) → alk 3 lv = some (.int v3) → lvk n lv → hp.length = n → v0 < n → 1000000 ≤ v1 → m86_79 F v0 v1 v2 v3 hp = some (v, hp') → Rn d 86 79 lv [] hp c w (some (.int v), hp', c, w) := by
  obtain ⟨d', rfl⟩ : ∃ d', d = d' + 1 := ⟨d - 1, by omega⟩
  intro v0 v1 v2 v3 lv hp v hp' l0 l1 l2 l3 ok hn r_v0 r_v1 h
  unfold m86_79 at h
  refine Rn.iload_n n86_79 l3 ?_
  by_cases hc1 : mc1 .eq v3 = true
  · rw [if_pos hc1] at h
    refine Rn.c1t (t := 100) n86_80 (by decide) hc1 ?_
    exact t86_100 hd F  lv _ _ _  ok hn   h
  · rw [if_neg hc1] at h
    refine Rn.c1f (t := 100) n86_80 (by decide) hc1 ?_
    refine Rn.aload_n n86_83 l0 ?_
    obtain ⟨x2, hx2, h⟩ := Option.bind_eq_some_iff.mp h
    refine Rn.gf n86_84 mo86 fl8_41 (gfi_v hx2) ?_
    refine Rn.iload_n n86_87 l2 ?_
    refine Rn.p n86_88 rfl ?_
    refine Rn.aload_n n86_89 l1 ?_
    by_cases hz3 : v1 = 1000001 ∨ v1 = 1000002
    · rw [if_pos hz3] at h
      refine Rn.sln n86_90 mo86 rfl (by decide +kernel) hz3 (Nat.le_of_ble_eq_true rfl) (by omega) ?_
      by_cases hc4 : mc2 .ne (x2 - v2) (Int32.ofNat (sLen.getD (v1 - 1000001) 0) >>> ((0 : Int32) &&& 31)) = true
      · rw [if_pos hc4] at h
        refine Rn.c2t (t := 100) n86_93 (by decide) hc4 ?_
        exact t86_100 hd F  lv _ _ _  ok hn   h
      · rw [if_neg hc4] at h
        refine Rn.c2f (t := 100) n86_93 (by decide) hc4 ?_
        refine Rn.ic (v := 1) n86_96 (by decide) ?_
        refine Rn.goto (t := 101) n86_97 (by decide) ?_
        exact t86_101 hd F  _ lv _ _ _  ok hn   h
    · rw [if_neg hz3] at h; cases h
def m86_66 (F : Nat) (rc7 : Nat → Nat → Int32 → Int32 → List mE → Option (Int32 × List mE)) (v0 : Nat) (v1 : Nat) (v2 : Int32) (v3 : Int32) (hp : List mE) : Option (Int32 × List mE) :=
  (gfi 8 2 hp v0).bind fun x1 =>
  (pfv 8 2 hp v0 (.int (x1 + 1))).bind fun hp2 =>
  rc7 v0 v1 v2 v3 hp2
theorem t86_66 {d c w n : Nat} (hd : 5 ≤ d) (F : Nat) {rc7 : Nat → Nat → Int32 → Int32 → List mE → Option (Int32 × List mE)} (hr7 : ∀ (v0 : Nat) (v1 : Nat) (v2 : Int32) (v3 : Int32) (lv : List (Nat × Value)) (hp : List mE) (v : Int32) (hp' : List mE), alk 0 lv = some (.ref v0) → alk 1 lv = some (.ref v1) → alk 2 lv = some (.int v2) → alk 3 lv = some (.int v3) → lvk n lv → hp.length = n → v0 < n → 1000000 ≤ v1 → rc7 v0 v1 v2 v3 hp = some (v, hp') → Rn d 86 7 lv [] hp c w (some (.int v), hp', c, w)) : ∀ (v0 : Nat) (v1 : Nat) (v2 : Int32) (v3 : Int32) (lv : List (Nat × Value)) (hp : List mE) (v : Int32) (hp' : List mE), alk 0 lv = some (.ref v0) → alk 1 lv = some (.ref v1) → alk 2 lv = some (.int v2) → alk 3 lv = some (.int v3) → lvk n lv → hp.length = n → v0 < n → 1000000 ≤ v1 → m86_66 F rc7 v0 v1 v2 v3 hp = some (v, hp') → Rn d 86 66 lv [] hp c w (some (.int v), hp', c, w) := by
  obtain ⟨d', rfl⟩ : ∃ d', d = d' + 1 := ⟨d - 1, by omega⟩
  intro v0 v1 v2 v3 lv hp v hp' l0 l1 l2 l3 ok hn r_v0 r_v1 h
  unfold m86_66 at h
  refine Rn.aload_n n86_66 l0 ?_
  refine Rn.p n86_67 rfl ?_
  obtain ⟨x1, hx1, h⟩ := Option.bind_eq_some_iff.mp h
  refine Rn.gf n86_68 mo86 fl8_41 (gfi_v hx1) ?_
  refine Rn.ic (v := 1) n86_71 (by decide) ?_
  refine Rn.p n86_72 rfl ?_
  obtain ⟨hp2, hhp2, h⟩ := Option.bind_eq_some_iff.mp h
  refine Rn.pf n86_73 mo86 fl8_41 ft8_2 rfl ff8_2 (fun _ _ hh => by cases hh) hhp2 ?_
  have hn := (pfv_len hhp2).trans hn
  refine Rn.goto (t := 7) n86_76 (by decide) ?_
  exact hr7 _ _ _ _ lv _ _ _ l0 l1 l2 l3 ok hn r_v0 r_v1  h
def m86_64 (F : Nat) (rc7 : Nat → Nat → Int32 → Int32 → List mE → Option (Int32 × List mE)) (v0 : Nat) (v1 : Nat) (v2 : Int32) (hp : List mE) : Option (Int32 × List mE) :=
  m86_66 F rc7 v0 v1 v2 0 hp
theorem t86_64 {d c w n : Nat} (hd : 5 ≤ d) (F : Nat) {rc7 : Nat → Nat → Int32 → Int32 → List mE → Option (Int32 × List mE)} (hr7 : ∀ (v0 : Nat) (v1 : Nat) (v2 : Int32) (v3 : Int32) (lv : List (Nat × Value)) (hp : List mE) (v : Int32) (hp' : List mE), alk 0 lv = some (.ref v0) → alk 1 lv = some (.ref v1) → alk 2 lv = some (.int v2) → alk 3 lv = some (.int v3) → lvk n lv → hp.length = n → v0 < n → 1000000 ≤ v1 → rc7 v0 v1 v2 v3 hp = some (v, hp') → Rn d 86 7 lv [] hp c w (some (.int v), hp', c, w)) : ∀ (v0 : Nat) (v1 : Nat) (v2 : Int32) (lv : List (Nat × Value)) (hp : List mE) (v : Int32) (hp' : List mE), alk 0 lv = some (.ref v0) → alk 1 lv = some (.ref v1) → alk 2 lv = some (.int v2) → lvk n lv → hp.length = n → v0 < n → 1000000 ≤ v1 → m86_64 F rc7 v0 v1 v2 hp = some (v, hp') → Rn d 86 64 lv [] hp c w (some (.int v), hp', c, w) := by
  obtain ⟨d', rfl⟩ : ∃ d', d = d' + 1 := ⟨d - 1, by omega⟩
  intro v0 v1 v2 lv hp v hp' l0 l1 l2 ok hn r_v0 r_v1 h
  unfold m86_64 at h
  refine Rn.ic (v := 0) n86_64 (by decide) ?_
  refine Rn.isn (m := n) n86_65 rfl ml86 (by decide) (fun lv l3 hk hok => ?_)
  have l0 := hk 0 _ (by decide) (Or.inl rfl) l0
  have l1 := hk 1 _ (by decide) (Or.inl rfl) l1
  have l2 := hk 2 _ (by decide) (Or.inl rfl) l2
  have ok := hok ok
  exact t86_66 hd F hr7 _ _ _ _ lv _ _ _ l0 l1 l2 l3 ok hn r_v0 r_v1  h
def m86_7 (F : Nat) : Nat → Nat → Nat → Int32 → Int32 → List mE → Option (Int32 × List mE)
  | 0, _, _, _, _, _ => none
  | f + 1, v0, v1, v2, v3, hp =>
    (gfi 8 2 hp v0).bind fun x1 =>
    (gfi 8 1 hp v0).bind fun x2 =>
    if mc2 .ge x1 x2 = true then
      m86_79 F v0 v1 v2 v3 hp
    else
      (gfi 8 2 hp v0).bind fun x4 =>
      (rcv 8 hp v0).bind fun u6 =>
      (e88 F v0 x4 hp).bind fun q5 =>
      if mc1 .eq q5.1 = true then
        m86_79 F v0 v1 v2 v3 q5.2
      else
        (gfi 8 2 q5.2 v0).bind fun x8 =>
        if v1 = 1000001 ∨ v1 = 1000002 then
          if mc2 .ge (x8 - v2) (Int32.ofNat (sLen.getD (v1 - 1000001) 0) >>> ((0 : Int32) &&& 31)) = true then
            m86_64 F (m86_7 F f) v0 v1 v2 q5.2
          else
            if (v1 = 1000001 ∨ v1 = 1000002) ∧ ¬ ((x8 - v2) < 0 ∨ sLen.getD (v1 - 1000001) 0 ≤ (x8 - v2).toNatClampNeg) then
              (gfr 8 0 q5.2 v0).bind fun x12 =>
              (gfi 8 2 q5.2 v0).bind fun x13 =>
              (rdI q5.2 x12 x13).bind fun x14 =>
              if mc2 .eq (sch (v1 - 1000001) (x8 - v2)) x14 = true then
                m86_66 F (m86_7 F f) v0 v1 v2 v3 q5.2
              else
                m86_64 F (m86_7 F f) v0 v1 v2 q5.2
            else none
        else none
theorem t86_7 {d c w n : Nat} (hd : 5 ≤ d) (F : Nat) : ∀ f : Nat, ∀ (v0 : Nat) (v1 : Nat) (v2 : Int32) (v3 : Int32) (lv : List (Nat × Value)) (hp : List mE) (v : Int32) (hp' : List mE), alk 0 lv = some (.ref v0) → alk 1 lv = some (.ref v1) → alk 2 lv = some (.int v2) → alk 3 lv = some (.int v3) → lvk n lv → hp.length = n → v0 < n → 1000000 ≤ v1 → m86_7 F f v0 v1 v2 v3 hp = some (v, hp') → Rn d 86 7 lv [] hp c w (some (.int v), hp', c, w) := by
  obtain ⟨d', rfl⟩ : ∃ d', d = d' + 1 := ⟨d - 1, by omega⟩
  intro f
  induction f with
  | zero => intro v0 v1 v2 v3 lv hp v hp' l0 l1 l2 l3 ok hn r_v0 r_v1 h; cases h
  | succ f hr7 =>
    intro v0 v1 v2 v3 lv hp v hp' l0 l1 l2 l3 ok hn r_v0 r_v1 h
    unfold m86_7 at h
    refine Rn.aload_n n86_7 l0 ?_
    obtain ⟨x1, hx1, h⟩ := Option.bind_eq_some_iff.mp h
    refine Rn.gf n86_8 mo86 fl8_41 (gfi_v hx1) ?_
    refine Rn.aload_n n86_11 l0 ?_
    obtain ⟨x2, hx2, h⟩ := Option.bind_eq_some_iff.mp h
    refine Rn.gf n86_12 mo86 fl8_15 (gfi_v hx2) ?_
    by_cases hc3 : mc2 .ge x1 x2 = true
    · rw [if_pos hc3] at h
      refine Rn.c2t (t := 79) n86_15 (by decide) hc3 ?_
      exact t86_79 hd F  _ _ _ _ lv _ _ _ l0 l1 l2 l3 ok hn r_v0 r_v1  h
    · rw [if_neg hc3] at h
      refine Rn.c2f (t := 79) n86_15 (by decide) hc3 ?_
      refine Rn.aload_n n86_18 l0 ?_
      refine Rn.aload_n n86_19 l0 ?_
      obtain ⟨x4, hx4, h⟩ := Option.bind_eq_some_iff.mp h
      refine Rn.gf n86_20 mo86 fl8_41 (gfi_v hx4) ?_
      obtain ⟨u6, hu6, h⟩ := Option.bind_eq_some_iff.mp h
      obtain ⟨q5, hq5, h⟩ := Option.bind_eq_some_iff.mp h
      have gq5 := c88 (d := d') (by omega) F _ _ _ _ _ (by rw [hn]; exact r_v0) hq5
      refine Rn.cv (As := [.int x4]) (rr := []) n86_23 mo86 mm8_44 (by decide) mq88 rfl rfl rfl rfl (by rw [mo88]; exact hu6) (Nat.le_of_ble_eq_true rfl) (by rw [hn]; exact (okc (okr r_v0) (okc rfl okn))) (by rw [hn]; exact okn) (by rw [hn]; exact ok) (by rw [ml88]; exact Nat.le_of_ble_eq_true rfl) gq5 ?_
      have hn := (Rn.len gq5).trans hn
      show Rn _ 86 26 lv [.int q5.1] q5.2 c w _
      by_cases hc7 : mc1 .eq q5.1 = true
      · rw [if_pos hc7] at h
        refine Rn.c1t (t := 79) n86_26 (by decide) hc7 ?_
        exact t86_79 hd F  _ _ _ _ lv _ _ _ l0 l1 l2 l3 ok hn r_v0 r_v1  h
      · rw [if_neg hc7] at h
        refine Rn.c1f (t := 79) n86_26 (by decide) hc7 ?_
        refine Rn.aload_n n86_29 l0 ?_
        obtain ⟨x8, hx8, h⟩ := Option.bind_eq_some_iff.mp h
        refine Rn.gf n86_30 mo86 fl8_41 (gfi_v hx8) ?_
        refine Rn.iload_n n86_33 l2 ?_
        refine Rn.p n86_34 rfl ?_
        refine Rn.is (m := n) n86_35 ml86 (by decide) (fun lv l4 hk hok => ?_)
        have l0 := hk 0 _ (by decide) (Or.inl rfl) l0
        have l1 := hk 1 _ (by decide) (Or.inl rfl) l1
        have l2 := hk 2 _ (by decide) (Or.inl rfl) l2
        have l3 := hk 3 _ (by decide) (Or.inl rfl) l3
        have ok := hok ok
        refine Rn.iload n86_37 l4 ?_
        refine Rn.aload_n n86_39 l1 ?_
        by_cases hz9 : v1 = 1000001 ∨ v1 = 1000002
        · rw [if_pos hz9] at h
          refine Rn.sln n86_40 mo86 rfl (by decide +kernel) hz9 (Nat.le_of_ble_eq_true rfl) (by omega) ?_
          by_cases hc10 : mc2 .ge (x8 - v2) (Int32.ofNat (sLen.getD (v1 - 1000001) 0) >>> ((0 : Int32) &&& 31)) = true
          · rw [if_pos hc10] at h
            refine Rn.c2t (t := 64) n86_43 (by decide) hc10 ?_
            exact t86_64 hd F hr7 _ _ _ lv _ _ _ l0 l1 l2 ok hn r_v0 r_v1  h
          · rw [if_neg hc10] at h
            refine Rn.c2f (t := 64) n86_43 (by decide) hc10 ?_
            refine Rn.aload_n n86_46 l1 ?_
            refine Rn.iload n86_47 l4 ?_
            by_cases hz11 : (v1 = 1000001 ∨ v1 = 1000002) ∧ ¬ ((x8 - v2) < 0 ∨ sLen.getD (v1 - 1000001) 0 ≤ (x8 - v2).toNatClampNeg)
            · rw [if_pos hz11] at h
              refine Rn.sca n86_49 mo86 rfl (by decide +kernel) hz11 (Nat.le_of_ble_eq_true rfl) (by omega) ?_
              refine Rn.aload_n n86_52 l0 ?_
              obtain ⟨x12, hx12, h⟩ := Option.bind_eq_some_iff.mp h
              refine Rn.gf n86_53 mo86 fl8_9 (gfr_v hx12).1 ?_
              have r_x12 : x12 < n := by rw [← hn]; exact (gfr_v hx12).2
              refine Rn.aload_n n86_56 l0 ?_
              obtain ⟨x13, hx13, h⟩ := Option.bind_eq_some_iff.mp h
              refine Rn.gf n86_57 mo86 fl8_41 (gfi_v hx13) ?_
              obtain ⟨x14, hx14, h⟩ := Option.bind_eq_some_iff.mp h
              refine Rn.iald n86_60 hx14 ?_
              by_cases hc15 : mc2 .eq (sch (v1 - 1000001) (x8 - v2)) x14 = true
              · rw [if_pos hc15] at h
                refine Rn.c2t (t := 66) n86_61 (by decide) hc15 ?_
                exact t86_66 hd F hr7 _ _ _ _ lv _ _ _ l0 l1 l2 l3 ok hn r_v0 r_v1  h
              · rw [if_neg hc15] at h
                refine Rn.c2f (t := 66) n86_61 (by decide) hc15 ?_
                exact t86_64 hd F hr7 _ _ _ lv _ _ _ l0 l1 l2 ok hn r_v0 r_v1  h
            · rw [if_neg hz11] at h; cases h
        · rw [if_neg hz9] at h; cases h
def m86_0 (F : Nat) (v0 : Nat) (v1 : Nat) (hp : List mE) : Option (Int32 × List mE) :=
  (gfi 8 2 hp v0).bind fun x1 =>
  m86_7 F F v0 v1 x1 1 hp
theorem t86_0 {d c w n : Nat} (hd : 5 ≤ d) (F : Nat) : ∀ (v0 : Nat) (v1 : Nat) (lv : List (Nat × Value)) (hp : List mE) (v : Int32) (hp' : List mE), alk 0 lv = some (.ref v0) → alk 1 lv = some (.ref v1) → lvk n lv → hp.length = n → v0 < n → 1000000 ≤ v1 → m86_0 F v0 v1 hp = some (v, hp') → Rn d 86 0 lv [] hp c w (some (.int v), hp', c, w) := by
  obtain ⟨d', rfl⟩ : ∃ d', d = d' + 1 := ⟨d - 1, by omega⟩
  intro v0 v1 lv hp v hp' l0 l1 ok hn r_v0 r_v1 h
  unfold m86_0 at h
  refine Rn.aload_n n86_0 l0 ?_
  obtain ⟨x1, hx1, h⟩ := Option.bind_eq_some_iff.mp h
  refine Rn.gf n86_1 mo86 fl8_41 (gfi_v hx1) ?_
  refine Rn.isn (m := n) n86_4 rfl ml86 (by decide) (fun lv l2 hk hok => ?_)
  have l0 := hk 0 _ (by decide) (Or.inl rfl) l0
  have l1 := hk 1 _ (by decide) (Or.inl rfl) l1
  have ok := hok ok
  refine Rn.ic (v := 1) n86_5 (by decide) ?_
  refine Rn.isn (m := n) n86_6 rfl ml86 (by decide) (fun lv l3 hk hok => ?_)
  have l0 := hk 0 _ (by decide) (Or.inl rfl) l0
  have l1 := hk 1 _ (by decide) (Or.inl rfl) l1
  have l2 := hk 2 _ (by decide) (Or.inl rfl) l2
  have ok := hok ok
  exact t86_7 hd F  F _ _ _ _ lv _ _ _ l0 l1 l2 l3 ok hn r_v0 r_v1  h
def e86 (F : Nat) (a0 : Nat) (a1 : Nat) (hp : List mE) : Option (Int32 × List mE) := m86_0 F a0 a1 hp
theorem c86 {d : Nat} (hd : 5 ≤ d) (F : Nat) (a0 : Nat) (a1 : Nat) (hp : List mE) (v : Int32) (hp' : List mE) (ra0 : a0 < hp.length) (ra1 : 1000000 ≤ a1) (h : e86 F a0 a1 hp = some (v, hp')) : Rn d 86 0 (lv_args 0 [.ref a0, .ref a1]) [] hp 0 0 (some (.int v), hp', 0, 0) :=
  t86_0 (n := hp.length) hd F a0 a1 (lv_args 0 [.ref a0, .ref a1]) hp v hp' rfl rfl (lvk_args (okc (okr ra0) (okc (oks ra1) okn))) rfl ra0 ra1 h
/-! MirrorRoots$Telling.tellMirrors -/
def m80_53 (F : Nat) (v0 : Nat) (hp : List mE) : Option (Unit × List mE) :=
  (gfi 8 2 hp v0).bind fun x1 =>
  (rcv 8 hp v0).bind fun u3 =>
  (e89 F v0 2 (x1 - 1) hp).bind fun q2 =>
  some ((), q2.2)
theorem t80_53 {d c w n : Nat} (hd : 6 ≤ d) (F : Nat) : ∀ (v0 : Nat) (lv : List (Nat × Value)) (hp : List mE) (v : Unit) (hp' : List mE), alk 0 lv = some (.ref v0) → lvk n lv → hp.length = n → v0 < n → m80_53 F v0 hp = some (v, hp') → Rn d 80 53 lv [] hp c w (none, hp', c, w) := by
  obtain ⟨d', rfl⟩ : ∃ d', d = d' + 1 := ⟨d - 1, by omega⟩
  intro v0 lv hp v hp' l0 ok hn r_v0 h
  unfold m80_53 at h
  refine Rn.aload_n n80_53 l0 ?_
  refine Rn.ic (v := 2) n80_54 (by decide) ?_
  refine Rn.aload_n n80_55 l0 ?_
  obtain ⟨x1, hx1, h⟩ := Option.bind_eq_some_iff.mp h
  refine Rn.gf n80_56 mo80 fl8_41 (gfi_v hx1) ?_
  refine Rn.ic (v := 1) n80_59 (by decide) ?_
  refine Rn.p n80_60 rfl ?_
  obtain ⟨u3, hu3, h⟩ := Option.bind_eq_some_iff.mp h
  obtain ⟨q2, hq2, h⟩ := Option.bind_eq_some_iff.mp h
  have gq2 := c89 (d := d') (by omega) F _ _ _ _ _ _ (by rw [hn]; exact r_v0) hq2
  refine Rn.cv (As := [.int 2, .int (x1 - 1)]) (rr := []) n80_61 mo80 mm8_64 (by decide) mq89 rfl rfl rfl rfl (by rw [mo89]; exact hu3) (Nat.le_of_ble_eq_true rfl) (by rw [hn]; exact (okc (okr r_v0) (okc rfl (okc rfl okn)))) (by rw [hn]; exact okn) (by rw [hn]; exact ok) (by rw [ml89]; exact Nat.le_of_ble_eq_true rfl) gq2 ?_
  have hn := (Rn.len gq2).trans hn
  show Rn _ 80 64 lv [] q2.2 c w _
  have e1 := (Prod.mk.inj (Option.some.inj h)).1
  have e2 := (Prod.mk.inj (Option.some.inj h)).2
  subst e1
  subst e2
  exact Rn.vret n80_64 mr80
def m80_20 (F : Nat) (v0 : Nat) (v2 : Int32) (hp : List mE) : Option (Unit × List mE) :=
  (rcv 8 hp v0).bind fun u2 =>
  (e89 F v0 1 v2 hp).bind fun q1 =>
  some ((), q1.2)
theorem t80_20 {d c w n : Nat} (hd : 6 ≤ d) (F : Nat) : ∀ (v0 : Nat) (v2 : Int32) (lv : List (Nat × Value)) (hp : List mE) (v : Unit) (hp' : List mE), alk 0 lv = some (.ref v0) → alk 2 lv = some (.int v2) → lvk n lv → hp.length = n → v0 < n → m80_20 F v0 v2 hp = some (v, hp') → Rn d 80 20 lv [] hp c w (none, hp', c, w) := by
  obtain ⟨d', rfl⟩ : ∃ d', d = d' + 1 := ⟨d - 1, by omega⟩
  intro v0 v2 lv hp v hp' l0 l2 ok hn r_v0 h
  unfold m80_20 at h
  refine Rn.aload_n n80_20 l0 ?_
  refine Rn.ic (v := 1) n80_21 (by decide) ?_
  refine Rn.iload_n n80_22 l2 ?_
  obtain ⟨u2, hu2, h⟩ := Option.bind_eq_some_iff.mp h
  obtain ⟨q1, hq1, h⟩ := Option.bind_eq_some_iff.mp h
  have gq1 := c89 (d := d') (by omega) F _ _ _ _ _ _ (by rw [hn]; exact r_v0) hq1
  refine Rn.cv (As := [.int 1, .int v2]) (rr := []) n80_23 mo80 mm8_64 (by decide) mq89 rfl rfl rfl rfl (by rw [mo89]; exact hu2) (Nat.le_of_ble_eq_true rfl) (by rw [hn]; exact (okc (okr r_v0) (okc rfl (okc rfl okn)))) (by rw [hn]; exact okn) (by rw [hn]; exact ok) (by rw [ml89]; exact Nat.le_of_ble_eq_true rfl) gq1 ?_
  have hn := (Rn.len gq1).trans hn
  show Rn _ 80 26 lv [] q1.2 c w _
  have e1 := (Prod.mk.inj (Option.some.inj h)).1
  have e2 := (Prod.mk.inj (Option.some.inj h)).2
  subst e1
  subst e2
  exact Rn.vret n80_26 mr80
def m80_0 (F : Nat) (v0 : Nat) (v1 : Int32) (hp : List mE) : Option (Unit × List mE) :=
  (gfi 8 2 hp v0).bind fun x1 =>
  (rcv 8 hp v0).bind fun u3 =>
  (e86 F v0 1000001 hp).bind fun q2 =>
  if mc1 .eq q2.1 = true then
    m80_20 F v0 x1 q2.2
  else
    if mc1 .ne v1 = true then
      (rcv 8 q2.2 v0).bind fun u7 =>
      (e84 F v0 q2.2).bind fun q6 =>
      (gfi 8 3 q6.2 v0).bind fun x8 =>
      if mc1 .eq x8 = true then
        if mc2 .lt q6.1 1 = true then
          m80_53 F v0 q6.2
        else
          if mc2 .le q6.1 5 = true then
            (pfv 8 5 q6.2 v0 (.int q6.1)).bind fun hp12 =>
            (rcv 8 hp12 v0).bind fun u14 =>
            (e85 F v0 hp12).bind fun q13 =>
            some ((), q13.2)
          else
            m80_53 F v0 q6.2
      else
        some ((), q6.2)
    else
      m80_20 F v0 x1 q2.2
theorem t80_0 {d c w n : Nat} (hd : 6 ≤ d) (F : Nat) : ∀ (v0 : Nat) (v1 : Int32) (lv : List (Nat × Value)) (hp : List mE) (v : Unit) (hp' : List mE), alk 0 lv = some (.ref v0) → alk 1 lv = some (.int v1) → lvk n lv → hp.length = n → v0 < n → m80_0 F v0 v1 hp = some (v, hp') → Rn d 80 0 lv [] hp c w (none, hp', c, w) := by
  obtain ⟨d', rfl⟩ : ∃ d', d = d' + 1 := ⟨d - 1, by omega⟩
  intro v0 v1 lv hp v hp' l0 l1 ok hn r_v0 h
  unfold m80_0 at h
  refine Rn.aload_n n80_0 l0 ?_
  obtain ⟨x1, hx1, h⟩ := Option.bind_eq_some_iff.mp h
  refine Rn.gf n80_1 mo80 fl8_41 (gfi_v hx1) ?_
  refine Rn.isn (m := n) n80_4 rfl ml80 (by decide) (fun lv l2 hk hok => ?_)
  have l0 := hk 0 _ (by decide) (Or.inl rfl) l0
  have l1 := hk 1 _ (by decide) (Or.inl rfl) l1
  have ok := hok ok
  refine Rn.aload_n n80_5 l0 ?_
  refine Rn.sld (j := 0) n80_6 mo80 (by decide +kernel) (by decide +kernel) (by omega) ?_
  show Rn _ 80 8 lv [.ref 1000001, .ref v0] hp c w _
  obtain ⟨u3, hu3, h⟩ := Option.bind_eq_some_iff.mp h
  obtain ⟨q2, hq2, h⟩ := Option.bind_eq_some_iff.mp h
  have gq2 := c86 (d := d') (by omega) F _ _ _ _ _ (by rw [hn]; exact r_v0) (by decide) hq2
  refine Rn.cv (As := [.ref 1000001]) (rr := []) n80_8 mo80 mm8_60 (by decide) mq86 rfl rfl rfl rfl (by rw [mo86]; exact hu3) (Nat.le_of_ble_eq_true rfl) (by rw [hn]; exact (okc (okr r_v0) (okc (oks (by decide)) okn))) (by rw [hn]; exact okn) (by rw [hn]; exact ok) (by rw [ml86]; exact Nat.le_of_ble_eq_true rfl) gq2 ?_
  have hn := (Rn.len gq2).trans hn
  show Rn _ 80 11 lv [.int q2.1] q2.2 c w _
  refine Rn.isn (m := n) n80_11 rfl ml80 (by decide) (fun lv l3 hk hok => ?_)
  have l0 := hk 0 _ (by decide) (Or.inl rfl) l0
  have l1 := hk 1 _ (by decide) (Or.inl rfl) l1
  have l2 := hk 2 _ (by decide) (Or.inl rfl) l2
  have ok := hok ok
  refine Rn.iload_n n80_12 l3 ?_
  by_cases hc4 : mc1 .eq q2.1 = true
  · rw [if_pos hc4] at h
    refine Rn.c1t (t := 20) n80_13 (by decide) hc4 ?_
    exact t80_20 hd F  _ _ lv _ _ _ l0 l2 ok hn r_v0  h
  · rw [if_neg hc4] at h
    refine Rn.c1f (t := 20) n80_13 (by decide) hc4 ?_
    refine Rn.iload_n n80_16 l1 ?_
    by_cases hc5 : mc1 .ne v1 = true
    · rw [if_pos hc5] at h
      refine Rn.c1t (t := 27) n80_17 (by decide) hc5 ?_
      refine Rn.aload_n n80_27 l0 ?_
      obtain ⟨u7, hu7, h⟩ := Option.bind_eq_some_iff.mp h
      obtain ⟨q6, hq6, h⟩ := Option.bind_eq_some_iff.mp h
      have gq6 := c84 (d := d') (by omega) F _ _ _ _ (by rw [hn]; exact r_v0) hq6
      refine Rn.cv (As := []) (rr := []) n80_28 mo80 mm8_68 (by decide) mq84 rfl rfl rfl rfl (by rw [mo84]; exact hu7) (Nat.le_of_ble_eq_true rfl) (by rw [hn]; exact (okc (okr r_v0) okn)) (by rw [hn]; exact okn) (by rw [hn]; exact ok) (by rw [ml84]; exact Nat.le_of_ble_eq_true rfl) gq6 ?_
      have hn := (Rn.len gq6).trans hn
      show Rn _ 80 31 lv [.int q6.1] q6.2 c w _
      refine Rn.is (m := n) n80_31 ml80 (by decide) (fun lv l4 hk hok => ?_)
      have l0 := hk 0 _ (by decide) (Or.inl rfl) l0
      have l1 := hk 1 _ (by decide) (Or.inl rfl) l1
      have l2 := hk 2 _ (by decide) (Or.inl rfl) l2
      have l3 := hk 3 _ (by decide) (Or.inl rfl) l3
      have ok := hok ok
      refine Rn.aload_n n80_33 l0 ?_
      obtain ⟨x8, hx8, h⟩ := Option.bind_eq_some_iff.mp h
      refine Rn.gf n80_34 mo80 fl8_34 (gfi_v hx8) ?_
      by_cases hc9 : mc1 .eq x8 = true
      · rw [if_pos hc9] at h
        refine Rn.c1t (t := 41) n80_37 (by decide) hc9 ?_
        refine Rn.iload n80_41 l4 ?_
        refine Rn.ic (v := 1) n80_43 (by decide) ?_
        by_cases hc10 : mc2 .lt q6.1 1 = true
        · rw [if_pos hc10] at h
          refine Rn.c2t (t := 53) n80_44 (by decide) hc10 ?_
          exact t80_53 hd F  _ lv _ _ _ l0 ok hn r_v0  h
        · rw [if_neg hc10] at h
          refine Rn.c2f (t := 53) n80_44 (by decide) hc10 ?_
          refine Rn.iload n80_47 l4 ?_
          refine Rn.ic (v := 5) n80_49 (by decide) ?_
          by_cases hc11 : mc2 .le q6.1 5 = true
          · rw [if_pos hc11] at h
            refine Rn.c2t (t := 65) n80_50 (by decide) hc11 ?_
            refine Rn.aload_n n80_65 l0 ?_
            refine Rn.iload n80_66 l4 ?_
            obtain ⟨hp12, hhp12, h⟩ := Option.bind_eq_some_iff.mp h
            refine Rn.pf n80_68 mo80 fl8_55 ft8_5 rfl ff8_5 (fun _ _ hh => by cases hh) hhp12 ?_
            have hn := (pfv_len hhp12).trans hn
            refine Rn.aload_n n80_71 l0 ?_
            obtain ⟨u14, hu14, h⟩ := Option.bind_eq_some_iff.mp h
            obtain ⟨q13, hq13, h⟩ := Option.bind_eq_some_iff.mp h
            have gq13 := c85 (d := d') (by omega) F _ _ _ _ (by rw [hn]; exact r_v0) hq13
            refine Rn.cv (As := []) (rr := []) n80_72 mo80 mm8_72 (by decide) mq85 rfl rfl rfl rfl (by rw [mo85]; exact hu14) (Nat.le_of_ble_eq_true rfl) (by rw [hn]; exact (okc (okr r_v0) okn)) (by rw [hn]; exact okn) (by rw [hn]; exact ok) (by rw [ml85]; exact Nat.le_of_ble_eq_true rfl) gq13 ?_
            have hn := (Rn.len gq13).trans hn
            show Rn _ 80 75 lv [] q13.2 c w _
            have e1 := (Prod.mk.inj (Option.some.inj h)).1
            have e2 := (Prod.mk.inj (Option.some.inj h)).2
            subst e1
            subst e2
            exact Rn.vret n80_75 mr80
          · rw [if_neg hc11] at h
            refine Rn.c2f (t := 65) n80_50 (by decide) hc11 ?_
            exact t80_53 hd F  _ lv _ _ _ l0 ok hn r_v0  h
      · rw [if_neg hc9] at h
        refine Rn.c1f (t := 41) n80_37 (by decide) hc9 ?_
        have e1 := (Prod.mk.inj (Option.some.inj h)).1
        have e2 := (Prod.mk.inj (Option.some.inj h)).2
        subst e1
        subst e2
        exact Rn.vret n80_40 mr80
    · rw [if_neg hc5] at h
      refine Rn.c1f (t := 27) n80_17 (by decide) hc5 ?_
      exact t80_20 hd F  _ _ lv _ _ _ l0 l2 ok hn r_v0  h
def e80 (F : Nat) (a0 : Nat) (a1 : Int32) (hp : List mE) : Option (Unit × List mE) := m80_0 F a0 a1 hp
theorem c80 {d : Nat} (hd : 6 ≤ d) (F : Nat) (a0 : Nat) (a1 : Int32) (hp : List mE) (v : Unit) (hp' : List mE) (ra0 : a0 < hp.length) (h : e80 F a0 a1 hp = some (v, hp')) : Rn d 80 0 (lv_args 0 [.ref a0, .int a1]) [] hp 0 0 (none, hp', 0, 0) :=
  t80_0 (n := hp.length) hd F a0 a1 (lv_args 0 [.ref a0, .int a1]) hp v hp' rfl rfl (lvk_args (okc (okr ra0) (okc rfl okn))) rfl ra0 h
/-! MirrorRoots$Telling.takeTurns -/
def m83_84 (F : Nat) (v1 : Int32) (hp : List mE) : Option (Int32 × List mE) :=
  some (v1, hp)
theorem t83_84 {d c w n : Nat} (hd : 6 ≤ d) (F : Nat) : ∀ (v1 : Int32) (lv : List (Nat × Value)) (hp : List mE) (v : Int32) (hp' : List mE), alk 1 lv = some (.int v1) → lvk n lv → hp.length = n → m83_84 F v1 hp = some (v, hp') → Rn d 83 84 lv [] hp c w (some (.int v), hp', c, w) := by
  obtain ⟨d', rfl⟩ : ∃ d', d = d' + 1 := ⟨d - 1, by omega⟩
  intro v1 lv hp v hp' l1 ok hn h
  unfold m83_84 at h
  refine Rn.iload_n n83_84 l1 ?_
  have e1 := (Prod.mk.inj (Option.some.inj h)).1
  have e2 := (Prod.mk.inj (Option.some.inj h)).2
  subst e1
  subst e2
  exact Rn.iret n83_85 mr83
def m83_40 (F : Nat) (v0 : Nat) (hp : List mE) : Option (Int32 × List mE) :=
  (rcv 8 hp v0).bind fun u2 =>
  (e84 F v0 hp).bind fun q1 =>
  (gfi 8 3 q1.2 v0).bind fun x3 =>
  if mc1 .ne x3 = true then
    m83_84 F q1.1 q1.2
  else
    if mc2 .eq q1.1 2 = true then
      m83_84 F q1.1 q1.2
    else
      if mc2 .eq q1.1 3 = true then
        m83_84 F q1.1 q1.2
      else
        if mc2 .eq q1.1 4 = true then
          m83_84 F q1.1 q1.2
        else
          if mc2 .eq q1.1 6 = true then
            m83_84 F q1.1 q1.2
          else
            (gfi 8 2 q1.2 v0).bind fun x9 =>
            (rcv 8 q1.2 v0).bind fun u11 =>
            (e89 F v0 2 (x9 - 1) q1.2).bind fun q10 =>
            m83_84 F q1.1 q10.2
theorem t83_40 {d c w n : Nat} (hd : 6 ≤ d) (F : Nat) : ∀ (v0 : Nat) (lv : List (Nat × Value)) (hp : List mE) (v : Int32) (hp' : List mE), alk 0 lv = some (.ref v0) → lvk n lv → hp.length = n → v0 < n → m83_40 F v0 hp = some (v, hp') → Rn d 83 40 lv [] hp c w (some (.int v), hp', c, w) := by
  obtain ⟨d', rfl⟩ : ∃ d', d = d' + 1 := ⟨d - 1, by omega⟩
  intro v0 lv hp v hp' l0 ok hn r_v0 h
  unfold m83_40 at h
  refine Rn.aload_n n83_40 l0 ?_
  obtain ⟨u2, hu2, h⟩ := Option.bind_eq_some_iff.mp h
  obtain ⟨q1, hq1, h⟩ := Option.bind_eq_some_iff.mp h
  have gq1 := c84 (d := d') (by omega) F _ _ _ _ (by rw [hn]; exact r_v0) hq1
  refine Rn.cv (As := []) (rr := []) n83_41 mo83 mm8_68 (by decide) mq84 rfl rfl rfl rfl (by rw [mo84]; exact hu2) (Nat.le_of_ble_eq_true rfl) (by rw [hn]; exact (okc (okr r_v0) okn)) (by rw [hn]; exact okn) (by rw [hn]; exact ok) (by rw [ml84]; exact Nat.le_of_ble_eq_true rfl) gq1 ?_
  have hn := (Rn.len gq1).trans hn
  show Rn _ 83 44 lv [.int q1.1] q1.2 c w _
  refine Rn.isn (m := n) n83_44 rfl ml83 (by decide) (fun lv l1 hk hok => ?_)
  have l0 := hk 0 _ (by decide) (Or.inl rfl) l0
  have ok := hok ok
  refine Rn.aload_n n83_45 l0 ?_
  obtain ⟨x3, hx3, h⟩ := Option.bind_eq_some_iff.mp h
  refine Rn.gf n83_46 mo83 fl8_34 (gfi_v hx3) ?_
  by_cases hc4 : mc1 .ne x3 = true
  · rw [if_pos hc4] at h
    refine Rn.c1t (t := 84) n83_49 (by decide) hc4 ?_
    exact t83_84 hd F  _ lv _ _ _ l1 ok hn   h
  · rw [if_neg hc4] at h
    refine Rn.c1f (t := 84) n83_49 (by decide) hc4 ?_
    refine Rn.iload_n n83_52 l1 ?_
    refine Rn.ic (v := 2) n83_53 (by decide) ?_
    by_cases hc5 : mc2 .eq q1.1 2 = true
    · rw [if_pos hc5] at h
      refine Rn.c2t (t := 84) n83_54 (by decide) hc5 ?_
      exact t83_84 hd F  _ lv _ _ _ l1 ok hn   h
    · rw [if_neg hc5] at h
      refine Rn.c2f (t := 84) n83_54 (by decide) hc5 ?_
      refine Rn.iload_n n83_57 l1 ?_
      refine Rn.ic (v := 3) n83_58 (by decide) ?_
      by_cases hc6 : mc2 .eq q1.1 3 = true
      · rw [if_pos hc6] at h
        refine Rn.c2t (t := 84) n83_59 (by decide) hc6 ?_
        exact t83_84 hd F  _ lv _ _ _ l1 ok hn   h
      · rw [if_neg hc6] at h
        refine Rn.c2f (t := 84) n83_59 (by decide) hc6 ?_
        refine Rn.iload_n n83_62 l1 ?_
        refine Rn.ic (v := 4) n83_63 (by decide) ?_
        by_cases hc7 : mc2 .eq q1.1 4 = true
        · rw [if_pos hc7] at h
          refine Rn.c2t (t := 84) n83_64 (by decide) hc7 ?_
          exact t83_84 hd F  _ lv _ _ _ l1 ok hn   h
        · rw [if_neg hc7] at h
          refine Rn.c2f (t := 84) n83_64 (by decide) hc7 ?_
          refine Rn.iload_n n83_67 l1 ?_
          refine Rn.bp (v := 6) n83_68 (by decide) ?_
          by_cases hc8 : mc2 .eq q1.1 6 = true
          · rw [if_pos hc8] at h
            refine Rn.c2t (t := 84) n83_70 (by decide) hc8 ?_
            exact t83_84 hd F  _ lv _ _ _ l1 ok hn   h
          · rw [if_neg hc8] at h
            refine Rn.c2f (t := 84) n83_70 (by decide) hc8 ?_
            refine Rn.aload_n n83_73 l0 ?_
            refine Rn.ic (v := 2) n83_74 (by decide) ?_
            refine Rn.aload_n n83_75 l0 ?_
            obtain ⟨x9, hx9, h⟩ := Option.bind_eq_some_iff.mp h
            refine Rn.gf n83_76 mo83 fl8_41 (gfi_v hx9) ?_
            refine Rn.ic (v := 1) n83_79 (by decide) ?_
            refine Rn.p n83_80 rfl ?_
            obtain ⟨u11, hu11, h⟩ := Option.bind_eq_some_iff.mp h
            obtain ⟨q10, hq10, h⟩ := Option.bind_eq_some_iff.mp h
            have gq10 := c89 (d := d') (by omega) F _ _ _ _ _ _ (by rw [hn]; exact r_v0) hq10
            refine Rn.cv (As := [.int 2, .int (x9 - 1)]) (rr := []) n83_81 mo83 mm8_64 (by decide) mq89 rfl rfl rfl rfl (by rw [mo89]; exact hu11) (Nat.le_of_ble_eq_true rfl) (by rw [hn]; exact (okc (okr r_v0) (okc rfl (okc rfl okn)))) (by rw [hn]; exact okn) (by rw [hn]; exact ok) (by rw [ml89]; exact Nat.le_of_ble_eq_true rfl) gq10 ?_
            have hn := (Rn.len gq10).trans hn
            show Rn _ 83 84 lv [] q10.2 c w _
            exact t83_84 hd F  _ lv _ _ _ l1 ok hn   h
def m83_38 (F : Nat) (hp : List mE) : Option (Int32 × List mE) :=
  some (0, hp)
theorem t83_38 {d c w n : Nat} (hd : 6 ≤ d) (F : Nat) : ∀ (lv : List (Nat × Value)) (hp : List mE) (v : Int32) (hp' : List mE), lvk n lv → hp.length = n → m83_38 F hp = some (v, hp') → Rn d 83 38 lv [] hp c w (some (.int v), hp', c, w) := by
  obtain ⟨d', rfl⟩ : ∃ d', d = d' + 1 := ⟨d - 1, by omega⟩
  intro lv hp v hp' ok hn h
  unfold m83_38 at h
  refine Rn.ic (v := 0) n83_38 (by decide) ?_
  have e1 := (Prod.mk.inj (Option.some.inj h)).1
  have e2 := (Prod.mk.inj (Option.some.inj h)).2
  subst e1
  subst e2
  exact Rn.iret n83_39 mr83
def m83_0 (F : Nat) (v0 : Nat) (hp : List mE) : Option (Int32 × List mE) :=
  (rcv 8 hp v0).bind fun u2 =>
  (e87 F v0 hp).bind fun q1 =>
  if mc1 .eq q1.1 = true then
    m83_40 F v0 q1.2
  else
    (gfi 8 2 q1.2 v0).bind fun x4 =>
    (rcv 8 q1.2 v0).bind fun u6 =>
    (e88 F v0 x4 q1.2).bind fun q5 =>
    if mc1 .eq q5.1 = true then
      m83_40 F v0 q5.2
    else
      (gfi 8 2 q5.2 v0).bind fun x8 =>
      (rcv 8 q5.2 v0).bind fun u10 =>
      (e86 F v0 1000002 q5.2).bind fun q9 =>
      if mc1 .ne q9.1 = true then
        m83_38 F q9.2
      else
        (rcv 8 q9.2 v0).bind fun u13 =>
        (e89 F v0 1 x8 q9.2).bind fun q12 =>
        m83_38 F q12.2
theorem t83_0 {d c w n : Nat} (hd : 6 ≤ d) (F : Nat) : ∀ (v0 : Nat) (lv : List (Nat × Value)) (hp : List mE) (v : Int32) (hp' : List mE), alk 0 lv = some (.ref v0) → lvk n lv → hp.length = n → v0 < n → m83_0 F v0 hp = some (v, hp') → Rn d 83 0 lv [] hp c w (some (.int v), hp', c, w) := by
  obtain ⟨d', rfl⟩ : ∃ d', d = d' + 1 := ⟨d - 1, by omega⟩
  intro v0 lv hp v hp' l0 ok hn r_v0 h
  unfold m83_0 at h
  refine Rn.aload_n n83_0 l0 ?_
  obtain ⟨u2, hu2, h⟩ := Option.bind_eq_some_iff.mp h
  obtain ⟨q1, hq1, h⟩ := Option.bind_eq_some_iff.mp h
  have gq1 := c87 (d := d') (by omega) F _ _ _ _ (by rw [hn]; exact r_v0) hq1
  refine Rn.cv (As := []) (rr := []) n83_1 mo83 mm8_37 (by decide) mq87 rfl rfl rfl rfl (by rw [mo87]; exact hu2) (Nat.le_of_ble_eq_true rfl) (by rw [hn]; exact (okc (okr r_v0) okn)) (by rw [hn]; exact okn) (by rw [hn]; exact ok) (by rw [ml87]; exact Nat.le_of_ble_eq_true rfl) gq1 ?_
  have hn := (Rn.len gq1).trans hn
  show Rn _ 83 4 lv [.int q1.1] q1.2 c w _
  by_cases hc3 : mc1 .eq q1.1 = true
  · rw [if_pos hc3] at h
    refine Rn.c1t (t := 40) n83_4 (by decide) hc3 ?_
    exact t83_40 hd F  _ lv _ _ _ l0 ok hn r_v0  h
  · rw [if_neg hc3] at h
    refine Rn.c1f (t := 40) n83_4 (by decide) hc3 ?_
    refine Rn.aload_n n83_7 l0 ?_
    refine Rn.aload_n n83_8 l0 ?_
    obtain ⟨x4, hx4, h⟩ := Option.bind_eq_some_iff.mp h
    refine Rn.gf n83_9 mo83 fl8_41 (gfi_v hx4) ?_
    obtain ⟨u6, hu6, h⟩ := Option.bind_eq_some_iff.mp h
    obtain ⟨q5, hq5, h⟩ := Option.bind_eq_some_iff.mp h
    have gq5 := c88 (d := d') (by omega) F _ _ _ _ _ (by rw [hn]; exact r_v0) hq5
    refine Rn.cv (As := [.int x4]) (rr := []) n83_12 mo83 mm8_44 (by decide) mq88 rfl rfl rfl rfl (by rw [mo88]; exact hu6) (Nat.le_of_ble_eq_true rfl) (by rw [hn]; exact (okc (okr r_v0) (okc rfl okn))) (by rw [hn]; exact okn) (by rw [hn]; exact ok) (by rw [ml88]; exact Nat.le_of_ble_eq_true rfl) gq5 ?_
    have hn := (Rn.len gq5).trans hn
    show Rn _ 83 15 lv [.int q5.1] q5.2 c w _
    by_cases hc7 : mc1 .eq q5.1 = true
    · rw [if_pos hc7] at h
      refine Rn.c1t (t := 40) n83_15 (by decide) hc7 ?_
      exact t83_40 hd F  _ lv _ _ _ l0 ok hn r_v0  h
    · rw [if_neg hc7] at h
      refine Rn.c1f (t := 40) n83_15 (by decide) hc7 ?_
      refine Rn.aload_n n83_18 l0 ?_
      obtain ⟨x8, hx8, h⟩ := Option.bind_eq_some_iff.mp h
      refine Rn.gf n83_19 mo83 fl8_41 (gfi_v hx8) ?_
      refine Rn.isn (m := n) n83_22 rfl ml83 (by decide) (fun lv l1 hk hok => ?_)
      have l0 := hk 0 _ (by decide) (Or.inl rfl) l0
      have ok := hok ok
      refine Rn.aload_n n83_23 l0 ?_
      refine Rn.sld (j := 1) n83_24 mo83 (by decide +kernel) (by decide +kernel) (by omega) ?_
      show Rn _ 83 26 lv [.ref 1000002, .ref v0] q5.2 c w _
      obtain ⟨u10, hu10, h⟩ := Option.bind_eq_some_iff.mp h
      obtain ⟨q9, hq9, h⟩ := Option.bind_eq_some_iff.mp h
      have gq9 := c86 (d := d') (by omega) F _ _ _ _ _ (by rw [hn]; exact r_v0) (by decide) hq9
      refine Rn.cv (As := [.ref 1000002]) (rr := []) n83_26 mo83 mm8_60 (by decide) mq86 rfl rfl rfl rfl (by rw [mo86]; exact hu10) (Nat.le_of_ble_eq_true rfl) (by rw [hn]; exact (okc (okr r_v0) (okc (oks (by decide)) okn))) (by rw [hn]; exact okn) (by rw [hn]; exact ok) (by rw [ml86]; exact Nat.le_of_ble_eq_true rfl) gq9 ?_
      have hn := (Rn.len gq9).trans hn
      show Rn _ 83 29 lv [.int q9.1] q9.2 c w _
      by_cases hc11 : mc1 .ne q9.1 = true
      · rw [if_pos hc11] at h
        refine Rn.c1t (t := 38) n83_29 (by decide) hc11 ?_
        exact t83_38 hd F  lv _ _ _  ok hn   h
      · rw [if_neg hc11] at h
        refine Rn.c1f (t := 38) n83_29 (by decide) hc11 ?_
        refine Rn.aload_n n83_32 l0 ?_
        refine Rn.ic (v := 1) n83_33 (by decide) ?_
        refine Rn.iload_n n83_34 l1 ?_
        obtain ⟨u13, hu13, h⟩ := Option.bind_eq_some_iff.mp h
        obtain ⟨q12, hq12, h⟩ := Option.bind_eq_some_iff.mp h
        have gq12 := c89 (d := d') (by omega) F _ _ _ _ _ _ (by rw [hn]; exact r_v0) hq12
        refine Rn.cv (As := [.int 1, .int x8]) (rr := []) n83_35 mo83 mm8_64 (by decide) mq89 rfl rfl rfl rfl (by rw [mo89]; exact hu13) (Nat.le_of_ble_eq_true rfl) (by rw [hn]; exact (okc (okr r_v0) (okc rfl (okc rfl okn)))) (by rw [hn]; exact okn) (by rw [hn]; exact ok) (by rw [ml89]; exact Nat.le_of_ble_eq_true rfl) gq12 ?_
        have hn := (Rn.len gq12).trans hn
        show Rn _ 83 38 lv [] q12.2 c w _
        exact t83_38 hd F  lv _ _ _  ok hn   h
def e83 (F : Nat) (a0 : Nat) (hp : List mE) : Option (Int32 × List mE) := m83_0 F a0 hp
theorem c83 {d : Nat} (hd : 6 ≤ d) (F : Nat) (a0 : Nat) (hp : List mE) (v : Int32) (hp' : List mE) (ra0 : a0 < hp.length) (h : e83 F a0 hp = some (v, hp')) : Rn d 83 0 (lv_args 0 [.ref a0]) [] hp 0 0 (some (.int v), hp', 0, 0) :=
  t83_0 (n := hp.length) hd F a0 (lv_args 0 [.ref a0]) hp v hp' rfl (lvk_args (okc (okr ra0) okn)) rfl ra0 h
/-! MirrorRoots$Telling.tellPair -/
def m81_80 (F : Nat) (v0 : Nat) (v1 : Int32) (v2 : Int32) (v3 : Int32) (hp : List mE) : Option (Unit × List mE) :=
  (gfi 8 3 hp v0).bind fun x1 =>
  if mc1 .eq x1 = true then
    (gfr 8 7 hp v0).bind fun x3 =>
    (rdZ hp x3 ((v2 * 5) + v3)).bind fun x4 =>
    if mc1 .eq x4 = true then
      (rcv 8 hp v0).bind fun u7 =>
      (e83 F v0 hp).bind fun q6 =>
      (gfi 8 3 q6.2 v0).bind fun x8 =>
      if mc1 .eq x8 = true then
        (rcv 8 q6.2 v0).bind fun u11 =>
        (e82 F v0 v2 v3 q6.1 q6.2).bind fun q10 =>
        (rcv 8 q10.2 v0).bind fun u13 =>
        (e82 F v0 v3 v2 q6.1 q10.2).bind fun q12 =>
        (rcv 8 q12.2 v0).bind fun u15 =>
        (e85 F v0 q12.2).bind fun q14 =>
        some ((), q14.2)
      else
        some ((), q6.2)
    else
      (rcv 8 hp v0).bind fun u17 =>
      (e89 F v0 3 v1 hp).bind fun q16 =>
      some ((), q16.2)
  else
    some ((), hp)
theorem t81_80 {d c w n : Nat} (hd : 7 ≤ d) (F : Nat) : ∀ (v0 : Nat) (v1 : Int32) (v2 : Int32) (v3 : Int32) (lv : List (Nat × Value)) (hp : List mE) (v : Unit) (hp' : List mE), alk 0 lv = some (.ref v0) → alk 1 lv = some (.int v1) → alk 2 lv = some (.int v2) → alk 3 lv = some (.int v3) → lvk n lv → hp.length = n → v0 < n → m81_80 F v0 v1 v2 v3 hp = some (v, hp') → Rn d 81 80 lv [] hp c w (none, hp', c, w) := by
  obtain ⟨d', rfl⟩ : ∃ d', d = d' + 1 := ⟨d - 1, by omega⟩
  intro v0 v1 v2 v3 lv hp v hp' l0 l1 l2 l3 ok hn r_v0 h
  unfold m81_80 at h
  refine Rn.aload_n n81_80 l0 ?_
  obtain ⟨x1, hx1, h⟩ := Option.bind_eq_some_iff.mp h
  refine Rn.gf n81_81 mo81 fl8_34 (gfi_v hx1) ?_
  by_cases hc2 : mc1 .eq x1 = true
  · rw [if_pos hc2] at h
    refine Rn.c1t (t := 88) n81_84 (by decide) hc2 ?_
    refine Rn.aload_n n81_88 l0 ?_
    obtain ⟨x3, hx3, h⟩ := Option.bind_eq_some_iff.mp h
    refine Rn.gf n81_89 mo81 fl8_25 (gfr_v hx3).1 ?_
    have r_x3 : x3 < n := by rw [← hn]; exact (gfr_v hx3).2
    refine Rn.iload_n n81_92 l2 ?_
    refine Rn.ic (v := 5) n81_93 (by decide) ?_
    refine Rn.p n81_94 rfl ?_
    refine Rn.iload_n n81_95 l3 ?_
    refine Rn.p n81_96 rfl ?_
    obtain ⟨x4, hx4, h⟩ := Option.bind_eq_some_iff.mp h
    refine Rn.zald n81_97 hx4 ?_
    by_cases hc5 : mc1 .eq x4 = true
    · rw [if_pos hc5] at h
      refine Rn.c1t (t := 108) n81_98 (by decide) hc5 ?_
      refine Rn.aload_n n81_108 l0 ?_
      obtain ⟨u7, hu7, h⟩ := Option.bind_eq_some_iff.mp h
      obtain ⟨q6, hq6, h⟩ := Option.bind_eq_some_iff.mp h
      have gq6 := c83 (d := d') (by omega) F _ _ _ _ (by rw [hn]; exact r_v0) hq6
      refine Rn.cv (As := []) (rr := []) n81_109 mo81 mm8_75 (by decide) mq83 rfl rfl rfl rfl (by rw [mo83]; exact hu7) (Nat.le_of_ble_eq_true rfl) (by rw [hn]; exact (okc (okr r_v0) okn)) (by rw [hn]; exact okn) (by rw [hn]; exact ok) (by rw [ml83]; exact Nat.le_of_ble_eq_true rfl) gq6 ?_
      have hn := (Rn.len gq6).trans hn
      show Rn _ 81 112 lv [.int q6.1] q6.2 c w _
      refine Rn.is (m := n) n81_112 ml81 (by decide) (fun lv l4 hk hok => ?_)
      have l0 := hk 0 _ (by decide) (Or.inl rfl) l0
      have l1 := hk 1 _ (by decide) (Or.inl rfl) l1
      have l2 := hk 2 _ (by decide) (Or.inl rfl) l2
      have l3 := hk 3 _ (by decide) (Or.inl rfl) l3
      have ok := hok ok
      refine Rn.aload_n n81_114 l0 ?_
      obtain ⟨x8, hx8, h⟩ := Option.bind_eq_some_iff.mp h
      refine Rn.gf n81_115 mo81 fl8_34 (gfi_v hx8) ?_
      by_cases hc9 : mc1 .eq x8 = true
      · rw [if_pos hc9] at h
        refine Rn.c1t (t := 122) n81_118 (by decide) hc9 ?_
        refine Rn.aload_n n81_122 l0 ?_
        refine Rn.iload_n n81_123 l2 ?_
        refine Rn.iload_n n81_124 l3 ?_
        refine Rn.iload n81_125 l4 ?_
        obtain ⟨u11, hu11, h⟩ := Option.bind_eq_some_iff.mp h
        obtain ⟨q10, hq10, h⟩ := Option.bind_eq_some_iff.mp h
        have gq10 := c82 (d := d') (by omega) F _ _ _ _ _ _ _ (by rw [hn]; exact r_v0) hq10
        refine Rn.cv (As := [.int v2, .int v3, .int q6.1]) (rr := []) n81_127 mo81 mm8_78 (by decide) mq82 rfl rfl rfl rfl (by rw [mo82]; exact hu11) (Nat.le_of_ble_eq_true rfl) (by rw [hn]; exact (okc (okr r_v0) (okc rfl (okc rfl (okc rfl okn))))) (by rw [hn]; exact okn) (by rw [hn]; exact ok) (by rw [ml82]; exact Nat.le_of_ble_eq_true rfl) gq10 ?_
        have hn := (Rn.len gq10).trans hn
        show Rn _ 81 130 lv [] q10.2 c w _
        refine Rn.aload_n n81_130 l0 ?_
        refine Rn.iload_n n81_131 l3 ?_
        refine Rn.iload_n n81_132 l2 ?_
        refine Rn.iload n81_133 l4 ?_
        obtain ⟨u13, hu13, h⟩ := Option.bind_eq_some_iff.mp h
        obtain ⟨q12, hq12, h⟩ := Option.bind_eq_some_iff.mp h
        have gq12 := c82 (d := d') (by omega) F _ _ _ _ _ _ _ (by rw [hn]; exact r_v0) hq12
        refine Rn.cv (As := [.int v3, .int v2, .int q6.1]) (rr := []) n81_135 mo81 mm8_78 (by decide) mq82 rfl rfl rfl rfl (by rw [mo82]; exact hu13) (Nat.le_of_ble_eq_true rfl) (by rw [hn]; exact (okc (okr r_v0) (okc rfl (okc rfl (okc rfl okn))))) (by rw [hn]; exact okn) (by rw [hn]; exact ok) (by rw [ml82]; exact Nat.le_of_ble_eq_true rfl) gq12 ?_
        have hn := (Rn.len gq12).trans hn
        show Rn _ 81 138 lv [] q12.2 c w _
        refine Rn.aload_n n81_138 l0 ?_
        obtain ⟨u15, hu15, h⟩ := Option.bind_eq_some_iff.mp h
        obtain ⟨q14, hq14, h⟩ := Option.bind_eq_some_iff.mp h
        have gq14 := c85 (d := d') (by omega) F _ _ _ _ (by rw [hn]; exact r_v0) hq14
        refine Rn.cv (As := []) (rr := []) n81_139 mo81 mm8_72 (by decide) mq85 rfl rfl rfl rfl (by rw [mo85]; exact hu15) (Nat.le_of_ble_eq_true rfl) (by rw [hn]; exact (okc (okr r_v0) okn)) (by rw [hn]; exact okn) (by rw [hn]; exact ok) (by rw [ml85]; exact Nat.le_of_ble_eq_true rfl) gq14 ?_
        have hn := (Rn.len gq14).trans hn
        show Rn _ 81 142 lv [] q14.2 c w _
        have e1 := (Prod.mk.inj (Option.some.inj h)).1
        have e2 := (Prod.mk.inj (Option.some.inj h)).2
        subst e1
        subst e2
        exact Rn.vret n81_142 mr81
      · rw [if_neg hc9] at h
        refine Rn.c1f (t := 122) n81_118 (by decide) hc9 ?_
        have e1 := (Prod.mk.inj (Option.some.inj h)).1
        have e2 := (Prod.mk.inj (Option.some.inj h)).2
        subst e1
        subst e2
        exact Rn.vret n81_121 mr81
    · rw [if_neg hc5] at h
      refine Rn.c1f (t := 108) n81_98 (by decide) hc5 ?_
      refine Rn.aload_n n81_101 l0 ?_
      refine Rn.ic (v := 3) n81_102 (by decide) ?_
      refine Rn.iload_n n81_103 l1 ?_
      obtain ⟨u17, hu17, h⟩ := Option.bind_eq_some_iff.mp h
      obtain ⟨q16, hq16, h⟩ := Option.bind_eq_some_iff.mp h
      have gq16 := c89 (d := d') (by omega) F _ _ _ _ _ _ (by rw [hn]; exact r_v0) hq16
      refine Rn.cv (As := [.int 3, .int v1]) (rr := []) n81_104 mo81 mm8_64 (by decide) mq89 rfl rfl rfl rfl (by rw [mo89]; exact hu17) (Nat.le_of_ble_eq_true rfl) (by rw [hn]; exact (okc (okr r_v0) (okc rfl (okc rfl okn)))) (by rw [hn]; exact okn) (by rw [hn]; exact ok) (by rw [ml89]; exact Nat.le_of_ble_eq_true rfl) gq16 ?_
      have hn := (Rn.len gq16).trans hn
      show Rn _ 81 107 lv [] q16.2 c w _
      have e1 := (Prod.mk.inj (Option.some.inj h)).1
      have e2 := (Prod.mk.inj (Option.some.inj h)).2
      subst e1
      subst e2
      exact Rn.vret n81_107 mr81
  · rw [if_neg hc2] at h
    refine Rn.c1f (t := 88) n81_84 (by decide) hc2 ?_
    have e1 := (Prod.mk.inj (Option.some.inj h)).1
    have e2 := (Prod.mk.inj (Option.some.inj h)).2
    subst e1
    subst e2
    exact Rn.vret n81_87 mr81
def m81_69 (F : Nat) (v0 : Nat) (v1 : Int32) (v2 : Int32) (v3 : Int32) (hp : List mE) : Option (Unit × List mE) :=
  (gfi 8 2 hp v0).bind fun x1 =>
  (rcv 8 hp v0).bind fun u3 =>
  (e89 F v0 2 (x1 - 1) hp).bind fun q2 =>
  m81_80 F v0 v1 v2 v3 q2.2
theorem t81_69 {d c w n : Nat} (hd : 7 ≤ d) (F : Nat) : ∀ (v0 : Nat) (v1 : Int32) (v2 : Int32) (v3 : Int32) (lv : List (Nat × Value)) (hp : List mE) (v : Unit) (hp' : List mE), alk 0 lv = some (.ref v0) → alk 1 lv = some (.int v1) → alk 2 lv = some (.int v2) → alk 3 lv = some (.int v3) → lvk n lv → hp.length = n → v0 < n → m81_69 F v0 v1 v2 v3 hp = some (v, hp') → Rn d 81 69 lv [] hp c w (none, hp', c, w) := by
  obtain ⟨d', rfl⟩ : ∃ d', d = d' + 1 := ⟨d - 1, by omega⟩
  intro v0 v1 v2 v3 lv hp v hp' l0 l1 l2 l3 ok hn r_v0 h
  unfold m81_69 at h
  refine Rn.aload_n n81_69 l0 ?_
  refine Rn.ic (v := 2) n81_70 (by decide) ?_
  refine Rn.aload_n n81_71 l0 ?_
  obtain ⟨x1, hx1, h⟩ := Option.bind_eq_some_iff.mp h
  refine Rn.gf n81_72 mo81 fl8_41 (gfi_v hx1) ?_
  refine Rn.ic (v := 1) n81_75 (by decide) ?_
  refine Rn.p n81_76 rfl ?_
  obtain ⟨u3, hu3, h⟩ := Option.bind_eq_some_iff.mp h
  obtain ⟨q2, hq2, h⟩ := Option.bind_eq_some_iff.mp h
  have gq2 := c89 (d := d') (by omega) F _ _ _ _ _ _ (by rw [hn]; exact r_v0) hq2
  refine Rn.cv (As := [.int 2, .int (x1 - 1)]) (rr := []) n81_77 mo81 mm8_64 (by decide) mq89 rfl rfl rfl rfl (by rw [mo89]; exact hu3) (Nat.le_of_ble_eq_true rfl) (by rw [hn]; exact (okc (okr r_v0) (okc rfl (okc rfl okn)))) (by rw [hn]; exact okn) (by rw [hn]; exact ok) (by rw [ml89]; exact Nat.le_of_ble_eq_true rfl) gq2 ?_
  have hn := (Rn.len gq2).trans hn
  show Rn _ 81 80 lv [] q2.2 c w _
  exact t81_80 hd F  _ _ _ _ lv _ _ _ l0 l1 l2 l3 ok hn r_v0  h
def m81_36 (F : Nat) (v0 : Nat) (v1 : Int32) (v2 : Int32) (hp : List mE) : Option (Unit × List mE) :=
  (gfi 8 3 hp v0).bind fun x1 =>
  if mc1 .eq x1 = true then
    (rcv 8 hp v0).bind fun u4 =>
    (e84 F v0 hp).bind fun q3 =>
    (gfi 8 3 q3.2 v0).bind fun x5 =>
    if mc1 .ne x5 = true then
      m81_80 F v0 v1 v2 q3.1 q3.2
    else
      (gfi 8 5 q3.2 v0).bind fun x7 =>
      if mc2 .ge q3.1 x7 = true then
        m81_69 F v0 v1 v2 q3.1 q3.2
      else
        if mc2 .ne q3.1 v2 = true then
          m81_80 F v0 v1 v2 q3.1 q3.2
        else
          m81_69 F v0 v1 v2 q3.1 q3.2
  else
    some ((), hp)
theorem t81_36 {d c w n : Nat} (hd : 7 ≤ d) (F : Nat) : ∀ (v0 : Nat) (v1 : Int32) (v2 : Int32) (lv : List (Nat × Value)) (hp : List mE) (v : Unit) (hp' : List mE), alk 0 lv = some (.ref v0) → alk 1 lv = some (.int v1) → alk 2 lv = some (.int v2) → lvk n lv → hp.length = n → v0 < n → m81_36 F v0 v1 v2 hp = some (v, hp') → Rn d 81 36 lv [] hp c w (none, hp', c, w) := by
  obtain ⟨d', rfl⟩ : ∃ d', d = d' + 1 := ⟨d - 1, by omega⟩
  intro v0 v1 v2 lv hp v hp' l0 l1 l2 ok hn r_v0 h
  unfold m81_36 at h
  refine Rn.aload_n n81_36 l0 ?_
  obtain ⟨x1, hx1, h⟩ := Option.bind_eq_some_iff.mp h
  refine Rn.gf n81_37 mo81 fl8_34 (gfi_v hx1) ?_
  by_cases hc2 : mc1 .eq x1 = true
  · rw [if_pos hc2] at h
    refine Rn.c1t (t := 44) n81_40 (by decide) hc2 ?_
    refine Rn.aload_n n81_44 l0 ?_
    obtain ⟨u4, hu4, h⟩ := Option.bind_eq_some_iff.mp h
    obtain ⟨q3, hq3, h⟩ := Option.bind_eq_some_iff.mp h
    have gq3 := c84 (d := d') (by omega) F _ _ _ _ (by rw [hn]; exact r_v0) hq3
    refine Rn.cv (As := []) (rr := []) n81_45 mo81 mm8_68 (by decide) mq84 rfl rfl rfl rfl (by rw [mo84]; exact hu4) (Nat.le_of_ble_eq_true rfl) (by rw [hn]; exact (okc (okr r_v0) okn)) (by rw [hn]; exact okn) (by rw [hn]; exact ok) (by rw [ml84]; exact Nat.le_of_ble_eq_true rfl) gq3 ?_
    have hn := (Rn.len gq3).trans hn
    show Rn _ 81 48 lv [.int q3.1] q3.2 c w _
    refine Rn.isn (m := n) n81_48 rfl ml81 (by decide) (fun lv l3 hk hok => ?_)
    have l0 := hk 0 _ (by decide) (Or.inl rfl) l0
    have l1 := hk 1 _ (by decide) (Or.inl rfl) l1
    have l2 := hk 2 _ (by decide) (Or.inl rfl) l2
    have ok := hok ok
    refine Rn.aload_n n81_49 l0 ?_
    obtain ⟨x5, hx5, h⟩ := Option.bind_eq_some_iff.mp h
    refine Rn.gf n81_50 mo81 fl8_34 (gfi_v hx5) ?_
    by_cases hc6 : mc1 .ne x5 = true
    · rw [if_pos hc6] at h
      refine Rn.c1t (t := 80) n81_53 (by decide) hc6 ?_
      exact t81_80 hd F  _ _ _ _ lv _ _ _ l0 l1 l2 l3 ok hn r_v0  h
    · rw [if_neg hc6] at h
      refine Rn.c1f (t := 80) n81_53 (by decide) hc6 ?_
      refine Rn.iload_n n81_56 l3 ?_
      refine Rn.aload_n n81_57 l0 ?_
      obtain ⟨x7, hx7, h⟩ := Option.bind_eq_some_iff.mp h
      refine Rn.gf n81_58 mo81 fl8_55 (gfi_v hx7) ?_
      by_cases hc8 : mc2 .ge q3.1 x7 = true
      · rw [if_pos hc8] at h
        refine Rn.c2t (t := 69) n81_61 (by decide) hc8 ?_
        exact t81_69 hd F  _ _ _ _ lv _ _ _ l0 l1 l2 l3 ok hn r_v0  h
      · rw [if_neg hc8] at h
        refine Rn.c2f (t := 69) n81_61 (by decide) hc8 ?_
        refine Rn.iload_n n81_64 l3 ?_
        refine Rn.iload_n n81_65 l2 ?_
        by_cases hc9 : mc2 .ne q3.1 v2 = true
        · rw [if_pos hc9] at h
          refine Rn.c2t (t := 80) n81_66 (by decide) hc9 ?_
          exact t81_80 hd F  _ _ _ _ lv _ _ _ l0 l1 l2 l3 ok hn r_v0  h
        · rw [if_neg hc9] at h
          refine Rn.c2f (t := 80) n81_66 (by decide) hc9 ?_
          exact t81_69 hd F  _ _ _ _ lv _ _ _ l0 l1 l2 l3 ok hn r_v0  h
  · rw [if_neg hc2] at h
    refine Rn.c1f (t := 44) n81_40 (by decide) hc2 ?_
    have e1 := (Prod.mk.inj (Option.some.inj h)).1
    have e2 := (Prod.mk.inj (Option.some.inj h)).2
    subst e1
    subst e2
    exact Rn.vret n81_43 mr81
def m81_0 (F : Nat) (v0 : Nat) (hp : List mE) : Option (Unit × List mE) :=
  (gfi 8 2 hp v0).bind fun x1 =>
  (rcv 8 hp v0).bind fun u3 =>
  (e84 F v0 hp).bind fun q2 =>
  (gfi 8 3 q2.2 v0).bind fun x4 =>
  if mc1 .ne x4 = true then
    m81_36 F v0 x1 q2.1 q2.2
  else
    (gfi 8 5 q2.2 v0).bind fun x6 =>
    if mc2 .lt q2.1 x6 = true then
      m81_36 F v0 x1 q2.1 q2.2
    else
      (gfi 8 2 q2.2 v0).bind fun x8 =>
      (rcv 8 q2.2 v0).bind fun u10 =>
      (e89 F v0 2 (x8 - 1) q2.2).bind fun q9 =>
      m81_36 F v0 x1 q2.1 q9.2
theorem t81_0 {d c w n : Nat} (hd : 7 ≤ d) (F : Nat) : ∀ (v0 : Nat) (lv : List (Nat × Value)) (hp : List mE) (v : Unit) (hp' : List mE), alk 0 lv = some (.ref v0) → lvk n lv → hp.length = n → v0 < n → m81_0 F v0 hp = some (v, hp') → Rn d 81 0 lv [] hp c w (none, hp', c, w) := by
  obtain ⟨d', rfl⟩ : ∃ d', d = d' + 1 := ⟨d - 1, by omega⟩
  intro v0 lv hp v hp' l0 ok hn r_v0 h
  unfold m81_0 at h
  refine Rn.aload_n n81_0 l0 ?_
  obtain ⟨x1, hx1, h⟩ := Option.bind_eq_some_iff.mp h
  refine Rn.gf n81_1 mo81 fl8_41 (gfi_v hx1) ?_
  refine Rn.isn (m := n) n81_4 rfl ml81 (by decide) (fun lv l1 hk hok => ?_)
  have l0 := hk 0 _ (by decide) (Or.inl rfl) l0
  have ok := hok ok
  refine Rn.aload_n n81_5 l0 ?_
  obtain ⟨u3, hu3, h⟩ := Option.bind_eq_some_iff.mp h
  obtain ⟨q2, hq2, h⟩ := Option.bind_eq_some_iff.mp h
  have gq2 := c84 (d := d') (by omega) F _ _ _ _ (by rw [hn]; exact r_v0) hq2
  refine Rn.cv (As := []) (rr := []) n81_6 mo81 mm8_68 (by decide) mq84 rfl rfl rfl rfl (by rw [mo84]; exact hu3) (Nat.le_of_ble_eq_true rfl) (by rw [hn]; exact (okc (okr r_v0) okn)) (by rw [hn]; exact okn) (by rw [hn]; exact ok) (by rw [ml84]; exact Nat.le_of_ble_eq_true rfl) gq2 ?_
  have hn := (Rn.len gq2).trans hn
  show Rn _ 81 9 lv [.int q2.1] q2.2 c w _
  refine Rn.isn (m := n) n81_9 rfl ml81 (by decide) (fun lv l2 hk hok => ?_)
  have l0 := hk 0 _ (by decide) (Or.inl rfl) l0
  have l1 := hk 1 _ (by decide) (Or.inl rfl) l1
  have ok := hok ok
  refine Rn.aload_n n81_10 l0 ?_
  obtain ⟨x4, hx4, h⟩ := Option.bind_eq_some_iff.mp h
  refine Rn.gf n81_11 mo81 fl8_34 (gfi_v hx4) ?_
  by_cases hc5 : mc1 .ne x4 = true
  · rw [if_pos hc5] at h
    refine Rn.c1t (t := 36) n81_14 (by decide) hc5 ?_
    exact t81_36 hd F  _ _ _ lv _ _ _ l0 l1 l2 ok hn r_v0  h
  · rw [if_neg hc5] at h
    refine Rn.c1f (t := 36) n81_14 (by decide) hc5 ?_
    refine Rn.iload_n n81_17 l2 ?_
    refine Rn.aload_n n81_18 l0 ?_
    obtain ⟨x6, hx6, h⟩ := Option.bind_eq_some_iff.mp h
    refine Rn.gf n81_19 mo81 fl8_55 (gfi_v hx6) ?_
    by_cases hc7 : mc2 .lt q2.1 x6 = true
    · rw [if_pos hc7] at h
      refine Rn.c2t (t := 36) n81_22 (by decide) hc7 ?_
      exact t81_36 hd F  _ _ _ lv _ _ _ l0 l1 l2 ok hn r_v0  h
    · rw [if_neg hc7] at h
      refine Rn.c2f (t := 36) n81_22 (by decide) hc7 ?_
      refine Rn.aload_n n81_25 l0 ?_
      refine Rn.ic (v := 2) n81_26 (by decide) ?_
      refine Rn.aload_n n81_27 l0 ?_
      obtain ⟨x8, hx8, h⟩ := Option.bind_eq_some_iff.mp h
      refine Rn.gf n81_28 mo81 fl8_41 (gfi_v hx8) ?_
      refine Rn.ic (v := 1) n81_31 (by decide) ?_
      refine Rn.p n81_32 rfl ?_
      obtain ⟨u10, hu10, h⟩ := Option.bind_eq_some_iff.mp h
      obtain ⟨q9, hq9, h⟩ := Option.bind_eq_some_iff.mp h
      have gq9 := c89 (d := d') (by omega) F _ _ _ _ _ _ (by rw [hn]; exact r_v0) hq9
      refine Rn.cv (As := [.int 2, .int (x8 - 1)]) (rr := []) n81_33 mo81 mm8_64 (by decide) mq89 rfl rfl rfl rfl (by rw [mo89]; exact hu10) (Nat.le_of_ble_eq_true rfl) (by rw [hn]; exact (okc (okr r_v0) (okc rfl (okc rfl okn)))) (by rw [hn]; exact okn) (by rw [hn]; exact ok) (by rw [ml89]; exact Nat.le_of_ble_eq_true rfl) gq9 ?_
      have hn := (Rn.len gq9).trans hn
      show Rn _ 81 36 lv [] q9.2 c w _
      exact t81_36 hd F  _ _ _ lv _ _ _ l0 l1 l2 ok hn r_v0  h
def e81 (F : Nat) (a0 : Nat) (hp : List mE) : Option (Unit × List mE) := m81_0 F a0 hp
theorem c81 {d : Nat} (hd : 7 ≤ d) (F : Nat) (a0 : Nat) (hp : List mE) (v : Unit) (hp' : List mE) (ra0 : a0 < hp.length) (h : e81 F a0 hp = some (v, hp')) : Rn d 81 0 (lv_args 0 [.ref a0]) [] hp 0 0 (none, hp', 0, 0) :=
  t81_0 (n := hp.length) hd F a0 (lv_args 0 [.ref a0]) hp v hp' rfl (lvk_args (okc (okr ra0) okn)) rfl ra0 h
/-! MirrorRoots$Telling.parse -/
def m78_63 (F : Nat) (v0 : Nat) (hp : List mE) : Option (Int32 × List mE) :=
  (pfv 8 1 hp v0 (.int 0)).bind fun hp1 =>
  (gfi 8 3 hp1 v0).bind fun x2 =>
  some (x2, hp1)
theorem t78_63 {d c w n : Nat} (hd : 8 ≤ d) (F : Nat) : ∀ (v0 : Nat) (lv : List (Nat × Value)) (hp : List mE) (v : Int32) (hp' : List mE), alk 0 lv = some (.ref v0) → lvk n lv → hp.length = n → v0 < n → m78_63 F v0 hp = some (v, hp') → Rn d 78 63 lv [] hp c w (some (.int v), hp', c, w) := by
  obtain ⟨d', rfl⟩ : ∃ d', d = d' + 1 := ⟨d - 1, by omega⟩
  intro v0 lv hp v hp' l0 ok hn r_v0 h
  unfold m78_63 at h
  refine Rn.aload_n n78_63 l0 ?_
  refine Rn.ic (v := 0) n78_64 (by decide) ?_
  obtain ⟨hp1, hhp1, h⟩ := Option.bind_eq_some_iff.mp h
  refine Rn.pf n78_65 mo78 fl8_15 ft8_1 rfl ff8_1 (fun _ _ hh => by cases hh) hhp1 ?_
  have hn := (pfv_len hhp1).trans hn
  refine Rn.aload_n n78_68 l0 ?_
  obtain ⟨x2, hx2, h⟩ := Option.bind_eq_some_iff.mp h
  refine Rn.gf n78_69 mo78 fl8_34 (gfi_v hx2) ?_
  have e1 := (Prod.mk.inj (Option.some.inj h)).1
  have e2 := (Prod.mk.inj (Option.some.inj h)).2
  subst e1
  subst e2
  exact Rn.iret n78_72 mr78
def m78_57 (F : Nat) (rc6 : Nat → Int32 → List mE → Option (Int32 × List mE)) (v0 : Nat) (v1 : Int32) (hp : List mE) : Option (Int32 × List mE) :=
  rc6 v0 (v1 + 1) hp
theorem t78_57 {d c w n : Nat} (hd : 8 ≤ d) (F : Nat) {rc6 : Nat → Int32 → List mE → Option (Int32 × List mE)} (hr6 : ∀ (v0 : Nat) (v1 : Int32) (lv : List (Nat × Value)) (hp : List mE) (v : Int32) (hp' : List mE), alk 0 lv = some (.ref v0) → alk 1 lv = some (.int v1) → lvk n lv → hp.length = n → v0 < n → rc6 v0 v1 hp = some (v, hp') → Rn d 78 6 lv [] hp c w (some (.int v), hp', c, w)) : ∀ (v0 : Nat) (v1 : Int32) (lv : List (Nat × Value)) (hp : List mE) (v : Int32) (hp' : List mE), alk 0 lv = some (.ref v0) → alk 1 lv = some (.int v1) → lvk n lv → hp.length = n → v0 < n → m78_57 F rc6 v0 v1 hp = some (v, hp') → Rn d 78 57 lv [] hp c w (some (.int v), hp', c, w) := by
  obtain ⟨d', rfl⟩ : ∃ d', d = d' + 1 := ⟨d - 1, by omega⟩
  intro v0 v1 lv hp v hp' l0 l1 ok hn r_v0 h
  unfold m78_57 at h
  refine Rn.ii (m := n) (u := 1) n78_57 ml78 (by decide) (by decide) l1 (fun lv l1 hk hok => ?_)
  have l0 := hk 0 _ (by decide) (Or.inl rfl) l0
  have ok := hok ok
  refine Rn.goto (t := 6) n78_60 (by decide) ?_
  exact hr6 _ _ lv _ _ _ l0 l1 ok hn r_v0  h
def m78_47 (F : Nat) (rc6 : Nat → Int32 → List mE → Option (Int32 × List mE)) (v0 : Nat) (v1 : Int32) (t0 : Nat) (t1 : Int32) (hp : List mE) : Option (Int32 × List mE) :=
  (rcv 8 hp t0).bind fun u2 =>
  (e80 F t0 t1 hp).bind fun q1 =>
  m78_57 F rc6 v0 v1 q1.2
theorem t78_47 {d c w n : Nat} (hd : 8 ≤ d) (F : Nat) {rc6 : Nat → Int32 → List mE → Option (Int32 × List mE)} (hr6 : ∀ (v0 : Nat) (v1 : Int32) (lv : List (Nat × Value)) (hp : List mE) (v : Int32) (hp' : List mE), alk 0 lv = some (.ref v0) → alk 1 lv = some (.int v1) → lvk n lv → hp.length = n → v0 < n → rc6 v0 v1 hp = some (v, hp') → Rn d 78 6 lv [] hp c w (some (.int v), hp', c, w)) : ∀ (v0 : Nat) (v1 : Int32) (t0 : Nat) (t1 : Int32) (lv : List (Nat × Value)) (hp : List mE) (v : Int32) (hp' : List mE), alk 0 lv = some (.ref v0) → alk 1 lv = some (.int v1) → lvk n lv → hp.length = n → v0 < n → t0 < n → m78_47 F rc6 v0 v1 t0 t1 hp = some (v, hp') → Rn d 78 47 lv [.int t1, .ref t0] hp c w (some (.int v), hp', c, w) := by
  obtain ⟨d', rfl⟩ : ∃ d', d = d' + 1 := ⟨d - 1, by omega⟩
  intro v0 v1 t0 t1 lv hp v hp' l0 l1 ok hn r_v0 r_t0 h
  unfold m78_47 at h
  obtain ⟨u2, hu2, h⟩ := Option.bind_eq_some_iff.mp h
  obtain ⟨q1, hq1, h⟩ := Option.bind_eq_some_iff.mp h
  have gq1 := c80 (d := d') (by omega) F _ _ _ _ _ (by rw [hn]; exact r_t0) hq1
  refine Rn.cv (As := [.int t1]) (rr := []) n78_47 mo78 mm8_48 (by decide) mq80 rfl rfl rfl rfl (by rw [mo80]; exact hu2) (Nat.le_of_ble_eq_true rfl) (by rw [hn]; exact (okc (okr r_t0) (okc rfl okn))) (by rw [hn]; exact okn) (by rw [hn]; exact ok) (by rw [ml80]; exact Nat.le_of_ble_eq_true rfl) gq1 ?_
  have hn := (Rn.len gq1).trans hn
  show Rn _ 78 50 lv [] q1.2 c w _
  refine Rn.goto (t := 57) n78_50 (by decide) ?_
  exact t78_57 hd F hr6 _ _ lv _ _ _ l0 l1 ok hn r_v0  h
def m78_6 (F : Nat) : Nat → Nat → Int32 → List mE → Option (Int32 × List mE)
  | 0, _, _, _ => none
  | f + 1, v0, v1, hp =>
    if mc2 .ge v1 120 = true then
      m78_63 F v0 hp
    else
      (gfi 8 3 hp v0).bind fun x2 =>
      if mc1 .ne x2 = true then
        m78_63 F v0 hp
      else
        (rcv 8 hp v0).bind fun u5 =>
        (e87 F v0 hp).bind fun q4 =>
        if mc1 .eq q4.1 = true then
          m78_63 F v0 q4.2
        else
          (gfi 8 2 q4.2 v0).bind fun x7 =>
          (rcv 8 q4.2 v0).bind fun u9 =>
          (e88 F v0 x7 q4.2).bind fun q8 =>
          if mc1 .eq q8.1 = true then
            (rcv 8 q8.2 v0).bind fun u12 =>
            (e81 F v0 q8.2).bind fun q11 =>
            m78_57 F (m78_6 F f) v0 v1 q11.2
          else
            if mc1 .ne v1 = true then
              m78_47 F (m78_6 F f) v0 v1 v0 0 q8.2
            else
              m78_47 F (m78_6 F f) v0 v1 v0 1 q8.2
theorem t78_6 {d c w n : Nat} (hd : 8 ≤ d) (F : Nat) : ∀ f : Nat, ∀ (v0 : Nat) (v1 : Int32) (lv : List (Nat × Value)) (hp : List mE) (v : Int32) (hp' : List mE), alk 0 lv = some (.ref v0) → alk 1 lv = some (.int v1) → lvk n lv → hp.length = n → v0 < n → m78_6 F f v0 v1 hp = some (v, hp') → Rn d 78 6 lv [] hp c w (some (.int v), hp', c, w) := by
  obtain ⟨d', rfl⟩ : ∃ d', d = d' + 1 := ⟨d - 1, by omega⟩
  intro f
  induction f with
  | zero => intro v0 v1 lv hp v hp' l0 l1 ok hn r_v0 h; cases h
  | succ f hr6 =>
    intro v0 v1 lv hp v hp' l0 l1 ok hn r_v0 h
    unfold m78_6 at h
    refine Rn.iload_n n78_6 l1 ?_
    refine Rn.bp (v := 120) n78_7 (by decide) ?_
    by_cases hc1 : mc2 .ge v1 120 = true
    · rw [if_pos hc1] at h
      refine Rn.c2t (t := 63) n78_9 (by decide) hc1 ?_
      exact t78_63 hd F  _ lv _ _ _ l0 ok hn r_v0  h
    · rw [if_neg hc1] at h
      refine Rn.c2f (t := 63) n78_9 (by decide) hc1 ?_
      refine Rn.aload_n n78_12 l0 ?_
      obtain ⟨x2, hx2, h⟩ := Option.bind_eq_some_iff.mp h
      refine Rn.gf n78_13 mo78 fl8_34 (gfi_v hx2) ?_
      by_cases hc3 : mc1 .ne x2 = true
      · rw [if_pos hc3] at h
        refine Rn.c1t (t := 63) n78_16 (by decide) hc3 ?_
        exact t78_63 hd F  _ lv _ _ _ l0 ok hn r_v0  h
      · rw [if_neg hc3] at h
        refine Rn.c1f (t := 63) n78_16 (by decide) hc3 ?_
        refine Rn.aload_n n78_19 l0 ?_
        obtain ⟨u5, hu5, h⟩ := Option.bind_eq_some_iff.mp h
        obtain ⟨q4, hq4, h⟩ := Option.bind_eq_some_iff.mp h
        have gq4 := c87 (d := d') (by omega) F _ _ _ _ (by rw [hn]; exact r_v0) hq4
        refine Rn.cv (As := []) (rr := []) n78_20 mo78 mm8_37 (by decide) mq87 rfl rfl rfl rfl (by rw [mo87]; exact hu5) (Nat.le_of_ble_eq_true rfl) (by rw [hn]; exact (okc (okr r_v0) okn)) (by rw [hn]; exact okn) (by rw [hn]; exact ok) (by rw [ml87]; exact Nat.le_of_ble_eq_true rfl) gq4 ?_
        have hn := (Rn.len gq4).trans hn
        show Rn _ 78 23 lv [.int q4.1] q4.2 c w _
        by_cases hc6 : mc1 .eq q4.1 = true
        · rw [if_pos hc6] at h
          refine Rn.c1t (t := 63) n78_23 (by decide) hc6 ?_
          exact t78_63 hd F  _ lv _ _ _ l0 ok hn r_v0  h
        · rw [if_neg hc6] at h
          refine Rn.c1f (t := 63) n78_23 (by decide) hc6 ?_
          refine Rn.aload_n n78_26 l0 ?_
          refine Rn.aload_n n78_27 l0 ?_
          obtain ⟨x7, hx7, h⟩ := Option.bind_eq_some_iff.mp h
          refine Rn.gf n78_28 mo78 fl8_41 (gfi_v hx7) ?_
          obtain ⟨u9, hu9, h⟩ := Option.bind_eq_some_iff.mp h
          obtain ⟨q8, hq8, h⟩ := Option.bind_eq_some_iff.mp h
          have gq8 := c88 (d := d') (by omega) F _ _ _ _ _ (by rw [hn]; exact r_v0) hq8
          refine Rn.cv (As := [.int x7]) (rr := []) n78_31 mo78 mm8_44 (by decide) mq88 rfl rfl rfl rfl (by rw [mo88]; exact hu9) (Nat.le_of_ble_eq_true rfl) (by rw [hn]; exact (okc (okr r_v0) (okc rfl okn))) (by rw [hn]; exact okn) (by rw [hn]; exact ok) (by rw [ml88]; exact Nat.le_of_ble_eq_true rfl) gq8 ?_
          have hn := (Rn.len gq8).trans hn
          show Rn _ 78 34 lv [.int q8.1] q8.2 c w _
          by_cases hc10 : mc1 .eq q8.1 = true
          · rw [if_pos hc10] at h
            refine Rn.c1t (t := 53) n78_34 (by decide) hc10 ?_
            refine Rn.aload_n n78_53 l0 ?_
            obtain ⟨u12, hu12, h⟩ := Option.bind_eq_some_iff.mp h
            obtain ⟨q11, hq11, h⟩ := Option.bind_eq_some_iff.mp h
            have gq11 := c81 (d := d') (by omega) F _ _ _ _ (by rw [hn]; exact r_v0) hq11
            refine Rn.cv (As := []) (rr := []) n78_54 mo78 mm8_52 (by decide) mq81 rfl rfl rfl rfl (by rw [mo81]; exact hu12) (Nat.le_of_ble_eq_true rfl) (by rw [hn]; exact (okc (okr r_v0) okn)) (by rw [hn]; exact okn) (by rw [hn]; exact ok) (by rw [ml81]; exact Nat.le_of_ble_eq_true rfl) gq11 ?_
            have hn := (Rn.len gq11).trans hn
            show Rn _ 78 57 lv [] q11.2 c w _
            exact t78_57 hd F hr6 _ _ lv _ _ _ l0 l1 ok hn r_v0  h
          · rw [if_neg hc10] at h
            refine Rn.c1f (t := 53) n78_34 (by decide) hc10 ?_
            refine Rn.aload_n n78_37 l0 ?_
            refine Rn.iload_n n78_38 l1 ?_
            by_cases hc13 : mc1 .ne v1 = true
            · rw [if_pos hc13] at h
              refine Rn.c1t (t := 46) n78_39 (by decide) hc13 ?_
              refine Rn.ic (v := 0) n78_46 (by decide) ?_
              exact t78_47 hd F hr6 _ _ _ _ lv _ _ _ l0 l1 ok hn r_v0 r_v0 h
            · rw [if_neg hc13] at h
              refine Rn.c1f (t := 46) n78_39 (by decide) hc13 ?_
              refine Rn.ic (v := 1) n78_42 (by decide) ?_
              refine Rn.goto (t := 47) n78_43 (by decide) ?_
              exact t78_47 hd F hr6 _ _ _ _ lv _ _ _ l0 l1 ok hn r_v0 r_v0 h
def m78_0 (F : Nat) (v0 : Nat) (hp : List mE) : Option (Int32 × List mE) :=
  (rcv 8 hp v0).bind fun u2 =>
  (e79 F v0 hp).bind fun q1 =>
  m78_6 F F v0 0 q1.2
theorem t78_0 {d c w n : Nat} (hd : 8 ≤ d) (F : Nat) : ∀ (v0 : Nat) (lv : List (Nat × Value)) (hp : List mE) (v : Int32) (hp' : List mE), alk 0 lv = some (.ref v0) → lvk n lv → hp.length = n → v0 < n → m78_0 F v0 hp = some (v, hp') → Rn d 78 0 lv [] hp c w (some (.int v), hp', c, w) := by
  obtain ⟨d', rfl⟩ : ∃ d', d = d' + 1 := ⟨d - 1, by omega⟩
  intro v0 lv hp v hp' l0 ok hn r_v0 h
  unfold m78_0 at h
  refine Rn.aload_n n78_0 l0 ?_
  obtain ⟨u2, hu2, h⟩ := Option.bind_eq_some_iff.mp h
  obtain ⟨q1, hq1, h⟩ := Option.bind_eq_some_iff.mp h
  have gq1 := c79 (d := d') (by omega) F _ _ _ _ (by rw [hn]; exact r_v0) hq1
  refine Rn.cv (As := []) (rr := []) n78_1 mo78 mm8_31 (by decide) mq79 rfl rfl rfl rfl (by rw [mo79]; exact hu2) (Nat.le_of_ble_eq_true rfl) (by rw [hn]; exact (okc (okr r_v0) okn)) (by rw [hn]; exact okn) (by rw [hn]; exact ok) (by rw [ml79]; exact Nat.le_of_ble_eq_true rfl) gq1 ?_
  have hn := (Rn.len gq1).trans hn
  show Rn _ 78 4 lv [] q1.2 c w _
  refine Rn.ic (v := 0) n78_4 (by decide) ?_
  refine Rn.isn (m := n) n78_5 rfl ml78 (by decide) (fun lv l1 hk hok => ?_)
  have l0 := hk 0 _ (by decide) (Or.inl rfl) l0
  have ok := hok ok
  exact t78_6 hd F  F _ _ lv _ _ _ l0 l1 ok hn r_v0  h
def e78 (F : Nat) (a0 : Nat) (hp : List mE) : Option (Int32 × List mE) := m78_0 F a0 hp
theorem c78 {d : Nat} (hd : 8 ≤ d) (F : Nat) (a0 : Nat) (hp : List mE) (v : Int32) (hp' : List mE) (ra0 : a0 < hp.length) (h : e78 F a0 hp = some (v, hp')) : Rn d 78 0 (lv_args 0 [.ref a0]) [] hp 0 0 (some (.int v), hp', 0, 0) :=
  t78_0 (n := hp.length) hd F a0 (lv_args 0 [.ref a0]) hp v hp' rfl (lvk_args (okc (okr ra0) okn)) rfl ra0 h
/-! MirrorRoots.read -/
def m105_0 (F : Nat) (v0 : Nat) (hp : List mE) : Option (Int32 × List mE) :=
  (gfr 10 1 hp v0).bind fun x1 =>
  (rcv 8 hp x1).bind fun u3 =>
  (e78 F x1 hp).bind fun q2 =>
  if mc1 .eq q2.1 = true then
    (gfr 10 0 q2.2 v0).bind fun x5 =>
    (gfr 10 1 q2.2 v0).bind fun x6 =>
    (gfi 8 5 q2.2 x6).bind fun x7 =>
    (gfr 10 1 q2.2 v0).bind fun x8 =>
    (gfr 8 6 q2.2 x8).bind fun x9 =>
    (rcv 3 q2.2 x5).bind fun u11 =>
    (e33 F x5 x7 x9 q2.2).bind fun q10 =>
    (gfr 10 2 q10.2 v0).bind fun x12 =>
    (rcv 1 q10.2 x12).bind fun u14 =>
    (e15 F x12 q10.2).bind fun q13 =>
    (pfv 10 7 q13.2 v0 (.int 0)).bind fun hp15 =>
    (rcv 10 hp15 v0).bind fun u17 =>
    (e106 F v0 hp15).bind fun q16 =>
    (gfr 10 0 q16.2 v0).bind fun x18 =>
    (gfi 3 0 q16.2 x18).bind fun x19 =>
    some (x19, q16.2)
  else
    some (((-10)) - q2.1, q2.2)
theorem t105_0 {d c w n : Nat} (hd : 9 ≤ d) (F : Nat) : ∀ (v0 : Nat) (lv : List (Nat × Value)) (hp : List mE) (v : Int32) (hp' : List mE), alk 0 lv = some (.ref v0) → lvk n lv → hp.length = n → v0 < n → m105_0 F v0 hp = some (v, hp') → Rn d 105 0 lv [] hp c w (some (.int v), hp', c, w) := by
  obtain ⟨d', rfl⟩ : ∃ d', d = d' + 1 := ⟨d - 1, by omega⟩
  intro v0 lv hp v hp' l0 ok hn r_v0 h
  unfold m105_0 at h
  refine Rn.aload_n n105_0 l0 ?_
  obtain ⟨x1, hx1, h⟩ := Option.bind_eq_some_iff.mp h
  refine Rn.gf n105_1 mo105 fl10_19 (gfr_v hx1).1 ?_
  have r_x1 : x1 < n := by rw [← hn]; exact (gfr_v hx1).2
  obtain ⟨u3, hu3, h⟩ := Option.bind_eq_some_iff.mp h
  obtain ⟨q2, hq2, h⟩ := Option.bind_eq_some_iff.mp h
  have gq2 := c78 (d := d') (by omega) F _ _ _ _ (by rw [hn]; exact r_x1) hq2
  refine Rn.cv (As := []) (rr := []) n105_4 mo105 mm10_79 (by decide) mq78 rfl rfl rfl rfl (by rw [mo78]; exact hu3) (Nat.le_of_ble_eq_true rfl) (by rw [hn]; exact (okc (okr r_x1) okn)) (by rw [hn]; exact okn) (by rw [hn]; exact ok) (by rw [ml78]; exact Nat.le_of_ble_eq_true rfl) gq2 ?_
  have hn := (Rn.len gq2).trans hn
  show Rn _ 105 7 lv [.int q2.1] q2.2 c w _
  refine Rn.isn (m := n) n105_7 rfl ml105 (by decide) (fun lv l1 hk hok => ?_)
  have l0 := hk 0 _ (by decide) (Or.inl rfl) l0
  have ok := hok ok
  refine Rn.iload_n n105_8 l1 ?_
  by_cases hc4 : mc1 .eq q2.1 = true
  · rw [if_pos hc4] at h
    refine Rn.c1t (t := 17) n105_9 (by decide) hc4 ?_
    refine Rn.aload_n n105_17 l0 ?_
    obtain ⟨x5, hx5, h⟩ := Option.bind_eq_some_iff.mp h
    refine Rn.gf n105_18 mo105 fl10_12 (gfr_v hx5).1 ?_
    have r_x5 : x5 < n := by rw [← hn]; exact (gfr_v hx5).2
    refine Rn.aload_n n105_21 l0 ?_
    obtain ⟨x6, hx6, h⟩ := Option.bind_eq_some_iff.mp h
    refine Rn.gf n105_22 mo105 fl10_19 (gfr_v hx6).1 ?_
    have r_x6 : x6 < n := by rw [← hn]; exact (gfr_v hx6).2
    obtain ⟨x7, hx7, h⟩ := Option.bind_eq_some_iff.mp h
    refine Rn.gf n105_25 mo105 fl10_83 (gfi_v hx7) ?_
    refine Rn.aload_n n105_28 l0 ?_
    obtain ⟨x8, hx8, h⟩ := Option.bind_eq_some_iff.mp h
    refine Rn.gf n105_29 mo105 fl10_19 (gfr_v hx8).1 ?_
    have r_x8 : x8 < n := by rw [← hn]; exact (gfr_v hx8).2
    obtain ⟨x9, hx9, h⟩ := Option.bind_eq_some_iff.mp h
    refine Rn.gf n105_32 mo105 fl10_86 (gfr_v hx9).1 ?_
    have r_x9 : x9 < n := by rw [← hn]; exact (gfr_v hx9).2
    obtain ⟨u11, hu11, h⟩ := Option.bind_eq_some_iff.mp h
    obtain ⟨q10, hq10, h⟩ := Option.bind_eq_some_iff.mp h
    have gq10 := c33 (d := d') (by omega) F _ _ _ _ _ _ (by rw [hn]; exact r_x5) (by rw [hn]; exact r_x9) hq10
    refine Rn.cv (As := [.int x7, .ref x9]) (rr := []) n105_35 mo105 mm10_89 (by decide) mq33 rfl rfl rfl rfl (by rw [mo33]; exact hu11) (Nat.le_of_ble_eq_true rfl) (by rw [hn]; exact (okc (okr r_x5) (okc rfl (okc (okr r_x9) okn)))) (by rw [hn]; exact okn) (by rw [hn]; exact ok) (by rw [ml33]; exact Nat.le_of_ble_eq_true rfl) gq10 ?_
    have hn := (Rn.len gq10).trans hn
    show Rn _ 105 38 lv [] q10.2 c w _
    refine Rn.aload_n n105_38 l0 ?_
    obtain ⟨x12, hx12, h⟩ := Option.bind_eq_some_iff.mp h
    refine Rn.gf n105_39 mo105 fl10_28 (gfr_v hx12).1 ?_
    have r_x12 : x12 < n := by rw [← hn]; exact (gfr_v hx12).2
    obtain ⟨u14, hu14, h⟩ := Option.bind_eq_some_iff.mp h
    obtain ⟨q13, hq13, h⟩ := Option.bind_eq_some_iff.mp h
    have gq13 := c15 (d := d') (by omega) F _ _ _ _ (by rw [hn]; exact r_x12) hq13
    refine Rn.cv (As := []) (rr := []) n105_42 mo105 mm10_93 (by decide) mq15 rfl rfl rfl rfl (by rw [mo15]; exact hu14) (Nat.le_of_ble_eq_true rfl) (by rw [hn]; exact (okc (okr r_x12) okn)) (by rw [hn]; exact okn) (by rw [hn]; exact ok) (by rw [ml15]; exact Nat.le_of_ble_eq_true rfl) gq13 ?_
    have hn := (Rn.len gq13).trans hn
    show Rn _ 105 45 lv [] q13.2 c w _
    refine Rn.aload_n n105_45 l0 ?_
    refine Rn.ic (v := 0) n105_46 (by decide) ?_
    obtain ⟨hp15, hhp15, h⟩ := Option.bind_eq_some_iff.mp h
    refine Rn.pf n105_47 mo105 fl10_59 ft10_7 rfl ff10_7 (fun _ _ hh => by cases hh) hhp15 ?_
    have hn := (pfv_len hhp15).trans hn
    refine Rn.aload_n n105_50 l0 ?_
    obtain ⟨u17, hu17, h⟩ := Option.bind_eq_some_iff.mp h
    obtain ⟨q16, hq16, h⟩ := Option.bind_eq_some_iff.mp h
    have gq16 := c106 (d := d') (by omega) F _ _ _ _ (by rw [hn]; exact r_v0) hq16
    refine Rn.cv (As := []) (rr := []) n105_51 mo105 mm10_96 (by decide) mq106 rfl rfl rfl rfl (by rw [mo106]; exact hu17) (Nat.le_of_ble_eq_true rfl) (by rw [hn]; exact (okc (okr r_v0) okn)) (by rw [hn]; exact okn) (by rw [hn]; exact ok) (by rw [ml106]; exact Nat.le_of_ble_eq_true rfl) gq16 ?_
    have hn := (Rn.len gq16).trans hn
    show Rn _ 105 54 lv [] q16.2 c w _
    refine Rn.aload_n n105_54 l0 ?_
    obtain ⟨x18, hx18, h⟩ := Option.bind_eq_some_iff.mp h
    refine Rn.gf n105_55 mo105 fl10_12 (gfr_v hx18).1 ?_
    have r_x18 : x18 < n := by rw [← hn]; exact (gfr_v hx18).2
    obtain ⟨x19, hx19, h⟩ := Option.bind_eq_some_iff.mp h
    refine Rn.gf n105_58 mo105 fl10_99 (gfi_v hx19) ?_
    have e1 := (Prod.mk.inj (Option.some.inj h)).1
    have e2 := (Prod.mk.inj (Option.some.inj h)).2
    subst e1
    subst e2
    exact Rn.iret n105_61 mr105
  · rw [if_neg hc4] at h
    refine Rn.c1f (t := 17) n105_9 (by decide) hc4 ?_
    refine Rn.bp (v := (-10)) n105_12 (by decide) ?_
    refine Rn.iload_n n105_14 l1 ?_
    refine Rn.p n105_15 rfl ?_
    have e1 := (Prod.mk.inj (Option.some.inj h)).1
    have e2 := (Prod.mk.inj (Option.some.inj h)).2
    subst e1
    subst e2
    exact Rn.iret n105_16 mr105
def e105 (F : Nat) (a0 : Nat) (hp : List mE) : Option (Int32 × List mE) := m105_0 F a0 hp
theorem c105 {d : Nat} (hd : 9 ≤ d) (F : Nat) (a0 : Nat) (hp : List mE) (v : Int32) (hp' : List mE) (ra0 : a0 < hp.length) (h : e105 F a0 hp = some (v, hp')) : Rn d 105 0 (lv_args 0 [.ref a0]) [] hp 0 0 (some (.int v), hp', 0, 0) :=
  t105_0 (n := hp.length) hd F a0 (lv_args 0 [.ref a0]) hp v hp' rfl (lvk_args (okc (okr ra0) okn)) rfl ra0 h
