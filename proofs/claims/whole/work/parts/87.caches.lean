/-! The caches are made. -/
def shc (q M : Nat) : List hQ := [.inr (6, shk q), .inl (1, M * 5), .inl (0, M), .inl (0, M * 2), .inl (0, M)]
def shI (I : hI) (q M : Nat) : hI := wzI (wzI (wzI (upI (upI I q 2 0) q 1 (nI M)) (q + 2)) (q + 3)) (q + 4)
theorem shn_e {sh : List hQ} {I : hI} {J : hJ} {M F : Nat} (h : okh sh) (hl : sh.length + 5 < 1000000) (h1 : 1 < sh.length) (hM : M ≤ 4096) : e59 F sh.length 1 (nI M) (mkH (sh ++ [.inr (6, [.inr .null, .inl 0, .inl 0, .inr .null, .inr .null, .inr .null, .inr .null])]) I J) = some ((), mkH (sh ++ shc sh.length M) (shI I sh.length M) (wzJ J (sh.length + 1))) := by
  unfold e59 m59_0
  have a1 : nI M * 5 = nI (M * 5) := by rw [n_5, pk_mul]
  have a2 : nI M * 2 = nI (M * 2) := by rw [n_2, pk_mul]
  rw [a1, a2, pAi rfl, Option.bind_some, pA (by decide), Option.bind_some, pAi rfl, Option.bind_some]
  rw [nwJ_H (okh_app h (by simp [okq, okz, mokv]; omega) (by simp; omega)) (by omega), Option.bind_some, List.append_assoc, List.cons_append, List.nil_append, pA (by simp), Option.bind_some]
  rw [nwI_H (okh_app h (by simp [okq, okz, mokv, mkH_len] <;> omega) (by simp; omega)) (by omega), Option.bind_some, List.append_assoc, List.cons_append, List.cons_append, List.nil_append, pA (by simp), Option.bind_some]
  rw [nwI_H (okh_app h (by simp [okq, okz, mokv, mkH_len] <;> omega) (by simp; omega)) (by omega), Option.bind_some, List.append_assoc, List.cons_append, List.cons_append, List.cons_append, List.nil_append, pA (by simp), Option.bind_some]
  rw [nwI_H (okh_app h (by simp [okq, okz, mokv, mkH_len] <;> omega) (by simp; omega)) (by omega), Option.bind_some, List.append_assoc, List.cons_append, List.cons_append, List.cons_append, List.cons_append, List.nil_append, pA (by simp), Option.bind_some]
  simp only [mkH_len, List.length_append, List.length_cons, List.length_nil, List.set_cons_zero, List.set_cons_succ, Nat.zero_add, Nat.reduceAdd]
  rfl
def lyk (b : Nat) : List (Nat ⊕ Value) := [.inr (.ref 1), .inr (.ref 8), .inr (.ref (b + 4)), .inr (.ref (b + 1)), .inr (.ref (b + 2)), .inr (.ref (b + 3)), .inl 0, .inl 0, .inl 0]
/-- what stands from b on when Layers was made -/
def lyc (b : Nat) : List hQ := .inr (2, lyk b) :: .inl (1, 5) :: .inl (1, 4096) :: .inl (0, 32) :: shc (b + 4) 4096
def lyI (I : hI) (b : Nat) : hI := shI (wzI (upI (wzI I (b + 3)) b 8 (-1)) (b + 4)) (b + 4) 4096
def lyJ (J : hJ) (b : Nat) : hJ := wzJ (wzJ (wzJ (wzJ J (b + 1)) (b + 2)) (b + 4)) (b + 4 + 1)
theorem lyn_e {sh : List hQ} {I : hI} {J : hJ} {F : Nat} (h : okh sh) (hl : sh.length + 20 < 1000000) (h1 : 8 < sh.length) : e21 F sh.length 1 8 (mkH (sh ++ [.inr (2, [.inr .null, .inr .null, .inr .null, .inr .null, .inr .null, .inr .null, .inl 0, .inl 0, .inl 0])]) I J) = some ((), mkH (sh ++ lyc sh.length) (lyI I sh.length) (lyJ J sh.length)) := by
  unfold e21 m21_0
  have a1 : (5 : Int32) = nI 5 := rfl
  have a2 : (4096 : Int32) = nI 4096 := rfl
  have a3 : (32 : Int32) = nI 32 := rfl
  rw [a1, a2, a3, nwJ_H (okh_app h (by simp [okq, okz, mokv, mkH_len] <;> omega) (by simp; omega)) (by omega), Option.bind_some, List.append_assoc, List.cons_append, List.nil_append, pA (by simp), Option.bind_some]
  rw [nwJ_H (okh_app h (by simp [okq, okz, mokv, mkH_len] <;> omega) (by simp; omega)) (by omega), Option.bind_some, List.append_assoc, List.cons_append, List.cons_append, List.nil_append, pA (by simp), Option.bind_some]
  rw [nwI_H (okh_app h (by simp [okq, okz, mokv, mkH_len] <;> omega) (by simp; omega)) (by omega), Option.bind_some, List.append_assoc, List.cons_append, List.cons_append, List.cons_append, List.nil_append, pA (by simp), Option.bind_some]
  rw [pAi rfl, Option.bind_some, pA (by simp), Option.bind_some, pA (by simp), Option.bind_some]
  have ok2 := okh_app h (r := [.inr (2, [.inr (.ref 1), .inr (.ref 8), .inr .null, .inr (.ref (sh.length + 1)), .inr (.ref (sh.length + 2)), .inr (.ref (sh.length + 3)), .inl 0, .inl 0, .inl 0]), .inl (1, 5), .inl (1, 4096), .inl (0, 32)]) (by simp [okq, okz, mokv]; exact Nat.lt_add_right _ h1) (by simp; omega)
  simp only [mkH_len, List.length_append, List.length_cons, List.length_nil, List.set_cons_zero, List.set_cons_succ, Nat.zero_add, Nat.reduceAdd]
  rw [nwO_H md6 ok2, Option.bind_some]
  have e1 := shn_e (I := wzI (upI (wzI I (sh.length + 3)) sh.length 8 (-1)) (sh.length + 4)) (J := wzJ (wzJ (wzJ J (sh.length + 1)) (sh.length + 2)) (sh.length + 4)) (M := 4096) (F := F) ok2 (by simp; omega) (by simp <;> omega) (by omega)
  simp only [List.length_append, List.length_cons, List.length_nil, Nat.zero_add, Nat.reduceAdd] at e1 ⊢
  rw [e1, Option.bind_some]
  simp only [List.append_assoc, List.cons_append, List.nil_append]
  rw [pA (by simp), Option.bind_some]
  rfl
def sik (b : Nat) : List (Nat ⊕ Value) := [.inr (.ref 1), .inr (.ref 8), .inr (.ref (b + 3)), .inr (.ref (b + 1)), .inr (.ref (b + 2)), .inl 0, .inl 0, .inl 0, .inl 0, .inl 0]
/-- what stands from b on when Shifts was made -/
def sic (b : Nat) : List hQ := .inr (7, sik b) :: .inl (1, 7500) :: .inl (1, 5) :: shc (b + 3) 512
def siI (I : hI) (b : Nat) : hI := shI (wzI (upI I b 5 (-1)) (b + 3)) (b + 3) 512
def siJ (J : hJ) (b : Nat) : hJ := wzJ (wzJ (wzJ (wzJ J (b + 1)) (b + 2)) (b + 3)) (b + 3 + 1)
theorem sin_e {sh : List hQ} {I : hI} {J : hJ} {F : Nat} (h : okh sh) (hl : sh.length + 20 < 1000000) (h1 : 8 < sh.length) : e68 F sh.length 1 8 (mkH (sh ++ [.inr (7, [.inr .null, .inr .null, .inr .null, .inr .null, .inr .null, .inl 0, .inl 0, .inl 0, .inl 0, .inl 0])]) I J) = some ((), mkH (sh ++ sic sh.length) (siI I sh.length) (siJ J sh.length)) := by
  unfold e68 m68_0
  have a1 : (5 : Int32) = nI 5 := rfl
  have a2 : (512 : Int32) = nI 512 := rfl
  have a3 : (7500 : Int32) = nI 7500 := rfl
  rw [a1, a2, a3, nwJ_H (okh_app h (by simp [okq, okz, mokv, mkH_len] <;> omega) (by simp; omega)) (by omega), Option.bind_some, List.append_assoc, List.cons_append, List.nil_append, pA (by simp), Option.bind_some]
  rw [nwJ_H (okh_app h (by simp [okq, okz, mokv, mkH_len] <;> omega) (by simp; omega)) (by omega), Option.bind_some, List.append_assoc, List.cons_append, List.cons_append, List.nil_append, pA (by simp), Option.bind_some]
  rw [pAi rfl, Option.bind_some, pA (by simp), Option.bind_some, pA (by simp), Option.bind_some]
  have ok2 := okh_app h (r := [.inr (7, [.inr (.ref 1), .inr (.ref 8), .inr .null, .inr (.ref (sh.length + 1)), .inr (.ref (sh.length + 2)), .inl 0, .inl 0, .inl 0, .inl 0, .inl 0]), .inl (1, 7500), .inl (1, 5)]) (by simp [okq, okz, mokv]; exact Nat.lt_add_right _ h1) (by simp; omega)
  simp only [mkH_len, List.length_append, List.length_cons, List.length_nil, List.set_cons_zero, List.set_cons_succ, Nat.zero_add, Nat.reduceAdd]
  rw [nwO_H md6 ok2, Option.bind_some]
  have e1 := shn_e (I := wzI (upI I sh.length 5 (-1)) (sh.length + 3)) (J := wzJ (wzJ (wzJ J (sh.length + 1)) (sh.length + 2)) (sh.length + 3)) (M := 512) (F := F) ok2 (by simp; omega) (by simp <;> omega) (by omega)
  simp only [List.length_append, List.length_cons, List.length_nil, Nat.zero_add, Nat.reduceAdd] at e1 ⊢
  rw [e1, Option.bind_some]
  simp only [List.append_assoc, List.cons_append, List.nil_append]
  rw [pA (by simp), Option.bind_some]
  rfl
def idk (b : Nat) : List (Nat ⊕ Value) := [.inr (.ref 1), .inr (.ref 8), .inr (.ref (b + 5)), .inr (.ref (b + 1)), .inr (.ref (b + 2)), .inr (.ref (b + 3)), .inr (.ref (b + 4)), .inl 0, .inl 0]
/-- what stands from b on when Ideal was made -/
def idc (b : Nat) : List hQ := .inr (0, idk b) :: .inl (1, 5) :: .inl (0, 1280) :: .inl (1, 65536) :: .inl (2, 256) :: shc (b + 5) 256
def idI (I : hI) (b : Nat) : hI := shI (wzI (upI (wzI (wzI I (b + 2)) (b + 4)) b 7 (-1)) (b + 5)) (b + 5) 256
def idJ (J : hJ) (b : Nat) : hJ := wzJ (wzJ (wzJ (wzJ J (b + 1)) (b + 3)) (b + 5)) (b + 5 + 1)
theorem idn_e {sh : List hQ} {I : hI} {J : hJ} {F : Nat} (h : okh sh) (hl : sh.length + 20 < 1000000) (h1 : 8 < sh.length) : e0 F sh.length 1 8 (mkH (sh ++ [.inr (0, [.inr .null, .inr .null, .inr .null, .inr .null, .inr .null, .inr .null, .inr .null, .inl 0, .inl 0])]) I J) = some ((), mkH (sh ++ idc sh.length) (idI I sh.length) (idJ J sh.length)) := by
  unfold e0 m0_0
  have a1 : (5 : Int32) = nI 5 := rfl
  have a2 : (1280 : Int32) = nI 1280 := rfl
  have a3 : (65536 : Int32) = nI 65536 := rfl
  have a4 : (256 : Int32) = nI 256 := rfl
  rw [a1, a2, a3, a4, nwJ_H (okh_app h (by simp [okq, okz, mokv, mkH_len] <;> omega) (by simp; omega)) (by omega), Option.bind_some, List.append_assoc, List.cons_append, List.nil_append, pA (by simp), Option.bind_some]
  rw [nwI_H (okh_app h (by simp [okq, okz, mokv, mkH_len] <;> omega) (by simp; omega)) (by omega), Option.bind_some, List.append_assoc, List.cons_append, List.cons_append, List.nil_append, pA (by simp), Option.bind_some]
  rw [nwJ_H (okh_app h (by simp [okq, okz, mokv, mkH_len] <;> omega) (by simp; omega)) (by omega), Option.bind_some, List.append_assoc, List.cons_append, List.cons_append, List.cons_append, List.nil_append, pA (by simp), Option.bind_some]
  rw [nwZ_H (okh_app h (by simp [okq, okz, mokv, mkH_len] <;> omega) (by simp; omega)) (by omega), Option.bind_some, List.append_assoc, List.cons_append, List.cons_append, List.cons_append, List.cons_append, List.nil_append, pA (by simp), Option.bind_some]
  rw [pAi rfl, Option.bind_some, pA (by simp), Option.bind_some, pA (by simp), Option.bind_some]
  have ok2 := okh_app h (r := [.inr (0, [.inr (.ref 1), .inr (.ref 8), .inr .null, .inr (.ref (sh.length + 1)), .inr (.ref (sh.length + 2)), .inr (.ref (sh.length + 3)), .inr (.ref (sh.length + 4)), .inl 0, .inl 0]), .inl (1, 5), .inl (0, 1280), .inl (1, 65536), .inl (2, 256)]) (by simp [okq, okz, mokv]; exact Nat.lt_add_right _ h1) (by simp; omega)
  simp only [mkH_len, List.length_append, List.length_cons, List.length_nil, List.set_cons_zero, List.set_cons_succ, Nat.zero_add, Nat.reduceAdd]
  rw [nwO_H md6 ok2, Option.bind_some]
  have e1 := shn_e (I := wzI (upI (wzI (wzI I (sh.length + 2)) (sh.length + 4)) sh.length 7 (-1)) (sh.length + 5)) (J := wzJ (wzJ (wzJ J (sh.length + 1)) (sh.length + 3)) (sh.length + 5)) (M := 256) (F := F) ok2 (by simp; omega) (by simp <;> omega) (by omega)
  simp only [List.length_append, List.length_cons, List.length_nil, Nat.zero_add, Nat.reduceAdd] at e1 ⊢
  rw [e1, Option.bind_some]
  simp only [List.append_assoc, List.cons_append, List.nil_append]
  rw [pA (by simp), Option.bind_some]
  rfl
