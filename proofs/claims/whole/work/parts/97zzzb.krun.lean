/-! The search over words and turns, for the kernel. -/
noncomputable def kq (K : List (Nat × Nat)) (c : Nat) : Nat := List.rec 0 (fun e _ ih => Bool.rec ih e.2 (Nat.beq e.1 c)) K
noncomputable def cdp (i j : Nat) : Nat := Bool.rec (Nat.add (Nat.mul 8 j) i) (Nat.add (Nat.mul 8 i) j) (Nat.ble i j)
noncomputable def stp (k : Nat) : Nat → Nat → List Nat → (List Nat → List (List Nat)) → List (List Nat) := Nat.rec (fun _ _ w ok => ok w) (fun _ ih a b w ok => List.rec [] (fun c u _ => Bool.rec [] (ih b a u ok) (Nat.beq c a)) w) k
noncomputable def alw (k : Nat) : Nat → Nat → List Nat → List Nat := Nat.rec (fun _ _ w => w) (fun _ ih a b w => a :: ih b a w) k
noncomputable def hmv (K : List (Nat × Nat)) (w : List Nat) : List (List Nat) := List.rec [] (fun a t _ => List.rec [] (fun b _ _ => frc (kq K (cdp a b)) (fun m => Bool.rec [] (stp m a b w (fun u => [alw m b a u])) (Nat.ble 2 m))) t) w
noncomputable def lcc (a : Nat) (L M : List (List Nat)) : List (List Nat) := List.rec M (fun w _ ih => (a :: w) :: ih) L
noncomputable def lap (L M : List (List Nat)) : List (List Nat) := List.rec M (fun w _ ih => w :: ih) L
noncomputable def nbs (K : List (Nat × Nat)) (w : List Nat) : List (List Nat) := List.rec [] (fun a t ih => lcc a ih (hmv K (a :: t))) w
noncomputable def cod (w : List Nat) : Nat → Nat := List.rec (fun c => c) (fun a _ ih c => ih (Nat.add (Nat.mul 8 c) a)) w
noncomputable def cme (c : Nat) (S : List (Nat × List Nat)) : Bool := List.rec false (fun e _ ih => Bool.rec ih true (Nat.beq e.1 c)) S
noncomputable def clo (K : List (Nat × Nat)) (f : Nat) : List (List Nat) → List (Nat × List Nat) → List (Nat × List Nat) := Nat.rec (fun _ S => S) (fun _ ih W S => List.rec S (fun w V _ => frc (cod w 1) (fun c => Bool.rec (ih (lap (nbs K w) V) ((c, w) :: S)) (ih V S) (cme c S))) W) f
noncomputable def rvl (w : List Nat) : List Nat → List Nat := List.rec (fun c => c) (fun a _ ih c => ih (a :: c)) w
noncomputable def adj (w : List Nat) : Bool := List.rec false (fun a t ih => List.rec false (fun b _ _ => Bool.rec ih true (Nat.beq a b)) t) w
noncomputable def idx (c : Nat) (S : List Nat) : Nat := List.rec 0 (fun d _ ih => Bool.rec (Nat.succ ih) 0 (Nat.beq d c)) S
noncomputable def snc (c : Nat) (S : List Nat) : List Nat := List.rec [c] (fun d t ih => Bool.rec (d :: ih) (d :: t) (Nat.beq d c)) S
noncomputable def pcd (w : List Nat) : List Nat → Nat → Nat := List.rec (fun _ c => c) (fun a _ ih S c => ih (snc a S) (Nat.add (Nat.mul 8 c) (idx a S))) w
noncomputable def kan (w : List Nat) : Nat → Nat → Nat := List.rec (fun _ _ => 0) (fun c _ ih a b => Bool.rec (ih a b) (Nat.succ (ih b a)) (Nat.beq c a)) w
noncomputable def mxn (a b : Nat) : Nat := Bool.rec a b (Nat.ble a b)
/-- how long s, t by turns may be in the word P (turned over) -/
noncomputable def amx (P : List Nat) (i j : Nat) : Nat := mxn (kan P i j) (kan P j i)
noncomputable def gbd (P : List Nat) (i j k : Nat) : Nat := Bool.rec (Bool.rec k (Nat.succ (amx P i j)) (Nat.beq k 1)) 2 (Nat.beq k 0)
/-- GD at the end of a word that is given turned over -/
noncomputable def gdt (P : List Nat) (K : List (Nat × Nat)) (l : List Nat) : Bool := List.rec false (fun s u _ => List.rec false (fun t _ _ => Bool.rec (frc (gbd P s t (kq K (cdp s t))) (fun B => Bool.rec false (Nat.ble (Nat.succ (kan u t s)) B) (Nat.ble (Nat.succ (kan u s t)) B))) false (Nat.beq s t)) u) l
noncomputable def tw1 (P : List Nat) (C : Nat) (K : List (Nat × Nat)) (w : List Nat) : Bool := Bool.rec (Bool.rec (gdt P K w) true (Nat.ble (Nat.succ (pcd w [] 0)) C)) true (adj w)
noncomputable def tws (P : List Nat) (C : Nat) (K : List (Nat × Nat)) (S : List (Nat × List Nat)) : Bool := List.rec false (fun e _ ih => Bool.rec (Bool.rec ih true (tw1 P C K (rvl e.2 []))) true (tw1 P C K e.2)) S
/-- pairs that are still open: at the ends, next to each other, all -/
noncomputable def opn (K : List (Nat × Nat)) (i j : Nat) (no : Bool) (yes : Bool) : Bool := Bool.rec no yes (Nat.beq (kq K (cdp i j)) 0)
noncomputable def pke (K : List (Nat × Nat)) (w : List Nat) (yes : Nat → Nat → Bool) (no : Bool) : Bool := List.rec no (fun a t _ => List.rec no (fun b _ _ => opn K a b no (yes a b)) t) w
noncomputable def pkn (K : List (Nat × Nat)) (S : List (Nat × List Nat)) (yes : Nat → Nat → Bool) (no : Bool) : Bool := List.rec no (fun e _ ih => pke K (rvl e.2 []) yes (pke K e.2 yes ih)) S
noncomputable def pka (K : List (Nat × Nat)) (w : List Nat) (yes : Nat → Nat → Bool) (no : Bool) : Bool := List.rec no (fun a t ih => List.rec no (fun b _ _ => opn K a b ih (yes a b)) t) w
noncomputable def pkb (K : List (Nat × Nat)) (S : List (Nat × List Nat)) (yes : Nat → Nat → Bool) (no : Bool) : Bool := List.rec no (fun e _ ih => pka K e.2 yes ih) S
noncomputable def pk1 (K : List (Nat × Nat)) (i : Nat) (q : Nat) (yes : Nat → Nat → Bool) (no : Bool) : Bool := Nat.rec no (fun j ih => opn K j i ih (yes j i)) q
noncomputable def pk2 (K : List (Nat × Nat)) (r : Nat) (yes : Nat → Nat → Bool) (no : Bool) : Bool := Nat.rec no (fun i ih => pk1 K i i yes ih) r
/-- the mirrors' numbers, packed -/
noncomputable def knf (k : Nat) (lf : Bool) : Nat := Bool.rec (Bool.rec (Bool.rec (Bool.rec 2 (Bool.rec 1 3 lf) (Nat.beq k 6)) (Bool.rec 1 2 lf) (Nat.beq k 4)) 1 (Nat.beq k 3)) 0 (Nat.beq k 2)
noncomputable def krm (K : List (Nat × Nat)) (s : Nat) (q : Nat) : Nat := Nat.rec 0 (fun j ih => Bool.rec (Nat.add ih (Nat.mul (knf (kq K (cdp j s)) (Nat.ble (Nat.succ j) s)) (Nat.pow 16777216 j))) ih (Nat.beq j s)) q
noncomputable def krc (K : List (Nat × Nat)) (r : Nat) (q : Nat) : List (Nat × Nat) → (List (Nat × Nat) → Bool) → Bool := Nat.rec (fun L k => k L) (fun s ih L k => frc (krm K s r) (fun B => frc (Nat.mul 2 (Nat.pow 16777216 s)) (fun C => ih ((C, B) :: L) k))) q
noncomputable def kgd (L : List (Nat × Nat)) : Nat → Nat × Nat := List.rec (fun _ => (0, 0)) (fun a _ ih s => Nat.rec a (fun t _ => ih t) s) L
noncomputable def kn0 (q : Nat) : Nat := Nat.rec 0 (fun j ih => Nat.add ih (Nat.mul 8388609 (Nat.pow 16777216 j))) q
noncomputable def klf (P : List Nat) (r : Nat) (K : List (Nat × Nat)) : Bool := krc K r r [] (fun L => frc (kn0 r) (fun N => kfin N (kgd L) P))
/-- a pair's turns, one by one -/
noncomputable def bro (a m : Nat) (yes : Bool) : Bool := Bool.rec true yes (Nat.ble m a)
noncomputable def brn (P : List Nat) (r : Nat) (K : List (Nat × Nat)) (ih : List (Nat × Nat) → Bool) (i j : Nat) : Bool := Bool.rec (Bool.rec false (Bool.rec false (frc (amx P i j) (fun a => frc (cdp i j) (fun c => Bool.rec false (Bool.rec false (Bool.rec false (Bool.rec false (ih ((c, 1) :: K)) (bro a 3 (ih ((c, 2) :: K)))) (bro a 3 (ih ((c, 3) :: K)))) (bro a 4 (ih ((c, 4) :: K)))) (bro a 6 (ih ((c, 6) :: K)))))) (Nat.ble (Nat.succ j) r)) (Nat.ble (Nat.succ i) r)) false (Nat.beq i j)
/-- P: the word turned over -/
noncomputable def krn (P : List Nat) (C r : Nat) (f : Nat) : List (Nat × Nat) → Bool := Nat.rec (fun _ => false) (fun _ ih K => (fun S => Bool.rec (pkn K S (brn P r K ih) (pkb K S (brn P r K ih) (pk2 K r (brn P r K ih) (klf P r K)))) true (tws P C K S)) (clo K 1500 [rvl P []] [])) f
/-- all words that go on from one (turned over) with q letters -/
noncomputable def kgo (L : Nat) : Nat → List Nat → Bool := Nat.rec (fun q P => krn P (pcd (rvl P []) [] 0) q 11 []) (fun _ ih q P => Nat.rec true (fun s h => Bool.rec false (Bool.rec (ih (mxn q (Nat.succ s)) (s :: P)) true (Nat.ble 5 s)) h) (Nat.succ q)) L
