def a_core (a k : Nat) : Bool := match a with
  | 94 => k == 1 || k == 7 || k == 8 || k == 47 || k == 62 || k == 65 || k == 66 || k == 67 || k == 101
  | 95 => true
  | 96 => true
  | 122 => decide (3 ≤ k)
  | 123 => decide (3 ≤ k)
  | 124 => decide (16 ≤ k)
  | 125 => decide (24 ≤ k)
  | 126 => decide (16 ≤ k)
  | 127 => decide (16 ≤ k)
  | 128 => decide (2 ≤ k)
  | 129 => decide (2 ≤ k)
  | 130 => decide (1600 ≤ k)
  | 131 => true
  | 138 => true
  | 139 => true
  | 165 => true
  | a => (decide (97 ≤ a) && decide (a ≤ 121)) || (decide (140 ≤ a) && decide (a ≤ 161))
def l_obs (tl : Int) (a k : Nat) : Bool := match a with
  | 0 => k == 11 || k == 12 || k == 14 || k == 15
  | 1 => k == 1
  | 2 => true
  | 3 => k == 1
  | 4 => true
  | 10 => true
  | 11 => true
  | 12 => true
  | 13 => true
  | 14 => true
  | 36 => true
  | 37 => true
  | 38 => true
  | 39 => true
  | 56 => true
  | 87 => k == 0
  | 89 => true
  | a => (decide (16 ≤ a) && decide (a ≤ 35)) || (decide (57 ≤ a) && decide (a ≤ 71) && decide (tl = 57)) || (decide (72 ≤ a) && decide (a ≤ 86) && decide (tl = 72))
abbrev q_G : Type := Nat → Nat → Int
def u_2 (L : q_G) (a k : Nat) (v : Int) : q_G := q_u1 L a (q_u1 (L a) k v)
theorem u_rd {L : q_G} {a k : Nat} {v : Int} {b j : Nat} : u_2 L a k v b j = if b = a ∧ j = k then v else L b j := by
  unfold u_2 q_u1
  by_cases h : b = a
  · subst h
    by_cases h2 : j = k <;> simp [h2]
  · simp [h]
theorem up_rd {M : q_Mem} {a k : Nat} {v : Int} {b j : Nat} : (q_up M a k v).2 b j = if b = a ∧ j = k then v else M.2 b j := u_rd
def s_cloud (A : q_G) (m : Int) : Bool := (List.range (A 123 5).toNat).any (fun k => decide (A 127 (16 + 2 * k) ≤ m) && decide (m ≤ A 127 (17 + 2 * k))) || (List.range (A 131 3).toNat).any (fun k => decide (A 131 (4 + k) = m))
def q_encT : List (Int × Int) := [(1, 43), (2, 45), (3, 42), (4, 47), (5, 23), (6, 24), (7, 60), (8, 62), (9, 61), (10, 20), (11, 19), (12, 21), (13, 22), (40, 7), (41, 8), (42, 3), (43, 16), (44, 15), (45, 4), (46, 17), (47, 18), (60, 11), (61, 2)]
def q_enc (v : Int) : Int := if 1000 ≤ v then v - 1000 else 10000 + ((q_encT.find? (fun e => e.1 == v)).map (fun e => e.2)).getD 0
def q_may (w : Nat) (k : Int) : Bool := match w with
  | 0 => decide (k < 4)
  | 1 => decide (k < 6)
  | _ => decide (k < 2) || k == 3 || decide (5 < k)
def q_tc1 (w : Nat) (v : Int) (τ : List Bool) : Option (List Bool) :=
  if 1000 ≤ v ∧ v ≤ 10999 then some (false :: τ)
  else if 40 ≤ v ∧ v ≤ 47 ∧ q_may w (v - 40) = true then some (false :: τ)
  else if (v = 60 ∨ v = 61) ∧ w = 2 then (match τ with | false :: τ' => some (false :: τ') | _ => none)
  else if v = 13 then some (true :: τ)
  else if v = 12 then (match τ with | true :: τ' => some (true :: τ') | _ => none)
  else if 1 ≤ v ∧ v ≤ 6 then (match τ with | false :: false :: τ' => some (false :: τ') | _ => none)
  else if 7 ≤ v ∧ v ≤ 9 then (match τ with | false :: false :: τ' => some (true :: τ') | _ => none)
  else if 10 ≤ v ∧ v ≤ 11 then (match τ with | true :: true :: τ' => some (true :: τ') | _ => none)
  else none
def q_tc (w : Nat) : List Int → List Bool → Option (List Bool)
  | [], τ => some τ
  | v :: vs, τ => (q_tc1 w v τ).bind (fun τ' => if τ'.length ≤ 60 then q_tc w vs τ' else none)
def s_codes (A : q_G) (w : Nat) : List Int := (List.range (A 129 (2 + w) - A 128 (2 + w)).toNat).map (fun j => A 130 (1600 + (A 128 (2 + w)).toNat + j))
def r_code (size : Int) (steps : Nat → Int) (A : q_G) (w : Nat) : Prop :=
  (A 128 (2 + w) = -1 ∧ size = 0) ∨ (0 ≤ A 128 (2 + w) ∧ A 129 (2 + w) ≤ 1600 ∧ size = A 129 (2 + w) - A 128 (2 + w) ∧ 1 ≤ size ∧ size ≤ 1600 ∧ (∀ j : Nat, (j : Int) < size → steps j = q_enc (A 130 (1600 + (A 128 (2 + w)).toNat + j))) ∧ q_tc w (s_codes A w) [] = some [w == 1])
def q_n27 : List Int → Int
  | [] => 0
  | c :: cs => c + 27 * q_n27 cs
def q_n32 : List Int → Int
  | [] => 0
  | c :: cs => c + 32 * q_n32 cs
def r_name (x y : Int) : Prop := ∃ cs : List Int, cs.length ≤ 6 ∧ 1 ≤ cs.length ∧ (∀ c ∈ cs, 1 ≤ c ∧ c ≤ 26) ∧ x = q_n32 cs ∧ y = q_n27 cs.reverse
def r_wf (A : q_G) : Prop :=
  ((A 94 47 = 0 ∧ A 122 3 = 0 ∧ A 123 3 = 0 ∧ A 123 4 = 0 ∧ A 123 5 = 0) ∨ (A 94 47 = 1 ∧ 10 ≤ A 122 3)) ∧ A 122 3 ≤ 400 ∧ (0 ≤ A 123 3 ∧ A 123 3 ≤ 6) ∧ (0 ≤ A 123 4 ∧ A 123 4 ≤ 8) ∧ (0 ≤ A 123 5 ∧ A 123 5 ≤ 8)
  ∧ (∀ s : Nat, (s : Int) < A 123 3 → (0 ≤ A 125 (24 + 4 * s) ∧ A 125 (24 + 4 * s) ≤ 99) ∧ (0 ≤ A 125 (25 + 4 * s) ∧ A 125 (25 + 4 * s) ≤ 9) ∧ (0 ≤ A 125 (26 + 4 * s) ∧ A 125 (26 + 4 * s) ≤ 999) ∧ (0 ≤ A 125 (27 + 4 * s) ∧ A 125 (27 + 4 * s) ≤ 400))
  ∧ (∀ c : Nat, (c : Int) < A 123 4 → (0 ≤ A 126 (16 + 2 * c) ∧ A 126 (16 + 2 * c) ≤ 99) ∧ (0 ≤ A 126 (17 + 2 * c) ∧ A 126 (17 + 2 * c) ≤ 9))
  ∧ (∀ k : Nat, (k : Int) < A 123 5 → 0 ≤ A 127 (16 + 2 * k) ∧ A 127 (16 + 2 * k) ≤ A 127 (17 + 2 * k) ∧ A 127 (17 + 2 * k) ≤ 400)
  ∧ (0 ≤ A 122 4 ∧ A 122 4 ≤ 9999) ∧ (0 ≤ A 122 5 ∧ A 122 5 ≤ 100)
def q_pc6 (x : Int) : Int := ((List.range 6).countP (fun i => x.toNat.testBit i) : Nat)
def r_dv (A : q_G) (d : Nat → Int) : Prop :=
  (0 ≤ d 0 ∧ d 0 ≤ A 122 3) ∧ (0 ≤ d 1 ∧ d 1 ≤ 99) ∧ (0 ≤ d 2 ∧ d 2 < 2 ^ (A 123 3).toNat) ∧ (0 ≤ d 3 ∧ A 123 5 + d 3 ≤ 16) ∧ (∀ k : Nat, (k : Int) < d 3 → 0 ≤ d (4 + k) ∧ d (4 + k) ≤ 400) ∧ (0 ≤ d 20 ∧ d 20 ≤ q_pc6 (d 2))
def r_fair (t : Nat) (L A : q_G) : Prop :=
  ((t = 57 ∧ L 0 12 = 72) ∨ (t = 72 ∧ L 0 12 = 57)) ∧ L 0 11 = t ∧ L 87 0 = t
  ∧ L t 0 = A 122 3 ∧ L t 1 = A 123 3 ∧ L t 7 = A 123 4 ∧ L t 11 = A 123 5 ∧ L t 16 = A 122 4 ∧ L t 17 = A 122 5
  ∧ (∀ s : Nat, (s : Int) < A 123 3 → L (t + 2) s = A 125 (24 + 4 * s) ∧ L (t + 3) s = A 125 (25 + 4 * s) ∧ L (t + 4) s = A 125 (26 + 4 * s) ∧ L (t + 5) s = A 125 (27 + 4 * s) ∧ r_name (L (t + 1) s) (A 124 (16 + s)))
  ∧ (∀ c : Nat, (c : Int) < A 123 4 → L (t + 7) c = A 126 (16 + 2 * c) ∧ L (t + 8) c = A 126 (17 + 2 * c) ∧ r_name (L (t + 6) c) (A 124 (24 + c)))
  ∧ (∀ k : Nat, (k : Int) < A 123 5 → L (t + 9) k = A 127 (16 + 2 * k) ∧ L (t + 10) k = A 127 (17 + 2 * k))
  ∧ r_code (L (t + 11) 1) (L (t + 12)) A 0 ∧ r_code (L (t + 13) 1) (L (t + 14)) A 1
def r_day (L A : q_G) : Prop :=
  L 10 0 = A 131 0 ∧ L 10 1 = A 131 1 ∧ L 10 2 = A 131 2 ∧ L 10 3 = A 131 3 ∧ (∀ k : Nat, (k : Int) < A 131 3 → L 11 k = A 131 (4 + k))
  ∧ (∀ m : Nat, m ≤ 400 → L 89 m = if s_cloud A m then 1 else 0)
def s_clip (v : Int) : Int := if 1000000 < v then 1000000 else if v < -1000000 then -1000000 else v
def s_flo (v b : Int) : Int := if b = 0 then 0 else if v.tmod b ≠ 0 ∧ ((v < 0) ≠ (b < 0)) then v.tdiv b - 1 else v.tdiv b
def s_bin (v a b : Int) : Int :=
  if v = 1 then s_clip (a + b) else if v = 2 then s_clip (a - b) else if v = 3 then s_clip (a * b) else if v = 4 then s_flo a b
  else if v = 5 then (if a < b then a else b) else if v = 6 then (if b < a then a else b)
  else if v = 7 then (if a < b then 1 else 0) else if v = 8 then (if b < a then 1 else 0) else if v = 9 then (if a = b then 1 else 0)
  else if v = 10 then a * b else (if 0 < a + b then 1 else 0)
def s_ev1 (env : Int → Int) (ofs : Int → Int → Int) (v : Int) (st : List Int) : List Int :=
  if 1000 ≤ v then (v - 1000) :: st
  else if 60 ≤ v then (match st with | a :: r => s_clip (ofs (v - 60) a) :: r | [] => [])
  else if 40 ≤ v then s_clip (env (v - 40)) :: st
  else if v = 13 then 1 :: st
  else if v = 12 then (match st with | a :: r => (1 - a) :: r | [] => [])
  else (match st with | b :: a :: r => s_bin v a b :: r | _ => [])
def s_ev (env : Int → Int) (ofs : Int → Int → Int) : List Int → List Int → List Int
  | [], st => st
  | v :: vs, st => s_ev env ofs vs (s_ev1 env ofs v st)
def s_env (A : q_G) (c s m lg : Int) (k : Int) : Int :=
  if k = 0 then A 126 (16 + 2 * c).toNat else if k = 1 then A 126 (17 + 2 * c).toNat else if k = 2 then A 125 (25 + 4 * s).toNat
  else if k = 3 then m else if k = 4 then lg else if k = 5 then A 125 (26 + 4 * s).toNat else 0
def s_val (A : q_G) (w : Nat) (c s m lg : Int) : Int := (s_ev (s_env A c s m lg) (fun _ _ => 0) (s_codes A w) []).headD 0
def s_len (A : q_G) (c s m : Int) : Int := if A 128 2 = -1 then A 126 (16 + 2 * c).toNat else let v := s_val A 0 c s m 0; if v < 0 then 0 else if 999 < v then 999 else v
def s_pay (A : q_G) (c s m : Int) : Bool := decide (A 125 (26 + 4 * s).toNat ≤ s_len A c s m) && (decide (A 128 3 = -1) || decide (s_val A 1 c s m (s_len A c s m) ≠ 1))
def s_cell (A : q_G) (c s m : Int) : Int := 2 * s_len A c s m + (if s_pay A c s m then 1 else 0)
def s_shadow (A : q_G) (c s m : Int) : Int := if s_cloud A m then 0 else s_len A c s m
def s_buys (A : q_G) (c s m : Int) : Bool := decide (m < A 125 (27 + 4 * s).toNat) && !s_cloud A m && s_pay A c s m
def r_cache (f : Nat → Int) (A : q_G) : Prop := ∀ c s m : Nat, (c : Int) < A 123 4 → (s : Int) < A 123 3 → (m : Int) ≤ A 122 3 → f ((c * 6 + s) * 401 + m) = -1 ∨ f ((c * 6 + s) * 401 + m) = s_cell A c s m
def q_J (t : Nat) (M : q_Mem) (L A : q_G) : Prop := (∀ a k, l_obs (L 0 11) a k = true → M.2 a k = L a k) ∧ (∀ a k, a_core a k = true → M.2 a k = A a k) ∧ r_fair t L A ∧ r_wf A ∧ r_day L A ∧ r_cache (M.2 88) A ∧ r_dv A (A 131)
/-- the day as it was j acts ago -/
def s_at (A : q_G) (j : Nat) : Nat → Int := match j with
  | 0 => A 131
  | i + 1 => fun k => A 139 (141 * (((A 94 66).toNat + 20 - i) % 20) + k)
def r_ring (L A : q_G) : Prop :=
  L 10 11 = A 94 65 ∧ (0 ≤ A 94 65 ∧ A 94 65 ≤ 20) ∧ (0 ≤ L 10 10 ∧ L 10 10 < 20) ∧ (0 ≤ A 94 66 ∧ A 94 66 < 20)
  ∧ (∀ j : Nat, (j : Int) ≤ A 94 65 → r_dv A (s_at A j) ∧ (∀ k : Nat, (k : Int) < s_at A j 3 → L 11 k = s_at A j (4 + k)) ∧ (∀ k : Nat, (k : Int) < s_at A j 20 → L 12 k = s_at A j (21 + 3 * k) ∧ L 13 k = s_at A j (22 + 3 * k) ∧ L 14 k = s_at A j (23 + 3 * k)))
  ∧ (∀ i : Nat, (i : Int) < A 94 65 → s_at A (i + 1) 3 ≤ s_at A i 3 ∧ s_at A (i + 1) 20 ≤ s_at A i 20 ∧ (∀ k : Nat, k < 4 → L (16 + ((L 10 10).toNat + 19 - i) % 20) k = s_at A (i + 1) k) ∧ L (16 + ((L 10 10).toNat + 19 - i) % 20) 4 = s_at A (i + 1) 20)
def r_rest (L A : q_G) : Prop :=
  (L 1 1 = A 94 1 ∧ (∀ k, L 2 k = A 95 k) ∧ (0 ≤ A 94 1 ∧ A 94 1 ≤ 1600) ∧ ∀ k, 0 ≤ A 95 k ∧ A 95 k ≤ 255)
  ∧ (∀ k, L 56 k = A 96 k) ∧ (L 0 14 = A 94 7 ∧ L 0 15 = A 94 8)
  ∧ (L 3 1 = A 94 101 ∧ (0 ≤ A 94 101 ∧ A 94 101 ≤ 38) ∧ ∀ k : Nat, (k : Int) < A 94 101 → L 4 k = A 165 k)
  ∧ (L 10 12 = A 94 67 ∧ 0 ≤ A 94 67 ∧ A 94 67 < 2147483648)
  ∧ (L 36 0 = A 94 62 ∧ (0 ≤ A 94 62 ∧ A 94 62 ≤ 16) ∧ ∀ k : Nat, (k : Int) < A 94 62 → (L 37 k = A 138 (3 * k) ∧ 0 ≤ A 138 (3 * k) ∧ A 138 (3 * k) < A 123 4) ∧ (L 38 k = A 138 (3 * k + 1) ∧ 0 ≤ A 138 (3 * k + 1) ∧ A 138 (3 * k + 1) < A 123 3) ∧ (L 39 k = A 138 (3 * k + 2) ∧ 0 ≤ A 138 (3 * k + 2) ∧ A 138 (3 * k + 2) ≤ 65535))
  ∧ L 10 5 = A 131 20
  ∧ r_ring L A
def a_words : List (Nat × List Int) := [(97, [102, 97, 105, 114]), (98, [115, 116, 97, 108, 108]), (99, [97, 116]), (100, [116, 117, 114, 110]), (101, [112, 114, 105, 99, 101]), (102, [115, 104, 117, 116]), (103, [99, 111, 105, 110]), (104, [119, 105, 100, 116, 104]), (105, [104, 111, 108, 101]), (106, [99, 108, 111, 117, 100]), (107, [116, 111]), (108, [115, 104, 97, 100, 101]), (109, [114, 101, 102, 117, 115, 101]), (110, [98, 114, 105, 100, 103, 101]), (111, [103, 117, 115, 116]), (112, [108, 111, 110, 103]), (113, [109, 105, 110, 117, 116, 101]), (114, [110, 117, 109, 98, 101, 114]), (115, [104, 101, 114, 101]), (116, [111, 114]), (117, [97, 110, 100]), (118, [110, 111, 116]), (119, [97, 108, 108]), (120, [109, 105, 110]), (121, [109, 97, 120]), (140, [102, 105, 114, 115, 116]), (141, [108, 97, 115, 116]), (142, [111, 102, 116, 101, 110]), (143, [116, 111, 116, 97, 108]), (144, [109, 111, 115, 116]), (145, [108, 101, 97, 115, 116]), (146, [110, 111, 116]), (147, [97, 110, 100]), (148, [111, 114]), (149, [97, 108, 108]), (150, [109, 105, 110]), (151, [109, 97, 120]), (152, [119, 105, 100, 116, 104]), (153, [104, 111, 108, 101]), (154, [116, 117, 114, 110]), (155, [109, 105, 110, 117, 116, 101]), (156, [108, 111, 110, 103]), (157, [112, 114, 105, 99, 101]), (158, [110, 117, 109, 98, 101, 114]), (159, [104, 101, 114, 101]), (160, [115, 104, 97, 100, 101]), (161, [97, 116])]
def r_words (A : q_G) : Prop := ∀ e ∈ a_words, ∀ j : Nat, j < e.2.length → A e.1 j = e.2.getD j 0
def q_I (t : Nat) (M : q_Mem) (L A : q_G) : Prop := q_J t M L A ∧ r_rest L A ∧ r_words A
def q_St (M : q_Mem) : Prop := ∃ t L A, q_I t M L A
def q_Step (_ : q_Mem) (o1 : Option (Int × q_Mem)) (o2 : q_Mem → Option (Int × q_Mem)) : Prop := ∃ r M1 r' M2, o1 = some (r, M1) ∧ o2 M1 = some (r', M2) ∧ q_w r = q_w r' ∧ q_St M2
def q_StepA (_ : q_Mem) (o1 : Option (Int × q_Mem)) (o2 : q_Mem → Option (Int × q_Mem)) : Prop := ∃ r M1 r' M2, o1 = some (r, M1) ∧ o2 M1 = some (r', M2) ∧ q_wl r = q_wl r' ∧ q_St M2
def q_R (x : Int) : Prop := -2147483648 ≤ x ∧ x ≤ 2147483647
