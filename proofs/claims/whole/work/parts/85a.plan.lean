/-! rounds: the pure part -/
def e_ft (F : Int) (P : Nat → Int) (X : Nat → Int → Int) (p m : Int) (s : Nat) : Int := if F < m + (if 0 ≤ P s - p then P s - p else -(P s - p)) then -1 else X s (m + (if 0 ≤ P s - p then P s - p else -(P s - p)))
def e_end (F : Int) (P : Nat → Int) (X : Nat → Int → Int) : List Nat → Int → Int → Int
  | [], _, m => m
  | s :: l, p, m => if e_ft F P X p m s = -1 then -1 else e_end F P X l (P s) (e_ft F P X p m s)
def e_bits (r : Nat) : List Nat := (List.range 6).filter (fun s => r.testBit s)
def e_clr (r s : Nat) : Nat := r &&& (63 ^^^ 2 ^ s)
def e_perms : Nat → Nat → List (List Nat)
  | 0, _ => [[]]
  | n + 1, r => if r = 0 then [[]] else (e_bits r).flatMap (fun s => (e_perms n (e_clr r s)).map (fun l => s :: l))
abbrev e_S : Type := Int × List Nat
def e_up (st : e_S) (e : Int) (l : List Nat) : e_S := if e ≠ -1 ∧ (st.1 = -1 ∨ e < st.1) then (e, l) else st
def e_fold (F : Int) (P : Nat → Int) (X : Nat → Int → Int) (p m : Int) (pre : List Nat) (st : e_S) (L : List (List Nat)) : e_S := L.foldl (fun st l => e_up st (e_end F P X l p m) (pre ++ l)) st
def e_dfs (F : Int) (P : Nat → Int) (X : Nat → Int → Int) : Nat → Nat → List Nat → Int → Int → e_S → e_S
  | 0, r, pre, _, m, st => if r = 0 then e_up st m pre else st
  | n + 1, r, pre, p, m, st => (e_bits r).foldl (fun st s => if e_ft F P X p m s = -1 then st else e_dfs F P X n (e_clr r s) (pre ++ [s]) (P s) (e_ft F P X p m s) st) (if r = 0 then e_up st m pre else st)
def e_card (r : Nat) : Nat := (e_bits r).length
theorem e_cc : ∀ r : Fin 64, ∀ s ∈ e_bits r.val, e_card (e_clr r.val s) + 1 = e_card r.val ∧ e_clr r.val s < 64 ∧ s < 6 := by decide +kernel
theorem e_c0 : ∀ r : Fin 64, (e_card r.val = 0 ↔ r.val = 0) ∧ e_card r.val ≤ 6 := by decide +kernel
theorem fm_fold {α β γ : Type} (f : γ → β → γ) (g : α → List β) : ∀ (l : List α) (st : γ), (l.flatMap g).foldl f st = l.foldl (fun st x => (g x).foldl f st) st := by
  intro l
  induction l with
  | nil => intro st; rfl
  | cons a l ih => intro st; rw [List.flatMap_cons, List.foldl_append, ih]; rfl
theorem fd_cg {α γ : Type} {f g : γ → α → γ} : ∀ (l : List α) (st : γ), (∀ st, ∀ x ∈ l, f st x = g st x) → l.foldl f st = l.foldl g st := by
  intro l
  induction l with
  | nil => intro st _; rfl
  | cons a l ih => intro st h; rw [List.foldl_cons, List.foldl_cons, h st a List.mem_cons_self]; exact ih _ (fun st x hx => h st x (List.mem_cons_of_mem _ hx))
theorem up_neg (st : e_S) (l : List Nat) : e_up st (-1) l = st := if_neg (fun h => h.1 rfl)
theorem fd_id {α γ : Type} {f : γ → α → γ} : ∀ (l : List α) (st : γ), (∀ st, ∀ x ∈ l, f st x = st) → l.foldl f st = st := by
  intro l
  induction l with
  | nil => intro st _; rfl
  | cons a l ih => intro st h; rw [List.foldl_cons, h st a List.mem_cons_self]; exact ih _ (fun st x hx => h st x (List.mem_cons_of_mem _ hx))
theorem dfs_fold (F : Int) (P : Nat → Int) (X : Nat → Int → Int) : ∀ (n r : Nat) (pre : List Nat) (p m : Int) (st : e_S), r < 64 → e_card r ≤ n → e_dfs F P X n r pre p m st = e_fold F P X p m pre st (e_perms n r) := by
  intro n
  induction n with
  | zero =>
    intro r pre p m st hr hc
    have h0 : r = 0 := ((e_c0 ⟨r, hr⟩).1).mp (by show e_card r = 0; omega)
    subst h0
    rw [e_dfs, if_pos rfl]
    unfold e_fold
    rw [e_perms, List.foldl_cons, List.foldl_nil, e_end, List.append_nil]
  | succ n ih =>
    intro r pre p m st hr hc
    rw [e_dfs]
    unfold e_fold
    rw [e_perms]
    by_cases h0 : r = 0
    · subst h0
      rw [if_pos rfl, if_pos rfl, List.foldl_cons, List.foldl_nil, e_end, List.append_nil]
      rfl
    · rw [if_neg h0, if_neg h0, fm_fold]
      apply fd_cg
      intro st s hs
      obtain ⟨c1, c2, c3⟩ := e_cc ⟨r, hr⟩ s hs
      simp only at c1 c2 c3
      rw [List.foldl_map]
      by_cases c : e_ft F P X p m s = -1
      · rw [if_pos c, fd_id]
        intro st l _
        rw [e_end, if_pos c, up_neg]
      · rw [if_neg c, ih _ _ _ _ _ c2 (by omega)]
        unfold e_fold
        apply fd_cg
        intro st l _
        rw [e_end, if_neg c, List.append_assoc]
        rfl
/-- the next row, as the other side finds it -/
def e_n7 (f : Nat → Int) : Nat → Nat
  | 0 => 0
  | k + 1 => if f (k + 1) < f k then e_n7 f k else k + 1
def e_n47 (f : Nat → Int) (v : Int) : Nat → Nat
  | 0 => 0
  | j + 1 => if f (j + 1) < v then e_n47 f v j else j + 1
def e_sw (f : Nat → Int) (i j : Nat) : Nat → Int := q_u1 (q_u1 f i (f j)) j (f i)
def e_rev : Nat → (Nat → Int) → Nat → Nat → (Nat → Int)
  | 0, f, _, _ => f
  | n + 1, f, a, b => if a < b then e_rev n (e_sw f a b) (a + 1) (b - 1) else f
def e_nx (m : Nat) (f : Nat → Int) : Option (Nat → Int) := let k := e_n7 f (m - 1)
  if k = 0 then none else let j := e_n47 f (f (k - 1)) (m - 1)
    some (e_rev 6 (e_sw f (k - 1) j) k (m - 1))
def e_fl (l : List Nat) : Nat → Int := fun k => ((l.getD k 0 : Nat) : Int)
def e_nl (l : List Nat) : Option (List Nat) := (e_nx l.length (e_fl l)).map (fun g => (List.range l.length).map (fun k => (g k).toNat))
def e_isB : List (List Nat) → Bool
  | [] => false
  | l :: r => match r with
    | [] => (e_nl l).isNone
    | l' :: _ => (e_nl l == some l') && e_isB r
theorem perms_ok : ∀ r : Fin 64, (e_isB (e_perms 6 r.val) && ((e_perms 6 r.val).head? == some (e_bits r.val)) && (e_perms 6 r.val).all (fun l => (l.length == e_card r.val) && l.all (fun s => r.val.testBit s))) = true := by decide +kernel
