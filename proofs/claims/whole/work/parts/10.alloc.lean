/-! ===== rules of the judgement: what constructors do: cells are made, one behind the other ===== -/
def q_dfl (sh : Nat × Nat) (k : Nat) : Int := match sh.1 with
  | 0 => if q_isR (q_ty sh.2 k) then -1 else 0
  | _ => 0
def q_aln (n : Nat) (M : q_Mem) : q_Mem := (n + 1, q_u1 M.2 n (q_dfl (q_shp n)))
def q_al (M : q_Mem) : q_Mem := (M.1 + 1, q_u1 M.2 M.1 (q_dfl (q_shp M.1)))
def q_rok1 (n : Nat) (v : q_V) : Bool := match v with
  | .inr (.inr r) => decide (r < n) || (r == 1000 || (r == 1001 || r == 1002))
  | _ => true
def q_rok (n : Nat) (vs : List q_V) : Bool := vs.all (q_rok1 n)
theorem q_RV_al {M : q_Mem} (h : q_RV M) (h5 : (q_shp M.1).1 ≠ 5) : q_RV (q_al M) := by
  have key : ∀ i j, M.2 i j < (M.1 : Int) → i ≠ M.1 → (q_al M).2 i j < ((q_al M).1 : Int) := by
    intro i j hij hne
    show q_u1 M.2 M.1 (q_dfl (q_shp M.1)) i j < ((M.1 + 1 : Nat) : Int)
    rw [q_u1, if_neg hne]
    omega
  intro i hi
  by_cases hne : i = M.1
  · subst hne
    refine ⟨fun c2 h2 j hj => ?_, fun n h2 j => ?_⟩
    · show q_u1 M.2 M.1 (q_dfl (q_shp M.1)) M.1 j < ((M.1 + 1 : Nat) : Int)
      rw [q_u1, if_pos rfl, h2]
      show (if q_isR (q_ty c2 j) then (-1 : Int) else 0) < _
      split <;> omega
    · exact absurd (by rw [h2]) h5
  · have hi' : i < M.1 := by have : i < M.1 + 1 := hi; omega
    exact ⟨fun c2 h2 j hj => key i j ((h i hi').1 c2 h2 j hj) hne, fun n h2 j => key i j ((h i hi').2 n h2 j) hne⟩
theorem q_cellE_ag {A A' : Nat → Nat} {cA : Nat → ClassId} {n : Nat} {sh : Nat × Nat} {f : Nat → Int} (hA : ∀ i, i < n → A' i = A i) (h0 : ∀ ci, sh = (0, ci) → ∀ k, q_isR (q_ty ci k) = true → f k < (n : Int)) (h5 : ∀ m, sh = (5, m) → ∀ k, f k < (n : Int)) (h6 : sh.1 ≤ 5) : q_cellE A' cA sh f = q_cellE A cA sh f := by
  obtain ⟨t, m⟩ := sh
  have h6 : t ≤ 5 := h6
  rcases (show t = 0 ∨ t = 1 ∨ t = 2 ∨ t = 3 ∨ t = 4 ∨ t = 5 by omega) with rfl | rfl | rfl | rfl | rfl | rfl
  · show Sum.inr (m, _) = Sum.inr (m, _)
    congr 2
    apply List.map_congr_left
    intro k _
    have hk := h0 m rfl k
    generalize q_ty m k = ty at hk
    cases ty <;> first | rfl | (
      have hk := hk rfl
      simp only [q_cf]
      split
      · rfl
      · rw [hA _ (by omega)])
  · rfl
  · rfl
  · rfl
  · rfl
  · show Sum.inl (cA 4, m, Sum.inr (Sum.inr (Sum.inr (Sum.inr _)))) = Sum.inl (cA 4, m, Sum.inr (Sum.inr (Sum.inr (Sum.inr _))))
    congr 7
    funext j
    have hj := h5 m rfl j
    split
    · rfl
    · rw [hA _ (by omega)]
theorem q_tab5 : ∀ i, i < 166 → (q_shp i).1 ≤ 5 := by decide +kernel
theorem q_ws_ag {A A' : Nat → Nat} {cA : Nat → ClassId} {M : q_Mem} (hV : q_RV M) (hn : M.1 ≤ 166) (hA : ∀ i, i < M.1 → A' i = A i) : q_ws A' cA M = q_ws A cA M := by
  unfold q_ws
  apply List.map_congr_left
  intro i hi
  have hi := List.mem_range.mp hi
  rw [hA i hi, q_cellE_ag hA (fun ci h k hk => (hV i hi).1 ci h k hk) (fun m h k => (hV i hi).2 m h k) (q_tab5 i (by omega))]
theorem q_ws_al {A : Nat → Nat} {cA : Nat → ClassId} {M : q_Mem} {q : Nat} {e : va_E} (hV : q_RV M) (hn : M.1 < 166) (he : q_cellE (q_u1 A M.1 q) cA (q_shp M.1) (q_dfl (q_shp M.1)) = e) : q_ws (q_u1 A M.1 q) cA (q_al M) = q_ws A cA M ++ [(q, e)] := by
  have h1 : q_ws (q_u1 A M.1 q) cA M = q_ws A cA M := q_ws_ag hV (by omega) (fun i hi => by rw [q_u1, if_neg (by omega)])
  rw [← h1]
  unfold q_ws
  show (List.range (M.1 + 1)).map _ = _
  rw [List.range_succ, List.map_append]
  congr 1
  · apply List.map_congr_left
    intro i hi
    have hi := List.mem_range.mp hi
    show (_, q_cellE _ _ _ (q_u1 M.2 M.1 (q_dfl (q_shp M.1)) i)) = _
    rw [show q_u1 M.2 M.1 (q_dfl (q_shp M.1)) i = M.2 i from if_neg (by omega)]
  · show [(q_u1 A M.1 q M.1, q_cellE _ _ (q_shp M.1) (q_u1 M.2 M.1 (q_dfl (q_shp M.1)) M.1))] = _
    rw [show q_u1 M.2 M.1 (q_dfl (q_shp M.1)) M.1 = q_dfl (q_shp M.1) from if_pos rfl, show q_u1 A M.1 q M.1 = q from if_pos rfl, he]
theorem q_c_ag {A A' : Nat → Nat} {n : Nat} (hA : ∀ i, i < n → A' i = A i) (h0 : A' 1000 = A 1000) (h1 : A' 1001 = A 1001) (h2 : A' 1002 = A 1002) {v : q_V} (h : q_rok1 n v = true) : q_c A' v = q_c A v := by
  rcases v with a | a | r
  · rfl
  · rfl
  · show Value.ref (A' r) = Value.ref (A r)
    simp only [q_rok1, Bool.or_eq_true, decide_eq_true_eq, beq_iff_eq] at h
    rcases h with h | h | h | h
    · rw [hA r h]
    · rw [h, h0]
    · rw [h, h1]
    · rw [h, h2]
theorem q_map_ag {A A' : Nat → Nat} {n : Nat} (hA : ∀ i, i < n → A' i = A i) (h0 : A' 1000 = A 1000) (h1 : A' 1001 = A 1001) (h2 : A' 1002 = A 1002) {vs : List q_V} (h : q_rok n vs = true) : vs.map (q_c A') = vs.map (q_c A) := by
  apply List.map_congr_left
  intro v hv
  exact q_c_ag hA h0 h1 h2 (List.all_eq_true.mp h v hv)
theorem q_cl_ag {A A' : Nat → Nat} {n : Nat} (hA : ∀ i, i < n → A' i = A i) (h0 : A' 1000 = A 1000) (h1 : A' 1001 = A 1001) (h2 : A' 1002 = A 1002) {ls : List (Nat × q_V)} (h : q_rok n (ls.map (fun q => q.2)) = true) : q_cl A' ls = q_cl A ls := by
  apply List.map_congr_left
  intro q hq
  rw [q_c_ag hA h0 h1 h2 (List.all_eq_true.mp h q.2 (List.mem_map.mpr ⟨q, hq, rfl⟩))]
/-- the extra premise doesn't look at cells that constructors make -/
def q_XM (XP : State → (Nat → Nat) → (Nat → Prop) → Prop) : Prop := ∀ (s : State) (A A' : Nat → Nat) (A0 : Nat → Prop), A' 1002 = A 1002 → XP s A A0 → XP s A' A0
theorem q_XM_T : q_XM q_T := fun _ _ _ _ _ _ => trivial
theorem q_Base_ag {y : MethodName} {cc : ByteArray} {nL : Nat} {ret : Option FieldType} {p : Program} {s : State} {m : MethodId} {args : Array Value} {meth : Method} {c : Code} {D : va_G} {cA : Nat → ClassId} {A0 : Nat → Prop} {A A' : Nat → Nat} (h : q_Base y cc nL ret p s m args meth c D cA A0 A) (h0 : A' 1000 = A 1000) (h1 : A' 1001 = A 1001) : q_Base y cc nL ret p s m args meth c D cA A0 A' := by
  obtain ⟨a1, a2, a3, a4, a5, a6, a7, a8, a9, b1, b2, b3, b4, b5, b6⟩ := h
  refine ⟨a1, a2, a3, a4, a5, a6, a7, a8, a9, b1, b2, ?_, ?_, b5, b6⟩
  · rw [h0]; exact b3
  · rw [h0, h1]; exact b4
section QL
variable {XP : State → (Nat → Nat) → (Nat → Prop) → Prop} {d : Nat} {y : MethodName} {cc : ByteArray} {nL : Nat} {ret : Option FieldType} {pc pc' : Nat} {ls ls' : List (Nat × q_V)} {st st' st0 : List q_V} {M : q_Mem} {o o1 o2 : Option (Int × q_Mem)} {g : Int → q_Mem → Option (Int × q_Mem)} {f : q_Mem → Option (Int × q_Mem)}
variable {y2 : MethodName} {cc2 : ByteArray} {nL2 n idx : Nat} {ret2 : Option FieldType} {As : List q_V}
/-- what is common to the making of a cell -/
theorem q_make {pcn : Nat} {e0 : (Nat → ClassId) → va_E} {st2 : List q_V} (hX : q_XM XP) (hV : q_RV M) (hM : M.1 < 166) (h5 : (q_shp M.1).1 ≠ 5) (hls : q_rok M.1 (ls.map (fun q => q.2)) = true) (hst : q_rok M.1 st2 = true) (he : ∀ (A : Nat → Nat) (cA : Nat → ClassId), q_cellE A cA (q_shp M.1) (q_dfl (q_shp M.1)) = e0 cA)
    (hrun : ∀ (p : Program) (l : Launch) (e : Env) (R : Room) (s : State) (m : MethodId) (args : Array Value) (below : List Frame) (meth : Method) (c : Code) (D : va_G) (cA : Nat → ClassId) (A0 : Nat → Prop) (A : Nat → Nat) (H : Heap) (locs : List Loc) (cells slots : Nat) (lsA : Array Slot) (Q : State → Prop), q_Base y cc nL ret p s m args meth c D cA A0 A → va_P D q_cls (q_ws A cA M) H → va_D A0 (q_ws A cA M) → va_S A0 s.heap H locs → lv_has lsA nL (q_cl A ls) → cells + 1 ≤ R.cells → slots + q_size (q_shp M.1) ≤ R.slots →
      (∀ (q : Nat) (H1 : Heap), va_P D q_cls (q_ws A cA M ++ [(q, e0 cA)]) H1 → va_D A0 (q_ws A cA M ++ [(q, e0 cA)]) → va_S A0 s.heap H1 locs → W p l e R s m args below meth c H1 locs (cells + 1) (slots + q_size (q_shp M.1)) Q (F0 m pcn lsA (.ref q :: st2.map (q_c A)))) → W p l e R s m args below meth c H locs cells slots Q (F0 m pc lsA (st.map (q_c A))))
    (kk : ∀ M1, M1 = q_al M → q_EXg XP d y cc nL ret pcn ls (.inr (.inr M.1) :: st2) M1 (f M1)) : q_EXg XP d y cc nL ret pc ls st M (q_let (q_al M) f) := by
  intro x M' ho
  have k0 := kk _ rfl x M' ho
  have hle : M.1 + 1 ≤ M'.1 := k0.2.2.1
  refine ⟨?_, fun h => absurd h.1 (by omega), by omega, fun h6 h => k0.2.2.2 h6 (q_RV_al h h5)⟩
  intro p l e R s m args below meth c D cA A0 A H locs cells slots mc ms lsA Q hB hXP hP hD hS hl hR hn hE
  have hsz : q_sz (M.1 + 1) = q_sz M.1 + q_size (q_shp M.1) := rfl
  have hmono : q_sz (M.1 + 1) ≤ q_sz M'.1 := q_sz_mono hle
  refine hrun p l e R s m args below meth c D cA A0 A H locs cells slots lsA Q hB hP hD hS hl (by omega) (by omega) (fun q H1 hP1 hD1 hS1 => ?_)
  have a0 : q_u1 A M.1 q 1000 = A 1000 := if_neg (by omega)
  have a1 : q_u1 A M.1 q 1001 = A 1001 := if_neg (by omega)
  have a2 : q_u1 A M.1 q 1002 = A 1002 := if_neg (by omega)
  have aA : ∀ i, i < M.1 → q_u1 A M.1 q i = A i := fun i hi => if_neg (by omega)
  rw [← q_ws_al hV hM (he _ _)] at hP1 hD1
  have hk := k0.1 p l e R s m args below meth c D cA A0 (q_u1 A M.1 q) H1 locs (cells + 1) (slots + q_size (q_shp M.1)) mc ms lsA Q (q_Base_ag hB a0 a1) (hX s A _ A0 a2 hXP) hP1 hD1 hS1 (by rw [q_cl_ag aA a0 a1 a2 hls]; exact hl) hR ⟨hle, by show cells + 1 + (M'.1 - (M.1 + 1)) ≤ mc; omega, by show slots + q_size (q_shp M.1) + (q_sz M'.1 - q_sz (M.1 + 1)) ≤ ms; omega⟩ (fun A' H' locs' lsA' pc' hAg hP' hD' hS' hr' => hE A' H' locs' lsA' pc' ⟨fun i hi => by rw [hAg.1 i (by show i < M.1 + 1; omega)]; exact aA i hi, fun h => absurd h (by omega), by rw [hAg.2.2.1]; exact a0, by rw [hAg.2.2.2.1]; exact a1, by rw [hAg.2.2.2.2]; exact a2⟩ hP' hD' hS' hr')
  have hs : (List.map (q_c (q_u1 A M.1 q)) (Sum.inr (Sum.inr M.1) :: st2)) = .ref q :: st2.map (q_c A) := by
    rw [List.map_cons, q_map_ag aA a0 a1 a2 hst]
    show Value.ref (q_u1 A M.1 q M.1) :: _ = _
    rw [show q_u1 A M.1 q M.1 = q from if_pos rfl]
  rw [hs] at hk
  exact hk
def q_isL (ty : FieldType) : Bool := match ty with
  | .long => true
  | _ => false
theorem q_dfv {ty : FieldType} (h : (q_isI ty || (q_isR ty || q_isL ty)) = true) : defaultValue ty = q_cf (fun _ => 0) ty (if q_isR ty then -1 else 0) := by
  cases ty <;> first | rfl | (cases h; done)
theorem q_new {ci : Nat} {C : String} {T : u_T} (hX : q_XM XP) (hV : q_RV M) (hM : M.1 = n) (hn : n < 166) (hsh : q_shp n = (0, ci)) (hCF : q_CF ci C T (q_nf ci)) (hdf : ∀ j, j < q_nf ci → (q_isI (q_ty ci j) || (q_isR (q_ty ci j) || q_isL (q_ty ci j))) = true) (hls : q_rok n (ls.map (fun q => q.2)) = true) (hst : q_rok n st = true) (hw1 : Cond.classLink y.cls idx C ∈ q_gT) (hw2 : Cond.instantiable C (q_nf ci) ∈ q_gT) (hw3 : Cond.initialized C ∈ q_gT) (hdg : decode cc pc = .ok (.new idx, 3))
    (kk : ∀ M1, M1 = q_aln n M → M1.1 = n + 1 → q_RV M1 → q_EXg XP d y cc nL ret (pc + 3) ls (.inr (.inr n) :: st) M1 (f M1)) : q_EXg XP d y cc nL ret pc ls st M (q_let (q_aln n M) f) := by
  subst hM
  obtain ⟨hc, hN, hin, hpt, hnm⟩ := hCF
  refine q_make (e0 := fun _ => .inr (ci, (List.range (q_nf ci)).map (fun k => q_cf (fun _ => 0) (q_ty ci k) (q_dfl (0, ci) k)))) hX hV hn (by rw [hsh]; exact fun h5 => by cases h5) hls hst (fun A cA => ?_) ?_ (fun M1 h1 => kk M1 h1 (by rw [h1]; rfl) (by rw [h1]; exact q_RV_al hV (by rw [hsh]; exact fun h5 => by cases h5)))
  · rw [hsh]
    show Sum.inr (ci, _) = Sum.inr (ci, _)
    congr 2
    apply List.map_congr_left
    intro k _
    show q_cf A (q_ty ci k) (if q_isR (q_ty ci k) then -1 else 0) = q_cf (fun _ => 0) (q_ty ci k) (if q_isR (q_ty ci k) then -1 else 0)
    generalize q_ty ci k = ty
    cases ty <;> rfl
  · intro p l e R s m args below meth c D cA A0 A H locs cells slots lsA Q hB hP hD hS hl hce hsl hk
    obtain ⟨hx, hb, -, -, -, hown, -, hts, hA, hEnv⟩ := id hB
    have hs0 : q_size (q_shp M.1) = q_nf ci := by rw [hsh]; rfl
    rw [hs0] at hsl hk
    refine va_new (ci := ci) (C := C) (T := T) (N := q_nf ci) hx hb hts hin (q_ty ci) hpt hown (hts _ hw1) (hts _ hw2) (hts _ hw3) hEnv.1 hP hD hS hA hc (fun j hj => ?_) hce hsl hdg hk
    unfold vp_V
    rw [List.getD_eq_getElem?_getD, List.getElem?_map, List.getElem?_range hj]
    show defaultValue (q_ty ci j) = q_cf (fun _ => 0) (q_ty ci j) (if q_isR (q_ty ci j) then -1 else 0)
    exact q_dfv (hdf j hj)
/-! new arrays of numbers -/
theorem q_newaI {z : Int} {N : Nat} (hX : q_XM XP) (hV : q_RV M) (hM : M.1 = n) (hn : n < 166) (hsh : q_shp n = (1, N)) (hls : q_rok n (ls.map (fun q => q.2)) = true) (hst : q_rok n st = true) (hz1 : ¬ Int32.ofInt z < 0) (hz2 : (Int32.ofInt z).toNatClampNeg = N) (hby : N * componentBytes .int ≤ 536870912) (hw : Cond.arrayClass .int ∈ q_gT) (hdg : decode cc pc = .ok (.newarray .int, 2))
    (kk : ∀ M1, M1 = q_aln n M → M1.1 = n + 1 → q_RV M1 → q_EXg XP d y cc nL ret (pc + 2) ls (.inr (.inr n) :: st) M1 (f M1)) : q_EXg XP d y cc nL ret pc ls (.inl z :: st) M (q_let (q_aln n M) f) := by
  subst hM
  refine q_make (e0 := fun cA => .inl (cA 0, N, .inl (fun _ => Int32.ofInt 0))) hX hV hn (by rw [hsh]; exact fun h5 => by cases h5) hls hst (fun A cA => by rw [hsh]; rfl) ?_ (fun M1 h1 => kk M1 h1 (by rw [h1]; rfl) (by rw [h1]; exact q_RV_al hV (by rw [hsh]; exact fun h5 => by cases h5)))
  intro p l e R s m args below meth c D cA A0 A H locs cells slots lsA Q hB hP hD hS hl hce hsl hk
  obtain ⟨hx, hb, -, -, -, hown, -, hts, hA, hEnv⟩ := id hB
  have hs0 : q_size (q_shp M.1) = N := by rw [hsh]; rfl
  rw [hs0] at hsl hk
  refine va_newa (atype := .int) (ty := .int) (a0 := (N, .inl (fun _ => Int32.ofInt 0))) hx hb (hts _ hw) rfl hEnv.1 hP hD hS hA (fun c0 => by rw [vp_cell_i]; rfl) hz1 hz2 hby hce hsl hdg (fun q c0 H1 hK1 hP1 hD1 hS1 => ?_)
  have e1 : s.vm.findClass ("[" ++ (FieldType.int).toString) = some c0 := (hK1.2 5 (c0, .int) rfl).2
  have e2 : s.vm.findClass ("[" ++ (FieldType.int).toString) = some (cA 0) := (hEnv.1.2 0 (cA 0, .int) rfl).2
  have e3 : c0 = cA 0 := Option.some.inj (e1.symm.trans e2)
  subst e3
  exact hk q H1 hP1 hD1 hS1
theorem q_newaC {z : Int} {N : Nat} (hX : q_XM XP) (hV : q_RV M) (hM : M.1 = n) (hn : n < 166) (hsh : q_shp n = (2, N)) (hls : q_rok n (ls.map (fun q => q.2)) = true) (hst : q_rok n st = true) (hz1 : ¬ Int32.ofInt z < 0) (hz2 : (Int32.ofInt z).toNatClampNeg = N) (hby : N * componentBytes .char ≤ 536870912) (hw : Cond.arrayClass .char ∈ q_gT) (hdg : decode cc pc = .ok (.newarray .char, 2))
    (kk : ∀ M1, M1 = q_aln n M → M1.1 = n + 1 → q_RV M1 → q_EXg XP d y cc nL ret (pc + 2) ls (.inr (.inr n) :: st) M1 (f M1)) : q_EXg XP d y cc nL ret pc ls (.inl z :: st) M (q_let (q_aln n M) f) := by
  subst hM
  refine q_make (e0 := fun cA => .inl (cA 1, N, .inl (fun _ => Int32.ofInt 0))) hX hV hn (by rw [hsh]; exact fun h5 => by cases h5) hls hst (fun A cA => by rw [hsh]; rfl) ?_ (fun M1 h1 => kk M1 h1 (by rw [h1]; rfl) (by rw [h1]; exact q_RV_al hV (by rw [hsh]; exact fun h5 => by cases h5)))
  intro p l e R s m args below meth c D cA A0 A H locs cells slots lsA Q hB hP hD hS hl hce hsl hk
  obtain ⟨hx, hb, -, -, -, hown, -, hts, hA, hEnv⟩ := id hB
  have hs0 : q_size (q_shp M.1) = N := by rw [hsh]; rfl
  rw [hs0] at hsl hk
  refine va_newa (atype := .char) (ty := .char) (a0 := (N, .inl (fun _ => Int32.ofInt 0))) hx hb (hts _ hw) rfl hEnv.1 hP hD hS hA (fun c0 => by rw [vp_cell_i]; rfl) hz1 hz2 hby hce hsl hdg (fun q c0 H1 hK1 hP1 hD1 hS1 => ?_)
  have e1 : s.vm.findClass ("[" ++ (FieldType.char).toString) = some c0 := (hK1.2 5 (c0, .char) rfl).2
  have e2 : s.vm.findClass ("[" ++ (FieldType.char).toString) = some (cA 1) := (hEnv.1.2 1 (cA 1, .char) rfl).2
  have e3 : c0 = cA 1 := Option.some.inj (e1.symm.trans e2)
  subst e3
  exact hk q H1 hP1 hD1 hS1
theorem q_newaZ {z : Int} {N : Nat} (hX : q_XM XP) (hV : q_RV M) (hM : M.1 = n) (hn : n < 166) (hsh : q_shp n = (3, N)) (hls : q_rok n (ls.map (fun q => q.2)) = true) (hst : q_rok n st = true) (hz1 : ¬ Int32.ofInt z < 0) (hz2 : (Int32.ofInt z).toNatClampNeg = N) (hby : N * componentBytes .boolean ≤ 536870912) (hw : Cond.arrayClass .boolean ∈ q_gT) (hdg : decode cc pc = .ok (.newarray .boolean, 2))
    (kk : ∀ M1, M1 = q_aln n M → M1.1 = n + 1 → q_RV M1 → q_EXg XP d y cc nL ret (pc + 2) ls (.inr (.inr n) :: st) M1 (f M1)) : q_EXg XP d y cc nL ret pc ls (.inl z :: st) M (q_let (q_aln n M) f) := by
  subst hM
  refine q_make (e0 := fun cA => .inl (cA 2, N, .inl (fun _ => Int32.ofInt 0))) hX hV hn (by rw [hsh]; exact fun h5 => by cases h5) hls hst (fun A cA => by rw [hsh]; rfl) ?_ (fun M1 h1 => kk M1 h1 (by rw [h1]; rfl) (by rw [h1]; exact q_RV_al hV (by rw [hsh]; exact fun h5 => by cases h5)))
  intro p l e R s m args below meth c D cA A0 A H locs cells slots lsA Q hB hP hD hS hl hce hsl hk
  obtain ⟨hx, hb, -, -, -, hown, -, hts, hA, hEnv⟩ := id hB
  have hs0 : q_size (q_shp M.1) = N := by rw [hsh]; rfl
  rw [hs0] at hsl hk
  refine va_newa (atype := .boolean) (ty := .boolean) (a0 := (N, .inl (fun _ => Int32.ofInt 0))) hx hb (hts _ hw) rfl hEnv.1 hP hD hS hA (fun c0 => by rw [vp_cell_i]; rfl) hz1 hz2 hby hce hsl hdg (fun q c0 H1 hK1 hP1 hD1 hS1 => ?_)
  have e1 : s.vm.findClass ("[" ++ (FieldType.boolean).toString) = some c0 := (hK1.2 5 (c0, .boolean) rfl).2
  have e2 : s.vm.findClass ("[" ++ (FieldType.boolean).toString) = some (cA 2) := (hEnv.1.2 2 (cA 2, .boolean) rfl).2
  have e3 : c0 = cA 2 := Option.some.inj (e1.symm.trans e2)
  subst e3
  exact hk q H1 hP1 hD1 hS1
theorem q_newaJ {z : Int} {N : Nat} (hX : q_XM XP) (hV : q_RV M) (hM : M.1 = n) (hn : n < 166) (hsh : q_shp n = (4, N)) (hls : q_rok n (ls.map (fun q => q.2)) = true) (hst : q_rok n st = true) (hz1 : ¬ Int32.ofInt z < 0) (hz2 : (Int32.ofInt z).toNatClampNeg = N) (hby : N * componentBytes .long ≤ 536870912) (hw : Cond.arrayClass .long ∈ q_gT) (hdg : decode cc pc = .ok (.newarray .long, 2))
    (kk : ∀ M1, M1 = q_aln n M → M1.1 = n + 1 → q_RV M1 → q_EXg XP d y cc nL ret (pc + 2) ls (.inr (.inr n) :: st) M1 (f M1)) : q_EXg XP d y cc nL ret pc ls (.inl z :: st) M (q_let (q_aln n M) f) := by
  subst hM
  refine q_make (e0 := fun cA => .inl (cA 3, N, .inr (.inl (fun _ => Int64.ofInt 0)))) hX hV hn (by rw [hsh]; exact fun h5 => by cases h5) hls hst (fun A cA => by rw [hsh]; rfl) ?_ (fun M1 h1 => kk M1 h1 (by rw [h1]; rfl) (by rw [h1]; exact q_RV_al hV (by rw [hsh]; exact fun h5 => by cases h5)))
  intro p l e R s m args below meth c D cA A0 A H locs cells slots lsA Q hB hP hD hS hl hce hsl hk
  obtain ⟨hx, hb, -, -, -, hown, -, hts, hA, hEnv⟩ := id hB
  have hs0 : q_size (q_shp M.1) = N := by rw [hsh]; rfl
  rw [hs0] at hsl hk
  refine va_newa (atype := .long) (ty := .long) (a0 := (N, .inr (.inl (fun _ => Int64.ofInt 0)))) hx hb (hts _ hw) rfl hEnv.1 hP hD hS hA (fun c0 => by rw [vp_cell_l]; rfl) hz1 hz2 hby hce hsl hdg (fun q c0 H1 hK1 hP1 hD1 hS1 => ?_)
  have e1 : s.vm.findClass ("[" ++ (FieldType.long).toString) = some c0 := (hK1.2 5 (c0, .long) rfl).2
  have e2 : s.vm.findClass ("[" ++ (FieldType.long).toString) = some (cA 3) := (hEnv.1.2 3 (cA 3, .long) rfl).2
  have e3 : c0 = cA 3 := Option.some.inj (e1.symm.trans e2)
  subst e3
  exact hk q H1 hP1 hD1 hS1
/-- the call of Object's constructor -/
theorem q_objI {r : Nat} (hw1 : Cond.methodLink y.cls idx objectInit ∈ q_gT) (hw2 : Cond.instanceMethod objectInit ∈ q_gT) (hw3 : Cond.code objectInit ⟨#[0xb1]⟩ 1 none ∈ q_gT) (hst : q_words2 st ≤ 8) (hdg : decode cc pc = .ok (.invokespecial idx, 3)) (kk : q_EXg XP (d + 1) y cc nL ret (pc + 3) ls st M o) : q_EXg XP (d + 1) y cc nL ret pc ls (.inr (.inr r) :: st) M o := by
  intro x M' ho
  have k0 := kk x M' ho
  refine ⟨?_, k0.2⟩
  intro p l e R s m args below meth c D cA A0 A H locs cells slots mc ms lsA Q hB hX hP hD hS hl hR hn hE
  have hk := k0.1 p l e R s m args below meth c D cA A0 A H locs cells slots mc ms lsA Q hB hX hP hD hS hl hR hn hE
  obtain ⟨hx, hb, -, -, hml, hown, -, hts, -, hEnv⟩ := id hB
  refine W.objInit hx hb hown (hts _ hw1) (hts _ hw2) (hts _ hw3) rfl (by rw [hml]; exact hl.1) rfl hdg (by omega) ?_ hk
  show 2 * 0 + ((st.map (q_c A)).map fun v => v.category).sum + 12 ≤ R.locals
  rw [q_sumcat]; omega
/-- a final reference, in its class's constructor -/
theorem q_putF {r k ci v : Nat} (hF : q_FL y.cls idx ci k true) (hy : y.name = "<init>") (hcl : (q_cls[ci]?).map (fun q => q.1) = some y.cls) (hsh : q_shp r = (0, ci)) (hr : r < M.1) (hv : v < M.1) (hok : q_Ok M → q_Ok (q_up M r k (v : Int))) (hty : q_isR (q_ty ci k) = true) (hdg : decode cc pc = .ok (.putfield idx, 3)) (kk : ∀ M1, M1 = q_up M r k (v : Int) → q_EXg XP d y cc nL ret (pc + 3) ls st M1 (f M1)) : q_EXg XP d y cc nL ret pc ls (.inr (.inr v) :: .inr (.inr r) :: st) M (q_let (q_up M r k (v : Int)) f) := by
  intro x M' ho
  have k0 := kk _ rfl x M' ho
  refine ⟨?_, fun h => k0.2.1 (hok h), k0.2.2.1, fun h6 hV => k0.2.2.2 h6 (q_RV_r hV hv)⟩
  intro p l e R s m args below meth c D cA A0 A H locs cells slots mc ms lsA Q hB hX hP hD hS hl hR hn hE
  obtain ⟨hx, hb, -, -, -, hown, hnm0, hts, -, hEnv⟩ := id hB
  obtain ⟨C, T, N, ⟨hc, hN, hin, hpt, hnm⟩, hkN, hlk, hd, hf⟩ := hF
  have hC : C = y.cls := by rw [hc] at hcl; exact Option.some.inj hcl
  refine va_putF (D := D) (ci := ci) (v := .ref (A v)) (ty := q_ty ci k) (C := C) (T := T) (N := N) hx hb hts hin (q_ty ci) hpt hnm hown hEnv.1 hP hD hS r (q_obj hsh hr) hc k hkN (hts _ hlk) (by rw [hd]; exact fun _ h => h) hf (by rw [hnm0]; exact hy) (by rw [hd]; exact hC) (hpt k hkN) ?_ ?_ (by rw [List.length_map, List.length_range, ← hN]; exact hkN) hdg (fun H1 locs1 hP1 hD1 hS1 => ?_)
  · generalize q_ty ci k = ty at hty
    cases ty <;> first | rfl | cases hty
  · generalize q_ty ci k = ty at hty
    cases ty <;> first | rfl | cases hty
  have hs : (q_ws A cA M).set r (A r, .inr (ci, ((List.range (q_nf ci)).map (fun k => q_cf A (q_ty ci k) (M.2 r k))).set k (.ref (A v)))) = q_ws A cA (q_up M r k (v : Int)) := by
    refine q_ws_set hr ?_
    rw [hsh]
    show Sum.inr (ci, _) = Sum.inr (ci, _)
    congr 2
    apply List.ext_getElem?
    intro j
    by_cases hj : j = k
    · subst hj
      rw [List.getElem?_set_self (by rw [List.length_map, List.length_range, ← hN]; exact hkN), List.getElem?_map, List.getElem?_range (by rw [← hN]; exact hkN)]
      simp only [Option.map_some, q_u1, if_true]
      rw [q_cfR hty (Int.natCast_nonneg _), Int.toNat_natCast]
    · rw [List.getElem?_set_ne (Ne.symm hj), List.getElem?_map, List.getElem?_map]
      by_cases hjl : j < q_nf ci
      · rw [List.getElem?_range hjl]
        simp [q_u1, hj]
      · rw [List.getElem?_eq_none (by rw [List.length_range]; omega)]
        rfl
  rw [hs] at hP1 hD1
  exact k0.1 p l e R s m args below meth c D cA A0 A H1 locs1 cells slots mc ms lsA Q hB hX hP1 hD1 hS1 hl hR hn hE
/-- a char of a text that a constructor lays out -/
theorem q_castK {a k : Nat} {i v : Int} (hsh : q_shp a = (2, n)) (ha : a < M.1) (hi : 0 ≤ q_w i ∧ q_w i < (n : Int)) (hk : (q_w i).toNat = k) (hv : vp_nar .char (Int32.ofInt v) = Int32.ofInt v) (hdg : decode cc pc = .ok (.castore, 1)) (kk : ∀ M1, M1 = q_up M a k v → q_EXg XP d y cc nL ret (pc + 1) ls st M1 (f M1)) : q_EXg XP d y cc nL ret pc ls (.inl v :: .inl i :: .inr (.inr a) :: st) M (q_let (q_up M a k v) f) := by
  have h := q_cast (XP := XP) (d := d) (y := y) (nL := nL) (ret := ret) (ls := ls) (st := st) (g := f) hsh ha hv hdg (fun M1 _ _ h1 => kk M1 (by rw [h1, hk]))
  rw [q_stoE hi, hk] at h
  exact h
theorem q_iastK {a k : Nat} {i v : Int} (hsh : q_shp a = (1, n)) (ha : a < M.1) (hi : 0 ≤ q_w i ∧ q_w i < (n : Int)) (hk : (q_w i).toNat = k) (hdg : decode cc pc = .ok (.iastore, 1)) (kk : ∀ M1, M1 = q_up M a k v → q_EXg XP d y cc nL ret (pc + 1) ls st M1 (f M1)) : q_EXg XP d y cc nL ret pc ls (.inl v :: .inl i :: .inr (.inr a) :: st) M (q_let (q_up M a k v) f) := by
  have h := q_iast (XP := XP) (d := d) (y := y) (nL := nL) (ret := ret) (ls := ls) (st := st) (g := f) hsh ha hdg (fun M1 _ _ h1 => kk M1 (by rw [h1, hk]))
  rw [q_stoE hi, hk] at h
  exact h
/-- a constructor's call: the callee makes cells -/
theorem q_callA {M2 : q_Mem} (hX : q_XM XP) (hls : q_rok M.1 (ls.map (fun q => q.2)) = true) (hst : q_rok M.1 st = true) (hM : M.1 < 166) (h2 : q_EX d y2 cc2 nL2 none 0 (q_args 0 As) [] M (some (0, M2))) (hy : plainFor y2 = true) (hnl : q_words2 As ≤ nL2)
    (hrun : ∀ (p : Program) (l : Launch) (e : Env) (R : Room) (s : State) (m : MethodId) (args : Array Value) (below : List Frame) (meth : Method) (c : Code) (D : va_G) (cA : Nat → ClassId) (A0 : Nat → Prop) (A : Nat → Nat) (H : Heap) (locs : List Loc) (cells slots mc2 ms2 : Nat) (lsA : Array Slot) (Qc : Array Value → State → Outcome → State → Prop), q_Base y cc nL ret p s m args meth c D cA A0 A → va_P D q_cls (q_ws A cA M) H → lsA.size = nL → d + 1 ≤ R.frames → 64 * (d + 1) ≤ R.locals → cells + mc2 ≤ R.cells → slots + ms2 ≤ R.slots →
      Met l y2 (.code y2 cc2 nL2 none :: q_gT) (q_rm d mc2 ms2) (va_Pc (As.map (q_c A)) (q_Pre D cA A M H.size)) Qc mc2 ms2 (va_A (q_ws A cA M) H.size) → FrameBlind (va_Pc (As.map (q_c A)) (q_Pre D cA A M H.size)) → (∀ U : State, U.heap = H → s.WarmedH U.vm → va_Pc (As.map (q_c A)) (q_Pre D cA A M H.size) (As.map (q_c A)).toArray U) →
      va_Run p l e R s m args below meth c H locs cells slots mc2 ms2 (F0 m pc lsA (st0.map (q_c A))) (st.map (q_c A)) (Qc (As.map (q_c A)).toArray) (va_A (q_ws A cA M) H.size))
    (kk : ∀ M3, M3 = M2 → (M3.1 < 166 → q_RV M → q_RV M3) → q_EXg XP (d + 1) y cc nL ret (pc + 3) ls st M3 (f M3)) : q_EXg XP (d + 1) y cc nL ret pc ls st0 M (q_let M2 f) := by
  intro x M' ho
  obtain ⟨hE2, hO2, hL2, hR2⟩ := h2 0 M2 rfl
  have k0 := kk M2 rfl hR2 x M' ho
  have hle := k0.2.2.1
  refine ⟨?_, fun h => absurd h.1 (by omega), Nat.le_trans hL2 hle, fun h6 h => k0.2.2.2 h6 (hR2 (by omega) h)⟩
  intro p l e R s m args below meth c D cA A0 A H locs cells slots mc ms lsA Q hB hXP hP hD hS hl hR hn hE
  have hF := q_va_A hD hS hB.2.2.2.2.2.2.2.2.1
  have hMet := q_met l D cA A H.size hE2 hy hnl hL2
  have hmono : q_sz M2.1 ≤ q_sz M'.1 := q_sz_mono hle
  have hmono2 : q_sz M.1 ≤ q_sz M2.1 := q_sz_mono hL2
  refine q_after (hrun p l e R s m args below meth c D cA A0 A H locs cells slots _ _ lsA _ hB hP hl.1 hR.1 hR.2.1 (by omega) (by omega) hMet q_blind (fun U hU hW => ⟨rfl, by rw [hU], by rw [hU]; exact hP, hD.weaken (fun _ _ _ _ => trivial), q_Env_to hB.2.2.2.2.2.2.2.2.2 hS hF hU hW⟩)) hS hF ?_
  intro A' H1 locs1 hAg hP1 hD1 hS1
  obtain ⟨g1, g2, g3, g4, g5⟩ := hAg
  have hk := k0.1 p l e R s m args below meth c D cA A0 A' H1 locs1 (cells + (M2.1 - M.1)) (slots + (q_sz M2.1 - q_sz M.1)) mc ms lsA Q (q_Base_ag hB g3 g4) (hX s A _ A0 g5 hXP) hP1 hD1 hS1 (by rw [q_cl_ag g1 g3 g4 g5 hls]; exact hl) hR ⟨hle, by omega, by omega⟩ (fun A3 H' locs' lsA' pc' hAg3 hP' hD' hS' hr' => hE A3 H' locs' lsA' pc' ⟨fun i hi => by rw [hAg3.1 i (by omega)]; exact g1 i hi, fun h => by
      have e1 : M2.1 = M.1 := by omega
      have e2 : M'.1 = M2.1 := by omega
      rw [hAg3.2.1 e2, g2 e1], by rw [hAg3.2.2.1]; exact g3, by rw [hAg3.2.2.2.1]; exact g4, by rw [hAg3.2.2.2.2]; exact g5⟩ hP' hD' hS' hr')
  rw [q_map_ag g1 g3 g4 g5 hst] at hk
  exact hk
theorem q_callI {M2 : q_Mem} {r : Nat} (hX : q_XM XP) (hB2 : q_MB y2 cc2 nL2 none n) (hI : Cond.instanceMethod y2 ∈ q_gT) (hy1 : y2.name = "<init>") (hl2 : Cond.methodLink y.cls idx y2 ∈ q_gT) (hls : q_rok M.1 (ls.map (fun q => q.2)) = true) (hst : q_rok M.1 st = true) (hM : M.1 < 166) (hn : As.length = n) (hst8 : q_words2 st ≤ 8) (hs : st0 = As.reverse ++ .inr (.inr r) :: st) (hnl : q_words2 (.inr (.inr r) :: As) ≤ nL2) (hdg : decode cc pc = .ok (.invokespecial idx, 3)) (h2 : q_EX d y2 cc2 nL2 none 0 (q_args 0 (.inr (.inr r) :: As)) [] M (some (0, M2)))
    (kk : ∀ M3, M3 = M2 → (M3.1 < 166 → q_RV M → q_RV M3) → q_EXg XP (d + 1) y cc nL ret (pc + 3) ls st M3 (f M3)) : q_EXg XP (d + 1) y cc nL ret pc ls st0 M (q_let M2 f) := by
  refine q_callA hX hls hst hM h2 hB2.2.2.2.1 hnl ?_ kk
  intro p l e R s m args below meth c D cA A0 A H locs cells slots mc2 ms2 lsA Qc hB hP hls hfr hlo hce hsl hMet hbl hpre
  have hts := hB.2.2.2.2.2.2.2.1
  subst hs
  refine va_runI (b := A r) (As := As.map (q_c A)) (rest := st.map (q_c A)) (index := idx) (bytes := cc2) (maxL := nL2) (n := n) ⟨hB.1, hB.2.1, hB.2.2.2.2.1, hB.2.2.2.2.2.1, hts⟩ hMet ?_ ⟨hbl, hpre⟩ rfl (by rw [List.length_map]; exact hn) hls ?_ ?_ hdg ⟨hce, hsl⟩
  · exact ⟨callB_of n hts (q_good hB2.1) rfl rfl rfl (hts _ hB2.2.1) (hts _ hl2) hB2.2.2.1 ⟨hfr, by have := hB2.2.2.2.2; show 8 + (nL2 + 11) + 64 * d ≤ R.locals; omega⟩, hy1, hts _ hI⟩
  · show List.map (q_c A) (As.reverse ++ Sum.inr (Sum.inr r) :: st) = _
    rw [List.map_append, List.map_reverse]; rfl
  · show 2 * 0 + _ ≤ 8
    rw [q_sumcat]; omega
theorem q_callIN {M2 : q_Mem} {r : Nat} {host : String} (hX : q_XM XP) (hB2 : q_MB y2 cc2 nL2 none n) (hI : Cond.instanceMethod y2 ∈ q_gT) (hy1 : y2.name = "<init>") (hl2 : Cond.methodLinkNest y.cls idx y2 host ∈ q_nest) (hls : q_rok M.1 (ls.map (fun q => q.2)) = true) (hst : q_rok M.1 st = true) (hM : M.1 < 166) (hn : As.length = n) (hst8 : q_words2 st ≤ 8) (hs : st0 = As.reverse ++ .inr (.inr r) :: st) (hnl : q_words2 (.inr (.inr r) :: As) ≤ nL2) (hdg : decode cc pc = .ok (.invokespecial idx, 3)) (h2 : q_EX d y2 cc2 nL2 none 0 (q_args 0 (.inr (.inr r) :: As)) [] M (some (0, M2)))
    (kk : ∀ M3, M3 = M2 → (M3.1 < 166 → q_RV M → q_RV M3) → q_EXg XP (d + 1) y cc nL ret (pc + 3) ls st M3 (f M3)) : q_EXg XP (d + 1) y cc nL ret pc ls st0 M (q_let M2 f) := by
  refine q_callA hX hls hst hM h2 hB2.2.2.2.1 hnl ?_ kk
  intro p l e R s m args below meth c D cA A0 A H locs cells slots mc2 ms2 lsA Qc hB hP hls hfr hlo hce hsl hMet hbl hpre
  have hts := hB.2.2.2.2.2.2.2.1
  subst hs
  refine va_runIN (b := A r) (host := host) (As := As.map (q_c A)) (rest := st.map (q_c A)) (index := idx) (bytes := cc2) (maxL := nL2) (n := n) ⟨hB.1, hB.2.1, hB.2.2.2.2.1, hB.2.2.2.2.2.1, hts⟩ hMet ?_ ⟨hbl, hpre⟩ rfl (by rw [List.length_map]; exact hn) hls ?_ ?_ hdg ⟨hce, hsl⟩
  · exact ⟨va_cnB n hts (q_good hB2.1) rfl rfl rfl (hB.2.2.2.2.2.2.2.2.2.2.1 _ hl2) (hts _ hB2.2.1) hB2.2.2.1 ⟨hfr, by have := hB2.2.2.2.2; show 8 + (nL2 + 11) + 64 * d ≤ R.locals; omega⟩, hy1, hts _ hI⟩
  · show List.map (q_c A) (As.reverse ++ Sum.inr (Sum.inr r) :: st) = _
    rw [List.map_append, List.map_reverse]; rfl
  · show 2 * 0 + _ ≤ 8
    rw [q_sumcat]; omega
theorem q_getK {r k ci v : Nat} {fin : Bool} (hF : q_FL y.cls idx ci k fin) (hsh : q_shp r = (0, ci)) (hr : r < M.1) (hty : q_isR (q_ty ci k) = true) (hg : M.2 r k = (v : Int)) (hdg : decode cc pc = .ok (.getfield idx, 3)) (kk : q_EXg XP d y cc nL ret (pc + 3) ls (.inr (.inr v) :: st) M o) : q_EXg XP d y cc nL ret pc ls (.inr (.inr r) :: st) M o := by
  refine q_getr hF hsh hr hty (by rw [hg]; exact Int.natCast_nonneg _) hdg ?_
  rw [hg, Int.toNat_natCast]
  exact kk
theorem q_Ok_fx {M : q_Mem} {r k v : Nat} (hm : (r, k, v) ∈ q_fx) (hO : q_Ok M) : q_Ok (q_up M r k (v : Int)) := by
  have h0 : M.2 r k = (v : Int) := hO.2.1 _ hm
  have h1 : q_up M r k (v : Int) = M := by
    unfold q_up
    have : q_u1 M.2 r (q_u1 (M.2 r) k (v : Int)) = M.2 := by
      funext b j
      by_cases hb : b = r
      · subst hb
        by_cases hj : j = k
        · subst hj; simp [q_u1, h0]
        · simp [q_u1, hj]
      · simp [q_u1, hb]
    rw [this]
  rw [h1]; exact hO
end QL
