/-! ===== the base: a memory of whole numbers, the world that it stands for, and the judgement q_EX: from here the method comes to its end as the function says ===== -/
abbrev q_V : Type := Int ⊕ (Int ⊕ Nat)
def q_u1 {α : Type} (f : Nat → α) (k : Nat) (v : α) : Nat → α := fun j => if j = k then v else f j
def q_up (M : q_Mem) (a k : Nat) (v : Int) : q_Mem := (M.1, q_u1 M.2 a (q_u1 (M.2 a) k v))
def q_w (a : Int) : Int := (Int32.ofInt a).toInt
def q_wl (a : Int) : Int := (Int64.ofInt a).toInt
def q_c (A : Nat → Nat) : q_V → Value
  | .inl a => .int (Int32.ofInt a)
  | .inr (.inl a) => .long (Int64.ofInt a)
  | .inr (.inr n) => .ref (A n)
def q_cl (A : Nat → Nat) (ls : List (Nat × q_V)) : List (Nat × Value) := ls.map (fun q => (q.1, q_c A q.2))
def q_cf (A : Nat → Nat) (ty : FieldType) (v : Int) : Value := match ty with
  | .long => .long (Int64.ofInt v)
  | .object _ => if v < 0 then .null else .ref (A v.toNat)
  | .array _ => if v < 0 then .null else .ref (A v.toNat)
  | _ => .int (Int32.ofInt v)
def q_cellE (A : Nat → Nat) (cA : Nat → ClassId) (sh : Nat × Nat) (f : Nat → Int) : va_E := match sh.1 with
  | 0 => .inr (sh.2, (List.range (q_nf sh.2)).map (fun k => q_cf A (q_ty sh.2 k) (f k)))
  | 1 => .inl (cA 0, sh.2, .inl (fun j => Int32.ofInt (f j)))
  | 2 => .inl (cA 1, sh.2, .inl (fun j => Int32.ofInt (f j)))
  | 3 => .inl (cA 2, sh.2, .inl (fun j => Int32.ofInt (f j)))
  | 4 => .inl (cA 3, sh.2, .inr (.inl (fun j => Int64.ofInt (f j))))
  | _ => .inl (cA 4, sh.2, .inr (.inr (.inr (.inr (fun j => if f j < 0 then none else some (A (f j).toNat))))))
def q_ws (A : Nat → Nat) (cA : Nat → ClassId) (M : q_Mem) : va_W := (List.range M.1).map (fun i => (A i, q_cellE A cA (q_shp i) (M.2 i)))
theorem q_ws_get {A : Nat → Nat} {cA : Nat → ClassId} {M : q_Mem} {i : Nat} (h : i < M.1) : (q_ws A cA M)[i]? = some (A i, q_cellE A cA (q_shp i) (M.2 i)) := by
  simp [q_ws, h]
theorem q_ws_set {A : Nat → Nat} {cA : Nat → ClassId} {M : q_Mem} {i k : Nat} {v : Int} {e : va_E} (h : i < M.1) (he : e = q_cellE A cA (q_shp i) (q_u1 (M.2 i) k v)) : (q_ws A cA M).set i (A i, e) = q_ws A cA (q_up M i k v) := by
  subst he
  apply List.ext_getElem?
  intro j
  by_cases hj : j = i
  · subst hj
    rw [List.getElem?_set_self (by simp [q_ws, h]), q_ws_get (by exact h)]
    simp [q_up, q_u1]
  · rw [List.getElem?_set_ne (Ne.symm hj)]
    by_cases hl : j < M.1
    · rw [q_ws_get hl, q_ws_get (by exact hl)]
      simp [q_up, q_u1, hj]
    · simp [q_ws, q_up, hl]
def q_size (sh : Nat × Nat) : Nat := match sh.1 with
  | 0 => q_nf sh.2
  | _ => sh.2
def q_sz : Nat → Nat
  | 0 => 0
  | n + 1 => q_sz n + q_size (q_shp n)
theorem q_sz_mono {a : Nat} : ∀ {b : Nat}, a ≤ b → q_sz a ≤ q_sz b
  | 0, h => by rw [Nat.le_zero.mp h]; exact Nat.le_refl _
  | b + 1, h => by
    rcases Nat.lt_or_ge a (b + 1) with g | g
    · exact Nat.le_trans (q_sz_mono (Nat.le_of_lt_succ g)) (Nat.le_add_right _ _)
    · rw [Nat.le_antisymm h g]; exact Nat.le_refl _
def q_tys (cA : Nat → ClassId) : List (ClassId × FieldType) := [(cA 0, .int), (cA 1, .char), (cA 2, .boolean), (cA 3, .long), (cA 4, .array .int)]
def va_AOA (ty : FieldType) (U : State) : Prop := (Cond.arrayOver (.array ty)).before #[] U = true
theorem va_AOA.use {ty : FieldType} {A : Array Value} {U : State} (h : va_AOA ty U) : (Cond.arrayOver (.array ty)).before A U = true := h
theorem va_AOA.moved {ty : FieldType} {u U : State} (hvm : u.vm.Alike U.vm) (h : va_AOA ty u) : va_AOA ty U := by
  unfold va_AOA at h ⊢
  simp only [Cond.before, Cond.holds, Cond.value] at h ⊢
  rw [hvm.findClass]
  cases hf : u.vm.findClass (FieldType.array ty).toString with
  | none => rw [hf] at h; simp at h
  | some comp =>
    rw [hf] at h
    simp only [Option.bind_some] at h ⊢
    rw [hvm.findIdx_congr _ (fun _ _ _ _ => rfl)]
    generalize hF : (u.vm.classes.findIdx? fun (x : Class) => match x.kind with | .array component _ => component == comp | _ => false) = fi at h ⊢
    cases fi with
    | none => simp at h
    | some c =>
      simp only [Option.bind_some] at h ⊢
      cases hk : u.vm.classes[c]? with
      | none => rw [hk] at h; simp at h
      | some k =>
        obtain ⟨k', hk', ek⟩ := hvm.2.2 _ _ hk
        rw [hk] at h
        rw [hk']
        have e1 : k'.kind = k.kind := by rw [ek]
        simp only [Option.map_some, e1] at h ⊢
        rw [hvm.findClass]
        exact h
/-- the one text that the class reads, its bytes, and what the library's own methods ask of statics: the cells 1000 and 1001 stand for the text and its bytes -/
def q_Str (A : Nat → Nat) (A1 : Nat → Prop) (U : State) (H : Heap) : Prop := vk_R RX8 q_wix q_words (A 1000) U ∧ vk_S 1 [186] [q_wbytes] (fun _ => A 1000) (fun _ => A 1001) A1 U H ∧ va_Z "java/lang/String" "COMPACT_STRINGS" "Z" (.int 1) A1 U H ∧ va_Zq "jdk/internal/util/Preconditions" "SIOOBE_FORMATTER" "Ljava/util/function/BiFunction;" A1 U H ∧ va_AOA .int U
def q_Env (D : va_G) (cA : Nat → ClassId) (A : Nat → Nat) (A1 : Nat → Prop) (U : State) (H : Heap) : Prop := va_K D q_cls (q_tys cA) U ∧ (∀ w ∈ q_nest, va_Nw w U) ∧ q_Str A A1 U H
def q_Base (y : MethodName) (cc : ByteArray) (nL : Nat) (ret : Option FieldType) (p : Program) (s : State) (m : MethodId) (args : Array Value) (meth : Method) (c : Code) (D : va_G) (cA : Nat → ClassId) (A0 : Nat → Prop) (A : Nat → Nat) : Prop :=
  p.tables.exec = Jvm.exec ∧ c.code = cc ∧ meth.sig.returnType = ret ∧ meth.locks = false ∧ c.maxLocals = nL ∧ s.vm.findClass y.cls = some m.cls ∧ meth.name = y.name ∧ (∀ w ∈ q_gT, w.before args s = true) ∧ (∀ q, s.heap.size ≤ q → A0 q) ∧ q_Env D cA A A0 s s.heap
def q_rv (ret : Option FieldType) (x : Int) : List q_V := match ret with
  | none => []
  | some .long => [.inr (.inl x)]
  | some _ => [.inl x]
def q_isret (cc : ByteArray) (ret : Option FieldType) (pc : Nat) (x : Int) : Prop := match ret with
  | none => decode cc pc = .ok (.return_, 1)
  | some .long => decode cc pc = .ok (.lreturn, 1)
  | some .boolean => decode cc pc = .ok (.ireturn, 1) ∧ (x = 0 ∨ x = 1)
  | some .char => decode cc pc = .ok (.ireturn, 1) ∧ 0 ≤ x ∧ x < 65536
  | some .int => decode cc pc = .ok (.ireturn, 1)
  | some _ => False
def q_Ag (n n' : Nat) (A A' : Nat → Nat) : Prop := (∀ i, i < n → A' i = A i) ∧ (n' = n → A' = A) ∧ A' 1000 = A 1000 ∧ A' 1001 = A 1001 ∧ A' 1002 = A 1002
def q_Exg (XP : State → (Nat → Nat) → (Nat → Prop) → Prop) (d : Nat) (y : MethodName) (cc : ByteArray) (nL : Nat) (ret : Option FieldType) (pc : Nat) (ls : List (Nat × q_V)) (st : List q_V) (M : q_Mem) (x : Int) (M' : q_Mem) : Prop :=
  ∀ (p : Program) (l : Launch) (e : Env) (R : Room) (s : State) (m : MethodId) (args : Array Value) (below : List Frame) (meth : Method) (c : Code) (D : va_G) (cA : Nat → ClassId) (A0 : Nat → Prop) (A : Nat → Nat) (H : Heap) (locs : List Loc) (cells slots mc ms : Nat) (lsA : Array Slot) (Q : State → Prop),
    q_Base y cc nL ret p s m args meth c D cA A0 A → XP s A A0 → va_P D q_cls (q_ws A cA M) H → va_D A0 (q_ws A cA M) → va_S A0 s.heap H locs → lv_has lsA nL (q_cl A ls) →
    (d ≤ R.frames ∧ 64 * d ≤ R.locals ∧ mc ≤ R.cells ∧ ms ≤ R.slots) → (M.1 ≤ M'.1 ∧ cells + (M'.1 - M.1) ≤ mc ∧ slots + (q_sz M'.1 - q_sz M.1) ≤ ms) →
    (∀ (A' : Nat → Nat) (H' : Heap) (locs' : List Loc) (lsA' : Array Slot) (pc' : Nat), q_Ag M.1 M'.1 A A' → va_P D q_cls (q_ws A' cA M') H' → va_D A0 (q_ws A' cA M') → va_S A0 s.heap H' locs' → q_isret cc ret pc' x →
      W p l e R s m args below meth c H' locs' mc ms Q (F0 m pc' lsA' ((q_rv ret x).map (q_c A')))) →
    W p l e R s m args below meth c H locs cells slots Q (F0 m pc lsA (st.map (q_c A)))
theorem q_up_ne {M : q_Mem} {a k b j : Nat} {v : Int} (h : ¬ (b = a ∧ j = k)) : (q_up M a k v).2 b j = M.2 b j := by
  by_cases hb : b = a
  · subst hb
    have hj : j ≠ k := fun q => h ⟨rfl, q⟩
    simp [q_up, q_u1, hj]
  · simp [q_up, q_u1, hb]
theorem q_up_eq {M : q_Mem} {a k : Nat} {v : Int} : (q_up M a k v).2 a k = v := by simp [q_up, q_u1]
def q_isR (ty : FieldType) : Bool := match ty with
  | .object _ => true
  | .array _ => true
  | _ => false
/-- references in the memory point at cells that are there -/
def q_RV (M : q_Mem) : Prop := ∀ i, i < M.1 → (∀ ci, q_shp i = (0, ci) → ∀ k, q_isR (q_ty ci k) = true → M.2 i k < (M.1 : Int)) ∧ (∀ n, q_shp i = (5, n) → ∀ k, M.2 i k < (M.1 : Int))
theorem q_RV_i {M : q_Mem} (h : q_RV M) {r k ci : Nat} {v : Int} (hsh : q_shp r = (0, ci)) (hf : q_isR (q_ty ci k) = false) : q_RV (q_up M r k v) := by
  intro i hi
  refine ⟨fun c2 h2 j hj => ?_, fun n h2 j => ?_⟩
  · rw [q_up_ne]
    · exact (h i hi).1 c2 h2 j hj
    · rintro ⟨rfl, rfl⟩
      rw [hsh] at h2
      cases h2
      rw [hf] at hj; cases hj
  · rw [q_up_ne]
    · exact (h i hi).2 n h2 j
    · rintro ⟨rfl, rfl⟩
      rw [hsh] at h2; cases h2
theorem q_RV_r {M : q_Mem} (h : q_RV M) {r k v : Nat} (hv : v < M.1) : q_RV (q_up M r k (v : Int)) := by
  have key : ∀ i j, M.2 i j < (M.1 : Int) → (q_up M r k (v : Int)).2 i j < ((q_up M r k (v : Int)).1 : Int) := by
    intro i j hij
    by_cases hh : i = r ∧ j = k
    · obtain ⟨rfl, rfl⟩ := hh
      rw [q_up_eq]
      show (v : Int) < (M.1 : Int)
      omega
    · rw [q_up_ne hh]; exact hij
  intro i hi
  exact ⟨fun c2 h2 j hj => key i j ((h i hi).1 c2 h2 j hj), fun n h2 j => key i j ((h i hi).2 n h2 j)⟩
theorem q_RV_a {M : q_Mem} (h : q_RV M) {a k t n : Nat} {v : Int} (hsh : q_shp a = (t + 1, n)) (ht : t < 4) : q_RV (q_up M a k v) := by
  intro i hi
  refine ⟨fun c2 h2 j hj => ?_, fun n2 h2 j => ?_⟩
  · rw [q_up_ne]
    · exact (h i hi).1 c2 h2 j hj
    · rintro ⟨rfl, rfl⟩
      rw [hsh] at h2; cases h2
  · rw [q_up_ne]
    · exact (h i hi).2 n2 h2 j
    · rintro ⟨rfl, rfl⟩
      rw [hsh] at h2
      have : t + 1 = 5 := congrArg Prod.fst h2
      omega
/-- from this frame the method comes to its end, and its answer and its memory are o's, if o is some -/
def q_EXg (XP : State → (Nat → Nat) → (Nat → Prop) → Prop) (d : Nat) (y : MethodName) (cc : ByteArray) (nL : Nat) (ret : Option FieldType) (pc : Nat) (ls : List (Nat × q_V)) (st : List q_V) (M : q_Mem) (o : Option (Int × q_Mem)) : Prop := ∀ x M', o = some (x, M') → q_Exg XP d y cc nL ret pc ls st M x M' ∧ (q_Ok M → q_Ok M') ∧ M.1 ≤ M'.1 ∧ (M'.1 < 166 → q_RV M → q_RV M')
abbrev q_T : State → (Nat → Nat) → (Nat → Prop) → Prop := fun _ _ _ => True
abbrev q_Ex := q_Exg q_T
abbrev q_EX := q_EXg q_T
section QR
variable {XP : State → (Nat → Nat) → (Nat → Prop) → Prop} {d : Nat} {y : MethodName} {cc : ByteArray} {nL : Nat} {ret : Option FieldType} {pc pc' : Nat} {ls ls' : List (Nat × q_V)} {st st' : List q_V} {M : q_Mem} {o o1 o2 : Option (Int × q_Mem)}
theorem q_lift (h : ∀ (p : Program) (l : Launch) (e : Env) (R : Room) (s : State) (m : MethodId) (args : Array Value) (below : List Frame) (meth : Method) (c : Code) (D : va_G) (cA : Nat → ClassId) (A0 : Nat → Prop) (A : Nat → Nat) (H : Heap) (locs : List Loc) (cells slots : Nat) (lsA : Array Slot) (Q : State → Prop), q_Base y cc nL ret p s m args meth c D cA A0 A → lv_has lsA nL (q_cl A ls) →
      (∀ lsA' : Array Slot, lv_has lsA' nL (q_cl A ls') → W p l e R s m args below meth c H locs cells slots Q (F0 m pc' lsA' (st'.map (q_c A)))) → W p l e R s m args below meth c H locs cells slots Q (F0 m pc lsA (st.map (q_c A))))
    (kk : q_EXg XP d y cc nL ret pc' ls' st' M o) : q_EXg XP d y cc nL ret pc ls st M o := by
  intro x M' ho
  refine ⟨?_, (kk x M' ho).2⟩
  intro p l e R s m args below meth c D cA A0 A H locs cells slots mc ms lsA Q hB hX hP hD hS hl hR hn hE
  exact h p l e R s m args below meth c D cA A0 A H locs cells slots lsA Q hB hl (fun lsA' hl' => (kk x M' ho).1 p l e R s m args below meth c D cA A0 A H locs cells slots mc ms lsA' Q hB hX hP hD hS hl' hR hn hE)
theorem q_lift_if {cnd : Prop} [Decidable cnd] {pc1 pc2 : Nat} {st1 st2 : List q_V} (h : ∀ (p : Program) (l : Launch) (e : Env) (R : Room) (s : State) (m : MethodId) (args : Array Value) (below : List Frame) (meth : Method) (c : Code) (D : va_G) (cA : Nat → ClassId) (A0 : Nat → Prop) (A : Nat → Nat) (H : Heap) (locs : List Loc) (cells slots : Nat) (lsA : Array Slot) (Q : State → Prop), q_Base y cc nL ret p s m args meth c D cA A0 A →
      (cnd → W p l e R s m args below meth c H locs cells slots Q (F0 m pc1 lsA (st1.map (q_c A)))) → (¬ cnd → W p l e R s m args below meth c H locs cells slots Q (F0 m pc2 lsA (st2.map (q_c A)))) → W p l e R s m args below meth c H locs cells slots Q (F0 m pc lsA (st.map (q_c A))))
    (k1 : q_EXg XP d y cc nL ret pc1 ls st1 M o1) (k2 : q_EXg XP d y cc nL ret pc2 ls st2 M o2) : q_EXg XP d y cc nL ret pc ls st M (if cnd then o1 else o2) := by
  intro x M' ho
  refine ⟨?_, ?_⟩
  rotate_left
  · by_cases hc : cnd
    · rw [if_pos hc] at ho; exact (k1 x M' ho).2
    · rw [if_neg hc] at ho; exact (k2 x M' ho).2
  intro p l e R s m args below meth c D cA A0 A H locs cells slots mc ms lsA Q hB hX hP hD hS hl hR hn hE
  refine h p l e R s m args below meth c D cA A0 A H locs cells slots lsA Q hB (fun hc => ?_) (fun hc => ?_)
  · rw [if_pos hc] at ho
    exact (k1 x M' ho).1 p l e R s m args below meth c D cA A0 A H locs cells slots mc ms lsA Q hB hX hP hD hS hl hR hn hE
  · rw [if_neg hc] at ho
    exact (k2 x M' ho).1 p l e R s m args below meth c D cA A0 A H locs cells slots mc ms lsA Q hB hX hP hD hS hl hR hn hE
theorem q_none : q_EXg XP d y cc nL ret pc ls st M none := fun _ _ h => by cases h
theorem q_at {A : Nat → Nat} {lsA : Array Slot} (h : lv_has lsA nL (q_cl A ls)) {k i : Nat} {v : q_V} (hk : ls[k]? = some (i, v)) : lsA[i]? = some (.val (q_c A v)) :=
  lv_at h k (by rw [q_cl, List.getElem?_map, hk]; rfl)
/-! constants -/
theorem q_iconst {n : Int} (hdg : decode cc pc = .ok (.iconst n, 1)) (kk : q_EXg XP d y cc nL ret (pc + 1) ls (.inl n :: st) M o) : q_EXg XP d y cc nL ret pc ls st M o :=
  q_lift (fun _ _ _ _ _ _ _ _ _ _ _ _ _ _ _ _ _ _ _ _ hB hl k => lv_iconst hB.1 hB.2.1 hdg rfl (k _ hl)) kk
theorem q_bipush {n : Int} (hdg : decode cc pc = .ok (.bipush n, 2)) (hv : (Int8.ofInt n).toInt32 = Int32.ofInt n) (kk : q_EXg XP d y cc nL ret (pc + 2) ls (.inl n :: st) M o) : q_EXg XP d y cc nL ret pc ls st M o :=
  q_lift (fun _ _ _ _ _ _ _ _ _ _ _ _ _ _ _ _ _ _ _ _ hB hl k => lv_bipush hB.1 hB.2.1 hdg hv (k _ hl)) kk
theorem q_sipush {n : Int} (hdg : decode cc pc = .ok (.sipush n, 3)) (hv : (Int16.ofInt n).toInt32 = Int32.ofInt n) (kk : q_EXg XP d y cc nL ret (pc + 3) ls (.inl n :: st) M o) : q_EXg XP d y cc nL ret pc ls st M o :=
  q_lift (fun _ _ _ _ _ _ _ _ _ _ _ _ _ _ _ _ _ _ _ _ hB hl k => lv_sipush hB.1 hB.2.1 hdg hv (k _ hl)) kk
theorem q_lconst {n : Fin 2} {v : Int} (hdg : decode cc pc = .ok (.lconst n, 1)) (hv : Int64.ofNat (n : Nat) = Int64.ofInt v) (kk : q_EXg XP d y cc nL ret (pc + 1) ls (.inr (.inl v) :: st) M o) : q_EXg XP d y cc nL ret pc ls st M o :=
  q_lift (fun _ _ _ _ _ _ _ _ _ _ _ _ _ _ _ _ _ _ _ _ hB hl k => lv_lconst hB.1 hB.2.1 hdg hv (k _ hl)) kk
theorem q_ldc {i : Nat} {v : Int32} {n : Int} (hdg : decode cc pc = .ok (.ldc i, 2)) (hw : Cond.constant y.cls i v ∈ q_gT) (hv : v = Int32.ofInt n) (kk : q_EXg XP d y cc nL ret (pc + 2) ls (.inl n :: st) M o) : q_EXg XP d y cc nL ret pc ls st M o :=
  q_lift (fun _ _ _ _ _ _ _ _ _ _ _ _ _ _ _ _ _ _ _ _ hB hl k => lv_ldc (v := v) hB.1 hB.2.1 hB.2.2.2.2.2.1 (hB.2.2.2.2.2.2.2.1 _ hw) hdg (by have := k _ hl; rw [hv]; exact this)) kk
theorem q_ldcw {i : Nat} {v : Int32} {n : Int} (hdg : decode cc pc = .ok (.ldc_w i, 3)) (hw : Cond.constant y.cls i v ∈ q_gT) (hv : v = Int32.ofInt n) (kk : q_EXg XP d y cc nL ret (pc + 3) ls (.inl n :: st) M o) : q_EXg XP d y cc nL ret pc ls st M o :=
  q_lift (fun _ _ _ _ _ _ _ _ _ _ _ _ _ _ _ _ _ _ _ _ hB hl k => lv_ldcw (v := v) hB.1 hB.2.1 hB.2.2.2.2.2.1 (hB.2.2.2.2.2.2.2.1 _ hw) hdg (by have := k _ hl; rw [hv]; exact this)) kk
theorem q_ldc2 {i : Nat} {v : Int64} {n : Int} (hdg : decode cc pc = .ok (.ldc2_w i, 3)) (hw : Cond.constantLong y.cls i v ∈ q_gT) (hv : v = Int64.ofInt n) (kk : q_EXg XP d y cc nL ret (pc + 3) ls (.inr (.inl n) :: st) M o) : q_EXg XP d y cc nL ret pc ls st M o :=
  q_lift (fun _ _ _ _ _ _ _ _ _ _ _ _ _ _ _ _ _ _ _ _ hB hl k => lv_ldc2 (v := v) hB.1 hB.2.1 hB.2.2.2.2.2.1 (hB.2.2.2.2.2.2.2.1 _ hw) hdg (by have := k _ hl; rw [hv]; exact this)) kk
/-! locals -/
theorem q_iload_n {n : Fin 4} {i : Nat} {a : Int} (k : Nat) (hdg : decode cc pc = .ok (.iload_n n, 1)) (hi : (n : Nat) = i) (hk : ls[k]? = some (i, .inl a)) (kk : q_EXg XP d y cc nL ret (pc + 1) ls (.inl a :: st) M o) : q_EXg XP d y cc nL ret pc ls st M o :=
  q_lift (fun _ _ _ _ _ _ _ _ _ _ _ _ _ _ _ _ _ _ _ _ hB hl k => lv_iload_n hB.1 hB.2.1 hdg hi (q_at hl hk) (k _ hl)) kk
theorem q_iload {i : Nat} {a : Int} (k : Nat) (hdg : decode cc pc = .ok (.iload i, 2)) (hk : ls[k]? = some (i, .inl a)) (kk : q_EXg XP d y cc nL ret (pc + 2) ls (.inl a :: st) M o) : q_EXg XP d y cc nL ret pc ls st M o :=
  q_lift (fun _ _ _ _ _ _ _ _ _ _ _ _ _ _ _ _ _ _ _ _ hB hl k => lv_iload hB.1 hB.2.1 hdg (q_at hl hk) (k _ hl)) kk
theorem q_lload_n {n : Fin 4} {i : Nat} {a : Int} (k : Nat) (hdg : decode cc pc = .ok (.lload_n n, 1)) (hi : (n : Nat) = i) (hk : ls[k]? = some (i, .inr (.inl a))) (kk : q_EXg XP d y cc nL ret (pc + 1) ls (.inr (.inl a) :: st) M o) : q_EXg XP d y cc nL ret pc ls st M o :=
  q_lift (fun _ _ _ _ _ _ _ _ _ _ _ _ _ _ _ _ _ _ _ _ hB hl k => lv_lload_n hB.1 hB.2.1 hdg hi (q_at hl hk) (k _ hl)) kk
theorem q_lload {i : Nat} {a : Int} (k : Nat) (hdg : decode cc pc = .ok (.lload i, 2)) (hk : ls[k]? = some (i, .inr (.inl a))) (kk : q_EXg XP d y cc nL ret (pc + 2) ls (.inr (.inl a) :: st) M o) : q_EXg XP d y cc nL ret pc ls st M o :=
  q_lift (fun _ _ _ _ _ _ _ _ _ _ _ _ _ _ _ _ _ _ _ _ hB hl k => lv_lload hB.1 hB.2.1 hdg (q_at hl hk) (k _ hl)) kk
theorem q_aload_n {n : Fin 4} {i a : Nat} (k : Nat) (hdg : decode cc pc = .ok (.aload_n n, 1)) (hi : (n : Nat) = i) (hk : ls[k]? = some (i, .inr (.inr a))) (kk : q_EXg XP d y cc nL ret (pc + 1) ls (.inr (.inr a) :: st) M o) : q_EXg XP d y cc nL ret pc ls st M o :=
  q_lift (fun _ _ _ _ _ _ _ _ _ _ _ _ _ _ _ _ _ _ _ _ hB hl k => lv_aload_n hB.1 hB.2.1 hdg hi (q_at hl hk) (k _ hl)) kk
theorem q_filt {A : Nat → Nat} {i : Nat} (ls : List (Nat × q_V)) : (q_cl A ls).filter (fun q => !(q.1 == i) && !(q.1 + 1 == i && q.2.category == 2)) = q_cl A (ls.filter (fun q => !(q.1 == i) && !(q.1 + 1 == i && (q_c (fun _ => 0) q.2).category == 2))) := by
  have hc : ∀ v : q_V, (q_c A v).category = (q_c (fun _ => 0) v).category := by
    intro v
    rcases v with a | a | a <;> rfl
  induction ls with
  | nil => rfl
  | cons q ls ih =>
    simp only [q_cl, List.map_cons, List.filter_cons, hc] at ih ⊢
    rw [ih]
    split <;> simp
theorem q_filt2 {A : Nat → Nat} {i : Nat} (ls : List (Nat × q_V)) : (q_cl A ls).filter (fun q => !(q.1 == i) && (!(q.1 == i + 1) && !(q.1 + 1 == i && q.2.category == 2))) = q_cl A (ls.filter (fun q => !(q.1 == i) && (!(q.1 == i + 1) && !(q.1 + 1 == i && (q_c (fun _ => 0) q.2).category == 2)))) := by
  have hc : ∀ v : q_V, (q_c A v).category = (q_c (fun _ => 0) v).category := by
    intro v
    rcases v with a | a | a <;> rfl
  induction ls with
  | nil => rfl
  | cons q ls ih =>
    simp only [q_cl, List.map_cons, List.filter_cons, hc] at ih ⊢
    rw [ih]
    split <;> simp
/-- the list of locals behind a store of one word, of two words -/
def q_st (ls : List (Nat × q_V)) (i : Nat) (v : q_V) : List (Nat × q_V) := (i, v) :: ls.filter (fun q => !(q.1 == i) && !(q.1 + 1 == i && (q_c (fun _ => 0) q.2).category == 2))
def q_st2 (ls : List (Nat × q_V)) (i : Nat) (v : q_V) : List (Nat × q_V) := (i, v) :: ls.filter (fun q => !(q.1 == i) && (!(q.1 == i + 1) && !(q.1 + 1 == i && (q_c (fun _ => 0) q.2).category == 2)))
theorem q_istore_n {n : Fin 4} {i : Nat} {a : Int} (hdg : decode cc pc = .ok (.istore_n n, 1)) (hi : (n : Nat) = i) (hn : i < nL) (hl' : q_st ls i (.inl a) = ls') (kk : q_EXg XP d y cc nL ret (pc + 1) ls' st M o) : q_EXg XP d y cc nL ret pc ls (.inl a :: st) M o :=
  q_lift (fun _ _ _ _ _ _ _ _ _ _ _ _ _ A _ _ _ _ _ _ hB hl k => lv_istore_n hB.1 hB.2.1 hdg hi hl hn (by rw [q_filt, ← hl']; rfl) k) kk
theorem q_istore {i : Nat} {a : Int} (hdg : decode cc pc = .ok (.istore i, 2)) (hn : i < nL) (hl' : q_st ls i (.inl a) = ls') (kk : q_EXg XP d y cc nL ret (pc + 2) ls' st M o) : q_EXg XP d y cc nL ret pc ls (.inl a :: st) M o :=
  q_lift (fun _ _ _ _ _ _ _ _ _ _ _ _ _ A _ _ _ _ _ _ hB hl k => lv_istore hB.1 hB.2.1 hdg hl hn (by rw [q_filt, ← hl']; rfl) k) kk
theorem q_astore_n {n : Fin 4} {i a : Nat} (hdg : decode cc pc = .ok (.astore_n n, 1)) (hi : (n : Nat) = i) (hn : i < nL) (hl' : q_st ls i (.inr (.inr a)) = ls') (kk : q_EXg XP d y cc nL ret (pc + 1) ls' st M o) : q_EXg XP d y cc nL ret pc ls (.inr (.inr a) :: st) M o :=
  q_lift (fun _ _ _ _ _ _ _ _ _ _ _ _ _ A _ _ _ _ _ _ hB hl k => lv_astore_n hB.1 hB.2.1 hdg hi hl hn (by rw [q_filt, ← hl']; rfl) k) kk
theorem q_lstore_n {n : Fin 4} {i : Nat} {a : Int} (hdg : decode cc pc = .ok (.lstore_n n, 1)) (hi : (n : Nat) = i) (hn : i + 1 < nL) (hl' : q_st2 ls i (.inr (.inl a)) = ls') (kk : q_EXg XP d y cc nL ret (pc + 1) ls' st M o) : q_EXg XP d y cc nL ret pc ls (.inr (.inl a) :: st) M o :=
  q_lift (fun _ _ _ _ _ _ _ _ _ _ _ _ _ A _ _ _ _ _ _ hB hl k => lv_lstore_n hB.1 hB.2.1 hdg hi hl hn (by rw [q_filt2, ← hl']; rfl) k) kk
theorem q_lstore {i : Nat} {a : Int} (hdg : decode cc pc = .ok (.lstore i, 2)) (hn : i + 1 < nL) (hl' : q_st2 ls i (.inr (.inl a)) = ls') (kk : q_EXg XP d y cc nL ret (pc + 2) ls' st M o) : q_EXg XP d y cc nL ret pc ls (.inr (.inl a) :: st) M o :=
  q_lift (fun _ _ _ _ _ _ _ _ _ _ _ _ _ A _ _ _ _ _ _ hB hl k => lv_lstore hB.1 hB.2.1 hdg hl hn (by rw [q_filt2, ← hl']; rfl) k) kk
theorem q_iinc {i : Nat} {n a : Int} (k : Nat) (hdg : decode cc pc = .ok (.iinc i n, 3)) (hk : ls[k]? = some (i, .inl a)) (hn : i < nL) (hl' : q_st ls i (.inl (a + n)) = ls') (kk : q_EXg XP d y cc nL ret (pc + 3) ls' st M o) : q_EXg XP d y cc nL ret pc ls st M o :=
  q_lift (fun _ _ _ _ _ _ _ _ _ _ _ _ _ A _ _ _ _ _ _ hB hl kq => lv_iinc (k := k) (x := Int32.ofInt a) (v := Int32.ofInt (a + n)) hB.1 hB.2.1 hdg hl (by rw [q_cl, List.getElem?_map, hk]; rfl) (by rw [Int32.ofInt_add]) hn (by rw [q_filt, ← hl']; rfl) kq) kk
end QR
