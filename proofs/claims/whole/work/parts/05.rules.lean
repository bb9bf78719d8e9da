/-! ===== rules of the judgement: arithmetic, branches ===== -/
def q_let {α β : Type} (a : α) (f : α → β) : β := f a
def q_bd (o : Option (Int × q_Mem)) (g : Int → q_Mem → Option (Int × q_Mem)) : Option (Int × q_Mem) := o.bind (fun z => g z.1 z.2)
def q_and (a b : Int) : Int := (Int32.ofInt a &&& Int32.ofInt b).toInt
def q_or (a b : Int) : Int := (Int32.ofInt a ||| Int32.ofInt b).toInt
def q_xor (a b : Int) : Int := (Int32.ofInt a ^^^ Int32.ofInt b).toInt
def q_shl (a b : Int) : Int := (Int32.ofInt a <<< (Int32.ofInt b &&& 31)).toInt
def q_shr (a b : Int) : Int := (Int32.ofInt a >>> (Int32.ofInt b &&& 31)).toInt
def q_ushr (a b : Int) : Int := (((Int32.ofInt a).toUInt32 >>> ((Int32.ofInt b).toUInt32 &&& Int32.toUInt32 31)).toInt32).toInt
def q_div (a b : Int) : Int := (Int32.ofInt a / Int32.ofInt b).toInt
def q_rem (a b : Int) : Int := (Int32.ofInt a - Int32.ofInt a / Int32.ofInt b * Int32.ofInt b).toInt
def q_ldiv (a b : Int) : Int := (Int64.ofInt a / Int64.ofInt b).toInt
def q_lrem (a b : Int) : Int := (Int64.ofInt a - Int64.ofInt a / Int64.ofInt b * Int64.ofInt b).toInt
def q_lcmp (a b : Int) : Int := if q_wl b < q_wl a then 1 else if q_wl a = q_wl b then 0 else -1
def q_chr (a : Int) : Int := ((Int32.ofInt a).toUInt32 % 65536).toInt32.toInt
theorem q_z0 {a : Int} : Int32.ofInt a = 0 ↔ q_w a = 0 := by
  rw [← Int32.toInt_inj]; rfl
theorem q_zl {a : Int} : Int64.ofInt a = 0 ↔ q_wl a = 0 := by
  rw [← Int64.toInt_inj]; rfl
section QA
variable {XP : State → (Nat → Nat) → (Nat → Prop) → Prop} {d : Nat} {y : MethodName} {cc : ByteArray} {nL : Nat} {ret : Option FieldType} {pc pc' : Nat} {ls ls' : List (Nat × q_V)} {st st' : List q_V} {M : q_Mem} {o o1 o2 : Option (Int × q_Mem)}
theorem q_iadd {a b : Int} (hdg : decode cc pc = .ok (.iadd, 1)) (kk : q_EXg XP d y cc nL ret (pc + 1) ls (.inl (a + b) :: st) M o) : q_EXg XP d y cc nL ret pc ls (.inl b :: .inl a :: st) M o :=
  q_lift (fun _ _ _ _ _ _ _ _ _ _ _ _ _ _ _ _ _ _ _ _ hB hl k => lv_iadd hB.1 hB.2.1 hdg (by have := k _ hl; rw [← Int32.ofInt_add]; exact this)) kk
theorem q_isub {a b : Int} (hdg : decode cc pc = .ok (.isub, 1)) (kk : q_EXg XP d y cc nL ret (pc + 1) ls (.inl (a - b) :: st) M o) : q_EXg XP d y cc nL ret pc ls (.inl b :: .inl a :: st) M o :=
  q_lift (fun _ _ _ _ _ _ _ _ _ _ _ _ _ _ _ _ _ _ _ _ hB hl k => lv_isub hB.1 hB.2.1 hdg (by have := k _ hl; rw [← Int32.ofInt_sub]; exact this)) kk
theorem q_imul {a b : Int} (hdg : decode cc pc = .ok (.imul, 1)) (kk : q_EXg XP d y cc nL ret (pc + 1) ls (.inl (a * b) :: st) M o) : q_EXg XP d y cc nL ret pc ls (.inl b :: .inl a :: st) M o :=
  q_lift (fun _ _ _ _ _ _ _ _ _ _ _ _ _ _ _ _ _ _ _ _ hB hl k => lv_imul hB.1 hB.2.1 hdg (by have := k _ hl; rw [← Int32.ofInt_mul]; exact this)) kk
theorem q_ineg {a : Int} (hdg : decode cc pc = .ok (.ineg, 1)) (kk : q_EXg XP d y cc nL ret (pc + 1) ls (.inl (-a) :: st) M o) : q_EXg XP d y cc nL ret pc ls (.inl a :: st) M o :=
  q_lift (fun _ _ _ _ _ _ _ _ _ _ _ _ _ _ _ _ _ _ _ _ hB hl k => lv_ineg hB.1 hB.2.1 hdg (by have := k _ hl; rw [Int32.neg_ofInt]; exact this)) kk
theorem q_iand {a b : Int} (hdg : decode cc pc = .ok (.iand, 1)) (kk : q_EXg XP d y cc nL ret (pc + 1) ls (.inl (q_and a b) :: st) M o) : q_EXg XP d y cc nL ret pc ls (.inl b :: .inl a :: st) M o :=
  q_lift (fun _ _ _ _ _ _ _ _ _ _ _ _ _ _ _ _ _ _ _ _ hB hl k => lv_iand hB.1 hB.2.1 hdg (by have := k _ hl; simp only [List.map_cons, q_c, q_and, Int32.ofInt_toInt] at this; exact this)) kk
theorem q_ior {a b : Int} (hdg : decode cc pc = .ok (.ior, 1)) (kk : q_EXg XP d y cc nL ret (pc + 1) ls (.inl (q_or a b) :: st) M o) : q_EXg XP d y cc nL ret pc ls (.inl b :: .inl a :: st) M o :=
  q_lift (fun _ _ _ _ _ _ _ _ _ _ _ _ _ _ _ _ _ _ _ _ hB hl k => lv_ior hB.1 hB.2.1 hdg (by have := k _ hl; simp only [List.map_cons, q_c, q_or, Int32.ofInt_toInt] at this; exact this)) kk
theorem q_ixor {a b : Int} (hdg : decode cc pc = .ok (.ixor, 1)) (kk : q_EXg XP d y cc nL ret (pc + 1) ls (.inl (q_xor a b) :: st) M o) : q_EXg XP d y cc nL ret pc ls (.inl b :: .inl a :: st) M o :=
  q_lift (fun _ _ _ _ _ _ _ _ _ _ _ _ _ _ _ _ _ _ _ _ hB hl k => lv_ixor hB.1 hB.2.1 hdg (by have := k _ hl; simp only [List.map_cons, q_c, q_xor, Int32.ofInt_toInt] at this; exact this)) kk
theorem q_ishl {a b : Int} (hdg : decode cc pc = .ok (.ishl, 1)) (kk : q_EXg XP d y cc nL ret (pc + 1) ls (.inl (q_shl a b) :: st) M o) : q_EXg XP d y cc nL ret pc ls (.inl b :: .inl a :: st) M o :=
  q_lift (fun _ _ _ _ _ _ _ _ _ _ _ _ _ _ _ _ _ _ _ _ hB hl k => lv_ishl hB.1 hB.2.1 hdg (by have := k _ hl; simp only [List.map_cons, q_c, q_shl, Int32.ofInt_toInt] at this; exact this)) kk
theorem q_ishr {a b : Int} (hdg : decode cc pc = .ok (.ishr, 1)) (kk : q_EXg XP d y cc nL ret (pc + 1) ls (.inl (q_shr a b) :: st) M o) : q_EXg XP d y cc nL ret pc ls (.inl b :: .inl a :: st) M o :=
  q_lift (fun _ _ _ _ _ _ _ _ _ _ _ _ _ _ _ _ _ _ _ _ hB hl k => lv_ishr hB.1 hB.2.1 hdg (by have := k _ hl; simp only [List.map_cons, q_c, q_shr, Int32.ofInt_toInt] at this; exact this)) kk
theorem q_iushr {a b : Int} (hdg : decode cc pc = .ok (.iushr, 1)) (kk : q_EXg XP d y cc nL ret (pc + 1) ls (.inl (q_ushr a b) :: st) M o) : q_EXg XP d y cc nL ret pc ls (.inl b :: .inl a :: st) M o :=
  q_lift (fun _ _ _ _ _ _ _ _ _ _ _ _ _ _ _ _ _ _ _ _ hB hl k => lv_iushr hB.1 hB.2.1 hdg rfl (by have := k _ hl; simp only [List.map_cons, q_c, q_ushr, Int32.ofInt_toInt] at this; exact this)) kk
theorem q_idiv {a b : Int} (hdg : decode cc pc = .ok (.idiv, 1)) (hne : ¬ q_w b = 0) (kk : q_EXg XP d y cc nL ret (pc + 1) ls (.inl (q_div a b) :: st) M o) : q_EXg XP d y cc nL ret pc ls (.inl b :: .inl a :: st) M o :=
  q_lift (fun _ _ _ _ _ _ _ _ _ _ _ _ _ _ _ _ _ _ _ _ hB hl k => lv_idiv hB.1 hB.2.1 hdg (fun h => hne (q_z0.mp h)) (by have := k _ hl; simp only [List.map_cons, q_c, q_div, Int32.ofInt_toInt] at this; exact this)) kk
theorem q_irem {a b : Int} (hdg : decode cc pc = .ok (.irem, 1)) (hne : ¬ q_w b = 0) (kk : q_EXg XP d y cc nL ret (pc + 1) ls (.inl (q_rem a b) :: st) M o) : q_EXg XP d y cc nL ret pc ls (.inl b :: .inl a :: st) M o :=
  q_lift (fun _ _ _ _ _ _ _ _ _ _ _ _ _ _ _ _ _ _ _ _ hB hl k => lv_irem hB.1 hB.2.1 hdg (fun h => hne (q_z0.mp h)) (by have := k _ hl; simp only [List.map_cons, q_c, q_rem, Int32.ofInt_toInt] at this; exact this)) kk
theorem q_ladd {a b : Int} (hdg : decode cc pc = .ok (.ladd, 1)) (kk : q_EXg XP d y cc nL ret (pc + 1) ls (.inr (.inl (a + b)) :: st) M o) : q_EXg XP d y cc nL ret pc ls (.inr (.inl b) :: .inr (.inl a) :: st) M o :=
  q_lift (fun _ _ _ _ _ _ _ _ _ _ _ _ _ _ _ _ _ _ _ _ hB hl k => lv_ladd hB.1 hB.2.1 hdg (by have := k _ hl; rw [← Int64.ofInt_add]; exact this)) kk
theorem q_lsub {a b : Int} (hdg : decode cc pc = .ok (.lsub, 1)) (kk : q_EXg XP d y cc nL ret (pc + 1) ls (.inr (.inl (a - b)) :: st) M o) : q_EXg XP d y cc nL ret pc ls (.inr (.inl b) :: .inr (.inl a) :: st) M o :=
  q_lift (fun _ _ _ _ _ _ _ _ _ _ _ _ _ _ _ _ _ _ _ _ hB hl k => lv_lsub hB.1 hB.2.1 hdg (by have := k _ hl; rw [← Int64.ofInt_sub]; exact this)) kk
theorem q_lmul {a b : Int} (hdg : decode cc pc = .ok (.lmul, 1)) (kk : q_EXg XP d y cc nL ret (pc + 1) ls (.inr (.inl (a * b)) :: st) M o) : q_EXg XP d y cc nL ret pc ls (.inr (.inl b) :: .inr (.inl a) :: st) M o :=
  q_lift (fun _ _ _ _ _ _ _ _ _ _ _ _ _ _ _ _ _ _ _ _ hB hl k => lv_lmul hB.1 hB.2.1 hdg (by have := k _ hl; rw [← Int64.ofInt_mul]; exact this)) kk
theorem q_ldivR {a b : Int} (hdg : decode cc pc = .ok (.ldiv, 1)) (hne : ¬ q_wl b = 0) (kk : q_EXg XP d y cc nL ret (pc + 1) ls (.inr (.inl (q_ldiv a b)) :: st) M o) : q_EXg XP d y cc nL ret pc ls (.inr (.inl b) :: .inr (.inl a) :: st) M o :=
  q_lift (fun _ _ _ _ _ _ _ _ _ _ _ _ _ _ _ _ _ _ _ _ hB hl k => lv_ldiv hB.1 hB.2.1 hdg (fun h => hne (q_zl.mp h)) (by have := k _ hl; simp only [List.map_cons, q_c, q_ldiv, Int64.ofInt_toInt] at this; exact this)) kk
theorem q_lremR {a b : Int} (hdg : decode cc pc = .ok (.lrem, 1)) (hne : ¬ q_wl b = 0) (kk : q_EXg XP d y cc nL ret (pc + 1) ls (.inr (.inl (q_lrem a b)) :: st) M o) : q_EXg XP d y cc nL ret pc ls (.inr (.inl b) :: .inr (.inl a) :: st) M o :=
  q_lift (fun _ _ _ _ _ _ _ _ _ _ _ _ _ _ _ _ _ _ _ _ hB hl k => lv_lrem hB.1 hB.2.1 hdg (fun h => hne (q_zl.mp h)) (by have := k _ hl; simp only [List.map_cons, q_c, q_lrem, Int64.ofInt_toInt] at this; exact this)) kk
theorem q_i2l {a : Int} (hdg : decode cc pc = .ok (.i2l, 1)) (kk : q_EXg XP d y cc nL ret (pc + 1) ls (.inr (.inl (q_w a)) :: st) M o) : q_EXg XP d y cc nL ret pc ls (.inl a :: st) M o :=
  q_lift (fun _ _ _ _ _ _ _ _ _ _ _ _ _ _ _ _ _ _ _ _ hB hl k => lv_i2l hB.1 hB.2.1 hdg (Int64.ofInt_int32ToInt _).symm (k _ hl)) kk
theorem q_l2i {a : Int} (hdg : decode cc pc = .ok (.l2i, 1)) (kk : q_EXg XP d y cc nL ret (pc + 1) ls (.inl a :: st) M o) : q_EXg XP d y cc nL ret pc ls (.inr (.inl a) :: st) M o :=
  q_lift (fun _ _ _ _ _ _ _ _ _ _ _ _ _ _ _ _ _ _ _ _ hB hl k => lv_l2i hB.1 hB.2.1 hdg Int64.toInt32_ofInt (k _ hl)) kk
theorem q_i2c {a : Int} (hdg : decode cc pc = .ok (.i2c, 1)) (kk : q_EXg XP d y cc nL ret (pc + 1) ls (.inl (q_chr a) :: st) M o) : q_EXg XP d y cc nL ret pc ls (.inl a :: st) M o :=
  q_lift (fun _ _ _ _ _ _ _ _ _ _ _ _ _ _ _ _ _ _ _ _ hB hl k => lv_i2c hB.1 hB.2.1 hdg (Int32.ofInt_toInt _).symm (k _ hl)) kk
theorem q_lcmpE (a b : Int) : lg_cmp (Int64.ofInt a) (Int64.ofInt b) = Int32.ofInt (q_lcmp a b) := by
  unfold lg_cmp q_lcmp q_wl
  simp only [gt_iff_lt, Int64.lt_iff_toInt_lt, ← Int64.toInt_inj]
  split
  · rfl
  · split <;> rfl
theorem q_lcmpR {a b : Int} (hdg : decode cc pc = .ok (.lcmp, 1)) (kk : q_EXg XP d y cc nL ret (pc + 1) ls (.inl (q_lcmp a b) :: st) M o) : q_EXg XP d y cc nL ret pc ls (.inr (.inl b) :: .inr (.inl a) :: st) M o :=
  q_lift (fun _ _ _ _ _ _ _ _ _ _ _ _ _ _ _ _ _ _ _ _ hB hl k => W.lcmp hB.1 hB.2.1 hdg (by have := k _ hl; rw [q_lcmpE]; exact this)) kk
theorem q_dup {v : q_V} (hdg : decode cc pc = .ok (.dup, 1)) (hc : (q_c (fun _ => 0) v).category = 1) (kk : q_EXg XP d y cc nL ret (pc + 1) ls (v :: v :: st) M o) : q_EXg XP d y cc nL ret pc ls (v :: st) M o :=
  q_lift (fun _ _ _ _ _ _ _ _ _ _ _ _ _ A _ _ _ _ _ _ hB hl k => lv_dup hB.1 hB.2.1 hdg (by rcases v with a | a | a <;> first | rfl | cases hc) (k _ hl)) kk
theorem q_pop {v : q_V} (hdg : decode cc pc = .ok (.pop, 1)) (hc : (q_c (fun _ => 0) v).category = 1) (kk : q_EXg XP d y cc nL ret (pc + 1) ls st M o) : q_EXg XP d y cc nL ret pc ls (v :: st) M o :=
  q_lift (fun _ _ _ _ _ _ _ _ _ _ _ _ _ A _ _ _ _ _ _ hB hl k => lv_pop hB.1 hB.2.1 hdg (by rcases v with a | a | a <;> first | rfl | cases hc) (k _ hl)) kk
theorem q_dup2 {v u : q_V} (hdg : decode cc pc = .ok (.dup2, 1)) (hc : (q_c (fun _ => 0) v).category = 1) (hu : (q_c (fun _ => 0) u).category = 1) (kk : q_EXg XP d y cc nL ret (pc + 1) ls (v :: u :: v :: u :: st) M o) : q_EXg XP d y cc nL ret pc ls (v :: u :: st) M o :=
  q_lift (fun _ _ _ _ _ _ _ _ _ _ _ _ _ A _ _ _ _ _ _ hB hl k => lv_dup2_11 hB.1 hB.2.1 hdg (by rcases v with a | a | a <;> first | rfl | cases hc) (by rcases u with a | a | a <;> first | rfl | cases hu) (k _ hl)) kk
theorem q_goto {off : Int} {tgt : Nat} (hdg : decode cc pc = .ok (.goto off, 3)) (ht : (pc : Int) + off = (tgt : Int)) (kk : q_EXg XP d y cc nL ret tgt ls st M o) : q_EXg XP d y cc nL ret pc ls st M o :=
  q_lift (fun _ _ _ _ _ _ _ _ _ _ _ _ _ _ _ _ _ _ _ _ hB hl k => lv_goto hB.1 hB.2.1 hdg ht (k _ hl)) kk
/-! branches: the first arm is that of the jump -/
theorem q_ifeq {a off : Int} {tgt : Nat} (hdg : decode cc pc = .ok (.ifCond .eq off, 3)) (ht : (pc : Int) + off = (tgt : Int)) (k1 : q_EXg XP d y cc nL ret tgt ls st M o1) (k2 : q_EXg XP d y cc nL ret (pc + 3) ls st M o2) : q_EXg XP d y cc nL ret pc ls (.inl a :: st) M (if q_w a = 0 then o1 else o2) :=
  q_lift_if (fun _ _ _ _ _ _ _ _ _ _ _ _ _ _ _ _ _ _ _ _ hB g1 g2 => lv_if_eq hB.1 hB.2.1 hdg ht (fun h => g1 (q_z0.mp h)) (fun h => g2 (fun q => h (q_z0.mpr q)))) k1 k2
theorem q_ifne {a off : Int} {tgt : Nat} (hdg : decode cc pc = .ok (.ifCond .ne off, 3)) (ht : (pc : Int) + off = (tgt : Int)) (k1 : q_EXg XP d y cc nL ret tgt ls st M o1) (k2 : q_EXg XP d y cc nL ret (pc + 3) ls st M o2) : q_EXg XP d y cc nL ret pc ls (.inl a :: st) M (if q_w a = 0 then o2 else o1) :=
  q_lift_if (fun _ _ _ _ _ _ _ _ _ _ _ _ _ _ _ _ _ _ _ _ hB g1 g2 => lv_if_ne hB.1 hB.2.1 hdg ht (fun h => g2 (fun q => h (q_z0.mpr q))) (fun h => g1 (q_z0.mp h))) k2 k1
theorem q_iflt {a off : Int} {tgt : Nat} (hdg : decode cc pc = .ok (.ifCond .lt off, 3)) (ht : (pc : Int) + off = (tgt : Int)) (k1 : q_EXg XP d y cc nL ret tgt ls st M o1) (k2 : q_EXg XP d y cc nL ret (pc + 3) ls st M o2) : q_EXg XP d y cc nL ret pc ls (.inl a :: st) M (if q_w a < 0 then o1 else o2) :=
  q_lift_if (fun _ _ _ _ _ _ _ _ _ _ _ _ _ _ _ _ _ _ _ _ hB g1 g2 => lv_if_lt hB.1 hB.2.1 hdg ht (fun h => g1 (Int32.lt_iff_toInt_lt.mp h)) (fun h => g2 (fun q => h (Int32.lt_iff_toInt_lt.mpr q)))) k1 k2
theorem q_ifge {a off : Int} {tgt : Nat} (hdg : decode cc pc = .ok (.ifCond .ge off, 3)) (ht : (pc : Int) + off = (tgt : Int)) (k1 : q_EXg XP d y cc nL ret tgt ls st M o1) (k2 : q_EXg XP d y cc nL ret (pc + 3) ls st M o2) : q_EXg XP d y cc nL ret pc ls (.inl a :: st) M (if q_w a < 0 then o2 else o1) :=
  q_lift_if (fun _ _ _ _ _ _ _ _ _ _ _ _ _ _ _ _ _ _ _ _ hB g1 g2 => lv_if_ge hB.1 hB.2.1 hdg ht (fun h => g2 (fun q => by have := Int32.le_iff_toInt_le.mp h; simp [q_w] at q this; omega)) (fun h => g1 (by rw [Int32.le_iff_toInt_le] at h; simp [q_w] at h ⊢; omega))) k2 k1
theorem q_ifgt {a off : Int} {tgt : Nat} (hdg : decode cc pc = .ok (.ifCond .gt off, 3)) (ht : (pc : Int) + off = (tgt : Int)) (k1 : q_EXg XP d y cc nL ret tgt ls st M o1) (k2 : q_EXg XP d y cc nL ret (pc + 3) ls st M o2) : q_EXg XP d y cc nL ret pc ls (.inl a :: st) M (if 0 < q_w a then o1 else o2) :=
  q_lift_if (fun _ _ _ _ _ _ _ _ _ _ _ _ _ _ _ _ _ _ _ _ hB g1 g2 => lv_if_gt hB.1 hB.2.1 hdg ht (fun h => g1 (Int32.lt_iff_toInt_lt.mp h)) (fun h => g2 (fun q => h (Int32.lt_iff_toInt_lt.mpr q)))) k1 k2
theorem q_ifle {a off : Int} {tgt : Nat} (hdg : decode cc pc = .ok (.ifCond .le off, 3)) (ht : (pc : Int) + off = (tgt : Int)) (k1 : q_EXg XP d y cc nL ret tgt ls st M o1) (k2 : q_EXg XP d y cc nL ret (pc + 3) ls st M o2) : q_EXg XP d y cc nL ret pc ls (.inl a :: st) M (if 0 < q_w a then o2 else o1) :=
  q_lift_if (fun _ _ _ _ _ _ _ _ _ _ _ _ _ _ _ _ _ _ _ _ hB g1 g2 => lv_if_le hB.1 hB.2.1 hdg ht (fun h => g2 (fun q => by have := Int32.le_iff_toInt_le.mp h; simp [q_w] at q this; omega)) (fun h => g1 (by rw [Int32.le_iff_toInt_le] at h; simp [q_w] at h ⊢; omega))) k2 k1
theorem q_icmpeq {a b off : Int} {tgt : Nat} (hdg : decode cc pc = .ok (.if_icmp .eq off, 3)) (ht : (pc : Int) + off = (tgt : Int)) (k1 : q_EXg XP d y cc nL ret tgt ls st M o1) (k2 : q_EXg XP d y cc nL ret (pc + 3) ls st M o2) : q_EXg XP d y cc nL ret pc ls (.inl b :: .inl a :: st) M (if q_w a = q_w b then o1 else o2) :=
  q_lift_if (fun _ _ _ _ _ _ _ _ _ _ _ _ _ _ _ _ _ _ _ _ hB g1 g2 => lv_icmp_eq hB.1 hB.2.1 hdg ht (fun h => g1 (Int32.toInt_inj.mpr h)) (fun h => g2 (fun q => h (Int32.toInt_inj.mp q)))) k1 k2
theorem q_icmpne {a b off : Int} {tgt : Nat} (hdg : decode cc pc = .ok (.if_icmp .ne off, 3)) (ht : (pc : Int) + off = (tgt : Int)) (k1 : q_EXg XP d y cc nL ret tgt ls st M o1) (k2 : q_EXg XP d y cc nL ret (pc + 3) ls st M o2) : q_EXg XP d y cc nL ret pc ls (.inl b :: .inl a :: st) M (if q_w a = q_w b then o2 else o1) :=
  q_lift_if (fun _ _ _ _ _ _ _ _ _ _ _ _ _ _ _ _ _ _ _ _ hB g1 g2 => lv_icmp_ne hB.1 hB.2.1 hdg ht (fun h => g2 (fun q => h (Int32.toInt_inj.mp q))) (fun h => g1 (Int32.toInt_inj.mpr h))) k2 k1
theorem q_icmplt {a b off : Int} {tgt : Nat} (hdg : decode cc pc = .ok (.if_icmp .lt off, 3)) (ht : (pc : Int) + off = (tgt : Int)) (k1 : q_EXg XP d y cc nL ret tgt ls st M o1) (k2 : q_EXg XP d y cc nL ret (pc + 3) ls st M o2) : q_EXg XP d y cc nL ret pc ls (.inl b :: .inl a :: st) M (if q_w a < q_w b then o1 else o2) :=
  q_lift_if (fun _ _ _ _ _ _ _ _ _ _ _ _ _ _ _ _ _ _ _ _ hB g1 g2 => lv_icmp_lt hB.1 hB.2.1 hdg ht (fun h => g1 (Int32.lt_iff_toInt_lt.mp h)) (fun h => g2 (fun q => h (Int32.lt_iff_toInt_lt.mpr q)))) k1 k2
theorem q_icmpge {a b off : Int} {tgt : Nat} (hdg : decode cc pc = .ok (.if_icmp .ge off, 3)) (ht : (pc : Int) + off = (tgt : Int)) (k1 : q_EXg XP d y cc nL ret tgt ls st M o1) (k2 : q_EXg XP d y cc nL ret (pc + 3) ls st M o2) : q_EXg XP d y cc nL ret pc ls (.inl b :: .inl a :: st) M (if q_w a < q_w b then o2 else o1) :=
  q_lift_if (fun _ _ _ _ _ _ _ _ _ _ _ _ _ _ _ _ _ _ _ _ hB g1 g2 => lv_icmp_ge hB.1 hB.2.1 hdg ht (fun h => g2 (fun q => by have := Int32.le_iff_toInt_le.mp h; simp only [q_w] at q; omega)) (fun h => g1 (by rw [Int32.le_iff_toInt_le] at h; simp only [q_w]; omega))) k2 k1
theorem q_icmpgt {a b off : Int} {tgt : Nat} (hdg : decode cc pc = .ok (.if_icmp .gt off, 3)) (ht : (pc : Int) + off = (tgt : Int)) (k1 : q_EXg XP d y cc nL ret tgt ls st M o1) (k2 : q_EXg XP d y cc nL ret (pc + 3) ls st M o2) : q_EXg XP d y cc nL ret pc ls (.inl b :: .inl a :: st) M (if q_w b < q_w a then o1 else o2) :=
  q_lift_if (fun _ _ _ _ _ _ _ _ _ _ _ _ _ _ _ _ _ _ _ _ hB g1 g2 => lv_icmp_gt hB.1 hB.2.1 hdg ht (fun h => g1 (Int32.lt_iff_toInt_lt.mp h)) (fun h => g2 (fun q => h (Int32.lt_iff_toInt_lt.mpr q)))) k1 k2
theorem q_icmple {a b off : Int} {tgt : Nat} (hdg : decode cc pc = .ok (.if_icmp .le off, 3)) (ht : (pc : Int) + off = (tgt : Int)) (k1 : q_EXg XP d y cc nL ret tgt ls st M o1) (k2 : q_EXg XP d y cc nL ret (pc + 3) ls st M o2) : q_EXg XP d y cc nL ret pc ls (.inl b :: .inl a :: st) M (if q_w b < q_w a then o2 else o1) :=
  q_lift_if (fun _ _ _ _ _ _ _ _ _ _ _ _ _ _ _ _ _ _ _ _ hB g1 g2 => lv_icmp_le hB.1 hB.2.1 hdg ht (fun h => g2 (fun q => by have := Int32.le_iff_toInt_le.mp h; simp only [q_w] at q; omega)) (fun h => g1 (by rw [Int32.le_iff_toInt_le] at h; simp only [q_w]; omega))) k2 k1
theorem q_ifnone {cnd : Prop} [Decidable cnd] (kk : ¬ cnd → q_EXg XP d y cc nL ret pc ls st M o) : q_EXg XP d y cc nL ret pc ls st M (if cnd then none else o) := by
  intro x M' ho
  by_cases hc : cnd
  · rw [if_pos hc] at ho; cases ho
  · rw [if_neg hc] at ho; exact kk hc x M' ho
theorem q_name {α : Type} {a : α} {f : α → Option (Int × q_Mem)} (kk : ∀ z, z = a → q_EXg XP d y cc nL ret pc ls st M (f z)) : q_EXg XP d y cc nL ret pc ls st M (q_let a f) := kk a rfl
/-- a call of Math.max, min, abs -/
theorem q_sub (ks : List Nat) (h : ks.filterMap (fun k => ls[k]?) = ls') (kk : q_EXg XP d y cc nL ret pc ls' st M o) : q_EXg XP d y cc nL ret pc ls st M o :=
  q_lift (fun _ _ _ _ _ _ _ _ _ _ _ _ _ A _ _ _ _ _ _ hB hl k => k _ (lv_sub hl ks (by
    rw [← h]; unfold lv_pick q_cl; rw [List.map_filterMap]
    congr 1; funext i; rw [List.getElem?_map]))) kk
end QA
