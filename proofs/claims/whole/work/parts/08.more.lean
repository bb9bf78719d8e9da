/-! ===== rules of the judgement: names, cases, switches, calls by what they answer, rows of arrays of arrays, System.arraycopy ===== -/
def q_FU : Nat := 100000
def q_ldr (a n : Nat) (i : Int) : Option Nat := if 0 ≤ q_w i ∧ q_w i < (n : Int) then some (q_fr a (q_w i).toNat) else none
def q_cpy (M : q_Mem) (a0 n0 : Nat) (sp : Int) (a1 n1 : Nat) (dp n : Int) : Option q_Mem :=
  if 0 ≤ q_w sp ∧ 0 ≤ q_w dp ∧ 0 ≤ q_w n ∧ q_w sp + q_w n ≤ (n0 : Int) ∧ q_w dp + q_w n ≤ (n1 : Int) then some (M.1, q_u1 M.2 a1 (fun k => if (q_w dp).toNat ≤ k ∧ k < (q_w dp).toNat + (q_w n).toNat then M.2 a0 ((q_w sp).toNat + (k - (q_w dp).toNat)) else M.2 a1 k)) else none
theorem q_inO {M : q_Mem} (hO : q_Ok M) {a ci : Nat} (h : q_shp a = (0, ci)) : a < M.1 := q_in hO h (fun h9 => by cases h9)
theorem q_inA {M : q_Mem} (hO : q_Ok M) {a t n : Nat} (h : q_shp a = (t, n)) (ht : t < 9) : a < M.1 := q_in hO h (fun h9 => by have : t = 9 := h9; omega)
section QX
variable {XP : State → (Nat → Nat) → (Nat → Prop) → Prop} {d : Nat} {y : MethodName} {cc : ByteArray} {nL : Nat} {ret : Option FieldType} {pc pc' : Nat} {ls ls' : List (Nat × q_V)} {st st' st0 : List q_V} {M : q_Mem} {o o1 o2 : Option (Int × q_Mem)} {g : Int → q_Mem → Option (Int × q_Mem)}
variable {y2 : MethodName} {cc2 : ByteArray} {nL2 n idx : Nat} {ret2 : Option FieldType} {As : List q_V}
theorem q_nameI {a : Int} {f : Int → Option (Int × q_Mem)} (kk : ∀ z, z = a → q_EXg XP d y cc nL ret pc ls (.inl z :: st) M (f z)) : q_EXg XP d y cc nL ret pc ls (.inl a :: st) M (q_let a f) := kk a rfl
theorem q_nameL {a : Int} {f : Int → Option (Int × q_Mem)} (kk : ∀ z, z = a → q_EXg XP d y cc nL ret pc ls (.inr (.inl z) :: st) M (f z)) : q_EXg XP d y cc nL ret pc ls (.inr (.inl a) :: st) M (q_let a f) := kk a rfl
theorem q_case {cnd : Prop} [Decidable cnd] (k1 : cnd → q_EXg XP d y cc nL ret pc ls st M o1) (k2 : ¬ cnd → q_EXg XP d y cc nL ret pc ls st M o2) : q_EXg XP d y cc nL ret pc ls st M (if cnd then o1 else o2) := by
  by_cases h : cnd
  · rw [if_pos h]; exact k1 h
  · rw [if_neg h]; exact k2 h
theorem q_tswI {a v dflt lo hi off : Int} {offs : Array Int} {len tgt : Nat} (h : q_w a = v) (hdg : decode cc pc = .ok (.tableswitch dflt lo hi offs, len)) (h1 : ¬ v < lo) (h2 : ¬ hi < v) (ho : offs[(v - lo).toNat]? = some off) (ht : (pc : Int) + off = (tgt : Int)) (kk : q_EXg XP d y cc nL ret tgt ls st M o) : q_EXg XP d y cc nL ret pc ls (.inl a :: st) M o :=
  q_lift (fun _ _ _ _ _ _ _ _ _ _ _ _ _ _ _ _ _ _ _ _ hB hl k => lv_tableIn hB.1 hB.2.1 hdg (by show ¬ q_w a < lo; rw [h]; exact h1) (by show ¬ hi < q_w a; rw [h]; exact h2) (by show offs[(q_w a - lo).toNat]? = some off; rw [h]; exact ho) ht (k _ hl)) kk
theorem q_tswO {a dflt lo hi : Int} {offs : Array Int} {len tgt : Nat} (h : q_w a < lo ∨ hi < q_w a) (hdg : decode cc pc = .ok (.tableswitch dflt lo hi offs, len)) (ht : (pc : Int) + dflt = (tgt : Int)) (kk : q_EXg XP d y cc nL ret tgt ls st M o) : q_EXg XP d y cc nL ret pc ls (.inl a :: st) M o :=
  q_lift (fun _ _ _ _ _ _ _ _ _ _ _ _ _ _ _ _ _ _ _ _ hB hl k => lv_tableOut hB.1 hB.2.1 hdg h ht (k _ hl)) kk
theorem q_lsw {a dflt off : Int} {ps : Array (Int × Int)} {len tgt : Nat} (hdg : decode cc pc = .ok (.lookupswitch dflt ps, len)) (hp : (ps.toList.zip (ps.toList.drop 1)).all (fun (a, next) => a.1 < next.1) = true) (ho : Op.lookupswitch.offset ps.toList dflt (q_w a) = off) (ht : (pc : Int) + off = (tgt : Int)) (kk : q_EXg XP d y cc nL ret tgt ls st M o) : q_EXg XP d y cc nL ret pc ls (.inl a :: st) M o :=
  q_lift (fun _ _ _ _ _ _ _ _ _ _ _ _ _ _ _ _ _ _ _ _ hB hl k => lv_lookup hB.1 hB.2.1 hdg hp ho ht (k _ hl)) kk
theorem q_gettL {r k ci c2 : Nat} {fin : Bool} {f : Nat → Option (Int × q_Mem)} (hF : q_FL y.cls idx ci k fin) (hO : q_Ok M) (hsh : q_shp r = (0, ci)) (hty : q_isR (q_ty ci k) = true) (hm : (r, k, c2) ∈ q_tr) (hdg : decode cc pc = .ok (.getfield idx, 3)) (kk : ∀ v : Nat, v = (M.2 r k).toNat → q_shp v = (0, c2) → q_EXg XP d y cc nL ret (pc + 3) ls (.inr (.inr v) :: st) M (f v)) : q_EXg XP d y cc nL ret pc ls (.inr (.inr r) :: st) M (q_let (M.2 r k).toNat f) :=
  q_getr hF hsh (q_inO hO hsh) hty (hO.2.2 _ hm).1 hdg (kk _ rfl (hO.2.2 _ hm).2)
theorem q_aaldX {a k mm : Nat} {i : Int} {f : Nat → Option (Int × q_Mem)} (hO : q_Ok M) (hsh : q_shp a = (5, k)) (hrow : ∀ j, j < k → (a, j, q_fr a j) ∈ q_fx ∧ q_shp (q_fr a j) = (1, mm)) (hdg : decode cc pc = .ok (.aaload, 1)) (kk : ∀ v : Nat, 0 ≤ q_w i → q_w i < (k : Int) → v = q_fr a (q_w i).toNat → q_shp v = (1, mm) → q_EXg XP d y cc nL ret (pc + 1) ls (.inr (.inr v) :: st) M (f v)) : q_EXg XP d y cc nL ret pc ls (.inl i :: .inr (.inr a) :: st) M ((q_ldr a k i).bind f) := by
  have hv : ∀ j, j < k → M.2 a j = (q_fr a j : Int) := fun j hj => hO.2.1 _ (hrow j hj).1
  by_cases hi : 0 ≤ q_w i ∧ q_w i < (k : Int)
  · have hlt : (q_w i).toNat < k := by omega
    have h1 : q_ldr a k i = some (q_fr a (q_w i).toNat) := if_pos hi
    have h2 : q_EXg XP d y cc nL ret pc ls (.inl i :: .inr (.inr a) :: st) M ((q_ld M a k i).bind (fun x => f x.toNat)) := by
      refine q_aald hsh (q_inA hO hsh (by decide)) (fun j hj => by rw [hv j hj]; exact Int.natCast_nonneg _) hdg (fun x g1 g2 hx => ?_)
      have hx' : x.toNat = q_fr a (q_w i).toNat := by rw [hx, hv _ hlt, Int.toNat_natCast]
      rw [hx']
      exact kk _ g1 g2 rfl (hrow _ hlt).2
    rw [q_ldE hi] at h2
    rw [h1]
    have h3 : (M.2 a (q_w i).toNat).toNat = q_fr a (q_w i).toNat := by rw [hv _ hlt, Int.toNat_natCast]
    simpa [h3] using h2
  · have h1 : q_ldr a k i = none := if_neg hi
    rw [h1]
    exact q_none
theorem q_callVi {r : Nat} {ci : Nat} {T : u_T} {N : Nat} (hO : q_Ok M) (hB2 : q_MB y2 cc2 nL2 ret2 n) (hV : q_MV y2) (hl2 : Cond.methodLink y.cls idx y2 ∈ q_gT) (hsh : q_shp r = (0, ci)) (hc : q_cls[ci]? = some (y2.cls, T, N)) (hdg : decode cc pc = .ok (.invokevirtual idx, 3)) (hri : ∀ x, q_rv ret2 x = [.inl x]) (hn : As.length = n) (hst : q_words2 st ≤ 8) (hs : st0 = As.reverse ++ .inr (.inr r) :: st) (hnl : q_words2 (.inr (.inr r) :: As) ≤ nL2)
    (h2 : q_EX d y2 cc2 nL2 ret2 0 (q_args 0 (.inr (.inr r) :: As)) [] M o2) (kk : ∀ x M2, o2 = some (x, M2) → q_Ok M2 → q_EXg XP (d + 1) y cc nL ret (pc + 3) ls (.inl x :: st) M2 (g x M2)) : q_EXg XP (d + 1) y cc nL ret pc ls st0 M (q_bd o2 g) :=
  q_callV hO hB2 hV hl2 hsh hc hn hst hs hnl hdg h2 (fun x M2 h1 h3 => by rw [hri]; exact kk x M2 h1 h3)
theorem q_callVl {r : Nat} {ci : Nat} {T : u_T} {N : Nat} (hO : q_Ok M) (hB2 : q_MB y2 cc2 nL2 ret2 n) (hV : q_MV y2) (hl2 : Cond.methodLink y.cls idx y2 ∈ q_gT) (hsh : q_shp r = (0, ci)) (hc : q_cls[ci]? = some (y2.cls, T, N)) (hdg : decode cc pc = .ok (.invokevirtual idx, 3)) (hri : ∀ x, q_rv ret2 x = [.inr (.inl x)]) (hn : As.length = n) (hst : q_words2 st ≤ 8) (hs : st0 = As.reverse ++ .inr (.inr r) :: st) (hnl : q_words2 (.inr (.inr r) :: As) ≤ nL2)
    (h2 : q_EX d y2 cc2 nL2 ret2 0 (q_args 0 (.inr (.inr r) :: As)) [] M o2) (kk : ∀ x M2, o2 = some (x, M2) → q_Ok M2 → q_EXg XP (d + 1) y cc nL ret (pc + 3) ls (.inr (.inl x) :: st) M2 (g x M2)) : q_EXg XP (d + 1) y cc nL ret pc ls st0 M (q_bd o2 g) :=
  q_callV hO hB2 hV hl2 hsh hc hn hst hs hnl hdg h2 (fun x M2 h1 h3 => by rw [hri]; exact kk x M2 h1 h3)
theorem q_callVv {r : Nat} {ci : Nat} {T : u_T} {N : Nat} (hO : q_Ok M) (hB2 : q_MB y2 cc2 nL2 ret2 n) (hV : q_MV y2) (hl2 : Cond.methodLink y.cls idx y2 ∈ q_gT) (hsh : q_shp r = (0, ci)) (hc : q_cls[ci]? = some (y2.cls, T, N)) (hdg : decode cc pc = .ok (.invokevirtual idx, 3)) (hri : ∀ x, q_rv ret2 x = []) (hn : As.length = n) (hst : q_words2 st ≤ 8) (hs : st0 = As.reverse ++ .inr (.inr r) :: st) (hnl : q_words2 (.inr (.inr r) :: As) ≤ nL2)
    (h2 : q_EX d y2 cc2 nL2 ret2 0 (q_args 0 (.inr (.inr r) :: As)) [] M o2) (kk : ∀ x M2, o2 = some (x, M2) → q_Ok M2 → q_EXg XP (d + 1) y cc nL ret (pc + 3) ls st M2 (g x M2)) : q_EXg XP (d + 1) y cc nL ret pc ls st0 M (q_bd o2 g) :=
  q_callV hO hB2 hV hl2 hsh hc hn hst hs hnl hdg h2 (fun x M2 h1 h3 => by rw [hri]; exact kk x M2 h1 h3)
theorem q_callNv {r : Nat} {ci : Nat} {T : u_T} {N : Nat} {host : String} (hO : q_Ok M) (hB2 : q_MB y2 cc2 nL2 ret2 n) (hV : q_MV y2) (hl2 : Cond.methodLinkNest y.cls idx y2 host ∈ q_nest) (hsh : q_shp r = (0, ci)) (hc : q_cls[ci]? = some (y2.cls, T, N)) (hdg : decode cc pc = .ok (.invokevirtual idx, 3)) (hri : ∀ x, q_rv ret2 x = []) (hn : As.length = n) (hst : q_words2 st ≤ 8) (hs : st0 = As.reverse ++ .inr (.inr r) :: st) (hnl : q_words2 (.inr (.inr r) :: As) ≤ nL2)
    (h2 : q_EX d y2 cc2 nL2 ret2 0 (q_args 0 (.inr (.inr r) :: As)) [] M o2) (kk : ∀ x M2, o2 = some (x, M2) → q_Ok M2 → q_EXg XP (d + 1) y cc nL ret (pc + 3) ls st M2 (g x M2)) : q_EXg XP (d + 1) y cc nL ret pc ls st0 M (q_bd o2 g) :=
  q_callVN hO hB2 hV hl2 hsh hc hn hst hs hnl hdg h2 (fun x M2 h1 h3 => by rw [hri]; exact kk x M2 h1 h3)
theorem q_callSi (hO : q_Ok M) (hB2 : q_MB y2 cc2 nL2 ret2 n) (hV : Cond.static y2 ∈ q_gT) (hl2 : Cond.methodLink y.cls idx y2 ∈ q_gT) (hdg : decode cc pc = .ok (.invokestatic idx, 3)) (hri : ∀ x, q_rv ret2 x = [.inl x]) (hn : As.length = n) (hst : q_words2 st ≤ 8) (hs : st0 = As.reverse ++ st) (hnl : q_words2 As ≤ nL2)
    (h2 : q_EX d y2 cc2 nL2 ret2 0 (q_args 0 As) [] M o2) (kk : ∀ x M2, o2 = some (x, M2) → q_Ok M2 → q_EXg XP (d + 1) y cc nL ret (pc + 3) ls (.inl x :: st) M2 (g x M2)) : q_EXg XP (d + 1) y cc nL ret pc ls st0 M (q_bd o2 g) :=
  q_callS hO hB2 hV hl2 hn hst hs hnl hdg h2 (fun x M2 h1 h3 => by rw [hri]; exact kk x M2 h1 h3)
theorem q_callSl (hO : q_Ok M) (hB2 : q_MB y2 cc2 nL2 ret2 n) (hV : Cond.static y2 ∈ q_gT) (hl2 : Cond.methodLink y.cls idx y2 ∈ q_gT) (hdg : decode cc pc = .ok (.invokestatic idx, 3)) (hri : ∀ x, q_rv ret2 x = [.inr (.inl x)]) (hn : As.length = n) (hst : q_words2 st ≤ 8) (hs : st0 = As.reverse ++ st) (hnl : q_words2 As ≤ nL2)
    (h2 : q_EX d y2 cc2 nL2 ret2 0 (q_args 0 As) [] M o2) (kk : ∀ x M2, o2 = some (x, M2) → q_Ok M2 → q_EXg XP (d + 1) y cc nL ret (pc + 3) ls (.inr (.inl x) :: st) M2 (g x M2)) : q_EXg XP (d + 1) y cc nL ret pc ls st0 M (q_bd o2 g) :=
  q_callS hO hB2 hV hl2 hn hst hs hnl hdg h2 (fun x M2 h1 h3 => by rw [hri]; exact kk x M2 h1 h3)
theorem q_callSv (hO : q_Ok M) (hB2 : q_MB y2 cc2 nL2 ret2 n) (hV : Cond.static y2 ∈ q_gT) (hl2 : Cond.methodLink y.cls idx y2 ∈ q_gT) (hdg : decode cc pc = .ok (.invokestatic idx, 3)) (hri : ∀ x, q_rv ret2 x = []) (hn : As.length = n) (hst : q_words2 st ≤ 8) (hs : st0 = As.reverse ++ st) (hnl : q_words2 As ≤ nL2)
    (h2 : q_EX d y2 cc2 nL2 ret2 0 (q_args 0 As) [] M o2) (kk : ∀ x M2, o2 = some (x, M2) → q_Ok M2 → q_EXg XP (d + 1) y cc nL ret (pc + 3) ls st M2 (g x M2)) : q_EXg XP (d + 1) y cc nL ret pc ls st0 M (q_bd o2 g) :=
  q_callS hO hB2 hV hl2 hn hst hs hnl hdg h2 (fun x M2 h1 h3 => by rw [hri]; exact kk x M2 h1 h3)
/-! Math.max, min, abs -/
def q_max (a b : Int) : Int := if q_w a < q_w b then b else a
def q_min (a b : Int) : Int := if q_w b < q_w a then b else a
def q_abs (a : Int) : Int := if 0 ≤ q_w a then a else 0 - a
theorem q_mathR {y3 : MethodName} {i : Nat} (h1 : Cond.methodLink y.cls i y3 ∈ q_gT) : Cond.methodLink y.cls i y3 ∈ q_gT := h1
theorem q_mmax {a b : Int} (hw1 : Cond.methodLink y.cls idx Lib.Math.max.name ∈ q_gT) (hw2 : Cond.static Lib.Math.max.name ∈ q_gT) (hw3 : Cond.initialized "java/lang/Math" ∈ q_gT) (hw4 : Cond.code Lib.Math.max.name Lib.Math.max.code 2 (some .int) ∈ q_gT) (hst : q_words2 st ≤ 8) (hdg : decode cc pc = .ok (.invokestatic idx, 3)) (kk : q_EXg XP (d + 1) y cc nL ret (pc + 3) ls (.inl (q_max a b) :: st) M o) : q_EXg XP (d + 1) y cc nL ret pc ls (.inl b :: .inl a :: st) M o := by
  intro x M' ho
  have k0 := kk x M' ho
  refine ⟨?_, k0.2⟩
  intro p l e R s m args below meth c D cA A0 A H locs cells slots mc ms lsA Q hB hX hP hD hS hl hR hn hE
  have hk := k0.1 p l e R s m args below meth c D cA A0 A H locs cells slots mc ms lsA Q hB hX hP hD hS hl hR hn hE
  obtain ⟨hx, hb, -, -, hml, hown, -, hts, -, hEnv⟩ := id hB
  refine va_mmax hx hb (by rw [hml]; exact hl.1.symm) hown (hts _ hw1) (hts _ hw2) (hts _ hw3) (hts _ hw4) (by omega) (by rw [q_sumcat]; omega) (by omega) (by omega) hdg ?_
  have e1 : (if Int32.ofInt a < Int32.ofInt b then Int32.ofInt b else Int32.ofInt a) = Int32.ofInt (q_max a b) := by
    unfold q_max q_w
    simp only [Int32.lt_iff_toInt_lt]
    split <;> rfl
  rw [e1]
  exact hk
theorem q_mmin {a b : Int} (hw1 : Cond.methodLink y.cls idx Lib.Math.min.name ∈ q_gT) (hw2 : Cond.static Lib.Math.min.name ∈ q_gT) (hw3 : Cond.initialized "java/lang/Math" ∈ q_gT) (hw4 : Cond.code Lib.Math.min.name Lib.Math.min.code 2 (some .int) ∈ q_gT) (hst : q_words2 st ≤ 8) (hdg : decode cc pc = .ok (.invokestatic idx, 3)) (kk : q_EXg XP (d + 1) y cc nL ret (pc + 3) ls (.inl (q_min a b) :: st) M o) : q_EXg XP (d + 1) y cc nL ret pc ls (.inl b :: .inl a :: st) M o := by
  intro x M' ho
  have k0 := kk x M' ho
  refine ⟨?_, k0.2⟩
  intro p l e R s m args below meth c D cA A0 A H locs cells slots mc ms lsA Q hB hX hP hD hS hl hR hn hE
  have hk := k0.1 p l e R s m args below meth c D cA A0 A H locs cells slots mc ms lsA Q hB hX hP hD hS hl hR hn hE
  obtain ⟨hx, hb, -, -, hml, hown, -, hts, -, hEnv⟩ := id hB
  refine va_mmin hx hb (by rw [hml]; exact hl.1.symm) hown (hts _ hw1) (hts _ hw2) (hts _ hw3) (hts _ hw4) (by omega) (by rw [q_sumcat]; omega) (by omega) (by omega) hdg ?_
  have e1 : (if Int32.ofInt b < Int32.ofInt a then Int32.ofInt b else Int32.ofInt a) = Int32.ofInt (q_min a b) := by
    unfold q_min q_w
    simp only [Int32.lt_iff_toInt_lt]
    split <;> rfl
  rw [e1]
  exact hk
theorem q_mabs {a : Int} (hw1 : Cond.methodLink y.cls idx Lib.Math.abs.name ∈ q_gT) (hw2 : Cond.static Lib.Math.abs.name ∈ q_gT) (hw3 : Cond.initialized "java/lang/Math" ∈ q_gT) (hw4 : Cond.code Lib.Math.abs.name Lib.Math.abs.code 1 (some .int) ∈ q_gT) (hst : q_words2 st ≤ 8) (hdg : decode cc pc = .ok (.invokestatic idx, 3)) (kk : q_EXg XP (d + 1) y cc nL ret (pc + 3) ls (.inl (q_abs a) :: st) M o) : q_EXg XP (d + 1) y cc nL ret pc ls (.inl a :: st) M o := by
  intro x M' ho
  have k0 := kk x M' ho
  refine ⟨?_, k0.2⟩
  intro p l e R s m args below meth c D cA A0 A H locs cells slots mc ms lsA Q hB hX hP hD hS hl hR hn hE
  have hk := k0.1 p l e R s m args below meth c D cA A0 A H locs cells slots mc ms lsA Q hB hX hP hD hS hl hR hn hE
  obtain ⟨hx, hb, -, -, hml, hown, -, hts, -, hEnv⟩ := id hB
  refine va_mabs hx hb (by rw [hml]; exact hl.1.symm) hown (hts _ hw1) (hts _ hw2) (hts _ hw3) (hts _ hw4) (by omega) (by rw [q_sumcat]; omega) (by omega) (by omega) hdg ?_
  have e1 : (if 0 ≤ Int32.ofInt a then Int32.ofInt a else 0 - Int32.ofInt a) = Int32.ofInt (q_abs a) := by
    unfold q_abs q_w
    simp only [Int32.le_iff_toInt_le]
    show (if 0 ≤ (Int32.ofInt a).toInt then Int32.ofInt a else 0 - Int32.ofInt a) = _
    split
    · rfl
    · rw [Int32.ofInt_sub]; rfl
  rw [e1]
  exact hk
theorem q_Ok_row {M : q_Mem} (hO : q_Ok M) {a t n : Nat} {f : Nat → Int} (hsh : q_shp a = (t + 1, n)) (ht : t < 4) : q_Ok (M.1, q_u1 M.2 a f) := by
  refine ⟨hO.1, fun e he => ?_, fun e he => ?_⟩
  · have h1 : e.1 ≠ a := by
      intro h1
      rcases q_fx_fin e he with ⟨g1, g2⟩ | g1
      · rw [h1, hsh] at g1; cases g1
      · rw [h1, hsh] at g1; simp at g1; omega
    simp only [q_u1, if_neg h1]
    exact hO.2.1 e he
  · have h1 : e.1 ≠ a := by
      intro h1
      obtain ⟨g1, g2⟩ := q_tr_fin e he
      rw [h1, hsh] at g1; cases g1
    simp only [q_u1, if_neg h1]
    exact hO.2.2 e he
theorem q_ws_row {A : Nat → Nat} {cA : Nat → ClassId} {M : q_Mem} {i : Nat} {f : Nat → Int} {e : va_E} (h : i < M.1) (he : e = q_cellE A cA (q_shp i) f) : (q_ws A cA M).set i (A i, e) = q_ws A cA (M.1, q_u1 M.2 i f) := by
  subst he
  apply List.ext_getElem?
  intro j
  by_cases hj : j = i
  · subst hj
    rw [List.getElem?_set_self (by simp [q_ws, h]), q_ws_get (by exact h)]
    simp [q_u1]
  · rw [List.getElem?_set_ne (Ne.symm hj)]
    by_cases hl : j < M.1
    · rw [q_ws_get hl, q_ws_get (by exact hl)]
      simp [q_u1, hj]
    · simp [q_ws, hl]
theorem q_nlt {a : Int} (h : 0 ≤ q_w a) : ¬ Int32.ofInt a < 0 := by
  rw [Int32.lt_iff_toInt_lt]
  show ¬ q_w a < 0
  omega
theorem q_copyR {a0 n0 a1 n1 : Nat} {sp dp n : Int} {f : q_Mem → Option (Int × q_Mem)} (hO : q_Ok M) (h0 : q_shp a0 = (1, n0)) (h1 : q_shp a1 = (1, n1)) (hw1 : Cond.methodLink y.cls idx arraycopyName ∈ q_gT) (hw2 : Cond.native arraycopyName ∈ q_gT) (hw3 : Cond.static arraycopyName ∈ q_gT) (hw4 : Cond.initialized "java/lang/System" ∈ q_gT) (hst : q_words2 st ≤ 8) (hdg : decode cc pc = .ok (.invokestatic idx, 3))
    (kk : ∀ M1, q_cpy M a0 n0 sp a1 n1 dp n = some M1 → q_Ok M1 → q_EXg XP (d + 1) y cc nL ret (pc + 3) ls st M1 (f M1)) : q_EXg XP (d + 1) y cc nL ret pc ls (.inl n :: .inl dp :: .inr (.inr a1) :: .inl sp :: .inr (.inr a0) :: st) M ((q_cpy M a0 n0 sp a1 n1 dp n).bind f) := by
  by_cases hi : 0 ≤ q_w sp ∧ 0 ≤ q_w dp ∧ 0 ≤ q_w n ∧ q_w sp + q_w n ≤ (n0 : Int) ∧ q_w dp + q_w n ≤ (n1 : Int)
  · have he : q_cpy M a0 n0 sp a1 n1 dp n = some (M.1, q_u1 M.2 a1 (fun k => if (q_w dp).toNat ≤ k ∧ k < (q_w dp).toNat + (q_w n).toNat then M.2 a0 ((q_w sp).toNat + (k - (q_w dp).toNat)) else M.2 a1 k)) := if_pos hi
    have kk := kk _ he (q_Ok_row (t := 0) hO h1 (by decide))
    rw [he]
    intro x M' ho
    have k0 := kk x M' ho
    refine ⟨?_, fun h => k0.2.1 (q_Ok_row (t := 0) h h1 (by decide)), k0.2.2.1, fun h6 => absurd hO.1 (by have : M.1 ≤ M'.1 := k0.2.2.1; omega)⟩
    intro p l e R s m args below meth c D cA A0 A H locs cells slots mc ms lsA Q hB hX hP hD hS hl hR hn hE
    obtain ⟨hx, hb, -, -, hml, hown, -, hts, -, hEnv⟩ := id hB
    refine va_copyi (D := D) (ty := .int) hx hb (by rw [hml]; exact hl.1.symm) hown (hts _ hw1) (hts _ hw2) (hts _ hw3) (hts _ hw4) hEnv.1 hP hD hS a0 a1 0 0 (q_arr h0 (q_inA hO h0 (by decide))) (q_arr h1 (q_inA hO h1 (by decide))) rfl rfl rfl (q_nlt hi.1) (q_nlt hi.2.1) (q_nlt hi.2.2.1) (by show (q_w sp).toNat + (q_w n).toNat ≤ n0; omega) (by show (q_w dp).toNat + (q_w n).toNat ≤ n1; omega) (fun i hi => rfl) (by omega) ?_ hdg (fun H1 locs1 hP1 hD1 hS1 => ?_)
    · rw [q_sumcat]
      have : nativeFrameWords "java/lang/System" "arraycopy" 5 + 11 ≤ 56 := by decide +kernel
      omega
    · rw [q_ws_row (f := fun k => if (q_w dp).toNat ≤ k ∧ k < (q_w dp).toNat + (q_w n).toNat then M.2 a0 ((q_w sp).toNat + (k - (q_w dp).toNat)) else M.2 a1 k) (q_inA hO h1 (by decide)) (by
        rw [h1]
        show Sum.inl (cA 0, n1, Sum.inl _) = Sum.inl (cA 0, n1, Sum.inl _)
        congr 4
        funext k
        simp only [va_cpy]
        show (if (q_w dp).toNat ≤ k ∧ k < (q_w dp).toNat + (q_w n).toNat then _ else _) = _
        split
        · rfl
        · rfl)] at hP1 hD1
      exact k0.1 p l e R s m args below meth c D cA A0 A H1 locs1 cells slots mc ms lsA Q hB hX hP1 hD1 hS1 hl hR hn hE
  · have he : q_cpy M a0 n0 sp a1 n1 dp n = none := if_neg hi
    rw [he]
    exact q_none
end QX
