/-! ===== rules of the judgement: what holds always (q_Ok), fields, arrays, the end of a method ===== -/
theorem q_fx_fin : ∀ e ∈ q_fx, ((q_shp e.1).1 = 0 ∧ q_fin (q_shp e.1).2 e.2.1 = true) ∨ (q_shp e.1).1 = 5 := by decide +kernel
theorem q_tr_fin : ∀ e ∈ q_tr, (q_shp e.1).1 = 0 ∧ q_fin (q_shp e.1).2 e.2.1 = true := by decide +kernel
theorem q_tr_fx : ∀ e ∈ q_tr, ∀ e' ∈ q_fx, ¬ (e'.1 = e.1 ∧ e'.2.1 = e.2.1) := by decide +kernel
theorem q_tr_one : ∀ e ∈ q_tr, ∀ e' ∈ q_tr, e.1 = e'.1 → e.2.1 = e'.2.1 → e.2.2 = e'.2.2 := by decide +kernel
theorem q_shp_lt {a : Nat} {sh : Nat × Nat} (h : q_shp a = sh) (h9 : sh.1 ≠ 9) : a < 166 := by
  rcases Nat.lt_or_ge a 166 with g | g
  · exact g
  · exfalso
    apply h9
    rw [← h, q_shp, List.getD_eq_getElem?_getD, List.getElem?_eq_none (by exact g)]
    rfl
theorem q_in {M : q_Mem} (hO : q_Ok M) {a : Nat} {sh : Nat × Nat} (h : q_shp a = sh) (h9 : sh.1 ≠ 9) : a < M.1 := by
  rw [hO.1]; exact q_shp_lt h h9
theorem q_Ok_put {M : q_Mem} (hO : q_Ok M) {r k ci : Nat} {v : Int} (hsh : q_shp r = (0, ci)) (hf : q_fin ci k = false) : q_Ok (q_up M r k v) := by
  refine ⟨hO.1, fun e he => ?_, fun e he => ?_⟩
  · rw [q_up_ne]
    · exact hO.2.1 e he
    · rintro ⟨h1, h2⟩
      rcases q_fx_fin e he with ⟨g1, g2⟩ | g1
      · rw [h1, hsh, h2, hf] at g2; cases g2
      · rw [h1, hsh] at g1; cases g1
  · rw [q_up_ne]
    · exact hO.2.2 e he
    · rintro ⟨h1, h2⟩
      obtain ⟨g1, g2⟩ := q_tr_fin e he
      rw [h1, hsh, h2, hf] at g2; cases g2
theorem q_Ok_arr {M : q_Mem} (hO : q_Ok M) {a k t n : Nat} {v : Int} (hsh : q_shp a = (t + 1, n)) (ht : t < 4) : q_Ok (q_up M a k v) := by
  refine ⟨hO.1, fun e he => ?_, fun e he => ?_⟩
  · rw [q_up_ne]
    · exact hO.2.1 e he
    · rintro ⟨h1, h2⟩
      rcases q_fx_fin e he with ⟨g1, g2⟩ | g1
      · rw [h1, hsh] at g1; cases g1
      · rw [h1, hsh] at g1; simp at g1; omega
  · rw [q_up_ne]
    · exact hO.2.2 e he
    · rintro ⟨h1, h2⟩
      obtain ⟨g1, g2⟩ := q_tr_fin e he
      rw [h1, hsh] at g1; cases g1
theorem q_Ok_ref {M : q_Mem} (hO : q_Ok M) {a k ci v : Nat} (he : (a, k, ci) ∈ q_tr) (hsh : q_shp v = (0, ci)) : q_Ok (q_up M a k (v : Int)) := by
  refine ⟨hO.1, fun e h => ?_, fun e h => ?_⟩
  · rw [q_up_ne]
    · exact hO.2.1 e h
    · exact q_tr_fx _ he e h
  · by_cases hh : e.1 = a ∧ e.2.1 = k
    · obtain ⟨h1, h2⟩ := hh
      have h3 := q_tr_one _ he e h h1.symm h2.symm
      rw [h1, h2, q_up_eq, ← h3]
      exact ⟨Int.natCast_nonneg _, hsh⟩
    · rw [q_up_ne hh]
      exact hO.2.2 e h
def q_CF (ci : Nat) (C : String) (T : u_T) (N : Nat) : Prop := q_cls[ci]? = some (C, T, N) ∧ N = q_nf ci ∧ (∀ w ∈ u_ws C T N, w ∈ q_gT) ∧ (∀ k, k < N → parseFieldDescriptor (T k).2.2.1 = some (q_ty ci k)) ∧ (∀ a, a < N → ∀ b, b < N → a ≠ b → (T a).2.1 ≠ (T b).2.1)
def q_FL (own : String) (idx ci k : Nat) (fin : Bool) : Prop := ∃ (C : String) (T : u_T) (N : Nat), q_CF ci C T N ∧ k < N ∧ Cond.fieldLink own idx C (T k).2.1 (T k).2.2.1 ∈ q_gT ∧ (T k).1 = C ∧ (T k).2.2.2 = fin
def q_isI (ty : FieldType) : Bool := match ty with
  | .int => true
  | .boolean => true
  | _ => false
theorem q_cfI {A : Nat → Nat} {ty : FieldType} {v : Int} (h : q_isI ty = true) : q_cf A ty v = .int (Int32.ofInt v) := by cases ty <;> first | rfl | cases h
theorem q_cfR {A : Nat → Nat} {ty : FieldType} {v : Int} (h : q_isR ty = true) (h0 : 0 ≤ v) : q_cf A ty v = .ref (A v.toNat) := by
  have h1 : ¬ v < 0 := by omega
  cases ty <;> first | (cases h; done) | simp [q_cf, h1]
theorem q_obj {A : Nat → Nat} {cA : Nat → ClassId} {M : q_Mem} {r ci : Nat} (hsh : q_shp r = (0, ci)) (hr : r < M.1) : (q_ws A cA M)[r]? = some (A r, .inr (ci, (List.range (q_nf ci)).map (fun k => q_cf A (q_ty ci k) (M.2 r k)))) := by
  rw [q_ws_get hr, hsh]; rfl
section QM
variable {XP : State → (Nat → Nat) → (Nat → Prop) → Prop} {d : Nat} {y : MethodName} {cc : ByteArray} {nL : Nat} {ret : Option FieldType} {pc pc' : Nat} {ls ls' : List (Nat × q_V)} {st st' : List q_V} {M : q_Mem} {o o1 o2 : Option (Int × q_Mem)}
theorem q_get {r k ci idx : Nat} {fin : Bool} {v : q_V} (hF : q_FL y.cls idx ci k fin) (hsh : q_shp r = (0, ci)) (hr : r < M.1) (hv : ∀ A : Nat → Nat, q_cf A (q_ty ci k) (M.2 r k) = q_c A v) (hdg : decode cc pc = .ok (.getfield idx, 3)) (kk : q_EXg XP d y cc nL ret (pc + 3) ls (v :: st) M o) : q_EXg XP d y cc nL ret pc ls (.inr (.inr r) :: st) M o := by
  intro x M' ho
  refine ⟨?_, (kk x M' ho).2⟩
  intro p l e R s m args below meth c D cA A0 A H locs cells slots mc ms lsA Q hB hX hP hD hS hl hR hn hE
  have hk := (kk x M' ho).1 p l e R s m args below meth c D cA A0 A H locs cells slots mc ms lsA Q hB hX hP hD hS hl hR hn hE
  obtain ⟨hx, hb, -, -, -, hown, -, hts, -, hEnv⟩ := hB
  obtain ⟨C, T, N, ⟨hc, hN, hin, hpt, hnm⟩, hkN, hlk, hd, hf⟩ := hF
  refine va_get (D := D) (ci := ci) (C := C) (T := T) (N := N) hx hb hts hin hown hEnv.1 hP r (q_obj hsh hr) hc k hkN (hts _ hlk) (by rw [hd]; exact fun _ h => h) (v := q_c A v) ?_ hdg hk
  rw [List.getElem?_map, List.getElem?_range (by rw [← hN]; exact hkN), ← hv A]
  rfl
theorem q_geti {r k ci idx : Nat} {fin : Bool} (hF : q_FL y.cls idx ci k fin) (hsh : q_shp r = (0, ci)) (hr : r < M.1) (hty : q_isI (q_ty ci k) = true) (hdg : decode cc pc = .ok (.getfield idx, 3)) (kk : q_EXg XP d y cc nL ret (pc + 3) ls (.inl (M.2 r k) :: st) M o) : q_EXg XP d y cc nL ret pc ls (.inr (.inr r) :: st) M o :=
  q_get hF hsh hr (fun A => q_cfI hty) hdg kk
theorem q_getl {r k ci idx : Nat} {fin : Bool} (hF : q_FL y.cls idx ci k fin) (hsh : q_shp r = (0, ci)) (hr : r < M.1) (hty : q_ty ci k = .long) (hdg : decode cc pc = .ok (.getfield idx, 3)) (kk : q_EXg XP d y cc nL ret (pc + 3) ls (.inr (.inl (M.2 r k)) :: st) M o) : q_EXg XP d y cc nL ret pc ls (.inr (.inr r) :: st) M o :=
  q_get hF hsh hr (fun A => by rw [hty]; rfl) hdg kk
theorem q_getr {r k ci idx : Nat} {fin : Bool} (hF : q_FL y.cls idx ci k fin) (hsh : q_shp r = (0, ci)) (hr : r < M.1) (hty : q_isR (q_ty ci k) = true) (h0 : 0 ≤ M.2 r k) (hdg : decode cc pc = .ok (.getfield idx, 3)) (kk : q_EXg XP d y cc nL ret (pc + 3) ls (.inr (.inr (M.2 r k).toNat) :: st) M o) : q_EXg XP d y cc nL ret pc ls (.inr (.inr r) :: st) M o :=
  q_get hF hsh hr (fun A => q_cfR hty h0) hdg kk
/-- a final reference -/
theorem q_getx {r k ci idx v : Nat} {fin : Bool} (hF : q_FL y.cls idx ci k fin) (hO : q_Ok M) (hsh : q_shp r = (0, ci)) (hty : q_isR (q_ty ci k) = true) (hm : (r, k, v) ∈ q_fx) (hdg : decode cc pc = .ok (.getfield idx, 3)) (kk : q_EXg XP d y cc nL ret (pc + 3) ls (.inr (.inr v) :: st) M o) : q_EXg XP d y cc nL ret pc ls (.inr (.inr r) :: st) M o := by
  have h := hO.2.1 _ hm
  have h' : M.2 r k = (v : Int) := h
  refine q_getr hF hsh (q_in hO hsh (fun h9 => by cases h9)) hty (by rw [h']; exact Int.natCast_nonneg _) hdg ?_
  rw [h', Int.toNat_natCast]
  exact kk
/-- a reference that changes -/
theorem q_gett {r k ci idx c2 : Nat} {fin : Bool} (hF : q_FL y.cls idx ci k fin) (hO : q_Ok M) (hsh : q_shp r = (0, ci)) (hty : q_isR (q_ty ci k) = true) (hm : (r, k, c2) ∈ q_tr) (hdg : decode cc pc = .ok (.getfield idx, 3)) (kk : ∀ v : Nat, v = (M.2 r k).toNat → q_shp v = (0, c2) → q_EXg XP d y cc nL ret (pc + 3) ls (.inr (.inr v) :: st) M o) : q_EXg XP d y cc nL ret pc ls (.inr (.inr r) :: st) M o :=
  q_getr hF hsh (q_in hO hsh (fun h9 => by cases h9)) hty (hO.2.2 _ hm).1 hdg (kk _ rfl (hO.2.2 _ hm).2)
theorem q_put {r k ci idx : Nat} {v : q_V} {z : Int} {ty : FieldType} {f : q_Mem → Option (Int × q_Mem)} (hF : q_FL y.cls idx ci k false) (hsh : q_shp r = (0, ci)) (hr : r < M.1) (hok : q_Ok M → q_Ok (q_up M r k z)) (hrv : M.1 < 166 → q_RV M → q_RV (q_up M r k z)) (hty : q_ty ci k = ty) (hv : ∀ A : Nat → Nat, q_c A v = q_cf A ty z) (hn1 : ∀ A : Nat → Nat, narrow ty (q_c A v) = q_c A v) (hn2 : ∀ A : Nat → Nat, fits ty (q_c A v) = true) (hdg : decode cc pc = .ok (.putfield idx, 3)) (kk : ∀ M1, M1 = q_up M r k z → q_EXg XP d y cc nL ret (pc + 3) ls st M1 (f M1)) : q_EXg XP d y cc nL ret pc ls (v :: .inr (.inr r) :: st) M (q_let (q_up M r k z) f) := by
  intro x M' ho
  have k0 := kk _ rfl x M' ho
  refine ⟨?_, fun h => k0.2.1 (hok h), k0.2.2.1, fun hl6 hv => k0.2.2.2 hl6 (hrv (Nat.lt_of_le_of_lt k0.2.2.1 hl6) hv)⟩
  intro p l e R s m args below meth c D cA A0 A H locs cells slots mc ms lsA Q hB hX hP hD hS hl hR hn hE
  obtain ⟨hx, hb, -, -, -, hown, -, hts, -, hEnv⟩ := id hB
  obtain ⟨C, T, N, ⟨hc, hN, hin, hpt, hnm⟩, hkN, hlk, hd, hf⟩ := hF
  refine va_put (D := D) (ci := ci) (v := q_c A v) (ty := ty) (C := C) (T := T) (N := N) hx hb hts hin (q_ty ci) hpt hnm hown hEnv.1 hP hD hS r (q_obj hsh hr) hc k hkN (hts _ hlk) (by rw [hd]; exact fun _ h => h) hf (by rw [hpt k hkN, hty]) (hn1 A) (hn2 A) (by rw [List.length_map, List.length_range, ← hN]; exact hkN) hdg (fun H1 locs1 hP1 hD1 hS1 => ?_)
  have hs : (q_ws A cA M).set r (A r, .inr (ci, ((List.range (q_nf ci)).map (fun k => q_cf A (q_ty ci k) (M.2 r k))).set k (q_c A v))) = q_ws A cA (q_up M r k z) := by
    refine q_ws_set hr ?_
    rw [hsh]
    show Sum.inr (ci, _) = Sum.inr (ci, _)
    congr 2
    apply List.ext_getElem?
    intro j
    by_cases hj : j = k
    · subst hj
      rw [List.getElem?_set_self (by rw [List.length_map, List.length_range, ← hN]; exact hkN), List.getElem?_map, List.getElem?_range (by rw [← hN]; exact hkN), hv A, ← hty]
      simp [q_u1]
    · rw [List.getElem?_set_ne (Ne.symm hj), List.getElem?_map, List.getElem?_map]
      by_cases hjl : j < q_nf ci
      · rw [List.getElem?_range hjl]
        simp [q_u1, hj]
      · rw [List.getElem?_eq_none (by rw [List.length_range]; omega)]
        rfl
  rw [hs] at hP1 hD1
  exact k0.1 p l e R s m args below meth c D cA A0 A H1 locs1 cells slots mc ms lsA Q hB hX hP1 hD1 hS1 hl hR hn hE
theorem q_puti {r k ci idx : Nat} {z : Int} {f : q_Mem → Option (Int × q_Mem)} (hF : q_FL y.cls idx ci k false) (hsh : q_shp r = (0, ci)) (hr : r < M.1) (hok : q_Ok M → q_Ok (q_up M r k z)) (hty : q_ty ci k = .int) (hdg : decode cc pc = .ok (.putfield idx, 3)) (kk : ∀ M1, M1 = q_up M r k z → q_EXg XP d y cc nL ret (pc + 3) ls st M1 (f M1)) : q_EXg XP d y cc nL ret pc ls (.inl z :: .inr (.inr r) :: st) M (q_let (q_up M r k z) f) :=
  q_put hF hsh hr hok (fun _ h2 => q_RV_i h2 hsh (by rw [hty]; rfl)) hty (fun _ => rfl) (fun _ => rfl) (fun _ => rfl) hdg kk
theorem q_putl {r k ci idx : Nat} {z : Int} {f : q_Mem → Option (Int × q_Mem)} (hF : q_FL y.cls idx ci k false) (hsh : q_shp r = (0, ci)) (hr : r < M.1) (hok : q_Ok M → q_Ok (q_up M r k z)) (hty : q_ty ci k = .long) (hdg : decode cc pc = .ok (.putfield idx, 3)) (kk : ∀ M1, M1 = q_up M r k z → q_EXg XP d y cc nL ret (pc + 3) ls st M1 (f M1)) : q_EXg XP d y cc nL ret pc ls (.inr (.inl z) :: .inr (.inr r) :: st) M (q_let (q_up M r k z) f) :=
  q_put hF hsh hr hok (fun _ h2 => q_RV_i h2 hsh (by rw [hty]; rfl)) hty (fun _ => rfl) (fun _ => rfl) (fun _ => rfl) hdg kk
theorem q_putz {r k ci idx : Nat} {z : Int} {f : q_Mem → Option (Int × q_Mem)} (hF : q_FL y.cls idx ci k false) (hsh : q_shp r = (0, ci)) (hr : r < M.1) (hok : q_Ok M → q_Ok (q_up M r k z)) (hty : q_ty ci k = .boolean) (hz : z = 0 ∨ z = 1) (hdg : decode cc pc = .ok (.putfield idx, 3)) (kk : ∀ M1, M1 = q_up M r k z → q_EXg XP d y cc nL ret (pc + 3) ls st M1 (f M1)) : q_EXg XP d y cc nL ret pc ls (.inl z :: .inr (.inr r) :: st) M (q_let (q_up M r k z) f) :=
  q_put hF hsh hr hok (fun _ h2 => q_RV_i h2 hsh (by rw [hty]; rfl)) hty (fun _ => rfl) (fun _ => by rcases hz with rfl | rfl <;> rfl) (fun _ => by rcases hz with rfl | rfl <;> rfl) hdg kk
theorem q_putr {r k ci idx v : Nat} {C : String} {f : q_Mem → Option (Int × q_Mem)} (hF : q_FL y.cls idx ci k false) (hsh : q_shp r = (0, ci)) (hr : r < M.1) (hok : q_Ok M → q_Ok (q_up M r k (v : Int))) (hv : M.1 < 166 → v < M.1) (hty : q_ty ci k = .object C) (hdg : decode cc pc = .ok (.putfield idx, 3)) (kk : ∀ M1, M1 = q_up M r k (v : Int) → q_EXg XP d y cc nL ret (pc + 3) ls st M1 (f M1)) : q_EXg XP d y cc nL ret pc ls (.inr (.inr v) :: .inr (.inr r) :: st) M (q_let (q_up M r k (v : Int)) f) :=
  q_put hF hsh hr hok (fun h1 h2 => q_RV_r h2 (hv h1)) hty (fun A => by simp [q_c, q_cf]) (fun _ => rfl) (fun _ => rfl) hdg kk
/-! arrays -/
def q_ld (M : q_Mem) (a n : Nat) (i : Int) : Option Int := if 0 ≤ q_w i ∧ q_w i < (n : Int) then some (M.2 a (q_w i).toNat) else none
def q_sto (M : q_Mem) (a n : Nat) (i v : Int) : Option q_Mem := if 0 ≤ q_w i ∧ q_w i < (n : Int) then some (q_up M a (q_w i).toNat v) else none
theorem q_ldE {M : q_Mem} {a n : Nat} {i : Int} (h : 0 ≤ q_w i ∧ q_w i < (n : Int)) : q_ld M a n i = some (M.2 a (q_w i).toNat) := if_pos h
theorem q_ldN {M : q_Mem} {a n : Nat} {i : Int} (h : ¬ (0 ≤ q_w i ∧ q_w i < (n : Int))) : q_ld M a n i = none := if_neg h
theorem q_stoE {M : q_Mem} {a n : Nat} {i v : Int} (h : 0 ≤ q_w i ∧ q_w i < (n : Int)) : q_sto M a n i v = some (q_up M a (q_w i).toNat v) := if_pos h
theorem q_stoN {M : q_Mem} {a n : Nat} {i v : Int} (h : ¬ (0 ≤ q_w i ∧ q_w i < (n : Int))) : q_sto M a n i v = none := if_neg h
theorem q_vin {i : Int} {n : Nat} (h : 0 ≤ q_w i ∧ q_w i < (n : Int)) : vp_in (Int32.ofInt i) n := vp_in_iff.mpr h
theorem q_arr {A : Nat → Nat} {cA : Nat → ClassId} {M : q_Mem} {a t n : Nat} (hsh : q_shp a = (t, n)) (ha : a < M.1) : (q_ws A cA M)[a]? = some (A a, q_cellE A cA (t, n) (M.2 a)) := by
  rw [q_ws_get ha, hsh]
theorem q_iald {a n : Nat} {i : Int} {g : Int → Option (Int × q_Mem)} (hsh : q_shp a = (1, n)) (ha : a < M.1) (hdg : decode cc pc = .ok (.iaload, 1)) (kk : ∀ x, 0 ≤ q_w i → q_w i < (n : Int) → x = M.2 a (q_w i).toNat → q_EXg XP d y cc nL ret (pc + 1) ls (.inl x :: st) M (g x)) : q_EXg XP d y cc nL ret pc ls (.inl i :: .inr (.inr a) :: st) M ((q_ld M a n i).bind g) := by
  by_cases hi : 0 ≤ q_w i ∧ q_w i < (n : Int)
  · rw [q_ldE hi]
    intro x M' ho
    have k0 := kk _ hi.1 hi.2 rfl x M' ho
    refine ⟨?_, k0.2⟩
    intro p l e R s m args below meth c D cA A0 A H locs cells slots mc ms lsA Q hB hX hP hD hS hl hR hn hE
    have hk := k0.1 p l e R s m args below meth c D cA A0 A H locs cells slots mc ms lsA Q hB hX hP hD hS hl hR hn hE
    exact va_iald (D := D) hB.1 hB.2.1 hB.2.2.2.2.2.2.2.2.2.1 hP a 0 (q_arr hsh ha) rfl (q_vin hi) hdg hk
  · rw [q_ldN hi]
    exact q_none
theorem q_cald {a n : Nat} {i : Int} {g : Int → Option (Int × q_Mem)} (hsh : q_shp a = (2, n)) (ha : a < M.1) (hdg : decode cc pc = .ok (.caload, 1)) (kk : ∀ x, 0 ≤ q_w i → q_w i < (n : Int) → x = M.2 a (q_w i).toNat → q_EXg XP d y cc nL ret (pc + 1) ls (.inl x :: st) M (g x)) : q_EXg XP d y cc nL ret pc ls (.inl i :: .inr (.inr a) :: st) M ((q_ld M a n i).bind g) := by
  by_cases hi : 0 ≤ q_w i ∧ q_w i < (n : Int)
  · rw [q_ldE hi]
    intro x M' ho
    have k0 := kk _ hi.1 hi.2 rfl x M' ho
    refine ⟨?_, k0.2⟩
    intro p l e R s m args below meth c D cA A0 A H locs cells slots mc ms lsA Q hB hX hP hD hS hl hR hn hE
    have hk := k0.1 p l e R s m args below meth c D cA A0 A H locs cells slots mc ms lsA Q hB hX hP hD hS hl hR hn hE
    exact va_cald (D := D) hB.1 hB.2.1 hB.2.2.2.2.2.2.2.2.2.1 hP a 1 (q_arr hsh ha) rfl (q_vin hi) hdg hk
  · rw [q_ldN hi]
    exact q_none
theorem q_zald {a n : Nat} {i : Int} {g : Int → Option (Int × q_Mem)} (hsh : q_shp a = (3, n)) (ha : a < M.1) (hdg : decode cc pc = .ok (.baload, 1)) (kk : ∀ x, 0 ≤ q_w i → q_w i < (n : Int) → x = M.2 a (q_w i).toNat → q_EXg XP d y cc nL ret (pc + 1) ls (.inl x :: st) M (g x)) : q_EXg XP d y cc nL ret pc ls (.inl i :: .inr (.inr a) :: st) M ((q_ld M a n i).bind g) := by
  by_cases hi : 0 ≤ q_w i ∧ q_w i < (n : Int)
  · rw [q_ldE hi]
    intro x M' ho
    have k0 := kk _ hi.1 hi.2 rfl x M' ho
    refine ⟨?_, k0.2⟩
    intro p l e R s m args below meth c D cA A0 A H locs cells slots mc ms lsA Q hB hX hP hD hS hl hR hn hE
    have hk := k0.1 p l e R s m args below meth c D cA A0 A H locs cells slots mc ms lsA Q hB hX hP hD hS hl hR hn hE
    exact va_zald (D := D) hB.1 hB.2.1 hB.2.2.2.2.2.2.2.2.2.1 hP a 2 (q_arr hsh ha) rfl (q_vin hi) hdg hk
  · rw [q_ldN hi]
    exact q_none
theorem q_lald {a n : Nat} {i : Int} {g : Int → Option (Int × q_Mem)} (hsh : q_shp a = (4, n)) (ha : a < M.1) (hdg : decode cc pc = .ok (.laload, 1)) (kk : ∀ x, 0 ≤ q_w i → q_w i < (n : Int) → x = M.2 a (q_w i).toNat → q_EXg XP d y cc nL ret (pc + 1) ls (.inr (.inl x) :: st) M (g x)) : q_EXg XP d y cc nL ret pc ls (.inl i :: .inr (.inr a) :: st) M ((q_ld M a n i).bind g) := by
  by_cases hi : 0 ≤ q_w i ∧ q_w i < (n : Int)
  · rw [q_ldE hi]
    intro x M' ho
    have k0 := kk _ hi.1 hi.2 rfl x M' ho
    refine ⟨?_, k0.2⟩
    intro p l e R s m args below meth c D cA A0 A H locs cells slots mc ms lsA Q hB hX hP hD hS hl hR hn hE
    have hk := k0.1 p l e R s m args below meth c D cA A0 A H locs cells slots mc ms lsA Q hB hX hP hD hS hl hR hn hE
    exact va_lald (D := D) hB.1 hB.2.1 hB.2.2.2.2.2.2.2.2.2.1 hP a 3 (q_arr hsh ha) rfl (q_vin hi) hdg hk
  · rw [q_ldN hi]
    exact q_none
/-- a row of an array of arrays: its number is a constant of the world -/
theorem q_aald {a n : Nat} {i : Int} {g : Int → Option (Int × q_Mem)} (hsh : q_shp a = (5, n)) (ha : a < M.1) (h0 : ∀ j : Nat, j < n → 0 ≤ M.2 a j) (hdg : decode cc pc = .ok (.aaload, 1)) (kk : ∀ x, 0 ≤ q_w i → q_w i < (n : Int) → x = M.2 a (q_w i).toNat → q_EXg XP d y cc nL ret (pc + 1) ls (.inr (.inr x.toNat) :: st) M (g x)) : q_EXg XP d y cc nL ret pc ls (.inl i :: .inr (.inr a) :: st) M ((q_ld M a n i).bind g) := by
  by_cases hi : 0 ≤ q_w i ∧ q_w i < (n : Int)
  · rw [q_ldE hi]
    intro x M' ho
    have k0 := kk _ hi.1 hi.2 rfl x M' ho
    refine ⟨?_, k0.2⟩
    intro p l e R s m args below meth c D cA A0 A H locs cells slots mc ms lsA Q hB hX hP hD hS hl hR hn hE
    have hk := k0.1 p l e R s m args below meth c D cA A0 A H locs cells slots mc ms lsA Q hB hX hP hD hS hl hR hn hE
    have hlt : (Int32.ofInt i).toNatClampNeg < n := by
      show (q_w i).toNat < n
      omega
    have h00 : 0 ≤ M.2 a (q_w i).toNat := h0 _ hlt
    have hv : (if M.2 a (Int32.ofInt i).toNatClampNeg < 0 then none else some (A (M.2 a (Int32.ofInt i).toNatClampNeg).toNat)) = some (A (M.2 a (q_w i).toNat).toNat) := by
      show (if M.2 a (q_w i).toNat < 0 then none else some (A (M.2 a (q_w i).toNat).toNat)) = _
      rw [if_neg (by omega)]
    refine W.aald (v := .ref (A (M.2 a (q_w i).toNat).toNat)) (ty := .array .int) hB.1 hB.2.1 (hP a _ (q_arr hsh ha)) ((hB.2.2.2.2.2.2.2.2.2.1.2 4 (cA 4, .array .int) rfl).1 n (fun j => va_rf (if M.2 a j < 0 then none else some (A (M.2 a j).toNat)))) rfl (fun q => by cases q) (by show ¬ (Int32.ofInt i < 0 ∨ (arrV _ _ _).slots.size ≤ _); rw [arrV_size]; exact q_vin hi) ?_ rfl rfl hdg hk
    show (arrV _ _ _).slots[_]? = _
    rw [arrV_read _ _ hlt]
    exact congrArg (fun z => some (va_rf z)) hv
  · rw [q_ldN hi]
    exact q_none
theorem q_setA {A : Nat → Nat} {cA : Nat → ClassId} {a t n k : Nat} {v : Int} {e : va_E} (hsh : q_shp a = (t, n)) (ha : a < M.1) (he : e = q_cellE A cA (t, n) (q_u1 (M.2 a) k v)) : (q_ws A cA M).set a (A a, e) = q_ws A cA (q_up M a k v) := q_ws_set ha (by rw [hsh]; exact he)
theorem q_updI (f : Nat → Int) (k : Nat) (v : Int) : upd (fun j => Int32.ofInt (f j)) k (Int32.ofInt v) = fun j => Int32.ofInt (q_u1 f k v j) := by
  funext j
  by_cases h : j = k
  · subst h; simp [upd, q_u1]
  · simp [upd, q_u1, h]
theorem q_updJ (f : Nat → Int) (k : Nat) (v : Int) : vp_updL (fun j => Int64.ofInt (f j)) k (Int64.ofInt v) = fun j => Int64.ofInt (q_u1 f k v j) := by
  funext j
  by_cases h : j = k
  · subst h; simp [vp_updL, q_u1]
  · simp [vp_updL, q_u1, h]
theorem q_iast {a n : Nat} {i v : Int} {g : q_Mem → Option (Int × q_Mem)} (hsh : q_shp a = (1, n)) (ha : a < M.1) (hdg : decode cc pc = .ok (.iastore, 1)) (kk : ∀ M1, 0 ≤ q_w i → q_w i < (n : Int) → M1 = q_up M a (q_w i).toNat v → q_EXg XP d y cc nL ret (pc + 1) ls st M1 (g M1)) : q_EXg XP d y cc nL ret pc ls (.inl v :: .inl i :: .inr (.inr a) :: st) M ((q_sto M a n i v).bind g) := by
  by_cases hi : 0 ≤ q_w i ∧ q_w i < (n : Int)
  · rw [q_stoE hi]
    intro x M' ho
    have k0 := kk _ hi.1 hi.2 rfl x M' ho
    refine ⟨?_, fun h => k0.2.1 (q_Ok_arr (t := 0) h hsh (by decide)), k0.2.2.1, fun hl6 hv => k0.2.2.2 hl6 (q_RV_a (t := 0) hv hsh (by decide))⟩
    intro p l e R s m args below meth c D cA A0 A H locs cells slots mc ms lsA Q hB hX hP hD hS hl hR hn hE
    refine va_iast (D := D) hB.1 hB.2.1 hB.2.2.2.2.2.2.2.2.2.1 hP hD hS a 0 (q_arr hsh ha) rfl (q_vin hi) hdg (fun H1 locs1 hP1 hD1 hS1 => ?_)
    rw [q_setA (k := (q_w i).toNat) (v := v) hsh ha (by rw [q_updI]; rfl)] at hP1 hD1
    exact k0.1 p l e R s m args below meth c D cA A0 A H1 locs1 cells slots mc ms lsA Q hB hX hP1 hD1 hS1 hl hR hn hE
  · rw [q_stoN hi]
    exact q_none
theorem q_last {a n : Nat} {i v : Int} {g : q_Mem → Option (Int × q_Mem)} (hsh : q_shp a = (4, n)) (ha : a < M.1) (hdg : decode cc pc = .ok (.lastore, 1)) (kk : ∀ M1, 0 ≤ q_w i → q_w i < (n : Int) → M1 = q_up M a (q_w i).toNat v → q_EXg XP d y cc nL ret (pc + 1) ls st M1 (g M1)) : q_EXg XP d y cc nL ret pc ls (.inr (.inl v) :: .inl i :: .inr (.inr a) :: st) M ((q_sto M a n i v).bind g) := by
  by_cases hi : 0 ≤ q_w i ∧ q_w i < (n : Int)
  · rw [q_stoE hi]
    intro x M' ho
    have k0 := kk _ hi.1 hi.2 rfl x M' ho
    refine ⟨?_, fun h => k0.2.1 (q_Ok_arr (t := 3) h hsh (by decide)), k0.2.2.1, fun hl6 hv => k0.2.2.2 hl6 (q_RV_a (t := 3) hv hsh (by decide))⟩
    intro p l e R s m args below meth c D cA A0 A H locs cells slots mc ms lsA Q hB hX hP hD hS hl hR hn hE
    refine va_last (D := D) hB.1 hB.2.1 hB.2.2.2.2.2.2.2.2.2.1 hP hD hS a 3 (q_arr hsh ha) rfl (q_vin hi) hdg (fun H1 locs1 hP1 hD1 hS1 => ?_)
    rw [q_setA (k := (q_w i).toNat) (v := v) hsh ha (by rw [q_updJ]; rfl)] at hP1 hD1
    exact k0.1 p l e R s m args below meth c D cA A0 A H1 locs1 cells slots mc ms lsA Q hB hX hP1 hD1 hS1 hl hR hn hE
  · rw [q_stoN hi]
    exact q_none
theorem q_zast {a n : Nat} {i v : Int} {g : q_Mem → Option (Int × q_Mem)} (hsh : q_shp a = (3, n)) (ha : a < M.1) (hv : v = 0 ∨ v = 1) (hdg : decode cc pc = .ok (.bastore, 1)) (kk : ∀ M1, 0 ≤ q_w i → q_w i < (n : Int) → M1 = q_up M a (q_w i).toNat v → q_EXg XP d y cc nL ret (pc + 1) ls st M1 (g M1)) : q_EXg XP d y cc nL ret pc ls (.inl v :: .inl i :: .inr (.inr a) :: st) M ((q_sto M a n i v).bind g) := by
  by_cases hi : 0 ≤ q_w i ∧ q_w i < (n : Int)
  · rw [q_stoE hi]
    intro x M' ho
    have k0 := kk _ hi.1 hi.2 rfl x M' ho
    refine ⟨?_, fun h => k0.2.1 (q_Ok_arr (t := 2) h hsh (by decide)), k0.2.2.1, fun hl6 hv => k0.2.2.2 hl6 (q_RV_a (t := 2) hv hsh (by decide))⟩
    intro p l e R s m args below meth c D cA A0 A H locs cells slots mc ms lsA Q hB hX hP hD hS hl hR hn hE
    refine va_zast (D := D) hB.1 hB.2.1 hB.2.2.2.2.2.2.2.2.2.1 hP hD hS a 2 (q_arr hsh ha) rfl (q_vin hi) hdg (fun H1 locs1 hP1 hD1 hS1 => ?_)
    have hnv : vp_nar .boolean (Int32.ofInt v) = Int32.ofInt v := by rcases hv with rfl | rfl <;> rfl
    rw [hnv] at hP1 hD1
    rw [q_setA (k := (q_w i).toNat) (v := v) hsh ha (by rw [q_updI]; rfl)] at hP1 hD1
    exact k0.1 p l e R s m args below meth c D cA A0 A H1 locs1 cells slots mc ms lsA Q hB hX hP1 hD1 hS1 hl hR hn hE
  · rw [q_stoN hi]
    exact q_none
theorem q_cast {a n : Nat} {i v : Int} {g : q_Mem → Option (Int × q_Mem)} (hsh : q_shp a = (2, n)) (ha : a < M.1) (hv : vp_nar .char (Int32.ofInt v) = Int32.ofInt v) (hdg : decode cc pc = .ok (.castore, 1)) (kk : ∀ M1, 0 ≤ q_w i → q_w i < (n : Int) → M1 = q_up M a (q_w i).toNat v → q_EXg XP d y cc nL ret (pc + 1) ls st M1 (g M1)) : q_EXg XP d y cc nL ret pc ls (.inl v :: .inl i :: .inr (.inr a) :: st) M ((q_sto M a n i v).bind g) := by
  by_cases hi : 0 ≤ q_w i ∧ q_w i < (n : Int)
  · rw [q_stoE hi]
    intro x M' ho
    have k0 := kk _ hi.1 hi.2 rfl x M' ho
    refine ⟨?_, fun h => k0.2.1 (q_Ok_arr (t := 1) h hsh (by decide)), k0.2.2.1, fun hl6 hv => k0.2.2.2 hl6 (q_RV_a (t := 1) hv hsh (by decide))⟩
    intro p l e R s m args below meth c D cA A0 A H locs cells slots mc ms lsA Q hB hX hP hD hS hl hR hn hE
    refine va_cast (D := D) hB.1 hB.2.1 hB.2.2.2.2.2.2.2.2.2.1 hP hD hS a 1 (q_arr hsh ha) rfl (q_vin hi) hdg (fun H1 locs1 hP1 hD1 hS1 => ?_)
    rw [hv] at hP1 hD1
    rw [q_setA (k := (q_w i).toNat) (v := v) hsh ha (by rw [q_updI]; rfl)] at hP1 hD1
    exact k0.1 p l e R s m args below meth c D cA A0 A H1 locs1 cells slots mc ms lsA Q hB hX hP1 hD1 hS1 hl hR hn hE
  · rw [q_stoN hi]
    exact q_none
theorem q_alen {a t n : Nat} (hsh : q_shp a = (t + 1, n)) (ht : t < 4) (ha : a < M.1) (hdg : decode cc pc = .ok (.arraylength, 1)) (kk : q_EXg XP d y cc nL ret (pc + 1) ls (.inl (n : Int) :: st) M o) : q_EXg XP d y cc nL ret pc ls (.inr (.inr a) :: st) M o := by
  intro x M' ho
  have k0 := kk x M' ho
  refine ⟨?_, k0.2⟩
  intro p l e R s m args below meth c D cA A0 A H locs cells slots mc ms lsA Q hB hX hP hD hS hl hR hn hE
  have hk := k0.1 p l e R s m args below meth c D cA A0 A H locs cells slots mc ms lsA Q hB hX hP hD hS hl hR hn hE
  have hq := q_arr (A := A) (cA := cA) hsh ha
  have hK := hB.2.2.2.2.2.2.2.2.2.1
  rcases (show t = 0 ∨ t = 1 ∨ t = 2 ∨ t = 3 by omega) with rfl | rfl | rfl | rfl
  · exact va_alen (D := D) hB.1 hB.2.1 hK hP a 0 hq (ty := .int) rfl Int32.ofInt_eq_ofNat.symm hdg hk
  · exact va_alen (D := D) hB.1 hB.2.1 hK hP a 1 hq (ty := .char) rfl Int32.ofInt_eq_ofNat.symm hdg hk
  · exact va_alen (D := D) hB.1 hB.2.1 hK hP a 2 hq (ty := .boolean) rfl Int32.ofInt_eq_ofNat.symm hdg hk
  · exact va_alen (D := D) hB.1 hB.2.1 hK hP a 3 hq (ty := .long) rfl Int32.ofInt_eq_ofNat.symm hdg hk
/-! the end of a method -/
theorem q_ret {x : Int} (h : q_isret cc ret pc x) (hs : st = q_rv ret x) : q_EXg XP d y cc nL ret pc ls st M (some (x, M)) := by
  intro x' M' ho
  cases ho
  refine ⟨?_, id, Nat.le_refl _, fun _ h => h⟩
  intro p l e R s m args below meth c D cA A0 A H locs cells slots mc ms lsA Q hB hX hP hD hS hl hR hn hE
  subst hs
  exact W.widen (by omega) (by omega) (hE A H locs lsA pc ⟨fun _ _ => rfl, fun _ => rfl, rfl, rfl, rfl⟩ hP hD hS h)
theorem q_retz {x : Int} (hdg : decode cc pc = .ok (.ireturn, 1)) (hr : ret = some .boolean) : q_EXg XP d y cc nL ret pc ls [.inl x] M (if x = 0 ∨ x = 1 then some (x, M) else none) := by
  subst hr
  by_cases h : x = 0 ∨ x = 1
  · rw [if_pos h]
    exact q_ret ⟨hdg, h⟩ rfl
  · rw [if_neg h]
    exact q_none
end QM
