theorem n_w_eq (a : Int) : q_w a = a.bmod 4294967296 := by
  unfold q_w
  rw [Int32.toInt_ofInt]
theorem n_wl_eq (a : Int) : q_wl a = a.bmod 18446744073709551616 := by
  unfold q_wl
  rw [Int64.toInt_ofInt]
theorem n_w {a : Int} (h1 : -2147483648 ≤ a) (h2 : a ≤ 2147483647) : q_w a = a := by
  rw [n_w_eq, Int.bmod_eq_of_le (by omega) (by omega)]
theorem n_wl {a : Int} (h1 : -9223372036854775808 ≤ a) (h2 : a ≤ 9223372036854775807) : q_wl a = a := by
  rw [n_wl_eq, Int.bmod_eq_of_le (by omega) (by omega)]
theorem n_wr (a : Int) : -2147483648 ≤ q_w a ∧ q_w a ≤ 2147483647 := by
  rw [n_w_eq]
  have h1 := Int.le_bmod (x := a) (m := 4294967296) (by decide)
  have h2 := Int.bmod_lt (x := a) (m := 4294967296) (by decide)
  omega
theorem n_ww (a : Int) : q_w (q_w a) = q_w a := n_w (n_wr a).1 (n_wr a).2
theorem n_lcmp {a b : Int} (h1 : -9223372036854775808 ≤ a) (h2 : a ≤ 9223372036854775807) (h3 : -9223372036854775808 ≤ b) (h4 : b ≤ 9223372036854775807) : q_lcmp a b = if b < a then 1 else if a = b then 0 else -1 := by
  unfold q_lcmp
  rw [n_wl h1 h2, n_wl h3 h4]
theorem n_toInt {a : Int} (h1 : -2147483648 ≤ a) (h2 : a ≤ 2147483647) : (Int32.ofInt a).toInt = a := n_w h1 h2
theorem n_bv (a : Int) : (Int32.ofInt a).toBitVec = BitVec.ofInt 32 a := rfl
theorem n_and (a : Int) (k : Nat) (hk : k < 31) : q_and a (2 ^ k - 1) = a % 2 ^ k := by
  unfold q_and
  rw [← Int32.toInt_toBitVec, Int32.toBitVec_and, n_bv, n_bv]
  have hp : (0 : Int) < 2 ^ k := Int.pow_pos (by decide)
  have hp1 : (2 : Nat) ^ k < 2 ^ 31 := Nat.pow_lt_pow_right (by decide) hk
  have h1 : (BitVec.ofInt 32 a &&& BitVec.ofInt 32 (2 ^ k - 1)).toNat = (a % 2 ^ k).toNat := by
    rw [BitVec.toNat_and, BitVec.toNat_ofInt, BitVec.toNat_ofInt]
    have e1 : ((2 ^ k - 1 : Int) % ((2 ^ 32 : Nat) : Int)).toNat = 2 ^ k - 1 := by
      have : (2 ^ k - 1 : Int) = ((2 ^ k - 1 : Nat) : Int) := by
        rw [Int.natCast_sub (Nat.one_le_two_pow (n := k))]
        rfl
      rw [this, ← Int.natCast_emod, Int.toNat_natCast, Nat.mod_eq_of_lt (by omega)]
    rw [e1, Nat.and_two_pow_sub_one_eq_mod]
    apply Int.ofNat_inj.mp
    rw [Int.natCast_emod, Int.toNat_of_nonneg (Int.emod_nonneg _ (by decide)), Int.toNat_of_nonneg (Int.emod_nonneg _ (by omega))]
    have hd : ((2 ^ k : Nat) : Int) ∣ ((2 ^ 32 : Nat) : Int) := Int.natCast_dvd_natCast.mpr (Nat.pow_dvd_pow 2 (by omega))
    rw [Int.emod_emod_of_dvd _ hd]
    norm_cast
  have h3 : (a % 2 ^ k) < 2 ^ k := Int.emod_lt_of_pos _ hp
  have h4 : 0 ≤ a % 2 ^ k := Int.emod_nonneg _ (by omega)
  have h5 : ((2 : Int) ^ k) < 2147483648 := Int.ofNat_lt.mpr hp1
  rw [BitVec.toInt_eq_toNat_of_lt (by rw [h1]; omega), h1]
  omega
theorem n_and255 (a : Int) : q_and a 255 = a % 256 := n_and a 8 (by decide)
theorem n_and1 (a : Int) : q_and a 1 = a % 2 := n_and a 1 (by decide)
theorem n_and31 (a : Int) : q_and a 31 = a % 32 := n_and a 5 (by decide)
theorem n_and63 (a : Int) : q_and a 63 = a % 64 := n_and a 6 (by decide)
theorem n_sha : ∀ k : Fin 32, ((Int32.ofInt (k.val : Int) &&& 31).toBitVec.smod 32).toNat = k.val := by decide +kernel
theorem n_shr {a b : Int} (h1 : -2147483648 ≤ a) (h2 : a ≤ 2147483647) (h3 : 0 ≤ b) (h4 : b < 32) : q_shr a b = a / 2 ^ b.toNat := by
  unfold q_shr
  obtain ⟨k, rfl⟩ := Int.eq_ofNat_of_zero_le h3
  have hk : k < 32 := by omega
  show (BitVec.sshiftRight' (Int32.ofInt a).toBitVec ((Int32.ofInt (k : Int) &&& 31).toBitVec.smod 32)).toInt = _
  rw [BitVec.toInt_sshiftRight', n_sha ⟨k, hk⟩, Int.shiftRight_eq_div_pow]
  have e : (Int32.ofInt a).toBitVec.toInt = a := n_toInt h1 h2
  rw [e, Int.toNat_natCast]
  rfl
theorem n_shl {a b : Int} (h1 : 0 ≤ a) (h3 : 0 ≤ b) (h4 : b < 32) (h2 : a * 2 ^ b.toNat ≤ 2147483647) (h5 : a ≤ 2147483647) : q_shl a b = a * 2 ^ b.toNat := by
  unfold q_shl
  obtain ⟨k, rfl⟩ := Int.eq_ofNat_of_zero_le h3
  obtain ⟨n, rfl⟩ := Int.eq_ofNat_of_zero_le h1
  have hk : k < 32 := by omega
  rw [Int.toNat_natCast] at h2 ⊢
  show ((Int32.ofInt (n : Int)).toBitVec <<< ((Int32.ofInt (k : Int) &&& 31).toBitVec.smod 32)).toInt = _
  rw [BitVec.shiftLeft_eq', n_sha ⟨k, hk⟩, BitVec.toInt_shiftLeft]
  have e : (Int32.ofInt (n : Int)).toBitVec.toNat = n := by
    rw [n_bv, BitVec.toNat_ofInt]
    omega
  rw [e, Nat.shiftLeft_eq]
  have e2 : ((n * 2 ^ k : Nat) : Int) = (n : Int) * 2 ^ k := by
    rw [Int.natCast_mul]
    rfl
  rw [e2]
  have h0 : (0 : Int) ≤ (n : Int) * 2 ^ k := by rw [← e2]; omega
  exact Int.bmod_eq_of_le (by simp; omega) (by simp; omega)
theorem n_natbv {n : Nat} (h : n ≤ 2147483647) : (Int32.ofInt (n : Int)).toBitVec.toNat = n := by
  rw [n_bv, BitVec.toNat_ofInt]
  omega
theorem n_orN {a b : Nat} (ha : a ≤ 2147483647) (hb : b ≤ 2147483647) : q_or (a : Int) (b : Int) = ((a ||| b : Nat) : Int) := by
  unfold q_or
  have hl : a ||| b < 2 ^ 31 := Nat.or_lt_two_pow (by omega) (by omega)
  have e : (Int32.ofInt (a : Int) ||| Int32.ofInt (b : Int)).toBitVec.toNat = a ||| b := by
    rw [Int32.toBitVec_or, BitVec.toNat_or, n_natbv ha, n_natbv hb]
  rw [← Int32.toInt_toBitVec, BitVec.toInt_eq_toNat_of_lt (by rw [e]; omega), e]
theorem n_andN {a b : Nat} (ha : a ≤ 2147483647) (hb : b ≤ 2147483647) : q_and (a : Int) (b : Int) = ((a &&& b : Nat) : Int) := by
  unfold q_and
  have hl : a &&& b < 2 ^ 31 := Nat.and_lt_two_pow _ (by omega)
  have e : (Int32.ofInt (a : Int) &&& Int32.ofInt (b : Int)).toBitVec.toNat = a &&& b := by
    rw [Int32.toBitVec_and, BitVec.toNat_and, n_natbv ha, n_natbv hb]
  rw [← Int32.toInt_toBitVec, BitVec.toInt_eq_toNat_of_lt (by rw [e]; omega), e]
theorem n_two {a b : Int} (h1 : 0 ≤ a) (h2 : a ≤ 255) (h3 : 0 ≤ b) (h4 : b ≤ 255) : q_or (q_shl a 8) b = 256 * a + b := by
  rw [n_shl h1 (by decide) (by decide) (by show a * 256 ≤ _; omega) (by omega)]
  obtain ⟨n, rfl⟩ := Int.eq_ofNat_of_zero_le h1
  obtain ⟨m, rfl⟩ := Int.eq_ofNat_of_zero_le h3
  have e : (n : Int) * (2 : Int) ^ (8 : Int).toNat = ((n <<< 8 : Nat) : Int) := by
    rw [Nat.shiftLeft_eq, Int.natCast_mul]
    rfl
  rw [e, n_orN (by rw [Nat.shiftLeft_eq]; omega) (by omega), ← Nat.shiftLeft_add_eq_or_of_lt (by omega : m < 2 ^ 8), Nat.shiftLeft_eq]
  omega
theorem n_mn : Int32.minValue.toInt = -2147483648 := by decide +kernel
theorem n_mx : Int32.maxValue.toInt = 2147483647 := by decide +kernel
theorem n_mnl : Int64.minValue.toInt = -9223372036854775808 := by decide +kernel
theorem n_mxl : Int64.maxValue.toInt = 9223372036854775807 := by decide +kernel
theorem n_dv {a b : Int} (h1 : -2147483648 ≤ a) (h2 : a ≤ 2147483647) (h3 : -2147483648 ≤ b) (h4 : b ≤ 2147483647) : Int32.ofInt a / Int32.ofInt b = Int32.ofInt (a.tdiv b) :=
  (Int32.ofInt_tdiv (by rw [n_mn]; exact h1) (by rw [n_mx]; exact h2) (by rw [n_mn]; exact h3) (by rw [n_mx]; exact h4)).symm
theorem n_dvl {a b : Int} (h1 : -9223372036854775808 ≤ a) (h2 : a ≤ 9223372036854775807) (h3 : -9223372036854775808 ≤ b) (h4 : b ≤ 9223372036854775807) : Int64.ofInt a / Int64.ofInt b = Int64.ofInt (a.tdiv b) :=
  (Int64.ofInt_tdiv (by rw [n_mnl]; exact h1) (by rw [n_mxl]; exact h2) (by rw [n_mnl]; exact h3) (by rw [n_mxl]; exact h4)).symm
theorem n_tdb (a b : Int) : -(a.natAbs : Int) ≤ a.tdiv b ∧ a.tdiv b ≤ (a.natAbs : Int) := by
  have h : (a.tdiv b).natAbs ≤ a.natAbs := Int.natAbs_tdiv_le_natAbs a b
  omega
theorem n_div {a b : Int} (h1 : -2147483647 ≤ a) (h2 : a ≤ 2147483647) (h3 : -2147483648 ≤ b) (h4 : b ≤ 2147483647) : q_div a b = a.tdiv b := by
  unfold q_div
  rw [n_dv (by omega) h2 h3 h4]
  have := n_tdb a b
  exact n_toInt (by omega) (by omega)
theorem n_ldiv {a b : Int} (h1 : -9223372036854775807 ≤ a) (h2 : a ≤ 9223372036854775807) (h3 : -9223372036854775808 ≤ b) (h4 : b ≤ 9223372036854775807) : q_ldiv a b = a.tdiv b := by
  unfold q_ldiv
  rw [n_dvl (by omega) h2 h3 h4]
  have := n_tdb a b
  exact n_wl (by omega) (by omega)
theorem n_tmb (a b : Int) : -(a.natAbs : Int) ≤ a.tmod b ∧ a.tmod b ≤ (a.natAbs : Int) := by
  have h : (a.tmod b).natAbs ≤ a.natAbs := by
    rw [Int.natAbs_tmod]
    exact Nat.mod_le _ _
  omega
theorem n_rem {a b : Int} (h1 : -2147483647 ≤ a) (h2 : a ≤ 2147483647) (h3 : -2147483648 ≤ b) (h4 : b ≤ 2147483647) : q_rem a b = a.tmod b := by
  unfold q_rem
  rw [n_dv (by omega) h2 h3 h4, ← Int32.ofInt_mul, ← Int32.ofInt_sub, Int.mul_comm, ← Int.tmod_def]
  have := n_tmb a b
  exact n_toInt (by omega) (by omega)
theorem n_lrem {a b : Int} (h1 : -9223372036854775807 ≤ a) (h2 : a ≤ 9223372036854775807) (h3 : -9223372036854775808 ≤ b) (h4 : b ≤ 9223372036854775807) : q_lrem a b = a.tmod b := by
  unfold q_lrem
  rw [n_dvl (by omega) h2 h3 h4, ← Int64.ofInt_mul, ← Int64.ofInt_sub, Int.mul_comm, ← Int.tmod_def]
  have := n_tmb a b
  exact n_wl (by omega) (by omega)
theorem n_tm {a b : Int} (h1 : 0 ≤ a) : a.tmod b = a % b := Int.tmod_eq_emod_of_nonneg h1
theorem n_td {a b : Int} (h1 : 0 ≤ a) : a.tdiv b = a / b := Int.tdiv_eq_ediv_of_nonneg h1
theorem n_neg (a : Int) (h1 : -2147483648 ≤ a) (h2 : a ≤ 2147483647) : (Int32.ofInt a).toBitVec.msb = decide (a < 0) := by
  rw [BitVec.msb_eq_toInt]
  rw [show (Int32.ofInt a).toBitVec.toInt = a from n_toInt h1 h2]
theorem n_xor {a b : Int} (h1 : -2147483648 ≤ a) (h2 : a ≤ 2147483647) (h3 : -2147483648 ≤ b) (h4 : b ≤ 2147483647) : (q_w (q_xor a b) < 0) ↔ ((a < 0) ≠ (b < 0)) := by
  have hr : -2147483648 ≤ q_xor a b ∧ q_xor a b ≤ 2147483647 := by
    unfold q_xor
    have h := n_wr ((Int32.ofInt a ^^^ Int32.ofInt b).toInt)
    have e : q_w ((Int32.ofInt a ^^^ Int32.ofInt b).toInt) = (Int32.ofInt a ^^^ Int32.ofInt b).toInt := by
      unfold q_w
      rw [Int32.ofInt_toInt]
    rw [e] at h
    exact h
  rw [n_w hr.1 hr.2]
  unfold q_xor
  rw [← Int32.toInt_toBitVec]
  have k : (Int32.ofInt a ^^^ Int32.ofInt b).toBitVec.msb = decide ((Int32.ofInt a ^^^ Int32.ofInt b).toBitVec.toInt < 0) := BitVec.msb_eq_toInt
  have k2 : (Int32.ofInt a ^^^ Int32.ofInt b).toBitVec.msb = ((decide (a < 0)) ^^ (decide (b < 0))) := by
    rw [Int32.toBitVec_xor, BitVec.msb_xor, n_neg a h1 h2, n_neg b h3 h4]
  rw [k2] at k
  have k3 := decide_eq_true_iff (p := (Int32.ofInt a ^^^ Int32.ofInt b).toBitVec.toInt < 0)
  rw [← k3, ← k]
  by_cases ha : a < 0 <;> by_cases hb : b < 0 <;> simp [ha, hb]
theorem n_max {a b : Int} (h1 : -2147483648 ≤ a) (h2 : a ≤ 2147483647) (h3 : -2147483648 ≤ b) (h4 : b ≤ 2147483647) : q_max a b = if a < b then b else a := by
  unfold q_max
  rw [n_w h1 h2, n_w h3 h4]
theorem n_min {a b : Int} (h1 : -2147483648 ≤ a) (h2 : a ≤ 2147483647) (h3 : -2147483648 ≤ b) (h4 : b ≤ 2147483647) : q_min a b = if b < a then b else a := by
  unfold q_min
  rw [n_w h1 h2, n_w h3 h4]
theorem n_abs {a : Int} (h1 : -2147483647 ≤ a) (h2 : a ≤ 2147483647) : q_abs a = if 0 ≤ a then a else -a := by
  unfold q_abs
  rw [n_w (by omega) h2, Int.zero_sub]
def q_P (o : Option (Int × q_Mem)) (Q : Int → q_Mem → Prop) : Prop := ∃ r M', o = some (r, M') ∧ Q r M'
theorem w_some {r : Int} {M : q_Mem} {Q : Int → q_Mem → Prop} : q_P (some (r, M)) Q ↔ Q r M := by
  constructor
  · rintro ⟨r', M', h, hq⟩
    cases h
    exact hq
  · intro h
    exact ⟨r, M, rfl, h⟩
theorem w_bd {o : Option (Int × q_Mem)} {g : Int → q_Mem → Option (Int × q_Mem)} {Q : Int → q_Mem → Prop} : q_P (q_bd o g) Q ↔ q_P o (fun r M => q_P (g r M) Q) := by
  constructor
  · rintro ⟨r', M', h, hq⟩
    cases o with
    | none => cases h
    | some z => exact ⟨z.1, z.2, rfl, r', M', h, hq⟩
  · rintro ⟨r', M', rfl, r2, M2, h2, hq⟩
    exact ⟨r2, M2, h2, hq⟩
theorem w_mono {o : Option (Int × q_Mem)} {Q Q' : Int → q_Mem → Prop} (h : q_P o Q) (hq : ∀ r M, Q r M → Q' r M) : q_P o Q' := by
  obtain ⟨r, M, h1, h2⟩ := h
  exact ⟨r, M, h1, hq _ _ h2⟩
theorem w_call {o : Option (Int × q_Mem)} {g : Int → q_Mem → Option (Int × q_Mem)} {Q Q' : Int → q_Mem → Prop} (h : q_P o Q') (hq : ∀ r M, Q' r M → q_P (g r M) Q) : q_P (q_bd o g) Q := w_bd.mpr (w_mono h hq)
theorem w_eq {o : Option (Int × q_Mem)} {Q : Int → q_Mem → Prop} {r : Int} {M : q_Mem} (h : o = some (r, M)) (hq : Q r M) : q_P o Q := ⟨r, M, h, hq⟩
theorem w_ite {c : Prop} [Decidable c] {a b : Option (Int × q_Mem)} {Q : Int → q_Mem → Prop} (h1 : c → q_P a Q) (h2 : ¬ c → q_P b Q) : q_P (if c then a else b) Q := by
  by_cases h : c
  · rw [if_pos h]
    exact h1 h
  · rw [if_neg h]
    exact h2 h
theorem w_ld {M : q_Mem} {a n : Nat} {i : Int} {f : Int → Option (Int × q_Mem)} {Q : Int → q_Mem → Prop} (h1 : 0 ≤ q_w i) (h2 : q_w i < (n : Int)) (h : q_P (f (M.2 a (q_w i).toNat)) Q) : q_P ((q_ld M a n i).bind f) Q := by
  unfold q_ld
  rw [if_pos ⟨h1, h2⟩]
  exact h
theorem w_sto {M : q_Mem} {a n : Nat} {i v : Int} {f : q_Mem → Option (Int × q_Mem)} {Q : Int → q_Mem → Prop} (h1 : 0 ≤ q_w i) (h2 : q_w i < (n : Int)) (h : q_P (f (q_up M a (q_w i).toNat v)) Q) : q_P ((q_sto M a n i v).bind f) Q := by
  unfold q_sto
  rw [if_pos ⟨h1, h2⟩]
  exact h
theorem b_some {r : Int} {M : q_Mem} {g : Int → q_Mem → Option (Int × q_Mem)} : q_bd (some (r, M)) g = g r M := rfl
theorem b_ld {M : q_Mem} {a n : Nat} {i : Int} (h1 : 0 ≤ i) (h2 : i < (n : Int)) (hn : n ≤ 2147483647) : q_ld M a n i = some (M.2 a i.toNat) := by
  unfold q_ld
  rw [n_w (by omega) (by omega), if_pos ⟨h1, h2⟩]
theorem b_sto {M : q_Mem} {a n : Nat} {i v : Int} (h1 : 0 ≤ i) (h2 : i < (n : Int)) (hn : n ≤ 2147483647) : q_sto M a n i v = some (q_up M a i.toNat v) := by
  unfold q_sto
  rw [n_w (by omega) (by omega), if_pos ⟨h1, h2⟩]
theorem b_rd {M : q_Mem} {a k : Nat} {v : Int} {b : Nat} : (q_up M a k v).2 b = if b = a then q_u1 (M.2 b) k v else M.2 b := by
  unfold q_up q_u1
  show (if b = a then _ else _) = _
  by_cases h : b = a
  · subst h
    rw [if_pos rfl]
  · rw [if_neg h, if_neg h]
theorem b_rd1 {α : Type} {f : Nat → α} {k : Nat} {v : α} {j : Nat} : q_u1 f k v j = if j = k then v else f j := rfl
theorem q_loop {σ : Type} (f : Nat → σ → Option (Int × q_Mem)) (V : σ → Prop) (ms : σ → Nat) (Q : Int → q_Mem → Prop) (step : ∀ n s, V s → (∀ s', V s' → ms s' < ms s → q_P (f n s') Q) → q_P (f (n + 1) s) Q) : ∀ n s, V s → ms s < n → q_P (f n s) Q := by
  intro n
  induction n with
  | zero => intro s _ h; omega
  | succ n ih =>
    intro s hs hm
    exact step n s hs (fun s' hs' hl => ih s' hs' (by omega))
