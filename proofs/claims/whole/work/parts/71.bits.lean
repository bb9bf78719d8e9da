def q_bn : Nat → Nat → Nat
  | 0, _ => 0
  | f + 1, n => if n = 0 then 0 else q_bn f (n &&& (n - 1)) + 1
def q_pb (b : Nat) : Nat := q_bn 9 b
def q_pn (n : Nat) : Nat := q_pb (n / 256) + q_pb (n % 256)
def q_pc (x : Int) : Int := (q_pn x.toNat : Nat)
theorem land_s {h l a b : Nat} (hl : l < 256) (hb : b < 256) : (256 * h + l) &&& (256 * a + b) = 256 * (h &&& a) + (l &&& b) := by
  apply Nat.eq_of_testBit_eq
  intro i
  have hlb : l &&& b < 2 ^ 8 := Nat.lt_of_le_of_lt Nat.and_le_left hl
  rw [Nat.testBit_and, show (256 : Nat) = 2 ^ 8 from rfl, Nat.testBit_two_pow_mul_add _ hl, Nat.testBit_two_pow_mul_add _ hb, Nat.testBit_two_pow_mul_add _ hlb]
  by_cases c : i < 8
  · rw [if_pos c, if_pos c, if_pos c, Nat.testBit_and]
  · rw [if_neg c, if_neg c, if_neg c, Nat.testBit_and]
theorem pb_s : ∀ b : Fin 256, b.val ≠ 0 → q_pb (b.val &&& (b.val - 1)) + 1 = q_pb b.val := by decide +kernel
theorem pn_s {n : Nat} (h : n < 65536) (h0 : n ≠ 0) : q_pn (n &&& (n - 1)) + 1 = q_pn n ∧ n &&& (n - 1) < 65536 := by
  have hle : n &&& (n - 1) ≤ n := Nat.and_le_left
  refine ⟨?_, by omega⟩
  obtain ⟨a, b, hb, rfl⟩ : ∃ a b, b < 256 ∧ n = 256 * a + b := ⟨n / 256, n % 256, by omega, by omega⟩
  have d1 : ∀ x y, y < 256 → (256 * x + y) / 256 = x ∧ (256 * x + y) % 256 = y := fun x y hy => by omega
  by_cases c : b = 0
  · have e : 256 * a + b - 1 = 256 * (a - 1) + 255 := by omega
    rw [e, land_s hb (by decide)]
    unfold q_pn
    have hlt : b &&& 255 < 256 := Nat.lt_of_le_of_lt Nat.and_le_left hb
    rw [(d1 _ _ hlt).1, (d1 _ _ hlt).2, (d1 _ _ hb).1, (d1 _ _ hb).2]
    have := pb_s ⟨a, by omega⟩ (by show a ≠ 0; omega)
    subst c
    simp only [Nat.zero_and]
    simp only at this
    omega
  · have e : 256 * a + b - 1 = 256 * a + (b - 1) := by omega
    rw [e, land_s hb (by omega), Nat.and_self]
    unfold q_pn
    have hlt : b &&& (b - 1) < 256 := Nat.lt_of_le_of_lt Nat.and_le_left hb
    rw [(d1 _ _ hlt).1, (d1 _ _ hlt).2, (d1 _ _ hb).1, (d1 _ _ hb).2]
    have := pb_s ⟨b, hb⟩ c
    simp only at this
    omega
theorem pb_b : ∀ b : Fin 256, q_pb b.val ≤ 8 := by decide +kernel
theorem pn_b {n : Nat} (h : n < 65536) : q_pn n ≤ 16 := by
  unfold q_pn
  have h1 := pb_b ⟨n / 256, by omega⟩
  have h2 := pb_b ⟨n % 256, by omega⟩
  simp only at h1 h2
  omega
theorem r_bits4 : ∀ (g n : Nat) (acc : Int) (M : q_Mem), n < 65536 → q_pn n < g → fX12_bits_4 g acc (n : Int) M = some (acc + (q_pn n : Nat), M) := by
  intro g
  induction g with
  | zero => intro n acc M _ h; omega
  | succ g ih =>
    intro n acc M hn hg
    rw [fX12_bits_4, n_w (by omega) (by omega)]
    by_cases c : n = 0
    · subst c
      rw [if_pos (by decide), show q_pn 0 = 0 from rfl]
      simp
    · obtain ⟨h1, h2⟩ := pn_s hn c
      rw [if_neg (by omega)]
      simp only [q_let]
      rw [show (n : Int) - 1 = ((n - 1 : Nat) : Int) from by omega, n_andN (by omega) (by omega), ih _ _ M h2 (by omega), ← h1]
      have e : acc + 1 + ((q_pn (n &&& (n - 1)) : Nat) : Int) = acc + ((q_pn (n &&& (n - 1)) + 1 : Nat) : Int) := by omega
      rw [e]
theorem r_bits {x : Int} {M : q_Mem} (h1 : 0 ≤ x) (h2 : x < 65536) : fX12_bits x M = some (q_pc x, M) := by
  obtain ⟨n, rfl⟩ := Int.eq_ofNat_of_zero_le h1
  have := pn_b (n := n) (by omega)
  unfold fX12_bits
  rw [r_bits4 q_FU n 0 M (by omega) (by unfold q_FU; omega)]
  unfold q_pc
  rw [Int.toNat_natCast]
  simp
def q_al8 (x : Nat) : Nat := x - ((x / 2) &&& 85)
def q_be8 (x : Nat) : Nat := (x &&& 51) + ((x / 4) &&& 51)
theorem k_al : ∀ x : Fin 256, (x.val / 2) &&& 85 ≤ x.val ∧ q_al8 x.val < 256 ∧ (x.val / 2) &&& 5592405 = (x.val / 2) &&& 85 := by decide +kernel
theorem k_al2 : ∀ (e : Fin 2) (x : Fin 128), (128 * e.val + x.val) &&& 85 = x.val &&& 85 := by decide +kernel
theorem k_be : ∀ x : Fin 256, x.val &&& 3355443 = x.val &&& 51 ∧ (x.val / 4) &&& 3355443 = (x.val / 4) &&& 51 ∧ q_be8 x.val < 256 := by decide +kernel
theorem k_be2 : ∀ (e : Fin 4) (x : Fin 64), (64 * e.val + x.val) &&& 51 = x.val &&& 51 := by decide +kernel
def q_nib (y : Nat) : Bool := decide (y / 16 ≤ 4) && decide (y % 16 ≤ 4)
theorem k_fin : ∀ x : Fin 256, q_nib (q_be8 (q_al8 x.val)) = true ∧ q_be8 (q_al8 x.val) / 16 + q_be8 (q_al8 x.val) % 16 = q_pb x.val := by decide +kernel
theorem k_ga : ∀ (e : Fin 5) (x y : Fin 5), (256 * (16 * e.val + x.val) + (16 * y.val + 0) + 0) = (256 * (16 * e.val + x.val) + 16 * y.val) := by decide +kernel
theorem k_last : ∀ (a b c d : Fin 5), (((256 * (16 * a.val + b.val) + (16 * c.val + d.val)) + ((256 * (16 * a.val + b.val) + (16 * c.val + d.val)) >>> 4)) &&& 252645135) = 256 * (a.val + b.val) + (c.val + d.val) := by decide +kernel
theorem k_sum : ∀ (p q : Fin 9), ((256 * p.val + q.val) + ((256 * p.val + q.val) >>> 8) + (((256 * p.val + q.val) + ((256 * p.val + q.val) >>> 8)) >>> 16)) &&& 63 = p.val + q.val := by decide +kernel
def q_swar (n : Nat) : Nat :=
  let a := n - ((n >>> 1) &&& 1431655765)
  let b := (a &&& 858993459) + ((a >>> 2) &&& 858993459)
  let c := (b + (b >>> 4)) &&& 252645135
  let d := c + (c >>> 8)
  let e := d + (d >>> 16)
  e &&& 63
theorem swar_ok {n : Nat} (hn : n < 65536) : q_swar n = q_pn n := by
  obtain ⟨h, l, hl, hh, rfl⟩ : ∃ h l, l < 256 ∧ h < 256 ∧ n = 256 * h + l := ⟨n / 256, n % 256, by omega, by omega, by omega⟩
  have ah := k_al ⟨h, hh⟩
  have al := k_al ⟨l, hl⟩
  simp only at ah al
  have e1 : (256 * h + l) - (((256 * h + l) >>> 1) &&& 1431655765) = 256 * q_al8 h + q_al8 l := by
    have s1 : (256 * h + l) >>> 1 = 256 * (h / 2) + (128 * (h % 2) + l / 2) := by
      rw [Nat.shiftRight_eq_div_pow]
      omega
    have k2 := k_al2 ⟨h % 2, by omega⟩ ⟨l / 2, by omega⟩
    simp only at k2
    rw [s1, show (1431655765 : Nat) = 256 * 5592405 + 85 from rfl, land_s (by omega) (by decide), ah.2.2, k2]
    unfold q_al8
    omega
  have bh := k_be ⟨q_al8 h, ah.2.1⟩
  have bl := k_be ⟨q_al8 l, al.2.1⟩
  simp only at bh bl
  have e2 : ((256 * q_al8 h + q_al8 l) &&& 858993459) + (((256 * q_al8 h + q_al8 l) >>> 2) &&& 858993459) = 256 * q_be8 (q_al8 h) + q_be8 (q_al8 l) := by
    have s1 : (256 * q_al8 h + q_al8 l) >>> 2 = 256 * (q_al8 h / 4) + (64 * (q_al8 h % 4) + q_al8 l / 4) := by
      rw [Nat.shiftRight_eq_div_pow]
      have := al.2.1
      omega
    have k2 := k_be2 ⟨q_al8 h % 4, by omega⟩ ⟨q_al8 l / 4, by omega⟩
    simp only at k2
    rw [s1, show (858993459 : Nat) = 256 * 3355443 + 51 from rfl, land_s al.2.1 (by decide), land_s (by have := al.2.1; omega) (by decide), bh.1, bh.2.1, k2]
    unfold q_be8
    omega
  have fh := k_fin ⟨h, hh⟩
  have fl := k_fin ⟨l, hl⟩
  simp only [q_nib, Bool.and_eq_true, decide_eq_true_eq] at fh fl
  have e3 := k_last ⟨q_be8 (q_al8 h) / 16, by omega⟩ ⟨q_be8 (q_al8 h) % 16, by omega⟩ ⟨q_be8 (q_al8 l) / 16, by omega⟩ ⟨q_be8 (q_al8 l) % 16, by omega⟩
  simp only at e3
  rw [show 16 * (q_be8 (q_al8 h) / 16) + q_be8 (q_al8 h) % 16 = q_be8 (q_al8 h) from by omega, show 16 * (q_be8 (q_al8 l) / 16) + q_be8 (q_al8 l) % 16 = q_be8 (q_al8 l) from by omega, fh.2, fl.2] at e3
  have ph := pb_b ⟨h, hh⟩
  have pl := pb_b ⟨l, hl⟩
  simp only at ph pl
  have e4 := k_sum ⟨q_pb h, by omega⟩ ⟨q_pb l, by omega⟩
  simp only at e4
  unfold q_swar
  simp only
  rw [e1, e2, e3, e4]
  unfold q_pn
  rw [show (256 * h + l) / 256 = h from by omega, show (256 * h + l) % 256 = l from by omega]
theorem n_ushr {a : Nat} {k : Nat} (ha : a ≤ 2147483647) (hk : k < 32) : q_ushr (a : Int) (k : Int) = ((a >>> k : Nat) : Int) := by
  have hs : ∀ k : Fin 32, ((Int32.ofInt (k.val : Int)).toUInt32 &&& Int32.toUInt32 31).toNat % 32 = k.val := by decide +kernel
  have hle : a >>> k ≤ a := by
    rw [Nat.shiftRight_eq_div_pow]
    exact Nat.div_le_self _ _
  unfold q_ushr
  have e1 : (Int32.ofInt (a : Int)).toUInt32.toNat = a := n_natbv ha
  have e2 : ((Int32.ofInt (a : Int)).toUInt32 >>> ((Int32.ofInt (k : Int)).toUInt32 &&& Int32.toUInt32 31)).toNat = a >>> k := by
    rw [UInt32.toNat_shiftRight, e1, hs ⟨k, hk⟩]
  have e3 : (((Int32.ofInt (a : Int)).toUInt32 >>> ((Int32.ofInt (k : Int)).toUInt32 &&& Int32.toUInt32 31)).toInt32).toBitVec.toNat = a >>> k := e2
  rw [← Int32.toInt_toBitVec, BitVec.toInt_eq_toNat_of_lt (by rw [e3]; omega), e3]
theorem c_bits {x : Int} {M : q_Mem} (h1 : 0 ≤ x) (h2 : x < 65536) : fJ6_bitCount_0f7a4 x M = some (q_pc x, M) := by
  obtain ⟨n, rfl⟩ := Int.eq_ofNat_of_zero_le h1
  unfold fJ6_bitCount_0f7a4
  simp only [q_let]
  have a0 : (n >>> 1) &&& 1431655765 ≤ n := Nat.le_trans Nat.and_le_left (by rw [Nat.shiftRight_eq_div_pow]; exact Nat.div_le_self _ _)
  have ea : (n : Int) - q_and (q_ushr (n : Int) 1) 1431655765 = ((n - ((n >>> 1) &&& 1431655765) : Nat) : Int) := by
    have k1 : n >>> 1 ≤ n := by rw [Nat.shiftRight_eq_div_pow]; exact Nat.div_le_self _ _
    rw [show (1 : Int) = ((1 : Nat) : Int) from rfl, n_ushr (by omega) (by decide), show (1431655765 : Int) = ((1431655765 : Nat) : Int) from rfl, n_andN (by omega) (by decide)]
    omega
  rw [ea]
  generalize ha : n - ((n >>> 1) &&& 1431655765) = a
  have hal : a < 65536 := by omega
  have sh : ∀ (z k : Nat), z >>> k ≤ z := fun z k => by rw [Nat.shiftRight_eq_div_pow]; exact Nat.div_le_self _ _
  have b1 : a &&& 858993459 ≤ a := Nat.and_le_left
  have b2 : (a >>> 2) &&& 858993459 ≤ a >>> 2 := Nat.and_le_left
  have b3 := sh a 2
  have eb : q_and (a : Int) 858993459 + q_and (q_ushr (a : Int) 2) 858993459 = (((a &&& 858993459) + ((a >>> 2) &&& 858993459) : Nat) : Int) := by
    rw [show (2 : Int) = ((2 : Nat) : Int) from rfl, n_ushr (by omega) (by decide), show (858993459 : Int) = ((858993459 : Nat) : Int) from rfl, n_andN (by omega) (by decide), n_andN (by omega) (by decide)]
    omega
  rw [eb]
  generalize hb : (a &&& 858993459) + ((a >>> 2) &&& 858993459) = b
  have c1 := sh b 4
  have c2 : (b + (b >>> 4)) &&& 252645135 ≤ b + (b >>> 4) := Nat.and_le_left
  have ec : q_and ((b : Int) + q_ushr (b : Int) 4) 252645135 = (((b + (b >>> 4)) &&& 252645135 : Nat) : Int) := by
    rw [show (4 : Int) = ((4 : Nat) : Int) from rfl, n_ushr (by omega) (by decide), ← Int.natCast_add, show (252645135 : Int) = ((252645135 : Nat) : Int) from rfl, n_andN (by omega) (by decide)]
  rw [ec]
  generalize hc : (b + (b >>> 4)) &&& 252645135 = c
  have d1 := sh c 8
  have ed : (c : Int) + q_ushr (c : Int) 8 = ((c + (c >>> 8) : Nat) : Int) := by
    rw [show (8 : Int) = ((8 : Nat) : Int) from rfl, n_ushr (by omega) (by decide), ← Int.natCast_add]
  rw [ed]
  generalize hd : c + (c >>> 8) = d
  have e1 := sh d 16
  have ee : (d : Int) + q_ushr (d : Int) 16 = ((d + (d >>> 16) : Nat) : Int) := by
    rw [show (16 : Int) = ((16 : Nat) : Int) from rfl, n_ushr (by omega) (by decide), ← Int.natCast_add]
  rw [ee]
  generalize he : d + (d >>> 16) = e
  rw [show (63 : Int) = ((63 : Nat) : Int) from rfl, n_andN (by omega) (by decide)]
  unfold q_pc
  rw [Int.toNat_natCast, ← swar_ok (n := n) (by omega)]
  unfold q_swar
  simp only [ha, hb, hc, hd, he]
theorem pc_b {x : Int} (h1 : 0 ≤ x) (h2 : x < 65536) : 0 ≤ q_pc x ∧ q_pc x ≤ 16 := by
  have := pn_b (n := x.toNat) (by omega)
  unfold q_pc
  omega
