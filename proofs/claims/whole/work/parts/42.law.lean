/-! ===== the law ===== -/
/-- the script: cell 1002 -/
def q_XL (L : Nat) (xs : Nat → Int32) : State → (Nat → Nat) → (Nat → Prop) → Prop := fun s A A0 => va_X (A 1002) L xs s s.heap ∧ A 1002 < s.heap.size ∧ ¬ A0 (A 1002)
theorem q_XM_L (L : Nat) (xs : Nat → Int32) : q_XM (q_XL L xs) := by
  intro s A A' A0 h hx
  unfold q_XL
  rw [h]
  exact hx
def q_sl (L : Nat) (xs : Nat → Int32) (i : Int) : Option Int := if 0 ≤ q_w i ∧ q_w i < (L : Int) then some ((xs (q_w i).toNat).toInt) else none
section QLW
variable {L : Nat} {xs : Nat → Int32} {d : Nat} {y : MethodName} {cc : ByteArray} {nL : Nat} {ret : Option FieldType} {pc : Nat} {ls : List (Nat × q_V)} {st : List q_V} {M : q_Mem} {o : Option (Int × q_Mem)}
theorem q_sld {i : Int} {g : Int → Option (Int × q_Mem)} (hdg : decode cc pc = .ok (.iaload, 1)) (kk : ∀ x, q_EXg (q_XL L xs) d y cc nL ret (pc + 1) ls (.inl x :: st) M (g x)) : q_EXg (q_XL L xs) d y cc nL ret pc ls (.inl i :: .inr (.inr 1002) :: st) M ((q_sl L xs i).bind g) := by
  by_cases hi : 0 ≤ q_w i ∧ q_w i < (L : Int)
  · have he : q_sl L xs i = some ((xs (q_w i).toNat).toInt) := if_pos hi
    rw [he]
    intro x M' ho
    have k0 := kk _ x M' ho
    refine ⟨?_, k0.2⟩
    intro p l e R s m args below meth c D cA A0 A H locs cells slots mc ms lsA Q hB hX hP hD hS hl hR hn hE
    have hk := k0.1 p l e R s m args below meth c D cA A0 A H locs cells slots mc ms lsA Q hB hX hP hD hS hl hR hn hE
    refine va_sld hB.1 hB.2.1 hX.1 hX.2.1 hX.2.2 hS (q_vin hi) hdg ?_
    have e1 : Int32.ofInt ((xs (q_w i).toNat).toInt) = xs (Int32.ofInt i).toNatClampNeg := by rw [Int32.ofInt_toInt]; rfl
    rw [← e1]
    exact hk
  · have he : q_sl L xs i = none := if_neg hi
    rw [he]
    exact q_none
theorem q_slen (hdg : decode cc pc = .ok (.arraylength, 1)) (kk : q_EXg (q_XL L xs) d y cc nL ret (pc + 1) ls (.inl (L : Int) :: st) M o) : q_EXg (q_XL L xs) d y cc nL ret pc ls (.inr (.inr 1002) :: st) M o := by
  intro x M' ho
  have k0 := kk x M' ho
  refine ⟨?_, k0.2⟩
  intro p l e R s m args below meth c D cA A0 A H locs cells slots mc ms lsA Q hB hX hP hD hS hl hR hn hE
  have hk := k0.1 p l e R s m args below meth c D cA A0 A H locs cells slots mc ms lsA Q hB hX hP hD hS hl hR hn hE
  refine va_slen hB.1 hB.2.1 hX.1 hX.2.1 hX.2.2 hS hdg ?_
  rw [← Int32.ofInt_eq_ofNat]
  exact hk
end QLW
def fL_law_1157 (L : Nat) (xs : Nat → Int32) (K18 : Int → q_Mem → Option (Int × q_Mem)) (x3 : Int) (M : q_Mem) : Option (Int × q_Mem) := (K18 (x3 + 6) M)
theorem tL_law_1157 {d : Nat} (hd : 75 ≤ d) (L : Nat) (xs : Nat → Int32)  (K18 : Int → q_Mem → Option (Int × q_Mem)) (hK18 : ∀ (x3 : Int) (M : q_Mem), q_Ok M → q_EXg (q_XL L xs) (d + 1) yL_law cL_law 4 (some .boolean) 18 [(0, .inr (.inr 1002)), (1, .inr (.inr 0)), (2, .inr (.inr 94)), (3, .inl x3)] [] M (K18 x3 M)) (x3 : Int) (M : q_Mem) (hO : q_Ok M) : q_EXg (q_XL L xs) (d + 1) yL_law cL_law 4 (some .boolean) 1157 [(0, .inr (.inr 1002)), (1, .inr (.inr 0)), (2, .inr (.inr 94)), (3, .inl x3)] [] M (fL_law_1157 L xs K18 x3 M) := by
  unfold fL_law_1157
  refine q_iinc (ls' := [(3, .inl (x3 + 6)), (0, .inr (.inr 1002)), (1, .inr (.inr 0)), (2, .inr (.inr 94))]) 3 dL_law_1157 rfl (by decide) rfl ?_
  refine q_goto (tgt := 18) dL_law_1160 (by decide) ?_
  refine q_sub [1, 2, 3, 0] rfl ?_
  exact hK18 (x3 + 6) M hO
def fL_law_18 (L : Nat) (xs : Nat → Int32) : Nat → Int → q_Mem → Option (Int × q_Mem)
  | 0, _, _ => none
  | n + 1, x3, M => if q_w ((L : Int) - 6) < q_w x3 then (some (1, M)) else ((q_sl L xs x3).bind fun x21 => q_let (q_and x21 63) fun x22 => if q_w x22 = 0 then (q_sl L xs (x3 + 1)).bind fun x23 => (q_sl L xs (x3 + 2)).bind fun x24 => (q_sl L xs (x3 + 3)).bind fun x25 => (q_sl L xs (x3 + 4)).bind fun x26 => (q_sl L xs (x3 + 5)).bind fun x27 => q_bd (fX11_feed x23 x24 x25 x26 x27 M) fun x28 M1 => (q_sl L xs (x3 + 1)).bind fun x29 => (q_sl L xs (x3 + 2)).bind fun x30 => (q_sl L xs (x3 + 3)).bind fun x31 => (q_sl L xs (x3 + 4)).bind fun x32 => (q_sl L xs (x3 + 5)).bind fun x33 => q_bd (fX12_feed x29 x30 x31 x32 x33 M1) fun x34 M2 => if q_w x28 = q_w x34 then ((fL_law_1157 L xs (fL_law_18 L xs n) x3 M2)) else (some (0, M2)) else (if q_w x22 = 1 then (q_sl L xs (x3 + 1)).bind fun x35 => q_bd (fX11_end x35 M) fun x36 M3 => (q_sl L xs (x3 + 1)).bind fun x37 => q_bd (fX12_end x37 M3) fun x38 M4 => if q_w x36 = q_w x38 then ((fL_law_1157 L xs (fL_law_18 L xs n) x3 M4)) else (some (0, M4)) else (if q_w x22 = 2 then q_bd (fX11_fair M) fun x39 M5 => q_bd (fX12_fair M5) fun x40 M6 => if q_w x39 = q_w x40 then ((fL_law_1157 L xs (fL_law_18 L xs n) x3 M6)) else (some (0, M6)) else (if q_w x22 = 3 then (q_sl L xs (x3 + 1)).bind fun x41 => q_bd (fX11_fault x41 M) fun x42 M7 => (q_sl L xs (x3 + 1)).bind fun x43 => q_bd (fX12_fault x43 M7) fun x44 M8 => if q_w x42 = q_w x44 then ((fL_law_1157 L xs (fL_law_18 L xs n) x3 M8)) else (some (0, M8)) else (if q_w x22 = 4 then (q_sl L xs (x3 + 1)).bind fun x45 => q_bd (fX11_has x45 M) fun x46 M9 => (q_sl L xs (x3 + 1)).bind fun x47 => q_bd (fX12_has x47 M9) fun x48 M10 => if q_w x46 = q_w x48 then ((fL_law_1157 L xs (fL_law_18 L xs n) x3 M10)) else (some (0, M10)) else (if q_w x22 = 5 then (q_sl L xs (x3 + 1)).bind fun x49 => (q_sl L xs (x3 + 2)).bind fun x50 => (q_sl L xs (x3 + 3)).bind fun x51 => q_bd (fX11_letter x49 x50 x51 M) fun x52 M11 => (q_sl L xs (x3 + 1)).bind fun x53 => (q_sl L xs (x3 + 2)).bind fun x54 => (q_sl L xs (x3 + 3)).bind fun x55 => q_bd (fX12_letter x53 x54 x55 M11) fun x56 M12 => if q_w x52 = q_w x56 then ((fL_law_1157 L xs (fL_law_18 L xs n) x3 M12)) else (some (0, M12)) else (if q_w x22 = 6 then (q_sl L xs (x3 + 1)).bind fun x57 => (q_sl L xs (x3 + 2)).bind fun x58 => q_bd (fX11_stall x57 x58 M) fun x59 M13 => (q_sl L xs (x3 + 1)).bind fun x60 => (q_sl L xs (x3 + 2)).bind fun x61 => q_bd (fX12_stall x60 x61 M13) fun x62 M14 => if q_w x59 = q_w x62 then ((fL_law_1157 L xs (fL_law_18 L xs n) x3 M14)) else (some (0, M14)) else (if q_w x22 = 7 then (q_sl L xs (x3 + 1)).bind fun x63 => (q_sl L xs (x3 + 2)).bind fun x64 => q_bd (fX11_coin x63 x64 M) fun x65 M15 => (q_sl L xs (x3 + 1)).bind fun x66 => (q_sl L xs (x3 + 2)).bind fun x67 => q_bd (fX12_coin x66 x67 M15) fun x68 M16 => if q_w x65 = q_w x68 then ((fL_law_1157 L xs (fL_law_18 L xs n) x3 M16)) else (some (0, M16)) else (if q_w x22 = 8 then (q_sl L xs (x3 + 1)).bind fun x69 => (q_sl L xs (x3 + 2)).bind fun x70 => (q_sl L xs (x3 + 3)).bind fun x71 => q_bd (fX11_shadow x69 x70 x71 M) fun x72 M17 => (q_sl L xs (x3 + 1)).bind fun x73 => (q_sl L xs (x3 + 2)).bind fun x74 => (q_sl L xs (x3 + 3)).bind fun x75 => q_bd (fX12_shadow x73 x74 x75 M17) fun x76 M18 => if q_w x72 = q_w x76 then ((fL_law_1157 L xs (fL_law_18 L xs n) x3 M18)) else (some (0, M18)) else (if q_w x22 = 9 then (q_sl L xs (x3 + 1)).bind fun x77 => (q_sl L xs (x3 + 2)).bind fun x78 => (q_sl L xs (x3 + 3)).bind fun x79 => q_bd (fX11_buys x77 x78 x79 M) fun x80 M19 => (q_sl L xs (x3 + 1)).bind fun x81 => (q_sl L xs (x3 + 2)).bind fun x82 => (q_sl L xs (x3 + 3)).bind fun x83 => q_bd (fX12_buys x81 x82 x83 M19) fun x84 M20 => if q_w x80 = q_w x84 then ((fL_law_1157 L xs (fL_law_18 L xs n) x3 M20)) else (some (0, M20)) else (if q_w x22 = 10 then (q_sl L xs (x3 + 1)).bind fun x85 => (q_sl L xs (x3 + 2)).bind fun x86 => q_bd (fX11_kept x85 x86 M) fun x87 M21 => (q_sl L xs (x3 + 1)).bind fun x88 => (q_sl L xs (x3 + 2)).bind fun x89 => q_bd (fX12_kept x88 x89 M21) fun x90 M22 => if q_w x87 = q_w x90 then ((fL_law_1157 L xs (fL_law_18 L xs n) x3 M22)) else (some (0, M22)) else (if q_w x22 = 11 then (q_sl L xs (x3 + 1)).bind fun x91 => (q_sl L xs (x3 + 2)).bind fun x92 => (q_sl L xs (x3 + 3)).bind fun x93 => q_bd (fX11_when x91 x92 x93 M) fun x94 M23 => (q_sl L xs (x3 + 1)).bind fun x95 => (q_sl L xs (x3 + 2)).bind fun x96 => (q_sl L xs (x3 + 3)).bind fun x97 => q_bd (fX12_when x95 x96 x97 M23) fun x98 M24 => if q_w x94 = q_w x98 then ((fL_law_1157 L xs (fL_law_18 L xs n) x3 M24)) else (some (0, M24)) else (if q_w x22 = 12 then (q_sl L xs (x3 + 1)).bind fun x99 => (q_sl L xs (x3 + 2)).bind fun x100 => q_bd (fX11_round x99 x100 M) fun x101 M25 => (q_sl L xs (x3 + 1)).bind fun x102 => (q_sl L xs (x3 + 2)).bind fun x103 => q_bd (fX12_round x102 x103 M25) fun x104 M26 => if q_w x101 = q_w x104 then ((fL_law_1157 L xs (fL_law_18 L xs n) x3 M26)) else (some (0, M26)) else (if q_w x22 = 13 then (q_sl L xs (x3 + 1)).bind fun x105 => q_bd (fX11_blocked x105 M) fun x106 M27 => (q_sl L xs (x3 + 1)).bind fun x107 => q_bd (fX12_blocked x107 M27) fun x108 M28 => if q_w x106 = q_w x108 then ((fL_law_1157 L xs (fL_law_18 L xs n) x3 M28)) else (some (0, M28)) else (if q_w x22 = 14 then (q_sl L xs (x3 + 1)).bind fun x109 => (q_sl L xs (x3 + 2)).bind fun x110 => q_bd (fX11_strike x109 x110 M) fun x111 M29 => (q_sl L xs (x3 + 1)).bind fun x112 => (q_sl L xs (x3 + 2)).bind fun x113 => q_bd (fX12_strike x112 x113 M29) fun x114 M30 => if q_w x111 = q_w x114 then ((fL_law_1157 L xs (fL_law_18 L xs n) x3 M30)) else (some (0, M30)) else (if q_w x22 = 15 then (q_sl L xs (x3 + 1)).bind fun x115 => q_bd (fX11_handy x115 M) fun x116 M31 => (q_sl L xs (x3 + 1)).bind fun x117 => q_bd (fX12_handy x117 M31) fun x118 M32 => if q_w x116 = q_w x118 then ((fL_law_1157 L xs (fL_law_18 L xs n) x3 M32)) else (some (0, M32)) else (if q_w x22 = 16 then (q_sl L xs (x3 + 1)).bind fun x119 => (q_sl L xs (x3 + 2)).bind fun x120 => (q_sl L xs (x3 + 3)).bind fun x121 => q_bd (fX11_odd x119 x120 x121 M) fun x122 M33 => (q_sl L xs (x3 + 1)).bind fun x123 => (q_sl L xs (x3 + 2)).bind fun x124 => (q_sl L xs (x3 + 3)).bind fun x125 => q_bd (fX12_odd x123 x124 x125 M33) fun x126 M34 => if q_w x122 = q_w x126 then ((fL_law_1157 L xs (fL_law_18 L xs n) x3 M34)) else (some (0, M34)) else (if q_w x22 = 17 then (q_sl L xs (x3 + 1)).bind fun x127 => (q_sl L xs (x3 + 2)).bind fun x128 => q_bd (fX11_bridge x127 x128 M) fun x129 M35 => (q_sl L xs (x3 + 1)).bind fun x130 => (q_sl L xs (x3 + 2)).bind fun x131 => q_bd (fX12_bridge x130 x131 M35) fun x132 M36 => if q_w x129 = q_w x132 then ((fL_law_1157 L xs (fL_law_18 L xs n) x3 M36)) else (some (0, M36)) else (if q_w x22 = 18 then (q_sl L xs (x3 + 1)).bind fun x133 => (q_sl L xs (x3 + 2)).bind fun x134 => (q_sl L xs (x3 + 3)).bind fun x135 => q_bd (fX11_change x133 x134 x135 M) fun x136 M37 => (q_sl L xs (x3 + 1)).bind fun x137 => (q_sl L xs (x3 + 2)).bind fun x138 => (q_sl L xs (x3 + 3)).bind fun x139 => q_bd (fX12_change x137 x138 x139 M37) fun x140 M38 => if q_w x136 = q_w x140 then ((fL_law_1157 L xs (fL_law_18 L xs n) x3 M38)) else (some (0, M38)) else (if q_w x22 = 19 then (q_sl L xs (x3 + 1)).bind fun x141 => (q_sl L xs (x3 + 2)).bind fun x142 => (q_sl L xs (x3 + 3)).bind fun x143 => q_bd (fX11_chalked x141 x142 x143 M) fun x144 M39 => (q_sl L xs (x3 + 1)).bind fun x145 => (q_sl L xs (x3 + 2)).bind fun x146 => (q_sl L xs (x3 + 3)).bind fun x147 => q_bd (fX12_chalked x145 x146 x147 M39) fun x148 M40 => if q_w x144 = q_w x148 then ((fL_law_1157 L xs (fL_law_18 L xs n) x3 M40)) else (some (0, M40)) else (if q_w x22 = 20 then q_bd (fX11_see M) fun x149 M41 => q_bd (fX12_see M41) fun x150 M42 => if q_w x149 = q_w x150 then ((fL_law_1157 L xs (fL_law_18 L xs n) x3 M42)) else (some (0, M42)) else (if q_w x22 = 21 then (q_sl L xs (x3 + 1)).bind fun x151 => q_bd (fX11_minutes x151 M) fun x152 M43 => (q_sl L xs (x3 + 1)).bind fun x153 => q_bd (fX12_minutes x153 M43) fun x154 M44 => if q_w x152 = q_w x154 then ((fL_law_1157 L xs (fL_law_18 L xs n) x3 M44)) else (some (0, M44)) else (if q_w x22 = 22 then (q_sl L xs (x3 + 1)).bind fun x155 => q_bd (fX11_lamps x155 M) fun x156 M45 => (q_sl L xs (x3 + 1)).bind fun x157 => q_bd (fX12_lamps x157 M45) fun x158 M46 => if q_w x156 = q_w x158 then ((fL_law_1157 L xs (fL_law_18 L xs n) x3 M46)) else (some (0, M46)) else (if q_w x22 = 23 then (q_sl L xs (x3 + 1)).bind fun x159 => q_bd (fX11_walk x159 M) fun x160 M47 => (q_sl L xs (x3 + 1)).bind fun x161 => q_bd (fX12_walk x161 M47) fun x162 M48 => if q_w x160 = q_w x162 then ((fL_law_1157 L xs (fL_law_18 L xs n) x3 M48)) else (some (0, M48)) else (if q_w x22 = 24 then (q_sl L xs (x3 + 1)).bind fun x163 => q_bd (fX11_pause x163 M) fun x164 M49 => (q_sl L xs (x3 + 1)).bind fun x165 => q_bd (fX12_pause x165 M49) fun x166 M50 => if q_w x164 = q_w x166 then ((fL_law_1157 L xs (fL_law_18 L xs n) x3 M50)) else (some (0, M50)) else (if q_w x22 = 25 then (q_sl L xs (x3 + 1)).bind fun x167 => (q_sl L xs (x3 + 2)).bind fun x168 => q_bd (fX11_buy x167 x168 M) fun x169 M51 => (q_sl L xs (x3 + 1)).bind fun x170 => (q_sl L xs (x3 + 2)).bind fun x171 => q_bd (fX12_buy x170 x171 M51) fun x172 M52 => if q_w x169 = q_w x172 then ((fL_law_1157 L xs (fL_law_18 L xs n) x3 M52)) else (some (0, M52)) else (if q_w x22 = 26 then (q_sl L xs (x3 + 1)).bind fun x173 => q_bd (fX11_chance x173 M) fun x174 M53 => (q_sl L xs (x3 + 1)).bind fun x175 => q_bd (fX12_chance x175 M53) fun x176 M54 => if q_w x174 = q_w x176 then ((fL_law_1157 L xs (fL_law_18 L xs n) x3 M54)) else (some (0, M54)) else (if q_w x22 = 27 then q_bd (fX11_undo M) fun x177 M55 => q_bd (fX12_undo M55) fun x178 M56 => if q_w x177 = q_w x178 then ((fL_law_1157 L xs (fL_law_18 L xs n) x3 M56)) else (some (0, M56)) else (if q_w x22 = 28 then (q_sl L xs (x3 + 1)).bind fun x179 => q_bd (fX11_seed x179 M) fun x180 M57 => (q_sl L xs (x3 + 1)).bind fun x181 => q_bd (fX12_seed x181 M57) fun x182 M58 => if q_w x180 = q_w x182 then ((fL_law_1157 L xs (fL_law_18 L xs n) x3 M58)) else (some (0, M58)) else (if q_w x22 = 29 then q_bd (fX11_ask M) fun x183 M59 => q_bd (fX12_ask M59) fun x184 M60 => if q_w (q_lcmp x183 x184) = 0 then ((fL_law_1157 L xs (fL_law_18 L xs n) x3 M60)) else (some (0, M60)) else (if q_w x22 = 30 then q_bd (fX11_image M) fun x185 M61 => q_bd (fX12_image M61) fun x186 M62 => if q_w x185 = q_w x186 then ((fL_law_1157 L xs (fL_law_18 L xs n) x3 M62)) else (some (0, M62)) else (if q_w x22 = 31 then (q_sl L xs (x3 + 1)).bind fun x187 => q_bd (fX11_octet x187 M) fun x188 M63 => (q_sl L xs (x3 + 1)).bind fun x189 => q_bd (fX12_octet x189 M63) fun x190 M64 => if q_w x188 = q_w x190 then ((fL_law_1157 L xs (fL_law_18 L xs n) x3 M64)) else (some (0, M64)) else (if q_w x22 = 32 then q_bd (fX11_on M) fun x191 M65 => q_bd (fX12_on M65) fun x192 M66 => if q_w x191 = q_w x192 then ((fL_law_1157 L xs (fL_law_18 L xs n) x3 M66)) else (some (0, M66)) else (if q_w x22 = 33 then (q_sl L xs (x3 + 1)).bind fun x193 => q_bd (fX11_status x193 M) fun x194 M67 => (q_sl L xs (x3 + 1)).bind fun x195 => q_bd (fX12_status x195 M67) fun x196 M68 => if q_w x194 = q_w x196 then ((fL_law_1157 L xs (fL_law_18 L xs n) x3 M68)) else (some (0, M68)) else ((fL_law_1157 L xs (fL_law_18 L xs n) x3 M))))))))))))))))))))))))))))))))))))
theorem tL_law_18 {d : Nat} (hd : 75 ≤ d) (L : Nat) (xs : Nat → Int32)  : ∀ (n : Nat) (x3 : Int) (M : q_Mem), q_Ok M → q_EXg (q_XL L xs) (d + 1) yL_law cL_law 4 (some .boolean) 18 [(0, .inr (.inr 1002)), (1, .inr (.inr 0)), (2, .inr (.inr 94)), (3, .inl x3)] [] M (fL_law_18 L xs n x3 M) := by
  intro n
  induction n with
  | zero => intro x3 M hO; exact q_none
  | succ n ih =>
    intro x3 M hO
    rw [fL_law_18]
    refine q_iload_n 3 dL_law_18 rfl rfl ?_
    refine q_aload_n 0 dL_law_19 rfl rfl ?_
    refine q_slen dL_law_20 ?_
    refine q_bipush dL_law_21 (by decide) ?_
    refine q_isub dL_law_23 ?_
    refine q_icmpgt (tgt := 1163) dL_law_24 (by decide) ?_ ?_
    · refine q_iconst dL_law_1163 ?_
      exact q_ret ⟨dL_law_1164, by decide⟩ rfl
    · refine q_aload_n 0 dL_law_27 rfl rfl ?_
      refine q_iload_n 3 dL_law_28 rfl rfl ?_
      refine q_sld dL_law_29 (fun x21 => ?_)
      refine q_bipush dL_law_30 (by decide) ?_
      refine q_iand dL_law_32 ?_
      refine q_nameI (fun x22 _ => ?_)
      refine q_case (fun h1 => ?_) (fun h1 => ?_)
      · refine q_tswI (tgt := 184) h1 dL_law_33 (by decide) (by decide) rfl (by decide) ?_
        refine q_aload_n 1 dL_law_184 rfl rfl ?_
        refine q_aload_n 0 dL_law_185 rfl rfl ?_
        refine q_iload_n 3 dL_law_186 rfl rfl ?_
        refine q_iconst dL_law_187 ?_
        refine q_iadd dL_law_188 ?_
        refine q_sld dL_law_189 (fun x23 => ?_)
        refine q_aload_n 0 dL_law_190 rfl rfl ?_
        refine q_iload_n 3 dL_law_191 rfl rfl ?_
        refine q_iconst dL_law_192 ?_
        refine q_iadd dL_law_193 ?_
        refine q_sld dL_law_194 (fun x24 => ?_)
        refine q_aload_n 0 dL_law_195 rfl rfl ?_
        refine q_iload_n 3 dL_law_196 rfl rfl ?_
        refine q_iconst dL_law_197 ?_
        refine q_iadd dL_law_198 ?_
        refine q_sld dL_law_199 (fun x25 => ?_)
        refine q_aload_n 0 dL_law_200 rfl rfl ?_
        refine q_iload_n 3 dL_law_201 rfl rfl ?_
        refine q_iconst dL_law_202 ?_
        refine q_iadd dL_law_203 ?_
        refine q_sld dL_law_204 (fun x26 => ?_)
        refine q_aload_n 0 dL_law_205 rfl rfl ?_
        refine q_iload_n 3 dL_law_206 rfl rfl ?_
        refine q_iconst dL_law_207 ?_
        refine q_iadd dL_law_208 ?_
        refine q_sld dL_law_209 (fun x27 => ?_)
        refine q_callVi (As := [.inl x23, .inl x24, .inl x25, .inl x26, .inl x27]) hO mb_X11_feed mv_X11_feed ml_L_13 sh_0 rfl dL_law_210 (fun _ => rfl) rfl (Nat.le_of_ble_eq_true rfl) rfl (Nat.le_of_ble_eq_true rfl) (tX11_feed (by omega) x23 x24 x25 x26 x27 M hO) (fun x28 M1 _ hO1 => ?_)
        refine q_aload_n 2 dL_law_213 rfl rfl ?_
        refine q_aload_n 0 dL_law_214 rfl rfl ?_
        refine q_iload_n 3 dL_law_215 rfl rfl ?_
        refine q_iconst dL_law_216 ?_
        refine q_iadd dL_law_217 ?_
        refine q_sld dL_law_218 (fun x29 => ?_)
        refine q_aload_n 0 dL_law_219 rfl rfl ?_
        refine q_iload_n 3 dL_law_220 rfl rfl ?_
        refine q_iconst dL_law_221 ?_
        refine q_iadd dL_law_222 ?_
        refine q_sld dL_law_223 (fun x30 => ?_)
        refine q_aload_n 0 dL_law_224 rfl rfl ?_
        refine q_iload_n 3 dL_law_225 rfl rfl ?_
        refine q_iconst dL_law_226 ?_
        refine q_iadd dL_law_227 ?_
        refine q_sld dL_law_228 (fun x31 => ?_)
        refine q_aload_n 0 dL_law_229 rfl rfl ?_
        refine q_iload_n 3 dL_law_230 rfl rfl ?_
        refine q_iconst dL_law_231 ?_
        refine q_iadd dL_law_232 ?_
        refine q_sld dL_law_233 (fun x32 => ?_)
        refine q_aload_n 0 dL_law_234 rfl rfl ?_
        refine q_iload_n 3 dL_law_235 rfl rfl ?_
        refine q_iconst dL_law_236 ?_
        refine q_iadd dL_law_237 ?_
        refine q_sld dL_law_238 (fun x33 => ?_)
        refine q_callVi (As := [.inl x29, .inl x30, .inl x31, .inl x32, .inl x33]) hO1 mb_X12_feed mv_X12_feed ml_L_17 sh_94 rfl dL_law_239 (fun _ => rfl) rfl (Nat.le_of_ble_eq_true rfl) rfl (Nat.le_of_ble_eq_true rfl) (tX12_feed x29 x30 x31 x32 x33 M1 hO1) (fun x34 M2 _ hO2 => ?_)
        refine q_icmpeq (tgt := 1157) dL_law_242 (by decide) ?_ ?_
        · refine q_sub [0, 1, 2, 3] rfl ?_
          exact tL_law_1157 hd L xs  (fL_law_18 L xs n) ih x3 M2 hO2
        · refine q_iconst dL_law_245 ?_
          exact q_ret ⟨dL_law_246, by decide⟩ rfl
      · refine q_case (fun h2 => ?_) (fun h2 => ?_)
        · refine q_tswI (tgt := 247) h2 dL_law_33 (by decide) (by decide) rfl (by decide) ?_
          refine q_aload_n 1 dL_law_247 rfl rfl ?_
          refine q_aload_n 0 dL_law_248 rfl rfl ?_
          refine q_iload_n 3 dL_law_249 rfl rfl ?_
          refine q_iconst dL_law_250 ?_
          refine q_iadd dL_law_251 ?_
          refine q_sld dL_law_252 (fun x35 => ?_)
          refine q_callVi (As := [.inl x35]) hO mb_X11_end mv_X11_end ml_L_18 sh_0 rfl dL_law_253 (fun _ => rfl) rfl (Nat.le_of_ble_eq_true rfl) rfl (Nat.le_of_ble_eq_true rfl) (tX11_end (by omega) x35 M hO) (fun x36 M3 _ hO3 => ?_)
          refine q_aload_n 2 dL_law_256 rfl rfl ?_
          refine q_aload_n 0 dL_law_257 rfl rfl ?_
          refine q_iload_n 3 dL_law_258 rfl rfl ?_
          refine q_iconst dL_law_259 ?_
          refine q_iadd dL_law_260 ?_
          refine q_sld dL_law_261 (fun x37 => ?_)
          refine q_callVi (As := [.inl x37]) hO3 mb_X12_end mv_X12_end ml_L_22 sh_94 rfl dL_law_262 (fun _ => rfl) rfl (Nat.le_of_ble_eq_true rfl) rfl (Nat.le_of_ble_eq_true rfl) (tX12_end x37 M3 hO3) (fun x38 M4 _ hO4 => ?_)
          refine q_icmpeq (tgt := 1157) dL_law_265 (by decide) ?_ ?_
          · refine q_sub [0, 1, 2, 3] rfl ?_
            exact tL_law_1157 hd L xs  (fL_law_18 L xs n) ih x3 M4 hO4
          · refine q_iconst dL_law_268 ?_
            exact q_ret ⟨dL_law_269, by decide⟩ rfl
        · refine q_case (fun h3 => ?_) (fun h3 => ?_)
          · refine q_tswI (tgt := 270) h3 dL_law_33 (by decide) (by decide) rfl (by decide) ?_
            refine q_aload_n 1 dL_law_270 rfl rfl ?_
            refine q_callVi (As := []) hO mb_X11_fair mv_X11_fair ml_L_23 sh_0 rfl dL_law_271 (fun _ => rfl) rfl (Nat.le_of_ble_eq_true rfl) rfl (Nat.le_of_ble_eq_true rfl) (tX11_fair (by omega) M hO) (fun x39 M5 _ hO5 => ?_)
            refine q_aload_n 2 dL_law_274 rfl rfl ?_
            refine q_callVi (As := []) hO5 mb_X12_fair mv_X12_fair ml_L_27 sh_94 rfl dL_law_275 (fun _ => rfl) rfl (Nat.le_of_ble_eq_true rfl) rfl (Nat.le_of_ble_eq_true rfl) (tX12_fair (by omega) M5 hO5) (fun x40 M6 _ hO6 => ?_)
            refine q_icmpeq (tgt := 1157) dL_law_278 (by decide) ?_ ?_
            · refine q_sub [0, 1, 2, 3] rfl ?_
              exact tL_law_1157 hd L xs  (fL_law_18 L xs n) ih x3 M6 hO6
            · refine q_iconst dL_law_281 ?_
              exact q_ret ⟨dL_law_282, by decide⟩ rfl
          · refine q_case (fun h4 => ?_) (fun h4 => ?_)
            · refine q_tswI (tgt := 283) h4 dL_law_33 (by decide) (by decide) rfl (by decide) ?_
              refine q_aload_n 1 dL_law_283 rfl rfl ?_
              refine q_aload_n 0 dL_law_284 rfl rfl ?_
              refine q_iload_n 3 dL_law_285 rfl rfl ?_
              refine q_iconst dL_law_286 ?_
              refine q_iadd dL_law_287 ?_
              refine q_sld dL_law_288 (fun x41 => ?_)
              refine q_callVi (As := [.inl x41]) hO mb_X11_fault mv_X11_fault ml_L_28 sh_0 rfl dL_law_289 (fun _ => rfl) rfl (Nat.le_of_ble_eq_true rfl) rfl (Nat.le_of_ble_eq_true rfl) (tX11_fault x41 M hO) (fun x42 M7 _ hO7 => ?_)
              refine q_aload_n 2 dL_law_292 rfl rfl ?_
              refine q_aload_n 0 dL_law_293 rfl rfl ?_
              refine q_iload_n 3 dL_law_294 rfl rfl ?_
              refine q_iconst dL_law_295 ?_
              refine q_iadd dL_law_296 ?_
              refine q_sld dL_law_297 (fun x43 => ?_)
              refine q_callVi (As := [.inl x43]) hO7 mb_X12_fault mv_X12_fault ml_L_32 sh_94 rfl dL_law_298 (fun _ => rfl) rfl (Nat.le_of_ble_eq_true rfl) rfl (Nat.le_of_ble_eq_true rfl) (tX12_fault x43 M7 hO7) (fun x44 M8 _ hO8 => ?_)
              refine q_icmpeq (tgt := 1157) dL_law_301 (by decide) ?_ ?_
              · refine q_sub [0, 1, 2, 3] rfl ?_
                exact tL_law_1157 hd L xs  (fL_law_18 L xs n) ih x3 M8 hO8
              · refine q_iconst dL_law_304 ?_
                exact q_ret ⟨dL_law_305, by decide⟩ rfl
            · refine q_case (fun h5 => ?_) (fun h5 => ?_)
              · refine q_tswI (tgt := 306) h5 dL_law_33 (by decide) (by decide) rfl (by decide) ?_
                refine q_aload_n 1 dL_law_306 rfl rfl ?_
                refine q_aload_n 0 dL_law_307 rfl rfl ?_
                refine q_iload_n 3 dL_law_308 rfl rfl ?_
                refine q_iconst dL_law_309 ?_
                refine q_iadd dL_law_310 ?_
                refine q_sld dL_law_311 (fun x45 => ?_)
                refine q_callVi (As := [.inl x45]) hO mb_X11_has mv_X11_has ml_L_33 sh_0 rfl dL_law_312 (fun _ => rfl) rfl (Nat.le_of_ble_eq_true rfl) rfl (Nat.le_of_ble_eq_true rfl) (tX11_has (by omega) x45 M hO) (fun x46 M9 _ hO9 => ?_)
                refine q_aload_n 2 dL_law_315 rfl rfl ?_
                refine q_aload_n 0 dL_law_316 rfl rfl ?_
                refine q_iload_n 3 dL_law_317 rfl rfl ?_
                refine q_iconst dL_law_318 ?_
                refine q_iadd dL_law_319 ?_
                refine q_sld dL_law_320 (fun x47 => ?_)
                refine q_callVi (As := [.inl x47]) hO9 mb_X12_has mv_X12_has ml_L_36 sh_94 rfl dL_law_321 (fun _ => rfl) rfl (Nat.le_of_ble_eq_true rfl) rfl (Nat.le_of_ble_eq_true rfl) (tX12_has (by omega) x47 M9 hO9) (fun x48 M10 _ hO10 => ?_)
                refine q_icmpeq (tgt := 1157) dL_law_324 (by decide) ?_ ?_
                · refine q_sub [0, 1, 2, 3] rfl ?_
                  exact tL_law_1157 hd L xs  (fL_law_18 L xs n) ih x3 M10 hO10
                · refine q_iconst dL_law_327 ?_
                  exact q_ret ⟨dL_law_328, by decide⟩ rfl
              · refine q_case (fun h6 => ?_) (fun h6 => ?_)
                · refine q_tswI (tgt := 329) h6 dL_law_33 (by decide) (by decide) rfl (by decide) ?_
                  refine q_aload_n 1 dL_law_329 rfl rfl ?_
                  refine q_aload_n 0 dL_law_330 rfl rfl ?_
                  refine q_iload_n 3 dL_law_331 rfl rfl ?_
                  refine q_iconst dL_law_332 ?_
                  refine q_iadd dL_law_333 ?_
                  refine q_sld dL_law_334 (fun x49 => ?_)
                  refine q_aload_n 0 dL_law_335 rfl rfl ?_
                  refine q_iload_n 3 dL_law_336 rfl rfl ?_
                  refine q_iconst dL_law_337 ?_
                  refine q_iadd dL_law_338 ?_
                  refine q_sld dL_law_339 (fun x50 => ?_)
                  refine q_aload_n 0 dL_law_340 rfl rfl ?_
                  refine q_iload_n 3 dL_law_341 rfl rfl ?_
                  refine q_iconst dL_law_342 ?_
                  refine q_iadd dL_law_343 ?_
                  refine q_sld dL_law_344 (fun x51 => ?_)
                  refine q_callVi (As := [.inl x49, .inl x50, .inl x51]) hO mb_X11_letter mv_X11_letter ml_L_37 sh_0 rfl dL_law_345 (fun _ => rfl) rfl (Nat.le_of_ble_eq_true rfl) rfl (Nat.le_of_ble_eq_true rfl) (tX11_letter (by omega) x49 x50 x51 M hO) (fun x52 M11 _ hO11 => ?_)
                  refine q_aload_n 2 dL_law_348 rfl rfl ?_
                  refine q_aload_n 0 dL_law_349 rfl rfl ?_
                  refine q_iload_n 3 dL_law_350 rfl rfl ?_
                  refine q_iconst dL_law_351 ?_
                  refine q_iadd dL_law_352 ?_
                  refine q_sld dL_law_353 (fun x53 => ?_)
                  refine q_aload_n 0 dL_law_354 rfl rfl ?_
                  refine q_iload_n 3 dL_law_355 rfl rfl ?_
                  refine q_iconst dL_law_356 ?_
                  refine q_iadd dL_law_357 ?_
                  refine q_sld dL_law_358 (fun x54 => ?_)
                  refine q_aload_n 0 dL_law_359 rfl rfl ?_
                  refine q_iload_n 3 dL_law_360 rfl rfl ?_
                  refine q_iconst dL_law_361 ?_
                  refine q_iadd dL_law_362 ?_
                  refine q_sld dL_law_363 (fun x55 => ?_)
                  refine q_callVi (As := [.inl x53, .inl x54, .inl x55]) hO11 mb_X12_letter mv_X12_letter ml_L_41 sh_94 rfl dL_law_364 (fun _ => rfl) rfl (Nat.le_of_ble_eq_true rfl) rfl (Nat.le_of_ble_eq_true rfl) (tX12_letter (by omega) x53 x54 x55 M11 hO11) (fun x56 M12 _ hO12 => ?_)
                  refine q_icmpeq (tgt := 1157) dL_law_367 (by decide) ?_ ?_
                  · refine q_sub [0, 1, 2, 3] rfl ?_
                    exact tL_law_1157 hd L xs  (fL_law_18 L xs n) ih x3 M12 hO12
                  · refine q_iconst dL_law_370 ?_
                    exact q_ret ⟨dL_law_371, by decide⟩ rfl
                · refine q_case (fun h7 => ?_) (fun h7 => ?_)
                  · refine q_tswI (tgt := 372) h7 dL_law_33 (by decide) (by decide) rfl (by decide) ?_
                    refine q_aload_n 1 dL_law_372 rfl rfl ?_
                    refine q_aload_n 0 dL_law_373 rfl rfl ?_
                    refine q_iload_n 3 dL_law_374 rfl rfl ?_
                    refine q_iconst dL_law_375 ?_
                    refine q_iadd dL_law_376 ?_
                    refine q_sld dL_law_377 (fun x57 => ?_)
                    refine q_aload_n 0 dL_law_378 rfl rfl ?_
                    refine q_iload_n 3 dL_law_379 rfl rfl ?_
                    refine q_iconst dL_law_380 ?_
                    refine q_iadd dL_law_381 ?_
                    refine q_sld dL_law_382 (fun x58 => ?_)
                    refine q_callVi (As := [.inl x57, .inl x58]) hO mb_X11_stall mv_X11_stall ml_L_42 sh_0 rfl dL_law_383 (fun _ => rfl) rfl (Nat.le_of_ble_eq_true rfl) rfl (Nat.le_of_ble_eq_true rfl) (tX11_stall (by omega) x57 x58 M hO) (fun x59 M13 _ hO13 => ?_)
                    refine q_aload_n 2 dL_law_386 rfl rfl ?_
                    refine q_aload_n 0 dL_law_387 rfl rfl ?_
                    refine q_iload_n 3 dL_law_388 rfl rfl ?_
                    refine q_iconst dL_law_389 ?_
                    refine q_iadd dL_law_390 ?_
                    refine q_sld dL_law_391 (fun x60 => ?_)
                    refine q_aload_n 0 dL_law_392 rfl rfl ?_
                    refine q_iload_n 3 dL_law_393 rfl rfl ?_
                    refine q_iconst dL_law_394 ?_
                    refine q_iadd dL_law_395 ?_
                    refine q_sld dL_law_396 (fun x61 => ?_)
                    refine q_callVi (As := [.inl x60, .inl x61]) hO13 mb_X12_stall mv_X12_stall ml_L_46 sh_94 rfl dL_law_397 (fun _ => rfl) rfl (Nat.le_of_ble_eq_true rfl) rfl (Nat.le_of_ble_eq_true rfl) (tX12_stall (by omega) x60 x61 M13 hO13) (fun x62 M14 _ hO14 => ?_)
                    refine q_icmpeq (tgt := 1157) dL_law_400 (by decide) ?_ ?_
                    · refine q_sub [0, 1, 2, 3] rfl ?_
                      exact tL_law_1157 hd L xs  (fL_law_18 L xs n) ih x3 M14 hO14
                    · refine q_iconst dL_law_403 ?_
                      exact q_ret ⟨dL_law_404, by decide⟩ rfl
                  · refine q_case (fun h8 => ?_) (fun h8 => ?_)
                    · refine q_tswI (tgt := 405) h8 dL_law_33 (by decide) (by decide) rfl (by decide) ?_
                      refine q_aload_n 1 dL_law_405 rfl rfl ?_
                      refine q_aload_n 0 dL_law_406 rfl rfl ?_
                      refine q_iload_n 3 dL_law_407 rfl rfl ?_
                      refine q_iconst dL_law_408 ?_
                      refine q_iadd dL_law_409 ?_
                      refine q_sld dL_law_410 (fun x63 => ?_)
                      refine q_aload_n 0 dL_law_411 rfl rfl ?_
                      refine q_iload_n 3 dL_law_412 rfl rfl ?_
                      refine q_iconst dL_law_413 ?_
                      refine q_iadd dL_law_414 ?_
                      refine q_sld dL_law_415 (fun x64 => ?_)
                      refine q_callVi (As := [.inl x63, .inl x64]) hO mb_X11_coin mv_X11_coin ml_L_47 sh_0 rfl dL_law_416 (fun _ => rfl) rfl (Nat.le_of_ble_eq_true rfl) rfl (Nat.le_of_ble_eq_true rfl) (tX11_coin (by omega) x63 x64 M hO) (fun x65 M15 _ hO15 => ?_)
                      refine q_aload_n 2 dL_law_419 rfl rfl ?_
                      refine q_aload_n 0 dL_law_420 rfl rfl ?_
                      refine q_iload_n 3 dL_law_421 rfl rfl ?_
                      refine q_iconst dL_law_422 ?_
                      refine q_iadd dL_law_423 ?_
                      refine q_sld dL_law_424 (fun x66 => ?_)
                      refine q_aload_n 0 dL_law_425 rfl rfl ?_
                      refine q_iload_n 3 dL_law_426 rfl rfl ?_
                      refine q_iconst dL_law_427 ?_
                      refine q_iadd dL_law_428 ?_
                      refine q_sld dL_law_429 (fun x67 => ?_)
                      refine q_callVi (As := [.inl x66, .inl x67]) hO15 mb_X12_coin mv_X12_coin ml_L_50 sh_94 rfl dL_law_430 (fun _ => rfl) rfl (Nat.le_of_ble_eq_true rfl) rfl (Nat.le_of_ble_eq_true rfl) (tX12_coin (by omega) x66 x67 M15 hO15) (fun x68 M16 _ hO16 => ?_)
                      refine q_icmpeq (tgt := 1157) dL_law_433 (by decide) ?_ ?_
                      · refine q_sub [0, 1, 2, 3] rfl ?_
                        exact tL_law_1157 hd L xs  (fL_law_18 L xs n) ih x3 M16 hO16
                      · refine q_iconst dL_law_436 ?_
                        exact q_ret ⟨dL_law_437, by decide⟩ rfl
                    · refine q_case (fun h9 => ?_) (fun h9 => ?_)
                      · refine q_tswI (tgt := 438) h9 dL_law_33 (by decide) (by decide) rfl (by decide) ?_
                        refine q_aload_n 1 dL_law_438 rfl rfl ?_
                        refine q_aload_n 0 dL_law_439 rfl rfl ?_
                        refine q_iload_n 3 dL_law_440 rfl rfl ?_
                        refine q_iconst dL_law_441 ?_
                        refine q_iadd dL_law_442 ?_
                        refine q_sld dL_law_443 (fun x69 => ?_)
                        refine q_aload_n 0 dL_law_444 rfl rfl ?_
                        refine q_iload_n 3 dL_law_445 rfl rfl ?_
                        refine q_iconst dL_law_446 ?_
                        refine q_iadd dL_law_447 ?_
                        refine q_sld dL_law_448 (fun x70 => ?_)
                        refine q_aload_n 0 dL_law_449 rfl rfl ?_
                        refine q_iload_n 3 dL_law_450 rfl rfl ?_
                        refine q_iconst dL_law_451 ?_
                        refine q_iadd dL_law_452 ?_
                        refine q_sld dL_law_453 (fun x71 => ?_)
                        refine q_callVi (As := [.inl x69, .inl x70, .inl x71]) hO mb_X11_shadow mv_X11_shadow ml_L_51 sh_0 rfl dL_law_454 (fun _ => rfl) rfl (Nat.le_of_ble_eq_true rfl) rfl (Nat.le_of_ble_eq_true rfl) (tX11_shadow (by omega) x69 x70 x71 M hO) (fun x72 M17 _ hO17 => ?_)
                        refine q_aload_n 2 dL_law_457 rfl rfl ?_
                        refine q_aload_n 0 dL_law_458 rfl rfl ?_
                        refine q_iload_n 3 dL_law_459 rfl rfl ?_
                        refine q_iconst dL_law_460 ?_
                        refine q_iadd dL_law_461 ?_
                        refine q_sld dL_law_462 (fun x73 => ?_)
                        refine q_aload_n 0 dL_law_463 rfl rfl ?_
                        refine q_iload_n 3 dL_law_464 rfl rfl ?_
                        refine q_iconst dL_law_465 ?_
                        refine q_iadd dL_law_466 ?_
                        refine q_sld dL_law_467 (fun x74 => ?_)
                        refine q_aload_n 0 dL_law_468 rfl rfl ?_
                        refine q_iload_n 3 dL_law_469 rfl rfl ?_
                        refine q_iconst dL_law_470 ?_
                        refine q_iadd dL_law_471 ?_
                        refine q_sld dL_law_472 (fun x75 => ?_)
                        refine q_callVi (As := [.inl x73, .inl x74, .inl x75]) hO17 mb_X12_shadow mv_X12_shadow ml_L_54 sh_94 rfl dL_law_473 (fun _ => rfl) rfl (Nat.le_of_ble_eq_true rfl) rfl (Nat.le_of_ble_eq_true rfl) (tX12_shadow (by omega) x73 x74 x75 M17 hO17) (fun x76 M18 _ hO18 => ?_)
                        refine q_icmpeq (tgt := 1157) dL_law_476 (by decide) ?_ ?_
                        · refine q_sub [0, 1, 2, 3] rfl ?_
                          exact tL_law_1157 hd L xs  (fL_law_18 L xs n) ih x3 M18 hO18
                        · refine q_iconst dL_law_479 ?_
                          exact q_ret ⟨dL_law_480, by decide⟩ rfl
                      · refine q_case (fun h10 => ?_) (fun h10 => ?_)
                        · refine q_tswI (tgt := 481) h10 dL_law_33 (by decide) (by decide) rfl (by decide) ?_
                          refine q_aload_n 1 dL_law_481 rfl rfl ?_
                          refine q_aload_n 0 dL_law_482 rfl rfl ?_
                          refine q_iload_n 3 dL_law_483 rfl rfl ?_
                          refine q_iconst dL_law_484 ?_
                          refine q_iadd dL_law_485 ?_
                          refine q_sld dL_law_486 (fun x77 => ?_)
                          refine q_aload_n 0 dL_law_487 rfl rfl ?_
                          refine q_iload_n 3 dL_law_488 rfl rfl ?_
                          refine q_iconst dL_law_489 ?_
                          refine q_iadd dL_law_490 ?_
                          refine q_sld dL_law_491 (fun x78 => ?_)
                          refine q_aload_n 0 dL_law_492 rfl rfl ?_
                          refine q_iload_n 3 dL_law_493 rfl rfl ?_
                          refine q_iconst dL_law_494 ?_
                          refine q_iadd dL_law_495 ?_
                          refine q_sld dL_law_496 (fun x79 => ?_)
                          refine q_callVi (As := [.inl x77, .inl x78, .inl x79]) hO mb_X11_buys mv_X11_buys ml_L_55 sh_0 rfl dL_law_497 (fun _ => rfl) rfl (Nat.le_of_ble_eq_true rfl) rfl (Nat.le_of_ble_eq_true rfl) (tX11_buys (by omega) x77 x78 x79 M hO) (fun x80 M19 _ hO19 => ?_)
                          refine q_aload_n 2 dL_law_500 rfl rfl ?_
                          refine q_aload_n 0 dL_law_501 rfl rfl ?_
                          refine q_iload_n 3 dL_law_502 rfl rfl ?_
                          refine q_iconst dL_law_503 ?_
                          refine q_iadd dL_law_504 ?_
                          refine q_sld dL_law_505 (fun x81 => ?_)
                          refine q_aload_n 0 dL_law_506 rfl rfl ?_
                          refine q_iload_n 3 dL_law_507 rfl rfl ?_
                          refine q_iconst dL_law_508 ?_
                          refine q_iadd dL_law_509 ?_
                          refine q_sld dL_law_510 (fun x82 => ?_)
                          refine q_aload_n 0 dL_law_511 rfl rfl ?_
                          refine q_iload_n 3 dL_law_512 rfl rfl ?_
                          refine q_iconst dL_law_513 ?_
                          refine q_iadd dL_law_514 ?_
                          refine q_sld dL_law_515 (fun x83 => ?_)
                          refine q_callVi (As := [.inl x81, .inl x82, .inl x83]) hO19 mb_X12_buys mv_X12_buys ml_L_58 sh_94 rfl dL_law_516 (fun _ => rfl) rfl (Nat.le_of_ble_eq_true rfl) rfl (Nat.le_of_ble_eq_true rfl) (tX12_buys (by omega) x81 x82 x83 M19 hO19) (fun x84 M20 _ hO20 => ?_)
                          refine q_icmpeq (tgt := 1157) dL_law_519 (by decide) ?_ ?_
                          · refine q_sub [0, 1, 2, 3] rfl ?_
                            exact tL_law_1157 hd L xs  (fL_law_18 L xs n) ih x3 M20 hO20
                          · refine q_iconst dL_law_522 ?_
                            exact q_ret ⟨dL_law_523, by decide⟩ rfl
                        · refine q_case (fun h11 => ?_) (fun h11 => ?_)
                          · refine q_tswI (tgt := 524) h11 dL_law_33 (by decide) (by decide) rfl (by decide) ?_
                            refine q_aload_n 1 dL_law_524 rfl rfl ?_
                            refine q_aload_n 0 dL_law_525 rfl rfl ?_
                            refine q_iload_n 3 dL_law_526 rfl rfl ?_
                            refine q_iconst dL_law_527 ?_
                            refine q_iadd dL_law_528 ?_
                            refine q_sld dL_law_529 (fun x85 => ?_)
                            refine q_aload_n 0 dL_law_530 rfl rfl ?_
                            refine q_iload_n 3 dL_law_531 rfl rfl ?_
                            refine q_iconst dL_law_532 ?_
                            refine q_iadd dL_law_533 ?_
                            refine q_sld dL_law_534 (fun x86 => ?_)
                            refine q_callVi (As := [.inl x85, .inl x86]) hO mb_X11_kept mv_X11_kept ml_L_59 sh_0 rfl dL_law_535 (fun _ => rfl) rfl (Nat.le_of_ble_eq_true rfl) rfl (Nat.le_of_ble_eq_true rfl) (tX11_kept x85 x86 M hO) (fun x87 M21 _ hO21 => ?_)
                            refine q_aload_n 2 dL_law_538 rfl rfl ?_
                            refine q_aload_n 0 dL_law_539 rfl rfl ?_
                            refine q_iload_n 3 dL_law_540 rfl rfl ?_
                            refine q_iconst dL_law_541 ?_
                            refine q_iadd dL_law_542 ?_
                            refine q_sld dL_law_543 (fun x88 => ?_)
                            refine q_aload_n 0 dL_law_544 rfl rfl ?_
                            refine q_iload_n 3 dL_law_545 rfl rfl ?_
                            refine q_iconst dL_law_546 ?_
                            refine q_iadd dL_law_547 ?_
                            refine q_sld dL_law_548 (fun x89 => ?_)
                            refine q_callVi (As := [.inl x88, .inl x89]) hO21 mb_X12_kept mv_X12_kept ml_L_62 sh_94 rfl dL_law_549 (fun _ => rfl) rfl (Nat.le_of_ble_eq_true rfl) rfl (Nat.le_of_ble_eq_true rfl) (tX12_kept (by omega) x88 x89 M21 hO21) (fun x90 M22 _ hO22 => ?_)
                            refine q_icmpeq (tgt := 1157) dL_law_552 (by decide) ?_ ?_
                            · refine q_sub [0, 1, 2, 3] rfl ?_
                              exact tL_law_1157 hd L xs  (fL_law_18 L xs n) ih x3 M22 hO22
                            · refine q_iconst dL_law_555 ?_
                              exact q_ret ⟨dL_law_556, by decide⟩ rfl
                          · refine q_case (fun h12 => ?_) (fun h12 => ?_)
                            · refine q_tswI (tgt := 557) h12 dL_law_33 (by decide) (by decide) rfl (by decide) ?_
                              refine q_aload_n 1 dL_law_557 rfl rfl ?_
                              refine q_aload_n 0 dL_law_558 rfl rfl ?_
                              refine q_iload_n 3 dL_law_559 rfl rfl ?_
                              refine q_iconst dL_law_560 ?_
                              refine q_iadd dL_law_561 ?_
                              refine q_sld dL_law_562 (fun x91 => ?_)
                              refine q_aload_n 0 dL_law_563 rfl rfl ?_
                              refine q_iload_n 3 dL_law_564 rfl rfl ?_
                              refine q_iconst dL_law_565 ?_
                              refine q_iadd dL_law_566 ?_
                              refine q_sld dL_law_567 (fun x92 => ?_)
                              refine q_aload_n 0 dL_law_568 rfl rfl ?_
                              refine q_iload_n 3 dL_law_569 rfl rfl ?_
                              refine q_iconst dL_law_570 ?_
                              refine q_iadd dL_law_571 ?_
                              refine q_sld dL_law_572 (fun x93 => ?_)
                              refine q_callVi (As := [.inl x91, .inl x92, .inl x93]) hO mb_X11_when mv_X11_when ml_L_63 sh_0 rfl dL_law_573 (fun _ => rfl) rfl (Nat.le_of_ble_eq_true rfl) rfl (Nat.le_of_ble_eq_true rfl) (tX11_when (by omega) x91 x92 x93 M hO) (fun x94 M23 _ hO23 => ?_)
                              refine q_aload_n 2 dL_law_576 rfl rfl ?_
                              refine q_aload_n 0 dL_law_577 rfl rfl ?_
                              refine q_iload_n 3 dL_law_578 rfl rfl ?_
                              refine q_iconst dL_law_579 ?_
                              refine q_iadd dL_law_580 ?_
                              refine q_sld dL_law_581 (fun x95 => ?_)
                              refine q_aload_n 0 dL_law_582 rfl rfl ?_
                              refine q_iload_n 3 dL_law_583 rfl rfl ?_
                              refine q_iconst dL_law_584 ?_
                              refine q_iadd dL_law_585 ?_
                              refine q_sld dL_law_586 (fun x96 => ?_)
                              refine q_aload_n 0 dL_law_587 rfl rfl ?_
                              refine q_iload_n 3 dL_law_588 rfl rfl ?_
                              refine q_iconst dL_law_589 ?_
                              refine q_iadd dL_law_590 ?_
                              refine q_sld dL_law_591 (fun x97 => ?_)
                              refine q_callVi (As := [.inl x95, .inl x96, .inl x97]) hO23 mb_X12_when mv_X12_when ml_L_66 sh_94 rfl dL_law_592 (fun _ => rfl) rfl (Nat.le_of_ble_eq_true rfl) rfl (Nat.le_of_ble_eq_true rfl) (tX12_when (by omega) x95 x96 x97 M23 hO23) (fun x98 M24 _ hO24 => ?_)
                              refine q_icmpeq (tgt := 1157) dL_law_595 (by decide) ?_ ?_
                              · refine q_sub [0, 1, 2, 3] rfl ?_
                                exact tL_law_1157 hd L xs  (fL_law_18 L xs n) ih x3 M24 hO24
                              · refine q_iconst dL_law_598 ?_
                                exact q_ret ⟨dL_law_599, by decide⟩ rfl
                            · refine q_case (fun h13 => ?_) (fun h13 => ?_)
                              · refine q_tswI (tgt := 600) h13 dL_law_33 (by decide) (by decide) rfl (by decide) ?_
                                refine q_aload_n 1 dL_law_600 rfl rfl ?_
                                refine q_aload_n 0 dL_law_601 rfl rfl ?_
                                refine q_iload_n 3 dL_law_602 rfl rfl ?_
                                refine q_iconst dL_law_603 ?_
                                refine q_iadd dL_law_604 ?_
                                refine q_sld dL_law_605 (fun x99 => ?_)
                                refine q_aload_n 0 dL_law_606 rfl rfl ?_
                                refine q_iload_n 3 dL_law_607 rfl rfl ?_
                                refine q_iconst dL_law_608 ?_
                                refine q_iadd dL_law_609 ?_
                                refine q_sld dL_law_610 (fun x100 => ?_)
                                refine q_callVi (As := [.inl x99, .inl x100]) hO mb_X11_round mv_X11_round ml_L_67 sh_0 rfl dL_law_611 (fun _ => rfl) rfl (Nat.le_of_ble_eq_true rfl) rfl (Nat.le_of_ble_eq_true rfl) (tX11_round (by omega) x99 x100 M hO) (fun x101 M25 _ hO25 => ?_)
                                refine q_aload_n 2 dL_law_614 rfl rfl ?_
                                refine q_aload_n 0 dL_law_615 rfl rfl ?_
                                refine q_iload_n 3 dL_law_616 rfl rfl ?_
                                refine q_iconst dL_law_617 ?_
                                refine q_iadd dL_law_618 ?_
                                refine q_sld dL_law_619 (fun x102 => ?_)
                                refine q_aload_n 0 dL_law_620 rfl rfl ?_
                                refine q_iload_n 3 dL_law_621 rfl rfl ?_
                                refine q_iconst dL_law_622 ?_
                                refine q_iadd dL_law_623 ?_
                                refine q_sld dL_law_624 (fun x103 => ?_)
                                refine q_callVi (As := [.inl x102, .inl x103]) hO25 mb_X12_round mv_X12_round ml_L_70 sh_94 rfl dL_law_625 (fun _ => rfl) rfl (Nat.le_of_ble_eq_true rfl) rfl (Nat.le_of_ble_eq_true rfl) (tX12_round (by omega) x102 x103 M25 hO25) (fun x104 M26 _ hO26 => ?_)
                                refine q_icmpeq (tgt := 1157) dL_law_628 (by decide) ?_ ?_
                                · refine q_sub [0, 1, 2, 3] rfl ?_
                                  exact tL_law_1157 hd L xs  (fL_law_18 L xs n) ih x3 M26 hO26
                                · refine q_iconst dL_law_631 ?_
                                  exact q_ret ⟨dL_law_632, by decide⟩ rfl
                              · refine q_case (fun h14 => ?_) (fun h14 => ?_)
                                · refine q_tswI (tgt := 633) h14 dL_law_33 (by decide) (by decide) rfl (by decide) ?_
                                  refine q_aload_n 1 dL_law_633 rfl rfl ?_
                                  refine q_aload_n 0 dL_law_634 rfl rfl ?_
                                  refine q_iload_n 3 dL_law_635 rfl rfl ?_
                                  refine q_iconst dL_law_636 ?_
                                  refine q_iadd dL_law_637 ?_
                                  refine q_sld dL_law_638 (fun x105 => ?_)
                                  refine q_callVi (As := [.inl x105]) hO mb_X11_blocked mv_X11_blocked ml_L_71 sh_0 rfl dL_law_639 (fun _ => rfl) rfl (Nat.le_of_ble_eq_true rfl) rfl (Nat.le_of_ble_eq_true rfl) (tX11_blocked (by omega) x105 M hO) (fun x106 M27 _ hO27 => ?_)
                                  refine q_aload_n 2 dL_law_642 rfl rfl ?_
                                  refine q_aload_n 0 dL_law_643 rfl rfl ?_
                                  refine q_iload_n 3 dL_law_644 rfl rfl ?_
                                  refine q_iconst dL_law_645 ?_
                                  refine q_iadd dL_law_646 ?_
                                  refine q_sld dL_law_647 (fun x107 => ?_)
                                  refine q_callVi (As := [.inl x107]) hO27 mb_X12_blocked mv_X12_blocked ml_L_74 sh_94 rfl dL_law_648 (fun _ => rfl) rfl (Nat.le_of_ble_eq_true rfl) rfl (Nat.le_of_ble_eq_true rfl) (tX12_blocked (by omega) x107 M27 hO27) (fun x108 M28 _ hO28 => ?_)
                                  refine q_icmpeq (tgt := 1157) dL_law_651 (by decide) ?_ ?_
                                  · refine q_sub [0, 1, 2, 3] rfl ?_
                                    exact tL_law_1157 hd L xs  (fL_law_18 L xs n) ih x3 M28 hO28
                                  · refine q_iconst dL_law_654 ?_
                                    exact q_ret ⟨dL_law_655, by decide⟩ rfl
                                · refine q_case (fun h15 => ?_) (fun h15 => ?_)
                                  · refine q_tswI (tgt := 656) h15 dL_law_33 (by decide) (by decide) rfl (by decide) ?_
                                    refine q_aload_n 1 dL_law_656 rfl rfl ?_
                                    refine q_aload_n 0 dL_law_657 rfl rfl ?_
                                    refine q_iload_n 3 dL_law_658 rfl rfl ?_
                                    refine q_iconst dL_law_659 ?_
                                    refine q_iadd dL_law_660 ?_
                                    refine q_sld dL_law_661 (fun x109 => ?_)
                                    refine q_aload_n 0 dL_law_662 rfl rfl ?_
                                    refine q_iload_n 3 dL_law_663 rfl rfl ?_
                                    refine q_iconst dL_law_664 ?_
                                    refine q_iadd dL_law_665 ?_
                                    refine q_sld dL_law_666 (fun x110 => ?_)
                                    refine q_callVi (As := [.inl x109, .inl x110]) hO mb_X11_strike mv_X11_strike ml_L_75 sh_0 rfl dL_law_667 (fun _ => rfl) rfl (Nat.le_of_ble_eq_true rfl) rfl (Nat.le_of_ble_eq_true rfl) (tX11_strike (by omega) x109 x110 M hO) (fun x111 M29 _ hO29 => ?_)
                                    refine q_aload_n 2 dL_law_670 rfl rfl ?_
                                    refine q_aload_n 0 dL_law_671 rfl rfl ?_
                                    refine q_iload_n 3 dL_law_672 rfl rfl ?_
                                    refine q_iconst dL_law_673 ?_
                                    refine q_iadd dL_law_674 ?_
                                    refine q_sld dL_law_675 (fun x112 => ?_)
                                    refine q_aload_n 0 dL_law_676 rfl rfl ?_
                                    refine q_iload_n 3 dL_law_677 rfl rfl ?_
                                    refine q_iconst dL_law_678 ?_
                                    refine q_iadd dL_law_679 ?_
                                    refine q_sld dL_law_680 (fun x113 => ?_)
                                    refine q_callVi (As := [.inl x112, .inl x113]) hO29 mb_X12_strike mv_X12_strike ml_L_78 sh_94 rfl dL_law_681 (fun _ => rfl) rfl (Nat.le_of_ble_eq_true rfl) rfl (Nat.le_of_ble_eq_true rfl) (tX12_strike (by omega) x112 x113 M29 hO29) (fun x114 M30 _ hO30 => ?_)
                                    refine q_icmpeq (tgt := 1157) dL_law_684 (by decide) ?_ ?_
                                    · refine q_sub [0, 1, 2, 3] rfl ?_
                                      exact tL_law_1157 hd L xs  (fL_law_18 L xs n) ih x3 M30 hO30
                                    · refine q_iconst dL_law_687 ?_
                                      exact q_ret ⟨dL_law_688, by decide⟩ rfl
                                  · refine q_case (fun h16 => ?_) (fun h16 => ?_)
                                    · refine q_tswI (tgt := 689) h16 dL_law_33 (by decide) (by decide) rfl (by decide) ?_
                                      refine q_aload_n 1 dL_law_689 rfl rfl ?_
                                      refine q_aload_n 0 dL_law_690 rfl rfl ?_
                                      refine q_iload_n 3 dL_law_691 rfl rfl ?_
                                      refine q_iconst dL_law_692 ?_
                                      refine q_iadd dL_law_693 ?_
                                      refine q_sld dL_law_694 (fun x115 => ?_)
                                      refine q_callVi (As := [.inl x115]) hO mb_X11_handy mv_X11_handy ml_L_79 sh_0 rfl dL_law_695 (fun _ => rfl) rfl (Nat.le_of_ble_eq_true rfl) rfl (Nat.le_of_ble_eq_true rfl) (tX11_handy (by omega) x115 M hO) (fun x116 M31 _ hO31 => ?_)
                                      refine q_aload_n 2 dL_law_698 rfl rfl ?_
                                      refine q_aload_n 0 dL_law_699 rfl rfl ?_
                                      refine q_iload_n 3 dL_law_700 rfl rfl ?_
                                      refine q_iconst dL_law_701 ?_
                                      refine q_iadd dL_law_702 ?_
                                      refine q_sld dL_law_703 (fun x117 => ?_)
                                      refine q_callVi (As := [.inl x117]) hO31 mb_X12_handy mv_X12_handy ml_L_82 sh_94 rfl dL_law_704 (fun _ => rfl) rfl (Nat.le_of_ble_eq_true rfl) rfl (Nat.le_of_ble_eq_true rfl) (tX12_handy (by omega) x117 M31 hO31) (fun x118 M32 _ hO32 => ?_)
                                      refine q_icmpeq (tgt := 1157) dL_law_707 (by decide) ?_ ?_
                                      · refine q_sub [0, 1, 2, 3] rfl ?_
                                        exact tL_law_1157 hd L xs  (fL_law_18 L xs n) ih x3 M32 hO32
                                      · refine q_iconst dL_law_710 ?_
                                        exact q_ret ⟨dL_law_711, by decide⟩ rfl
                                    · refine q_case (fun h17 => ?_) (fun h17 => ?_)
                                      · refine q_tswI (tgt := 712) h17 dL_law_33 (by decide) (by decide) rfl (by decide) ?_
                                        refine q_aload_n 1 dL_law_712 rfl rfl ?_
                                        refine q_aload_n 0 dL_law_713 rfl rfl ?_
                                        refine q_iload_n 3 dL_law_714 rfl rfl ?_
                                        refine q_iconst dL_law_715 ?_
                                        refine q_iadd dL_law_716 ?_
                                        refine q_sld dL_law_717 (fun x119 => ?_)
                                        refine q_aload_n 0 dL_law_718 rfl rfl ?_
                                        refine q_iload_n 3 dL_law_719 rfl rfl ?_
                                        refine q_iconst dL_law_720 ?_
                                        refine q_iadd dL_law_721 ?_
                                        refine q_sld dL_law_722 (fun x120 => ?_)
                                        refine q_aload_n 0 dL_law_723 rfl rfl ?_
                                        refine q_iload_n 3 dL_law_724 rfl rfl ?_
                                        refine q_iconst dL_law_725 ?_
                                        refine q_iadd dL_law_726 ?_
                                        refine q_sld dL_law_727 (fun x121 => ?_)
                                        refine q_callVi (As := [.inl x119, .inl x120, .inl x121]) hO mb_X11_odd mv_X11_odd ml_L_83 sh_0 rfl dL_law_728 (fun _ => rfl) rfl (Nat.le_of_ble_eq_true rfl) rfl (Nat.le_of_ble_eq_true rfl) (tX11_odd (by omega) x119 x120 x121 M hO) (fun x122 M33 _ hO33 => ?_)
                                        refine q_aload_n 2 dL_law_731 rfl rfl ?_
                                        refine q_aload_n 0 dL_law_732 rfl rfl ?_
                                        refine q_iload_n 3 dL_law_733 rfl rfl ?_
                                        refine q_iconst dL_law_734 ?_
                                        refine q_iadd dL_law_735 ?_
                                        refine q_sld dL_law_736 (fun x123 => ?_)
                                        refine q_aload_n 0 dL_law_737 rfl rfl ?_
                                        refine q_iload_n 3 dL_law_738 rfl rfl ?_
                                        refine q_iconst dL_law_739 ?_
                                        refine q_iadd dL_law_740 ?_
                                        refine q_sld dL_law_741 (fun x124 => ?_)
                                        refine q_aload_n 0 dL_law_742 rfl rfl ?_
                                        refine q_iload_n 3 dL_law_743 rfl rfl ?_
                                        refine q_iconst dL_law_744 ?_
                                        refine q_iadd dL_law_745 ?_
                                        refine q_sld dL_law_746 (fun x125 => ?_)
                                        refine q_callVi (As := [.inl x123, .inl x124, .inl x125]) hO33 mb_X12_odd mv_X12_odd ml_L_86 sh_94 rfl dL_law_747 (fun _ => rfl) rfl (Nat.le_of_ble_eq_true rfl) rfl (Nat.le_of_ble_eq_true rfl) (tX12_odd (by omega) x123 x124 x125 M33 hO33) (fun x126 M34 _ hO34 => ?_)
                                        refine q_icmpeq (tgt := 1157) dL_law_750 (by decide) ?_ ?_
                                        · refine q_sub [0, 1, 2, 3] rfl ?_
                                          exact tL_law_1157 hd L xs  (fL_law_18 L xs n) ih x3 M34 hO34
                                        · refine q_iconst dL_law_753 ?_
                                          exact q_ret ⟨dL_law_754, by decide⟩ rfl
                                      · refine q_case (fun h18 => ?_) (fun h18 => ?_)
                                        · refine q_tswI (tgt := 755) h18 dL_law_33 (by decide) (by decide) rfl (by decide) ?_
                                          refine q_aload_n 1 dL_law_755 rfl rfl ?_
                                          refine q_aload_n 0 dL_law_756 rfl rfl ?_
                                          refine q_iload_n 3 dL_law_757 rfl rfl ?_
                                          refine q_iconst dL_law_758 ?_
                                          refine q_iadd dL_law_759 ?_
                                          refine q_sld dL_law_760 (fun x127 => ?_)
                                          refine q_aload_n 0 dL_law_761 rfl rfl ?_
                                          refine q_iload_n 3 dL_law_762 rfl rfl ?_
                                          refine q_iconst dL_law_763 ?_
                                          refine q_iadd dL_law_764 ?_
                                          refine q_sld dL_law_765 (fun x128 => ?_)
                                          refine q_callVi (As := [.inl x127, .inl x128]) hO mb_X11_bridge mv_X11_bridge ml_L_87 sh_0 rfl dL_law_766 (fun _ => rfl) rfl (Nat.le_of_ble_eq_true rfl) rfl (Nat.le_of_ble_eq_true rfl) (tX11_bridge (by omega) x127 x128 M hO) (fun x129 M35 _ hO35 => ?_)
                                          refine q_aload_n 2 dL_law_769 rfl rfl ?_
                                          refine q_aload_n 0 dL_law_770 rfl rfl ?_
                                          refine q_iload_n 3 dL_law_771 rfl rfl ?_
                                          refine q_iconst dL_law_772 ?_
                                          refine q_iadd dL_law_773 ?_
                                          refine q_sld dL_law_774 (fun x130 => ?_)
                                          refine q_aload_n 0 dL_law_775 rfl rfl ?_
                                          refine q_iload_n 3 dL_law_776 rfl rfl ?_
                                          refine q_iconst dL_law_777 ?_
                                          refine q_iadd dL_law_778 ?_
                                          refine q_sld dL_law_779 (fun x131 => ?_)
                                          refine q_callVi (As := [.inl x130, .inl x131]) hO35 mb_X12_bridge mv_X12_bridge ml_L_90 sh_94 rfl dL_law_780 (fun _ => rfl) rfl (Nat.le_of_ble_eq_true rfl) rfl (Nat.le_of_ble_eq_true rfl) (tX12_bridge (by omega) x130 x131 M35 hO35) (fun x132 M36 _ hO36 => ?_)
                                          refine q_icmpeq (tgt := 1157) dL_law_783 (by decide) ?_ ?_
                                          · refine q_sub [0, 1, 2, 3] rfl ?_
                                            exact tL_law_1157 hd L xs  (fL_law_18 L xs n) ih x3 M36 hO36
                                          · refine q_iconst dL_law_786 ?_
                                            exact q_ret ⟨dL_law_787, by decide⟩ rfl
                                        · refine q_case (fun h19 => ?_) (fun h19 => ?_)
                                          · refine q_tswI (tgt := 788) h19 dL_law_33 (by decide) (by decide) rfl (by decide) ?_
                                            refine q_aload_n 1 dL_law_788 rfl rfl ?_
                                            refine q_aload_n 0 dL_law_789 rfl rfl ?_
                                            refine q_iload_n 3 dL_law_790 rfl rfl ?_
                                            refine q_iconst dL_law_791 ?_
                                            refine q_iadd dL_law_792 ?_
                                            refine q_sld dL_law_793 (fun x133 => ?_)
                                            refine q_aload_n 0 dL_law_794 rfl rfl ?_
                                            refine q_iload_n 3 dL_law_795 rfl rfl ?_
                                            refine q_iconst dL_law_796 ?_
                                            refine q_iadd dL_law_797 ?_
                                            refine q_sld dL_law_798 (fun x134 => ?_)
                                            refine q_aload_n 0 dL_law_799 rfl rfl ?_
                                            refine q_iload_n 3 dL_law_800 rfl rfl ?_
                                            refine q_iconst dL_law_801 ?_
                                            refine q_iadd dL_law_802 ?_
                                            refine q_sld dL_law_803 (fun x135 => ?_)
                                            refine q_callVi (As := [.inl x133, .inl x134, .inl x135]) hO mb_X11_change mv_X11_change ml_L_91 sh_0 rfl dL_law_804 (fun _ => rfl) rfl (Nat.le_of_ble_eq_true rfl) rfl (Nat.le_of_ble_eq_true rfl) (tX11_change (by omega) x133 x134 x135 M hO) (fun x136 M37 _ hO37 => ?_)
                                            refine q_aload_n 2 dL_law_807 rfl rfl ?_
                                            refine q_aload_n 0 dL_law_808 rfl rfl ?_
                                            refine q_iload_n 3 dL_law_809 rfl rfl ?_
                                            refine q_iconst dL_law_810 ?_
                                            refine q_iadd dL_law_811 ?_
                                            refine q_sld dL_law_812 (fun x137 => ?_)
                                            refine q_aload_n 0 dL_law_813 rfl rfl ?_
                                            refine q_iload_n 3 dL_law_814 rfl rfl ?_
                                            refine q_iconst dL_law_815 ?_
                                            refine q_iadd dL_law_816 ?_
                                            refine q_sld dL_law_817 (fun x138 => ?_)
                                            refine q_aload_n 0 dL_law_818 rfl rfl ?_
                                            refine q_iload_n 3 dL_law_819 rfl rfl ?_
                                            refine q_iconst dL_law_820 ?_
                                            refine q_iadd dL_law_821 ?_
                                            refine q_sld dL_law_822 (fun x139 => ?_)
                                            refine q_callVi (As := [.inl x137, .inl x138, .inl x139]) hO37 mb_X12_change mv_X12_change ml_L_94 sh_94 rfl dL_law_823 (fun _ => rfl) rfl (Nat.le_of_ble_eq_true rfl) rfl (Nat.le_of_ble_eq_true rfl) (tX12_change (by omega) x137 x138 x139 M37 hO37) (fun x140 M38 _ hO38 => ?_)
                                            refine q_icmpeq (tgt := 1157) dL_law_826 (by decide) ?_ ?_
                                            · refine q_sub [0, 1, 2, 3] rfl ?_
                                              exact tL_law_1157 hd L xs  (fL_law_18 L xs n) ih x3 M38 hO38
                                            · refine q_iconst dL_law_829 ?_
                                              exact q_ret ⟨dL_law_830, by decide⟩ rfl
                                          · refine q_case (fun h20 => ?_) (fun h20 => ?_)
                                            · refine q_tswI (tgt := 831) h20 dL_law_33 (by decide) (by decide) rfl (by decide) ?_
                                              refine q_aload_n 1 dL_law_831 rfl rfl ?_
                                              refine q_aload_n 0 dL_law_832 rfl rfl ?_
                                              refine q_iload_n 3 dL_law_833 rfl rfl ?_
                                              refine q_iconst dL_law_834 ?_
                                              refine q_iadd dL_law_835 ?_
                                              refine q_sld dL_law_836 (fun x141 => ?_)
                                              refine q_aload_n 0 dL_law_837 rfl rfl ?_
                                              refine q_iload_n 3 dL_law_838 rfl rfl ?_
                                              refine q_iconst dL_law_839 ?_
                                              refine q_iadd dL_law_840 ?_
                                              refine q_sld dL_law_841 (fun x142 => ?_)
                                              refine q_aload_n 0 dL_law_842 rfl rfl ?_
                                              refine q_iload_n 3 dL_law_843 rfl rfl ?_
                                              refine q_iconst dL_law_844 ?_
                                              refine q_iadd dL_law_845 ?_
                                              refine q_sld dL_law_846 (fun x143 => ?_)
                                              refine q_callVi (As := [.inl x141, .inl x142, .inl x143]) hO mb_X11_chalked mv_X11_chalked ml_L_95 sh_0 rfl dL_law_847 (fun _ => rfl) rfl (Nat.le_of_ble_eq_true rfl) rfl (Nat.le_of_ble_eq_true rfl) (tX11_chalked (by omega) x141 x142 x143 M hO) (fun x144 M39 _ hO39 => ?_)
                                              refine q_aload_n 2 dL_law_850 rfl rfl ?_
                                              refine q_aload_n 0 dL_law_851 rfl rfl ?_
                                              refine q_iload_n 3 dL_law_852 rfl rfl ?_
                                              refine q_iconst dL_law_853 ?_
                                              refine q_iadd dL_law_854 ?_
                                              refine q_sld dL_law_855 (fun x145 => ?_)
                                              refine q_aload_n 0 dL_law_856 rfl rfl ?_
                                              refine q_iload_n 3 dL_law_857 rfl rfl ?_
                                              refine q_iconst dL_law_858 ?_
                                              refine q_iadd dL_law_859 ?_
                                              refine q_sld dL_law_860 (fun x146 => ?_)
                                              refine q_aload_n 0 dL_law_861 rfl rfl ?_
                                              refine q_iload_n 3 dL_law_862 rfl rfl ?_
                                              refine q_iconst dL_law_863 ?_
                                              refine q_iadd dL_law_864 ?_
                                              refine q_sld dL_law_865 (fun x147 => ?_)
                                              refine q_callVi (As := [.inl x145, .inl x146, .inl x147]) hO39 mb_X12_chalked mv_X12_chalked ml_L_98 sh_94 rfl dL_law_866 (fun _ => rfl) rfl (Nat.le_of_ble_eq_true rfl) rfl (Nat.le_of_ble_eq_true rfl) (tX12_chalked (by omega) x145 x146 x147 M39 hO39) (fun x148 M40 _ hO40 => ?_)
                                              refine q_icmpeq (tgt := 1157) dL_law_869 (by decide) ?_ ?_
                                              · refine q_sub [0, 1, 2, 3] rfl ?_
                                                exact tL_law_1157 hd L xs  (fL_law_18 L xs n) ih x3 M40 hO40
                                              · refine q_iconst dL_law_872 ?_
                                                exact q_ret ⟨dL_law_873, by decide⟩ rfl
                                            · refine q_case (fun h21 => ?_) (fun h21 => ?_)
                                              · refine q_tswI (tgt := 874) h21 dL_law_33 (by decide) (by decide) rfl (by decide) ?_
                                                refine q_aload_n 1 dL_law_874 rfl rfl ?_
                                                refine q_callVi (As := []) hO mb_X11_see mv_X11_see ml_L_99 sh_0 rfl dL_law_875 (fun _ => rfl) rfl (Nat.le_of_ble_eq_true rfl) rfl (Nat.le_of_ble_eq_true rfl) (tX11_see (by omega) M hO) (fun x149 M41 _ hO41 => ?_)
                                                refine q_aload_n 2 dL_law_878 rfl rfl ?_
                                                refine q_callVi (As := []) hO41 mb_X12_see mv_X12_see ml_L_102 sh_94 rfl dL_law_879 (fun _ => rfl) rfl (Nat.le_of_ble_eq_true rfl) rfl (Nat.le_of_ble_eq_true rfl) (tX12_see (by omega) M41 hO41) (fun x150 M42 _ hO42 => ?_)
                                                refine q_icmpeq (tgt := 1157) dL_law_882 (by decide) ?_ ?_
                                                · refine q_sub [0, 1, 2, 3] rfl ?_
                                                  exact tL_law_1157 hd L xs  (fL_law_18 L xs n) ih x3 M42 hO42
                                                · refine q_iconst dL_law_885 ?_
                                                  exact q_ret ⟨dL_law_886, by decide⟩ rfl
                                              · refine q_case (fun h22 => ?_) (fun h22 => ?_)
                                                · refine q_tswI (tgt := 887) h22 dL_law_33 (by decide) (by decide) rfl (by decide) ?_
                                                  refine q_aload_n 1 dL_law_887 rfl rfl ?_
                                                  refine q_aload_n 0 dL_law_888 rfl rfl ?_
                                                  refine q_iload_n 3 dL_law_889 rfl rfl ?_
                                                  refine q_iconst dL_law_890 ?_
                                                  refine q_iadd dL_law_891 ?_
                                                  refine q_sld dL_law_892 (fun x151 => ?_)
                                                  refine q_callVi (As := [.inl x151]) hO mb_X11_minutes mv_X11_minutes ml_L_103 sh_0 rfl dL_law_893 (fun _ => rfl) rfl (Nat.le_of_ble_eq_true rfl) rfl (Nat.le_of_ble_eq_true rfl) (tX11_minutes (by omega) x151 M hO) (fun x152 M43 _ hO43 => ?_)
                                                  refine q_aload_n 2 dL_law_896 rfl rfl ?_
                                                  refine q_aload_n 0 dL_law_897 rfl rfl ?_
                                                  refine q_iload_n 3 dL_law_898 rfl rfl ?_
                                                  refine q_iconst dL_law_899 ?_
                                                  refine q_iadd dL_law_900 ?_
                                                  refine q_sld dL_law_901 (fun x153 => ?_)
                                                  refine q_callVi (As := [.inl x153]) hO43 mb_X12_minutes mv_X12_minutes ml_L_106 sh_94 rfl dL_law_902 (fun _ => rfl) rfl (Nat.le_of_ble_eq_true rfl) rfl (Nat.le_of_ble_eq_true rfl) (tX12_minutes (by omega) x153 M43 hO43) (fun x154 M44 _ hO44 => ?_)
                                                  refine q_icmpeq (tgt := 1157) dL_law_905 (by decide) ?_ ?_
                                                  · refine q_sub [0, 1, 2, 3] rfl ?_
                                                    exact tL_law_1157 hd L xs  (fL_law_18 L xs n) ih x3 M44 hO44
                                                  · refine q_iconst dL_law_908 ?_
                                                    exact q_ret ⟨dL_law_909, by decide⟩ rfl
                                                · refine q_case (fun h23 => ?_) (fun h23 => ?_)
                                                  · refine q_tswI (tgt := 910) h23 dL_law_33 (by decide) (by decide) rfl (by decide) ?_
                                                    refine q_aload_n 1 dL_law_910 rfl rfl ?_
                                                    refine q_aload_n 0 dL_law_911 rfl rfl ?_
                                                    refine q_iload_n 3 dL_law_912 rfl rfl ?_
                                                    refine q_iconst dL_law_913 ?_
                                                    refine q_iadd dL_law_914 ?_
                                                    refine q_sld dL_law_915 (fun x155 => ?_)
                                                    refine q_callVi (As := [.inl x155]) hO mb_X11_lamps mv_X11_lamps ml_L_107 sh_0 rfl dL_law_916 (fun _ => rfl) rfl (Nat.le_of_ble_eq_true rfl) rfl (Nat.le_of_ble_eq_true rfl) (tX11_lamps (by omega) x155 M hO) (fun x156 M45 _ hO45 => ?_)
                                                    refine q_aload_n 2 dL_law_919 rfl rfl ?_
                                                    refine q_aload_n 0 dL_law_920 rfl rfl ?_
                                                    refine q_iload_n 3 dL_law_921 rfl rfl ?_
                                                    refine q_iconst dL_law_922 ?_
                                                    refine q_iadd dL_law_923 ?_
                                                    refine q_sld dL_law_924 (fun x157 => ?_)
                                                    refine q_callVi (As := [.inl x157]) hO45 mb_X12_lamps mv_X12_lamps ml_L_110 sh_94 rfl dL_law_925 (fun _ => rfl) rfl (Nat.le_of_ble_eq_true rfl) rfl (Nat.le_of_ble_eq_true rfl) (tX12_lamps (by omega) x157 M45 hO45) (fun x158 M46 _ hO46 => ?_)
                                                    refine q_icmpeq (tgt := 1157) dL_law_928 (by decide) ?_ ?_
                                                    · refine q_sub [0, 1, 2, 3] rfl ?_
                                                      exact tL_law_1157 hd L xs  (fL_law_18 L xs n) ih x3 M46 hO46
                                                    · refine q_iconst dL_law_931 ?_
                                                      exact q_ret ⟨dL_law_932, by decide⟩ rfl
                                                  · refine q_case (fun h24 => ?_) (fun h24 => ?_)
                                                    · refine q_tswI (tgt := 933) h24 dL_law_33 (by decide) (by decide) rfl (by decide) ?_
                                                      refine q_aload_n 1 dL_law_933 rfl rfl ?_
                                                      refine q_aload_n 0 dL_law_934 rfl rfl ?_
                                                      refine q_iload_n 3 dL_law_935 rfl rfl ?_
                                                      refine q_iconst dL_law_936 ?_
                                                      refine q_iadd dL_law_937 ?_
                                                      refine q_sld dL_law_938 (fun x159 => ?_)
                                                      refine q_callVi (As := [.inl x159]) hO mb_X11_walk mv_X11_walk ml_L_111 sh_0 rfl dL_law_939 (fun _ => rfl) rfl (Nat.le_of_ble_eq_true rfl) rfl (Nat.le_of_ble_eq_true rfl) (tX11_walk (by omega) x159 M hO) (fun x160 M47 _ hO47 => ?_)
                                                      refine q_aload_n 2 dL_law_942 rfl rfl ?_
                                                      refine q_aload_n 0 dL_law_943 rfl rfl ?_
                                                      refine q_iload_n 3 dL_law_944 rfl rfl ?_
                                                      refine q_iconst dL_law_945 ?_
                                                      refine q_iadd dL_law_946 ?_
                                                      refine q_sld dL_law_947 (fun x161 => ?_)
                                                      refine q_callVi (As := [.inl x161]) hO47 mb_X12_walk mv_X12_walk ml_L_114 sh_94 rfl dL_law_948 (fun _ => rfl) rfl (Nat.le_of_ble_eq_true rfl) rfl (Nat.le_of_ble_eq_true rfl) (tX12_walk (by omega) x161 M47 hO47) (fun x162 M48 _ hO48 => ?_)
                                                      refine q_icmpeq (tgt := 1157) dL_law_951 (by decide) ?_ ?_
                                                      · refine q_sub [0, 1, 2, 3] rfl ?_
                                                        exact tL_law_1157 hd L xs  (fL_law_18 L xs n) ih x3 M48 hO48
                                                      · refine q_iconst dL_law_954 ?_
                                                        exact q_ret ⟨dL_law_955, by decide⟩ rfl
                                                    · refine q_case (fun h25 => ?_) (fun h25 => ?_)
                                                      · refine q_tswI (tgt := 956) h25 dL_law_33 (by decide) (by decide) rfl (by decide) ?_
                                                        refine q_aload_n 1 dL_law_956 rfl rfl ?_
                                                        refine q_aload_n 0 dL_law_957 rfl rfl ?_
                                                        refine q_iload_n 3 dL_law_958 rfl rfl ?_
                                                        refine q_iconst dL_law_959 ?_
                                                        refine q_iadd dL_law_960 ?_
                                                        refine q_sld dL_law_961 (fun x163 => ?_)
                                                        refine q_callVi (As := [.inl x163]) hO mb_X11_pause mv_X11_pause ml_L_115 sh_0 rfl dL_law_962 (fun _ => rfl) rfl (Nat.le_of_ble_eq_true rfl) rfl (Nat.le_of_ble_eq_true rfl) (tX11_pause (by omega) x163 M hO) (fun x164 M49 _ hO49 => ?_)
                                                        refine q_aload_n 2 dL_law_965 rfl rfl ?_
                                                        refine q_aload_n 0 dL_law_966 rfl rfl ?_
                                                        refine q_iload_n 3 dL_law_967 rfl rfl ?_
                                                        refine q_iconst dL_law_968 ?_
                                                        refine q_iadd dL_law_969 ?_
                                                        refine q_sld dL_law_970 (fun x165 => ?_)
                                                        refine q_callVi (As := [.inl x165]) hO49 mb_X12_pause mv_X12_pause ml_L_118 sh_94 rfl dL_law_971 (fun _ => rfl) rfl (Nat.le_of_ble_eq_true rfl) rfl (Nat.le_of_ble_eq_true rfl) (tX12_pause (by omega) x165 M49 hO49) (fun x166 M50 _ hO50 => ?_)
                                                        refine q_icmpeq (tgt := 1157) dL_law_974 (by decide) ?_ ?_
                                                        · refine q_sub [0, 1, 2, 3] rfl ?_
                                                          exact tL_law_1157 hd L xs  (fL_law_18 L xs n) ih x3 M50 hO50
                                                        · refine q_iconst dL_law_977 ?_
                                                          exact q_ret ⟨dL_law_978, by decide⟩ rfl
                                                      · refine q_case (fun h26 => ?_) (fun h26 => ?_)
                                                        · refine q_tswI (tgt := 979) h26 dL_law_33 (by decide) (by decide) rfl (by decide) ?_
                                                          refine q_aload_n 1 dL_law_979 rfl rfl ?_
                                                          refine q_aload_n 0 dL_law_980 rfl rfl ?_
                                                          refine q_iload_n 3 dL_law_981 rfl rfl ?_
                                                          refine q_iconst dL_law_982 ?_
                                                          refine q_iadd dL_law_983 ?_
                                                          refine q_sld dL_law_984 (fun x167 => ?_)
                                                          refine q_aload_n 0 dL_law_985 rfl rfl ?_
                                                          refine q_iload_n 3 dL_law_986 rfl rfl ?_
                                                          refine q_iconst dL_law_987 ?_
                                                          refine q_iadd dL_law_988 ?_
                                                          refine q_sld dL_law_989 (fun x168 => ?_)
                                                          refine q_callVi (As := [.inl x167, .inl x168]) hO mb_X11_buy mv_X11_buy ml_L_119 sh_0 rfl dL_law_990 (fun _ => rfl) rfl (Nat.le_of_ble_eq_true rfl) rfl (Nat.le_of_ble_eq_true rfl) (tX11_buy (by omega) x167 x168 M hO) (fun x169 M51 _ hO51 => ?_)
                                                          refine q_aload_n 2 dL_law_993 rfl rfl ?_
                                                          refine q_aload_n 0 dL_law_994 rfl rfl ?_
                                                          refine q_iload_n 3 dL_law_995 rfl rfl ?_
                                                          refine q_iconst dL_law_996 ?_
                                                          refine q_iadd dL_law_997 ?_
                                                          refine q_sld dL_law_998 (fun x170 => ?_)
                                                          refine q_aload_n 0 dL_law_999 rfl rfl ?_
                                                          refine q_iload_n 3 dL_law_1000 rfl rfl ?_
                                                          refine q_iconst dL_law_1001 ?_
                                                          refine q_iadd dL_law_1002 ?_
                                                          refine q_sld dL_law_1003 (fun x171 => ?_)
                                                          refine q_callVi (As := [.inl x170, .inl x171]) hO51 mb_X12_buy mv_X12_buy ml_L_123 sh_94 rfl dL_law_1004 (fun _ => rfl) rfl (Nat.le_of_ble_eq_true rfl) rfl (Nat.le_of_ble_eq_true rfl) (tX12_buy (by omega) x170 x171 M51 hO51) (fun x172 M52 _ hO52 => ?_)
                                                          refine q_icmpeq (tgt := 1157) dL_law_1007 (by decide) ?_ ?_
                                                          · refine q_sub [0, 1, 2, 3] rfl ?_
                                                            exact tL_law_1157 hd L xs  (fL_law_18 L xs n) ih x3 M52 hO52
                                                          · refine q_iconst dL_law_1010 ?_
                                                            exact q_ret ⟨dL_law_1011, by decide⟩ rfl
                                                        · refine q_case (fun h27 => ?_) (fun h27 => ?_)
                                                          · refine q_tswI (tgt := 1012) h27 dL_law_33 (by decide) (by decide) rfl (by decide) ?_
                                                            refine q_aload_n 1 dL_law_1012 rfl rfl ?_
                                                            refine q_aload_n 0 dL_law_1013 rfl rfl ?_
                                                            refine q_iload_n 3 dL_law_1014 rfl rfl ?_
                                                            refine q_iconst dL_law_1015 ?_
                                                            refine q_iadd dL_law_1016 ?_
                                                            refine q_sld dL_law_1017 (fun x173 => ?_)
                                                            refine q_callVi (As := [.inl x173]) hO mb_X11_chance mv_X11_chance ml_L_124 sh_0 rfl dL_law_1018 (fun _ => rfl) rfl (Nat.le_of_ble_eq_true rfl) rfl (Nat.le_of_ble_eq_true rfl) (tX11_chance (by omega) x173 M hO) (fun x174 M53 _ hO53 => ?_)
                                                            refine q_aload_n 2 dL_law_1021 rfl rfl ?_
                                                            refine q_aload_n 0 dL_law_1022 rfl rfl ?_
                                                            refine q_iload_n 3 dL_law_1023 rfl rfl ?_
                                                            refine q_iconst dL_law_1024 ?_
                                                            refine q_iadd dL_law_1025 ?_
                                                            refine q_sld dL_law_1026 (fun x175 => ?_)
                                                            refine q_callVi (As := [.inl x175]) hO53 mb_X12_chance mv_X12_chance ml_L_127 sh_94 rfl dL_law_1027 (fun _ => rfl) rfl (Nat.le_of_ble_eq_true rfl) rfl (Nat.le_of_ble_eq_true rfl) (tX12_chance (by omega) x175 M53 hO53) (fun x176 M54 _ hO54 => ?_)
                                                            refine q_icmpeq (tgt := 1157) dL_law_1030 (by decide) ?_ ?_
                                                            · refine q_sub [0, 1, 2, 3] rfl ?_
                                                              exact tL_law_1157 hd L xs  (fL_law_18 L xs n) ih x3 M54 hO54
                                                            · refine q_iconst dL_law_1033 ?_
                                                              exact q_ret ⟨dL_law_1034, by decide⟩ rfl
                                                          · refine q_case (fun h28 => ?_) (fun h28 => ?_)
                                                            · refine q_tswI (tgt := 1035) h28 dL_law_33 (by decide) (by decide) rfl (by decide) ?_
                                                              refine q_aload_n 1 dL_law_1035 rfl rfl ?_
                                                              refine q_callVi (As := []) hO mb_X11_undo mv_X11_undo ml_L_128 sh_0 rfl dL_law_1036 (fun _ => rfl) rfl (Nat.le_of_ble_eq_true rfl) rfl (Nat.le_of_ble_eq_true rfl) (tX11_undo (by omega) M hO) (fun x177 M55 _ hO55 => ?_)
                                                              refine q_aload_n 2 dL_law_1039 rfl rfl ?_
                                                              refine q_callVi (As := []) hO55 mb_X12_undo mv_X12_undo ml_L_132 sh_94 rfl dL_law_1040 (fun _ => rfl) rfl (Nat.le_of_ble_eq_true rfl) rfl (Nat.le_of_ble_eq_true rfl) (tX12_undo M55 hO55) (fun x178 M56 _ hO56 => ?_)
                                                              refine q_icmpeq (tgt := 1157) dL_law_1043 (by decide) ?_ ?_
                                                              · refine q_sub [0, 1, 2, 3] rfl ?_
                                                                exact tL_law_1157 hd L xs  (fL_law_18 L xs n) ih x3 M56 hO56
                                                              · refine q_iconst dL_law_1046 ?_
                                                                exact q_ret ⟨dL_law_1047, by decide⟩ rfl
                                                            · refine q_case (fun h29 => ?_) (fun h29 => ?_)
                                                              · refine q_tswI (tgt := 1048) h29 dL_law_33 (by decide) (by decide) rfl (by decide) ?_
                                                                refine q_aload_n 1 dL_law_1048 rfl rfl ?_
                                                                refine q_aload_n 0 dL_law_1049 rfl rfl ?_
                                                                refine q_iload_n 3 dL_law_1050 rfl rfl ?_
                                                                refine q_iconst dL_law_1051 ?_
                                                                refine q_iadd dL_law_1052 ?_
                                                                refine q_sld dL_law_1053 (fun x179 => ?_)
                                                                refine q_callVi (As := [.inl x179]) hO mb_X11_seed mv_X11_seed ml_L_133 sh_0 rfl dL_law_1054 (fun _ => rfl) rfl (Nat.le_of_ble_eq_true rfl) rfl (Nat.le_of_ble_eq_true rfl) (tX11_seed (by omega) x179 M hO) (fun x180 M57 _ hO57 => ?_)
                                                                refine q_aload_n 2 dL_law_1057 rfl rfl ?_
                                                                refine q_aload_n 0 dL_law_1058 rfl rfl ?_
                                                                refine q_iload_n 3 dL_law_1059 rfl rfl ?_
                                                                refine q_iconst dL_law_1060 ?_
                                                                refine q_iadd dL_law_1061 ?_
                                                                refine q_sld dL_law_1062 (fun x181 => ?_)
                                                                refine q_callVi (As := [.inl x181]) hO57 mb_X12_seed mv_X12_seed ml_L_136 sh_94 rfl dL_law_1063 (fun _ => rfl) rfl (Nat.le_of_ble_eq_true rfl) rfl (Nat.le_of_ble_eq_true rfl) (tX12_seed x181 M57 hO57) (fun x182 M58 _ hO58 => ?_)
                                                                refine q_icmpeq (tgt := 1157) dL_law_1066 (by decide) ?_ ?_
                                                                · refine q_sub [0, 1, 2, 3] rfl ?_
                                                                  exact tL_law_1157 hd L xs  (fL_law_18 L xs n) ih x3 M58 hO58
                                                                · refine q_iconst dL_law_1069 ?_
                                                                  exact q_ret ⟨dL_law_1070, by decide⟩ rfl
                                                              · refine q_case (fun h30 => ?_) (fun h30 => ?_)
                                                                · refine q_tswI (tgt := 1071) h30 dL_law_33 (by decide) (by decide) rfl (by decide) ?_
                                                                  refine q_aload_n 1 dL_law_1071 rfl rfl ?_
                                                                  refine q_callVl (As := []) hO mb_X11_ask mv_X11_ask ml_L_137 sh_0 rfl dL_law_1072 (fun _ => rfl) rfl (Nat.le_of_ble_eq_true rfl) rfl (Nat.le_of_ble_eq_true rfl) (tX11_ask (by omega) M hO) (fun x183 M59 _ hO59 => ?_)
                                                                  refine q_aload_n 2 dL_law_1075 rfl rfl ?_
                                                                  refine q_callVl (As := []) hO59 mb_X12_ask mv_X12_ask ml_L_141 sh_94 rfl dL_law_1076 (fun _ => rfl) rfl (Nat.le_of_ble_eq_true rfl) rfl (Nat.le_of_ble_eq_true rfl) (tX12_ask (by omega) M59 hO59) (fun x184 M60 _ hO60 => ?_)
                                                                  refine q_lcmpR dL_law_1079 ?_
                                                                  refine q_ifeq (tgt := 1157) dL_law_1080 (by decide) ?_ ?_
                                                                  · refine q_sub [0, 1, 2, 3] rfl ?_
                                                                    exact tL_law_1157 hd L xs  (fL_law_18 L xs n) ih x3 M60 hO60
                                                                  · refine q_iconst dL_law_1083 ?_
                                                                    exact q_ret ⟨dL_law_1084, by decide⟩ rfl
                                                                · refine q_case (fun h31 => ?_) (fun h31 => ?_)
                                                                  · refine q_tswI (tgt := 1085) h31 dL_law_33 (by decide) (by decide) rfl (by decide) ?_
                                                                    refine q_aload_n 1 dL_law_1085 rfl rfl ?_
                                                                    refine q_callVi (As := []) hO mb_X11_image mv_X11_image ml_L_142 sh_0 rfl dL_law_1086 (fun _ => rfl) rfl (Nat.le_of_ble_eq_true rfl) rfl (Nat.le_of_ble_eq_true rfl) (tX11_image (by omega) M hO) (fun x185 M61 _ hO61 => ?_)
                                                                    refine q_aload_n 2 dL_law_1089 rfl rfl ?_
                                                                    refine q_callVi (As := []) hO61 mb_X12_image mv_X12_image ml_L_145 sh_94 rfl dL_law_1090 (fun _ => rfl) rfl (Nat.le_of_ble_eq_true rfl) rfl (Nat.le_of_ble_eq_true rfl) (tX12_image (by omega) M61 hO61) (fun x186 M62 _ hO62 => ?_)
                                                                    refine q_icmpeq (tgt := 1157) dL_law_1093 (by decide) ?_ ?_
                                                                    · refine q_sub [0, 1, 2, 3] rfl ?_
                                                                      exact tL_law_1157 hd L xs  (fL_law_18 L xs n) ih x3 M62 hO62
                                                                    · refine q_iconst dL_law_1096 ?_
                                                                      exact q_ret ⟨dL_law_1097, by decide⟩ rfl
                                                                  · refine q_case (fun h32 => ?_) (fun h32 => ?_)
                                                                    · refine q_tswI (tgt := 1098) h32 dL_law_33 (by decide) (by decide) rfl (by decide) ?_
                                                                      refine q_aload_n 1 dL_law_1098 rfl rfl ?_
                                                                      refine q_aload_n 0 dL_law_1099 rfl rfl ?_
                                                                      refine q_iload_n 3 dL_law_1100 rfl rfl ?_
                                                                      refine q_iconst dL_law_1101 ?_
                                                                      refine q_iadd dL_law_1102 ?_
                                                                      refine q_sld dL_law_1103 (fun x187 => ?_)
                                                                      refine q_callVi (As := [.inl x187]) hO mb_X11_octet mv_X11_octet ml_L_146 sh_0 rfl dL_law_1104 (fun _ => rfl) rfl (Nat.le_of_ble_eq_true rfl) rfl (Nat.le_of_ble_eq_true rfl) (tX11_octet (by omega) x187 M hO) (fun x188 M63 _ hO63 => ?_)
                                                                      refine q_aload_n 2 dL_law_1107 rfl rfl ?_
                                                                      refine q_aload_n 0 dL_law_1108 rfl rfl ?_
                                                                      refine q_iload_n 3 dL_law_1109 rfl rfl ?_
                                                                      refine q_iconst dL_law_1110 ?_
                                                                      refine q_iadd dL_law_1111 ?_
                                                                      refine q_sld dL_law_1112 (fun x189 => ?_)
                                                                      refine q_callVi (As := [.inl x189]) hO63 mb_X12_octet mv_X12_octet ml_L_149 sh_94 rfl dL_law_1113 (fun _ => rfl) rfl (Nat.le_of_ble_eq_true rfl) rfl (Nat.le_of_ble_eq_true rfl) (tX12_octet x189 M63 hO63) (fun x190 M64 _ hO64 => ?_)
                                                                      refine q_icmpeq (tgt := 1157) dL_law_1116 (by decide) ?_ ?_
                                                                      · refine q_sub [0, 1, 2, 3] rfl ?_
                                                                        exact tL_law_1157 hd L xs  (fL_law_18 L xs n) ih x3 M64 hO64
                                                                      · refine q_iconst dL_law_1119 ?_
                                                                        exact q_ret ⟨dL_law_1120, by decide⟩ rfl
                                                                    · refine q_case (fun h33 => ?_) (fun h33 => ?_)
                                                                      · refine q_tswI (tgt := 1121) h33 dL_law_33 (by decide) (by decide) rfl (by decide) ?_
                                                                        refine q_aload_n 1 dL_law_1121 rfl rfl ?_
                                                                        refine q_callVi (As := []) hO mb_X11_on mv_X11_on ml_L_150 sh_0 rfl dL_law_1122 (fun _ => rfl) rfl (Nat.le_of_ble_eq_true rfl) rfl (Nat.le_of_ble_eq_true rfl) (tX11_on (by omega) M hO) (fun x191 M65 _ hO65 => ?_)
                                                                        refine q_aload_n 2 dL_law_1125 rfl rfl ?_
                                                                        refine q_callVi (As := []) hO65 mb_X12_on mv_X12_on ml_L_153 sh_94 rfl dL_law_1126 (fun _ => rfl) rfl (Nat.le_of_ble_eq_true rfl) rfl (Nat.le_of_ble_eq_true rfl) (tX12_on (by omega) M65 hO65) (fun x192 M66 _ hO66 => ?_)
                                                                        refine q_icmpeq (tgt := 1157) dL_law_1129 (by decide) ?_ ?_
                                                                        · refine q_sub [0, 1, 2, 3] rfl ?_
                                                                          exact tL_law_1157 hd L xs  (fL_law_18 L xs n) ih x3 M66 hO66
                                                                        · refine q_iconst dL_law_1132 ?_
                                                                          exact q_ret ⟨dL_law_1133, by decide⟩ rfl
                                                                      · refine q_case (fun h34 => ?_) (fun h34 => ?_)
                                                                        · refine q_tswI (tgt := 1134) h34 dL_law_33 (by decide) (by decide) rfl (by decide) ?_
                                                                          refine q_aload_n 1 dL_law_1134 rfl rfl ?_
                                                                          refine q_aload_n 0 dL_law_1135 rfl rfl ?_
                                                                          refine q_iload_n 3 dL_law_1136 rfl rfl ?_
                                                                          refine q_iconst dL_law_1137 ?_
                                                                          refine q_iadd dL_law_1138 ?_
                                                                          refine q_sld dL_law_1139 (fun x193 => ?_)
                                                                          refine q_callVi (As := [.inl x193]) hO mb_X11_status mv_X11_status ml_L_154 sh_0 rfl dL_law_1140 (fun _ => rfl) rfl (Nat.le_of_ble_eq_true rfl) rfl (Nat.le_of_ble_eq_true rfl) (tX11_status x193 M hO) (fun x194 M67 _ hO67 => ?_)
                                                                          refine q_aload_n 2 dL_law_1143 rfl rfl ?_
                                                                          refine q_aload_n 0 dL_law_1144 rfl rfl ?_
                                                                          refine q_iload_n 3 dL_law_1145 rfl rfl ?_
                                                                          refine q_iconst dL_law_1146 ?_
                                                                          refine q_iadd dL_law_1147 ?_
                                                                          refine q_sld dL_law_1148 (fun x195 => ?_)
                                                                          refine q_callVi (As := [.inl x195]) hO67 mb_X12_status mv_X12_status ml_L_157 sh_94 rfl dL_law_1149 (fun _ => rfl) rfl (Nat.le_of_ble_eq_true rfl) rfl (Nat.le_of_ble_eq_true rfl) (tX12_status (by omega) x195 M67 hO67) (fun x196 M68 _ hO68 => ?_)
                                                                          refine q_icmpeq (tgt := 1157) dL_law_1152 (by decide) ?_ ?_
                                                                          · refine q_sub [0, 1, 2, 3] rfl ?_
                                                                            exact tL_law_1157 hd L xs  (fL_law_18 L xs n) ih x3 M68 hO68
                                                                          · refine q_iconst dL_law_1155 ?_
                                                                            exact q_ret ⟨dL_law_1156, by decide⟩ rfl
                                                                        · refine q_tswO (tgt := 1157) (by omega) dL_law_33 (by decide) ?_
                                                                          refine q_sub [0, 1, 2, 3] rfl ?_
                                                                          exact tL_law_1157 hd L xs  (fL_law_18 L xs n) ih x3 M hO
/-- the memory behind the two constructors -/
def q_M0 : q_Mem := (0, fun _ _ => 0)
def q_Mi : q_Mem := gi_X12_init_94 (q_aln 94 (gi_X11_init_0 (q_aln 0 q_M0)))
theorem q_Mi_ok : q_Ok q_Mi := ⟨rfl, by decide +kernel, by decide +kernel⟩
theorem q_RV_0 : q_RV q_M0 := fun i hi => absurd hi (Nat.not_lt_zero i)
def fL_law (L : Nat) (xs : Nat → Int32) : Option (Int × q_Mem) := q_let (q_aln 0 q_M0) fun M1 => q_let (gi_X11_init_0 M1) fun M2 => q_let (q_aln 94 M2) fun M3 => q_let (gi_X12_init_94 M3) fun M4 => fL_law_18 L xs q_FU 0 M4
theorem fL_law_eq (L : Nat) (xs : Nat → Int32) : fL_law L xs = fL_law_18 L xs q_FU 0 q_Mi := rfl
theorem tL_law {d : Nat} (hd : 75 ≤ d) (L : Nat) (xs : Nat → Int32) : q_EXg (q_XL L xs) (d + 1) yL_law cL_law 4 (some .boolean) 0 [(0, .inr (.inr 1002))] [] q_M0 (fL_law L xs) := by
  unfold fL_law
  refine q_new (n := 0) (q_XM_L L xs) q_RV_0 rfl (by decide) sh_0 cf_11 df_11 rfl rfl cl_L_7 in_11 ni_X11 dL_law_0 (fun M1 hM1 hn1 hV1 => ?_)
  refine q_dup dL_law_3 rfl ?_
  refine q_callI (As := []) (q_XM_L L xs) mb_X11_init im_X11_init rfl ml_L_9 (by rw [hn1]; rfl) (by rw [hn1]; rfl) (by omega) rfl (Nat.le_of_ble_eq_true rfl) rfl (Nat.le_of_ble_eq_true rfl) dL_law_4 (ti_X11_init_0 (by omega) M1 hn1 hV1) (fun M2 hM2 hr2 => ?_)
  have hn2 : M2.1 = 94 := by rw [hM2]; exact gc_X11_init_0 M1 hn1
  have hV2 : q_RV M2 := hr2 (by omega) hV1
  refine q_astore_n (ls' := [(1, .inr (.inr 0)), (0, .inr (.inr 1002))]) dL_law_7 rfl (by decide) rfl ?_
  refine q_new (n := 94) (q_XM_L L xs) hV2 hn2 (by decide) sh_94 cf_12 df_12 rfl rfl cl_L_10 in_12 ni_X12 dL_law_8 (fun M3 hM3 hn3 hV3 => ?_)
  refine q_dup dL_law_11 rfl ?_
  refine q_callI (As := []) (q_XM_L L xs) mb_X12_init im_X12_init rfl ml_L_12 (by rw [hn3]; rfl) (by rw [hn3]; rfl) (by omega) rfl (Nat.le_of_ble_eq_true rfl) rfl (Nat.le_of_ble_eq_true rfl) dL_law_12 (ti_X12_init_94 (by omega) M3 hn3 hV3) (fun M4 hM4 _ => ?_)
  have hO : q_Ok M4 := by rw [hM4, hM3, hM2, hM1]; exact q_Mi_ok
  refine q_astore_n (ls' := [(2, .inr (.inr 94)), (1, .inr (.inr 0)), (0, .inr (.inr 1002))]) dL_law_15 rfl (by decide) rfl ?_
  refine q_iconst dL_law_16 ?_
  refine q_istore_n (ls' := [(3, .inl 0), (2, .inr (.inr 94)), (1, .inr (.inr 0)), (0, .inr (.inr 1002))]) dL_law_17 rfl (by decide) rfl ?_
  refine q_sub [3, 2, 1, 0] rfl ?_
  exact tL_law_18 hd L xs q_FU 0 M4 hO
