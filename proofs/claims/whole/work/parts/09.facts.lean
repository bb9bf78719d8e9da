/-! ===== facts of the tables ===== -/
theorem q_mem {w : Cond} (h : w ∈ lw_tbl) (g : goodWord w = true) : w ∈ q_gT := List.mem_filter.mpr ⟨h, g⟩
theorem q_memN {w : Cond} (h : w ∈ lw_tbl) (g : q_isNest w = true) : w ∈ q_nest := List.mem_filter.mpr ⟨h, g⟩
theorem tb_0 {w : Cond} (h : w ∈ tables_1) : w ∈ lw_tbl := List.mem_append_right _ h
theorem tb_1 {w : Cond} (h : w ∈ tables_1_1) : w ∈ lw_tbl := tb_0 (List.mem_append_left _ h)
theorem tb_2 {w : Cond} (h : w ∈ tables_1_2) : w ∈ lw_tbl := tb_0 (List.mem_append_right _ (List.mem_append_left _ h))
theorem tb_3 {w : Cond} (h : w ∈ tables_1_3) : w ∈ lw_tbl := tb_0 (List.mem_append_right _ (List.mem_append_right _ (List.mem_append_left _ h)))
theorem tb_4 {w : Cond} (h : w ∈ tables_1_4) : w ∈ lw_tbl := tb_0 (List.mem_append_right _ (List.mem_append_right _ (List.mem_append_right _ (List.mem_append_left _ h))))
theorem tb_5 {w : Cond} (h : w ∈ tables_1_5) : w ∈ lw_tbl := tb_0 (List.mem_append_right _ (List.mem_append_right _ (List.mem_append_right _ (List.mem_append_right _ (List.mem_append_left _ h)))))
theorem tb_6 {w : Cond} (h : w ∈ tables_1_6) : w ∈ lw_tbl := tb_0 (List.mem_append_right _ (List.mem_append_right _ (List.mem_append_right _ (List.mem_append_right _ (List.mem_append_right _ (List.mem_append_left _ h))))))
theorem tb_7 {w : Cond} (h : w ∈ tables_1_7) : w ∈ lw_tbl := tb_0 (List.mem_append_right _ (List.mem_append_right _ (List.mem_append_right _ (List.mem_append_right _ (List.mem_append_right _ (List.mem_append_right _ (List.mem_append_left _ h)))))))
theorem tb_8 {w : Cond} (h : w ∈ tables_1_8) : w ∈ lw_tbl := tb_0 (List.mem_append_right _ (List.mem_append_right _ (List.mem_append_right _ (List.mem_append_right _ (List.mem_append_right _ (List.mem_append_right _ (List.mem_append_right _ (h))))))))
theorem tp_1 {q : MethodName × Nat} (h : q ∈ lw_privs_1) : Cond.selects q.1.cls q.1 q.1 ∈ lw_tbl := List.mem_append_left _ (List.mem_map.mpr ⟨q, (show q ∈ lw_privs from List.mem_append_left _ h), rfl⟩)
theorem tp_2 {q : MethodName × Nat} (h : q ∈ lw_privs_2) : Cond.selects q.1.cls q.1 q.1 ∈ lw_tbl := List.mem_append_left _ (List.mem_map.mpr ⟨q, (show q ∈ lw_privs from List.mem_append_right _ (List.mem_append_left _ h)), rfl⟩)
theorem tp_3 {q : MethodName × Nat} (h : q ∈ lw_privs_3) : Cond.selects q.1.cls q.1 q.1 ∈ lw_tbl := List.mem_append_left _ (List.mem_map.mpr ⟨q, (show q ∈ lw_privs from List.mem_append_right _ (List.mem_append_right _ (List.mem_append_left _ h))), rfl⟩)
theorem tp_4 {q : MethodName × Nat} (h : q ∈ lw_privs_4) : Cond.selects q.1.cls q.1 q.1 ∈ lw_tbl := List.mem_append_left _ (List.mem_map.mpr ⟨q, (show q ∈ lw_privs from List.mem_append_right _ (List.mem_append_right _ (List.mem_append_right _ (List.mem_append_left _ h)))), rfl⟩)
theorem tp_5 {q : MethodName × Nat} (h : q ∈ lw_privs_5) : Cond.selects q.1.cls q.1 q.1 ∈ lw_tbl := List.mem_append_left _ (List.mem_map.mpr ⟨q, (show q ∈ lw_privs from List.mem_append_right _ (List.mem_append_right _ (List.mem_append_right _ (List.mem_append_right _ (List.mem_append_left _ h))))), rfl⟩)
theorem tp_6 {q : MethodName × Nat} (h : q ∈ lw_privs_6) : Cond.selects q.1.cls q.1 q.1 ∈ lw_tbl := List.mem_append_left _ (List.mem_map.mpr ⟨q, (show q ∈ lw_privs from List.mem_append_right _ (List.mem_append_right _ (List.mem_append_right _ (List.mem_append_right _ (List.mem_append_right _ (List.mem_append_left _ h)))))), rfl⟩)
theorem tp_7 {q : MethodName × Nat} (h : q ∈ lw_privs_7) : Cond.selects q.1.cls q.1 q.1 ∈ lw_tbl := List.mem_append_left _ (List.mem_map.mpr ⟨q, (show q ∈ lw_privs from List.mem_append_right _ (List.mem_append_right _ (List.mem_append_right _ (List.mem_append_right _ (List.mem_append_right _ (List.mem_append_right _ (List.mem_append_left _ h))))))), rfl⟩)
theorem tp_8 {q : MethodName × Nat} (h : q ∈ lw_privs_8) : Cond.selects q.1.cls q.1 q.1 ∈ lw_tbl := List.mem_append_left _ (List.mem_map.mpr ⟨q, (show q ∈ lw_privs from List.mem_append_right _ (List.mem_append_right _ (List.mem_append_right _ (List.mem_append_right _ (List.mem_append_right _ (List.mem_append_right _ (List.mem_append_right _ (h)))))))), rfl⟩)
theorem sh_0 : q_shp 0 = (0, 11) := rfl
theorem sh_1 : q_shp 1 = (0, 10) := rfl
theorem sh_2 : q_shp 2 = (1, 1600) := rfl
theorem sh_3 : q_shp 3 = (0, 10) := rfl
theorem sh_4 : q_shp 4 = (1, 38) := rfl
theorem sh_5 : q_shp 5 = (0, 8) := rfl
theorem sh_6 : q_shp 6 = (0, 0) := rfl
theorem sh_7 : q_shp 7 = (1, 1600) := rfl
theorem sh_8 : q_shp 8 = (0, 4) := rfl
theorem sh_9 : q_shp 9 = (0, 3) := rfl
theorem sh_10 : q_shp 10 = (0, 1) := rfl
theorem sh_11 : q_shp 11 = (1, 16) := rfl
theorem sh_12 : q_shp 12 = (1, 6) := rfl
theorem sh_13 : q_shp 13 = (1, 6) := rfl
theorem sh_14 : q_shp 14 = (1, 6) := rfl
theorem sh_15 : q_shp 15 = (5, 20) := rfl
theorem sh_16 : q_shp 16 = (1, 5) := rfl
theorem sh_17 : q_shp 17 = (1, 5) := rfl
theorem sh_18 : q_shp 18 = (1, 5) := rfl
theorem sh_19 : q_shp 19 = (1, 5) := rfl
theorem sh_20 : q_shp 20 = (1, 5) := rfl
theorem sh_21 : q_shp 21 = (1, 5) := rfl
theorem sh_22 : q_shp 22 = (1, 5) := rfl
theorem sh_23 : q_shp 23 = (1, 5) := rfl
theorem sh_24 : q_shp 24 = (1, 5) := rfl
theorem sh_25 : q_shp 25 = (1, 5) := rfl
theorem sh_26 : q_shp 26 = (1, 5) := rfl
theorem sh_27 : q_shp 27 = (1, 5) := rfl
theorem sh_28 : q_shp 28 = (1, 5) := rfl
theorem sh_29 : q_shp 29 = (1, 5) := rfl
theorem sh_30 : q_shp 30 = (1, 5) := rfl
theorem sh_31 : q_shp 31 = (1, 5) := rfl
theorem sh_32 : q_shp 32 = (1, 5) := rfl
theorem sh_33 : q_shp 33 = (1, 5) := rfl
theorem sh_34 : q_shp 34 = (1, 5) := rfl
theorem sh_35 : q_shp 35 = (1, 5) := rfl
theorem sh_36 : q_shp 36 = (0, 9) := rfl
theorem sh_37 : q_shp 37 = (1, 16) := rfl
theorem sh_38 : q_shp 38 = (1, 16) := rfl
theorem sh_39 : q_shp 39 = (1, 16) := rfl
theorem sh_40 : q_shp 40 = (0, 6) := rfl
theorem sh_41 : q_shp 41 = (1, 6) := rfl
theorem sh_42 : q_shp 42 = (5, 6) := rfl
theorem sh_43 : q_shp 43 = (1, 401) := rfl
theorem sh_44 : q_shp 44 = (1, 401) := rfl
theorem sh_45 : q_shp 45 = (1, 401) := rfl
theorem sh_46 : q_shp 46 = (1, 401) := rfl
theorem sh_47 : q_shp 47 = (1, 401) := rfl
theorem sh_48 : q_shp 48 = (1, 401) := rfl
theorem sh_49 : q_shp 49 = (1, 64) := rfl
theorem sh_50 : q_shp 50 = (1, 6) := rfl
theorem sh_51 : q_shp 51 = (1, 6) := rfl
theorem sh_52 : q_shp 52 = (0, 7) := rfl
theorem sh_53 : q_shp 53 = (1, 64) := rfl
theorem sh_54 : q_shp 54 = (1, 6) := rfl
theorem sh_55 : q_shp 55 = (1, 6) := rfl
theorem sh_56 : q_shp 56 = (1, 6) := rfl
theorem sh_57 : q_shp 57 = (0, 2) := rfl
theorem sh_58 : q_shp 58 = (1, 6) := rfl
theorem sh_59 : q_shp 59 = (1, 6) := rfl
theorem sh_60 : q_shp 60 = (1, 6) := rfl
theorem sh_61 : q_shp 61 = (1, 6) := rfl
theorem sh_62 : q_shp 62 = (1, 6) := rfl
theorem sh_63 : q_shp 63 = (1, 8) := rfl
theorem sh_64 : q_shp 64 = (1, 8) := rfl
theorem sh_65 : q_shp 65 = (1, 8) := rfl
theorem sh_66 : q_shp 66 = (1, 8) := rfl
theorem sh_67 : q_shp 67 = (1, 8) := rfl
theorem sh_68 : q_shp 68 = (0, 0) := rfl
theorem sh_69 : q_shp 69 = (1, 1600) := rfl
theorem sh_70 : q_shp 70 = (0, 0) := rfl
theorem sh_71 : q_shp 71 = (1, 1600) := rfl
theorem sh_72 : q_shp 72 = (0, 2) := rfl
theorem sh_73 : q_shp 73 = (1, 6) := rfl
theorem sh_74 : q_shp 74 = (1, 6) := rfl
theorem sh_75 : q_shp 75 = (1, 6) := rfl
theorem sh_76 : q_shp 76 = (1, 6) := rfl
theorem sh_77 : q_shp 77 = (1, 6) := rfl
theorem sh_78 : q_shp 78 = (1, 8) := rfl
theorem sh_79 : q_shp 79 = (1, 8) := rfl
theorem sh_80 : q_shp 80 = (1, 8) := rfl
theorem sh_81 : q_shp 81 = (1, 8) := rfl
theorem sh_82 : q_shp 82 = (1, 8) := rfl
theorem sh_83 : q_shp 83 = (0, 0) := rfl
theorem sh_84 : q_shp 84 = (1, 1600) := rfl
theorem sh_85 : q_shp 85 = (0, 0) := rfl
theorem sh_86 : q_shp 86 = (1, 1600) := rfl
theorem sh_87 : q_shp 87 = (0, 5) := rfl
theorem sh_88 : q_shp 88 = (1, 19248) := rfl
theorem sh_89 : q_shp 89 = (1, 401) := rfl
theorem sh_90 : q_shp 90 = (0, 7) := rfl
theorem sh_91 : q_shp 91 = (1, 64) := rfl
theorem sh_92 : q_shp 92 = (1, 6) := rfl
theorem sh_93 : q_shp 93 = (1, 6) := rfl
theorem sh_94 : q_shp 94 = (0, 12) := rfl
theorem sh_95 : q_shp 95 = (1, 1600) := rfl
theorem sh_96 : q_shp 96 = (1, 6) := rfl
theorem sh_97 : q_shp 97 = (2, 4) := rfl
theorem sh_98 : q_shp 98 = (2, 5) := rfl
theorem sh_99 : q_shp 99 = (2, 2) := rfl
theorem sh_100 : q_shp 100 = (2, 4) := rfl
theorem sh_101 : q_shp 101 = (2, 5) := rfl
theorem sh_102 : q_shp 102 = (2, 4) := rfl
theorem sh_103 : q_shp 103 = (2, 4) := rfl
theorem sh_104 : q_shp 104 = (2, 5) := rfl
theorem sh_105 : q_shp 105 = (2, 4) := rfl
theorem sh_106 : q_shp 106 = (2, 5) := rfl
theorem sh_107 : q_shp 107 = (2, 2) := rfl
theorem sh_108 : q_shp 108 = (2, 5) := rfl
theorem sh_109 : q_shp 109 = (2, 6) := rfl
theorem sh_110 : q_shp 110 = (2, 6) := rfl
theorem sh_111 : q_shp 111 = (2, 4) := rfl
theorem sh_112 : q_shp 112 = (2, 4) := rfl
theorem sh_113 : q_shp 113 = (2, 6) := rfl
theorem sh_114 : q_shp 114 = (2, 6) := rfl
theorem sh_115 : q_shp 115 = (2, 4) := rfl
theorem sh_116 : q_shp 116 = (2, 2) := rfl
theorem sh_117 : q_shp 117 = (2, 3) := rfl
theorem sh_118 : q_shp 118 = (2, 3) := rfl
theorem sh_119 : q_shp 119 = (2, 3) := rfl
theorem sh_120 : q_shp 120 = (2, 3) := rfl
theorem sh_121 : q_shp 121 = (2, 3) := rfl
theorem sh_122 : q_shp 122 = (1, 6) := rfl
theorem sh_123 : q_shp 123 = (1, 6) := rfl
theorem sh_124 : q_shp 124 = (4, 32) := rfl
theorem sh_125 : q_shp 125 = (1, 48) := rfl
theorem sh_126 : q_shp 126 = (1, 32) := rfl
theorem sh_127 : q_shp 127 = (1, 32) := rfl
theorem sh_128 : q_shp 128 = (1, 4) := rfl
theorem sh_129 : q_shp 129 = (1, 4) := rfl
theorem sh_130 : q_shp 130 = (1, 3200) := rfl
theorem sh_131 : q_shp 131 = (1, 141) := rfl
theorem sh_132 : q_shp 132 = (1, 48) := rfl
theorem sh_133 : q_shp 133 = (3, 48) := rfl
theorem sh_134 : q_shp 134 = (1, 2412) := rfl
theorem sh_135 : q_shp 135 = (1, 6) := rfl
theorem sh_136 : q_shp 136 = (1, 6) := rfl
theorem sh_137 : q_shp 137 = (1, 8) := rfl
theorem sh_138 : q_shp 138 = (1, 48) := rfl
theorem sh_139 : q_shp 139 = (1, 2820) := rfl
theorem sh_140 : q_shp 140 = (2, 5) := rfl
theorem sh_141 : q_shp 141 = (2, 4) := rfl
theorem sh_142 : q_shp 142 = (2, 5) := rfl
theorem sh_143 : q_shp 143 = (2, 5) := rfl
theorem sh_144 : q_shp 144 = (2, 4) := rfl
theorem sh_145 : q_shp 145 = (2, 5) := rfl
theorem sh_146 : q_shp 146 = (2, 3) := rfl
theorem sh_147 : q_shp 147 = (2, 3) := rfl
theorem sh_148 : q_shp 148 = (2, 2) := rfl
theorem sh_149 : q_shp 149 = (2, 3) := rfl
theorem sh_150 : q_shp 150 = (2, 3) := rfl
theorem sh_151 : q_shp 151 = (2, 3) := rfl
theorem sh_152 : q_shp 152 = (2, 5) := rfl
theorem sh_153 : q_shp 153 = (2, 4) := rfl
theorem sh_154 : q_shp 154 = (2, 4) := rfl
theorem sh_155 : q_shp 155 = (2, 6) := rfl
theorem sh_156 : q_shp 156 = (2, 4) := rfl
theorem sh_157 : q_shp 157 = (2, 5) := rfl
theorem sh_158 : q_shp 158 = (2, 6) := rfl
theorem sh_159 : q_shp 159 = (2, 4) := rfl
theorem sh_160 : q_shp 160 = (2, 5) := rfl
theorem sh_161 : q_shp 161 = (2, 2) := rfl
theorem sh_162 : q_shp 162 = (1, 1700) := rfl
theorem sh_163 : q_shp 163 = (1, 1700) := rfl
theorem sh_164 : q_shp 164 = (4, 1700) := rfl
theorem sh_165 : q_shp 165 = (1, 38) := rfl
theorem ul_0_0 : u_lay RX0 TX0 0 ∈ q_gT := q_mem (tb_1 (List.mem_of_getElem? (i := 105) rfl)) rfl
theorem ul_0_1 : u_lay RX0 TX0 1 ∈ q_gT := q_mem (tb_1 (List.mem_of_getElem? (i := 107) rfl)) rfl
theorem uw_0 : ∀ w ∈ u_ws RX0 TX0 2, w ∈ q_gT := by
  intro w h
  obtain ⟨k, hk, rfl⟩ := List.mem_map.mp h
  have hk := List.mem_range.mp hk
  match k, hk with
  | 0, _ => exact ul_0_0
  | 1, _ => exact ul_0_1
  | k + 2, hk => omega
theorem cf_0 : q_CF 0 RX0 TX0 2 := ⟨rfl, rfl, uw_0, tyX0_ok, nmX0⟩
theorem ul_1_0 : u_lay RX1 TX1 0 ∈ q_gT := q_mem (tb_1 (List.mem_of_getElem? (i := 177) rfl)) rfl
theorem ul_1_1 : u_lay RX1 TX1 1 ∈ q_gT := q_mem (tb_1 (List.mem_of_getElem? (i := 179) rfl)) rfl
theorem ul_1_2 : u_lay RX1 TX1 2 ∈ q_gT := q_mem (tb_1 (List.mem_of_getElem? (i := 181) rfl)) rfl
theorem ul_1_3 : u_lay RX1 TX1 3 ∈ q_gT := q_mem (tb_1 (List.mem_of_getElem? (i := 183) rfl)) rfl
theorem ul_1_4 : u_lay RX1 TX1 4 ∈ q_gT := q_mem (tb_1 (List.mem_of_getElem? (i := 185) rfl)) rfl
theorem ul_1_5 : u_lay RX1 TX1 5 ∈ q_gT := q_mem (tb_1 (List.mem_of_getElem? (i := 187) rfl)) rfl
theorem ul_1_6 : u_lay RX1 TX1 6 ∈ q_gT := q_mem (tb_1 (List.mem_of_getElem? (i := 189) rfl)) rfl
theorem ul_1_7 : u_lay RX1 TX1 7 ∈ q_gT := q_mem (tb_1 (List.mem_of_getElem? (i := 191) rfl)) rfl
theorem ul_1_8 : u_lay RX1 TX1 8 ∈ q_gT := q_mem (tb_1 (List.mem_of_getElem? (i := 193) rfl)) rfl
theorem ul_1_9 : u_lay RX1 TX1 9 ∈ q_gT := q_mem (tb_1 (List.mem_of_getElem? (i := 195) rfl)) rfl
theorem ul_1_10 : u_lay RX1 TX1 10 ∈ q_gT := q_mem (tb_1 (List.mem_of_getElem? (i := 197) rfl)) rfl
theorem ul_1_11 : u_lay RX1 TX1 11 ∈ q_gT := q_mem (tb_1 (List.mem_of_getElem? (i := 199) rfl)) rfl
theorem ul_1_12 : u_lay RX1 TX1 12 ∈ q_gT := q_mem (tb_1 (List.mem_of_getElem? (i := 201) rfl)) rfl
theorem uw_1 : ∀ w ∈ u_ws RX1 TX1 13, w ∈ q_gT := by
  intro w h
  obtain ⟨k, hk, rfl⟩ := List.mem_map.mp h
  have hk := List.mem_range.mp hk
  match k, hk with
  | 0, _ => exact ul_1_0
  | 1, _ => exact ul_1_1
  | 2, _ => exact ul_1_2
  | 3, _ => exact ul_1_3
  | 4, _ => exact ul_1_4
  | 5, _ => exact ul_1_5
  | 6, _ => exact ul_1_6
  | 7, _ => exact ul_1_7
  | 8, _ => exact ul_1_8
  | 9, _ => exact ul_1_9
  | 10, _ => exact ul_1_10
  | 11, _ => exact ul_1_11
  | 12, _ => exact ul_1_12
  | k + 13, hk => omega
theorem cf_1 : q_CF 1 RX1 TX1 13 := ⟨rfl, rfl, uw_1, tyX1_ok, nmX1⟩
theorem ul_2_0 : u_lay RX2 TX2 0 ∈ q_gT := q_mem (tb_2 (List.mem_of_getElem? (i := 156) rfl)) rfl
theorem ul_2_1 : u_lay RX2 TX2 1 ∈ q_gT := q_mem (tb_2 (List.mem_of_getElem? (i := 158) rfl)) rfl
theorem ul_2_2 : u_lay RX2 TX2 2 ∈ q_gT := q_mem (tb_2 (List.mem_of_getElem? (i := 160) rfl)) rfl
theorem ul_2_3 : u_lay RX2 TX2 3 ∈ q_gT := q_mem (tb_2 (List.mem_of_getElem? (i := 162) rfl)) rfl
theorem ul_2_4 : u_lay RX2 TX2 4 ∈ q_gT := q_mem (tb_2 (List.mem_of_getElem? (i := 164) rfl)) rfl
theorem ul_2_5 : u_lay RX2 TX2 5 ∈ q_gT := q_mem (tb_2 (List.mem_of_getElem? (i := 166) rfl)) rfl
theorem ul_2_6 : u_lay RX2 TX2 6 ∈ q_gT := q_mem (tb_2 (List.mem_of_getElem? (i := 168) rfl)) rfl
theorem ul_2_7 : u_lay RX2 TX2 7 ∈ q_gT := q_mem (tb_2 (List.mem_of_getElem? (i := 170) rfl)) rfl
theorem ul_2_8 : u_lay RX2 TX2 8 ∈ q_gT := q_mem (tb_2 (List.mem_of_getElem? (i := 172) rfl)) rfl
theorem ul_2_9 : u_lay RX2 TX2 9 ∈ q_gT := q_mem (tb_2 (List.mem_of_getElem? (i := 174) rfl)) rfl
theorem ul_2_10 : u_lay RX2 TX2 10 ∈ q_gT := q_mem (tb_2 (List.mem_of_getElem? (i := 176) rfl)) rfl
theorem ul_2_11 : u_lay RX2 TX2 11 ∈ q_gT := q_mem (tb_2 (List.mem_of_getElem? (i := 178) rfl)) rfl
theorem ul_2_12 : u_lay RX2 TX2 12 ∈ q_gT := q_mem (tb_2 (List.mem_of_getElem? (i := 180) rfl)) rfl
theorem ul_2_13 : u_lay RX2 TX2 13 ∈ q_gT := q_mem (tb_2 (List.mem_of_getElem? (i := 182) rfl)) rfl
theorem ul_2_14 : u_lay RX2 TX2 14 ∈ q_gT := q_mem (tb_2 (List.mem_of_getElem? (i := 184) rfl)) rfl
theorem ul_2_15 : u_lay RX2 TX2 15 ∈ q_gT := q_mem (tb_2 (List.mem_of_getElem? (i := 186) rfl)) rfl
theorem ul_2_16 : u_lay RX2 TX2 16 ∈ q_gT := q_mem (tb_2 (List.mem_of_getElem? (i := 188) rfl)) rfl
theorem ul_2_17 : u_lay RX2 TX2 17 ∈ q_gT := q_mem (tb_2 (List.mem_of_getElem? (i := 190) rfl)) rfl
theorem uw_2 : ∀ w ∈ u_ws RX2 TX2 18, w ∈ q_gT := by
  intro w h
  obtain ⟨k, hk, rfl⟩ := List.mem_map.mp h
  have hk := List.mem_range.mp hk
  match k, hk with
  | 0, _ => exact ul_2_0
  | 1, _ => exact ul_2_1
  | 2, _ => exact ul_2_2
  | 3, _ => exact ul_2_3
  | 4, _ => exact ul_2_4
  | 5, _ => exact ul_2_5
  | 6, _ => exact ul_2_6
  | 7, _ => exact ul_2_7
  | 8, _ => exact ul_2_8
  | 9, _ => exact ul_2_9
  | 10, _ => exact ul_2_10
  | 11, _ => exact ul_2_11
  | 12, _ => exact ul_2_12
  | 13, _ => exact ul_2_13
  | 14, _ => exact ul_2_14
  | 15, _ => exact ul_2_15
  | 16, _ => exact ul_2_16
  | 17, _ => exact ul_2_17
  | k + 18, hk => omega
theorem cf_2 : q_CF 2 RX2 TX2 18 := ⟨rfl, rfl, uw_2, tyX2_ok, nmX2⟩
theorem ul_3_0 : u_lay RX3 TX3 0 ∈ q_gT := q_mem (tb_1 (List.mem_of_getElem? (i := 137) rfl)) rfl
theorem ul_3_1 : u_lay RX3 TX3 1 ∈ q_gT := q_mem (tb_1 (List.mem_of_getElem? (i := 139) rfl)) rfl
theorem uw_3 : ∀ w ∈ u_ws RX3 TX3 2, w ∈ q_gT := by
  intro w h
  obtain ⟨k, hk, rfl⟩ := List.mem_map.mp h
  have hk := List.mem_range.mp hk
  match k, hk with
  | 0, _ => exact ul_3_0
  | 1, _ => exact ul_3_1
  | k + 2, hk => omega
theorem cf_3 : q_CF 3 RX3 TX3 2 := ⟨rfl, rfl, uw_3, tyX3_ok, nmX3⟩
theorem ul_4_0 : u_lay RX4 TX4 0 ∈ q_gT := q_mem (tb_1 (List.mem_of_getElem? (i := 120) rfl)) rfl
theorem ul_4_1 : u_lay RX4 TX4 1 ∈ q_gT := q_mem (tb_1 (List.mem_of_getElem? (i := 122) rfl)) rfl
theorem ul_4_2 : u_lay RX4 TX4 2 ∈ q_gT := q_mem (tb_1 (List.mem_of_getElem? (i := 124) rfl)) rfl
theorem ul_4_3 : u_lay RX4 TX4 3 ∈ q_gT := q_mem (tb_1 (List.mem_of_getElem? (i := 126) rfl)) rfl
theorem uw_4 : ∀ w ∈ u_ws RX4 TX4 4, w ∈ q_gT := by
  intro w h
  obtain ⟨k, hk, rfl⟩ := List.mem_map.mp h
  have hk := List.mem_range.mp hk
  match k, hk with
  | 0, _ => exact ul_4_0
  | 1, _ => exact ul_4_1
  | 2, _ => exact ul_4_2
  | 3, _ => exact ul_4_3
  | k + 4, hk => omega
theorem cf_4 : q_CF 4 RX4 TX4 4 := ⟨rfl, rfl, uw_4, tyX4_ok, nmX4⟩
theorem ul_5_0 : u_lay RX5 TX5 0 ∈ q_gT := q_mem (tb_2 (List.mem_of_getElem? (i := 205) rfl)) rfl
theorem ul_5_1 : u_lay RX5 TX5 1 ∈ q_gT := q_mem (tb_2 (List.mem_of_getElem? (i := 207) rfl)) rfl
theorem ul_5_2 : u_lay RX5 TX5 2 ∈ q_gT := q_mem (tb_2 (List.mem_of_getElem? (i := 209) rfl)) rfl
theorem ul_5_3 : u_lay RX5 TX5 3 ∈ q_gT := q_mem (tb_2 (List.mem_of_getElem? (i := 211) rfl)) rfl
theorem uw_5 : ∀ w ∈ u_ws RX5 TX5 4, w ∈ q_gT := by
  intro w h
  obtain ⟨k, hk, rfl⟩ := List.mem_map.mp h
  have hk := List.mem_range.mp hk
  match k, hk with
  | 0, _ => exact ul_5_0
  | 1, _ => exact ul_5_1
  | 2, _ => exact ul_5_2
  | 3, _ => exact ul_5_3
  | k + 4, hk => omega
theorem cf_5 : q_CF 5 RX5 TX5 4 := ⟨rfl, rfl, uw_5, tyX5_ok, nmX5⟩
theorem ul_6_0 : u_lay RX6 TX6 0 ∈ q_gT := q_mem (tb_2 (List.mem_of_getElem? (i := 3) rfl)) rfl
theorem ul_6_1 : u_lay RX6 TX6 1 ∈ q_gT := q_mem (tb_2 (List.mem_of_getElem? (i := 5) rfl)) rfl
theorem ul_6_2 : u_lay RX6 TX6 2 ∈ q_gT := q_mem (tb_2 (List.mem_of_getElem? (i := 7) rfl)) rfl
theorem ul_6_3 : u_lay RX6 TX6 3 ∈ q_gT := q_mem (tb_2 (List.mem_of_getElem? (i := 9) rfl)) rfl
theorem ul_6_4 : u_lay RX6 TX6 4 ∈ q_gT := q_mem (tb_2 (List.mem_of_getElem? (i := 11) rfl)) rfl
theorem ul_6_5 : u_lay RX6 TX6 5 ∈ q_gT := q_mem (tb_2 (List.mem_of_getElem? (i := 13) rfl)) rfl
theorem ul_6_6 : u_lay RX6 TX6 6 ∈ q_gT := q_mem (tb_2 (List.mem_of_getElem? (i := 15) rfl)) rfl
theorem ul_6_7 : u_lay RX6 TX6 7 ∈ q_gT := q_mem (tb_2 (List.mem_of_getElem? (i := 17) rfl)) rfl
theorem ul_6_8 : u_lay RX6 TX6 8 ∈ q_gT := q_mem (tb_2 (List.mem_of_getElem? (i := 19) rfl)) rfl
theorem uw_6 : ∀ w ∈ u_ws RX6 TX6 9, w ∈ q_gT := by
  intro w h
  obtain ⟨k, hk, rfl⟩ := List.mem_map.mp h
  have hk := List.mem_range.mp hk
  match k, hk with
  | 0, _ => exact ul_6_0
  | 1, _ => exact ul_6_1
  | 2, _ => exact ul_6_2
  | 3, _ => exact ul_6_3
  | 4, _ => exact ul_6_4
  | 5, _ => exact ul_6_5
  | 6, _ => exact ul_6_6
  | 7, _ => exact ul_6_7
  | 8, _ => exact ul_6_8
  | k + 9, hk => omega
theorem cf_6 : q_CF 6 RX6 TX6 9 := ⟨rfl, rfl, uw_6, tyX6_ok, nmX6⟩
theorem ul_7_0 : u_lay RX7 TX7 0 ∈ q_gT := q_mem (tb_2 (List.mem_of_getElem? (i := 55) rfl)) rfl
theorem ul_7_1 : u_lay RX7 TX7 1 ∈ q_gT := q_mem (tb_2 (List.mem_of_getElem? (i := 57) rfl)) rfl
theorem ul_7_2 : u_lay RX7 TX7 2 ∈ q_gT := q_mem (tb_2 (List.mem_of_getElem? (i := 59) rfl)) rfl
theorem ul_7_3 : u_lay RX7 TX7 3 ∈ q_gT := q_mem (tb_2 (List.mem_of_getElem? (i := 61) rfl)) rfl
theorem ul_7_4 : u_lay RX7 TX7 4 ∈ q_gT := q_mem (tb_2 (List.mem_of_getElem? (i := 63) rfl)) rfl
theorem ul_7_5 : u_lay RX7 TX7 5 ∈ q_gT := q_mem (tb_2 (List.mem_of_getElem? (i := 65) rfl)) rfl
theorem ul_7_6 : u_lay RX7 TX7 6 ∈ q_gT := q_mem (tb_2 (List.mem_of_getElem? (i := 67) rfl)) rfl
theorem ul_7_7 : u_lay RX7 TX7 7 ∈ q_gT := q_mem (tb_2 (List.mem_of_getElem? (i := 69) rfl)) rfl
theorem ul_7_8 : u_lay RX7 TX7 8 ∈ q_gT := q_mem (tb_2 (List.mem_of_getElem? (i := 71) rfl)) rfl
theorem ul_7_9 : u_lay RX7 TX7 9 ∈ q_gT := q_mem (tb_2 (List.mem_of_getElem? (i := 73) rfl)) rfl
theorem ul_7_10 : u_lay RX7 TX7 10 ∈ q_gT := q_mem (tb_2 (List.mem_of_getElem? (i := 75) rfl)) rfl
theorem ul_7_11 : u_lay RX7 TX7 11 ∈ q_gT := q_mem (tb_2 (List.mem_of_getElem? (i := 77) rfl)) rfl
theorem ul_7_12 : u_lay RX7 TX7 12 ∈ q_gT := q_mem (tb_2 (List.mem_of_getElem? (i := 79) rfl)) rfl
theorem uw_7 : ∀ w ∈ u_ws RX7 TX7 13, w ∈ q_gT := by
  intro w h
  obtain ⟨k, hk, rfl⟩ := List.mem_map.mp h
  have hk := List.mem_range.mp hk
  match k, hk with
  | 0, _ => exact ul_7_0
  | 1, _ => exact ul_7_1
  | 2, _ => exact ul_7_2
  | 3, _ => exact ul_7_3
  | 4, _ => exact ul_7_4
  | 5, _ => exact ul_7_5
  | 6, _ => exact ul_7_6
  | 7, _ => exact ul_7_7
  | 8, _ => exact ul_7_8
  | 9, _ => exact ul_7_9
  | 10, _ => exact ul_7_10
  | 11, _ => exact ul_7_11
  | 12, _ => exact ul_7_12
  | k + 13, hk => omega
theorem cf_7 : q_CF 7 RX7 TX7 13 := ⟨rfl, rfl, uw_7, tyX7_ok, nmX7⟩
theorem ul_8_0 : u_lay RX8 TX8 0 ∈ q_gT := q_mem (tb_1 (List.mem_of_getElem? (i := 76) rfl)) rfl
theorem ul_8_1 : u_lay RX8 TX8 1 ∈ q_gT := q_mem (tb_1 (List.mem_of_getElem? (i := 78) rfl)) rfl
theorem ul_8_2 : u_lay RX8 TX8 2 ∈ q_gT := q_mem (tb_1 (List.mem_of_getElem? (i := 80) rfl)) rfl
theorem ul_8_3 : u_lay RX8 TX8 3 ∈ q_gT := q_mem (tb_1 (List.mem_of_getElem? (i := 82) rfl)) rfl
theorem ul_8_4 : u_lay RX8 TX8 4 ∈ q_gT := q_mem (tb_1 (List.mem_of_getElem? (i := 84) rfl)) rfl
theorem ul_8_5 : u_lay RX8 TX8 5 ∈ q_gT := q_mem (tb_1 (List.mem_of_getElem? (i := 86) rfl)) rfl
theorem ul_8_6 : u_lay RX8 TX8 6 ∈ q_gT := q_mem (tb_1 (List.mem_of_getElem? (i := 88) rfl)) rfl
theorem uw_8 : ∀ w ∈ u_ws RX8 TX8 7, w ∈ q_gT := by
  intro w h
  obtain ⟨k, hk, rfl⟩ := List.mem_map.mp h
  have hk := List.mem_range.mp hk
  match k, hk with
  | 0, _ => exact ul_8_0
  | 1, _ => exact ul_8_1
  | 2, _ => exact ul_8_2
  | 3, _ => exact ul_8_3
  | 4, _ => exact ul_8_4
  | 5, _ => exact ul_8_5
  | 6, _ => exact ul_8_6
  | k + 7, hk => omega
theorem cf_8 : q_CF 8 RX8 TX8 7 := ⟨rfl, rfl, uw_8, tyX8_ok, nmX8⟩
theorem ul_9_0 : u_lay RX9 TX9 0 ∈ q_gT := q_mem (tb_1 (List.mem_of_getElem? (i := 215) rfl)) rfl
theorem ul_9_1 : u_lay RX9 TX9 1 ∈ q_gT := q_mem (tb_1 (List.mem_of_getElem? (i := 217) rfl)) rfl
theorem ul_9_2 : u_lay RX9 TX9 2 ∈ q_gT := q_mem (tb_1 (List.mem_of_getElem? (i := 219) rfl)) rfl
theorem ul_9_3 : u_lay RX9 TX9 3 ∈ q_gT := q_mem (tb_1 (List.mem_of_getElem? (i := 221) rfl)) rfl
theorem uw_9 : ∀ w ∈ u_ws RX9 TX9 4, w ∈ q_gT := by
  intro w h
  obtain ⟨k, hk, rfl⟩ := List.mem_map.mp h
  have hk := List.mem_range.mp hk
  match k, hk with
  | 0, _ => exact ul_9_0
  | 1, _ => exact ul_9_1
  | 2, _ => exact ul_9_2
  | 3, _ => exact ul_9_3
  | k + 4, hk => omega
theorem cf_9 : q_CF 9 RX9 TX9 4 := ⟨rfl, rfl, uw_9, tyX9_ok, nmX9⟩
theorem ul_10_0 : u_lay RX10 TX10 0 ∈ q_gT := q_mem (tb_1 (List.mem_of_getElem? (i := 45) rfl)) rfl
theorem ul_10_1 : u_lay RX10 TX10 1 ∈ q_gT := q_mem (tb_1 (List.mem_of_getElem? (i := 47) rfl)) rfl
theorem uw_10 : ∀ w ∈ u_ws RX10 TX10 2, w ∈ q_gT := by
  intro w h
  obtain ⟨k, hk, rfl⟩ := List.mem_map.mp h
  have hk := List.mem_range.mp hk
  match k, hk with
  | 0, _ => exact ul_10_0
  | 1, _ => exact ul_10_1
  | k + 2, hk => omega
theorem cf_10 : q_CF 10 RX10 TX10 2 := ⟨rfl, rfl, uw_10, tyX10_ok, nmX10⟩
theorem ul_11_0 : u_lay RX11 TX11 0 ∈ q_gT := q_mem (tb_2 (List.mem_of_getElem? (i := 230) rfl)) rfl
theorem ul_11_1 : u_lay RX11 TX11 1 ∈ q_gT := q_mem (tb_2 (List.mem_of_getElem? (i := 232) rfl)) rfl
theorem ul_11_2 : u_lay RX11 TX11 2 ∈ q_gT := q_mem (tb_2 (List.mem_of_getElem? (i := 234) rfl)) rfl
theorem ul_11_3 : u_lay RX11 TX11 3 ∈ q_gT := q_mem (tb_2 (List.mem_of_getElem? (i := 236) rfl)) rfl
theorem ul_11_4 : u_lay RX11 TX11 4 ∈ q_gT := q_mem (tb_2 (List.mem_of_getElem? (i := 238) rfl)) rfl
theorem ul_11_5 : u_lay RX11 TX11 5 ∈ q_gT := q_mem (tb_3 (List.mem_of_getElem? (i := 0) rfl)) rfl
theorem ul_11_6 : u_lay RX11 TX11 6 ∈ q_gT := q_mem (tb_3 (List.mem_of_getElem? (i := 2) rfl)) rfl
theorem ul_11_7 : u_lay RX11 TX11 7 ∈ q_gT := q_mem (tb_3 (List.mem_of_getElem? (i := 4) rfl)) rfl
theorem ul_11_8 : u_lay RX11 TX11 8 ∈ q_gT := q_mem (tb_3 (List.mem_of_getElem? (i := 6) rfl)) rfl
theorem ul_11_9 : u_lay RX11 TX11 9 ∈ q_gT := q_mem (tb_3 (List.mem_of_getElem? (i := 8) rfl)) rfl
theorem ul_11_10 : u_lay RX11 TX11 10 ∈ q_gT := q_mem (tb_3 (List.mem_of_getElem? (i := 10) rfl)) rfl
theorem ul_11_11 : u_lay RX11 TX11 11 ∈ q_gT := q_mem (tb_3 (List.mem_of_getElem? (i := 12) rfl)) rfl
theorem ul_11_12 : u_lay RX11 TX11 12 ∈ q_gT := q_mem (tb_3 (List.mem_of_getElem? (i := 14) rfl)) rfl
theorem ul_11_13 : u_lay RX11 TX11 13 ∈ q_gT := q_mem (tb_3 (List.mem_of_getElem? (i := 16) rfl)) rfl
theorem ul_11_14 : u_lay RX11 TX11 14 ∈ q_gT := q_mem (tb_3 (List.mem_of_getElem? (i := 18) rfl)) rfl
theorem ul_11_15 : u_lay RX11 TX11 15 ∈ q_gT := q_mem (tb_3 (List.mem_of_getElem? (i := 20) rfl)) rfl
theorem uw_11 : ∀ w ∈ u_ws RX11 TX11 16, w ∈ q_gT := by
  intro w h
  obtain ⟨k, hk, rfl⟩ := List.mem_map.mp h
  have hk := List.mem_range.mp hk
  match k, hk with
  | 0, _ => exact ul_11_0
  | 1, _ => exact ul_11_1
  | 2, _ => exact ul_11_2
  | 3, _ => exact ul_11_3
  | 4, _ => exact ul_11_4
  | 5, _ => exact ul_11_5
  | 6, _ => exact ul_11_6
  | 7, _ => exact ul_11_7
  | 8, _ => exact ul_11_8
  | 9, _ => exact ul_11_9
  | 10, _ => exact ul_11_10
  | 11, _ => exact ul_11_11
  | 12, _ => exact ul_11_12
  | 13, _ => exact ul_11_13
  | 14, _ => exact ul_11_14
  | 15, _ => exact ul_11_15
  | k + 16, hk => omega
theorem cf_11 : q_CF 11 RX11 TX11 16 := ⟨rfl, rfl, uw_11, tyX11_ok, nmX11⟩
theorem ul_12_0 : u_lay RX12 TX12 0 ∈ q_gT := q_mem (tb_6 (List.mem_of_getElem? (i := 2) rfl)) rfl
theorem ul_12_1 : u_lay RX12 TX12 1 ∈ q_gT := q_mem (tb_6 (List.mem_of_getElem? (i := 4) rfl)) rfl
theorem ul_12_2 : u_lay RX12 TX12 2 ∈ q_gT := q_mem (tb_6 (List.mem_of_getElem? (i := 6) rfl)) rfl
theorem ul_12_3 : u_lay RX12 TX12 3 ∈ q_gT := q_mem (tb_6 (List.mem_of_getElem? (i := 8) rfl)) rfl
theorem ul_12_4 : u_lay RX12 TX12 4 ∈ q_gT := q_mem (tb_6 (List.mem_of_getElem? (i := 10) rfl)) rfl
theorem ul_12_5 : u_lay RX12 TX12 5 ∈ q_gT := q_mem (tb_6 (List.mem_of_getElem? (i := 12) rfl)) rfl
theorem ul_12_6 : u_lay RX12 TX12 6 ∈ q_gT := q_mem (tb_6 (List.mem_of_getElem? (i := 14) rfl)) rfl
theorem ul_12_7 : u_lay RX12 TX12 7 ∈ q_gT := q_mem (tb_6 (List.mem_of_getElem? (i := 16) rfl)) rfl
theorem ul_12_8 : u_lay RX12 TX12 8 ∈ q_gT := q_mem (tb_6 (List.mem_of_getElem? (i := 18) rfl)) rfl
theorem ul_12_9 : u_lay RX12 TX12 9 ∈ q_gT := q_mem (tb_6 (List.mem_of_getElem? (i := 20) rfl)) rfl
theorem ul_12_10 : u_lay RX12 TX12 10 ∈ q_gT := q_mem (tb_6 (List.mem_of_getElem? (i := 22) rfl)) rfl
theorem ul_12_11 : u_lay RX12 TX12 11 ∈ q_gT := q_mem (tb_6 (List.mem_of_getElem? (i := 24) rfl)) rfl
theorem ul_12_12 : u_lay RX12 TX12 12 ∈ q_gT := q_mem (tb_6 (List.mem_of_getElem? (i := 26) rfl)) rfl
theorem ul_12_13 : u_lay RX12 TX12 13 ∈ q_gT := q_mem (tb_6 (List.mem_of_getElem? (i := 28) rfl)) rfl
theorem ul_12_14 : u_lay RX12 TX12 14 ∈ q_gT := q_mem (tb_6 (List.mem_of_getElem? (i := 30) rfl)) rfl
theorem ul_12_15 : u_lay RX12 TX12 15 ∈ q_gT := q_mem (tb_6 (List.mem_of_getElem? (i := 32) rfl)) rfl
theorem ul_12_16 : u_lay RX12 TX12 16 ∈ q_gT := q_mem (tb_6 (List.mem_of_getElem? (i := 34) rfl)) rfl
theorem ul_12_17 : u_lay RX12 TX12 17 ∈ q_gT := q_mem (tb_6 (List.mem_of_getElem? (i := 36) rfl)) rfl
theorem ul_12_18 : u_lay RX12 TX12 18 ∈ q_gT := q_mem (tb_6 (List.mem_of_getElem? (i := 38) rfl)) rfl
theorem ul_12_19 : u_lay RX12 TX12 19 ∈ q_gT := q_mem (tb_6 (List.mem_of_getElem? (i := 40) rfl)) rfl
theorem ul_12_20 : u_lay RX12 TX12 20 ∈ q_gT := q_mem (tb_6 (List.mem_of_getElem? (i := 42) rfl)) rfl
theorem ul_12_21 : u_lay RX12 TX12 21 ∈ q_gT := q_mem (tb_6 (List.mem_of_getElem? (i := 44) rfl)) rfl
theorem ul_12_22 : u_lay RX12 TX12 22 ∈ q_gT := q_mem (tb_6 (List.mem_of_getElem? (i := 46) rfl)) rfl
theorem ul_12_23 : u_lay RX12 TX12 23 ∈ q_gT := q_mem (tb_6 (List.mem_of_getElem? (i := 48) rfl)) rfl
theorem ul_12_24 : u_lay RX12 TX12 24 ∈ q_gT := q_mem (tb_6 (List.mem_of_getElem? (i := 50) rfl)) rfl
theorem ul_12_25 : u_lay RX12 TX12 25 ∈ q_gT := q_mem (tb_6 (List.mem_of_getElem? (i := 52) rfl)) rfl
theorem ul_12_26 : u_lay RX12 TX12 26 ∈ q_gT := q_mem (tb_6 (List.mem_of_getElem? (i := 54) rfl)) rfl
theorem ul_12_27 : u_lay RX12 TX12 27 ∈ q_gT := q_mem (tb_6 (List.mem_of_getElem? (i := 56) rfl)) rfl
theorem ul_12_28 : u_lay RX12 TX12 28 ∈ q_gT := q_mem (tb_6 (List.mem_of_getElem? (i := 58) rfl)) rfl
theorem ul_12_29 : u_lay RX12 TX12 29 ∈ q_gT := q_mem (tb_6 (List.mem_of_getElem? (i := 60) rfl)) rfl
theorem ul_12_30 : u_lay RX12 TX12 30 ∈ q_gT := q_mem (tb_6 (List.mem_of_getElem? (i := 62) rfl)) rfl
theorem ul_12_31 : u_lay RX12 TX12 31 ∈ q_gT := q_mem (tb_6 (List.mem_of_getElem? (i := 64) rfl)) rfl
theorem ul_12_32 : u_lay RX12 TX12 32 ∈ q_gT := q_mem (tb_6 (List.mem_of_getElem? (i := 66) rfl)) rfl
theorem ul_12_33 : u_lay RX12 TX12 33 ∈ q_gT := q_mem (tb_6 (List.mem_of_getElem? (i := 68) rfl)) rfl
theorem ul_12_34 : u_lay RX12 TX12 34 ∈ q_gT := q_mem (tb_6 (List.mem_of_getElem? (i := 70) rfl)) rfl
theorem ul_12_35 : u_lay RX12 TX12 35 ∈ q_gT := q_mem (tb_6 (List.mem_of_getElem? (i := 72) rfl)) rfl
theorem ul_12_36 : u_lay RX12 TX12 36 ∈ q_gT := q_mem (tb_6 (List.mem_of_getElem? (i := 74) rfl)) rfl
theorem ul_12_37 : u_lay RX12 TX12 37 ∈ q_gT := q_mem (tb_6 (List.mem_of_getElem? (i := 76) rfl)) rfl
theorem ul_12_38 : u_lay RX12 TX12 38 ∈ q_gT := q_mem (tb_6 (List.mem_of_getElem? (i := 78) rfl)) rfl
theorem ul_12_39 : u_lay RX12 TX12 39 ∈ q_gT := q_mem (tb_6 (List.mem_of_getElem? (i := 80) rfl)) rfl
theorem ul_12_40 : u_lay RX12 TX12 40 ∈ q_gT := q_mem (tb_6 (List.mem_of_getElem? (i := 82) rfl)) rfl
theorem ul_12_41 : u_lay RX12 TX12 41 ∈ q_gT := q_mem (tb_6 (List.mem_of_getElem? (i := 84) rfl)) rfl
theorem ul_12_42 : u_lay RX12 TX12 42 ∈ q_gT := q_mem (tb_6 (List.mem_of_getElem? (i := 86) rfl)) rfl
theorem ul_12_43 : u_lay RX12 TX12 43 ∈ q_gT := q_mem (tb_6 (List.mem_of_getElem? (i := 88) rfl)) rfl
theorem ul_12_44 : u_lay RX12 TX12 44 ∈ q_gT := q_mem (tb_6 (List.mem_of_getElem? (i := 90) rfl)) rfl
theorem ul_12_45 : u_lay RX12 TX12 45 ∈ q_gT := q_mem (tb_6 (List.mem_of_getElem? (i := 92) rfl)) rfl
theorem ul_12_46 : u_lay RX12 TX12 46 ∈ q_gT := q_mem (tb_6 (List.mem_of_getElem? (i := 94) rfl)) rfl
theorem ul_12_47 : u_lay RX12 TX12 47 ∈ q_gT := q_mem (tb_6 (List.mem_of_getElem? (i := 96) rfl)) rfl
theorem ul_12_48 : u_lay RX12 TX12 48 ∈ q_gT := q_mem (tb_6 (List.mem_of_getElem? (i := 98) rfl)) rfl
theorem ul_12_49 : u_lay RX12 TX12 49 ∈ q_gT := q_mem (tb_6 (List.mem_of_getElem? (i := 100) rfl)) rfl
theorem ul_12_50 : u_lay RX12 TX12 50 ∈ q_gT := q_mem (tb_6 (List.mem_of_getElem? (i := 102) rfl)) rfl
theorem ul_12_51 : u_lay RX12 TX12 51 ∈ q_gT := q_mem (tb_6 (List.mem_of_getElem? (i := 104) rfl)) rfl
theorem ul_12_52 : u_lay RX12 TX12 52 ∈ q_gT := q_mem (tb_6 (List.mem_of_getElem? (i := 106) rfl)) rfl
theorem ul_12_53 : u_lay RX12 TX12 53 ∈ q_gT := q_mem (tb_6 (List.mem_of_getElem? (i := 108) rfl)) rfl
theorem ul_12_54 : u_lay RX12 TX12 54 ∈ q_gT := q_mem (tb_6 (List.mem_of_getElem? (i := 110) rfl)) rfl
theorem ul_12_55 : u_lay RX12 TX12 55 ∈ q_gT := q_mem (tb_6 (List.mem_of_getElem? (i := 112) rfl)) rfl
theorem ul_12_56 : u_lay RX12 TX12 56 ∈ q_gT := q_mem (tb_6 (List.mem_of_getElem? (i := 114) rfl)) rfl
theorem ul_12_57 : u_lay RX12 TX12 57 ∈ q_gT := q_mem (tb_6 (List.mem_of_getElem? (i := 116) rfl)) rfl
theorem ul_12_58 : u_lay RX12 TX12 58 ∈ q_gT := q_mem (tb_6 (List.mem_of_getElem? (i := 118) rfl)) rfl
theorem ul_12_59 : u_lay RX12 TX12 59 ∈ q_gT := q_mem (tb_6 (List.mem_of_getElem? (i := 120) rfl)) rfl
theorem ul_12_60 : u_lay RX12 TX12 60 ∈ q_gT := q_mem (tb_6 (List.mem_of_getElem? (i := 122) rfl)) rfl
theorem ul_12_61 : u_lay RX12 TX12 61 ∈ q_gT := q_mem (tb_6 (List.mem_of_getElem? (i := 124) rfl)) rfl
theorem ul_12_62 : u_lay RX12 TX12 62 ∈ q_gT := q_mem (tb_6 (List.mem_of_getElem? (i := 126) rfl)) rfl
theorem ul_12_63 : u_lay RX12 TX12 63 ∈ q_gT := q_mem (tb_6 (List.mem_of_getElem? (i := 128) rfl)) rfl
theorem ul_12_64 : u_lay RX12 TX12 64 ∈ q_gT := q_mem (tb_6 (List.mem_of_getElem? (i := 130) rfl)) rfl
theorem ul_12_65 : u_lay RX12 TX12 65 ∈ q_gT := q_mem (tb_6 (List.mem_of_getElem? (i := 132) rfl)) rfl
theorem ul_12_66 : u_lay RX12 TX12 66 ∈ q_gT := q_mem (tb_6 (List.mem_of_getElem? (i := 134) rfl)) rfl
theorem ul_12_67 : u_lay RX12 TX12 67 ∈ q_gT := q_mem (tb_6 (List.mem_of_getElem? (i := 136) rfl)) rfl
theorem ul_12_68 : u_lay RX12 TX12 68 ∈ q_gT := q_mem (tb_6 (List.mem_of_getElem? (i := 138) rfl)) rfl
theorem ul_12_69 : u_lay RX12 TX12 69 ∈ q_gT := q_mem (tb_6 (List.mem_of_getElem? (i := 140) rfl)) rfl
theorem ul_12_70 : u_lay RX12 TX12 70 ∈ q_gT := q_mem (tb_6 (List.mem_of_getElem? (i := 142) rfl)) rfl
theorem ul_12_71 : u_lay RX12 TX12 71 ∈ q_gT := q_mem (tb_6 (List.mem_of_getElem? (i := 144) rfl)) rfl
theorem ul_12_72 : u_lay RX12 TX12 72 ∈ q_gT := q_mem (tb_6 (List.mem_of_getElem? (i := 146) rfl)) rfl
theorem ul_12_73 : u_lay RX12 TX12 73 ∈ q_gT := q_mem (tb_6 (List.mem_of_getElem? (i := 148) rfl)) rfl
theorem ul_12_74 : u_lay RX12 TX12 74 ∈ q_gT := q_mem (tb_6 (List.mem_of_getElem? (i := 150) rfl)) rfl
theorem ul_12_75 : u_lay RX12 TX12 75 ∈ q_gT := q_mem (tb_6 (List.mem_of_getElem? (i := 152) rfl)) rfl
theorem ul_12_76 : u_lay RX12 TX12 76 ∈ q_gT := q_mem (tb_6 (List.mem_of_getElem? (i := 154) rfl)) rfl
theorem ul_12_77 : u_lay RX12 TX12 77 ∈ q_gT := q_mem (tb_6 (List.mem_of_getElem? (i := 156) rfl)) rfl
theorem ul_12_78 : u_lay RX12 TX12 78 ∈ q_gT := q_mem (tb_6 (List.mem_of_getElem? (i := 158) rfl)) rfl
theorem ul_12_79 : u_lay RX12 TX12 79 ∈ q_gT := q_mem (tb_6 (List.mem_of_getElem? (i := 160) rfl)) rfl
theorem ul_12_80 : u_lay RX12 TX12 80 ∈ q_gT := q_mem (tb_6 (List.mem_of_getElem? (i := 162) rfl)) rfl
theorem ul_12_81 : u_lay RX12 TX12 81 ∈ q_gT := q_mem (tb_6 (List.mem_of_getElem? (i := 164) rfl)) rfl
theorem ul_12_82 : u_lay RX12 TX12 82 ∈ q_gT := q_mem (tb_6 (List.mem_of_getElem? (i := 166) rfl)) rfl
theorem ul_12_83 : u_lay RX12 TX12 83 ∈ q_gT := q_mem (tb_6 (List.mem_of_getElem? (i := 168) rfl)) rfl
theorem ul_12_84 : u_lay RX12 TX12 84 ∈ q_gT := q_mem (tb_6 (List.mem_of_getElem? (i := 170) rfl)) rfl
theorem ul_12_85 : u_lay RX12 TX12 85 ∈ q_gT := q_mem (tb_6 (List.mem_of_getElem? (i := 172) rfl)) rfl
theorem ul_12_86 : u_lay RX12 TX12 86 ∈ q_gT := q_mem (tb_6 (List.mem_of_getElem? (i := 174) rfl)) rfl
theorem ul_12_87 : u_lay RX12 TX12 87 ∈ q_gT := q_mem (tb_6 (List.mem_of_getElem? (i := 176) rfl)) rfl
theorem ul_12_88 : u_lay RX12 TX12 88 ∈ q_gT := q_mem (tb_6 (List.mem_of_getElem? (i := 178) rfl)) rfl
theorem ul_12_89 : u_lay RX12 TX12 89 ∈ q_gT := q_mem (tb_6 (List.mem_of_getElem? (i := 180) rfl)) rfl
theorem ul_12_90 : u_lay RX12 TX12 90 ∈ q_gT := q_mem (tb_6 (List.mem_of_getElem? (i := 182) rfl)) rfl
theorem ul_12_91 : u_lay RX12 TX12 91 ∈ q_gT := q_mem (tb_6 (List.mem_of_getElem? (i := 184) rfl)) rfl
theorem ul_12_92 : u_lay RX12 TX12 92 ∈ q_gT := q_mem (tb_6 (List.mem_of_getElem? (i := 186) rfl)) rfl
theorem ul_12_93 : u_lay RX12 TX12 93 ∈ q_gT := q_mem (tb_6 (List.mem_of_getElem? (i := 188) rfl)) rfl
theorem ul_12_94 : u_lay RX12 TX12 94 ∈ q_gT := q_mem (tb_6 (List.mem_of_getElem? (i := 190) rfl)) rfl
theorem ul_12_95 : u_lay RX12 TX12 95 ∈ q_gT := q_mem (tb_6 (List.mem_of_getElem? (i := 192) rfl)) rfl
theorem ul_12_96 : u_lay RX12 TX12 96 ∈ q_gT := q_mem (tb_6 (List.mem_of_getElem? (i := 194) rfl)) rfl
theorem ul_12_97 : u_lay RX12 TX12 97 ∈ q_gT := q_mem (tb_6 (List.mem_of_getElem? (i := 196) rfl)) rfl
theorem ul_12_98 : u_lay RX12 TX12 98 ∈ q_gT := q_mem (tb_6 (List.mem_of_getElem? (i := 198) rfl)) rfl
theorem ul_12_99 : u_lay RX12 TX12 99 ∈ q_gT := q_mem (tb_6 (List.mem_of_getElem? (i := 200) rfl)) rfl
theorem ul_12_100 : u_lay RX12 TX12 100 ∈ q_gT := q_mem (tb_6 (List.mem_of_getElem? (i := 202) rfl)) rfl
theorem ul_12_101 : u_lay RX12 TX12 101 ∈ q_gT := q_mem (tb_6 (List.mem_of_getElem? (i := 204) rfl)) rfl
theorem uw_12 : ∀ w ∈ u_ws RX12 TX12 102, w ∈ q_gT := by
  intro w h
  obtain ⟨k, hk, rfl⟩ := List.mem_map.mp h
  have hk := List.mem_range.mp hk
  match k, hk with
  | 0, _ => exact ul_12_0
  | 1, _ => exact ul_12_1
  | 2, _ => exact ul_12_2
  | 3, _ => exact ul_12_3
  | 4, _ => exact ul_12_4
  | 5, _ => exact ul_12_5
  | 6, _ => exact ul_12_6
  | 7, _ => exact ul_12_7
  | 8, _ => exact ul_12_8
  | 9, _ => exact ul_12_9
  | 10, _ => exact ul_12_10
  | 11, _ => exact ul_12_11
  | 12, _ => exact ul_12_12
  | 13, _ => exact ul_12_13
  | 14, _ => exact ul_12_14
  | 15, _ => exact ul_12_15
  | 16, _ => exact ul_12_16
  | 17, _ => exact ul_12_17
  | 18, _ => exact ul_12_18
  | 19, _ => exact ul_12_19
  | 20, _ => exact ul_12_20
  | 21, _ => exact ul_12_21
  | 22, _ => exact ul_12_22
  | 23, _ => exact ul_12_23
  | 24, _ => exact ul_12_24
  | 25, _ => exact ul_12_25
  | 26, _ => exact ul_12_26
  | 27, _ => exact ul_12_27
  | 28, _ => exact ul_12_28
  | 29, _ => exact ul_12_29
  | 30, _ => exact ul_12_30
  | 31, _ => exact ul_12_31
  | 32, _ => exact ul_12_32
  | 33, _ => exact ul_12_33
  | 34, _ => exact ul_12_34
  | 35, _ => exact ul_12_35
  | 36, _ => exact ul_12_36
  | 37, _ => exact ul_12_37
  | 38, _ => exact ul_12_38
  | 39, _ => exact ul_12_39
  | 40, _ => exact ul_12_40
  | 41, _ => exact ul_12_41
  | 42, _ => exact ul_12_42
  | 43, _ => exact ul_12_43
  | 44, _ => exact ul_12_44
  | 45, _ => exact ul_12_45
  | 46, _ => exact ul_12_46
  | 47, _ => exact ul_12_47
  | 48, _ => exact ul_12_48
  | 49, _ => exact ul_12_49
  | 50, _ => exact ul_12_50
  | 51, _ => exact ul_12_51
  | 52, _ => exact ul_12_52
  | 53, _ => exact ul_12_53
  | 54, _ => exact ul_12_54
  | 55, _ => exact ul_12_55
  | 56, _ => exact ul_12_56
  | 57, _ => exact ul_12_57
  | 58, _ => exact ul_12_58
  | 59, _ => exact ul_12_59
  | 60, _ => exact ul_12_60
  | 61, _ => exact ul_12_61
  | 62, _ => exact ul_12_62
  | 63, _ => exact ul_12_63
  | 64, _ => exact ul_12_64
  | 65, _ => exact ul_12_65
  | 66, _ => exact ul_12_66
  | 67, _ => exact ul_12_67
  | 68, _ => exact ul_12_68
  | 69, _ => exact ul_12_69
  | 70, _ => exact ul_12_70
  | 71, _ => exact ul_12_71
  | 72, _ => exact ul_12_72
  | 73, _ => exact ul_12_73
  | 74, _ => exact ul_12_74
  | 75, _ => exact ul_12_75
  | 76, _ => exact ul_12_76
  | 77, _ => exact ul_12_77
  | 78, _ => exact ul_12_78
  | 79, _ => exact ul_12_79
  | 80, _ => exact ul_12_80
  | 81, _ => exact ul_12_81
  | 82, _ => exact ul_12_82
  | 83, _ => exact ul_12_83
  | 84, _ => exact ul_12_84
  | 85, _ => exact ul_12_85
  | 86, _ => exact ul_12_86
  | 87, _ => exact ul_12_87
  | 88, _ => exact ul_12_88
  | 89, _ => exact ul_12_89
  | 90, _ => exact ul_12_90
  | 91, _ => exact ul_12_91
  | 92, _ => exact ul_12_92
  | 93, _ => exact ul_12_93
  | 94, _ => exact ul_12_94
  | 95, _ => exact ul_12_95
  | 96, _ => exact ul_12_96
  | 97, _ => exact ul_12_97
  | 98, _ => exact ul_12_98
  | 99, _ => exact ul_12_99
  | 100, _ => exact ul_12_100
  | 101, _ => exact ul_12_101
  | k + 102, hk => omega
theorem cf_12 : q_CF 12 RX12 TX12 102 := ⟨rfl, rfl, uw_12, tyX12_ok, nmX12⟩
theorem fl_X11_14 : q_FL RX11 14 11 0 true := ⟨_, _, _, cf_11, by decide, q_mem (tb_2 (List.mem_of_getElem? (i := 214) rfl)) rfl, rfl, rfl⟩
theorem fl_X11_18 : q_FL RX11 18 11 1 true := ⟨_, _, _, cf_11, by decide, q_mem (tb_2 (List.mem_of_getElem? (i := 215) rfl)) rfl, rfl, rfl⟩
theorem fl_X11_26 : q_FL RX11 26 11 2 true := ⟨_, _, _, cf_11, by decide, q_mem (tb_2 (List.mem_of_getElem? (i := 216) rfl)) rfl, rfl, rfl⟩
theorem fl_X11_33 : q_FL RX11 33 11 3 true := ⟨_, _, _, cf_11, by decide, q_mem (tb_2 (List.mem_of_getElem? (i := 217) rfl)) rfl, rfl, rfl⟩
theorem fl_X11_42 : q_FL RX11 42 11 4 true := ⟨_, _, _, cf_11, by decide, q_mem (tb_2 (List.mem_of_getElem? (i := 218) rfl)) rfl, rfl, rfl⟩
theorem fl_X11_51 : q_FL RX11 51 11 5 true := ⟨_, _, _, cf_11, by decide, q_mem (tb_2 (List.mem_of_getElem? (i := 219) rfl)) rfl, rfl, rfl⟩
theorem fl_X11_58 : q_FL RX11 58 11 6 true := ⟨_, _, _, cf_11, by decide, q_mem (tb_2 (List.mem_of_getElem? (i := 220) rfl)) rfl, rfl, rfl⟩
theorem fl_X11_65 : q_FL RX11 65 11 7 true := ⟨_, _, _, cf_11, by decide, q_mem (tb_2 (List.mem_of_getElem? (i := 221) rfl)) rfl, rfl, rfl⟩
theorem fl_X11_72 : q_FL RX11 72 11 8 true := ⟨_, _, _, cf_11, by decide, q_mem (tb_2 (List.mem_of_getElem? (i := 222) rfl)) rfl, rfl, rfl⟩
theorem fl_X11_79 : q_FL RX11 79 11 9 true := ⟨_, _, _, cf_11, by decide, q_mem (tb_2 (List.mem_of_getElem? (i := 223) rfl)) rfl, rfl, rfl⟩
theorem fl_X11_83 : q_FL RX11 83 11 10 true := ⟨_, _, _, cf_11, by decide, q_mem (tb_2 (List.mem_of_getElem? (i := 224) rfl)) rfl, rfl, rfl⟩
theorem fl_X11_90 : q_FL RX11 90 11 11 false := ⟨_, _, _, cf_11, by decide, q_mem (tb_2 (List.mem_of_getElem? (i := 225) rfl)) rfl, rfl, rfl⟩
theorem fl_X11_94 : q_FL RX11 94 11 12 false := ⟨_, _, _, cf_11, by decide, q_mem (tb_2 (List.mem_of_getElem? (i := 226) rfl)) rfl, rfl, rfl⟩
theorem fl_X11_102 : q_FL RX11 102 11 13 true := ⟨_, _, _, cf_11, by decide, q_mem (tb_2 (List.mem_of_getElem? (i := 227) rfl)) rfl, rfl, rfl⟩
theorem fl_X11_106 : q_FL RX11 106 11 14 false := ⟨_, _, _, cf_11, by decide, q_mem (tb_2 (List.mem_of_getElem? (i := 228) rfl)) rfl, rfl, rfl⟩
theorem fl_X11_110 : q_FL RX11 110 11 15 false := ⟨_, _, _, cf_11, by decide, q_mem (tb_2 (List.mem_of_getElem? (i := 229) rfl)) rfl, rfl, rfl⟩
theorem fl_X11_113 : q_FL RX11 113 10 1 false := ⟨_, _, _, cf_10, by decide, q_mem (tb_1 (List.mem_of_getElem? (i := 42) rfl)) rfl, rfl, rfl⟩
theorem fl_X11_133 : q_FL RX11 133 9 0 false := ⟨_, _, _, cf_9, by decide, q_mem (tb_1 (List.mem_of_getElem? (i := 211) rfl)) rfl, rfl, rfl⟩
theorem fl_X11_142 : q_FL RX11 142 2 0 false := ⟨_, _, _, cf_2, by decide, q_mem (tb_2 (List.mem_of_getElem? (i := 93) rfl)) rfl, rfl, rfl⟩
theorem fl_X11_145 : q_FL RX11 145 2 1 false := ⟨_, _, _, cf_2, by decide, q_mem (tb_2 (List.mem_of_getElem? (i := 98) rfl)) rfl, rfl, rfl⟩
theorem fl_X11_148 : q_FL RX11 148 2 7 false := ⟨_, _, _, cf_2, by decide, q_mem (tb_2 (List.mem_of_getElem? (i := 121) rfl)) rfl, rfl, rfl⟩
theorem fl_X11_151 : q_FL RX11 151 2 11 false := ⟨_, _, _, cf_2, by decide, q_mem (tb_2 (List.mem_of_getElem? (i := 135) rfl)) rfl, rfl, rfl⟩
theorem fl_X11_154 : q_FL RX11 154 1 3 false := ⟨_, _, _, cf_1, by decide, q_mem (tb_1 (List.mem_of_getElem? (i := 160) rfl)) rfl, rfl, rfl⟩
theorem fl_X11_155 : q_FL RX11 155 1 0 false := ⟨_, _, _, cf_1, by decide, q_mem (tb_1 (List.mem_of_getElem? (i := 152) rfl)) rfl, rfl, rfl⟩
theorem fl_X11_158 : q_FL RX11 158 1 1 false := ⟨_, _, _, cf_1, by decide, q_mem (tb_1 (List.mem_of_getElem? (i := 155) rfl)) rfl, rfl, rfl⟩
theorem fl_X11_161 : q_FL RX11 161 1 2 false := ⟨_, _, _, cf_1, by decide, q_mem (tb_1 (List.mem_of_getElem? (i := 157) rfl)) rfl, rfl, rfl⟩
theorem fl_X11_173 : q_FL RX11 173 1 5 false := ⟨_, _, _, cf_1, by decide, q_mem (tb_1 (List.mem_of_getElem? (i := 164) rfl)) rfl, rfl, rfl⟩
theorem fl_X11_176 : q_FL RX11 176 1 11 false := ⟨_, _, _, cf_1, by decide, q_mem (tb_1 (List.mem_of_getElem? (i := 174) rfl)) rfl, rfl, rfl⟩
theorem fl_X11_182 : q_FL RX11 182 2 2 true := ⟨_, _, _, cf_2, by decide, q_mem (tb_2 (List.mem_of_getElem? (i := 101) rfl)) rfl, rfl, rfl⟩
theorem fl_X11_192 : q_FL RX11 192 2 8 true := ⟨_, _, _, cf_2, by decide, q_mem (tb_2 (List.mem_of_getElem? (i := 124) rfl)) rfl, rfl, rfl⟩
theorem fl_X11_195 : q_FL RX11 195 2 3 true := ⟨_, _, _, cf_2, by decide, q_mem (tb_2 (List.mem_of_getElem? (i := 105) rfl)) rfl, rfl, rfl⟩
theorem fl_X11_197 : q_FL RX11 197 2 4 true := ⟨_, _, _, cf_2, by decide, q_mem (tb_2 (List.mem_of_getElem? (i := 109) rfl)) rfl, rfl, rfl⟩
theorem fl_X11_200 : q_FL RX11 200 2 5 true := ⟨_, _, _, cf_2, by decide, q_mem (tb_2 (List.mem_of_getElem? (i := 113) rfl)) rfl, rfl, rfl⟩
theorem fl_X11_203 : q_FL RX11 203 2 6 true := ⟨_, _, _, cf_2, by decide, q_mem (tb_2 (List.mem_of_getElem? (i := 117) rfl)) rfl, rfl, rfl⟩
theorem fl_X11_209 : q_FL RX11 209 2 9 true := ⟨_, _, _, cf_2, by decide, q_mem (tb_2 (List.mem_of_getElem? (i := 128) rfl)) rfl, rfl, rfl⟩
theorem fl_X11_212 : q_FL RX11 212 2 10 true := ⟨_, _, _, cf_2, by decide, q_mem (tb_2 (List.mem_of_getElem? (i := 132) rfl)) rfl, rfl, rfl⟩
theorem fl_X11_226 : q_FL RX11 226 1 6 true := ⟨_, _, _, cf_1, by decide, q_mem (tb_1 (List.mem_of_getElem? (i := 166) rfl)) rfl, rfl, rfl⟩
theorem fl_X11_229 : q_FL RX11 229 1 7 true := ⟨_, _, _, cf_1, by decide, q_mem (tb_1 (List.mem_of_getElem? (i := 168) rfl)) rfl, rfl, rfl⟩
theorem fl_X11_232 : q_FL RX11 232 1 8 true := ⟨_, _, _, cf_1, by decide, q_mem (tb_1 (List.mem_of_getElem? (i := 170) rfl)) rfl, rfl, rfl⟩
theorem fl_X11_245 : q_FL RX11 245 6 8 false := ⟨_, _, _, cf_6, by decide, q_mem (tb_2 (List.mem_of_getElem? (i := 2) rfl)) rfl, rfl, rfl⟩
theorem fl_X11_248 : q_FL RX11 248 6 6 false := ⟨_, _, _, cf_6, by decide, q_mem (tb_1 (List.mem_of_getElem? (i := 238) rfl)) rfl, rfl, rfl⟩
theorem fl_X11_251 : q_FL RX11 251 6 7 true := ⟨_, _, _, cf_6, by decide, q_mem (tb_2 (List.mem_of_getElem? (i := 0) rfl)) rfl, rfl, rfl⟩
theorem fl_X11_264 : q_FL RX11 264 2 16 false := ⟨_, _, _, cf_2, by decide, q_mem (tb_2 (List.mem_of_getElem? (i := 152) rfl)) rfl, rfl, rfl⟩
theorem fl_X11_303 : q_FL RX11 303 1 12 false := ⟨_, _, _, cf_1, by decide, q_mem (tb_1 (List.mem_of_getElem? (i := 176) rfl)) rfl, rfl, rfl⟩
theorem fl_X11_331 : q_FL RX11 331 8 5 false := ⟨_, _, _, cf_8, by decide, q_mem (tb_1 (List.mem_of_getElem? (i := 73) rfl)) rfl, rfl, rfl⟩
theorem fl_X11_334 : q_FL RX11 334 8 6 false := ⟨_, _, _, cf_8, by decide, q_mem (tb_1 (List.mem_of_getElem? (i := 75) rfl)) rfl, rfl, rfl⟩
theorem fl_X11_345 : q_FL RX11 345 8 3 false := ⟨_, _, _, cf_8, by decide, q_mem (tb_1 (List.mem_of_getElem? (i := 66) rfl)) rfl, rfl, rfl⟩
theorem fl_X11_348 : q_FL RX11 348 8 4 false := ⟨_, _, _, cf_8, by decide, q_mem (tb_1 (List.mem_of_getElem? (i := 70) rfl)) rfl, rfl, rfl⟩
theorem fl_X11_351 : q_FL RX11 351 8 1 false := ⟨_, _, _, cf_8, by decide, q_mem (tb_1 (List.mem_of_getElem? (i := 61) rfl)) rfl, rfl, rfl⟩
theorem fl_X11_376 : q_FL RX11 376 7 2 false := ⟨_, _, _, cf_7, by decide, q_mem (tb_2 (List.mem_of_getElem? (i := 31) rfl)) rfl, rfl, rfl⟩
theorem fl_X11_379 : q_FL RX11 379 7 3 false := ⟨_, _, _, cf_7, by decide, q_mem (tb_2 (List.mem_of_getElem? (i := 34) rfl)) rfl, rfl, rfl⟩
theorem fl_X11_381 : q_FL RX11 381 7 4 false := ⟨_, _, _, cf_7, by decide, q_mem (tb_2 (List.mem_of_getElem? (i := 37) rfl)) rfl, rfl, rfl⟩
theorem fl_X11_383 : q_FL RX11 383 7 6 false := ⟨_, _, _, cf_7, by decide, q_mem (tb_2 (List.mem_of_getElem? (i := 42) rfl)) rfl, rfl, rfl⟩
theorem fl_X11_384 : q_FL RX11 384 7 9 false := ⟨_, _, _, cf_7, by decide, q_mem (tb_2 (List.mem_of_getElem? (i := 48) rfl)) rfl, rfl, rfl⟩
theorem fl_X11_387 : q_FL RX11 387 7 10 false := ⟨_, _, _, cf_7, by decide, q_mem (tb_2 (List.mem_of_getElem? (i := 50) rfl)) rfl, rfl, rfl⟩
theorem fl_X11_388 : q_FL RX11 388 7 11 true := ⟨_, _, _, cf_7, by decide, q_mem (tb_2 (List.mem_of_getElem? (i := 52) rfl)) rfl, rfl, rfl⟩
theorem fl_X11_391 : q_FL RX11 391 7 12 true := ⟨_, _, _, cf_7, by decide, q_mem (tb_2 (List.mem_of_getElem? (i := 54) rfl)) rfl, rfl, rfl⟩
theorem fl_X0_9 : q_FL RX0 9 0 0 true := ⟨_, _, _, cf_0, by decide, q_mem (tb_1 (List.mem_of_getElem? (i := 97) rfl)) rfl, rfl, rfl⟩
theorem fl_X0_15 : q_FL RX0 15 0 1 false := ⟨_, _, _, cf_0, by decide, q_mem (tb_1 (List.mem_of_getElem? (i := 99) rfl)) rfl, rfl, rfl⟩
theorem fl_X1_9 : q_FL RX1 9 1 0 false := ⟨_, _, _, cf_1, by decide, q_mem (tb_1 (List.mem_of_getElem? (i := 150) rfl)) rfl, rfl, rfl⟩
theorem fl_X1_15 : q_FL RX1 15 1 1 false := ⟨_, _, _, cf_1, by decide, q_mem (tb_1 (List.mem_of_getElem? (i := 153) rfl)) rfl, rfl, rfl⟩
theorem fl_X1_18 : q_FL RX1 18 1 2 false := ⟨_, _, _, cf_1, by decide, q_mem (tb_1 (List.mem_of_getElem? (i := 156) rfl)) rfl, rfl, rfl⟩
theorem fl_X1_21 : q_FL RX1 21 1 3 false := ⟨_, _, _, cf_1, by decide, q_mem (tb_1 (List.mem_of_getElem? (i := 158) rfl)) rfl, rfl, rfl⟩
theorem fl_X1_24 : q_FL RX1 24 1 4 true := ⟨_, _, _, cf_1, by decide, q_mem (tb_1 (List.mem_of_getElem? (i := 161) rfl)) rfl, rfl, rfl⟩
theorem fl_X1_28 : q_FL RX1 28 1 5 false := ⟨_, _, _, cf_1, by decide, q_mem (tb_1 (List.mem_of_getElem? (i := 163) rfl)) rfl, rfl, rfl⟩
theorem fl_X1_31 : q_FL RX1 31 1 6 true := ⟨_, _, _, cf_1, by decide, q_mem (tb_1 (List.mem_of_getElem? (i := 165) rfl)) rfl, rfl, rfl⟩
theorem fl_X1_34 : q_FL RX1 34 1 7 true := ⟨_, _, _, cf_1, by decide, q_mem (tb_1 (List.mem_of_getElem? (i := 167) rfl)) rfl, rfl, rfl⟩
theorem fl_X1_37 : q_FL RX1 37 1 8 true := ⟨_, _, _, cf_1, by decide, q_mem (tb_1 (List.mem_of_getElem? (i := 169) rfl)) rfl, rfl, rfl⟩
theorem fl_X1_42 : q_FL RX1 42 1 9 true := ⟨_, _, _, cf_1, by decide, q_mem (tb_1 (List.mem_of_getElem? (i := 171) rfl)) rfl, rfl, rfl⟩
theorem fl_X1_45 : q_FL RX1 45 1 10 false := ⟨_, _, _, cf_1, by decide, q_mem (tb_1 (List.mem_of_getElem? (i := 172) rfl)) rfl, rfl, rfl⟩
theorem fl_X1_48 : q_FL RX1 48 1 11 false := ⟨_, _, _, cf_1, by decide, q_mem (tb_1 (List.mem_of_getElem? (i := 173) rfl)) rfl, rfl, rfl⟩
theorem fl_X1_51 : q_FL RX1 51 1 12 false := ⟨_, _, _, cf_1, by decide, q_mem (tb_1 (List.mem_of_getElem? (i := 175) rfl)) rfl, rfl, rfl⟩
theorem fl_X1_74 : q_FL RX1 74 2 17 false := ⟨_, _, _, cf_2, by decide, q_mem (tb_2 (List.mem_of_getElem? (i := 155) rfl)) rfl, rfl, rfl⟩
theorem fl_X1_79 : q_FL RX1 79 2 11 false := ⟨_, _, _, cf_2, by decide, q_mem (tb_2 (List.mem_of_getElem? (i := 137) rfl)) rfl, rfl, rfl⟩
theorem fl_X1_80 : q_FL RX1 80 10 1 false := ⟨_, _, _, cf_10, by decide, q_mem (tb_1 (List.mem_of_getElem? (i := 44) rfl)) rfl, rfl, rfl⟩
theorem fl_X2_9 : q_FL RX2 9 2 0 false := ⟨_, _, _, cf_2, by decide, q_mem (tb_2 (List.mem_of_getElem? (i := 90) rfl)) rfl, rfl, rfl⟩
theorem fl_X2_15 : q_FL RX2 15 2 1 false := ⟨_, _, _, cf_2, by decide, q_mem (tb_2 (List.mem_of_getElem? (i := 94) rfl)) rfl, rfl, rfl⟩
theorem fl_X2_18 : q_FL RX2 18 2 2 true := ⟨_, _, _, cf_2, by decide, q_mem (tb_2 (List.mem_of_getElem? (i := 99) rfl)) rfl, rfl, rfl⟩
theorem fl_X2_22 : q_FL RX2 22 2 3 true := ⟨_, _, _, cf_2, by decide, q_mem (tb_2 (List.mem_of_getElem? (i := 102) rfl)) rfl, rfl, rfl⟩
theorem fl_X2_25 : q_FL RX2 25 2 4 true := ⟨_, _, _, cf_2, by decide, q_mem (tb_2 (List.mem_of_getElem? (i := 106) rfl)) rfl, rfl, rfl⟩
theorem fl_X2_28 : q_FL RX2 28 2 5 true := ⟨_, _, _, cf_2, by decide, q_mem (tb_2 (List.mem_of_getElem? (i := 110) rfl)) rfl, rfl, rfl⟩
theorem fl_X2_31 : q_FL RX2 31 2 6 true := ⟨_, _, _, cf_2, by decide, q_mem (tb_2 (List.mem_of_getElem? (i := 114) rfl)) rfl, rfl, rfl⟩
theorem fl_X2_34 : q_FL RX2 34 2 7 false := ⟨_, _, _, cf_2, by decide, q_mem (tb_2 (List.mem_of_getElem? (i := 118) rfl)) rfl, rfl, rfl⟩
theorem fl_X2_37 : q_FL RX2 37 2 8 true := ⟨_, _, _, cf_2, by decide, q_mem (tb_2 (List.mem_of_getElem? (i := 122) rfl)) rfl, rfl, rfl⟩
theorem fl_X2_40 : q_FL RX2 40 2 9 true := ⟨_, _, _, cf_2, by decide, q_mem (tb_2 (List.mem_of_getElem? (i := 125) rfl)) rfl, rfl, rfl⟩
theorem fl_X2_43 : q_FL RX2 43 2 10 true := ⟨_, _, _, cf_2, by decide, q_mem (tb_2 (List.mem_of_getElem? (i := 129) rfl)) rfl, rfl, rfl⟩
theorem fl_X2_46 : q_FL RX2 46 2 11 false := ⟨_, _, _, cf_2, by decide, q_mem (tb_2 (List.mem_of_getElem? (i := 133) rfl)) rfl, rfl, rfl⟩
theorem fl_X2_49 : q_FL RX2 49 2 12 true := ⟨_, _, _, cf_2, by decide, q_mem (tb_2 (List.mem_of_getElem? (i := 138) rfl)) rfl, rfl, rfl⟩
theorem fl_X2_52 : q_FL RX2 52 2 13 true := ⟨_, _, _, cf_2, by decide, q_mem (tb_2 (List.mem_of_getElem? (i := 141) rfl)) rfl, rfl, rfl⟩
theorem fl_X2_58 : q_FL RX2 58 2 14 true := ⟨_, _, _, cf_2, by decide, q_mem (tb_2 (List.mem_of_getElem? (i := 144) rfl)) rfl, rfl, rfl⟩
theorem fl_X2_62 : q_FL RX2 62 2 15 true := ⟨_, _, _, cf_2, by decide, q_mem (tb_2 (List.mem_of_getElem? (i := 147) rfl)) rfl, rfl, rfl⟩
theorem fl_X2_65 : q_FL RX2 65 2 16 false := ⟨_, _, _, cf_2, by decide, q_mem (tb_2 (List.mem_of_getElem? (i := 150) rfl)) rfl, rfl, rfl⟩
theorem fl_X2_68 : q_FL RX2 68 2 17 false := ⟨_, _, _, cf_2, by decide, q_mem (tb_2 (List.mem_of_getElem? (i := 153) rfl)) rfl, rfl, rfl⟩
theorem fl_X2_71 : q_FL RX2 71 0 1 false := ⟨_, _, _, cf_0, by decide, q_mem (tb_1 (List.mem_of_getElem? (i := 102) rfl)) rfl, rfl, rfl⟩
theorem fl_X3_9 : q_FL RX3 9 3 0 true := ⟨_, _, _, cf_3, by decide, q_mem (tb_1 (List.mem_of_getElem? (i := 135) rfl)) rfl, rfl, rfl⟩
theorem fl_X3_15 : q_FL RX3 15 3 1 true := ⟨_, _, _, cf_3, by decide, q_mem (tb_1 (List.mem_of_getElem? (i := 136) rfl)) rfl, rfl, rfl⟩
theorem fl_X3_29 : q_FL RX3 29 8 5 false := ⟨_, _, _, cf_8, by decide, q_mem (tb_1 (List.mem_of_getElem? (i := 72) rfl)) rfl, rfl, rfl⟩
theorem fl_X3_33 : q_FL RX3 33 8 3 false := ⟨_, _, _, cf_8, by decide, q_mem (tb_1 (List.mem_of_getElem? (i := 64) rfl)) rfl, rfl, rfl⟩
theorem fl_X3_44 : q_FL RX3 44 8 1 false := ⟨_, _, _, cf_8, by decide, q_mem (tb_1 (List.mem_of_getElem? (i := 59) rfl)) rfl, rfl, rfl⟩
theorem fl_X3_55 : q_FL RX3 55 8 4 false := ⟨_, _, _, cf_8, by decide, q_mem (tb_1 (List.mem_of_getElem? (i := 68) rfl)) rfl, rfl, rfl⟩
theorem fl_X3_65 : q_FL RX3 65 2 0 false := ⟨_, _, _, cf_2, by decide, q_mem (tb_2 (List.mem_of_getElem? (i := 92) rfl)) rfl, rfl, rfl⟩
theorem fl_X3_78 : q_FL RX3 78 2 14 true := ⟨_, _, _, cf_2, by decide, q_mem (tb_2 (List.mem_of_getElem? (i := 145) rfl)) rfl, rfl, rfl⟩
theorem fl_X3_82 : q_FL RX3 82 0 1 false := ⟨_, _, _, cf_0, by decide, q_mem (tb_1 (List.mem_of_getElem? (i := 103) rfl)) rfl, rfl, rfl⟩
theorem fl_X3_99 : q_FL RX3 99 2 15 true := ⟨_, _, _, cf_2, by decide, q_mem (tb_2 (List.mem_of_getElem? (i := 148) rfl)) rfl, rfl, rfl⟩
theorem fl_X3_105 : q_FL RX3 105 2 16 false := ⟨_, _, _, cf_2, by decide, q_mem (tb_2 (List.mem_of_getElem? (i := 151) rfl)) rfl, rfl, rfl⟩
theorem fl_X3_108 : q_FL RX3 108 2 17 false := ⟨_, _, _, cf_2, by decide, q_mem (tb_2 (List.mem_of_getElem? (i := 154) rfl)) rfl, rfl, rfl⟩
theorem fl_X3_111 : q_FL RX3 111 2 1 false := ⟨_, _, _, cf_2, by decide, q_mem (tb_2 (List.mem_of_getElem? (i := 97) rfl)) rfl, rfl, rfl⟩
theorem fl_X3_114 : q_FL RX3 114 2 2 true := ⟨_, _, _, cf_2, by decide, q_mem (tb_2 (List.mem_of_getElem? (i := 100) rfl)) rfl, rfl, rfl⟩
theorem fl_X3_125 : q_FL RX3 125 2 3 true := ⟨_, _, _, cf_2, by decide, q_mem (tb_2 (List.mem_of_getElem? (i := 104) rfl)) rfl, rfl, rfl⟩
theorem fl_X3_128 : q_FL RX3 128 2 4 true := ⟨_, _, _, cf_2, by decide, q_mem (tb_2 (List.mem_of_getElem? (i := 107) rfl)) rfl, rfl, rfl⟩
theorem fl_X3_131 : q_FL RX3 131 2 5 true := ⟨_, _, _, cf_2, by decide, q_mem (tb_2 (List.mem_of_getElem? (i := 111) rfl)) rfl, rfl, rfl⟩
theorem fl_X3_134 : q_FL RX3 134 2 6 true := ⟨_, _, _, cf_2, by decide, q_mem (tb_2 (List.mem_of_getElem? (i := 115) rfl)) rfl, rfl, rfl⟩
theorem fl_X3_137 : q_FL RX3 137 2 7 false := ⟨_, _, _, cf_2, by decide, q_mem (tb_2 (List.mem_of_getElem? (i := 120) rfl)) rfl, rfl, rfl⟩
theorem fl_X3_140 : q_FL RX3 140 2 8 true := ⟨_, _, _, cf_2, by decide, q_mem (tb_2 (List.mem_of_getElem? (i := 123) rfl)) rfl, rfl, rfl⟩
theorem fl_X3_143 : q_FL RX3 143 2 9 true := ⟨_, _, _, cf_2, by decide, q_mem (tb_2 (List.mem_of_getElem? (i := 126) rfl)) rfl, rfl, rfl⟩
theorem fl_X3_146 : q_FL RX3 146 2 10 true := ⟨_, _, _, cf_2, by decide, q_mem (tb_2 (List.mem_of_getElem? (i := 130) rfl)) rfl, rfl, rfl⟩
theorem fl_X3_149 : q_FL RX3 149 2 11 false := ⟨_, _, _, cf_2, by decide, q_mem (tb_2 (List.mem_of_getElem? (i := 136) rfl)) rfl, rfl, rfl⟩
theorem fl_X3_152 : q_FL RX3 152 2 12 true := ⟨_, _, _, cf_2, by decide, q_mem (tb_2 (List.mem_of_getElem? (i := 140) rfl)) rfl, rfl, rfl⟩
theorem fl_X3_155 : q_FL RX3 155 2 13 true := ⟨_, _, _, cf_2, by decide, q_mem (tb_2 (List.mem_of_getElem? (i := 143) rfl)) rfl, rfl, rfl⟩
theorem fl_X4_11 : q_FL RX4 11 4 2 false := ⟨_, _, _, cf_4, by decide, q_mem (tb_1 (List.mem_of_getElem? (i := 118) rfl)) rfl, rfl, rfl⟩
theorem fl_X4_15 : q_FL RX4 15 4 3 false := ⟨_, _, _, cf_4, by decide, q_mem (tb_1 (List.mem_of_getElem? (i := 119) rfl)) rfl, rfl, rfl⟩
theorem fl_X4_18 : q_FL RX4 18 4 0 true := ⟨_, _, _, cf_4, by decide, q_mem (tb_1 (List.mem_of_getElem? (i := 116) rfl)) rfl, rfl, rfl⟩
theorem fl_X4_22 : q_FL RX4 22 4 1 false := ⟨_, _, _, cf_4, by decide, q_mem (tb_1 (List.mem_of_getElem? (i := 117) rfl)) rfl, rfl, rfl⟩
theorem fl_X4_26 : q_FL RX4 26 0 1 false := ⟨_, _, _, cf_0, by decide, q_mem (tb_1 (List.mem_of_getElem? (i := 101) rfl)) rfl, rfl, rfl⟩
theorem fl_X4_68 : q_FL RX4 68 8 4 false := ⟨_, _, _, cf_8, by decide, q_mem (tb_1 (List.mem_of_getElem? (i := 69) rfl)) rfl, rfl, rfl⟩
theorem fl_X4_71 : q_FL RX4 71 8 1 false := ⟨_, _, _, cf_8, by decide, q_mem (tb_1 (List.mem_of_getElem? (i := 60) rfl)) rfl, rfl, rfl⟩
theorem fl_X4_84 : q_FL RX4 84 8 3 false := ⟨_, _, _, cf_8, by decide, q_mem (tb_1 (List.mem_of_getElem? (i := 65) rfl)) rfl, rfl, rfl⟩
theorem fl_X5_9 : q_FL RX5 9 5 1 true := ⟨_, _, _, cf_5, by decide, q_mem (tb_2 (List.mem_of_getElem? (i := 202) rfl)) rfl, rfl, rfl⟩
theorem fl_X5_15 : q_FL RX5 15 5 2 true := ⟨_, _, _, cf_5, by decide, q_mem (tb_2 (List.mem_of_getElem? (i := 203) rfl)) rfl, rfl, rfl⟩
theorem fl_X5_21 : q_FL RX5 21 5 3 true := ⟨_, _, _, cf_5, by decide, q_mem (tb_2 (List.mem_of_getElem? (i := 204) rfl)) rfl, rfl, rfl⟩
theorem fl_X5_25 : q_FL RX5 25 5 0 false := ⟨_, _, _, cf_5, by decide, q_mem (tb_2 (List.mem_of_getElem? (i := 201) rfl)) rfl, rfl, rfl⟩
theorem fl_X5_35 : q_FL RX5 35 2 11 false := ⟨_, _, _, cf_2, by decide, q_mem (tb_2 (List.mem_of_getElem? (i := 134) rfl)) rfl, rfl, rfl⟩
theorem fl_X5_41 : q_FL RX5 41 2 12 true := ⟨_, _, _, cf_2, by decide, q_mem (tb_2 (List.mem_of_getElem? (i := 139) rfl)) rfl, rfl, rfl⟩
theorem fl_X5_44 : q_FL RX5 44 2 13 true := ⟨_, _, _, cf_2, by decide, q_mem (tb_2 (List.mem_of_getElem? (i := 142) rfl)) rfl, rfl, rfl⟩
theorem fl_X5_47 : q_FL RX5 47 1 3 false := ⟨_, _, _, cf_1, by decide, q_mem (tb_1 (List.mem_of_getElem? (i := 159) rfl)) rfl, rfl, rfl⟩
theorem fl_X5_50 : q_FL RX5 50 1 4 true := ⟨_, _, _, cf_1, by decide, q_mem (tb_1 (List.mem_of_getElem? (i := 162) rfl)) rfl, rfl, rfl⟩
theorem fl_X5_61 : q_FL RX5 61 2 6 true := ⟨_, _, _, cf_2, by decide, q_mem (tb_2 (List.mem_of_getElem? (i := 116) rfl)) rfl, rfl, rfl⟩
theorem fl_X5_64 : q_FL RX5 64 2 9 true := ⟨_, _, _, cf_2, by decide, q_mem (tb_2 (List.mem_of_getElem? (i := 127) rfl)) rfl, rfl, rfl⟩
theorem fl_X5_67 : q_FL RX5 67 7 3 false := ⟨_, _, _, cf_7, by decide, q_mem (tb_2 (List.mem_of_getElem? (i := 33) rfl)) rfl, rfl, rfl⟩
theorem fl_X5_69 : q_FL RX5 69 2 10 true := ⟨_, _, _, cf_2, by decide, q_mem (tb_2 (List.mem_of_getElem? (i := 131) rfl)) rfl, rfl, rfl⟩
theorem fl_X5_72 : q_FL RX5 72 7 4 false := ⟨_, _, _, cf_7, by decide, q_mem (tb_2 (List.mem_of_getElem? (i := 36) rfl)) rfl, rfl, rfl⟩
theorem fl_X5_74 : q_FL RX5 74 2 4 true := ⟨_, _, _, cf_2, by decide, q_mem (tb_2 (List.mem_of_getElem? (i := 108) rfl)) rfl, rfl, rfl⟩
theorem fl_X5_77 : q_FL RX5 77 7 5 false := ⟨_, _, _, cf_7, by decide, q_mem (tb_2 (List.mem_of_getElem? (i := 39) rfl)) rfl, rfl, rfl⟩
theorem fl_X5_79 : q_FL RX5 79 7 6 false := ⟨_, _, _, cf_7, by decide, q_mem (tb_2 (List.mem_of_getElem? (i := 41) rfl)) rfl, rfl, rfl⟩
theorem fl_X5_82 : q_FL RX5 82 2 5 true := ⟨_, _, _, cf_2, by decide, q_mem (tb_2 (List.mem_of_getElem? (i := 112) rfl)) rfl, rfl, rfl⟩
theorem fl_X5_85 : q_FL RX5 85 7 8 false := ⟨_, _, _, cf_7, by decide, q_mem (tb_2 (List.mem_of_getElem? (i := 46) rfl)) rfl, rfl, rfl⟩
theorem fl_X5_87 : q_FL RX5 87 2 14 true := ⟨_, _, _, cf_2, by decide, q_mem (tb_2 (List.mem_of_getElem? (i := 146) rfl)) rfl, rfl, rfl⟩
theorem fl_X5_91 : q_FL RX5 91 0 1 false := ⟨_, _, _, cf_0, by decide, q_mem (tb_1 (List.mem_of_getElem? (i := 104) rfl)) rfl, rfl, rfl⟩
theorem fl_X5_109 : q_FL RX5 109 7 7 false := ⟨_, _, _, cf_7, by decide, q_mem (tb_2 (List.mem_of_getElem? (i := 44) rfl)) rfl, rfl, rfl⟩
theorem fl_X5_112 : q_FL RX5 112 2 15 true := ⟨_, _, _, cf_2, by decide, q_mem (tb_2 (List.mem_of_getElem? (i := 149) rfl)) rfl, rfl, rfl⟩
theorem fl_X6_9 : q_FL RX6 9 6 0 false := ⟨_, _, _, cf_6, by decide, q_mem (tb_1 (List.mem_of_getElem? (i := 231) rfl)) rfl, rfl, rfl⟩
theorem fl_X6_15 : q_FL RX6 15 6 1 false := ⟨_, _, _, cf_6, by decide, q_mem (tb_1 (List.mem_of_getElem? (i := 232) rfl)) rfl, rfl, rfl⟩
theorem fl_X6_18 : q_FL RX6 18 6 2 true := ⟨_, _, _, cf_6, by decide, q_mem (tb_1 (List.mem_of_getElem? (i := 233) rfl)) rfl, rfl, rfl⟩
theorem fl_X6_24 : q_FL RX6 24 6 3 true := ⟨_, _, _, cf_6, by decide, q_mem (tb_1 (List.mem_of_getElem? (i := 234) rfl)) rfl, rfl, rfl⟩
theorem fl_X6_27 : q_FL RX6 27 6 4 true := ⟨_, _, _, cf_6, by decide, q_mem (tb_1 (List.mem_of_getElem? (i := 235) rfl)) rfl, rfl, rfl⟩
theorem fl_X6_30 : q_FL RX6 30 6 5 true := ⟨_, _, _, cf_6, by decide, q_mem (tb_1 (List.mem_of_getElem? (i := 236) rfl)) rfl, rfl, rfl⟩
theorem fl_X6_33 : q_FL RX6 33 6 6 false := ⟨_, _, _, cf_6, by decide, q_mem (tb_1 (List.mem_of_getElem? (i := 237) rfl)) rfl, rfl, rfl⟩
theorem fl_X6_36 : q_FL RX6 36 6 7 true := ⟨_, _, _, cf_6, by decide, q_mem (tb_1 (List.mem_of_getElem? (i := 239) rfl)) rfl, rfl, rfl⟩
theorem fl_X6_39 : q_FL RX6 39 6 8 false := ⟨_, _, _, cf_6, by decide, q_mem (tb_2 (List.mem_of_getElem? (i := 1) rfl)) rfl, rfl, rfl⟩
theorem fl_X6_42 : q_FL RX6 42 2 1 false := ⟨_, _, _, cf_2, by decide, q_mem (tb_2 (List.mem_of_getElem? (i := 95) rfl)) rfl, rfl, rfl⟩
theorem fl_X6_45 : q_FL RX6 45 2 0 false := ⟨_, _, _, cf_2, by decide, q_mem (tb_2 (List.mem_of_getElem? (i := 91) rfl)) rfl, rfl, rfl⟩
theorem fl_X6_60 : q_FL RX6 60 2 3 true := ⟨_, _, _, cf_2, by decide, q_mem (tb_2 (List.mem_of_getElem? (i := 103) rfl)) rfl, rfl, rfl⟩
theorem fl_X6_63 : q_FL RX6 63 1 0 false := ⟨_, _, _, cf_1, by decide, q_mem (tb_1 (List.mem_of_getElem? (i := 151) rfl)) rfl, rfl, rfl⟩
theorem fl_X6_72 : q_FL RX6 72 1 1 false := ⟨_, _, _, cf_1, by decide, q_mem (tb_1 (List.mem_of_getElem? (i := 154) rfl)) rfl, rfl, rfl⟩
theorem fl_X7_9 : q_FL RX7 9 7 0 true := ⟨_, _, _, cf_7, by decide, q_mem (tb_2 (List.mem_of_getElem? (i := 28) rfl)) rfl, rfl, rfl⟩
theorem fl_X7_15 : q_FL RX7 15 7 1 false := ⟨_, _, _, cf_7, by decide, q_mem (tb_2 (List.mem_of_getElem? (i := 29) rfl)) rfl, rfl, rfl⟩
theorem fl_X7_19 : q_FL RX7 19 7 2 false := ⟨_, _, _, cf_7, by decide, q_mem (tb_2 (List.mem_of_getElem? (i := 30) rfl)) rfl, rfl, rfl⟩
theorem fl_X7_22 : q_FL RX7 22 7 3 false := ⟨_, _, _, cf_7, by decide, q_mem (tb_2 (List.mem_of_getElem? (i := 32) rfl)) rfl, rfl, rfl⟩
theorem fl_X7_25 : q_FL RX7 25 7 4 false := ⟨_, _, _, cf_7, by decide, q_mem (tb_2 (List.mem_of_getElem? (i := 35) rfl)) rfl, rfl, rfl⟩
theorem fl_X7_28 : q_FL RX7 28 7 5 false := ⟨_, _, _, cf_7, by decide, q_mem (tb_2 (List.mem_of_getElem? (i := 38) rfl)) rfl, rfl, rfl⟩
theorem fl_X7_31 : q_FL RX7 31 7 6 false := ⟨_, _, _, cf_7, by decide, q_mem (tb_2 (List.mem_of_getElem? (i := 40) rfl)) rfl, rfl, rfl⟩
theorem fl_X7_34 : q_FL RX7 34 7 7 false := ⟨_, _, _, cf_7, by decide, q_mem (tb_2 (List.mem_of_getElem? (i := 43) rfl)) rfl, rfl, rfl⟩
theorem fl_X7_37 : q_FL RX7 37 7 8 false := ⟨_, _, _, cf_7, by decide, q_mem (tb_2 (List.mem_of_getElem? (i := 45) rfl)) rfl, rfl, rfl⟩
theorem fl_X7_40 : q_FL RX7 40 7 9 false := ⟨_, _, _, cf_7, by decide, q_mem (tb_2 (List.mem_of_getElem? (i := 47) rfl)) rfl, rfl, rfl⟩
theorem fl_X7_43 : q_FL RX7 43 7 10 false := ⟨_, _, _, cf_7, by decide, q_mem (tb_2 (List.mem_of_getElem? (i := 49) rfl)) rfl, rfl, rfl⟩
theorem fl_X7_46 : q_FL RX7 46 7 11 true := ⟨_, _, _, cf_7, by decide, q_mem (tb_2 (List.mem_of_getElem? (i := 51) rfl)) rfl, rfl, rfl⟩
theorem fl_X7_49 : q_FL RX7 49 7 12 true := ⟨_, _, _, cf_7, by decide, q_mem (tb_2 (List.mem_of_getElem? (i := 53) rfl)) rfl, rfl, rfl⟩
theorem fl_X7_52 : q_FL RX7 52 0 1 false := ⟨_, _, _, cf_0, by decide, q_mem (tb_1 (List.mem_of_getElem? (i := 100) rfl)) rfl, rfl, rfl⟩
theorem fl_X7_55 : q_FL RX7 55 0 0 true := ⟨_, _, _, cf_0, by decide, q_mem (tb_1 (List.mem_of_getElem? (i := 98) rfl)) rfl, rfl, rfl⟩
theorem fl_X8_9 : q_FL RX8 9 8 1 false := ⟨_, _, _, cf_8, by decide, q_mem (tb_1 (List.mem_of_getElem? (i := 58) rfl)) rfl, rfl, rfl⟩
theorem fl_X8_15 : q_FL RX8 15 8 2 false := ⟨_, _, _, cf_8, by decide, q_mem (tb_1 (List.mem_of_getElem? (i := 62) rfl)) rfl, rfl, rfl⟩
theorem fl_X8_18 : q_FL RX8 18 8 3 false := ⟨_, _, _, cf_8, by decide, q_mem (tb_1 (List.mem_of_getElem? (i := 63) rfl)) rfl, rfl, rfl⟩
theorem fl_X8_21 : q_FL RX8 21 8 4 false := ⟨_, _, _, cf_8, by decide, q_mem (tb_1 (List.mem_of_getElem? (i := 67) rfl)) rfl, rfl, rfl⟩
theorem fl_X8_24 : q_FL RX8 24 8 5 false := ⟨_, _, _, cf_8, by decide, q_mem (tb_1 (List.mem_of_getElem? (i := 71) rfl)) rfl, rfl, rfl⟩
theorem fl_X8_27 : q_FL RX8 27 8 6 false := ⟨_, _, _, cf_8, by decide, q_mem (tb_1 (List.mem_of_getElem? (i := 74) rfl)) rfl, rfl, rfl⟩
theorem fl_X8_30 : q_FL RX8 30 8 0 true := ⟨_, _, _, cf_8, by decide, q_mem (tb_1 (List.mem_of_getElem? (i := 57) rfl)) rfl, rfl, rfl⟩
theorem fl_X8_37 : q_FL RX8 37 10 1 false := ⟨_, _, _, cf_10, by decide, q_mem (tb_1 (List.mem_of_getElem? (i := 43) rfl)) rfl, rfl, rfl⟩
theorem fl_X9_9 : q_FL RX9 9 9 0 false := ⟨_, _, _, cf_9, by decide, q_mem (tb_1 (List.mem_of_getElem? (i := 210) rfl)) rfl, rfl, rfl⟩
theorem fl_X9_15 : q_FL RX9 15 9 1 true := ⟨_, _, _, cf_9, by decide, q_mem (tb_1 (List.mem_of_getElem? (i := 212) rfl)) rfl, rfl, rfl⟩
theorem fl_X9_19 : q_FL RX9 19 9 2 true := ⟨_, _, _, cf_9, by decide, q_mem (tb_1 (List.mem_of_getElem? (i := 213) rfl)) rfl, rfl, rfl⟩
theorem fl_X9_22 : q_FL RX9 22 9 3 true := ⟨_, _, _, cf_9, by decide, q_mem (tb_1 (List.mem_of_getElem? (i := 214) rfl)) rfl, rfl, rfl⟩
theorem fl_X9_25 : q_FL RX9 25 10 1 false := ⟨_, _, _, cf_10, by decide, q_mem (tb_1 (List.mem_of_getElem? (i := 41) rfl)) rfl, rfl, rfl⟩
theorem fl_X9_33 : q_FL RX9 33 2 7 false := ⟨_, _, _, cf_2, by decide, q_mem (tb_2 (List.mem_of_getElem? (i := 119) rfl)) rfl, rfl, rfl⟩
theorem fl_X9_38 : q_FL RX9 38 2 1 false := ⟨_, _, _, cf_2, by decide, q_mem (tb_2 (List.mem_of_getElem? (i := 96) rfl)) rfl, rfl, rfl⟩
theorem fl_X10_9 : q_FL RX10 9 10 1 false := ⟨_, _, _, cf_10, by decide, q_mem (tb_1 (List.mem_of_getElem? (i := 40) rfl)) rfl, rfl, rfl⟩
theorem fl_X10_21 : q_FL RX10 21 10 0 true := ⟨_, _, _, cf_10, by decide, q_mem (tb_1 (List.mem_of_getElem? (i := 39) rfl)) rfl, rfl, rfl⟩
theorem fl_X12_7 : q_FL RX12 7 12 0 true := ⟨_, _, _, cf_12, by decide, q_mem (tb_5 (List.mem_of_getElem? (i := 140) rfl)) rfl, rfl, rfl⟩
theorem fl_X12_13 : q_FL RX12 13 12 8 false := ⟨_, _, _, cf_12, by decide, q_mem (tb_5 (List.mem_of_getElem? (i := 148) rfl)) rfl, rfl, rfl⟩
theorem fl_X12_17 : q_FL RX12 17 12 9 true := ⟨_, _, _, cf_12, by decide, q_mem (tb_5 (List.mem_of_getElem? (i := 149) rfl)) rfl, rfl, rfl⟩
theorem fl_X12_20 : q_FL RX12 20 12 10 true := ⟨_, _, _, cf_12, by decide, q_mem (tb_5 (List.mem_of_getElem? (i := 150) rfl)) rfl, rfl, rfl⟩
theorem fl_X12_24 : q_FL RX12 24 12 11 true := ⟨_, _, _, cf_12, by decide, q_mem (tb_5 (List.mem_of_getElem? (i := 151) rfl)) rfl, rfl, rfl⟩
theorem fl_X12_27 : q_FL RX12 27 12 12 true := ⟨_, _, _, cf_12, by decide, q_mem (tb_5 (List.mem_of_getElem? (i := 152) rfl)) rfl, rfl, rfl⟩
theorem fl_X12_30 : q_FL RX12 30 12 13 true := ⟨_, _, _, cf_12, by decide, q_mem (tb_5 (List.mem_of_getElem? (i := 153) rfl)) rfl, rfl, rfl⟩
theorem fl_X12_33 : q_FL RX12 33 12 14 true := ⟨_, _, _, cf_12, by decide, q_mem (tb_5 (List.mem_of_getElem? (i := 154) rfl)) rfl, rfl, rfl⟩
theorem fl_X12_36 : q_FL RX12 36 12 15 true := ⟨_, _, _, cf_12, by decide, q_mem (tb_5 (List.mem_of_getElem? (i := 155) rfl)) rfl, rfl, rfl⟩
theorem fl_X12_39 : q_FL RX12 39 12 16 true := ⟨_, _, _, cf_12, by decide, q_mem (tb_5 (List.mem_of_getElem? (i := 156) rfl)) rfl, rfl, rfl⟩
theorem fl_X12_42 : q_FL RX12 42 12 17 true := ⟨_, _, _, cf_12, by decide, q_mem (tb_5 (List.mem_of_getElem? (i := 157) rfl)) rfl, rfl, rfl⟩
theorem fl_X12_45 : q_FL RX12 45 12 18 true := ⟨_, _, _, cf_12, by decide, q_mem (tb_5 (List.mem_of_getElem? (i := 158) rfl)) rfl, rfl, rfl⟩
theorem fl_X12_48 : q_FL RX12 48 12 19 true := ⟨_, _, _, cf_12, by decide, q_mem (tb_5 (List.mem_of_getElem? (i := 159) rfl)) rfl, rfl, rfl⟩
theorem fl_X12_51 : q_FL RX12 51 12 20 true := ⟨_, _, _, cf_12, by decide, q_mem (tb_5 (List.mem_of_getElem? (i := 160) rfl)) rfl, rfl, rfl⟩
theorem fl_X12_54 : q_FL RX12 54 12 21 true := ⟨_, _, _, cf_12, by decide, q_mem (tb_5 (List.mem_of_getElem? (i := 161) rfl)) rfl, rfl, rfl⟩
theorem fl_X12_57 : q_FL RX12 57 12 22 true := ⟨_, _, _, cf_12, by decide, q_mem (tb_5 (List.mem_of_getElem? (i := 162) rfl)) rfl, rfl, rfl⟩
theorem fl_X12_60 : q_FL RX12 60 12 23 true := ⟨_, _, _, cf_12, by decide, q_mem (tb_5 (List.mem_of_getElem? (i := 163) rfl)) rfl, rfl, rfl⟩
theorem fl_X12_63 : q_FL RX12 63 12 24 true := ⟨_, _, _, cf_12, by decide, q_mem (tb_5 (List.mem_of_getElem? (i := 164) rfl)) rfl, rfl, rfl⟩
theorem fl_X12_66 : q_FL RX12 66 12 25 true := ⟨_, _, _, cf_12, by decide, q_mem (tb_5 (List.mem_of_getElem? (i := 165) rfl)) rfl, rfl, rfl⟩
theorem fl_X12_69 : q_FL RX12 69 12 26 true := ⟨_, _, _, cf_12, by decide, q_mem (tb_5 (List.mem_of_getElem? (i := 166) rfl)) rfl, rfl, rfl⟩
theorem fl_X12_72 : q_FL RX12 72 12 27 true := ⟨_, _, _, cf_12, by decide, q_mem (tb_5 (List.mem_of_getElem? (i := 167) rfl)) rfl, rfl, rfl⟩
theorem fl_X12_75 : q_FL RX12 75 12 28 true := ⟨_, _, _, cf_12, by decide, q_mem (tb_5 (List.mem_of_getElem? (i := 168) rfl)) rfl, rfl, rfl⟩
theorem fl_X12_78 : q_FL RX12 78 12 29 true := ⟨_, _, _, cf_12, by decide, q_mem (tb_5 (List.mem_of_getElem? (i := 169) rfl)) rfl, rfl, rfl⟩
theorem fl_X12_81 : q_FL RX12 81 12 30 true := ⟨_, _, _, cf_12, by decide, q_mem (tb_5 (List.mem_of_getElem? (i := 170) rfl)) rfl, rfl, rfl⟩
theorem fl_X12_84 : q_FL RX12 84 12 31 true := ⟨_, _, _, cf_12, by decide, q_mem (tb_5 (List.mem_of_getElem? (i := 171) rfl)) rfl, rfl, rfl⟩
theorem fl_X12_87 : q_FL RX12 87 12 32 true := ⟨_, _, _, cf_12, by decide, q_mem (tb_5 (List.mem_of_getElem? (i := 172) rfl)) rfl, rfl, rfl⟩
theorem fl_X12_90 : q_FL RX12 90 12 33 true := ⟨_, _, _, cf_12, by decide, q_mem (tb_5 (List.mem_of_getElem? (i := 173) rfl)) rfl, rfl, rfl⟩
theorem fl_X12_93 : q_FL RX12 93 12 34 true := ⟨_, _, _, cf_12, by decide, q_mem (tb_5 (List.mem_of_getElem? (i := 174) rfl)) rfl, rfl, rfl⟩
theorem fl_X12_96 : q_FL RX12 96 12 36 true := ⟨_, _, _, cf_12, by decide, q_mem (tb_5 (List.mem_of_getElem? (i := 176) rfl)) rfl, rfl, rfl⟩
theorem fl_X12_99 : q_FL RX12 99 12 37 true := ⟨_, _, _, cf_12, by decide, q_mem (tb_5 (List.mem_of_getElem? (i := 177) rfl)) rfl, rfl, rfl⟩
theorem fl_X12_102 : q_FL RX12 102 12 38 true := ⟨_, _, _, cf_12, by decide, q_mem (tb_5 (List.mem_of_getElem? (i := 178) rfl)) rfl, rfl, rfl⟩
theorem fl_X12_106 : q_FL RX12 106 12 39 true := ⟨_, _, _, cf_12, by decide, q_mem (tb_5 (List.mem_of_getElem? (i := 179) rfl)) rfl, rfl, rfl⟩
theorem fl_X12_109 : q_FL RX12 109 12 40 true := ⟨_, _, _, cf_12, by decide, q_mem (tb_5 (List.mem_of_getElem? (i := 180) rfl)) rfl, rfl, rfl⟩
theorem fl_X12_112 : q_FL RX12 112 12 41 true := ⟨_, _, _, cf_12, by decide, q_mem (tb_5 (List.mem_of_getElem? (i := 181) rfl)) rfl, rfl, rfl⟩
theorem fl_X12_115 : q_FL RX12 115 12 42 true := ⟨_, _, _, cf_12, by decide, q_mem (tb_5 (List.mem_of_getElem? (i := 182) rfl)) rfl, rfl, rfl⟩
theorem fl_X12_118 : q_FL RX12 118 12 43 true := ⟨_, _, _, cf_12, by decide, q_mem (tb_5 (List.mem_of_getElem? (i := 183) rfl)) rfl, rfl, rfl⟩
theorem fl_X12_121 : q_FL RX12 121 12 44 true := ⟨_, _, _, cf_12, by decide, q_mem (tb_5 (List.mem_of_getElem? (i := 184) rfl)) rfl, rfl, rfl⟩
theorem fl_X12_124 : q_FL RX12 124 12 49 true := ⟨_, _, _, cf_12, by decide, q_mem (tb_5 (List.mem_of_getElem? (i := 189) rfl)) rfl, rfl, rfl⟩
theorem fl_X12_127 : q_FL RX12 127 12 54 true := ⟨_, _, _, cf_12, by decide, q_mem (tb_5 (List.mem_of_getElem? (i := 194) rfl)) rfl, rfl, rfl⟩
theorem fl_X12_130 : q_FL RX12 130 12 55 true := ⟨_, _, _, cf_12, by decide, q_mem (tb_5 (List.mem_of_getElem? (i := 195) rfl)) rfl, rfl, rfl⟩
theorem fl_X12_134 : q_FL RX12 134 12 56 true := ⟨_, _, _, cf_12, by decide, q_mem (tb_5 (List.mem_of_getElem? (i := 196) rfl)) rfl, rfl, rfl⟩
theorem fl_X12_137 : q_FL RX12 137 12 57 true := ⟨_, _, _, cf_12, by decide, q_mem (tb_5 (List.mem_of_getElem? (i := 197) rfl)) rfl, rfl, rfl⟩
theorem fl_X12_140 : q_FL RX12 140 12 58 true := ⟨_, _, _, cf_12, by decide, q_mem (tb_5 (List.mem_of_getElem? (i := 198) rfl)) rfl, rfl, rfl⟩
theorem fl_X12_143 : q_FL RX12 143 12 61 true := ⟨_, _, _, cf_12, by decide, q_mem (tb_5 (List.mem_of_getElem? (i := 201) rfl)) rfl, rfl, rfl⟩
theorem fl_X12_146 : q_FL RX12 146 12 63 true := ⟨_, _, _, cf_12, by decide, q_mem (tb_5 (List.mem_of_getElem? (i := 203) rfl)) rfl, rfl, rfl⟩
theorem fl_X12_149 : q_FL RX12 149 12 64 true := ⟨_, _, _, cf_12, by decide, q_mem (tb_5 (List.mem_of_getElem? (i := 204) rfl)) rfl, rfl, rfl⟩
theorem fl_X12_152 : q_FL RX12 152 12 67 false := ⟨_, _, _, cf_12, by decide, q_mem (tb_5 (List.mem_of_getElem? (i := 207) rfl)) rfl, rfl, rfl⟩
theorem fl_X12_156 : q_FL RX12 156 12 68 true := ⟨_, _, _, cf_12, by decide, q_mem (tb_5 (List.mem_of_getElem? (i := 208) rfl)) rfl, rfl, rfl⟩
theorem fl_X12_159 : q_FL RX12 159 12 69 true := ⟨_, _, _, cf_12, by decide, q_mem (tb_5 (List.mem_of_getElem? (i := 209) rfl)) rfl, rfl, rfl⟩
theorem fl_X12_162 : q_FL RX12 162 12 70 true := ⟨_, _, _, cf_12, by decide, q_mem (tb_5 (List.mem_of_getElem? (i := 210) rfl)) rfl, rfl, rfl⟩
theorem fl_X12_165 : q_FL RX12 165 12 71 true := ⟨_, _, _, cf_12, by decide, q_mem (tb_5 (List.mem_of_getElem? (i := 211) rfl)) rfl, rfl, rfl⟩
theorem fl_X12_168 : q_FL RX12 168 12 72 true := ⟨_, _, _, cf_12, by decide, q_mem (tb_5 (List.mem_of_getElem? (i := 212) rfl)) rfl, rfl, rfl⟩
theorem fl_X12_171 : q_FL RX12 171 12 73 true := ⟨_, _, _, cf_12, by decide, q_mem (tb_5 (List.mem_of_getElem? (i := 213) rfl)) rfl, rfl, rfl⟩
theorem fl_X12_174 : q_FL RX12 174 12 74 true := ⟨_, _, _, cf_12, by decide, q_mem (tb_5 (List.mem_of_getElem? (i := 214) rfl)) rfl, rfl, rfl⟩
theorem fl_X12_177 : q_FL RX12 177 12 75 true := ⟨_, _, _, cf_12, by decide, q_mem (tb_5 (List.mem_of_getElem? (i := 215) rfl)) rfl, rfl, rfl⟩
theorem fl_X12_180 : q_FL RX12 180 12 76 true := ⟨_, _, _, cf_12, by decide, q_mem (tb_5 (List.mem_of_getElem? (i := 216) rfl)) rfl, rfl, rfl⟩
theorem fl_X12_183 : q_FL RX12 183 12 77 true := ⟨_, _, _, cf_12, by decide, q_mem (tb_5 (List.mem_of_getElem? (i := 217) rfl)) rfl, rfl, rfl⟩
theorem fl_X12_186 : q_FL RX12 186 12 78 true := ⟨_, _, _, cf_12, by decide, q_mem (tb_5 (List.mem_of_getElem? (i := 218) rfl)) rfl, rfl, rfl⟩
theorem fl_X12_189 : q_FL RX12 189 12 79 true := ⟨_, _, _, cf_12, by decide, q_mem (tb_5 (List.mem_of_getElem? (i := 219) rfl)) rfl, rfl, rfl⟩
theorem fl_X12_192 : q_FL RX12 192 12 80 true := ⟨_, _, _, cf_12, by decide, q_mem (tb_5 (List.mem_of_getElem? (i := 220) rfl)) rfl, rfl, rfl⟩
theorem fl_X12_195 : q_FL RX12 195 12 81 true := ⟨_, _, _, cf_12, by decide, q_mem (tb_5 (List.mem_of_getElem? (i := 221) rfl)) rfl, rfl, rfl⟩
theorem fl_X12_198 : q_FL RX12 198 12 82 true := ⟨_, _, _, cf_12, by decide, q_mem (tb_5 (List.mem_of_getElem? (i := 222) rfl)) rfl, rfl, rfl⟩
theorem fl_X12_201 : q_FL RX12 201 12 83 true := ⟨_, _, _, cf_12, by decide, q_mem (tb_5 (List.mem_of_getElem? (i := 223) rfl)) rfl, rfl, rfl⟩
theorem fl_X12_204 : q_FL RX12 204 12 84 true := ⟨_, _, _, cf_12, by decide, q_mem (tb_5 (List.mem_of_getElem? (i := 224) rfl)) rfl, rfl, rfl⟩
theorem fl_X12_207 : q_FL RX12 207 12 85 true := ⟨_, _, _, cf_12, by decide, q_mem (tb_5 (List.mem_of_getElem? (i := 225) rfl)) rfl, rfl, rfl⟩
theorem fl_X12_210 : q_FL RX12 210 12 86 true := ⟨_, _, _, cf_12, by decide, q_mem (tb_5 (List.mem_of_getElem? (i := 226) rfl)) rfl, rfl, rfl⟩
theorem fl_X12_213 : q_FL RX12 213 12 87 true := ⟨_, _, _, cf_12, by decide, q_mem (tb_5 (List.mem_of_getElem? (i := 227) rfl)) rfl, rfl, rfl⟩
theorem fl_X12_216 : q_FL RX12 216 12 88 true := ⟨_, _, _, cf_12, by decide, q_mem (tb_5 (List.mem_of_getElem? (i := 228) rfl)) rfl, rfl, rfl⟩
theorem fl_X12_219 : q_FL RX12 219 12 89 true := ⟨_, _, _, cf_12, by decide, q_mem (tb_5 (List.mem_of_getElem? (i := 229) rfl)) rfl, rfl, rfl⟩
theorem fl_X12_222 : q_FL RX12 222 12 90 true := ⟨_, _, _, cf_12, by decide, q_mem (tb_5 (List.mem_of_getElem? (i := 230) rfl)) rfl, rfl, rfl⟩
theorem fl_X12_225 : q_FL RX12 225 12 92 true := ⟨_, _, _, cf_12, by decide, q_mem (tb_5 (List.mem_of_getElem? (i := 232) rfl)) rfl, rfl, rfl⟩
theorem fl_X12_228 : q_FL RX12 228 12 96 true := ⟨_, _, _, cf_12, by decide, q_mem (tb_5 (List.mem_of_getElem? (i := 236) rfl)) rfl, rfl, rfl⟩
theorem fl_X12_231 : q_FL RX12 231 12 100 true := ⟨_, _, _, cf_12, by decide, q_mem (tb_6 (List.mem_of_getElem? (i := 0) rfl)) rfl, rfl, rfl⟩
theorem fl_X12_234 : q_FL RX12 234 12 1 false := ⟨_, _, _, cf_12, by decide, q_mem (tb_5 (List.mem_of_getElem? (i := 141) rfl)) rfl, rfl, rfl⟩
theorem fl_X12_237 : q_FL RX12 237 12 5 false := ⟨_, _, _, cf_12, by decide, q_mem (tb_5 (List.mem_of_getElem? (i := 145) rfl)) rfl, rfl, rfl⟩
theorem fl_X12_240 : q_FL RX12 240 12 6 false := ⟨_, _, _, cf_12, by decide, q_mem (tb_5 (List.mem_of_getElem? (i := 146) rfl)) rfl, rfl, rfl⟩
theorem fl_X12_243 : q_FL RX12 243 12 2 false := ⟨_, _, _, cf_12, by decide, q_mem (tb_5 (List.mem_of_getElem? (i := 142) rfl)) rfl, rfl, rfl⟩
theorem fl_X12_246 : q_FL RX12 246 12 3 false := ⟨_, _, _, cf_12, by decide, q_mem (tb_5 (List.mem_of_getElem? (i := 143) rfl)) rfl, rfl, rfl⟩
theorem fl_X12_257 : q_FL RX12 257 12 4 false := ⟨_, _, _, cf_12, by decide, q_mem (tb_5 (List.mem_of_getElem? (i := 144) rfl)) rfl, rfl, rfl⟩
theorem fl_X12_285 : q_FL RX12 285 12 35 false := ⟨_, _, _, cf_12, by decide, q_mem (tb_5 (List.mem_of_getElem? (i := 175) rfl)) rfl, rfl, rfl⟩
theorem fl_X12_292 : q_FL RX12 292 12 48 false := ⟨_, _, _, cf_12, by decide, q_mem (tb_5 (List.mem_of_getElem? (i := 188) rfl)) rfl, rfl, rfl⟩
theorem fl_X12_318 : q_FL RX12 318 12 91 false := ⟨_, _, _, cf_12, by decide, q_mem (tb_5 (List.mem_of_getElem? (i := 231) rfl)) rfl, rfl, rfl⟩
theorem fl_X12_321 : q_FL RX12 321 12 93 false := ⟨_, _, _, cf_12, by decide, q_mem (tb_5 (List.mem_of_getElem? (i := 233) rfl)) rfl, rfl, rfl⟩
theorem fl_X12_324 : q_FL RX12 324 12 94 false := ⟨_, _, _, cf_12, by decide, q_mem (tb_5 (List.mem_of_getElem? (i := 234) rfl)) rfl, rfl, rfl⟩
theorem fl_X12_327 : q_FL RX12 327 12 95 false := ⟨_, _, _, cf_12, by decide, q_mem (tb_5 (List.mem_of_getElem? (i := 235) rfl)) rfl, rfl, rfl⟩
theorem fl_X12_336 : q_FL RX12 336 12 45 false := ⟨_, _, _, cf_12, by decide, q_mem (tb_5 (List.mem_of_getElem? (i := 185) rfl)) rfl, rfl, rfl⟩
theorem fl_X12_339 : q_FL RX12 339 12 46 false := ⟨_, _, _, cf_12, by decide, q_mem (tb_5 (List.mem_of_getElem? (i := 186) rfl)) rfl, rfl, rfl⟩
theorem fl_X12_360 : q_FL RX12 360 12 7 false := ⟨_, _, _, cf_12, by decide, q_mem (tb_5 (List.mem_of_getElem? (i := 147) rfl)) rfl, rfl, rfl⟩
theorem fl_X12_366 : q_FL RX12 366 12 47 false := ⟨_, _, _, cf_12, by decide, q_mem (tb_5 (List.mem_of_getElem? (i := 187) rfl)) rfl, rfl, rfl⟩
theorem fl_X12_370 : q_FL RX12 370 12 65 false := ⟨_, _, _, cf_12, by decide, q_mem (tb_5 (List.mem_of_getElem? (i := 205) rfl)) rfl, rfl, rfl⟩
theorem fl_X12_373 : q_FL RX12 373 12 62 false := ⟨_, _, _, cf_12, by decide, q_mem (tb_5 (List.mem_of_getElem? (i := 202) rfl)) rfl, rfl, rfl⟩
theorem fl_X12_385 : q_FL RX12 385 12 97 false := ⟨_, _, _, cf_12, by decide, q_mem (tb_5 (List.mem_of_getElem? (i := 237) rfl)) rfl, rfl, rfl⟩
theorem fl_X12_402 : q_FL RX12 402 12 50 false := ⟨_, _, _, cf_12, by decide, q_mem (tb_5 (List.mem_of_getElem? (i := 190) rfl)) rfl, rfl, rfl⟩
theorem fl_X12_405 : q_FL RX12 405 12 51 false := ⟨_, _, _, cf_12, by decide, q_mem (tb_5 (List.mem_of_getElem? (i := 191) rfl)) rfl, rfl, rfl⟩
theorem fl_X12_424 : q_FL RX12 424 12 52 false := ⟨_, _, _, cf_12, by decide, q_mem (tb_5 (List.mem_of_getElem? (i := 192) rfl)) rfl, rfl, rfl⟩
theorem fl_X12_427 : q_FL RX12 427 12 53 false := ⟨_, _, _, cf_12, by decide, q_mem (tb_5 (List.mem_of_getElem? (i := 193) rfl)) rfl, rfl, rfl⟩
theorem fl_X12_458 : q_FL RX12 458 12 59 false := ⟨_, _, _, cf_12, by decide, q_mem (tb_5 (List.mem_of_getElem? (i := 199) rfl)) rfl, rfl, rfl⟩
theorem fl_X12_464 : q_FL RX12 464 12 60 false := ⟨_, _, _, cf_12, by decide, q_mem (tb_5 (List.mem_of_getElem? (i := 200) rfl)) rfl, rfl, rfl⟩
theorem fl_X12_497 : q_FL RX12 497 12 66 false := ⟨_, _, _, cf_12, by decide, q_mem (tb_5 (List.mem_of_getElem? (i := 206) rfl)) rfl, rfl, rfl⟩
theorem fl_X12_595 : q_FL RX12 595 12 98 false := ⟨_, _, _, cf_12, by decide, q_mem (tb_5 (List.mem_of_getElem? (i := 238) rfl)) rfl, rfl, rfl⟩
theorem fl_X12_598 : q_FL RX12 598 12 99 false := ⟨_, _, _, cf_12, by decide, q_mem (tb_5 (List.mem_of_getElem? (i := 239) rfl)) rfl, rfl, rfl⟩
theorem fl_X12_617 : q_FL RX12 617 12 101 false := ⟨_, _, _, cf_12, by decide, q_mem (tb_6 (List.mem_of_getElem? (i := 1) rfl)) rfl, rfl, rfl⟩
theorem ml_X11_11 : Cond.methodLink RX11 11 yX10_init ∈ q_gT := q_mem (tb_1 (List.mem_of_getElem? (i := 32) rfl)) rfl
theorem ml_X11_23 : Cond.methodLink RX11 23 yX8_init ∈ q_gT := q_mem (tb_1 (List.mem_of_getElem? (i := 53) rfl)) rfl
theorem mn_X11_32 : Cond.methodLinkNest RX11 32 yX0_init "ShadowCoins" ∈ q_nest := q_memN (tb_1 (List.mem_of_getElem? (i := 93) rfl)) rfl
theorem ml_X11_39 : Cond.methodLink RX11 39 yX4_init ∈ q_gT := q_mem (tb_1 (List.mem_of_getElem? (i := 112) rfl)) rfl
theorem ml_X11_48 : Cond.methodLink RX11 48 yX3_init ∈ q_gT := q_mem (tb_1 (List.mem_of_getElem? (i := 131) rfl)) rfl
theorem mn_X11_57 : Cond.methodLinkNest RX11 57 yX1_init "ShadowCoins" ∈ q_nest := q_memN (tb_1 (List.mem_of_getElem? (i := 144) rfl)) rfl
theorem mn_X11_64 : Cond.methodLinkNest RX11 64 yX9_init "ShadowCoins" ∈ q_nest := q_memN (tb_1 (List.mem_of_getElem? (i := 206) rfl)) rfl
theorem mn_X11_71 : Cond.methodLinkNest RX11 71 yX6_init "ShadowCoins" ∈ q_nest := q_memN (tb_1 (List.mem_of_getElem? (i := 226) rfl)) rfl
theorem mn_X11_78 : Cond.methodLinkNest RX11 78 yX7_init "ShadowCoins" ∈ q_nest := q_memN (tb_2 (List.mem_of_getElem? (i := 24) rfl)) rfl
theorem mn_X11_89 : Cond.methodLinkNest RX11 89 yX2_init "ShadowCoins" ∈ q_nest := q_memN (tb_2 (List.mem_of_getElem? (i := 84) rfl)) rfl
theorem ml_X11_99 : Cond.methodLink RX11 99 yX5_init ∈ q_gT := q_mem (tb_2 (List.mem_of_getElem? (i := 195) rfl)) rfl
theorem ml_X11_116 : Cond.methodLink RX11 116 yX11_refuse ∈ q_gT := q_mem (tb_3 (List.mem_of_getElem? (i := 27) rfl)) rfl
theorem ml_X11_120 : Cond.methodLink RX11 120 yX10_putFour ∈ q_gT := q_mem (tb_3 (List.mem_of_getElem? (i := 31) rfl)) rfl
theorem ml_X11_123 : Cond.methodLink RX11 123 yX3_read ∈ q_gT := q_mem (tb_3 (List.mem_of_getElem? (i := 51) rfl)) rfl
theorem ml_X11_127 : Cond.methodLink RX11 127 yX11_noteFault ∈ q_gT := q_mem (tb_4 (List.mem_of_getElem? (i := 5) rfl)) rfl
theorem ml_X11_130 : Cond.methodLink RX11 130 yX1_begin ∈ q_gT := q_mem (tb_4 (List.mem_of_getElem? (i := 9) rfl)) rfl
theorem ml_X11_136 : Cond.methodLink RX11 136 yX5_begin ∈ q_gT := q_mem (tb_4 (List.mem_of_getElem? (i := 17) rfl)) rfl
theorem ml_X11_138 : Cond.methodLink RX11 138 yX5_markClouds ∈ q_gT := q_mem (tb_4 (List.mem_of_getElem? (i := 24) rfl)) rfl
theorem ml_X11_164 : Cond.methodLink RX11 164 yJ6_bitCount_0f7a4 ∈ q_gT := q_mem (tb_4 (List.mem_of_getElem? (i := 37) rfl)) rfl
theorem ml_X11_169 : Cond.methodLink RX11 169 yX5_isCloudy ∈ q_gT := q_mem (tb_4 (List.mem_of_getElem? (i := 43) rfl)) rfl
theorem ml_X11_179 : Cond.methodLink RX11 179 yX11_isStall ∈ q_gT := q_mem (tb_4 (List.mem_of_getElem? (i := 51) rfl)) rfl
theorem ml_X11_185 : Cond.methodLink RX11 185 yX11_letterOf ∈ q_gT := q_mem (tb_4 (List.mem_of_getElem? (i := 55) rfl)) rfl
theorem ml_X11_189 : Cond.methodLink RX11 189 yX11_isCoin ∈ q_gT := q_mem (tb_4 (List.mem_of_getElem? (i := 58) rfl)) rfl
theorem ml_X11_206 : Cond.methodLink RX11 206 yX1_hasBought ∈ q_gT := q_mem (tb_4 (List.mem_of_getElem? (i := 66) rfl)) rfl
theorem ml_X11_215 : Cond.methodLink RX11 215 yX11_isMinute ∈ q_gT := q_mem (tb_4 (List.mem_of_getElem? (i := 78) rfl)) rfl
theorem ml_X11_218 : Cond.methodLink RX11 218 yX5_lengthAt ∈ q_gT := q_mem (tb_4 (List.mem_of_getElem? (i := 82) rfl)) rfl
theorem ml_X11_222 : Cond.methodLink RX11 222 yX5_paysAt ∈ q_gT := q_mem (tb_4 (List.mem_of_getElem? (i := 135) rfl)) rfl
theorem ml_X11_235 : Cond.methodLink RX11 235 yX11_firstPaying ∈ q_gT := q_mem (tb_4 (List.mem_of_getElem? (i := 147) rfl)) rfl
theorem ml_X11_238 : Cond.methodLink RX11 238 yX11_lastPaying ∈ q_gT := q_mem (tb_4 (List.mem_of_getElem? (i := 151) rfl)) rfl
theorem ml_X11_241 : Cond.methodLink RX11 241 yX6_plan ∈ q_gT := q_mem (tb_4 (List.mem_of_getElem? (i := 159) rfl)) rfl
theorem ml_X11_254 : Cond.methodLink RX11 254 yX6_fewestLeftOut ∈ q_gT := q_mem (tb_4 (List.mem_of_getElem? (i := 180) rfl)) rfl
theorem ml_X11_258 : Cond.methodLink RX11 258 yX11_payingStalls ∈ q_gT := q_mem (tb_4 (List.mem_of_getElem? (i := 189) rfl)) rfl
theorem ml_X11_261 : Cond.methodLink RX11 261 yX11_lengthTogether ∈ q_gT := q_mem (tb_4 (List.mem_of_getElem? (i := 205) rfl)) rfl
theorem ml_X11_267 : Cond.methodLink RX11 267 yX9_isSuch ∈ q_gT := q_mem (tb_4 (List.mem_of_getElem? (i := 221) rfl)) rfl
theorem ml_X11_271 : Cond.methodLink RX11 271 yX9_take ∈ q_gT := q_mem (tb_4 (List.mem_of_getElem? (i := 226) rfl)) rfl
theorem ml_X11_274 : Cond.methodLink RX11 274 yX9_wrongRows ∈ q_gT := q_mem (tb_5 (List.mem_of_getElem? (i := 0) rfl)) rfl
theorem ml_X11_278 : Cond.methodLink RX11 278 yJ9_abs_0f7a4 ∈ q_gT := q_mem (tb_5 (List.mem_of_getElem? (i := 13) rfl)) rfl
theorem ml_X11_283 : Cond.methodLink RX11 283 yX1_remember ∈ q_gT := q_mem (tb_5 (List.mem_of_getElem? (i := 14) rfl)) rfl
theorem ml_X11_286 : Cond.methodLink RX11 286 yX11_canWait ∈ q_gT := q_mem (tb_5 (List.mem_of_getElem? (i := 23) rfl)) rfl
theorem ml_X11_289 : Cond.methodLink RX11 289 yX11_canBuy ∈ q_gT := q_mem (tb_5 (List.mem_of_getElem? (i := 31) rfl)) rfl
theorem ml_X11_293 : Cond.methodLink RX11 293 yX1_keep ∈ q_gT := q_mem (tb_5 (List.mem_of_getElem? (i := 35) rfl)) rfl
theorem ml_X11_297 : Cond.methodLink RX11 297 yX1_waitByChance ∈ q_gT := q_mem (tb_5 (List.mem_of_getElem? (i := 43) rfl)) rfl
theorem ml_X11_300 : Cond.methodLink RX11 300 yX1_takeBack ∈ q_gT := q_mem (tb_5 (List.mem_of_getElem? (i := 56) rfl)) rfl
theorem ml_X11_309 : Cond.methodLink RX11 309 yX11_readQuestion ∈ q_gT := q_mem (tb_5 (List.mem_of_getElem? (i := 69) rfl)) rfl
theorem ml_X11_312 : Cond.methodLink RX11 312 yX11_answerTest ∈ q_gT := q_mem (tb_5 (List.mem_of_getElem? (i := 79) rfl)) rfl
theorem ml_X11_316 : Cond.methodLink RX11 316 yX11_answerSum ∈ q_gT := q_mem (tb_5 (List.mem_of_getElem? (i := 88) rfl)) rfl
theorem ml_X11_319 : Cond.methodLink RX11 319 yX1_write ∈ q_gT := q_mem (tb_5 (List.mem_of_getElem? (i := 96) rfl)) rfl
theorem ml_X11_322 : Cond.methodLink RX11 322 yX10_at ∈ q_gT := q_mem (tb_5 (List.mem_of_getElem? (i := 110) rfl)) rfl
theorem ml_X11_325 : Cond.methodLink RX11 325 yX11_isImage ∈ q_gT := q_mem (tb_5 (List.mem_of_getElem? (i := 115) rfl)) rfl
theorem ml_X11_329 : Cond.methodLink RX11 329 yX1_read ∈ q_gT := q_mem (tb_5 (List.mem_of_getElem? (i := 124) rfl)) rfl
theorem ml_X11_335 : Cond.methodLink RX11 335 yX1_imageLength ∈ q_gT := q_mem (tb_5 (List.mem_of_getElem? (i := 119) rfl)) rfl
theorem ml_X11_338 : Cond.methodLink RX11 338 yX10_check ∈ q_gT := q_mem (tb_5 (List.mem_of_getElem? (i := 122) rfl)) rfl
theorem ml_X11_341 : Cond.methodLink RX11 341 yX10_twoAt ∈ q_gT := q_mem (tb_5 (List.mem_of_getElem? (i := 123) rfl)) rfl
theorem ml_X11_344 : Cond.methodLink RX11 344 yX8_begin ∈ q_gT := q_mem (tb_5 (List.mem_of_getElem? (i := 73) rfl)) rfl
theorem ml_X11_354 : Cond.methodLink RX11 354 yX8_fail ∈ q_gT := q_mem (tb_5 (List.mem_of_getElem? (i := 74) rfl)) rfl
theorem ml_X11_357 : Cond.methodLink RX11 357 yX8_step ∈ q_gT := q_mem (tb_5 (List.mem_of_getElem? (i := 75) rfl)) rfl
theorem ml_X11_360 : Cond.methodLink RX11 360 yX4_begin ∈ q_gT := q_mem (tb_5 (List.mem_of_getElem? (i := 76) rfl)) rfl
theorem mn_X11_363 : Cond.methodLinkNest RX11 363 yX4_test "ShadowCoins" ∈ q_nest := q_memN (tb_5 (List.mem_of_getElem? (i := 77) rfl)) rfl
theorem mn_X11_366 : Cond.methodLinkNest RX11 366 yX4_sum "ShadowCoins" ∈ q_nest := q_memN (tb_5 (List.mem_of_getElem? (i := 78) rfl)) rfl
theorem ml_X11_369 : Cond.methodLink RX11 369 yX11_lookAt ∈ q_gT := q_mem (tb_5 (List.mem_of_getElem? (i := 83) rfl)) rfl
theorem ml_X11_372 : Cond.methodLink RX11 372 yX7_run ∈ q_gT := q_mem (tb_5 (List.mem_of_getElem? (i := 87) rfl)) rfl
theorem ml_X0_19 : Cond.methodLink RX0 19 yX0_put ∈ q_gT := q_mem (tb_3 (List.mem_of_getElem? (i := 226) rfl)) rfl
theorem ml_X1_55 : Cond.methodLink RX1 55 yX1_forget ∈ q_gT := q_mem (tb_4 (List.mem_of_getElem? (i := 13) rfl)) rfl
theorem ml_X1_58 : Cond.methodLink RX1 58 yJ9_min_7cf53 ∈ q_gT := q_mem (tb_5 (List.mem_of_getElem? (i := 18) rfl)) rfl
theorem ml_X1_85 : Cond.methodLink RX1 85 yX10_putTwo ∈ q_gT := q_mem (tb_5 (List.mem_of_getElem? (i := 100) rfl)) rfl
theorem ml_X1_89 : Cond.methodLink RX1 89 yX10_put ∈ q_gT := q_mem (tb_5 (List.mem_of_getElem? (i := 101) rfl)) rfl
theorem ml_X1_92 : Cond.methodLink RX1 92 yX10_check ∈ q_gT := q_mem (tb_5 (List.mem_of_getElem? (i := 102) rfl)) rfl
theorem ml_X1_96 : Cond.methodLink RX1 96 yX10_twoAt ∈ q_gT := q_mem (tb_5 (List.mem_of_getElem? (i := 128) rfl)) rfl
theorem ml_X1_99 : Cond.methodLink RX1 99 yX10_at ∈ q_gT := q_mem (tb_5 (List.mem_of_getElem? (i := 129) rfl)) rfl
theorem mn_X2_57 : Cond.methodLinkNest RX2 57 yX0_init "ShadowCoins" ∈ q_nest := q_memN (tb_2 (List.mem_of_getElem? (i := 89) rfl)) rfl
theorem ml_X3_19 : Cond.methodLink RX3 19 yX2_clear ∈ q_gT := q_mem (tb_3 (List.mem_of_getElem? (i := 55) rfl)) rfl
theorem ml_X3_24 : Cond.methodLink RX3 24 yX8_begin ∈ q_gT := q_mem (tb_3 (List.mem_of_getElem? (i := 59) rfl)) rfl
theorem ml_X3_36 : Cond.methodLink RX3 36 yX3_readStatement ∈ q_gT := q_mem (tb_3 (List.mem_of_getElem? (i := 129) rfl)) rfl
theorem ml_X3_40 : Cond.methodLink RX3 40 yX8_takeSign ∈ q_gT := q_mem (tb_4 (List.mem_of_getElem? (i := 4) rfl)) rfl
theorem ml_X3_47 : Cond.methodLink RX3 47 yX8_fail ∈ q_gT := q_mem (tb_3 (List.mem_of_getElem? (i := 137) rfl)) rfl
theorem ml_X3_51 : Cond.methodLink RX3 51 yX8_isWord ∈ q_gT := q_mem (tb_3 (List.mem_of_getElem? (i := 133) rfl)) rfl
theorem ml_X3_58 : Cond.methodLink RX3 58 yX8_step ∈ q_gT := q_mem (tb_3 (List.mem_of_getElem? (i := 141) rfl)) rfl
theorem ml_X3_61 : Cond.methodLink RX3 61 yX8_takeNumber ∈ q_gT := q_mem (tb_3 (List.mem_of_getElem? (i := 142) rfl)) rfl
theorem ml_X3_68 : Cond.methodLink RX3 68 yX3_readStall ∈ q_gT := q_mem (tb_3 (List.mem_of_getElem? (i := 147) rfl)) rfl
theorem ml_X3_72 : Cond.methodLink RX3 72 yX3_readCoin ∈ q_gT := q_mem (tb_3 (List.mem_of_getElem? (i := 168) rfl)) rfl
theorem ml_X3_75 : Cond.methodLink RX3 75 yX3_readCloud ∈ q_gT := q_mem (tb_3 (List.mem_of_getElem? (i := 172) rfl)) rfl
theorem ml_X3_87 : Cond.methodLink RX3 87 yX3_hasRoom ∈ q_gT := q_mem (tb_3 (List.mem_of_getElem? (i := 151) rfl)) rfl
theorem ml_X3_93 : Cond.methodLink RX3 93 yX4_begin ∈ q_gT := q_mem (tb_3 (List.mem_of_getElem? (i := 176) rfl)) rfl
theorem mn_X3_96 : Cond.methodLinkNest RX3 96 yX4_sum "ShadowCoins" ∈ q_nest := q_memN (tb_3 (List.mem_of_getElem? (i := 180) rfl)) rfl
theorem mn_X3_102 : Cond.methodLinkNest RX3 102 yX4_test "ShadowCoins" ∈ q_nest := q_memN (tb_3 (List.mem_of_getElem? (i := 231) rfl)) rfl
theorem ml_X3_118 : Cond.methodLink RX3 118 yX8_takeName ∈ q_gT := q_mem (tb_3 (List.mem_of_getElem? (i := 155) rfl)) rfl
theorem ml_X3_122 : Cond.methodLink RX3 122 yX8_takeWord ∈ q_gT := q_mem (tb_3 (List.mem_of_getElem? (i := 163) rfl)) rfl
theorem ml_X4_31 : Cond.methodLink RX4 31 yX4_both ∈ q_gT := q_mem (tb_3 (List.mem_of_getElem? (i := 235) rfl)) rfl
theorem ml_X4_34 : Cond.methodLink RX4 34 yX8_isWord ∈ q_gT := q_mem (tb_3 (List.mem_of_getElem? (i := 217) rfl)) rfl
theorem ml_X4_40 : Cond.methodLink RX4 40 yX8_step ∈ q_gT := q_mem (tb_3 (List.mem_of_getElem? (i := 206) rfl)) rfl
theorem ml_X4_43 : Cond.methodLink RX4 43 yX0_putOperation ∈ q_gT := q_mem (tb_3 (List.mem_of_getElem? (i := 222) rfl)) rfl
theorem ml_X4_47 : Cond.methodLink RX4 47 yX4_fact ∈ q_gT := q_mem (tb_3 (List.mem_of_getElem? (i := 239) rfl)) rfl
theorem ml_X4_50 : Cond.methodLink RX4 50 yX4_enter ∈ q_gT := q_mem (tb_3 (List.mem_of_getElem? (i := 201) rfl)) rfl
theorem ml_X4_53 : Cond.methodLink RX4 53 yX4_leave ∈ q_gT := q_mem (tb_3 (List.mem_of_getElem? (i := 213) rfl)) rfl
theorem ml_X4_56 : Cond.methodLink RX4 56 yX8_isSign ∈ q_gT := q_mem (tb_3 (List.mem_of_getElem? (i := 197) rfl)) rfl
theorem ml_X4_59 : Cond.methodLink RX4 59 yX4_test ∈ q_gT := q_mem (tb_4 (List.mem_of_getElem? (i := 3) rfl)) rfl
theorem ml_X4_62 : Cond.methodLink RX4 62 yX8_takeSign ∈ q_gT := q_mem (tb_3 (List.mem_of_getElem? (i := 208) rfl)) rfl
theorem ml_X4_65 : Cond.methodLink RX4 65 yX4_sum ∈ q_gT := q_mem (tb_3 (List.mem_of_getElem? (i := 207) rfl)) rfl
theorem ml_X4_74 : Cond.methodLink RX4 74 yX8_fail ∈ q_gT := q_mem (tb_3 (List.mem_of_getElem? (i := 205) rfl)) rfl
theorem ml_X4_78 : Cond.methodLink RX4 78 yX4_product ∈ q_gT := q_mem (tb_3 (List.mem_of_getElem? (i := 184) rfl)) rfl
theorem ml_X4_81 : Cond.methodLink RX4 81 yX4_part ∈ q_gT := q_mem (tb_3 (List.mem_of_getElem? (i := 188) rfl)) rfl
theorem ml_X4_87 : Cond.methodLink RX4 87 yX8_takeNumber ∈ q_gT := q_mem (tb_3 (List.mem_of_getElem? (i := 192) rfl)) rfl
theorem ml_X4_91 : Cond.methodLink RX4 91 yX0_put ∈ q_gT := q_mem (tb_3 (List.mem_of_getElem? (i := 193) rfl)) rfl
theorem ml_X4_94 : Cond.methodLink RX4 94 yX4_twoSums ∈ q_gT := q_mem (tb_3 (List.mem_of_getElem? (i := 218) rfl)) rfl
theorem ml_X4_97 : Cond.methodLink RX4 97 yX4_isValue ∈ q_gT := q_mem (tb_3 (List.mem_of_getElem? (i := 227) rfl)) rfl
theorem mn_X5_20 : Cond.methodLinkNest RX5 20 yX7_init "ShadowCoins" ∈ q_nest := q_memN (tb_2 (List.mem_of_getElem? (i := 200) rfl)) rfl
theorem ml_X5_29 : Cond.methodLink RX5 29 yJ7_fill_53178 ∈ q_gT := q_mem (tb_4 (List.mem_of_getElem? (i := 21) rfl)) rfl
theorem ml_X5_53 : Cond.methodLink RX5 53 yX5_isCloudy ∈ q_gT := q_mem (tb_4 (List.mem_of_getElem? (i := 86) rfl)) rfl
theorem ml_X5_57 : Cond.methodLink RX5 57 yX5_cellAt ∈ q_gT := q_mem (tb_4 (List.mem_of_getElem? (i := 87) rfl)) rfl
theorem ml_X5_96 : Cond.methodLink RX5 96 yX7_run ∈ q_gT := q_mem (tb_4 (List.mem_of_getElem? (i := 91) rfl)) rfl
theorem ml_X5_100 : Cond.methodLink RX5 100 yJ9_min_7cf53 ∈ q_gT := q_mem (tb_4 (List.mem_of_getElem? (i := 127) rfl)) rfl
theorem ml_X5_106 : Cond.methodLink RX5 106 yJ9_max_7cf53 ∈ q_gT := q_mem (tb_4 (List.mem_of_getElem? (i := 130) rfl)) rfl
theorem ml_X6_48 : Cond.methodLink RX6 48 yJ7_fill_53178 ∈ q_gT := q_mem (tb_4 (List.mem_of_getElem? (i := 163) rfl)) rfl
theorem ml_X6_54 : Cond.methodLink RX6 54 yX1_hasBought ∈ q_gT := q_mem (tb_4 (List.mem_of_getElem? (i := 164) rfl)) rfl
theorem ml_X6_66 : Cond.methodLink RX6 66 yX5_paysAt ∈ q_gT := q_mem (tb_4 (List.mem_of_getElem? (i := 165) rfl)) rfl
theorem ml_X6_74 : Cond.methodLink RX6 74 yX6_visit ∈ q_gT := q_mem (tb_4 (List.mem_of_getElem? (i := 166) rfl)) rfl
theorem ml_X6_84 : Cond.methodLink RX6 84 yJ9_abs_0f7a4 ∈ q_gT := q_mem (tb_4 (List.mem_of_getElem? (i := 173) rfl)) rfl
theorem ml_X6_90 : Cond.methodLink RX6 90 yJ6_bitCount_0f7a4 ∈ q_gT := q_mem (tb_4 (List.mem_of_getElem? (i := 184) rfl)) rfl
theorem ml_X7_58 : Cond.methodLink RX7 58 yX7_push ∈ q_gT := q_mem (tb_4 (List.mem_of_getElem? (i := 95) rfl)) rfl
theorem ml_X7_62 : Cond.methodLink RX7 62 yX7_isOfTwo ∈ q_gT := q_mem (tb_4 (List.mem_of_getElem? (i := 99) rfl)) rfl
theorem ml_X7_66 : Cond.methodLink RX7 66 yX7_pop ∈ q_gT := q_mem (tb_4 (List.mem_of_getElem? (i := 102) rfl)) rfl
theorem ml_X7_70 : Cond.methodLink RX7 70 yX7_ofTwo ∈ q_gT := q_mem (tb_4 (List.mem_of_getElem? (i := 106) rfl)) rfl
theorem ml_X7_74 : Cond.methodLink RX7 74 yX7_ofOne ∈ q_gT := q_mem (tb_4 (List.mem_of_getElem? (i := 119) rfl)) rfl
theorem ml_X7_78 : Cond.methodLink RX7 78 yX7_ofStall ∈ q_gT := q_mem (tb_4 (List.mem_of_getElem? (i := 123) rfl)) rfl
theorem ml_X7_82 : Cond.methodLink RX7 82 yX7_within ∈ q_gT := q_mem (tb_4 (List.mem_of_getElem? (i := 109) rfl)) rfl
theorem ml_X7_86 : Cond.methodLink RX7 86 yJ9_floorDiv_7cf53 ∈ q_gT := q_mem (tb_4 (List.mem_of_getElem? (i := 116) rfl)) rfl
theorem ml_X8_34 : Cond.methodLink RX8 34 yX8_step ∈ q_gT := q_mem (tb_3 (List.mem_of_getElem? (i := 63) rfl)) rfl
theorem ml_X8_42 : Cond.methodLink RX8 42 yX10_at ∈ q_gT := q_mem (tb_3 (List.mem_of_getElem? (i := 67) rfl)) rfl
theorem ml_X8_46 : Cond.methodLink RX8 46 yX8_isBlank ∈ q_gT := q_mem (tb_3 (List.mem_of_getElem? (i := 71) rfl)) rfl
theorem ml_X8_50 : Cond.methodLink RX8 50 yX8_isLetter ∈ q_gT := q_mem (tb_3 (List.mem_of_getElem? (i := 74) rfl)) rfl
theorem ml_X8_53 : Cond.methodLink RX8 53 yX8_readWord ∈ q_gT := q_mem (tb_3 (List.mem_of_getElem? (i := 77) rfl)) rfl
theorem ml_X8_56 : Cond.methodLink RX8 56 yX8_isDigit ∈ q_gT := q_mem (tb_3 (List.mem_of_getElem? (i := 122) rfl)) rfl
theorem ml_X8_59 : Cond.methodLink RX8 59 yX8_readNumeral ∈ q_gT := q_mem (tb_3 (List.mem_of_getElem? (i := 125) rfl)) rfl
theorem ml_X8_64 : Cond.methodLink RX8 64 yJ0_charAt_5068e ∈ q_gT := q_mem (tb_3 (List.mem_of_getElem? (i := 82) rfl)) rfl
theorem ml_X8_70 : Cond.methodLink RX8 70 yX8_isWord ∈ q_gT := q_mem (tb_3 (List.mem_of_getElem? (i := 167) rfl)) rfl
theorem ml_X8_73 : Cond.methodLink RX8 73 yX8_fail ∈ q_gT := q_mem (tb_3 (List.mem_of_getElem? (i := 146) rfl)) rfl
theorem ml_X8_77 : Cond.methodLink RX8 77 yX8_isSign ∈ q_gT := q_mem (tb_3 (List.mem_of_getElem? (i := 212) rfl)) rfl
theorem ml_X8_80 : Cond.methodLink RX8 80 yX2_hasName ∈ q_gT := q_mem (tb_3 (List.mem_of_getElem? (i := 159) rfl)) rfl
theorem ml_X9_29 : Cond.methodLink RX9 29 yX10_at ∈ q_gT := q_mem (tb_4 (List.mem_of_getElem? (i := 225) rfl)) rfl
theorem ml_X9_41 : Cond.methodLink RX9 41 yJ9_min_7cf53 ∈ q_gT := q_mem (tb_4 (List.mem_of_getElem? (i := 230) rfl)) rfl
theorem ml_X9_47 : Cond.methodLink RX9 47 yX10_twoAt ∈ q_gT := q_mem (tb_4 (List.mem_of_getElem? (i := 231) rfl)) rfl
theorem ml_X9_50 : Cond.methodLink RX9 50 yX5_lengthAt ∈ q_gT := q_mem (tb_5 (List.mem_of_getElem? (i := 4) rfl)) rfl
theorem ml_X10_15 : Cond.methodLink RX10 15 yJ9_max_7cf53 ∈ q_gT := q_mem (tb_1 (List.mem_of_getElem? (i := 36) rfl)) rfl
theorem ml_X10_25 : Cond.methodLink RX10 25 yX10_put ∈ q_gT := q_mem (tb_3 (List.mem_of_getElem? (i := 39) rfl)) rfl
theorem ml_X10_29 : Cond.methodLink RX10 29 yX10_putTwo ∈ q_gT := q_mem (tb_3 (List.mem_of_getElem? (i := 35) rfl)) rfl
theorem ml_X10_32 : Cond.methodLink RX10 32 yX10_at ∈ q_gT := q_mem (tb_4 (List.mem_of_getElem? (i := 235) rfl)) rfl
theorem ml_L_9 : Cond.methodLink RL 9 yX11_init ∈ q_gT := q_mem (tb_1 (List.mem_of_getElem? (i := 24) rfl)) rfl
theorem ml_L_12 : Cond.methodLink RL 12 yX12_init ∈ q_gT := q_mem (tb_5 (List.mem_of_getElem? (i := 136) rfl)) rfl
theorem ml_L_13 : Cond.methodLink RL 13 yX11_feed ∈ q_gT := q_mem (tb_3 (List.mem_of_getElem? (i := 23) rfl)) rfl
theorem ml_L_17 : Cond.methodLink RL 17 yX12_feed ∈ q_gT := q_mem (tb_6 (List.mem_of_getElem? (i := 210) rfl)) rfl
theorem ml_L_18 : Cond.methodLink RL 18 yX11_end ∈ q_gT := q_mem (tb_3 (List.mem_of_getElem? (i := 43) rfl)) rfl
theorem ml_L_22 : Cond.methodLink RL 22 yX12_end ∈ q_gT := q_mem (tb_6 (List.mem_of_getElem? (i := 214) rfl)) rfl
theorem ml_L_23 : Cond.methodLink RL 23 yX11_fair ∈ q_gT := q_mem (tb_3 (List.mem_of_getElem? (i := 47) rfl)) rfl
theorem ml_L_27 : Cond.methodLink RL 27 yX12_fair ∈ q_gT := q_mem (tb_6 (List.mem_of_getElem? (i := 218) rfl)) rfl
theorem ml_L_28 : Cond.methodLink RL 28 yX11_fault ∈ q_gT := q_mem (tb_4 (List.mem_of_getElem? (i := 29) rfl)) rfl
theorem ml_L_32 : Cond.methodLink RL 32 yX12_fault ∈ q_gT := q_mem (tb_7 (List.mem_of_getElem? (i := 148) rfl)) rfl
theorem ml_L_33 : Cond.methodLink RL 33 yX11_has ∈ q_gT := q_mem (tb_4 (List.mem_of_getElem? (i := 33) rfl)) rfl
theorem ml_L_36 : Cond.methodLink RL 36 yX12_has ∈ q_gT := q_mem (tb_7 (List.mem_of_getElem? (i := 152) rfl)) rfl
theorem ml_L_37 : Cond.methodLink RL 37 yX11_letter ∈ q_gT := q_mem (tb_4 (List.mem_of_getElem? (i := 47) rfl)) rfl
theorem ml_L_41 : Cond.methodLink RL 41 yX12_letter ∈ q_gT := q_mem (tb_7 (List.mem_of_getElem? (i := 167) rfl)) rfl
theorem ml_L_42 : Cond.methodLink RL 42 yX11_stall ∈ q_gT := q_mem (tb_4 (List.mem_of_getElem? (i := 62) rfl)) rfl
theorem ml_L_46 : Cond.methodLink RL 46 yX12_stall ∈ q_gT := q_mem (tb_7 (List.mem_of_getElem? (i := 172) rfl)) rfl
theorem ml_L_47 : Cond.methodLink RL 47 yX11_coin ∈ q_gT := q_mem (tb_4 (List.mem_of_getElem? (i := 70) rfl)) rfl
theorem ml_L_50 : Cond.methodLink RL 50 yX12_coin ∈ q_gT := q_mem (tb_7 (List.mem_of_getElem? (i := 189) rfl)) rfl
theorem ml_L_51 : Cond.methodLink RL 51 yX11_shadow ∈ q_gT := q_mem (tb_4 (List.mem_of_getElem? (i := 74) rfl)) rfl
theorem ml_L_54 : Cond.methodLink RL 54 yX12_shadow ∈ q_gT := q_mem (tb_7 (List.mem_of_getElem? (i := 201) rfl)) rfl
theorem ml_L_55 : Cond.methodLink RL 55 yX11_buys ∈ q_gT := q_mem (tb_4 (List.mem_of_getElem? (i := 131) rfl)) rfl
theorem ml_L_58 : Cond.methodLink RL 58 yX12_buys ∈ q_gT := q_mem (tb_8 (List.mem_of_getElem? (i := 7) rfl)) rfl
theorem ml_L_59 : Cond.methodLink RL 59 yX11_kept ∈ q_gT := q_mem (tb_4 (List.mem_of_getElem? (i := 139) rfl)) rfl
theorem ml_L_62 : Cond.methodLink RL 62 yX12_kept ∈ q_gT := q_mem (tb_8 (List.mem_of_getElem? (i := 19) rfl)) rfl
theorem ml_L_63 : Cond.methodLink RL 63 yX11_when ∈ q_gT := q_mem (tb_4 (List.mem_of_getElem? (i := 143) rfl)) rfl
theorem ml_L_66 : Cond.methodLink RL 66 yX12_when ∈ q_gT := q_mem (tb_8 (List.mem_of_getElem? (i := 24) rfl)) rfl
theorem ml_L_67 : Cond.methodLink RL 67 yX11_round ∈ q_gT := q_mem (tb_4 (List.mem_of_getElem? (i := 155) rfl)) rfl
theorem ml_L_70 : Cond.methodLink RL 70 yX12_round ∈ q_gT := q_mem (tb_8 (List.mem_of_getElem? (i := 28) rfl)) rfl
theorem ml_L_71 : Cond.methodLink RL 71 yX11_blocked ∈ q_gT := q_mem (tb_4 (List.mem_of_getElem? (i := 176) rfl)) rfl
theorem ml_L_74 : Cond.methodLink RL 74 yX12_blocked ∈ q_gT := q_mem (tb_8 (List.mem_of_getElem? (i := 59) rfl)) rfl
theorem ml_L_75 : Cond.methodLink RL 75 yX11_strike ∈ q_gT := q_mem (tb_4 (List.mem_of_getElem? (i := 185) rfl)) rfl
theorem ml_L_78 : Cond.methodLink RL 78 yX12_strike ∈ q_gT := q_mem (tb_8 (List.mem_of_getElem? (i := 63) rfl)) rfl
theorem ml_L_79 : Cond.methodLink RL 79 yX11_handy ∈ q_gT := q_mem (tb_4 (List.mem_of_getElem? (i := 193) rfl)) rfl
theorem ml_L_82 : Cond.methodLink RL 82 yX12_handy ∈ q_gT := q_mem (tb_8 (List.mem_of_getElem? (i := 71) rfl)) rfl
theorem ml_L_83 : Cond.methodLink RL 83 yX11_odd ∈ q_gT := q_mem (tb_4 (List.mem_of_getElem? (i := 197) rfl)) rfl
theorem ml_L_86 : Cond.methodLink RL 86 yX12_odd ∈ q_gT := q_mem (tb_8 (List.mem_of_getElem? (i := 75) rfl)) rfl
theorem ml_L_87 : Cond.methodLink RL 87 yX11_bridge ∈ q_gT := q_mem (tb_4 (List.mem_of_getElem? (i := 201) rfl)) rfl
theorem ml_L_90 : Cond.methodLink RL 90 yX12_bridge ∈ q_gT := q_mem (tb_8 (List.mem_of_getElem? (i := 79) rfl)) rfl
theorem ml_L_91 : Cond.methodLink RL 91 yX11_change ∈ q_gT := q_mem (tb_4 (List.mem_of_getElem? (i := 209) rfl)) rfl
theorem ml_L_94 : Cond.methodLink RL 94 yX12_change ∈ q_gT := q_mem (tb_8 (List.mem_of_getElem? (i := 87) rfl)) rfl
theorem ml_L_95 : Cond.methodLink RL 95 yX11_chalked ∈ q_gT := q_mem (tb_4 (List.mem_of_getElem? (i := 213) rfl)) rfl
theorem ml_L_98 : Cond.methodLink RL 98 yX12_chalked ∈ q_gT := q_mem (tb_8 (List.mem_of_getElem? (i := 91) rfl)) rfl
theorem ml_L_99 : Cond.methodLink RL 99 yX11_see ∈ q_gT := q_mem (tb_4 (List.mem_of_getElem? (i := 217) rfl)) rfl
theorem ml_L_102 : Cond.methodLink RL 102 yX12_see ∈ q_gT := q_mem (tb_8 (List.mem_of_getElem? (i := 95) rfl)) rfl
theorem ml_L_103 : Cond.methodLink RL 103 yX11_minutes ∈ q_gT := q_mem (tb_4 (List.mem_of_getElem? (i := 236) rfl)) rfl
theorem ml_L_106 : Cond.methodLink RL 106 yX12_minutes ∈ q_gT := q_mem (tb_8 (List.mem_of_getElem? (i := 103) rfl)) rfl
theorem ml_L_107 : Cond.methodLink RL 107 yX11_lamps ∈ q_gT := q_mem (tb_5 (List.mem_of_getElem? (i := 5) rfl)) rfl
theorem ml_L_110 : Cond.methodLink RL 110 yX12_lamps ∈ q_gT := q_mem (tb_8 (List.mem_of_getElem? (i := 111) rfl)) rfl
theorem ml_L_111 : Cond.methodLink RL 111 yX11_walk ∈ q_gT := q_mem (tb_5 (List.mem_of_getElem? (i := 9) rfl)) rfl
theorem ml_L_114 : Cond.methodLink RL 114 yX12_walk ∈ q_gT := q_mem (tb_8 (List.mem_of_getElem? (i := 119) rfl)) rfl
theorem ml_L_115 : Cond.methodLink RL 115 yX11_pause ∈ q_gT := q_mem (tb_5 (List.mem_of_getElem? (i := 19) rfl)) rfl
theorem ml_L_118 : Cond.methodLink RL 118 yX12_pause ∈ q_gT := q_mem (tb_8 (List.mem_of_getElem? (i := 127) rfl)) rfl
theorem ml_L_119 : Cond.methodLink RL 119 yX11_buy ∈ q_gT := q_mem (tb_5 (List.mem_of_getElem? (i := 27) rfl)) rfl
theorem ml_L_123 : Cond.methodLink RL 123 yX12_buy ∈ q_gT := q_mem (tb_8 (List.mem_of_getElem? (i := 136) rfl)) rfl
theorem ml_L_124 : Cond.methodLink RL 124 yX11_chance ∈ q_gT := q_mem (tb_5 (List.mem_of_getElem? (i := 39) rfl)) rfl
theorem ml_L_127 : Cond.methodLink RL 127 yX12_chance ∈ q_gT := q_mem (tb_8 (List.mem_of_getElem? (i := 148) rfl)) rfl
theorem ml_L_128 : Cond.methodLink RL 128 yX11_undo ∈ q_gT := q_mem (tb_5 (List.mem_of_getElem? (i := 52) rfl)) rfl
theorem ml_L_132 : Cond.methodLink RL 132 yX12_undo ∈ q_gT := q_mem (tb_8 (List.mem_of_getElem? (i := 115) rfl)) rfl
theorem ml_L_133 : Cond.methodLink RL 133 yX11_seed ∈ q_gT := q_mem (tb_5 (List.mem_of_getElem? (i := 60) rfl)) rfl
theorem ml_L_136 : Cond.methodLink RL 136 yX12_seed ∈ q_gT := q_mem (tb_8 (List.mem_of_getElem? (i := 144) rfl)) rfl
theorem ml_L_137 : Cond.methodLink RL 137 yX11_ask ∈ q_gT := q_mem (tb_5 (List.mem_of_getElem? (i := 64) rfl)) rfl
theorem ml_L_141 : Cond.methodLink RL 141 yX12_ask ∈ q_gT := q_mem (tb_8 (List.mem_of_getElem? (i := 160) rfl)) rfl
theorem ml_L_142 : Cond.methodLink RL 142 yX11_image ∈ q_gT := q_mem (tb_5 (List.mem_of_getElem? (i := 92) rfl)) rfl
theorem ml_L_145 : Cond.methodLink RL 145 yX12_image ∈ q_gT := q_mem (tb_8 (List.mem_of_getElem? (i := 185) rfl)) rfl
theorem ml_L_146 : Cond.methodLink RL 146 yX11_octet ∈ q_gT := q_mem (tb_5 (List.mem_of_getElem? (i := 106) rfl)) rfl
theorem ml_L_149 : Cond.methodLink RL 149 yX12_octet ∈ q_gT := q_mem (tb_8 (List.mem_of_getElem? (i := 196) rfl)) rfl
theorem ml_L_150 : Cond.methodLink RL 150 yX11_on ∈ q_gT := q_mem (tb_5 (List.mem_of_getElem? (i := 111) rfl)) rfl
theorem ml_L_153 : Cond.methodLink RL 153 yX12_on ∈ q_gT := q_mem (tb_8 (List.mem_of_getElem? (i := 200) rfl)) rfl
theorem ml_L_154 : Cond.methodLink RL 154 yX11_status ∈ q_gT := q_mem (tb_5 (List.mem_of_getElem? (i := 130) rfl)) rfl
theorem ml_L_157 : Cond.methodLink RL 157 yX12_status ∈ q_gT := q_mem (tb_8 (List.mem_of_getElem? (i := 208) rfl)) rfl
theorem ml_X12_249 : Cond.methodLink RX12 249 yX12_look ∈ q_gT := q_mem (tb_6 (List.mem_of_getElem? (i := 238) rfl)) rfl
theorem ml_X12_253 : Cond.methodLink RX12 253 yX12_isLetter ∈ q_gT := q_mem (tb_7 (List.mem_of_getElem? (i := 2) rfl)) rfl
theorem ml_X12_260 : Cond.methodLink RX12 260 yX12_isHere ∈ q_gT := q_mem (tb_6 (List.mem_of_getElem? (i := 234) rfl)) rfl
theorem ml_X12_264 : Cond.methodLink RX12 264 yX12_takes ∈ q_gT := q_mem (tb_6 (List.mem_of_getElem? (i := 230) rfl)) rfl
theorem ml_X12_267 : Cond.methodLink RX12 267 yX12_fail ∈ q_gT := q_mem (tb_7 (List.mem_of_getElem? (i := 5) rfl)) rfl
theorem ml_X12_271 : Cond.methodLink RX12 271 yX12_takesSign ∈ q_gT := q_mem (tb_7 (List.mem_of_getElem? (i := 23) rfl)) rfl
theorem ml_X12_274 : Cond.methodLink RX12 274 yX12_isDigit ∈ q_gT := q_mem (tb_7 (List.mem_of_getElem? (i := 13) rfl)) rfl
theorem ml_X12_277 : Cond.methodLink RX12 277 yX12_isIn ∈ q_gT := q_mem (tb_7 (List.mem_of_getElem? (i := 16) rfl)) rfl
theorem ml_X12_281 : Cond.methodLink RX12 281 yX12_isOwnHere ∈ q_gT := q_mem (tb_7 (List.mem_of_getElem? (i := 47) rfl)) rfl
theorem ml_X12_295 : Cond.methodLink RX12 295 yX12_name ∈ q_gT := q_mem (tb_7 (List.mem_of_getElem? (i := 43) rfl)) rfl
theorem ml_X12_299 : Cond.methodLink RX12 299 yX12_asks ∈ q_gT := q_mem (tb_6 (List.mem_of_getElem? (i := 226) rfl)) rfl
theorem ml_X12_303 : Cond.methodLink RX12 303 yX12_number ∈ q_gT := q_mem (tb_7 (List.mem_of_getElem? (i := 9) rfl)) rfl
theorem ml_X12_307 : Cond.methodLink RX12 307 yX12_asksSign ∈ q_gT := q_mem (tb_7 (List.mem_of_getElem? (i := 19) rfl)) rfl
theorem ml_X12_311 : Cond.methodLink RX12 311 yX12_isFull ∈ q_gT := q_mem (tb_7 (List.mem_of_getElem? (i := 35) rfl)) rfl
theorem ml_X12_315 : Cond.methodLink RX12 315 yX12_newName ∈ q_gT := q_mem (tb_7 (List.mem_of_getElem? (i := 39) rfl)) rfl
theorem ml_X12_330 : Cond.methodLink RX12 330 yX12_qTest ∈ q_gT := q_mem (tb_7 (List.mem_of_getElem? (i := 65) rfl)) rfl
theorem ml_X12_333 : Cond.methodLink RX12 333 yX12_qSums ∈ q_gT := q_mem (tb_7 (List.mem_of_getElem? (i := 81) rfl)) rfl
theorem ml_X12_342 : Cond.methodLink RX12 342 yX12_stallTold ∈ q_gT := q_mem (tb_7 (List.mem_of_getElem? (i := 31) rfl)) rfl
theorem ml_X12_345 : Cond.methodLink RX12 345 yX12_coinTold ∈ q_gT := q_mem (tb_7 (List.mem_of_getElem? (i := 53) rfl)) rfl
theorem ml_X12_348 : Cond.methodLink RX12 348 yX12_cloudTold ∈ q_gT := q_mem (tb_7 (List.mem_of_getElem? (i := 57) rfl)) rfl
theorem ml_X12_351 : Cond.methodLink RX12 351 yX12_codesTold ∈ q_gT := q_mem (tb_7 (List.mem_of_getElem? (i := 61) rfl)) rfl
theorem ml_X12_354 : Cond.methodLink RX12 354 yX12_fairTold ∈ q_gT := q_mem (tb_6 (List.mem_of_getElem? (i := 222) rfl)) rfl
theorem ml_X12_357 : Cond.methodLink RX12 357 yX12_statementTold ∈ q_gT := q_mem (tb_7 (List.mem_of_getElem? (i := 27) rfl)) rfl
theorem ml_X12_363 : Cond.methodLink RX12 363 yX12_stands ∈ q_gT := q_mem (tb_7 (List.mem_of_getElem? (i := 144) rfl)) rfl
theorem ml_X12_376 : Cond.methodLink RX12 376 yX12_stallMany ∈ q_gT := q_mem (tb_7 (List.mem_of_getElem? (i := 180) rfl)) rfl
theorem ml_X12_379 : Cond.methodLink RX12 379 yX12_coinMany ∈ q_gT := q_mem (tb_7 (List.mem_of_getElem? (i := 197) rfl)) rfl
theorem ml_X12_382 : Cond.methodLink RX12 382 yX12_fairMinutes ∈ q_gT := q_mem (tb_7 (List.mem_of_getElem? (i := 156) rfl)) rfl
theorem ml_X12_388 : Cond.methodLink RX12 388 yX12_qPuts ∈ q_gT := q_mem (tb_7 (List.mem_of_getElem? (i := 217) rfl)) rfl
theorem ml_X12_392 : Cond.methodLink RX12 392 yX12_qPartOf ∈ q_gT := q_mem (tb_7 (List.mem_of_getElem? (i := 221) rfl)) rfl
theorem ml_X12_396 : Cond.methodLink RX12 396 yX12_qJoins ∈ q_gT := q_mem (tb_7 (List.mem_of_getElem? (i := 234) rfl)) rfl
theorem ml_X12_399 : Cond.methodLink RX12 399 yX12_isCloud ∈ q_gT := q_mem (tb_7 (List.mem_of_getElem? (i := 163) rfl)) rfl
theorem ml_X12_408 : Cond.methodLink RX12 408 yX12_codesTell ∈ q_gT := q_mem (tb_7 (List.mem_of_getElem? (i := 213) rfl)) rfl
theorem ml_X12_413 : Cond.methodLink RX12 413 yX12_shutOf ∈ q_gT := q_mem (tb_8 (List.mem_of_getElem? (i := 15) rfl)) rfl
theorem ml_X12_417 : Cond.methodLink RX12 417 yX12_shadowOf ∈ q_gT := q_mem (tb_7 (List.mem_of_getElem? (i := 209) rfl)) rfl
theorem ml_X12_421 : Cond.methodLink RX12 421 yX12_priceOf ∈ q_gT := q_mem (tb_7 (List.mem_of_getElem? (i := 229) rfl)) rfl
theorem ml_X12_430 : Cond.methodLink RX12 430 yX12_placeOf ∈ q_gT := q_mem (tb_8 (List.mem_of_getElem? (i := 48) rfl)) rfl
theorem ml_X12_433 : Cond.methodLink RX12 433 yX12_doesBuy ∈ q_gT := q_mem (tb_8 (List.mem_of_getElem? (i := 11) rfl)) rfl
theorem ml_X12_436 : Cond.methodLink RX12 436 yX12_bits ∈ q_gT := q_mem (tb_7 (List.mem_of_getElem? (i := 160) rfl)) rfl
theorem ml_X12_441 : Cond.methodLink RX12 441 yX12_isStall ∈ q_gT := q_mem (tb_7 (List.mem_of_getElem? (i := 176) rfl)) rfl
theorem ml_X12_447 : Cond.methodLink RX12 447 yX12_isBought ∈ q_gT := q_mem (tb_7 (List.mem_of_getElem? (i := 185) rfl)) rfl
theorem ml_X12_450 : Cond.methodLink RX12 450 yX12_isCoin ∈ q_gT := q_mem (tb_7 (List.mem_of_getElem? (i := 193) rfl)) rfl
theorem ml_X12_453 : Cond.methodLink RX12 453 yX12_isMinute ∈ q_gT := q_mem (tb_7 (List.mem_of_getElem? (i := 205) rfl)) rfl
theorem ml_X12_461 : Cond.methodLink RX12 461 yX12_apart ∈ q_gT := q_mem (tb_8 (List.mem_of_getElem? (i := 52) rfl)) rfl
theorem ml_X12_467 : Cond.methodLink RX12 467 yX12_orderEnds ∈ q_gT := q_mem (tb_8 (List.mem_of_getElem? (i := 44) rfl)) rfl
theorem ml_X12_470 : Cond.methodLink RX12 470 yX12_isNextOrder ∈ q_gT := q_mem (tb_8 (List.mem_of_getElem? (i := 55) rfl)) rfl
theorem ml_X12_473 : Cond.methodLink RX12 473 yX12_laysNexts ∈ q_gT := q_mem (tb_8 (List.mem_of_getElem? (i := 32) rfl)) rfl
theorem ml_X12_476 : Cond.methodLink RX12 476 yX12_unbought ∈ q_gT := q_mem (tb_8 (List.mem_of_getElem? (i := 36) rfl)) rfl
theorem ml_X12_479 : Cond.methodLink RX12 479 yX12_laysRound ∈ q_gT := q_mem (tb_8 (List.mem_of_getElem? (i := 40) rfl)) rfl
theorem ml_X12_484 : Cond.methodLink RX12 484 yX12_doesBuyAnywhere ∈ q_gT := q_mem (tb_8 (List.mem_of_getElem? (i := 67) rfl)) rfl
theorem ml_X12_488 : Cond.methodLink RX12 488 yX12_laysLengths ∈ q_gT := q_mem (tb_8 (List.mem_of_getElem? (i := 83) rfl)) rfl
theorem ml_X12_491 : Cond.methodLink RX12 491 yX12_refuses ∈ q_gT := q_mem (tb_8 (List.mem_of_getElem? (i := 99) rfl)) rfl
theorem ml_X12_494 : Cond.methodLink RX12 494 yX12_lampsIn ∈ q_gT := q_mem (tb_8 (List.mem_of_getElem? (i := 107) rfl)) rfl
theorem ml_X12_500 : Cond.methodLink RX12 500 yX12_keeps ∈ q_gT := q_mem (tb_8 (List.mem_of_getElem? (i := 123) rfl)) rfl
theorem ml_X12_505 : Cond.methodLink RX12 505 yX12_canWait ∈ q_gT := q_mem (tb_8 (List.mem_of_getElem? (i := 131) rfl)) rfl
theorem ml_X12_508 : Cond.methodLink RX12 508 yX12_isKept ∈ q_gT := q_mem (tb_8 (List.mem_of_getElem? (i := 140) rfl)) rfl
theorem ml_X12_519 : Cond.methodLink RX12 519 yX12_drawOf ∈ q_gT := q_mem (tb_8 (List.mem_of_getElem? (i := 152) rfl)) rfl
theorem ml_X12_522 : Cond.methodLink RX12 522 yX12_qCode ∈ q_gT := q_mem (tb_7 (List.mem_of_getElem? (i := 77) rfl)) rfl
theorem ml_X12_525 : Cond.methodLink RX12 525 yX12_qIsBracket ∈ q_gT := q_mem (tb_7 (List.mem_of_getElem? (i := 121) rfl)) rfl
theorem ml_X12_528 : Cond.methodLink RX12 528 yX12_qDrops ∈ q_gT := q_mem (tb_7 (List.mem_of_getElem? (i := 109) rfl)) rfl
theorem ml_X12_531 : Cond.methodLink RX12 531 yX12_qWordHere ∈ q_gT := q_mem (tb_7 (List.mem_of_getElem? (i := 93) rfl)) rfl
theorem ml_X12_534 : Cond.methodLink RX12 534 yX12_isAllowed ∈ q_gT := q_mem (tb_7 (List.mem_of_getElem? (i := 97) rfl)) rfl
theorem ml_X12_537 : Cond.methodLink RX12 537 yX12_qWordOf ∈ q_gT := q_mem (tb_7 (List.mem_of_getElem? (i := 89) rfl)) rfl
theorem ml_X12_540 : Cond.methodLink RX12 540 yX12_qOpens ∈ q_gT := q_mem (tb_7 (List.mem_of_getElem? (i := 69) rfl)) rfl
theorem ml_X12_543 : Cond.methodLink RX12 543 yX12_qAsksWord ∈ q_gT := q_mem (tb_7 (List.mem_of_getElem? (i := 101) rfl)) rfl
theorem ml_X12_546 : Cond.methodLink RX12 546 yX12_qEndsPart ∈ q_gT := q_mem (tb_7 (List.mem_of_getElem? (i := 105) rfl)) rfl
theorem ml_X12_549 : Cond.methodLink RX12 549 yX12_qBracket ∈ q_gT := q_mem (tb_7 (List.mem_of_getElem? (i := 117) rfl)) rfl
theorem ml_X12_552 : Cond.methodLink RX12 552 yX12_qDropsToBracket ∈ q_gT := q_mem (tb_7 (List.mem_of_getElem? (i := 124) rfl)) rfl
theorem ml_X12_555 : Cond.methodLink RX12 555 yX12_qIsOn ∈ q_gT := q_mem (tb_7 (List.mem_of_getElem? (i := 128) rfl)) rfl
theorem ml_X12_558 : Cond.methodLink RX12 558 yX12_qPartTold ∈ q_gT := q_mem (tb_7 (List.mem_of_getElem? (i := 85) rfl)) rfl
theorem ml_X12_561 : Cond.methodLink RX12 561 yX12_qGoesOn ∈ q_gT := q_mem (tb_7 (List.mem_of_getElem? (i := 113) rfl)) rfl
theorem ml_X12_564 : Cond.methodLink RX12 564 yX12_qFact ∈ q_gT := q_mem (tb_7 (List.mem_of_getElem? (i := 73) rfl)) rfl
theorem ml_X12_567 : Cond.methodLink RX12 567 yX12_qDropsNots ∈ q_gT := q_mem (tb_7 (List.mem_of_getElem? (i := 132) rfl)) rfl
theorem ml_X12_570 : Cond.methodLink RX12 570 yX12_qGoesOnTest ∈ q_gT := q_mem (tb_7 (List.mem_of_getElem? (i := 136) rfl)) rfl
theorem ml_X12_573 : Cond.methodLink RX12 573 yX12_qHasSquare ∈ q_gT := q_mem (tb_7 (List.mem_of_getElem? (i := 140) rfl)) rfl
theorem ml_X12_580 : Cond.methodLink RX12 580 yX12_qClip ∈ q_gT := q_mem (tb_7 (List.mem_of_getElem? (i := 238) rfl)) rfl
theorem ml_X12_584 : Cond.methodLink RX12 584 yX12_qFloor ∈ q_gT := q_mem (tb_8 (List.mem_of_getElem? (i := 3) rfl)) rfl
theorem ml_X12_588 : Cond.methodLink RX12 588 yX12_turnOf ∈ q_gT := q_mem (tb_7 (List.mem_of_getElem? (i := 225) rfl)) rfl
theorem ml_X12_591 : Cond.methodLink RX12 591 yX12_qOf ∈ q_gT := q_mem (tb_8 (List.mem_of_getElem? (i := 177) rfl)) rfl
theorem ml_X12_603 : Cond.methodLink RX12 603 yX12_qKind ∈ q_gT := q_mem (tb_8 (List.mem_of_getElem? (i := 165) rfl)) rfl
theorem ml_X12_606 : Cond.methodLink RX12 606 yX12_laysNow ∈ q_gT := q_mem (tb_8 (List.mem_of_getElem? (i := 169) rfl)) rfl
theorem ml_X12_609 : Cond.methodLink RX12 609 yX12_qTold ∈ q_gT := q_mem (tb_8 (List.mem_of_getElem? (i := 173) rfl)) rfl
theorem ml_X12_613 : Cond.methodLink RX12 613 yX12_qTakes ∈ q_gT := q_mem (tb_8 (List.mem_of_getElem? (i := 181) rfl)) rfl
theorem ml_X12_620 : Cond.methodLink RX12 620 yX12_writes ∈ q_gT := q_mem (tb_8 (List.mem_of_getElem? (i := 189) rfl)) rfl
theorem ml_X12_623 : Cond.methodLink RX12 623 yX12_checked ∈ q_gT := q_mem (tb_8 (List.mem_of_getElem? (i := 193) rfl)) rfl
theorem ml_X12_627 : Cond.methodLink RX12 627 yX12_isImage ∈ q_gT := q_mem (tb_8 (List.mem_of_getElem? (i := 204) rfl)) rfl
theorem ml_J0_492 : Cond.methodLink RJ0 492 yJ0_isLatin1_aae02 ∈ q_gT := q_mem (tb_3 (List.mem_of_getElem? (i := 86) rfl)) rfl
theorem ml_J0_495 : Cond.methodLink RJ0 495 yJ1_charAt_3b067 ∈ q_gT := q_mem (tb_3 (List.mem_of_getElem? (i := 92) rfl)) rfl
theorem ml_J0_498 : Cond.methodLink RJ0 498 yJ2_charAt_3b067 ∈ q_gT := q_mem (tb_3 (List.mem_of_getElem? (i := 103) rfl)) rfl
theorem ml_J0_1059 : Cond.methodLink RJ0 1059 yJ3_checkIndex_8e157 ∈ q_gT := q_mem (tb_3 (List.mem_of_getElem? (i := 100) rfl)) rfl
theorem ml_J1_9 : Cond.methodLink RJ1 9 yJ0_checkIndex_df160 ∈ q_gT := q_mem (tb_3 (List.mem_of_getElem? (i := 95) rfl)) rfl
theorem ml_J2_48 : Cond.methodLink RJ2 48 yJ2_length_9d52b ∈ q_gT := q_mem (tb_3 (List.mem_of_getElem? (i := 109) rfl)) rfl
theorem ml_J2_67 : Cond.methodLink RJ2 67 yJ2_checkIndex_2214a ∈ q_gT := q_mem (tb_3 (List.mem_of_getElem? (i := 106) rfl)) rfl
theorem ml_J2_71 : Cond.methodLink RJ2 71 yJ2_getChar_3b067 ∈ q_gT := q_mem (tb_3 (List.mem_of_getElem? (i := 113) rfl)) rfl
theorem ml_J2_414 : Cond.methodLink RJ2 414 yJ0_checkIndex_df160 ∈ q_gT := q_mem (tb_3 (List.mem_of_getElem? (i := 112) rfl)) rfl
theorem nc_X11 : RX11 ≠ "java/lang/invoke/MethodHandle" ∧ RX11 ≠ "java/lang/invoke/VarHandle" := ⟨by decide +kernel, by decide +kernel⟩
theorem np_X11 : plainName RX11 = true := by decide +kernel
theorem ni_X11 : Cond.initialized RX11 ∈ q_gT := q_mem (tb_1 (List.mem_of_getElem? (i := 1) rfl)) rfl
theorem nc_X0 : RX0 ≠ "java/lang/invoke/MethodHandle" ∧ RX0 ≠ "java/lang/invoke/VarHandle" := ⟨by decide +kernel, by decide +kernel⟩
theorem np_X0 : plainName RX0 = true := by decide +kernel
theorem ni_X0 : Cond.initialized RX0 ∈ q_gT := q_mem (tb_1 (List.mem_of_getElem? (i := 5) rfl)) rfl
theorem nc_X1 : RX1 ≠ "java/lang/invoke/MethodHandle" ∧ RX1 ≠ "java/lang/invoke/VarHandle" := ⟨by decide +kernel, by decide +kernel⟩
theorem np_X1 : plainName RX1 = true := by decide +kernel
theorem ni_X1 : Cond.initialized RX1 ∈ q_gT := q_mem (tb_1 (List.mem_of_getElem? (i := 8) rfl)) rfl
theorem nc_X2 : RX2 ≠ "java/lang/invoke/MethodHandle" ∧ RX2 ≠ "java/lang/invoke/VarHandle" := ⟨by decide +kernel, by decide +kernel⟩
theorem np_X2 : plainName RX2 = true := by decide +kernel
theorem ni_X2 : Cond.initialized RX2 ∈ q_gT := q_mem (tb_1 (List.mem_of_getElem? (i := 12) rfl)) rfl
theorem nc_X3 : RX3 ≠ "java/lang/invoke/MethodHandle" ∧ RX3 ≠ "java/lang/invoke/VarHandle" := ⟨by decide +kernel, by decide +kernel⟩
theorem np_X3 : plainName RX3 = true := by decide +kernel
theorem ni_X3 : Cond.initialized RX3 ∈ q_gT := q_mem (tb_1 (List.mem_of_getElem? (i := 7) rfl)) rfl
theorem nc_X4 : RX4 ≠ "java/lang/invoke/MethodHandle" ∧ RX4 ≠ "java/lang/invoke/VarHandle" := ⟨by decide +kernel, by decide +kernel⟩
theorem np_X4 : plainName RX4 = true := by decide +kernel
theorem ni_X4 : Cond.initialized RX4 ∈ q_gT := q_mem (tb_1 (List.mem_of_getElem? (i := 6) rfl)) rfl
theorem nc_X5 : RX5 ≠ "java/lang/invoke/MethodHandle" ∧ RX5 ≠ "java/lang/invoke/VarHandle" := ⟨by decide +kernel, by decide +kernel⟩
theorem np_X5 : plainName RX5 = true := by decide +kernel
theorem ni_X5 : Cond.initialized RX5 ∈ q_gT := q_mem (tb_1 (List.mem_of_getElem? (i := 13) rfl)) rfl
theorem nc_X6 : RX6 ≠ "java/lang/invoke/MethodHandle" ∧ RX6 ≠ "java/lang/invoke/VarHandle" := ⟨by decide +kernel, by decide +kernel⟩
theorem np_X6 : plainName RX6 = true := by decide +kernel
theorem ni_X6 : Cond.initialized RX6 ∈ q_gT := q_mem (tb_1 (List.mem_of_getElem? (i := 10) rfl)) rfl
theorem nc_X7 : RX7 ≠ "java/lang/invoke/MethodHandle" ∧ RX7 ≠ "java/lang/invoke/VarHandle" := ⟨by decide +kernel, by decide +kernel⟩
theorem np_X7 : plainName RX7 = true := by decide +kernel
theorem ni_X7 : Cond.initialized RX7 ∈ q_gT := q_mem (tb_1 (List.mem_of_getElem? (i := 11) rfl)) rfl
theorem nc_X8 : RX8 ≠ "java/lang/invoke/MethodHandle" ∧ RX8 ≠ "java/lang/invoke/VarHandle" := ⟨by decide +kernel, by decide +kernel⟩
theorem np_X8 : plainName RX8 = true := by decide +kernel
theorem ni_X8 : Cond.initialized RX8 ∈ q_gT := q_mem (tb_1 (List.mem_of_getElem? (i := 4) rfl)) rfl
theorem nc_X9 : RX9 ≠ "java/lang/invoke/MethodHandle" ∧ RX9 ≠ "java/lang/invoke/VarHandle" := ⟨by decide +kernel, by decide +kernel⟩
theorem np_X9 : plainName RX9 = true := by decide +kernel
theorem ni_X9 : Cond.initialized RX9 ∈ q_gT := q_mem (tb_1 (List.mem_of_getElem? (i := 9) rfl)) rfl
theorem nc_X10 : RX10 ≠ "java/lang/invoke/MethodHandle" ∧ RX10 ≠ "java/lang/invoke/VarHandle" := ⟨by decide +kernel, by decide +kernel⟩
theorem np_X10 : plainName RX10 = true := by decide +kernel
theorem ni_X10 : Cond.initialized RX10 ∈ q_gT := q_mem (tb_1 (List.mem_of_getElem? (i := 2) rfl)) rfl
theorem nc_X12 : RX12 ≠ "java/lang/invoke/MethodHandle" ∧ RX12 ≠ "java/lang/invoke/VarHandle" := ⟨by decide +kernel, by decide +kernel⟩
theorem np_X12 : plainName RX12 = true := by decide +kernel
theorem ni_X12 : Cond.initialized RX12 ∈ q_gT := q_mem (tb_1 (List.mem_of_getElem? (i := 14) rfl)) rfl
theorem nc_J6 : RJ6 ≠ "java/lang/invoke/MethodHandle" ∧ RJ6 ≠ "java/lang/invoke/VarHandle" := ⟨by decide +kernel, by decide +kernel⟩
theorem np_J6 : plainName RJ6 = true := by decide +kernel
theorem ni_J6 : Cond.initialized RJ6 ∈ q_gT := q_mem (tb_1 (List.mem_of_getElem? (i := 20) rfl)) rfl
theorem nc_J9 : RJ9 ≠ "java/lang/invoke/MethodHandle" ∧ RJ9 ≠ "java/lang/invoke/VarHandle" := ⟨by decide +kernel, by decide +kernel⟩
theorem ni_J9 : Cond.initialized RJ9 ∈ q_gT := q_mem (tb_1 (List.mem_of_getElem? (i := 3) rfl)) rfl
theorem nc_J0 : RJ0 ≠ "java/lang/invoke/MethodHandle" ∧ RJ0 ≠ "java/lang/invoke/VarHandle" := ⟨by decide +kernel, by decide +kernel⟩
theorem np_J0 : plainName RJ0 = true := by decide +kernel
theorem ni_J0 : Cond.initialized RJ0 ∈ q_gT := q_mem (tb_1 (List.mem_of_getElem? (i := 15) rfl)) rfl
theorem nc_J1 : RJ1 ≠ "java/lang/invoke/MethodHandle" ∧ RJ1 ≠ "java/lang/invoke/VarHandle" := ⟨by decide +kernel, by decide +kernel⟩
theorem np_J1 : plainName RJ1 = true := by decide +kernel
theorem ni_J1 : Cond.initialized RJ1 ∈ q_gT := q_mem (tb_1 (List.mem_of_getElem? (i := 16) rfl)) rfl
theorem nc_J2 : RJ2 ≠ "java/lang/invoke/MethodHandle" ∧ RJ2 ≠ "java/lang/invoke/VarHandle" := ⟨by decide +kernel, by decide +kernel⟩
theorem np_J2 : plainName RJ2 = true := by decide +kernel
theorem ni_J2 : Cond.initialized RJ2 ∈ q_gT := q_mem (tb_1 (List.mem_of_getElem? (i := 18) rfl)) rfl
theorem nc_J7 : RJ7 ≠ "java/lang/invoke/MethodHandle" ∧ RJ7 ≠ "java/lang/invoke/VarHandle" := ⟨by decide +kernel, by decide +kernel⟩
theorem np_J7 : plainName RJ7 = true := by decide +kernel
theorem ni_J7 : Cond.initialized RJ7 ∈ q_gT := q_mem (tb_1 (List.mem_of_getElem? (i := 19) rfl)) rfl
theorem nc_J3 : RJ3 ≠ "java/lang/invoke/MethodHandle" ∧ RJ3 ≠ "java/lang/invoke/VarHandle" := ⟨by decide +kernel, by decide +kernel⟩
theorem np_J3 : plainName RJ3 = true := by decide +kernel
theorem ni_J3 : Cond.initialized RJ3 ∈ q_gT := q_mem (tb_1 (List.mem_of_getElem? (i := 17) rfl)) rfl
theorem pd_0 : (parseMethodDescriptor "()I").map (fun d => d.parameters.length) = some 0 := by decide +kernel
theorem pd_1 : (parseMethodDescriptor "()J").map (fun d => d.parameters.length) = some 0 := by decide +kernel
theorem pd_2 : (parseMethodDescriptor "()V").map (fun d => d.parameters.length) = some 0 := by decide +kernel
theorem pd_3 : (parseMethodDescriptor "()Z").map (fun d => d.parameters.length) = some 0 := by decide +kernel
theorem pd_4 : (parseMethodDescriptor "(I)C").map (fun d => d.parameters.length) = some 1 := by decide +kernel
theorem pd_5 : (parseMethodDescriptor "(I)I").map (fun d => d.parameters.length) = some 1 := by decide +kernel
theorem pd_6 : (parseMethodDescriptor "(I)J").map (fun d => d.parameters.length) = some 1 := by decide +kernel
theorem pd_7 : (parseMethodDescriptor "(I)V").map (fun d => d.parameters.length) = some 1 := by decide +kernel
theorem pd_8 : (parseMethodDescriptor "(I)Z").map (fun d => d.parameters.length) = some 1 := by decide +kernel
theorem pd_9 : (parseMethodDescriptor "(II)I").map (fun d => d.parameters.length) = some 2 := by decide +kernel
theorem pd_10 : (parseMethodDescriptor "(II)J").map (fun d => d.parameters.length) = some 2 := by decide +kernel
theorem pd_11 : (parseMethodDescriptor "(II)V").map (fun d => d.parameters.length) = some 2 := by decide +kernel
theorem pd_12 : (parseMethodDescriptor "(II)Z").map (fun d => d.parameters.length) = some 2 := by decide +kernel
theorem pd_13 : (parseMethodDescriptor "(III)I").map (fun d => d.parameters.length) = some 3 := by decide +kernel
theorem pd_14 : (parseMethodDescriptor "(III)Z").map (fun d => d.parameters.length) = some 3 := by decide +kernel
theorem pd_15 : (parseMethodDescriptor "(IIII)V").map (fun d => d.parameters.length) = some 4 := by decide +kernel
theorem pd_16 : (parseMethodDescriptor "(IIIII)I").map (fun d => d.parameters.length) = some 5 := by decide +kernel
theorem pd_17 : (parseMethodDescriptor "(IILjava/util/function/BiFunction;)I").map (fun d => d.parameters.length) = some 3 := by decide +kernel
theorem pd_18 : (parseMethodDescriptor "(IJI)J").map (fun d => d.parameters.length) = some 3 := by decide +kernel
theorem pd_19 : (parseMethodDescriptor "(IJI)V").map (fun d => d.parameters.length) = some 3 := by decide +kernel
theorem pd_20 : (parseMethodDescriptor "(I[B)V").map (fun d => d.parameters.length) = some 2 := by decide +kernel
theorem pd_21 : (parseMethodDescriptor "(J)I").map (fun d => d.parameters.length) = some 1 := by decide +kernel
theorem pd_22 : (parseMethodDescriptor "(J)J").map (fun d => d.parameters.length) = some 1 := by decide +kernel
theorem pd_23 : (parseMethodDescriptor "(J)V").map (fun d => d.parameters.length) = some 1 := by decide +kernel
theorem pd_24 : (parseMethodDescriptor "(J)Z").map (fun d => d.parameters.length) = some 1 := by decide +kernel
theorem pd_25 : (parseMethodDescriptor "(JJ)J").map (fun d => d.parameters.length) = some 2 := by decide +kernel
theorem pd_26 : (parseMethodDescriptor "(JJJ)Z").map (fun d => d.parameters.length) = some 3 := by decide +kernel
theorem pd_27 : (parseMethodDescriptor "(LShadowCoins$Code;)I").map (fun d => d.parameters.length) = some 1 := by decide +kernel
theorem pd_28 : (parseMethodDescriptor "(LShadowCoins$Code;I)V").map (fun d => d.parameters.length) = some 2 := by decide +kernel
theorem pd_29 : (parseMethodDescriptor "(LShadowCoins$Day;)V").map (fun d => d.parameters.length) = some 1 := by decide +kernel
theorem pd_30 : (parseMethodDescriptor "(LShadowCoins$Fair;)I").map (fun d => d.parameters.length) = some 1 := by decide +kernel
theorem pd_31 : (parseMethodDescriptor "(LShadowCoins$Fair;)V").map (fun d => d.parameters.length) = some 1 := by decide +kernel
theorem pd_32 : (parseMethodDescriptor "(LShadowCoins$Fair;LShadowCoins$Light;LShadowCoins$Day;I)V").map (fun d => d.parameters.length) = some 4 := by decide +kernel
theorem pd_33 : (parseMethodDescriptor "(LShadowCoins$Fair;Z)V").map (fun d => d.parameters.length) = some 2 := by decide +kernel
theorem pd_34 : (parseMethodDescriptor "(LShadowCoins$Light;I)I").map (fun d => d.parameters.length) = some 2 := by decide +kernel
theorem pd_35 : (parseMethodDescriptor "(LShadowCoins$Scanner;LShadowCoins$Code;)V").map (fun d => d.parameters.length) = some 2 := by decide +kernel
theorem pd_36 : (parseMethodDescriptor "(LShadowCoins$Scanner;LShadowCoins$Grammar;)V").map (fun d => d.parameters.length) = some 2 := by decide +kernel
theorem pd_37 : (parseMethodDescriptor "(LShadowCoins$Tape;)V").map (fun d => d.parameters.length) = some 1 := by decide +kernel
theorem pd_38 : (parseMethodDescriptor "(LShadowCoins$Tape;LShadowCoins$Fair;)Z").map (fun d => d.parameters.length) = some 2 := by decide +kernel
theorem pd_39 : (parseMethodDescriptor "([B)I").map (fun d => d.parameters.length) = some 1 := by decide +kernel
theorem pd_40 : (parseMethodDescriptor "([BI)C").map (fun d => d.parameters.length) = some 2 := by decide +kernel
theorem pd_41 : (parseMethodDescriptor "([C)V").map (fun d => d.parameters.length) = some 1 := by decide +kernel
theorem pd_42 : (parseMethodDescriptor "([C)Z").map (fun d => d.parameters.length) = some 1 := by decide +kernel
theorem pd_43 : (parseMethodDescriptor "([II)I").map (fun d => d.parameters.length) = some 2 := by decide +kernel
theorem pd_44 : (parseMethodDescriptor "([II)V").map (fun d => d.parameters.length) = some 2 := by decide +kernel
theorem mb_J0_charAt_5068e : q_MB yJ0_charAt_5068e cJ0_charAt_5068e 2 (some .char) 1 := ⟨q_mem (tb_3 (List.mem_of_getElem? (i := 85) rfl)) rfl, ni_J0, ⟨nc_J0.1, nc_J0.2, pd_4⟩, plainFor_of_name np_J0, by decide⟩
theorem mv_J0_charAt_5068e : q_MV yJ0_charAt_5068e := ⟨q_mem (tb_3 (List.mem_of_getElem? (i := 83) rfl)) rfl, q_mem (tb_3 (List.mem_of_getElem? (i := 84) rfl)) rfl⟩
theorem mb_J0_checkIndex_df160 : q_MB yJ0_checkIndex_df160 cJ0_checkIndex_df160 2 none 2 := ⟨q_mem (tb_3 (List.mem_of_getElem? (i := 97) rfl)) rfl, ni_J0, ⟨nc_J0.1, nc_J0.2, pd_11⟩, plainFor_of_name np_J0, by decide⟩
theorem ms_J0_checkIndex_df160 : Cond.static yJ0_checkIndex_df160 ∈ q_gT := q_mem (tb_3 (List.mem_of_getElem? (i := 96) rfl)) rfl
theorem mb_J0_isLatin1_aae02 : q_MB yJ0_isLatin1_aae02 cJ0_isLatin1_aae02 1 (some .boolean) 0 := ⟨q_mem (tb_3 (List.mem_of_getElem? (i := 89) rfl)) rfl, ni_J0, ⟨nc_J0.1, nc_J0.2, pd_3⟩, plainFor_of_name np_J0, by decide⟩
theorem mv_J0_isLatin1_aae02 : q_MV yJ0_isLatin1_aae02 := ⟨q_mem (tb_3 (List.mem_of_getElem? (i := 87) rfl)) rfl, q_mem (tb_3 (List.mem_of_getElem? (i := 88) rfl)) rfl⟩
theorem mb_J1_charAt_3b067 : q_MB yJ1_charAt_3b067 cJ1_charAt_3b067 2 (some .char) 2 := ⟨q_mem (tb_3 (List.mem_of_getElem? (i := 94) rfl)) rfl, ni_J1, ⟨nc_J1.1, nc_J1.2, pd_40⟩, plainFor_of_name np_J1, by decide⟩
theorem ms_J1_charAt_3b067 : Cond.static yJ1_charAt_3b067 ∈ q_gT := q_mem (tb_3 (List.mem_of_getElem? (i := 93) rfl)) rfl
theorem mb_J2_charAt_3b067 : q_MB yJ2_charAt_3b067 cJ2_charAt_3b067 2 (some .char) 2 := ⟨q_mem (tb_3 (List.mem_of_getElem? (i := 105) rfl)) rfl, ni_J2, ⟨nc_J2.1, nc_J2.2, pd_40⟩, plainFor_of_name np_J2, by decide⟩
theorem ms_J2_charAt_3b067 : Cond.static yJ2_charAt_3b067 ∈ q_gT := q_mem (tb_3 (List.mem_of_getElem? (i := 104) rfl)) rfl
theorem mb_J2_checkIndex_2214a : q_MB yJ2_checkIndex_2214a cJ2_checkIndex_2214a 2 none 2 := ⟨q_mem (tb_3 (List.mem_of_getElem? (i := 108) rfl)) rfl, ni_J2, ⟨nc_J2.1, nc_J2.2, pd_20⟩, plainFor_of_name np_J2, by decide⟩
theorem ms_J2_checkIndex_2214a : Cond.static yJ2_checkIndex_2214a ∈ q_gT := q_mem (tb_3 (List.mem_of_getElem? (i := 107) rfl)) rfl
theorem mb_J2_getChar_3b067 : q_MB yJ2_getChar_3b067 cJ2_getChar_3b067 2 (some .char) 2 := ⟨q_mem (tb_3 (List.mem_of_getElem? (i := 115) rfl)) rfl, ni_J2, ⟨nc_J2.1, nc_J2.2, pd_40⟩, plainFor_of_name np_J2, by decide⟩
theorem ms_J2_getChar_3b067 : Cond.static yJ2_getChar_3b067 ∈ q_gT := q_mem (tb_3 (List.mem_of_getElem? (i := 114) rfl)) rfl
theorem mb_J2_length_9d52b : q_MB yJ2_length_9d52b cJ2_length_9d52b 1 (some .int) 1 := ⟨q_mem (tb_3 (List.mem_of_getElem? (i := 111) rfl)) rfl, ni_J2, ⟨nc_J2.1, nc_J2.2, pd_39⟩, plainFor_of_name np_J2, by decide⟩
theorem ms_J2_length_9d52b : Cond.static yJ2_length_9d52b ∈ q_gT := q_mem (tb_3 (List.mem_of_getElem? (i := 110) rfl)) rfl
theorem mb_J3_checkIndex_8e157 : q_MB yJ3_checkIndex_8e157 cJ3_checkIndex_8e157 3 (some .int) 3 := ⟨q_mem (tb_3 (List.mem_of_getElem? (i := 102) rfl)) rfl, ni_J3, ⟨nc_J3.1, nc_J3.2, pd_17⟩, plainFor_of_name np_J3, by decide⟩
theorem ms_J3_checkIndex_8e157 : Cond.static yJ3_checkIndex_8e157 ∈ q_gT := q_mem (tb_3 (List.mem_of_getElem? (i := 101) rfl)) rfl
theorem mb_J6_bitCount_0f7a4 : q_MB yJ6_bitCount_0f7a4 cJ6_bitCount_0f7a4 1 (some .int) 1 := ⟨q_mem (tb_4 (List.mem_of_getElem? (i := 39) rfl)) rfl, ni_J6, ⟨nc_J6.1, nc_J6.2, pd_5⟩, plainFor_of_name np_J6, by decide⟩
theorem ms_J6_bitCount_0f7a4 : Cond.static yJ6_bitCount_0f7a4 ∈ q_gT := q_mem (tb_4 (List.mem_of_getElem? (i := 38) rfl)) rfl
theorem mb_J7_fill_53178 : q_MB yJ7_fill_53178 cJ7_fill_53178 4 none 2 := ⟨q_mem (tb_4 (List.mem_of_getElem? (i := 23) rfl)) rfl, ni_J7, ⟨nc_J7.1, nc_J7.2, pd_44⟩, plainFor_of_name np_J7, by decide⟩
theorem ms_J7_fill_53178 : Cond.static yJ7_fill_53178 ∈ q_gT := q_mem (tb_4 (List.mem_of_getElem? (i := 22) rfl)) rfl
theorem mb_J9_floorDiv_7cf53 : q_MB yJ9_floorDiv_7cf53 cJ9_floorDiv_7cf53 3 (some .int) 2 := ⟨q_mem (tb_4 (List.mem_of_getElem? (i := 118) rfl)) rfl, ni_J9, ⟨nc_J9.1, nc_J9.2, pd_9⟩, by decide +kernel, by decide⟩
theorem ms_J9_floorDiv_7cf53 : Cond.static yJ9_floorDiv_7cf53 ∈ q_gT := q_mem (tb_4 (List.mem_of_getElem? (i := 117) rfl)) rfl
theorem mb_X0_init : q_MB yX0_init cX0_init 1 none 0 := ⟨q_mem (tb_1 (List.mem_of_getElem? (i := 95) rfl)) rfl, ni_X0, ⟨nc_X0.1, nc_X0.2, pd_2⟩, plainFor_of_name np_X0, by decide⟩
theorem mb_X0_put : q_MB yX0_put cX0_put 2 none 1 := ⟨q_mem (tb_3 (List.mem_of_getElem? (i := 196) rfl)) rfl, ni_X0, ⟨nc_X0.1, nc_X0.2, pd_7⟩, plainFor_of_name np_X0, by decide⟩
theorem mv_X0_put : q_MV yX0_put := ⟨q_mem (tb_3 (List.mem_of_getElem? (i := 194) rfl)) rfl, q_mem (tb_3 (List.mem_of_getElem? (i := 195) rfl)) rfl⟩
theorem mb_X0_putOperation : q_MB yX0_putOperation cX0_putOperation 2 none 1 := ⟨q_mem (tb_3 (List.mem_of_getElem? (i := 225) rfl)) rfl, ni_X0, ⟨nc_X0.1, nc_X0.2, pd_7⟩, plainFor_of_name np_X0, by decide⟩
theorem mv_X0_putOperation : q_MV yX0_putOperation := ⟨q_mem (tb_3 (List.mem_of_getElem? (i := 223) rfl)) rfl, q_mem (tb_3 (List.mem_of_getElem? (i := 224) rfl)) rfl⟩
theorem mb_X10_at : q_MB yX10_at cX10_at 2 (some .int) 1 := ⟨q_mem (tb_3 (List.mem_of_getElem? (i := 70) rfl)) rfl, ni_X10, ⟨nc_X10.1, nc_X10.2, pd_5⟩, plainFor_of_name np_X10, by decide⟩
theorem mv_X10_at : q_MV yX10_at := ⟨q_mem (tb_3 (List.mem_of_getElem? (i := 68) rfl)) rfl, q_mem (tb_3 (List.mem_of_getElem? (i := 69) rfl)) rfl⟩
theorem mb_X10_check : q_MB yX10_check cX10_check 4 (some .int) 1 := ⟨q_mem (tb_5 (List.mem_of_getElem? (i := 105) rfl)) rfl, ni_X10, ⟨nc_X10.1, nc_X10.2, pd_5⟩, plainFor_of_name np_X10, by decide⟩
theorem mv_X10_check : q_MV yX10_check := ⟨q_mem (tb_5 (List.mem_of_getElem? (i := 103) rfl)) rfl, q_mem (tb_5 (List.mem_of_getElem? (i := 104) rfl)) rfl⟩
theorem mb_X10_init : q_MB yX10_init cX10_init 2 none 1 := ⟨q_mem (tb_1 (List.mem_of_getElem? (i := 34) rfl)) rfl, ni_X10, ⟨nc_X10.1, nc_X10.2, pd_7⟩, plainFor_of_name np_X10, by decide⟩
theorem mb_X10_put : q_MB yX10_put cX10_put 2 none 1 := ⟨q_mem (tb_3 (List.mem_of_getElem? (i := 42) rfl)) rfl, ni_X10, ⟨nc_X10.1, nc_X10.2, pd_7⟩, plainFor_of_name np_X10, by decide⟩
theorem mv_X10_put : q_MV yX10_put := ⟨q_mem (tb_3 (List.mem_of_getElem? (i := 40) rfl)) rfl, q_mem (tb_3 (List.mem_of_getElem? (i := 41) rfl)) rfl⟩
theorem mb_X10_putFour : q_MB yX10_putFour cX10_putFour 2 none 1 := ⟨q_mem (tb_3 (List.mem_of_getElem? (i := 34) rfl)) rfl, ni_X10, ⟨nc_X10.1, nc_X10.2, pd_7⟩, plainFor_of_name np_X10, by decide⟩
theorem mv_X10_putFour : q_MV yX10_putFour := ⟨q_mem (tb_3 (List.mem_of_getElem? (i := 32) rfl)) rfl, q_mem (tb_3 (List.mem_of_getElem? (i := 33) rfl)) rfl⟩
theorem mb_X10_putTwo : q_MB yX10_putTwo cX10_putTwo 2 none 1 := ⟨q_mem (tb_3 (List.mem_of_getElem? (i := 38) rfl)) rfl, ni_X10, ⟨nc_X10.1, nc_X10.2, pd_7⟩, plainFor_of_name np_X10, by decide⟩
theorem mv_X10_putTwo : q_MV yX10_putTwo := ⟨q_mem (tb_3 (List.mem_of_getElem? (i := 36) rfl)) rfl, q_mem (tb_3 (List.mem_of_getElem? (i := 37) rfl)) rfl⟩
theorem mb_X10_twoAt : q_MB yX10_twoAt cX10_twoAt 2 (some .int) 1 := ⟨q_mem (tb_4 (List.mem_of_getElem? (i := 234) rfl)) rfl, ni_X10, ⟨nc_X10.1, nc_X10.2, pd_5⟩, plainFor_of_name np_X10, by decide⟩
theorem mv_X10_twoAt : q_MV yX10_twoAt := ⟨q_mem (tb_4 (List.mem_of_getElem? (i := 232) rfl)) rfl, q_mem (tb_4 (List.mem_of_getElem? (i := 233) rfl)) rfl⟩
theorem mb_X11_answerSum : q_MB yX11_answerSum cX11_answerSum 7 (some .long) 1 := ⟨q_mem (tb_5 (List.mem_of_getElem? (i := 91) rfl)) rfl, ni_X11, ⟨nc_X11.1, nc_X11.2, pd_6⟩, plainFor_of_name np_X11, by decide⟩
theorem mv_X11_answerSum : q_MV yX11_answerSum := ⟨q_mem (tb_5 (List.mem_of_getElem? (i := 90) rfl)) rfl, q_mem (tp_3 (List.mem_of_getElem? (i := 6) rfl)) rfl⟩
theorem mb_X11_answerTest : q_MB yX11_answerTest cX11_answerTest 5 (some .long) 1 := ⟨q_mem (tb_5 (List.mem_of_getElem? (i := 82) rfl)) rfl, ni_X11, ⟨nc_X11.1, nc_X11.2, pd_6⟩, plainFor_of_name np_X11, by decide⟩
theorem mv_X11_answerTest : q_MV yX11_answerTest := ⟨q_mem (tb_5 (List.mem_of_getElem? (i := 81) rfl)) rfl, q_mem (tp_3 (List.mem_of_getElem? (i := 4) rfl)) rfl⟩
theorem mb_X11_ask : q_MB yX11_ask cX11_ask 2 (some .long) 0 := ⟨q_mem (tb_5 (List.mem_of_getElem? (i := 67) rfl)) rfl, ni_X11, ⟨nc_X11.1, nc_X11.2, pd_1⟩, plainFor_of_name np_X11, by decide⟩
theorem mv_X11_ask : q_MV yX11_ask := ⟨q_mem (tb_5 (List.mem_of_getElem? (i := 65) rfl)) rfl, q_mem (tb_5 (List.mem_of_getElem? (i := 66) rfl)) rfl⟩
theorem mb_X11_blocked : q_MB yX11_blocked cX11_blocked 2 (some .int) 1 := ⟨q_mem (tb_4 (List.mem_of_getElem? (i := 179) rfl)) rfl, ni_X11, ⟨nc_X11.1, nc_X11.2, pd_5⟩, plainFor_of_name np_X11, by decide⟩
theorem mv_X11_blocked : q_MV yX11_blocked := ⟨q_mem (tb_4 (List.mem_of_getElem? (i := 177) rfl)) rfl, q_mem (tb_4 (List.mem_of_getElem? (i := 178) rfl)) rfl⟩
theorem mb_X11_bridge : q_MB yX11_bridge cX11_bridge 6 (some .int) 2 := ⟨q_mem (tb_4 (List.mem_of_getElem? (i := 204) rfl)) rfl, ni_X11, ⟨nc_X11.1, nc_X11.2, pd_9⟩, plainFor_of_name np_X11, by decide⟩
theorem mv_X11_bridge : q_MV yX11_bridge := ⟨q_mem (tb_4 (List.mem_of_getElem? (i := 202) rfl)) rfl, q_mem (tb_4 (List.mem_of_getElem? (i := 203) rfl)) rfl⟩
theorem mb_X11_buy : q_MB yX11_buy cX11_buy 3 (some .boolean) 2 := ⟨q_mem (tb_5 (List.mem_of_getElem? (i := 30) rfl)) rfl, ni_X11, ⟨nc_X11.1, nc_X11.2, pd_12⟩, plainFor_of_name np_X11, by decide⟩
theorem mv_X11_buy : q_MV yX11_buy := ⟨q_mem (tb_5 (List.mem_of_getElem? (i := 28) rfl)) rfl, q_mem (tb_5 (List.mem_of_getElem? (i := 29) rfl)) rfl⟩
theorem mb_X11_buys : q_MB yX11_buys cX11_buys 4 (some .int) 3 := ⟨q_mem (tb_4 (List.mem_of_getElem? (i := 134) rfl)) rfl, ni_X11, ⟨nc_X11.1, nc_X11.2, pd_13⟩, plainFor_of_name np_X11, by decide⟩
theorem mv_X11_buys : q_MV yX11_buys := ⟨q_mem (tb_4 (List.mem_of_getElem? (i := 132) rfl)) rfl, q_mem (tb_4 (List.mem_of_getElem? (i := 133) rfl)) rfl⟩
theorem mb_X11_canBuy : q_MB yX11_canBuy cX11_canBuy 3 (some .boolean) 2 := ⟨q_mem (tb_5 (List.mem_of_getElem? (i := 34) rfl)) rfl, ni_X11, ⟨nc_X11.1, nc_X11.2, pd_12⟩, plainFor_of_name np_X11, by decide⟩
theorem mv_X11_canBuy : q_MV yX11_canBuy := ⟨q_mem (tb_5 (List.mem_of_getElem? (i := 33) rfl)) rfl, q_mem (tp_3 (List.mem_of_getElem? (i := 2) rfl)) rfl⟩
theorem mb_X11_canWait : q_MB yX11_canWait cX11_canWait 2 (some .boolean) 1 := ⟨q_mem (tb_5 (List.mem_of_getElem? (i := 26) rfl)) rfl, ni_X11, ⟨nc_X11.1, nc_X11.2, pd_8⟩, plainFor_of_name np_X11, by decide⟩
theorem mv_X11_canWait : q_MV yX11_canWait := ⟨q_mem (tb_5 (List.mem_of_getElem? (i := 25) rfl)) rfl, q_mem (tp_3 (List.mem_of_getElem? (i := 1) rfl)) rfl⟩
theorem mb_X11_chalked : q_MB yX11_chalked cX11_chalked 7 (some .int) 3 := ⟨q_mem (tb_4 (List.mem_of_getElem? (i := 216) rfl)) rfl, ni_X11, ⟨nc_X11.1, nc_X11.2, pd_13⟩, plainFor_of_name np_X11, by decide⟩
theorem mv_X11_chalked : q_MV yX11_chalked := ⟨q_mem (tb_4 (List.mem_of_getElem? (i := 214) rfl)) rfl, q_mem (tb_4 (List.mem_of_getElem? (i := 215) rfl)) rfl⟩
theorem mb_X11_chance : q_MB yX11_chance cX11_chance 4 (some .int) 1 := ⟨q_mem (tb_5 (List.mem_of_getElem? (i := 42) rfl)) rfl, ni_X11, ⟨nc_X11.1, nc_X11.2, pd_5⟩, plainFor_of_name np_X11, by decide⟩
theorem mv_X11_chance : q_MV yX11_chance := ⟨q_mem (tb_5 (List.mem_of_getElem? (i := 40) rfl)) rfl, q_mem (tb_5 (List.mem_of_getElem? (i := 41) rfl)) rfl⟩
theorem mb_X11_change : q_MB yX11_change cX11_change 7 (some .int) 3 := ⟨q_mem (tb_4 (List.mem_of_getElem? (i := 212) rfl)) rfl, ni_X11, ⟨nc_X11.1, nc_X11.2, pd_13⟩, plainFor_of_name np_X11, by decide⟩
theorem mv_X11_change : q_MV yX11_change := ⟨q_mem (tb_4 (List.mem_of_getElem? (i := 210) rfl)) rfl, q_mem (tb_4 (List.mem_of_getElem? (i := 211) rfl)) rfl⟩
theorem mb_X11_coin : q_MB yX11_coin cX11_coin 3 (some .int) 2 := ⟨q_mem (tb_4 (List.mem_of_getElem? (i := 73) rfl)) rfl, ni_X11, ⟨nc_X11.1, nc_X11.2, pd_9⟩, plainFor_of_name np_X11, by decide⟩
theorem mv_X11_coin : q_MV yX11_coin := ⟨q_mem (tb_4 (List.mem_of_getElem? (i := 71) rfl)) rfl, q_mem (tb_4 (List.mem_of_getElem? (i := 72) rfl)) rfl⟩
theorem mb_X11_end : q_MB yX11_end cX11_end 2 (some .boolean) 1 := ⟨q_mem (tb_3 (List.mem_of_getElem? (i := 46) rfl)) rfl, ni_X11, ⟨nc_X11.1, nc_X11.2, pd_8⟩, plainFor_of_name np_X11, by decide⟩
theorem mv_X11_end : q_MV yX11_end := ⟨q_mem (tb_3 (List.mem_of_getElem? (i := 44) rfl)) rfl, q_mem (tb_3 (List.mem_of_getElem? (i := 45) rfl)) rfl⟩
theorem mb_X11_fair : q_MB yX11_fair cX11_fair 3 (some .int) 0 := ⟨q_mem (tb_3 (List.mem_of_getElem? (i := 50) rfl)) rfl, ni_X11, ⟨nc_X11.1, nc_X11.2, pd_0⟩, plainFor_of_name np_X11, by decide⟩
theorem mv_X11_fair : q_MV yX11_fair := ⟨q_mem (tb_3 (List.mem_of_getElem? (i := 48) rfl)) rfl, q_mem (tb_3 (List.mem_of_getElem? (i := 49) rfl)) rfl⟩
theorem mb_X11_fault : q_MB yX11_fault cX11_fault 2 (some .int) 1 := ⟨q_mem (tb_4 (List.mem_of_getElem? (i := 32) rfl)) rfl, ni_X11, ⟨nc_X11.1, nc_X11.2, pd_5⟩, plainFor_of_name np_X11, by decide⟩
theorem mv_X11_fault : q_MV yX11_fault := ⟨q_mem (tb_4 (List.mem_of_getElem? (i := 30) rfl)) rfl, q_mem (tb_4 (List.mem_of_getElem? (i := 31) rfl)) rfl⟩
theorem mb_X11_feed : q_MB yX11_feed cX11_feed 6 (some .int) 5 := ⟨q_mem (tb_3 (List.mem_of_getElem? (i := 26) rfl)) rfl, ni_X11, ⟨nc_X11.1, nc_X11.2, pd_16⟩, plainFor_of_name np_X11, by decide⟩
theorem mv_X11_feed : q_MV yX11_feed := ⟨q_mem (tb_3 (List.mem_of_getElem? (i := 24) rfl)) rfl, q_mem (tb_3 (List.mem_of_getElem? (i := 25) rfl)) rfl⟩
theorem mb_X11_firstPaying : q_MB yX11_firstPaying cX11_firstPaying 4 (some .int) 2 := ⟨q_mem (tb_4 (List.mem_of_getElem? (i := 150) rfl)) rfl, ni_X11, ⟨nc_X11.1, nc_X11.2, pd_9⟩, plainFor_of_name np_X11, by decide⟩
theorem mv_X11_firstPaying : q_MV yX11_firstPaying := ⟨q_mem (tb_4 (List.mem_of_getElem? (i := 149) rfl)) rfl, q_mem (tp_2 (List.mem_of_getElem? (i := 12) rfl)) rfl⟩
theorem mb_X11_handy : q_MB yX11_handy cX11_handy 6 (some .int) 1 := ⟨q_mem (tb_4 (List.mem_of_getElem? (i := 196) rfl)) rfl, ni_X11, ⟨nc_X11.1, nc_X11.2, pd_5⟩, plainFor_of_name np_X11, by decide⟩
theorem mv_X11_handy : q_MV yX11_handy := ⟨q_mem (tb_4 (List.mem_of_getElem? (i := 194) rfl)) rfl, q_mem (tb_4 (List.mem_of_getElem? (i := 195) rfl)) rfl⟩
theorem mb_X11_has : q_MB yX11_has cX11_has 2 (some .int) 1 := ⟨q_mem (tb_4 (List.mem_of_getElem? (i := 36) rfl)) rfl, ni_X11, ⟨nc_X11.1, nc_X11.2, pd_5⟩, plainFor_of_name np_X11, by decide⟩
theorem mv_X11_has : q_MV yX11_has := ⟨q_mem (tb_4 (List.mem_of_getElem? (i := 34) rfl)) rfl, q_mem (tb_4 (List.mem_of_getElem? (i := 35) rfl)) rfl⟩
theorem mb_X11_image : q_MB yX11_image cX11_image 1 (some .int) 0 := ⟨q_mem (tb_5 (List.mem_of_getElem? (i := 95) rfl)) rfl, ni_X11, ⟨nc_X11.1, nc_X11.2, pd_0⟩, plainFor_of_name np_X11, by decide⟩
theorem mv_X11_image : q_MV yX11_image := ⟨q_mem (tb_5 (List.mem_of_getElem? (i := 93) rfl)) rfl, q_mem (tb_5 (List.mem_of_getElem? (i := 94) rfl)) rfl⟩
theorem mb_X11_init : q_MB yX11_init cX11_init 1 none 0 := ⟨q_mem (tb_1 (List.mem_of_getElem? (i := 26) rfl)) rfl, ni_X11, ⟨nc_X11.1, nc_X11.2, pd_2⟩, plainFor_of_name np_X11, by decide⟩
theorem mb_X11_isCoin : q_MB yX11_isCoin cX11_isCoin 2 (some .boolean) 1 := ⟨q_mem (tb_4 (List.mem_of_getElem? (i := 61) rfl)) rfl, ni_X11, ⟨nc_X11.1, nc_X11.2, pd_8⟩, plainFor_of_name np_X11, by decide⟩
theorem mv_X11_isCoin : q_MV yX11_isCoin := ⟨q_mem (tb_4 (List.mem_of_getElem? (i := 60) rfl)) rfl, q_mem (tp_2 (List.mem_of_getElem? (i := 5) rfl)) rfl⟩
theorem mb_X11_isImage : q_MB yX11_isImage cX11_isImage 3 (some .boolean) 0 := ⟨q_mem (tb_5 (List.mem_of_getElem? (i := 118) rfl)) rfl, ni_X11, ⟨nc_X11.1, nc_X11.2, pd_3⟩, plainFor_of_name np_X11, by decide⟩
theorem mv_X11_isImage : q_MV yX11_isImage := ⟨q_mem (tb_5 (List.mem_of_getElem? (i := 117) rfl)) rfl, q_mem (tp_3 (List.mem_of_getElem? (i := 7) rfl)) rfl⟩
theorem mb_X11_isMinute : q_MB yX11_isMinute cX11_isMinute 2 (some .boolean) 1 := ⟨q_mem (tb_4 (List.mem_of_getElem? (i := 81) rfl)) rfl, ni_X11, ⟨nc_X11.1, nc_X11.2, pd_8⟩, plainFor_of_name np_X11, by decide⟩
theorem mv_X11_isMinute : q_MV yX11_isMinute := ⟨q_mem (tb_4 (List.mem_of_getElem? (i := 80) rfl)) rfl, q_mem (tp_2 (List.mem_of_getElem? (i := 6) rfl)) rfl⟩
theorem mb_X11_isStall : q_MB yX11_isStall cX11_isStall 2 (some .boolean) 1 := ⟨q_mem (tb_4 (List.mem_of_getElem? (i := 54) rfl)) rfl, ni_X11, ⟨nc_X11.1, nc_X11.2, pd_8⟩, plainFor_of_name np_X11, by decide⟩
theorem mv_X11_isStall : q_MV yX11_isStall := ⟨q_mem (tb_4 (List.mem_of_getElem? (i := 53) rfl)) rfl, q_mem (tp_2 (List.mem_of_getElem? (i := 4) rfl)) rfl⟩
theorem mb_X11_kept : q_MB yX11_kept cX11_kept 3 (some .int) 2 := ⟨q_mem (tb_4 (List.mem_of_getElem? (i := 142) rfl)) rfl, ni_X11, ⟨nc_X11.1, nc_X11.2, pd_9⟩, plainFor_of_name np_X11, by decide⟩
theorem mv_X11_kept : q_MV yX11_kept := ⟨q_mem (tb_4 (List.mem_of_getElem? (i := 140) rfl)) rfl, q_mem (tb_4 (List.mem_of_getElem? (i := 141) rfl)) rfl⟩
theorem mb_X11_lamps : q_MB yX11_lamps cX11_lamps 6 (some .int) 1 := ⟨q_mem (tb_5 (List.mem_of_getElem? (i := 8) rfl)) rfl, ni_X11, ⟨nc_X11.1, nc_X11.2, pd_5⟩, plainFor_of_name np_X11, by decide⟩
theorem mv_X11_lamps : q_MV yX11_lamps := ⟨q_mem (tb_5 (List.mem_of_getElem? (i := 6) rfl)) rfl, q_mem (tb_5 (List.mem_of_getElem? (i := 7) rfl)) rfl⟩
theorem mb_X11_lastPaying : q_MB yX11_lastPaying cX11_lastPaying 4 (some .int) 2 := ⟨q_mem (tb_4 (List.mem_of_getElem? (i := 154) rfl)) rfl, ni_X11, ⟨nc_X11.1, nc_X11.2, pd_9⟩, plainFor_of_name np_X11, by decide⟩
theorem mv_X11_lastPaying : q_MV yX11_lastPaying := ⟨q_mem (tb_4 (List.mem_of_getElem? (i := 153) rfl)) rfl, q_mem (tp_2 (List.mem_of_getElem? (i := 13) rfl)) rfl⟩
theorem mb_X11_lengthTogether : q_MB yX11_lengthTogether cX11_lengthTogether 6 (some .int) 3 := ⟨q_mem (tb_4 (List.mem_of_getElem? (i := 208) rfl)) rfl, ni_X11, ⟨nc_X11.1, nc_X11.2, pd_13⟩, plainFor_of_name np_X11, by decide⟩
theorem mv_X11_lengthTogether : q_MV yX11_lengthTogether := ⟨q_mem (tb_4 (List.mem_of_getElem? (i := 207) rfl)) rfl, q_mem (tp_3 (List.mem_of_getElem? (i := 0) rfl)) rfl⟩
theorem mb_X11_letter : q_MB yX11_letter cX11_letter 4 (some .int) 3 := ⟨q_mem (tb_4 (List.mem_of_getElem? (i := 50) rfl)) rfl, ni_X11, ⟨nc_X11.1, nc_X11.2, pd_13⟩, plainFor_of_name np_X11, by decide⟩
theorem mv_X11_letter : q_MV yX11_letter := ⟨q_mem (tb_4 (List.mem_of_getElem? (i := 48) rfl)) rfl, q_mem (tb_4 (List.mem_of_getElem? (i := 49) rfl)) rfl⟩
theorem mb_X11_letterOf : q_MB yX11_letterOf cX11_letterOf 2 (some .int) 2 := ⟨q_mem (tb_4 (List.mem_of_getElem? (i := 57) rfl)) rfl, ni_X11, ⟨nc_X11.1, nc_X11.2, pd_9⟩, plainFor_of_name np_X11, by decide⟩
theorem ms_X11_letterOf : Cond.static yX11_letterOf ∈ q_gT := q_mem (tb_4 (List.mem_of_getElem? (i := 56) rfl)) rfl
theorem mb_X11_lookAt : q_MB yX11_lookAt cX11_lookAt 3 none 1 := ⟨q_mem (tb_5 (List.mem_of_getElem? (i := 86) rfl)) rfl, ni_X11, ⟨nc_X11.1, nc_X11.2, pd_7⟩, plainFor_of_name np_X11, by decide⟩
theorem mv_X11_lookAt : q_MV yX11_lookAt := ⟨q_mem (tb_5 (List.mem_of_getElem? (i := 85) rfl)) rfl, q_mem (tp_3 (List.mem_of_getElem? (i := 5) rfl)) rfl⟩
theorem mb_X11_minutes : q_MB yX11_minutes cX11_minutes 6 (some .int) 1 := ⟨q_mem (tb_4 (List.mem_of_getElem? (i := 239) rfl)) rfl, ni_X11, ⟨nc_X11.1, nc_X11.2, pd_5⟩, plainFor_of_name np_X11, by decide⟩
theorem mv_X11_minutes : q_MV yX11_minutes := ⟨q_mem (tb_4 (List.mem_of_getElem? (i := 237) rfl)) rfl, q_mem (tb_4 (List.mem_of_getElem? (i := 238) rfl)) rfl⟩
theorem mb_X11_noteFault : q_MB yX11_noteFault cX11_noteFault 1 none 0 := ⟨q_mem (tb_4 (List.mem_of_getElem? (i := 8) rfl)) rfl, ni_X11, ⟨nc_X11.1, nc_X11.2, pd_2⟩, plainFor_of_name np_X11, by decide⟩
theorem mv_X11_noteFault : q_MV yX11_noteFault := ⟨q_mem (tb_4 (List.mem_of_getElem? (i := 7) rfl)) rfl, q_mem (tp_2 (List.mem_of_getElem? (i := 2) rfl)) rfl⟩
theorem mb_X11_octet : q_MB yX11_octet cX11_octet 2 (some .int) 1 := ⟨q_mem (tb_5 (List.mem_of_getElem? (i := 109) rfl)) rfl, ni_X11, ⟨nc_X11.1, nc_X11.2, pd_5⟩, plainFor_of_name np_X11, by decide⟩
theorem mv_X11_octet : q_MV yX11_octet := ⟨q_mem (tb_5 (List.mem_of_getElem? (i := 107) rfl)) rfl, q_mem (tb_5 (List.mem_of_getElem? (i := 108) rfl)) rfl⟩
theorem mb_X11_odd : q_MB yX11_odd cX11_odd 5 (some .int) 3 := ⟨q_mem (tb_4 (List.mem_of_getElem? (i := 200) rfl)) rfl, ni_X11, ⟨nc_X11.1, nc_X11.2, pd_13⟩, plainFor_of_name np_X11, by decide⟩
theorem mv_X11_odd : q_MV yX11_odd := ⟨q_mem (tb_4 (List.mem_of_getElem? (i := 198) rfl)) rfl, q_mem (tb_4 (List.mem_of_getElem? (i := 199) rfl)) rfl⟩
theorem mb_X11_on : q_MB yX11_on cX11_on 2 (some .boolean) 0 := ⟨q_mem (tb_5 (List.mem_of_getElem? (i := 114) rfl)) rfl, ni_X11, ⟨nc_X11.1, nc_X11.2, pd_3⟩, plainFor_of_name np_X11, by decide⟩
theorem mv_X11_on : q_MV yX11_on := ⟨q_mem (tb_5 (List.mem_of_getElem? (i := 112) rfl)) rfl, q_mem (tb_5 (List.mem_of_getElem? (i := 113) rfl)) rfl⟩
theorem mb_X11_pause : q_MB yX11_pause cX11_pause 2 (some .boolean) 1 := ⟨q_mem (tb_5 (List.mem_of_getElem? (i := 22) rfl)) rfl, ni_X11, ⟨nc_X11.1, nc_X11.2, pd_8⟩, plainFor_of_name np_X11, by decide⟩
theorem mv_X11_pause : q_MV yX11_pause := ⟨q_mem (tb_5 (List.mem_of_getElem? (i := 20) rfl)) rfl, q_mem (tb_5 (List.mem_of_getElem? (i := 21) rfl)) rfl⟩
theorem mb_X11_payingStalls : q_MB yX11_payingStalls cX11_payingStalls 5 (some .int) 2 := ⟨q_mem (tb_4 (List.mem_of_getElem? (i := 192) rfl)) rfl, ni_X11, ⟨nc_X11.1, nc_X11.2, pd_9⟩, plainFor_of_name np_X11, by decide⟩
theorem mv_X11_payingStalls : q_MV yX11_payingStalls := ⟨q_mem (tb_4 (List.mem_of_getElem? (i := 191) rfl)) rfl, q_mem (tp_2 (List.mem_of_getElem? (i := 15) rfl)) rfl⟩
theorem mb_X11_readQuestion : q_MB yX11_readQuestion cX11_readQuestion 2 (some .int) 0 := ⟨q_mem (tb_5 (List.mem_of_getElem? (i := 72) rfl)) rfl, ni_X11, ⟨nc_X11.1, nc_X11.2, pd_0⟩, plainFor_of_name np_X11, by decide⟩
theorem mv_X11_readQuestion : q_MV yX11_readQuestion := ⟨q_mem (tb_5 (List.mem_of_getElem? (i := 71) rfl)) rfl, q_mem (tp_3 (List.mem_of_getElem? (i := 3) rfl)) rfl⟩
theorem mb_X11_refuse : q_MB yX11_refuse cX11_refuse 2 (some .int) 1 := ⟨q_mem (tb_3 (List.mem_of_getElem? (i := 30) rfl)) rfl, ni_X11, ⟨nc_X11.1, nc_X11.2, pd_5⟩, plainFor_of_name np_X11, by decide⟩
theorem mv_X11_refuse : q_MV yX11_refuse := ⟨q_mem (tb_3 (List.mem_of_getElem? (i := 29) rfl)) rfl, q_mem (tp_1 (List.mem_of_getElem? (i := 0) rfl)) rfl⟩
theorem mb_X11_round : q_MB yX11_round cX11_round 3 (some .int) 2 := ⟨q_mem (tb_4 (List.mem_of_getElem? (i := 158) rfl)) rfl, ni_X11, ⟨nc_X11.1, nc_X11.2, pd_9⟩, plainFor_of_name np_X11, by decide⟩
theorem mv_X11_round : q_MV yX11_round := ⟨q_mem (tb_4 (List.mem_of_getElem? (i := 156) rfl)) rfl, q_mem (tb_4 (List.mem_of_getElem? (i := 157) rfl)) rfl⟩
theorem mb_X11_see : q_MB yX11_see cX11_see 2 (some .int) 0 := ⟨q_mem (tb_4 (List.mem_of_getElem? (i := 220) rfl)) rfl, ni_X11, ⟨nc_X11.1, nc_X11.2, pd_0⟩, plainFor_of_name np_X11, by decide⟩
theorem mv_X11_see : q_MV yX11_see := ⟨q_mem (tb_4 (List.mem_of_getElem? (i := 218) rfl)) rfl, q_mem (tb_4 (List.mem_of_getElem? (i := 219) rfl)) rfl⟩
theorem mb_X11_seed : q_MB yX11_seed cX11_seed 2 (some .boolean) 1 := ⟨q_mem (tb_5 (List.mem_of_getElem? (i := 63) rfl)) rfl, ni_X11, ⟨nc_X11.1, nc_X11.2, pd_8⟩, plainFor_of_name np_X11, by decide⟩
theorem mv_X11_seed : q_MV yX11_seed := ⟨q_mem (tb_5 (List.mem_of_getElem? (i := 61) rfl)) rfl, q_mem (tb_5 (List.mem_of_getElem? (i := 62) rfl)) rfl⟩
theorem mb_X11_shadow : q_MB yX11_shadow cX11_shadow 4 (some .int) 3 := ⟨q_mem (tb_4 (List.mem_of_getElem? (i := 77) rfl)) rfl, ni_X11, ⟨nc_X11.1, nc_X11.2, pd_13⟩, plainFor_of_name np_X11, by decide⟩
theorem mv_X11_shadow : q_MV yX11_shadow := ⟨q_mem (tb_4 (List.mem_of_getElem? (i := 75) rfl)) rfl, q_mem (tb_4 (List.mem_of_getElem? (i := 76) rfl)) rfl⟩
theorem mb_X11_stall : q_MB yX11_stall cX11_stall 3 (some .int) 2 := ⟨q_mem (tb_4 (List.mem_of_getElem? (i := 65) rfl)) rfl, ni_X11, ⟨nc_X11.1, nc_X11.2, pd_9⟩, plainFor_of_name np_X11, by decide⟩
theorem mv_X11_stall : q_MV yX11_stall := ⟨q_mem (tb_4 (List.mem_of_getElem? (i := 63) rfl)) rfl, q_mem (tb_4 (List.mem_of_getElem? (i := 64) rfl)) rfl⟩
theorem mb_X11_status : q_MB yX11_status cX11_status 2 (some .int) 1 := ⟨q_mem (tb_5 (List.mem_of_getElem? (i := 133) rfl)) rfl, ni_X11, ⟨nc_X11.1, nc_X11.2, pd_5⟩, plainFor_of_name np_X11, by decide⟩
theorem mv_X11_status : q_MV yX11_status := ⟨q_mem (tb_5 (List.mem_of_getElem? (i := 131) rfl)) rfl, q_mem (tb_5 (List.mem_of_getElem? (i := 132) rfl)) rfl⟩
theorem mb_X11_strike : q_MB yX11_strike cX11_strike 7 (some .int) 2 := ⟨q_mem (tb_4 (List.mem_of_getElem? (i := 188) rfl)) rfl, ni_X11, ⟨nc_X11.1, nc_X11.2, pd_9⟩, plainFor_of_name np_X11, by decide⟩
theorem mv_X11_strike : q_MV yX11_strike := ⟨q_mem (tb_4 (List.mem_of_getElem? (i := 186) rfl)) rfl, q_mem (tb_4 (List.mem_of_getElem? (i := 187) rfl)) rfl⟩
theorem mb_X11_undo : q_MB yX11_undo cX11_undo 1 (some .boolean) 0 := ⟨q_mem (tb_5 (List.mem_of_getElem? (i := 55) rfl)) rfl, ni_X11, ⟨nc_X11.1, nc_X11.2, pd_3⟩, plainFor_of_name np_X11, by decide⟩
theorem mv_X11_undo : q_MV yX11_undo := ⟨q_mem (tb_5 (List.mem_of_getElem? (i := 53) rfl)) rfl, q_mem (tb_5 (List.mem_of_getElem? (i := 54) rfl)) rfl⟩
theorem mb_X11_walk : q_MB yX11_walk cX11_walk 3 (some .int) 1 := ⟨q_mem (tb_5 (List.mem_of_getElem? (i := 12) rfl)) rfl, ni_X11, ⟨nc_X11.1, nc_X11.2, pd_5⟩, plainFor_of_name np_X11, by decide⟩
theorem mv_X11_walk : q_MV yX11_walk := ⟨q_mem (tb_5 (List.mem_of_getElem? (i := 10) rfl)) rfl, q_mem (tb_5 (List.mem_of_getElem? (i := 11) rfl)) rfl⟩
theorem mb_X11_when : q_MB yX11_when cX11_when 4 (some .int) 3 := ⟨q_mem (tb_4 (List.mem_of_getElem? (i := 146) rfl)) rfl, ni_X11, ⟨nc_X11.1, nc_X11.2, pd_13⟩, plainFor_of_name np_X11, by decide⟩
theorem mv_X11_when : q_MV yX11_when := ⟨q_mem (tb_4 (List.mem_of_getElem? (i := 144) rfl)) rfl, q_mem (tb_4 (List.mem_of_getElem? (i := 145) rfl)) rfl⟩
theorem mb_X12_apart : q_MB yX12_apart cX12_apart 2 (some .int) 2 := ⟨q_mem (tb_8 (List.mem_of_getElem? (i := 54) rfl)) rfl, ni_X12, ⟨nc_X12.1, nc_X12.2, pd_9⟩, plainFor_of_name np_X12, by decide⟩
theorem ms_X12_apart : Cond.static yX12_apart ∈ q_gT := q_mem (tb_8 (List.mem_of_getElem? (i := 53) rfl)) rfl
theorem mb_X12_ask : q_MB yX12_ask cX12_ask 3 (some .long) 0 := ⟨q_mem (tb_8 (List.mem_of_getElem? (i := 163) rfl)) rfl, ni_X12, ⟨nc_X12.1, nc_X12.2, pd_1⟩, plainFor_of_name np_X12, by decide⟩
theorem mv_X12_ask : q_MV yX12_ask := ⟨q_mem (tb_8 (List.mem_of_getElem? (i := 161) rfl)) rfl, q_mem (tb_8 (List.mem_of_getElem? (i := 162) rfl)) rfl⟩
theorem mb_X12_asks : q_MB yX12_asks cX12_asks 2 none 1 := ⟨q_mem (tb_6 (List.mem_of_getElem? (i := 229) rfl)) rfl, ni_X12, ⟨nc_X12.1, nc_X12.2, pd_41⟩, plainFor_of_name np_X12, by decide⟩
theorem mv_X12_asks : q_MV yX12_asks := ⟨q_mem (tb_6 (List.mem_of_getElem? (i := 228) rfl)) rfl, q_mem (tp_3 (List.mem_of_getElem? (i := 9) rfl)) rfl⟩
theorem mb_X12_asksSign : q_MB yX12_asksSign cX12_asksSign 2 none 1 := ⟨q_mem (tb_7 (List.mem_of_getElem? (i := 22) rfl)) rfl, ni_X12, ⟨nc_X12.1, nc_X12.2, pd_7⟩, plainFor_of_name np_X12, by decide⟩
theorem mv_X12_asksSign : q_MV yX12_asksSign := ⟨q_mem (tb_7 (List.mem_of_getElem? (i := 21) rfl)) rfl, q_mem (tp_3 (List.mem_of_getElem? (i := 15) rfl)) rfl⟩
theorem mb_X12_bits : q_MB yX12_bits cX12_bits 3 (some .int) 1 := ⟨q_mem (tb_7 (List.mem_of_getElem? (i := 162) rfl)) rfl, ni_X12, ⟨nc_X12.1, nc_X12.2, pd_5⟩, plainFor_of_name np_X12, by decide⟩
theorem ms_X12_bits : Cond.static yX12_bits ∈ q_gT := q_mem (tb_7 (List.mem_of_getElem? (i := 161) rfl)) rfl
theorem mb_X12_blocked : q_MB yX12_blocked cX12_blocked 5 (some .int) 1 := ⟨q_mem (tb_8 (List.mem_of_getElem? (i := 62) rfl)) rfl, ni_X12, ⟨nc_X12.1, nc_X12.2, pd_5⟩, plainFor_of_name np_X12, by decide⟩
theorem mv_X12_blocked : q_MV yX12_blocked := ⟨q_mem (tb_8 (List.mem_of_getElem? (i := 60) rfl)) rfl, q_mem (tb_8 (List.mem_of_getElem? (i := 61) rfl)) rfl⟩
theorem mb_X12_bridge : q_MB yX12_bridge cX12_bridge 7 (some .int) 2 := ⟨q_mem (tb_8 (List.mem_of_getElem? (i := 82) rfl)) rfl, ni_X12, ⟨nc_X12.1, nc_X12.2, pd_9⟩, plainFor_of_name np_X12, by decide⟩
theorem mv_X12_bridge : q_MV yX12_bridge := ⟨q_mem (tb_8 (List.mem_of_getElem? (i := 80) rfl)) rfl, q_mem (tb_8 (List.mem_of_getElem? (i := 81) rfl)) rfl⟩
theorem mb_X12_buy : q_MB yX12_buy cX12_buy 3 (some .boolean) 2 := ⟨q_mem (tb_8 (List.mem_of_getElem? (i := 139) rfl)) rfl, ni_X12, ⟨nc_X12.1, nc_X12.2, pd_12⟩, plainFor_of_name np_X12, by decide⟩
theorem mv_X12_buy : q_MV yX12_buy := ⟨q_mem (tb_8 (List.mem_of_getElem? (i := 137) rfl)) rfl, q_mem (tb_8 (List.mem_of_getElem? (i := 138) rfl)) rfl⟩
theorem mb_X12_buys : q_MB yX12_buys cX12_buys 4 (some .int) 3 := ⟨q_mem (tb_8 (List.mem_of_getElem? (i := 10) rfl)) rfl, ni_X12, ⟨nc_X12.1, nc_X12.2, pd_13⟩, plainFor_of_name np_X12, by decide⟩
theorem mv_X12_buys : q_MV yX12_buys := ⟨q_mem (tb_8 (List.mem_of_getElem? (i := 8) rfl)) rfl, q_mem (tb_8 (List.mem_of_getElem? (i := 9) rfl)) rfl⟩
theorem mb_X12_canWait : q_MB yX12_canWait cX12_canWait 2 (some .boolean) 1 := ⟨q_mem (tb_8 (List.mem_of_getElem? (i := 134) rfl)) rfl, ni_X12, ⟨nc_X12.1, nc_X12.2, pd_8⟩, plainFor_of_name np_X12, by decide⟩
theorem mv_X12_canWait : q_MV yX12_canWait := ⟨q_mem (tb_8 (List.mem_of_getElem? (i := 133) rfl)) rfl, q_mem (tp_7 (List.mem_of_getElem? (i := 10) rfl)) rfl⟩
theorem mb_X12_chalked : q_MB yX12_chalked cX12_chalked 9 (some .int) 3 := ⟨q_mem (tb_8 (List.mem_of_getElem? (i := 94) rfl)) rfl, ni_X12, ⟨nc_X12.1, nc_X12.2, pd_13⟩, plainFor_of_name np_X12, by decide⟩
theorem mv_X12_chalked : q_MV yX12_chalked := ⟨q_mem (tb_8 (List.mem_of_getElem? (i := 92) rfl)) rfl, q_mem (tb_8 (List.mem_of_getElem? (i := 93) rfl)) rfl⟩
theorem mb_X12_chance : q_MB yX12_chance cX12_chance 5 (some .int) 1 := ⟨q_mem (tb_8 (List.mem_of_getElem? (i := 151) rfl)) rfl, ni_X12, ⟨nc_X12.1, nc_X12.2, pd_5⟩, plainFor_of_name np_X12, by decide⟩
theorem mv_X12_chance : q_MV yX12_chance := ⟨q_mem (tb_8 (List.mem_of_getElem? (i := 149) rfl)) rfl, q_mem (tb_8 (List.mem_of_getElem? (i := 150) rfl)) rfl⟩
theorem mb_X12_change : q_MB yX12_change cX12_change 6 (some .int) 3 := ⟨q_mem (tb_8 (List.mem_of_getElem? (i := 90) rfl)) rfl, ni_X12, ⟨nc_X12.1, nc_X12.2, pd_13⟩, plainFor_of_name np_X12, by decide⟩
theorem mv_X12_change : q_MV yX12_change := ⟨q_mem (tb_8 (List.mem_of_getElem? (i := 88) rfl)) rfl, q_mem (tb_8 (List.mem_of_getElem? (i := 89) rfl)) rfl⟩
theorem mb_X12_checked : q_MB yX12_checked cX12_checked 4 (some .int) 2 := ⟨q_mem (tb_8 (List.mem_of_getElem? (i := 195) rfl)) rfl, ni_X12, ⟨nc_X12.1, nc_X12.2, pd_43⟩, plainFor_of_name np_X12, by decide⟩
theorem ms_X12_checked : Cond.static yX12_checked ∈ q_gT := q_mem (tb_8 (List.mem_of_getElem? (i := 194) rfl)) rfl
theorem mb_X12_cloudTold : q_MB yX12_cloudTold cX12_cloudTold 4 none 1 := ⟨q_mem (tb_7 (List.mem_of_getElem? (i := 60) rfl)) rfl, ni_X12, ⟨nc_X12.1, nc_X12.2, pd_7⟩, plainFor_of_name np_X12, by decide⟩
theorem mv_X12_cloudTold : q_MV yX12_cloudTold := ⟨q_mem (tb_7 (List.mem_of_getElem? (i := 59) rfl)) rfl, q_mem (tp_4 (List.mem_of_getElem? (i := 8) rfl)) rfl⟩
theorem mb_X12_codesTell : q_MB yX12_codesTell cX12_codesTell 5 (some .long) 2 := ⟨q_mem (tb_7 (List.mem_of_getElem? (i := 216) rfl)) rfl, ni_X12, ⟨nc_X12.1, nc_X12.2, pd_10⟩, plainFor_of_name np_X12, by decide⟩
theorem mv_X12_codesTell : q_MV yX12_codesTell := ⟨q_mem (tb_7 (List.mem_of_getElem? (i := 215) rfl)) rfl, q_mem (tp_6 (List.mem_of_getElem? (i := 7) rfl)) rfl⟩
theorem mb_X12_codesTold : q_MB yX12_codesTold cX12_codesTold 4 none 2 := ⟨q_mem (tb_7 (List.mem_of_getElem? (i := 64) rfl)) rfl, ni_X12, ⟨nc_X12.1, nc_X12.2, pd_11⟩, plainFor_of_name np_X12, by decide⟩
theorem mv_X12_codesTold : q_MV yX12_codesTold := ⟨q_mem (tb_7 (List.mem_of_getElem? (i := 63) rfl)) rfl, q_mem (tp_4 (List.mem_of_getElem? (i := 9) rfl)) rfl⟩
theorem mb_X12_coin : q_MB yX12_coin cX12_coin 3 (some .int) 2 := ⟨q_mem (tb_7 (List.mem_of_getElem? (i := 192) rfl)) rfl, ni_X12, ⟨nc_X12.1, nc_X12.2, pd_9⟩, plainFor_of_name np_X12, by decide⟩
theorem mv_X12_coin : q_MV yX12_coin := ⟨q_mem (tb_7 (List.mem_of_getElem? (i := 190) rfl)) rfl, q_mem (tb_7 (List.mem_of_getElem? (i := 191) rfl)) rfl⟩
theorem mb_X12_coinMany : q_MB yX12_coinMany cX12_coinMany 1 (some .int) 0 := ⟨q_mem (tb_7 (List.mem_of_getElem? (i := 200) rfl)) rfl, ni_X12, ⟨nc_X12.1, nc_X12.2, pd_0⟩, plainFor_of_name np_X12, by decide⟩
theorem mv_X12_coinMany : q_MV yX12_coinMany := ⟨q_mem (tb_7 (List.mem_of_getElem? (i := 199) rfl)) rfl, q_mem (tp_6 (List.mem_of_getElem? (i := 4) rfl)) rfl⟩
theorem mb_X12_coinTold : q_MB yX12_coinTold cX12_coinTold 6 none 1 := ⟨q_mem (tb_7 (List.mem_of_getElem? (i := 56) rfl)) rfl, ni_X12, ⟨nc_X12.1, nc_X12.2, pd_7⟩, plainFor_of_name np_X12, by decide⟩
theorem mv_X12_coinTold : q_MV yX12_coinTold := ⟨q_mem (tb_7 (List.mem_of_getElem? (i := 55) rfl)) rfl, q_mem (tp_4 (List.mem_of_getElem? (i := 7) rfl)) rfl⟩
theorem mb_X12_doesBuy : q_MB yX12_doesBuy cX12_doesBuy 5 (some .boolean) 3 := ⟨q_mem (tb_8 (List.mem_of_getElem? (i := 14) rfl)) rfl, ni_X12, ⟨nc_X12.1, nc_X12.2, pd_14⟩, plainFor_of_name np_X12, by decide⟩
theorem mv_X12_doesBuy : q_MV yX12_doesBuy := ⟨q_mem (tb_8 (List.mem_of_getElem? (i := 13) rfl)) rfl, q_mem (tp_6 (List.mem_of_getElem? (i := 13) rfl)) rfl⟩
theorem mb_X12_doesBuyAnywhere : q_MB yX12_doesBuyAnywhere cX12_doesBuyAnywhere 4 (some .boolean) 2 := ⟨q_mem (tb_8 (List.mem_of_getElem? (i := 70) rfl)) rfl, ni_X12, ⟨nc_X12.1, nc_X12.2, pd_12⟩, plainFor_of_name np_X12, by decide⟩
theorem mv_X12_doesBuyAnywhere : q_MV yX12_doesBuyAnywhere := ⟨q_mem (tb_8 (List.mem_of_getElem? (i := 69) rfl)) rfl, q_mem (tp_7 (List.mem_of_getElem? (i := 5) rfl)) rfl⟩
theorem mb_X12_drawOf : q_MB yX12_drawOf cX12_drawOf 2 (some .int) 1 := ⟨q_mem (tb_8 (List.mem_of_getElem? (i := 155) rfl)) rfl, ni_X12, ⟨nc_X12.1, nc_X12.2, pd_5⟩, plainFor_of_name np_X12, by decide⟩
theorem mv_X12_drawOf : q_MV yX12_drawOf := ⟨q_mem (tb_8 (List.mem_of_getElem? (i := 154) rfl)) rfl, q_mem (tp_7 (List.mem_of_getElem? (i := 12) rfl)) rfl⟩
theorem mb_X12_end : q_MB yX12_end cX12_end 2 (some .boolean) 1 := ⟨q_mem (tb_6 (List.mem_of_getElem? (i := 217) rfl)) rfl, ni_X12, ⟨nc_X12.1, nc_X12.2, pd_8⟩, plainFor_of_name np_X12, by decide⟩
theorem mv_X12_end : q_MV yX12_end := ⟨q_mem (tb_6 (List.mem_of_getElem? (i := 215) rfl)) rfl, q_mem (tb_6 (List.mem_of_getElem? (i := 216) rfl)) rfl⟩
theorem mb_X12_fail : q_MB yX12_fail cX12_fail 3 none 2 := ⟨q_mem (tb_7 (List.mem_of_getElem? (i := 8) rfl)) rfl, ni_X12, ⟨nc_X12.1, nc_X12.2, pd_11⟩, plainFor_of_name np_X12, by decide⟩
theorem mv_X12_fail : q_MV yX12_fail := ⟨q_mem (tb_7 (List.mem_of_getElem? (i := 7) rfl)) rfl, q_mem (tp_3 (List.mem_of_getElem? (i := 13) rfl)) rfl⟩
theorem mb_X12_fair : q_MB yX12_fair cX12_fair 2 (some .int) 0 := ⟨q_mem (tb_6 (List.mem_of_getElem? (i := 221) rfl)) rfl, ni_X12, ⟨nc_X12.1, nc_X12.2, pd_0⟩, plainFor_of_name np_X12, by decide⟩
theorem mv_X12_fair : q_MV yX12_fair := ⟨q_mem (tb_6 (List.mem_of_getElem? (i := 219) rfl)) rfl, q_mem (tb_6 (List.mem_of_getElem? (i := 220) rfl)) rfl⟩
theorem mb_X12_fairMinutes : q_MB yX12_fairMinutes cX12_fairMinutes 1 (some .int) 0 := ⟨q_mem (tb_7 (List.mem_of_getElem? (i := 159) rfl)) rfl, ni_X12, ⟨nc_X12.1, nc_X12.2, pd_0⟩, plainFor_of_name np_X12, by decide⟩
theorem mv_X12_fairMinutes : q_MV yX12_fairMinutes := ⟨q_mem (tb_7 (List.mem_of_getElem? (i := 158) rfl)) rfl, q_mem (tp_5 (List.mem_of_getElem? (i := 14) rfl)) rfl⟩
theorem mb_X12_fairTold : q_MB yX12_fairTold cX12_fairTold 1 none 0 := ⟨q_mem (tb_6 (List.mem_of_getElem? (i := 225) rfl)) rfl, ni_X12, ⟨nc_X12.1, nc_X12.2, pd_2⟩, plainFor_of_name np_X12, by decide⟩
theorem mv_X12_fairTold : q_MV yX12_fairTold := ⟨q_mem (tb_6 (List.mem_of_getElem? (i := 224) rfl)) rfl, q_mem (tp_3 (List.mem_of_getElem? (i := 8) rfl)) rfl⟩
theorem mb_X12_fault : q_MB yX12_fault cX12_fault 2 (some .int) 1 := ⟨q_mem (tb_7 (List.mem_of_getElem? (i := 151) rfl)) rfl, ni_X12, ⟨nc_X12.1, nc_X12.2, pd_5⟩, plainFor_of_name np_X12, by decide⟩
theorem mv_X12_fault : q_MV yX12_fault := ⟨q_mem (tb_7 (List.mem_of_getElem? (i := 149) rfl)) rfl, q_mem (tb_7 (List.mem_of_getElem? (i := 150) rfl)) rfl⟩
theorem mb_X12_feed : q_MB yX12_feed cX12_feed 8 (some .int) 5 := ⟨q_mem (tb_6 (List.mem_of_getElem? (i := 213) rfl)) rfl, ni_X12, ⟨nc_X12.1, nc_X12.2, pd_16⟩, plainFor_of_name np_X12, by decide⟩
theorem mv_X12_feed : q_MV yX12_feed := ⟨q_mem (tb_6 (List.mem_of_getElem? (i := 211) rfl)) rfl, q_mem (tb_6 (List.mem_of_getElem? (i := 212) rfl)) rfl⟩
theorem mb_X12_handy : q_MB yX12_handy cX12_handy 7 (some .int) 1 := ⟨q_mem (tb_8 (List.mem_of_getElem? (i := 74) rfl)) rfl, ni_X12, ⟨nc_X12.1, nc_X12.2, pd_5⟩, plainFor_of_name np_X12, by decide⟩
theorem mv_X12_handy : q_MV yX12_handy := ⟨q_mem (tb_8 (List.mem_of_getElem? (i := 72) rfl)) rfl, q_mem (tb_8 (List.mem_of_getElem? (i := 73) rfl)) rfl⟩
theorem mb_X12_has : q_MB yX12_has cX12_has 2 (some .int) 1 := ⟨q_mem (tb_7 (List.mem_of_getElem? (i := 155) rfl)) rfl, ni_X12, ⟨nc_X12.1, nc_X12.2, pd_5⟩, plainFor_of_name np_X12, by decide⟩
theorem mv_X12_has : q_MV yX12_has := ⟨q_mem (tb_7 (List.mem_of_getElem? (i := 153) rfl)) rfl, q_mem (tb_7 (List.mem_of_getElem? (i := 154) rfl)) rfl⟩
theorem mb_X12_image : q_MB yX12_image cX12_image 2 (some .int) 0 := ⟨q_mem (tb_8 (List.mem_of_getElem? (i := 188) rfl)) rfl, ni_X12, ⟨nc_X12.1, nc_X12.2, pd_0⟩, plainFor_of_name np_X12, by decide⟩
theorem mv_X12_image : q_MV yX12_image := ⟨q_mem (tb_8 (List.mem_of_getElem? (i := 186) rfl)) rfl, q_mem (tb_8 (List.mem_of_getElem? (i := 187) rfl)) rfl⟩
theorem mb_X12_init : q_MB yX12_init cX12_init 1 none 0 := ⟨q_mem (tb_5 (List.mem_of_getElem? (i := 138) rfl)) rfl, ni_X12, ⟨nc_X12.1, nc_X12.2, pd_2⟩, plainFor_of_name np_X12, by decide⟩
theorem mb_X12_isAllowed : q_MB yX12_isAllowed cX12_isAllowed 2 (some .boolean) 1 := ⟨q_mem (tb_7 (List.mem_of_getElem? (i := 100) rfl)) rfl, ni_X12, ⟨nc_X12.1, nc_X12.2, pd_8⟩, plainFor_of_name np_X12, by decide⟩
theorem mv_X12_isAllowed : q_MV yX12_isAllowed := ⟨q_mem (tb_7 (List.mem_of_getElem? (i := 99) rfl)) rfl, q_mem (tp_5 (List.mem_of_getElem? (i := 2) rfl)) rfl⟩
theorem mb_X12_isBought : q_MB yX12_isBought cX12_isBought 2 (some .boolean) 1 := ⟨q_mem (tb_7 (List.mem_of_getElem? (i := 188) rfl)) rfl, ni_X12, ⟨nc_X12.1, nc_X12.2, pd_8⟩, plainFor_of_name np_X12, by decide⟩
theorem mv_X12_isBought : q_MV yX12_isBought := ⟨q_mem (tb_7 (List.mem_of_getElem? (i := 187) rfl)) rfl, q_mem (tp_6 (List.mem_of_getElem? (i := 2) rfl)) rfl⟩
theorem mb_X12_isCloud : q_MB yX12_isCloud cX12_isCloud 3 (some .boolean) 1 := ⟨q_mem (tb_7 (List.mem_of_getElem? (i := 166) rfl)) rfl, ni_X12, ⟨nc_X12.1, nc_X12.2, pd_8⟩, plainFor_of_name np_X12, by decide⟩
theorem mv_X12_isCloud : q_MV yX12_isCloud := ⟨q_mem (tb_7 (List.mem_of_getElem? (i := 165) rfl)) rfl, q_mem (tp_5 (List.mem_of_getElem? (i := 15) rfl)) rfl⟩
theorem mb_X12_isCoin : q_MB yX12_isCoin cX12_isCoin 2 (some .boolean) 1 := ⟨q_mem (tb_7 (List.mem_of_getElem? (i := 196) rfl)) rfl, ni_X12, ⟨nc_X12.1, nc_X12.2, pd_8⟩, plainFor_of_name np_X12, by decide⟩
theorem mv_X12_isCoin : q_MV yX12_isCoin := ⟨q_mem (tb_7 (List.mem_of_getElem? (i := 195) rfl)) rfl, q_mem (tp_6 (List.mem_of_getElem? (i := 3) rfl)) rfl⟩
theorem mb_X12_isDigit : q_MB yX12_isDigit cX12_isDigit 1 (some .boolean) 1 := ⟨q_mem (tb_7 (List.mem_of_getElem? (i := 15) rfl)) rfl, ni_X12, ⟨nc_X12.1, nc_X12.2, pd_8⟩, plainFor_of_name np_X12, by decide⟩
theorem ms_X12_isDigit : Cond.static yX12_isDigit ∈ q_gT := q_mem (tb_7 (List.mem_of_getElem? (i := 14) rfl)) rfl
theorem mb_X12_isFull : q_MB yX12_isFull cX12_isFull 4 (some .boolean) 3 := ⟨q_mem (tb_7 (List.mem_of_getElem? (i := 38) rfl)) rfl, ni_X12, ⟨nc_X12.1, nc_X12.2, pd_14⟩, plainFor_of_name np_X12, by decide⟩
theorem mv_X12_isFull : q_MV yX12_isFull := ⟨q_mem (tb_7 (List.mem_of_getElem? (i := 37) rfl)) rfl, q_mem (tp_4 (List.mem_of_getElem? (i := 3) rfl)) rfl⟩
theorem mb_X12_isHere : q_MB yX12_isHere cX12_isHere 4 (some .boolean) 1 := ⟨q_mem (tb_6 (List.mem_of_getElem? (i := 237) rfl)) rfl, ni_X12, ⟨nc_X12.1, nc_X12.2, pd_42⟩, plainFor_of_name np_X12, by decide⟩
theorem mv_X12_isHere : q_MV yX12_isHere := ⟨q_mem (tb_6 (List.mem_of_getElem? (i := 236) rfl)) rfl, q_mem (tp_3 (List.mem_of_getElem? (i := 11) rfl)) rfl⟩
theorem mb_X12_isImage : q_MB yX12_isImage cX12_isImage 3 (some .boolean) 1 := ⟨q_mem (tb_8 (List.mem_of_getElem? (i := 207) rfl)) rfl, ni_X12, ⟨nc_X12.1, nc_X12.2, pd_8⟩, plainFor_of_name np_X12, by decide⟩
theorem mv_X12_isImage : q_MV yX12_isImage := ⟨q_mem (tb_8 (List.mem_of_getElem? (i := 206) rfl)) rfl, q_mem (tp_8 (List.mem_of_getElem? (i := 3) rfl)) rfl⟩
theorem mb_X12_isIn : q_MB yX12_isIn cX12_isIn 6 (some .boolean) 3 := ⟨q_mem (tb_7 (List.mem_of_getElem? (i := 18) rfl)) rfl, ni_X12, ⟨nc_X12.1, nc_X12.2, pd_26⟩, plainFor_of_name np_X12, by decide⟩
theorem ms_X12_isIn : Cond.static yX12_isIn ∈ q_gT := q_mem (tb_7 (List.mem_of_getElem? (i := 17) rfl)) rfl
theorem mb_X12_isKept : q_MB yX12_isKept cX12_isKept 4 none 2 := ⟨q_mem (tb_8 (List.mem_of_getElem? (i := 143) rfl)) rfl, ni_X12, ⟨nc_X12.1, nc_X12.2, pd_11⟩, plainFor_of_name np_X12, by decide⟩
theorem mv_X12_isKept : q_MV yX12_isKept := ⟨q_mem (tb_8 (List.mem_of_getElem? (i := 142) rfl)) rfl, q_mem (tp_7 (List.mem_of_getElem? (i := 11) rfl)) rfl⟩
theorem mb_X12_isLetter : q_MB yX12_isLetter cX12_isLetter 1 (some .boolean) 1 := ⟨q_mem (tb_7 (List.mem_of_getElem? (i := 4) rfl)) rfl, ni_X12, ⟨nc_X12.1, nc_X12.2, pd_8⟩, plainFor_of_name np_X12, by decide⟩
theorem ms_X12_isLetter : Cond.static yX12_isLetter ∈ q_gT := q_mem (tb_7 (List.mem_of_getElem? (i := 3) rfl)) rfl
theorem mb_X12_isMinute : q_MB yX12_isMinute cX12_isMinute 2 (some .boolean) 1 := ⟨q_mem (tb_7 (List.mem_of_getElem? (i := 208) rfl)) rfl, ni_X12, ⟨nc_X12.1, nc_X12.2, pd_8⟩, plainFor_of_name np_X12, by decide⟩
theorem mv_X12_isMinute : q_MV yX12_isMinute := ⟨q_mem (tb_7 (List.mem_of_getElem? (i := 207) rfl)) rfl, q_mem (tp_6 (List.mem_of_getElem? (i := 5) rfl)) rfl⟩
theorem mb_X12_isNextOrder : q_MB yX12_isNextOrder cX12_isNextOrder 6 (some .boolean) 0 := ⟨q_mem (tb_8 (List.mem_of_getElem? (i := 58) rfl)) rfl, ni_X12, ⟨nc_X12.1, nc_X12.2, pd_3⟩, plainFor_of_name np_X12, by decide⟩
theorem mv_X12_isNextOrder : q_MV yX12_isNextOrder := ⟨q_mem (tb_8 (List.mem_of_getElem? (i := 57) rfl)) rfl, q_mem (tp_7 (List.mem_of_getElem? (i := 4) rfl)) rfl⟩
theorem mb_X12_isOwnHere : q_MB yX12_isOwnHere cX12_isOwnHere 2 (some .boolean) 0 := ⟨q_mem (tb_7 (List.mem_of_getElem? (i := 50) rfl)) rfl, ni_X12, ⟨nc_X12.1, nc_X12.2, pd_3⟩, plainFor_of_name np_X12, by decide⟩
theorem mv_X12_isOwnHere : q_MV yX12_isOwnHere := ⟨q_mem (tb_7 (List.mem_of_getElem? (i := 49) rfl)) rfl, q_mem (tp_4 (List.mem_of_getElem? (i := 6) rfl)) rfl⟩
theorem mb_X12_isStall : q_MB yX12_isStall cX12_isStall 3 (some .boolean) 1 := ⟨q_mem (tb_7 (List.mem_of_getElem? (i := 179) rfl)) rfl, ni_X12, ⟨nc_X12.1, nc_X12.2, pd_24⟩, plainFor_of_name np_X12, by decide⟩
theorem mv_X12_isStall : q_MV yX12_isStall := ⟨q_mem (tb_7 (List.mem_of_getElem? (i := 178) rfl)) rfl, q_mem (tp_6 (List.mem_of_getElem? (i := 0) rfl)) rfl⟩
theorem mb_X12_keeps : q_MB yX12_keeps cX12_keeps 2 none 0 := ⟨q_mem (tb_8 (List.mem_of_getElem? (i := 126) rfl)) rfl, ni_X12, ⟨nc_X12.1, nc_X12.2, pd_2⟩, plainFor_of_name np_X12, by decide⟩
theorem mv_X12_keeps : q_MV yX12_keeps := ⟨q_mem (tb_8 (List.mem_of_getElem? (i := 125) rfl)) rfl, q_mem (tp_7 (List.mem_of_getElem? (i := 9) rfl)) rfl⟩
theorem mb_X12_kept : q_MB yX12_kept cX12_kept 3 (some .int) 2 := ⟨q_mem (tb_8 (List.mem_of_getElem? (i := 22) rfl)) rfl, ni_X12, ⟨nc_X12.1, nc_X12.2, pd_9⟩, plainFor_of_name np_X12, by decide⟩
theorem mv_X12_kept : q_MV yX12_kept := ⟨q_mem (tb_8 (List.mem_of_getElem? (i := 20) rfl)) rfl, q_mem (tb_8 (List.mem_of_getElem? (i := 21) rfl)) rfl⟩
theorem mb_X12_lamps : q_MB yX12_lamps cX12_lamps 6 (some .int) 1 := ⟨q_mem (tb_8 (List.mem_of_getElem? (i := 114) rfl)) rfl, ni_X12, ⟨nc_X12.1, nc_X12.2, pd_5⟩, plainFor_of_name np_X12, by decide⟩
theorem mv_X12_lamps : q_MV yX12_lamps := ⟨q_mem (tb_8 (List.mem_of_getElem? (i := 112) rfl)) rfl, q_mem (tb_8 (List.mem_of_getElem? (i := 113) rfl)) rfl⟩
theorem mb_X12_lampsIn : q_MB yX12_lampsIn cX12_lampsIn 4 (some .int) 1 := ⟨q_mem (tb_8 (List.mem_of_getElem? (i := 110) rfl)) rfl, ni_X12, ⟨nc_X12.1, nc_X12.2, pd_5⟩, plainFor_of_name np_X12, by decide⟩
theorem mv_X12_lampsIn : q_MV yX12_lampsIn := ⟨q_mem (tb_8 (List.mem_of_getElem? (i := 109) rfl)) rfl, q_mem (tp_7 (List.mem_of_getElem? (i := 8) rfl)) rfl⟩
theorem mb_X12_laysLengths : q_MB yX12_laysLengths cX12_laysLengths 4 none 2 := ⟨q_mem (tb_8 (List.mem_of_getElem? (i := 86) rfl)) rfl, ni_X12, ⟨nc_X12.1, nc_X12.2, pd_11⟩, plainFor_of_name np_X12, by decide⟩
theorem mv_X12_laysLengths : q_MV yX12_laysLengths := ⟨q_mem (tb_8 (List.mem_of_getElem? (i := 85) rfl)) rfl, q_mem (tp_7 (List.mem_of_getElem? (i := 6) rfl)) rfl⟩
theorem mb_X12_laysNexts : q_MB yX12_laysNexts cX12_laysNexts 5 none 1 := ⟨q_mem (tb_8 (List.mem_of_getElem? (i := 35) rfl)) rfl, ni_X12, ⟨nc_X12.1, nc_X12.2, pd_7⟩, plainFor_of_name np_X12, by decide⟩
theorem mv_X12_laysNexts : q_MV yX12_laysNexts := ⟨q_mem (tb_8 (List.mem_of_getElem? (i := 34) rfl)) rfl, q_mem (tp_6 (List.mem_of_getElem? (i := 15) rfl)) rfl⟩
theorem mb_X12_laysNow : q_MB yX12_laysNow cX12_laysNow 3 none 0 := ⟨q_mem (tb_8 (List.mem_of_getElem? (i := 172) rfl)) rfl, ni_X12, ⟨nc_X12.1, nc_X12.2, pd_2⟩, plainFor_of_name np_X12, by decide⟩
theorem mv_X12_laysNow : q_MV yX12_laysNow := ⟨q_mem (tb_8 (List.mem_of_getElem? (i := 171) rfl)) rfl, q_mem (tp_7 (List.mem_of_getElem? (i := 14) rfl)) rfl⟩
theorem mb_X12_laysRound : q_MB yX12_laysRound cX12_laysRound 5 none 1 := ⟨q_mem (tb_8 (List.mem_of_getElem? (i := 43) rfl)) rfl, ni_X12, ⟨nc_X12.1, nc_X12.2, pd_7⟩, plainFor_of_name np_X12, by decide⟩
theorem mv_X12_laysRound : q_MV yX12_laysRound := ⟨q_mem (tb_8 (List.mem_of_getElem? (i := 42) rfl)) rfl, q_mem (tp_7 (List.mem_of_getElem? (i := 1) rfl)) rfl⟩
theorem mb_X12_letter : q_MB yX12_letter cX12_letter 9 (some .int) 3 := ⟨q_mem (tb_7 (List.mem_of_getElem? (i := 170) rfl)) rfl, ni_X12, ⟨nc_X12.1, nc_X12.2, pd_13⟩, plainFor_of_name np_X12, by decide⟩
theorem mv_X12_letter : q_MV yX12_letter := ⟨q_mem (tb_7 (List.mem_of_getElem? (i := 168) rfl)) rfl, q_mem (tb_7 (List.mem_of_getElem? (i := 169) rfl)) rfl⟩
theorem mb_X12_look : q_MB yX12_look cX12_look 1 (some .int) 0 := ⟨q_mem (tb_7 (List.mem_of_getElem? (i := 1) rfl)) rfl, ni_X12, ⟨nc_X12.1, nc_X12.2, pd_0⟩, plainFor_of_name np_X12, by decide⟩
theorem mv_X12_look : q_MV yX12_look := ⟨q_mem (tb_7 (List.mem_of_getElem? (i := 0) rfl)) rfl, q_mem (tp_3 (List.mem_of_getElem? (i := 12) rfl)) rfl⟩
theorem mb_X12_minutes : q_MB yX12_minutes cX12_minutes 6 (some .int) 1 := ⟨q_mem (tb_8 (List.mem_of_getElem? (i := 106) rfl)) rfl, ni_X12, ⟨nc_X12.1, nc_X12.2, pd_5⟩, plainFor_of_name np_X12, by decide⟩
theorem mv_X12_minutes : q_MV yX12_minutes := ⟨q_mem (tb_8 (List.mem_of_getElem? (i := 104) rfl)) rfl, q_mem (tb_8 (List.mem_of_getElem? (i := 105) rfl)) rfl⟩
theorem mb_X12_name : q_MB yX12_name cX12_name 3 (some .long) 0 := ⟨q_mem (tb_7 (List.mem_of_getElem? (i := 46) rfl)) rfl, ni_X12, ⟨nc_X12.1, nc_X12.2, pd_1⟩, plainFor_of_name np_X12, by decide⟩
theorem mv_X12_name : q_MV yX12_name := ⟨q_mem (tb_7 (List.mem_of_getElem? (i := 45) rfl)) rfl, q_mem (tp_4 (List.mem_of_getElem? (i := 5) rfl)) rfl⟩
theorem mb_X12_newName : q_MB yX12_newName cX12_newName 5 (some .long) 0 := ⟨q_mem (tb_7 (List.mem_of_getElem? (i := 42) rfl)) rfl, ni_X12, ⟨nc_X12.1, nc_X12.2, pd_1⟩, plainFor_of_name np_X12, by decide⟩
theorem mv_X12_newName : q_MV yX12_newName := ⟨q_mem (tb_7 (List.mem_of_getElem? (i := 41) rfl)) rfl, q_mem (tp_4 (List.mem_of_getElem? (i := 4) rfl)) rfl⟩
theorem mb_X12_number : q_MB yX12_number cX12_number 5 (some .int) 2 := ⟨q_mem (tb_7 (List.mem_of_getElem? (i := 12) rfl)) rfl, ni_X12, ⟨nc_X12.1, nc_X12.2, pd_9⟩, plainFor_of_name np_X12, by decide⟩
theorem mv_X12_number : q_MV yX12_number := ⟨q_mem (tb_7 (List.mem_of_getElem? (i := 11) rfl)) rfl, q_mem (tp_3 (List.mem_of_getElem? (i := 14) rfl)) rfl⟩
theorem mb_X12_octet : q_MB yX12_octet cX12_octet 2 (some .int) 1 := ⟨q_mem (tb_8 (List.mem_of_getElem? (i := 199) rfl)) rfl, ni_X12, ⟨nc_X12.1, nc_X12.2, pd_5⟩, plainFor_of_name np_X12, by decide⟩
theorem mv_X12_octet : q_MV yX12_octet := ⟨q_mem (tb_8 (List.mem_of_getElem? (i := 197) rfl)) rfl, q_mem (tb_8 (List.mem_of_getElem? (i := 198) rfl)) rfl⟩
theorem mb_X12_odd : q_MB yX12_odd cX12_odd 5 (some .int) 3 := ⟨q_mem (tb_8 (List.mem_of_getElem? (i := 78) rfl)) rfl, ni_X12, ⟨nc_X12.1, nc_X12.2, pd_13⟩, plainFor_of_name np_X12, by decide⟩
theorem mv_X12_odd : q_MV yX12_odd := ⟨q_mem (tb_8 (List.mem_of_getElem? (i := 76) rfl)) rfl, q_mem (tb_8 (List.mem_of_getElem? (i := 77) rfl)) rfl⟩
theorem mb_X12_on : q_MB yX12_on cX12_on 3 (some .boolean) 0 := ⟨q_mem (tb_8 (List.mem_of_getElem? (i := 203) rfl)) rfl, ni_X12, ⟨nc_X12.1, nc_X12.2, pd_3⟩, plainFor_of_name np_X12, by decide⟩
theorem mv_X12_on : q_MV yX12_on := ⟨q_mem (tb_8 (List.mem_of_getElem? (i := 201) rfl)) rfl, q_mem (tb_8 (List.mem_of_getElem? (i := 202) rfl)) rfl⟩
theorem mb_X12_orderEnds : q_MB yX12_orderEnds cX12_orderEnds 5 (some .int) 0 := ⟨q_mem (tb_8 (List.mem_of_getElem? (i := 47) rfl)) rfl, ni_X12, ⟨nc_X12.1, nc_X12.2, pd_0⟩, plainFor_of_name np_X12, by decide⟩
theorem mv_X12_orderEnds : q_MV yX12_orderEnds := ⟨q_mem (tb_8 (List.mem_of_getElem? (i := 46) rfl)) rfl, q_mem (tp_7 (List.mem_of_getElem? (i := 2) rfl)) rfl⟩
theorem mb_X12_pause : q_MB yX12_pause cX12_pause 2 (some .boolean) 1 := ⟨q_mem (tb_8 (List.mem_of_getElem? (i := 130) rfl)) rfl, ni_X12, ⟨nc_X12.1, nc_X12.2, pd_8⟩, plainFor_of_name np_X12, by decide⟩
theorem mv_X12_pause : q_MV yX12_pause := ⟨q_mem (tb_8 (List.mem_of_getElem? (i := 128) rfl)) rfl, q_mem (tb_8 (List.mem_of_getElem? (i := 129) rfl)) rfl⟩
theorem mb_X12_placeOf : q_MB yX12_placeOf cX12_placeOf 2 (some .int) 1 := ⟨q_mem (tb_8 (List.mem_of_getElem? (i := 51) rfl)) rfl, ni_X12, ⟨nc_X12.1, nc_X12.2, pd_5⟩, plainFor_of_name np_X12, by decide⟩
theorem mv_X12_placeOf : q_MV yX12_placeOf := ⟨q_mem (tb_8 (List.mem_of_getElem? (i := 50) rfl)) rfl, q_mem (tp_7 (List.mem_of_getElem? (i := 3) rfl)) rfl⟩
theorem mb_X12_priceOf : q_MB yX12_priceOf cX12_priceOf 2 (some .int) 1 := ⟨q_mem (tb_7 (List.mem_of_getElem? (i := 232) rfl)) rfl, ni_X12, ⟨nc_X12.1, nc_X12.2, pd_5⟩, plainFor_of_name np_X12, by decide⟩
theorem mv_X12_priceOf : q_MV yX12_priceOf := ⟨q_mem (tb_7 (List.mem_of_getElem? (i := 231) rfl)) rfl, q_mem (tp_6 (List.mem_of_getElem? (i := 11) rfl)) rfl⟩
theorem mb_X12_qAsksWord : q_MB yX12_qAsksWord cX12_qAsksWord 2 none 1 := ⟨q_mem (tb_7 (List.mem_of_getElem? (i := 104) rfl)) rfl, ni_X12, ⟨nc_X12.1, nc_X12.2, pd_7⟩, plainFor_of_name np_X12, by decide⟩
theorem mv_X12_qAsksWord : q_MV yX12_qAsksWord := ⟨q_mem (tb_7 (List.mem_of_getElem? (i := 103) rfl)) rfl, q_mem (tp_5 (List.mem_of_getElem? (i := 3) rfl)) rfl⟩
theorem mb_X12_qBracket : q_MB yX12_qBracket cX12_qBracket 2 (some .int) 0 := ⟨q_mem (tb_7 (List.mem_of_getElem? (i := 120) rfl)) rfl, ni_X12, ⟨nc_X12.1, nc_X12.2, pd_0⟩, plainFor_of_name np_X12, by decide⟩
theorem mv_X12_qBracket : q_MV yX12_qBracket := ⟨q_mem (tb_7 (List.mem_of_getElem? (i := 119) rfl)) rfl, q_mem (tp_5 (List.mem_of_getElem? (i := 7) rfl)) rfl⟩
theorem mb_X12_qClip : q_MB yX12_qClip cX12_qClip 2 (some .long) 1 := ⟨q_mem (tb_8 (List.mem_of_getElem? (i := 0) rfl)) rfl, ni_X12, ⟨nc_X12.1, nc_X12.2, pd_22⟩, plainFor_of_name np_X12, by decide⟩
theorem ms_X12_qClip : Cond.static yX12_qClip ∈ q_gT := q_mem (tb_7 (List.mem_of_getElem? (i := 239) rfl)) rfl
theorem mb_X12_qCode : q_MB yX12_qCode cX12_qCode 2 none 1 := ⟨q_mem (tb_7 (List.mem_of_getElem? (i := 80) rfl)) rfl, ni_X12, ⟨nc_X12.1, nc_X12.2, pd_7⟩, plainFor_of_name np_X12, by decide⟩
theorem mv_X12_qCode : q_MV yX12_qCode := ⟨q_mem (tb_7 (List.mem_of_getElem? (i := 79) rfl)) rfl, q_mem (tp_4 (List.mem_of_getElem? (i := 13) rfl)) rfl⟩
theorem mb_X12_qDrops : q_MB yX12_qDrops cX12_qDrops 1 none 0 := ⟨q_mem (tb_7 (List.mem_of_getElem? (i := 112) rfl)) rfl, ni_X12, ⟨nc_X12.1, nc_X12.2, pd_2⟩, plainFor_of_name np_X12, by decide⟩
theorem mv_X12_qDrops : q_MV yX12_qDrops := ⟨q_mem (tb_7 (List.mem_of_getElem? (i := 111) rfl)) rfl, q_mem (tp_5 (List.mem_of_getElem? (i := 5) rfl)) rfl⟩
theorem mb_X12_qDropsNots : q_MB yX12_qDropsNots cX12_qDropsNots 1 none 0 := ⟨q_mem (tb_7 (List.mem_of_getElem? (i := 135) rfl)) rfl, ni_X12, ⟨nc_X12.1, nc_X12.2, pd_2⟩, plainFor_of_name np_X12, by decide⟩
theorem mv_X12_qDropsNots : q_MV yX12_qDropsNots := ⟨q_mem (tb_7 (List.mem_of_getElem? (i := 134) rfl)) rfl, q_mem (tp_5 (List.mem_of_getElem? (i := 10) rfl)) rfl⟩
theorem mb_X12_qDropsToBracket : q_MB yX12_qDropsToBracket cX12_qDropsToBracket 1 none 0 := ⟨q_mem (tb_7 (List.mem_of_getElem? (i := 127) rfl)) rfl, ni_X12, ⟨nc_X12.1, nc_X12.2, pd_2⟩, plainFor_of_name np_X12, by decide⟩
theorem mv_X12_qDropsToBracket : q_MV yX12_qDropsToBracket := ⟨q_mem (tb_7 (List.mem_of_getElem? (i := 126) rfl)) rfl, q_mem (tp_5 (List.mem_of_getElem? (i := 8) rfl)) rfl⟩
theorem mb_X12_qEndsPart : q_MB yX12_qEndsPart cX12_qEndsPart 1 none 0 := ⟨q_mem (tb_7 (List.mem_of_getElem? (i := 108) rfl)) rfl, ni_X12, ⟨nc_X12.1, nc_X12.2, pd_2⟩, plainFor_of_name np_X12, by decide⟩
theorem mv_X12_qEndsPart : q_MV yX12_qEndsPart := ⟨q_mem (tb_7 (List.mem_of_getElem? (i := 107) rfl)) rfl, q_mem (tp_5 (List.mem_of_getElem? (i := 4) rfl)) rfl⟩
theorem mb_X12_qFact : q_MB yX12_qFact cX12_qFact 2 none 0 := ⟨q_mem (tb_7 (List.mem_of_getElem? (i := 76) rfl)) rfl, ni_X12, ⟨nc_X12.1, nc_X12.2, pd_2⟩, plainFor_of_name np_X12, by decide⟩
theorem mv_X12_qFact : q_MV yX12_qFact := ⟨q_mem (tb_7 (List.mem_of_getElem? (i := 75) rfl)) rfl, q_mem (tp_4 (List.mem_of_getElem? (i := 12) rfl)) rfl⟩
theorem mb_X12_qFloor : q_MB yX12_qFloor cX12_qFloor 6 (some .long) 2 := ⟨q_mem (tb_8 (List.mem_of_getElem? (i := 5) rfl)) rfl, ni_X12, ⟨nc_X12.1, nc_X12.2, pd_25⟩, plainFor_of_name np_X12, by decide⟩
theorem ms_X12_qFloor : Cond.static yX12_qFloor ∈ q_gT := q_mem (tb_8 (List.mem_of_getElem? (i := 4) rfl)) rfl
theorem mb_X12_qGoesOn : q_MB yX12_qGoesOn cX12_qGoesOn 2 (some .boolean) 0 := ⟨q_mem (tb_7 (List.mem_of_getElem? (i := 116) rfl)) rfl, ni_X12, ⟨nc_X12.1, nc_X12.2, pd_3⟩, plainFor_of_name np_X12, by decide⟩
theorem mv_X12_qGoesOn : q_MV yX12_qGoesOn := ⟨q_mem (tb_7 (List.mem_of_getElem? (i := 115) rfl)) rfl, q_mem (tp_5 (List.mem_of_getElem? (i := 6) rfl)) rfl⟩
theorem mb_X12_qGoesOnTest : q_MB yX12_qGoesOnTest cX12_qGoesOnTest 1 (some .boolean) 0 := ⟨q_mem (tb_7 (List.mem_of_getElem? (i := 139) rfl)) rfl, ni_X12, ⟨nc_X12.1, nc_X12.2, pd_3⟩, plainFor_of_name np_X12, by decide⟩
theorem mv_X12_qGoesOnTest : q_MV yX12_qGoesOnTest := ⟨q_mem (tb_7 (List.mem_of_getElem? (i := 138) rfl)) rfl, q_mem (tp_5 (List.mem_of_getElem? (i := 11) rfl)) rfl⟩
theorem mb_X12_qHasSquare : q_MB yX12_qHasSquare cX12_qHasSquare 2 (some .boolean) 0 := ⟨q_mem (tb_7 (List.mem_of_getElem? (i := 143) rfl)) rfl, ni_X12, ⟨nc_X12.1, nc_X12.2, pd_3⟩, plainFor_of_name np_X12, by decide⟩
theorem mv_X12_qHasSquare : q_MV yX12_qHasSquare := ⟨q_mem (tb_7 (List.mem_of_getElem? (i := 142) rfl)) rfl, q_mem (tp_5 (List.mem_of_getElem? (i := 12) rfl)) rfl⟩
theorem mb_X12_qIsBracket : q_MB yX12_qIsBracket cX12_qIsBracket 1 (some .boolean) 1 := ⟨q_mem (tb_7 (List.mem_of_getElem? (i := 123) rfl)) rfl, ni_X12, ⟨nc_X12.1, nc_X12.2, pd_8⟩, plainFor_of_name np_X12, by decide⟩
theorem ms_X12_qIsBracket : Cond.static yX12_qIsBracket ∈ q_gT := q_mem (tb_7 (List.mem_of_getElem? (i := 122) rfl)) rfl
theorem mb_X12_qIsOn : q_MB yX12_qIsOn cX12_qIsOn 2 (some .boolean) 1 := ⟨q_mem (tb_7 (List.mem_of_getElem? (i := 131) rfl)) rfl, ni_X12, ⟨nc_X12.1, nc_X12.2, pd_8⟩, plainFor_of_name np_X12, by decide⟩
theorem mv_X12_qIsOn : q_MV yX12_qIsOn := ⟨q_mem (tb_7 (List.mem_of_getElem? (i := 130) rfl)) rfl, q_mem (tp_5 (List.mem_of_getElem? (i := 9) rfl)) rfl⟩
theorem mb_X12_qJoins : q_MB yX12_qJoins cX12_qJoins 6 none 1 := ⟨q_mem (tb_7 (List.mem_of_getElem? (i := 237) rfl)) rfl, ni_X12, ⟨nc_X12.1, nc_X12.2, pd_7⟩, plainFor_of_name np_X12, by decide⟩
theorem mv_X12_qJoins : q_MV yX12_qJoins := ⟨q_mem (tb_7 (List.mem_of_getElem? (i := 236) rfl)) rfl, q_mem (tp_6 (List.mem_of_getElem? (i := 12) rfl)) rfl⟩
theorem mb_X12_qKind : q_MB yX12_qKind cX12_qKind 2 (some .int) 0 := ⟨q_mem (tb_8 (List.mem_of_getElem? (i := 168) rfl)) rfl, ni_X12, ⟨nc_X12.1, nc_X12.2, pd_0⟩, plainFor_of_name np_X12, by decide⟩
theorem mv_X12_qKind : q_MV yX12_qKind := ⟨q_mem (tb_8 (List.mem_of_getElem? (i := 167) rfl)) rfl, q_mem (tp_7 (List.mem_of_getElem? (i := 13) rfl)) rfl⟩
theorem mb_X12_qOf : q_MB yX12_qOf cX12_qOf 5 (some .long) 3 := ⟨q_mem (tb_8 (List.mem_of_getElem? (i := 180) rfl)) rfl, ni_X12, ⟨nc_X12.1, nc_X12.2, pd_18⟩, plainFor_of_name np_X12, by decide⟩
theorem mv_X12_qOf : q_MV yX12_qOf := ⟨q_mem (tb_8 (List.mem_of_getElem? (i := 179) rfl)) rfl, q_mem (tp_8 (List.mem_of_getElem? (i := 0) rfl)) rfl⟩
theorem mb_X12_qOpens : q_MB yX12_qOpens cX12_qOpens 3 none 2 := ⟨q_mem (tb_7 (List.mem_of_getElem? (i := 72) rfl)) rfl, ni_X12, ⟨nc_X12.1, nc_X12.2, pd_11⟩, plainFor_of_name np_X12, by decide⟩
theorem mv_X12_qOpens : q_MV yX12_qOpens := ⟨q_mem (tb_7 (List.mem_of_getElem? (i := 71) rfl)) rfl, q_mem (tp_4 (List.mem_of_getElem? (i := 11) rfl)) rfl⟩
theorem mb_X12_qPartOf : q_MB yX12_qPartOf cX12_qPartOf 3 (some .long) 2 := ⟨q_mem (tb_7 (List.mem_of_getElem? (i := 224) rfl)) rfl, ni_X12, ⟨nc_X12.1, nc_X12.2, pd_10⟩, plainFor_of_name np_X12, by decide⟩
theorem mv_X12_qPartOf : q_MV yX12_qPartOf := ⟨q_mem (tb_7 (List.mem_of_getElem? (i := 223) rfl)) rfl, q_mem (tp_6 (List.mem_of_getElem? (i := 9) rfl)) rfl⟩
theorem mb_X12_qPartTold : q_MB yX12_qPartTold cX12_qPartTold 6 none 0 := ⟨q_mem (tb_7 (List.mem_of_getElem? (i := 88) rfl)) rfl, ni_X12, ⟨nc_X12.1, nc_X12.2, pd_2⟩, plainFor_of_name np_X12, by decide⟩
theorem mv_X12_qPartTold : q_MV yX12_qPartTold := ⟨q_mem (tb_7 (List.mem_of_getElem? (i := 87) rfl)) rfl, q_mem (tp_4 (List.mem_of_getElem? (i := 15) rfl)) rfl⟩
theorem mb_X12_qPuts : q_MB yX12_qPuts cX12_qPuts 3 none 1 := ⟨q_mem (tb_7 (List.mem_of_getElem? (i := 220) rfl)) rfl, ni_X12, ⟨nc_X12.1, nc_X12.2, pd_23⟩, plainFor_of_name np_X12, by decide⟩
theorem mv_X12_qPuts : q_MV yX12_qPuts := ⟨q_mem (tb_7 (List.mem_of_getElem? (i := 219) rfl)) rfl, q_mem (tp_6 (List.mem_of_getElem? (i := 8) rfl)) rfl⟩
theorem mb_X12_qSums : q_MB yX12_qSums cX12_qSums 3 none 0 := ⟨q_mem (tb_7 (List.mem_of_getElem? (i := 84) rfl)) rfl, ni_X12, ⟨nc_X12.1, nc_X12.2, pd_2⟩, plainFor_of_name np_X12, by decide⟩
theorem mv_X12_qSums : q_MV yX12_qSums := ⟨q_mem (tb_7 (List.mem_of_getElem? (i := 83) rfl)) rfl, q_mem (tp_4 (List.mem_of_getElem? (i := 14) rfl)) rfl⟩
theorem mb_X12_qTakes : q_MB yX12_qTakes cX12_qTakes 6 none 3 := ⟨q_mem (tb_8 (List.mem_of_getElem? (i := 184) rfl)) rfl, ni_X12, ⟨nc_X12.1, nc_X12.2, pd_19⟩, plainFor_of_name np_X12, by decide⟩
theorem mv_X12_qTakes : q_MV yX12_qTakes := ⟨q_mem (tb_8 (List.mem_of_getElem? (i := 183) rfl)) rfl, q_mem (tp_8 (List.mem_of_getElem? (i := 1) rfl)) rfl⟩
theorem mb_X12_qTest : q_MB yX12_qTest cX12_qTest 3 none 0 := ⟨q_mem (tb_7 (List.mem_of_getElem? (i := 68) rfl)) rfl, ni_X12, ⟨nc_X12.1, nc_X12.2, pd_2⟩, plainFor_of_name np_X12, by decide⟩
theorem mv_X12_qTest : q_MV yX12_qTest := ⟨q_mem (tb_7 (List.mem_of_getElem? (i := 67) rfl)) rfl, q_mem (tp_4 (List.mem_of_getElem? (i := 10) rfl)) rfl⟩
theorem mb_X12_qTold : q_MB yX12_qTold cX12_qTold 4 (some .long) 1 := ⟨q_mem (tb_8 (List.mem_of_getElem? (i := 176) rfl)) rfl, ni_X12, ⟨nc_X12.1, nc_X12.2, pd_6⟩, plainFor_of_name np_X12, by decide⟩
theorem mv_X12_qTold : q_MV yX12_qTold := ⟨q_mem (tb_8 (List.mem_of_getElem? (i := 175) rfl)) rfl, q_mem (tp_7 (List.mem_of_getElem? (i := 15) rfl)) rfl⟩
theorem mb_X12_qWordHere : q_MB yX12_qWordHere cX12_qWordHere 1 (some .int) 0 := ⟨q_mem (tb_7 (List.mem_of_getElem? (i := 96) rfl)) rfl, ni_X12, ⟨nc_X12.1, nc_X12.2, pd_0⟩, plainFor_of_name np_X12, by decide⟩
theorem mv_X12_qWordHere : q_MV yX12_qWordHere := ⟨q_mem (tb_7 (List.mem_of_getElem? (i := 95) rfl)) rfl, q_mem (tp_5 (List.mem_of_getElem? (i := 1) rfl)) rfl⟩
theorem mb_X12_qWordOf : q_MB yX12_qWordOf cX12_qWordOf 4 (some .int) 2 := ⟨q_mem (tb_7 (List.mem_of_getElem? (i := 92) rfl)) rfl, ni_X12, ⟨nc_X12.1, nc_X12.2, pd_9⟩, plainFor_of_name np_X12, by decide⟩
theorem mv_X12_qWordOf : q_MV yX12_qWordOf := ⟨q_mem (tb_7 (List.mem_of_getElem? (i := 91) rfl)) rfl, q_mem (tp_5 (List.mem_of_getElem? (i := 0) rfl)) rfl⟩
theorem mb_X12_refuses : q_MB yX12_refuses cX12_refuses 2 (some .int) 1 := ⟨q_mem (tb_8 (List.mem_of_getElem? (i := 102) rfl)) rfl, ni_X12, ⟨nc_X12.1, nc_X12.2, pd_5⟩, plainFor_of_name np_X12, by decide⟩
theorem mv_X12_refuses : q_MV yX12_refuses := ⟨q_mem (tb_8 (List.mem_of_getElem? (i := 101) rfl)) rfl, q_mem (tp_7 (List.mem_of_getElem? (i := 7) rfl)) rfl⟩
theorem mb_X12_round : q_MB yX12_round cX12_round 3 (some .int) 2 := ⟨q_mem (tb_8 (List.mem_of_getElem? (i := 31) rfl)) rfl, ni_X12, ⟨nc_X12.1, nc_X12.2, pd_9⟩, plainFor_of_name np_X12, by decide⟩
theorem mv_X12_round : q_MV yX12_round := ⟨q_mem (tb_8 (List.mem_of_getElem? (i := 29) rfl)) rfl, q_mem (tb_8 (List.mem_of_getElem? (i := 30) rfl)) rfl⟩
theorem mb_X12_see : q_MB yX12_see cX12_see 4 (some .int) 0 := ⟨q_mem (tb_8 (List.mem_of_getElem? (i := 98) rfl)) rfl, ni_X12, ⟨nc_X12.1, nc_X12.2, pd_0⟩, plainFor_of_name np_X12, by decide⟩
theorem mv_X12_see : q_MV yX12_see := ⟨q_mem (tb_8 (List.mem_of_getElem? (i := 96) rfl)) rfl, q_mem (tb_8 (List.mem_of_getElem? (i := 97) rfl)) rfl⟩
theorem mb_X12_seed : q_MB yX12_seed cX12_seed 2 (some .boolean) 1 := ⟨q_mem (tb_8 (List.mem_of_getElem? (i := 147) rfl)) rfl, ni_X12, ⟨nc_X12.1, nc_X12.2, pd_8⟩, plainFor_of_name np_X12, by decide⟩
theorem mv_X12_seed : q_MV yX12_seed := ⟨q_mem (tb_8 (List.mem_of_getElem? (i := 145) rfl)) rfl, q_mem (tb_8 (List.mem_of_getElem? (i := 146) rfl)) rfl⟩
theorem mb_X12_shadow : q_MB yX12_shadow cX12_shadow 4 (some .int) 3 := ⟨q_mem (tb_7 (List.mem_of_getElem? (i := 204) rfl)) rfl, ni_X12, ⟨nc_X12.1, nc_X12.2, pd_13⟩, plainFor_of_name np_X12, by decide⟩
theorem mv_X12_shadow : q_MV yX12_shadow := ⟨q_mem (tb_7 (List.mem_of_getElem? (i := 202) rfl)) rfl, q_mem (tb_7 (List.mem_of_getElem? (i := 203) rfl)) rfl⟩
theorem mb_X12_shadowOf : q_MB yX12_shadowOf cX12_shadowOf 6 (some .int) 3 := ⟨q_mem (tb_7 (List.mem_of_getElem? (i := 212) rfl)) rfl, ni_X12, ⟨nc_X12.1, nc_X12.2, pd_13⟩, plainFor_of_name np_X12, by decide⟩
theorem mv_X12_shadowOf : q_MV yX12_shadowOf := ⟨q_mem (tb_7 (List.mem_of_getElem? (i := 211) rfl)) rfl, q_mem (tp_6 (List.mem_of_getElem? (i := 6) rfl)) rfl⟩
theorem mb_X12_shutOf : q_MB yX12_shutOf cX12_shutOf 2 (some .int) 1 := ⟨q_mem (tb_8 (List.mem_of_getElem? (i := 18) rfl)) rfl, ni_X12, ⟨nc_X12.1, nc_X12.2, pd_5⟩, plainFor_of_name np_X12, by decide⟩
theorem mv_X12_shutOf : q_MV yX12_shutOf := ⟨q_mem (tb_8 (List.mem_of_getElem? (i := 17) rfl)) rfl, q_mem (tp_6 (List.mem_of_getElem? (i := 14) rfl)) rfl⟩
theorem mb_X12_stall : q_MB yX12_stall cX12_stall 3 (some .int) 2 := ⟨q_mem (tb_7 (List.mem_of_getElem? (i := 175) rfl)) rfl, ni_X12, ⟨nc_X12.1, nc_X12.2, pd_9⟩, plainFor_of_name np_X12, by decide⟩
theorem mv_X12_stall : q_MV yX12_stall := ⟨q_mem (tb_7 (List.mem_of_getElem? (i := 173) rfl)) rfl, q_mem (tb_7 (List.mem_of_getElem? (i := 174) rfl)) rfl⟩
theorem mb_X12_stallMany : q_MB yX12_stallMany cX12_stallMany 1 (some .int) 0 := ⟨q_mem (tb_7 (List.mem_of_getElem? (i := 183) rfl)) rfl, ni_X12, ⟨nc_X12.1, nc_X12.2, pd_0⟩, plainFor_of_name np_X12, by decide⟩
theorem mv_X12_stallMany : q_MV yX12_stallMany := ⟨q_mem (tb_7 (List.mem_of_getElem? (i := 182) rfl)) rfl, q_mem (tp_6 (List.mem_of_getElem? (i := 1) rfl)) rfl⟩
theorem mb_X12_stallTold : q_MB yX12_stallTold cX12_stallTold 9 none 1 := ⟨q_mem (tb_7 (List.mem_of_getElem? (i := 34) rfl)) rfl, ni_X12, ⟨nc_X12.1, nc_X12.2, pd_7⟩, plainFor_of_name np_X12, by decide⟩
theorem mv_X12_stallTold : q_MV yX12_stallTold := ⟨q_mem (tb_7 (List.mem_of_getElem? (i := 33) rfl)) rfl, q_mem (tp_4 (List.mem_of_getElem? (i := 2) rfl)) rfl⟩
theorem mb_X12_stands : q_MB yX12_stands cX12_stands 2 none 0 := ⟨q_mem (tb_7 (List.mem_of_getElem? (i := 147) rfl)) rfl, ni_X12, ⟨nc_X12.1, nc_X12.2, pd_2⟩, plainFor_of_name np_X12, by decide⟩
theorem mv_X12_stands : q_MV yX12_stands := ⟨q_mem (tb_7 (List.mem_of_getElem? (i := 146) rfl)) rfl, q_mem (tp_5 (List.mem_of_getElem? (i := 13) rfl)) rfl⟩
theorem mb_X12_statementTold : q_MB yX12_statementTold cX12_statementTold 2 none 0 := ⟨q_mem (tb_7 (List.mem_of_getElem? (i := 30) rfl)) rfl, ni_X12, ⟨nc_X12.1, nc_X12.2, pd_2⟩, plainFor_of_name np_X12, by decide⟩
theorem mv_X12_statementTold : q_MV yX12_statementTold := ⟨q_mem (tb_7 (List.mem_of_getElem? (i := 29) rfl)) rfl, q_mem (tp_4 (List.mem_of_getElem? (i := 1) rfl)) rfl⟩
theorem mb_X12_status : q_MB yX12_status cX12_status 2 (some .int) 1 := ⟨q_mem (tb_8 (List.mem_of_getElem? (i := 211) rfl)) rfl, ni_X12, ⟨nc_X12.1, nc_X12.2, pd_5⟩, plainFor_of_name np_X12, by decide⟩
theorem mv_X12_status : q_MV yX12_status := ⟨q_mem (tb_8 (List.mem_of_getElem? (i := 209) rfl)) rfl, q_mem (tb_8 (List.mem_of_getElem? (i := 210) rfl)) rfl⟩
theorem mb_X12_strike : q_MB yX12_strike cX12_strike 7 (some .int) 2 := ⟨q_mem (tb_8 (List.mem_of_getElem? (i := 66) rfl)) rfl, ni_X12, ⟨nc_X12.1, nc_X12.2, pd_9⟩, plainFor_of_name np_X12, by decide⟩
theorem mv_X12_strike : q_MV yX12_strike := ⟨q_mem (tb_8 (List.mem_of_getElem? (i := 64) rfl)) rfl, q_mem (tb_8 (List.mem_of_getElem? (i := 65) rfl)) rfl⟩
theorem mb_X12_takes : q_MB yX12_takes cX12_takes 2 (some .boolean) 1 := ⟨q_mem (tb_6 (List.mem_of_getElem? (i := 233) rfl)) rfl, ni_X12, ⟨nc_X12.1, nc_X12.2, pd_42⟩, plainFor_of_name np_X12, by decide⟩
theorem mv_X12_takes : q_MV yX12_takes := ⟨q_mem (tb_6 (List.mem_of_getElem? (i := 232) rfl)) rfl, q_mem (tp_3 (List.mem_of_getElem? (i := 10) rfl)) rfl⟩
theorem mb_X12_takesSign : q_MB yX12_takesSign cX12_takesSign 2 (some .boolean) 1 := ⟨q_mem (tb_7 (List.mem_of_getElem? (i := 26) rfl)) rfl, ni_X12, ⟨nc_X12.1, nc_X12.2, pd_8⟩, plainFor_of_name np_X12, by decide⟩
theorem mv_X12_takesSign : q_MV yX12_takesSign := ⟨q_mem (tb_7 (List.mem_of_getElem? (i := 25) rfl)) rfl, q_mem (tp_4 (List.mem_of_getElem? (i := 0) rfl)) rfl⟩
theorem mb_X12_turnOf : q_MB yX12_turnOf cX12_turnOf 2 (some .int) 1 := ⟨q_mem (tb_7 (List.mem_of_getElem? (i := 228) rfl)) rfl, ni_X12, ⟨nc_X12.1, nc_X12.2, pd_5⟩, plainFor_of_name np_X12, by decide⟩
theorem mv_X12_turnOf : q_MV yX12_turnOf := ⟨q_mem (tb_7 (List.mem_of_getElem? (i := 227) rfl)) rfl, q_mem (tp_6 (List.mem_of_getElem? (i := 10) rfl)) rfl⟩
theorem mb_X12_unbought : q_MB yX12_unbought cX12_unbought 1 (some .int) 0 := ⟨q_mem (tb_8 (List.mem_of_getElem? (i := 39) rfl)) rfl, ni_X12, ⟨nc_X12.1, nc_X12.2, pd_0⟩, plainFor_of_name np_X12, by decide⟩
theorem mv_X12_unbought : q_MV yX12_unbought := ⟨q_mem (tb_8 (List.mem_of_getElem? (i := 38) rfl)) rfl, q_mem (tp_7 (List.mem_of_getElem? (i := 0) rfl)) rfl⟩
theorem mb_X12_undo : q_MB yX12_undo cX12_undo 2 (some .boolean) 0 := ⟨q_mem (tb_8 (List.mem_of_getElem? (i := 118) rfl)) rfl, ni_X12, ⟨nc_X12.1, nc_X12.2, pd_3⟩, plainFor_of_name np_X12, by decide⟩
theorem mv_X12_undo : q_MV yX12_undo := ⟨q_mem (tb_8 (List.mem_of_getElem? (i := 116) rfl)) rfl, q_mem (tb_8 (List.mem_of_getElem? (i := 117) rfl)) rfl⟩
theorem mb_X12_walk : q_MB yX12_walk cX12_walk 3 (some .int) 1 := ⟨q_mem (tb_8 (List.mem_of_getElem? (i := 122) rfl)) rfl, ni_X12, ⟨nc_X12.1, nc_X12.2, pd_5⟩, plainFor_of_name np_X12, by decide⟩
theorem mv_X12_walk : q_MV yX12_walk := ⟨q_mem (tb_8 (List.mem_of_getElem? (i := 120) rfl)) rfl, q_mem (tb_8 (List.mem_of_getElem? (i := 121) rfl)) rfl⟩
theorem mb_X12_when : q_MB yX12_when cX12_when 6 (some .int) 3 := ⟨q_mem (tb_8 (List.mem_of_getElem? (i := 27) rfl)) rfl, ni_X12, ⟨nc_X12.1, nc_X12.2, pd_13⟩, plainFor_of_name np_X12, by decide⟩
theorem mv_X12_when : q_MV yX12_when := ⟨q_mem (tb_8 (List.mem_of_getElem? (i := 25) rfl)) rfl, q_mem (tb_8 (List.mem_of_getElem? (i := 26) rfl)) rfl⟩
theorem mb_X12_writes : q_MB yX12_writes cX12_writes 2 none 1 := ⟨q_mem (tb_8 (List.mem_of_getElem? (i := 192) rfl)) rfl, ni_X12, ⟨nc_X12.1, nc_X12.2, pd_7⟩, plainFor_of_name np_X12, by decide⟩
theorem mv_X12_writes : q_MV yX12_writes := ⟨q_mem (tb_8 (List.mem_of_getElem? (i := 191) rfl)) rfl, q_mem (tp_8 (List.mem_of_getElem? (i := 2) rfl)) rfl⟩
theorem mb_X1_begin : q_MB yX1_begin cX1_begin 1 none 0 := ⟨q_mem (tb_4 (List.mem_of_getElem? (i := 12) rfl)) rfl, ni_X1, ⟨nc_X1.1, nc_X1.2, pd_2⟩, plainFor_of_name np_X1, by decide⟩
theorem mv_X1_begin : q_MV yX1_begin := ⟨q_mem (tb_4 (List.mem_of_getElem? (i := 10) rfl)) rfl, q_mem (tb_4 (List.mem_of_getElem? (i := 11) rfl)) rfl⟩
theorem mb_X1_forget : q_MB yX1_forget cX1_forget 1 none 0 := ⟨q_mem (tb_4 (List.mem_of_getElem? (i := 16) rfl)) rfl, ni_X1, ⟨nc_X1.1, nc_X1.2, pd_2⟩, plainFor_of_name np_X1, by decide⟩
theorem mv_X1_forget : q_MV yX1_forget := ⟨q_mem (tb_4 (List.mem_of_getElem? (i := 15) rfl)) rfl, q_mem (tp_2 (List.mem_of_getElem? (i := 3) rfl)) rfl⟩
theorem mb_X1_hasBought : q_MB yX1_hasBought cX1_hasBought 2 (some .boolean) 1 := ⟨q_mem (tb_4 (List.mem_of_getElem? (i := 69) rfl)) rfl, ni_X1, ⟨nc_X1.1, nc_X1.2, pd_8⟩, plainFor_of_name np_X1, by decide⟩
theorem mv_X1_hasBought : q_MV yX1_hasBought := ⟨q_mem (tb_4 (List.mem_of_getElem? (i := 67) rfl)) rfl, q_mem (tb_4 (List.mem_of_getElem? (i := 68) rfl)) rfl⟩
theorem mb_X1_imageLength : q_MB yX1_imageLength cX1_imageLength 1 (some .int) 1 := ⟨q_mem (tb_5 (List.mem_of_getElem? (i := 121) rfl)) rfl, ni_X1, ⟨nc_X1.1, nc_X1.2, pd_5⟩, plainFor_of_name np_X1, by decide⟩
theorem ms_X1_imageLength : Cond.static yX1_imageLength ∈ q_gT := q_mem (tb_5 (List.mem_of_getElem? (i := 120) rfl)) rfl
theorem mb_X1_init : q_MB yX1_init cX1_init 1 none 0 := ⟨q_mem (tb_1 (List.mem_of_getElem? (i := 146) rfl)) rfl, ni_X1, ⟨nc_X1.1, nc_X1.2, pd_2⟩, plainFor_of_name np_X1, by decide⟩
theorem mb_X1_keep : q_MB yX1_keep cX1_keep 3 none 2 := ⟨q_mem (tb_5 (List.mem_of_getElem? (i := 38) rfl)) rfl, ni_X1, ⟨nc_X1.1, nc_X1.2, pd_11⟩, plainFor_of_name np_X1, by decide⟩
theorem mv_X1_keep : q_MV yX1_keep := ⟨q_mem (tb_5 (List.mem_of_getElem? (i := 36) rfl)) rfl, q_mem (tb_5 (List.mem_of_getElem? (i := 37) rfl)) rfl⟩
theorem mb_X1_read : q_MB yX1_read cX1_read 3 none 1 := ⟨q_mem (tb_5 (List.mem_of_getElem? (i := 127) rfl)) rfl, ni_X1, ⟨nc_X1.1, nc_X1.2, pd_37⟩, plainFor_of_name np_X1, by decide⟩
theorem mv_X1_read : q_MV yX1_read := ⟨q_mem (tb_5 (List.mem_of_getElem? (i := 125) rfl)) rfl, q_mem (tb_5 (List.mem_of_getElem? (i := 126) rfl)) rfl⟩
theorem mb_X1_remember : q_MB yX1_remember cX1_remember 2 none 0 := ⟨q_mem (tb_5 (List.mem_of_getElem? (i := 17) rfl)) rfl, ni_X1, ⟨nc_X1.1, nc_X1.2, pd_2⟩, plainFor_of_name np_X1, by decide⟩
theorem mv_X1_remember : q_MV yX1_remember := ⟨q_mem (tb_5 (List.mem_of_getElem? (i := 15) rfl)) rfl, q_mem (tb_5 (List.mem_of_getElem? (i := 16) rfl)) rfl⟩
theorem mb_X1_takeBack : q_MB yX1_takeBack cX1_takeBack 2 none 0 := ⟨q_mem (tb_5 (List.mem_of_getElem? (i := 59) rfl)) rfl, ni_X1, ⟨nc_X1.1, nc_X1.2, pd_2⟩, plainFor_of_name np_X1, by decide⟩
theorem mv_X1_takeBack : q_MV yX1_takeBack := ⟨q_mem (tb_5 (List.mem_of_getElem? (i := 57) rfl)) rfl, q_mem (tb_5 (List.mem_of_getElem? (i := 58) rfl)) rfl⟩
theorem mb_X1_waitByChance : q_MB yX1_waitByChance cX1_waitByChance 2 none 1 := ⟨q_mem (tb_5 (List.mem_of_getElem? (i := 46) rfl)) rfl, ni_X1, ⟨nc_X1.1, nc_X1.2, pd_31⟩, plainFor_of_name np_X1, by decide⟩
theorem mv_X1_waitByChance : q_MV yX1_waitByChance := ⟨q_mem (tb_5 (List.mem_of_getElem? (i := 44) rfl)) rfl, q_mem (tb_5 (List.mem_of_getElem? (i := 45) rfl)) rfl⟩
theorem mb_X1_write : q_MB yX1_write cX1_write 3 none 1 := ⟨q_mem (tb_5 (List.mem_of_getElem? (i := 99) rfl)) rfl, ni_X1, ⟨nc_X1.1, nc_X1.2, pd_37⟩, plainFor_of_name np_X1, by decide⟩
theorem mv_X1_write : q_MV yX1_write := ⟨q_mem (tb_5 (List.mem_of_getElem? (i := 97) rfl)) rfl, q_mem (tb_5 (List.mem_of_getElem? (i := 98) rfl)) rfl⟩
theorem mb_X2_clear : q_MB yX2_clear cX2_clear 1 none 0 := ⟨q_mem (tb_3 (List.mem_of_getElem? (i := 58) rfl)) rfl, ni_X2, ⟨nc_X2.1, nc_X2.2, pd_2⟩, plainFor_of_name np_X2, by decide⟩
theorem mv_X2_clear : q_MV yX2_clear := ⟨q_mem (tb_3 (List.mem_of_getElem? (i := 56) rfl)) rfl, q_mem (tb_3 (List.mem_of_getElem? (i := 57) rfl)) rfl⟩
theorem mb_X2_hasName : q_MB yX2_hasName cX2_hasName 3 (some .boolean) 1 := ⟨q_mem (tb_3 (List.mem_of_getElem? (i := 162) rfl)) rfl, ni_X2, ⟨nc_X2.1, nc_X2.2, pd_8⟩, plainFor_of_name np_X2, by decide⟩
theorem mv_X2_hasName : q_MV yX2_hasName := ⟨q_mem (tb_3 (List.mem_of_getElem? (i := 160) rfl)) rfl, q_mem (tb_3 (List.mem_of_getElem? (i := 161) rfl)) rfl⟩
theorem mb_X2_init : q_MB yX2_init cX2_init 1 none 0 := ⟨q_mem (tb_2 (List.mem_of_getElem? (i := 86) rfl)) rfl, ni_X2, ⟨nc_X2.1, nc_X2.2, pd_2⟩, plainFor_of_name np_X2, by decide⟩
theorem mb_X3_hasRoom : q_MB yX3_hasRoom cX3_hasRoom 3 (some .boolean) 2 := ⟨q_mem (tb_3 (List.mem_of_getElem? (i := 154) rfl)) rfl, ni_X3, ⟨nc_X3.1, nc_X3.2, pd_12⟩, plainFor_of_name np_X3, by decide⟩
theorem mv_X3_hasRoom : q_MV yX3_hasRoom := ⟨q_mem (tb_3 (List.mem_of_getElem? (i := 153) rfl)) rfl, q_mem (tp_1 (List.mem_of_getElem? (i := 5) rfl)) rfl⟩
theorem mb_X3_init : q_MB yX3_init cX3_init 3 none 2 := ⟨q_mem (tb_1 (List.mem_of_getElem? (i := 133) rfl)) rfl, ni_X3, ⟨nc_X3.1, nc_X3.2, pd_36⟩, plainFor_of_name np_X3, by decide⟩
theorem mb_X3_read : q_MB yX3_read cX3_read 3 (some .int) 1 := ⟨q_mem (tb_3 (List.mem_of_getElem? (i := 54) rfl)) rfl, ni_X3, ⟨nc_X3.1, nc_X3.2, pd_30⟩, plainFor_of_name np_X3, by decide⟩
theorem mv_X3_read : q_MV yX3_read := ⟨q_mem (tb_3 (List.mem_of_getElem? (i := 52) rfl)) rfl, q_mem (tb_3 (List.mem_of_getElem? (i := 53) rfl)) rfl⟩
theorem mb_X3_readCloud : q_MB yX3_readCloud cX3_readCloud 3 none 1 := ⟨q_mem (tb_3 (List.mem_of_getElem? (i := 175) rfl)) rfl, ni_X3, ⟨nc_X3.1, nc_X3.2, pd_31⟩, plainFor_of_name np_X3, by decide⟩
theorem mv_X3_readCloud : q_MV yX3_readCloud := ⟨q_mem (tb_3 (List.mem_of_getElem? (i := 174) rfl)) rfl, q_mem (tp_1 (List.mem_of_getElem? (i := 7) rfl)) rfl⟩
theorem mb_X3_readCoin : q_MB yX3_readCoin cX3_readCoin 3 none 1 := ⟨q_mem (tb_3 (List.mem_of_getElem? (i := 171) rfl)) rfl, ni_X3, ⟨nc_X3.1, nc_X3.2, pd_31⟩, plainFor_of_name np_X3, by decide⟩
theorem mv_X3_readCoin : q_MV yX3_readCoin := ⟨q_mem (tb_3 (List.mem_of_getElem? (i := 170) rfl)) rfl, q_mem (tp_1 (List.mem_of_getElem? (i := 6) rfl)) rfl⟩
theorem mb_X3_readStall : q_MB yX3_readStall cX3_readStall 3 none 1 := ⟨q_mem (tb_3 (List.mem_of_getElem? (i := 150) rfl)) rfl, ni_X3, ⟨nc_X3.1, nc_X3.2, pd_31⟩, plainFor_of_name np_X3, by decide⟩
theorem mv_X3_readStall : q_MV yX3_readStall := ⟨q_mem (tb_3 (List.mem_of_getElem? (i := 149) rfl)) rfl, q_mem (tp_1 (List.mem_of_getElem? (i := 4) rfl)) rfl⟩
theorem mb_X3_readStatement : q_MB yX3_readStatement cX3_readStatement 3 none 2 := ⟨q_mem (tb_3 (List.mem_of_getElem? (i := 132) rfl)) rfl, ni_X3, ⟨nc_X3.1, nc_X3.2, pd_33⟩, plainFor_of_name np_X3, by decide⟩
theorem mv_X3_readStatement : q_MV yX3_readStatement := ⟨q_mem (tb_3 (List.mem_of_getElem? (i := 131) rfl)) rfl, q_mem (tp_1 (List.mem_of_getElem? (i := 3) rfl)) rfl⟩
theorem mb_X4_begin : q_MB yX4_begin cX4_begin 3 none 2 := ⟨q_mem (tb_3 (List.mem_of_getElem? (i := 179) rfl)) rfl, ni_X4, ⟨nc_X4.1, nc_X4.2, pd_28⟩, plainFor_of_name np_X4, by decide⟩
theorem mv_X4_begin : q_MV yX4_begin := ⟨q_mem (tb_3 (List.mem_of_getElem? (i := 177) rfl)) rfl, q_mem (tb_3 (List.mem_of_getElem? (i := 178) rfl)) rfl⟩
theorem mb_X4_both : q_MB yX4_both cX4_both 2 none 0 := ⟨q_mem (tb_3 (List.mem_of_getElem? (i := 238) rfl)) rfl, ni_X4, ⟨nc_X4.1, nc_X4.2, pd_2⟩, plainFor_of_name np_X4, by decide⟩
theorem mv_X4_both : q_MV yX4_both := ⟨q_mem (tb_3 (List.mem_of_getElem? (i := 237) rfl)) rfl, q_mem (tp_2 (List.mem_of_getElem? (i := 0) rfl)) rfl⟩
theorem mb_X4_enter : q_MB yX4_enter cX4_enter 1 none 0 := ⟨q_mem (tb_3 (List.mem_of_getElem? (i := 204) rfl)) rfl, ni_X4, ⟨nc_X4.1, nc_X4.2, pd_2⟩, plainFor_of_name np_X4, by decide⟩
theorem mv_X4_enter : q_MV yX4_enter := ⟨q_mem (tb_3 (List.mem_of_getElem? (i := 203) rfl)) rfl, q_mem (tp_1 (List.mem_of_getElem? (i := 11) rfl)) rfl⟩
theorem mb_X4_fact : q_MB yX4_fact cX4_fact 2 none 0 := ⟨q_mem (tb_4 (List.mem_of_getElem? (i := 2) rfl)) rfl, ni_X4, ⟨nc_X4.1, nc_X4.2, pd_2⟩, plainFor_of_name np_X4, by decide⟩
theorem mv_X4_fact : q_MV yX4_fact := ⟨q_mem (tb_4 (List.mem_of_getElem? (i := 1) rfl)) rfl, q_mem (tp_2 (List.mem_of_getElem? (i := 1) rfl)) rfl⟩
theorem mb_X4_init : q_MB yX4_init cX4_init 3 none 2 := ⟨q_mem (tb_1 (List.mem_of_getElem? (i := 114) rfl)) rfl, ni_X4, ⟨nc_X4.1, nc_X4.2, pd_35⟩, plainFor_of_name np_X4, by decide⟩
theorem mb_X4_isValue : q_MB yX4_isValue cX4_isValue 2 (some .boolean) 1 := ⟨q_mem (tb_3 (List.mem_of_getElem? (i := 230) rfl)) rfl, ni_X4, ⟨nc_X4.1, nc_X4.2, pd_8⟩, plainFor_of_name np_X4, by decide⟩
theorem mv_X4_isValue : q_MV yX4_isValue := ⟨q_mem (tb_3 (List.mem_of_getElem? (i := 229) rfl)) rfl, q_mem (tp_1 (List.mem_of_getElem? (i := 14) rfl)) rfl⟩
theorem mb_X4_leave : q_MB yX4_leave cX4_leave 1 none 0 := ⟨q_mem (tb_3 (List.mem_of_getElem? (i := 216) rfl)) rfl, ni_X4, ⟨nc_X4.1, nc_X4.2, pd_2⟩, plainFor_of_name np_X4, by decide⟩
theorem mv_X4_leave : q_MV yX4_leave := ⟨q_mem (tb_3 (List.mem_of_getElem? (i := 215) rfl)) rfl, q_mem (tp_1 (List.mem_of_getElem? (i := 12) rfl)) rfl⟩
theorem mb_X4_part : q_MB yX4_part cX4_part 2 none 0 := ⟨q_mem (tb_3 (List.mem_of_getElem? (i := 191) rfl)) rfl, ni_X4, ⟨nc_X4.1, nc_X4.2, pd_2⟩, plainFor_of_name np_X4, by decide⟩
theorem mv_X4_part : q_MV yX4_part := ⟨q_mem (tb_3 (List.mem_of_getElem? (i := 190) rfl)) rfl, q_mem (tp_1 (List.mem_of_getElem? (i := 10) rfl)) rfl⟩
theorem mb_X4_product : q_MB yX4_product cX4_product 3 none 0 := ⟨q_mem (tb_3 (List.mem_of_getElem? (i := 187) rfl)) rfl, ni_X4, ⟨nc_X4.1, nc_X4.2, pd_2⟩, plainFor_of_name np_X4, by decide⟩
theorem mv_X4_product : q_MV yX4_product := ⟨q_mem (tb_3 (List.mem_of_getElem? (i := 186) rfl)) rfl, q_mem (tp_1 (List.mem_of_getElem? (i := 9) rfl)) rfl⟩
theorem mb_X4_sum : q_MB yX4_sum cX4_sum 3 none 0 := ⟨q_mem (tb_3 (List.mem_of_getElem? (i := 183) rfl)) rfl, ni_X4, ⟨nc_X4.1, nc_X4.2, pd_2⟩, plainFor_of_name np_X4, by decide⟩
theorem mv_X4_sum : q_MV yX4_sum := ⟨q_mem (tb_3 (List.mem_of_getElem? (i := 182) rfl)) rfl, q_mem (tp_1 (List.mem_of_getElem? (i := 8) rfl)) rfl⟩
theorem mb_X4_test : q_MB yX4_test cX4_test 2 none 0 := ⟨q_mem (tb_3 (List.mem_of_getElem? (i := 234) rfl)) rfl, ni_X4, ⟨nc_X4.1, nc_X4.2, pd_2⟩, plainFor_of_name np_X4, by decide⟩
theorem mv_X4_test : q_MV yX4_test := ⟨q_mem (tb_3 (List.mem_of_getElem? (i := 233) rfl)) rfl, q_mem (tp_1 (List.mem_of_getElem? (i := 15) rfl)) rfl⟩
theorem mb_X4_twoSums : q_MB yX4_twoSums cX4_twoSums 1 none 0 := ⟨q_mem (tb_3 (List.mem_of_getElem? (i := 221) rfl)) rfl, ni_X4, ⟨nc_X4.1, nc_X4.2, pd_2⟩, plainFor_of_name np_X4, by decide⟩
theorem mv_X4_twoSums : q_MV yX4_twoSums := ⟨q_mem (tb_3 (List.mem_of_getElem? (i := 220) rfl)) rfl, q_mem (tp_1 (List.mem_of_getElem? (i := 13) rfl)) rfl⟩
theorem mb_X5_begin : q_MB yX5_begin cX5_begin 2 none 1 := ⟨q_mem (tb_4 (List.mem_of_getElem? (i := 20) rfl)) rfl, ni_X5, ⟨nc_X5.1, nc_X5.2, pd_31⟩, plainFor_of_name np_X5, by decide⟩
theorem mv_X5_begin : q_MV yX5_begin := ⟨q_mem (tb_4 (List.mem_of_getElem? (i := 18) rfl)) rfl, q_mem (tb_4 (List.mem_of_getElem? (i := 19) rfl)) rfl⟩
theorem mb_X5_cellAt : q_MB yX5_cellAt cX5_cellAt 9 (some .int) 3 := ⟨q_mem (tb_4 (List.mem_of_getElem? (i := 90) rfl)) rfl, ni_X5, ⟨nc_X5.1, nc_X5.2, pd_13⟩, plainFor_of_name np_X5, by decide⟩
theorem mv_X5_cellAt : q_MV yX5_cellAt := ⟨q_mem (tb_4 (List.mem_of_getElem? (i := 89) rfl)) rfl, q_mem (tp_2 (List.mem_of_getElem? (i := 7) rfl)) rfl⟩
theorem mb_X5_init : q_MB yX5_init cX5_init 2 none 1 := ⟨q_mem (tb_2 (List.mem_of_getElem? (i := 197) rfl)) rfl, ni_X5, ⟨nc_X5.1, nc_X5.2, pd_31⟩, plainFor_of_name np_X5, by decide⟩
theorem mb_X5_isCloudy : q_MB yX5_isCloudy cX5_isCloudy 2 (some .boolean) 1 := ⟨q_mem (tb_4 (List.mem_of_getElem? (i := 46) rfl)) rfl, ni_X5, ⟨nc_X5.1, nc_X5.2, pd_8⟩, plainFor_of_name np_X5, by decide⟩
theorem mv_X5_isCloudy : q_MV yX5_isCloudy := ⟨q_mem (tb_4 (List.mem_of_getElem? (i := 44) rfl)) rfl, q_mem (tb_4 (List.mem_of_getElem? (i := 45) rfl)) rfl⟩
theorem mb_X5_lengthAt : q_MB yX5_lengthAt cX5_lengthAt 4 (some .int) 3 := ⟨q_mem (tb_4 (List.mem_of_getElem? (i := 85) rfl)) rfl, ni_X5, ⟨nc_X5.1, nc_X5.2, pd_13⟩, plainFor_of_name np_X5, by decide⟩
theorem mv_X5_lengthAt : q_MV yX5_lengthAt := ⟨q_mem (tb_4 (List.mem_of_getElem? (i := 83) rfl)) rfl, q_mem (tb_4 (List.mem_of_getElem? (i := 84) rfl)) rfl⟩
theorem mb_X5_markClouds : q_MB yX5_markClouds cX5_markClouds 4 none 1 := ⟨q_mem (tb_4 (List.mem_of_getElem? (i := 27) rfl)) rfl, ni_X5, ⟨nc_X5.1, nc_X5.2, pd_29⟩, plainFor_of_name np_X5, by decide⟩
theorem mv_X5_markClouds : q_MV yX5_markClouds := ⟨q_mem (tb_4 (List.mem_of_getElem? (i := 25) rfl)) rfl, q_mem (tb_4 (List.mem_of_getElem? (i := 26) rfl)) rfl⟩
theorem mb_X5_paysAt : q_MB yX5_paysAt cX5_paysAt 4 (some .boolean) 3 := ⟨q_mem (tb_4 (List.mem_of_getElem? (i := 138) rfl)) rfl, ni_X5, ⟨nc_X5.1, nc_X5.2, pd_14⟩, plainFor_of_name np_X5, by decide⟩
theorem mv_X5_paysAt : q_MV yX5_paysAt := ⟨q_mem (tb_4 (List.mem_of_getElem? (i := 136) rfl)) rfl, q_mem (tb_4 (List.mem_of_getElem? (i := 137) rfl)) rfl⟩
theorem mb_X6_fewestLeftOut : q_MB yX6_fewestLeftOut cX6_fewestLeftOut 5 (some .int) 0 := ⟨q_mem (tb_4 (List.mem_of_getElem? (i := 183) rfl)) rfl, ni_X6, ⟨nc_X6.1, nc_X6.2, pd_0⟩, plainFor_of_name np_X6, by decide⟩
theorem mv_X6_fewestLeftOut : q_MV yX6_fewestLeftOut := ⟨q_mem (tb_4 (List.mem_of_getElem? (i := 181) rfl)) rfl, q_mem (tb_4 (List.mem_of_getElem? (i := 182) rfl)) rfl⟩
theorem mb_X6_init : q_MB yX6_init cX6_init 1 none 0 := ⟨q_mem (tb_1 (List.mem_of_getElem? (i := 228) rfl)) rfl, ni_X6, ⟨nc_X6.1, nc_X6.2, pd_2⟩, plainFor_of_name np_X6, by decide⟩
theorem mb_X6_plan : q_MB yX6_plan cX6_plan 8 none 4 := ⟨q_mem (tb_4 (List.mem_of_getElem? (i := 162) rfl)) rfl, ni_X6, ⟨nc_X6.1, nc_X6.2, pd_32⟩, plainFor_of_name np_X6, by decide⟩
theorem mv_X6_plan : q_MV yX6_plan := ⟨q_mem (tb_4 (List.mem_of_getElem? (i := 160) rfl)) rfl, q_mem (tb_4 (List.mem_of_getElem? (i := 161) rfl)) rfl⟩
theorem mb_X6_visit : q_MB yX6_visit cX6_visit 8 none 4 := ⟨q_mem (tb_4 (List.mem_of_getElem? (i := 169) rfl)) rfl, ni_X6, ⟨nc_X6.1, nc_X6.2, pd_15⟩, plainFor_of_name np_X6, by decide⟩
theorem mv_X6_visit : q_MV yX6_visit := ⟨q_mem (tb_4 (List.mem_of_getElem? (i := 168) rfl)) rfl, q_mem (tp_2 (List.mem_of_getElem? (i := 14) rfl)) rfl⟩
theorem mb_X7_init : q_MB yX7_init cX7_init 1 none 0 := ⟨q_mem (tb_2 (List.mem_of_getElem? (i := 26) rfl)) rfl, ni_X7, ⟨nc_X7.1, nc_X7.2, pd_2⟩, plainFor_of_name np_X7, by decide⟩
theorem mb_X7_isOfTwo : q_MB yX7_isOfTwo cX7_isOfTwo 1 (some .boolean) 1 := ⟨q_mem (tb_4 (List.mem_of_getElem? (i := 101) rfl)) rfl, ni_X7, ⟨nc_X7.1, nc_X7.2, pd_8⟩, plainFor_of_name np_X7, by decide⟩
theorem ms_X7_isOfTwo : Cond.static yX7_isOfTwo ∈ q_gT := q_mem (tb_4 (List.mem_of_getElem? (i := 100) rfl)) rfl
theorem mb_X7_ofOne : q_MB yX7_ofOne cX7_ofOne 2 (some .int) 1 := ⟨q_mem (tb_4 (List.mem_of_getElem? (i := 122) rfl)) rfl, ni_X7, ⟨nc_X7.1, nc_X7.2, pd_5⟩, plainFor_of_name np_X7, by decide⟩
theorem mv_X7_ofOne : q_MV yX7_ofOne := ⟨q_mem (tb_4 (List.mem_of_getElem? (i := 121) rfl)) rfl, q_mem (tp_2 (List.mem_of_getElem? (i := 10) rfl)) rfl⟩
theorem mb_X7_ofStall : q_MB yX7_ofStall cX7_ofStall 3 (some .int) 2 := ⟨q_mem (tb_4 (List.mem_of_getElem? (i := 126) rfl)) rfl, ni_X7, ⟨nc_X7.1, nc_X7.2, pd_43⟩, plainFor_of_name np_X7, by decide⟩
theorem mv_X7_ofStall : q_MV yX7_ofStall := ⟨q_mem (tb_4 (List.mem_of_getElem? (i := 125) rfl)) rfl, q_mem (tp_2 (List.mem_of_getElem? (i := 11) rfl)) rfl⟩
theorem mb_X7_ofTwo : q_MB yX7_ofTwo cX7_ofTwo 3 (some .int) 3 := ⟨q_mem (tb_4 (List.mem_of_getElem? (i := 108) rfl)) rfl, ni_X7, ⟨nc_X7.1, nc_X7.2, pd_13⟩, plainFor_of_name np_X7, by decide⟩
theorem ms_X7_ofTwo : Cond.static yX7_ofTwo ∈ q_gT := q_mem (tb_4 (List.mem_of_getElem? (i := 107) rfl)) rfl
theorem mb_X7_pop : q_MB yX7_pop cX7_pop 1 (some .int) 0 := ⟨q_mem (tb_4 (List.mem_of_getElem? (i := 105) rfl)) rfl, ni_X7, ⟨nc_X7.1, nc_X7.2, pd_0⟩, plainFor_of_name np_X7, by decide⟩
theorem mv_X7_pop : q_MV yX7_pop := ⟨q_mem (tb_4 (List.mem_of_getElem? (i := 104) rfl)) rfl, q_mem (tp_2 (List.mem_of_getElem? (i := 9) rfl)) rfl⟩
theorem mb_X7_push : q_MB yX7_push cX7_push 2 none 1 := ⟨q_mem (tb_4 (List.mem_of_getElem? (i := 98) rfl)) rfl, ni_X7, ⟨nc_X7.1, nc_X7.2, pd_7⟩, plainFor_of_name np_X7, by decide⟩
theorem mv_X7_push : q_MV yX7_push := ⟨q_mem (tb_4 (List.mem_of_getElem? (i := 97) rfl)) rfl, q_mem (tp_2 (List.mem_of_getElem? (i := 8) rfl)) rfl⟩
theorem mb_X7_run : q_MB yX7_run cX7_run 5 (some .int) 1 := ⟨q_mem (tb_4 (List.mem_of_getElem? (i := 94) rfl)) rfl, ni_X7, ⟨nc_X7.1, nc_X7.2, pd_27⟩, plainFor_of_name np_X7, by decide⟩
theorem mv_X7_run : q_MV yX7_run := ⟨q_mem (tb_4 (List.mem_of_getElem? (i := 92) rfl)) rfl, q_mem (tb_4 (List.mem_of_getElem? (i := 93) rfl)) rfl⟩
theorem mb_X7_within : q_MB yX7_within cX7_within 2 (some .int) 1 := ⟨q_mem (tb_4 (List.mem_of_getElem? (i := 111) rfl)) rfl, ni_X7, ⟨nc_X7.1, nc_X7.2, pd_21⟩, plainFor_of_name np_X7, by decide⟩
theorem ms_X7_within : Cond.static yX7_within ∈ q_gT := q_mem (tb_4 (List.mem_of_getElem? (i := 110) rfl)) rfl
theorem mb_X8_begin : q_MB yX8_begin cX8_begin 1 none 0 := ⟨q_mem (tb_3 (List.mem_of_getElem? (i := 62) rfl)) rfl, ni_X8, ⟨nc_X8.1, nc_X8.2, pd_2⟩, plainFor_of_name np_X8, by decide⟩
theorem mv_X8_begin : q_MV yX8_begin := ⟨q_mem (tb_3 (List.mem_of_getElem? (i := 60) rfl)) rfl, q_mem (tb_3 (List.mem_of_getElem? (i := 61) rfl)) rfl⟩
theorem mb_X8_fail : q_MB yX8_fail cX8_fail 3 none 2 := ⟨q_mem (tb_3 (List.mem_of_getElem? (i := 140) rfl)) rfl, ni_X8, ⟨nc_X8.1, nc_X8.2, pd_11⟩, plainFor_of_name np_X8, by decide⟩
theorem mv_X8_fail : q_MV yX8_fail := ⟨q_mem (tb_3 (List.mem_of_getElem? (i := 138) rfl)) rfl, q_mem (tb_3 (List.mem_of_getElem? (i := 139) rfl)) rfl⟩
theorem mb_X8_init : q_MB yX8_init cX8_init 2 none 1 := ⟨q_mem (tb_1 (List.mem_of_getElem? (i := 55) rfl)) rfl, ni_X8, ⟨nc_X8.1, nc_X8.2, pd_37⟩, plainFor_of_name np_X8, by decide⟩
theorem mb_X8_isBlank : q_MB yX8_isBlank cX8_isBlank 1 (some .boolean) 1 := ⟨q_mem (tb_3 (List.mem_of_getElem? (i := 73) rfl)) rfl, ni_X8, ⟨nc_X8.1, nc_X8.2, pd_8⟩, plainFor_of_name np_X8, by decide⟩
theorem ms_X8_isBlank : Cond.static yX8_isBlank ∈ q_gT := q_mem (tb_3 (List.mem_of_getElem? (i := 72) rfl)) rfl
theorem mb_X8_isDigit : q_MB yX8_isDigit cX8_isDigit 1 (some .boolean) 1 := ⟨q_mem (tb_3 (List.mem_of_getElem? (i := 124) rfl)) rfl, ni_X8, ⟨nc_X8.1, nc_X8.2, pd_8⟩, plainFor_of_name np_X8, by decide⟩
theorem ms_X8_isDigit : Cond.static yX8_isDigit ∈ q_gT := q_mem (tb_3 (List.mem_of_getElem? (i := 123) rfl)) rfl
theorem mb_X8_isLetter : q_MB yX8_isLetter cX8_isLetter 1 (some .boolean) 1 := ⟨q_mem (tb_3 (List.mem_of_getElem? (i := 76) rfl)) rfl, ni_X8, ⟨nc_X8.1, nc_X8.2, pd_8⟩, plainFor_of_name np_X8, by decide⟩
theorem ms_X8_isLetter : Cond.static yX8_isLetter ∈ q_gT := q_mem (tb_3 (List.mem_of_getElem? (i := 75) rfl)) rfl
theorem mb_X8_isSign : q_MB yX8_isSign cX8_isSign 2 (some .boolean) 1 := ⟨q_mem (tb_3 (List.mem_of_getElem? (i := 200) rfl)) rfl, ni_X8, ⟨nc_X8.1, nc_X8.2, pd_8⟩, plainFor_of_name np_X8, by decide⟩
theorem mv_X8_isSign : q_MV yX8_isSign := ⟨q_mem (tb_3 (List.mem_of_getElem? (i := 198) rfl)) rfl, q_mem (tb_3 (List.mem_of_getElem? (i := 199) rfl)) rfl⟩
theorem mb_X8_isWord : q_MB yX8_isWord cX8_isWord 2 (some .boolean) 1 := ⟨q_mem (tb_3 (List.mem_of_getElem? (i := 136) rfl)) rfl, ni_X8, ⟨nc_X8.1, nc_X8.2, pd_8⟩, plainFor_of_name np_X8, by decide⟩
theorem mv_X8_isWord : q_MV yX8_isWord := ⟨q_mem (tb_3 (List.mem_of_getElem? (i := 134) rfl)) rfl, q_mem (tb_3 (List.mem_of_getElem? (i := 135) rfl)) rfl⟩
theorem mb_X8_readNumeral : q_MB yX8_readNumeral cX8_readNumeral 1 none 0 := ⟨q_mem (tb_3 (List.mem_of_getElem? (i := 128) rfl)) rfl, ni_X8, ⟨nc_X8.1, nc_X8.2, pd_2⟩, plainFor_of_name np_X8, by decide⟩
theorem mv_X8_readNumeral : q_MV yX8_readNumeral := ⟨q_mem (tb_3 (List.mem_of_getElem? (i := 127) rfl)) rfl, q_mem (tp_1 (List.mem_of_getElem? (i := 2) rfl)) rfl⟩
theorem mb_X8_readWord : q_MB yX8_readWord cX8_readWord 5 none 0 := ⟨q_mem (tb_3 (List.mem_of_getElem? (i := 80) rfl)) rfl, ni_X8, ⟨nc_X8.1, nc_X8.2, pd_2⟩, plainFor_of_name np_X8, by decide⟩
theorem mv_X8_readWord : q_MV yX8_readWord := ⟨q_mem (tb_3 (List.mem_of_getElem? (i := 79) rfl)) rfl, q_mem (tp_1 (List.mem_of_getElem? (i := 1) rfl)) rfl⟩
theorem mb_X8_step : q_MB yX8_step cX8_step 4 none 0 := ⟨q_mem (tb_3 (List.mem_of_getElem? (i := 66) rfl)) rfl, ni_X8, ⟨nc_X8.1, nc_X8.2, pd_2⟩, plainFor_of_name np_X8, by decide⟩
theorem mv_X8_step : q_MV yX8_step := ⟨q_mem (tb_3 (List.mem_of_getElem? (i := 64) rfl)) rfl, q_mem (tb_3 (List.mem_of_getElem? (i := 65) rfl)) rfl⟩
theorem mb_X8_takeName : q_MB yX8_takeName cX8_takeName 4 (some .int) 1 := ⟨q_mem (tb_3 (List.mem_of_getElem? (i := 158) rfl)) rfl, ni_X8, ⟨nc_X8.1, nc_X8.2, pd_30⟩, plainFor_of_name np_X8, by decide⟩
theorem mv_X8_takeName : q_MV yX8_takeName := ⟨q_mem (tb_3 (List.mem_of_getElem? (i := 156) rfl)) rfl, q_mem (tb_3 (List.mem_of_getElem? (i := 157) rfl)) rfl⟩
theorem mb_X8_takeNumber : q_MB yX8_takeNumber cX8_takeNumber 4 (some .int) 2 := ⟨q_mem (tb_3 (List.mem_of_getElem? (i := 145) rfl)) rfl, ni_X8, ⟨nc_X8.1, nc_X8.2, pd_9⟩, plainFor_of_name np_X8, by decide⟩
theorem mv_X8_takeNumber : q_MV yX8_takeNumber := ⟨q_mem (tb_3 (List.mem_of_getElem? (i := 143) rfl)) rfl, q_mem (tb_3 (List.mem_of_getElem? (i := 144) rfl)) rfl⟩
theorem mb_X8_takeSign : q_MB yX8_takeSign cX8_takeSign 2 none 1 := ⟨q_mem (tb_3 (List.mem_of_getElem? (i := 211) rfl)) rfl, ni_X8, ⟨nc_X8.1, nc_X8.2, pd_7⟩, plainFor_of_name np_X8, by decide⟩
theorem mv_X8_takeSign : q_MV yX8_takeSign := ⟨q_mem (tb_3 (List.mem_of_getElem? (i := 209) rfl)) rfl, q_mem (tb_3 (List.mem_of_getElem? (i := 210) rfl)) rfl⟩
theorem mb_X8_takeWord : q_MB yX8_takeWord cX8_takeWord 2 none 1 := ⟨q_mem (tb_3 (List.mem_of_getElem? (i := 166) rfl)) rfl, ni_X8, ⟨nc_X8.1, nc_X8.2, pd_7⟩, plainFor_of_name np_X8, by decide⟩
theorem mv_X8_takeWord : q_MV yX8_takeWord := ⟨q_mem (tb_3 (List.mem_of_getElem? (i := 164) rfl)) rfl, q_mem (tb_3 (List.mem_of_getElem? (i := 165) rfl)) rfl⟩
theorem mb_X9_init : q_MB yX9_init cX9_init 1 none 0 := ⟨q_mem (tb_1 (List.mem_of_getElem? (i := 208) rfl)) rfl, ni_X9, ⟨nc_X9.1, nc_X9.2, pd_2⟩, plainFor_of_name np_X9, by decide⟩
theorem mb_X9_isSuch : q_MB yX9_isSuch cX9_isSuch 4 (some .boolean) 2 := ⟨q_mem (tb_4 (List.mem_of_getElem? (i := 224) rfl)) rfl, ni_X9, ⟨nc_X9.1, nc_X9.2, pd_38⟩, plainFor_of_name np_X9, by decide⟩
theorem mv_X9_isSuch : q_MV yX9_isSuch := ⟨q_mem (tb_4 (List.mem_of_getElem? (i := 222) rfl)) rfl, q_mem (tb_4 (List.mem_of_getElem? (i := 223) rfl)) rfl⟩
theorem mb_X9_take : q_MB yX9_take cX9_take 3 none 1 := ⟨q_mem (tb_4 (List.mem_of_getElem? (i := 229) rfl)) rfl, ni_X9, ⟨nc_X9.1, nc_X9.2, pd_37⟩, plainFor_of_name np_X9, by decide⟩
theorem mv_X9_take : q_MV yX9_take := ⟨q_mem (tb_4 (List.mem_of_getElem? (i := 227) rfl)) rfl, q_mem (tb_4 (List.mem_of_getElem? (i := 228) rfl)) rfl⟩
theorem mb_X9_wrongRows : q_MB yX9_wrongRows cX9_wrongRows 5 (some .int) 2 := ⟨q_mem (tb_5 (List.mem_of_getElem? (i := 3) rfl)) rfl, ni_X9, ⟨nc_X9.1, nc_X9.2, pd_34⟩, plainFor_of_name np_X9, by decide⟩
theorem mv_X9_wrongRows : q_MV yX9_wrongRows := ⟨q_mem (tb_5 (List.mem_of_getElem? (i := 1) rfl)) rfl, q_mem (tb_5 (List.mem_of_getElem? (i := 2) rfl)) rfl⟩
theorem kc_X7_94 : Cond.constant RX7 94 (1000000) ∈ q_gT := q_mem (tb_4 (List.mem_of_getElem? (i := 113) rfl)) rfl
theorem kc_X7_97 : Cond.constant RX7 97 (-1000000) ∈ q_gT := q_mem (tb_4 (List.mem_of_getElem? (i := 115) rfl)) rfl
theorem kc_J6_265 : Cond.constant RJ6 265 (1431655765) ∈ q_gT := q_mem (tb_4 (List.mem_of_getElem? (i := 40) rfl)) rfl
theorem kc_J6_266 : Cond.constant RJ6 266 (858993459) ∈ q_gT := q_mem (tb_4 (List.mem_of_getElem? (i := 41) rfl)) rfl
theorem kc_J6_267 : Cond.constant RJ6 267 (252645135) ∈ q_gT := q_mem (tb_4 (List.mem_of_getElem? (i := 42) rfl)) rfl
theorem kl_X11_307 : Cond.constantLong RX11 307 (-1000000000000000) ∈ q_gT := q_mem (tb_5 (List.mem_of_getElem? (i := 68) rfl)) rfl
theorem kl_X1_64 : Cond.constantLong RX1 64 (1103515245) ∈ q_gT := q_mem (tb_5 (List.mem_of_getElem? (i := 47) rfl)) rfl
theorem kl_X1_66 : Cond.constantLong RX1 66 (12345) ∈ q_gT := q_mem (tb_5 (List.mem_of_getElem? (i := 48) rfl)) rfl
theorem kl_X1_68 : Cond.constantLong RX1 68 (2147483648) ∈ q_gT := q_mem (tb_5 (List.mem_of_getElem? (i := 49) rfl)) rfl
theorem kl_X1_70 : Cond.constantLong RX1 70 (64) ∈ q_gT := q_mem (tb_5 (List.mem_of_getElem? (i := 50) rfl)) rfl
theorem kl_X1_72 : Cond.constantLong RX1 72 (100) ∈ q_gT := q_mem (tb_5 (List.mem_of_getElem? (i := 51) rfl)) rfl
theorem kl_X7_92 : Cond.constantLong RX7 92 (1000000) ∈ q_gT := q_mem (tb_4 (List.mem_of_getElem? (i := 112) rfl)) rfl
theorem kl_X7_95 : Cond.constantLong RX7 95 (-1000000) ∈ q_gT := q_mem (tb_4 (List.mem_of_getElem? (i := 114) rfl)) rfl
theorem kl_X12_288 : Cond.constantLong RX12 288 (27) ∈ q_gT := q_mem (tb_7 (List.mem_of_getElem? (i := 51) rfl)) rfl
theorem kl_X12_290 : Cond.constantLong RX12 290 (97) ∈ q_gT := q_mem (tb_7 (List.mem_of_getElem? (i := 52) rfl)) rfl
theorem kl_X12_411 : Cond.constantLong RX12 411 (999) ∈ q_gT := q_mem (tb_8 (List.mem_of_getElem? (i := 6) rfl)) rfl
theorem kl_X12_439 : Cond.constantLong RX12 439 (5) ∈ q_gT := q_mem (tb_7 (List.mem_of_getElem? (i := 171) rfl)) rfl
theorem kl_X12_445 : Cond.constantLong RX12 445 (3) ∈ q_gT := q_mem (tb_7 (List.mem_of_getElem? (i := 184) rfl)) rfl
theorem kl_X12_456 : Cond.constantLong RX12 456 (2) ∈ q_gT := q_mem (tb_8 (List.mem_of_getElem? (i := 23) rfl)) rfl
theorem kl_X12_482 : Cond.constantLong RX12 482 (-1) ∈ q_gT := q_mem (tb_7 (List.mem_of_getElem? (i := 233) rfl)) rfl
theorem kl_X12_503 : Cond.constantLong RX12 503 (400) ∈ q_gT := q_mem (tb_8 (List.mem_of_getElem? (i := 135) rfl)) rfl
theorem kl_X12_511 : Cond.constantLong RX12 511 (1103515245) ∈ q_gT := q_mem (tb_8 (List.mem_of_getElem? (i := 156) rfl)) rfl
theorem kl_X12_513 : Cond.constantLong RX12 513 (12345) ∈ q_gT := q_mem (tb_8 (List.mem_of_getElem? (i := 157) rfl)) rfl
theorem kl_X12_515 : Cond.constantLong RX12 515 (2147483648) ∈ q_gT := q_mem (tb_8 (List.mem_of_getElem? (i := 158) rfl)) rfl
theorem kl_X12_517 : Cond.constantLong RX12 517 (64) ∈ q_gT := q_mem (tb_8 (List.mem_of_getElem? (i := 159) rfl)) rfl
theorem kl_X12_576 : Cond.constantLong RX12 576 (1000000) ∈ q_gT := q_mem (tb_8 (List.mem_of_getElem? (i := 1) rfl)) rfl
theorem kl_X12_578 : Cond.constantLong RX12 578 (-1000000) ∈ q_gT := q_mem (tb_8 (List.mem_of_getElem? (i := 2) rfl)) rfl
theorem kl_X12_601 : Cond.constantLong RX12 601 (-1000000000000000) ∈ q_gT := q_mem (tb_8 (List.mem_of_getElem? (i := 164) rfl)) rfl
theorem js_1053 : Cond.fieldLink RJ0 1053 "jdk/internal/util/Preconditions" "SIOOBE_FORMATTER" "Ljava/util/function/BiFunction;" ∈ q_gT := q_mem (tb_3 (List.mem_of_getElem? (i := 98) rfl)) rfl
theorem js_38 : Cond.fieldLink RJ0 38 "java/lang/String" "COMPACT_STRINGS" "Z" ∈ q_gT := q_mem (tb_3 (List.mem_of_getElem? (i := 90) rfl)) rfl
theorem js_9 : Cond.fieldLink RJ0 9 "java/lang/String" "value" "[B" ∈ q_gT := q_mem (tb_8 (List.mem_of_getElem? (i := 213) rfl)) rfl
theorem js_15 : Cond.fieldLink RJ0 15 "java/lang/String" "coder" "B" ∈ q_gT := q_mem (tb_8 (List.mem_of_getElem? (i := 212) rfl)) rfl
theorem ml_X5_106' : Cond.methodLink RX5 106 Lib.Math.max.name ∈ q_gT := q_mem (tb_4 (List.mem_of_getElem? (i := 130) rfl)) rfl
theorem ml_X10_15' : Cond.methodLink RX10 15 Lib.Math.max.name ∈ q_gT := q_mem (tb_1 (List.mem_of_getElem? (i := 36) rfl)) rfl
theorem jm_max : Cond.static Lib.Math.max.name ∈ q_gT := q_mem (tb_1 (List.mem_of_getElem? (i := 37) rfl)) rfl
theorem jc_max : Cond.code Lib.Math.max.name Lib.Math.max.code 2 (some .int) ∈ q_gT := q_mem (tb_1 (List.mem_of_getElem? (i := 38) rfl)) rfl
theorem ml_X1_58' : Cond.methodLink RX1 58 Lib.Math.min.name ∈ q_gT := q_mem (tb_5 (List.mem_of_getElem? (i := 18) rfl)) rfl
theorem ml_X5_100' : Cond.methodLink RX5 100 Lib.Math.min.name ∈ q_gT := q_mem (tb_4 (List.mem_of_getElem? (i := 127) rfl)) rfl
theorem ml_X9_41' : Cond.methodLink RX9 41 Lib.Math.min.name ∈ q_gT := q_mem (tb_4 (List.mem_of_getElem? (i := 230) rfl)) rfl
theorem jm_min : Cond.static Lib.Math.min.name ∈ q_gT := q_mem (tb_4 (List.mem_of_getElem? (i := 128) rfl)) rfl
theorem jc_min : Cond.code Lib.Math.min.name Lib.Math.min.code 2 (some .int) ∈ q_gT := q_mem (tb_4 (List.mem_of_getElem? (i := 129) rfl)) rfl
theorem ml_X11_278' : Cond.methodLink RX11 278 Lib.Math.abs.name ∈ q_gT := q_mem (tb_5 (List.mem_of_getElem? (i := 13) rfl)) rfl
theorem ml_X6_84' : Cond.methodLink RX6 84 Lib.Math.abs.name ∈ q_gT := q_mem (tb_4 (List.mem_of_getElem? (i := 173) rfl)) rfl
theorem jm_abs : Cond.static Lib.Math.abs.name ∈ q_gT := q_mem (tb_4 (List.mem_of_getElem? (i := 174) rfl)) rfl
theorem jc_abs : Cond.code Lib.Math.abs.name Lib.Math.abs.code 1 (some .int) ∈ q_gT := q_mem (tb_4 (List.mem_of_getElem? (i := 175) rfl)) rfl
theorem ac1 : Cond.native arraycopyName ∈ q_gT := q_mem (tb_4 (List.mem_of_getElem? (i := 172) rfl)) rfl
theorem ac2 : Cond.static arraycopyName ∈ q_gT := q_mem (tb_4 (List.mem_of_getElem? (i := 171) rfl)) rfl
theorem ac3 : Cond.initialized "java/lang/System" ∈ q_gT := q_mem (tb_1 (List.mem_of_getElem? (i := 21) rfl)) rfl
theorem ac4 : Cond.methodLink RX6 78 arraycopyName ∈ q_gT := q_mem (tb_4 (List.mem_of_getElem? (i := 170) rfl)) rfl
theorem fx_0_0 : (0, 0, 1) ∈ q_fx := by decide +kernel
theorem fx_0_1 : (0, 1, 3) ∈ q_fx := by decide +kernel
theorem fx_0_2 : (0, 2, 5) ∈ q_fx := by decide +kernel
theorem fx_0_3 : (0, 3, 6) ∈ q_fx := by decide +kernel
theorem fx_0_4 : (0, 4, 8) ∈ q_fx := by decide +kernel
theorem fx_0_5 : (0, 5, 9) ∈ q_fx := by decide +kernel
theorem fx_0_6 : (0, 6, 10) ∈ q_fx := by decide +kernel
theorem fx_0_7 : (0, 7, 36) ∈ q_fx := by decide +kernel
theorem fx_0_8 : (0, 8, 40) ∈ q_fx := by decide +kernel
theorem fx_0_9 : (0, 9, 52) ∈ q_fx := by decide +kernel
theorem fx_0_10 : (0, 10, 56) ∈ q_fx := by decide +kernel
theorem fx_0_13 : (0, 13, 87) ∈ q_fx := by decide +kernel
theorem fx_5_0 : (5, 0, 1) ∈ q_fx := by decide +kernel
theorem fx_8_0 : (8, 0, 5) ∈ q_fx := by decide +kernel
theorem fx_9_0 : (9, 0, 5) ∈ q_fx := by decide +kernel
theorem fx_9_1 : (9, 1, 8) ∈ q_fx := by decide +kernel
theorem fx_10_4 : (10, 4, 11) ∈ q_fx := by decide +kernel
theorem fx_10_6 : (10, 6, 12) ∈ q_fx := by decide +kernel
theorem fx_10_7 : (10, 7, 13) ∈ q_fx := by decide +kernel
theorem fx_10_8 : (10, 8, 14) ∈ q_fx := by decide +kernel
theorem fx_10_9 : (10, 9, 15) ∈ q_fx := by decide +kernel
theorem fx_36_1 : (36, 1, 37) ∈ q_fx := by decide +kernel
theorem fx_36_2 : (36, 2, 38) ∈ q_fx := by decide +kernel
theorem fx_36_3 : (36, 3, 39) ∈ q_fx := by decide +kernel
theorem fx_40_2 : (40, 2, 41) ∈ q_fx := by decide +kernel
theorem fx_40_3 : (40, 3, 42) ∈ q_fx := by decide +kernel
theorem fx_40_4 : (40, 4, 49) ∈ q_fx := by decide +kernel
theorem fx_40_5 : (40, 5, 50) ∈ q_fx := by decide +kernel
theorem fx_40_7 : (40, 7, 51) ∈ q_fx := by decide +kernel
theorem fx_87_1 : (87, 1, 88) ∈ q_fx := by decide +kernel
theorem fx_87_2 : (87, 2, 89) ∈ q_fx := by decide +kernel
theorem fx_87_3 : (87, 3, 90) ∈ q_fx := by decide +kernel
theorem fx_94_0 : (94, 0, 95) ∈ q_fx := by decide +kernel
theorem fx_94_9 : (94, 9, 96) ∈ q_fx := by decide +kernel
theorem fx_94_10 : (94, 10, 97) ∈ q_fx := by decide +kernel
theorem fx_94_11 : (94, 11, 98) ∈ q_fx := by decide +kernel
theorem fx_94_12 : (94, 12, 99) ∈ q_fx := by decide +kernel
theorem fx_94_13 : (94, 13, 100) ∈ q_fx := by decide +kernel
theorem fx_94_14 : (94, 14, 101) ∈ q_fx := by decide +kernel
theorem fx_94_15 : (94, 15, 102) ∈ q_fx := by decide +kernel
theorem fx_94_16 : (94, 16, 103) ∈ q_fx := by decide +kernel
theorem fx_94_17 : (94, 17, 104) ∈ q_fx := by decide +kernel
theorem fx_94_18 : (94, 18, 105) ∈ q_fx := by decide +kernel
theorem fx_94_19 : (94, 19, 106) ∈ q_fx := by decide +kernel
theorem fx_94_20 : (94, 20, 107) ∈ q_fx := by decide +kernel
theorem fx_94_21 : (94, 21, 108) ∈ q_fx := by decide +kernel
theorem fx_94_22 : (94, 22, 109) ∈ q_fx := by decide +kernel
theorem fx_94_23 : (94, 23, 110) ∈ q_fx := by decide +kernel
theorem fx_94_24 : (94, 24, 111) ∈ q_fx := by decide +kernel
theorem fx_94_25 : (94, 25, 112) ∈ q_fx := by decide +kernel
theorem fx_94_26 : (94, 26, 113) ∈ q_fx := by decide +kernel
theorem fx_94_27 : (94, 27, 114) ∈ q_fx := by decide +kernel
theorem fx_94_28 : (94, 28, 115) ∈ q_fx := by decide +kernel
theorem fx_94_29 : (94, 29, 116) ∈ q_fx := by decide +kernel
theorem fx_94_30 : (94, 30, 117) ∈ q_fx := by decide +kernel
theorem fx_94_31 : (94, 31, 118) ∈ q_fx := by decide +kernel
theorem fx_94_32 : (94, 32, 119) ∈ q_fx := by decide +kernel
theorem fx_94_33 : (94, 33, 120) ∈ q_fx := by decide +kernel
theorem fx_94_34 : (94, 34, 121) ∈ q_fx := by decide +kernel
theorem fx_94_36 : (94, 36, 122) ∈ q_fx := by decide +kernel
theorem fx_94_37 : (94, 37, 123) ∈ q_fx := by decide +kernel
theorem fx_94_38 : (94, 38, 124) ∈ q_fx := by decide +kernel
theorem fx_94_39 : (94, 39, 125) ∈ q_fx := by decide +kernel
theorem fx_94_40 : (94, 40, 126) ∈ q_fx := by decide +kernel
theorem fx_94_41 : (94, 41, 127) ∈ q_fx := by decide +kernel
theorem fx_94_42 : (94, 42, 128) ∈ q_fx := by decide +kernel
theorem fx_94_43 : (94, 43, 129) ∈ q_fx := by decide +kernel
theorem fx_94_44 : (94, 44, 130) ∈ q_fx := by decide +kernel
theorem fx_94_49 : (94, 49, 131) ∈ q_fx := by decide +kernel
theorem fx_94_54 : (94, 54, 132) ∈ q_fx := by decide +kernel
theorem fx_94_55 : (94, 55, 133) ∈ q_fx := by decide +kernel
theorem fx_94_56 : (94, 56, 134) ∈ q_fx := by decide +kernel
theorem fx_94_57 : (94, 57, 135) ∈ q_fx := by decide +kernel
theorem fx_94_58 : (94, 58, 136) ∈ q_fx := by decide +kernel
theorem fx_94_61 : (94, 61, 137) ∈ q_fx := by decide +kernel
theorem fx_94_63 : (94, 63, 138) ∈ q_fx := by decide +kernel
theorem fx_94_64 : (94, 64, 139) ∈ q_fx := by decide +kernel
theorem fx_94_68 : (94, 68, 140) ∈ q_fx := by decide +kernel
theorem fx_94_69 : (94, 69, 141) ∈ q_fx := by decide +kernel
theorem fx_94_70 : (94, 70, 142) ∈ q_fx := by decide +kernel
theorem fx_94_71 : (94, 71, 143) ∈ q_fx := by decide +kernel
theorem fx_94_72 : (94, 72, 144) ∈ q_fx := by decide +kernel
theorem fx_94_73 : (94, 73, 145) ∈ q_fx := by decide +kernel
theorem fx_94_74 : (94, 74, 146) ∈ q_fx := by decide +kernel
theorem fx_94_75 : (94, 75, 147) ∈ q_fx := by decide +kernel
theorem fx_94_76 : (94, 76, 148) ∈ q_fx := by decide +kernel
theorem fx_94_77 : (94, 77, 149) ∈ q_fx := by decide +kernel
theorem fx_94_78 : (94, 78, 150) ∈ q_fx := by decide +kernel
theorem fx_94_79 : (94, 79, 151) ∈ q_fx := by decide +kernel
theorem fx_94_80 : (94, 80, 152) ∈ q_fx := by decide +kernel
theorem fx_94_81 : (94, 81, 153) ∈ q_fx := by decide +kernel
theorem fx_94_82 : (94, 82, 154) ∈ q_fx := by decide +kernel
theorem fx_94_83 : (94, 83, 155) ∈ q_fx := by decide +kernel
theorem fx_94_84 : (94, 84, 156) ∈ q_fx := by decide +kernel
theorem fx_94_85 : (94, 85, 157) ∈ q_fx := by decide +kernel
theorem fx_94_86 : (94, 86, 158) ∈ q_fx := by decide +kernel
theorem fx_94_87 : (94, 87, 159) ∈ q_fx := by decide +kernel
theorem fx_94_88 : (94, 88, 160) ∈ q_fx := by decide +kernel
theorem fx_94_89 : (94, 89, 161) ∈ q_fx := by decide +kernel
theorem fx_94_90 : (94, 90, 162) ∈ q_fx := by decide +kernel
theorem fx_94_92 : (94, 92, 163) ∈ q_fx := by decide +kernel
theorem fx_94_96 : (94, 96, 164) ∈ q_fx := by decide +kernel
theorem fx_94_100 : (94, 100, 165) ∈ q_fx := by decide +kernel
theorem fs_0_00 : ∀ r, r < 166 → q_shp r = (0, 0) → (r, 0, q_fr r 0) ∈ q_fx := by decide +kernel
theorem fs_0_0 {r : Nat} (h : q_shp r = (0, 0)) : (r, 0, q_fr r 0) ∈ q_fx := fs_0_00 r (q_shp_lt h (fun h9 => by cases h9)) h
theorem ft_0_00 : ∀ r, r < 166 → q_shp r = (0, 0) → q_shp (q_fr r 0) = (1, 1600) := by decide +kernel
theorem ft_0_0 {r : Nat} (h : q_shp r = (0, 0)) : q_shp (q_fr r 0) = (1, 1600) := ft_0_00 r (q_shp_lt h (fun h9 => by cases h9)) h
theorem fs_2_20 : ∀ r, r < 166 → q_shp r = (0, 2) → (r, 2, q_fr r 2) ∈ q_fx := by decide +kernel
theorem fs_2_2 {r : Nat} (h : q_shp r = (0, 2)) : (r, 2, q_fr r 2) ∈ q_fx := fs_2_20 r (q_shp_lt h (fun h9 => by cases h9)) h
theorem ft_2_20 : ∀ r, r < 166 → q_shp r = (0, 2) → q_shp (q_fr r 2) = (1, 6) := by decide +kernel
theorem ft_2_2 {r : Nat} (h : q_shp r = (0, 2)) : q_shp (q_fr r 2) = (1, 6) := ft_2_20 r (q_shp_lt h (fun h9 => by cases h9)) h
theorem fs_2_30 : ∀ r, r < 166 → q_shp r = (0, 2) → (r, 3, q_fr r 3) ∈ q_fx := by decide +kernel
theorem fs_2_3 {r : Nat} (h : q_shp r = (0, 2)) : (r, 3, q_fr r 3) ∈ q_fx := fs_2_30 r (q_shp_lt h (fun h9 => by cases h9)) h
theorem ft_2_30 : ∀ r, r < 166 → q_shp r = (0, 2) → q_shp (q_fr r 3) = (1, 6) := by decide +kernel
theorem ft_2_3 {r : Nat} (h : q_shp r = (0, 2)) : q_shp (q_fr r 3) = (1, 6) := ft_2_30 r (q_shp_lt h (fun h9 => by cases h9)) h
theorem fs_2_40 : ∀ r, r < 166 → q_shp r = (0, 2) → (r, 4, q_fr r 4) ∈ q_fx := by decide +kernel
theorem fs_2_4 {r : Nat} (h : q_shp r = (0, 2)) : (r, 4, q_fr r 4) ∈ q_fx := fs_2_40 r (q_shp_lt h (fun h9 => by cases h9)) h
theorem ft_2_40 : ∀ r, r < 166 → q_shp r = (0, 2) → q_shp (q_fr r 4) = (1, 6) := by decide +kernel
theorem ft_2_4 {r : Nat} (h : q_shp r = (0, 2)) : q_shp (q_fr r 4) = (1, 6) := ft_2_40 r (q_shp_lt h (fun h9 => by cases h9)) h
theorem fs_2_50 : ∀ r, r < 166 → q_shp r = (0, 2) → (r, 5, q_fr r 5) ∈ q_fx := by decide +kernel
theorem fs_2_5 {r : Nat} (h : q_shp r = (0, 2)) : (r, 5, q_fr r 5) ∈ q_fx := fs_2_50 r (q_shp_lt h (fun h9 => by cases h9)) h
theorem ft_2_50 : ∀ r, r < 166 → q_shp r = (0, 2) → q_shp (q_fr r 5) = (1, 6) := by decide +kernel
theorem ft_2_5 {r : Nat} (h : q_shp r = (0, 2)) : q_shp (q_fr r 5) = (1, 6) := ft_2_50 r (q_shp_lt h (fun h9 => by cases h9)) h
theorem fs_2_60 : ∀ r, r < 166 → q_shp r = (0, 2) → (r, 6, q_fr r 6) ∈ q_fx := by decide +kernel
theorem fs_2_6 {r : Nat} (h : q_shp r = (0, 2)) : (r, 6, q_fr r 6) ∈ q_fx := fs_2_60 r (q_shp_lt h (fun h9 => by cases h9)) h
theorem ft_2_60 : ∀ r, r < 166 → q_shp r = (0, 2) → q_shp (q_fr r 6) = (1, 6) := by decide +kernel
theorem ft_2_6 {r : Nat} (h : q_shp r = (0, 2)) : q_shp (q_fr r 6) = (1, 6) := ft_2_60 r (q_shp_lt h (fun h9 => by cases h9)) h
theorem fs_2_80 : ∀ r, r < 166 → q_shp r = (0, 2) → (r, 8, q_fr r 8) ∈ q_fx := by decide +kernel
theorem fs_2_8 {r : Nat} (h : q_shp r = (0, 2)) : (r, 8, q_fr r 8) ∈ q_fx := fs_2_80 r (q_shp_lt h (fun h9 => by cases h9)) h
theorem ft_2_80 : ∀ r, r < 166 → q_shp r = (0, 2) → q_shp (q_fr r 8) = (1, 8) := by decide +kernel
theorem ft_2_8 {r : Nat} (h : q_shp r = (0, 2)) : q_shp (q_fr r 8) = (1, 8) := ft_2_80 r (q_shp_lt h (fun h9 => by cases h9)) h
theorem fs_2_90 : ∀ r, r < 166 → q_shp r = (0, 2) → (r, 9, q_fr r 9) ∈ q_fx := by decide +kernel
theorem fs_2_9 {r : Nat} (h : q_shp r = (0, 2)) : (r, 9, q_fr r 9) ∈ q_fx := fs_2_90 r (q_shp_lt h (fun h9 => by cases h9)) h
theorem ft_2_90 : ∀ r, r < 166 → q_shp r = (0, 2) → q_shp (q_fr r 9) = (1, 8) := by decide +kernel
theorem ft_2_9 {r : Nat} (h : q_shp r = (0, 2)) : q_shp (q_fr r 9) = (1, 8) := ft_2_90 r (q_shp_lt h (fun h9 => by cases h9)) h
theorem fs_2_100 : ∀ r, r < 166 → q_shp r = (0, 2) → (r, 10, q_fr r 10) ∈ q_fx := by decide +kernel
theorem fs_2_10 {r : Nat} (h : q_shp r = (0, 2)) : (r, 10, q_fr r 10) ∈ q_fx := fs_2_100 r (q_shp_lt h (fun h9 => by cases h9)) h
theorem ft_2_100 : ∀ r, r < 166 → q_shp r = (0, 2) → q_shp (q_fr r 10) = (1, 8) := by decide +kernel
theorem ft_2_10 {r : Nat} (h : q_shp r = (0, 2)) : q_shp (q_fr r 10) = (1, 8) := ft_2_100 r (q_shp_lt h (fun h9 => by cases h9)) h
theorem fs_2_120 : ∀ r, r < 166 → q_shp r = (0, 2) → (r, 12, q_fr r 12) ∈ q_fx := by decide +kernel
theorem fs_2_12 {r : Nat} (h : q_shp r = (0, 2)) : (r, 12, q_fr r 12) ∈ q_fx := fs_2_120 r (q_shp_lt h (fun h9 => by cases h9)) h
theorem ft_2_120 : ∀ r, r < 166 → q_shp r = (0, 2) → q_shp (q_fr r 12) = (1, 8) := by decide +kernel
theorem ft_2_12 {r : Nat} (h : q_shp r = (0, 2)) : q_shp (q_fr r 12) = (1, 8) := ft_2_120 r (q_shp_lt h (fun h9 => by cases h9)) h
theorem fs_2_130 : ∀ r, r < 166 → q_shp r = (0, 2) → (r, 13, q_fr r 13) ∈ q_fx := by decide +kernel
theorem fs_2_13 {r : Nat} (h : q_shp r = (0, 2)) : (r, 13, q_fr r 13) ∈ q_fx := fs_2_130 r (q_shp_lt h (fun h9 => by cases h9)) h
theorem ft_2_130 : ∀ r, r < 166 → q_shp r = (0, 2) → q_shp (q_fr r 13) = (1, 8) := by decide +kernel
theorem ft_2_13 {r : Nat} (h : q_shp r = (0, 2)) : q_shp (q_fr r 13) = (1, 8) := ft_2_130 r (q_shp_lt h (fun h9 => by cases h9)) h
theorem fs_2_140 : ∀ r, r < 166 → q_shp r = (0, 2) → (r, 14, q_fr r 14) ∈ q_fx := by decide +kernel
theorem fs_2_14 {r : Nat} (h : q_shp r = (0, 2)) : (r, 14, q_fr r 14) ∈ q_fx := fs_2_140 r (q_shp_lt h (fun h9 => by cases h9)) h
theorem ft_2_140 : ∀ r, r < 166 → q_shp r = (0, 2) → q_shp (q_fr r 14) = (0, 0) := by decide +kernel
theorem ft_2_14 {r : Nat} (h : q_shp r = (0, 2)) : q_shp (q_fr r 14) = (0, 0) := ft_2_140 r (q_shp_lt h (fun h9 => by cases h9)) h
theorem fs_2_150 : ∀ r, r < 166 → q_shp r = (0, 2) → (r, 15, q_fr r 15) ∈ q_fx := by decide +kernel
theorem fs_2_15 {r : Nat} (h : q_shp r = (0, 2)) : (r, 15, q_fr r 15) ∈ q_fx := fs_2_150 r (q_shp_lt h (fun h9 => by cases h9)) h
theorem ft_2_150 : ∀ r, r < 166 → q_shp r = (0, 2) → q_shp (q_fr r 15) = (0, 0) := by decide +kernel
theorem ft_2_15 {r : Nat} (h : q_shp r = (0, 2)) : q_shp (q_fr r 15) = (0, 0) := ft_2_150 r (q_shp_lt h (fun h9 => by cases h9)) h
theorem fs_7_00 : ∀ r, r < 166 → q_shp r = (0, 7) → (r, 0, q_fr r 0) ∈ q_fx := by decide +kernel
theorem fs_7_0 {r : Nat} (h : q_shp r = (0, 7)) : (r, 0, q_fr r 0) ∈ q_fx := fs_7_00 r (q_shp_lt h (fun h9 => by cases h9)) h
theorem ft_7_00 : ∀ r, r < 166 → q_shp r = (0, 7) → q_shp (q_fr r 0) = (1, 64) := by decide +kernel
theorem ft_7_0 {r : Nat} (h : q_shp r = (0, 7)) : q_shp (q_fr r 0) = (1, 64) := ft_7_00 r (q_shp_lt h (fun h9 => by cases h9)) h
theorem fs_7_110 : ∀ r, r < 166 → q_shp r = (0, 7) → (r, 11, q_fr r 11) ∈ q_fx := by decide +kernel
theorem fs_7_11 {r : Nat} (h : q_shp r = (0, 7)) : (r, 11, q_fr r 11) ∈ q_fx := fs_7_110 r (q_shp_lt h (fun h9 => by cases h9)) h
theorem ft_7_110 : ∀ r, r < 166 → q_shp r = (0, 7) → q_shp (q_fr r 11) = (1, 6) := by decide +kernel
theorem ft_7_11 {r : Nat} (h : q_shp r = (0, 7)) : q_shp (q_fr r 11) = (1, 6) := ft_7_110 r (q_shp_lt h (fun h9 => by cases h9)) h
theorem fs_7_120 : ∀ r, r < 166 → q_shp r = (0, 7) → (r, 12, q_fr r 12) ∈ q_fx := by decide +kernel
theorem fs_7_12 {r : Nat} (h : q_shp r = (0, 7)) : (r, 12, q_fr r 12) ∈ q_fx := fs_7_120 r (q_shp_lt h (fun h9 => by cases h9)) h
theorem ft_7_120 : ∀ r, r < 166 → q_shp r = (0, 7) → q_shp (q_fr r 12) = (1, 6) := by decide +kernel
theorem ft_7_12 {r : Nat} (h : q_shp r = (0, 7)) : q_shp (q_fr r 12) = (1, 6) := ft_7_120 r (q_shp_lt h (fun h9 => by cases h9)) h
theorem fs_10_00 : ∀ r, r < 166 → q_shp r = (0, 10) → (r, 0, q_fr r 0) ∈ q_fx := by decide +kernel
theorem fs_10_0 {r : Nat} (h : q_shp r = (0, 10)) : (r, 0, q_fr r 0) ∈ q_fx := fs_10_00 r (q_shp_lt h (fun h9 => by cases h9)) h
theorem ft_10_00 : ∀ r, r < 166 → q_shp r = (0, 10) → q_shp (q_fr r 0) = (1, (q_shp (q_fr r 0)).2) := by decide +kernel
theorem ft_10_0 {r : Nat} (h : q_shp r = (0, 10)) : q_shp (q_fr r 0) = (1, (q_shp (q_fr r 0)).2) := ft_10_00 r (q_shp_lt h (fun h9 => by cases h9)) h
theorem rw_15 : ∀ j, j < 20 → (15, j, q_fr 15 j) ∈ q_fx ∧ q_shp (q_fr 15 j) = (1, 5) := by decide +kernel
theorem rw_42 : ∀ j, j < 6 → (42, j, q_fr 42 j) ∈ q_fx ∧ q_shp (q_fr 42 j) = (1, 401) := by decide +kernel
theorem tr_0_11 : (0, 11, 2) ∈ q_tr := by decide +kernel
theorem tr_0_12 : (0, 12, 2) ∈ q_tr := by decide +kernel
theorem tr_8_1 : (8, 1, 0) ∈ q_tr := by decide +kernel
theorem tr_87_0 : (87, 0, 2) ∈ q_tr := by decide +kernel
