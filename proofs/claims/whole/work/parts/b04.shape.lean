theorem shC_0 : shC[0]? = some (11, 0, flRD) := rfl
theorem shC_1 : shC[1]? = some (2, 0, flBytes) := rfl
theorem shC_2 : shC[2]? = some (102, 900, []) := rfl
theorem shC_3 : shC[3]? = some (8, 0, flRdr) := rfl
theorem shC_4 : shC[4]? = some (6, 0, flNet) := rfl
theorem shC_5 : shC[5]? = some (100, 12, []) := rfl
theorem shC_6 : shC[6]? = some (100, 12, []) := rfl
theorem shC_7 : shC[7]? = some (100, 30, []) := rfl
theorem shC_8 : shC[8]? = some (100, 30, []) := rfl
theorem shC_9 : shC[9]? = some (100, 30, []) := rfl
theorem shC_10 : shC[10]? = some (100, 30, []) := rfl
theorem shC_11 : shC[11]? = some (100, 30, []) := rfl
theorem shC_12 : shC[12]? = some (100, 30, []) := rfl
theorem shC_13 : shC[13]? = some (104, 12, []) := rfl
theorem shC_14 : shC[14]? = some (100, 12, []) := rfl
theorem shC_15 : shC[15]? = some (100, 12, []) := rfl
theorem shC_16 : shC[16]? = some (100, 12, []) := rfl
theorem shC_17 : shC[17]? = some (100, 12, []) := rfl
theorem shC_18 : shC[18]? = some (100, 12, []) := rfl
theorem shC_19 : shC[19]? = some (100, 12, []) := rfl
theorem shC_20 : shC[20]? = some (100, 12, []) := rfl
theorem shC_21 : shC[21]? = some (100, 12, []) := rfl
theorem shC_22 : shC[22]? = some (100, 12, []) := rfl
theorem shC_23 : shC[23]? = some (100, 12, []) := rfl
theorem shC_24 : shC[24]? = some (100, 12, []) := rfl
theorem shC_25 : shC[25]? = some (100, 12, []) := rfl
theorem shC_26 : shC[26]? = some (104, 12, []) := rfl
theorem shC_27 : shC[27]? = some (100, 12, []) := rfl
theorem shC_28 : shC[28]? = some (100, 12, []) := rfl
theorem shC_29 : shC[29]? = some (100, 12, []) := rfl
theorem shC_30 : shC[30]? = some (100, 12, []) := rfl
theorem shC_31 : shC[31]? = some (100, 12, []) := rfl
theorem shC_32 : shC[32]? = some (100, 12, []) := rfl
theorem shC_33 : shC[33]? = some (100, 12, []) := rfl
theorem shC_34 : shC[34]? = some (100, 12, []) := rfl
theorem shC_35 : shC[35]? = some (100, 12, []) := rfl
theorem shC_36 : shC[36]? = some (100, 12, []) := rfl
theorem shC_37 : shC[37]? = some (100, 12, []) := rfl
theorem shC_38 : shC[38]? = some (100, 12, []) := rfl
theorem shC_39 : shC[39]? = some (103, 144, []) := rfl
theorem shC_40 : shC[40]? = some (100, 900, []) := rfl
theorem shC_41 : shC[41]? = some (100, 64, []) := rfl
theorem shC_42 : shC[42]? = some (9, 0, flScn) := rfl
theorem shC_43 : shC[43]? = some (100, 901, []) := rfl
theorem shC_44 : shC[44]? = some (100, 901, []) := rfl
theorem shC_45 : shC[45]? = some (100, 901, []) := rfl
theorem shC_46 : shC[46]? = some (0, 0, flActs) := rfl
theorem shC_47 : shC[47]? = some (100, 200, []) := rfl
theorem shC_48 : shC[48]? = some (100, 200, []) := rfl
theorem shC_49 : shC[49]? = some (100, 200, []) := rfl
theorem shC_50 : shC[50]? = some (6, 0, flNet) := rfl
theorem shC_51 : shC[51]? = some (100, 12, []) := rfl
theorem shC_52 : shC[52]? = some (100, 12, []) := rfl
theorem shC_53 : shC[53]? = some (100, 30, []) := rfl
theorem shC_54 : shC[54]? = some (100, 30, []) := rfl
theorem shC_55 : shC[55]? = some (100, 30, []) := rfl
theorem shC_56 : shC[56]? = some (100, 30, []) := rfl
theorem shC_57 : shC[57]? = some (100, 30, []) := rfl
theorem shC_58 : shC[58]? = some (100, 30, []) := rfl
theorem shC_59 : shC[59]? = some (104, 12, []) := rfl
theorem shC_60 : shC[60]? = some (100, 12, []) := rfl
theorem shC_61 : shC[61]? = some (100, 12, []) := rfl
theorem shC_62 : shC[62]? = some (100, 12, []) := rfl
theorem shC_63 : shC[63]? = some (100, 12, []) := rfl
theorem shC_64 : shC[64]? = some (100, 12, []) := rfl
theorem shC_65 : shC[65]? = some (100, 12, []) := rfl
theorem shC_66 : shC[66]? = some (100, 12, []) := rfl
theorem shC_67 : shC[67]? = some (100, 12, []) := rfl
theorem shC_68 : shC[68]? = some (100, 12, []) := rfl
theorem shC_69 : shC[69]? = some (100, 12, []) := rfl
theorem shC_70 : shC[70]? = some (100, 12, []) := rfl
theorem shC_71 : shC[71]? = some (100, 12, []) := rfl
theorem shC_72 : shC[72]? = some (104, 12, []) := rfl
theorem shC_73 : shC[73]? = some (100, 12, []) := rfl
theorem shC_74 : shC[74]? = some (100, 12, []) := rfl
theorem shC_75 : shC[75]? = some (100, 12, []) := rfl
theorem shC_76 : shC[76]? = some (100, 12, []) := rfl
theorem shC_77 : shC[77]? = some (100, 12, []) := rfl
theorem shC_78 : shC[78]? = some (100, 12, []) := rfl
theorem shC_79 : shC[79]? = some (100, 12, []) := rfl
theorem shC_80 : shC[80]? = some (100, 12, []) := rfl
theorem shC_81 : shC[81]? = some (100, 12, []) := rfl
theorem shC_82 : shC[82]? = some (100, 12, []) := rfl
theorem shC_83 : shC[83]? = some (100, 12, []) := rfl
theorem shC_84 : shC[84]? = some (100, 12, []) := rfl
theorem shC_85 : shC[85]? = some (103, 144, []) := rfl
theorem shC_86 : shC[86]? = some (100, 900, []) := rfl
theorem shC_87 : shC[87]? = some (100, 64, []) := rfl
theorem shC_88 : shC[88]? = some (10, 0, flView) := rfl
theorem shC_89 : shC[89]? = some (103, 30, []) := rfl
theorem shC_90 : shC[90]? = some (100, 30, []) := rfl
theorem shC_91 : shC[91]? = some (5, 0, flMat) := rfl
theorem shC_92 : shC[92]? = some (104, 13, []) := rfl
theorem shC_93 : shC[93]? = some (100, 13, []) := rfl
theorem shC_94 : shC[94]? = some (100, 13, []) := rfl
theorem shC_95 : shC[95]? = some (100, 13, []) := rfl
theorem shC_96 : shC[96]? = some (100, 13, []) := rfl
theorem shC_97 : shC[97]? = some (100, 13, []) := rfl
theorem shC_98 : shC[98]? = some (100, 13, []) := rfl
theorem shC_99 : shC[99]? = some (100, 13, []) := rfl
theorem shC_100 : shC[100]? = some (100, 13, []) := rfl
theorem shC_101 : shC[101]? = some (100, 13, []) := rfl
theorem shC_102 : shC[102]? = some (100, 13, []) := rfl
theorem shC_103 : shC[103]? = some (100, 13, []) := rfl
theorem shC_104 : shC[104]? = some (100, 13, []) := rfl
theorem shC_105 : shC[105]? = some (100, 13, []) := rfl
theorem shC_106 : shC[106]? = some (100, 13, []) := rfl
theorem shC_107 : shC[107]? = some (100, 13, []) := rfl
theorem shC_108 : shC[108]? = some (100, 13, []) := rfl
theorem shC_109 : shC[109]? = some (100, 13, []) := rfl
theorem shC_110 : shC[110]? = some (100, 13, []) := rfl
theorem shC_111 : shC[111]? = some (103, 13, []) := rfl
theorem shC_112 : shC[112]? = some (7, 0, flPlan) := rfl
theorem shC_113 : shC[113]? = some (1, 0, flBounds) := rfl
theorem shC_114 : shC[114]? = some (104, 24, []) := rfl
theorem shC_115 : shC[115]? = some (100, 24, []) := rfl
theorem shC_116 : shC[116]? = some (100, 24, []) := rfl
theorem shC_117 : shC[117]? = some (100, 24, []) := rfl
theorem shC_118 : shC[118]? = some (100, 24, []) := rfl
theorem shC_119 : shC[119]? = some (100, 24, []) := rfl
theorem shC_120 : shC[120]? = some (100, 24, []) := rfl
theorem shC_121 : shC[121]? = some (100, 24, []) := rfl
theorem shC_122 : shC[122]? = some (100, 24, []) := rfl
theorem shC_123 : shC[123]? = some (100, 24, []) := rfl
theorem shC_124 : shC[124]? = some (100, 24, []) := rfl
theorem shC_125 : shC[125]? = some (100, 24, []) := rfl
theorem shC_126 : shC[126]? = some (100, 24, []) := rfl
theorem shC_127 : shC[127]? = some (100, 24, []) := rfl
theorem shC_128 : shC[128]? = some (100, 24, []) := rfl
theorem shC_129 : shC[129]? = some (100, 24, []) := rfl
theorem shC_130 : shC[130]? = some (100, 24, []) := rfl
theorem shC_131 : shC[131]? = some (100, 24, []) := rfl
theorem shC_132 : shC[132]? = some (100, 24, []) := rfl
theorem shC_133 : shC[133]? = some (100, 24, []) := rfl
theorem shC_134 : shC[134]? = some (100, 24, []) := rfl
theorem shC_135 : shC[135]? = some (100, 24, []) := rfl
theorem shC_136 : shC[136]? = some (100, 24, []) := rfl
theorem shC_137 : shC[137]? = some (100, 24, []) := rfl
theorem shC_138 : shC[138]? = some (100, 24, []) := rfl
theorem shC_139 : shC[139]? = some (100, 4096, []) := rfl
theorem shC_140 : shC[140]? = some (100, 30, []) := rfl
theorem shC_141 : shC[141]? = some (100, 6, []) := rfl
theorem shC_142 : shC[142]? = some (7, 0, flPlan) := rfl
theorem shC_143 : shC[143]? = some (1, 0, flBounds) := rfl
theorem shC_144 : shC[144]? = some (104, 24, []) := rfl
theorem shC_145 : shC[145]? = some (100, 24, []) := rfl
theorem shC_146 : shC[146]? = some (100, 24, []) := rfl
theorem shC_147 : shC[147]? = some (100, 24, []) := rfl
theorem shC_148 : shC[148]? = some (100, 24, []) := rfl
theorem shC_149 : shC[149]? = some (100, 24, []) := rfl
theorem shC_150 : shC[150]? = some (100, 24, []) := rfl
theorem shC_151 : shC[151]? = some (100, 24, []) := rfl
theorem shC_152 : shC[152]? = some (100, 24, []) := rfl
theorem shC_153 : shC[153]? = some (100, 24, []) := rfl
theorem shC_154 : shC[154]? = some (100, 24, []) := rfl
theorem shC_155 : shC[155]? = some (100, 24, []) := rfl
theorem shC_156 : shC[156]? = some (100, 24, []) := rfl
theorem shC_157 : shC[157]? = some (100, 24, []) := rfl
theorem shC_158 : shC[158]? = some (100, 24, []) := rfl
theorem shC_159 : shC[159]? = some (100, 24, []) := rfl
theorem shC_160 : shC[160]? = some (100, 24, []) := rfl
theorem shC_161 : shC[161]? = some (100, 24, []) := rfl
theorem shC_162 : shC[162]? = some (100, 24, []) := rfl
theorem shC_163 : shC[163]? = some (100, 24, []) := rfl
theorem shC_164 : shC[164]? = some (100, 24, []) := rfl
theorem shC_165 : shC[165]? = some (100, 24, []) := rfl
theorem shC_166 : shC[166]? = some (100, 24, []) := rfl
theorem shC_167 : shC[167]? = some (100, 24, []) := rfl
theorem shC_168 : shC[168]? = some (100, 24, []) := rfl
theorem shC_169 : shC[169]? = some (100, 4096, []) := rfl
theorem shC_170 : shC[170]? = some (100, 30, []) := rfl
theorem shC_171 : shC[171]? = some (100, 6, []) := rfl
theorem shC_172 : shC[172]? = some (100, 4096, []) := rfl
theorem shC_173 : shC[173]? = some (3, 0, flDeals) := rfl
theorem shC_174 : shC[174]? = some (103, 30, []) := rfl
theorem shC_175 : shC[175]? = some (100, 30, []) := rfl
theorem shC_176 : shC[176]? = some (100, 12, []) := rfl
theorem shC_177 : shC[177]? = some (100, 12, []) := rfl
theorem shC_178 : shC[178]? = some (100, 6, []) := rfl
theorem shC_179 : shC[179]? = some (100, 6006, []) := rfl
theorem shC_180 : shC[180]? = some (4, 0, flImg) := rfl
theorem shC_181 : shC[181]? = some (2, 0, flBytes) := rfl
theorem shC_182 : shC[182]? = some (102, 59, []) := rfl
theorem shC_183 : shC[183]? = some (103, 30, []) := rfl
theorem shC_184 : shC[184]? = some (100, 30, []) := rfl
theorem shM_0 : shM[0]? = some (12, 0, flM) := rfl
theorem shM_1 : shM[1]? = some (100, 900, []) := rfl
theorem shM_2 : shM[2]? = some (100, 2, []) := rfl
theorem shM_3 : shM[3]? = some (100, 2, []) := rfl
theorem shM_4 : shM[4]? = some (100, 2, []) := rfl
theorem shM_5 : shM[5]? = some (100, 2, []) := rfl
theorem shM_6 : shM[6]? = some (101, 24, []) := rfl
theorem shM_7 : shM[7]? = some (100, 24, []) := rfl
theorem shM_8 : shM[8]? = some (100, 60, []) := rfl
theorem shM_9 : shM[9]? = some (100, 60, []) := rfl
theorem shM_10 : shM[10]? = some (100, 60, []) := rfl
theorem shM_11 : shM[11]? = some (100, 60, []) := rfl
theorem shM_12 : shM[12]? = some (100, 60, []) := rfl
theorem shM_13 : shM[13]? = some (100, 60, []) := rfl
theorem shM_14 : shM[14]? = some (100, 60, []) := rfl
theorem shM_15 : shM[15]? = some (100, 288, []) := rfl
theorem shM_16 : shM[16]? = some (103, 288, []) := rfl
theorem shM_17 : shM[17]? = some (100, 1800, []) := rfl
theorem shM_18 : shM[18]? = some (100, 1800, []) := rfl
theorem shM_19 : shM[19]? = some (100, 20, []) := rfl
theorem shM_20 : shM[20]? = some (100, 20, []) := rfl
theorem shM_21 : shM[21]? = some (103, 20, []) := rfl
theorem shM_22 : shM[22]? = some (100, 20, []) := rfl
theorem shM_23 : shM[23]? = some (100, 20, []) := rfl
theorem shM_24 : shM[24]? = some (100, 500, []) := rfl
theorem shM_25 : shM[25]? = some (100, 201, []) := rfl
theorem shM_26 : shM[26]? = some (100, 201, []) := rfl
theorem shM_27 : shM[27]? = some (100, 201, []) := rfl
theorem shM_28 : shM[28]? = some (101, 950, []) := rfl
theorem shM_29 : shM[29]? = some (103, 30, []) := rfl
theorem shM_30 : shM[30]? = some (100, 30, []) := rfl
theorem shM_31 : shM[31]? = some (100, 144, []) := rfl
theorem shM_32 : shM[32]? = some (100, 4096, []) := rfl
theorem shM_33 : shM[33]? = some (100, 144, []) := rfl
theorem shM_34 : shM[34]? = some (100, 4096, []) := rfl
theorem shM_35 : shM[35]? = some (100, 4096, []) := rfl
theorem shM_36 : shM[36]? = some (100, 6, []) := rfl
theorem shM_37 : shM[37]? = some (100, 12, []) := rfl
theorem shM_38 : shM[38]? = some (101, 576, []) := rfl
theorem shM_39 : shM[39]? = some (100, 12, []) := rfl
theorem shM_40 : shM[40]? = some (100, 12, []) := rfl
theorem shM_41 : shM[41]? = some (101, 4096, []) := rfl
theorem shM_42 : shM[42]? = some (103, 30, []) := rfl
theorem shM_43 : shM[43]? = some (100, 30, []) := rfl
theorem shM_44 : shM[44]? = some (100, 12, []) := rfl
theorem shM_45 : shM[45]? = some (101, 12, []) := rfl
theorem shM_46 : shM[46]? = some (100, 6006, []) := rfl
theorem shM_47 : shM[47]? = some (100, 144, []) := rfl
theorem shM_48 : shM[48]? = some (101, 12, []) := rfl
theorem shM_49 : shM[49]? = some (100, 200, []) := rfl
theorem shM_50 : shM[50]? = some (103, 30, []) := rfl
theorem shM_51 : shM[51]? = some (100, 30, []) := rfl
theorem iaB_sh {sh : aSh} {q : Nat} (h : iaB sh q = true) : sh[q]? = some (100, lenOf sh q, []) := by
  unfold iaB at h
  unfold lenOf
  cases e : sh[q]? with
  | none => rw [e] at h; cases h
  | some x =>
    rw [e] at h
    obtain ⟨a, b, c⟩ := x
    simp only [Bool.and_eq_true, beq_iff_eq, decide_eq_true_eq] at h
    obtain ⟨⟨h1, h2⟩, h3⟩ := h
    subst h1; subst h2
    rfl
theorem iaB_len {sh : aSh} {q : Nat} (h : iaB sh q = true) : lenOf sh q < 2147483648 := by
  unfold iaB at h
  unfold lenOf
  cases e : sh[q]? with
  | none => rw [e] at h; cases h
  | some x =>
    rw [e] at h
    obtain ⟨a, b, c⟩ := x
    simp only [Bool.and_eq_true, beq_iff_eq, decide_eq_true_eq] at h
    exact h.2
theorem shC_len : ∀ q : Nat, lenOf shC q < 2147483648 := by
  intro q
  unfold lenOf
  cases e : shC[q]? with
  | none => decide
  | some x => exact (by decide +kernel : ∀ x ∈ shC, x.2.1 < 2147483648) x (List.mem_of_getElem? e)
theorem shBytes {q : Nat} (h : isBytes q) : shC[q]? = some (2, 0, flBytes) := by rcases h with rfl | rfl <;> rfl
theorem bBytes {q : Nat} (h : isBytes q) : q < 1000 := by rcases h with rfl | rfl <;> decide
theorem shBytes_row {q : Nat} (h : isBytes q) : shC[q + 1]? = some (102, lenOf shC (q + 1), []) := by rcases h with rfl | rfl <;> rfl
theorem shNet {q : Nat} (h : isNet q) : shC[q]? = some (6, 0, flNet) := by rcases h with rfl | rfl <;> rfl
theorem bNet {q : Nat} (h : isNet q) : q < 1000 := by rcases h with rfl | rfl <;> decide
theorem shNet_names {q : Nat} (h : isNet q) : shC[q + 1]? = some (100, 12, []) := by rcases h with rfl | rfl <;> rfl
theorem shNet_alone {q : Nat} (h : isNet q) : shC[q + 2]? = some (100, 12, []) := by rcases h with rfl | rfl <;> rfl
theorem shNet_first {q : Nat} (h : isNet q) : shC[q + 3]? = some (100, 30, []) := by rcases h with rfl | rfl <;> rfl
theorem shNet_second {q : Nat} (h : isNet q) : shC[q + 4]? = some (100, 30, []) := by rcases h with rfl | rfl <;> rfl
theorem shNet_doubt {q : Nat} (h : isNet q) : shC[q + 5]? = some (100, 30, []) := by rcases h with rfl | rfl <;> rfl
theorem shNet_sumFrom {q : Nat} (h : isNet q) : shC[q + 6]? = some (100, 30, []) := by rcases h with rfl | rfl <;> rfl
theorem shNet_testFrom {q : Nat} (h : isNet q) : shC[q + 7]? = some (100, 30, []) := by rcases h with rfl | rfl <;> rfl
theorem shNet_testTo {q : Nat} (h : isNet q) : shC[q + 8]? = some (100, 30, []) := by rcases h with rfl | rfl <;> rfl
theorem shNet_roadOf {q : Nat} (h : isNet q) : shC[q + 9]? = some (104, 12, []) := by rcases h with rfl | rfl <;> rfl
theorem shNet_roadOf_r {q : Nat} (h : isNet q) {i : Int} (hi : 0 ≤ i ∧ i < (12 : Int)) : shC[q + 9 + 1 + i.toNat]? = some (100, 12, []) := by
  have hj : i.toNat < 12 := by omega
  generalize i.toNat = j at hj ⊢
  rcases h with rfl | rfl
  · exact match j, hj with | 0, _ => rfl | 1, _ => rfl | 2, _ => rfl | 3, _ => rfl | 4, _ => rfl | 5, _ => rfl | 6, _ => rfl | 7, _ => rfl | 8, _ => rfl | 9, _ => rfl | 10, _ => rfl | 11, _ => rfl | z + 12, h9 => absurd h9 (by omega)
  · exact match j, hj with | 0, _ => rfl | 1, _ => rfl | 2, _ => rfl | 3, _ => rfl | 4, _ => rfl | 5, _ => rfl | 6, _ => rfl | 7, _ => rfl | 8, _ => rfl | 9, _ => rfl | 10, _ => rfl | 11, _ => rfl | z + 12, h9 => absurd h9 (by omega)
theorem shNet_taste {q : Nat} (h : isNet q) : shC[q + 22]? = some (104, 12, []) := by rcases h with rfl | rfl <;> rfl
theorem shNet_taste_r {q : Nat} (h : isNet q) {i : Int} (hi : 0 ≤ i ∧ i < (12 : Int)) : shC[q + 22 + 1 + i.toNat]? = some (100, 12, []) := by
  have hj : i.toNat < 12 := by omega
  generalize i.toNat = j at hj ⊢
  rcases h with rfl | rfl
  · exact match j, hj with | 0, _ => rfl | 1, _ => rfl | 2, _ => rfl | 3, _ => rfl | 4, _ => rfl | 5, _ => rfl | 6, _ => rfl | 7, _ => rfl | 8, _ => rfl | 9, _ => rfl | 10, _ => rfl | 11, _ => rfl | z + 12, h9 => absurd h9 (by omega)
  · exact match j, hj with | 0, _ => rfl | 1, _ => rfl | 2, _ => rfl | 3, _ => rfl | 4, _ => rfl | 5, _ => rfl | 6, _ => rfl | 7, _ => rfl | 8, _ => rfl | 9, _ => rfl | 10, _ => rfl | 11, _ => rfl | z + 12, h9 => absurd h9 (by omega)
theorem shNet_tasteTold {q : Nat} (h : isNet q) : shC[q + 35]? = some (103, 144, []) := by rcases h with rfl | rfl <;> rfl
theorem shNet_code {q : Nat} (h : isNet q) : shC[q + 36]? = some (100, 900, []) := by rcases h with rfl | rfl <;> rfl
theorem shNet_stack {q : Nat} (h : isNet q) : shC[q + 37]? = some (100, 64, []) := by rcases h with rfl | rfl <;> rfl
theorem shPlan {q : Nat} (h : isPlan q) : shC[q]? = some (7, 0, flPlan) := by rcases h with rfl | rfl <;> rfl
theorem bPlan {q : Nat} (h : isPlan q) : q < 1000 := by rcases h with rfl | rfl <;> decide
theorem shPlan_best {q : Nat} (h : isPlan q) : shC[q + 27]? = some (100, 4096, []) := by rcases h with rfl | rfl <;> rfl
theorem shPlan_gain {q : Nat} (h : isPlan q) : shC[q + 28]? = some (100, 30, []) := by rcases h with rfl | rfl <;> rfl
theorem shPlan_row {q : Nat} (h : isPlan q) : shC[q + 29]? = some (100, 6, []) := by rcases h with rfl | rfl <;> rfl
theorem shBounds {q : Nat} (h : isBounds q) : shC[q]? = some (1, 0, flBounds) := by rcases h with rfl | rfl <;> rfl
theorem bBounds {q : Nat} (h : isBounds q) : q < 1000 := by rcases h with rfl | rfl <;> decide
theorem shBounds_bound {q : Nat} (h : isBounds q) : shC[q + 1]? = some (104, 24, []) := by rcases h with rfl | rfl <;> rfl
theorem shBounds_bound_r {q : Nat} (h : isBounds q) {i : Int} (hi : 0 ≤ i ∧ i < (24 : Int)) : shC[q + 1 + 1 + i.toNat]? = some (100, 24, []) := by
  have hj : i.toNat < 24 := by omega
  generalize i.toNat = j at hj ⊢
  rcases h with rfl | rfl
  · exact match j, hj with | 0, _ => rfl | 1, _ => rfl | 2, _ => rfl | 3, _ => rfl | 4, _ => rfl | 5, _ => rfl | 6, _ => rfl | 7, _ => rfl | 8, _ => rfl | 9, _ => rfl | 10, _ => rfl | 11, _ => rfl | 12, _ => rfl | 13, _ => rfl | 14, _ => rfl | 15, _ => rfl | 16, _ => rfl | 17, _ => rfl | 18, _ => rfl | 19, _ => rfl | 20, _ => rfl | 21, _ => rfl | 22, _ => rfl | 23, _ => rfl | z + 24, h9 => absurd h9 (by omega)
  · exact match j, hj with | 0, _ => rfl | 1, _ => rfl | 2, _ => rfl | 3, _ => rfl | 4, _ => rfl | 5, _ => rfl | 6, _ => rfl | 7, _ => rfl | 8, _ => rfl | 9, _ => rfl | 10, _ => rfl | 11, _ => rfl | 12, _ => rfl | 13, _ => rfl | 14, _ => rfl | 15, _ => rfl | 16, _ => rfl | 17, _ => rfl | 18, _ => rfl | 19, _ => rfl | 20, _ => rfl | 21, _ => rfl | 22, _ => rfl | 23, _ => rfl | z + 24, h9 => absurd h9 (by omega)
theorem isPlan_bounds {q : Nat} (h : isPlan q) : isBounds (q + 1) := by rcases h with rfl | rfl <;> decide
theorem shMat_weight_r {i : Int} (hi : 0 ≤ i ∧ i < (13 : Int)) : shC[92 + 1 + i.toNat]? = some (100, 13, []) := by
  have hj : i.toNat < 13 := by omega
  generalize i.toNat = j at hj ⊢
  exact match j, hj with | 0, _ => rfl | 1, _ => rfl | 2, _ => rfl | 3, _ => rfl | 4, _ => rfl | 5, _ => rfl | 6, _ => rfl | 7, _ => rfl | 8, _ => rfl | 9, _ => rfl | 10, _ => rfl | 11, _ => rfl | 12, _ => rfl | z + 13, h9 => absurd h9 (by omega)
