/-! LAYER 2, all contracts are checked. -/
theorem am_ch0 : ∀ (k : Nat) (c : am_Ct), am_nthO am_cl0 k = some c → am_okC c = true ∧ ∃ w, am_chk am_K0 am_cs0 am_dirs0 am_ids0 am_dsr0 1000000 w c = true
  | 0, c, h => (Option.some.inj (show some am_c0 = some c from h)) ▸ am_q0
  | 1, c, h => (Option.some.inj (show some am_c1 = some c from h)) ▸ am_q1
  | 2, c, h => (Option.some.inj (show some am_c2 = some c from h)) ▸ am_q2
  | 3, c, h => (Option.some.inj (show some am_c3 = some c from h)) ▸ am_q3
  | 4, c, h => (Option.some.inj (show some am_c4 = some c from h)) ▸ am_q4
  | 5, c, h => (Option.some.inj (show some am_c5 = some c from h)) ▸ am_q5
  | 6, c, h => (Option.some.inj (show some am_c6 = some c from h)) ▸ am_q6
  | 7, c, h => (Option.some.inj (show some am_c7 = some c from h)) ▸ am_q7
  | 8, c, h => (Option.some.inj (show some am_c8 = some c from h)) ▸ am_q8
  | 9, c, h => (Option.some.inj (show some am_c9 = some c from h)) ▸ am_q9
  | 10, c, h => (Option.some.inj (show some am_c10 = some c from h)) ▸ am_q10
  | 11, c, h => (Option.some.inj (show some am_c11 = some c from h)) ▸ am_q11
  | 12, c, h => (Option.some.inj (show some am_c12 = some c from h)) ▸ am_q12
  | 13, c, h => (Option.some.inj (show some am_c13 = some c from h)) ▸ am_q13
  | 14, c, h => (Option.some.inj (show some am_c14 = some c from h)) ▸ am_q14
  | 15, c, h => (Option.some.inj (show some am_c15 = some c from h)) ▸ am_q15
  | 16, c, h => (Option.some.inj (show some am_c16 = some c from h)) ▸ am_q16
  | 17, c, h => (Option.some.inj (show some am_c17 = some c from h)) ▸ am_q17
  | 18, c, h => (Option.some.inj (show some am_c18 = some c from h)) ▸ am_q18
  | 19, c, h => (Option.some.inj (show some am_c19 = some c from h)) ▸ am_q19
  | 20, c, h => (Option.some.inj (show some am_c20 = some c from h)) ▸ am_q20
  | 21, c, h => (Option.some.inj (show some am_c21 = some c from h)) ▸ am_q21
  | 22, c, h => (Option.some.inj (show some am_c22 = some c from h)) ▸ am_q22
  | 23, c, h => (Option.some.inj (show some am_c23 = some c from h)) ▸ am_q23
  | 24, c, h => (Option.some.inj (show some am_c24 = some c from h)) ▸ am_q24
  | 25, c, h => (Option.some.inj (show some am_c25 = some c from h)) ▸ am_q25
  | 26, c, h => (Option.some.inj (show some am_c26 = some c from h)) ▸ am_q26
  | 27, c, h => (Option.some.inj (show some am_c27 = some c from h)) ▸ am_q27
  | 28, c, h => (Option.some.inj (show some am_c28 = some c from h)) ▸ am_q28
  | 29, c, h => (Option.some.inj (show some am_c29 = some c from h)) ▸ am_q29
  | 30, c, h => (Option.some.inj (show some am_c30 = some c from h)) ▸ am_q30
  | 31, c, h => (Option.some.inj (show some am_c31 = some c from h)) ▸ am_q31
  | k + 32, c, h => by
    rw [am_nthO_eq, List.getElem?_eq_none (show 32 ≤ k + 32 by omega)] at h
    simp at h
theorem am_ch1 : ∀ (k : Nat) (c : am_Ct), am_nthO am_cl1 k = some c → am_okC c = true ∧ ∃ w, am_chk am_K0 am_cs0 am_dirs0 am_ids0 am_dsr0 1000000 w c = true
  | 0, c, h => (Option.some.inj (show some am_c32 = some c from h)) ▸ am_q32
  | 1, c, h => (Option.some.inj (show some am_c33 = some c from h)) ▸ am_q33
  | 2, c, h => (Option.some.inj (show some am_c34 = some c from h)) ▸ am_q34
  | 3, c, h => (Option.some.inj (show some am_c35 = some c from h)) ▸ am_q35
  | 4, c, h => (Option.some.inj (show some am_c36 = some c from h)) ▸ am_q36
  | 5, c, h => (Option.some.inj (show some am_c37 = some c from h)) ▸ am_q37
  | 6, c, h => (Option.some.inj (show some am_c38 = some c from h)) ▸ am_q38
  | 7, c, h => (Option.some.inj (show some am_c39 = some c from h)) ▸ am_q39
  | 8, c, h => (Option.some.inj (show some am_c40 = some c from h)) ▸ am_q40
  | 9, c, h => (Option.some.inj (show some am_c41 = some c from h)) ▸ am_q41
  | 10, c, h => (Option.some.inj (show some am_c42 = some c from h)) ▸ am_q42
  | 11, c, h => (Option.some.inj (show some am_c43 = some c from h)) ▸ am_q43
  | 12, c, h => (Option.some.inj (show some am_c44 = some c from h)) ▸ am_q44
  | 13, c, h => (Option.some.inj (show some am_c45 = some c from h)) ▸ am_q45
  | 14, c, h => (Option.some.inj (show some am_c46 = some c from h)) ▸ am_q46
  | 15, c, h => (Option.some.inj (show some am_c47 = some c from h)) ▸ am_q47
  | 16, c, h => (Option.some.inj (show some am_c48 = some c from h)) ▸ am_q48
  | 17, c, h => (Option.some.inj (show some am_c49 = some c from h)) ▸ am_q49
  | 18, c, h => (Option.some.inj (show some am_c50 = some c from h)) ▸ am_q50
  | 19, c, h => (Option.some.inj (show some am_c51 = some c from h)) ▸ am_q51
  | 20, c, h => (Option.some.inj (show some am_c52 = some c from h)) ▸ am_q52
  | 21, c, h => (Option.some.inj (show some am_c53 = some c from h)) ▸ am_q53
  | 22, c, h => (Option.some.inj (show some am_c54 = some c from h)) ▸ am_q54
  | 23, c, h => (Option.some.inj (show some am_c55 = some c from h)) ▸ am_q55
  | 24, c, h => (Option.some.inj (show some am_c56 = some c from h)) ▸ am_q56
  | 25, c, h => (Option.some.inj (show some am_c57 = some c from h)) ▸ am_q57
  | 26, c, h => (Option.some.inj (show some am_c58 = some c from h)) ▸ am_q58
  | 27, c, h => (Option.some.inj (show some am_c59 = some c from h)) ▸ am_q59
  | 28, c, h => (Option.some.inj (show some am_c60 = some c from h)) ▸ am_q60
  | 29, c, h => (Option.some.inj (show some am_c61 = some c from h)) ▸ am_q61
  | 30, c, h => (Option.some.inj (show some am_c62 = some c from h)) ▸ am_q62
  | 31, c, h => (Option.some.inj (show some am_c63 = some c from h)) ▸ am_q63
  | k + 32, c, h => by
    rw [am_nthO_eq, List.getElem?_eq_none (show 32 ≤ k + 32 by omega)] at h
    simp at h
theorem am_ch2 : ∀ (k : Nat) (c : am_Ct), am_nthO am_cl2 k = some c → am_okC c = true ∧ ∃ w, am_chk am_K0 am_cs0 am_dirs0 am_ids0 am_dsr0 1000000 w c = true
  | 0, c, h => (Option.some.inj (show some am_c64 = some c from h)) ▸ am_q64
  | 1, c, h => (Option.some.inj (show some am_c65 = some c from h)) ▸ am_q65
  | 2, c, h => (Option.some.inj (show some am_c66 = some c from h)) ▸ am_q66
  | 3, c, h => (Option.some.inj (show some am_c67 = some c from h)) ▸ am_q67
  | 4, c, h => (Option.some.inj (show some am_c68 = some c from h)) ▸ am_q68
  | 5, c, h => (Option.some.inj (show some am_c69 = some c from h)) ▸ am_q69
  | 6, c, h => (Option.some.inj (show some am_c70 = some c from h)) ▸ am_q70
  | 7, c, h => (Option.some.inj (show some am_c71 = some c from h)) ▸ am_q71
  | 8, c, h => (Option.some.inj (show some am_c72 = some c from h)) ▸ am_q72
  | 9, c, h => (Option.some.inj (show some am_c73 = some c from h)) ▸ am_q73
  | 10, c, h => (Option.some.inj (show some am_c74 = some c from h)) ▸ am_q74
  | 11, c, h => (Option.some.inj (show some am_c75 = some c from h)) ▸ am_q75
  | 12, c, h => (Option.some.inj (show some am_c76 = some c from h)) ▸ am_q76
  | 13, c, h => (Option.some.inj (show some am_c77 = some c from h)) ▸ am_q77
  | 14, c, h => (Option.some.inj (show some am_c78 = some c from h)) ▸ am_q78
  | 15, c, h => (Option.some.inj (show some am_c79 = some c from h)) ▸ am_q79
  | 16, c, h => (Option.some.inj (show some am_c80 = some c from h)) ▸ am_q80
  | 17, c, h => (Option.some.inj (show some am_c81 = some c from h)) ▸ am_q81
  | 18, c, h => (Option.some.inj (show some am_c82 = some c from h)) ▸ am_q82
  | 19, c, h => (Option.some.inj (show some am_c83 = some c from h)) ▸ am_q83
  | 20, c, h => (Option.some.inj (show some am_c84 = some c from h)) ▸ am_q84
  | 21, c, h => (Option.some.inj (show some am_c85 = some c from h)) ▸ am_q85
  | 22, c, h => (Option.some.inj (show some am_c86 = some c from h)) ▸ am_q86
  | 23, c, h => (Option.some.inj (show some am_c87 = some c from h)) ▸ am_q87
  | 24, c, h => (Option.some.inj (show some am_c88 = some c from h)) ▸ am_q88
  | 25, c, h => (Option.some.inj (show some am_c89 = some c from h)) ▸ am_q89
  | 26, c, h => (Option.some.inj (show some am_c90 = some c from h)) ▸ am_q90
  | 27, c, h => (Option.some.inj (show some am_c91 = some c from h)) ▸ am_q91
  | 28, c, h => (Option.some.inj (show some am_c92 = some c from h)) ▸ am_q92
  | 29, c, h => (Option.some.inj (show some am_c93 = some c from h)) ▸ am_q93
  | 30, c, h => (Option.some.inj (show some am_c94 = some c from h)) ▸ am_q94
  | 31, c, h => (Option.some.inj (show some am_c95 = some c from h)) ▸ am_q95
  | k + 32, c, h => by
    rw [am_nthO_eq, List.getElem?_eq_none (show 32 ≤ k + 32 by omega)] at h
    simp at h
theorem am_ch3 : ∀ (k : Nat) (c : am_Ct), am_nthO am_cl3 k = some c → am_okC c = true ∧ ∃ w, am_chk am_K0 am_cs0 am_dirs0 am_ids0 am_dsr0 1000000 w c = true
  | 0, c, h => (Option.some.inj (show some am_c96 = some c from h)) ▸ am_q96
  | 1, c, h => (Option.some.inj (show some am_c97 = some c from h)) ▸ am_q97
  | 2, c, h => (Option.some.inj (show some am_c98 = some c from h)) ▸ am_q98
  | 3, c, h => (Option.some.inj (show some am_c99 = some c from h)) ▸ am_q99
  | 4, c, h => (Option.some.inj (show some am_c100 = some c from h)) ▸ am_q100
  | 5, c, h => (Option.some.inj (show some am_c101 = some c from h)) ▸ am_q101
  | 6, c, h => (Option.some.inj (show some am_c102 = some c from h)) ▸ am_q102
  | 7, c, h => (Option.some.inj (show some am_c103 = some c from h)) ▸ am_q103
  | 8, c, h => (Option.some.inj (show some am_c104 = some c from h)) ▸ am_q104
  | 9, c, h => (Option.some.inj (show some am_c105 = some c from h)) ▸ am_q105
  | 10, c, h => (Option.some.inj (show some am_c106 = some c from h)) ▸ am_q106
  | 11, c, h => (Option.some.inj (show some am_c107 = some c from h)) ▸ am_q107
  | 12, c, h => (Option.some.inj (show some am_c108 = some c from h)) ▸ am_q108
  | 13, c, h => (Option.some.inj (show some am_c109 = some c from h)) ▸ am_q109
  | 14, c, h => (Option.some.inj (show some am_c110 = some c from h)) ▸ am_q110
  | 15, c, h => (Option.some.inj (show some am_c111 = some c from h)) ▸ am_q111
  | 16, c, h => (Option.some.inj (show some am_c112 = some c from h)) ▸ am_q112
  | 17, c, h => (Option.some.inj (show some am_c113 = some c from h)) ▸ am_q113
  | 18, c, h => (Option.some.inj (show some am_c114 = some c from h)) ▸ am_q114
  | 19, c, h => (Option.some.inj (show some am_c115 = some c from h)) ▸ am_q115
  | 20, c, h => (Option.some.inj (show some am_c116 = some c from h)) ▸ am_q116
  | 21, c, h => (Option.some.inj (show some am_c117 = some c from h)) ▸ am_q117
  | 22, c, h => (Option.some.inj (show some am_c118 = some c from h)) ▸ am_q118
  | 23, c, h => (Option.some.inj (show some am_c119 = some c from h)) ▸ am_q119
  | 24, c, h => (Option.some.inj (show some am_c120 = some c from h)) ▸ am_q120
  | 25, c, h => (Option.some.inj (show some am_c121 = some c from h)) ▸ am_q121
  | 26, c, h => (Option.some.inj (show some am_c122 = some c from h)) ▸ am_q122
  | 27, c, h => (Option.some.inj (show some am_c123 = some c from h)) ▸ am_q123
  | 28, c, h => (Option.some.inj (show some am_c124 = some c from h)) ▸ am_q124
  | 29, c, h => (Option.some.inj (show some am_c125 = some c from h)) ▸ am_q125
  | 30, c, h => (Option.some.inj (show some am_c126 = some c from h)) ▸ am_q126
  | 31, c, h => (Option.some.inj (show some am_c127 = some c from h)) ▸ am_q127
  | k + 32, c, h => by
    rw [am_nthO_eq, List.getElem?_eq_none (show 32 ≤ k + 32 by omega)] at h
    simp at h
theorem am_ch4 : ∀ (k : Nat) (c : am_Ct), am_nthO am_cl4 k = some c → am_okC c = true ∧ ∃ w, am_chk am_K0 am_cs0 am_dirs0 am_ids0 am_dsr0 1000000 w c = true
  | 0, c, h => (Option.some.inj (show some am_c128 = some c from h)) ▸ am_q128
  | 1, c, h => (Option.some.inj (show some am_c129 = some c from h)) ▸ am_q129
  | 2, c, h => (Option.some.inj (show some am_c130 = some c from h)) ▸ am_q130
  | 3, c, h => (Option.some.inj (show some am_c131 = some c from h)) ▸ am_q131
  | 4, c, h => (Option.some.inj (show some am_c132 = some c from h)) ▸ am_q132
  | 5, c, h => (Option.some.inj (show some am_c133 = some c from h)) ▸ am_q133
  | 6, c, h => (Option.some.inj (show some am_c134 = some c from h)) ▸ am_q134
  | 7, c, h => (Option.some.inj (show some am_c135 = some c from h)) ▸ am_q135
  | 8, c, h => (Option.some.inj (show some am_c136 = some c from h)) ▸ am_q136
  | 9, c, h => (Option.some.inj (show some am_c137 = some c from h)) ▸ am_q137
  | 10, c, h => (Option.some.inj (show some am_c138 = some c from h)) ▸ am_q138
  | 11, c, h => (Option.some.inj (show some am_c139 = some c from h)) ▸ am_q139
  | 12, c, h => (Option.some.inj (show some am_c140 = some c from h)) ▸ am_q140
  | 13, c, h => (Option.some.inj (show some am_c141 = some c from h)) ▸ am_q141
  | 14, c, h => (Option.some.inj (show some am_c142 = some c from h)) ▸ am_q142
  | 15, c, h => (Option.some.inj (show some am_c143 = some c from h)) ▸ am_q143
  | 16, c, h => (Option.some.inj (show some am_c144 = some c from h)) ▸ am_q144
  | 17, c, h => (Option.some.inj (show some am_c145 = some c from h)) ▸ am_q145
  | 18, c, h => (Option.some.inj (show some am_c146 = some c from h)) ▸ am_q146
  | 19, c, h => (Option.some.inj (show some am_c147 = some c from h)) ▸ am_q147
  | 20, c, h => (Option.some.inj (show some am_c148 = some c from h)) ▸ am_q148
  | 21, c, h => (Option.some.inj (show some am_c149 = some c from h)) ▸ am_q149
  | 22, c, h => (Option.some.inj (show some am_c150 = some c from h)) ▸ am_q150
  | 23, c, h => (Option.some.inj (show some am_c151 = some c from h)) ▸ am_q151
  | 24, c, h => (Option.some.inj (show some am_c152 = some c from h)) ▸ am_q152
  | 25, c, h => (Option.some.inj (show some am_c153 = some c from h)) ▸ am_q153
  | 26, c, h => (Option.some.inj (show some am_c154 = some c from h)) ▸ am_q154
  | 27, c, h => (Option.some.inj (show some am_c155 = some c from h)) ▸ am_q155
  | 28, c, h => (Option.some.inj (show some am_c156 = some c from h)) ▸ am_q156
  | 29, c, h => (Option.some.inj (show some am_c157 = some c from h)) ▸ am_q157
  | 30, c, h => (Option.some.inj (show some am_c158 = some c from h)) ▸ am_q158
  | 31, c, h => (Option.some.inj (show some am_c159 = some c from h)) ▸ am_q159
  | k + 32, c, h => by
    rw [am_nthO_eq, List.getElem?_eq_none (show 32 ≤ k + 32 by omega)] at h
    simp at h
theorem am_ch5 : ∀ (k : Nat) (c : am_Ct), am_nthO am_cl5 k = some c → am_okC c = true ∧ ∃ w, am_chk am_K0 am_cs0 am_dirs0 am_ids0 am_dsr0 1000000 w c = true
  | 0, c, h => (Option.some.inj (show some am_c160 = some c from h)) ▸ am_q160
  | 1, c, h => (Option.some.inj (show some am_c161 = some c from h)) ▸ am_q161
  | 2, c, h => (Option.some.inj (show some am_c162 = some c from h)) ▸ am_q162
  | 3, c, h => (Option.some.inj (show some am_c163 = some c from h)) ▸ am_q163
  | 4, c, h => (Option.some.inj (show some am_c164 = some c from h)) ▸ am_q164
  | 5, c, h => (Option.some.inj (show some am_c165 = some c from h)) ▸ am_q165
  | 6, c, h => (Option.some.inj (show some am_c166 = some c from h)) ▸ am_q166
  | 7, c, h => (Option.some.inj (show some am_c167 = some c from h)) ▸ am_q167
  | 8, c, h => (Option.some.inj (show some am_c168 = some c from h)) ▸ am_q168
  | 9, c, h => (Option.some.inj (show some am_c169 = some c from h)) ▸ am_q169
  | 10, c, h => (Option.some.inj (show some am_c170 = some c from h)) ▸ am_q170
  | 11, c, h => (Option.some.inj (show some am_c171 = some c from h)) ▸ am_q171
  | 12, c, h => (Option.some.inj (show some am_c172 = some c from h)) ▸ am_q172
  | 13, c, h => (Option.some.inj (show some am_c173 = some c from h)) ▸ am_q173
  | 14, c, h => (Option.some.inj (show some am_c174 = some c from h)) ▸ am_q174
  | 15, c, h => (Option.some.inj (show some am_c175 = some c from h)) ▸ am_q175
  | 16, c, h => (Option.some.inj (show some am_c176 = some c from h)) ▸ am_q176
  | 17, c, h => (Option.some.inj (show some am_c177 = some c from h)) ▸ am_q177
  | 18, c, h => (Option.some.inj (show some am_c178 = some c from h)) ▸ am_q178
  | 19, c, h => (Option.some.inj (show some am_c179 = some c from h)) ▸ am_q179
  | 20, c, h => (Option.some.inj (show some am_c180 = some c from h)) ▸ am_q180
  | 21, c, h => (Option.some.inj (show some am_c181 = some c from h)) ▸ am_q181
  | 22, c, h => (Option.some.inj (show some am_c182 = some c from h)) ▸ am_q182
  | 23, c, h => (Option.some.inj (show some am_c183 = some c from h)) ▸ am_q183
  | 24, c, h => (Option.some.inj (show some am_c184 = some c from h)) ▸ am_q184
  | 25, c, h => (Option.some.inj (show some am_c185 = some c from h)) ▸ am_q185
  | 26, c, h => (Option.some.inj (show some am_c186 = some c from h)) ▸ am_q186
  | 27, c, h => (Option.some.inj (show some am_c187 = some c from h)) ▸ am_q187
  | 28, c, h => (Option.some.inj (show some am_c188 = some c from h)) ▸ am_q188
  | 29, c, h => (Option.some.inj (show some am_c189 = some c from h)) ▸ am_q189
  | 30, c, h => (Option.some.inj (show some am_c190 = some c from h)) ▸ am_q190
  | 31, c, h => (Option.some.inj (show some am_c191 = some c from h)) ▸ am_q191
  | k + 32, c, h => by
    rw [am_nthO_eq, List.getElem?_eq_none (show 32 ≤ k + 32 by omega)] at h
    simp at h
theorem am_ch6 : ∀ (k : Nat) (c : am_Ct), am_nthO am_cl6 k = some c → am_okC c = true ∧ ∃ w, am_chk am_K0 am_cs0 am_dirs0 am_ids0 am_dsr0 1000000 w c = true
  | 0, c, h => (Option.some.inj (show some am_c192 = some c from h)) ▸ am_q192
  | 1, c, h => (Option.some.inj (show some am_c193 = some c from h)) ▸ am_q193
  | 2, c, h => (Option.some.inj (show some am_c194 = some c from h)) ▸ am_q194
  | 3, c, h => (Option.some.inj (show some am_c195 = some c from h)) ▸ am_q195
  | 4, c, h => (Option.some.inj (show some am_c196 = some c from h)) ▸ am_q196
  | 5, c, h => (Option.some.inj (show some am_c197 = some c from h)) ▸ am_q197
  | 6, c, h => (Option.some.inj (show some am_c198 = some c from h)) ▸ am_q198
  | 7, c, h => (Option.some.inj (show some am_c199 = some c from h)) ▸ am_q199
  | 8, c, h => (Option.some.inj (show some am_c200 = some c from h)) ▸ am_q200
  | 9, c, h => (Option.some.inj (show some am_c201 = some c from h)) ▸ am_q201
  | 10, c, h => (Option.some.inj (show some am_c202 = some c from h)) ▸ am_q202
  | 11, c, h => (Option.some.inj (show some am_c203 = some c from h)) ▸ am_q203
  | 12, c, h => (Option.some.inj (show some am_c204 = some c from h)) ▸ am_q204
  | 13, c, h => (Option.some.inj (show some am_c205 = some c from h)) ▸ am_q205
  | 14, c, h => (Option.some.inj (show some am_c206 = some c from h)) ▸ am_q206
  | 15, c, h => (Option.some.inj (show some am_c207 = some c from h)) ▸ am_q207
  | 16, c, h => (Option.some.inj (show some am_c208 = some c from h)) ▸ am_q208
  | 17, c, h => (Option.some.inj (show some am_c209 = some c from h)) ▸ am_q209
  | 18, c, h => (Option.some.inj (show some am_c210 = some c from h)) ▸ am_q210
  | 19, c, h => (Option.some.inj (show some am_c211 = some c from h)) ▸ am_q211
  | 20, c, h => (Option.some.inj (show some am_c212 = some c from h)) ▸ am_q212
  | 21, c, h => (Option.some.inj (show some am_c213 = some c from h)) ▸ am_q213
  | 22, c, h => (Option.some.inj (show some am_c214 = some c from h)) ▸ am_q214
  | 23, c, h => (Option.some.inj (show some am_c215 = some c from h)) ▸ am_q215
  | 24, c, h => (Option.some.inj (show some am_c216 = some c from h)) ▸ am_q216
  | 25, c, h => (Option.some.inj (show some am_c217 = some c from h)) ▸ am_q217
  | 26, c, h => (Option.some.inj (show some am_c218 = some c from h)) ▸ am_q218
  | 27, c, h => (Option.some.inj (show some am_c219 = some c from h)) ▸ am_q219
  | 28, c, h => (Option.some.inj (show some am_c220 = some c from h)) ▸ am_q220
  | 29, c, h => (Option.some.inj (show some am_c221 = some c from h)) ▸ am_q221
  | 30, c, h => (Option.some.inj (show some am_c222 = some c from h)) ▸ am_q222
  | 31, c, h => (Option.some.inj (show some am_c223 = some c from h)) ▸ am_q223
  | k + 32, c, h => by
    rw [am_nthO_eq, List.getElem?_eq_none (show 32 ≤ k + 32 by omega)] at h
    simp at h
theorem am_ch7 : ∀ (k : Nat) (c : am_Ct), am_nthO am_cl7 k = some c → am_okC c = true ∧ ∃ w, am_chk am_K0 am_cs0 am_dirs0 am_ids0 am_dsr0 1000000 w c = true
  | 0, c, h => (Option.some.inj (show some am_c224 = some c from h)) ▸ am_q224
  | 1, c, h => (Option.some.inj (show some am_c225 = some c from h)) ▸ am_q225
  | 2, c, h => (Option.some.inj (show some am_c226 = some c from h)) ▸ am_q226
  | 3, c, h => (Option.some.inj (show some am_c227 = some c from h)) ▸ am_q227
  | 4, c, h => (Option.some.inj (show some am_c228 = some c from h)) ▸ am_q228
  | 5, c, h => (Option.some.inj (show some am_c229 = some c from h)) ▸ am_q229
  | 6, c, h => (Option.some.inj (show some am_c230 = some c from h)) ▸ am_q230
  | 7, c, h => (Option.some.inj (show some am_c231 = some c from h)) ▸ am_q231
  | 8, c, h => (Option.some.inj (show some am_c232 = some c from h)) ▸ am_q232
  | 9, c, h => (Option.some.inj (show some am_c233 = some c from h)) ▸ am_q233
  | 10, c, h => (Option.some.inj (show some am_c234 = some c from h)) ▸ am_q234
  | 11, c, h => (Option.some.inj (show some am_c235 = some c from h)) ▸ am_q235
  | 12, c, h => (Option.some.inj (show some am_c236 = some c from h)) ▸ am_q236
  | 13, c, h => (Option.some.inj (show some am_c237 = some c from h)) ▸ am_q237
  | 14, c, h => (Option.some.inj (show some am_c238 = some c from h)) ▸ am_q238
  | 15, c, h => (Option.some.inj (show some am_c239 = some c from h)) ▸ am_q239
  | 16, c, h => (Option.some.inj (show some am_c240 = some c from h)) ▸ am_q240
  | 17, c, h => (Option.some.inj (show some am_c241 = some c from h)) ▸ am_q241
  | 18, c, h => (Option.some.inj (show some am_c242 = some c from h)) ▸ am_q242
  | 19, c, h => (Option.some.inj (show some am_c243 = some c from h)) ▸ am_q243
  | 20, c, h => (Option.some.inj (show some am_c244 = some c from h)) ▸ am_q244
  | 21, c, h => (Option.some.inj (show some am_c245 = some c from h)) ▸ am_q245
  | 22, c, h => (Option.some.inj (show some am_c246 = some c from h)) ▸ am_q246
  | 23, c, h => (Option.some.inj (show some am_c247 = some c from h)) ▸ am_q247
  | 24, c, h => (Option.some.inj (show some am_c248 = some c from h)) ▸ am_q248
  | 25, c, h => (Option.some.inj (show some am_c249 = some c from h)) ▸ am_q249
  | 26, c, h => (Option.some.inj (show some am_c250 = some c from h)) ▸ am_q250
  | 27, c, h => (Option.some.inj (show some am_c251 = some c from h)) ▸ am_q251
  | 28, c, h => (Option.some.inj (show some am_c252 = some c from h)) ▸ am_q252
  | 29, c, h => (Option.some.inj (show some am_c253 = some c from h)) ▸ am_q253
  | 30, c, h => (Option.some.inj (show some am_c254 = some c from h)) ▸ am_q254
  | 31, c, h => (Option.some.inj (show some am_c255 = some c from h)) ▸ am_q255
  | k + 32, c, h => by
    rw [am_nthO_eq, List.getElem?_eq_none (show 32 ≤ k + 32 by omega)] at h
    simp at h
theorem am_ch8 : ∀ (k : Nat) (c : am_Ct), am_nthO am_cl8 k = some c → am_okC c = true ∧ ∃ w, am_chk am_K0 am_cs0 am_dirs0 am_ids0 am_dsr0 1000000 w c = true
  | 0, c, h => (Option.some.inj (show some am_c256 = some c from h)) ▸ am_q256
  | 1, c, h => (Option.some.inj (show some am_c257 = some c from h)) ▸ am_q257
  | 2, c, h => (Option.some.inj (show some am_c258 = some c from h)) ▸ am_q258
  | 3, c, h => (Option.some.inj (show some am_c259 = some c from h)) ▸ am_q259
  | 4, c, h => (Option.some.inj (show some am_c260 = some c from h)) ▸ am_q260
  | 5, c, h => (Option.some.inj (show some am_c261 = some c from h)) ▸ am_q261
  | 6, c, h => (Option.some.inj (show some am_c262 = some c from h)) ▸ am_q262
  | 7, c, h => (Option.some.inj (show some am_c263 = some c from h)) ▸ am_q263
  | 8, c, h => (Option.some.inj (show some am_c264 = some c from h)) ▸ am_q264
  | 9, c, h => (Option.some.inj (show some am_c265 = some c from h)) ▸ am_q265
  | 10, c, h => (Option.some.inj (show some am_c266 = some c from h)) ▸ am_q266
  | 11, c, h => (Option.some.inj (show some am_c267 = some c from h)) ▸ am_q267
  | 12, c, h => (Option.some.inj (show some am_c268 = some c from h)) ▸ am_q268
  | 13, c, h => (Option.some.inj (show some am_c269 = some c from h)) ▸ am_q269
  | 14, c, h => (Option.some.inj (show some am_c270 = some c from h)) ▸ am_q270
  | 15, c, h => (Option.some.inj (show some am_c271 = some c from h)) ▸ am_q271
  | 16, c, h => (Option.some.inj (show some am_c272 = some c from h)) ▸ am_q272
  | 17, c, h => (Option.some.inj (show some am_c273 = some c from h)) ▸ am_q273
  | 18, c, h => (Option.some.inj (show some am_c274 = some c from h)) ▸ am_q274
  | 19, c, h => (Option.some.inj (show some am_c275 = some c from h)) ▸ am_q275
  | 20, c, h => (Option.some.inj (show some am_c276 = some c from h)) ▸ am_q276
  | 21, c, h => (Option.some.inj (show some am_c277 = some c from h)) ▸ am_q277
  | 22, c, h => (Option.some.inj (show some am_c278 = some c from h)) ▸ am_q278
  | 23, c, h => (Option.some.inj (show some am_c279 = some c from h)) ▸ am_q279
  | 24, c, h => (Option.some.inj (show some am_c280 = some c from h)) ▸ am_q280
  | 25, c, h => (Option.some.inj (show some am_c281 = some c from h)) ▸ am_q281
  | 26, c, h => (Option.some.inj (show some am_c282 = some c from h)) ▸ am_q282
  | 27, c, h => (Option.some.inj (show some am_c283 = some c from h)) ▸ am_q283
  | 28, c, h => (Option.some.inj (show some am_c284 = some c from h)) ▸ am_q284
  | 29, c, h => (Option.some.inj (show some am_c285 = some c from h)) ▸ am_q285
  | 30, c, h => (Option.some.inj (show some am_c286 = some c from h)) ▸ am_q286
  | 31, c, h => (Option.some.inj (show some am_c287 = some c from h)) ▸ am_q287
  | k + 32, c, h => by
    rw [am_nthO_eq, List.getElem?_eq_none (show 32 ≤ k + 32 by omega)] at h
    simp at h
theorem am_ch9 : ∀ (k : Nat) (c : am_Ct), am_nthO am_cl9 k = some c → am_okC c = true ∧ ∃ w, am_chk am_K0 am_cs0 am_dirs0 am_ids0 am_dsr0 1000000 w c = true
  | 0, c, h => (Option.some.inj (show some am_c288 = some c from h)) ▸ am_q288
  | 1, c, h => (Option.some.inj (show some am_c289 = some c from h)) ▸ am_q289
  | 2, c, h => (Option.some.inj (show some am_c290 = some c from h)) ▸ am_q290
  | 3, c, h => (Option.some.inj (show some am_c291 = some c from h)) ▸ am_q291
  | 4, c, h => (Option.some.inj (show some am_c292 = some c from h)) ▸ am_q292
  | 5, c, h => (Option.some.inj (show some am_c293 = some c from h)) ▸ am_q293
  | 6, c, h => (Option.some.inj (show some am_c294 = some c from h)) ▸ am_q294
  | 7, c, h => (Option.some.inj (show some am_c295 = some c from h)) ▸ am_q295
  | 8, c, h => (Option.some.inj (show some am_c296 = some c from h)) ▸ am_q296
  | 9, c, h => (Option.some.inj (show some am_c297 = some c from h)) ▸ am_q297
  | 10, c, h => (Option.some.inj (show some am_c298 = some c from h)) ▸ am_q298
  | 11, c, h => (Option.some.inj (show some am_c299 = some c from h)) ▸ am_q299
  | 12, c, h => (Option.some.inj (show some am_c300 = some c from h)) ▸ am_q300
  | 13, c, h => (Option.some.inj (show some am_c301 = some c from h)) ▸ am_q301
  | 14, c, h => (Option.some.inj (show some am_c302 = some c from h)) ▸ am_q302
  | 15, c, h => (Option.some.inj (show some am_c303 = some c from h)) ▸ am_q303
  | 16, c, h => (Option.some.inj (show some am_c304 = some c from h)) ▸ am_q304
  | 17, c, h => (Option.some.inj (show some am_c305 = some c from h)) ▸ am_q305
  | 18, c, h => (Option.some.inj (show some am_c306 = some c from h)) ▸ am_q306
  | 19, c, h => (Option.some.inj (show some am_c307 = some c from h)) ▸ am_q307
  | 20, c, h => (Option.some.inj (show some am_c308 = some c from h)) ▸ am_q308
  | 21, c, h => (Option.some.inj (show some am_c309 = some c from h)) ▸ am_q309
  | 22, c, h => (Option.some.inj (show some am_c310 = some c from h)) ▸ am_q310
  | 23, c, h => (Option.some.inj (show some am_c311 = some c from h)) ▸ am_q311
  | 24, c, h => (Option.some.inj (show some am_c312 = some c from h)) ▸ am_q312
  | 25, c, h => (Option.some.inj (show some am_c313 = some c from h)) ▸ am_q313
  | 26, c, h => (Option.some.inj (show some am_c314 = some c from h)) ▸ am_q314
  | 27, c, h => (Option.some.inj (show some am_c315 = some c from h)) ▸ am_q315
  | 28, c, h => (Option.some.inj (show some am_c316 = some c from h)) ▸ am_q316
  | 29, c, h => (Option.some.inj (show some am_c317 = some c from h)) ▸ am_q317
  | 30, c, h => (Option.some.inj (show some am_c318 = some c from h)) ▸ am_q318
  | 31, c, h => (Option.some.inj (show some am_c319 = some c from h)) ▸ am_q319
  | k + 32, c, h => by
    rw [am_nthO_eq, List.getElem?_eq_none (show 32 ≤ k + 32 by omega)] at h
    simp at h
theorem am_ch10 : ∀ (k : Nat) (c : am_Ct), am_nthO am_cl10 k = some c → am_okC c = true ∧ ∃ w, am_chk am_K0 am_cs0 am_dirs0 am_ids0 am_dsr0 1000000 w c = true
  | 0, c, h => (Option.some.inj (show some am_c320 = some c from h)) ▸ am_q320
  | 1, c, h => (Option.some.inj (show some am_c321 = some c from h)) ▸ am_q321
  | 2, c, h => (Option.some.inj (show some am_c322 = some c from h)) ▸ am_q322
  | 3, c, h => (Option.some.inj (show some am_c323 = some c from h)) ▸ am_q323
  | 4, c, h => (Option.some.inj (show some am_c324 = some c from h)) ▸ am_q324
  | 5, c, h => (Option.some.inj (show some am_c325 = some c from h)) ▸ am_q325
  | 6, c, h => (Option.some.inj (show some am_c326 = some c from h)) ▸ am_q326
  | 7, c, h => (Option.some.inj (show some am_c327 = some c from h)) ▸ am_q327
  | 8, c, h => (Option.some.inj (show some am_c328 = some c from h)) ▸ am_q328
  | 9, c, h => (Option.some.inj (show some am_c329 = some c from h)) ▸ am_q329
  | 10, c, h => (Option.some.inj (show some am_c330 = some c from h)) ▸ am_q330
  | 11, c, h => (Option.some.inj (show some am_c331 = some c from h)) ▸ am_q331
  | 12, c, h => (Option.some.inj (show some am_c332 = some c from h)) ▸ am_q332
  | 13, c, h => (Option.some.inj (show some am_c333 = some c from h)) ▸ am_q333
  | 14, c, h => (Option.some.inj (show some am_c334 = some c from h)) ▸ am_q334
  | 15, c, h => (Option.some.inj (show some am_c335 = some c from h)) ▸ am_q335
  | 16, c, h => (Option.some.inj (show some am_c336 = some c from h)) ▸ am_q336
  | 17, c, h => (Option.some.inj (show some am_c337 = some c from h)) ▸ am_q337
  | 18, c, h => (Option.some.inj (show some am_c338 = some c from h)) ▸ am_q338
  | 19, c, h => (Option.some.inj (show some am_c339 = some c from h)) ▸ am_q339
  | 20, c, h => (Option.some.inj (show some am_c340 = some c from h)) ▸ am_q340
  | 21, c, h => (Option.some.inj (show some am_c341 = some c from h)) ▸ am_q341
  | 22, c, h => (Option.some.inj (show some am_c342 = some c from h)) ▸ am_q342
  | 23, c, h => (Option.some.inj (show some am_c343 = some c from h)) ▸ am_q343
  | 24, c, h => (Option.some.inj (show some am_c344 = some c from h)) ▸ am_q344
  | 25, c, h => (Option.some.inj (show some am_c345 = some c from h)) ▸ am_q345
  | 26, c, h => (Option.some.inj (show some am_c346 = some c from h)) ▸ am_q346
  | 27, c, h => (Option.some.inj (show some am_c347 = some c from h)) ▸ am_q347
  | 28, c, h => (Option.some.inj (show some am_c348 = some c from h)) ▸ am_q348
  | 29, c, h => (Option.some.inj (show some am_c349 = some c from h)) ▸ am_q349
  | 30, c, h => (Option.some.inj (show some am_c350 = some c from h)) ▸ am_q350
  | 31, c, h => (Option.some.inj (show some am_c351 = some c from h)) ▸ am_q351
  | k + 32, c, h => by
    rw [am_nthO_eq, List.getElem?_eq_none (show 32 ≤ k + 32 by omega)] at h
    simp at h
theorem am_ch11 : ∀ (k : Nat) (c : am_Ct), am_nthO am_cl11 k = some c → am_okC c = true ∧ ∃ w, am_chk am_K0 am_cs0 am_dirs0 am_ids0 am_dsr0 1000000 w c = true
  | 0, c, h => (Option.some.inj (show some am_c352 = some c from h)) ▸ am_q352
  | 1, c, h => (Option.some.inj (show some am_c353 = some c from h)) ▸ am_q353
  | 2, c, h => (Option.some.inj (show some am_c354 = some c from h)) ▸ am_q354
  | 3, c, h => (Option.some.inj (show some am_c355 = some c from h)) ▸ am_q355
  | 4, c, h => (Option.some.inj (show some am_c356 = some c from h)) ▸ am_q356
  | 5, c, h => (Option.some.inj (show some am_c357 = some c from h)) ▸ am_q357
  | 6, c, h => (Option.some.inj (show some am_c358 = some c from h)) ▸ am_q358
  | 7, c, h => (Option.some.inj (show some am_c359 = some c from h)) ▸ am_q359
  | 8, c, h => (Option.some.inj (show some am_c360 = some c from h)) ▸ am_q360
  | 9, c, h => (Option.some.inj (show some am_c361 = some c from h)) ▸ am_q361
  | 10, c, h => (Option.some.inj (show some am_c362 = some c from h)) ▸ am_q362
  | 11, c, h => (Option.some.inj (show some am_c363 = some c from h)) ▸ am_q363
  | 12, c, h => (Option.some.inj (show some am_c364 = some c from h)) ▸ am_q364
  | 13, c, h => (Option.some.inj (show some am_c365 = some c from h)) ▸ am_q365
  | 14, c, h => (Option.some.inj (show some am_c366 = some c from h)) ▸ am_q366
  | 15, c, h => (Option.some.inj (show some am_c367 = some c from h)) ▸ am_q367
  | 16, c, h => (Option.some.inj (show some am_c368 = some c from h)) ▸ am_q368
  | 17, c, h => (Option.some.inj (show some am_c369 = some c from h)) ▸ am_q369
  | 18, c, h => (Option.some.inj (show some am_c370 = some c from h)) ▸ am_q370
  | 19, c, h => (Option.some.inj (show some am_c371 = some c from h)) ▸ am_q371
  | 20, c, h => (Option.some.inj (show some am_c372 = some c from h)) ▸ am_q372
  | 21, c, h => (Option.some.inj (show some am_c373 = some c from h)) ▸ am_q373
  | 22, c, h => (Option.some.inj (show some am_c374 = some c from h)) ▸ am_q374
  | 23, c, h => (Option.some.inj (show some am_c375 = some c from h)) ▸ am_q375
  | 24, c, h => (Option.some.inj (show some am_c376 = some c from h)) ▸ am_q376
  | 25, c, h => (Option.some.inj (show some am_c377 = some c from h)) ▸ am_q377
  | 26, c, h => (Option.some.inj (show some am_c378 = some c from h)) ▸ am_q378
  | 27, c, h => (Option.some.inj (show some am_c379 = some c from h)) ▸ am_q379
  | 28, c, h => (Option.some.inj (show some am_c380 = some c from h)) ▸ am_q380
  | 29, c, h => (Option.some.inj (show some am_c381 = some c from h)) ▸ am_q381
  | 30, c, h => (Option.some.inj (show some am_c382 = some c from h)) ▸ am_q382
  | 31, c, h => (Option.some.inj (show some am_c383 = some c from h)) ▸ am_q383
  | k + 32, c, h => by
    rw [am_nthO_eq, List.getElem?_eq_none (show 32 ≤ k + 32 by omega)] at h
    simp at h
theorem am_ch12 : ∀ (k : Nat) (c : am_Ct), am_nthO am_cl12 k = some c → am_okC c = true ∧ ∃ w, am_chk am_K0 am_cs0 am_dirs0 am_ids0 am_dsr0 1000000 w c = true
  | 0, c, h => (Option.some.inj (show some am_c384 = some c from h)) ▸ am_q384
  | 1, c, h => (Option.some.inj (show some am_c385 = some c from h)) ▸ am_q385
  | 2, c, h => (Option.some.inj (show some am_c386 = some c from h)) ▸ am_q386
  | 3, c, h => (Option.some.inj (show some am_c387 = some c from h)) ▸ am_q387
  | 4, c, h => (Option.some.inj (show some am_c388 = some c from h)) ▸ am_q388
  | 5, c, h => (Option.some.inj (show some am_c389 = some c from h)) ▸ am_q389
  | 6, c, h => (Option.some.inj (show some am_c390 = some c from h)) ▸ am_q390
  | 7, c, h => (Option.some.inj (show some am_c391 = some c from h)) ▸ am_q391
  | 8, c, h => (Option.some.inj (show some am_c392 = some c from h)) ▸ am_q392
  | 9, c, h => (Option.some.inj (show some am_c393 = some c from h)) ▸ am_q393
  | 10, c, h => (Option.some.inj (show some am_c394 = some c from h)) ▸ am_q394
  | 11, c, h => (Option.some.inj (show some am_c395 = some c from h)) ▸ am_q395
  | 12, c, h => (Option.some.inj (show some am_c396 = some c from h)) ▸ am_q396
  | 13, c, h => (Option.some.inj (show some am_c397 = some c from h)) ▸ am_q397
  | 14, c, h => (Option.some.inj (show some am_c398 = some c from h)) ▸ am_q398
  | 15, c, h => (Option.some.inj (show some am_c399 = some c from h)) ▸ am_q399
  | 16, c, h => (Option.some.inj (show some am_c400 = some c from h)) ▸ am_q400
  | 17, c, h => (Option.some.inj (show some am_c401 = some c from h)) ▸ am_q401
  | 18, c, h => (Option.some.inj (show some am_c402 = some c from h)) ▸ am_q402
  | 19, c, h => (Option.some.inj (show some am_c403 = some c from h)) ▸ am_q403
  | 20, c, h => (Option.some.inj (show some am_c404 = some c from h)) ▸ am_q404
  | 21, c, h => (Option.some.inj (show some am_c405 = some c from h)) ▸ am_q405
  | 22, c, h => (Option.some.inj (show some am_c406 = some c from h)) ▸ am_q406
  | 23, c, h => (Option.some.inj (show some am_c407 = some c from h)) ▸ am_q407
  | 24, c, h => (Option.some.inj (show some am_c408 = some c from h)) ▸ am_q408
  | 25, c, h => (Option.some.inj (show some am_c409 = some c from h)) ▸ am_q409
  | 26, c, h => (Option.some.inj (show some am_c410 = some c from h)) ▸ am_q410
  | 27, c, h => (Option.some.inj (show some am_c411 = some c from h)) ▸ am_q411
  | 28, c, h => (Option.some.inj (show some am_c412 = some c from h)) ▸ am_q412
  | 29, c, h => (Option.some.inj (show some am_c413 = some c from h)) ▸ am_q413
  | 30, c, h => (Option.some.inj (show some am_c414 = some c from h)) ▸ am_q414
  | 31, c, h => (Option.some.inj (show some am_c415 = some c from h)) ▸ am_q415
  | k + 32, c, h => by
    rw [am_nthO_eq, List.getElem?_eq_none (show 32 ≤ k + 32 by omega)] at h
    simp at h
theorem am_ch13 : ∀ (k : Nat) (c : am_Ct), am_nthO am_cl13 k = some c → am_okC c = true ∧ ∃ w, am_chk am_K0 am_cs0 am_dirs0 am_ids0 am_dsr0 1000000 w c = true
  | 0, c, h => (Option.some.inj (show some am_c416 = some c from h)) ▸ am_q416
  | 1, c, h => (Option.some.inj (show some am_c417 = some c from h)) ▸ am_q417
  | 2, c, h => (Option.some.inj (show some am_c418 = some c from h)) ▸ am_q418
  | 3, c, h => (Option.some.inj (show some am_c419 = some c from h)) ▸ am_q419
  | 4, c, h => (Option.some.inj (show some am_c420 = some c from h)) ▸ am_q420
  | 5, c, h => (Option.some.inj (show some am_c421 = some c from h)) ▸ am_q421
  | 6, c, h => (Option.some.inj (show some am_c422 = some c from h)) ▸ am_q422
  | 7, c, h => (Option.some.inj (show some am_c423 = some c from h)) ▸ am_q423
  | 8, c, h => (Option.some.inj (show some am_c424 = some c from h)) ▸ am_q424
  | 9, c, h => (Option.some.inj (show some am_c425 = some c from h)) ▸ am_q425
  | 10, c, h => (Option.some.inj (show some am_c426 = some c from h)) ▸ am_q426
  | 11, c, h => (Option.some.inj (show some am_c427 = some c from h)) ▸ am_q427
  | 12, c, h => (Option.some.inj (show some am_c428 = some c from h)) ▸ am_q428
  | 13, c, h => (Option.some.inj (show some am_c429 = some c from h)) ▸ am_q429
  | 14, c, h => (Option.some.inj (show some am_c430 = some c from h)) ▸ am_q430
  | 15, c, h => (Option.some.inj (show some am_c431 = some c from h)) ▸ am_q431
  | 16, c, h => (Option.some.inj (show some am_c432 = some c from h)) ▸ am_q432
  | 17, c, h => (Option.some.inj (show some am_c433 = some c from h)) ▸ am_q433
  | 18, c, h => (Option.some.inj (show some am_c434 = some c from h)) ▸ am_q434
  | 19, c, h => (Option.some.inj (show some am_c435 = some c from h)) ▸ am_q435
  | 20, c, h => (Option.some.inj (show some am_c436 = some c from h)) ▸ am_q436
  | 21, c, h => (Option.some.inj (show some am_c437 = some c from h)) ▸ am_q437
  | 22, c, h => (Option.some.inj (show some am_c438 = some c from h)) ▸ am_q438
  | 23, c, h => (Option.some.inj (show some am_c439 = some c from h)) ▸ am_q439
  | 24, c, h => (Option.some.inj (show some am_c440 = some c from h)) ▸ am_q440
  | 25, c, h => (Option.some.inj (show some am_c441 = some c from h)) ▸ am_q441
  | 26, c, h => (Option.some.inj (show some am_c442 = some c from h)) ▸ am_q442
  | 27, c, h => (Option.some.inj (show some am_c443 = some c from h)) ▸ am_q443
  | 28, c, h => (Option.some.inj (show some am_c444 = some c from h)) ▸ am_q444
  | 29, c, h => (Option.some.inj (show some am_c445 = some c from h)) ▸ am_q445
  | 30, c, h => (Option.some.inj (show some am_c446 = some c from h)) ▸ am_q446
  | 31, c, h => (Option.some.inj (show some am_c447 = some c from h)) ▸ am_q447
  | k + 32, c, h => by
    rw [am_nthO_eq, List.getElem?_eq_none (show 32 ≤ k + 32 by omega)] at h
    simp at h
theorem am_ch14 : ∀ (k : Nat) (c : am_Ct), am_nthO am_cl14 k = some c → am_okC c = true ∧ ∃ w, am_chk am_K0 am_cs0 am_dirs0 am_ids0 am_dsr0 1000000 w c = true
  | 0, c, h => (Option.some.inj (show some am_c448 = some c from h)) ▸ am_q448
  | 1, c, h => (Option.some.inj (show some am_c449 = some c from h)) ▸ am_q449
  | 2, c, h => (Option.some.inj (show some am_c450 = some c from h)) ▸ am_q450
  | 3, c, h => (Option.some.inj (show some am_c451 = some c from h)) ▸ am_q451
  | 4, c, h => (Option.some.inj (show some am_c452 = some c from h)) ▸ am_q452
  | 5, c, h => (Option.some.inj (show some am_c453 = some c from h)) ▸ am_q453
  | 6, c, h => (Option.some.inj (show some am_c454 = some c from h)) ▸ am_q454
  | 7, c, h => (Option.some.inj (show some am_c455 = some c from h)) ▸ am_q455
  | 8, c, h => (Option.some.inj (show some am_c456 = some c from h)) ▸ am_q456
  | 9, c, h => (Option.some.inj (show some am_c457 = some c from h)) ▸ am_q457
  | 10, c, h => (Option.some.inj (show some am_c458 = some c from h)) ▸ am_q458
  | 11, c, h => (Option.some.inj (show some am_c459 = some c from h)) ▸ am_q459
  | 12, c, h => (Option.some.inj (show some am_c460 = some c from h)) ▸ am_q460
  | 13, c, h => (Option.some.inj (show some am_c461 = some c from h)) ▸ am_q461
  | 14, c, h => (Option.some.inj (show some am_c462 = some c from h)) ▸ am_q462
  | 15, c, h => (Option.some.inj (show some am_c463 = some c from h)) ▸ am_q463
  | 16, c, h => (Option.some.inj (show some am_c464 = some c from h)) ▸ am_q464
  | 17, c, h => (Option.some.inj (show some am_c465 = some c from h)) ▸ am_q465
  | 18, c, h => (Option.some.inj (show some am_c466 = some c from h)) ▸ am_q466
  | 19, c, h => (Option.some.inj (show some am_c467 = some c from h)) ▸ am_q467
  | 20, c, h => (Option.some.inj (show some am_c468 = some c from h)) ▸ am_q468
  | 21, c, h => (Option.some.inj (show some am_c469 = some c from h)) ▸ am_q469
  | 22, c, h => (Option.some.inj (show some am_c470 = some c from h)) ▸ am_q470
  | 23, c, h => (Option.some.inj (show some am_c471 = some c from h)) ▸ am_q471
  | 24, c, h => (Option.some.inj (show some am_c472 = some c from h)) ▸ am_q472
  | 25, c, h => (Option.some.inj (show some am_c473 = some c from h)) ▸ am_q473
  | 26, c, h => (Option.some.inj (show some am_c474 = some c from h)) ▸ am_q474
  | 27, c, h => (Option.some.inj (show some am_c475 = some c from h)) ▸ am_q475
  | 28, c, h => (Option.some.inj (show some am_c476 = some c from h)) ▸ am_q476
  | 29, c, h => (Option.some.inj (show some am_c477 = some c from h)) ▸ am_q477
  | 30, c, h => (Option.some.inj (show some am_c478 = some c from h)) ▸ am_q478
  | 31, c, h => (Option.some.inj (show some am_c479 = some c from h)) ▸ am_q479
  | k + 32, c, h => by
    rw [am_nthO_eq, List.getElem?_eq_none (show 32 ≤ k + 32 by omega)] at h
    simp at h
theorem am_ch15 : ∀ (k : Nat) (c : am_Ct), am_nthO am_cl15 k = some c → am_okC c = true ∧ ∃ w, am_chk am_K0 am_cs0 am_dirs0 am_ids0 am_dsr0 1000000 w c = true
  | 0, c, h => (Option.some.inj (show some am_c480 = some c from h)) ▸ am_q480
  | 1, c, h => (Option.some.inj (show some am_c481 = some c from h)) ▸ am_q481
  | 2, c, h => (Option.some.inj (show some am_c482 = some c from h)) ▸ am_q482
  | 3, c, h => (Option.some.inj (show some am_c483 = some c from h)) ▸ am_q483
  | 4, c, h => (Option.some.inj (show some am_c484 = some c from h)) ▸ am_q484
  | 5, c, h => (Option.some.inj (show some am_c485 = some c from h)) ▸ am_q485
  | 6, c, h => (Option.some.inj (show some am_c486 = some c from h)) ▸ am_q486
  | 7, c, h => (Option.some.inj (show some am_c487 = some c from h)) ▸ am_q487
  | 8, c, h => (Option.some.inj (show some am_c488 = some c from h)) ▸ am_q488
  | 9, c, h => (Option.some.inj (show some am_c489 = some c from h)) ▸ am_q489
  | 10, c, h => (Option.some.inj (show some am_c490 = some c from h)) ▸ am_q490
  | 11, c, h => (Option.some.inj (show some am_c491 = some c from h)) ▸ am_q491
  | 12, c, h => (Option.some.inj (show some am_c492 = some c from h)) ▸ am_q492
  | 13, c, h => (Option.some.inj (show some am_c493 = some c from h)) ▸ am_q493
  | 14, c, h => (Option.some.inj (show some am_c494 = some c from h)) ▸ am_q494
  | 15, c, h => (Option.some.inj (show some am_c495 = some c from h)) ▸ am_q495
  | 16, c, h => (Option.some.inj (show some am_c496 = some c from h)) ▸ am_q496
  | 17, c, h => (Option.some.inj (show some am_c497 = some c from h)) ▸ am_q497
  | 18, c, h => (Option.some.inj (show some am_c498 = some c from h)) ▸ am_q498
  | 19, c, h => (Option.some.inj (show some am_c499 = some c from h)) ▸ am_q499
  | 20, c, h => (Option.some.inj (show some am_c500 = some c from h)) ▸ am_q500
  | 21, c, h => (Option.some.inj (show some am_c501 = some c from h)) ▸ am_q501
  | 22, c, h => (Option.some.inj (show some am_c502 = some c from h)) ▸ am_q502
  | 23, c, h => (Option.some.inj (show some am_c503 = some c from h)) ▸ am_q503
  | 24, c, h => (Option.some.inj (show some am_c504 = some c from h)) ▸ am_q504
  | 25, c, h => (Option.some.inj (show some am_c505 = some c from h)) ▸ am_q505
  | 26, c, h => (Option.some.inj (show some am_c506 = some c from h)) ▸ am_q506
  | 27, c, h => (Option.some.inj (show some am_c507 = some c from h)) ▸ am_q507
  | 28, c, h => (Option.some.inj (show some am_c508 = some c from h)) ▸ am_q508
  | 29, c, h => (Option.some.inj (show some am_c509 = some c from h)) ▸ am_q509
  | 30, c, h => (Option.some.inj (show some am_c510 = some c from h)) ▸ am_q510
  | 31, c, h => (Option.some.inj (show some am_c511 = some c from h)) ▸ am_q511
  | k + 32, c, h => by
    rw [am_nthO_eq, List.getElem?_eq_none (show 32 ≤ k + 32 by omega)] at h
    simp at h
theorem am_ch16 : ∀ (k : Nat) (c : am_Ct), am_nthO am_cl16 k = some c → am_okC c = true ∧ ∃ w, am_chk am_K0 am_cs0 am_dirs0 am_ids0 am_dsr0 1000000 w c = true
  | 0, c, h => (Option.some.inj (show some am_c512 = some c from h)) ▸ am_q512
  | 1, c, h => (Option.some.inj (show some am_c513 = some c from h)) ▸ am_q513
  | 2, c, h => (Option.some.inj (show some am_c514 = some c from h)) ▸ am_q514
  | 3, c, h => (Option.some.inj (show some am_c515 = some c from h)) ▸ am_q515
  | 4, c, h => (Option.some.inj (show some am_c516 = some c from h)) ▸ am_q516
  | 5, c, h => (Option.some.inj (show some am_c517 = some c from h)) ▸ am_q517
  | 6, c, h => (Option.some.inj (show some am_c518 = some c from h)) ▸ am_q518
  | 7, c, h => (Option.some.inj (show some am_c519 = some c from h)) ▸ am_q519
  | 8, c, h => (Option.some.inj (show some am_c520 = some c from h)) ▸ am_q520
  | 9, c, h => (Option.some.inj (show some am_c521 = some c from h)) ▸ am_q521
  | 10, c, h => (Option.some.inj (show some am_c522 = some c from h)) ▸ am_q522
  | 11, c, h => (Option.some.inj (show some am_c523 = some c from h)) ▸ am_q523
  | 12, c, h => (Option.some.inj (show some am_c524 = some c from h)) ▸ am_q524
  | 13, c, h => (Option.some.inj (show some am_c525 = some c from h)) ▸ am_q525
  | 14, c, h => (Option.some.inj (show some am_c526 = some c from h)) ▸ am_q526
  | 15, c, h => (Option.some.inj (show some am_c527 = some c from h)) ▸ am_q527
  | 16, c, h => (Option.some.inj (show some am_c528 = some c from h)) ▸ am_q528
  | 17, c, h => (Option.some.inj (show some am_c529 = some c from h)) ▸ am_q529
  | 18, c, h => (Option.some.inj (show some am_c530 = some c from h)) ▸ am_q530
  | 19, c, h => (Option.some.inj (show some am_c531 = some c from h)) ▸ am_q531
  | 20, c, h => (Option.some.inj (show some am_c532 = some c from h)) ▸ am_q532
  | 21, c, h => (Option.some.inj (show some am_c533 = some c from h)) ▸ am_q533
  | 22, c, h => (Option.some.inj (show some am_c534 = some c from h)) ▸ am_q534
  | 23, c, h => (Option.some.inj (show some am_c535 = some c from h)) ▸ am_q535
  | 24, c, h => (Option.some.inj (show some am_c536 = some c from h)) ▸ am_q536
  | 25, c, h => (Option.some.inj (show some am_c537 = some c from h)) ▸ am_q537
  | 26, c, h => (Option.some.inj (show some am_c538 = some c from h)) ▸ am_q538
  | 27, c, h => (Option.some.inj (show some am_c539 = some c from h)) ▸ am_q539
  | 28, c, h => (Option.some.inj (show some am_c540 = some c from h)) ▸ am_q540
  | 29, c, h => (Option.some.inj (show some am_c541 = some c from h)) ▸ am_q541
  | 30, c, h => (Option.some.inj (show some am_c542 = some c from h)) ▸ am_q542
  | 31, c, h => (Option.some.inj (show some am_c543 = some c from h)) ▸ am_q543
  | k + 32, c, h => by
    rw [am_nthO_eq, List.getElem?_eq_none (show 32 ≤ k + 32 by omega)] at h
    simp at h
theorem am_ch17 : ∀ (k : Nat) (c : am_Ct), am_nthO am_cl17 k = some c → am_okC c = true ∧ ∃ w, am_chk am_K0 am_cs0 am_dirs0 am_ids0 am_dsr0 1000000 w c = true
  | 0, c, h => (Option.some.inj (show some am_c544 = some c from h)) ▸ am_q544
  | 1, c, h => (Option.some.inj (show some am_c545 = some c from h)) ▸ am_q545
  | 2, c, h => (Option.some.inj (show some am_c546 = some c from h)) ▸ am_q546
  | 3, c, h => (Option.some.inj (show some am_c547 = some c from h)) ▸ am_q547
  | 4, c, h => (Option.some.inj (show some am_c548 = some c from h)) ▸ am_q548
  | 5, c, h => (Option.some.inj (show some am_c549 = some c from h)) ▸ am_q549
  | 6, c, h => (Option.some.inj (show some am_c550 = some c from h)) ▸ am_q550
  | 7, c, h => (Option.some.inj (show some am_c551 = some c from h)) ▸ am_q551
  | 8, c, h => (Option.some.inj (show some am_c552 = some c from h)) ▸ am_q552
  | 9, c, h => (Option.some.inj (show some am_c553 = some c from h)) ▸ am_q553
  | 10, c, h => (Option.some.inj (show some am_c554 = some c from h)) ▸ am_q554
  | 11, c, h => (Option.some.inj (show some am_c555 = some c from h)) ▸ am_q555
  | 12, c, h => (Option.some.inj (show some am_c556 = some c from h)) ▸ am_q556
  | 13, c, h => (Option.some.inj (show some am_c557 = some c from h)) ▸ am_q557
  | 14, c, h => (Option.some.inj (show some am_c558 = some c from h)) ▸ am_q558
  | 15, c, h => (Option.some.inj (show some am_c559 = some c from h)) ▸ am_q559
  | 16, c, h => (Option.some.inj (show some am_c560 = some c from h)) ▸ am_q560
  | 17, c, h => (Option.some.inj (show some am_c561 = some c from h)) ▸ am_q561
  | 18, c, h => (Option.some.inj (show some am_c562 = some c from h)) ▸ am_q562
  | 19, c, h => (Option.some.inj (show some am_c563 = some c from h)) ▸ am_q563
  | 20, c, h => (Option.some.inj (show some am_c564 = some c from h)) ▸ am_q564
  | 21, c, h => (Option.some.inj (show some am_c565 = some c from h)) ▸ am_q565
  | 22, c, h => (Option.some.inj (show some am_c566 = some c from h)) ▸ am_q566
  | 23, c, h => (Option.some.inj (show some am_c567 = some c from h)) ▸ am_q567
  | 24, c, h => (Option.some.inj (show some am_c568 = some c from h)) ▸ am_q568
  | 25, c, h => (Option.some.inj (show some am_c569 = some c from h)) ▸ am_q569
  | 26, c, h => (Option.some.inj (show some am_c570 = some c from h)) ▸ am_q570
  | 27, c, h => (Option.some.inj (show some am_c571 = some c from h)) ▸ am_q571
  | 28, c, h => (Option.some.inj (show some am_c572 = some c from h)) ▸ am_q572
  | 29, c, h => (Option.some.inj (show some am_c573 = some c from h)) ▸ am_q573
  | 30, c, h => (Option.some.inj (show some am_c574 = some c from h)) ▸ am_q574
  | 31, c, h => (Option.some.inj (show some am_c575 = some c from h)) ▸ am_q575
  | k + 32, c, h => by
    rw [am_nthO_eq, List.getElem?_eq_none (show 32 ≤ k + 32 by omega)] at h
    simp at h
theorem am_ch18 : ∀ (k : Nat) (c : am_Ct), am_nthO am_cl18 k = some c → am_okC c = true ∧ ∃ w, am_chk am_K0 am_cs0 am_dirs0 am_ids0 am_dsr0 1000000 w c = true
  | 0, c, h => (Option.some.inj (show some am_c576 = some c from h)) ▸ am_q576
  | 1, c, h => (Option.some.inj (show some am_c577 = some c from h)) ▸ am_q577
  | 2, c, h => (Option.some.inj (show some am_c578 = some c from h)) ▸ am_q578
  | 3, c, h => (Option.some.inj (show some am_c579 = some c from h)) ▸ am_q579
  | 4, c, h => (Option.some.inj (show some am_c580 = some c from h)) ▸ am_q580
  | 5, c, h => (Option.some.inj (show some am_c581 = some c from h)) ▸ am_q581
  | 6, c, h => (Option.some.inj (show some am_c582 = some c from h)) ▸ am_q582
  | 7, c, h => (Option.some.inj (show some am_c583 = some c from h)) ▸ am_q583
  | 8, c, h => (Option.some.inj (show some am_c584 = some c from h)) ▸ am_q584
  | 9, c, h => (Option.some.inj (show some am_c585 = some c from h)) ▸ am_q585
  | 10, c, h => (Option.some.inj (show some am_c586 = some c from h)) ▸ am_q586
  | 11, c, h => (Option.some.inj (show some am_c587 = some c from h)) ▸ am_q587
  | 12, c, h => (Option.some.inj (show some am_c588 = some c from h)) ▸ am_q588
  | 13, c, h => (Option.some.inj (show some am_c589 = some c from h)) ▸ am_q589
  | 14, c, h => (Option.some.inj (show some am_c590 = some c from h)) ▸ am_q590
  | 15, c, h => (Option.some.inj (show some am_c591 = some c from h)) ▸ am_q591
  | 16, c, h => (Option.some.inj (show some am_c592 = some c from h)) ▸ am_q592
  | 17, c, h => (Option.some.inj (show some am_c593 = some c from h)) ▸ am_q593
  | 18, c, h => (Option.some.inj (show some am_c594 = some c from h)) ▸ am_q594
  | 19, c, h => (Option.some.inj (show some am_c595 = some c from h)) ▸ am_q595
  | 20, c, h => (Option.some.inj (show some am_c596 = some c from h)) ▸ am_q596
  | 21, c, h => (Option.some.inj (show some am_c597 = some c from h)) ▸ am_q597
  | 22, c, h => (Option.some.inj (show some am_c598 = some c from h)) ▸ am_q598
  | 23, c, h => (Option.some.inj (show some am_c599 = some c from h)) ▸ am_q599
  | 24, c, h => (Option.some.inj (show some am_c600 = some c from h)) ▸ am_q600
  | 25, c, h => (Option.some.inj (show some am_c601 = some c from h)) ▸ am_q601
  | 26, c, h => (Option.some.inj (show some am_c602 = some c from h)) ▸ am_q602
  | 27, c, h => (Option.some.inj (show some am_c603 = some c from h)) ▸ am_q603
  | 28, c, h => (Option.some.inj (show some am_c604 = some c from h)) ▸ am_q604
  | 29, c, h => (Option.some.inj (show some am_c605 = some c from h)) ▸ am_q605
  | 30, c, h => (Option.some.inj (show some am_c606 = some c from h)) ▸ am_q606
  | 31, c, h => (Option.some.inj (show some am_c607 = some c from h)) ▸ am_q607
  | k + 32, c, h => by
    rw [am_nthO_eq, List.getElem?_eq_none (show 32 ≤ k + 32 by omega)] at h
    simp at h
theorem am_ch19 : ∀ (k : Nat) (c : am_Ct), am_nthO am_cl19 k = some c → am_okC c = true ∧ ∃ w, am_chk am_K0 am_cs0 am_dirs0 am_ids0 am_dsr0 1000000 w c = true
  | 0, c, h => (Option.some.inj (show some am_c608 = some c from h)) ▸ am_q608
  | 1, c, h => (Option.some.inj (show some am_c609 = some c from h)) ▸ am_q609
  | 2, c, h => (Option.some.inj (show some am_c610 = some c from h)) ▸ am_q610
  | 3, c, h => (Option.some.inj (show some am_c611 = some c from h)) ▸ am_q611
  | 4, c, h => (Option.some.inj (show some am_c612 = some c from h)) ▸ am_q612
  | 5, c, h => (Option.some.inj (show some am_c613 = some c from h)) ▸ am_q613
  | 6, c, h => (Option.some.inj (show some am_c614 = some c from h)) ▸ am_q614
  | 7, c, h => (Option.some.inj (show some am_c615 = some c from h)) ▸ am_q615
  | 8, c, h => (Option.some.inj (show some am_c616 = some c from h)) ▸ am_q616
  | 9, c, h => (Option.some.inj (show some am_c617 = some c from h)) ▸ am_q617
  | 10, c, h => (Option.some.inj (show some am_c618 = some c from h)) ▸ am_q618
  | 11, c, h => (Option.some.inj (show some am_c619 = some c from h)) ▸ am_q619
  | 12, c, h => (Option.some.inj (show some am_c620 = some c from h)) ▸ am_q620
  | 13, c, h => (Option.some.inj (show some am_c621 = some c from h)) ▸ am_q621
  | 14, c, h => (Option.some.inj (show some am_c622 = some c from h)) ▸ am_q622
  | 15, c, h => (Option.some.inj (show some am_c623 = some c from h)) ▸ am_q623
  | 16, c, h => (Option.some.inj (show some am_c624 = some c from h)) ▸ am_q624
  | 17, c, h => (Option.some.inj (show some am_c625 = some c from h)) ▸ am_q625
  | 18, c, h => (Option.some.inj (show some am_c626 = some c from h)) ▸ am_q626
  | 19, c, h => (Option.some.inj (show some am_c627 = some c from h)) ▸ am_q627
  | 20, c, h => (Option.some.inj (show some am_c628 = some c from h)) ▸ am_q628
  | 21, c, h => (Option.some.inj (show some am_c629 = some c from h)) ▸ am_q629
  | 22, c, h => (Option.some.inj (show some am_c630 = some c from h)) ▸ am_q630
  | 23, c, h => (Option.some.inj (show some am_c631 = some c from h)) ▸ am_q631
  | 24, c, h => (Option.some.inj (show some am_c632 = some c from h)) ▸ am_q632
  | 25, c, h => (Option.some.inj (show some am_c633 = some c from h)) ▸ am_q633
  | 26, c, h => (Option.some.inj (show some am_c634 = some c from h)) ▸ am_q634
  | 27, c, h => (Option.some.inj (show some am_c635 = some c from h)) ▸ am_q635
  | 28, c, h => (Option.some.inj (show some am_c636 = some c from h)) ▸ am_q636
  | 29, c, h => (Option.some.inj (show some am_c637 = some c from h)) ▸ am_q637
  | 30, c, h => (Option.some.inj (show some am_c638 = some c from h)) ▸ am_q638
  | 31, c, h => (Option.some.inj (show some am_c639 = some c from h)) ▸ am_q639
  | k + 32, c, h => by
    rw [am_nthO_eq, List.getElem?_eq_none (show 32 ≤ k + 32 by omega)] at h
    simp at h
theorem am_ch20 : ∀ (k : Nat) (c : am_Ct), am_nthO am_cl20 k = some c → am_okC c = true ∧ ∃ w, am_chk am_K0 am_cs0 am_dirs0 am_ids0 am_dsr0 1000000 w c = true
  | 0, c, h => (Option.some.inj (show some am_c640 = some c from h)) ▸ am_q640
  | 1, c, h => (Option.some.inj (show some am_c641 = some c from h)) ▸ am_q641
  | 2, c, h => (Option.some.inj (show some am_c642 = some c from h)) ▸ am_q642
  | 3, c, h => (Option.some.inj (show some am_c643 = some c from h)) ▸ am_q643
  | 4, c, h => (Option.some.inj (show some am_c644 = some c from h)) ▸ am_q644
  | 5, c, h => (Option.some.inj (show some am_c645 = some c from h)) ▸ am_q645
  | 6, c, h => (Option.some.inj (show some am_c646 = some c from h)) ▸ am_q646
  | 7, c, h => (Option.some.inj (show some am_c647 = some c from h)) ▸ am_q647
  | 8, c, h => (Option.some.inj (show some am_c648 = some c from h)) ▸ am_q648
  | 9, c, h => (Option.some.inj (show some am_c649 = some c from h)) ▸ am_q649
  | 10, c, h => (Option.some.inj (show some am_c650 = some c from h)) ▸ am_q650
  | 11, c, h => (Option.some.inj (show some am_c651 = some c from h)) ▸ am_q651
  | 12, c, h => (Option.some.inj (show some am_c652 = some c from h)) ▸ am_q652
  | 13, c, h => (Option.some.inj (show some am_c653 = some c from h)) ▸ am_q653
  | 14, c, h => (Option.some.inj (show some am_c654 = some c from h)) ▸ am_q654
  | 15, c, h => (Option.some.inj (show some am_c655 = some c from h)) ▸ am_q655
  | 16, c, h => (Option.some.inj (show some am_c656 = some c from h)) ▸ am_q656
  | 17, c, h => (Option.some.inj (show some am_c657 = some c from h)) ▸ am_q657
  | 18, c, h => (Option.some.inj (show some am_c658 = some c from h)) ▸ am_q658
  | 19, c, h => (Option.some.inj (show some am_c659 = some c from h)) ▸ am_q659
  | 20, c, h => (Option.some.inj (show some am_c660 = some c from h)) ▸ am_q660
  | 21, c, h => (Option.some.inj (show some am_c661 = some c from h)) ▸ am_q661
  | 22, c, h => (Option.some.inj (show some am_c662 = some c from h)) ▸ am_q662
  | 23, c, h => (Option.some.inj (show some am_c663 = some c from h)) ▸ am_q663
  | 24, c, h => (Option.some.inj (show some am_c664 = some c from h)) ▸ am_q664
  | 25, c, h => (Option.some.inj (show some am_c665 = some c from h)) ▸ am_q665
  | 26, c, h => (Option.some.inj (show some am_c666 = some c from h)) ▸ am_q666
  | 27, c, h => (Option.some.inj (show some am_c667 = some c from h)) ▸ am_q667
  | 28, c, h => (Option.some.inj (show some am_c668 = some c from h)) ▸ am_q668
  | 29, c, h => (Option.some.inj (show some am_c669 = some c from h)) ▸ am_q669
  | 30, c, h => (Option.some.inj (show some am_c670 = some c from h)) ▸ am_q670
  | 31, c, h => (Option.some.inj (show some am_c671 = some c from h)) ▸ am_q671
  | k + 32, c, h => by
    rw [am_nthO_eq, List.getElem?_eq_none (show 32 ≤ k + 32 by omega)] at h
    simp at h
theorem am_ch21 : ∀ (k : Nat) (c : am_Ct), am_nthO am_cl21 k = some c → am_okC c = true ∧ ∃ w, am_chk am_K0 am_cs0 am_dirs0 am_ids0 am_dsr0 1000000 w c = true
  | 0, c, h => (Option.some.inj (show some am_c672 = some c from h)) ▸ am_q672
  | 1, c, h => (Option.some.inj (show some am_c673 = some c from h)) ▸ am_q673
  | 2, c, h => (Option.some.inj (show some am_c674 = some c from h)) ▸ am_q674
  | 3, c, h => (Option.some.inj (show some am_c675 = some c from h)) ▸ am_q675
  | 4, c, h => (Option.some.inj (show some am_c676 = some c from h)) ▸ am_q676
  | 5, c, h => (Option.some.inj (show some am_c677 = some c from h)) ▸ am_q677
  | 6, c, h => (Option.some.inj (show some am_c678 = some c from h)) ▸ am_q678
  | 7, c, h => (Option.some.inj (show some am_c679 = some c from h)) ▸ am_q679
  | 8, c, h => (Option.some.inj (show some am_c680 = some c from h)) ▸ am_q680
  | 9, c, h => (Option.some.inj (show some am_c681 = some c from h)) ▸ am_q681
  | 10, c, h => (Option.some.inj (show some am_c682 = some c from h)) ▸ am_q682
  | 11, c, h => (Option.some.inj (show some am_c683 = some c from h)) ▸ am_q683
  | 12, c, h => (Option.some.inj (show some am_c684 = some c from h)) ▸ am_q684
  | 13, c, h => (Option.some.inj (show some am_c685 = some c from h)) ▸ am_q685
  | 14, c, h => (Option.some.inj (show some am_c686 = some c from h)) ▸ am_q686
  | 15, c, h => (Option.some.inj (show some am_c687 = some c from h)) ▸ am_q687
  | 16, c, h => (Option.some.inj (show some am_c688 = some c from h)) ▸ am_q688
  | 17, c, h => (Option.some.inj (show some am_c689 = some c from h)) ▸ am_q689
  | 18, c, h => (Option.some.inj (show some am_c690 = some c from h)) ▸ am_q690
  | 19, c, h => (Option.some.inj (show some am_c691 = some c from h)) ▸ am_q691
  | 20, c, h => (Option.some.inj (show some am_c692 = some c from h)) ▸ am_q692
  | 21, c, h => (Option.some.inj (show some am_c693 = some c from h)) ▸ am_q693
  | 22, c, h => (Option.some.inj (show some am_c694 = some c from h)) ▸ am_q694
  | 23, c, h => (Option.some.inj (show some am_c695 = some c from h)) ▸ am_q695
  | 24, c, h => (Option.some.inj (show some am_c696 = some c from h)) ▸ am_q696
  | 25, c, h => (Option.some.inj (show some am_c697 = some c from h)) ▸ am_q697
  | 26, c, h => (Option.some.inj (show some am_c698 = some c from h)) ▸ am_q698
  | 27, c, h => (Option.some.inj (show some am_c699 = some c from h)) ▸ am_q699
  | 28, c, h => (Option.some.inj (show some am_c700 = some c from h)) ▸ am_q700
  | 29, c, h => (Option.some.inj (show some am_c701 = some c from h)) ▸ am_q701
  | 30, c, h => (Option.some.inj (show some am_c702 = some c from h)) ▸ am_q702
  | 31, c, h => (Option.some.inj (show some am_c703 = some c from h)) ▸ am_q703
  | k + 32, c, h => by
    rw [am_nthO_eq, List.getElem?_eq_none (show 32 ≤ k + 32 by omega)] at h
    simp at h
theorem am_ch22 : ∀ (k : Nat) (c : am_Ct), am_nthO am_cl22 k = some c → am_okC c = true ∧ ∃ w, am_chk am_K0 am_cs0 am_dirs0 am_ids0 am_dsr0 1000000 w c = true
  | 0, c, h => (Option.some.inj (show some am_c704 = some c from h)) ▸ am_q704
  | 1, c, h => (Option.some.inj (show some am_c705 = some c from h)) ▸ am_q705
  | 2, c, h => (Option.some.inj (show some am_c706 = some c from h)) ▸ am_q706
  | 3, c, h => (Option.some.inj (show some am_c707 = some c from h)) ▸ am_q707
  | 4, c, h => (Option.some.inj (show some am_c708 = some c from h)) ▸ am_q708
  | 5, c, h => (Option.some.inj (show some am_c709 = some c from h)) ▸ am_q709
  | 6, c, h => (Option.some.inj (show some am_c710 = some c from h)) ▸ am_q710
  | 7, c, h => (Option.some.inj (show some am_c711 = some c from h)) ▸ am_q711
  | 8, c, h => (Option.some.inj (show some am_c712 = some c from h)) ▸ am_q712
  | 9, c, h => (Option.some.inj (show some am_c713 = some c from h)) ▸ am_q713
  | 10, c, h => (Option.some.inj (show some am_c714 = some c from h)) ▸ am_q714
  | 11, c, h => (Option.some.inj (show some am_c715 = some c from h)) ▸ am_q715
  | 12, c, h => (Option.some.inj (show some am_c716 = some c from h)) ▸ am_q716
  | 13, c, h => (Option.some.inj (show some am_c717 = some c from h)) ▸ am_q717
  | 14, c, h => (Option.some.inj (show some am_c718 = some c from h)) ▸ am_q718
  | 15, c, h => (Option.some.inj (show some am_c719 = some c from h)) ▸ am_q719
  | 16, c, h => (Option.some.inj (show some am_c720 = some c from h)) ▸ am_q720
  | 17, c, h => (Option.some.inj (show some am_c721 = some c from h)) ▸ am_q721
  | 18, c, h => (Option.some.inj (show some am_c722 = some c from h)) ▸ am_q722
  | 19, c, h => (Option.some.inj (show some am_c723 = some c from h)) ▸ am_q723
  | 20, c, h => (Option.some.inj (show some am_c724 = some c from h)) ▸ am_q724
  | 21, c, h => (Option.some.inj (show some am_c725 = some c from h)) ▸ am_q725
  | 22, c, h => (Option.some.inj (show some am_c726 = some c from h)) ▸ am_q726
  | 23, c, h => (Option.some.inj (show some am_c727 = some c from h)) ▸ am_q727
  | 24, c, h => (Option.some.inj (show some am_c728 = some c from h)) ▸ am_q728
  | 25, c, h => (Option.some.inj (show some am_c729 = some c from h)) ▸ am_q729
  | 26, c, h => (Option.some.inj (show some am_c730 = some c from h)) ▸ am_q730
  | 27, c, h => (Option.some.inj (show some am_c731 = some c from h)) ▸ am_q731
  | 28, c, h => (Option.some.inj (show some am_c732 = some c from h)) ▸ am_q732
  | 29, c, h => (Option.some.inj (show some am_c733 = some c from h)) ▸ am_q733
  | 30, c, h => (Option.some.inj (show some am_c734 = some c from h)) ▸ am_q734
  | 31, c, h => (Option.some.inj (show some am_c735 = some c from h)) ▸ am_q735
  | k + 32, c, h => by
    rw [am_nthO_eq, List.getElem?_eq_none (show 32 ≤ k + 32 by omega)] at h
    simp at h
theorem am_ch23 : ∀ (k : Nat) (c : am_Ct), am_nthO am_cl23 k = some c → am_okC c = true ∧ ∃ w, am_chk am_K0 am_cs0 am_dirs0 am_ids0 am_dsr0 1000000 w c = true
  | 0, c, h => (Option.some.inj (show some am_c736 = some c from h)) ▸ am_q736
  | 1, c, h => (Option.some.inj (show some am_c737 = some c from h)) ▸ am_q737
  | 2, c, h => (Option.some.inj (show some am_c738 = some c from h)) ▸ am_q738
  | 3, c, h => (Option.some.inj (show some am_c739 = some c from h)) ▸ am_q739
  | 4, c, h => (Option.some.inj (show some am_c740 = some c from h)) ▸ am_q740
  | 5, c, h => (Option.some.inj (show some am_c741 = some c from h)) ▸ am_q741
  | 6, c, h => (Option.some.inj (show some am_c742 = some c from h)) ▸ am_q742
  | 7, c, h => (Option.some.inj (show some am_c743 = some c from h)) ▸ am_q743
  | 8, c, h => (Option.some.inj (show some am_c744 = some c from h)) ▸ am_q744
  | 9, c, h => (Option.some.inj (show some am_c745 = some c from h)) ▸ am_q745
  | 10, c, h => (Option.some.inj (show some am_c746 = some c from h)) ▸ am_q746
  | 11, c, h => (Option.some.inj (show some am_c747 = some c from h)) ▸ am_q747
  | 12, c, h => (Option.some.inj (show some am_c748 = some c from h)) ▸ am_q748
  | 13, c, h => (Option.some.inj (show some am_c749 = some c from h)) ▸ am_q749
  | 14, c, h => (Option.some.inj (show some am_c750 = some c from h)) ▸ am_q750
  | 15, c, h => (Option.some.inj (show some am_c751 = some c from h)) ▸ am_q751
  | 16, c, h => (Option.some.inj (show some am_c752 = some c from h)) ▸ am_q752
  | 17, c, h => (Option.some.inj (show some am_c753 = some c from h)) ▸ am_q753
  | 18, c, h => (Option.some.inj (show some am_c754 = some c from h)) ▸ am_q754
  | 19, c, h => (Option.some.inj (show some am_c755 = some c from h)) ▸ am_q755
  | 20, c, h => (Option.some.inj (show some am_c756 = some c from h)) ▸ am_q756
  | 21, c, h => (Option.some.inj (show some am_c757 = some c from h)) ▸ am_q757
  | 22, c, h => (Option.some.inj (show some am_c758 = some c from h)) ▸ am_q758
  | 23, c, h => (Option.some.inj (show some am_c759 = some c from h)) ▸ am_q759
  | 24, c, h => (Option.some.inj (show some am_c760 = some c from h)) ▸ am_q760
  | 25, c, h => (Option.some.inj (show some am_c761 = some c from h)) ▸ am_q761
  | 26, c, h => (Option.some.inj (show some am_c762 = some c from h)) ▸ am_q762
  | 27, c, h => (Option.some.inj (show some am_c763 = some c from h)) ▸ am_q763
  | 28, c, h => (Option.some.inj (show some am_c764 = some c from h)) ▸ am_q764
  | 29, c, h => (Option.some.inj (show some am_c765 = some c from h)) ▸ am_q765
  | 30, c, h => (Option.some.inj (show some am_c766 = some c from h)) ▸ am_q766
  | 31, c, h => (Option.some.inj (show some am_c767 = some c from h)) ▸ am_q767
  | k + 32, c, h => by
    rw [am_nthO_eq, List.getElem?_eq_none (show 32 ≤ k + 32 by omega)] at h
    simp at h
theorem am_ch24 : ∀ (k : Nat) (c : am_Ct), am_nthO am_cl24 k = some c → am_okC c = true ∧ ∃ w, am_chk am_K0 am_cs0 am_dirs0 am_ids0 am_dsr0 1000000 w c = true
  | 0, c, h => (Option.some.inj (show some am_c768 = some c from h)) ▸ am_q768
  | 1, c, h => (Option.some.inj (show some am_c769 = some c from h)) ▸ am_q769
  | 2, c, h => (Option.some.inj (show some am_c770 = some c from h)) ▸ am_q770
  | 3, c, h => (Option.some.inj (show some am_c771 = some c from h)) ▸ am_q771
  | 4, c, h => (Option.some.inj (show some am_c772 = some c from h)) ▸ am_q772
  | 5, c, h => (Option.some.inj (show some am_c773 = some c from h)) ▸ am_q773
  | 6, c, h => (Option.some.inj (show some am_c774 = some c from h)) ▸ am_q774
  | 7, c, h => (Option.some.inj (show some am_c775 = some c from h)) ▸ am_q775
  | 8, c, h => (Option.some.inj (show some am_c776 = some c from h)) ▸ am_q776
  | 9, c, h => (Option.some.inj (show some am_c777 = some c from h)) ▸ am_q777
  | 10, c, h => (Option.some.inj (show some am_c778 = some c from h)) ▸ am_q778
  | 11, c, h => (Option.some.inj (show some am_c779 = some c from h)) ▸ am_q779
  | 12, c, h => (Option.some.inj (show some am_c780 = some c from h)) ▸ am_q780
  | 13, c, h => (Option.some.inj (show some am_c781 = some c from h)) ▸ am_q781
  | 14, c, h => (Option.some.inj (show some am_c782 = some c from h)) ▸ am_q782
  | 15, c, h => (Option.some.inj (show some am_c783 = some c from h)) ▸ am_q783
  | 16, c, h => (Option.some.inj (show some am_c784 = some c from h)) ▸ am_q784
  | 17, c, h => (Option.some.inj (show some am_c785 = some c from h)) ▸ am_q785
  | 18, c, h => (Option.some.inj (show some am_c786 = some c from h)) ▸ am_q786
  | 19, c, h => (Option.some.inj (show some am_c787 = some c from h)) ▸ am_q787
  | 20, c, h => (Option.some.inj (show some am_c788 = some c from h)) ▸ am_q788
  | 21, c, h => (Option.some.inj (show some am_c789 = some c from h)) ▸ am_q789
  | 22, c, h => (Option.some.inj (show some am_c790 = some c from h)) ▸ am_q790
  | 23, c, h => (Option.some.inj (show some am_c791 = some c from h)) ▸ am_q791
  | 24, c, h => (Option.some.inj (show some am_c792 = some c from h)) ▸ am_q792
  | 25, c, h => (Option.some.inj (show some am_c793 = some c from h)) ▸ am_q793
  | 26, c, h => (Option.some.inj (show some am_c794 = some c from h)) ▸ am_q794
  | 27, c, h => (Option.some.inj (show some am_c795 = some c from h)) ▸ am_q795
  | 28, c, h => (Option.some.inj (show some am_c796 = some c from h)) ▸ am_q796
  | 29, c, h => (Option.some.inj (show some am_c797 = some c from h)) ▸ am_q797
  | 30, c, h => (Option.some.inj (show some am_c798 = some c from h)) ▸ am_q798
  | 31, c, h => (Option.some.inj (show some am_c799 = some c from h)) ▸ am_q799
  | k + 32, c, h => by
    rw [am_nthO_eq, List.getElem?_eq_none (show 32 ≤ k + 32 by omega)] at h
    simp at h
theorem am_ch25 : ∀ (k : Nat) (c : am_Ct), am_nthO am_cl25 k = some c → am_okC c = true ∧ ∃ w, am_chk am_K0 am_cs0 am_dirs0 am_ids0 am_dsr0 1000000 w c = true
  | 0, c, h => (Option.some.inj (show some am_c800 = some c from h)) ▸ am_q800
  | 1, c, h => (Option.some.inj (show some am_c801 = some c from h)) ▸ am_q801
  | 2, c, h => (Option.some.inj (show some am_c802 = some c from h)) ▸ am_q802
  | 3, c, h => (Option.some.inj (show some am_c803 = some c from h)) ▸ am_q803
  | 4, c, h => (Option.some.inj (show some am_c804 = some c from h)) ▸ am_q804
  | 5, c, h => (Option.some.inj (show some am_c805 = some c from h)) ▸ am_q805
  | 6, c, h => (Option.some.inj (show some am_c806 = some c from h)) ▸ am_q806
  | 7, c, h => (Option.some.inj (show some am_c807 = some c from h)) ▸ am_q807
  | 8, c, h => (Option.some.inj (show some am_c808 = some c from h)) ▸ am_q808
  | 9, c, h => (Option.some.inj (show some am_c809 = some c from h)) ▸ am_q809
  | 10, c, h => (Option.some.inj (show some am_c810 = some c from h)) ▸ am_q810
  | 11, c, h => (Option.some.inj (show some am_c811 = some c from h)) ▸ am_q811
  | 12, c, h => (Option.some.inj (show some am_c812 = some c from h)) ▸ am_q812
  | 13, c, h => (Option.some.inj (show some am_c813 = some c from h)) ▸ am_q813
  | 14, c, h => (Option.some.inj (show some am_c814 = some c from h)) ▸ am_q814
  | 15, c, h => (Option.some.inj (show some am_c815 = some c from h)) ▸ am_q815
  | 16, c, h => (Option.some.inj (show some am_c816 = some c from h)) ▸ am_q816
  | 17, c, h => (Option.some.inj (show some am_c817 = some c from h)) ▸ am_q817
  | 18, c, h => (Option.some.inj (show some am_c818 = some c from h)) ▸ am_q818
  | 19, c, h => (Option.some.inj (show some am_c819 = some c from h)) ▸ am_q819
  | 20, c, h => (Option.some.inj (show some am_c820 = some c from h)) ▸ am_q820
  | 21, c, h => (Option.some.inj (show some am_c821 = some c from h)) ▸ am_q821
  | 22, c, h => (Option.some.inj (show some am_c822 = some c from h)) ▸ am_q822
  | 23, c, h => (Option.some.inj (show some am_c823 = some c from h)) ▸ am_q823
  | 24, c, h => (Option.some.inj (show some am_c824 = some c from h)) ▸ am_q824
  | 25, c, h => (Option.some.inj (show some am_c825 = some c from h)) ▸ am_q825
  | 26, c, h => (Option.some.inj (show some am_c826 = some c from h)) ▸ am_q826
  | 27, c, h => (Option.some.inj (show some am_c827 = some c from h)) ▸ am_q827
  | 28, c, h => (Option.some.inj (show some am_c828 = some c from h)) ▸ am_q828
  | 29, c, h => (Option.some.inj (show some am_c829 = some c from h)) ▸ am_q829
  | 30, c, h => (Option.some.inj (show some am_c830 = some c from h)) ▸ am_q830
  | 31, c, h => (Option.some.inj (show some am_c831 = some c from h)) ▸ am_q831
  | k + 32, c, h => by
    rw [am_nthO_eq, List.getElem?_eq_none (show 32 ≤ k + 32 by omega)] at h
    simp at h
theorem am_ch26 : ∀ (k : Nat) (c : am_Ct), am_nthO am_cl26 k = some c → am_okC c = true ∧ ∃ w, am_chk am_K0 am_cs0 am_dirs0 am_ids0 am_dsr0 1000000 w c = true
  | 0, c, h => (Option.some.inj (show some am_c832 = some c from h)) ▸ am_q832
  | 1, c, h => (Option.some.inj (show some am_c833 = some c from h)) ▸ am_q833
  | 2, c, h => (Option.some.inj (show some am_c834 = some c from h)) ▸ am_q834
  | 3, c, h => (Option.some.inj (show some am_c835 = some c from h)) ▸ am_q835
  | 4, c, h => (Option.some.inj (show some am_c836 = some c from h)) ▸ am_q836
  | 5, c, h => (Option.some.inj (show some am_c837 = some c from h)) ▸ am_q837
  | 6, c, h => (Option.some.inj (show some am_c838 = some c from h)) ▸ am_q838
  | 7, c, h => (Option.some.inj (show some am_c839 = some c from h)) ▸ am_q839
  | 8, c, h => (Option.some.inj (show some am_c840 = some c from h)) ▸ am_q840
  | 9, c, h => (Option.some.inj (show some am_c841 = some c from h)) ▸ am_q841
  | 10, c, h => (Option.some.inj (show some am_c842 = some c from h)) ▸ am_q842
  | 11, c, h => (Option.some.inj (show some am_c843 = some c from h)) ▸ am_q843
  | 12, c, h => (Option.some.inj (show some am_c844 = some c from h)) ▸ am_q844
  | 13, c, h => (Option.some.inj (show some am_c845 = some c from h)) ▸ am_q845
  | 14, c, h => (Option.some.inj (show some am_c846 = some c from h)) ▸ am_q846
  | 15, c, h => (Option.some.inj (show some am_c847 = some c from h)) ▸ am_q847
  | 16, c, h => (Option.some.inj (show some am_c848 = some c from h)) ▸ am_q848
  | 17, c, h => (Option.some.inj (show some am_c849 = some c from h)) ▸ am_q849
  | 18, c, h => (Option.some.inj (show some am_c850 = some c from h)) ▸ am_q850
  | 19, c, h => (Option.some.inj (show some am_c851 = some c from h)) ▸ am_q851
  | 20, c, h => (Option.some.inj (show some am_c852 = some c from h)) ▸ am_q852
  | 21, c, h => (Option.some.inj (show some am_c853 = some c from h)) ▸ am_q853
  | 22, c, h => (Option.some.inj (show some am_c854 = some c from h)) ▸ am_q854
  | 23, c, h => (Option.some.inj (show some am_c855 = some c from h)) ▸ am_q855
  | 24, c, h => (Option.some.inj (show some am_c856 = some c from h)) ▸ am_q856
  | 25, c, h => (Option.some.inj (show some am_c857 = some c from h)) ▸ am_q857
  | 26, c, h => (Option.some.inj (show some am_c858 = some c from h)) ▸ am_q858
  | 27, c, h => (Option.some.inj (show some am_c859 = some c from h)) ▸ am_q859
  | 28, c, h => (Option.some.inj (show some am_c860 = some c from h)) ▸ am_q860
  | 29, c, h => (Option.some.inj (show some am_c861 = some c from h)) ▸ am_q861
  | 30, c, h => (Option.some.inj (show some am_c862 = some c from h)) ▸ am_q862
  | 31, c, h => (Option.some.inj (show some am_c863 = some c from h)) ▸ am_q863
  | k + 32, c, h => by
    rw [am_nthO_eq, List.getElem?_eq_none (show 32 ≤ k + 32 by omega)] at h
    simp at h
theorem am_ch27 : ∀ (k : Nat) (c : am_Ct), am_nthO am_cl27 k = some c → am_okC c = true ∧ ∃ w, am_chk am_K0 am_cs0 am_dirs0 am_ids0 am_dsr0 1000000 w c = true
  | 0, c, h => (Option.some.inj (show some am_c864 = some c from h)) ▸ am_q864
  | 1, c, h => (Option.some.inj (show some am_c865 = some c from h)) ▸ am_q865
  | 2, c, h => (Option.some.inj (show some am_c866 = some c from h)) ▸ am_q866
  | 3, c, h => (Option.some.inj (show some am_c867 = some c from h)) ▸ am_q867
  | 4, c, h => (Option.some.inj (show some am_c868 = some c from h)) ▸ am_q868
  | 5, c, h => (Option.some.inj (show some am_c869 = some c from h)) ▸ am_q869
  | 6, c, h => (Option.some.inj (show some am_c870 = some c from h)) ▸ am_q870
  | 7, c, h => (Option.some.inj (show some am_c871 = some c from h)) ▸ am_q871
  | 8, c, h => (Option.some.inj (show some am_c872 = some c from h)) ▸ am_q872
  | 9, c, h => (Option.some.inj (show some am_c873 = some c from h)) ▸ am_q873
  | 10, c, h => (Option.some.inj (show some am_c874 = some c from h)) ▸ am_q874
  | 11, c, h => (Option.some.inj (show some am_c875 = some c from h)) ▸ am_q875
  | 12, c, h => (Option.some.inj (show some am_c876 = some c from h)) ▸ am_q876
  | 13, c, h => (Option.some.inj (show some am_c877 = some c from h)) ▸ am_q877
  | 14, c, h => (Option.some.inj (show some am_c878 = some c from h)) ▸ am_q878
  | 15, c, h => (Option.some.inj (show some am_c879 = some c from h)) ▸ am_q879
  | 16, c, h => (Option.some.inj (show some am_c880 = some c from h)) ▸ am_q880
  | 17, c, h => (Option.some.inj (show some am_c881 = some c from h)) ▸ am_q881
  | 18, c, h => (Option.some.inj (show some am_c882 = some c from h)) ▸ am_q882
  | 19, c, h => (Option.some.inj (show some am_c883 = some c from h)) ▸ am_q883
  | 20, c, h => (Option.some.inj (show some am_c884 = some c from h)) ▸ am_q884
  | 21, c, h => (Option.some.inj (show some am_c885 = some c from h)) ▸ am_q885
  | 22, c, h => (Option.some.inj (show some am_c886 = some c from h)) ▸ am_q886
  | 23, c, h => (Option.some.inj (show some am_c887 = some c from h)) ▸ am_q887
  | 24, c, h => (Option.some.inj (show some am_c888 = some c from h)) ▸ am_q888
  | 25, c, h => (Option.some.inj (show some am_c889 = some c from h)) ▸ am_q889
  | 26, c, h => (Option.some.inj (show some am_c890 = some c from h)) ▸ am_q890
  | 27, c, h => (Option.some.inj (show some am_c891 = some c from h)) ▸ am_q891
  | 28, c, h => (Option.some.inj (show some am_c892 = some c from h)) ▸ am_q892
  | 29, c, h => (Option.some.inj (show some am_c893 = some c from h)) ▸ am_q893
  | 30, c, h => (Option.some.inj (show some am_c894 = some c from h)) ▸ am_q894
  | 31, c, h => (Option.some.inj (show some am_c895 = some c from h)) ▸ am_q895
  | k + 32, c, h => by
    rw [am_nthO_eq, List.getElem?_eq_none (show 32 ≤ k + 32 by omega)] at h
    simp at h
theorem am_ch28 : ∀ (k : Nat) (c : am_Ct), am_nthO am_cl28 k = some c → am_okC c = true ∧ ∃ w, am_chk am_K0 am_cs0 am_dirs0 am_ids0 am_dsr0 1000000 w c = true
  | 0, c, h => (Option.some.inj (show some am_c896 = some c from h)) ▸ am_q896
  | 1, c, h => (Option.some.inj (show some am_c897 = some c from h)) ▸ am_q897
  | 2, c, h => (Option.some.inj (show some am_c898 = some c from h)) ▸ am_q898
  | 3, c, h => (Option.some.inj (show some am_c899 = some c from h)) ▸ am_q899
  | 4, c, h => (Option.some.inj (show some am_c900 = some c from h)) ▸ am_q900
  | 5, c, h => (Option.some.inj (show some am_c901 = some c from h)) ▸ am_q901
  | 6, c, h => (Option.some.inj (show some am_c902 = some c from h)) ▸ am_q902
  | 7, c, h => (Option.some.inj (show some am_c903 = some c from h)) ▸ am_q903
  | 8, c, h => (Option.some.inj (show some am_c904 = some c from h)) ▸ am_q904
  | 9, c, h => (Option.some.inj (show some am_c905 = some c from h)) ▸ am_q905
  | 10, c, h => (Option.some.inj (show some am_c906 = some c from h)) ▸ am_q906
  | 11, c, h => (Option.some.inj (show some am_c907 = some c from h)) ▸ am_q907
  | 12, c, h => (Option.some.inj (show some am_c908 = some c from h)) ▸ am_q908
  | 13, c, h => (Option.some.inj (show some am_c909 = some c from h)) ▸ am_q909
  | 14, c, h => (Option.some.inj (show some am_c910 = some c from h)) ▸ am_q910
  | 15, c, h => (Option.some.inj (show some am_c911 = some c from h)) ▸ am_q911
  | 16, c, h => (Option.some.inj (show some am_c912 = some c from h)) ▸ am_q912
  | 17, c, h => (Option.some.inj (show some am_c913 = some c from h)) ▸ am_q913
  | 18, c, h => (Option.some.inj (show some am_c914 = some c from h)) ▸ am_q914
  | 19, c, h => (Option.some.inj (show some am_c915 = some c from h)) ▸ am_q915
  | 20, c, h => (Option.some.inj (show some am_c916 = some c from h)) ▸ am_q916
  | 21, c, h => (Option.some.inj (show some am_c917 = some c from h)) ▸ am_q917
  | 22, c, h => (Option.some.inj (show some am_c918 = some c from h)) ▸ am_q918
  | 23, c, h => (Option.some.inj (show some am_c919 = some c from h)) ▸ am_q919
  | 24, c, h => (Option.some.inj (show some am_c920 = some c from h)) ▸ am_q920
  | 25, c, h => (Option.some.inj (show some am_c921 = some c from h)) ▸ am_q921
  | 26, c, h => (Option.some.inj (show some am_c922 = some c from h)) ▸ am_q922
  | 27, c, h => (Option.some.inj (show some am_c923 = some c from h)) ▸ am_q923
  | 28, c, h => (Option.some.inj (show some am_c924 = some c from h)) ▸ am_q924
  | 29, c, h => (Option.some.inj (show some am_c925 = some c from h)) ▸ am_q925
  | 30, c, h => (Option.some.inj (show some am_c926 = some c from h)) ▸ am_q926
  | 31, c, h => (Option.some.inj (show some am_c927 = some c from h)) ▸ am_q927
  | k + 32, c, h => by
    rw [am_nthO_eq, List.getElem?_eq_none (show 32 ≤ k + 32 by omega)] at h
    simp at h
theorem am_ch29 : ∀ (k : Nat) (c : am_Ct), am_nthO am_cl29 k = some c → am_okC c = true ∧ ∃ w, am_chk am_K0 am_cs0 am_dirs0 am_ids0 am_dsr0 1000000 w c = true
  | 0, c, h => (Option.some.inj (show some am_c928 = some c from h)) ▸ am_q928
  | 1, c, h => (Option.some.inj (show some am_c929 = some c from h)) ▸ am_q929
  | 2, c, h => (Option.some.inj (show some am_c930 = some c from h)) ▸ am_q930
  | 3, c, h => (Option.some.inj (show some am_c931 = some c from h)) ▸ am_q931
  | 4, c, h => (Option.some.inj (show some am_c932 = some c from h)) ▸ am_q932
  | 5, c, h => (Option.some.inj (show some am_c933 = some c from h)) ▸ am_q933
  | 6, c, h => (Option.some.inj (show some am_c934 = some c from h)) ▸ am_q934
  | 7, c, h => (Option.some.inj (show some am_c935 = some c from h)) ▸ am_q935
  | 8, c, h => (Option.some.inj (show some am_c936 = some c from h)) ▸ am_q936
  | 9, c, h => (Option.some.inj (show some am_c937 = some c from h)) ▸ am_q937
  | 10, c, h => (Option.some.inj (show some am_c938 = some c from h)) ▸ am_q938
  | 11, c, h => (Option.some.inj (show some am_c939 = some c from h)) ▸ am_q939
  | 12, c, h => (Option.some.inj (show some am_c940 = some c from h)) ▸ am_q940
  | 13, c, h => (Option.some.inj (show some am_c941 = some c from h)) ▸ am_q941
  | 14, c, h => (Option.some.inj (show some am_c942 = some c from h)) ▸ am_q942
  | 15, c, h => (Option.some.inj (show some am_c943 = some c from h)) ▸ am_q943
  | 16, c, h => (Option.some.inj (show some am_c944 = some c from h)) ▸ am_q944
  | 17, c, h => (Option.some.inj (show some am_c945 = some c from h)) ▸ am_q945
  | 18, c, h => (Option.some.inj (show some am_c946 = some c from h)) ▸ am_q946
  | 19, c, h => (Option.some.inj (show some am_c947 = some c from h)) ▸ am_q947
  | 20, c, h => (Option.some.inj (show some am_c948 = some c from h)) ▸ am_q948
  | 21, c, h => (Option.some.inj (show some am_c949 = some c from h)) ▸ am_q949
  | 22, c, h => (Option.some.inj (show some am_c950 = some c from h)) ▸ am_q950
  | 23, c, h => (Option.some.inj (show some am_c951 = some c from h)) ▸ am_q951
  | 24, c, h => (Option.some.inj (show some am_c952 = some c from h)) ▸ am_q952
  | 25, c, h => (Option.some.inj (show some am_c953 = some c from h)) ▸ am_q953
  | 26, c, h => (Option.some.inj (show some am_c954 = some c from h)) ▸ am_q954
  | 27, c, h => (Option.some.inj (show some am_c955 = some c from h)) ▸ am_q955
  | 28, c, h => (Option.some.inj (show some am_c956 = some c from h)) ▸ am_q956
  | 29, c, h => (Option.some.inj (show some am_c957 = some c from h)) ▸ am_q957
  | 30, c, h => (Option.some.inj (show some am_c958 = some c from h)) ▸ am_q958
  | 31, c, h => (Option.some.inj (show some am_c959 = some c from h)) ▸ am_q959
  | k + 32, c, h => by
    rw [am_nthO_eq, List.getElem?_eq_none (show 32 ≤ k + 32 by omega)] at h
    simp at h
theorem am_ch30 : ∀ (k : Nat) (c : am_Ct), am_nthO am_cl30 k = some c → am_okC c = true ∧ ∃ w, am_chk am_K0 am_cs0 am_dirs0 am_ids0 am_dsr0 1000000 w c = true
  | 0, c, h => (Option.some.inj (show some am_c960 = some c from h)) ▸ am_q960
  | 1, c, h => (Option.some.inj (show some am_c961 = some c from h)) ▸ am_q961
  | 2, c, h => (Option.some.inj (show some am_c962 = some c from h)) ▸ am_q962
  | 3, c, h => (Option.some.inj (show some am_c963 = some c from h)) ▸ am_q963
  | 4, c, h => (Option.some.inj (show some am_c964 = some c from h)) ▸ am_q964
  | 5, c, h => (Option.some.inj (show some am_c965 = some c from h)) ▸ am_q965
  | 6, c, h => (Option.some.inj (show some am_c966 = some c from h)) ▸ am_q966
  | 7, c, h => (Option.some.inj (show some am_c967 = some c from h)) ▸ am_q967
  | 8, c, h => (Option.some.inj (show some am_c968 = some c from h)) ▸ am_q968
  | 9, c, h => (Option.some.inj (show some am_c969 = some c from h)) ▸ am_q969
  | 10, c, h => (Option.some.inj (show some am_c970 = some c from h)) ▸ am_q970
  | 11, c, h => (Option.some.inj (show some am_c971 = some c from h)) ▸ am_q971
  | 12, c, h => (Option.some.inj (show some am_c972 = some c from h)) ▸ am_q972
  | 13, c, h => (Option.some.inj (show some am_c973 = some c from h)) ▸ am_q973
  | 14, c, h => (Option.some.inj (show some am_c974 = some c from h)) ▸ am_q974
  | 15, c, h => (Option.some.inj (show some am_c975 = some c from h)) ▸ am_q975
  | 16, c, h => (Option.some.inj (show some am_c976 = some c from h)) ▸ am_q976
  | 17, c, h => (Option.some.inj (show some am_c977 = some c from h)) ▸ am_q977
  | 18, c, h => (Option.some.inj (show some am_c978 = some c from h)) ▸ am_q978
  | 19, c, h => (Option.some.inj (show some am_c979 = some c from h)) ▸ am_q979
  | 20, c, h => (Option.some.inj (show some am_c980 = some c from h)) ▸ am_q980
  | 21, c, h => (Option.some.inj (show some am_c981 = some c from h)) ▸ am_q981
  | 22, c, h => (Option.some.inj (show some am_c982 = some c from h)) ▸ am_q982
  | 23, c, h => (Option.some.inj (show some am_c983 = some c from h)) ▸ am_q983
  | 24, c, h => (Option.some.inj (show some am_c984 = some c from h)) ▸ am_q984
  | 25, c, h => (Option.some.inj (show some am_c985 = some c from h)) ▸ am_q985
  | 26, c, h => (Option.some.inj (show some am_c986 = some c from h)) ▸ am_q986
  | 27, c, h => (Option.some.inj (show some am_c987 = some c from h)) ▸ am_q987
  | 28, c, h => (Option.some.inj (show some am_c988 = some c from h)) ▸ am_q988
  | 29, c, h => (Option.some.inj (show some am_c989 = some c from h)) ▸ am_q989
  | 30, c, h => (Option.some.inj (show some am_c990 = some c from h)) ▸ am_q990
  | 31, c, h => (Option.some.inj (show some am_c991 = some c from h)) ▸ am_q991
  | k + 32, c, h => by
    rw [am_nthO_eq, List.getElem?_eq_none (show 32 ≤ k + 32 by omega)] at h
    simp at h
theorem am_ch31 : ∀ (k : Nat) (c : am_Ct), am_nthO am_cl31 k = some c → am_okC c = true ∧ ∃ w, am_chk am_K0 am_cs0 am_dirs0 am_ids0 am_dsr0 1000000 w c = true
  | 0, c, h => (Option.some.inj (show some am_c992 = some c from h)) ▸ am_q992
  | 1, c, h => (Option.some.inj (show some am_c993 = some c from h)) ▸ am_q993
  | 2, c, h => (Option.some.inj (show some am_c994 = some c from h)) ▸ am_q994
  | 3, c, h => (Option.some.inj (show some am_c995 = some c from h)) ▸ am_q995
  | 4, c, h => (Option.some.inj (show some am_c996 = some c from h)) ▸ am_q996
  | 5, c, h => (Option.some.inj (show some am_c997 = some c from h)) ▸ am_q997
  | 6, c, h => (Option.some.inj (show some am_c998 = some c from h)) ▸ am_q998
  | 7, c, h => (Option.some.inj (show some am_c999 = some c from h)) ▸ am_q999
  | 8, c, h => (Option.some.inj (show some am_c1000 = some c from h)) ▸ am_q1000
  | 9, c, h => (Option.some.inj (show some am_c1001 = some c from h)) ▸ am_q1001
  | 10, c, h => (Option.some.inj (show some am_c1002 = some c from h)) ▸ am_q1002
  | 11, c, h => (Option.some.inj (show some am_c1003 = some c from h)) ▸ am_q1003
  | 12, c, h => (Option.some.inj (show some am_c1004 = some c from h)) ▸ am_q1004
  | 13, c, h => (Option.some.inj (show some am_c1005 = some c from h)) ▸ am_q1005
  | 14, c, h => (Option.some.inj (show some am_c1006 = some c from h)) ▸ am_q1006
  | 15, c, h => (Option.some.inj (show some am_c1007 = some c from h)) ▸ am_q1007
  | 16, c, h => (Option.some.inj (show some am_c1008 = some c from h)) ▸ am_q1008
  | 17, c, h => (Option.some.inj (show some am_c1009 = some c from h)) ▸ am_q1009
  | 18, c, h => (Option.some.inj (show some am_c1010 = some c from h)) ▸ am_q1010
  | 19, c, h => (Option.some.inj (show some am_c1011 = some c from h)) ▸ am_q1011
  | 20, c, h => (Option.some.inj (show some am_c1012 = some c from h)) ▸ am_q1012
  | 21, c, h => (Option.some.inj (show some am_c1013 = some c from h)) ▸ am_q1013
  | 22, c, h => (Option.some.inj (show some am_c1014 = some c from h)) ▸ am_q1014
  | 23, c, h => (Option.some.inj (show some am_c1015 = some c from h)) ▸ am_q1015
  | 24, c, h => (Option.some.inj (show some am_c1016 = some c from h)) ▸ am_q1016
  | 25, c, h => (Option.some.inj (show some am_c1017 = some c from h)) ▸ am_q1017
  | 26, c, h => (Option.some.inj (show some am_c1018 = some c from h)) ▸ am_q1018
  | 27, c, h => (Option.some.inj (show some am_c1019 = some c from h)) ▸ am_q1019
  | 28, c, h => (Option.some.inj (show some am_c1020 = some c from h)) ▸ am_q1020
  | 29, c, h => (Option.some.inj (show some am_c1021 = some c from h)) ▸ am_q1021
  | 30, c, h => (Option.some.inj (show some am_c1022 = some c from h)) ▸ am_q1022
  | 31, c, h => (Option.some.inj (show some am_c1023 = some c from h)) ▸ am_q1023
  | k + 32, c, h => by
    rw [am_nthO_eq, List.getElem?_eq_none (show 32 ≤ k + 32 by omega)] at h
    simp at h
theorem am_ch32 : ∀ (k : Nat) (c : am_Ct), am_nthO am_cl32 k = some c → am_okC c = true ∧ ∃ w, am_chk am_K0 am_cs0 am_dirs0 am_ids0 am_dsr0 1000000 w c = true
  | 0, c, h => (Option.some.inj (show some am_c1024 = some c from h)) ▸ am_q1024
  | 1, c, h => (Option.some.inj (show some am_c1025 = some c from h)) ▸ am_q1025
  | 2, c, h => (Option.some.inj (show some am_c1026 = some c from h)) ▸ am_q1026
  | 3, c, h => (Option.some.inj (show some am_c1027 = some c from h)) ▸ am_q1027
  | 4, c, h => (Option.some.inj (show some am_c1028 = some c from h)) ▸ am_q1028
  | 5, c, h => (Option.some.inj (show some am_c1029 = some c from h)) ▸ am_q1029
  | 6, c, h => (Option.some.inj (show some am_c1030 = some c from h)) ▸ am_q1030
  | 7, c, h => (Option.some.inj (show some am_c1031 = some c from h)) ▸ am_q1031
  | 8, c, h => (Option.some.inj (show some am_c1032 = some c from h)) ▸ am_q1032
  | 9, c, h => (Option.some.inj (show some am_c1033 = some c from h)) ▸ am_q1033
  | 10, c, h => (Option.some.inj (show some am_c1034 = some c from h)) ▸ am_q1034
  | 11, c, h => (Option.some.inj (show some am_c1035 = some c from h)) ▸ am_q1035
  | 12, c, h => (Option.some.inj (show some am_c1036 = some c from h)) ▸ am_q1036
  | 13, c, h => (Option.some.inj (show some am_c1037 = some c from h)) ▸ am_q1037
  | 14, c, h => (Option.some.inj (show some am_c1038 = some c from h)) ▸ am_q1038
  | 15, c, h => (Option.some.inj (show some am_c1039 = some c from h)) ▸ am_q1039
  | 16, c, h => (Option.some.inj (show some am_c1040 = some c from h)) ▸ am_q1040
  | 17, c, h => (Option.some.inj (show some am_c1041 = some c from h)) ▸ am_q1041
  | 18, c, h => (Option.some.inj (show some am_c1042 = some c from h)) ▸ am_q1042
  | 19, c, h => (Option.some.inj (show some am_c1043 = some c from h)) ▸ am_q1043
  | 20, c, h => (Option.some.inj (show some am_c1044 = some c from h)) ▸ am_q1044
  | 21, c, h => (Option.some.inj (show some am_c1045 = some c from h)) ▸ am_q1045
  | 22, c, h => (Option.some.inj (show some am_c1046 = some c from h)) ▸ am_q1046
  | 23, c, h => (Option.some.inj (show some am_c1047 = some c from h)) ▸ am_q1047
  | 24, c, h => (Option.some.inj (show some am_c1048 = some c from h)) ▸ am_q1048
  | 25, c, h => (Option.some.inj (show some am_c1049 = some c from h)) ▸ am_q1049
  | 26, c, h => (Option.some.inj (show some am_c1050 = some c from h)) ▸ am_q1050
  | 27, c, h => (Option.some.inj (show some am_c1051 = some c from h)) ▸ am_q1051
  | 28, c, h => (Option.some.inj (show some am_c1052 = some c from h)) ▸ am_q1052
  | 29, c, h => (Option.some.inj (show some am_c1053 = some c from h)) ▸ am_q1053
  | 30, c, h => (Option.some.inj (show some am_c1054 = some c from h)) ▸ am_q1054
  | 31, c, h => (Option.some.inj (show some am_c1055 = some c from h)) ▸ am_q1055
  | k + 32, c, h => by
    rw [am_nthO_eq, List.getElem?_eq_none (show 32 ≤ k + 32 by omega)] at h
    simp at h
theorem am_ch33 : ∀ (k : Nat) (c : am_Ct), am_nthO am_cl33 k = some c → am_okC c = true ∧ ∃ w, am_chk am_K0 am_cs0 am_dirs0 am_ids0 am_dsr0 1000000 w c = true
  | 0, c, h => (Option.some.inj (show some am_c1056 = some c from h)) ▸ am_q1056
  | 1, c, h => (Option.some.inj (show some am_c1057 = some c from h)) ▸ am_q1057
  | 2, c, h => (Option.some.inj (show some am_c1058 = some c from h)) ▸ am_q1058
  | 3, c, h => (Option.some.inj (show some am_c1059 = some c from h)) ▸ am_q1059
  | 4, c, h => (Option.some.inj (show some am_c1060 = some c from h)) ▸ am_q1060
  | 5, c, h => (Option.some.inj (show some am_c1061 = some c from h)) ▸ am_q1061
  | 6, c, h => (Option.some.inj (show some am_c1062 = some c from h)) ▸ am_q1062
  | 7, c, h => (Option.some.inj (show some am_c1063 = some c from h)) ▸ am_q1063
  | 8, c, h => (Option.some.inj (show some am_c1064 = some c from h)) ▸ am_q1064
  | 9, c, h => (Option.some.inj (show some am_c1065 = some c from h)) ▸ am_q1065
  | 10, c, h => (Option.some.inj (show some am_c1066 = some c from h)) ▸ am_q1066
  | 11, c, h => (Option.some.inj (show some am_c1067 = some c from h)) ▸ am_q1067
  | 12, c, h => (Option.some.inj (show some am_c1068 = some c from h)) ▸ am_q1068
  | 13, c, h => (Option.some.inj (show some am_c1069 = some c from h)) ▸ am_q1069
  | 14, c, h => (Option.some.inj (show some am_c1070 = some c from h)) ▸ am_q1070
  | 15, c, h => (Option.some.inj (show some am_c1071 = some c from h)) ▸ am_q1071
  | 16, c, h => (Option.some.inj (show some am_c1072 = some c from h)) ▸ am_q1072
  | 17, c, h => (Option.some.inj (show some am_c1073 = some c from h)) ▸ am_q1073
  | 18, c, h => (Option.some.inj (show some am_c1074 = some c from h)) ▸ am_q1074
  | 19, c, h => (Option.some.inj (show some am_c1075 = some c from h)) ▸ am_q1075
  | 20, c, h => (Option.some.inj (show some am_c1076 = some c from h)) ▸ am_q1076
  | 21, c, h => (Option.some.inj (show some am_c1077 = some c from h)) ▸ am_q1077
  | 22, c, h => (Option.some.inj (show some am_c1078 = some c from h)) ▸ am_q1078
  | 23, c, h => (Option.some.inj (show some am_c1079 = some c from h)) ▸ am_q1079
  | 24, c, h => (Option.some.inj (show some am_c1080 = some c from h)) ▸ am_q1080
  | 25, c, h => (Option.some.inj (show some am_c1081 = some c from h)) ▸ am_q1081
  | 26, c, h => (Option.some.inj (show some am_c1082 = some c from h)) ▸ am_q1082
  | 27, c, h => (Option.some.inj (show some am_c1083 = some c from h)) ▸ am_q1083
  | 28, c, h => (Option.some.inj (show some am_c1084 = some c from h)) ▸ am_q1084
  | 29, c, h => (Option.some.inj (show some am_c1085 = some c from h)) ▸ am_q1085
  | 30, c, h => (Option.some.inj (show some am_c1086 = some c from h)) ▸ am_q1086
  | 31, c, h => (Option.some.inj (show some am_c1087 = some c from h)) ▸ am_q1087
  | k + 32, c, h => by
    rw [am_nthO_eq, List.getElem?_eq_none (show 32 ≤ k + 32 by omega)] at h
    simp at h
theorem am_ch34 : ∀ (k : Nat) (c : am_Ct), am_nthO am_cl34 k = some c → am_okC c = true ∧ ∃ w, am_chk am_K0 am_cs0 am_dirs0 am_ids0 am_dsr0 1000000 w c = true
  | 0, c, h => (Option.some.inj (show some am_c1088 = some c from h)) ▸ am_q1088
  | 1, c, h => (Option.some.inj (show some am_c1089 = some c from h)) ▸ am_q1089
  | 2, c, h => (Option.some.inj (show some am_c1090 = some c from h)) ▸ am_q1090
  | 3, c, h => (Option.some.inj (show some am_c1091 = some c from h)) ▸ am_q1091
  | 4, c, h => (Option.some.inj (show some am_c1092 = some c from h)) ▸ am_q1092
  | 5, c, h => (Option.some.inj (show some am_c1093 = some c from h)) ▸ am_q1093
  | 6, c, h => (Option.some.inj (show some am_c1094 = some c from h)) ▸ am_q1094
  | 7, c, h => (Option.some.inj (show some am_c1095 = some c from h)) ▸ am_q1095
  | 8, c, h => (Option.some.inj (show some am_c1096 = some c from h)) ▸ am_q1096
  | 9, c, h => (Option.some.inj (show some am_c1097 = some c from h)) ▸ am_q1097
  | 10, c, h => (Option.some.inj (show some am_c1098 = some c from h)) ▸ am_q1098
  | 11, c, h => (Option.some.inj (show some am_c1099 = some c from h)) ▸ am_q1099
  | 12, c, h => (Option.some.inj (show some am_c1100 = some c from h)) ▸ am_q1100
  | 13, c, h => (Option.some.inj (show some am_c1101 = some c from h)) ▸ am_q1101
  | 14, c, h => (Option.some.inj (show some am_c1102 = some c from h)) ▸ am_q1102
  | 15, c, h => (Option.some.inj (show some am_c1103 = some c from h)) ▸ am_q1103
  | 16, c, h => (Option.some.inj (show some am_c1104 = some c from h)) ▸ am_q1104
  | 17, c, h => (Option.some.inj (show some am_c1105 = some c from h)) ▸ am_q1105
  | 18, c, h => (Option.some.inj (show some am_c1106 = some c from h)) ▸ am_q1106
  | 19, c, h => (Option.some.inj (show some am_c1107 = some c from h)) ▸ am_q1107
  | 20, c, h => (Option.some.inj (show some am_c1108 = some c from h)) ▸ am_q1108
  | 21, c, h => (Option.some.inj (show some am_c1109 = some c from h)) ▸ am_q1109
  | 22, c, h => (Option.some.inj (show some am_c1110 = some c from h)) ▸ am_q1110
  | 23, c, h => (Option.some.inj (show some am_c1111 = some c from h)) ▸ am_q1111
  | 24, c, h => (Option.some.inj (show some am_c1112 = some c from h)) ▸ am_q1112
  | 25, c, h => (Option.some.inj (show some am_c1113 = some c from h)) ▸ am_q1113
  | 26, c, h => (Option.some.inj (show some am_c1114 = some c from h)) ▸ am_q1114
  | 27, c, h => (Option.some.inj (show some am_c1115 = some c from h)) ▸ am_q1115
  | 28, c, h => (Option.some.inj (show some am_c1116 = some c from h)) ▸ am_q1116
  | 29, c, h => (Option.some.inj (show some am_c1117 = some c from h)) ▸ am_q1117
  | 30, c, h => (Option.some.inj (show some am_c1118 = some c from h)) ▸ am_q1118
  | 31, c, h => (Option.some.inj (show some am_c1119 = some c from h)) ▸ am_q1119
  | k + 32, c, h => by
    rw [am_nthO_eq, List.getElem?_eq_none (show 32 ≤ k + 32 by omega)] at h
    simp at h
theorem am_ch35 : ∀ (k : Nat) (c : am_Ct), am_nthO am_cl35 k = some c → am_okC c = true ∧ ∃ w, am_chk am_K0 am_cs0 am_dirs0 am_ids0 am_dsr0 1000000 w c = true
  | 0, c, h => (Option.some.inj (show some am_c1120 = some c from h)) ▸ am_q1120
  | 1, c, h => (Option.some.inj (show some am_c1121 = some c from h)) ▸ am_q1121
  | 2, c, h => (Option.some.inj (show some am_c1122 = some c from h)) ▸ am_q1122
  | 3, c, h => (Option.some.inj (show some am_c1123 = some c from h)) ▸ am_q1123
  | 4, c, h => (Option.some.inj (show some am_c1124 = some c from h)) ▸ am_q1124
  | 5, c, h => (Option.some.inj (show some am_c1125 = some c from h)) ▸ am_q1125
  | 6, c, h => (Option.some.inj (show some am_c1126 = some c from h)) ▸ am_q1126
  | 7, c, h => (Option.some.inj (show some am_c1127 = some c from h)) ▸ am_q1127
  | 8, c, h => (Option.some.inj (show some am_c1128 = some c from h)) ▸ am_q1128
  | 9, c, h => (Option.some.inj (show some am_c1129 = some c from h)) ▸ am_q1129
  | 10, c, h => (Option.some.inj (show some am_c1130 = some c from h)) ▸ am_q1130
  | 11, c, h => (Option.some.inj (show some am_c1131 = some c from h)) ▸ am_q1131
  | 12, c, h => (Option.some.inj (show some am_c1132 = some c from h)) ▸ am_q1132
  | 13, c, h => (Option.some.inj (show some am_c1133 = some c from h)) ▸ am_q1133
  | 14, c, h => (Option.some.inj (show some am_c1134 = some c from h)) ▸ am_q1134
  | 15, c, h => (Option.some.inj (show some am_c1135 = some c from h)) ▸ am_q1135
  | 16, c, h => (Option.some.inj (show some am_c1136 = some c from h)) ▸ am_q1136
  | 17, c, h => (Option.some.inj (show some am_c1137 = some c from h)) ▸ am_q1137
  | 18, c, h => (Option.some.inj (show some am_c1138 = some c from h)) ▸ am_q1138
  | 19, c, h => (Option.some.inj (show some am_c1139 = some c from h)) ▸ am_q1139
  | 20, c, h => (Option.some.inj (show some am_c1140 = some c from h)) ▸ am_q1140
  | 21, c, h => (Option.some.inj (show some am_c1141 = some c from h)) ▸ am_q1141
  | 22, c, h => (Option.some.inj (show some am_c1142 = some c from h)) ▸ am_q1142
  | 23, c, h => (Option.some.inj (show some am_c1143 = some c from h)) ▸ am_q1143
  | 24, c, h => (Option.some.inj (show some am_c1144 = some c from h)) ▸ am_q1144
  | 25, c, h => (Option.some.inj (show some am_c1145 = some c from h)) ▸ am_q1145
  | 26, c, h => (Option.some.inj (show some am_c1146 = some c from h)) ▸ am_q1146
  | 27, c, h => (Option.some.inj (show some am_c1147 = some c from h)) ▸ am_q1147
  | 28, c, h => (Option.some.inj (show some am_c1148 = some c from h)) ▸ am_q1148
  | 29, c, h => (Option.some.inj (show some am_c1149 = some c from h)) ▸ am_q1149
  | 30, c, h => (Option.some.inj (show some am_c1150 = some c from h)) ▸ am_q1150
  | 31, c, h => (Option.some.inj (show some am_c1151 = some c from h)) ▸ am_q1151
  | k + 32, c, h => by
    rw [am_nthO_eq, List.getElem?_eq_none (show 32 ≤ k + 32 by omega)] at h
    simp at h
theorem am_ch36 : ∀ (k : Nat) (c : am_Ct), am_nthO am_cl36 k = some c → am_okC c = true ∧ ∃ w, am_chk am_K0 am_cs0 am_dirs0 am_ids0 am_dsr0 1000000 w c = true
  | 0, c, h => (Option.some.inj (show some am_c1152 = some c from h)) ▸ am_q1152
  | 1, c, h => (Option.some.inj (show some am_c1153 = some c from h)) ▸ am_q1153
  | 2, c, h => (Option.some.inj (show some am_c1154 = some c from h)) ▸ am_q1154
  | 3, c, h => (Option.some.inj (show some am_c1155 = some c from h)) ▸ am_q1155
  | 4, c, h => (Option.some.inj (show some am_c1156 = some c from h)) ▸ am_q1156
  | 5, c, h => (Option.some.inj (show some am_c1157 = some c from h)) ▸ am_q1157
  | 6, c, h => (Option.some.inj (show some am_c1158 = some c from h)) ▸ am_q1158
  | 7, c, h => (Option.some.inj (show some am_c1159 = some c from h)) ▸ am_q1159
  | 8, c, h => (Option.some.inj (show some am_c1160 = some c from h)) ▸ am_q1160
  | 9, c, h => (Option.some.inj (show some am_c1161 = some c from h)) ▸ am_q1161
  | 10, c, h => (Option.some.inj (show some am_c1162 = some c from h)) ▸ am_q1162
  | 11, c, h => (Option.some.inj (show some am_c1163 = some c from h)) ▸ am_q1163
  | 12, c, h => (Option.some.inj (show some am_c1164 = some c from h)) ▸ am_q1164
  | 13, c, h => (Option.some.inj (show some am_c1165 = some c from h)) ▸ am_q1165
  | 14, c, h => (Option.some.inj (show some am_c1166 = some c from h)) ▸ am_q1166
  | 15, c, h => (Option.some.inj (show some am_c1167 = some c from h)) ▸ am_q1167
  | 16, c, h => (Option.some.inj (show some am_c1168 = some c from h)) ▸ am_q1168
  | 17, c, h => (Option.some.inj (show some am_c1169 = some c from h)) ▸ am_q1169
  | 18, c, h => (Option.some.inj (show some am_c1170 = some c from h)) ▸ am_q1170
  | 19, c, h => (Option.some.inj (show some am_c1171 = some c from h)) ▸ am_q1171
  | 20, c, h => (Option.some.inj (show some am_c1172 = some c from h)) ▸ am_q1172
  | 21, c, h => (Option.some.inj (show some am_c1173 = some c from h)) ▸ am_q1173
  | 22, c, h => (Option.some.inj (show some am_c1174 = some c from h)) ▸ am_q1174
  | 23, c, h => (Option.some.inj (show some am_c1175 = some c from h)) ▸ am_q1175
  | 24, c, h => (Option.some.inj (show some am_c1176 = some c from h)) ▸ am_q1176
  | 25, c, h => (Option.some.inj (show some am_c1177 = some c from h)) ▸ am_q1177
  | 26, c, h => (Option.some.inj (show some am_c1178 = some c from h)) ▸ am_q1178
  | 27, c, h => (Option.some.inj (show some am_c1179 = some c from h)) ▸ am_q1179
  | 28, c, h => (Option.some.inj (show some am_c1180 = some c from h)) ▸ am_q1180
  | 29, c, h => (Option.some.inj (show some am_c1181 = some c from h)) ▸ am_q1181
  | 30, c, h => (Option.some.inj (show some am_c1182 = some c from h)) ▸ am_q1182
  | 31, c, h => (Option.some.inj (show some am_c1183 = some c from h)) ▸ am_q1183
  | k + 32, c, h => by
    rw [am_nthO_eq, List.getElem?_eq_none (show 32 ≤ k + 32 by omega)] at h
    simp at h
theorem am_ch37 : ∀ (k : Nat) (c : am_Ct), am_nthO am_cl37 k = some c → am_okC c = true ∧ ∃ w, am_chk am_K0 am_cs0 am_dirs0 am_ids0 am_dsr0 1000000 w c = true
  | 0, c, h => (Option.some.inj (show some am_c1184 = some c from h)) ▸ am_q1184
  | 1, c, h => (Option.some.inj (show some am_c1185 = some c from h)) ▸ am_q1185
  | 2, c, h => (Option.some.inj (show some am_c1186 = some c from h)) ▸ am_q1186
  | 3, c, h => (Option.some.inj (show some am_c1187 = some c from h)) ▸ am_q1187
  | 4, c, h => (Option.some.inj (show some am_c1188 = some c from h)) ▸ am_q1188
  | 5, c, h => (Option.some.inj (show some am_c1189 = some c from h)) ▸ am_q1189
  | 6, c, h => (Option.some.inj (show some am_c1190 = some c from h)) ▸ am_q1190
  | 7, c, h => (Option.some.inj (show some am_c1191 = some c from h)) ▸ am_q1191
  | 8, c, h => (Option.some.inj (show some am_c1192 = some c from h)) ▸ am_q1192
  | 9, c, h => (Option.some.inj (show some am_c1193 = some c from h)) ▸ am_q1193
  | 10, c, h => (Option.some.inj (show some am_c1194 = some c from h)) ▸ am_q1194
  | 11, c, h => (Option.some.inj (show some am_c1195 = some c from h)) ▸ am_q1195
  | 12, c, h => (Option.some.inj (show some am_c1196 = some c from h)) ▸ am_q1196
  | 13, c, h => (Option.some.inj (show some am_c1197 = some c from h)) ▸ am_q1197
  | 14, c, h => (Option.some.inj (show some am_c1198 = some c from h)) ▸ am_q1198
  | 15, c, h => (Option.some.inj (show some am_c1199 = some c from h)) ▸ am_q1199
  | 16, c, h => (Option.some.inj (show some am_c1200 = some c from h)) ▸ am_q1200
  | 17, c, h => (Option.some.inj (show some am_c1201 = some c from h)) ▸ am_q1201
  | 18, c, h => (Option.some.inj (show some am_c1202 = some c from h)) ▸ am_q1202
  | 19, c, h => (Option.some.inj (show some am_c1203 = some c from h)) ▸ am_q1203
  | 20, c, h => (Option.some.inj (show some am_c1204 = some c from h)) ▸ am_q1204
  | 21, c, h => (Option.some.inj (show some am_c1205 = some c from h)) ▸ am_q1205
  | 22, c, h => (Option.some.inj (show some am_c1206 = some c from h)) ▸ am_q1206
  | 23, c, h => (Option.some.inj (show some am_c1207 = some c from h)) ▸ am_q1207
  | 24, c, h => (Option.some.inj (show some am_c1208 = some c from h)) ▸ am_q1208
  | 25, c, h => (Option.some.inj (show some am_c1209 = some c from h)) ▸ am_q1209
  | 26, c, h => (Option.some.inj (show some am_c1210 = some c from h)) ▸ am_q1210
  | 27, c, h => (Option.some.inj (show some am_c1211 = some c from h)) ▸ am_q1211
  | 28, c, h => (Option.some.inj (show some am_c1212 = some c from h)) ▸ am_q1212
  | 29, c, h => (Option.some.inj (show some am_c1213 = some c from h)) ▸ am_q1213
  | 30, c, h => (Option.some.inj (show some am_c1214 = some c from h)) ▸ am_q1214
  | 31, c, h => (Option.some.inj (show some am_c1215 = some c from h)) ▸ am_q1215
  | k + 32, c, h => by
    rw [am_nthO_eq, List.getElem?_eq_none (show 32 ≤ k + 32 by omega)] at h
    simp at h
theorem am_ch38 : ∀ (k : Nat) (c : am_Ct), am_nthO am_cl38 k = some c → am_okC c = true ∧ ∃ w, am_chk am_K0 am_cs0 am_dirs0 am_ids0 am_dsr0 1000000 w c = true
  | 0, c, h => (Option.some.inj (show some am_c1216 = some c from h)) ▸ am_q1216
  | 1, c, h => (Option.some.inj (show some am_c1217 = some c from h)) ▸ am_q1217
  | 2, c, h => (Option.some.inj (show some am_c1218 = some c from h)) ▸ am_q1218
  | 3, c, h => (Option.some.inj (show some am_c1219 = some c from h)) ▸ am_q1219
  | 4, c, h => (Option.some.inj (show some am_c1220 = some c from h)) ▸ am_q1220
  | 5, c, h => (Option.some.inj (show some am_c1221 = some c from h)) ▸ am_q1221
  | 6, c, h => (Option.some.inj (show some am_c1222 = some c from h)) ▸ am_q1222
  | 7, c, h => (Option.some.inj (show some am_c1223 = some c from h)) ▸ am_q1223
  | 8, c, h => (Option.some.inj (show some am_c1224 = some c from h)) ▸ am_q1224
  | 9, c, h => (Option.some.inj (show some am_c1225 = some c from h)) ▸ am_q1225
  | 10, c, h => (Option.some.inj (show some am_c1226 = some c from h)) ▸ am_q1226
  | 11, c, h => (Option.some.inj (show some am_c1227 = some c from h)) ▸ am_q1227
  | 12, c, h => (Option.some.inj (show some am_c1228 = some c from h)) ▸ am_q1228
  | 13, c, h => (Option.some.inj (show some am_c1229 = some c from h)) ▸ am_q1229
  | 14, c, h => (Option.some.inj (show some am_c1230 = some c from h)) ▸ am_q1230
  | 15, c, h => (Option.some.inj (show some am_c1231 = some c from h)) ▸ am_q1231
  | 16, c, h => (Option.some.inj (show some am_c1232 = some c from h)) ▸ am_q1232
  | 17, c, h => (Option.some.inj (show some am_c1233 = some c from h)) ▸ am_q1233
  | 18, c, h => (Option.some.inj (show some am_c1234 = some c from h)) ▸ am_q1234
  | 19, c, h => (Option.some.inj (show some am_c1235 = some c from h)) ▸ am_q1235
  | 20, c, h => (Option.some.inj (show some am_c1236 = some c from h)) ▸ am_q1236
  | 21, c, h => (Option.some.inj (show some am_c1237 = some c from h)) ▸ am_q1237
  | 22, c, h => (Option.some.inj (show some am_c1238 = some c from h)) ▸ am_q1238
  | 23, c, h => (Option.some.inj (show some am_c1239 = some c from h)) ▸ am_q1239
  | 24, c, h => (Option.some.inj (show some am_c1240 = some c from h)) ▸ am_q1240
  | 25, c, h => (Option.some.inj (show some am_c1241 = some c from h)) ▸ am_q1241
  | 26, c, h => (Option.some.inj (show some am_c1242 = some c from h)) ▸ am_q1242
  | 27, c, h => (Option.some.inj (show some am_c1243 = some c from h)) ▸ am_q1243
  | 28, c, h => (Option.some.inj (show some am_c1244 = some c from h)) ▸ am_q1244
  | 29, c, h => (Option.some.inj (show some am_c1245 = some c from h)) ▸ am_q1245
  | 30, c, h => (Option.some.inj (show some am_c1246 = some c from h)) ▸ am_q1246
  | 31, c, h => (Option.some.inj (show some am_c1247 = some c from h)) ▸ am_q1247
  | k + 32, c, h => by
    rw [am_nthO_eq, List.getElem?_eq_none (show 32 ≤ k + 32 by omega)] at h
    simp at h
theorem am_ch39 : ∀ (k : Nat) (c : am_Ct), am_nthO am_cl39 k = some c → am_okC c = true ∧ ∃ w, am_chk am_K0 am_cs0 am_dirs0 am_ids0 am_dsr0 1000000 w c = true
  | 0, c, h => (Option.some.inj (show some am_c1248 = some c from h)) ▸ am_q1248
  | 1, c, h => (Option.some.inj (show some am_c1249 = some c from h)) ▸ am_q1249
  | 2, c, h => (Option.some.inj (show some am_c1250 = some c from h)) ▸ am_q1250
  | 3, c, h => (Option.some.inj (show some am_c1251 = some c from h)) ▸ am_q1251
  | 4, c, h => (Option.some.inj (show some am_c1252 = some c from h)) ▸ am_q1252
  | 5, c, h => (Option.some.inj (show some am_c1253 = some c from h)) ▸ am_q1253
  | 6, c, h => (Option.some.inj (show some am_c1254 = some c from h)) ▸ am_q1254
  | 7, c, h => (Option.some.inj (show some am_c1255 = some c from h)) ▸ am_q1255
  | 8, c, h => (Option.some.inj (show some am_c1256 = some c from h)) ▸ am_q1256
  | 9, c, h => (Option.some.inj (show some am_c1257 = some c from h)) ▸ am_q1257
  | 10, c, h => (Option.some.inj (show some am_c1258 = some c from h)) ▸ am_q1258
  | 11, c, h => (Option.some.inj (show some am_c1259 = some c from h)) ▸ am_q1259
  | 12, c, h => (Option.some.inj (show some am_c1260 = some c from h)) ▸ am_q1260
  | 13, c, h => (Option.some.inj (show some am_c1261 = some c from h)) ▸ am_q1261
  | 14, c, h => (Option.some.inj (show some am_c1262 = some c from h)) ▸ am_q1262
  | 15, c, h => (Option.some.inj (show some am_c1263 = some c from h)) ▸ am_q1263
  | 16, c, h => (Option.some.inj (show some am_c1264 = some c from h)) ▸ am_q1264
  | 17, c, h => (Option.some.inj (show some am_c1265 = some c from h)) ▸ am_q1265
  | 18, c, h => (Option.some.inj (show some am_c1266 = some c from h)) ▸ am_q1266
  | 19, c, h => (Option.some.inj (show some am_c1267 = some c from h)) ▸ am_q1267
  | 20, c, h => (Option.some.inj (show some am_c1268 = some c from h)) ▸ am_q1268
  | 21, c, h => (Option.some.inj (show some am_c1269 = some c from h)) ▸ am_q1269
  | 22, c, h => (Option.some.inj (show some am_c1270 = some c from h)) ▸ am_q1270
  | 23, c, h => (Option.some.inj (show some am_c1271 = some c from h)) ▸ am_q1271
  | 24, c, h => (Option.some.inj (show some am_c1272 = some c from h)) ▸ am_q1272
  | 25, c, h => (Option.some.inj (show some am_c1273 = some c from h)) ▸ am_q1273
  | 26, c, h => (Option.some.inj (show some am_c1274 = some c from h)) ▸ am_q1274
  | 27, c, h => (Option.some.inj (show some am_c1275 = some c from h)) ▸ am_q1275
  | 28, c, h => (Option.some.inj (show some am_c1276 = some c from h)) ▸ am_q1276
  | 29, c, h => (Option.some.inj (show some am_c1277 = some c from h)) ▸ am_q1277
  | 30, c, h => (Option.some.inj (show some am_c1278 = some c from h)) ▸ am_q1278
  | 31, c, h => (Option.some.inj (show some am_c1279 = some c from h)) ▸ am_q1279
  | k + 32, c, h => by
    rw [am_nthO_eq, List.getElem?_eq_none (show 32 ≤ k + 32 by omega)] at h
    simp at h
theorem am_ch40 : ∀ (k : Nat) (c : am_Ct), am_nthO am_cl40 k = some c → am_okC c = true ∧ ∃ w, am_chk am_K0 am_cs0 am_dirs0 am_ids0 am_dsr0 1000000 w c = true
  | 0, c, h => (Option.some.inj (show some am_c1280 = some c from h)) ▸ am_q1280
  | 1, c, h => (Option.some.inj (show some am_c1281 = some c from h)) ▸ am_q1281
  | 2, c, h => (Option.some.inj (show some am_c1282 = some c from h)) ▸ am_q1282
  | 3, c, h => (Option.some.inj (show some am_c1283 = some c from h)) ▸ am_q1283
  | k + 4, c, h => by
    rw [am_nthO_eq, List.getElem?_eq_none (show 4 ≤ k + 4 by omega)] at h
    simp at h
theorem am_hall : ∀ (i : Nat) (c : am_Ct), am_ctAt am_cs0 i = some c → am_okC c = true ∧ ∃ w, am_chk am_K0 am_cs0 am_dirs0 am_ids0 am_dsr0 1000000 w c = true := by
  intro i c h
  unfold am_ctAt at h
  generalize i / 32 = q at h
  match q, h with
  | 0, h => exact am_ch0 _ c h
  | 1, h => exact am_ch1 _ c h
  | 2, h => exact am_ch2 _ c h
  | 3, h => exact am_ch3 _ c h
  | 4, h => exact am_ch4 _ c h
  | 5, h => exact am_ch5 _ c h
  | 6, h => exact am_ch6 _ c h
  | 7, h => exact am_ch7 _ c h
  | 8, h => exact am_ch8 _ c h
  | 9, h => exact am_ch9 _ c h
  | 10, h => exact am_ch10 _ c h
  | 11, h => exact am_ch11 _ c h
  | 12, h => exact am_ch12 _ c h
  | 13, h => exact am_ch13 _ c h
  | 14, h => exact am_ch14 _ c h
  | 15, h => exact am_ch15 _ c h
  | 16, h => exact am_ch16 _ c h
  | 17, h => exact am_ch17 _ c h
  | 18, h => exact am_ch18 _ c h
  | 19, h => exact am_ch19 _ c h
  | 20, h => exact am_ch20 _ c h
  | 21, h => exact am_ch21 _ c h
  | 22, h => exact am_ch22 _ c h
  | 23, h => exact am_ch23 _ c h
  | 24, h => exact am_ch24 _ c h
  | 25, h => exact am_ch25 _ c h
  | 26, h => exact am_ch26 _ c h
  | 27, h => exact am_ch27 _ c h
  | 28, h => exact am_ch28 _ c h
  | 29, h => exact am_ch29 _ c h
  | 30, h => exact am_ch30 _ c h
  | 31, h => exact am_ch31 _ c h
  | 32, h => exact am_ch32 _ c h
  | 33, h => exact am_ch33 _ c h
  | 34, h => exact am_ch34 _ c h
  | 35, h => exact am_ch35 _ c h
  | 36, h => exact am_ch36 _ c h
  | 37, h => exact am_ch37 _ c h
  | 38, h => exact am_ch38 _ c h
  | 39, h => exact am_ch39 _ c h
  | 40, h => exact am_ch40 _ c h
  | q + 41, h =>
    rw [am_nthO_eq, List.getElem?_eq_none (show 41 ≤ q + 41 by omega)] at h
    simp at h
