/-! the world behind both constructors holds what is asked of it -/
def Zr (h : AH) : Prop := ∀ k j, h.L k j = 0
theorem Zr_push {h : AH} {s : Shp} {z : Nat} (q : Zr h) : Zr (h.push s z) := fun k j => by
  show va_up h.L h.n (fun _ => 0) k j = 0
  by_cases e : k = h.n
  · rw [e, va_up_self]
  · rw [va_up_ne _ _ e]; exact q k j
theorem Zr_sI {h : AH} {a b : Nat} {x : Int32} (q : Zr h) : Zr (h.sI a b x) := q
theorem Zr_sP {h : AH} {a b : Nat} {x : Option Nat} (q : Zr h) : Zr (h.sP a b x) := q
theorem Zr_sL {h : AH} {a b : Nat} (q : Zr h) : Zr (h.sL a b 0) := fun k j => by
  by_cases e : k = a
  · subst e
    rw [AH.sL_L]
    by_cases y : j = b
    · rw [y, va_up_self]
    · rw [va_up_ne _ _ y]; exact q k j
  · rw [sL_n e]; exact q k j
theorem hz_0 : Zr hc_0 := fun _ _ => rfl
theorem hz_1 : Zr hc_1 := Zr_push hz_0
theorem hz_2 : Zr hc_2 := Zr_push hz_1
theorem hz_3 : Zr hc_3 := Zr_push hz_2
theorem hz_4 : Zr hc_4 := Zr_sP hz_3
theorem hz_5 : Zr hc_5 := Zr_push hz_4
theorem hz_6 : Zr hc_6 := Zr_sP hz_5
theorem hz_7 : Zr hc_7 := Zr_push hz_6
theorem hz_8 : Zr hc_8 := Zr_push hz_7
theorem hz_9 : Zr hc_9 := Zr_sP hz_8
theorem hz_10 : Zr hc_10 := Zr_sI hz_9
theorem hz_11 : Zr hc_11 := Zr_sP hz_10
theorem hz_12 : Zr hc_12 := Zr_sI hz_11
theorem hz_13 : Zr hc_13 := Zr_sI hz_12
theorem hz_14 : Zr hc_14 := Zr_sL hz_13
theorem hz_15 : Zr hc_15 := Zr_sL hz_14
theorem hz_16 : Zr hc_16 := Zr_sL hz_15
theorem hz_17 : Zr hc_17 := Zr_sL hz_16
theorem hz_18 : Zr hc_18 := Zr_sL hz_17
theorem hz_19 : Zr hc_19 := Zr_sL hz_18
theorem hz_20 : Zr hc_20 := Zr_sP hz_19
theorem hz_21 : Zr hc_21 := Zr_push hz_20
theorem hz_22 : Zr hc_22 := Zr_push hz_21
theorem hz_23 : Zr hc_23 := Zr_sP hz_22
theorem hz_24 : Zr hc_24 := Zr_push hz_23
theorem hz_25 : Zr hc_25 := Zr_sP hz_24
theorem hz_26 : Zr hc_26 := Zr_push hz_25
theorem hz_27 : Zr hc_27 := Zr_push hz_26
theorem hz_28 : Zr hc_28 := Zr_sP hz_27
theorem hz_29 : Zr hc_29 := Zr_sI hz_28
theorem hz_30 : Zr hc_30 := Zr_sP hz_29
theorem hz_31 : Zr hc_31 := Zr_sI hz_30
theorem hz_32 : Zr hc_32 := Zr_sI hz_31
theorem hz_33 : Zr hc_33 := Zr_sL hz_32
theorem hz_34 : Zr hc_34 := Zr_sL hz_33
theorem hz_35 : Zr hc_35 := Zr_sL hz_34
theorem hz_36 : Zr hc_36 := Zr_sL hz_35
theorem hz_37 : Zr hc_37 := Zr_sL hz_36
theorem hz_38 : Zr hc_38 := Zr_sL hz_37
theorem hz_39 : Zr hc_39 := Zr_sP hz_38
theorem hz_40 : Zr hc_40 := Zr_sI hz_39
theorem hz_41 : Zr hc_41 := Zr_push hz_40
theorem hz_42 : Zr hc_42 := Zr_push hz_41
theorem hz_43 : Zr hc_43 := Zr_sP hz_42
theorem hz_44 : Zr hc_44 := Zr_push hz_43
theorem hz_45 : Zr hc_45 := Zr_sP hz_44
theorem hz_46 : Zr hc_46 := Zr_push hz_45
theorem hz_47 : Zr hc_47 := Zr_sP hz_46
theorem hz_48 : Zr hc_48 := Zr_push hz_47
theorem hz_49 : Zr hc_49 := Zr_sP hz_48
theorem hz_50 : Zr hc_50 := Zr_push hz_49
theorem hz_51 : Zr hc_51 := Zr_sP hz_50
theorem hz_52 : Zr hc_52 := Zr_push hz_51
theorem hz_53 : Zr hc_53 := Zr_sP hz_52
theorem hz_54 : Zr hc_54 := Zr_push hz_53
theorem hz_55 : Zr hc_55 := Zr_sP hz_54
theorem hz_56 : Zr hc_56 := Zr_push hz_55
theorem hz_57 : Zr hc_57 := Zr_sP hz_56
theorem hz_58 : Zr hc_58 := Zr_sI hz_57
theorem hz_59 : Zr hc_59 := Zr_sP hz_58
theorem hz_60 : Zr hc_60 := Zr_push hz_59
theorem hz_61 : Zr hc_61 := Zr_push hz_60
theorem hz_62 : Zr hc_62 := Zr_sP hz_61
theorem hz_63 : Zr hc_63 := Zr_sI hz_62
theorem hz_64 : Zr hc_64 := Zr_sI hz_63
theorem hz_65 : Zr hc_65 := Zr_sP hz_64
theorem hz_66 : Zr hc_66 := Zr_push hz_65
theorem hz_67 : Zr hc_67 := Zr_push hz_66
theorem hz_68 : Zr hc_68 := Zr_sP hz_67
theorem hz_69 : Zr hc_69 := Zr_sI hz_68
theorem hz_70 : Zr hc_70 := Zr_sI hz_69
theorem hz_71 : Zr hc_71 := Zr_sI hz_70
theorem hz_72 : Zr hc_72 := Zr_sP hz_71
theorem hz_73 : Zr hc_73 := Zr_push hz_72
theorem hz_74 : Zr hc_74 := Zr_push hz_73
theorem hz_75 : Zr hc_75 := Zr_sP hz_74
theorem hz_76 : Zr hc_76 := Zr_push hz_75
theorem hz_77 : Zr hc_77 := Zr_sP hz_76
theorem hz_78 : Zr hc_78 := Zr_push hz_77
theorem hz_79 : Zr hc_79 := Zr_sP hz_78
theorem hz_80 : Zr hc_80 := Zr_push hz_79
theorem hz_81 : Zr hc_81 := Zr_sP hz_80
theorem hz_82 : Zr hc_82 := Zr_sI hz_81
theorem hz_83 : Zr hc_83 := Zr_sP hz_82
theorem hz_84 : Zr hc_84 := Zr_push hz_83
theorem hz_85 : Zr hc_85 := Zr_push hz_84
theorem hz_86 : Zr hc_86 := Zr_sP hz_85
theorem hz_87 : Zr hc_87 := Zr_push hz_86
theorem hz_88 : Zr hc_88 := Zr_sP hz_87
theorem hz_89 : Zr hc_89 := Zr_push hz_88
theorem hz_90 : Zr hc_90 := Zr_sP hz_89
theorem hz_91 : Zr hc_91 := Zr_push hz_90
theorem hz_92 : Zr hc_92 := Zr_sP hz_91
theorem hz_93 : Zr hc_93 := Zr_push hz_92
theorem hz_94 : Zr hc_94 := Zr_sP hz_93
theorem hz_95 : Zr hc_95 := Zr_push hz_94
theorem hz_96 : Zr hc_96 := Zr_sP hz_95
theorem hz_97 : Zr hc_97 := Zr_sP hz_96
theorem hz_98 : Zr hc_98 := Zr_push hz_97
theorem hz_99 : Zr hc_99 := Zr_push hz_98
theorem hz_100 : Zr hc_100 := Zr_sP hz_99
theorem hz_101 : Zr hc_101 := Zr_sI hz_100
theorem hz_102 : Zr hc_102 := Zr_sP hz_101
theorem hz_103 : Zr hc_103 := Zr_push hz_102
theorem hz_104 : Zr hc_104 := Zr_sP hz_103
theorem hz_105 : Zr hc_105 := Zr_push hz_104
theorem hz_106 : Zr hc_106 := Zr_sP hz_105
theorem hz_107 : Zr hc_107 := Zr_push hz_106
theorem hz_108 : Zr hc_108 := Zr_push hz_107
theorem hz_109 : Zr hc_109 := Zr_sP hz_108
theorem hz_110 : Zr hc_110 := Zr_sI hz_109
theorem hz_111 : Zr hc_111 := Zr_sI hz_110
theorem hz_112 : Zr hc_112 := Zr_sI hz_111
theorem hz_113 : Zr hc_113 := Zr_sP hz_112
theorem hz_114 : Zr hc_114 := Zr_push hz_113
theorem hz_115 : Zr hc_115 := Zr_push hz_114
theorem hz_116 : Zr hc_116 := Zr_sP hz_115
theorem hz_117 : Zr hc_117 := Zr_sI hz_116
theorem hz_118 : Zr hc_118 := Zr_sI hz_117
theorem hz_119 : Zr hc_119 := Zr_sI hz_118
theorem hz_120 : Zr hc_120 := Zr_sP hz_119
theorem hz_121 : Zr hc_121 := Zr_push hz_120
theorem hz_122 : Zr hc_122 := Zr_push hz_121
theorem hz_123 : Zr hc_123 := Zr_sP hz_122
theorem hz_124 : Zr hc_124 := Zr_sI hz_123
theorem hz_125 : Zr hc_125 := Zr_sI hz_124
theorem hz_126 : Zr hc_126 := Zr_sI hz_125
theorem hz_127 : Zr hc_127 := Zr_sP hz_126
theorem hz_128 : Zr hc_128 := Zr_push hz_127
theorem hz_129 : Zr hc_129 := Zr_push hz_128
theorem hz_130 : Zr hc_130 := Zr_sP hz_129
theorem hz_131 : Zr hc_131 := Zr_sI hz_130
theorem hz_132 : Zr hc_132 := Zr_sI hz_131
theorem hz_133 : Zr hc_133 := Zr_sI hz_132
theorem hz_134 : Zr hc_134 := Zr_sP hz_133
theorem hz_135 : Zr hc_135 := Zr_push hz_134
theorem hz_136 : Zr hc_136 := Zr_push hz_135
theorem hz_137 : Zr hc_137 := Zr_sP hz_136
theorem hz_138 : Zr hc_138 := Zr_sI hz_137
theorem hz_139 : Zr hc_139 := Zr_sI hz_138
theorem hz_140 : Zr hc_140 := Zr_sI hz_139
theorem hz_141 : Zr hc_141 := Zr_sP hz_140
theorem hz_142 : Zr hc_142 := Zr_push hz_141
theorem hz_143 : Zr hc_143 := Zr_push hz_142
theorem hz_144 : Zr hc_144 := Zr_sP hz_143
theorem hz_145 : Zr hc_145 := Zr_sI hz_144
theorem hz_146 : Zr hc_146 := Zr_sI hz_145
theorem hz_147 : Zr hc_147 := Zr_sI hz_146
theorem hz_148 : Zr hc_148 := Zr_sP hz_147
theorem hz_149 : Zr hc_149 := Zr_push hz_148
theorem hz_150 : Zr hc_150 := Zr_push hz_149
theorem hz_151 : Zr hc_151 := Zr_sP hz_150
theorem hz_152 : Zr hc_152 := Zr_push hz_151
theorem hz_153 : Zr hc_153 := Zr_sP hz_152
theorem hz_154 : Zr hc_154 := Zr_push hz_153
theorem hz_155 : Zr hc_155 := Zr_sP hz_154
theorem hz_156 : Zr hc_156 := Zr_push hz_155
theorem hz_157 : Zr hc_157 := Zr_sP hz_156
theorem hz_158 : Zr hc_158 := Zr_push hz_157
theorem hz_159 : Zr hc_159 := Zr_sP hz_158
theorem hz_160 : Zr hc_160 := Zr_push hz_159
theorem hz_161 : Zr hc_161 := Zr_sP hz_160
theorem hz_162 : Zr hc_162 := Zr_push hz_161
theorem hz_163 : Zr hc_163 := Zr_sP hz_162
theorem hz_164 : Zr hc_164 := Zr_push hz_163
theorem hz_165 : Zr hc_165 := Zr_sP hz_164
theorem hz_166 : Zr hc_166 := Zr_push hz_165
theorem hz_167 : Zr hc_167 := Zr_sP hz_166
theorem hz_168 : Zr hc_168 := Zr_push hz_167
theorem hz_169 : Zr hc_169 := Zr_sP hz_168
theorem hz_170 : Zr hc_170 := Zr_push hz_169
theorem hz_171 : Zr hc_171 := Zr_sP hz_170
theorem hz_172 : Zr hc_172 := Zr_push hz_171
theorem hz_173 : Zr hc_173 := Zr_sP hz_172
theorem hz_174 : Zr hc_174 := Zr_push hz_173
theorem hz_175 : Zr hc_175 := Zr_sP hz_174
theorem hz_176 : Zr hc_176 := Zr_push hz_175
theorem hz_177 : Zr hc_177 := Zr_sP hz_176
theorem hz_178 : Zr hc_178 := Zr_push hz_177
theorem hz_179 : Zr hc_179 := Zr_sP hz_178
theorem hz_180 : Zr hc_180 := Zr_push hz_179
theorem hz_181 : Zr hc_181 := Zr_sI hz_180
theorem hz_182 : Zr hc_182 := Zr_sI hz_181
theorem hz_183 : Zr hc_183 := Zr_sI hz_182
theorem hz_184 : Zr hc_184 := Zr_sI hz_183
theorem hz_185 : Zr hc_185 := Zr_sI hz_184
theorem hz_186 : Zr hc_186 := Zr_sI hz_185
theorem hz_187 : Zr hc_187 := Zr_sP hz_186
theorem hz_188 : Zr hc_188 := Zr_push hz_187
theorem hz_189 : Zr hc_189 := Zr_sP hz_188
theorem hz_190 : Zr hc_190 := Zr_sI hz_189
theorem zero_fn (k : Nat) : hc_190.L k = fun _ => 0 := funext (fun j => hz_190 k j)
theorem in_n : hc_190.n = 71 := by decide +kernel
theorem in_u : hc_190.u ≤ 100256 := by decide +kernel
theorem in_sh : ∀ k, k < 71 → (shT k).isSome = true → hc_190.sh k = shT k := by decide +kernel
theorem rfT_lt {a k : Nat} (h : rfT a k ≠ 0) : a < 71 ∧ k < 40 := by
  revert h
  unfold rfT
  split <;> intro h <;> first | exact ⟨by decide, by decide⟩ | exact absurd rfl h
theorem in_P : ∀ a, a < 71 → ∀ k, k < 40 → rfT a k ≠ 0 → hc_190.P a k = some (rfT a k) := by decide +kernel
theorem in_wf : zWF hc_190 := ⟨by rw [in_n]; exact Nat.le_refl _, in_sh, fun a k h => in_P a (rfT_lt h).1 k (rfT_lt h).2 h⟩
theorem in_I : hc_190.I 2 3 = nI 0 ∧ hc_190.I 2 4 = nI 1 ∧ hc_190.I 5 1 = nI 0 ∧ hc_190.I 54 5 = nI 0 ∧ hc_190.I 54 0 = nI 1 ∧ hc_190.I 54 1 = nI 0 ∧ hc_190.I 54 2 = nI 0 ∧ hc_190.I 54 3 = nI 0 ∧ hc_190.I 54 4 = nI 0 ∧ hc_190.I 54 6 = nI 0 ∧ hc_190.I 1 2 = nI 0 ∧ hc_190.I 53 10 = nI 0 ∧ hc_190.I 12 8 = nI 0 ∧ hc_190.I 23 1 = nI 0 ∧ hc_190.I 53 19 = nI 0 ∧ hc_190.I 37 1 = nI 0 ∧ hc_190.I 53 25 = nI 0 := by decide +kernel
theorem in_38 : ∀ i, i < 128 → hc_190.I 38 i = nI 0 := by decide +kernel
theorem in_ls : ∀ l, l < 6 → hc_190.P 39 l = some (41 + 2 * l) ∧ hc_190.I (41 + 2 * l) 0 = bI (decide (l < 4)) ∧ hc_190.I (41 + 2 * l) 2 = nI 0 ∧ hc_190.I (41 + 2 * l) 3 = nI 0 ∧ hc_190.I 69 l = -1 := by decide +kernel
theorem in_pap : hc_190.P 37 0 = some 38 ∧ hc_190.sh 38 = some (.inr (2, 128)) := by decide +kernel
def s00 : NS := (fun _ => 0, fun _ => 0, 0, 1, 0, 0, 0, 0, 0)
theorem GF_00 : GF (fun _ => 0) := ⟨fun _ _ => by rw [gb_0, gb_0], fun _ => gb_0 _, fun _ _ h => by rw [gb_0] at h; cases h⟩
theorem isE_00 (e : Nat) : isE (fun _ => 0) e = false := by unfold isE; rw [gb_0, Bool.and_false]
theorem ecn_00 : ecn (fun _ => 0) = 0 := fb_ct_zero.mpr (fun k _ => isE_00 k)
def en0 : Nat → Ent := fun _ => (0, 0, false, 0)
theorem in_net : NET 0 hc_190 := by
  obtain ⟨i1, i2, i3, i4, i5, i6, i7, i8, i9, i10, _⟩ := in_I
  refine ⟨s00, 0, en0, ⟨⟨zero_fn 3, fun u v _ _ h => ?_, i1, i2, hz_190 2 5, hz_190 2 6, hz_190 2 7, hz_190 2 8, hz_190 2 9⟩, i3, Nat.zero_le _, fun i hi => absurd hi (Nat.not_lt_zero _)⟩, ⟨⟨zero_fn 58, fun u v _ _ h => ?_, i4, i5, hz_190 53 6, i6, i7, i8, i9⟩, i10, Nat.zero_le _, fun i hi => absurd hi (Nat.not_lt_zero _)⟩, ⟨GF_00, ?_, Nat.le_refl _, by decide, fun e => ⟨(show (-2000000 : Int) ≤ (0 : Int32).toInt by decide), (show (0 : Int32).toInt ≤ 2000000 by decide)⟩⟩, ?_, Nat.zero_le _, Nat.zero_le _, Nat.zero_le _, Nat.zero_le _⟩
  · rw [show s00.f u = 0 from rfl, gb_0] at h; cases h
  · rw [show s00.f u = 0 from rfl, gb_0] at h; cases h
  · exact ecn_00.symm
  · trivial
