/-! the world behind the constructor holds what is asked of it -/
def Zr (h : AH) : Prop := ∀ k j, h.L k j = 0
theorem Zr_push {h : AH} {s : Shp} {z : Nat} (q : Zr h) : Zr (h.push s z) := fun k j => by
  show va_up h.L h.n (fun _ => 0) k j = 0
  by_cases e : k = h.n
  · rw [e, va_up_self]
  · rw [va_up_ne _ _ e]; exact q k j
theorem Zr_sI {h : AH} {a b : Nat} {x : Int32} (q : Zr h) : Zr (h.sI a b x) := q
theorem Zr_sP {h : AH} {a b : Nat} {x : Option Nat} (q : Zr h) : Zr (h.sP a b x) := q
theorem Zr_sL {h : AH} {a b : Nat} (q : Zr h) : Zr (h.sL a b 0) := fun k j => by
  show va_up h.L a (va_up (h.L a) b 0) k j = 0
  by_cases e : k = a
  · subst e
    rw [va_up_self]
    by_cases y : j = b
    · rw [y, va_up_self]
    · rw [va_up_ne _ _ y]; exact q k j
  · rw [va_up_ne _ _ e]; exact q k j
theorem hz_0 : Zr hc_0 := fun _ _ => rfl
theorem hz_1 : Zr hc_1 := Zr_push hz_0
theorem hz_2 : Zr hc_2 := Zr_push hz_1
theorem hz_3 : Zr hc_3 := Zr_push hz_2
theorem hz_4 : Zr hc_4 := Zr_sP hz_3
theorem hz_5 : Zr hc_5 := Zr_push hz_4
theorem hz_6 : Zr hc_6 := Zr_sP hz_5
theorem hz_7 : Zr hc_7 := Zr_push hz_6
theorem hz_8 : Zr hc_8 := Zr_push hz_7
theorem hz_9 : Zr hc_9 := Zr_sP hz_8
theorem hz_10 : Zr hc_10 := Zr_sI hz_9
theorem hz_11 : Zr hc_11 := Zr_sP hz_10
theorem hz_12 : Zr hc_12 := Zr_sI hz_11
theorem hz_13 : Zr hc_13 := Zr_sI hz_12
theorem hz_14 : Zr hc_14 := Zr_sL hz_13
theorem hz_15 : Zr hc_15 := Zr_sL hz_14
theorem hz_16 : Zr hc_16 := Zr_sL hz_15
theorem hz_17 : Zr hc_17 := Zr_sL hz_16
theorem hz_18 : Zr hc_18 := Zr_sL hz_17
theorem hz_19 : Zr hc_19 := Zr_sL hz_18
theorem hz_20 : Zr hc_20 := Zr_sP hz_19
theorem hz_21 : Zr hc_21 := Zr_push hz_20
theorem hz_22 : Zr hc_22 := Zr_push hz_21
theorem hz_23 : Zr hc_23 := Zr_sP hz_22
theorem hz_24 : Zr hc_24 := Zr_push hz_23
theorem hz_25 : Zr hc_25 := Zr_sP hz_24
theorem hz_26 : Zr hc_26 := Zr_push hz_25
theorem hz_27 : Zr hc_27 := Zr_push hz_26
theorem hz_28 : Zr hc_28 := Zr_sP hz_27
theorem hz_29 : Zr hc_29 := Zr_sI hz_28
theorem hz_30 : Zr hc_30 := Zr_sP hz_29
theorem hz_31 : Zr hc_31 := Zr_sI hz_30
theorem hz_32 : Zr hc_32 := Zr_sI hz_31
theorem hz_33 : Zr hc_33 := Zr_sL hz_32
theorem hz_34 : Zr hc_34 := Zr_sL hz_33
theorem hz_35 : Zr hc_35 := Zr_sL hz_34
theorem hz_36 : Zr hc_36 := Zr_sL hz_35
theorem hz_37 : Zr hc_37 := Zr_sL hz_36
theorem hz_38 : Zr hc_38 := Zr_sL hz_37
theorem hz_39 : Zr hc_39 := Zr_sP hz_38
theorem hz_40 : Zr hc_40 := Zr_sI hz_39
theorem hz_41 : Zr hc_41 := Zr_push hz_40
theorem hz_42 : Zr hc_42 := Zr_push hz_41
theorem hz_43 : Zr hc_43 := Zr_sP hz_42
theorem hz_44 : Zr hc_44 := Zr_push hz_43
theorem hz_45 : Zr hc_45 := Zr_sP hz_44
theorem hz_46 : Zr hc_46 := Zr_push hz_45
theorem hz_47 : Zr hc_47 := Zr_sP hz_46
theorem hz_48 : Zr hc_48 := Zr_push hz_47
theorem hz_49 : Zr hc_49 := Zr_sP hz_48
theorem hz_50 : Zr hc_50 := Zr_push hz_49
theorem hz_51 : Zr hc_51 := Zr_sP hz_50
theorem hz_52 : Zr hc_52 := Zr_push hz_51
theorem hz_53 : Zr hc_53 := Zr_sP hz_52
theorem hz_54 : Zr hc_54 := Zr_push hz_53
theorem hz_55 : Zr hc_55 := Zr_sP hz_54
theorem hz_56 : Zr hc_56 := Zr_push hz_55
theorem hz_57 : Zr hc_57 := Zr_sP hz_56
theorem hz_58 : Zr hc_58 := Zr_sI hz_57
theorem hz_59 : Zr hc_59 := Zr_sP hz_58
theorem hz_60 : Zr hc_60 := Zr_push hz_59
theorem hz_61 : Zr hc_61 := Zr_push hz_60
theorem hz_62 : Zr hc_62 := Zr_sP hz_61
theorem hz_63 : Zr hc_63 := Zr_sI hz_62
theorem hz_64 : Zr hc_64 := Zr_sI hz_63
theorem hz_65 : Zr hc_65 := Zr_sP hz_64
theorem hz_66 : Zr hc_66 := Zr_push hz_65
theorem hz_67 : Zr hc_67 := Zr_push hz_66
theorem hz_68 : Zr hc_68 := Zr_sP hz_67
theorem hz_69 : Zr hc_69 := Zr_sI hz_68
theorem hz_70 : Zr hc_70 := Zr_sI hz_69
theorem hz_71 : Zr hc_71 := Zr_sI hz_70
theorem hz_72 : Zr hc_72 := Zr_sP hz_71
theorem hz_73 : Zr hc_73 := Zr_push hz_72
theorem hz_74 : Zr hc_74 := Zr_push hz_73
theorem hz_75 : Zr hc_75 := Zr_sP hz_74
theorem hz_76 : Zr hc_76 := Zr_push hz_75
theorem hz_77 : Zr hc_77 := Zr_sP hz_76
theorem hz_78 : Zr hc_78 := Zr_push hz_77
theorem hz_79 : Zr hc_79 := Zr_sP hz_78
theorem hz_80 : Zr hc_80 := Zr_push hz_79
theorem hz_81 : Zr hc_81 := Zr_sP hz_80
theorem hz_82 : Zr hc_82 := Zr_sI hz_81
theorem hz_83 : Zr hc_83 := Zr_sP hz_82
theorem hz_84 : Zr hc_84 := Zr_push hz_83
theorem hz_85 : Zr hc_85 := Zr_push hz_84
theorem hz_86 : Zr hc_86 := Zr_sP hz_85
theorem hz_87 : Zr hc_87 := Zr_push hz_86
theorem hz_88 : Zr hc_88 := Zr_sP hz_87
theorem hz_89 : Zr hc_89 := Zr_push hz_88
theorem hz_90 : Zr hc_90 := Zr_sP hz_89
theorem hz_91 : Zr hc_91 := Zr_push hz_90
theorem hz_92 : Zr hc_92 := Zr_sP hz_91
theorem hz_93 : Zr hc_93 := Zr_push hz_92
theorem hz_94 : Zr hc_94 := Zr_sP hz_93
theorem hz_95 : Zr hc_95 := Zr_push hz_94
theorem hz_96 : Zr hc_96 := Zr_sP hz_95
theorem hz_97 : Zr hc_97 := Zr_sP hz_96
theorem hz_98 : Zr hc_98 := Zr_push hz_97
theorem hz_99 : Zr hc_99 := Zr_push hz_98
theorem hz_100 : Zr hc_100 := Zr_sP hz_99
theorem hz_101 : Zr hc_101 := Zr_sI hz_100
theorem hz_102 : Zr hc_102 := Zr_sP hz_101
theorem hz_103 : Zr hc_103 := Zr_push hz_102
theorem hz_104 : Zr hc_104 := Zr_sP hz_103
theorem hz_105 : Zr hc_105 := Zr_push hz_104
theorem hz_106 : Zr hc_106 := Zr_sP hz_105
theorem hz_107 : Zr hc_107 := Zr_push hz_106
theorem hz_108 : Zr hc_108 := Zr_push hz_107
theorem hz_109 : Zr hc_109 := Zr_sP hz_108
theorem hz_110 : Zr hc_110 := Zr_sI hz_109
theorem hz_111 : Zr hc_111 := Zr_sI hz_110
theorem hz_112 : Zr hc_112 := Zr_sI hz_111
theorem hz_113 : Zr hc_113 := Zr_sP hz_112
theorem hz_114 : Zr hc_114 := Zr_push hz_113
theorem hz_115 : Zr hc_115 := Zr_push hz_114
theorem hz_116 : Zr hc_116 := Zr_sP hz_115
theorem hz_117 : Zr hc_117 := Zr_sI hz_116
theorem hz_118 : Zr hc_118 := Zr_sI hz_117
theorem hz_119 : Zr hc_119 := Zr_sI hz_118
theorem hz_120 : Zr hc_120 := Zr_sP hz_119
theorem hz_121 : Zr hc_121 := Zr_push hz_120
theorem hz_122 : Zr hc_122 := Zr_push hz_121
theorem hz_123 : Zr hc_123 := Zr_sP hz_122
theorem hz_124 : Zr hc_124 := Zr_sI hz_123
theorem hz_125 : Zr hc_125 := Zr_sI hz_124
theorem hz_126 : Zr hc_126 := Zr_sI hz_125
theorem hz_127 : Zr hc_127 := Zr_sP hz_126
theorem hz_128 : Zr hc_128 := Zr_push hz_127
theorem hz_129 : Zr hc_129 := Zr_push hz_128
theorem hz_130 : Zr hc_130 := Zr_sP hz_129
theorem hz_131 : Zr hc_131 := Zr_sI hz_130
theorem hz_132 : Zr hc_132 := Zr_sI hz_131
theorem hz_133 : Zr hc_133 := Zr_sI hz_132
theorem hz_134 : Zr hc_134 := Zr_sP hz_133
theorem hz_135 : Zr hc_135 := Zr_push hz_134
theorem hz_136 : Zr hc_136 := Zr_push hz_135
theorem hz_137 : Zr hc_137 := Zr_sP hz_136
theorem hz_138 : Zr hc_138 := Zr_sI hz_137
theorem hz_139 : Zr hc_139 := Zr_sI hz_138
theorem hz_140 : Zr hc_140 := Zr_sI hz_139
theorem hz_141 : Zr hc_141 := Zr_sP hz_140
theorem hz_142 : Zr hc_142 := Zr_push hz_141
theorem hz_143 : Zr hc_143 := Zr_push hz_142
theorem hz_144 : Zr hc_144 := Zr_sP hz_143
theorem hz_145 : Zr hc_145 := Zr_sI hz_144
theorem hz_146 : Zr hc_146 := Zr_sI hz_145
theorem hz_147 : Zr hc_147 := Zr_sI hz_146
theorem hz_148 : Zr hc_148 := Zr_sP hz_147
theorem hz_149 : Zr hc_149 := Zr_push hz_148
theorem hz_150 : Zr hc_150 := Zr_push hz_149
theorem hz_151 : Zr hc_151 := Zr_push hz_150
theorem zero_fn (k : Nat) : hc_151.L k = fun _ => 0 := funext (fun j => hz_151 k j)
theorem in_n : hc_151.n = 56 := by decide +kernel
theorem in_u : hc_151.u ≤ 100256 := by decide +kernel
theorem in_sh : ∀ k, k < 56 → (shT k).isSome = true → hc_151.sh k = shT k := by decide +kernel
theorem rfT_lt {a k : Nat} (h : rfT a k ≠ 0) : a < 56 ∧ k < 40 := by
  revert h
  unfold rfT
  split <;> intro h <;> first | exact ⟨by decide, by decide⟩ | exact absurd rfl h
theorem in_P : ∀ a, a < 56 → ∀ k, k < 40 → rfT a k ≠ 0 → hc_151.P a k = some (rfT a k) := by decide +kernel
theorem in_wf : zWF hc_151 := ⟨by rw [in_n]; exact Nat.le_refl _, in_sh, fun a k h => in_P a (rfT_lt h).1 k (rfT_lt h).2 h⟩
theorem in_I : hc_151.I 2 3 = nI 0 ∧ hc_151.I 2 4 = nI 1 ∧ hc_151.I 5 1 = nI 0 ∧ hc_151.I 12 8 = nI 0 ∧ hc_151.I 37 1 = nI 0 ∧ hc_151.I 54 5 = nI 0 ∧ hc_151.I 54 1 = nI 0 ∧ hc_151.I 54 2 = nI 0 ∧ hc_151.I 54 3 = nI 0 ∧ hc_151.I 54 4 = nI 0 := by decide +kernel
theorem in_38 : ∀ i, i < 128 → hc_151.I 38 i = nI 0 := by decide +kernel
theorem in_pap : hc_151.P 37 0 = some 38 ∧ hc_151.sh 38 = some (.inr (2, 128)) := by decide +kernel
def s00 : NS := (fun _ => 0, fun _ => 0, 0, 1, 0, 0, 0, 0, 0)
theorem GF_00 : GF (fun _ => 0) := ⟨fun _ _ => by rw [gb_0, gb_0], fun _ => gb_0 _, fun _ _ h => by rw [gb_0] at h; cases h⟩
theorem isE_00 (e : Nat) : isE (fun _ => 0) e = false := by unfold isE; rw [gb_0, Bool.and_false]
theorem ecn_00 : ecn (fun _ => 0) = 0 := fb_ct_zero.mpr (fun k _ => isE_00 k)
def en0 : Nat → Ent := fun _ => (0, 0, false, 0)
theorem in_CS : CS 0 s00 hc_151 := by
  obtain ⟨i1, i2, i3, i4, i5, _⟩ := in_I
  refine ⟨⟨0, en0, ⟨⟨zero_fn 3, fun u v _ _ h => ?_, i1, i2, hz_151 2 5, hz_151 2 6, hz_151 2 7, hz_151 2 8, hz_151 2 9⟩, i3, Nat.zero_le _, fun i hi => absurd hi (Nat.not_lt_zero _)⟩, ⟨GF_00, ?_, Nat.le_refl _, by decide, fun e => ⟨(show (-2000000 : Int) ≤ (0 : Int32).toInt by decide), (show (0 : Int32).toInt ≤ 2000000 by decide)⟩⟩, ?_, Nat.zero_le _, Nat.zero_le _, Nat.zero_le _, Nat.zero_le _⟩, ⟨fun _ => 0, GF_00, fun k _ => hz_151 13 k, by rw [ecn_00]; exact i4, by rw [ecn_00]; exact PF_0 _ _ _ _⟩, (0, fun _ => 0), 38, 0, in_pap, Nat.zero_le _, Or.inl rfl, by rw [in_n]; decide, i5, Nat.zero_le _, fun i hi => absurd hi (Nat.not_lt_zero _), fun i hi => ⟨0, Nat.zero_le _, in_38 i hi⟩, by rw [in_n]; exact Nat.le_refl _, in_u⟩
  · rw [show s00.f u = 0 from rfl, gb_0] at h; cases h
  · exact ecn_00.symm
  · trivial
theorem in_HI : HI s00 := ⟨by decide, fun v _ h => by rw [show s00.hv = 0 from rfl, gb_0] at h; cases h⟩
theorem in_LN0 {h : AH} (z1 : h.L 53 = fun _ => 0) (z2 : h.L 55 0 = 0) (i6 : h.I 54 5 = nI 0) (i7 : h.I 54 1 = nI 0) (i8 : h.I 54 2 = nI 0) (i9 : h.I 54 3 = nI 0) (i10 : h.I 54 4 = nI 0) : LN (h.sI 54 0 (nI 1)) s00 := by
  have o : ∀ j, j ≠ 0 → (h.sI 54 0 (nI 1)).I 54 j = h.I 54 j := fun j hj => by rw [AH.sI_I, va_up_ne _ _ hj]
  exact ⟨z1, (o 5 (by decide)).trans i6, by rw [AH.sI_I, va_up_self]; rfl, z2, (o 1 (by decide)).trans i7, (o 2 (by decide)).trans i8, (o 3 (by decide)).trans i9, (o 4 (by decide)).trans i10⟩
theorem in_LN : LN (hc_151.sI 54 0 (nI 1)) s00 := by
  obtain ⟨-, -, -, -, -, i6, i7, i8, i9, i10⟩ := in_I
  exact in_LN0 (zero_fn 53) (hz_151 55 0) i6 i7 i8 i9 i10
theorem IN_end {c : Nat} {h : AH} (q : IN c h) : h.n ≤ 600001 ∧ h.u ≤ 7302250 := by
  obtain ⟨s, ⟨_, _, t, pb, e, hz, he, hpb, hn, p1, hWl, hT, hB, hN, hU⟩, _⟩ := q
  have hle : 256 * 2 ^ e ≤ 32768 := Nat.le_trans (Nat.mul_le_mul_left 256 (Nat.pow_le_pow_right (by decide) he)) (by decide)
  omega
theorem use_kIX {X : Option (Nat × (Nat → Int32))} {d : Nat} {M : Mth} {as : List Value} {h : AH} {P Q : Int32 → AH → Prop} (c : zKX X d M as h (kI P)) (k : ∀ x h', zWF h' → P x h' → Q x h') : zKX X d M as h (kI Q) :=
  zK_mono c (fun r h' ⟨x, e1, e2, e3⟩ => ⟨x, e1, e2, k x h' e2 e3⟩)
theorem law_ok {L : Nat} {xs : Nat → Int32} (hL : L ≤ 260) : zQ (some (L, xs)) m_L_law 1400 0 [(0, .ref 0)] [] hc_0 (fun r h' => r = some (.int (nI 1)) ∧ h'.n ≤ 600001 ∧ h'.u ≤ 7302250) := by
  refine law_init (d := 1396) ?_
  refine r_L_law_23 (d := 1382 + 17) L xs in_wf (l_cell (d := 1382 + 16) in_wf (by decide) hL (fun e => ?_))
  refine r_L_law_30 (d := 1382 + 17) L xs _ in_wf (use_kIX (l_net (d := 1382) in_wf hL in_CS in_HI in_LN) (fun x h1 hw1 ⟨ex, q⟩ => ?_))
  subst ex
  refine ⟨fun _ => r_L_law_47 (d := 1382 + 17) L xs hw1 ?_, fun z => absurd z i1_ne0⟩
  exact law_51 (d := 1382) hL (fun h c q => ⟨rfl, IN_end q⟩) 22 42 rfl h1 39 (by decide) hw1 q
