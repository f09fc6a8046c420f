def hc_0 : AH := ((1, 0, fun _ => none, fun _ _ => 0, fun _ _ => 0, fun _ _ => none) : Nat × Nat × (Nat → Option Shp) × (Nat → Nat → Int32) × (Nat → Nat → Int64) × (Nat → Nat → Option Nat))
def hc_1 : AH := hc_0.push (.inl 9) (zN 9)
def hc_2 : AH := hc_1.push (.inl 2) (zN 2)
def hc_3 : AH := hc_2.push (.inr (1, 40)) 40
def hc_4 : AH := hc_3.sP 2 0 (some 3)
def hc_5 : AH := hc_4.push (.inr (0, 1600)) 1600
def hc_6 : AH := hc_5.sP 2 1 (some 4)
def hc_7 : AH := hc_6.push (.inl 4) (zN 4)
def hc_8 : AH := hc_7.push (.inr (0, 240)) 240
def hc_9 : AH := hc_8.sP 5 0 (some 6)
def hc_10 : AH := hc_9.sI 5 1 (nI 0)
def hc_11 : AH := hc_10.sP 2 2 (some 5)
def hc_12 : AH := hc_11.sI 2 3 (nI 0)
def hc_13 : AH := hc_12.sI 2 4 (nI 1)
def hc_14 : AH := hc_13.sL 2 5 (0 : Int64)
def hc_15 : AH := hc_14.sL 2 6 (0 : Int64)
def hc_16 : AH := hc_15.sL 2 7 (0 : Int64)
def hc_17 : AH := hc_16.sL 2 8 (0 : Int64)
def hc_18 : AH := hc_17.sL 2 9 (0 : Int64)
def hc_19 : AH := hc_18.sL 2 10 (0 : Int64)
def hc_20 : AH := hc_19.sP 1 0 (some 2)
def hc_21 : AH := hc_20.push (.inl 2) (zN 2)
def hc_22 : AH := hc_21.push (.inr (1, 40)) 40
def hc_23 : AH := hc_22.sP 7 0 (some 8)
def hc_24 : AH := hc_23.push (.inr (0, 1600)) 1600
def hc_25 : AH := hc_24.sP 7 1 (some 9)
def hc_26 : AH := hc_25.push (.inl 4) (zN 4)
def hc_27 : AH := hc_26.push (.inr (0, 240)) 240
def hc_28 : AH := hc_27.sP 10 0 (some 11)
def hc_29 : AH := hc_28.sI 10 1 (nI 0)
def hc_30 : AH := hc_29.sP 7 2 (some 10)
def hc_31 : AH := hc_30.sI 7 3 (nI 0)
def hc_32 : AH := hc_31.sI 7 4 (nI 1)
def hc_33 : AH := hc_32.sL 7 5 (0 : Int64)
def hc_34 : AH := hc_33.sL 7 6 (0 : Int64)
def hc_35 : AH := hc_34.sL 7 7 (0 : Int64)
def hc_36 : AH := hc_35.sL 7 8 (0 : Int64)
def hc_37 : AH := hc_36.sL 7 9 (0 : Int64)
def hc_38 : AH := hc_37.sL 7 10 (0 : Int64)
def hc_39 : AH := hc_38.sP 1 1 (some 7)
def hc_40 : AH := hc_39.sI 1 2 (nI 0)
def hc_41 : AH := hc_40.push (.inl 5) (zN 5)
def hc_42 : AH := hc_41.push (.inr (1, 40)) 40
def hc_43 : AH := hc_42.sP 12 0 (some 13)
def hc_44 : AH := hc_43.push (.inr (1, 40)) 40
def hc_45 : AH := hc_44.sP 12 1 (some 14)
def hc_46 : AH := hc_45.push (.inr (0, 1600)) 1600
def hc_47 : AH := hc_46.sP 12 2 (some 15)
def hc_48 : AH := hc_47.push (.inr (0, 1600)) 1600
def hc_49 : AH := hc_48.sP 12 3 (some 16)
def hc_50 : AH := hc_49.push (.inr (0, 1600)) 1600
def hc_51 : AH := hc_50.sP 12 4 (some 17)
def hc_52 : AH := hc_51.push (.inr (0, 780)) 780
def hc_53 : AH := hc_52.sP 12 5 (some 18)
def hc_54 : AH := hc_53.push (.inr (0, 780)) 780
def hc_55 : AH := hc_54.sP 12 6 (some 19)
def hc_56 : AH := hc_55.push (.inr (0, 1600)) 1600
def hc_57 : AH := hc_56.sP 12 7 (some 20)
def hc_58 : AH := hc_57.sI 12 8 (nI 0)
def hc_59 : AH := hc_58.sP 1 3 (some 12)
def hc_60 : AH := hc_59.push (.inl 1) (zN 1)
def hc_61 : AH := hc_60.push (.inr (1, 40)) 40
def hc_62 : AH := hc_61.sP 21 0 (some 22)
def hc_63 : AH := hc_62.sI 21 1 (nI 0)
def hc_64 : AH := hc_63.sI 21 2 (nI 0)
def hc_65 : AH := hc_64.sP 1 4 (some 21)
def hc_66 : AH := hc_65.push (.inl 8) (zN 8)
def hc_67 : AH := hc_66.push (.inr (2, 160)) 160
def hc_68 : AH := hc_67.sP 23 0 (some 24)
def hc_69 : AH := hc_68.sI 23 1 (nI 0)
def hc_70 : AH := hc_69.sI 23 2 (nI 0)
def hc_71 : AH := hc_70.sI 23 3 (-1)
def hc_72 : AH := hc_71.sP 1 5 (some 23)
def hc_73 : AH := hc_72.push (.inl 0) (zN 0)
def hc_74 : AH := hc_73.push (.inr (0, 54)) 54
def hc_75 : AH := hc_74.sP 25 0 (some 26)
def hc_76 : AH := hc_75.push (.inr (0, 54)) 54
def hc_77 : AH := hc_76.sP 25 1 (some 27)
def hc_78 : AH := hc_77.push (.inr (0, 54)) 54
def hc_79 : AH := hc_78.sP 25 2 (some 28)
def hc_80 : AH := hc_79.push (.inr (0, 54)) 54
def hc_81 : AH := hc_80.sP 25 3 (some 29)
def hc_82 : AH := hc_81.sI 25 4 (nI 0)
def hc_83 : AH := hc_82.sP 1 6 (some 25)
def hc_84 : AH := hc_83.push (.inl 6) (zN 6)
def hc_85 : AH := hc_84.push (.inr (1, 40)) 40
def hc_86 : AH := hc_85.sP 30 0 (some 31)
def hc_87 : AH := hc_86.push (.inr (0, 40)) 40
def hc_88 : AH := hc_87.sP 30 1 (some 32)
def hc_89 : AH := hc_88.push (.inr (0, 40)) 40
def hc_90 : AH := hc_89.sP 30 2 (some 33)
def hc_91 : AH := hc_90.push (.inr (0, 40)) 40
def hc_92 : AH := hc_91.sP 30 3 (some 34)
def hc_93 : AH := hc_92.push (.inr (0, 40)) 40
def hc_94 : AH := hc_93.sP 30 4 (some 35)
def hc_95 : AH := hc_94.push (.inr (0, 40)) 40
def hc_96 : AH := hc_95.sP 30 5 (some 36)
def hc_97 : AH := hc_96.sP 1 7 (some 30)
def hc_98 : AH := hc_97.push (.inl 3) (zN 3)
def hc_99 : AH := hc_98.push (.inr (2, 128)) 128
def hc_100 : AH := hc_99.sP 37 0 (some 38)
def hc_101 : AH := hc_100.sI 37 1 (nI 0)
def hc_102 : AH := hc_101.sP 1 8 (some 37)
def hc_103 : AH := hc_102.push (.inr (3, 6)) 6
def hc_104 : AH := hc_103.sP 1 9 (some 39)
def hc_105 : AH := hc_104.push (.inr (0, 40)) 40
def hc_106 : AH := hc_105.sP 1 10 (some 40)
def hc_107 : AH := hc_106.push (.inl 7) (zN 7)
def hc_108 : AH := hc_107.push (.inr (1, 60)) 60
def hc_109 : AH := hc_108.sP 41 1 (some 42)
def hc_110 : AH := hc_109.sI 41 2 (nI 0)
def hc_111 : AH := hc_110.sI 41 3 (nI 0)
def hc_112 : AH := hc_111.sI 41 0 (nI 1)
def hc_113 : AH := hc_112.sP 39 0 (some 41)
def hc_114 : AH := hc_113.push (.inl 7) (zN 7)
def hc_115 : AH := hc_114.push (.inr (1, 60)) 60
def hc_116 : AH := hc_115.sP 43 1 (some 44)
def hc_117 : AH := hc_116.sI 43 2 (nI 0)
def hc_118 : AH := hc_117.sI 43 3 (nI 0)
def hc_119 : AH := hc_118.sI 43 0 (nI 1)
def hc_120 : AH := hc_119.sP 39 1 (some 43)
def hc_121 : AH := hc_120.push (.inl 7) (zN 7)
def hc_122 : AH := hc_121.push (.inr (1, 60)) 60
def hc_123 : AH := hc_122.sP 45 1 (some 46)
def hc_124 : AH := hc_123.sI 45 2 (nI 0)
def hc_125 : AH := hc_124.sI 45 3 (nI 0)
def hc_126 : AH := hc_125.sI 45 0 (nI 1)
def hc_127 : AH := hc_126.sP 39 2 (some 45)
def hc_128 : AH := hc_127.push (.inl 7) (zN 7)
def hc_129 : AH := hc_128.push (.inr (1, 60)) 60
def hc_130 : AH := hc_129.sP 47 1 (some 48)
def hc_131 : AH := hc_130.sI 47 2 (nI 0)
def hc_132 : AH := hc_131.sI 47 3 (nI 0)
def hc_133 : AH := hc_132.sI 47 0 (nI 1)
def hc_134 : AH := hc_133.sP 39 3 (some 47)
def hc_135 : AH := hc_134.push (.inl 7) (zN 7)
def hc_136 : AH := hc_135.push (.inr (1, 60)) 60
def hc_137 : AH := hc_136.sP 49 1 (some 50)
def hc_138 : AH := hc_137.sI 49 2 (nI 0)
def hc_139 : AH := hc_138.sI 49 3 (nI 0)
def hc_140 : AH := hc_139.sI 49 0 (nI 0)
def hc_141 : AH := hc_140.sP 39 4 (some 49)
def hc_142 : AH := hc_141.push (.inl 7) (zN 7)
def hc_143 : AH := hc_142.push (.inr (1, 60)) 60
def hc_144 : AH := hc_143.sP 51 1 (some 52)
def hc_145 : AH := hc_144.sI 51 2 (nI 0)
def hc_146 : AH := hc_145.sI 51 3 (nI 0)
def hc_147 : AH := hc_146.sI 51 0 (nI 0)
def hc_148 : AH := hc_147.sP 39 5 (some 51)
def hc_149 : AH := hc_148.push (.inr (1, 40)) 40
def hc_150 : AH := hc_149.push (.inr (0, 8)) 8
def hc_151 : AH := hc_150.push (.inr (1, 1)) 1
set_option maxHeartbeats 4000000 in
set_option maxRecDepth 20000 in
theorem ct_0 {d : Nat} : zK (d + 1) m_X5_init [.ref 5] hc_7 (fun r h' => r = none ∧ h' = hc_10) := by
  refine zK_of mo_X5_init (Nat.le_of_ble_eq_true rfl) ?_
  show zQ none m_X5_init (d + 1) 0 [(0, .ref 5)] [] hc_7 _
  refine zq_aload_n (k := 0) (i := 0) (x := 5) 0 rfl rfl dX5_init_0 ?_
  refine zq_objInit oi_RX5_3 (Nat.le_of_ble_eq_true rfl) dX5_init_1 ?_
  refine zq_aload_n (k := 0) (i := 0) (x := 5) 0 rfl rfl dX5_init_4 ?_
  refine zq_sipush (v := (nI 240)) rfl dX5_init_5 ?_
  refine zq_newaI (N := 240) zar_int (by decide) rfl (by decide) dX5_init_8 (fun h1 e1 => ?_)
  subst e1
  show zQ none m_X5_init (d + 1) 10 [(0, .ref 5)] (.ref 6 :: .ref 5 :: []) hc_8 _
  refine zq_putP fl_RX5_11 rfl (Or.inr ⟨rfl, rfl, rfl⟩) (by decide +kernel) dX5_init_10 (fun h1 e1 => ?_)
  subst e1
  show zQ none m_X5_init (d + 1) 13 [(0, .ref 5)] ([]) hc_9 _
  refine zq_aload_n (k := 0) (i := 0) (x := 5) 0 rfl rfl dX5_init_13 ?_
  refine zq_iconst (v := (nI 0)) rfl dX5_init_14 ?_
  refine zq_putI fl_RX5_15 rfl (Or.inl rfl) (by decide +kernel) rfl rfl dX5_init_15 (fun h1 e1 => ?_)
  subst e1
  show zQ none m_X5_init (d + 1) 18 [(0, .ref 5)] ([]) hc_10 _
  exact zq_vret dX5_init_18 rfl ⟨rfl, rfl⟩
set_option maxHeartbeats 4000000 in
set_option maxRecDepth 20000 in
theorem ct_1 {d : Nat} : zK (d + 2) m_X3_init [.ref 2] hc_2 (fun r h' => r = none ∧ h' = hc_19) := by
  refine zK_of mo_X3_init (Nat.le_of_ble_eq_true rfl) ?_
  show zQ none m_X3_init (d + 2) 0 [(0, .ref 2)] [] hc_2 _
  refine zq_aload_n (k := 0) (i := 0) (x := 2) 0 rfl rfl dX3_init_0 ?_
  refine zq_objInit oi_RX3_3 (Nat.le_of_ble_eq_true rfl) dX3_init_1 ?_
  refine zq_aload_n (k := 0) (i := 0) (x := 2) 0 rfl rfl dX3_init_4 ?_
  refine zq_bipush (v := (nI 40)) rfl dX3_init_5 ?_
  refine zq_newaL (N := 40) zar_long (by decide) rfl (by decide) dX3_init_7 (fun h1 e1 => ?_)
  subst e1
  show zQ none m_X3_init (d + 2) 9 [(0, .ref 2)] (.ref 3 :: .ref 2 :: []) hc_3 _
  refine zq_putP fl_RX3_9 rfl (Or.inr ⟨rfl, rfl, rfl⟩) (by decide +kernel) dX3_init_9 (fun h1 e1 => ?_)
  subst e1
  show zQ none m_X3_init (d + 2) 12 [(0, .ref 2)] ([]) hc_4 _
  refine zq_aload_n (k := 0) (i := 0) (x := 2) 0 rfl rfl dX3_init_12 ?_
  refine zq_sipush (v := (nI 1600)) rfl dX3_init_13 ?_
  refine zq_newaI (N := 1600) zar_int (by decide) rfl (by decide) dX3_init_16 (fun h1 e1 => ?_)
  subst e1
  show zQ none m_X3_init (d + 2) 18 [(0, .ref 2)] (.ref 4 :: .ref 2 :: []) hc_5 _
  refine zq_putP fl_RX3_15 rfl (Or.inr ⟨rfl, rfl, rfl⟩) (by decide +kernel) dX3_init_18 (fun h1 e1 => ?_)
  subst e1
  show zQ none m_X3_init (d + 2) 21 [(0, .ref 2)] ([]) hc_6 _
  refine zq_aload_n (k := 0) (i := 0) (x := 2) 0 rfl rfl dX3_init_21 ?_
  refine zq_new (c := 4) (by decide) cx_RX3_19 is_4 ni_4 dX3_init_22 (fun h1 e1 => ?_)
  subst e1
  show zQ none m_X3_init (d + 2) 25 [(0, .ref 2)] (.ref 5 :: .ref 2 :: []) hc_7 _
  refine zq_dup rfl dX3_init_25 ?_
  refine zq_invI (as := []) (st := .ref 5 :: .ref 2 :: []) (o := 5) in_X5_init rfl rfl mo_X5_init ml_RX3_21 rfl (Nat.le_of_ble_eq_true rfl) dX3_init_26 rfl (ct_0 (d := d + 0)) (fun r1 h1 hq => ?_)
  obtain ⟨rfl, rfl⟩ := hq
  show zQ none m_X3_init (d + 2) 29 [(0, .ref 2)] (.ref 5 :: .ref 2 :: []) hc_10 _
  refine zq_putP fl_RX3_22 rfl (Or.inr ⟨rfl, rfl, rfl⟩) (by decide +kernel) dX3_init_29 (fun h1 e1 => ?_)
  subst e1
  show zQ none m_X3_init (d + 2) 32 [(0, .ref 2)] ([]) hc_11 _
  refine zq_aload_n (k := 0) (i := 0) (x := 2) 0 rfl rfl dX3_init_32 ?_
  refine zq_iconst (v := (nI 0)) rfl dX3_init_33 ?_
  refine zq_putI fl_RX3_26 rfl (Or.inl rfl) (by decide +kernel) rfl rfl dX3_init_34 (fun h1 e1 => ?_)
  subst e1
  show zQ none m_X3_init (d + 2) 37 [(0, .ref 2)] ([]) hc_12 _
  refine zq_aload_n (k := 0) (i := 0) (x := 2) 0 rfl rfl dX3_init_37 ?_
  refine zq_iconst (v := (nI 1)) rfl dX3_init_38 ?_
  refine zq_putI fl_RX3_30 rfl (Or.inl rfl) (by decide +kernel) rfl rfl dX3_init_39 (fun h1 e1 => ?_)
  subst e1
  show zQ none m_X3_init (d + 2) 42 [(0, .ref 2)] ([]) hc_13 _
  refine zq_aload_n (k := 0) (i := 0) (x := 2) 0 rfl rfl dX3_init_42 ?_
  refine zq_lconst (v := 0) rfl dX3_init_43 ?_
  refine zq_putL fl_RX3_33 rfl (Or.inl rfl) (by decide +kernel) dX3_init_44 (fun h1 e1 => ?_)
  subst e1
  show zQ none m_X3_init (d + 2) 47 [(0, .ref 2)] ([]) hc_14 _
  refine zq_aload_n (k := 0) (i := 0) (x := 2) 0 rfl rfl dX3_init_47 ?_
  refine zq_lconst (v := 0) rfl dX3_init_48 ?_
  refine zq_putL fl_RX3_37 rfl (Or.inl rfl) (by decide +kernel) dX3_init_49 (fun h1 e1 => ?_)
  subst e1
  show zQ none m_X3_init (d + 2) 52 [(0, .ref 2)] ([]) hc_15 _
  refine zq_aload_n (k := 0) (i := 0) (x := 2) 0 rfl rfl dX3_init_52 ?_
  refine zq_lconst (v := 0) rfl dX3_init_53 ?_
  refine zq_putL fl_RX3_40 rfl (Or.inl rfl) (by decide +kernel) dX3_init_54 (fun h1 e1 => ?_)
  subst e1
  show zQ none m_X3_init (d + 2) 57 [(0, .ref 2)] ([]) hc_16 _
  refine zq_aload_n (k := 0) (i := 0) (x := 2) 0 rfl rfl dX3_init_57 ?_
  refine zq_lconst (v := 0) rfl dX3_init_58 ?_
  refine zq_putL fl_RX3_43 rfl (Or.inl rfl) (by decide +kernel) dX3_init_59 (fun h1 e1 => ?_)
  subst e1
  show zQ none m_X3_init (d + 2) 62 [(0, .ref 2)] ([]) hc_17 _
  refine zq_aload_n (k := 0) (i := 0) (x := 2) 0 rfl rfl dX3_init_62 ?_
  refine zq_lconst (v := 0) rfl dX3_init_63 ?_
  refine zq_putL fl_RX3_46 rfl (Or.inl rfl) (by decide +kernel) dX3_init_64 (fun h1 e1 => ?_)
  subst e1
  show zQ none m_X3_init (d + 2) 67 [(0, .ref 2)] ([]) hc_18 _
  refine zq_aload_n (k := 0) (i := 0) (x := 2) 0 rfl rfl dX3_init_67 ?_
  refine zq_lconst (v := 0) rfl dX3_init_68 ?_
  refine zq_putL fl_RX3_49 rfl (Or.inl rfl) (by decide +kernel) dX3_init_69 (fun h1 e1 => ?_)
  subst e1
  show zQ none m_X3_init (d + 2) 72 [(0, .ref 2)] ([]) hc_19 _
  exact zq_vret dX3_init_72 rfl ⟨rfl, rfl⟩
set_option maxHeartbeats 4000000 in
set_option maxRecDepth 20000 in
theorem ct_2 {d : Nat} : zK (d + 1) m_X5_init [.ref 10] hc_26 (fun r h' => r = none ∧ h' = hc_29) := by
  refine zK_of mo_X5_init (Nat.le_of_ble_eq_true rfl) ?_
  show zQ none m_X5_init (d + 1) 0 [(0, .ref 10)] [] hc_26 _
  refine zq_aload_n (k := 0) (i := 0) (x := 10) 0 rfl rfl dX5_init_0 ?_
  refine zq_objInit oi_RX5_3 (Nat.le_of_ble_eq_true rfl) dX5_init_1 ?_
  refine zq_aload_n (k := 0) (i := 0) (x := 10) 0 rfl rfl dX5_init_4 ?_
  refine zq_sipush (v := (nI 240)) rfl dX5_init_5 ?_
  refine zq_newaI (N := 240) zar_int (by decide) rfl (by decide) dX5_init_8 (fun h1 e1 => ?_)
  subst e1
  show zQ none m_X5_init (d + 1) 10 [(0, .ref 10)] (.ref 11 :: .ref 10 :: []) hc_27 _
  refine zq_putP fl_RX5_11 rfl (Or.inr ⟨rfl, rfl, rfl⟩) (by decide +kernel) dX5_init_10 (fun h1 e1 => ?_)
  subst e1
  show zQ none m_X5_init (d + 1) 13 [(0, .ref 10)] ([]) hc_28 _
  refine zq_aload_n (k := 0) (i := 0) (x := 10) 0 rfl rfl dX5_init_13 ?_
  refine zq_iconst (v := (nI 0)) rfl dX5_init_14 ?_
  refine zq_putI fl_RX5_15 rfl (Or.inl rfl) (by decide +kernel) rfl rfl dX5_init_15 (fun h1 e1 => ?_)
  subst e1
  show zQ none m_X5_init (d + 1) 18 [(0, .ref 10)] ([]) hc_29 _
  exact zq_vret dX5_init_18 rfl ⟨rfl, rfl⟩
set_option maxHeartbeats 4000000 in
set_option maxRecDepth 20000 in
theorem ct_3 {d : Nat} : zK (d + 2) m_X3_init [.ref 7] hc_21 (fun r h' => r = none ∧ h' = hc_38) := by
  refine zK_of mo_X3_init (Nat.le_of_ble_eq_true rfl) ?_
  show zQ none m_X3_init (d + 2) 0 [(0, .ref 7)] [] hc_21 _
  refine zq_aload_n (k := 0) (i := 0) (x := 7) 0 rfl rfl dX3_init_0 ?_
  refine zq_objInit oi_RX3_3 (Nat.le_of_ble_eq_true rfl) dX3_init_1 ?_
  refine zq_aload_n (k := 0) (i := 0) (x := 7) 0 rfl rfl dX3_init_4 ?_
  refine zq_bipush (v := (nI 40)) rfl dX3_init_5 ?_
  refine zq_newaL (N := 40) zar_long (by decide) rfl (by decide) dX3_init_7 (fun h1 e1 => ?_)
  subst e1
  show zQ none m_X3_init (d + 2) 9 [(0, .ref 7)] (.ref 8 :: .ref 7 :: []) hc_22 _
  refine zq_putP fl_RX3_9 rfl (Or.inr ⟨rfl, rfl, rfl⟩) (by decide +kernel) dX3_init_9 (fun h1 e1 => ?_)
  subst e1
  show zQ none m_X3_init (d + 2) 12 [(0, .ref 7)] ([]) hc_23 _
  refine zq_aload_n (k := 0) (i := 0) (x := 7) 0 rfl rfl dX3_init_12 ?_
  refine zq_sipush (v := (nI 1600)) rfl dX3_init_13 ?_
  refine zq_newaI (N := 1600) zar_int (by decide) rfl (by decide) dX3_init_16 (fun h1 e1 => ?_)
  subst e1
  show zQ none m_X3_init (d + 2) 18 [(0, .ref 7)] (.ref 9 :: .ref 7 :: []) hc_24 _
  refine zq_putP fl_RX3_15 rfl (Or.inr ⟨rfl, rfl, rfl⟩) (by decide +kernel) dX3_init_18 (fun h1 e1 => ?_)
  subst e1
  show zQ none m_X3_init (d + 2) 21 [(0, .ref 7)] ([]) hc_25 _
  refine zq_aload_n (k := 0) (i := 0) (x := 7) 0 rfl rfl dX3_init_21 ?_
  refine zq_new (c := 4) (by decide) cx_RX3_19 is_4 ni_4 dX3_init_22 (fun h1 e1 => ?_)
  subst e1
  show zQ none m_X3_init (d + 2) 25 [(0, .ref 7)] (.ref 10 :: .ref 7 :: []) hc_26 _
  refine zq_dup rfl dX3_init_25 ?_
  refine zq_invI (as := []) (st := .ref 10 :: .ref 7 :: []) (o := 10) in_X5_init rfl rfl mo_X5_init ml_RX3_21 rfl (Nat.le_of_ble_eq_true rfl) dX3_init_26 rfl (ct_2 (d := d + 0)) (fun r1 h1 hq => ?_)
  obtain ⟨rfl, rfl⟩ := hq
  show zQ none m_X3_init (d + 2) 29 [(0, .ref 7)] (.ref 10 :: .ref 7 :: []) hc_29 _
  refine zq_putP fl_RX3_22 rfl (Or.inr ⟨rfl, rfl, rfl⟩) (by decide +kernel) dX3_init_29 (fun h1 e1 => ?_)
  subst e1
  show zQ none m_X3_init (d + 2) 32 [(0, .ref 7)] ([]) hc_30 _
  refine zq_aload_n (k := 0) (i := 0) (x := 7) 0 rfl rfl dX3_init_32 ?_
  refine zq_iconst (v := (nI 0)) rfl dX3_init_33 ?_
  refine zq_putI fl_RX3_26 rfl (Or.inl rfl) (by decide +kernel) rfl rfl dX3_init_34 (fun h1 e1 => ?_)
  subst e1
  show zQ none m_X3_init (d + 2) 37 [(0, .ref 7)] ([]) hc_31 _
  refine zq_aload_n (k := 0) (i := 0) (x := 7) 0 rfl rfl dX3_init_37 ?_
  refine zq_iconst (v := (nI 1)) rfl dX3_init_38 ?_
  refine zq_putI fl_RX3_30 rfl (Or.inl rfl) (by decide +kernel) rfl rfl dX3_init_39 (fun h1 e1 => ?_)
  subst e1
  show zQ none m_X3_init (d + 2) 42 [(0, .ref 7)] ([]) hc_32 _
  refine zq_aload_n (k := 0) (i := 0) (x := 7) 0 rfl rfl dX3_init_42 ?_
  refine zq_lconst (v := 0) rfl dX3_init_43 ?_
  refine zq_putL fl_RX3_33 rfl (Or.inl rfl) (by decide +kernel) dX3_init_44 (fun h1 e1 => ?_)
  subst e1
  show zQ none m_X3_init (d + 2) 47 [(0, .ref 7)] ([]) hc_33 _
  refine zq_aload_n (k := 0) (i := 0) (x := 7) 0 rfl rfl dX3_init_47 ?_
  refine zq_lconst (v := 0) rfl dX3_init_48 ?_
  refine zq_putL fl_RX3_37 rfl (Or.inl rfl) (by decide +kernel) dX3_init_49 (fun h1 e1 => ?_)
  subst e1
  show zQ none m_X3_init (d + 2) 52 [(0, .ref 7)] ([]) hc_34 _
  refine zq_aload_n (k := 0) (i := 0) (x := 7) 0 rfl rfl dX3_init_52 ?_
  refine zq_lconst (v := 0) rfl dX3_init_53 ?_
  refine zq_putL fl_RX3_40 rfl (Or.inl rfl) (by decide +kernel) dX3_init_54 (fun h1 e1 => ?_)
  subst e1
  show zQ none m_X3_init (d + 2) 57 [(0, .ref 7)] ([]) hc_35 _
  refine zq_aload_n (k := 0) (i := 0) (x := 7) 0 rfl rfl dX3_init_57 ?_
  refine zq_lconst (v := 0) rfl dX3_init_58 ?_
  refine zq_putL fl_RX3_43 rfl (Or.inl rfl) (by decide +kernel) dX3_init_59 (fun h1 e1 => ?_)
  subst e1
  show zQ none m_X3_init (d + 2) 62 [(0, .ref 7)] ([]) hc_36 _
  refine zq_aload_n (k := 0) (i := 0) (x := 7) 0 rfl rfl dX3_init_62 ?_
  refine zq_lconst (v := 0) rfl dX3_init_63 ?_
  refine zq_putL fl_RX3_46 rfl (Or.inl rfl) (by decide +kernel) dX3_init_64 (fun h1 e1 => ?_)
  subst e1
  show zQ none m_X3_init (d + 2) 67 [(0, .ref 7)] ([]) hc_37 _
  refine zq_aload_n (k := 0) (i := 0) (x := 7) 0 rfl rfl dX3_init_67 ?_
  refine zq_lconst (v := 0) rfl dX3_init_68 ?_
  refine zq_putL fl_RX3_49 rfl (Or.inl rfl) (by decide +kernel) dX3_init_69 (fun h1 e1 => ?_)
  subst e1
  show zQ none m_X3_init (d + 2) 72 [(0, .ref 7)] ([]) hc_38 _
  exact zq_vret dX3_init_72 rfl ⟨rfl, rfl⟩
set_option maxHeartbeats 4000000 in
set_option maxRecDepth 20000 in
theorem ct_4 {d : Nat} : zK (d + 1) m_X6_init [.ref 12] hc_41 (fun r h' => r = none ∧ h' = hc_58) := by
  refine zK_of mo_X6_init (Nat.le_of_ble_eq_true rfl) ?_
  show zQ none m_X6_init (d + 1) 0 [(0, .ref 12)] [] hc_41 _
  refine zq_aload_n (k := 0) (i := 0) (x := 12) 0 rfl rfl dX6_init_0 ?_
  refine zq_objInit oi_RX6_3 (Nat.le_of_ble_eq_true rfl) dX6_init_1 ?_
  refine zq_aload_n (k := 0) (i := 0) (x := 12) 0 rfl rfl dX6_init_4 ?_
  refine zq_bipush (v := (nI 40)) rfl dX6_init_5 ?_
  refine zq_newaL (N := 40) zar_long (by decide) rfl (by decide) dX6_init_7 (fun h1 e1 => ?_)
  subst e1
  show zQ none m_X6_init (d + 1) 9 [(0, .ref 12)] (.ref 13 :: .ref 12 :: []) hc_42 _
  refine zq_putP fl_RX6_9 rfl (Or.inr ⟨rfl, rfl, rfl⟩) (by decide +kernel) dX6_init_9 (fun h1 e1 => ?_)
  subst e1
  show zQ none m_X6_init (d + 1) 12 [(0, .ref 12)] ([]) hc_43 _
  refine zq_aload_n (k := 0) (i := 0) (x := 12) 0 rfl rfl dX6_init_12 ?_
  refine zq_bipush (v := (nI 40)) rfl dX6_init_13 ?_
  refine zq_newaL (N := 40) zar_long (by decide) rfl (by decide) dX6_init_15 (fun h1 e1 => ?_)
  subst e1
  show zQ none m_X6_init (d + 1) 17 [(0, .ref 12)] (.ref 14 :: .ref 12 :: []) hc_44 _
  refine zq_putP fl_RX6_15 rfl (Or.inr ⟨rfl, rfl, rfl⟩) (by decide +kernel) dX6_init_17 (fun h1 e1 => ?_)
  subst e1
  show zQ none m_X6_init (d + 1) 20 [(0, .ref 12)] ([]) hc_45 _
  refine zq_aload_n (k := 0) (i := 0) (x := 12) 0 rfl rfl dX6_init_20 ?_
  refine zq_sipush (v := (nI 1600)) rfl dX6_init_21 ?_
  refine zq_newaI (N := 1600) zar_int (by decide) rfl (by decide) dX6_init_24 (fun h1 e1 => ?_)
  subst e1
  show zQ none m_X6_init (d + 1) 26 [(0, .ref 12)] (.ref 15 :: .ref 12 :: []) hc_46 _
  refine zq_putP fl_RX6_18 rfl (Or.inr ⟨rfl, rfl, rfl⟩) (by decide +kernel) dX6_init_26 (fun h1 e1 => ?_)
  subst e1
  show zQ none m_X6_init (d + 1) 29 [(0, .ref 12)] ([]) hc_47 _
  refine zq_aload_n (k := 0) (i := 0) (x := 12) 0 rfl rfl dX6_init_29 ?_
  refine zq_sipush (v := (nI 1600)) rfl dX6_init_30 ?_
  refine zq_newaI (N := 1600) zar_int (by decide) rfl (by decide) dX6_init_33 (fun h1 e1 => ?_)
  subst e1
  show zQ none m_X6_init (d + 1) 35 [(0, .ref 12)] (.ref 16 :: .ref 12 :: []) hc_48 _
  refine zq_putP fl_RX6_22 rfl (Or.inr ⟨rfl, rfl, rfl⟩) (by decide +kernel) dX6_init_35 (fun h1 e1 => ?_)
  subst e1
  show zQ none m_X6_init (d + 1) 38 [(0, .ref 12)] ([]) hc_49 _
  refine zq_aload_n (k := 0) (i := 0) (x := 12) 0 rfl rfl dX6_init_38 ?_
  refine zq_sipush (v := (nI 1600)) rfl dX6_init_39 ?_
  refine zq_newaI (N := 1600) zar_int (by decide) rfl (by decide) dX6_init_42 (fun h1 e1 => ?_)
  subst e1
  show zQ none m_X6_init (d + 1) 44 [(0, .ref 12)] (.ref 17 :: .ref 12 :: []) hc_50 _
  refine zq_putP fl_RX6_25 rfl (Or.inr ⟨rfl, rfl, rfl⟩) (by decide +kernel) dX6_init_44 (fun h1 e1 => ?_)
  subst e1
  show zQ none m_X6_init (d + 1) 47 [(0, .ref 12)] ([]) hc_51 _
  refine zq_aload_n (k := 0) (i := 0) (x := 12) 0 rfl rfl dX6_init_47 ?_
  refine zq_sipush (v := (nI 780)) rfl dX6_init_48 ?_
  refine zq_newaI (N := 780) zar_int (by decide) rfl (by decide) dX6_init_51 (fun h1 e1 => ?_)
  subst e1
  show zQ none m_X6_init (d + 1) 53 [(0, .ref 12)] (.ref 18 :: .ref 12 :: []) hc_52 _
  refine zq_putP fl_RX6_28 rfl (Or.inr ⟨rfl, rfl, rfl⟩) (by decide +kernel) dX6_init_53 (fun h1 e1 => ?_)
  subst e1
  show zQ none m_X6_init (d + 1) 56 [(0, .ref 12)] ([]) hc_53 _
  refine zq_aload_n (k := 0) (i := 0) (x := 12) 0 rfl rfl dX6_init_56 ?_
  refine zq_sipush (v := (nI 780)) rfl dX6_init_57 ?_
  refine zq_newaI (N := 780) zar_int (by decide) rfl (by decide) dX6_init_60 (fun h1 e1 => ?_)
  subst e1
  show zQ none m_X6_init (d + 1) 62 [(0, .ref 12)] (.ref 19 :: .ref 12 :: []) hc_54 _
  refine zq_putP fl_RX6_31 rfl (Or.inr ⟨rfl, rfl, rfl⟩) (by decide +kernel) dX6_init_62 (fun h1 e1 => ?_)
  subst e1
  show zQ none m_X6_init (d + 1) 65 [(0, .ref 12)] ([]) hc_55 _
  refine zq_aload_n (k := 0) (i := 0) (x := 12) 0 rfl rfl dX6_init_65 ?_
  refine zq_sipush (v := (nI 1600)) rfl dX6_init_66 ?_
  refine zq_newaI (N := 1600) zar_int (by decide) rfl (by decide) dX6_init_69 (fun h1 e1 => ?_)
  subst e1
  show zQ none m_X6_init (d + 1) 71 [(0, .ref 12)] (.ref 20 :: .ref 12 :: []) hc_56 _
  refine zq_putP fl_RX6_34 rfl (Or.inr ⟨rfl, rfl, rfl⟩) (by decide +kernel) dX6_init_71 (fun h1 e1 => ?_)
  subst e1
  show zQ none m_X6_init (d + 1) 74 [(0, .ref 12)] ([]) hc_57 _
  refine zq_aload_n (k := 0) (i := 0) (x := 12) 0 rfl rfl dX6_init_74 ?_
  refine zq_iconst (v := (nI 0)) rfl dX6_init_75 ?_
  refine zq_putI fl_RX6_37 rfl (Or.inl rfl) (by decide +kernel) rfl rfl dX6_init_76 (fun h1 e1 => ?_)
  subst e1
  show zQ none m_X6_init (d + 1) 79 [(0, .ref 12)] ([]) hc_58 _
  exact zq_vret dX6_init_79 rfl ⟨rfl, rfl⟩
set_option maxHeartbeats 4000000 in
set_option maxRecDepth 20000 in
theorem ct_5 {d : Nat} : zK (d + 1) m_X1_init [.ref 21] hc_60 (fun r h' => r = none ∧ h' = hc_64) := by
  refine zK_of mo_X1_init (Nat.le_of_ble_eq_true rfl) ?_
  show zQ none m_X1_init (d + 1) 0 [(0, .ref 21)] [] hc_60 _
  refine zq_aload_n (k := 0) (i := 0) (x := 21) 0 rfl rfl dX1_init_0 ?_
  refine zq_objInit oi_RX1_3 (Nat.le_of_ble_eq_true rfl) dX1_init_1 ?_
  refine zq_aload_n (k := 0) (i := 0) (x := 21) 0 rfl rfl dX1_init_4 ?_
  refine zq_bipush (v := (nI 40)) rfl dX1_init_5 ?_
  refine zq_newaL (N := 40) zar_long (by decide) rfl (by decide) dX1_init_7 (fun h1 e1 => ?_)
  subst e1
  show zQ none m_X1_init (d + 1) 9 [(0, .ref 21)] (.ref 22 :: .ref 21 :: []) hc_61 _
  refine zq_putP fl_RX1_9 rfl (Or.inr ⟨rfl, rfl, rfl⟩) (by decide +kernel) dX1_init_9 (fun h1 e1 => ?_)
  subst e1
  show zQ none m_X1_init (d + 1) 12 [(0, .ref 21)] ([]) hc_62 _
  refine zq_aload_n (k := 0) (i := 0) (x := 21) 0 rfl rfl dX1_init_12 ?_
  refine zq_iconst (v := (nI 0)) rfl dX1_init_13 ?_
  refine zq_putI fl_RX1_15 rfl (Or.inl rfl) (by decide +kernel) rfl rfl dX1_init_14 (fun h1 e1 => ?_)
  subst e1
  show zQ none m_X1_init (d + 1) 17 [(0, .ref 21)] ([]) hc_63 _
  refine zq_aload_n (k := 0) (i := 0) (x := 21) 0 rfl rfl dX1_init_17 ?_
  refine zq_iconst (v := (nI 0)) rfl dX1_init_18 ?_
  refine zq_putI fl_RX1_19 rfl (Or.inl rfl) (by decide +kernel) rfl rfl dX1_init_19 (fun h1 e1 => ?_)
  subst e1
  show zQ none m_X1_init (d + 1) 22 [(0, .ref 21)] ([]) hc_64 _
  exact zq_vret dX1_init_22 rfl ⟨rfl, rfl⟩
set_option maxHeartbeats 4000000 in
set_option maxRecDepth 20000 in
theorem ct_6 {d : Nat} : zK (d + 1) m_X9_init [.ref 23] hc_66 (fun r h' => r = none ∧ h' = hc_71) := by
  refine zK_of mo_X9_init (Nat.le_of_ble_eq_true rfl) ?_
  show zQ none m_X9_init (d + 1) 0 [(0, .ref 23)] [] hc_66 _
  refine zq_aload_n (k := 0) (i := 0) (x := 23) 0 rfl rfl dX9_init_0 ?_
  refine zq_objInit oi_RX9_3 (Nat.le_of_ble_eq_true rfl) dX9_init_1 ?_
  refine zq_aload_n (k := 0) (i := 0) (x := 23) 0 rfl rfl dX9_init_4 ?_
  refine zq_sipush (v := (nI 160)) rfl dX9_init_5 ?_
  refine zq_newaB (N := 160) zar_byte (by decide) rfl (by decide) dX9_init_8 (fun h1 e1 => ?_)
  subst e1
  show zQ none m_X9_init (d + 1) 10 [(0, .ref 23)] (.ref 24 :: .ref 23 :: []) hc_67 _
  refine zq_putP fl_RX9_9 rfl (Or.inr ⟨rfl, rfl, rfl⟩) (by decide +kernel) dX9_init_10 (fun h1 e1 => ?_)
  subst e1
  show zQ none m_X9_init (d + 1) 13 [(0, .ref 23)] ([]) hc_68 _
  refine zq_aload_n (k := 0) (i := 0) (x := 23) 0 rfl rfl dX9_init_13 ?_
  refine zq_iconst (v := (nI 0)) rfl dX9_init_14 ?_
  refine zq_putI fl_RX9_15 rfl (Or.inl rfl) (by decide +kernel) rfl rfl dX9_init_15 (fun h1 e1 => ?_)
  subst e1
  show zQ none m_X9_init (d + 1) 18 [(0, .ref 23)] ([]) hc_69 _
  refine zq_aload_n (k := 0) (i := 0) (x := 23) 0 rfl rfl dX9_init_18 ?_
  refine zq_iconst (v := (nI 0)) rfl dX9_init_19 ?_
  refine zq_putI fl_RX9_19 rfl (Or.inl rfl) (by decide +kernel) rfl rfl dX9_init_20 (fun h1 e1 => ?_)
  subst e1
  show zQ none m_X9_init (d + 1) 23 [(0, .ref 23)] ([]) hc_70 _
  refine zq_aload_n (k := 0) (i := 0) (x := 23) 0 rfl rfl dX9_init_23 ?_
  refine zq_iconst (v := (-1)) rfl dX9_init_24 ?_
  refine zq_putI fl_RX9_22 rfl (Or.inl rfl) (by decide +kernel) rfl rfl dX9_init_25 (fun h1 e1 => ?_)
  subst e1
  show zQ none m_X9_init (d + 1) 28 [(0, .ref 23)] ([]) hc_71 _
  exact zq_vret dX9_init_28 rfl ⟨rfl, rfl⟩
set_option maxHeartbeats 4000000 in
set_option maxRecDepth 20000 in
theorem ct_7 {d : Nat} : zK (d + 1) m_X0_init [.ref 25] hc_73 (fun r h' => r = none ∧ h' = hc_82) := by
  refine zK_of mo_X0_init (Nat.le_of_ble_eq_true rfl) ?_
  show zQ none m_X0_init (d + 1) 0 [(0, .ref 25)] [] hc_73 _
  refine zq_aload_n (k := 0) (i := 0) (x := 25) 0 rfl rfl dX0_init_0 ?_
  refine zq_objInit oi_RX0_3 (Nat.le_of_ble_eq_true rfl) dX0_init_1 ?_
  refine zq_aload_n (k := 0) (i := 0) (x := 25) 0 rfl rfl dX0_init_4 ?_
  refine zq_bipush (v := (nI 54)) rfl dX0_init_5 ?_
  refine zq_newaI (N := 54) zar_int (by decide) rfl (by decide) dX0_init_7 (fun h1 e1 => ?_)
  subst e1
  show zQ none m_X0_init (d + 1) 9 [(0, .ref 25)] (.ref 26 :: .ref 25 :: []) hc_74 _
  refine zq_putP fl_RX0_11 rfl (Or.inr ⟨rfl, rfl, rfl⟩) (by decide +kernel) dX0_init_9 (fun h1 e1 => ?_)
  subst e1
  show zQ none m_X0_init (d + 1) 12 [(0, .ref 25)] ([]) hc_75 _
  refine zq_aload_n (k := 0) (i := 0) (x := 25) 0 rfl rfl dX0_init_12 ?_
  refine zq_bipush (v := (nI 54)) rfl dX0_init_13 ?_
  refine zq_newaI (N := 54) zar_int (by decide) rfl (by decide) dX0_init_15 (fun h1 e1 => ?_)
  subst e1
  show zQ none m_X0_init (d + 1) 17 [(0, .ref 25)] (.ref 27 :: .ref 25 :: []) hc_76 _
  refine zq_putP fl_RX0_15 rfl (Or.inr ⟨rfl, rfl, rfl⟩) (by decide +kernel) dX0_init_17 (fun h1 e1 => ?_)
  subst e1
  show zQ none m_X0_init (d + 1) 20 [(0, .ref 25)] ([]) hc_77 _
  refine zq_aload_n (k := 0) (i := 0) (x := 25) 0 rfl rfl dX0_init_20 ?_
  refine zq_bipush (v := (nI 54)) rfl dX0_init_21 ?_
  refine zq_newaI (N := 54) zar_int (by decide) rfl (by decide) dX0_init_23 (fun h1 e1 => ?_)
  subst e1
  show zQ none m_X0_init (d + 1) 25 [(0, .ref 25)] (.ref 28 :: .ref 25 :: []) hc_78 _
  refine zq_putP fl_RX0_18 rfl (Or.inr ⟨rfl, rfl, rfl⟩) (by decide +kernel) dX0_init_25 (fun h1 e1 => ?_)
  subst e1
  show zQ none m_X0_init (d + 1) 28 [(0, .ref 25)] ([]) hc_79 _
  refine zq_aload_n (k := 0) (i := 0) (x := 25) 0 rfl rfl dX0_init_28 ?_
  refine zq_bipush (v := (nI 54)) rfl dX0_init_29 ?_
  refine zq_newaI (N := 54) zar_int (by decide) rfl (by decide) dX0_init_31 (fun h1 e1 => ?_)
  subst e1
  show zQ none m_X0_init (d + 1) 33 [(0, .ref 25)] (.ref 29 :: .ref 25 :: []) hc_80 _
  refine zq_putP fl_RX0_21 rfl (Or.inr ⟨rfl, rfl, rfl⟩) (by decide +kernel) dX0_init_33 (fun h1 e1 => ?_)
  subst e1
  show zQ none m_X0_init (d + 1) 36 [(0, .ref 25)] ([]) hc_81 _
  refine zq_aload_n (k := 0) (i := 0) (x := 25) 0 rfl rfl dX0_init_36 ?_
  refine zq_iconst (v := (nI 0)) rfl dX0_init_37 ?_
  refine zq_putI fl_RX0_24 rfl (Or.inl rfl) (by decide +kernel) rfl rfl dX0_init_38 (fun h1 e1 => ?_)
  subst e1
  show zQ none m_X0_init (d + 1) 41 [(0, .ref 25)] ([]) hc_82 _
  exact zq_vret dX0_init_41 rfl ⟨rfl, rfl⟩
set_option maxHeartbeats 4000000 in
set_option maxRecDepth 20000 in
theorem ct_8 {d : Nat} : zK (d + 1) m_X7_init [.ref 30] hc_84 (fun r h' => r = none ∧ h' = hc_96) := by
  refine zK_of mo_X7_init (Nat.le_of_ble_eq_true rfl) ?_
  show zQ none m_X7_init (d + 1) 0 [(0, .ref 30)] [] hc_84 _
  refine zq_aload_n (k := 0) (i := 0) (x := 30) 0 rfl rfl dX7_init_0 ?_
  refine zq_objInit oi_RX7_3 (Nat.le_of_ble_eq_true rfl) dX7_init_1 ?_
  refine zq_aload_n (k := 0) (i := 0) (x := 30) 0 rfl rfl dX7_init_4 ?_
  refine zq_bipush (v := (nI 40)) rfl dX7_init_5 ?_
  refine zq_newaL (N := 40) zar_long (by decide) rfl (by decide) dX7_init_7 (fun h1 e1 => ?_)
  subst e1
  show zQ none m_X7_init (d + 1) 9 [(0, .ref 30)] (.ref 31 :: .ref 30 :: []) hc_85 _
  refine zq_putP fl_RX7_9 rfl (Or.inr ⟨rfl, rfl, rfl⟩) (by decide +kernel) dX7_init_9 (fun h1 e1 => ?_)
  subst e1
  show zQ none m_X7_init (d + 1) 12 [(0, .ref 30)] ([]) hc_86 _
  refine zq_aload_n (k := 0) (i := 0) (x := 30) 0 rfl rfl dX7_init_12 ?_
  refine zq_bipush (v := (nI 40)) rfl dX7_init_13 ?_
  refine zq_newaI (N := 40) zar_int (by decide) rfl (by decide) dX7_init_15 (fun h1 e1 => ?_)
  subst e1
  show zQ none m_X7_init (d + 1) 17 [(0, .ref 30)] (.ref 32 :: .ref 30 :: []) hc_87 _
  refine zq_putP fl_RX7_15 rfl (Or.inr ⟨rfl, rfl, rfl⟩) (by decide +kernel) dX7_init_17 (fun h1 e1 => ?_)
  subst e1
  show zQ none m_X7_init (d + 1) 20 [(0, .ref 30)] ([]) hc_88 _
  refine zq_aload_n (k := 0) (i := 0) (x := 30) 0 rfl rfl dX7_init_20 ?_
  refine zq_bipush (v := (nI 40)) rfl dX7_init_21 ?_
  refine zq_newaI (N := 40) zar_int (by decide) rfl (by decide) dX7_init_23 (fun h1 e1 => ?_)
  subst e1
  show zQ none m_X7_init (d + 1) 25 [(0, .ref 30)] (.ref 33 :: .ref 30 :: []) hc_89 _
  refine zq_putP fl_RX7_19 rfl (Or.inr ⟨rfl, rfl, rfl⟩) (by decide +kernel) dX7_init_25 (fun h1 e1 => ?_)
  subst e1
  show zQ none m_X7_init (d + 1) 28 [(0, .ref 30)] ([]) hc_90 _
  refine zq_aload_n (k := 0) (i := 0) (x := 30) 0 rfl rfl dX7_init_28 ?_
  refine zq_bipush (v := (nI 40)) rfl dX7_init_29 ?_
  refine zq_newaI (N := 40) zar_int (by decide) rfl (by decide) dX7_init_31 (fun h1 e1 => ?_)
  subst e1
  show zQ none m_X7_init (d + 1) 33 [(0, .ref 30)] (.ref 34 :: .ref 30 :: []) hc_91 _
  refine zq_putP fl_RX7_22 rfl (Or.inr ⟨rfl, rfl, rfl⟩) (by decide +kernel) dX7_init_33 (fun h1 e1 => ?_)
  subst e1
  show zQ none m_X7_init (d + 1) 36 [(0, .ref 30)] ([]) hc_92 _
  refine zq_aload_n (k := 0) (i := 0) (x := 30) 0 rfl rfl dX7_init_36 ?_
  refine zq_bipush (v := (nI 40)) rfl dX7_init_37 ?_
  refine zq_newaI (N := 40) zar_int (by decide) rfl (by decide) dX7_init_39 (fun h1 e1 => ?_)
  subst e1
  show zQ none m_X7_init (d + 1) 41 [(0, .ref 30)] (.ref 35 :: .ref 30 :: []) hc_93 _
  refine zq_putP fl_RX7_25 rfl (Or.inr ⟨rfl, rfl, rfl⟩) (by decide +kernel) dX7_init_41 (fun h1 e1 => ?_)
  subst e1
  show zQ none m_X7_init (d + 1) 44 [(0, .ref 30)] ([]) hc_94 _
  refine zq_aload_n (k := 0) (i := 0) (x := 30) 0 rfl rfl dX7_init_44 ?_
  refine zq_bipush (v := (nI 40)) rfl dX7_init_45 ?_
  refine zq_newaI (N := 40) zar_int (by decide) rfl (by decide) dX7_init_47 (fun h1 e1 => ?_)
  subst e1
  show zQ none m_X7_init (d + 1) 49 [(0, .ref 30)] (.ref 36 :: .ref 30 :: []) hc_95 _
  refine zq_putP fl_RX7_28 rfl (Or.inr ⟨rfl, rfl, rfl⟩) (by decide +kernel) dX7_init_49 (fun h1 e1 => ?_)
  subst e1
  show zQ none m_X7_init (d + 1) 52 [(0, .ref 30)] ([]) hc_96 _
  exact zq_vret dX7_init_52 rfl ⟨rfl, rfl⟩
set_option maxHeartbeats 4000000 in
set_option maxRecDepth 20000 in
theorem ct_9 {d : Nat} : zK (d + 1) m_X4_init [.ref 37] hc_98 (fun r h' => r = none ∧ h' = hc_101) := by
  refine zK_of mo_X4_init (Nat.le_of_ble_eq_true rfl) ?_
  show zQ none m_X4_init (d + 1) 0 [(0, .ref 37)] [] hc_98 _
  refine zq_aload_n (k := 0) (i := 0) (x := 37) 0 rfl rfl dX4_init_0 ?_
  refine zq_objInit oi_RX4_3 (Nat.le_of_ble_eq_true rfl) dX4_init_1 ?_
  refine zq_aload_n (k := 0) (i := 0) (x := 37) 0 rfl rfl dX4_init_4 ?_
  refine zq_sipush (v := (nI 128)) rfl dX4_init_5 ?_
  refine zq_newaB (N := 128) zar_byte (by decide) rfl (by decide) dX4_init_8 (fun h1 e1 => ?_)
  subst e1
  show zQ none m_X4_init (d + 1) 10 [(0, .ref 37)] (.ref 38 :: .ref 37 :: []) hc_99 _
  refine zq_putP fl_RX4_11 rfl (Or.inl rfl) (by decide +kernel) dX4_init_10 (fun h1 e1 => ?_)
  subst e1
  show zQ none m_X4_init (d + 1) 13 [(0, .ref 37)] ([]) hc_100 _
  refine zq_aload_n (k := 0) (i := 0) (x := 37) 0 rfl rfl dX4_init_13 ?_
  refine zq_iconst (v := (nI 0)) rfl dX4_init_14 ?_
  refine zq_putI fl_RX4_15 rfl (Or.inl rfl) (by decide +kernel) rfl rfl dX4_init_15 (fun h1 e1 => ?_)
  subst e1
  show zQ none m_X4_init (d + 1) 18 [(0, .ref 37)] ([]) hc_101 _
  exact zq_vret dX4_init_18 rfl ⟨rfl, rfl⟩
set_option maxHeartbeats 4000000 in
set_option maxRecDepth 20000 in
theorem ct_10 {d : Nat} : zK (d + 1) m_X8_init [.ref 41, .int (nI 1)] hc_107 (fun r h' => r = none ∧ h' = hc_112) := by
  refine zK_of mo_X8_init (Nat.le_of_ble_eq_true rfl) ?_
  show zQ none m_X8_init (d + 1) 0 [(0, .ref 41), (1, .int (nI 1))] [] hc_107 _
  refine zq_aload_n (k := 0) (i := 0) (x := 41) 0 rfl rfl dX8_init_0 ?_
  refine zq_objInit oi_RX8_3 (Nat.le_of_ble_eq_true rfl) dX8_init_1 ?_
  refine zq_aload_n (k := 0) (i := 0) (x := 41) 0 rfl rfl dX8_init_4 ?_
  refine zq_bipush (v := (nI 60)) rfl dX8_init_5 ?_
  refine zq_newaL (N := 60) zar_long (by decide) rfl (by decide) dX8_init_7 (fun h1 e1 => ?_)
  subst e1
  show zQ none m_X8_init (d + 1) 9 [(0, .ref 41), (1, .int (nI 1))] (.ref 42 :: .ref 41 :: []) hc_108 _
  refine zq_putP fl_RX8_9 rfl (Or.inr ⟨rfl, rfl, rfl⟩) (by decide +kernel) dX8_init_9 (fun h1 e1 => ?_)
  subst e1
  show zQ none m_X8_init (d + 1) 12 [(0, .ref 41), (1, .int (nI 1))] ([]) hc_109 _
  refine zq_aload_n (k := 0) (i := 0) (x := 41) 0 rfl rfl dX8_init_12 ?_
  refine zq_iconst (v := (nI 0)) rfl dX8_init_13 ?_
  refine zq_putI fl_RX8_15 rfl (Or.inl rfl) (by decide +kernel) rfl rfl dX8_init_14 (fun h1 e1 => ?_)
  subst e1
  show zQ none m_X8_init (d + 1) 17 [(0, .ref 41), (1, .int (nI 1))] ([]) hc_110 _
  refine zq_aload_n (k := 0) (i := 0) (x := 41) 0 rfl rfl dX8_init_17 ?_
  refine zq_iconst (v := (nI 0)) rfl dX8_init_18 ?_
  refine zq_putI fl_RX8_19 rfl (Or.inl rfl) (by decide +kernel) rfl rfl dX8_init_19 (fun h1 e1 => ?_)
  subst e1
  show zQ none m_X8_init (d + 1) 22 [(0, .ref 41), (1, .int (nI 1))] ([]) hc_111 _
  refine zq_aload_n (k := 0) (i := 0) (x := 41) 0 rfl rfl dX8_init_22 ?_
  refine zq_iload_n (k := 1) (i := 1) (x := (nI 1)) 1 rfl rfl dX8_init_23 ?_
  refine zq_putI fl_RX8_23 rfl (Or.inr ⟨rfl, rfl, rfl⟩) (by decide +kernel) rfl rfl dX8_init_24 (fun h1 e1 => ?_)
  subst e1
  show zQ none m_X8_init (d + 1) 27 [(0, .ref 41), (1, .int (nI 1))] ([]) hc_112 _
  exact zq_vret dX8_init_27 rfl ⟨rfl, rfl⟩
set_option maxHeartbeats 4000000 in
set_option maxRecDepth 20000 in
theorem ct_11 {d : Nat} : zK (d + 1) m_X8_init [.ref 43, .int (nI 1)] hc_114 (fun r h' => r = none ∧ h' = hc_119) := by
  refine zK_of mo_X8_init (Nat.le_of_ble_eq_true rfl) ?_
  show zQ none m_X8_init (d + 1) 0 [(0, .ref 43), (1, .int (nI 1))] [] hc_114 _
  refine zq_aload_n (k := 0) (i := 0) (x := 43) 0 rfl rfl dX8_init_0 ?_
  refine zq_objInit oi_RX8_3 (Nat.le_of_ble_eq_true rfl) dX8_init_1 ?_
  refine zq_aload_n (k := 0) (i := 0) (x := 43) 0 rfl rfl dX8_init_4 ?_
  refine zq_bipush (v := (nI 60)) rfl dX8_init_5 ?_
  refine zq_newaL (N := 60) zar_long (by decide) rfl (by decide) dX8_init_7 (fun h1 e1 => ?_)
  subst e1
  show zQ none m_X8_init (d + 1) 9 [(0, .ref 43), (1, .int (nI 1))] (.ref 44 :: .ref 43 :: []) hc_115 _
  refine zq_putP fl_RX8_9 rfl (Or.inr ⟨rfl, rfl, rfl⟩) (by decide +kernel) dX8_init_9 (fun h1 e1 => ?_)
  subst e1
  show zQ none m_X8_init (d + 1) 12 [(0, .ref 43), (1, .int (nI 1))] ([]) hc_116 _
  refine zq_aload_n (k := 0) (i := 0) (x := 43) 0 rfl rfl dX8_init_12 ?_
  refine zq_iconst (v := (nI 0)) rfl dX8_init_13 ?_
  refine zq_putI fl_RX8_15 rfl (Or.inl rfl) (by decide +kernel) rfl rfl dX8_init_14 (fun h1 e1 => ?_)
  subst e1
  show zQ none m_X8_init (d + 1) 17 [(0, .ref 43), (1, .int (nI 1))] ([]) hc_117 _
  refine zq_aload_n (k := 0) (i := 0) (x := 43) 0 rfl rfl dX8_init_17 ?_
  refine zq_iconst (v := (nI 0)) rfl dX8_init_18 ?_
  refine zq_putI fl_RX8_19 rfl (Or.inl rfl) (by decide +kernel) rfl rfl dX8_init_19 (fun h1 e1 => ?_)
  subst e1
  show zQ none m_X8_init (d + 1) 22 [(0, .ref 43), (1, .int (nI 1))] ([]) hc_118 _
  refine zq_aload_n (k := 0) (i := 0) (x := 43) 0 rfl rfl dX8_init_22 ?_
  refine zq_iload_n (k := 1) (i := 1) (x := (nI 1)) 1 rfl rfl dX8_init_23 ?_
  refine zq_putI fl_RX8_23 rfl (Or.inr ⟨rfl, rfl, rfl⟩) (by decide +kernel) rfl rfl dX8_init_24 (fun h1 e1 => ?_)
  subst e1
  show zQ none m_X8_init (d + 1) 27 [(0, .ref 43), (1, .int (nI 1))] ([]) hc_119 _
  exact zq_vret dX8_init_27 rfl ⟨rfl, rfl⟩
set_option maxHeartbeats 4000000 in
set_option maxRecDepth 20000 in
theorem ct_12 {d : Nat} : zK (d + 1) m_X8_init [.ref 45, .int (nI 1)] hc_121 (fun r h' => r = none ∧ h' = hc_126) := by
  refine zK_of mo_X8_init (Nat.le_of_ble_eq_true rfl) ?_
  show zQ none m_X8_init (d + 1) 0 [(0, .ref 45), (1, .int (nI 1))] [] hc_121 _
  refine zq_aload_n (k := 0) (i := 0) (x := 45) 0 rfl rfl dX8_init_0 ?_
  refine zq_objInit oi_RX8_3 (Nat.le_of_ble_eq_true rfl) dX8_init_1 ?_
  refine zq_aload_n (k := 0) (i := 0) (x := 45) 0 rfl rfl dX8_init_4 ?_
  refine zq_bipush (v := (nI 60)) rfl dX8_init_5 ?_
  refine zq_newaL (N := 60) zar_long (by decide) rfl (by decide) dX8_init_7 (fun h1 e1 => ?_)
  subst e1
  show zQ none m_X8_init (d + 1) 9 [(0, .ref 45), (1, .int (nI 1))] (.ref 46 :: .ref 45 :: []) hc_122 _
  refine zq_putP fl_RX8_9 rfl (Or.inr ⟨rfl, rfl, rfl⟩) (by decide +kernel) dX8_init_9 (fun h1 e1 => ?_)
  subst e1
  show zQ none m_X8_init (d + 1) 12 [(0, .ref 45), (1, .int (nI 1))] ([]) hc_123 _
  refine zq_aload_n (k := 0) (i := 0) (x := 45) 0 rfl rfl dX8_init_12 ?_
  refine zq_iconst (v := (nI 0)) rfl dX8_init_13 ?_
  refine zq_putI fl_RX8_15 rfl (Or.inl rfl) (by decide +kernel) rfl rfl dX8_init_14 (fun h1 e1 => ?_)
  subst e1
  show zQ none m_X8_init (d + 1) 17 [(0, .ref 45), (1, .int (nI 1))] ([]) hc_124 _
  refine zq_aload_n (k := 0) (i := 0) (x := 45) 0 rfl rfl dX8_init_17 ?_
  refine zq_iconst (v := (nI 0)) rfl dX8_init_18 ?_
  refine zq_putI fl_RX8_19 rfl (Or.inl rfl) (by decide +kernel) rfl rfl dX8_init_19 (fun h1 e1 => ?_)
  subst e1
  show zQ none m_X8_init (d + 1) 22 [(0, .ref 45), (1, .int (nI 1))] ([]) hc_125 _
  refine zq_aload_n (k := 0) (i := 0) (x := 45) 0 rfl rfl dX8_init_22 ?_
  refine zq_iload_n (k := 1) (i := 1) (x := (nI 1)) 1 rfl rfl dX8_init_23 ?_
  refine zq_putI fl_RX8_23 rfl (Or.inr ⟨rfl, rfl, rfl⟩) (by decide +kernel) rfl rfl dX8_init_24 (fun h1 e1 => ?_)
  subst e1
  show zQ none m_X8_init (d + 1) 27 [(0, .ref 45), (1, .int (nI 1))] ([]) hc_126 _
  exact zq_vret dX8_init_27 rfl ⟨rfl, rfl⟩
set_option maxHeartbeats 4000000 in
set_option maxRecDepth 20000 in
theorem ct_13 {d : Nat} : zK (d + 1) m_X8_init [.ref 47, .int (nI 1)] hc_128 (fun r h' => r = none ∧ h' = hc_133) := by
  refine zK_of mo_X8_init (Nat.le_of_ble_eq_true rfl) ?_
  show zQ none m_X8_init (d + 1) 0 [(0, .ref 47), (1, .int (nI 1))] [] hc_128 _
  refine zq_aload_n (k := 0) (i := 0) (x := 47) 0 rfl rfl dX8_init_0 ?_
  refine zq_objInit oi_RX8_3 (Nat.le_of_ble_eq_true rfl) dX8_init_1 ?_
  refine zq_aload_n (k := 0) (i := 0) (x := 47) 0 rfl rfl dX8_init_4 ?_
  refine zq_bipush (v := (nI 60)) rfl dX8_init_5 ?_
  refine zq_newaL (N := 60) zar_long (by decide) rfl (by decide) dX8_init_7 (fun h1 e1 => ?_)
  subst e1
  show zQ none m_X8_init (d + 1) 9 [(0, .ref 47), (1, .int (nI 1))] (.ref 48 :: .ref 47 :: []) hc_129 _
  refine zq_putP fl_RX8_9 rfl (Or.inr ⟨rfl, rfl, rfl⟩) (by decide +kernel) dX8_init_9 (fun h1 e1 => ?_)
  subst e1
  show zQ none m_X8_init (d + 1) 12 [(0, .ref 47), (1, .int (nI 1))] ([]) hc_130 _
  refine zq_aload_n (k := 0) (i := 0) (x := 47) 0 rfl rfl dX8_init_12 ?_
  refine zq_iconst (v := (nI 0)) rfl dX8_init_13 ?_
  refine zq_putI fl_RX8_15 rfl (Or.inl rfl) (by decide +kernel) rfl rfl dX8_init_14 (fun h1 e1 => ?_)
  subst e1
  show zQ none m_X8_init (d + 1) 17 [(0, .ref 47), (1, .int (nI 1))] ([]) hc_131 _
  refine zq_aload_n (k := 0) (i := 0) (x := 47) 0 rfl rfl dX8_init_17 ?_
  refine zq_iconst (v := (nI 0)) rfl dX8_init_18 ?_
  refine zq_putI fl_RX8_19 rfl (Or.inl rfl) (by decide +kernel) rfl rfl dX8_init_19 (fun h1 e1 => ?_)
  subst e1
  show zQ none m_X8_init (d + 1) 22 [(0, .ref 47), (1, .int (nI 1))] ([]) hc_132 _
  refine zq_aload_n (k := 0) (i := 0) (x := 47) 0 rfl rfl dX8_init_22 ?_
  refine zq_iload_n (k := 1) (i := 1) (x := (nI 1)) 1 rfl rfl dX8_init_23 ?_
  refine zq_putI fl_RX8_23 rfl (Or.inr ⟨rfl, rfl, rfl⟩) (by decide +kernel) rfl rfl dX8_init_24 (fun h1 e1 => ?_)
  subst e1
  show zQ none m_X8_init (d + 1) 27 [(0, .ref 47), (1, .int (nI 1))] ([]) hc_133 _
  exact zq_vret dX8_init_27 rfl ⟨rfl, rfl⟩
set_option maxHeartbeats 4000000 in
set_option maxRecDepth 20000 in
theorem ct_14 {d : Nat} : zK (d + 1) m_X8_init [.ref 49, .int (nI 0)] hc_135 (fun r h' => r = none ∧ h' = hc_140) := by
  refine zK_of mo_X8_init (Nat.le_of_ble_eq_true rfl) ?_
  show zQ none m_X8_init (d + 1) 0 [(0, .ref 49), (1, .int (nI 0))] [] hc_135 _
  refine zq_aload_n (k := 0) (i := 0) (x := 49) 0 rfl rfl dX8_init_0 ?_
  refine zq_objInit oi_RX8_3 (Nat.le_of_ble_eq_true rfl) dX8_init_1 ?_
  refine zq_aload_n (k := 0) (i := 0) (x := 49) 0 rfl rfl dX8_init_4 ?_
  refine zq_bipush (v := (nI 60)) rfl dX8_init_5 ?_
  refine zq_newaL (N := 60) zar_long (by decide) rfl (by decide) dX8_init_7 (fun h1 e1 => ?_)
  subst e1
  show zQ none m_X8_init (d + 1) 9 [(0, .ref 49), (1, .int (nI 0))] (.ref 50 :: .ref 49 :: []) hc_136 _
  refine zq_putP fl_RX8_9 rfl (Or.inr ⟨rfl, rfl, rfl⟩) (by decide +kernel) dX8_init_9 (fun h1 e1 => ?_)
  subst e1
  show zQ none m_X8_init (d + 1) 12 [(0, .ref 49), (1, .int (nI 0))] ([]) hc_137 _
  refine zq_aload_n (k := 0) (i := 0) (x := 49) 0 rfl rfl dX8_init_12 ?_
  refine zq_iconst (v := (nI 0)) rfl dX8_init_13 ?_
  refine zq_putI fl_RX8_15 rfl (Or.inl rfl) (by decide +kernel) rfl rfl dX8_init_14 (fun h1 e1 => ?_)
  subst e1
  show zQ none m_X8_init (d + 1) 17 [(0, .ref 49), (1, .int (nI 0))] ([]) hc_138 _
  refine zq_aload_n (k := 0) (i := 0) (x := 49) 0 rfl rfl dX8_init_17 ?_
  refine zq_iconst (v := (nI 0)) rfl dX8_init_18 ?_
  refine zq_putI fl_RX8_19 rfl (Or.inl rfl) (by decide +kernel) rfl rfl dX8_init_19 (fun h1 e1 => ?_)
  subst e1
  show zQ none m_X8_init (d + 1) 22 [(0, .ref 49), (1, .int (nI 0))] ([]) hc_139 _
  refine zq_aload_n (k := 0) (i := 0) (x := 49) 0 rfl rfl dX8_init_22 ?_
  refine zq_iload_n (k := 1) (i := 1) (x := (nI 0)) 1 rfl rfl dX8_init_23 ?_
  refine zq_putI fl_RX8_23 rfl (Or.inr ⟨rfl, rfl, rfl⟩) (by decide +kernel) rfl rfl dX8_init_24 (fun h1 e1 => ?_)
  subst e1
  show zQ none m_X8_init (d + 1) 27 [(0, .ref 49), (1, .int (nI 0))] ([]) hc_140 _
  exact zq_vret dX8_init_27 rfl ⟨rfl, rfl⟩
set_option maxHeartbeats 4000000 in
set_option maxRecDepth 20000 in
theorem ct_15 {d : Nat} : zK (d + 1) m_X8_init [.ref 51, .int (nI 0)] hc_142 (fun r h' => r = none ∧ h' = hc_147) := by
  refine zK_of mo_X8_init (Nat.le_of_ble_eq_true rfl) ?_
  show zQ none m_X8_init (d + 1) 0 [(0, .ref 51), (1, .int (nI 0))] [] hc_142 _
  refine zq_aload_n (k := 0) (i := 0) (x := 51) 0 rfl rfl dX8_init_0 ?_
  refine zq_objInit oi_RX8_3 (Nat.le_of_ble_eq_true rfl) dX8_init_1 ?_
  refine zq_aload_n (k := 0) (i := 0) (x := 51) 0 rfl rfl dX8_init_4 ?_
  refine zq_bipush (v := (nI 60)) rfl dX8_init_5 ?_
  refine zq_newaL (N := 60) zar_long (by decide) rfl (by decide) dX8_init_7 (fun h1 e1 => ?_)
  subst e1
  show zQ none m_X8_init (d + 1) 9 [(0, .ref 51), (1, .int (nI 0))] (.ref 52 :: .ref 51 :: []) hc_143 _
  refine zq_putP fl_RX8_9 rfl (Or.inr ⟨rfl, rfl, rfl⟩) (by decide +kernel) dX8_init_9 (fun h1 e1 => ?_)
  subst e1
  show zQ none m_X8_init (d + 1) 12 [(0, .ref 51), (1, .int (nI 0))] ([]) hc_144 _
  refine zq_aload_n (k := 0) (i := 0) (x := 51) 0 rfl rfl dX8_init_12 ?_
  refine zq_iconst (v := (nI 0)) rfl dX8_init_13 ?_
  refine zq_putI fl_RX8_15 rfl (Or.inl rfl) (by decide +kernel) rfl rfl dX8_init_14 (fun h1 e1 => ?_)
  subst e1
  show zQ none m_X8_init (d + 1) 17 [(0, .ref 51), (1, .int (nI 0))] ([]) hc_145 _
  refine zq_aload_n (k := 0) (i := 0) (x := 51) 0 rfl rfl dX8_init_17 ?_
  refine zq_iconst (v := (nI 0)) rfl dX8_init_18 ?_
  refine zq_putI fl_RX8_19 rfl (Or.inl rfl) (by decide +kernel) rfl rfl dX8_init_19 (fun h1 e1 => ?_)
  subst e1
  show zQ none m_X8_init (d + 1) 22 [(0, .ref 51), (1, .int (nI 0))] ([]) hc_146 _
  refine zq_aload_n (k := 0) (i := 0) (x := 51) 0 rfl rfl dX8_init_22 ?_
  refine zq_iload_n (k := 1) (i := 1) (x := (nI 0)) 1 rfl rfl dX8_init_23 ?_
  refine zq_putI fl_RX8_23 rfl (Or.inr ⟨rfl, rfl, rfl⟩) (by decide +kernel) rfl rfl dX8_init_24 (fun h1 e1 => ?_)
  subst e1
  show zQ none m_X8_init (d + 1) 27 [(0, .ref 51), (1, .int (nI 0))] ([]) hc_147 _
  exact zq_vret dX8_init_27 rfl ⟨rfl, rfl⟩
set_option maxHeartbeats 4000000 in
set_option maxRecDepth 20000 in
theorem ct_16 {d : Nat} : zK (d + 3) m_X10_init [.ref 1] hc_1 (fun r h' => r = none ∧ h' = hc_148) := by
  refine zK_of mo_X10_init (Nat.le_of_ble_eq_true rfl) ?_
  show zQ none m_X10_init (d + 3) 0 [(0, .ref 1)] [] hc_1 _
  refine zq_aload_n (k := 0) (i := 0) (x := 1) 0 rfl rfl dX10_init_0 ?_
  refine zq_objInit oi_RX10_5 (Nat.le_of_ble_eq_true rfl) dX10_init_1 ?_
  refine zq_aload_n (k := 0) (i := 0) (x := 1) 0 rfl rfl dX10_init_4 ?_
  refine zq_new (c := 2) (by decide) cx_RX10_11 is_2 ni_2 dX10_init_5 (fun h1 e1 => ?_)
  subst e1
  show zQ none m_X10_init (d + 3) 8 [(0, .ref 1)] (.ref 2 :: .ref 1 :: []) hc_2 _
  refine zq_dup rfl dX10_init_8 ?_
  refine zq_invI (as := []) (st := .ref 2 :: .ref 1 :: []) (o := 2) in_X3_init rfl rfl mo_X3_init ml_RX10_13 rfl (Nat.le_of_ble_eq_true rfl) dX10_init_9 rfl (ct_1 (d := d + 0)) (fun r1 h1 hq => ?_)
  obtain ⟨rfl, rfl⟩ := hq
  show zQ none m_X10_init (d + 3) 12 [(0, .ref 1)] (.ref 2 :: .ref 1 :: []) hc_19 _
  refine zq_putP fl_RX10_14 rfl (Or.inr ⟨rfl, rfl, rfl⟩) (by decide +kernel) dX10_init_12 (fun h1 e1 => ?_)
  subst e1
  show zQ none m_X10_init (d + 3) 15 [(0, .ref 1)] ([]) hc_20 _
  refine zq_aload_n (k := 0) (i := 0) (x := 1) 0 rfl rfl dX10_init_15 ?_
  refine zq_new (c := 2) (by decide) cx_RX10_11 is_2 ni_2 dX10_init_16 (fun h1 e1 => ?_)
  subst e1
  show zQ none m_X10_init (d + 3) 19 [(0, .ref 1)] (.ref 7 :: .ref 1 :: []) hc_21 _
  refine zq_dup rfl dX10_init_19 ?_
  refine zq_invI (as := []) (st := .ref 7 :: .ref 1 :: []) (o := 7) in_X3_init rfl rfl mo_X3_init ml_RX10_13 rfl (Nat.le_of_ble_eq_true rfl) dX10_init_20 rfl (ct_3 (d := d + 0)) (fun r1 h1 hq => ?_)
  obtain ⟨rfl, rfl⟩ := hq
  show zQ none m_X10_init (d + 3) 23 [(0, .ref 1)] (.ref 7 :: .ref 1 :: []) hc_38 _
  refine zq_putP fl_RX10_18 rfl (Or.inr ⟨rfl, rfl, rfl⟩) (by decide +kernel) dX10_init_23 (fun h1 e1 => ?_)
  subst e1
  show zQ none m_X10_init (d + 3) 26 [(0, .ref 1)] ([]) hc_39 _
  refine zq_aload_n (k := 0) (i := 0) (x := 1) 0 rfl rfl dX10_init_26 ?_
  refine zq_iconst (v := (nI 0)) rfl dX10_init_27 ?_
  refine zq_putI fl_RX10_21 rfl (Or.inl rfl) (by decide +kernel) rfl rfl dX10_init_28 (fun h1 e1 => ?_)
  subst e1
  show zQ none m_X10_init (d + 3) 31 [(0, .ref 1)] ([]) hc_40 _
  refine zq_aload_n (k := 0) (i := 0) (x := 1) 0 rfl rfl dX10_init_31 ?_
  refine zq_new (c := 5) (by decide) cx_RX10_25 is_5 ni_5 dX10_init_32 (fun h1 e1 => ?_)
  subst e1
  show zQ none m_X10_init (d + 3) 35 [(0, .ref 1)] (.ref 12 :: .ref 1 :: []) hc_41 _
  refine zq_dup rfl dX10_init_35 ?_
  refine zq_invI (as := []) (st := .ref 12 :: .ref 1 :: []) (o := 12) in_X6_init rfl rfl mo_X6_init ml_RX10_27 rfl (Nat.le_of_ble_eq_true rfl) dX10_init_36 rfl (ct_4 (d := d + 1)) (fun r1 h1 hq => ?_)
  obtain ⟨rfl, rfl⟩ := hq
  show zQ none m_X10_init (d + 3) 39 [(0, .ref 1)] (.ref 12 :: .ref 1 :: []) hc_58 _
  refine zq_putP fl_RX10_28 rfl (Or.inr ⟨rfl, rfl, rfl⟩) (by decide +kernel) dX10_init_39 (fun h1 e1 => ?_)
  subst e1
  show zQ none m_X10_init (d + 3) 42 [(0, .ref 1)] ([]) hc_59 _
  refine zq_aload_n (k := 0) (i := 0) (x := 1) 0 rfl rfl dX10_init_42 ?_
  refine zq_new (c := 1) (by decide) cx_RX10_32 is_1 ni_1 dX10_init_43 (fun h1 e1 => ?_)
  subst e1
  show zQ none m_X10_init (d + 3) 46 [(0, .ref 1)] (.ref 21 :: .ref 1 :: []) hc_60 _
  refine zq_dup rfl dX10_init_46 ?_
  refine zq_invI (as := []) (st := .ref 21 :: .ref 1 :: []) (o := 21) in_X1_init rfl rfl mo_X1_init ml_RX10_34 rfl (Nat.le_of_ble_eq_true rfl) dX10_init_47 rfl (ct_5 (d := d + 1)) (fun r1 h1 hq => ?_)
  obtain ⟨rfl, rfl⟩ := hq
  show zQ none m_X10_init (d + 3) 50 [(0, .ref 1)] (.ref 21 :: .ref 1 :: []) hc_64 _
  refine zq_putP fl_RX10_35 rfl (Or.inr ⟨rfl, rfl, rfl⟩) (by decide +kernel) dX10_init_50 (fun h1 e1 => ?_)
  subst e1
  show zQ none m_X10_init (d + 3) 53 [(0, .ref 1)] ([]) hc_65 _
  refine zq_aload_n (k := 0) (i := 0) (x := 1) 0 rfl rfl dX10_init_53 ?_
  refine zq_new (c := 8) (by decide) cx_RX10_39 is_8 ni_8 dX10_init_54 (fun h1 e1 => ?_)
  subst e1
  show zQ none m_X10_init (d + 3) 57 [(0, .ref 1)] (.ref 23 :: .ref 1 :: []) hc_66 _
  refine zq_dup rfl dX10_init_57 ?_
  refine zq_invI (as := []) (st := .ref 23 :: .ref 1 :: []) (o := 23) in_X9_init rfl rfl mo_X9_init ml_RX10_41 rfl (Nat.le_of_ble_eq_true rfl) dX10_init_58 rfl (ct_6 (d := d + 1)) (fun r1 h1 hq => ?_)
  obtain ⟨rfl, rfl⟩ := hq
  show zQ none m_X10_init (d + 3) 61 [(0, .ref 1)] (.ref 23 :: .ref 1 :: []) hc_71 _
  refine zq_putP fl_RX10_42 rfl (Or.inr ⟨rfl, rfl, rfl⟩) (by decide +kernel) dX10_init_61 (fun h1 e1 => ?_)
  subst e1
  show zQ none m_X10_init (d + 3) 64 [(0, .ref 1)] ([]) hc_72 _
  refine zq_aload_n (k := 0) (i := 0) (x := 1) 0 rfl rfl dX10_init_64 ?_
  refine zq_new (c := 0) (by decide) cx_RX10_46 is_0 ni_0 dX10_init_65 (fun h1 e1 => ?_)
  subst e1
  show zQ none m_X10_init (d + 3) 68 [(0, .ref 1)] (.ref 25 :: .ref 1 :: []) hc_73 _
  refine zq_dup rfl dX10_init_68 ?_
  refine zq_invI (as := []) (st := .ref 25 :: .ref 1 :: []) (o := 25) in_X0_init rfl rfl mo_X0_init ml_RX10_48 rfl (Nat.le_of_ble_eq_true rfl) dX10_init_69 rfl (ct_7 (d := d + 1)) (fun r1 h1 hq => ?_)
  obtain ⟨rfl, rfl⟩ := hq
  show zQ none m_X10_init (d + 3) 72 [(0, .ref 1)] (.ref 25 :: .ref 1 :: []) hc_82 _
  refine zq_putP fl_RX10_49 rfl (Or.inr ⟨rfl, rfl, rfl⟩) (by decide +kernel) dX10_init_72 (fun h1 e1 => ?_)
  subst e1
  show zQ none m_X10_init (d + 3) 75 [(0, .ref 1)] ([]) hc_83 _
  refine zq_aload_n (k := 0) (i := 0) (x := 1) 0 rfl rfl dX10_init_75 ?_
  refine zq_new (c := 6) (by decide) cx_RX10_53 is_6 ni_6 dX10_init_76 (fun h1 e1 => ?_)
  subst e1
  show zQ none m_X10_init (d + 3) 79 [(0, .ref 1)] (.ref 30 :: .ref 1 :: []) hc_84 _
  refine zq_dup rfl dX10_init_79 ?_
  refine zq_invI (as := []) (st := .ref 30 :: .ref 1 :: []) (o := 30) in_X7_init rfl rfl mo_X7_init ml_RX10_55 rfl (Nat.le_of_ble_eq_true rfl) dX10_init_80 rfl (ct_8 (d := d + 1)) (fun r1 h1 hq => ?_)
  obtain ⟨rfl, rfl⟩ := hq
  show zQ none m_X10_init (d + 3) 83 [(0, .ref 1)] (.ref 30 :: .ref 1 :: []) hc_96 _
  refine zq_putP fl_RX10_56 rfl (Or.inr ⟨rfl, rfl, rfl⟩) (by decide +kernel) dX10_init_83 (fun h1 e1 => ?_)
  subst e1
  show zQ none m_X10_init (d + 3) 86 [(0, .ref 1)] ([]) hc_97 _
  refine zq_aload_n (k := 0) (i := 0) (x := 1) 0 rfl rfl dX10_init_86 ?_
  refine zq_new (c := 3) (by decide) cx_RX10_60 is_3 ni_3 dX10_init_87 (fun h1 e1 => ?_)
  subst e1
  show zQ none m_X10_init (d + 3) 90 [(0, .ref 1)] (.ref 37 :: .ref 1 :: []) hc_98 _
  refine zq_dup rfl dX10_init_90 ?_
  refine zq_invI (as := []) (st := .ref 37 :: .ref 1 :: []) (o := 37) in_X4_init rfl rfl mo_X4_init ml_RX10_62 rfl (Nat.le_of_ble_eq_true rfl) dX10_init_91 rfl (ct_9 (d := d + 1)) (fun r1 h1 hq => ?_)
  obtain ⟨rfl, rfl⟩ := hq
  show zQ none m_X10_init (d + 3) 94 [(0, .ref 1)] (.ref 37 :: .ref 1 :: []) hc_101 _
  refine zq_putP fl_RX10_63 rfl (Or.inr ⟨rfl, rfl, rfl⟩) (by decide +kernel) dX10_init_94 (fun h1 e1 => ?_)
  subst e1
  show zQ none m_X10_init (d + 3) 97 [(0, .ref 1)] ([]) hc_102 _
  refine zq_aload_n (k := 0) (i := 0) (x := 1) 0 rfl rfl dX10_init_97 ?_
  refine zq_bipush (v := (nI 6)) rfl dX10_init_98 ?_
  refine zq_newaR (N := 6) cx_RX10_67 (by decide) rfl (by decide) dX10_init_100 (fun h1 e1 => ?_)
  subst e1
  show zQ none m_X10_init (d + 3) 103 [(0, .ref 1)] (.ref 39 :: .ref 1 :: []) hc_103 _
  refine zq_putP fl_RX10_69 rfl (Or.inr ⟨rfl, rfl, rfl⟩) (by decide +kernel) dX10_init_103 (fun h1 e1 => ?_)
  subst e1
  show zQ none m_X10_init (d + 3) 106 [(0, .ref 1)] ([]) hc_104 _
  refine zq_aload_n (k := 0) (i := 0) (x := 1) 0 rfl rfl dX10_init_106 ?_
  refine zq_bipush (v := (nI 40)) rfl dX10_init_107 ?_
  refine zq_newaI (N := 40) zar_int (by decide) rfl (by decide) dX10_init_109 (fun h1 e1 => ?_)
  subst e1
  show zQ none m_X10_init (d + 3) 111 [(0, .ref 1)] (.ref 40 :: .ref 1 :: []) hc_105 _
  refine zq_putP fl_RX10_73 rfl (Or.inr ⟨rfl, rfl, rfl⟩) (by decide +kernel) dX10_init_111 (fun h1 e1 => ?_)
  subst e1
  show zQ none m_X10_init (d + 3) 114 [(0, .ref 1)] ([]) hc_106 _
  refine zq_iconst (v := (nI 0)) rfl dX10_init_114 ?_
  refine zq_istore_n (ls' := [(1, .int (nI 0)), (0, .ref 1)]) (k := 1) (i := 1) rfl (Nat.le_of_ble_eq_true rfl) rfl dX10_init_115 ?_
  refine zq_iload_n (k := 1) (i := 1) (x := (nI 0)) 0 rfl rfl dX10_init_116 ?_
  refine zq_bipush (v := (nI 6)) rfl dX10_init_117 ?_
  refine zq_icmp_ge (tgt := 151) dX10_init_119 rfl ⟨fun q => absurd q (by decide), fun _ => ?_⟩
  refine zq_aload_n (k := 0) (i := 0) (x := 1) 1 rfl rfl dX10_init_122 ?_
  refine zq_getP fl_RX10_69 rfl (c := 9) (by decide +kernel) (q := 39) (by decide +kernel) dX10_init_123 ?_
  refine zq_iload_n (k := 1) (i := 1) (x := (nI 0)) 0 rfl rfl dX10_init_126 ?_
  refine zq_new (c := 7) (by decide) cx_RX10_67 is_7 ni_7 dX10_init_127 (fun h1 e1 => ?_)
  subst e1
  show zQ none m_X10_init (d + 3) 130 [(1, .int (nI 0)), (0, .ref 1)] (.ref 41 :: .int (nI 0) :: .ref 39 :: []) hc_107 _
  refine zq_dup rfl dX10_init_130 ?_
  refine zq_iload_n (k := 1) (i := 1) (x := (nI 0)) 0 rfl rfl dX10_init_131 ?_
  refine zq_iconst (v := (nI 4)) rfl dX10_init_132 ?_
  refine zq_icmp_ge (tgt := 140) dX10_init_133 rfl ⟨fun q => absurd q (by decide), fun _ => ?_⟩
  refine zq_iconst (v := (nI 1)) rfl dX10_init_136 ?_
  refine zq_goto (tgt := 141) dX10_init_137 rfl ?_
  refine zq_invI (as := [.int (nI 1)]) (st := .ref 41 :: .int (nI 0) :: .ref 39 :: []) (o := 41) in_X8_init rfl rfl mo_X8_init ml_RX10_77 rfl (Nat.le_of_ble_eq_true rfl) dX10_init_141 rfl (ct_10 (d := d + 1)) (fun r1 h1 hq => ?_)
  obtain ⟨rfl, rfl⟩ := hq
  show zQ none m_X10_init (d + 3) 144 [(1, .int (nI 0)), (0, .ref 1)] (.ref 41 :: .int (nI 0) :: .ref 39 :: []) hc_112 _
  refine zq_aast (n := 6) (by decide +kernel) (vp_in_nI (by decide) (by decide)) (by decide +kernel) dX10_init_144 (fun h1 e1 => ?_)
  subst e1
  show zQ none m_X10_init (d + 3) 145 [(1, .int (nI 0)), (0, .ref 1)] ([]) hc_113 _
  refine zq_iinc (i := 1) (x := (nI 0)) (v := (nI 1)) (ls' := [(1, .int (nI 1)), (0, .ref 1)]) 0 rfl rfl (Nat.le_of_ble_eq_true rfl) rfl dX10_init_145 ?_
  refine zq_goto (tgt := 116) dX10_init_148 rfl ?_
  refine zq_iload_n (k := 1) (i := 1) (x := (nI 1)) 0 rfl rfl dX10_init_116 ?_
  refine zq_bipush (v := (nI 6)) rfl dX10_init_117 ?_
  refine zq_icmp_ge (tgt := 151) dX10_init_119 rfl ⟨fun q => absurd q (by decide), fun _ => ?_⟩
  refine zq_aload_n (k := 0) (i := 0) (x := 1) 1 rfl rfl dX10_init_122 ?_
  refine zq_getP fl_RX10_69 rfl (c := 9) (by decide +kernel) (q := 39) (by decide +kernel) dX10_init_123 ?_
  refine zq_iload_n (k := 1) (i := 1) (x := (nI 1)) 0 rfl rfl dX10_init_126 ?_
  refine zq_new (c := 7) (by decide) cx_RX10_67 is_7 ni_7 dX10_init_127 (fun h1 e1 => ?_)
  subst e1
  show zQ none m_X10_init (d + 3) 130 [(1, .int (nI 1)), (0, .ref 1)] (.ref 43 :: .int (nI 1) :: .ref 39 :: []) hc_114 _
  refine zq_dup rfl dX10_init_130 ?_
  refine zq_iload_n (k := 1) (i := 1) (x := (nI 1)) 0 rfl rfl dX10_init_131 ?_
  refine zq_iconst (v := (nI 4)) rfl dX10_init_132 ?_
  refine zq_icmp_ge (tgt := 140) dX10_init_133 rfl ⟨fun q => absurd q (by decide), fun _ => ?_⟩
  refine zq_iconst (v := (nI 1)) rfl dX10_init_136 ?_
  refine zq_goto (tgt := 141) dX10_init_137 rfl ?_
  refine zq_invI (as := [.int (nI 1)]) (st := .ref 43 :: .int (nI 1) :: .ref 39 :: []) (o := 43) in_X8_init rfl rfl mo_X8_init ml_RX10_77 rfl (Nat.le_of_ble_eq_true rfl) dX10_init_141 rfl (ct_11 (d := d + 1)) (fun r1 h1 hq => ?_)
  obtain ⟨rfl, rfl⟩ := hq
  show zQ none m_X10_init (d + 3) 144 [(1, .int (nI 1)), (0, .ref 1)] (.ref 43 :: .int (nI 1) :: .ref 39 :: []) hc_119 _
  refine zq_aast (n := 6) (by decide +kernel) (vp_in_nI (by decide) (by decide)) (by decide +kernel) dX10_init_144 (fun h1 e1 => ?_)
  subst e1
  show zQ none m_X10_init (d + 3) 145 [(1, .int (nI 1)), (0, .ref 1)] ([]) hc_120 _
  refine zq_iinc (i := 1) (x := (nI 1)) (v := (nI 1)) (ls' := [(1, .int (nI 2)), (0, .ref 1)]) 0 rfl rfl (Nat.le_of_ble_eq_true rfl) rfl dX10_init_145 ?_
  refine zq_goto (tgt := 116) dX10_init_148 rfl ?_
  refine zq_iload_n (k := 1) (i := 1) (x := (nI 2)) 0 rfl rfl dX10_init_116 ?_
  refine zq_bipush (v := (nI 6)) rfl dX10_init_117 ?_
  refine zq_icmp_ge (tgt := 151) dX10_init_119 rfl ⟨fun q => absurd q (by decide), fun _ => ?_⟩
  refine zq_aload_n (k := 0) (i := 0) (x := 1) 1 rfl rfl dX10_init_122 ?_
  refine zq_getP fl_RX10_69 rfl (c := 9) (by decide +kernel) (q := 39) (by decide +kernel) dX10_init_123 ?_
  refine zq_iload_n (k := 1) (i := 1) (x := (nI 2)) 0 rfl rfl dX10_init_126 ?_
  refine zq_new (c := 7) (by decide) cx_RX10_67 is_7 ni_7 dX10_init_127 (fun h1 e1 => ?_)
  subst e1
  show zQ none m_X10_init (d + 3) 130 [(1, .int (nI 2)), (0, .ref 1)] (.ref 45 :: .int (nI 2) :: .ref 39 :: []) hc_121 _
  refine zq_dup rfl dX10_init_130 ?_
  refine zq_iload_n (k := 1) (i := 1) (x := (nI 2)) 0 rfl rfl dX10_init_131 ?_
  refine zq_iconst (v := (nI 4)) rfl dX10_init_132 ?_
  refine zq_icmp_ge (tgt := 140) dX10_init_133 rfl ⟨fun q => absurd q (by decide), fun _ => ?_⟩
  refine zq_iconst (v := (nI 1)) rfl dX10_init_136 ?_
  refine zq_goto (tgt := 141) dX10_init_137 rfl ?_
  refine zq_invI (as := [.int (nI 1)]) (st := .ref 45 :: .int (nI 2) :: .ref 39 :: []) (o := 45) in_X8_init rfl rfl mo_X8_init ml_RX10_77 rfl (Nat.le_of_ble_eq_true rfl) dX10_init_141 rfl (ct_12 (d := d + 1)) (fun r1 h1 hq => ?_)
  obtain ⟨rfl, rfl⟩ := hq
  show zQ none m_X10_init (d + 3) 144 [(1, .int (nI 2)), (0, .ref 1)] (.ref 45 :: .int (nI 2) :: .ref 39 :: []) hc_126 _
  refine zq_aast (n := 6) (by decide +kernel) (vp_in_nI (by decide) (by decide)) (by decide +kernel) dX10_init_144 (fun h1 e1 => ?_)
  subst e1
  show zQ none m_X10_init (d + 3) 145 [(1, .int (nI 2)), (0, .ref 1)] ([]) hc_127 _
  refine zq_iinc (i := 1) (x := (nI 2)) (v := (nI 1)) (ls' := [(1, .int (nI 3)), (0, .ref 1)]) 0 rfl rfl (Nat.le_of_ble_eq_true rfl) rfl dX10_init_145 ?_
  refine zq_goto (tgt := 116) dX10_init_148 rfl ?_
  refine zq_iload_n (k := 1) (i := 1) (x := (nI 3)) 0 rfl rfl dX10_init_116 ?_
  refine zq_bipush (v := (nI 6)) rfl dX10_init_117 ?_
  refine zq_icmp_ge (tgt := 151) dX10_init_119 rfl ⟨fun q => absurd q (by decide), fun _ => ?_⟩
  refine zq_aload_n (k := 0) (i := 0) (x := 1) 1 rfl rfl dX10_init_122 ?_
  refine zq_getP fl_RX10_69 rfl (c := 9) (by decide +kernel) (q := 39) (by decide +kernel) dX10_init_123 ?_
  refine zq_iload_n (k := 1) (i := 1) (x := (nI 3)) 0 rfl rfl dX10_init_126 ?_
  refine zq_new (c := 7) (by decide) cx_RX10_67 is_7 ni_7 dX10_init_127 (fun h1 e1 => ?_)
  subst e1
  show zQ none m_X10_init (d + 3) 130 [(1, .int (nI 3)), (0, .ref 1)] (.ref 47 :: .int (nI 3) :: .ref 39 :: []) hc_128 _
  refine zq_dup rfl dX10_init_130 ?_
  refine zq_iload_n (k := 1) (i := 1) (x := (nI 3)) 0 rfl rfl dX10_init_131 ?_
  refine zq_iconst (v := (nI 4)) rfl dX10_init_132 ?_
  refine zq_icmp_ge (tgt := 140) dX10_init_133 rfl ⟨fun q => absurd q (by decide), fun _ => ?_⟩
  refine zq_iconst (v := (nI 1)) rfl dX10_init_136 ?_
  refine zq_goto (tgt := 141) dX10_init_137 rfl ?_
  refine zq_invI (as := [.int (nI 1)]) (st := .ref 47 :: .int (nI 3) :: .ref 39 :: []) (o := 47) in_X8_init rfl rfl mo_X8_init ml_RX10_77 rfl (Nat.le_of_ble_eq_true rfl) dX10_init_141 rfl (ct_13 (d := d + 1)) (fun r1 h1 hq => ?_)
  obtain ⟨rfl, rfl⟩ := hq
  show zQ none m_X10_init (d + 3) 144 [(1, .int (nI 3)), (0, .ref 1)] (.ref 47 :: .int (nI 3) :: .ref 39 :: []) hc_133 _
  refine zq_aast (n := 6) (by decide +kernel) (vp_in_nI (by decide) (by decide)) (by decide +kernel) dX10_init_144 (fun h1 e1 => ?_)
  subst e1
  show zQ none m_X10_init (d + 3) 145 [(1, .int (nI 3)), (0, .ref 1)] ([]) hc_134 _
  refine zq_iinc (i := 1) (x := (nI 3)) (v := (nI 1)) (ls' := [(1, .int (nI 4)), (0, .ref 1)]) 0 rfl rfl (Nat.le_of_ble_eq_true rfl) rfl dX10_init_145 ?_
  refine zq_goto (tgt := 116) dX10_init_148 rfl ?_
  refine zq_iload_n (k := 1) (i := 1) (x := (nI 4)) 0 rfl rfl dX10_init_116 ?_
  refine zq_bipush (v := (nI 6)) rfl dX10_init_117 ?_
  refine zq_icmp_ge (tgt := 151) dX10_init_119 rfl ⟨fun q => absurd q (by decide), fun _ => ?_⟩
  refine zq_aload_n (k := 0) (i := 0) (x := 1) 1 rfl rfl dX10_init_122 ?_
  refine zq_getP fl_RX10_69 rfl (c := 9) (by decide +kernel) (q := 39) (by decide +kernel) dX10_init_123 ?_
  refine zq_iload_n (k := 1) (i := 1) (x := (nI 4)) 0 rfl rfl dX10_init_126 ?_
  refine zq_new (c := 7) (by decide) cx_RX10_67 is_7 ni_7 dX10_init_127 (fun h1 e1 => ?_)
  subst e1
  show zQ none m_X10_init (d + 3) 130 [(1, .int (nI 4)), (0, .ref 1)] (.ref 49 :: .int (nI 4) :: .ref 39 :: []) hc_135 _
  refine zq_dup rfl dX10_init_130 ?_
  refine zq_iload_n (k := 1) (i := 1) (x := (nI 4)) 0 rfl rfl dX10_init_131 ?_
  refine zq_iconst (v := (nI 4)) rfl dX10_init_132 ?_
  refine zq_icmp_ge (tgt := 140) dX10_init_133 rfl ⟨fun _ => ?_, fun q => absurd (by decide) q⟩
  refine zq_iconst (v := (nI 0)) rfl dX10_init_140 ?_
  refine zq_invI (as := [.int (nI 0)]) (st := .ref 49 :: .int (nI 4) :: .ref 39 :: []) (o := 49) in_X8_init rfl rfl mo_X8_init ml_RX10_77 rfl (Nat.le_of_ble_eq_true rfl) dX10_init_141 rfl (ct_14 (d := d + 1)) (fun r1 h1 hq => ?_)
  obtain ⟨rfl, rfl⟩ := hq
  show zQ none m_X10_init (d + 3) 144 [(1, .int (nI 4)), (0, .ref 1)] (.ref 49 :: .int (nI 4) :: .ref 39 :: []) hc_140 _
  refine zq_aast (n := 6) (by decide +kernel) (vp_in_nI (by decide) (by decide)) (by decide +kernel) dX10_init_144 (fun h1 e1 => ?_)
  subst e1
  show zQ none m_X10_init (d + 3) 145 [(1, .int (nI 4)), (0, .ref 1)] ([]) hc_141 _
  refine zq_iinc (i := 1) (x := (nI 4)) (v := (nI 1)) (ls' := [(1, .int (nI 5)), (0, .ref 1)]) 0 rfl rfl (Nat.le_of_ble_eq_true rfl) rfl dX10_init_145 ?_
  refine zq_goto (tgt := 116) dX10_init_148 rfl ?_
  refine zq_iload_n (k := 1) (i := 1) (x := (nI 5)) 0 rfl rfl dX10_init_116 ?_
  refine zq_bipush (v := (nI 6)) rfl dX10_init_117 ?_
  refine zq_icmp_ge (tgt := 151) dX10_init_119 rfl ⟨fun q => absurd q (by decide), fun _ => ?_⟩
  refine zq_aload_n (k := 0) (i := 0) (x := 1) 1 rfl rfl dX10_init_122 ?_
  refine zq_getP fl_RX10_69 rfl (c := 9) (by decide +kernel) (q := 39) (by decide +kernel) dX10_init_123 ?_
  refine zq_iload_n (k := 1) (i := 1) (x := (nI 5)) 0 rfl rfl dX10_init_126 ?_
  refine zq_new (c := 7) (by decide) cx_RX10_67 is_7 ni_7 dX10_init_127 (fun h1 e1 => ?_)
  subst e1
  show zQ none m_X10_init (d + 3) 130 [(1, .int (nI 5)), (0, .ref 1)] (.ref 51 :: .int (nI 5) :: .ref 39 :: []) hc_142 _
  refine zq_dup rfl dX10_init_130 ?_
  refine zq_iload_n (k := 1) (i := 1) (x := (nI 5)) 0 rfl rfl dX10_init_131 ?_
  refine zq_iconst (v := (nI 4)) rfl dX10_init_132 ?_
  refine zq_icmp_ge (tgt := 140) dX10_init_133 rfl ⟨fun _ => ?_, fun q => absurd (by decide) q⟩
  refine zq_iconst (v := (nI 0)) rfl dX10_init_140 ?_
  refine zq_invI (as := [.int (nI 0)]) (st := .ref 51 :: .int (nI 5) :: .ref 39 :: []) (o := 51) in_X8_init rfl rfl mo_X8_init ml_RX10_77 rfl (Nat.le_of_ble_eq_true rfl) dX10_init_141 rfl (ct_15 (d := d + 1)) (fun r1 h1 hq => ?_)
  obtain ⟨rfl, rfl⟩ := hq
  show zQ none m_X10_init (d + 3) 144 [(1, .int (nI 5)), (0, .ref 1)] (.ref 51 :: .int (nI 5) :: .ref 39 :: []) hc_147 _
  refine zq_aast (n := 6) (by decide +kernel) (vp_in_nI (by decide) (by decide)) (by decide +kernel) dX10_init_144 (fun h1 e1 => ?_)
  subst e1
  show zQ none m_X10_init (d + 3) 145 [(1, .int (nI 5)), (0, .ref 1)] ([]) hc_148 _
  refine zq_iinc (i := 1) (x := (nI 5)) (v := (nI 1)) (ls' := [(1, .int (nI 6)), (0, .ref 1)]) 0 rfl rfl (Nat.le_of_ble_eq_true rfl) rfl dX10_init_145 ?_
  refine zq_goto (tgt := 116) dX10_init_148 rfl ?_
  refine zq_iload_n (k := 1) (i := 1) (x := (nI 6)) 0 rfl rfl dX10_init_116 ?_
  refine zq_bipush (v := (nI 6)) rfl dX10_init_117 ?_
  refine zq_icmp_ge (tgt := 151) dX10_init_119 rfl ⟨fun _ => ?_, fun q => absurd (by decide) q⟩
  exact zq_vret dX10_init_151 rfl ⟨rfl, rfl⟩
set_option maxHeartbeats 4000000 in
set_option maxRecDepth 20000 in
theorem law_init {d : Nat} {X : Option (Nat × (Nat → Int32))} {Q : Option Value → AH → Prop} (HH : zQ X m_L_law (d + 4) 23 [(0, .ref 0), (1, .ref 1), (2, .ref 53), (3, .ref 54), (4, .ref 55)] [] hc_151 Q) : zQ X m_L_law (d + 4) 0 [(0, .ref 0)] [] hc_0 Q := by
  refine zq_new (c := 9) (by decide) cx_RL_46 is_9 ni_9 dL_law_0 (fun h1 e1 => ?_)
  subst e1
  show zQ X m_L_law (d + 4) 3 [(0, .ref 0)] (.ref 1 :: []) hc_1 Q
  refine zq_dup rfl dL_law_3 ?_
  refine zq_invI (as := []) (st := .ref 1 :: []) (o := 1) in_X10_init rfl rfl mo_X10_init ml_RL_69 rfl (Nat.le_of_ble_eq_true rfl) dL_law_4 rfl (ct_16 (d := d + 0)) (fun r1 h1 hq => ?_)
  obtain ⟨rfl, rfl⟩ := hq
  show zQ X m_L_law (d + 4) 7 [(0, .ref 0)] (.ref 1 :: []) hc_148 Q
  refine zq_astore_n (ls' := [(1, .ref 1), (0, .ref 0)]) (k := 1) (i := 1) rfl (Nat.le_of_ble_eq_true rfl) rfl dL_law_7 ?_
  refine zq_bipush (v := (nI 40)) rfl dL_law_8 ?_
  refine zq_newaL (N := 40) zar_long (by decide) rfl (by decide) dL_law_10 (fun h1 e1 => ?_)
  subst e1
  show zQ X m_L_law (d + 4) 12 [(1, .ref 1), (0, .ref 0)] (.ref 53 :: []) hc_149 Q
  refine zq_astore_n (ls' := [(2, .ref 53), (1, .ref 1), (0, .ref 0)]) (k := 2) (i := 2) rfl (Nat.le_of_ble_eq_true rfl) rfl dL_law_12 ?_
  refine zq_bipush (v := (nI 8)) rfl dL_law_13 ?_
  refine zq_newaI (N := 8) zar_int (by decide) rfl (by decide) dL_law_15 (fun h1 e1 => ?_)
  subst e1
  show zQ X m_L_law (d + 4) 17 [(2, .ref 53), (1, .ref 1), (0, .ref 0)] (.ref 54 :: []) hc_150 Q
  refine zq_astore_n (ls' := [(3, .ref 54), (2, .ref 53), (1, .ref 1), (0, .ref 0)]) (k := 3) (i := 3) rfl (Nat.le_of_ble_eq_true rfl) rfl dL_law_17 ?_
  refine zq_iconst (v := (nI 1)) rfl dL_law_18 ?_
  refine zq_newaL (N := 1) zar_long (by decide) rfl (by decide) dL_law_19 (fun h1 e1 => ?_)
  subst e1
  show zQ X m_L_law (d + 4) 21 [(3, .ref 54), (2, .ref 53), (1, .ref 1), (0, .ref 0)] (.ref 55 :: []) hc_151 Q
  refine zq_astore (ls' := [(4, .ref 55), (3, .ref 54), (2, .ref 53), (1, .ref 1), (0, .ref 0)]) (i := 4) (Nat.le_of_ble_eq_true rfl) rfl dL_law_21 ?_
  exact zq_sub (ls' := [(0, .ref 0), (1, .ref 1), (2, .ref 53), (3, .ref 54), (4, .ref 55)]) [4, 3, 2, 1, 0] rfl HH
abbrev hEnd : AH := hc_151
