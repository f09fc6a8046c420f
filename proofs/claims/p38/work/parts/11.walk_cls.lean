set_option maxHeartbeats 2000000 in
set_option maxRecDepth 20000 in
theorem r_X1_breakAll_0 {d : Nat} {h : AH} {Q : Option Value → AH → Prop}  (hw : zWF h)  (H : (¬ (nI 0) < 0 ∧ ¬ (nI 0) < 0 ∧ ¬ (nI 40) < 0 ∧ (nI 0).toNatClampNeg + (nI 40).toNatClampNeg ≤ 40 ∧ (nI 0).toNatClampNeg + (nI 40).toNatClampNeg ≤ 40) ∧ (∀ h2, h2 = h.wL 22 (va_cpy (h.L 3) (h.L 22) (nI 0).toNatClampNeg (nI 0).toNatClampNeg (nI 40).toNatClampNeg) → ∀ h3, h3 = h2.sI 21 1 (nI 0) → zQ none m_X1_breakAll (d + 1) 19 [(0, .ref 21), (2, .int (nI 0))] [] h3 Q)) : zK (d + 1) m_X1_breakAll [.ref 21, .ref 3] h Q := by
  refine zK_of mo_X1_breakAll (Nat.le_of_ble_eq_true rfl) ?_
  show zQ none m_X1_breakAll (d + 1) 0 [(0, .ref 21), (1, .ref 3)] [] h Q
  refine zq_aload_n (k := 1) (i := 1) (x := 3) 1 rfl rfl dX1_breakAll_0 ?_
  refine zq_iconst (v := (nI 0)) rfl dX1_breakAll_1 ?_
  refine zq_aload_n (k := 0) (i := 0) (x := 21) 0 rfl rfl dX1_breakAll_2 ?_
  refine zq_getP fl_RX1_9 rfl (sh_21 hw) (rf_21_0 hw) dX1_breakAll_3 ?_
  refine zq_iconst (v := (nI 0)) rfl dX1_breakAll_6 ?_
  refine zq_bipush (v := (nI 40)) rfl dX1_breakAll_7 ?_
  obtain ⟨⟨a11, a12, a13, a14, a15⟩, H⟩ := H
  refine zq_copyL ac_RX1_22 (sh_3 hw) (sh_22 hw) a11 a12 a13 a14 a15 (Nat.le_of_ble_eq_true rfl) dX1_breakAll_9 (fun h2 eh2 => ?_)
  have H := H h2 eh2
  have wh2 := wf_L eh2 hw
  refine zq_aload_n (k := 0) (i := 0) (x := 21) 0 rfl rfl dX1_breakAll_12 ?_
  refine zq_iconst (v := (nI 0)) rfl dX1_breakAll_13 ?_
  refine zq_putI fl_RX1_15 rfl (Or.inl rfl) (sh_21 wh2) rfl rfl dX1_breakAll_14 (fun h3 eh3 => ?_)
  have H := H h3 eh3
  have wh3 := wf_I eh3 wh2
  refine zq_iconst (v := (nI 0)) rfl dX1_breakAll_17 ?_
  refine zq_istore_n (ls' := [(2, .int (nI 0)), (0, .ref 21), (1, .ref 3)]) (k := 2) (i := 2) rfl (Nat.le_of_ble_eq_true rfl) rfl dX1_breakAll_18 ?_
  exact zq_sub (ls' := [(0, .ref 21), (2, .int (nI 0))]) [1, 0] rfl H
set_option maxHeartbeats 2000000 in
set_option maxRecDepth 20000 in
theorem r_X1_breakAll_19 {d : Nat} {h : AH} {Q : Option Value → AH → Prop} (i2 : Int32) (hw : zWF h)  (H : ((nI 780) ≤ i2 → Q none h) ∧ (¬ (nI 780) ≤ i2 → zK d m_X1_mostSupported [.ref 21] h (pI h fun x2 => (0 ≤ x2 → ((h.I 21 1) ≠ 0 → ∀ h5, h5 = h.sI 21 1 ((h.I 21 1) + (nI 1)) → zK d m_X1_flip [.ref 22, .int (x2 / (nI 40)), .int (x2 - x2 / (nI 40) * (nI 40))] h5 (kV fun h6 => zQ none m_X1_breakAll (d + 1) 19 [(0, .ref 21), (2, .int (i2 + (nI 1)))] [] h6 Q)) ∧ ((h.I 21 1) = 0 → ∀ h7, h7 = h.sI 21 2 x2 → ∀ h8, h8 = h7.sI 21 1 ((h7.I 21 1) + (nI 1)) → zK d m_X1_flip [.ref 22, .int (x2 / (nI 40)), .int (x2 - x2 / (nI 40) * (nI 40))] h8 (kV fun h9 => zQ none m_X1_breakAll (d + 1) 19 [(0, .ref 21), (2, .int (i2 + (nI 1)))] [] h9 Q))) ∧ (¬ 0 ≤ x2 → Q none h)))) : zQ none m_X1_breakAll (d + 1) 19 [(0, .ref 21), (2, .int i2)] [] h Q := by
  refine zq_iload_n (k := 2) (i := 2) (x := i2) 1 rfl rfl dX1_breakAll_19 ?_
  refine zq_sipush (v := (nI 780)) rfl dX1_breakAll_20 ?_
  refine zq_icmp_ge (tgt := 79) dX1_breakAll_23 rfl ⟨fun c1 => ?_, fun c1 => ?_⟩
  · have H := H.1 c1
    exact zq_vret dX1_breakAll_79 rfl H
  · have H := H.2 c1
    refine zq_aload_n (k := 0) (i := 0) (x := 21) 0 rfl rfl dX1_breakAll_26 ?_
    refine zq_invV (as := []) (st := []) (o := 21) (c := 1) (by decide) rfl (sh_21 hw) in_X1_mostSupported se_X1_mostSupported mo_X1_mostSupported ml_RX1_28 rfl (Nat.le_of_ble_eq_true rfl) dX1_breakAll_27 rfl H (fun r1 h1 hq => ?_)
    obtain ⟨x2, rfl, rfl, H⟩ := hq
    show zQ none m_X1_breakAll (d + 1) 30 [(0, .ref 21), (2, .int i2)] (.int x2 :: []) h Q
    refine zq_istore_n (ls' := [(3, .int x2), (0, .ref 21), (2, .int i2)]) (k := 3) (i := 3) rfl (Nat.le_of_ble_eq_true rfl) rfl dX1_breakAll_30 ?_
    refine zq_iload_n (k := 3) (i := 3) (x := x2) 0 rfl rfl dX1_breakAll_31 ?_
    refine zq_if_ge (tgt := 36) dX1_breakAll_32 rfl ⟨fun c3 => ?_, fun c3 => ?_⟩
    · have H := H.1 c3
      refine zq_aload_n (k := 0) (i := 0) (x := 21) 1 rfl rfl dX1_breakAll_36 ?_
      refine zq_getI fl_RX1_15 rfl (sh_21 hw) dX1_breakAll_37 ?_
      refine zq_if_ne (tgt := 48) dX1_breakAll_40 rfl ⟨fun c4 => ?_, fun c4 => ?_⟩
      · have H := H.1 c4
        refine zq_aload_n (k := 0) (i := 0) (x := 21) 1 rfl rfl dX1_breakAll_48 ?_
        refine zq_dup rfl dX1_breakAll_49 ?_
        refine zq_getI fl_RX1_15 rfl (sh_21 hw) dX1_breakAll_50 ?_
        refine zq_iconst (v := (nI 1)) rfl dX1_breakAll_53 ?_
        refine zq_iadd dX1_breakAll_54 ?_
        refine zq_putI fl_RX1_15 rfl (Or.inl rfl) (sh_21 hw) rfl rfl dX1_breakAll_55 (fun h5 eh5 => ?_)
        have H := H h5 eh5
        have wh5 := wf_I eh5 hw
        refine zq_aload_n (k := 0) (i := 0) (x := 21) 1 rfl rfl dX1_breakAll_58 ?_
        refine zq_getP fl_RX1_9 rfl (sh_21 wh5) (rf_21_0 wh5) dX1_breakAll_59 ?_
        refine zq_iload_n (k := 3) (i := 3) (x := x2) 0 rfl rfl dX1_breakAll_62 ?_
        refine zq_bipush (v := (nI 40)) rfl dX1_breakAll_63 ?_
        refine zq_idiv (by decide) dX1_breakAll_65 ?_
        refine zq_iload_n (k := 3) (i := 3) (x := x2) 0 rfl rfl dX1_breakAll_66 ?_
        refine zq_bipush (v := (nI 40)) rfl dX1_breakAll_67 ?_
        refine zq_irem (by decide) dX1_breakAll_69 ?_
        refine zq_invS (as := [.ref 22, .int (x2 / (nI 40)), .int (x2 - x2 / (nI 40) * (nI 40))]) (st := []) st_X1_flip mo_X1_flip ml_RX1_32 rfl (Nat.le_of_ble_eq_true rfl) dX1_breakAll_70 rfl H (fun r1 h6 hq => ?_)
        obtain ⟨rfl, wh6, H⟩ := hq
        show zQ none m_X1_breakAll (d + 1) 73 [(3, .int x2), (0, .ref 21), (2, .int i2)] ([]) h6 Q
        refine zq_iinc (i := 2) (x := i2) (v := (nI 1)) (ls' := [(2, .int (i2 + (nI 1))), (3, .int x2), (0, .ref 21)]) 2 rfl rfl (Nat.le_of_ble_eq_true rfl) rfl dX1_breakAll_73 ?_
        refine zq_goto (tgt := 19) dX1_breakAll_76 rfl ?_
        exact zq_sub (ls' := [(0, .ref 21), (2, .int (i2 + (nI 1)))]) [2, 0] rfl H
      · have H := H.2 c4
        refine zq_aload_n (k := 0) (i := 0) (x := 21) 1 rfl rfl dX1_breakAll_43 ?_
        refine zq_iload_n (k := 3) (i := 3) (x := x2) 0 rfl rfl dX1_breakAll_44 ?_
        refine zq_putI fl_RX1_19 rfl (Or.inl rfl) (sh_21 hw) rfl rfl dX1_breakAll_45 (fun h7 eh7 => ?_)
        have H := H h7 eh7
        have wh7 := wf_I eh7 hw
        refine zq_aload_n (k := 0) (i := 0) (x := 21) 1 rfl rfl dX1_breakAll_48 ?_
        refine zq_dup rfl dX1_breakAll_49 ?_
        refine zq_getI fl_RX1_15 rfl (sh_21 wh7) dX1_breakAll_50 ?_
        refine zq_iconst (v := (nI 1)) rfl dX1_breakAll_53 ?_
        refine zq_iadd dX1_breakAll_54 ?_
        refine zq_putI fl_RX1_15 rfl (Or.inl rfl) (sh_21 wh7) rfl rfl dX1_breakAll_55 (fun h8 eh8 => ?_)
        have H := H h8 eh8
        have wh8 := wf_I eh8 wh7
        refine zq_aload_n (k := 0) (i := 0) (x := 21) 1 rfl rfl dX1_breakAll_58 ?_
        refine zq_getP fl_RX1_9 rfl (sh_21 wh8) (rf_21_0 wh8) dX1_breakAll_59 ?_
        refine zq_iload_n (k := 3) (i := 3) (x := x2) 0 rfl rfl dX1_breakAll_62 ?_
        refine zq_bipush (v := (nI 40)) rfl dX1_breakAll_63 ?_
        refine zq_idiv (by decide) dX1_breakAll_65 ?_
        refine zq_iload_n (k := 3) (i := 3) (x := x2) 0 rfl rfl dX1_breakAll_66 ?_
        refine zq_bipush (v := (nI 40)) rfl dX1_breakAll_67 ?_
        refine zq_irem (by decide) dX1_breakAll_69 ?_
        refine zq_invS (as := [.ref 22, .int (x2 / (nI 40)), .int (x2 - x2 / (nI 40) * (nI 40))]) (st := []) st_X1_flip mo_X1_flip ml_RX1_32 rfl (Nat.le_of_ble_eq_true rfl) dX1_breakAll_70 rfl H (fun r1 h9 hq => ?_)
        obtain ⟨rfl, wh9, H⟩ := hq
        show zQ none m_X1_breakAll (d + 1) 73 [(3, .int x2), (0, .ref 21), (2, .int i2)] ([]) h9 Q
        refine zq_iinc (i := 2) (x := i2) (v := (nI 1)) (ls' := [(2, .int (i2 + (nI 1))), (3, .int x2), (0, .ref 21)]) 2 rfl rfl (Nat.le_of_ble_eq_true rfl) rfl dX1_breakAll_73 ?_
        refine zq_goto (tgt := 19) dX1_breakAll_76 rfl ?_
        exact zq_sub (ls' := [(0, .ref 21), (2, .int (i2 + (nI 1)))]) [2, 0] rfl H
    · have H := H.2 c3
      exact zq_vret dX1_breakAll_35 rfl H
set_option maxHeartbeats 2000000 in
set_option maxRecDepth 20000 in
theorem r_X1_mostSupported_0 {d : Nat} {h : AH} {Q : Option Value → AH → Prop}  (hw : zWF h)  (H : zQ none m_X1_mostSupported (d + 1) 6 [(0, .ref 21), (1, .int (-1)), (2, .int (nI 0)), (3, .int (nI 0))] [] h Q) : zK (d + 1) m_X1_mostSupported [.ref 21] h Q := by
  refine zK_of mo_X1_mostSupported (Nat.le_of_ble_eq_true rfl) ?_
  show zQ none m_X1_mostSupported (d + 1) 0 [(0, .ref 21)] [] h Q
  refine zq_iconst (v := (-1)) rfl dX1_mostSupported_0 ?_
  refine zq_istore_n (ls' := [(1, .int (-1)), (0, .ref 21)]) (k := 1) (i := 1) rfl (Nat.le_of_ble_eq_true rfl) rfl dX1_mostSupported_1 ?_
  refine zq_iconst (v := (nI 0)) rfl dX1_mostSupported_2 ?_
  refine zq_istore_n (ls' := [(2, .int (nI 0)), (1, .int (-1)), (0, .ref 21)]) (k := 2) (i := 2) rfl (Nat.le_of_ble_eq_true rfl) rfl dX1_mostSupported_3 ?_
  refine zq_iconst (v := (nI 0)) rfl dX1_mostSupported_4 ?_
  refine zq_istore_n (ls' := [(3, .int (nI 0)), (2, .int (nI 0)), (1, .int (-1)), (0, .ref 21)]) (k := 3) (i := 3) rfl (Nat.le_of_ble_eq_true rfl) rfl dX1_mostSupported_5 ?_
  exact zq_sub (ls' := [(0, .ref 21), (1, .int (-1)), (2, .int (nI 0)), (3, .int (nI 0))]) [3, 2, 1, 0] rfl H
set_option maxHeartbeats 2000000 in
set_option maxRecDepth 20000 in
theorem r_X1_mostSupported_6 {d : Nat} {h : AH} {Q : Option Value → AH → Prop} (i1 : Int32) (i2 : Int32) (i3 : Int32) (hw : zWF h)  (H : ((nI 40) ≤ i3 → Q (some (.int i1)) h) ∧ (¬ (nI 40) ≤ i3 → zQ none m_X1_mostSupported (d + 1) 17 [(0, .ref 21), (1, .int i1), (2, .int i2), (3, .int i3), (4, .int (i3 + (nI 1)))] [] h Q)) : zQ none m_X1_mostSupported (d + 1) 6 [(0, .ref 21), (1, .int i1), (2, .int i2), (3, .int i3)] [] h Q := by
  refine zq_iload_n (k := 3) (i := 3) (x := i3) 3 rfl rfl dX1_mostSupported_6 ?_
  refine zq_bipush (v := (nI 40)) rfl dX1_mostSupported_7 ?_
  refine zq_icmp_ge (tgt := 82) dX1_mostSupported_9 rfl ⟨fun c1 => ?_, fun c1 => ?_⟩
  · have H := H.1 c1
    refine zq_iload_n (k := 1) (i := 1) (x := i1) 1 rfl rfl dX1_mostSupported_82 ?_
    exact zq_iret dX1_mostSupported_83 rfl rfl rfl H
  · have H := H.2 c1
    refine zq_iload_n (k := 3) (i := 3) (x := i3) 3 rfl rfl dX1_mostSupported_12 ?_
    refine zq_iconst (v := (nI 1)) rfl dX1_mostSupported_13 ?_
    refine zq_iadd dX1_mostSupported_14 ?_
    refine zq_istore (ls' := [(4, .int (i3 + (nI 1))), (0, .ref 21), (1, .int i1), (2, .int i2), (3, .int i3)]) (i := 4) (Nat.le_of_ble_eq_true rfl) rfl dX1_mostSupported_15 ?_
    exact zq_sub (ls' := [(0, .ref 21), (1, .int i1), (2, .int i2), (3, .int i3), (4, .int (i3 + (nI 1)))]) [1, 2, 3, 4, 0] rfl H
set_option maxHeartbeats 2000000 in
set_option maxRecDepth 20000 in
theorem r_X1_mostSupported_17 {d : Nat} {h : AH} {Q : Option Value → AH → Prop} (i1 : Int32) (i2 : Int32) (i3 : Int32) (i4 : Int32) (hw : zWF h)  (H : ((nI 40) ≤ i4 → zQ none m_X1_mostSupported (d + 1) 6 [(0, .ref 21), (1, .int i1), (2, .int i2), (3, .int (i3 + (nI 1)))] [] h Q) ∧ (¬ (nI 40) ≤ i4 → vp_in i3 40 ∧ (zK d m_X10_hasBit [.long (h.L 22 i3.toNatClampNeg), .int i4] h (pI h fun x3 => (x3 = 0 → zQ none m_X1_mostSupported (d + 1) 17 [(0, .ref 21), (1, .int i1), (2, .int i2), (3, .int i3), (4, .int (i4 + (nI 1)))] [] h Q) ∧ (¬ x3 = 0 → zK d m_X2_shared [.ref 22, .int i3, .int i4] h (pI h fun x5 => (x5 ≤ i2 → zQ none m_X1_mostSupported (d + 1) 17 [(0, .ref 21), (1, .int i1), (2, .int i2), (3, .int i3), (4, .int (i4 + (nI 1)))] [] h Q) ∧ (¬ x5 ≤ i2 → zK d m_X2_shared [.ref 22, .int i3, .int i4] h (pI h fun x7 => zK d m_X10_pairOf [.int i3, .int i4] h (pI h fun x8 => zQ none m_X1_mostSupported (d + 1) 17 [(0, .ref 21), (1, .int x8), (2, .int x7), (3, .int i3), (4, .int (i4 + (nI 1)))] [] h Q))))))))) : zQ none m_X1_mostSupported (d + 1) 17 [(0, .ref 21), (1, .int i1), (2, .int i2), (3, .int i3), (4, .int i4)] [] h Q := by
  refine zq_iload (i := 4) (x := i4) 4 rfl dX1_mostSupported_17 ?_
  refine zq_bipush (v := (nI 40)) rfl dX1_mostSupported_19 ?_
  refine zq_icmp_ge (tgt := 76) dX1_mostSupported_21 rfl ⟨fun c1 => ?_, fun c1 => ?_⟩
  · have H := H.1 c1
    refine zq_iinc (i := 3) (x := i3) (v := (nI 1)) (ls' := [(3, .int (i3 + (nI 1))), (0, .ref 21), (1, .int i1), (2, .int i2), (4, .int i4)]) 3 rfl rfl (Nat.le_of_ble_eq_true rfl) rfl dX1_mostSupported_76 ?_
    refine zq_goto (tgt := 6) dX1_mostSupported_79 rfl ?_
    exact zq_sub (ls' := [(0, .ref 21), (1, .int i1), (2, .int i2), (3, .int (i3 + (nI 1)))]) [1, 2, 3, 0] rfl H
  · have H := H.2 c1
    refine zq_aload_n (k := 0) (i := 0) (x := 21) 0 rfl rfl dX1_mostSupported_24 ?_
    refine zq_getP fl_RX1_9 rfl (sh_21 hw) (rf_21_0 hw) dX1_mostSupported_25 ?_
    refine zq_iload_n (k := 3) (i := 3) (x := i3) 3 rfl rfl dX1_mostSupported_28 ?_
    obtain ⟨b2, H⟩ := H
    refine zq_lald (sh_22 hw) b2 dX1_mostSupported_29 ?_
    refine zq_iload (i := 4) (x := i4) 4 rfl dX1_mostSupported_30 ?_
    refine zq_invS (as := [.long (h.L 22 i3.toNatClampNeg), .int i4]) (st := []) st_X10_hasBit mo_X10_hasBit ml_RX1_36 rfl (Nat.le_of_ble_eq_true rfl) dX1_mostSupported_32 rfl H (fun r1 h1 hq => ?_)
    obtain ⟨x3, rfl, rfl, H⟩ := hq
    show zQ none m_X1_mostSupported (d + 1) 35 [(0, .ref 21), (1, .int i1), (2, .int i2), (3, .int i3), (4, .int i4)] (.int x3 :: []) h Q
    refine zq_if_eq (tgt := 70) dX1_mostSupported_35 rfl ⟨fun c4 => ?_, fun c4 => ?_⟩
    · have H := H.1 c4
      refine zq_iinc (i := 4) (x := i4) (v := (nI 1)) (ls' := [(4, .int (i4 + (nI 1))), (0, .ref 21), (1, .int i1), (2, .int i2), (3, .int i3)]) 4 rfl rfl (Nat.le_of_ble_eq_true rfl) rfl dX1_mostSupported_70 ?_
      refine zq_goto (tgt := 17) dX1_mostSupported_73 rfl ?_
      exact zq_sub (ls' := [(0, .ref 21), (1, .int i1), (2, .int i2), (3, .int i3), (4, .int (i4 + (nI 1)))]) [1, 2, 3, 4, 0] rfl H
    · have H := H.2 c4
      refine zq_aload_n (k := 0) (i := 0) (x := 21) 0 rfl rfl dX1_mostSupported_38 ?_
      refine zq_getP fl_RX1_9 rfl (sh_21 hw) (rf_21_0 hw) dX1_mostSupported_39 ?_
      refine zq_iload_n (k := 3) (i := 3) (x := i3) 3 rfl rfl dX1_mostSupported_42 ?_
      refine zq_iload (i := 4) (x := i4) 4 rfl dX1_mostSupported_43 ?_
      refine zq_invS (as := [.ref 22, .int i3, .int i4]) (st := []) st_X2_shared mo_X2_shared ml_RX1_40 rfl (Nat.le_of_ble_eq_true rfl) dX1_mostSupported_45 rfl H (fun r1 h1 hq => ?_)
      obtain ⟨x5, rfl, rfl, H⟩ := hq
      show zQ none m_X1_mostSupported (d + 1) 48 [(0, .ref 21), (1, .int i1), (2, .int i2), (3, .int i3), (4, .int i4)] (.int x5 :: []) h Q
      refine zq_iload_n (k := 2) (i := 2) (x := i2) 2 rfl rfl dX1_mostSupported_48 ?_
      refine zq_icmp_le (tgt := 70) dX1_mostSupported_49 rfl ⟨fun c6 => ?_, fun c6 => ?_⟩
      · have H := H.1 c6
        refine zq_iinc (i := 4) (x := i4) (v := (nI 1)) (ls' := [(4, .int (i4 + (nI 1))), (0, .ref 21), (1, .int i1), (2, .int i2), (3, .int i3)]) 4 rfl rfl (Nat.le_of_ble_eq_true rfl) rfl dX1_mostSupported_70 ?_
        refine zq_goto (tgt := 17) dX1_mostSupported_73 rfl ?_
        exact zq_sub (ls' := [(0, .ref 21), (1, .int i1), (2, .int i2), (3, .int i3), (4, .int (i4 + (nI 1)))]) [1, 2, 3, 4, 0] rfl H
      · have H := H.2 c6
        refine zq_aload_n (k := 0) (i := 0) (x := 21) 0 rfl rfl dX1_mostSupported_52 ?_
        refine zq_getP fl_RX1_9 rfl (sh_21 hw) (rf_21_0 hw) dX1_mostSupported_53 ?_
        refine zq_iload_n (k := 3) (i := 3) (x := i3) 3 rfl rfl dX1_mostSupported_56 ?_
        refine zq_iload (i := 4) (x := i4) 4 rfl dX1_mostSupported_57 ?_
        refine zq_invS (as := [.ref 22, .int i3, .int i4]) (st := []) st_X2_shared mo_X2_shared ml_RX1_40 rfl (Nat.le_of_ble_eq_true rfl) dX1_mostSupported_59 rfl H (fun r1 h1 hq => ?_)
        obtain ⟨x7, rfl, rfl, H⟩ := hq
        show zQ none m_X1_mostSupported (d + 1) 62 [(0, .ref 21), (1, .int i1), (2, .int i2), (3, .int i3), (4, .int i4)] (.int x7 :: []) h Q
        refine zq_istore_n (ls' := [(2, .int x7), (0, .ref 21), (1, .int i1), (3, .int i3), (4, .int i4)]) (k := 2) (i := 2) rfl (Nat.le_of_ble_eq_true rfl) rfl dX1_mostSupported_62 ?_
        refine zq_iload_n (k := 3) (i := 3) (x := i3) 3 rfl rfl dX1_mostSupported_63 ?_
        refine zq_iload (i := 4) (x := i4) 4 rfl dX1_mostSupported_64 ?_
        refine zq_invS (as := [.int i3, .int i4]) (st := []) st_X10_pairOf mo_X10_pairOf ml_RX1_46 rfl (Nat.le_of_ble_eq_true rfl) dX1_mostSupported_66 rfl H (fun r1 h1 hq => ?_)
        obtain ⟨x8, rfl, rfl, H⟩ := hq
        show zQ none m_X1_mostSupported (d + 1) 69 [(2, .int x7), (0, .ref 21), (1, .int i1), (3, .int i3), (4, .int i4)] (.int x8 :: []) h Q
        refine zq_istore_n (ls' := [(1, .int x8), (2, .int x7), (0, .ref 21), (3, .int i3), (4, .int i4)]) (k := 1) (i := 1) rfl (Nat.le_of_ble_eq_true rfl) rfl dX1_mostSupported_69 ?_
        refine zq_iinc (i := 4) (x := i4) (v := (nI 1)) (ls' := [(4, .int (i4 + (nI 1))), (1, .int x8), (2, .int x7), (0, .ref 21), (3, .int i3)]) 4 rfl rfl (Nat.le_of_ble_eq_true rfl) rfl dX1_mostSupported_70 ?_
        refine zq_goto (tgt := 17) dX1_mostSupported_73 rfl ?_
        exact zq_sub (ls' := [(0, .ref 21), (1, .int x8), (2, .int x7), (3, .int i3), (4, .int (i4 + (nI 1)))]) [3, 1, 2, 4, 0] rfl H
set_option maxHeartbeats 2000000 in
set_option maxRecDepth 20000 in
theorem r_X1_fewestOf_0 {d : Nat} {h : AH} {Q : Option Value → AH → Prop}  (hw : zWF h)  (H : (¬ (nI 0) < 0 ∧ ¬ (nI 0) < 0 ∧ ¬ (nI 40) < 0 ∧ (nI 0).toNatClampNeg + (nI 40).toNatClampNeg ≤ 40 ∧ (nI 0).toNatClampNeg + (nI 40).toNatClampNeg ≤ 40) ∧ (∀ h2, h2 = h.wL 22 (va_cpy (h.L 3) (h.L 22) (nI 0).toNatClampNeg (nI 0).toNatClampNeg (nI 40).toNatClampNeg) → zQ none m_X1_fewestOf (d + 1) 14 [(0, .ref 21), (2, .int (nI 0))] [] h2 Q)) : zK (d + 1) m_X1_fewestOf [.ref 21, .ref 3] h Q := by
  refine zK_of mo_X1_fewestOf (Nat.le_of_ble_eq_true rfl) ?_
  show zQ none m_X1_fewestOf (d + 1) 0 [(0, .ref 21), (1, .ref 3)] [] h Q
  refine zq_aload_n (k := 1) (i := 1) (x := 3) 1 rfl rfl dX1_fewestOf_0 ?_
  refine zq_iconst (v := (nI 0)) rfl dX1_fewestOf_1 ?_
  refine zq_aload_n (k := 0) (i := 0) (x := 21) 0 rfl rfl dX1_fewestOf_2 ?_
  refine zq_getP fl_RX1_9 rfl (sh_21 hw) (rf_21_0 hw) dX1_fewestOf_3 ?_
  refine zq_iconst (v := (nI 0)) rfl dX1_fewestOf_6 ?_
  refine zq_bipush (v := (nI 40)) rfl dX1_fewestOf_7 ?_
  obtain ⟨⟨a11, a12, a13, a14, a15⟩, H⟩ := H
  refine zq_copyL ac_RX1_22 (sh_3 hw) (sh_22 hw) a11 a12 a13 a14 a15 (Nat.le_of_ble_eq_true rfl) dX1_fewestOf_9 (fun h2 eh2 => ?_)
  have H := H h2 eh2
  have wh2 := wf_L eh2 hw
  refine zq_iconst (v := (nI 0)) rfl dX1_fewestOf_12 ?_
  refine zq_istore_n (ls' := [(2, .int (nI 0)), (0, .ref 21), (1, .ref 3)]) (k := 2) (i := 2) rfl (Nat.le_of_ble_eq_true rfl) rfl dX1_fewestOf_13 ?_
  exact zq_sub (ls' := [(0, .ref 21), (2, .int (nI 0))]) [1, 0] rfl H
set_option maxHeartbeats 2000000 in
set_option maxRecDepth 20000 in
theorem r_X1_fewestOf_14 {d : Nat} {h : AH} {Q : Option Value → AH → Prop} (i2 : Int32) (hw : zWF h)  (H : ((nI 4) < i2 → Q (some (.int (-5))) h) ∧ (¬ (nI 4) < i2 → zK d m_X1_breaksWith [.ref 22, .int i2] h (pI h fun x2 => (x2 = 0 → zQ none m_X1_fewestOf (d + 1) 14 [(0, .ref 21), (2, .int (i2 + (nI 1)))] [] h Q) ∧ (¬ x2 = 0 → Q (some (.int i2)) h)))) : zQ none m_X1_fewestOf (d + 1) 14 [(0, .ref 21), (2, .int i2)] [] h Q := by
  refine zq_iload_n (k := 2) (i := 2) (x := i2) 1 rfl rfl dX1_fewestOf_14 ?_
  refine zq_iconst (v := (nI 4)) rfl dX1_fewestOf_15 ?_
  refine zq_icmp_gt (tgt := 38) dX1_fewestOf_16 rfl ⟨fun c1 => ?_, fun c1 => ?_⟩
  · have H := H.1 c1
    refine zq_bipush (v := (-5)) rfl dX1_fewestOf_38 ?_
    exact zq_iret dX1_fewestOf_40 rfl rfl rfl H
  · have H := H.2 c1
    refine zq_aload_n (k := 0) (i := 0) (x := 21) 0 rfl rfl dX1_fewestOf_19 ?_
    refine zq_getP fl_RX1_9 rfl (sh_21 hw) (rf_21_0 hw) dX1_fewestOf_20 ?_
    refine zq_iload_n (k := 2) (i := 2) (x := i2) 1 rfl rfl dX1_fewestOf_23 ?_
    refine zq_invS (as := [.ref 22, .int i2]) (st := []) st_X1_breaksWith mo_X1_breaksWith ml_RX1_50 rfl (Nat.le_of_ble_eq_true rfl) dX1_fewestOf_24 rfl H (fun r1 h1 hq => ?_)
    obtain ⟨x2, rfl, rfl, H⟩ := hq
    show zQ none m_X1_fewestOf (d + 1) 27 [(0, .ref 21), (2, .int i2)] (.int x2 :: []) h Q
    refine zq_if_eq (tgt := 32) dX1_fewestOf_27 rfl ⟨fun c3 => ?_, fun c3 => ?_⟩
    · have H := H.1 c3
      refine zq_iinc (i := 2) (x := i2) (v := (nI 1)) (ls' := [(2, .int (i2 + (nI 1))), (0, .ref 21)]) 1 rfl rfl (Nat.le_of_ble_eq_true rfl) rfl dX1_fewestOf_32 ?_
      refine zq_goto (tgt := 14) dX1_fewestOf_35 rfl ?_
      exact zq_sub (ls' := [(0, .ref 21), (2, .int (i2 + (nI 1)))]) [1, 0] rfl H
    · have H := H.2 c3
      refine zq_iload_n (k := 2) (i := 2) (x := i2) 1 rfl rfl dX1_fewestOf_30 ?_
      exact zq_iret dX1_fewestOf_31 rfl rfl rfl H
set_option maxHeartbeats 2000000 in
set_option maxRecDepth 20000 in
theorem r_X1_breaksWith_0 {d : Nat} {h : AH} {Q : Option Value → AH → Prop} (i1 : Int32) (hw : zWF h)  (H : zK d m_X1_anyTriangle [.ref 22] h (pI h fun x1 => (0 ≤ x1 → (0 < i1 → zK d m_X1_breaksWithout [.ref 22, .int (x1 / (nI 1600)), .int ((x1 / (nI 40)) - (x1 / (nI 40)) / (nI 40) * (nI 40)), .int i1] h (pI h fun x4 => (x4 ≠ 0 → Q (some (.int (nI 1))) h) ∧ (x4 = 0 → zK d m_X1_breaksWithout [.ref 22, .int (x1 / (nI 1600)), .int (x1 - x1 / (nI 40) * (nI 40)), .int i1] h (pI h fun x6 => (x6 ≠ 0 → Q (some (.int (nI 1))) h) ∧ (x6 = 0 → zK d m_X1_breaksWithout [.ref 22, .int ((x1 / (nI 40)) - (x1 / (nI 40)) / (nI 40) * (nI 40)), .int (x1 - x1 / (nI 40) * (nI 40)), .int i1] h (pI h fun x8 => (x8 = 0 → Q (some (.int (nI 0))) h) ∧ (¬ x8 = 0 → Q (some (.int (nI 1))) h))))))) ∧ (¬ 0 < i1 → Q (some (.int (nI 0))) h)) ∧ (¬ 0 ≤ x1 → Q (some (.int (nI 1))) h))) : zK (d + 1) m_X1_breaksWith [.ref 22, .int i1] h Q := by
  refine zK_of mo_X1_breaksWith (Nat.le_of_ble_eq_true rfl) ?_
  show zQ none m_X1_breaksWith (d + 1) 0 [(0, .ref 22), (1, .int i1)] [] h Q
  refine zq_aload_n (k := 0) (i := 0) (x := 22) 0 rfl rfl dX1_breaksWith_0 ?_
  refine zq_invS (as := [.ref 22]) (st := []) st_X1_anyTriangle mo_X1_anyTriangle ml_RX1_54 rfl (Nat.le_of_ble_eq_true rfl) dX1_breaksWith_1 rfl H (fun r1 h1 hq => ?_)
  obtain ⟨x1, rfl, rfl, H⟩ := hq
  show zQ none m_X1_breaksWith (d + 1) 4 [(0, .ref 22), (1, .int i1)] (.int x1 :: []) h Q
  refine zq_istore_n (ls' := [(2, .int x1), (0, .ref 22), (1, .int i1)]) (k := 2) (i := 2) rfl (Nat.le_of_ble_eq_true rfl) rfl dX1_breaksWith_4 ?_
  refine zq_iload_n (k := 2) (i := 2) (x := x1) 0 rfl rfl dX1_breaksWith_5 ?_
  refine zq_if_ge (tgt := 11) dX1_breaksWith_6 rfl ⟨fun c2 => ?_, fun c2 => ?_⟩
  · have H := H.1 c2
    refine zq_iload_n (k := 1) (i := 1) (x := i1) 2 rfl rfl dX1_breaksWith_11 ?_
    refine zq_if_gt (tgt := 17) dX1_breaksWith_12 rfl ⟨fun c3 => ?_, fun c3 => ?_⟩
    · have H := H.1 c3
      refine zq_iload_n (k := 2) (i := 2) (x := x1) 0 rfl rfl dX1_breaksWith_17 ?_
      refine zq_sipush (v := (nI 1600)) rfl dX1_breaksWith_18 ?_
      refine zq_idiv (by decide) dX1_breaksWith_21 ?_
      refine zq_istore_n (ls' := [(3, .int (x1 / (nI 1600))), (2, .int x1), (0, .ref 22), (1, .int i1)]) (k := 3) (i := 3) rfl (Nat.le_of_ble_eq_true rfl) rfl dX1_breaksWith_22 ?_
      refine zq_iload_n (k := 2) (i := 2) (x := x1) 1 rfl rfl dX1_breaksWith_23 ?_
      refine zq_bipush (v := (nI 40)) rfl dX1_breaksWith_24 ?_
      refine zq_idiv (by decide) dX1_breaksWith_26 ?_
      refine zq_bipush (v := (nI 40)) rfl dX1_breaksWith_27 ?_
      refine zq_irem (by decide) dX1_breaksWith_29 ?_
      refine zq_istore (ls' := [(4, .int ((x1 / (nI 40)) - (x1 / (nI 40)) / (nI 40) * (nI 40))), (3, .int (x1 / (nI 1600))), (2, .int x1), (0, .ref 22), (1, .int i1)]) (i := 4) (Nat.le_of_ble_eq_true rfl) rfl dX1_breaksWith_30 ?_
      refine zq_iload_n (k := 2) (i := 2) (x := x1) 2 rfl rfl dX1_breaksWith_32 ?_
      refine zq_bipush (v := (nI 40)) rfl dX1_breaksWith_33 ?_
      refine zq_irem (by decide) dX1_breaksWith_35 ?_
      refine zq_istore (ls' := [(5, .int (x1 - x1 / (nI 40) * (nI 40))), (4, .int ((x1 / (nI 40)) - (x1 / (nI 40)) / (nI 40) * (nI 40))), (3, .int (x1 / (nI 1600))), (2, .int x1), (0, .ref 22), (1, .int i1)]) (i := 5) (Nat.le_of_ble_eq_true rfl) rfl dX1_breaksWith_36 ?_
      refine zq_aload_n (k := 0) (i := 0) (x := 22) 4 rfl rfl dX1_breaksWith_38 ?_
      refine zq_iload_n (k := 3) (i := 3) (x := (x1 / (nI 1600))) 2 rfl rfl dX1_breaksWith_39 ?_
      refine zq_iload (i := 4) (x := ((x1 / (nI 40)) - (x1 / (nI 40)) / (nI 40) * (nI 40))) 1 rfl dX1_breaksWith_40 ?_
      refine zq_iload_n (k := 1) (i := 1) (x := i1) 5 rfl rfl dX1_breaksWith_42 ?_
      refine zq_invS (as := [.ref 22, .int (x1 / (nI 1600)), .int ((x1 / (nI 40)) - (x1 / (nI 40)) / (nI 40) * (nI 40)), .int i1]) (st := []) st_X1_breaksWithout mo_X1_breaksWithout ml_RX1_58 rfl (Nat.le_of_ble_eq_true rfl) dX1_breaksWith_43 rfl H (fun r1 h1 hq => ?_)
      obtain ⟨x4, rfl, rfl, H⟩ := hq
      show zQ none m_X1_breaksWith (d + 1) 46 [(5, .int (x1 - x1 / (nI 40) * (nI 40))), (4, .int ((x1 / (nI 40)) - (x1 / (nI 40)) / (nI 40) * (nI 40))), (3, .int (x1 / (nI 1600))), (2, .int x1), (0, .ref 22), (1, .int i1)] (.int x4 :: []) h Q
      refine zq_if_ne (tgt := 72) dX1_breaksWith_46 rfl ⟨fun c5 => ?_, fun c5 => ?_⟩
      · have H := H.1 c5
        refine zq_iconst (v := (nI 1)) rfl dX1_breaksWith_72 ?_
        refine zq_goto (tgt := 77) dX1_breaksWith_73 rfl ?_
        exact zq_iret dX1_breaksWith_77 rfl rfl rfl H
      · have H := H.2 c5
        refine zq_aload_n (k := 0) (i := 0) (x := 22) 4 rfl rfl dX1_breaksWith_49 ?_
        refine zq_iload_n (k := 3) (i := 3) (x := (x1 / (nI 1600))) 2 rfl rfl dX1_breaksWith_50 ?_
        refine zq_iload (i := 5) (x := (x1 - x1 / (nI 40) * (nI 40))) 0 rfl dX1_breaksWith_51 ?_
        refine zq_iload_n (k := 1) (i := 1) (x := i1) 5 rfl rfl dX1_breaksWith_53 ?_
        refine zq_invS (as := [.ref 22, .int (x1 / (nI 1600)), .int (x1 - x1 / (nI 40) * (nI 40)), .int i1]) (st := []) st_X1_breaksWithout mo_X1_breaksWithout ml_RX1_58 rfl (Nat.le_of_ble_eq_true rfl) dX1_breaksWith_54 rfl H (fun r1 h1 hq => ?_)
        obtain ⟨x6, rfl, rfl, H⟩ := hq
        show zQ none m_X1_breaksWith (d + 1) 57 [(5, .int (x1 - x1 / (nI 40) * (nI 40))), (4, .int ((x1 / (nI 40)) - (x1 / (nI 40)) / (nI 40) * (nI 40))), (3, .int (x1 / (nI 1600))), (2, .int x1), (0, .ref 22), (1, .int i1)] (.int x6 :: []) h Q
        refine zq_if_ne (tgt := 72) dX1_breaksWith_57 rfl ⟨fun c7 => ?_, fun c7 => ?_⟩
        · have H := H.1 c7
          refine zq_iconst (v := (nI 1)) rfl dX1_breaksWith_72 ?_
          refine zq_goto (tgt := 77) dX1_breaksWith_73 rfl ?_
          exact zq_iret dX1_breaksWith_77 rfl rfl rfl H
        · have H := H.2 c7
          refine zq_aload_n (k := 0) (i := 0) (x := 22) 4 rfl rfl dX1_breaksWith_60 ?_
          refine zq_iload (i := 4) (x := ((x1 / (nI 40)) - (x1 / (nI 40)) / (nI 40) * (nI 40))) 1 rfl dX1_breaksWith_61 ?_
          refine zq_iload (i := 5) (x := (x1 - x1 / (nI 40) * (nI 40))) 0 rfl dX1_breaksWith_63 ?_
          refine zq_iload_n (k := 1) (i := 1) (x := i1) 5 rfl rfl dX1_breaksWith_65 ?_
          refine zq_invS (as := [.ref 22, .int ((x1 / (nI 40)) - (x1 / (nI 40)) / (nI 40) * (nI 40)), .int (x1 - x1 / (nI 40) * (nI 40)), .int i1]) (st := []) st_X1_breaksWithout mo_X1_breaksWithout ml_RX1_58 rfl (Nat.le_of_ble_eq_true rfl) dX1_breaksWith_66 rfl H (fun r1 h1 hq => ?_)
          obtain ⟨x8, rfl, rfl, H⟩ := hq
          show zQ none m_X1_breaksWith (d + 1) 69 [(5, .int (x1 - x1 / (nI 40) * (nI 40))), (4, .int ((x1 / (nI 40)) - (x1 / (nI 40)) / (nI 40) * (nI 40))), (3, .int (x1 / (nI 1600))), (2, .int x1), (0, .ref 22), (1, .int i1)] (.int x8 :: []) h Q
          refine zq_if_eq (tgt := 76) dX1_breaksWith_69 rfl ⟨fun c9 => ?_, fun c9 => ?_⟩
          · have H := H.1 c9
            refine zq_iconst (v := (nI 0)) rfl dX1_breaksWith_76 ?_
            exact zq_iret dX1_breaksWith_77 rfl rfl rfl H
          · have H := H.2 c9
            refine zq_iconst (v := (nI 1)) rfl dX1_breaksWith_72 ?_
            refine zq_goto (tgt := 77) dX1_breaksWith_73 rfl ?_
            exact zq_iret dX1_breaksWith_77 rfl rfl rfl H
    · have H := H.2 c3
      refine zq_iconst (v := (nI 0)) rfl dX1_breaksWith_15 ?_
      exact zq_iret dX1_breaksWith_16 rfl rfl rfl H
  · have H := H.2 c2
    refine zq_iconst (v := (nI 1)) rfl dX1_breaksWith_9 ?_
    exact zq_iret dX1_breaksWith_10 rfl rfl rfl H
set_option maxHeartbeats 2000000 in
set_option maxRecDepth 20000 in
theorem r_X1_breaksWithout_0 {d : Nat} {h : AH} {Q : Option Value → AH → Prop} (i1 : Int32) (i2 : Int32) (i3 : Int32) (hw : zWF h)  (H : zK d m_X1_flip [.ref 22, .int i1, .int i2] h (kV fun h1 => zK d m_X1_breaksWith [.ref 22, .int (i3 - (nI 1))] h1 (pI h1 fun x2 => zK d m_X1_flip [.ref 22, .int i1, .int i2] h1 (kV fun h3 => (x2 = 0 ∨ x2 = 1) ∧ Q (some (.int x2)) h3)))) : zK (d + 1) m_X1_breaksWithout [.ref 22, .int i1, .int i2, .int i3] h Q := by
  refine zK_of mo_X1_breaksWithout (Nat.le_of_ble_eq_true rfl) ?_
  show zQ none m_X1_breaksWithout (d + 1) 0 [(0, .ref 22), (1, .int i1), (2, .int i2), (3, .int i3)] [] h Q
  refine zq_aload_n (k := 0) (i := 0) (x := 22) 0 rfl rfl dX1_breaksWithout_0 ?_
  refine zq_iload_n (k := 1) (i := 1) (x := i1) 1 rfl rfl dX1_breaksWithout_1 ?_
  refine zq_iload_n (k := 2) (i := 2) (x := i2) 2 rfl rfl dX1_breaksWithout_2 ?_
  refine zq_invS (as := [.ref 22, .int i1, .int i2]) (st := []) st_X1_flip mo_X1_flip ml_RX1_32 rfl (Nat.le_of_ble_eq_true rfl) dX1_breaksWithout_3 rfl H (fun r1 h1 hq => ?_)
  obtain ⟨rfl, wh1, H⟩ := hq
  show zQ none m_X1_breaksWithout (d + 1) 6 [(0, .ref 22), (1, .int i1), (2, .int i2), (3, .int i3)] ([]) h1 Q
  refine zq_aload_n (k := 0) (i := 0) (x := 22) 0 rfl rfl dX1_breaksWithout_6 ?_
  refine zq_iload_n (k := 3) (i := 3) (x := i3) 3 rfl rfl dX1_breaksWithout_7 ?_
  refine zq_iconst (v := (nI 1)) rfl dX1_breaksWithout_8 ?_
  refine zq_isub dX1_breaksWithout_9 ?_
  refine zq_invS (as := [.ref 22, .int (i3 - (nI 1))]) (st := []) st_X1_breaksWith mo_X1_breaksWith ml_RX1_50 rfl (Nat.le_of_ble_eq_true rfl) dX1_breaksWithout_10 rfl H (fun r1 h1 hq => ?_)
  obtain ⟨x2, rfl, rfl, H⟩ := hq
  show zQ none m_X1_breaksWithout (d + 1) 13 [(0, .ref 22), (1, .int i1), (2, .int i2), (3, .int i3)] (.int x2 :: []) h1 Q
  refine zq_istore (ls' := [(4, .int x2), (0, .ref 22), (1, .int i1), (2, .int i2), (3, .int i3)]) (i := 4) (Nat.le_of_ble_eq_true rfl) rfl dX1_breaksWithout_13 ?_
  refine zq_aload_n (k := 0) (i := 0) (x := 22) 1 rfl rfl dX1_breaksWithout_15 ?_
  refine zq_iload_n (k := 1) (i := 1) (x := i1) 2 rfl rfl dX1_breaksWithout_16 ?_
  refine zq_iload_n (k := 2) (i := 2) (x := i2) 3 rfl rfl dX1_breaksWithout_17 ?_
  refine zq_invS (as := [.ref 22, .int i1, .int i2]) (st := []) st_X1_flip mo_X1_flip ml_RX1_32 rfl (Nat.le_of_ble_eq_true rfl) dX1_breaksWithout_18 rfl H (fun r1 h3 hq => ?_)
  obtain ⟨rfl, wh3, H⟩ := hq
  show zQ none m_X1_breaksWithout (d + 1) 21 [(4, .int x2), (0, .ref 22), (1, .int i1), (2, .int i2), (3, .int i3)] ([]) h3 Q
  refine zq_iload (i := 4) (x := x2) 0 rfl dX1_breaksWithout_21 ?_
  obtain ⟨z4, H⟩ := H
  exact zq_iret dX1_breaksWithout_23 rfl rfl (zbool z4) H
set_option maxHeartbeats 2000000 in
set_option maxRecDepth 20000 in
theorem r_X1_anyTriangle_0 {d : Nat} {h : AH} {Q : Option Value → AH → Prop}  (hw : zWF h)  (H : zQ none m_X1_anyTriangle (d + 1) 2 [(0, .ref 22), (1, .int (nI 0))] [] h Q) : zK (d + 1) m_X1_anyTriangle [.ref 22] h Q := by
  refine zK_of mo_X1_anyTriangle (Nat.le_of_ble_eq_true rfl) ?_
  show zQ none m_X1_anyTriangle (d + 1) 0 [(0, .ref 22)] [] h Q
  refine zq_iconst (v := (nI 0)) rfl dX1_anyTriangle_0 ?_
  refine zq_istore_n (ls' := [(1, .int (nI 0)), (0, .ref 22)]) (k := 1) (i := 1) rfl (Nat.le_of_ble_eq_true rfl) rfl dX1_anyTriangle_1 ?_
  exact zq_sub (ls' := [(0, .ref 22), (1, .int (nI 0))]) [1, 0] rfl H
set_option maxHeartbeats 2000000 in
set_option maxRecDepth 20000 in
theorem r_X1_anyTriangle_2 {d : Nat} {h : AH} {Q : Option Value → AH → Prop} (i1 : Int32) (hw : zWF h)  (H : ((nI 40) ≤ i1 → Q (some (.int (-1))) h) ∧ (¬ (nI 40) ≤ i1 → zQ none m_X1_anyTriangle (d + 1) 12 [(0, .ref 22), (1, .int i1), (2, .int (i1 + (nI 1)))] [] h Q)) : zQ none m_X1_anyTriangle (d + 1) 2 [(0, .ref 22), (1, .int i1)] [] h Q := by
  refine zq_iload_n (k := 1) (i := 1) (x := i1) 1 rfl rfl dX1_anyTriangle_2 ?_
  refine zq_bipush (v := (nI 40)) rfl dX1_anyTriangle_3 ?_
  refine zq_icmp_ge (tgt := 79) dX1_anyTriangle_5 rfl ⟨fun c1 => ?_, fun c1 => ?_⟩
  · have H := H.1 c1
    refine zq_iconst (v := (-1)) rfl dX1_anyTriangle_79 ?_
    exact zq_iret dX1_anyTriangle_80 rfl rfl rfl H
  · have H := H.2 c1
    refine zq_iload_n (k := 1) (i := 1) (x := i1) 1 rfl rfl dX1_anyTriangle_8 ?_
    refine zq_iconst (v := (nI 1)) rfl dX1_anyTriangle_9 ?_
    refine zq_iadd dX1_anyTriangle_10 ?_
    refine zq_istore_n (ls' := [(2, .int (i1 + (nI 1))), (0, .ref 22), (1, .int i1)]) (k := 2) (i := 2) rfl (Nat.le_of_ble_eq_true rfl) rfl dX1_anyTriangle_11 ?_
    exact zq_sub (ls' := [(0, .ref 22), (1, .int i1), (2, .int (i1 + (nI 1)))]) [1, 2, 0] rfl H
set_option maxHeartbeats 2000000 in
set_option maxRecDepth 20000 in
theorem r_X1_anyTriangle_12 {d : Nat} {h : AH} {Q : Option Value → AH → Prop} (i1 : Int32) (i2 : Int32) (hw : zWF h)  (H : ((nI 40) ≤ i2 → zQ none m_X1_anyTriangle (d + 1) 2 [(0, .ref 22), (1, .int (i1 + (nI 1)))] [] h Q) ∧ (¬ (nI 40) ≤ i2 → vp_in i1 40 ∧ (zK d m_X10_hasBit [.long (h.L 22 i1.toNatClampNeg), .int i2] h (pI h fun x3 => (x3 = 0 → ((lg_cmp (0 : Int64) (0 : Int64)) = 0 → zQ none m_X1_anyTriangle (d + 1) 12 [(0, .ref 22), (1, .int i1), (2, .int (i2 + (nI 1)))] [] h Q) ∧ (¬ (lg_cmp (0 : Int64) (0 : Int64)) = 0 → zK d m_J13_numberOfTrailingZeros_95d88 [.long (0 : Int64)] h (pI h fun x6 => Q (some (.int (((i1 * (nI 1600)) + (i2 * (nI 40))) + x6))) h))) ∧ (¬ x3 = 0 → vp_in i1 40 ∧ (vp_in i2 40 ∧ (zK d m_X10_above [.int i2] h (pL h fun x9 => ((lg_cmp (((h.L 22 i1.toNatClampNeg) &&& (h.L 22 i2.toNatClampNeg)) &&& x9) (0 : Int64)) = 0 → zQ none m_X1_anyTriangle (d + 1) 12 [(0, .ref 22), (1, .int i1), (2, .int (i2 + (nI 1)))] [] h Q) ∧ (¬ (lg_cmp (((h.L 22 i1.toNatClampNeg) &&& (h.L 22 i2.toNatClampNeg)) &&& x9) (0 : Int64)) = 0 → zK d m_J13_numberOfTrailingZeros_95d88 [.long (((h.L 22 i1.toNatClampNeg) &&& (h.L 22 i2.toNatClampNeg)) &&& x9)] h (pI h fun x11 => Q (some (.int (((i1 * (nI 1600)) + (i2 * (nI 40))) + x11))) h)))))))))) : zQ none m_X1_anyTriangle (d + 1) 12 [(0, .ref 22), (1, .int i1), (2, .int i2)] [] h Q := by
  refine zq_iload_n (k := 2) (i := 2) (x := i2) 2 rfl rfl dX1_anyTriangle_12 ?_
  refine zq_bipush (v := (nI 40)) rfl dX1_anyTriangle_13 ?_
  refine zq_icmp_ge (tgt := 73) dX1_anyTriangle_15 rfl ⟨fun c1 => ?_, fun c1 => ?_⟩
  · have H := H.1 c1
    refine zq_iinc (i := 1) (x := i1) (v := (nI 1)) (ls' := [(1, .int (i1 + (nI 1))), (0, .ref 22), (2, .int i2)]) 1 rfl rfl (Nat.le_of_ble_eq_true rfl) rfl dX1_anyTriangle_73 ?_
    refine zq_goto (tgt := 2) dX1_anyTriangle_76 rfl ?_
    exact zq_sub (ls' := [(0, .ref 22), (1, .int (i1 + (nI 1)))]) [1, 0] rfl H
  · have H := H.2 c1
    refine zq_aload_n (k := 0) (i := 0) (x := 22) 0 rfl rfl dX1_anyTriangle_18 ?_
    refine zq_iload_n (k := 1) (i := 1) (x := i1) 1 rfl rfl dX1_anyTriangle_19 ?_
    obtain ⟨b2, H⟩ := H
    refine zq_lald (sh_22 hw) b2 dX1_anyTriangle_20 ?_
    refine zq_iload_n (k := 2) (i := 2) (x := i2) 2 rfl rfl dX1_anyTriangle_21 ?_
    refine zq_invS (as := [.long (h.L 22 i1.toNatClampNeg), .int i2]) (st := []) st_X10_hasBit mo_X10_hasBit ml_RX1_36 rfl (Nat.le_of_ble_eq_true rfl) dX1_anyTriangle_22 rfl H (fun r1 h1 hq => ?_)
    obtain ⟨x3, rfl, rfl, H⟩ := hq
    show zQ none m_X1_anyTriangle (d + 1) 25 [(0, .ref 22), (1, .int i1), (2, .int i2)] (.int x3 :: []) h Q
    refine zq_if_eq (tgt := 43) dX1_anyTriangle_25 rfl ⟨fun c4 => ?_, fun c4 => ?_⟩
    · have H := H.1 c4
      refine zq_lconst (v := 0) rfl dX1_anyTriangle_43 ?_
      refine zq_lstore_n (ls' := [(3, .long (0 : Int64)), (0, .ref 22), (1, .int i1), (2, .int i2)]) (k := 3) (i := 3) rfl (Nat.le_of_ble_eq_true rfl) rfl dX1_anyTriangle_44 ?_
      refine zq_lload_n (k := 3) (i := 3) (x := (0 : Int64)) 0 rfl rfl dX1_anyTriangle_45 ?_
      refine zq_lconst (v := 0) rfl dX1_anyTriangle_46 ?_
      refine zq_lcmp dX1_anyTriangle_47 ?_
      refine zq_if_eq (tgt := 67) dX1_anyTriangle_48 rfl ⟨fun c5 => ?_, fun c5 => ?_⟩
      · have H := H.1 c5
        refine zq_iinc (i := 2) (x := i2) (v := (nI 1)) (ls' := [(2, .int (i2 + (nI 1))), (3, .long (0 : Int64)), (0, .ref 22), (1, .int i1)]) 3 rfl rfl (Nat.le_of_ble_eq_true rfl) rfl dX1_anyTriangle_67 ?_
        refine zq_goto (tgt := 12) dX1_anyTriangle_70 rfl ?_
        exact zq_sub (ls' := [(0, .ref 22), (1, .int i1), (2, .int (i2 + (nI 1)))]) [2, 3, 0] rfl H
      · have H := H.2 c5
        refine zq_iload_n (k := 1) (i := 1) (x := i1) 2 rfl rfl dX1_anyTriangle_51 ?_
        refine zq_sipush (v := (nI 1600)) rfl dX1_anyTriangle_52 ?_
        refine zq_imul dX1_anyTriangle_55 ?_
        refine zq_iload_n (k := 2) (i := 2) (x := i2) 3 rfl rfl dX1_anyTriangle_56 ?_
        refine zq_bipush (v := (nI 40)) rfl dX1_anyTriangle_57 ?_
        refine zq_imul dX1_anyTriangle_59 ?_
        refine zq_iadd dX1_anyTriangle_60 ?_
        refine zq_lload_n (k := 3) (i := 3) (x := (0 : Int64)) 0 rfl rfl dX1_anyTriangle_61 ?_
        refine zq_invS (as := [.long (0 : Int64)]) (st := .int ((i1 * (nI 1600)) + (i2 * (nI 40))) :: []) st_J13_numberOfTrailingZeros_95d88 mo_J13_numberOfTrailingZeros_95d88 ml_RX1_66 rfl (Nat.le_of_ble_eq_true rfl) dX1_anyTriangle_62 rfl H (fun r1 h1 hq => ?_)
        obtain ⟨x6, rfl, rfl, H⟩ := hq
        show zQ none m_X1_anyTriangle (d + 1) 65 [(3, .long (0 : Int64)), (0, .ref 22), (1, .int i1), (2, .int i2)] (.int x6 :: .int ((i1 * (nI 1600)) + (i2 * (nI 40))) :: []) h Q
        refine zq_iadd dX1_anyTriangle_65 ?_
        exact zq_iret dX1_anyTriangle_66 rfl rfl rfl H
    · have H := H.2 c4
      refine zq_aload_n (k := 0) (i := 0) (x := 22) 0 rfl rfl dX1_anyTriangle_28 ?_
      refine zq_iload_n (k := 1) (i := 1) (x := i1) 1 rfl rfl dX1_anyTriangle_29 ?_
      obtain ⟨b7, H⟩ := H
      refine zq_lald (sh_22 hw) b7 dX1_anyTriangle_30 ?_
      refine zq_aload_n (k := 0) (i := 0) (x := 22) 0 rfl rfl dX1_anyTriangle_31 ?_
      refine zq_iload_n (k := 2) (i := 2) (x := i2) 2 rfl rfl dX1_anyTriangle_32 ?_
      obtain ⟨b8, H⟩ := H
      refine zq_lald (sh_22 hw) b8 dX1_anyTriangle_33 ?_
      refine zq_land dX1_anyTriangle_34 ?_
      refine zq_iload_n (k := 2) (i := 2) (x := i2) 2 rfl rfl dX1_anyTriangle_35 ?_
      refine zq_invS (as := [.int i2]) (st := .long ((h.L 22 i1.toNatClampNeg) &&& (h.L 22 i2.toNatClampNeg)) :: []) st_X10_above mo_X10_above ml_RX1_62 rfl (Nat.le_of_ble_eq_true rfl) dX1_anyTriangle_36 rfl H (fun r1 h1 hq => ?_)
      obtain ⟨x9, rfl, rfl, H⟩ := hq
      show zQ none m_X1_anyTriangle (d + 1) 39 [(0, .ref 22), (1, .int i1), (2, .int i2)] (.long x9 :: .long ((h.L 22 i1.toNatClampNeg) &&& (h.L 22 i2.toNatClampNeg)) :: []) h Q
      refine zq_land dX1_anyTriangle_39 ?_
      refine zq_goto (tgt := 44) dX1_anyTriangle_40 rfl ?_
      refine zq_lstore_n (ls' := [(3, .long (((h.L 22 i1.toNatClampNeg) &&& (h.L 22 i2.toNatClampNeg)) &&& x9)), (0, .ref 22), (1, .int i1), (2, .int i2)]) (k := 3) (i := 3) rfl (Nat.le_of_ble_eq_true rfl) rfl dX1_anyTriangle_44 ?_
      refine zq_lload_n (k := 3) (i := 3) (x := (((h.L 22 i1.toNatClampNeg) &&& (h.L 22 i2.toNatClampNeg)) &&& x9)) 0 rfl rfl dX1_anyTriangle_45 ?_
      refine zq_lconst (v := 0) rfl dX1_anyTriangle_46 ?_
      refine zq_lcmp dX1_anyTriangle_47 ?_
      refine zq_if_eq (tgt := 67) dX1_anyTriangle_48 rfl ⟨fun c10 => ?_, fun c10 => ?_⟩
      · have H := H.1 c10
        refine zq_iinc (i := 2) (x := i2) (v := (nI 1)) (ls' := [(2, .int (i2 + (nI 1))), (3, .long (((h.L 22 i1.toNatClampNeg) &&& (h.L 22 i2.toNatClampNeg)) &&& x9)), (0, .ref 22), (1, .int i1)]) 3 rfl rfl (Nat.le_of_ble_eq_true rfl) rfl dX1_anyTriangle_67 ?_
        refine zq_goto (tgt := 12) dX1_anyTriangle_70 rfl ?_
        exact zq_sub (ls' := [(0, .ref 22), (1, .int i1), (2, .int (i2 + (nI 1)))]) [2, 3, 0] rfl H
      · have H := H.2 c10
        refine zq_iload_n (k := 1) (i := 1) (x := i1) 2 rfl rfl dX1_anyTriangle_51 ?_
        refine zq_sipush (v := (nI 1600)) rfl dX1_anyTriangle_52 ?_
        refine zq_imul dX1_anyTriangle_55 ?_
        refine zq_iload_n (k := 2) (i := 2) (x := i2) 3 rfl rfl dX1_anyTriangle_56 ?_
        refine zq_bipush (v := (nI 40)) rfl dX1_anyTriangle_57 ?_
        refine zq_imul dX1_anyTriangle_59 ?_
        refine zq_iadd dX1_anyTriangle_60 ?_
        refine zq_lload_n (k := 3) (i := 3) (x := (((h.L 22 i1.toNatClampNeg) &&& (h.L 22 i2.toNatClampNeg)) &&& x9)) 0 rfl rfl dX1_anyTriangle_61 ?_
        refine zq_invS (as := [.long (((h.L 22 i1.toNatClampNeg) &&& (h.L 22 i2.toNatClampNeg)) &&& x9)]) (st := .int ((i1 * (nI 1600)) + (i2 * (nI 40))) :: []) st_J13_numberOfTrailingZeros_95d88 mo_J13_numberOfTrailingZeros_95d88 ml_RX1_66 rfl (Nat.le_of_ble_eq_true rfl) dX1_anyTriangle_62 rfl H (fun r1 h1 hq => ?_)
        obtain ⟨x11, rfl, rfl, H⟩ := hq
        show zQ none m_X1_anyTriangle (d + 1) 65 [(3, .long (((h.L 22 i1.toNatClampNeg) &&& (h.L 22 i2.toNatClampNeg)) &&& x9)), (0, .ref 22), (1, .int i1), (2, .int i2)] (.int x11 :: .int ((i1 * (nI 1600)) + (i2 * (nI 40))) :: []) h Q
        refine zq_iadd dX1_anyTriangle_65 ?_
        exact zq_iret dX1_anyTriangle_66 rfl rfl rfl H
set_option maxHeartbeats 2000000 in
set_option maxRecDepth 20000 in
theorem r_X1_flip_0 {d : Nat} {h : AH} {Q : Option Value → AH → Prop} (i1 : Int32) (i2 : Int32) (hw : zWF h)  (H : vp_in i1 40 ∧ (vp_in i1 40 ∧ (∀ h3, h3 = h.sL 22 i1.toNatClampNeg ((h.L 22 i1.toNatClampNeg) ^^^ ((1 : Int64) <<< (i2.toInt64 &&& 63))) → vp_in i2 40 ∧ (vp_in i2 40 ∧ (∀ h6, h6 = h3.sL 22 i2.toNatClampNeg ((h3.L 22 i2.toNatClampNeg) ^^^ ((1 : Int64) <<< (i1.toInt64 &&& 63))) → Q none h6))))) : zK (d + 1) m_X1_flip [.ref 22, .int i1, .int i2] h Q := by
  refine zK_of mo_X1_flip (Nat.le_of_ble_eq_true rfl) ?_
  show zQ none m_X1_flip (d + 1) 0 [(0, .ref 22), (1, .int i1), (2, .int i2)] [] h Q
  refine zq_aload_n (k := 0) (i := 0) (x := 22) 0 rfl rfl dX1_flip_0 ?_
  refine zq_iload_n (k := 1) (i := 1) (x := i1) 1 rfl rfl dX1_flip_1 ?_
  refine zq_dup2 rfl rfl dX1_flip_2 ?_
  obtain ⟨b1, H⟩ := H
  refine zq_lald (sh_22 hw) b1 dX1_flip_3 ?_
  refine zq_lconst (v := 1) rfl dX1_flip_4 ?_
  refine zq_iload_n (k := 2) (i := 2) (x := i2) 2 rfl rfl dX1_flip_5 ?_
  refine zq_lshl dX1_flip_6 ?_
  refine zq_lxor dX1_flip_7 ?_
  obtain ⟨b2, H⟩ := H
  refine zq_last (sh_22 hw) b2 dX1_flip_8 (fun h3 eh3 => ?_)
  have H := H h3 eh3
  have wh3 := wf_L eh3 hw
  refine zq_aload_n (k := 0) (i := 0) (x := 22) 0 rfl rfl dX1_flip_9 ?_
  refine zq_iload_n (k := 2) (i := 2) (x := i2) 2 rfl rfl dX1_flip_10 ?_
  refine zq_dup2 rfl rfl dX1_flip_11 ?_
  obtain ⟨b4, H⟩ := H
  refine zq_lald (sh_22 wh3) b4 dX1_flip_12 ?_
  refine zq_lconst (v := 1) rfl dX1_flip_13 ?_
  refine zq_iload_n (k := 1) (i := 1) (x := i1) 1 rfl rfl dX1_flip_14 ?_
  refine zq_lshl dX1_flip_15 ?_
  refine zq_lxor dX1_flip_16 ?_
  obtain ⟨b5, H⟩ := H
  refine zq_last (sh_22 wh3) b5 dX1_flip_17 (fun h6 eh6 => ?_)
  have H := H h6 eh6
  have wh6 := wf_L eh6 wh3
  exact zq_vret dX1_flip_18 rfl H
set_option maxHeartbeats 2000000 in
set_option maxRecDepth 20000 in
theorem r_X2_degree_0 {d : Nat} {h : AH} {Q : Option Value → AH → Prop} (r0 : Nat) (i1 : Int32) (s_r0 : h.sh r0 = some (.inr (1, 40))) (H : vp_in i1 40 ∧ (zK d m_J13_bitCount_95d88 [.long (h.L r0 i1.toNatClampNeg)] h (pI h fun x2 => Q (some (.int x2)) h))) : zK (d + 1) m_X2_degree [.ref r0, .int i1] h Q := by
  refine zK_of mo_X2_degree (Nat.le_of_ble_eq_true rfl) ?_
  show zQ none m_X2_degree (d + 1) 0 [(0, .ref r0), (1, .int i1)] [] h Q
  refine zq_aload_n (k := 0) (i := 0) (x := r0) 0 rfl rfl dX2_degree_0 ?_
  refine zq_iload_n (k := 1) (i := 1) (x := i1) 1 rfl rfl dX2_degree_1 ?_
  obtain ⟨b1, H⟩ := H
  refine zq_lald s_r0 b1 dX2_degree_2 ?_
  refine zq_invS (as := [.long (h.L r0 i1.toNatClampNeg)]) (st := []) st_J13_bitCount_95d88 mo_J13_bitCount_95d88 ml_RX2_9 rfl (Nat.le_of_ble_eq_true rfl) dX2_degree_3 rfl H (fun r1 h1 hq => ?_)
  obtain ⟨x2, rfl, rfl, H⟩ := hq
  show zQ none m_X2_degree (d + 1) 6 [(0, .ref r0), (1, .int i1)] (.int x2 :: []) h Q
  exact zq_iret dX2_degree_6 rfl rfl rfl H
set_option maxHeartbeats 2000000 in
set_option maxRecDepth 20000 in
theorem r_X2_shared_0 {d : Nat} {h : AH} {Q : Option Value → AH → Prop} (r0 : Nat) (i1 : Int32) (i2 : Int32) (s_r0 : h.sh r0 = some (.inr (1, 40))) (H : vp_in i1 40 ∧ (vp_in i2 40 ∧ (zK d m_J13_bitCount_95d88 [.long ((h.L r0 i1.toNatClampNeg) &&& (h.L r0 i2.toNatClampNeg))] h (pI h fun x3 => Q (some (.int x3)) h)))) : zK (d + 1) m_X2_shared [.ref r0, .int i1, .int i2] h Q := by
  refine zK_of mo_X2_shared (Nat.le_of_ble_eq_true rfl) ?_
  show zQ none m_X2_shared (d + 1) 0 [(0, .ref r0), (1, .int i1), (2, .int i2)] [] h Q
  refine zq_aload_n (k := 0) (i := 0) (x := r0) 0 rfl rfl dX2_shared_0 ?_
  refine zq_iload_n (k := 1) (i := 1) (x := i1) 1 rfl rfl dX2_shared_1 ?_
  obtain ⟨b1, H⟩ := H
  refine zq_lald s_r0 b1 dX2_shared_2 ?_
  refine zq_aload_n (k := 0) (i := 0) (x := r0) 0 rfl rfl dX2_shared_3 ?_
  refine zq_iload_n (k := 2) (i := 2) (x := i2) 2 rfl rfl dX2_shared_4 ?_
  obtain ⟨b2, H⟩ := H
  refine zq_lald s_r0 b2 dX2_shared_5 ?_
  refine zq_land dX2_shared_6 ?_
  refine zq_invS (as := [.long ((h.L r0 i1.toNatClampNeg) &&& (h.L r0 i2.toNatClampNeg))]) (st := []) st_J13_bitCount_95d88 mo_J13_bitCount_95d88 ml_RX2_9 rfl (Nat.le_of_ble_eq_true rfl) dX2_shared_7 rfl H (fun r1 h1 hq => ?_)
  obtain ⟨x3, rfl, rfl, H⟩ := hq
  show zQ none m_X2_shared (d + 1) 10 [(0, .ref r0), (1, .int i1), (2, .int i2)] (.int x3 :: []) h Q
  exact zq_iret dX2_shared_10 rfl rfl rfl H
set_option maxHeartbeats 2000000 in
set_option maxRecDepth 20000 in
theorem r_X2_trianglesAt_0 {d : Nat} {h : AH} {Q : Option Value → AH → Prop} (r0 : Nat) (i1 : Int32) (s_r0 : h.sh r0 = some (.inr (1, 40))) (H : zQ none m_X2_trianglesAt (d + 1) 4 [(0, .ref r0), (1, .int i1), (2, .int (nI 0)), (3, .int (nI 0))] [] h Q) : zK (d + 1) m_X2_trianglesAt [.ref r0, .int i1] h Q := by
  refine zK_of mo_X2_trianglesAt (Nat.le_of_ble_eq_true rfl) ?_
  show zQ none m_X2_trianglesAt (d + 1) 0 [(0, .ref r0), (1, .int i1)] [] h Q
  refine zq_iconst (v := (nI 0)) rfl dX2_trianglesAt_0 ?_
  refine zq_istore_n (ls' := [(2, .int (nI 0)), (0, .ref r0), (1, .int i1)]) (k := 2) (i := 2) rfl (Nat.le_of_ble_eq_true rfl) rfl dX2_trianglesAt_1 ?_
  refine zq_iconst (v := (nI 0)) rfl dX2_trianglesAt_2 ?_
  refine zq_istore_n (ls' := [(3, .int (nI 0)), (2, .int (nI 0)), (0, .ref r0), (1, .int i1)]) (k := 3) (i := 3) rfl (Nat.le_of_ble_eq_true rfl) rfl dX2_trianglesAt_3 ?_
  exact zq_sub (ls' := [(0, .ref r0), (1, .int i1), (2, .int (nI 0)), (3, .int (nI 0))]) [2, 3, 1, 0] rfl H
set_option maxHeartbeats 2000000 in
set_option maxRecDepth 20000 in
theorem r_X2_trianglesAt_4 {d : Nat} {h : AH} {Q : Option Value → AH → Prop} (r0 : Nat) (i1 : Int32) (i2 : Int32) (i3 : Int32) (s_r0 : h.sh r0 = some (.inr (1, 40))) (H : ((nI 40) ≤ i3 → Q (some (.int (i2 / (nI 2)))) h) ∧ (¬ (nI 40) ≤ i3 → vp_in i1 40 ∧ (zK d m_X10_hasBit [.long (h.L r0 i1.toNatClampNeg), .int i3] h (pI h fun x3 => (x3 = 0 → zQ none m_X2_trianglesAt (d + 1) 4 [(0, .ref r0), (1, .int i1), (2, .int i2), (3, .int (i3 + (nI 1)))] [] h Q) ∧ (¬ x3 = 0 → zK d m_X2_shared [.ref r0, .int i1, .int i3] h (pI h fun x5 => zQ none m_X2_trianglesAt (d + 1) 4 [(0, .ref r0), (1, .int i1), (2, .int (i2 + x5)), (3, .int (i3 + (nI 1)))] [] h Q)))))) : zQ none m_X2_trianglesAt (d + 1) 4 [(0, .ref r0), (1, .int i1), (2, .int i2), (3, .int i3)] [] h Q := by
  refine zq_iload_n (k := 3) (i := 3) (x := i3) 3 rfl rfl dX2_trianglesAt_4 ?_
  refine zq_bipush (v := (nI 40)) rfl dX2_trianglesAt_5 ?_
  refine zq_icmp_ge (tgt := 35) dX2_trianglesAt_7 rfl ⟨fun c1 => ?_, fun c1 => ?_⟩
  · have H := H.1 c1
    refine zq_iload_n (k := 2) (i := 2) (x := i2) 2 rfl rfl dX2_trianglesAt_35 ?_
    refine zq_iconst (v := (nI 2)) rfl dX2_trianglesAt_36 ?_
    refine zq_idiv (by decide) dX2_trianglesAt_37 ?_
    exact zq_iret dX2_trianglesAt_38 rfl rfl rfl H
  · have H := H.2 c1
    refine zq_aload_n (k := 0) (i := 0) (x := r0) 0 rfl rfl dX2_trianglesAt_10 ?_
    refine zq_iload_n (k := 1) (i := 1) (x := i1) 1 rfl rfl dX2_trianglesAt_11 ?_
    obtain ⟨b2, H⟩ := H
    refine zq_lald s_r0 b2 dX2_trianglesAt_12 ?_
    refine zq_iload_n (k := 3) (i := 3) (x := i3) 3 rfl rfl dX2_trianglesAt_13 ?_
    refine zq_invS (as := [.long (h.L r0 i1.toNatClampNeg), .int i3]) (st := []) st_X10_hasBit mo_X10_hasBit ml_RX2_15 rfl (Nat.le_of_ble_eq_true rfl) dX2_trianglesAt_14 rfl H (fun r1 h1 hq => ?_)
    obtain ⟨x3, rfl, rfl, H⟩ := hq
    show zQ none m_X2_trianglesAt (d + 1) 17 [(0, .ref r0), (1, .int i1), (2, .int i2), (3, .int i3)] (.int x3 :: []) h Q
    refine zq_if_eq (tgt := 29) dX2_trianglesAt_17 rfl ⟨fun c4 => ?_, fun c4 => ?_⟩
    · have H := H.1 c4
      refine zq_iinc (i := 3) (x := i3) (v := (nI 1)) (ls' := [(3, .int (i3 + (nI 1))), (0, .ref r0), (1, .int i1), (2, .int i2)]) 3 rfl rfl (Nat.le_of_ble_eq_true rfl) rfl dX2_trianglesAt_29 ?_
      refine zq_goto (tgt := 4) dX2_trianglesAt_32 rfl ?_
      exact zq_sub (ls' := [(0, .ref r0), (1, .int i1), (2, .int i2), (3, .int (i3 + (nI 1)))]) [1, 2, 3, 0] rfl H
    · have H := H.2 c4
      refine zq_iload_n (k := 2) (i := 2) (x := i2) 2 rfl rfl dX2_trianglesAt_20 ?_
      refine zq_aload_n (k := 0) (i := 0) (x := r0) 0 rfl rfl dX2_trianglesAt_21 ?_
      refine zq_iload_n (k := 1) (i := 1) (x := i1) 1 rfl rfl dX2_trianglesAt_22 ?_
      refine zq_iload_n (k := 3) (i := 3) (x := i3) 3 rfl rfl dX2_trianglesAt_23 ?_
      refine zq_invS (as := [.ref r0, .int i1, .int i3]) (st := .int i2 :: []) st_X2_shared mo_X2_shared ml_RX2_19 rfl (Nat.le_of_ble_eq_true rfl) dX2_trianglesAt_24 rfl H (fun r1 h1 hq => ?_)
      obtain ⟨x5, rfl, rfl, H⟩ := hq
      show zQ none m_X2_trianglesAt (d + 1) 27 [(0, .ref r0), (1, .int i1), (2, .int i2), (3, .int i3)] (.int x5 :: .int i2 :: []) h Q
      refine zq_iadd dX2_trianglesAt_27 ?_
      refine zq_istore_n (ls' := [(2, .int (i2 + x5)), (0, .ref r0), (1, .int i1), (3, .int i3)]) (k := 2) (i := 2) rfl (Nat.le_of_ble_eq_true rfl) rfl dX2_trianglesAt_28 ?_
      refine zq_iinc (i := 3) (x := i3) (v := (nI 1)) (ls' := [(3, .int (i3 + (nI 1))), (2, .int (i2 + x5)), (0, .ref r0), (1, .int i1)]) 3 rfl rfl (Nat.le_of_ble_eq_true rfl) rfl dX2_trianglesAt_29 ?_
      refine zq_goto (tgt := 4) dX2_trianglesAt_32 rfl ?_
      exact zq_sub (ls' := [(0, .ref r0), (1, .int i1), (2, .int (i2 + x5)), (3, .int (i3 + (nI 1)))]) [2, 3, 1, 0] rfl H
set_option maxHeartbeats 2000000 in
set_option maxRecDepth 20000 in
theorem r_X2_triangles_0 {d : Nat} {h : AH} {Q : Option Value → AH → Prop} (r0 : Nat) (s_r0 : h.sh r0 = some (.inr (1, 40))) (H : zQ none m_X2_triangles (d + 1) 4 [(0, .ref r0), (1, .int (nI 0)), (2, .int (nI 0))] [] h Q) : zK (d + 1) m_X2_triangles [.ref r0] h Q := by
  refine zK_of mo_X2_triangles (Nat.le_of_ble_eq_true rfl) ?_
  show zQ none m_X2_triangles (d + 1) 0 [(0, .ref r0)] [] h Q
  refine zq_iconst (v := (nI 0)) rfl dX2_triangles_0 ?_
  refine zq_istore_n (ls' := [(1, .int (nI 0)), (0, .ref r0)]) (k := 1) (i := 1) rfl (Nat.le_of_ble_eq_true rfl) rfl dX2_triangles_1 ?_
  refine zq_iconst (v := (nI 0)) rfl dX2_triangles_2 ?_
  refine zq_istore_n (ls' := [(2, .int (nI 0)), (1, .int (nI 0)), (0, .ref r0)]) (k := 2) (i := 2) rfl (Nat.le_of_ble_eq_true rfl) rfl dX2_triangles_3 ?_
  exact zq_sub (ls' := [(0, .ref r0), (1, .int (nI 0)), (2, .int (nI 0))]) [2, 1, 0] rfl H
set_option maxHeartbeats 2000000 in
set_option maxRecDepth 20000 in
theorem r_X2_triangles_4 {d : Nat} {h : AH} {Q : Option Value → AH → Prop} (r0 : Nat) (i1 : Int32) (i2 : Int32) (s_r0 : h.sh r0 = some (.inr (1, 40))) (H : ((nI 40) ≤ i2 → Q (some (.int (i1 / (nI 3)))) h) ∧ (¬ (nI 40) ≤ i2 → zK d m_X2_trianglesAt [.ref r0, .int i2] h (pI h fun x2 => zQ none m_X2_triangles (d + 1) 4 [(0, .ref r0), (1, .int (i1 + x2)), (2, .int (i2 + (nI 1)))] [] h Q))) : zQ none m_X2_triangles (d + 1) 4 [(0, .ref r0), (1, .int i1), (2, .int i2)] [] h Q := by
  refine zq_iload_n (k := 2) (i := 2) (x := i2) 2 rfl rfl dX2_triangles_4 ?_
  refine zq_bipush (v := (nI 40)) rfl dX2_triangles_5 ?_
  refine zq_icmp_ge (tgt := 24) dX2_triangles_7 rfl ⟨fun c1 => ?_, fun c1 => ?_⟩
  · have H := H.1 c1
    refine zq_iload_n (k := 1) (i := 1) (x := i1) 1 rfl rfl dX2_triangles_24 ?_
    refine zq_iconst (v := (nI 3)) rfl dX2_triangles_25 ?_
    refine zq_idiv (by decide) dX2_triangles_26 ?_
    exact zq_iret dX2_triangles_27 rfl rfl rfl H
  · have H := H.2 c1
    refine zq_iload_n (k := 1) (i := 1) (x := i1) 1 rfl rfl dX2_triangles_10 ?_
    refine zq_aload_n (k := 0) (i := 0) (x := r0) 0 rfl rfl dX2_triangles_11 ?_
    refine zq_iload_n (k := 2) (i := 2) (x := i2) 2 rfl rfl dX2_triangles_12 ?_
    refine zq_invS (as := [.ref r0, .int i2]) (st := .int i1 :: []) st_X2_trianglesAt mo_X2_trianglesAt ml_RX2_25 rfl (Nat.le_of_ble_eq_true rfl) dX2_triangles_13 rfl H (fun r1 h1 hq => ?_)
    obtain ⟨x2, rfl, rfl, H⟩ := hq
    show zQ none m_X2_triangles (d + 1) 16 [(0, .ref r0), (1, .int i1), (2, .int i2)] (.int x2 :: .int i1 :: []) h Q
    refine zq_iadd dX2_triangles_16 ?_
    refine zq_istore_n (ls' := [(1, .int (i1 + x2)), (0, .ref r0), (2, .int i2)]) (k := 1) (i := 1) rfl (Nat.le_of_ble_eq_true rfl) rfl dX2_triangles_17 ?_
    refine zq_iinc (i := 2) (x := i2) (v := (nI 1)) (ls' := [(2, .int (i2 + (nI 1))), (1, .int (i1 + x2)), (0, .ref r0)]) 2 rfl rfl (Nat.le_of_ble_eq_true rfl) rfl dX2_triangles_18 ?_
    refine zq_goto (tgt := 4) dX2_triangles_21 rfl ?_
    exact zq_sub (ls' := [(0, .ref r0), (1, .int (i1 + x2)), (2, .int (i2 + (nI 1)))]) [2, 1, 0] rfl H
set_option maxHeartbeats 2000000 in
set_option maxRecDepth 20000 in
theorem r_X2_twosAt_0 {d : Nat} {h : AH} {Q : Option Value → AH → Prop} (r0 : Nat) (i1 : Int32) (s_r0 : h.sh r0 = some (.inr (1, 40))) (H : zK d m_X2_degree [.ref r0, .int i1] h (pI h fun x1 => Q (some (.int ((x1 * (x1 - (nI 1))) / (nI 2)))) h)) : zK (d + 1) m_X2_twosAt [.ref r0, .int i1] h Q := by
  refine zK_of mo_X2_twosAt (Nat.le_of_ble_eq_true rfl) ?_
  show zQ none m_X2_twosAt (d + 1) 0 [(0, .ref r0), (1, .int i1)] [] h Q
  refine zq_aload_n (k := 0) (i := 0) (x := r0) 0 rfl rfl dX2_twosAt_0 ?_
  refine zq_iload_n (k := 1) (i := 1) (x := i1) 1 rfl rfl dX2_twosAt_1 ?_
  refine zq_invS (as := [.ref r0, .int i1]) (st := []) st_X2_degree mo_X2_degree ml_RX2_29 rfl (Nat.le_of_ble_eq_true rfl) dX2_twosAt_2 rfl H (fun r1 h1 hq => ?_)
  obtain ⟨x1, rfl, rfl, H⟩ := hq
  show zQ none m_X2_twosAt (d + 1) 5 [(0, .ref r0), (1, .int i1)] (.int x1 :: []) h Q
  refine zq_istore_n (ls' := [(2, .int x1), (0, .ref r0), (1, .int i1)]) (k := 2) (i := 2) rfl (Nat.le_of_ble_eq_true rfl) rfl dX2_twosAt_5 ?_
  refine zq_iload_n (k := 2) (i := 2) (x := x1) 0 rfl rfl dX2_twosAt_6 ?_
  refine zq_iload_n (k := 2) (i := 2) (x := x1) 0 rfl rfl dX2_twosAt_7 ?_
  refine zq_iconst (v := (nI 1)) rfl dX2_twosAt_8 ?_
  refine zq_isub dX2_twosAt_9 ?_
  refine zq_imul dX2_twosAt_10 ?_
  refine zq_iconst (v := (nI 2)) rfl dX2_twosAt_11 ?_
  refine zq_idiv (by decide) dX2_twosAt_12 ?_
  exact zq_iret dX2_twosAt_13 rfl rfl rfl H
set_option maxHeartbeats 2000000 in
set_option maxRecDepth 20000 in
theorem r_X2_twos_0 {d : Nat} {h : AH} {Q : Option Value → AH → Prop} (r0 : Nat) (s_r0 : h.sh r0 = some (.inr (1, 40))) (H : zQ none m_X2_twos (d + 1) 4 [(0, .ref r0), (1, .int (nI 0)), (2, .int (nI 0))] [] h Q) : zK (d + 1) m_X2_twos [.ref r0] h Q := by
  refine zK_of mo_X2_twos (Nat.le_of_ble_eq_true rfl) ?_
  show zQ none m_X2_twos (d + 1) 0 [(0, .ref r0)] [] h Q
  refine zq_iconst (v := (nI 0)) rfl dX2_twos_0 ?_
  refine zq_istore_n (ls' := [(1, .int (nI 0)), (0, .ref r0)]) (k := 1) (i := 1) rfl (Nat.le_of_ble_eq_true rfl) rfl dX2_twos_1 ?_
  refine zq_iconst (v := (nI 0)) rfl dX2_twos_2 ?_
  refine zq_istore_n (ls' := [(2, .int (nI 0)), (1, .int (nI 0)), (0, .ref r0)]) (k := 2) (i := 2) rfl (Nat.le_of_ble_eq_true rfl) rfl dX2_twos_3 ?_
  exact zq_sub (ls' := [(0, .ref r0), (1, .int (nI 0)), (2, .int (nI 0))]) [2, 1, 0] rfl H
set_option maxHeartbeats 2000000 in
set_option maxRecDepth 20000 in
theorem r_X2_twos_4 {d : Nat} {h : AH} {Q : Option Value → AH → Prop} (r0 : Nat) (i1 : Int32) (i2 : Int32) (s_r0 : h.sh r0 = some (.inr (1, 40))) (H : ((nI 40) ≤ i2 → Q (some (.int i1)) h) ∧ (¬ (nI 40) ≤ i2 → zK d m_X2_twosAt [.ref r0, .int i2] h (pI h fun x2 => zQ none m_X2_twos (d + 1) 4 [(0, .ref r0), (1, .int (i1 + x2)), (2, .int (i2 + (nI 1)))] [] h Q))) : zQ none m_X2_twos (d + 1) 4 [(0, .ref r0), (1, .int i1), (2, .int i2)] [] h Q := by
  refine zq_iload_n (k := 2) (i := 2) (x := i2) 2 rfl rfl dX2_twos_4 ?_
  refine zq_bipush (v := (nI 40)) rfl dX2_twos_5 ?_
  refine zq_icmp_ge (tgt := 24) dX2_twos_7 rfl ⟨fun c1 => ?_, fun c1 => ?_⟩
  · have H := H.1 c1
    refine zq_iload_n (k := 1) (i := 1) (x := i1) 1 rfl rfl dX2_twos_24 ?_
    exact zq_iret dX2_twos_25 rfl rfl rfl H
  · have H := H.2 c1
    refine zq_iload_n (k := 1) (i := 1) (x := i1) 1 rfl rfl dX2_twos_10 ?_
    refine zq_aload_n (k := 0) (i := 0) (x := r0) 0 rfl rfl dX2_twos_11 ?_
    refine zq_iload_n (k := 2) (i := 2) (x := i2) 2 rfl rfl dX2_twos_12 ?_
    refine zq_invS (as := [.ref r0, .int i2]) (st := .int i1 :: []) st_X2_twosAt mo_X2_twosAt ml_RX2_32 rfl (Nat.le_of_ble_eq_true rfl) dX2_twos_13 rfl H (fun r1 h1 hq => ?_)
    obtain ⟨x2, rfl, rfl, H⟩ := hq
    show zQ none m_X2_twos (d + 1) 16 [(0, .ref r0), (1, .int i1), (2, .int i2)] (.int x2 :: .int i1 :: []) h Q
    refine zq_iadd dX2_twos_16 ?_
    refine zq_istore_n (ls' := [(1, .int (i1 + x2)), (0, .ref r0), (2, .int i2)]) (k := 1) (i := 1) rfl (Nat.le_of_ble_eq_true rfl) rfl dX2_twos_17 ?_
    refine zq_iinc (i := 2) (x := i2) (v := (nI 1)) (ls' := [(2, .int (i2 + (nI 1))), (1, .int (i1 + x2)), (0, .ref r0)]) 2 rfl rfl (Nat.le_of_ble_eq_true rfl) rfl dX2_twos_18 ?_
    refine zq_goto (tgt := 4) dX2_twos_21 rfl ?_
    exact zq_sub (ls' := [(0, .ref r0), (1, .int (i1 + x2)), (2, .int (i2 + (nI 1)))]) [2, 1, 0] rfl H
set_option maxHeartbeats 2000000 in
set_option maxRecDepth 20000 in
theorem r_X2_ringsAt_0 {d : Nat} {h : AH} {Q : Option Value → AH → Prop} (r0 : Nat) (i1 : Int32) (s_r0 : h.sh r0 = some (.inr (1, 40))) (H : zQ none m_X2_ringsAt (d + 1) 4 [(0, .ref r0), (1, .int i1), (2, .int (nI 0)), (3, .int (nI 0))] [] h Q) : zK (d + 1) m_X2_ringsAt [.ref r0, .int i1] h Q := by
  refine zK_of mo_X2_ringsAt (Nat.le_of_ble_eq_true rfl) ?_
  show zQ none m_X2_ringsAt (d + 1) 0 [(0, .ref r0), (1, .int i1)] [] h Q
  refine zq_iconst (v := (nI 0)) rfl dX2_ringsAt_0 ?_
  refine zq_istore_n (ls' := [(2, .int (nI 0)), (0, .ref r0), (1, .int i1)]) (k := 2) (i := 2) rfl (Nat.le_of_ble_eq_true rfl) rfl dX2_ringsAt_1 ?_
  refine zq_iconst (v := (nI 0)) rfl dX2_ringsAt_2 ?_
  refine zq_istore_n (ls' := [(3, .int (nI 0)), (2, .int (nI 0)), (0, .ref r0), (1, .int i1)]) (k := 3) (i := 3) rfl (Nat.le_of_ble_eq_true rfl) rfl dX2_ringsAt_3 ?_
  exact zq_sub (ls' := [(0, .ref r0), (1, .int i1), (2, .int (nI 0)), (3, .int (nI 0))]) [2, 3, 1, 0] rfl H
set_option maxHeartbeats 2000000 in
set_option maxRecDepth 20000 in
theorem r_X2_ringsAt_4 {d : Nat} {h : AH} {Q : Option Value → AH → Prop} (r0 : Nat) (i1 : Int32) (i2 : Int32) (i3 : Int32) (s_r0 : h.sh r0 = some (.inr (1, 40))) (H : ((nI 40) ≤ i3 → Q (some (.int i2)) h) ∧ (¬ (nI 40) ≤ i3 → (i3 = i1 → zQ none m_X2_ringsAt (d + 1) 4 [(0, .ref r0), (1, .int i1), (2, .int i2), (3, .int (i3 + (nI 1)))] [] h Q) ∧ (¬ i3 = i1 → zK d m_X2_shared [.ref r0, .int i1, .int i3] h (pI h fun x3 => zQ none m_X2_ringsAt (d + 1) 4 [(0, .ref r0), (1, .int i1), (2, .int (i2 + ((x3 * (x3 - (nI 1))) / (nI 2)))), (3, .int (i3 + (nI 1)))] [] h Q)))) : zQ none m_X2_ringsAt (d + 1) 4 [(0, .ref r0), (1, .int i1), (2, .int i2), (3, .int i3)] [] h Q := by
  refine zq_iload_n (k := 3) (i := 3) (x := i3) 3 rfl rfl dX2_ringsAt_4 ?_
  refine zq_bipush (v := (nI 40)) rfl dX2_ringsAt_5 ?_
  refine zq_icmp_ge (tgt := 41) dX2_ringsAt_7 rfl ⟨fun c1 => ?_, fun c1 => ?_⟩
  · have H := H.1 c1
    refine zq_iload_n (k := 2) (i := 2) (x := i2) 2 rfl rfl dX2_ringsAt_41 ?_
    exact zq_iret dX2_ringsAt_42 rfl rfl rfl H
  · have H := H.2 c1
    refine zq_iload_n (k := 3) (i := 3) (x := i3) 3 rfl rfl dX2_ringsAt_10 ?_
    refine zq_iload_n (k := 1) (i := 1) (x := i1) 1 rfl rfl dX2_ringsAt_11 ?_
    refine zq_icmp_eq (tgt := 35) dX2_ringsAt_12 rfl ⟨fun c2 => ?_, fun c2 => ?_⟩
    · have H := H.1 c2
      refine zq_iinc (i := 3) (x := i3) (v := (nI 1)) (ls' := [(3, .int (i3 + (nI 1))), (0, .ref r0), (1, .int i1), (2, .int i2)]) 3 rfl rfl (Nat.le_of_ble_eq_true rfl) rfl dX2_ringsAt_35 ?_
      refine zq_goto (tgt := 4) dX2_ringsAt_38 rfl ?_
      exact zq_sub (ls' := [(0, .ref r0), (1, .int i1), (2, .int i2), (3, .int (i3 + (nI 1)))]) [1, 2, 3, 0] rfl H
    · have H := H.2 c2
      refine zq_aload_n (k := 0) (i := 0) (x := r0) 0 rfl rfl dX2_ringsAt_15 ?_
      refine zq_iload_n (k := 1) (i := 1) (x := i1) 1 rfl rfl dX2_ringsAt_16 ?_
      refine zq_iload_n (k := 3) (i := 3) (x := i3) 3 rfl rfl dX2_ringsAt_17 ?_
      refine zq_invS (as := [.ref r0, .int i1, .int i3]) (st := []) st_X2_shared mo_X2_shared ml_RX2_19 rfl (Nat.le_of_ble_eq_true rfl) dX2_ringsAt_18 rfl H (fun r1 h1 hq => ?_)
      obtain ⟨x3, rfl, rfl, H⟩ := hq
      show zQ none m_X2_ringsAt (d + 1) 21 [(0, .ref r0), (1, .int i1), (2, .int i2), (3, .int i3)] (.int x3 :: []) h Q
      refine zq_istore (ls' := [(4, .int x3), (0, .ref r0), (1, .int i1), (2, .int i2), (3, .int i3)]) (i := 4) (Nat.le_of_ble_eq_true rfl) rfl dX2_ringsAt_21 ?_
      refine zq_iload_n (k := 2) (i := 2) (x := i2) 3 rfl rfl dX2_ringsAt_23 ?_
      refine zq_iload (i := 4) (x := x3) 0 rfl dX2_ringsAt_24 ?_
      refine zq_iload (i := 4) (x := x3) 0 rfl dX2_ringsAt_26 ?_
      refine zq_iconst (v := (nI 1)) rfl dX2_ringsAt_28 ?_
      refine zq_isub dX2_ringsAt_29 ?_
      refine zq_imul dX2_ringsAt_30 ?_
      refine zq_iconst (v := (nI 2)) rfl dX2_ringsAt_31 ?_
      refine zq_idiv (by decide) dX2_ringsAt_32 ?_
      refine zq_iadd dX2_ringsAt_33 ?_
      refine zq_istore_n (ls' := [(2, .int (i2 + ((x3 * (x3 - (nI 1))) / (nI 2)))), (4, .int x3), (0, .ref r0), (1, .int i1), (3, .int i3)]) (k := 2) (i := 2) rfl (Nat.le_of_ble_eq_true rfl) rfl dX2_ringsAt_34 ?_
      refine zq_iinc (i := 3) (x := i3) (v := (nI 1)) (ls' := [(3, .int (i3 + (nI 1))), (2, .int (i2 + ((x3 * (x3 - (nI 1))) / (nI 2)))), (4, .int x3), (0, .ref r0), (1, .int i1)]) 4 rfl rfl (Nat.le_of_ble_eq_true rfl) rfl dX2_ringsAt_35 ?_
      refine zq_goto (tgt := 4) dX2_ringsAt_38 rfl ?_
      exact zq_sub (ls' := [(0, .ref r0), (1, .int i1), (2, .int (i2 + ((x3 * (x3 - (nI 1))) / (nI 2)))), (3, .int (i3 + (nI 1)))]) [3, 4, 1, 0] rfl H
set_option maxHeartbeats 2000000 in
set_option maxRecDepth 20000 in
theorem r_X2_rings_0 {d : Nat} {h : AH} {Q : Option Value → AH → Prop} (r0 : Nat) (s_r0 : h.sh r0 = some (.inr (1, 40))) (H : zQ none m_X2_rings (d + 1) 4 [(0, .ref r0), (1, .int (nI 0)), (2, .int (nI 0))] [] h Q) : zK (d + 1) m_X2_rings [.ref r0] h Q := by
  refine zK_of mo_X2_rings (Nat.le_of_ble_eq_true rfl) ?_
  show zQ none m_X2_rings (d + 1) 0 [(0, .ref r0)] [] h Q
  refine zq_iconst (v := (nI 0)) rfl dX2_rings_0 ?_
  refine zq_istore_n (ls' := [(1, .int (nI 0)), (0, .ref r0)]) (k := 1) (i := 1) rfl (Nat.le_of_ble_eq_true rfl) rfl dX2_rings_1 ?_
  refine zq_iconst (v := (nI 0)) rfl dX2_rings_2 ?_
  refine zq_istore_n (ls' := [(2, .int (nI 0)), (1, .int (nI 0)), (0, .ref r0)]) (k := 2) (i := 2) rfl (Nat.le_of_ble_eq_true rfl) rfl dX2_rings_3 ?_
  exact zq_sub (ls' := [(0, .ref r0), (1, .int (nI 0)), (2, .int (nI 0))]) [2, 1, 0] rfl H
set_option maxHeartbeats 2000000 in
set_option maxRecDepth 20000 in
theorem r_X2_rings_4 {d : Nat} {h : AH} {Q : Option Value → AH → Prop} (r0 : Nat) (i1 : Int32) (i2 : Int32) (s_r0 : h.sh r0 = some (.inr (1, 40))) (H : ((nI 40) ≤ i2 → Q (some (.int (i1 / (nI 4)))) h) ∧ (¬ (nI 40) ≤ i2 → zK d m_X2_ringsAt [.ref r0, .int i2] h (pI h fun x2 => zQ none m_X2_rings (d + 1) 4 [(0, .ref r0), (1, .int (i1 + x2)), (2, .int (i2 + (nI 1)))] [] h Q))) : zQ none m_X2_rings (d + 1) 4 [(0, .ref r0), (1, .int i1), (2, .int i2)] [] h Q := by
  refine zq_iload_n (k := 2) (i := 2) (x := i2) 2 rfl rfl dX2_rings_4 ?_
  refine zq_bipush (v := (nI 40)) rfl dX2_rings_5 ?_
  refine zq_icmp_ge (tgt := 24) dX2_rings_7 rfl ⟨fun c1 => ?_, fun c1 => ?_⟩
  · have H := H.1 c1
    refine zq_iload_n (k := 1) (i := 1) (x := i1) 1 rfl rfl dX2_rings_24 ?_
    refine zq_iconst (v := (nI 4)) rfl dX2_rings_25 ?_
    refine zq_idiv (by decide) dX2_rings_26 ?_
    exact zq_iret dX2_rings_27 rfl rfl rfl H
  · have H := H.2 c1
    refine zq_iload_n (k := 1) (i := 1) (x := i1) 1 rfl rfl dX2_rings_10 ?_
    refine zq_aload_n (k := 0) (i := 0) (x := r0) 0 rfl rfl dX2_rings_11 ?_
    refine zq_iload_n (k := 2) (i := 2) (x := i2) 2 rfl rfl dX2_rings_12 ?_
    refine zq_invS (as := [.ref r0, .int i2]) (st := .int i1 :: []) st_X2_ringsAt mo_X2_ringsAt ml_RX2_35 rfl (Nat.le_of_ble_eq_true rfl) dX2_rings_13 rfl H (fun r1 h1 hq => ?_)
    obtain ⟨x2, rfl, rfl, H⟩ := hq
    show zQ none m_X2_rings (d + 1) 16 [(0, .ref r0), (1, .int i1), (2, .int i2)] (.int x2 :: .int i1 :: []) h Q
    refine zq_iadd dX2_rings_16 ?_
    refine zq_istore_n (ls' := [(1, .int (i1 + x2)), (0, .ref r0), (2, .int i2)]) (k := 1) (i := 1) rfl (Nat.le_of_ble_eq_true rfl) rfl dX2_rings_17 ?_
    refine zq_iinc (i := 2) (x := i2) (v := (nI 1)) (ls' := [(2, .int (i2 + (nI 1))), (1, .int (i1 + x2)), (0, .ref r0)]) 2 rfl rfl (Nat.le_of_ble_eq_true rfl) rfl dX2_rings_18 ?_
    refine zq_goto (tgt := 4) dX2_rings_21 rfl ?_
    exact zq_sub (ls' := [(0, .ref r0), (1, .int (i1 + x2)), (2, .int (i2 + (nI 1)))]) [2, 1, 0] rfl H
set_option maxHeartbeats 2000000 in
set_option maxRecDepth 20000 in
theorem r_X2_foursOn_0 {d : Nat} {h : AH} {Q : Option Value → AH → Prop} (r0 : Nat) (i1 : Int32) (i2 : Int32) (s_r0 : h.sh r0 = some (.inr (1, 40))) (H : vp_in i1 40 ∧ (vp_in i2 40 ∧ (zQ none m_X2_foursOn (d + 1) 14 [(0, .ref r0), (3, .long ((h.L r0 i1.toNatClampNeg) &&& (h.L r0 i2.toNatClampNeg))), (5, .int (nI 0)), (6, .int (nI 0))] [] h Q))) : zK (d + 1) m_X2_foursOn [.ref r0, .int i1, .int i2] h Q := by
  refine zK_of mo_X2_foursOn (Nat.le_of_ble_eq_true rfl) ?_
  show zQ none m_X2_foursOn (d + 1) 0 [(0, .ref r0), (1, .int i1), (2, .int i2)] [] h Q
  refine zq_aload_n (k := 0) (i := 0) (x := r0) 0 rfl rfl dX2_foursOn_0 ?_
  refine zq_iload_n (k := 1) (i := 1) (x := i1) 1 rfl rfl dX2_foursOn_1 ?_
  obtain ⟨b1, H⟩ := H
  refine zq_lald s_r0 b1 dX2_foursOn_2 ?_
  refine zq_aload_n (k := 0) (i := 0) (x := r0) 0 rfl rfl dX2_foursOn_3 ?_
  refine zq_iload_n (k := 2) (i := 2) (x := i2) 2 rfl rfl dX2_foursOn_4 ?_
  obtain ⟨b2, H⟩ := H
  refine zq_lald s_r0 b2 dX2_foursOn_5 ?_
  refine zq_land dX2_foursOn_6 ?_
  refine zq_lstore_n (ls' := [(3, .long ((h.L r0 i1.toNatClampNeg) &&& (h.L r0 i2.toNatClampNeg))), (0, .ref r0), (1, .int i1), (2, .int i2)]) (k := 3) (i := 3) rfl (Nat.le_of_ble_eq_true rfl) rfl dX2_foursOn_7 ?_
  refine zq_iconst (v := (nI 0)) rfl dX2_foursOn_8 ?_
  refine zq_istore (ls' := [(5, .int (nI 0)), (3, .long ((h.L r0 i1.toNatClampNeg) &&& (h.L r0 i2.toNatClampNeg))), (0, .ref r0), (1, .int i1), (2, .int i2)]) (i := 5) (Nat.le_of_ble_eq_true rfl) rfl dX2_foursOn_9 ?_
  refine zq_iconst (v := (nI 0)) rfl dX2_foursOn_11 ?_
  refine zq_istore (ls' := [(6, .int (nI 0)), (5, .int (nI 0)), (3, .long ((h.L r0 i1.toNatClampNeg) &&& (h.L r0 i2.toNatClampNeg))), (0, .ref r0), (1, .int i1), (2, .int i2)]) (i := 6) (Nat.le_of_ble_eq_true rfl) rfl dX2_foursOn_12 ?_
  exact zq_sub (ls' := [(0, .ref r0), (3, .long ((h.L r0 i1.toNatClampNeg) &&& (h.L r0 i2.toNatClampNeg))), (5, .int (nI 0)), (6, .int (nI 0))]) [3, 2, 1, 0] rfl H
set_option maxHeartbeats 2000000 in
set_option maxRecDepth 20000 in
theorem r_X2_foursOn_14 {d : Nat} {h : AH} {Q : Option Value → AH → Prop} (r0 : Nat) (l3 : Int64) (i5 : Int32) (i6 : Int32) (s_r0 : h.sh r0 = some (.inr (1, 40))) (H : ((nI 40) ≤ i6 → Q (some (.int (i5 / (nI 2)))) h) ∧ (¬ (nI 40) ≤ i6 → zK d m_X10_hasBit [.long l3, .int i6] h (pI h fun x2 => (x2 = 0 → zQ none m_X2_foursOn (d + 1) 14 [(0, .ref r0), (3, .long l3), (5, .int i5), (6, .int (i6 + (nI 1)))] [] h Q) ∧ (¬ x2 = 0 → vp_in i6 40 ∧ (zK d m_J13_bitCount_95d88 [.long (l3 &&& (h.L r0 i6.toNatClampNeg))] h (pI h fun x5 => zQ none m_X2_foursOn (d + 1) 14 [(0, .ref r0), (3, .long l3), (5, .int (i5 + x5)), (6, .int (i6 + (nI 1)))] [] h Q)))))) : zQ none m_X2_foursOn (d + 1) 14 [(0, .ref r0), (3, .long l3), (5, .int i5), (6, .int i6)] [] h Q := by
  refine zq_iload (i := 6) (x := i6) 3 rfl dX2_foursOn_14 ?_
  refine zq_bipush (v := (nI 40)) rfl dX2_foursOn_16 ?_
  refine zq_icmp_ge (tgt := 50) dX2_foursOn_18 rfl ⟨fun c1 => ?_, fun c1 => ?_⟩
  · have H := H.1 c1
    refine zq_iload (i := 5) (x := i5) 2 rfl dX2_foursOn_50 ?_
    refine zq_iconst (v := (nI 2)) rfl dX2_foursOn_52 ?_
    refine zq_idiv (by decide) dX2_foursOn_53 ?_
    exact zq_iret dX2_foursOn_54 rfl rfl rfl H
  · have H := H.2 c1
    refine zq_lload_n (k := 3) (i := 3) (x := l3) 1 rfl rfl dX2_foursOn_21 ?_
    refine zq_iload (i := 6) (x := i6) 3 rfl dX2_foursOn_22 ?_
    refine zq_invS (as := [.long l3, .int i6]) (st := []) st_X10_hasBit mo_X10_hasBit ml_RX2_15 rfl (Nat.le_of_ble_eq_true rfl) dX2_foursOn_24 rfl H (fun r1 h1 hq => ?_)
    obtain ⟨x2, rfl, rfl, H⟩ := hq
    show zQ none m_X2_foursOn (d + 1) 27 [(0, .ref r0), (3, .long l3), (5, .int i5), (6, .int i6)] (.int x2 :: []) h Q
    refine zq_if_eq (tgt := 44) dX2_foursOn_27 rfl ⟨fun c3 => ?_, fun c3 => ?_⟩
    · have H := H.1 c3
      refine zq_iinc (i := 6) (x := i6) (v := (nI 1)) (ls' := [(6, .int (i6 + (nI 1))), (0, .ref r0), (3, .long l3), (5, .int i5)]) 3 rfl rfl (Nat.le_of_ble_eq_true rfl) rfl dX2_foursOn_44 ?_
      refine zq_goto (tgt := 14) dX2_foursOn_47 rfl ?_
      exact zq_sub (ls' := [(0, .ref r0), (3, .long l3), (5, .int i5), (6, .int (i6 + (nI 1)))]) [1, 2, 3, 0] rfl H
    · have H := H.2 c3
      refine zq_iload (i := 5) (x := i5) 2 rfl dX2_foursOn_30 ?_
      refine zq_lload_n (k := 3) (i := 3) (x := l3) 1 rfl rfl dX2_foursOn_32 ?_
      refine zq_aload_n (k := 0) (i := 0) (x := r0) 0 rfl rfl dX2_foursOn_33 ?_
      refine zq_iload (i := 6) (x := i6) 3 rfl dX2_foursOn_34 ?_
      obtain ⟨b4, H⟩ := H
      refine zq_lald s_r0 b4 dX2_foursOn_36 ?_
      refine zq_land dX2_foursOn_37 ?_
      refine zq_invS (as := [.long (l3 &&& (h.L r0 i6.toNatClampNeg))]) (st := .int i5 :: []) st_J13_bitCount_95d88 mo_J13_bitCount_95d88 ml_RX2_9 rfl (Nat.le_of_ble_eq_true rfl) dX2_foursOn_38 rfl H (fun r1 h1 hq => ?_)
      obtain ⟨x5, rfl, rfl, H⟩ := hq
      show zQ none m_X2_foursOn (d + 1) 41 [(0, .ref r0), (3, .long l3), (5, .int i5), (6, .int i6)] (.int x5 :: .int i5 :: []) h Q
      refine zq_iadd dX2_foursOn_41 ?_
      refine zq_istore (ls' := [(5, .int (i5 + x5)), (0, .ref r0), (3, .long l3), (6, .int i6)]) (i := 5) (Nat.le_of_ble_eq_true rfl) rfl dX2_foursOn_42 ?_
      refine zq_iinc (i := 6) (x := i6) (v := (nI 1)) (ls' := [(6, .int (i6 + (nI 1))), (5, .int (i5 + x5)), (0, .ref r0), (3, .long l3)]) 3 rfl rfl (Nat.le_of_ble_eq_true rfl) rfl dX2_foursOn_44 ?_
      refine zq_goto (tgt := 14) dX2_foursOn_47 rfl ?_
      exact zq_sub (ls' := [(0, .ref r0), (3, .long l3), (5, .int (i5 + x5)), (6, .int (i6 + (nI 1)))]) [2, 3, 1, 0] rfl H
set_option maxHeartbeats 2000000 in
set_option maxRecDepth 20000 in
theorem r_X2_foursAt_0 {d : Nat} {h : AH} {Q : Option Value → AH → Prop} (r0 : Nat) (i1 : Int32) (s_r0 : h.sh r0 = some (.inr (1, 40))) (H : zQ none m_X2_foursAt (d + 1) 4 [(0, .ref r0), (1, .int i1), (2, .int (nI 0)), (3, .int (nI 0))] [] h Q) : zK (d + 1) m_X2_foursAt [.ref r0, .int i1] h Q := by
  refine zK_of mo_X2_foursAt (Nat.le_of_ble_eq_true rfl) ?_
  show zQ none m_X2_foursAt (d + 1) 0 [(0, .ref r0), (1, .int i1)] [] h Q
  refine zq_iconst (v := (nI 0)) rfl dX2_foursAt_0 ?_
  refine zq_istore_n (ls' := [(2, .int (nI 0)), (0, .ref r0), (1, .int i1)]) (k := 2) (i := 2) rfl (Nat.le_of_ble_eq_true rfl) rfl dX2_foursAt_1 ?_
  refine zq_iconst (v := (nI 0)) rfl dX2_foursAt_2 ?_
  refine zq_istore_n (ls' := [(3, .int (nI 0)), (2, .int (nI 0)), (0, .ref r0), (1, .int i1)]) (k := 3) (i := 3) rfl (Nat.le_of_ble_eq_true rfl) rfl dX2_foursAt_3 ?_
  exact zq_sub (ls' := [(0, .ref r0), (1, .int i1), (2, .int (nI 0)), (3, .int (nI 0))]) [2, 3, 1, 0] rfl H
set_option maxHeartbeats 2000000 in
set_option maxRecDepth 20000 in
theorem r_X2_foursAt_4 {d : Nat} {h : AH} {Q : Option Value → AH → Prop} (r0 : Nat) (i1 : Int32) (i2 : Int32) (i3 : Int32) (s_r0 : h.sh r0 = some (.inr (1, 40))) (H : ((nI 40) ≤ i3 → Q (some (.int (i2 / (nI 3)))) h) ∧ (¬ (nI 40) ≤ i3 → vp_in i1 40 ∧ (zK d m_X10_hasBit [.long (h.L r0 i1.toNatClampNeg), .int i3] h (pI h fun x3 => (x3 = 0 → zQ none m_X2_foursAt (d + 1) 4 [(0, .ref r0), (1, .int i1), (2, .int i2), (3, .int (i3 + (nI 1)))] [] h Q) ∧ (¬ x3 = 0 → zK d m_X2_foursOn [.ref r0, .int i1, .int i3] h (pI h fun x5 => zQ none m_X2_foursAt (d + 1) 4 [(0, .ref r0), (1, .int i1), (2, .int (i2 + x5)), (3, .int (i3 + (nI 1)))] [] h Q)))))) : zQ none m_X2_foursAt (d + 1) 4 [(0, .ref r0), (1, .int i1), (2, .int i2), (3, .int i3)] [] h Q := by
  refine zq_iload_n (k := 3) (i := 3) (x := i3) 3 rfl rfl dX2_foursAt_4 ?_
  refine zq_bipush (v := (nI 40)) rfl dX2_foursAt_5 ?_
  refine zq_icmp_ge (tgt := 35) dX2_foursAt_7 rfl ⟨fun c1 => ?_, fun c1 => ?_⟩
  · have H := H.1 c1
    refine zq_iload_n (k := 2) (i := 2) (x := i2) 2 rfl rfl dX2_foursAt_35 ?_
    refine zq_iconst (v := (nI 3)) rfl dX2_foursAt_36 ?_
    refine zq_idiv (by decide) dX2_foursAt_37 ?_
    exact zq_iret dX2_foursAt_38 rfl rfl rfl H
  · have H := H.2 c1
    refine zq_aload_n (k := 0) (i := 0) (x := r0) 0 rfl rfl dX2_foursAt_10 ?_
    refine zq_iload_n (k := 1) (i := 1) (x := i1) 1 rfl rfl dX2_foursAt_11 ?_
    obtain ⟨b2, H⟩ := H
    refine zq_lald s_r0 b2 dX2_foursAt_12 ?_
    refine zq_iload_n (k := 3) (i := 3) (x := i3) 3 rfl rfl dX2_foursAt_13 ?_
    refine zq_invS (as := [.long (h.L r0 i1.toNatClampNeg), .int i3]) (st := []) st_X10_hasBit mo_X10_hasBit ml_RX2_15 rfl (Nat.le_of_ble_eq_true rfl) dX2_foursAt_14 rfl H (fun r1 h1 hq => ?_)
    obtain ⟨x3, rfl, rfl, H⟩ := hq
    show zQ none m_X2_foursAt (d + 1) 17 [(0, .ref r0), (1, .int i1), (2, .int i2), (3, .int i3)] (.int x3 :: []) h Q
    refine zq_if_eq (tgt := 29) dX2_foursAt_17 rfl ⟨fun c4 => ?_, fun c4 => ?_⟩
    · have H := H.1 c4
      refine zq_iinc (i := 3) (x := i3) (v := (nI 1)) (ls' := [(3, .int (i3 + (nI 1))), (0, .ref r0), (1, .int i1), (2, .int i2)]) 3 rfl rfl (Nat.le_of_ble_eq_true rfl) rfl dX2_foursAt_29 ?_
      refine zq_goto (tgt := 4) dX2_foursAt_32 rfl ?_
      exact zq_sub (ls' := [(0, .ref r0), (1, .int i1), (2, .int i2), (3, .int (i3 + (nI 1)))]) [1, 2, 3, 0] rfl H
    · have H := H.2 c4
      refine zq_iload_n (k := 2) (i := 2) (x := i2) 2 rfl rfl dX2_foursAt_20 ?_
      refine zq_aload_n (k := 0) (i := 0) (x := r0) 0 rfl rfl dX2_foursAt_21 ?_
      refine zq_iload_n (k := 1) (i := 1) (x := i1) 1 rfl rfl dX2_foursAt_22 ?_
      refine zq_iload_n (k := 3) (i := 3) (x := i3) 3 rfl rfl dX2_foursAt_23 ?_
      refine zq_invS (as := [.ref r0, .int i1, .int i3]) (st := .int i2 :: []) st_X2_foursOn mo_X2_foursOn ml_RX2_38 rfl (Nat.le_of_ble_eq_true rfl) dX2_foursAt_24 rfl H (fun r1 h1 hq => ?_)
      obtain ⟨x5, rfl, rfl, H⟩ := hq
      show zQ none m_X2_foursAt (d + 1) 27 [(0, .ref r0), (1, .int i1), (2, .int i2), (3, .int i3)] (.int x5 :: .int i2 :: []) h Q
      refine zq_iadd dX2_foursAt_27 ?_
      refine zq_istore_n (ls' := [(2, .int (i2 + x5)), (0, .ref r0), (1, .int i1), (3, .int i3)]) (k := 2) (i := 2) rfl (Nat.le_of_ble_eq_true rfl) rfl dX2_foursAt_28 ?_
      refine zq_iinc (i := 3) (x := i3) (v := (nI 1)) (ls' := [(3, .int (i3 + (nI 1))), (2, .int (i2 + x5)), (0, .ref r0), (1, .int i1)]) 3 rfl rfl (Nat.le_of_ble_eq_true rfl) rfl dX2_foursAt_29 ?_
      refine zq_goto (tgt := 4) dX2_foursAt_32 rfl ?_
      exact zq_sub (ls' := [(0, .ref r0), (1, .int i1), (2, .int (i2 + x5)), (3, .int (i3 + (nI 1)))]) [2, 3, 1, 0] rfl H
set_option maxHeartbeats 2000000 in
set_option maxRecDepth 20000 in
theorem r_X2_fours_0 {d : Nat} {h : AH} {Q : Option Value → AH → Prop} (r0 : Nat) (s_r0 : h.sh r0 = some (.inr (1, 40))) (H : zQ none m_X2_fours (d + 1) 4 [(0, .ref r0), (1, .int (nI 0)), (2, .int (nI 0))] [] h Q) : zK (d + 1) m_X2_fours [.ref r0] h Q := by
  refine zK_of mo_X2_fours (Nat.le_of_ble_eq_true rfl) ?_
  show zQ none m_X2_fours (d + 1) 0 [(0, .ref r0)] [] h Q
  refine zq_iconst (v := (nI 0)) rfl dX2_fours_0 ?_
  refine zq_istore_n (ls' := [(1, .int (nI 0)), (0, .ref r0)]) (k := 1) (i := 1) rfl (Nat.le_of_ble_eq_true rfl) rfl dX2_fours_1 ?_
  refine zq_iconst (v := (nI 0)) rfl dX2_fours_2 ?_
  refine zq_istore_n (ls' := [(2, .int (nI 0)), (1, .int (nI 0)), (0, .ref r0)]) (k := 2) (i := 2) rfl (Nat.le_of_ble_eq_true rfl) rfl dX2_fours_3 ?_
  exact zq_sub (ls' := [(0, .ref r0), (1, .int (nI 0)), (2, .int (nI 0))]) [2, 1, 0] rfl H
set_option maxHeartbeats 2000000 in
set_option maxRecDepth 20000 in
theorem r_X2_fours_4 {d : Nat} {h : AH} {Q : Option Value → AH → Prop} (r0 : Nat) (i1 : Int32) (i2 : Int32) (s_r0 : h.sh r0 = some (.inr (1, 40))) (H : ((nI 40) ≤ i2 → Q (some (.int (i1 / (nI 4)))) h) ∧ (¬ (nI 40) ≤ i2 → zK d m_X2_foursAt [.ref r0, .int i2] h (pI h fun x2 => zQ none m_X2_fours (d + 1) 4 [(0, .ref r0), (1, .int (i1 + x2)), (2, .int (i2 + (nI 1)))] [] h Q))) : zQ none m_X2_fours (d + 1) 4 [(0, .ref r0), (1, .int i1), (2, .int i2)] [] h Q := by
  refine zq_iload_n (k := 2) (i := 2) (x := i2) 2 rfl rfl dX2_fours_4 ?_
  refine zq_bipush (v := (nI 40)) rfl dX2_fours_5 ?_
  refine zq_icmp_ge (tgt := 24) dX2_fours_7 rfl ⟨fun c1 => ?_, fun c1 => ?_⟩
  · have H := H.1 c1
    refine zq_iload_n (k := 1) (i := 1) (x := i1) 1 rfl rfl dX2_fours_24 ?_
    refine zq_iconst (v := (nI 4)) rfl dX2_fours_25 ?_
    refine zq_idiv (by decide) dX2_fours_26 ?_
    exact zq_iret dX2_fours_27 rfl rfl rfl H
  · have H := H.2 c1
    refine zq_iload_n (k := 1) (i := 1) (x := i1) 1 rfl rfl dX2_fours_10 ?_
    refine zq_aload_n (k := 0) (i := 0) (x := r0) 0 rfl rfl dX2_fours_11 ?_
    refine zq_iload_n (k := 2) (i := 2) (x := i2) 2 rfl rfl dX2_fours_12 ?_
    refine zq_invS (as := [.ref r0, .int i2]) (st := .int i1 :: []) st_X2_foursAt mo_X2_foursAt ml_RX2_41 rfl (Nat.le_of_ble_eq_true rfl) dX2_fours_13 rfl H (fun r1 h1 hq => ?_)
    obtain ⟨x2, rfl, rfl, H⟩ := hq
    show zQ none m_X2_fours (d + 1) 16 [(0, .ref r0), (1, .int i1), (2, .int i2)] (.int x2 :: .int i1 :: []) h Q
    refine zq_iadd dX2_fours_16 ?_
    refine zq_istore_n (ls' := [(1, .int (i1 + x2)), (0, .ref r0), (2, .int i2)]) (k := 1) (i := 1) rfl (Nat.le_of_ble_eq_true rfl) rfl dX2_fours_17 ?_
    refine zq_iinc (i := 2) (x := i2) (v := (nI 1)) (ls' := [(2, .int (i2 + (nI 1))), (1, .int (i1 + x2)), (0, .ref r0)]) 2 rfl rfl (Nat.le_of_ble_eq_true rfl) rfl dX2_fours_18 ?_
    refine zq_goto (tgt := 4) dX2_fours_21 rfl ?_
    exact zq_sub (ls' := [(0, .ref r0), (1, .int (i1 + x2)), (2, .int (i2 + (nI 1)))]) [2, 1, 0] rfl H
set_option maxHeartbeats 2000000 in
set_option maxRecDepth 20000 in
theorem r_X2_waysByThree_0 {d : Nat} {h : AH} {Q : Option Value → AH → Prop} (r0 : Nat) (i1 : Int32) (i2 : Int32) (s_r0 : h.sh r0 = some (.inr (1, 40))) (H : vp_in i1 40 ∧ (vp_in i2 40 ∧ (zQ none m_X2_waysByThree (d + 1) 31 [(0, .ref r0), (3, .long ((h.L r0 i1.toNatClampNeg) &&& (((1 : Int64) <<< (i2.toInt64 &&& 63)) ^^^ (-1 : Int64)))), (5, .long ((h.L r0 i2.toNatClampNeg) &&& (((1 : Int64) <<< (i1.toInt64 &&& 63)) ^^^ (-1 : Int64)))), (7, .int (nI 0)), (8, .int (nI 0))] [] h Q))) : zK (d + 1) m_X2_waysByThree [.ref r0, .int i1, .int i2] h Q := by
  refine zK_of mo_X2_waysByThree (Nat.le_of_ble_eq_true rfl) ?_
  show zQ none m_X2_waysByThree (d + 1) 0 [(0, .ref r0), (1, .int i1), (2, .int i2)] [] h Q
  refine zq_aload_n (k := 0) (i := 0) (x := r0) 0 rfl rfl dX2_waysByThree_0 ?_
  refine zq_iload_n (k := 1) (i := 1) (x := i1) 1 rfl rfl dX2_waysByThree_1 ?_
  obtain ⟨b1, H⟩ := H
  refine zq_lald s_r0 b1 dX2_waysByThree_2 ?_
  refine zq_lconst (v := 1) rfl dX2_waysByThree_3 ?_
  refine zq_iload_n (k := 2) (i := 2) (x := i2) 2 rfl rfl dX2_waysByThree_4 ?_
  refine zq_lshl dX2_waysByThree_5 ?_
  refine zq_ldc2 (v := (-1)) cl_RX2_44 dX2_waysByThree_6 ?_
  refine zq_lxor dX2_waysByThree_9 ?_
  refine zq_land dX2_waysByThree_10 ?_
  refine zq_lstore_n (ls' := [(3, .long ((h.L r0 i1.toNatClampNeg) &&& (((1 : Int64) <<< (i2.toInt64 &&& 63)) ^^^ (-1 : Int64)))), (0, .ref r0), (1, .int i1), (2, .int i2)]) (k := 3) (i := 3) rfl (Nat.le_of_ble_eq_true rfl) rfl dX2_waysByThree_11 ?_
  refine zq_aload_n (k := 0) (i := 0) (x := r0) 1 rfl rfl dX2_waysByThree_12 ?_
  refine zq_iload_n (k := 2) (i := 2) (x := i2) 3 rfl rfl dX2_waysByThree_13 ?_
  obtain ⟨b2, H⟩ := H
  refine zq_lald s_r0 b2 dX2_waysByThree_14 ?_
  refine zq_lconst (v := 1) rfl dX2_waysByThree_15 ?_
  refine zq_iload_n (k := 1) (i := 1) (x := i1) 2 rfl rfl dX2_waysByThree_16 ?_
  refine zq_lshl dX2_waysByThree_17 ?_
  refine zq_ldc2 (v := (-1)) cl_RX2_44 dX2_waysByThree_18 ?_
  refine zq_lxor dX2_waysByThree_21 ?_
  refine zq_land dX2_waysByThree_22 ?_
  refine zq_lstore (ls' := [(5, .long ((h.L r0 i2.toNatClampNeg) &&& (((1 : Int64) <<< (i1.toInt64 &&& 63)) ^^^ (-1 : Int64)))), (3, .long ((h.L r0 i1.toNatClampNeg) &&& (((1 : Int64) <<< (i2.toInt64 &&& 63)) ^^^ (-1 : Int64)))), (0, .ref r0), (1, .int i1), (2, .int i2)]) (i := 5) (Nat.le_of_ble_eq_true rfl) rfl dX2_waysByThree_23 ?_
  refine zq_iconst (v := (nI 0)) rfl dX2_waysByThree_25 ?_
  refine zq_istore (ls' := [(7, .int (nI 0)), (5, .long ((h.L r0 i2.toNatClampNeg) &&& (((1 : Int64) <<< (i1.toInt64 &&& 63)) ^^^ (-1 : Int64)))), (3, .long ((h.L r0 i1.toNatClampNeg) &&& (((1 : Int64) <<< (i2.toInt64 &&& 63)) ^^^ (-1 : Int64)))), (0, .ref r0), (1, .int i1), (2, .int i2)]) (i := 7) (Nat.le_of_ble_eq_true rfl) rfl dX2_waysByThree_26 ?_
  refine zq_iconst (v := (nI 0)) rfl dX2_waysByThree_28 ?_
  refine zq_istore (ls' := [(8, .int (nI 0)), (7, .int (nI 0)), (5, .long ((h.L r0 i2.toNatClampNeg) &&& (((1 : Int64) <<< (i1.toInt64 &&& 63)) ^^^ (-1 : Int64)))), (3, .long ((h.L r0 i1.toNatClampNeg) &&& (((1 : Int64) <<< (i2.toInt64 &&& 63)) ^^^ (-1 : Int64)))), (0, .ref r0), (1, .int i1), (2, .int i2)]) (i := 8) (Nat.le_of_ble_eq_true rfl) rfl dX2_waysByThree_29 ?_
  exact zq_sub (ls' := [(0, .ref r0), (3, .long ((h.L r0 i1.toNatClampNeg) &&& (((1 : Int64) <<< (i2.toInt64 &&& 63)) ^^^ (-1 : Int64)))), (5, .long ((h.L r0 i2.toNatClampNeg) &&& (((1 : Int64) <<< (i1.toInt64 &&& 63)) ^^^ (-1 : Int64)))), (7, .int (nI 0)), (8, .int (nI 0))]) [4, 3, 2, 1, 0] rfl H
set_option maxHeartbeats 2000000 in
set_option maxRecDepth 20000 in
theorem r_X2_waysByThree_31 {d : Nat} {h : AH} {Q : Option Value → AH → Prop} (r0 : Nat) (l3 : Int64) (l5 : Int64) (i7 : Int32) (i8 : Int32) (s_r0 : h.sh r0 = some (.inr (1, 40))) (H : ((nI 40) ≤ i8 → Q (some (.int i7)) h) ∧ (¬ (nI 40) ≤ i8 → zK d m_X10_hasBit [.long l3, .int i8] h (pI h fun x2 => (x2 = 0 → zQ none m_X2_waysByThree (d + 1) 31 [(0, .ref r0), (3, .long l3), (5, .long l5), (7, .int i7), (8, .int (i8 + (nI 1)))] [] h Q) ∧ (¬ x2 = 0 → vp_in i8 40 ∧ (zK d m_J13_bitCount_95d88 [.long ((h.L r0 i8.toNatClampNeg) &&& l5)] h (pI h fun x5 => zQ none m_X2_waysByThree (d + 1) 31 [(0, .ref r0), (3, .long l3), (5, .long l5), (7, .int (i7 + x5)), (8, .int (i8 + (nI 1)))] [] h Q)))))) : zQ none m_X2_waysByThree (d + 1) 31 [(0, .ref r0), (3, .long l3), (5, .long l5), (7, .int i7), (8, .int i8)] [] h Q := by
  refine zq_iload (i := 8) (x := i8) 4 rfl dX2_waysByThree_31 ?_
  refine zq_bipush (v := (nI 40)) rfl dX2_waysByThree_33 ?_
  refine zq_icmp_ge (tgt := 68) dX2_waysByThree_35 rfl ⟨fun c1 => ?_, fun c1 => ?_⟩
  · have H := H.1 c1
    refine zq_iload (i := 7) (x := i7) 3 rfl dX2_waysByThree_68 ?_
    exact zq_iret dX2_waysByThree_70 rfl rfl rfl H
  · have H := H.2 c1
    refine zq_lload_n (k := 3) (i := 3) (x := l3) 1 rfl rfl dX2_waysByThree_38 ?_
    refine zq_iload (i := 8) (x := i8) 4 rfl dX2_waysByThree_39 ?_
    refine zq_invS (as := [.long l3, .int i8]) (st := []) st_X10_hasBit mo_X10_hasBit ml_RX2_15 rfl (Nat.le_of_ble_eq_true rfl) dX2_waysByThree_41 rfl H (fun r1 h1 hq => ?_)
    obtain ⟨x2, rfl, rfl, H⟩ := hq
    show zQ none m_X2_waysByThree (d + 1) 44 [(0, .ref r0), (3, .long l3), (5, .long l5), (7, .int i7), (8, .int i8)] (.int x2 :: []) h Q
    refine zq_if_eq (tgt := 62) dX2_waysByThree_44 rfl ⟨fun c3 => ?_, fun c3 => ?_⟩
    · have H := H.1 c3
      refine zq_iinc (i := 8) (x := i8) (v := (nI 1)) (ls' := [(8, .int (i8 + (nI 1))), (0, .ref r0), (3, .long l3), (5, .long l5), (7, .int i7)]) 4 rfl rfl (Nat.le_of_ble_eq_true rfl) rfl dX2_waysByThree_62 ?_
      refine zq_goto (tgt := 31) dX2_waysByThree_65 rfl ?_
      exact zq_sub (ls' := [(0, .ref r0), (3, .long l3), (5, .long l5), (7, .int i7), (8, .int (i8 + (nI 1)))]) [1, 2, 3, 4, 0] rfl H
    · have H := H.2 c3
      refine zq_iload (i := 7) (x := i7) 3 rfl dX2_waysByThree_47 ?_
      refine zq_aload_n (k := 0) (i := 0) (x := r0) 0 rfl rfl dX2_waysByThree_49 ?_
      refine zq_iload (i := 8) (x := i8) 4 rfl dX2_waysByThree_50 ?_
      obtain ⟨b4, H⟩ := H
      refine zq_lald s_r0 b4 dX2_waysByThree_52 ?_
      refine zq_lload (i := 5) (x := l5) 2 rfl dX2_waysByThree_53 ?_
      refine zq_land dX2_waysByThree_55 ?_
      refine zq_invS (as := [.long ((h.L r0 i8.toNatClampNeg) &&& l5)]) (st := .int i7 :: []) st_J13_bitCount_95d88 mo_J13_bitCount_95d88 ml_RX2_9 rfl (Nat.le_of_ble_eq_true rfl) dX2_waysByThree_56 rfl H (fun r1 h1 hq => ?_)
      obtain ⟨x5, rfl, rfl, H⟩ := hq
      show zQ none m_X2_waysByThree (d + 1) 59 [(0, .ref r0), (3, .long l3), (5, .long l5), (7, .int i7), (8, .int i8)] (.int x5 :: .int i7 :: []) h Q
      refine zq_iadd dX2_waysByThree_59 ?_
      refine zq_istore (ls' := [(7, .int (i7 + x5)), (0, .ref r0), (3, .long l3), (5, .long l5), (8, .int i8)]) (i := 7) (Nat.le_of_ble_eq_true rfl) rfl dX2_waysByThree_60 ?_
      refine zq_iinc (i := 8) (x := i8) (v := (nI 1)) (ls' := [(8, .int (i8 + (nI 1))), (7, .int (i7 + x5)), (0, .ref r0), (3, .long l3), (5, .long l5)]) 4 rfl rfl (Nat.le_of_ble_eq_true rfl) rfl dX2_waysByThree_62 ?_
      refine zq_goto (tgt := 31) dX2_waysByThree_65 rfl ?_
      exact zq_sub (ls' := [(0, .ref r0), (3, .long l3), (5, .long l5), (7, .int (i7 + x5)), (8, .int (i8 + (nI 1)))]) [2, 3, 4, 1, 0] rfl H
set_option maxHeartbeats 2000000 in
set_option maxRecDepth 20000 in
theorem r_X2_far_0 {d : Nat} {h : AH} {Q : Option Value → AH → Prop} (r0 : Nat) (i1 : Int32) (i2 : Int32) (s_r0 : h.sh r0 = some (.inr (1, 40))) (H : zQ none m_X2_far (d + 1) 7 [(0, .ref r0), (2, .int i2), (3, .long ((1 : Int64) <<< (i1.toInt64 &&& 63))), (5, .int (nI 1))] [] h Q) : zK (d + 1) m_X2_far [.ref r0, .int i1, .int i2] h Q := by
  refine zK_of mo_X2_far (Nat.le_of_ble_eq_true rfl) ?_
  show zQ none m_X2_far (d + 1) 0 [(0, .ref r0), (1, .int i1), (2, .int i2)] [] h Q
  refine zq_lconst (v := 1) rfl dX2_far_0 ?_
  refine zq_iload_n (k := 1) (i := 1) (x := i1) 1 rfl rfl dX2_far_1 ?_
  refine zq_lshl dX2_far_2 ?_
  refine zq_lstore_n (ls' := [(3, .long ((1 : Int64) <<< (i1.toInt64 &&& 63))), (0, .ref r0), (1, .int i1), (2, .int i2)]) (k := 3) (i := 3) rfl (Nat.le_of_ble_eq_true rfl) rfl dX2_far_3 ?_
  refine zq_iconst (v := (nI 1)) rfl dX2_far_4 ?_
  refine zq_istore (ls' := [(5, .int (nI 1)), (3, .long ((1 : Int64) <<< (i1.toInt64 &&& 63))), (0, .ref r0), (1, .int i1), (2, .int i2)]) (i := 5) (Nat.le_of_ble_eq_true rfl) rfl dX2_far_5 ?_
  exact zq_sub (ls' := [(0, .ref r0), (2, .int i2), (3, .long ((1 : Int64) <<< (i1.toInt64 &&& 63))), (5, .int (nI 1))]) [2, 4, 1, 0] rfl H
set_option maxHeartbeats 2000000 in
set_option maxRecDepth 20000 in
theorem r_X2_far_7 {d : Nat} {h : AH} {Q : Option Value → AH → Prop} (r0 : Nat) (i2 : Int32) (l3 : Int64) (i5 : Int32) (s_r0 : h.sh r0 = some (.inr (1, 40))) (H : ((nI 40) ≤ i5 → Q (some (.int (-5))) h) ∧ (¬ (nI 40) ≤ i5 → zK d m_X2_nearAny [.ref r0, .long l3] h (pL h fun x2 => zK d m_X10_hasBit [.long (l3 ||| x2), .int i2] h (pI h fun x3 => (x3 = 0 → zQ none m_X2_far (d + 1) 7 [(0, .ref r0), (2, .int i2), (3, .long (l3 ||| x2)), (5, .int (i5 + (nI 1)))] [] h Q) ∧ (¬ x3 = 0 → Q (some (.int i5)) h))))) : zQ none m_X2_far (d + 1) 7 [(0, .ref r0), (2, .int i2), (3, .long l3), (5, .int i5)] [] h Q := by
  refine zq_iload (i := 5) (x := i5) 3 rfl dX2_far_7 ?_
  refine zq_bipush (v := (nI 40)) rfl dX2_far_9 ?_
  refine zq_icmp_ge (tgt := 39) dX2_far_11 rfl ⟨fun c1 => ?_, fun c1 => ?_⟩
  · have H := H.1 c1
    refine zq_bipush (v := (-5)) rfl dX2_far_39 ?_
    exact zq_iret dX2_far_41 rfl rfl rfl H
  · have H := H.2 c1
    refine zq_lload_n (k := 3) (i := 3) (x := l3) 2 rfl rfl dX2_far_14 ?_
    refine zq_aload_n (k := 0) (i := 0) (x := r0) 0 rfl rfl dX2_far_15 ?_
    refine zq_lload_n (k := 3) (i := 3) (x := l3) 2 rfl rfl dX2_far_16 ?_
    refine zq_invS (as := [.ref r0, .long l3]) (st := .long l3 :: []) st_X2_nearAny mo_X2_nearAny ml_RX2_46 rfl (Nat.le_of_ble_eq_true rfl) dX2_far_17 rfl H (fun r1 h1 hq => ?_)
    obtain ⟨x2, rfl, rfl, H⟩ := hq
    show zQ none m_X2_far (d + 1) 20 [(0, .ref r0), (2, .int i2), (3, .long l3), (5, .int i5)] (.long x2 :: .long l3 :: []) h Q
    refine zq_lor dX2_far_20 ?_
    refine zq_lstore_n (ls' := [(3, .long (l3 ||| x2)), (0, .ref r0), (2, .int i2), (5, .int i5)]) (k := 3) (i := 3) rfl (Nat.le_of_ble_eq_true rfl) rfl dX2_far_21 ?_
    refine zq_lload_n (k := 3) (i := 3) (x := (l3 ||| x2)) 0 rfl rfl dX2_far_22 ?_
    refine zq_iload_n (k := 2) (i := 2) (x := i2) 2 rfl rfl dX2_far_23 ?_
    refine zq_invS (as := [.long (l3 ||| x2), .int i2]) (st := []) st_X10_hasBit mo_X10_hasBit ml_RX2_15 rfl (Nat.le_of_ble_eq_true rfl) dX2_far_24 rfl H (fun r1 h1 hq => ?_)
    obtain ⟨x3, rfl, rfl, H⟩ := hq
    show zQ none m_X2_far (d + 1) 27 [(3, .long (l3 ||| x2)), (0, .ref r0), (2, .int i2), (5, .int i5)] (.int x3 :: []) h Q
    refine zq_if_eq (tgt := 33) dX2_far_27 rfl ⟨fun c4 => ?_, fun c4 => ?_⟩
    · have H := H.1 c4
      refine zq_iinc (i := 5) (x := i5) (v := (nI 1)) (ls' := [(5, .int (i5 + (nI 1))), (3, .long (l3 ||| x2)), (0, .ref r0), (2, .int i2)]) 3 rfl rfl (Nat.le_of_ble_eq_true rfl) rfl dX2_far_33 ?_
      refine zq_goto (tgt := 7) dX2_far_36 rfl ?_
      exact zq_sub (ls' := [(0, .ref r0), (2, .int i2), (3, .long (l3 ||| x2)), (5, .int (i5 + (nI 1)))]) [2, 3, 1, 0] rfl H
    · have H := H.2 c4
      refine zq_iload (i := 5) (x := i5) 3 rfl dX2_far_30 ?_
      exact zq_iret dX2_far_32 rfl rfl rfl H
set_option maxHeartbeats 2000000 in
set_option maxRecDepth 20000 in
theorem r_X2_nearAny_0 {d : Nat} {h : AH} {Q : Option Value → AH → Prop} (r0 : Nat) (l1 : Int64) (s_r0 : h.sh r0 = some (.inr (1, 40))) (H : zQ none m_X2_nearAny (d + 1) 5 [(0, .ref r0), (1, .long l1), (3, .long (0 : Int64)), (5, .int (nI 0))] [] h Q) : zK (d + 1) m_X2_nearAny [.ref r0, .long l1] h Q := by
  refine zK_of mo_X2_nearAny (Nat.le_of_ble_eq_true rfl) ?_
  show zQ none m_X2_nearAny (d + 1) 0 [(0, .ref r0), (1, .long l1)] [] h Q
  refine zq_lconst (v := 0) rfl dX2_nearAny_0 ?_
  refine zq_lstore_n (ls' := [(3, .long (0 : Int64)), (0, .ref r0), (1, .long l1)]) (k := 3) (i := 3) rfl (Nat.le_of_ble_eq_true rfl) rfl dX2_nearAny_1 ?_
  refine zq_iconst (v := (nI 0)) rfl dX2_nearAny_2 ?_
  refine zq_istore (ls' := [(5, .int (nI 0)), (3, .long (0 : Int64)), (0, .ref r0), (1, .long l1)]) (i := 5) (Nat.le_of_ble_eq_true rfl) rfl dX2_nearAny_3 ?_
  exact zq_sub (ls' := [(0, .ref r0), (1, .long l1), (3, .long (0 : Int64)), (5, .int (nI 0))]) [2, 3, 1, 0] rfl H
set_option maxHeartbeats 2000000 in
set_option maxRecDepth 20000 in
theorem r_X2_nearAny_5 {d : Nat} {h : AH} {Q : Option Value → AH → Prop} (r0 : Nat) (l1 : Int64) (l3 : Int64) (i5 : Int32) (s_r0 : h.sh r0 = some (.inr (1, 40))) (H : ((nI 40) ≤ i5 → Q (some (.long l3)) h) ∧ (¬ (nI 40) ≤ i5 → vp_in i5 40 ∧ (((lg_cmp ((h.L r0 i5.toNatClampNeg) &&& l1) (0 : Int64)) = 0 → zQ none m_X2_nearAny (d + 1) 5 [(0, .ref r0), (1, .long l1), (3, .long l3), (5, .int (i5 + (nI 1)))] [] h Q) ∧ (¬ (lg_cmp ((h.L r0 i5.toNatClampNeg) &&& l1) (0 : Int64)) = 0 → zQ none m_X2_nearAny (d + 1) 5 [(0, .ref r0), (1, .long l1), (3, .long (l3 ||| ((1 : Int64) <<< (i5.toInt64 &&& 63)))), (5, .int (i5 + (nI 1)))] [] h Q)))) : zQ none m_X2_nearAny (d + 1) 5 [(0, .ref r0), (1, .long l1), (3, .long l3), (5, .int i5)] [] h Q := by
  refine zq_iload (i := 5) (x := i5) 3 rfl dX2_nearAny_5 ?_
  refine zq_bipush (v := (nI 40)) rfl dX2_nearAny_7 ?_
  refine zq_icmp_ge (tgt := 36) dX2_nearAny_9 rfl ⟨fun c1 => ?_, fun c1 => ?_⟩
  · have H := H.1 c1
    refine zq_lload_n (k := 3) (i := 3) (x := l3) 2 rfl rfl dX2_nearAny_36 ?_
    exact zq_lret dX2_nearAny_37 rfl H
  · have H := H.2 c1
    refine zq_aload_n (k := 0) (i := 0) (x := r0) 0 rfl rfl dX2_nearAny_12 ?_
    refine zq_iload (i := 5) (x := i5) 3 rfl dX2_nearAny_13 ?_
    obtain ⟨b2, H⟩ := H
    refine zq_lald s_r0 b2 dX2_nearAny_15 ?_
    refine zq_lload_n (k := 1) (i := 1) (x := l1) 1 rfl rfl dX2_nearAny_16 ?_
    refine zq_land dX2_nearAny_17 ?_
    refine zq_lconst (v := 0) rfl dX2_nearAny_18 ?_
    refine zq_lcmp dX2_nearAny_19 ?_
    refine zq_if_eq (tgt := 30) dX2_nearAny_20 rfl ⟨fun c3 => ?_, fun c3 => ?_⟩
    · have H := H.1 c3
      refine zq_iinc (i := 5) (x := i5) (v := (nI 1)) (ls' := [(5, .int (i5 + (nI 1))), (0, .ref r0), (1, .long l1), (3, .long l3)]) 3 rfl rfl (Nat.le_of_ble_eq_true rfl) rfl dX2_nearAny_30 ?_
      refine zq_goto (tgt := 5) dX2_nearAny_33 rfl ?_
      exact zq_sub (ls' := [(0, .ref r0), (1, .long l1), (3, .long l3), (5, .int (i5 + (nI 1)))]) [1, 2, 3, 0] rfl H
    · have H := H.2 c3
      refine zq_lload_n (k := 3) (i := 3) (x := l3) 2 rfl rfl dX2_nearAny_23 ?_
      refine zq_lconst (v := 1) rfl dX2_nearAny_24 ?_
      refine zq_iload (i := 5) (x := i5) 3 rfl dX2_nearAny_25 ?_
      refine zq_lshl dX2_nearAny_27 ?_
      refine zq_lor dX2_nearAny_28 ?_
      refine zq_lstore_n (ls' := [(3, .long (l3 ||| ((1 : Int64) <<< (i5.toInt64 &&& 63)))), (0, .ref r0), (1, .long l1), (5, .int i5)]) (k := 3) (i := 3) rfl (Nat.le_of_ble_eq_true rfl) rfl dX2_nearAny_29 ?_
      refine zq_iinc (i := 5) (x := i5) (v := (nI 1)) (ls' := [(5, .int (i5 + (nI 1))), (3, .long (l3 ||| ((1 : Int64) <<< (i5.toInt64 &&& 63)))), (0, .ref r0), (1, .long l1)]) 3 rfl rfl (Nat.le_of_ble_eq_true rfl) rfl dX2_nearAny_30 ?_
      refine zq_goto (tgt := 5) dX2_nearAny_33 rfl ?_
      exact zq_sub (ls' := [(0, .ref r0), (1, .long l1), (3, .long (l3 ||| ((1 : Int64) <<< (i5.toInt64 &&& 63)))), (5, .int (i5 + (nI 1)))]) [2, 3, 1, 0] rfl H
set_option maxHeartbeats 2000000 in
set_option maxRecDepth 20000 in
theorem r_X2_coreWithin_0 {d : Nat} {h : AH} {Q : Option Value → AH → Prop} (r0 : Nat) (l1 : Int64) (i3 : Int32) (s_r0 : h.sh r0 = some (.inr (1, 40))) (H : zQ none m_X2_coreWithin (d + 1) 6 [(0, .ref r0), (3, .int i3), (4, .long l1), (6, .int (nI 0))] [] h Q) : zK (d + 1) m_X2_coreWithin [.ref r0, .long l1, .int i3] h Q := by
  refine zK_of mo_X2_coreWithin (Nat.le_of_ble_eq_true rfl) ?_
  show zQ none m_X2_coreWithin (d + 1) 0 [(0, .ref r0), (1, .long l1), (3, .int i3)] [] h Q
  refine zq_lload_n (k := 1) (i := 1) (x := l1) 1 rfl rfl dX2_coreWithin_0 ?_
  refine zq_lstore (ls' := [(4, .long l1), (0, .ref r0), (1, .long l1), (3, .int i3)]) (i := 4) (Nat.le_of_ble_eq_true rfl) rfl dX2_coreWithin_1 ?_
  refine zq_iconst (v := (nI 0)) rfl dX2_coreWithin_3 ?_
  refine zq_istore (ls' := [(6, .int (nI 0)), (4, .long l1), (0, .ref r0), (1, .long l1), (3, .int i3)]) (i := 6) (Nat.le_of_ble_eq_true rfl) rfl dX2_coreWithin_4 ?_
  exact zq_sub (ls' := [(0, .ref r0), (3, .int i3), (4, .long l1), (6, .int (nI 0))]) [2, 4, 1, 0] rfl H
set_option maxHeartbeats 2000000 in
set_option maxRecDepth 20000 in
theorem r_X2_coreWithin_6 {d : Nat} {h : AH} {Q : Option Value → AH → Prop} (r0 : Nat) (i3 : Int32) (l4 : Int64) (i6 : Int32) (s_r0 : h.sh r0 = some (.inr (1, 40))) (H : ((nI 40) < i6 → Q (some (.long l4)) h) ∧ (¬ (nI 40) < i6 → zQ none m_X2_coreWithin (d + 1) 19 [(0, .ref r0), (3, .int i3), (4, .long l4), (6, .int i6), (7, .long (0 : Int64)), (9, .int (nI 0))] [] h Q)) : zQ none m_X2_coreWithin (d + 1) 6 [(0, .ref r0), (3, .int i3), (4, .long l4), (6, .int i6)] [] h Q := by
  refine zq_iload (i := 6) (x := i6) 3 rfl dX2_coreWithin_6 ?_
  refine zq_bipush (v := (nI 40)) rfl dX2_coreWithin_8 ?_
  refine zq_icmp_gt (tgt := 86) dX2_coreWithin_10 rfl ⟨fun c1 => ?_, fun c1 => ?_⟩
  · have H := H.1 c1
    refine zq_lload (i := 4) (x := l4) 2 rfl dX2_coreWithin_86 ?_
    exact zq_lret dX2_coreWithin_88 rfl H
  · have H := H.2 c1
    refine zq_lconst (v := 0) rfl dX2_coreWithin_13 ?_
    refine zq_lstore (ls' := [(7, .long (0 : Int64)), (0, .ref r0), (3, .int i3), (4, .long l4), (6, .int i6)]) (i := 7) (Nat.le_of_ble_eq_true rfl) rfl dX2_coreWithin_14 ?_
    refine zq_iconst (v := (nI 0)) rfl dX2_coreWithin_16 ?_
    refine zq_istore (ls' := [(9, .int (nI 0)), (7, .long (0 : Int64)), (0, .ref r0), (3, .int i3), (4, .long l4), (6, .int i6)]) (i := 9) (Nat.le_of_ble_eq_true rfl) rfl dX2_coreWithin_17 ?_
    exact zq_sub (ls' := [(0, .ref r0), (3, .int i3), (4, .long l4), (6, .int i6), (7, .long (0 : Int64)), (9, .int (nI 0))]) [2, 3, 4, 5, 1, 0] rfl H
set_option maxHeartbeats 2000000 in
set_option maxRecDepth 20000 in
theorem r_X2_coreWithin_19 {d : Nat} {h : AH} {Q : Option Value → AH → Prop} (r0 : Nat) (i3 : Int32) (l4 : Int64) (i6 : Int32) (l7 : Int64) (i9 : Int32) (s_r0 : h.sh r0 = some (.inr (1, 40))) (H : ((nI 40) ≤ i9 → ((lg_cmp l7 l4) ≠ 0 → zQ none m_X2_coreWithin (d + 1) 6 [(0, .ref r0), (3, .int i3), (4, .long l7), (6, .int (i6 + (nI 1)))] [] h Q) ∧ ((lg_cmp l7 l4) = 0 → Q (some (.long l4)) h)) ∧ (¬ (nI 40) ≤ i9 → zK d m_X10_hasBit [.long l4, .int i9] h (pI h fun x3 => (x3 = 0 → zQ none m_X2_coreWithin (d + 1) 19 [(0, .ref r0), (3, .int i3), (4, .long l4), (6, .int i6), (7, .long l7), (9, .int (i9 + (nI 1)))] [] h Q) ∧ (¬ x3 = 0 → vp_in i9 40 ∧ (zK d m_J13_bitCount_95d88 [.long ((h.L r0 i9.toNatClampNeg) &&& l4)] h (pI h fun x6 => (x6 < i3 → zQ none m_X2_coreWithin (d + 1) 19 [(0, .ref r0), (3, .int i3), (4, .long l4), (6, .int i6), (7, .long l7), (9, .int (i9 + (nI 1)))] [] h Q) ∧ (¬ x6 < i3 → zQ none m_X2_coreWithin (d + 1) 19 [(0, .ref r0), (3, .int i3), (4, .long l4), (6, .int i6), (7, .long (l7 ||| ((1 : Int64) <<< (i9.toInt64 &&& 63)))), (9, .int (i9 + (nI 1)))] [] h Q))))))) : zQ none m_X2_coreWithin (d + 1) 19 [(0, .ref r0), (3, .int i3), (4, .long l4), (6, .int i6), (7, .long l7), (9, .int i9)] [] h Q := by
  refine zq_iload (i := 9) (x := i9) 5 rfl dX2_coreWithin_19 ?_
  refine zq_bipush (v := (nI 40)) rfl dX2_coreWithin_21 ?_
  refine zq_icmp_ge (tgt := 65) dX2_coreWithin_23 rfl ⟨fun c1 => ?_, fun c1 => ?_⟩
  · have H := H.1 c1
    refine zq_lload (i := 7) (x := l7) 4 rfl dX2_coreWithin_65 ?_
    refine zq_lload (i := 4) (x := l4) 2 rfl dX2_coreWithin_67 ?_
    refine zq_lcmp dX2_coreWithin_69 ?_
    refine zq_if_ne (tgt := 76) dX2_coreWithin_70 rfl ⟨fun c2 => ?_, fun c2 => ?_⟩
    · have H := H.1 c2
      refine zq_lload (i := 7) (x := l7) 4 rfl dX2_coreWithin_76 ?_
      refine zq_lstore (ls' := [(4, .long l7), (0, .ref r0), (3, .int i3), (6, .int i6), (7, .long l7), (9, .int i9)]) (i := 4) (Nat.le_of_ble_eq_true rfl) rfl dX2_coreWithin_78 ?_
      refine zq_iinc (i := 6) (x := i6) (v := (nI 1)) (ls' := [(6, .int (i6 + (nI 1))), (4, .long l7), (0, .ref r0), (3, .int i3), (7, .long l7), (9, .int i9)]) 3 rfl rfl (Nat.le_of_ble_eq_true rfl) rfl dX2_coreWithin_80 ?_
      refine zq_goto (tgt := 6) dX2_coreWithin_83 rfl ?_
      exact zq_sub (ls' := [(0, .ref r0), (3, .int i3), (4, .long l7), (6, .int (i6 + (nI 1)))]) [2, 3, 1, 0] rfl H
    · have H := H.2 c2
      refine zq_goto (tgt := 86) dX2_coreWithin_73 rfl ?_
      refine zq_lload (i := 4) (x := l4) 2 rfl dX2_coreWithin_86 ?_
      exact zq_lret dX2_coreWithin_88 rfl H
  · have H := H.2 c1
    refine zq_lload (i := 4) (x := l4) 2 rfl dX2_coreWithin_26 ?_
    refine zq_iload (i := 9) (x := i9) 5 rfl dX2_coreWithin_28 ?_
    refine zq_invS (as := [.long l4, .int i9]) (st := []) st_X10_hasBit mo_X10_hasBit ml_RX2_15 rfl (Nat.le_of_ble_eq_true rfl) dX2_coreWithin_30 rfl H (fun r1 h1 hq => ?_)
    obtain ⟨x3, rfl, rfl, H⟩ := hq
    show zQ none m_X2_coreWithin (d + 1) 33 [(0, .ref r0), (3, .int i3), (4, .long l4), (6, .int i6), (7, .long l7), (9, .int i9)] (.int x3 :: []) h Q
    refine zq_if_eq (tgt := 59) dX2_coreWithin_33 rfl ⟨fun c4 => ?_, fun c4 => ?_⟩
    · have H := H.1 c4
      refine zq_iinc (i := 9) (x := i9) (v := (nI 1)) (ls' := [(9, .int (i9 + (nI 1))), (0, .ref r0), (3, .int i3), (4, .long l4), (6, .int i6), (7, .long l7)]) 5 rfl rfl (Nat.le_of_ble_eq_true rfl) rfl dX2_coreWithin_59 ?_
      refine zq_goto (tgt := 19) dX2_coreWithin_62 rfl ?_
      exact zq_sub (ls' := [(0, .ref r0), (3, .int i3), (4, .long l4), (6, .int i6), (7, .long l7), (9, .int (i9 + (nI 1)))]) [1, 2, 3, 4, 5, 0] rfl H
    · have H := H.2 c4
      refine zq_aload_n (k := 0) (i := 0) (x := r0) 0 rfl rfl dX2_coreWithin_36 ?_
      refine zq_iload (i := 9) (x := i9) 5 rfl dX2_coreWithin_37 ?_
      obtain ⟨b5, H⟩ := H
      refine zq_lald s_r0 b5 dX2_coreWithin_39 ?_
      refine zq_lload (i := 4) (x := l4) 2 rfl dX2_coreWithin_40 ?_
      refine zq_land dX2_coreWithin_42 ?_
      refine zq_invS (as := [.long ((h.L r0 i9.toNatClampNeg) &&& l4)]) (st := []) st_J13_bitCount_95d88 mo_J13_bitCount_95d88 ml_RX2_9 rfl (Nat.le_of_ble_eq_true rfl) dX2_coreWithin_43 rfl H (fun r1 h1 hq => ?_)
      obtain ⟨x6, rfl, rfl, H⟩ := hq
      show zQ none m_X2_coreWithin (d + 1) 46 [(0, .ref r0), (3, .int i3), (4, .long l4), (6, .int i6), (7, .long l7), (9, .int i9)] (.int x6 :: []) h Q
      refine zq_iload_n (k := 3) (i := 3) (x := i3) 1 rfl rfl dX2_coreWithin_46 ?_
      refine zq_icmp_lt (tgt := 59) dX2_coreWithin_47 rfl ⟨fun c7 => ?_, fun c7 => ?_⟩
      · have H := H.1 c7
        refine zq_iinc (i := 9) (x := i9) (v := (nI 1)) (ls' := [(9, .int (i9 + (nI 1))), (0, .ref r0), (3, .int i3), (4, .long l4), (6, .int i6), (7, .long l7)]) 5 rfl rfl (Nat.le_of_ble_eq_true rfl) rfl dX2_coreWithin_59 ?_
        refine zq_goto (tgt := 19) dX2_coreWithin_62 rfl ?_
        exact zq_sub (ls' := [(0, .ref r0), (3, .int i3), (4, .long l4), (6, .int i6), (7, .long l7), (9, .int (i9 + (nI 1)))]) [1, 2, 3, 4, 5, 0] rfl H
      · have H := H.2 c7
        refine zq_lload (i := 7) (x := l7) 4 rfl dX2_coreWithin_50 ?_
        refine zq_lconst (v := 1) rfl dX2_coreWithin_52 ?_
        refine zq_iload (i := 9) (x := i9) 5 rfl dX2_coreWithin_53 ?_
        refine zq_lshl dX2_coreWithin_55 ?_
        refine zq_lor dX2_coreWithin_56 ?_
        refine zq_lstore (ls' := [(7, .long (l7 ||| ((1 : Int64) <<< (i9.toInt64 &&& 63)))), (0, .ref r0), (3, .int i3), (4, .long l4), (6, .int i6), (9, .int i9)]) (i := 7) (Nat.le_of_ble_eq_true rfl) rfl dX2_coreWithin_57 ?_
        refine zq_iinc (i := 9) (x := i9) (v := (nI 1)) (ls' := [(9, .int (i9 + (nI 1))), (7, .long (l7 ||| ((1 : Int64) <<< (i9.toInt64 &&& 63)))), (0, .ref r0), (3, .int i3), (4, .long l4), (6, .int i6)]) 5 rfl rfl (Nat.le_of_ble_eq_true rfl) rfl dX2_coreWithin_59 ?_
        refine zq_goto (tgt := 19) dX2_coreWithin_62 rfl ?_
        exact zq_sub (ls' := [(0, .ref r0), (3, .int i3), (4, .long l4), (6, .int i6), (7, .long (l7 ||| ((1 : Int64) <<< (i9.toInt64 &&& 63)))), (9, .int (i9 + (nI 1)))]) [2, 3, 4, 5, 1, 0] rfl H
set_option maxHeartbeats 2000000 in
set_option maxRecDepth 20000 in
theorem r_X2_layCores_0 {d : Nat} {h : AH} {Q : Option Value → AH → Prop} (r0 : Nat) (r1 : Nat) (hw : zWF h) (s_r0 : h.sh r0 = some (.inr (1, 40))) (s_r1 : h.sh r1 = some (.inr (0, 40))) (H : zK d m_J7_fill_53178 [.ref r1, .int (nI 0)] h (kV fun h1 => h1.sh r0 = some (.inr (1, 40)) ∧ h1.sh r1 = some (.inr (0, 40)) ∧ zQ none m_X2_layCores (d + 1) 12 [(0, .ref r0), (1, .ref r1), (2, .long (1099511627775 : Int64)), (4, .int (nI 1))] [] h1 Q)) : zK (d + 1) m_X2_layCores [.ref r0, .ref r1] h Q := by
  refine zK_of mo_X2_layCores (Nat.le_of_ble_eq_true rfl) ?_
  show zQ none m_X2_layCores (d + 1) 0 [(0, .ref r0), (1, .ref r1)] [] h Q
  refine zq_aload_n (k := 1) (i := 1) (x := r1) 1 rfl rfl dX2_layCores_0 ?_
  refine zq_iconst (v := (nI 0)) rfl dX2_layCores_1 ?_
  refine zq_invS (as := [.ref r1, .int (nI 0)]) (st := []) st_J7_fill_53178 mo_J7_fill_53178 ml_RX2_50 rfl (Nat.le_of_ble_eq_true rfl) dX2_layCores_2 rfl H (fun r1 h1 hq => ?_)
  obtain ⟨rfl, wh1, H⟩ := hq
  obtain ⟨s2, H⟩ := H
  obtain ⟨s3, H⟩ := H
  show zQ none m_X2_layCores (d + 1) 5 [(0, .ref r0), (1, .ref r1)] ([]) h1 Q
  refine zq_ldc2 (v := (1099511627775)) cl_RX2_56 dX2_layCores_5 ?_
  refine zq_lstore_n (ls' := [(2, .long (1099511627775 : Int64)), (0, .ref r0), (1, .ref r1)]) (k := 2) (i := 2) rfl (Nat.le_of_ble_eq_true rfl) rfl dX2_layCores_8 ?_
  refine zq_iconst (v := (nI 1)) rfl dX2_layCores_9 ?_
  refine zq_istore (ls' := [(4, .int (nI 1)), (2, .long (1099511627775 : Int64)), (0, .ref r0), (1, .ref r1)]) (i := 4) (Nat.le_of_ble_eq_true rfl) rfl dX2_layCores_10 ?_
  exact zq_sub (ls' := [(0, .ref r0), (1, .ref r1), (2, .long (1099511627775 : Int64)), (4, .int (nI 1))]) [2, 3, 1, 0] rfl H
set_option maxHeartbeats 2000000 in
set_option maxRecDepth 20000 in
theorem r_X2_layCores_12 {d : Nat} {h : AH} {Q : Option Value → AH → Prop} (r0 : Nat) (r1 : Nat) (l2 : Int64) (i4 : Int32) (hw : zWF h) (s_r0 : h.sh r0 = some (.inr (1, 40))) (s_r1 : h.sh r1 = some (.inr (0, 40))) (H : ((nI 40) ≤ i4 → Q none h) ∧ (¬ (nI 40) ≤ i4 → ((lg_cmp l2 (0 : Int64)) = 0 → Q none h) ∧ (¬ (lg_cmp l2 (0 : Int64)) = 0 → zK d m_X2_coreWithin [.ref r0, .long l2, .int i4] h (pL h fun x3 => zQ none m_X2_layCores (d + 1) 36 [(0, .ref r0), (1, .ref r1), (2, .long x3), (4, .int i4), (5, .int (nI 0))] [] h Q)))) : zQ none m_X2_layCores (d + 1) 12 [(0, .ref r0), (1, .ref r1), (2, .long l2), (4, .int i4)] [] h Q := by
  refine zq_iload (i := 4) (x := i4) 3 rfl dX2_layCores_12 ?_
  refine zq_bipush (v := (nI 40)) rfl dX2_layCores_14 ?_
  refine zq_icmp_ge (tgt := 70) dX2_layCores_16 rfl ⟨fun c1 => ?_, fun c1 => ?_⟩
  · have H := H.1 c1
    exact zq_vret dX2_layCores_70 rfl H
  · have H := H.2 c1
    refine zq_lload_n (k := 2) (i := 2) (x := l2) 2 rfl rfl dX2_layCores_19 ?_
    refine zq_lconst (v := 0) rfl dX2_layCores_20 ?_
    refine zq_lcmp dX2_layCores_21 ?_
    refine zq_if_eq (tgt := 70) dX2_layCores_22 rfl ⟨fun c2 => ?_, fun c2 => ?_⟩
    · have H := H.1 c2
      exact zq_vret dX2_layCores_70 rfl H
    · have H := H.2 c2
      refine zq_aload_n (k := 0) (i := 0) (x := r0) 0 rfl rfl dX2_layCores_25 ?_
      refine zq_lload_n (k := 2) (i := 2) (x := l2) 2 rfl rfl dX2_layCores_26 ?_
      refine zq_iload (i := 4) (x := i4) 3 rfl dX2_layCores_27 ?_
      refine zq_invS (as := [.ref r0, .long l2, .int i4]) (st := []) st_X2_coreWithin mo_X2_coreWithin ml_RX2_58 rfl (Nat.le_of_ble_eq_true rfl) dX2_layCores_29 rfl H (fun r1 h1 hq => ?_)
      obtain ⟨x3, rfl, rfl, H⟩ := hq
      show zQ none m_X2_layCores (d + 1) 32 [(0, .ref r0), (1, .ref r1), (2, .long l2), (4, .int i4)] (.long x3 :: []) h Q
      refine zq_lstore_n (ls' := [(2, .long x3), (0, .ref r0), (1, .ref r1), (4, .int i4)]) (k := 2) (i := 2) rfl (Nat.le_of_ble_eq_true rfl) rfl dX2_layCores_32 ?_
      refine zq_iconst (v := (nI 0)) rfl dX2_layCores_33 ?_
      refine zq_istore (ls' := [(5, .int (nI 0)), (2, .long x3), (0, .ref r0), (1, .ref r1), (4, .int i4)]) (i := 5) (Nat.le_of_ble_eq_true rfl) rfl dX2_layCores_34 ?_
      exact zq_sub (ls' := [(0, .ref r0), (1, .ref r1), (2, .long x3), (4, .int i4), (5, .int (nI 0))]) [2, 3, 1, 4, 0] rfl H
set_option maxHeartbeats 2000000 in
set_option maxRecDepth 20000 in
theorem r_X2_layCores_36 {d : Nat} {h : AH} {Q : Option Value → AH → Prop} (r0 : Nat) (r1 : Nat) (l2 : Int64) (i4 : Int32) (i5 : Int32) (hw : zWF h) (s_r0 : h.sh r0 = some (.inr (1, 40))) (s_r1 : h.sh r1 = some (.inr (0, 40))) (H : ((nI 40) ≤ i5 → zQ none m_X2_layCores (d + 1) 12 [(0, .ref r0), (1, .ref r1), (2, .long l2), (4, .int (i4 + (nI 1)))] [] h Q) ∧ (¬ (nI 40) ≤ i5 → zK d m_X10_hasBit [.long l2, .int i5] h (pI h fun x2 => (x2 = 0 → zQ none m_X2_layCores (d + 1) 36 [(0, .ref r0), (1, .ref r1), (2, .long l2), (4, .int i4), (5, .int (i5 + (nI 1)))] [] h Q) ∧ (¬ x2 = 0 → vp_in i5 40 ∧ (∀ h5, h5 = h.sI r1 i5.toNatClampNeg i4 → zQ none m_X2_layCores (d + 1) 36 [(0, .ref r0), (1, .ref r1), (2, .long l2), (4, .int i4), (5, .int (i5 + (nI 1)))] [] h5 Q))))) : zQ none m_X2_layCores (d + 1) 36 [(0, .ref r0), (1, .ref r1), (2, .long l2), (4, .int i4), (5, .int i5)] [] h Q := by
  refine zq_iload (i := 5) (x := i5) 4 rfl dX2_layCores_36 ?_
  refine zq_bipush (v := (nI 40)) rfl dX2_layCores_38 ?_
  refine zq_icmp_ge (tgt := 64) dX2_layCores_40 rfl ⟨fun c1 => ?_, fun c1 => ?_⟩
  · have H := H.1 c1
    refine zq_iinc (i := 4) (x := i4) (v := (nI 1)) (ls' := [(4, .int (i4 + (nI 1))), (0, .ref r0), (1, .ref r1), (2, .long l2), (5, .int i5)]) 3 rfl rfl (Nat.le_of_ble_eq_true rfl) rfl dX2_layCores_64 ?_
    refine zq_goto (tgt := 12) dX2_layCores_67 rfl ?_
    exact zq_sub (ls' := [(0, .ref r0), (1, .ref r1), (2, .long l2), (4, .int (i4 + (nI 1)))]) [1, 2, 3, 0] rfl H
  · have H := H.2 c1
    refine zq_lload_n (k := 2) (i := 2) (x := l2) 2 rfl rfl dX2_layCores_43 ?_
    refine zq_iload (i := 5) (x := i5) 4 rfl dX2_layCores_44 ?_
    refine zq_invS (as := [.long l2, .int i5]) (st := []) st_X10_hasBit mo_X10_hasBit ml_RX2_15 rfl (Nat.le_of_ble_eq_true rfl) dX2_layCores_46 rfl H (fun r1 h1 hq => ?_)
    obtain ⟨x2, rfl, rfl, H⟩ := hq
    show zQ none m_X2_layCores (d + 1) 49 [(0, .ref r0), (1, .ref r1), (2, .long l2), (4, .int i4), (5, .int i5)] (.int x2 :: []) h Q
    refine zq_if_eq (tgt := 58) dX2_layCores_49 rfl ⟨fun c3 => ?_, fun c3 => ?_⟩
    · have H := H.1 c3
      refine zq_iinc (i := 5) (x := i5) (v := (nI 1)) (ls' := [(5, .int (i5 + (nI 1))), (0, .ref r0), (1, .ref r1), (2, .long l2), (4, .int i4)]) 4 rfl rfl (Nat.le_of_ble_eq_true rfl) rfl dX2_layCores_58 ?_
      refine zq_goto (tgt := 36) dX2_layCores_61 rfl ?_
      exact zq_sub (ls' := [(0, .ref r0), (1, .ref r1), (2, .long l2), (4, .int i4), (5, .int (i5 + (nI 1)))]) [1, 2, 3, 4, 0] rfl H
    · have H := H.2 c3
      refine zq_aload_n (k := 1) (i := 1) (x := r1) 1 rfl rfl dX2_layCores_52 ?_
      refine zq_iload (i := 5) (x := i5) 4 rfl dX2_layCores_53 ?_
      refine zq_iload (i := 4) (x := i4) 3 rfl dX2_layCores_55 ?_
      obtain ⟨b4, H⟩ := H
      refine zq_iast s_r1 b4 dX2_layCores_57 (fun h5 eh5 => ?_)
      have H := H h5 eh5
      have wh5 := wf_I eh5 hw
      have s6 := shk_I eh5 s_r0
      have s7 := shk_I eh5 s_r1
      refine zq_iinc (i := 5) (x := i5) (v := (nI 1)) (ls' := [(5, .int (i5 + (nI 1))), (0, .ref r0), (1, .ref r1), (2, .long l2), (4, .int i4)]) 4 rfl rfl (Nat.le_of_ble_eq_true rfl) rfl dX2_layCores_58 ?_
      refine zq_goto (tgt := 36) dX2_layCores_61 rfl ?_
      exact zq_sub (ls' := [(0, .ref r0), (1, .ref r1), (2, .long l2), (4, .int i4), (5, .int (i5 + (nI 1)))]) [1, 2, 3, 4, 0] rfl H
set_option maxHeartbeats 2000000 in
set_option maxRecDepth 20000 in
theorem r_X3_joins_0 {d : Nat} {h : AH} {Q : Option Value → AH → Prop} (i1 : Int32) (i2 : Int32) (hw : zWF h)  (H : vp_in i1 40 ∧ (zK d m_X10_hasBit [.long (h.L 3 i1.toNatClampNeg), .int i2] h (pI h fun x2 => (x2 = 0 ∨ x2 = 1) ∧ Q (some (.int x2)) h))) : zK (d + 1) m_X3_joins [.ref 2, .int i1, .int i2] h Q := by
  refine zK_of mo_X3_joins (Nat.le_of_ble_eq_true rfl) ?_
  show zQ none m_X3_joins (d + 1) 0 [(0, .ref 2), (1, .int i1), (2, .int i2)] [] h Q
  refine zq_aload_n (k := 0) (i := 0) (x := 2) 0 rfl rfl dX3_joins_0 ?_
  refine zq_getP fl_RX3_9 rfl (sh_2 hw) (rf_2_0 hw) dX3_joins_1 ?_
  refine zq_iload_n (k := 1) (i := 1) (x := i1) 1 rfl rfl dX3_joins_4 ?_
  obtain ⟨b1, H⟩ := H
  refine zq_lald (sh_3 hw) b1 dX3_joins_5 ?_
  refine zq_iload_n (k := 2) (i := 2) (x := i2) 2 rfl rfl dX3_joins_6 ?_
  refine zq_invS (as := [.long (h.L 3 i1.toNatClampNeg), .int i2]) (st := []) st_X10_hasBit mo_X10_hasBit ml_RX3_52 rfl (Nat.le_of_ble_eq_true rfl) dX3_joins_7 rfl H (fun r1 h1 hq => ?_)
  obtain ⟨x2, rfl, rfl, H⟩ := hq
  show zQ none m_X3_joins (d + 1) 10 [(0, .ref 2), (1, .int i1), (2, .int i2)] (.int x2 :: []) h Q
  obtain ⟨z3, H⟩ := H
  exact zq_iret dX3_joins_10 rfl rfl (zbool z3) H
set_option maxHeartbeats 2000000 in
set_option maxRecDepth 20000 in
theorem r_X3_isHeavy_0 {d : Nat} {h : AH} {Q : Option Value → AH → Prop} (i1 : Int32) (hw : zWF h)  (H : zK d m_X10_hasBit [.long (h.L 2 5), .int i1] h (pI h fun x1 => (x1 = 0 ∨ x1 = 1) ∧ Q (some (.int x1)) h)) : zK (d + 1) m_X3_isHeavy [.ref 2, .int i1] h Q := by
  refine zK_of mo_X3_isHeavy (Nat.le_of_ble_eq_true rfl) ?_
  show zQ none m_X3_isHeavy (d + 1) 0 [(0, .ref 2), (1, .int i1)] [] h Q
  refine zq_aload_n (k := 0) (i := 0) (x := 2) 0 rfl rfl dX3_isHeavy_0 ?_
  refine zq_getL fl_RX3_33 rfl (sh_2 hw) dX3_isHeavy_1 ?_
  refine zq_iload_n (k := 1) (i := 1) (x := i1) 1 rfl rfl dX3_isHeavy_4 ?_
  refine zq_invS (as := [.long (h.L 2 5), .int i1]) (st := []) st_X10_hasBit mo_X10_hasBit ml_RX3_52 rfl (Nat.le_of_ble_eq_true rfl) dX3_isHeavy_5 rfl H (fun r1 h1 hq => ?_)
  obtain ⟨x1, rfl, rfl, H⟩ := hq
  show zQ none m_X3_isHeavy (d + 1) 8 [(0, .ref 2), (1, .int i1)] (.int x1 :: []) h Q
  obtain ⟨z2, H⟩ := H
  exact zq_iret dX3_isHeavy_8 rfl rfl (zbool z2) H
set_option maxHeartbeats 2000000 in
set_option maxRecDepth 20000 in
theorem r_X3_bound_0 {d : Nat} {h : AH} {Q : Option Value → AH → Prop}  (hw : zWF h)  (H : zQ none m_X3_bound (d + 1) 2 [(0, .ref 2), (1, .int (nI 1))] [] h Q) : zK (d + 1) m_X3_bound [.ref 2] h Q := by
  refine zK_of mo_X3_bound (Nat.le_of_ble_eq_true rfl) ?_
  show zQ none m_X3_bound (d + 1) 0 [(0, .ref 2)] [] h Q
  refine zq_iconst (v := (nI 1)) rfl dX3_bound_0 ?_
  refine zq_istore_n (ls' := [(1, .int (nI 1)), (0, .ref 2)]) (k := 1) (i := 1) rfl (Nat.le_of_ble_eq_true rfl) rfl dX3_bound_1 ?_
  exact zq_sub (ls' := [(0, .ref 2), (1, .int (nI 1))]) [1, 0] rfl H
set_option maxHeartbeats 2000000 in
set_option maxRecDepth 20000 in
theorem r_X3_bound_2 {d : Nat} {h : AH} {Q : Option Value → AH → Prop} (i1 : Int32) (hw : zWF h)  (H : ((nI 40) ≤ i1 → Q (some (.int (nI 40))) h) ∧ (¬ (nI 40) ≤ i1 → ((i1 * i1) < (h.I 2 4) → zQ none m_X3_bound (d + 1) 2 [(0, .ref 2), (1, .int (i1 + (nI 1)))] [] h Q) ∧ (¬ (i1 * i1) < (h.I 2 4) → Q (some (.int i1)) h))) : zQ none m_X3_bound (d + 1) 2 [(0, .ref 2), (1, .int i1)] [] h Q := by
  refine zq_iload_n (k := 1) (i := 1) (x := i1) 1 rfl rfl dX3_bound_2 ?_
  refine zq_bipush (v := (nI 40)) rfl dX3_bound_3 ?_
  refine zq_icmp_ge (tgt := 26) dX3_bound_5 rfl ⟨fun c1 => ?_, fun c1 => ?_⟩
  · have H := H.1 c1
    refine zq_bipush (v := (nI 40)) rfl dX3_bound_26 ?_
    exact zq_iret dX3_bound_28 rfl rfl rfl H
  · have H := H.2 c1
    refine zq_iload_n (k := 1) (i := 1) (x := i1) 1 rfl rfl dX3_bound_8 ?_
    refine zq_iload_n (k := 1) (i := 1) (x := i1) 1 rfl rfl dX3_bound_9 ?_
    refine zq_imul dX3_bound_10 ?_
    refine zq_aload_n (k := 0) (i := 0) (x := 2) 0 rfl rfl dX3_bound_11 ?_
    refine zq_getI fl_RX3_30 rfl (sh_2 hw) dX3_bound_12 ?_
    refine zq_icmp_lt (tgt := 20) dX3_bound_15 rfl ⟨fun c2 => ?_, fun c2 => ?_⟩
    · have H := H.1 c2
      refine zq_iinc (i := 1) (x := i1) (v := (nI 1)) (ls' := [(1, .int (i1 + (nI 1))), (0, .ref 2)]) 1 rfl rfl (Nat.le_of_ble_eq_true rfl) rfl dX3_bound_20 ?_
      refine zq_goto (tgt := 2) dX3_bound_23 rfl ?_
      exact zq_sub (ls' := [(0, .ref 2), (1, .int (i1 + (nI 1)))]) [1, 0] rfl H
    · have H := H.2 c2
      refine zq_iload_n (k := 1) (i := 1) (x := i1) 1 rfl rfl dX3_bound_18 ?_
      exact zq_iret dX3_bound_19 rfl rfl rfl H
set_option maxHeartbeats 2000000 in
set_option maxRecDepth 20000 in
theorem r_X3_bring_0 {d : Nat} {h : AH} {Q : Option Value → AH → Prop} (i1 : Int32) (i2 : Int32) (i3 : Int32) (hw : zWF h)  (H : zK d m_X5_keep [.ref 5, .int (nI 1), .int i1, .int i2, .int i3] h (kV fun h1 => zK d m_X3_come [.ref 2, .int i1, .int i2, .int i3] h1 (kV fun h2 => Q none h2))) : zK (d + 1) m_X3_bring [.ref 2, .int i1, .int i2, .int i3] h Q := by
  refine zK_of mo_X3_bring (Nat.le_of_ble_eq_true rfl) ?_
  show zQ none m_X3_bring (d + 1) 0 [(0, .ref 2), (1, .int i1), (2, .int i2), (3, .int i3)] [] h Q
  refine zq_aload_n (k := 0) (i := 0) (x := 2) 0 rfl rfl dX3_bring_0 ?_
  refine zq_getP fl_RX3_22 rfl (sh_2 hw) (rf_2_2 hw) dX3_bring_1 ?_
  refine zq_iconst (v := (nI 1)) rfl dX3_bring_4 ?_
  refine zq_iload_n (k := 1) (i := 1) (x := i1) 1 rfl rfl dX3_bring_5 ?_
  refine zq_iload_n (k := 2) (i := 2) (x := i2) 2 rfl rfl dX3_bring_6 ?_
  refine zq_iload_n (k := 3) (i := 3) (x := i3) 3 rfl rfl dX3_bring_7 ?_
  refine zq_invV (as := [.int (nI 1), .int i1, .int i2, .int i3]) (st := []) (o := 5) (c := 4) (by decide) rfl (sh_5 hw) in_X5_keep se_X5_keep mo_X5_keep ml_RX3_56 rfl (Nat.le_of_ble_eq_true rfl) dX3_bring_8 rfl H (fun r1 h1 hq => ?_)
  obtain ⟨rfl, wh1, H⟩ := hq
  show zQ none m_X3_bring (d + 1) 11 [(0, .ref 2), (1, .int i1), (2, .int i2), (3, .int i3)] ([]) h1 Q
  refine zq_aload_n (k := 0) (i := 0) (x := 2) 0 rfl rfl dX3_bring_11 ?_
  refine zq_iload_n (k := 1) (i := 1) (x := i1) 1 rfl rfl dX3_bring_12 ?_
  refine zq_iload_n (k := 2) (i := 2) (x := i2) 2 rfl rfl dX3_bring_13 ?_
  refine zq_iload_n (k := 3) (i := 3) (x := i3) 3 rfl rfl dX3_bring_14 ?_
  refine zq_invV (as := [.int i1, .int i2, .int i3]) (st := []) (o := 2) (c := 2) (by decide) rfl (sh_2 wh1) in_X3_come se_X3_come mo_X3_come ml_RX3_60 rfl (Nat.le_of_ble_eq_true rfl) dX3_bring_15 rfl H (fun r1 h2 hq => ?_)
  obtain ⟨rfl, wh2, H⟩ := hq
  show zQ none m_X3_bring (d + 1) 18 [(0, .ref 2), (1, .int i1), (2, .int i2), (3, .int i3)] ([]) h2 Q
  exact zq_vret dX3_bring_18 rfl H
set_option maxHeartbeats 2000000 in
set_option maxRecDepth 20000 in
theorem r_X3_drop_0 {d : Nat} {h : AH} {Q : Option Value → AH → Prop} (i1 : Int32) (i2 : Int32) (hw : zWF h)  (H : zK d m_X10_pairOf [.int i1, .int i2] h (pI h fun x1 => vp_in x1 1600 ∧ (zK d m_X5_keep [.ref 5, .int (nI 0), .int i1, .int i2, .int (h.I 4 x1.toNatClampNeg)] h (kV fun h3 => zK d m_X3_go [.ref 2, .int i1, .int i2] h3 (kV fun h4 => Q none h4))))) : zK (d + 1) m_X3_drop [.ref 2, .int i1, .int i2] h Q := by
  refine zK_of mo_X3_drop (Nat.le_of_ble_eq_true rfl) ?_
  show zQ none m_X3_drop (d + 1) 0 [(0, .ref 2), (1, .int i1), (2, .int i2)] [] h Q
  refine zq_aload_n (k := 0) (i := 0) (x := 2) 0 rfl rfl dX3_drop_0 ?_
  refine zq_getP fl_RX3_22 rfl (sh_2 hw) (rf_2_2 hw) dX3_drop_1 ?_
  refine zq_iconst (v := (nI 0)) rfl dX3_drop_4 ?_
  refine zq_iload_n (k := 1) (i := 1) (x := i1) 1 rfl rfl dX3_drop_5 ?_
  refine zq_iload_n (k := 2) (i := 2) (x := i2) 2 rfl rfl dX3_drop_6 ?_
  refine zq_aload_n (k := 0) (i := 0) (x := 2) 0 rfl rfl dX3_drop_7 ?_
  refine zq_getP fl_RX3_15 rfl (sh_2 hw) (rf_2_1 hw) dX3_drop_8 ?_
  refine zq_iload_n (k := 1) (i := 1) (x := i1) 1 rfl rfl dX3_drop_11 ?_
  refine zq_iload_n (k := 2) (i := 2) (x := i2) 2 rfl rfl dX3_drop_12 ?_
  refine zq_invS (as := [.int i1, .int i2]) (st := .ref 4 :: .int i2 :: .int i1 :: .int (nI 0) :: .ref 5 :: []) st_X10_pairOf mo_X10_pairOf ml_RX3_64 rfl (Nat.le_of_ble_eq_true rfl) dX3_drop_13 rfl H (fun r1 h1 hq => ?_)
  obtain ⟨x1, rfl, rfl, H⟩ := hq
  show zQ none m_X3_drop (d + 1) 16 [(0, .ref 2), (1, .int i1), (2, .int i2)] (.int x1 :: .ref 4 :: .int i2 :: .int i1 :: .int (nI 0) :: .ref 5 :: []) h Q
  obtain ⟨b2, H⟩ := H
  refine zq_iald (sh_4 hw) b2 dX3_drop_16 ?_
  refine zq_invV (as := [.int (nI 0), .int i1, .int i2, .int (h.I 4 x1.toNatClampNeg)]) (st := []) (o := 5) (c := 4) (by decide) rfl (sh_5 hw) in_X5_keep se_X5_keep mo_X5_keep ml_RX3_56 rfl (Nat.le_of_ble_eq_true rfl) dX3_drop_17 rfl H (fun r1 h3 hq => ?_)
  obtain ⟨rfl, wh3, H⟩ := hq
  show zQ none m_X3_drop (d + 1) 20 [(0, .ref 2), (1, .int i1), (2, .int i2)] ([]) h3 Q
  refine zq_aload_n (k := 0) (i := 0) (x := 2) 0 rfl rfl dX3_drop_20 ?_
  refine zq_iload_n (k := 1) (i := 1) (x := i1) 1 rfl rfl dX3_drop_21 ?_
  refine zq_iload_n (k := 2) (i := 2) (x := i2) 2 rfl rfl dX3_drop_22 ?_
  refine zq_invV (as := [.int i1, .int i2]) (st := []) (o := 2) (c := 2) (by decide) rfl (sh_2 wh3) in_X3_go se_X3_go mo_X3_go ml_RX3_68 rfl (Nat.le_of_ble_eq_true rfl) dX3_drop_23 rfl H (fun r1 h4 hq => ?_)
  obtain ⟨rfl, wh4, H⟩ := hq
  show zQ none m_X3_drop (d + 1) 26 [(0, .ref 2), (1, .int i1), (2, .int i2)] ([]) h4 Q
  exact zq_vret dX3_drop_26 rfl H
set_option maxHeartbeats 2000000 in
set_option maxRecDepth 20000 in
theorem r_X3_takeBack_0 {d : Nat} {h : AH} {Q : Option Value → AH → Prop} (i1 : Int32) (hw : zWF h)  (H : zQ none m_X3_takeBack (d + 1) 2 [(0, .ref 2), (1, .int i1), (2, .int (nI 0))] [] h Q) : zK (d + 1) m_X3_takeBack [.ref 2, .int i1] h Q := by
  refine zK_of mo_X3_takeBack (Nat.le_of_ble_eq_true rfl) ?_
  show zQ none m_X3_takeBack (d + 1) 0 [(0, .ref 2), (1, .int i1)] [] h Q
  refine zq_iconst (v := (nI 0)) rfl dX3_takeBack_0 ?_
  refine zq_istore_n (ls' := [(2, .int (nI 0)), (0, .ref 2), (1, .int i1)]) (k := 2) (i := 2) rfl (Nat.le_of_ble_eq_true rfl) rfl dX3_takeBack_1 ?_
  exact zq_sub (ls' := [(0, .ref 2), (1, .int i1), (2, .int (nI 0))]) [1, 2, 0] rfl H
set_option maxHeartbeats 2000000 in
set_option maxRecDepth 20000 in
theorem r_X3_takeBack_2 {d : Nat} {h : AH} {Q : Option Value → AH → Prop} (i1 : Int32) (i2 : Int32) (hw : zWF h)  (H : (i1 ≤ i2 → Q (some (.int i2)) h) ∧ (¬ i1 ≤ i2 → ((h.I 5 1) ≤ 0 → Q (some (.int i2)) h) ∧ (¬ (h.I 5 1) ≤ 0 → ∀ h3, h3 = h.sI 5 1 ((h.I 5 1) - (nI 1)) → zK d m_X5_firstOf [.ref 5, .int (h3.I 5 1)] h3 (pI h3 fun x4 => zK d m_X5_secondOf [.ref 5, .int (h3.I 5 1)] h3 (pI h3 fun x5 => zK d m_X5_hadCome [.ref 5, .int (h3.I 5 1)] h3 (pI h3 fun x6 => (x6 = 0 → zK d m_X5_worthOf [.ref 5, .int (h3.I 5 1)] h3 (pI h3 fun x8 => zK d m_X3_come [.ref 2, .int x4, .int x5, .int x8] h3 (kV fun h9 => zQ none m_X3_takeBack (d + 1) 2 [(0, .ref 2), (1, .int i1), (2, .int (i2 + (nI 1)))] [] h9 Q))) ∧ (¬ x6 = 0 → zK d m_X3_go [.ref 2, .int x4, .int x5] h3 (kV fun h10 => zQ none m_X3_takeBack (d + 1) 2 [(0, .ref 2), (1, .int i1), (2, .int (i2 + (nI 1)))] [] h10 Q)))))))) : zQ none m_X3_takeBack (d + 1) 2 [(0, .ref 2), (1, .int i1), (2, .int i2)] [] h Q := by
  refine zq_iload_n (k := 2) (i := 2) (x := i2) 2 rfl rfl dX3_takeBack_2 ?_
  refine zq_iload_n (k := 1) (i := 1) (x := i1) 1 rfl rfl dX3_takeBack_3 ?_
  refine zq_icmp_ge (tgt := 115) dX3_takeBack_4 rfl ⟨fun c1 => ?_, fun c1 => ?_⟩
  · have H := H.1 c1
    refine zq_iload_n (k := 2) (i := 2) (x := i2) 2 rfl rfl dX3_takeBack_115 ?_
    exact zq_iret dX3_takeBack_116 rfl rfl rfl H
  · have H := H.2 c1
    refine zq_aload_n (k := 0) (i := 0) (x := 2) 0 rfl rfl dX3_takeBack_7 ?_
    refine zq_getP fl_RX3_22 rfl (sh_2 hw) (rf_2_2 hw) dX3_takeBack_8 ?_
    refine zq_getI fl_RX3_72 rfl (sh_5 hw) dX3_takeBack_11 ?_
    refine zq_if_le (tgt := 115) dX3_takeBack_14 rfl ⟨fun c2 => ?_, fun c2 => ?_⟩
    · have H := H.1 c2
      refine zq_iload_n (k := 2) (i := 2) (x := i2) 2 rfl rfl dX3_takeBack_115 ?_
      exact zq_iret dX3_takeBack_116 rfl rfl rfl H
    · have H := H.2 c2
      refine zq_aload_n (k := 0) (i := 0) (x := 2) 0 rfl rfl dX3_takeBack_17 ?_
      refine zq_getP fl_RX3_22 rfl (sh_2 hw) (rf_2_2 hw) dX3_takeBack_18 ?_
      refine zq_dup rfl dX3_takeBack_21 ?_
      refine zq_getI fl_RX3_72 rfl (sh_5 hw) dX3_takeBack_22 ?_
      refine zq_iconst (v := (nI 1)) rfl dX3_takeBack_25 ?_
      refine zq_isub dX3_takeBack_26 ?_
      refine zq_putI fl_RX3_72 rfl (Or.inl rfl) (sh_5 hw) rfl rfl dX3_takeBack_27 (fun h3 eh3 => ?_)
      have H := H h3 eh3
      have wh3 := wf_I eh3 hw
      refine zq_aload_n (k := 0) (i := 0) (x := 2) 0 rfl rfl dX3_takeBack_30 ?_
      refine zq_getP fl_RX3_22 rfl (sh_2 wh3) (rf_2_2 wh3) dX3_takeBack_31 ?_
      refine zq_aload_n (k := 0) (i := 0) (x := 2) 0 rfl rfl dX3_takeBack_34 ?_
      refine zq_getP fl_RX3_22 rfl (sh_2 wh3) (rf_2_2 wh3) dX3_takeBack_35 ?_
      refine zq_getI fl_RX3_72 rfl (sh_5 wh3) dX3_takeBack_38 ?_
      refine zq_invV (as := [.int (h3.I 5 1)]) (st := []) (o := 5) (c := 4) (by decide) rfl (sh_5 wh3) in_X5_firstOf se_X5_firstOf mo_X5_firstOf ml_RX3_75 rfl (Nat.le_of_ble_eq_true rfl) dX3_takeBack_41 rfl H (fun r1 h1 hq => ?_)
      obtain ⟨x4, rfl, rfl, H⟩ := hq
      show zQ none m_X3_takeBack (d + 1) 44 [(0, .ref 2), (1, .int i1), (2, .int i2)] (.int x4 :: []) h3 Q
      refine zq_istore_n (ls' := [(3, .int x4), (0, .ref 2), (1, .int i1), (2, .int i2)]) (k := 3) (i := 3) rfl (Nat.le_of_ble_eq_true rfl) rfl dX3_takeBack_44 ?_
      refine zq_aload_n (k := 0) (i := 0) (x := 2) 1 rfl rfl dX3_takeBack_45 ?_
      refine zq_getP fl_RX3_22 rfl (sh_2 wh3) (rf_2_2 wh3) dX3_takeBack_46 ?_
      refine zq_aload_n (k := 0) (i := 0) (x := 2) 1 rfl rfl dX3_takeBack_49 ?_
      refine zq_getP fl_RX3_22 rfl (sh_2 wh3) (rf_2_2 wh3) dX3_takeBack_50 ?_
      refine zq_getI fl_RX3_72 rfl (sh_5 wh3) dX3_takeBack_53 ?_
      refine zq_invV (as := [.int (h3.I 5 1)]) (st := []) (o := 5) (c := 4) (by decide) rfl (sh_5 wh3) in_X5_secondOf se_X5_secondOf mo_X5_secondOf ml_RX3_79 rfl (Nat.le_of_ble_eq_true rfl) dX3_takeBack_56 rfl H (fun r1 h1 hq => ?_)
      obtain ⟨x5, rfl, rfl, H⟩ := hq
      show zQ none m_X3_takeBack (d + 1) 59 [(3, .int x4), (0, .ref 2), (1, .int i1), (2, .int i2)] (.int x5 :: []) h3 Q
      refine zq_istore (ls' := [(4, .int x5), (3, .int x4), (0, .ref 2), (1, .int i1), (2, .int i2)]) (i := 4) (Nat.le_of_ble_eq_true rfl) rfl dX3_takeBack_59 ?_
      refine zq_aload_n (k := 0) (i := 0) (x := 2) 2 rfl rfl dX3_takeBack_61 ?_
      refine zq_getP fl_RX3_22 rfl (sh_2 wh3) (rf_2_2 wh3) dX3_takeBack_62 ?_
      refine zq_aload_n (k := 0) (i := 0) (x := 2) 2 rfl rfl dX3_takeBack_65 ?_
      refine zq_getP fl_RX3_22 rfl (sh_2 wh3) (rf_2_2 wh3) dX3_takeBack_66 ?_
      refine zq_getI fl_RX3_72 rfl (sh_5 wh3) dX3_takeBack_69 ?_
      refine zq_invV (as := [.int (h3.I 5 1)]) (st := []) (o := 5) (c := 4) (by decide) rfl (sh_5 wh3) in_X5_hadCome se_X5_hadCome mo_X5_hadCome ml_RX3_82 rfl (Nat.le_of_ble_eq_true rfl) dX3_takeBack_72 rfl H (fun r1 h1 hq => ?_)
      obtain ⟨x6, rfl, rfl, H⟩ := hq
      show zQ none m_X3_takeBack (d + 1) 75 [(4, .int x5), (3, .int x4), (0, .ref 2), (1, .int i1), (2, .int i2)] (.int x6 :: []) h3 Q
      refine zq_if_eq (tgt := 88) dX3_takeBack_75 rfl ⟨fun c7 => ?_, fun c7 => ?_⟩
      · have H := H.1 c7
        refine zq_aload_n (k := 0) (i := 0) (x := 2) 2 rfl rfl dX3_takeBack_88 ?_
        refine zq_iload_n (k := 3) (i := 3) (x := x4) 1 rfl rfl dX3_takeBack_89 ?_
        refine zq_iload (i := 4) (x := x5) 0 rfl dX3_takeBack_90 ?_
        refine zq_aload_n (k := 0) (i := 0) (x := 2) 2 rfl rfl dX3_takeBack_92 ?_
        refine zq_getP fl_RX3_22 rfl (sh_2 wh3) (rf_2_2 wh3) dX3_takeBack_93 ?_
        refine zq_aload_n (k := 0) (i := 0) (x := 2) 2 rfl rfl dX3_takeBack_96 ?_
        refine zq_getP fl_RX3_22 rfl (sh_2 wh3) (rf_2_2 wh3) dX3_takeBack_97 ?_
        refine zq_getI fl_RX3_72 rfl (sh_5 wh3) dX3_takeBack_100 ?_
        refine zq_invV (as := [.int (h3.I 5 1)]) (st := .int x5 :: .int x4 :: .ref 2 :: []) (o := 5) (c := 4) (by decide) rfl (sh_5 wh3) in_X5_worthOf se_X5_worthOf mo_X5_worthOf ml_RX3_86 rfl (Nat.le_of_ble_eq_true rfl) dX3_takeBack_103 rfl H (fun r1 h1 hq => ?_)
        obtain ⟨x8, rfl, rfl, H⟩ := hq
        show zQ none m_X3_takeBack (d + 1) 106 [(4, .int x5), (3, .int x4), (0, .ref 2), (1, .int i1), (2, .int i2)] (.int x8 :: .int x5 :: .int x4 :: .ref 2 :: []) h3 Q
        refine zq_invV (as := [.int x4, .int x5, .int x8]) (st := []) (o := 2) (c := 2) (by decide) rfl (sh_2 wh3) in_X3_come se_X3_come mo_X3_come ml_RX3_60 rfl (Nat.le_of_ble_eq_true rfl) dX3_takeBack_106 rfl H (fun r1 h9 hq => ?_)
        obtain ⟨rfl, wh9, H⟩ := hq
        show zQ none m_X3_takeBack (d + 1) 109 [(4, .int x5), (3, .int x4), (0, .ref 2), (1, .int i1), (2, .int i2)] ([]) h9 Q
        refine zq_iinc (i := 2) (x := i2) (v := (nI 1)) (ls' := [(2, .int (i2 + (nI 1))), (4, .int x5), (3, .int x4), (0, .ref 2), (1, .int i1)]) 4 rfl rfl (Nat.le_of_ble_eq_true rfl) rfl dX3_takeBack_109 ?_
        refine zq_goto (tgt := 2) dX3_takeBack_112 rfl ?_
        exact zq_sub (ls' := [(0, .ref 2), (1, .int i1), (2, .int (i2 + (nI 1)))]) [3, 4, 0] rfl H
      · have H := H.2 c7
        refine zq_aload_n (k := 0) (i := 0) (x := 2) 2 rfl rfl dX3_takeBack_78 ?_
        refine zq_iload_n (k := 3) (i := 3) (x := x4) 1 rfl rfl dX3_takeBack_79 ?_
        refine zq_iload (i := 4) (x := x5) 0 rfl dX3_takeBack_80 ?_
        refine zq_invV (as := [.int x4, .int x5]) (st := []) (o := 2) (c := 2) (by decide) rfl (sh_2 wh3) in_X3_go se_X3_go mo_X3_go ml_RX3_68 rfl (Nat.le_of_ble_eq_true rfl) dX3_takeBack_82 rfl H (fun r1 h10 hq => ?_)
        obtain ⟨rfl, wh10, H⟩ := hq
        show zQ none m_X3_takeBack (d + 1) 85 [(4, .int x5), (3, .int x4), (0, .ref 2), (1, .int i1), (2, .int i2)] ([]) h10 Q
        refine zq_goto (tgt := 109) dX3_takeBack_85 rfl ?_
        refine zq_iinc (i := 2) (x := i2) (v := (nI 1)) (ls' := [(2, .int (i2 + (nI 1))), (4, .int x5), (3, .int x4), (0, .ref 2), (1, .int i1)]) 4 rfl rfl (Nat.le_of_ble_eq_true rfl) rfl dX3_takeBack_109 ?_
        refine zq_goto (tgt := 2) dX3_takeBack_112 rfl ?_
        exact zq_sub (ls' := [(0, .ref 2), (1, .int i1), (2, .int (i2 + (nI 1)))]) [3, 4, 0] rfl H
set_option maxHeartbeats 2000000 in
set_option maxRecDepth 20000 in
theorem r_X3_become_k_0 {d : Nat} {h : AH} {Q : Option Value → AH → Prop}  (hw : zWF h)  (H : (¬ (nI 0) < 0 ∧ ¬ (nI 0) < 0 ∧ ¬ (nI 40) < 0 ∧ (nI 0).toNatClampNeg + (nI 40).toNatClampNeg ≤ 40 ∧ (nI 0).toNatClampNeg + (nI 40).toNatClampNeg ≤ 40) ∧ (∀ h2, h2 = h.wL 8 (va_cpy (h.L 3) (h.L 8) (nI 0).toNatClampNeg (nI 0).toNatClampNeg (nI 40).toNatClampNeg) → (¬ (nI 0) < 0 ∧ ¬ (nI 0) < 0 ∧ ¬ (nI 1600) < 0 ∧ (nI 0).toNatClampNeg + (nI 1600).toNatClampNeg ≤ 1600 ∧ (nI 0).toNatClampNeg + (nI 1600).toNatClampNeg ≤ 1600) ∧ (∀ h4, h4 = h2.wI 9 (va_cpy (h2.I 4) (h2.I 9) (nI 0).toNatClampNeg (nI 0).toNatClampNeg (nI 1600).toNatClampNeg) → zK d m_X5_become [.ref 10, .ref 5] h4 (kV fun h5 => ∀ h6, h6 = h5.sI 7 3 (h5.I 2 3) → ∀ h7, h7 = h6.sI 7 4 (h6.I 2 4) → ∀ h8, h8 = h7.sL 7 5 (h7.L 2 5) → ∀ h9, h9 = h8.sL 7 6 (h8.L 2 6) → ∀ h10, h10 = h9.sL 7 7 (h9.L 2 7) → ∀ h11, h11 = h10.sL 7 8 (h10.L 2 8) → ∀ h12, h12 = h11.sL 7 9 (h11.L 2 9) → ∀ h13, h13 = h12.sL 7 10 (h12.L 2 10) → Q none h13)))) : zK (d + 1) m_X3_become [.ref 7, .ref 2] h Q := by
  refine zK_of mo_X3_become (Nat.le_of_ble_eq_true rfl) ?_
  show zQ none m_X3_become (d + 1) 0 [(0, .ref 7), (1, .ref 2)] [] h Q
  refine zq_aload_n (k := 1) (i := 1) (x := 2) 1 rfl rfl dX3_become_0 ?_
  refine zq_getP fl_RX3_9 rfl (sh_2 hw) (rf_2_0 hw) dX3_become_1 ?_
  refine zq_iconst (v := (nI 0)) rfl dX3_become_4 ?_
  refine zq_aload_n (k := 0) (i := 0) (x := 7) 0 rfl rfl dX3_become_5 ?_
  refine zq_getP fl_RX3_9 rfl (sh_7 hw) (rf_7_0 hw) dX3_become_6 ?_
  refine zq_iconst (v := (nI 0)) rfl dX3_become_9 ?_
  refine zq_bipush (v := (nI 40)) rfl dX3_become_10 ?_
  obtain ⟨⟨a11, a12, a13, a14, a15⟩, H⟩ := H
  refine zq_copyL ac_RX3_89 (sh_3 hw) (sh_8 hw) a11 a12 a13 a14 a15 (Nat.le_of_ble_eq_true rfl) dX3_become_12 (fun h2 eh2 => ?_)
  have H := H h2 eh2
  have wh2 := wf_L eh2 hw
  refine zq_aload_n (k := 1) (i := 1) (x := 2) 1 rfl rfl dX3_become_15 ?_
  refine zq_getP fl_RX3_15 rfl (sh_2 wh2) (rf_2_1 wh2) dX3_become_16 ?_
  refine zq_iconst (v := (nI 0)) rfl dX3_become_19 ?_
  refine zq_aload_n (k := 0) (i := 0) (x := 7) 0 rfl rfl dX3_become_20 ?_
  refine zq_getP fl_RX3_15 rfl (sh_7 wh2) (rf_7_1 wh2) dX3_become_21 ?_
  refine zq_iconst (v := (nI 0)) rfl dX3_become_24 ?_
  refine zq_sipush (v := (nI 1600)) rfl dX3_become_25 ?_
  obtain ⟨⟨a31, a32, a33, a34, a35⟩, H⟩ := H
  refine zq_copyI ac_RX3_89 (sh_4 wh2) (sh_9 wh2) a31 a32 a33 a34 a35 (Nat.le_of_ble_eq_true rfl) dX3_become_28 (fun h4 eh4 => ?_)
  have H := H h4 eh4
  have wh4 := wf_I eh4 wh2
  refine zq_aload_n (k := 0) (i := 0) (x := 7) 0 rfl rfl dX3_become_31 ?_
  refine zq_getP fl_RX3_22 rfl (sh_7 wh4) (rf_7_2 wh4) dX3_become_32 ?_
  refine zq_aload_n (k := 1) (i := 1) (x := 2) 1 rfl rfl dX3_become_35 ?_
  refine zq_getP fl_RX3_22 rfl (sh_2 wh4) (rf_2_2 wh4) dX3_become_36 ?_
  refine zq_invV (as := [.ref 5]) (st := []) (o := 10) (c := 4) (by decide) rfl (sh_10 wh4) in_X5_become se_X5_become mo_X5_become ml_RX3_95 rfl (Nat.le_of_ble_eq_true rfl) dX3_become_39 rfl H (fun r1 h5 hq => ?_)
  obtain ⟨rfl, wh5, H⟩ := hq
  show zQ none m_X3_become (d + 1) 42 [(0, .ref 7), (1, .ref 2)] ([]) h5 Q
  refine zq_aload_n (k := 0) (i := 0) (x := 7) 0 rfl rfl dX3_become_42 ?_
  refine zq_aload_n (k := 1) (i := 1) (x := 2) 1 rfl rfl dX3_become_43 ?_
  refine zq_getI fl_RX3_26 rfl (sh_2 wh5) dX3_become_44 ?_
  refine zq_putI fl_RX3_26 rfl (Or.inl rfl) (sh_7 wh5) rfl rfl dX3_become_47 (fun h6 eh6 => ?_)
  have H := H h6 eh6
  have wh6 := wf_I eh6 wh5
  refine zq_aload_n (k := 0) (i := 0) (x := 7) 0 rfl rfl dX3_become_50 ?_
  refine zq_aload_n (k := 1) (i := 1) (x := 2) 1 rfl rfl dX3_become_51 ?_
  refine zq_getI fl_RX3_30 rfl (sh_2 wh6) dX3_become_52 ?_
  refine zq_putI fl_RX3_30 rfl (Or.inl rfl) (sh_7 wh6) rfl rfl dX3_become_55 (fun h7 eh7 => ?_)
  have H := H h7 eh7
  have wh7 := wf_I eh7 wh6
  refine zq_aload_n (k := 0) (i := 0) (x := 7) 0 rfl rfl dX3_become_58 ?_
  refine zq_aload_n (k := 1) (i := 1) (x := 2) 1 rfl rfl dX3_become_59 ?_
  refine zq_getL fl_RX3_33 rfl (sh_2 wh7) dX3_become_60 ?_
  refine zq_putL fl_RX3_33 rfl (Or.inl rfl) (sh_7 wh7) dX3_become_63 (fun h8 eh8 => ?_)
  have H := H h8 eh8
  have wh8 := wf_L eh8 wh7
  refine zq_aload_n (k := 0) (i := 0) (x := 7) 0 rfl rfl dX3_become_66 ?_
  refine zq_aload_n (k := 1) (i := 1) (x := 2) 1 rfl rfl dX3_become_67 ?_
  refine zq_getL fl_RX3_37 rfl (sh_2 wh8) dX3_become_68 ?_
  refine zq_putL fl_RX3_37 rfl (Or.inl rfl) (sh_7 wh8) dX3_become_71 (fun h9 eh9 => ?_)
  have H := H h9 eh9
  have wh9 := wf_L eh9 wh8
  refine zq_aload_n (k := 0) (i := 0) (x := 7) 0 rfl rfl dX3_become_74 ?_
  refine zq_aload_n (k := 1) (i := 1) (x := 2) 1 rfl rfl dX3_become_75 ?_
  refine zq_getL fl_RX3_40 rfl (sh_2 wh9) dX3_become_76 ?_
  refine zq_putL fl_RX3_40 rfl (Or.inl rfl) (sh_7 wh9) dX3_become_79 (fun h10 eh10 => ?_)
  have H := H h10 eh10
  have wh10 := wf_L eh10 wh9
  refine zq_aload_n (k := 0) (i := 0) (x := 7) 0 rfl rfl dX3_become_82 ?_
  refine zq_aload_n (k := 1) (i := 1) (x := 2) 1 rfl rfl dX3_become_83 ?_
  refine zq_getL fl_RX3_43 rfl (sh_2 wh10) dX3_become_84 ?_
  refine zq_putL fl_RX3_43 rfl (Or.inl rfl) (sh_7 wh10) dX3_become_87 (fun h11 eh11 => ?_)
  have H := H h11 eh11
  have wh11 := wf_L eh11 wh10
  refine zq_aload_n (k := 0) (i := 0) (x := 7) 0 rfl rfl dX3_become_90 ?_
  refine zq_aload_n (k := 1) (i := 1) (x := 2) 1 rfl rfl dX3_become_91 ?_
  refine zq_getL fl_RX3_46 rfl (sh_2 wh11) dX3_become_92 ?_
  refine zq_putL fl_RX3_46 rfl (Or.inl rfl) (sh_7 wh11) dX3_become_95 (fun h12 eh12 => ?_)
  have H := H h12 eh12
  have wh12 := wf_L eh12 wh11
  refine zq_aload_n (k := 0) (i := 0) (x := 7) 0 rfl rfl dX3_become_98 ?_
  refine zq_aload_n (k := 1) (i := 1) (x := 2) 1 rfl rfl dX3_become_99 ?_
  refine zq_getL fl_RX3_49 rfl (sh_2 wh12) dX3_become_100 ?_
  refine zq_putL fl_RX3_49 rfl (Or.inl rfl) (sh_7 wh12) dX3_become_103 (fun h13 eh13 => ?_)
  have H := H h13 eh13
  have wh13 := wf_L eh13 wh12
  exact zq_vret dX3_become_106 rfl H
set_option maxHeartbeats 2000000 in
set_option maxRecDepth 20000 in
theorem r_X3_become_n_0 {d : Nat} {h : AH} {Q : Option Value → AH → Prop}  (hw : zWF h)  (H : (¬ (nI 0) < 0 ∧ ¬ (nI 0) < 0 ∧ ¬ (nI 40) < 0 ∧ (nI 0).toNatClampNeg + (nI 40).toNatClampNeg ≤ 40 ∧ (nI 0).toNatClampNeg + (nI 40).toNatClampNeg ≤ 40) ∧ (∀ h2, h2 = h.wL 3 (va_cpy (h.L 8) (h.L 3) (nI 0).toNatClampNeg (nI 0).toNatClampNeg (nI 40).toNatClampNeg) → (¬ (nI 0) < 0 ∧ ¬ (nI 0) < 0 ∧ ¬ (nI 1600) < 0 ∧ (nI 0).toNatClampNeg + (nI 1600).toNatClampNeg ≤ 1600 ∧ (nI 0).toNatClampNeg + (nI 1600).toNatClampNeg ≤ 1600) ∧ (∀ h4, h4 = h2.wI 4 (va_cpy (h2.I 9) (h2.I 4) (nI 0).toNatClampNeg (nI 0).toNatClampNeg (nI 1600).toNatClampNeg) → zK d m_X5_become [.ref 5, .ref 10] h4 (kV fun h5 => ∀ h6, h6 = h5.sI 2 3 (h5.I 7 3) → ∀ h7, h7 = h6.sI 2 4 (h6.I 7 4) → ∀ h8, h8 = h7.sL 2 5 (h7.L 7 5) → ∀ h9, h9 = h8.sL 2 6 (h8.L 7 6) → ∀ h10, h10 = h9.sL 2 7 (h9.L 7 7) → ∀ h11, h11 = h10.sL 2 8 (h10.L 7 8) → ∀ h12, h12 = h11.sL 2 9 (h11.L 7 9) → ∀ h13, h13 = h12.sL 2 10 (h12.L 7 10) → Q none h13)))) : zK (d + 1) m_X3_become [.ref 2, .ref 7] h Q := by
  refine zK_of mo_X3_become (Nat.le_of_ble_eq_true rfl) ?_
  show zQ none m_X3_become (d + 1) 0 [(0, .ref 2), (1, .ref 7)] [] h Q
  refine zq_aload_n (k := 1) (i := 1) (x := 7) 1 rfl rfl dX3_become_0 ?_
  refine zq_getP fl_RX3_9 rfl (sh_7 hw) (rf_7_0 hw) dX3_become_1 ?_
  refine zq_iconst (v := (nI 0)) rfl dX3_become_4 ?_
  refine zq_aload_n (k := 0) (i := 0) (x := 2) 0 rfl rfl dX3_become_5 ?_
  refine zq_getP fl_RX3_9 rfl (sh_2 hw) (rf_2_0 hw) dX3_become_6 ?_
  refine zq_iconst (v := (nI 0)) rfl dX3_become_9 ?_
  refine zq_bipush (v := (nI 40)) rfl dX3_become_10 ?_
  obtain ⟨⟨a11, a12, a13, a14, a15⟩, H⟩ := H
  refine zq_copyL ac_RX3_89 (sh_8 hw) (sh_3 hw) a11 a12 a13 a14 a15 (Nat.le_of_ble_eq_true rfl) dX3_become_12 (fun h2 eh2 => ?_)
  have H := H h2 eh2
  have wh2 := wf_L eh2 hw
  refine zq_aload_n (k := 1) (i := 1) (x := 7) 1 rfl rfl dX3_become_15 ?_
  refine zq_getP fl_RX3_15 rfl (sh_7 wh2) (rf_7_1 wh2) dX3_become_16 ?_
  refine zq_iconst (v := (nI 0)) rfl dX3_become_19 ?_
  refine zq_aload_n (k := 0) (i := 0) (x := 2) 0 rfl rfl dX3_become_20 ?_
  refine zq_getP fl_RX3_15 rfl (sh_2 wh2) (rf_2_1 wh2) dX3_become_21 ?_
  refine zq_iconst (v := (nI 0)) rfl dX3_become_24 ?_
  refine zq_sipush (v := (nI 1600)) rfl dX3_become_25 ?_
  obtain ⟨⟨a31, a32, a33, a34, a35⟩, H⟩ := H
  refine zq_copyI ac_RX3_89 (sh_9 wh2) (sh_4 wh2) a31 a32 a33 a34 a35 (Nat.le_of_ble_eq_true rfl) dX3_become_28 (fun h4 eh4 => ?_)
  have H := H h4 eh4
  have wh4 := wf_I eh4 wh2
  refine zq_aload_n (k := 0) (i := 0) (x := 2) 0 rfl rfl dX3_become_31 ?_
  refine zq_getP fl_RX3_22 rfl (sh_2 wh4) (rf_2_2 wh4) dX3_become_32 ?_
  refine zq_aload_n (k := 1) (i := 1) (x := 7) 1 rfl rfl dX3_become_35 ?_
  refine zq_getP fl_RX3_22 rfl (sh_7 wh4) (rf_7_2 wh4) dX3_become_36 ?_
  refine zq_invV (as := [.ref 10]) (st := []) (o := 5) (c := 4) (by decide) rfl (sh_5 wh4) in_X5_become se_X5_become mo_X5_become ml_RX3_95 rfl (Nat.le_of_ble_eq_true rfl) dX3_become_39 rfl H (fun r1 h5 hq => ?_)
  obtain ⟨rfl, wh5, H⟩ := hq
  show zQ none m_X3_become (d + 1) 42 [(0, .ref 2), (1, .ref 7)] ([]) h5 Q
  refine zq_aload_n (k := 0) (i := 0) (x := 2) 0 rfl rfl dX3_become_42 ?_
  refine zq_aload_n (k := 1) (i := 1) (x := 7) 1 rfl rfl dX3_become_43 ?_
  refine zq_getI fl_RX3_26 rfl (sh_7 wh5) dX3_become_44 ?_
  refine zq_putI fl_RX3_26 rfl (Or.inl rfl) (sh_2 wh5) rfl rfl dX3_become_47 (fun h6 eh6 => ?_)
  have H := H h6 eh6
  have wh6 := wf_I eh6 wh5
  refine zq_aload_n (k := 0) (i := 0) (x := 2) 0 rfl rfl dX3_become_50 ?_
  refine zq_aload_n (k := 1) (i := 1) (x := 7) 1 rfl rfl dX3_become_51 ?_
  refine zq_getI fl_RX3_30 rfl (sh_7 wh6) dX3_become_52 ?_
  refine zq_putI fl_RX3_30 rfl (Or.inl rfl) (sh_2 wh6) rfl rfl dX3_become_55 (fun h7 eh7 => ?_)
  have H := H h7 eh7
  have wh7 := wf_I eh7 wh6
  refine zq_aload_n (k := 0) (i := 0) (x := 2) 0 rfl rfl dX3_become_58 ?_
  refine zq_aload_n (k := 1) (i := 1) (x := 7) 1 rfl rfl dX3_become_59 ?_
  refine zq_getL fl_RX3_33 rfl (sh_7 wh7) dX3_become_60 ?_
  refine zq_putL fl_RX3_33 rfl (Or.inl rfl) (sh_2 wh7) dX3_become_63 (fun h8 eh8 => ?_)
  have H := H h8 eh8
  have wh8 := wf_L eh8 wh7
  refine zq_aload_n (k := 0) (i := 0) (x := 2) 0 rfl rfl dX3_become_66 ?_
  refine zq_aload_n (k := 1) (i := 1) (x := 7) 1 rfl rfl dX3_become_67 ?_
  refine zq_getL fl_RX3_37 rfl (sh_7 wh8) dX3_become_68 ?_
  refine zq_putL fl_RX3_37 rfl (Or.inl rfl) (sh_2 wh8) dX3_become_71 (fun h9 eh9 => ?_)
  have H := H h9 eh9
  have wh9 := wf_L eh9 wh8
  refine zq_aload_n (k := 0) (i := 0) (x := 2) 0 rfl rfl dX3_become_74 ?_
  refine zq_aload_n (k := 1) (i := 1) (x := 7) 1 rfl rfl dX3_become_75 ?_
  refine zq_getL fl_RX3_40 rfl (sh_7 wh9) dX3_become_76 ?_
  refine zq_putL fl_RX3_40 rfl (Or.inl rfl) (sh_2 wh9) dX3_become_79 (fun h10 eh10 => ?_)
  have H := H h10 eh10
  have wh10 := wf_L eh10 wh9
  refine zq_aload_n (k := 0) (i := 0) (x := 2) 0 rfl rfl dX3_become_82 ?_
  refine zq_aload_n (k := 1) (i := 1) (x := 7) 1 rfl rfl dX3_become_83 ?_
  refine zq_getL fl_RX3_43 rfl (sh_7 wh10) dX3_become_84 ?_
  refine zq_putL fl_RX3_43 rfl (Or.inl rfl) (sh_2 wh10) dX3_become_87 (fun h11 eh11 => ?_)
  have H := H h11 eh11
  have wh11 := wf_L eh11 wh10
  refine zq_aload_n (k := 0) (i := 0) (x := 2) 0 rfl rfl dX3_become_90 ?_
  refine zq_aload_n (k := 1) (i := 1) (x := 7) 1 rfl rfl dX3_become_91 ?_
  refine zq_getL fl_RX3_46 rfl (sh_7 wh11) dX3_become_92 ?_
  refine zq_putL fl_RX3_46 rfl (Or.inl rfl) (sh_2 wh11) dX3_become_95 (fun h12 eh12 => ?_)
  have H := H h12 eh12
  have wh12 := wf_L eh12 wh11
  refine zq_aload_n (k := 0) (i := 0) (x := 2) 0 rfl rfl dX3_become_98 ?_
  refine zq_aload_n (k := 1) (i := 1) (x := 7) 1 rfl rfl dX3_become_99 ?_
  refine zq_getL fl_RX3_49 rfl (sh_7 wh12) dX3_become_100 ?_
  refine zq_putL fl_RX3_49 rfl (Or.inl rfl) (sh_2 wh12) dX3_become_103 (fun h13 eh13 => ?_)
  have H := H h13 eh13
  have wh13 := wf_L eh13 wh12
  exact zq_vret dX3_become_106 rfl H
set_option maxHeartbeats 2000000 in
set_option maxRecDepth 20000 in
theorem r_X3_come_0 {d : Nat} {h : AH} {Q : Option Value → AH → Prop} (i1 : Int32) (i2 : Int32) (i3 : Int32) (hw : zWF h)  (H : vp_in i1 40 ∧ (vp_in i1 40 ∧ (∀ h3, h3 = h.sL 3 i1.toNatClampNeg ((h.L 3 i1.toNatClampNeg) ||| ((1 : Int64) <<< (i2.toInt64 &&& 63))) → vp_in i2 40 ∧ (vp_in i2 40 ∧ (∀ h6, h6 = h3.sL 3 i2.toNatClampNeg ((h3.L 3 i2.toNatClampNeg) ||| ((1 : Int64) <<< (i1.toInt64 &&& 63))) → zK d m_X10_pairOf [.int i1, .int i2] h6 (pI h6 fun x7 => vp_in x7 1600 ∧ (∀ h9, h9 = h6.sI 4 x7.toNatClampNeg i3 → ∀ h10, h10 = h9.sI 2 3 ((h9.I 2 3) + (nI 1)) → ∀ h11, h11 = h10.sL 2 9 ((h10.L 2 9) + (1 : Int64)) → ((h11.I 2 3) ≠ (h11.I 2 4) → zK d m_X3_lookAt [.ref 2, .int (zmmin i1 i2)] h11 (kV fun h13 => zK d m_X3_lookAt [.ref 2, .int (zmmax i1 i2)] h13 (kV fun h14 => Q none h14))) ∧ ((h11.I 2 3) = (h11.I 2 4) → zK d m_X3_rebase [.ref 2, .int ((h11.I 2 4) * (nI 2))] h11 (kV fun h15 => Q none h15))))))))) : zK (d + 1) m_X3_come [.ref 2, .int i1, .int i2, .int i3] h Q := by
  refine zK_of mo_X3_come (Nat.le_of_ble_eq_true rfl) ?_
  show zQ none m_X3_come (d + 1) 0 [(0, .ref 2), (1, .int i1), (2, .int i2), (3, .int i3)] [] h Q
  refine zq_aload_n (k := 0) (i := 0) (x := 2) 0 rfl rfl dX3_come_0 ?_
  refine zq_getP fl_RX3_9 rfl (sh_2 hw) (rf_2_0 hw) dX3_come_1 ?_
  refine zq_iload_n (k := 1) (i := 1) (x := i1) 1 rfl rfl dX3_come_4 ?_
  refine zq_dup2 rfl rfl dX3_come_5 ?_
  obtain ⟨b1, H⟩ := H
  refine zq_lald (sh_3 hw) b1 dX3_come_6 ?_
  refine zq_lconst (v := 1) rfl dX3_come_7 ?_
  refine zq_iload_n (k := 2) (i := 2) (x := i2) 2 rfl rfl dX3_come_8 ?_
  refine zq_lshl dX3_come_9 ?_
  refine zq_lor dX3_come_10 ?_
  obtain ⟨b2, H⟩ := H
  refine zq_last (sh_3 hw) b2 dX3_come_11 (fun h3 eh3 => ?_)
  have H := H h3 eh3
  have wh3 := wf_L eh3 hw
  refine zq_aload_n (k := 0) (i := 0) (x := 2) 0 rfl rfl dX3_come_12 ?_
  refine zq_getP fl_RX3_9 rfl (sh_2 wh3) (rf_2_0 wh3) dX3_come_13 ?_
  refine zq_iload_n (k := 2) (i := 2) (x := i2) 2 rfl rfl dX3_come_16 ?_
  refine zq_dup2 rfl rfl dX3_come_17 ?_
  obtain ⟨b4, H⟩ := H
  refine zq_lald (sh_3 wh3) b4 dX3_come_18 ?_
  refine zq_lconst (v := 1) rfl dX3_come_19 ?_
  refine zq_iload_n (k := 1) (i := 1) (x := i1) 1 rfl rfl dX3_come_20 ?_
  refine zq_lshl dX3_come_21 ?_
  refine zq_lor dX3_come_22 ?_
  obtain ⟨b5, H⟩ := H
  refine zq_last (sh_3 wh3) b5 dX3_come_23 (fun h6 eh6 => ?_)
  have H := H h6 eh6
  have wh6 := wf_L eh6 wh3
  refine zq_aload_n (k := 0) (i := 0) (x := 2) 0 rfl rfl dX3_come_24 ?_
  refine zq_getP fl_RX3_15 rfl (sh_2 wh6) (rf_2_1 wh6) dX3_come_25 ?_
  refine zq_iload_n (k := 1) (i := 1) (x := i1) 1 rfl rfl dX3_come_28 ?_
  refine zq_iload_n (k := 2) (i := 2) (x := i2) 2 rfl rfl dX3_come_29 ?_
  refine zq_invS (as := [.int i1, .int i2]) (st := .ref 4 :: []) st_X10_pairOf mo_X10_pairOf ml_RX3_64 rfl (Nat.le_of_ble_eq_true rfl) dX3_come_30 rfl H (fun r1 h1 hq => ?_)
  obtain ⟨x7, rfl, rfl, H⟩ := hq
  show zQ none m_X3_come (d + 1) 33 [(0, .ref 2), (1, .int i1), (2, .int i2), (3, .int i3)] (.int x7 :: .ref 4 :: []) h6 Q
  refine zq_iload_n (k := 3) (i := 3) (x := i3) 3 rfl rfl dX3_come_33 ?_
  obtain ⟨b8, H⟩ := H
  refine zq_iast (sh_4 wh6) b8 dX3_come_34 (fun h9 eh9 => ?_)
  have H := H h9 eh9
  have wh9 := wf_I eh9 wh6
  refine zq_aload_n (k := 0) (i := 0) (x := 2) 0 rfl rfl dX3_come_35 ?_
  refine zq_dup rfl dX3_come_36 ?_
  refine zq_getI fl_RX3_26 rfl (sh_2 wh9) dX3_come_37 ?_
  refine zq_iconst (v := (nI 1)) rfl dX3_come_40 ?_
  refine zq_iadd dX3_come_41 ?_
  refine zq_putI fl_RX3_26 rfl (Or.inl rfl) (sh_2 wh9) rfl rfl dX3_come_42 (fun h10 eh10 => ?_)
  have H := H h10 eh10
  have wh10 := wf_I eh10 wh9
  refine zq_aload_n (k := 0) (i := 0) (x := 2) 0 rfl rfl dX3_come_45 ?_
  refine zq_dup rfl dX3_come_46 ?_
  refine zq_getL fl_RX3_46 rfl (sh_2 wh10) dX3_come_47 ?_
  refine zq_lconst (v := 1) rfl dX3_come_50 ?_
  refine zq_ladd dX3_come_51 ?_
  refine zq_putL fl_RX3_46 rfl (Or.inl rfl) (sh_2 wh10) dX3_come_52 (fun h11 eh11 => ?_)
  have H := H h11 eh11
  have wh11 := wf_L eh11 wh10
  refine zq_aload_n (k := 0) (i := 0) (x := 2) 0 rfl rfl dX3_come_55 ?_
  refine zq_getI fl_RX3_26 rfl (sh_2 wh11) dX3_come_56 ?_
  refine zq_aload_n (k := 0) (i := 0) (x := 2) 0 rfl rfl dX3_come_59 ?_
  refine zq_getI fl_RX3_30 rfl (sh_2 wh11) dX3_come_60 ?_
  refine zq_icmp_ne (tgt := 79) dX3_come_63 rfl ⟨fun c12 => ?_, fun c12 => ?_⟩
  · have H := H.1 c12
    refine zq_aload_n (k := 0) (i := 0) (x := 2) 0 rfl rfl dX3_come_79 ?_
    refine zq_iload_n (k := 1) (i := 1) (x := i1) 1 rfl rfl dX3_come_80 ?_
    refine zq_iload_n (k := 2) (i := 2) (x := i2) 2 rfl rfl dX3_come_81 ?_
    refine zq_mmin mm_RX3_103 (Nat.le_of_ble_eq_true rfl) dX3_come_82 ?_
    refine zq_invV (as := [.int (zmmin i1 i2)]) (st := []) (o := 2) (c := 2) (by decide) rfl (sh_2 wh11) in_X3_lookAt se_X3_lookAt mo_X3_lookAt ml_RX3_108 rfl (Nat.le_of_ble_eq_true rfl) dX3_come_85 rfl H (fun r1 h13 hq => ?_)
    obtain ⟨rfl, wh13, H⟩ := hq
    show zQ none m_X3_come (d + 1) 88 [(0, .ref 2), (1, .int i1), (2, .int i2), (3, .int i3)] ([]) h13 Q
    refine zq_aload_n (k := 0) (i := 0) (x := 2) 0 rfl rfl dX3_come_88 ?_
    refine zq_iload_n (k := 1) (i := 1) (x := i1) 1 rfl rfl dX3_come_89 ?_
    refine zq_iload_n (k := 2) (i := 2) (x := i2) 2 rfl rfl dX3_come_90 ?_
    refine zq_mmax mm_RX3_111 (Nat.le_of_ble_eq_true rfl) dX3_come_91 ?_
    refine zq_invV (as := [.int (zmmax i1 i2)]) (st := []) (o := 2) (c := 2) (by decide) rfl (sh_2 wh13) in_X3_lookAt se_X3_lookAt mo_X3_lookAt ml_RX3_108 rfl (Nat.le_of_ble_eq_true rfl) dX3_come_94 rfl H (fun r1 h14 hq => ?_)
    obtain ⟨rfl, wh14, H⟩ := hq
    show zQ none m_X3_come (d + 1) 97 [(0, .ref 2), (1, .int i1), (2, .int i2), (3, .int i3)] ([]) h14 Q
    exact zq_vret dX3_come_97 rfl H
  · have H := H.2 c12
    refine zq_aload_n (k := 0) (i := 0) (x := 2) 0 rfl rfl dX3_come_66 ?_
    refine zq_aload_n (k := 0) (i := 0) (x := 2) 0 rfl rfl dX3_come_67 ?_
    refine zq_getI fl_RX3_30 rfl (sh_2 wh11) dX3_come_68 ?_
    refine zq_iconst (v := (nI 2)) rfl dX3_come_71 ?_
    refine zq_imul dX3_come_72 ?_
    refine zq_invV (as := [.int ((h11.I 2 4) * (nI 2))]) (st := []) (o := 2) (c := 2) (by decide) rfl (sh_2 wh11) in_X3_rebase se_X3_rebase mo_X3_rebase ml_RX3_99 rfl (Nat.le_of_ble_eq_true rfl) dX3_come_73 rfl H (fun r1 h15 hq => ?_)
    obtain ⟨rfl, wh15, H⟩ := hq
    show zQ none m_X3_come (d + 1) 76 [(0, .ref 2), (1, .int i1), (2, .int i2), (3, .int i3)] ([]) h15 Q
    refine zq_goto (tgt := 97) dX3_come_76 rfl ?_
    exact zq_vret dX3_come_97 rfl H
set_option maxHeartbeats 2000000 in
set_option maxRecDepth 20000 in
theorem r_X3_go_0 {d : Nat} {h : AH} {Q : Option Value → AH → Prop} (i1 : Int32) (i2 : Int32) (hw : zWF h)  (H : vp_in i1 40 ∧ (vp_in i1 40 ∧ (∀ h3, h3 = h.sL 3 i1.toNatClampNeg ((h.L 3 i1.toNatClampNeg) &&& (((1 : Int64) <<< (i2.toInt64 &&& 63)) ^^^ (-1 : Int64))) → vp_in i2 40 ∧ (vp_in i2 40 ∧ (∀ h6, h6 = h3.sL 3 i2.toNatClampNeg ((h3.L 3 i2.toNatClampNeg) &&& (((1 : Int64) <<< (i1.toInt64 &&& 63)) ^^^ (-1 : Int64))) → ∀ h7, h7 = h6.sI 2 3 ((h6.I 2 3) - (nI 1)) → ∀ h8, h8 = h7.sL 2 9 ((h7.L 2 9) + (1 : Int64)) → (((h8.I 2 4) / (nI 4)) ≤ (h8.I 2 3) → zK d m_X3_lookAt [.ref 2, .int (zmmin i1 i2)] h8 (kV fun h10 => zK d m_X3_lookAt [.ref 2, .int (zmmax i1 i2)] h10 (kV fun h11 => Q none h11))) ∧ (¬ ((h8.I 2 4) / (nI 4)) ≤ (h8.I 2 3) → zK d m_X3_rebase [.ref 2, .int (zmmax (nI 1) (((h8.I 2 4) / (nI 2)) - (nI 1)))] h8 (kV fun h12 => Q none h12))))))) : zK (d + 1) m_X3_go [.ref 2, .int i1, .int i2] h Q := by
  refine zK_of mo_X3_go (Nat.le_of_ble_eq_true rfl) ?_
  show zQ none m_X3_go (d + 1) 0 [(0, .ref 2), (1, .int i1), (2, .int i2)] [] h Q
  refine zq_aload_n (k := 0) (i := 0) (x := 2) 0 rfl rfl dX3_go_0 ?_
  refine zq_getP fl_RX3_9 rfl (sh_2 hw) (rf_2_0 hw) dX3_go_1 ?_
  refine zq_iload_n (k := 1) (i := 1) (x := i1) 1 rfl rfl dX3_go_4 ?_
  refine zq_dup2 rfl rfl dX3_go_5 ?_
  obtain ⟨b1, H⟩ := H
  refine zq_lald (sh_3 hw) b1 dX3_go_6 ?_
  refine zq_lconst (v := 1) rfl dX3_go_7 ?_
  refine zq_iload_n (k := 2) (i := 2) (x := i2) 2 rfl rfl dX3_go_8 ?_
  refine zq_lshl dX3_go_9 ?_
  refine zq_ldc2 (v := (-1)) cl_RX3_114 dX3_go_10 ?_
  refine zq_lxor dX3_go_13 ?_
  refine zq_land dX3_go_14 ?_
  obtain ⟨b2, H⟩ := H
  refine zq_last (sh_3 hw) b2 dX3_go_15 (fun h3 eh3 => ?_)
  have H := H h3 eh3
  have wh3 := wf_L eh3 hw
  refine zq_aload_n (k := 0) (i := 0) (x := 2) 0 rfl rfl dX3_go_16 ?_
  refine zq_getP fl_RX3_9 rfl (sh_2 wh3) (rf_2_0 wh3) dX3_go_17 ?_
  refine zq_iload_n (k := 2) (i := 2) (x := i2) 2 rfl rfl dX3_go_20 ?_
  refine zq_dup2 rfl rfl dX3_go_21 ?_
  obtain ⟨b4, H⟩ := H
  refine zq_lald (sh_3 wh3) b4 dX3_go_22 ?_
  refine zq_lconst (v := 1) rfl dX3_go_23 ?_
  refine zq_iload_n (k := 1) (i := 1) (x := i1) 1 rfl rfl dX3_go_24 ?_
  refine zq_lshl dX3_go_25 ?_
  refine zq_ldc2 (v := (-1)) cl_RX3_114 dX3_go_26 ?_
  refine zq_lxor dX3_go_29 ?_
  refine zq_land dX3_go_30 ?_
  obtain ⟨b5, H⟩ := H
  refine zq_last (sh_3 wh3) b5 dX3_go_31 (fun h6 eh6 => ?_)
  have H := H h6 eh6
  have wh6 := wf_L eh6 wh3
  refine zq_aload_n (k := 0) (i := 0) (x := 2) 0 rfl rfl dX3_go_32 ?_
  refine zq_dup rfl dX3_go_33 ?_
  refine zq_getI fl_RX3_26 rfl (sh_2 wh6) dX3_go_34 ?_
  refine zq_iconst (v := (nI 1)) rfl dX3_go_37 ?_
  refine zq_isub dX3_go_38 ?_
  refine zq_putI fl_RX3_26 rfl (Or.inl rfl) (sh_2 wh6) rfl rfl dX3_go_39 (fun h7 eh7 => ?_)
  have H := H h7 eh7
  have wh7 := wf_I eh7 wh6
  refine zq_aload_n (k := 0) (i := 0) (x := 2) 0 rfl rfl dX3_go_42 ?_
  refine zq_dup rfl dX3_go_43 ?_
  refine zq_getL fl_RX3_46 rfl (sh_2 wh7) dX3_go_44 ?_
  refine zq_lconst (v := 1) rfl dX3_go_47 ?_
  refine zq_ladd dX3_go_48 ?_
  refine zq_putL fl_RX3_46 rfl (Or.inl rfl) (sh_2 wh7) dX3_go_49 (fun h8 eh8 => ?_)
  have H := H h8 eh8
  have wh8 := wf_L eh8 wh7
  refine zq_aload_n (k := 0) (i := 0) (x := 2) 0 rfl rfl dX3_go_52 ?_
  refine zq_getI fl_RX3_26 rfl (sh_2 wh8) dX3_go_53 ?_
  refine zq_aload_n (k := 0) (i := 0) (x := 2) 0 rfl rfl dX3_go_56 ?_
  refine zq_getI fl_RX3_30 rfl (sh_2 wh8) dX3_go_57 ?_
  refine zq_iconst (v := (nI 4)) rfl dX3_go_60 ?_
  refine zq_idiv (by decide) dX3_go_61 ?_
  refine zq_icmp_ge (tgt := 84) dX3_go_62 rfl ⟨fun c9 => ?_, fun c9 => ?_⟩
  · have H := H.1 c9
    refine zq_aload_n (k := 0) (i := 0) (x := 2) 0 rfl rfl dX3_go_84 ?_
    refine zq_iload_n (k := 1) (i := 1) (x := i1) 1 rfl rfl dX3_go_85 ?_
    refine zq_iload_n (k := 2) (i := 2) (x := i2) 2 rfl rfl dX3_go_86 ?_
    refine zq_mmin mm_RX3_103 (Nat.le_of_ble_eq_true rfl) dX3_go_87 ?_
    refine zq_invV (as := [.int (zmmin i1 i2)]) (st := []) (o := 2) (c := 2) (by decide) rfl (sh_2 wh8) in_X3_lookAt se_X3_lookAt mo_X3_lookAt ml_RX3_108 rfl (Nat.le_of_ble_eq_true rfl) dX3_go_90 rfl H (fun r1 h10 hq => ?_)
    obtain ⟨rfl, wh10, H⟩ := hq
    show zQ none m_X3_go (d + 1) 93 [(0, .ref 2), (1, .int i1), (2, .int i2)] ([]) h10 Q
    refine zq_aload_n (k := 0) (i := 0) (x := 2) 0 rfl rfl dX3_go_93 ?_
    refine zq_iload_n (k := 1) (i := 1) (x := i1) 1 rfl rfl dX3_go_94 ?_
    refine zq_iload_n (k := 2) (i := 2) (x := i2) 2 rfl rfl dX3_go_95 ?_
    refine zq_mmax mm_RX3_111 (Nat.le_of_ble_eq_true rfl) dX3_go_96 ?_
    refine zq_invV (as := [.int (zmmax i1 i2)]) (st := []) (o := 2) (c := 2) (by decide) rfl (sh_2 wh10) in_X3_lookAt se_X3_lookAt mo_X3_lookAt ml_RX3_108 rfl (Nat.le_of_ble_eq_true rfl) dX3_go_99 rfl H (fun r1 h11 hq => ?_)
    obtain ⟨rfl, wh11, H⟩ := hq
    show zQ none m_X3_go (d + 1) 102 [(0, .ref 2), (1, .int i1), (2, .int i2)] ([]) h11 Q
    exact zq_vret dX3_go_102 rfl H
  · have H := H.2 c9
    refine zq_aload_n (k := 0) (i := 0) (x := 2) 0 rfl rfl dX3_go_65 ?_
    refine zq_iconst (v := (nI 1)) rfl dX3_go_66 ?_
    refine zq_aload_n (k := 0) (i := 0) (x := 2) 0 rfl rfl dX3_go_67 ?_
    refine zq_getI fl_RX3_30 rfl (sh_2 wh8) dX3_go_68 ?_
    refine zq_iconst (v := (nI 2)) rfl dX3_go_71 ?_
    refine zq_idiv (by decide) dX3_go_72 ?_
    refine zq_iconst (v := (nI 1)) rfl dX3_go_73 ?_
    refine zq_isub dX3_go_74 ?_
    refine zq_mmax mm_RX3_111 (Nat.le_of_ble_eq_true rfl) dX3_go_75 ?_
    refine zq_invV (as := [.int (zmmax (nI 1) (((h8.I 2 4) / (nI 2)) - (nI 1)))]) (st := []) (o := 2) (c := 2) (by decide) rfl (sh_2 wh8) in_X3_rebase se_X3_rebase mo_X3_rebase ml_RX3_99 rfl (Nat.le_of_ble_eq_true rfl) dX3_go_78 rfl H (fun r1 h12 hq => ?_)
    obtain ⟨rfl, wh12, H⟩ := hq
    show zQ none m_X3_go (d + 1) 81 [(0, .ref 2), (1, .int i1), (2, .int i2)] ([]) h12 Q
    refine zq_goto (tgt := 102) dX3_go_81 rfl ?_
    exact zq_vret dX3_go_102 rfl H
set_option maxHeartbeats 2000000 in
set_option maxRecDepth 20000 in
theorem r_X3_rebase_0 {d : Nat} {h : AH} {Q : Option Value → AH → Prop} (i1 : Int32) (hw : zWF h)  (H : ∀ h1, h1 = h.sI 2 4 i1 → ∀ h2, h2 = h1.sL 2 5 (0 : Int64) → ∀ h3, h3 = h2.sL 2 8 ((h2.L 2 8) + (1 : Int64)) → zK d m_X3_bound [.ref 2] h3 (pI h3 fun x4 => zQ none m_X3_rebase (d + 1) 27 [(0, .ref 2), (2, .int x4), (3, .int (nI 0))] [] h3 Q)) : zK (d + 1) m_X3_rebase [.ref 2, .int i1] h Q := by
  refine zK_of mo_X3_rebase (Nat.le_of_ble_eq_true rfl) ?_
  show zQ none m_X3_rebase (d + 1) 0 [(0, .ref 2), (1, .int i1)] [] h Q
  refine zq_aload_n (k := 0) (i := 0) (x := 2) 0 rfl rfl dX3_rebase_0 ?_
  refine zq_iload_n (k := 1) (i := 1) (x := i1) 1 rfl rfl dX3_rebase_1 ?_
  refine zq_putI fl_RX3_30 rfl (Or.inl rfl) (sh_2 hw) rfl rfl dX3_rebase_2 (fun h1 eh1 => ?_)
  have H := H h1 eh1
  have wh1 := wf_I eh1 hw
  refine zq_aload_n (k := 0) (i := 0) (x := 2) 0 rfl rfl dX3_rebase_5 ?_
  refine zq_lconst (v := 0) rfl dX3_rebase_6 ?_
  refine zq_putL fl_RX3_33 rfl (Or.inl rfl) (sh_2 wh1) dX3_rebase_7 (fun h2 eh2 => ?_)
  have H := H h2 eh2
  have wh2 := wf_L eh2 wh1
  refine zq_aload_n (k := 0) (i := 0) (x := 2) 0 rfl rfl dX3_rebase_10 ?_
  refine zq_dup rfl dX3_rebase_11 ?_
  refine zq_getL fl_RX3_43 rfl (sh_2 wh2) dX3_rebase_12 ?_
  refine zq_lconst (v := 1) rfl dX3_rebase_15 ?_
  refine zq_ladd dX3_rebase_16 ?_
  refine zq_putL fl_RX3_43 rfl (Or.inl rfl) (sh_2 wh2) dX3_rebase_17 (fun h3 eh3 => ?_)
  have H := H h3 eh3
  have wh3 := wf_L eh3 wh2
  refine zq_aload_n (k := 0) (i := 0) (x := 2) 0 rfl rfl dX3_rebase_20 ?_
  refine zq_invV (as := []) (st := []) (o := 2) (c := 2) (by decide) rfl (sh_2 wh3) in_X3_bound se_X3_bound mo_X3_bound ml_RX3_116 rfl (Nat.le_of_ble_eq_true rfl) dX3_rebase_21 rfl H (fun r1 h1 hq => ?_)
  obtain ⟨x4, rfl, rfl, H⟩ := hq
  show zQ none m_X3_rebase (d + 1) 24 [(0, .ref 2), (1, .int i1)] (.int x4 :: []) h3 Q
  refine zq_istore_n (ls' := [(2, .int x4), (0, .ref 2), (1, .int i1)]) (k := 2) (i := 2) rfl (Nat.le_of_ble_eq_true rfl) rfl dX3_rebase_24 ?_
  refine zq_iconst (v := (nI 0)) rfl dX3_rebase_25 ?_
  refine zq_istore_n (ls' := [(3, .int (nI 0)), (2, .int x4), (0, .ref 2), (1, .int i1)]) (k := 3) (i := 3) rfl (Nat.le_of_ble_eq_true rfl) rfl dX3_rebase_26 ?_
  exact zq_sub (ls' := [(0, .ref 2), (2, .int x4), (3, .int (nI 0))]) [2, 1, 0] rfl H
set_option maxHeartbeats 2000000 in
set_option maxRecDepth 20000 in
theorem r_X3_rebase_27 {d : Nat} {h : AH} {Q : Option Value → AH → Prop} (i2 : Int32) (i3 : Int32) (hw : zWF h)  (H : ((nI 40) ≤ i3 → Q none h) ∧ (¬ (nI 40) ≤ i3 → zK d m_X2_degree [.ref 3, .int i3] h (pI h fun x2 => (x2 < i2 → zQ none m_X3_rebase (d + 1) 27 [(0, .ref 2), (2, .int i2), (3, .int (i3 + (nI 1)))] [] h Q) ∧ (¬ x2 < i2 → ∀ h4, h4 = h.sL 2 5 ((h.L 2 5) ||| ((1 : Int64) <<< (i3.toInt64 &&& 63))) → zQ none m_X3_rebase (d + 1) 27 [(0, .ref 2), (2, .int i2), (3, .int (i3 + (nI 1)))] [] h4 Q)))) : zQ none m_X3_rebase (d + 1) 27 [(0, .ref 2), (2, .int i2), (3, .int i3)] [] h Q := by
  refine zq_iload_n (k := 3) (i := 3) (x := i3) 2 rfl rfl dX3_rebase_27 ?_
  refine zq_bipush (v := (nI 40)) rfl dX3_rebase_28 ?_
  refine zq_icmp_ge (tgt := 63) dX3_rebase_30 rfl ⟨fun c1 => ?_, fun c1 => ?_⟩
  · have H := H.1 c1
    exact zq_vret dX3_rebase_63 rfl H
  · have H := H.2 c1
    refine zq_aload_n (k := 0) (i := 0) (x := 2) 0 rfl rfl dX3_rebase_33 ?_
    refine zq_getP fl_RX3_9 rfl (sh_2 hw) (rf_2_0 hw) dX3_rebase_34 ?_
    refine zq_iload_n (k := 3) (i := 3) (x := i3) 2 rfl rfl dX3_rebase_37 ?_
    refine zq_invS (as := [.ref 3, .int i3]) (st := []) st_X2_degree mo_X2_degree ml_RX3_120 rfl (Nat.le_of_ble_eq_true rfl) dX3_rebase_38 rfl H (fun r1 h1 hq => ?_)
    obtain ⟨x2, rfl, rfl, H⟩ := hq
    show zQ none m_X3_rebase (d + 1) 41 [(0, .ref 2), (2, .int i2), (3, .int i3)] (.int x2 :: []) h Q
    refine zq_iload_n (k := 2) (i := 2) (x := i2) 1 rfl rfl dX3_rebase_41 ?_
    refine zq_icmp_lt (tgt := 57) dX3_rebase_42 rfl ⟨fun c3 => ?_, fun c3 => ?_⟩
    · have H := H.1 c3
      refine zq_iinc (i := 3) (x := i3) (v := (nI 1)) (ls' := [(3, .int (i3 + (nI 1))), (0, .ref 2), (2, .int i2)]) 2 rfl rfl (Nat.le_of_ble_eq_true rfl) rfl dX3_rebase_57 ?_
      refine zq_goto (tgt := 27) dX3_rebase_60 rfl ?_
      exact zq_sub (ls' := [(0, .ref 2), (2, .int i2), (3, .int (i3 + (nI 1)))]) [1, 2, 0] rfl H
    · have H := H.2 c3
      refine zq_aload_n (k := 0) (i := 0) (x := 2) 0 rfl rfl dX3_rebase_45 ?_
      refine zq_dup rfl dX3_rebase_46 ?_
      refine zq_getL fl_RX3_33 rfl (sh_2 hw) dX3_rebase_47 ?_
      refine zq_lconst (v := 1) rfl dX3_rebase_50 ?_
      refine zq_iload_n (k := 3) (i := 3) (x := i3) 2 rfl rfl dX3_rebase_51 ?_
      refine zq_lshl dX3_rebase_52 ?_
      refine zq_lor dX3_rebase_53 ?_
      refine zq_putL fl_RX3_33 rfl (Or.inl rfl) (sh_2 hw) dX3_rebase_54 (fun h4 eh4 => ?_)
      have H := H h4 eh4
      have wh4 := wf_L eh4 hw
      refine zq_iinc (i := 3) (x := i3) (v := (nI 1)) (ls' := [(3, .int (i3 + (nI 1))), (0, .ref 2), (2, .int i2)]) 2 rfl rfl (Nat.le_of_ble_eq_true rfl) rfl dX3_rebase_57 ?_
      refine zq_goto (tgt := 27) dX3_rebase_60 rfl ?_
      exact zq_sub (ls' := [(0, .ref 2), (2, .int i2), (3, .int (i3 + (nI 1)))]) [1, 2, 0] rfl H
set_option maxHeartbeats 2000000 in
set_option maxRecDepth 20000 in
theorem r_X3_lookAt_0 {d : Nat} {h : AH} {Q : Option Value → AH → Prop} (i1 : Int32) (hw : zWF h)  (H : zK d m_X2_degree [.ref 3, .int i1] h (pI h fun x1 => zK d m_X3_bound [.ref 2] h (pI h fun x2 => zK d m_X3_isHeavy [.ref 2, .int i1] h (pI h fun x3 => (x3 = 0 → (((nI 2) * x1) < ((nI 3) * x2) → ((nI 0) = 0 → Q none h) ∧ (¬ (nI 0) = 0 → ∀ h7, h7 = h.sL 2 5 ((h.L 2 5) ^^^ ((1 : Int64) <<< (i1.toInt64 &&& 63))) → ∀ h8, h8 = h7.sL 2 6 ((h7.L 2 6) + (1 : Int64)) → ∀ h9, h9 = h8.sL 2 7 ((h8.L 2 7) + x1.toInt64) → Q none h9)) ∧ (¬ ((nI 2) * x1) < ((nI 3) * x2) → ((nI 1) = 0 → Q none h) ∧ (¬ (nI 1) = 0 → ∀ h11, h11 = h.sL 2 5 ((h.L 2 5) ^^^ ((1 : Int64) <<< (i1.toInt64 &&& 63))) → ∀ h12, h12 = h11.sL 2 6 ((h11.L 2 6) + (1 : Int64)) → ∀ h13, h13 = h12.sL 2 7 ((h12.L 2 7) + x1.toInt64) → Q none h13))) ∧ (¬ x3 = 0 → (x2 ≤ ((nI 2) * x1) → ((nI 0) = 0 → Q none h) ∧ (¬ (nI 0) = 0 → ∀ h16, h16 = h.sL 2 5 ((h.L 2 5) ^^^ ((1 : Int64) <<< (i1.toInt64 &&& 63))) → ∀ h17, h17 = h16.sL 2 6 ((h16.L 2 6) + (1 : Int64)) → ∀ h18, h18 = h17.sL 2 7 ((h17.L 2 7) + x1.toInt64) → Q none h18)) ∧ (¬ x2 ≤ ((nI 2) * x1) → ((nI 1) = 0 → Q none h) ∧ (¬ (nI 1) = 0 → ∀ h20, h20 = h.sL 2 5 ((h.L 2 5) ^^^ ((1 : Int64) <<< (i1.toInt64 &&& 63))) → ∀ h21, h21 = h20.sL 2 6 ((h20.L 2 6) + (1 : Int64)) → ∀ h22, h22 = h21.sL 2 7 ((h21.L 2 7) + x1.toInt64) → Q none h22))))))) : zK (d + 1) m_X3_lookAt [.ref 2, .int i1] h Q := by
  refine zK_of mo_X3_lookAt (Nat.le_of_ble_eq_true rfl) ?_
  show zQ none m_X3_lookAt (d + 1) 0 [(0, .ref 2), (1, .int i1)] [] h Q
  refine zq_aload_n (k := 0) (i := 0) (x := 2) 0 rfl rfl dX3_lookAt_0 ?_
  refine zq_getP fl_RX3_9 rfl (sh_2 hw) (rf_2_0 hw) dX3_lookAt_1 ?_
  refine zq_iload_n (k := 1) (i := 1) (x := i1) 1 rfl rfl dX3_lookAt_4 ?_
  refine zq_invS (as := [.ref 3, .int i1]) (st := []) st_X2_degree mo_X2_degree ml_RX3_120 rfl (Nat.le_of_ble_eq_true rfl) dX3_lookAt_5 rfl H (fun r1 h1 hq => ?_)
  obtain ⟨x1, rfl, rfl, H⟩ := hq
  show zQ none m_X3_lookAt (d + 1) 8 [(0, .ref 2), (1, .int i1)] (.int x1 :: []) h Q
  refine zq_istore_n (ls' := [(2, .int x1), (0, .ref 2), (1, .int i1)]) (k := 2) (i := 2) rfl (Nat.le_of_ble_eq_true rfl) rfl dX3_lookAt_8 ?_
  refine zq_aload_n (k := 0) (i := 0) (x := 2) 1 rfl rfl dX3_lookAt_9 ?_
  refine zq_invV (as := []) (st := []) (o := 2) (c := 2) (by decide) rfl (sh_2 hw) in_X3_bound se_X3_bound mo_X3_bound ml_RX3_116 rfl (Nat.le_of_ble_eq_true rfl) dX3_lookAt_10 rfl H (fun r1 h1 hq => ?_)
  obtain ⟨x2, rfl, rfl, H⟩ := hq
  show zQ none m_X3_lookAt (d + 1) 13 [(2, .int x1), (0, .ref 2), (1, .int i1)] (.int x2 :: []) h Q
  refine zq_istore_n (ls' := [(3, .int x2), (2, .int x1), (0, .ref 2), (1, .int i1)]) (k := 3) (i := 3) rfl (Nat.le_of_ble_eq_true rfl) rfl dX3_lookAt_13 ?_
  refine zq_aload_n (k := 0) (i := 0) (x := 2) 2 rfl rfl dX3_lookAt_14 ?_
  refine zq_iload_n (k := 1) (i := 1) (x := i1) 3 rfl rfl dX3_lookAt_15 ?_
  refine zq_invV (as := [.int i1]) (st := []) (o := 2) (c := 2) (by decide) rfl (sh_2 hw) in_X3_isHeavy se_X3_isHeavy mo_X3_isHeavy ml_RX3_126 rfl (Nat.le_of_ble_eq_true rfl) dX3_lookAt_16 rfl H (fun r1 h1 hq => ?_)
  obtain ⟨x3, rfl, rfl, H⟩ := hq
  show zQ none m_X3_lookAt (d + 1) 19 [(3, .int x2), (2, .int x1), (0, .ref 2), (1, .int i1)] (.int x3 :: []) h Q
  refine zq_if_eq (tgt := 37) dX3_lookAt_19 rfl ⟨fun c4 => ?_, fun c4 => ?_⟩
  · have H := H.1 c4
    refine zq_iconst (v := (nI 2)) rfl dX3_lookAt_37 ?_
    refine zq_iload_n (k := 2) (i := 2) (x := x1) 1 rfl rfl dX3_lookAt_38 ?_
    refine zq_imul dX3_lookAt_39 ?_
    refine zq_iconst (v := (nI 3)) rfl dX3_lookAt_40 ?_
    refine zq_iload_n (k := 3) (i := 3) (x := x2) 0 rfl rfl dX3_lookAt_41 ?_
    refine zq_imul dX3_lookAt_42 ?_
    refine zq_icmp_lt (tgt := 50) dX3_lookAt_43 rfl ⟨fun c5 => ?_, fun c5 => ?_⟩
    · have H := H.1 c5
      refine zq_iconst (v := (nI 0)) rfl dX3_lookAt_50 ?_
      refine zq_istore (ls' := [(4, .int (nI 0)), (3, .int x2), (2, .int x1), (0, .ref 2), (1, .int i1)]) (i := 4) (Nat.le_of_ble_eq_true rfl) rfl dX3_lookAt_51 ?_
      refine zq_iload (i := 4) (x := (nI 0)) 0 rfl dX3_lookAt_53 ?_
      refine zq_if_eq (tgt := 91) dX3_lookAt_55 rfl ⟨fun c6 => ?_, fun c6 => ?_⟩
      · have H := H.1 c6
        exact zq_vret dX3_lookAt_91 rfl H
      · have H := H.2 c6
        refine zq_aload_n (k := 0) (i := 0) (x := 2) 3 rfl rfl dX3_lookAt_58 ?_
        refine zq_dup rfl dX3_lookAt_59 ?_
        refine zq_getL fl_RX3_33 rfl (sh_2 hw) dX3_lookAt_60 ?_
        refine zq_lconst (v := 1) rfl dX3_lookAt_63 ?_
        refine zq_iload_n (k := 1) (i := 1) (x := i1) 4 rfl rfl dX3_lookAt_64 ?_
        refine zq_lshl dX3_lookAt_65 ?_
        refine zq_lxor dX3_lookAt_66 ?_
        refine zq_putL fl_RX3_33 rfl (Or.inl rfl) (sh_2 hw) dX3_lookAt_67 (fun h7 eh7 => ?_)
        have H := H h7 eh7
        have wh7 := wf_L eh7 hw
        refine zq_aload_n (k := 0) (i := 0) (x := 2) 3 rfl rfl dX3_lookAt_70 ?_
        refine zq_dup rfl dX3_lookAt_71 ?_
        refine zq_getL fl_RX3_37 rfl (sh_2 wh7) dX3_lookAt_72 ?_
        refine zq_lconst (v := 1) rfl dX3_lookAt_75 ?_
        refine zq_ladd dX3_lookAt_76 ?_
        refine zq_putL fl_RX3_37 rfl (Or.inl rfl) (sh_2 wh7) dX3_lookAt_77 (fun h8 eh8 => ?_)
        have H := H h8 eh8
        have wh8 := wf_L eh8 wh7
        refine zq_aload_n (k := 0) (i := 0) (x := 2) 3 rfl rfl dX3_lookAt_80 ?_
        refine zq_dup rfl dX3_lookAt_81 ?_
        refine zq_getL fl_RX3_40 rfl (sh_2 wh8) dX3_lookAt_82 ?_
        refine zq_iload_n (k := 2) (i := 2) (x := x1) 2 rfl rfl dX3_lookAt_85 ?_
        refine zq_i2l dX3_lookAt_86 ?_
        refine zq_ladd dX3_lookAt_87 ?_
        refine zq_putL fl_RX3_40 rfl (Or.inl rfl) (sh_2 wh8) dX3_lookAt_88 (fun h9 eh9 => ?_)
        have H := H h9 eh9
        have wh9 := wf_L eh9 wh8
        exact zq_vret dX3_lookAt_91 rfl H
    · have H := H.2 c5
      refine zq_iconst (v := (nI 1)) rfl dX3_lookAt_46 ?_
      refine zq_goto (tgt := 51) dX3_lookAt_47 rfl ?_
      refine zq_istore (ls' := [(4, .int (nI 1)), (3, .int x2), (2, .int x1), (0, .ref 2), (1, .int i1)]) (i := 4) (Nat.le_of_ble_eq_true rfl) rfl dX3_lookAt_51 ?_
      refine zq_iload (i := 4) (x := (nI 1)) 0 rfl dX3_lookAt_53 ?_
      refine zq_if_eq (tgt := 91) dX3_lookAt_55 rfl ⟨fun c10 => ?_, fun c10 => ?_⟩
      · have H := H.1 c10
        exact zq_vret dX3_lookAt_91 rfl H
      · have H := H.2 c10
        refine zq_aload_n (k := 0) (i := 0) (x := 2) 3 rfl rfl dX3_lookAt_58 ?_
        refine zq_dup rfl dX3_lookAt_59 ?_
        refine zq_getL fl_RX3_33 rfl (sh_2 hw) dX3_lookAt_60 ?_
        refine zq_lconst (v := 1) rfl dX3_lookAt_63 ?_
        refine zq_iload_n (k := 1) (i := 1) (x := i1) 4 rfl rfl dX3_lookAt_64 ?_
        refine zq_lshl dX3_lookAt_65 ?_
        refine zq_lxor dX3_lookAt_66 ?_
        refine zq_putL fl_RX3_33 rfl (Or.inl rfl) (sh_2 hw) dX3_lookAt_67 (fun h11 eh11 => ?_)
        have H := H h11 eh11
        have wh11 := wf_L eh11 hw
        refine zq_aload_n (k := 0) (i := 0) (x := 2) 3 rfl rfl dX3_lookAt_70 ?_
        refine zq_dup rfl dX3_lookAt_71 ?_
        refine zq_getL fl_RX3_37 rfl (sh_2 wh11) dX3_lookAt_72 ?_
        refine zq_lconst (v := 1) rfl dX3_lookAt_75 ?_
        refine zq_ladd dX3_lookAt_76 ?_
        refine zq_putL fl_RX3_37 rfl (Or.inl rfl) (sh_2 wh11) dX3_lookAt_77 (fun h12 eh12 => ?_)
        have H := H h12 eh12
        have wh12 := wf_L eh12 wh11
        refine zq_aload_n (k := 0) (i := 0) (x := 2) 3 rfl rfl dX3_lookAt_80 ?_
        refine zq_dup rfl dX3_lookAt_81 ?_
        refine zq_getL fl_RX3_40 rfl (sh_2 wh12) dX3_lookAt_82 ?_
        refine zq_iload_n (k := 2) (i := 2) (x := x1) 2 rfl rfl dX3_lookAt_85 ?_
        refine zq_i2l dX3_lookAt_86 ?_
        refine zq_ladd dX3_lookAt_87 ?_
        refine zq_putL fl_RX3_40 rfl (Or.inl rfl) (sh_2 wh12) dX3_lookAt_88 (fun h13 eh13 => ?_)
        have H := H h13 eh13
        have wh13 := wf_L eh13 wh12
        exact zq_vret dX3_lookAt_91 rfl H
  · have H := H.2 c4
    refine zq_iconst (v := (nI 2)) rfl dX3_lookAt_22 ?_
    refine zq_iload_n (k := 2) (i := 2) (x := x1) 1 rfl rfl dX3_lookAt_23 ?_
    refine zq_imul dX3_lookAt_24 ?_
    refine zq_iload_n (k := 3) (i := 3) (x := x2) 0 rfl rfl dX3_lookAt_25 ?_
    refine zq_icmp_ge (tgt := 33) dX3_lookAt_26 rfl ⟨fun c14 => ?_, fun c14 => ?_⟩
    · have H := H.1 c14
      refine zq_iconst (v := (nI 0)) rfl dX3_lookAt_33 ?_
      refine zq_goto (tgt := 51) dX3_lookAt_34 rfl ?_
      refine zq_istore (ls' := [(4, .int (nI 0)), (3, .int x2), (2, .int x1), (0, .ref 2), (1, .int i1)]) (i := 4) (Nat.le_of_ble_eq_true rfl) rfl dX3_lookAt_51 ?_
      refine zq_iload (i := 4) (x := (nI 0)) 0 rfl dX3_lookAt_53 ?_
      refine zq_if_eq (tgt := 91) dX3_lookAt_55 rfl ⟨fun c15 => ?_, fun c15 => ?_⟩
      · have H := H.1 c15
        exact zq_vret dX3_lookAt_91 rfl H
      · have H := H.2 c15
        refine zq_aload_n (k := 0) (i := 0) (x := 2) 3 rfl rfl dX3_lookAt_58 ?_
        refine zq_dup rfl dX3_lookAt_59 ?_
        refine zq_getL fl_RX3_33 rfl (sh_2 hw) dX3_lookAt_60 ?_
        refine zq_lconst (v := 1) rfl dX3_lookAt_63 ?_
        refine zq_iload_n (k := 1) (i := 1) (x := i1) 4 rfl rfl dX3_lookAt_64 ?_
        refine zq_lshl dX3_lookAt_65 ?_
        refine zq_lxor dX3_lookAt_66 ?_
        refine zq_putL fl_RX3_33 rfl (Or.inl rfl) (sh_2 hw) dX3_lookAt_67 (fun h16 eh16 => ?_)
        have H := H h16 eh16
        have wh16 := wf_L eh16 hw
        refine zq_aload_n (k := 0) (i := 0) (x := 2) 3 rfl rfl dX3_lookAt_70 ?_
        refine zq_dup rfl dX3_lookAt_71 ?_
        refine zq_getL fl_RX3_37 rfl (sh_2 wh16) dX3_lookAt_72 ?_
        refine zq_lconst (v := 1) rfl dX3_lookAt_75 ?_
        refine zq_ladd dX3_lookAt_76 ?_
        refine zq_putL fl_RX3_37 rfl (Or.inl rfl) (sh_2 wh16) dX3_lookAt_77 (fun h17 eh17 => ?_)
        have H := H h17 eh17
        have wh17 := wf_L eh17 wh16
        refine zq_aload_n (k := 0) (i := 0) (x := 2) 3 rfl rfl dX3_lookAt_80 ?_
        refine zq_dup rfl dX3_lookAt_81 ?_
        refine zq_getL fl_RX3_40 rfl (sh_2 wh17) dX3_lookAt_82 ?_
        refine zq_iload_n (k := 2) (i := 2) (x := x1) 2 rfl rfl dX3_lookAt_85 ?_
        refine zq_i2l dX3_lookAt_86 ?_
        refine zq_ladd dX3_lookAt_87 ?_
        refine zq_putL fl_RX3_40 rfl (Or.inl rfl) (sh_2 wh17) dX3_lookAt_88 (fun h18 eh18 => ?_)
        have H := H h18 eh18
        have wh18 := wf_L eh18 wh17
        exact zq_vret dX3_lookAt_91 rfl H
    · have H := H.2 c14
      refine zq_iconst (v := (nI 1)) rfl dX3_lookAt_29 ?_
      refine zq_goto (tgt := 51) dX3_lookAt_30 rfl ?_
      refine zq_istore (ls' := [(4, .int (nI 1)), (3, .int x2), (2, .int x1), (0, .ref 2), (1, .int i1)]) (i := 4) (Nat.le_of_ble_eq_true rfl) rfl dX3_lookAt_51 ?_
      refine zq_iload (i := 4) (x := (nI 1)) 0 rfl dX3_lookAt_53 ?_
      refine zq_if_eq (tgt := 91) dX3_lookAt_55 rfl ⟨fun c19 => ?_, fun c19 => ?_⟩
      · have H := H.1 c19
        exact zq_vret dX3_lookAt_91 rfl H
      · have H := H.2 c19
        refine zq_aload_n (k := 0) (i := 0) (x := 2) 3 rfl rfl dX3_lookAt_58 ?_
        refine zq_dup rfl dX3_lookAt_59 ?_
        refine zq_getL fl_RX3_33 rfl (sh_2 hw) dX3_lookAt_60 ?_
        refine zq_lconst (v := 1) rfl dX3_lookAt_63 ?_
        refine zq_iload_n (k := 1) (i := 1) (x := i1) 4 rfl rfl dX3_lookAt_64 ?_
        refine zq_lshl dX3_lookAt_65 ?_
        refine zq_lxor dX3_lookAt_66 ?_
        refine zq_putL fl_RX3_33 rfl (Or.inl rfl) (sh_2 hw) dX3_lookAt_67 (fun h20 eh20 => ?_)
        have H := H h20 eh20
        have wh20 := wf_L eh20 hw
        refine zq_aload_n (k := 0) (i := 0) (x := 2) 3 rfl rfl dX3_lookAt_70 ?_
        refine zq_dup rfl dX3_lookAt_71 ?_
        refine zq_getL fl_RX3_37 rfl (sh_2 wh20) dX3_lookAt_72 ?_
        refine zq_lconst (v := 1) rfl dX3_lookAt_75 ?_
        refine zq_ladd dX3_lookAt_76 ?_
        refine zq_putL fl_RX3_37 rfl (Or.inl rfl) (sh_2 wh20) dX3_lookAt_77 (fun h21 eh21 => ?_)
        have H := H h21 eh21
        have wh21 := wf_L eh21 wh20
        refine zq_aload_n (k := 0) (i := 0) (x := 2) 3 rfl rfl dX3_lookAt_80 ?_
        refine zq_dup rfl dX3_lookAt_81 ?_
        refine zq_getL fl_RX3_40 rfl (sh_2 wh21) dX3_lookAt_82 ?_
        refine zq_iload_n (k := 2) (i := 2) (x := x1) 2 rfl rfl dX3_lookAt_85 ?_
        refine zq_i2l dX3_lookAt_86 ?_
        refine zq_ladd dX3_lookAt_87 ?_
        refine zq_putL fl_RX3_40 rfl (Or.inl rfl) (sh_2 wh21) dX3_lookAt_88 (fun h22 eh22 => ?_)
        have H := H h22 eh22
        have wh22 := wf_L eh22 wh21
        exact zq_vret dX3_lookAt_91 rfl H
set_option maxHeartbeats 2000000 in
set_option maxRecDepth 20000 in
theorem r_X4_writeEdge_0 {d : Nat} {h : AH} {Q : Option Value → AH → Prop} (i1 : Int32) (i2 : Int32) (i3 : Int32) (hw : zWF h)  (H : ((h.I 37 1) ≤ 0 → zK d m_X4_write [.ref 37, .int (nI 43)] h (kV fun h2 => zK d m_X4_writeNumber [.ref 37, .int i1] h2 (kV fun h3 => zK d m_X4_write [.ref 37, .int (nI 44)] h3 (kV fun h4 => zK d m_X4_writeNumber [.ref 37, .int i2] h4 (kV fun h5 => (i3 = (nI 1) → Q none h5) ∧ (¬ i3 = (nI 1) → zK d m_X4_write [.ref 37, .int (nI 61)] h5 (kV fun h7 => (0 ≤ i3 → zK d m_X4_writeNumber [.ref 37, .int (zmabs i3)] h7 (kV fun h9 => Q none h9)) ∧ (¬ 0 ≤ i3 → zK d m_X4_write [.ref 37, .int (nI 45)] h7 (kV fun h10 => zK d m_X4_writeNumber [.ref 37, .int (zmabs i3)] h10 (kV fun h11 => Q none h11)))))))))) ∧ (¬ (h.I 37 1) ≤ 0 → zK d m_X4_write [.ref 37, .int (nI 59)] h (kV fun h12 => zK d m_X4_write [.ref 37, .int (nI 43)] h12 (kV fun h13 => zK d m_X4_writeNumber [.ref 37, .int i1] h13 (kV fun h14 => zK d m_X4_write [.ref 37, .int (nI 44)] h14 (kV fun h15 => zK d m_X4_writeNumber [.ref 37, .int i2] h15 (kV fun h16 => (i3 = (nI 1) → Q none h16) ∧ (¬ i3 = (nI 1) → zK d m_X4_write [.ref 37, .int (nI 61)] h16 (kV fun h18 => (0 ≤ i3 → zK d m_X4_writeNumber [.ref 37, .int (zmabs i3)] h18 (kV fun h20 => Q none h20)) ∧ (¬ 0 ≤ i3 → zK d m_X4_write [.ref 37, .int (nI 45)] h18 (kV fun h21 => zK d m_X4_writeNumber [.ref 37, .int (zmabs i3)] h21 (kV fun h22 => Q none h22)))))))))))) : zK (d + 1) m_X4_writeEdge [.ref 37, .int i1, .int i2, .int i3] h Q := by
  refine zK_of mo_X4_writeEdge (Nat.le_of_ble_eq_true rfl) ?_
  show zQ none m_X4_writeEdge (d + 1) 0 [(0, .ref 37), (1, .int i1), (2, .int i2), (3, .int i3)] [] h Q
  refine zq_aload_n (k := 0) (i := 0) (x := 37) 0 rfl rfl dX4_writeEdge_0 ?_
  refine zq_getI fl_RX4_15 rfl (sh_37 hw) dX4_writeEdge_1 ?_
  refine zq_if_le (tgt := 13) dX4_writeEdge_4 rfl ⟨fun c1 => ?_, fun c1 => ?_⟩
  · have H := H.1 c1
    refine zq_aload_n (k := 0) (i := 0) (x := 37) 0 rfl rfl dX4_writeEdge_13 ?_
    refine zq_bipush (v := (nI 43)) rfl dX4_writeEdge_14 ?_
    refine zq_invV (as := [.int (nI 43)]) (st := []) (o := 37) (c := 3) (by decide) rfl (sh_37 hw) in_X4_write se_X4_write mo_X4_write ml_RX4_19 rfl (Nat.le_of_ble_eq_true rfl) dX4_writeEdge_16 rfl H (fun r1 h2 hq => ?_)
    obtain ⟨rfl, wh2, H⟩ := hq
    show zQ none m_X4_writeEdge (d + 1) 19 [(0, .ref 37), (1, .int i1), (2, .int i2), (3, .int i3)] ([]) h2 Q
    refine zq_aload_n (k := 0) (i := 0) (x := 37) 0 rfl rfl dX4_writeEdge_19 ?_
    refine zq_iload_n (k := 1) (i := 1) (x := i1) 1 rfl rfl dX4_writeEdge_20 ?_
    refine zq_invV (as := [.int i1]) (st := []) (o := 37) (c := 3) (by decide) rfl (sh_37 wh2) in_X4_writeNumber se_X4_writeNumber mo_X4_writeNumber ml_RX4_23 rfl (Nat.le_of_ble_eq_true rfl) dX4_writeEdge_21 rfl H (fun r1 h3 hq => ?_)
    obtain ⟨rfl, wh3, H⟩ := hq
    show zQ none m_X4_writeEdge (d + 1) 24 [(0, .ref 37), (1, .int i1), (2, .int i2), (3, .int i3)] ([]) h3 Q
    refine zq_aload_n (k := 0) (i := 0) (x := 37) 0 rfl rfl dX4_writeEdge_24 ?_
    refine zq_bipush (v := (nI 44)) rfl dX4_writeEdge_25 ?_
    refine zq_invV (as := [.int (nI 44)]) (st := []) (o := 37) (c := 3) (by decide) rfl (sh_37 wh3) in_X4_write se_X4_write mo_X4_write ml_RX4_19 rfl (Nat.le_of_ble_eq_true rfl) dX4_writeEdge_27 rfl H (fun r1 h4 hq => ?_)
    obtain ⟨rfl, wh4, H⟩ := hq
    show zQ none m_X4_writeEdge (d + 1) 30 [(0, .ref 37), (1, .int i1), (2, .int i2), (3, .int i3)] ([]) h4 Q
    refine zq_aload_n (k := 0) (i := 0) (x := 37) 0 rfl rfl dX4_writeEdge_30 ?_
    refine zq_iload_n (k := 2) (i := 2) (x := i2) 2 rfl rfl dX4_writeEdge_31 ?_
    refine zq_invV (as := [.int i2]) (st := []) (o := 37) (c := 3) (by decide) rfl (sh_37 wh4) in_X4_writeNumber se_X4_writeNumber mo_X4_writeNumber ml_RX4_23 rfl (Nat.le_of_ble_eq_true rfl) dX4_writeEdge_32 rfl H (fun r1 h5 hq => ?_)
    obtain ⟨rfl, wh5, H⟩ := hq
    show zQ none m_X4_writeEdge (d + 1) 35 [(0, .ref 37), (1, .int i1), (2, .int i2), (3, .int i3)] ([]) h5 Q
    refine zq_iload_n (k := 3) (i := 3) (x := i3) 3 rfl rfl dX4_writeEdge_35 ?_
    refine zq_iconst (v := (nI 1)) rfl dX4_writeEdge_36 ?_
    refine zq_icmp_eq (tgt := 64) dX4_writeEdge_37 rfl ⟨fun c6 => ?_, fun c6 => ?_⟩
    · have H := H.1 c6
      exact zq_vret dX4_writeEdge_64 rfl H
    · have H := H.2 c6
      refine zq_aload_n (k := 0) (i := 0) (x := 37) 0 rfl rfl dX4_writeEdge_40 ?_
      refine zq_bipush (v := (nI 61)) rfl dX4_writeEdge_41 ?_
      refine zq_invV (as := [.int (nI 61)]) (st := []) (o := 37) (c := 3) (by decide) rfl (sh_37 wh5) in_X4_write se_X4_write mo_X4_write ml_RX4_19 rfl (Nat.le_of_ble_eq_true rfl) dX4_writeEdge_43 rfl H (fun r1 h7 hq => ?_)
      obtain ⟨rfl, wh7, H⟩ := hq
      show zQ none m_X4_writeEdge (d + 1) 46 [(0, .ref 37), (1, .int i1), (2, .int i2), (3, .int i3)] ([]) h7 Q
      refine zq_iload_n (k := 3) (i := 3) (x := i3) 3 rfl rfl dX4_writeEdge_46 ?_
      refine zq_if_ge (tgt := 56) dX4_writeEdge_47 rfl ⟨fun c8 => ?_, fun c8 => ?_⟩
      · have H := H.1 c8
        refine zq_aload_n (k := 0) (i := 0) (x := 37) 0 rfl rfl dX4_writeEdge_56 ?_
        refine zq_iload_n (k := 3) (i := 3) (x := i3) 3 rfl rfl dX4_writeEdge_57 ?_
        refine zq_mabs mm_RX4_26 (Nat.le_of_ble_eq_true rfl) dX4_writeEdge_58 ?_
        refine zq_invV (as := [.int (zmabs i3)]) (st := []) (o := 37) (c := 3) (by decide) rfl (sh_37 wh7) in_X4_writeNumber se_X4_writeNumber mo_X4_writeNumber ml_RX4_23 rfl (Nat.le_of_ble_eq_true rfl) dX4_writeEdge_61 rfl H (fun r1 h9 hq => ?_)
        obtain ⟨rfl, wh9, H⟩ := hq
        show zQ none m_X4_writeEdge (d + 1) 64 [(0, .ref 37), (1, .int i1), (2, .int i2), (3, .int i3)] ([]) h9 Q
        exact zq_vret dX4_writeEdge_64 rfl H
      · have H := H.2 c8
        refine zq_aload_n (k := 0) (i := 0) (x := 37) 0 rfl rfl dX4_writeEdge_50 ?_
        refine zq_bipush (v := (nI 45)) rfl dX4_writeEdge_51 ?_
        refine zq_invV (as := [.int (nI 45)]) (st := []) (o := 37) (c := 3) (by decide) rfl (sh_37 wh7) in_X4_write se_X4_write mo_X4_write ml_RX4_19 rfl (Nat.le_of_ble_eq_true rfl) dX4_writeEdge_53 rfl H (fun r1 h10 hq => ?_)
        obtain ⟨rfl, wh10, H⟩ := hq
        show zQ none m_X4_writeEdge (d + 1) 56 [(0, .ref 37), (1, .int i1), (2, .int i2), (3, .int i3)] ([]) h10 Q
        refine zq_aload_n (k := 0) (i := 0) (x := 37) 0 rfl rfl dX4_writeEdge_56 ?_
        refine zq_iload_n (k := 3) (i := 3) (x := i3) 3 rfl rfl dX4_writeEdge_57 ?_
        refine zq_mabs mm_RX4_26 (Nat.le_of_ble_eq_true rfl) dX4_writeEdge_58 ?_
        refine zq_invV (as := [.int (zmabs i3)]) (st := []) (o := 37) (c := 3) (by decide) rfl (sh_37 wh10) in_X4_writeNumber se_X4_writeNumber mo_X4_writeNumber ml_RX4_23 rfl (Nat.le_of_ble_eq_true rfl) dX4_writeEdge_61 rfl H (fun r1 h11 hq => ?_)
        obtain ⟨rfl, wh11, H⟩ := hq
        show zQ none m_X4_writeEdge (d + 1) 64 [(0, .ref 37), (1, .int i1), (2, .int i2), (3, .int i3)] ([]) h11 Q
        exact zq_vret dX4_writeEdge_64 rfl H
  · have H := H.2 c1
    refine zq_aload_n (k := 0) (i := 0) (x := 37) 0 rfl rfl dX4_writeEdge_7 ?_
    refine zq_bipush (v := (nI 59)) rfl dX4_writeEdge_8 ?_
    refine zq_invV (as := [.int (nI 59)]) (st := []) (o := 37) (c := 3) (by decide) rfl (sh_37 hw) in_X4_write se_X4_write mo_X4_write ml_RX4_19 rfl (Nat.le_of_ble_eq_true rfl) dX4_writeEdge_10 rfl H (fun r1 h12 hq => ?_)
    obtain ⟨rfl, wh12, H⟩ := hq
    show zQ none m_X4_writeEdge (d + 1) 13 [(0, .ref 37), (1, .int i1), (2, .int i2), (3, .int i3)] ([]) h12 Q
    refine zq_aload_n (k := 0) (i := 0) (x := 37) 0 rfl rfl dX4_writeEdge_13 ?_
    refine zq_bipush (v := (nI 43)) rfl dX4_writeEdge_14 ?_
    refine zq_invV (as := [.int (nI 43)]) (st := []) (o := 37) (c := 3) (by decide) rfl (sh_37 wh12) in_X4_write se_X4_write mo_X4_write ml_RX4_19 rfl (Nat.le_of_ble_eq_true rfl) dX4_writeEdge_16 rfl H (fun r1 h13 hq => ?_)
    obtain ⟨rfl, wh13, H⟩ := hq
    show zQ none m_X4_writeEdge (d + 1) 19 [(0, .ref 37), (1, .int i1), (2, .int i2), (3, .int i3)] ([]) h13 Q
    refine zq_aload_n (k := 0) (i := 0) (x := 37) 0 rfl rfl dX4_writeEdge_19 ?_
    refine zq_iload_n (k := 1) (i := 1) (x := i1) 1 rfl rfl dX4_writeEdge_20 ?_
    refine zq_invV (as := [.int i1]) (st := []) (o := 37) (c := 3) (by decide) rfl (sh_37 wh13) in_X4_writeNumber se_X4_writeNumber mo_X4_writeNumber ml_RX4_23 rfl (Nat.le_of_ble_eq_true rfl) dX4_writeEdge_21 rfl H (fun r1 h14 hq => ?_)
    obtain ⟨rfl, wh14, H⟩ := hq
    show zQ none m_X4_writeEdge (d + 1) 24 [(0, .ref 37), (1, .int i1), (2, .int i2), (3, .int i3)] ([]) h14 Q
    refine zq_aload_n (k := 0) (i := 0) (x := 37) 0 rfl rfl dX4_writeEdge_24 ?_
    refine zq_bipush (v := (nI 44)) rfl dX4_writeEdge_25 ?_
    refine zq_invV (as := [.int (nI 44)]) (st := []) (o := 37) (c := 3) (by decide) rfl (sh_37 wh14) in_X4_write se_X4_write mo_X4_write ml_RX4_19 rfl (Nat.le_of_ble_eq_true rfl) dX4_writeEdge_27 rfl H (fun r1 h15 hq => ?_)
    obtain ⟨rfl, wh15, H⟩ := hq
    show zQ none m_X4_writeEdge (d + 1) 30 [(0, .ref 37), (1, .int i1), (2, .int i2), (3, .int i3)] ([]) h15 Q
    refine zq_aload_n (k := 0) (i := 0) (x := 37) 0 rfl rfl dX4_writeEdge_30 ?_
    refine zq_iload_n (k := 2) (i := 2) (x := i2) 2 rfl rfl dX4_writeEdge_31 ?_
    refine zq_invV (as := [.int i2]) (st := []) (o := 37) (c := 3) (by decide) rfl (sh_37 wh15) in_X4_writeNumber se_X4_writeNumber mo_X4_writeNumber ml_RX4_23 rfl (Nat.le_of_ble_eq_true rfl) dX4_writeEdge_32 rfl H (fun r1 h16 hq => ?_)
    obtain ⟨rfl, wh16, H⟩ := hq
    show zQ none m_X4_writeEdge (d + 1) 35 [(0, .ref 37), (1, .int i1), (2, .int i2), (3, .int i3)] ([]) h16 Q
    refine zq_iload_n (k := 3) (i := 3) (x := i3) 3 rfl rfl dX4_writeEdge_35 ?_
    refine zq_iconst (v := (nI 1)) rfl dX4_writeEdge_36 ?_
    refine zq_icmp_eq (tgt := 64) dX4_writeEdge_37 rfl ⟨fun c17 => ?_, fun c17 => ?_⟩
    · have H := H.1 c17
      exact zq_vret dX4_writeEdge_64 rfl H
    · have H := H.2 c17
      refine zq_aload_n (k := 0) (i := 0) (x := 37) 0 rfl rfl dX4_writeEdge_40 ?_
      refine zq_bipush (v := (nI 61)) rfl dX4_writeEdge_41 ?_
      refine zq_invV (as := [.int (nI 61)]) (st := []) (o := 37) (c := 3) (by decide) rfl (sh_37 wh16) in_X4_write se_X4_write mo_X4_write ml_RX4_19 rfl (Nat.le_of_ble_eq_true rfl) dX4_writeEdge_43 rfl H (fun r1 h18 hq => ?_)
      obtain ⟨rfl, wh18, H⟩ := hq
      show zQ none m_X4_writeEdge (d + 1) 46 [(0, .ref 37), (1, .int i1), (2, .int i2), (3, .int i3)] ([]) h18 Q
      refine zq_iload_n (k := 3) (i := 3) (x := i3) 3 rfl rfl dX4_writeEdge_46 ?_
      refine zq_if_ge (tgt := 56) dX4_writeEdge_47 rfl ⟨fun c19 => ?_, fun c19 => ?_⟩
      · have H := H.1 c19
        refine zq_aload_n (k := 0) (i := 0) (x := 37) 0 rfl rfl dX4_writeEdge_56 ?_
        refine zq_iload_n (k := 3) (i := 3) (x := i3) 3 rfl rfl dX4_writeEdge_57 ?_
        refine zq_mabs mm_RX4_26 (Nat.le_of_ble_eq_true rfl) dX4_writeEdge_58 ?_
        refine zq_invV (as := [.int (zmabs i3)]) (st := []) (o := 37) (c := 3) (by decide) rfl (sh_37 wh18) in_X4_writeNumber se_X4_writeNumber mo_X4_writeNumber ml_RX4_23 rfl (Nat.le_of_ble_eq_true rfl) dX4_writeEdge_61 rfl H (fun r1 h20 hq => ?_)
        obtain ⟨rfl, wh20, H⟩ := hq
        show zQ none m_X4_writeEdge (d + 1) 64 [(0, .ref 37), (1, .int i1), (2, .int i2), (3, .int i3)] ([]) h20 Q
        exact zq_vret dX4_writeEdge_64 rfl H
      · have H := H.2 c19
        refine zq_aload_n (k := 0) (i := 0) (x := 37) 0 rfl rfl dX4_writeEdge_50 ?_
        refine zq_bipush (v := (nI 45)) rfl dX4_writeEdge_51 ?_
        refine zq_invV (as := [.int (nI 45)]) (st := []) (o := 37) (c := 3) (by decide) rfl (sh_37 wh18) in_X4_write se_X4_write mo_X4_write ml_RX4_19 rfl (Nat.le_of_ble_eq_true rfl) dX4_writeEdge_53 rfl H (fun r1 h21 hq => ?_)
        obtain ⟨rfl, wh21, H⟩ := hq
        show zQ none m_X4_writeEdge (d + 1) 56 [(0, .ref 37), (1, .int i1), (2, .int i2), (3, .int i3)] ([]) h21 Q
        refine zq_aload_n (k := 0) (i := 0) (x := 37) 0 rfl rfl dX4_writeEdge_56 ?_
        refine zq_iload_n (k := 3) (i := 3) (x := i3) 3 rfl rfl dX4_writeEdge_57 ?_
        refine zq_mabs mm_RX4_26 (Nat.le_of_ble_eq_true rfl) dX4_writeEdge_58 ?_
        refine zq_invV (as := [.int (zmabs i3)]) (st := []) (o := 37) (c := 3) (by decide) rfl (sh_37 wh21) in_X4_writeNumber se_X4_writeNumber mo_X4_writeNumber ml_RX4_23 rfl (Nat.le_of_ble_eq_true rfl) dX4_writeEdge_61 rfl H (fun r1 h22 hq => ?_)
        obtain ⟨rfl, wh22, H⟩ := hq
        show zQ none m_X4_writeEdge (d + 1) 64 [(0, .ref 37), (1, .int i1), (2, .int i2), (3, .int i3)] ([]) h22 Q
        exact zq_vret dX4_writeEdge_64 rfl H
set_option maxHeartbeats 2000000 in
set_option maxRecDepth 20000 in
theorem r_X4_writeNumber_0 {d : Nat} {h : AH} {Q : Option Value → AH → Prop} (i1 : Int32) (hw : zWF h)  (H : zQ none m_X4_writeNumber (d + 1) 5 [(0, .ref 37), (1, .int i1), (2, .int (nI 0)), (3, .int (nI 1000000))] [] h Q) : zK (d + 1) m_X4_writeNumber [.ref 37, .int i1] h Q := by
  refine zK_of mo_X4_writeNumber (Nat.le_of_ble_eq_true rfl) ?_
  show zQ none m_X4_writeNumber (d + 1) 0 [(0, .ref 37), (1, .int i1)] [] h Q
  refine zq_iconst (v := (nI 0)) rfl dX4_writeNumber_0 ?_
  refine zq_istore_n (ls' := [(2, .int (nI 0)), (0, .ref 37), (1, .int i1)]) (k := 2) (i := 2) rfl (Nat.le_of_ble_eq_true rfl) rfl dX4_writeNumber_1 ?_
  refine zq_ldc (v := (nI 1000000)) co_RX4_32 dX4_writeNumber_2 ?_
  refine zq_istore_n (ls' := [(3, .int (nI 1000000)), (2, .int (nI 0)), (0, .ref 37), (1, .int i1)]) (k := 3) (i := 3) rfl (Nat.le_of_ble_eq_true rfl) rfl dX4_writeNumber_4 ?_
  exact zq_sub (ls' := [(0, .ref 37), (1, .int i1), (2, .int (nI 0)), (3, .int (nI 1000000))]) [2, 3, 1, 0] rfl H
set_option maxHeartbeats 2000000 in
set_option maxRecDepth 20000 in
theorem r_X4_writeNumber_5 {d : Nat} {h : AH} {Q : Option Value → AH → Prop} (i1 : Int32) (i2 : Int32) (i3 : Int32) (hw : zWF h)  (H : (i3 ≤ 0 → Q none h) ∧ (¬ i3 ≤ 0 → (i2 ≠ 0 → ((nI 1) = 0 → zQ none m_X4_writeNumber (d + 1) 5 [(0, .ref 37), (1, .int i1), (2, .int (nI 1)), (3, .int (i3 / (nI 10)))] [] h Q) ∧ (¬ (nI 1) = 0 → ¬ i3 = 0 ∧ (zK d m_X4_write [.ref 37, .int ((nI 48) + ((i1 / i3) - (i1 / i3) / (nI 10) * (nI 10)))] h (kV fun h5 => zQ none m_X4_writeNumber (d + 1) 5 [(0, .ref 37), (1, .int i1), (2, .int (nI 1)), (3, .int (i3 / (nI 10)))] [] h5 Q)))) ∧ (i2 = 0 → (i3 ≤ i1 → ((nI 1) = 0 → zQ none m_X4_writeNumber (d + 1) 5 [(0, .ref 37), (1, .int i1), (2, .int (nI 1)), (3, .int (i3 / (nI 10)))] [] h Q) ∧ (¬ (nI 1) = 0 → ¬ i3 = 0 ∧ (zK d m_X4_write [.ref 37, .int ((nI 48) + ((i1 / i3) - (i1 / i3) / (nI 10) * (nI 10)))] h (kV fun h9 => zQ none m_X4_writeNumber (d + 1) 5 [(0, .ref 37), (1, .int i1), (2, .int (nI 1)), (3, .int (i3 / (nI 10)))] [] h9 Q)))) ∧ (¬ i3 ≤ i1 → (i3 ≠ (nI 1) → ((nI 0) = 0 → zQ none m_X4_writeNumber (d + 1) 5 [(0, .ref 37), (1, .int i1), (2, .int (nI 0)), (3, .int (i3 / (nI 10)))] [] h Q) ∧ (¬ (nI 0) = 0 → ¬ i3 = 0 ∧ (zK d m_X4_write [.ref 37, .int ((nI 48) + ((i1 / i3) - (i1 / i3) / (nI 10) * (nI 10)))] h (kV fun h13 => zQ none m_X4_writeNumber (d + 1) 5 [(0, .ref 37), (1, .int i1), (2, .int (nI 0)), (3, .int (i3 / (nI 10)))] [] h13 Q)))) ∧ (i3 = (nI 1) → ((nI 1) = 0 → zQ none m_X4_writeNumber (d + 1) 5 [(0, .ref 37), (1, .int i1), (2, .int (nI 1)), (3, .int (i3 / (nI 10)))] [] h Q) ∧ (¬ (nI 1) = 0 → ¬ i3 = 0 ∧ (zK d m_X4_write [.ref 37, .int ((nI 48) + ((i1 / i3) - (i1 / i3) / (nI 10) * (nI 10)))] h (kV fun h16 => zQ none m_X4_writeNumber (d + 1) 5 [(0, .ref 37), (1, .int i1), (2, .int (nI 1)), (3, .int (i3 / (nI 10)))] [] h16 Q)))))))) : zQ none m_X4_writeNumber (d + 1) 5 [(0, .ref 37), (1, .int i1), (2, .int i2), (3, .int i3)] [] h Q := by
  refine zq_iload_n (k := 3) (i := 3) (x := i3) 3 rfl rfl dX4_writeNumber_5 ?_
  refine zq_if_le (tgt := 54) dX4_writeNumber_6 rfl ⟨fun c1 => ?_, fun c1 => ?_⟩
  · have H := H.1 c1
    exact zq_vret dX4_writeNumber_54 rfl H
  · have H := H.2 c1
    refine zq_iload_n (k := 2) (i := 2) (x := i2) 2 rfl rfl dX4_writeNumber_9 ?_
    refine zq_if_ne (tgt := 23) dX4_writeNumber_10 rfl ⟨fun c2 => ?_, fun c2 => ?_⟩
    · have H := H.1 c2
      refine zq_iconst (v := (nI 1)) rfl dX4_writeNumber_23 ?_
      refine zq_goto (tgt := 28) dX4_writeNumber_24 rfl ?_
      refine zq_istore_n (ls' := [(2, .int (nI 1)), (0, .ref 37), (1, .int i1), (3, .int i3)]) (k := 2) (i := 2) rfl (Nat.le_of_ble_eq_true rfl) rfl dX4_writeNumber_28 ?_
      refine zq_iload_n (k := 2) (i := 2) (x := (nI 1)) 0 rfl rfl dX4_writeNumber_29 ?_
      refine zq_if_eq (tgt := 46) dX4_writeNumber_30 rfl ⟨fun c3 => ?_, fun c3 => ?_⟩
      · have H := H.1 c3
        refine zq_iload_n (k := 3) (i := 3) (x := i3) 3 rfl rfl dX4_writeNumber_46 ?_
        refine zq_bipush (v := (nI 10)) rfl dX4_writeNumber_47 ?_
        refine zq_idiv (by decide) dX4_writeNumber_49 ?_
        refine zq_istore_n (ls' := [(3, .int (i3 / (nI 10))), (2, .int (nI 1)), (0, .ref 37), (1, .int i1)]) (k := 3) (i := 3) rfl (Nat.le_of_ble_eq_true rfl) rfl dX4_writeNumber_50 ?_
        refine zq_goto (tgt := 5) dX4_writeNumber_51 rfl ?_
        exact zq_sub (ls' := [(0, .ref 37), (1, .int i1), (2, .int (nI 1)), (3, .int (i3 / (nI 10)))]) [2, 3, 1, 0] rfl H
      · have H := H.2 c3
        refine zq_aload_n (k := 0) (i := 0) (x := 37) 1 rfl rfl dX4_writeNumber_33 ?_
        refine zq_bipush (v := (nI 48)) rfl dX4_writeNumber_34 ?_
        refine zq_iload_n (k := 1) (i := 1) (x := i1) 2 rfl rfl dX4_writeNumber_36 ?_
        refine zq_iload_n (k := 3) (i := 3) (x := i3) 3 rfl rfl dX4_writeNumber_37 ?_
        obtain ⟨c4, H⟩ := H
        refine zq_idiv c4 dX4_writeNumber_38 ?_
        refine zq_bipush (v := (nI 10)) rfl dX4_writeNumber_39 ?_
        refine zq_irem (by decide) dX4_writeNumber_41 ?_
        refine zq_iadd dX4_writeNumber_42 ?_
        refine zq_invV (as := [.int ((nI 48) + ((i1 / i3) - (i1 / i3) / (nI 10) * (nI 10)))]) (st := []) (o := 37) (c := 3) (by decide) rfl (sh_37 hw) in_X4_write se_X4_write mo_X4_write ml_RX4_19 rfl (Nat.le_of_ble_eq_true rfl) dX4_writeNumber_43 rfl H (fun r1 h5 hq => ?_)
        obtain ⟨rfl, wh5, H⟩ := hq
        show zQ none m_X4_writeNumber (d + 1) 46 [(2, .int (nI 1)), (0, .ref 37), (1, .int i1), (3, .int i3)] ([]) h5 Q
        refine zq_iload_n (k := 3) (i := 3) (x := i3) 3 rfl rfl dX4_writeNumber_46 ?_
        refine zq_bipush (v := (nI 10)) rfl dX4_writeNumber_47 ?_
        refine zq_idiv (by decide) dX4_writeNumber_49 ?_
        refine zq_istore_n (ls' := [(3, .int (i3 / (nI 10))), (2, .int (nI 1)), (0, .ref 37), (1, .int i1)]) (k := 3) (i := 3) rfl (Nat.le_of_ble_eq_true rfl) rfl dX4_writeNumber_50 ?_
        refine zq_goto (tgt := 5) dX4_writeNumber_51 rfl ?_
        exact zq_sub (ls' := [(0, .ref 37), (1, .int i1), (2, .int (nI 1)), (3, .int (i3 / (nI 10)))]) [2, 3, 1, 0] rfl H
    · have H := H.2 c2
      refine zq_iload_n (k := 1) (i := 1) (x := i1) 1 rfl rfl dX4_writeNumber_13 ?_
      refine zq_iload_n (k := 3) (i := 3) (x := i3) 3 rfl rfl dX4_writeNumber_14 ?_
      refine zq_icmp_ge (tgt := 23) dX4_writeNumber_15 rfl ⟨fun c6 => ?_, fun c6 => ?_⟩
      · have H := H.1 c6
        refine zq_iconst (v := (nI 1)) rfl dX4_writeNumber_23 ?_
        refine zq_goto (tgt := 28) dX4_writeNumber_24 rfl ?_
        refine zq_istore_n (ls' := [(2, .int (nI 1)), (0, .ref 37), (1, .int i1), (3, .int i3)]) (k := 2) (i := 2) rfl (Nat.le_of_ble_eq_true rfl) rfl dX4_writeNumber_28 ?_
        refine zq_iload_n (k := 2) (i := 2) (x := (nI 1)) 0 rfl rfl dX4_writeNumber_29 ?_
        refine zq_if_eq (tgt := 46) dX4_writeNumber_30 rfl ⟨fun c7 => ?_, fun c7 => ?_⟩
        · have H := H.1 c7
          refine zq_iload_n (k := 3) (i := 3) (x := i3) 3 rfl rfl dX4_writeNumber_46 ?_
          refine zq_bipush (v := (nI 10)) rfl dX4_writeNumber_47 ?_
          refine zq_idiv (by decide) dX4_writeNumber_49 ?_
          refine zq_istore_n (ls' := [(3, .int (i3 / (nI 10))), (2, .int (nI 1)), (0, .ref 37), (1, .int i1)]) (k := 3) (i := 3) rfl (Nat.le_of_ble_eq_true rfl) rfl dX4_writeNumber_50 ?_
          refine zq_goto (tgt := 5) dX4_writeNumber_51 rfl ?_
          exact zq_sub (ls' := [(0, .ref 37), (1, .int i1), (2, .int (nI 1)), (3, .int (i3 / (nI 10)))]) [2, 3, 1, 0] rfl H
        · have H := H.2 c7
          refine zq_aload_n (k := 0) (i := 0) (x := 37) 1 rfl rfl dX4_writeNumber_33 ?_
          refine zq_bipush (v := (nI 48)) rfl dX4_writeNumber_34 ?_
          refine zq_iload_n (k := 1) (i := 1) (x := i1) 2 rfl rfl dX4_writeNumber_36 ?_
          refine zq_iload_n (k := 3) (i := 3) (x := i3) 3 rfl rfl dX4_writeNumber_37 ?_
          obtain ⟨c8, H⟩ := H
          refine zq_idiv c8 dX4_writeNumber_38 ?_
          refine zq_bipush (v := (nI 10)) rfl dX4_writeNumber_39 ?_
          refine zq_irem (by decide) dX4_writeNumber_41 ?_
          refine zq_iadd dX4_writeNumber_42 ?_
          refine zq_invV (as := [.int ((nI 48) + ((i1 / i3) - (i1 / i3) / (nI 10) * (nI 10)))]) (st := []) (o := 37) (c := 3) (by decide) rfl (sh_37 hw) in_X4_write se_X4_write mo_X4_write ml_RX4_19 rfl (Nat.le_of_ble_eq_true rfl) dX4_writeNumber_43 rfl H (fun r1 h9 hq => ?_)
          obtain ⟨rfl, wh9, H⟩ := hq
          show zQ none m_X4_writeNumber (d + 1) 46 [(2, .int (nI 1)), (0, .ref 37), (1, .int i1), (3, .int i3)] ([]) h9 Q
          refine zq_iload_n (k := 3) (i := 3) (x := i3) 3 rfl rfl dX4_writeNumber_46 ?_
          refine zq_bipush (v := (nI 10)) rfl dX4_writeNumber_47 ?_
          refine zq_idiv (by decide) dX4_writeNumber_49 ?_
          refine zq_istore_n (ls' := [(3, .int (i3 / (nI 10))), (2, .int (nI 1)), (0, .ref 37), (1, .int i1)]) (k := 3) (i := 3) rfl (Nat.le_of_ble_eq_true rfl) rfl dX4_writeNumber_50 ?_
          refine zq_goto (tgt := 5) dX4_writeNumber_51 rfl ?_
          exact zq_sub (ls' := [(0, .ref 37), (1, .int i1), (2, .int (nI 1)), (3, .int (i3 / (nI 10)))]) [2, 3, 1, 0] rfl H
      · have H := H.2 c6
        refine zq_iload_n (k := 3) (i := 3) (x := i3) 3 rfl rfl dX4_writeNumber_18 ?_
        refine zq_iconst (v := (nI 1)) rfl dX4_writeNumber_19 ?_
        refine zq_icmp_ne (tgt := 27) dX4_writeNumber_20 rfl ⟨fun c10 => ?_, fun c10 => ?_⟩
        · have H := H.1 c10
          refine zq_iconst (v := (nI 0)) rfl dX4_writeNumber_27 ?_
          refine zq_istore_n (ls' := [(2, .int (nI 0)), (0, .ref 37), (1, .int i1), (3, .int i3)]) (k := 2) (i := 2) rfl (Nat.le_of_ble_eq_true rfl) rfl dX4_writeNumber_28 ?_
          refine zq_iload_n (k := 2) (i := 2) (x := (nI 0)) 0 rfl rfl dX4_writeNumber_29 ?_
          refine zq_if_eq (tgt := 46) dX4_writeNumber_30 rfl ⟨fun c11 => ?_, fun c11 => ?_⟩
          · have H := H.1 c11
            refine zq_iload_n (k := 3) (i := 3) (x := i3) 3 rfl rfl dX4_writeNumber_46 ?_
            refine zq_bipush (v := (nI 10)) rfl dX4_writeNumber_47 ?_
            refine zq_idiv (by decide) dX4_writeNumber_49 ?_
            refine zq_istore_n (ls' := [(3, .int (i3 / (nI 10))), (2, .int (nI 0)), (0, .ref 37), (1, .int i1)]) (k := 3) (i := 3) rfl (Nat.le_of_ble_eq_true rfl) rfl dX4_writeNumber_50 ?_
            refine zq_goto (tgt := 5) dX4_writeNumber_51 rfl ?_
            exact zq_sub (ls' := [(0, .ref 37), (1, .int i1), (2, .int (nI 0)), (3, .int (i3 / (nI 10)))]) [2, 3, 1, 0] rfl H
          · have H := H.2 c11
            refine zq_aload_n (k := 0) (i := 0) (x := 37) 1 rfl rfl dX4_writeNumber_33 ?_
            refine zq_bipush (v := (nI 48)) rfl dX4_writeNumber_34 ?_
            refine zq_iload_n (k := 1) (i := 1) (x := i1) 2 rfl rfl dX4_writeNumber_36 ?_
            refine zq_iload_n (k := 3) (i := 3) (x := i3) 3 rfl rfl dX4_writeNumber_37 ?_
            obtain ⟨c12, H⟩ := H
            refine zq_idiv c12 dX4_writeNumber_38 ?_
            refine zq_bipush (v := (nI 10)) rfl dX4_writeNumber_39 ?_
            refine zq_irem (by decide) dX4_writeNumber_41 ?_
            refine zq_iadd dX4_writeNumber_42 ?_
            refine zq_invV (as := [.int ((nI 48) + ((i1 / i3) - (i1 / i3) / (nI 10) * (nI 10)))]) (st := []) (o := 37) (c := 3) (by decide) rfl (sh_37 hw) in_X4_write se_X4_write mo_X4_write ml_RX4_19 rfl (Nat.le_of_ble_eq_true rfl) dX4_writeNumber_43 rfl H (fun r1 h13 hq => ?_)
            obtain ⟨rfl, wh13, H⟩ := hq
            show zQ none m_X4_writeNumber (d + 1) 46 [(2, .int (nI 0)), (0, .ref 37), (1, .int i1), (3, .int i3)] ([]) h13 Q
            refine zq_iload_n (k := 3) (i := 3) (x := i3) 3 rfl rfl dX4_writeNumber_46 ?_
            refine zq_bipush (v := (nI 10)) rfl dX4_writeNumber_47 ?_
            refine zq_idiv (by decide) dX4_writeNumber_49 ?_
            refine zq_istore_n (ls' := [(3, .int (i3 / (nI 10))), (2, .int (nI 0)), (0, .ref 37), (1, .int i1)]) (k := 3) (i := 3) rfl (Nat.le_of_ble_eq_true rfl) rfl dX4_writeNumber_50 ?_
            refine zq_goto (tgt := 5) dX4_writeNumber_51 rfl ?_
            exact zq_sub (ls' := [(0, .ref 37), (1, .int i1), (2, .int (nI 0)), (3, .int (i3 / (nI 10)))]) [2, 3, 1, 0] rfl H
        · have H := H.2 c10
          refine zq_iconst (v := (nI 1)) rfl dX4_writeNumber_23 ?_
          refine zq_goto (tgt := 28) dX4_writeNumber_24 rfl ?_
          refine zq_istore_n (ls' := [(2, .int (nI 1)), (0, .ref 37), (1, .int i1), (3, .int i3)]) (k := 2) (i := 2) rfl (Nat.le_of_ble_eq_true rfl) rfl dX4_writeNumber_28 ?_
          refine zq_iload_n (k := 2) (i := 2) (x := (nI 1)) 0 rfl rfl dX4_writeNumber_29 ?_
          refine zq_if_eq (tgt := 46) dX4_writeNumber_30 rfl ⟨fun c14 => ?_, fun c14 => ?_⟩
          · have H := H.1 c14
            refine zq_iload_n (k := 3) (i := 3) (x := i3) 3 rfl rfl dX4_writeNumber_46 ?_
            refine zq_bipush (v := (nI 10)) rfl dX4_writeNumber_47 ?_
            refine zq_idiv (by decide) dX4_writeNumber_49 ?_
            refine zq_istore_n (ls' := [(3, .int (i3 / (nI 10))), (2, .int (nI 1)), (0, .ref 37), (1, .int i1)]) (k := 3) (i := 3) rfl (Nat.le_of_ble_eq_true rfl) rfl dX4_writeNumber_50 ?_
            refine zq_goto (tgt := 5) dX4_writeNumber_51 rfl ?_
            exact zq_sub (ls' := [(0, .ref 37), (1, .int i1), (2, .int (nI 1)), (3, .int (i3 / (nI 10)))]) [2, 3, 1, 0] rfl H
          · have H := H.2 c14
            refine zq_aload_n (k := 0) (i := 0) (x := 37) 1 rfl rfl dX4_writeNumber_33 ?_
            refine zq_bipush (v := (nI 48)) rfl dX4_writeNumber_34 ?_
            refine zq_iload_n (k := 1) (i := 1) (x := i1) 2 rfl rfl dX4_writeNumber_36 ?_
            refine zq_iload_n (k := 3) (i := 3) (x := i3) 3 rfl rfl dX4_writeNumber_37 ?_
            obtain ⟨c15, H⟩ := H
            refine zq_idiv c15 dX4_writeNumber_38 ?_
            refine zq_bipush (v := (nI 10)) rfl dX4_writeNumber_39 ?_
            refine zq_irem (by decide) dX4_writeNumber_41 ?_
            refine zq_iadd dX4_writeNumber_42 ?_
            refine zq_invV (as := [.int ((nI 48) + ((i1 / i3) - (i1 / i3) / (nI 10) * (nI 10)))]) (st := []) (o := 37) (c := 3) (by decide) rfl (sh_37 hw) in_X4_write se_X4_write mo_X4_write ml_RX4_19 rfl (Nat.le_of_ble_eq_true rfl) dX4_writeNumber_43 rfl H (fun r1 h16 hq => ?_)
            obtain ⟨rfl, wh16, H⟩ := hq
            show zQ none m_X4_writeNumber (d + 1) 46 [(2, .int (nI 1)), (0, .ref 37), (1, .int i1), (3, .int i3)] ([]) h16 Q
            refine zq_iload_n (k := 3) (i := 3) (x := i3) 3 rfl rfl dX4_writeNumber_46 ?_
            refine zq_bipush (v := (nI 10)) rfl dX4_writeNumber_47 ?_
            refine zq_idiv (by decide) dX4_writeNumber_49 ?_
            refine zq_istore_n (ls' := [(3, .int (i3 / (nI 10))), (2, .int (nI 1)), (0, .ref 37), (1, .int i1)]) (k := 3) (i := 3) rfl (Nat.le_of_ble_eq_true rfl) rfl dX4_writeNumber_50 ?_
            refine zq_goto (tgt := 5) dX4_writeNumber_51 rfl ?_
            exact zq_sub (ls' := [(0, .ref 37), (1, .int i1), (2, .int (nI 1)), (3, .int (i3 / (nI 10)))]) [2, 3, 1, 0] rfl H
set_option maxHeartbeats 2000000 in
set_option maxRecDepth 20000 in
theorem r_X4_write_0 {d : Nat} {h : AH} {Q : Option Value → AH → Prop} (i1 : Int32) (hw : zWF h)  (H : ((h.I 37 1) < (nI 12480) → ∃ pb2 len3, zPap h pb2 len3 ∧ (((h.I 37 1) < (nI len3) → ∃ pb6 len7, zPap h pb6 len7 ∧ (vp_in (h.I 37 1) len7 ∧ (∀ h10, h10 = h.sI pb6 (h.I 37 1).toNatClampNeg i1.toInt8.toInt32.toInt8.toInt32 → ∀ h13, h13 = h10.sI 37 1 ((h10.I 37 1) + (nI 1)) → Q none h13))) ∧ (¬ (h.I 37 1) < (nI len3) → ∃ pb16 len17, zPap h pb16 len17 ∧ (∃ pb19 len20, zPap h pb19 len20 ∧ (zK d m_J7_copyOf_9075b [.ref pb16, .int ((nI 2) * (nI len20))] h (kB fun r22 h23 => ∀ h24, h24 = h23.sP 37 0 (some r22) → ∃ pb25 len26, zPap h24 pb25 len26 ∧ (vp_in (h24.I 37 1) len26 ∧ (∀ h29, h29 = h24.sI pb25 (h24.I 37 1).toNatClampNeg i1.toInt8.toInt32.toInt8.toInt32 → ∀ h31, h31 = h29.sI 37 1 ((h29.I 37 1) + (nI 1)) → Q none h31)))))))) ∧ (¬ (h.I 37 1) < (nI 12480) → Q none h)) : zK (d + 1) m_X4_write [.ref 37, .int i1] h Q := by
  refine zK_of mo_X4_write (Nat.le_of_ble_eq_true rfl) ?_
  show zQ none m_X4_write (d + 1) 0 [(0, .ref 37), (1, .int i1)] [] h Q
  refine zq_aload_n (k := 0) (i := 0) (x := 37) 0 rfl rfl dX4_write_0 ?_
  refine zq_getI fl_RX4_15 rfl (sh_37 hw) dX4_write_1 ?_
  refine zq_sipush (v := (nI 12480)) rfl dX4_write_4 ?_
  refine zq_icmp_lt (tgt := 11) dX4_write_7 rfl ⟨fun c1 => ?_, fun c1 => ?_⟩
  · have H := H.1 c1
    refine zq_aload_n (k := 0) (i := 0) (x := 37) 0 rfl rfl dX4_write_11 ?_
    refine zq_getI fl_RX4_15 rfl (sh_37 hw) dX4_write_12 ?_
    refine zq_aload_n (k := 0) (i := 0) (x := 37) 0 rfl rfl dX4_write_15 ?_
    obtain ⟨pb2, len3, p4, H⟩ := H
    refine zq_getP fl_RX4_11 rfl (sh_37 hw) p4.1 dX4_write_16 ?_
    refine zq_alen (v := nI len3) p4.2 (by decide) rfl dX4_write_19 ?_
    refine zq_icmp_lt (tgt := 41) dX4_write_20 rfl ⟨fun c5 => ?_, fun c5 => ?_⟩
    · have H := H.1 c5
      refine zq_aload_n (k := 0) (i := 0) (x := 37) 0 rfl rfl dX4_write_41 ?_
      obtain ⟨pb6, len7, p8, H⟩ := H
      refine zq_getP fl_RX4_11 rfl (sh_37 hw) p8.1 dX4_write_42 ?_
      refine zq_aload_n (k := 0) (i := 0) (x := 37) 0 rfl rfl dX4_write_45 ?_
      refine zq_getI fl_RX4_15 rfl (sh_37 hw) dX4_write_46 ?_
      refine zq_iload_n (k := 1) (i := 1) (x := i1) 1 rfl rfl dX4_write_49 ?_
      refine zq_i2b dX4_write_50 ?_
      obtain ⟨b9, H⟩ := H
      refine zq_bast p8.2 b9 dX4_write_51 (fun h10 eh10 => ?_)
      have H := H h10 eh10
      have wh10 := wf_I eh10 hw
      have s11 := shk_I eh10 p4.2
      have s12 := shk_I eh10 p8.2
      refine zq_aload_n (k := 0) (i := 0) (x := 37) 0 rfl rfl dX4_write_52 ?_
      refine zq_dup rfl dX4_write_53 ?_
      refine zq_getI fl_RX4_15 rfl (sh_37 wh10) dX4_write_54 ?_
      refine zq_iconst (v := (nI 1)) rfl dX4_write_57 ?_
      refine zq_iadd dX4_write_58 ?_
      refine zq_putI fl_RX4_15 rfl (Or.inl rfl) (sh_37 wh10) rfl rfl dX4_write_59 (fun h13 eh13 => ?_)
      have H := H h13 eh13
      have wh13 := wf_I eh13 wh10
      have s14 := shk_I eh13 s11
      have s15 := shk_I eh13 s12
      exact zq_vret dX4_write_62 rfl H
    · have H := H.2 c5
      refine zq_aload_n (k := 0) (i := 0) (x := 37) 0 rfl rfl dX4_write_23 ?_
      refine zq_aload_n (k := 0) (i := 0) (x := 37) 0 rfl rfl dX4_write_24 ?_
      obtain ⟨pb16, len17, p18, H⟩ := H
      refine zq_getP fl_RX4_11 rfl (sh_37 hw) p18.1 dX4_write_25 ?_
      refine zq_iconst (v := (nI 2)) rfl dX4_write_28 ?_
      refine zq_aload_n (k := 0) (i := 0) (x := 37) 0 rfl rfl dX4_write_29 ?_
      obtain ⟨pb19, len20, p21, H⟩ := H
      refine zq_getP fl_RX4_11 rfl (sh_37 hw) p21.1 dX4_write_30 ?_
      refine zq_alen (v := nI len20) p21.2 (by decide) rfl dX4_write_33 ?_
      refine zq_imul dX4_write_34 ?_
      refine zq_invS (as := [.ref pb16, .int ((nI 2) * (nI len20))]) (st := .ref 37 :: []) st_J7_copyOf_9075b mo_J7_copyOf_9075b ml_RX4_33 rfl (Nat.le_of_ble_eq_true rfl) dX4_write_35 rfl H (fun r1 h23 hq => ?_)
      obtain ⟨r22, rfl, wh23, H⟩ := hq
      show zQ none m_X4_write (d + 1) 38 [(0, .ref 37), (1, .int i1)] (.ref r22 :: .ref 37 :: []) h23 Q
      refine zq_putP fl_RX4_11 rfl (Or.inl rfl) (sh_37 wh23) dX4_write_38 (fun h24 eh24 => ?_)
      have H := H h24 eh24
      have wh24 := wf_P37 eh24 wh23
      refine zq_aload_n (k := 0) (i := 0) (x := 37) 0 rfl rfl dX4_write_41 ?_
      obtain ⟨pb25, len26, p27, H⟩ := H
      refine zq_getP fl_RX4_11 rfl (sh_37 wh24) p27.1 dX4_write_42 ?_
      refine zq_aload_n (k := 0) (i := 0) (x := 37) 0 rfl rfl dX4_write_45 ?_
      refine zq_getI fl_RX4_15 rfl (sh_37 wh24) dX4_write_46 ?_
      refine zq_iload_n (k := 1) (i := 1) (x := i1) 1 rfl rfl dX4_write_49 ?_
      refine zq_i2b dX4_write_50 ?_
      obtain ⟨b28, H⟩ := H
      refine zq_bast p27.2 b28 dX4_write_51 (fun h29 eh29 => ?_)
      have H := H h29 eh29
      have wh29 := wf_I eh29 wh24
      have s30 := shk_I eh29 p27.2
      refine zq_aload_n (k := 0) (i := 0) (x := 37) 0 rfl rfl dX4_write_52 ?_
      refine zq_dup rfl dX4_write_53 ?_
      refine zq_getI fl_RX4_15 rfl (sh_37 wh29) dX4_write_54 ?_
      refine zq_iconst (v := (nI 1)) rfl dX4_write_57 ?_
      refine zq_iadd dX4_write_58 ?_
      refine zq_putI fl_RX4_15 rfl (Or.inl rfl) (sh_37 wh29) rfl rfl dX4_write_59 (fun h31 eh31 => ?_)
      have H := H h31 eh31
      have wh31 := wf_I eh31 wh29
      have s32 := shk_I eh31 s30
      exact zq_vret dX4_write_62 rfl H
  · have H := H.2 c1
    exact zq_vret dX4_write_10 rfl H
set_option maxHeartbeats 2000000 in
set_option maxRecDepth 20000 in
theorem r_X5_keep_0 {d : Nat} {h : AH} {Q : Option Value → AH → Prop} (i1 : Int32) (i2 : Int32) (i3 : Int32) (i4 : Int32) (hw : zWF h)  (H : ((h.I 5 1) < (nI 60) → (i1 = 0 → vp_in ((h.I 5 1) * (nI 4)) 240 ∧ (∀ h4, h4 = h.sI 6 ((h.I 5 1) * (nI 4)).toNatClampNeg (nI 0) → vp_in (((h.I 5 1) * (nI 4)) + (nI 1)) 240 ∧ (∀ h6, h6 = h4.sI 6 (((h.I 5 1) * (nI 4)) + (nI 1)).toNatClampNeg i2 → vp_in (((h.I 5 1) * (nI 4)) + (nI 2)) 240 ∧ (∀ h8, h8 = h6.sI 6 (((h.I 5 1) * (nI 4)) + (nI 2)).toNatClampNeg i3 → vp_in (((h.I 5 1) * (nI 4)) + (nI 3)) 240 ∧ (∀ h10, h10 = h8.sI 6 (((h.I 5 1) * (nI 4)) + (nI 3)).toNatClampNeg i4 → ∀ h11, h11 = h10.sI 5 1 ((h10.I 5 1) + (nI 1)) → Q none h11))))) ∧ (¬ i1 = 0 → vp_in ((h.I 5 1) * (nI 4)) 240 ∧ (∀ h13, h13 = h.sI 6 ((h.I 5 1) * (nI 4)).toNatClampNeg (nI 1) → vp_in (((h.I 5 1) * (nI 4)) + (nI 1)) 240 ∧ (∀ h15, h15 = h13.sI 6 (((h.I 5 1) * (nI 4)) + (nI 1)).toNatClampNeg i2 → vp_in (((h.I 5 1) * (nI 4)) + (nI 2)) 240 ∧ (∀ h17, h17 = h15.sI 6 (((h.I 5 1) * (nI 4)) + (nI 2)).toNatClampNeg i3 → vp_in (((h.I 5 1) * (nI 4)) + (nI 3)) 240 ∧ (∀ h19, h19 = h17.sI 6 (((h.I 5 1) * (nI 4)) + (nI 3)).toNatClampNeg i4 → ∀ h20, h20 = h19.sI 5 1 ((h19.I 5 1) + (nI 1)) → Q none h20)))))) ∧ (¬ (h.I 5 1) < (nI 60) → (¬ (nI 4) < 0 ∧ ¬ (nI 0) < 0 ∧ ¬ (nI 236) < 0 ∧ (nI 4).toNatClampNeg + (nI 236).toNatClampNeg ≤ 240 ∧ (nI 0).toNatClampNeg + (nI 236).toNatClampNeg ≤ 240) ∧ (∀ h22, h22 = h.wI 6 (va_cpy (h.I 6) (h.I 6) (nI 4).toNatClampNeg (nI 0).toNatClampNeg (nI 236).toNatClampNeg) → ∀ h23, h23 = h22.sI 5 1 (nI 59) → (i1 = 0 → vp_in ((h23.I 5 1) * (nI 4)) 240 ∧ (∀ h26, h26 = h23.sI 6 ((h23.I 5 1) * (nI 4)).toNatClampNeg (nI 0) → vp_in (((h23.I 5 1) * (nI 4)) + (nI 1)) 240 ∧ (∀ h28, h28 = h26.sI 6 (((h23.I 5 1) * (nI 4)) + (nI 1)).toNatClampNeg i2 → vp_in (((h23.I 5 1) * (nI 4)) + (nI 2)) 240 ∧ (∀ h30, h30 = h28.sI 6 (((h23.I 5 1) * (nI 4)) + (nI 2)).toNatClampNeg i3 → vp_in (((h23.I 5 1) * (nI 4)) + (nI 3)) 240 ∧ (∀ h32, h32 = h30.sI 6 (((h23.I 5 1) * (nI 4)) + (nI 3)).toNatClampNeg i4 → ∀ h33, h33 = h32.sI 5 1 ((h32.I 5 1) + (nI 1)) → Q none h33))))) ∧ (¬ i1 = 0 → vp_in ((h23.I 5 1) * (nI 4)) 240 ∧ (∀ h35, h35 = h23.sI 6 ((h23.I 5 1) * (nI 4)).toNatClampNeg (nI 1) → vp_in (((h23.I 5 1) * (nI 4)) + (nI 1)) 240 ∧ (∀ h37, h37 = h35.sI 6 (((h23.I 5 1) * (nI 4)) + (nI 1)).toNatClampNeg i2 → vp_in (((h23.I 5 1) * (nI 4)) + (nI 2)) 240 ∧ (∀ h39, h39 = h37.sI 6 (((h23.I 5 1) * (nI 4)) + (nI 2)).toNatClampNeg i3 → vp_in (((h23.I 5 1) * (nI 4)) + (nI 3)) 240 ∧ (∀ h41, h41 = h39.sI 6 (((h23.I 5 1) * (nI 4)) + (nI 3)).toNatClampNeg i4 → ∀ h42, h42 = h41.sI 5 1 ((h41.I 5 1) + (nI 1)) → Q none h42)))))))) : zK (d + 1) m_X5_keep [.ref 5, .int i1, .int i2, .int i3, .int i4] h Q := by
  refine zK_of mo_X5_keep (Nat.le_of_ble_eq_true rfl) ?_
  show zQ none m_X5_keep (d + 1) 0 [(0, .ref 5), (1, .int i1), (2, .int i2), (3, .int i3), (4, .int i4)] [] h Q
  refine zq_aload_n (k := 0) (i := 0) (x := 5) 0 rfl rfl dX5_keep_0 ?_
  refine zq_getI fl_RX5_15 rfl (sh_5 hw) dX5_keep_1 ?_
  refine zq_bipush (v := (nI 60)) rfl dX5_keep_4 ?_
  refine zq_icmp_lt (tgt := 31) dX5_keep_6 rfl ⟨fun c1 => ?_, fun c1 => ?_⟩
  · have H := H.1 c1
    refine zq_aload_n (k := 0) (i := 0) (x := 5) 0 rfl rfl dX5_keep_31 ?_
    refine zq_getI fl_RX5_15 rfl (sh_5 hw) dX5_keep_32 ?_
    refine zq_iconst (v := (nI 4)) rfl dX5_keep_35 ?_
    refine zq_imul dX5_keep_36 ?_
    refine zq_istore (ls' := [(5, .int ((h.I 5 1) * (nI 4))), (0, .ref 5), (1, .int i1), (2, .int i2), (3, .int i3), (4, .int i4)]) (i := 5) (Nat.le_of_ble_eq_true rfl) rfl dX5_keep_37 ?_
    refine zq_aload_n (k := 0) (i := 0) (x := 5) 1 rfl rfl dX5_keep_39 ?_
    refine zq_getP fl_RX5_11 rfl (sh_5 hw) (rf_5_0 hw) dX5_keep_40 ?_
    refine zq_iload (i := 5) (x := ((h.I 5 1) * (nI 4))) 0 rfl dX5_keep_43 ?_
    refine zq_iload_n (k := 1) (i := 1) (x := i1) 2 rfl rfl dX5_keep_45 ?_
    refine zq_if_eq (tgt := 53) dX5_keep_46 rfl ⟨fun c2 => ?_, fun c2 => ?_⟩
    · have H := H.1 c2
      refine zq_iconst (v := (nI 0)) rfl dX5_keep_53 ?_
      obtain ⟨b3, H⟩ := H
      refine zq_iast (sh_6 hw) b3 dX5_keep_54 (fun h4 eh4 => ?_)
      have H := H h4 eh4
      have wh4 := wf_I eh4 hw
      refine zq_aload_n (k := 0) (i := 0) (x := 5) 1 rfl rfl dX5_keep_55 ?_
      refine zq_getP fl_RX5_11 rfl (sh_5 wh4) (rf_5_0 wh4) dX5_keep_56 ?_
      refine zq_iload (i := 5) (x := ((h.I 5 1) * (nI 4))) 0 rfl dX5_keep_59 ?_
      refine zq_iconst (v := (nI 1)) rfl dX5_keep_61 ?_
      refine zq_iadd dX5_keep_62 ?_
      refine zq_iload_n (k := 2) (i := 2) (x := i2) 3 rfl rfl dX5_keep_63 ?_
      obtain ⟨b5, H⟩ := H
      refine zq_iast (sh_6 wh4) b5 dX5_keep_64 (fun h6 eh6 => ?_)
      have H := H h6 eh6
      have wh6 := wf_I eh6 wh4
      refine zq_aload_n (k := 0) (i := 0) (x := 5) 1 rfl rfl dX5_keep_65 ?_
      refine zq_getP fl_RX5_11 rfl (sh_5 wh6) (rf_5_0 wh6) dX5_keep_66 ?_
      refine zq_iload (i := 5) (x := ((h.I 5 1) * (nI 4))) 0 rfl dX5_keep_69 ?_
      refine zq_iconst (v := (nI 2)) rfl dX5_keep_71 ?_
      refine zq_iadd dX5_keep_72 ?_
      refine zq_iload_n (k := 3) (i := 3) (x := i3) 4 rfl rfl dX5_keep_73 ?_
      obtain ⟨b7, H⟩ := H
      refine zq_iast (sh_6 wh6) b7 dX5_keep_74 (fun h8 eh8 => ?_)
      have H := H h8 eh8
      have wh8 := wf_I eh8 wh6
      refine zq_aload_n (k := 0) (i := 0) (x := 5) 1 rfl rfl dX5_keep_75 ?_
      refine zq_getP fl_RX5_11 rfl (sh_5 wh8) (rf_5_0 wh8) dX5_keep_76 ?_
      refine zq_iload (i := 5) (x := ((h.I 5 1) * (nI 4))) 0 rfl dX5_keep_79 ?_
      refine zq_iconst (v := (nI 3)) rfl dX5_keep_81 ?_
      refine zq_iadd dX5_keep_82 ?_
      refine zq_iload (i := 4) (x := i4) 5 rfl dX5_keep_83 ?_
      obtain ⟨b9, H⟩ := H
      refine zq_iast (sh_6 wh8) b9 dX5_keep_85 (fun h10 eh10 => ?_)
      have H := H h10 eh10
      have wh10 := wf_I eh10 wh8
      refine zq_aload_n (k := 0) (i := 0) (x := 5) 1 rfl rfl dX5_keep_86 ?_
      refine zq_dup rfl dX5_keep_87 ?_
      refine zq_getI fl_RX5_15 rfl (sh_5 wh10) dX5_keep_88 ?_
      refine zq_iconst (v := (nI 1)) rfl dX5_keep_91 ?_
      refine zq_iadd dX5_keep_92 ?_
      refine zq_putI fl_RX5_15 rfl (Or.inl rfl) (sh_5 wh10) rfl rfl dX5_keep_93 (fun h11 eh11 => ?_)
      have H := H h11 eh11
      have wh11 := wf_I eh11 wh10
      exact zq_vret dX5_keep_96 rfl H
    · have H := H.2 c2
      refine zq_iconst (v := (nI 1)) rfl dX5_keep_49 ?_
      refine zq_goto (tgt := 54) dX5_keep_50 rfl ?_
      obtain ⟨b12, H⟩ := H
      refine zq_iast (sh_6 hw) b12 dX5_keep_54 (fun h13 eh13 => ?_)
      have H := H h13 eh13
      have wh13 := wf_I eh13 hw
      refine zq_aload_n (k := 0) (i := 0) (x := 5) 1 rfl rfl dX5_keep_55 ?_
      refine zq_getP fl_RX5_11 rfl (sh_5 wh13) (rf_5_0 wh13) dX5_keep_56 ?_
      refine zq_iload (i := 5) (x := ((h.I 5 1) * (nI 4))) 0 rfl dX5_keep_59 ?_
      refine zq_iconst (v := (nI 1)) rfl dX5_keep_61 ?_
      refine zq_iadd dX5_keep_62 ?_
      refine zq_iload_n (k := 2) (i := 2) (x := i2) 3 rfl rfl dX5_keep_63 ?_
      obtain ⟨b14, H⟩ := H
      refine zq_iast (sh_6 wh13) b14 dX5_keep_64 (fun h15 eh15 => ?_)
      have H := H h15 eh15
      have wh15 := wf_I eh15 wh13
      refine zq_aload_n (k := 0) (i := 0) (x := 5) 1 rfl rfl dX5_keep_65 ?_
      refine zq_getP fl_RX5_11 rfl (sh_5 wh15) (rf_5_0 wh15) dX5_keep_66 ?_
      refine zq_iload (i := 5) (x := ((h.I 5 1) * (nI 4))) 0 rfl dX5_keep_69 ?_
      refine zq_iconst (v := (nI 2)) rfl dX5_keep_71 ?_
      refine zq_iadd dX5_keep_72 ?_
      refine zq_iload_n (k := 3) (i := 3) (x := i3) 4 rfl rfl dX5_keep_73 ?_
      obtain ⟨b16, H⟩ := H
      refine zq_iast (sh_6 wh15) b16 dX5_keep_74 (fun h17 eh17 => ?_)
      have H := H h17 eh17
      have wh17 := wf_I eh17 wh15
      refine zq_aload_n (k := 0) (i := 0) (x := 5) 1 rfl rfl dX5_keep_75 ?_
      refine zq_getP fl_RX5_11 rfl (sh_5 wh17) (rf_5_0 wh17) dX5_keep_76 ?_
      refine zq_iload (i := 5) (x := ((h.I 5 1) * (nI 4))) 0 rfl dX5_keep_79 ?_
      refine zq_iconst (v := (nI 3)) rfl dX5_keep_81 ?_
      refine zq_iadd dX5_keep_82 ?_
      refine zq_iload (i := 4) (x := i4) 5 rfl dX5_keep_83 ?_
      obtain ⟨b18, H⟩ := H
      refine zq_iast (sh_6 wh17) b18 dX5_keep_85 (fun h19 eh19 => ?_)
      have H := H h19 eh19
      have wh19 := wf_I eh19 wh17
      refine zq_aload_n (k := 0) (i := 0) (x := 5) 1 rfl rfl dX5_keep_86 ?_
      refine zq_dup rfl dX5_keep_87 ?_
      refine zq_getI fl_RX5_15 rfl (sh_5 wh19) dX5_keep_88 ?_
      refine zq_iconst (v := (nI 1)) rfl dX5_keep_91 ?_
      refine zq_iadd dX5_keep_92 ?_
      refine zq_putI fl_RX5_15 rfl (Or.inl rfl) (sh_5 wh19) rfl rfl dX5_keep_93 (fun h20 eh20 => ?_)
      have H := H h20 eh20
      have wh20 := wf_I eh20 wh19
      exact zq_vret dX5_keep_96 rfl H
  · have H := H.2 c1
    refine zq_aload_n (k := 0) (i := 0) (x := 5) 0 rfl rfl dX5_keep_9 ?_
    refine zq_getP fl_RX5_11 rfl (sh_5 hw) (rf_5_0 hw) dX5_keep_10 ?_
    refine zq_iconst (v := (nI 4)) rfl dX5_keep_13 ?_
    refine zq_aload_n (k := 0) (i := 0) (x := 5) 0 rfl rfl dX5_keep_14 ?_
    refine zq_getP fl_RX5_11 rfl (sh_5 hw) (rf_5_0 hw) dX5_keep_15 ?_
    refine zq_iconst (v := (nI 0)) rfl dX5_keep_18 ?_
    refine zq_sipush (v := (nI 236)) rfl dX5_keep_19 ?_
    obtain ⟨⟨a211, a212, a213, a214, a215⟩, H⟩ := H
    refine zq_copyI ac_RX5_19 (sh_6 hw) (sh_6 hw) a211 a212 a213 a214 a215 (Nat.le_of_ble_eq_true rfl) dX5_keep_22 (fun h22 eh22 => ?_)
    have H := H h22 eh22
    have wh22 := wf_I eh22 hw
    refine zq_aload_n (k := 0) (i := 0) (x := 5) 0 rfl rfl dX5_keep_25 ?_
    refine zq_bipush (v := (nI 59)) rfl dX5_keep_26 ?_
    refine zq_putI fl_RX5_15 rfl (Or.inl rfl) (sh_5 wh22) rfl rfl dX5_keep_28 (fun h23 eh23 => ?_)
    have H := H h23 eh23
    have wh23 := wf_I eh23 wh22
    refine zq_aload_n (k := 0) (i := 0) (x := 5) 0 rfl rfl dX5_keep_31 ?_
    refine zq_getI fl_RX5_15 rfl (sh_5 wh23) dX5_keep_32 ?_
    refine zq_iconst (v := (nI 4)) rfl dX5_keep_35 ?_
    refine zq_imul dX5_keep_36 ?_
    refine zq_istore (ls' := [(5, .int ((h23.I 5 1) * (nI 4))), (0, .ref 5), (1, .int i1), (2, .int i2), (3, .int i3), (4, .int i4)]) (i := 5) (Nat.le_of_ble_eq_true rfl) rfl dX5_keep_37 ?_
    refine zq_aload_n (k := 0) (i := 0) (x := 5) 1 rfl rfl dX5_keep_39 ?_
    refine zq_getP fl_RX5_11 rfl (sh_5 wh23) (rf_5_0 wh23) dX5_keep_40 ?_
    refine zq_iload (i := 5) (x := ((h23.I 5 1) * (nI 4))) 0 rfl dX5_keep_43 ?_
    refine zq_iload_n (k := 1) (i := 1) (x := i1) 2 rfl rfl dX5_keep_45 ?_
    refine zq_if_eq (tgt := 53) dX5_keep_46 rfl ⟨fun c24 => ?_, fun c24 => ?_⟩
    · have H := H.1 c24
      refine zq_iconst (v := (nI 0)) rfl dX5_keep_53 ?_
      obtain ⟨b25, H⟩ := H
      refine zq_iast (sh_6 wh23) b25 dX5_keep_54 (fun h26 eh26 => ?_)
      have H := H h26 eh26
      have wh26 := wf_I eh26 wh23
      refine zq_aload_n (k := 0) (i := 0) (x := 5) 1 rfl rfl dX5_keep_55 ?_
      refine zq_getP fl_RX5_11 rfl (sh_5 wh26) (rf_5_0 wh26) dX5_keep_56 ?_
      refine zq_iload (i := 5) (x := ((h23.I 5 1) * (nI 4))) 0 rfl dX5_keep_59 ?_
      refine zq_iconst (v := (nI 1)) rfl dX5_keep_61 ?_
      refine zq_iadd dX5_keep_62 ?_
      refine zq_iload_n (k := 2) (i := 2) (x := i2) 3 rfl rfl dX5_keep_63 ?_
      obtain ⟨b27, H⟩ := H
      refine zq_iast (sh_6 wh26) b27 dX5_keep_64 (fun h28 eh28 => ?_)
      have H := H h28 eh28
      have wh28 := wf_I eh28 wh26
      refine zq_aload_n (k := 0) (i := 0) (x := 5) 1 rfl rfl dX5_keep_65 ?_
      refine zq_getP fl_RX5_11 rfl (sh_5 wh28) (rf_5_0 wh28) dX5_keep_66 ?_
      refine zq_iload (i := 5) (x := ((h23.I 5 1) * (nI 4))) 0 rfl dX5_keep_69 ?_
      refine zq_iconst (v := (nI 2)) rfl dX5_keep_71 ?_
      refine zq_iadd dX5_keep_72 ?_
      refine zq_iload_n (k := 3) (i := 3) (x := i3) 4 rfl rfl dX5_keep_73 ?_
      obtain ⟨b29, H⟩ := H
      refine zq_iast (sh_6 wh28) b29 dX5_keep_74 (fun h30 eh30 => ?_)
      have H := H h30 eh30
      have wh30 := wf_I eh30 wh28
      refine zq_aload_n (k := 0) (i := 0) (x := 5) 1 rfl rfl dX5_keep_75 ?_
      refine zq_getP fl_RX5_11 rfl (sh_5 wh30) (rf_5_0 wh30) dX5_keep_76 ?_
      refine zq_iload (i := 5) (x := ((h23.I 5 1) * (nI 4))) 0 rfl dX5_keep_79 ?_
      refine zq_iconst (v := (nI 3)) rfl dX5_keep_81 ?_
      refine zq_iadd dX5_keep_82 ?_
      refine zq_iload (i := 4) (x := i4) 5 rfl dX5_keep_83 ?_
      obtain ⟨b31, H⟩ := H
      refine zq_iast (sh_6 wh30) b31 dX5_keep_85 (fun h32 eh32 => ?_)
      have H := H h32 eh32
      have wh32 := wf_I eh32 wh30
      refine zq_aload_n (k := 0) (i := 0) (x := 5) 1 rfl rfl dX5_keep_86 ?_
      refine zq_dup rfl dX5_keep_87 ?_
      refine zq_getI fl_RX5_15 rfl (sh_5 wh32) dX5_keep_88 ?_
      refine zq_iconst (v := (nI 1)) rfl dX5_keep_91 ?_
      refine zq_iadd dX5_keep_92 ?_
      refine zq_putI fl_RX5_15 rfl (Or.inl rfl) (sh_5 wh32) rfl rfl dX5_keep_93 (fun h33 eh33 => ?_)
      have H := H h33 eh33
      have wh33 := wf_I eh33 wh32
      exact zq_vret dX5_keep_96 rfl H
    · have H := H.2 c24
      refine zq_iconst (v := (nI 1)) rfl dX5_keep_49 ?_
      refine zq_goto (tgt := 54) dX5_keep_50 rfl ?_
      obtain ⟨b34, H⟩ := H
      refine zq_iast (sh_6 wh23) b34 dX5_keep_54 (fun h35 eh35 => ?_)
      have H := H h35 eh35
      have wh35 := wf_I eh35 wh23
      refine zq_aload_n (k := 0) (i := 0) (x := 5) 1 rfl rfl dX5_keep_55 ?_
      refine zq_getP fl_RX5_11 rfl (sh_5 wh35) (rf_5_0 wh35) dX5_keep_56 ?_
      refine zq_iload (i := 5) (x := ((h23.I 5 1) * (nI 4))) 0 rfl dX5_keep_59 ?_
      refine zq_iconst (v := (nI 1)) rfl dX5_keep_61 ?_
      refine zq_iadd dX5_keep_62 ?_
      refine zq_iload_n (k := 2) (i := 2) (x := i2) 3 rfl rfl dX5_keep_63 ?_
      obtain ⟨b36, H⟩ := H
      refine zq_iast (sh_6 wh35) b36 dX5_keep_64 (fun h37 eh37 => ?_)
      have H := H h37 eh37
      have wh37 := wf_I eh37 wh35
      refine zq_aload_n (k := 0) (i := 0) (x := 5) 1 rfl rfl dX5_keep_65 ?_
      refine zq_getP fl_RX5_11 rfl (sh_5 wh37) (rf_5_0 wh37) dX5_keep_66 ?_
      refine zq_iload (i := 5) (x := ((h23.I 5 1) * (nI 4))) 0 rfl dX5_keep_69 ?_
      refine zq_iconst (v := (nI 2)) rfl dX5_keep_71 ?_
      refine zq_iadd dX5_keep_72 ?_
      refine zq_iload_n (k := 3) (i := 3) (x := i3) 4 rfl rfl dX5_keep_73 ?_
      obtain ⟨b38, H⟩ := H
      refine zq_iast (sh_6 wh37) b38 dX5_keep_74 (fun h39 eh39 => ?_)
      have H := H h39 eh39
      have wh39 := wf_I eh39 wh37
      refine zq_aload_n (k := 0) (i := 0) (x := 5) 1 rfl rfl dX5_keep_75 ?_
      refine zq_getP fl_RX5_11 rfl (sh_5 wh39) (rf_5_0 wh39) dX5_keep_76 ?_
      refine zq_iload (i := 5) (x := ((h23.I 5 1) * (nI 4))) 0 rfl dX5_keep_79 ?_
      refine zq_iconst (v := (nI 3)) rfl dX5_keep_81 ?_
      refine zq_iadd dX5_keep_82 ?_
      refine zq_iload (i := 4) (x := i4) 5 rfl dX5_keep_83 ?_
      obtain ⟨b40, H⟩ := H
      refine zq_iast (sh_6 wh39) b40 dX5_keep_85 (fun h41 eh41 => ?_)
      have H := H h41 eh41
      have wh41 := wf_I eh41 wh39
      refine zq_aload_n (k := 0) (i := 0) (x := 5) 1 rfl rfl dX5_keep_86 ?_
      refine zq_dup rfl dX5_keep_87 ?_
      refine zq_getI fl_RX5_15 rfl (sh_5 wh41) dX5_keep_88 ?_
      refine zq_iconst (v := (nI 1)) rfl dX5_keep_91 ?_
      refine zq_iadd dX5_keep_92 ?_
      refine zq_putI fl_RX5_15 rfl (Or.inl rfl) (sh_5 wh41) rfl rfl dX5_keep_93 (fun h42 eh42 => ?_)
      have H := H h42 eh42
      have wh42 := wf_I eh42 wh41
      exact zq_vret dX5_keep_96 rfl H
set_option maxHeartbeats 2000000 in
set_option maxRecDepth 20000 in
theorem r_X5_hadCome_0 {d : Nat} {h : AH} {Q : Option Value → AH → Prop} (i1 : Int32) (hw : zWF h)  (H : vp_in (i1 * (nI 4)) 240 ∧ (((h.I 6 (i1 * (nI 4)).toNatClampNeg) ≠ (nI 1) → Q (some (.int (nI 0))) h) ∧ ((h.I 6 (i1 * (nI 4)).toNatClampNeg) = (nI 1) → Q (some (.int (nI 1))) h))) : zK (d + 1) m_X5_hadCome [.ref 5, .int i1] h Q := by
  refine zK_of mo_X5_hadCome (Nat.le_of_ble_eq_true rfl) ?_
  show zQ none m_X5_hadCome (d + 1) 0 [(0, .ref 5), (1, .int i1)] [] h Q
  refine zq_aload_n (k := 0) (i := 0) (x := 5) 0 rfl rfl dX5_hadCome_0 ?_
  refine zq_getP fl_RX5_11 rfl (sh_5 hw) (rf_5_0 hw) dX5_hadCome_1 ?_
  refine zq_iload_n (k := 1) (i := 1) (x := i1) 1 rfl rfl dX5_hadCome_4 ?_
  refine zq_iconst (v := (nI 4)) rfl dX5_hadCome_5 ?_
  refine zq_imul dX5_hadCome_6 ?_
  obtain ⟨b1, H⟩ := H
  refine zq_iald (sh_6 hw) b1 dX5_hadCome_7 ?_
  refine zq_iconst (v := (nI 1)) rfl dX5_hadCome_8 ?_
  refine zq_icmp_ne (tgt := 16) dX5_hadCome_9 rfl ⟨fun c2 => ?_, fun c2 => ?_⟩
  · have H := H.1 c2
    refine zq_iconst (v := (nI 0)) rfl dX5_hadCome_16 ?_
    exact zq_iret dX5_hadCome_17 rfl rfl rfl H
  · have H := H.2 c2
    refine zq_iconst (v := (nI 1)) rfl dX5_hadCome_12 ?_
    refine zq_goto (tgt := 17) dX5_hadCome_13 rfl ?_
    exact zq_iret dX5_hadCome_17 rfl rfl rfl H
set_option maxHeartbeats 2000000 in
set_option maxRecDepth 20000 in
theorem r_X5_firstOf_0 {d : Nat} {h : AH} {Q : Option Value → AH → Prop} (i1 : Int32) (hw : zWF h)  (H : vp_in ((i1 * (nI 4)) + (nI 1)) 240 ∧ (Q (some (.int (h.I 6 ((i1 * (nI 4)) + (nI 1)).toNatClampNeg))) h)) : zK (d + 1) m_X5_firstOf [.ref 5, .int i1] h Q := by
  refine zK_of mo_X5_firstOf (Nat.le_of_ble_eq_true rfl) ?_
  show zQ none m_X5_firstOf (d + 1) 0 [(0, .ref 5), (1, .int i1)] [] h Q
  refine zq_aload_n (k := 0) (i := 0) (x := 5) 0 rfl rfl dX5_firstOf_0 ?_
  refine zq_getP fl_RX5_11 rfl (sh_5 hw) (rf_5_0 hw) dX5_firstOf_1 ?_
  refine zq_iload_n (k := 1) (i := 1) (x := i1) 1 rfl rfl dX5_firstOf_4 ?_
  refine zq_iconst (v := (nI 4)) rfl dX5_firstOf_5 ?_
  refine zq_imul dX5_firstOf_6 ?_
  refine zq_iconst (v := (nI 1)) rfl dX5_firstOf_7 ?_
  refine zq_iadd dX5_firstOf_8 ?_
  obtain ⟨b1, H⟩ := H
  refine zq_iald (sh_6 hw) b1 dX5_firstOf_9 ?_
  exact zq_iret dX5_firstOf_10 rfl rfl rfl H
set_option maxHeartbeats 2000000 in
set_option maxRecDepth 20000 in
theorem r_X5_secondOf_0 {d : Nat} {h : AH} {Q : Option Value → AH → Prop} (i1 : Int32) (hw : zWF h)  (H : vp_in ((i1 * (nI 4)) + (nI 2)) 240 ∧ (Q (some (.int (h.I 6 ((i1 * (nI 4)) + (nI 2)).toNatClampNeg))) h)) : zK (d + 1) m_X5_secondOf [.ref 5, .int i1] h Q := by
  refine zK_of mo_X5_secondOf (Nat.le_of_ble_eq_true rfl) ?_
  show zQ none m_X5_secondOf (d + 1) 0 [(0, .ref 5), (1, .int i1)] [] h Q
  refine zq_aload_n (k := 0) (i := 0) (x := 5) 0 rfl rfl dX5_secondOf_0 ?_
  refine zq_getP fl_RX5_11 rfl (sh_5 hw) (rf_5_0 hw) dX5_secondOf_1 ?_
  refine zq_iload_n (k := 1) (i := 1) (x := i1) 1 rfl rfl dX5_secondOf_4 ?_
  refine zq_iconst (v := (nI 4)) rfl dX5_secondOf_5 ?_
  refine zq_imul dX5_secondOf_6 ?_
  refine zq_iconst (v := (nI 2)) rfl dX5_secondOf_7 ?_
  refine zq_iadd dX5_secondOf_8 ?_
  obtain ⟨b1, H⟩ := H
  refine zq_iald (sh_6 hw) b1 dX5_secondOf_9 ?_
  exact zq_iret dX5_secondOf_10 rfl rfl rfl H
set_option maxHeartbeats 2000000 in
set_option maxRecDepth 20000 in
theorem r_X5_worthOf_0 {d : Nat} {h : AH} {Q : Option Value → AH → Prop} (i1 : Int32) (hw : zWF h)  (H : vp_in ((i1 * (nI 4)) + (nI 3)) 240 ∧ (Q (some (.int (h.I 6 ((i1 * (nI 4)) + (nI 3)).toNatClampNeg))) h)) : zK (d + 1) m_X5_worthOf [.ref 5, .int i1] h Q := by
  refine zK_of mo_X5_worthOf (Nat.le_of_ble_eq_true rfl) ?_
  show zQ none m_X5_worthOf (d + 1) 0 [(0, .ref 5), (1, .int i1)] [] h Q
  refine zq_aload_n (k := 0) (i := 0) (x := 5) 0 rfl rfl dX5_worthOf_0 ?_
  refine zq_getP fl_RX5_11 rfl (sh_5 hw) (rf_5_0 hw) dX5_worthOf_1 ?_
  refine zq_iload_n (k := 1) (i := 1) (x := i1) 1 rfl rfl dX5_worthOf_4 ?_
  refine zq_iconst (v := (nI 4)) rfl dX5_worthOf_5 ?_
  refine zq_imul dX5_worthOf_6 ?_
  refine zq_iconst (v := (nI 3)) rfl dX5_worthOf_7 ?_
  refine zq_iadd dX5_worthOf_8 ?_
  obtain ⟨b1, H⟩ := H
  refine zq_iald (sh_6 hw) b1 dX5_worthOf_9 ?_
  exact zq_iret dX5_worthOf_10 rfl rfl rfl H
set_option maxHeartbeats 2000000 in
set_option maxRecDepth 20000 in
theorem r_X5_become_k_0 {d : Nat} {h : AH} {Q : Option Value → AH → Prop}  (hw : zWF h)  (H : (¬ (nI 0) < 0 ∧ ¬ (nI 0) < 0 ∧ ¬ (nI 240) < 0 ∧ (nI 0).toNatClampNeg + (nI 240).toNatClampNeg ≤ 240 ∧ (nI 0).toNatClampNeg + (nI 240).toNatClampNeg ≤ 240) ∧ (∀ h2, h2 = h.wI 11 (va_cpy (h.I 6) (h.I 11) (nI 0).toNatClampNeg (nI 0).toNatClampNeg (nI 240).toNatClampNeg) → ∀ h3, h3 = h2.sI 10 1 (h2.I 5 1) → Q none h3)) : zK (d + 1) m_X5_become [.ref 10, .ref 5] h Q := by
  refine zK_of mo_X5_become (Nat.le_of_ble_eq_true rfl) ?_
  show zQ none m_X5_become (d + 1) 0 [(0, .ref 10), (1, .ref 5)] [] h Q
  refine zq_aload_n (k := 1) (i := 1) (x := 5) 1 rfl rfl dX5_become_0 ?_
  refine zq_getP fl_RX5_11 rfl (sh_5 hw) (rf_5_0 hw) dX5_become_1 ?_
  refine zq_iconst (v := (nI 0)) rfl dX5_become_4 ?_
  refine zq_aload_n (k := 0) (i := 0) (x := 10) 0 rfl rfl dX5_become_5 ?_
  refine zq_getP fl_RX5_11 rfl (sh_10 hw) (rf_10_0 hw) dX5_become_6 ?_
  refine zq_iconst (v := (nI 0)) rfl dX5_become_9 ?_
  refine zq_aload_n (k := 0) (i := 0) (x := 10) 0 rfl rfl dX5_become_10 ?_
  refine zq_getP fl_RX5_11 rfl (sh_10 hw) (rf_10_0 hw) dX5_become_11 ?_
  refine zq_alen (v := nI 240) (sh_11 hw) (by decide) rfl dX5_become_14 ?_
  obtain ⟨⟨a11, a12, a13, a14, a15⟩, H⟩ := H
  refine zq_copyI ac_RX5_19 (sh_6 hw) (sh_11 hw) a11 a12 a13 a14 a15 (Nat.le_of_ble_eq_true rfl) dX5_become_15 (fun h2 eh2 => ?_)
  have H := H h2 eh2
  have wh2 := wf_I eh2 hw
  refine zq_aload_n (k := 0) (i := 0) (x := 10) 0 rfl rfl dX5_become_18 ?_
  refine zq_aload_n (k := 1) (i := 1) (x := 5) 1 rfl rfl dX5_become_19 ?_
  refine zq_getI fl_RX5_15 rfl (sh_5 wh2) dX5_become_20 ?_
  refine zq_putI fl_RX5_15 rfl (Or.inl rfl) (sh_10 wh2) rfl rfl dX5_become_23 (fun h3 eh3 => ?_)
  have H := H h3 eh3
  have wh3 := wf_I eh3 wh2
  exact zq_vret dX5_become_26 rfl H
set_option maxHeartbeats 2000000 in
set_option maxRecDepth 20000 in
theorem r_X5_become_n_0 {d : Nat} {h : AH} {Q : Option Value → AH → Prop}  (hw : zWF h)  (H : (¬ (nI 0) < 0 ∧ ¬ (nI 0) < 0 ∧ ¬ (nI 240) < 0 ∧ (nI 0).toNatClampNeg + (nI 240).toNatClampNeg ≤ 240 ∧ (nI 0).toNatClampNeg + (nI 240).toNatClampNeg ≤ 240) ∧ (∀ h2, h2 = h.wI 6 (va_cpy (h.I 11) (h.I 6) (nI 0).toNatClampNeg (nI 0).toNatClampNeg (nI 240).toNatClampNeg) → ∀ h3, h3 = h2.sI 5 1 (h2.I 10 1) → Q none h3)) : zK (d + 1) m_X5_become [.ref 5, .ref 10] h Q := by
  refine zK_of mo_X5_become (Nat.le_of_ble_eq_true rfl) ?_
  show zQ none m_X5_become (d + 1) 0 [(0, .ref 5), (1, .ref 10)] [] h Q
  refine zq_aload_n (k := 1) (i := 1) (x := 10) 1 rfl rfl dX5_become_0 ?_
  refine zq_getP fl_RX5_11 rfl (sh_10 hw) (rf_10_0 hw) dX5_become_1 ?_
  refine zq_iconst (v := (nI 0)) rfl dX5_become_4 ?_
  refine zq_aload_n (k := 0) (i := 0) (x := 5) 0 rfl rfl dX5_become_5 ?_
  refine zq_getP fl_RX5_11 rfl (sh_5 hw) (rf_5_0 hw) dX5_become_6 ?_
  refine zq_iconst (v := (nI 0)) rfl dX5_become_9 ?_
  refine zq_aload_n (k := 0) (i := 0) (x := 5) 0 rfl rfl dX5_become_10 ?_
  refine zq_getP fl_RX5_11 rfl (sh_5 hw) (rf_5_0 hw) dX5_become_11 ?_
  refine zq_alen (v := nI 240) (sh_6 hw) (by decide) rfl dX5_become_14 ?_
  obtain ⟨⟨a11, a12, a13, a14, a15⟩, H⟩ := H
  refine zq_copyI ac_RX5_19 (sh_11 hw) (sh_6 hw) a11 a12 a13 a14 a15 (Nat.le_of_ble_eq_true rfl) dX5_become_15 (fun h2 eh2 => ?_)
  have H := H h2 eh2
  have wh2 := wf_I eh2 hw
  refine zq_aload_n (k := 0) (i := 0) (x := 5) 0 rfl rfl dX5_become_18 ?_
  refine zq_aload_n (k := 1) (i := 1) (x := 10) 1 rfl rfl dX5_become_19 ?_
  refine zq_getI fl_RX5_15 rfl (sh_10 wh2) dX5_become_20 ?_
  refine zq_putI fl_RX5_15 rfl (Or.inl rfl) (sh_5 wh2) rfl rfl dX5_become_23 (fun h3 eh3 => ?_)
  have H := H h3 eh3
  have wh3 := wf_I eh3 wh2
  exact zq_vret dX5_become_26 rfl H
set_option maxHeartbeats 2000000 in
set_option maxRecDepth 20000 in
theorem r_X6_follow_0 {d : Nat} {h : AH} {Q : Option Value → AH → Prop}  (hw : zWF h)  (H : zQ none m_X6_follow (d + 1) 4 [(0, .ref 12), (1, .ref 3), (2, .int (nI 1)), (3, .int (nI 0))] [] h Q) : zK (d + 1) m_X6_follow [.ref 12, .ref 3] h Q := by
  refine zK_of mo_X6_follow (Nat.le_of_ble_eq_true rfl) ?_
  show zQ none m_X6_follow (d + 1) 0 [(0, .ref 12), (1, .ref 3)] [] h Q
  refine zq_iconst (v := (nI 1)) rfl dX6_follow_0 ?_
  refine zq_istore_n (ls' := [(2, .int (nI 1)), (0, .ref 12), (1, .ref 3)]) (k := 2) (i := 2) rfl (Nat.le_of_ble_eq_true rfl) rfl dX6_follow_1 ?_
  refine zq_iconst (v := (nI 0)) rfl dX6_follow_2 ?_
  refine zq_istore_n (ls' := [(3, .int (nI 0)), (2, .int (nI 1)), (0, .ref 12), (1, .ref 3)]) (k := 3) (i := 3) rfl (Nat.le_of_ble_eq_true rfl) rfl dX6_follow_3 ?_
  exact zq_sub (ls' := [(0, .ref 12), (1, .ref 3), (2, .int (nI 1)), (3, .int (nI 0))]) [2, 3, 1, 0] rfl H
set_option maxHeartbeats 2000000 in
set_option maxRecDepth 20000 in
theorem r_X6_follow_4 {d : Nat} {h : AH} {Q : Option Value → AH → Prop} (i2 : Int32) (i3 : Int32) (hw : zWF h)  (H : ((nI 40) ≤ i3 → (i2 ≠ 0 → Q none h) ∧ (i2 = 0 → (¬ (nI 0) < 0 ∧ ¬ (nI 0) < 0 ∧ ¬ (nI 40) < 0 ∧ (nI 0).toNatClampNeg + (nI 40).toNatClampNeg ≤ 40 ∧ (nI 0).toNatClampNeg + (nI 40).toNatClampNeg ≤ 40) ∧ (∀ h4, h4 = h.wL 13 (va_cpy (h.L 3) (h.L 13) (nI 0).toNatClampNeg (nI 0).toNatClampNeg (nI 40).toNatClampNeg) → zK d m_X6_gather [.ref 12] h4 (kV fun h5 => zK d m_X6_peel [.ref 12] h5 (kV fun h6 => Q none h6))))) ∧ (¬ (nI 40) ≤ i3 → (i2 = 0 → zQ none m_X6_follow (d + 1) 4 [(0, .ref 12), (1, .ref 3), (2, .int (nI 0)), (3, .int (i3 + (nI 1)))] [] h Q) ∧ (¬ i2 = 0 → vp_in i3 40 ∧ (vp_in i3 40 ∧ (((lg_cmp (h.L 13 i3.toNatClampNeg) (h.L 3 i3.toNatClampNeg)) ≠ 0 → zQ none m_X6_follow (d + 1) 4 [(0, .ref 12), (1, .ref 3), (2, .int (nI 0)), (3, .int (i3 + (nI 1)))] [] h Q) ∧ ((lg_cmp (h.L 13 i3.toNatClampNeg) (h.L 3 i3.toNatClampNeg)) = 0 → zQ none m_X6_follow (d + 1) 4 [(0, .ref 12), (1, .ref 3), (2, .int (nI 1)), (3, .int (i3 + (nI 1)))] [] h Q)))))) : zQ none m_X6_follow (d + 1) 4 [(0, .ref 12), (1, .ref 3), (2, .int i2), (3, .int i3)] [] h Q := by
  refine zq_iload_n (k := 3) (i := 3) (x := i3) 3 rfl rfl dX6_follow_4 ?_
  refine zq_bipush (v := (nI 40)) rfl dX6_follow_5 ?_
  refine zq_icmp_ge (tgt := 39) dX6_follow_7 rfl ⟨fun c1 => ?_, fun c1 => ?_⟩
  · have H := H.1 c1
    refine zq_iload_n (k := 2) (i := 2) (x := i2) 2 rfl rfl dX6_follow_39 ?_
    refine zq_if_ne (tgt := 63) dX6_follow_40 rfl ⟨fun c2 => ?_, fun c2 => ?_⟩
    · have H := H.1 c2
      exact zq_vret dX6_follow_63 rfl H
    · have H := H.2 c2
      refine zq_aload_n (k := 1) (i := 1) (x := 3) 1 rfl rfl dX6_follow_43 ?_
      refine zq_iconst (v := (nI 0)) rfl dX6_follow_44 ?_
      refine zq_aload_n (k := 0) (i := 0) (x := 12) 0 rfl rfl dX6_follow_45 ?_
      refine zq_getP fl_RX6_9 rfl (sh_12 hw) (rf_12_0 hw) dX6_follow_46 ?_
      refine zq_iconst (v := (nI 0)) rfl dX6_follow_49 ?_
      refine zq_bipush (v := (nI 40)) rfl dX6_follow_50 ?_
      obtain ⟨⟨a31, a32, a33, a34, a35⟩, H⟩ := H
      refine zq_copyL ac_RX6_41 (sh_3 hw) (sh_13 hw) a31 a32 a33 a34 a35 (Nat.le_of_ble_eq_true rfl) dX6_follow_52 (fun h4 eh4 => ?_)
      have H := H h4 eh4
      have wh4 := wf_L eh4 hw
      refine zq_aload_n (k := 0) (i := 0) (x := 12) 0 rfl rfl dX6_follow_55 ?_
      refine zq_invV (as := []) (st := []) (o := 12) (c := 5) (by decide) rfl (sh_12 wh4) in_X6_gather se_X6_gather mo_X6_gather ml_RX6_47 rfl (Nat.le_of_ble_eq_true rfl) dX6_follow_56 rfl H (fun r1 h5 hq => ?_)
      obtain ⟨rfl, wh5, H⟩ := hq
      show zQ none m_X6_follow (d + 1) 59 [(0, .ref 12), (1, .ref 3), (2, .int i2), (3, .int i3)] ([]) h5 Q
      refine zq_aload_n (k := 0) (i := 0) (x := 12) 0 rfl rfl dX6_follow_59 ?_
      refine zq_invV (as := []) (st := []) (o := 12) (c := 5) (by decide) rfl (sh_12 wh5) in_X6_peel se_X6_peel mo_X6_peel ml_RX6_50 rfl (Nat.le_of_ble_eq_true rfl) dX6_follow_60 rfl H (fun r1 h6 hq => ?_)
      obtain ⟨rfl, wh6, H⟩ := hq
      show zQ none m_X6_follow (d + 1) 63 [(0, .ref 12), (1, .ref 3), (2, .int i2), (3, .int i3)] ([]) h6 Q
      exact zq_vret dX6_follow_63 rfl H
  · have H := H.2 c1
    refine zq_iload_n (k := 2) (i := 2) (x := i2) 2 rfl rfl dX6_follow_10 ?_
    refine zq_if_eq (tgt := 31) dX6_follow_11 rfl ⟨fun c7 => ?_, fun c7 => ?_⟩
    · have H := H.1 c7
      refine zq_iconst (v := (nI 0)) rfl dX6_follow_31 ?_
      refine zq_istore_n (ls' := [(2, .int (nI 0)), (0, .ref 12), (1, .ref 3), (3, .int i3)]) (k := 2) (i := 2) rfl (Nat.le_of_ble_eq_true rfl) rfl dX6_follow_32 ?_
      refine zq_iinc (i := 3) (x := i3) (v := (nI 1)) (ls' := [(3, .int (i3 + (nI 1))), (2, .int (nI 0)), (0, .ref 12), (1, .ref 3)]) 3 rfl rfl (Nat.le_of_ble_eq_true rfl) rfl dX6_follow_33 ?_
      refine zq_goto (tgt := 4) dX6_follow_36 rfl ?_
      exact zq_sub (ls' := [(0, .ref 12), (1, .ref 3), (2, .int (nI 0)), (3, .int (i3 + (nI 1)))]) [2, 3, 1, 0] rfl H
    · have H := H.2 c7
      refine zq_aload_n (k := 0) (i := 0) (x := 12) 0 rfl rfl dX6_follow_14 ?_
      refine zq_getP fl_RX6_9 rfl (sh_12 hw) (rf_12_0 hw) dX6_follow_15 ?_
      refine zq_iload_n (k := 3) (i := 3) (x := i3) 3 rfl rfl dX6_follow_18 ?_
      obtain ⟨b8, H⟩ := H
      refine zq_lald (sh_13 hw) b8 dX6_follow_19 ?_
      refine zq_aload_n (k := 1) (i := 1) (x := 3) 1 rfl rfl dX6_follow_20 ?_
      refine zq_iload_n (k := 3) (i := 3) (x := i3) 3 rfl rfl dX6_follow_21 ?_
      obtain ⟨b9, H⟩ := H
      refine zq_lald (sh_3 hw) b9 dX6_follow_22 ?_
      refine zq_lcmp dX6_follow_23 ?_
      refine zq_if_ne (tgt := 31) dX6_follow_24 rfl ⟨fun c10 => ?_, fun c10 => ?_⟩
      · have H := H.1 c10
        refine zq_iconst (v := (nI 0)) rfl dX6_follow_31 ?_
        refine zq_istore_n (ls' := [(2, .int (nI 0)), (0, .ref 12), (1, .ref 3), (3, .int i3)]) (k := 2) (i := 2) rfl (Nat.le_of_ble_eq_true rfl) rfl dX6_follow_32 ?_
        refine zq_iinc (i := 3) (x := i3) (v := (nI 1)) (ls' := [(3, .int (i3 + (nI 1))), (2, .int (nI 0)), (0, .ref 12), (1, .ref 3)]) 3 rfl rfl (Nat.le_of_ble_eq_true rfl) rfl dX6_follow_33 ?_
        refine zq_goto (tgt := 4) dX6_follow_36 rfl ?_
        exact zq_sub (ls' := [(0, .ref 12), (1, .ref 3), (2, .int (nI 0)), (3, .int (i3 + (nI 1)))]) [2, 3, 1, 0] rfl H
      · have H := H.2 c10
        refine zq_iconst (v := (nI 1)) rfl dX6_follow_27 ?_
        refine zq_goto (tgt := 32) dX6_follow_28 rfl ?_
        refine zq_istore_n (ls' := [(2, .int (nI 1)), (0, .ref 12), (1, .ref 3), (3, .int i3)]) (k := 2) (i := 2) rfl (Nat.le_of_ble_eq_true rfl) rfl dX6_follow_32 ?_
        refine zq_iinc (i := 3) (x := i3) (v := (nI 1)) (ls' := [(3, .int (i3 + (nI 1))), (2, .int (nI 1)), (0, .ref 12), (1, .ref 3)]) 3 rfl rfl (Nat.le_of_ble_eq_true rfl) rfl dX6_follow_33 ?_
        refine zq_goto (tgt := 4) dX6_follow_36 rfl ?_
        exact zq_sub (ls' := [(0, .ref 12), (1, .ref 3), (2, .int (nI 1)), (3, .int (i3 + (nI 1)))]) [2, 3, 1, 0] rfl H
set_option maxHeartbeats 2000000 in
set_option maxRecDepth 20000 in
theorem r_X6_gather_0 {d : Nat} {h : AH} {Q : Option Value → AH → Prop}  (hw : zWF h)  (H : (¬ (nI 0) < 0 ∧ ¬ (nI 0) < 0 ∧ ¬ (nI 40) < 0 ∧ (nI 0).toNatClampNeg + (nI 40).toNatClampNeg ≤ 40 ∧ (nI 0).toNatClampNeg + (nI 40).toNatClampNeg ≤ 40) ∧ (∀ h2, h2 = h.wL 14 (va_cpy (h.L 13) (h.L 14) (nI 0).toNatClampNeg (nI 0).toNatClampNeg (nI 40).toNatClampNeg) → ∀ h3, h3 = h2.sI 12 8 (nI 0) → zQ none m_X6_gather (d + 1) 22 [(0, .ref 12), (1, .int (nI 0))] [] h3 Q)) : zK (d + 1) m_X6_gather [.ref 12] h Q := by
  refine zK_of mo_X6_gather (Nat.le_of_ble_eq_true rfl) ?_
  show zQ none m_X6_gather (d + 1) 0 [(0, .ref 12)] [] h Q
  refine zq_aload_n (k := 0) (i := 0) (x := 12) 0 rfl rfl dX6_gather_0 ?_
  refine zq_getP fl_RX6_9 rfl (sh_12 hw) (rf_12_0 hw) dX6_gather_1 ?_
  refine zq_iconst (v := (nI 0)) rfl dX6_gather_4 ?_
  refine zq_aload_n (k := 0) (i := 0) (x := 12) 0 rfl rfl dX6_gather_5 ?_
  refine zq_getP fl_RX6_15 rfl (sh_12 hw) (rf_12_1 hw) dX6_gather_6 ?_
  refine zq_iconst (v := (nI 0)) rfl dX6_gather_9 ?_
  refine zq_bipush (v := (nI 40)) rfl dX6_gather_10 ?_
  obtain ⟨⟨a11, a12, a13, a14, a15⟩, H⟩ := H
  refine zq_copyL ac_RX6_41 (sh_13 hw) (sh_14 hw) a11 a12 a13 a14 a15 (Nat.le_of_ble_eq_true rfl) dX6_gather_12 (fun h2 eh2 => ?_)
  have H := H h2 eh2
  have wh2 := wf_L eh2 hw
  refine zq_aload_n (k := 0) (i := 0) (x := 12) 0 rfl rfl dX6_gather_15 ?_
  refine zq_iconst (v := (nI 0)) rfl dX6_gather_16 ?_
  refine zq_putI fl_RX6_37 rfl (Or.inl rfl) (sh_12 wh2) rfl rfl dX6_gather_17 (fun h3 eh3 => ?_)
  have H := H h3 eh3
  have wh3 := wf_I eh3 wh2
  refine zq_iconst (v := (nI 0)) rfl dX6_gather_20 ?_
  refine zq_istore_n (ls' := [(1, .int (nI 0)), (0, .ref 12)]) (k := 1) (i := 1) rfl (Nat.le_of_ble_eq_true rfl) rfl dX6_gather_21 ?_
  exact zq_sub (ls' := [(0, .ref 12), (1, .int (nI 0))]) [1, 0] rfl H
set_option maxHeartbeats 2000000 in
set_option maxRecDepth 20000 in
theorem r_X6_gather_22 {d : Nat} {h : AH} {Q : Option Value → AH → Prop} (i1 : Int32) (hw : zWF h)  (H : ((nI 40) ≤ i1 → Q none h) ∧ (¬ (nI 40) ≤ i1 → zQ none m_X6_gather (d + 1) 32 [(0, .ref 12), (1, .int i1), (2, .int (i1 + (nI 1)))] [] h Q)) : zQ none m_X6_gather (d + 1) 22 [(0, .ref 12), (1, .int i1)] [] h Q := by
  refine zq_iload_n (k := 1) (i := 1) (x := i1) 1 rfl rfl dX6_gather_22 ?_
  refine zq_bipush (v := (nI 40)) rfl dX6_gather_23 ?_
  refine zq_icmp_ge (tgt := 114) dX6_gather_25 rfl ⟨fun c1 => ?_, fun c1 => ?_⟩
  · have H := H.1 c1
    exact zq_vret dX6_gather_114 rfl H
  · have H := H.2 c1
    refine zq_iload_n (k := 1) (i := 1) (x := i1) 1 rfl rfl dX6_gather_28 ?_
    refine zq_iconst (v := (nI 1)) rfl dX6_gather_29 ?_
    refine zq_iadd dX6_gather_30 ?_
    refine zq_istore_n (ls' := [(2, .int (i1 + (nI 1))), (0, .ref 12), (1, .int i1)]) (k := 2) (i := 2) rfl (Nat.le_of_ble_eq_true rfl) rfl dX6_gather_31 ?_
    exact zq_sub (ls' := [(0, .ref 12), (1, .int i1), (2, .int (i1 + (nI 1)))]) [1, 2, 0] rfl H
set_option maxHeartbeats 2000000 in
set_option maxRecDepth 20000 in
theorem r_X6_gather_32 {d : Nat} {h : AH} {Q : Option Value → AH → Prop} (i1 : Int32) (i2 : Int32) (hw : zWF h)  (H : ((nI 40) ≤ i2 → zQ none m_X6_gather (d + 1) 22 [(0, .ref 12), (1, .int (i1 + (nI 1)))] [] h Q) ∧ (¬ (nI 40) ≤ i2 → vp_in i1 40 ∧ (zK d m_X10_hasBit [.long (h.L 13 i1.toNatClampNeg), .int i2] h (pI h fun x3 => (x3 = 0 → zQ none m_X6_gather (d + 1) 32 [(0, .ref 12), (1, .int i1), (2, .int (i2 + (nI 1)))] [] h Q) ∧ (¬ x3 = 0 → ((nI 780) ≤ (h.I 12 8) → zQ none m_X6_gather (d + 1) 32 [(0, .ref 12), (1, .int i1), (2, .int (i2 + (nI 1)))] [] h Q) ∧ (¬ (nI 780) ≤ (h.I 12 8) → zK d m_X10_pairOf [.int i1, .int i2] h (pI h fun x6 => vp_in (h.I 12 8) 780 ∧ (∀ h8, h8 = h.sI 18 (h.I 12 8).toNatClampNeg x6 → zK d m_X2_shared [.ref 13, .int i1, .int i2] h8 (pI h8 fun x9 => vp_in x6 1600 ∧ (∀ h11, h11 = h8.sI 15 x6.toNatClampNeg x9 → ∀ h12, h12 = h11.sI 12 8 ((h11.I 12 8) + (nI 1)) → zQ none m_X6_gather (d + 1) 32 [(0, .ref 12), (1, .int i1), (2, .int (i2 + (nI 1)))] [] h12 Q)))))))))) : zQ none m_X6_gather (d + 1) 32 [(0, .ref 12), (1, .int i1), (2, .int i2)] [] h Q := by
  refine zq_iload_n (k := 2) (i := 2) (x := i2) 2 rfl rfl dX6_gather_32 ?_
  refine zq_bipush (v := (nI 40)) rfl dX6_gather_33 ?_
  refine zq_icmp_ge (tgt := 108) dX6_gather_35 rfl ⟨fun c1 => ?_, fun c1 => ?_⟩
  · have H := H.1 c1
    refine zq_iinc (i := 1) (x := i1) (v := (nI 1)) (ls' := [(1, .int (i1 + (nI 1))), (0, .ref 12), (2, .int i2)]) 1 rfl rfl (Nat.le_of_ble_eq_true rfl) rfl dX6_gather_108 ?_
    refine zq_goto (tgt := 22) dX6_gather_111 rfl ?_
    exact zq_sub (ls' := [(0, .ref 12), (1, .int (i1 + (nI 1)))]) [1, 0] rfl H
  · have H := H.2 c1
    refine zq_aload_n (k := 0) (i := 0) (x := 12) 0 rfl rfl dX6_gather_38 ?_
    refine zq_getP fl_RX6_9 rfl (sh_12 hw) (rf_12_0 hw) dX6_gather_39 ?_
    refine zq_iload_n (k := 1) (i := 1) (x := i1) 1 rfl rfl dX6_gather_42 ?_
    obtain ⟨b2, H⟩ := H
    refine zq_lald (sh_13 hw) b2 dX6_gather_43 ?_
    refine zq_iload_n (k := 2) (i := 2) (x := i2) 2 rfl rfl dX6_gather_44 ?_
    refine zq_invS (as := [.long (h.L 13 i1.toNatClampNeg), .int i2]) (st := []) st_X10_hasBit mo_X10_hasBit ml_RX6_53 rfl (Nat.le_of_ble_eq_true rfl) dX6_gather_45 rfl H (fun r1 h1 hq => ?_)
    obtain ⟨x3, rfl, rfl, H⟩ := hq
    show zQ none m_X6_gather (d + 1) 48 [(0, .ref 12), (1, .int i1), (2, .int i2)] (.int x3 :: []) h Q
    refine zq_if_eq (tgt := 102) dX6_gather_48 rfl ⟨fun c4 => ?_, fun c4 => ?_⟩
    · have H := H.1 c4
      refine zq_iinc (i := 2) (x := i2) (v := (nI 1)) (ls' := [(2, .int (i2 + (nI 1))), (0, .ref 12), (1, .int i1)]) 2 rfl rfl (Nat.le_of_ble_eq_true rfl) rfl dX6_gather_102 ?_
      refine zq_goto (tgt := 32) dX6_gather_105 rfl ?_
      exact zq_sub (ls' := [(0, .ref 12), (1, .int i1), (2, .int (i2 + (nI 1)))]) [1, 2, 0] rfl H
    · have H := H.2 c4
      refine zq_aload_n (k := 0) (i := 0) (x := 12) 0 rfl rfl dX6_gather_51 ?_
      refine zq_getI fl_RX6_37 rfl (sh_12 hw) dX6_gather_52 ?_
      refine zq_sipush (v := (nI 780)) rfl dX6_gather_55 ?_
      refine zq_icmp_ge (tgt := 102) dX6_gather_58 rfl ⟨fun c5 => ?_, fun c5 => ?_⟩
      · have H := H.1 c5
        refine zq_iinc (i := 2) (x := i2) (v := (nI 1)) (ls' := [(2, .int (i2 + (nI 1))), (0, .ref 12), (1, .int i1)]) 2 rfl rfl (Nat.le_of_ble_eq_true rfl) rfl dX6_gather_102 ?_
        refine zq_goto (tgt := 32) dX6_gather_105 rfl ?_
        exact zq_sub (ls' := [(0, .ref 12), (1, .int i1), (2, .int (i2 + (nI 1)))]) [1, 2, 0] rfl H
      · have H := H.2 c5
        refine zq_iload_n (k := 1) (i := 1) (x := i1) 1 rfl rfl dX6_gather_61 ?_
        refine zq_iload_n (k := 2) (i := 2) (x := i2) 2 rfl rfl dX6_gather_62 ?_
        refine zq_invS (as := [.int i1, .int i2]) (st := []) st_X10_pairOf mo_X10_pairOf ml_RX6_57 rfl (Nat.le_of_ble_eq_true rfl) dX6_gather_63 rfl H (fun r1 h1 hq => ?_)
        obtain ⟨x6, rfl, rfl, H⟩ := hq
        show zQ none m_X6_gather (d + 1) 66 [(0, .ref 12), (1, .int i1), (2, .int i2)] (.int x6 :: []) h Q
        refine zq_istore_n (ls' := [(3, .int x6), (0, .ref 12), (1, .int i1), (2, .int i2)]) (k := 3) (i := 3) rfl (Nat.le_of_ble_eq_true rfl) rfl dX6_gather_66 ?_
        refine zq_aload_n (k := 0) (i := 0) (x := 12) 1 rfl rfl dX6_gather_67 ?_
        refine zq_getP fl_RX6_28 rfl (sh_12 hw) (rf_12_5 hw) dX6_gather_68 ?_
        refine zq_aload_n (k := 0) (i := 0) (x := 12) 1 rfl rfl dX6_gather_71 ?_
        refine zq_getI fl_RX6_37 rfl (sh_12 hw) dX6_gather_72 ?_
        refine zq_iload_n (k := 3) (i := 3) (x := x6) 0 rfl rfl dX6_gather_75 ?_
        obtain ⟨b7, H⟩ := H
        refine zq_iast (sh_18 hw) b7 dX6_gather_76 (fun h8 eh8 => ?_)
        have H := H h8 eh8
        have wh8 := wf_I eh8 hw
        refine zq_aload_n (k := 0) (i := 0) (x := 12) 1 rfl rfl dX6_gather_77 ?_
        refine zq_getP fl_RX6_18 rfl (sh_12 wh8) (rf_12_2 wh8) dX6_gather_78 ?_
        refine zq_iload_n (k := 3) (i := 3) (x := x6) 0 rfl rfl dX6_gather_81 ?_
        refine zq_aload_n (k := 0) (i := 0) (x := 12) 1 rfl rfl dX6_gather_82 ?_
        refine zq_getP fl_RX6_9 rfl (sh_12 wh8) (rf_12_0 wh8) dX6_gather_83 ?_
        refine zq_iload_n (k := 1) (i := 1) (x := i1) 2 rfl rfl dX6_gather_86 ?_
        refine zq_iload_n (k := 2) (i := 2) (x := i2) 3 rfl rfl dX6_gather_87 ?_
        refine zq_invS (as := [.ref 13, .int i1, .int i2]) (st := .int x6 :: .ref 15 :: []) st_X2_shared mo_X2_shared ml_RX6_61 rfl (Nat.le_of_ble_eq_true rfl) dX6_gather_88 rfl H (fun r1 h1 hq => ?_)
        obtain ⟨x9, rfl, rfl, H⟩ := hq
        show zQ none m_X6_gather (d + 1) 91 [(3, .int x6), (0, .ref 12), (1, .int i1), (2, .int i2)] (.int x9 :: .int x6 :: .ref 15 :: []) h8 Q
        obtain ⟨b10, H⟩ := H
        refine zq_iast (sh_15 wh8) b10 dX6_gather_91 (fun h11 eh11 => ?_)
        have H := H h11 eh11
        have wh11 := wf_I eh11 wh8
        refine zq_aload_n (k := 0) (i := 0) (x := 12) 1 rfl rfl dX6_gather_92 ?_
        refine zq_dup rfl dX6_gather_93 ?_
        refine zq_getI fl_RX6_37 rfl (sh_12 wh11) dX6_gather_94 ?_
        refine zq_iconst (v := (nI 1)) rfl dX6_gather_97 ?_
        refine zq_iadd dX6_gather_98 ?_
        refine zq_putI fl_RX6_37 rfl (Or.inl rfl) (sh_12 wh11) rfl rfl dX6_gather_99 (fun h12 eh12 => ?_)
        have H := H h12 eh12
        have wh12 := wf_I eh12 wh11
        refine zq_iinc (i := 2) (x := i2) (v := (nI 1)) (ls' := [(2, .int (i2 + (nI 1))), (3, .int x6), (0, .ref 12), (1, .int i1)]) 3 rfl rfl (Nat.le_of_ble_eq_true rfl) rfl dX6_gather_102 ?_
        refine zq_goto (tgt := 32) dX6_gather_105 rfl ?_
        exact zq_sub (ls' := [(0, .ref 12), (1, .int i1), (2, .int (i2 + (nI 1)))]) [2, 3, 0] rfl H
set_option maxHeartbeats 2000000 in
set_option maxRecDepth 20000 in
theorem r_X6_peel_0 {d : Nat} {h : AH} {Q : Option Value → AH → Prop}  (hw : zWF h)  (H : zQ none m_X6_peel (d + 1) 4 [(0, .ref 12), (1, .int (nI 2)), (2, .int (nI 0))] [] h Q) : zK (d + 1) m_X6_peel [.ref 12] h Q := by
  refine zK_of mo_X6_peel (Nat.le_of_ble_eq_true rfl) ?_
  show zQ none m_X6_peel (d + 1) 0 [(0, .ref 12)] [] h Q
  refine zq_iconst (v := (nI 2)) rfl dX6_peel_0 ?_
  refine zq_istore_n (ls' := [(1, .int (nI 2)), (0, .ref 12)]) (k := 1) (i := 1) rfl (Nat.le_of_ble_eq_true rfl) rfl dX6_peel_1 ?_
  refine zq_iconst (v := (nI 0)) rfl dX6_peel_2 ?_
  refine zq_istore_n (ls' := [(2, .int (nI 0)), (1, .int (nI 2)), (0, .ref 12)]) (k := 2) (i := 2) rfl (Nat.le_of_ble_eq_true rfl) rfl dX6_peel_3 ?_
  exact zq_sub (ls' := [(0, .ref 12), (1, .int (nI 2)), (2, .int (nI 0))]) [2, 1, 0] rfl H
set_option maxHeartbeats 2000000 in
set_option maxRecDepth 20000 in
theorem r_X6_peel_4 {d : Nat} {h : AH} {Q : Option Value → AH → Prop} (i1 : Int32) (i2 : Int32) (hw : zWF h)  (H : ((h.I 12 8) ≤ i2 → Q none h) ∧ (¬ (h.I 12 8) ≤ i2 → zK d m_X6_leastFrom [.ref 12, .int i2] h (pI h fun x2 => vp_in x2 780 ∧ (vp_in i2 780 ∧ (vp_in x2 780 ∧ (∀ h6, h6 = h.sI 18 x2.toNatClampNeg (h.I 18 i2.toNatClampNeg) → vp_in i2 780 ∧ (∀ h8, h8 = h6.sI 18 i2.toNatClampNeg (h.I 18 x2.toNatClampNeg) → vp_in (h.I 18 x2.toNatClampNeg) 1600 ∧ (vp_in (h.I 18 x2.toNatClampNeg) 1600 ∧ (∀ h11, h11 = h8.sI 16 (h.I 18 x2.toNatClampNeg).toNatClampNeg (zmmax i1 ((h8.I 15 (h.I 18 x2.toNatClampNeg).toNatClampNeg) + (nI 2))) → vp_in (h.I 18 x2.toNatClampNeg) 1600 ∧ (∀ h13, h13 = h11.sI 17 (h.I 18 x2.toNatClampNeg).toNatClampNeg i2 → zK d m_X6_takeAway [.ref 12, .int ((h.I 18 x2.toNatClampNeg) / (nI 40)), .int ((h.I 18 x2.toNatClampNeg) - (h.I 18 x2.toNatClampNeg) / (nI 40) * (nI 40))] h13 (kV fun h14 => zQ none m_X6_peel (d + 1) 4 [(0, .ref 12), (1, .int (zmmax i1 ((h8.I 15 (h.I 18 x2.toNatClampNeg).toNatClampNeg) + (nI 2)))), (2, .int (i2 + (nI 1)))] [] h14 Q))))))))))) : zQ none m_X6_peel (d + 1) 4 [(0, .ref 12), (1, .int i1), (2, .int i2)] [] h Q := by
  refine zq_iload_n (k := 2) (i := 2) (x := i2) 2 rfl rfl dX6_peel_4 ?_
  refine zq_aload_n (k := 0) (i := 0) (x := 12) 0 rfl rfl dX6_peel_5 ?_
  refine zq_getI fl_RX6_37 rfl (sh_12 hw) dX6_peel_6 ?_
  refine zq_icmp_ge (tgt := 96) dX6_peel_9 rfl ⟨fun c1 => ?_, fun c1 => ?_⟩
  · have H := H.1 c1
    exact zq_vret dX6_peel_96 rfl H
  · have H := H.2 c1
    refine zq_aload_n (k := 0) (i := 0) (x := 12) 0 rfl rfl dX6_peel_12 ?_
    refine zq_iload_n (k := 2) (i := 2) (x := i2) 2 rfl rfl dX6_peel_13 ?_
    refine zq_invV (as := [.int i2]) (st := []) (o := 12) (c := 5) (by decide) rfl (sh_12 hw) in_X6_leastFrom se_X6_leastFrom mo_X6_leastFrom ml_RX6_67 rfl (Nat.le_of_ble_eq_true rfl) dX6_peel_14 rfl H (fun r1 h1 hq => ?_)
    obtain ⟨x2, rfl, rfl, H⟩ := hq
    show zQ none m_X6_peel (d + 1) 17 [(0, .ref 12), (1, .int i1), (2, .int i2)] (.int x2 :: []) h Q
    refine zq_istore_n (ls' := [(3, .int x2), (0, .ref 12), (1, .int i1), (2, .int i2)]) (k := 3) (i := 3) rfl (Nat.le_of_ble_eq_true rfl) rfl dX6_peel_17 ?_
    refine zq_aload_n (k := 0) (i := 0) (x := 12) 1 rfl rfl dX6_peel_18 ?_
    refine zq_getP fl_RX6_28 rfl (sh_12 hw) (rf_12_5 hw) dX6_peel_19 ?_
    refine zq_iload_n (k := 3) (i := 3) (x := x2) 0 rfl rfl dX6_peel_22 ?_
    obtain ⟨b3, H⟩ := H
    refine zq_iald (sh_18 hw) b3 dX6_peel_23 ?_
    refine zq_istore (ls' := [(4, .int (h.I 18 x2.toNatClampNeg)), (3, .int x2), (0, .ref 12), (1, .int i1), (2, .int i2)]) (i := 4) (Nat.le_of_ble_eq_true rfl) rfl dX6_peel_24 ?_
    refine zq_aload_n (k := 0) (i := 0) (x := 12) 2 rfl rfl dX6_peel_26 ?_
    refine zq_getP fl_RX6_28 rfl (sh_12 hw) (rf_12_5 hw) dX6_peel_27 ?_
    refine zq_iload_n (k := 3) (i := 3) (x := x2) 1 rfl rfl dX6_peel_30 ?_
    refine zq_aload_n (k := 0) (i := 0) (x := 12) 2 rfl rfl dX6_peel_31 ?_
    refine zq_getP fl_RX6_28 rfl (sh_12 hw) (rf_12_5 hw) dX6_peel_32 ?_
    refine zq_iload_n (k := 2) (i := 2) (x := i2) 4 rfl rfl dX6_peel_35 ?_
    obtain ⟨b4, H⟩ := H
    refine zq_iald (sh_18 hw) b4 dX6_peel_36 ?_
    obtain ⟨b5, H⟩ := H
    refine zq_iast (sh_18 hw) b5 dX6_peel_37 (fun h6 eh6 => ?_)
    have H := H h6 eh6
    have wh6 := wf_I eh6 hw
    refine zq_aload_n (k := 0) (i := 0) (x := 12) 2 rfl rfl dX6_peel_38 ?_
    refine zq_getP fl_RX6_28 rfl (sh_12 wh6) (rf_12_5 wh6) dX6_peel_39 ?_
    refine zq_iload_n (k := 2) (i := 2) (x := i2) 4 rfl rfl dX6_peel_42 ?_
    refine zq_iload (i := 4) (x := (h.I 18 x2.toNatClampNeg)) 0 rfl dX6_peel_43 ?_
    obtain ⟨b7, H⟩ := H
    refine zq_iast (sh_18 wh6) b7 dX6_peel_45 (fun h8 eh8 => ?_)
    have H := H h8 eh8
    have wh8 := wf_I eh8 wh6
    refine zq_iload_n (k := 1) (i := 1) (x := i1) 3 rfl rfl dX6_peel_46 ?_
    refine zq_aload_n (k := 0) (i := 0) (x := 12) 2 rfl rfl dX6_peel_47 ?_
    refine zq_getP fl_RX6_18 rfl (sh_12 wh8) (rf_12_2 wh8) dX6_peel_48 ?_
    refine zq_iload (i := 4) (x := (h.I 18 x2.toNatClampNeg)) 0 rfl dX6_peel_51 ?_
    obtain ⟨b9, H⟩ := H
    refine zq_iald (sh_15 wh8) b9 dX6_peel_53 ?_
    refine zq_iconst (v := (nI 2)) rfl dX6_peel_54 ?_
    refine zq_iadd dX6_peel_55 ?_
    refine zq_mmax mm_RX6_71 (Nat.le_of_ble_eq_true rfl) dX6_peel_56 ?_
    refine zq_istore_n (ls' := [(1, .int (zmmax i1 ((h8.I 15 (h.I 18 x2.toNatClampNeg).toNatClampNeg) + (nI 2)))), (4, .int (h.I 18 x2.toNatClampNeg)), (3, .int x2), (0, .ref 12), (2, .int i2)]) (k := 1) (i := 1) rfl (Nat.le_of_ble_eq_true rfl) rfl dX6_peel_59 ?_
    refine zq_aload_n (k := 0) (i := 0) (x := 12) 3 rfl rfl dX6_peel_60 ?_
    refine zq_getP fl_RX6_22 rfl (sh_12 wh8) (rf_12_3 wh8) dX6_peel_61 ?_
    refine zq_iload (i := 4) (x := (h.I 18 x2.toNatClampNeg)) 1 rfl dX6_peel_64 ?_
    refine zq_iload_n (k := 1) (i := 1) (x := (zmmax i1 ((h8.I 15 (h.I 18 x2.toNatClampNeg).toNatClampNeg) + (nI 2)))) 0 rfl rfl dX6_peel_66 ?_
    obtain ⟨b10, H⟩ := H
    refine zq_iast (sh_16 wh8) b10 dX6_peel_67 (fun h11 eh11 => ?_)
    have H := H h11 eh11
    have wh11 := wf_I eh11 wh8
    refine zq_aload_n (k := 0) (i := 0) (x := 12) 3 rfl rfl dX6_peel_68 ?_
    refine zq_getP fl_RX6_25 rfl (sh_12 wh11) (rf_12_4 wh11) dX6_peel_69 ?_
    refine zq_iload (i := 4) (x := (h.I 18 x2.toNatClampNeg)) 1 rfl dX6_peel_72 ?_
    refine zq_iload_n (k := 2) (i := 2) (x := i2) 4 rfl rfl dX6_peel_74 ?_
    obtain ⟨b12, H⟩ := H
    refine zq_iast (sh_17 wh11) b12 dX6_peel_75 (fun h13 eh13 => ?_)
    have H := H h13 eh13
    have wh13 := wf_I eh13 wh11
    refine zq_aload_n (k := 0) (i := 0) (x := 12) 3 rfl rfl dX6_peel_76 ?_
    refine zq_iload (i := 4) (x := (h.I 18 x2.toNatClampNeg)) 1 rfl dX6_peel_77 ?_
    refine zq_bipush (v := (nI 40)) rfl dX6_peel_79 ?_
    refine zq_idiv (by decide) dX6_peel_81 ?_
    refine zq_iload (i := 4) (x := (h.I 18 x2.toNatClampNeg)) 1 rfl dX6_peel_82 ?_
    refine zq_bipush (v := (nI 40)) rfl dX6_peel_84 ?_
    refine zq_irem (by decide) dX6_peel_86 ?_
    refine zq_invV (as := [.int ((h.I 18 x2.toNatClampNeg) / (nI 40)), .int ((h.I 18 x2.toNatClampNeg) - (h.I 18 x2.toNatClampNeg) / (nI 40) * (nI 40))]) (st := []) (o := 12) (c := 5) (by decide) rfl (sh_12 wh13) in_X6_takeAway se_X6_takeAway mo_X6_takeAway ml_RX6_76 rfl (Nat.le_of_ble_eq_true rfl) dX6_peel_87 rfl H (fun r1 h14 hq => ?_)
    obtain ⟨rfl, wh14, H⟩ := hq
    show zQ none m_X6_peel (d + 1) 90 [(1, .int (zmmax i1 ((h8.I 15 (h.I 18 x2.toNatClampNeg).toNatClampNeg) + (nI 2)))), (4, .int (h.I 18 x2.toNatClampNeg)), (3, .int x2), (0, .ref 12), (2, .int i2)] ([]) h14 Q
    refine zq_iinc (i := 2) (x := i2) (v := (nI 1)) (ls' := [(2, .int (i2 + (nI 1))), (1, .int (zmmax i1 ((h8.I 15 (h.I 18 x2.toNatClampNeg).toNatClampNeg) + (nI 2)))), (4, .int (h.I 18 x2.toNatClampNeg)), (3, .int x2), (0, .ref 12)]) 4 rfl rfl (Nat.le_of_ble_eq_true rfl) rfl dX6_peel_90 ?_
    refine zq_goto (tgt := 4) dX6_peel_93 rfl ?_
    exact zq_sub (ls' := [(0, .ref 12), (1, .int (zmmax i1 ((h8.I 15 (h.I 18 x2.toNatClampNeg).toNatClampNeg) + (nI 2)))), (2, .int (i2 + (nI 1)))]) [4, 1, 0] rfl H
set_option maxHeartbeats 2000000 in
set_option maxRecDepth 20000 in
theorem r_X6_leastFrom_0 {d : Nat} {h : AH} {Q : Option Value → AH → Prop} (i1 : Int32) (hw : zWF h)  (H : zQ none m_X6_leastFrom (d + 1) 6 [(0, .ref 12), (2, .int i1), (3, .int (i1 + (nI 1)))] [] h Q) : zK (d + 1) m_X6_leastFrom [.ref 12, .int i1] h Q := by
  refine zK_of mo_X6_leastFrom (Nat.le_of_ble_eq_true rfl) ?_
  show zQ none m_X6_leastFrom (d + 1) 0 [(0, .ref 12), (1, .int i1)] [] h Q
  refine zq_iload_n (k := 1) (i := 1) (x := i1) 1 rfl rfl dX6_leastFrom_0 ?_
  refine zq_istore_n (ls' := [(2, .int i1), (0, .ref 12), (1, .int i1)]) (k := 2) (i := 2) rfl (Nat.le_of_ble_eq_true rfl) rfl dX6_leastFrom_1 ?_
  refine zq_iload_n (k := 1) (i := 1) (x := i1) 2 rfl rfl dX6_leastFrom_2 ?_
  refine zq_iconst (v := (nI 1)) rfl dX6_leastFrom_3 ?_
  refine zq_iadd dX6_leastFrom_4 ?_
  refine zq_istore_n (ls' := [(3, .int (i1 + (nI 1))), (2, .int i1), (0, .ref 12), (1, .int i1)]) (k := 3) (i := 3) rfl (Nat.le_of_ble_eq_true rfl) rfl dX6_leastFrom_5 ?_
  exact zq_sub (ls' := [(0, .ref 12), (2, .int i1), (3, .int (i1 + (nI 1)))]) [2, 1, 0] rfl H
set_option maxHeartbeats 2000000 in
set_option maxRecDepth 20000 in
theorem r_X6_leastFrom_6 {d : Nat} {h : AH} {Q : Option Value → AH → Prop} (i2 : Int32) (i3 : Int32) (hw : zWF h)  (H : ((h.I 12 8) ≤ i3 → Q (some (.int i2)) h) ∧ (¬ (h.I 12 8) ≤ i3 → vp_in i3 780 ∧ (vp_in (h.I 18 i3.toNatClampNeg) 1600 ∧ (vp_in i2 780 ∧ (vp_in (h.I 18 i2.toNatClampNeg) 1600 ∧ ((((h.I 15 (h.I 18 i3.toNatClampNeg).toNatClampNeg) - (h.I 15 (h.I 18 i2.toNatClampNeg).toNatClampNeg)) < 0 → zQ none m_X6_leastFrom (d + 1) 6 [(0, .ref 12), (2, .int i3), (3, .int (i3 + (nI 1)))] [] h Q) ∧ (¬ ((h.I 15 (h.I 18 i3.toNatClampNeg).toNatClampNeg) - (h.I 15 (h.I 18 i2.toNatClampNeg).toNatClampNeg)) < 0 → (((h.I 15 (h.I 18 i3.toNatClampNeg).toNatClampNeg) - (h.I 15 (h.I 18 i2.toNatClampNeg).toNatClampNeg)) ≠ 0 → zQ none m_X6_leastFrom (d + 1) 6 [(0, .ref 12), (2, .int i2), (3, .int (i3 + (nI 1)))] [] h Q) ∧ (((h.I 15 (h.I 18 i3.toNatClampNeg).toNatClampNeg) - (h.I 15 (h.I 18 i2.toNatClampNeg).toNatClampNeg)) = 0 → vp_in i3 780 ∧ (vp_in i2 780 ∧ (((h.I 18 i2.toNatClampNeg) ≤ (h.I 18 i3.toNatClampNeg) → zQ none m_X6_leastFrom (d + 1) 6 [(0, .ref 12), (2, .int i2), (3, .int (i3 + (nI 1)))] [] h Q) ∧ (¬ (h.I 18 i2.toNatClampNeg) ≤ (h.I 18 i3.toNatClampNeg) → zQ none m_X6_leastFrom (d + 1) 6 [(0, .ref 12), (2, .int i3), (3, .int (i3 + (nI 1)))] [] h Q))))))))))) : zQ none m_X6_leastFrom (d + 1) 6 [(0, .ref 12), (2, .int i2), (3, .int i3)] [] h Q := by
  refine zq_iload_n (k := 3) (i := 3) (x := i3) 2 rfl rfl dX6_leastFrom_6 ?_
  refine zq_aload_n (k := 0) (i := 0) (x := 12) 0 rfl rfl dX6_leastFrom_7 ?_
  refine zq_getI fl_RX6_37 rfl (sh_12 hw) dX6_leastFrom_8 ?_
  refine zq_icmp_ge (tgt := 72) dX6_leastFrom_11 rfl ⟨fun c1 => ?_, fun c1 => ?_⟩
  · have H := H.1 c1
    refine zq_iload_n (k := 2) (i := 2) (x := i2) 1 rfl rfl dX6_leastFrom_72 ?_
    exact zq_iret dX6_leastFrom_73 rfl rfl rfl H
  · have H := H.2 c1
    refine zq_aload_n (k := 0) (i := 0) (x := 12) 0 rfl rfl dX6_leastFrom_14 ?_
    refine zq_getP fl_RX6_18 rfl (sh_12 hw) (rf_12_2 hw) dX6_leastFrom_15 ?_
    refine zq_aload_n (k := 0) (i := 0) (x := 12) 0 rfl rfl dX6_leastFrom_18 ?_
    refine zq_getP fl_RX6_28 rfl (sh_12 hw) (rf_12_5 hw) dX6_leastFrom_19 ?_
    refine zq_iload_n (k := 3) (i := 3) (x := i3) 2 rfl rfl dX6_leastFrom_22 ?_
    obtain ⟨b2, H⟩ := H
    refine zq_iald (sh_18 hw) b2 dX6_leastFrom_23 ?_
    obtain ⟨b3, H⟩ := H
    refine zq_iald (sh_15 hw) b3 dX6_leastFrom_24 ?_
    refine zq_aload_n (k := 0) (i := 0) (x := 12) 0 rfl rfl dX6_leastFrom_25 ?_
    refine zq_getP fl_RX6_18 rfl (sh_12 hw) (rf_12_2 hw) dX6_leastFrom_26 ?_
    refine zq_aload_n (k := 0) (i := 0) (x := 12) 0 rfl rfl dX6_leastFrom_29 ?_
    refine zq_getP fl_RX6_28 rfl (sh_12 hw) (rf_12_5 hw) dX6_leastFrom_30 ?_
    refine zq_iload_n (k := 2) (i := 2) (x := i2) 1 rfl rfl dX6_leastFrom_33 ?_
    obtain ⟨b4, H⟩ := H
    refine zq_iald (sh_18 hw) b4 dX6_leastFrom_34 ?_
    obtain ⟨b5, H⟩ := H
    refine zq_iald (sh_15 hw) b5 dX6_leastFrom_35 ?_
    refine zq_isub dX6_leastFrom_36 ?_
    refine zq_istore (ls' := [(4, .int ((h.I 15 (h.I 18 i3.toNatClampNeg).toNatClampNeg) - (h.I 15 (h.I 18 i2.toNatClampNeg).toNatClampNeg))), (0, .ref 12), (2, .int i2), (3, .int i3)]) (i := 4) (Nat.le_of_ble_eq_true rfl) rfl dX6_leastFrom_37 ?_
    refine zq_iload (i := 4) (x := ((h.I 15 (h.I 18 i3.toNatClampNeg).toNatClampNeg) - (h.I 15 (h.I 18 i2.toNatClampNeg).toNatClampNeg))) 0 rfl dX6_leastFrom_39 ?_
    refine zq_if_lt (tgt := 64) dX6_leastFrom_41 rfl ⟨fun c6 => ?_, fun c6 => ?_⟩
    · have H := H.1 c6
      refine zq_iload_n (k := 3) (i := 3) (x := i3) 3 rfl rfl dX6_leastFrom_64 ?_
      refine zq_istore_n (ls' := [(2, .int i3), (4, .int ((h.I 15 (h.I 18 i3.toNatClampNeg).toNatClampNeg) - (h.I 15 (h.I 18 i2.toNatClampNeg).toNatClampNeg))), (0, .ref 12), (3, .int i3)]) (k := 2) (i := 2) rfl (Nat.le_of_ble_eq_true rfl) rfl dX6_leastFrom_65 ?_
      refine zq_iinc (i := 3) (x := i3) (v := (nI 1)) (ls' := [(3, .int (i3 + (nI 1))), (2, .int i3), (4, .int ((h.I 15 (h.I 18 i3.toNatClampNeg).toNatClampNeg) - (h.I 15 (h.I 18 i2.toNatClampNeg).toNatClampNeg))), (0, .ref 12)]) 3 rfl rfl (Nat.le_of_ble_eq_true rfl) rfl dX6_leastFrom_66 ?_
      refine zq_goto (tgt := 6) dX6_leastFrom_69 rfl ?_
      exact zq_sub (ls' := [(0, .ref 12), (2, .int i3), (3, .int (i3 + (nI 1)))]) [3, 1, 0] rfl H
    · have H := H.2 c6
      refine zq_iload (i := 4) (x := ((h.I 15 (h.I 18 i3.toNatClampNeg).toNatClampNeg) - (h.I 15 (h.I 18 i2.toNatClampNeg).toNatClampNeg))) 0 rfl dX6_leastFrom_44 ?_
      refine zq_if_ne (tgt := 66) dX6_leastFrom_46 rfl ⟨fun c7 => ?_, fun c7 => ?_⟩
      · have H := H.1 c7
        refine zq_iinc (i := 3) (x := i3) (v := (nI 1)) (ls' := [(3, .int (i3 + (nI 1))), (4, .int ((h.I 15 (h.I 18 i3.toNatClampNeg).toNatClampNeg) - (h.I 15 (h.I 18 i2.toNatClampNeg).toNatClampNeg))), (0, .ref 12), (2, .int i2)]) 3 rfl rfl (Nat.le_of_ble_eq_true rfl) rfl dX6_leastFrom_66 ?_
        refine zq_goto (tgt := 6) dX6_leastFrom_69 rfl ?_
        exact zq_sub (ls' := [(0, .ref 12), (2, .int i2), (3, .int (i3 + (nI 1)))]) [2, 3, 0] rfl H
      · have H := H.2 c7
        refine zq_aload_n (k := 0) (i := 0) (x := 12) 1 rfl rfl dX6_leastFrom_49 ?_
        refine zq_getP fl_RX6_28 rfl (sh_12 hw) (rf_12_5 hw) dX6_leastFrom_50 ?_
        refine zq_iload_n (k := 3) (i := 3) (x := i3) 3 rfl rfl dX6_leastFrom_53 ?_
        obtain ⟨b8, H⟩ := H
        refine zq_iald (sh_18 hw) b8 dX6_leastFrom_54 ?_
        refine zq_aload_n (k := 0) (i := 0) (x := 12) 1 rfl rfl dX6_leastFrom_55 ?_
        refine zq_getP fl_RX6_28 rfl (sh_12 hw) (rf_12_5 hw) dX6_leastFrom_56 ?_
        refine zq_iload_n (k := 2) (i := 2) (x := i2) 2 rfl rfl dX6_leastFrom_59 ?_
        obtain ⟨b9, H⟩ := H
        refine zq_iald (sh_18 hw) b9 dX6_leastFrom_60 ?_
        refine zq_icmp_ge (tgt := 66) dX6_leastFrom_61 rfl ⟨fun c10 => ?_, fun c10 => ?_⟩
        · have H := H.1 c10
          refine zq_iinc (i := 3) (x := i3) (v := (nI 1)) (ls' := [(3, .int (i3 + (nI 1))), (4, .int ((h.I 15 (h.I 18 i3.toNatClampNeg).toNatClampNeg) - (h.I 15 (h.I 18 i2.toNatClampNeg).toNatClampNeg))), (0, .ref 12), (2, .int i2)]) 3 rfl rfl (Nat.le_of_ble_eq_true rfl) rfl dX6_leastFrom_66 ?_
          refine zq_goto (tgt := 6) dX6_leastFrom_69 rfl ?_
          exact zq_sub (ls' := [(0, .ref 12), (2, .int i2), (3, .int (i3 + (nI 1)))]) [2, 3, 0] rfl H
        · have H := H.2 c10
          refine zq_iload_n (k := 3) (i := 3) (x := i3) 3 rfl rfl dX6_leastFrom_64 ?_
          refine zq_istore_n (ls' := [(2, .int i3), (4, .int ((h.I 15 (h.I 18 i3.toNatClampNeg).toNatClampNeg) - (h.I 15 (h.I 18 i2.toNatClampNeg).toNatClampNeg))), (0, .ref 12), (3, .int i3)]) (k := 2) (i := 2) rfl (Nat.le_of_ble_eq_true rfl) rfl dX6_leastFrom_65 ?_
          refine zq_iinc (i := 3) (x := i3) (v := (nI 1)) (ls' := [(3, .int (i3 + (nI 1))), (2, .int i3), (4, .int ((h.I 15 (h.I 18 i3.toNatClampNeg).toNatClampNeg) - (h.I 15 (h.I 18 i2.toNatClampNeg).toNatClampNeg))), (0, .ref 12)]) 3 rfl rfl (Nat.le_of_ble_eq_true rfl) rfl dX6_leastFrom_66 ?_
          refine zq_goto (tgt := 6) dX6_leastFrom_69 rfl ?_
          exact zq_sub (ls' := [(0, .ref 12), (2, .int i3), (3, .int (i3 + (nI 1)))]) [3, 1, 0] rfl H
set_option maxHeartbeats 2000000 in
set_option maxRecDepth 20000 in
theorem r_X6_takeAway_0 {d : Nat} {h : AH} {Q : Option Value → AH → Prop} (i1 : Int32) (i2 : Int32) (hw : zWF h)  (H : vp_in i1 40 ∧ (vp_in i1 40 ∧ (∀ h3, h3 = h.sL 14 i1.toNatClampNeg ((h.L 14 i1.toNatClampNeg) &&& (((1 : Int64) <<< (i2.toInt64 &&& 63)) ^^^ (-1 : Int64))) → vp_in i2 40 ∧ (vp_in i2 40 ∧ (∀ h6, h6 = h3.sL 14 i2.toNatClampNeg ((h3.L 14 i2.toNatClampNeg) &&& (((1 : Int64) <<< (i1.toInt64 &&& 63)) ^^^ (-1 : Int64))) → vp_in i1 40 ∧ (vp_in i2 40 ∧ (zQ none m_X6_takeAway (d + 1) 49 [(0, .ref 12), (1, .int i1), (2, .int i2), (3, .long ((h6.L 14 i1.toNatClampNeg) &&& (h6.L 14 i2.toNatClampNeg))), (5, .int (nI 0))] [] h6 Q))))))) : zK (d + 1) m_X6_takeAway [.ref 12, .int i1, .int i2] h Q := by
  refine zK_of mo_X6_takeAway (Nat.le_of_ble_eq_true rfl) ?_
  show zQ none m_X6_takeAway (d + 1) 0 [(0, .ref 12), (1, .int i1), (2, .int i2)] [] h Q
  refine zq_aload_n (k := 0) (i := 0) (x := 12) 0 rfl rfl dX6_takeAway_0 ?_
  refine zq_getP fl_RX6_15 rfl (sh_12 hw) (rf_12_1 hw) dX6_takeAway_1 ?_
  refine zq_iload_n (k := 1) (i := 1) (x := i1) 1 rfl rfl dX6_takeAway_4 ?_
  refine zq_dup2 rfl rfl dX6_takeAway_5 ?_
  obtain ⟨b1, H⟩ := H
  refine zq_lald (sh_14 hw) b1 dX6_takeAway_6 ?_
  refine zq_lconst (v := 1) rfl dX6_takeAway_7 ?_
  refine zq_iload_n (k := 2) (i := 2) (x := i2) 2 rfl rfl dX6_takeAway_8 ?_
  refine zq_lshl dX6_takeAway_9 ?_
  refine zq_ldc2 (v := (-1)) cl_RX6_80 dX6_takeAway_10 ?_
  refine zq_lxor dX6_takeAway_13 ?_
  refine zq_land dX6_takeAway_14 ?_
  obtain ⟨b2, H⟩ := H
  refine zq_last (sh_14 hw) b2 dX6_takeAway_15 (fun h3 eh3 => ?_)
  have H := H h3 eh3
  have wh3 := wf_L eh3 hw
  refine zq_aload_n (k := 0) (i := 0) (x := 12) 0 rfl rfl dX6_takeAway_16 ?_
  refine zq_getP fl_RX6_15 rfl (sh_12 wh3) (rf_12_1 wh3) dX6_takeAway_17 ?_
  refine zq_iload_n (k := 2) (i := 2) (x := i2) 2 rfl rfl dX6_takeAway_20 ?_
  refine zq_dup2 rfl rfl dX6_takeAway_21 ?_
  obtain ⟨b4, H⟩ := H
  refine zq_lald (sh_14 wh3) b4 dX6_takeAway_22 ?_
  refine zq_lconst (v := 1) rfl dX6_takeAway_23 ?_
  refine zq_iload_n (k := 1) (i := 1) (x := i1) 1 rfl rfl dX6_takeAway_24 ?_
  refine zq_lshl dX6_takeAway_25 ?_
  refine zq_ldc2 (v := (-1)) cl_RX6_80 dX6_takeAway_26 ?_
  refine zq_lxor dX6_takeAway_29 ?_
  refine zq_land dX6_takeAway_30 ?_
  obtain ⟨b5, H⟩ := H
  refine zq_last (sh_14 wh3) b5 dX6_takeAway_31 (fun h6 eh6 => ?_)
  have H := H h6 eh6
  have wh6 := wf_L eh6 wh3
  refine zq_aload_n (k := 0) (i := 0) (x := 12) 0 rfl rfl dX6_takeAway_32 ?_
  refine zq_getP fl_RX6_15 rfl (sh_12 wh6) (rf_12_1 wh6) dX6_takeAway_33 ?_
  refine zq_iload_n (k := 1) (i := 1) (x := i1) 1 rfl rfl dX6_takeAway_36 ?_
  obtain ⟨b7, H⟩ := H
  refine zq_lald (sh_14 wh6) b7 dX6_takeAway_37 ?_
  refine zq_aload_n (k := 0) (i := 0) (x := 12) 0 rfl rfl dX6_takeAway_38 ?_
  refine zq_getP fl_RX6_15 rfl (sh_12 wh6) (rf_12_1 wh6) dX6_takeAway_39 ?_
  refine zq_iload_n (k := 2) (i := 2) (x := i2) 2 rfl rfl dX6_takeAway_42 ?_
  obtain ⟨b8, H⟩ := H
  refine zq_lald (sh_14 wh6) b8 dX6_takeAway_43 ?_
  refine zq_land dX6_takeAway_44 ?_
  refine zq_lstore_n (ls' := [(3, .long ((h6.L 14 i1.toNatClampNeg) &&& (h6.L 14 i2.toNatClampNeg))), (0, .ref 12), (1, .int i1), (2, .int i2)]) (k := 3) (i := 3) rfl (Nat.le_of_ble_eq_true rfl) rfl dX6_takeAway_45 ?_
  refine zq_iconst (v := (nI 0)) rfl dX6_takeAway_46 ?_
  refine zq_istore (ls' := [(5, .int (nI 0)), (3, .long ((h6.L 14 i1.toNatClampNeg) &&& (h6.L 14 i2.toNatClampNeg))), (0, .ref 12), (1, .int i1), (2, .int i2)]) (i := 5) (Nat.le_of_ble_eq_true rfl) rfl dX6_takeAway_47 ?_
  exact zq_sub (ls' := [(0, .ref 12), (1, .int i1), (2, .int i2), (3, .long ((h6.L 14 i1.toNatClampNeg) &&& (h6.L 14 i2.toNatClampNeg))), (5, .int (nI 0))]) [2, 3, 4, 1, 0] rfl H
set_option maxHeartbeats 2000000 in
set_option maxRecDepth 20000 in
theorem r_X6_takeAway_49 {d : Nat} {h : AH} {Q : Option Value → AH → Prop} (i1 : Int32) (i2 : Int32) (l3 : Int64) (i5 : Int32) (hw : zWF h)  (H : ((nI 40) ≤ i5 → Q none h) ∧ (¬ (nI 40) ≤ i5 → zK d m_X10_hasBit [.long l3, .int i5] h (pI h fun x2 => (x2 = 0 → zQ none m_X6_takeAway (d + 1) 49 [(0, .ref 12), (1, .int i1), (2, .int i2), (3, .long l3), (5, .int (i5 + (nI 1)))] [] h Q) ∧ (¬ x2 = 0 → zK d m_X10_pairOf [.int i1, .int i5] h (pI h fun x4 => vp_in x4 1600 ∧ (vp_in x4 1600 ∧ (∀ h7, h7 = h.sI 15 x4.toNatClampNeg ((h.I 15 x4.toNatClampNeg) - (nI 1)) → zK d m_X10_pairOf [.int i2, .int i5] h7 (pI h7 fun x8 => vp_in x8 1600 ∧ (vp_in x8 1600 ∧ (∀ h11, h11 = h7.sI 15 x8.toNatClampNeg ((h7.I 15 x8.toNatClampNeg) - (nI 1)) → zQ none m_X6_takeAway (d + 1) 49 [(0, .ref 12), (1, .int i1), (2, .int i2), (3, .long l3), (5, .int (i5 + (nI 1)))] [] h11 Q)))))))))) : zQ none m_X6_takeAway (d + 1) 49 [(0, .ref 12), (1, .int i1), (2, .int i2), (3, .long l3), (5, .int i5)] [] h Q := by
  refine zq_iload (i := 5) (x := i5) 4 rfl dX6_takeAway_49 ?_
  refine zq_bipush (v := (nI 40)) rfl dX6_takeAway_51 ?_
  refine zq_icmp_ge (tgt := 101) dX6_takeAway_53 rfl ⟨fun c1 => ?_, fun c1 => ?_⟩
  · have H := H.1 c1
    exact zq_vret dX6_takeAway_101 rfl H
  · have H := H.2 c1
    refine zq_lload_n (k := 3) (i := 3) (x := l3) 3 rfl rfl dX6_takeAway_56 ?_
    refine zq_iload (i := 5) (x := i5) 4 rfl dX6_takeAway_57 ?_
    refine zq_invS (as := [.long l3, .int i5]) (st := []) st_X10_hasBit mo_X10_hasBit ml_RX6_53 rfl (Nat.le_of_ble_eq_true rfl) dX6_takeAway_59 rfl H (fun r1 h1 hq => ?_)
    obtain ⟨x2, rfl, rfl, H⟩ := hq
    show zQ none m_X6_takeAway (d + 1) 62 [(0, .ref 12), (1, .int i1), (2, .int i2), (3, .long l3), (5, .int i5)] (.int x2 :: []) h Q
    refine zq_if_eq (tgt := 95) dX6_takeAway_62 rfl ⟨fun c3 => ?_, fun c3 => ?_⟩
    · have H := H.1 c3
      refine zq_iinc (i := 5) (x := i5) (v := (nI 1)) (ls' := [(5, .int (i5 + (nI 1))), (0, .ref 12), (1, .int i1), (2, .int i2), (3, .long l3)]) 4 rfl rfl (Nat.le_of_ble_eq_true rfl) rfl dX6_takeAway_95 ?_
      refine zq_goto (tgt := 49) dX6_takeAway_98 rfl ?_
      exact zq_sub (ls' := [(0, .ref 12), (1, .int i1), (2, .int i2), (3, .long l3), (5, .int (i5 + (nI 1)))]) [1, 2, 3, 4, 0] rfl H
    · have H := H.2 c3
      refine zq_aload_n (k := 0) (i := 0) (x := 12) 0 rfl rfl dX6_takeAway_65 ?_
      refine zq_getP fl_RX6_18 rfl (sh_12 hw) (rf_12_2 hw) dX6_takeAway_66 ?_
      refine zq_iload_n (k := 1) (i := 1) (x := i1) 1 rfl rfl dX6_takeAway_69 ?_
      refine zq_iload (i := 5) (x := i5) 4 rfl dX6_takeAway_70 ?_
      refine zq_invS (as := [.int i1, .int i5]) (st := .ref 15 :: []) st_X10_pairOf mo_X10_pairOf ml_RX6_57 rfl (Nat.le_of_ble_eq_true rfl) dX6_takeAway_72 rfl H (fun r1 h1 hq => ?_)
      obtain ⟨x4, rfl, rfl, H⟩ := hq
      show zQ none m_X6_takeAway (d + 1) 75 [(0, .ref 12), (1, .int i1), (2, .int i2), (3, .long l3), (5, .int i5)] (.int x4 :: .ref 15 :: []) h Q
      refine zq_dup2 rfl rfl dX6_takeAway_75 ?_
      obtain ⟨b5, H⟩ := H
      refine zq_iald (sh_15 hw) b5 dX6_takeAway_76 ?_
      refine zq_iconst (v := (nI 1)) rfl dX6_takeAway_77 ?_
      refine zq_isub dX6_takeAway_78 ?_
      obtain ⟨b6, H⟩ := H
      refine zq_iast (sh_15 hw) b6 dX6_takeAway_79 (fun h7 eh7 => ?_)
      have H := H h7 eh7
      have wh7 := wf_I eh7 hw
      refine zq_aload_n (k := 0) (i := 0) (x := 12) 0 rfl rfl dX6_takeAway_80 ?_
      refine zq_getP fl_RX6_18 rfl (sh_12 wh7) (rf_12_2 wh7) dX6_takeAway_81 ?_
      refine zq_iload_n (k := 2) (i := 2) (x := i2) 2 rfl rfl dX6_takeAway_84 ?_
      refine zq_iload (i := 5) (x := i5) 4 rfl dX6_takeAway_85 ?_
      refine zq_invS (as := [.int i2, .int i5]) (st := .ref 15 :: []) st_X10_pairOf mo_X10_pairOf ml_RX6_57 rfl (Nat.le_of_ble_eq_true rfl) dX6_takeAway_87 rfl H (fun r1 h1 hq => ?_)
      obtain ⟨x8, rfl, rfl, H⟩ := hq
      show zQ none m_X6_takeAway (d + 1) 90 [(0, .ref 12), (1, .int i1), (2, .int i2), (3, .long l3), (5, .int i5)] (.int x8 :: .ref 15 :: []) h7 Q
      refine zq_dup2 rfl rfl dX6_takeAway_90 ?_
      obtain ⟨b9, H⟩ := H
      refine zq_iald (sh_15 wh7) b9 dX6_takeAway_91 ?_
      refine zq_iconst (v := (nI 1)) rfl dX6_takeAway_92 ?_
      refine zq_isub dX6_takeAway_93 ?_
      obtain ⟨b10, H⟩ := H
      refine zq_iast (sh_15 wh7) b10 dX6_takeAway_94 (fun h11 eh11 => ?_)
      have H := H h11 eh11
      have wh11 := wf_I eh11 wh7
      refine zq_iinc (i := 5) (x := i5) (v := (nI 1)) (ls' := [(5, .int (i5 + (nI 1))), (0, .ref 12), (1, .int i1), (2, .int i2), (3, .long l3)]) 4 rfl rfl (Nat.le_of_ble_eq_true rfl) rfl dX6_takeAway_95 ?_
      refine zq_goto (tgt := 49) dX6_takeAway_98 rfl ?_
      exact zq_sub (ls' := [(0, .ref 12), (1, .int i1), (2, .int i2), (3, .long l3), (5, .int (i5 + (nI 1)))]) [1, 2, 3, 4, 0] rfl H
set_option maxHeartbeats 2000000 in
set_option maxRecDepth 20000 in
theorem r_X6_edgesFrom_0 {d : Nat} {h : AH} {Q : Option Value → AH → Prop} (i1 : Int32) (hw : zWF h)  (H : zQ none m_X6_edgesFrom (d + 1) 4 [(0, .ref 12), (1, .int i1), (2, .int (nI 0)), (3, .int (nI 0))] [] h Q) : zK (d + 1) m_X6_edgesFrom [.ref 12, .int i1] h Q := by
  refine zK_of mo_X6_edgesFrom (Nat.le_of_ble_eq_true rfl) ?_
  show zQ none m_X6_edgesFrom (d + 1) 0 [(0, .ref 12), (1, .int i1)] [] h Q
  refine zq_iconst (v := (nI 0)) rfl dX6_edgesFrom_0 ?_
  refine zq_istore_n (ls' := [(2, .int (nI 0)), (0, .ref 12), (1, .int i1)]) (k := 2) (i := 2) rfl (Nat.le_of_ble_eq_true rfl) rfl dX6_edgesFrom_1 ?_
  refine zq_iconst (v := (nI 0)) rfl dX6_edgesFrom_2 ?_
  refine zq_istore_n (ls' := [(3, .int (nI 0)), (2, .int (nI 0)), (0, .ref 12), (1, .int i1)]) (k := 3) (i := 3) rfl (Nat.le_of_ble_eq_true rfl) rfl dX6_edgesFrom_3 ?_
  exact zq_sub (ls' := [(0, .ref 12), (1, .int i1), (2, .int (nI 0)), (3, .int (nI 0))]) [2, 3, 1, 0] rfl H
set_option maxHeartbeats 2000000 in
set_option maxRecDepth 20000 in
theorem r_X6_edgesFrom_4 {d : Nat} {h : AH} {Q : Option Value → AH → Prop} (i1 : Int32) (i2 : Int32) (i3 : Int32) (hw : zWF h)  (H : ((h.I 12 8) ≤ i3 → Q (some (.int i2)) h) ∧ (¬ (h.I 12 8) ≤ i3 → vp_in i3 780 ∧ (vp_in (h.I 18 i3.toNatClampNeg) 1600 ∧ (((h.I 16 (h.I 18 i3.toNatClampNeg).toNatClampNeg) < i1 → zQ none m_X6_edgesFrom (d + 1) 4 [(0, .ref 12), (1, .int i1), (2, .int i2), (3, .int (i3 + (nI 1)))] [] h Q) ∧ (¬ (h.I 16 (h.I 18 i3.toNatClampNeg).toNatClampNeg) < i1 → zQ none m_X6_edgesFrom (d + 1) 4 [(0, .ref 12), (1, .int i1), (2, .int (i2 + (nI 1))), (3, .int (i3 + (nI 1)))] [] h Q))))) : zQ none m_X6_edgesFrom (d + 1) 4 [(0, .ref 12), (1, .int i1), (2, .int i2), (3, .int i3)] [] h Q := by
  refine zq_iload_n (k := 3) (i := 3) (x := i3) 3 rfl rfl dX6_edgesFrom_4 ?_
  refine zq_aload_n (k := 0) (i := 0) (x := 12) 0 rfl rfl dX6_edgesFrom_5 ?_
  refine zq_getI fl_RX6_37 rfl (sh_12 hw) dX6_edgesFrom_6 ?_
  refine zq_icmp_ge (tgt := 36) dX6_edgesFrom_9 rfl ⟨fun c1 => ?_, fun c1 => ?_⟩
  · have H := H.1 c1
    refine zq_iload_n (k := 2) (i := 2) (x := i2) 2 rfl rfl dX6_edgesFrom_36 ?_
    exact zq_iret dX6_edgesFrom_37 rfl rfl rfl H
  · have H := H.2 c1
    refine zq_aload_n (k := 0) (i := 0) (x := 12) 0 rfl rfl dX6_edgesFrom_12 ?_
    refine zq_getP fl_RX6_22 rfl (sh_12 hw) (rf_12_3 hw) dX6_edgesFrom_13 ?_
    refine zq_aload_n (k := 0) (i := 0) (x := 12) 0 rfl rfl dX6_edgesFrom_16 ?_
    refine zq_getP fl_RX6_28 rfl (sh_12 hw) (rf_12_5 hw) dX6_edgesFrom_17 ?_
    refine zq_iload_n (k := 3) (i := 3) (x := i3) 3 rfl rfl dX6_edgesFrom_20 ?_
    obtain ⟨b2, H⟩ := H
    refine zq_iald (sh_18 hw) b2 dX6_edgesFrom_21 ?_
    obtain ⟨b3, H⟩ := H
    refine zq_iald (sh_16 hw) b3 dX6_edgesFrom_22 ?_
    refine zq_iload_n (k := 1) (i := 1) (x := i1) 1 rfl rfl dX6_edgesFrom_23 ?_
    refine zq_icmp_lt (tgt := 30) dX6_edgesFrom_24 rfl ⟨fun c4 => ?_, fun c4 => ?_⟩
    · have H := H.1 c4
      refine zq_iinc (i := 3) (x := i3) (v := (nI 1)) (ls' := [(3, .int (i3 + (nI 1))), (0, .ref 12), (1, .int i1), (2, .int i2)]) 3 rfl rfl (Nat.le_of_ble_eq_true rfl) rfl dX6_edgesFrom_30 ?_
      refine zq_goto (tgt := 4) dX6_edgesFrom_33 rfl ?_
      exact zq_sub (ls' := [(0, .ref 12), (1, .int i1), (2, .int i2), (3, .int (i3 + (nI 1)))]) [1, 2, 3, 0] rfl H
    · have H := H.2 c4
      refine zq_iinc (i := 2) (x := i2) (v := (nI 1)) (ls' := [(2, .int (i2 + (nI 1))), (0, .ref 12), (1, .int i1), (3, .int i3)]) 2 rfl rfl (Nat.le_of_ble_eq_true rfl) rfl dX6_edgesFrom_27 ?_
      refine zq_iinc (i := 3) (x := i3) (v := (nI 1)) (ls' := [(3, .int (i3 + (nI 1))), (2, .int (i2 + (nI 1))), (0, .ref 12), (1, .int i1)]) 3 rfl rfl (Nat.le_of_ble_eq_true rfl) rfl dX6_edgesFrom_30 ?_
      refine zq_goto (tgt := 4) dX6_edgesFrom_33 rfl ?_
      exact zq_sub (ls' := [(0, .ref 12), (1, .int i1), (2, .int (i2 + (nI 1))), (3, .int (i3 + (nI 1)))]) [2, 3, 1, 0] rfl H
set_option maxHeartbeats 2000000 in
set_option maxRecDepth 20000 in
theorem r_X6_hoodOf_0 {d : Nat} {h : AH} {Q : Option Value → AH → Prop} (i1 : Int32) (i2 : Int32) (hw : zWF h)  (H : vp_in i1 1600 ∧ ((i2 ≤ (h.I 16 i1.toNatClampNeg) → zK d m_J7_fill_53178 [.ref 20, .int (nI 0)] h (kV fun h3 => zK d m_X6_walkFrom [.ref 12, .int i1, .int i2] h3 (kI fun x5 h4 => Q (some (.int x5)) h4))) ∧ (¬ i2 ≤ (h.I 16 i1.toNatClampNeg) → Q (some (.int (nI 0))) h))) : zK (d + 1) m_X6_hoodOf [.ref 12, .int i1, .int i2] h Q := by
  refine zK_of mo_X6_hoodOf (Nat.le_of_ble_eq_true rfl) ?_
  show zQ none m_X6_hoodOf (d + 1) 0 [(0, .ref 12), (1, .int i1), (2, .int i2)] [] h Q
  refine zq_aload_n (k := 0) (i := 0) (x := 12) 0 rfl rfl dX6_hoodOf_0 ?_
  refine zq_getP fl_RX6_22 rfl (sh_12 hw) (rf_12_3 hw) dX6_hoodOf_1 ?_
  refine zq_iload_n (k := 1) (i := 1) (x := i1) 1 rfl rfl dX6_hoodOf_4 ?_
  obtain ⟨b1, H⟩ := H
  refine zq_iald (sh_16 hw) b1 dX6_hoodOf_5 ?_
  refine zq_iload_n (k := 2) (i := 2) (x := i2) 2 rfl rfl dX6_hoodOf_6 ?_
  refine zq_icmp_ge (tgt := 12) dX6_hoodOf_7 rfl ⟨fun c2 => ?_, fun c2 => ?_⟩
  · have H := H.1 c2
    refine zq_aload_n (k := 0) (i := 0) (x := 12) 0 rfl rfl dX6_hoodOf_12 ?_
    refine zq_getP fl_RX6_34 rfl (sh_12 hw) (rf_12_7 hw) dX6_hoodOf_13 ?_
    refine zq_iconst (v := (nI 0)) rfl dX6_hoodOf_16 ?_
    refine zq_invS (as := [.ref 20, .int (nI 0)]) (st := []) st_J7_fill_53178 mo_J7_fill_53178 ml_RX6_96 rfl (Nat.le_of_ble_eq_true rfl) dX6_hoodOf_17 rfl H (fun r1 h3 hq => ?_)
    obtain ⟨rfl, wh3, H⟩ := hq
    show zQ none m_X6_hoodOf (d + 1) 20 [(0, .ref 12), (1, .int i1), (2, .int i2)] ([]) h3 Q
    refine zq_aload_n (k := 0) (i := 0) (x := 12) 0 rfl rfl dX6_hoodOf_20 ?_
    refine zq_iload_n (k := 1) (i := 1) (x := i1) 1 rfl rfl dX6_hoodOf_21 ?_
    refine zq_iload_n (k := 2) (i := 2) (x := i2) 2 rfl rfl dX6_hoodOf_22 ?_
    refine zq_invV (as := [.int i1, .int i2]) (st := []) (o := 12) (c := 5) (by decide) rfl (sh_12 wh3) in_X6_walkFrom se_X6_walkFrom mo_X6_walkFrom ml_RX6_99 rfl (Nat.le_of_ble_eq_true rfl) dX6_hoodOf_23 rfl H (fun r1 h4 hq => ?_)
    obtain ⟨x5, rfl, wh4, H⟩ := hq
    show zQ none m_X6_hoodOf (d + 1) 26 [(0, .ref 12), (1, .int i1), (2, .int i2)] (.int x5 :: []) h4 Q
    exact zq_iret dX6_hoodOf_26 rfl rfl rfl H
  · have H := H.2 c2
    refine zq_iconst (v := (nI 0)) rfl dX6_hoodOf_10 ?_
    exact zq_iret dX6_hoodOf_11 rfl rfl rfl H
set_option maxHeartbeats 2000000 in
set_option maxRecDepth 20000 in
theorem r_X6_hoodsFrom_0 {d : Nat} {h : AH} {Q : Option Value → AH → Prop} (i1 : Int32) (hw : zWF h)  (H : zK d m_J7_fill_53178 [.ref 20, .int (nI 0)] h (kV fun h1 => zQ none m_X6_hoodsFrom (d + 1) 12 [(0, .ref 12), (1, .int i1), (2, .int (nI 0)), (3, .int (nI 0))] [] h1 Q)) : zK (d + 1) m_X6_hoodsFrom [.ref 12, .int i1] h Q := by
  refine zK_of mo_X6_hoodsFrom (Nat.le_of_ble_eq_true rfl) ?_
  show zQ none m_X6_hoodsFrom (d + 1) 0 [(0, .ref 12), (1, .int i1)] [] h Q
  refine zq_aload_n (k := 0) (i := 0) (x := 12) 0 rfl rfl dX6_hoodsFrom_0 ?_
  refine zq_getP fl_RX6_34 rfl (sh_12 hw) (rf_12_7 hw) dX6_hoodsFrom_1 ?_
  refine zq_iconst (v := (nI 0)) rfl dX6_hoodsFrom_4 ?_
  refine zq_invS (as := [.ref 20, .int (nI 0)]) (st := []) st_J7_fill_53178 mo_J7_fill_53178 ml_RX6_96 rfl (Nat.le_of_ble_eq_true rfl) dX6_hoodsFrom_5 rfl H (fun r1 h1 hq => ?_)
  obtain ⟨rfl, wh1, H⟩ := hq
  show zQ none m_X6_hoodsFrom (d + 1) 8 [(0, .ref 12), (1, .int i1)] ([]) h1 Q
  refine zq_iconst (v := (nI 0)) rfl dX6_hoodsFrom_8 ?_
  refine zq_istore_n (ls' := [(2, .int (nI 0)), (0, .ref 12), (1, .int i1)]) (k := 2) (i := 2) rfl (Nat.le_of_ble_eq_true rfl) rfl dX6_hoodsFrom_9 ?_
  refine zq_iconst (v := (nI 0)) rfl dX6_hoodsFrom_10 ?_
  refine zq_istore_n (ls' := [(3, .int (nI 0)), (2, .int (nI 0)), (0, .ref 12), (1, .int i1)]) (k := 3) (i := 3) rfl (Nat.le_of_ble_eq_true rfl) rfl dX6_hoodsFrom_11 ?_
  exact zq_sub (ls' := [(0, .ref 12), (1, .int i1), (2, .int (nI 0)), (3, .int (nI 0))]) [2, 3, 1, 0] rfl H
set_option maxHeartbeats 2000000 in
set_option maxRecDepth 20000 in
theorem r_X6_hoodsFrom_12 {d : Nat} {h : AH} {Q : Option Value → AH → Prop} (i1 : Int32) (i2 : Int32) (i3 : Int32) (hw : zWF h)  (H : ((h.I 12 8) ≤ i3 → Q (some (.int i2)) h) ∧ (¬ (h.I 12 8) ≤ i3 → vp_in i3 780 ∧ (vp_in (h.I 18 i3.toNatClampNeg) 1600 ∧ (((h.I 16 (h.I 18 i3.toNatClampNeg).toNatClampNeg) < i1 → zQ none m_X6_hoodsFrom (d + 1) 12 [(0, .ref 12), (1, .int i1), (2, .int i2), (3, .int (i3 + (nI 1)))] [] h Q) ∧ (¬ (h.I 16 (h.I 18 i3.toNatClampNeg).toNatClampNeg) < i1 → vp_in i3 780 ∧ (vp_in (h.I 18 i3.toNatClampNeg) 1600 ∧ (((h.I 20 (h.I 18 i3.toNatClampNeg).toNatClampNeg) ≠ 0 → zQ none m_X6_hoodsFrom (d + 1) 12 [(0, .ref 12), (1, .int i1), (2, .int i2), (3, .int (i3 + (nI 1)))] [] h Q) ∧ ((h.I 20 (h.I 18 i3.toNatClampNeg).toNatClampNeg) = 0 → vp_in i3 780 ∧ (zK d m_X6_walkFrom [.ref 12, .int (h.I 18 i3.toNatClampNeg), .int i1] h (kI fun x10 h9 => zQ none m_X6_hoodsFrom (d + 1) 12 [(0, .ref 12), (1, .int i1), (2, .int (i2 + (nI 1))), (3, .int (i3 + (nI 1)))] [] h9 Q)))))))))) : zQ none m_X6_hoodsFrom (d + 1) 12 [(0, .ref 12), (1, .int i1), (2, .int i2), (3, .int i3)] [] h Q := by
  refine zq_iload_n (k := 3) (i := 3) (x := i3) 3 rfl rfl dX6_hoodsFrom_12 ?_
  refine zq_aload_n (k := 0) (i := 0) (x := 12) 0 rfl rfl dX6_hoodsFrom_13 ?_
  refine zq_getI fl_RX6_37 rfl (sh_12 hw) dX6_hoodsFrom_14 ?_
  refine zq_icmp_ge (tgt := 70) dX6_hoodsFrom_17 rfl ⟨fun c1 => ?_, fun c1 => ?_⟩
  · have H := H.1 c1
    refine zq_iload_n (k := 2) (i := 2) (x := i2) 2 rfl rfl dX6_hoodsFrom_70 ?_
    exact zq_iret dX6_hoodsFrom_71 rfl rfl rfl H
  · have H := H.2 c1
    refine zq_aload_n (k := 0) (i := 0) (x := 12) 0 rfl rfl dX6_hoodsFrom_20 ?_
    refine zq_getP fl_RX6_22 rfl (sh_12 hw) (rf_12_3 hw) dX6_hoodsFrom_21 ?_
    refine zq_aload_n (k := 0) (i := 0) (x := 12) 0 rfl rfl dX6_hoodsFrom_24 ?_
    refine zq_getP fl_RX6_28 rfl (sh_12 hw) (rf_12_5 hw) dX6_hoodsFrom_25 ?_
    refine zq_iload_n (k := 3) (i := 3) (x := i3) 3 rfl rfl dX6_hoodsFrom_28 ?_
    obtain ⟨b2, H⟩ := H
    refine zq_iald (sh_18 hw) b2 dX6_hoodsFrom_29 ?_
    obtain ⟨b3, H⟩ := H
    refine zq_iald (sh_16 hw) b3 dX6_hoodsFrom_30 ?_
    refine zq_iload_n (k := 1) (i := 1) (x := i1) 1 rfl rfl dX6_hoodsFrom_31 ?_
    refine zq_icmp_lt (tgt := 64) dX6_hoodsFrom_32 rfl ⟨fun c4 => ?_, fun c4 => ?_⟩
    · have H := H.1 c4
      refine zq_iinc (i := 3) (x := i3) (v := (nI 1)) (ls' := [(3, .int (i3 + (nI 1))), (0, .ref 12), (1, .int i1), (2, .int i2)]) 3 rfl rfl (Nat.le_of_ble_eq_true rfl) rfl dX6_hoodsFrom_64 ?_
      refine zq_goto (tgt := 12) dX6_hoodsFrom_67 rfl ?_
      exact zq_sub (ls' := [(0, .ref 12), (1, .int i1), (2, .int i2), (3, .int (i3 + (nI 1)))]) [1, 2, 3, 0] rfl H
    · have H := H.2 c4
      refine zq_aload_n (k := 0) (i := 0) (x := 12) 0 rfl rfl dX6_hoodsFrom_35 ?_
      refine zq_getP fl_RX6_34 rfl (sh_12 hw) (rf_12_7 hw) dX6_hoodsFrom_36 ?_
      refine zq_aload_n (k := 0) (i := 0) (x := 12) 0 rfl rfl dX6_hoodsFrom_39 ?_
      refine zq_getP fl_RX6_28 rfl (sh_12 hw) (rf_12_5 hw) dX6_hoodsFrom_40 ?_
      refine zq_iload_n (k := 3) (i := 3) (x := i3) 3 rfl rfl dX6_hoodsFrom_43 ?_
      obtain ⟨b5, H⟩ := H
      refine zq_iald (sh_18 hw) b5 dX6_hoodsFrom_44 ?_
      obtain ⟨b6, H⟩ := H
      refine zq_iald (sh_20 hw) b6 dX6_hoodsFrom_45 ?_
      refine zq_if_ne (tgt := 64) dX6_hoodsFrom_46 rfl ⟨fun c7 => ?_, fun c7 => ?_⟩
      · have H := H.1 c7
        refine zq_iinc (i := 3) (x := i3) (v := (nI 1)) (ls' := [(3, .int (i3 + (nI 1))), (0, .ref 12), (1, .int i1), (2, .int i2)]) 3 rfl rfl (Nat.le_of_ble_eq_true rfl) rfl dX6_hoodsFrom_64 ?_
        refine zq_goto (tgt := 12) dX6_hoodsFrom_67 rfl ?_
        exact zq_sub (ls' := [(0, .ref 12), (1, .int i1), (2, .int i2), (3, .int (i3 + (nI 1)))]) [1, 2, 3, 0] rfl H
      · have H := H.2 c7
        refine zq_aload_n (k := 0) (i := 0) (x := 12) 0 rfl rfl dX6_hoodsFrom_49 ?_
        refine zq_aload_n (k := 0) (i := 0) (x := 12) 0 rfl rfl dX6_hoodsFrom_50 ?_
        refine zq_getP fl_RX6_28 rfl (sh_12 hw) (rf_12_5 hw) dX6_hoodsFrom_51 ?_
        refine zq_iload_n (k := 3) (i := 3) (x := i3) 3 rfl rfl dX6_hoodsFrom_54 ?_
        obtain ⟨b8, H⟩ := H
        refine zq_iald (sh_18 hw) b8 dX6_hoodsFrom_55 ?_
        refine zq_iload_n (k := 1) (i := 1) (x := i1) 1 rfl rfl dX6_hoodsFrom_56 ?_
        refine zq_invV (as := [.int (h.I 18 i3.toNatClampNeg), .int i1]) (st := []) (o := 12) (c := 5) (by decide) rfl (sh_12 hw) in_X6_walkFrom se_X6_walkFrom mo_X6_walkFrom ml_RX6_99 rfl (Nat.le_of_ble_eq_true rfl) dX6_hoodsFrom_57 rfl H (fun r1 h9 hq => ?_)
        obtain ⟨x10, rfl, wh9, H⟩ := hq
        show zQ none m_X6_hoodsFrom (d + 1) 60 [(0, .ref 12), (1, .int i1), (2, .int i2), (3, .int i3)] (.int x10 :: []) h9 Q
        refine zq_pop rfl dX6_hoodsFrom_60 ?_
        refine zq_iinc (i := 2) (x := i2) (v := (nI 1)) (ls' := [(2, .int (i2 + (nI 1))), (0, .ref 12), (1, .int i1), (3, .int i3)]) 2 rfl rfl (Nat.le_of_ble_eq_true rfl) rfl dX6_hoodsFrom_61 ?_
        refine zq_iinc (i := 3) (x := i3) (v := (nI 1)) (ls' := [(3, .int (i3 + (nI 1))), (2, .int (i2 + (nI 1))), (0, .ref 12), (1, .int i1)]) 3 rfl rfl (Nat.le_of_ble_eq_true rfl) rfl dX6_hoodsFrom_64 ?_
        refine zq_goto (tgt := 12) dX6_hoodsFrom_67 rfl ?_
        exact zq_sub (ls' := [(0, .ref 12), (1, .int i1), (2, .int (i2 + (nI 1))), (3, .int (i3 + (nI 1)))]) [2, 3, 1, 0] rfl H
set_option maxHeartbeats 2000000 in
set_option maxRecDepth 20000 in
theorem r_X6_walkFrom_0 {d : Nat} {h : AH} {Q : Option Value → AH → Prop} (i1 : Int32) (i2 : Int32) (hw : zWF h)  (H : vp_in i1 1600 ∧ (∀ h2, h2 = h.sI 20 i1.toNatClampNeg (nI 1) → vp_in (nI 0) 780 ∧ (∀ h4, h4 = h2.sI 19 (nI 0).toNatClampNeg i1 → zQ none m_X6_walkFrom (d + 1) 19 [(0, .ref 12), (2, .int i2), (3, .int (nI 1)), (4, .int (nI 0))] [] h4 Q))) : zK (d + 1) m_X6_walkFrom [.ref 12, .int i1, .int i2] h Q := by
  refine zK_of mo_X6_walkFrom (Nat.le_of_ble_eq_true rfl) ?_
  show zQ none m_X6_walkFrom (d + 1) 0 [(0, .ref 12), (1, .int i1), (2, .int i2)] [] h Q
  refine zq_aload_n (k := 0) (i := 0) (x := 12) 0 rfl rfl dX6_walkFrom_0 ?_
  refine zq_getP fl_RX6_34 rfl (sh_12 hw) (rf_12_7 hw) dX6_walkFrom_1 ?_
  refine zq_iload_n (k := 1) (i := 1) (x := i1) 1 rfl rfl dX6_walkFrom_4 ?_
  refine zq_iconst (v := (nI 1)) rfl dX6_walkFrom_5 ?_
  obtain ⟨b1, H⟩ := H
  refine zq_iast (sh_20 hw) b1 dX6_walkFrom_6 (fun h2 eh2 => ?_)
  have H := H h2 eh2
  have wh2 := wf_I eh2 hw
  refine zq_aload_n (k := 0) (i := 0) (x := 12) 0 rfl rfl dX6_walkFrom_7 ?_
  refine zq_getP fl_RX6_31 rfl (sh_12 wh2) (rf_12_6 wh2) dX6_walkFrom_8 ?_
  refine zq_iconst (v := (nI 0)) rfl dX6_walkFrom_11 ?_
  refine zq_iload_n (k := 1) (i := 1) (x := i1) 1 rfl rfl dX6_walkFrom_12 ?_
  obtain ⟨b3, H⟩ := H
  refine zq_iast (sh_19 wh2) b3 dX6_walkFrom_13 (fun h4 eh4 => ?_)
  have H := H h4 eh4
  have wh4 := wf_I eh4 wh2
  refine zq_iconst (v := (nI 1)) rfl dX6_walkFrom_14 ?_
  refine zq_istore_n (ls' := [(3, .int (nI 1)), (0, .ref 12), (1, .int i1), (2, .int i2)]) (k := 3) (i := 3) rfl (Nat.le_of_ble_eq_true rfl) rfl dX6_walkFrom_15 ?_
  refine zq_iconst (v := (nI 0)) rfl dX6_walkFrom_16 ?_
  refine zq_istore (ls' := [(4, .int (nI 0)), (3, .int (nI 1)), (0, .ref 12), (1, .int i1), (2, .int i2)]) (i := 4) (Nat.le_of_ble_eq_true rfl) rfl dX6_walkFrom_17 ?_
  exact zq_sub (ls' := [(0, .ref 12), (2, .int i2), (3, .int (nI 1)), (4, .int (nI 0))]) [2, 4, 1, 0] rfl H
set_option maxHeartbeats 2000000 in
set_option maxRecDepth 20000 in
theorem r_X6_walkFrom_19 {d : Nat} {h : AH} {Q : Option Value → AH → Prop} (i2 : Int32) (i3 : Int32) (i4 : Int32) (hw : zWF h)  (H : (i3 ≤ i4 → Q (some (.int i3)) h) ∧ (¬ i3 ≤ i4 → ((nI 780) ≤ i4 → Q (some (.int i3)) h) ∧ (¬ (nI 780) ≤ i4 → vp_in i4 780 ∧ (vp_in i4 780 ∧ (vp_in ((h.I 19 i4.toNatClampNeg) / (nI 40)) 40 ∧ (vp_in ((h.I 19 i4.toNatClampNeg) - (h.I 19 i4.toNatClampNeg) / (nI 40) * (nI 40)) 40 ∧ (zQ none m_X6_walkFrom (d + 1) 77 [(0, .ref 12), (2, .int i2), (3, .int i3), (4, .int i4), (5, .int ((h.I 19 i4.toNatClampNeg) / (nI 40))), (6, .int ((h.I 19 i4.toNatClampNeg) - (h.I 19 i4.toNatClampNeg) / (nI 40) * (nI 40))), (7, .long ((h.L 13 ((h.I 19 i4.toNatClampNeg) / (nI 40)).toNatClampNeg) &&& (h.L 13 ((h.I 19 i4.toNatClampNeg) - (h.I 19 i4.toNatClampNeg) / (nI 40) * (nI 40)).toNatClampNeg))), (9, .int (nI 0))] [] h Q))))))) : zQ none m_X6_walkFrom (d + 1) 19 [(0, .ref 12), (2, .int i2), (3, .int i3), (4, .int i4)] [] h Q := by
  refine zq_iload (i := 4) (x := i4) 3 rfl dX6_walkFrom_19 ?_
  refine zq_iload_n (k := 3) (i := 3) (x := i3) 2 rfl rfl dX6_walkFrom_21 ?_
  refine zq_icmp_ge (tgt := 164) dX6_walkFrom_22 rfl ⟨fun c1 => ?_, fun c1 => ?_⟩
  · have H := H.1 c1
    refine zq_iload_n (k := 3) (i := 3) (x := i3) 2 rfl rfl dX6_walkFrom_164 ?_
    exact zq_iret dX6_walkFrom_165 rfl rfl rfl H
  · have H := H.2 c1
    refine zq_iload (i := 4) (x := i4) 3 rfl dX6_walkFrom_25 ?_
    refine zq_sipush (v := (nI 780)) rfl dX6_walkFrom_27 ?_
    refine zq_icmp_ge (tgt := 164) dX6_walkFrom_30 rfl ⟨fun c2 => ?_, fun c2 => ?_⟩
    · have H := H.1 c2
      refine zq_iload_n (k := 3) (i := 3) (x := i3) 2 rfl rfl dX6_walkFrom_164 ?_
      exact zq_iret dX6_walkFrom_165 rfl rfl rfl H
    · have H := H.2 c2
      refine zq_aload_n (k := 0) (i := 0) (x := 12) 0 rfl rfl dX6_walkFrom_33 ?_
      refine zq_getP fl_RX6_31 rfl (sh_12 hw) (rf_12_6 hw) dX6_walkFrom_34 ?_
      refine zq_iload (i := 4) (x := i4) 3 rfl dX6_walkFrom_37 ?_
      obtain ⟨b3, H⟩ := H
      refine zq_iald (sh_19 hw) b3 dX6_walkFrom_39 ?_
      refine zq_bipush (v := (nI 40)) rfl dX6_walkFrom_40 ?_
      refine zq_idiv (by decide) dX6_walkFrom_42 ?_
      refine zq_istore (ls' := [(5, .int ((h.I 19 i4.toNatClampNeg) / (nI 40))), (0, .ref 12), (2, .int i2), (3, .int i3), (4, .int i4)]) (i := 5) (Nat.le_of_ble_eq_true rfl) rfl dX6_walkFrom_43 ?_
      refine zq_aload_n (k := 0) (i := 0) (x := 12) 1 rfl rfl dX6_walkFrom_45 ?_
      refine zq_getP fl_RX6_31 rfl (sh_12 hw) (rf_12_6 hw) dX6_walkFrom_46 ?_
      refine zq_iload (i := 4) (x := i4) 4 rfl dX6_walkFrom_49 ?_
      obtain ⟨b4, H⟩ := H
      refine zq_iald (sh_19 hw) b4 dX6_walkFrom_51 ?_
      refine zq_bipush (v := (nI 40)) rfl dX6_walkFrom_52 ?_
      refine zq_irem (by decide) dX6_walkFrom_54 ?_
      refine zq_istore (ls' := [(6, .int ((h.I 19 i4.toNatClampNeg) - (h.I 19 i4.toNatClampNeg) / (nI 40) * (nI 40))), (5, .int ((h.I 19 i4.toNatClampNeg) / (nI 40))), (0, .ref 12), (2, .int i2), (3, .int i3), (4, .int i4)]) (i := 6) (Nat.le_of_ble_eq_true rfl) rfl dX6_walkFrom_55 ?_
      refine zq_aload_n (k := 0) (i := 0) (x := 12) 2 rfl rfl dX6_walkFrom_57 ?_
      refine zq_getP fl_RX6_9 rfl (sh_12 hw) (rf_12_0 hw) dX6_walkFrom_58 ?_
      refine zq_iload (i := 5) (x := ((h.I 19 i4.toNatClampNeg) / (nI 40))) 1 rfl dX6_walkFrom_61 ?_
      obtain ⟨b5, H⟩ := H
      refine zq_lald (sh_13 hw) b5 dX6_walkFrom_63 ?_
      refine zq_aload_n (k := 0) (i := 0) (x := 12) 2 rfl rfl dX6_walkFrom_64 ?_
      refine zq_getP fl_RX6_9 rfl (sh_12 hw) (rf_12_0 hw) dX6_walkFrom_65 ?_
      refine zq_iload (i := 6) (x := ((h.I 19 i4.toNatClampNeg) - (h.I 19 i4.toNatClampNeg) / (nI 40) * (nI 40))) 0 rfl dX6_walkFrom_68 ?_
      obtain ⟨b6, H⟩ := H
      refine zq_lald (sh_13 hw) b6 dX6_walkFrom_70 ?_
      refine zq_land dX6_walkFrom_71 ?_
      refine zq_lstore (ls' := [(7, .long ((h.L 13 ((h.I 19 i4.toNatClampNeg) / (nI 40)).toNatClampNeg) &&& (h.L 13 ((h.I 19 i4.toNatClampNeg) - (h.I 19 i4.toNatClampNeg) / (nI 40) * (nI 40)).toNatClampNeg))), (6, .int ((h.I 19 i4.toNatClampNeg) - (h.I 19 i4.toNatClampNeg) / (nI 40) * (nI 40))), (5, .int ((h.I 19 i4.toNatClampNeg) / (nI 40))), (0, .ref 12), (2, .int i2), (3, .int i3), (4, .int i4)]) (i := 7) (Nat.le_of_ble_eq_true rfl) rfl dX6_walkFrom_72 ?_
      refine zq_iconst (v := (nI 0)) rfl dX6_walkFrom_74 ?_
      refine zq_istore (ls' := [(9, .int (nI 0)), (7, .long ((h.L 13 ((h.I 19 i4.toNatClampNeg) / (nI 40)).toNatClampNeg) &&& (h.L 13 ((h.I 19 i4.toNatClampNeg) - (h.I 19 i4.toNatClampNeg) / (nI 40) * (nI 40)).toNatClampNeg))), (6, .int ((h.I 19 i4.toNatClampNeg) - (h.I 19 i4.toNatClampNeg) / (nI 40) * (nI 40))), (5, .int ((h.I 19 i4.toNatClampNeg) / (nI 40))), (0, .ref 12), (2, .int i2), (3, .int i3), (4, .int i4)]) (i := 9) (Nat.le_of_ble_eq_true rfl) rfl dX6_walkFrom_75 ?_
      exact zq_sub (ls' := [(0, .ref 12), (2, .int i2), (3, .int i3), (4, .int i4), (5, .int ((h.I 19 i4.toNatClampNeg) / (nI 40))), (6, .int ((h.I 19 i4.toNatClampNeg) - (h.I 19 i4.toNatClampNeg) / (nI 40) * (nI 40))), (7, .long ((h.L 13 ((h.I 19 i4.toNatClampNeg) / (nI 40)).toNatClampNeg) &&& (h.L 13 ((h.I 19 i4.toNatClampNeg) - (h.I 19 i4.toNatClampNeg) / (nI 40) * (nI 40)).toNatClampNeg))), (9, .int (nI 0))]) [4, 5, 6, 7, 3, 2, 1, 0] rfl H
set_option maxHeartbeats 2000000 in
set_option maxRecDepth 20000 in
theorem r_X6_walkFrom_77 {d : Nat} {h : AH} {Q : Option Value → AH → Prop} (i2 : Int32) (i3 : Int32) (i4 : Int32) (i5 : Int32) (i6 : Int32) (l7 : Int64) (i9 : Int32) (hw : zWF h)  (H : ((nI 40) ≤ i9 → zQ none m_X6_walkFrom (d + 1) 19 [(0, .ref 12), (2, .int i2), (3, .int i3), (4, .int (i4 + (nI 1)))] [] h Q) ∧ (¬ (nI 40) ≤ i9 → zK d m_X10_hasBit [.long l7, .int i9] h (pI h fun x2 => (x2 = 0 → zQ none m_X6_walkFrom (d + 1) 77 [(0, .ref 12), (2, .int i2), (3, .int i3), (4, .int i4), (5, .int i5), (6, .int i6), (7, .long l7), (9, .int (i9 + (nI 1)))] [] h Q) ∧ (¬ x2 = 0 → zK d m_X10_pairOf [.int i5, .int i9] h (pI h fun x4 => vp_in x4 1600 ∧ (((h.I 16 x4.toNatClampNeg) < i2 → zQ none m_X6_walkFrom (d + 1) 77 [(0, .ref 12), (2, .int i2), (3, .int i3), (4, .int i4), (5, .int i5), (6, .int i6), (7, .long l7), (9, .int (i9 + (nI 1)))] [] h Q) ∧ (¬ (h.I 16 x4.toNatClampNeg) < i2 → zK d m_X10_pairOf [.int i6, .int i9] h (pI h fun x7 => vp_in x7 1600 ∧ (((h.I 16 x7.toNatClampNeg) < i2 → zQ none m_X6_walkFrom (d + 1) 77 [(0, .ref 12), (2, .int i2), (3, .int i3), (4, .int i4), (5, .int i5), (6, .int i6), (7, .long l7), (9, .int (i9 + (nI 1)))] [] h Q) ∧ (¬ (h.I 16 x7.toNatClampNeg) < i2 → zK d m_X10_pairOf [.int i5, .int i9] h (pI h fun x10 => zK d m_X6_meet [.ref 12, .int x10, .int i3] h (kI fun x12 h11 => zK d m_X10_pairOf [.int i6, .int i9] h11 (pI h11 fun x13 => zK d m_X6_meet [.ref 12, .int x13, .int x12] h11 (kI fun x15 h14 => zQ none m_X6_walkFrom (d + 1) 77 [(0, .ref 12), (2, .int i2), (3, .int x15), (4, .int i4), (5, .int i5), (6, .int i6), (7, .long l7), (9, .int (i9 + (nI 1)))] [] h14 Q)))))))))))))) : zQ none m_X6_walkFrom (d + 1) 77 [(0, .ref 12), (2, .int i2), (3, .int i3), (4, .int i4), (5, .int i5), (6, .int i6), (7, .long l7), (9, .int i9)] [] h Q := by
  refine zq_iload (i := 9) (x := i9) 7 rfl dX6_walkFrom_77 ?_
  refine zq_bipush (v := (nI 40)) rfl dX6_walkFrom_79 ?_
  refine zq_icmp_ge (tgt := 158) dX6_walkFrom_81 rfl ⟨fun c1 => ?_, fun c1 => ?_⟩
  · have H := H.1 c1
    refine zq_iinc (i := 4) (x := i4) (v := (nI 1)) (ls' := [(4, .int (i4 + (nI 1))), (0, .ref 12), (2, .int i2), (3, .int i3), (5, .int i5), (6, .int i6), (7, .long l7), (9, .int i9)]) 3 rfl rfl (Nat.le_of_ble_eq_true rfl) rfl dX6_walkFrom_158 ?_
    refine zq_goto (tgt := 19) dX6_walkFrom_161 rfl ?_
    exact zq_sub (ls' := [(0, .ref 12), (2, .int i2), (3, .int i3), (4, .int (i4 + (nI 1)))]) [1, 2, 3, 0] rfl H
  · have H := H.2 c1
    refine zq_lload (i := 7) (x := l7) 6 rfl dX6_walkFrom_84 ?_
    refine zq_iload (i := 9) (x := i9) 7 rfl dX6_walkFrom_86 ?_
    refine zq_invS (as := [.long l7, .int i9]) (st := []) st_X10_hasBit mo_X10_hasBit ml_RX6_53 rfl (Nat.le_of_ble_eq_true rfl) dX6_walkFrom_88 rfl H (fun r1 h1 hq => ?_)
    obtain ⟨x2, rfl, rfl, H⟩ := hq
    show zQ none m_X6_walkFrom (d + 1) 91 [(0, .ref 12), (2, .int i2), (3, .int i3), (4, .int i4), (5, .int i5), (6, .int i6), (7, .long l7), (9, .int i9)] (.int x2 :: []) h Q
    refine zq_if_eq (tgt := 152) dX6_walkFrom_91 rfl ⟨fun c3 => ?_, fun c3 => ?_⟩
    · have H := H.1 c3
      refine zq_iinc (i := 9) (x := i9) (v := (nI 1)) (ls' := [(9, .int (i9 + (nI 1))), (0, .ref 12), (2, .int i2), (3, .int i3), (4, .int i4), (5, .int i5), (6, .int i6), (7, .long l7)]) 7 rfl rfl (Nat.le_of_ble_eq_true rfl) rfl dX6_walkFrom_152 ?_
      refine zq_goto (tgt := 77) dX6_walkFrom_155 rfl ?_
      exact zq_sub (ls' := [(0, .ref 12), (2, .int i2), (3, .int i3), (4, .int i4), (5, .int i5), (6, .int i6), (7, .long l7), (9, .int (i9 + (nI 1)))]) [1, 2, 3, 4, 5, 6, 7, 0] rfl H
    · have H := H.2 c3
      refine zq_aload_n (k := 0) (i := 0) (x := 12) 0 rfl rfl dX6_walkFrom_94 ?_
      refine zq_getP fl_RX6_22 rfl (sh_12 hw) (rf_12_3 hw) dX6_walkFrom_95 ?_
      refine zq_iload (i := 5) (x := i5) 4 rfl dX6_walkFrom_98 ?_
      refine zq_iload (i := 9) (x := i9) 7 rfl dX6_walkFrom_100 ?_
      refine zq_invS (as := [.int i5, .int i9]) (st := .ref 16 :: []) st_X10_pairOf mo_X10_pairOf ml_RX6_57 rfl (Nat.le_of_ble_eq_true rfl) dX6_walkFrom_102 rfl H (fun r1 h1 hq => ?_)
      obtain ⟨x4, rfl, rfl, H⟩ := hq
      show zQ none m_X6_walkFrom (d + 1) 105 [(0, .ref 12), (2, .int i2), (3, .int i3), (4, .int i4), (5, .int i5), (6, .int i6), (7, .long l7), (9, .int i9)] (.int x4 :: .ref 16 :: []) h Q
      obtain ⟨b5, H⟩ := H
      refine zq_iald (sh_16 hw) b5 dX6_walkFrom_105 ?_
      refine zq_iload_n (k := 2) (i := 2) (x := i2) 1 rfl rfl dX6_walkFrom_106 ?_
      refine zq_icmp_lt (tgt := 152) dX6_walkFrom_107 rfl ⟨fun c6 => ?_, fun c6 => ?_⟩
      · have H := H.1 c6
        refine zq_iinc (i := 9) (x := i9) (v := (nI 1)) (ls' := [(9, .int (i9 + (nI 1))), (0, .ref 12), (2, .int i2), (3, .int i3), (4, .int i4), (5, .int i5), (6, .int i6), (7, .long l7)]) 7 rfl rfl (Nat.le_of_ble_eq_true rfl) rfl dX6_walkFrom_152 ?_
        refine zq_goto (tgt := 77) dX6_walkFrom_155 rfl ?_
        exact zq_sub (ls' := [(0, .ref 12), (2, .int i2), (3, .int i3), (4, .int i4), (5, .int i5), (6, .int i6), (7, .long l7), (9, .int (i9 + (nI 1)))]) [1, 2, 3, 4, 5, 6, 7, 0] rfl H
      · have H := H.2 c6
        refine zq_aload_n (k := 0) (i := 0) (x := 12) 0 rfl rfl dX6_walkFrom_110 ?_
        refine zq_getP fl_RX6_22 rfl (sh_12 hw) (rf_12_3 hw) dX6_walkFrom_111 ?_
        refine zq_iload (i := 6) (x := i6) 5 rfl dX6_walkFrom_114 ?_
        refine zq_iload (i := 9) (x := i9) 7 rfl dX6_walkFrom_116 ?_
        refine zq_invS (as := [.int i6, .int i9]) (st := .ref 16 :: []) st_X10_pairOf mo_X10_pairOf ml_RX6_57 rfl (Nat.le_of_ble_eq_true rfl) dX6_walkFrom_118 rfl H (fun r1 h1 hq => ?_)
        obtain ⟨x7, rfl, rfl, H⟩ := hq
        show zQ none m_X6_walkFrom (d + 1) 121 [(0, .ref 12), (2, .int i2), (3, .int i3), (4, .int i4), (5, .int i5), (6, .int i6), (7, .long l7), (9, .int i9)] (.int x7 :: .ref 16 :: []) h Q
        obtain ⟨b8, H⟩ := H
        refine zq_iald (sh_16 hw) b8 dX6_walkFrom_121 ?_
        refine zq_iload_n (k := 2) (i := 2) (x := i2) 1 rfl rfl dX6_walkFrom_122 ?_
        refine zq_icmp_lt (tgt := 152) dX6_walkFrom_123 rfl ⟨fun c9 => ?_, fun c9 => ?_⟩
        · have H := H.1 c9
          refine zq_iinc (i := 9) (x := i9) (v := (nI 1)) (ls' := [(9, .int (i9 + (nI 1))), (0, .ref 12), (2, .int i2), (3, .int i3), (4, .int i4), (5, .int i5), (6, .int i6), (7, .long l7)]) 7 rfl rfl (Nat.le_of_ble_eq_true rfl) rfl dX6_walkFrom_152 ?_
          refine zq_goto (tgt := 77) dX6_walkFrom_155 rfl ?_
          exact zq_sub (ls' := [(0, .ref 12), (2, .int i2), (3, .int i3), (4, .int i4), (5, .int i5), (6, .int i6), (7, .long l7), (9, .int (i9 + (nI 1)))]) [1, 2, 3, 4, 5, 6, 7, 0] rfl H
        · have H := H.2 c9
          refine zq_aload_n (k := 0) (i := 0) (x := 12) 0 rfl rfl dX6_walkFrom_126 ?_
          refine zq_iload (i := 5) (x := i5) 4 rfl dX6_walkFrom_127 ?_
          refine zq_iload (i := 9) (x := i9) 7 rfl dX6_walkFrom_129 ?_
          refine zq_invS (as := [.int i5, .int i9]) (st := .ref 12 :: []) st_X10_pairOf mo_X10_pairOf ml_RX6_57 rfl (Nat.le_of_ble_eq_true rfl) dX6_walkFrom_131 rfl H (fun r1 h1 hq => ?_)
          obtain ⟨x10, rfl, rfl, H⟩ := hq
          show zQ none m_X6_walkFrom (d + 1) 134 [(0, .ref 12), (2, .int i2), (3, .int i3), (4, .int i4), (5, .int i5), (6, .int i6), (7, .long l7), (9, .int i9)] (.int x10 :: .ref 12 :: []) h Q
          refine zq_iload_n (k := 3) (i := 3) (x := i3) 2 rfl rfl dX6_walkFrom_134 ?_
          refine zq_invV (as := [.int x10, .int i3]) (st := []) (o := 12) (c := 5) (by decide) rfl (sh_12 hw) in_X6_meet se_X6_meet mo_X6_meet ml_RX6_102 rfl (Nat.le_of_ble_eq_true rfl) dX6_walkFrom_135 rfl H (fun r1 h11 hq => ?_)
          obtain ⟨x12, rfl, wh11, H⟩ := hq
          show zQ none m_X6_walkFrom (d + 1) 138 [(0, .ref 12), (2, .int i2), (3, .int i3), (4, .int i4), (5, .int i5), (6, .int i6), (7, .long l7), (9, .int i9)] (.int x12 :: []) h11 Q
          refine zq_istore_n (ls' := [(3, .int x12), (0, .ref 12), (2, .int i2), (4, .int i4), (5, .int i5), (6, .int i6), (7, .long l7), (9, .int i9)]) (k := 3) (i := 3) rfl (Nat.le_of_ble_eq_true rfl) rfl dX6_walkFrom_138 ?_
          refine zq_aload_n (k := 0) (i := 0) (x := 12) 1 rfl rfl dX6_walkFrom_139 ?_
          refine zq_iload (i := 6) (x := i6) 5 rfl dX6_walkFrom_140 ?_
          refine zq_iload (i := 9) (x := i9) 7 rfl dX6_walkFrom_142 ?_
          refine zq_invS (as := [.int i6, .int i9]) (st := .ref 12 :: []) st_X10_pairOf mo_X10_pairOf ml_RX6_57 rfl (Nat.le_of_ble_eq_true rfl) dX6_walkFrom_144 rfl H (fun r1 h1 hq => ?_)
          obtain ⟨x13, rfl, rfl, H⟩ := hq
          show zQ none m_X6_walkFrom (d + 1) 147 [(3, .int x12), (0, .ref 12), (2, .int i2), (4, .int i4), (5, .int i5), (6, .int i6), (7, .long l7), (9, .int i9)] (.int x13 :: .ref 12 :: []) h11 Q
          refine zq_iload_n (k := 3) (i := 3) (x := x12) 0 rfl rfl dX6_walkFrom_147 ?_
          refine zq_invV (as := [.int x13, .int x12]) (st := []) (o := 12) (c := 5) (by decide) rfl (sh_12 wh11) in_X6_meet se_X6_meet mo_X6_meet ml_RX6_102 rfl (Nat.le_of_ble_eq_true rfl) dX6_walkFrom_148 rfl H (fun r1 h14 hq => ?_)
          obtain ⟨x15, rfl, wh14, H⟩ := hq
          show zQ none m_X6_walkFrom (d + 1) 151 [(3, .int x12), (0, .ref 12), (2, .int i2), (4, .int i4), (5, .int i5), (6, .int i6), (7, .long l7), (9, .int i9)] (.int x15 :: []) h14 Q
          refine zq_istore_n (ls' := [(3, .int x15), (0, .ref 12), (2, .int i2), (4, .int i4), (5, .int i5), (6, .int i6), (7, .long l7), (9, .int i9)]) (k := 3) (i := 3) rfl (Nat.le_of_ble_eq_true rfl) rfl dX6_walkFrom_151 ?_
          refine zq_iinc (i := 9) (x := i9) (v := (nI 1)) (ls' := [(9, .int (i9 + (nI 1))), (3, .int x15), (0, .ref 12), (2, .int i2), (4, .int i4), (5, .int i5), (6, .int i6), (7, .long l7)]) 7 rfl rfl (Nat.le_of_ble_eq_true rfl) rfl dX6_walkFrom_152 ?_
          refine zq_goto (tgt := 77) dX6_walkFrom_155 rfl ?_
          exact zq_sub (ls' := [(0, .ref 12), (2, .int i2), (3, .int x15), (4, .int i4), (5, .int i5), (6, .int i6), (7, .long l7), (9, .int (i9 + (nI 1)))]) [2, 3, 1, 4, 5, 6, 7, 0] rfl H
set_option maxHeartbeats 2000000 in
set_option maxRecDepth 20000 in
theorem r_X6_meet_0 {d : Nat} {h : AH} {Q : Option Value → AH → Prop} (i1 : Int32) (i2 : Int32) (hw : zWF h)  (H : vp_in i1 1600 ∧ (((h.I 20 i1.toNatClampNeg) ≠ 0 → Q (some (.int i2)) h) ∧ ((h.I 20 i1.toNatClampNeg) = 0 → (i2 < (nI 780) → vp_in i1 1600 ∧ (∀ h5, h5 = h.sI 20 i1.toNatClampNeg (nI 1) → vp_in i2 780 ∧ (∀ h7, h7 = h5.sI 19 i2.toNatClampNeg i1 → Q (some (.int (i2 + (nI 1)))) h7))) ∧ (¬ i2 < (nI 780) → Q (some (.int i2)) h)))) : zK (d + 1) m_X6_meet [.ref 12, .int i1, .int i2] h Q := by
  refine zK_of mo_X6_meet (Nat.le_of_ble_eq_true rfl) ?_
  show zQ none m_X6_meet (d + 1) 0 [(0, .ref 12), (1, .int i1), (2, .int i2)] [] h Q
  refine zq_aload_n (k := 0) (i := 0) (x := 12) 0 rfl rfl dX6_meet_0 ?_
  refine zq_getP fl_RX6_34 rfl (sh_12 hw) (rf_12_7 hw) dX6_meet_1 ?_
  refine zq_iload_n (k := 1) (i := 1) (x := i1) 1 rfl rfl dX6_meet_4 ?_
  obtain ⟨b1, H⟩ := H
  refine zq_iald (sh_20 hw) b1 dX6_meet_5 ?_
  refine zq_if_ne (tgt := 16) dX6_meet_6 rfl ⟨fun c2 => ?_, fun c2 => ?_⟩
  · have H := H.1 c2
    refine zq_iload_n (k := 2) (i := 2) (x := i2) 2 rfl rfl dX6_meet_16 ?_
    exact zq_iret dX6_meet_17 rfl rfl rfl H
  · have H := H.2 c2
    refine zq_iload_n (k := 2) (i := 2) (x := i2) 2 rfl rfl dX6_meet_9 ?_
    refine zq_sipush (v := (nI 780)) rfl dX6_meet_10 ?_
    refine zq_icmp_lt (tgt := 18) dX6_meet_13 rfl ⟨fun c3 => ?_, fun c3 => ?_⟩
    · have H := H.1 c3
      refine zq_aload_n (k := 0) (i := 0) (x := 12) 0 rfl rfl dX6_meet_18 ?_
      refine zq_getP fl_RX6_34 rfl (sh_12 hw) (rf_12_7 hw) dX6_meet_19 ?_
      refine zq_iload_n (k := 1) (i := 1) (x := i1) 1 rfl rfl dX6_meet_22 ?_
      refine zq_iconst (v := (nI 1)) rfl dX6_meet_23 ?_
      obtain ⟨b4, H⟩ := H
      refine zq_iast (sh_20 hw) b4 dX6_meet_24 (fun h5 eh5 => ?_)
      have H := H h5 eh5
      have wh5 := wf_I eh5 hw
      refine zq_aload_n (k := 0) (i := 0) (x := 12) 0 rfl rfl dX6_meet_25 ?_
      refine zq_getP fl_RX6_31 rfl (sh_12 wh5) (rf_12_6 wh5) dX6_meet_26 ?_
      refine zq_iload_n (k := 2) (i := 2) (x := i2) 2 rfl rfl dX6_meet_29 ?_
      refine zq_iload_n (k := 1) (i := 1) (x := i1) 1 rfl rfl dX6_meet_30 ?_
      obtain ⟨b6, H⟩ := H
      refine zq_iast (sh_19 wh5) b6 dX6_meet_31 (fun h7 eh7 => ?_)
      have H := H h7 eh7
      have wh7 := wf_I eh7 wh5
      refine zq_iload_n (k := 2) (i := 2) (x := i2) 2 rfl rfl dX6_meet_32 ?_
      refine zq_iconst (v := (nI 1)) rfl dX6_meet_33 ?_
      refine zq_iadd dX6_meet_34 ?_
      exact zq_iret dX6_meet_35 rfl rfl rfl H
    · have H := H.2 c3
      refine zq_iload_n (k := 2) (i := 2) (x := i2) 2 rfl rfl dX6_meet_16 ?_
      exact zq_iret dX6_meet_17 rfl rfl rfl H
set_option maxHeartbeats 2000000 in
set_option maxRecDepth 20000 in
theorem r_X10_add_0 {d : Nat} {h : AH} {Q : Option Value → AH → Prop} (i1 : Int32) (i2 : Int32) (i3 : Int32) (hw : zWF h)  (H : zK d m_X10_isTwo [.int i1, .int i2] h (pI h fun x1 => (x1 ≠ 0 → (i3 < (-2000000) → Q (some (.int (-2))) h) ∧ (¬ i3 < (-2000000) → (i3 ≤ (nI 2000000) → zK d m_X3_joins [.ref 2, .int i1, .int i2] h (pI h fun x5 => (x5 = 0 → zK d m_X3_bring [.ref 2, .int i1, .int i2, .int i3] h (kV fun h7 => zK d m_X2_shared [.ref 3, .int i1, .int i2] h7 (pI h7 fun x8 => Q (some (.int x8)) h7))) ∧ (¬ x5 = 0 → Q (some (.int (-3))) h))) ∧ (¬ i3 ≤ (nI 2000000) → Q (some (.int (-2))) h))) ∧ (x1 = 0 → Q (some (.int (-1))) h))) : zK (d + 1) m_X10_add [.ref 1, .int i1, .int i2, .int i3] h Q := by
  refine zK_of mo_X10_add (Nat.le_of_ble_eq_true rfl) ?_
  show zQ none m_X10_add (d + 1) 0 [(0, .ref 1), (1, .int i1), (2, .int i2), (3, .int i3)] [] h Q
  refine zq_iload_n (k := 1) (i := 1) (x := i1) 1 rfl rfl dX10_add_0 ?_
  refine zq_iload_n (k := 2) (i := 2) (x := i2) 2 rfl rfl dX10_add_1 ?_
  refine zq_invS (as := [.int i1, .int i2]) (st := []) st_X10_isTwo mo_X10_isTwo ml_RX10_80 rfl (Nat.le_of_ble_eq_true rfl) dX10_add_2 rfl H (fun r1 h1 hq => ?_)
  obtain ⟨x1, rfl, rfl, H⟩ := hq
  show zQ none m_X10_add (d + 1) 5 [(0, .ref 1), (1, .int i1), (2, .int i2), (3, .int i3)] (.int x1 :: []) h Q
  refine zq_if_ne (tgt := 10) dX10_add_5 rfl ⟨fun c2 => ?_, fun c2 => ?_⟩
  · have H := H.1 c2
    refine zq_iload_n (k := 3) (i := 3) (x := i3) 3 rfl rfl dX10_add_10 ?_
    refine zq_ldc (v := (-2000000)) co_RX10_84 dX10_add_11 ?_
    refine zq_icmp_lt (tgt := 22) dX10_add_13 rfl ⟨fun c3 => ?_, fun c3 => ?_⟩
    · have H := H.1 c3
      refine zq_bipush (v := (-2)) rfl dX10_add_22 ?_
      exact zq_iret dX10_add_24 rfl rfl rfl H
    · have H := H.2 c3
      refine zq_iload_n (k := 3) (i := 3) (x := i3) 3 rfl rfl dX10_add_16 ?_
      refine zq_ldc (v := (nI 2000000)) co_RX10_85 dX10_add_17 ?_
      refine zq_icmp_le (tgt := 25) dX10_add_19 rfl ⟨fun c4 => ?_, fun c4 => ?_⟩
      · have H := H.1 c4
        refine zq_aload_n (k := 0) (i := 0) (x := 1) 0 rfl rfl dX10_add_25 ?_
        refine zq_getP fl_RX10_14 rfl (sh_1 hw) (rf_1_0 hw) dX10_add_26 ?_
        refine zq_iload_n (k := 1) (i := 1) (x := i1) 1 rfl rfl dX10_add_29 ?_
        refine zq_iload_n (k := 2) (i := 2) (x := i2) 2 rfl rfl dX10_add_30 ?_
        refine zq_invV (as := [.int i1, .int i2]) (st := []) (o := 2) (c := 2) (by decide) rfl (sh_2 hw) in_X3_joins se_X3_joins mo_X3_joins ml_RX10_86 rfl (Nat.le_of_ble_eq_true rfl) dX10_add_31 rfl H (fun r1 h1 hq => ?_)
        obtain ⟨x5, rfl, rfl, H⟩ := hq
        show zQ none m_X10_add (d + 1) 34 [(0, .ref 1), (1, .int i1), (2, .int i2), (3, .int i3)] (.int x5 :: []) h Q
        refine zq_if_eq (tgt := 40) dX10_add_34 rfl ⟨fun c6 => ?_, fun c6 => ?_⟩
        · have H := H.1 c6
          refine zq_aload_n (k := 0) (i := 0) (x := 1) 0 rfl rfl dX10_add_40 ?_
          refine zq_getP fl_RX10_14 rfl (sh_1 hw) (rf_1_0 hw) dX10_add_41 ?_
          refine zq_iload_n (k := 1) (i := 1) (x := i1) 1 rfl rfl dX10_add_44 ?_
          refine zq_iload_n (k := 2) (i := 2) (x := i2) 2 rfl rfl dX10_add_45 ?_
          refine zq_iload_n (k := 3) (i := 3) (x := i3) 3 rfl rfl dX10_add_46 ?_
          refine zq_invV (as := [.int i1, .int i2, .int i3]) (st := []) (o := 2) (c := 2) (by decide) rfl (sh_2 hw) in_X3_bring se_X3_bring mo_X3_bring ml_RX10_89 rfl (Nat.le_of_ble_eq_true rfl) dX10_add_47 rfl H (fun r1 h7 hq => ?_)
          obtain ⟨rfl, wh7, H⟩ := hq
          show zQ none m_X10_add (d + 1) 50 [(0, .ref 1), (1, .int i1), (2, .int i2), (3, .int i3)] ([]) h7 Q
          refine zq_aload_n (k := 0) (i := 0) (x := 1) 0 rfl rfl dX10_add_50 ?_
          refine zq_getP fl_RX10_14 rfl (sh_1 wh7) (rf_1_0 wh7) dX10_add_51 ?_
          refine zq_getP fl_RX10_93 rfl (sh_2 wh7) (rf_2_0 wh7) dX10_add_54 ?_
          refine zq_iload_n (k := 1) (i := 1) (x := i1) 1 rfl rfl dX10_add_57 ?_
          refine zq_iload_n (k := 2) (i := 2) (x := i2) 2 rfl rfl dX10_add_58 ?_
          refine zq_invS (as := [.ref 3, .int i1, .int i2]) (st := []) st_X2_shared mo_X2_shared ml_RX10_97 rfl (Nat.le_of_ble_eq_true rfl) dX10_add_59 rfl H (fun r1 h1 hq => ?_)
          obtain ⟨x8, rfl, rfl, H⟩ := hq
          show zQ none m_X10_add (d + 1) 62 [(0, .ref 1), (1, .int i1), (2, .int i2), (3, .int i3)] (.int x8 :: []) h7 Q
          exact zq_iret dX10_add_62 rfl rfl rfl H
        · have H := H.2 c6
          refine zq_bipush (v := (-3)) rfl dX10_add_37 ?_
          exact zq_iret dX10_add_39 rfl rfl rfl H
      · have H := H.2 c4
        refine zq_bipush (v := (-2)) rfl dX10_add_22 ?_
        exact zq_iret dX10_add_24 rfl rfl rfl H
  · have H := H.2 c2
    refine zq_iconst (v := (-1)) rfl dX10_add_8 ?_
    exact zq_iret dX10_add_9 rfl rfl rfl H
set_option maxHeartbeats 2000000 in
set_option maxRecDepth 20000 in
theorem r_X10_cut_0 {d : Nat} {h : AH} {Q : Option Value → AH → Prop} (i1 : Int32) (i2 : Int32) (hw : zWF h)  (H : zK d m_X10_isTwo [.int i1, .int i2] h (pI h fun x1 => (x1 ≠ 0 → zK d m_X3_joins [.ref 2, .int i1, .int i2] h (pI h fun x3 => (x3 ≠ 0 → zK d m_X3_drop [.ref 2, .int i1, .int i2] h (kV fun h5 => zK d m_X2_shared [.ref 3, .int i1, .int i2] h5 (pI h5 fun x6 => Q (some (.int x6)) h5))) ∧ (x3 = 0 → Q (some (.int (-3))) h))) ∧ (x1 = 0 → Q (some (.int (-1))) h))) : zK (d + 1) m_X10_cut [.ref 1, .int i1, .int i2] h Q := by
  refine zK_of mo_X10_cut (Nat.le_of_ble_eq_true rfl) ?_
  show zQ none m_X10_cut (d + 1) 0 [(0, .ref 1), (1, .int i1), (2, .int i2)] [] h Q
  refine zq_iload_n (k := 1) (i := 1) (x := i1) 1 rfl rfl dX10_cut_0 ?_
  refine zq_iload_n (k := 2) (i := 2) (x := i2) 2 rfl rfl dX10_cut_1 ?_
  refine zq_invS (as := [.int i1, .int i2]) (st := []) st_X10_isTwo mo_X10_isTwo ml_RX10_80 rfl (Nat.le_of_ble_eq_true rfl) dX10_cut_2 rfl H (fun r1 h1 hq => ?_)
  obtain ⟨x1, rfl, rfl, H⟩ := hq
  show zQ none m_X10_cut (d + 1) 5 [(0, .ref 1), (1, .int i1), (2, .int i2)] (.int x1 :: []) h Q
  refine zq_if_ne (tgt := 10) dX10_cut_5 rfl ⟨fun c2 => ?_, fun c2 => ?_⟩
  · have H := H.1 c2
    refine zq_aload_n (k := 0) (i := 0) (x := 1) 0 rfl rfl dX10_cut_10 ?_
    refine zq_getP fl_RX10_14 rfl (sh_1 hw) (rf_1_0 hw) dX10_cut_11 ?_
    refine zq_iload_n (k := 1) (i := 1) (x := i1) 1 rfl rfl dX10_cut_14 ?_
    refine zq_iload_n (k := 2) (i := 2) (x := i2) 2 rfl rfl dX10_cut_15 ?_
    refine zq_invV (as := [.int i1, .int i2]) (st := []) (o := 2) (c := 2) (by decide) rfl (sh_2 hw) in_X3_joins se_X3_joins mo_X3_joins ml_RX10_86 rfl (Nat.le_of_ble_eq_true rfl) dX10_cut_16 rfl H (fun r1 h1 hq => ?_)
    obtain ⟨x3, rfl, rfl, H⟩ := hq
    show zQ none m_X10_cut (d + 1) 19 [(0, .ref 1), (1, .int i1), (2, .int i2)] (.int x3 :: []) h Q
    refine zq_if_ne (tgt := 25) dX10_cut_19 rfl ⟨fun c4 => ?_, fun c4 => ?_⟩
    · have H := H.1 c4
      refine zq_aload_n (k := 0) (i := 0) (x := 1) 0 rfl rfl dX10_cut_25 ?_
      refine zq_getP fl_RX10_14 rfl (sh_1 hw) (rf_1_0 hw) dX10_cut_26 ?_
      refine zq_iload_n (k := 1) (i := 1) (x := i1) 1 rfl rfl dX10_cut_29 ?_
      refine zq_iload_n (k := 2) (i := 2) (x := i2) 2 rfl rfl dX10_cut_30 ?_
      refine zq_invV (as := [.int i1, .int i2]) (st := []) (o := 2) (c := 2) (by decide) rfl (sh_2 hw) in_X3_drop se_X3_drop mo_X3_drop ml_RX10_103 rfl (Nat.le_of_ble_eq_true rfl) dX10_cut_31 rfl H (fun r1 h5 hq => ?_)
      obtain ⟨rfl, wh5, H⟩ := hq
      show zQ none m_X10_cut (d + 1) 34 [(0, .ref 1), (1, .int i1), (2, .int i2)] ([]) h5 Q
      refine zq_aload_n (k := 0) (i := 0) (x := 1) 0 rfl rfl dX10_cut_34 ?_
      refine zq_getP fl_RX10_14 rfl (sh_1 wh5) (rf_1_0 wh5) dX10_cut_35 ?_
      refine zq_getP fl_RX10_93 rfl (sh_2 wh5) (rf_2_0 wh5) dX10_cut_38 ?_
      refine zq_iload_n (k := 1) (i := 1) (x := i1) 1 rfl rfl dX10_cut_41 ?_
      refine zq_iload_n (k := 2) (i := 2) (x := i2) 2 rfl rfl dX10_cut_42 ?_
      refine zq_invS (as := [.ref 3, .int i1, .int i2]) (st := []) st_X2_shared mo_X2_shared ml_RX10_97 rfl (Nat.le_of_ble_eq_true rfl) dX10_cut_43 rfl H (fun r1 h1 hq => ?_)
      obtain ⟨x6, rfl, rfl, H⟩ := hq
      show zQ none m_X10_cut (d + 1) 46 [(0, .ref 1), (1, .int i1), (2, .int i2)] (.int x6 :: []) h5 Q
      exact zq_iret dX10_cut_46 rfl rfl rfl H
    · have H := H.2 c4
      refine zq_bipush (v := (-3)) rfl dX10_cut_22 ?_
      exact zq_iret dX10_cut_24 rfl rfl rfl H
  · have H := H.2 c2
    refine zq_iconst (v := (-1)) rfl dX10_cut_8 ?_
    exact zq_iret dX10_cut_9 rfl rfl rfl H
set_option maxHeartbeats 2000000 in
set_option maxRecDepth 20000 in
theorem r_X10_of_0 {d : Nat} {h : AH} {Q : Option Value → AH → Prop} (i1 : Int32) (i2 : Int32) (hw : zWF h)  (H : zK d m_X10_isVertex [.int i1] h (pI h fun x1 => (x1 ≠ 0 → (i2.toInt < 0 ∨ 5 < i2.toInt → Q (some (.int (-1))) h) ∧ (i2 = nI 0 → zK d m_X2_degree [.ref 3, .int i1] h (pI h fun x3 => Q (some (.int x3)) h)) ∧ (i2 = nI 1 → zK d m_X2_trianglesAt [.ref 3, .int i1] h (pI h fun x4 => Q (some (.int x4)) h)) ∧ (i2 = nI 2 → zK d m_X3_isHeavy [.ref 2, .int i1] h (pI h fun x5 => (x5 = 0 → Q (some (.int (nI 0))) h) ∧ (¬ x5 = 0 → Q (some (.int (nI 1))) h))) ∧ (i2 = nI 3 → zK d m_X2_layCores [.ref 3, .ref 40] h (kV fun h7 => vp_in i1 40 ∧ (Q (some (.int (h7.I 40 i1.toNatClampNeg))) h7))) ∧ (i2 = nI 4 → zK d m_X2_ringsAt [.ref 3, .int i1] h (pI h fun x9 => Q (some (.int x9)) h)) ∧ (i2 = nI 5 → zK d m_X2_foursAt [.ref 3, .int i1] h (pI h fun x10 => Q (some (.int x10)) h))) ∧ (x1 = 0 → Q (some (.int (-1))) h))) : zK (d + 1) m_X10_of [.ref 1, .int i1, .int i2] h Q := by
  refine zK_of mo_X10_of (Nat.le_of_ble_eq_true rfl) ?_
  show zQ none m_X10_of (d + 1) 0 [(0, .ref 1), (1, .int i1), (2, .int i2)] [] h Q
  refine zq_iload_n (k := 1) (i := 1) (x := i1) 1 rfl rfl dX10_of_0 ?_
  refine zq_invS (as := [.int i1]) (st := []) st_X10_isVertex mo_X10_isVertex ml_RX10_116 rfl (Nat.le_of_ble_eq_true rfl) dX10_of_1 rfl H (fun r1 h1 hq => ?_)
  obtain ⟨x1, rfl, rfl, H⟩ := hq
  show zQ none m_X10_of (d + 1) 4 [(0, .ref 1), (1, .int i1), (2, .int i2)] (.int x1 :: []) h Q
  refine zq_if_ne (tgt := 9) dX10_of_4 rfl ⟨fun c2 => ?_, fun c2 => ?_⟩
  · have H := H.1 c2
    refine zq_iload_n (k := 2) (i := 2) (x := i2) 2 rfl rfl dX10_of_9 ?_
    by_cases hr : i2.toInt < 0 ∨ 5 < i2.toInt
    · have H := H.1 hr
      refine zq_tabOut (tgt := 134) dX10_of_10 hr rfl ?_
      refine zq_iconst (v := (-1)) rfl dX10_of_134 ?_
      exact zq_iret dX10_of_135 rfl rfl rfl H
    · have H := H.2
      rcases (show i2.toInt = 0 ∨ i2.toInt = 1 ∨ i2.toInt = 2 ∨ i2.toInt = 3 ∨ i2.toInt = 4 ∨ i2.toInt = 5 by omega) with hk | hk | hk | hk | hk | hk
      · have H := H.1 (zr_int (c := 0) hk)
        refine zq_tabIn (off := 38) (tgt := 48) dX10_of_10 (by rw [hk]; decide) (by rw [hk]; decide) (by rw [hk]; rfl) rfl ?_
        refine zq_aload_n (k := 0) (i := 0) (x := 1) 0 rfl rfl dX10_of_48 ?_
        refine zq_getP fl_RX10_14 rfl (sh_1 hw) (rf_1_0 hw) dX10_of_49 ?_
        refine zq_getP fl_RX10_93 rfl (sh_2 hw) (rf_2_0 hw) dX10_of_52 ?_
        refine zq_iload_n (k := 1) (i := 1) (x := i1) 1 rfl rfl dX10_of_55 ?_
        refine zq_invS (as := [.ref 3, .int i1]) (st := []) st_X2_degree mo_X2_degree ml_RX10_120 rfl (Nat.le_of_ble_eq_true rfl) dX10_of_56 rfl H (fun r1 h1 hq => ?_)
        obtain ⟨x3, rfl, rfl, H⟩ := hq
        show zQ none m_X10_of (d + 1) 59 [(0, .ref 1), (1, .int i1), (2, .int i2)] (.int x3 :: []) h Q
        exact zq_iret dX10_of_59 rfl rfl rfl H
      · have H := H.2.1 (zr_int (c := 1) hk)
        refine zq_tabIn (off := 50) (tgt := 60) dX10_of_10 (by rw [hk]; decide) (by rw [hk]; decide) (by rw [hk]; rfl) rfl ?_
        refine zq_aload_n (k := 0) (i := 0) (x := 1) 0 rfl rfl dX10_of_60 ?_
        refine zq_getP fl_RX10_14 rfl (sh_1 hw) (rf_1_0 hw) dX10_of_61 ?_
        refine zq_getP fl_RX10_93 rfl (sh_2 hw) (rf_2_0 hw) dX10_of_64 ?_
        refine zq_iload_n (k := 1) (i := 1) (x := i1) 1 rfl rfl dX10_of_67 ?_
        refine zq_invS (as := [.ref 3, .int i1]) (st := []) st_X2_trianglesAt mo_X2_trianglesAt ml_RX10_124 rfl (Nat.le_of_ble_eq_true rfl) dX10_of_68 rfl H (fun r1 h1 hq => ?_)
        obtain ⟨x4, rfl, rfl, H⟩ := hq
        show zQ none m_X10_of (d + 1) 71 [(0, .ref 1), (1, .int i1), (2, .int i2)] (.int x4 :: []) h Q
        exact zq_iret dX10_of_71 rfl rfl rfl H
      · have H := H.2.2.1 (zr_int (c := 2) hk)
        refine zq_tabIn (off := 62) (tgt := 72) dX10_of_10 (by rw [hk]; decide) (by rw [hk]; decide) (by rw [hk]; rfl) rfl ?_
        refine zq_aload_n (k := 0) (i := 0) (x := 1) 0 rfl rfl dX10_of_72 ?_
        refine zq_getP fl_RX10_14 rfl (sh_1 hw) (rf_1_0 hw) dX10_of_73 ?_
        refine zq_iload_n (k := 1) (i := 1) (x := i1) 1 rfl rfl dX10_of_76 ?_
        refine zq_invV (as := [.int i1]) (st := []) (o := 2) (c := 2) (by decide) rfl (sh_2 hw) in_X3_isHeavy se_X3_isHeavy mo_X3_isHeavy ml_RX10_127 rfl (Nat.le_of_ble_eq_true rfl) dX10_of_77 rfl H (fun r1 h1 hq => ?_)
        obtain ⟨x5, rfl, rfl, H⟩ := hq
        show zQ none m_X10_of (d + 1) 80 [(0, .ref 1), (1, .int i1), (2, .int i2)] (.int x5 :: []) h Q
        refine zq_if_eq (tgt := 87) dX10_of_80 rfl ⟨fun c6 => ?_, fun c6 => ?_⟩
        · have H := H.1 c6
          refine zq_iconst (v := (nI 0)) rfl dX10_of_87 ?_
          exact zq_iret dX10_of_88 rfl rfl rfl H
        · have H := H.2 c6
          refine zq_iconst (v := (nI 1)) rfl dX10_of_83 ?_
          refine zq_goto (tgt := 88) dX10_of_84 rfl ?_
          exact zq_iret dX10_of_88 rfl rfl rfl H
      · have H := H.2.2.2.1 (zr_int (c := 3) hk)
        refine zq_tabIn (off := 79) (tgt := 89) dX10_of_10 (by rw [hk]; decide) (by rw [hk]; decide) (by rw [hk]; rfl) rfl ?_
        refine zq_aload_n (k := 0) (i := 0) (x := 1) 0 rfl rfl dX10_of_89 ?_
        refine zq_getP fl_RX10_14 rfl (sh_1 hw) (rf_1_0 hw) dX10_of_90 ?_
        refine zq_getP fl_RX10_93 rfl (sh_2 hw) (rf_2_0 hw) dX10_of_93 ?_
        refine zq_aload_n (k := 0) (i := 0) (x := 1) 0 rfl rfl dX10_of_96 ?_
        refine zq_getP fl_RX10_73 rfl (sh_1 hw) (rf_1_10 hw) dX10_of_97 ?_
        refine zq_invS (as := [.ref 3, .ref 40]) (st := []) st_X2_layCores mo_X2_layCores ml_RX10_130 rfl (Nat.le_of_ble_eq_true rfl) dX10_of_100 rfl H (fun r1 h7 hq => ?_)
        obtain ⟨rfl, wh7, H⟩ := hq
        show zQ none m_X10_of (d + 1) 103 [(0, .ref 1), (1, .int i1), (2, .int i2)] ([]) h7 Q
        refine zq_aload_n (k := 0) (i := 0) (x := 1) 0 rfl rfl dX10_of_103 ?_
        refine zq_getP fl_RX10_73 rfl (sh_1 wh7) (rf_1_10 wh7) dX10_of_104 ?_
        refine zq_iload_n (k := 1) (i := 1) (x := i1) 1 rfl rfl dX10_of_107 ?_
        obtain ⟨b8, H⟩ := H
        refine zq_iald (sh_40 wh7) b8 dX10_of_108 ?_
        exact zq_iret dX10_of_109 rfl rfl rfl H
      · have H := H.2.2.2.2.1 (zr_int (c := 4) hk)
        refine zq_tabIn (off := 100) (tgt := 110) dX10_of_10 (by rw [hk]; decide) (by rw [hk]; decide) (by rw [hk]; rfl) rfl ?_
        refine zq_aload_n (k := 0) (i := 0) (x := 1) 0 rfl rfl dX10_of_110 ?_
        refine zq_getP fl_RX10_14 rfl (sh_1 hw) (rf_1_0 hw) dX10_of_111 ?_
        refine zq_getP fl_RX10_93 rfl (sh_2 hw) (rf_2_0 hw) dX10_of_114 ?_
        refine zq_iload_n (k := 1) (i := 1) (x := i1) 1 rfl rfl dX10_of_117 ?_
        refine zq_invS (as := [.ref 3, .int i1]) (st := []) st_X2_ringsAt mo_X2_ringsAt ml_RX10_134 rfl (Nat.le_of_ble_eq_true rfl) dX10_of_118 rfl H (fun r1 h1 hq => ?_)
        obtain ⟨x9, rfl, rfl, H⟩ := hq
        show zQ none m_X10_of (d + 1) 121 [(0, .ref 1), (1, .int i1), (2, .int i2)] (.int x9 :: []) h Q
        exact zq_iret dX10_of_121 rfl rfl rfl H
      · have H := H.2.2.2.2.2 (zr_int (c := 5) hk)
        refine zq_tabIn (off := 112) (tgt := 122) dX10_of_10 (by rw [hk]; decide) (by rw [hk]; decide) (by rw [hk]; rfl) rfl ?_
        refine zq_aload_n (k := 0) (i := 0) (x := 1) 0 rfl rfl dX10_of_122 ?_
        refine zq_getP fl_RX10_14 rfl (sh_1 hw) (rf_1_0 hw) dX10_of_123 ?_
        refine zq_getP fl_RX10_93 rfl (sh_2 hw) (rf_2_0 hw) dX10_of_126 ?_
        refine zq_iload_n (k := 1) (i := 1) (x := i1) 1 rfl rfl dX10_of_129 ?_
        refine zq_invS (as := [.ref 3, .int i1]) (st := []) st_X2_foursAt mo_X2_foursAt ml_RX10_137 rfl (Nat.le_of_ble_eq_true rfl) dX10_of_130 rfl H (fun r1 h1 hq => ?_)
        obtain ⟨x10, rfl, rfl, H⟩ := hq
        show zQ none m_X10_of (d + 1) 133 [(0, .ref 1), (1, .int i1), (2, .int i2)] (.int x10 :: []) h Q
        exact zq_iret dX10_of_133 rfl rfl rfl H
  · have H := H.2 c2
    refine zq_iconst (v := (-1)) rfl dX10_of_7 ?_
    exact zq_iret dX10_of_8 rfl rfl rfl H
set_option maxHeartbeats 2000000 in
set_option maxRecDepth 20000 in
theorem r_X10_two_0 {d : Nat} {h : AH} {Q : Option Value → AH → Prop} (i1 : Int32) (i2 : Int32) (i3 : Int32) (hw : zWF h)  (H : zK d m_X10_isTwo [.int i1, .int i2] h (pI h fun x1 => (x1 ≠ 0 → (i3.toInt < 0 ∨ 4 < i3.toInt → Q (some (.int (-1))) h) ∧ (i3 = nI 0 → zK d m_X2_shared [.ref 3, .int i1, .int i2] h (pI h fun x3 => Q (some (.int x3)) h)) ∧ (i3 = nI 1 → vp_in i1 40 ∧ (vp_in i2 40 ∧ (zK d m_J13_bitCount_95d88 [.long (((h.L 3 i1.toNatClampNeg) &&& (h.L 3 i2.toNatClampNeg)) &&& ((h.L 2 5) ^^^ (-1 : Int64)))] h (pI h fun x6 => Q (some (.int x6)) h)))) ∧ (i3 = nI 2 → zK d m_X2_waysByThree [.ref 3, .int i1, .int i2] h (pI h fun x7 => Q (some (.int x7)) h)) ∧ (i3 = nI 3 → zK d m_X3_joins [.ref 2, .int i1, .int i2] h (pI h fun x8 => (x8 = 0 → Q (some (.int (nI 0))) h) ∧ (¬ x8 = 0 → Q (some (.int (nI 1))) h))) ∧ (i3 = nI 4 → zK d m_X2_far [.ref 3, .int i1, .int i2] h (pI h fun x10 => Q (some (.int x10)) h))) ∧ (x1 = 0 → Q (some (.int (-1))) h))) : zK (d + 1) m_X10_two [.ref 1, .int i1, .int i2, .int i3] h Q := by
  refine zK_of mo_X10_two (Nat.le_of_ble_eq_true rfl) ?_
  show zQ none m_X10_two (d + 1) 0 [(0, .ref 1), (1, .int i1), (2, .int i2), (3, .int i3)] [] h Q
  refine zq_iload_n (k := 1) (i := 1) (x := i1) 1 rfl rfl dX10_two_0 ?_
  refine zq_iload_n (k := 2) (i := 2) (x := i2) 2 rfl rfl dX10_two_1 ?_
  refine zq_invS (as := [.int i1, .int i2]) (st := []) st_X10_isTwo mo_X10_isTwo ml_RX10_80 rfl (Nat.le_of_ble_eq_true rfl) dX10_two_2 rfl H (fun r1 h1 hq => ?_)
  obtain ⟨x1, rfl, rfl, H⟩ := hq
  show zQ none m_X10_two (d + 1) 5 [(0, .ref 1), (1, .int i1), (2, .int i2), (3, .int i3)] (.int x1 :: []) h Q
  refine zq_if_ne (tgt := 10) dX10_two_5 rfl ⟨fun c2 => ?_, fun c2 => ?_⟩
  · have H := H.1 c2
    refine zq_iload_n (k := 3) (i := 3) (x := i3) 3 rfl rfl dX10_two_10 ?_
    by_cases hr : i3.toInt < 0 ∨ 4 < i3.toInt
    · have H := H.1 hr
      refine zq_tabOut (tgt := 136) dX10_two_11 hr rfl ?_
      refine zq_iconst (v := (-1)) rfl dX10_two_136 ?_
      exact zq_iret dX10_two_137 rfl rfl rfl H
    · have H := H.2
      rcases (show i3.toInt = 0 ∨ i3.toInt = 1 ∨ i3.toInt = 2 ∨ i3.toInt = 3 ∨ i3.toInt = 4 by omega) with hk | hk | hk | hk | hk
      · have H := H.1 (zr_int (c := 0) hk)
        refine zq_tabIn (off := 33) (tgt := 44) dX10_two_11 (by rw [hk]; decide) (by rw [hk]; decide) (by rw [hk]; rfl) rfl ?_
        refine zq_aload_n (k := 0) (i := 0) (x := 1) 0 rfl rfl dX10_two_44 ?_
        refine zq_getP fl_RX10_14 rfl (sh_1 hw) (rf_1_0 hw) dX10_two_45 ?_
        refine zq_getP fl_RX10_93 rfl (sh_2 hw) (rf_2_0 hw) dX10_two_48 ?_
        refine zq_iload_n (k := 1) (i := 1) (x := i1) 1 rfl rfl dX10_two_51 ?_
        refine zq_iload_n (k := 2) (i := 2) (x := i2) 2 rfl rfl dX10_two_52 ?_
        refine zq_invS (as := [.ref 3, .int i1, .int i2]) (st := []) st_X2_shared mo_X2_shared ml_RX10_97 rfl (Nat.le_of_ble_eq_true rfl) dX10_two_53 rfl H (fun r1 h1 hq => ?_)
        obtain ⟨x3, rfl, rfl, H⟩ := hq
        show zQ none m_X10_two (d + 1) 56 [(0, .ref 1), (1, .int i1), (2, .int i2), (3, .int i3)] (.int x3 :: []) h Q
        exact zq_iret dX10_two_56 rfl rfl rfl H
      · have H := H.2.1 (zr_int (c := 1) hk)
        refine zq_tabIn (off := 46) (tgt := 57) dX10_two_11 (by rw [hk]; decide) (by rw [hk]; decide) (by rw [hk]; rfl) rfl ?_
        refine zq_aload_n (k := 0) (i := 0) (x := 1) 0 rfl rfl dX10_two_57 ?_
        refine zq_getP fl_RX10_14 rfl (sh_1 hw) (rf_1_0 hw) dX10_two_58 ?_
        refine zq_getP fl_RX10_93 rfl (sh_2 hw) (rf_2_0 hw) dX10_two_61 ?_
        refine zq_iload_n (k := 1) (i := 1) (x := i1) 1 rfl rfl dX10_two_64 ?_
        obtain ⟨b4, H⟩ := H
        refine zq_lald (sh_3 hw) b4 dX10_two_65 ?_
        refine zq_aload_n (k := 0) (i := 0) (x := 1) 0 rfl rfl dX10_two_66 ?_
        refine zq_getP fl_RX10_14 rfl (sh_1 hw) (rf_1_0 hw) dX10_two_67 ?_
        refine zq_getP fl_RX10_93 rfl (sh_2 hw) (rf_2_0 hw) dX10_two_70 ?_
        refine zq_iload_n (k := 2) (i := 2) (x := i2) 2 rfl rfl dX10_two_73 ?_
        obtain ⟨b5, H⟩ := H
        refine zq_lald (sh_3 hw) b5 dX10_two_74 ?_
        refine zq_land dX10_two_75 ?_
        refine zq_aload_n (k := 0) (i := 0) (x := 1) 0 rfl rfl dX10_two_76 ?_
        refine zq_getP fl_RX10_14 rfl (sh_1 hw) (rf_1_0 hw) dX10_two_77 ?_
        refine zq_getL fl_RX10_140 rfl (sh_2 hw) dX10_two_80 ?_
        refine zq_ldc2 (v := (-1)) cl_RX10_144 dX10_two_83 ?_
        refine zq_lxor dX10_two_86 ?_
        refine zq_land dX10_two_87 ?_
        refine zq_invS (as := [.long (((h.L 3 i1.toNatClampNeg) &&& (h.L 3 i2.toNatClampNeg)) &&& ((h.L 2 5) ^^^ (-1 : Int64)))]) (st := []) st_J13_bitCount_95d88 mo_J13_bitCount_95d88 ml_RX10_146 rfl (Nat.le_of_ble_eq_true rfl) dX10_two_88 rfl H (fun r1 h1 hq => ?_)
        obtain ⟨x6, rfl, rfl, H⟩ := hq
        show zQ none m_X10_two (d + 1) 91 [(0, .ref 1), (1, .int i1), (2, .int i2), (3, .int i3)] (.int x6 :: []) h Q
        exact zq_iret dX10_two_91 rfl rfl rfl H
      · have H := H.2.2.1 (zr_int (c := 2) hk)
        refine zq_tabIn (off := 81) (tgt := 92) dX10_two_11 (by rw [hk]; decide) (by rw [hk]; decide) (by rw [hk]; rfl) rfl ?_
        refine zq_aload_n (k := 0) (i := 0) (x := 1) 0 rfl rfl dX10_two_92 ?_
        refine zq_getP fl_RX10_14 rfl (sh_1 hw) (rf_1_0 hw) dX10_two_93 ?_
        refine zq_getP fl_RX10_93 rfl (sh_2 hw) (rf_2_0 hw) dX10_two_96 ?_
        refine zq_iload_n (k := 1) (i := 1) (x := i1) 1 rfl rfl dX10_two_99 ?_
        refine zq_iload_n (k := 2) (i := 2) (x := i2) 2 rfl rfl dX10_two_100 ?_
        refine zq_invS (as := [.ref 3, .int i1, .int i2]) (st := []) st_X2_waysByThree mo_X2_waysByThree ml_RX10_150 rfl (Nat.le_of_ble_eq_true rfl) dX10_two_101 rfl H (fun r1 h1 hq => ?_)
        obtain ⟨x7, rfl, rfl, H⟩ := hq
        show zQ none m_X10_two (d + 1) 104 [(0, .ref 1), (1, .int i1), (2, .int i2), (3, .int i3)] (.int x7 :: []) h Q
        exact zq_iret dX10_two_104 rfl rfl rfl H
      · have H := H.2.2.2.1 (zr_int (c := 3) hk)
        refine zq_tabIn (off := 94) (tgt := 105) dX10_two_11 (by rw [hk]; decide) (by rw [hk]; decide) (by rw [hk]; rfl) rfl ?_
        refine zq_aload_n (k := 0) (i := 0) (x := 1) 0 rfl rfl dX10_two_105 ?_
        refine zq_getP fl_RX10_14 rfl (sh_1 hw) (rf_1_0 hw) dX10_two_106 ?_
        refine zq_iload_n (k := 1) (i := 1) (x := i1) 1 rfl rfl dX10_two_109 ?_
        refine zq_iload_n (k := 2) (i := 2) (x := i2) 2 rfl rfl dX10_two_110 ?_
        refine zq_invV (as := [.int i1, .int i2]) (st := []) (o := 2) (c := 2) (by decide) rfl (sh_2 hw) in_X3_joins se_X3_joins mo_X3_joins ml_RX10_86 rfl (Nat.le_of_ble_eq_true rfl) dX10_two_111 rfl H (fun r1 h1 hq => ?_)
        obtain ⟨x8, rfl, rfl, H⟩ := hq
        show zQ none m_X10_two (d + 1) 114 [(0, .ref 1), (1, .int i1), (2, .int i2), (3, .int i3)] (.int x8 :: []) h Q
        refine zq_if_eq (tgt := 121) dX10_two_114 rfl ⟨fun c9 => ?_, fun c9 => ?_⟩
        · have H := H.1 c9
          refine zq_iconst (v := (nI 0)) rfl dX10_two_121 ?_
          exact zq_iret dX10_two_122 rfl rfl rfl H
        · have H := H.2 c9
          refine zq_iconst (v := (nI 1)) rfl dX10_two_117 ?_
          refine zq_goto (tgt := 122) dX10_two_118 rfl ?_
          exact zq_iret dX10_two_122 rfl rfl rfl H
      · have H := H.2.2.2.2 (zr_int (c := 4) hk)
        refine zq_tabIn (off := 112) (tgt := 123) dX10_two_11 (by rw [hk]; decide) (by rw [hk]; decide) (by rw [hk]; rfl) rfl ?_
        refine zq_aload_n (k := 0) (i := 0) (x := 1) 0 rfl rfl dX10_two_123 ?_
        refine zq_getP fl_RX10_14 rfl (sh_1 hw) (rf_1_0 hw) dX10_two_124 ?_
        refine zq_getP fl_RX10_93 rfl (sh_2 hw) (rf_2_0 hw) dX10_two_127 ?_
        refine zq_iload_n (k := 1) (i := 1) (x := i1) 1 rfl rfl dX10_two_130 ?_
        refine zq_iload_n (k := 2) (i := 2) (x := i2) 2 rfl rfl dX10_two_131 ?_
        refine zq_invS (as := [.ref 3, .int i1, .int i2]) (st := []) st_X2_far mo_X2_far ml_RX10_153 rfl (Nat.le_of_ble_eq_true rfl) dX10_two_132 rfl H (fun r1 h1 hq => ?_)
        obtain ⟨x10, rfl, rfl, H⟩ := hq
        show zQ none m_X10_two (d + 1) 135 [(0, .ref 1), (1, .int i1), (2, .int i2), (3, .int i3)] (.int x10 :: []) h Q
        exact zq_iret dX10_two_135 rfl rfl rfl H
  · have H := H.2 c2
    refine zq_iconst (v := (-1)) rfl dX10_two_8 ?_
    exact zq_iret dX10_two_9 rfl rfl rfl H
set_option maxHeartbeats 2000000 in
set_option maxRecDepth 20000 in
theorem r_X10_edge_0 {d : Nat} {h : AH} {Q : Option Value → AH → Prop} (i1 : Int32) (i2 : Int32) (i3 : Int32) (hw : zWF h)  (H : zK d m_X10_isTwo [.int i1, .int i2] h (pI h fun x1 => (x1 = 0 → Q (some (.int (-1))) h) ∧ (¬ x1 = 0 → (i3 < 0 → Q (some (.int (-1))) h) ∧ (¬ i3 < 0 → (i3 ≤ (nI 4) → zK d m_X3_joins [.ref 2, .int i1, .int i2] h (pI h fun x5 => (x5 ≠ 0 → (i3.toInt < 0 ∨ 3 < i3.toInt → zK d m_X2_foursOn [.ref 3, .int i1, .int i2] h (pI h fun x7 => Q (some (.int x7)) h)) ∧ (i3 = nI 0 → zK d m_X2_shared [.ref 3, .int i1, .int i2] h (pI h fun x8 => Q (some (.int x8)) h)) ∧ (i3 = nI 1 → zK d m_X6_follow [.ref 12, .ref 3] h (kV fun h9 => zK d m_X10_pairOf [.int i1, .int i2] h9 (pI h9 fun x10 => vp_in x10 1600 ∧ (Q (some (.int (h9.I 16 x10.toNatClampNeg))) h9)))) ∧ (i3 = nI 2 → zK d m_X6_follow [.ref 12, .ref 3] h (kV fun h12 => zK d m_X10_pairOf [.int i1, .int i2] h12 (pI h12 fun x13 => vp_in x13 1600 ∧ (Q (some (.int (h12.I 17 x13.toNatClampNeg))) h12)))) ∧ (i3 = nI 3 → zK d m_X2_waysByThree [.ref 3, .int i1, .int i2] h (pI h fun x15 => Q (some (.int x15)) h))) ∧ (x5 = 0 → Q (some (.int (-3))) h))) ∧ (¬ i3 ≤ (nI 4) → Q (some (.int (-1))) h))))) : zK (d + 1) m_X10_edge [.ref 1, .int i1, .int i2, .int i3] h Q := by
  refine zK_of mo_X10_edge (Nat.le_of_ble_eq_true rfl) ?_
  show zQ none m_X10_edge (d + 1) 0 [(0, .ref 1), (1, .int i1), (2, .int i2), (3, .int i3)] [] h Q
  refine zq_iload_n (k := 1) (i := 1) (x := i1) 1 rfl rfl dX10_edge_0 ?_
  refine zq_iload_n (k := 2) (i := 2) (x := i2) 2 rfl rfl dX10_edge_1 ?_
  refine zq_invS (as := [.int i1, .int i2]) (st := []) st_X10_isTwo mo_X10_isTwo ml_RX10_80 rfl (Nat.le_of_ble_eq_true rfl) dX10_edge_2 rfl H (fun r1 h1 hq => ?_)
  obtain ⟨x1, rfl, rfl, H⟩ := hq
  show zQ none m_X10_edge (d + 1) 5 [(0, .ref 1), (1, .int i1), (2, .int i2), (3, .int i3)] (.int x1 :: []) h Q
  refine zq_if_eq (tgt := 17) dX10_edge_5 rfl ⟨fun c2 => ?_, fun c2 => ?_⟩
  · have H := H.1 c2
    refine zq_iconst (v := (-1)) rfl dX10_edge_17 ?_
    exact zq_iret dX10_edge_18 rfl rfl rfl H
  · have H := H.2 c2
    refine zq_iload_n (k := 3) (i := 3) (x := i3) 3 rfl rfl dX10_edge_8 ?_
    refine zq_if_lt (tgt := 17) dX10_edge_9 rfl ⟨fun c3 => ?_, fun c3 => ?_⟩
    · have H := H.1 c3
      refine zq_iconst (v := (-1)) rfl dX10_edge_17 ?_
      exact zq_iret dX10_edge_18 rfl rfl rfl H
    · have H := H.2 c3
      refine zq_iload_n (k := 3) (i := 3) (x := i3) 3 rfl rfl dX10_edge_12 ?_
      refine zq_iconst (v := (nI 4)) rfl dX10_edge_13 ?_
      refine zq_icmp_le (tgt := 19) dX10_edge_14 rfl ⟨fun c4 => ?_, fun c4 => ?_⟩
      · have H := H.1 c4
        refine zq_aload_n (k := 0) (i := 0) (x := 1) 0 rfl rfl dX10_edge_19 ?_
        refine zq_getP fl_RX10_14 rfl (sh_1 hw) (rf_1_0 hw) dX10_edge_20 ?_
        refine zq_iload_n (k := 1) (i := 1) (x := i1) 1 rfl rfl dX10_edge_23 ?_
        refine zq_iload_n (k := 2) (i := 2) (x := i2) 2 rfl rfl dX10_edge_24 ?_
        refine zq_invV (as := [.int i1, .int i2]) (st := []) (o := 2) (c := 2) (by decide) rfl (sh_2 hw) in_X3_joins se_X3_joins mo_X3_joins ml_RX10_86 rfl (Nat.le_of_ble_eq_true rfl) dX10_edge_25 rfl H (fun r1 h1 hq => ?_)
        obtain ⟨x5, rfl, rfl, H⟩ := hq
        show zQ none m_X10_edge (d + 1) 28 [(0, .ref 1), (1, .int i1), (2, .int i2), (3, .int i3)] (.int x5 :: []) h Q
        refine zq_if_ne (tgt := 34) dX10_edge_28 rfl ⟨fun c6 => ?_, fun c6 => ?_⟩
        · have H := H.1 c6
          refine zq_iload_n (k := 3) (i := 3) (x := i3) 3 rfl rfl dX10_edge_34 ?_
          by_cases hr : i3.toInt < 0 ∨ 3 < i3.toInt
          · have H := H.1 hr
            refine zq_tabOut (tgt := 146) dX10_edge_35 hr rfl ?_
            refine zq_aload_n (k := 0) (i := 0) (x := 1) 0 rfl rfl dX10_edge_146 ?_
            refine zq_getP fl_RX10_14 rfl (sh_1 hw) (rf_1_0 hw) dX10_edge_147 ?_
            refine zq_getP fl_RX10_93 rfl (sh_2 hw) (rf_2_0 hw) dX10_edge_150 ?_
            refine zq_iload_n (k := 1) (i := 1) (x := i1) 1 rfl rfl dX10_edge_153 ?_
            refine zq_iload_n (k := 2) (i := 2) (x := i2) 2 rfl rfl dX10_edge_154 ?_
            refine zq_invS (as := [.ref 3, .int i1, .int i2]) (st := []) st_X2_foursOn mo_X2_foursOn ml_RX10_166 rfl (Nat.le_of_ble_eq_true rfl) dX10_edge_155 rfl H (fun r1 h1 hq => ?_)
            obtain ⟨x7, rfl, rfl, H⟩ := hq
            show zQ none m_X10_edge (d + 1) 158 [(0, .ref 1), (1, .int i1), (2, .int i2), (3, .int i3)] (.int x7 :: []) h Q
            exact zq_iret dX10_edge_158 rfl rfl rfl H
          · have H := H.2
            rcases (show i3.toInt = 0 ∨ i3.toInt = 1 ∨ i3.toInt = 2 ∨ i3.toInt = 3 by omega) with hk | hk | hk | hk
            · have H := H.1 (zr_int (c := 0) hk)
              refine zq_tabIn (off := 29) (tgt := 64) dX10_edge_35 (by rw [hk]; decide) (by rw [hk]; decide) (by rw [hk]; rfl) rfl ?_
              refine zq_aload_n (k := 0) (i := 0) (x := 1) 0 rfl rfl dX10_edge_64 ?_
              refine zq_getP fl_RX10_14 rfl (sh_1 hw) (rf_1_0 hw) dX10_edge_65 ?_
              refine zq_getP fl_RX10_93 rfl (sh_2 hw) (rf_2_0 hw) dX10_edge_68 ?_
              refine zq_iload_n (k := 1) (i := 1) (x := i1) 1 rfl rfl dX10_edge_71 ?_
              refine zq_iload_n (k := 2) (i := 2) (x := i2) 2 rfl rfl dX10_edge_72 ?_
              refine zq_invS (as := [.ref 3, .int i1, .int i2]) (st := []) st_X2_shared mo_X2_shared ml_RX10_97 rfl (Nat.le_of_ble_eq_true rfl) dX10_edge_73 rfl H (fun r1 h1 hq => ?_)
              obtain ⟨x8, rfl, rfl, H⟩ := hq
              show zQ none m_X10_edge (d + 1) 76 [(0, .ref 1), (1, .int i1), (2, .int i2), (3, .int i3)] (.int x8 :: []) h Q
              exact zq_iret dX10_edge_76 rfl rfl rfl H
            · have H := H.2.1 (zr_int (c := 1) hk)
              refine zq_tabIn (off := 42) (tgt := 77) dX10_edge_35 (by rw [hk]; decide) (by rw [hk]; decide) (by rw [hk]; rfl) rfl ?_
              refine zq_aload_n (k := 0) (i := 0) (x := 1) 0 rfl rfl dX10_edge_77 ?_
              refine zq_getP fl_RX10_28 rfl (sh_1 hw) (rf_1_3 hw) dX10_edge_78 ?_
              refine zq_aload_n (k := 0) (i := 0) (x := 1) 0 rfl rfl dX10_edge_81 ?_
              refine zq_getP fl_RX10_14 rfl (sh_1 hw) (rf_1_0 hw) dX10_edge_82 ?_
              refine zq_getP fl_RX10_93 rfl (sh_2 hw) (rf_2_0 hw) dX10_edge_85 ?_
              refine zq_invV (as := [.ref 3]) (st := []) (o := 12) (c := 5) (by decide) rfl (sh_12 hw) in_X6_follow se_X6_follow mo_X6_follow ml_RX10_156 rfl (Nat.le_of_ble_eq_true rfl) dX10_edge_88 rfl H (fun r1 h9 hq => ?_)
              obtain ⟨rfl, wh9, H⟩ := hq
              show zQ none m_X10_edge (d + 1) 91 [(0, .ref 1), (1, .int i1), (2, .int i2), (3, .int i3)] ([]) h9 Q
              refine zq_aload_n (k := 0) (i := 0) (x := 1) 0 rfl rfl dX10_edge_91 ?_
              refine zq_getP fl_RX10_28 rfl (sh_1 wh9) (rf_1_3 wh9) dX10_edge_92 ?_
              refine zq_getP fl_RX10_160 rfl (sh_12 wh9) (rf_12_3 wh9) dX10_edge_95 ?_
              refine zq_iload_n (k := 1) (i := 1) (x := i1) 1 rfl rfl dX10_edge_98 ?_
              refine zq_iload_n (k := 2) (i := 2) (x := i2) 2 rfl rfl dX10_edge_99 ?_
              refine zq_invS (as := [.int i1, .int i2]) (st := .ref 16 :: []) st_X10_pairOf mo_X10_pairOf ml_RX10_112 rfl (Nat.le_of_ble_eq_true rfl) dX10_edge_100 rfl H (fun r1 h1 hq => ?_)
              obtain ⟨x10, rfl, rfl, H⟩ := hq
              show zQ none m_X10_edge (d + 1) 103 [(0, .ref 1), (1, .int i1), (2, .int i2), (3, .int i3)] (.int x10 :: .ref 16 :: []) h9 Q
              obtain ⟨b11, H⟩ := H
              refine zq_iald (sh_16 wh9) b11 dX10_edge_103 ?_
              exact zq_iret dX10_edge_104 rfl rfl rfl H
            · have H := H.2.2.1 (zr_int (c := 2) hk)
              refine zq_tabIn (off := 70) (tgt := 105) dX10_edge_35 (by rw [hk]; decide) (by rw [hk]; decide) (by rw [hk]; rfl) rfl ?_
              refine zq_aload_n (k := 0) (i := 0) (x := 1) 0 rfl rfl dX10_edge_105 ?_
              refine zq_getP fl_RX10_28 rfl (sh_1 hw) (rf_1_3 hw) dX10_edge_106 ?_
              refine zq_aload_n (k := 0) (i := 0) (x := 1) 0 rfl rfl dX10_edge_109 ?_
              refine zq_getP fl_RX10_14 rfl (sh_1 hw) (rf_1_0 hw) dX10_edge_110 ?_
              refine zq_getP fl_RX10_93 rfl (sh_2 hw) (rf_2_0 hw) dX10_edge_113 ?_
              refine zq_invV (as := [.ref 3]) (st := []) (o := 12) (c := 5) (by decide) rfl (sh_12 hw) in_X6_follow se_X6_follow mo_X6_follow ml_RX10_156 rfl (Nat.le_of_ble_eq_true rfl) dX10_edge_116 rfl H (fun r1 h12 hq => ?_)
              obtain ⟨rfl, wh12, H⟩ := hq
              show zQ none m_X10_edge (d + 1) 119 [(0, .ref 1), (1, .int i1), (2, .int i2), (3, .int i3)] ([]) h12 Q
              refine zq_aload_n (k := 0) (i := 0) (x := 1) 0 rfl rfl dX10_edge_119 ?_
              refine zq_getP fl_RX10_28 rfl (sh_1 wh12) (rf_1_3 wh12) dX10_edge_120 ?_
              refine zq_getP fl_RX10_163 rfl (sh_12 wh12) (rf_12_4 wh12) dX10_edge_123 ?_
              refine zq_iload_n (k := 1) (i := 1) (x := i1) 1 rfl rfl dX10_edge_126 ?_
              refine zq_iload_n (k := 2) (i := 2) (x := i2) 2 rfl rfl dX10_edge_127 ?_
              refine zq_invS (as := [.int i1, .int i2]) (st := .ref 17 :: []) st_X10_pairOf mo_X10_pairOf ml_RX10_112 rfl (Nat.le_of_ble_eq_true rfl) dX10_edge_128 rfl H (fun r1 h1 hq => ?_)
              obtain ⟨x13, rfl, rfl, H⟩ := hq
              show zQ none m_X10_edge (d + 1) 131 [(0, .ref 1), (1, .int i1), (2, .int i2), (3, .int i3)] (.int x13 :: .ref 17 :: []) h12 Q
              obtain ⟨b14, H⟩ := H
              refine zq_iald (sh_17 wh12) b14 dX10_edge_131 ?_
              exact zq_iret dX10_edge_132 rfl rfl rfl H
            · have H := H.2.2.2 (zr_int (c := 3) hk)
              refine zq_tabIn (off := 98) (tgt := 133) dX10_edge_35 (by rw [hk]; decide) (by rw [hk]; decide) (by rw [hk]; rfl) rfl ?_
              refine zq_aload_n (k := 0) (i := 0) (x := 1) 0 rfl rfl dX10_edge_133 ?_
              refine zq_getP fl_RX10_14 rfl (sh_1 hw) (rf_1_0 hw) dX10_edge_134 ?_
              refine zq_getP fl_RX10_93 rfl (sh_2 hw) (rf_2_0 hw) dX10_edge_137 ?_
              refine zq_iload_n (k := 1) (i := 1) (x := i1) 1 rfl rfl dX10_edge_140 ?_
              refine zq_iload_n (k := 2) (i := 2) (x := i2) 2 rfl rfl dX10_edge_141 ?_
              refine zq_invS (as := [.ref 3, .int i1, .int i2]) (st := []) st_X2_waysByThree mo_X2_waysByThree ml_RX10_150 rfl (Nat.le_of_ble_eq_true rfl) dX10_edge_142 rfl H (fun r1 h1 hq => ?_)
              obtain ⟨x15, rfl, rfl, H⟩ := hq
              show zQ none m_X10_edge (d + 1) 145 [(0, .ref 1), (1, .int i1), (2, .int i2), (3, .int i3)] (.int x15 :: []) h Q
              exact zq_iret dX10_edge_145 rfl rfl rfl H
        · have H := H.2 c6
          refine zq_bipush (v := (-3)) rfl dX10_edge_31 ?_
          exact zq_iret dX10_edge_33 rfl rfl rfl H
      · have H := H.2 c4
        refine zq_iconst (v := (-1)) rfl dX10_edge_17 ?_
        exact zq_iret dX10_edge_18 rfl rfl rfl H
set_option maxHeartbeats 2000000 in
set_option maxRecDepth 20000 in
theorem r_X10_near_0 {d : Nat} {h : AH} {Q : Option Value → AH → Prop} (i1 : Int32) (hw : zWF h)  (H : zK d m_X10_isVertex [.int i1] h (pI h fun x1 => (x1 = 0 → Q (some (.long (-9223372036854775808 : Int64))) h) ∧ (¬ x1 = 0 → vp_in i1 40 ∧ (Q (some (.long (h.L 3 i1.toNatClampNeg))) h)))) : zK (d + 1) m_X10_near [.ref 1, .int i1] h Q := by
  refine zK_of mo_X10_near (Nat.le_of_ble_eq_true rfl) ?_
  show zQ none m_X10_near (d + 1) 0 [(0, .ref 1), (1, .int i1)] [] h Q
  refine zq_iload_n (k := 1) (i := 1) (x := i1) 1 rfl rfl dX10_near_0 ?_
  refine zq_invS (as := [.int i1]) (st := []) st_X10_isVertex mo_X10_isVertex ml_RX10_116 rfl (Nat.le_of_ble_eq_true rfl) dX10_near_1 rfl H (fun r1 h1 hq => ?_)
  obtain ⟨x1, rfl, rfl, H⟩ := hq
  show zQ none m_X10_near (d + 1) 4 [(0, .ref 1), (1, .int i1)] (.int x1 :: []) h Q
  refine zq_if_eq (tgt := 19) dX10_near_4 rfl ⟨fun c2 => ?_, fun c2 => ?_⟩
  · have H := H.1 c2
    refine zq_ldc2 (v := (-9223372036854775808)) cl_RX10_107 dX10_near_19 ?_
    exact zq_lret dX10_near_22 rfl H
  · have H := H.2 c2
    refine zq_aload_n (k := 0) (i := 0) (x := 1) 0 rfl rfl dX10_near_7 ?_
    refine zq_getP fl_RX10_14 rfl (sh_1 hw) (rf_1_0 hw) dX10_near_8 ?_
    refine zq_getP fl_RX10_93 rfl (sh_2 hw) (rf_2_0 hw) dX10_near_11 ?_
    refine zq_iload_n (k := 1) (i := 1) (x := i1) 1 rfl rfl dX10_near_14 ?_
    obtain ⟨b3, H⟩ := H
    refine zq_lald (sh_3 hw) b3 dX10_near_15 ?_
    refine zq_goto (tgt := 22) dX10_near_16 rfl ?_
    exact zq_lret dX10_near_22 rfl H
set_option maxHeartbeats 2000000 in
set_option maxRecDepth 20000 in
theorem r_X10_told_0 {d : Nat} {h : AH} {Q : Option Value → AH → Prop} (i1 : Int32) (hw : zWF h)  (H : (i1.toInt < 0 ∨ 13 < i1.toInt → Q (some (.long (-9223372036854775808 : Int64))) h) ∧ (i1 = nI 0 → Q (some (.long ((h.I 2 3).toInt64))) h) ∧ (i1 = nI 1 → zK d m_X2_triangles [.ref 3] h (pI h fun x1 => Q (some (.long x1.toInt64)) h)) ∧ (i1 = nI 2 → zK d m_X2_rings [.ref 3] h (pI h fun x2 => Q (some (.long x2.toInt64)) h)) ∧ (i1 = nI 3 → Q (some (.long ((h.I 2 4).toInt64))) h) ∧ (i1 = nI 4 → zK d m_X3_bound [.ref 2] h (pI h fun x3 => Q (some (.long x3.toInt64)) h)) ∧ (i1 = nI 5 → Q (some (.long (h.L 2 5))) h) ∧ (i1 = nI 6 → Q (some (.long (h.L 2 6))) h) ∧ (i1 = nI 7 → Q (some (.long (h.L 2 7))) h) ∧ (i1 = nI 8 → Q (some (.long (h.L 2 8))) h) ∧ (i1 = nI 9 → Q (some (.long (h.L 2 9))) h) ∧ (i1 = nI 10 → Q (some (.long ((h.I 5 1).toInt64))) h) ∧ (i1 = nI 11 → zK d m_X2_twos [.ref 3] h (pI h fun x4 => Q (some (.long x4.toInt64)) h)) ∧ (i1 = nI 12 → Q (some (.long ((h.I 37 1).toInt64))) h) ∧ (i1 = nI 13 → zK d m_X2_fours [.ref 3] h (pI h fun x5 => Q (some (.long x5.toInt64)) h))) : zK (d + 1) m_X10_told [.ref 1, .int i1] h Q := by
  refine zK_of mo_X10_told (Nat.le_of_ble_eq_true rfl) ?_
  show zQ none m_X10_told (d + 1) 0 [(0, .ref 1), (1, .int i1)] [] h Q
  refine zq_iload_n (k := 1) (i := 1) (x := i1) 1 rfl rfl dX10_told_0 ?_
  by_cases hr : i1.toInt < 0 ∨ 13 < i1.toInt
  · have H := H.1 hr
    refine zq_tabOut (tgt := 208) dX10_told_1 hr rfl ?_
    refine zq_ldc2 (v := (-9223372036854775808)) cl_RX10_107 dX10_told_208 ?_
    exact zq_lret dX10_told_211 rfl H
  · have H := H.2
    rcases (show i1.toInt = 0 ∨ i1.toInt = 1 ∨ i1.toInt = 2 ∨ i1.toInt = 3 ∨ i1.toInt = 4 ∨ i1.toInt = 5 ∨ i1.toInt = 6 ∨ i1.toInt = 7 ∨ i1.toInt = 8 ∨ i1.toInt = 9 ∨ i1.toInt = 10 ∨ i1.toInt = 11 ∨ i1.toInt = 12 ∨ i1.toInt = 13 by omega) with hk | hk | hk | hk | hk | hk | hk | hk | hk | hk | hk | hk | hk | hk
    · have H := H.1 (zr_int (c := 0) hk)
      refine zq_tabIn (off := 71) (tgt := 72) dX10_told_1 (by rw [hk]; decide) (by rw [hk]; decide) (by rw [hk]; rfl) rfl ?_
      refine zq_aload_n (k := 0) (i := 0) (x := 1) 0 rfl rfl dX10_told_72 ?_
      refine zq_getP fl_RX10_14 rfl (sh_1 hw) (rf_1_0 hw) dX10_told_73 ?_
      refine zq_getI fl_RX10_173 rfl (sh_2 hw) dX10_told_76 ?_
      refine zq_i2l dX10_told_79 ?_
      exact zq_lret dX10_told_80 rfl H
    · have H := H.2.1 (zr_int (c := 1) hk)
      refine zq_tabIn (off := 80) (tgt := 81) dX10_told_1 (by rw [hk]; decide) (by rw [hk]; decide) (by rw [hk]; rfl) rfl ?_
      refine zq_aload_n (k := 0) (i := 0) (x := 1) 0 rfl rfl dX10_told_81 ?_
      refine zq_getP fl_RX10_14 rfl (sh_1 hw) (rf_1_0 hw) dX10_told_82 ?_
      refine zq_getP fl_RX10_93 rfl (sh_2 hw) (rf_2_0 hw) dX10_told_85 ?_
      refine zq_invS (as := [.ref 3]) (st := []) st_X2_triangles mo_X2_triangles ml_RX10_169 rfl (Nat.le_of_ble_eq_true rfl) dX10_told_88 rfl H (fun r1 h1 hq => ?_)
      obtain ⟨x1, rfl, rfl, H⟩ := hq
      show zQ none m_X10_told (d + 1) 91 [(0, .ref 1), (1, .int i1)] (.int x1 :: []) h Q
      refine zq_i2l dX10_told_91 ?_
      exact zq_lret dX10_told_92 rfl H
    · have H := H.2.2.1 (zr_int (c := 2) hk)
      refine zq_tabIn (off := 92) (tgt := 93) dX10_told_1 (by rw [hk]; decide) (by rw [hk]; decide) (by rw [hk]; rfl) rfl ?_
      refine zq_aload_n (k := 0) (i := 0) (x := 1) 0 rfl rfl dX10_told_93 ?_
      refine zq_getP fl_RX10_14 rfl (sh_1 hw) (rf_1_0 hw) dX10_told_94 ?_
      refine zq_getP fl_RX10_93 rfl (sh_2 hw) (rf_2_0 hw) dX10_told_97 ?_
      refine zq_invS (as := [.ref 3]) (st := []) st_X2_rings mo_X2_rings ml_RX10_177 rfl (Nat.le_of_ble_eq_true rfl) dX10_told_100 rfl H (fun r1 h1 hq => ?_)
      obtain ⟨x2, rfl, rfl, H⟩ := hq
      show zQ none m_X10_told (d + 1) 103 [(0, .ref 1), (1, .int i1)] (.int x2 :: []) h Q
      refine zq_i2l dX10_told_103 ?_
      exact zq_lret dX10_told_104 rfl H
    · have H := H.2.2.2.1 (zr_int (c := 3) hk)
      refine zq_tabIn (off := 104) (tgt := 105) dX10_told_1 (by rw [hk]; decide) (by rw [hk]; decide) (by rw [hk]; rfl) rfl ?_
      refine zq_aload_n (k := 0) (i := 0) (x := 1) 0 rfl rfl dX10_told_105 ?_
      refine zq_getP fl_RX10_14 rfl (sh_1 hw) (rf_1_0 hw) dX10_told_106 ?_
      refine zq_getI fl_RX10_180 rfl (sh_2 hw) dX10_told_109 ?_
      refine zq_i2l dX10_told_112 ?_
      exact zq_lret dX10_told_113 rfl H
    · have H := H.2.2.2.2.1 (zr_int (c := 4) hk)
      refine zq_tabIn (off := 113) (tgt := 114) dX10_told_1 (by rw [hk]; decide) (by rw [hk]; decide) (by rw [hk]; rfl) rfl ?_
      refine zq_aload_n (k := 0) (i := 0) (x := 1) 0 rfl rfl dX10_told_114 ?_
      refine zq_getP fl_RX10_14 rfl (sh_1 hw) (rf_1_0 hw) dX10_told_115 ?_
      refine zq_invV (as := []) (st := []) (o := 2) (c := 2) (by decide) rfl (sh_2 hw) in_X3_bound se_X3_bound mo_X3_bound ml_RX10_183 rfl (Nat.le_of_ble_eq_true rfl) dX10_told_118 rfl H (fun r1 h1 hq => ?_)
      obtain ⟨x3, rfl, rfl, H⟩ := hq
      show zQ none m_X10_told (d + 1) 121 [(0, .ref 1), (1, .int i1)] (.int x3 :: []) h Q
      refine zq_i2l dX10_told_121 ?_
      exact zq_lret dX10_told_122 rfl H
    · have H := H.2.2.2.2.2.1 (zr_int (c := 5) hk)
      refine zq_tabIn (off := 122) (tgt := 123) dX10_told_1 (by rw [hk]; decide) (by rw [hk]; decide) (by rw [hk]; rfl) rfl ?_
      refine zq_aload_n (k := 0) (i := 0) (x := 1) 0 rfl rfl dX10_told_123 ?_
      refine zq_getP fl_RX10_14 rfl (sh_1 hw) (rf_1_0 hw) dX10_told_124 ?_
      refine zq_getL fl_RX10_140 rfl (sh_2 hw) dX10_told_127 ?_
      exact zq_lret dX10_told_130 rfl H
    · have H := H.2.2.2.2.2.2.1 (zr_int (c := 6) hk)
      refine zq_tabIn (off := 130) (tgt := 131) dX10_told_1 (by rw [hk]; decide) (by rw [hk]; decide) (by rw [hk]; rfl) rfl ?_
      refine zq_aload_n (k := 0) (i := 0) (x := 1) 0 rfl rfl dX10_told_131 ?_
      refine zq_getP fl_RX10_14 rfl (sh_1 hw) (rf_1_0 hw) dX10_told_132 ?_
      refine zq_getL fl_RX10_187 rfl (sh_2 hw) dX10_told_135 ?_
      exact zq_lret dX10_told_138 rfl H
    · have H := H.2.2.2.2.2.2.2.1 (zr_int (c := 7) hk)
      refine zq_tabIn (off := 138) (tgt := 139) dX10_told_1 (by rw [hk]; decide) (by rw [hk]; decide) (by rw [hk]; rfl) rfl ?_
      refine zq_aload_n (k := 0) (i := 0) (x := 1) 0 rfl rfl dX10_told_139 ?_
      refine zq_getP fl_RX10_14 rfl (sh_1 hw) (rf_1_0 hw) dX10_told_140 ?_
      refine zq_getL fl_RX10_190 rfl (sh_2 hw) dX10_told_143 ?_
      exact zq_lret dX10_told_146 rfl H
    · have H := H.2.2.2.2.2.2.2.2.1 (zr_int (c := 8) hk)
      refine zq_tabIn (off := 146) (tgt := 147) dX10_told_1 (by rw [hk]; decide) (by rw [hk]; decide) (by rw [hk]; rfl) rfl ?_
      refine zq_aload_n (k := 0) (i := 0) (x := 1) 0 rfl rfl dX10_told_147 ?_
      refine zq_getP fl_RX10_14 rfl (sh_1 hw) (rf_1_0 hw) dX10_told_148 ?_
      refine zq_getL fl_RX10_193 rfl (sh_2 hw) dX10_told_151 ?_
      exact zq_lret dX10_told_154 rfl H
    · have H := H.2.2.2.2.2.2.2.2.2.1 (zr_int (c := 9) hk)
      refine zq_tabIn (off := 154) (tgt := 155) dX10_told_1 (by rw [hk]; decide) (by rw [hk]; decide) (by rw [hk]; rfl) rfl ?_
      refine zq_aload_n (k := 0) (i := 0) (x := 1) 0 rfl rfl dX10_told_155 ?_
      refine zq_getP fl_RX10_14 rfl (sh_1 hw) (rf_1_0 hw) dX10_told_156 ?_
      refine zq_getL fl_RX10_196 rfl (sh_2 hw) dX10_told_159 ?_
      exact zq_lret dX10_told_162 rfl H
    · have H := H.2.2.2.2.2.2.2.2.2.2.1 (zr_int (c := 10) hk)
      refine zq_tabIn (off := 162) (tgt := 163) dX10_told_1 (by rw [hk]; decide) (by rw [hk]; decide) (by rw [hk]; rfl) rfl ?_
      refine zq_aload_n (k := 0) (i := 0) (x := 1) 0 rfl rfl dX10_told_163 ?_
      refine zq_getP fl_RX10_14 rfl (sh_1 hw) (rf_1_0 hw) dX10_told_164 ?_
      refine zq_getP fl_RX10_199 rfl (sh_2 hw) (rf_2_2 hw) dX10_told_167 ?_
      refine zq_getI fl_RX10_203 rfl (sh_5 hw) dX10_told_170 ?_
      refine zq_i2l dX10_told_173 ?_
      exact zq_lret dX10_told_174 rfl H
    · have H := H.2.2.2.2.2.2.2.2.2.2.2.1 (zr_int (c := 11) hk)
      refine zq_tabIn (off := 174) (tgt := 175) dX10_told_1 (by rw [hk]; decide) (by rw [hk]; decide) (by rw [hk]; rfl) rfl ?_
      refine zq_aload_n (k := 0) (i := 0) (x := 1) 0 rfl rfl dX10_told_175 ?_
      refine zq_getP fl_RX10_14 rfl (sh_1 hw) (rf_1_0 hw) dX10_told_176 ?_
      refine zq_getP fl_RX10_93 rfl (sh_2 hw) (rf_2_0 hw) dX10_told_179 ?_
      refine zq_invS (as := [.ref 3]) (st := []) st_X2_twos mo_X2_twos ml_RX10_208 rfl (Nat.le_of_ble_eq_true rfl) dX10_told_182 rfl H (fun r1 h1 hq => ?_)
      obtain ⟨x4, rfl, rfl, H⟩ := hq
      show zQ none m_X10_told (d + 1) 185 [(0, .ref 1), (1, .int i1)] (.int x4 :: []) h Q
      refine zq_i2l dX10_told_185 ?_
      exact zq_lret dX10_told_186 rfl H
    · have H := H.2.2.2.2.2.2.2.2.2.2.2.2.1 (zr_int (c := 12) hk)
      refine zq_tabIn (off := 186) (tgt := 187) dX10_told_1 (by rw [hk]; decide) (by rw [hk]; decide) (by rw [hk]; rfl) rfl ?_
      refine zq_aload_n (k := 0) (i := 0) (x := 1) 0 rfl rfl dX10_told_187 ?_
      refine zq_getP fl_RX10_63 rfl (sh_1 hw) (rf_1_8 hw) dX10_told_188 ?_
      refine zq_getI fl_RX10_211 rfl (sh_37 hw) dX10_told_191 ?_
      refine zq_i2l dX10_told_194 ?_
      exact zq_lret dX10_told_195 rfl H
    · have H := H.2.2.2.2.2.2.2.2.2.2.2.2.2 (zr_int (c := 13) hk)
      refine zq_tabIn (off := 195) (tgt := 196) dX10_told_1 (by rw [hk]; decide) (by rw [hk]; decide) (by rw [hk]; rfl) rfl ?_
      refine zq_aload_n (k := 0) (i := 0) (x := 1) 0 rfl rfl dX10_told_196 ?_
      refine zq_getP fl_RX10_14 rfl (sh_1 hw) (rf_1_0 hw) dX10_told_197 ?_
      refine zq_getP fl_RX10_93 rfl (sh_2 hw) (rf_2_0 hw) dX10_told_200 ?_
      refine zq_invS (as := [.ref 3]) (st := []) st_X2_fours mo_X2_fours ml_RX10_214 rfl (Nat.le_of_ble_eq_true rfl) dX10_told_203 rfl H (fun r1 h1 hq => ?_)
      obtain ⟨x5, rfl, rfl, H⟩ := hq
      show zQ none m_X10_told (d + 1) 206 [(0, .ref 1), (1, .int i1)] (.int x5 :: []) h Q
      refine zq_i2l dX10_told_206 ?_
      exact zq_lret dX10_told_207 rfl H
set_option maxHeartbeats 2000000 in
set_option maxRecDepth 20000 in
theorem r_X10_truss_0 {d : Nat} {h : AH} {Q : Option Value → AH → Prop} (i1 : Int32) (hw : zWF h)  (H : zK d m_X6_follow [.ref 12, .ref 3] h (kV fun h1 => zK d m_X6_edgesFrom [.ref 12, .int i1] h1 (pI h1 fun x2 => Q (some (.int x2)) h1))) : zK (d + 1) m_X10_truss [.ref 1, .int i1] h Q := by
  refine zK_of mo_X10_truss (Nat.le_of_ble_eq_true rfl) ?_
  show zQ none m_X10_truss (d + 1) 0 [(0, .ref 1), (1, .int i1)] [] h Q
  refine zq_aload_n (k := 0) (i := 0) (x := 1) 0 rfl rfl dX10_truss_0 ?_
  refine zq_getP fl_RX10_28 rfl (sh_1 hw) (rf_1_3 hw) dX10_truss_1 ?_
  refine zq_aload_n (k := 0) (i := 0) (x := 1) 0 rfl rfl dX10_truss_4 ?_
  refine zq_getP fl_RX10_14 rfl (sh_1 hw) (rf_1_0 hw) dX10_truss_5 ?_
  refine zq_getP fl_RX10_93 rfl (sh_2 hw) (rf_2_0 hw) dX10_truss_8 ?_
  refine zq_invV (as := [.ref 3]) (st := []) (o := 12) (c := 5) (by decide) rfl (sh_12 hw) in_X6_follow se_X6_follow mo_X6_follow ml_RX10_156 rfl (Nat.le_of_ble_eq_true rfl) dX10_truss_11 rfl H (fun r1 h1 hq => ?_)
  obtain ⟨rfl, wh1, H⟩ := hq
  show zQ none m_X10_truss (d + 1) 14 [(0, .ref 1), (1, .int i1)] ([]) h1 Q
  refine zq_aload_n (k := 0) (i := 0) (x := 1) 0 rfl rfl dX10_truss_14 ?_
  refine zq_getP fl_RX10_28 rfl (sh_1 wh1) (rf_1_3 wh1) dX10_truss_15 ?_
  refine zq_iload_n (k := 1) (i := 1) (x := i1) 1 rfl rfl dX10_truss_18 ?_
  refine zq_invV (as := [.int i1]) (st := []) (o := 12) (c := 5) (by decide) rfl (sh_12 wh1) in_X6_edgesFrom se_X6_edgesFrom mo_X6_edgesFrom ml_RX10_217 rfl (Nat.le_of_ble_eq_true rfl) dX10_truss_19 rfl H (fun r1 h1 hq => ?_)
  obtain ⟨x2, rfl, rfl, H⟩ := hq
  show zQ none m_X10_truss (d + 1) 22 [(0, .ref 1), (1, .int i1)] (.int x2 :: []) h1 Q
  exact zq_iret dX10_truss_22 rfl rfl rfl H
set_option maxHeartbeats 2000000 in
set_option maxRecDepth 20000 in
theorem r_X10_hood_0 {d : Nat} {h : AH} {Q : Option Value → AH → Prop} (i1 : Int32) (i2 : Int32) (i3 : Int32) (hw : zWF h)  (H : zK d m_X10_isTwo [.int i1, .int i2] h (pI h fun x1 => (x1 ≠ 0 → zK d m_X3_joins [.ref 2, .int i1, .int i2] h (pI h fun x3 => (x3 ≠ 0 → zK d m_X6_follow [.ref 12, .ref 3] h (kV fun h5 => zK d m_X10_pairOf [.int i1, .int i2] h5 (pI h5 fun x6 => zK d m_X6_hoodOf [.ref 12, .int x6, .int i3] h5 (kI fun x8 h7 => Q (some (.int x8)) h7)))) ∧ (x3 = 0 → Q (some (.int (-3))) h))) ∧ (x1 = 0 → Q (some (.int (-1))) h))) : zK (d + 1) m_X10_hood [.ref 1, .int i1, .int i2, .int i3] h Q := by
  refine zK_of mo_X10_hood (Nat.le_of_ble_eq_true rfl) ?_
  show zQ none m_X10_hood (d + 1) 0 [(0, .ref 1), (1, .int i1), (2, .int i2), (3, .int i3)] [] h Q
  refine zq_iload_n (k := 1) (i := 1) (x := i1) 1 rfl rfl dX10_hood_0 ?_
  refine zq_iload_n (k := 2) (i := 2) (x := i2) 2 rfl rfl dX10_hood_1 ?_
  refine zq_invS (as := [.int i1, .int i2]) (st := []) st_X10_isTwo mo_X10_isTwo ml_RX10_80 rfl (Nat.le_of_ble_eq_true rfl) dX10_hood_2 rfl H (fun r1 h1 hq => ?_)
  obtain ⟨x1, rfl, rfl, H⟩ := hq
  show zQ none m_X10_hood (d + 1) 5 [(0, .ref 1), (1, .int i1), (2, .int i2), (3, .int i3)] (.int x1 :: []) h Q
  refine zq_if_ne (tgt := 10) dX10_hood_5 rfl ⟨fun c2 => ?_, fun c2 => ?_⟩
  · have H := H.1 c2
    refine zq_aload_n (k := 0) (i := 0) (x := 1) 0 rfl rfl dX10_hood_10 ?_
    refine zq_getP fl_RX10_14 rfl (sh_1 hw) (rf_1_0 hw) dX10_hood_11 ?_
    refine zq_iload_n (k := 1) (i := 1) (x := i1) 1 rfl rfl dX10_hood_14 ?_
    refine zq_iload_n (k := 2) (i := 2) (x := i2) 2 rfl rfl dX10_hood_15 ?_
    refine zq_invV (as := [.int i1, .int i2]) (st := []) (o := 2) (c := 2) (by decide) rfl (sh_2 hw) in_X3_joins se_X3_joins mo_X3_joins ml_RX10_86 rfl (Nat.le_of_ble_eq_true rfl) dX10_hood_16 rfl H (fun r1 h1 hq => ?_)
    obtain ⟨x3, rfl, rfl, H⟩ := hq
    show zQ none m_X10_hood (d + 1) 19 [(0, .ref 1), (1, .int i1), (2, .int i2), (3, .int i3)] (.int x3 :: []) h Q
    refine zq_if_ne (tgt := 25) dX10_hood_19 rfl ⟨fun c4 => ?_, fun c4 => ?_⟩
    · have H := H.1 c4
      refine zq_aload_n (k := 0) (i := 0) (x := 1) 0 rfl rfl dX10_hood_25 ?_
      refine zq_getP fl_RX10_28 rfl (sh_1 hw) (rf_1_3 hw) dX10_hood_26 ?_
      refine zq_aload_n (k := 0) (i := 0) (x := 1) 0 rfl rfl dX10_hood_29 ?_
      refine zq_getP fl_RX10_14 rfl (sh_1 hw) (rf_1_0 hw) dX10_hood_30 ?_
      refine zq_getP fl_RX10_93 rfl (sh_2 hw) (rf_2_0 hw) dX10_hood_33 ?_
      refine zq_invV (as := [.ref 3]) (st := []) (o := 12) (c := 5) (by decide) rfl (sh_12 hw) in_X6_follow se_X6_follow mo_X6_follow ml_RX10_156 rfl (Nat.le_of_ble_eq_true rfl) dX10_hood_36 rfl H (fun r1 h5 hq => ?_)
      obtain ⟨rfl, wh5, H⟩ := hq
      show zQ none m_X10_hood (d + 1) 39 [(0, .ref 1), (1, .int i1), (2, .int i2), (3, .int i3)] ([]) h5 Q
      refine zq_aload_n (k := 0) (i := 0) (x := 1) 0 rfl rfl dX10_hood_39 ?_
      refine zq_getP fl_RX10_28 rfl (sh_1 wh5) (rf_1_3 wh5) dX10_hood_40 ?_
      refine zq_iload_n (k := 1) (i := 1) (x := i1) 1 rfl rfl dX10_hood_43 ?_
      refine zq_iload_n (k := 2) (i := 2) (x := i2) 2 rfl rfl dX10_hood_44 ?_
      refine zq_invS (as := [.int i1, .int i2]) (st := .ref 12 :: []) st_X10_pairOf mo_X10_pairOf ml_RX10_112 rfl (Nat.le_of_ble_eq_true rfl) dX10_hood_45 rfl H (fun r1 h1 hq => ?_)
      obtain ⟨x6, rfl, rfl, H⟩ := hq
      show zQ none m_X10_hood (d + 1) 48 [(0, .ref 1), (1, .int i1), (2, .int i2), (3, .int i3)] (.int x6 :: .ref 12 :: []) h5 Q
      refine zq_iload_n (k := 3) (i := 3) (x := i3) 3 rfl rfl dX10_hood_48 ?_
      refine zq_invV (as := [.int x6, .int i3]) (st := []) (o := 12) (c := 5) (by decide) rfl (sh_12 wh5) in_X6_hoodOf se_X6_hoodOf mo_X6_hoodOf ml_RX10_224 rfl (Nat.le_of_ble_eq_true rfl) dX10_hood_49 rfl H (fun r1 h7 hq => ?_)
      obtain ⟨x8, rfl, wh7, H⟩ := hq
      show zQ none m_X10_hood (d + 1) 52 [(0, .ref 1), (1, .int i1), (2, .int i2), (3, .int i3)] (.int x8 :: []) h7 Q
      exact zq_iret dX10_hood_52 rfl rfl rfl H
    · have H := H.2 c4
      refine zq_bipush (v := (-3)) rfl dX10_hood_22 ?_
      exact zq_iret dX10_hood_24 rfl rfl rfl H
  · have H := H.2 c2
    refine zq_iconst (v := (-1)) rfl dX10_hood_8 ?_
    exact zq_iret dX10_hood_9 rfl rfl rfl H
set_option maxHeartbeats 2000000 in
set_option maxRecDepth 20000 in
theorem r_X10_hoods_0 {d : Nat} {h : AH} {Q : Option Value → AH → Prop} (i1 : Int32) (hw : zWF h)  (H : zK d m_X6_follow [.ref 12, .ref 3] h (kV fun h1 => zK d m_X6_hoodsFrom [.ref 12, .int i1] h1 (kI fun x3 h2 => Q (some (.int x3)) h2))) : zK (d + 1) m_X10_hoods [.ref 1, .int i1] h Q := by
  refine zK_of mo_X10_hoods (Nat.le_of_ble_eq_true rfl) ?_
  show zQ none m_X10_hoods (d + 1) 0 [(0, .ref 1), (1, .int i1)] [] h Q
  refine zq_aload_n (k := 0) (i := 0) (x := 1) 0 rfl rfl dX10_hoods_0 ?_
  refine zq_getP fl_RX10_28 rfl (sh_1 hw) (rf_1_3 hw) dX10_hoods_1 ?_
  refine zq_aload_n (k := 0) (i := 0) (x := 1) 0 rfl rfl dX10_hoods_4 ?_
  refine zq_getP fl_RX10_14 rfl (sh_1 hw) (rf_1_0 hw) dX10_hoods_5 ?_
  refine zq_getP fl_RX10_93 rfl (sh_2 hw) (rf_2_0 hw) dX10_hoods_8 ?_
  refine zq_invV (as := [.ref 3]) (st := []) (o := 12) (c := 5) (by decide) rfl (sh_12 hw) in_X6_follow se_X6_follow mo_X6_follow ml_RX10_156 rfl (Nat.le_of_ble_eq_true rfl) dX10_hoods_11 rfl H (fun r1 h1 hq => ?_)
  obtain ⟨rfl, wh1, H⟩ := hq
  show zQ none m_X10_hoods (d + 1) 14 [(0, .ref 1), (1, .int i1)] ([]) h1 Q
  refine zq_aload_n (k := 0) (i := 0) (x := 1) 0 rfl rfl dX10_hoods_14 ?_
  refine zq_getP fl_RX10_28 rfl (sh_1 wh1) (rf_1_3 wh1) dX10_hoods_15 ?_
  refine zq_iload_n (k := 1) (i := 1) (x := i1) 1 rfl rfl dX10_hoods_18 ?_
  refine zq_invV (as := [.int i1]) (st := []) (o := 12) (c := 5) (by decide) rfl (sh_12 wh1) in_X6_hoodsFrom se_X6_hoodsFrom mo_X6_hoodsFrom ml_RX10_227 rfl (Nat.le_of_ble_eq_true rfl) dX10_hoods_19 rfl H (fun r1 h2 hq => ?_)
  obtain ⟨x3, rfl, wh2, H⟩ := hq
  show zQ none m_X10_hoods (d + 1) 22 [(0, .ref 1), (1, .int i1)] (.int x3 :: []) h2 Q
  exact zq_iret dX10_hoods_22 rfl rfl rfl H
set_option maxHeartbeats 2000000 in
set_option maxRecDepth 20000 in
theorem r_X10_broken_0 {d : Nat} {h : AH} {Q : Option Value → AH → Prop} (i1 : Int32) (hw : zWF h)  (H : (i1 < 0 → Q (some (.int (-1))) h) ∧ (¬ i1 < 0 → (i1 ≤ (nI 2) → zK d m_X1_breakAll [.ref 21, .ref 3] h (kV fun h3 => (i1 ≠ 0 → ((h3.I 21 1) ≠ 0 → (i1 ≠ (nI 1) → Q (some (.int ((h3.I 21 2) - (h3.I 21 2) / (nI 40) * (nI 40)))) h3) ∧ (i1 = (nI 1) → Q (some (.int ((h3.I 21 2) / (nI 40)))) h3)) ∧ ((h3.I 21 1) = 0 → Q (some (.int (-5))) h3)) ∧ (i1 = 0 → Q (some (.int (h3.I 21 1))) h3))) ∧ (¬ i1 ≤ (nI 2) → Q (some (.int (-1))) h))) : zK (d + 1) m_X10_broken [.ref 1, .int i1] h Q := by
  refine zK_of mo_X10_broken (Nat.le_of_ble_eq_true rfl) ?_
  show zQ none m_X10_broken (d + 1) 0 [(0, .ref 1), (1, .int i1)] [] h Q
  refine zq_iload_n (k := 1) (i := 1) (x := i1) 1 rfl rfl dX10_broken_0 ?_
  refine zq_if_lt (tgt := 9) dX10_broken_1 rfl ⟨fun c1 => ?_, fun c1 => ?_⟩
  · have H := H.1 c1
    refine zq_iconst (v := (-1)) rfl dX10_broken_9 ?_
    exact zq_iret dX10_broken_10 rfl rfl rfl H
  · have H := H.2 c1
    refine zq_iload_n (k := 1) (i := 1) (x := i1) 1 rfl rfl dX10_broken_4 ?_
    refine zq_iconst (v := (nI 2)) rfl dX10_broken_5 ?_
    refine zq_icmp_le (tgt := 11) dX10_broken_6 rfl ⟨fun c2 => ?_, fun c2 => ?_⟩
    · have H := H.1 c2
      refine zq_aload_n (k := 0) (i := 0) (x := 1) 0 rfl rfl dX10_broken_11 ?_
      refine zq_getP fl_RX10_35 rfl (sh_1 hw) (rf_1_4 hw) dX10_broken_12 ?_
      refine zq_aload_n (k := 0) (i := 0) (x := 1) 0 rfl rfl dX10_broken_15 ?_
      refine zq_getP fl_RX10_14 rfl (sh_1 hw) (rf_1_0 hw) dX10_broken_16 ?_
      refine zq_getP fl_RX10_93 rfl (sh_2 hw) (rf_2_0 hw) dX10_broken_19 ?_
      refine zq_invV (as := [.ref 3]) (st := []) (o := 21) (c := 1) (by decide) rfl (sh_21 hw) in_X1_breakAll se_X1_breakAll mo_X1_breakAll ml_RX10_260 rfl (Nat.le_of_ble_eq_true rfl) dX10_broken_22 rfl H (fun r1 h3 hq => ?_)
      obtain ⟨rfl, wh3, H⟩ := hq
      show zQ none m_X10_broken (d + 1) 25 [(0, .ref 1), (1, .int i1)] ([]) h3 Q
      refine zq_iload_n (k := 1) (i := 1) (x := i1) 1 rfl rfl dX10_broken_25 ?_
      refine zq_if_ne (tgt := 37) dX10_broken_26 rfl ⟨fun c4 => ?_, fun c4 => ?_⟩
      · have H := H.1 c4
        refine zq_aload_n (k := 0) (i := 0) (x := 1) 0 rfl rfl dX10_broken_37 ?_
        refine zq_getP fl_RX10_35 rfl (sh_1 wh3) (rf_1_4 wh3) dX10_broken_38 ?_
        refine zq_getI fl_RX10_263 rfl (sh_21 wh3) dX10_broken_41 ?_
        refine zq_if_ne (tgt := 50) dX10_broken_44 rfl ⟨fun c5 => ?_, fun c5 => ?_⟩
        · have H := H.1 c5
          refine zq_iload_n (k := 1) (i := 1) (x := i1) 1 rfl rfl dX10_broken_50 ?_
          refine zq_iconst (v := (nI 1)) rfl dX10_broken_51 ?_
          refine zq_icmp_ne (tgt := 68) dX10_broken_52 rfl ⟨fun c6 => ?_, fun c6 => ?_⟩
          · have H := H.1 c6
            refine zq_aload_n (k := 0) (i := 0) (x := 1) 0 rfl rfl dX10_broken_68 ?_
            refine zq_getP fl_RX10_35 rfl (sh_1 wh3) (rf_1_4 wh3) dX10_broken_69 ?_
            refine zq_getI fl_RX10_266 rfl (sh_21 wh3) dX10_broken_72 ?_
            refine zq_bipush (v := (nI 40)) rfl dX10_broken_75 ?_
            refine zq_irem (by decide) dX10_broken_77 ?_
            exact zq_iret dX10_broken_78 rfl rfl rfl H
          · have H := H.2 c6
            refine zq_aload_n (k := 0) (i := 0) (x := 1) 0 rfl rfl dX10_broken_55 ?_
            refine zq_getP fl_RX10_35 rfl (sh_1 wh3) (rf_1_4 wh3) dX10_broken_56 ?_
            refine zq_getI fl_RX10_266 rfl (sh_21 wh3) dX10_broken_59 ?_
            refine zq_bipush (v := (nI 40)) rfl dX10_broken_62 ?_
            refine zq_idiv (by decide) dX10_broken_64 ?_
            refine zq_goto (tgt := 78) dX10_broken_65 rfl ?_
            exact zq_iret dX10_broken_78 rfl rfl rfl H
        · have H := H.2 c5
          refine zq_bipush (v := (-5)) rfl dX10_broken_47 ?_
          exact zq_iret dX10_broken_49 rfl rfl rfl H
      · have H := H.2 c4
        refine zq_aload_n (k := 0) (i := 0) (x := 1) 0 rfl rfl dX10_broken_29 ?_
        refine zq_getP fl_RX10_35 rfl (sh_1 wh3) (rf_1_4 wh3) dX10_broken_30 ?_
        refine zq_getI fl_RX10_263 rfl (sh_21 wh3) dX10_broken_33 ?_
        exact zq_iret dX10_broken_36 rfl rfl rfl H
    · have H := H.2 c2
      refine zq_iconst (v := (-1)) rfl dX10_broken_9 ?_
      exact zq_iret dX10_broken_10 rfl rfl rfl H
set_option maxHeartbeats 2000000 in
set_option maxRecDepth 20000 in
theorem r_X10_fewest_0 {d : Nat} {h : AH} {Q : Option Value → AH → Prop}  (hw : zWF h)  (H : zK d m_X1_fewestOf [.ref 21, .ref 3] h (kI fun x2 h1 => Q (some (.int x2)) h1)) : zK (d + 1) m_X10_fewest [.ref 1] h Q := by
  refine zK_of mo_X10_fewest (Nat.le_of_ble_eq_true rfl) ?_
  show zQ none m_X10_fewest (d + 1) 0 [(0, .ref 1)] [] h Q
  refine zq_aload_n (k := 0) (i := 0) (x := 1) 0 rfl rfl dX10_fewest_0 ?_
  refine zq_getP fl_RX10_35 rfl (sh_1 hw) (rf_1_4 hw) dX10_fewest_1 ?_
  refine zq_aload_n (k := 0) (i := 0) (x := 1) 0 rfl rfl dX10_fewest_4 ?_
  refine zq_getP fl_RX10_14 rfl (sh_1 hw) (rf_1_0 hw) dX10_fewest_5 ?_
  refine zq_getP fl_RX10_93 rfl (sh_2 hw) (rf_2_0 hw) dX10_fewest_8 ?_
  refine zq_invV (as := [.ref 3]) (st := []) (o := 21) (c := 1) (by decide) rfl (sh_21 hw) in_X1_fewestOf se_X1_fewestOf mo_X1_fewestOf ml_RX10_269 rfl (Nat.le_of_ble_eq_true rfl) dX10_fewest_11 rfl H (fun r1 h1 hq => ?_)
  obtain ⟨x2, rfl, wh1, H⟩ := hq
  show zQ none m_X10_fewest (d + 1) 14 [(0, .ref 1)] (.int x2 :: []) h1 Q
  exact zq_iret dX10_fewest_14 rfl rfl rfl H
set_option maxHeartbeats 2000000 in
set_option maxRecDepth 20000 in
theorem r_X10_spell_0 {d : Nat} {h : AH} {Q : Option Value → AH → Prop}  (hw : zWF h)  (H : ∀ h1, h1 = h.sI 37 1 (nI 0) → zQ none m_X10_spell (d + 1) 10 [(0, .ref 1), (1, .int (nI 0))] [] h1 Q) : zK (d + 1) m_X10_spell [.ref 1] h Q := by
  refine zK_of mo_X10_spell (Nat.le_of_ble_eq_true rfl) ?_
  show zQ none m_X10_spell (d + 1) 0 [(0, .ref 1)] [] h Q
  refine zq_aload_n (k := 0) (i := 0) (x := 1) 0 rfl rfl dX10_spell_0 ?_
  refine zq_getP fl_RX10_63 rfl (sh_1 hw) (rf_1_8 hw) dX10_spell_1 ?_
  refine zq_iconst (v := (nI 0)) rfl dX10_spell_4 ?_
  refine zq_putI fl_RX10_211 rfl (Or.inl rfl) (sh_37 hw) rfl rfl dX10_spell_5 (fun h1 eh1 => ?_)
  have H := H h1 eh1
  have wh1 := wf_I eh1 hw
  refine zq_iconst (v := (nI 0)) rfl dX10_spell_8 ?_
  refine zq_istore_n (ls' := [(1, .int (nI 0)), (0, .ref 1)]) (k := 1) (i := 1) rfl (Nat.le_of_ble_eq_true rfl) rfl dX10_spell_9 ?_
  exact zq_sub (ls' := [(0, .ref 1), (1, .int (nI 0))]) [1, 0] rfl H
set_option maxHeartbeats 2000000 in
set_option maxRecDepth 20000 in
theorem r_X10_spell_10 {d : Nat} {h : AH} {Q : Option Value → AH → Prop} (i1 : Int32) (hw : zWF h)  (H : ((nI 40) ≤ i1 → Q (some (.int (h.I 37 1))) h) ∧ (¬ (nI 40) ≤ i1 → zQ none m_X10_spell (d + 1) 20 [(0, .ref 1), (1, .int i1), (2, .int (i1 + (nI 1)))] [] h Q)) : zQ none m_X10_spell (d + 1) 10 [(0, .ref 1), (1, .int i1)] [] h Q := by
  refine zq_iload_n (k := 1) (i := 1) (x := i1) 1 rfl rfl dX10_spell_10 ?_
  refine zq_bipush (v := (nI 40)) rfl dX10_spell_11 ?_
  refine zq_icmp_ge (tgt := 72) dX10_spell_13 rfl ⟨fun c1 => ?_, fun c1 => ?_⟩
  · have H := H.1 c1
    refine zq_aload_n (k := 0) (i := 0) (x := 1) 0 rfl rfl dX10_spell_72 ?_
    refine zq_getP fl_RX10_63 rfl (sh_1 hw) (rf_1_8 hw) dX10_spell_73 ?_
    refine zq_getI fl_RX10_211 rfl (sh_37 hw) dX10_spell_76 ?_
    exact zq_iret dX10_spell_79 rfl rfl rfl H
  · have H := H.2 c1
    refine zq_iload_n (k := 1) (i := 1) (x := i1) 1 rfl rfl dX10_spell_16 ?_
    refine zq_iconst (v := (nI 1)) rfl dX10_spell_17 ?_
    refine zq_iadd dX10_spell_18 ?_
    refine zq_istore_n (ls' := [(2, .int (i1 + (nI 1))), (0, .ref 1), (1, .int i1)]) (k := 2) (i := 2) rfl (Nat.le_of_ble_eq_true rfl) rfl dX10_spell_19 ?_
    exact zq_sub (ls' := [(0, .ref 1), (1, .int i1), (2, .int (i1 + (nI 1)))]) [1, 2, 0] rfl H
set_option maxHeartbeats 2000000 in
set_option maxRecDepth 20000 in
theorem r_X10_spell_20 {d : Nat} {h : AH} {Q : Option Value → AH → Prop} (i1 : Int32) (i2 : Int32) (hw : zWF h)  (H : ((nI 40) ≤ i2 → zQ none m_X10_spell (d + 1) 10 [(0, .ref 1), (1, .int (i1 + (nI 1)))] [] h Q) ∧ (¬ (nI 40) ≤ i2 → zK d m_X3_joins [.ref 2, .int i1, .int i2] h (pI h fun x2 => (x2 = 0 → zQ none m_X10_spell (d + 1) 20 [(0, .ref 1), (1, .int i1), (2, .int (i2 + (nI 1)))] [] h Q) ∧ (¬ x2 = 0 → zK d m_X10_pairOf [.int i1, .int i2] h (pI h fun x4 => vp_in x4 1600 ∧ (zK d m_X4_writeEdge [.ref 37, .int i1, .int i2, .int (h.I 4 x4.toNatClampNeg)] h (kV fun h6 => zQ none m_X10_spell (d + 1) 20 [(0, .ref 1), (1, .int i1), (2, .int (i2 + (nI 1)))] [] h6 Q))))))) : zQ none m_X10_spell (d + 1) 20 [(0, .ref 1), (1, .int i1), (2, .int i2)] [] h Q := by
  refine zq_iload_n (k := 2) (i := 2) (x := i2) 2 rfl rfl dX10_spell_20 ?_
  refine zq_bipush (v := (nI 40)) rfl dX10_spell_21 ?_
  refine zq_icmp_ge (tgt := 66) dX10_spell_23 rfl ⟨fun c1 => ?_, fun c1 => ?_⟩
  · have H := H.1 c1
    refine zq_iinc (i := 1) (x := i1) (v := (nI 1)) (ls' := [(1, .int (i1 + (nI 1))), (0, .ref 1), (2, .int i2)]) 1 rfl rfl (Nat.le_of_ble_eq_true rfl) rfl dX10_spell_66 ?_
    refine zq_goto (tgt := 10) dX10_spell_69 rfl ?_
    exact zq_sub (ls' := [(0, .ref 1), (1, .int (i1 + (nI 1)))]) [1, 0] rfl H
  · have H := H.2 c1
    refine zq_aload_n (k := 0) (i := 0) (x := 1) 0 rfl rfl dX10_spell_26 ?_
    refine zq_getP fl_RX10_14 rfl (sh_1 hw) (rf_1_0 hw) dX10_spell_27 ?_
    refine zq_iload_n (k := 1) (i := 1) (x := i1) 1 rfl rfl dX10_spell_30 ?_
    refine zq_iload_n (k := 2) (i := 2) (x := i2) 2 rfl rfl dX10_spell_31 ?_
    refine zq_invV (as := [.int i1, .int i2]) (st := []) (o := 2) (c := 2) (by decide) rfl (sh_2 hw) in_X3_joins se_X3_joins mo_X3_joins ml_RX10_86 rfl (Nat.le_of_ble_eq_true rfl) dX10_spell_32 rfl H (fun r1 h1 hq => ?_)
    obtain ⟨x2, rfl, rfl, H⟩ := hq
    show zQ none m_X10_spell (d + 1) 35 [(0, .ref 1), (1, .int i1), (2, .int i2)] (.int x2 :: []) h Q
    refine zq_if_eq (tgt := 60) dX10_spell_35 rfl ⟨fun c3 => ?_, fun c3 => ?_⟩
    · have H := H.1 c3
      refine zq_iinc (i := 2) (x := i2) (v := (nI 1)) (ls' := [(2, .int (i2 + (nI 1))), (0, .ref 1), (1, .int i1)]) 2 rfl rfl (Nat.le_of_ble_eq_true rfl) rfl dX10_spell_60 ?_
      refine zq_goto (tgt := 20) dX10_spell_63 rfl ?_
      exact zq_sub (ls' := [(0, .ref 1), (1, .int i1), (2, .int (i2 + (nI 1)))]) [1, 2, 0] rfl H
    · have H := H.2 c3
      refine zq_aload_n (k := 0) (i := 0) (x := 1) 0 rfl rfl dX10_spell_38 ?_
      refine zq_getP fl_RX10_63 rfl (sh_1 hw) (rf_1_8 hw) dX10_spell_39 ?_
      refine zq_iload_n (k := 1) (i := 1) (x := i1) 1 rfl rfl dX10_spell_42 ?_
      refine zq_iload_n (k := 2) (i := 2) (x := i2) 2 rfl rfl dX10_spell_43 ?_
      refine zq_aload_n (k := 0) (i := 0) (x := 1) 0 rfl rfl dX10_spell_44 ?_
      refine zq_getP fl_RX10_14 rfl (sh_1 hw) (rf_1_0 hw) dX10_spell_45 ?_
      refine zq_getP fl_RX10_109 rfl (sh_2 hw) (rf_2_1 hw) dX10_spell_48 ?_
      refine zq_iload_n (k := 1) (i := 1) (x := i1) 1 rfl rfl dX10_spell_51 ?_
      refine zq_iload_n (k := 2) (i := 2) (x := i2) 2 rfl rfl dX10_spell_52 ?_
      refine zq_invS (as := [.int i1, .int i2]) (st := .ref 4 :: .int i2 :: .int i1 :: .ref 37 :: []) st_X10_pairOf mo_X10_pairOf ml_RX10_112 rfl (Nat.le_of_ble_eq_true rfl) dX10_spell_53 rfl H (fun r1 h1 hq => ?_)
      obtain ⟨x4, rfl, rfl, H⟩ := hq
      show zQ none m_X10_spell (d + 1) 56 [(0, .ref 1), (1, .int i1), (2, .int i2)] (.int x4 :: .ref 4 :: .int i2 :: .int i1 :: .ref 37 :: []) h Q
      obtain ⟨b5, H⟩ := H
      refine zq_iald (sh_4 hw) b5 dX10_spell_56 ?_
      refine zq_invV (as := [.int i1, .int i2, .int (h.I 4 x4.toNatClampNeg)]) (st := []) (o := 37) (c := 3) (by decide) rfl (sh_37 hw) in_X4_writeEdge se_X4_writeEdge mo_X4_writeEdge ml_RX10_300 rfl (Nat.le_of_ble_eq_true rfl) dX10_spell_57 rfl H (fun r1 h6 hq => ?_)
      obtain ⟨rfl, wh6, H⟩ := hq
      show zQ none m_X10_spell (d + 1) 60 [(0, .ref 1), (1, .int i1), (2, .int i2)] ([]) h6 Q
      refine zq_iinc (i := 2) (x := i2) (v := (nI 1)) (ls' := [(2, .int (i2 + (nI 1))), (0, .ref 1), (1, .int i1)]) 2 rfl rfl (Nat.le_of_ble_eq_true rfl) rfl dX10_spell_60 ?_
      refine zq_goto (tgt := 20) dX10_spell_63 rfl ?_
      exact zq_sub (ls' := [(0, .ref 1), (1, .int i1), (2, .int (i2 + (nI 1)))]) [1, 2, 0] rfl H
set_option maxHeartbeats 2000000 in
set_option maxRecDepth 20000 in
theorem r_X10_back_0 {d : Nat} {h : AH} {Q : Option Value → AH → Prop} (i1 : Int32) (hw : zWF h)  (H : (i1 < 0 → Q (some (.int (-2))) h) ∧ (¬ i1 < 0 → (i1 ≤ (nI 60) → zK d m_X3_takeBack [.ref 2, .int i1] h (kI fun x4 h3 => Q (some (.int x4)) h3)) ∧ (¬ i1 ≤ (nI 60) → Q (some (.int (-2))) h))) : zK (d + 1) m_X10_back [.ref 1, .int i1] h Q := by
  refine zK_of mo_X10_back (Nat.le_of_ble_eq_true rfl) ?_
  show zQ none m_X10_back (d + 1) 0 [(0, .ref 1), (1, .int i1)] [] h Q
  refine zq_iload_n (k := 1) (i := 1) (x := i1) 1 rfl rfl dX10_back_0 ?_
  refine zq_if_lt (tgt := 10) dX10_back_1 rfl ⟨fun c1 => ?_, fun c1 => ?_⟩
  · have H := H.1 c1
    refine zq_bipush (v := (-2)) rfl dX10_back_10 ?_
    exact zq_iret dX10_back_12 rfl rfl rfl H
  · have H := H.2 c1
    refine zq_iload_n (k := 1) (i := 1) (x := i1) 1 rfl rfl dX10_back_4 ?_
    refine zq_bipush (v := (nI 60)) rfl dX10_back_5 ?_
    refine zq_icmp_le (tgt := 13) dX10_back_7 rfl ⟨fun c2 => ?_, fun c2 => ?_⟩
    · have H := H.1 c2
      refine zq_aload_n (k := 0) (i := 0) (x := 1) 0 rfl rfl dX10_back_13 ?_
      refine zq_getP fl_RX10_14 rfl (sh_1 hw) (rf_1_0 hw) dX10_back_14 ?_
      refine zq_iload_n (k := 1) (i := 1) (x := i1) 1 rfl rfl dX10_back_17 ?_
      refine zq_invV (as := [.int i1]) (st := []) (o := 2) (c := 2) (by decide) rfl (sh_2 hw) in_X3_takeBack se_X3_takeBack mo_X3_takeBack ml_RX10_307 rfl (Nat.le_of_ble_eq_true rfl) dX10_back_18 rfl H (fun r1 h3 hq => ?_)
      obtain ⟨x4, rfl, wh3, H⟩ := hq
      show zQ none m_X10_back (d + 1) 21 [(0, .ref 1), (1, .int i1)] (.int x4 :: []) h3 Q
      exact zq_iret dX10_back_21 rfl rfl rfl H
    · have H := H.2 c2
      refine zq_bipush (v := (-2)) rfl dX10_back_10 ?_
      exact zq_iret dX10_back_12 rfl rfl rfl H
set_option maxHeartbeats 2000000 in
set_option maxRecDepth 20000 in
theorem r_X10_image_0 {d : Nat} {h : AH} {Q : Option Value → AH → Prop}  (hw : zWF h)  (H : zK d m_X3_become [.ref 7, .ref 2] h (kV fun h1 => ∀ h2, h2 = h1.sI 1 2 (nI 1) → Q (some (.int (h2.I 2 3))) h2)) : zK (d + 1) m_X10_image [.ref 1] h Q := by
  refine zK_of mo_X10_image (Nat.le_of_ble_eq_true rfl) ?_
  show zQ none m_X10_image (d + 1) 0 [(0, .ref 1)] [] h Q
  refine zq_aload_n (k := 0) (i := 0) (x := 1) 0 rfl rfl dX10_image_0 ?_
  refine zq_getP fl_RX10_18 rfl (sh_1 hw) (rf_1_1 hw) dX10_image_1 ?_
  refine zq_aload_n (k := 0) (i := 0) (x := 1) 0 rfl rfl dX10_image_4 ?_
  refine zq_getP fl_RX10_14 rfl (sh_1 hw) (rf_1_0 hw) dX10_image_5 ?_
  refine zq_invV (as := [.ref 2]) (st := []) (o := 7) (c := 2) (by decide) rfl (sh_7 hw) in_X3_become se_X3_become mo_X3_become ml_RX10_352 rfl (Nat.le_of_ble_eq_true rfl) dX10_image_8 rfl H (fun r1 h1 hq => ?_)
  obtain ⟨rfl, wh1, H⟩ := hq
  show zQ none m_X10_image (d + 1) 11 [(0, .ref 1)] ([]) h1 Q
  refine zq_aload_n (k := 0) (i := 0) (x := 1) 0 rfl rfl dX10_image_11 ?_
  refine zq_iconst (v := (nI 1)) rfl dX10_image_12 ?_
  refine zq_putI fl_RX10_21 rfl (Or.inl rfl) (sh_1 wh1) rfl rfl dX10_image_13 (fun h2 eh2 => ?_)
  have H := H h2 eh2
  have wh2 := wf_I eh2 wh1
  refine zq_aload_n (k := 0) (i := 0) (x := 1) 0 rfl rfl dX10_image_16 ?_
  refine zq_getP fl_RX10_14 rfl (sh_1 wh2) (rf_1_0 wh2) dX10_image_17 ?_
  refine zq_getI fl_RX10_173 rfl (sh_2 wh2) dX10_image_20 ?_
  exact zq_iret dX10_image_23 rfl rfl rfl H
set_option maxHeartbeats 2000000 in
set_option maxRecDepth 20000 in
theorem r_X10_undo_0 {d : Nat} {h : AH} {Q : Option Value → AH → Prop}  (hw : zWF h)  (H : ((h.I 1 2) ≠ 0 → zK d m_X3_become [.ref 2, .ref 7] h (kV fun h2 => Q (some (.int (h2.I 2 3))) h2)) ∧ ((h.I 1 2) = 0 → Q (some (.int (-3))) h)) : zK (d + 1) m_X10_undo [.ref 1] h Q := by
  refine zK_of mo_X10_undo (Nat.le_of_ble_eq_true rfl) ?_
  show zQ none m_X10_undo (d + 1) 0 [(0, .ref 1)] [] h Q
  refine zq_aload_n (k := 0) (i := 0) (x := 1) 0 rfl rfl dX10_undo_0 ?_
  refine zq_getI fl_RX10_21 rfl (sh_1 hw) dX10_undo_1 ?_
  refine zq_if_ne (tgt := 10) dX10_undo_4 rfl ⟨fun c1 => ?_, fun c1 => ?_⟩
  · have H := H.1 c1
    refine zq_aload_n (k := 0) (i := 0) (x := 1) 0 rfl rfl dX10_undo_10 ?_
    refine zq_getP fl_RX10_14 rfl (sh_1 hw) (rf_1_0 hw) dX10_undo_11 ?_
    refine zq_aload_n (k := 0) (i := 0) (x := 1) 0 rfl rfl dX10_undo_14 ?_
    refine zq_getP fl_RX10_18 rfl (sh_1 hw) (rf_1_1 hw) dX10_undo_15 ?_
    refine zq_invV (as := [.ref 7]) (st := []) (o := 2) (c := 2) (by decide) rfl (sh_2 hw) in_X3_become se_X3_become mo_X3_become ml_RX10_352 rfl (Nat.le_of_ble_eq_true rfl) dX10_undo_18 rfl H (fun r1 h2 hq => ?_)
    obtain ⟨rfl, wh2, H⟩ := hq
    show zQ none m_X10_undo (d + 1) 21 [(0, .ref 1)] ([]) h2 Q
    refine zq_aload_n (k := 0) (i := 0) (x := 1) 0 rfl rfl dX10_undo_21 ?_
    refine zq_getP fl_RX10_14 rfl (sh_1 wh2) (rf_1_0 wh2) dX10_undo_22 ?_
    refine zq_getI fl_RX10_173 rfl (sh_2 wh2) dX10_undo_25 ?_
    exact zq_iret dX10_undo_28 rfl rfl rfl H
  · have H := H.2 c1
    refine zq_bipush (v := (-3)) rfl dX10_undo_7 ?_
    exact zq_iret dX10_undo_9 rfl rfl rfl H
set_option maxHeartbeats 2000000 in
set_option maxRecDepth 20000 in
theorem r_X10_isVertex_0 {d : Nat} {h : AH} {Q : Option Value → AH → Prop} (i0 : Int32)  (H : (i0 < 0 → Q (some (.int (nI 0))) h) ∧ (¬ i0 < 0 → ((nI 40) ≤ i0 → Q (some (.int (nI 0))) h) ∧ (¬ (nI 40) ≤ i0 → Q (some (.int (nI 1))) h))) : zK (d + 1) m_X10_isVertex [.int i0] h Q := by
  refine zK_of mo_X10_isVertex (Nat.le_of_ble_eq_true rfl) ?_
  show zQ none m_X10_isVertex (d + 1) 0 [(0, .int i0)] [] h Q
  refine zq_iload_n (k := 0) (i := 0) (x := i0) 0 rfl rfl dX10_isVertex_0 ?_
  refine zq_if_lt (tgt := 14) dX10_isVertex_1 rfl ⟨fun c1 => ?_, fun c1 => ?_⟩
  · have H := H.1 c1
    refine zq_iconst (v := (nI 0)) rfl dX10_isVertex_14 ?_
    exact zq_iret dX10_isVertex_15 rfl rfl rfl H
  · have H := H.2 c1
    refine zq_iload_n (k := 0) (i := 0) (x := i0) 0 rfl rfl dX10_isVertex_4 ?_
    refine zq_bipush (v := (nI 40)) rfl dX10_isVertex_5 ?_
    refine zq_icmp_ge (tgt := 14) dX10_isVertex_7 rfl ⟨fun c2 => ?_, fun c2 => ?_⟩
    · have H := H.1 c2
      refine zq_iconst (v := (nI 0)) rfl dX10_isVertex_14 ?_
      exact zq_iret dX10_isVertex_15 rfl rfl rfl H
    · have H := H.2 c2
      refine zq_iconst (v := (nI 1)) rfl dX10_isVertex_10 ?_
      refine zq_goto (tgt := 15) dX10_isVertex_11 rfl ?_
      exact zq_iret dX10_isVertex_15 rfl rfl rfl H
set_option maxHeartbeats 2000000 in
set_option maxRecDepth 20000 in
theorem r_X10_isTwo_0 {d : Nat} {h : AH} {Q : Option Value → AH → Prop} (i0 : Int32) (i1 : Int32)  (H : zK d m_X10_isVertex [.int i0] h (pI h fun x1 => (x1 = 0 → Q (some (.int (nI 0))) h) ∧ (¬ x1 = 0 → zK d m_X10_isVertex [.int i1] h (pI h fun x3 => (x3 = 0 → Q (some (.int (nI 0))) h) ∧ (¬ x3 = 0 → (i0 = i1 → Q (some (.int (nI 0))) h) ∧ (¬ i0 = i1 → Q (some (.int (nI 1))) h)))))) : zK (d + 1) m_X10_isTwo [.int i0, .int i1] h Q := by
  refine zK_of mo_X10_isTwo (Nat.le_of_ble_eq_true rfl) ?_
  show zQ none m_X10_isTwo (d + 1) 0 [(0, .int i0), (1, .int i1)] [] h Q
  refine zq_iload_n (k := 0) (i := 0) (x := i0) 0 rfl rfl dX10_isTwo_0 ?_
  refine zq_invS (as := [.int i0]) (st := []) st_X10_isVertex mo_X10_isVertex ml_RX10_116 rfl (Nat.le_of_ble_eq_true rfl) dX10_isTwo_1 rfl H (fun r1 h1 hq => ?_)
  obtain ⟨x1, rfl, rfl, H⟩ := hq
  show zQ none m_X10_isTwo (d + 1) 4 [(0, .int i0), (1, .int i1)] (.int x1 :: []) h Q
  refine zq_if_eq (tgt := 23) dX10_isTwo_4 rfl ⟨fun c2 => ?_, fun c2 => ?_⟩
  · have H := H.1 c2
    refine zq_iconst (v := (nI 0)) rfl dX10_isTwo_23 ?_
    exact zq_iret dX10_isTwo_24 rfl rfl rfl H
  · have H := H.2 c2
    refine zq_iload_n (k := 1) (i := 1) (x := i1) 1 rfl rfl dX10_isTwo_7 ?_
    refine zq_invS (as := [.int i1]) (st := []) st_X10_isVertex mo_X10_isVertex ml_RX10_116 rfl (Nat.le_of_ble_eq_true rfl) dX10_isTwo_8 rfl H (fun r1 h1 hq => ?_)
    obtain ⟨x3, rfl, rfl, H⟩ := hq
    show zQ none m_X10_isTwo (d + 1) 11 [(0, .int i0), (1, .int i1)] (.int x3 :: []) h Q
    refine zq_if_eq (tgt := 23) dX10_isTwo_11 rfl ⟨fun c4 => ?_, fun c4 => ?_⟩
    · have H := H.1 c4
      refine zq_iconst (v := (nI 0)) rfl dX10_isTwo_23 ?_
      exact zq_iret dX10_isTwo_24 rfl rfl rfl H
    · have H := H.2 c4
      refine zq_iload_n (k := 0) (i := 0) (x := i0) 0 rfl rfl dX10_isTwo_14 ?_
      refine zq_iload_n (k := 1) (i := 1) (x := i1) 1 rfl rfl dX10_isTwo_15 ?_
      refine zq_icmp_eq (tgt := 23) dX10_isTwo_16 rfl ⟨fun c5 => ?_, fun c5 => ?_⟩
      · have H := H.1 c5
        refine zq_iconst (v := (nI 0)) rfl dX10_isTwo_23 ?_
        exact zq_iret dX10_isTwo_24 rfl rfl rfl H
      · have H := H.2 c5
        refine zq_iconst (v := (nI 1)) rfl dX10_isTwo_19 ?_
        refine zq_goto (tgt := 24) dX10_isTwo_20 rfl ?_
        exact zq_iret dX10_isTwo_24 rfl rfl rfl H
set_option maxHeartbeats 2000000 in
set_option maxRecDepth 20000 in
theorem r_X10_pairOf_0 {d : Nat} {h : AH} {Q : Option Value → AH → Prop} (i0 : Int32) (i1 : Int32)  (H : Q (some (.int (((zmmin i0 i1) * (nI 40)) + (zmmax i0 i1)))) h) : zK (d + 1) m_X10_pairOf [.int i0, .int i1] h Q := by
  refine zK_of mo_X10_pairOf (Nat.le_of_ble_eq_true rfl) ?_
  show zQ none m_X10_pairOf (d + 1) 0 [(0, .int i0), (1, .int i1)] [] h Q
  refine zq_iload_n (k := 0) (i := 0) (x := i0) 0 rfl rfl dX10_pairOf_0 ?_
  refine zq_iload_n (k := 1) (i := 1) (x := i1) 1 rfl rfl dX10_pairOf_1 ?_
  refine zq_mmin mm_RX10_347 (Nat.le_of_ble_eq_true rfl) dX10_pairOf_2 ?_
  refine zq_bipush (v := (nI 40)) rfl dX10_pairOf_5 ?_
  refine zq_imul dX10_pairOf_7 ?_
  refine zq_iload_n (k := 0) (i := 0) (x := i0) 0 rfl rfl dX10_pairOf_8 ?_
  refine zq_iload_n (k := 1) (i := 1) (x := i1) 1 rfl rfl dX10_pairOf_9 ?_
  refine zq_mmax mm_RX10_366 (Nat.le_of_ble_eq_true rfl) dX10_pairOf_10 ?_
  refine zq_iadd dX10_pairOf_13 ?_
  exact zq_iret dX10_pairOf_14 rfl rfl rfl H
set_option maxHeartbeats 2000000 in
set_option maxRecDepth 20000 in
theorem r_X10_hasBit_0 {d : Nat} {h : AH} {Q : Option Value → AH → Prop} (l0 : Int64) (i2 : Int32)  (H : ((lg_cmp ((l0.toUInt64 >>> (i2.toInt64.toUInt64 &&& Int64.toUInt64 63)).toInt64 &&& (1 : Int64)) (0 : Int64)) = 0 → Q (some (.int (nI 0))) h) ∧ (¬ (lg_cmp ((l0.toUInt64 >>> (i2.toInt64.toUInt64 &&& Int64.toUInt64 63)).toInt64 &&& (1 : Int64)) (0 : Int64)) = 0 → Q (some (.int (nI 1))) h)) : zK (d + 1) m_X10_hasBit [.long l0, .int i2] h Q := by
  refine zK_of mo_X10_hasBit (Nat.le_of_ble_eq_true rfl) ?_
  show zQ none m_X10_hasBit (d + 1) 0 [(0, .long l0), (2, .int i2)] [] h Q
  refine zq_lload_n (k := 0) (i := 0) (x := l0) 0 rfl rfl dX10_hasBit_0 ?_
  refine zq_iload_n (k := 2) (i := 2) (x := i2) 1 rfl rfl dX10_hasBit_1 ?_
  refine zq_lushr dX10_hasBit_2 ?_
  refine zq_lconst (v := 1) rfl dX10_hasBit_3 ?_
  refine zq_land dX10_hasBit_4 ?_
  refine zq_lconst (v := 0) rfl dX10_hasBit_5 ?_
  refine zq_lcmp dX10_hasBit_6 ?_
  refine zq_if_eq (tgt := 14) dX10_hasBit_7 rfl ⟨fun c1 => ?_, fun c1 => ?_⟩
  · have H := H.1 c1
    refine zq_iconst (v := (nI 0)) rfl dX10_hasBit_14 ?_
    exact zq_iret dX10_hasBit_15 rfl rfl rfl H
  · have H := H.2 c1
    refine zq_iconst (v := (nI 1)) rfl dX10_hasBit_10 ?_
    refine zq_goto (tgt := 15) dX10_hasBit_11 rfl ?_
    exact zq_iret dX10_hasBit_15 rfl rfl rfl H
set_option maxHeartbeats 2000000 in
set_option maxRecDepth 20000 in
theorem r_X10_above_0 {d : Nat} {h : AH} {Q : Option Value → AH → Prop} (i0 : Int32)  (H : Q (some (.long ((1099511627775 : Int64) &&& ((-2 : Int64) <<< (i0.toInt64 &&& 63))))) h) : zK (d + 1) m_X10_above [.int i0] h Q := by
  refine zK_of mo_X10_above (Nat.le_of_ble_eq_true rfl) ?_
  show zQ none m_X10_above (d + 1) 0 [(0, .int i0)] [] h Q
  refine zq_ldc2 (v := (1099511627775)) cl_RX10_230 dX10_above_0 ?_
  refine zq_ldc2 (v := (-2)) cl_RX10_369 dX10_above_3 ?_
  refine zq_iload_n (k := 0) (i := 0) (x := i0) 0 rfl rfl dX10_above_6 ?_
  refine zq_lshl dX10_above_7 ?_
  refine zq_land dX10_above_8 ?_
  exact zq_lret dX10_above_9 rfl H
