set_option maxHeartbeats 2000000 in
set_option maxRecDepth 20000 in
theorem r_L_cell_0 {d : Nat} {h : AH} {Q : Option Value → AH → Prop} (L : Nat) (xs : Nat → Int32) (i1 : Int32) (hw : zWF h)  (H : ((nI L) ≤ i1 → Q (some (.int ((((((nI 69069) * ((nI 0) + ((nI 1009) * i1))) + (nI 12345)) ^^^ ((((nI 69069) * ((nI 0) + ((nI 1009) * i1))) + (nI 12345)).toUInt32 >>> ((nI 13).toUInt32 &&& Int32.toUInt32 31)).toInt32) * (nI 1103515245)) ^^^ ((((((nI 69069) * ((nI 0) + ((nI 1009) * i1))) + (nI 12345)) ^^^ ((((nI 69069) * ((nI 0) + ((nI 1009) * i1))) + (nI 12345)).toUInt32 >>> ((nI 13).toUInt32 &&& Int32.toUInt32 31)).toInt32) * (nI 1103515245)).toUInt32 >>> ((nI 16).toUInt32 &&& Int32.toUInt32 31)).toInt32))) h) ∧ (¬ (nI L) ≤ i1 → vp_in i1 L ∧ (Q (some (.int ((((((nI 69069) * ((xs i1.toNatClampNeg) + ((nI 1009) * i1))) + (nI 12345)) ^^^ ((((nI 69069) * ((xs i1.toNatClampNeg) + ((nI 1009) * i1))) + (nI 12345)).toUInt32 >>> ((nI 13).toUInt32 &&& Int32.toUInt32 31)).toInt32) * (nI 1103515245)) ^^^ ((((((nI 69069) * ((xs i1.toNatClampNeg) + ((nI 1009) * i1))) + (nI 12345)) ^^^ ((((nI 69069) * ((xs i1.toNatClampNeg) + ((nI 1009) * i1))) + (nI 12345)).toUInt32 >>> ((nI 13).toUInt32 &&& Int32.toUInt32 31)).toInt32) * (nI 1103515245)).toUInt32 >>> ((nI 16).toUInt32 &&& Int32.toUInt32 31)).toInt32))) h))) : zKX (some (L, xs)) (d + 1) m_L_cell [.ref 0, .int i1] h Q := by
  refine zK_ofX mo_L_cell (Nat.le_of_ble_eq_true rfl) ?_
  show zQ (some (L, xs)) m_L_cell (d + 1) 0 [(0, .ref 0), (1, .int i1)] [] h Q
  refine zq_ldc (v := (nI 69069)) co_RL_7 dL_cell_0 ?_
  refine zq_iload_n (k := 1) (i := 1) (x := i1) 1 rfl rfl dL_cell_2 ?_
  refine zq_aload_n (k := 0) (i := 0) (x := 0) 0 rfl rfl dL_cell_3 ?_
  refine zq_slen (v := nI L) rfl dL_cell_4 ?_
  refine zq_icmp_ge (tgt := 14) dL_cell_5 rfl ⟨fun c1 => ?_, fun c1 => ?_⟩
  · have H := H.1 c1
    refine zq_iconst (v := (nI 0)) rfl dL_cell_14 ?_
    refine zq_sipush (v := (nI 1009)) rfl dL_cell_15 ?_
    refine zq_iload_n (k := 1) (i := 1) (x := i1) 1 rfl rfl dL_cell_18 ?_
    refine zq_imul dL_cell_19 ?_
    refine zq_iadd dL_cell_20 ?_
    refine zq_imul dL_cell_21 ?_
    refine zq_sipush (v := (nI 12345)) rfl dL_cell_22 ?_
    refine zq_iadd dL_cell_25 ?_
    refine zq_istore_n (ls' := [(2, .int (((nI 69069) * ((nI 0) + ((nI 1009) * i1))) + (nI 12345))), (0, .ref 0), (1, .int i1)]) (k := 2) (i := 2) rfl (Nat.le_of_ble_eq_true rfl) rfl dL_cell_26 ?_
    refine zq_iload_n (k := 2) (i := 2) (x := (((nI 69069) * ((nI 0) + ((nI 1009) * i1))) + (nI 12345))) 0 rfl rfl dL_cell_27 ?_
    refine zq_iload_n (k := 2) (i := 2) (x := (((nI 69069) * ((nI 0) + ((nI 1009) * i1))) + (nI 12345))) 0 rfl rfl dL_cell_28 ?_
    refine zq_bipush (v := (nI 13)) rfl dL_cell_29 ?_
    refine zq_iushr dL_cell_31 ?_
    refine zq_ixor dL_cell_32 ?_
    refine zq_ldc (v := (nI 1103515245)) co_RL_8 dL_cell_33 ?_
    refine zq_imul dL_cell_35 ?_
    refine zq_istore_n (ls' := [(2, .int (((((nI 69069) * ((nI 0) + ((nI 1009) * i1))) + (nI 12345)) ^^^ ((((nI 69069) * ((nI 0) + ((nI 1009) * i1))) + (nI 12345)).toUInt32 >>> ((nI 13).toUInt32 &&& Int32.toUInt32 31)).toInt32) * (nI 1103515245))), (0, .ref 0), (1, .int i1)]) (k := 2) (i := 2) rfl (Nat.le_of_ble_eq_true rfl) rfl dL_cell_36 ?_
    refine zq_iload_n (k := 2) (i := 2) (x := (((((nI 69069) * ((nI 0) + ((nI 1009) * i1))) + (nI 12345)) ^^^ ((((nI 69069) * ((nI 0) + ((nI 1009) * i1))) + (nI 12345)).toUInt32 >>> ((nI 13).toUInt32 &&& Int32.toUInt32 31)).toInt32) * (nI 1103515245))) 0 rfl rfl dL_cell_37 ?_
    refine zq_iload_n (k := 2) (i := 2) (x := (((((nI 69069) * ((nI 0) + ((nI 1009) * i1))) + (nI 12345)) ^^^ ((((nI 69069) * ((nI 0) + ((nI 1009) * i1))) + (nI 12345)).toUInt32 >>> ((nI 13).toUInt32 &&& Int32.toUInt32 31)).toInt32) * (nI 1103515245))) 0 rfl rfl dL_cell_38 ?_
    refine zq_bipush (v := (nI 16)) rfl dL_cell_39 ?_
    refine zq_iushr dL_cell_41 ?_
    refine zq_ixor dL_cell_42 ?_
    exact zq_iret dL_cell_43 rfl rfl rfl H
  · have H := H.2 c1
    refine zq_aload_n (k := 0) (i := 0) (x := 0) 0 rfl rfl dL_cell_8 ?_
    refine zq_iload_n (k := 1) (i := 1) (x := i1) 1 rfl rfl dL_cell_9 ?_
    obtain ⟨b2, H⟩ := H
    refine zq_sld b2 dL_cell_10 ?_
    refine zq_goto (tgt := 15) dL_cell_11 rfl ?_
    refine zq_sipush (v := (nI 1009)) rfl dL_cell_15 ?_
    refine zq_iload_n (k := 1) (i := 1) (x := i1) 1 rfl rfl dL_cell_18 ?_
    refine zq_imul dL_cell_19 ?_
    refine zq_iadd dL_cell_20 ?_
    refine zq_imul dL_cell_21 ?_
    refine zq_sipush (v := (nI 12345)) rfl dL_cell_22 ?_
    refine zq_iadd dL_cell_25 ?_
    refine zq_istore_n (ls' := [(2, .int (((nI 69069) * ((xs i1.toNatClampNeg) + ((nI 1009) * i1))) + (nI 12345))), (0, .ref 0), (1, .int i1)]) (k := 2) (i := 2) rfl (Nat.le_of_ble_eq_true rfl) rfl dL_cell_26 ?_
    refine zq_iload_n (k := 2) (i := 2) (x := (((nI 69069) * ((xs i1.toNatClampNeg) + ((nI 1009) * i1))) + (nI 12345))) 0 rfl rfl dL_cell_27 ?_
    refine zq_iload_n (k := 2) (i := 2) (x := (((nI 69069) * ((xs i1.toNatClampNeg) + ((nI 1009) * i1))) + (nI 12345))) 0 rfl rfl dL_cell_28 ?_
    refine zq_bipush (v := (nI 13)) rfl dL_cell_29 ?_
    refine zq_iushr dL_cell_31 ?_
    refine zq_ixor dL_cell_32 ?_
    refine zq_ldc (v := (nI 1103515245)) co_RL_8 dL_cell_33 ?_
    refine zq_imul dL_cell_35 ?_
    refine zq_istore_n (ls' := [(2, .int (((((nI 69069) * ((xs i1.toNatClampNeg) + ((nI 1009) * i1))) + (nI 12345)) ^^^ ((((nI 69069) * ((xs i1.toNatClampNeg) + ((nI 1009) * i1))) + (nI 12345)).toUInt32 >>> ((nI 13).toUInt32 &&& Int32.toUInt32 31)).toInt32) * (nI 1103515245))), (0, .ref 0), (1, .int i1)]) (k := 2) (i := 2) rfl (Nat.le_of_ble_eq_true rfl) rfl dL_cell_36 ?_
    refine zq_iload_n (k := 2) (i := 2) (x := (((((nI 69069) * ((xs i1.toNatClampNeg) + ((nI 1009) * i1))) + (nI 12345)) ^^^ ((((nI 69069) * ((xs i1.toNatClampNeg) + ((nI 1009) * i1))) + (nI 12345)).toUInt32 >>> ((nI 13).toUInt32 &&& Int32.toUInt32 31)).toInt32) * (nI 1103515245))) 0 rfl rfl dL_cell_37 ?_
    refine zq_iload_n (k := 2) (i := 2) (x := (((((nI 69069) * ((xs i1.toNatClampNeg) + ((nI 1009) * i1))) + (nI 12345)) ^^^ ((((nI 69069) * ((xs i1.toNatClampNeg) + ((nI 1009) * i1))) + (nI 12345)).toUInt32 >>> ((nI 13).toUInt32 &&& Int32.toUInt32 31)).toInt32) * (nI 1103515245))) 0 rfl rfl dL_cell_38 ?_
    refine zq_bipush (v := (nI 16)) rfl dL_cell_39 ?_
    refine zq_iushr dL_cell_41 ?_
    refine zq_ixor dL_cell_42 ?_
    exact zq_iret dL_cell_43 rfl rfl rfl H
set_option maxHeartbeats 2000000 in
set_option maxRecDepth 20000 in
theorem r_L_bits_0 {d : Nat} {h : AH} {Q : Option Value → AH → Prop} (l0 : Int64) (hw : zWF h)  (H : zQ none m_L_bits (d + 1) 4 [(2, .int (nI 0)), (3, .long l0)] [] h Q) : zK (d + 1) m_L_bits [.long l0] h Q := by
  refine zK_of mo_L_bits (Nat.le_of_ble_eq_true rfl) ?_
  show zQ none m_L_bits (d + 1) 0 [(0, .long l0)] [] h Q
  refine zq_iconst (v := (nI 0)) rfl dL_bits_0 ?_
  refine zq_istore_n (ls' := [(2, .int (nI 0)), (0, .long l0)]) (k := 2) (i := 2) rfl (Nat.le_of_ble_eq_true rfl) rfl dL_bits_1 ?_
  refine zq_lload_n (k := 0) (i := 0) (x := l0) 1 rfl rfl dL_bits_2 ?_
  refine zq_lstore_n (ls' := [(3, .long l0), (2, .int (nI 0)), (0, .long l0)]) (k := 3) (i := 3) rfl (Nat.le_of_ble_eq_true rfl) rfl dL_bits_3 ?_
  exact zq_sub (ls' := [(2, .int (nI 0)), (3, .long l0)]) [1, 0] rfl H
set_option maxHeartbeats 2000000 in
set_option maxRecDepth 20000 in
theorem r_L_bits_4 {d : Nat} {h : AH} {Q : Option Value → AH → Prop} (i2 : Int32) (l3 : Int64) (hw : zWF h)  (H : ((lg_cmp l3 (0 : Int64)) = 0 → Q (some (.int i2)) h) ∧ (¬ (lg_cmp l3 (0 : Int64)) = 0 → zQ none m_L_bits (d + 1) 4 [(2, .int (i2 + (nI 1))), (3, .long (l3 &&& (l3 - (1 : Int64))))] [] h Q)) : zQ none m_L_bits (d + 1) 4 [(2, .int i2), (3, .long l3)] [] h Q := by
  refine zq_lload_n (k := 3) (i := 3) (x := l3) 1 rfl rfl dL_bits_4 ?_
  refine zq_lconst (v := 0) rfl dL_bits_5 ?_
  refine zq_lcmp dL_bits_6 ?_
  refine zq_if_eq (tgt := 22) dL_bits_7 rfl ⟨fun c1 => ?_, fun c1 => ?_⟩
  · have H := H.1 c1
    refine zq_iload_n (k := 2) (i := 2) (x := i2) 0 rfl rfl dL_bits_22 ?_
    exact zq_iret dL_bits_23 rfl rfl rfl H
  · have H := H.2 c1
    refine zq_iinc (i := 2) (x := i2) (v := (nI 1)) (ls' := [(2, .int (i2 + (nI 1))), (3, .long l3)]) 0 rfl rfl (Nat.le_of_ble_eq_true rfl) rfl dL_bits_10 ?_
    refine zq_lload_n (k := 3) (i := 3) (x := l3) 1 rfl rfl dL_bits_13 ?_
    refine zq_lload_n (k := 3) (i := 3) (x := l3) 1 rfl rfl dL_bits_14 ?_
    refine zq_lconst (v := 1) rfl dL_bits_15 ?_
    refine zq_lsub dL_bits_16 ?_
    refine zq_land dL_bits_17 ?_
    refine zq_lstore_n (ls' := [(3, .long (l3 &&& (l3 - (1 : Int64)))), (2, .int (i2 + (nI 1)))]) (k := 3) (i := 3) rfl (Nat.le_of_ble_eq_true rfl) rfl dL_bits_18 ?_
    refine zq_goto (tgt := 4) dL_bits_19 rfl ?_
    exact zq_sub (ls' := [(2, .int (i2 + (nI 1))), (3, .long (l3 &&& (l3 - (1 : Int64))))]) [1, 0] rfl H
set_option maxHeartbeats 2000000 in
set_option maxRecDepth 20000 in
theorem r_L_has_0 {d : Nat} {h : AH} {Q : Option Value → AH → Prop} (l0 : Int64) (i2 : Int32) (hw : zWF h)  (H : ((lg_cmp ((l0 >>> (i2.toInt64 &&& 63)) &&& (1 : Int64)) (1 : Int64)) ≠ 0 → Q (some (.int (nI 0))) h) ∧ ((lg_cmp ((l0 >>> (i2.toInt64 &&& 63)) &&& (1 : Int64)) (1 : Int64)) = 0 → Q (some (.int (nI 1))) h)) : zK (d + 1) m_L_has [.long l0, .int i2] h Q := by
  refine zK_of mo_L_has (Nat.le_of_ble_eq_true rfl) ?_
  show zQ none m_L_has (d + 1) 0 [(0, .long l0), (2, .int i2)] [] h Q
  refine zq_lload_n (k := 0) (i := 0) (x := l0) 0 rfl rfl dL_has_0 ?_
  refine zq_iload_n (k := 2) (i := 2) (x := i2) 1 rfl rfl dL_has_1 ?_
  refine zq_lshr dL_has_2 ?_
  refine zq_lconst (v := 1) rfl dL_has_3 ?_
  refine zq_land dL_has_4 ?_
  refine zq_lconst (v := 1) rfl dL_has_5 ?_
  refine zq_lcmp dL_has_6 ?_
  refine zq_if_ne (tgt := 14) dL_has_7 rfl ⟨fun c1 => ?_, fun c1 => ?_⟩
  · have H := H.1 c1
    refine zq_iconst (v := (nI 0)) rfl dL_has_14 ?_
    exact zq_iret dL_has_15 rfl rfl rfl H
  · have H := H.2 c1
    refine zq_iconst (v := (nI 1)) rfl dL_has_10 ?_
    refine zq_goto (tgt := 15) dL_has_11 rfl ?_
    exact zq_iret dL_has_15 rfl rfl rfl H
set_option maxHeartbeats 2000000 in
set_option maxRecDepth 20000 in
theorem r_L_bound_0 {d : Nat} {h : AH} {Q : Option Value → AH → Prop}  (hw : zWF h)  (H : zQ none m_L_bound (d + 1) 2 [(0, .ref 54), (1, .int (nI 1))] [] h Q) : zK (d + 1) m_L_bound [.ref 54] h Q := by
  refine zK_of mo_L_bound (Nat.le_of_ble_eq_true rfl) ?_
  show zQ none m_L_bound (d + 1) 0 [(0, .ref 54)] [] h Q
  refine zq_iconst (v := (nI 1)) rfl dL_bound_0 ?_
  refine zq_istore_n (ls' := [(1, .int (nI 1)), (0, .ref 54)]) (k := 1) (i := 1) rfl (Nat.le_of_ble_eq_true rfl) rfl dL_bound_1 ?_
  exact zq_sub (ls' := [(0, .ref 54), (1, .int (nI 1))]) [1, 0] rfl H
set_option maxHeartbeats 2000000 in
set_option maxRecDepth 20000 in
theorem r_L_bound_2 {d : Nat} {h : AH} {Q : Option Value → AH → Prop} (i1 : Int32) (hw : zWF h)  (H : vp_in (nI 0) 8 ∧ (((h.I 54 (nI 0).toNatClampNeg) ≤ (i1 * i1) → Q (some (.int i1)) h) ∧ (¬ (h.I 54 (nI 0).toNatClampNeg) ≤ (i1 * i1) → zQ none m_L_bound (d + 1) 2 [(0, .ref 54), (1, .int (i1 + (nI 1)))] [] h Q))) : zQ none m_L_bound (d + 1) 2 [(0, .ref 54), (1, .int i1)] [] h Q := by
  refine zq_iload_n (k := 1) (i := 1) (x := i1) 1 rfl rfl dL_bound_2 ?_
  refine zq_iload_n (k := 1) (i := 1) (x := i1) 1 rfl rfl dL_bound_3 ?_
  refine zq_imul dL_bound_4 ?_
  refine zq_aload_n (k := 0) (i := 0) (x := 54) 0 rfl rfl dL_bound_5 ?_
  refine zq_iconst (v := (nI 0)) rfl dL_bound_6 ?_
  obtain ⟨b1, H⟩ := H
  refine zq_iald (sh_54 hw) b1 dL_bound_7 ?_
  refine zq_icmp_ge (tgt := 17) dL_bound_8 rfl ⟨fun c2 => ?_, fun c2 => ?_⟩
  · have H := H.1 c2
    refine zq_iload_n (k := 1) (i := 1) (x := i1) 1 rfl rfl dL_bound_17 ?_
    exact zq_iret dL_bound_18 rfl rfl rfl H
  · have H := H.2 c2
    refine zq_iinc (i := 1) (x := i1) (v := (nI 1)) (ls' := [(1, .int (i1 + (nI 1))), (0, .ref 54)]) 1 rfl rfl (Nat.le_of_ble_eq_true rfl) rfl dL_bound_11 ?_
    refine zq_goto (tgt := 2) dL_bound_14 rfl ?_
    exact zq_sub (ls' := [(0, .ref 54), (1, .int (i1 + (nI 1)))]) [1, 0] rfl H
set_option maxHeartbeats 2000000 in
set_option maxRecDepth 20000 in
theorem r_L_looks_0 {d : Nat} {h : AH} {Q : Option Value → AH → Prop} (i3 : Int32) (hw : zWF h)  (H : vp_in i3 40 ∧ (zK d m_L_bits [.long (h.L 53 i3.toNatClampNeg)] h (pI h fun x2 => vp_in (nI 0) 1 ∧ (zK d m_L_has [.long (h.L 55 (nI 0).toNatClampNeg), .int i3] h (pI h fun x4 => (x4 = 0 → zK d m_L_bound [.ref 54] h (pI h fun x6 => (((nI 2) * x2) < ((nI 3) * x6) → ((nI 0) = 0 → Q none h) ∧ (¬ (nI 0) = 0 → vp_in (nI 0) 1 ∧ (vp_in (nI 0) 1 ∧ (∀ h11, h11 = h.sL 55 (nI 0).toNatClampNeg ((h.L 55 (nI 0).toNatClampNeg) ^^^ ((1 : Int64) <<< (i3.toInt64 &&& 63))) → vp_in (nI 1) 8 ∧ (vp_in (nI 1) 8 ∧ (∀ h14, h14 = h11.sI 54 (nI 1).toNatClampNeg ((h11.I 54 (nI 1).toNatClampNeg) + (nI 1)) → vp_in (nI 2) 8 ∧ (vp_in (nI 2) 8 ∧ (∀ h17, h17 = h14.sI 54 (nI 2).toNatClampNeg ((h14.I 54 (nI 2).toNatClampNeg) + x2) → Q none h17)))))))) ∧ (¬ ((nI 2) * x2) < ((nI 3) * x6) → ((nI 1) = 0 → Q none h) ∧ (¬ (nI 1) = 0 → vp_in (nI 0) 1 ∧ (vp_in (nI 0) 1 ∧ (∀ h21, h21 = h.sL 55 (nI 0).toNatClampNeg ((h.L 55 (nI 0).toNatClampNeg) ^^^ ((1 : Int64) <<< (i3.toInt64 &&& 63))) → vp_in (nI 1) 8 ∧ (vp_in (nI 1) 8 ∧ (∀ h24, h24 = h21.sI 54 (nI 1).toNatClampNeg ((h21.I 54 (nI 1).toNatClampNeg) + (nI 1)) → vp_in (nI 2) 8 ∧ (vp_in (nI 2) 8 ∧ (∀ h27, h27 = h24.sI 54 (nI 2).toNatClampNeg ((h24.I 54 (nI 2).toNatClampNeg) + x2) → Q none h27)))))))))) ∧ (¬ x4 = 0 → zK d m_L_bound [.ref 54] h (pI h fun x28 => (x28 ≤ ((nI 2) * x2) → ((nI 0) = 0 → Q none h) ∧ (¬ (nI 0) = 0 → vp_in (nI 0) 1 ∧ (vp_in (nI 0) 1 ∧ (∀ h33, h33 = h.sL 55 (nI 0).toNatClampNeg ((h.L 55 (nI 0).toNatClampNeg) ^^^ ((1 : Int64) <<< (i3.toInt64 &&& 63))) → vp_in (nI 1) 8 ∧ (vp_in (nI 1) 8 ∧ (∀ h36, h36 = h33.sI 54 (nI 1).toNatClampNeg ((h33.I 54 (nI 1).toNatClampNeg) + (nI 1)) → vp_in (nI 2) 8 ∧ (vp_in (nI 2) 8 ∧ (∀ h39, h39 = h36.sI 54 (nI 2).toNatClampNeg ((h36.I 54 (nI 2).toNatClampNeg) + x2) → Q none h39)))))))) ∧ (¬ x28 ≤ ((nI 2) * x2) → ((nI 1) = 0 → Q none h) ∧ (¬ (nI 1) = 0 → vp_in (nI 0) 1 ∧ (vp_in (nI 0) 1 ∧ (∀ h43, h43 = h.sL 55 (nI 0).toNatClampNeg ((h.L 55 (nI 0).toNatClampNeg) ^^^ ((1 : Int64) <<< (i3.toInt64 &&& 63))) → vp_in (nI 1) 8 ∧ (vp_in (nI 1) 8 ∧ (∀ h46, h46 = h43.sI 54 (nI 1).toNatClampNeg ((h43.I 54 (nI 1).toNatClampNeg) + (nI 1)) → vp_in (nI 2) 8 ∧ (vp_in (nI 2) 8 ∧ (∀ h49, h49 = h46.sI 54 (nI 2).toNatClampNeg ((h46.I 54 (nI 2).toNatClampNeg) + x2) → Q none h49))))))))))))))) : zK (d + 1) m_L_looks [.ref 53, .ref 54, .ref 55, .int i3] h Q := by
  refine zK_of mo_L_looks (Nat.le_of_ble_eq_true rfl) ?_
  show zQ none m_L_looks (d + 1) 0 [(0, .ref 53), (1, .ref 54), (2, .ref 55), (3, .int i3)] [] h Q
  refine zq_aload_n (k := 0) (i := 0) (x := 53) 0 rfl rfl dL_looks_0 ?_
  refine zq_iload_n (k := 3) (i := 3) (x := i3) 3 rfl rfl dL_looks_1 ?_
  obtain ⟨b1, H⟩ := H
  refine zq_lald (sh_53 hw) b1 dL_looks_2 ?_
  refine zq_invS (as := [.long (h.L 53 i3.toNatClampNeg)]) (st := []) st_L_bits mo_L_bits ml_RL_9 rfl (Nat.le_of_ble_eq_true rfl) dL_looks_3 rfl H (fun r1 h1 hq => ?_)
  obtain ⟨x2, rfl, rfl, H⟩ := hq
  show zQ none m_L_looks (d + 1) 6 [(0, .ref 53), (1, .ref 54), (2, .ref 55), (3, .int i3)] (.int x2 :: []) h Q
  refine zq_istore (ls' := [(4, .int x2), (0, .ref 53), (1, .ref 54), (2, .ref 55), (3, .int i3)]) (i := 4) (Nat.le_of_ble_eq_true rfl) rfl dL_looks_6 ?_
  refine zq_aload_n (k := 2) (i := 2) (x := 55) 3 rfl rfl dL_looks_8 ?_
  refine zq_iconst (v := (nI 0)) rfl dL_looks_9 ?_
  obtain ⟨b3, H⟩ := H
  refine zq_lald (sh_55 hw) b3 dL_looks_10 ?_
  refine zq_iload_n (k := 3) (i := 3) (x := i3) 4 rfl rfl dL_looks_11 ?_
  refine zq_invS (as := [.long (h.L 55 (nI 0).toNatClampNeg), .int i3]) (st := []) st_L_has mo_L_has ml_RL_15 rfl (Nat.le_of_ble_eq_true rfl) dL_looks_12 rfl H (fun r1 h1 hq => ?_)
  obtain ⟨x4, rfl, rfl, H⟩ := hq
  show zQ none m_L_looks (d + 1) 15 [(4, .int x2), (0, .ref 53), (1, .ref 54), (2, .ref 55), (3, .int i3)] (.int x4 :: []) h Q
  refine zq_if_eq (tgt := 37) dL_looks_15 rfl ⟨fun c5 => ?_, fun c5 => ?_⟩
  · have H := H.1 c5
    refine zq_iconst (v := (nI 2)) rfl dL_looks_37 ?_
    refine zq_iload (i := 4) (x := x2) 0 rfl dL_looks_38 ?_
    refine zq_imul dL_looks_40 ?_
    refine zq_iconst (v := (nI 3)) rfl dL_looks_41 ?_
    refine zq_aload_n (k := 1) (i := 1) (x := 54) 2 rfl rfl dL_looks_42 ?_
    refine zq_invS (as := [.ref 54]) (st := .int (nI 3) :: .int ((nI 2) * x2) :: []) st_L_bound mo_L_bound ml_RL_19 rfl (Nat.le_of_ble_eq_true rfl) dL_looks_43 rfl H (fun r1 h1 hq => ?_)
    obtain ⟨x6, rfl, rfl, H⟩ := hq
    show zQ none m_L_looks (d + 1) 46 [(4, .int x2), (0, .ref 53), (1, .ref 54), (2, .ref 55), (3, .int i3)] (.int x6 :: .int (nI 3) :: .int ((nI 2) * x2) :: []) h Q
    refine zq_imul dL_looks_46 ?_
    refine zq_icmp_lt (tgt := 54) dL_looks_47 rfl ⟨fun c7 => ?_, fun c7 => ?_⟩
    · have H := H.1 c7
      refine zq_iconst (v := (nI 0)) rfl dL_looks_54 ?_
      refine zq_istore (ls' := [(5, .int (nI 0)), (4, .int x2), (0, .ref 53), (1, .ref 54), (2, .ref 55), (3, .int i3)]) (i := 5) (Nat.le_of_ble_eq_true rfl) rfl dL_looks_55 ?_
      refine zq_iload (i := 5) (x := (nI 0)) 0 rfl dL_looks_57 ?_
      refine zq_if_eq (tgt := 86) dL_looks_59 rfl ⟨fun c8 => ?_, fun c8 => ?_⟩
      · have H := H.1 c8
        exact zq_vret dL_looks_86 rfl H
      · have H := H.2 c8
        refine zq_aload_n (k := 2) (i := 2) (x := 55) 4 rfl rfl dL_looks_62 ?_
        refine zq_iconst (v := (nI 0)) rfl dL_looks_63 ?_
        refine zq_dup2 rfl rfl dL_looks_64 ?_
        obtain ⟨b9, H⟩ := H
        refine zq_lald (sh_55 hw) b9 dL_looks_65 ?_
        refine zq_lconst (v := 1) rfl dL_looks_66 ?_
        refine zq_iload_n (k := 3) (i := 3) (x := i3) 5 rfl rfl dL_looks_67 ?_
        refine zq_lshl dL_looks_68 ?_
        refine zq_lxor dL_looks_69 ?_
        obtain ⟨b10, H⟩ := H
        refine zq_last (sh_55 hw) b10 dL_looks_70 (fun h11 eh11 => ?_)
        have H := H h11 eh11
        have wh11 := wf_L eh11 hw
        refine zq_aload_n (k := 1) (i := 1) (x := 54) 3 rfl rfl dL_looks_71 ?_
        refine zq_iconst (v := (nI 1)) rfl dL_looks_72 ?_
        refine zq_dup2 rfl rfl dL_looks_73 ?_
        obtain ⟨b12, H⟩ := H
        refine zq_iald (sh_54 wh11) b12 dL_looks_74 ?_
        refine zq_iconst (v := (nI 1)) rfl dL_looks_75 ?_
        refine zq_iadd dL_looks_76 ?_
        obtain ⟨b13, H⟩ := H
        refine zq_iast (sh_54 wh11) b13 dL_looks_77 (fun h14 eh14 => ?_)
        have H := H h14 eh14
        have wh14 := wf_I eh14 wh11
        refine zq_aload_n (k := 1) (i := 1) (x := 54) 3 rfl rfl dL_looks_78 ?_
        refine zq_iconst (v := (nI 2)) rfl dL_looks_79 ?_
        refine zq_dup2 rfl rfl dL_looks_80 ?_
        obtain ⟨b15, H⟩ := H
        refine zq_iald (sh_54 wh14) b15 dL_looks_81 ?_
        refine zq_iload (i := 4) (x := x2) 1 rfl dL_looks_82 ?_
        refine zq_iadd dL_looks_84 ?_
        obtain ⟨b16, H⟩ := H
        refine zq_iast (sh_54 wh14) b16 dL_looks_85 (fun h17 eh17 => ?_)
        have H := H h17 eh17
        have wh17 := wf_I eh17 wh14
        exact zq_vret dL_looks_86 rfl H
    · have H := H.2 c7
      refine zq_iconst (v := (nI 1)) rfl dL_looks_50 ?_
      refine zq_goto (tgt := 55) dL_looks_51 rfl ?_
      refine zq_istore (ls' := [(5, .int (nI 1)), (4, .int x2), (0, .ref 53), (1, .ref 54), (2, .ref 55), (3, .int i3)]) (i := 5) (Nat.le_of_ble_eq_true rfl) rfl dL_looks_55 ?_
      refine zq_iload (i := 5) (x := (nI 1)) 0 rfl dL_looks_57 ?_
      refine zq_if_eq (tgt := 86) dL_looks_59 rfl ⟨fun c18 => ?_, fun c18 => ?_⟩
      · have H := H.1 c18
        exact zq_vret dL_looks_86 rfl H
      · have H := H.2 c18
        refine zq_aload_n (k := 2) (i := 2) (x := 55) 4 rfl rfl dL_looks_62 ?_
        refine zq_iconst (v := (nI 0)) rfl dL_looks_63 ?_
        refine zq_dup2 rfl rfl dL_looks_64 ?_
        obtain ⟨b19, H⟩ := H
        refine zq_lald (sh_55 hw) b19 dL_looks_65 ?_
        refine zq_lconst (v := 1) rfl dL_looks_66 ?_
        refine zq_iload_n (k := 3) (i := 3) (x := i3) 5 rfl rfl dL_looks_67 ?_
        refine zq_lshl dL_looks_68 ?_
        refine zq_lxor dL_looks_69 ?_
        obtain ⟨b20, H⟩ := H
        refine zq_last (sh_55 hw) b20 dL_looks_70 (fun h21 eh21 => ?_)
        have H := H h21 eh21
        have wh21 := wf_L eh21 hw
        refine zq_aload_n (k := 1) (i := 1) (x := 54) 3 rfl rfl dL_looks_71 ?_
        refine zq_iconst (v := (nI 1)) rfl dL_looks_72 ?_
        refine zq_dup2 rfl rfl dL_looks_73 ?_
        obtain ⟨b22, H⟩ := H
        refine zq_iald (sh_54 wh21) b22 dL_looks_74 ?_
        refine zq_iconst (v := (nI 1)) rfl dL_looks_75 ?_
        refine zq_iadd dL_looks_76 ?_
        obtain ⟨b23, H⟩ := H
        refine zq_iast (sh_54 wh21) b23 dL_looks_77 (fun h24 eh24 => ?_)
        have H := H h24 eh24
        have wh24 := wf_I eh24 wh21
        refine zq_aload_n (k := 1) (i := 1) (x := 54) 3 rfl rfl dL_looks_78 ?_
        refine zq_iconst (v := (nI 2)) rfl dL_looks_79 ?_
        refine zq_dup2 rfl rfl dL_looks_80 ?_
        obtain ⟨b25, H⟩ := H
        refine zq_iald (sh_54 wh24) b25 dL_looks_81 ?_
        refine zq_iload (i := 4) (x := x2) 1 rfl dL_looks_82 ?_
        refine zq_iadd dL_looks_84 ?_
        obtain ⟨b26, H⟩ := H
        refine zq_iast (sh_54 wh24) b26 dL_looks_85 (fun h27 eh27 => ?_)
        have H := H h27 eh27
        have wh27 := wf_I eh27 wh24
        exact zq_vret dL_looks_86 rfl H
  · have H := H.2 c5
    refine zq_iconst (v := (nI 2)) rfl dL_looks_18 ?_
    refine zq_iload (i := 4) (x := x2) 0 rfl dL_looks_19 ?_
    refine zq_imul dL_looks_21 ?_
    refine zq_aload_n (k := 1) (i := 1) (x := 54) 2 rfl rfl dL_looks_22 ?_
    refine zq_invS (as := [.ref 54]) (st := .int ((nI 2) * x2) :: []) st_L_bound mo_L_bound ml_RL_19 rfl (Nat.le_of_ble_eq_true rfl) dL_looks_23 rfl H (fun r1 h1 hq => ?_)
    obtain ⟨x28, rfl, rfl, H⟩ := hq
    show zQ none m_L_looks (d + 1) 26 [(4, .int x2), (0, .ref 53), (1, .ref 54), (2, .ref 55), (3, .int i3)] (.int x28 :: .int ((nI 2) * x2) :: []) h Q
    refine zq_icmp_ge (tgt := 33) dL_looks_26 rfl ⟨fun c29 => ?_, fun c29 => ?_⟩
    · have H := H.1 c29
      refine zq_iconst (v := (nI 0)) rfl dL_looks_33 ?_
      refine zq_goto (tgt := 55) dL_looks_34 rfl ?_
      refine zq_istore (ls' := [(5, .int (nI 0)), (4, .int x2), (0, .ref 53), (1, .ref 54), (2, .ref 55), (3, .int i3)]) (i := 5) (Nat.le_of_ble_eq_true rfl) rfl dL_looks_55 ?_
      refine zq_iload (i := 5) (x := (nI 0)) 0 rfl dL_looks_57 ?_
      refine zq_if_eq (tgt := 86) dL_looks_59 rfl ⟨fun c30 => ?_, fun c30 => ?_⟩
      · have H := H.1 c30
        exact zq_vret dL_looks_86 rfl H
      · have H := H.2 c30
        refine zq_aload_n (k := 2) (i := 2) (x := 55) 4 rfl rfl dL_looks_62 ?_
        refine zq_iconst (v := (nI 0)) rfl dL_looks_63 ?_
        refine zq_dup2 rfl rfl dL_looks_64 ?_
        obtain ⟨b31, H⟩ := H
        refine zq_lald (sh_55 hw) b31 dL_looks_65 ?_
        refine zq_lconst (v := 1) rfl dL_looks_66 ?_
        refine zq_iload_n (k := 3) (i := 3) (x := i3) 5 rfl rfl dL_looks_67 ?_
        refine zq_lshl dL_looks_68 ?_
        refine zq_lxor dL_looks_69 ?_
        obtain ⟨b32, H⟩ := H
        refine zq_last (sh_55 hw) b32 dL_looks_70 (fun h33 eh33 => ?_)
        have H := H h33 eh33
        have wh33 := wf_L eh33 hw
        refine zq_aload_n (k := 1) (i := 1) (x := 54) 3 rfl rfl dL_looks_71 ?_
        refine zq_iconst (v := (nI 1)) rfl dL_looks_72 ?_
        refine zq_dup2 rfl rfl dL_looks_73 ?_
        obtain ⟨b34, H⟩ := H
        refine zq_iald (sh_54 wh33) b34 dL_looks_74 ?_
        refine zq_iconst (v := (nI 1)) rfl dL_looks_75 ?_
        refine zq_iadd dL_looks_76 ?_
        obtain ⟨b35, H⟩ := H
        refine zq_iast (sh_54 wh33) b35 dL_looks_77 (fun h36 eh36 => ?_)
        have H := H h36 eh36
        have wh36 := wf_I eh36 wh33
        refine zq_aload_n (k := 1) (i := 1) (x := 54) 3 rfl rfl dL_looks_78 ?_
        refine zq_iconst (v := (nI 2)) rfl dL_looks_79 ?_
        refine zq_dup2 rfl rfl dL_looks_80 ?_
        obtain ⟨b37, H⟩ := H
        refine zq_iald (sh_54 wh36) b37 dL_looks_81 ?_
        refine zq_iload (i := 4) (x := x2) 1 rfl dL_looks_82 ?_
        refine zq_iadd dL_looks_84 ?_
        obtain ⟨b38, H⟩ := H
        refine zq_iast (sh_54 wh36) b38 dL_looks_85 (fun h39 eh39 => ?_)
        have H := H h39 eh39
        have wh39 := wf_I eh39 wh36
        exact zq_vret dL_looks_86 rfl H
    · have H := H.2 c29
      refine zq_iconst (v := (nI 1)) rfl dL_looks_29 ?_
      refine zq_goto (tgt := 55) dL_looks_30 rfl ?_
      refine zq_istore (ls' := [(5, .int (nI 1)), (4, .int x2), (0, .ref 53), (1, .ref 54), (2, .ref 55), (3, .int i3)]) (i := 5) (Nat.le_of_ble_eq_true rfl) rfl dL_looks_55 ?_
      refine zq_iload (i := 5) (x := (nI 1)) 0 rfl dL_looks_57 ?_
      refine zq_if_eq (tgt := 86) dL_looks_59 rfl ⟨fun c40 => ?_, fun c40 => ?_⟩
      · have H := H.1 c40
        exact zq_vret dL_looks_86 rfl H
      · have H := H.2 c40
        refine zq_aload_n (k := 2) (i := 2) (x := 55) 4 rfl rfl dL_looks_62 ?_
        refine zq_iconst (v := (nI 0)) rfl dL_looks_63 ?_
        refine zq_dup2 rfl rfl dL_looks_64 ?_
        obtain ⟨b41, H⟩ := H
        refine zq_lald (sh_55 hw) b41 dL_looks_65 ?_
        refine zq_lconst (v := 1) rfl dL_looks_66 ?_
        refine zq_iload_n (k := 3) (i := 3) (x := i3) 5 rfl rfl dL_looks_67 ?_
        refine zq_lshl dL_looks_68 ?_
        refine zq_lxor dL_looks_69 ?_
        obtain ⟨b42, H⟩ := H
        refine zq_last (sh_55 hw) b42 dL_looks_70 (fun h43 eh43 => ?_)
        have H := H h43 eh43
        have wh43 := wf_L eh43 hw
        refine zq_aload_n (k := 1) (i := 1) (x := 54) 3 rfl rfl dL_looks_71 ?_
        refine zq_iconst (v := (nI 1)) rfl dL_looks_72 ?_
        refine zq_dup2 rfl rfl dL_looks_73 ?_
        obtain ⟨b44, H⟩ := H
        refine zq_iald (sh_54 wh43) b44 dL_looks_74 ?_
        refine zq_iconst (v := (nI 1)) rfl dL_looks_75 ?_
        refine zq_iadd dL_looks_76 ?_
        obtain ⟨b45, H⟩ := H
        refine zq_iast (sh_54 wh43) b45 dL_looks_77 (fun h46 eh46 => ?_)
        have H := H h46 eh46
        have wh46 := wf_I eh46 wh43
        refine zq_aload_n (k := 1) (i := 1) (x := 54) 3 rfl rfl dL_looks_78 ?_
        refine zq_iconst (v := (nI 2)) rfl dL_looks_79 ?_
        refine zq_dup2 rfl rfl dL_looks_80 ?_
        obtain ⟨b47, H⟩ := H
        refine zq_iald (sh_54 wh46) b47 dL_looks_81 ?_
        refine zq_iload (i := 4) (x := x2) 1 rfl dL_looks_82 ?_
        refine zq_iadd dL_looks_84 ?_
        obtain ⟨b48, H⟩ := H
        refine zq_iast (sh_54 wh46) b48 dL_looks_85 (fun h49 eh49 => ?_)
        have H := H h49 eh49
        have wh49 := wf_I eh49 wh46
        exact zq_vret dL_looks_86 rfl H
set_option maxHeartbeats 2000000 in
set_option maxRecDepth 20000 in
theorem r_L_change_0 {d : Nat} {h : AH} {Q : Option Value → AH → Prop} (i3 : Int32) (i4 : Int32) (hw : zWF h)  (H : vp_in i3 40 ∧ (vp_in i3 40 ∧ (∀ h3, h3 = h.sL 53 i3.toNatClampNeg ((h.L 53 i3.toNatClampNeg) ^^^ ((1 : Int64) <<< (i4.toInt64 &&& 63))) → vp_in i4 40 ∧ (vp_in i4 40 ∧ (∀ h6, h6 = h3.sL 53 i4.toNatClampNeg ((h3.L 53 i4.toNatClampNeg) ^^^ ((1 : Int64) <<< (i3.toInt64 &&& 63))) → vp_in i3 40 ∧ (zK d m_L_has [.long (h6.L 53 i3.toNatClampNeg), .int i4] h6 (pI h6 fun x8 => zQ none m_L_change (d + 1) 30 [(0, .ref 53), (1, .ref 54), (2, .ref 55), (3, .int i3), (4, .int i4), (5, .int x8)] [] h6 Q))))))) : zK (d + 1) m_L_change [.ref 53, .ref 54, .ref 55, .int i3, .int i4] h Q := by
  refine zK_of mo_L_change (Nat.le_of_ble_eq_true rfl) ?_
  show zQ none m_L_change (d + 1) 0 [(0, .ref 53), (1, .ref 54), (2, .ref 55), (3, .int i3), (4, .int i4)] [] h Q
  refine zq_aload_n (k := 0) (i := 0) (x := 53) 0 rfl rfl dL_change_0 ?_
  refine zq_iload_n (k := 3) (i := 3) (x := i3) 3 rfl rfl dL_change_1 ?_
  refine zq_dup2 rfl rfl dL_change_2 ?_
  obtain ⟨b1, H⟩ := H
  refine zq_lald (sh_53 hw) b1 dL_change_3 ?_
  refine zq_lconst (v := 1) rfl dL_change_4 ?_
  refine zq_iload (i := 4) (x := i4) 4 rfl dL_change_5 ?_
  refine zq_lshl dL_change_7 ?_
  refine zq_lxor dL_change_8 ?_
  obtain ⟨b2, H⟩ := H
  refine zq_last (sh_53 hw) b2 dL_change_9 (fun h3 eh3 => ?_)
  have H := H h3 eh3
  have wh3 := wf_L eh3 hw
  refine zq_aload_n (k := 0) (i := 0) (x := 53) 0 rfl rfl dL_change_10 ?_
  refine zq_iload (i := 4) (x := i4) 4 rfl dL_change_11 ?_
  refine zq_dup2 rfl rfl dL_change_13 ?_
  obtain ⟨b4, H⟩ := H
  refine zq_lald (sh_53 wh3) b4 dL_change_14 ?_
  refine zq_lconst (v := 1) rfl dL_change_15 ?_
  refine zq_iload_n (k := 3) (i := 3) (x := i3) 3 rfl rfl dL_change_16 ?_
  refine zq_lshl dL_change_17 ?_
  refine zq_lxor dL_change_18 ?_
  obtain ⟨b5, H⟩ := H
  refine zq_last (sh_53 wh3) b5 dL_change_19 (fun h6 eh6 => ?_)
  have H := H h6 eh6
  have wh6 := wf_L eh6 wh3
  refine zq_aload_n (k := 0) (i := 0) (x := 53) 0 rfl rfl dL_change_20 ?_
  refine zq_iload_n (k := 3) (i := 3) (x := i3) 3 rfl rfl dL_change_21 ?_
  obtain ⟨b7, H⟩ := H
  refine zq_lald (sh_53 wh6) b7 dL_change_22 ?_
  refine zq_iload (i := 4) (x := i4) 4 rfl dL_change_23 ?_
  refine zq_invS (as := [.long (h6.L 53 i3.toNatClampNeg), .int i4]) (st := []) st_L_has mo_L_has ml_RL_15 rfl (Nat.le_of_ble_eq_true rfl) dL_change_25 rfl H (fun r1 h1 hq => ?_)
  obtain ⟨x8, rfl, rfl, H⟩ := hq
  show zQ none m_L_change (d + 1) 28 [(0, .ref 53), (1, .ref 54), (2, .ref 55), (3, .int i3), (4, .int i4)] (.int x8 :: []) h6 Q
  refine zq_istore (ls' := [(5, .int x8), (0, .ref 53), (1, .ref 54), (2, .ref 55), (3, .int i3), (4, .int i4)]) (i := 5) (Nat.le_of_ble_eq_true rfl) rfl dL_change_28 ?_
  exact zq_sub (ls' := [(0, .ref 53), (1, .ref 54), (2, .ref 55), (3, .int i3), (4, .int i4), (5, .int x8)]) [1, 2, 3, 4, 5, 0] rfl H
set_option maxHeartbeats 2000000 in
set_option maxRecDepth 20000 in
theorem r_L_change_30 {d : Nat} {h : AH} {Q : Option Value → AH → Prop} (i3 : Int32) (i4 : Int32) (i5 : Int32) (hw : zWF h)  (H : vp_in (nI 5) 8 ∧ ((i5 = 0 → vp_in (nI 5) 8 ∧ (∀ h4, h4 = h.sI 54 (nI 5).toNatClampNeg ((h.I 54 (nI 5).toNatClampNeg) + (-1)) → zQ none m_L_change (d + 1) 46 [(0, .ref 53), (1, .ref 54), (2, .ref 55), (3, .int i3), (4, .int i4), (5, .int i5)] [] h4 Q)) ∧ (¬ i5 = 0 → vp_in (nI 5) 8 ∧ (∀ h6, h6 = h.sI 54 (nI 5).toNatClampNeg ((h.I 54 (nI 5).toNatClampNeg) + (nI 1)) → zQ none m_L_change (d + 1) 46 [(0, .ref 53), (1, .ref 54), (2, .ref 55), (3, .int i3), (4, .int i4), (5, .int i5)] [] h6 Q)))) : zQ none m_L_change (d + 1) 30 [(0, .ref 53), (1, .ref 54), (2, .ref 55), (3, .int i3), (4, .int i4), (5, .int i5)] [] h Q := by
  refine zq_aload_n (k := 1) (i := 1) (x := 54) 1 rfl rfl dL_change_30 ?_
  refine zq_iconst (v := (nI 5)) rfl dL_change_31 ?_
  refine zq_dup2 rfl rfl dL_change_32 ?_
  obtain ⟨b1, H⟩ := H
  refine zq_iald (sh_54 hw) b1 dL_change_33 ?_
  refine zq_iload (i := 5) (x := i5) 5 rfl dL_change_34 ?_
  refine zq_if_eq (tgt := 43) dL_change_36 rfl ⟨fun c2 => ?_, fun c2 => ?_⟩
  · have H := H.1 c2
    refine zq_iconst (v := (-1)) rfl dL_change_43 ?_
    refine zq_iadd dL_change_44 ?_
    obtain ⟨b3, H⟩ := H
    refine zq_iast (sh_54 hw) b3 dL_change_45 (fun h4 eh4 => ?_)
    have H := H h4 eh4
    have wh4 := wf_I eh4 hw
    exact H
  · have H := H.2 c2
    refine zq_iconst (v := (nI 1)) rfl dL_change_39 ?_
    refine zq_goto (tgt := 44) dL_change_40 rfl ?_
    refine zq_iadd dL_change_44 ?_
    obtain ⟨b5, H⟩ := H
    refine zq_iast (sh_54 hw) b5 dL_change_45 (fun h6 eh6 => ?_)
    have H := H h6 eh6
    have wh6 := wf_I eh6 hw
    exact H
set_option maxHeartbeats 2000000 in
set_option maxRecDepth 20000 in
theorem r_L_change_46 {d : Nat} {h : AH} {Q : Option Value → AH → Prop} (i3 : Int32) (i4 : Int32) (i5 : Int32) (hw : zWF h)  (H : vp_in (nI 4) 8 ∧ (vp_in (nI 4) 8 ∧ (∀ h3, h3 = h.sI 54 (nI 4).toNatClampNeg ((h.I 54 (nI 4).toNatClampNeg) + (nI 1)) → (i5 = 0 → zQ none m_L_change (d + 1) 74 [(0, .ref 53), (1, .ref 54), (2, .ref 55), (3, .int i3), (4, .int i4), (5, .int i5), (6, .int (nI 0))] [] h3 Q) ∧ (¬ i5 = 0 → vp_in (nI 5) 8 ∧ (vp_in (nI 0) 8 ∧ (((h3.I 54 (nI 5).toNatClampNeg) ≠ (h3.I 54 (nI 0).toNatClampNeg) → zQ none m_L_change (d + 1) 74 [(0, .ref 53), (1, .ref 54), (2, .ref 55), (3, .int i3), (4, .int i4), (5, .int i5), (6, .int (nI 0))] [] h3 Q) ∧ ((h3.I 54 (nI 5).toNatClampNeg) = (h3.I 54 (nI 0).toNatClampNeg) → zQ none m_L_change (d + 1) 74 [(0, .ref 53), (1, .ref 54), (2, .ref 55), (3, .int i3), (4, .int i4), (5, .int i5), (6, .int (nI 1))] [] h3 Q))))))) : zQ none m_L_change (d + 1) 46 [(0, .ref 53), (1, .ref 54), (2, .ref 55), (3, .int i3), (4, .int i4), (5, .int i5)] [] h Q := by
  refine zq_aload_n (k := 1) (i := 1) (x := 54) 1 rfl rfl dL_change_46 ?_
  refine zq_iconst (v := (nI 4)) rfl dL_change_47 ?_
  refine zq_dup2 rfl rfl dL_change_48 ?_
  obtain ⟨b1, H⟩ := H
  refine zq_iald (sh_54 hw) b1 dL_change_49 ?_
  refine zq_iconst (v := (nI 1)) rfl dL_change_50 ?_
  refine zq_iadd dL_change_51 ?_
  obtain ⟨b2, H⟩ := H
  refine zq_iast (sh_54 hw) b2 dL_change_52 (fun h3 eh3 => ?_)
  have H := H h3 eh3
  have wh3 := wf_I eh3 hw
  refine zq_iload (i := 5) (x := i5) 5 rfl dL_change_53 ?_
  refine zq_if_eq (tgt := 71) dL_change_55 rfl ⟨fun c4 => ?_, fun c4 => ?_⟩
  · have H := H.1 c4
    refine zq_iconst (v := (nI 0)) rfl dL_change_71 ?_
    refine zq_istore (ls' := [(6, .int (nI 0)), (0, .ref 53), (1, .ref 54), (2, .ref 55), (3, .int i3), (4, .int i4), (5, .int i5)]) (i := 6) (Nat.le_of_ble_eq_true rfl) rfl dL_change_72 ?_
    exact zq_sub (ls' := [(0, .ref 53), (1, .ref 54), (2, .ref 55), (3, .int i3), (4, .int i4), (5, .int i5), (6, .int (nI 0))]) [1, 2, 3, 4, 5, 6, 0] rfl H
  · have H := H.2 c4
    refine zq_aload_n (k := 1) (i := 1) (x := 54) 1 rfl rfl dL_change_58 ?_
    refine zq_iconst (v := (nI 5)) rfl dL_change_59 ?_
    obtain ⟨b5, H⟩ := H
    refine zq_iald (sh_54 wh3) b5 dL_change_60 ?_
    refine zq_aload_n (k := 1) (i := 1) (x := 54) 1 rfl rfl dL_change_61 ?_
    refine zq_iconst (v := (nI 0)) rfl dL_change_62 ?_
    obtain ⟨b6, H⟩ := H
    refine zq_iald (sh_54 wh3) b6 dL_change_63 ?_
    refine zq_icmp_ne (tgt := 71) dL_change_64 rfl ⟨fun c7 => ?_, fun c7 => ?_⟩
    · have H := H.1 c7
      refine zq_iconst (v := (nI 0)) rfl dL_change_71 ?_
      refine zq_istore (ls' := [(6, .int (nI 0)), (0, .ref 53), (1, .ref 54), (2, .ref 55), (3, .int i3), (4, .int i4), (5, .int i5)]) (i := 6) (Nat.le_of_ble_eq_true rfl) rfl dL_change_72 ?_
      exact zq_sub (ls' := [(0, .ref 53), (1, .ref 54), (2, .ref 55), (3, .int i3), (4, .int i4), (5, .int i5), (6, .int (nI 0))]) [1, 2, 3, 4, 5, 6, 0] rfl H
    · have H := H.2 c7
      refine zq_iconst (v := (nI 1)) rfl dL_change_67 ?_
      refine zq_goto (tgt := 72) dL_change_68 rfl ?_
      refine zq_istore (ls' := [(6, .int (nI 1)), (0, .ref 53), (1, .ref 54), (2, .ref 55), (3, .int i3), (4, .int i4), (5, .int i5)]) (i := 6) (Nat.le_of_ble_eq_true rfl) rfl dL_change_72 ?_
      exact zq_sub (ls' := [(0, .ref 53), (1, .ref 54), (2, .ref 55), (3, .int i3), (4, .int i4), (5, .int i5), (6, .int (nI 1))]) [1, 2, 3, 4, 5, 6, 0] rfl H
set_option maxHeartbeats 2000000 in
set_option maxRecDepth 20000 in
theorem r_L_change_74 {d : Nat} {h : AH} {Q : Option Value → AH → Prop} (i3 : Int32) (i4 : Int32) (i5 : Int32) (i6 : Int32) (hw : zWF h)  (H : (i5 ≠ 0 → zQ none m_L_change (d + 1) 97 [(0, .ref 53), (1, .ref 54), (2, .ref 55), (3, .int i3), (4, .int i4), (6, .int i6), (7, .int (nI 0))] [] h Q) ∧ (i5 = 0 → vp_in (nI 5) 8 ∧ (vp_in (nI 0) 8 ∧ ((((h.I 54 (nI 0).toNatClampNeg) / (nI 4)) ≤ (h.I 54 (nI 5).toNatClampNeg) → zQ none m_L_change (d + 1) 97 [(0, .ref 53), (1, .ref 54), (2, .ref 55), (3, .int i3), (4, .int i4), (6, .int i6), (7, .int (nI 0))] [] h Q) ∧ (¬ ((h.I 54 (nI 0).toNatClampNeg) / (nI 4)) ≤ (h.I 54 (nI 5).toNatClampNeg) → zQ none m_L_change (d + 1) 97 [(0, .ref 53), (1, .ref 54), (2, .ref 55), (3, .int i3), (4, .int i4), (6, .int i6), (7, .int (nI 1))] [] h Q))))) : zQ none m_L_change (d + 1) 74 [(0, .ref 53), (1, .ref 54), (2, .ref 55), (3, .int i3), (4, .int i4), (5, .int i5), (6, .int i6)] [] h Q := by
  refine zq_iload (i := 5) (x := i5) 5 rfl dL_change_74 ?_
  refine zq_if_ne (tgt := 94) dL_change_76 rfl ⟨fun c1 => ?_, fun c1 => ?_⟩
  · have H := H.1 c1
    refine zq_iconst (v := (nI 0)) rfl dL_change_94 ?_
    refine zq_istore (ls' := [(7, .int (nI 0)), (0, .ref 53), (1, .ref 54), (2, .ref 55), (3, .int i3), (4, .int i4), (5, .int i5), (6, .int i6)]) (i := 7) (Nat.le_of_ble_eq_true rfl) rfl dL_change_95 ?_
    exact zq_sub (ls' := [(0, .ref 53), (1, .ref 54), (2, .ref 55), (3, .int i3), (4, .int i4), (6, .int i6), (7, .int (nI 0))]) [1, 2, 3, 4, 5, 7, 0] rfl H
  · have H := H.2 c1
    refine zq_aload_n (k := 1) (i := 1) (x := 54) 1 rfl rfl dL_change_79 ?_
    refine zq_iconst (v := (nI 5)) rfl dL_change_80 ?_
    obtain ⟨b2, H⟩ := H
    refine zq_iald (sh_54 hw) b2 dL_change_81 ?_
    refine zq_aload_n (k := 1) (i := 1) (x := 54) 1 rfl rfl dL_change_82 ?_
    refine zq_iconst (v := (nI 0)) rfl dL_change_83 ?_
    obtain ⟨b3, H⟩ := H
    refine zq_iald (sh_54 hw) b3 dL_change_84 ?_
    refine zq_iconst (v := (nI 4)) rfl dL_change_85 ?_
    refine zq_idiv (by decide) dL_change_86 ?_
    refine zq_icmp_ge (tgt := 94) dL_change_87 rfl ⟨fun c4 => ?_, fun c4 => ?_⟩
    · have H := H.1 c4
      refine zq_iconst (v := (nI 0)) rfl dL_change_94 ?_
      refine zq_istore (ls' := [(7, .int (nI 0)), (0, .ref 53), (1, .ref 54), (2, .ref 55), (3, .int i3), (4, .int i4), (5, .int i5), (6, .int i6)]) (i := 7) (Nat.le_of_ble_eq_true rfl) rfl dL_change_95 ?_
      exact zq_sub (ls' := [(0, .ref 53), (1, .ref 54), (2, .ref 55), (3, .int i3), (4, .int i4), (6, .int i6), (7, .int (nI 0))]) [1, 2, 3, 4, 5, 7, 0] rfl H
    · have H := H.2 c4
      refine zq_iconst (v := (nI 1)) rfl dL_change_90 ?_
      refine zq_goto (tgt := 95) dL_change_91 rfl ?_
      refine zq_istore (ls' := [(7, .int (nI 1)), (0, .ref 53), (1, .ref 54), (2, .ref 55), (3, .int i3), (4, .int i4), (5, .int i5), (6, .int i6)]) (i := 7) (Nat.le_of_ble_eq_true rfl) rfl dL_change_95 ?_
      exact zq_sub (ls' := [(0, .ref 53), (1, .ref 54), (2, .ref 55), (3, .int i3), (4, .int i4), (6, .int i6), (7, .int (nI 1))]) [1, 2, 3, 4, 5, 7, 0] rfl H
set_option maxHeartbeats 2000000 in
set_option maxRecDepth 20000 in
theorem r_L_change_97 {d : Nat} {h : AH} {Q : Option Value → AH → Prop} (i3 : Int32) (i4 : Int32) (i6 : Int32) (i7 : Int32) (hw : zWF h)  (H : (i6 ≠ 0 → zQ none m_L_change (d + 1) 107 [(0, .ref 53), (1, .ref 54), (2, .ref 55), (6, .int i6)] [] h Q) ∧ (i6 = 0 → (i7 = 0 → zQ none m_L_change (d + 1) 203 [(0, .ref 53), (1, .ref 54), (2, .ref 55), (3, .int i3), (4, .int i4)] [] h Q) ∧ (¬ i7 = 0 → zQ none m_L_change (d + 1) 107 [(0, .ref 53), (1, .ref 54), (2, .ref 55), (6, .int i6)] [] h Q))) : zQ none m_L_change (d + 1) 97 [(0, .ref 53), (1, .ref 54), (2, .ref 55), (3, .int i3), (4, .int i4), (6, .int i6), (7, .int i7)] [] h Q := by
  refine zq_iload (i := 6) (x := i6) 5 rfl dL_change_97 ?_
  refine zq_if_ne (tgt := 107) dL_change_99 rfl ⟨fun c1 => ?_, fun c1 => ?_⟩
  · have H := H.1 c1
    exact zq_sub (ls' := [(0, .ref 53), (1, .ref 54), (2, .ref 55), (6, .int i6)]) [0, 1, 2, 5] rfl H
  · have H := H.2 c1
    refine zq_iload (i := 7) (x := i7) 6 rfl dL_change_102 ?_
    refine zq_if_eq (tgt := 203) dL_change_104 rfl ⟨fun c2 => ?_, fun c2 => ?_⟩
    · have H := H.1 c2
      exact zq_sub (ls' := [(0, .ref 53), (1, .ref 54), (2, .ref 55), (3, .int i3), (4, .int i4)]) [0, 1, 2, 3, 4] rfl H
    · have H := H.2 c2
      exact zq_sub (ls' := [(0, .ref 53), (1, .ref 54), (2, .ref 55), (6, .int i6)]) [0, 1, 2, 5] rfl H
set_option maxHeartbeats 2000000 in
set_option maxRecDepth 20000 in
theorem r_L_change_107 {d : Nat} {h : AH} {Q : Option Value → AH → Prop} (i6 : Int32) (hw : zWF h)  (H : (i6 = 0 → vp_in (nI 0) 8 ∧ (((nI 1) ≤ (((h.I 54 (nI 0).toNatClampNeg) / (nI 2)) - (nI 1)) → vp_in (nI 0) 8 ∧ (vp_in (nI 0) 8 ∧ (∀ h6, h6 = h.sI 54 (nI 0).toNatClampNeg (((h.I 54 (nI 0).toNatClampNeg) / (nI 2)) - (nI 1)) → zQ none m_L_change (d + 1) 145 [(0, .ref 53), (1, .ref 54), (2, .ref 55)] [] h6 Q))) ∧ (¬ (nI 1) ≤ (((h.I 54 (nI 0).toNatClampNeg) / (nI 2)) - (nI 1)) → vp_in (nI 0) 8 ∧ (∀ h8, h8 = h.sI 54 (nI 0).toNatClampNeg (nI 1) → zQ none m_L_change (d + 1) 145 [(0, .ref 53), (1, .ref 54), (2, .ref 55)] [] h8 Q)))) ∧ (¬ i6 = 0 → vp_in (nI 0) 8 ∧ (vp_in (nI 0) 8 ∧ (∀ h11, h11 = h.sI 54 (nI 0).toNatClampNeg ((nI 2) * (h.I 54 (nI 0).toNatClampNeg)) → zQ none m_L_change (d + 1) 145 [(0, .ref 53), (1, .ref 54), (2, .ref 55)] [] h11 Q)))) : zQ none m_L_change (d + 1) 107 [(0, .ref 53), (1, .ref 54), (2, .ref 55), (6, .int i6)] [] h Q := by
  refine zq_aload_n (k := 1) (i := 1) (x := 54) 1 rfl rfl dL_change_107 ?_
  refine zq_iconst (v := (nI 0)) rfl dL_change_108 ?_
  refine zq_iload (i := 6) (x := i6) 3 rfl dL_change_109 ?_
  refine zq_if_eq (tgt := 122) dL_change_111 rfl ⟨fun c1 => ?_, fun c1 => ?_⟩
  · have H := H.1 c1
    refine zq_aload_n (k := 1) (i := 1) (x := 54) 1 rfl rfl dL_change_122 ?_
    refine zq_iconst (v := (nI 0)) rfl dL_change_123 ?_
    obtain ⟨b2, H⟩ := H
    refine zq_iald (sh_54 hw) b2 dL_change_124 ?_
    refine zq_iconst (v := (nI 2)) rfl dL_change_125 ?_
    refine zq_idiv (by decide) dL_change_126 ?_
    refine zq_iconst (v := (nI 1)) rfl dL_change_127 ?_
    refine zq_isub dL_change_128 ?_
    refine zq_iconst (v := (nI 1)) rfl dL_change_129 ?_
    refine zq_icmp_ge (tgt := 137) dL_change_130 rfl ⟨fun c3 => ?_, fun c3 => ?_⟩
    · have H := H.1 c3
      refine zq_aload_n (k := 1) (i := 1) (x := 54) 1 rfl rfl dL_change_137 ?_
      refine zq_iconst (v := (nI 0)) rfl dL_change_138 ?_
      obtain ⟨b4, H⟩ := H
      refine zq_iald (sh_54 hw) b4 dL_change_139 ?_
      refine zq_iconst (v := (nI 2)) rfl dL_change_140 ?_
      refine zq_idiv (by decide) dL_change_141 ?_
      refine zq_iconst (v := (nI 1)) rfl dL_change_142 ?_
      refine zq_isub dL_change_143 ?_
      obtain ⟨b5, H⟩ := H
      refine zq_iast (sh_54 hw) b5 dL_change_144 (fun h6 eh6 => ?_)
      have H := H h6 eh6
      have wh6 := wf_I eh6 hw
      exact zq_sub (ls' := [(0, .ref 53), (1, .ref 54), (2, .ref 55)]) [0, 1, 2] rfl H
    · have H := H.2 c3
      refine zq_iconst (v := (nI 1)) rfl dL_change_133 ?_
      refine zq_goto (tgt := 144) dL_change_134 rfl ?_
      obtain ⟨b7, H⟩ := H
      refine zq_iast (sh_54 hw) b7 dL_change_144 (fun h8 eh8 => ?_)
      have H := H h8 eh8
      have wh8 := wf_I eh8 hw
      exact zq_sub (ls' := [(0, .ref 53), (1, .ref 54), (2, .ref 55)]) [0, 1, 2] rfl H
  · have H := H.2 c1
    refine zq_iconst (v := (nI 2)) rfl dL_change_114 ?_
    refine zq_aload_n (k := 1) (i := 1) (x := 54) 1 rfl rfl dL_change_115 ?_
    refine zq_iconst (v := (nI 0)) rfl dL_change_116 ?_
    obtain ⟨b9, H⟩ := H
    refine zq_iald (sh_54 hw) b9 dL_change_117 ?_
    refine zq_imul dL_change_118 ?_
    refine zq_goto (tgt := 144) dL_change_119 rfl ?_
    obtain ⟨b10, H⟩ := H
    refine zq_iast (sh_54 hw) b10 dL_change_144 (fun h11 eh11 => ?_)
    have H := H h11 eh11
    have wh11 := wf_I eh11 hw
    exact zq_sub (ls' := [(0, .ref 53), (1, .ref 54), (2, .ref 55)]) [0, 1, 2] rfl H
set_option maxHeartbeats 2000000 in
set_option maxRecDepth 20000 in
theorem r_L_change_145 {d : Nat} {h : AH} {Q : Option Value → AH → Prop}  (hw : zWF h)  (H : vp_in (nI 3) 8 ∧ (vp_in (nI 3) 8 ∧ (∀ h3, h3 = h.sI 54 (nI 3).toNatClampNeg ((h.I 54 (nI 3).toNatClampNeg) + (nI 1)) → vp_in (nI 0) 1 ∧ (∀ h5, h5 = h3.sL 55 (nI 0).toNatClampNeg (0 : Int64) → zQ none m_L_change (d + 1) 159 [(0, .ref 53), (1, .ref 54), (2, .ref 55), (8, .int (nI 0))] [] h5 Q)))) : zQ none m_L_change (d + 1) 145 [(0, .ref 53), (1, .ref 54), (2, .ref 55)] [] h Q := by
  refine zq_aload_n (k := 1) (i := 1) (x := 54) 1 rfl rfl dL_change_145 ?_
  refine zq_iconst (v := (nI 3)) rfl dL_change_146 ?_
  refine zq_dup2 rfl rfl dL_change_147 ?_
  obtain ⟨b1, H⟩ := H
  refine zq_iald (sh_54 hw) b1 dL_change_148 ?_
  refine zq_iconst (v := (nI 1)) rfl dL_change_149 ?_
  refine zq_iadd dL_change_150 ?_
  obtain ⟨b2, H⟩ := H
  refine zq_iast (sh_54 hw) b2 dL_change_151 (fun h3 eh3 => ?_)
  have H := H h3 eh3
  have wh3 := wf_I eh3 hw
  refine zq_aload_n (k := 2) (i := 2) (x := 55) 2 rfl rfl dL_change_152 ?_
  refine zq_iconst (v := (nI 0)) rfl dL_change_153 ?_
  refine zq_lconst (v := 0) rfl dL_change_154 ?_
  obtain ⟨b4, H⟩ := H
  refine zq_last (sh_55 wh3) b4 dL_change_155 (fun h5 eh5 => ?_)
  have H := H h5 eh5
  have wh5 := wf_L eh5 wh3
  refine zq_iconst (v := (nI 0)) rfl dL_change_156 ?_
  refine zq_istore (ls' := [(8, .int (nI 0)), (0, .ref 53), (1, .ref 54), (2, .ref 55)]) (i := 8) (Nat.le_of_ble_eq_true rfl) rfl dL_change_157 ?_
  exact zq_sub (ls' := [(0, .ref 53), (1, .ref 54), (2, .ref 55), (8, .int (nI 0))]) [1, 2, 3, 0] rfl H
set_option maxHeartbeats 2000000 in
set_option maxRecDepth 20000 in
theorem r_L_change_159 {d : Nat} {h : AH} {Q : Option Value → AH → Prop} (i8 : Int32) (hw : zWF h)  (H : ((nI 40) ≤ i8 → Q none h) ∧ (¬ (nI 40) ≤ i8 → vp_in (nI 0) 1 ∧ (vp_in i8 40 ∧ (zK d m_L_bits [.long (h.L 53 i8.toNatClampNeg)] h (pI h fun x4 => zK d m_L_bound [.ref 54] h (pI h fun x5 => (x4 < x5 → vp_in (nI 0) 1 ∧ (∀ h8, h8 = h.sL 55 (nI 0).toNatClampNeg ((h.L 55 (nI 0).toNatClampNeg) ||| (0 : Int64)) → zQ none m_L_change (d + 1) 159 [(0, .ref 53), (1, .ref 54), (2, .ref 55), (8, .int (i8 + (nI 1)))] [] h8 Q)) ∧ (¬ x4 < x5 → vp_in (nI 0) 1 ∧ (∀ h10, h10 = h.sL 55 (nI 0).toNatClampNeg ((h.L 55 (nI 0).toNatClampNeg) ||| ((1 : Int64) <<< (i8.toInt64 &&& 63))) → zQ none m_L_change (d + 1) 159 [(0, .ref 53), (1, .ref 54), (2, .ref 55), (8, .int (i8 + (nI 1)))] [] h10 Q)))))))) : zQ none m_L_change (d + 1) 159 [(0, .ref 53), (1, .ref 54), (2, .ref 55), (8, .int i8)] [] h Q := by
  refine zq_iload (i := 8) (x := i8) 3 rfl dL_change_159 ?_
  refine zq_bipush (v := (nI 40)) rfl dL_change_161 ?_
  refine zq_icmp_ge (tgt := 200) dL_change_163 rfl ⟨fun c1 => ?_, fun c1 => ?_⟩
  · have H := H.1 c1
    refine zq_goto (tgt := 239) dL_change_200 rfl ?_
    exact zq_vret dL_change_239 rfl H
  · have H := H.2 c1
    refine zq_aload_n (k := 2) (i := 2) (x := 55) 2 rfl rfl dL_change_166 ?_
    refine zq_iconst (v := (nI 0)) rfl dL_change_167 ?_
    refine zq_dup2 rfl rfl dL_change_168 ?_
    obtain ⟨b2, H⟩ := H
    refine zq_lald (sh_55 hw) b2 dL_change_169 ?_
    refine zq_aload_n (k := 0) (i := 0) (x := 53) 0 rfl rfl dL_change_170 ?_
    refine zq_iload (i := 8) (x := i8) 3 rfl dL_change_171 ?_
    obtain ⟨b3, H⟩ := H
    refine zq_lald (sh_53 hw) b3 dL_change_173 ?_
    refine zq_invS (as := [.long (h.L 53 i8.toNatClampNeg)]) (st := .long (h.L 55 (nI 0).toNatClampNeg) :: .int (nI 0) :: .ref 55 :: []) st_L_bits mo_L_bits ml_RL_9 rfl (Nat.le_of_ble_eq_true rfl) dL_change_174 rfl H (fun r1 h1 hq => ?_)
    obtain ⟨x4, rfl, rfl, H⟩ := hq
    show zQ none m_L_change (d + 1) 177 [(0, .ref 53), (1, .ref 54), (2, .ref 55), (8, .int i8)] (.int x4 :: .long (h.L 55 (nI 0).toNatClampNeg) :: .int (nI 0) :: .ref 55 :: []) h Q
    refine zq_aload_n (k := 1) (i := 1) (x := 54) 1 rfl rfl dL_change_177 ?_
    refine zq_invS (as := [.ref 54]) (st := .int x4 :: .long (h.L 55 (nI 0).toNatClampNeg) :: .int (nI 0) :: .ref 55 :: []) st_L_bound mo_L_bound ml_RL_19 rfl (Nat.le_of_ble_eq_true rfl) dL_change_178 rfl H (fun r1 h1 hq => ?_)
    obtain ⟨x5, rfl, rfl, H⟩ := hq
    show zQ none m_L_change (d + 1) 181 [(0, .ref 53), (1, .ref 54), (2, .ref 55), (8, .int i8)] (.int x5 :: .int x4 :: .long (h.L 55 (nI 0).toNatClampNeg) :: .int (nI 0) :: .ref 55 :: []) h Q
    refine zq_icmp_lt (tgt := 191) dL_change_181 rfl ⟨fun c6 => ?_, fun c6 => ?_⟩
    · have H := H.1 c6
      refine zq_lconst (v := 0) rfl dL_change_191 ?_
      refine zq_lor dL_change_192 ?_
      obtain ⟨b7, H⟩ := H
      refine zq_last (sh_55 hw) b7 dL_change_193 (fun h8 eh8 => ?_)
      have H := H h8 eh8
      have wh8 := wf_L eh8 hw
      refine zq_iinc (i := 8) (x := i8) (v := (nI 1)) (ls' := [(8, .int (i8 + (nI 1))), (0, .ref 53), (1, .ref 54), (2, .ref 55)]) 3 rfl rfl (Nat.le_of_ble_eq_true rfl) rfl dL_change_194 ?_
      refine zq_goto (tgt := 159) dL_change_197 rfl ?_
      exact zq_sub (ls' := [(0, .ref 53), (1, .ref 54), (2, .ref 55), (8, .int (i8 + (nI 1)))]) [1, 2, 3, 0] rfl H
    · have H := H.2 c6
      refine zq_lconst (v := 1) rfl dL_change_184 ?_
      refine zq_iload (i := 8) (x := i8) 3 rfl dL_change_185 ?_
      refine zq_lshl dL_change_187 ?_
      refine zq_goto (tgt := 192) dL_change_188 rfl ?_
      refine zq_lor dL_change_192 ?_
      obtain ⟨b9, H⟩ := H
      refine zq_last (sh_55 hw) b9 dL_change_193 (fun h10 eh10 => ?_)
      have H := H h10 eh10
      have wh10 := wf_L eh10 hw
      refine zq_iinc (i := 8) (x := i8) (v := (nI 1)) (ls' := [(8, .int (i8 + (nI 1))), (0, .ref 53), (1, .ref 54), (2, .ref 55)]) 3 rfl rfl (Nat.le_of_ble_eq_true rfl) rfl dL_change_194 ?_
      refine zq_goto (tgt := 159) dL_change_197 rfl ?_
      exact zq_sub (ls' := [(0, .ref 53), (1, .ref 54), (2, .ref 55), (8, .int (i8 + (nI 1)))]) [1, 2, 3, 0] rfl H
set_option maxHeartbeats 2000000 in
set_option maxRecDepth 20000 in
theorem r_L_change_203 {d : Nat} {h : AH} {Q : Option Value → AH → Prop} (i3 : Int32) (i4 : Int32) (hw : zWF h)  (H : (i4 ≤ i3 → zK d m_L_looks [.ref 53, .ref 54, .ref 55, .int i4] h (kV fun h2 => (i4 ≤ i3 → zK d m_L_looks [.ref 53, .ref 54, .ref 55, .int i3] h2 (kV fun h4 => Q none h4)) ∧ (¬ i4 ≤ i3 → zK d m_L_looks [.ref 53, .ref 54, .ref 55, .int i4] h2 (kV fun h5 => Q none h5)))) ∧ (¬ i4 ≤ i3 → zK d m_L_looks [.ref 53, .ref 54, .ref 55, .int i3] h (kV fun h6 => (i4 ≤ i3 → zK d m_L_looks [.ref 53, .ref 54, .ref 55, .int i3] h6 (kV fun h8 => Q none h8)) ∧ (¬ i4 ≤ i3 → zK d m_L_looks [.ref 53, .ref 54, .ref 55, .int i4] h6 (kV fun h9 => Q none h9))))) : zQ none m_L_change (d + 1) 203 [(0, .ref 53), (1, .ref 54), (2, .ref 55), (3, .int i3), (4, .int i4)] [] h Q := by
  refine zq_aload_n (k := 0) (i := 0) (x := 53) 0 rfl rfl dL_change_203 ?_
  refine zq_aload_n (k := 1) (i := 1) (x := 54) 1 rfl rfl dL_change_204 ?_
  refine zq_aload_n (k := 2) (i := 2) (x := 55) 2 rfl rfl dL_change_205 ?_
  refine zq_iload_n (k := 3) (i := 3) (x := i3) 3 rfl rfl dL_change_206 ?_
  refine zq_iload (i := 4) (x := i4) 4 rfl dL_change_207 ?_
  refine zq_icmp_ge (tgt := 216) dL_change_209 rfl ⟨fun c1 => ?_, fun c1 => ?_⟩
  · have H := H.1 c1
    refine zq_iload (i := 4) (x := i4) 4 rfl dL_change_216 ?_
    refine zq_invS (as := [.ref 53, .ref 54, .ref 55, .int i4]) (st := []) st_L_looks mo_L_looks ml_RL_23 rfl (Nat.le_of_ble_eq_true rfl) dL_change_218 rfl H (fun r1 h2 hq => ?_)
    obtain ⟨rfl, wh2, H⟩ := hq
    show zQ none m_L_change (d + 1) 221 [(0, .ref 53), (1, .ref 54), (2, .ref 55), (3, .int i3), (4, .int i4)] ([]) h2 Q
    refine zq_aload_n (k := 0) (i := 0) (x := 53) 0 rfl rfl dL_change_221 ?_
    refine zq_aload_n (k := 1) (i := 1) (x := 54) 1 rfl rfl dL_change_222 ?_
    refine zq_aload_n (k := 2) (i := 2) (x := 55) 2 rfl rfl dL_change_223 ?_
    refine zq_iload_n (k := 3) (i := 3) (x := i3) 3 rfl rfl dL_change_224 ?_
    refine zq_iload (i := 4) (x := i4) 4 rfl dL_change_225 ?_
    refine zq_icmp_ge (tgt := 235) dL_change_227 rfl ⟨fun c3 => ?_, fun c3 => ?_⟩
    · have H := H.1 c3
      refine zq_iload_n (k := 3) (i := 3) (x := i3) 3 rfl rfl dL_change_235 ?_
      refine zq_invS (as := [.ref 53, .ref 54, .ref 55, .int i3]) (st := []) st_L_looks mo_L_looks ml_RL_23 rfl (Nat.le_of_ble_eq_true rfl) dL_change_236 rfl H (fun r1 h4 hq => ?_)
      obtain ⟨rfl, wh4, H⟩ := hq
      show zQ none m_L_change (d + 1) 239 [(0, .ref 53), (1, .ref 54), (2, .ref 55), (3, .int i3), (4, .int i4)] ([]) h4 Q
      exact zq_vret dL_change_239 rfl H
    · have H := H.2 c3
      refine zq_iload (i := 4) (x := i4) 4 rfl dL_change_230 ?_
      refine zq_goto (tgt := 236) dL_change_232 rfl ?_
      refine zq_invS (as := [.ref 53, .ref 54, .ref 55, .int i4]) (st := []) st_L_looks mo_L_looks ml_RL_23 rfl (Nat.le_of_ble_eq_true rfl) dL_change_236 rfl H (fun r1 h5 hq => ?_)
      obtain ⟨rfl, wh5, H⟩ := hq
      show zQ none m_L_change (d + 1) 239 [(0, .ref 53), (1, .ref 54), (2, .ref 55), (3, .int i3), (4, .int i4)] ([]) h5 Q
      exact zq_vret dL_change_239 rfl H
  · have H := H.2 c1
    refine zq_iload_n (k := 3) (i := 3) (x := i3) 3 rfl rfl dL_change_212 ?_
    refine zq_goto (tgt := 218) dL_change_213 rfl ?_
    refine zq_invS (as := [.ref 53, .ref 54, .ref 55, .int i3]) (st := []) st_L_looks mo_L_looks ml_RL_23 rfl (Nat.le_of_ble_eq_true rfl) dL_change_218 rfl H (fun r1 h6 hq => ?_)
    obtain ⟨rfl, wh6, H⟩ := hq
    show zQ none m_L_change (d + 1) 221 [(0, .ref 53), (1, .ref 54), (2, .ref 55), (3, .int i3), (4, .int i4)] ([]) h6 Q
    refine zq_aload_n (k := 0) (i := 0) (x := 53) 0 rfl rfl dL_change_221 ?_
    refine zq_aload_n (k := 1) (i := 1) (x := 54) 1 rfl rfl dL_change_222 ?_
    refine zq_aload_n (k := 2) (i := 2) (x := 55) 2 rfl rfl dL_change_223 ?_
    refine zq_iload_n (k := 3) (i := 3) (x := i3) 3 rfl rfl dL_change_224 ?_
    refine zq_iload (i := 4) (x := i4) 4 rfl dL_change_225 ?_
    refine zq_icmp_ge (tgt := 235) dL_change_227 rfl ⟨fun c7 => ?_, fun c7 => ?_⟩
    · have H := H.1 c7
      refine zq_iload_n (k := 3) (i := 3) (x := i3) 3 rfl rfl dL_change_235 ?_
      refine zq_invS (as := [.ref 53, .ref 54, .ref 55, .int i3]) (st := []) st_L_looks mo_L_looks ml_RL_23 rfl (Nat.le_of_ble_eq_true rfl) dL_change_236 rfl H (fun r1 h8 hq => ?_)
      obtain ⟨rfl, wh8, H⟩ := hq
      show zQ none m_L_change (d + 1) 239 [(0, .ref 53), (1, .ref 54), (2, .ref 55), (3, .int i3), (4, .int i4)] ([]) h8 Q
      exact zq_vret dL_change_239 rfl H
    · have H := H.2 c7
      refine zq_iload (i := 4) (x := i4) 4 rfl dL_change_230 ?_
      refine zq_goto (tgt := 236) dL_change_232 rfl ?_
      refine zq_invS (as := [.ref 53, .ref 54, .ref 55, .int i4]) (st := []) st_L_looks mo_L_looks ml_RL_23 rfl (Nat.le_of_ble_eq_true rfl) dL_change_236 rfl H (fun r1 h9 hq => ?_)
      obtain ⟨rfl, wh9, H⟩ := hq
      show zQ none m_L_change (d + 1) 239 [(0, .ref 53), (1, .ref 54), (2, .ref 55), (3, .int i3), (4, .int i4)] ([]) h9 Q
      exact zq_vret dL_change_239 rfl H
set_option maxHeartbeats 2000000 in
set_option maxRecDepth 20000 in
theorem r_L_shared_0 {d : Nat} {h : AH} {Q : Option Value → AH → Prop} (i1 : Int32) (i2 : Int32) (hw : zWF h)  (H : vp_in i1 40 ∧ (vp_in i2 40 ∧ (zK d m_L_bits [.long ((h.L 53 i1.toNatClampNeg) &&& (h.L 53 i2.toNatClampNeg))] h (pI h fun x3 => Q (some (.int x3)) h)))) : zK (d + 1) m_L_shared [.ref 53, .int i1, .int i2] h Q := by
  refine zK_of mo_L_shared (Nat.le_of_ble_eq_true rfl) ?_
  show zQ none m_L_shared (d + 1) 0 [(0, .ref 53), (1, .int i1), (2, .int i2)] [] h Q
  refine zq_aload_n (k := 0) (i := 0) (x := 53) 0 rfl rfl dL_shared_0 ?_
  refine zq_iload_n (k := 1) (i := 1) (x := i1) 1 rfl rfl dL_shared_1 ?_
  obtain ⟨b1, H⟩ := H
  refine zq_lald (sh_53 hw) b1 dL_shared_2 ?_
  refine zq_aload_n (k := 0) (i := 0) (x := 53) 0 rfl rfl dL_shared_3 ?_
  refine zq_iload_n (k := 2) (i := 2) (x := i2) 2 rfl rfl dL_shared_4 ?_
  obtain ⟨b2, H⟩ := H
  refine zq_lald (sh_53 hw) b2 dL_shared_5 ?_
  refine zq_land dL_shared_6 ?_
  refine zq_invS (as := [.long ((h.L 53 i1.toNatClampNeg) &&& (h.L 53 i2.toNatClampNeg))]) (st := []) st_L_bits mo_L_bits ml_RL_9 rfl (Nat.le_of_ble_eq_true rfl) dL_shared_7 rfl H (fun r1 h1 hq => ?_)
  obtain ⟨x3, rfl, rfl, H⟩ := hq
  show zQ none m_L_shared (d + 1) 10 [(0, .ref 53), (1, .int i1), (2, .int i2)] (.int x3 :: []) h Q
  exact zq_iret dL_shared_10 rfl rfl rfl H
set_option maxHeartbeats 2000000 in
set_option maxRecDepth 20000 in
theorem r_L_worth_0 {d : Nat} {h : AH} {Q : Option Value → AH → Prop} (i0 : Int32) (i1 : Int32) (i2 : Int32) (hw : zWF h)  (H : (i1 ≤ i0 → (i1 ≤ i0 → ((i2 &&& (nI 3)) ≠ 0 → ((i2 &&& (nI 3)) ≠ (nI 1) → ((i2 &&& (nI 3)) ≠ (nI 2) → Q (some (.int (((((nI 40) * i1) + i0) * (((nI 40) * i1) + i0)) - (nI 1200000)))) h) ∧ ((i2 &&& (nI 3)) = (nI 2) → Q (some (.int ((nI 2000000) - (((nI 40) * i1) + i0)))) h)) ∧ ((i2 &&& (nI 3)) = (nI 1) → Q (some (.int (((((nI 40) * i1) + i0) - (((nI 40) * i1) + i0) / (nI 7) * (nI 7)) - (nI 3)))) h)) ∧ ((i2 &&& (nI 3)) = 0 → Q (some (.int (nI 1))) h)) ∧ (¬ i1 ≤ i0 → ((i2 &&& (nI 3)) ≠ 0 → ((i2 &&& (nI 3)) ≠ (nI 1) → ((i2 &&& (nI 3)) ≠ (nI 2) → Q (some (.int (((((nI 40) * i1) + i1) * (((nI 40) * i1) + i1)) - (nI 1200000)))) h) ∧ ((i2 &&& (nI 3)) = (nI 2) → Q (some (.int ((nI 2000000) - (((nI 40) * i1) + i1)))) h)) ∧ ((i2 &&& (nI 3)) = (nI 1) → Q (some (.int (((((nI 40) * i1) + i1) - (((nI 40) * i1) + i1) / (nI 7) * (nI 7)) - (nI 3)))) h)) ∧ ((i2 &&& (nI 3)) = 0 → Q (some (.int (nI 1))) h))) ∧ (¬ i1 ≤ i0 → (i1 ≤ i0 → ((i2 &&& (nI 3)) ≠ 0 → ((i2 &&& (nI 3)) ≠ (nI 1) → ((i2 &&& (nI 3)) ≠ (nI 2) → Q (some (.int (((((nI 40) * i0) + i0) * (((nI 40) * i0) + i0)) - (nI 1200000)))) h) ∧ ((i2 &&& (nI 3)) = (nI 2) → Q (some (.int ((nI 2000000) - (((nI 40) * i0) + i0)))) h)) ∧ ((i2 &&& (nI 3)) = (nI 1) → Q (some (.int (((((nI 40) * i0) + i0) - (((nI 40) * i0) + i0) / (nI 7) * (nI 7)) - (nI 3)))) h)) ∧ ((i2 &&& (nI 3)) = 0 → Q (some (.int (nI 1))) h)) ∧ (¬ i1 ≤ i0 → ((i2 &&& (nI 3)) ≠ 0 → ((i2 &&& (nI 3)) ≠ (nI 1) → ((i2 &&& (nI 3)) ≠ (nI 2) → Q (some (.int (((((nI 40) * i0) + i1) * (((nI 40) * i0) + i1)) - (nI 1200000)))) h) ∧ ((i2 &&& (nI 3)) = (nI 2) → Q (some (.int ((nI 2000000) - (((nI 40) * i0) + i1)))) h)) ∧ ((i2 &&& (nI 3)) = (nI 1) → Q (some (.int (((((nI 40) * i0) + i1) - (((nI 40) * i0) + i1) / (nI 7) * (nI 7)) - (nI 3)))) h)) ∧ ((i2 &&& (nI 3)) = 0 → Q (some (.int (nI 1))) h)))) : zK (d + 1) m_L_worth [.int i0, .int i1, .int i2] h Q := by
  refine zK_of mo_L_worth (Nat.le_of_ble_eq_true rfl) ?_
  show zQ none m_L_worth (d + 1) 0 [(0, .int i0), (1, .int i1), (2, .int i2)] [] h Q
  refine zq_bipush (v := (nI 40)) rfl dL_worth_0 ?_
  refine zq_iload_n (k := 0) (i := 0) (x := i0) 0 rfl rfl dL_worth_2 ?_
  refine zq_iload_n (k := 1) (i := 1) (x := i1) 1 rfl rfl dL_worth_3 ?_
  refine zq_icmp_ge (tgt := 11) dL_worth_4 rfl ⟨fun c1 => ?_, fun c1 => ?_⟩
  · have H := H.1 c1
    refine zq_iload_n (k := 1) (i := 1) (x := i1) 1 rfl rfl dL_worth_11 ?_
    refine zq_imul dL_worth_12 ?_
    refine zq_iload_n (k := 0) (i := 0) (x := i0) 0 rfl rfl dL_worth_13 ?_
    refine zq_iload_n (k := 1) (i := 1) (x := i1) 1 rfl rfl dL_worth_14 ?_
    refine zq_icmp_ge (tgt := 22) dL_worth_15 rfl ⟨fun c2 => ?_, fun c2 => ?_⟩
    · have H := H.1 c2
      refine zq_iload_n (k := 0) (i := 0) (x := i0) 0 rfl rfl dL_worth_22 ?_
      refine zq_iadd dL_worth_23 ?_
      refine zq_istore_n (ls' := [(3, .int (((nI 40) * i1) + i0)), (0, .int i0), (1, .int i1), (2, .int i2)]) (k := 3) (i := 3) rfl (Nat.le_of_ble_eq_true rfl) rfl dL_worth_24 ?_
      refine zq_iload_n (k := 2) (i := 2) (x := i2) 3 rfl rfl dL_worth_25 ?_
      refine zq_iconst (v := (nI 3)) rfl dL_worth_26 ?_
      refine zq_iand dL_worth_27 ?_
      refine zq_if_ne (tgt := 35) dL_worth_28 rfl ⟨fun c3 => ?_, fun c3 => ?_⟩
      · have H := H.1 c3
        refine zq_iload_n (k := 2) (i := 2) (x := i2) 3 rfl rfl dL_worth_35 ?_
        refine zq_iconst (v := (nI 3)) rfl dL_worth_36 ?_
        refine zq_iand dL_worth_37 ?_
        refine zq_iconst (v := (nI 1)) rfl dL_worth_38 ?_
        refine zq_icmp_ne (tgt := 51) dL_worth_39 rfl ⟨fun c4 => ?_, fun c4 => ?_⟩
        · have H := H.1 c4
          refine zq_iload_n (k := 2) (i := 2) (x := i2) 3 rfl rfl dL_worth_51 ?_
          refine zq_iconst (v := (nI 3)) rfl dL_worth_52 ?_
          refine zq_iand dL_worth_53 ?_
          refine zq_iconst (v := (nI 2)) rfl dL_worth_54 ?_
          refine zq_icmp_ne (tgt := 65) dL_worth_55 rfl ⟨fun c5 => ?_, fun c5 => ?_⟩
          · have H := H.1 c5
            refine zq_iload_n (k := 3) (i := 3) (x := (((nI 40) * i1) + i0)) 0 rfl rfl dL_worth_65 ?_
            refine zq_iload_n (k := 3) (i := 3) (x := (((nI 40) * i1) + i0)) 0 rfl rfl dL_worth_66 ?_
            refine zq_imul dL_worth_67 ?_
            refine zq_ldc (v := (nI 1200000)) co_RL_40 dL_worth_68 ?_
            refine zq_isub dL_worth_70 ?_
            exact zq_iret dL_worth_71 rfl rfl rfl H
          · have H := H.2 c5
            refine zq_ldc (v := (nI 2000000)) co_RL_39 dL_worth_58 ?_
            refine zq_iload_n (k := 3) (i := 3) (x := (((nI 40) * i1) + i0)) 0 rfl rfl dL_worth_60 ?_
            refine zq_isub dL_worth_61 ?_
            refine zq_goto (tgt := 71) dL_worth_62 rfl ?_
            exact zq_iret dL_worth_71 rfl rfl rfl H
        · have H := H.2 c4
          refine zq_iload_n (k := 3) (i := 3) (x := (((nI 40) * i1) + i0)) 0 rfl rfl dL_worth_42 ?_
          refine zq_bipush (v := (nI 7)) rfl dL_worth_43 ?_
          refine zq_irem (by decide) dL_worth_45 ?_
          refine zq_iconst (v := (nI 3)) rfl dL_worth_46 ?_
          refine zq_isub dL_worth_47 ?_
          refine zq_goto (tgt := 71) dL_worth_48 rfl ?_
          exact zq_iret dL_worth_71 rfl rfl rfl H
      · have H := H.2 c3
        refine zq_iconst (v := (nI 1)) rfl dL_worth_31 ?_
        refine zq_goto (tgt := 71) dL_worth_32 rfl ?_
        exact zq_iret dL_worth_71 rfl rfl rfl H
    · have H := H.2 c2
      refine zq_iload_n (k := 1) (i := 1) (x := i1) 1 rfl rfl dL_worth_18 ?_
      refine zq_goto (tgt := 23) dL_worth_19 rfl ?_
      refine zq_iadd dL_worth_23 ?_
      refine zq_istore_n (ls' := [(3, .int (((nI 40) * i1) + i1)), (0, .int i0), (1, .int i1), (2, .int i2)]) (k := 3) (i := 3) rfl (Nat.le_of_ble_eq_true rfl) rfl dL_worth_24 ?_
      refine zq_iload_n (k := 2) (i := 2) (x := i2) 3 rfl rfl dL_worth_25 ?_
      refine zq_iconst (v := (nI 3)) rfl dL_worth_26 ?_
      refine zq_iand dL_worth_27 ?_
      refine zq_if_ne (tgt := 35) dL_worth_28 rfl ⟨fun c6 => ?_, fun c6 => ?_⟩
      · have H := H.1 c6
        refine zq_iload_n (k := 2) (i := 2) (x := i2) 3 rfl rfl dL_worth_35 ?_
        refine zq_iconst (v := (nI 3)) rfl dL_worth_36 ?_
        refine zq_iand dL_worth_37 ?_
        refine zq_iconst (v := (nI 1)) rfl dL_worth_38 ?_
        refine zq_icmp_ne (tgt := 51) dL_worth_39 rfl ⟨fun c7 => ?_, fun c7 => ?_⟩
        · have H := H.1 c7
          refine zq_iload_n (k := 2) (i := 2) (x := i2) 3 rfl rfl dL_worth_51 ?_
          refine zq_iconst (v := (nI 3)) rfl dL_worth_52 ?_
          refine zq_iand dL_worth_53 ?_
          refine zq_iconst (v := (nI 2)) rfl dL_worth_54 ?_
          refine zq_icmp_ne (tgt := 65) dL_worth_55 rfl ⟨fun c8 => ?_, fun c8 => ?_⟩
          · have H := H.1 c8
            refine zq_iload_n (k := 3) (i := 3) (x := (((nI 40) * i1) + i1)) 0 rfl rfl dL_worth_65 ?_
            refine zq_iload_n (k := 3) (i := 3) (x := (((nI 40) * i1) + i1)) 0 rfl rfl dL_worth_66 ?_
            refine zq_imul dL_worth_67 ?_
            refine zq_ldc (v := (nI 1200000)) co_RL_40 dL_worth_68 ?_
            refine zq_isub dL_worth_70 ?_
            exact zq_iret dL_worth_71 rfl rfl rfl H
          · have H := H.2 c8
            refine zq_ldc (v := (nI 2000000)) co_RL_39 dL_worth_58 ?_
            refine zq_iload_n (k := 3) (i := 3) (x := (((nI 40) * i1) + i1)) 0 rfl rfl dL_worth_60 ?_
            refine zq_isub dL_worth_61 ?_
            refine zq_goto (tgt := 71) dL_worth_62 rfl ?_
            exact zq_iret dL_worth_71 rfl rfl rfl H
        · have H := H.2 c7
          refine zq_iload_n (k := 3) (i := 3) (x := (((nI 40) * i1) + i1)) 0 rfl rfl dL_worth_42 ?_
          refine zq_bipush (v := (nI 7)) rfl dL_worth_43 ?_
          refine zq_irem (by decide) dL_worth_45 ?_
          refine zq_iconst (v := (nI 3)) rfl dL_worth_46 ?_
          refine zq_isub dL_worth_47 ?_
          refine zq_goto (tgt := 71) dL_worth_48 rfl ?_
          exact zq_iret dL_worth_71 rfl rfl rfl H
      · have H := H.2 c6
        refine zq_iconst (v := (nI 1)) rfl dL_worth_31 ?_
        refine zq_goto (tgt := 71) dL_worth_32 rfl ?_
        exact zq_iret dL_worth_71 rfl rfl rfl H
  · have H := H.2 c1
    refine zq_iload_n (k := 0) (i := 0) (x := i0) 0 rfl rfl dL_worth_7 ?_
    refine zq_goto (tgt := 12) dL_worth_8 rfl ?_
    refine zq_imul dL_worth_12 ?_
    refine zq_iload_n (k := 0) (i := 0) (x := i0) 0 rfl rfl dL_worth_13 ?_
    refine zq_iload_n (k := 1) (i := 1) (x := i1) 1 rfl rfl dL_worth_14 ?_
    refine zq_icmp_ge (tgt := 22) dL_worth_15 rfl ⟨fun c9 => ?_, fun c9 => ?_⟩
    · have H := H.1 c9
      refine zq_iload_n (k := 0) (i := 0) (x := i0) 0 rfl rfl dL_worth_22 ?_
      refine zq_iadd dL_worth_23 ?_
      refine zq_istore_n (ls' := [(3, .int (((nI 40) * i0) + i0)), (0, .int i0), (1, .int i1), (2, .int i2)]) (k := 3) (i := 3) rfl (Nat.le_of_ble_eq_true rfl) rfl dL_worth_24 ?_
      refine zq_iload_n (k := 2) (i := 2) (x := i2) 3 rfl rfl dL_worth_25 ?_
      refine zq_iconst (v := (nI 3)) rfl dL_worth_26 ?_
      refine zq_iand dL_worth_27 ?_
      refine zq_if_ne (tgt := 35) dL_worth_28 rfl ⟨fun c10 => ?_, fun c10 => ?_⟩
      · have H := H.1 c10
        refine zq_iload_n (k := 2) (i := 2) (x := i2) 3 rfl rfl dL_worth_35 ?_
        refine zq_iconst (v := (nI 3)) rfl dL_worth_36 ?_
        refine zq_iand dL_worth_37 ?_
        refine zq_iconst (v := (nI 1)) rfl dL_worth_38 ?_
        refine zq_icmp_ne (tgt := 51) dL_worth_39 rfl ⟨fun c11 => ?_, fun c11 => ?_⟩
        · have H := H.1 c11
          refine zq_iload_n (k := 2) (i := 2) (x := i2) 3 rfl rfl dL_worth_51 ?_
          refine zq_iconst (v := (nI 3)) rfl dL_worth_52 ?_
          refine zq_iand dL_worth_53 ?_
          refine zq_iconst (v := (nI 2)) rfl dL_worth_54 ?_
          refine zq_icmp_ne (tgt := 65) dL_worth_55 rfl ⟨fun c12 => ?_, fun c12 => ?_⟩
          · have H := H.1 c12
            refine zq_iload_n (k := 3) (i := 3) (x := (((nI 40) * i0) + i0)) 0 rfl rfl dL_worth_65 ?_
            refine zq_iload_n (k := 3) (i := 3) (x := (((nI 40) * i0) + i0)) 0 rfl rfl dL_worth_66 ?_
            refine zq_imul dL_worth_67 ?_
            refine zq_ldc (v := (nI 1200000)) co_RL_40 dL_worth_68 ?_
            refine zq_isub dL_worth_70 ?_
            exact zq_iret dL_worth_71 rfl rfl rfl H
          · have H := H.2 c12
            refine zq_ldc (v := (nI 2000000)) co_RL_39 dL_worth_58 ?_
            refine zq_iload_n (k := 3) (i := 3) (x := (((nI 40) * i0) + i0)) 0 rfl rfl dL_worth_60 ?_
            refine zq_isub dL_worth_61 ?_
            refine zq_goto (tgt := 71) dL_worth_62 rfl ?_
            exact zq_iret dL_worth_71 rfl rfl rfl H
        · have H := H.2 c11
          refine zq_iload_n (k := 3) (i := 3) (x := (((nI 40) * i0) + i0)) 0 rfl rfl dL_worth_42 ?_
          refine zq_bipush (v := (nI 7)) rfl dL_worth_43 ?_
          refine zq_irem (by decide) dL_worth_45 ?_
          refine zq_iconst (v := (nI 3)) rfl dL_worth_46 ?_
          refine zq_isub dL_worth_47 ?_
          refine zq_goto (tgt := 71) dL_worth_48 rfl ?_
          exact zq_iret dL_worth_71 rfl rfl rfl H
      · have H := H.2 c10
        refine zq_iconst (v := (nI 1)) rfl dL_worth_31 ?_
        refine zq_goto (tgt := 71) dL_worth_32 rfl ?_
        exact zq_iret dL_worth_71 rfl rfl rfl H
    · have H := H.2 c9
      refine zq_iload_n (k := 1) (i := 1) (x := i1) 1 rfl rfl dL_worth_18 ?_
      refine zq_goto (tgt := 23) dL_worth_19 rfl ?_
      refine zq_iadd dL_worth_23 ?_
      refine zq_istore_n (ls' := [(3, .int (((nI 40) * i0) + i1)), (0, .int i0), (1, .int i1), (2, .int i2)]) (k := 3) (i := 3) rfl (Nat.le_of_ble_eq_true rfl) rfl dL_worth_24 ?_
      refine zq_iload_n (k := 2) (i := 2) (x := i2) 3 rfl rfl dL_worth_25 ?_
      refine zq_iconst (v := (nI 3)) rfl dL_worth_26 ?_
      refine zq_iand dL_worth_27 ?_
      refine zq_if_ne (tgt := 35) dL_worth_28 rfl ⟨fun c13 => ?_, fun c13 => ?_⟩
      · have H := H.1 c13
        refine zq_iload_n (k := 2) (i := 2) (x := i2) 3 rfl rfl dL_worth_35 ?_
        refine zq_iconst (v := (nI 3)) rfl dL_worth_36 ?_
        refine zq_iand dL_worth_37 ?_
        refine zq_iconst (v := (nI 1)) rfl dL_worth_38 ?_
        refine zq_icmp_ne (tgt := 51) dL_worth_39 rfl ⟨fun c14 => ?_, fun c14 => ?_⟩
        · have H := H.1 c14
          refine zq_iload_n (k := 2) (i := 2) (x := i2) 3 rfl rfl dL_worth_51 ?_
          refine zq_iconst (v := (nI 3)) rfl dL_worth_52 ?_
          refine zq_iand dL_worth_53 ?_
          refine zq_iconst (v := (nI 2)) rfl dL_worth_54 ?_
          refine zq_icmp_ne (tgt := 65) dL_worth_55 rfl ⟨fun c15 => ?_, fun c15 => ?_⟩
          · have H := H.1 c15
            refine zq_iload_n (k := 3) (i := 3) (x := (((nI 40) * i0) + i1)) 0 rfl rfl dL_worth_65 ?_
            refine zq_iload_n (k := 3) (i := 3) (x := (((nI 40) * i0) + i1)) 0 rfl rfl dL_worth_66 ?_
            refine zq_imul dL_worth_67 ?_
            refine zq_ldc (v := (nI 1200000)) co_RL_40 dL_worth_68 ?_
            refine zq_isub dL_worth_70 ?_
            exact zq_iret dL_worth_71 rfl rfl rfl H
          · have H := H.2 c15
            refine zq_ldc (v := (nI 2000000)) co_RL_39 dL_worth_58 ?_
            refine zq_iload_n (k := 3) (i := 3) (x := (((nI 40) * i0) + i1)) 0 rfl rfl dL_worth_60 ?_
            refine zq_isub dL_worth_61 ?_
            refine zq_goto (tgt := 71) dL_worth_62 rfl ?_
            exact zq_iret dL_worth_71 rfl rfl rfl H
        · have H := H.2 c14
          refine zq_iload_n (k := 3) (i := 3) (x := (((nI 40) * i0) + i1)) 0 rfl rfl dL_worth_42 ?_
          refine zq_bipush (v := (nI 7)) rfl dL_worth_43 ?_
          refine zq_irem (by decide) dL_worth_45 ?_
          refine zq_iconst (v := (nI 3)) rfl dL_worth_46 ?_
          refine zq_isub dL_worth_47 ?_
          refine zq_goto (tgt := 71) dL_worth_48 rfl ?_
          exact zq_iret dL_worth_71 rfl rfl rfl H
      · have H := H.2 c13
        refine zq_iconst (v := (nI 1)) rfl dL_worth_31 ?_
        refine zq_goto (tgt := 71) dL_worth_32 rfl ?_
        exact zq_iret dL_worth_71 rfl rfl rfl H
set_option maxHeartbeats 2000000 in
set_option maxRecDepth 20000 in
theorem r_L_net_0 {d : Nat} {h : AH} {Q : Option Value → AH → Prop} (L : Nat) (xs : Nat → Int32) (i5 : Int32) (i6 : Int32) (hw : zWF h)  (H : zKX (some (L, xs)) d m_L_cell [.ref 0, .int i5] h (pI h fun x1 => zQ (some (L, xs)) m_L_net (d + 1) 9 [(0, .ref 1), (1, .ref 53), (2, .ref 54), (3, .ref 55), (4, .ref 0), (5, .int i5), (6, .int i6), (7, .int x1)] [] h Q)) : zKX (some (L, xs)) (d + 1) m_L_net [.ref 1, .ref 53, .ref 54, .ref 55, .ref 0, .int i5, .int i6] h Q := by
  refine zK_ofX mo_L_net (Nat.le_of_ble_eq_true rfl) ?_
  show zQ (some (L, xs)) m_L_net (d + 1) 0 [(0, .ref 1), (1, .ref 53), (2, .ref 54), (3, .ref 55), (4, .ref 0), (5, .int i5), (6, .int i6)] [] h Q
  refine zq_aload (i := 4) (x := 0) 4 rfl dL_net_0 ?_
  refine zq_iload (i := 5) (x := i5) 5 rfl dL_net_2 ?_
  refine zq_invSY (as := [.ref 0, .int i5]) (st := []) st_L_cell mo_L_cell ml_RL_41 rfl (Nat.le_of_ble_eq_true rfl) dL_net_4 rfl H (fun r1 h1 hq => ?_)
  obtain ⟨x1, rfl, rfl, H⟩ := hq
  show zQ (some (L, xs)) m_L_net (d + 1) 7 [(0, .ref 1), (1, .ref 53), (2, .ref 54), (3, .ref 55), (4, .ref 0), (5, .int i5), (6, .int i6)] (.int x1 :: []) h Q
  refine zq_istore (ls' := [(7, .int x1), (0, .ref 1), (1, .ref 53), (2, .ref 54), (3, .ref 55), (4, .ref 0), (5, .int i5), (6, .int i6)]) (i := 7) (Nat.le_of_ble_eq_true rfl) rfl dL_net_7 ?_
  exact zq_sub (ls' := [(0, .ref 1), (1, .ref 53), (2, .ref 54), (3, .ref 55), (4, .ref 0), (5, .int i5), (6, .int i6), (7, .int x1)]) [1, 2, 3, 4, 5, 6, 7, 0] rfl H
set_option maxHeartbeats 2000000 in
set_option maxRecDepth 20000 in
theorem r_L_net_9 {d : Nat} {h : AH} {Q : Option Value → AH → Prop} (L : Nat) (xs : Nat → Int32) (i5 : Int32) (i6 : Int32) (i7 : Int32) (hw : zWF h)  (H : ((i7 &&& (nI 3)) ≠ 0 → zQ (some (L, xs)) m_L_net (d + 1) 33 [(0, .ref 1), (1, .ref 53), (2, .ref 54), (3, .ref 55), (4, .ref 0), (5, .int i5), (6, .int i6), (7, .int i7), (8, .int ((nI 6) + ((i7 >>> ((nI 2) &&& 31)) &&& (nI 7))))] [] h Q) ∧ ((i7 &&& (nI 3)) = 0 → zQ (some (L, xs)) m_L_net (d + 1) 33 [(0, .ref 1), (1, .ref 53), (2, .ref 54), (3, .ref 55), (4, .ref 0), (5, .int i5), (6, .int i6), (7, .int i7), (8, .int (nI 40))] [] h Q)) : zQ (some (L, xs)) m_L_net (d + 1) 9 [(0, .ref 1), (1, .ref 53), (2, .ref 54), (3, .ref 55), (4, .ref 0), (5, .int i5), (6, .int i6), (7, .int i7)] [] h Q := by
  refine zq_iload (i := 7) (x := i7) 7 rfl dL_net_9 ?_
  refine zq_iconst (v := (nI 3)) rfl dL_net_11 ?_
  refine zq_iand dL_net_12 ?_
  refine zq_if_ne (tgt := 21) dL_net_13 rfl ⟨fun c1 => ?_, fun c1 => ?_⟩
  · have H := H.1 c1
    refine zq_bipush (v := (nI 6)) rfl dL_net_21 ?_
    refine zq_iload (i := 7) (x := i7) 7 rfl dL_net_23 ?_
    refine zq_iconst (v := (nI 2)) rfl dL_net_25 ?_
    refine zq_ishr dL_net_26 ?_
    refine zq_bipush (v := (nI 7)) rfl dL_net_27 ?_
    refine zq_iand dL_net_29 ?_
    refine zq_iadd dL_net_30 ?_
    refine zq_istore (ls' := [(8, .int ((nI 6) + ((i7 >>> ((nI 2) &&& 31)) &&& (nI 7)))), (0, .ref 1), (1, .ref 53), (2, .ref 54), (3, .ref 55), (4, .ref 0), (5, .int i5), (6, .int i6), (7, .int i7)]) (i := 8) (Nat.le_of_ble_eq_true rfl) rfl dL_net_31 ?_
    exact zq_sub (ls' := [(0, .ref 1), (1, .ref 53), (2, .ref 54), (3, .ref 55), (4, .ref 0), (5, .int i5), (6, .int i6), (7, .int i7), (8, .int ((nI 6) + ((i7 >>> ((nI 2) &&& 31)) &&& (nI 7))))]) [1, 2, 3, 4, 5, 6, 7, 8, 0] rfl H
  · have H := H.2 c1
    refine zq_bipush (v := (nI 40)) rfl dL_net_16 ?_
    refine zq_goto (tgt := 31) dL_net_18 rfl ?_
    refine zq_istore (ls' := [(8, .int (nI 40)), (0, .ref 1), (1, .ref 53), (2, .ref 54), (3, .ref 55), (4, .ref 0), (5, .int i5), (6, .int i6), (7, .int i7)]) (i := 8) (Nat.le_of_ble_eq_true rfl) rfl dL_net_31 ?_
    exact zq_sub (ls' := [(0, .ref 1), (1, .ref 53), (2, .ref 54), (3, .ref 55), (4, .ref 0), (5, .int i5), (6, .int i6), (7, .int i7), (8, .int (nI 40))]) [1, 2, 3, 4, 5, 6, 7, 8, 0] rfl H
set_option maxHeartbeats 2000000 in
set_option maxRecDepth 20000 in
theorem r_L_net_33 {d : Nat} {h : AH} {Q : Option Value → AH → Prop} (L : Nat) (xs : Nat → Int32) (i5 : Int32) (i6 : Int32) (i7 : Int32) (i8 : Int32) (hw : zWF h)  (H : vp_in (nI 0) 8 ∧ (∀ h2, h2 = h.sI 54 (nI 0).toNatClampNeg (nI 1) → zQ (some (L, xs)) m_L_net (d + 1) 43 [(0, .ref 1), (1, .ref 53), (2, .ref 54), (3, .ref 55), (4, .ref 0), (5, .int i5), (6, .int i6), (7, .int i7), (8, .int i8), (9, .int (nI 1)), (10, .int (nI 0))] [] h2 Q)) : zQ (some (L, xs)) m_L_net (d + 1) 33 [(0, .ref 1), (1, .ref 53), (2, .ref 54), (3, .ref 55), (4, .ref 0), (5, .int i5), (6, .int i6), (7, .int i7), (8, .int i8)] [] h Q := by
  refine zq_iconst (v := (nI 1)) rfl dL_net_33 ?_
  refine zq_istore (ls' := [(9, .int (nI 1)), (0, .ref 1), (1, .ref 53), (2, .ref 54), (3, .ref 55), (4, .ref 0), (5, .int i5), (6, .int i6), (7, .int i7), (8, .int i8)]) (i := 9) (Nat.le_of_ble_eq_true rfl) rfl dL_net_34 ?_
  refine zq_aload_n (k := 2) (i := 2) (x := 54) 3 rfl rfl dL_net_36 ?_
  refine zq_iconst (v := (nI 0)) rfl dL_net_37 ?_
  refine zq_iconst (v := (nI 1)) rfl dL_net_38 ?_
  obtain ⟨b1, H⟩ := H
  refine zq_iast (sh_54 hw) b1 dL_net_39 (fun h2 eh2 => ?_)
  have H := H h2 eh2
  have wh2 := wf_I eh2 hw
  refine zq_iconst (v := (nI 0)) rfl dL_net_40 ?_
  refine zq_istore (ls' := [(10, .int (nI 0)), (9, .int (nI 1)), (0, .ref 1), (1, .ref 53), (2, .ref 54), (3, .ref 55), (4, .ref 0), (5, .int i5), (6, .int i6), (7, .int i7), (8, .int i8)]) (i := 10) (Nat.le_of_ble_eq_true rfl) rfl dL_net_41 ?_
  exact zq_sub (ls' := [(0, .ref 1), (1, .ref 53), (2, .ref 54), (3, .ref 55), (4, .ref 0), (5, .int i5), (6, .int i6), (7, .int i7), (8, .int i8), (9, .int (nI 1)), (10, .int (nI 0))]) [2, 3, 4, 5, 6, 7, 8, 9, 10, 1, 0] rfl H
set_option maxHeartbeats 2000000 in
set_option maxRecDepth 20000 in
theorem r_L_net_43 {d : Nat} {h : AH} {Q : Option Value → AH → Prop} (L : Nat) (xs : Nat → Int32) (i5 : Int32) (i6 : Int32) (i7 : Int32) (i8 : Int32) (i9 : Int32) (i10 : Int32) (hw : zWF h)  (H : (((nI 8) + ((i7 >>> ((nI 5) &&& 31)) &&& (nI 31))) ≤ i10 → (i9 = 0 ∨ i9 = 1) ∧ Q (some (.int i9)) h) ∧ (¬ ((nI 8) + ((i7 >>> ((nI 5) &&& 31)) &&& (nI 31))) ≤ i10 → zKX (some (L, xs)) d m_L_cell [.ref 0, .int ((i5 + (nI 1)) + i10)] h (pI h fun x3 => zQ (some (L, xs)) m_L_net (d + 1) 72 [(0, .ref 1), (1, .ref 53), (2, .ref 54), (3, .ref 55), (4, .ref 0), (5, .int i5), (6, .int i6), (7, .int i7), (8, .int i8), (9, .int i9), (10, .int i10), (11, .int x3)] [] h Q))) : zQ (some (L, xs)) m_L_net (d + 1) 43 [(0, .ref 1), (1, .ref 53), (2, .ref 54), (3, .ref 55), (4, .ref 0), (5, .int i5), (6, .int i6), (7, .int i7), (8, .int i8), (9, .int i9), (10, .int i10)] [] h Q := by
  refine zq_iload (i := 10) (x := i10) 10 rfl dL_net_43 ?_
  refine zq_bipush (v := (nI 8)) rfl dL_net_45 ?_
  refine zq_iload (i := 7) (x := i7) 7 rfl dL_net_47 ?_
  refine zq_iconst (v := (nI 5)) rfl dL_net_49 ?_
  refine zq_ishr dL_net_50 ?_
  refine zq_bipush (v := (nI 31)) rfl dL_net_51 ?_
  refine zq_iand dL_net_53 ?_
  refine zq_iadd dL_net_54 ?_
  refine zq_icmp_ge (tgt := 256) dL_net_55 rfl ⟨fun c1 => ?_, fun c1 => ?_⟩
  · have H := H.1 c1
    refine zq_iload (i := 9) (x := i9) 9 rfl dL_net_256 ?_
    obtain ⟨z2, H⟩ := H
    exact zq_iret dL_net_258 rfl rfl (zbool z2) H
  · have H := H.2 c1
    refine zq_aload (i := 4) (x := 0) 4 rfl dL_net_58 ?_
    refine zq_iload (i := 5) (x := i5) 5 rfl dL_net_60 ?_
    refine zq_iconst (v := (nI 1)) rfl dL_net_62 ?_
    refine zq_iadd dL_net_63 ?_
    refine zq_iload (i := 10) (x := i10) 10 rfl dL_net_64 ?_
    refine zq_iadd dL_net_66 ?_
    refine zq_invSY (as := [.ref 0, .int ((i5 + (nI 1)) + i10)]) (st := []) st_L_cell mo_L_cell ml_RL_41 rfl (Nat.le_of_ble_eq_true rfl) dL_net_67 rfl H (fun r1 h1 hq => ?_)
    obtain ⟨x3, rfl, rfl, H⟩ := hq
    show zQ (some (L, xs)) m_L_net (d + 1) 70 [(0, .ref 1), (1, .ref 53), (2, .ref 54), (3, .ref 55), (4, .ref 0), (5, .int i5), (6, .int i6), (7, .int i7), (8, .int i8), (9, .int i9), (10, .int i10)] (.int x3 :: []) h Q
    refine zq_istore (ls' := [(11, .int x3), (0, .ref 1), (1, .ref 53), (2, .ref 54), (3, .ref 55), (4, .ref 0), (5, .int i5), (6, .int i6), (7, .int i7), (8, .int i8), (9, .int i9), (10, .int i10)]) (i := 11) (Nat.le_of_ble_eq_true rfl) rfl dL_net_70 ?_
    exact zq_sub (ls' := [(0, .ref 1), (1, .ref 53), (2, .ref 54), (3, .ref 55), (4, .ref 0), (5, .int i5), (6, .int i6), (7, .int i7), (8, .int i8), (9, .int i9), (10, .int i10), (11, .int x3)]) [1, 2, 3, 4, 5, 6, 7, 8, 9, 10, 11, 0] rfl H
set_option maxHeartbeats 2000000 in
set_option maxRecDepth 20000 in
theorem r_L_net_72 {d : Nat} {h : AH} {Q : Option Value → AH → Prop} (L : Nat) (xs : Nat → Int32) (i5 : Int32) (i6 : Int32) (i7 : Int32) (i8 : Int32) (i9 : Int32) (i10 : Int32) (i11 : Int32) (hw : zWF h)  (H : ¬ i8 = 0 ∧ (¬ i8 = 0 ∧ (zQ (some (L, xs)) m_L_net (d + 1) 95 [(0, .ref 1), (1, .ref 53), (2, .ref 54), (3, .ref 55), (4, .ref 0), (5, .int i5), (6, .int i6), (7, .int i7), (8, .int i8), (9, .int i9), (10, .int i10), (11, .int i11), (12, .int ((i11 &&& (nI 63)) - (i11 &&& (nI 63)) / i8 * i8)), (13, .int (((i11 >>> ((nI 6) &&& 31)) &&& (nI 63)) - ((i11 >>> ((nI 6) &&& 31)) &&& (nI 63)) / i8 * i8))] [] h Q))) : zQ (some (L, xs)) m_L_net (d + 1) 72 [(0, .ref 1), (1, .ref 53), (2, .ref 54), (3, .ref 55), (4, .ref 0), (5, .int i5), (6, .int i6), (7, .int i7), (8, .int i8), (9, .int i9), (10, .int i10), (11, .int i11)] [] h Q := by
  refine zq_iload (i := 11) (x := i11) 11 rfl dL_net_72 ?_
  refine zq_bipush (v := (nI 63)) rfl dL_net_74 ?_
  refine zq_iand dL_net_76 ?_
  refine zq_iload (i := 8) (x := i8) 8 rfl dL_net_77 ?_
  obtain ⟨c1, H⟩ := H
  refine zq_irem c1 dL_net_79 ?_
  refine zq_istore (ls' := [(12, .int ((i11 &&& (nI 63)) - (i11 &&& (nI 63)) / i8 * i8)), (0, .ref 1), (1, .ref 53), (2, .ref 54), (3, .ref 55), (4, .ref 0), (5, .int i5), (6, .int i6), (7, .int i7), (8, .int i8), (9, .int i9), (10, .int i10), (11, .int i11)]) (i := 12) (Nat.le_of_ble_eq_true rfl) rfl dL_net_80 ?_
  refine zq_iload (i := 11) (x := i11) 12 rfl dL_net_82 ?_
  refine zq_bipush (v := (nI 6)) rfl dL_net_84 ?_
  refine zq_ishr dL_net_86 ?_
  refine zq_bipush (v := (nI 63)) rfl dL_net_87 ?_
  refine zq_iand dL_net_89 ?_
  refine zq_iload (i := 8) (x := i8) 9 rfl dL_net_90 ?_
  obtain ⟨c2, H⟩ := H
  refine zq_irem c2 dL_net_92 ?_
  refine zq_istore (ls' := [(13, .int (((i11 >>> ((nI 6) &&& 31)) &&& (nI 63)) - ((i11 >>> ((nI 6) &&& 31)) &&& (nI 63)) / i8 * i8)), (12, .int ((i11 &&& (nI 63)) - (i11 &&& (nI 63)) / i8 * i8)), (0, .ref 1), (1, .ref 53), (2, .ref 54), (3, .ref 55), (4, .ref 0), (5, .int i5), (6, .int i6), (7, .int i7), (8, .int i8), (9, .int i9), (10, .int i10), (11, .int i11)]) (i := 13) (Nat.le_of_ble_eq_true rfl) rfl dL_net_93 ?_
  exact zq_sub (ls' := [(0, .ref 1), (1, .ref 53), (2, .ref 54), (3, .ref 55), (4, .ref 0), (5, .int i5), (6, .int i6), (7, .int i7), (8, .int i8), (9, .int i9), (10, .int i10), (11, .int i11), (12, .int ((i11 &&& (nI 63)) - (i11 &&& (nI 63)) / i8 * i8)), (13, .int (((i11 >>> ((nI 6) &&& 31)) &&& (nI 63)) - ((i11 >>> ((nI 6) &&& 31)) &&& (nI 63)) / i8 * i8))]) [2, 3, 4, 5, 6, 7, 8, 9, 10, 11, 12, 13, 1, 0] rfl H
set_option maxHeartbeats 2000000 in
set_option maxRecDepth 20000 in
theorem r_L_net_95 {d : Nat} {h : AH} {Q : Option Value → AH → Prop} (L : Nat) (xs : Nat → Int32) (i5 : Int32) (i6 : Int32) (i7 : Int32) (i8 : Int32) (i9 : Int32) (i10 : Int32) (i11 : Int32) (i12 : Int32) (i13 : Int32) (hw : zWF h)  (H : vp_in i12 40 ∧ (zK d m_L_has [.long (h.L 53 i12.toNatClampNeg), .int i13] h (pI h fun x2 => zQ (some (L, xs)) m_L_net (d + 1) 106 [(0, .ref 1), (1, .ref 53), (2, .ref 54), (3, .ref 55), (4, .ref 0), (5, .int i5), (6, .int i6), (7, .int i7), (8, .int i8), (9, .int i9), (10, .int i10), (11, .int i11), (12, .int i12), (13, .int i13), (14, .int x2)] [] h Q))) : zQ (some (L, xs)) m_L_net (d + 1) 95 [(0, .ref 1), (1, .ref 53), (2, .ref 54), (3, .ref 55), (4, .ref 0), (5, .int i5), (6, .int i6), (7, .int i7), (8, .int i8), (9, .int i9), (10, .int i10), (11, .int i11), (12, .int i12), (13, .int i13)] [] h Q := by
  refine zq_aload_n (k := 1) (i := 1) (x := 53) 1 rfl rfl dL_net_95 ?_
  refine zq_iload (i := 12) (x := i12) 12 rfl dL_net_96 ?_
  obtain ⟨b1, H⟩ := H
  refine zq_lald (sh_53 hw) b1 dL_net_98 ?_
  refine zq_iload (i := 13) (x := i13) 13 rfl dL_net_99 ?_
  refine zq_invS (as := [.long (h.L 53 i12.toNatClampNeg), .int i13]) (st := []) st_L_has mo_L_has ml_RL_15 rfl (Nat.le_of_ble_eq_true rfl) dL_net_101 rfl H (fun r1 h1 hq => ?_)
  obtain ⟨x2, rfl, rfl, H⟩ := hq
  show zQ (some (L, xs)) m_L_net (d + 1) 104 [(0, .ref 1), (1, .ref 53), (2, .ref 54), (3, .ref 55), (4, .ref 0), (5, .int i5), (6, .int i6), (7, .int i7), (8, .int i8), (9, .int i9), (10, .int i10), (11, .int i11), (12, .int i12), (13, .int i13)] (.int x2 :: []) h Q
  refine zq_istore (ls' := [(14, .int x2), (0, .ref 1), (1, .ref 53), (2, .ref 54), (3, .ref 55), (4, .ref 0), (5, .int i5), (6, .int i6), (7, .int i7), (8, .int i8), (9, .int i9), (10, .int i10), (11, .int i11), (12, .int i12), (13, .int i13)]) (i := 14) (Nat.le_of_ble_eq_true rfl) rfl dL_net_104 ?_
  exact zq_sub (ls' := [(0, .ref 1), (1, .ref 53), (2, .ref 54), (3, .ref 55), (4, .ref 0), (5, .int i5), (6, .int i6), (7, .int i7), (8, .int i8), (9, .int i9), (10, .int i10), (11, .int i11), (12, .int i12), (13, .int i13), (14, .int x2)]) [1, 2, 3, 4, 5, 6, 7, 8, 9, 10, 11, 12, 13, 14, 0] rfl H
set_option maxHeartbeats 2000000 in
set_option maxRecDepth 20000 in
theorem r_L_net_106 {d : Nat} {h : AH} {Q : Option Value → AH → Prop} (L : Nat) (xs : Nat → Int32) (i5 : Int32) (i6 : Int32) (i7 : Int32) (i8 : Int32) (i9 : Int32) (i10 : Int32) (i11 : Int32) (i12 : Int32) (i13 : Int32) (i14 : Int32) (hw : zWF h)  (H : (i14 = 0 → zQ (some (L, xs)) m_L_net (d + 1) 128 [(0, .ref 1), (1, .ref 53), (2, .ref 54), (3, .ref 55), (4, .ref 0), (5, .int i5), (6, .int i6), (7, .int i7), (8, .int i8), (9, .int i9), (10, .int i10), (12, .int i12), (13, .int i13), (14, .int i14), (15, .int (nI 0))] [] h Q) ∧ (¬ i14 = 0 → (((i11 >>> ((nI 12) &&& 31)) &&& (nI 3)) ≠ 0 → zQ (some (L, xs)) m_L_net (d + 1) 128 [(0, .ref 1), (1, .ref 53), (2, .ref 54), (3, .ref 55), (4, .ref 0), (5, .int i5), (6, .int i6), (7, .int i7), (8, .int i8), (9, .int i9), (10, .int i10), (12, .int i12), (13, .int i13), (14, .int i14), (15, .int (nI 0))] [] h Q) ∧ (((i11 >>> ((nI 12) &&& 31)) &&& (nI 3)) = 0 → zQ (some (L, xs)) m_L_net (d + 1) 128 [(0, .ref 1), (1, .ref 53), (2, .ref 54), (3, .ref 55), (4, .ref 0), (5, .int i5), (6, .int i6), (7, .int i7), (8, .int i8), (9, .int i9), (10, .int i10), (12, .int i12), (13, .int i13), (14, .int i14), (15, .int (nI 1))] [] h Q))) : zQ (some (L, xs)) m_L_net (d + 1) 106 [(0, .ref 1), (1, .ref 53), (2, .ref 54), (3, .ref 55), (4, .ref 0), (5, .int i5), (6, .int i6), (7, .int i7), (8, .int i8), (9, .int i9), (10, .int i10), (11, .int i11), (12, .int i12), (13, .int i13), (14, .int i14)] [] h Q := by
  refine zq_iload (i := 14) (x := i14) 14 rfl dL_net_106 ?_
  refine zq_if_eq (tgt := 125) dL_net_108 rfl ⟨fun c1 => ?_, fun c1 => ?_⟩
  · have H := H.1 c1
    refine zq_iconst (v := (nI 0)) rfl dL_net_125 ?_
    refine zq_istore (ls' := [(15, .int (nI 0)), (0, .ref 1), (1, .ref 53), (2, .ref 54), (3, .ref 55), (4, .ref 0), (5, .int i5), (6, .int i6), (7, .int i7), (8, .int i8), (9, .int i9), (10, .int i10), (11, .int i11), (12, .int i12), (13, .int i13), (14, .int i14)]) (i := 15) (Nat.le_of_ble_eq_true rfl) rfl dL_net_126 ?_
    exact zq_sub (ls' := [(0, .ref 1), (1, .ref 53), (2, .ref 54), (3, .ref 55), (4, .ref 0), (5, .int i5), (6, .int i6), (7, .int i7), (8, .int i8), (9, .int i9), (10, .int i10), (12, .int i12), (13, .int i13), (14, .int i14), (15, .int (nI 0))]) [1, 2, 3, 4, 5, 6, 7, 8, 9, 10, 11, 13, 14, 15, 0] rfl H
  · have H := H.2 c1
    refine zq_iload (i := 11) (x := i11) 11 rfl dL_net_111 ?_
    refine zq_bipush (v := (nI 12)) rfl dL_net_113 ?_
    refine zq_ishr dL_net_115 ?_
    refine zq_iconst (v := (nI 3)) rfl dL_net_116 ?_
    refine zq_iand dL_net_117 ?_
    refine zq_if_ne (tgt := 125) dL_net_118 rfl ⟨fun c2 => ?_, fun c2 => ?_⟩
    · have H := H.1 c2
      refine zq_iconst (v := (nI 0)) rfl dL_net_125 ?_
      refine zq_istore (ls' := [(15, .int (nI 0)), (0, .ref 1), (1, .ref 53), (2, .ref 54), (3, .ref 55), (4, .ref 0), (5, .int i5), (6, .int i6), (7, .int i7), (8, .int i8), (9, .int i9), (10, .int i10), (11, .int i11), (12, .int i12), (13, .int i13), (14, .int i14)]) (i := 15) (Nat.le_of_ble_eq_true rfl) rfl dL_net_126 ?_
      exact zq_sub (ls' := [(0, .ref 1), (1, .ref 53), (2, .ref 54), (3, .ref 55), (4, .ref 0), (5, .int i5), (6, .int i6), (7, .int i7), (8, .int i8), (9, .int i9), (10, .int i10), (12, .int i12), (13, .int i13), (14, .int i14), (15, .int (nI 0))]) [1, 2, 3, 4, 5, 6, 7, 8, 9, 10, 11, 13, 14, 15, 0] rfl H
    · have H := H.2 c2
      refine zq_iconst (v := (nI 1)) rfl dL_net_121 ?_
      refine zq_goto (tgt := 126) dL_net_122 rfl ?_
      refine zq_istore (ls' := [(15, .int (nI 1)), (0, .ref 1), (1, .ref 53), (2, .ref 54), (3, .ref 55), (4, .ref 0), (5, .int i5), (6, .int i6), (7, .int i7), (8, .int i8), (9, .int i9), (10, .int i10), (11, .int i11), (12, .int i12), (13, .int i13), (14, .int i14)]) (i := 15) (Nat.le_of_ble_eq_true rfl) rfl dL_net_126 ?_
      exact zq_sub (ls' := [(0, .ref 1), (1, .ref 53), (2, .ref 54), (3, .ref 55), (4, .ref 0), (5, .int i5), (6, .int i6), (7, .int i7), (8, .int i8), (9, .int i9), (10, .int i10), (12, .int i12), (13, .int i13), (14, .int i14), (15, .int (nI 1))]) [1, 2, 3, 4, 5, 6, 7, 8, 9, 10, 11, 13, 14, 15, 0] rfl H
set_option maxHeartbeats 2000000 in
set_option maxRecDepth 20000 in
theorem r_L_net_128 {d : Nat} {h : AH} {Q : Option Value → AH → Prop} (L : Nat) (xs : Nat → Int32) (i5 : Int32) (i6 : Int32) (i7 : Int32) (i8 : Int32) (i9 : Int32) (i10 : Int32) (i12 : Int32) (i13 : Int32) (i14 : Int32) (i15 : Int32) (hw : zWF h)  (H : (i12 ≠ i13 → (i14 = 0 → zK d m_L_shared [.ref 53, .int i12, .int i13] h (pI h fun x3 => zQ (some (L, xs)) m_L_net (d + 1) 175 [(0, .ref 1), (1, .ref 53), (2, .ref 54), (3, .ref 55), (4, .ref 0), (5, .int i5), (6, .int i6), (7, .int i7), (8, .int i8), (9, .int i9), (10, .int i10), (12, .int i12), (13, .int i13), (14, .int i14), (15, .int i15), (16, .int x3)] [] h Q)) ∧ (¬ i14 = 0 → (i15 = 0 → zQ (some (L, xs)) m_L_net (d + 1) 175 [(0, .ref 1), (1, .ref 53), (2, .ref 54), (3, .ref 55), (4, .ref 0), (5, .int i5), (6, .int i6), (7, .int i7), (8, .int i8), (9, .int i9), (10, .int i10), (12, .int i12), (13, .int i13), (14, .int i14), (15, .int i15), (16, .int (-3))] [] h Q) ∧ (¬ i15 = 0 → zK d m_L_shared [.ref 53, .int i12, .int i13] h (pI h fun x5 => zQ (some (L, xs)) m_L_net (d + 1) 175 [(0, .ref 1), (1, .ref 53), (2, .ref 54), (3, .ref 55), (4, .ref 0), (5, .int i5), (6, .int i6), (7, .int i7), (8, .int i8), (9, .int i9), (10, .int i10), (12, .int i12), (13, .int i13), (14, .int i14), (15, .int i15), (16, .int x5)] [] h Q)))) ∧ (i12 = i13 → zQ (some (L, xs)) m_L_net (d + 1) 175 [(0, .ref 1), (1, .ref 53), (2, .ref 54), (3, .ref 55), (4, .ref 0), (5, .int i5), (6, .int i6), (7, .int i7), (8, .int i8), (9, .int i9), (10, .int i10), (12, .int i12), (13, .int i13), (14, .int i14), (15, .int i15), (16, .int (-1))] [] h Q)) : zQ (some (L, xs)) m_L_net (d + 1) 128 [(0, .ref 1), (1, .ref 53), (2, .ref 54), (3, .ref 55), (4, .ref 0), (5, .int i5), (6, .int i6), (7, .int i7), (8, .int i8), (9, .int i9), (10, .int i10), (12, .int i12), (13, .int i13), (14, .int i14), (15, .int i15)] [] h Q := by
  refine zq_iload (i := 12) (x := i12) 11 rfl dL_net_128 ?_
  refine zq_iload (i := 13) (x := i13) 12 rfl dL_net_130 ?_
  refine zq_icmp_ne (tgt := 139) dL_net_132 rfl ⟨fun c1 => ?_, fun c1 => ?_⟩
  · have H := H.1 c1
    refine zq_iload (i := 14) (x := i14) 13 rfl dL_net_139 ?_
    refine zq_if_eq (tgt := 165) dL_net_141 rfl ⟨fun c2 => ?_, fun c2 => ?_⟩
    · have H := H.1 c2
      refine zq_aload_n (k := 1) (i := 1) (x := 53) 1 rfl rfl dL_net_165 ?_
      refine zq_iload (i := 12) (x := i12) 11 rfl dL_net_166 ?_
      refine zq_iload (i := 13) (x := i13) 12 rfl dL_net_168 ?_
      refine zq_invS (as := [.ref 53, .int i12, .int i13]) (st := []) st_L_shared mo_L_shared ml_RL_27 rfl (Nat.le_of_ble_eq_true rfl) dL_net_170 rfl H (fun r1 h1 hq => ?_)
      obtain ⟨x3, rfl, rfl, H⟩ := hq
      show zQ (some (L, xs)) m_L_net (d + 1) 173 [(0, .ref 1), (1, .ref 53), (2, .ref 54), (3, .ref 55), (4, .ref 0), (5, .int i5), (6, .int i6), (7, .int i7), (8, .int i8), (9, .int i9), (10, .int i10), (12, .int i12), (13, .int i13), (14, .int i14), (15, .int i15)] (.int x3 :: []) h Q
      refine zq_istore (ls' := [(16, .int x3), (0, .ref 1), (1, .ref 53), (2, .ref 54), (3, .ref 55), (4, .ref 0), (5, .int i5), (6, .int i6), (7, .int i7), (8, .int i8), (9, .int i9), (10, .int i10), (12, .int i12), (13, .int i13), (14, .int i14), (15, .int i15)]) (i := 16) (Nat.le_of_ble_eq_true rfl) rfl dL_net_173 ?_
      exact zq_sub (ls' := [(0, .ref 1), (1, .ref 53), (2, .ref 54), (3, .ref 55), (4, .ref 0), (5, .int i5), (6, .int i6), (7, .int i7), (8, .int i8), (9, .int i9), (10, .int i10), (12, .int i12), (13, .int i13), (14, .int i14), (15, .int i15), (16, .int x3)]) [1, 2, 3, 4, 5, 6, 7, 8, 9, 10, 11, 12, 13, 14, 15, 0] rfl H
    · have H := H.2 c2
      refine zq_iload (i := 15) (x := i15) 14 rfl dL_net_144 ?_
      refine zq_if_eq (tgt := 160) dL_net_146 rfl ⟨fun c4 => ?_, fun c4 => ?_⟩
      · have H := H.1 c4
        refine zq_bipush (v := (-3)) rfl dL_net_160 ?_
        refine zq_goto (tgt := 173) dL_net_162 rfl ?_
        refine zq_istore (ls' := [(16, .int (-3)), (0, .ref 1), (1, .ref 53), (2, .ref 54), (3, .ref 55), (4, .ref 0), (5, .int i5), (6, .int i6), (7, .int i7), (8, .int i8), (9, .int i9), (10, .int i10), (12, .int i12), (13, .int i13), (14, .int i14), (15, .int i15)]) (i := 16) (Nat.le_of_ble_eq_true rfl) rfl dL_net_173 ?_
        exact zq_sub (ls' := [(0, .ref 1), (1, .ref 53), (2, .ref 54), (3, .ref 55), (4, .ref 0), (5, .int i5), (6, .int i6), (7, .int i7), (8, .int i8), (9, .int i9), (10, .int i10), (12, .int i12), (13, .int i13), (14, .int i14), (15, .int i15), (16, .int (-3))]) [1, 2, 3, 4, 5, 6, 7, 8, 9, 10, 11, 12, 13, 14, 15, 0] rfl H
      · have H := H.2 c4
        refine zq_aload_n (k := 1) (i := 1) (x := 53) 1 rfl rfl dL_net_149 ?_
        refine zq_iload (i := 12) (x := i12) 11 rfl dL_net_150 ?_
        refine zq_iload (i := 13) (x := i13) 12 rfl dL_net_152 ?_
        refine zq_invS (as := [.ref 53, .int i12, .int i13]) (st := []) st_L_shared mo_L_shared ml_RL_27 rfl (Nat.le_of_ble_eq_true rfl) dL_net_154 rfl H (fun r1 h1 hq => ?_)
        obtain ⟨x5, rfl, rfl, H⟩ := hq
        show zQ (some (L, xs)) m_L_net (d + 1) 157 [(0, .ref 1), (1, .ref 53), (2, .ref 54), (3, .ref 55), (4, .ref 0), (5, .int i5), (6, .int i6), (7, .int i7), (8, .int i8), (9, .int i9), (10, .int i10), (12, .int i12), (13, .int i13), (14, .int i14), (15, .int i15)] (.int x5 :: []) h Q
        refine zq_goto (tgt := 173) dL_net_157 rfl ?_
        refine zq_istore (ls' := [(16, .int x5), (0, .ref 1), (1, .ref 53), (2, .ref 54), (3, .ref 55), (4, .ref 0), (5, .int i5), (6, .int i6), (7, .int i7), (8, .int i8), (9, .int i9), (10, .int i10), (12, .int i12), (13, .int i13), (14, .int i14), (15, .int i15)]) (i := 16) (Nat.le_of_ble_eq_true rfl) rfl dL_net_173 ?_
        exact zq_sub (ls' := [(0, .ref 1), (1, .ref 53), (2, .ref 54), (3, .ref 55), (4, .ref 0), (5, .int i5), (6, .int i6), (7, .int i7), (8, .int i8), (9, .int i9), (10, .int i10), (12, .int i12), (13, .int i13), (14, .int i14), (15, .int i15), (16, .int x5)]) [1, 2, 3, 4, 5, 6, 7, 8, 9, 10, 11, 12, 13, 14, 15, 0] rfl H
  · have H := H.2 c1
    refine zq_iconst (v := (-1)) rfl dL_net_135 ?_
    refine zq_goto (tgt := 173) dL_net_136 rfl ?_
    refine zq_istore (ls' := [(16, .int (-1)), (0, .ref 1), (1, .ref 53), (2, .ref 54), (3, .ref 55), (4, .ref 0), (5, .int i5), (6, .int i6), (7, .int i7), (8, .int i8), (9, .int i9), (10, .int i10), (12, .int i12), (13, .int i13), (14, .int i14), (15, .int i15)]) (i := 16) (Nat.le_of_ble_eq_true rfl) rfl dL_net_173 ?_
    exact zq_sub (ls' := [(0, .ref 1), (1, .ref 53), (2, .ref 54), (3, .ref 55), (4, .ref 0), (5, .int i5), (6, .int i6), (7, .int i7), (8, .int i8), (9, .int i9), (10, .int i10), (12, .int i12), (13, .int i13), (14, .int i14), (15, .int i15), (16, .int (-1))]) [1, 2, 3, 4, 5, 6, 7, 8, 9, 10, 11, 12, 13, 14, 15, 0] rfl H
set_option maxHeartbeats 2000000 in
set_option maxRecDepth 20000 in
theorem r_L_net_175 {d : Nat} {h : AH} {Q : Option Value → AH → Prop} (L : Nat) (xs : Nat → Int32) (i5 : Int32) (i6 : Int32) (i7 : Int32) (i8 : Int32) (i9 : Int32) (i10 : Int32) (i12 : Int32) (i13 : Int32) (i14 : Int32) (i15 : Int32) (i16 : Int32) (hw : zWF h)  (H : (i15 = 0 → zK d m_L_worth [.int i12, .int i13, .int i6] h (pI h fun x2 => zK d m_X10_add [.ref 1, .int i12, .int i13, .int x2] h (kI fun x4 h3 => (x4 ≠ i16 → zQ (some (L, xs)) m_L_net (d + 1) 223 [(0, .ref 1), (1, .ref 53), (2, .ref 54), (3, .ref 55), (4, .ref 0), (5, .int i5), (6, .int i6), (7, .int i7), (8, .int i8), (9, .int (i9 &&& (nI 0))), (10, .int i10), (12, .int i12), (13, .int i13), (14, .int i14), (15, .int i15)] [] h3 Q) ∧ (x4 = i16 → zQ (some (L, xs)) m_L_net (d + 1) 223 [(0, .ref 1), (1, .ref 53), (2, .ref 54), (3, .ref 55), (4, .ref 0), (5, .int i5), (6, .int i6), (7, .int i7), (8, .int i8), (9, .int (i9 &&& (nI 1))), (10, .int i10), (12, .int i12), (13, .int i13), (14, .int i14), (15, .int i15)] [] h3 Q)))) ∧ (¬ i15 = 0 → zK d m_X10_cut [.ref 1, .int i12, .int i13] h (kI fun x7 h6 => (x7 ≠ i16 → zQ (some (L, xs)) m_L_net (d + 1) 223 [(0, .ref 1), (1, .ref 53), (2, .ref 54), (3, .ref 55), (4, .ref 0), (5, .int i5), (6, .int i6), (7, .int i7), (8, .int i8), (9, .int (i9 &&& (nI 0))), (10, .int i10), (12, .int i12), (13, .int i13), (14, .int i14), (15, .int i15)] [] h6 Q) ∧ (x7 = i16 → zQ (some (L, xs)) m_L_net (d + 1) 223 [(0, .ref 1), (1, .ref 53), (2, .ref 54), (3, .ref 55), (4, .ref 0), (5, .int i5), (6, .int i6), (7, .int i7), (8, .int i8), (9, .int (i9 &&& (nI 1))), (10, .int i10), (12, .int i12), (13, .int i13), (14, .int i14), (15, .int i15)] [] h6 Q)))) : zQ (some (L, xs)) m_L_net (d + 1) 175 [(0, .ref 1), (1, .ref 53), (2, .ref 54), (3, .ref 55), (4, .ref 0), (5, .int i5), (6, .int i6), (7, .int i7), (8, .int i8), (9, .int i9), (10, .int i10), (12, .int i12), (13, .int i13), (14, .int i14), (15, .int i15), (16, .int i16)] [] h Q := by
  refine zq_iload (i := 9) (x := i9) 9 rfl dL_net_175 ?_
  refine zq_iload (i := 15) (x := i15) 14 rfl dL_net_177 ?_
  refine zq_if_eq (tgt := 193) dL_net_179 rfl ⟨fun c1 => ?_, fun c1 => ?_⟩
  · have H := H.1 c1
    refine zq_aload_n (k := 0) (i := 0) (x := 1) 0 rfl rfl dL_net_193 ?_
    refine zq_iload (i := 12) (x := i12) 11 rfl dL_net_194 ?_
    refine zq_iload (i := 13) (x := i13) 12 rfl dL_net_196 ?_
    refine zq_iload (i := 12) (x := i12) 11 rfl dL_net_198 ?_
    refine zq_iload (i := 13) (x := i13) 12 rfl dL_net_200 ?_
    refine zq_iload (i := 6) (x := i6) 6 rfl dL_net_202 ?_
    refine zq_invS (as := [.int i12, .int i13, .int i6]) (st := .int i13 :: .int i12 :: .ref 1 :: .int i9 :: []) st_L_worth mo_L_worth ml_RL_51 rfl (Nat.le_of_ble_eq_true rfl) dL_net_204 rfl H (fun r1 h1 hq => ?_)
    obtain ⟨x2, rfl, rfl, H⟩ := hq
    show zQ (some (L, xs)) m_L_net (d + 1) 207 [(0, .ref 1), (1, .ref 53), (2, .ref 54), (3, .ref 55), (4, .ref 0), (5, .int i5), (6, .int i6), (7, .int i7), (8, .int i8), (9, .int i9), (10, .int i10), (12, .int i12), (13, .int i13), (14, .int i14), (15, .int i15), (16, .int i16)] (.int x2 :: .int i13 :: .int i12 :: .ref 1 :: .int i9 :: []) h Q
    refine zq_invV (as := [.int i12, .int i13, .int x2]) (st := .int i9 :: []) (o := 1) (c := 9) (by decide) rfl (sh_1 hw) in_X10_add se_X10_add mo_X10_add ml_RL_55 rfl (Nat.le_of_ble_eq_true rfl) dL_net_207 rfl H (fun r1 h3 hq => ?_)
    obtain ⟨x4, rfl, wh3, H⟩ := hq
    show zQ (some (L, xs)) m_L_net (d + 1) 210 [(0, .ref 1), (1, .ref 53), (2, .ref 54), (3, .ref 55), (4, .ref 0), (5, .int i5), (6, .int i6), (7, .int i7), (8, .int i8), (9, .int i9), (10, .int i10), (12, .int i12), (13, .int i13), (14, .int i14), (15, .int i15), (16, .int i16)] (.int x4 :: .int i9 :: []) h3 Q
    refine zq_iload (i := 16) (x := i16) 15 rfl dL_net_210 ?_
    refine zq_icmp_ne (tgt := 219) dL_net_212 rfl ⟨fun c5 => ?_, fun c5 => ?_⟩
    · have H := H.1 c5
      refine zq_iconst (v := (nI 0)) rfl dL_net_219 ?_
      refine zq_iand dL_net_220 ?_
      refine zq_istore (ls' := [(9, .int (i9 &&& (nI 0))), (0, .ref 1), (1, .ref 53), (2, .ref 54), (3, .ref 55), (4, .ref 0), (5, .int i5), (6, .int i6), (7, .int i7), (8, .int i8), (10, .int i10), (12, .int i12), (13, .int i13), (14, .int i14), (15, .int i15), (16, .int i16)]) (i := 9) (Nat.le_of_ble_eq_true rfl) rfl dL_net_221 ?_
      exact zq_sub (ls' := [(0, .ref 1), (1, .ref 53), (2, .ref 54), (3, .ref 55), (4, .ref 0), (5, .int i5), (6, .int i6), (7, .int i7), (8, .int i8), (9, .int (i9 &&& (nI 0))), (10, .int i10), (12, .int i12), (13, .int i13), (14, .int i14), (15, .int i15)]) [1, 2, 3, 4, 5, 6, 7, 8, 9, 0, 10, 11, 12, 13, 14] rfl H
    · have H := H.2 c5
      refine zq_iconst (v := (nI 1)) rfl dL_net_215 ?_
      refine zq_goto (tgt := 220) dL_net_216 rfl ?_
      refine zq_iand dL_net_220 ?_
      refine zq_istore (ls' := [(9, .int (i9 &&& (nI 1))), (0, .ref 1), (1, .ref 53), (2, .ref 54), (3, .ref 55), (4, .ref 0), (5, .int i5), (6, .int i6), (7, .int i7), (8, .int i8), (10, .int i10), (12, .int i12), (13, .int i13), (14, .int i14), (15, .int i15), (16, .int i16)]) (i := 9) (Nat.le_of_ble_eq_true rfl) rfl dL_net_221 ?_
      exact zq_sub (ls' := [(0, .ref 1), (1, .ref 53), (2, .ref 54), (3, .ref 55), (4, .ref 0), (5, .int i5), (6, .int i6), (7, .int i7), (8, .int i8), (9, .int (i9 &&& (nI 1))), (10, .int i10), (12, .int i12), (13, .int i13), (14, .int i14), (15, .int i15)]) [1, 2, 3, 4, 5, 6, 7, 8, 9, 0, 10, 11, 12, 13, 14] rfl H
  · have H := H.2 c1
    refine zq_aload_n (k := 0) (i := 0) (x := 1) 0 rfl rfl dL_net_182 ?_
    refine zq_iload (i := 12) (x := i12) 11 rfl dL_net_183 ?_
    refine zq_iload (i := 13) (x := i13) 12 rfl dL_net_185 ?_
    refine zq_invV (as := [.int i12, .int i13]) (st := .int i9 :: []) (o := 1) (c := 9) (by decide) rfl (sh_1 hw) in_X10_cut se_X10_cut mo_X10_cut ml_RL_45 rfl (Nat.le_of_ble_eq_true rfl) dL_net_187 rfl H (fun r1 h6 hq => ?_)
    obtain ⟨x7, rfl, wh6, H⟩ := hq
    show zQ (some (L, xs)) m_L_net (d + 1) 190 [(0, .ref 1), (1, .ref 53), (2, .ref 54), (3, .ref 55), (4, .ref 0), (5, .int i5), (6, .int i6), (7, .int i7), (8, .int i8), (9, .int i9), (10, .int i10), (12, .int i12), (13, .int i13), (14, .int i14), (15, .int i15), (16, .int i16)] (.int x7 :: .int i9 :: []) h6 Q
    refine zq_goto (tgt := 210) dL_net_190 rfl ?_
    refine zq_iload (i := 16) (x := i16) 15 rfl dL_net_210 ?_
    refine zq_icmp_ne (tgt := 219) dL_net_212 rfl ⟨fun c8 => ?_, fun c8 => ?_⟩
    · have H := H.1 c8
      refine zq_iconst (v := (nI 0)) rfl dL_net_219 ?_
      refine zq_iand dL_net_220 ?_
      refine zq_istore (ls' := [(9, .int (i9 &&& (nI 0))), (0, .ref 1), (1, .ref 53), (2, .ref 54), (3, .ref 55), (4, .ref 0), (5, .int i5), (6, .int i6), (7, .int i7), (8, .int i8), (10, .int i10), (12, .int i12), (13, .int i13), (14, .int i14), (15, .int i15), (16, .int i16)]) (i := 9) (Nat.le_of_ble_eq_true rfl) rfl dL_net_221 ?_
      exact zq_sub (ls' := [(0, .ref 1), (1, .ref 53), (2, .ref 54), (3, .ref 55), (4, .ref 0), (5, .int i5), (6, .int i6), (7, .int i7), (8, .int i8), (9, .int (i9 &&& (nI 0))), (10, .int i10), (12, .int i12), (13, .int i13), (14, .int i14), (15, .int i15)]) [1, 2, 3, 4, 5, 6, 7, 8, 9, 0, 10, 11, 12, 13, 14] rfl H
    · have H := H.2 c8
      refine zq_iconst (v := (nI 1)) rfl dL_net_215 ?_
      refine zq_goto (tgt := 220) dL_net_216 rfl ?_
      refine zq_iand dL_net_220 ?_
      refine zq_istore (ls' := [(9, .int (i9 &&& (nI 1))), (0, .ref 1), (1, .ref 53), (2, .ref 54), (3, .ref 55), (4, .ref 0), (5, .int i5), (6, .int i6), (7, .int i7), (8, .int i8), (10, .int i10), (12, .int i12), (13, .int i13), (14, .int i14), (15, .int i15), (16, .int i16)]) (i := 9) (Nat.le_of_ble_eq_true rfl) rfl dL_net_221 ?_
      exact zq_sub (ls' := [(0, .ref 1), (1, .ref 53), (2, .ref 54), (3, .ref 55), (4, .ref 0), (5, .int i5), (6, .int i6), (7, .int i7), (8, .int i8), (9, .int (i9 &&& (nI 1))), (10, .int i10), (12, .int i12), (13, .int i13), (14, .int i14), (15, .int i15)]) [1, 2, 3, 4, 5, 6, 7, 8, 9, 0, 10, 11, 12, 13, 14] rfl H
set_option maxHeartbeats 2000000 in
set_option maxRecDepth 20000 in
theorem r_L_net_223 {d : Nat} {h : AH} {Q : Option Value → AH → Prop} (L : Nat) (xs : Nat → Int32) (i5 : Int32) (i6 : Int32) (i7 : Int32) (i8 : Int32) (i9 : Int32) (i10 : Int32) (i12 : Int32) (i13 : Int32) (i14 : Int32) (i15 : Int32) (hw : zWF h)  (H : (i12 = i13 → zQ (some (L, xs)) m_L_net (d + 1) 250 [(0, .ref 1), (1, .ref 53), (2, .ref 54), (3, .ref 55), (4, .ref 0), (5, .int i5), (6, .int i6), (7, .int i7), (8, .int i8), (9, .int i9), (10, .int i10)] [] h Q) ∧ (¬ i12 = i13 → (i14 = 0 → zK d m_L_change [.ref 53, .ref 54, .ref 55, .int i12, .int i13] h (kV fun h3 => zQ (some (L, xs)) m_L_net (d + 1) 250 [(0, .ref 1), (1, .ref 53), (2, .ref 54), (3, .ref 55), (4, .ref 0), (5, .int i5), (6, .int i6), (7, .int i7), (8, .int i8), (9, .int i9), (10, .int i10)] [] h3 Q)) ∧ (¬ i14 = 0 → (i15 = 0 → zQ (some (L, xs)) m_L_net (d + 1) 250 [(0, .ref 1), (1, .ref 53), (2, .ref 54), (3, .ref 55), (4, .ref 0), (5, .int i5), (6, .int i6), (7, .int i7), (8, .int i8), (9, .int i9), (10, .int i10)] [] h Q) ∧ (¬ i15 = 0 → zK d m_L_change [.ref 53, .ref 54, .ref 55, .int i12, .int i13] h (kV fun h5 => zQ (some (L, xs)) m_L_net (d + 1) 250 [(0, .ref 1), (1, .ref 53), (2, .ref 54), (3, .ref 55), (4, .ref 0), (5, .int i5), (6, .int i6), (7, .int i7), (8, .int i8), (9, .int i9), (10, .int i10)] [] h5 Q))))) : zQ (some (L, xs)) m_L_net (d + 1) 223 [(0, .ref 1), (1, .ref 53), (2, .ref 54), (3, .ref 55), (4, .ref 0), (5, .int i5), (6, .int i6), (7, .int i7), (8, .int i8), (9, .int i9), (10, .int i10), (12, .int i12), (13, .int i13), (14, .int i14), (15, .int i15)] [] h Q := by
  refine zq_iload (i := 12) (x := i12) 11 rfl dL_net_223 ?_
  refine zq_iload (i := 13) (x := i13) 12 rfl dL_net_225 ?_
  refine zq_icmp_eq (tgt := 250) dL_net_227 rfl ⟨fun c1 => ?_, fun c1 => ?_⟩
  · have H := H.1 c1
    exact zq_sub (ls' := [(0, .ref 1), (1, .ref 53), (2, .ref 54), (3, .ref 55), (4, .ref 0), (5, .int i5), (6, .int i6), (7, .int i7), (8, .int i8), (9, .int i9), (10, .int i10)]) [0, 1, 2, 3, 4, 5, 6, 7, 8, 9, 10] rfl H
  · have H := H.2 c1
    refine zq_iload (i := 14) (x := i14) 13 rfl dL_net_230 ?_
    refine zq_if_eq (tgt := 240) dL_net_232 rfl ⟨fun c2 => ?_, fun c2 => ?_⟩
    · have H := H.1 c2
      refine zq_aload_n (k := 1) (i := 1) (x := 53) 1 rfl rfl dL_net_240 ?_
      refine zq_aload_n (k := 2) (i := 2) (x := 54) 2 rfl rfl dL_net_241 ?_
      refine zq_aload_n (k := 3) (i := 3) (x := 55) 3 rfl rfl dL_net_242 ?_
      refine zq_iload (i := 12) (x := i12) 11 rfl dL_net_243 ?_
      refine zq_iload (i := 13) (x := i13) 12 rfl dL_net_245 ?_
      refine zq_invS (as := [.ref 53, .ref 54, .ref 55, .int i12, .int i13]) (st := []) st_L_change mo_L_change ml_RL_58 rfl (Nat.le_of_ble_eq_true rfl) dL_net_247 rfl H (fun r1 h3 hq => ?_)
      obtain ⟨rfl, wh3, H⟩ := hq
      show zQ (some (L, xs)) m_L_net (d + 1) 250 [(0, .ref 1), (1, .ref 53), (2, .ref 54), (3, .ref 55), (4, .ref 0), (5, .int i5), (6, .int i6), (7, .int i7), (8, .int i8), (9, .int i9), (10, .int i10), (12, .int i12), (13, .int i13), (14, .int i14), (15, .int i15)] ([]) h3 Q
      exact zq_sub (ls' := [(0, .ref 1), (1, .ref 53), (2, .ref 54), (3, .ref 55), (4, .ref 0), (5, .int i5), (6, .int i6), (7, .int i7), (8, .int i8), (9, .int i9), (10, .int i10)]) [0, 1, 2, 3, 4, 5, 6, 7, 8, 9, 10] rfl H
    · have H := H.2 c2
      refine zq_iload (i := 15) (x := i15) 14 rfl dL_net_235 ?_
      refine zq_if_eq (tgt := 250) dL_net_237 rfl ⟨fun c4 => ?_, fun c4 => ?_⟩
      · have H := H.1 c4
        exact zq_sub (ls' := [(0, .ref 1), (1, .ref 53), (2, .ref 54), (3, .ref 55), (4, .ref 0), (5, .int i5), (6, .int i6), (7, .int i7), (8, .int i8), (9, .int i9), (10, .int i10)]) [0, 1, 2, 3, 4, 5, 6, 7, 8, 9, 10] rfl H
      · have H := H.2 c4
        refine zq_aload_n (k := 1) (i := 1) (x := 53) 1 rfl rfl dL_net_240 ?_
        refine zq_aload_n (k := 2) (i := 2) (x := 54) 2 rfl rfl dL_net_241 ?_
        refine zq_aload_n (k := 3) (i := 3) (x := 55) 3 rfl rfl dL_net_242 ?_
        refine zq_iload (i := 12) (x := i12) 11 rfl dL_net_243 ?_
        refine zq_iload (i := 13) (x := i13) 12 rfl dL_net_245 ?_
        refine zq_invS (as := [.ref 53, .ref 54, .ref 55, .int i12, .int i13]) (st := []) st_L_change mo_L_change ml_RL_58 rfl (Nat.le_of_ble_eq_true rfl) dL_net_247 rfl H (fun r1 h5 hq => ?_)
        obtain ⟨rfl, wh5, H⟩ := hq
        show zQ (some (L, xs)) m_L_net (d + 1) 250 [(0, .ref 1), (1, .ref 53), (2, .ref 54), (3, .ref 55), (4, .ref 0), (5, .int i5), (6, .int i6), (7, .int i7), (8, .int i8), (9, .int i9), (10, .int i10), (12, .int i12), (13, .int i13), (14, .int i14), (15, .int i15)] ([]) h5 Q
        exact zq_sub (ls' := [(0, .ref 1), (1, .ref 53), (2, .ref 54), (3, .ref 55), (4, .ref 0), (5, .int i5), (6, .int i6), (7, .int i7), (8, .int i8), (9, .int i9), (10, .int i10)]) [0, 1, 2, 3, 4, 5, 6, 7, 8, 9, 10] rfl H
set_option maxHeartbeats 2000000 in
set_option maxRecDepth 20000 in
theorem r_L_net_250 {d : Nat} {h : AH} {Q : Option Value → AH → Prop} (L : Nat) (xs : Nat → Int32) (i5 : Int32) (i6 : Int32) (i7 : Int32) (i8 : Int32) (i9 : Int32) (i10 : Int32) (hw : zWF h)  (H : zQ (some (L, xs)) m_L_net (d + 1) 43 [(0, .ref 1), (1, .ref 53), (2, .ref 54), (3, .ref 55), (4, .ref 0), (5, .int i5), (6, .int i6), (7, .int i7), (8, .int i8), (9, .int i9), (10, .int (i10 + (nI 1)))] [] h Q) : zQ (some (L, xs)) m_L_net (d + 1) 250 [(0, .ref 1), (1, .ref 53), (2, .ref 54), (3, .ref 55), (4, .ref 0), (5, .int i5), (6, .int i6), (7, .int i7), (8, .int i8), (9, .int i9), (10, .int i10)] [] h Q := by
  refine zq_iinc (i := 10) (x := i10) (v := (nI 1)) (ls' := [(10, .int (i10 + (nI 1))), (0, .ref 1), (1, .ref 53), (2, .ref 54), (3, .ref 55), (4, .ref 0), (5, .int i5), (6, .int i6), (7, .int i7), (8, .int i8), (9, .int i9)]) 10 rfl rfl (Nat.le_of_ble_eq_true rfl) rfl dL_net_250 ?_
  refine zq_goto (tgt := 43) dL_net_253 rfl ?_
  exact zq_sub (ls' := [(0, .ref 1), (1, .ref 53), (2, .ref 54), (3, .ref 55), (4, .ref 0), (5, .int i5), (6, .int i6), (7, .int i7), (8, .int i8), (9, .int i9), (10, .int (i10 + (nI 1)))]) [1, 2, 3, 4, 5, 6, 7, 8, 9, 10, 0] rfl H
set_option maxHeartbeats 2000000 in
set_option maxRecDepth 20000 in
theorem r_L_sees_0 {d : Nat} {h : AH} {Q : Option Value → AH → Prop}  (hw : zWF h)  (H : zK d m_X10_told [.ref 1, .int (nI 0)] h (kL fun x2 h1 => vp_in (nI 5) 8 ∧ (((lg_cmp x2 ((h1.I 54 (nI 5).toNatClampNeg).toInt64)) ≠ 0 → zQ none m_L_sees (d + 1) 115 [(0, .ref 1), (1, .ref 53), (4, .int (nI 0))] [] h1 Q) ∧ ((lg_cmp x2 ((h1.I 54 (nI 5).toNatClampNeg).toInt64)) = 0 → zK d m_X10_told [.ref 1, .int (nI 3)] h1 (kL fun x6 h5 => vp_in (nI 0) 8 ∧ (((lg_cmp x6 ((h5.I 54 (nI 0).toNatClampNeg).toInt64)) ≠ 0 → zQ none m_L_sees (d + 1) 115 [(0, .ref 1), (1, .ref 53), (4, .int (nI 0))] [] h5 Q) ∧ ((lg_cmp x6 ((h5.I 54 (nI 0).toNatClampNeg).toInt64)) = 0 → zK d m_X10_told [.ref 1, .int (nI 4)] h5 (kL fun x10 h9 => zK d m_L_bound [.ref 54] h9 (pI h9 fun x11 => ((lg_cmp x10 x11.toInt64) ≠ 0 → zQ none m_L_sees (d + 1) 115 [(0, .ref 1), (1, .ref 53), (4, .int (nI 0))] [] h9 Q) ∧ ((lg_cmp x10 x11.toInt64) = 0 → zK d m_X10_told [.ref 1, .int (nI 5)] h9 (kL fun x14 h13 => vp_in (nI 0) 1 ∧ (((lg_cmp x14 (h13.L 55 (nI 0).toNatClampNeg)) ≠ 0 → zQ none m_L_sees (d + 1) 115 [(0, .ref 1), (1, .ref 53), (4, .int (nI 0))] [] h13 Q) ∧ ((lg_cmp x14 (h13.L 55 (nI 0).toNatClampNeg)) = 0 → zK d m_X10_told [.ref 1, .int (nI 6)] h13 (kL fun x18 h17 => vp_in (nI 1) 8 ∧ (((lg_cmp x18 ((h17.I 54 (nI 1).toNatClampNeg).toInt64)) ≠ 0 → zQ none m_L_sees (d + 1) 115 [(0, .ref 1), (1, .ref 53), (4, .int (nI 0))] [] h17 Q) ∧ ((lg_cmp x18 ((h17.I 54 (nI 1).toNatClampNeg).toInt64)) = 0 → zK d m_X10_told [.ref 1, .int (nI 7)] h17 (kL fun x22 h21 => vp_in (nI 2) 8 ∧ (((lg_cmp x22 ((h21.I 54 (nI 2).toNatClampNeg).toInt64)) ≠ 0 → zQ none m_L_sees (d + 1) 115 [(0, .ref 1), (1, .ref 53), (4, .int (nI 0))] [] h21 Q) ∧ ((lg_cmp x22 ((h21.I 54 (nI 2).toNatClampNeg).toInt64)) = 0 → zK d m_X10_told [.ref 1, .int (nI 8)] h21 (kL fun x26 h25 => vp_in (nI 3) 8 ∧ (((lg_cmp x26 ((h25.I 54 (nI 3).toNatClampNeg).toInt64)) ≠ 0 → zQ none m_L_sees (d + 1) 115 [(0, .ref 1), (1, .ref 53), (4, .int (nI 0))] [] h25 Q) ∧ ((lg_cmp x26 ((h25.I 54 (nI 3).toNatClampNeg).toInt64)) = 0 → zK d m_X10_told [.ref 1, .int (nI 9)] h25 (kL fun x30 h29 => vp_in (nI 4) 8 ∧ (((lg_cmp x30 ((h29.I 54 (nI 4).toNatClampNeg).toInt64)) ≠ 0 → zQ none m_L_sees (d + 1) 115 [(0, .ref 1), (1, .ref 53), (4, .int (nI 0))] [] h29 Q) ∧ ((lg_cmp x30 ((h29.I 54 (nI 4).toNatClampNeg).toInt64)) = 0 → zQ none m_L_sees (d + 1) 115 [(0, .ref 1), (1, .ref 53), (4, .int (nI 1))] [] h29 Q))))))))))))))))))))))))) : zK (d + 1) m_L_sees [.ref 1, .ref 53, .ref 54, .ref 55] h Q := by
  refine zK_of mo_L_sees (Nat.le_of_ble_eq_true rfl) ?_
  show zQ none m_L_sees (d + 1) 0 [(0, .ref 1), (1, .ref 53), (2, .ref 54), (3, .ref 55)] [] h Q
  refine zq_aload_n (k := 0) (i := 0) (x := 1) 0 rfl rfl dL_sees_0 ?_
  refine zq_iconst (v := (nI 0)) rfl dL_sees_1 ?_
  refine zq_invV (as := [.int (nI 0)]) (st := []) (o := 1) (c := 9) (by decide) rfl (sh_1 hw) in_X10_told se_X10_told mo_X10_told ml_RL_62 rfl (Nat.le_of_ble_eq_true rfl) dL_sees_2 rfl H (fun r1 h1 hq => ?_)
  obtain ⟨x2, rfl, wh1, H⟩ := hq
  show zQ none m_L_sees (d + 1) 5 [(0, .ref 1), (1, .ref 53), (2, .ref 54), (3, .ref 55)] (.long x2 :: []) h1 Q
  refine zq_aload_n (k := 2) (i := 2) (x := 54) 2 rfl rfl dL_sees_5 ?_
  refine zq_iconst (v := (nI 5)) rfl dL_sees_6 ?_
  obtain ⟨b3, H⟩ := H
  refine zq_iald (sh_54 wh1) b3 dL_sees_7 ?_
  refine zq_i2l dL_sees_8 ?_
  refine zq_lcmp dL_sees_9 ?_
  refine zq_if_ne (tgt := 112) dL_sees_10 rfl ⟨fun c4 => ?_, fun c4 => ?_⟩
  · have H := H.1 c4
    refine zq_iconst (v := (nI 0)) rfl dL_sees_112 ?_
    refine zq_istore (ls' := [(4, .int (nI 0)), (0, .ref 1), (1, .ref 53), (2, .ref 54), (3, .ref 55)]) (i := 4) (Nat.le_of_ble_eq_true rfl) rfl dL_sees_113 ?_
    exact zq_sub (ls' := [(0, .ref 1), (1, .ref 53), (4, .int (nI 0))]) [1, 2, 0] rfl H
  · have H := H.2 c4
    refine zq_aload_n (k := 0) (i := 0) (x := 1) 0 rfl rfl dL_sees_13 ?_
    refine zq_iconst (v := (nI 3)) rfl dL_sees_14 ?_
    refine zq_invV (as := [.int (nI 3)]) (st := []) (o := 1) (c := 9) (by decide) rfl (sh_1 wh1) in_X10_told se_X10_told mo_X10_told ml_RL_62 rfl (Nat.le_of_ble_eq_true rfl) dL_sees_15 rfl H (fun r1 h5 hq => ?_)
    obtain ⟨x6, rfl, wh5, H⟩ := hq
    show zQ none m_L_sees (d + 1) 18 [(0, .ref 1), (1, .ref 53), (2, .ref 54), (3, .ref 55)] (.long x6 :: []) h5 Q
    refine zq_aload_n (k := 2) (i := 2) (x := 54) 2 rfl rfl dL_sees_18 ?_
    refine zq_iconst (v := (nI 0)) rfl dL_sees_19 ?_
    obtain ⟨b7, H⟩ := H
    refine zq_iald (sh_54 wh5) b7 dL_sees_20 ?_
    refine zq_i2l dL_sees_21 ?_
    refine zq_lcmp dL_sees_22 ?_
    refine zq_if_ne (tgt := 112) dL_sees_23 rfl ⟨fun c8 => ?_, fun c8 => ?_⟩
    · have H := H.1 c8
      refine zq_iconst (v := (nI 0)) rfl dL_sees_112 ?_
      refine zq_istore (ls' := [(4, .int (nI 0)), (0, .ref 1), (1, .ref 53), (2, .ref 54), (3, .ref 55)]) (i := 4) (Nat.le_of_ble_eq_true rfl) rfl dL_sees_113 ?_
      exact zq_sub (ls' := [(0, .ref 1), (1, .ref 53), (4, .int (nI 0))]) [1, 2, 0] rfl H
    · have H := H.2 c8
      refine zq_aload_n (k := 0) (i := 0) (x := 1) 0 rfl rfl dL_sees_26 ?_
      refine zq_iconst (v := (nI 4)) rfl dL_sees_27 ?_
      refine zq_invV (as := [.int (nI 4)]) (st := []) (o := 1) (c := 9) (by decide) rfl (sh_1 wh5) in_X10_told se_X10_told mo_X10_told ml_RL_62 rfl (Nat.le_of_ble_eq_true rfl) dL_sees_28 rfl H (fun r1 h9 hq => ?_)
      obtain ⟨x10, rfl, wh9, H⟩ := hq
      show zQ none m_L_sees (d + 1) 31 [(0, .ref 1), (1, .ref 53), (2, .ref 54), (3, .ref 55)] (.long x10 :: []) h9 Q
      refine zq_aload_n (k := 2) (i := 2) (x := 54) 2 rfl rfl dL_sees_31 ?_
      refine zq_invS (as := [.ref 54]) (st := .long x10 :: []) st_L_bound mo_L_bound ml_RL_19 rfl (Nat.le_of_ble_eq_true rfl) dL_sees_32 rfl H (fun r1 h1 hq => ?_)
      obtain ⟨x11, rfl, rfl, H⟩ := hq
      show zQ none m_L_sees (d + 1) 35 [(0, .ref 1), (1, .ref 53), (2, .ref 54), (3, .ref 55)] (.int x11 :: .long x10 :: []) h9 Q
      refine zq_i2l dL_sees_35 ?_
      refine zq_lcmp dL_sees_36 ?_
      refine zq_if_ne (tgt := 112) dL_sees_37 rfl ⟨fun c12 => ?_, fun c12 => ?_⟩
      · have H := H.1 c12
        refine zq_iconst (v := (nI 0)) rfl dL_sees_112 ?_
        refine zq_istore (ls' := [(4, .int (nI 0)), (0, .ref 1), (1, .ref 53), (2, .ref 54), (3, .ref 55)]) (i := 4) (Nat.le_of_ble_eq_true rfl) rfl dL_sees_113 ?_
        exact zq_sub (ls' := [(0, .ref 1), (1, .ref 53), (4, .int (nI 0))]) [1, 2, 0] rfl H
      · have H := H.2 c12
        refine zq_aload_n (k := 0) (i := 0) (x := 1) 0 rfl rfl dL_sees_40 ?_
        refine zq_iconst (v := (nI 5)) rfl dL_sees_41 ?_
        refine zq_invV (as := [.int (nI 5)]) (st := []) (o := 1) (c := 9) (by decide) rfl (sh_1 wh9) in_X10_told se_X10_told mo_X10_told ml_RL_62 rfl (Nat.le_of_ble_eq_true rfl) dL_sees_42 rfl H (fun r1 h13 hq => ?_)
        obtain ⟨x14, rfl, wh13, H⟩ := hq
        show zQ none m_L_sees (d + 1) 45 [(0, .ref 1), (1, .ref 53), (2, .ref 54), (3, .ref 55)] (.long x14 :: []) h13 Q
        refine zq_aload_n (k := 3) (i := 3) (x := 55) 3 rfl rfl dL_sees_45 ?_
        refine zq_iconst (v := (nI 0)) rfl dL_sees_46 ?_
        obtain ⟨b15, H⟩ := H
        refine zq_lald (sh_55 wh13) b15 dL_sees_47 ?_
        refine zq_lcmp dL_sees_48 ?_
        refine zq_if_ne (tgt := 112) dL_sees_49 rfl ⟨fun c16 => ?_, fun c16 => ?_⟩
        · have H := H.1 c16
          refine zq_iconst (v := (nI 0)) rfl dL_sees_112 ?_
          refine zq_istore (ls' := [(4, .int (nI 0)), (0, .ref 1), (1, .ref 53), (2, .ref 54), (3, .ref 55)]) (i := 4) (Nat.le_of_ble_eq_true rfl) rfl dL_sees_113 ?_
          exact zq_sub (ls' := [(0, .ref 1), (1, .ref 53), (4, .int (nI 0))]) [1, 2, 0] rfl H
        · have H := H.2 c16
          refine zq_aload_n (k := 0) (i := 0) (x := 1) 0 rfl rfl dL_sees_52 ?_
          refine zq_bipush (v := (nI 6)) rfl dL_sees_53 ?_
          refine zq_invV (as := [.int (nI 6)]) (st := []) (o := 1) (c := 9) (by decide) rfl (sh_1 wh13) in_X10_told se_X10_told mo_X10_told ml_RL_62 rfl (Nat.le_of_ble_eq_true rfl) dL_sees_55 rfl H (fun r1 h17 hq => ?_)
          obtain ⟨x18, rfl, wh17, H⟩ := hq
          show zQ none m_L_sees (d + 1) 58 [(0, .ref 1), (1, .ref 53), (2, .ref 54), (3, .ref 55)] (.long x18 :: []) h17 Q
          refine zq_aload_n (k := 2) (i := 2) (x := 54) 2 rfl rfl dL_sees_58 ?_
          refine zq_iconst (v := (nI 1)) rfl dL_sees_59 ?_
          obtain ⟨b19, H⟩ := H
          refine zq_iald (sh_54 wh17) b19 dL_sees_60 ?_
          refine zq_i2l dL_sees_61 ?_
          refine zq_lcmp dL_sees_62 ?_
          refine zq_if_ne (tgt := 112) dL_sees_63 rfl ⟨fun c20 => ?_, fun c20 => ?_⟩
          · have H := H.1 c20
            refine zq_iconst (v := (nI 0)) rfl dL_sees_112 ?_
            refine zq_istore (ls' := [(4, .int (nI 0)), (0, .ref 1), (1, .ref 53), (2, .ref 54), (3, .ref 55)]) (i := 4) (Nat.le_of_ble_eq_true rfl) rfl dL_sees_113 ?_
            exact zq_sub (ls' := [(0, .ref 1), (1, .ref 53), (4, .int (nI 0))]) [1, 2, 0] rfl H
          · have H := H.2 c20
            refine zq_aload_n (k := 0) (i := 0) (x := 1) 0 rfl rfl dL_sees_66 ?_
            refine zq_bipush (v := (nI 7)) rfl dL_sees_67 ?_
            refine zq_invV (as := [.int (nI 7)]) (st := []) (o := 1) (c := 9) (by decide) rfl (sh_1 wh17) in_X10_told se_X10_told mo_X10_told ml_RL_62 rfl (Nat.le_of_ble_eq_true rfl) dL_sees_69 rfl H (fun r1 h21 hq => ?_)
            obtain ⟨x22, rfl, wh21, H⟩ := hq
            show zQ none m_L_sees (d + 1) 72 [(0, .ref 1), (1, .ref 53), (2, .ref 54), (3, .ref 55)] (.long x22 :: []) h21 Q
            refine zq_aload_n (k := 2) (i := 2) (x := 54) 2 rfl rfl dL_sees_72 ?_
            refine zq_iconst (v := (nI 2)) rfl dL_sees_73 ?_
            obtain ⟨b23, H⟩ := H
            refine zq_iald (sh_54 wh21) b23 dL_sees_74 ?_
            refine zq_i2l dL_sees_75 ?_
            refine zq_lcmp dL_sees_76 ?_
            refine zq_if_ne (tgt := 112) dL_sees_77 rfl ⟨fun c24 => ?_, fun c24 => ?_⟩
            · have H := H.1 c24
              refine zq_iconst (v := (nI 0)) rfl dL_sees_112 ?_
              refine zq_istore (ls' := [(4, .int (nI 0)), (0, .ref 1), (1, .ref 53), (2, .ref 54), (3, .ref 55)]) (i := 4) (Nat.le_of_ble_eq_true rfl) rfl dL_sees_113 ?_
              exact zq_sub (ls' := [(0, .ref 1), (1, .ref 53), (4, .int (nI 0))]) [1, 2, 0] rfl H
            · have H := H.2 c24
              refine zq_aload_n (k := 0) (i := 0) (x := 1) 0 rfl rfl dL_sees_80 ?_
              refine zq_bipush (v := (nI 8)) rfl dL_sees_81 ?_
              refine zq_invV (as := [.int (nI 8)]) (st := []) (o := 1) (c := 9) (by decide) rfl (sh_1 wh21) in_X10_told se_X10_told mo_X10_told ml_RL_62 rfl (Nat.le_of_ble_eq_true rfl) dL_sees_83 rfl H (fun r1 h25 hq => ?_)
              obtain ⟨x26, rfl, wh25, H⟩ := hq
              show zQ none m_L_sees (d + 1) 86 [(0, .ref 1), (1, .ref 53), (2, .ref 54), (3, .ref 55)] (.long x26 :: []) h25 Q
              refine zq_aload_n (k := 2) (i := 2) (x := 54) 2 rfl rfl dL_sees_86 ?_
              refine zq_iconst (v := (nI 3)) rfl dL_sees_87 ?_
              obtain ⟨b27, H⟩ := H
              refine zq_iald (sh_54 wh25) b27 dL_sees_88 ?_
              refine zq_i2l dL_sees_89 ?_
              refine zq_lcmp dL_sees_90 ?_
              refine zq_if_ne (tgt := 112) dL_sees_91 rfl ⟨fun c28 => ?_, fun c28 => ?_⟩
              · have H := H.1 c28
                refine zq_iconst (v := (nI 0)) rfl dL_sees_112 ?_
                refine zq_istore (ls' := [(4, .int (nI 0)), (0, .ref 1), (1, .ref 53), (2, .ref 54), (3, .ref 55)]) (i := 4) (Nat.le_of_ble_eq_true rfl) rfl dL_sees_113 ?_
                exact zq_sub (ls' := [(0, .ref 1), (1, .ref 53), (4, .int (nI 0))]) [1, 2, 0] rfl H
              · have H := H.2 c28
                refine zq_aload_n (k := 0) (i := 0) (x := 1) 0 rfl rfl dL_sees_94 ?_
                refine zq_bipush (v := (nI 9)) rfl dL_sees_95 ?_
                refine zq_invV (as := [.int (nI 9)]) (st := []) (o := 1) (c := 9) (by decide) rfl (sh_1 wh25) in_X10_told se_X10_told mo_X10_told ml_RL_62 rfl (Nat.le_of_ble_eq_true rfl) dL_sees_97 rfl H (fun r1 h29 hq => ?_)
                obtain ⟨x30, rfl, wh29, H⟩ := hq
                show zQ none m_L_sees (d + 1) 100 [(0, .ref 1), (1, .ref 53), (2, .ref 54), (3, .ref 55)] (.long x30 :: []) h29 Q
                refine zq_aload_n (k := 2) (i := 2) (x := 54) 2 rfl rfl dL_sees_100 ?_
                refine zq_iconst (v := (nI 4)) rfl dL_sees_101 ?_
                obtain ⟨b31, H⟩ := H
                refine zq_iald (sh_54 wh29) b31 dL_sees_102 ?_
                refine zq_i2l dL_sees_103 ?_
                refine zq_lcmp dL_sees_104 ?_
                refine zq_if_ne (tgt := 112) dL_sees_105 rfl ⟨fun c32 => ?_, fun c32 => ?_⟩
                · have H := H.1 c32
                  refine zq_iconst (v := (nI 0)) rfl dL_sees_112 ?_
                  refine zq_istore (ls' := [(4, .int (nI 0)), (0, .ref 1), (1, .ref 53), (2, .ref 54), (3, .ref 55)]) (i := 4) (Nat.le_of_ble_eq_true rfl) rfl dL_sees_113 ?_
                  exact zq_sub (ls' := [(0, .ref 1), (1, .ref 53), (4, .int (nI 0))]) [1, 2, 0] rfl H
                · have H := H.2 c32
                  refine zq_iconst (v := (nI 1)) rfl dL_sees_108 ?_
                  refine zq_goto (tgt := 113) dL_sees_109 rfl ?_
                  refine zq_istore (ls' := [(4, .int (nI 1)), (0, .ref 1), (1, .ref 53), (2, .ref 54), (3, .ref 55)]) (i := 4) (Nat.le_of_ble_eq_true rfl) rfl dL_sees_113 ?_
                  exact zq_sub (ls' := [(0, .ref 1), (1, .ref 53), (4, .int (nI 1))]) [1, 2, 0] rfl H
set_option maxHeartbeats 2000000 in
set_option maxRecDepth 20000 in
theorem r_L_sees_115 {d : Nat} {h : AH} {Q : Option Value → AH → Prop} (i4 : Int32) (hw : zWF h)  (H : zQ none m_L_sees (d + 1) 118 [(0, .ref 1), (1, .ref 53), (4, .int i4), (5, .int (nI 0))] [] h Q) : zQ none m_L_sees (d + 1) 115 [(0, .ref 1), (1, .ref 53), (4, .int i4)] [] h Q := by
  refine zq_iconst (v := (nI 0)) rfl dL_sees_115 ?_
  refine zq_istore (ls' := [(5, .int (nI 0)), (0, .ref 1), (1, .ref 53), (4, .int i4)]) (i := 5) (Nat.le_of_ble_eq_true rfl) rfl dL_sees_116 ?_
  exact zq_sub (ls' := [(0, .ref 1), (1, .ref 53), (4, .int i4), (5, .int (nI 0))]) [1, 2, 3, 0] rfl H
set_option maxHeartbeats 2000000 in
set_option maxRecDepth 20000 in
theorem r_L_sees_118 {d : Nat} {h : AH} {Q : Option Value → AH → Prop} (i4 : Int32) (i5 : Int32) (hw : zWF h)  (H : ((nI 40) ≤ i5 → (i4 = 0 ∨ i4 = 1) ∧ Q (some (.int i4)) h) ∧ (¬ (nI 40) ≤ i5 → zK d m_X10_near [.ref 1, .int i5] h (kL fun x4 h3 => vp_in i5 40 ∧ (((lg_cmp x4 (h3.L 53 i5.toNatClampNeg)) ≠ 0 → zQ none m_L_sees (d + 1) 118 [(0, .ref 1), (1, .ref 53), (4, .int (i4 &&& (nI 0))), (5, .int (i5 + (nI 1)))] [] h3 Q) ∧ ((lg_cmp x4 (h3.L 53 i5.toNatClampNeg)) = 0 → zQ none m_L_sees (d + 1) 118 [(0, .ref 1), (1, .ref 53), (4, .int (i4 &&& (nI 1))), (5, .int (i5 + (nI 1)))] [] h3 Q))))) : zQ none m_L_sees (d + 1) 118 [(0, .ref 1), (1, .ref 53), (4, .int i4), (5, .int i5)] [] h Q := by
  refine zq_iload (i := 5) (x := i5) 3 rfl dL_sees_118 ?_
  refine zq_bipush (v := (nI 40)) rfl dL_sees_120 ?_
  refine zq_icmp_ge (tgt := 155) dL_sees_122 rfl ⟨fun c1 => ?_, fun c1 => ?_⟩
  · have H := H.1 c1
    refine zq_iload (i := 4) (x := i4) 2 rfl dL_sees_155 ?_
    obtain ⟨z2, H⟩ := H
    exact zq_iret dL_sees_157 rfl rfl (zbool z2) H
  · have H := H.2 c1
    refine zq_iload (i := 4) (x := i4) 2 rfl dL_sees_125 ?_
    refine zq_aload_n (k := 0) (i := 0) (x := 1) 0 rfl rfl dL_sees_127 ?_
    refine zq_iload (i := 5) (x := i5) 3 rfl dL_sees_128 ?_
    refine zq_invV (as := [.int i5]) (st := .int i4 :: []) (o := 1) (c := 9) (by decide) rfl (sh_1 hw) in_X10_near se_X10_near mo_X10_near ml_RL_66 rfl (Nat.le_of_ble_eq_true rfl) dL_sees_130 rfl H (fun r1 h3 hq => ?_)
    obtain ⟨x4, rfl, wh3, H⟩ := hq
    show zQ none m_L_sees (d + 1) 133 [(0, .ref 1), (1, .ref 53), (4, .int i4), (5, .int i5)] (.long x4 :: .int i4 :: []) h3 Q
    refine zq_aload_n (k := 1) (i := 1) (x := 53) 1 rfl rfl dL_sees_133 ?_
    refine zq_iload (i := 5) (x := i5) 3 rfl dL_sees_134 ?_
    obtain ⟨b5, H⟩ := H
    refine zq_lald (sh_53 wh3) b5 dL_sees_136 ?_
    refine zq_lcmp dL_sees_137 ?_
    refine zq_if_ne (tgt := 145) dL_sees_138 rfl ⟨fun c6 => ?_, fun c6 => ?_⟩
    · have H := H.1 c6
      refine zq_iconst (v := (nI 0)) rfl dL_sees_145 ?_
      refine zq_iand dL_sees_146 ?_
      refine zq_istore (ls' := [(4, .int (i4 &&& (nI 0))), (0, .ref 1), (1, .ref 53), (5, .int i5)]) (i := 4) (Nat.le_of_ble_eq_true rfl) rfl dL_sees_147 ?_
      refine zq_iinc (i := 5) (x := i5) (v := (nI 1)) (ls' := [(5, .int (i5 + (nI 1))), (4, .int (i4 &&& (nI 0))), (0, .ref 1), (1, .ref 53)]) 3 rfl rfl (Nat.le_of_ble_eq_true rfl) rfl dL_sees_149 ?_
      refine zq_goto (tgt := 118) dL_sees_152 rfl ?_
      exact zq_sub (ls' := [(0, .ref 1), (1, .ref 53), (4, .int (i4 &&& (nI 0))), (5, .int (i5 + (nI 1)))]) [2, 3, 1, 0] rfl H
    · have H := H.2 c6
      refine zq_iconst (v := (nI 1)) rfl dL_sees_141 ?_
      refine zq_goto (tgt := 146) dL_sees_142 rfl ?_
      refine zq_iand dL_sees_146 ?_
      refine zq_istore (ls' := [(4, .int (i4 &&& (nI 1))), (0, .ref 1), (1, .ref 53), (5, .int i5)]) (i := 4) (Nat.le_of_ble_eq_true rfl) rfl dL_sees_147 ?_
      refine zq_iinc (i := 5) (x := i5) (v := (nI 1)) (ls' := [(5, .int (i5 + (nI 1))), (4, .int (i4 &&& (nI 1))), (0, .ref 1), (1, .ref 53)]) 3 rfl rfl (Nat.le_of_ble_eq_true rfl) rfl dL_sees_149 ?_
      refine zq_goto (tgt := 118) dL_sees_152 rfl ?_
      exact zq_sub (ls' := [(0, .ref 1), (1, .ref 53), (4, .int (i4 &&& (nI 1))), (5, .int (i5 + (nI 1)))]) [2, 3, 1, 0] rfl H
set_option maxHeartbeats 2000000 in
set_option maxRecDepth 20000 in
theorem r_L_law_23 {d : Nat} {h : AH} {Q : Option Value → AH → Prop} (L : Nat) (xs : Nat → Int32)  (hw : zWF h)  (H : zKX (some (L, xs)) d m_L_cell [.ref 0, .int (nI 0)] h (pI h fun x1 => zQ (some (L, xs)) m_L_law (d + 1) 30 [(0, .ref 0), (1, .ref 1), (2, .ref 53), (3, .ref 54), (4, .ref 55), (5, .int x1)] [] h Q)) : zQ (some (L, xs)) m_L_law (d + 1) 23 [(0, .ref 0), (1, .ref 1), (2, .ref 53), (3, .ref 54), (4, .ref 55)] [] h Q := by
  refine zq_aload_n (k := 0) (i := 0) (x := 0) 0 rfl rfl dL_law_23 ?_
  refine zq_iconst (v := (nI 0)) rfl dL_law_24 ?_
  refine zq_invSY (as := [.ref 0, .int (nI 0)]) (st := []) st_L_cell mo_L_cell ml_RL_41 rfl (Nat.le_of_ble_eq_true rfl) dL_law_25 rfl H (fun r1 h1 hq => ?_)
  obtain ⟨x1, rfl, rfl, H⟩ := hq
  show zQ (some (L, xs)) m_L_law (d + 1) 28 [(0, .ref 0), (1, .ref 1), (2, .ref 53), (3, .ref 54), (4, .ref 55)] (.int x1 :: []) h Q
  refine zq_istore (ls' := [(5, .int x1), (0, .ref 0), (1, .ref 1), (2, .ref 53), (3, .ref 54), (4, .ref 55)]) (i := 5) (Nat.le_of_ble_eq_true rfl) rfl dL_law_28 ?_
  exact zq_sub (ls' := [(0, .ref 0), (1, .ref 1), (2, .ref 53), (3, .ref 54), (4, .ref 55), (5, .int x1)]) [1, 2, 3, 4, 5, 0] rfl H
set_option maxHeartbeats 2000000 in
set_option maxRecDepth 20000 in
theorem r_L_law_30 {d : Nat} {h : AH} {Q : Option Value → AH → Prop} (L : Nat) (xs : Nat → Int32) (i5 : Int32) (hw : zWF h)  (H : zKX (some (L, xs)) d m_L_net [.ref 1, .ref 53, .ref 54, .ref 55, .ref 0, .int (nI 1), .int i5] h (kI fun x2 h1 => (x2 ≠ 0 → zQ (some (L, xs)) m_L_law (d + 1) 47 [(0, .ref 0), (1, .ref 1), (2, .ref 53), (3, .ref 54), (4, .ref 55)] [] h1 Q) ∧ (x2 = 0 → Q (some (.int (nI 0))) h1))) : zQ (some (L, xs)) m_L_law (d + 1) 30 [(0, .ref 0), (1, .ref 1), (2, .ref 53), (3, .ref 54), (4, .ref 55), (5, .int i5)] [] h Q := by
  refine zq_aload_n (k := 1) (i := 1) (x := 1) 1 rfl rfl dL_law_30 ?_
  refine zq_aload_n (k := 2) (i := 2) (x := 53) 2 rfl rfl dL_law_31 ?_
  refine zq_aload_n (k := 3) (i := 3) (x := 54) 3 rfl rfl dL_law_32 ?_
  refine zq_aload (i := 4) (x := 55) 4 rfl dL_law_33 ?_
  refine zq_aload_n (k := 0) (i := 0) (x := 0) 0 rfl rfl dL_law_35 ?_
  refine zq_iconst (v := (nI 1)) rfl dL_law_36 ?_
  refine zq_iload (i := 5) (x := i5) 5 rfl dL_law_37 ?_
  refine zq_invSY (as := [.ref 1, .ref 53, .ref 54, .ref 55, .ref 0, .int (nI 1), .int i5]) (st := []) st_L_net mo_L_net ml_RL_70 rfl (Nat.le_of_ble_eq_true rfl) dL_law_39 rfl H (fun r1 h1 hq => ?_)
  obtain ⟨x2, rfl, wh1, H⟩ := hq
  show zQ (some (L, xs)) m_L_law (d + 1) 42 [(0, .ref 0), (1, .ref 1), (2, .ref 53), (3, .ref 54), (4, .ref 55), (5, .int i5)] (.int x2 :: []) h1 Q
  refine zq_if_ne (tgt := 47) dL_law_42 rfl ⟨fun c3 => ?_, fun c3 => ?_⟩
  · have H := H.1 c3
    exact zq_sub (ls' := [(0, .ref 0), (1, .ref 1), (2, .ref 53), (3, .ref 54), (4, .ref 55)]) [0, 1, 2, 3, 4] rfl H
  · have H := H.2 c3
    refine zq_iconst (v := (nI 0)) rfl dL_law_45 ?_
    exact zq_iret dL_law_46 rfl rfl rfl H
set_option maxHeartbeats 2000000 in
set_option maxRecDepth 20000 in
theorem r_L_law_47 {d : Nat} {h : AH} {Q : Option Value → AH → Prop} (L : Nat) (xs : Nat → Int32)  (hw : zWF h)  (H : zQ (some (L, xs)) m_L_law (d + 1) 51 [(0, .ref 0), (1, .ref 1), (2, .ref 53), (3, .ref 54), (4, .ref 55), (6, .int (nI 42))] [] h Q) : zQ (some (L, xs)) m_L_law (d + 1) 47 [(0, .ref 0), (1, .ref 1), (2, .ref 53), (3, .ref 54), (4, .ref 55)] [] h Q := by
  refine zq_bipush (v := (nI 42)) rfl dL_law_47 ?_
  refine zq_istore (ls' := [(6, .int (nI 42)), (0, .ref 0), (1, .ref 1), (2, .ref 53), (3, .ref 54), (4, .ref 55)]) (i := 6) (Nat.le_of_ble_eq_true rfl) rfl dL_law_49 ?_
  exact zq_sub (ls' := [(0, .ref 0), (1, .ref 1), (2, .ref 53), (3, .ref 54), (4, .ref 55), (6, .int (nI 42))]) [1, 2, 3, 4, 5, 0] rfl H
set_option maxHeartbeats 2000000 in
set_option maxRecDepth 20000 in
theorem r_L_law_51 {d : Nat} {h : AH} {Q : Option Value → AH → Prop} (L : Nat) (xs : Nat → Int32) (i6 : Int32) (hw : zWF h)  (H : ((nI L) ≤ i6 → zQ (some (L, xs)) m_L_law (d + 1) 741 [] [] h Q) ∧ (¬ (nI L) ≤ i6 → ((nI 64) ≤ i6 → zQ (some (L, xs)) m_L_law (d + 1) 741 [] [] h Q) ∧ (¬ (nI 64) ≤ i6 → zQ (some (L, xs)) m_L_law (d + 1) 65 [(0, .ref 0), (1, .ref 1), (2, .ref 53), (3, .ref 54), (4, .ref 55), (6, .int i6)] [] h Q))) : zQ (some (L, xs)) m_L_law (d + 1) 51 [(0, .ref 0), (1, .ref 1), (2, .ref 53), (3, .ref 54), (4, .ref 55), (6, .int i6)] [] h Q := by
  refine zq_iload (i := 6) (x := i6) 5 rfl dL_law_51 ?_
  refine zq_aload_n (k := 0) (i := 0) (x := 0) 0 rfl rfl dL_law_53 ?_
  refine zq_slen (v := nI L) rfl dL_law_54 ?_
  refine zq_icmp_ge (tgt := 741) dL_law_55 rfl ⟨fun c1 => ?_, fun c1 => ?_⟩
  · have H := H.1 c1
    exact zq_sub (ls' := []) [] rfl H
  · have H := H.2 c1
    refine zq_iload (i := 6) (x := i6) 5 rfl dL_law_58 ?_
    refine zq_bipush (v := (nI 64)) rfl dL_law_60 ?_
    refine zq_icmp_ge (tgt := 741) dL_law_62 rfl ⟨fun c2 => ?_, fun c2 => ?_⟩
    · have H := H.1 c2
      exact zq_sub (ls' := []) [] rfl H
    · have H := H.2 c2
      exact H
set_option maxHeartbeats 2000000 in
set_option maxRecDepth 20000 in
theorem r_L_law_65 {d : Nat} {h : AH} {Q : Option Value → AH → Prop} (L : Nat) (xs : Nat → Int32) (i6 : Int32) (hw : zWF h)  (H : zKX (some (L, xs)) d m_L_cell [.ref 0, .int i6] h (pI h fun x1 => zQ (some (L, xs)) m_L_law (d + 1) 73 [(0, .ref 0), (1, .ref 1), (2, .ref 53), (3, .ref 54), (4, .ref 55), (6, .int i6), (7, .int x1)] [] h Q)) : zQ (some (L, xs)) m_L_law (d + 1) 65 [(0, .ref 0), (1, .ref 1), (2, .ref 53), (3, .ref 54), (4, .ref 55), (6, .int i6)] [] h Q := by
  refine zq_aload_n (k := 0) (i := 0) (x := 0) 0 rfl rfl dL_law_65 ?_
  refine zq_iload (i := 6) (x := i6) 5 rfl dL_law_66 ?_
  refine zq_invSY (as := [.ref 0, .int i6]) (st := []) st_L_cell mo_L_cell ml_RL_41 rfl (Nat.le_of_ble_eq_true rfl) dL_law_68 rfl H (fun r1 h1 hq => ?_)
  obtain ⟨x1, rfl, rfl, H⟩ := hq
  show zQ (some (L, xs)) m_L_law (d + 1) 71 [(0, .ref 0), (1, .ref 1), (2, .ref 53), (3, .ref 54), (4, .ref 55), (6, .int i6)] (.int x1 :: []) h Q
  refine zq_istore (ls' := [(7, .int x1), (0, .ref 0), (1, .ref 1), (2, .ref 53), (3, .ref 54), (4, .ref 55), (6, .int i6)]) (i := 7) (Nat.le_of_ble_eq_true rfl) rfl dL_law_71 ?_
  exact zq_sub (ls' := [(0, .ref 0), (1, .ref 1), (2, .ref 53), (3, .ref 54), (4, .ref 55), (6, .int i6), (7, .int x1)]) [1, 2, 3, 4, 5, 6, 0] rfl H
set_option maxHeartbeats 2000000 in
set_option maxRecDepth 20000 in
theorem r_L_law_73 {d : Nat} {h : AH} {Q : Option Value → AH → Prop} (L : Nat) (xs : Nat → Int32) (i6 : Int32) (i7 : Int32) (hw : zWF h)  (H : (((i7 >>> ((nI 3) &&& 31)) &&& (nI 3)) ≠ 0 → zQ (some (L, xs)) m_L_law (d + 1) 91 [(0, .ref 0), (1, .ref 1), (2, .ref 53), (3, .ref 54), (4, .ref 55), (6, .int i6), (7, .int i7), (8, .int (nI 9))] [] h Q) ∧ (((i7 >>> ((nI 3) &&& 31)) &&& (nI 3)) = 0 → zQ (some (L, xs)) m_L_law (d + 1) 91 [(0, .ref 0), (1, .ref 1), (2, .ref 53), (3, .ref 54), (4, .ref 55), (6, .int i6), (7, .int i7), (8, .int (nI 40))] [] h Q)) : zQ (some (L, xs)) m_L_law (d + 1) 73 [(0, .ref 0), (1, .ref 1), (2, .ref 53), (3, .ref 54), (4, .ref 55), (6, .int i6), (7, .int i7)] [] h Q := by
  refine zq_iload (i := 7) (x := i7) 6 rfl dL_law_73 ?_
  refine zq_iconst (v := (nI 3)) rfl dL_law_75 ?_
  refine zq_ishr dL_law_76 ?_
  refine zq_iconst (v := (nI 3)) rfl dL_law_77 ?_
  refine zq_iand dL_law_78 ?_
  refine zq_if_ne (tgt := 87) dL_law_79 rfl ⟨fun c1 => ?_, fun c1 => ?_⟩
  · have H := H.1 c1
    refine zq_bipush (v := (nI 9)) rfl dL_law_87 ?_
    refine zq_istore (ls' := [(8, .int (nI 9)), (0, .ref 0), (1, .ref 1), (2, .ref 53), (3, .ref 54), (4, .ref 55), (6, .int i6), (7, .int i7)]) (i := 8) (Nat.le_of_ble_eq_true rfl) rfl dL_law_89 ?_
    exact zq_sub (ls' := [(0, .ref 0), (1, .ref 1), (2, .ref 53), (3, .ref 54), (4, .ref 55), (6, .int i6), (7, .int i7), (8, .int (nI 9))]) [1, 2, 3, 4, 5, 6, 7, 0] rfl H
  · have H := H.2 c1
    refine zq_bipush (v := (nI 40)) rfl dL_law_82 ?_
    refine zq_goto (tgt := 89) dL_law_84 rfl ?_
    refine zq_istore (ls' := [(8, .int (nI 40)), (0, .ref 0), (1, .ref 1), (2, .ref 53), (3, .ref 54), (4, .ref 55), (6, .int i6), (7, .int i7)]) (i := 8) (Nat.le_of_ble_eq_true rfl) rfl dL_law_89 ?_
    exact zq_sub (ls' := [(0, .ref 0), (1, .ref 1), (2, .ref 53), (3, .ref 54), (4, .ref 55), (6, .int i6), (7, .int i7), (8, .int (nI 40))]) [1, 2, 3, 4, 5, 6, 7, 0] rfl H
set_option maxHeartbeats 2000000 in
set_option maxRecDepth 20000 in
theorem r_L_law_91 {d : Nat} {h : AH} {Q : Option Value → AH → Prop} (L : Nat) (xs : Nat → Int32) (i6 : Int32) (i7 : Int32) (i8 : Int32) (hw : zWF h)  (H : ¬ i8 = 0 ∧ (zQ (some (L, xs)) m_L_law (d + 1) 103 [(0, .ref 0), (1, .ref 1), (2, .ref 53), (3, .ref 54), (4, .ref 55), (6, .int i6), (7, .int i7), (8, .int i8), (9, .int (((i7 >>> ((nI 5) &&& 31)) &&& (nI 63)) - ((i7 >>> ((nI 5) &&& 31)) &&& (nI 63)) / i8 * i8))] [] h Q)) : zQ (some (L, xs)) m_L_law (d + 1) 91 [(0, .ref 0), (1, .ref 1), (2, .ref 53), (3, .ref 54), (4, .ref 55), (6, .int i6), (7, .int i7), (8, .int i8)] [] h Q := by
  refine zq_iload (i := 7) (x := i7) 6 rfl dL_law_91 ?_
  refine zq_iconst (v := (nI 5)) rfl dL_law_93 ?_
  refine zq_ishr dL_law_94 ?_
  refine zq_bipush (v := (nI 63)) rfl dL_law_95 ?_
  refine zq_iand dL_law_97 ?_
  refine zq_iload (i := 8) (x := i8) 7 rfl dL_law_98 ?_
  obtain ⟨c1, H⟩ := H
  refine zq_irem c1 dL_law_100 ?_
  refine zq_istore (ls' := [(9, .int (((i7 >>> ((nI 5) &&& 31)) &&& (nI 63)) - ((i7 >>> ((nI 5) &&& 31)) &&& (nI 63)) / i8 * i8)), (0, .ref 0), (1, .ref 1), (2, .ref 53), (3, .ref 54), (4, .ref 55), (6, .int i6), (7, .int i7), (8, .int i8)]) (i := 9) (Nat.le_of_ble_eq_true rfl) rfl dL_law_101 ?_
  exact zq_sub (ls' := [(0, .ref 0), (1, .ref 1), (2, .ref 53), (3, .ref 54), (4, .ref 55), (6, .int i6), (7, .int i7), (8, .int i8), (9, .int (((i7 >>> ((nI 5) &&& 31)) &&& (nI 63)) - ((i7 >>> ((nI 5) &&& 31)) &&& (nI 63)) / i8 * i8))]) [1, 2, 3, 4, 5, 6, 7, 8, 0] rfl H
set_option maxHeartbeats 2000000 in
set_option maxRecDepth 20000 in
theorem r_L_law_103 {d : Nat} {h : AH} {Q : Option Value → AH → Prop} (L : Nat) (xs : Nat → Int32) (i6 : Int32) (i7 : Int32) (i8 : Int32) (i9 : Int32) (hw : zWF h)  (H : ¬ (i8 - (nI 1)) = 0 ∧ (¬ i8 = 0 ∧ (zQ (some (L, xs)) m_L_law (d + 1) 126 [(0, .ref 0), (1, .ref 1), (2, .ref 53), (3, .ref 54), (4, .ref 55), (6, .int i6), (7, .int i7), (9, .int i9), (10, .int (((i9 + (nI 1)) + (((i7 >>> ((nI 11) &&& 31)) &&& (nI 63)) - ((i7 >>> ((nI 11) &&& 31)) &&& (nI 63)) / (i8 - (nI 1)) * (i8 - (nI 1)))) - ((i9 + (nI 1)) + (((i7 >>> ((nI 11) &&& 31)) &&& (nI 63)) - ((i7 >>> ((nI 11) &&& 31)) &&& (nI 63)) / (i8 - (nI 1)) * (i8 - (nI 1)))) / i8 * i8))] [] h Q))) : zQ (some (L, xs)) m_L_law (d + 1) 103 [(0, .ref 0), (1, .ref 1), (2, .ref 53), (3, .ref 54), (4, .ref 55), (6, .int i6), (7, .int i7), (8, .int i8), (9, .int i9)] [] h Q := by
  refine zq_iload (i := 9) (x := i9) 8 rfl dL_law_103 ?_
  refine zq_iconst (v := (nI 1)) rfl dL_law_105 ?_
  refine zq_iadd dL_law_106 ?_
  refine zq_iload (i := 7) (x := i7) 6 rfl dL_law_107 ?_
  refine zq_bipush (v := (nI 11)) rfl dL_law_109 ?_
  refine zq_ishr dL_law_111 ?_
  refine zq_bipush (v := (nI 63)) rfl dL_law_112 ?_
  refine zq_iand dL_law_114 ?_
  refine zq_iload (i := 8) (x := i8) 7 rfl dL_law_115 ?_
  refine zq_iconst (v := (nI 1)) rfl dL_law_117 ?_
  refine zq_isub dL_law_118 ?_
  obtain ⟨c1, H⟩ := H
  refine zq_irem c1 dL_law_119 ?_
  refine zq_iadd dL_law_120 ?_
  refine zq_iload (i := 8) (x := i8) 7 rfl dL_law_121 ?_
  obtain ⟨c2, H⟩ := H
  refine zq_irem c2 dL_law_123 ?_
  refine zq_istore (ls' := [(10, .int (((i9 + (nI 1)) + (((i7 >>> ((nI 11) &&& 31)) &&& (nI 63)) - ((i7 >>> ((nI 11) &&& 31)) &&& (nI 63)) / (i8 - (nI 1)) * (i8 - (nI 1)))) - ((i9 + (nI 1)) + (((i7 >>> ((nI 11) &&& 31)) &&& (nI 63)) - ((i7 >>> ((nI 11) &&& 31)) &&& (nI 63)) / (i8 - (nI 1)) * (i8 - (nI 1)))) / i8 * i8)), (0, .ref 0), (1, .ref 1), (2, .ref 53), (3, .ref 54), (4, .ref 55), (6, .int i6), (7, .int i7), (8, .int i8), (9, .int i9)]) (i := 10) (Nat.le_of_ble_eq_true rfl) rfl dL_law_124 ?_
  exact zq_sub (ls' := [(0, .ref 0), (1, .ref 1), (2, .ref 53), (3, .ref 54), (4, .ref 55), (6, .int i6), (7, .int i7), (9, .int i9), (10, .int (((i9 + (nI 1)) + (((i7 >>> ((nI 11) &&& 31)) &&& (nI 63)) - ((i7 >>> ((nI 11) &&& 31)) &&& (nI 63)) / (i8 - (nI 1)) * (i8 - (nI 1)))) - ((i9 + (nI 1)) + (((i7 >>> ((nI 11) &&& 31)) &&& (nI 63)) - ((i7 >>> ((nI 11) &&& 31)) &&& (nI 63)) / (i8 - (nI 1)) * (i8 - (nI 1)))) / i8 * i8))]) [1, 2, 3, 4, 5, 6, 7, 9, 0] rfl H
set_option maxHeartbeats 2000000 in
set_option maxRecDepth 20000 in
theorem r_L_law_126 {d : Nat} {h : AH} {Q : Option Value → AH → Prop} (L : Nat) (xs : Nat → Int32) (i6 : Int32) (i7 : Int32) (i9 : Int32) (i10 : Int32) (hw : zWF h)  (H : vp_in i9 40 ∧ (zK d m_L_has [.long (h.L 53 i9.toNatClampNeg), .int i10] h (pI h fun x2 => zQ (some (L, xs)) m_L_law (d + 1) 137 [(0, .ref 0), (1, .ref 1), (2, .ref 53), (3, .ref 54), (4, .ref 55), (6, .int i6), (7, .int i7), (9, .int i9), (10, .int i10), (11, .int x2)] [] h Q))) : zQ (some (L, xs)) m_L_law (d + 1) 126 [(0, .ref 0), (1, .ref 1), (2, .ref 53), (3, .ref 54), (4, .ref 55), (6, .int i6), (7, .int i7), (9, .int i9), (10, .int i10)] [] h Q := by
  refine zq_aload_n (k := 2) (i := 2) (x := 53) 2 rfl rfl dL_law_126 ?_
  refine zq_iload (i := 9) (x := i9) 7 rfl dL_law_127 ?_
  obtain ⟨b1, H⟩ := H
  refine zq_lald (sh_53 hw) b1 dL_law_129 ?_
  refine zq_iload (i := 10) (x := i10) 8 rfl dL_law_130 ?_
  refine zq_invS (as := [.long (h.L 53 i9.toNatClampNeg), .int i10]) (st := []) st_L_has mo_L_has ml_RL_15 rfl (Nat.le_of_ble_eq_true rfl) dL_law_132 rfl H (fun r1 h1 hq => ?_)
  obtain ⟨x2, rfl, rfl, H⟩ := hq
  show zQ (some (L, xs)) m_L_law (d + 1) 135 [(0, .ref 0), (1, .ref 1), (2, .ref 53), (3, .ref 54), (4, .ref 55), (6, .int i6), (7, .int i7), (9, .int i9), (10, .int i10)] (.int x2 :: []) h Q
  refine zq_istore (ls' := [(11, .int x2), (0, .ref 0), (1, .ref 1), (2, .ref 53), (3, .ref 54), (4, .ref 55), (6, .int i6), (7, .int i7), (9, .int i9), (10, .int i10)]) (i := 11) (Nat.le_of_ble_eq_true rfl) rfl dL_law_135 ?_
  exact zq_sub (ls' := [(0, .ref 0), (1, .ref 1), (2, .ref 53), (3, .ref 54), (4, .ref 55), (6, .int i6), (7, .int i7), (9, .int i9), (10, .int i10), (11, .int x2)]) [1, 2, 3, 4, 5, 6, 7, 8, 9, 0] rfl H
set_option maxHeartbeats 2000000 in
set_option maxRecDepth 20000 in
theorem r_L_law_137 {d : Nat} {h : AH} {Q : Option Value → AH → Prop} (L : Nat) (xs : Nat → Int32) (i6 : Int32) (i7 : Int32) (i9 : Int32) (i10 : Int32) (i11 : Int32) (hw : zWF h)  (H : zK d m_X10_told [.ref 1, .int (nI 1)] h (kL fun x2 h1 => zK d m_X10_told [.ref 1, .int (nI 0)] h1 (kL fun x4 h3 => zK d m_X10_two [.ref 1, .int i9, .int i10, .int (nI 0)] h3 (kI fun x6 h5 => zQ (some (L, xs)) m_L_law (d + 1) 169 [(0, .ref 0), (1, .ref 1), (2, .ref 53), (3, .ref 54), (4, .ref 55), (6, .int i6), (9, .int i9), (10, .int i10), (11, .int i11), (12, .long x2), (14, .long x4), (16, .int x6), (17, .int (i7 &&& (nI 7)))] [] h5 Q)))) : zQ (some (L, xs)) m_L_law (d + 1) 137 [(0, .ref 0), (1, .ref 1), (2, .ref 53), (3, .ref 54), (4, .ref 55), (6, .int i6), (7, .int i7), (9, .int i9), (10, .int i10), (11, .int i11)] [] h Q := by
  refine zq_aload_n (k := 1) (i := 1) (x := 1) 1 rfl rfl dL_law_137 ?_
  refine zq_iconst (v := (nI 1)) rfl dL_law_138 ?_
  refine zq_invV (as := [.int (nI 1)]) (st := []) (o := 1) (c := 9) (by decide) rfl (sh_1 hw) in_X10_told se_X10_told mo_X10_told ml_RL_62 rfl (Nat.le_of_ble_eq_true rfl) dL_law_139 rfl H (fun r1 h1 hq => ?_)
  obtain ⟨x2, rfl, wh1, H⟩ := hq
  show zQ (some (L, xs)) m_L_law (d + 1) 142 [(0, .ref 0), (1, .ref 1), (2, .ref 53), (3, .ref 54), (4, .ref 55), (6, .int i6), (7, .int i7), (9, .int i9), (10, .int i10), (11, .int i11)] (.long x2 :: []) h1 Q
  refine zq_lstore (ls' := [(12, .long x2), (0, .ref 0), (1, .ref 1), (2, .ref 53), (3, .ref 54), (4, .ref 55), (6, .int i6), (7, .int i7), (9, .int i9), (10, .int i10), (11, .int i11)]) (i := 12) (Nat.le_of_ble_eq_true rfl) rfl dL_law_142 ?_
  refine zq_aload_n (k := 1) (i := 1) (x := 1) 2 rfl rfl dL_law_144 ?_
  refine zq_iconst (v := (nI 0)) rfl dL_law_145 ?_
  refine zq_invV (as := [.int (nI 0)]) (st := []) (o := 1) (c := 9) (by decide) rfl (sh_1 wh1) in_X10_told se_X10_told mo_X10_told ml_RL_62 rfl (Nat.le_of_ble_eq_true rfl) dL_law_146 rfl H (fun r1 h3 hq => ?_)
  obtain ⟨x4, rfl, wh3, H⟩ := hq
  show zQ (some (L, xs)) m_L_law (d + 1) 149 [(12, .long x2), (0, .ref 0), (1, .ref 1), (2, .ref 53), (3, .ref 54), (4, .ref 55), (6, .int i6), (7, .int i7), (9, .int i9), (10, .int i10), (11, .int i11)] (.long x4 :: []) h3 Q
  refine zq_lstore (ls' := [(14, .long x4), (12, .long x2), (0, .ref 0), (1, .ref 1), (2, .ref 53), (3, .ref 54), (4, .ref 55), (6, .int i6), (7, .int i7), (9, .int i9), (10, .int i10), (11, .int i11)]) (i := 14) (Nat.le_of_ble_eq_true rfl) rfl dL_law_149 ?_
  refine zq_aload_n (k := 1) (i := 1) (x := 1) 3 rfl rfl dL_law_151 ?_
  refine zq_iload (i := 9) (x := i9) 9 rfl dL_law_152 ?_
  refine zq_iload (i := 10) (x := i10) 10 rfl dL_law_154 ?_
  refine zq_iconst (v := (nI 0)) rfl dL_law_156 ?_
  refine zq_invV (as := [.int i9, .int i10, .int (nI 0)]) (st := []) (o := 1) (c := 9) (by decide) rfl (sh_1 wh3) in_X10_two se_X10_two mo_X10_two ml_RL_74 rfl (Nat.le_of_ble_eq_true rfl) dL_law_157 rfl H (fun r1 h5 hq => ?_)
  obtain ⟨x6, rfl, wh5, H⟩ := hq
  show zQ (some (L, xs)) m_L_law (d + 1) 160 [(14, .long x4), (12, .long x2), (0, .ref 0), (1, .ref 1), (2, .ref 53), (3, .ref 54), (4, .ref 55), (6, .int i6), (7, .int i7), (9, .int i9), (10, .int i10), (11, .int i11)] (.int x6 :: []) h5 Q
  refine zq_istore (ls' := [(16, .int x6), (14, .long x4), (12, .long x2), (0, .ref 0), (1, .ref 1), (2, .ref 53), (3, .ref 54), (4, .ref 55), (6, .int i6), (7, .int i7), (9, .int i9), (10, .int i10), (11, .int i11)]) (i := 16) (Nat.le_of_ble_eq_true rfl) rfl dL_law_160 ?_
  refine zq_iload (i := 7) (x := i7) 9 rfl dL_law_162 ?_
  refine zq_bipush (v := (nI 7)) rfl dL_law_164 ?_
  refine zq_iand dL_law_166 ?_
  refine zq_istore (ls' := [(17, .int (i7 &&& (nI 7))), (16, .int x6), (14, .long x4), (12, .long x2), (0, .ref 0), (1, .ref 1), (2, .ref 53), (3, .ref 54), (4, .ref 55), (6, .int i6), (7, .int i7), (9, .int i9), (10, .int i10), (11, .int i11)]) (i := 17) (Nat.le_of_ble_eq_true rfl) rfl dL_law_167 ?_
  exact zq_sub (ls' := [(0, .ref 0), (1, .ref 1), (2, .ref 53), (3, .ref 54), (4, .ref 55), (6, .int i6), (9, .int i9), (10, .int i10), (11, .int i11), (12, .long x2), (14, .long x4), (16, .int x6), (17, .int (i7 &&& (nI 7)))]) [4, 5, 6, 7, 8, 9, 11, 12, 13, 3, 2, 1, 0] rfl H
set_option maxHeartbeats 2000000 in
set_option maxRecDepth 20000 in
theorem r_L_law_169 {d : Nat} {h : AH} {Q : Option Value → AH → Prop} (L : Nat) (xs : Nat → Int32) (i6 : Int32) (i9 : Int32) (i10 : Int32) (i11 : Int32) (l12 : Int64) (l14 : Int64) (i16 : Int32) (i17 : Int32) (hw : zWF h)  (H : ((nI 3) ≤ i17 → zQ (some (L, xs)) m_L_law (d + 1) 258 [(0, .ref 0), (1, .ref 1), (2, .ref 53), (3, .ref 54), (4, .ref 55), (6, .int i6), (9, .int i9), (10, .int i10), (11, .int i11), (12, .long l12), (14, .long l14), (16, .int i16), (17, .int i17)] [] h Q) ∧ (¬ (nI 3) ≤ i17 → zK d m_X10_add [.ref 1, .int i9, .int i10, .int (nI 3)] h (kI fun x3 h2 => (i11 = 0 → (x3 ≠ i16 → Q (some (.int (nI 0))) h2) ∧ (x3 = i16 → zK d m_X10_told [.ref 1, .int (nI 1)] h2 (kL fun x7 h6 => (i11 = 0 → ((lg_cmp x7 (l12 + i16.toInt64)) ≠ 0 → Q (some (.int (nI 0))) h6) ∧ ((lg_cmp x7 (l12 + i16.toInt64)) = 0 → zK d m_X10_two [.ref 1, .int i9, .int i10, .int (nI 3)] h6 (kI fun x11 h10 => (x11 = (nI 1) → zQ (some (L, xs)) m_L_law (d + 1) 239 [(0, .ref 0), (1, .ref 1), (2, .ref 53), (3, .ref 54), (4, .ref 55), (6, .int i6), (9, .int i9), (10, .int i10), (11, .int i11)] [] h10 Q) ∧ (¬ x11 = (nI 1) → Q (some (.int (nI 0))) h10)))) ∧ (¬ i11 = 0 → ((lg_cmp x7 l12) ≠ 0 → Q (some (.int (nI 0))) h6) ∧ ((lg_cmp x7 l12) = 0 → zK d m_X10_two [.ref 1, .int i9, .int i10, .int (nI 3)] h6 (kI fun x15 h14 => (x15 = (nI 1) → zQ (some (L, xs)) m_L_law (d + 1) 239 [(0, .ref 0), (1, .ref 1), (2, .ref 53), (3, .ref 54), (4, .ref 55), (6, .int i6), (9, .int i9), (10, .int i10), (11, .int i11)] [] h14 Q) ∧ (¬ x15 = (nI 1) → Q (some (.int (nI 0))) h14))))))) ∧ (¬ i11 = 0 → (x3 ≠ (-3) → Q (some (.int (nI 0))) h2) ∧ (x3 = (-3) → zK d m_X10_told [.ref 1, .int (nI 1)] h2 (kL fun x19 h18 => (i11 = 0 → ((lg_cmp x19 (l12 + i16.toInt64)) ≠ 0 → Q (some (.int (nI 0))) h18) ∧ ((lg_cmp x19 (l12 + i16.toInt64)) = 0 → zK d m_X10_two [.ref 1, .int i9, .int i10, .int (nI 3)] h18 (kI fun x23 h22 => (x23 = (nI 1) → zQ (some (L, xs)) m_L_law (d + 1) 239 [(0, .ref 0), (1, .ref 1), (2, .ref 53), (3, .ref 54), (4, .ref 55), (6, .int i6), (9, .int i9), (10, .int i10), (11, .int i11)] [] h22 Q) ∧ (¬ x23 = (nI 1) → Q (some (.int (nI 0))) h22)))) ∧ (¬ i11 = 0 → ((lg_cmp x19 l12) ≠ 0 → Q (some (.int (nI 0))) h18) ∧ ((lg_cmp x19 l12) = 0 → zK d m_X10_two [.ref 1, .int i9, .int i10, .int (nI 3)] h18 (kI fun x27 h26 => (x27 = (nI 1) → zQ (some (L, xs)) m_L_law (d + 1) 239 [(0, .ref 0), (1, .ref 1), (2, .ref 53), (3, .ref 54), (4, .ref 55), (6, .int i6), (9, .int i9), (10, .int i10), (11, .int i11)] [] h26 Q) ∧ (¬ x27 = (nI 1) → Q (some (.int (nI 0))) h26)))))))))) : zQ (some (L, xs)) m_L_law (d + 1) 169 [(0, .ref 0), (1, .ref 1), (2, .ref 53), (3, .ref 54), (4, .ref 55), (6, .int i6), (9, .int i9), (10, .int i10), (11, .int i11), (12, .long l12), (14, .long l14), (16, .int i16), (17, .int i17)] [] h Q := by
  refine zq_iload (i := 17) (x := i17) 12 rfl dL_law_169 ?_
  refine zq_iconst (v := (nI 3)) rfl dL_law_171 ?_
  refine zq_icmp_ge (tgt := 258) dL_law_172 rfl ⟨fun c1 => ?_, fun c1 => ?_⟩
  · have H := H.1 c1
    exact H
  · have H := H.2 c1
    refine zq_aload_n (k := 1) (i := 1) (x := 1) 1 rfl rfl dL_law_175 ?_
    refine zq_iload (i := 9) (x := i9) 6 rfl dL_law_176 ?_
    refine zq_iload (i := 10) (x := i10) 7 rfl dL_law_178 ?_
    refine zq_iconst (v := (nI 3)) rfl dL_law_180 ?_
    refine zq_invV (as := [.int i9, .int i10, .int (nI 3)]) (st := []) (o := 1) (c := 9) (by decide) rfl (sh_1 hw) in_X10_add se_X10_add mo_X10_add ml_RL_55 rfl (Nat.le_of_ble_eq_true rfl) dL_law_181 rfl H (fun r1 h2 hq => ?_)
    obtain ⟨x3, rfl, wh2, H⟩ := hq
    show zQ (some (L, xs)) m_L_law (d + 1) 184 [(0, .ref 0), (1, .ref 1), (2, .ref 53), (3, .ref 54), (4, .ref 55), (6, .int i6), (9, .int i9), (10, .int i10), (11, .int i11), (12, .long l12), (14, .long l14), (16, .int i16), (17, .int i17)] (.int x3 :: []) h2 Q
    refine zq_iload (i := 11) (x := i11) 8 rfl dL_law_184 ?_
    refine zq_if_eq (tgt := 194) dL_law_186 rfl ⟨fun c4 => ?_, fun c4 => ?_⟩
    · have H := H.1 c4
      refine zq_iload (i := 16) (x := i16) 11 rfl dL_law_194 ?_
      refine zq_icmp_ne (tgt := 237) dL_law_196 rfl ⟨fun c5 => ?_, fun c5 => ?_⟩
      · have H := H.1 c5
        refine zq_iconst (v := (nI 0)) rfl dL_law_237 ?_
        exact zq_iret dL_law_238 rfl rfl rfl H
      · have H := H.2 c5
        refine zq_aload_n (k := 1) (i := 1) (x := 1) 1 rfl rfl dL_law_199 ?_
        refine zq_iconst (v := (nI 1)) rfl dL_law_200 ?_
        refine zq_invV (as := [.int (nI 1)]) (st := []) (o := 1) (c := 9) (by decide) rfl (sh_1 wh2) in_X10_told se_X10_told mo_X10_told ml_RL_62 rfl (Nat.le_of_ble_eq_true rfl) dL_law_201 rfl H (fun r1 h6 hq => ?_)
        obtain ⟨x7, rfl, wh6, H⟩ := hq
        show zQ (some (L, xs)) m_L_law (d + 1) 204 [(0, .ref 0), (1, .ref 1), (2, .ref 53), (3, .ref 54), (4, .ref 55), (6, .int i6), (9, .int i9), (10, .int i10), (11, .int i11), (12, .long l12), (14, .long l14), (16, .int i16), (17, .int i17)] (.long x7 :: []) h6 Q
        refine zq_iload (i := 11) (x := i11) 8 rfl dL_law_204 ?_
        refine zq_if_eq (tgt := 214) dL_law_206 rfl ⟨fun c8 => ?_, fun c8 => ?_⟩
        · have H := H.1 c8
          refine zq_lload (i := 12) (x := l12) 9 rfl dL_law_214 ?_
          refine zq_iload (i := 16) (x := i16) 11 rfl dL_law_216 ?_
          refine zq_i2l dL_law_218 ?_
          refine zq_ladd dL_law_219 ?_
          refine zq_lcmp dL_law_220 ?_
          refine zq_if_ne (tgt := 237) dL_law_221 rfl ⟨fun c9 => ?_, fun c9 => ?_⟩
          · have H := H.1 c9
            refine zq_iconst (v := (nI 0)) rfl dL_law_237 ?_
            exact zq_iret dL_law_238 rfl rfl rfl H
          · have H := H.2 c9
            refine zq_aload_n (k := 1) (i := 1) (x := 1) 1 rfl rfl dL_law_224 ?_
            refine zq_iload (i := 9) (x := i9) 6 rfl dL_law_225 ?_
            refine zq_iload (i := 10) (x := i10) 7 rfl dL_law_227 ?_
            refine zq_iconst (v := (nI 3)) rfl dL_law_229 ?_
            refine zq_invV (as := [.int i9, .int i10, .int (nI 3)]) (st := []) (o := 1) (c := 9) (by decide) rfl (sh_1 wh6) in_X10_two se_X10_two mo_X10_two ml_RL_74 rfl (Nat.le_of_ble_eq_true rfl) dL_law_230 rfl H (fun r1 h10 hq => ?_)
            obtain ⟨x11, rfl, wh10, H⟩ := hq
            show zQ (some (L, xs)) m_L_law (d + 1) 233 [(0, .ref 0), (1, .ref 1), (2, .ref 53), (3, .ref 54), (4, .ref 55), (6, .int i6), (9, .int i9), (10, .int i10), (11, .int i11), (12, .long l12), (14, .long l14), (16, .int i16), (17, .int i17)] (.int x11 :: []) h10 Q
            refine zq_iconst (v := (nI 1)) rfl dL_law_233 ?_
            refine zq_icmp_eq (tgt := 239) dL_law_234 rfl ⟨fun c12 => ?_, fun c12 => ?_⟩
            · have H := H.1 c12
              exact zq_sub (ls' := [(0, .ref 0), (1, .ref 1), (2, .ref 53), (3, .ref 54), (4, .ref 55), (6, .int i6), (9, .int i9), (10, .int i10), (11, .int i11)]) [0, 1, 2, 3, 4, 5, 6, 7, 8] rfl H
            · have H := H.2 c12
              refine zq_iconst (v := (nI 0)) rfl dL_law_237 ?_
              exact zq_iret dL_law_238 rfl rfl rfl H
        · have H := H.2 c8
          refine zq_lload (i := 12) (x := l12) 9 rfl dL_law_209 ?_
          refine zq_goto (tgt := 220) dL_law_211 rfl ?_
          refine zq_lcmp dL_law_220 ?_
          refine zq_if_ne (tgt := 237) dL_law_221 rfl ⟨fun c13 => ?_, fun c13 => ?_⟩
          · have H := H.1 c13
            refine zq_iconst (v := (nI 0)) rfl dL_law_237 ?_
            exact zq_iret dL_law_238 rfl rfl rfl H
          · have H := H.2 c13
            refine zq_aload_n (k := 1) (i := 1) (x := 1) 1 rfl rfl dL_law_224 ?_
            refine zq_iload (i := 9) (x := i9) 6 rfl dL_law_225 ?_
            refine zq_iload (i := 10) (x := i10) 7 rfl dL_law_227 ?_
            refine zq_iconst (v := (nI 3)) rfl dL_law_229 ?_
            refine zq_invV (as := [.int i9, .int i10, .int (nI 3)]) (st := []) (o := 1) (c := 9) (by decide) rfl (sh_1 wh6) in_X10_two se_X10_two mo_X10_two ml_RL_74 rfl (Nat.le_of_ble_eq_true rfl) dL_law_230 rfl H (fun r1 h14 hq => ?_)
            obtain ⟨x15, rfl, wh14, H⟩ := hq
            show zQ (some (L, xs)) m_L_law (d + 1) 233 [(0, .ref 0), (1, .ref 1), (2, .ref 53), (3, .ref 54), (4, .ref 55), (6, .int i6), (9, .int i9), (10, .int i10), (11, .int i11), (12, .long l12), (14, .long l14), (16, .int i16), (17, .int i17)] (.int x15 :: []) h14 Q
            refine zq_iconst (v := (nI 1)) rfl dL_law_233 ?_
            refine zq_icmp_eq (tgt := 239) dL_law_234 rfl ⟨fun c16 => ?_, fun c16 => ?_⟩
            · have H := H.1 c16
              exact zq_sub (ls' := [(0, .ref 0), (1, .ref 1), (2, .ref 53), (3, .ref 54), (4, .ref 55), (6, .int i6), (9, .int i9), (10, .int i10), (11, .int i11)]) [0, 1, 2, 3, 4, 5, 6, 7, 8] rfl H
            · have H := H.2 c16
              refine zq_iconst (v := (nI 0)) rfl dL_law_237 ?_
              exact zq_iret dL_law_238 rfl rfl rfl H
    · have H := H.2 c4
      refine zq_bipush (v := (-3)) rfl dL_law_189 ?_
      refine zq_goto (tgt := 196) dL_law_191 rfl ?_
      refine zq_icmp_ne (tgt := 237) dL_law_196 rfl ⟨fun c17 => ?_, fun c17 => ?_⟩
      · have H := H.1 c17
        refine zq_iconst (v := (nI 0)) rfl dL_law_237 ?_
        exact zq_iret dL_law_238 rfl rfl rfl H
      · have H := H.2 c17
        refine zq_aload_n (k := 1) (i := 1) (x := 1) 1 rfl rfl dL_law_199 ?_
        refine zq_iconst (v := (nI 1)) rfl dL_law_200 ?_
        refine zq_invV (as := [.int (nI 1)]) (st := []) (o := 1) (c := 9) (by decide) rfl (sh_1 wh2) in_X10_told se_X10_told mo_X10_told ml_RL_62 rfl (Nat.le_of_ble_eq_true rfl) dL_law_201 rfl H (fun r1 h18 hq => ?_)
        obtain ⟨x19, rfl, wh18, H⟩ := hq
        show zQ (some (L, xs)) m_L_law (d + 1) 204 [(0, .ref 0), (1, .ref 1), (2, .ref 53), (3, .ref 54), (4, .ref 55), (6, .int i6), (9, .int i9), (10, .int i10), (11, .int i11), (12, .long l12), (14, .long l14), (16, .int i16), (17, .int i17)] (.long x19 :: []) h18 Q
        refine zq_iload (i := 11) (x := i11) 8 rfl dL_law_204 ?_
        refine zq_if_eq (tgt := 214) dL_law_206 rfl ⟨fun c20 => ?_, fun c20 => ?_⟩
        · have H := H.1 c20
          refine zq_lload (i := 12) (x := l12) 9 rfl dL_law_214 ?_
          refine zq_iload (i := 16) (x := i16) 11 rfl dL_law_216 ?_
          refine zq_i2l dL_law_218 ?_
          refine zq_ladd dL_law_219 ?_
          refine zq_lcmp dL_law_220 ?_
          refine zq_if_ne (tgt := 237) dL_law_221 rfl ⟨fun c21 => ?_, fun c21 => ?_⟩
          · have H := H.1 c21
            refine zq_iconst (v := (nI 0)) rfl dL_law_237 ?_
            exact zq_iret dL_law_238 rfl rfl rfl H
          · have H := H.2 c21
            refine zq_aload_n (k := 1) (i := 1) (x := 1) 1 rfl rfl dL_law_224 ?_
            refine zq_iload (i := 9) (x := i9) 6 rfl dL_law_225 ?_
            refine zq_iload (i := 10) (x := i10) 7 rfl dL_law_227 ?_
            refine zq_iconst (v := (nI 3)) rfl dL_law_229 ?_
            refine zq_invV (as := [.int i9, .int i10, .int (nI 3)]) (st := []) (o := 1) (c := 9) (by decide) rfl (sh_1 wh18) in_X10_two se_X10_two mo_X10_two ml_RL_74 rfl (Nat.le_of_ble_eq_true rfl) dL_law_230 rfl H (fun r1 h22 hq => ?_)
            obtain ⟨x23, rfl, wh22, H⟩ := hq
            show zQ (some (L, xs)) m_L_law (d + 1) 233 [(0, .ref 0), (1, .ref 1), (2, .ref 53), (3, .ref 54), (4, .ref 55), (6, .int i6), (9, .int i9), (10, .int i10), (11, .int i11), (12, .long l12), (14, .long l14), (16, .int i16), (17, .int i17)] (.int x23 :: []) h22 Q
            refine zq_iconst (v := (nI 1)) rfl dL_law_233 ?_
            refine zq_icmp_eq (tgt := 239) dL_law_234 rfl ⟨fun c24 => ?_, fun c24 => ?_⟩
            · have H := H.1 c24
              exact zq_sub (ls' := [(0, .ref 0), (1, .ref 1), (2, .ref 53), (3, .ref 54), (4, .ref 55), (6, .int i6), (9, .int i9), (10, .int i10), (11, .int i11)]) [0, 1, 2, 3, 4, 5, 6, 7, 8] rfl H
            · have H := H.2 c24
              refine zq_iconst (v := (nI 0)) rfl dL_law_237 ?_
              exact zq_iret dL_law_238 rfl rfl rfl H
        · have H := H.2 c20
          refine zq_lload (i := 12) (x := l12) 9 rfl dL_law_209 ?_
          refine zq_goto (tgt := 220) dL_law_211 rfl ?_
          refine zq_lcmp dL_law_220 ?_
          refine zq_if_ne (tgt := 237) dL_law_221 rfl ⟨fun c25 => ?_, fun c25 => ?_⟩
          · have H := H.1 c25
            refine zq_iconst (v := (nI 0)) rfl dL_law_237 ?_
            exact zq_iret dL_law_238 rfl rfl rfl H
          · have H := H.2 c25
            refine zq_aload_n (k := 1) (i := 1) (x := 1) 1 rfl rfl dL_law_224 ?_
            refine zq_iload (i := 9) (x := i9) 6 rfl dL_law_225 ?_
            refine zq_iload (i := 10) (x := i10) 7 rfl dL_law_227 ?_
            refine zq_iconst (v := (nI 3)) rfl dL_law_229 ?_
            refine zq_invV (as := [.int i9, .int i10, .int (nI 3)]) (st := []) (o := 1) (c := 9) (by decide) rfl (sh_1 wh18) in_X10_two se_X10_two mo_X10_two ml_RL_74 rfl (Nat.le_of_ble_eq_true rfl) dL_law_230 rfl H (fun r1 h26 hq => ?_)
            obtain ⟨x27, rfl, wh26, H⟩ := hq
            show zQ (some (L, xs)) m_L_law (d + 1) 233 [(0, .ref 0), (1, .ref 1), (2, .ref 53), (3, .ref 54), (4, .ref 55), (6, .int i6), (9, .int i9), (10, .int i10), (11, .int i11), (12, .long l12), (14, .long l14), (16, .int i16), (17, .int i17)] (.int x27 :: []) h26 Q
            refine zq_iconst (v := (nI 1)) rfl dL_law_233 ?_
            refine zq_icmp_eq (tgt := 239) dL_law_234 rfl ⟨fun c28 => ?_, fun c28 => ?_⟩
            · have H := H.1 c28
              exact zq_sub (ls' := [(0, .ref 0), (1, .ref 1), (2, .ref 53), (3, .ref 54), (4, .ref 55), (6, .int i6), (9, .int i9), (10, .int i10), (11, .int i11)]) [0, 1, 2, 3, 4, 5, 6, 7, 8] rfl H
            · have H := H.2 c28
              refine zq_iconst (v := (nI 0)) rfl dL_law_237 ?_
              exact zq_iret dL_law_238 rfl rfl rfl H
set_option maxHeartbeats 2000000 in
set_option maxRecDepth 20000 in
theorem r_L_law_239 {d : Nat} {h : AH} {Q : Option Value → AH → Prop} (L : Nat) (xs : Nat → Int32) (i6 : Int32) (i9 : Int32) (i10 : Int32) (i11 : Int32) (hw : zWF h)  (H : (i11 ≠ 0 → zQ (some (L, xs)) m_L_law (d + 1) 609 [(0, .ref 0), (1, .ref 1), (2, .ref 53), (3, .ref 54), (4, .ref 55), (6, .int i6), (9, .int i9)] [] h Q) ∧ (i11 = 0 → zK d m_L_change [.ref 53, .ref 54, .ref 55, .int i9, .int i10] h (kV fun h2 => zQ (some (L, xs)) m_L_law (d + 1) 609 [(0, .ref 0), (1, .ref 1), (2, .ref 53), (3, .ref 54), (4, .ref 55), (6, .int i6), (9, .int i9)] [] h2 Q))) : zQ (some (L, xs)) m_L_law (d + 1) 239 [(0, .ref 0), (1, .ref 1), (2, .ref 53), (3, .ref 54), (4, .ref 55), (6, .int i6), (9, .int i9), (10, .int i10), (11, .int i11)] [] h Q := by
  refine zq_iload (i := 11) (x := i11) 8 rfl dL_law_239 ?_
  refine zq_if_ne (tgt := 609) dL_law_241 rfl ⟨fun c1 => ?_, fun c1 => ?_⟩
  · have H := H.1 c1
    exact zq_sub (ls' := [(0, .ref 0), (1, .ref 1), (2, .ref 53), (3, .ref 54), (4, .ref 55), (6, .int i6), (9, .int i9)]) [0, 1, 2, 3, 4, 5, 6] rfl H
  · have H := H.2 c1
    refine zq_aload_n (k := 2) (i := 2) (x := 53) 2 rfl rfl dL_law_244 ?_
    refine zq_aload_n (k := 3) (i := 3) (x := 54) 3 rfl rfl dL_law_245 ?_
    refine zq_aload (i := 4) (x := 55) 4 rfl dL_law_246 ?_
    refine zq_iload (i := 9) (x := i9) 6 rfl dL_law_248 ?_
    refine zq_iload (i := 10) (x := i10) 7 rfl dL_law_250 ?_
    refine zq_invS (as := [.ref 53, .ref 54, .ref 55, .int i9, .int i10]) (st := []) st_L_change mo_L_change ml_RL_58 rfl (Nat.le_of_ble_eq_true rfl) dL_law_252 rfl H (fun r1 h2 hq => ?_)
    obtain ⟨rfl, wh2, H⟩ := hq
    show zQ (some (L, xs)) m_L_law (d + 1) 255 [(0, .ref 0), (1, .ref 1), (2, .ref 53), (3, .ref 54), (4, .ref 55), (6, .int i6), (9, .int i9), (10, .int i10), (11, .int i11)] ([]) h2 Q
    refine zq_goto (tgt := 609) dL_law_255 rfl ?_
    exact zq_sub (ls' := [(0, .ref 0), (1, .ref 1), (2, .ref 53), (3, .ref 54), (4, .ref 55), (6, .int i6), (9, .int i9)]) [0, 1, 2, 3, 4, 5, 6] rfl H
set_option maxHeartbeats 2000000 in
set_option maxRecDepth 20000 in
theorem r_L_law_258 {d : Nat} {h : AH} {Q : Option Value → AH → Prop} (L : Nat) (xs : Nat → Int32) (i6 : Int32) (i9 : Int32) (i10 : Int32) (i11 : Int32) (l12 : Int64) (l14 : Int64) (i16 : Int32) (i17 : Int32) (hw : zWF h)  (H : ((nI 5) ≤ i17 → zQ (some (L, xs)) m_L_law (d + 1) 345 [(0, .ref 0), (1, .ref 1), (2, .ref 53), (3, .ref 54), (4, .ref 55), (6, .int i6), (9, .int i9), (10, .int i10), (11, .int i11), (12, .long l12), (14, .long l14), (16, .int i16), (17, .int i17)] [] h Q) ∧ (¬ (nI 5) ≤ i17 → zK d m_X10_cut [.ref 1, .int i9, .int i10] h (kI fun x3 h2 => (i11 = 0 → (x3 ≠ (-3) → Q (some (.int (nI 0))) h2) ∧ (x3 = (-3) → zK d m_X10_told [.ref 1, .int (nI 1)] h2 (kL fun x7 h6 => (i11 = 0 → ((lg_cmp x7 l12) ≠ 0 → Q (some (.int (nI 0))) h6) ∧ ((lg_cmp x7 l12) = 0 → zK d m_X10_two [.ref 1, .int i9, .int i10, .int (nI 3)] h6 (kI fun x11 h10 => (x11 = 0 → zQ (some (L, xs)) m_L_law (d + 1) 326 [(0, .ref 0), (1, .ref 1), (2, .ref 53), (3, .ref 54), (4, .ref 55), (6, .int i6), (9, .int i9), (10, .int i10), (11, .int i11)] [] h10 Q) ∧ (¬ x11 = 0 → Q (some (.int (nI 0))) h10)))) ∧ (¬ i11 = 0 → ((lg_cmp x7 (l12 - i16.toInt64)) ≠ 0 → Q (some (.int (nI 0))) h6) ∧ ((lg_cmp x7 (l12 - i16.toInt64)) = 0 → zK d m_X10_two [.ref 1, .int i9, .int i10, .int (nI 3)] h6 (kI fun x15 h14 => (x15 = 0 → zQ (some (L, xs)) m_L_law (d + 1) 326 [(0, .ref 0), (1, .ref 1), (2, .ref 53), (3, .ref 54), (4, .ref 55), (6, .int i6), (9, .int i9), (10, .int i10), (11, .int i11)] [] h14 Q) ∧ (¬ x15 = 0 → Q (some (.int (nI 0))) h14))))))) ∧ (¬ i11 = 0 → (x3 ≠ i16 → Q (some (.int (nI 0))) h2) ∧ (x3 = i16 → zK d m_X10_told [.ref 1, .int (nI 1)] h2 (kL fun x19 h18 => (i11 = 0 → ((lg_cmp x19 l12) ≠ 0 → Q (some (.int (nI 0))) h18) ∧ ((lg_cmp x19 l12) = 0 → zK d m_X10_two [.ref 1, .int i9, .int i10, .int (nI 3)] h18 (kI fun x23 h22 => (x23 = 0 → zQ (some (L, xs)) m_L_law (d + 1) 326 [(0, .ref 0), (1, .ref 1), (2, .ref 53), (3, .ref 54), (4, .ref 55), (6, .int i6), (9, .int i9), (10, .int i10), (11, .int i11)] [] h22 Q) ∧ (¬ x23 = 0 → Q (some (.int (nI 0))) h22)))) ∧ (¬ i11 = 0 → ((lg_cmp x19 (l12 - i16.toInt64)) ≠ 0 → Q (some (.int (nI 0))) h18) ∧ ((lg_cmp x19 (l12 - i16.toInt64)) = 0 → zK d m_X10_two [.ref 1, .int i9, .int i10, .int (nI 3)] h18 (kI fun x27 h26 => (x27 = 0 → zQ (some (L, xs)) m_L_law (d + 1) 326 [(0, .ref 0), (1, .ref 1), (2, .ref 53), (3, .ref 54), (4, .ref 55), (6, .int i6), (9, .int i9), (10, .int i10), (11, .int i11)] [] h26 Q) ∧ (¬ x27 = 0 → Q (some (.int (nI 0))) h26)))))))))) : zQ (some (L, xs)) m_L_law (d + 1) 258 [(0, .ref 0), (1, .ref 1), (2, .ref 53), (3, .ref 54), (4, .ref 55), (6, .int i6), (9, .int i9), (10, .int i10), (11, .int i11), (12, .long l12), (14, .long l14), (16, .int i16), (17, .int i17)] [] h Q := by
  refine zq_iload (i := 17) (x := i17) 12 rfl dL_law_258 ?_
  refine zq_iconst (v := (nI 5)) rfl dL_law_260 ?_
  refine zq_icmp_ge (tgt := 345) dL_law_261 rfl ⟨fun c1 => ?_, fun c1 => ?_⟩
  · have H := H.1 c1
    exact H
  · have H := H.2 c1
    refine zq_aload_n (k := 1) (i := 1) (x := 1) 1 rfl rfl dL_law_264 ?_
    refine zq_iload (i := 9) (x := i9) 6 rfl dL_law_265 ?_
    refine zq_iload (i := 10) (x := i10) 7 rfl dL_law_267 ?_
    refine zq_invV (as := [.int i9, .int i10]) (st := []) (o := 1) (c := 9) (by decide) rfl (sh_1 hw) in_X10_cut se_X10_cut mo_X10_cut ml_RL_45 rfl (Nat.le_of_ble_eq_true rfl) dL_law_269 rfl H (fun r1 h2 hq => ?_)
    obtain ⟨x3, rfl, wh2, H⟩ := hq
    show zQ (some (L, xs)) m_L_law (d + 1) 272 [(0, .ref 0), (1, .ref 1), (2, .ref 53), (3, .ref 54), (4, .ref 55), (6, .int i6), (9, .int i9), (10, .int i10), (11, .int i11), (12, .long l12), (14, .long l14), (16, .int i16), (17, .int i17)] (.int x3 :: []) h2 Q
    refine zq_iload (i := 11) (x := i11) 8 rfl dL_law_272 ?_
    refine zq_if_eq (tgt := 282) dL_law_274 rfl ⟨fun c4 => ?_, fun c4 => ?_⟩
    · have H := H.1 c4
      refine zq_bipush (v := (-3)) rfl dL_law_282 ?_
      refine zq_icmp_ne (tgt := 324) dL_law_284 rfl ⟨fun c5 => ?_, fun c5 => ?_⟩
      · have H := H.1 c5
        refine zq_iconst (v := (nI 0)) rfl dL_law_324 ?_
        exact zq_iret dL_law_325 rfl rfl rfl H
      · have H := H.2 c5
        refine zq_aload_n (k := 1) (i := 1) (x := 1) 1 rfl rfl dL_law_287 ?_
        refine zq_iconst (v := (nI 1)) rfl dL_law_288 ?_
        refine zq_invV (as := [.int (nI 1)]) (st := []) (o := 1) (c := 9) (by decide) rfl (sh_1 wh2) in_X10_told se_X10_told mo_X10_told ml_RL_62 rfl (Nat.le_of_ble_eq_true rfl) dL_law_289 rfl H (fun r1 h6 hq => ?_)
        obtain ⟨x7, rfl, wh6, H⟩ := hq
        show zQ (some (L, xs)) m_L_law (d + 1) 292 [(0, .ref 0), (1, .ref 1), (2, .ref 53), (3, .ref 54), (4, .ref 55), (6, .int i6), (9, .int i9), (10, .int i10), (11, .int i11), (12, .long l12), (14, .long l14), (16, .int i16), (17, .int i17)] (.long x7 :: []) h6 Q
        refine zq_iload (i := 11) (x := i11) 8 rfl dL_law_292 ?_
        refine zq_if_eq (tgt := 306) dL_law_294 rfl ⟨fun c8 => ?_, fun c8 => ?_⟩
        · have H := H.1 c8
          refine zq_lload (i := 12) (x := l12) 9 rfl dL_law_306 ?_
          refine zq_lcmp dL_law_308 ?_
          refine zq_if_ne (tgt := 324) dL_law_309 rfl ⟨fun c9 => ?_, fun c9 => ?_⟩
          · have H := H.1 c9
            refine zq_iconst (v := (nI 0)) rfl dL_law_324 ?_
            exact zq_iret dL_law_325 rfl rfl rfl H
          · have H := H.2 c9
            refine zq_aload_n (k := 1) (i := 1) (x := 1) 1 rfl rfl dL_law_312 ?_
            refine zq_iload (i := 9) (x := i9) 6 rfl dL_law_313 ?_
            refine zq_iload (i := 10) (x := i10) 7 rfl dL_law_315 ?_
            refine zq_iconst (v := (nI 3)) rfl dL_law_317 ?_
            refine zq_invV (as := [.int i9, .int i10, .int (nI 3)]) (st := []) (o := 1) (c := 9) (by decide) rfl (sh_1 wh6) in_X10_two se_X10_two mo_X10_two ml_RL_74 rfl (Nat.le_of_ble_eq_true rfl) dL_law_318 rfl H (fun r1 h10 hq => ?_)
            obtain ⟨x11, rfl, wh10, H⟩ := hq
            show zQ (some (L, xs)) m_L_law (d + 1) 321 [(0, .ref 0), (1, .ref 1), (2, .ref 53), (3, .ref 54), (4, .ref 55), (6, .int i6), (9, .int i9), (10, .int i10), (11, .int i11), (12, .long l12), (14, .long l14), (16, .int i16), (17, .int i17)] (.int x11 :: []) h10 Q
            refine zq_if_eq (tgt := 326) dL_law_321 rfl ⟨fun c12 => ?_, fun c12 => ?_⟩
            · have H := H.1 c12
              exact zq_sub (ls' := [(0, .ref 0), (1, .ref 1), (2, .ref 53), (3, .ref 54), (4, .ref 55), (6, .int i6), (9, .int i9), (10, .int i10), (11, .int i11)]) [0, 1, 2, 3, 4, 5, 6, 7, 8] rfl H
            · have H := H.2 c12
              refine zq_iconst (v := (nI 0)) rfl dL_law_324 ?_
              exact zq_iret dL_law_325 rfl rfl rfl H
        · have H := H.2 c8
          refine zq_lload (i := 12) (x := l12) 9 rfl dL_law_297 ?_
          refine zq_iload (i := 16) (x := i16) 11 rfl dL_law_299 ?_
          refine zq_i2l dL_law_301 ?_
          refine zq_lsub dL_law_302 ?_
          refine zq_goto (tgt := 308) dL_law_303 rfl ?_
          refine zq_lcmp dL_law_308 ?_
          refine zq_if_ne (tgt := 324) dL_law_309 rfl ⟨fun c13 => ?_, fun c13 => ?_⟩
          · have H := H.1 c13
            refine zq_iconst (v := (nI 0)) rfl dL_law_324 ?_
            exact zq_iret dL_law_325 rfl rfl rfl H
          · have H := H.2 c13
            refine zq_aload_n (k := 1) (i := 1) (x := 1) 1 rfl rfl dL_law_312 ?_
            refine zq_iload (i := 9) (x := i9) 6 rfl dL_law_313 ?_
            refine zq_iload (i := 10) (x := i10) 7 rfl dL_law_315 ?_
            refine zq_iconst (v := (nI 3)) rfl dL_law_317 ?_
            refine zq_invV (as := [.int i9, .int i10, .int (nI 3)]) (st := []) (o := 1) (c := 9) (by decide) rfl (sh_1 wh6) in_X10_two se_X10_two mo_X10_two ml_RL_74 rfl (Nat.le_of_ble_eq_true rfl) dL_law_318 rfl H (fun r1 h14 hq => ?_)
            obtain ⟨x15, rfl, wh14, H⟩ := hq
            show zQ (some (L, xs)) m_L_law (d + 1) 321 [(0, .ref 0), (1, .ref 1), (2, .ref 53), (3, .ref 54), (4, .ref 55), (6, .int i6), (9, .int i9), (10, .int i10), (11, .int i11), (12, .long l12), (14, .long l14), (16, .int i16), (17, .int i17)] (.int x15 :: []) h14 Q
            refine zq_if_eq (tgt := 326) dL_law_321 rfl ⟨fun c16 => ?_, fun c16 => ?_⟩
            · have H := H.1 c16
              exact zq_sub (ls' := [(0, .ref 0), (1, .ref 1), (2, .ref 53), (3, .ref 54), (4, .ref 55), (6, .int i6), (9, .int i9), (10, .int i10), (11, .int i11)]) [0, 1, 2, 3, 4, 5, 6, 7, 8] rfl H
            · have H := H.2 c16
              refine zq_iconst (v := (nI 0)) rfl dL_law_324 ?_
              exact zq_iret dL_law_325 rfl rfl rfl H
    · have H := H.2 c4
      refine zq_iload (i := 16) (x := i16) 11 rfl dL_law_277 ?_
      refine zq_goto (tgt := 284) dL_law_279 rfl ?_
      refine zq_icmp_ne (tgt := 324) dL_law_284 rfl ⟨fun c17 => ?_, fun c17 => ?_⟩
      · have H := H.1 c17
        refine zq_iconst (v := (nI 0)) rfl dL_law_324 ?_
        exact zq_iret dL_law_325 rfl rfl rfl H
      · have H := H.2 c17
        refine zq_aload_n (k := 1) (i := 1) (x := 1) 1 rfl rfl dL_law_287 ?_
        refine zq_iconst (v := (nI 1)) rfl dL_law_288 ?_
        refine zq_invV (as := [.int (nI 1)]) (st := []) (o := 1) (c := 9) (by decide) rfl (sh_1 wh2) in_X10_told se_X10_told mo_X10_told ml_RL_62 rfl (Nat.le_of_ble_eq_true rfl) dL_law_289 rfl H (fun r1 h18 hq => ?_)
        obtain ⟨x19, rfl, wh18, H⟩ := hq
        show zQ (some (L, xs)) m_L_law (d + 1) 292 [(0, .ref 0), (1, .ref 1), (2, .ref 53), (3, .ref 54), (4, .ref 55), (6, .int i6), (9, .int i9), (10, .int i10), (11, .int i11), (12, .long l12), (14, .long l14), (16, .int i16), (17, .int i17)] (.long x19 :: []) h18 Q
        refine zq_iload (i := 11) (x := i11) 8 rfl dL_law_292 ?_
        refine zq_if_eq (tgt := 306) dL_law_294 rfl ⟨fun c20 => ?_, fun c20 => ?_⟩
        · have H := H.1 c20
          refine zq_lload (i := 12) (x := l12) 9 rfl dL_law_306 ?_
          refine zq_lcmp dL_law_308 ?_
          refine zq_if_ne (tgt := 324) dL_law_309 rfl ⟨fun c21 => ?_, fun c21 => ?_⟩
          · have H := H.1 c21
            refine zq_iconst (v := (nI 0)) rfl dL_law_324 ?_
            exact zq_iret dL_law_325 rfl rfl rfl H
          · have H := H.2 c21
            refine zq_aload_n (k := 1) (i := 1) (x := 1) 1 rfl rfl dL_law_312 ?_
            refine zq_iload (i := 9) (x := i9) 6 rfl dL_law_313 ?_
            refine zq_iload (i := 10) (x := i10) 7 rfl dL_law_315 ?_
            refine zq_iconst (v := (nI 3)) rfl dL_law_317 ?_
            refine zq_invV (as := [.int i9, .int i10, .int (nI 3)]) (st := []) (o := 1) (c := 9) (by decide) rfl (sh_1 wh18) in_X10_two se_X10_two mo_X10_two ml_RL_74 rfl (Nat.le_of_ble_eq_true rfl) dL_law_318 rfl H (fun r1 h22 hq => ?_)
            obtain ⟨x23, rfl, wh22, H⟩ := hq
            show zQ (some (L, xs)) m_L_law (d + 1) 321 [(0, .ref 0), (1, .ref 1), (2, .ref 53), (3, .ref 54), (4, .ref 55), (6, .int i6), (9, .int i9), (10, .int i10), (11, .int i11), (12, .long l12), (14, .long l14), (16, .int i16), (17, .int i17)] (.int x23 :: []) h22 Q
            refine zq_if_eq (tgt := 326) dL_law_321 rfl ⟨fun c24 => ?_, fun c24 => ?_⟩
            · have H := H.1 c24
              exact zq_sub (ls' := [(0, .ref 0), (1, .ref 1), (2, .ref 53), (3, .ref 54), (4, .ref 55), (6, .int i6), (9, .int i9), (10, .int i10), (11, .int i11)]) [0, 1, 2, 3, 4, 5, 6, 7, 8] rfl H
            · have H := H.2 c24
              refine zq_iconst (v := (nI 0)) rfl dL_law_324 ?_
              exact zq_iret dL_law_325 rfl rfl rfl H
        · have H := H.2 c20
          refine zq_lload (i := 12) (x := l12) 9 rfl dL_law_297 ?_
          refine zq_iload (i := 16) (x := i16) 11 rfl dL_law_299 ?_
          refine zq_i2l dL_law_301 ?_
          refine zq_lsub dL_law_302 ?_
          refine zq_goto (tgt := 308) dL_law_303 rfl ?_
          refine zq_lcmp dL_law_308 ?_
          refine zq_if_ne (tgt := 324) dL_law_309 rfl ⟨fun c25 => ?_, fun c25 => ?_⟩
          · have H := H.1 c25
            refine zq_iconst (v := (nI 0)) rfl dL_law_324 ?_
            exact zq_iret dL_law_325 rfl rfl rfl H
          · have H := H.2 c25
            refine zq_aload_n (k := 1) (i := 1) (x := 1) 1 rfl rfl dL_law_312 ?_
            refine zq_iload (i := 9) (x := i9) 6 rfl dL_law_313 ?_
            refine zq_iload (i := 10) (x := i10) 7 rfl dL_law_315 ?_
            refine zq_iconst (v := (nI 3)) rfl dL_law_317 ?_
            refine zq_invV (as := [.int i9, .int i10, .int (nI 3)]) (st := []) (o := 1) (c := 9) (by decide) rfl (sh_1 wh18) in_X10_two se_X10_two mo_X10_two ml_RL_74 rfl (Nat.le_of_ble_eq_true rfl) dL_law_318 rfl H (fun r1 h26 hq => ?_)
            obtain ⟨x27, rfl, wh26, H⟩ := hq
            show zQ (some (L, xs)) m_L_law (d + 1) 321 [(0, .ref 0), (1, .ref 1), (2, .ref 53), (3, .ref 54), (4, .ref 55), (6, .int i6), (9, .int i9), (10, .int i10), (11, .int i11), (12, .long l12), (14, .long l14), (16, .int i16), (17, .int i17)] (.int x27 :: []) h26 Q
            refine zq_if_eq (tgt := 326) dL_law_321 rfl ⟨fun c28 => ?_, fun c28 => ?_⟩
            · have H := H.1 c28
              exact zq_sub (ls' := [(0, .ref 0), (1, .ref 1), (2, .ref 53), (3, .ref 54), (4, .ref 55), (6, .int i6), (9, .int i9), (10, .int i10), (11, .int i11)]) [0, 1, 2, 3, 4, 5, 6, 7, 8] rfl H
            · have H := H.2 c28
              refine zq_iconst (v := (nI 0)) rfl dL_law_324 ?_
              exact zq_iret dL_law_325 rfl rfl rfl H
set_option maxHeartbeats 2000000 in
set_option maxRecDepth 20000 in
theorem r_L_law_326 {d : Nat} {h : AH} {Q : Option Value → AH → Prop} (L : Nat) (xs : Nat → Int32) (i6 : Int32) (i9 : Int32) (i10 : Int32) (i11 : Int32) (hw : zWF h)  (H : (i11 = 0 → zQ (some (L, xs)) m_L_law (d + 1) 609 [(0, .ref 0), (1, .ref 1), (2, .ref 53), (3, .ref 54), (4, .ref 55), (6, .int i6), (9, .int i9)] [] h Q) ∧ (¬ i11 = 0 → zK d m_L_change [.ref 53, .ref 54, .ref 55, .int i9, .int i10] h (kV fun h2 => zQ (some (L, xs)) m_L_law (d + 1) 609 [(0, .ref 0), (1, .ref 1), (2, .ref 53), (3, .ref 54), (4, .ref 55), (6, .int i6), (9, .int i9)] [] h2 Q))) : zQ (some (L, xs)) m_L_law (d + 1) 326 [(0, .ref 0), (1, .ref 1), (2, .ref 53), (3, .ref 54), (4, .ref 55), (6, .int i6), (9, .int i9), (10, .int i10), (11, .int i11)] [] h Q := by
  refine zq_iload (i := 11) (x := i11) 8 rfl dL_law_326 ?_
  refine zq_if_eq (tgt := 609) dL_law_328 rfl ⟨fun c1 => ?_, fun c1 => ?_⟩
  · have H := H.1 c1
    exact zq_sub (ls' := [(0, .ref 0), (1, .ref 1), (2, .ref 53), (3, .ref 54), (4, .ref 55), (6, .int i6), (9, .int i9)]) [0, 1, 2, 3, 4, 5, 6] rfl H
  · have H := H.2 c1
    refine zq_aload_n (k := 2) (i := 2) (x := 53) 2 rfl rfl dL_law_331 ?_
    refine zq_aload_n (k := 3) (i := 3) (x := 54) 3 rfl rfl dL_law_332 ?_
    refine zq_aload (i := 4) (x := 55) 4 rfl dL_law_333 ?_
    refine zq_iload (i := 9) (x := i9) 6 rfl dL_law_335 ?_
    refine zq_iload (i := 10) (x := i10) 7 rfl dL_law_337 ?_
    refine zq_invS (as := [.ref 53, .ref 54, .ref 55, .int i9, .int i10]) (st := []) st_L_change mo_L_change ml_RL_58 rfl (Nat.le_of_ble_eq_true rfl) dL_law_339 rfl H (fun r1 h2 hq => ?_)
    obtain ⟨rfl, wh2, H⟩ := hq
    show zQ (some (L, xs)) m_L_law (d + 1) 342 [(0, .ref 0), (1, .ref 1), (2, .ref 53), (3, .ref 54), (4, .ref 55), (6, .int i6), (9, .int i9), (10, .int i10), (11, .int i11)] ([]) h2 Q
    refine zq_goto (tgt := 609) dL_law_342 rfl ?_
    exact zq_sub (ls' := [(0, .ref 0), (1, .ref 1), (2, .ref 53), (3, .ref 54), (4, .ref 55), (6, .int i6), (9, .int i9)]) [0, 1, 2, 3, 4, 5, 6] rfl H
set_option maxHeartbeats 2000000 in
set_option maxRecDepth 20000 in
theorem r_L_law_345 {d : Nat} {h : AH} {Q : Option Value → AH → Prop} (L : Nat) (xs : Nat → Int32) (i6 : Int32) (i9 : Int32) (i10 : Int32) (i11 : Int32) (l12 : Int64) (l14 : Int64) (i16 : Int32) (i17 : Int32) (hw : zWF h)  (H : (i17 ≠ (nI 5) → zQ (some (L, xs)) m_L_law (d + 1) 411 [(0, .ref 0), (1, .ref 1), (2, .ref 53), (3, .ref 54), (4, .ref 55), (6, .int i6), (9, .int i9), (10, .int i10), (11, .int i11), (12, .long l12), (14, .long l14), (16, .int i16), (17, .int i17)] [] h Q) ∧ (i17 = (nI 5) → zK d m_X10_image [.ref 1] h (kI fun x3 h2 => zK d m_X10_add [.ref 1, .int i9, .int i10, .int (nI 1)] h2 (kI fun x5 h4 => zK d m_X10_cut [.ref 1, .int i9, .int ((i10 + (nI 1)) - (i10 + (nI 1)) / (nI 40) * (nI 40))] h4 (kI fun x7 h6 => zK d m_X10_back [.ref 1, .int (nI 3)] h6 (kI fun x9 h8 => zK d m_X10_undo [.ref 1] h8 (kI fun x11 h10 => (x11 ≠ x3 → Q (some (.int (nI 0))) h10) ∧ (x11 = x3 → ((lg_cmp x3.toInt64 l14) = 0 → zQ (some (L, xs)) m_L_law (d + 1) 609 [(0, .ref 0), (1, .ref 1), (2, .ref 53), (3, .ref 54), (4, .ref 55), (6, .int i6), (9, .int i9)] [] h10 Q) ∧ (¬ (lg_cmp x3.toInt64 l14) = 0 → Q (some (.int (nI 0))) h10))))))))) : zQ (some (L, xs)) m_L_law (d + 1) 345 [(0, .ref 0), (1, .ref 1), (2, .ref 53), (3, .ref 54), (4, .ref 55), (6, .int i6), (9, .int i9), (10, .int i10), (11, .int i11), (12, .long l12), (14, .long l14), (16, .int i16), (17, .int i17)] [] h Q := by
  refine zq_iload (i := 17) (x := i17) 12 rfl dL_law_345 ?_
  refine zq_iconst (v := (nI 5)) rfl dL_law_347 ?_
  refine zq_icmp_ne (tgt := 411) dL_law_348 rfl ⟨fun c1 => ?_, fun c1 => ?_⟩
  · have H := H.1 c1
    exact H
  · have H := H.2 c1
    refine zq_aload_n (k := 1) (i := 1) (x := 1) 1 rfl rfl dL_law_351 ?_
    refine zq_invV (as := []) (st := []) (o := 1) (c := 9) (by decide) rfl (sh_1 hw) in_X10_image se_X10_image mo_X10_image ml_RL_77 rfl (Nat.le_of_ble_eq_true rfl) dL_law_352 rfl H (fun r1 h2 hq => ?_)
    obtain ⟨x3, rfl, wh2, H⟩ := hq
    show zQ (some (L, xs)) m_L_law (d + 1) 355 [(0, .ref 0), (1, .ref 1), (2, .ref 53), (3, .ref 54), (4, .ref 55), (6, .int i6), (9, .int i9), (10, .int i10), (11, .int i11), (12, .long l12), (14, .long l14), (16, .int i16), (17, .int i17)] (.int x3 :: []) h2 Q
    refine zq_istore (ls' := [(18, .int x3), (0, .ref 0), (1, .ref 1), (2, .ref 53), (3, .ref 54), (4, .ref 55), (6, .int i6), (9, .int i9), (10, .int i10), (11, .int i11), (12, .long l12), (14, .long l14), (16, .int i16), (17, .int i17)]) (i := 18) (Nat.le_of_ble_eq_true rfl) rfl dL_law_355 ?_
    refine zq_aload_n (k := 1) (i := 1) (x := 1) 2 rfl rfl dL_law_357 ?_
    refine zq_iload (i := 9) (x := i9) 7 rfl dL_law_358 ?_
    refine zq_iload (i := 10) (x := i10) 8 rfl dL_law_360 ?_
    refine zq_iconst (v := (nI 1)) rfl dL_law_362 ?_
    refine zq_invV (as := [.int i9, .int i10, .int (nI 1)]) (st := []) (o := 1) (c := 9) (by decide) rfl (sh_1 wh2) in_X10_add se_X10_add mo_X10_add ml_RL_55 rfl (Nat.le_of_ble_eq_true rfl) dL_law_363 rfl H (fun r1 h4 hq => ?_)
    obtain ⟨x5, rfl, wh4, H⟩ := hq
    show zQ (some (L, xs)) m_L_law (d + 1) 366 [(18, .int x3), (0, .ref 0), (1, .ref 1), (2, .ref 53), (3, .ref 54), (4, .ref 55), (6, .int i6), (9, .int i9), (10, .int i10), (11, .int i11), (12, .long l12), (14, .long l14), (16, .int i16), (17, .int i17)] (.int x5 :: []) h4 Q
    refine zq_aload_n (k := 1) (i := 1) (x := 1) 2 rfl rfl dL_law_366 ?_
    refine zq_iload (i := 9) (x := i9) 7 rfl dL_law_367 ?_
    refine zq_iload (i := 10) (x := i10) 8 rfl dL_law_369 ?_
    refine zq_iconst (v := (nI 1)) rfl dL_law_371 ?_
    refine zq_iadd dL_law_372 ?_
    refine zq_bipush (v := (nI 40)) rfl dL_law_373 ?_
    refine zq_irem (by decide) dL_law_375 ?_
    refine zq_invV (as := [.int i9, .int ((i10 + (nI 1)) - (i10 + (nI 1)) / (nI 40) * (nI 40))]) (st := .int x5 :: []) (o := 1) (c := 9) (by decide) rfl (sh_1 wh4) in_X10_cut se_X10_cut mo_X10_cut ml_RL_45 rfl (Nat.le_of_ble_eq_true rfl) dL_law_376 rfl H (fun r1 h6 hq => ?_)
    obtain ⟨x7, rfl, wh6, H⟩ := hq
    show zQ (some (L, xs)) m_L_law (d + 1) 379 [(18, .int x3), (0, .ref 0), (1, .ref 1), (2, .ref 53), (3, .ref 54), (4, .ref 55), (6, .int i6), (9, .int i9), (10, .int i10), (11, .int i11), (12, .long l12), (14, .long l14), (16, .int i16), (17, .int i17)] (.int x7 :: .int x5 :: []) h6 Q
    refine zq_iadd dL_law_379 ?_
    refine zq_aload_n (k := 1) (i := 1) (x := 1) 2 rfl rfl dL_law_380 ?_
    refine zq_iconst (v := (nI 3)) rfl dL_law_381 ?_
    refine zq_invV (as := [.int (nI 3)]) (st := .int (x5 + x7) :: []) (o := 1) (c := 9) (by decide) rfl (sh_1 wh6) in_X10_back se_X10_back mo_X10_back ml_RL_81 rfl (Nat.le_of_ble_eq_true rfl) dL_law_382 rfl H (fun r1 h8 hq => ?_)
    obtain ⟨x9, rfl, wh8, H⟩ := hq
    show zQ (some (L, xs)) m_L_law (d + 1) 385 [(18, .int x3), (0, .ref 0), (1, .ref 1), (2, .ref 53), (3, .ref 54), (4, .ref 55), (6, .int i6), (9, .int i9), (10, .int i10), (11, .int i11), (12, .long l12), (14, .long l14), (16, .int i16), (17, .int i17)] (.int x9 :: .int (x5 + x7) :: []) h8 Q
    refine zq_iadd dL_law_385 ?_
    refine zq_istore (ls' := [(19, .int ((x5 + x7) + x9)), (18, .int x3), (0, .ref 0), (1, .ref 1), (2, .ref 53), (3, .ref 54), (4, .ref 55), (6, .int i6), (9, .int i9), (10, .int i10), (11, .int i11), (12, .long l12), (14, .long l14), (16, .int i16), (17, .int i17)]) (i := 19) (Nat.le_of_ble_eq_true rfl) rfl dL_law_386 ?_
    refine zq_aload_n (k := 1) (i := 1) (x := 1) 3 rfl rfl dL_law_388 ?_
    refine zq_invV (as := []) (st := []) (o := 1) (c := 9) (by decide) rfl (sh_1 wh8) in_X10_undo se_X10_undo mo_X10_undo ml_RL_85 rfl (Nat.le_of_ble_eq_true rfl) dL_law_389 rfl H (fun r1 h10 hq => ?_)
    obtain ⟨x11, rfl, wh10, H⟩ := hq
    show zQ (some (L, xs)) m_L_law (d + 1) 392 [(19, .int ((x5 + x7) + x9)), (18, .int x3), (0, .ref 0), (1, .ref 1), (2, .ref 53), (3, .ref 54), (4, .ref 55), (6, .int i6), (9, .int i9), (10, .int i10), (11, .int i11), (12, .long l12), (14, .long l14), (16, .int i16), (17, .int i17)] (.int x11 :: []) h10 Q
    refine zq_iload (i := 18) (x := x3) 1 rfl dL_law_392 ?_
    refine zq_icmp_ne (tgt := 406) dL_law_394 rfl ⟨fun c12 => ?_, fun c12 => ?_⟩
    · have H := H.1 c12
      refine zq_iconst (v := (nI 0)) rfl dL_law_406 ?_
      exact zq_iret dL_law_407 rfl rfl rfl H
    · have H := H.2 c12
      refine zq_iload (i := 18) (x := x3) 1 rfl dL_law_397 ?_
      refine zq_i2l dL_law_399 ?_
      refine zq_lload (i := 14) (x := l14) 12 rfl dL_law_400 ?_
      refine zq_lcmp dL_law_402 ?_
      refine zq_if_eq (tgt := 408) dL_law_403 rfl ⟨fun c13 => ?_, fun c13 => ?_⟩
      · have H := H.1 c13
        refine zq_goto (tgt := 609) dL_law_408 rfl ?_
        exact zq_sub (ls' := [(0, .ref 0), (1, .ref 1), (2, .ref 53), (3, .ref 54), (4, .ref 55), (6, .int i6), (9, .int i9)]) [2, 3, 4, 5, 6, 7, 8] rfl H
      · have H := H.2 c13
        refine zq_iconst (v := (nI 0)) rfl dL_law_406 ?_
        exact zq_iret dL_law_407 rfl rfl rfl H
set_option maxHeartbeats 2000000 in
set_option maxRecDepth 20000 in
theorem r_L_law_411 {d : Nat} {h : AH} {Q : Option Value → AH → Prop} (L : Nat) (xs : Nat → Int32) (i6 : Int32) (i9 : Int32) (i10 : Int32) (i11 : Int32) (l12 : Int64) (l14 : Int64) (i16 : Int32) (i17 : Int32) (hw : zWF h)  (H : (i17 ≠ (nI 6) → zQ (some (L, xs)) m_L_law (d + 1) 523 [(0, .ref 0), (1, .ref 1), (2, .ref 53), (3, .ref 54), (4, .ref 55), (6, .int i6), (9, .int i9), (12, .long l12)] [] h Q) ∧ (i17 = (nI 6) → (i11 = 0 → zQ (some (L, xs)) m_L_law (d + 1) 523 [(0, .ref 0), (1, .ref 1), (2, .ref 53), (3, .ref 54), (4, .ref 55), (6, .int i6), (9, .int i9), (12, .long l12)] [] h Q) ∧ (¬ i11 = 0 → zK d m_X10_edge [.ref 1, .int i9, .int i10, .int (nI 1)] h (kI fun x4 h3 => ((i16 + (nI 2)) < x4 → Q (some (.int (nI 0))) h3) ∧ (¬ (i16 + (nI 2)) < x4 → (x4 < (nI 2) → Q (some (.int (nI 0))) h3) ∧ (¬ x4 < (nI 2) → zK d m_X10_truss [.ref 1, .int x4] h3 (kI fun x8 h7 => (x8 < (nI 1) → Q (some (.int (nI 0))) h7) ∧ (¬ x8 < (nI 1) → zK d m_X10_hood [.ref 1, .int i9, .int i10, .int x4] h7 (kI fun x11 h10 => (x11 < (nI 1) → Q (some (.int (nI 0))) h10) ∧ (¬ x11 < (nI 1) → zK d m_X10_hood [.ref 1, .int i9, .int i10, .int (x4 + (nI 1))] h10 (kI fun x14 h13 => (x14 ≠ 0 → Q (some (.int (nI 0))) h13) ∧ (x14 = 0 → zK d m_X10_edge [.ref 1, .int i9, .int i10, .int (nI 2)] h13 (kI fun x17 h16 => (0 ≤ (lg_cmp x17.toInt64 l14) → Q (some (.int (nI 0))) h16) ∧ (¬ 0 ≤ (lg_cmp x17.toInt64 l14) → zK d m_X10_of [.ref 1, .int i9, .int (nI 3)] h16 (kI fun x20 h19 => ((x4 - (nI 1)) ≤ x20 → zQ (some (L, xs)) m_L_law (d + 1) 609 [(0, .ref 0), (1, .ref 1), (2, .ref 53), (3, .ref 54), (4, .ref 55), (6, .int i6), (9, .int i9)] [] h19 Q) ∧ (¬ (x4 - (nI 1)) ≤ x20 → Q (some (.int (nI 0))) h19)))))))))))))))) : zQ (some (L, xs)) m_L_law (d + 1) 411 [(0, .ref 0), (1, .ref 1), (2, .ref 53), (3, .ref 54), (4, .ref 55), (6, .int i6), (9, .int i9), (10, .int i10), (11, .int i11), (12, .long l12), (14, .long l14), (16, .int i16), (17, .int i17)] [] h Q := by
  refine zq_iload (i := 17) (x := i17) 12 rfl dL_law_411 ?_
  refine zq_bipush (v := (nI 6)) rfl dL_law_413 ?_
  refine zq_icmp_ne (tgt := 523) dL_law_415 rfl ⟨fun c1 => ?_, fun c1 => ?_⟩
  · have H := H.1 c1
    exact zq_sub (ls' := [(0, .ref 0), (1, .ref 1), (2, .ref 53), (3, .ref 54), (4, .ref 55), (6, .int i6), (9, .int i9), (12, .long l12)]) [0, 1, 2, 3, 4, 5, 6, 9] rfl H
  · have H := H.2 c1
    refine zq_iload (i := 11) (x := i11) 8 rfl dL_law_418 ?_
    refine zq_if_eq (tgt := 523) dL_law_420 rfl ⟨fun c2 => ?_, fun c2 => ?_⟩
    · have H := H.1 c2
      exact zq_sub (ls' := [(0, .ref 0), (1, .ref 1), (2, .ref 53), (3, .ref 54), (4, .ref 55), (6, .int i6), (9, .int i9), (12, .long l12)]) [0, 1, 2, 3, 4, 5, 6, 9] rfl H
    · have H := H.2 c2
      refine zq_aload_n (k := 1) (i := 1) (x := 1) 1 rfl rfl dL_law_423 ?_
      refine zq_iload (i := 9) (x := i9) 6 rfl dL_law_424 ?_
      refine zq_iload (i := 10) (x := i10) 7 rfl dL_law_426 ?_
      refine zq_iconst (v := (nI 1)) rfl dL_law_428 ?_
      refine zq_invV (as := [.int i9, .int i10, .int (nI 1)]) (st := []) (o := 1) (c := 9) (by decide) rfl (sh_1 hw) in_X10_edge se_X10_edge mo_X10_edge ml_RL_88 rfl (Nat.le_of_ble_eq_true rfl) dL_law_429 rfl H (fun r1 h3 hq => ?_)
      obtain ⟨x4, rfl, wh3, H⟩ := hq
      show zQ (some (L, xs)) m_L_law (d + 1) 432 [(0, .ref 0), (1, .ref 1), (2, .ref 53), (3, .ref 54), (4, .ref 55), (6, .int i6), (9, .int i9), (10, .int i10), (11, .int i11), (12, .long l12), (14, .long l14), (16, .int i16), (17, .int i17)] (.int x4 :: []) h3 Q
      refine zq_istore (ls' := [(18, .int x4), (0, .ref 0), (1, .ref 1), (2, .ref 53), (3, .ref 54), (4, .ref 55), (6, .int i6), (9, .int i9), (10, .int i10), (11, .int i11), (12, .long l12), (14, .long l14), (16, .int i16), (17, .int i17)]) (i := 18) (Nat.le_of_ble_eq_true rfl) rfl dL_law_432 ?_
      refine zq_iload (i := 18) (x := x4) 0 rfl dL_law_434 ?_
      refine zq_iload (i := 16) (x := i16) 12 rfl dL_law_436 ?_
      refine zq_iconst (v := (nI 2)) rfl dL_law_438 ?_
      refine zq_iadd dL_law_439 ?_
      refine zq_icmp_gt (tgt := 518) dL_law_440 rfl ⟨fun c5 => ?_, fun c5 => ?_⟩
      · have H := H.1 c5
        refine zq_iconst (v := (nI 0)) rfl dL_law_518 ?_
        exact zq_iret dL_law_519 rfl rfl rfl H
      · have H := H.2 c5
        refine zq_iload (i := 18) (x := x4) 0 rfl dL_law_443 ?_
        refine zq_iconst (v := (nI 2)) rfl dL_law_445 ?_
        refine zq_icmp_lt (tgt := 518) dL_law_446 rfl ⟨fun c6 => ?_, fun c6 => ?_⟩
        · have H := H.1 c6
          refine zq_iconst (v := (nI 0)) rfl dL_law_518 ?_
          exact zq_iret dL_law_519 rfl rfl rfl H
        · have H := H.2 c6
          refine zq_aload_n (k := 1) (i := 1) (x := 1) 2 rfl rfl dL_law_449 ?_
          refine zq_iload (i := 18) (x := x4) 0 rfl dL_law_450 ?_
          refine zq_invV (as := [.int x4]) (st := []) (o := 1) (c := 9) (by decide) rfl (sh_1 wh3) in_X10_truss se_X10_truss mo_X10_truss ml_RL_91 rfl (Nat.le_of_ble_eq_true rfl) dL_law_452 rfl H (fun r1 h7 hq => ?_)
          obtain ⟨x8, rfl, wh7, H⟩ := hq
          show zQ (some (L, xs)) m_L_law (d + 1) 455 [(18, .int x4), (0, .ref 0), (1, .ref 1), (2, .ref 53), (3, .ref 54), (4, .ref 55), (6, .int i6), (9, .int i9), (10, .int i10), (11, .int i11), (12, .long l12), (14, .long l14), (16, .int i16), (17, .int i17)] (.int x8 :: []) h7 Q
          refine zq_iconst (v := (nI 1)) rfl dL_law_455 ?_
          refine zq_icmp_lt (tgt := 518) dL_law_456 rfl ⟨fun c9 => ?_, fun c9 => ?_⟩
          · have H := H.1 c9
            refine zq_iconst (v := (nI 0)) rfl dL_law_518 ?_
            exact zq_iret dL_law_519 rfl rfl rfl H
          · have H := H.2 c9
            refine zq_aload_n (k := 1) (i := 1) (x := 1) 2 rfl rfl dL_law_459 ?_
            refine zq_iload (i := 9) (x := i9) 7 rfl dL_law_460 ?_
            refine zq_iload (i := 10) (x := i10) 8 rfl dL_law_462 ?_
            refine zq_iload (i := 18) (x := x4) 0 rfl dL_law_464 ?_
            refine zq_invV (as := [.int i9, .int i10, .int x4]) (st := []) (o := 1) (c := 9) (by decide) rfl (sh_1 wh7) in_X10_hood se_X10_hood mo_X10_hood ml_RL_94 rfl (Nat.le_of_ble_eq_true rfl) dL_law_466 rfl H (fun r1 h10 hq => ?_)
            obtain ⟨x11, rfl, wh10, H⟩ := hq
            show zQ (some (L, xs)) m_L_law (d + 1) 469 [(18, .int x4), (0, .ref 0), (1, .ref 1), (2, .ref 53), (3, .ref 54), (4, .ref 55), (6, .int i6), (9, .int i9), (10, .int i10), (11, .int i11), (12, .long l12), (14, .long l14), (16, .int i16), (17, .int i17)] (.int x11 :: []) h10 Q
            refine zq_iconst (v := (nI 1)) rfl dL_law_469 ?_
            refine zq_icmp_lt (tgt := 518) dL_law_470 rfl ⟨fun c12 => ?_, fun c12 => ?_⟩
            · have H := H.1 c12
              refine zq_iconst (v := (nI 0)) rfl dL_law_518 ?_
              exact zq_iret dL_law_519 rfl rfl rfl H
            · have H := H.2 c12
              refine zq_aload_n (k := 1) (i := 1) (x := 1) 2 rfl rfl dL_law_473 ?_
              refine zq_iload (i := 9) (x := i9) 7 rfl dL_law_474 ?_
              refine zq_iload (i := 10) (x := i10) 8 rfl dL_law_476 ?_
              refine zq_iload (i := 18) (x := x4) 0 rfl dL_law_478 ?_
              refine zq_iconst (v := (nI 1)) rfl dL_law_480 ?_
              refine zq_iadd dL_law_481 ?_
              refine zq_invV (as := [.int i9, .int i10, .int (x4 + (nI 1))]) (st := []) (o := 1) (c := 9) (by decide) rfl (sh_1 wh10) in_X10_hood se_X10_hood mo_X10_hood ml_RL_94 rfl (Nat.le_of_ble_eq_true rfl) dL_law_482 rfl H (fun r1 h13 hq => ?_)
              obtain ⟨x14, rfl, wh13, H⟩ := hq
              show zQ (some (L, xs)) m_L_law (d + 1) 485 [(18, .int x4), (0, .ref 0), (1, .ref 1), (2, .ref 53), (3, .ref 54), (4, .ref 55), (6, .int i6), (9, .int i9), (10, .int i10), (11, .int i11), (12, .long l12), (14, .long l14), (16, .int i16), (17, .int i17)] (.int x14 :: []) h13 Q
              refine zq_if_ne (tgt := 518) dL_law_485 rfl ⟨fun c15 => ?_, fun c15 => ?_⟩
              · have H := H.1 c15
                refine zq_iconst (v := (nI 0)) rfl dL_law_518 ?_
                exact zq_iret dL_law_519 rfl rfl rfl H
              · have H := H.2 c15
                refine zq_aload_n (k := 1) (i := 1) (x := 1) 2 rfl rfl dL_law_488 ?_
                refine zq_iload (i := 9) (x := i9) 7 rfl dL_law_489 ?_
                refine zq_iload (i := 10) (x := i10) 8 rfl dL_law_491 ?_
                refine zq_iconst (v := (nI 2)) rfl dL_law_493 ?_
                refine zq_invV (as := [.int i9, .int i10, .int (nI 2)]) (st := []) (o := 1) (c := 9) (by decide) rfl (sh_1 wh13) in_X10_edge se_X10_edge mo_X10_edge ml_RL_88 rfl (Nat.le_of_ble_eq_true rfl) dL_law_494 rfl H (fun r1 h16 hq => ?_)
                obtain ⟨x17, rfl, wh16, H⟩ := hq
                show zQ (some (L, xs)) m_L_law (d + 1) 497 [(18, .int x4), (0, .ref 0), (1, .ref 1), (2, .ref 53), (3, .ref 54), (4, .ref 55), (6, .int i6), (9, .int i9), (10, .int i10), (11, .int i11), (12, .long l12), (14, .long l14), (16, .int i16), (17, .int i17)] (.int x17 :: []) h16 Q
                refine zq_i2l dL_law_497 ?_
                refine zq_lload (i := 14) (x := l14) 11 rfl dL_law_498 ?_
                refine zq_lcmp dL_law_500 ?_
                refine zq_if_ge (tgt := 518) dL_law_501 rfl ⟨fun c18 => ?_, fun c18 => ?_⟩
                · have H := H.1 c18
                  refine zq_iconst (v := (nI 0)) rfl dL_law_518 ?_
                  exact zq_iret dL_law_519 rfl rfl rfl H
                · have H := H.2 c18
                  refine zq_aload_n (k := 1) (i := 1) (x := 1) 2 rfl rfl dL_law_504 ?_
                  refine zq_iload (i := 9) (x := i9) 7 rfl dL_law_505 ?_
                  refine zq_iconst (v := (nI 3)) rfl dL_law_507 ?_
                  refine zq_invV (as := [.int i9, .int (nI 3)]) (st := []) (o := 1) (c := 9) (by decide) rfl (sh_1 wh16) in_X10_of se_X10_of mo_X10_of ml_RL_97 rfl (Nat.le_of_ble_eq_true rfl) dL_law_508 rfl H (fun r1 h19 hq => ?_)
                  obtain ⟨x20, rfl, wh19, H⟩ := hq
                  show zQ (some (L, xs)) m_L_law (d + 1) 511 [(18, .int x4), (0, .ref 0), (1, .ref 1), (2, .ref 53), (3, .ref 54), (4, .ref 55), (6, .int i6), (9, .int i9), (10, .int i10), (11, .int i11), (12, .long l12), (14, .long l14), (16, .int i16), (17, .int i17)] (.int x20 :: []) h19 Q
                  refine zq_iload (i := 18) (x := x4) 0 rfl dL_law_511 ?_
                  refine zq_iconst (v := (nI 1)) rfl dL_law_513 ?_
                  refine zq_isub dL_law_514 ?_
                  refine zq_icmp_ge (tgt := 520) dL_law_515 rfl ⟨fun c21 => ?_, fun c21 => ?_⟩
                  · have H := H.1 c21
                    refine zq_goto (tgt := 609) dL_law_520 rfl ?_
                    exact zq_sub (ls' := [(0, .ref 0), (1, .ref 1), (2, .ref 53), (3, .ref 54), (4, .ref 55), (6, .int i6), (9, .int i9)]) [1, 2, 3, 4, 5, 6, 7] rfl H
                  · have H := H.2 c21
                    refine zq_iconst (v := (nI 0)) rfl dL_law_518 ?_
                    exact zq_iret dL_law_519 rfl rfl rfl H
set_option maxHeartbeats 2000000 in
set_option maxRecDepth 20000 in
theorem r_L_law_523 {d : Nat} {h : AH} {Q : Option Value → AH → Prop} (L : Nat) (xs : Nat → Int32) (i6 : Int32) (i9 : Int32) (l12 : Int64) (hw : zWF h)  (H : zK d m_X10_spell [.ref 1] h (kI fun x2 h1 => zK d m_X10_fewest [.ref 1] h1 (kI fun x4 h3 => zK d m_X10_broken [.ref 1, .int (nI 0)] h3 (kI fun x6 h5 => zK d m_X10_hoods [.ref 1, .int (nI 3)] h5 (kI fun x8 h7 => ((((x2 + x4) + x6) + x8) < (-5) → Q (some (.int (nI 0))) h7) ∧ (¬ (((x2 + x4) + x6) + x8) < (-5) → zK d m_X10_broken [.ref 1, .int (nI 0)] h7 (kI fun x11 h10 => (0 < (lg_cmp x11.toInt64 l12) → Q (some (.int (nI 0))) h10) ∧ (¬ 0 < (lg_cmp x11.toInt64 l12) → zK d m_X10_fewest [.ref 1] h10 (kI fun x14 h13 => (x14 ≠ 0 → ((lg_cmp l12 (0 : Int64)) ≠ 0 → ((nI 0) ≠ (nI 0) → Q (some (.int (nI 0))) h13) ∧ ((nI 0) = (nI 0) → zK d m_X10_told [.ref 1, .int (nI 13)] h13 (kL fun x19 h18 => zK d m_X10_told [.ref 1, .int (nI 2)] h18 (kL fun x21 h20 => ((lg_cmp x19 x21) ≤ 0 → zQ (some (L, xs)) m_L_law (d + 1) 609 [(0, .ref 0), (1, .ref 1), (2, .ref 53), (3, .ref 54), (4, .ref 55), (6, .int i6), (9, .int i9)] [] h20 Q) ∧ (¬ (lg_cmp x19 x21) ≤ 0 → Q (some (.int (nI 0))) h20))))) ∧ ((lg_cmp l12 (0 : Int64)) = 0 → ((nI 0) ≠ (nI 1) → Q (some (.int (nI 0))) h13) ∧ ((nI 0) = (nI 1) → zK d m_X10_told [.ref 1, .int (nI 13)] h13 (kL fun x25 h24 => zK d m_X10_told [.ref 1, .int (nI 2)] h24 (kL fun x27 h26 => ((lg_cmp x25 x27) ≤ 0 → zQ (some (L, xs)) m_L_law (d + 1) 609 [(0, .ref 0), (1, .ref 1), (2, .ref 53), (3, .ref 54), (4, .ref 55), (6, .int i6), (9, .int i9)] [] h26 Q) ∧ (¬ (lg_cmp x25 x27) ≤ 0 → Q (some (.int (nI 0))) h26)))))) ∧ (x14 = 0 → ((lg_cmp l12 (0 : Int64)) ≠ 0 → ((nI 1) ≠ (nI 0) → Q (some (.int (nI 0))) h13) ∧ ((nI 1) = (nI 0) → zK d m_X10_told [.ref 1, .int (nI 13)] h13 (kL fun x32 h31 => zK d m_X10_told [.ref 1, .int (nI 2)] h31 (kL fun x34 h33 => ((lg_cmp x32 x34) ≤ 0 → zQ (some (L, xs)) m_L_law (d + 1) 609 [(0, .ref 0), (1, .ref 1), (2, .ref 53), (3, .ref 54), (4, .ref 55), (6, .int i6), (9, .int i9)] [] h33 Q) ∧ (¬ (lg_cmp x32 x34) ≤ 0 → Q (some (.int (nI 0))) h33))))) ∧ ((lg_cmp l12 (0 : Int64)) = 0 → ((nI 1) ≠ (nI 1) → Q (some (.int (nI 0))) h13) ∧ ((nI 1) = (nI 1) → zK d m_X10_told [.ref 1, .int (nI 13)] h13 (kL fun x38 h37 => zK d m_X10_told [.ref 1, .int (nI 2)] h37 (kL fun x40 h39 => ((lg_cmp x38 x40) ≤ 0 → zQ (some (L, xs)) m_L_law (d + 1) 609 [(0, .ref 0), (1, .ref 1), (2, .ref 53), (3, .ref 54), (4, .ref 55), (6, .int i6), (9, .int i9)] [] h39 Q) ∧ (¬ (lg_cmp x38 x40) ≤ 0 → Q (some (.int (nI 0))) h39))))))))))))))) : zQ (some (L, xs)) m_L_law (d + 1) 523 [(0, .ref 0), (1, .ref 1), (2, .ref 53), (3, .ref 54), (4, .ref 55), (6, .int i6), (9, .int i9), (12, .long l12)] [] h Q := by
  refine zq_aload_n (k := 1) (i := 1) (x := 1) 1 rfl rfl dL_law_523 ?_
  refine zq_invV (as := []) (st := []) (o := 1) (c := 9) (by decide) rfl (sh_1 hw) in_X10_spell se_X10_spell mo_X10_spell ml_RL_100 rfl (Nat.le_of_ble_eq_true rfl) dL_law_524 rfl H (fun r1 h1 hq => ?_)
  obtain ⟨x2, rfl, wh1, H⟩ := hq
  show zQ (some (L, xs)) m_L_law (d + 1) 527 [(0, .ref 0), (1, .ref 1), (2, .ref 53), (3, .ref 54), (4, .ref 55), (6, .int i6), (9, .int i9), (12, .long l12)] (.int x2 :: []) h1 Q
  refine zq_aload_n (k := 1) (i := 1) (x := 1) 1 rfl rfl dL_law_527 ?_
  refine zq_invV (as := []) (st := .int x2 :: []) (o := 1) (c := 9) (by decide) rfl (sh_1 wh1) in_X10_fewest se_X10_fewest mo_X10_fewest ml_RL_103 rfl (Nat.le_of_ble_eq_true rfl) dL_law_528 rfl H (fun r1 h3 hq => ?_)
  obtain ⟨x4, rfl, wh3, H⟩ := hq
  show zQ (some (L, xs)) m_L_law (d + 1) 531 [(0, .ref 0), (1, .ref 1), (2, .ref 53), (3, .ref 54), (4, .ref 55), (6, .int i6), (9, .int i9), (12, .long l12)] (.int x4 :: .int x2 :: []) h3 Q
  refine zq_iadd dL_law_531 ?_
  refine zq_aload_n (k := 1) (i := 1) (x := 1) 1 rfl rfl dL_law_532 ?_
  refine zq_iconst (v := (nI 0)) rfl dL_law_533 ?_
  refine zq_invV (as := [.int (nI 0)]) (st := .int (x2 + x4) :: []) (o := 1) (c := 9) (by decide) rfl (sh_1 wh3) in_X10_broken se_X10_broken mo_X10_broken ml_RL_106 rfl (Nat.le_of_ble_eq_true rfl) dL_law_534 rfl H (fun r1 h5 hq => ?_)
  obtain ⟨x6, rfl, wh5, H⟩ := hq
  show zQ (some (L, xs)) m_L_law (d + 1) 537 [(0, .ref 0), (1, .ref 1), (2, .ref 53), (3, .ref 54), (4, .ref 55), (6, .int i6), (9, .int i9), (12, .long l12)] (.int x6 :: .int (x2 + x4) :: []) h5 Q
  refine zq_iadd dL_law_537 ?_
  refine zq_aload_n (k := 1) (i := 1) (x := 1) 1 rfl rfl dL_law_538 ?_
  refine zq_iconst (v := (nI 3)) rfl dL_law_539 ?_
  refine zq_invV (as := [.int (nI 3)]) (st := .int ((x2 + x4) + x6) :: []) (o := 1) (c := 9) (by decide) rfl (sh_1 wh5) in_X10_hoods se_X10_hoods mo_X10_hoods ml_RL_109 rfl (Nat.le_of_ble_eq_true rfl) dL_law_540 rfl H (fun r1 h7 hq => ?_)
  obtain ⟨x8, rfl, wh7, H⟩ := hq
  show zQ (some (L, xs)) m_L_law (d + 1) 543 [(0, .ref 0), (1, .ref 1), (2, .ref 53), (3, .ref 54), (4, .ref 55), (6, .int i6), (9, .int i9), (12, .long l12)] (.int x8 :: .int ((x2 + x4) + x6) :: []) h7 Q
  refine zq_iadd dL_law_543 ?_
  refine zq_istore (ls' := [(18, .int (((x2 + x4) + x6) + x8)), (0, .ref 0), (1, .ref 1), (2, .ref 53), (3, .ref 54), (4, .ref 55), (6, .int i6), (9, .int i9), (12, .long l12)]) (i := 18) (Nat.le_of_ble_eq_true rfl) rfl dL_law_544 ?_
  refine zq_iload (i := 18) (x := (((x2 + x4) + x6) + x8)) 0 rfl dL_law_546 ?_
  refine zq_bipush (v := (-5)) rfl dL_law_548 ?_
  refine zq_icmp_lt (tgt := 607) dL_law_550 rfl ⟨fun c9 => ?_, fun c9 => ?_⟩
  · have H := H.1 c9
    refine zq_iconst (v := (nI 0)) rfl dL_law_607 ?_
    exact zq_iret dL_law_608 rfl rfl rfl H
  · have H := H.2 c9
    refine zq_aload_n (k := 1) (i := 1) (x := 1) 2 rfl rfl dL_law_553 ?_
    refine zq_iconst (v := (nI 0)) rfl dL_law_554 ?_
    refine zq_invV (as := [.int (nI 0)]) (st := []) (o := 1) (c := 9) (by decide) rfl (sh_1 wh7) in_X10_broken se_X10_broken mo_X10_broken ml_RL_106 rfl (Nat.le_of_ble_eq_true rfl) dL_law_555 rfl H (fun r1 h10 hq => ?_)
    obtain ⟨x11, rfl, wh10, H⟩ := hq
    show zQ (some (L, xs)) m_L_law (d + 1) 558 [(18, .int (((x2 + x4) + x6) + x8)), (0, .ref 0), (1, .ref 1), (2, .ref 53), (3, .ref 54), (4, .ref 55), (6, .int i6), (9, .int i9), (12, .long l12)] (.int x11 :: []) h10 Q
    refine zq_i2l dL_law_558 ?_
    refine zq_lload (i := 12) (x := l12) 8 rfl dL_law_559 ?_
    refine zq_lcmp dL_law_561 ?_
    refine zq_if_gt (tgt := 607) dL_law_562 rfl ⟨fun c12 => ?_, fun c12 => ?_⟩
    · have H := H.1 c12
      refine zq_iconst (v := (nI 0)) rfl dL_law_607 ?_
      exact zq_iret dL_law_608 rfl rfl rfl H
    · have H := H.2 c12
      refine zq_aload_n (k := 1) (i := 1) (x := 1) 2 rfl rfl dL_law_565 ?_
      refine zq_invV (as := []) (st := []) (o := 1) (c := 9) (by decide) rfl (sh_1 wh10) in_X10_fewest se_X10_fewest mo_X10_fewest ml_RL_103 rfl (Nat.le_of_ble_eq_true rfl) dL_law_566 rfl H (fun r1 h13 hq => ?_)
      obtain ⟨x14, rfl, wh13, H⟩ := hq
      show zQ (some (L, xs)) m_L_law (d + 1) 569 [(18, .int (((x2 + x4) + x6) + x8)), (0, .ref 0), (1, .ref 1), (2, .ref 53), (3, .ref 54), (4, .ref 55), (6, .int i6), (9, .int i9), (12, .long l12)] (.int x14 :: []) h13 Q
      refine zq_if_ne (tgt := 576) dL_law_569 rfl ⟨fun c15 => ?_, fun c15 => ?_⟩
      · have H := H.1 c15
        refine zq_iconst (v := (nI 0)) rfl dL_law_576 ?_
        refine zq_lload (i := 12) (x := l12) 8 rfl dL_law_577 ?_
        refine zq_lconst (v := 0) rfl dL_law_579 ?_
        refine zq_lcmp dL_law_580 ?_
        refine zq_if_ne (tgt := 588) dL_law_581 rfl ⟨fun c16 => ?_, fun c16 => ?_⟩
        · have H := H.1 c16
          refine zq_iconst (v := (nI 0)) rfl dL_law_588 ?_
          refine zq_icmp_ne (tgt := 607) dL_law_589 rfl ⟨fun c17 => ?_, fun c17 => ?_⟩
          · have H := H.1 c17
            refine zq_iconst (v := (nI 0)) rfl dL_law_607 ?_
            exact zq_iret dL_law_608 rfl rfl rfl H
          · have H := H.2 c17
            refine zq_aload_n (k := 1) (i := 1) (x := 1) 2 rfl rfl dL_law_592 ?_
            refine zq_bipush (v := (nI 13)) rfl dL_law_593 ?_
            refine zq_invV (as := [.int (nI 13)]) (st := []) (o := 1) (c := 9) (by decide) rfl (sh_1 wh13) in_X10_told se_X10_told mo_X10_told ml_RL_62 rfl (Nat.le_of_ble_eq_true rfl) dL_law_595 rfl H (fun r1 h18 hq => ?_)
            obtain ⟨x19, rfl, wh18, H⟩ := hq
            show zQ (some (L, xs)) m_L_law (d + 1) 598 [(18, .int (((x2 + x4) + x6) + x8)), (0, .ref 0), (1, .ref 1), (2, .ref 53), (3, .ref 54), (4, .ref 55), (6, .int i6), (9, .int i9), (12, .long l12)] (.long x19 :: []) h18 Q
            refine zq_aload_n (k := 1) (i := 1) (x := 1) 2 rfl rfl dL_law_598 ?_
            refine zq_iconst (v := (nI 2)) rfl dL_law_599 ?_
            refine zq_invV (as := [.int (nI 2)]) (st := .long x19 :: []) (o := 1) (c := 9) (by decide) rfl (sh_1 wh18) in_X10_told se_X10_told mo_X10_told ml_RL_62 rfl (Nat.le_of_ble_eq_true rfl) dL_law_600 rfl H (fun r1 h20 hq => ?_)
            obtain ⟨x21, rfl, wh20, H⟩ := hq
            show zQ (some (L, xs)) m_L_law (d + 1) 603 [(18, .int (((x2 + x4) + x6) + x8)), (0, .ref 0), (1, .ref 1), (2, .ref 53), (3, .ref 54), (4, .ref 55), (6, .int i6), (9, .int i9), (12, .long l12)] (.long x21 :: .long x19 :: []) h20 Q
            refine zq_lcmp dL_law_603 ?_
            refine zq_if_le (tgt := 609) dL_law_604 rfl ⟨fun c22 => ?_, fun c22 => ?_⟩
            · have H := H.1 c22
              exact zq_sub (ls' := [(0, .ref 0), (1, .ref 1), (2, .ref 53), (3, .ref 54), (4, .ref 55), (6, .int i6), (9, .int i9)]) [1, 2, 3, 4, 5, 6, 7] rfl H
            · have H := H.2 c22
              refine zq_iconst (v := (nI 0)) rfl dL_law_607 ?_
              exact zq_iret dL_law_608 rfl rfl rfl H
        · have H := H.2 c16
          refine zq_iconst (v := (nI 1)) rfl dL_law_584 ?_
          refine zq_goto (tgt := 589) dL_law_585 rfl ?_
          refine zq_icmp_ne (tgt := 607) dL_law_589 rfl ⟨fun c23 => ?_, fun c23 => ?_⟩
          · have H := H.1 c23
            refine zq_iconst (v := (nI 0)) rfl dL_law_607 ?_
            exact zq_iret dL_law_608 rfl rfl rfl H
          · have H := H.2 c23
            refine zq_aload_n (k := 1) (i := 1) (x := 1) 2 rfl rfl dL_law_592 ?_
            refine zq_bipush (v := (nI 13)) rfl dL_law_593 ?_
            refine zq_invV (as := [.int (nI 13)]) (st := []) (o := 1) (c := 9) (by decide) rfl (sh_1 wh13) in_X10_told se_X10_told mo_X10_told ml_RL_62 rfl (Nat.le_of_ble_eq_true rfl) dL_law_595 rfl H (fun r1 h24 hq => ?_)
            obtain ⟨x25, rfl, wh24, H⟩ := hq
            show zQ (some (L, xs)) m_L_law (d + 1) 598 [(18, .int (((x2 + x4) + x6) + x8)), (0, .ref 0), (1, .ref 1), (2, .ref 53), (3, .ref 54), (4, .ref 55), (6, .int i6), (9, .int i9), (12, .long l12)] (.long x25 :: []) h24 Q
            refine zq_aload_n (k := 1) (i := 1) (x := 1) 2 rfl rfl dL_law_598 ?_
            refine zq_iconst (v := (nI 2)) rfl dL_law_599 ?_
            refine zq_invV (as := [.int (nI 2)]) (st := .long x25 :: []) (o := 1) (c := 9) (by decide) rfl (sh_1 wh24) in_X10_told se_X10_told mo_X10_told ml_RL_62 rfl (Nat.le_of_ble_eq_true rfl) dL_law_600 rfl H (fun r1 h26 hq => ?_)
            obtain ⟨x27, rfl, wh26, H⟩ := hq
            show zQ (some (L, xs)) m_L_law (d + 1) 603 [(18, .int (((x2 + x4) + x6) + x8)), (0, .ref 0), (1, .ref 1), (2, .ref 53), (3, .ref 54), (4, .ref 55), (6, .int i6), (9, .int i9), (12, .long l12)] (.long x27 :: .long x25 :: []) h26 Q
            refine zq_lcmp dL_law_603 ?_
            refine zq_if_le (tgt := 609) dL_law_604 rfl ⟨fun c28 => ?_, fun c28 => ?_⟩
            · have H := H.1 c28
              exact zq_sub (ls' := [(0, .ref 0), (1, .ref 1), (2, .ref 53), (3, .ref 54), (4, .ref 55), (6, .int i6), (9, .int i9)]) [1, 2, 3, 4, 5, 6, 7] rfl H
            · have H := H.2 c28
              refine zq_iconst (v := (nI 0)) rfl dL_law_607 ?_
              exact zq_iret dL_law_608 rfl rfl rfl H
      · have H := H.2 c15
        refine zq_iconst (v := (nI 1)) rfl dL_law_572 ?_
        refine zq_goto (tgt := 577) dL_law_573 rfl ?_
        refine zq_lload (i := 12) (x := l12) 8 rfl dL_law_577 ?_
        refine zq_lconst (v := 0) rfl dL_law_579 ?_
        refine zq_lcmp dL_law_580 ?_
        refine zq_if_ne (tgt := 588) dL_law_581 rfl ⟨fun c29 => ?_, fun c29 => ?_⟩
        · have H := H.1 c29
          refine zq_iconst (v := (nI 0)) rfl dL_law_588 ?_
          refine zq_icmp_ne (tgt := 607) dL_law_589 rfl ⟨fun c30 => ?_, fun c30 => ?_⟩
          · have H := H.1 c30
            refine zq_iconst (v := (nI 0)) rfl dL_law_607 ?_
            exact zq_iret dL_law_608 rfl rfl rfl H
          · have H := H.2 c30
            refine zq_aload_n (k := 1) (i := 1) (x := 1) 2 rfl rfl dL_law_592 ?_
            refine zq_bipush (v := (nI 13)) rfl dL_law_593 ?_
            refine zq_invV (as := [.int (nI 13)]) (st := []) (o := 1) (c := 9) (by decide) rfl (sh_1 wh13) in_X10_told se_X10_told mo_X10_told ml_RL_62 rfl (Nat.le_of_ble_eq_true rfl) dL_law_595 rfl H (fun r1 h31 hq => ?_)
            obtain ⟨x32, rfl, wh31, H⟩ := hq
            show zQ (some (L, xs)) m_L_law (d + 1) 598 [(18, .int (((x2 + x4) + x6) + x8)), (0, .ref 0), (1, .ref 1), (2, .ref 53), (3, .ref 54), (4, .ref 55), (6, .int i6), (9, .int i9), (12, .long l12)] (.long x32 :: []) h31 Q
            refine zq_aload_n (k := 1) (i := 1) (x := 1) 2 rfl rfl dL_law_598 ?_
            refine zq_iconst (v := (nI 2)) rfl dL_law_599 ?_
            refine zq_invV (as := [.int (nI 2)]) (st := .long x32 :: []) (o := 1) (c := 9) (by decide) rfl (sh_1 wh31) in_X10_told se_X10_told mo_X10_told ml_RL_62 rfl (Nat.le_of_ble_eq_true rfl) dL_law_600 rfl H (fun r1 h33 hq => ?_)
            obtain ⟨x34, rfl, wh33, H⟩ := hq
            show zQ (some (L, xs)) m_L_law (d + 1) 603 [(18, .int (((x2 + x4) + x6) + x8)), (0, .ref 0), (1, .ref 1), (2, .ref 53), (3, .ref 54), (4, .ref 55), (6, .int i6), (9, .int i9), (12, .long l12)] (.long x34 :: .long x32 :: []) h33 Q
            refine zq_lcmp dL_law_603 ?_
            refine zq_if_le (tgt := 609) dL_law_604 rfl ⟨fun c35 => ?_, fun c35 => ?_⟩
            · have H := H.1 c35
              exact zq_sub (ls' := [(0, .ref 0), (1, .ref 1), (2, .ref 53), (3, .ref 54), (4, .ref 55), (6, .int i6), (9, .int i9)]) [1, 2, 3, 4, 5, 6, 7] rfl H
            · have H := H.2 c35
              refine zq_iconst (v := (nI 0)) rfl dL_law_607 ?_
              exact zq_iret dL_law_608 rfl rfl rfl H
        · have H := H.2 c29
          refine zq_iconst (v := (nI 1)) rfl dL_law_584 ?_
          refine zq_goto (tgt := 589) dL_law_585 rfl ?_
          refine zq_icmp_ne (tgt := 607) dL_law_589 rfl ⟨fun c36 => ?_, fun c36 => ?_⟩
          · have H := H.1 c36
            refine zq_iconst (v := (nI 0)) rfl dL_law_607 ?_
            exact zq_iret dL_law_608 rfl rfl rfl H
          · have H := H.2 c36
            refine zq_aload_n (k := 1) (i := 1) (x := 1) 2 rfl rfl dL_law_592 ?_
            refine zq_bipush (v := (nI 13)) rfl dL_law_593 ?_
            refine zq_invV (as := [.int (nI 13)]) (st := []) (o := 1) (c := 9) (by decide) rfl (sh_1 wh13) in_X10_told se_X10_told mo_X10_told ml_RL_62 rfl (Nat.le_of_ble_eq_true rfl) dL_law_595 rfl H (fun r1 h37 hq => ?_)
            obtain ⟨x38, rfl, wh37, H⟩ := hq
            show zQ (some (L, xs)) m_L_law (d + 1) 598 [(18, .int (((x2 + x4) + x6) + x8)), (0, .ref 0), (1, .ref 1), (2, .ref 53), (3, .ref 54), (4, .ref 55), (6, .int i6), (9, .int i9), (12, .long l12)] (.long x38 :: []) h37 Q
            refine zq_aload_n (k := 1) (i := 1) (x := 1) 2 rfl rfl dL_law_598 ?_
            refine zq_iconst (v := (nI 2)) rfl dL_law_599 ?_
            refine zq_invV (as := [.int (nI 2)]) (st := .long x38 :: []) (o := 1) (c := 9) (by decide) rfl (sh_1 wh37) in_X10_told se_X10_told mo_X10_told ml_RL_62 rfl (Nat.le_of_ble_eq_true rfl) dL_law_600 rfl H (fun r1 h39 hq => ?_)
            obtain ⟨x40, rfl, wh39, H⟩ := hq
            show zQ (some (L, xs)) m_L_law (d + 1) 603 [(18, .int (((x2 + x4) + x6) + x8)), (0, .ref 0), (1, .ref 1), (2, .ref 53), (3, .ref 54), (4, .ref 55), (6, .int i6), (9, .int i9), (12, .long l12)] (.long x40 :: .long x38 :: []) h39 Q
            refine zq_lcmp dL_law_603 ?_
            refine zq_if_le (tgt := 609) dL_law_604 rfl ⟨fun c41 => ?_, fun c41 => ?_⟩
            · have H := H.1 c41
              exact zq_sub (ls' := [(0, .ref 0), (1, .ref 1), (2, .ref 53), (3, .ref 54), (4, .ref 55), (6, .int i6), (9, .int i9)]) [1, 2, 3, 4, 5, 6, 7] rfl H
            · have H := H.2 c41
              refine zq_iconst (v := (nI 0)) rfl dL_law_607 ?_
              exact zq_iret dL_law_608 rfl rfl rfl H
set_option maxHeartbeats 2000000 in
set_option maxRecDepth 20000 in
theorem r_L_law_609 {d : Nat} {h : AH} {Q : Option Value → AH → Prop} (L : Nat) (xs : Nat → Int32) (i6 : Int32) (i9 : Int32) (hw : zWF h)  (H : zK d m_L_sees [.ref 1, .ref 53, .ref 54, .ref 55] h (kI fun x2 h1 => (x2 = 0 → Q (some (.int (nI 0))) h1) ∧ (¬ x2 = 0 → zK d m_X10_told [.ref 1, .int (nI 0)] h1 (kL fun x5 h4 => zK d m_X10_told [.ref 1, .int (nI 3)] h4 (kL fun x7 h6 => (0 < (lg_cmp x5 x7) → Q (some (.int (nI 0))) h6) ∧ (¬ 0 < (lg_cmp x5 x7) → zK d m_X10_told [.ref 1, .int (nI 4)] h6 (kL fun x10 h9 => zK d m_X10_told [.ref 1, .int (nI 4)] h9 (kL fun x12 h11 => zK d m_X10_told [.ref 1, .int (nI 3)] h11 (kL fun x14 h13 => (0 ≤ (lg_cmp (x10 * x12) x14) → zQ (some (L, xs)) m_L_law (d + 1) 656 [(0, .ref 0), (1, .ref 1), (2, .ref 53), (3, .ref 54), (4, .ref 55), (6, .int i6), (9, .int i9)] [] h13 Q) ∧ (¬ 0 ≤ (lg_cmp (x10 * x12) x14) → Q (some (.int (nI 0))) h13)))))))))) : zQ (some (L, xs)) m_L_law (d + 1) 609 [(0, .ref 0), (1, .ref 1), (2, .ref 53), (3, .ref 54), (4, .ref 55), (6, .int i6), (9, .int i9)] [] h Q := by
  refine zq_aload_n (k := 1) (i := 1) (x := 1) 1 rfl rfl dL_law_609 ?_
  refine zq_aload_n (k := 2) (i := 2) (x := 53) 2 rfl rfl dL_law_610 ?_
  refine zq_aload_n (k := 3) (i := 3) (x := 54) 3 rfl rfl dL_law_611 ?_
  refine zq_aload (i := 4) (x := 55) 4 rfl dL_law_612 ?_
  refine zq_invS (as := [.ref 1, .ref 53, .ref 54, .ref 55]) (st := []) st_L_sees mo_L_sees ml_RL_112 rfl (Nat.le_of_ble_eq_true rfl) dL_law_614 rfl H (fun r1 h1 hq => ?_)
  obtain ⟨x2, rfl, wh1, H⟩ := hq
  show zQ (some (L, xs)) m_L_law (d + 1) 617 [(0, .ref 0), (1, .ref 1), (2, .ref 53), (3, .ref 54), (4, .ref 55), (6, .int i6), (9, .int i9)] (.int x2 :: []) h1 Q
  refine zq_if_eq (tgt := 654) dL_law_617 rfl ⟨fun c3 => ?_, fun c3 => ?_⟩
  · have H := H.1 c3
    refine zq_iconst (v := (nI 0)) rfl dL_law_654 ?_
    exact zq_iret dL_law_655 rfl rfl rfl H
  · have H := H.2 c3
    refine zq_aload_n (k := 1) (i := 1) (x := 1) 1 rfl rfl dL_law_620 ?_
    refine zq_iconst (v := (nI 0)) rfl dL_law_621 ?_
    refine zq_invV (as := [.int (nI 0)]) (st := []) (o := 1) (c := 9) (by decide) rfl (sh_1 wh1) in_X10_told se_X10_told mo_X10_told ml_RL_62 rfl (Nat.le_of_ble_eq_true rfl) dL_law_622 rfl H (fun r1 h4 hq => ?_)
    obtain ⟨x5, rfl, wh4, H⟩ := hq
    show zQ (some (L, xs)) m_L_law (d + 1) 625 [(0, .ref 0), (1, .ref 1), (2, .ref 53), (3, .ref 54), (4, .ref 55), (6, .int i6), (9, .int i9)] (.long x5 :: []) h4 Q
    refine zq_aload_n (k := 1) (i := 1) (x := 1) 1 rfl rfl dL_law_625 ?_
    refine zq_iconst (v := (nI 3)) rfl dL_law_626 ?_
    refine zq_invV (as := [.int (nI 3)]) (st := .long x5 :: []) (o := 1) (c := 9) (by decide) rfl (sh_1 wh4) in_X10_told se_X10_told mo_X10_told ml_RL_62 rfl (Nat.le_of_ble_eq_true rfl) dL_law_627 rfl H (fun r1 h6 hq => ?_)
    obtain ⟨x7, rfl, wh6, H⟩ := hq
    show zQ (some (L, xs)) m_L_law (d + 1) 630 [(0, .ref 0), (1, .ref 1), (2, .ref 53), (3, .ref 54), (4, .ref 55), (6, .int i6), (9, .int i9)] (.long x7 :: .long x5 :: []) h6 Q
    refine zq_lcmp dL_law_630 ?_
    refine zq_if_gt (tgt := 654) dL_law_631 rfl ⟨fun c8 => ?_, fun c8 => ?_⟩
    · have H := H.1 c8
      refine zq_iconst (v := (nI 0)) rfl dL_law_654 ?_
      exact zq_iret dL_law_655 rfl rfl rfl H
    · have H := H.2 c8
      refine zq_aload_n (k := 1) (i := 1) (x := 1) 1 rfl rfl dL_law_634 ?_
      refine zq_iconst (v := (nI 4)) rfl dL_law_635 ?_
      refine zq_invV (as := [.int (nI 4)]) (st := []) (o := 1) (c := 9) (by decide) rfl (sh_1 wh6) in_X10_told se_X10_told mo_X10_told ml_RL_62 rfl (Nat.le_of_ble_eq_true rfl) dL_law_636 rfl H (fun r1 h9 hq => ?_)
      obtain ⟨x10, rfl, wh9, H⟩ := hq
      show zQ (some (L, xs)) m_L_law (d + 1) 639 [(0, .ref 0), (1, .ref 1), (2, .ref 53), (3, .ref 54), (4, .ref 55), (6, .int i6), (9, .int i9)] (.long x10 :: []) h9 Q
      refine zq_aload_n (k := 1) (i := 1) (x := 1) 1 rfl rfl dL_law_639 ?_
      refine zq_iconst (v := (nI 4)) rfl dL_law_640 ?_
      refine zq_invV (as := [.int (nI 4)]) (st := .long x10 :: []) (o := 1) (c := 9) (by decide) rfl (sh_1 wh9) in_X10_told se_X10_told mo_X10_told ml_RL_62 rfl (Nat.le_of_ble_eq_true rfl) dL_law_641 rfl H (fun r1 h11 hq => ?_)
      obtain ⟨x12, rfl, wh11, H⟩ := hq
      show zQ (some (L, xs)) m_L_law (d + 1) 644 [(0, .ref 0), (1, .ref 1), (2, .ref 53), (3, .ref 54), (4, .ref 55), (6, .int i6), (9, .int i9)] (.long x12 :: .long x10 :: []) h11 Q
      refine zq_lmul dL_law_644 ?_
      refine zq_aload_n (k := 1) (i := 1) (x := 1) 1 rfl rfl dL_law_645 ?_
      refine zq_iconst (v := (nI 3)) rfl dL_law_646 ?_
      refine zq_invV (as := [.int (nI 3)]) (st := .long (x10 * x12) :: []) (o := 1) (c := 9) (by decide) rfl (sh_1 wh11) in_X10_told se_X10_told mo_X10_told ml_RL_62 rfl (Nat.le_of_ble_eq_true rfl) dL_law_647 rfl H (fun r1 h13 hq => ?_)
      obtain ⟨x14, rfl, wh13, H⟩ := hq
      show zQ (some (L, xs)) m_L_law (d + 1) 650 [(0, .ref 0), (1, .ref 1), (2, .ref 53), (3, .ref 54), (4, .ref 55), (6, .int i6), (9, .int i9)] (.long x14 :: .long (x10 * x12) :: []) h13 Q
      refine zq_lcmp dL_law_650 ?_
      refine zq_if_ge (tgt := 656) dL_law_651 rfl ⟨fun c15 => ?_, fun c15 => ?_⟩
      · have H := H.1 c15
        exact H
      · have H := H.2 c15
        refine zq_iconst (v := (nI 0)) rfl dL_law_654 ?_
        exact zq_iret dL_law_655 rfl rfl rfl H
set_option maxHeartbeats 2000000 in
set_option maxRecDepth 20000 in
theorem r_L_law_656 {d : Nat} {h : AH} {Q : Option Value → AH → Prop} (L : Nat) (xs : Nat → Int32) (i6 : Int32) (i9 : Int32) (hw : zWF h)  (H : zK d m_X10_of [.ref 1, .int i9, .int (nI 0)] h (kI fun x2 h1 => zK d m_X10_of [.ref 1, .int i9, .int (nI 2)] h1 (kI fun x4 h3 => (x4 ≠ (nI 1) → zK d m_X10_near [.ref 1, .int i9] h3 (kL fun x7 h6 => zK d m_L_bits [.long x7] h6 (pI h6 fun x8 => (x8 ≠ x2 → Q (some (.int (nI 0))) h6) ∧ (x8 = x2 → ((nI 0) = 0 → zK d m_X10_told [.ref 1, .int (nI 0)] h6 (kL fun x12 h11 => (0 ≤ (lg_cmp ((2 : Int64) * x12) x2.toInt64) → zQ (some (L, xs)) m_L_law (d + 1) 51 [(0, .ref 0), (1, .ref 1), (2, .ref 53), (3, .ref 54), (4, .ref 55), (6, .int (i6 + (nI 1)))] [] h11 Q) ∧ (¬ 0 ≤ (lg_cmp ((2 : Int64) * x12) x2.toInt64) → Q (some (.int (nI 0))) h11))) ∧ (¬ (nI 0) = 0 → (x2 ≠ 0 → zK d m_X10_told [.ref 1, .int (nI 0)] h6 (kL fun x16 h15 => (0 ≤ (lg_cmp ((2 : Int64) * x16) x2.toInt64) → zQ (some (L, xs)) m_L_law (d + 1) 51 [(0, .ref 0), (1, .ref 1), (2, .ref 53), (3, .ref 54), (4, .ref 55), (6, .int (i6 + (nI 1)))] [] h15 Q) ∧ (¬ 0 ≤ (lg_cmp ((2 : Int64) * x16) x2.toInt64) → Q (some (.int (nI 0))) h15))) ∧ (x2 = 0 → zK d m_X10_told [.ref 1, .int (nI 4)] h6 (kL fun x19 h18 => (0 < (lg_cmp x19 (1 : Int64)) → Q (some (.int (nI 0))) h18) ∧ (¬ 0 < (lg_cmp x19 (1 : Int64)) → zK d m_X10_told [.ref 1, .int (nI 0)] h18 (kL fun x22 h21 => (0 ≤ (lg_cmp ((2 : Int64) * x22) x2.toInt64) → zQ (some (L, xs)) m_L_law (d + 1) 51 [(0, .ref 0), (1, .ref 1), (2, .ref 53), (3, .ref 54), (4, .ref 55), (6, .int (i6 + (nI 1)))] [] h21 Q) ∧ (¬ 0 ≤ (lg_cmp ((2 : Int64) * x22) x2.toInt64) → Q (some (.int (nI 0))) h21)))))))))) ∧ (x4 = (nI 1) → zK d m_X10_near [.ref 1, .int i9] h3 (kL fun x25 h24 => zK d m_L_bits [.long x25] h24 (pI h24 fun x26 => (x26 ≠ x2 → Q (some (.int (nI 0))) h24) ∧ (x26 = x2 → ((nI 1) = 0 → zK d m_X10_told [.ref 1, .int (nI 0)] h24 (kL fun x30 h29 => (0 ≤ (lg_cmp ((2 : Int64) * x30) x2.toInt64) → zQ (some (L, xs)) m_L_law (d + 1) 51 [(0, .ref 0), (1, .ref 1), (2, .ref 53), (3, .ref 54), (4, .ref 55), (6, .int (i6 + (nI 1)))] [] h29 Q) ∧ (¬ 0 ≤ (lg_cmp ((2 : Int64) * x30) x2.toInt64) → Q (some (.int (nI 0))) h29))) ∧ (¬ (nI 1) = 0 → (x2 ≠ 0 → zK d m_X10_told [.ref 1, .int (nI 0)] h24 (kL fun x34 h33 => (0 ≤ (lg_cmp ((2 : Int64) * x34) x2.toInt64) → zQ (some (L, xs)) m_L_law (d + 1) 51 [(0, .ref 0), (1, .ref 1), (2, .ref 53), (3, .ref 54), (4, .ref 55), (6, .int (i6 + (nI 1)))] [] h33 Q) ∧ (¬ 0 ≤ (lg_cmp ((2 : Int64) * x34) x2.toInt64) → Q (some (.int (nI 0))) h33))) ∧ (x2 = 0 → zK d m_X10_told [.ref 1, .int (nI 4)] h24 (kL fun x37 h36 => (0 < (lg_cmp x37 (1 : Int64)) → Q (some (.int (nI 0))) h36) ∧ (¬ 0 < (lg_cmp x37 (1 : Int64)) → zK d m_X10_told [.ref 1, .int (nI 0)] h36 (kL fun x40 h39 => (0 ≤ (lg_cmp ((2 : Int64) * x40) x2.toInt64) → zQ (some (L, xs)) m_L_law (d + 1) 51 [(0, .ref 0), (1, .ref 1), (2, .ref 53), (3, .ref 54), (4, .ref 55), (6, .int (i6 + (nI 1)))] [] h39 Q) ∧ (¬ 0 ≤ (lg_cmp ((2 : Int64) * x40) x2.toInt64) → Q (some (.int (nI 0))) h39))))))))))))) : zQ (some (L, xs)) m_L_law (d + 1) 656 [(0, .ref 0), (1, .ref 1), (2, .ref 53), (3, .ref 54), (4, .ref 55), (6, .int i6), (9, .int i9)] [] h Q := by
  refine zq_aload_n (k := 1) (i := 1) (x := 1) 1 rfl rfl dL_law_656 ?_
  refine zq_iload (i := 9) (x := i9) 6 rfl dL_law_657 ?_
  refine zq_iconst (v := (nI 0)) rfl dL_law_659 ?_
  refine zq_invV (as := [.int i9, .int (nI 0)]) (st := []) (o := 1) (c := 9) (by decide) rfl (sh_1 hw) in_X10_of se_X10_of mo_X10_of ml_RL_97 rfl (Nat.le_of_ble_eq_true rfl) dL_law_660 rfl H (fun r1 h1 hq => ?_)
  obtain ⟨x2, rfl, wh1, H⟩ := hq
  show zQ (some (L, xs)) m_L_law (d + 1) 663 [(0, .ref 0), (1, .ref 1), (2, .ref 53), (3, .ref 54), (4, .ref 55), (6, .int i6), (9, .int i9)] (.int x2 :: []) h1 Q
  refine zq_istore (ls' := [(18, .int x2), (0, .ref 0), (1, .ref 1), (2, .ref 53), (3, .ref 54), (4, .ref 55), (6, .int i6), (9, .int i9)]) (i := 18) (Nat.le_of_ble_eq_true rfl) rfl dL_law_663 ?_
  refine zq_aload_n (k := 1) (i := 1) (x := 1) 2 rfl rfl dL_law_665 ?_
  refine zq_iload (i := 9) (x := i9) 7 rfl dL_law_666 ?_
  refine zq_iconst (v := (nI 2)) rfl dL_law_668 ?_
  refine zq_invV (as := [.int i9, .int (nI 2)]) (st := []) (o := 1) (c := 9) (by decide) rfl (sh_1 wh1) in_X10_of se_X10_of mo_X10_of ml_RL_97 rfl (Nat.le_of_ble_eq_true rfl) dL_law_669 rfl H (fun r1 h3 hq => ?_)
  obtain ⟨x4, rfl, wh3, H⟩ := hq
  show zQ (some (L, xs)) m_L_law (d + 1) 672 [(18, .int x2), (0, .ref 0), (1, .ref 1), (2, .ref 53), (3, .ref 54), (4, .ref 55), (6, .int i6), (9, .int i9)] (.int x4 :: []) h3 Q
  refine zq_iconst (v := (nI 1)) rfl dL_law_672 ?_
  refine zq_icmp_ne (tgt := 680) dL_law_673 rfl ⟨fun c5 => ?_, fun c5 => ?_⟩
  · have H := H.1 c5
    refine zq_iconst (v := (nI 0)) rfl dL_law_680 ?_
    refine zq_istore (ls' := [(19, .int (nI 0)), (18, .int x2), (0, .ref 0), (1, .ref 1), (2, .ref 53), (3, .ref 54), (4, .ref 55), (6, .int i6), (9, .int i9)]) (i := 19) (Nat.le_of_ble_eq_true rfl) rfl dL_law_681 ?_
    refine zq_aload_n (k := 1) (i := 1) (x := 1) 3 rfl rfl dL_law_683 ?_
    refine zq_iload (i := 9) (x := i9) 8 rfl dL_law_684 ?_
    refine zq_invV (as := [.int i9]) (st := []) (o := 1) (c := 9) (by decide) rfl (sh_1 wh3) in_X10_near se_X10_near mo_X10_near ml_RL_66 rfl (Nat.le_of_ble_eq_true rfl) dL_law_686 rfl H (fun r1 h6 hq => ?_)
    obtain ⟨x7, rfl, wh6, H⟩ := hq
    show zQ (some (L, xs)) m_L_law (d + 1) 689 [(19, .int (nI 0)), (18, .int x2), (0, .ref 0), (1, .ref 1), (2, .ref 53), (3, .ref 54), (4, .ref 55), (6, .int i6), (9, .int i9)] (.long x7 :: []) h6 Q
    refine zq_invS (as := [.long x7]) (st := []) st_L_bits mo_L_bits ml_RL_9 rfl (Nat.le_of_ble_eq_true rfl) dL_law_689 rfl H (fun r1 h1 hq => ?_)
    obtain ⟨x8, rfl, rfl, H⟩ := hq
    show zQ (some (L, xs)) m_L_law (d + 1) 692 [(19, .int (nI 0)), (18, .int x2), (0, .ref 0), (1, .ref 1), (2, .ref 53), (3, .ref 54), (4, .ref 55), (6, .int i6), (9, .int i9)] (.int x8 :: []) h6 Q
    refine zq_iload (i := 18) (x := x2) 1 rfl dL_law_692 ?_
    refine zq_icmp_ne (tgt := 733) dL_law_694 rfl ⟨fun c9 => ?_, fun c9 => ?_⟩
    · have H := H.1 c9
      refine zq_iconst (v := (nI 0)) rfl dL_law_733 ?_
      exact zq_iret dL_law_734 rfl rfl rfl H
    · have H := H.2 c9
      refine zq_iload (i := 19) (x := (nI 0)) 0 rfl dL_law_697 ?_
      refine zq_if_eq (tgt := 717) dL_law_699 rfl ⟨fun c10 => ?_, fun c10 => ?_⟩
      · have H := H.1 c10
        refine zq_ldc2 (v := (2)) cl_RL_116 dL_law_717 ?_
        refine zq_aload_n (k := 1) (i := 1) (x := 1) 3 rfl rfl dL_law_720 ?_
        refine zq_iconst (v := (nI 0)) rfl dL_law_721 ?_
        refine zq_invV (as := [.int (nI 0)]) (st := .long (2 : Int64) :: []) (o := 1) (c := 9) (by decide) rfl (sh_1 wh6) in_X10_told se_X10_told mo_X10_told ml_RL_62 rfl (Nat.le_of_ble_eq_true rfl) dL_law_722 rfl H (fun r1 h11 hq => ?_)
        obtain ⟨x12, rfl, wh11, H⟩ := hq
        show zQ (some (L, xs)) m_L_law (d + 1) 725 [(19, .int (nI 0)), (18, .int x2), (0, .ref 0), (1, .ref 1), (2, .ref 53), (3, .ref 54), (4, .ref 55), (6, .int i6), (9, .int i9)] (.long x12 :: .long (2 : Int64) :: []) h11 Q
        refine zq_lmul dL_law_725 ?_
        refine zq_iload (i := 18) (x := x2) 1 rfl dL_law_726 ?_
        refine zq_i2l dL_law_728 ?_
        refine zq_lcmp dL_law_729 ?_
        refine zq_if_ge (tgt := 735) dL_law_730 rfl ⟨fun c13 => ?_, fun c13 => ?_⟩
        · have H := H.1 c13
          refine zq_iinc (i := 6) (x := i6) (v := (nI 1)) (ls' := [(6, .int (i6 + (nI 1))), (19, .int (nI 0)), (18, .int x2), (0, .ref 0), (1, .ref 1), (2, .ref 53), (3, .ref 54), (4, .ref 55), (9, .int i9)]) 7 rfl rfl (Nat.le_of_ble_eq_true rfl) rfl dL_law_735 ?_
          refine zq_goto (tgt := 51) dL_law_738 rfl ?_
          exact zq_sub (ls' := [(0, .ref 0), (1, .ref 1), (2, .ref 53), (3, .ref 54), (4, .ref 55), (6, .int (i6 + (nI 1)))]) [3, 4, 5, 6, 7, 0] rfl H
        · have H := H.2 c13
          refine zq_iconst (v := (nI 0)) rfl dL_law_733 ?_
          exact zq_iret dL_law_734 rfl rfl rfl H
      · have H := H.2 c10
        refine zq_iload (i := 18) (x := x2) 1 rfl dL_law_702 ?_
        refine zq_if_ne (tgt := 717) dL_law_704 rfl ⟨fun c14 => ?_, fun c14 => ?_⟩
        · have H := H.1 c14
          refine zq_ldc2 (v := (2)) cl_RL_116 dL_law_717 ?_
          refine zq_aload_n (k := 1) (i := 1) (x := 1) 3 rfl rfl dL_law_720 ?_
          refine zq_iconst (v := (nI 0)) rfl dL_law_721 ?_
          refine zq_invV (as := [.int (nI 0)]) (st := .long (2 : Int64) :: []) (o := 1) (c := 9) (by decide) rfl (sh_1 wh6) in_X10_told se_X10_told mo_X10_told ml_RL_62 rfl (Nat.le_of_ble_eq_true rfl) dL_law_722 rfl H (fun r1 h15 hq => ?_)
          obtain ⟨x16, rfl, wh15, H⟩ := hq
          show zQ (some (L, xs)) m_L_law (d + 1) 725 [(19, .int (nI 0)), (18, .int x2), (0, .ref 0), (1, .ref 1), (2, .ref 53), (3, .ref 54), (4, .ref 55), (6, .int i6), (9, .int i9)] (.long x16 :: .long (2 : Int64) :: []) h15 Q
          refine zq_lmul dL_law_725 ?_
          refine zq_iload (i := 18) (x := x2) 1 rfl dL_law_726 ?_
          refine zq_i2l dL_law_728 ?_
          refine zq_lcmp dL_law_729 ?_
          refine zq_if_ge (tgt := 735) dL_law_730 rfl ⟨fun c17 => ?_, fun c17 => ?_⟩
          · have H := H.1 c17
            refine zq_iinc (i := 6) (x := i6) (v := (nI 1)) (ls' := [(6, .int (i6 + (nI 1))), (19, .int (nI 0)), (18, .int x2), (0, .ref 0), (1, .ref 1), (2, .ref 53), (3, .ref 54), (4, .ref 55), (9, .int i9)]) 7 rfl rfl (Nat.le_of_ble_eq_true rfl) rfl dL_law_735 ?_
            refine zq_goto (tgt := 51) dL_law_738 rfl ?_
            exact zq_sub (ls' := [(0, .ref 0), (1, .ref 1), (2, .ref 53), (3, .ref 54), (4, .ref 55), (6, .int (i6 + (nI 1)))]) [3, 4, 5, 6, 7, 0] rfl H
          · have H := H.2 c17
            refine zq_iconst (v := (nI 0)) rfl dL_law_733 ?_
            exact zq_iret dL_law_734 rfl rfl rfl H
        · have H := H.2 c14
          refine zq_aload_n (k := 1) (i := 1) (x := 1) 3 rfl rfl dL_law_707 ?_
          refine zq_iconst (v := (nI 4)) rfl dL_law_708 ?_
          refine zq_invV (as := [.int (nI 4)]) (st := []) (o := 1) (c := 9) (by decide) rfl (sh_1 wh6) in_X10_told se_X10_told mo_X10_told ml_RL_62 rfl (Nat.le_of_ble_eq_true rfl) dL_law_709 rfl H (fun r1 h18 hq => ?_)
          obtain ⟨x19, rfl, wh18, H⟩ := hq
          show zQ (some (L, xs)) m_L_law (d + 1) 712 [(19, .int (nI 0)), (18, .int x2), (0, .ref 0), (1, .ref 1), (2, .ref 53), (3, .ref 54), (4, .ref 55), (6, .int i6), (9, .int i9)] (.long x19 :: []) h18 Q
          refine zq_lconst (v := 1) rfl dL_law_712 ?_
          refine zq_lcmp dL_law_713 ?_
          refine zq_if_gt (tgt := 733) dL_law_714 rfl ⟨fun c20 => ?_, fun c20 => ?_⟩
          · have H := H.1 c20
            refine zq_iconst (v := (nI 0)) rfl dL_law_733 ?_
            exact zq_iret dL_law_734 rfl rfl rfl H
          · have H := H.2 c20
            refine zq_ldc2 (v := (2)) cl_RL_116 dL_law_717 ?_
            refine zq_aload_n (k := 1) (i := 1) (x := 1) 3 rfl rfl dL_law_720 ?_
            refine zq_iconst (v := (nI 0)) rfl dL_law_721 ?_
            refine zq_invV (as := [.int (nI 0)]) (st := .long (2 : Int64) :: []) (o := 1) (c := 9) (by decide) rfl (sh_1 wh18) in_X10_told se_X10_told mo_X10_told ml_RL_62 rfl (Nat.le_of_ble_eq_true rfl) dL_law_722 rfl H (fun r1 h21 hq => ?_)
            obtain ⟨x22, rfl, wh21, H⟩ := hq
            show zQ (some (L, xs)) m_L_law (d + 1) 725 [(19, .int (nI 0)), (18, .int x2), (0, .ref 0), (1, .ref 1), (2, .ref 53), (3, .ref 54), (4, .ref 55), (6, .int i6), (9, .int i9)] (.long x22 :: .long (2 : Int64) :: []) h21 Q
            refine zq_lmul dL_law_725 ?_
            refine zq_iload (i := 18) (x := x2) 1 rfl dL_law_726 ?_
            refine zq_i2l dL_law_728 ?_
            refine zq_lcmp dL_law_729 ?_
            refine zq_if_ge (tgt := 735) dL_law_730 rfl ⟨fun c23 => ?_, fun c23 => ?_⟩
            · have H := H.1 c23
              refine zq_iinc (i := 6) (x := i6) (v := (nI 1)) (ls' := [(6, .int (i6 + (nI 1))), (19, .int (nI 0)), (18, .int x2), (0, .ref 0), (1, .ref 1), (2, .ref 53), (3, .ref 54), (4, .ref 55), (9, .int i9)]) 7 rfl rfl (Nat.le_of_ble_eq_true rfl) rfl dL_law_735 ?_
              refine zq_goto (tgt := 51) dL_law_738 rfl ?_
              exact zq_sub (ls' := [(0, .ref 0), (1, .ref 1), (2, .ref 53), (3, .ref 54), (4, .ref 55), (6, .int (i6 + (nI 1)))]) [3, 4, 5, 6, 7, 0] rfl H
            · have H := H.2 c23
              refine zq_iconst (v := (nI 0)) rfl dL_law_733 ?_
              exact zq_iret dL_law_734 rfl rfl rfl H
  · have H := H.2 c5
    refine zq_iconst (v := (nI 1)) rfl dL_law_676 ?_
    refine zq_goto (tgt := 681) dL_law_677 rfl ?_
    refine zq_istore (ls' := [(19, .int (nI 1)), (18, .int x2), (0, .ref 0), (1, .ref 1), (2, .ref 53), (3, .ref 54), (4, .ref 55), (6, .int i6), (9, .int i9)]) (i := 19) (Nat.le_of_ble_eq_true rfl) rfl dL_law_681 ?_
    refine zq_aload_n (k := 1) (i := 1) (x := 1) 3 rfl rfl dL_law_683 ?_
    refine zq_iload (i := 9) (x := i9) 8 rfl dL_law_684 ?_
    refine zq_invV (as := [.int i9]) (st := []) (o := 1) (c := 9) (by decide) rfl (sh_1 wh3) in_X10_near se_X10_near mo_X10_near ml_RL_66 rfl (Nat.le_of_ble_eq_true rfl) dL_law_686 rfl H (fun r1 h24 hq => ?_)
    obtain ⟨x25, rfl, wh24, H⟩ := hq
    show zQ (some (L, xs)) m_L_law (d + 1) 689 [(19, .int (nI 1)), (18, .int x2), (0, .ref 0), (1, .ref 1), (2, .ref 53), (3, .ref 54), (4, .ref 55), (6, .int i6), (9, .int i9)] (.long x25 :: []) h24 Q
    refine zq_invS (as := [.long x25]) (st := []) st_L_bits mo_L_bits ml_RL_9 rfl (Nat.le_of_ble_eq_true rfl) dL_law_689 rfl H (fun r1 h1 hq => ?_)
    obtain ⟨x26, rfl, rfl, H⟩ := hq
    show zQ (some (L, xs)) m_L_law (d + 1) 692 [(19, .int (nI 1)), (18, .int x2), (0, .ref 0), (1, .ref 1), (2, .ref 53), (3, .ref 54), (4, .ref 55), (6, .int i6), (9, .int i9)] (.int x26 :: []) h24 Q
    refine zq_iload (i := 18) (x := x2) 1 rfl dL_law_692 ?_
    refine zq_icmp_ne (tgt := 733) dL_law_694 rfl ⟨fun c27 => ?_, fun c27 => ?_⟩
    · have H := H.1 c27
      refine zq_iconst (v := (nI 0)) rfl dL_law_733 ?_
      exact zq_iret dL_law_734 rfl rfl rfl H
    · have H := H.2 c27
      refine zq_iload (i := 19) (x := (nI 1)) 0 rfl dL_law_697 ?_
      refine zq_if_eq (tgt := 717) dL_law_699 rfl ⟨fun c28 => ?_, fun c28 => ?_⟩
      · have H := H.1 c28
        refine zq_ldc2 (v := (2)) cl_RL_116 dL_law_717 ?_
        refine zq_aload_n (k := 1) (i := 1) (x := 1) 3 rfl rfl dL_law_720 ?_
        refine zq_iconst (v := (nI 0)) rfl dL_law_721 ?_
        refine zq_invV (as := [.int (nI 0)]) (st := .long (2 : Int64) :: []) (o := 1) (c := 9) (by decide) rfl (sh_1 wh24) in_X10_told se_X10_told mo_X10_told ml_RL_62 rfl (Nat.le_of_ble_eq_true rfl) dL_law_722 rfl H (fun r1 h29 hq => ?_)
        obtain ⟨x30, rfl, wh29, H⟩ := hq
        show zQ (some (L, xs)) m_L_law (d + 1) 725 [(19, .int (nI 1)), (18, .int x2), (0, .ref 0), (1, .ref 1), (2, .ref 53), (3, .ref 54), (4, .ref 55), (6, .int i6), (9, .int i9)] (.long x30 :: .long (2 : Int64) :: []) h29 Q
        refine zq_lmul dL_law_725 ?_
        refine zq_iload (i := 18) (x := x2) 1 rfl dL_law_726 ?_
        refine zq_i2l dL_law_728 ?_
        refine zq_lcmp dL_law_729 ?_
        refine zq_if_ge (tgt := 735) dL_law_730 rfl ⟨fun c31 => ?_, fun c31 => ?_⟩
        · have H := H.1 c31
          refine zq_iinc (i := 6) (x := i6) (v := (nI 1)) (ls' := [(6, .int (i6 + (nI 1))), (19, .int (nI 1)), (18, .int x2), (0, .ref 0), (1, .ref 1), (2, .ref 53), (3, .ref 54), (4, .ref 55), (9, .int i9)]) 7 rfl rfl (Nat.le_of_ble_eq_true rfl) rfl dL_law_735 ?_
          refine zq_goto (tgt := 51) dL_law_738 rfl ?_
          exact zq_sub (ls' := [(0, .ref 0), (1, .ref 1), (2, .ref 53), (3, .ref 54), (4, .ref 55), (6, .int (i6 + (nI 1)))]) [3, 4, 5, 6, 7, 0] rfl H
        · have H := H.2 c31
          refine zq_iconst (v := (nI 0)) rfl dL_law_733 ?_
          exact zq_iret dL_law_734 rfl rfl rfl H
      · have H := H.2 c28
        refine zq_iload (i := 18) (x := x2) 1 rfl dL_law_702 ?_
        refine zq_if_ne (tgt := 717) dL_law_704 rfl ⟨fun c32 => ?_, fun c32 => ?_⟩
        · have H := H.1 c32
          refine zq_ldc2 (v := (2)) cl_RL_116 dL_law_717 ?_
          refine zq_aload_n (k := 1) (i := 1) (x := 1) 3 rfl rfl dL_law_720 ?_
          refine zq_iconst (v := (nI 0)) rfl dL_law_721 ?_
          refine zq_invV (as := [.int (nI 0)]) (st := .long (2 : Int64) :: []) (o := 1) (c := 9) (by decide) rfl (sh_1 wh24) in_X10_told se_X10_told mo_X10_told ml_RL_62 rfl (Nat.le_of_ble_eq_true rfl) dL_law_722 rfl H (fun r1 h33 hq => ?_)
          obtain ⟨x34, rfl, wh33, H⟩ := hq
          show zQ (some (L, xs)) m_L_law (d + 1) 725 [(19, .int (nI 1)), (18, .int x2), (0, .ref 0), (1, .ref 1), (2, .ref 53), (3, .ref 54), (4, .ref 55), (6, .int i6), (9, .int i9)] (.long x34 :: .long (2 : Int64) :: []) h33 Q
          refine zq_lmul dL_law_725 ?_
          refine zq_iload (i := 18) (x := x2) 1 rfl dL_law_726 ?_
          refine zq_i2l dL_law_728 ?_
          refine zq_lcmp dL_law_729 ?_
          refine zq_if_ge (tgt := 735) dL_law_730 rfl ⟨fun c35 => ?_, fun c35 => ?_⟩
          · have H := H.1 c35
            refine zq_iinc (i := 6) (x := i6) (v := (nI 1)) (ls' := [(6, .int (i6 + (nI 1))), (19, .int (nI 1)), (18, .int x2), (0, .ref 0), (1, .ref 1), (2, .ref 53), (3, .ref 54), (4, .ref 55), (9, .int i9)]) 7 rfl rfl (Nat.le_of_ble_eq_true rfl) rfl dL_law_735 ?_
            refine zq_goto (tgt := 51) dL_law_738 rfl ?_
            exact zq_sub (ls' := [(0, .ref 0), (1, .ref 1), (2, .ref 53), (3, .ref 54), (4, .ref 55), (6, .int (i6 + (nI 1)))]) [3, 4, 5, 6, 7, 0] rfl H
          · have H := H.2 c35
            refine zq_iconst (v := (nI 0)) rfl dL_law_733 ?_
            exact zq_iret dL_law_734 rfl rfl rfl H
        · have H := H.2 c32
          refine zq_aload_n (k := 1) (i := 1) (x := 1) 3 rfl rfl dL_law_707 ?_
          refine zq_iconst (v := (nI 4)) rfl dL_law_708 ?_
          refine zq_invV (as := [.int (nI 4)]) (st := []) (o := 1) (c := 9) (by decide) rfl (sh_1 wh24) in_X10_told se_X10_told mo_X10_told ml_RL_62 rfl (Nat.le_of_ble_eq_true rfl) dL_law_709 rfl H (fun r1 h36 hq => ?_)
          obtain ⟨x37, rfl, wh36, H⟩ := hq
          show zQ (some (L, xs)) m_L_law (d + 1) 712 [(19, .int (nI 1)), (18, .int x2), (0, .ref 0), (1, .ref 1), (2, .ref 53), (3, .ref 54), (4, .ref 55), (6, .int i6), (9, .int i9)] (.long x37 :: []) h36 Q
          refine zq_lconst (v := 1) rfl dL_law_712 ?_
          refine zq_lcmp dL_law_713 ?_
          refine zq_if_gt (tgt := 733) dL_law_714 rfl ⟨fun c38 => ?_, fun c38 => ?_⟩
          · have H := H.1 c38
            refine zq_iconst (v := (nI 0)) rfl dL_law_733 ?_
            exact zq_iret dL_law_734 rfl rfl rfl H
          · have H := H.2 c38
            refine zq_ldc2 (v := (2)) cl_RL_116 dL_law_717 ?_
            refine zq_aload_n (k := 1) (i := 1) (x := 1) 3 rfl rfl dL_law_720 ?_
            refine zq_iconst (v := (nI 0)) rfl dL_law_721 ?_
            refine zq_invV (as := [.int (nI 0)]) (st := .long (2 : Int64) :: []) (o := 1) (c := 9) (by decide) rfl (sh_1 wh36) in_X10_told se_X10_told mo_X10_told ml_RL_62 rfl (Nat.le_of_ble_eq_true rfl) dL_law_722 rfl H (fun r1 h39 hq => ?_)
            obtain ⟨x40, rfl, wh39, H⟩ := hq
            show zQ (some (L, xs)) m_L_law (d + 1) 725 [(19, .int (nI 1)), (18, .int x2), (0, .ref 0), (1, .ref 1), (2, .ref 53), (3, .ref 54), (4, .ref 55), (6, .int i6), (9, .int i9)] (.long x40 :: .long (2 : Int64) :: []) h39 Q
            refine zq_lmul dL_law_725 ?_
            refine zq_iload (i := 18) (x := x2) 1 rfl dL_law_726 ?_
            refine zq_i2l dL_law_728 ?_
            refine zq_lcmp dL_law_729 ?_
            refine zq_if_ge (tgt := 735) dL_law_730 rfl ⟨fun c41 => ?_, fun c41 => ?_⟩
            · have H := H.1 c41
              refine zq_iinc (i := 6) (x := i6) (v := (nI 1)) (ls' := [(6, .int (i6 + (nI 1))), (19, .int (nI 1)), (18, .int x2), (0, .ref 0), (1, .ref 1), (2, .ref 53), (3, .ref 54), (4, .ref 55), (9, .int i9)]) 7 rfl rfl (Nat.le_of_ble_eq_true rfl) rfl dL_law_735 ?_
              refine zq_goto (tgt := 51) dL_law_738 rfl ?_
              exact zq_sub (ls' := [(0, .ref 0), (1, .ref 1), (2, .ref 53), (3, .ref 54), (4, .ref 55), (6, .int (i6 + (nI 1)))]) [3, 4, 5, 6, 7, 0] rfl H
            · have H := H.2 c41
              refine zq_iconst (v := (nI 0)) rfl dL_law_733 ?_
              exact zq_iret dL_law_734 rfl rfl rfl H
set_option maxHeartbeats 2000000 in
set_option maxRecDepth 20000 in
theorem r_L_law_741 {d : Nat} {h : AH} {Q : Option Value → AH → Prop} (L : Nat) (xs : Nat → Int32)  (hw : zWF h)  (H : Q (some (.int (nI 1))) h) : zQ (some (L, xs)) m_L_law (d + 1) 741 [] [] h Q := by
  refine zq_iconst (v := (nI 1)) rfl dL_law_741 ?_
  exact zq_iret dL_law_742 rfl rfl rfl H
