set_option maxHeartbeats 2000000 in
set_option maxRecDepth 20000 in
theorem r_X11_isIn_0 {d : Nat} {h : AH} {Q : Option Value → AH → Prop} (i0 : Int32) (i1 : Int32) (i2 : Int32)  (H : (i0 < i1 → Q (some (.int (nI 0))) h) ∧ (¬ i0 < i1 → (i2 < i0 → Q (some (.int (nI 0))) h) ∧ (¬ i2 < i0 → Q (some (.int (nI 1))) h))) : zK (d + 1) m_X11_isIn [.int i0, .int i1, .int i2] h Q := by
  refine zK_of mo_X11_isIn (Nat.le_of_ble_eq_true rfl) ?_
  show zQ none m_X11_isIn (d + 1) 0 [(0, .int i0), (1, .int i1), (2, .int i2)] [] h Q
  refine zq_iload_n (k := 0) (i := 0) (x := i0) 0 rfl rfl dX11_isIn_0 ?_
  refine zq_iload_n (k := 1) (i := 1) (x := i1) 1 rfl rfl dX11_isIn_1 ?_
  refine zq_icmp_lt (tgt := 14) dX11_isIn_2 rfl ⟨fun c1 => ?_, fun c1 => ?_⟩
  · have H := H.1 c1
    refine zq_iconst (v := (nI 0)) rfl dX11_isIn_14 ?_
    exact zq_iret dX11_isIn_15 rfl rfl rfl H
  · have H := H.2 c1
    refine zq_iload_n (k := 0) (i := 0) (x := i0) 0 rfl rfl dX11_isIn_5 ?_
    refine zq_iload_n (k := 2) (i := 2) (x := i2) 2 rfl rfl dX11_isIn_6 ?_
    refine zq_icmp_gt (tgt := 14) dX11_isIn_7 rfl ⟨fun c2 => ?_, fun c2 => ?_⟩
    · have H := H.1 c2
      refine zq_iconst (v := (nI 0)) rfl dX11_isIn_14 ?_
      exact zq_iret dX11_isIn_15 rfl rfl rfl H
    · have H := H.2 c2
      refine zq_iconst (v := (nI 1)) rfl dX11_isIn_10 ?_
      refine zq_goto (tgt := 15) dX11_isIn_11 rfl ?_
      exact zq_iret dX11_isIn_15 rfl rfl rfl H
set_option maxHeartbeats 2000000 in
set_option maxRecDepth 20000 in
theorem r_X11_isVertex_0 {d : Nat} {h : AH} {Q : Option Value → AH → Prop} (i0 : Int32)  (H : zK d m_X11_isIn [.int i0, .int (nI 0), .int (nI 39)] h (pI h fun x1 => (x1 = 0 ∨ x1 = 1) ∧ Q (some (.int x1)) h)) : zK (d + 1) m_X11_isVertex [.int i0] h Q := by
  refine zK_of mo_X11_isVertex (Nat.le_of_ble_eq_true rfl) ?_
  show zQ none m_X11_isVertex (d + 1) 0 [(0, .int i0)] [] h Q
  refine zq_iload_n (k := 0) (i := 0) (x := i0) 0 rfl rfl dX11_isVertex_0 ?_
  refine zq_iconst (v := (nI 0)) rfl dX11_isVertex_1 ?_
  refine zq_bipush (v := (nI 39)) rfl dX11_isVertex_2 ?_
  refine zq_invS (as := [.int i0, .int (nI 0), .int (nI 39)]) (st := []) st_X11_isIn mo_X11_isIn ml_RX11_64 rfl (Nat.le_of_ble_eq_true rfl) dX11_isVertex_4 rfl H (fun r1 h1 hq => ?_)
  obtain ⟨x1, rfl, rfl, H⟩ := hq
  show zQ none m_X11_isVertex (d + 1) 7 [(0, .int i0)] (.int x1 :: []) h Q
  obtain ⟨z2, H⟩ := H
  exact zq_iret dX11_isVertex_7 rfl rfl (zbool z2) H
set_option maxHeartbeats 2000000 in
set_option maxRecDepth 20000 in
theorem r_X11_areTwo_0 {d : Nat} {h : AH} {Q : Option Value → AH → Prop} (i0 : Int32) (i1 : Int32)  (H : zK d m_X11_isVertex [.int i0] h (pI h fun x1 => (x1 = 0 → Q (some (.int (nI 0))) h) ∧ (¬ x1 = 0 → zK d m_X11_isVertex [.int i1] h (pI h fun x3 => (x3 = 0 → Q (some (.int (nI 0))) h) ∧ (¬ x3 = 0 → (i0 = i1 → Q (some (.int (nI 0))) h) ∧ (¬ i0 = i1 → Q (some (.int (nI 1))) h)))))) : zK (d + 1) m_X11_areTwo [.int i0, .int i1] h Q := by
  refine zK_of mo_X11_areTwo (Nat.le_of_ble_eq_true rfl) ?_
  show zQ none m_X11_areTwo (d + 1) 0 [(0, .int i0), (1, .int i1)] [] h Q
  refine zq_iload_n (k := 0) (i := 0) (x := i0) 0 rfl rfl dX11_areTwo_0 ?_
  refine zq_invS (as := [.int i0]) (st := []) st_X11_isVertex mo_X11_isVertex ml_RX11_68 rfl (Nat.le_of_ble_eq_true rfl) dX11_areTwo_1 rfl H (fun r1 h1 hq => ?_)
  obtain ⟨x1, rfl, rfl, H⟩ := hq
  show zQ none m_X11_areTwo (d + 1) 4 [(0, .int i0), (1, .int i1)] (.int x1 :: []) h Q
  refine zq_if_eq (tgt := 23) dX11_areTwo_4 rfl ⟨fun c2 => ?_, fun c2 => ?_⟩
  · have H := H.1 c2
    refine zq_iconst (v := (nI 0)) rfl dX11_areTwo_23 ?_
    exact zq_iret dX11_areTwo_24 rfl rfl rfl H
  · have H := H.2 c2
    refine zq_iload_n (k := 1) (i := 1) (x := i1) 1 rfl rfl dX11_areTwo_7 ?_
    refine zq_invS (as := [.int i1]) (st := []) st_X11_isVertex mo_X11_isVertex ml_RX11_68 rfl (Nat.le_of_ble_eq_true rfl) dX11_areTwo_8 rfl H (fun r1 h1 hq => ?_)
    obtain ⟨x3, rfl, rfl, H⟩ := hq
    show zQ none m_X11_areTwo (d + 1) 11 [(0, .int i0), (1, .int i1)] (.int x3 :: []) h Q
    refine zq_if_eq (tgt := 23) dX11_areTwo_11 rfl ⟨fun c4 => ?_, fun c4 => ?_⟩
    · have H := H.1 c4
      refine zq_iconst (v := (nI 0)) rfl dX11_areTwo_23 ?_
      exact zq_iret dX11_areTwo_24 rfl rfl rfl H
    · have H := H.2 c4
      refine zq_iload_n (k := 0) (i := 0) (x := i0) 0 rfl rfl dX11_areTwo_14 ?_
      refine zq_iload_n (k := 1) (i := 1) (x := i1) 1 rfl rfl dX11_areTwo_15 ?_
      refine zq_icmp_eq (tgt := 23) dX11_areTwo_16 rfl ⟨fun c5 => ?_, fun c5 => ?_⟩
      · have H := H.1 c5
        refine zq_iconst (v := (nI 0)) rfl dX11_areTwo_23 ?_
        exact zq_iret dX11_areTwo_24 rfl rfl rfl H
      · have H := H.2 c5
        refine zq_iconst (v := (nI 1)) rfl dX11_areTwo_19 ?_
        refine zq_goto (tgt := 24) dX11_areTwo_20 rfl ?_
        exact zq_iret dX11_areTwo_24 rfl rfl rfl H
set_option maxHeartbeats 2000000 in
set_option maxRecDepth 20000 in
theorem r_X11_has_0 {d : Nat} {h : AH} {Q : Option Value → AH → Prop} (l0 : Int64) (i2 : Int32)  (H : ((lg_cmp ((l0 >>> (i2.toInt64 &&& 63)) &&& (1 : Int64)) (1 : Int64)) ≠ 0 → Q (some (.int (nI 0))) h) ∧ ((lg_cmp ((l0 >>> (i2.toInt64 &&& 63)) &&& (1 : Int64)) (1 : Int64)) = 0 → Q (some (.int (nI 1))) h)) : zK (d + 1) m_X11_has [.long l0, .int i2] h Q := by
  refine zK_of mo_X11_has (Nat.le_of_ble_eq_true rfl) ?_
  show zQ none m_X11_has (d + 1) 0 [(0, .long l0), (2, .int i2)] [] h Q
  refine zq_lload_n (k := 0) (i := 0) (x := l0) 0 rfl rfl dX11_has_0 ?_
  refine zq_iload_n (k := 2) (i := 2) (x := i2) 1 rfl rfl dX11_has_1 ?_
  refine zq_lshr dX11_has_2 ?_
  refine zq_lconst (v := 1) rfl dX11_has_3 ?_
  refine zq_land dX11_has_4 ?_
  refine zq_lconst (v := 1) rfl dX11_has_5 ?_
  refine zq_lcmp dX11_has_6 ?_
  refine zq_if_ne (tgt := 14) dX11_has_7 rfl ⟨fun c1 => ?_, fun c1 => ?_⟩
  · have H := H.1 c1
    refine zq_iconst (v := (nI 0)) rfl dX11_has_14 ?_
    exact zq_iret dX11_has_15 rfl rfl rfl H
  · have H := H.2 c1
    refine zq_iconst (v := (nI 1)) rfl dX11_has_10 ?_
    refine zq_goto (tgt := 15) dX11_has_11 rfl ?_
    exact zq_iret dX11_has_15 rfl rfl rfl H
set_option maxHeartbeats 2000000 in
set_option maxRecDepth 20000 in
theorem r_X11_bits_0 {d : Nat} {h : AH} {Q : Option Value → AH → Prop} (l0 : Int64)  (H : zQ none m_X11_bits (d + 1) 4 [(2, .int (nI 0)), (3, .long l0)] [] h Q) : zK (d + 1) m_X11_bits [.long l0] h Q := by
  refine zK_of mo_X11_bits (Nat.le_of_ble_eq_true rfl) ?_
  show zQ none m_X11_bits (d + 1) 0 [(0, .long l0)] [] h Q
  refine zq_iconst (v := (nI 0)) rfl dX11_bits_0 ?_
  refine zq_istore_n (ls' := [(2, .int (nI 0)), (0, .long l0)]) (k := 2) (i := 2) rfl (Nat.le_of_ble_eq_true rfl) rfl dX11_bits_1 ?_
  refine zq_lload_n (k := 0) (i := 0) (x := l0) 1 rfl rfl dX11_bits_2 ?_
  refine zq_lstore_n (ls' := [(3, .long l0), (2, .int (nI 0)), (0, .long l0)]) (k := 3) (i := 3) rfl (Nat.le_of_ble_eq_true rfl) rfl dX11_bits_3 ?_
  exact zq_sub (ls' := [(2, .int (nI 0)), (3, .long l0)]) [1, 0] rfl H
set_option maxHeartbeats 2000000 in
set_option maxRecDepth 20000 in
theorem r_X11_bits_4 {d : Nat} {h : AH} {Q : Option Value → AH → Prop} (i2 : Int32) (l3 : Int64)  (H : ((lg_cmp l3 (0 : Int64)) = 0 → Q (some (.int i2)) h) ∧ (¬ (lg_cmp l3 (0 : Int64)) = 0 → zQ none m_X11_bits (d + 1) 4 [(2, .int (i2 + (nI 1))), (3, .long (l3 &&& (l3 - (1 : Int64))))] [] h Q)) : zQ none m_X11_bits (d + 1) 4 [(2, .int i2), (3, .long l3)] [] h Q := by
  refine zq_lload_n (k := 3) (i := 3) (x := l3) 1 rfl rfl dX11_bits_4 ?_
  refine zq_lconst (v := 0) rfl dX11_bits_5 ?_
  refine zq_lcmp dX11_bits_6 ?_
  refine zq_if_eq (tgt := 22) dX11_bits_7 rfl ⟨fun c1 => ?_, fun c1 => ?_⟩
  · have H := H.1 c1
    refine zq_iload_n (k := 2) (i := 2) (x := i2) 0 rfl rfl dX11_bits_22 ?_
    exact zq_iret dX11_bits_23 rfl rfl rfl H
  · have H := H.2 c1
    refine zq_iinc (i := 2) (x := i2) (v := (nI 1)) (ls' := [(2, .int (i2 + (nI 1))), (3, .long l3)]) 0 rfl rfl (Nat.le_of_ble_eq_true rfl) rfl dX11_bits_10 ?_
    refine zq_lload_n (k := 3) (i := 3) (x := l3) 1 rfl rfl dX11_bits_13 ?_
    refine zq_lload_n (k := 3) (i := 3) (x := l3) 1 rfl rfl dX11_bits_14 ?_
    refine zq_lconst (v := 1) rfl dX11_bits_15 ?_
    refine zq_lsub dX11_bits_16 ?_
    refine zq_land dX11_bits_17 ?_
    refine zq_lstore_n (ls' := [(3, .long (l3 &&& (l3 - (1 : Int64)))), (2, .int (i2 + (nI 1)))]) (k := 3) (i := 3) rfl (Nat.le_of_ble_eq_true rfl) rfl dX11_bits_18 ?_
    refine zq_goto (tgt := 4) dX11_bits_19 rfl ?_
    exact zq_sub (ls' := [(2, .int (i2 + (nI 1))), (3, .long (l3 &&& (l3 - (1 : Int64))))]) [1, 0] rfl H
set_option maxHeartbeats 2000000 in
set_option maxRecDepth 20000 in
theorem r_X11_edge_0 {d : Nat} {h : AH} {Q : Option Value → AH → Prop} (i0 : Int32) (i1 : Int32)  (H : (i1 ≤ i0 → Q (some (.int (((nI 40) * i1) + i0))) h) ∧ (¬ i1 ≤ i0 → Q (some (.int (((nI 40) * i0) + i1))) h)) : zK (d + 1) m_X11_edge [.int i0, .int i1] h Q := by
  refine zK_of mo_X11_edge (Nat.le_of_ble_eq_true rfl) ?_
  show zQ none m_X11_edge (d + 1) 0 [(0, .int i0), (1, .int i1)] [] h Q
  refine zq_iload_n (k := 0) (i := 0) (x := i0) 0 rfl rfl dX11_edge_0 ?_
  refine zq_iload_n (k := 1) (i := 1) (x := i1) 1 rfl rfl dX11_edge_1 ?_
  refine zq_icmp_ge (tgt := 14) dX11_edge_2 rfl ⟨fun c1 => ?_, fun c1 => ?_⟩
  · have H := H.1 c1
    refine zq_bipush (v := (nI 40)) rfl dX11_edge_14 ?_
    refine zq_iload_n (k := 1) (i := 1) (x := i1) 1 rfl rfl dX11_edge_16 ?_
    refine zq_imul dX11_edge_17 ?_
    refine zq_iload_n (k := 0) (i := 0) (x := i0) 0 rfl rfl dX11_edge_18 ?_
    refine zq_iadd dX11_edge_19 ?_
    exact zq_iret dX11_edge_20 rfl rfl rfl H
  · have H := H.2 c1
    refine zq_bipush (v := (nI 40)) rfl dX11_edge_5 ?_
    refine zq_iload_n (k := 0) (i := 0) (x := i0) 0 rfl rfl dX11_edge_7 ?_
    refine zq_imul dX11_edge_8 ?_
    refine zq_iload_n (k := 1) (i := 1) (x := i1) 1 rfl rfl dX11_edge_9 ?_
    refine zq_iadd dX11_edge_10 ?_
    refine zq_goto (tgt := 20) dX11_edge_11 rfl ?_
    exact zq_iret dX11_edge_20 rfl rfl rfl H
set_option maxHeartbeats 2000000 in
set_option maxRecDepth 20000 in
theorem r_X11_isEdge_0 {d : Nat} {h : AH} {Q : Option Value → AH → Prop} (i1 : Int32) (i2 : Int32) (hw : zWF h)  (H : vp_in i1 40 ∧ (zK d m_X11_has [.long (h.L 58 i1.toNatClampNeg), .int i2] h (pI h fun x2 => (x2 = 0 ∨ x2 = 1) ∧ Q (some (.int x2)) h))) : zK (d + 1) m_X11_isEdge [.ref 53, .int i1, .int i2] h Q := by
  refine zK_of mo_X11_isEdge (Nat.le_of_ble_eq_true rfl) ?_
  show zQ none m_X11_isEdge (d + 1) 0 [(0, .ref 53), (1, .int i1), (2, .int i2)] [] h Q
  refine zq_aload_n (k := 0) (i := 0) (x := 53) 0 rfl rfl dX11_isEdge_0 ?_
  refine zq_getP fl_RX11_24 rfl (sh_53 hw) (rf_53_4 hw) dX11_isEdge_1 ?_
  refine zq_iload_n (k := 1) (i := 1) (x := i1) 1 rfl rfl dX11_isEdge_4 ?_
  obtain ⟨b1, H⟩ := H
  refine zq_lald (sh_58 hw) b1 dX11_isEdge_5 ?_
  refine zq_iload_n (k := 2) (i := 2) (x := i2) 2 rfl rfl dX11_isEdge_6 ?_
  refine zq_invS (as := [.long (h.L 58 i1.toNatClampNeg), .int i2]) (st := []) st_X11_has mo_X11_has ml_RX11_72 rfl (Nat.le_of_ble_eq_true rfl) dX11_isEdge_7 rfl H (fun r1 h1 hq => ?_)
  obtain ⟨x2, rfl, rfl, H⟩ := hq
  show zQ none m_X11_isEdge (d + 1) 10 [(0, .ref 53), (1, .int i1), (2, .int i2)] (.int x2 :: []) h Q
  obtain ⟨z3, H⟩ := H
  exact zq_iret dX11_isEdge_10 rfl rfl (zbool z3) H
set_option maxHeartbeats 2000000 in
set_option maxRecDepth 20000 in
theorem r_X11_degree_0 {d : Nat} {h : AH} {Q : Option Value → AH → Prop} (i1 : Int32) (hw : zWF h)  (H : vp_in i1 40 ∧ (zK d m_X11_bits [.long (h.L 58 i1.toNatClampNeg)] h (pI h fun x2 => Q (some (.int x2)) h))) : zK (d + 1) m_X11_degree [.ref 53, .int i1] h Q := by
  refine zK_of mo_X11_degree (Nat.le_of_ble_eq_true rfl) ?_
  show zQ none m_X11_degree (d + 1) 0 [(0, .ref 53), (1, .int i1)] [] h Q
  refine zq_aload_n (k := 0) (i := 0) (x := 53) 0 rfl rfl dX11_degree_0 ?_
  refine zq_getP fl_RX11_24 rfl (sh_53 hw) (rf_53_4 hw) dX11_degree_1 ?_
  refine zq_iload_n (k := 1) (i := 1) (x := i1) 1 rfl rfl dX11_degree_4 ?_
  obtain ⟨b1, H⟩ := H
  refine zq_lald (sh_58 hw) b1 dX11_degree_5 ?_
  refine zq_invS (as := [.long (h.L 58 i1.toNatClampNeg)]) (st := []) st_X11_bits mo_X11_bits ml_RX11_76 rfl (Nat.le_of_ble_eq_true rfl) dX11_degree_6 rfl H (fun r1 h1 hq => ?_)
  obtain ⟨x2, rfl, rfl, H⟩ := hq
  show zQ none m_X11_degree (d + 1) 9 [(0, .ref 53), (1, .int i1)] (.int x2 :: []) h Q
  exact zq_iret dX11_degree_9 rfl rfl rfl H
set_option maxHeartbeats 2000000 in
set_option maxRecDepth 20000 in
theorem r_X11_shared_0 {d : Nat} {h : AH} {Q : Option Value → AH → Prop} (i1 : Int32) (i2 : Int32) (hw : zWF h)  (H : vp_in i1 40 ∧ (vp_in i2 40 ∧ (zK d m_X11_bits [.long ((h.L 58 i1.toNatClampNeg) &&& (h.L 58 i2.toNatClampNeg))] h (pI h fun x3 => Q (some (.int x3)) h)))) : zK (d + 1) m_X11_shared [.ref 53, .int i1, .int i2] h Q := by
  refine zK_of mo_X11_shared (Nat.le_of_ble_eq_true rfl) ?_
  show zQ none m_X11_shared (d + 1) 0 [(0, .ref 53), (1, .int i1), (2, .int i2)] [] h Q
  refine zq_aload_n (k := 0) (i := 0) (x := 53) 0 rfl rfl dX11_shared_0 ?_
  refine zq_getP fl_RX11_24 rfl (sh_53 hw) (rf_53_4 hw) dX11_shared_1 ?_
  refine zq_iload_n (k := 1) (i := 1) (x := i1) 1 rfl rfl dX11_shared_4 ?_
  obtain ⟨b1, H⟩ := H
  refine zq_lald (sh_58 hw) b1 dX11_shared_5 ?_
  refine zq_aload_n (k := 0) (i := 0) (x := 53) 0 rfl rfl dX11_shared_6 ?_
  refine zq_getP fl_RX11_24 rfl (sh_53 hw) (rf_53_4 hw) dX11_shared_7 ?_
  refine zq_iload_n (k := 2) (i := 2) (x := i2) 2 rfl rfl dX11_shared_10 ?_
  obtain ⟨b2, H⟩ := H
  refine zq_lald (sh_58 hw) b2 dX11_shared_11 ?_
  refine zq_land dX11_shared_12 ?_
  refine zq_invS (as := [.long ((h.L 58 i1.toNatClampNeg) &&& (h.L 58 i2.toNatClampNeg))]) (st := []) st_X11_bits mo_X11_bits ml_RX11_76 rfl (Nat.le_of_ble_eq_true rfl) dX11_shared_13 rfl H (fun r1 h1 hq => ?_)
  obtain ⟨x3, rfl, rfl, H⟩ := hq
  show zQ none m_X11_shared (d + 1) 16 [(0, .ref 53), (1, .int i1), (2, .int i2)] (.int x3 :: []) h Q
  exact zq_iret dX11_shared_16 rfl rfl rfl H
set_option maxHeartbeats 2000000 in
set_option maxRecDepth 20000 in
theorem r_X11_twos_0 {d : Nat} {h : AH} {Q : Option Value → AH → Prop} (i0 : Int32)  (H : Q (some (.int ((i0 * (i0 - (nI 1))) / (nI 2)))) h) : zK (d + 1) m_X11_twos [.int i0] h Q := by
  refine zK_of mo_X11_twos (Nat.le_of_ble_eq_true rfl) ?_
  show zQ none m_X11_twos (d + 1) 0 [(0, .int i0)] [] h Q
  refine zq_iload_n (k := 0) (i := 0) (x := i0) 0 rfl rfl dX11_twos_0 ?_
  refine zq_iload_n (k := 0) (i := 0) (x := i0) 0 rfl rfl dX11_twos_1 ?_
  refine zq_iconst (v := (nI 1)) rfl dX11_twos_2 ?_
  refine zq_isub dX11_twos_3 ?_
  refine zq_imul dX11_twos_4 ?_
  refine zq_iconst (v := (nI 2)) rfl dX11_twos_5 ?_
  refine zq_idiv (by decide) dX11_twos_6 ?_
  exact zq_iret dX11_twos_7 rfl rfl rfl H
set_option maxHeartbeats 2000000 in
set_option maxRecDepth 20000 in
theorem r_X11_bound_0 {d : Nat} {h : AH} {Q : Option Value → AH → Prop}  (hw : zWF h)  (H : zQ none m_X11_bound (d + 1) 2 [(0, .ref 53), (1, .int (nI 1))] [] h Q) : zK (d + 1) m_X11_bound [.ref 53] h Q := by
  refine zK_of mo_X11_bound (Nat.le_of_ble_eq_true rfl) ?_
  show zQ none m_X11_bound (d + 1) 0 [(0, .ref 53)] [] h Q
  refine zq_iconst (v := (nI 1)) rfl dX11_bound_0 ?_
  refine zq_istore_n (ls' := [(1, .int (nI 1)), (0, .ref 53)]) (k := 1) (i := 1) rfl (Nat.le_of_ble_eq_true rfl) rfl dX11_bound_1 ?_
  exact zq_sub (ls' := [(0, .ref 53), (1, .int (nI 1))]) [1, 0] rfl H
set_option maxHeartbeats 2000000 in
set_option maxRecDepth 20000 in
theorem r_X11_bound_2 {d : Nat} {h : AH} {Q : Option Value → AH → Prop} (i1 : Int32) (hw : zWF h)  (H : vp_in (nI 0) 187 ∧ (((h.I 54 (nI 0).toNatClampNeg) ≤ (i1 * i1) → Q (some (.int i1)) h) ∧ (¬ (h.I 54 (nI 0).toNatClampNeg) ≤ (i1 * i1) → zQ none m_X11_bound (d + 1) 2 [(0, .ref 53), (1, .int (i1 + (nI 1)))] [] h Q))) : zQ none m_X11_bound (d + 1) 2 [(0, .ref 53), (1, .int i1)] [] h Q := by
  refine zq_iload_n (k := 1) (i := 1) (x := i1) 1 rfl rfl dX11_bound_2 ?_
  refine zq_iload_n (k := 1) (i := 1) (x := i1) 1 rfl rfl dX11_bound_3 ?_
  refine zq_imul dX11_bound_4 ?_
  refine zq_aload_n (k := 0) (i := 0) (x := 53) 0 rfl rfl dX11_bound_5 ?_
  refine zq_getP fl_RX11_11 rfl (sh_53 hw) (rf_53_0 hw) dX11_bound_6 ?_
  refine zq_iconst (v := (nI 0)) rfl dX11_bound_9 ?_
  obtain ⟨b1, H⟩ := H
  refine zq_iald (sh_54 hw) b1 dX11_bound_10 ?_
  refine zq_icmp_ge (tgt := 20) dX11_bound_11 rfl ⟨fun c2 => ?_, fun c2 => ?_⟩
  · have H := H.1 c2
    refine zq_iload_n (k := 1) (i := 1) (x := i1) 1 rfl rfl dX11_bound_20 ?_
    exact zq_iret dX11_bound_21 rfl rfl rfl H
  · have H := H.2 c2
    refine zq_iinc (i := 1) (x := i1) (v := (nI 1)) (ls' := [(1, .int (i1 + (nI 1))), (0, .ref 53)]) 1 rfl rfl (Nat.le_of_ble_eq_true rfl) rfl dX11_bound_14 ?_
    refine zq_goto (tgt := 2) dX11_bound_17 rfl ?_
    exact zq_sub (ls' := [(0, .ref 53), (1, .int (i1 + (nI 1)))]) [1, 0] rfl H
set_option maxHeartbeats 2000000 in
set_option maxRecDepth 20000 in
theorem r_X11_rebases_0 {d : Nat} {h : AH} {Q : Option Value → AH → Prop}  (hw : zWF h)  (H : ∀ h1, h1 = h.sL 53 6 (0 : Int64) → zQ none m_X11_rebases (d + 1) 7 [(0, .ref 53), (1, .int (nI 0))] [] h1 Q) : zK (d + 1) m_X11_rebases [.ref 53] h Q := by
  refine zK_of mo_X11_rebases (Nat.le_of_ble_eq_true rfl) ?_
  show zQ none m_X11_rebases (d + 1) 0 [(0, .ref 53)] [] h Q
  refine zq_aload_n (k := 0) (i := 0) (x := 53) 0 rfl rfl dX11_rebases_0 ?_
  refine zq_lconst (v := 0) rfl dX11_rebases_1 ?_
  refine zq_putL fl_RX11_80 rfl (Or.inl rfl) (sh_53 hw) dX11_rebases_2 (fun h1 eh1 => ?_)
  have H := H h1 eh1
  have wh1 := wf_L eh1 hw
  refine zq_iconst (v := (nI 0)) rfl dX11_rebases_5 ?_
  refine zq_istore_n (ls' := [(1, .int (nI 0)), (0, .ref 53)]) (k := 1) (i := 1) rfl (Nat.le_of_ble_eq_true rfl) rfl dX11_rebases_6 ?_
  exact zq_sub (ls' := [(0, .ref 53), (1, .int (nI 0))]) [1, 0] rfl H
set_option maxHeartbeats 2000000 in
set_option maxRecDepth 20000 in
theorem r_X11_rebases_7 {d : Nat} {h : AH} {Q : Option Value → AH → Prop} (i1 : Int32) (hw : zWF h)  (H : ((nI 40) ≤ i1 → vp_in (nI 3) 187 ∧ (vp_in (nI 3) 187 ∧ (∀ h4, h4 = h.sI 54 (nI 3).toNatClampNeg ((h.I 54 (nI 3).toNatClampNeg) + (nI 1)) → Q none h4))) ∧ (¬ (nI 40) ≤ i1 → zK d m_X11_degree [.ref 53, .int i1] h (pI h fun x5 => zK d m_X11_bound [.ref 53] h (pI h fun x6 => (x5 < x6 → ∀ h8, h8 = h.sL 53 6 ((h.L 53 6) ||| (0 : Int64)) → zQ none m_X11_rebases (d + 1) 7 [(0, .ref 53), (1, .int (i1 + (nI 1)))] [] h8 Q) ∧ (¬ x5 < x6 → ∀ h9, h9 = h.sL 53 6 ((h.L 53 6) ||| ((1 : Int64) <<< (i1.toInt64 &&& 63))) → zQ none m_X11_rebases (d + 1) 7 [(0, .ref 53), (1, .int (i1 + (nI 1)))] [] h9 Q))))) : zQ none m_X11_rebases (d + 1) 7 [(0, .ref 53), (1, .int i1)] [] h Q := by
  refine zq_iload_n (k := 1) (i := 1) (x := i1) 1 rfl rfl dX11_rebases_7 ?_
  refine zq_bipush (v := (nI 40)) rfl dX11_rebases_8 ?_
  refine zq_icmp_ge (tgt := 47) dX11_rebases_10 rfl ⟨fun c1 => ?_, fun c1 => ?_⟩
  · have H := H.1 c1
    refine zq_aload_n (k := 0) (i := 0) (x := 53) 0 rfl rfl dX11_rebases_47 ?_
    refine zq_getP fl_RX11_11 rfl (sh_53 hw) (rf_53_0 hw) dX11_rebases_48 ?_
    refine zq_iconst (v := (nI 3)) rfl dX11_rebases_51 ?_
    refine zq_dup2 rfl rfl dX11_rebases_52 ?_
    obtain ⟨b2, H⟩ := H
    refine zq_iald (sh_54 hw) b2 dX11_rebases_53 ?_
    refine zq_iconst (v := (nI 1)) rfl dX11_rebases_54 ?_
    refine zq_iadd dX11_rebases_55 ?_
    obtain ⟨b3, H⟩ := H
    refine zq_iast (sh_54 hw) b3 dX11_rebases_56 (fun h4 eh4 => ?_)
    have H := H h4 eh4
    have wh4 := wf_I eh4 hw
    exact zq_vret dX11_rebases_57 rfl H
  · have H := H.2 c1
    refine zq_aload_n (k := 0) (i := 0) (x := 53) 0 rfl rfl dX11_rebases_13 ?_
    refine zq_dup rfl dX11_rebases_14 ?_
    refine zq_getL fl_RX11_80 rfl (sh_53 hw) dX11_rebases_15 ?_
    refine zq_aload_n (k := 0) (i := 0) (x := 53) 0 rfl rfl dX11_rebases_18 ?_
    refine zq_iload_n (k := 1) (i := 1) (x := i1) 1 rfl rfl dX11_rebases_19 ?_
    refine zq_invV (as := [.int i1]) (st := .long (h.L 53 6) :: .ref 53 :: []) (o := 53) (c := 10) (by decide) rfl (sh_53 hw) in_X11_degree se_X11_degree mo_X11_degree ml_RX11_84 rfl (Nat.le_of_ble_eq_true rfl) dX11_rebases_20 rfl H (fun r1 h1 hq => ?_)
    obtain ⟨x5, rfl, rfl, H⟩ := hq
    show zQ none m_X11_rebases (d + 1) 23 [(0, .ref 53), (1, .int i1)] (.int x5 :: .long (h.L 53 6) :: .ref 53 :: []) h Q
    refine zq_aload_n (k := 0) (i := 0) (x := 53) 0 rfl rfl dX11_rebases_23 ?_
    refine zq_invV (as := []) (st := .int x5 :: .long (h.L 53 6) :: .ref 53 :: []) (o := 53) (c := 10) (by decide) rfl (sh_53 hw) in_X11_bound se_X11_bound mo_X11_bound ml_RX11_88 rfl (Nat.le_of_ble_eq_true rfl) dX11_rebases_24 rfl H (fun r1 h1 hq => ?_)
    obtain ⟨x6, rfl, rfl, H⟩ := hq
    show zQ none m_X11_rebases (d + 1) 27 [(0, .ref 53), (1, .int i1)] (.int x6 :: .int x5 :: .long (h.L 53 6) :: .ref 53 :: []) h Q
    refine zq_icmp_lt (tgt := 36) dX11_rebases_27 rfl ⟨fun c7 => ?_, fun c7 => ?_⟩
    · have H := H.1 c7
      refine zq_lconst (v := 0) rfl dX11_rebases_36 ?_
      refine zq_lor dX11_rebases_37 ?_
      refine zq_putL fl_RX11_80 rfl (Or.inl rfl) (sh_53 hw) dX11_rebases_38 (fun h8 eh8 => ?_)
      have H := H h8 eh8
      have wh8 := wf_L eh8 hw
      refine zq_iinc (i := 1) (x := i1) (v := (nI 1)) (ls' := [(1, .int (i1 + (nI 1))), (0, .ref 53)]) 1 rfl rfl (Nat.le_of_ble_eq_true rfl) rfl dX11_rebases_41 ?_
      refine zq_goto (tgt := 7) dX11_rebases_44 rfl ?_
      exact zq_sub (ls' := [(0, .ref 53), (1, .int (i1 + (nI 1)))]) [1, 0] rfl H
    · have H := H.2 c7
      refine zq_lconst (v := 1) rfl dX11_rebases_30 ?_
      refine zq_iload_n (k := 1) (i := 1) (x := i1) 1 rfl rfl dX11_rebases_31 ?_
      refine zq_lshl dX11_rebases_32 ?_
      refine zq_goto (tgt := 37) dX11_rebases_33 rfl ?_
      refine zq_lor dX11_rebases_37 ?_
      refine zq_putL fl_RX11_80 rfl (Or.inl rfl) (sh_53 hw) dX11_rebases_38 (fun h9 eh9 => ?_)
      have H := H h9 eh9
      have wh9 := wf_L eh9 hw
      refine zq_iinc (i := 1) (x := i1) (v := (nI 1)) (ls' := [(1, .int (i1 + (nI 1))), (0, .ref 53)]) 1 rfl rfl (Nat.le_of_ble_eq_true rfl) rfl dX11_rebases_41 ?_
      refine zq_goto (tgt := 7) dX11_rebases_44 rfl ?_
      exact zq_sub (ls' := [(0, .ref 53), (1, .int (i1 + (nI 1)))]) [1, 0] rfl H
set_option maxHeartbeats 2000000 in
set_option maxRecDepth 20000 in
theorem r_X11_looksAt_0 {d : Nat} {h : AH} {Q : Option Value → AH → Prop} (i1 : Int32) (hw : zWF h)  (H : zK d m_X11_degree [.ref 53, .int i1] h (pI h fun x1 => zK d m_X11_has [.long (h.L 53 6), .int i1] h (pI h fun x2 => (x2 = 0 → zK d m_X11_bound [.ref 53] h (pI h fun x4 => (((nI 2) * x1) < ((nI 3) * x4) → ((nI 0) ≠ 0 → ∀ h7, h7 = h.sL 53 6 ((h.L 53 6) ^^^ ((1 : Int64) <<< (i1.toInt64 &&& 63))) → vp_in (nI 1) 187 ∧ (vp_in (nI 1) 187 ∧ (∀ h10, h10 = h7.sI 54 (nI 1).toNatClampNeg ((h7.I 54 (nI 1).toNatClampNeg) + (nI 1)) → vp_in (nI 2) 187 ∧ (zK d m_X11_degree [.ref 53, .int i1] h10 (pI h10 fun x12 => vp_in (nI 2) 187 ∧ (∀ h14, h14 = h10.sI 54 (nI 2).toNatClampNeg ((h10.I 54 (nI 2).toNatClampNeg) + x12) → Q none h14)))))) ∧ ((nI 0) = 0 → Q none h)) ∧ (¬ ((nI 2) * x1) < ((nI 3) * x4) → ((nI 1) ≠ 0 → ∀ h16, h16 = h.sL 53 6 ((h.L 53 6) ^^^ ((1 : Int64) <<< (i1.toInt64 &&& 63))) → vp_in (nI 1) 187 ∧ (vp_in (nI 1) 187 ∧ (∀ h19, h19 = h16.sI 54 (nI 1).toNatClampNeg ((h16.I 54 (nI 1).toNatClampNeg) + (nI 1)) → vp_in (nI 2) 187 ∧ (zK d m_X11_degree [.ref 53, .int i1] h19 (pI h19 fun x21 => vp_in (nI 2) 187 ∧ (∀ h23, h23 = h19.sI 54 (nI 2).toNatClampNeg ((h19.I 54 (nI 2).toNatClampNeg) + x21) → Q none h23)))))) ∧ ((nI 1) = 0 → Q none h)))) ∧ (¬ x2 = 0 → zK d m_X11_bound [.ref 53] h (pI h fun x24 => (x24 ≤ ((nI 2) * x1) → ((nI 0) ≠ 0 → ∀ h27, h27 = h.sL 53 6 ((h.L 53 6) ^^^ ((1 : Int64) <<< (i1.toInt64 &&& 63))) → vp_in (nI 1) 187 ∧ (vp_in (nI 1) 187 ∧ (∀ h30, h30 = h27.sI 54 (nI 1).toNatClampNeg ((h27.I 54 (nI 1).toNatClampNeg) + (nI 1)) → vp_in (nI 2) 187 ∧ (zK d m_X11_degree [.ref 53, .int i1] h30 (pI h30 fun x32 => vp_in (nI 2) 187 ∧ (∀ h34, h34 = h30.sI 54 (nI 2).toNatClampNeg ((h30.I 54 (nI 2).toNatClampNeg) + x32) → Q none h34)))))) ∧ ((nI 0) = 0 → Q none h)) ∧ (¬ x24 ≤ ((nI 2) * x1) → ((nI 1) ≠ 0 → ∀ h36, h36 = h.sL 53 6 ((h.L 53 6) ^^^ ((1 : Int64) <<< (i1.toInt64 &&& 63))) → vp_in (nI 1) 187 ∧ (vp_in (nI 1) 187 ∧ (∀ h39, h39 = h36.sI 54 (nI 1).toNatClampNeg ((h36.I 54 (nI 1).toNatClampNeg) + (nI 1)) → vp_in (nI 2) 187 ∧ (zK d m_X11_degree [.ref 53, .int i1] h39 (pI h39 fun x41 => vp_in (nI 2) 187 ∧ (∀ h43, h43 = h39.sI 54 (nI 2).toNatClampNeg ((h39.I 54 (nI 2).toNatClampNeg) + x41) → Q none h43)))))) ∧ ((nI 1) = 0 → Q none h))))))) : zK (d + 1) m_X11_looksAt [.ref 53, .int i1] h Q := by
  refine zK_of mo_X11_looksAt (Nat.le_of_ble_eq_true rfl) ?_
  show zQ none m_X11_looksAt (d + 1) 0 [(0, .ref 53), (1, .int i1)] [] h Q
  refine zq_iconst (v := (nI 2)) rfl dX11_looksAt_0 ?_
  refine zq_aload_n (k := 0) (i := 0) (x := 53) 0 rfl rfl dX11_looksAt_1 ?_
  refine zq_iload_n (k := 1) (i := 1) (x := i1) 1 rfl rfl dX11_looksAt_2 ?_
  refine zq_invV (as := [.int i1]) (st := .int (nI 2) :: []) (o := 53) (c := 10) (by decide) rfl (sh_53 hw) in_X11_degree se_X11_degree mo_X11_degree ml_RX11_84 rfl (Nat.le_of_ble_eq_true rfl) dX11_looksAt_3 rfl H (fun r1 h1 hq => ?_)
  obtain ⟨x1, rfl, rfl, H⟩ := hq
  show zQ none m_X11_looksAt (d + 1) 6 [(0, .ref 53), (1, .int i1)] (.int x1 :: .int (nI 2) :: []) h Q
  refine zq_imul dX11_looksAt_6 ?_
  refine zq_istore_n (ls' := [(2, .int ((nI 2) * x1)), (0, .ref 53), (1, .int i1)]) (k := 2) (i := 2) rfl (Nat.le_of_ble_eq_true rfl) rfl dX11_looksAt_7 ?_
  refine zq_aload_n (k := 0) (i := 0) (x := 53) 1 rfl rfl dX11_looksAt_8 ?_
  refine zq_getL fl_RX11_80 rfl (sh_53 hw) dX11_looksAt_9 ?_
  refine zq_iload_n (k := 1) (i := 1) (x := i1) 2 rfl rfl dX11_looksAt_12 ?_
  refine zq_invS (as := [.long (h.L 53 6), .int i1]) (st := []) st_X11_has mo_X11_has ml_RX11_72 rfl (Nat.le_of_ble_eq_true rfl) dX11_looksAt_13 rfl H (fun r1 h1 hq => ?_)
  obtain ⟨x2, rfl, rfl, H⟩ := hq
  show zQ none m_X11_looksAt (d + 1) 16 [(2, .int ((nI 2) * x1)), (0, .ref 53), (1, .int i1)] (.int x2 :: []) h Q
  refine zq_if_eq (tgt := 35) dX11_looksAt_16 rfl ⟨fun c3 => ?_, fun c3 => ?_⟩
  · have H := H.1 c3
    refine zq_iload_n (k := 2) (i := 2) (x := ((nI 2) * x1)) 0 rfl rfl dX11_looksAt_35 ?_
    refine zq_iconst (v := (nI 3)) rfl dX11_looksAt_36 ?_
    refine zq_aload_n (k := 0) (i := 0) (x := 53) 1 rfl rfl dX11_looksAt_37 ?_
    refine zq_invV (as := []) (st := .int (nI 3) :: .int ((nI 2) * x1) :: []) (o := 53) (c := 10) (by decide) rfl (sh_53 hw) in_X11_bound se_X11_bound mo_X11_bound ml_RX11_88 rfl (Nat.le_of_ble_eq_true rfl) dX11_looksAt_38 rfl H (fun r1 h1 hq => ?_)
    obtain ⟨x4, rfl, rfl, H⟩ := hq
    show zQ none m_X11_looksAt (d + 1) 41 [(2, .int ((nI 2) * x1)), (0, .ref 53), (1, .int i1)] (.int x4 :: .int (nI 3) :: .int ((nI 2) * x1) :: []) h Q
    refine zq_imul dX11_looksAt_41 ?_
    refine zq_icmp_lt (tgt := 49) dX11_looksAt_42 rfl ⟨fun c5 => ?_, fun c5 => ?_⟩
    · have H := H.1 c5
      refine zq_iconst (v := (nI 0)) rfl dX11_looksAt_49 ?_
      refine zq_istore_n (ls' := [(3, .int (nI 0)), (2, .int ((nI 2) * x1)), (0, .ref 53), (1, .int i1)]) (k := 3) (i := 3) rfl (Nat.le_of_ble_eq_true rfl) rfl dX11_looksAt_50 ?_
      refine zq_iload_n (k := 3) (i := 3) (x := (nI 0)) 0 rfl rfl dX11_looksAt_51 ?_
      refine zq_if_ne (tgt := 56) dX11_looksAt_52 rfl ⟨fun c6 => ?_, fun c6 => ?_⟩
      · have H := H.1 c6
        refine zq_aload_n (k := 0) (i := 0) (x := 53) 2 rfl rfl dX11_looksAt_56 ?_
        refine zq_dup rfl dX11_looksAt_57 ?_
        refine zq_getL fl_RX11_80 rfl (sh_53 hw) dX11_looksAt_58 ?_
        refine zq_lconst (v := 1) rfl dX11_looksAt_61 ?_
        refine zq_iload_n (k := 1) (i := 1) (x := i1) 3 rfl rfl dX11_looksAt_62 ?_
        refine zq_lshl dX11_looksAt_63 ?_
        refine zq_lxor dX11_looksAt_64 ?_
        refine zq_putL fl_RX11_80 rfl (Or.inl rfl) (sh_53 hw) dX11_looksAt_65 (fun h7 eh7 => ?_)
        have H := H h7 eh7
        have wh7 := wf_L eh7 hw
        refine zq_aload_n (k := 0) (i := 0) (x := 53) 2 rfl rfl dX11_looksAt_68 ?_
        refine zq_getP fl_RX11_11 rfl (sh_53 wh7) (rf_53_0 wh7) dX11_looksAt_69 ?_
        refine zq_iconst (v := (nI 1)) rfl dX11_looksAt_72 ?_
        refine zq_dup2 rfl rfl dX11_looksAt_73 ?_
        obtain ⟨b8, H⟩ := H
        refine zq_iald (sh_54 wh7) b8 dX11_looksAt_74 ?_
        refine zq_iconst (v := (nI 1)) rfl dX11_looksAt_75 ?_
        refine zq_iadd dX11_looksAt_76 ?_
        obtain ⟨b9, H⟩ := H
        refine zq_iast (sh_54 wh7) b9 dX11_looksAt_77 (fun h10 eh10 => ?_)
        have H := H h10 eh10
        have wh10 := wf_I eh10 wh7
        refine zq_aload_n (k := 0) (i := 0) (x := 53) 2 rfl rfl dX11_looksAt_78 ?_
        refine zq_getP fl_RX11_11 rfl (sh_53 wh10) (rf_53_0 wh10) dX11_looksAt_79 ?_
        refine zq_iconst (v := (nI 2)) rfl dX11_looksAt_82 ?_
        refine zq_dup2 rfl rfl dX11_looksAt_83 ?_
        obtain ⟨b11, H⟩ := H
        refine zq_iald (sh_54 wh10) b11 dX11_looksAt_84 ?_
        refine zq_aload_n (k := 0) (i := 0) (x := 53) 2 rfl rfl dX11_looksAt_85 ?_
        refine zq_iload_n (k := 1) (i := 1) (x := i1) 3 rfl rfl dX11_looksAt_86 ?_
        refine zq_invV (as := [.int i1]) (st := .int (h10.I 54 (nI 2).toNatClampNeg) :: .int (nI 2) :: .ref 54 :: []) (o := 53) (c := 10) (by decide) rfl (sh_53 wh10) in_X11_degree se_X11_degree mo_X11_degree ml_RX11_84 rfl (Nat.le_of_ble_eq_true rfl) dX11_looksAt_87 rfl H (fun r1 h1 hq => ?_)
        obtain ⟨x12, rfl, rfl, H⟩ := hq
        show zQ none m_X11_looksAt (d + 1) 90 [(3, .int (nI 0)), (2, .int ((nI 2) * x1)), (0, .ref 53), (1, .int i1)] (.int x12 :: .int (h10.I 54 (nI 2).toNatClampNeg) :: .int (nI 2) :: .ref 54 :: []) h10 Q
        refine zq_iadd dX11_looksAt_90 ?_
        obtain ⟨b13, H⟩ := H
        refine zq_iast (sh_54 wh10) b13 dX11_looksAt_91 (fun h14 eh14 => ?_)
        have H := H h14 eh14
        have wh14 := wf_I eh14 wh10
        exact zq_vret dX11_looksAt_92 rfl H
      · have H := H.2 c6
        exact zq_vret dX11_looksAt_55 rfl H
    · have H := H.2 c5
      refine zq_iconst (v := (nI 1)) rfl dX11_looksAt_45 ?_
      refine zq_goto (tgt := 50) dX11_looksAt_46 rfl ?_
      refine zq_istore_n (ls' := [(3, .int (nI 1)), (2, .int ((nI 2) * x1)), (0, .ref 53), (1, .int i1)]) (k := 3) (i := 3) rfl (Nat.le_of_ble_eq_true rfl) rfl dX11_looksAt_50 ?_
      refine zq_iload_n (k := 3) (i := 3) (x := (nI 1)) 0 rfl rfl dX11_looksAt_51 ?_
      refine zq_if_ne (tgt := 56) dX11_looksAt_52 rfl ⟨fun c15 => ?_, fun c15 => ?_⟩
      · have H := H.1 c15
        refine zq_aload_n (k := 0) (i := 0) (x := 53) 2 rfl rfl dX11_looksAt_56 ?_
        refine zq_dup rfl dX11_looksAt_57 ?_
        refine zq_getL fl_RX11_80 rfl (sh_53 hw) dX11_looksAt_58 ?_
        refine zq_lconst (v := 1) rfl dX11_looksAt_61 ?_
        refine zq_iload_n (k := 1) (i := 1) (x := i1) 3 rfl rfl dX11_looksAt_62 ?_
        refine zq_lshl dX11_looksAt_63 ?_
        refine zq_lxor dX11_looksAt_64 ?_
        refine zq_putL fl_RX11_80 rfl (Or.inl rfl) (sh_53 hw) dX11_looksAt_65 (fun h16 eh16 => ?_)
        have H := H h16 eh16
        have wh16 := wf_L eh16 hw
        refine zq_aload_n (k := 0) (i := 0) (x := 53) 2 rfl rfl dX11_looksAt_68 ?_
        refine zq_getP fl_RX11_11 rfl (sh_53 wh16) (rf_53_0 wh16) dX11_looksAt_69 ?_
        refine zq_iconst (v := (nI 1)) rfl dX11_looksAt_72 ?_
        refine zq_dup2 rfl rfl dX11_looksAt_73 ?_
        obtain ⟨b17, H⟩ := H
        refine zq_iald (sh_54 wh16) b17 dX11_looksAt_74 ?_
        refine zq_iconst (v := (nI 1)) rfl dX11_looksAt_75 ?_
        refine zq_iadd dX11_looksAt_76 ?_
        obtain ⟨b18, H⟩ := H
        refine zq_iast (sh_54 wh16) b18 dX11_looksAt_77 (fun h19 eh19 => ?_)
        have H := H h19 eh19
        have wh19 := wf_I eh19 wh16
        refine zq_aload_n (k := 0) (i := 0) (x := 53) 2 rfl rfl dX11_looksAt_78 ?_
        refine zq_getP fl_RX11_11 rfl (sh_53 wh19) (rf_53_0 wh19) dX11_looksAt_79 ?_
        refine zq_iconst (v := (nI 2)) rfl dX11_looksAt_82 ?_
        refine zq_dup2 rfl rfl dX11_looksAt_83 ?_
        obtain ⟨b20, H⟩ := H
        refine zq_iald (sh_54 wh19) b20 dX11_looksAt_84 ?_
        refine zq_aload_n (k := 0) (i := 0) (x := 53) 2 rfl rfl dX11_looksAt_85 ?_
        refine zq_iload_n (k := 1) (i := 1) (x := i1) 3 rfl rfl dX11_looksAt_86 ?_
        refine zq_invV (as := [.int i1]) (st := .int (h19.I 54 (nI 2).toNatClampNeg) :: .int (nI 2) :: .ref 54 :: []) (o := 53) (c := 10) (by decide) rfl (sh_53 wh19) in_X11_degree se_X11_degree mo_X11_degree ml_RX11_84 rfl (Nat.le_of_ble_eq_true rfl) dX11_looksAt_87 rfl H (fun r1 h1 hq => ?_)
        obtain ⟨x21, rfl, rfl, H⟩ := hq
        show zQ none m_X11_looksAt (d + 1) 90 [(3, .int (nI 1)), (2, .int ((nI 2) * x1)), (0, .ref 53), (1, .int i1)] (.int x21 :: .int (h19.I 54 (nI 2).toNatClampNeg) :: .int (nI 2) :: .ref 54 :: []) h19 Q
        refine zq_iadd dX11_looksAt_90 ?_
        obtain ⟨b22, H⟩ := H
        refine zq_iast (sh_54 wh19) b22 dX11_looksAt_91 (fun h23 eh23 => ?_)
        have H := H h23 eh23
        have wh23 := wf_I eh23 wh19
        exact zq_vret dX11_looksAt_92 rfl H
      · have H := H.2 c15
        exact zq_vret dX11_looksAt_55 rfl H
  · have H := H.2 c3
    refine zq_iload_n (k := 2) (i := 2) (x := ((nI 2) * x1)) 0 rfl rfl dX11_looksAt_19 ?_
    refine zq_aload_n (k := 0) (i := 0) (x := 53) 1 rfl rfl dX11_looksAt_20 ?_
    refine zq_invV (as := []) (st := .int ((nI 2) * x1) :: []) (o := 53) (c := 10) (by decide) rfl (sh_53 hw) in_X11_bound se_X11_bound mo_X11_bound ml_RX11_88 rfl (Nat.le_of_ble_eq_true rfl) dX11_looksAt_21 rfl H (fun r1 h1 hq => ?_)
    obtain ⟨x24, rfl, rfl, H⟩ := hq
    show zQ none m_X11_looksAt (d + 1) 24 [(2, .int ((nI 2) * x1)), (0, .ref 53), (1, .int i1)] (.int x24 :: .int ((nI 2) * x1) :: []) h Q
    refine zq_icmp_ge (tgt := 31) dX11_looksAt_24 rfl ⟨fun c25 => ?_, fun c25 => ?_⟩
    · have H := H.1 c25
      refine zq_iconst (v := (nI 0)) rfl dX11_looksAt_31 ?_
      refine zq_goto (tgt := 50) dX11_looksAt_32 rfl ?_
      refine zq_istore_n (ls' := [(3, .int (nI 0)), (2, .int ((nI 2) * x1)), (0, .ref 53), (1, .int i1)]) (k := 3) (i := 3) rfl (Nat.le_of_ble_eq_true rfl) rfl dX11_looksAt_50 ?_
      refine zq_iload_n (k := 3) (i := 3) (x := (nI 0)) 0 rfl rfl dX11_looksAt_51 ?_
      refine zq_if_ne (tgt := 56) dX11_looksAt_52 rfl ⟨fun c26 => ?_, fun c26 => ?_⟩
      · have H := H.1 c26
        refine zq_aload_n (k := 0) (i := 0) (x := 53) 2 rfl rfl dX11_looksAt_56 ?_
        refine zq_dup rfl dX11_looksAt_57 ?_
        refine zq_getL fl_RX11_80 rfl (sh_53 hw) dX11_looksAt_58 ?_
        refine zq_lconst (v := 1) rfl dX11_looksAt_61 ?_
        refine zq_iload_n (k := 1) (i := 1) (x := i1) 3 rfl rfl dX11_looksAt_62 ?_
        refine zq_lshl dX11_looksAt_63 ?_
        refine zq_lxor dX11_looksAt_64 ?_
        refine zq_putL fl_RX11_80 rfl (Or.inl rfl) (sh_53 hw) dX11_looksAt_65 (fun h27 eh27 => ?_)
        have H := H h27 eh27
        have wh27 := wf_L eh27 hw
        refine zq_aload_n (k := 0) (i := 0) (x := 53) 2 rfl rfl dX11_looksAt_68 ?_
        refine zq_getP fl_RX11_11 rfl (sh_53 wh27) (rf_53_0 wh27) dX11_looksAt_69 ?_
        refine zq_iconst (v := (nI 1)) rfl dX11_looksAt_72 ?_
        refine zq_dup2 rfl rfl dX11_looksAt_73 ?_
        obtain ⟨b28, H⟩ := H
        refine zq_iald (sh_54 wh27) b28 dX11_looksAt_74 ?_
        refine zq_iconst (v := (nI 1)) rfl dX11_looksAt_75 ?_
        refine zq_iadd dX11_looksAt_76 ?_
        obtain ⟨b29, H⟩ := H
        refine zq_iast (sh_54 wh27) b29 dX11_looksAt_77 (fun h30 eh30 => ?_)
        have H := H h30 eh30
        have wh30 := wf_I eh30 wh27
        refine zq_aload_n (k := 0) (i := 0) (x := 53) 2 rfl rfl dX11_looksAt_78 ?_
        refine zq_getP fl_RX11_11 rfl (sh_53 wh30) (rf_53_0 wh30) dX11_looksAt_79 ?_
        refine zq_iconst (v := (nI 2)) rfl dX11_looksAt_82 ?_
        refine zq_dup2 rfl rfl dX11_looksAt_83 ?_
        obtain ⟨b31, H⟩ := H
        refine zq_iald (sh_54 wh30) b31 dX11_looksAt_84 ?_
        refine zq_aload_n (k := 0) (i := 0) (x := 53) 2 rfl rfl dX11_looksAt_85 ?_
        refine zq_iload_n (k := 1) (i := 1) (x := i1) 3 rfl rfl dX11_looksAt_86 ?_
        refine zq_invV (as := [.int i1]) (st := .int (h30.I 54 (nI 2).toNatClampNeg) :: .int (nI 2) :: .ref 54 :: []) (o := 53) (c := 10) (by decide) rfl (sh_53 wh30) in_X11_degree se_X11_degree mo_X11_degree ml_RX11_84 rfl (Nat.le_of_ble_eq_true rfl) dX11_looksAt_87 rfl H (fun r1 h1 hq => ?_)
        obtain ⟨x32, rfl, rfl, H⟩ := hq
        show zQ none m_X11_looksAt (d + 1) 90 [(3, .int (nI 0)), (2, .int ((nI 2) * x1)), (0, .ref 53), (1, .int i1)] (.int x32 :: .int (h30.I 54 (nI 2).toNatClampNeg) :: .int (nI 2) :: .ref 54 :: []) h30 Q
        refine zq_iadd dX11_looksAt_90 ?_
        obtain ⟨b33, H⟩ := H
        refine zq_iast (sh_54 wh30) b33 dX11_looksAt_91 (fun h34 eh34 => ?_)
        have H := H h34 eh34
        have wh34 := wf_I eh34 wh30
        exact zq_vret dX11_looksAt_92 rfl H
      · have H := H.2 c26
        exact zq_vret dX11_looksAt_55 rfl H
    · have H := H.2 c25
      refine zq_iconst (v := (nI 1)) rfl dX11_looksAt_27 ?_
      refine zq_goto (tgt := 50) dX11_looksAt_28 rfl ?_
      refine zq_istore_n (ls' := [(3, .int (nI 1)), (2, .int ((nI 2) * x1)), (0, .ref 53), (1, .int i1)]) (k := 3) (i := 3) rfl (Nat.le_of_ble_eq_true rfl) rfl dX11_looksAt_50 ?_
      refine zq_iload_n (k := 3) (i := 3) (x := (nI 1)) 0 rfl rfl dX11_looksAt_51 ?_
      refine zq_if_ne (tgt := 56) dX11_looksAt_52 rfl ⟨fun c35 => ?_, fun c35 => ?_⟩
      · have H := H.1 c35
        refine zq_aload_n (k := 0) (i := 0) (x := 53) 2 rfl rfl dX11_looksAt_56 ?_
        refine zq_dup rfl dX11_looksAt_57 ?_
        refine zq_getL fl_RX11_80 rfl (sh_53 hw) dX11_looksAt_58 ?_
        refine zq_lconst (v := 1) rfl dX11_looksAt_61 ?_
        refine zq_iload_n (k := 1) (i := 1) (x := i1) 3 rfl rfl dX11_looksAt_62 ?_
        refine zq_lshl dX11_looksAt_63 ?_
        refine zq_lxor dX11_looksAt_64 ?_
        refine zq_putL fl_RX11_80 rfl (Or.inl rfl) (sh_53 hw) dX11_looksAt_65 (fun h36 eh36 => ?_)
        have H := H h36 eh36
        have wh36 := wf_L eh36 hw
        refine zq_aload_n (k := 0) (i := 0) (x := 53) 2 rfl rfl dX11_looksAt_68 ?_
        refine zq_getP fl_RX11_11 rfl (sh_53 wh36) (rf_53_0 wh36) dX11_looksAt_69 ?_
        refine zq_iconst (v := (nI 1)) rfl dX11_looksAt_72 ?_
        refine zq_dup2 rfl rfl dX11_looksAt_73 ?_
        obtain ⟨b37, H⟩ := H
        refine zq_iald (sh_54 wh36) b37 dX11_looksAt_74 ?_
        refine zq_iconst (v := (nI 1)) rfl dX11_looksAt_75 ?_
        refine zq_iadd dX11_looksAt_76 ?_
        obtain ⟨b38, H⟩ := H
        refine zq_iast (sh_54 wh36) b38 dX11_looksAt_77 (fun h39 eh39 => ?_)
        have H := H h39 eh39
        have wh39 := wf_I eh39 wh36
        refine zq_aload_n (k := 0) (i := 0) (x := 53) 2 rfl rfl dX11_looksAt_78 ?_
        refine zq_getP fl_RX11_11 rfl (sh_53 wh39) (rf_53_0 wh39) dX11_looksAt_79 ?_
        refine zq_iconst (v := (nI 2)) rfl dX11_looksAt_82 ?_
        refine zq_dup2 rfl rfl dX11_looksAt_83 ?_
        obtain ⟨b40, H⟩ := H
        refine zq_iald (sh_54 wh39) b40 dX11_looksAt_84 ?_
        refine zq_aload_n (k := 0) (i := 0) (x := 53) 2 rfl rfl dX11_looksAt_85 ?_
        refine zq_iload_n (k := 1) (i := 1) (x := i1) 3 rfl rfl dX11_looksAt_86 ?_
        refine zq_invV (as := [.int i1]) (st := .int (h39.I 54 (nI 2).toNatClampNeg) :: .int (nI 2) :: .ref 54 :: []) (o := 53) (c := 10) (by decide) rfl (sh_53 wh39) in_X11_degree se_X11_degree mo_X11_degree ml_RX11_84 rfl (Nat.le_of_ble_eq_true rfl) dX11_looksAt_87 rfl H (fun r1 h1 hq => ?_)
        obtain ⟨x41, rfl, rfl, H⟩ := hq
        show zQ none m_X11_looksAt (d + 1) 90 [(3, .int (nI 1)), (2, .int ((nI 2) * x1)), (0, .ref 53), (1, .int i1)] (.int x41 :: .int (h39.I 54 (nI 2).toNatClampNeg) :: .int (nI 2) :: .ref 54 :: []) h39 Q
        refine zq_iadd dX11_looksAt_90 ?_
        obtain ⟨b42, H⟩ := H
        refine zq_iast (sh_54 wh39) b42 dX11_looksAt_91 (fun h43 eh43 => ?_)
        have H := H h43 eh43
        have wh43 := wf_I eh43 wh39
        exact zq_vret dX11_looksAt_92 rfl H
      · have H := H.2 c35
        exact zq_vret dX11_looksAt_55 rfl H
set_option maxHeartbeats 2000000 in
set_option maxRecDepth 20000 in
theorem r_X11_changes_0 {d : Nat} {h : AH} {Q : Option Value → AH → Prop} (i1 : Int32) (i2 : Int32) (i3 : Int32) (i4 : Int32) (hw : zWF h)  (H : vp_in i1 40 ∧ (vp_in i1 40 ∧ (∀ h3, h3 = h.sL 58 i1.toNatClampNeg ((h.L 58 i1.toNatClampNeg) ^^^ ((1 : Int64) <<< (i2.toInt64 &&& 63))) → vp_in i2 40 ∧ (vp_in i2 40 ∧ (∀ h6, h6 = h3.sL 58 i2.toNatClampNeg ((h3.L 58 i2.toNatClampNeg) ^^^ ((1 : Int64) <<< (i1.toInt64 &&& 63))) → zK d m_X11_edge [.int i1, .int i2] h6 (pI h6 fun x7 => vp_in x7 1600 ∧ (∀ h9, h9 = h6.sI 55 x7.toNatClampNeg i4 → vp_in (nI 5) 187 ∧ ((i3 = 0 → vp_in (nI 5) 187 ∧ (∀ h13, h13 = h9.sI 54 (nI 5).toNatClampNeg ((h9.I 54 (nI 5).toNatClampNeg) + (-1)) → vp_in (nI 4) 187 ∧ (vp_in (nI 4) 187 ∧ (∀ h16, h16 = h13.sI 54 (nI 4).toNatClampNeg ((h13.I 54 (nI 4).toNatClampNeg) + (nI 1)) → (i3 = 0 → zQ none m_X11_changes (d + 1) 100 [(0, .ref 53), (1, .int i1), (2, .int i2), (3, .int i3)] [] h16 Q) ∧ (¬ i3 = 0 → vp_in (nI 5) 187 ∧ (vp_in (nI 0) 187 ∧ (((h16.I 54 (nI 5).toNatClampNeg) ≠ (h16.I 54 (nI 0).toNatClampNeg) → zQ none m_X11_changes (d + 1) 100 [(0, .ref 53), (1, .int i1), (2, .int i2), (3, .int i3)] [] h16 Q) ∧ ((h16.I 54 (nI 5).toNatClampNeg) = (h16.I 54 (nI 0).toNatClampNeg) → vp_in (nI 0) 187 ∧ (vp_in (nI 0) 187 ∧ (∀ h23, h23 = h16.sI 54 (nI 0).toNatClampNeg ((h16.I 54 (nI 0).toNatClampNeg) * (nI 2)) → zK d m_X11_rebases [.ref 53] h23 (kV fun h24 => zQ none m_X11_changes (d + 1) 189 [] [] h24 Q))))))))))) ∧ (¬ i3 = 0 → vp_in (nI 5) 187 ∧ (∀ h26, h26 = h9.sI 54 (nI 5).toNatClampNeg ((h9.I 54 (nI 5).toNatClampNeg) + (nI 1)) → vp_in (nI 4) 187 ∧ (vp_in (nI 4) 187 ∧ (∀ h29, h29 = h26.sI 54 (nI 4).toNatClampNeg ((h26.I 54 (nI 4).toNatClampNeg) + (nI 1)) → (i3 = 0 → zQ none m_X11_changes (d + 1) 100 [(0, .ref 53), (1, .int i1), (2, .int i2), (3, .int i3)] [] h29 Q) ∧ (¬ i3 = 0 → vp_in (nI 5) 187 ∧ (vp_in (nI 0) 187 ∧ (((h29.I 54 (nI 5).toNatClampNeg) ≠ (h29.I 54 (nI 0).toNatClampNeg) → zQ none m_X11_changes (d + 1) 100 [(0, .ref 53), (1, .int i1), (2, .int i2), (3, .int i3)] [] h29 Q) ∧ ((h29.I 54 (nI 5).toNatClampNeg) = (h29.I 54 (nI 0).toNatClampNeg) → vp_in (nI 0) 187 ∧ (vp_in (nI 0) 187 ∧ (∀ h36, h36 = h29.sI 54 (nI 0).toNatClampNeg ((h29.I 54 (nI 0).toNatClampNeg) * (nI 2)) → zK d m_X11_rebases [.ref 53] h36 (kV fun h37 => zQ none m_X11_changes (d + 1) 189 [] [] h37 Q))))))))))))))))))) : zK (d + 1) m_X11_changes [.ref 53, .int i1, .int i2, .int i3, .int i4] h Q := by
  refine zK_of mo_X11_changes (Nat.le_of_ble_eq_true rfl) ?_
  show zQ none m_X11_changes (d + 1) 0 [(0, .ref 53), (1, .int i1), (2, .int i2), (3, .int i3), (4, .int i4)] [] h Q
  refine zq_aload_n (k := 0) (i := 0) (x := 53) 0 rfl rfl dX11_changes_0 ?_
  refine zq_getP fl_RX11_24 rfl (sh_53 hw) (rf_53_4 hw) dX11_changes_1 ?_
  refine zq_iload_n (k := 1) (i := 1) (x := i1) 1 rfl rfl dX11_changes_4 ?_
  refine zq_dup2 rfl rfl dX11_changes_5 ?_
  obtain ⟨b1, H⟩ := H
  refine zq_lald (sh_58 hw) b1 dX11_changes_6 ?_
  refine zq_lconst (v := 1) rfl dX11_changes_7 ?_
  refine zq_iload_n (k := 2) (i := 2) (x := i2) 2 rfl rfl dX11_changes_8 ?_
  refine zq_lshl dX11_changes_9 ?_
  refine zq_lxor dX11_changes_10 ?_
  obtain ⟨b2, H⟩ := H
  refine zq_last (sh_58 hw) b2 dX11_changes_11 (fun h3 eh3 => ?_)
  have H := H h3 eh3
  have wh3 := wf_L eh3 hw
  refine zq_aload_n (k := 0) (i := 0) (x := 53) 0 rfl rfl dX11_changes_12 ?_
  refine zq_getP fl_RX11_24 rfl (sh_53 wh3) (rf_53_4 wh3) dX11_changes_13 ?_
  refine zq_iload_n (k := 2) (i := 2) (x := i2) 2 rfl rfl dX11_changes_16 ?_
  refine zq_dup2 rfl rfl dX11_changes_17 ?_
  obtain ⟨b4, H⟩ := H
  refine zq_lald (sh_58 wh3) b4 dX11_changes_18 ?_
  refine zq_lconst (v := 1) rfl dX11_changes_19 ?_
  refine zq_iload_n (k := 1) (i := 1) (x := i1) 1 rfl rfl dX11_changes_20 ?_
  refine zq_lshl dX11_changes_21 ?_
  refine zq_lxor dX11_changes_22 ?_
  obtain ⟨b5, H⟩ := H
  refine zq_last (sh_58 wh3) b5 dX11_changes_23 (fun h6 eh6 => ?_)
  have H := H h6 eh6
  have wh6 := wf_L eh6 wh3
  refine zq_aload_n (k := 0) (i := 0) (x := 53) 0 rfl rfl dX11_changes_24 ?_
  refine zq_getP fl_RX11_15 rfl (sh_53 wh6) (rf_53_1 wh6) dX11_changes_25 ?_
  refine zq_iload_n (k := 1) (i := 1) (x := i1) 1 rfl rfl dX11_changes_28 ?_
  refine zq_iload_n (k := 2) (i := 2) (x := i2) 2 rfl rfl dX11_changes_29 ?_
  refine zq_invS (as := [.int i1, .int i2]) (st := .ref 55 :: []) st_X11_edge mo_X11_edge ml_RX11_92 rfl (Nat.le_of_ble_eq_true rfl) dX11_changes_30 rfl H (fun r1 h1 hq => ?_)
  obtain ⟨x7, rfl, rfl, H⟩ := hq
  show zQ none m_X11_changes (d + 1) 33 [(0, .ref 53), (1, .int i1), (2, .int i2), (3, .int i3), (4, .int i4)] (.int x7 :: .ref 55 :: []) h6 Q
  refine zq_iload (i := 4) (x := i4) 4 rfl dX11_changes_33 ?_
  obtain ⟨b8, H⟩ := H
  refine zq_iast (sh_55 wh6) b8 dX11_changes_35 (fun h9 eh9 => ?_)
  have H := H h9 eh9
  have wh9 := wf_I eh9 wh6
  refine zq_aload_n (k := 0) (i := 0) (x := 53) 0 rfl rfl dX11_changes_36 ?_
  refine zq_getP fl_RX11_11 rfl (sh_53 wh9) (rf_53_0 wh9) dX11_changes_37 ?_
  refine zq_iconst (v := (nI 5)) rfl dX11_changes_40 ?_
  refine zq_dup2 rfl rfl dX11_changes_41 ?_
  obtain ⟨b10, H⟩ := H
  refine zq_iald (sh_54 wh9) b10 dX11_changes_42 ?_
  refine zq_iload_n (k := 3) (i := 3) (x := i3) 3 rfl rfl dX11_changes_43 ?_
  refine zq_if_eq (tgt := 51) dX11_changes_44 rfl ⟨fun c11 => ?_, fun c11 => ?_⟩
  · have H := H.1 c11
    refine zq_iconst (v := (-1)) rfl dX11_changes_51 ?_
    refine zq_iadd dX11_changes_52 ?_
    obtain ⟨b12, H⟩ := H
    refine zq_iast (sh_54 wh9) b12 dX11_changes_53 (fun h13 eh13 => ?_)
    have H := H h13 eh13
    have wh13 := wf_I eh13 wh9
    refine zq_aload_n (k := 0) (i := 0) (x := 53) 0 rfl rfl dX11_changes_54 ?_
    refine zq_getP fl_RX11_11 rfl (sh_53 wh13) (rf_53_0 wh13) dX11_changes_55 ?_
    refine zq_iconst (v := (nI 4)) rfl dX11_changes_58 ?_
    refine zq_dup2 rfl rfl dX11_changes_59 ?_
    obtain ⟨b14, H⟩ := H
    refine zq_iald (sh_54 wh13) b14 dX11_changes_60 ?_
    refine zq_iconst (v := (nI 1)) rfl dX11_changes_61 ?_
    refine zq_iadd dX11_changes_62 ?_
    obtain ⟨b15, H⟩ := H
    refine zq_iast (sh_54 wh13) b15 dX11_changes_63 (fun h16 eh16 => ?_)
    have H := H h16 eh16
    have wh16 := wf_I eh16 wh13
    refine zq_iload_n (k := 3) (i := 3) (x := i3) 3 rfl rfl dX11_changes_64 ?_
    refine zq_if_eq (tgt := 100) dX11_changes_65 rfl ⟨fun c17 => ?_, fun c17 => ?_⟩
    · have H := H.1 c17
      exact zq_sub (ls' := [(0, .ref 53), (1, .int i1), (2, .int i2), (3, .int i3)]) [0, 1, 2, 3] rfl H
    · have H := H.2 c17
      refine zq_aload_n (k := 0) (i := 0) (x := 53) 0 rfl rfl dX11_changes_68 ?_
      refine zq_getP fl_RX11_11 rfl (sh_53 wh16) (rf_53_0 wh16) dX11_changes_69 ?_
      refine zq_iconst (v := (nI 5)) rfl dX11_changes_72 ?_
      obtain ⟨b18, H⟩ := H
      refine zq_iald (sh_54 wh16) b18 dX11_changes_73 ?_
      refine zq_aload_n (k := 0) (i := 0) (x := 53) 0 rfl rfl dX11_changes_74 ?_
      refine zq_getP fl_RX11_11 rfl (sh_53 wh16) (rf_53_0 wh16) dX11_changes_75 ?_
      refine zq_iconst (v := (nI 0)) rfl dX11_changes_78 ?_
      obtain ⟨b19, H⟩ := H
      refine zq_iald (sh_54 wh16) b19 dX11_changes_79 ?_
      refine zq_icmp_ne (tgt := 100) dX11_changes_80 rfl ⟨fun c20 => ?_, fun c20 => ?_⟩
      · have H := H.1 c20
        exact zq_sub (ls' := [(0, .ref 53), (1, .int i1), (2, .int i2), (3, .int i3)]) [0, 1, 2, 3] rfl H
      · have H := H.2 c20
        refine zq_aload_n (k := 0) (i := 0) (x := 53) 0 rfl rfl dX11_changes_83 ?_
        refine zq_getP fl_RX11_11 rfl (sh_53 wh16) (rf_53_0 wh16) dX11_changes_84 ?_
        refine zq_iconst (v := (nI 0)) rfl dX11_changes_87 ?_
        refine zq_dup2 rfl rfl dX11_changes_88 ?_
        obtain ⟨b21, H⟩ := H
        refine zq_iald (sh_54 wh16) b21 dX11_changes_89 ?_
        refine zq_iconst (v := (nI 2)) rfl dX11_changes_90 ?_
        refine zq_imul dX11_changes_91 ?_
        obtain ⟨b22, H⟩ := H
        refine zq_iast (sh_54 wh16) b22 dX11_changes_92 (fun h23 eh23 => ?_)
        have H := H h23 eh23
        have wh23 := wf_I eh23 wh16
        refine zq_aload_n (k := 0) (i := 0) (x := 53) 0 rfl rfl dX11_changes_93 ?_
        refine zq_invV (as := []) (st := []) (o := 53) (c := 10) (by decide) rfl (sh_53 wh23) in_X11_rebases se_X11_rebases mo_X11_rebases ml_RX11_96 rfl (Nat.le_of_ble_eq_true rfl) dX11_changes_94 rfl H (fun r1 h24 hq => ?_)
        obtain ⟨rfl, wh24, H⟩ := hq
        show zQ none m_X11_changes (d + 1) 97 [(0, .ref 53), (1, .int i1), (2, .int i2), (3, .int i3), (4, .int i4)] ([]) h24 Q
        refine zq_goto (tgt := 189) dX11_changes_97 rfl ?_
        exact zq_sub (ls' := []) [] rfl H
  · have H := H.2 c11
    refine zq_iconst (v := (nI 1)) rfl dX11_changes_47 ?_
    refine zq_goto (tgt := 52) dX11_changes_48 rfl ?_
    refine zq_iadd dX11_changes_52 ?_
    obtain ⟨b25, H⟩ := H
    refine zq_iast (sh_54 wh9) b25 dX11_changes_53 (fun h26 eh26 => ?_)
    have H := H h26 eh26
    have wh26 := wf_I eh26 wh9
    refine zq_aload_n (k := 0) (i := 0) (x := 53) 0 rfl rfl dX11_changes_54 ?_
    refine zq_getP fl_RX11_11 rfl (sh_53 wh26) (rf_53_0 wh26) dX11_changes_55 ?_
    refine zq_iconst (v := (nI 4)) rfl dX11_changes_58 ?_
    refine zq_dup2 rfl rfl dX11_changes_59 ?_
    obtain ⟨b27, H⟩ := H
    refine zq_iald (sh_54 wh26) b27 dX11_changes_60 ?_
    refine zq_iconst (v := (nI 1)) rfl dX11_changes_61 ?_
    refine zq_iadd dX11_changes_62 ?_
    obtain ⟨b28, H⟩ := H
    refine zq_iast (sh_54 wh26) b28 dX11_changes_63 (fun h29 eh29 => ?_)
    have H := H h29 eh29
    have wh29 := wf_I eh29 wh26
    refine zq_iload_n (k := 3) (i := 3) (x := i3) 3 rfl rfl dX11_changes_64 ?_
    refine zq_if_eq (tgt := 100) dX11_changes_65 rfl ⟨fun c30 => ?_, fun c30 => ?_⟩
    · have H := H.1 c30
      exact zq_sub (ls' := [(0, .ref 53), (1, .int i1), (2, .int i2), (3, .int i3)]) [0, 1, 2, 3] rfl H
    · have H := H.2 c30
      refine zq_aload_n (k := 0) (i := 0) (x := 53) 0 rfl rfl dX11_changes_68 ?_
      refine zq_getP fl_RX11_11 rfl (sh_53 wh29) (rf_53_0 wh29) dX11_changes_69 ?_
      refine zq_iconst (v := (nI 5)) rfl dX11_changes_72 ?_
      obtain ⟨b31, H⟩ := H
      refine zq_iald (sh_54 wh29) b31 dX11_changes_73 ?_
      refine zq_aload_n (k := 0) (i := 0) (x := 53) 0 rfl rfl dX11_changes_74 ?_
      refine zq_getP fl_RX11_11 rfl (sh_53 wh29) (rf_53_0 wh29) dX11_changes_75 ?_
      refine zq_iconst (v := (nI 0)) rfl dX11_changes_78 ?_
      obtain ⟨b32, H⟩ := H
      refine zq_iald (sh_54 wh29) b32 dX11_changes_79 ?_
      refine zq_icmp_ne (tgt := 100) dX11_changes_80 rfl ⟨fun c33 => ?_, fun c33 => ?_⟩
      · have H := H.1 c33
        exact zq_sub (ls' := [(0, .ref 53), (1, .int i1), (2, .int i2), (3, .int i3)]) [0, 1, 2, 3] rfl H
      · have H := H.2 c33
        refine zq_aload_n (k := 0) (i := 0) (x := 53) 0 rfl rfl dX11_changes_83 ?_
        refine zq_getP fl_RX11_11 rfl (sh_53 wh29) (rf_53_0 wh29) dX11_changes_84 ?_
        refine zq_iconst (v := (nI 0)) rfl dX11_changes_87 ?_
        refine zq_dup2 rfl rfl dX11_changes_88 ?_
        obtain ⟨b34, H⟩ := H
        refine zq_iald (sh_54 wh29) b34 dX11_changes_89 ?_
        refine zq_iconst (v := (nI 2)) rfl dX11_changes_90 ?_
        refine zq_imul dX11_changes_91 ?_
        obtain ⟨b35, H⟩ := H
        refine zq_iast (sh_54 wh29) b35 dX11_changes_92 (fun h36 eh36 => ?_)
        have H := H h36 eh36
        have wh36 := wf_I eh36 wh29
        refine zq_aload_n (k := 0) (i := 0) (x := 53) 0 rfl rfl dX11_changes_93 ?_
        refine zq_invV (as := []) (st := []) (o := 53) (c := 10) (by decide) rfl (sh_53 wh36) in_X11_rebases se_X11_rebases mo_X11_rebases ml_RX11_96 rfl (Nat.le_of_ble_eq_true rfl) dX11_changes_94 rfl H (fun r1 h37 hq => ?_)
        obtain ⟨rfl, wh37, H⟩ := hq
        show zQ none m_X11_changes (d + 1) 97 [(0, .ref 53), (1, .int i1), (2, .int i2), (3, .int i3), (4, .int i4)] ([]) h37 Q
        refine zq_goto (tgt := 189) dX11_changes_97 rfl ?_
        exact zq_sub (ls' := []) [] rfl H
set_option maxHeartbeats 2000000 in
set_option maxRecDepth 20000 in
theorem r_X11_changes_100 {d : Nat} {h : AH} {Q : Option Value → AH → Prop} (i1 : Int32) (i2 : Int32) (i3 : Int32) (hw : zWF h)  (H : (i3 ≠ 0 → zQ none m_X11_changes (d + 1) 161 [(0, .ref 53), (1, .int i1), (2, .int i2)] [] h Q) ∧ (i3 = 0 → vp_in (nI 5) 187 ∧ (vp_in (nI 0) 187 ∧ ((((h.I 54 (nI 0).toNatClampNeg) / (nI 4)) ≤ (h.I 54 (nI 5).toNatClampNeg) → zQ none m_X11_changes (d + 1) 161 [(0, .ref 53), (1, .int i1), (2, .int i2)] [] h Q) ∧ (¬ ((h.I 54 (nI 0).toNatClampNeg) / (nI 4)) ≤ (h.I 54 (nI 5).toNatClampNeg) → vp_in (nI 0) 187 ∧ (vp_in (nI 0) 187 ∧ (∀ h7, h7 = h.sI 54 (nI 0).toNatClampNeg (((h.I 54 (nI 0).toNatClampNeg) / (nI 2)) - (nI 1)) → vp_in (nI 0) 187 ∧ (((nI 1) ≤ (h7.I 54 (nI 0).toNatClampNeg) → zQ none m_X11_changes (d + 1) 154 [(0, .ref 53)] [] h7 Q) ∧ (¬ (nI 1) ≤ (h7.I 54 (nI 0).toNatClampNeg) → vp_in (nI 0) 187 ∧ (∀ h11, h11 = h7.sI 54 (nI 0).toNatClampNeg (nI 1) → zQ none m_X11_changes (d + 1) 154 [(0, .ref 53)] [] h11 Q)))))))))) : zQ none m_X11_changes (d + 1) 100 [(0, .ref 53), (1, .int i1), (2, .int i2), (3, .int i3)] [] h Q := by
  refine zq_iload_n (k := 3) (i := 3) (x := i3) 3 rfl rfl dX11_changes_100 ?_
  refine zq_if_ne (tgt := 161) dX11_changes_101 rfl ⟨fun c1 => ?_, fun c1 => ?_⟩
  · have H := H.1 c1
    exact zq_sub (ls' := [(0, .ref 53), (1, .int i1), (2, .int i2)]) [0, 1, 2] rfl H
  · have H := H.2 c1
    refine zq_aload_n (k := 0) (i := 0) (x := 53) 0 rfl rfl dX11_changes_104 ?_
    refine zq_getP fl_RX11_11 rfl (sh_53 hw) (rf_53_0 hw) dX11_changes_105 ?_
    refine zq_iconst (v := (nI 5)) rfl dX11_changes_108 ?_
    obtain ⟨b2, H⟩ := H
    refine zq_iald (sh_54 hw) b2 dX11_changes_109 ?_
    refine zq_aload_n (k := 0) (i := 0) (x := 53) 0 rfl rfl dX11_changes_110 ?_
    refine zq_getP fl_RX11_11 rfl (sh_53 hw) (rf_53_0 hw) dX11_changes_111 ?_
    refine zq_iconst (v := (nI 0)) rfl dX11_changes_114 ?_
    obtain ⟨b3, H⟩ := H
    refine zq_iald (sh_54 hw) b3 dX11_changes_115 ?_
    refine zq_iconst (v := (nI 4)) rfl dX11_changes_116 ?_
    refine zq_idiv (by decide) dX11_changes_117 ?_
    refine zq_icmp_ge (tgt := 161) dX11_changes_118 rfl ⟨fun c4 => ?_, fun c4 => ?_⟩
    · have H := H.1 c4
      exact zq_sub (ls' := [(0, .ref 53), (1, .int i1), (2, .int i2)]) [0, 1, 2] rfl H
    · have H := H.2 c4
      refine zq_aload_n (k := 0) (i := 0) (x := 53) 0 rfl rfl dX11_changes_121 ?_
      refine zq_getP fl_RX11_11 rfl (sh_53 hw) (rf_53_0 hw) dX11_changes_122 ?_
      refine zq_iconst (v := (nI 0)) rfl dX11_changes_125 ?_
      refine zq_aload_n (k := 0) (i := 0) (x := 53) 0 rfl rfl dX11_changes_126 ?_
      refine zq_getP fl_RX11_11 rfl (sh_53 hw) (rf_53_0 hw) dX11_changes_127 ?_
      refine zq_iconst (v := (nI 0)) rfl dX11_changes_130 ?_
      obtain ⟨b5, H⟩ := H
      refine zq_iald (sh_54 hw) b5 dX11_changes_131 ?_
      refine zq_iconst (v := (nI 2)) rfl dX11_changes_132 ?_
      refine zq_idiv (by decide) dX11_changes_133 ?_
      refine zq_iconst (v := (nI 1)) rfl dX11_changes_134 ?_
      refine zq_isub dX11_changes_135 ?_
      obtain ⟨b6, H⟩ := H
      refine zq_iast (sh_54 hw) b6 dX11_changes_136 (fun h7 eh7 => ?_)
      have H := H h7 eh7
      have wh7 := wf_I eh7 hw
      refine zq_aload_n (k := 0) (i := 0) (x := 53) 0 rfl rfl dX11_changes_137 ?_
      refine zq_getP fl_RX11_11 rfl (sh_53 wh7) (rf_53_0 wh7) dX11_changes_138 ?_
      refine zq_iconst (v := (nI 0)) rfl dX11_changes_141 ?_
      obtain ⟨b8, H⟩ := H
      refine zq_iald (sh_54 wh7) b8 dX11_changes_142 ?_
      refine zq_iconst (v := (nI 1)) rfl dX11_changes_143 ?_
      refine zq_icmp_ge (tgt := 154) dX11_changes_144 rfl ⟨fun c9 => ?_, fun c9 => ?_⟩
      · have H := H.1 c9
        exact zq_sub (ls' := [(0, .ref 53)]) [0] rfl H
      · have H := H.2 c9
        refine zq_aload_n (k := 0) (i := 0) (x := 53) 0 rfl rfl dX11_changes_147 ?_
        refine zq_getP fl_RX11_11 rfl (sh_53 wh7) (rf_53_0 wh7) dX11_changes_148 ?_
        refine zq_iconst (v := (nI 0)) rfl dX11_changes_151 ?_
        refine zq_iconst (v := (nI 1)) rfl dX11_changes_152 ?_
        obtain ⟨b10, H⟩ := H
        refine zq_iast (sh_54 wh7) b10 dX11_changes_153 (fun h11 eh11 => ?_)
        have H := H h11 eh11
        have wh11 := wf_I eh11 wh7
        exact zq_sub (ls' := [(0, .ref 53)]) [0] rfl H
set_option maxHeartbeats 2000000 in
set_option maxRecDepth 20000 in
theorem r_X11_changes_154 {d : Nat} {h : AH} {Q : Option Value → AH → Prop}  (hw : zWF h)  (H : zK d m_X11_rebases [.ref 53] h (kV fun h1 => zQ none m_X11_changes (d + 1) 189 [] [] h1 Q)) : zQ none m_X11_changes (d + 1) 154 [(0, .ref 53)] [] h Q := by
  refine zq_aload_n (k := 0) (i := 0) (x := 53) 0 rfl rfl dX11_changes_154 ?_
  refine zq_invV (as := []) (st := []) (o := 53) (c := 10) (by decide) rfl (sh_53 hw) in_X11_rebases se_X11_rebases mo_X11_rebases ml_RX11_96 rfl (Nat.le_of_ble_eq_true rfl) dX11_changes_155 rfl H (fun r1 h1 hq => ?_)
  obtain ⟨rfl, wh1, H⟩ := hq
  show zQ none m_X11_changes (d + 1) 158 [(0, .ref 53)] ([]) h1 Q
  refine zq_goto (tgt := 189) dX11_changes_158 rfl ?_
  exact zq_sub (ls' := []) [] rfl H
set_option maxHeartbeats 2000000 in
set_option maxRecDepth 20000 in
theorem r_X11_changes_161 {d : Nat} {h : AH} {Q : Option Value → AH → Prop} (i1 : Int32) (i2 : Int32) (hw : zWF h)  (H : (i2 ≤ i1 → zK d m_X11_looksAt [.ref 53, .int i2] h (kV fun h2 => (i2 ≤ i1 → zK d m_X11_looksAt [.ref 53, .int i1] h2 (kV fun h4 => zQ none m_X11_changes (d + 1) 189 [] [] h4 Q)) ∧ (¬ i2 ≤ i1 → zK d m_X11_looksAt [.ref 53, .int i2] h2 (kV fun h5 => zQ none m_X11_changes (d + 1) 189 [] [] h5 Q)))) ∧ (¬ i2 ≤ i1 → zK d m_X11_looksAt [.ref 53, .int i1] h (kV fun h6 => (i2 ≤ i1 → zK d m_X11_looksAt [.ref 53, .int i1] h6 (kV fun h8 => zQ none m_X11_changes (d + 1) 189 [] [] h8 Q)) ∧ (¬ i2 ≤ i1 → zK d m_X11_looksAt [.ref 53, .int i2] h6 (kV fun h9 => zQ none m_X11_changes (d + 1) 189 [] [] h9 Q))))) : zQ none m_X11_changes (d + 1) 161 [(0, .ref 53), (1, .int i1), (2, .int i2)] [] h Q := by
  refine zq_aload_n (k := 0) (i := 0) (x := 53) 0 rfl rfl dX11_changes_161 ?_
  refine zq_iload_n (k := 1) (i := 1) (x := i1) 1 rfl rfl dX11_changes_162 ?_
  refine zq_iload_n (k := 2) (i := 2) (x := i2) 2 rfl rfl dX11_changes_163 ?_
  refine zq_icmp_ge (tgt := 171) dX11_changes_164 rfl ⟨fun c1 => ?_, fun c1 => ?_⟩
  · have H := H.1 c1
    refine zq_iload_n (k := 2) (i := 2) (x := i2) 2 rfl rfl dX11_changes_171 ?_
    refine zq_invV (as := [.int i2]) (st := []) (o := 53) (c := 10) (by decide) rfl (sh_53 hw) in_X11_looksAt se_X11_looksAt mo_X11_looksAt ml_RX11_99 rfl (Nat.le_of_ble_eq_true rfl) dX11_changes_172 rfl H (fun r1 h2 hq => ?_)
    obtain ⟨rfl, wh2, H⟩ := hq
    show zQ none m_X11_changes (d + 1) 175 [(0, .ref 53), (1, .int i1), (2, .int i2)] ([]) h2 Q
    refine zq_aload_n (k := 0) (i := 0) (x := 53) 0 rfl rfl dX11_changes_175 ?_
    refine zq_iload_n (k := 1) (i := 1) (x := i1) 1 rfl rfl dX11_changes_176 ?_
    refine zq_iload_n (k := 2) (i := 2) (x := i2) 2 rfl rfl dX11_changes_177 ?_
    refine zq_icmp_ge (tgt := 185) dX11_changes_178 rfl ⟨fun c3 => ?_, fun c3 => ?_⟩
    · have H := H.1 c3
      refine zq_iload_n (k := 1) (i := 1) (x := i1) 1 rfl rfl dX11_changes_185 ?_
      refine zq_invV (as := [.int i1]) (st := []) (o := 53) (c := 10) (by decide) rfl (sh_53 wh2) in_X11_looksAt se_X11_looksAt mo_X11_looksAt ml_RX11_99 rfl (Nat.le_of_ble_eq_true rfl) dX11_changes_186 rfl H (fun r1 h4 hq => ?_)
      obtain ⟨rfl, wh4, H⟩ := hq
      show zQ none m_X11_changes (d + 1) 189 [(0, .ref 53), (1, .int i1), (2, .int i2)] ([]) h4 Q
      exact zq_sub (ls' := []) [] rfl H
    · have H := H.2 c3
      refine zq_iload_n (k := 2) (i := 2) (x := i2) 2 rfl rfl dX11_changes_181 ?_
      refine zq_goto (tgt := 186) dX11_changes_182 rfl ?_
      refine zq_invV (as := [.int i2]) (st := []) (o := 53) (c := 10) (by decide) rfl (sh_53 wh2) in_X11_looksAt se_X11_looksAt mo_X11_looksAt ml_RX11_99 rfl (Nat.le_of_ble_eq_true rfl) dX11_changes_186 rfl H (fun r1 h5 hq => ?_)
      obtain ⟨rfl, wh5, H⟩ := hq
      show zQ none m_X11_changes (d + 1) 189 [(0, .ref 53), (1, .int i1), (2, .int i2)] ([]) h5 Q
      exact zq_sub (ls' := []) [] rfl H
  · have H := H.2 c1
    refine zq_iload_n (k := 1) (i := 1) (x := i1) 1 rfl rfl dX11_changes_167 ?_
    refine zq_goto (tgt := 172) dX11_changes_168 rfl ?_
    refine zq_invV (as := [.int i1]) (st := []) (o := 53) (c := 10) (by decide) rfl (sh_53 hw) in_X11_looksAt se_X11_looksAt mo_X11_looksAt ml_RX11_99 rfl (Nat.le_of_ble_eq_true rfl) dX11_changes_172 rfl H (fun r1 h6 hq => ?_)
    obtain ⟨rfl, wh6, H⟩ := hq
    show zQ none m_X11_changes (d + 1) 175 [(0, .ref 53), (1, .int i1), (2, .int i2)] ([]) h6 Q
    refine zq_aload_n (k := 0) (i := 0) (x := 53) 0 rfl rfl dX11_changes_175 ?_
    refine zq_iload_n (k := 1) (i := 1) (x := i1) 1 rfl rfl dX11_changes_176 ?_
    refine zq_iload_n (k := 2) (i := 2) (x := i2) 2 rfl rfl dX11_changes_177 ?_
    refine zq_icmp_ge (tgt := 185) dX11_changes_178 rfl ⟨fun c7 => ?_, fun c7 => ?_⟩
    · have H := H.1 c7
      refine zq_iload_n (k := 1) (i := 1) (x := i1) 1 rfl rfl dX11_changes_185 ?_
      refine zq_invV (as := [.int i1]) (st := []) (o := 53) (c := 10) (by decide) rfl (sh_53 wh6) in_X11_looksAt se_X11_looksAt mo_X11_looksAt ml_RX11_99 rfl (Nat.le_of_ble_eq_true rfl) dX11_changes_186 rfl H (fun r1 h8 hq => ?_)
      obtain ⟨rfl, wh8, H⟩ := hq
      show zQ none m_X11_changes (d + 1) 189 [(0, .ref 53), (1, .int i1), (2, .int i2)] ([]) h8 Q
      exact zq_sub (ls' := []) [] rfl H
    · have H := H.2 c7
      refine zq_iload_n (k := 2) (i := 2) (x := i2) 2 rfl rfl dX11_changes_181 ?_
      refine zq_goto (tgt := 186) dX11_changes_182 rfl ?_
      refine zq_invV (as := [.int i2]) (st := []) (o := 53) (c := 10) (by decide) rfl (sh_53 wh6) in_X11_looksAt se_X11_looksAt mo_X11_looksAt ml_RX11_99 rfl (Nat.le_of_ble_eq_true rfl) dX11_changes_186 rfl H (fun r1 h9 hq => ?_)
      obtain ⟨rfl, wh9, H⟩ := hq
      show zQ none m_X11_changes (d + 1) 189 [(0, .ref 53), (1, .int i1), (2, .int i2)] ([]) h9 Q
      exact zq_sub (ls' := []) [] rfl H
set_option maxHeartbeats 2000000 in
set_option maxRecDepth 20000 in
theorem r_X11_changes_189 {d : Nat} {h : AH} {Q : Option Value → AH → Prop}  (hw : zWF h)  (H : Q none h) : zQ none m_X11_changes (d + 1) 189 [] [] h Q := by
  exact zq_vret dX11_changes_189 rfl H
set_option maxHeartbeats 2000000 in
set_option maxRecDepth 20000 in
theorem r_X11_logs_0 {d : Nat} {h : AH} {Q : Option Value → AH → Prop} (i1 : Int32) (i2 : Int32) (i3 : Int32) (i4 : Int32) (hw : zWF h)  (H : vp_in (nI 6) 187 ∧ (((h.I 54 (nI 6).toNatClampNeg) ≠ (nI 60) → vp_in (nI 6) 187 ∧ (zK d m_X11_edge [.int i1, .int i2] h (pI h fun x4 => vp_in ((nI 7) + ((nI 3) * (h.I 54 (nI 6).toNatClampNeg))) 187 ∧ (∀ h6, h6 = h.sI 54 ((nI 7) + ((nI 3) * (h.I 54 (nI 6).toNatClampNeg))).toNatClampNeg x4 → vp_in (((nI 7) + ((nI 3) * (h.I 54 (nI 6).toNatClampNeg))) + (nI 1)) 187 ∧ (∀ h8, h8 = h6.sI 54 (((nI 7) + ((nI 3) * (h.I 54 (nI 6).toNatClampNeg))) + (nI 1)).toNatClampNeg i4 → (i3 = 0 → vp_in (((nI 7) + ((nI 3) * (h.I 54 (nI 6).toNatClampNeg))) + (nI 2)) 187 ∧ (∀ h11, h11 = h8.sI 54 (((nI 7) + ((nI 3) * (h.I 54 (nI 6).toNatClampNeg))) + (nI 2)).toNatClampNeg (nI 0) → vp_in (nI 6) 187 ∧ (vp_in (nI 6) 187 ∧ (∀ h14, h14 = h11.sI 54 (nI 6).toNatClampNeg ((h11.I 54 (nI 6).toNatClampNeg) + (nI 1)) → Q none h14)))) ∧ (¬ i3 = 0 → vp_in (((nI 7) + ((nI 3) * (h.I 54 (nI 6).toNatClampNeg))) + (nI 2)) 187 ∧ (∀ h16, h16 = h8.sI 54 (((nI 7) + ((nI 3) * (h.I 54 (nI 6).toNatClampNeg))) + (nI 2)).toNatClampNeg (nI 1) → vp_in (nI 6) 187 ∧ (vp_in (nI 6) 187 ∧ (∀ h19, h19 = h16.sI 54 (nI 6).toNatClampNeg ((h16.I 54 (nI 6).toNatClampNeg) + (nI 1)) → Q none h19))))))))) ∧ ((h.I 54 (nI 6).toNatClampNeg) = (nI 60) → zQ none m_X11_logs (d + 1) 15 [(0, .ref 53), (1, .int i1), (2, .int i2), (3, .int i3), (4, .int i4), (5, .int (nI 3))] [] h Q))) : zK (d + 1) m_X11_logs [.ref 53, .int i1, .int i2, .int i3, .int i4] h Q := by
  refine zK_of mo_X11_logs (Nat.le_of_ble_eq_true rfl) ?_
  show zQ none m_X11_logs (d + 1) 0 [(0, .ref 53), (1, .int i1), (2, .int i2), (3, .int i3), (4, .int i4)] [] h Q
  refine zq_aload_n (k := 0) (i := 0) (x := 53) 0 rfl rfl dX11_logs_0 ?_
  refine zq_getP fl_RX11_11 rfl (sh_53 hw) (rf_53_0 hw) dX11_logs_1 ?_
  refine zq_bipush (v := (nI 6)) rfl dX11_logs_4 ?_
  obtain ⟨b1, H⟩ := H
  refine zq_iald (sh_54 hw) b1 dX11_logs_6 ?_
  refine zq_bipush (v := (nI 60)) rfl dX11_logs_7 ?_
  refine zq_icmp_ne (tgt := 62) dX11_logs_9 rfl ⟨fun c2 => ?_, fun c2 => ?_⟩
  · have H := H.1 c2
    refine zq_bipush (v := (nI 7)) rfl dX11_logs_62 ?_
    refine zq_iconst (v := (nI 3)) rfl dX11_logs_64 ?_
    refine zq_aload_n (k := 0) (i := 0) (x := 53) 0 rfl rfl dX11_logs_65 ?_
    refine zq_getP fl_RX11_11 rfl (sh_53 hw) (rf_53_0 hw) dX11_logs_66 ?_
    refine zq_bipush (v := (nI 6)) rfl dX11_logs_69 ?_
    obtain ⟨b3, H⟩ := H
    refine zq_iald (sh_54 hw) b3 dX11_logs_71 ?_
    refine zq_imul dX11_logs_72 ?_
    refine zq_iadd dX11_logs_73 ?_
    refine zq_istore (ls' := [(5, .int ((nI 7) + ((nI 3) * (h.I 54 (nI 6).toNatClampNeg)))), (0, .ref 53), (1, .int i1), (2, .int i2), (3, .int i3), (4, .int i4)]) (i := 5) (Nat.le_of_ble_eq_true rfl) rfl dX11_logs_74 ?_
    refine zq_aload_n (k := 0) (i := 0) (x := 53) 1 rfl rfl dX11_logs_76 ?_
    refine zq_getP fl_RX11_11 rfl (sh_53 hw) (rf_53_0 hw) dX11_logs_77 ?_
    refine zq_iload (i := 5) (x := ((nI 7) + ((nI 3) * (h.I 54 (nI 6).toNatClampNeg)))) 0 rfl dX11_logs_80 ?_
    refine zq_iload_n (k := 1) (i := 1) (x := i1) 2 rfl rfl dX11_logs_82 ?_
    refine zq_iload_n (k := 2) (i := 2) (x := i2) 3 rfl rfl dX11_logs_83 ?_
    refine zq_invS (as := [.int i1, .int i2]) (st := .int ((nI 7) + ((nI 3) * (h.I 54 (nI 6).toNatClampNeg))) :: .ref 54 :: []) st_X11_edge mo_X11_edge ml_RX11_92 rfl (Nat.le_of_ble_eq_true rfl) dX11_logs_84 rfl H (fun r1 h1 hq => ?_)
    obtain ⟨x4, rfl, rfl, H⟩ := hq
    show zQ none m_X11_logs (d + 1) 87 [(5, .int ((nI 7) + ((nI 3) * (h.I 54 (nI 6).toNatClampNeg)))), (0, .ref 53), (1, .int i1), (2, .int i2), (3, .int i3), (4, .int i4)] (.int x4 :: .int ((nI 7) + ((nI 3) * (h.I 54 (nI 6).toNatClampNeg))) :: .ref 54 :: []) h Q
    obtain ⟨b5, H⟩ := H
    refine zq_iast (sh_54 hw) b5 dX11_logs_87 (fun h6 eh6 => ?_)
    have H := H h6 eh6
    have wh6 := wf_I eh6 hw
    refine zq_aload_n (k := 0) (i := 0) (x := 53) 1 rfl rfl dX11_logs_88 ?_
    refine zq_getP fl_RX11_11 rfl (sh_53 wh6) (rf_53_0 wh6) dX11_logs_89 ?_
    refine zq_iload (i := 5) (x := ((nI 7) + ((nI 3) * (h.I 54 (nI 6).toNatClampNeg)))) 0 rfl dX11_logs_92 ?_
    refine zq_iconst (v := (nI 1)) rfl dX11_logs_94 ?_
    refine zq_iadd dX11_logs_95 ?_
    refine zq_iload (i := 4) (x := i4) 5 rfl dX11_logs_96 ?_
    obtain ⟨b7, H⟩ := H
    refine zq_iast (sh_54 wh6) b7 dX11_logs_98 (fun h8 eh8 => ?_)
    have H := H h8 eh8
    have wh8 := wf_I eh8 wh6
    refine zq_aload_n (k := 0) (i := 0) (x := 53) 1 rfl rfl dX11_logs_99 ?_
    refine zq_getP fl_RX11_11 rfl (sh_53 wh8) (rf_53_0 wh8) dX11_logs_100 ?_
    refine zq_iload (i := 5) (x := ((nI 7) + ((nI 3) * (h.I 54 (nI 6).toNatClampNeg)))) 0 rfl dX11_logs_103 ?_
    refine zq_iconst (v := (nI 2)) rfl dX11_logs_105 ?_
    refine zq_iadd dX11_logs_106 ?_
    refine zq_iload_n (k := 3) (i := 3) (x := i3) 4 rfl rfl dX11_logs_107 ?_
    refine zq_if_eq (tgt := 115) dX11_logs_108 rfl ⟨fun c9 => ?_, fun c9 => ?_⟩
    · have H := H.1 c9
      refine zq_iconst (v := (nI 0)) rfl dX11_logs_115 ?_
      obtain ⟨b10, H⟩ := H
      refine zq_iast (sh_54 wh8) b10 dX11_logs_116 (fun h11 eh11 => ?_)
      have H := H h11 eh11
      have wh11 := wf_I eh11 wh8
      refine zq_aload_n (k := 0) (i := 0) (x := 53) 1 rfl rfl dX11_logs_117 ?_
      refine zq_getP fl_RX11_11 rfl (sh_53 wh11) (rf_53_0 wh11) dX11_logs_118 ?_
      refine zq_bipush (v := (nI 6)) rfl dX11_logs_121 ?_
      refine zq_dup2 rfl rfl dX11_logs_123 ?_
      obtain ⟨b12, H⟩ := H
      refine zq_iald (sh_54 wh11) b12 dX11_logs_124 ?_
      refine zq_iconst (v := (nI 1)) rfl dX11_logs_125 ?_
      refine zq_iadd dX11_logs_126 ?_
      obtain ⟨b13, H⟩ := H
      refine zq_iast (sh_54 wh11) b13 dX11_logs_127 (fun h14 eh14 => ?_)
      have H := H h14 eh14
      have wh14 := wf_I eh14 wh11
      exact zq_vret dX11_logs_128 rfl H
    · have H := H.2 c9
      refine zq_iconst (v := (nI 1)) rfl dX11_logs_111 ?_
      refine zq_goto (tgt := 116) dX11_logs_112 rfl ?_
      obtain ⟨b15, H⟩ := H
      refine zq_iast (sh_54 wh8) b15 dX11_logs_116 (fun h16 eh16 => ?_)
      have H := H h16 eh16
      have wh16 := wf_I eh16 wh8
      refine zq_aload_n (k := 0) (i := 0) (x := 53) 1 rfl rfl dX11_logs_117 ?_
      refine zq_getP fl_RX11_11 rfl (sh_53 wh16) (rf_53_0 wh16) dX11_logs_118 ?_
      refine zq_bipush (v := (nI 6)) rfl dX11_logs_121 ?_
      refine zq_dup2 rfl rfl dX11_logs_123 ?_
      obtain ⟨b17, H⟩ := H
      refine zq_iald (sh_54 wh16) b17 dX11_logs_124 ?_
      refine zq_iconst (v := (nI 1)) rfl dX11_logs_125 ?_
      refine zq_iadd dX11_logs_126 ?_
      obtain ⟨b18, H⟩ := H
      refine zq_iast (sh_54 wh16) b18 dX11_logs_127 (fun h19 eh19 => ?_)
      have H := H h19 eh19
      have wh19 := wf_I eh19 wh16
      exact zq_vret dX11_logs_128 rfl H
  · have H := H.2 c2
    refine zq_iconst (v := (nI 3)) rfl dX11_logs_12 ?_
    refine zq_istore (ls' := [(5, .int (nI 3)), (0, .ref 53), (1, .int i1), (2, .int i2), (3, .int i3), (4, .int i4)]) (i := 5) (Nat.le_of_ble_eq_true rfl) rfl dX11_logs_13 ?_
    exact zq_sub (ls' := [(0, .ref 53), (1, .int i1), (2, .int i2), (3, .int i3), (4, .int i4), (5, .int (nI 3))]) [1, 2, 3, 4, 5, 0] rfl H
set_option maxHeartbeats 2000000 in
set_option maxRecDepth 20000 in
theorem r_X11_logs_15 {d : Nat} {h : AH} {Q : Option Value → AH → Prop} (i1 : Int32) (i2 : Int32) (i3 : Int32) (i4 : Int32) (i5 : Int32) (hw : zWF h)  (H : ((nI 180) ≤ i5 → vp_in (nI 6) 187 ∧ (vp_in (nI 6) 187 ∧ (∀ h4, h4 = h.sI 54 (nI 6).toNatClampNeg ((h.I 54 (nI 6).toNatClampNeg) - (nI 1)) → vp_in (nI 6) 187 ∧ (zK d m_X11_edge [.int i1, .int i2] h4 (pI h4 fun x6 => vp_in ((nI 7) + ((nI 3) * (h4.I 54 (nI 6).toNatClampNeg))) 187 ∧ (∀ h8, h8 = h4.sI 54 ((nI 7) + ((nI 3) * (h4.I 54 (nI 6).toNatClampNeg))).toNatClampNeg x6 → vp_in (((nI 7) + ((nI 3) * (h4.I 54 (nI 6).toNatClampNeg))) + (nI 1)) 187 ∧ (∀ h10, h10 = h8.sI 54 (((nI 7) + ((nI 3) * (h4.I 54 (nI 6).toNatClampNeg))) + (nI 1)).toNatClampNeg i4 → (i3 = 0 → vp_in (((nI 7) + ((nI 3) * (h4.I 54 (nI 6).toNatClampNeg))) + (nI 2)) 187 ∧ (∀ h13, h13 = h10.sI 54 (((nI 7) + ((nI 3) * (h4.I 54 (nI 6).toNatClampNeg))) + (nI 2)).toNatClampNeg (nI 0) → vp_in (nI 6) 187 ∧ (vp_in (nI 6) 187 ∧ (∀ h16, h16 = h13.sI 54 (nI 6).toNatClampNeg ((h13.I 54 (nI 6).toNatClampNeg) + (nI 1)) → Q none h16)))) ∧ (¬ i3 = 0 → vp_in (((nI 7) + ((nI 3) * (h4.I 54 (nI 6).toNatClampNeg))) + (nI 2)) 187 ∧ (∀ h18, h18 = h10.sI 54 (((nI 7) + ((nI 3) * (h4.I 54 (nI 6).toNatClampNeg))) + (nI 2)).toNatClampNeg (nI 1) → vp_in (nI 6) 187 ∧ (vp_in (nI 6) 187 ∧ (∀ h21, h21 = h18.sI 54 (nI 6).toNatClampNeg ((h18.I 54 (nI 6).toNatClampNeg) + (nI 1)) → Q none h21))))))))))) ∧ (¬ (nI 180) ≤ i5 → vp_in ((nI 7) + i5) 187 ∧ (vp_in (((nI 7) + i5) - (nI 3)) 187 ∧ (∀ h24, h24 = h.sI 54 (((nI 7) + i5) - (nI 3)).toNatClampNeg (h.I 54 ((nI 7) + i5).toNatClampNeg) → zQ none m_X11_logs (d + 1) 15 [(0, .ref 53), (1, .int i1), (2, .int i2), (3, .int i3), (4, .int i4), (5, .int (i5 + (nI 1)))] [] h24 Q)))) : zQ none m_X11_logs (d + 1) 15 [(0, .ref 53), (1, .int i1), (2, .int i2), (3, .int i3), (4, .int i4), (5, .int i5)] [] h Q := by
  refine zq_iload (i := 5) (x := i5) 5 rfl dX11_logs_15 ?_
  refine zq_sipush (v := (nI 180)) rfl dX11_logs_17 ?_
  refine zq_icmp_ge (tgt := 51) dX11_logs_20 rfl ⟨fun c1 => ?_, fun c1 => ?_⟩
  · have H := H.1 c1
    refine zq_aload_n (k := 0) (i := 0) (x := 53) 0 rfl rfl dX11_logs_51 ?_
    refine zq_getP fl_RX11_11 rfl (sh_53 hw) (rf_53_0 hw) dX11_logs_52 ?_
    refine zq_bipush (v := (nI 6)) rfl dX11_logs_55 ?_
    refine zq_dup2 rfl rfl dX11_logs_57 ?_
    obtain ⟨b2, H⟩ := H
    refine zq_iald (sh_54 hw) b2 dX11_logs_58 ?_
    refine zq_iconst (v := (nI 1)) rfl dX11_logs_59 ?_
    refine zq_isub dX11_logs_60 ?_
    obtain ⟨b3, H⟩ := H
    refine zq_iast (sh_54 hw) b3 dX11_logs_61 (fun h4 eh4 => ?_)
    have H := H h4 eh4
    have wh4 := wf_I eh4 hw
    refine zq_bipush (v := (nI 7)) rfl dX11_logs_62 ?_
    refine zq_iconst (v := (nI 3)) rfl dX11_logs_64 ?_
    refine zq_aload_n (k := 0) (i := 0) (x := 53) 0 rfl rfl dX11_logs_65 ?_
    refine zq_getP fl_RX11_11 rfl (sh_53 wh4) (rf_53_0 wh4) dX11_logs_66 ?_
    refine zq_bipush (v := (nI 6)) rfl dX11_logs_69 ?_
    obtain ⟨b5, H⟩ := H
    refine zq_iald (sh_54 wh4) b5 dX11_logs_71 ?_
    refine zq_imul dX11_logs_72 ?_
    refine zq_iadd dX11_logs_73 ?_
    refine zq_istore (ls' := [(5, .int ((nI 7) + ((nI 3) * (h4.I 54 (nI 6).toNatClampNeg)))), (0, .ref 53), (1, .int i1), (2, .int i2), (3, .int i3), (4, .int i4)]) (i := 5) (Nat.le_of_ble_eq_true rfl) rfl dX11_logs_74 ?_
    refine zq_aload_n (k := 0) (i := 0) (x := 53) 1 rfl rfl dX11_logs_76 ?_
    refine zq_getP fl_RX11_11 rfl (sh_53 wh4) (rf_53_0 wh4) dX11_logs_77 ?_
    refine zq_iload (i := 5) (x := ((nI 7) + ((nI 3) * (h4.I 54 (nI 6).toNatClampNeg)))) 0 rfl dX11_logs_80 ?_
    refine zq_iload_n (k := 1) (i := 1) (x := i1) 2 rfl rfl dX11_logs_82 ?_
    refine zq_iload_n (k := 2) (i := 2) (x := i2) 3 rfl rfl dX11_logs_83 ?_
    refine zq_invS (as := [.int i1, .int i2]) (st := .int ((nI 7) + ((nI 3) * (h4.I 54 (nI 6).toNatClampNeg))) :: .ref 54 :: []) st_X11_edge mo_X11_edge ml_RX11_92 rfl (Nat.le_of_ble_eq_true rfl) dX11_logs_84 rfl H (fun r1 h1 hq => ?_)
    obtain ⟨x6, rfl, rfl, H⟩ := hq
    show zQ none m_X11_logs (d + 1) 87 [(5, .int ((nI 7) + ((nI 3) * (h4.I 54 (nI 6).toNatClampNeg)))), (0, .ref 53), (1, .int i1), (2, .int i2), (3, .int i3), (4, .int i4)] (.int x6 :: .int ((nI 7) + ((nI 3) * (h4.I 54 (nI 6).toNatClampNeg))) :: .ref 54 :: []) h4 Q
    obtain ⟨b7, H⟩ := H
    refine zq_iast (sh_54 wh4) b7 dX11_logs_87 (fun h8 eh8 => ?_)
    have H := H h8 eh8
    have wh8 := wf_I eh8 wh4
    refine zq_aload_n (k := 0) (i := 0) (x := 53) 1 rfl rfl dX11_logs_88 ?_
    refine zq_getP fl_RX11_11 rfl (sh_53 wh8) (rf_53_0 wh8) dX11_logs_89 ?_
    refine zq_iload (i := 5) (x := ((nI 7) + ((nI 3) * (h4.I 54 (nI 6).toNatClampNeg)))) 0 rfl dX11_logs_92 ?_
    refine zq_iconst (v := (nI 1)) rfl dX11_logs_94 ?_
    refine zq_iadd dX11_logs_95 ?_
    refine zq_iload (i := 4) (x := i4) 5 rfl dX11_logs_96 ?_
    obtain ⟨b9, H⟩ := H
    refine zq_iast (sh_54 wh8) b9 dX11_logs_98 (fun h10 eh10 => ?_)
    have H := H h10 eh10
    have wh10 := wf_I eh10 wh8
    refine zq_aload_n (k := 0) (i := 0) (x := 53) 1 rfl rfl dX11_logs_99 ?_
    refine zq_getP fl_RX11_11 rfl (sh_53 wh10) (rf_53_0 wh10) dX11_logs_100 ?_
    refine zq_iload (i := 5) (x := ((nI 7) + ((nI 3) * (h4.I 54 (nI 6).toNatClampNeg)))) 0 rfl dX11_logs_103 ?_
    refine zq_iconst (v := (nI 2)) rfl dX11_logs_105 ?_
    refine zq_iadd dX11_logs_106 ?_
    refine zq_iload_n (k := 3) (i := 3) (x := i3) 4 rfl rfl dX11_logs_107 ?_
    refine zq_if_eq (tgt := 115) dX11_logs_108 rfl ⟨fun c11 => ?_, fun c11 => ?_⟩
    · have H := H.1 c11
      refine zq_iconst (v := (nI 0)) rfl dX11_logs_115 ?_
      obtain ⟨b12, H⟩ := H
      refine zq_iast (sh_54 wh10) b12 dX11_logs_116 (fun h13 eh13 => ?_)
      have H := H h13 eh13
      have wh13 := wf_I eh13 wh10
      refine zq_aload_n (k := 0) (i := 0) (x := 53) 1 rfl rfl dX11_logs_117 ?_
      refine zq_getP fl_RX11_11 rfl (sh_53 wh13) (rf_53_0 wh13) dX11_logs_118 ?_
      refine zq_bipush (v := (nI 6)) rfl dX11_logs_121 ?_
      refine zq_dup2 rfl rfl dX11_logs_123 ?_
      obtain ⟨b14, H⟩ := H
      refine zq_iald (sh_54 wh13) b14 dX11_logs_124 ?_
      refine zq_iconst (v := (nI 1)) rfl dX11_logs_125 ?_
      refine zq_iadd dX11_logs_126 ?_
      obtain ⟨b15, H⟩ := H
      refine zq_iast (sh_54 wh13) b15 dX11_logs_127 (fun h16 eh16 => ?_)
      have H := H h16 eh16
      have wh16 := wf_I eh16 wh13
      exact zq_vret dX11_logs_128 rfl H
    · have H := H.2 c11
      refine zq_iconst (v := (nI 1)) rfl dX11_logs_111 ?_
      refine zq_goto (tgt := 116) dX11_logs_112 rfl ?_
      obtain ⟨b17, H⟩ := H
      refine zq_iast (sh_54 wh10) b17 dX11_logs_116 (fun h18 eh18 => ?_)
      have H := H h18 eh18
      have wh18 := wf_I eh18 wh10
      refine zq_aload_n (k := 0) (i := 0) (x := 53) 1 rfl rfl dX11_logs_117 ?_
      refine zq_getP fl_RX11_11 rfl (sh_53 wh18) (rf_53_0 wh18) dX11_logs_118 ?_
      refine zq_bipush (v := (nI 6)) rfl dX11_logs_121 ?_
      refine zq_dup2 rfl rfl dX11_logs_123 ?_
      obtain ⟨b19, H⟩ := H
      refine zq_iald (sh_54 wh18) b19 dX11_logs_124 ?_
      refine zq_iconst (v := (nI 1)) rfl dX11_logs_125 ?_
      refine zq_iadd dX11_logs_126 ?_
      obtain ⟨b20, H⟩ := H
      refine zq_iast (sh_54 wh18) b20 dX11_logs_127 (fun h21 eh21 => ?_)
      have H := H h21 eh21
      have wh21 := wf_I eh21 wh18
      exact zq_vret dX11_logs_128 rfl H
  · have H := H.2 c1
    refine zq_aload_n (k := 0) (i := 0) (x := 53) 0 rfl rfl dX11_logs_23 ?_
    refine zq_getP fl_RX11_11 rfl (sh_53 hw) (rf_53_0 hw) dX11_logs_24 ?_
    refine zq_bipush (v := (nI 7)) rfl dX11_logs_27 ?_
    refine zq_iload (i := 5) (x := i5) 5 rfl dX11_logs_29 ?_
    refine zq_iadd dX11_logs_31 ?_
    refine zq_iconst (v := (nI 3)) rfl dX11_logs_32 ?_
    refine zq_isub dX11_logs_33 ?_
    refine zq_aload_n (k := 0) (i := 0) (x := 53) 0 rfl rfl dX11_logs_34 ?_
    refine zq_getP fl_RX11_11 rfl (sh_53 hw) (rf_53_0 hw) dX11_logs_35 ?_
    refine zq_bipush (v := (nI 7)) rfl dX11_logs_38 ?_
    refine zq_iload (i := 5) (x := i5) 5 rfl dX11_logs_40 ?_
    refine zq_iadd dX11_logs_42 ?_
    obtain ⟨b22, H⟩ := H
    refine zq_iald (sh_54 hw) b22 dX11_logs_43 ?_
    obtain ⟨b23, H⟩ := H
    refine zq_iast (sh_54 hw) b23 dX11_logs_44 (fun h24 eh24 => ?_)
    have H := H h24 eh24
    have wh24 := wf_I eh24 hw
    refine zq_iinc (i := 5) (x := i5) (v := (nI 1)) (ls' := [(5, .int (i5 + (nI 1))), (0, .ref 53), (1, .int i1), (2, .int i2), (3, .int i3), (4, .int i4)]) 5 rfl rfl (Nat.le_of_ble_eq_true rfl) rfl dX11_logs_45 ?_
    refine zq_goto (tgt := 15) dX11_logs_48 rfl ?_
    exact zq_sub (ls' := [(0, .ref 53), (1, .int i1), (2, .int i2), (3, .int i3), (4, .int i4), (5, .int (i5 + (nI 1)))]) [1, 2, 3, 4, 5, 0] rfl H
set_option maxHeartbeats 2000000 in
set_option maxRecDepth 20000 in
theorem r_X11_comes_0 {d : Nat} {h : AH} {Q : Option Value → AH → Prop} (i1 : Int32) (i2 : Int32) (i3 : Int32) (hw : zWF h)  (H : zK d m_X11_logs [.ref 53, .int i1, .int i2, .int (nI 1), .int i3] h (kV fun h1 => zK d m_X11_changes [.ref 53, .int i1, .int i2, .int (nI 1), .int i3] h1 (kV fun h2 => Q none h2))) : zK (d + 1) m_X11_comes [.ref 53, .int i1, .int i2, .int i3] h Q := by
  refine zK_of mo_X11_comes (Nat.le_of_ble_eq_true rfl) ?_
  show zQ none m_X11_comes (d + 1) 0 [(0, .ref 53), (1, .int i1), (2, .int i2), (3, .int i3)] [] h Q
  refine zq_aload_n (k := 0) (i := 0) (x := 53) 0 rfl rfl dX11_comes_0 ?_
  refine zq_iload_n (k := 1) (i := 1) (x := i1) 1 rfl rfl dX11_comes_1 ?_
  refine zq_iload_n (k := 2) (i := 2) (x := i2) 2 rfl rfl dX11_comes_2 ?_
  refine zq_iconst (v := (nI 1)) rfl dX11_comes_3 ?_
  refine zq_iload_n (k := 3) (i := 3) (x := i3) 3 rfl rfl dX11_comes_4 ?_
  refine zq_invV (as := [.int i1, .int i2, .int (nI 1), .int i3]) (st := []) (o := 53) (c := 10) (by decide) rfl (sh_53 hw) in_X11_logs se_X11_logs mo_X11_logs ml_RX11_103 rfl (Nat.le_of_ble_eq_true rfl) dX11_comes_5 rfl H (fun r1 h1 hq => ?_)
  obtain ⟨rfl, wh1, H⟩ := hq
  show zQ none m_X11_comes (d + 1) 8 [(0, .ref 53), (1, .int i1), (2, .int i2), (3, .int i3)] ([]) h1 Q
  refine zq_aload_n (k := 0) (i := 0) (x := 53) 0 rfl rfl dX11_comes_8 ?_
  refine zq_iload_n (k := 1) (i := 1) (x := i1) 1 rfl rfl dX11_comes_9 ?_
  refine zq_iload_n (k := 2) (i := 2) (x := i2) 2 rfl rfl dX11_comes_10 ?_
  refine zq_iconst (v := (nI 1)) rfl dX11_comes_11 ?_
  refine zq_iload_n (k := 3) (i := 3) (x := i3) 3 rfl rfl dX11_comes_12 ?_
  refine zq_invV (as := [.int i1, .int i2, .int (nI 1), .int i3]) (st := []) (o := 53) (c := 10) (by decide) rfl (sh_53 wh1) in_X11_changes se_X11_changes mo_X11_changes ml_RX11_107 rfl (Nat.le_of_ble_eq_true rfl) dX11_comes_13 rfl H (fun r1 h2 hq => ?_)
  obtain ⟨rfl, wh2, H⟩ := hq
  show zQ none m_X11_comes (d + 1) 16 [(0, .ref 53), (1, .int i1), (2, .int i2), (3, .int i3)] ([]) h2 Q
  exact zq_vret dX11_comes_16 rfl H
set_option maxHeartbeats 2000000 in
set_option maxRecDepth 20000 in
theorem r_X11_goes_0 {d : Nat} {h : AH} {Q : Option Value → AH → Prop} (i1 : Int32) (i2 : Int32) (hw : zWF h)  (H : zK d m_X11_edge [.int i1, .int i2] h (pI h fun x1 => vp_in x1 1600 ∧ (zK d m_X11_logs [.ref 53, .int i1, .int i2, .int (nI 0), .int (h.I 55 x1.toNatClampNeg)] h (kV fun h3 => zK d m_X11_changes [.ref 53, .int i1, .int i2, .int (nI 0), .int (nI 0)] h3 (kV fun h4 => Q none h4))))) : zK (d + 1) m_X11_goes [.ref 53, .int i1, .int i2] h Q := by
  refine zK_of mo_X11_goes (Nat.le_of_ble_eq_true rfl) ?_
  show zQ none m_X11_goes (d + 1) 0 [(0, .ref 53), (1, .int i1), (2, .int i2)] [] h Q
  refine zq_aload_n (k := 0) (i := 0) (x := 53) 0 rfl rfl dX11_goes_0 ?_
  refine zq_iload_n (k := 1) (i := 1) (x := i1) 1 rfl rfl dX11_goes_1 ?_
  refine zq_iload_n (k := 2) (i := 2) (x := i2) 2 rfl rfl dX11_goes_2 ?_
  refine zq_iconst (v := (nI 0)) rfl dX11_goes_3 ?_
  refine zq_aload_n (k := 0) (i := 0) (x := 53) 0 rfl rfl dX11_goes_4 ?_
  refine zq_getP fl_RX11_15 rfl (sh_53 hw) (rf_53_1 hw) dX11_goes_5 ?_
  refine zq_iload_n (k := 1) (i := 1) (x := i1) 1 rfl rfl dX11_goes_8 ?_
  refine zq_iload_n (k := 2) (i := 2) (x := i2) 2 rfl rfl dX11_goes_9 ?_
  refine zq_invS (as := [.int i1, .int i2]) (st := .ref 55 :: .int (nI 0) :: .int i2 :: .int i1 :: .ref 53 :: []) st_X11_edge mo_X11_edge ml_RX11_92 rfl (Nat.le_of_ble_eq_true rfl) dX11_goes_10 rfl H (fun r1 h1 hq => ?_)
  obtain ⟨x1, rfl, rfl, H⟩ := hq
  show zQ none m_X11_goes (d + 1) 13 [(0, .ref 53), (1, .int i1), (2, .int i2)] (.int x1 :: .ref 55 :: .int (nI 0) :: .int i2 :: .int i1 :: .ref 53 :: []) h Q
  obtain ⟨b2, H⟩ := H
  refine zq_iald (sh_55 hw) b2 dX11_goes_13 ?_
  refine zq_invV (as := [.int i1, .int i2, .int (nI 0), .int (h.I 55 x1.toNatClampNeg)]) (st := []) (o := 53) (c := 10) (by decide) rfl (sh_53 hw) in_X11_logs se_X11_logs mo_X11_logs ml_RX11_103 rfl (Nat.le_of_ble_eq_true rfl) dX11_goes_14 rfl H (fun r1 h3 hq => ?_)
  obtain ⟨rfl, wh3, H⟩ := hq
  show zQ none m_X11_goes (d + 1) 17 [(0, .ref 53), (1, .int i1), (2, .int i2)] ([]) h3 Q
  refine zq_aload_n (k := 0) (i := 0) (x := 53) 0 rfl rfl dX11_goes_17 ?_
  refine zq_iload_n (k := 1) (i := 1) (x := i1) 1 rfl rfl dX11_goes_18 ?_
  refine zq_iload_n (k := 2) (i := 2) (x := i2) 2 rfl rfl dX11_goes_19 ?_
  refine zq_iconst (v := (nI 0)) rfl dX11_goes_20 ?_
  refine zq_iconst (v := (nI 0)) rfl dX11_goes_21 ?_
  refine zq_invV (as := [.int i1, .int i2, .int (nI 0), .int (nI 0)]) (st := []) (o := 53) (c := 10) (by decide) rfl (sh_53 wh3) in_X11_changes se_X11_changes mo_X11_changes ml_RX11_107 rfl (Nat.le_of_ble_eq_true rfl) dX11_goes_22 rfl H (fun r1 h4 hq => ?_)
  obtain ⟨rfl, wh4, H⟩ := hq
  show zQ none m_X11_goes (d + 1) 25 [(0, .ref 53), (1, .int i1), (2, .int i2)] ([]) h4 Q
  exact zq_vret dX11_goes_25 rfl H
set_option maxHeartbeats 2000000 in
set_option maxRecDepth 20000 in
theorem r_X11_add_0 {d : Nat} {h : AH} {Q : Option Value → AH → Prop} (i1 : Int32) (i2 : Int32) (i3 : Int32) (hw : zWF h)  (H : zK d m_X11_areTwo [.int i1, .int i2] h (pI h fun x1 => (x1 ≠ 0 → zK d m_X11_isIn [.int i3, .int (-2000000), .int (nI 2000000)] h (pI h fun x3 => (x3 ≠ 0 → zK d m_X11_isEdge [.ref 53, .int i1, .int i2] h (pI h fun x5 => (x5 = 0 → zK d m_X11_comes [.ref 53, .int i1, .int i2, .int i3] h (kV fun h7 => zK d m_X11_shared [.ref 53, .int i1, .int i2] h7 (pI h7 fun x8 => Q (some (.int x8)) h7))) ∧ (¬ x5 = 0 → Q (some (.int (-3))) h))) ∧ (x3 = 0 → Q (some (.int (-2))) h))) ∧ (x1 = 0 → Q (some (.int (-1))) h))) : zK (d + 1) m_X11_add [.ref 53, .int i1, .int i2, .int i3] h Q := by
  refine zK_of mo_X11_add (Nat.le_of_ble_eq_true rfl) ?_
  show zQ none m_X11_add (d + 1) 0 [(0, .ref 53), (1, .int i1), (2, .int i2), (3, .int i3)] [] h Q
  refine zq_iload_n (k := 1) (i := 1) (x := i1) 1 rfl rfl dX11_add_0 ?_
  refine zq_iload_n (k := 2) (i := 2) (x := i2) 2 rfl rfl dX11_add_1 ?_
  refine zq_invS (as := [.int i1, .int i2]) (st := []) st_X11_areTwo mo_X11_areTwo ml_RX11_110 rfl (Nat.le_of_ble_eq_true rfl) dX11_add_2 rfl H (fun r1 h1 hq => ?_)
  obtain ⟨x1, rfl, rfl, H⟩ := hq
  show zQ none m_X11_add (d + 1) 5 [(0, .ref 53), (1, .int i1), (2, .int i2), (3, .int i3)] (.int x1 :: []) h Q
  refine zq_if_ne (tgt := 10) dX11_add_5 rfl ⟨fun c2 => ?_, fun c2 => ?_⟩
  · have H := H.1 c2
    refine zq_iload_n (k := 3) (i := 3) (x := i3) 3 rfl rfl dX11_add_10 ?_
    refine zq_ldc (v := (-2000000)) co_RX11_114 dX11_add_11 ?_
    refine zq_ldc (v := (nI 2000000)) co_RX11_115 dX11_add_13 ?_
    refine zq_invS (as := [.int i3, .int (-2000000), .int (nI 2000000)]) (st := []) st_X11_isIn mo_X11_isIn ml_RX11_64 rfl (Nat.le_of_ble_eq_true rfl) dX11_add_15 rfl H (fun r1 h1 hq => ?_)
    obtain ⟨x3, rfl, rfl, H⟩ := hq
    show zQ none m_X11_add (d + 1) 18 [(0, .ref 53), (1, .int i1), (2, .int i2), (3, .int i3)] (.int x3 :: []) h Q
    refine zq_if_ne (tgt := 24) dX11_add_18 rfl ⟨fun c4 => ?_, fun c4 => ?_⟩
    · have H := H.1 c4
      refine zq_aload_n (k := 0) (i := 0) (x := 53) 0 rfl rfl dX11_add_24 ?_
      refine zq_iload_n (k := 1) (i := 1) (x := i1) 1 rfl rfl dX11_add_25 ?_
      refine zq_iload_n (k := 2) (i := 2) (x := i2) 2 rfl rfl dX11_add_26 ?_
      refine zq_invV (as := [.int i1, .int i2]) (st := []) (o := 53) (c := 10) (by decide) rfl (sh_53 hw) in_X11_isEdge se_X11_isEdge mo_X11_isEdge ml_RX11_116 rfl (Nat.le_of_ble_eq_true rfl) dX11_add_27 rfl H (fun r1 h1 hq => ?_)
      obtain ⟨x5, rfl, rfl, H⟩ := hq
      show zQ none m_X11_add (d + 1) 30 [(0, .ref 53), (1, .int i1), (2, .int i2), (3, .int i3)] (.int x5 :: []) h Q
      refine zq_if_eq (tgt := 36) dX11_add_30 rfl ⟨fun c6 => ?_, fun c6 => ?_⟩
      · have H := H.1 c6
        refine zq_aload_n (k := 0) (i := 0) (x := 53) 0 rfl rfl dX11_add_36 ?_
        refine zq_iload_n (k := 1) (i := 1) (x := i1) 1 rfl rfl dX11_add_37 ?_
        refine zq_iload_n (k := 2) (i := 2) (x := i2) 2 rfl rfl dX11_add_38 ?_
        refine zq_iload_n (k := 3) (i := 3) (x := i3) 3 rfl rfl dX11_add_39 ?_
        refine zq_invV (as := [.int i1, .int i2, .int i3]) (st := []) (o := 53) (c := 10) (by decide) rfl (sh_53 hw) in_X11_comes se_X11_comes mo_X11_comes ml_RX11_119 rfl (Nat.le_of_ble_eq_true rfl) dX11_add_40 rfl H (fun r1 h7 hq => ?_)
        obtain ⟨rfl, wh7, H⟩ := hq
        show zQ none m_X11_add (d + 1) 43 [(0, .ref 53), (1, .int i1), (2, .int i2), (3, .int i3)] ([]) h7 Q
        refine zq_aload_n (k := 0) (i := 0) (x := 53) 0 rfl rfl dX11_add_43 ?_
        refine zq_iload_n (k := 1) (i := 1) (x := i1) 1 rfl rfl dX11_add_44 ?_
        refine zq_iload_n (k := 2) (i := 2) (x := i2) 2 rfl rfl dX11_add_45 ?_
        refine zq_invV (as := [.int i1, .int i2]) (st := []) (o := 53) (c := 10) (by decide) rfl (sh_53 wh7) in_X11_shared se_X11_shared mo_X11_shared ml_RX11_123 rfl (Nat.le_of_ble_eq_true rfl) dX11_add_46 rfl H (fun r1 h1 hq => ?_)
        obtain ⟨x8, rfl, rfl, H⟩ := hq
        show zQ none m_X11_add (d + 1) 49 [(0, .ref 53), (1, .int i1), (2, .int i2), (3, .int i3)] (.int x8 :: []) h7 Q
        exact zq_iret dX11_add_49 rfl rfl rfl H
      · have H := H.2 c6
        refine zq_bipush (v := (-3)) rfl dX11_add_33 ?_
        exact zq_iret dX11_add_35 rfl rfl rfl H
    · have H := H.2 c4
      refine zq_bipush (v := (-2)) rfl dX11_add_21 ?_
      exact zq_iret dX11_add_23 rfl rfl rfl H
  · have H := H.2 c2
    refine zq_iconst (v := (-1)) rfl dX11_add_8 ?_
    exact zq_iret dX11_add_9 rfl rfl rfl H
set_option maxHeartbeats 2000000 in
set_option maxRecDepth 20000 in
theorem r_X11_cut_0 {d : Nat} {h : AH} {Q : Option Value → AH → Prop} (i1 : Int32) (i2 : Int32) (hw : zWF h)  (H : zK d m_X11_areTwo [.int i1, .int i2] h (pI h fun x1 => (x1 ≠ 0 → zK d m_X11_isEdge [.ref 53, .int i1, .int i2] h (pI h fun x3 => (x3 ≠ 0 → zK d m_X11_goes [.ref 53, .int i1, .int i2] h (kV fun h5 => zK d m_X11_shared [.ref 53, .int i1, .int i2] h5 (pI h5 fun x6 => Q (some (.int x6)) h5))) ∧ (x3 = 0 → Q (some (.int (-3))) h))) ∧ (x1 = 0 → Q (some (.int (-1))) h))) : zK (d + 1) m_X11_cut [.ref 53, .int i1, .int i2] h Q := by
  refine zK_of mo_X11_cut (Nat.le_of_ble_eq_true rfl) ?_
  show zQ none m_X11_cut (d + 1) 0 [(0, .ref 53), (1, .int i1), (2, .int i2)] [] h Q
  refine zq_iload_n (k := 1) (i := 1) (x := i1) 1 rfl rfl dX11_cut_0 ?_
  refine zq_iload_n (k := 2) (i := 2) (x := i2) 2 rfl rfl dX11_cut_1 ?_
  refine zq_invS (as := [.int i1, .int i2]) (st := []) st_X11_areTwo mo_X11_areTwo ml_RX11_110 rfl (Nat.le_of_ble_eq_true rfl) dX11_cut_2 rfl H (fun r1 h1 hq => ?_)
  obtain ⟨x1, rfl, rfl, H⟩ := hq
  show zQ none m_X11_cut (d + 1) 5 [(0, .ref 53), (1, .int i1), (2, .int i2)] (.int x1 :: []) h Q
  refine zq_if_ne (tgt := 10) dX11_cut_5 rfl ⟨fun c2 => ?_, fun c2 => ?_⟩
  · have H := H.1 c2
    refine zq_aload_n (k := 0) (i := 0) (x := 53) 0 rfl rfl dX11_cut_10 ?_
    refine zq_iload_n (k := 1) (i := 1) (x := i1) 1 rfl rfl dX11_cut_11 ?_
    refine zq_iload_n (k := 2) (i := 2) (x := i2) 2 rfl rfl dX11_cut_12 ?_
    refine zq_invV (as := [.int i1, .int i2]) (st := []) (o := 53) (c := 10) (by decide) rfl (sh_53 hw) in_X11_isEdge se_X11_isEdge mo_X11_isEdge ml_RX11_116 rfl (Nat.le_of_ble_eq_true rfl) dX11_cut_13 rfl H (fun r1 h1 hq => ?_)
    obtain ⟨x3, rfl, rfl, H⟩ := hq
    show zQ none m_X11_cut (d + 1) 16 [(0, .ref 53), (1, .int i1), (2, .int i2)] (.int x3 :: []) h Q
    refine zq_if_ne (tgt := 22) dX11_cut_16 rfl ⟨fun c4 => ?_, fun c4 => ?_⟩
    · have H := H.1 c4
      refine zq_aload_n (k := 0) (i := 0) (x := 53) 0 rfl rfl dX11_cut_22 ?_
      refine zq_iload_n (k := 1) (i := 1) (x := i1) 1 rfl rfl dX11_cut_23 ?_
      refine zq_iload_n (k := 2) (i := 2) (x := i2) 2 rfl rfl dX11_cut_24 ?_
      refine zq_invV (as := [.int i1, .int i2]) (st := []) (o := 53) (c := 10) (by decide) rfl (sh_53 hw) in_X11_goes se_X11_goes mo_X11_goes ml_RX11_126 rfl (Nat.le_of_ble_eq_true rfl) dX11_cut_25 rfl H (fun r1 h5 hq => ?_)
      obtain ⟨rfl, wh5, H⟩ := hq
      show zQ none m_X11_cut (d + 1) 28 [(0, .ref 53), (1, .int i1), (2, .int i2)] ([]) h5 Q
      refine zq_aload_n (k := 0) (i := 0) (x := 53) 0 rfl rfl dX11_cut_28 ?_
      refine zq_iload_n (k := 1) (i := 1) (x := i1) 1 rfl rfl dX11_cut_29 ?_
      refine zq_iload_n (k := 2) (i := 2) (x := i2) 2 rfl rfl dX11_cut_30 ?_
      refine zq_invV (as := [.int i1, .int i2]) (st := []) (o := 53) (c := 10) (by decide) rfl (sh_53 wh5) in_X11_shared se_X11_shared mo_X11_shared ml_RX11_123 rfl (Nat.le_of_ble_eq_true rfl) dX11_cut_31 rfl H (fun r1 h1 hq => ?_)
      obtain ⟨x6, rfl, rfl, H⟩ := hq
      show zQ none m_X11_cut (d + 1) 34 [(0, .ref 53), (1, .int i1), (2, .int i2)] (.int x6 :: []) h5 Q
      exact zq_iret dX11_cut_34 rfl rfl rfl H
    · have H := H.2 c4
      refine zq_bipush (v := (-3)) rfl dX11_cut_19 ?_
      exact zq_iret dX11_cut_21 rfl rfl rfl H
  · have H := H.2 c2
    refine zq_iconst (v := (-1)) rfl dX11_cut_8 ?_
    exact zq_iret dX11_cut_9 rfl rfl rfl H
set_option maxHeartbeats 2000000 in
set_option maxRecDepth 20000 in
theorem r_X11_worth_0 {d : Nat} {h : AH} {Q : Option Value → AH → Prop} (i1 : Int32) (i2 : Int32) (hw : zWF h)  (H : zK d m_X11_areTwo [.int i1, .int i2] h (pI h fun x1 => (x1 = 0 → Q (some (.long (-9223372036854775808 : Int64))) h) ∧ (¬ x1 = 0 → zK d m_X11_isEdge [.ref 53, .int i1, .int i2] h (pI h fun x3 => (x3 = 0 → Q (some (.long (-9223372036854775808 : Int64))) h) ∧ (¬ x3 = 0 → zK d m_X11_edge [.int i1, .int i2] h (pI h fun x5 => vp_in x5 1600 ∧ (Q (some (.long ((h.I 55 x5.toNatClampNeg).toInt64))) h))))))) : zK (d + 1) m_X11_worth [.ref 53, .int i1, .int i2] h Q := by
  refine zK_of mo_X11_worth (Nat.le_of_ble_eq_true rfl) ?_
  show zQ none m_X11_worth (d + 1) 0 [(0, .ref 53), (1, .int i1), (2, .int i2)] [] h Q
  refine zq_iload_n (k := 1) (i := 1) (x := i1) 1 rfl rfl dX11_worth_0 ?_
  refine zq_iload_n (k := 2) (i := 2) (x := i2) 2 rfl rfl dX11_worth_1 ?_
  refine zq_invS (as := [.int i1, .int i2]) (st := []) st_X11_areTwo mo_X11_areTwo ml_RX11_110 rfl (Nat.le_of_ble_eq_true rfl) dX11_worth_2 rfl H (fun r1 h1 hq => ?_)
  obtain ⟨x1, rfl, rfl, H⟩ := hq
  show zQ none m_X11_worth (d + 1) 5 [(0, .ref 53), (1, .int i1), (2, .int i2)] (.int x1 :: []) h Q
  refine zq_if_eq (tgt := 31) dX11_worth_5 rfl ⟨fun c2 => ?_, fun c2 => ?_⟩
  · have H := H.1 c2
    refine zq_ldc2 (v := (-9223372036854775808)) cl_RX11_130 dX11_worth_31 ?_
    exact zq_lret dX11_worth_34 rfl H
  · have H := H.2 c2
    refine zq_aload_n (k := 0) (i := 0) (x := 53) 0 rfl rfl dX11_worth_8 ?_
    refine zq_iload_n (k := 1) (i := 1) (x := i1) 1 rfl rfl dX11_worth_9 ?_
    refine zq_iload_n (k := 2) (i := 2) (x := i2) 2 rfl rfl dX11_worth_10 ?_
    refine zq_invV (as := [.int i1, .int i2]) (st := []) (o := 53) (c := 10) (by decide) rfl (sh_53 hw) in_X11_isEdge se_X11_isEdge mo_X11_isEdge ml_RX11_116 rfl (Nat.le_of_ble_eq_true rfl) dX11_worth_11 rfl H (fun r1 h1 hq => ?_)
    obtain ⟨x3, rfl, rfl, H⟩ := hq
    show zQ none m_X11_worth (d + 1) 14 [(0, .ref 53), (1, .int i1), (2, .int i2)] (.int x3 :: []) h Q
    refine zq_if_eq (tgt := 31) dX11_worth_14 rfl ⟨fun c4 => ?_, fun c4 => ?_⟩
    · have H := H.1 c4
      refine zq_ldc2 (v := (-9223372036854775808)) cl_RX11_130 dX11_worth_31 ?_
      exact zq_lret dX11_worth_34 rfl H
    · have H := H.2 c4
      refine zq_aload_n (k := 0) (i := 0) (x := 53) 0 rfl rfl dX11_worth_17 ?_
      refine zq_getP fl_RX11_15 rfl (sh_53 hw) (rf_53_1 hw) dX11_worth_18 ?_
      refine zq_iload_n (k := 1) (i := 1) (x := i1) 1 rfl rfl dX11_worth_21 ?_
      refine zq_iload_n (k := 2) (i := 2) (x := i2) 2 rfl rfl dX11_worth_22 ?_
      refine zq_invS (as := [.int i1, .int i2]) (st := .ref 55 :: []) st_X11_edge mo_X11_edge ml_RX11_92 rfl (Nat.le_of_ble_eq_true rfl) dX11_worth_23 rfl H (fun r1 h1 hq => ?_)
      obtain ⟨x5, rfl, rfl, H⟩ := hq
      show zQ none m_X11_worth (d + 1) 26 [(0, .ref 53), (1, .int i1), (2, .int i2)] (.int x5 :: .ref 55 :: []) h Q
      obtain ⟨b6, H⟩ := H
      refine zq_iald (sh_55 hw) b6 dX11_worth_26 ?_
      refine zq_i2l dX11_worth_27 ?_
      refine zq_goto (tgt := 34) dX11_worth_28 rfl ?_
      exact zq_lret dX11_worth_34 rfl H
set_option maxHeartbeats 2000000 in
set_option maxRecDepth 20000 in
theorem r_X11_back_0 {d : Nat} {h : AH} {Q : Option Value → AH → Prop} (i1 : Int32) (hw : zWF h)  (H : zK d m_X11_isIn [.int i1, .int (nI 0), .int (nI 60)] h (pI h fun x1 => (x1 ≠ 0 → zQ none m_X11_back (d + 1) 15 [(0, .ref 53), (1, .int i1), (2, .int (nI 0))] [] h Q) ∧ (x1 = 0 → Q (some (.int (-2))) h))) : zK (d + 1) m_X11_back [.ref 53, .int i1] h Q := by
  refine zK_of mo_X11_back (Nat.le_of_ble_eq_true rfl) ?_
  show zQ none m_X11_back (d + 1) 0 [(0, .ref 53), (1, .int i1)] [] h Q
  refine zq_iload_n (k := 1) (i := 1) (x := i1) 1 rfl rfl dX11_back_0 ?_
  refine zq_iconst (v := (nI 0)) rfl dX11_back_1 ?_
  refine zq_bipush (v := (nI 60)) rfl dX11_back_2 ?_
  refine zq_invS (as := [.int i1, .int (nI 0), .int (nI 60)]) (st := []) st_X11_isIn mo_X11_isIn ml_RX11_64 rfl (Nat.le_of_ble_eq_true rfl) dX11_back_4 rfl H (fun r1 h1 hq => ?_)
  obtain ⟨x1, rfl, rfl, H⟩ := hq
  show zQ none m_X11_back (d + 1) 7 [(0, .ref 53), (1, .int i1)] (.int x1 :: []) h Q
  refine zq_if_ne (tgt := 13) dX11_back_7 rfl ⟨fun c2 => ?_, fun c2 => ?_⟩
  · have H := H.1 c2
    refine zq_iconst (v := (nI 0)) rfl dX11_back_13 ?_
    refine zq_istore_n (ls' := [(2, .int (nI 0)), (0, .ref 53), (1, .int i1)]) (k := 2) (i := 2) rfl (Nat.le_of_ble_eq_true rfl) rfl dX11_back_14 ?_
    exact zq_sub (ls' := [(0, .ref 53), (1, .int i1), (2, .int (nI 0))]) [1, 2, 0] rfl H
  · have H := H.2 c2
    refine zq_bipush (v := (-2)) rfl dX11_back_10 ?_
    exact zq_iret dX11_back_12 rfl rfl rfl H
set_option maxHeartbeats 2000000 in
set_option maxRecDepth 20000 in
theorem r_X11_back_15 {d : Nat} {h : AH} {Q : Option Value → AH → Prop} (i1 : Int32) (i2 : Int32) (hw : zWF h)  (H : (i1 ≤ i2 → Q (some (.int i2)) h) ∧ (¬ i1 ≤ i2 → vp_in (nI 6) 187 ∧ (((h.I 54 (nI 6).toNatClampNeg) ≤ 0 → Q (some (.int i2)) h) ∧ (¬ (h.I 54 (nI 6).toNatClampNeg) ≤ 0 → vp_in (nI 6) 187 ∧ (vp_in (nI 6) 187 ∧ (∀ h6, h6 = h.sI 54 (nI 6).toNatClampNeg ((h.I 54 (nI 6).toNatClampNeg) - (nI 1)) → vp_in (nI 6) 187 ∧ (vp_in ((nI 7) + ((nI 3) * (h6.I 54 (nI 6).toNatClampNeg))) 187 ∧ (vp_in ((nI 7) + ((nI 3) * (h6.I 54 (nI 6).toNatClampNeg))) 187 ∧ (vp_in (((nI 7) + ((nI 3) * (h6.I 54 (nI 6).toNatClampNeg))) + (nI 2)) 187 ∧ (((h6.I 54 (((nI 7) + ((nI 3) * (h6.I 54 (nI 6).toNatClampNeg))) + (nI 2)).toNatClampNeg) ≠ 0 → vp_in (((nI 7) + ((nI 3) * (h6.I 54 (nI 6).toNatClampNeg))) + (nI 2)) 187 ∧ (((h6.I 54 (((nI 7) + ((nI 3) * (h6.I 54 (nI 6).toNatClampNeg))) + (nI 2)).toNatClampNeg) ≠ 0 → zK d m_X11_changes [.ref 53, .int ((h6.I 54 ((nI 7) + ((nI 3) * (h6.I 54 (nI 6).toNatClampNeg))).toNatClampNeg) / (nI 40)), .int ((h6.I 54 ((nI 7) + ((nI 3) * (h6.I 54 (nI 6).toNatClampNeg))).toNatClampNeg) - (h6.I 54 ((nI 7) + ((nI 3) * (h6.I 54 (nI 6).toNatClampNeg))).toNatClampNeg) / (nI 40) * (nI 40)), .int (nI 0), .int (nI 0)] h6 (kV fun h14 => zQ none m_X11_back (d + 1) 15 [(0, .ref 53), (1, .int i1), (2, .int (i2 + (nI 1)))] [] h14 Q)) ∧ ((h6.I 54 (((nI 7) + ((nI 3) * (h6.I 54 (nI 6).toNatClampNeg))) + (nI 2)).toNatClampNeg) = 0 → vp_in (((nI 7) + ((nI 3) * (h6.I 54 (nI 6).toNatClampNeg))) + (nI 1)) 187 ∧ (zK d m_X11_changes [.ref 53, .int ((h6.I 54 ((nI 7) + ((nI 3) * (h6.I 54 (nI 6).toNatClampNeg))).toNatClampNeg) / (nI 40)), .int ((h6.I 54 ((nI 7) + ((nI 3) * (h6.I 54 (nI 6).toNatClampNeg))).toNatClampNeg) - (h6.I 54 ((nI 7) + ((nI 3) * (h6.I 54 (nI 6).toNatClampNeg))).toNatClampNeg) / (nI 40) * (nI 40)), .int (nI 0), .int (h6.I 54 (((nI 7) + ((nI 3) * (h6.I 54 (nI 6).toNatClampNeg))) + (nI 1)).toNatClampNeg)] h6 (kV fun h16 => zQ none m_X11_back (d + 1) 15 [(0, .ref 53), (1, .int i1), (2, .int (i2 + (nI 1)))] [] h16 Q))))) ∧ ((h6.I 54 (((nI 7) + ((nI 3) * (h6.I 54 (nI 6).toNatClampNeg))) + (nI 2)).toNatClampNeg) = 0 → vp_in (((nI 7) + ((nI 3) * (h6.I 54 (nI 6).toNatClampNeg))) + (nI 2)) 187 ∧ (((h6.I 54 (((nI 7) + ((nI 3) * (h6.I 54 (nI 6).toNatClampNeg))) + (nI 2)).toNatClampNeg) ≠ 0 → zK d m_X11_changes [.ref 53, .int ((h6.I 54 ((nI 7) + ((nI 3) * (h6.I 54 (nI 6).toNatClampNeg))).toNatClampNeg) / (nI 40)), .int ((h6.I 54 ((nI 7) + ((nI 3) * (h6.I 54 (nI 6).toNatClampNeg))).toNatClampNeg) - (h6.I 54 ((nI 7) + ((nI 3) * (h6.I 54 (nI 6).toNatClampNeg))).toNatClampNeg) / (nI 40) * (nI 40)), .int (nI 1), .int (nI 0)] h6 (kV fun h19 => zQ none m_X11_back (d + 1) 15 [(0, .ref 53), (1, .int i1), (2, .int (i2 + (nI 1)))] [] h19 Q)) ∧ ((h6.I 54 (((nI 7) + ((nI 3) * (h6.I 54 (nI 6).toNatClampNeg))) + (nI 2)).toNatClampNeg) = 0 → vp_in (((nI 7) + ((nI 3) * (h6.I 54 (nI 6).toNatClampNeg))) + (nI 1)) 187 ∧ (zK d m_X11_changes [.ref 53, .int ((h6.I 54 ((nI 7) + ((nI 3) * (h6.I 54 (nI 6).toNatClampNeg))).toNatClampNeg) / (nI 40)), .int ((h6.I 54 ((nI 7) + ((nI 3) * (h6.I 54 (nI 6).toNatClampNeg))).toNatClampNeg) - (h6.I 54 ((nI 7) + ((nI 3) * (h6.I 54 (nI 6).toNatClampNeg))).toNatClampNeg) / (nI 40) * (nI 40)), .int (nI 1), .int (h6.I 54 (((nI 7) + ((nI 3) * (h6.I 54 (nI 6).toNatClampNeg))) + (nI 1)).toNatClampNeg)] h6 (kV fun h21 => zQ none m_X11_back (d + 1) 15 [(0, .ref 53), (1, .int i1), (2, .int (i2 + (nI 1)))] [] h21 Q))))))))))))))) : zQ none m_X11_back (d + 1) 15 [(0, .ref 53), (1, .int i1), (2, .int i2)] [] h Q := by
  refine zq_iload_n (k := 2) (i := 2) (x := i2) 2 rfl rfl dX11_back_15 ?_
  refine zq_iload_n (k := 1) (i := 1) (x := i1) 1 rfl rfl dX11_back_16 ?_
  refine zq_icmp_ge (tgt := 121) dX11_back_17 rfl ⟨fun c1 => ?_, fun c1 => ?_⟩
  · have H := H.1 c1
    refine zq_iload_n (k := 2) (i := 2) (x := i2) 2 rfl rfl dX11_back_121 ?_
    exact zq_iret dX11_back_122 rfl rfl rfl H
  · have H := H.2 c1
    refine zq_aload_n (k := 0) (i := 0) (x := 53) 0 rfl rfl dX11_back_20 ?_
    refine zq_getP fl_RX11_11 rfl (sh_53 hw) (rf_53_0 hw) dX11_back_21 ?_
    refine zq_bipush (v := (nI 6)) rfl dX11_back_24 ?_
    obtain ⟨b2, H⟩ := H
    refine zq_iald (sh_54 hw) b2 dX11_back_26 ?_
    refine zq_if_le (tgt := 121) dX11_back_27 rfl ⟨fun c3 => ?_, fun c3 => ?_⟩
    · have H := H.1 c3
      refine zq_iload_n (k := 2) (i := 2) (x := i2) 2 rfl rfl dX11_back_121 ?_
      exact zq_iret dX11_back_122 rfl rfl rfl H
    · have H := H.2 c3
      refine zq_aload_n (k := 0) (i := 0) (x := 53) 0 rfl rfl dX11_back_30 ?_
      refine zq_getP fl_RX11_11 rfl (sh_53 hw) (rf_53_0 hw) dX11_back_31 ?_
      refine zq_bipush (v := (nI 6)) rfl dX11_back_34 ?_
      refine zq_dup2 rfl rfl dX11_back_36 ?_
      obtain ⟨b4, H⟩ := H
      refine zq_iald (sh_54 hw) b4 dX11_back_37 ?_
      refine zq_iconst (v := (nI 1)) rfl dX11_back_38 ?_
      refine zq_isub dX11_back_39 ?_
      obtain ⟨b5, H⟩ := H
      refine zq_iast (sh_54 hw) b5 dX11_back_40 (fun h6 eh6 => ?_)
      have H := H h6 eh6
      have wh6 := wf_I eh6 hw
      refine zq_bipush (v := (nI 7)) rfl dX11_back_41 ?_
      refine zq_iconst (v := (nI 3)) rfl dX11_back_43 ?_
      refine zq_aload_n (k := 0) (i := 0) (x := 53) 0 rfl rfl dX11_back_44 ?_
      refine zq_getP fl_RX11_11 rfl (sh_53 wh6) (rf_53_0 wh6) dX11_back_45 ?_
      refine zq_bipush (v := (nI 6)) rfl dX11_back_48 ?_
      obtain ⟨b7, H⟩ := H
      refine zq_iald (sh_54 wh6) b7 dX11_back_50 ?_
      refine zq_imul dX11_back_51 ?_
      refine zq_iadd dX11_back_52 ?_
      refine zq_istore_n (ls' := [(3, .int ((nI 7) + ((nI 3) * (h6.I 54 (nI 6).toNatClampNeg)))), (0, .ref 53), (1, .int i1), (2, .int i2)]) (k := 3) (i := 3) rfl (Nat.le_of_ble_eq_true rfl) rfl dX11_back_53 ?_
      refine zq_aload_n (k := 0) (i := 0) (x := 53) 1 rfl rfl dX11_back_54 ?_
      refine zq_aload_n (k := 0) (i := 0) (x := 53) 1 rfl rfl dX11_back_55 ?_
      refine zq_getP fl_RX11_11 rfl (sh_53 wh6) (rf_53_0 wh6) dX11_back_56 ?_
      refine zq_iload_n (k := 3) (i := 3) (x := ((nI 7) + ((nI 3) * (h6.I 54 (nI 6).toNatClampNeg)))) 0 rfl rfl dX11_back_59 ?_
      obtain ⟨b8, H⟩ := H
      refine zq_iald (sh_54 wh6) b8 dX11_back_60 ?_
      refine zq_bipush (v := (nI 40)) rfl dX11_back_61 ?_
      refine zq_idiv (by decide) dX11_back_63 ?_
      refine zq_aload_n (k := 0) (i := 0) (x := 53) 1 rfl rfl dX11_back_64 ?_
      refine zq_getP fl_RX11_11 rfl (sh_53 wh6) (rf_53_0 wh6) dX11_back_65 ?_
      refine zq_iload_n (k := 3) (i := 3) (x := ((nI 7) + ((nI 3) * (h6.I 54 (nI 6).toNatClampNeg)))) 0 rfl rfl dX11_back_68 ?_
      obtain ⟨b9, H⟩ := H
      refine zq_iald (sh_54 wh6) b9 dX11_back_69 ?_
      refine zq_bipush (v := (nI 40)) rfl dX11_back_70 ?_
      refine zq_irem (by decide) dX11_back_72 ?_
      refine zq_aload_n (k := 0) (i := 0) (x := 53) 1 rfl rfl dX11_back_73 ?_
      refine zq_getP fl_RX11_11 rfl (sh_53 wh6) (rf_53_0 wh6) dX11_back_74 ?_
      refine zq_iload_n (k := 3) (i := 3) (x := ((nI 7) + ((nI 3) * (h6.I 54 (nI 6).toNatClampNeg)))) 0 rfl rfl dX11_back_77 ?_
      refine zq_iconst (v := (nI 2)) rfl dX11_back_78 ?_
      refine zq_iadd dX11_back_79 ?_
      obtain ⟨b10, H⟩ := H
      refine zq_iald (sh_54 wh6) b10 dX11_back_80 ?_
      refine zq_if_ne (tgt := 88) dX11_back_81 rfl ⟨fun c11 => ?_, fun c11 => ?_⟩
      · have H := H.1 c11
        refine zq_iconst (v := (nI 0)) rfl dX11_back_88 ?_
        refine zq_aload_n (k := 0) (i := 0) (x := 53) 1 rfl rfl dX11_back_89 ?_
        refine zq_getP fl_RX11_11 rfl (sh_53 wh6) (rf_53_0 wh6) dX11_back_90 ?_
        refine zq_iload_n (k := 3) (i := 3) (x := ((nI 7) + ((nI 3) * (h6.I 54 (nI 6).toNatClampNeg)))) 0 rfl rfl dX11_back_93 ?_
        refine zq_iconst (v := (nI 2)) rfl dX11_back_94 ?_
        refine zq_iadd dX11_back_95 ?_
        obtain ⟨b12, H⟩ := H
        refine zq_iald (sh_54 wh6) b12 dX11_back_96 ?_
        refine zq_if_ne (tgt := 111) dX11_back_97 rfl ⟨fun c13 => ?_, fun c13 => ?_⟩
        · have H := H.1 c13
          refine zq_iconst (v := (nI 0)) rfl dX11_back_111 ?_
          refine zq_invV (as := [.int ((h6.I 54 ((nI 7) + ((nI 3) * (h6.I 54 (nI 6).toNatClampNeg))).toNatClampNeg) / (nI 40)), .int ((h6.I 54 ((nI 7) + ((nI 3) * (h6.I 54 (nI 6).toNatClampNeg))).toNatClampNeg) - (h6.I 54 ((nI 7) + ((nI 3) * (h6.I 54 (nI 6).toNatClampNeg))).toNatClampNeg) / (nI 40) * (nI 40)), .int (nI 0), .int (nI 0)]) (st := []) (o := 53) (c := 10) (by decide) rfl (sh_53 wh6) in_X11_changes se_X11_changes mo_X11_changes ml_RX11_107 rfl (Nat.le_of_ble_eq_true rfl) dX11_back_112 rfl H (fun r1 h14 hq => ?_)
          obtain ⟨rfl, wh14, H⟩ := hq
          show zQ none m_X11_back (d + 1) 115 [(3, .int ((nI 7) + ((nI 3) * (h6.I 54 (nI 6).toNatClampNeg)))), (0, .ref 53), (1, .int i1), (2, .int i2)] ([]) h14 Q
          refine zq_iinc (i := 2) (x := i2) (v := (nI 1)) (ls' := [(2, .int (i2 + (nI 1))), (3, .int ((nI 7) + ((nI 3) * (h6.I 54 (nI 6).toNatClampNeg)))), (0, .ref 53), (1, .int i1)]) 3 rfl rfl (Nat.le_of_ble_eq_true rfl) rfl dX11_back_115 ?_
          refine zq_goto (tgt := 15) dX11_back_118 rfl ?_
          exact zq_sub (ls' := [(0, .ref 53), (1, .int i1), (2, .int (i2 + (nI 1)))]) [2, 3, 0] rfl H
        · have H := H.2 c13
          refine zq_aload_n (k := 0) (i := 0) (x := 53) 1 rfl rfl dX11_back_100 ?_
          refine zq_getP fl_RX11_11 rfl (sh_53 wh6) (rf_53_0 wh6) dX11_back_101 ?_
          refine zq_iload_n (k := 3) (i := 3) (x := ((nI 7) + ((nI 3) * (h6.I 54 (nI 6).toNatClampNeg)))) 0 rfl rfl dX11_back_104 ?_
          refine zq_iconst (v := (nI 1)) rfl dX11_back_105 ?_
          refine zq_iadd dX11_back_106 ?_
          obtain ⟨b15, H⟩ := H
          refine zq_iald (sh_54 wh6) b15 dX11_back_107 ?_
          refine zq_goto (tgt := 112) dX11_back_108 rfl ?_
          refine zq_invV (as := [.int ((h6.I 54 ((nI 7) + ((nI 3) * (h6.I 54 (nI 6).toNatClampNeg))).toNatClampNeg) / (nI 40)), .int ((h6.I 54 ((nI 7) + ((nI 3) * (h6.I 54 (nI 6).toNatClampNeg))).toNatClampNeg) - (h6.I 54 ((nI 7) + ((nI 3) * (h6.I 54 (nI 6).toNatClampNeg))).toNatClampNeg) / (nI 40) * (nI 40)), .int (nI 0), .int (h6.I 54 (((nI 7) + ((nI 3) * (h6.I 54 (nI 6).toNatClampNeg))) + (nI 1)).toNatClampNeg)]) (st := []) (o := 53) (c := 10) (by decide) rfl (sh_53 wh6) in_X11_changes se_X11_changes mo_X11_changes ml_RX11_107 rfl (Nat.le_of_ble_eq_true rfl) dX11_back_112 rfl H (fun r1 h16 hq => ?_)
          obtain ⟨rfl, wh16, H⟩ := hq
          show zQ none m_X11_back (d + 1) 115 [(3, .int ((nI 7) + ((nI 3) * (h6.I 54 (nI 6).toNatClampNeg)))), (0, .ref 53), (1, .int i1), (2, .int i2)] ([]) h16 Q
          refine zq_iinc (i := 2) (x := i2) (v := (nI 1)) (ls' := [(2, .int (i2 + (nI 1))), (3, .int ((nI 7) + ((nI 3) * (h6.I 54 (nI 6).toNatClampNeg)))), (0, .ref 53), (1, .int i1)]) 3 rfl rfl (Nat.le_of_ble_eq_true rfl) rfl dX11_back_115 ?_
          refine zq_goto (tgt := 15) dX11_back_118 rfl ?_
          exact zq_sub (ls' := [(0, .ref 53), (1, .int i1), (2, .int (i2 + (nI 1)))]) [2, 3, 0] rfl H
      · have H := H.2 c11
        refine zq_iconst (v := (nI 1)) rfl dX11_back_84 ?_
        refine zq_goto (tgt := 89) dX11_back_85 rfl ?_
        refine zq_aload_n (k := 0) (i := 0) (x := 53) 1 rfl rfl dX11_back_89 ?_
        refine zq_getP fl_RX11_11 rfl (sh_53 wh6) (rf_53_0 wh6) dX11_back_90 ?_
        refine zq_iload_n (k := 3) (i := 3) (x := ((nI 7) + ((nI 3) * (h6.I 54 (nI 6).toNatClampNeg)))) 0 rfl rfl dX11_back_93 ?_
        refine zq_iconst (v := (nI 2)) rfl dX11_back_94 ?_
        refine zq_iadd dX11_back_95 ?_
        obtain ⟨b17, H⟩ := H
        refine zq_iald (sh_54 wh6) b17 dX11_back_96 ?_
        refine zq_if_ne (tgt := 111) dX11_back_97 rfl ⟨fun c18 => ?_, fun c18 => ?_⟩
        · have H := H.1 c18
          refine zq_iconst (v := (nI 0)) rfl dX11_back_111 ?_
          refine zq_invV (as := [.int ((h6.I 54 ((nI 7) + ((nI 3) * (h6.I 54 (nI 6).toNatClampNeg))).toNatClampNeg) / (nI 40)), .int ((h6.I 54 ((nI 7) + ((nI 3) * (h6.I 54 (nI 6).toNatClampNeg))).toNatClampNeg) - (h6.I 54 ((nI 7) + ((nI 3) * (h6.I 54 (nI 6).toNatClampNeg))).toNatClampNeg) / (nI 40) * (nI 40)), .int (nI 1), .int (nI 0)]) (st := []) (o := 53) (c := 10) (by decide) rfl (sh_53 wh6) in_X11_changes se_X11_changes mo_X11_changes ml_RX11_107 rfl (Nat.le_of_ble_eq_true rfl) dX11_back_112 rfl H (fun r1 h19 hq => ?_)
          obtain ⟨rfl, wh19, H⟩ := hq
          show zQ none m_X11_back (d + 1) 115 [(3, .int ((nI 7) + ((nI 3) * (h6.I 54 (nI 6).toNatClampNeg)))), (0, .ref 53), (1, .int i1), (2, .int i2)] ([]) h19 Q
          refine zq_iinc (i := 2) (x := i2) (v := (nI 1)) (ls' := [(2, .int (i2 + (nI 1))), (3, .int ((nI 7) + ((nI 3) * (h6.I 54 (nI 6).toNatClampNeg)))), (0, .ref 53), (1, .int i1)]) 3 rfl rfl (Nat.le_of_ble_eq_true rfl) rfl dX11_back_115 ?_
          refine zq_goto (tgt := 15) dX11_back_118 rfl ?_
          exact zq_sub (ls' := [(0, .ref 53), (1, .int i1), (2, .int (i2 + (nI 1)))]) [2, 3, 0] rfl H
        · have H := H.2 c18
          refine zq_aload_n (k := 0) (i := 0) (x := 53) 1 rfl rfl dX11_back_100 ?_
          refine zq_getP fl_RX11_11 rfl (sh_53 wh6) (rf_53_0 wh6) dX11_back_101 ?_
          refine zq_iload_n (k := 3) (i := 3) (x := ((nI 7) + ((nI 3) * (h6.I 54 (nI 6).toNatClampNeg)))) 0 rfl rfl dX11_back_104 ?_
          refine zq_iconst (v := (nI 1)) rfl dX11_back_105 ?_
          refine zq_iadd dX11_back_106 ?_
          obtain ⟨b20, H⟩ := H
          refine zq_iald (sh_54 wh6) b20 dX11_back_107 ?_
          refine zq_goto (tgt := 112) dX11_back_108 rfl ?_
          refine zq_invV (as := [.int ((h6.I 54 ((nI 7) + ((nI 3) * (h6.I 54 (nI 6).toNatClampNeg))).toNatClampNeg) / (nI 40)), .int ((h6.I 54 ((nI 7) + ((nI 3) * (h6.I 54 (nI 6).toNatClampNeg))).toNatClampNeg) - (h6.I 54 ((nI 7) + ((nI 3) * (h6.I 54 (nI 6).toNatClampNeg))).toNatClampNeg) / (nI 40) * (nI 40)), .int (nI 1), .int (h6.I 54 (((nI 7) + ((nI 3) * (h6.I 54 (nI 6).toNatClampNeg))) + (nI 1)).toNatClampNeg)]) (st := []) (o := 53) (c := 10) (by decide) rfl (sh_53 wh6) in_X11_changes se_X11_changes mo_X11_changes ml_RX11_107 rfl (Nat.le_of_ble_eq_true rfl) dX11_back_112 rfl H (fun r1 h21 hq => ?_)
          obtain ⟨rfl, wh21, H⟩ := hq
          show zQ none m_X11_back (d + 1) 115 [(3, .int ((nI 7) + ((nI 3) * (h6.I 54 (nI 6).toNatClampNeg)))), (0, .ref 53), (1, .int i1), (2, .int i2)] ([]) h21 Q
          refine zq_iinc (i := 2) (x := i2) (v := (nI 1)) (ls' := [(2, .int (i2 + (nI 1))), (3, .int ((nI 7) + ((nI 3) * (h6.I 54 (nI 6).toNatClampNeg)))), (0, .ref 53), (1, .int i1)]) 3 rfl rfl (Nat.le_of_ble_eq_true rfl) rfl dX11_back_115 ?_
          refine zq_goto (tgt := 15) dX11_back_118 rfl ?_
          exact zq_sub (ls' := [(0, .ref 53), (1, .int i1), (2, .int (i2 + (nI 1)))]) [2, 3, 0] rfl H
set_option maxHeartbeats 2000000 in
set_option maxRecDepth 20000 in
theorem r_X11_trianglesOf_0 {d : Nat} {h : AH} {Q : Option Value → AH → Prop} (i1 : Int32) (hw : zWF h)  (H : zQ none m_X11_trianglesOf (d + 1) 4 [(0, .ref 53), (1, .int i1), (2, .int (nI 0)), (3, .int (nI 0))] [] h Q) : zK (d + 1) m_X11_trianglesOf [.ref 53, .int i1] h Q := by
  refine zK_of mo_X11_trianglesOf (Nat.le_of_ble_eq_true rfl) ?_
  show zQ none m_X11_trianglesOf (d + 1) 0 [(0, .ref 53), (1, .int i1)] [] h Q
  refine zq_iconst (v := (nI 0)) rfl dX11_trianglesOf_0 ?_
  refine zq_istore_n (ls' := [(2, .int (nI 0)), (0, .ref 53), (1, .int i1)]) (k := 2) (i := 2) rfl (Nat.le_of_ble_eq_true rfl) rfl dX11_trianglesOf_1 ?_
  refine zq_iconst (v := (nI 0)) rfl dX11_trianglesOf_2 ?_
  refine zq_istore_n (ls' := [(3, .int (nI 0)), (2, .int (nI 0)), (0, .ref 53), (1, .int i1)]) (k := 3) (i := 3) rfl (Nat.le_of_ble_eq_true rfl) rfl dX11_trianglesOf_3 ?_
  exact zq_sub (ls' := [(0, .ref 53), (1, .int i1), (2, .int (nI 0)), (3, .int (nI 0))]) [2, 3, 1, 0] rfl H
set_option maxHeartbeats 2000000 in
set_option maxRecDepth 20000 in
theorem r_X11_trianglesOf_4 {d : Nat} {h : AH} {Q : Option Value → AH → Prop} (i1 : Int32) (i2 : Int32) (i3 : Int32) (hw : zWF h)  (H : ((nI 40) ≤ i3 → Q (some (.int (i2 / (nI 2)))) h) ∧ (¬ (nI 40) ≤ i3 → zK d m_X11_isEdge [.ref 53, .int i1, .int i3] h (pI h fun x2 => (x2 = 0 → zQ none m_X11_trianglesOf (d + 1) 4 [(0, .ref 53), (1, .int i1), (2, .int (i2 + (nI 0))), (3, .int (i3 + (nI 1)))] [] h Q) ∧ (¬ x2 = 0 → zK d m_X11_shared [.ref 53, .int i1, .int i3] h (pI h fun x4 => zQ none m_X11_trianglesOf (d + 1) 4 [(0, .ref 53), (1, .int i1), (2, .int (i2 + x4)), (3, .int (i3 + (nI 1)))] [] h Q))))) : zQ none m_X11_trianglesOf (d + 1) 4 [(0, .ref 53), (1, .int i1), (2, .int i2), (3, .int i3)] [] h Q := by
  refine zq_iload_n (k := 3) (i := 3) (x := i3) 3 rfl rfl dX11_trianglesOf_4 ?_
  refine zq_bipush (v := (nI 40)) rfl dX11_trianglesOf_5 ?_
  refine zq_icmp_ge (tgt := 38) dX11_trianglesOf_7 rfl ⟨fun c1 => ?_, fun c1 => ?_⟩
  · have H := H.1 c1
    refine zq_iload_n (k := 2) (i := 2) (x := i2) 2 rfl rfl dX11_trianglesOf_38 ?_
    refine zq_iconst (v := (nI 2)) rfl dX11_trianglesOf_39 ?_
    refine zq_idiv (by decide) dX11_trianglesOf_40 ?_
    exact zq_iret dX11_trianglesOf_41 rfl rfl rfl H
  · have H := H.2 c1
    refine zq_iload_n (k := 2) (i := 2) (x := i2) 2 rfl rfl dX11_trianglesOf_10 ?_
    refine zq_aload_n (k := 0) (i := 0) (x := 53) 0 rfl rfl dX11_trianglesOf_11 ?_
    refine zq_iload_n (k := 1) (i := 1) (x := i1) 1 rfl rfl dX11_trianglesOf_12 ?_
    refine zq_iload_n (k := 3) (i := 3) (x := i3) 3 rfl rfl dX11_trianglesOf_13 ?_
    refine zq_invV (as := [.int i1, .int i3]) (st := .int i2 :: []) (o := 53) (c := 10) (by decide) rfl (sh_53 hw) in_X11_isEdge se_X11_isEdge mo_X11_isEdge ml_RX11_116 rfl (Nat.le_of_ble_eq_true rfl) dX11_trianglesOf_14 rfl H (fun r1 h1 hq => ?_)
    obtain ⟨x2, rfl, rfl, H⟩ := hq
    show zQ none m_X11_trianglesOf (d + 1) 17 [(0, .ref 53), (1, .int i1), (2, .int i2), (3, .int i3)] (.int x2 :: .int i2 :: []) h Q
    refine zq_if_eq (tgt := 29) dX11_trianglesOf_17 rfl ⟨fun c3 => ?_, fun c3 => ?_⟩
    · have H := H.1 c3
      refine zq_iconst (v := (nI 0)) rfl dX11_trianglesOf_29 ?_
      refine zq_iadd dX11_trianglesOf_30 ?_
      refine zq_istore_n (ls' := [(2, .int (i2 + (nI 0))), (0, .ref 53), (1, .int i1), (3, .int i3)]) (k := 2) (i := 2) rfl (Nat.le_of_ble_eq_true rfl) rfl dX11_trianglesOf_31 ?_
      refine zq_iinc (i := 3) (x := i3) (v := (nI 1)) (ls' := [(3, .int (i3 + (nI 1))), (2, .int (i2 + (nI 0))), (0, .ref 53), (1, .int i1)]) 3 rfl rfl (Nat.le_of_ble_eq_true rfl) rfl dX11_trianglesOf_32 ?_
      refine zq_goto (tgt := 4) dX11_trianglesOf_35 rfl ?_
      exact zq_sub (ls' := [(0, .ref 53), (1, .int i1), (2, .int (i2 + (nI 0))), (3, .int (i3 + (nI 1)))]) [2, 3, 1, 0] rfl H
    · have H := H.2 c3
      refine zq_aload_n (k := 0) (i := 0) (x := 53) 0 rfl rfl dX11_trianglesOf_20 ?_
      refine zq_iload_n (k := 1) (i := 1) (x := i1) 1 rfl rfl dX11_trianglesOf_21 ?_
      refine zq_iload_n (k := 3) (i := 3) (x := i3) 3 rfl rfl dX11_trianglesOf_22 ?_
      refine zq_invV (as := [.int i1, .int i3]) (st := .int i2 :: []) (o := 53) (c := 10) (by decide) rfl (sh_53 hw) in_X11_shared se_X11_shared mo_X11_shared ml_RX11_123 rfl (Nat.le_of_ble_eq_true rfl) dX11_trianglesOf_23 rfl H (fun r1 h1 hq => ?_)
      obtain ⟨x4, rfl, rfl, H⟩ := hq
      show zQ none m_X11_trianglesOf (d + 1) 26 [(0, .ref 53), (1, .int i1), (2, .int i2), (3, .int i3)] (.int x4 :: .int i2 :: []) h Q
      refine zq_goto (tgt := 30) dX11_trianglesOf_26 rfl ?_
      refine zq_iadd dX11_trianglesOf_30 ?_
      refine zq_istore_n (ls' := [(2, .int (i2 + x4)), (0, .ref 53), (1, .int i1), (3, .int i3)]) (k := 2) (i := 2) rfl (Nat.le_of_ble_eq_true rfl) rfl dX11_trianglesOf_31 ?_
      refine zq_iinc (i := 3) (x := i3) (v := (nI 1)) (ls' := [(3, .int (i3 + (nI 1))), (2, .int (i2 + x4)), (0, .ref 53), (1, .int i1)]) 3 rfl rfl (Nat.le_of_ble_eq_true rfl) rfl dX11_trianglesOf_32 ?_
      refine zq_goto (tgt := 4) dX11_trianglesOf_35 rfl ?_
      exact zq_sub (ls' := [(0, .ref 53), (1, .int i1), (2, .int (i2 + x4)), (3, .int (i3 + (nI 1)))]) [2, 3, 1, 0] rfl H
set_option maxHeartbeats 2000000 in
set_option maxRecDepth 20000 in
theorem r_X11_triangles_0 {d : Nat} {h : AH} {Q : Option Value → AH → Prop}  (hw : zWF h)  (H : zQ none m_X11_triangles (d + 1) 4 [(0, .ref 53), (1, .int (nI 0)), (2, .int (nI 0))] [] h Q) : zK (d + 1) m_X11_triangles [.ref 53] h Q := by
  refine zK_of mo_X11_triangles (Nat.le_of_ble_eq_true rfl) ?_
  show zQ none m_X11_triangles (d + 1) 0 [(0, .ref 53)] [] h Q
  refine zq_iconst (v := (nI 0)) rfl dX11_triangles_0 ?_
  refine zq_istore_n (ls' := [(1, .int (nI 0)), (0, .ref 53)]) (k := 1) (i := 1) rfl (Nat.le_of_ble_eq_true rfl) rfl dX11_triangles_1 ?_
  refine zq_iconst (v := (nI 0)) rfl dX11_triangles_2 ?_
  refine zq_istore_n (ls' := [(2, .int (nI 0)), (1, .int (nI 0)), (0, .ref 53)]) (k := 2) (i := 2) rfl (Nat.le_of_ble_eq_true rfl) rfl dX11_triangles_3 ?_
  exact zq_sub (ls' := [(0, .ref 53), (1, .int (nI 0)), (2, .int (nI 0))]) [2, 1, 0] rfl H
set_option maxHeartbeats 2000000 in
set_option maxRecDepth 20000 in
theorem r_X11_triangles_4 {d : Nat} {h : AH} {Q : Option Value → AH → Prop} (i1 : Int32) (i2 : Int32) (hw : zWF h)  (H : ((nI 40) ≤ i2 → Q (some (.int (i1 / (nI 3)))) h) ∧ (¬ (nI 40) ≤ i2 → zK d m_X11_trianglesOf [.ref 53, .int i2] h (pI h fun x2 => zQ none m_X11_triangles (d + 1) 4 [(0, .ref 53), (1, .int (i1 + x2)), (2, .int (i2 + (nI 1)))] [] h Q))) : zQ none m_X11_triangles (d + 1) 4 [(0, .ref 53), (1, .int i1), (2, .int i2)] [] h Q := by
  refine zq_iload_n (k := 2) (i := 2) (x := i2) 2 rfl rfl dX11_triangles_4 ?_
  refine zq_bipush (v := (nI 40)) rfl dX11_triangles_5 ?_
  refine zq_icmp_ge (tgt := 24) dX11_triangles_7 rfl ⟨fun c1 => ?_, fun c1 => ?_⟩
  · have H := H.1 c1
    refine zq_iload_n (k := 1) (i := 1) (x := i1) 1 rfl rfl dX11_triangles_24 ?_
    refine zq_iconst (v := (nI 3)) rfl dX11_triangles_25 ?_
    refine zq_idiv (by decide) dX11_triangles_26 ?_
    exact zq_iret dX11_triangles_27 rfl rfl rfl H
  · have H := H.2 c1
    refine zq_iload_n (k := 1) (i := 1) (x := i1) 1 rfl rfl dX11_triangles_10 ?_
    refine zq_aload_n (k := 0) (i := 0) (x := 53) 0 rfl rfl dX11_triangles_11 ?_
    refine zq_iload_n (k := 2) (i := 2) (x := i2) 2 rfl rfl dX11_triangles_12 ?_
    refine zq_invV (as := [.int i2]) (st := .int i1 :: []) (o := 53) (c := 10) (by decide) rfl (sh_53 hw) in_X11_trianglesOf se_X11_trianglesOf mo_X11_trianglesOf ml_RX11_132 rfl (Nat.le_of_ble_eq_true rfl) dX11_triangles_13 rfl H (fun r1 h1 hq => ?_)
    obtain ⟨x2, rfl, rfl, H⟩ := hq
    show zQ none m_X11_triangles (d + 1) 16 [(0, .ref 53), (1, .int i1), (2, .int i2)] (.int x2 :: .int i1 :: []) h Q
    refine zq_iadd dX11_triangles_16 ?_
    refine zq_istore_n (ls' := [(1, .int (i1 + x2)), (0, .ref 53), (2, .int i2)]) (k := 1) (i := 1) rfl (Nat.le_of_ble_eq_true rfl) rfl dX11_triangles_17 ?_
    refine zq_iinc (i := 2) (x := i2) (v := (nI 1)) (ls' := [(2, .int (i2 + (nI 1))), (1, .int (i1 + x2)), (0, .ref 53)]) 2 rfl rfl (Nat.le_of_ble_eq_true rfl) rfl dX11_triangles_18 ?_
    refine zq_goto (tgt := 4) dX11_triangles_21 rfl ?_
    exact zq_sub (ls' := [(0, .ref 53), (1, .int (i1 + x2)), (2, .int (i2 + (nI 1)))]) [2, 1, 0] rfl H
set_option maxHeartbeats 2000000 in
set_option maxRecDepth 20000 in
theorem r_X11_ringsOf_0 {d : Nat} {h : AH} {Q : Option Value → AH → Prop} (i1 : Int32) (hw : zWF h)  (H : zQ none m_X11_ringsOf (d + 1) 4 [(0, .ref 53), (1, .int i1), (2, .int (nI 0)), (3, .int (nI 0))] [] h Q) : zK (d + 1) m_X11_ringsOf [.ref 53, .int i1] h Q := by
  refine zK_of mo_X11_ringsOf (Nat.le_of_ble_eq_true rfl) ?_
  show zQ none m_X11_ringsOf (d + 1) 0 [(0, .ref 53), (1, .int i1)] [] h Q
  refine zq_iconst (v := (nI 0)) rfl dX11_ringsOf_0 ?_
  refine zq_istore_n (ls' := [(2, .int (nI 0)), (0, .ref 53), (1, .int i1)]) (k := 2) (i := 2) rfl (Nat.le_of_ble_eq_true rfl) rfl dX11_ringsOf_1 ?_
  refine zq_iconst (v := (nI 0)) rfl dX11_ringsOf_2 ?_
  refine zq_istore_n (ls' := [(3, .int (nI 0)), (2, .int (nI 0)), (0, .ref 53), (1, .int i1)]) (k := 3) (i := 3) rfl (Nat.le_of_ble_eq_true rfl) rfl dX11_ringsOf_3 ?_
  exact zq_sub (ls' := [(0, .ref 53), (1, .int i1), (2, .int (nI 0)), (3, .int (nI 0))]) [2, 3, 1, 0] rfl H
set_option maxHeartbeats 2000000 in
set_option maxRecDepth 20000 in
theorem r_X11_ringsOf_4 {d : Nat} {h : AH} {Q : Option Value → AH → Prop} (i1 : Int32) (i2 : Int32) (i3 : Int32) (hw : zWF h)  (H : ((nI 40) ≤ i3 → Q (some (.int i2)) h) ∧ (¬ (nI 40) ≤ i3 → (i3 ≠ i1 → zK d m_X11_shared [.ref 53, .int i1, .int i3] h (pI h fun x3 => zK d m_X11_twos [.int x3] h (pI h fun x4 => zQ none m_X11_ringsOf (d + 1) 4 [(0, .ref 53), (1, .int i1), (2, .int (i2 + x4)), (3, .int (i3 + (nI 1)))] [] h Q))) ∧ (i3 = i1 → zQ none m_X11_ringsOf (d + 1) 4 [(0, .ref 53), (1, .int i1), (2, .int (i2 + (nI 0))), (3, .int (i3 + (nI 1)))] [] h Q))) : zQ none m_X11_ringsOf (d + 1) 4 [(0, .ref 53), (1, .int i1), (2, .int i2), (3, .int i3)] [] h Q := by
  refine zq_iload_n (k := 3) (i := 3) (x := i3) 3 rfl rfl dX11_ringsOf_4 ?_
  refine zq_bipush (v := (nI 40)) rfl dX11_ringsOf_5 ?_
  refine zq_icmp_ge (tgt := 37) dX11_ringsOf_7 rfl ⟨fun c1 => ?_, fun c1 => ?_⟩
  · have H := H.1 c1
    refine zq_iload_n (k := 2) (i := 2) (x := i2) 2 rfl rfl dX11_ringsOf_37 ?_
    exact zq_iret dX11_ringsOf_38 rfl rfl rfl H
  · have H := H.2 c1
    refine zq_iload_n (k := 2) (i := 2) (x := i2) 2 rfl rfl dX11_ringsOf_10 ?_
    refine zq_iload_n (k := 3) (i := 3) (x := i3) 3 rfl rfl dX11_ringsOf_11 ?_
    refine zq_iload_n (k := 1) (i := 1) (x := i1) 1 rfl rfl dX11_ringsOf_12 ?_
    refine zq_icmp_ne (tgt := 20) dX11_ringsOf_13 rfl ⟨fun c2 => ?_, fun c2 => ?_⟩
    · have H := H.1 c2
      refine zq_aload_n (k := 0) (i := 0) (x := 53) 0 rfl rfl dX11_ringsOf_20 ?_
      refine zq_iload_n (k := 1) (i := 1) (x := i1) 1 rfl rfl dX11_ringsOf_21 ?_
      refine zq_iload_n (k := 3) (i := 3) (x := i3) 3 rfl rfl dX11_ringsOf_22 ?_
      refine zq_invV (as := [.int i1, .int i3]) (st := .int i2 :: []) (o := 53) (c := 10) (by decide) rfl (sh_53 hw) in_X11_shared se_X11_shared mo_X11_shared ml_RX11_123 rfl (Nat.le_of_ble_eq_true rfl) dX11_ringsOf_23 rfl H (fun r1 h1 hq => ?_)
      obtain ⟨x3, rfl, rfl, H⟩ := hq
      show zQ none m_X11_ringsOf (d + 1) 26 [(0, .ref 53), (1, .int i1), (2, .int i2), (3, .int i3)] (.int x3 :: .int i2 :: []) h Q
      refine zq_invS (as := [.int x3]) (st := .int i2 :: []) st_X11_twos mo_X11_twos ml_RX11_135 rfl (Nat.le_of_ble_eq_true rfl) dX11_ringsOf_26 rfl H (fun r1 h1 hq => ?_)
      obtain ⟨x4, rfl, rfl, H⟩ := hq
      show zQ none m_X11_ringsOf (d + 1) 29 [(0, .ref 53), (1, .int i1), (2, .int i2), (3, .int i3)] (.int x4 :: .int i2 :: []) h Q
      refine zq_iadd dX11_ringsOf_29 ?_
      refine zq_istore_n (ls' := [(2, .int (i2 + x4)), (0, .ref 53), (1, .int i1), (3, .int i3)]) (k := 2) (i := 2) rfl (Nat.le_of_ble_eq_true rfl) rfl dX11_ringsOf_30 ?_
      refine zq_iinc (i := 3) (x := i3) (v := (nI 1)) (ls' := [(3, .int (i3 + (nI 1))), (2, .int (i2 + x4)), (0, .ref 53), (1, .int i1)]) 3 rfl rfl (Nat.le_of_ble_eq_true rfl) rfl dX11_ringsOf_31 ?_
      refine zq_goto (tgt := 4) dX11_ringsOf_34 rfl ?_
      exact zq_sub (ls' := [(0, .ref 53), (1, .int i1), (2, .int (i2 + x4)), (3, .int (i3 + (nI 1)))]) [2, 3, 1, 0] rfl H
    · have H := H.2 c2
      refine zq_iconst (v := (nI 0)) rfl dX11_ringsOf_16 ?_
      refine zq_goto (tgt := 29) dX11_ringsOf_17 rfl ?_
      refine zq_iadd dX11_ringsOf_29 ?_
      refine zq_istore_n (ls' := [(2, .int (i2 + (nI 0))), (0, .ref 53), (1, .int i1), (3, .int i3)]) (k := 2) (i := 2) rfl (Nat.le_of_ble_eq_true rfl) rfl dX11_ringsOf_30 ?_
      refine zq_iinc (i := 3) (x := i3) (v := (nI 1)) (ls' := [(3, .int (i3 + (nI 1))), (2, .int (i2 + (nI 0))), (0, .ref 53), (1, .int i1)]) 3 rfl rfl (Nat.le_of_ble_eq_true rfl) rfl dX11_ringsOf_31 ?_
      refine zq_goto (tgt := 4) dX11_ringsOf_34 rfl ?_
      exact zq_sub (ls' := [(0, .ref 53), (1, .int i1), (2, .int (i2 + (nI 0))), (3, .int (i3 + (nI 1)))]) [2, 3, 1, 0] rfl H
set_option maxHeartbeats 2000000 in
set_option maxRecDepth 20000 in
theorem r_X11_rings_0 {d : Nat} {h : AH} {Q : Option Value → AH → Prop}  (hw : zWF h)  (H : zQ none m_X11_rings (d + 1) 4 [(0, .ref 53), (1, .int (nI 0)), (2, .int (nI 0))] [] h Q) : zK (d + 1) m_X11_rings [.ref 53] h Q := by
  refine zK_of mo_X11_rings (Nat.le_of_ble_eq_true rfl) ?_
  show zQ none m_X11_rings (d + 1) 0 [(0, .ref 53)] [] h Q
  refine zq_iconst (v := (nI 0)) rfl dX11_rings_0 ?_
  refine zq_istore_n (ls' := [(1, .int (nI 0)), (0, .ref 53)]) (k := 1) (i := 1) rfl (Nat.le_of_ble_eq_true rfl) rfl dX11_rings_1 ?_
  refine zq_iconst (v := (nI 0)) rfl dX11_rings_2 ?_
  refine zq_istore_n (ls' := [(2, .int (nI 0)), (1, .int (nI 0)), (0, .ref 53)]) (k := 2) (i := 2) rfl (Nat.le_of_ble_eq_true rfl) rfl dX11_rings_3 ?_
  exact zq_sub (ls' := [(0, .ref 53), (1, .int (nI 0)), (2, .int (nI 0))]) [2, 1, 0] rfl H
set_option maxHeartbeats 2000000 in
set_option maxRecDepth 20000 in
theorem r_X11_rings_4 {d : Nat} {h : AH} {Q : Option Value → AH → Prop} (i1 : Int32) (i2 : Int32) (hw : zWF h)  (H : ((nI 40) ≤ i2 → Q (some (.int (i1 / (nI 4)))) h) ∧ (¬ (nI 40) ≤ i2 → zK d m_X11_ringsOf [.ref 53, .int i2] h (pI h fun x2 => zQ none m_X11_rings (d + 1) 4 [(0, .ref 53), (1, .int (i1 + x2)), (2, .int (i2 + (nI 1)))] [] h Q))) : zQ none m_X11_rings (d + 1) 4 [(0, .ref 53), (1, .int i1), (2, .int i2)] [] h Q := by
  refine zq_iload_n (k := 2) (i := 2) (x := i2) 2 rfl rfl dX11_rings_4 ?_
  refine zq_bipush (v := (nI 40)) rfl dX11_rings_5 ?_
  refine zq_icmp_ge (tgt := 24) dX11_rings_7 rfl ⟨fun c1 => ?_, fun c1 => ?_⟩
  · have H := H.1 c1
    refine zq_iload_n (k := 1) (i := 1) (x := i1) 1 rfl rfl dX11_rings_24 ?_
    refine zq_iconst (v := (nI 4)) rfl dX11_rings_25 ?_
    refine zq_idiv (by decide) dX11_rings_26 ?_
    exact zq_iret dX11_rings_27 rfl rfl rfl H
  · have H := H.2 c1
    refine zq_iload_n (k := 1) (i := 1) (x := i1) 1 rfl rfl dX11_rings_10 ?_
    refine zq_aload_n (k := 0) (i := 0) (x := 53) 0 rfl rfl dX11_rings_11 ?_
    refine zq_iload_n (k := 2) (i := 2) (x := i2) 2 rfl rfl dX11_rings_12 ?_
    refine zq_invV (as := [.int i2]) (st := .int i1 :: []) (o := 53) (c := 10) (by decide) rfl (sh_53 hw) in_X11_ringsOf se_X11_ringsOf mo_X11_ringsOf ml_RX11_138 rfl (Nat.le_of_ble_eq_true rfl) dX11_rings_13 rfl H (fun r1 h1 hq => ?_)
    obtain ⟨x2, rfl, rfl, H⟩ := hq
    show zQ none m_X11_rings (d + 1) 16 [(0, .ref 53), (1, .int i1), (2, .int i2)] (.int x2 :: .int i1 :: []) h Q
    refine zq_iadd dX11_rings_16 ?_
    refine zq_istore_n (ls' := [(1, .int (i1 + x2)), (0, .ref 53), (2, .int i2)]) (k := 1) (i := 1) rfl (Nat.le_of_ble_eq_true rfl) rfl dX11_rings_17 ?_
    refine zq_iinc (i := 2) (x := i2) (v := (nI 1)) (ls' := [(2, .int (i2 + (nI 1))), (1, .int (i1 + x2)), (0, .ref 53)]) 2 rfl rfl (Nat.le_of_ble_eq_true rfl) rfl dX11_rings_18 ?_
    refine zq_goto (tgt := 4) dX11_rings_21 rfl ?_
    exact zq_sub (ls' := [(0, .ref 53), (1, .int (i1 + x2)), (2, .int (i2 + (nI 1)))]) [2, 1, 0] rfl H
set_option maxHeartbeats 2000000 in
set_option maxRecDepth 20000 in
theorem r_X11_joinedIn_0 {d : Nat} {h : AH} {Q : Option Value → AH → Prop} (l1 : Int64) (hw : zWF h)  (H : zQ none m_X11_joinedIn (d + 1) 5 [(0, .ref 53), (1, .long l1), (3, .int (nI 0)), (4, .int (nI 0))] [] h Q) : zK (d + 1) m_X11_joinedIn [.ref 53, .long l1] h Q := by
  refine zK_of mo_X11_joinedIn (Nat.le_of_ble_eq_true rfl) ?_
  show zQ none m_X11_joinedIn (d + 1) 0 [(0, .ref 53), (1, .long l1)] [] h Q
  refine zq_iconst (v := (nI 0)) rfl dX11_joinedIn_0 ?_
  refine zq_istore_n (ls' := [(3, .int (nI 0)), (0, .ref 53), (1, .long l1)]) (k := 3) (i := 3) rfl (Nat.le_of_ble_eq_true rfl) rfl dX11_joinedIn_1 ?_
  refine zq_iconst (v := (nI 0)) rfl dX11_joinedIn_2 ?_
  refine zq_istore (ls' := [(4, .int (nI 0)), (3, .int (nI 0)), (0, .ref 53), (1, .long l1)]) (i := 4) (Nat.le_of_ble_eq_true rfl) rfl dX11_joinedIn_3 ?_
  exact zq_sub (ls' := [(0, .ref 53), (1, .long l1), (3, .int (nI 0)), (4, .int (nI 0))]) [2, 3, 1, 0] rfl H
set_option maxHeartbeats 2000000 in
set_option maxRecDepth 20000 in
theorem r_X11_joinedIn_5 {d : Nat} {h : AH} {Q : Option Value → AH → Prop} (l1 : Int64) (i3 : Int32) (i4 : Int32) (hw : zWF h)  (H : ((nI 40) ≤ i4 → Q (some (.int (i3 / (nI 2)))) h) ∧ (¬ (nI 40) ≤ i4 → zK d m_X11_has [.long l1, .int i4] h (pI h fun x2 => (x2 = 0 → zQ none m_X11_joinedIn (d + 1) 5 [(0, .ref 53), (1, .long l1), (3, .int (i3 + (nI 0))), (4, .int (i4 + (nI 1)))] [] h Q) ∧ (¬ x2 = 0 → vp_in i4 40 ∧ (zK d m_X11_bits [.long ((h.L 58 i4.toNatClampNeg) &&& l1)] h (pI h fun x5 => zQ none m_X11_joinedIn (d + 1) 5 [(0, .ref 53), (1, .long l1), (3, .int (i3 + x5)), (4, .int (i4 + (nI 1)))] [] h Q)))))) : zQ none m_X11_joinedIn (d + 1) 5 [(0, .ref 53), (1, .long l1), (3, .int i3), (4, .int i4)] [] h Q := by
  refine zq_iload (i := 4) (x := i4) 3 rfl dX11_joinedIn_5 ?_
  refine zq_bipush (v := (nI 40)) rfl dX11_joinedIn_7 ?_
  refine zq_icmp_ge (tgt := 46) dX11_joinedIn_9 rfl ⟨fun c1 => ?_, fun c1 => ?_⟩
  · have H := H.1 c1
    refine zq_iload_n (k := 3) (i := 3) (x := i3) 2 rfl rfl dX11_joinedIn_46 ?_
    refine zq_iconst (v := (nI 2)) rfl dX11_joinedIn_47 ?_
    refine zq_idiv (by decide) dX11_joinedIn_48 ?_
    exact zq_iret dX11_joinedIn_49 rfl rfl rfl H
  · have H := H.2 c1
    refine zq_iload_n (k := 3) (i := 3) (x := i3) 2 rfl rfl dX11_joinedIn_12 ?_
    refine zq_lload_n (k := 1) (i := 1) (x := l1) 1 rfl rfl dX11_joinedIn_13 ?_
    refine zq_iload (i := 4) (x := i4) 3 rfl dX11_joinedIn_14 ?_
    refine zq_invS (as := [.long l1, .int i4]) (st := .int i3 :: []) st_X11_has mo_X11_has ml_RX11_72 rfl (Nat.le_of_ble_eq_true rfl) dX11_joinedIn_16 rfl H (fun r1 h1 hq => ?_)
    obtain ⟨x2, rfl, rfl, H⟩ := hq
    show zQ none m_X11_joinedIn (d + 1) 19 [(0, .ref 53), (1, .long l1), (3, .int i3), (4, .int i4)] (.int x2 :: .int i3 :: []) h Q
    refine zq_if_eq (tgt := 37) dX11_joinedIn_19 rfl ⟨fun c3 => ?_, fun c3 => ?_⟩
    · have H := H.1 c3
      refine zq_iconst (v := (nI 0)) rfl dX11_joinedIn_37 ?_
      refine zq_iadd dX11_joinedIn_38 ?_
      refine zq_istore_n (ls' := [(3, .int (i3 + (nI 0))), (0, .ref 53), (1, .long l1), (4, .int i4)]) (k := 3) (i := 3) rfl (Nat.le_of_ble_eq_true rfl) rfl dX11_joinedIn_39 ?_
      refine zq_iinc (i := 4) (x := i4) (v := (nI 1)) (ls' := [(4, .int (i4 + (nI 1))), (3, .int (i3 + (nI 0))), (0, .ref 53), (1, .long l1)]) 3 rfl rfl (Nat.le_of_ble_eq_true rfl) rfl dX11_joinedIn_40 ?_
      refine zq_goto (tgt := 5) dX11_joinedIn_43 rfl ?_
      exact zq_sub (ls' := [(0, .ref 53), (1, .long l1), (3, .int (i3 + (nI 0))), (4, .int (i4 + (nI 1)))]) [2, 3, 1, 0] rfl H
    · have H := H.2 c3
      refine zq_aload_n (k := 0) (i := 0) (x := 53) 0 rfl rfl dX11_joinedIn_22 ?_
      refine zq_getP fl_RX11_24 rfl (sh_53 hw) (rf_53_4 hw) dX11_joinedIn_23 ?_
      refine zq_iload (i := 4) (x := i4) 3 rfl dX11_joinedIn_26 ?_
      obtain ⟨b4, H⟩ := H
      refine zq_lald (sh_58 hw) b4 dX11_joinedIn_28 ?_
      refine zq_lload_n (k := 1) (i := 1) (x := l1) 1 rfl rfl dX11_joinedIn_29 ?_
      refine zq_land dX11_joinedIn_30 ?_
      refine zq_invS (as := [.long ((h.L 58 i4.toNatClampNeg) &&& l1)]) (st := .int i3 :: []) st_X11_bits mo_X11_bits ml_RX11_76 rfl (Nat.le_of_ble_eq_true rfl) dX11_joinedIn_31 rfl H (fun r1 h1 hq => ?_)
      obtain ⟨x5, rfl, rfl, H⟩ := hq
      show zQ none m_X11_joinedIn (d + 1) 34 [(0, .ref 53), (1, .long l1), (3, .int i3), (4, .int i4)] (.int x5 :: .int i3 :: []) h Q
      refine zq_goto (tgt := 38) dX11_joinedIn_34 rfl ?_
      refine zq_iadd dX11_joinedIn_38 ?_
      refine zq_istore_n (ls' := [(3, .int (i3 + x5)), (0, .ref 53), (1, .long l1), (4, .int i4)]) (k := 3) (i := 3) rfl (Nat.le_of_ble_eq_true rfl) rfl dX11_joinedIn_39 ?_
      refine zq_iinc (i := 4) (x := i4) (v := (nI 1)) (ls' := [(4, .int (i4 + (nI 1))), (3, .int (i3 + x5)), (0, .ref 53), (1, .long l1)]) 3 rfl rfl (Nat.le_of_ble_eq_true rfl) rfl dX11_joinedIn_40 ?_
      refine zq_goto (tgt := 5) dX11_joinedIn_43 rfl ?_
      exact zq_sub (ls' := [(0, .ref 53), (1, .long l1), (3, .int (i3 + x5)), (4, .int (i4 + (nI 1)))]) [2, 3, 1, 0] rfl H
set_option maxHeartbeats 2000000 in
set_option maxRecDepth 20000 in
theorem r_X11_foursAt_0 {d : Nat} {h : AH} {Q : Option Value → AH → Prop} (i1 : Int32) (i2 : Int32) (hw : zWF h)  (H : vp_in i1 40 ∧ (vp_in i2 40 ∧ (zK d m_X11_joinedIn [.ref 53, .long ((h.L 58 i1.toNatClampNeg) &&& (h.L 58 i2.toNatClampNeg))] h (pI h fun x3 => Q (some (.int x3)) h)))) : zK (d + 1) m_X11_foursAt [.ref 53, .int i1, .int i2] h Q := by
  refine zK_of mo_X11_foursAt (Nat.le_of_ble_eq_true rfl) ?_
  show zQ none m_X11_foursAt (d + 1) 0 [(0, .ref 53), (1, .int i1), (2, .int i2)] [] h Q
  refine zq_aload_n (k := 0) (i := 0) (x := 53) 0 rfl rfl dX11_foursAt_0 ?_
  refine zq_aload_n (k := 0) (i := 0) (x := 53) 0 rfl rfl dX11_foursAt_1 ?_
  refine zq_getP fl_RX11_24 rfl (sh_53 hw) (rf_53_4 hw) dX11_foursAt_2 ?_
  refine zq_iload_n (k := 1) (i := 1) (x := i1) 1 rfl rfl dX11_foursAt_5 ?_
  obtain ⟨b1, H⟩ := H
  refine zq_lald (sh_58 hw) b1 dX11_foursAt_6 ?_
  refine zq_aload_n (k := 0) (i := 0) (x := 53) 0 rfl rfl dX11_foursAt_7 ?_
  refine zq_getP fl_RX11_24 rfl (sh_53 hw) (rf_53_4 hw) dX11_foursAt_8 ?_
  refine zq_iload_n (k := 2) (i := 2) (x := i2) 2 rfl rfl dX11_foursAt_11 ?_
  obtain ⟨b2, H⟩ := H
  refine zq_lald (sh_58 hw) b2 dX11_foursAt_12 ?_
  refine zq_land dX11_foursAt_13 ?_
  refine zq_invV (as := [.long ((h.L 58 i1.toNatClampNeg) &&& (h.L 58 i2.toNatClampNeg))]) (st := []) (o := 53) (c := 10) (by decide) rfl (sh_53 hw) in_X11_joinedIn se_X11_joinedIn mo_X11_joinedIn ml_RX11_141 rfl (Nat.le_of_ble_eq_true rfl) dX11_foursAt_14 rfl H (fun r1 h1 hq => ?_)
  obtain ⟨x3, rfl, rfl, H⟩ := hq
  show zQ none m_X11_foursAt (d + 1) 17 [(0, .ref 53), (1, .int i1), (2, .int i2)] (.int x3 :: []) h Q
  exact zq_iret dX11_foursAt_17 rfl rfl rfl H
set_option maxHeartbeats 2000000 in
set_option maxRecDepth 20000 in
theorem r_X11_foursOf_0 {d : Nat} {h : AH} {Q : Option Value → AH → Prop} (i1 : Int32) (hw : zWF h)  (H : zQ none m_X11_foursOf (d + 1) 4 [(0, .ref 53), (1, .int i1), (2, .int (nI 0)), (3, .int (nI 0))] [] h Q) : zK (d + 1) m_X11_foursOf [.ref 53, .int i1] h Q := by
  refine zK_of mo_X11_foursOf (Nat.le_of_ble_eq_true rfl) ?_
  show zQ none m_X11_foursOf (d + 1) 0 [(0, .ref 53), (1, .int i1)] [] h Q
  refine zq_iconst (v := (nI 0)) rfl dX11_foursOf_0 ?_
  refine zq_istore_n (ls' := [(2, .int (nI 0)), (0, .ref 53), (1, .int i1)]) (k := 2) (i := 2) rfl (Nat.le_of_ble_eq_true rfl) rfl dX11_foursOf_1 ?_
  refine zq_iconst (v := (nI 0)) rfl dX11_foursOf_2 ?_
  refine zq_istore_n (ls' := [(3, .int (nI 0)), (2, .int (nI 0)), (0, .ref 53), (1, .int i1)]) (k := 3) (i := 3) rfl (Nat.le_of_ble_eq_true rfl) rfl dX11_foursOf_3 ?_
  exact zq_sub (ls' := [(0, .ref 53), (1, .int i1), (2, .int (nI 0)), (3, .int (nI 0))]) [2, 3, 1, 0] rfl H
set_option maxHeartbeats 2000000 in
set_option maxRecDepth 20000 in
theorem r_X11_foursOf_4 {d : Nat} {h : AH} {Q : Option Value → AH → Prop} (i1 : Int32) (i2 : Int32) (i3 : Int32) (hw : zWF h)  (H : ((nI 40) ≤ i3 → Q (some (.int (i2 / (nI 3)))) h) ∧ (¬ (nI 40) ≤ i3 → zK d m_X11_isEdge [.ref 53, .int i1, .int i3] h (pI h fun x2 => (x2 = 0 → zQ none m_X11_foursOf (d + 1) 4 [(0, .ref 53), (1, .int i1), (2, .int (i2 + (nI 0))), (3, .int (i3 + (nI 1)))] [] h Q) ∧ (¬ x2 = 0 → zK d m_X11_foursAt [.ref 53, .int i1, .int i3] h (pI h fun x4 => zQ none m_X11_foursOf (d + 1) 4 [(0, .ref 53), (1, .int i1), (2, .int (i2 + x4)), (3, .int (i3 + (nI 1)))] [] h Q))))) : zQ none m_X11_foursOf (d + 1) 4 [(0, .ref 53), (1, .int i1), (2, .int i2), (3, .int i3)] [] h Q := by
  refine zq_iload_n (k := 3) (i := 3) (x := i3) 3 rfl rfl dX11_foursOf_4 ?_
  refine zq_bipush (v := (nI 40)) rfl dX11_foursOf_5 ?_
  refine zq_icmp_ge (tgt := 38) dX11_foursOf_7 rfl ⟨fun c1 => ?_, fun c1 => ?_⟩
  · have H := H.1 c1
    refine zq_iload_n (k := 2) (i := 2) (x := i2) 2 rfl rfl dX11_foursOf_38 ?_
    refine zq_iconst (v := (nI 3)) rfl dX11_foursOf_39 ?_
    refine zq_idiv (by decide) dX11_foursOf_40 ?_
    exact zq_iret dX11_foursOf_41 rfl rfl rfl H
  · have H := H.2 c1
    refine zq_iload_n (k := 2) (i := 2) (x := i2) 2 rfl rfl dX11_foursOf_10 ?_
    refine zq_aload_n (k := 0) (i := 0) (x := 53) 0 rfl rfl dX11_foursOf_11 ?_
    refine zq_iload_n (k := 1) (i := 1) (x := i1) 1 rfl rfl dX11_foursOf_12 ?_
    refine zq_iload_n (k := 3) (i := 3) (x := i3) 3 rfl rfl dX11_foursOf_13 ?_
    refine zq_invV (as := [.int i1, .int i3]) (st := .int i2 :: []) (o := 53) (c := 10) (by decide) rfl (sh_53 hw) in_X11_isEdge se_X11_isEdge mo_X11_isEdge ml_RX11_116 rfl (Nat.le_of_ble_eq_true rfl) dX11_foursOf_14 rfl H (fun r1 h1 hq => ?_)
    obtain ⟨x2, rfl, rfl, H⟩ := hq
    show zQ none m_X11_foursOf (d + 1) 17 [(0, .ref 53), (1, .int i1), (2, .int i2), (3, .int i3)] (.int x2 :: .int i2 :: []) h Q
    refine zq_if_eq (tgt := 29) dX11_foursOf_17 rfl ⟨fun c3 => ?_, fun c3 => ?_⟩
    · have H := H.1 c3
      refine zq_iconst (v := (nI 0)) rfl dX11_foursOf_29 ?_
      refine zq_iadd dX11_foursOf_30 ?_
      refine zq_istore_n (ls' := [(2, .int (i2 + (nI 0))), (0, .ref 53), (1, .int i1), (3, .int i3)]) (k := 2) (i := 2) rfl (Nat.le_of_ble_eq_true rfl) rfl dX11_foursOf_31 ?_
      refine zq_iinc (i := 3) (x := i3) (v := (nI 1)) (ls' := [(3, .int (i3 + (nI 1))), (2, .int (i2 + (nI 0))), (0, .ref 53), (1, .int i1)]) 3 rfl rfl (Nat.le_of_ble_eq_true rfl) rfl dX11_foursOf_32 ?_
      refine zq_goto (tgt := 4) dX11_foursOf_35 rfl ?_
      exact zq_sub (ls' := [(0, .ref 53), (1, .int i1), (2, .int (i2 + (nI 0))), (3, .int (i3 + (nI 1)))]) [2, 3, 1, 0] rfl H
    · have H := H.2 c3
      refine zq_aload_n (k := 0) (i := 0) (x := 53) 0 rfl rfl dX11_foursOf_20 ?_
      refine zq_iload_n (k := 1) (i := 1) (x := i1) 1 rfl rfl dX11_foursOf_21 ?_
      refine zq_iload_n (k := 3) (i := 3) (x := i3) 3 rfl rfl dX11_foursOf_22 ?_
      refine zq_invV (as := [.int i1, .int i3]) (st := .int i2 :: []) (o := 53) (c := 10) (by decide) rfl (sh_53 hw) in_X11_foursAt se_X11_foursAt mo_X11_foursAt ml_RX11_144 rfl (Nat.le_of_ble_eq_true rfl) dX11_foursOf_23 rfl H (fun r1 h1 hq => ?_)
      obtain ⟨x4, rfl, rfl, H⟩ := hq
      show zQ none m_X11_foursOf (d + 1) 26 [(0, .ref 53), (1, .int i1), (2, .int i2), (3, .int i3)] (.int x4 :: .int i2 :: []) h Q
      refine zq_goto (tgt := 30) dX11_foursOf_26 rfl ?_
      refine zq_iadd dX11_foursOf_30 ?_
      refine zq_istore_n (ls' := [(2, .int (i2 + x4)), (0, .ref 53), (1, .int i1), (3, .int i3)]) (k := 2) (i := 2) rfl (Nat.le_of_ble_eq_true rfl) rfl dX11_foursOf_31 ?_
      refine zq_iinc (i := 3) (x := i3) (v := (nI 1)) (ls' := [(3, .int (i3 + (nI 1))), (2, .int (i2 + x4)), (0, .ref 53), (1, .int i1)]) 3 rfl rfl (Nat.le_of_ble_eq_true rfl) rfl dX11_foursOf_32 ?_
      refine zq_goto (tgt := 4) dX11_foursOf_35 rfl ?_
      exact zq_sub (ls' := [(0, .ref 53), (1, .int i1), (2, .int (i2 + x4)), (3, .int (i3 + (nI 1)))]) [2, 3, 1, 0] rfl H
set_option maxHeartbeats 2000000 in
set_option maxRecDepth 20000 in
theorem r_X11_fours_0 {d : Nat} {h : AH} {Q : Option Value → AH → Prop}  (hw : zWF h)  (H : zQ none m_X11_fours (d + 1) 4 [(0, .ref 53), (1, .int (nI 0)), (2, .int (nI 0))] [] h Q) : zK (d + 1) m_X11_fours [.ref 53] h Q := by
  refine zK_of mo_X11_fours (Nat.le_of_ble_eq_true rfl) ?_
  show zQ none m_X11_fours (d + 1) 0 [(0, .ref 53)] [] h Q
  refine zq_iconst (v := (nI 0)) rfl dX11_fours_0 ?_
  refine zq_istore_n (ls' := [(1, .int (nI 0)), (0, .ref 53)]) (k := 1) (i := 1) rfl (Nat.le_of_ble_eq_true rfl) rfl dX11_fours_1 ?_
  refine zq_iconst (v := (nI 0)) rfl dX11_fours_2 ?_
  refine zq_istore_n (ls' := [(2, .int (nI 0)), (1, .int (nI 0)), (0, .ref 53)]) (k := 2) (i := 2) rfl (Nat.le_of_ble_eq_true rfl) rfl dX11_fours_3 ?_
  exact zq_sub (ls' := [(0, .ref 53), (1, .int (nI 0)), (2, .int (nI 0))]) [2, 1, 0] rfl H
set_option maxHeartbeats 2000000 in
set_option maxRecDepth 20000 in
theorem r_X11_fours_4 {d : Nat} {h : AH} {Q : Option Value → AH → Prop} (i1 : Int32) (i2 : Int32) (hw : zWF h)  (H : ((nI 40) ≤ i2 → Q (some (.int (i1 / (nI 4)))) h) ∧ (¬ (nI 40) ≤ i2 → zK d m_X11_foursOf [.ref 53, .int i2] h (pI h fun x2 => zQ none m_X11_fours (d + 1) 4 [(0, .ref 53), (1, .int (i1 + x2)), (2, .int (i2 + (nI 1)))] [] h Q))) : zQ none m_X11_fours (d + 1) 4 [(0, .ref 53), (1, .int i1), (2, .int i2)] [] h Q := by
  refine zq_iload_n (k := 2) (i := 2) (x := i2) 2 rfl rfl dX11_fours_4 ?_
  refine zq_bipush (v := (nI 40)) rfl dX11_fours_5 ?_
  refine zq_icmp_ge (tgt := 24) dX11_fours_7 rfl ⟨fun c1 => ?_, fun c1 => ?_⟩
  · have H := H.1 c1
    refine zq_iload_n (k := 1) (i := 1) (x := i1) 1 rfl rfl dX11_fours_24 ?_
    refine zq_iconst (v := (nI 4)) rfl dX11_fours_25 ?_
    refine zq_idiv (by decide) dX11_fours_26 ?_
    exact zq_iret dX11_fours_27 rfl rfl rfl H
  · have H := H.2 c1
    refine zq_iload_n (k := 1) (i := 1) (x := i1) 1 rfl rfl dX11_fours_10 ?_
    refine zq_aload_n (k := 0) (i := 0) (x := 53) 0 rfl rfl dX11_fours_11 ?_
    refine zq_iload_n (k := 2) (i := 2) (x := i2) 2 rfl rfl dX11_fours_12 ?_
    refine zq_invV (as := [.int i2]) (st := .int i1 :: []) (o := 53) (c := 10) (by decide) rfl (sh_53 hw) in_X11_foursOf se_X11_foursOf mo_X11_foursOf ml_RX11_147 rfl (Nat.le_of_ble_eq_true rfl) dX11_fours_13 rfl H (fun r1 h1 hq => ?_)
    obtain ⟨x2, rfl, rfl, H⟩ := hq
    show zQ none m_X11_fours (d + 1) 16 [(0, .ref 53), (1, .int i1), (2, .int i2)] (.int x2 :: .int i1 :: []) h Q
    refine zq_iadd dX11_fours_16 ?_
    refine zq_istore_n (ls' := [(1, .int (i1 + x2)), (0, .ref 53), (2, .int i2)]) (k := 1) (i := 1) rfl (Nat.le_of_ble_eq_true rfl) rfl dX11_fours_17 ?_
    refine zq_iinc (i := 2) (x := i2) (v := (nI 1)) (ls' := [(2, .int (i2 + (nI 1))), (1, .int (i1 + x2)), (0, .ref 53)]) 2 rfl rfl (Nat.le_of_ble_eq_true rfl) rfl dX11_fours_18 ?_
    refine zq_goto (tgt := 4) dX11_fours_21 rfl ?_
    exact zq_sub (ls' := [(0, .ref 53), (1, .int (i1 + x2)), (2, .int (i2 + (nI 1)))]) [2, 1, 0] rfl H
set_option maxHeartbeats 2000000 in
set_option maxRecDepth 20000 in
theorem r_X11_ways_0 {d : Nat} {h : AH} {Q : Option Value → AH → Prop} (i1 : Int32) (i2 : Int32) (hw : zWF h)  (H : zQ none m_X11_ways (d + 1) 5 [(0, .ref 53), (1, .int i1), (2, .int i2), (3, .int (nI 0)), (4, .int (nI 0))] [] h Q) : zK (d + 1) m_X11_ways [.ref 53, .int i1, .int i2] h Q := by
  refine zK_of mo_X11_ways (Nat.le_of_ble_eq_true rfl) ?_
  show zQ none m_X11_ways (d + 1) 0 [(0, .ref 53), (1, .int i1), (2, .int i2)] [] h Q
  refine zq_iconst (v := (nI 0)) rfl dX11_ways_0 ?_
  refine zq_istore_n (ls' := [(3, .int (nI 0)), (0, .ref 53), (1, .int i1), (2, .int i2)]) (k := 3) (i := 3) rfl (Nat.le_of_ble_eq_true rfl) rfl dX11_ways_1 ?_
  refine zq_iconst (v := (nI 0)) rfl dX11_ways_2 ?_
  refine zq_istore (ls' := [(4, .int (nI 0)), (3, .int (nI 0)), (0, .ref 53), (1, .int i1), (2, .int i2)]) (i := 4) (Nat.le_of_ble_eq_true rfl) rfl dX11_ways_3 ?_
  exact zq_sub (ls' := [(0, .ref 53), (1, .int i1), (2, .int i2), (3, .int (nI 0)), (4, .int (nI 0))]) [2, 3, 4, 1, 0] rfl H
set_option maxHeartbeats 2000000 in
set_option maxRecDepth 20000 in
theorem r_X11_ways_5 {d : Nat} {h : AH} {Q : Option Value → AH → Prop} (i1 : Int32) (i2 : Int32) (i3 : Int32) (i4 : Int32) (hw : zWF h)  (H : ((nI 40) ≤ i4 → Q (some (.int i3)) h) ∧ (¬ (nI 40) ≤ i4 → vp_in i1 40 ∧ (zK d m_X11_has [.long (h.L 58 i1.toNatClampNeg), .int i4] h (pI h fun x3 => (x3 = 0 → zQ none m_X11_ways (d + 1) 5 [(0, .ref 53), (1, .int i1), (2, .int i2), (3, .int i3), (4, .int (i4 + (nI 1)))] [] h Q) ∧ (¬ x3 = 0 → (i4 = i2 → zQ none m_X11_ways (d + 1) 5 [(0, .ref 53), (1, .int i1), (2, .int i2), (3, .int i3), (4, .int (i4 + (nI 1)))] [] h Q) ∧ (¬ i4 = i2 → vp_in i4 40 ∧ (vp_in i2 40 ∧ (zK d m_X11_bits [.long (((h.L 58 i4.toNatClampNeg) &&& (h.L 58 i2.toNatClampNeg)) &&& (((1 : Int64) <<< (i1.toInt64 &&& 63)) ^^^ (-1 : Int64)))] h (pI h fun x8 => zQ none m_X11_ways (d + 1) 5 [(0, .ref 53), (1, .int i1), (2, .int i2), (3, .int (i3 + x8)), (4, .int (i4 + (nI 1)))] [] h Q))))))))) : zQ none m_X11_ways (d + 1) 5 [(0, .ref 53), (1, .int i1), (2, .int i2), (3, .int i3), (4, .int i4)] [] h Q := by
  refine zq_iload (i := 4) (x := i4) 4 rfl dX11_ways_5 ?_
  refine zq_bipush (v := (nI 40)) rfl dX11_ways_7 ?_
  refine zq_icmp_ge (tgt := 66) dX11_ways_9 rfl ⟨fun c1 => ?_, fun c1 => ?_⟩
  · have H := H.1 c1
    refine zq_iload_n (k := 3) (i := 3) (x := i3) 3 rfl rfl dX11_ways_66 ?_
    exact zq_iret dX11_ways_67 rfl rfl rfl H
  · have H := H.2 c1
    refine zq_aload_n (k := 0) (i := 0) (x := 53) 0 rfl rfl dX11_ways_12 ?_
    refine zq_getP fl_RX11_24 rfl (sh_53 hw) (rf_53_4 hw) dX11_ways_13 ?_
    refine zq_iload_n (k := 1) (i := 1) (x := i1) 1 rfl rfl dX11_ways_16 ?_
    obtain ⟨b2, H⟩ := H
    refine zq_lald (sh_58 hw) b2 dX11_ways_17 ?_
    refine zq_iload (i := 4) (x := i4) 4 rfl dX11_ways_18 ?_
    refine zq_invS (as := [.long (h.L 58 i1.toNatClampNeg), .int i4]) (st := []) st_X11_has mo_X11_has ml_RX11_72 rfl (Nat.le_of_ble_eq_true rfl) dX11_ways_20 rfl H (fun r1 h1 hq => ?_)
    obtain ⟨x3, rfl, rfl, H⟩ := hq
    show zQ none m_X11_ways (d + 1) 23 [(0, .ref 53), (1, .int i1), (2, .int i2), (3, .int i3), (4, .int i4)] (.int x3 :: []) h Q
    refine zq_if_eq (tgt := 60) dX11_ways_23 rfl ⟨fun c4 => ?_, fun c4 => ?_⟩
    · have H := H.1 c4
      refine zq_iinc (i := 4) (x := i4) (v := (nI 1)) (ls' := [(4, .int (i4 + (nI 1))), (0, .ref 53), (1, .int i1), (2, .int i2), (3, .int i3)]) 4 rfl rfl (Nat.le_of_ble_eq_true rfl) rfl dX11_ways_60 ?_
      refine zq_goto (tgt := 5) dX11_ways_63 rfl ?_
      exact zq_sub (ls' := [(0, .ref 53), (1, .int i1), (2, .int i2), (3, .int i3), (4, .int (i4 + (nI 1)))]) [1, 2, 3, 4, 0] rfl H
    · have H := H.2 c4
      refine zq_iload (i := 4) (x := i4) 4 rfl dX11_ways_26 ?_
      refine zq_iload_n (k := 2) (i := 2) (x := i2) 2 rfl rfl dX11_ways_28 ?_
      refine zq_icmp_eq (tgt := 60) dX11_ways_29 rfl ⟨fun c5 => ?_, fun c5 => ?_⟩
      · have H := H.1 c5
        refine zq_iinc (i := 4) (x := i4) (v := (nI 1)) (ls' := [(4, .int (i4 + (nI 1))), (0, .ref 53), (1, .int i1), (2, .int i2), (3, .int i3)]) 4 rfl rfl (Nat.le_of_ble_eq_true rfl) rfl dX11_ways_60 ?_
        refine zq_goto (tgt := 5) dX11_ways_63 rfl ?_
        exact zq_sub (ls' := [(0, .ref 53), (1, .int i1), (2, .int i2), (3, .int i3), (4, .int (i4 + (nI 1)))]) [1, 2, 3, 4, 0] rfl H
      · have H := H.2 c5
        refine zq_iload_n (k := 3) (i := 3) (x := i3) 3 rfl rfl dX11_ways_32 ?_
        refine zq_aload_n (k := 0) (i := 0) (x := 53) 0 rfl rfl dX11_ways_33 ?_
        refine zq_getP fl_RX11_24 rfl (sh_53 hw) (rf_53_4 hw) dX11_ways_34 ?_
        refine zq_iload (i := 4) (x := i4) 4 rfl dX11_ways_37 ?_
        obtain ⟨b6, H⟩ := H
        refine zq_lald (sh_58 hw) b6 dX11_ways_39 ?_
        refine zq_aload_n (k := 0) (i := 0) (x := 53) 0 rfl rfl dX11_ways_40 ?_
        refine zq_getP fl_RX11_24 rfl (sh_53 hw) (rf_53_4 hw) dX11_ways_41 ?_
        refine zq_iload_n (k := 2) (i := 2) (x := i2) 2 rfl rfl dX11_ways_44 ?_
        obtain ⟨b7, H⟩ := H
        refine zq_lald (sh_58 hw) b7 dX11_ways_45 ?_
        refine zq_land dX11_ways_46 ?_
        refine zq_lconst (v := 1) rfl dX11_ways_47 ?_
        refine zq_iload_n (k := 1) (i := 1) (x := i1) 1 rfl rfl dX11_ways_48 ?_
        refine zq_lshl dX11_ways_49 ?_
        refine zq_ldc2 (v := (-1)) cl_RX11_150 dX11_ways_50 ?_
        refine zq_lxor dX11_ways_53 ?_
        refine zq_land dX11_ways_54 ?_
        refine zq_invS (as := [.long (((h.L 58 i4.toNatClampNeg) &&& (h.L 58 i2.toNatClampNeg)) &&& (((1 : Int64) <<< (i1.toInt64 &&& 63)) ^^^ (-1 : Int64)))]) (st := .int i3 :: []) st_X11_bits mo_X11_bits ml_RX11_76 rfl (Nat.le_of_ble_eq_true rfl) dX11_ways_55 rfl H (fun r1 h1 hq => ?_)
        obtain ⟨x8, rfl, rfl, H⟩ := hq
        show zQ none m_X11_ways (d + 1) 58 [(0, .ref 53), (1, .int i1), (2, .int i2), (3, .int i3), (4, .int i4)] (.int x8 :: .int i3 :: []) h Q
        refine zq_iadd dX11_ways_58 ?_
        refine zq_istore_n (ls' := [(3, .int (i3 + x8)), (0, .ref 53), (1, .int i1), (2, .int i2), (4, .int i4)]) (k := 3) (i := 3) rfl (Nat.le_of_ble_eq_true rfl) rfl dX11_ways_59 ?_
        refine zq_iinc (i := 4) (x := i4) (v := (nI 1)) (ls' := [(4, .int (i4 + (nI 1))), (3, .int (i3 + x8)), (0, .ref 53), (1, .int i1), (2, .int i2)]) 4 rfl rfl (Nat.le_of_ble_eq_true rfl) rfl dX11_ways_60 ?_
        refine zq_goto (tgt := 5) dX11_ways_63 rfl ?_
        exact zq_sub (ls' := [(0, .ref 53), (1, .int i1), (2, .int i2), (3, .int (i3 + x8)), (4, .int (i4 + (nI 1)))]) [2, 3, 4, 1, 0] rfl H
set_option maxHeartbeats 2000000 in
set_option maxRecDepth 20000 in
theorem r_X11_far_0 {d : Nat} {h : AH} {Q : Option Value → AH → Prop} (i1 : Int32) (i2 : Int32) (hw : zWF h)  (H : zQ none m_X11_far (d + 1) 7 [(0, .ref 53), (2, .int i2), (3, .long ((1 : Int64) <<< (i1.toInt64 &&& 63))), (5, .int (nI 0))] [] h Q) : zK (d + 1) m_X11_far [.ref 53, .int i1, .int i2] h Q := by
  refine zK_of mo_X11_far (Nat.le_of_ble_eq_true rfl) ?_
  show zQ none m_X11_far (d + 1) 0 [(0, .ref 53), (1, .int i1), (2, .int i2)] [] h Q
  refine zq_lconst (v := 1) rfl dX11_far_0 ?_
  refine zq_iload_n (k := 1) (i := 1) (x := i1) 1 rfl rfl dX11_far_1 ?_
  refine zq_lshl dX11_far_2 ?_
  refine zq_lstore_n (ls' := [(3, .long ((1 : Int64) <<< (i1.toInt64 &&& 63))), (0, .ref 53), (1, .int i1), (2, .int i2)]) (k := 3) (i := 3) rfl (Nat.le_of_ble_eq_true rfl) rfl dX11_far_3 ?_
  refine zq_iconst (v := (nI 0)) rfl dX11_far_4 ?_
  refine zq_istore (ls' := [(5, .int (nI 0)), (3, .long ((1 : Int64) <<< (i1.toInt64 &&& 63))), (0, .ref 53), (1, .int i1), (2, .int i2)]) (i := 5) (Nat.le_of_ble_eq_true rfl) rfl dX11_far_5 ?_
  exact zq_sub (ls' := [(0, .ref 53), (2, .int i2), (3, .long ((1 : Int64) <<< (i1.toInt64 &&& 63))), (5, .int (nI 0))]) [2, 4, 1, 0] rfl H
set_option maxHeartbeats 2000000 in
set_option maxRecDepth 20000 in
theorem r_X11_far_7 {d : Nat} {h : AH} {Q : Option Value → AH → Prop} (i2 : Int32) (l3 : Int64) (i5 : Int32) (hw : zWF h)  (H : ((nI 40) ≤ i5 → Q (some (.int (-5))) h) ∧ (¬ (nI 40) ≤ i5 → zK d m_X11_has [.long l3, .int i2] h (pI h fun x2 => (x2 = 0 → zQ none m_X11_far (d + 1) 31 [(0, .ref 53), (2, .int i2), (3, .long l3), (5, .int i5), (6, .long l3), (8, .int (nI 0))] [] h Q) ∧ (¬ x2 = 0 → Q (some (.int i5)) h)))) : zQ none m_X11_far (d + 1) 7 [(0, .ref 53), (2, .int i2), (3, .long l3), (5, .int i5)] [] h Q := by
  refine zq_iload (i := 5) (x := i5) 3 rfl dX11_far_7 ?_
  refine zq_bipush (v := (nI 40)) rfl dX11_far_9 ?_
  refine zq_icmp_ge (tgt := 78) dX11_far_11 rfl ⟨fun c1 => ?_, fun c1 => ?_⟩
  · have H := H.1 c1
    refine zq_bipush (v := (-5)) rfl dX11_far_78 ?_
    exact zq_iret dX11_far_80 rfl rfl rfl H
  · have H := H.2 c1
    refine zq_lload_n (k := 3) (i := 3) (x := l3) 2 rfl rfl dX11_far_14 ?_
    refine zq_iload_n (k := 2) (i := 2) (x := i2) 1 rfl rfl dX11_far_15 ?_
    refine zq_invS (as := [.long l3, .int i2]) (st := []) st_X11_has mo_X11_has ml_RX11_72 rfl (Nat.le_of_ble_eq_true rfl) dX11_far_16 rfl H (fun r1 h1 hq => ?_)
    obtain ⟨x2, rfl, rfl, H⟩ := hq
    show zQ none m_X11_far (d + 1) 19 [(0, .ref 53), (2, .int i2), (3, .long l3), (5, .int i5)] (.int x2 :: []) h Q
    refine zq_if_eq (tgt := 25) dX11_far_19 rfl ⟨fun c3 => ?_, fun c3 => ?_⟩
    · have H := H.1 c3
      refine zq_lload_n (k := 3) (i := 3) (x := l3) 2 rfl rfl dX11_far_25 ?_
      refine zq_lstore (ls' := [(6, .long l3), (0, .ref 53), (2, .int i2), (3, .long l3), (5, .int i5)]) (i := 6) (Nat.le_of_ble_eq_true rfl) rfl dX11_far_26 ?_
      refine zq_iconst (v := (nI 0)) rfl dX11_far_28 ?_
      refine zq_istore (ls' := [(8, .int (nI 0)), (6, .long l3), (0, .ref 53), (2, .int i2), (3, .long l3), (5, .int i5)]) (i := 8) (Nat.le_of_ble_eq_true rfl) rfl dX11_far_29 ?_
      exact zq_sub (ls' := [(0, .ref 53), (2, .int i2), (3, .long l3), (5, .int i5), (6, .long l3), (8, .int (nI 0))]) [2, 3, 4, 5, 1, 0] rfl H
    · have H := H.2 c3
      refine zq_iload (i := 5) (x := i5) 3 rfl dX11_far_22 ?_
      exact zq_iret dX11_far_24 rfl rfl rfl H
set_option maxHeartbeats 2000000 in
set_option maxRecDepth 20000 in
theorem r_X11_far_31 {d : Nat} {h : AH} {Q : Option Value → AH → Prop} (i2 : Int32) (l3 : Int64) (i5 : Int32) (l6 : Int64) (i8 : Int32) (hw : zWF h)  (H : ((nI 40) ≤ i8 → zQ none m_X11_far (d + 1) 7 [(0, .ref 53), (2, .int i2), (3, .long l6), (5, .int (i5 + (nI 1)))] [] h Q) ∧ (¬ (nI 40) ≤ i8 → zK d m_X11_has [.long l3, .int i8] h (pI h fun x2 => (x2 = 0 → zQ none m_X11_far (d + 1) 31 [(0, .ref 53), (2, .int i2), (3, .long l3), (5, .int i5), (6, .long (l6 ||| (0 : Int64))), (8, .int (i8 + (nI 1)))] [] h Q) ∧ (¬ x2 = 0 → vp_in i8 40 ∧ (zQ none m_X11_far (d + 1) 31 [(0, .ref 53), (2, .int i2), (3, .long l3), (5, .int i5), (6, .long (l6 ||| (h.L 58 i8.toNatClampNeg))), (8, .int (i8 + (nI 1)))] [] h Q))))) : zQ none m_X11_far (d + 1) 31 [(0, .ref 53), (2, .int i2), (3, .long l3), (5, .int i5), (6, .long l6), (8, .int i8)] [] h Q := by
  refine zq_iload (i := 8) (x := i8) 5 rfl dX11_far_31 ?_
  refine zq_bipush (v := (nI 40)) rfl dX11_far_33 ?_
  refine zq_icmp_ge (tgt := 69) dX11_far_35 rfl ⟨fun c1 => ?_, fun c1 => ?_⟩
  · have H := H.1 c1
    refine zq_lload (i := 6) (x := l6) 4 rfl dX11_far_69 ?_
    refine zq_lstore_n (ls' := [(3, .long l6), (0, .ref 53), (2, .int i2), (5, .int i5), (6, .long l6), (8, .int i8)]) (k := 3) (i := 3) rfl (Nat.le_of_ble_eq_true rfl) rfl dX11_far_71 ?_
    refine zq_iinc (i := 5) (x := i5) (v := (nI 1)) (ls' := [(5, .int (i5 + (nI 1))), (3, .long l6), (0, .ref 53), (2, .int i2), (6, .long l6), (8, .int i8)]) 3 rfl rfl (Nat.le_of_ble_eq_true rfl) rfl dX11_far_72 ?_
    refine zq_goto (tgt := 7) dX11_far_75 rfl ?_
    exact zq_sub (ls' := [(0, .ref 53), (2, .int i2), (3, .long l6), (5, .int (i5 + (nI 1)))]) [2, 3, 1, 0] rfl H
  · have H := H.2 c1
    refine zq_lload (i := 6) (x := l6) 4 rfl dX11_far_38 ?_
    refine zq_lload_n (k := 3) (i := 3) (x := l3) 2 rfl rfl dX11_far_40 ?_
    refine zq_iload (i := 8) (x := i8) 5 rfl dX11_far_41 ?_
    refine zq_invS (as := [.long l3, .int i8]) (st := .long l6 :: []) st_X11_has mo_X11_has ml_RX11_72 rfl (Nat.le_of_ble_eq_true rfl) dX11_far_43 rfl H (fun r1 h1 hq => ?_)
    obtain ⟨x2, rfl, rfl, H⟩ := hq
    show zQ none m_X11_far (d + 1) 46 [(0, .ref 53), (2, .int i2), (3, .long l3), (5, .int i5), (6, .long l6), (8, .int i8)] (.int x2 :: .long l6 :: []) h Q
    refine zq_if_eq (tgt := 59) dX11_far_46 rfl ⟨fun c3 => ?_, fun c3 => ?_⟩
    · have H := H.1 c3
      refine zq_lconst (v := 0) rfl dX11_far_59 ?_
      refine zq_lor dX11_far_60 ?_
      refine zq_lstore (ls' := [(6, .long (l6 ||| (0 : Int64))), (0, .ref 53), (2, .int i2), (3, .long l3), (5, .int i5), (8, .int i8)]) (i := 6) (Nat.le_of_ble_eq_true rfl) rfl dX11_far_61 ?_
      refine zq_iinc (i := 8) (x := i8) (v := (nI 1)) (ls' := [(8, .int (i8 + (nI 1))), (6, .long (l6 ||| (0 : Int64))), (0, .ref 53), (2, .int i2), (3, .long l3), (5, .int i5)]) 5 rfl rfl (Nat.le_of_ble_eq_true rfl) rfl dX11_far_63 ?_
      refine zq_goto (tgt := 31) dX11_far_66 rfl ?_
      exact zq_sub (ls' := [(0, .ref 53), (2, .int i2), (3, .long l3), (5, .int i5), (6, .long (l6 ||| (0 : Int64))), (8, .int (i8 + (nI 1)))]) [2, 3, 4, 5, 1, 0] rfl H
    · have H := H.2 c3
      refine zq_aload_n (k := 0) (i := 0) (x := 53) 0 rfl rfl dX11_far_49 ?_
      refine zq_getP fl_RX11_24 rfl (sh_53 hw) (rf_53_4 hw) dX11_far_50 ?_
      refine zq_iload (i := 8) (x := i8) 5 rfl dX11_far_53 ?_
      obtain ⟨b4, H⟩ := H
      refine zq_lald (sh_58 hw) b4 dX11_far_55 ?_
      refine zq_goto (tgt := 60) dX11_far_56 rfl ?_
      refine zq_lor dX11_far_60 ?_
      refine zq_lstore (ls' := [(6, .long (l6 ||| (h.L 58 i8.toNatClampNeg))), (0, .ref 53), (2, .int i2), (3, .long l3), (5, .int i5), (8, .int i8)]) (i := 6) (Nat.le_of_ble_eq_true rfl) rfl dX11_far_61 ?_
      refine zq_iinc (i := 8) (x := i8) (v := (nI 1)) (ls' := [(8, .int (i8 + (nI 1))), (6, .long (l6 ||| (h.L 58 i8.toNatClampNeg))), (0, .ref 53), (2, .int i2), (3, .long l3), (5, .int i5)]) 5 rfl rfl (Nat.le_of_ble_eq_true rfl) rfl dX11_far_63 ?_
      refine zq_goto (tgt := 31) dX11_far_66 rfl ?_
      exact zq_sub (ls' := [(0, .ref 53), (2, .int i2), (3, .long l3), (5, .int i5), (6, .long (l6 ||| (h.L 58 i8.toNatClampNeg))), (8, .int (i8 + (nI 1)))]) [2, 3, 4, 5, 1, 0] rfl H
set_option maxHeartbeats 2000000 in
set_option maxRecDepth 20000 in
theorem r_X11_coreOf_0 {d : Nat} {h : AH} {Q : Option Value → AH → Prop} (i1 : Int32) (hw : zWF h)  (H : zQ none m_X11_coreOf (d + 1) 7 [(0, .ref 53), (1, .int i1), (2, .long (1099511627775 : Int64)), (4, .int (nI 1))] [] h Q) : zK (d + 1) m_X11_coreOf [.ref 53, .int i1] h Q := by
  refine zK_of mo_X11_coreOf (Nat.le_of_ble_eq_true rfl) ?_
  show zQ none m_X11_coreOf (d + 1) 0 [(0, .ref 53), (1, .int i1)] [] h Q
  refine zq_ldc2 (v := (1099511627775)) cl_RX11_152 dX11_coreOf_0 ?_
  refine zq_lstore_n (ls' := [(2, .long (1099511627775 : Int64)), (0, .ref 53), (1, .int i1)]) (k := 2) (i := 2) rfl (Nat.le_of_ble_eq_true rfl) rfl dX11_coreOf_3 ?_
  refine zq_iconst (v := (nI 1)) rfl dX11_coreOf_4 ?_
  refine zq_istore (ls' := [(4, .int (nI 1)), (2, .long (1099511627775 : Int64)), (0, .ref 53), (1, .int i1)]) (i := 4) (Nat.le_of_ble_eq_true rfl) rfl dX11_coreOf_5 ?_
  exact zq_sub (ls' := [(0, .ref 53), (1, .int i1), (2, .long (1099511627775 : Int64)), (4, .int (nI 1))]) [2, 3, 1, 0] rfl H
set_option maxHeartbeats 2000000 in
set_option maxRecDepth 20000 in
theorem r_X11_coreOf_7 {d : Nat} {h : AH} {Q : Option Value → AH → Prop} (i1 : Int32) (l2 : Int64) (i4 : Int32) (hw : zWF h)  (H : (i4 = 0 → Q (some (.long l2)) h) ∧ (¬ i4 = 0 → zQ none m_X11_coreOf (d + 1) 18 [(0, .ref 53), (1, .int i1), (2, .long l2), (4, .int (nI 0)), (5, .int (nI 0))] [] h Q)) : zQ none m_X11_coreOf (d + 1) 7 [(0, .ref 53), (1, .int i1), (2, .long l2), (4, .int i4)] [] h Q := by
  refine zq_iload (i := 4) (x := i4) 3 rfl dX11_coreOf_7 ?_
  refine zq_if_eq (tgt := 76) dX11_coreOf_9 rfl ⟨fun c1 => ?_, fun c1 => ?_⟩
  · have H := H.1 c1
    refine zq_lload_n (k := 2) (i := 2) (x := l2) 2 rfl rfl dX11_coreOf_76 ?_
    exact zq_lret dX11_coreOf_77 rfl H
  · have H := H.2 c1
    refine zq_iconst (v := (nI 0)) rfl dX11_coreOf_12 ?_
    refine zq_istore (ls' := [(4, .int (nI 0)), (0, .ref 53), (1, .int i1), (2, .long l2)]) (i := 4) (Nat.le_of_ble_eq_true rfl) rfl dX11_coreOf_13 ?_
    refine zq_iconst (v := (nI 0)) rfl dX11_coreOf_15 ?_
    refine zq_istore (ls' := [(5, .int (nI 0)), (4, .int (nI 0)), (0, .ref 53), (1, .int i1), (2, .long l2)]) (i := 5) (Nat.le_of_ble_eq_true rfl) rfl dX11_coreOf_16 ?_
    exact zq_sub (ls' := [(0, .ref 53), (1, .int i1), (2, .long l2), (4, .int (nI 0)), (5, .int (nI 0))]) [2, 3, 4, 1, 0] rfl H
set_option maxHeartbeats 2000000 in
set_option maxRecDepth 20000 in
theorem r_X11_coreOf_18 {d : Nat} {h : AH} {Q : Option Value → AH → Prop} (i1 : Int32) (l2 : Int64) (i4 : Int32) (i5 : Int32) (hw : zWF h)  (H : ((nI 40) ≤ i5 → zQ none m_X11_coreOf (d + 1) 7 [(0, .ref 53), (1, .int i1), (2, .long l2), (4, .int i4)] [] h Q) ∧ (¬ (nI 40) ≤ i5 → zK d m_X11_has [.long l2, .int i5] h (pI h fun x2 => (x2 = 0 → zQ none m_X11_coreOf (d + 1) 18 [(0, .ref 53), (1, .int i1), (2, .long l2), (4, .int i4), (5, .int (i5 + (nI 1)))] [] h Q) ∧ (¬ x2 = 0 → vp_in i5 40 ∧ (zK d m_X11_bits [.long ((h.L 58 i5.toNatClampNeg) &&& l2)] h (pI h fun x5 => (x5 < i1 → zQ none m_X11_coreOf (d + 1) 18 [(0, .ref 53), (1, .int i1), (2, .long (l2 &&& (((1 : Int64) <<< (i5.toInt64 &&& 63)) ^^^ (-1 : Int64)))), (4, .int (nI 1)), (5, .int (i5 + (nI 1)))] [] h Q) ∧ (¬ x5 < i1 → zQ none m_X11_coreOf (d + 1) 18 [(0, .ref 53), (1, .int i1), (2, .long l2), (4, .int i4), (5, .int (i5 + (nI 1)))] [] h Q))))))) : zQ none m_X11_coreOf (d + 1) 18 [(0, .ref 53), (1, .int i1), (2, .long l2), (4, .int i4), (5, .int i5)] [] h Q := by
  refine zq_iload (i := 5) (x := i5) 4 rfl dX11_coreOf_18 ?_
  refine zq_bipush (v := (nI 40)) rfl dX11_coreOf_20 ?_
  refine zq_icmp_ge (tgt := 73) dX11_coreOf_22 rfl ⟨fun c1 => ?_, fun c1 => ?_⟩
  · have H := H.1 c1
    refine zq_goto (tgt := 7) dX11_coreOf_73 rfl ?_
    exact zq_sub (ls' := [(0, .ref 53), (1, .int i1), (2, .long l2), (4, .int i4)]) [0, 1, 2, 3] rfl H
  · have H := H.2 c1
    refine zq_lload_n (k := 2) (i := 2) (x := l2) 2 rfl rfl dX11_coreOf_25 ?_
    refine zq_iload (i := 5) (x := i5) 4 rfl dX11_coreOf_26 ?_
    refine zq_invS (as := [.long l2, .int i5]) (st := []) st_X11_has mo_X11_has ml_RX11_72 rfl (Nat.le_of_ble_eq_true rfl) dX11_coreOf_28 rfl H (fun r1 h1 hq => ?_)
    obtain ⟨x2, rfl, rfl, H⟩ := hq
    show zQ none m_X11_coreOf (d + 1) 31 [(0, .ref 53), (1, .int i1), (2, .long l2), (4, .int i4), (5, .int i5)] (.int x2 :: []) h Q
    refine zq_if_eq (tgt := 67) dX11_coreOf_31 rfl ⟨fun c3 => ?_, fun c3 => ?_⟩
    · have H := H.1 c3
      refine zq_iinc (i := 5) (x := i5) (v := (nI 1)) (ls' := [(5, .int (i5 + (nI 1))), (0, .ref 53), (1, .int i1), (2, .long l2), (4, .int i4)]) 4 rfl rfl (Nat.le_of_ble_eq_true rfl) rfl dX11_coreOf_67 ?_
      refine zq_goto (tgt := 18) dX11_coreOf_70 rfl ?_
      exact zq_sub (ls' := [(0, .ref 53), (1, .int i1), (2, .long l2), (4, .int i4), (5, .int (i5 + (nI 1)))]) [1, 2, 3, 4, 0] rfl H
    · have H := H.2 c3
      refine zq_aload_n (k := 0) (i := 0) (x := 53) 0 rfl rfl dX11_coreOf_34 ?_
      refine zq_getP fl_RX11_24 rfl (sh_53 hw) (rf_53_4 hw) dX11_coreOf_35 ?_
      refine zq_iload (i := 5) (x := i5) 4 rfl dX11_coreOf_38 ?_
      obtain ⟨b4, H⟩ := H
      refine zq_lald (sh_58 hw) b4 dX11_coreOf_40 ?_
      refine zq_lload_n (k := 2) (i := 2) (x := l2) 2 rfl rfl dX11_coreOf_41 ?_
      refine zq_land dX11_coreOf_42 ?_
      refine zq_invS (as := [.long ((h.L 58 i5.toNatClampNeg) &&& l2)]) (st := []) st_X11_bits mo_X11_bits ml_RX11_76 rfl (Nat.le_of_ble_eq_true rfl) dX11_coreOf_43 rfl H (fun r1 h1 hq => ?_)
      obtain ⟨x5, rfl, rfl, H⟩ := hq
      show zQ none m_X11_coreOf (d + 1) 46 [(0, .ref 53), (1, .int i1), (2, .long l2), (4, .int i4), (5, .int i5)] (.int x5 :: []) h Q
      refine zq_iload_n (k := 1) (i := 1) (x := i1) 1 rfl rfl dX11_coreOf_46 ?_
      refine zq_icmp_lt (tgt := 53) dX11_coreOf_47 rfl ⟨fun c6 => ?_, fun c6 => ?_⟩
      · have H := H.1 c6
        refine zq_lload_n (k := 2) (i := 2) (x := l2) 2 rfl rfl dX11_coreOf_53 ?_
        refine zq_lconst (v := 1) rfl dX11_coreOf_54 ?_
        refine zq_iload (i := 5) (x := i5) 4 rfl dX11_coreOf_55 ?_
        refine zq_lshl dX11_coreOf_57 ?_
        refine zq_ldc2 (v := (-1)) cl_RX11_150 dX11_coreOf_58 ?_
        refine zq_lxor dX11_coreOf_61 ?_
        refine zq_land dX11_coreOf_62 ?_
        refine zq_lstore_n (ls' := [(2, .long (l2 &&& (((1 : Int64) <<< (i5.toInt64 &&& 63)) ^^^ (-1 : Int64)))), (0, .ref 53), (1, .int i1), (4, .int i4), (5, .int i5)]) (k := 2) (i := 2) rfl (Nat.le_of_ble_eq_true rfl) rfl dX11_coreOf_63 ?_
        refine zq_iconst (v := (nI 1)) rfl dX11_coreOf_64 ?_
        refine zq_istore (ls' := [(4, .int (nI 1)), (2, .long (l2 &&& (((1 : Int64) <<< (i5.toInt64 &&& 63)) ^^^ (-1 : Int64)))), (0, .ref 53), (1, .int i1), (5, .int i5)]) (i := 4) (Nat.le_of_ble_eq_true rfl) rfl dX11_coreOf_65 ?_
        refine zq_iinc (i := 5) (x := i5) (v := (nI 1)) (ls' := [(5, .int (i5 + (nI 1))), (4, .int (nI 1)), (2, .long (l2 &&& (((1 : Int64) <<< (i5.toInt64 &&& 63)) ^^^ (-1 : Int64)))), (0, .ref 53), (1, .int i1)]) 4 rfl rfl (Nat.le_of_ble_eq_true rfl) rfl dX11_coreOf_67 ?_
        refine zq_goto (tgt := 18) dX11_coreOf_70 rfl ?_
        exact zq_sub (ls' := [(0, .ref 53), (1, .int i1), (2, .long (l2 &&& (((1 : Int64) <<< (i5.toInt64 &&& 63)) ^^^ (-1 : Int64)))), (4, .int (nI 1)), (5, .int (i5 + (nI 1)))]) [3, 4, 2, 1, 0] rfl H
      · have H := H.2 c6
        refine zq_goto (tgt := 67) dX11_coreOf_50 rfl ?_
        refine zq_iinc (i := 5) (x := i5) (v := (nI 1)) (ls' := [(5, .int (i5 + (nI 1))), (0, .ref 53), (1, .int i1), (2, .long l2), (4, .int i4)]) 4 rfl rfl (Nat.le_of_ble_eq_true rfl) rfl dX11_coreOf_67 ?_
        refine zq_goto (tgt := 18) dX11_coreOf_70 rfl ?_
        exact zq_sub (ls' := [(0, .ref 53), (1, .int i1), (2, .long l2), (4, .int i4), (5, .int (i5 + (nI 1)))]) [1, 2, 3, 4, 0] rfl H
set_option maxHeartbeats 2000000 in
set_option maxRecDepth 20000 in
theorem r_X11_cores_0 {d : Nat} {h : AH} {Q : Option Value → AH → Prop}  (hw : zWF h)  (H : zQ none m_X11_cores (d + 1) 2 [(0, .ref 53), (1, .int (nI 0))] [] h Q) : zK (d + 1) m_X11_cores [.ref 53] h Q := by
  refine zK_of mo_X11_cores (Nat.le_of_ble_eq_true rfl) ?_
  show zQ none m_X11_cores (d + 1) 0 [(0, .ref 53)] [] h Q
  refine zq_iconst (v := (nI 0)) rfl dX11_cores_0 ?_
  refine zq_istore_n (ls' := [(1, .int (nI 0)), (0, .ref 53)]) (k := 1) (i := 1) rfl (Nat.le_of_ble_eq_true rfl) rfl dX11_cores_1 ?_
  exact zq_sub (ls' := [(0, .ref 53), (1, .int (nI 0))]) [1, 0] rfl H
set_option maxHeartbeats 2000000 in
set_option maxRecDepth 20000 in
theorem r_X11_cores_2 {d : Nat} {h : AH} {Q : Option Value → AH → Prop} (i1 : Int32) (hw : zWF h)  (H : ((nI 40) ≤ i1 → zK d m_X11_coreOf [.ref 53, .int (nI 1)] h (pL h fun x2 => zQ none m_X11_cores (d + 1) 29 [(0, .ref 53), (1, .int (nI 1)), (2, .long x2)] [] h Q)) ∧ (¬ (nI 40) ≤ i1 → vp_in i1 40 ∧ (∀ h4, h4 = h.sI 60 i1.toNatClampNeg (nI 0) → zQ none m_X11_cores (d + 1) 2 [(0, .ref 53), (1, .int (i1 + (nI 1)))] [] h4 Q))) : zQ none m_X11_cores (d + 1) 2 [(0, .ref 53), (1, .int i1)] [] h Q := by
  refine zq_iload_n (k := 1) (i := 1) (x := i1) 1 rfl rfl dX11_cores_2 ?_
  refine zq_bipush (v := (nI 40)) rfl dX11_cores_3 ?_
  refine zq_icmp_ge (tgt := 21) dX11_cores_5 rfl ⟨fun c1 => ?_, fun c1 => ?_⟩
  · have H := H.1 c1
    refine zq_iconst (v := (nI 1)) rfl dX11_cores_21 ?_
    refine zq_istore_n (ls' := [(1, .int (nI 1)), (0, .ref 53)]) (k := 1) (i := 1) rfl (Nat.le_of_ble_eq_true rfl) rfl dX11_cores_22 ?_
    refine zq_aload_n (k := 0) (i := 0) (x := 53) 1 rfl rfl dX11_cores_23 ?_
    refine zq_iload_n (k := 1) (i := 1) (x := (nI 1)) 0 rfl rfl dX11_cores_24 ?_
    refine zq_invV (as := [.int (nI 1)]) (st := []) (o := 53) (c := 10) (by decide) rfl (sh_53 hw) in_X11_coreOf se_X11_coreOf mo_X11_coreOf ml_RX11_154 rfl (Nat.le_of_ble_eq_true rfl) dX11_cores_25 rfl H (fun r1 h1 hq => ?_)
    obtain ⟨x2, rfl, rfl, H⟩ := hq
    show zQ none m_X11_cores (d + 1) 28 [(1, .int (nI 1)), (0, .ref 53)] (.long x2 :: []) h Q
    refine zq_lstore_n (ls' := [(2, .long x2), (1, .int (nI 1)), (0, .ref 53)]) (k := 2) (i := 2) rfl (Nat.le_of_ble_eq_true rfl) rfl dX11_cores_28 ?_
    exact zq_sub (ls' := [(0, .ref 53), (1, .int (nI 1)), (2, .long x2)]) [2, 1, 0] rfl H
  · have H := H.2 c1
    refine zq_aload_n (k := 0) (i := 0) (x := 53) 0 rfl rfl dX11_cores_8 ?_
    refine zq_getP fl_RX11_31 rfl (sh_53 hw) (rf_53_11 hw) dX11_cores_9 ?_
    refine zq_iload_n (k := 1) (i := 1) (x := i1) 1 rfl rfl dX11_cores_12 ?_
    refine zq_iconst (v := (nI 0)) rfl dX11_cores_13 ?_
    obtain ⟨b3, H⟩ := H
    refine zq_iast (sh_60 hw) b3 dX11_cores_14 (fun h4 eh4 => ?_)
    have H := H h4 eh4
    have wh4 := wf_I eh4 hw
    refine zq_iinc (i := 1) (x := i1) (v := (nI 1)) (ls' := [(1, .int (i1 + (nI 1))), (0, .ref 53)]) 1 rfl rfl (Nat.le_of_ble_eq_true rfl) rfl dX11_cores_15 ?_
    refine zq_goto (tgt := 2) dX11_cores_18 rfl ?_
    exact zq_sub (ls' := [(0, .ref 53), (1, .int (i1 + (nI 1)))]) [1, 0] rfl H
set_option maxHeartbeats 2000000 in
set_option maxRecDepth 20000 in
theorem r_X11_cores_29 {d : Nat} {h : AH} {Q : Option Value → AH → Prop} (i1 : Int32) (l2 : Int64) (hw : zWF h)  (H : ((lg_cmp l2 (0 : Int64)) = 0 → Q none h) ∧ (¬ (lg_cmp l2 (0 : Int64)) = 0 → zQ none m_X11_cores (d + 1) 38 [(0, .ref 53), (1, .int i1), (2, .long l2), (4, .int (nI 0))] [] h Q)) : zQ none m_X11_cores (d + 1) 29 [(0, .ref 53), (1, .int i1), (2, .long l2)] [] h Q := by
  refine zq_lload_n (k := 2) (i := 2) (x := l2) 2 rfl rfl dX11_cores_29 ?_
  refine zq_lconst (v := 0) rfl dX11_cores_30 ?_
  refine zq_lcmp dX11_cores_31 ?_
  refine zq_if_eq (tgt := 80) dX11_cores_32 rfl ⟨fun c1 => ?_, fun c1 => ?_⟩
  · have H := H.1 c1
    exact zq_vret dX11_cores_80 rfl H
  · have H := H.2 c1
    refine zq_iconst (v := (nI 0)) rfl dX11_cores_35 ?_
    refine zq_istore (ls' := [(4, .int (nI 0)), (0, .ref 53), (1, .int i1), (2, .long l2)]) (i := 4) (Nat.le_of_ble_eq_true rfl) rfl dX11_cores_36 ?_
    exact zq_sub (ls' := [(0, .ref 53), (1, .int i1), (2, .long l2), (4, .int (nI 0))]) [1, 2, 3, 0] rfl H
set_option maxHeartbeats 2000000 in
set_option maxRecDepth 20000 in
theorem r_X11_cores_38 {d : Nat} {h : AH} {Q : Option Value → AH → Prop} (i1 : Int32) (l2 : Int64) (i4 : Int32) (hw : zWF h)  (H : ((nI 40) ≤ i4 → zK d m_X11_coreOf [.ref 53, .int (i1 + (nI 1))] h (pL h fun x2 => zQ none m_X11_cores (d + 1) 29 [(0, .ref 53), (1, .int (i1 + (nI 1))), (2, .long x2)] [] h Q)) ∧ (¬ (nI 40) ≤ i4 → zK d m_X11_has [.long l2, .int i4] h (pI h fun x3 => (x3 = 0 → zQ none m_X11_cores (d + 1) 38 [(0, .ref 53), (1, .int i1), (2, .long l2), (4, .int (i4 + (nI 1)))] [] h Q) ∧ (¬ x3 = 0 → vp_in i4 40 ∧ (∀ h6, h6 = h.sI 60 i4.toNatClampNeg i1 → zQ none m_X11_cores (d + 1) 38 [(0, .ref 53), (1, .int i1), (2, .long l2), (4, .int (i4 + (nI 1)))] [] h6 Q))))) : zQ none m_X11_cores (d + 1) 38 [(0, .ref 53), (1, .int i1), (2, .long l2), (4, .int i4)] [] h Q := by
  refine zq_iload (i := 4) (x := i4) 3 rfl dX11_cores_38 ?_
  refine zq_bipush (v := (nI 40)) rfl dX11_cores_40 ?_
  refine zq_icmp_ge (tgt := 68) dX11_cores_42 rfl ⟨fun c1 => ?_, fun c1 => ?_⟩
  · have H := H.1 c1
    refine zq_iinc (i := 1) (x := i1) (v := (nI 1)) (ls' := [(1, .int (i1 + (nI 1))), (0, .ref 53), (2, .long l2), (4, .int i4)]) 1 rfl rfl (Nat.le_of_ble_eq_true rfl) rfl dX11_cores_68 ?_
    refine zq_aload_n (k := 0) (i := 0) (x := 53) 1 rfl rfl dX11_cores_71 ?_
    refine zq_iload_n (k := 1) (i := 1) (x := (i1 + (nI 1))) 0 rfl rfl dX11_cores_72 ?_
    refine zq_invV (as := [.int (i1 + (nI 1))]) (st := []) (o := 53) (c := 10) (by decide) rfl (sh_53 hw) in_X11_coreOf se_X11_coreOf mo_X11_coreOf ml_RX11_154 rfl (Nat.le_of_ble_eq_true rfl) dX11_cores_73 rfl H (fun r1 h1 hq => ?_)
    obtain ⟨x2, rfl, rfl, H⟩ := hq
    show zQ none m_X11_cores (d + 1) 76 [(1, .int (i1 + (nI 1))), (0, .ref 53), (2, .long l2), (4, .int i4)] (.long x2 :: []) h Q
    refine zq_lstore_n (ls' := [(2, .long x2), (1, .int (i1 + (nI 1))), (0, .ref 53), (4, .int i4)]) (k := 2) (i := 2) rfl (Nat.le_of_ble_eq_true rfl) rfl dX11_cores_76 ?_
    refine zq_goto (tgt := 29) dX11_cores_77 rfl ?_
    exact zq_sub (ls' := [(0, .ref 53), (1, .int (i1 + (nI 1))), (2, .long x2)]) [2, 1, 0] rfl H
  · have H := H.2 c1
    refine zq_lload_n (k := 2) (i := 2) (x := l2) 2 rfl rfl dX11_cores_45 ?_
    refine zq_iload (i := 4) (x := i4) 3 rfl dX11_cores_46 ?_
    refine zq_invS (as := [.long l2, .int i4]) (st := []) st_X11_has mo_X11_has ml_RX11_72 rfl (Nat.le_of_ble_eq_true rfl) dX11_cores_48 rfl H (fun r1 h1 hq => ?_)
    obtain ⟨x3, rfl, rfl, H⟩ := hq
    show zQ none m_X11_cores (d + 1) 51 [(0, .ref 53), (1, .int i1), (2, .long l2), (4, .int i4)] (.int x3 :: []) h Q
    refine zq_if_eq (tgt := 62) dX11_cores_51 rfl ⟨fun c4 => ?_, fun c4 => ?_⟩
    · have H := H.1 c4
      refine zq_iinc (i := 4) (x := i4) (v := (nI 1)) (ls' := [(4, .int (i4 + (nI 1))), (0, .ref 53), (1, .int i1), (2, .long l2)]) 3 rfl rfl (Nat.le_of_ble_eq_true rfl) rfl dX11_cores_62 ?_
      refine zq_goto (tgt := 38) dX11_cores_65 rfl ?_
      exact zq_sub (ls' := [(0, .ref 53), (1, .int i1), (2, .long l2), (4, .int (i4 + (nI 1)))]) [1, 2, 3, 0] rfl H
    · have H := H.2 c4
      refine zq_aload_n (k := 0) (i := 0) (x := 53) 0 rfl rfl dX11_cores_54 ?_
      refine zq_getP fl_RX11_31 rfl (sh_53 hw) (rf_53_11 hw) dX11_cores_55 ?_
      refine zq_iload (i := 4) (x := i4) 3 rfl dX11_cores_58 ?_
      refine zq_iload_n (k := 1) (i := 1) (x := i1) 1 rfl rfl dX11_cores_60 ?_
      obtain ⟨b5, H⟩ := H
      refine zq_iast (sh_60 hw) b5 dX11_cores_61 (fun h6 eh6 => ?_)
      have H := H h6 eh6
      have wh6 := wf_I eh6 hw
      refine zq_iinc (i := 4) (x := i4) (v := (nI 1)) (ls' := [(4, .int (i4 + (nI 1))), (0, .ref 53), (1, .int i1), (2, .long l2)]) 3 rfl rfl (Nat.le_of_ble_eq_true rfl) rfl dX11_cores_62 ?_
      refine zq_goto (tgt := 38) dX11_cores_65 rfl ?_
      exact zq_sub (ls' := [(0, .ref 53), (1, .int i1), (2, .long l2), (4, .int (i4 + (nI 1)))]) [1, 2, 3, 0] rfl H
set_option maxHeartbeats 2000000 in
set_option maxRecDepth 20000 in
theorem r_X11_coreAt_0 {d : Nat} {h : AH} {Q : Option Value → AH → Prop} (i1 : Int32) (hw : zWF h)  (H : zK d m_X11_cores [.ref 53] h (kV fun h1 => vp_in i1 40 ∧ (Q (some (.int (h1.I 60 i1.toNatClampNeg))) h1))) : zK (d + 1) m_X11_coreAt [.ref 53, .int i1] h Q := by
  refine zK_of mo_X11_coreAt (Nat.le_of_ble_eq_true rfl) ?_
  show zQ none m_X11_coreAt (d + 1) 0 [(0, .ref 53), (1, .int i1)] [] h Q
  refine zq_aload_n (k := 0) (i := 0) (x := 53) 0 rfl rfl dX11_coreAt_0 ?_
  refine zq_invV (as := []) (st := []) (o := 53) (c := 10) (by decide) rfl (sh_53 hw) in_X11_cores se_X11_cores mo_X11_cores ml_RX11_158 rfl (Nat.le_of_ble_eq_true rfl) dX11_coreAt_1 rfl H (fun r1 h1 hq => ?_)
  obtain ⟨rfl, wh1, H⟩ := hq
  show zQ none m_X11_coreAt (d + 1) 4 [(0, .ref 53), (1, .int i1)] ([]) h1 Q
  refine zq_aload_n (k := 0) (i := 0) (x := 53) 0 rfl rfl dX11_coreAt_4 ?_
  refine zq_getP fl_RX11_31 rfl (sh_53 wh1) (rf_53_11 wh1) dX11_coreAt_5 ?_
  refine zq_iload_n (k := 1) (i := 1) (x := i1) 1 rfl rfl dX11_coreAt_8 ?_
  obtain ⟨b2, H⟩ := H
  refine zq_iald (sh_60 wh1) b2 dX11_coreAt_9 ?_
  exact zq_iret dX11_coreAt_10 rfl rfl rfl H
set_option maxHeartbeats 2000000 in
set_option maxRecDepth 20000 in
theorem r_X11_of_0 {d : Nat} {h : AH} {Q : Option Value → AH → Prop} (i1 : Int32) (i2 : Int32) (hw : zWF h)  (H : zK d m_X11_isVertex [.int i1] h (pI h fun x1 => (x1 ≠ 0 → (i2.toInt < 0 ∨ 5 < i2.toInt → Q (some (.int (-1))) h) ∧ (i2 = nI 0 → zK d m_X11_degree [.ref 53, .int i1] h (pI h fun x3 => Q (some (.int x3)) h)) ∧ (i2 = nI 1 → zK d m_X11_trianglesOf [.ref 53, .int i1] h (pI h fun x4 => Q (some (.int x4)) h)) ∧ (i2 = nI 2 → zK d m_X11_has [.long (h.L 53 6), .int i1] h (pI h fun x5 => (x5 = 0 → Q (some (.int (nI 0))) h) ∧ (¬ x5 = 0 → Q (some (.int (nI 1))) h))) ∧ (i2 = nI 3 → zK d m_X11_coreAt [.ref 53, .int i1] h (kI fun x8 h7 => Q (some (.int x8)) h7)) ∧ (i2 = nI 4 → zK d m_X11_ringsOf [.ref 53, .int i1] h (pI h fun x9 => Q (some (.int x9)) h)) ∧ (i2 = nI 5 → zK d m_X11_foursOf [.ref 53, .int i1] h (pI h fun x10 => Q (some (.int x10)) h))) ∧ (x1 = 0 → Q (some (.int (-1))) h))) : zK (d + 1) m_X11_of [.ref 53, .int i1, .int i2] h Q := by
  refine zK_of mo_X11_of (Nat.le_of_ble_eq_true rfl) ?_
  show zQ none m_X11_of (d + 1) 0 [(0, .ref 53), (1, .int i1), (2, .int i2)] [] h Q
  refine zq_iload_n (k := 1) (i := 1) (x := i1) 1 rfl rfl dX11_of_0 ?_
  refine zq_invS (as := [.int i1]) (st := []) st_X11_isVertex mo_X11_isVertex ml_RX11_68 rfl (Nat.le_of_ble_eq_true rfl) dX11_of_1 rfl H (fun r1 h1 hq => ?_)
  obtain ⟨x1, rfl, rfl, H⟩ := hq
  show zQ none m_X11_of (d + 1) 4 [(0, .ref 53), (1, .int i1), (2, .int i2)] (.int x1 :: []) h Q
  refine zq_if_ne (tgt := 9) dX11_of_4 rfl ⟨fun c2 => ?_, fun c2 => ?_⟩
  · have H := H.1 c2
    refine zq_iload_n (k := 2) (i := 2) (x := i2) 2 rfl rfl dX11_of_9 ?_
    by_cases hr : i2.toInt < 0 ∨ 5 < i2.toInt
    · have H := H.1 hr
      refine zq_tabOut (tgt := 95) dX11_of_10 hr rfl ?_
      refine zq_iconst (v := (-1)) rfl dX11_of_95 ?_
      exact zq_iret dX11_of_96 rfl rfl rfl H
    · have H := H.2
      rcases (show i2.toInt = 0 ∨ i2.toInt = 1 ∨ i2.toInt = 2 ∨ i2.toInt = 3 ∨ i2.toInt = 4 ∨ i2.toInt = 5 by omega) with hk | hk | hk | hk | hk | hk
      · have H := H.1 (zr_int (c := 0) hk)
        refine zq_tabIn (off := 38) (tgt := 48) dX11_of_10 (by rw [hk]; decide) (by rw [hk]; decide) (by rw [hk]; rfl) rfl ?_
        refine zq_aload_n (k := 0) (i := 0) (x := 53) 0 rfl rfl dX11_of_48 ?_
        refine zq_iload_n (k := 1) (i := 1) (x := i1) 1 rfl rfl dX11_of_49 ?_
        refine zq_invV (as := [.int i1]) (st := []) (o := 53) (c := 10) (by decide) rfl (sh_53 hw) in_X11_degree se_X11_degree mo_X11_degree ml_RX11_84 rfl (Nat.le_of_ble_eq_true rfl) dX11_of_50 rfl H (fun r1 h1 hq => ?_)
        obtain ⟨x3, rfl, rfl, H⟩ := hq
        show zQ none m_X11_of (d + 1) 53 [(0, .ref 53), (1, .int i1), (2, .int i2)] (.int x3 :: []) h Q
        exact zq_iret dX11_of_53 rfl rfl rfl H
      · have H := H.2.1 (zr_int (c := 1) hk)
        refine zq_tabIn (off := 44) (tgt := 54) dX11_of_10 (by rw [hk]; decide) (by rw [hk]; decide) (by rw [hk]; rfl) rfl ?_
        refine zq_aload_n (k := 0) (i := 0) (x := 53) 0 rfl rfl dX11_of_54 ?_
        refine zq_iload_n (k := 1) (i := 1) (x := i1) 1 rfl rfl dX11_of_55 ?_
        refine zq_invV (as := [.int i1]) (st := []) (o := 53) (c := 10) (by decide) rfl (sh_53 hw) in_X11_trianglesOf se_X11_trianglesOf mo_X11_trianglesOf ml_RX11_132 rfl (Nat.le_of_ble_eq_true rfl) dX11_of_56 rfl H (fun r1 h1 hq => ?_)
        obtain ⟨x4, rfl, rfl, H⟩ := hq
        show zQ none m_X11_of (d + 1) 59 [(0, .ref 53), (1, .int i1), (2, .int i2)] (.int x4 :: []) h Q
        exact zq_iret dX11_of_59 rfl rfl rfl H
      · have H := H.2.2.1 (zr_int (c := 2) hk)
        refine zq_tabIn (off := 50) (tgt := 60) dX11_of_10 (by rw [hk]; decide) (by rw [hk]; decide) (by rw [hk]; rfl) rfl ?_
        refine zq_aload_n (k := 0) (i := 0) (x := 53) 0 rfl rfl dX11_of_60 ?_
        refine zq_getL fl_RX11_80 rfl (sh_53 hw) dX11_of_61 ?_
        refine zq_iload_n (k := 1) (i := 1) (x := i1) 1 rfl rfl dX11_of_64 ?_
        refine zq_invS (as := [.long (h.L 53 6), .int i1]) (st := []) st_X11_has mo_X11_has ml_RX11_72 rfl (Nat.le_of_ble_eq_true rfl) dX11_of_65 rfl H (fun r1 h1 hq => ?_)
        obtain ⟨x5, rfl, rfl, H⟩ := hq
        show zQ none m_X11_of (d + 1) 68 [(0, .ref 53), (1, .int i1), (2, .int i2)] (.int x5 :: []) h Q
        refine zq_if_eq (tgt := 75) dX11_of_68 rfl ⟨fun c6 => ?_, fun c6 => ?_⟩
        · have H := H.1 c6
          refine zq_iconst (v := (nI 0)) rfl dX11_of_75 ?_
          exact zq_iret dX11_of_76 rfl rfl rfl H
        · have H := H.2 c6
          refine zq_iconst (v := (nI 1)) rfl dX11_of_71 ?_
          refine zq_goto (tgt := 76) dX11_of_72 rfl ?_
          exact zq_iret dX11_of_76 rfl rfl rfl H
      · have H := H.2.2.2.1 (zr_int (c := 3) hk)
        refine zq_tabIn (off := 67) (tgt := 77) dX11_of_10 (by rw [hk]; decide) (by rw [hk]; decide) (by rw [hk]; rfl) rfl ?_
        refine zq_aload_n (k := 0) (i := 0) (x := 53) 0 rfl rfl dX11_of_77 ?_
        refine zq_iload_n (k := 1) (i := 1) (x := i1) 1 rfl rfl dX11_of_78 ?_
        refine zq_invV (as := [.int i1]) (st := []) (o := 53) (c := 10) (by decide) rfl (sh_53 hw) in_X11_coreAt se_X11_coreAt mo_X11_coreAt ml_RX11_161 rfl (Nat.le_of_ble_eq_true rfl) dX11_of_79 rfl H (fun r1 h7 hq => ?_)
        obtain ⟨x8, rfl, wh7, H⟩ := hq
        show zQ none m_X11_of (d + 1) 82 [(0, .ref 53), (1, .int i1), (2, .int i2)] (.int x8 :: []) h7 Q
        exact zq_iret dX11_of_82 rfl rfl rfl H
      · have H := H.2.2.2.2.1 (zr_int (c := 4) hk)
        refine zq_tabIn (off := 73) (tgt := 83) dX11_of_10 (by rw [hk]; decide) (by rw [hk]; decide) (by rw [hk]; rfl) rfl ?_
        refine zq_aload_n (k := 0) (i := 0) (x := 53) 0 rfl rfl dX11_of_83 ?_
        refine zq_iload_n (k := 1) (i := 1) (x := i1) 1 rfl rfl dX11_of_84 ?_
        refine zq_invV (as := [.int i1]) (st := []) (o := 53) (c := 10) (by decide) rfl (sh_53 hw) in_X11_ringsOf se_X11_ringsOf mo_X11_ringsOf ml_RX11_138 rfl (Nat.le_of_ble_eq_true rfl) dX11_of_85 rfl H (fun r1 h1 hq => ?_)
        obtain ⟨x9, rfl, rfl, H⟩ := hq
        show zQ none m_X11_of (d + 1) 88 [(0, .ref 53), (1, .int i1), (2, .int i2)] (.int x9 :: []) h Q
        exact zq_iret dX11_of_88 rfl rfl rfl H
      · have H := H.2.2.2.2.2 (zr_int (c := 5) hk)
        refine zq_tabIn (off := 79) (tgt := 89) dX11_of_10 (by rw [hk]; decide) (by rw [hk]; decide) (by rw [hk]; rfl) rfl ?_
        refine zq_aload_n (k := 0) (i := 0) (x := 53) 0 rfl rfl dX11_of_89 ?_
        refine zq_iload_n (k := 1) (i := 1) (x := i1) 1 rfl rfl dX11_of_90 ?_
        refine zq_invV (as := [.int i1]) (st := []) (o := 53) (c := 10) (by decide) rfl (sh_53 hw) in_X11_foursOf se_X11_foursOf mo_X11_foursOf ml_RX11_147 rfl (Nat.le_of_ble_eq_true rfl) dX11_of_91 rfl H (fun r1 h1 hq => ?_)
        obtain ⟨x10, rfl, rfl, H⟩ := hq
        show zQ none m_X11_of (d + 1) 94 [(0, .ref 53), (1, .int i1), (2, .int i2)] (.int x10 :: []) h Q
        exact zq_iret dX11_of_94 rfl rfl rfl H
  · have H := H.2 c2
    refine zq_iconst (v := (-1)) rfl dX11_of_7 ?_
    exact zq_iret dX11_of_8 rfl rfl rfl H
set_option maxHeartbeats 2000000 in
set_option maxRecDepth 20000 in
theorem r_X11_two_0 {d : Nat} {h : AH} {Q : Option Value → AH → Prop} (i1 : Int32) (i2 : Int32) (i3 : Int32) (hw : zWF h)  (H : zK d m_X11_areTwo [.int i1, .int i2] h (pI h fun x1 => (x1 ≠ 0 → (i3.toInt < 0 ∨ 4 < i3.toInt → Q (some (.int (-1))) h) ∧ (i3 = nI 0 → zK d m_X11_shared [.ref 53, .int i1, .int i2] h (pI h fun x3 => Q (some (.int x3)) h)) ∧ (i3 = nI 1 → vp_in i1 40 ∧ (vp_in i2 40 ∧ (zK d m_X11_bits [.long (((h.L 58 i1.toNatClampNeg) &&& (h.L 58 i2.toNatClampNeg)) &&& ((h.L 53 6) ^^^ (-1 : Int64)))] h (pI h fun x6 => Q (some (.int x6)) h)))) ∧ (i3 = nI 2 → zK d m_X11_ways [.ref 53, .int i1, .int i2] h (pI h fun x7 => Q (some (.int x7)) h)) ∧ (i3 = nI 3 → zK d m_X11_isEdge [.ref 53, .int i1, .int i2] h (pI h fun x8 => (x8 = 0 → Q (some (.int (nI 0))) h) ∧ (¬ x8 = 0 → Q (some (.int (nI 1))) h))) ∧ (i3 = nI 4 → zK d m_X11_far [.ref 53, .int i1, .int i2] h (pI h fun x10 => Q (some (.int x10)) h))) ∧ (x1 = 0 → Q (some (.int (-1))) h))) : zK (d + 1) m_X11_two [.ref 53, .int i1, .int i2, .int i3] h Q := by
  refine zK_of mo_X11_two (Nat.le_of_ble_eq_true rfl) ?_
  show zQ none m_X11_two (d + 1) 0 [(0, .ref 53), (1, .int i1), (2, .int i2), (3, .int i3)] [] h Q
  refine zq_iload_n (k := 1) (i := 1) (x := i1) 1 rfl rfl dX11_two_0 ?_
  refine zq_iload_n (k := 2) (i := 2) (x := i2) 2 rfl rfl dX11_two_1 ?_
  refine zq_invS (as := [.int i1, .int i2]) (st := []) st_X11_areTwo mo_X11_areTwo ml_RX11_110 rfl (Nat.le_of_ble_eq_true rfl) dX11_two_2 rfl H (fun r1 h1 hq => ?_)
  obtain ⟨x1, rfl, rfl, H⟩ := hq
  show zQ none m_X11_two (d + 1) 5 [(0, .ref 53), (1, .int i1), (2, .int i2), (3, .int i3)] (.int x1 :: []) h Q
  refine zq_if_ne (tgt := 10) dX11_two_5 rfl ⟨fun c2 => ?_, fun c2 => ?_⟩
  · have H := H.1 c2
    refine zq_iload_n (k := 3) (i := 3) (x := i3) 3 rfl rfl dX11_two_10 ?_
    by_cases hr : i3.toInt < 0 ∨ 4 < i3.toInt
    · have H := H.1 hr
      refine zq_tabOut (tgt := 106) dX11_two_11 hr rfl ?_
      refine zq_iconst (v := (-1)) rfl dX11_two_106 ?_
      exact zq_iret dX11_two_107 rfl rfl rfl H
    · have H := H.2
      rcases (show i3.toInt = 0 ∨ i3.toInt = 1 ∨ i3.toInt = 2 ∨ i3.toInt = 3 ∨ i3.toInt = 4 by omega) with hk | hk | hk | hk | hk
      · have H := H.1 (zr_int (c := 0) hk)
        refine zq_tabIn (off := 33) (tgt := 44) dX11_two_11 (by rw [hk]; decide) (by rw [hk]; decide) (by rw [hk]; rfl) rfl ?_
        refine zq_aload_n (k := 0) (i := 0) (x := 53) 0 rfl rfl dX11_two_44 ?_
        refine zq_iload_n (k := 1) (i := 1) (x := i1) 1 rfl rfl dX11_two_45 ?_
        refine zq_iload_n (k := 2) (i := 2) (x := i2) 2 rfl rfl dX11_two_46 ?_
        refine zq_invV (as := [.int i1, .int i2]) (st := []) (o := 53) (c := 10) (by decide) rfl (sh_53 hw) in_X11_shared se_X11_shared mo_X11_shared ml_RX11_123 rfl (Nat.le_of_ble_eq_true rfl) dX11_two_47 rfl H (fun r1 h1 hq => ?_)
        obtain ⟨x3, rfl, rfl, H⟩ := hq
        show zQ none m_X11_two (d + 1) 50 [(0, .ref 53), (1, .int i1), (2, .int i2), (3, .int i3)] (.int x3 :: []) h Q
        exact zq_iret dX11_two_50 rfl rfl rfl H
      · have H := H.2.1 (zr_int (c := 1) hk)
        refine zq_tabIn (off := 40) (tgt := 51) dX11_two_11 (by rw [hk]; decide) (by rw [hk]; decide) (by rw [hk]; rfl) rfl ?_
        refine zq_aload_n (k := 0) (i := 0) (x := 53) 0 rfl rfl dX11_two_51 ?_
        refine zq_getP fl_RX11_24 rfl (sh_53 hw) (rf_53_4 hw) dX11_two_52 ?_
        refine zq_iload_n (k := 1) (i := 1) (x := i1) 1 rfl rfl dX11_two_55 ?_
        obtain ⟨b4, H⟩ := H
        refine zq_lald (sh_58 hw) b4 dX11_two_56 ?_
        refine zq_aload_n (k := 0) (i := 0) (x := 53) 0 rfl rfl dX11_two_57 ?_
        refine zq_getP fl_RX11_24 rfl (sh_53 hw) (rf_53_4 hw) dX11_two_58 ?_
        refine zq_iload_n (k := 2) (i := 2) (x := i2) 2 rfl rfl dX11_two_61 ?_
        obtain ⟨b5, H⟩ := H
        refine zq_lald (sh_58 hw) b5 dX11_two_62 ?_
        refine zq_land dX11_two_63 ?_
        refine zq_aload_n (k := 0) (i := 0) (x := 53) 0 rfl rfl dX11_two_64 ?_
        refine zq_getL fl_RX11_80 rfl (sh_53 hw) dX11_two_65 ?_
        refine zq_ldc2 (v := (-1)) cl_RX11_150 dX11_two_68 ?_
        refine zq_lxor dX11_two_71 ?_
        refine zq_land dX11_two_72 ?_
        refine zq_invS (as := [.long (((h.L 58 i1.toNatClampNeg) &&& (h.L 58 i2.toNatClampNeg)) &&& ((h.L 53 6) ^^^ (-1 : Int64)))]) (st := []) st_X11_bits mo_X11_bits ml_RX11_76 rfl (Nat.le_of_ble_eq_true rfl) dX11_two_73 rfl H (fun r1 h1 hq => ?_)
        obtain ⟨x6, rfl, rfl, H⟩ := hq
        show zQ none m_X11_two (d + 1) 76 [(0, .ref 53), (1, .int i1), (2, .int i2), (3, .int i3)] (.int x6 :: []) h Q
        exact zq_iret dX11_two_76 rfl rfl rfl H
      · have H := H.2.2.1 (zr_int (c := 2) hk)
        refine zq_tabIn (off := 66) (tgt := 77) dX11_two_11 (by rw [hk]; decide) (by rw [hk]; decide) (by rw [hk]; rfl) rfl ?_
        refine zq_aload_n (k := 0) (i := 0) (x := 53) 0 rfl rfl dX11_two_77 ?_
        refine zq_iload_n (k := 1) (i := 1) (x := i1) 1 rfl rfl dX11_two_78 ?_
        refine zq_iload_n (k := 2) (i := 2) (x := i2) 2 rfl rfl dX11_two_79 ?_
        refine zq_invV (as := [.int i1, .int i2]) (st := []) (o := 53) (c := 10) (by decide) rfl (sh_53 hw) in_X11_ways se_X11_ways mo_X11_ways ml_RX11_164 rfl (Nat.le_of_ble_eq_true rfl) dX11_two_80 rfl H (fun r1 h1 hq => ?_)
        obtain ⟨x7, rfl, rfl, H⟩ := hq
        show zQ none m_X11_two (d + 1) 83 [(0, .ref 53), (1, .int i1), (2, .int i2), (3, .int i3)] (.int x7 :: []) h Q
        exact zq_iret dX11_two_83 rfl rfl rfl H
      · have H := H.2.2.2.1 (zr_int (c := 3) hk)
        refine zq_tabIn (off := 73) (tgt := 84) dX11_two_11 (by rw [hk]; decide) (by rw [hk]; decide) (by rw [hk]; rfl) rfl ?_
        refine zq_aload_n (k := 0) (i := 0) (x := 53) 0 rfl rfl dX11_two_84 ?_
        refine zq_iload_n (k := 1) (i := 1) (x := i1) 1 rfl rfl dX11_two_85 ?_
        refine zq_iload_n (k := 2) (i := 2) (x := i2) 2 rfl rfl dX11_two_86 ?_
        refine zq_invV (as := [.int i1, .int i2]) (st := []) (o := 53) (c := 10) (by decide) rfl (sh_53 hw) in_X11_isEdge se_X11_isEdge mo_X11_isEdge ml_RX11_116 rfl (Nat.le_of_ble_eq_true rfl) dX11_two_87 rfl H (fun r1 h1 hq => ?_)
        obtain ⟨x8, rfl, rfl, H⟩ := hq
        show zQ none m_X11_two (d + 1) 90 [(0, .ref 53), (1, .int i1), (2, .int i2), (3, .int i3)] (.int x8 :: []) h Q
        refine zq_if_eq (tgt := 97) dX11_two_90 rfl ⟨fun c9 => ?_, fun c9 => ?_⟩
        · have H := H.1 c9
          refine zq_iconst (v := (nI 0)) rfl dX11_two_97 ?_
          exact zq_iret dX11_two_98 rfl rfl rfl H
        · have H := H.2 c9
          refine zq_iconst (v := (nI 1)) rfl dX11_two_93 ?_
          refine zq_goto (tgt := 98) dX11_two_94 rfl ?_
          exact zq_iret dX11_two_98 rfl rfl rfl H
      · have H := H.2.2.2.2 (zr_int (c := 4) hk)
        refine zq_tabIn (off := 88) (tgt := 99) dX11_two_11 (by rw [hk]; decide) (by rw [hk]; decide) (by rw [hk]; rfl) rfl ?_
        refine zq_aload_n (k := 0) (i := 0) (x := 53) 0 rfl rfl dX11_two_99 ?_
        refine zq_iload_n (k := 1) (i := 1) (x := i1) 1 rfl rfl dX11_two_100 ?_
        refine zq_iload_n (k := 2) (i := 2) (x := i2) 2 rfl rfl dX11_two_101 ?_
        refine zq_invV (as := [.int i1, .int i2]) (st := []) (o := 53) (c := 10) (by decide) rfl (sh_53 hw) in_X11_far se_X11_far mo_X11_far ml_RX11_167 rfl (Nat.le_of_ble_eq_true rfl) dX11_two_102 rfl H (fun r1 h1 hq => ?_)
        obtain ⟨x10, rfl, rfl, H⟩ := hq
        show zQ none m_X11_two (d + 1) 105 [(0, .ref 53), (1, .int i1), (2, .int i2), (3, .int i3)] (.int x10 :: []) h Q
        exact zq_iret dX11_two_105 rfl rfl rfl H
  · have H := H.2 c2
    refine zq_iconst (v := (-1)) rfl dX11_two_8 ?_
    exact zq_iret dX11_two_9 rfl rfl rfl H
set_option maxHeartbeats 2000000 in
set_option maxRecDepth 20000 in
theorem r_X11_leaves_0 {d : Nat} {h : AH} {Q : Option Value → AH → Prop}  (hw : zWF h)  (H : zQ none m_X11_leaves (d + 1) 2 [(0, .ref 53), (1, .int (nI 0))] [] h Q) : zK (d + 1) m_X11_leaves [.ref 53] h Q := by
  refine zK_of mo_X11_leaves (Nat.le_of_ble_eq_true rfl) ?_
  show zQ none m_X11_leaves (d + 1) 0 [(0, .ref 53)] [] h Q
  refine zq_iconst (v := (nI 0)) rfl dX11_leaves_0 ?_
  refine zq_istore_n (ls' := [(1, .int (nI 0)), (0, .ref 53)]) (k := 1) (i := 1) rfl (Nat.le_of_ble_eq_true rfl) rfl dX11_leaves_1 ?_
  exact zq_sub (ls' := [(0, .ref 53), (1, .int (nI 0))]) [1, 0] rfl H
set_option maxHeartbeats 2000000 in
set_option maxRecDepth 20000 in
theorem r_X11_leaves_2 {d : Nat} {h : AH} {Q : Option Value → AH → Prop} (i1 : Int32) (hw : zWF h)  (H : ((nI 40) ≤ i1 → Q none h) ∧ (¬ (nI 40) ≤ i1 → vp_in i1 40 ∧ (vp_in i1 40 ∧ (∀ h4, h4 = h.sL 61 i1.toNatClampNeg (h.L 58 i1.toNatClampNeg) → zQ none m_X11_leaves (d + 1) 2 [(0, .ref 53), (1, .int (i1 + (nI 1)))] [] h4 Q)))) : zQ none m_X11_leaves (d + 1) 2 [(0, .ref 53), (1, .int i1)] [] h Q := by
  refine zq_iload_n (k := 1) (i := 1) (x := i1) 1 rfl rfl dX11_leaves_2 ?_
  refine zq_bipush (v := (nI 40)) rfl dX11_leaves_3 ?_
  refine zq_icmp_ge (tgt := 26) dX11_leaves_5 rfl ⟨fun c1 => ?_, fun c1 => ?_⟩
  · have H := H.1 c1
    exact zq_vret dX11_leaves_26 rfl H
  · have H := H.2 c1
    refine zq_aload_n (k := 0) (i := 0) (x := 53) 0 rfl rfl dX11_leaves_8 ?_
    refine zq_getP fl_RX11_34 rfl (sh_53 hw) (rf_53_12 hw) dX11_leaves_9 ?_
    refine zq_iload_n (k := 1) (i := 1) (x := i1) 1 rfl rfl dX11_leaves_12 ?_
    refine zq_aload_n (k := 0) (i := 0) (x := 53) 0 rfl rfl dX11_leaves_13 ?_
    refine zq_getP fl_RX11_24 rfl (sh_53 hw) (rf_53_4 hw) dX11_leaves_14 ?_
    refine zq_iload_n (k := 1) (i := 1) (x := i1) 1 rfl rfl dX11_leaves_17 ?_
    obtain ⟨b2, H⟩ := H
    refine zq_lald (sh_58 hw) b2 dX11_leaves_18 ?_
    obtain ⟨b3, H⟩ := H
    refine zq_last (sh_61 hw) b3 dX11_leaves_19 (fun h4 eh4 => ?_)
    have H := H h4 eh4
    have wh4 := wf_L eh4 hw
    refine zq_iinc (i := 1) (x := i1) (v := (nI 1)) (ls' := [(1, .int (i1 + (nI 1))), (0, .ref 53)]) 1 rfl rfl (Nat.le_of_ble_eq_true rfl) rfl dX11_leaves_20 ?_
    refine zq_goto (tgt := 2) dX11_leaves_23 rfl ?_
    exact zq_sub (ls' := [(0, .ref 53), (1, .int (i1 + (nI 1)))]) [1, 0] rfl H
set_option maxHeartbeats 2000000 in
set_option maxRecDepth 20000 in
theorem r_X11_leaves__0 {d : Nat} {h : AH} {Q : Option Value → AH → Prop} (i1 : Int32) (i2 : Int32) (hw : zWF h)  (H : vp_in i1 40 ∧ (vp_in i1 40 ∧ (∀ h3, h3 = h.sL 61 i1.toNatClampNeg ((h.L 61 i1.toNatClampNeg) &&& (((1 : Int64) <<< (i2.toInt64 &&& 63)) ^^^ (-1 : Int64))) → vp_in i2 40 ∧ (vp_in i2 40 ∧ (∀ h6, h6 = h3.sL 61 i2.toNatClampNeg ((h3.L 61 i2.toNatClampNeg) &&& (((1 : Int64) <<< (i1.toInt64 &&& 63)) ^^^ (-1 : Int64))) → Q none h6))))) : zK (d + 1) m_X11_leaves_ [.ref 53, .int i1, .int i2] h Q := by
  refine zK_of mo_X11_leaves_ (Nat.le_of_ble_eq_true rfl) ?_
  show zQ none m_X11_leaves_ (d + 1) 0 [(0, .ref 53), (1, .int i1), (2, .int i2)] [] h Q
  refine zq_aload_n (k := 0) (i := 0) (x := 53) 0 rfl rfl dX11_leaves__0 ?_
  refine zq_getP fl_RX11_34 rfl (sh_53 hw) (rf_53_12 hw) dX11_leaves__1 ?_
  refine zq_iload_n (k := 1) (i := 1) (x := i1) 1 rfl rfl dX11_leaves__4 ?_
  refine zq_dup2 rfl rfl dX11_leaves__5 ?_
  obtain ⟨b1, H⟩ := H
  refine zq_lald (sh_61 hw) b1 dX11_leaves__6 ?_
  refine zq_lconst (v := 1) rfl dX11_leaves__7 ?_
  refine zq_iload_n (k := 2) (i := 2) (x := i2) 2 rfl rfl dX11_leaves__8 ?_
  refine zq_lshl dX11_leaves__9 ?_
  refine zq_ldc2 (v := (-1)) cl_RX11_150 dX11_leaves__10 ?_
  refine zq_lxor dX11_leaves__13 ?_
  refine zq_land dX11_leaves__14 ?_
  obtain ⟨b2, H⟩ := H
  refine zq_last (sh_61 hw) b2 dX11_leaves__15 (fun h3 eh3 => ?_)
  have H := H h3 eh3
  have wh3 := wf_L eh3 hw
  refine zq_aload_n (k := 0) (i := 0) (x := 53) 0 rfl rfl dX11_leaves__16 ?_
  refine zq_getP fl_RX11_34 rfl (sh_53 wh3) (rf_53_12 wh3) dX11_leaves__17 ?_
  refine zq_iload_n (k := 2) (i := 2) (x := i2) 2 rfl rfl dX11_leaves__20 ?_
  refine zq_dup2 rfl rfl dX11_leaves__21 ?_
  obtain ⟨b4, H⟩ := H
  refine zq_lald (sh_61 wh3) b4 dX11_leaves__22 ?_
  refine zq_lconst (v := 1) rfl dX11_leaves__23 ?_
  refine zq_iload_n (k := 1) (i := 1) (x := i1) 1 rfl rfl dX11_leaves__24 ?_
  refine zq_lshl dX11_leaves__25 ?_
  refine zq_ldc2 (v := (-1)) cl_RX11_150 dX11_leaves__26 ?_
  refine zq_lxor dX11_leaves__29 ?_
  refine zq_land dX11_leaves__30 ?_
  obtain ⟨b5, H⟩ := H
  refine zq_last (sh_61 wh3) b5 dX11_leaves__31 (fun h6 eh6 => ?_)
  have H := H h6 eh6
  have wh6 := wf_L eh6 wh3
  exact zq_vret dX11_leaves__32 rfl H
set_option maxHeartbeats 2000000 in
set_option maxRecDepth 20000 in
theorem r_X11_supportLeft_0 {d : Nat} {h : AH} {Q : Option Value → AH → Prop} (i1 : Int32) (hw : zWF h)  (H : vp_in (i1 / (nI 40)) 40 ∧ (vp_in (i1 - i1 / (nI 40) * (nI 40)) 40 ∧ (zK d m_X11_bits [.long ((h.L 61 (i1 / (nI 40)).toNatClampNeg) &&& (h.L 61 (i1 - i1 / (nI 40) * (nI 40)).toNatClampNeg))] h (pI h fun x3 => Q (some (.int x3)) h)))) : zK (d + 1) m_X11_supportLeft [.ref 53, .int i1] h Q := by
  refine zK_of mo_X11_supportLeft (Nat.le_of_ble_eq_true rfl) ?_
  show zQ none m_X11_supportLeft (d + 1) 0 [(0, .ref 53), (1, .int i1)] [] h Q
  refine zq_aload_n (k := 0) (i := 0) (x := 53) 0 rfl rfl dX11_supportLeft_0 ?_
  refine zq_getP fl_RX11_34 rfl (sh_53 hw) (rf_53_12 hw) dX11_supportLeft_1 ?_
  refine zq_iload_n (k := 1) (i := 1) (x := i1) 1 rfl rfl dX11_supportLeft_4 ?_
  refine zq_bipush (v := (nI 40)) rfl dX11_supportLeft_5 ?_
  refine zq_idiv (by decide) dX11_supportLeft_7 ?_
  obtain ⟨b1, H⟩ := H
  refine zq_lald (sh_61 hw) b1 dX11_supportLeft_8 ?_
  refine zq_aload_n (k := 0) (i := 0) (x := 53) 0 rfl rfl dX11_supportLeft_9 ?_
  refine zq_getP fl_RX11_34 rfl (sh_53 hw) (rf_53_12 hw) dX11_supportLeft_10 ?_
  refine zq_iload_n (k := 1) (i := 1) (x := i1) 1 rfl rfl dX11_supportLeft_13 ?_
  refine zq_bipush (v := (nI 40)) rfl dX11_supportLeft_14 ?_
  refine zq_irem (by decide) dX11_supportLeft_16 ?_
  obtain ⟨b2, H⟩ := H
  refine zq_lald (sh_61 hw) b2 dX11_supportLeft_17 ?_
  refine zq_land dX11_supportLeft_18 ?_
  refine zq_invS (as := [.long ((h.L 61 (i1 / (nI 40)).toNatClampNeg) &&& (h.L 61 (i1 - i1 / (nI 40) * (nI 40)).toNatClampNeg))]) (st := []) st_X11_bits mo_X11_bits ml_RX11_76 rfl (Nat.le_of_ble_eq_true rfl) dX11_supportLeft_19 rfl H (fun r1 h1 hq => ?_)
  obtain ⟨x3, rfl, rfl, H⟩ := hq
  show zQ none m_X11_supportLeft (d + 1) 22 [(0, .ref 53), (1, .int i1)] (.int x3 :: []) h Q
  exact zq_iret dX11_supportLeft_22 rfl rfl rfl H
set_option maxHeartbeats 2000000 in
set_option maxRecDepth 20000 in
theorem r_X11_isLeft_0 {d : Nat} {h : AH} {Q : Option Value → AH → Prop} (i1 : Int32) (hw : zWF h)  (H : ((i1 - i1 / (nI 40) * (nI 40)) ≤ (i1 / (nI 40)) → Q (some (.int (nI 0))) h) ∧ (¬ (i1 - i1 / (nI 40) * (nI 40)) ≤ (i1 / (nI 40)) → vp_in (i1 / (nI 40)) 40 ∧ (zK d m_X11_has [.long (h.L 61 (i1 / (nI 40)).toNatClampNeg), .int (i1 - i1 / (nI 40) * (nI 40))] h (pI h fun x3 => (x3 = 0 → Q (some (.int (nI 0))) h) ∧ (¬ x3 = 0 → Q (some (.int (nI 1))) h))))) : zK (d + 1) m_X11_isLeft [.ref 53, .int i1] h Q := by
  refine zK_of mo_X11_isLeft (Nat.le_of_ble_eq_true rfl) ?_
  show zQ none m_X11_isLeft (d + 1) 0 [(0, .ref 53), (1, .int i1)] [] h Q
  refine zq_iload_n (k := 1) (i := 1) (x := i1) 1 rfl rfl dX11_isLeft_0 ?_
  refine zq_bipush (v := (nI 40)) rfl dX11_isLeft_1 ?_
  refine zq_idiv (by decide) dX11_isLeft_3 ?_
  refine zq_iload_n (k := 1) (i := 1) (x := i1) 1 rfl rfl dX11_isLeft_4 ?_
  refine zq_bipush (v := (nI 40)) rfl dX11_isLeft_5 ?_
  refine zq_irem (by decide) dX11_isLeft_7 ?_
  refine zq_icmp_ge (tgt := 34) dX11_isLeft_8 rfl ⟨fun c1 => ?_, fun c1 => ?_⟩
  · have H := H.1 c1
    refine zq_iconst (v := (nI 0)) rfl dX11_isLeft_34 ?_
    exact zq_iret dX11_isLeft_35 rfl rfl rfl H
  · have H := H.2 c1
    refine zq_aload_n (k := 0) (i := 0) (x := 53) 0 rfl rfl dX11_isLeft_11 ?_
    refine zq_getP fl_RX11_34 rfl (sh_53 hw) (rf_53_12 hw) dX11_isLeft_12 ?_
    refine zq_iload_n (k := 1) (i := 1) (x := i1) 1 rfl rfl dX11_isLeft_15 ?_
    refine zq_bipush (v := (nI 40)) rfl dX11_isLeft_16 ?_
    refine zq_idiv (by decide) dX11_isLeft_18 ?_
    obtain ⟨b2, H⟩ := H
    refine zq_lald (sh_61 hw) b2 dX11_isLeft_19 ?_
    refine zq_iload_n (k := 1) (i := 1) (x := i1) 1 rfl rfl dX11_isLeft_20 ?_
    refine zq_bipush (v := (nI 40)) rfl dX11_isLeft_21 ?_
    refine zq_irem (by decide) dX11_isLeft_23 ?_
    refine zq_invS (as := [.long (h.L 61 (i1 / (nI 40)).toNatClampNeg), .int (i1 - i1 / (nI 40) * (nI 40))]) (st := []) st_X11_has mo_X11_has ml_RX11_72 rfl (Nat.le_of_ble_eq_true rfl) dX11_isLeft_24 rfl H (fun r1 h1 hq => ?_)
    obtain ⟨x3, rfl, rfl, H⟩ := hq
    show zQ none m_X11_isLeft (d + 1) 27 [(0, .ref 53), (1, .int i1)] (.int x3 :: []) h Q
    refine zq_if_eq (tgt := 34) dX11_isLeft_27 rfl ⟨fun c4 => ?_, fun c4 => ?_⟩
    · have H := H.1 c4
      refine zq_iconst (v := (nI 0)) rfl dX11_isLeft_34 ?_
      exact zq_iret dX11_isLeft_35 rfl rfl rfl H
    · have H := H.2 c4
      refine zq_iconst (v := (nI 1)) rfl dX11_isLeft_30 ?_
      refine zq_goto (tgt := 35) dX11_isLeft_31 rfl ?_
      exact zq_iret dX11_isLeft_35 rfl rfl rfl H
set_option maxHeartbeats 2000000 in
set_option maxRecDepth 20000 in
theorem r_X11_peels_0 {d : Nat} {h : AH} {Q : Option Value → AH → Prop}  (hw : zWF h)  (H : zK d m_X11_leaves [.ref 53] h (kV fun h1 => ∀ h2, h2 = h1.sI 53 16 (nI 0) → zQ none m_X11_peels (d + 1) 11 [(0, .ref 53), (1, .int (nI 0))] [] h2 Q)) : zK (d + 1) m_X11_peels [.ref 53] h Q := by
  refine zK_of mo_X11_peels (Nat.le_of_ble_eq_true rfl) ?_
  show zQ none m_X11_peels (d + 1) 0 [(0, .ref 53)] [] h Q
  refine zq_aload_n (k := 0) (i := 0) (x := 53) 0 rfl rfl dX11_peels_0 ?_
  refine zq_invV (as := []) (st := []) (o := 53) (c := 10) (by decide) rfl (sh_53 hw) in_X11_leaves se_X11_leaves mo_X11_leaves ml_RX11_170 rfl (Nat.le_of_ble_eq_true rfl) dX11_peels_1 rfl H (fun r1 h1 hq => ?_)
  obtain ⟨rfl, wh1, H⟩ := hq
  show zQ none m_X11_peels (d + 1) 4 [(0, .ref 53)] ([]) h1 Q
  refine zq_iconst (v := (nI 0)) rfl dX11_peels_4 ?_
  refine zq_istore_n (ls' := [(1, .int (nI 0)), (0, .ref 53)]) (k := 1) (i := 1) rfl (Nat.le_of_ble_eq_true rfl) rfl dX11_peels_5 ?_
  refine zq_aload_n (k := 0) (i := 0) (x := 53) 1 rfl rfl dX11_peels_6 ?_
  refine zq_iconst (v := (nI 0)) rfl dX11_peels_7 ?_
  refine zq_putI fl_RX11_173 rfl (Or.inl rfl) (sh_53 wh1) rfl rfl dX11_peels_8 (fun h2 eh2 => ?_)
  have H := H h2 eh2
  have wh2 := wf_I eh2 wh1
  exact zq_sub (ls' := [(0, .ref 53), (1, .int (nI 0))]) [1, 0] rfl H
set_option maxHeartbeats 2000000 in
set_option maxRecDepth 20000 in
theorem r_X11_peels_11 {d : Nat} {h : AH} {Q : Option Value → AH → Prop} (i1 : Int32) (hw : zWF h)  (H : vp_in (nI 5) 187 ∧ (((h.I 54 (nI 5).toNatClampNeg) ≤ (h.I 53 16) → Q none h) ∧ (¬ (h.I 54 (nI 5).toNatClampNeg) ≤ (h.I 53 16) → zQ none m_X11_peels (d + 1) 28 [(0, .ref 53), (1, .int i1), (2, .int (-1)), (3, .int (nI 0))] [] h Q))) : zQ none m_X11_peels (d + 1) 11 [(0, .ref 53), (1, .int i1)] [] h Q := by
  refine zq_aload_n (k := 0) (i := 0) (x := 53) 0 rfl rfl dX11_peels_11 ?_
  refine zq_getI fl_RX11_173 rfl (sh_53 hw) dX11_peels_12 ?_
  refine zq_aload_n (k := 0) (i := 0) (x := 53) 0 rfl rfl dX11_peels_15 ?_
  refine zq_getP fl_RX11_11 rfl (sh_53 hw) (rf_53_0 hw) dX11_peels_16 ?_
  refine zq_iconst (v := (nI 5)) rfl dX11_peels_19 ?_
  obtain ⟨b1, H⟩ := H
  refine zq_iald (sh_54 hw) b1 dX11_peels_20 ?_
  refine zq_icmp_ge (tgt := 137) dX11_peels_21 rfl ⟨fun c2 => ?_, fun c2 => ?_⟩
  · have H := H.1 c2
    exact zq_vret dX11_peels_137 rfl H
  · have H := H.2 c2
    refine zq_iconst (v := (-1)) rfl dX11_peels_24 ?_
    refine zq_istore_n (ls' := [(2, .int (-1)), (0, .ref 53), (1, .int i1)]) (k := 2) (i := 2) rfl (Nat.le_of_ble_eq_true rfl) rfl dX11_peels_25 ?_
    refine zq_iconst (v := (nI 0)) rfl dX11_peels_26 ?_
    refine zq_istore_n (ls' := [(3, .int (nI 0)), (2, .int (-1)), (0, .ref 53), (1, .int i1)]) (k := 3) (i := 3) rfl (Nat.le_of_ble_eq_true rfl) rfl dX11_peels_27 ?_
    exact zq_sub (ls' := [(0, .ref 53), (1, .int i1), (2, .int (-1)), (3, .int (nI 0))]) [2, 3, 1, 0] rfl H
set_option maxHeartbeats 2000000 in
set_option maxRecDepth 20000 in
theorem r_X11_peels_28 {d : Nat} {h : AH} {Q : Option Value → AH → Prop} (i1 : Int32) (i2 : Int32) (i3 : Int32) (hw : zWF h)  (H : ((nI 1600) ≤ i3 → zK d m_X11_supportLeft [.ref 53, .int i2] h (pI h fun x2 => (x2 ≤ i1 → vp_in i2 1600 ∧ (∀ h5, h5 = h.sI 62 i2.toNatClampNeg (i1 + (nI 2)) → vp_in i2 1600 ∧ (∀ h7, h7 = h5.sI 63 i2.toNatClampNeg (h5.I 53 16) → vp_in (h7.I 53 16) 1600 ∧ (∀ h9, h9 = h7.sI 64 (h7.I 53 16).toNatClampNeg i2 → zK d m_X11_leaves_ [.ref 53, .int (i2 / (nI 40)), .int (i2 - i2 / (nI 40) * (nI 40))] h9 (kV fun h10 => ∀ h11, h11 = h10.sI 53 16 ((h10.I 53 16) + (nI 1)) → zQ none m_X11_peels (d + 1) 11 [(0, .ref 53), (1, .int i1)] [] h11 Q))))) ∧ (¬ x2 ≤ i1 → zK d m_X11_supportLeft [.ref 53, .int i2] h (pI h fun x12 => vp_in i2 1600 ∧ (∀ h14, h14 = h.sI 62 i2.toNatClampNeg (x12 + (nI 2)) → vp_in i2 1600 ∧ (∀ h16, h16 = h14.sI 63 i2.toNatClampNeg (h14.I 53 16) → vp_in (h16.I 53 16) 1600 ∧ (∀ h18, h18 = h16.sI 64 (h16.I 53 16).toNatClampNeg i2 → zK d m_X11_leaves_ [.ref 53, .int (i2 / (nI 40)), .int (i2 - i2 / (nI 40) * (nI 40))] h18 (kV fun h19 => ∀ h20, h20 = h19.sI 53 16 ((h19.I 53 16) + (nI 1)) → zQ none m_X11_peels (d + 1) 11 [(0, .ref 53), (1, .int x12)] [] h20 Q)))))))) ∧ (¬ (nI 1600) ≤ i3 → zK d m_X11_isLeft [.ref 53, .int i3] h (pI h fun x21 => (x21 = 0 → zQ none m_X11_peels (d + 1) 28 [(0, .ref 53), (1, .int i1), (2, .int i2), (3, .int (i3 + (nI 1)))] [] h Q) ∧ (¬ x21 = 0 → (i2 < 0 → zQ none m_X11_peels (d + 1) 28 [(0, .ref 53), (1, .int i1), (2, .int i3), (3, .int (i3 + (nI 1)))] [] h Q) ∧ (¬ i2 < 0 → zK d m_X11_supportLeft [.ref 53, .int i3] h (pI h fun x24 => zK d m_X11_supportLeft [.ref 53, .int i2] h (pI h fun x25 => (x25 ≤ x24 → zQ none m_X11_peels (d + 1) 28 [(0, .ref 53), (1, .int i1), (2, .int i2), (3, .int (i3 + (nI 1)))] [] h Q) ∧ (¬ x25 ≤ x24 → zQ none m_X11_peels (d + 1) 28 [(0, .ref 53), (1, .int i1), (2, .int i3), (3, .int (i3 + (nI 1)))] [] h Q)))))))) : zQ none m_X11_peels (d + 1) 28 [(0, .ref 53), (1, .int i1), (2, .int i2), (3, .int i3)] [] h Q := by
  refine zq_iload_n (k := 3) (i := 3) (x := i3) 3 rfl rfl dX11_peels_28 ?_
  refine zq_sipush (v := (nI 1600)) rfl dX11_peels_29 ?_
  refine zq_icmp_ge (tgt := 68) dX11_peels_32 rfl ⟨fun c1 => ?_, fun c1 => ?_⟩
  · have H := H.1 c1
    refine zq_aload_n (k := 0) (i := 0) (x := 53) 0 rfl rfl dX11_peels_68 ?_
    refine zq_iload_n (k := 2) (i := 2) (x := i2) 2 rfl rfl dX11_peels_69 ?_
    refine zq_invV (as := [.int i2]) (st := []) (o := 53) (c := 10) (by decide) rfl (sh_53 hw) in_X11_supportLeft se_X11_supportLeft mo_X11_supportLeft ml_RX11_180 rfl (Nat.le_of_ble_eq_true rfl) dX11_peels_70 rfl H (fun r1 h1 hq => ?_)
    obtain ⟨x2, rfl, rfl, H⟩ := hq
    show zQ none m_X11_peels (d + 1) 73 [(0, .ref 53), (1, .int i1), (2, .int i2), (3, .int i3)] (.int x2 :: []) h Q
    refine zq_iload_n (k := 1) (i := 1) (x := i1) 1 rfl rfl dX11_peels_73 ?_
    refine zq_icmp_le (tgt := 83) dX11_peels_74 rfl ⟨fun c3 => ?_, fun c3 => ?_⟩
    · have H := H.1 c3
      refine zq_aload_n (k := 0) (i := 0) (x := 53) 0 rfl rfl dX11_peels_83 ?_
      refine zq_getP fl_RX11_37 rfl (sh_53 hw) (rf_53_13 hw) dX11_peels_84 ?_
      refine zq_iload_n (k := 2) (i := 2) (x := i2) 2 rfl rfl dX11_peels_87 ?_
      refine zq_iload_n (k := 1) (i := 1) (x := i1) 1 rfl rfl dX11_peels_88 ?_
      refine zq_iconst (v := (nI 2)) rfl dX11_peels_89 ?_
      refine zq_iadd dX11_peels_90 ?_
      obtain ⟨b4, H⟩ := H
      refine zq_iast (sh_62 hw) b4 dX11_peels_91 (fun h5 eh5 => ?_)
      have H := H h5 eh5
      have wh5 := wf_I eh5 hw
      refine zq_aload_n (k := 0) (i := 0) (x := 53) 0 rfl rfl dX11_peels_92 ?_
      refine zq_getP fl_RX11_40 rfl (sh_53 wh5) (rf_53_14 wh5) dX11_peels_93 ?_
      refine zq_iload_n (k := 2) (i := 2) (x := i2) 2 rfl rfl dX11_peels_96 ?_
      refine zq_aload_n (k := 0) (i := 0) (x := 53) 0 rfl rfl dX11_peels_97 ?_
      refine zq_getI fl_RX11_173 rfl (sh_53 wh5) dX11_peels_98 ?_
      obtain ⟨b6, H⟩ := H
      refine zq_iast (sh_63 wh5) b6 dX11_peels_101 (fun h7 eh7 => ?_)
      have H := H h7 eh7
      have wh7 := wf_I eh7 wh5
      refine zq_aload_n (k := 0) (i := 0) (x := 53) 0 rfl rfl dX11_peels_102 ?_
      refine zq_getP fl_RX11_43 rfl (sh_53 wh7) (rf_53_15 wh7) dX11_peels_103 ?_
      refine zq_aload_n (k := 0) (i := 0) (x := 53) 0 rfl rfl dX11_peels_106 ?_
      refine zq_getI fl_RX11_173 rfl (sh_53 wh7) dX11_peels_107 ?_
      refine zq_iload_n (k := 2) (i := 2) (x := i2) 2 rfl rfl dX11_peels_110 ?_
      obtain ⟨b8, H⟩ := H
      refine zq_iast (sh_64 wh7) b8 dX11_peels_111 (fun h9 eh9 => ?_)
      have H := H h9 eh9
      have wh9 := wf_I eh9 wh7
      refine zq_aload_n (k := 0) (i := 0) (x := 53) 0 rfl rfl dX11_peels_112 ?_
      refine zq_iload_n (k := 2) (i := 2) (x := i2) 2 rfl rfl dX11_peels_113 ?_
      refine zq_bipush (v := (nI 40)) rfl dX11_peels_114 ?_
      refine zq_idiv (by decide) dX11_peels_116 ?_
      refine zq_iload_n (k := 2) (i := 2) (x := i2) 2 rfl rfl dX11_peels_117 ?_
      refine zq_bipush (v := (nI 40)) rfl dX11_peels_118 ?_
      refine zq_irem (by decide) dX11_peels_120 ?_
      refine zq_invV (as := [.int (i2 / (nI 40)), .int (i2 - i2 / (nI 40) * (nI 40))]) (st := []) (o := 53) (c := 10) (by decide) rfl (sh_53 wh9) in_X11_leaves_ se_X11_leaves_ mo_X11_leaves_ ml_RX11_183 rfl (Nat.le_of_ble_eq_true rfl) dX11_peels_121 rfl H (fun r1 h10 hq => ?_)
      obtain ⟨rfl, wh10, H⟩ := hq
      show zQ none m_X11_peels (d + 1) 124 [(0, .ref 53), (1, .int i1), (2, .int i2), (3, .int i3)] ([]) h10 Q
      refine zq_aload_n (k := 0) (i := 0) (x := 53) 0 rfl rfl dX11_peels_124 ?_
      refine zq_dup rfl dX11_peels_125 ?_
      refine zq_getI fl_RX11_173 rfl (sh_53 wh10) dX11_peels_126 ?_
      refine zq_iconst (v := (nI 1)) rfl dX11_peels_129 ?_
      refine zq_iadd dX11_peels_130 ?_
      refine zq_putI fl_RX11_173 rfl (Or.inl rfl) (sh_53 wh10) rfl rfl dX11_peels_131 (fun h11 eh11 => ?_)
      have H := H h11 eh11
      have wh11 := wf_I eh11 wh10
      refine zq_goto (tgt := 11) dX11_peels_134 rfl ?_
      exact zq_sub (ls' := [(0, .ref 53), (1, .int i1)]) [0, 1] rfl H
    · have H := H.2 c3
      refine zq_aload_n (k := 0) (i := 0) (x := 53) 0 rfl rfl dX11_peels_77 ?_
      refine zq_iload_n (k := 2) (i := 2) (x := i2) 2 rfl rfl dX11_peels_78 ?_
      refine zq_invV (as := [.int i2]) (st := []) (o := 53) (c := 10) (by decide) rfl (sh_53 hw) in_X11_supportLeft se_X11_supportLeft mo_X11_supportLeft ml_RX11_180 rfl (Nat.le_of_ble_eq_true rfl) dX11_peels_79 rfl H (fun r1 h1 hq => ?_)
      obtain ⟨x12, rfl, rfl, H⟩ := hq
      show zQ none m_X11_peels (d + 1) 82 [(0, .ref 53), (1, .int i1), (2, .int i2), (3, .int i3)] (.int x12 :: []) h Q
      refine zq_istore_n (ls' := [(1, .int x12), (0, .ref 53), (2, .int i2), (3, .int i3)]) (k := 1) (i := 1) rfl (Nat.le_of_ble_eq_true rfl) rfl dX11_peels_82 ?_
      refine zq_aload_n (k := 0) (i := 0) (x := 53) 1 rfl rfl dX11_peels_83 ?_
      refine zq_getP fl_RX11_37 rfl (sh_53 hw) (rf_53_13 hw) dX11_peels_84 ?_
      refine zq_iload_n (k := 2) (i := 2) (x := i2) 2 rfl rfl dX11_peels_87 ?_
      refine zq_iload_n (k := 1) (i := 1) (x := x12) 0 rfl rfl dX11_peels_88 ?_
      refine zq_iconst (v := (nI 2)) rfl dX11_peels_89 ?_
      refine zq_iadd dX11_peels_90 ?_
      obtain ⟨b13, H⟩ := H
      refine zq_iast (sh_62 hw) b13 dX11_peels_91 (fun h14 eh14 => ?_)
      have H := H h14 eh14
      have wh14 := wf_I eh14 hw
      refine zq_aload_n (k := 0) (i := 0) (x := 53) 1 rfl rfl dX11_peels_92 ?_
      refine zq_getP fl_RX11_40 rfl (sh_53 wh14) (rf_53_14 wh14) dX11_peels_93 ?_
      refine zq_iload_n (k := 2) (i := 2) (x := i2) 2 rfl rfl dX11_peels_96 ?_
      refine zq_aload_n (k := 0) (i := 0) (x := 53) 1 rfl rfl dX11_peels_97 ?_
      refine zq_getI fl_RX11_173 rfl (sh_53 wh14) dX11_peels_98 ?_
      obtain ⟨b15, H⟩ := H
      refine zq_iast (sh_63 wh14) b15 dX11_peels_101 (fun h16 eh16 => ?_)
      have H := H h16 eh16
      have wh16 := wf_I eh16 wh14
      refine zq_aload_n (k := 0) (i := 0) (x := 53) 1 rfl rfl dX11_peels_102 ?_
      refine zq_getP fl_RX11_43 rfl (sh_53 wh16) (rf_53_15 wh16) dX11_peels_103 ?_
      refine zq_aload_n (k := 0) (i := 0) (x := 53) 1 rfl rfl dX11_peels_106 ?_
      refine zq_getI fl_RX11_173 rfl (sh_53 wh16) dX11_peels_107 ?_
      refine zq_iload_n (k := 2) (i := 2) (x := i2) 2 rfl rfl dX11_peels_110 ?_
      obtain ⟨b17, H⟩ := H
      refine zq_iast (sh_64 wh16) b17 dX11_peels_111 (fun h18 eh18 => ?_)
      have H := H h18 eh18
      have wh18 := wf_I eh18 wh16
      refine zq_aload_n (k := 0) (i := 0) (x := 53) 1 rfl rfl dX11_peels_112 ?_
      refine zq_iload_n (k := 2) (i := 2) (x := i2) 2 rfl rfl dX11_peels_113 ?_
      refine zq_bipush (v := (nI 40)) rfl dX11_peels_114 ?_
      refine zq_idiv (by decide) dX11_peels_116 ?_
      refine zq_iload_n (k := 2) (i := 2) (x := i2) 2 rfl rfl dX11_peels_117 ?_
      refine zq_bipush (v := (nI 40)) rfl dX11_peels_118 ?_
      refine zq_irem (by decide) dX11_peels_120 ?_
      refine zq_invV (as := [.int (i2 / (nI 40)), .int (i2 - i2 / (nI 40) * (nI 40))]) (st := []) (o := 53) (c := 10) (by decide) rfl (sh_53 wh18) in_X11_leaves_ se_X11_leaves_ mo_X11_leaves_ ml_RX11_183 rfl (Nat.le_of_ble_eq_true rfl) dX11_peels_121 rfl H (fun r1 h19 hq => ?_)
      obtain ⟨rfl, wh19, H⟩ := hq
      show zQ none m_X11_peels (d + 1) 124 [(1, .int x12), (0, .ref 53), (2, .int i2), (3, .int i3)] ([]) h19 Q
      refine zq_aload_n (k := 0) (i := 0) (x := 53) 1 rfl rfl dX11_peels_124 ?_
      refine zq_dup rfl dX11_peels_125 ?_
      refine zq_getI fl_RX11_173 rfl (sh_53 wh19) dX11_peels_126 ?_
      refine zq_iconst (v := (nI 1)) rfl dX11_peels_129 ?_
      refine zq_iadd dX11_peels_130 ?_
      refine zq_putI fl_RX11_173 rfl (Or.inl rfl) (sh_53 wh19) rfl rfl dX11_peels_131 (fun h20 eh20 => ?_)
      have H := H h20 eh20
      have wh20 := wf_I eh20 wh19
      refine zq_goto (tgt := 11) dX11_peels_134 rfl ?_
      exact zq_sub (ls' := [(0, .ref 53), (1, .int x12)]) [1, 0] rfl H
  · have H := H.2 c1
    refine zq_aload_n (k := 0) (i := 0) (x := 53) 0 rfl rfl dX11_peels_35 ?_
    refine zq_iload_n (k := 3) (i := 3) (x := i3) 3 rfl rfl dX11_peels_36 ?_
    refine zq_invV (as := [.int i3]) (st := []) (o := 53) (c := 10) (by decide) rfl (sh_53 hw) in_X11_isLeft se_X11_isLeft mo_X11_isLeft ml_RX11_177 rfl (Nat.le_of_ble_eq_true rfl) dX11_peels_37 rfl H (fun r1 h1 hq => ?_)
    obtain ⟨x21, rfl, rfl, H⟩ := hq
    show zQ none m_X11_peels (d + 1) 40 [(0, .ref 53), (1, .int i1), (2, .int i2), (3, .int i3)] (.int x21 :: []) h Q
    refine zq_if_eq (tgt := 62) dX11_peels_40 rfl ⟨fun c22 => ?_, fun c22 => ?_⟩
    · have H := H.1 c22
      refine zq_iinc (i := 3) (x := i3) (v := (nI 1)) (ls' := [(3, .int (i3 + (nI 1))), (0, .ref 53), (1, .int i1), (2, .int i2)]) 3 rfl rfl (Nat.le_of_ble_eq_true rfl) rfl dX11_peels_62 ?_
      refine zq_goto (tgt := 28) dX11_peels_65 rfl ?_
      exact zq_sub (ls' := [(0, .ref 53), (1, .int i1), (2, .int i2), (3, .int (i3 + (nI 1)))]) [1, 2, 3, 0] rfl H
    · have H := H.2 c22
      refine zq_iload_n (k := 2) (i := 2) (x := i2) 2 rfl rfl dX11_peels_43 ?_
      refine zq_if_lt (tgt := 60) dX11_peels_44 rfl ⟨fun c23 => ?_, fun c23 => ?_⟩
      · have H := H.1 c23
        refine zq_iload_n (k := 3) (i := 3) (x := i3) 3 rfl rfl dX11_peels_60 ?_
        refine zq_istore_n (ls' := [(2, .int i3), (0, .ref 53), (1, .int i1), (3, .int i3)]) (k := 2) (i := 2) rfl (Nat.le_of_ble_eq_true rfl) rfl dX11_peels_61 ?_
        refine zq_iinc (i := 3) (x := i3) (v := (nI 1)) (ls' := [(3, .int (i3 + (nI 1))), (2, .int i3), (0, .ref 53), (1, .int i1)]) 3 rfl rfl (Nat.le_of_ble_eq_true rfl) rfl dX11_peels_62 ?_
        refine zq_goto (tgt := 28) dX11_peels_65 rfl ?_
        exact zq_sub (ls' := [(0, .ref 53), (1, .int i1), (2, .int i3), (3, .int (i3 + (nI 1)))]) [2, 3, 1, 0] rfl H
      · have H := H.2 c23
        refine zq_aload_n (k := 0) (i := 0) (x := 53) 0 rfl rfl dX11_peels_47 ?_
        refine zq_iload_n (k := 3) (i := 3) (x := i3) 3 rfl rfl dX11_peels_48 ?_
        refine zq_invV (as := [.int i3]) (st := []) (o := 53) (c := 10) (by decide) rfl (sh_53 hw) in_X11_supportLeft se_X11_supportLeft mo_X11_supportLeft ml_RX11_180 rfl (Nat.le_of_ble_eq_true rfl) dX11_peels_49 rfl H (fun r1 h1 hq => ?_)
        obtain ⟨x24, rfl, rfl, H⟩ := hq
        show zQ none m_X11_peels (d + 1) 52 [(0, .ref 53), (1, .int i1), (2, .int i2), (3, .int i3)] (.int x24 :: []) h Q
        refine zq_aload_n (k := 0) (i := 0) (x := 53) 0 rfl rfl dX11_peels_52 ?_
        refine zq_iload_n (k := 2) (i := 2) (x := i2) 2 rfl rfl dX11_peels_53 ?_
        refine zq_invV (as := [.int i2]) (st := .int x24 :: []) (o := 53) (c := 10) (by decide) rfl (sh_53 hw) in_X11_supportLeft se_X11_supportLeft mo_X11_supportLeft ml_RX11_180 rfl (Nat.le_of_ble_eq_true rfl) dX11_peels_54 rfl H (fun r1 h1 hq => ?_)
        obtain ⟨x25, rfl, rfl, H⟩ := hq
        show zQ none m_X11_peels (d + 1) 57 [(0, .ref 53), (1, .int i1), (2, .int i2), (3, .int i3)] (.int x25 :: .int x24 :: []) h Q
        refine zq_icmp_ge (tgt := 62) dX11_peels_57 rfl ⟨fun c26 => ?_, fun c26 => ?_⟩
        · have H := H.1 c26
          refine zq_iinc (i := 3) (x := i3) (v := (nI 1)) (ls' := [(3, .int (i3 + (nI 1))), (0, .ref 53), (1, .int i1), (2, .int i2)]) 3 rfl rfl (Nat.le_of_ble_eq_true rfl) rfl dX11_peels_62 ?_
          refine zq_goto (tgt := 28) dX11_peels_65 rfl ?_
          exact zq_sub (ls' := [(0, .ref 53), (1, .int i1), (2, .int i2), (3, .int (i3 + (nI 1)))]) [1, 2, 3, 0] rfl H
        · have H := H.2 c26
          refine zq_iload_n (k := 3) (i := 3) (x := i3) 3 rfl rfl dX11_peels_60 ?_
          refine zq_istore_n (ls' := [(2, .int i3), (0, .ref 53), (1, .int i1), (3, .int i3)]) (k := 2) (i := 2) rfl (Nat.le_of_ble_eq_true rfl) rfl dX11_peels_61 ?_
          refine zq_iinc (i := 3) (x := i3) (v := (nI 1)) (ls' := [(3, .int (i3 + (nI 1))), (2, .int i3), (0, .ref 53), (1, .int i1)]) 3 rfl rfl (Nat.le_of_ble_eq_true rfl) rfl dX11_peels_62 ?_
          refine zq_goto (tgt := 28) dX11_peels_65 rfl ?_
          exact zq_sub (ls' := [(0, .ref 53), (1, .int i1), (2, .int i3), (3, .int (i3 + (nI 1)))]) [2, 3, 1, 0] rfl H
set_option maxHeartbeats 2000000 in
set_option maxRecDepth 20000 in
theorem r_X11_edge__0 {d : Nat} {h : AH} {Q : Option Value → AH → Prop} (i1 : Int32) (i2 : Int32) (i3 : Int32) (hw : zWF h)  (H : zK d m_X11_areTwo [.int i1, .int i2] h (pI h fun x1 => (x1 = 0 → Q (some (.int (-1))) h) ∧ (¬ x1 = 0 → zK d m_X11_isIn [.int i3, .int (nI 0), .int (nI 4)] h (pI h fun x3 => (x3 ≠ 0 → zK d m_X11_isEdge [.ref 53, .int i1, .int i2] h (pI h fun x5 => (x5 ≠ 0 → (i3 ≠ 0 → (i3 ≠ (nI 3) → (i3 ≠ (nI 4) → zK d m_X11_peels [.ref 53] h (kV fun h10 => (i3 ≠ (nI 1) → zK d m_X11_edge [.int i1, .int i2] h10 (pI h10 fun x12 => vp_in x12 1600 ∧ (Q (some (.int (h10.I 63 x12.toNatClampNeg))) h10))) ∧ (i3 = (nI 1) → zK d m_X11_edge [.int i1, .int i2] h10 (pI h10 fun x14 => vp_in x14 1600 ∧ (Q (some (.int (h10.I 62 x14.toNatClampNeg))) h10))))) ∧ (i3 = (nI 4) → zK d m_X11_foursAt [.ref 53, .int i1, .int i2] h (pI h fun x16 => Q (some (.int x16)) h))) ∧ (i3 = (nI 3) → zK d m_X11_ways [.ref 53, .int i1, .int i2] h (pI h fun x17 => Q (some (.int x17)) h))) ∧ (i3 = 0 → zK d m_X11_shared [.ref 53, .int i1, .int i2] h (pI h fun x18 => Q (some (.int x18)) h))) ∧ (x5 = 0 → Q (some (.int (-3))) h))) ∧ (x3 = 0 → Q (some (.int (-1))) h))))) : zK (d + 1) m_X11_edge_ [.ref 53, .int i1, .int i2, .int i3] h Q := by
  refine zK_of mo_X11_edge_ (Nat.le_of_ble_eq_true rfl) ?_
  show zQ none m_X11_edge_ (d + 1) 0 [(0, .ref 53), (1, .int i1), (2, .int i2), (3, .int i3)] [] h Q
  refine zq_iload_n (k := 1) (i := 1) (x := i1) 1 rfl rfl dX11_edge__0 ?_
  refine zq_iload_n (k := 2) (i := 2) (x := i2) 2 rfl rfl dX11_edge__1 ?_
  refine zq_invS (as := [.int i1, .int i2]) (st := []) st_X11_areTwo mo_X11_areTwo ml_RX11_110 rfl (Nat.le_of_ble_eq_true rfl) dX11_edge__2 rfl H (fun r1 h1 hq => ?_)
  obtain ⟨x1, rfl, rfl, H⟩ := hq
  show zQ none m_X11_edge_ (d + 1) 5 [(0, .ref 53), (1, .int i1), (2, .int i2), (3, .int i3)] (.int x1 :: []) h Q
  refine zq_if_eq (tgt := 17) dX11_edge__5 rfl ⟨fun c2 => ?_, fun c2 => ?_⟩
  · have H := H.1 c2
    refine zq_iconst (v := (-1)) rfl dX11_edge__17 ?_
    exact zq_iret dX11_edge__18 rfl rfl rfl H
  · have H := H.2 c2
    refine zq_iload_n (k := 3) (i := 3) (x := i3) 3 rfl rfl dX11_edge__8 ?_
    refine zq_iconst (v := (nI 0)) rfl dX11_edge__9 ?_
    refine zq_iconst (v := (nI 4)) rfl dX11_edge__10 ?_
    refine zq_invS (as := [.int i3, .int (nI 0), .int (nI 4)]) (st := []) st_X11_isIn mo_X11_isIn ml_RX11_64 rfl (Nat.le_of_ble_eq_true rfl) dX11_edge__11 rfl H (fun r1 h1 hq => ?_)
    obtain ⟨x3, rfl, rfl, H⟩ := hq
    show zQ none m_X11_edge_ (d + 1) 14 [(0, .ref 53), (1, .int i1), (2, .int i2), (3, .int i3)] (.int x3 :: []) h Q
    refine zq_if_ne (tgt := 19) dX11_edge__14 rfl ⟨fun c4 => ?_, fun c4 => ?_⟩
    · have H := H.1 c4
      refine zq_aload_n (k := 0) (i := 0) (x := 53) 0 rfl rfl dX11_edge__19 ?_
      refine zq_iload_n (k := 1) (i := 1) (x := i1) 1 rfl rfl dX11_edge__20 ?_
      refine zq_iload_n (k := 2) (i := 2) (x := i2) 2 rfl rfl dX11_edge__21 ?_
      refine zq_invV (as := [.int i1, .int i2]) (st := []) (o := 53) (c := 10) (by decide) rfl (sh_53 hw) in_X11_isEdge se_X11_isEdge mo_X11_isEdge ml_RX11_116 rfl (Nat.le_of_ble_eq_true rfl) dX11_edge__22 rfl H (fun r1 h1 hq => ?_)
      obtain ⟨x5, rfl, rfl, H⟩ := hq
      show zQ none m_X11_edge_ (d + 1) 25 [(0, .ref 53), (1, .int i1), (2, .int i2), (3, .int i3)] (.int x5 :: []) h Q
      refine zq_if_ne (tgt := 31) dX11_edge__25 rfl ⟨fun c6 => ?_, fun c6 => ?_⟩
      · have H := H.1 c6
        refine zq_iload_n (k := 3) (i := 3) (x := i3) 3 rfl rfl dX11_edge__31 ?_
        refine zq_if_ne (tgt := 42) dX11_edge__32 rfl ⟨fun c7 => ?_, fun c7 => ?_⟩
        · have H := H.1 c7
          refine zq_iload_n (k := 3) (i := 3) (x := i3) 3 rfl rfl dX11_edge__42 ?_
          refine zq_iconst (v := (nI 3)) rfl dX11_edge__43 ?_
          refine zq_icmp_ne (tgt := 54) dX11_edge__44 rfl ⟨fun c8 => ?_, fun c8 => ?_⟩
          · have H := H.1 c8
            refine zq_iload_n (k := 3) (i := 3) (x := i3) 3 rfl rfl dX11_edge__54 ?_
            refine zq_iconst (v := (nI 4)) rfl dX11_edge__55 ?_
            refine zq_icmp_ne (tgt := 66) dX11_edge__56 rfl ⟨fun c9 => ?_, fun c9 => ?_⟩
            · have H := H.1 c9
              refine zq_aload_n (k := 0) (i := 0) (x := 53) 0 rfl rfl dX11_edge__66 ?_
              refine zq_invV (as := []) (st := []) (o := 53) (c := 10) (by decide) rfl (sh_53 hw) in_X11_peels se_X11_peels mo_X11_peels ml_RX11_185 rfl (Nat.le_of_ble_eq_true rfl) dX11_edge__67 rfl H (fun r1 h10 hq => ?_)
              obtain ⟨rfl, wh10, H⟩ := hq
              show zQ none m_X11_edge_ (d + 1) 70 [(0, .ref 53), (1, .int i1), (2, .int i2), (3, .int i3)] ([]) h10 Q
              refine zq_iload_n (k := 3) (i := 3) (x := i3) 3 rfl rfl dX11_edge__70 ?_
              refine zq_iconst (v := (nI 1)) rfl dX11_edge__71 ?_
              refine zq_icmp_ne (tgt := 88) dX11_edge__72 rfl ⟨fun c11 => ?_, fun c11 => ?_⟩
              · have H := H.1 c11
                refine zq_aload_n (k := 0) (i := 0) (x := 53) 0 rfl rfl dX11_edge__88 ?_
                refine zq_getP fl_RX11_40 rfl (sh_53 wh10) (rf_53_14 wh10) dX11_edge__89 ?_
                refine zq_iload_n (k := 1) (i := 1) (x := i1) 1 rfl rfl dX11_edge__92 ?_
                refine zq_iload_n (k := 2) (i := 2) (x := i2) 2 rfl rfl dX11_edge__93 ?_
                refine zq_invS (as := [.int i1, .int i2]) (st := .ref 63 :: []) st_X11_edge mo_X11_edge ml_RX11_92 rfl (Nat.le_of_ble_eq_true rfl) dX11_edge__94 rfl H (fun r1 h1 hq => ?_)
                obtain ⟨x12, rfl, rfl, H⟩ := hq
                show zQ none m_X11_edge_ (d + 1) 97 [(0, .ref 53), (1, .int i1), (2, .int i2), (3, .int i3)] (.int x12 :: .ref 63 :: []) h10 Q
                obtain ⟨b13, H⟩ := H
                refine zq_iald (sh_63 wh10) b13 dX11_edge__97 ?_
                exact zq_iret dX11_edge__98 rfl rfl rfl H
              · have H := H.2 c11
                refine zq_aload_n (k := 0) (i := 0) (x := 53) 0 rfl rfl dX11_edge__75 ?_
                refine zq_getP fl_RX11_37 rfl (sh_53 wh10) (rf_53_13 wh10) dX11_edge__76 ?_
                refine zq_iload_n (k := 1) (i := 1) (x := i1) 1 rfl rfl dX11_edge__79 ?_
                refine zq_iload_n (k := 2) (i := 2) (x := i2) 2 rfl rfl dX11_edge__80 ?_
                refine zq_invS (as := [.int i1, .int i2]) (st := .ref 62 :: []) st_X11_edge mo_X11_edge ml_RX11_92 rfl (Nat.le_of_ble_eq_true rfl) dX11_edge__81 rfl H (fun r1 h1 hq => ?_)
                obtain ⟨x14, rfl, rfl, H⟩ := hq
                show zQ none m_X11_edge_ (d + 1) 84 [(0, .ref 53), (1, .int i1), (2, .int i2), (3, .int i3)] (.int x14 :: .ref 62 :: []) h10 Q
                obtain ⟨b15, H⟩ := H
                refine zq_iald (sh_62 wh10) b15 dX11_edge__84 ?_
                refine zq_goto (tgt := 98) dX11_edge__85 rfl ?_
                exact zq_iret dX11_edge__98 rfl rfl rfl H
            · have H := H.2 c9
              refine zq_aload_n (k := 0) (i := 0) (x := 53) 0 rfl rfl dX11_edge__59 ?_
              refine zq_iload_n (k := 1) (i := 1) (x := i1) 1 rfl rfl dX11_edge__60 ?_
              refine zq_iload_n (k := 2) (i := 2) (x := i2) 2 rfl rfl dX11_edge__61 ?_
              refine zq_invV (as := [.int i1, .int i2]) (st := []) (o := 53) (c := 10) (by decide) rfl (sh_53 hw) in_X11_foursAt se_X11_foursAt mo_X11_foursAt ml_RX11_144 rfl (Nat.le_of_ble_eq_true rfl) dX11_edge__62 rfl H (fun r1 h1 hq => ?_)
              obtain ⟨x16, rfl, rfl, H⟩ := hq
              show zQ none m_X11_edge_ (d + 1) 65 [(0, .ref 53), (1, .int i1), (2, .int i2), (3, .int i3)] (.int x16 :: []) h Q
              exact zq_iret dX11_edge__65 rfl rfl rfl H
          · have H := H.2 c8
            refine zq_aload_n (k := 0) (i := 0) (x := 53) 0 rfl rfl dX11_edge__47 ?_
            refine zq_iload_n (k := 1) (i := 1) (x := i1) 1 rfl rfl dX11_edge__48 ?_
            refine zq_iload_n (k := 2) (i := 2) (x := i2) 2 rfl rfl dX11_edge__49 ?_
            refine zq_invV (as := [.int i1, .int i2]) (st := []) (o := 53) (c := 10) (by decide) rfl (sh_53 hw) in_X11_ways se_X11_ways mo_X11_ways ml_RX11_164 rfl (Nat.le_of_ble_eq_true rfl) dX11_edge__50 rfl H (fun r1 h1 hq => ?_)
            obtain ⟨x17, rfl, rfl, H⟩ := hq
            show zQ none m_X11_edge_ (d + 1) 53 [(0, .ref 53), (1, .int i1), (2, .int i2), (3, .int i3)] (.int x17 :: []) h Q
            exact zq_iret dX11_edge__53 rfl rfl rfl H
        · have H := H.2 c7
          refine zq_aload_n (k := 0) (i := 0) (x := 53) 0 rfl rfl dX11_edge__35 ?_
          refine zq_iload_n (k := 1) (i := 1) (x := i1) 1 rfl rfl dX11_edge__36 ?_
          refine zq_iload_n (k := 2) (i := 2) (x := i2) 2 rfl rfl dX11_edge__37 ?_
          refine zq_invV (as := [.int i1, .int i2]) (st := []) (o := 53) (c := 10) (by decide) rfl (sh_53 hw) in_X11_shared se_X11_shared mo_X11_shared ml_RX11_123 rfl (Nat.le_of_ble_eq_true rfl) dX11_edge__38 rfl H (fun r1 h1 hq => ?_)
          obtain ⟨x18, rfl, rfl, H⟩ := hq
          show zQ none m_X11_edge_ (d + 1) 41 [(0, .ref 53), (1, .int i1), (2, .int i2), (3, .int i3)] (.int x18 :: []) h Q
          exact zq_iret dX11_edge__41 rfl rfl rfl H
      · have H := H.2 c6
        refine zq_bipush (v := (-3)) rfl dX11_edge__28 ?_
        exact zq_iret dX11_edge__30 rfl rfl rfl H
    · have H := H.2 c4
      refine zq_iconst (v := (-1)) rfl dX11_edge__17 ?_
      exact zq_iret dX11_edge__18 rfl rfl rfl H
set_option maxHeartbeats 2000000 in
set_option maxRecDepth 20000 in
theorem r_X11_peeled_0 {d : Nat} {h : AH} {Q : Option Value → AH → Prop} (i1 : Int32) (i2 : Int32) (hw : zWF h)  (H : vp_in (nI 5) 187 ∧ (zK d m_X11_isIn [.int i1, .int (nI 0), .int ((h.I 54 (nI 5).toNatClampNeg) - (nI 1))] h (pI h fun x2 => (x2 = 0 → Q (some (.int (-1))) h) ∧ (¬ x2 = 0 → zK d m_X11_isIn [.int i2, .int (nI 0), .int (nI 2)] h (pI h fun x4 => (x4 ≠ 0 → zK d m_X11_peels [.ref 53] h (kV fun h6 => vp_in i1 1600 ∧ ((i2 ≠ 0 → (i2 ≠ (nI 1) → vp_in (h6.I 64 i1.toNatClampNeg) 1600 ∧ (Q (some (.int (h6.I 62 (h6.I 64 i1.toNatClampNeg).toNatClampNeg))) h6)) ∧ (i2 = (nI 1) → Q (some (.int ((h6.I 64 i1.toNatClampNeg) - (h6.I 64 i1.toNatClampNeg) / (nI 40) * (nI 40)))) h6)) ∧ (i2 = 0 → Q (some (.int ((h6.I 64 i1.toNatClampNeg) / (nI 40)))) h6)))) ∧ (x4 = 0 → Q (some (.int (-1))) h)))))) : zK (d + 1) m_X11_peeled [.ref 53, .int i1, .int i2] h Q := by
  refine zK_of mo_X11_peeled (Nat.le_of_ble_eq_true rfl) ?_
  show zQ none m_X11_peeled (d + 1) 0 [(0, .ref 53), (1, .int i1), (2, .int i2)] [] h Q
  refine zq_iload_n (k := 1) (i := 1) (x := i1) 1 rfl rfl dX11_peeled_0 ?_
  refine zq_iconst (v := (nI 0)) rfl dX11_peeled_1 ?_
  refine zq_aload_n (k := 0) (i := 0) (x := 53) 0 rfl rfl dX11_peeled_2 ?_
  refine zq_getP fl_RX11_11 rfl (sh_53 hw) (rf_53_0 hw) dX11_peeled_3 ?_
  refine zq_iconst (v := (nI 5)) rfl dX11_peeled_6 ?_
  obtain ⟨b1, H⟩ := H
  refine zq_iald (sh_54 hw) b1 dX11_peeled_7 ?_
  refine zq_iconst (v := (nI 1)) rfl dX11_peeled_8 ?_
  refine zq_isub dX11_peeled_9 ?_
  refine zq_invS (as := [.int i1, .int (nI 0), .int ((h.I 54 (nI 5).toNatClampNeg) - (nI 1))]) (st := []) st_X11_isIn mo_X11_isIn ml_RX11_64 rfl (Nat.le_of_ble_eq_true rfl) dX11_peeled_10 rfl H (fun r1 h1 hq => ?_)
  obtain ⟨x2, rfl, rfl, H⟩ := hq
  show zQ none m_X11_peeled (d + 1) 13 [(0, .ref 53), (1, .int i1), (2, .int i2)] (.int x2 :: []) h Q
  refine zq_if_eq (tgt := 25) dX11_peeled_13 rfl ⟨fun c3 => ?_, fun c3 => ?_⟩
  · have H := H.1 c3
    refine zq_iconst (v := (-1)) rfl dX11_peeled_25 ?_
    exact zq_iret dX11_peeled_26 rfl rfl rfl H
  · have H := H.2 c3
    refine zq_iload_n (k := 2) (i := 2) (x := i2) 2 rfl rfl dX11_peeled_16 ?_
    refine zq_iconst (v := (nI 0)) rfl dX11_peeled_17 ?_
    refine zq_iconst (v := (nI 2)) rfl dX11_peeled_18 ?_
    refine zq_invS (as := [.int i2, .int (nI 0), .int (nI 2)]) (st := []) st_X11_isIn mo_X11_isIn ml_RX11_64 rfl (Nat.le_of_ble_eq_true rfl) dX11_peeled_19 rfl H (fun r1 h1 hq => ?_)
    obtain ⟨x4, rfl, rfl, H⟩ := hq
    show zQ none m_X11_peeled (d + 1) 22 [(0, .ref 53), (1, .int i1), (2, .int i2)] (.int x4 :: []) h Q
    refine zq_if_ne (tgt := 27) dX11_peeled_22 rfl ⟨fun c5 => ?_, fun c5 => ?_⟩
    · have H := H.1 c5
      refine zq_aload_n (k := 0) (i := 0) (x := 53) 0 rfl rfl dX11_peeled_27 ?_
      refine zq_invV (as := []) (st := []) (o := 53) (c := 10) (by decide) rfl (sh_53 hw) in_X11_peels se_X11_peels mo_X11_peels ml_RX11_185 rfl (Nat.le_of_ble_eq_true rfl) dX11_peeled_28 rfl H (fun r1 h6 hq => ?_)
      obtain ⟨rfl, wh6, H⟩ := hq
      show zQ none m_X11_peeled (d + 1) 31 [(0, .ref 53), (1, .int i1), (2, .int i2)] ([]) h6 Q
      refine zq_aload_n (k := 0) (i := 0) (x := 53) 0 rfl rfl dX11_peeled_31 ?_
      refine zq_getP fl_RX11_43 rfl (sh_53 wh6) (rf_53_15 wh6) dX11_peeled_32 ?_
      refine zq_iload_n (k := 1) (i := 1) (x := i1) 1 rfl rfl dX11_peeled_35 ?_
      obtain ⟨b7, H⟩ := H
      refine zq_iald (sh_64 wh6) b7 dX11_peeled_36 ?_
      refine zq_istore_n (ls' := [(3, .int (h6.I 64 i1.toNatClampNeg)), (0, .ref 53), (1, .int i1), (2, .int i2)]) (k := 3) (i := 3) rfl (Nat.le_of_ble_eq_true rfl) rfl dX11_peeled_37 ?_
      refine zq_iload_n (k := 2) (i := 2) (x := i2) 3 rfl rfl dX11_peeled_38 ?_
      refine zq_if_ne (tgt := 49) dX11_peeled_39 rfl ⟨fun c8 => ?_, fun c8 => ?_⟩
      · have H := H.1 c8
        refine zq_iload_n (k := 2) (i := 2) (x := i2) 3 rfl rfl dX11_peeled_49 ?_
        refine zq_iconst (v := (nI 1)) rfl dX11_peeled_50 ?_
        refine zq_icmp_ne (tgt := 61) dX11_peeled_51 rfl ⟨fun c9 => ?_, fun c9 => ?_⟩
        · have H := H.1 c9
          refine zq_aload_n (k := 0) (i := 0) (x := 53) 1 rfl rfl dX11_peeled_61 ?_
          refine zq_getP fl_RX11_37 rfl (sh_53 wh6) (rf_53_13 wh6) dX11_peeled_62 ?_
          refine zq_iload_n (k := 3) (i := 3) (x := (h6.I 64 i1.toNatClampNeg)) 0 rfl rfl dX11_peeled_65 ?_
          obtain ⟨b10, H⟩ := H
          refine zq_iald (sh_62 wh6) b10 dX11_peeled_66 ?_
          exact zq_iret dX11_peeled_67 rfl rfl rfl H
        · have H := H.2 c9
          refine zq_iload_n (k := 3) (i := 3) (x := (h6.I 64 i1.toNatClampNeg)) 0 rfl rfl dX11_peeled_54 ?_
          refine zq_bipush (v := (nI 40)) rfl dX11_peeled_55 ?_
          refine zq_irem (by decide) dX11_peeled_57 ?_
          refine zq_goto (tgt := 67) dX11_peeled_58 rfl ?_
          exact zq_iret dX11_peeled_67 rfl rfl rfl H
      · have H := H.2 c8
        refine zq_iload_n (k := 3) (i := 3) (x := (h6.I 64 i1.toNatClampNeg)) 0 rfl rfl dX11_peeled_42 ?_
        refine zq_bipush (v := (nI 40)) rfl dX11_peeled_43 ?_
        refine zq_idiv (by decide) dX11_peeled_45 ?_
        refine zq_goto (tgt := 67) dX11_peeled_46 rfl ?_
        exact zq_iret dX11_peeled_67 rfl rfl rfl H
    · have H := H.2 c5
      refine zq_iconst (v := (-1)) rfl dX11_peeled_25 ?_
      exact zq_iret dX11_peeled_26 rfl rfl rfl H
set_option maxHeartbeats 2000000 in
set_option maxRecDepth 20000 in
theorem r_X11_isInTruss_0 {d : Nat} {h : AH} {Q : Option Value → AH → Prop} (i1 : Int32) (i2 : Int32) (hw : zWF h)  (H : ((i1 - i1 / (nI 40) * (nI 40)) ≤ (i1 / (nI 40)) → Q (some (.int (nI 0))) h) ∧ (¬ (i1 - i1 / (nI 40) * (nI 40)) ≤ (i1 / (nI 40)) → zK d m_X11_isEdge [.ref 53, .int (i1 / (nI 40)), .int (i1 - i1 / (nI 40) * (nI 40))] h (pI h fun x2 => (x2 = 0 → Q (some (.int (nI 0))) h) ∧ (¬ x2 = 0 → vp_in i1 1600 ∧ (((h.I 62 i1.toNatClampNeg) < i2 → Q (some (.int (nI 0))) h) ∧ (¬ (h.I 62 i1.toNatClampNeg) < i2 → Q (some (.int (nI 1))) h)))))) : zK (d + 1) m_X11_isInTruss [.ref 53, .int i1, .int i2] h Q := by
  refine zK_of mo_X11_isInTruss (Nat.le_of_ble_eq_true rfl) ?_
  show zQ none m_X11_isInTruss (d + 1) 0 [(0, .ref 53), (1, .int i1), (2, .int i2)] [] h Q
  refine zq_iload_n (k := 1) (i := 1) (x := i1) 1 rfl rfl dX11_isInTruss_0 ?_
  refine zq_bipush (v := (nI 40)) rfl dX11_isInTruss_1 ?_
  refine zq_idiv (by decide) dX11_isInTruss_3 ?_
  refine zq_iload_n (k := 1) (i := 1) (x := i1) 1 rfl rfl dX11_isInTruss_4 ?_
  refine zq_bipush (v := (nI 40)) rfl dX11_isInTruss_5 ?_
  refine zq_irem (by decide) dX11_isInTruss_7 ?_
  refine zq_icmp_ge (tgt := 40) dX11_isInTruss_8 rfl ⟨fun c1 => ?_, fun c1 => ?_⟩
  · have H := H.1 c1
    refine zq_iconst (v := (nI 0)) rfl dX11_isInTruss_40 ?_
    exact zq_iret dX11_isInTruss_41 rfl rfl rfl H
  · have H := H.2 c1
    refine zq_aload_n (k := 0) (i := 0) (x := 53) 0 rfl rfl dX11_isInTruss_11 ?_
    refine zq_iload_n (k := 1) (i := 1) (x := i1) 1 rfl rfl dX11_isInTruss_12 ?_
    refine zq_bipush (v := (nI 40)) rfl dX11_isInTruss_13 ?_
    refine zq_idiv (by decide) dX11_isInTruss_15 ?_
    refine zq_iload_n (k := 1) (i := 1) (x := i1) 1 rfl rfl dX11_isInTruss_16 ?_
    refine zq_bipush (v := (nI 40)) rfl dX11_isInTruss_17 ?_
    refine zq_irem (by decide) dX11_isInTruss_19 ?_
    refine zq_invV (as := [.int (i1 / (nI 40)), .int (i1 - i1 / (nI 40) * (nI 40))]) (st := []) (o := 53) (c := 10) (by decide) rfl (sh_53 hw) in_X11_isEdge se_X11_isEdge mo_X11_isEdge ml_RX11_116 rfl (Nat.le_of_ble_eq_true rfl) dX11_isInTruss_20 rfl H (fun r1 h1 hq => ?_)
    obtain ⟨x2, rfl, rfl, H⟩ := hq
    show zQ none m_X11_isInTruss (d + 1) 23 [(0, .ref 53), (1, .int i1), (2, .int i2)] (.int x2 :: []) h Q
    refine zq_if_eq (tgt := 40) dX11_isInTruss_23 rfl ⟨fun c3 => ?_, fun c3 => ?_⟩
    · have H := H.1 c3
      refine zq_iconst (v := (nI 0)) rfl dX11_isInTruss_40 ?_
      exact zq_iret dX11_isInTruss_41 rfl rfl rfl H
    · have H := H.2 c3
      refine zq_aload_n (k := 0) (i := 0) (x := 53) 0 rfl rfl dX11_isInTruss_26 ?_
      refine zq_getP fl_RX11_37 rfl (sh_53 hw) (rf_53_13 hw) dX11_isInTruss_27 ?_
      refine zq_iload_n (k := 1) (i := 1) (x := i1) 1 rfl rfl dX11_isInTruss_30 ?_
      obtain ⟨b4, H⟩ := H
      refine zq_iald (sh_62 hw) b4 dX11_isInTruss_31 ?_
      refine zq_iload_n (k := 2) (i := 2) (x := i2) 2 rfl rfl dX11_isInTruss_32 ?_
      refine zq_icmp_lt (tgt := 40) dX11_isInTruss_33 rfl ⟨fun c5 => ?_, fun c5 => ?_⟩
      · have H := H.1 c5
        refine zq_iconst (v := (nI 0)) rfl dX11_isInTruss_40 ?_
        exact zq_iret dX11_isInTruss_41 rfl rfl rfl H
      · have H := H.2 c5
        refine zq_iconst (v := (nI 1)) rfl dX11_isInTruss_36 ?_
        refine zq_goto (tgt := 41) dX11_isInTruss_37 rfl ?_
        exact zq_iret dX11_isInTruss_41 rfl rfl rfl H
set_option maxHeartbeats 2000000 in
set_option maxRecDepth 20000 in
theorem r_X11_truss_0 {d : Nat} {h : AH} {Q : Option Value → AH → Prop} (i1 : Int32) (hw : zWF h)  (H : zK d m_X11_peels [.ref 53] h (kV fun h1 => zQ none m_X11_truss (d + 1) 8 [(0, .ref 53), (1, .int i1), (2, .int (nI 0)), (3, .int (nI 0))] [] h1 Q)) : zK (d + 1) m_X11_truss [.ref 53, .int i1] h Q := by
  refine zK_of mo_X11_truss (Nat.le_of_ble_eq_true rfl) ?_
  show zQ none m_X11_truss (d + 1) 0 [(0, .ref 53), (1, .int i1)] [] h Q
  refine zq_aload_n (k := 0) (i := 0) (x := 53) 0 rfl rfl dX11_truss_0 ?_
  refine zq_invV (as := []) (st := []) (o := 53) (c := 10) (by decide) rfl (sh_53 hw) in_X11_peels se_X11_peels mo_X11_peels ml_RX11_185 rfl (Nat.le_of_ble_eq_true rfl) dX11_truss_1 rfl H (fun r1 h1 hq => ?_)
  obtain ⟨rfl, wh1, H⟩ := hq
  show zQ none m_X11_truss (d + 1) 4 [(0, .ref 53), (1, .int i1)] ([]) h1 Q
  refine zq_iconst (v := (nI 0)) rfl dX11_truss_4 ?_
  refine zq_istore_n (ls' := [(2, .int (nI 0)), (0, .ref 53), (1, .int i1)]) (k := 2) (i := 2) rfl (Nat.le_of_ble_eq_true rfl) rfl dX11_truss_5 ?_
  refine zq_iconst (v := (nI 0)) rfl dX11_truss_6 ?_
  refine zq_istore_n (ls' := [(3, .int (nI 0)), (2, .int (nI 0)), (0, .ref 53), (1, .int i1)]) (k := 3) (i := 3) rfl (Nat.le_of_ble_eq_true rfl) rfl dX11_truss_7 ?_
  exact zq_sub (ls' := [(0, .ref 53), (1, .int i1), (2, .int (nI 0)), (3, .int (nI 0))]) [2, 3, 1, 0] rfl H
set_option maxHeartbeats 2000000 in
set_option maxRecDepth 20000 in
theorem r_X11_truss_8 {d : Nat} {h : AH} {Q : Option Value → AH → Prop} (i1 : Int32) (i2 : Int32) (i3 : Int32) (hw : zWF h)  (H : ((nI 1600) ≤ i3 → Q (some (.int i2)) h) ∧ (¬ (nI 1600) ≤ i3 → zK d m_X11_isInTruss [.ref 53, .int i3, .int i1] h (pI h fun x2 => (x2 = 0 → zQ none m_X11_truss (d + 1) 8 [(0, .ref 53), (1, .int i1), (2, .int (i2 + (nI 0))), (3, .int (i3 + (nI 1)))] [] h Q) ∧ (¬ x2 = 0 → zQ none m_X11_truss (d + 1) 8 [(0, .ref 53), (1, .int i1), (2, .int (i2 + (nI 1))), (3, .int (i3 + (nI 1)))] [] h Q)))) : zQ none m_X11_truss (d + 1) 8 [(0, .ref 53), (1, .int i1), (2, .int i2), (3, .int i3)] [] h Q := by
  refine zq_iload_n (k := 3) (i := 3) (x := i3) 3 rfl rfl dX11_truss_8 ?_
  refine zq_sipush (v := (nI 1600)) rfl dX11_truss_9 ?_
  refine zq_icmp_ge (tgt := 38) dX11_truss_12 rfl ⟨fun c1 => ?_, fun c1 => ?_⟩
  · have H := H.1 c1
    refine zq_iload_n (k := 2) (i := 2) (x := i2) 2 rfl rfl dX11_truss_38 ?_
    exact zq_iret dX11_truss_39 rfl rfl rfl H
  · have H := H.2 c1
    refine zq_iload_n (k := 2) (i := 2) (x := i2) 2 rfl rfl dX11_truss_15 ?_
    refine zq_aload_n (k := 0) (i := 0) (x := 53) 0 rfl rfl dX11_truss_16 ?_
    refine zq_iload_n (k := 3) (i := 3) (x := i3) 3 rfl rfl dX11_truss_17 ?_
    refine zq_iload_n (k := 1) (i := 1) (x := i1) 1 rfl rfl dX11_truss_18 ?_
    refine zq_invV (as := [.int i3, .int i1]) (st := .int i2 :: []) (o := 53) (c := 10) (by decide) rfl (sh_53 hw) in_X11_isInTruss se_X11_isInTruss mo_X11_isInTruss ml_RX11_188 rfl (Nat.le_of_ble_eq_true rfl) dX11_truss_19 rfl H (fun r1 h1 hq => ?_)
    obtain ⟨x2, rfl, rfl, H⟩ := hq
    show zQ none m_X11_truss (d + 1) 22 [(0, .ref 53), (1, .int i1), (2, .int i2), (3, .int i3)] (.int x2 :: .int i2 :: []) h Q
    refine zq_if_eq (tgt := 29) dX11_truss_22 rfl ⟨fun c3 => ?_, fun c3 => ?_⟩
    · have H := H.1 c3
      refine zq_iconst (v := (nI 0)) rfl dX11_truss_29 ?_
      refine zq_iadd dX11_truss_30 ?_
      refine zq_istore_n (ls' := [(2, .int (i2 + (nI 0))), (0, .ref 53), (1, .int i1), (3, .int i3)]) (k := 2) (i := 2) rfl (Nat.le_of_ble_eq_true rfl) rfl dX11_truss_31 ?_
      refine zq_iinc (i := 3) (x := i3) (v := (nI 1)) (ls' := [(3, .int (i3 + (nI 1))), (2, .int (i2 + (nI 0))), (0, .ref 53), (1, .int i1)]) 3 rfl rfl (Nat.le_of_ble_eq_true rfl) rfl dX11_truss_32 ?_
      refine zq_goto (tgt := 8) dX11_truss_35 rfl ?_
      exact zq_sub (ls' := [(0, .ref 53), (1, .int i1), (2, .int (i2 + (nI 0))), (3, .int (i3 + (nI 1)))]) [2, 3, 1, 0] rfl H
    · have H := H.2 c3
      refine zq_iconst (v := (nI 1)) rfl dX11_truss_25 ?_
      refine zq_goto (tgt := 30) dX11_truss_26 rfl ?_
      refine zq_iadd dX11_truss_30 ?_
      refine zq_istore_n (ls' := [(2, .int (i2 + (nI 1))), (0, .ref 53), (1, .int i1), (3, .int i3)]) (k := 2) (i := 2) rfl (Nat.le_of_ble_eq_true rfl) rfl dX11_truss_31 ?_
      refine zq_iinc (i := 3) (x := i3) (v := (nI 1)) (ls' := [(3, .int (i3 + (nI 1))), (2, .int (i2 + (nI 1))), (0, .ref 53), (1, .int i1)]) 3 rfl rfl (Nat.le_of_ble_eq_true rfl) rfl dX11_truss_32 ?_
      refine zq_goto (tgt := 8) dX11_truss_35 rfl ?_
      exact zq_sub (ls' := [(0, .ref 53), (1, .int i1), (2, .int (i2 + (nI 1))), (3, .int (i3 + (nI 1)))]) [2, 3, 1, 0] rfl H
set_option maxHeartbeats 2000000 in
set_option maxRecDepth 20000 in
theorem r_X11_pieces_0 {d : Nat} {h : AH} {Q : Option Value → AH → Prop} (i1 : Int32) (hw : zWF h)  (H : zK d m_X11_peels [.ref 53] h (kV fun h1 => zQ none m_X11_pieces (d + 1) 6 [(0, .ref 53), (1, .int i1), (2, .int (nI 0))] [] h1 Q)) : zK (d + 1) m_X11_pieces [.ref 53, .int i1] h Q := by
  refine zK_of mo_X11_pieces (Nat.le_of_ble_eq_true rfl) ?_
  show zQ none m_X11_pieces (d + 1) 0 [(0, .ref 53), (1, .int i1)] [] h Q
  refine zq_aload_n (k := 0) (i := 0) (x := 53) 0 rfl rfl dX11_pieces_0 ?_
  refine zq_invV (as := []) (st := []) (o := 53) (c := 10) (by decide) rfl (sh_53 hw) in_X11_peels se_X11_peels mo_X11_peels ml_RX11_185 rfl (Nat.le_of_ble_eq_true rfl) dX11_pieces_1 rfl H (fun r1 h1 hq => ?_)
  obtain ⟨rfl, wh1, H⟩ := hq
  show zQ none m_X11_pieces (d + 1) 4 [(0, .ref 53), (1, .int i1)] ([]) h1 Q
  refine zq_iconst (v := (nI 0)) rfl dX11_pieces_4 ?_
  refine zq_istore_n (ls' := [(2, .int (nI 0)), (0, .ref 53), (1, .int i1)]) (k := 2) (i := 2) rfl (Nat.le_of_ble_eq_true rfl) rfl dX11_pieces_5 ?_
  exact zq_sub (ls' := [(0, .ref 53), (1, .int i1), (2, .int (nI 0))]) [1, 2, 0] rfl H
set_option maxHeartbeats 2000000 in
set_option maxRecDepth 20000 in
theorem r_X11_pieces_6 {d : Nat} {h : AH} {Q : Option Value → AH → Prop} (i1 : Int32) (i2 : Int32) (hw : zWF h)  (H : ((nI 40) ≤ i2 → zQ none m_X11_pieces (d + 1) 27 [(0, .ref 53), (1, .int i1), (2, .int (nI 1))] [] h Q) ∧ (¬ (nI 40) ≤ i2 → vp_in i2 1600 ∧ (∀ h3, h3 = h.sI 65 i2.toNatClampNeg i2 → zQ none m_X11_pieces (d + 1) 6 [(0, .ref 53), (1, .int i1), (2, .int (i2 + (nI 1)))] [] h3 Q))) : zQ none m_X11_pieces (d + 1) 6 [(0, .ref 53), (1, .int i1), (2, .int i2)] [] h Q := by
  refine zq_iload_n (k := 2) (i := 2) (x := i2) 2 rfl rfl dX11_pieces_6 ?_
  refine zq_bipush (v := (nI 40)) rfl dX11_pieces_7 ?_
  refine zq_icmp_ge (tgt := 25) dX11_pieces_9 rfl ⟨fun c1 => ?_, fun c1 => ?_⟩
  · have H := H.1 c1
    refine zq_iconst (v := (nI 1)) rfl dX11_pieces_25 ?_
    refine zq_istore_n (ls' := [(2, .int (nI 1)), (0, .ref 53), (1, .int i1)]) (k := 2) (i := 2) rfl (Nat.le_of_ble_eq_true rfl) rfl dX11_pieces_26 ?_
    exact zq_sub (ls' := [(0, .ref 53), (1, .int i1), (2, .int (nI 1))]) [1, 2, 0] rfl H
  · have H := H.2 c1
    refine zq_aload_n (k := 0) (i := 0) (x := 53) 0 rfl rfl dX11_pieces_12 ?_
    refine zq_getP fl_RX11_46 rfl (sh_53 hw) (rf_53_17 hw) dX11_pieces_13 ?_
    refine zq_iload_n (k := 2) (i := 2) (x := i2) 2 rfl rfl dX11_pieces_16 ?_
    refine zq_iload_n (k := 2) (i := 2) (x := i2) 2 rfl rfl dX11_pieces_17 ?_
    obtain ⟨b2, H⟩ := H
    refine zq_iast (sh_65 hw) b2 dX11_pieces_18 (fun h3 eh3 => ?_)
    have H := H h3 eh3
    have wh3 := wf_I eh3 hw
    refine zq_iinc (i := 2) (x := i2) (v := (nI 1)) (ls' := [(2, .int (i2 + (nI 1))), (0, .ref 53), (1, .int i1)]) 2 rfl rfl (Nat.le_of_ble_eq_true rfl) rfl dX11_pieces_19 ?_
    refine zq_goto (tgt := 6) dX11_pieces_22 rfl ?_
    exact zq_sub (ls' := [(0, .ref 53), (1, .int i1), (2, .int (i2 + (nI 1)))]) [1, 2, 0] rfl H
set_option maxHeartbeats 2000000 in
set_option maxRecDepth 20000 in
theorem r_X11_pieces_27 {d : Nat} {h : AH} {Q : Option Value → AH → Prop} (i1 : Int32) (i2 : Int32) (hw : zWF h)  (H : (i2 = 0 → zQ none m_X11_pieces (d + 1) 153 [(0, .ref 53), (1, .int i1), (3, .int (nI 0)), (4, .int (nI 0))] [] h Q) ∧ (¬ i2 = 0 → zQ none m_X11_pieces (d + 1) 35 [(0, .ref 53), (1, .int i1), (2, .int (nI 0)), (3, .int (nI 0))] [] h Q)) : zQ none m_X11_pieces (d + 1) 27 [(0, .ref 53), (1, .int i1), (2, .int i2)] [] h Q := by
  refine zq_iload_n (k := 2) (i := 2) (x := i2) 2 rfl rfl dX11_pieces_27 ?_
  refine zq_if_eq (tgt := 148) dX11_pieces_28 rfl ⟨fun c1 => ?_, fun c1 => ?_⟩
  · have H := H.1 c1
    refine zq_iconst (v := (nI 0)) rfl dX11_pieces_148 ?_
    refine zq_istore_n (ls' := [(3, .int (nI 0)), (0, .ref 53), (1, .int i1), (2, .int i2)]) (k := 3) (i := 3) rfl (Nat.le_of_ble_eq_true rfl) rfl dX11_pieces_149 ?_
    refine zq_iconst (v := (nI 0)) rfl dX11_pieces_150 ?_
    refine zq_istore (ls' := [(4, .int (nI 0)), (3, .int (nI 0)), (0, .ref 53), (1, .int i1), (2, .int i2)]) (i := 4) (Nat.le_of_ble_eq_true rfl) rfl dX11_pieces_151 ?_
    exact zq_sub (ls' := [(0, .ref 53), (1, .int i1), (3, .int (nI 0)), (4, .int (nI 0))]) [2, 3, 1, 0] rfl H
  · have H := H.2 c1
    refine zq_iconst (v := (nI 0)) rfl dX11_pieces_31 ?_
    refine zq_istore_n (ls' := [(2, .int (nI 0)), (0, .ref 53), (1, .int i1)]) (k := 2) (i := 2) rfl (Nat.le_of_ble_eq_true rfl) rfl dX11_pieces_32 ?_
    refine zq_iconst (v := (nI 0)) rfl dX11_pieces_33 ?_
    refine zq_istore_n (ls' := [(3, .int (nI 0)), (2, .int (nI 0)), (0, .ref 53), (1, .int i1)]) (k := 3) (i := 3) rfl (Nat.le_of_ble_eq_true rfl) rfl dX11_pieces_34 ?_
    exact zq_sub (ls' := [(0, .ref 53), (1, .int i1), (2, .int (nI 0)), (3, .int (nI 0))]) [2, 3, 1, 0] rfl H
set_option maxHeartbeats 2000000 in
set_option maxRecDepth 20000 in
theorem r_X11_pieces_35 {d : Nat} {h : AH} {Q : Option Value → AH → Prop} (i1 : Int32) (i2 : Int32) (i3 : Int32) (hw : zWF h)  (H : ((nI 1600) ≤ i3 → zQ none m_X11_pieces (d + 1) 27 [(0, .ref 53), (1, .int i1), (2, .int i2)] [] h Q) ∧ (¬ (nI 1600) ≤ i3 → zK d m_X11_isInTruss [.ref 53, .int i3, .int i1] h (pI h fun x2 => (x2 = 0 → zQ none m_X11_pieces (d + 1) 35 [(0, .ref 53), (1, .int i1), (2, .int i2), (3, .int (i3 + (nI 1)))] [] h Q) ∧ (¬ x2 = 0 → vp_in (i3 / (nI 40)) 1600 ∧ (vp_in (i3 - i3 / (nI 40) * (nI 40)) 1600 ∧ (((h.I 65 (i3 / (nI 40)).toNatClampNeg) ≠ (h.I 65 (i3 - i3 / (nI 40) * (nI 40)).toNatClampNeg) → vp_in (i3 / (nI 40)) 1600 ∧ (vp_in (i3 - i3 / (nI 40) * (nI 40)) 1600 ∧ (((h.I 65 (i3 - i3 / (nI 40) * (nI 40)).toNatClampNeg) ≤ (h.I 65 (i3 / (nI 40)).toNatClampNeg) → vp_in (i3 - i3 / (nI 40) * (nI 40)) 1600 ∧ (vp_in (i3 / (nI 40)) 1600 ∧ (∀ h12, h12 = h.sI 65 (i3 / (nI 40)).toNatClampNeg (h.I 65 (i3 - i3 / (nI 40) * (nI 40)).toNatClampNeg) → vp_in (i3 - i3 / (nI 40) * (nI 40)) 1600 ∧ (∀ h14, h14 = h12.sI 65 (i3 - i3 / (nI 40) * (nI 40)).toNatClampNeg (h.I 65 (i3 - i3 / (nI 40) * (nI 40)).toNatClampNeg) → zQ none m_X11_pieces (d + 1) 35 [(0, .ref 53), (1, .int i1), (2, .int (nI 1)), (3, .int (i3 + (nI 1)))] [] h14 Q)))) ∧ (¬ (h.I 65 (i3 - i3 / (nI 40) * (nI 40)).toNatClampNeg) ≤ (h.I 65 (i3 / (nI 40)).toNatClampNeg) → vp_in (i3 / (nI 40)) 1600 ∧ (vp_in (i3 / (nI 40)) 1600 ∧ (∀ h17, h17 = h.sI 65 (i3 / (nI 40)).toNatClampNeg (h.I 65 (i3 / (nI 40)).toNatClampNeg) → vp_in (i3 - i3 / (nI 40) * (nI 40)) 1600 ∧ (∀ h19, h19 = h17.sI 65 (i3 - i3 / (nI 40) * (nI 40)).toNatClampNeg (h.I 65 (i3 / (nI 40)).toNatClampNeg) → zQ none m_X11_pieces (d + 1) 35 [(0, .ref 53), (1, .int i1), (2, .int (nI 1)), (3, .int (i3 + (nI 1)))] [] h19 Q))))))) ∧ ((h.I 65 (i3 / (nI 40)).toNatClampNeg) = (h.I 65 (i3 - i3 / (nI 40) * (nI 40)).toNatClampNeg) → zQ none m_X11_pieces (d + 1) 35 [(0, .ref 53), (1, .int i1), (2, .int i2), (3, .int (i3 + (nI 1)))] [] h Q))))))) : zQ none m_X11_pieces (d + 1) 35 [(0, .ref 53), (1, .int i1), (2, .int i2), (3, .int i3)] [] h Q := by
  refine zq_iload_n (k := 3) (i := 3) (x := i3) 3 rfl rfl dX11_pieces_35 ?_
  refine zq_sipush (v := (nI 1600)) rfl dX11_pieces_36 ?_
  refine zq_icmp_ge (tgt := 145) dX11_pieces_39 rfl ⟨fun c1 => ?_, fun c1 => ?_⟩
  · have H := H.1 c1
    refine zq_goto (tgt := 27) dX11_pieces_145 rfl ?_
    exact zq_sub (ls' := [(0, .ref 53), (1, .int i1), (2, .int i2)]) [0, 1, 2] rfl H
  · have H := H.2 c1
    refine zq_iload_n (k := 3) (i := 3) (x := i3) 3 rfl rfl dX11_pieces_42 ?_
    refine zq_bipush (v := (nI 40)) rfl dX11_pieces_43 ?_
    refine zq_idiv (by decide) dX11_pieces_45 ?_
    refine zq_istore (ls' := [(4, .int (i3 / (nI 40))), (0, .ref 53), (1, .int i1), (2, .int i2), (3, .int i3)]) (i := 4) (Nat.le_of_ble_eq_true rfl) rfl dX11_pieces_46 ?_
    refine zq_iload_n (k := 3) (i := 3) (x := i3) 4 rfl rfl dX11_pieces_48 ?_
    refine zq_bipush (v := (nI 40)) rfl dX11_pieces_49 ?_
    refine zq_irem (by decide) dX11_pieces_51 ?_
    refine zq_istore (ls' := [(5, .int (i3 - i3 / (nI 40) * (nI 40))), (4, .int (i3 / (nI 40))), (0, .ref 53), (1, .int i1), (2, .int i2), (3, .int i3)]) (i := 5) (Nat.le_of_ble_eq_true rfl) rfl dX11_pieces_52 ?_
    refine zq_aload_n (k := 0) (i := 0) (x := 53) 2 rfl rfl dX11_pieces_54 ?_
    refine zq_iload_n (k := 3) (i := 3) (x := i3) 5 rfl rfl dX11_pieces_55 ?_
    refine zq_iload_n (k := 1) (i := 1) (x := i1) 3 rfl rfl dX11_pieces_56 ?_
    refine zq_invV (as := [.int i3, .int i1]) (st := []) (o := 53) (c := 10) (by decide) rfl (sh_53 hw) in_X11_isInTruss se_X11_isInTruss mo_X11_isInTruss ml_RX11_188 rfl (Nat.le_of_ble_eq_true rfl) dX11_pieces_57 rfl H (fun r1 h1 hq => ?_)
    obtain ⟨x2, rfl, rfl, H⟩ := hq
    show zQ none m_X11_pieces (d + 1) 60 [(5, .int (i3 - i3 / (nI 40) * (nI 40))), (4, .int (i3 / (nI 40))), (0, .ref 53), (1, .int i1), (2, .int i2), (3, .int i3)] (.int x2 :: []) h Q
    refine zq_if_eq (tgt := 139) dX11_pieces_60 rfl ⟨fun c3 => ?_, fun c3 => ?_⟩
    · have H := H.1 c3
      refine zq_iinc (i := 3) (x := i3) (v := (nI 1)) (ls' := [(3, .int (i3 + (nI 1))), (5, .int (i3 - i3 / (nI 40) * (nI 40))), (4, .int (i3 / (nI 40))), (0, .ref 53), (1, .int i1), (2, .int i2)]) 5 rfl rfl (Nat.le_of_ble_eq_true rfl) rfl dX11_pieces_139 ?_
      refine zq_goto (tgt := 35) dX11_pieces_142 rfl ?_
      exact zq_sub (ls' := [(0, .ref 53), (1, .int i1), (2, .int i2), (3, .int (i3 + (nI 1)))]) [3, 4, 5, 0] rfl H
    · have H := H.2 c3
      refine zq_aload_n (k := 0) (i := 0) (x := 53) 2 rfl rfl dX11_pieces_63 ?_
      refine zq_getP fl_RX11_46 rfl (sh_53 hw) (rf_53_17 hw) dX11_pieces_64 ?_
      refine zq_iload (i := 4) (x := (i3 / (nI 40))) 1 rfl dX11_pieces_67 ?_
      obtain ⟨b4, H⟩ := H
      refine zq_iald (sh_65 hw) b4 dX11_pieces_69 ?_
      refine zq_aload_n (k := 0) (i := 0) (x := 53) 2 rfl rfl dX11_pieces_70 ?_
      refine zq_getP fl_RX11_46 rfl (sh_53 hw) (rf_53_17 hw) dX11_pieces_71 ?_
      refine zq_iload (i := 5) (x := (i3 - i3 / (nI 40) * (nI 40))) 0 rfl dX11_pieces_74 ?_
      obtain ⟨b5, H⟩ := H
      refine zq_iald (sh_65 hw) b5 dX11_pieces_76 ?_
      refine zq_icmp_ne (tgt := 83) dX11_pieces_77 rfl ⟨fun c6 => ?_, fun c6 => ?_⟩
      · have H := H.1 c6
        refine zq_aload_n (k := 0) (i := 0) (x := 53) 2 rfl rfl dX11_pieces_83 ?_
        refine zq_getP fl_RX11_46 rfl (sh_53 hw) (rf_53_17 hw) dX11_pieces_84 ?_
        refine zq_iload (i := 4) (x := (i3 / (nI 40))) 1 rfl dX11_pieces_87 ?_
        obtain ⟨b7, H⟩ := H
        refine zq_iald (sh_65 hw) b7 dX11_pieces_89 ?_
        refine zq_aload_n (k := 0) (i := 0) (x := 53) 2 rfl rfl dX11_pieces_90 ?_
        refine zq_getP fl_RX11_46 rfl (sh_53 hw) (rf_53_17 hw) dX11_pieces_91 ?_
        refine zq_iload (i := 5) (x := (i3 - i3 / (nI 40) * (nI 40))) 0 rfl dX11_pieces_94 ?_
        obtain ⟨b8, H⟩ := H
        refine zq_iald (sh_65 hw) b8 dX11_pieces_96 ?_
        refine zq_icmp_ge (tgt := 110) dX11_pieces_97 rfl ⟨fun c9 => ?_, fun c9 => ?_⟩
        · have H := H.1 c9
          refine zq_aload_n (k := 0) (i := 0) (x := 53) 2 rfl rfl dX11_pieces_110 ?_
          refine zq_getP fl_RX11_46 rfl (sh_53 hw) (rf_53_17 hw) dX11_pieces_111 ?_
          refine zq_iload (i := 5) (x := (i3 - i3 / (nI 40) * (nI 40))) 0 rfl dX11_pieces_114 ?_
          obtain ⟨b10, H⟩ := H
          refine zq_iald (sh_65 hw) b10 dX11_pieces_116 ?_
          refine zq_istore (ls' := [(6, .int (h.I 65 (i3 - i3 / (nI 40) * (nI 40)).toNatClampNeg)), (5, .int (i3 - i3 / (nI 40) * (nI 40))), (4, .int (i3 / (nI 40))), (0, .ref 53), (1, .int i1), (2, .int i2), (3, .int i3)]) (i := 6) (Nat.le_of_ble_eq_true rfl) rfl dX11_pieces_117 ?_
          refine zq_aload_n (k := 0) (i := 0) (x := 53) 3 rfl rfl dX11_pieces_119 ?_
          refine zq_getP fl_RX11_46 rfl (sh_53 hw) (rf_53_17 hw) dX11_pieces_120 ?_
          refine zq_iload (i := 4) (x := (i3 / (nI 40))) 2 rfl dX11_pieces_123 ?_
          refine zq_iload (i := 6) (x := (h.I 65 (i3 - i3 / (nI 40) * (nI 40)).toNatClampNeg)) 0 rfl dX11_pieces_125 ?_
          obtain ⟨b11, H⟩ := H
          refine zq_iast (sh_65 hw) b11 dX11_pieces_127 (fun h12 eh12 => ?_)
          have H := H h12 eh12
          have wh12 := wf_I eh12 hw
          refine zq_aload_n (k := 0) (i := 0) (x := 53) 3 rfl rfl dX11_pieces_128 ?_
          refine zq_getP fl_RX11_46 rfl (sh_53 wh12) (rf_53_17 wh12) dX11_pieces_129 ?_
          refine zq_iload (i := 5) (x := (i3 - i3 / (nI 40) * (nI 40))) 1 rfl dX11_pieces_132 ?_
          refine zq_iload (i := 6) (x := (h.I 65 (i3 - i3 / (nI 40) * (nI 40)).toNatClampNeg)) 0 rfl dX11_pieces_134 ?_
          obtain ⟨b13, H⟩ := H
          refine zq_iast (sh_65 wh12) b13 dX11_pieces_136 (fun h14 eh14 => ?_)
          have H := H h14 eh14
          have wh14 := wf_I eh14 wh12
          refine zq_iconst (v := (nI 1)) rfl dX11_pieces_137 ?_
          refine zq_istore_n (ls' := [(2, .int (nI 1)), (6, .int (h.I 65 (i3 - i3 / (nI 40) * (nI 40)).toNatClampNeg)), (5, .int (i3 - i3 / (nI 40) * (nI 40))), (4, .int (i3 / (nI 40))), (0, .ref 53), (1, .int i1), (3, .int i3)]) (k := 2) (i := 2) rfl (Nat.le_of_ble_eq_true rfl) rfl dX11_pieces_138 ?_
          refine zq_iinc (i := 3) (x := i3) (v := (nI 1)) (ls' := [(3, .int (i3 + (nI 1))), (2, .int (nI 1)), (6, .int (h.I 65 (i3 - i3 / (nI 40) * (nI 40)).toNatClampNeg)), (5, .int (i3 - i3 / (nI 40) * (nI 40))), (4, .int (i3 / (nI 40))), (0, .ref 53), (1, .int i1)]) 6 rfl rfl (Nat.le_of_ble_eq_true rfl) rfl dX11_pieces_139 ?_
          refine zq_goto (tgt := 35) dX11_pieces_142 rfl ?_
          exact zq_sub (ls' := [(0, .ref 53), (1, .int i1), (2, .int (nI 1)), (3, .int (i3 + (nI 1)))]) [5, 6, 1, 0] rfl H
        · have H := H.2 c9
          refine zq_aload_n (k := 0) (i := 0) (x := 53) 2 rfl rfl dX11_pieces_100 ?_
          refine zq_getP fl_RX11_46 rfl (sh_53 hw) (rf_53_17 hw) dX11_pieces_101 ?_
          refine zq_iload (i := 4) (x := (i3 / (nI 40))) 1 rfl dX11_pieces_104 ?_
          obtain ⟨b15, H⟩ := H
          refine zq_iald (sh_65 hw) b15 dX11_pieces_106 ?_
          refine zq_goto (tgt := 117) dX11_pieces_107 rfl ?_
          refine zq_istore (ls' := [(6, .int (h.I 65 (i3 / (nI 40)).toNatClampNeg)), (5, .int (i3 - i3 / (nI 40) * (nI 40))), (4, .int (i3 / (nI 40))), (0, .ref 53), (1, .int i1), (2, .int i2), (3, .int i3)]) (i := 6) (Nat.le_of_ble_eq_true rfl) rfl dX11_pieces_117 ?_
          refine zq_aload_n (k := 0) (i := 0) (x := 53) 3 rfl rfl dX11_pieces_119 ?_
          refine zq_getP fl_RX11_46 rfl (sh_53 hw) (rf_53_17 hw) dX11_pieces_120 ?_
          refine zq_iload (i := 4) (x := (i3 / (nI 40))) 2 rfl dX11_pieces_123 ?_
          refine zq_iload (i := 6) (x := (h.I 65 (i3 / (nI 40)).toNatClampNeg)) 0 rfl dX11_pieces_125 ?_
          obtain ⟨b16, H⟩ := H
          refine zq_iast (sh_65 hw) b16 dX11_pieces_127 (fun h17 eh17 => ?_)
          have H := H h17 eh17
          have wh17 := wf_I eh17 hw
          refine zq_aload_n (k := 0) (i := 0) (x := 53) 3 rfl rfl dX11_pieces_128 ?_
          refine zq_getP fl_RX11_46 rfl (sh_53 wh17) (rf_53_17 wh17) dX11_pieces_129 ?_
          refine zq_iload (i := 5) (x := (i3 - i3 / (nI 40) * (nI 40))) 1 rfl dX11_pieces_132 ?_
          refine zq_iload (i := 6) (x := (h.I 65 (i3 / (nI 40)).toNatClampNeg)) 0 rfl dX11_pieces_134 ?_
          obtain ⟨b18, H⟩ := H
          refine zq_iast (sh_65 wh17) b18 dX11_pieces_136 (fun h19 eh19 => ?_)
          have H := H h19 eh19
          have wh19 := wf_I eh19 wh17
          refine zq_iconst (v := (nI 1)) rfl dX11_pieces_137 ?_
          refine zq_istore_n (ls' := [(2, .int (nI 1)), (6, .int (h.I 65 (i3 / (nI 40)).toNatClampNeg)), (5, .int (i3 - i3 / (nI 40) * (nI 40))), (4, .int (i3 / (nI 40))), (0, .ref 53), (1, .int i1), (3, .int i3)]) (k := 2) (i := 2) rfl (Nat.le_of_ble_eq_true rfl) rfl dX11_pieces_138 ?_
          refine zq_iinc (i := 3) (x := i3) (v := (nI 1)) (ls' := [(3, .int (i3 + (nI 1))), (2, .int (nI 1)), (6, .int (h.I 65 (i3 / (nI 40)).toNatClampNeg)), (5, .int (i3 - i3 / (nI 40) * (nI 40))), (4, .int (i3 / (nI 40))), (0, .ref 53), (1, .int i1)]) 6 rfl rfl (Nat.le_of_ble_eq_true rfl) rfl dX11_pieces_139 ?_
          refine zq_goto (tgt := 35) dX11_pieces_142 rfl ?_
          exact zq_sub (ls' := [(0, .ref 53), (1, .int i1), (2, .int (nI 1)), (3, .int (i3 + (nI 1)))]) [5, 6, 1, 0] rfl H
      · have H := H.2 c6
        refine zq_goto (tgt := 139) dX11_pieces_80 rfl ?_
        refine zq_iinc (i := 3) (x := i3) (v := (nI 1)) (ls' := [(3, .int (i3 + (nI 1))), (5, .int (i3 - i3 / (nI 40) * (nI 40))), (4, .int (i3 / (nI 40))), (0, .ref 53), (1, .int i1), (2, .int i2)]) 5 rfl rfl (Nat.le_of_ble_eq_true rfl) rfl dX11_pieces_139 ?_
        refine zq_goto (tgt := 35) dX11_pieces_142 rfl ?_
        exact zq_sub (ls' := [(0, .ref 53), (1, .int i1), (2, .int i2), (3, .int (i3 + (nI 1)))]) [3, 4, 5, 0] rfl H
set_option maxHeartbeats 2000000 in
set_option maxRecDepth 20000 in
theorem r_X11_pieces_153 {d : Nat} {h : AH} {Q : Option Value → AH → Prop} (i1 : Int32) (i3 : Int32) (i4 : Int32) (hw : zWF h)  (H : ((nI 40) ≤ i4 → Q (some (.int i3)) h) ∧ (¬ (nI 40) ≤ i4 → zQ none m_X11_pieces (d + 1) 166 [(0, .ref 53), (1, .int i1), (3, .int i3), (4, .int i4), (5, .int (nI 0)), (6, .int (nI 0))] [] h Q)) : zQ none m_X11_pieces (d + 1) 153 [(0, .ref 53), (1, .int i1), (3, .int i3), (4, .int i4)] [] h Q := by
  refine zq_iload (i := 4) (x := i4) 3 rfl dX11_pieces_153 ?_
  refine zq_bipush (v := (nI 40)) rfl dX11_pieces_155 ?_
  refine zq_icmp_ge (tgt := 242) dX11_pieces_157 rfl ⟨fun c1 => ?_, fun c1 => ?_⟩
  · have H := H.1 c1
    refine zq_iload_n (k := 3) (i := 3) (x := i3) 2 rfl rfl dX11_pieces_242 ?_
    exact zq_iret dX11_pieces_243 rfl rfl rfl H
  · have H := H.2 c1
    refine zq_iconst (v := (nI 0)) rfl dX11_pieces_160 ?_
    refine zq_istore (ls' := [(5, .int (nI 0)), (0, .ref 53), (1, .int i1), (3, .int i3), (4, .int i4)]) (i := 5) (Nat.le_of_ble_eq_true rfl) rfl dX11_pieces_161 ?_
    refine zq_iconst (v := (nI 0)) rfl dX11_pieces_163 ?_
    refine zq_istore (ls' := [(6, .int (nI 0)), (5, .int (nI 0)), (0, .ref 53), (1, .int i1), (3, .int i3), (4, .int i4)]) (i := 6) (Nat.le_of_ble_eq_true rfl) rfl dX11_pieces_164 ?_
    exact zq_sub (ls' := [(0, .ref 53), (1, .int i1), (3, .int i3), (4, .int i4), (5, .int (nI 0)), (6, .int (nI 0))]) [2, 3, 4, 5, 1, 0] rfl H
set_option maxHeartbeats 2000000 in
set_option maxRecDepth 20000 in
theorem r_X11_pieces_166 {d : Nat} {h : AH} {Q : Option Value → AH → Prop} (i1 : Int32) (i3 : Int32) (i4 : Int32) (i5 : Int32) (i6 : Int32) (hw : zWF h)  (H : ((nI 40) ≤ i6 → (i5 = 0 → zQ none m_X11_pieces (d + 1) 153 [(0, .ref 53), (1, .int i1), (3, .int (i3 + (nI 0))), (4, .int (i4 + (nI 1)))] [] h Q) ∧ (¬ i5 = 0 → vp_in i4 1600 ∧ (((h.I 65 i4.toNatClampNeg) ≠ i4 → zQ none m_X11_pieces (d + 1) 153 [(0, .ref 53), (1, .int i1), (3, .int (i3 + (nI 0))), (4, .int (i4 + (nI 1)))] [] h Q) ∧ ((h.I 65 i4.toNatClampNeg) = i4 → zQ none m_X11_pieces (d + 1) 153 [(0, .ref 53), (1, .int i1), (3, .int (i3 + (nI 1))), (4, .int (i4 + (nI 1)))] [] h Q)))) ∧ (¬ (nI 40) ≤ i6 → (i6 = i4 → zQ none m_X11_pieces (d + 1) 166 [(0, .ref 53), (1, .int i1), (3, .int i3), (4, .int i4), (5, .int (i5 ||| (nI 0))), (6, .int (i6 + (nI 1)))] [] h Q) ∧ (¬ i6 = i4 → zK d m_X11_edge [.int i4, .int i6] h (pI h fun x6 => zK d m_X11_isInTruss [.ref 53, .int x6, .int i1] h (pI h fun x7 => (x7 = 0 → zQ none m_X11_pieces (d + 1) 166 [(0, .ref 53), (1, .int i1), (3, .int i3), (4, .int i4), (5, .int (i5 ||| (nI 0))), (6, .int (i6 + (nI 1)))] [] h Q) ∧ (¬ x7 = 0 → zQ none m_X11_pieces (d + 1) 166 [(0, .ref 53), (1, .int i1), (3, .int i3), (4, .int i4), (5, .int (i5 ||| (nI 1))), (6, .int (i6 + (nI 1)))] [] h Q)))))) : zQ none m_X11_pieces (d + 1) 166 [(0, .ref 53), (1, .int i1), (3, .int i3), (4, .int i4), (5, .int i5), (6, .int i6)] [] h Q := by
  refine zq_iload (i := 6) (x := i6) 5 rfl dX11_pieces_166 ?_
  refine zq_bipush (v := (nI 40)) rfl dX11_pieces_168 ?_
  refine zq_icmp_ge (tgt := 211) dX11_pieces_170 rfl ⟨fun c1 => ?_, fun c1 => ?_⟩
  · have H := H.1 c1
    refine zq_iload_n (k := 3) (i := 3) (x := i3) 2 rfl rfl dX11_pieces_211 ?_
    refine zq_iload (i := 5) (x := i5) 4 rfl dX11_pieces_212 ?_
    refine zq_if_eq (tgt := 233) dX11_pieces_214 rfl ⟨fun c2 => ?_, fun c2 => ?_⟩
    · have H := H.1 c2
      refine zq_iconst (v := (nI 0)) rfl dX11_pieces_233 ?_
      refine zq_iadd dX11_pieces_234 ?_
      refine zq_istore_n (ls' := [(3, .int (i3 + (nI 0))), (0, .ref 53), (1, .int i1), (4, .int i4), (5, .int i5), (6, .int i6)]) (k := 3) (i := 3) rfl (Nat.le_of_ble_eq_true rfl) rfl dX11_pieces_235 ?_
      refine zq_iinc (i := 4) (x := i4) (v := (nI 1)) (ls' := [(4, .int (i4 + (nI 1))), (3, .int (i3 + (nI 0))), (0, .ref 53), (1, .int i1), (5, .int i5), (6, .int i6)]) 3 rfl rfl (Nat.le_of_ble_eq_true rfl) rfl dX11_pieces_236 ?_
      refine zq_goto (tgt := 153) dX11_pieces_239 rfl ?_
      exact zq_sub (ls' := [(0, .ref 53), (1, .int i1), (3, .int (i3 + (nI 0))), (4, .int (i4 + (nI 1)))]) [2, 3, 1, 0] rfl H
    · have H := H.2 c2
      refine zq_aload_n (k := 0) (i := 0) (x := 53) 0 rfl rfl dX11_pieces_217 ?_
      refine zq_getP fl_RX11_46 rfl (sh_53 hw) (rf_53_17 hw) dX11_pieces_218 ?_
      refine zq_iload (i := 4) (x := i4) 3 rfl dX11_pieces_221 ?_
      obtain ⟨b3, H⟩ := H
      refine zq_iald (sh_65 hw) b3 dX11_pieces_223 ?_
      refine zq_iload (i := 4) (x := i4) 3 rfl dX11_pieces_224 ?_
      refine zq_icmp_ne (tgt := 233) dX11_pieces_226 rfl ⟨fun c4 => ?_, fun c4 => ?_⟩
      · have H := H.1 c4
        refine zq_iconst (v := (nI 0)) rfl dX11_pieces_233 ?_
        refine zq_iadd dX11_pieces_234 ?_
        refine zq_istore_n (ls' := [(3, .int (i3 + (nI 0))), (0, .ref 53), (1, .int i1), (4, .int i4), (5, .int i5), (6, .int i6)]) (k := 3) (i := 3) rfl (Nat.le_of_ble_eq_true rfl) rfl dX11_pieces_235 ?_
        refine zq_iinc (i := 4) (x := i4) (v := (nI 1)) (ls' := [(4, .int (i4 + (nI 1))), (3, .int (i3 + (nI 0))), (0, .ref 53), (1, .int i1), (5, .int i5), (6, .int i6)]) 3 rfl rfl (Nat.le_of_ble_eq_true rfl) rfl dX11_pieces_236 ?_
        refine zq_goto (tgt := 153) dX11_pieces_239 rfl ?_
        exact zq_sub (ls' := [(0, .ref 53), (1, .int i1), (3, .int (i3 + (nI 0))), (4, .int (i4 + (nI 1)))]) [2, 3, 1, 0] rfl H
      · have H := H.2 c4
        refine zq_iconst (v := (nI 1)) rfl dX11_pieces_229 ?_
        refine zq_goto (tgt := 234) dX11_pieces_230 rfl ?_
        refine zq_iadd dX11_pieces_234 ?_
        refine zq_istore_n (ls' := [(3, .int (i3 + (nI 1))), (0, .ref 53), (1, .int i1), (4, .int i4), (5, .int i5), (6, .int i6)]) (k := 3) (i := 3) rfl (Nat.le_of_ble_eq_true rfl) rfl dX11_pieces_235 ?_
        refine zq_iinc (i := 4) (x := i4) (v := (nI 1)) (ls' := [(4, .int (i4 + (nI 1))), (3, .int (i3 + (nI 1))), (0, .ref 53), (1, .int i1), (5, .int i5), (6, .int i6)]) 3 rfl rfl (Nat.le_of_ble_eq_true rfl) rfl dX11_pieces_236 ?_
        refine zq_goto (tgt := 153) dX11_pieces_239 rfl ?_
        exact zq_sub (ls' := [(0, .ref 53), (1, .int i1), (3, .int (i3 + (nI 1))), (4, .int (i4 + (nI 1)))]) [2, 3, 1, 0] rfl H
  · have H := H.2 c1
    refine zq_iload (i := 5) (x := i5) 4 rfl dX11_pieces_173 ?_
    refine zq_iload (i := 6) (x := i6) 5 rfl dX11_pieces_175 ?_
    refine zq_iload (i := 4) (x := i4) 3 rfl dX11_pieces_177 ?_
    refine zq_icmp_eq (tgt := 201) dX11_pieces_179 rfl ⟨fun c5 => ?_, fun c5 => ?_⟩
    · have H := H.1 c5
      refine zq_iconst (v := (nI 0)) rfl dX11_pieces_201 ?_
      refine zq_ior dX11_pieces_202 ?_
      refine zq_istore (ls' := [(5, .int (i5 ||| (nI 0))), (0, .ref 53), (1, .int i1), (3, .int i3), (4, .int i4), (6, .int i6)]) (i := 5) (Nat.le_of_ble_eq_true rfl) rfl dX11_pieces_203 ?_
      refine zq_iinc (i := 6) (x := i6) (v := (nI 1)) (ls' := [(6, .int (i6 + (nI 1))), (5, .int (i5 ||| (nI 0))), (0, .ref 53), (1, .int i1), (3, .int i3), (4, .int i4)]) 5 rfl rfl (Nat.le_of_ble_eq_true rfl) rfl dX11_pieces_205 ?_
      refine zq_goto (tgt := 166) dX11_pieces_208 rfl ?_
      exact zq_sub (ls' := [(0, .ref 53), (1, .int i1), (3, .int i3), (4, .int i4), (5, .int (i5 ||| (nI 0))), (6, .int (i6 + (nI 1)))]) [2, 3, 4, 5, 1, 0] rfl H
    · have H := H.2 c5
      refine zq_aload_n (k := 0) (i := 0) (x := 53) 0 rfl rfl dX11_pieces_182 ?_
      refine zq_iload (i := 4) (x := i4) 3 rfl dX11_pieces_183 ?_
      refine zq_iload (i := 6) (x := i6) 5 rfl dX11_pieces_185 ?_
      refine zq_invS (as := [.int i4, .int i6]) (st := .ref 53 :: .int i5 :: []) st_X11_edge mo_X11_edge ml_RX11_92 rfl (Nat.le_of_ble_eq_true rfl) dX11_pieces_187 rfl H (fun r1 h1 hq => ?_)
      obtain ⟨x6, rfl, rfl, H⟩ := hq
      show zQ none m_X11_pieces (d + 1) 190 [(0, .ref 53), (1, .int i1), (3, .int i3), (4, .int i4), (5, .int i5), (6, .int i6)] (.int x6 :: .ref 53 :: .int i5 :: []) h Q
      refine zq_iload_n (k := 1) (i := 1) (x := i1) 1 rfl rfl dX11_pieces_190 ?_
      refine zq_invV (as := [.int x6, .int i1]) (st := .int i5 :: []) (o := 53) (c := 10) (by decide) rfl (sh_53 hw) in_X11_isInTruss se_X11_isInTruss mo_X11_isInTruss ml_RX11_188 rfl (Nat.le_of_ble_eq_true rfl) dX11_pieces_191 rfl H (fun r1 h1 hq => ?_)
      obtain ⟨x7, rfl, rfl, H⟩ := hq
      show zQ none m_X11_pieces (d + 1) 194 [(0, .ref 53), (1, .int i1), (3, .int i3), (4, .int i4), (5, .int i5), (6, .int i6)] (.int x7 :: .int i5 :: []) h Q
      refine zq_if_eq (tgt := 201) dX11_pieces_194 rfl ⟨fun c8 => ?_, fun c8 => ?_⟩
      · have H := H.1 c8
        refine zq_iconst (v := (nI 0)) rfl dX11_pieces_201 ?_
        refine zq_ior dX11_pieces_202 ?_
        refine zq_istore (ls' := [(5, .int (i5 ||| (nI 0))), (0, .ref 53), (1, .int i1), (3, .int i3), (4, .int i4), (6, .int i6)]) (i := 5) (Nat.le_of_ble_eq_true rfl) rfl dX11_pieces_203 ?_
        refine zq_iinc (i := 6) (x := i6) (v := (nI 1)) (ls' := [(6, .int (i6 + (nI 1))), (5, .int (i5 ||| (nI 0))), (0, .ref 53), (1, .int i1), (3, .int i3), (4, .int i4)]) 5 rfl rfl (Nat.le_of_ble_eq_true rfl) rfl dX11_pieces_205 ?_
        refine zq_goto (tgt := 166) dX11_pieces_208 rfl ?_
        exact zq_sub (ls' := [(0, .ref 53), (1, .int i1), (3, .int i3), (4, .int i4), (5, .int (i5 ||| (nI 0))), (6, .int (i6 + (nI 1)))]) [2, 3, 4, 5, 1, 0] rfl H
      · have H := H.2 c8
        refine zq_iconst (v := (nI 1)) rfl dX11_pieces_197 ?_
        refine zq_goto (tgt := 202) dX11_pieces_198 rfl ?_
        refine zq_ior dX11_pieces_202 ?_
        refine zq_istore (ls' := [(5, .int (i5 ||| (nI 1))), (0, .ref 53), (1, .int i1), (3, .int i3), (4, .int i4), (6, .int i6)]) (i := 5) (Nat.le_of_ble_eq_true rfl) rfl dX11_pieces_203 ?_
        refine zq_iinc (i := 6) (x := i6) (v := (nI 1)) (ls' := [(6, .int (i6 + (nI 1))), (5, .int (i5 ||| (nI 1))), (0, .ref 53), (1, .int i1), (3, .int i3), (4, .int i4)]) 5 rfl rfl (Nat.le_of_ble_eq_true rfl) rfl dX11_pieces_205 ?_
        refine zq_goto (tgt := 166) dX11_pieces_208 rfl ?_
        exact zq_sub (ls' := [(0, .ref 53), (1, .int i1), (3, .int i3), (4, .int i4), (5, .int (i5 ||| (nI 1))), (6, .int (i6 + (nI 1)))]) [2, 3, 4, 5, 1, 0] rfl H
set_option maxHeartbeats 2000000 in
set_option maxRecDepth 20000 in
theorem r_X11_hoodsBy_0 {d : Nat} {h : AH} {Q : Option Value → AH → Prop} (i1 : Int32) (hw : zWF h)  (H : zK d m_X11_peels [.ref 53] h (kV fun h1 => zQ none m_X11_hoodsBy (d + 1) 6 [(0, .ref 53), (1, .int i1), (2, .int (nI 0))] [] h1 Q)) : zK (d + 1) m_X11_hoodsBy [.ref 53, .int i1] h Q := by
  refine zK_of mo_X11_hoodsBy (Nat.le_of_ble_eq_true rfl) ?_
  show zQ none m_X11_hoodsBy (d + 1) 0 [(0, .ref 53), (1, .int i1)] [] h Q
  refine zq_aload_n (k := 0) (i := 0) (x := 53) 0 rfl rfl dX11_hoodsBy_0 ?_
  refine zq_invV (as := []) (st := []) (o := 53) (c := 10) (by decide) rfl (sh_53 hw) in_X11_peels se_X11_peels mo_X11_peels ml_RX11_185 rfl (Nat.le_of_ble_eq_true rfl) dX11_hoodsBy_1 rfl H (fun r1 h1 hq => ?_)
  obtain ⟨rfl, wh1, H⟩ := hq
  show zQ none m_X11_hoodsBy (d + 1) 4 [(0, .ref 53), (1, .int i1)] ([]) h1 Q
  refine zq_iconst (v := (nI 0)) rfl dX11_hoodsBy_4 ?_
  refine zq_istore_n (ls' := [(2, .int (nI 0)), (0, .ref 53), (1, .int i1)]) (k := 2) (i := 2) rfl (Nat.le_of_ble_eq_true rfl) rfl dX11_hoodsBy_5 ?_
  exact zq_sub (ls' := [(0, .ref 53), (1, .int i1), (2, .int (nI 0))]) [1, 2, 0] rfl H
set_option maxHeartbeats 2000000 in
set_option maxRecDepth 20000 in
theorem r_X11_hoodsBy_6 {d : Nat} {h : AH} {Q : Option Value → AH → Prop} (i1 : Int32) (i2 : Int32) (hw : zWF h)  (H : ((nI 1600) ≤ i2 → zQ none m_X11_hoodsBy (d + 1) 28 [(0, .ref 53), (1, .int i1), (2, .int (nI 1))] [] h Q) ∧ (¬ (nI 1600) ≤ i2 → vp_in i2 1600 ∧ (∀ h3, h3 = h.sI 65 i2.toNatClampNeg i2 → zQ none m_X11_hoodsBy (d + 1) 6 [(0, .ref 53), (1, .int i1), (2, .int (i2 + (nI 1)))] [] h3 Q))) : zQ none m_X11_hoodsBy (d + 1) 6 [(0, .ref 53), (1, .int i1), (2, .int i2)] [] h Q := by
  refine zq_iload_n (k := 2) (i := 2) (x := i2) 2 rfl rfl dX11_hoodsBy_6 ?_
  refine zq_sipush (v := (nI 1600)) rfl dX11_hoodsBy_7 ?_
  refine zq_icmp_ge (tgt := 26) dX11_hoodsBy_10 rfl ⟨fun c1 => ?_, fun c1 => ?_⟩
  · have H := H.1 c1
    refine zq_iconst (v := (nI 1)) rfl dX11_hoodsBy_26 ?_
    refine zq_istore_n (ls' := [(2, .int (nI 1)), (0, .ref 53), (1, .int i1)]) (k := 2) (i := 2) rfl (Nat.le_of_ble_eq_true rfl) rfl dX11_hoodsBy_27 ?_
    exact zq_sub (ls' := [(0, .ref 53), (1, .int i1), (2, .int (nI 1))]) [1, 2, 0] rfl H
  · have H := H.2 c1
    refine zq_aload_n (k := 0) (i := 0) (x := 53) 0 rfl rfl dX11_hoodsBy_13 ?_
    refine zq_getP fl_RX11_46 rfl (sh_53 hw) (rf_53_17 hw) dX11_hoodsBy_14 ?_
    refine zq_iload_n (k := 2) (i := 2) (x := i2) 2 rfl rfl dX11_hoodsBy_17 ?_
    refine zq_iload_n (k := 2) (i := 2) (x := i2) 2 rfl rfl dX11_hoodsBy_18 ?_
    obtain ⟨b2, H⟩ := H
    refine zq_iast (sh_65 hw) b2 dX11_hoodsBy_19 (fun h3 eh3 => ?_)
    have H := H h3 eh3
    have wh3 := wf_I eh3 hw
    refine zq_iinc (i := 2) (x := i2) (v := (nI 1)) (ls' := [(2, .int (i2 + (nI 1))), (0, .ref 53), (1, .int i1)]) 2 rfl rfl (Nat.le_of_ble_eq_true rfl) rfl dX11_hoodsBy_20 ?_
    refine zq_goto (tgt := 6) dX11_hoodsBy_23 rfl ?_
    exact zq_sub (ls' := [(0, .ref 53), (1, .int i1), (2, .int (i2 + (nI 1)))]) [1, 2, 0] rfl H
set_option maxHeartbeats 2000000 in
set_option maxRecDepth 20000 in
theorem r_X11_hoodsBy_28 {d : Nat} {h : AH} {Q : Option Value → AH → Prop} (i1 : Int32) (i2 : Int32) (hw : zWF h)  (H : (i2 = 0 → Q none h) ∧ (¬ i2 = 0 → zQ none m_X11_hoodsBy (d + 1) 36 [(0, .ref 53), (1, .int i1), (2, .int (nI 0)), (3, .int (nI 0))] [] h Q)) : zQ none m_X11_hoodsBy (d + 1) 28 [(0, .ref 53), (1, .int i1), (2, .int i2)] [] h Q := by
  refine zq_iload_n (k := 2) (i := 2) (x := i2) 2 rfl rfl dX11_hoodsBy_28 ?_
  refine zq_if_eq (tgt := 298) dX11_hoodsBy_29 rfl ⟨fun c1 => ?_, fun c1 => ?_⟩
  · have H := H.1 c1
    exact zq_vret dX11_hoodsBy_298 rfl H
  · have H := H.2 c1
    refine zq_iconst (v := (nI 0)) rfl dX11_hoodsBy_32 ?_
    refine zq_istore_n (ls' := [(2, .int (nI 0)), (0, .ref 53), (1, .int i1)]) (k := 2) (i := 2) rfl (Nat.le_of_ble_eq_true rfl) rfl dX11_hoodsBy_33 ?_
    refine zq_iconst (v := (nI 0)) rfl dX11_hoodsBy_34 ?_
    refine zq_istore_n (ls' := [(3, .int (nI 0)), (2, .int (nI 0)), (0, .ref 53), (1, .int i1)]) (k := 3) (i := 3) rfl (Nat.le_of_ble_eq_true rfl) rfl dX11_hoodsBy_35 ?_
    exact zq_sub (ls' := [(0, .ref 53), (1, .int i1), (2, .int (nI 0)), (3, .int (nI 0))]) [2, 3, 1, 0] rfl H
set_option maxHeartbeats 2000000 in
set_option maxRecDepth 20000 in
theorem r_X11_hoodsBy_36 {d : Nat} {h : AH} {Q : Option Value → AH → Prop} (i1 : Int32) (i2 : Int32) (i3 : Int32) (hw : zWF h)  (H : ((nI 1600) ≤ i3 → zQ none m_X11_hoodsBy (d + 1) 28 [(0, .ref 53), (1, .int i1), (2, .int i2)] [] h Q) ∧ (¬ (nI 1600) ≤ i3 → zK d m_X11_isInTruss [.ref 53, .int i3, .int i1] h (pI h fun x2 => (x2 ≠ 0 → zQ none m_X11_hoodsBy (d + 1) 58 [(0, .ref 53), (1, .int i1), (2, .int i2), (3, .int i3), (4, .int (nI 0))] [] h Q) ∧ (x2 = 0 → zQ none m_X11_hoodsBy (d + 1) 289 [(0, .ref 53), (1, .int i1), (2, .int i2), (3, .int i3)] [] h Q)))) : zQ none m_X11_hoodsBy (d + 1) 36 [(0, .ref 53), (1, .int i1), (2, .int i2), (3, .int i3)] [] h Q := by
  refine zq_iload_n (k := 3) (i := 3) (x := i3) 3 rfl rfl dX11_hoodsBy_36 ?_
  refine zq_sipush (v := (nI 1600)) rfl dX11_hoodsBy_37 ?_
  refine zq_icmp_ge (tgt := 295) dX11_hoodsBy_40 rfl ⟨fun c1 => ?_, fun c1 => ?_⟩
  · have H := H.1 c1
    refine zq_goto (tgt := 28) dX11_hoodsBy_295 rfl ?_
    exact zq_sub (ls' := [(0, .ref 53), (1, .int i1), (2, .int i2)]) [0, 1, 2] rfl H
  · have H := H.2 c1
    refine zq_aload_n (k := 0) (i := 0) (x := 53) 0 rfl rfl dX11_hoodsBy_43 ?_
    refine zq_iload_n (k := 3) (i := 3) (x := i3) 3 rfl rfl dX11_hoodsBy_44 ?_
    refine zq_iload_n (k := 1) (i := 1) (x := i1) 1 rfl rfl dX11_hoodsBy_45 ?_
    refine zq_invV (as := [.int i3, .int i1]) (st := []) (o := 53) (c := 10) (by decide) rfl (sh_53 hw) in_X11_isInTruss se_X11_isInTruss mo_X11_isInTruss ml_RX11_188 rfl (Nat.le_of_ble_eq_true rfl) dX11_hoodsBy_46 rfl H (fun r1 h1 hq => ?_)
    obtain ⟨x2, rfl, rfl, H⟩ := hq
    show zQ none m_X11_hoodsBy (d + 1) 49 [(0, .ref 53), (1, .int i1), (2, .int i2), (3, .int i3)] (.int x2 :: []) h Q
    refine zq_if_ne (tgt := 55) dX11_hoodsBy_49 rfl ⟨fun c3 => ?_, fun c3 => ?_⟩
    · have H := H.1 c3
      refine zq_iconst (v := (nI 0)) rfl dX11_hoodsBy_55 ?_
      refine zq_istore (ls' := [(4, .int (nI 0)), (0, .ref 53), (1, .int i1), (2, .int i2), (3, .int i3)]) (i := 4) (Nat.le_of_ble_eq_true rfl) rfl dX11_hoodsBy_56 ?_
      exact zq_sub (ls' := [(0, .ref 53), (1, .int i1), (2, .int i2), (3, .int i3), (4, .int (nI 0))]) [1, 2, 3, 4, 0] rfl H
    · have H := H.2 c3
      refine zq_goto (tgt := 289) dX11_hoodsBy_52 rfl ?_
      exact H
set_option maxHeartbeats 2000000 in
set_option maxRecDepth 20000 in
theorem r_X11_hoodsBy_58 {d : Nat} {h : AH} {Q : Option Value → AH → Prop} (i1 : Int32) (i2 : Int32) (i3 : Int32) (i4 : Int32) (hw : zWF h)  (H : ((nI 40) ≤ i4 → zQ none m_X11_hoodsBy (d + 1) 289 [(0, .ref 53), (1, .int i1), (2, .int i2), (3, .int i3)] [] h Q) ∧ (¬ (nI 40) ≤ i4 → (i4 = (i3 / (nI 40)) → zQ none m_X11_hoodsBy (d + 1) 283 [(0, .ref 53), (1, .int i1), (2, .int i2), (3, .int i3), (4, .int i4)] [] h Q) ∧ (¬ i4 = (i3 / (nI 40)) → (i4 = (i3 - i3 / (nI 40) * (nI 40)) → zQ none m_X11_hoodsBy (d + 1) 283 [(0, .ref 53), (1, .int i1), (2, .int i2), (3, .int i3), (4, .int i4)] [] h Q) ∧ (¬ i4 = (i3 - i3 / (nI 40) * (nI 40)) → zK d m_X11_edge [.int (i3 / (nI 40)), .int i4] h (pI h fun x4 => zK d m_X11_isInTruss [.ref 53, .int x4, .int i1] h (pI h fun x5 => (x5 = 0 → zQ none m_X11_hoodsBy (d + 1) 283 [(0, .ref 53), (1, .int i1), (2, .int i2), (3, .int i3), (4, .int i4)] [] h Q) ∧ (¬ x5 = 0 → zK d m_X11_edge [.int (i3 - i3 / (nI 40) * (nI 40)), .int i4] h (pI h fun x7 => zK d m_X11_isInTruss [.ref 53, .int x7, .int i1] h (pI h fun x8 => (x8 ≠ 0 → vp_in i3 1600 ∧ (zK d m_X11_edge [.int (i3 / (nI 40)), .int i4] h (pI h fun x11 => vp_in x11 1600 ∧ (((h.I 65 i3.toNatClampNeg) ≤ (h.I 65 x11.toNatClampNeg) → zQ none m_X11_hoodsBy (d + 1) 163 [(0, .ref 53), (1, .int i1), (2, .int i2), (3, .int i3), (4, .int i4), (5, .int (i3 / (nI 40))), (6, .int (i3 - i3 / (nI 40) * (nI 40))), (7, .int (h.I 65 i3.toNatClampNeg))] [] h Q) ∧ (¬ (h.I 65 i3.toNatClampNeg) ≤ (h.I 65 x11.toNatClampNeg) → zK d m_X11_edge [.int (i3 / (nI 40)), .int i4] h (pI h fun x14 => vp_in x14 1600 ∧ (zQ none m_X11_hoodsBy (d + 1) 163 [(0, .ref 53), (1, .int i1), (2, .int i2), (3, .int i3), (4, .int i4), (5, .int (i3 / (nI 40))), (6, .int (i3 - i3 / (nI 40) * (nI 40))), (7, .int (h.I 65 x14.toNatClampNeg))] [] h Q))))))) ∧ (x8 = 0 → zQ none m_X11_hoodsBy (d + 1) 283 [(0, .ref 53), (1, .int i1), (2, .int i2), (3, .int i3), (4, .int i4)] [] h Q)))))))))) : zQ none m_X11_hoodsBy (d + 1) 58 [(0, .ref 53), (1, .int i1), (2, .int i2), (3, .int i3), (4, .int i4)] [] h Q := by
  refine zq_iload (i := 4) (x := i4) 4 rfl dX11_hoodsBy_58 ?_
  refine zq_bipush (v := (nI 40)) rfl dX11_hoodsBy_60 ?_
  refine zq_icmp_ge (tgt := 289) dX11_hoodsBy_62 rfl ⟨fun c1 => ?_, fun c1 => ?_⟩
  · have H := H.1 c1
    exact zq_sub (ls' := [(0, .ref 53), (1, .int i1), (2, .int i2), (3, .int i3)]) [0, 1, 2, 3] rfl H
  · have H := H.2 c1
    refine zq_iload_n (k := 3) (i := 3) (x := i3) 3 rfl rfl dX11_hoodsBy_65 ?_
    refine zq_bipush (v := (nI 40)) rfl dX11_hoodsBy_66 ?_
    refine zq_idiv (by decide) dX11_hoodsBy_68 ?_
    refine zq_istore (ls' := [(5, .int (i3 / (nI 40))), (0, .ref 53), (1, .int i1), (2, .int i2), (3, .int i3), (4, .int i4)]) (i := 5) (Nat.le_of_ble_eq_true rfl) rfl dX11_hoodsBy_69 ?_
    refine zq_iload_n (k := 3) (i := 3) (x := i3) 4 rfl rfl dX11_hoodsBy_71 ?_
    refine zq_bipush (v := (nI 40)) rfl dX11_hoodsBy_72 ?_
    refine zq_irem (by decide) dX11_hoodsBy_74 ?_
    refine zq_istore (ls' := [(6, .int (i3 - i3 / (nI 40) * (nI 40))), (5, .int (i3 / (nI 40))), (0, .ref 53), (1, .int i1), (2, .int i2), (3, .int i3), (4, .int i4)]) (i := 6) (Nat.le_of_ble_eq_true rfl) rfl dX11_hoodsBy_75 ?_
    refine zq_iload (i := 4) (x := i4) 6 rfl dX11_hoodsBy_77 ?_
    refine zq_iload (i := 5) (x := (i3 / (nI 40))) 1 rfl dX11_hoodsBy_79 ?_
    refine zq_icmp_eq (tgt := 283) dX11_hoodsBy_81 rfl ⟨fun c2 => ?_, fun c2 => ?_⟩
    · have H := H.1 c2
      exact zq_sub (ls' := [(0, .ref 53), (1, .int i1), (2, .int i2), (3, .int i3), (4, .int i4)]) [2, 3, 4, 5, 6] rfl H
    · have H := H.2 c2
      refine zq_iload (i := 4) (x := i4) 6 rfl dX11_hoodsBy_84 ?_
      refine zq_iload (i := 6) (x := (i3 - i3 / (nI 40) * (nI 40))) 0 rfl dX11_hoodsBy_86 ?_
      refine zq_icmp_eq (tgt := 283) dX11_hoodsBy_88 rfl ⟨fun c3 => ?_, fun c3 => ?_⟩
      · have H := H.1 c3
        exact zq_sub (ls' := [(0, .ref 53), (1, .int i1), (2, .int i2), (3, .int i3), (4, .int i4)]) [2, 3, 4, 5, 6] rfl H
      · have H := H.2 c3
        refine zq_aload_n (k := 0) (i := 0) (x := 53) 2 rfl rfl dX11_hoodsBy_91 ?_
        refine zq_iload (i := 5) (x := (i3 / (nI 40))) 1 rfl dX11_hoodsBy_92 ?_
        refine zq_iload (i := 4) (x := i4) 6 rfl dX11_hoodsBy_94 ?_
        refine zq_invS (as := [.int (i3 / (nI 40)), .int i4]) (st := .ref 53 :: []) st_X11_edge mo_X11_edge ml_RX11_92 rfl (Nat.le_of_ble_eq_true rfl) dX11_hoodsBy_96 rfl H (fun r1 h1 hq => ?_)
        obtain ⟨x4, rfl, rfl, H⟩ := hq
        show zQ none m_X11_hoodsBy (d + 1) 99 [(6, .int (i3 - i3 / (nI 40) * (nI 40))), (5, .int (i3 / (nI 40))), (0, .ref 53), (1, .int i1), (2, .int i2), (3, .int i3), (4, .int i4)] (.int x4 :: .ref 53 :: []) h Q
        refine zq_iload_n (k := 1) (i := 1) (x := i1) 3 rfl rfl dX11_hoodsBy_99 ?_
        refine zq_invV (as := [.int x4, .int i1]) (st := []) (o := 53) (c := 10) (by decide) rfl (sh_53 hw) in_X11_isInTruss se_X11_isInTruss mo_X11_isInTruss ml_RX11_188 rfl (Nat.le_of_ble_eq_true rfl) dX11_hoodsBy_100 rfl H (fun r1 h1 hq => ?_)
        obtain ⟨x5, rfl, rfl, H⟩ := hq
        show zQ none m_X11_hoodsBy (d + 1) 103 [(6, .int (i3 - i3 / (nI 40) * (nI 40))), (5, .int (i3 / (nI 40))), (0, .ref 53), (1, .int i1), (2, .int i2), (3, .int i3), (4, .int i4)] (.int x5 :: []) h Q
        refine zq_if_eq (tgt := 283) dX11_hoodsBy_103 rfl ⟨fun c6 => ?_, fun c6 => ?_⟩
        · have H := H.1 c6
          exact zq_sub (ls' := [(0, .ref 53), (1, .int i1), (2, .int i2), (3, .int i3), (4, .int i4)]) [2, 3, 4, 5, 6] rfl H
        · have H := H.2 c6
          refine zq_aload_n (k := 0) (i := 0) (x := 53) 2 rfl rfl dX11_hoodsBy_106 ?_
          refine zq_iload (i := 6) (x := (i3 - i3 / (nI 40) * (nI 40))) 0 rfl dX11_hoodsBy_107 ?_
          refine zq_iload (i := 4) (x := i4) 6 rfl dX11_hoodsBy_109 ?_
          refine zq_invS (as := [.int (i3 - i3 / (nI 40) * (nI 40)), .int i4]) (st := .ref 53 :: []) st_X11_edge mo_X11_edge ml_RX11_92 rfl (Nat.le_of_ble_eq_true rfl) dX11_hoodsBy_111 rfl H (fun r1 h1 hq => ?_)
          obtain ⟨x7, rfl, rfl, H⟩ := hq
          show zQ none m_X11_hoodsBy (d + 1) 114 [(6, .int (i3 - i3 / (nI 40) * (nI 40))), (5, .int (i3 / (nI 40))), (0, .ref 53), (1, .int i1), (2, .int i2), (3, .int i3), (4, .int i4)] (.int x7 :: .ref 53 :: []) h Q
          refine zq_iload_n (k := 1) (i := 1) (x := i1) 3 rfl rfl dX11_hoodsBy_114 ?_
          refine zq_invV (as := [.int x7, .int i1]) (st := []) (o := 53) (c := 10) (by decide) rfl (sh_53 hw) in_X11_isInTruss se_X11_isInTruss mo_X11_isInTruss ml_RX11_188 rfl (Nat.le_of_ble_eq_true rfl) dX11_hoodsBy_115 rfl H (fun r1 h1 hq => ?_)
          obtain ⟨x8, rfl, rfl, H⟩ := hq
          show zQ none m_X11_hoodsBy (d + 1) 118 [(6, .int (i3 - i3 / (nI 40) * (nI 40))), (5, .int (i3 / (nI 40))), (0, .ref 53), (1, .int i1), (2, .int i2), (3, .int i3), (4, .int i4)] (.int x8 :: []) h Q
          refine zq_if_ne (tgt := 124) dX11_hoodsBy_118 rfl ⟨fun c9 => ?_, fun c9 => ?_⟩
          · have H := H.1 c9
            refine zq_aload_n (k := 0) (i := 0) (x := 53) 2 rfl rfl dX11_hoodsBy_124 ?_
            refine zq_getP fl_RX11_46 rfl (sh_53 hw) (rf_53_17 hw) dX11_hoodsBy_125 ?_
            refine zq_iload_n (k := 3) (i := 3) (x := i3) 5 rfl rfl dX11_hoodsBy_128 ?_
            obtain ⟨b10, H⟩ := H
            refine zq_iald (sh_65 hw) b10 dX11_hoodsBy_129 ?_
            refine zq_istore (ls' := [(7, .int (h.I 65 i3.toNatClampNeg)), (6, .int (i3 - i3 / (nI 40) * (nI 40))), (5, .int (i3 / (nI 40))), (0, .ref 53), (1, .int i1), (2, .int i2), (3, .int i3), (4, .int i4)]) (i := 7) (Nat.le_of_ble_eq_true rfl) rfl dX11_hoodsBy_130 ?_
            refine zq_aload_n (k := 0) (i := 0) (x := 53) 3 rfl rfl dX11_hoodsBy_132 ?_
            refine zq_getP fl_RX11_46 rfl (sh_53 hw) (rf_53_17 hw) dX11_hoodsBy_133 ?_
            refine zq_iload (i := 5) (x := (i3 / (nI 40))) 2 rfl dX11_hoodsBy_136 ?_
            refine zq_iload (i := 4) (x := i4) 7 rfl dX11_hoodsBy_138 ?_
            refine zq_invS (as := [.int (i3 / (nI 40)), .int i4]) (st := .ref 65 :: []) st_X11_edge mo_X11_edge ml_RX11_92 rfl (Nat.le_of_ble_eq_true rfl) dX11_hoodsBy_140 rfl H (fun r1 h1 hq => ?_)
            obtain ⟨x11, rfl, rfl, H⟩ := hq
            show zQ none m_X11_hoodsBy (d + 1) 143 [(7, .int (h.I 65 i3.toNatClampNeg)), (6, .int (i3 - i3 / (nI 40) * (nI 40))), (5, .int (i3 / (nI 40))), (0, .ref 53), (1, .int i1), (2, .int i2), (3, .int i3), (4, .int i4)] (.int x11 :: .ref 65 :: []) h Q
            obtain ⟨b12, H⟩ := H
            refine zq_iald (sh_65 hw) b12 dX11_hoodsBy_143 ?_
            refine zq_iload (i := 7) (x := (h.I 65 i3.toNatClampNeg)) 0 rfl dX11_hoodsBy_144 ?_
            refine zq_icmp_ge (tgt := 163) dX11_hoodsBy_146 rfl ⟨fun c13 => ?_, fun c13 => ?_⟩
            · have H := H.1 c13
              exact zq_sub (ls' := [(0, .ref 53), (1, .int i1), (2, .int i2), (3, .int i3), (4, .int i4), (5, .int (i3 / (nI 40))), (6, .int (i3 - i3 / (nI 40) * (nI 40))), (7, .int (h.I 65 i3.toNatClampNeg))]) [3, 4, 5, 6, 7, 2, 1, 0] rfl H
            · have H := H.2 c13
              refine zq_aload_n (k := 0) (i := 0) (x := 53) 3 rfl rfl dX11_hoodsBy_149 ?_
              refine zq_getP fl_RX11_46 rfl (sh_53 hw) (rf_53_17 hw) dX11_hoodsBy_150 ?_
              refine zq_iload (i := 5) (x := (i3 / (nI 40))) 2 rfl dX11_hoodsBy_153 ?_
              refine zq_iload (i := 4) (x := i4) 7 rfl dX11_hoodsBy_155 ?_
              refine zq_invS (as := [.int (i3 / (nI 40)), .int i4]) (st := .ref 65 :: []) st_X11_edge mo_X11_edge ml_RX11_92 rfl (Nat.le_of_ble_eq_true rfl) dX11_hoodsBy_157 rfl H (fun r1 h1 hq => ?_)
              obtain ⟨x14, rfl, rfl, H⟩ := hq
              show zQ none m_X11_hoodsBy (d + 1) 160 [(7, .int (h.I 65 i3.toNatClampNeg)), (6, .int (i3 - i3 / (nI 40) * (nI 40))), (5, .int (i3 / (nI 40))), (0, .ref 53), (1, .int i1), (2, .int i2), (3, .int i3), (4, .int i4)] (.int x14 :: .ref 65 :: []) h Q
              obtain ⟨b15, H⟩ := H
              refine zq_iald (sh_65 hw) b15 dX11_hoodsBy_160 ?_
              refine zq_istore (ls' := [(7, .int (h.I 65 x14.toNatClampNeg)), (6, .int (i3 - i3 / (nI 40) * (nI 40))), (5, .int (i3 / (nI 40))), (0, .ref 53), (1, .int i1), (2, .int i2), (3, .int i3), (4, .int i4)]) (i := 7) (Nat.le_of_ble_eq_true rfl) rfl dX11_hoodsBy_161 ?_
              exact zq_sub (ls' := [(0, .ref 53), (1, .int i1), (2, .int i2), (3, .int i3), (4, .int i4), (5, .int (i3 / (nI 40))), (6, .int (i3 - i3 / (nI 40) * (nI 40))), (7, .int (h.I 65 x14.toNatClampNeg))]) [3, 4, 5, 6, 7, 2, 1, 0] rfl H
          · have H := H.2 c9
            refine zq_goto (tgt := 283) dX11_hoodsBy_121 rfl ?_
            exact zq_sub (ls' := [(0, .ref 53), (1, .int i1), (2, .int i2), (3, .int i3), (4, .int i4)]) [2, 3, 4, 5, 6] rfl H
set_option maxHeartbeats 2000000 in
set_option maxRecDepth 20000 in
theorem r_X11_hoodsBy_163 {d : Nat} {h : AH} {Q : Option Value → AH → Prop} (i1 : Int32) (i2 : Int32) (i3 : Int32) (i4 : Int32) (i5 : Int32) (i6 : Int32) (i7 : Int32) (hw : zWF h)  (H : zK d m_X11_edge [.int i6, .int i4] h (pI h fun x1 => vp_in x1 1600 ∧ ((i7 ≤ (h.I 65 x1.toNatClampNeg) → zQ none m_X11_hoodsBy (d + 1) 194 [(0, .ref 53), (1, .int i1), (2, .int i2), (3, .int i3), (4, .int i4), (5, .int i5), (6, .int i6), (7, .int i7)] [] h Q) ∧ (¬ i7 ≤ (h.I 65 x1.toNatClampNeg) → zK d m_X11_edge [.int i6, .int i4] h (pI h fun x4 => vp_in x4 1600 ∧ (zQ none m_X11_hoodsBy (d + 1) 194 [(0, .ref 53), (1, .int i1), (2, .int i2), (3, .int i3), (4, .int i4), (5, .int i5), (6, .int i6), (7, .int (h.I 65 x4.toNatClampNeg))] [] h Q)))))) : zQ none m_X11_hoodsBy (d + 1) 163 [(0, .ref 53), (1, .int i1), (2, .int i2), (3, .int i3), (4, .int i4), (5, .int i5), (6, .int i6), (7, .int i7)] [] h Q := by
  refine zq_aload_n (k := 0) (i := 0) (x := 53) 0 rfl rfl dX11_hoodsBy_163 ?_
  refine zq_getP fl_RX11_46 rfl (sh_53 hw) (rf_53_17 hw) dX11_hoodsBy_164 ?_
  refine zq_iload (i := 6) (x := i6) 6 rfl dX11_hoodsBy_167 ?_
  refine zq_iload (i := 4) (x := i4) 4 rfl dX11_hoodsBy_169 ?_
  refine zq_invS (as := [.int i6, .int i4]) (st := .ref 65 :: []) st_X11_edge mo_X11_edge ml_RX11_92 rfl (Nat.le_of_ble_eq_true rfl) dX11_hoodsBy_171 rfl H (fun r1 h1 hq => ?_)
  obtain ⟨x1, rfl, rfl, H⟩ := hq
  show zQ none m_X11_hoodsBy (d + 1) 174 [(0, .ref 53), (1, .int i1), (2, .int i2), (3, .int i3), (4, .int i4), (5, .int i5), (6, .int i6), (7, .int i7)] (.int x1 :: .ref 65 :: []) h Q
  obtain ⟨b2, H⟩ := H
  refine zq_iald (sh_65 hw) b2 dX11_hoodsBy_174 ?_
  refine zq_iload (i := 7) (x := i7) 7 rfl dX11_hoodsBy_175 ?_
  refine zq_icmp_ge (tgt := 194) dX11_hoodsBy_177 rfl ⟨fun c3 => ?_, fun c3 => ?_⟩
  · have H := H.1 c3
    exact H
  · have H := H.2 c3
    refine zq_aload_n (k := 0) (i := 0) (x := 53) 0 rfl rfl dX11_hoodsBy_180 ?_
    refine zq_getP fl_RX11_46 rfl (sh_53 hw) (rf_53_17 hw) dX11_hoodsBy_181 ?_
    refine zq_iload (i := 6) (x := i6) 6 rfl dX11_hoodsBy_184 ?_
    refine zq_iload (i := 4) (x := i4) 4 rfl dX11_hoodsBy_186 ?_
    refine zq_invS (as := [.int i6, .int i4]) (st := .ref 65 :: []) st_X11_edge mo_X11_edge ml_RX11_92 rfl (Nat.le_of_ble_eq_true rfl) dX11_hoodsBy_188 rfl H (fun r1 h1 hq => ?_)
    obtain ⟨x4, rfl, rfl, H⟩ := hq
    show zQ none m_X11_hoodsBy (d + 1) 191 [(0, .ref 53), (1, .int i1), (2, .int i2), (3, .int i3), (4, .int i4), (5, .int i5), (6, .int i6), (7, .int i7)] (.int x4 :: .ref 65 :: []) h Q
    obtain ⟨b5, H⟩ := H
    refine zq_iald (sh_65 hw) b5 dX11_hoodsBy_191 ?_
    refine zq_istore (ls' := [(7, .int (h.I 65 x4.toNatClampNeg)), (0, .ref 53), (1, .int i1), (2, .int i2), (3, .int i3), (4, .int i4), (5, .int i5), (6, .int i6)]) (i := 7) (Nat.le_of_ble_eq_true rfl) rfl dX11_hoodsBy_192 ?_
    exact zq_sub (ls' := [(0, .ref 53), (1, .int i1), (2, .int i2), (3, .int i3), (4, .int i4), (5, .int i5), (6, .int i6), (7, .int (h.I 65 x4.toNatClampNeg))]) [1, 2, 3, 4, 5, 6, 7, 0] rfl H
set_option maxHeartbeats 2000000 in
set_option maxRecDepth 20000 in
theorem r_X11_hoodsBy_194 {d : Nat} {h : AH} {Q : Option Value → AH → Prop} (i1 : Int32) (i2 : Int32) (i3 : Int32) (i4 : Int32) (i5 : Int32) (i6 : Int32) (i7 : Int32) (hw : zWF h)  (H : vp_in i3 1600 ∧ (((h.I 65 i3.toNatClampNeg) ≠ i7 → vp_in i3 1600 ∧ (∀ h4, h4 = h.sI 65 i3.toNatClampNeg i7 → zK d m_X11_edge [.int i5, .int i4] h4 (pI h4 fun x5 => vp_in x5 1600 ∧ (∀ h7, h7 = h4.sI 65 x5.toNatClampNeg i7 → zK d m_X11_edge [.int i6, .int i4] h7 (pI h7 fun x8 => vp_in x8 1600 ∧ (∀ h10, h10 = h7.sI 65 x8.toNatClampNeg i7 → zQ none m_X11_hoodsBy (d + 1) 283 [(0, .ref 53), (1, .int i1), (2, .int (i2 ||| (nI 1))), (3, .int i3), (4, .int i4)] [] h10 Q)))))) ∧ ((h.I 65 i3.toNatClampNeg) = i7 → zK d m_X11_edge [.int i5, .int i4] h (pI h fun x11 => vp_in x11 1600 ∧ (((h.I 65 x11.toNatClampNeg) ≠ i7 → vp_in i3 1600 ∧ (∀ h15, h15 = h.sI 65 i3.toNatClampNeg i7 → zK d m_X11_edge [.int i5, .int i4] h15 (pI h15 fun x16 => vp_in x16 1600 ∧ (∀ h18, h18 = h15.sI 65 x16.toNatClampNeg i7 → zK d m_X11_edge [.int i6, .int i4] h18 (pI h18 fun x19 => vp_in x19 1600 ∧ (∀ h21, h21 = h18.sI 65 x19.toNatClampNeg i7 → zQ none m_X11_hoodsBy (d + 1) 283 [(0, .ref 53), (1, .int i1), (2, .int (i2 ||| (nI 1))), (3, .int i3), (4, .int i4)] [] h21 Q)))))) ∧ ((h.I 65 x11.toNatClampNeg) = i7 → zK d m_X11_edge [.int i6, .int i4] h (pI h fun x22 => vp_in x22 1600 ∧ (((h.I 65 x22.toNatClampNeg) = i7 → vp_in i3 1600 ∧ (∀ h26, h26 = h.sI 65 i3.toNatClampNeg i7 → zK d m_X11_edge [.int i5, .int i4] h26 (pI h26 fun x27 => vp_in x27 1600 ∧ (∀ h29, h29 = h26.sI 65 x27.toNatClampNeg i7 → zK d m_X11_edge [.int i6, .int i4] h29 (pI h29 fun x30 => vp_in x30 1600 ∧ (∀ h32, h32 = h29.sI 65 x30.toNatClampNeg i7 → zQ none m_X11_hoodsBy (d + 1) 283 [(0, .ref 53), (1, .int i1), (2, .int (i2 ||| (nI 0))), (3, .int i3), (4, .int i4)] [] h32 Q)))))) ∧ (¬ (h.I 65 x22.toNatClampNeg) = i7 → vp_in i3 1600 ∧ (∀ h34, h34 = h.sI 65 i3.toNatClampNeg i7 → zK d m_X11_edge [.int i5, .int i4] h34 (pI h34 fun x35 => vp_in x35 1600 ∧ (∀ h37, h37 = h34.sI 65 x35.toNatClampNeg i7 → zK d m_X11_edge [.int i6, .int i4] h37 (pI h37 fun x38 => vp_in x38 1600 ∧ (∀ h40, h40 = h37.sI 65 x38.toNatClampNeg i7 → zQ none m_X11_hoodsBy (d + 1) 283 [(0, .ref 53), (1, .int i1), (2, .int (i2 ||| (nI 1))), (3, .int i3), (4, .int i4)] [] h40 Q)))))))))))))) : zQ none m_X11_hoodsBy (d + 1) 194 [(0, .ref 53), (1, .int i1), (2, .int i2), (3, .int i3), (4, .int i4), (5, .int i5), (6, .int i6), (7, .int i7)] [] h Q := by
  refine zq_iload_n (k := 2) (i := 2) (x := i2) 2 rfl rfl dX11_hoodsBy_194 ?_
  refine zq_aload_n (k := 0) (i := 0) (x := 53) 0 rfl rfl dX11_hoodsBy_195 ?_
  refine zq_getP fl_RX11_46 rfl (sh_53 hw) (rf_53_17 hw) dX11_hoodsBy_196 ?_
  refine zq_iload_n (k := 3) (i := 3) (x := i3) 3 rfl rfl dX11_hoodsBy_199 ?_
  obtain ⟨b1, H⟩ := H
  refine zq_iald (sh_65 hw) b1 dX11_hoodsBy_200 ?_
  refine zq_iload (i := 7) (x := i7) 7 rfl dX11_hoodsBy_201 ?_
  refine zq_icmp_ne (tgt := 240) dX11_hoodsBy_203 rfl ⟨fun c2 => ?_, fun c2 => ?_⟩
  · have H := H.1 c2
    refine zq_iconst (v := (nI 1)) rfl dX11_hoodsBy_240 ?_
    refine zq_goto (tgt := 245) dX11_hoodsBy_241 rfl ?_
    refine zq_ior dX11_hoodsBy_245 ?_
    refine zq_istore_n (ls' := [(2, .int (i2 ||| (nI 1))), (0, .ref 53), (1, .int i1), (3, .int i3), (4, .int i4), (5, .int i5), (6, .int i6), (7, .int i7)]) (k := 2) (i := 2) rfl (Nat.le_of_ble_eq_true rfl) rfl dX11_hoodsBy_246 ?_
    refine zq_aload_n (k := 0) (i := 0) (x := 53) 1 rfl rfl dX11_hoodsBy_247 ?_
    refine zq_getP fl_RX11_46 rfl (sh_53 hw) (rf_53_17 hw) dX11_hoodsBy_248 ?_
    refine zq_iload_n (k := 3) (i := 3) (x := i3) 3 rfl rfl dX11_hoodsBy_251 ?_
    refine zq_iload (i := 7) (x := i7) 7 rfl dX11_hoodsBy_252 ?_
    obtain ⟨b3, H⟩ := H
    refine zq_iast (sh_65 hw) b3 dX11_hoodsBy_254 (fun h4 eh4 => ?_)
    have H := H h4 eh4
    have wh4 := wf_I eh4 hw
    refine zq_aload_n (k := 0) (i := 0) (x := 53) 1 rfl rfl dX11_hoodsBy_255 ?_
    refine zq_getP fl_RX11_46 rfl (sh_53 wh4) (rf_53_17 wh4) dX11_hoodsBy_256 ?_
    refine zq_iload (i := 5) (x := i5) 5 rfl dX11_hoodsBy_259 ?_
    refine zq_iload (i := 4) (x := i4) 4 rfl dX11_hoodsBy_261 ?_
    refine zq_invS (as := [.int i5, .int i4]) (st := .ref 65 :: []) st_X11_edge mo_X11_edge ml_RX11_92 rfl (Nat.le_of_ble_eq_true rfl) dX11_hoodsBy_263 rfl H (fun r1 h1 hq => ?_)
    obtain ⟨x5, rfl, rfl, H⟩ := hq
    show zQ none m_X11_hoodsBy (d + 1) 266 [(2, .int (i2 ||| (nI 1))), (0, .ref 53), (1, .int i1), (3, .int i3), (4, .int i4), (5, .int i5), (6, .int i6), (7, .int i7)] (.int x5 :: .ref 65 :: []) h4 Q
    refine zq_iload (i := 7) (x := i7) 7 rfl dX11_hoodsBy_266 ?_
    obtain ⟨b6, H⟩ := H
    refine zq_iast (sh_65 wh4) b6 dX11_hoodsBy_268 (fun h7 eh7 => ?_)
    have H := H h7 eh7
    have wh7 := wf_I eh7 wh4
    refine zq_aload_n (k := 0) (i := 0) (x := 53) 1 rfl rfl dX11_hoodsBy_269 ?_
    refine zq_getP fl_RX11_46 rfl (sh_53 wh7) (rf_53_17 wh7) dX11_hoodsBy_270 ?_
    refine zq_iload (i := 6) (x := i6) 6 rfl dX11_hoodsBy_273 ?_
    refine zq_iload (i := 4) (x := i4) 4 rfl dX11_hoodsBy_275 ?_
    refine zq_invS (as := [.int i6, .int i4]) (st := .ref 65 :: []) st_X11_edge mo_X11_edge ml_RX11_92 rfl (Nat.le_of_ble_eq_true rfl) dX11_hoodsBy_277 rfl H (fun r1 h1 hq => ?_)
    obtain ⟨x8, rfl, rfl, H⟩ := hq
    show zQ none m_X11_hoodsBy (d + 1) 280 [(2, .int (i2 ||| (nI 1))), (0, .ref 53), (1, .int i1), (3, .int i3), (4, .int i4), (5, .int i5), (6, .int i6), (7, .int i7)] (.int x8 :: .ref 65 :: []) h7 Q
    refine zq_iload (i := 7) (x := i7) 7 rfl dX11_hoodsBy_280 ?_
    obtain ⟨b9, H⟩ := H
    refine zq_iast (sh_65 wh7) b9 dX11_hoodsBy_282 (fun h10 eh10 => ?_)
    have H := H h10 eh10
    have wh10 := wf_I eh10 wh7
    exact zq_sub (ls' := [(0, .ref 53), (1, .int i1), (2, .int (i2 ||| (nI 1))), (3, .int i3), (4, .int i4)]) [1, 2, 0, 3, 4] rfl H
  · have H := H.2 c2
    refine zq_aload_n (k := 0) (i := 0) (x := 53) 0 rfl rfl dX11_hoodsBy_206 ?_
    refine zq_getP fl_RX11_46 rfl (sh_53 hw) (rf_53_17 hw) dX11_hoodsBy_207 ?_
    refine zq_iload (i := 5) (x := i5) 5 rfl dX11_hoodsBy_210 ?_
    refine zq_iload (i := 4) (x := i4) 4 rfl dX11_hoodsBy_212 ?_
    refine zq_invS (as := [.int i5, .int i4]) (st := .ref 65 :: .int i2 :: []) st_X11_edge mo_X11_edge ml_RX11_92 rfl (Nat.le_of_ble_eq_true rfl) dX11_hoodsBy_214 rfl H (fun r1 h1 hq => ?_)
    obtain ⟨x11, rfl, rfl, H⟩ := hq
    show zQ none m_X11_hoodsBy (d + 1) 217 [(0, .ref 53), (1, .int i1), (2, .int i2), (3, .int i3), (4, .int i4), (5, .int i5), (6, .int i6), (7, .int i7)] (.int x11 :: .ref 65 :: .int i2 :: []) h Q
    obtain ⟨b12, H⟩ := H
    refine zq_iald (sh_65 hw) b12 dX11_hoodsBy_217 ?_
    refine zq_iload (i := 7) (x := i7) 7 rfl dX11_hoodsBy_218 ?_
    refine zq_icmp_ne (tgt := 240) dX11_hoodsBy_220 rfl ⟨fun c13 => ?_, fun c13 => ?_⟩
    · have H := H.1 c13
      refine zq_iconst (v := (nI 1)) rfl dX11_hoodsBy_240 ?_
      refine zq_goto (tgt := 245) dX11_hoodsBy_241 rfl ?_
      refine zq_ior dX11_hoodsBy_245 ?_
      refine zq_istore_n (ls' := [(2, .int (i2 ||| (nI 1))), (0, .ref 53), (1, .int i1), (3, .int i3), (4, .int i4), (5, .int i5), (6, .int i6), (7, .int i7)]) (k := 2) (i := 2) rfl (Nat.le_of_ble_eq_true rfl) rfl dX11_hoodsBy_246 ?_
      refine zq_aload_n (k := 0) (i := 0) (x := 53) 1 rfl rfl dX11_hoodsBy_247 ?_
      refine zq_getP fl_RX11_46 rfl (sh_53 hw) (rf_53_17 hw) dX11_hoodsBy_248 ?_
      refine zq_iload_n (k := 3) (i := 3) (x := i3) 3 rfl rfl dX11_hoodsBy_251 ?_
      refine zq_iload (i := 7) (x := i7) 7 rfl dX11_hoodsBy_252 ?_
      obtain ⟨b14, H⟩ := H
      refine zq_iast (sh_65 hw) b14 dX11_hoodsBy_254 (fun h15 eh15 => ?_)
      have H := H h15 eh15
      have wh15 := wf_I eh15 hw
      refine zq_aload_n (k := 0) (i := 0) (x := 53) 1 rfl rfl dX11_hoodsBy_255 ?_
      refine zq_getP fl_RX11_46 rfl (sh_53 wh15) (rf_53_17 wh15) dX11_hoodsBy_256 ?_
      refine zq_iload (i := 5) (x := i5) 5 rfl dX11_hoodsBy_259 ?_
      refine zq_iload (i := 4) (x := i4) 4 rfl dX11_hoodsBy_261 ?_
      refine zq_invS (as := [.int i5, .int i4]) (st := .ref 65 :: []) st_X11_edge mo_X11_edge ml_RX11_92 rfl (Nat.le_of_ble_eq_true rfl) dX11_hoodsBy_263 rfl H (fun r1 h1 hq => ?_)
      obtain ⟨x16, rfl, rfl, H⟩ := hq
      show zQ none m_X11_hoodsBy (d + 1) 266 [(2, .int (i2 ||| (nI 1))), (0, .ref 53), (1, .int i1), (3, .int i3), (4, .int i4), (5, .int i5), (6, .int i6), (7, .int i7)] (.int x16 :: .ref 65 :: []) h15 Q
      refine zq_iload (i := 7) (x := i7) 7 rfl dX11_hoodsBy_266 ?_
      obtain ⟨b17, H⟩ := H
      refine zq_iast (sh_65 wh15) b17 dX11_hoodsBy_268 (fun h18 eh18 => ?_)
      have H := H h18 eh18
      have wh18 := wf_I eh18 wh15
      refine zq_aload_n (k := 0) (i := 0) (x := 53) 1 rfl rfl dX11_hoodsBy_269 ?_
      refine zq_getP fl_RX11_46 rfl (sh_53 wh18) (rf_53_17 wh18) dX11_hoodsBy_270 ?_
      refine zq_iload (i := 6) (x := i6) 6 rfl dX11_hoodsBy_273 ?_
      refine zq_iload (i := 4) (x := i4) 4 rfl dX11_hoodsBy_275 ?_
      refine zq_invS (as := [.int i6, .int i4]) (st := .ref 65 :: []) st_X11_edge mo_X11_edge ml_RX11_92 rfl (Nat.le_of_ble_eq_true rfl) dX11_hoodsBy_277 rfl H (fun r1 h1 hq => ?_)
      obtain ⟨x19, rfl, rfl, H⟩ := hq
      show zQ none m_X11_hoodsBy (d + 1) 280 [(2, .int (i2 ||| (nI 1))), (0, .ref 53), (1, .int i1), (3, .int i3), (4, .int i4), (5, .int i5), (6, .int i6), (7, .int i7)] (.int x19 :: .ref 65 :: []) h18 Q
      refine zq_iload (i := 7) (x := i7) 7 rfl dX11_hoodsBy_280 ?_
      obtain ⟨b20, H⟩ := H
      refine zq_iast (sh_65 wh18) b20 dX11_hoodsBy_282 (fun h21 eh21 => ?_)
      have H := H h21 eh21
      have wh21 := wf_I eh21 wh18
      exact zq_sub (ls' := [(0, .ref 53), (1, .int i1), (2, .int (i2 ||| (nI 1))), (3, .int i3), (4, .int i4)]) [1, 2, 0, 3, 4] rfl H
    · have H := H.2 c13
      refine zq_aload_n (k := 0) (i := 0) (x := 53) 0 rfl rfl dX11_hoodsBy_223 ?_
      refine zq_getP fl_RX11_46 rfl (sh_53 hw) (rf_53_17 hw) dX11_hoodsBy_224 ?_
      refine zq_iload (i := 6) (x := i6) 6 rfl dX11_hoodsBy_227 ?_
      refine zq_iload (i := 4) (x := i4) 4 rfl dX11_hoodsBy_229 ?_
      refine zq_invS (as := [.int i6, .int i4]) (st := .ref 65 :: .int i2 :: []) st_X11_edge mo_X11_edge ml_RX11_92 rfl (Nat.le_of_ble_eq_true rfl) dX11_hoodsBy_231 rfl H (fun r1 h1 hq => ?_)
      obtain ⟨x22, rfl, rfl, H⟩ := hq
      show zQ none m_X11_hoodsBy (d + 1) 234 [(0, .ref 53), (1, .int i1), (2, .int i2), (3, .int i3), (4, .int i4), (5, .int i5), (6, .int i6), (7, .int i7)] (.int x22 :: .ref 65 :: .int i2 :: []) h Q
      obtain ⟨b23, H⟩ := H
      refine zq_iald (sh_65 hw) b23 dX11_hoodsBy_234 ?_
      refine zq_iload (i := 7) (x := i7) 7 rfl dX11_hoodsBy_235 ?_
      refine zq_icmp_eq (tgt := 244) dX11_hoodsBy_237 rfl ⟨fun c24 => ?_, fun c24 => ?_⟩
      · have H := H.1 c24
        refine zq_iconst (v := (nI 0)) rfl dX11_hoodsBy_244 ?_
        refine zq_ior dX11_hoodsBy_245 ?_
        refine zq_istore_n (ls' := [(2, .int (i2 ||| (nI 0))), (0, .ref 53), (1, .int i1), (3, .int i3), (4, .int i4), (5, .int i5), (6, .int i6), (7, .int i7)]) (k := 2) (i := 2) rfl (Nat.le_of_ble_eq_true rfl) rfl dX11_hoodsBy_246 ?_
        refine zq_aload_n (k := 0) (i := 0) (x := 53) 1 rfl rfl dX11_hoodsBy_247 ?_
        refine zq_getP fl_RX11_46 rfl (sh_53 hw) (rf_53_17 hw) dX11_hoodsBy_248 ?_
        refine zq_iload_n (k := 3) (i := 3) (x := i3) 3 rfl rfl dX11_hoodsBy_251 ?_
        refine zq_iload (i := 7) (x := i7) 7 rfl dX11_hoodsBy_252 ?_
        obtain ⟨b25, H⟩ := H
        refine zq_iast (sh_65 hw) b25 dX11_hoodsBy_254 (fun h26 eh26 => ?_)
        have H := H h26 eh26
        have wh26 := wf_I eh26 hw
        refine zq_aload_n (k := 0) (i := 0) (x := 53) 1 rfl rfl dX11_hoodsBy_255 ?_
        refine zq_getP fl_RX11_46 rfl (sh_53 wh26) (rf_53_17 wh26) dX11_hoodsBy_256 ?_
        refine zq_iload (i := 5) (x := i5) 5 rfl dX11_hoodsBy_259 ?_
        refine zq_iload (i := 4) (x := i4) 4 rfl dX11_hoodsBy_261 ?_
        refine zq_invS (as := [.int i5, .int i4]) (st := .ref 65 :: []) st_X11_edge mo_X11_edge ml_RX11_92 rfl (Nat.le_of_ble_eq_true rfl) dX11_hoodsBy_263 rfl H (fun r1 h1 hq => ?_)
        obtain ⟨x27, rfl, rfl, H⟩ := hq
        show zQ none m_X11_hoodsBy (d + 1) 266 [(2, .int (i2 ||| (nI 0))), (0, .ref 53), (1, .int i1), (3, .int i3), (4, .int i4), (5, .int i5), (6, .int i6), (7, .int i7)] (.int x27 :: .ref 65 :: []) h26 Q
        refine zq_iload (i := 7) (x := i7) 7 rfl dX11_hoodsBy_266 ?_
        obtain ⟨b28, H⟩ := H
        refine zq_iast (sh_65 wh26) b28 dX11_hoodsBy_268 (fun h29 eh29 => ?_)
        have H := H h29 eh29
        have wh29 := wf_I eh29 wh26
        refine zq_aload_n (k := 0) (i := 0) (x := 53) 1 rfl rfl dX11_hoodsBy_269 ?_
        refine zq_getP fl_RX11_46 rfl (sh_53 wh29) (rf_53_17 wh29) dX11_hoodsBy_270 ?_
        refine zq_iload (i := 6) (x := i6) 6 rfl dX11_hoodsBy_273 ?_
        refine zq_iload (i := 4) (x := i4) 4 rfl dX11_hoodsBy_275 ?_
        refine zq_invS (as := [.int i6, .int i4]) (st := .ref 65 :: []) st_X11_edge mo_X11_edge ml_RX11_92 rfl (Nat.le_of_ble_eq_true rfl) dX11_hoodsBy_277 rfl H (fun r1 h1 hq => ?_)
        obtain ⟨x30, rfl, rfl, H⟩ := hq
        show zQ none m_X11_hoodsBy (d + 1) 280 [(2, .int (i2 ||| (nI 0))), (0, .ref 53), (1, .int i1), (3, .int i3), (4, .int i4), (5, .int i5), (6, .int i6), (7, .int i7)] (.int x30 :: .ref 65 :: []) h29 Q
        refine zq_iload (i := 7) (x := i7) 7 rfl dX11_hoodsBy_280 ?_
        obtain ⟨b31, H⟩ := H
        refine zq_iast (sh_65 wh29) b31 dX11_hoodsBy_282 (fun h32 eh32 => ?_)
        have H := H h32 eh32
        have wh32 := wf_I eh32 wh29
        exact zq_sub (ls' := [(0, .ref 53), (1, .int i1), (2, .int (i2 ||| (nI 0))), (3, .int i3), (4, .int i4)]) [1, 2, 0, 3, 4] rfl H
      · have H := H.2 c24
        refine zq_iconst (v := (nI 1)) rfl dX11_hoodsBy_240 ?_
        refine zq_goto (tgt := 245) dX11_hoodsBy_241 rfl ?_
        refine zq_ior dX11_hoodsBy_245 ?_
        refine zq_istore_n (ls' := [(2, .int (i2 ||| (nI 1))), (0, .ref 53), (1, .int i1), (3, .int i3), (4, .int i4), (5, .int i5), (6, .int i6), (7, .int i7)]) (k := 2) (i := 2) rfl (Nat.le_of_ble_eq_true rfl) rfl dX11_hoodsBy_246 ?_
        refine zq_aload_n (k := 0) (i := 0) (x := 53) 1 rfl rfl dX11_hoodsBy_247 ?_
        refine zq_getP fl_RX11_46 rfl (sh_53 hw) (rf_53_17 hw) dX11_hoodsBy_248 ?_
        refine zq_iload_n (k := 3) (i := 3) (x := i3) 3 rfl rfl dX11_hoodsBy_251 ?_
        refine zq_iload (i := 7) (x := i7) 7 rfl dX11_hoodsBy_252 ?_
        obtain ⟨b33, H⟩ := H
        refine zq_iast (sh_65 hw) b33 dX11_hoodsBy_254 (fun h34 eh34 => ?_)
        have H := H h34 eh34
        have wh34 := wf_I eh34 hw
        refine zq_aload_n (k := 0) (i := 0) (x := 53) 1 rfl rfl dX11_hoodsBy_255 ?_
        refine zq_getP fl_RX11_46 rfl (sh_53 wh34) (rf_53_17 wh34) dX11_hoodsBy_256 ?_
        refine zq_iload (i := 5) (x := i5) 5 rfl dX11_hoodsBy_259 ?_
        refine zq_iload (i := 4) (x := i4) 4 rfl dX11_hoodsBy_261 ?_
        refine zq_invS (as := [.int i5, .int i4]) (st := .ref 65 :: []) st_X11_edge mo_X11_edge ml_RX11_92 rfl (Nat.le_of_ble_eq_true rfl) dX11_hoodsBy_263 rfl H (fun r1 h1 hq => ?_)
        obtain ⟨x35, rfl, rfl, H⟩ := hq
        show zQ none m_X11_hoodsBy (d + 1) 266 [(2, .int (i2 ||| (nI 1))), (0, .ref 53), (1, .int i1), (3, .int i3), (4, .int i4), (5, .int i5), (6, .int i6), (7, .int i7)] (.int x35 :: .ref 65 :: []) h34 Q
        refine zq_iload (i := 7) (x := i7) 7 rfl dX11_hoodsBy_266 ?_
        obtain ⟨b36, H⟩ := H
        refine zq_iast (sh_65 wh34) b36 dX11_hoodsBy_268 (fun h37 eh37 => ?_)
        have H := H h37 eh37
        have wh37 := wf_I eh37 wh34
        refine zq_aload_n (k := 0) (i := 0) (x := 53) 1 rfl rfl dX11_hoodsBy_269 ?_
        refine zq_getP fl_RX11_46 rfl (sh_53 wh37) (rf_53_17 wh37) dX11_hoodsBy_270 ?_
        refine zq_iload (i := 6) (x := i6) 6 rfl dX11_hoodsBy_273 ?_
        refine zq_iload (i := 4) (x := i4) 4 rfl dX11_hoodsBy_275 ?_
        refine zq_invS (as := [.int i6, .int i4]) (st := .ref 65 :: []) st_X11_edge mo_X11_edge ml_RX11_92 rfl (Nat.le_of_ble_eq_true rfl) dX11_hoodsBy_277 rfl H (fun r1 h1 hq => ?_)
        obtain ⟨x38, rfl, rfl, H⟩ := hq
        show zQ none m_X11_hoodsBy (d + 1) 280 [(2, .int (i2 ||| (nI 1))), (0, .ref 53), (1, .int i1), (3, .int i3), (4, .int i4), (5, .int i5), (6, .int i6), (7, .int i7)] (.int x38 :: .ref 65 :: []) h37 Q
        refine zq_iload (i := 7) (x := i7) 7 rfl dX11_hoodsBy_280 ?_
        obtain ⟨b39, H⟩ := H
        refine zq_iast (sh_65 wh37) b39 dX11_hoodsBy_282 (fun h40 eh40 => ?_)
        have H := H h40 eh40
        have wh40 := wf_I eh40 wh37
        exact zq_sub (ls' := [(0, .ref 53), (1, .int i1), (2, .int (i2 ||| (nI 1))), (3, .int i3), (4, .int i4)]) [1, 2, 0, 3, 4] rfl H
set_option maxHeartbeats 2000000 in
set_option maxRecDepth 20000 in
theorem r_X11_hoodsBy_283 {d : Nat} {h : AH} {Q : Option Value → AH → Prop} (i1 : Int32) (i2 : Int32) (i3 : Int32) (i4 : Int32) (hw : zWF h)  (H : zQ none m_X11_hoodsBy (d + 1) 58 [(0, .ref 53), (1, .int i1), (2, .int i2), (3, .int i3), (4, .int (i4 + (nI 1)))] [] h Q) : zQ none m_X11_hoodsBy (d + 1) 283 [(0, .ref 53), (1, .int i1), (2, .int i2), (3, .int i3), (4, .int i4)] [] h Q := by
  refine zq_iinc (i := 4) (x := i4) (v := (nI 1)) (ls' := [(4, .int (i4 + (nI 1))), (0, .ref 53), (1, .int i1), (2, .int i2), (3, .int i3)]) 4 rfl rfl (Nat.le_of_ble_eq_true rfl) rfl dX11_hoodsBy_283 ?_
  refine zq_goto (tgt := 58) dX11_hoodsBy_286 rfl ?_
  exact zq_sub (ls' := [(0, .ref 53), (1, .int i1), (2, .int i2), (3, .int i3), (4, .int (i4 + (nI 1)))]) [1, 2, 3, 4, 0] rfl H
set_option maxHeartbeats 2000000 in
set_option maxRecDepth 20000 in
theorem r_X11_hoodsBy_289 {d : Nat} {h : AH} {Q : Option Value → AH → Prop} (i1 : Int32) (i2 : Int32) (i3 : Int32) (hw : zWF h)  (H : zQ none m_X11_hoodsBy (d + 1) 36 [(0, .ref 53), (1, .int i1), (2, .int i2), (3, .int (i3 + (nI 1)))] [] h Q) : zQ none m_X11_hoodsBy (d + 1) 289 [(0, .ref 53), (1, .int i1), (2, .int i2), (3, .int i3)] [] h Q := by
  refine zq_iinc (i := 3) (x := i3) (v := (nI 1)) (ls' := [(3, .int (i3 + (nI 1))), (0, .ref 53), (1, .int i1), (2, .int i2)]) 3 rfl rfl (Nat.le_of_ble_eq_true rfl) rfl dX11_hoodsBy_289 ?_
  refine zq_goto (tgt := 36) dX11_hoodsBy_292 rfl ?_
  exact zq_sub (ls' := [(0, .ref 53), (1, .int i1), (2, .int i2), (3, .int (i3 + (nI 1)))]) [1, 2, 3, 0] rfl H
set_option maxHeartbeats 2000000 in
set_option maxRecDepth 20000 in
theorem r_X11_hood_0 {d : Nat} {h : AH} {Q : Option Value → AH → Prop} (i1 : Int32) (i2 : Int32) (i3 : Int32) (hw : zWF h)  (H : zK d m_X11_areTwo [.int i1, .int i2] h (pI h fun x1 => (x1 ≠ 0 → zK d m_X11_isEdge [.ref 53, .int i1, .int i2] h (pI h fun x3 => (x3 ≠ 0 → zK d m_X11_hoodsBy [.ref 53, .int i3] h (kV fun h5 => zK d m_X11_edge [.int i1, .int i2] h5 (pI h5 fun x6 => zK d m_X11_isInTruss [.ref 53, .int x6, .int i3] h5 (pI h5 fun x7 => (x7 ≠ 0 → zQ none m_X11_hood (d + 1) 48 [(0, .ref 53), (1, .int i1), (2, .int i2), (3, .int i3), (4, .int (nI 0)), (5, .int (nI 0))] [] h5 Q) ∧ (x7 = 0 → Q (some (.int (nI 0))) h5))))) ∧ (x3 = 0 → Q (some (.int (-3))) h))) ∧ (x1 = 0 → Q (some (.int (-1))) h))) : zK (d + 1) m_X11_hood [.ref 53, .int i1, .int i2, .int i3] h Q := by
  refine zK_of mo_X11_hood (Nat.le_of_ble_eq_true rfl) ?_
  show zQ none m_X11_hood (d + 1) 0 [(0, .ref 53), (1, .int i1), (2, .int i2), (3, .int i3)] [] h Q
  refine zq_iload_n (k := 1) (i := 1) (x := i1) 1 rfl rfl dX11_hood_0 ?_
  refine zq_iload_n (k := 2) (i := 2) (x := i2) 2 rfl rfl dX11_hood_1 ?_
  refine zq_invS (as := [.int i1, .int i2]) (st := []) st_X11_areTwo mo_X11_areTwo ml_RX11_110 rfl (Nat.le_of_ble_eq_true rfl) dX11_hood_2 rfl H (fun r1 h1 hq => ?_)
  obtain ⟨x1, rfl, rfl, H⟩ := hq
  show zQ none m_X11_hood (d + 1) 5 [(0, .ref 53), (1, .int i1), (2, .int i2), (3, .int i3)] (.int x1 :: []) h Q
  refine zq_if_ne (tgt := 10) dX11_hood_5 rfl ⟨fun c2 => ?_, fun c2 => ?_⟩
  · have H := H.1 c2
    refine zq_aload_n (k := 0) (i := 0) (x := 53) 0 rfl rfl dX11_hood_10 ?_
    refine zq_iload_n (k := 1) (i := 1) (x := i1) 1 rfl rfl dX11_hood_11 ?_
    refine zq_iload_n (k := 2) (i := 2) (x := i2) 2 rfl rfl dX11_hood_12 ?_
    refine zq_invV (as := [.int i1, .int i2]) (st := []) (o := 53) (c := 10) (by decide) rfl (sh_53 hw) in_X11_isEdge se_X11_isEdge mo_X11_isEdge ml_RX11_116 rfl (Nat.le_of_ble_eq_true rfl) dX11_hood_13 rfl H (fun r1 h1 hq => ?_)
    obtain ⟨x3, rfl, rfl, H⟩ := hq
    show zQ none m_X11_hood (d + 1) 16 [(0, .ref 53), (1, .int i1), (2, .int i2), (3, .int i3)] (.int x3 :: []) h Q
    refine zq_if_ne (tgt := 22) dX11_hood_16 rfl ⟨fun c4 => ?_, fun c4 => ?_⟩
    · have H := H.1 c4
      refine zq_aload_n (k := 0) (i := 0) (x := 53) 0 rfl rfl dX11_hood_22 ?_
      refine zq_iload_n (k := 3) (i := 3) (x := i3) 3 rfl rfl dX11_hood_23 ?_
      refine zq_invV (as := [.int i3]) (st := []) (o := 53) (c := 10) (by decide) rfl (sh_53 hw) in_X11_hoodsBy se_X11_hoodsBy mo_X11_hoodsBy ml_RX11_191 rfl (Nat.le_of_ble_eq_true rfl) dX11_hood_24 rfl H (fun r1 h5 hq => ?_)
      obtain ⟨rfl, wh5, H⟩ := hq
      show zQ none m_X11_hood (d + 1) 27 [(0, .ref 53), (1, .int i1), (2, .int i2), (3, .int i3)] ([]) h5 Q
      refine zq_aload_n (k := 0) (i := 0) (x := 53) 0 rfl rfl dX11_hood_27 ?_
      refine zq_iload_n (k := 1) (i := 1) (x := i1) 1 rfl rfl dX11_hood_28 ?_
      refine zq_iload_n (k := 2) (i := 2) (x := i2) 2 rfl rfl dX11_hood_29 ?_
      refine zq_invS (as := [.int i1, .int i2]) (st := .ref 53 :: []) st_X11_edge mo_X11_edge ml_RX11_92 rfl (Nat.le_of_ble_eq_true rfl) dX11_hood_30 rfl H (fun r1 h1 hq => ?_)
      obtain ⟨x6, rfl, rfl, H⟩ := hq
      show zQ none m_X11_hood (d + 1) 33 [(0, .ref 53), (1, .int i1), (2, .int i2), (3, .int i3)] (.int x6 :: .ref 53 :: []) h5 Q
      refine zq_iload_n (k := 3) (i := 3) (x := i3) 3 rfl rfl dX11_hood_33 ?_
      refine zq_invV (as := [.int x6, .int i3]) (st := []) (o := 53) (c := 10) (by decide) rfl (sh_53 wh5) in_X11_isInTruss se_X11_isInTruss mo_X11_isInTruss ml_RX11_188 rfl (Nat.le_of_ble_eq_true rfl) dX11_hood_34 rfl H (fun r1 h1 hq => ?_)
      obtain ⟨x7, rfl, rfl, H⟩ := hq
      show zQ none m_X11_hood (d + 1) 37 [(0, .ref 53), (1, .int i1), (2, .int i2), (3, .int i3)] (.int x7 :: []) h5 Q
      refine zq_if_ne (tgt := 42) dX11_hood_37 rfl ⟨fun c8 => ?_, fun c8 => ?_⟩
      · have H := H.1 c8
        refine zq_iconst (v := (nI 0)) rfl dX11_hood_42 ?_
        refine zq_istore (ls' := [(4, .int (nI 0)), (0, .ref 53), (1, .int i1), (2, .int i2), (3, .int i3)]) (i := 4) (Nat.le_of_ble_eq_true rfl) rfl dX11_hood_43 ?_
        refine zq_iconst (v := (nI 0)) rfl dX11_hood_45 ?_
        refine zq_istore (ls' := [(5, .int (nI 0)), (4, .int (nI 0)), (0, .ref 53), (1, .int i1), (2, .int i2), (3, .int i3)]) (i := 5) (Nat.le_of_ble_eq_true rfl) rfl dX11_hood_46 ?_
        exact zq_sub (ls' := [(0, .ref 53), (1, .int i1), (2, .int i2), (3, .int i3), (4, .int (nI 0)), (5, .int (nI 0))]) [2, 3, 4, 5, 1, 0] rfl H
      · have H := H.2 c8
        refine zq_iconst (v := (nI 0)) rfl dX11_hood_40 ?_
        exact zq_iret dX11_hood_41 rfl rfl rfl H
    · have H := H.2 c4
      refine zq_bipush (v := (-3)) rfl dX11_hood_19 ?_
      exact zq_iret dX11_hood_21 rfl rfl rfl H
  · have H := H.2 c2
    refine zq_iconst (v := (-1)) rfl dX11_hood_8 ?_
    exact zq_iret dX11_hood_9 rfl rfl rfl H
set_option maxHeartbeats 2000000 in
set_option maxRecDepth 20000 in
theorem r_X11_hood_48 {d : Nat} {h : AH} {Q : Option Value → AH → Prop} (i1 : Int32) (i2 : Int32) (i3 : Int32) (i4 : Int32) (i5 : Int32) (hw : zWF h)  (H : ((nI 1600) ≤ i5 → Q (some (.int i4)) h) ∧ (¬ (nI 1600) ≤ i5 → zK d m_X11_isInTruss [.ref 53, .int i5, .int i3] h (pI h fun x2 => (x2 = 0 → zQ none m_X11_hood (d + 1) 48 [(0, .ref 53), (1, .int i1), (2, .int i2), (3, .int i3), (4, .int (i4 + (nI 0))), (5, .int (i5 + (nI 1)))] [] h Q) ∧ (¬ x2 = 0 → vp_in i5 1600 ∧ (zK d m_X11_edge [.int i1, .int i2] h (pI h fun x5 => vp_in x5 1600 ∧ (((h.I 65 i5.toNatClampNeg) ≠ (h.I 65 x5.toNatClampNeg) → zQ none m_X11_hood (d + 1) 48 [(0, .ref 53), (1, .int i1), (2, .int i2), (3, .int i3), (4, .int (i4 + (nI 0))), (5, .int (i5 + (nI 1)))] [] h Q) ∧ ((h.I 65 i5.toNatClampNeg) = (h.I 65 x5.toNatClampNeg) → zQ none m_X11_hood (d + 1) 48 [(0, .ref 53), (1, .int i1), (2, .int i2), (3, .int i3), (4, .int (i4 + (nI 1))), (5, .int (i5 + (nI 1)))] [] h Q)))))))) : zQ none m_X11_hood (d + 1) 48 [(0, .ref 53), (1, .int i1), (2, .int i2), (3, .int i3), (4, .int i4), (5, .int i5)] [] h Q := by
  refine zq_iload (i := 5) (x := i5) 5 rfl dX11_hood_48 ?_
  refine zq_sipush (v := (nI 1600)) rfl dX11_hood_50 ?_
  refine zq_icmp_ge (tgt := 102) dX11_hood_53 rfl ⟨fun c1 => ?_, fun c1 => ?_⟩
  · have H := H.1 c1
    refine zq_iload (i := 4) (x := i4) 4 rfl dX11_hood_102 ?_
    exact zq_iret dX11_hood_104 rfl rfl rfl H
  · have H := H.2 c1
    refine zq_iload (i := 4) (x := i4) 4 rfl dX11_hood_56 ?_
    refine zq_aload_n (k := 0) (i := 0) (x := 53) 0 rfl rfl dX11_hood_58 ?_
    refine zq_iload (i := 5) (x := i5) 5 rfl dX11_hood_59 ?_
    refine zq_iload_n (k := 3) (i := 3) (x := i3) 3 rfl rfl dX11_hood_61 ?_
    refine zq_invV (as := [.int i5, .int i3]) (st := .int i4 :: []) (o := 53) (c := 10) (by decide) rfl (sh_53 hw) in_X11_isInTruss se_X11_isInTruss mo_X11_isInTruss ml_RX11_188 rfl (Nat.le_of_ble_eq_true rfl) dX11_hood_62 rfl H (fun r1 h1 hq => ?_)
    obtain ⟨x2, rfl, rfl, H⟩ := hq
    show zQ none m_X11_hood (d + 1) 65 [(0, .ref 53), (1, .int i1), (2, .int i2), (3, .int i3), (4, .int i4), (5, .int i5)] (.int x2 :: .int i4 :: []) h Q
    refine zq_if_eq (tgt := 92) dX11_hood_65 rfl ⟨fun c3 => ?_, fun c3 => ?_⟩
    · have H := H.1 c3
      refine zq_iconst (v := (nI 0)) rfl dX11_hood_92 ?_
      refine zq_iadd dX11_hood_93 ?_
      refine zq_istore (ls' := [(4, .int (i4 + (nI 0))), (0, .ref 53), (1, .int i1), (2, .int i2), (3, .int i3), (5, .int i5)]) (i := 4) (Nat.le_of_ble_eq_true rfl) rfl dX11_hood_94 ?_
      refine zq_iinc (i := 5) (x := i5) (v := (nI 1)) (ls' := [(5, .int (i5 + (nI 1))), (4, .int (i4 + (nI 0))), (0, .ref 53), (1, .int i1), (2, .int i2), (3, .int i3)]) 5 rfl rfl (Nat.le_of_ble_eq_true rfl) rfl dX11_hood_96 ?_
      refine zq_goto (tgt := 48) dX11_hood_99 rfl ?_
      exact zq_sub (ls' := [(0, .ref 53), (1, .int i1), (2, .int i2), (3, .int i3), (4, .int (i4 + (nI 0))), (5, .int (i5 + (nI 1)))]) [2, 3, 4, 5, 1, 0] rfl H
    · have H := H.2 c3
      refine zq_aload_n (k := 0) (i := 0) (x := 53) 0 rfl rfl dX11_hood_68 ?_
      refine zq_getP fl_RX11_46 rfl (sh_53 hw) (rf_53_17 hw) dX11_hood_69 ?_
      refine zq_iload (i := 5) (x := i5) 5 rfl dX11_hood_72 ?_
      obtain ⟨b4, H⟩ := H
      refine zq_iald (sh_65 hw) b4 dX11_hood_74 ?_
      refine zq_aload_n (k := 0) (i := 0) (x := 53) 0 rfl rfl dX11_hood_75 ?_
      refine zq_getP fl_RX11_46 rfl (sh_53 hw) (rf_53_17 hw) dX11_hood_76 ?_
      refine zq_iload_n (k := 1) (i := 1) (x := i1) 1 rfl rfl dX11_hood_79 ?_
      refine zq_iload_n (k := 2) (i := 2) (x := i2) 2 rfl rfl dX11_hood_80 ?_
      refine zq_invS (as := [.int i1, .int i2]) (st := .ref 65 :: .int (h.I 65 i5.toNatClampNeg) :: .int i4 :: []) st_X11_edge mo_X11_edge ml_RX11_92 rfl (Nat.le_of_ble_eq_true rfl) dX11_hood_81 rfl H (fun r1 h1 hq => ?_)
      obtain ⟨x5, rfl, rfl, H⟩ := hq
      show zQ none m_X11_hood (d + 1) 84 [(0, .ref 53), (1, .int i1), (2, .int i2), (3, .int i3), (4, .int i4), (5, .int i5)] (.int x5 :: .ref 65 :: .int (h.I 65 i5.toNatClampNeg) :: .int i4 :: []) h Q
      obtain ⟨b6, H⟩ := H
      refine zq_iald (sh_65 hw) b6 dX11_hood_84 ?_
      refine zq_icmp_ne (tgt := 92) dX11_hood_85 rfl ⟨fun c7 => ?_, fun c7 => ?_⟩
      · have H := H.1 c7
        refine zq_iconst (v := (nI 0)) rfl dX11_hood_92 ?_
        refine zq_iadd dX11_hood_93 ?_
        refine zq_istore (ls' := [(4, .int (i4 + (nI 0))), (0, .ref 53), (1, .int i1), (2, .int i2), (3, .int i3), (5, .int i5)]) (i := 4) (Nat.le_of_ble_eq_true rfl) rfl dX11_hood_94 ?_
        refine zq_iinc (i := 5) (x := i5) (v := (nI 1)) (ls' := [(5, .int (i5 + (nI 1))), (4, .int (i4 + (nI 0))), (0, .ref 53), (1, .int i1), (2, .int i2), (3, .int i3)]) 5 rfl rfl (Nat.le_of_ble_eq_true rfl) rfl dX11_hood_96 ?_
        refine zq_goto (tgt := 48) dX11_hood_99 rfl ?_
        exact zq_sub (ls' := [(0, .ref 53), (1, .int i1), (2, .int i2), (3, .int i3), (4, .int (i4 + (nI 0))), (5, .int (i5 + (nI 1)))]) [2, 3, 4, 5, 1, 0] rfl H
      · have H := H.2 c7
        refine zq_iconst (v := (nI 1)) rfl dX11_hood_88 ?_
        refine zq_goto (tgt := 93) dX11_hood_89 rfl ?_
        refine zq_iadd dX11_hood_93 ?_
        refine zq_istore (ls' := [(4, .int (i4 + (nI 1))), (0, .ref 53), (1, .int i1), (2, .int i2), (3, .int i3), (5, .int i5)]) (i := 4) (Nat.le_of_ble_eq_true rfl) rfl dX11_hood_94 ?_
        refine zq_iinc (i := 5) (x := i5) (v := (nI 1)) (ls' := [(5, .int (i5 + (nI 1))), (4, .int (i4 + (nI 1))), (0, .ref 53), (1, .int i1), (2, .int i2), (3, .int i3)]) 5 rfl rfl (Nat.le_of_ble_eq_true rfl) rfl dX11_hood_96 ?_
        refine zq_goto (tgt := 48) dX11_hood_99 rfl ?_
        exact zq_sub (ls' := [(0, .ref 53), (1, .int i1), (2, .int i2), (3, .int i3), (4, .int (i4 + (nI 1))), (5, .int (i5 + (nI 1)))]) [2, 3, 4, 5, 1, 0] rfl H
set_option maxHeartbeats 2000000 in
set_option maxRecDepth 20000 in
theorem r_X11_hoods_0 {d : Nat} {h : AH} {Q : Option Value → AH → Prop} (i1 : Int32) (hw : zWF h)  (H : zK d m_X11_hoodsBy [.ref 53, .int i1] h (kV fun h1 => zQ none m_X11_hoods (d + 1) 9 [(0, .ref 53), (1, .int i1), (2, .int (nI 0)), (3, .int (nI 0))] [] h1 Q)) : zK (d + 1) m_X11_hoods [.ref 53, .int i1] h Q := by
  refine zK_of mo_X11_hoods (Nat.le_of_ble_eq_true rfl) ?_
  show zQ none m_X11_hoods (d + 1) 0 [(0, .ref 53), (1, .int i1)] [] h Q
  refine zq_aload_n (k := 0) (i := 0) (x := 53) 0 rfl rfl dX11_hoods_0 ?_
  refine zq_iload_n (k := 1) (i := 1) (x := i1) 1 rfl rfl dX11_hoods_1 ?_
  refine zq_invV (as := [.int i1]) (st := []) (o := 53) (c := 10) (by decide) rfl (sh_53 hw) in_X11_hoodsBy se_X11_hoodsBy mo_X11_hoodsBy ml_RX11_191 rfl (Nat.le_of_ble_eq_true rfl) dX11_hoods_2 rfl H (fun r1 h1 hq => ?_)
  obtain ⟨rfl, wh1, H⟩ := hq
  show zQ none m_X11_hoods (d + 1) 5 [(0, .ref 53), (1, .int i1)] ([]) h1 Q
  refine zq_iconst (v := (nI 0)) rfl dX11_hoods_5 ?_
  refine zq_istore_n (ls' := [(2, .int (nI 0)), (0, .ref 53), (1, .int i1)]) (k := 2) (i := 2) rfl (Nat.le_of_ble_eq_true rfl) rfl dX11_hoods_6 ?_
  refine zq_iconst (v := (nI 0)) rfl dX11_hoods_7 ?_
  refine zq_istore_n (ls' := [(3, .int (nI 0)), (2, .int (nI 0)), (0, .ref 53), (1, .int i1)]) (k := 3) (i := 3) rfl (Nat.le_of_ble_eq_true rfl) rfl dX11_hoods_8 ?_
  exact zq_sub (ls' := [(0, .ref 53), (1, .int i1), (2, .int (nI 0)), (3, .int (nI 0))]) [2, 3, 1, 0] rfl H
set_option maxHeartbeats 2000000 in
set_option maxRecDepth 20000 in
theorem r_X11_hoods_9 {d : Nat} {h : AH} {Q : Option Value → AH → Prop} (i1 : Int32) (i2 : Int32) (i3 : Int32) (hw : zWF h)  (H : ((nI 1600) ≤ i3 → Q (some (.int i2)) h) ∧ (¬ (nI 1600) ≤ i3 → zK d m_X11_isInTruss [.ref 53, .int i3, .int i1] h (pI h fun x2 => (x2 = 0 → zQ none m_X11_hoods (d + 1) 9 [(0, .ref 53), (1, .int i1), (2, .int (i2 + (nI 0))), (3, .int (i3 + (nI 1)))] [] h Q) ∧ (¬ x2 = 0 → vp_in i3 1600 ∧ (((h.I 65 i3.toNatClampNeg) ≠ i3 → zQ none m_X11_hoods (d + 1) 9 [(0, .ref 53), (1, .int i1), (2, .int (i2 + (nI 0))), (3, .int (i3 + (nI 1)))] [] h Q) ∧ ((h.I 65 i3.toNatClampNeg) = i3 → zQ none m_X11_hoods (d + 1) 9 [(0, .ref 53), (1, .int i1), (2, .int (i2 + (nI 1))), (3, .int (i3 + (nI 1)))] [] h Q)))))) : zQ none m_X11_hoods (d + 1) 9 [(0, .ref 53), (1, .int i1), (2, .int i2), (3, .int i3)] [] h Q := by
  refine zq_iload_n (k := 3) (i := 3) (x := i3) 3 rfl rfl dX11_hoods_9 ?_
  refine zq_sipush (v := (nI 1600)) rfl dX11_hoods_10 ?_
  refine zq_icmp_ge (tgt := 49) dX11_hoods_13 rfl ⟨fun c1 => ?_, fun c1 => ?_⟩
  · have H := H.1 c1
    refine zq_iload_n (k := 2) (i := 2) (x := i2) 2 rfl rfl dX11_hoods_49 ?_
    exact zq_iret dX11_hoods_50 rfl rfl rfl H
  · have H := H.2 c1
    refine zq_iload_n (k := 2) (i := 2) (x := i2) 2 rfl rfl dX11_hoods_16 ?_
    refine zq_aload_n (k := 0) (i := 0) (x := 53) 0 rfl rfl dX11_hoods_17 ?_
    refine zq_iload_n (k := 3) (i := 3) (x := i3) 3 rfl rfl dX11_hoods_18 ?_
    refine zq_iload_n (k := 1) (i := 1) (x := i1) 1 rfl rfl dX11_hoods_19 ?_
    refine zq_invV (as := [.int i3, .int i1]) (st := .int i2 :: []) (o := 53) (c := 10) (by decide) rfl (sh_53 hw) in_X11_isInTruss se_X11_isInTruss mo_X11_isInTruss ml_RX11_188 rfl (Nat.le_of_ble_eq_true rfl) dX11_hoods_20 rfl H (fun r1 h1 hq => ?_)
    obtain ⟨x2, rfl, rfl, H⟩ := hq
    show zQ none m_X11_hoods (d + 1) 23 [(0, .ref 53), (1, .int i1), (2, .int i2), (3, .int i3)] (.int x2 :: .int i2 :: []) h Q
    refine zq_if_eq (tgt := 40) dX11_hoods_23 rfl ⟨fun c3 => ?_, fun c3 => ?_⟩
    · have H := H.1 c3
      refine zq_iconst (v := (nI 0)) rfl dX11_hoods_40 ?_
      refine zq_iadd dX11_hoods_41 ?_
      refine zq_istore_n (ls' := [(2, .int (i2 + (nI 0))), (0, .ref 53), (1, .int i1), (3, .int i3)]) (k := 2) (i := 2) rfl (Nat.le_of_ble_eq_true rfl) rfl dX11_hoods_42 ?_
      refine zq_iinc (i := 3) (x := i3) (v := (nI 1)) (ls' := [(3, .int (i3 + (nI 1))), (2, .int (i2 + (nI 0))), (0, .ref 53), (1, .int i1)]) 3 rfl rfl (Nat.le_of_ble_eq_true rfl) rfl dX11_hoods_43 ?_
      refine zq_goto (tgt := 9) dX11_hoods_46 rfl ?_
      exact zq_sub (ls' := [(0, .ref 53), (1, .int i1), (2, .int (i2 + (nI 0))), (3, .int (i3 + (nI 1)))]) [2, 3, 1, 0] rfl H
    · have H := H.2 c3
      refine zq_aload_n (k := 0) (i := 0) (x := 53) 0 rfl rfl dX11_hoods_26 ?_
      refine zq_getP fl_RX11_46 rfl (sh_53 hw) (rf_53_17 hw) dX11_hoods_27 ?_
      refine zq_iload_n (k := 3) (i := 3) (x := i3) 3 rfl rfl dX11_hoods_30 ?_
      obtain ⟨b4, H⟩ := H
      refine zq_iald (sh_65 hw) b4 dX11_hoods_31 ?_
      refine zq_iload_n (k := 3) (i := 3) (x := i3) 3 rfl rfl dX11_hoods_32 ?_
      refine zq_icmp_ne (tgt := 40) dX11_hoods_33 rfl ⟨fun c5 => ?_, fun c5 => ?_⟩
      · have H := H.1 c5
        refine zq_iconst (v := (nI 0)) rfl dX11_hoods_40 ?_
        refine zq_iadd dX11_hoods_41 ?_
        refine zq_istore_n (ls' := [(2, .int (i2 + (nI 0))), (0, .ref 53), (1, .int i1), (3, .int i3)]) (k := 2) (i := 2) rfl (Nat.le_of_ble_eq_true rfl) rfl dX11_hoods_42 ?_
        refine zq_iinc (i := 3) (x := i3) (v := (nI 1)) (ls' := [(3, .int (i3 + (nI 1))), (2, .int (i2 + (nI 0))), (0, .ref 53), (1, .int i1)]) 3 rfl rfl (Nat.le_of_ble_eq_true rfl) rfl dX11_hoods_43 ?_
        refine zq_goto (tgt := 9) dX11_hoods_46 rfl ?_
        exact zq_sub (ls' := [(0, .ref 53), (1, .int i1), (2, .int (i2 + (nI 0))), (3, .int (i3 + (nI 1)))]) [2, 3, 1, 0] rfl H
      · have H := H.2 c5
        refine zq_iconst (v := (nI 1)) rfl dX11_hoods_36 ?_
        refine zq_goto (tgt := 41) dX11_hoods_37 rfl ?_
        refine zq_iadd dX11_hoods_41 ?_
        refine zq_istore_n (ls' := [(2, .int (i2 + (nI 1))), (0, .ref 53), (1, .int i1), (3, .int i3)]) (k := 2) (i := 2) rfl (Nat.le_of_ble_eq_true rfl) rfl dX11_hoods_42 ?_
        refine zq_iinc (i := 3) (x := i3) (v := (nI 1)) (ls' := [(3, .int (i3 + (nI 1))), (2, .int (i2 + (nI 1))), (0, .ref 53), (1, .int i1)]) 3 rfl rfl (Nat.le_of_ble_eq_true rfl) rfl dX11_hoods_43 ?_
        refine zq_goto (tgt := 9) dX11_hoods_46 rfl ?_
        exact zq_sub (ls' := [(0, .ref 53), (1, .int i1), (2, .int (i2 + (nI 1))), (3, .int (i3 + (nI 1)))]) [2, 3, 1, 0] rfl H
set_option maxHeartbeats 2000000 in
set_option maxRecDepth 20000 in
theorem r_X11_core_0 {d : Nat} {h : AH} {Q : Option Value → AH → Prop} (i1 : Int32) (hw : zWF h)  (H : zK d m_X11_coreOf [.ref 53, .int i1] h (pL h fun x1 => Q (some (.long x1)) h)) : zK (d + 1) m_X11_core [.ref 53, .int i1] h Q := by
  refine zK_of mo_X11_core (Nat.le_of_ble_eq_true rfl) ?_
  show zQ none m_X11_core (d + 1) 0 [(0, .ref 53), (1, .int i1)] [] h Q
  refine zq_aload_n (k := 0) (i := 0) (x := 53) 0 rfl rfl dX11_core_0 ?_
  refine zq_iload_n (k := 1) (i := 1) (x := i1) 1 rfl rfl dX11_core_1 ?_
  refine zq_invV (as := [.int i1]) (st := []) (o := 53) (c := 10) (by decide) rfl (sh_53 hw) in_X11_coreOf se_X11_coreOf mo_X11_coreOf ml_RX11_154 rfl (Nat.le_of_ble_eq_true rfl) dX11_core_2 rfl H (fun r1 h1 hq => ?_)
  obtain ⟨x1, rfl, rfl, H⟩ := hq
  show zQ none m_X11_core (d + 1) 5 [(0, .ref 53), (1, .int i1)] (.long x1 :: []) h Q
  exact zq_lret dX11_core_5 rfl H
set_option maxHeartbeats 2000000 in
set_option maxRecDepth 20000 in
theorem r_X11_swap_0 {d : Nat} {h : AH} {Q : Option Value → AH → Prop} (i1 : Int32) (i2 : Int32) (i3 : Int32) (i4 : Int32) (hw : zWF h)  (H : zK d m_X11_areTwo [.int i1, .int i2] h (pI h fun x1 => (x1 = 0 → Q (some (.int (-1))) h) ∧ (¬ x1 = 0 → zK d m_X11_areTwo [.int i3, .int i4] h (pI h fun x3 => (x3 = 0 → Q (some (.int (-1))) h) ∧ (¬ x3 = 0 → zK d m_X11_areTwo [.int i1, .int i3] h (pI h fun x5 => (x5 = 0 → Q (some (.int (-1))) h) ∧ (¬ x5 = 0 → zK d m_X11_areTwo [.int i1, .int i4] h (pI h fun x7 => (x7 = 0 → Q (some (.int (-1))) h) ∧ (¬ x7 = 0 → zK d m_X11_areTwo [.int i2, .int i3] h (pI h fun x9 => (x9 = 0 → Q (some (.int (-1))) h) ∧ (¬ x9 = 0 → zK d m_X11_areTwo [.int i2, .int i4] h (pI h fun x11 => (x11 ≠ 0 → zK d m_X11_isEdge [.ref 53, .int i1, .int i2] h (pI h fun x13 => (x13 = 0 → Q (some (.int (-3))) h) ∧ (¬ x13 = 0 → zK d m_X11_isEdge [.ref 53, .int i3, .int i4] h (pI h fun x15 => (x15 = 0 → Q (some (.int (-3))) h) ∧ (¬ x15 = 0 → zK d m_X11_isEdge [.ref 53, .int i1, .int i4] h (pI h fun x17 => (x17 ≠ 0 → Q (some (.int (-3))) h) ∧ (x17 = 0 → zK d m_X11_isEdge [.ref 53, .int i3, .int i2] h (pI h fun x19 => (x19 = 0 → zK d m_X11_edge [.int i1, .int i2] h (pI h fun x21 => vp_in x21 1600 ∧ (zK d m_X11_edge [.int i3, .int i4] h (pI h fun x23 => vp_in x23 1600 ∧ (zK d m_X11_goes [.ref 53, .int i1, .int i2] h (kV fun h25 => zK d m_X11_goes [.ref 53, .int i3, .int i4] h25 (kV fun h26 => zK d m_X11_comes [.ref 53, .int i1, .int i4, .int (h.I 55 x21.toNatClampNeg)] h26 (kV fun h27 => zK d m_X11_comes [.ref 53, .int i3, .int i2, .int (h.I 55 x23.toNatClampNeg)] h27 (kV fun h28 => zK d m_X11_triangles [.ref 53] h28 (pI h28 fun x29 => Q (some (.int x29)) h28)))))))))) ∧ (¬ x19 = 0 → Q (some (.int (-3))) h))))))))) ∧ (x11 = 0 → Q (some (.int (-1))) h))))))))))))) : zK (d + 1) m_X11_swap [.ref 53, .int i1, .int i2, .int i3, .int i4] h Q := by
  refine zK_of mo_X11_swap (Nat.le_of_ble_eq_true rfl) ?_
  show zQ none m_X11_swap (d + 1) 0 [(0, .ref 53), (1, .int i1), (2, .int i2), (3, .int i3), (4, .int i4)] [] h Q
  refine zq_iload_n (k := 1) (i := 1) (x := i1) 1 rfl rfl dX11_swap_0 ?_
  refine zq_iload_n (k := 2) (i := 2) (x := i2) 2 rfl rfl dX11_swap_1 ?_
  refine zq_invS (as := [.int i1, .int i2]) (st := []) st_X11_areTwo mo_X11_areTwo ml_RX11_110 rfl (Nat.le_of_ble_eq_true rfl) dX11_swap_2 rfl H (fun r1 h1 hq => ?_)
  obtain ⟨x1, rfl, rfl, H⟩ := hq
  show zQ none m_X11_swap (d + 1) 5 [(0, .ref 53), (1, .int i1), (2, .int i2), (3, .int i3), (4, .int i4)] (.int x1 :: []) h Q
  refine zq_if_eq (tgt := 51) dX11_swap_5 rfl ⟨fun c2 => ?_, fun c2 => ?_⟩
  · have H := H.1 c2
    refine zq_iconst (v := (-1)) rfl dX11_swap_51 ?_
    exact zq_iret dX11_swap_52 rfl rfl rfl H
  · have H := H.2 c2
    refine zq_iload_n (k := 3) (i := 3) (x := i3) 3 rfl rfl dX11_swap_8 ?_
    refine zq_iload (i := 4) (x := i4) 4 rfl dX11_swap_9 ?_
    refine zq_invS (as := [.int i3, .int i4]) (st := []) st_X11_areTwo mo_X11_areTwo ml_RX11_110 rfl (Nat.le_of_ble_eq_true rfl) dX11_swap_11 rfl H (fun r1 h1 hq => ?_)
    obtain ⟨x3, rfl, rfl, H⟩ := hq
    show zQ none m_X11_swap (d + 1) 14 [(0, .ref 53), (1, .int i1), (2, .int i2), (3, .int i3), (4, .int i4)] (.int x3 :: []) h Q
    refine zq_if_eq (tgt := 51) dX11_swap_14 rfl ⟨fun c4 => ?_, fun c4 => ?_⟩
    · have H := H.1 c4
      refine zq_iconst (v := (-1)) rfl dX11_swap_51 ?_
      exact zq_iret dX11_swap_52 rfl rfl rfl H
    · have H := H.2 c4
      refine zq_iload_n (k := 1) (i := 1) (x := i1) 1 rfl rfl dX11_swap_17 ?_
      refine zq_iload_n (k := 3) (i := 3) (x := i3) 3 rfl rfl dX11_swap_18 ?_
      refine zq_invS (as := [.int i1, .int i3]) (st := []) st_X11_areTwo mo_X11_areTwo ml_RX11_110 rfl (Nat.le_of_ble_eq_true rfl) dX11_swap_19 rfl H (fun r1 h1 hq => ?_)
      obtain ⟨x5, rfl, rfl, H⟩ := hq
      show zQ none m_X11_swap (d + 1) 22 [(0, .ref 53), (1, .int i1), (2, .int i2), (3, .int i3), (4, .int i4)] (.int x5 :: []) h Q
      refine zq_if_eq (tgt := 51) dX11_swap_22 rfl ⟨fun c6 => ?_, fun c6 => ?_⟩
      · have H := H.1 c6
        refine zq_iconst (v := (-1)) rfl dX11_swap_51 ?_
        exact zq_iret dX11_swap_52 rfl rfl rfl H
      · have H := H.2 c6
        refine zq_iload_n (k := 1) (i := 1) (x := i1) 1 rfl rfl dX11_swap_25 ?_
        refine zq_iload (i := 4) (x := i4) 4 rfl dX11_swap_26 ?_
        refine zq_invS (as := [.int i1, .int i4]) (st := []) st_X11_areTwo mo_X11_areTwo ml_RX11_110 rfl (Nat.le_of_ble_eq_true rfl) dX11_swap_28 rfl H (fun r1 h1 hq => ?_)
        obtain ⟨x7, rfl, rfl, H⟩ := hq
        show zQ none m_X11_swap (d + 1) 31 [(0, .ref 53), (1, .int i1), (2, .int i2), (3, .int i3), (4, .int i4)] (.int x7 :: []) h Q
        refine zq_if_eq (tgt := 51) dX11_swap_31 rfl ⟨fun c8 => ?_, fun c8 => ?_⟩
        · have H := H.1 c8
          refine zq_iconst (v := (-1)) rfl dX11_swap_51 ?_
          exact zq_iret dX11_swap_52 rfl rfl rfl H
        · have H := H.2 c8
          refine zq_iload_n (k := 2) (i := 2) (x := i2) 2 rfl rfl dX11_swap_34 ?_
          refine zq_iload_n (k := 3) (i := 3) (x := i3) 3 rfl rfl dX11_swap_35 ?_
          refine zq_invS (as := [.int i2, .int i3]) (st := []) st_X11_areTwo mo_X11_areTwo ml_RX11_110 rfl (Nat.le_of_ble_eq_true rfl) dX11_swap_36 rfl H (fun r1 h1 hq => ?_)
          obtain ⟨x9, rfl, rfl, H⟩ := hq
          show zQ none m_X11_swap (d + 1) 39 [(0, .ref 53), (1, .int i1), (2, .int i2), (3, .int i3), (4, .int i4)] (.int x9 :: []) h Q
          refine zq_if_eq (tgt := 51) dX11_swap_39 rfl ⟨fun c10 => ?_, fun c10 => ?_⟩
          · have H := H.1 c10
            refine zq_iconst (v := (-1)) rfl dX11_swap_51 ?_
            exact zq_iret dX11_swap_52 rfl rfl rfl H
          · have H := H.2 c10
            refine zq_iload_n (k := 2) (i := 2) (x := i2) 2 rfl rfl dX11_swap_42 ?_
            refine zq_iload (i := 4) (x := i4) 4 rfl dX11_swap_43 ?_
            refine zq_invS (as := [.int i2, .int i4]) (st := []) st_X11_areTwo mo_X11_areTwo ml_RX11_110 rfl (Nat.le_of_ble_eq_true rfl) dX11_swap_45 rfl H (fun r1 h1 hq => ?_)
            obtain ⟨x11, rfl, rfl, H⟩ := hq
            show zQ none m_X11_swap (d + 1) 48 [(0, .ref 53), (1, .int i1), (2, .int i2), (3, .int i3), (4, .int i4)] (.int x11 :: []) h Q
            refine zq_if_ne (tgt := 53) dX11_swap_48 rfl ⟨fun c12 => ?_, fun c12 => ?_⟩
            · have H := H.1 c12
              refine zq_aload_n (k := 0) (i := 0) (x := 53) 0 rfl rfl dX11_swap_53 ?_
              refine zq_iload_n (k := 1) (i := 1) (x := i1) 1 rfl rfl dX11_swap_54 ?_
              refine zq_iload_n (k := 2) (i := 2) (x := i2) 2 rfl rfl dX11_swap_55 ?_
              refine zq_invV (as := [.int i1, .int i2]) (st := []) (o := 53) (c := 10) (by decide) rfl (sh_53 hw) in_X11_isEdge se_X11_isEdge mo_X11_isEdge ml_RX11_116 rfl (Nat.le_of_ble_eq_true rfl) dX11_swap_56 rfl H (fun r1 h1 hq => ?_)
              obtain ⟨x13, rfl, rfl, H⟩ := hq
              show zQ none m_X11_swap (d + 1) 59 [(0, .ref 53), (1, .int i1), (2, .int i2), (3, .int i3), (4, .int i4)] (.int x13 :: []) h Q
              refine zq_if_eq (tgt := 91) dX11_swap_59 rfl ⟨fun c14 => ?_, fun c14 => ?_⟩
              · have H := H.1 c14
                refine zq_bipush (v := (-3)) rfl dX11_swap_91 ?_
                exact zq_iret dX11_swap_93 rfl rfl rfl H
              · have H := H.2 c14
                refine zq_aload_n (k := 0) (i := 0) (x := 53) 0 rfl rfl dX11_swap_62 ?_
                refine zq_iload_n (k := 3) (i := 3) (x := i3) 3 rfl rfl dX11_swap_63 ?_
                refine zq_iload (i := 4) (x := i4) 4 rfl dX11_swap_64 ?_
                refine zq_invV (as := [.int i3, .int i4]) (st := []) (o := 53) (c := 10) (by decide) rfl (sh_53 hw) in_X11_isEdge se_X11_isEdge mo_X11_isEdge ml_RX11_116 rfl (Nat.le_of_ble_eq_true rfl) dX11_swap_66 rfl H (fun r1 h1 hq => ?_)
                obtain ⟨x15, rfl, rfl, H⟩ := hq
                show zQ none m_X11_swap (d + 1) 69 [(0, .ref 53), (1, .int i1), (2, .int i2), (3, .int i3), (4, .int i4)] (.int x15 :: []) h Q
                refine zq_if_eq (tgt := 91) dX11_swap_69 rfl ⟨fun c16 => ?_, fun c16 => ?_⟩
                · have H := H.1 c16
                  refine zq_bipush (v := (-3)) rfl dX11_swap_91 ?_
                  exact zq_iret dX11_swap_93 rfl rfl rfl H
                · have H := H.2 c16
                  refine zq_aload_n (k := 0) (i := 0) (x := 53) 0 rfl rfl dX11_swap_72 ?_
                  refine zq_iload_n (k := 1) (i := 1) (x := i1) 1 rfl rfl dX11_swap_73 ?_
                  refine zq_iload (i := 4) (x := i4) 4 rfl dX11_swap_74 ?_
                  refine zq_invV (as := [.int i1, .int i4]) (st := []) (o := 53) (c := 10) (by decide) rfl (sh_53 hw) in_X11_isEdge se_X11_isEdge mo_X11_isEdge ml_RX11_116 rfl (Nat.le_of_ble_eq_true rfl) dX11_swap_76 rfl H (fun r1 h1 hq => ?_)
                  obtain ⟨x17, rfl, rfl, H⟩ := hq
                  show zQ none m_X11_swap (d + 1) 79 [(0, .ref 53), (1, .int i1), (2, .int i2), (3, .int i3), (4, .int i4)] (.int x17 :: []) h Q
                  refine zq_if_ne (tgt := 91) dX11_swap_79 rfl ⟨fun c18 => ?_, fun c18 => ?_⟩
                  · have H := H.1 c18
                    refine zq_bipush (v := (-3)) rfl dX11_swap_91 ?_
                    exact zq_iret dX11_swap_93 rfl rfl rfl H
                  · have H := H.2 c18
                    refine zq_aload_n (k := 0) (i := 0) (x := 53) 0 rfl rfl dX11_swap_82 ?_
                    refine zq_iload_n (k := 3) (i := 3) (x := i3) 3 rfl rfl dX11_swap_83 ?_
                    refine zq_iload_n (k := 2) (i := 2) (x := i2) 2 rfl rfl dX11_swap_84 ?_
                    refine zq_invV (as := [.int i3, .int i2]) (st := []) (o := 53) (c := 10) (by decide) rfl (sh_53 hw) in_X11_isEdge se_X11_isEdge mo_X11_isEdge ml_RX11_116 rfl (Nat.le_of_ble_eq_true rfl) dX11_swap_85 rfl H (fun r1 h1 hq => ?_)
                    obtain ⟨x19, rfl, rfl, H⟩ := hq
                    show zQ none m_X11_swap (d + 1) 88 [(0, .ref 53), (1, .int i1), (2, .int i2), (3, .int i3), (4, .int i4)] (.int x19 :: []) h Q
                    refine zq_if_eq (tgt := 94) dX11_swap_88 rfl ⟨fun c20 => ?_, fun c20 => ?_⟩
                    · have H := H.1 c20
                      refine zq_aload_n (k := 0) (i := 0) (x := 53) 0 rfl rfl dX11_swap_94 ?_
                      refine zq_getP fl_RX11_15 rfl (sh_53 hw) (rf_53_1 hw) dX11_swap_95 ?_
                      refine zq_iload_n (k := 1) (i := 1) (x := i1) 1 rfl rfl dX11_swap_98 ?_
                      refine zq_iload_n (k := 2) (i := 2) (x := i2) 2 rfl rfl dX11_swap_99 ?_
                      refine zq_invS (as := [.int i1, .int i2]) (st := .ref 55 :: []) st_X11_edge mo_X11_edge ml_RX11_92 rfl (Nat.le_of_ble_eq_true rfl) dX11_swap_100 rfl H (fun r1 h1 hq => ?_)
                      obtain ⟨x21, rfl, rfl, H⟩ := hq
                      show zQ none m_X11_swap (d + 1) 103 [(0, .ref 53), (1, .int i1), (2, .int i2), (3, .int i3), (4, .int i4)] (.int x21 :: .ref 55 :: []) h Q
                      obtain ⟨b22, H⟩ := H
                      refine zq_iald (sh_55 hw) b22 dX11_swap_103 ?_
                      refine zq_istore (ls' := [(5, .int (h.I 55 x21.toNatClampNeg)), (0, .ref 53), (1, .int i1), (2, .int i2), (3, .int i3), (4, .int i4)]) (i := 5) (Nat.le_of_ble_eq_true rfl) rfl dX11_swap_104 ?_
                      refine zq_aload_n (k := 0) (i := 0) (x := 53) 1 rfl rfl dX11_swap_106 ?_
                      refine zq_getP fl_RX11_15 rfl (sh_53 hw) (rf_53_1 hw) dX11_swap_107 ?_
                      refine zq_iload_n (k := 3) (i := 3) (x := i3) 4 rfl rfl dX11_swap_110 ?_
                      refine zq_iload (i := 4) (x := i4) 5 rfl dX11_swap_111 ?_
                      refine zq_invS (as := [.int i3, .int i4]) (st := .ref 55 :: []) st_X11_edge mo_X11_edge ml_RX11_92 rfl (Nat.le_of_ble_eq_true rfl) dX11_swap_113 rfl H (fun r1 h1 hq => ?_)
                      obtain ⟨x23, rfl, rfl, H⟩ := hq
                      show zQ none m_X11_swap (d + 1) 116 [(5, .int (h.I 55 x21.toNatClampNeg)), (0, .ref 53), (1, .int i1), (2, .int i2), (3, .int i3), (4, .int i4)] (.int x23 :: .ref 55 :: []) h Q
                      obtain ⟨b24, H⟩ := H
                      refine zq_iald (sh_55 hw) b24 dX11_swap_116 ?_
                      refine zq_istore (ls' := [(6, .int (h.I 55 x23.toNatClampNeg)), (5, .int (h.I 55 x21.toNatClampNeg)), (0, .ref 53), (1, .int i1), (2, .int i2), (3, .int i3), (4, .int i4)]) (i := 6) (Nat.le_of_ble_eq_true rfl) rfl dX11_swap_117 ?_
                      refine zq_aload_n (k := 0) (i := 0) (x := 53) 2 rfl rfl dX11_swap_119 ?_
                      refine zq_iload_n (k := 1) (i := 1) (x := i1) 3 rfl rfl dX11_swap_120 ?_
                      refine zq_iload_n (k := 2) (i := 2) (x := i2) 4 rfl rfl dX11_swap_121 ?_
                      refine zq_invV (as := [.int i1, .int i2]) (st := []) (o := 53) (c := 10) (by decide) rfl (sh_53 hw) in_X11_goes se_X11_goes mo_X11_goes ml_RX11_126 rfl (Nat.le_of_ble_eq_true rfl) dX11_swap_122 rfl H (fun r1 h25 hq => ?_)
                      obtain ⟨rfl, wh25, H⟩ := hq
                      show zQ none m_X11_swap (d + 1) 125 [(6, .int (h.I 55 x23.toNatClampNeg)), (5, .int (h.I 55 x21.toNatClampNeg)), (0, .ref 53), (1, .int i1), (2, .int i2), (3, .int i3), (4, .int i4)] ([]) h25 Q
                      refine zq_aload_n (k := 0) (i := 0) (x := 53) 2 rfl rfl dX11_swap_125 ?_
                      refine zq_iload_n (k := 3) (i := 3) (x := i3) 5 rfl rfl dX11_swap_126 ?_
                      refine zq_iload (i := 4) (x := i4) 6 rfl dX11_swap_127 ?_
                      refine zq_invV (as := [.int i3, .int i4]) (st := []) (o := 53) (c := 10) (by decide) rfl (sh_53 wh25) in_X11_goes se_X11_goes mo_X11_goes ml_RX11_126 rfl (Nat.le_of_ble_eq_true rfl) dX11_swap_129 rfl H (fun r1 h26 hq => ?_)
                      obtain ⟨rfl, wh26, H⟩ := hq
                      show zQ none m_X11_swap (d + 1) 132 [(6, .int (h.I 55 x23.toNatClampNeg)), (5, .int (h.I 55 x21.toNatClampNeg)), (0, .ref 53), (1, .int i1), (2, .int i2), (3, .int i3), (4, .int i4)] ([]) h26 Q
                      refine zq_aload_n (k := 0) (i := 0) (x := 53) 2 rfl rfl dX11_swap_132 ?_
                      refine zq_iload_n (k := 1) (i := 1) (x := i1) 3 rfl rfl dX11_swap_133 ?_
                      refine zq_iload (i := 4) (x := i4) 6 rfl dX11_swap_134 ?_
                      refine zq_iload (i := 5) (x := (h.I 55 x21.toNatClampNeg)) 1 rfl dX11_swap_136 ?_
                      refine zq_invV (as := [.int i1, .int i4, .int (h.I 55 x21.toNatClampNeg)]) (st := []) (o := 53) (c := 10) (by decide) rfl (sh_53 wh26) in_X11_comes se_X11_comes mo_X11_comes ml_RX11_119 rfl (Nat.le_of_ble_eq_true rfl) dX11_swap_138 rfl H (fun r1 h27 hq => ?_)
                      obtain ⟨rfl, wh27, H⟩ := hq
                      show zQ none m_X11_swap (d + 1) 141 [(6, .int (h.I 55 x23.toNatClampNeg)), (5, .int (h.I 55 x21.toNatClampNeg)), (0, .ref 53), (1, .int i1), (2, .int i2), (3, .int i3), (4, .int i4)] ([]) h27 Q
                      refine zq_aload_n (k := 0) (i := 0) (x := 53) 2 rfl rfl dX11_swap_141 ?_
                      refine zq_iload_n (k := 3) (i := 3) (x := i3) 5 rfl rfl dX11_swap_142 ?_
                      refine zq_iload_n (k := 2) (i := 2) (x := i2) 4 rfl rfl dX11_swap_143 ?_
                      refine zq_iload (i := 6) (x := (h.I 55 x23.toNatClampNeg)) 0 rfl dX11_swap_144 ?_
                      refine zq_invV (as := [.int i3, .int i2, .int (h.I 55 x23.toNatClampNeg)]) (st := []) (o := 53) (c := 10) (by decide) rfl (sh_53 wh27) in_X11_comes se_X11_comes mo_X11_comes ml_RX11_119 rfl (Nat.le_of_ble_eq_true rfl) dX11_swap_146 rfl H (fun r1 h28 hq => ?_)
                      obtain ⟨rfl, wh28, H⟩ := hq
                      show zQ none m_X11_swap (d + 1) 149 [(6, .int (h.I 55 x23.toNatClampNeg)), (5, .int (h.I 55 x21.toNatClampNeg)), (0, .ref 53), (1, .int i1), (2, .int i2), (3, .int i3), (4, .int i4)] ([]) h28 Q
                      refine zq_aload_n (k := 0) (i := 0) (x := 53) 2 rfl rfl dX11_swap_149 ?_
                      refine zq_invV (as := []) (st := []) (o := 53) (c := 10) (by decide) rfl (sh_53 wh28) in_X11_triangles se_X11_triangles mo_X11_triangles ml_RX11_194 rfl (Nat.le_of_ble_eq_true rfl) dX11_swap_150 rfl H (fun r1 h1 hq => ?_)
                      obtain ⟨x29, rfl, rfl, H⟩ := hq
                      show zQ none m_X11_swap (d + 1) 153 [(6, .int (h.I 55 x23.toNatClampNeg)), (5, .int (h.I 55 x21.toNatClampNeg)), (0, .ref 53), (1, .int i1), (2, .int i2), (3, .int i3), (4, .int i4)] (.int x29 :: []) h28 Q
                      exact zq_iret dX11_swap_153 rfl rfl rfl H
                    · have H := H.2 c20
                      refine zq_bipush (v := (-3)) rfl dX11_swap_91 ?_
                      exact zq_iret dX11_swap_93 rfl rfl rfl H
            · have H := H.2 c12
              refine zq_iconst (v := (-1)) rfl dX11_swap_51 ?_
              exact zq_iret dX11_swap_52 rfl rfl rfl H
set_option maxHeartbeats 2000000 in
set_option maxRecDepth 20000 in
theorem r_X11_near_0 {d : Nat} {h : AH} {Q : Option Value → AH → Prop} (i1 : Int32) (hw : zWF h)  (H : zK d m_X11_isVertex [.int i1] h (pI h fun x1 => (x1 = 0 → Q (some (.long (-9223372036854775808 : Int64))) h) ∧ (¬ x1 = 0 → vp_in i1 40 ∧ (Q (some (.long (h.L 58 i1.toNatClampNeg))) h)))) : zK (d + 1) m_X11_near [.ref 53, .int i1] h Q := by
  refine zK_of mo_X11_near (Nat.le_of_ble_eq_true rfl) ?_
  show zQ none m_X11_near (d + 1) 0 [(0, .ref 53), (1, .int i1)] [] h Q
  refine zq_iload_n (k := 1) (i := 1) (x := i1) 1 rfl rfl dX11_near_0 ?_
  refine zq_invS (as := [.int i1]) (st := []) st_X11_isVertex mo_X11_isVertex ml_RX11_68 rfl (Nat.le_of_ble_eq_true rfl) dX11_near_1 rfl H (fun r1 h1 hq => ?_)
  obtain ⟨x1, rfl, rfl, H⟩ := hq
  show zQ none m_X11_near (d + 1) 4 [(0, .ref 53), (1, .int i1)] (.int x1 :: []) h Q
  refine zq_if_eq (tgt := 16) dX11_near_4 rfl ⟨fun c2 => ?_, fun c2 => ?_⟩
  · have H := H.1 c2
    refine zq_ldc2 (v := (-9223372036854775808)) cl_RX11_130 dX11_near_16 ?_
    exact zq_lret dX11_near_19 rfl H
  · have H := H.2 c2
    refine zq_aload_n (k := 0) (i := 0) (x := 53) 0 rfl rfl dX11_near_7 ?_
    refine zq_getP fl_RX11_24 rfl (sh_53 hw) (rf_53_4 hw) dX11_near_8 ?_
    refine zq_iload_n (k := 1) (i := 1) (x := i1) 1 rfl rfl dX11_near_11 ?_
    obtain ⟨b3, H⟩ := H
    refine zq_lald (sh_58 hw) b3 dX11_near_12 ?_
    refine zq_goto (tgt := 19) dX11_near_13 rfl ?_
    exact zq_lret dX11_near_19 rfl H
set_option maxHeartbeats 2000000 in
set_option maxRecDepth 20000 in
theorem r_X11_allTwos_0 {d : Nat} {h : AH} {Q : Option Value → AH → Prop}  (hw : zWF h)  (H : zQ none m_X11_allTwos (d + 1) 4 [(0, .ref 53), (1, .int (nI 0)), (2, .int (nI 0))] [] h Q) : zK (d + 1) m_X11_allTwos [.ref 53] h Q := by
  refine zK_of mo_X11_allTwos (Nat.le_of_ble_eq_true rfl) ?_
  show zQ none m_X11_allTwos (d + 1) 0 [(0, .ref 53)] [] h Q
  refine zq_iconst (v := (nI 0)) rfl dX11_allTwos_0 ?_
  refine zq_istore_n (ls' := [(1, .int (nI 0)), (0, .ref 53)]) (k := 1) (i := 1) rfl (Nat.le_of_ble_eq_true rfl) rfl dX11_allTwos_1 ?_
  refine zq_iconst (v := (nI 0)) rfl dX11_allTwos_2 ?_
  refine zq_istore_n (ls' := [(2, .int (nI 0)), (1, .int (nI 0)), (0, .ref 53)]) (k := 2) (i := 2) rfl (Nat.le_of_ble_eq_true rfl) rfl dX11_allTwos_3 ?_
  exact zq_sub (ls' := [(0, .ref 53), (1, .int (nI 0)), (2, .int (nI 0))]) [2, 1, 0] rfl H
set_option maxHeartbeats 2000000 in
set_option maxRecDepth 20000 in
theorem r_X11_allTwos_4 {d : Nat} {h : AH} {Q : Option Value → AH → Prop} (i1 : Int32) (i2 : Int32) (hw : zWF h)  (H : ((nI 40) ≤ i2 → Q (some (.int i1)) h) ∧ (¬ (nI 40) ≤ i2 → zK d m_X11_degree [.ref 53, .int i2] h (pI h fun x2 => zK d m_X11_twos [.int x2] h (pI h fun x3 => zQ none m_X11_allTwos (d + 1) 4 [(0, .ref 53), (1, .int (i1 + x3)), (2, .int (i2 + (nI 1)))] [] h Q)))) : zQ none m_X11_allTwos (d + 1) 4 [(0, .ref 53), (1, .int i1), (2, .int i2)] [] h Q := by
  refine zq_iload_n (k := 2) (i := 2) (x := i2) 2 rfl rfl dX11_allTwos_4 ?_
  refine zq_bipush (v := (nI 40)) rfl dX11_allTwos_5 ?_
  refine zq_icmp_ge (tgt := 27) dX11_allTwos_7 rfl ⟨fun c1 => ?_, fun c1 => ?_⟩
  · have H := H.1 c1
    refine zq_iload_n (k := 1) (i := 1) (x := i1) 1 rfl rfl dX11_allTwos_27 ?_
    exact zq_iret dX11_allTwos_28 rfl rfl rfl H
  · have H := H.2 c1
    refine zq_iload_n (k := 1) (i := 1) (x := i1) 1 rfl rfl dX11_allTwos_10 ?_
    refine zq_aload_n (k := 0) (i := 0) (x := 53) 0 rfl rfl dX11_allTwos_11 ?_
    refine zq_iload_n (k := 2) (i := 2) (x := i2) 2 rfl rfl dX11_allTwos_12 ?_
    refine zq_invV (as := [.int i2]) (st := .int i1 :: []) (o := 53) (c := 10) (by decide) rfl (sh_53 hw) in_X11_degree se_X11_degree mo_X11_degree ml_RX11_84 rfl (Nat.le_of_ble_eq_true rfl) dX11_allTwos_13 rfl H (fun r1 h1 hq => ?_)
    obtain ⟨x2, rfl, rfl, H⟩ := hq
    show zQ none m_X11_allTwos (d + 1) 16 [(0, .ref 53), (1, .int i1), (2, .int i2)] (.int x2 :: .int i1 :: []) h Q
    refine zq_invS (as := [.int x2]) (st := .int i1 :: []) st_X11_twos mo_X11_twos ml_RX11_135 rfl (Nat.le_of_ble_eq_true rfl) dX11_allTwos_16 rfl H (fun r1 h1 hq => ?_)
    obtain ⟨x3, rfl, rfl, H⟩ := hq
    show zQ none m_X11_allTwos (d + 1) 19 [(0, .ref 53), (1, .int i1), (2, .int i2)] (.int x3 :: .int i1 :: []) h Q
    refine zq_iadd dX11_allTwos_19 ?_
    refine zq_istore_n (ls' := [(1, .int (i1 + x3)), (0, .ref 53), (2, .int i2)]) (k := 1) (i := 1) rfl (Nat.le_of_ble_eq_true rfl) rfl dX11_allTwos_20 ?_
    refine zq_iinc (i := 2) (x := i2) (v := (nI 1)) (ls' := [(2, .int (i2 + (nI 1))), (1, .int (i1 + x3)), (0, .ref 53)]) 2 rfl rfl (Nat.le_of_ble_eq_true rfl) rfl dX11_allTwos_21 ?_
    refine zq_goto (tgt := 4) dX11_allTwos_24 rfl ?_
    exact zq_sub (ls' := [(0, .ref 53), (1, .int (i1 + x3)), (2, .int (i2 + (nI 1)))]) [2, 1, 0] rfl H
set_option maxHeartbeats 2000000 in
set_option maxRecDepth 20000 in
theorem r_X11_told_0 {d : Nat} {h : AH} {Q : Option Value → AH → Prop} (i1 : Int32) (hw : zWF h)  (H : (i1.toInt < 0 ∨ 13 < i1.toInt → Q (some (.long (-9223372036854775808 : Int64))) h) ∧ (i1 = nI 0 → vp_in (nI 5) 187 ∧ (Q (some (.long ((h.I 54 (nI 5).toNatClampNeg).toInt64))) h)) ∧ (i1 = nI 1 → zK d m_X11_triangles [.ref 53] h (pI h fun x2 => Q (some (.long x2.toInt64)) h)) ∧ (i1 = nI 2 → zK d m_X11_rings [.ref 53] h (pI h fun x3 => Q (some (.long x3.toInt64)) h)) ∧ (i1 = nI 3 → vp_in (nI 0) 187 ∧ (Q (some (.long ((h.I 54 (nI 0).toNatClampNeg).toInt64))) h)) ∧ (i1 = nI 4 → zK d m_X11_bound [.ref 53] h (pI h fun x5 => Q (some (.long x5.toInt64)) h)) ∧ (i1 = nI 5 → Q (some (.long (h.L 53 6))) h) ∧ (i1 = nI 6 → vp_in (nI 1) 187 ∧ (Q (some (.long ((h.I 54 (nI 1).toNatClampNeg).toInt64))) h)) ∧ (i1 = nI 7 → vp_in (nI 2) 187 ∧ (Q (some (.long ((h.I 54 (nI 2).toNatClampNeg).toInt64))) h)) ∧ (i1 = nI 8 → vp_in (nI 3) 187 ∧ (Q (some (.long ((h.I 54 (nI 3).toNatClampNeg).toInt64))) h)) ∧ (i1 = nI 9 → vp_in (nI 4) 187 ∧ (Q (some (.long ((h.I 54 (nI 4).toNatClampNeg).toInt64))) h)) ∧ (i1 = nI 10 → vp_in (nI 6) 187 ∧ (Q (some (.long ((h.I 54 (nI 6).toNatClampNeg).toInt64))) h)) ∧ (i1 = nI 11 → zK d m_X11_allTwos [.ref 53] h (pI h fun x11 => Q (some (.long x11.toInt64)) h)) ∧ (i1 = nI 12 → Q (some (.long ((h.I 53 25).toInt64))) h) ∧ (i1 = nI 13 → zK d m_X11_fours [.ref 53] h (pI h fun x12 => Q (some (.long x12.toInt64)) h))) : zK (d + 1) m_X11_told [.ref 53, .int i1] h Q := by
  refine zK_of mo_X11_told (Nat.le_of_ble_eq_true rfl) ?_
  show zQ none m_X11_told (d + 1) 0 [(0, .ref 53), (1, .int i1)] [] h Q
  refine zq_iload_n (k := 1) (i := 1) (x := i1) 1 rfl rfl dX11_told_0 ?_
  by_cases hr : i1.toInt < 0 ∨ 13 < i1.toInt
  · have H := H.1 hr
    refine zq_tabOut (tgt := 170) dX11_told_1 hr rfl ?_
    refine zq_ldc2 (v := (-9223372036854775808)) cl_RX11_130 dX11_told_170 ?_
    exact zq_lret dX11_told_173 rfl H
  · have H := H.2
    rcases (show i1.toInt = 0 ∨ i1.toInt = 1 ∨ i1.toInt = 2 ∨ i1.toInt = 3 ∨ i1.toInt = 4 ∨ i1.toInt = 5 ∨ i1.toInt = 6 ∨ i1.toInt = 7 ∨ i1.toInt = 8 ∨ i1.toInt = 9 ∨ i1.toInt = 10 ∨ i1.toInt = 11 ∨ i1.toInt = 12 ∨ i1.toInt = 13 by omega) with hk | hk | hk | hk | hk | hk | hk | hk | hk | hk | hk | hk | hk | hk
    · have H := H.1 (zr_int (c := 0) hk)
      refine zq_tabIn (off := 71) (tgt := 72) dX11_told_1 (by rw [hk]; decide) (by rw [hk]; decide) (by rw [hk]; rfl) rfl ?_
      refine zq_aload_n (k := 0) (i := 0) (x := 53) 0 rfl rfl dX11_told_72 ?_
      refine zq_getP fl_RX11_11 rfl (sh_53 hw) (rf_53_0 hw) dX11_told_73 ?_
      refine zq_iconst (v := (nI 5)) rfl dX11_told_76 ?_
      obtain ⟨b1, H⟩ := H
      refine zq_iald (sh_54 hw) b1 dX11_told_77 ?_
      refine zq_i2l dX11_told_78 ?_
      exact zq_lret dX11_told_79 rfl H
    · have H := H.2.1 (zr_int (c := 1) hk)
      refine zq_tabIn (off := 79) (tgt := 80) dX11_told_1 (by rw [hk]; decide) (by rw [hk]; decide) (by rw [hk]; rfl) rfl ?_
      refine zq_aload_n (k := 0) (i := 0) (x := 53) 0 rfl rfl dX11_told_80 ?_
      refine zq_invV (as := []) (st := []) (o := 53) (c := 10) (by decide) rfl (sh_53 hw) in_X11_triangles se_X11_triangles mo_X11_triangles ml_RX11_194 rfl (Nat.le_of_ble_eq_true rfl) dX11_told_81 rfl H (fun r1 h1 hq => ?_)
      obtain ⟨x2, rfl, rfl, H⟩ := hq
      show zQ none m_X11_told (d + 1) 84 [(0, .ref 53), (1, .int i1)] (.int x2 :: []) h Q
      refine zq_i2l dX11_told_84 ?_
      exact zq_lret dX11_told_85 rfl H
    · have H := H.2.2.1 (zr_int (c := 2) hk)
      refine zq_tabIn (off := 85) (tgt := 86) dX11_told_1 (by rw [hk]; decide) (by rw [hk]; decide) (by rw [hk]; rfl) rfl ?_
      refine zq_aload_n (k := 0) (i := 0) (x := 53) 0 rfl rfl dX11_told_86 ?_
      refine zq_invV (as := []) (st := []) (o := 53) (c := 10) (by decide) rfl (sh_53 hw) in_X11_rings se_X11_rings mo_X11_rings ml_RX11_197 rfl (Nat.le_of_ble_eq_true rfl) dX11_told_87 rfl H (fun r1 h1 hq => ?_)
      obtain ⟨x3, rfl, rfl, H⟩ := hq
      show zQ none m_X11_told (d + 1) 90 [(0, .ref 53), (1, .int i1)] (.int x3 :: []) h Q
      refine zq_i2l dX11_told_90 ?_
      exact zq_lret dX11_told_91 rfl H
    · have H := H.2.2.2.1 (zr_int (c := 3) hk)
      refine zq_tabIn (off := 91) (tgt := 92) dX11_told_1 (by rw [hk]; decide) (by rw [hk]; decide) (by rw [hk]; rfl) rfl ?_
      refine zq_aload_n (k := 0) (i := 0) (x := 53) 0 rfl rfl dX11_told_92 ?_
      refine zq_getP fl_RX11_11 rfl (sh_53 hw) (rf_53_0 hw) dX11_told_93 ?_
      refine zq_iconst (v := (nI 0)) rfl dX11_told_96 ?_
      obtain ⟨b4, H⟩ := H
      refine zq_iald (sh_54 hw) b4 dX11_told_97 ?_
      refine zq_i2l dX11_told_98 ?_
      exact zq_lret dX11_told_99 rfl H
    · have H := H.2.2.2.2.1 (zr_int (c := 4) hk)
      refine zq_tabIn (off := 99) (tgt := 100) dX11_told_1 (by rw [hk]; decide) (by rw [hk]; decide) (by rw [hk]; rfl) rfl ?_
      refine zq_aload_n (k := 0) (i := 0) (x := 53) 0 rfl rfl dX11_told_100 ?_
      refine zq_invV (as := []) (st := []) (o := 53) (c := 10) (by decide) rfl (sh_53 hw) in_X11_bound se_X11_bound mo_X11_bound ml_RX11_88 rfl (Nat.le_of_ble_eq_true rfl) dX11_told_101 rfl H (fun r1 h1 hq => ?_)
      obtain ⟨x5, rfl, rfl, H⟩ := hq
      show zQ none m_X11_told (d + 1) 104 [(0, .ref 53), (1, .int i1)] (.int x5 :: []) h Q
      refine zq_i2l dX11_told_104 ?_
      exact zq_lret dX11_told_105 rfl H
    · have H := H.2.2.2.2.2.1 (zr_int (c := 5) hk)
      refine zq_tabIn (off := 105) (tgt := 106) dX11_told_1 (by rw [hk]; decide) (by rw [hk]; decide) (by rw [hk]; rfl) rfl ?_
      refine zq_aload_n (k := 0) (i := 0) (x := 53) 0 rfl rfl dX11_told_106 ?_
      refine zq_getL fl_RX11_80 rfl (sh_53 hw) dX11_told_107 ?_
      exact zq_lret dX11_told_110 rfl H
    · have H := H.2.2.2.2.2.2.1 (zr_int (c := 6) hk)
      refine zq_tabIn (off := 110) (tgt := 111) dX11_told_1 (by rw [hk]; decide) (by rw [hk]; decide) (by rw [hk]; rfl) rfl ?_
      refine zq_aload_n (k := 0) (i := 0) (x := 53) 0 rfl rfl dX11_told_111 ?_
      refine zq_getP fl_RX11_11 rfl (sh_53 hw) (rf_53_0 hw) dX11_told_112 ?_
      refine zq_iconst (v := (nI 1)) rfl dX11_told_115 ?_
      obtain ⟨b6, H⟩ := H
      refine zq_iald (sh_54 hw) b6 dX11_told_116 ?_
      refine zq_i2l dX11_told_117 ?_
      exact zq_lret dX11_told_118 rfl H
    · have H := H.2.2.2.2.2.2.2.1 (zr_int (c := 7) hk)
      refine zq_tabIn (off := 118) (tgt := 119) dX11_told_1 (by rw [hk]; decide) (by rw [hk]; decide) (by rw [hk]; rfl) rfl ?_
      refine zq_aload_n (k := 0) (i := 0) (x := 53) 0 rfl rfl dX11_told_119 ?_
      refine zq_getP fl_RX11_11 rfl (sh_53 hw) (rf_53_0 hw) dX11_told_120 ?_
      refine zq_iconst (v := (nI 2)) rfl dX11_told_123 ?_
      obtain ⟨b7, H⟩ := H
      refine zq_iald (sh_54 hw) b7 dX11_told_124 ?_
      refine zq_i2l dX11_told_125 ?_
      exact zq_lret dX11_told_126 rfl H
    · have H := H.2.2.2.2.2.2.2.2.1 (zr_int (c := 8) hk)
      refine zq_tabIn (off := 126) (tgt := 127) dX11_told_1 (by rw [hk]; decide) (by rw [hk]; decide) (by rw [hk]; rfl) rfl ?_
      refine zq_aload_n (k := 0) (i := 0) (x := 53) 0 rfl rfl dX11_told_127 ?_
      refine zq_getP fl_RX11_11 rfl (sh_53 hw) (rf_53_0 hw) dX11_told_128 ?_
      refine zq_iconst (v := (nI 3)) rfl dX11_told_131 ?_
      obtain ⟨b8, H⟩ := H
      refine zq_iald (sh_54 hw) b8 dX11_told_132 ?_
      refine zq_i2l dX11_told_133 ?_
      exact zq_lret dX11_told_134 rfl H
    · have H := H.2.2.2.2.2.2.2.2.2.1 (zr_int (c := 9) hk)
      refine zq_tabIn (off := 134) (tgt := 135) dX11_told_1 (by rw [hk]; decide) (by rw [hk]; decide) (by rw [hk]; rfl) rfl ?_
      refine zq_aload_n (k := 0) (i := 0) (x := 53) 0 rfl rfl dX11_told_135 ?_
      refine zq_getP fl_RX11_11 rfl (sh_53 hw) (rf_53_0 hw) dX11_told_136 ?_
      refine zq_iconst (v := (nI 4)) rfl dX11_told_139 ?_
      obtain ⟨b9, H⟩ := H
      refine zq_iald (sh_54 hw) b9 dX11_told_140 ?_
      refine zq_i2l dX11_told_141 ?_
      exact zq_lret dX11_told_142 rfl H
    · have H := H.2.2.2.2.2.2.2.2.2.2.1 (zr_int (c := 10) hk)
      refine zq_tabIn (off := 142) (tgt := 143) dX11_told_1 (by rw [hk]; decide) (by rw [hk]; decide) (by rw [hk]; rfl) rfl ?_
      refine zq_aload_n (k := 0) (i := 0) (x := 53) 0 rfl rfl dX11_told_143 ?_
      refine zq_getP fl_RX11_11 rfl (sh_53 hw) (rf_53_0 hw) dX11_told_144 ?_
      refine zq_bipush (v := (nI 6)) rfl dX11_told_147 ?_
      obtain ⟨b10, H⟩ := H
      refine zq_iald (sh_54 hw) b10 dX11_told_149 ?_
      refine zq_i2l dX11_told_150 ?_
      exact zq_lret dX11_told_151 rfl H
    · have H := H.2.2.2.2.2.2.2.2.2.2.2.1 (zr_int (c := 11) hk)
      refine zq_tabIn (off := 151) (tgt := 152) dX11_told_1 (by rw [hk]; decide) (by rw [hk]; decide) (by rw [hk]; rfl) rfl ?_
      refine zq_aload_n (k := 0) (i := 0) (x := 53) 0 rfl rfl dX11_told_152 ?_
      refine zq_invV (as := []) (st := []) (o := 53) (c := 10) (by decide) rfl (sh_53 hw) in_X11_allTwos se_X11_allTwos mo_X11_allTwos ml_RX11_200 rfl (Nat.le_of_ble_eq_true rfl) dX11_told_153 rfl H (fun r1 h1 hq => ?_)
      obtain ⟨x11, rfl, rfl, H⟩ := hq
      show zQ none m_X11_told (d + 1) 156 [(0, .ref 53), (1, .int i1)] (.int x11 :: []) h Q
      refine zq_i2l dX11_told_156 ?_
      exact zq_lret dX11_told_157 rfl H
    · have H := H.2.2.2.2.2.2.2.2.2.2.2.2.1 (zr_int (c := 12) hk)
      refine zq_tabIn (off := 157) (tgt := 158) dX11_told_1 (by rw [hk]; decide) (by rw [hk]; decide) (by rw [hk]; rfl) rfl ?_
      refine zq_aload_n (k := 0) (i := 0) (x := 53) 0 rfl rfl dX11_told_158 ?_
      refine zq_getI fl_RX11_203 rfl (sh_53 hw) dX11_told_159 ?_
      refine zq_i2l dX11_told_162 ?_
      exact zq_lret dX11_told_163 rfl H
    · have H := H.2.2.2.2.2.2.2.2.2.2.2.2.2 (zr_int (c := 13) hk)
      refine zq_tabIn (off := 163) (tgt := 164) dX11_told_1 (by rw [hk]; decide) (by rw [hk]; decide) (by rw [hk]; rfl) rfl ?_
      refine zq_aload_n (k := 0) (i := 0) (x := 53) 0 rfl rfl dX11_told_164 ?_
      refine zq_invV (as := []) (st := []) (o := 53) (c := 10) (by decide) rfl (sh_53 hw) in_X11_fours se_X11_fours mo_X11_fours ml_RX11_206 rfl (Nat.le_of_ble_eq_true rfl) dX11_told_165 rfl H (fun r1 h1 hq => ?_)
      obtain ⟨x12, rfl, rfl, H⟩ := hq
      show zQ none m_X11_told (d + 1) 168 [(0, .ref 53), (1, .int i1)] (.int x12 :: []) h Q
      refine zq_i2l dX11_told_168 ?_
      exact zq_lret dX11_told_169 rfl H
set_option maxHeartbeats 2000000 in
set_option maxRecDepth 20000 in
theorem r_X11_gcd_0 {d : Nat} {h : AH} {Q : Option Value → AH → Prop} (l0 : Int64) (l2 : Int64)  (H : zQ none m_X11_gcd (d + 1) 6 [(4, .long l0), (6, .long l2)] [] h Q) : zK (d + 1) m_X11_gcd [.long l0, .long l2] h Q := by
  refine zK_of mo_X11_gcd (Nat.le_of_ble_eq_true rfl) ?_
  show zQ none m_X11_gcd (d + 1) 0 [(0, .long l0), (2, .long l2)] [] h Q
  refine zq_lload_n (k := 0) (i := 0) (x := l0) 0 rfl rfl dX11_gcd_0 ?_
  refine zq_lstore (ls' := [(4, .long l0), (0, .long l0), (2, .long l2)]) (i := 4) (Nat.le_of_ble_eq_true rfl) rfl dX11_gcd_1 ?_
  refine zq_lload_n (k := 2) (i := 2) (x := l2) 2 rfl rfl dX11_gcd_3 ?_
  refine zq_lstore (ls' := [(6, .long l2), (4, .long l0), (0, .long l0), (2, .long l2)]) (i := 6) (Nat.le_of_ble_eq_true rfl) rfl dX11_gcd_4 ?_
  exact zq_sub (ls' := [(4, .long l0), (6, .long l2)]) [1, 0] rfl H
set_option maxHeartbeats 2000000 in
set_option maxRecDepth 20000 in
theorem r_X11_gcd_6 {d : Nat} {h : AH} {Q : Option Value → AH → Prop} (l4 : Int64) (l6 : Int64)  (H : ((lg_cmp l6 (0 : Int64)) = 0 → Q (some (.long l4)) h) ∧ (¬ (lg_cmp l6 (0 : Int64)) = 0 → ¬ l6 = 0 ∧ (zQ none m_X11_gcd (d + 1) 6 [(4, .long l6), (6, .long (l4 - l4 / l6 * l6))] [] h Q))) : zQ none m_X11_gcd (d + 1) 6 [(4, .long l4), (6, .long l6)] [] h Q := by
  refine zq_lload (i := 6) (x := l6) 1 rfl dX11_gcd_6 ?_
  refine zq_lconst (v := 0) rfl dX11_gcd_8 ?_
  refine zq_lcmp dX11_gcd_9 ?_
  refine zq_if_eq (tgt := 31) dX11_gcd_10 rfl ⟨fun c1 => ?_, fun c1 => ?_⟩
  · have H := H.1 c1
    refine zq_lload (i := 4) (x := l4) 0 rfl dX11_gcd_31 ?_
    exact zq_lret dX11_gcd_33 rfl H
  · have H := H.2 c1
    refine zq_lload (i := 4) (x := l4) 0 rfl dX11_gcd_13 ?_
    refine zq_lload (i := 6) (x := l6) 1 rfl dX11_gcd_15 ?_
    obtain ⟨c2, H⟩ := H
    refine zq_lrem c2 dX11_gcd_17 ?_
    refine zq_lstore (ls' := [(8, .long (l4 - l4 / l6 * l6)), (4, .long l4), (6, .long l6)]) (i := 8) (Nat.le_of_ble_eq_true rfl) rfl dX11_gcd_18 ?_
    refine zq_lload (i := 6) (x := l6) 2 rfl dX11_gcd_20 ?_
    refine zq_lstore (ls' := [(4, .long l6), (8, .long (l4 - l4 / l6 * l6)), (6, .long l6)]) (i := 4) (Nat.le_of_ble_eq_true rfl) rfl dX11_gcd_22 ?_
    refine zq_lload (i := 8) (x := (l4 - l4 / l6 * l6)) 1 rfl dX11_gcd_24 ?_
    refine zq_lstore (ls' := [(6, .long (l4 - l4 / l6 * l6)), (4, .long l6), (8, .long (l4 - l4 / l6 * l6))]) (i := 6) (Nat.le_of_ble_eq_true rfl) rfl dX11_gcd_26 ?_
    refine zq_goto (tgt := 6) dX11_gcd_28 rfl ?_
    exact zq_sub (ls' := [(4, .long l6), (6, .long (l4 - l4 / l6 * l6))]) [1, 0] rfl H
set_option maxHeartbeats 2000000 in
set_option maxRecDepth 20000 in
theorem r_X11_closed_0 {d : Nat} {h : AH} {Q : Option Value → AH → Prop} (i1 : Int32) (i2 : Int32) (hw : zWF h)  (H : (i1 = (-1) → zK d m_X11_isIn [.int i2, .int (nI 0), .int (nI 1)] h (pI h fun x2 => (x2 ≠ 0 → (0 ≤ i1 → zK d m_X11_degree [.ref 53, .int i1] h (pI h fun x5 => zK d m_X11_twos [.int x5] h (pI h fun x6 => ((lg_cmp x6.toInt64 (0 : Int64)) ≠ 0 → (0 ≤ i1 → zK d m_X11_trianglesOf [.ref 53, .int i1] h (pI h fun x9 => (i2 ≠ 0 → zK d m_X11_gcd [.long x6.toInt64, .long x9.toInt64] h (pL h fun x11 => ¬ x11 = 0 ∧ (Q (some (.long (x6.toInt64 / x11))) h))) ∧ (i2 = 0 → zK d m_X11_gcd [.long x6.toInt64, .long x9.toInt64] h (pL h fun x13 => ¬ x13 = 0 ∧ (Q (some (.long (x9.toInt64 / x13))) h))))) ∧ (¬ 0 ≤ i1 → zK d m_X11_triangles [.ref 53] h (pI h fun x15 => (i2 ≠ 0 → zK d m_X11_gcd [.long x6.toInt64, .long ((3 : Int64) * x15.toInt64)] h (pL h fun x17 => ¬ x17 = 0 ∧ (Q (some (.long (x6.toInt64 / x17))) h))) ∧ (i2 = 0 → zK d m_X11_gcd [.long x6.toInt64, .long ((3 : Int64) * x15.toInt64)] h (pL h fun x19 => ¬ x19 = 0 ∧ (Q (some (.long (((3 : Int64) * x15.toInt64) / x19))) h)))))) ∧ ((lg_cmp x6.toInt64 (0 : Int64)) = 0 → Q (some (.long (-9223372036854775808 : Int64))) h)))) ∧ (¬ 0 ≤ i1 → zK d m_X11_allTwos [.ref 53] h (pI h fun x21 => ((lg_cmp x21.toInt64 (0 : Int64)) ≠ 0 → (0 ≤ i1 → zK d m_X11_trianglesOf [.ref 53, .int i1] h (pI h fun x24 => (i2 ≠ 0 → zK d m_X11_gcd [.long x21.toInt64, .long x24.toInt64] h (pL h fun x26 => ¬ x26 = 0 ∧ (Q (some (.long (x21.toInt64 / x26))) h))) ∧ (i2 = 0 → zK d m_X11_gcd [.long x21.toInt64, .long x24.toInt64] h (pL h fun x28 => ¬ x28 = 0 ∧ (Q (some (.long (x24.toInt64 / x28))) h))))) ∧ (¬ 0 ≤ i1 → zK d m_X11_triangles [.ref 53] h (pI h fun x30 => (i2 ≠ 0 → zK d m_X11_gcd [.long x21.toInt64, .long ((3 : Int64) * x30.toInt64)] h (pL h fun x32 => ¬ x32 = 0 ∧ (Q (some (.long (x21.toInt64 / x32))) h))) ∧ (i2 = 0 → zK d m_X11_gcd [.long x21.toInt64, .long ((3 : Int64) * x30.toInt64)] h (pL h fun x34 => ¬ x34 = 0 ∧ (Q (some (.long (((3 : Int64) * x30.toInt64) / x34))) h)))))) ∧ ((lg_cmp x21.toInt64 (0 : Int64)) = 0 → Q (some (.long (-9223372036854775808 : Int64))) h)))) ∧ (x2 = 0 → Q (some (.long (-9223372036854775808 : Int64))) h))) ∧ (¬ i1 = (-1) → zK d m_X11_isVertex [.int i1] h (pI h fun x36 => (x36 = 0 → Q (some (.long (-9223372036854775808 : Int64))) h) ∧ (¬ x36 = 0 → zK d m_X11_isIn [.int i2, .int (nI 0), .int (nI 1)] h (pI h fun x38 => (x38 ≠ 0 → (0 ≤ i1 → zK d m_X11_degree [.ref 53, .int i1] h (pI h fun x41 => zK d m_X11_twos [.int x41] h (pI h fun x42 => ((lg_cmp x42.toInt64 (0 : Int64)) ≠ 0 → (0 ≤ i1 → zK d m_X11_trianglesOf [.ref 53, .int i1] h (pI h fun x45 => (i2 ≠ 0 → zK d m_X11_gcd [.long x42.toInt64, .long x45.toInt64] h (pL h fun x47 => ¬ x47 = 0 ∧ (Q (some (.long (x42.toInt64 / x47))) h))) ∧ (i2 = 0 → zK d m_X11_gcd [.long x42.toInt64, .long x45.toInt64] h (pL h fun x49 => ¬ x49 = 0 ∧ (Q (some (.long (x45.toInt64 / x49))) h))))) ∧ (¬ 0 ≤ i1 → zK d m_X11_triangles [.ref 53] h (pI h fun x51 => (i2 ≠ 0 → zK d m_X11_gcd [.long x42.toInt64, .long ((3 : Int64) * x51.toInt64)] h (pL h fun x53 => ¬ x53 = 0 ∧ (Q (some (.long (x42.toInt64 / x53))) h))) ∧ (i2 = 0 → zK d m_X11_gcd [.long x42.toInt64, .long ((3 : Int64) * x51.toInt64)] h (pL h fun x55 => ¬ x55 = 0 ∧ (Q (some (.long (((3 : Int64) * x51.toInt64) / x55))) h)))))) ∧ ((lg_cmp x42.toInt64 (0 : Int64)) = 0 → Q (some (.long (-9223372036854775808 : Int64))) h)))) ∧ (¬ 0 ≤ i1 → zK d m_X11_allTwos [.ref 53] h (pI h fun x57 => ((lg_cmp x57.toInt64 (0 : Int64)) ≠ 0 → (0 ≤ i1 → zK d m_X11_trianglesOf [.ref 53, .int i1] h (pI h fun x60 => (i2 ≠ 0 → zK d m_X11_gcd [.long x57.toInt64, .long x60.toInt64] h (pL h fun x62 => ¬ x62 = 0 ∧ (Q (some (.long (x57.toInt64 / x62))) h))) ∧ (i2 = 0 → zK d m_X11_gcd [.long x57.toInt64, .long x60.toInt64] h (pL h fun x64 => ¬ x64 = 0 ∧ (Q (some (.long (x60.toInt64 / x64))) h))))) ∧ (¬ 0 ≤ i1 → zK d m_X11_triangles [.ref 53] h (pI h fun x66 => (i2 ≠ 0 → zK d m_X11_gcd [.long x57.toInt64, .long ((3 : Int64) * x66.toInt64)] h (pL h fun x68 => ¬ x68 = 0 ∧ (Q (some (.long (x57.toInt64 / x68))) h))) ∧ (i2 = 0 → zK d m_X11_gcd [.long x57.toInt64, .long ((3 : Int64) * x66.toInt64)] h (pL h fun x70 => ¬ x70 = 0 ∧ (Q (some (.long (((3 : Int64) * x66.toInt64) / x70))) h)))))) ∧ ((lg_cmp x57.toInt64 (0 : Int64)) = 0 → Q (some (.long (-9223372036854775808 : Int64))) h)))) ∧ (x38 = 0 → Q (some (.long (-9223372036854775808 : Int64))) h)))))) : zK (d + 1) m_X11_closed [.ref 53, .int i1, .int i2] h Q := by
  refine zK_of mo_X11_closed (Nat.le_of_ble_eq_true rfl) ?_
  show zQ none m_X11_closed (d + 1) 0 [(0, .ref 53), (1, .int i1), (2, .int i2)] [] h Q
  refine zq_iload_n (k := 1) (i := 1) (x := i1) 1 rfl rfl dX11_closed_0 ?_
  refine zq_iconst (v := (-1)) rfl dX11_closed_1 ?_
  refine zq_icmp_eq (tgt := 12) dX11_closed_2 rfl ⟨fun c1 => ?_, fun c1 => ?_⟩
  · have H := H.1 c1
    refine zq_iload_n (k := 2) (i := 2) (x := i2) 2 rfl rfl dX11_closed_12 ?_
    refine zq_iconst (v := (nI 0)) rfl dX11_closed_13 ?_
    refine zq_iconst (v := (nI 1)) rfl dX11_closed_14 ?_
    refine zq_invS (as := [.int i2, .int (nI 0), .int (nI 1)]) (st := []) st_X11_isIn mo_X11_isIn ml_RX11_64 rfl (Nat.le_of_ble_eq_true rfl) dX11_closed_15 rfl H (fun r1 h1 hq => ?_)
    obtain ⟨x2, rfl, rfl, H⟩ := hq
    show zQ none m_X11_closed (d + 1) 18 [(0, .ref 53), (1, .int i1), (2, .int i2)] (.int x2 :: []) h Q
    refine zq_if_ne (tgt := 25) dX11_closed_18 rfl ⟨fun c3 => ?_, fun c3 => ?_⟩
    · have H := H.1 c3
      refine zq_iload_n (k := 1) (i := 1) (x := i1) 1 rfl rfl dX11_closed_25 ?_
      refine zq_if_ge (tgt := 37) dX11_closed_26 rfl ⟨fun c4 => ?_, fun c4 => ?_⟩
      · have H := H.1 c4
        refine zq_aload_n (k := 0) (i := 0) (x := 53) 0 rfl rfl dX11_closed_37 ?_
        refine zq_iload_n (k := 1) (i := 1) (x := i1) 1 rfl rfl dX11_closed_38 ?_
        refine zq_invV (as := [.int i1]) (st := []) (o := 53) (c := 10) (by decide) rfl (sh_53 hw) in_X11_degree se_X11_degree mo_X11_degree ml_RX11_84 rfl (Nat.le_of_ble_eq_true rfl) dX11_closed_39 rfl H (fun r1 h1 hq => ?_)
        obtain ⟨x5, rfl, rfl, H⟩ := hq
        show zQ none m_X11_closed (d + 1) 42 [(0, .ref 53), (1, .int i1), (2, .int i2)] (.int x5 :: []) h Q
        refine zq_invS (as := [.int x5]) (st := []) st_X11_twos mo_X11_twos ml_RX11_135 rfl (Nat.le_of_ble_eq_true rfl) dX11_closed_42 rfl H (fun r1 h1 hq => ?_)
        obtain ⟨x6, rfl, rfl, H⟩ := hq
        show zQ none m_X11_closed (d + 1) 45 [(0, .ref 53), (1, .int i1), (2, .int i2)] (.int x6 :: []) h Q
        refine zq_i2l dX11_closed_45 ?_
        refine zq_lstore_n (ls' := [(3, .long x6.toInt64), (0, .ref 53), (1, .int i1), (2, .int i2)]) (k := 3) (i := 3) rfl (Nat.le_of_ble_eq_true rfl) rfl dX11_closed_46 ?_
        refine zq_lload_n (k := 3) (i := 3) (x := x6.toInt64) 0 rfl rfl dX11_closed_47 ?_
        refine zq_lconst (v := 0) rfl dX11_closed_48 ?_
        refine zq_lcmp dX11_closed_49 ?_
        refine zq_if_ne (tgt := 57) dX11_closed_50 rfl ⟨fun c7 => ?_, fun c7 => ?_⟩
        · have H := H.1 c7
          refine zq_iload_n (k := 1) (i := 1) (x := i1) 2 rfl rfl dX11_closed_57 ?_
          refine zq_if_ge (tgt := 73) dX11_closed_58 rfl ⟨fun c8 => ?_, fun c8 => ?_⟩
          · have H := H.1 c8
            refine zq_aload_n (k := 0) (i := 0) (x := 53) 1 rfl rfl dX11_closed_73 ?_
            refine zq_iload_n (k := 1) (i := 1) (x := i1) 2 rfl rfl dX11_closed_74 ?_
            refine zq_invV (as := [.int i1]) (st := []) (o := 53) (c := 10) (by decide) rfl (sh_53 hw) in_X11_trianglesOf se_X11_trianglesOf mo_X11_trianglesOf ml_RX11_132 rfl (Nat.le_of_ble_eq_true rfl) dX11_closed_75 rfl H (fun r1 h1 hq => ?_)
            obtain ⟨x9, rfl, rfl, H⟩ := hq
            show zQ none m_X11_closed (d + 1) 78 [(3, .long x6.toInt64), (0, .ref 53), (1, .int i1), (2, .int i2)] (.int x9 :: []) h Q
            refine zq_i2l dX11_closed_78 ?_
            refine zq_lstore (ls' := [(5, .long x9.toInt64), (3, .long x6.toInt64), (0, .ref 53), (1, .int i1), (2, .int i2)]) (i := 5) (Nat.le_of_ble_eq_true rfl) rfl dX11_closed_79 ?_
            refine zq_iload_n (k := 2) (i := 2) (x := i2) 4 rfl rfl dX11_closed_81 ?_
            refine zq_if_ne (tgt := 90) dX11_closed_82 rfl ⟨fun c10 => ?_, fun c10 => ?_⟩
            · have H := H.1 c10
              refine zq_lload_n (k := 3) (i := 3) (x := x6.toInt64) 1 rfl rfl dX11_closed_90 ?_
              refine zq_lload_n (k := 3) (i := 3) (x := x6.toInt64) 1 rfl rfl dX11_closed_91 ?_
              refine zq_lload (i := 5) (x := x9.toInt64) 0 rfl dX11_closed_92 ?_
              refine zq_invS (as := [.long x6.toInt64, .long x9.toInt64]) (st := .long x6.toInt64 :: []) st_X11_gcd mo_X11_gcd ml_RX11_211 rfl (Nat.le_of_ble_eq_true rfl) dX11_closed_94 rfl H (fun r1 h1 hq => ?_)
              obtain ⟨x11, rfl, rfl, H⟩ := hq
              show zQ none m_X11_closed (d + 1) 97 [(5, .long x9.toInt64), (3, .long x6.toInt64), (0, .ref 53), (1, .int i1), (2, .int i2)] (.long x11 :: .long x6.toInt64 :: []) h Q
              obtain ⟨c12, H⟩ := H
              refine zq_ldiv c12 dX11_closed_97 ?_
              exact zq_lret dX11_closed_98 rfl H
            · have H := H.2 c10
              refine zq_lload (i := 5) (x := x9.toInt64) 0 rfl dX11_closed_85 ?_
              refine zq_goto (tgt := 91) dX11_closed_87 rfl ?_
              refine zq_lload_n (k := 3) (i := 3) (x := x6.toInt64) 1 rfl rfl dX11_closed_91 ?_
              refine zq_lload (i := 5) (x := x9.toInt64) 0 rfl dX11_closed_92 ?_
              refine zq_invS (as := [.long x6.toInt64, .long x9.toInt64]) (st := .long x9.toInt64 :: []) st_X11_gcd mo_X11_gcd ml_RX11_211 rfl (Nat.le_of_ble_eq_true rfl) dX11_closed_94 rfl H (fun r1 h1 hq => ?_)
              obtain ⟨x13, rfl, rfl, H⟩ := hq
              show zQ none m_X11_closed (d + 1) 97 [(5, .long x9.toInt64), (3, .long x6.toInt64), (0, .ref 53), (1, .int i1), (2, .int i2)] (.long x13 :: .long x9.toInt64 :: []) h Q
              obtain ⟨c14, H⟩ := H
              refine zq_ldiv c14 dX11_closed_97 ?_
              exact zq_lret dX11_closed_98 rfl H
          · have H := H.2 c8
            refine zq_ldc2 (v := (3)) cl_RX11_209 dX11_closed_61 ?_
            refine zq_aload_n (k := 0) (i := 0) (x := 53) 1 rfl rfl dX11_closed_64 ?_
            refine zq_invV (as := []) (st := .long (3 : Int64) :: []) (o := 53) (c := 10) (by decide) rfl (sh_53 hw) in_X11_triangles se_X11_triangles mo_X11_triangles ml_RX11_194 rfl (Nat.le_of_ble_eq_true rfl) dX11_closed_65 rfl H (fun r1 h1 hq => ?_)
            obtain ⟨x15, rfl, rfl, H⟩ := hq
            show zQ none m_X11_closed (d + 1) 68 [(3, .long x6.toInt64), (0, .ref 53), (1, .int i1), (2, .int i2)] (.int x15 :: .long (3 : Int64) :: []) h Q
            refine zq_i2l dX11_closed_68 ?_
            refine zq_lmul dX11_closed_69 ?_
            refine zq_goto (tgt := 79) dX11_closed_70 rfl ?_
            refine zq_lstore (ls' := [(5, .long ((3 : Int64) * x15.toInt64)), (3, .long x6.toInt64), (0, .ref 53), (1, .int i1), (2, .int i2)]) (i := 5) (Nat.le_of_ble_eq_true rfl) rfl dX11_closed_79 ?_
            refine zq_iload_n (k := 2) (i := 2) (x := i2) 4 rfl rfl dX11_closed_81 ?_
            refine zq_if_ne (tgt := 90) dX11_closed_82 rfl ⟨fun c16 => ?_, fun c16 => ?_⟩
            · have H := H.1 c16
              refine zq_lload_n (k := 3) (i := 3) (x := x6.toInt64) 1 rfl rfl dX11_closed_90 ?_
              refine zq_lload_n (k := 3) (i := 3) (x := x6.toInt64) 1 rfl rfl dX11_closed_91 ?_
              refine zq_lload (i := 5) (x := ((3 : Int64) * x15.toInt64)) 0 rfl dX11_closed_92 ?_
              refine zq_invS (as := [.long x6.toInt64, .long ((3 : Int64) * x15.toInt64)]) (st := .long x6.toInt64 :: []) st_X11_gcd mo_X11_gcd ml_RX11_211 rfl (Nat.le_of_ble_eq_true rfl) dX11_closed_94 rfl H (fun r1 h1 hq => ?_)
              obtain ⟨x17, rfl, rfl, H⟩ := hq
              show zQ none m_X11_closed (d + 1) 97 [(5, .long ((3 : Int64) * x15.toInt64)), (3, .long x6.toInt64), (0, .ref 53), (1, .int i1), (2, .int i2)] (.long x17 :: .long x6.toInt64 :: []) h Q
              obtain ⟨c18, H⟩ := H
              refine zq_ldiv c18 dX11_closed_97 ?_
              exact zq_lret dX11_closed_98 rfl H
            · have H := H.2 c16
              refine zq_lload (i := 5) (x := ((3 : Int64) * x15.toInt64)) 0 rfl dX11_closed_85 ?_
              refine zq_goto (tgt := 91) dX11_closed_87 rfl ?_
              refine zq_lload_n (k := 3) (i := 3) (x := x6.toInt64) 1 rfl rfl dX11_closed_91 ?_
              refine zq_lload (i := 5) (x := ((3 : Int64) * x15.toInt64)) 0 rfl dX11_closed_92 ?_
              refine zq_invS (as := [.long x6.toInt64, .long ((3 : Int64) * x15.toInt64)]) (st := .long ((3 : Int64) * x15.toInt64) :: []) st_X11_gcd mo_X11_gcd ml_RX11_211 rfl (Nat.le_of_ble_eq_true rfl) dX11_closed_94 rfl H (fun r1 h1 hq => ?_)
              obtain ⟨x19, rfl, rfl, H⟩ := hq
              show zQ none m_X11_closed (d + 1) 97 [(5, .long ((3 : Int64) * x15.toInt64)), (3, .long x6.toInt64), (0, .ref 53), (1, .int i1), (2, .int i2)] (.long x19 :: .long ((3 : Int64) * x15.toInt64) :: []) h Q
              obtain ⟨c20, H⟩ := H
              refine zq_ldiv c20 dX11_closed_97 ?_
              exact zq_lret dX11_closed_98 rfl H
        · have H := H.2 c7
          refine zq_ldc2 (v := (-9223372036854775808)) cl_RX11_130 dX11_closed_53 ?_
          exact zq_lret dX11_closed_56 rfl H
      · have H := H.2 c4
        refine zq_aload_n (k := 0) (i := 0) (x := 53) 0 rfl rfl dX11_closed_29 ?_
        refine zq_invV (as := []) (st := []) (o := 53) (c := 10) (by decide) rfl (sh_53 hw) in_X11_allTwos se_X11_allTwos mo_X11_allTwos ml_RX11_200 rfl (Nat.le_of_ble_eq_true rfl) dX11_closed_30 rfl H (fun r1 h1 hq => ?_)
        obtain ⟨x21, rfl, rfl, H⟩ := hq
        show zQ none m_X11_closed (d + 1) 33 [(0, .ref 53), (1, .int i1), (2, .int i2)] (.int x21 :: []) h Q
        refine zq_i2l dX11_closed_33 ?_
        refine zq_goto (tgt := 46) dX11_closed_34 rfl ?_
        refine zq_lstore_n (ls' := [(3, .long x21.toInt64), (0, .ref 53), (1, .int i1), (2, .int i2)]) (k := 3) (i := 3) rfl (Nat.le_of_ble_eq_true rfl) rfl dX11_closed_46 ?_
        refine zq_lload_n (k := 3) (i := 3) (x := x21.toInt64) 0 rfl rfl dX11_closed_47 ?_
        refine zq_lconst (v := 0) rfl dX11_closed_48 ?_
        refine zq_lcmp dX11_closed_49 ?_
        refine zq_if_ne (tgt := 57) dX11_closed_50 rfl ⟨fun c22 => ?_, fun c22 => ?_⟩
        · have H := H.1 c22
          refine zq_iload_n (k := 1) (i := 1) (x := i1) 2 rfl rfl dX11_closed_57 ?_
          refine zq_if_ge (tgt := 73) dX11_closed_58 rfl ⟨fun c23 => ?_, fun c23 => ?_⟩
          · have H := H.1 c23
            refine zq_aload_n (k := 0) (i := 0) (x := 53) 1 rfl rfl dX11_closed_73 ?_
            refine zq_iload_n (k := 1) (i := 1) (x := i1) 2 rfl rfl dX11_closed_74 ?_
            refine zq_invV (as := [.int i1]) (st := []) (o := 53) (c := 10) (by decide) rfl (sh_53 hw) in_X11_trianglesOf se_X11_trianglesOf mo_X11_trianglesOf ml_RX11_132 rfl (Nat.le_of_ble_eq_true rfl) dX11_closed_75 rfl H (fun r1 h1 hq => ?_)
            obtain ⟨x24, rfl, rfl, H⟩ := hq
            show zQ none m_X11_closed (d + 1) 78 [(3, .long x21.toInt64), (0, .ref 53), (1, .int i1), (2, .int i2)] (.int x24 :: []) h Q
            refine zq_i2l dX11_closed_78 ?_
            refine zq_lstore (ls' := [(5, .long x24.toInt64), (3, .long x21.toInt64), (0, .ref 53), (1, .int i1), (2, .int i2)]) (i := 5) (Nat.le_of_ble_eq_true rfl) rfl dX11_closed_79 ?_
            refine zq_iload_n (k := 2) (i := 2) (x := i2) 4 rfl rfl dX11_closed_81 ?_
            refine zq_if_ne (tgt := 90) dX11_closed_82 rfl ⟨fun c25 => ?_, fun c25 => ?_⟩
            · have H := H.1 c25
              refine zq_lload_n (k := 3) (i := 3) (x := x21.toInt64) 1 rfl rfl dX11_closed_90 ?_
              refine zq_lload_n (k := 3) (i := 3) (x := x21.toInt64) 1 rfl rfl dX11_closed_91 ?_
              refine zq_lload (i := 5) (x := x24.toInt64) 0 rfl dX11_closed_92 ?_
              refine zq_invS (as := [.long x21.toInt64, .long x24.toInt64]) (st := .long x21.toInt64 :: []) st_X11_gcd mo_X11_gcd ml_RX11_211 rfl (Nat.le_of_ble_eq_true rfl) dX11_closed_94 rfl H (fun r1 h1 hq => ?_)
              obtain ⟨x26, rfl, rfl, H⟩ := hq
              show zQ none m_X11_closed (d + 1) 97 [(5, .long x24.toInt64), (3, .long x21.toInt64), (0, .ref 53), (1, .int i1), (2, .int i2)] (.long x26 :: .long x21.toInt64 :: []) h Q
              obtain ⟨c27, H⟩ := H
              refine zq_ldiv c27 dX11_closed_97 ?_
              exact zq_lret dX11_closed_98 rfl H
            · have H := H.2 c25
              refine zq_lload (i := 5) (x := x24.toInt64) 0 rfl dX11_closed_85 ?_
              refine zq_goto (tgt := 91) dX11_closed_87 rfl ?_
              refine zq_lload_n (k := 3) (i := 3) (x := x21.toInt64) 1 rfl rfl dX11_closed_91 ?_
              refine zq_lload (i := 5) (x := x24.toInt64) 0 rfl dX11_closed_92 ?_
              refine zq_invS (as := [.long x21.toInt64, .long x24.toInt64]) (st := .long x24.toInt64 :: []) st_X11_gcd mo_X11_gcd ml_RX11_211 rfl (Nat.le_of_ble_eq_true rfl) dX11_closed_94 rfl H (fun r1 h1 hq => ?_)
              obtain ⟨x28, rfl, rfl, H⟩ := hq
              show zQ none m_X11_closed (d + 1) 97 [(5, .long x24.toInt64), (3, .long x21.toInt64), (0, .ref 53), (1, .int i1), (2, .int i2)] (.long x28 :: .long x24.toInt64 :: []) h Q
              obtain ⟨c29, H⟩ := H
              refine zq_ldiv c29 dX11_closed_97 ?_
              exact zq_lret dX11_closed_98 rfl H
          · have H := H.2 c23
            refine zq_ldc2 (v := (3)) cl_RX11_209 dX11_closed_61 ?_
            refine zq_aload_n (k := 0) (i := 0) (x := 53) 1 rfl rfl dX11_closed_64 ?_
            refine zq_invV (as := []) (st := .long (3 : Int64) :: []) (o := 53) (c := 10) (by decide) rfl (sh_53 hw) in_X11_triangles se_X11_triangles mo_X11_triangles ml_RX11_194 rfl (Nat.le_of_ble_eq_true rfl) dX11_closed_65 rfl H (fun r1 h1 hq => ?_)
            obtain ⟨x30, rfl, rfl, H⟩ := hq
            show zQ none m_X11_closed (d + 1) 68 [(3, .long x21.toInt64), (0, .ref 53), (1, .int i1), (2, .int i2)] (.int x30 :: .long (3 : Int64) :: []) h Q
            refine zq_i2l dX11_closed_68 ?_
            refine zq_lmul dX11_closed_69 ?_
            refine zq_goto (tgt := 79) dX11_closed_70 rfl ?_
            refine zq_lstore (ls' := [(5, .long ((3 : Int64) * x30.toInt64)), (3, .long x21.toInt64), (0, .ref 53), (1, .int i1), (2, .int i2)]) (i := 5) (Nat.le_of_ble_eq_true rfl) rfl dX11_closed_79 ?_
            refine zq_iload_n (k := 2) (i := 2) (x := i2) 4 rfl rfl dX11_closed_81 ?_
            refine zq_if_ne (tgt := 90) dX11_closed_82 rfl ⟨fun c31 => ?_, fun c31 => ?_⟩
            · have H := H.1 c31
              refine zq_lload_n (k := 3) (i := 3) (x := x21.toInt64) 1 rfl rfl dX11_closed_90 ?_
              refine zq_lload_n (k := 3) (i := 3) (x := x21.toInt64) 1 rfl rfl dX11_closed_91 ?_
              refine zq_lload (i := 5) (x := ((3 : Int64) * x30.toInt64)) 0 rfl dX11_closed_92 ?_
              refine zq_invS (as := [.long x21.toInt64, .long ((3 : Int64) * x30.toInt64)]) (st := .long x21.toInt64 :: []) st_X11_gcd mo_X11_gcd ml_RX11_211 rfl (Nat.le_of_ble_eq_true rfl) dX11_closed_94 rfl H (fun r1 h1 hq => ?_)
              obtain ⟨x32, rfl, rfl, H⟩ := hq
              show zQ none m_X11_closed (d + 1) 97 [(5, .long ((3 : Int64) * x30.toInt64)), (3, .long x21.toInt64), (0, .ref 53), (1, .int i1), (2, .int i2)] (.long x32 :: .long x21.toInt64 :: []) h Q
              obtain ⟨c33, H⟩ := H
              refine zq_ldiv c33 dX11_closed_97 ?_
              exact zq_lret dX11_closed_98 rfl H
            · have H := H.2 c31
              refine zq_lload (i := 5) (x := ((3 : Int64) * x30.toInt64)) 0 rfl dX11_closed_85 ?_
              refine zq_goto (tgt := 91) dX11_closed_87 rfl ?_
              refine zq_lload_n (k := 3) (i := 3) (x := x21.toInt64) 1 rfl rfl dX11_closed_91 ?_
              refine zq_lload (i := 5) (x := ((3 : Int64) * x30.toInt64)) 0 rfl dX11_closed_92 ?_
              refine zq_invS (as := [.long x21.toInt64, .long ((3 : Int64) * x30.toInt64)]) (st := .long ((3 : Int64) * x30.toInt64) :: []) st_X11_gcd mo_X11_gcd ml_RX11_211 rfl (Nat.le_of_ble_eq_true rfl) dX11_closed_94 rfl H (fun r1 h1 hq => ?_)
              obtain ⟨x34, rfl, rfl, H⟩ := hq
              show zQ none m_X11_closed (d + 1) 97 [(5, .long ((3 : Int64) * x30.toInt64)), (3, .long x21.toInt64), (0, .ref 53), (1, .int i1), (2, .int i2)] (.long x34 :: .long ((3 : Int64) * x30.toInt64) :: []) h Q
              obtain ⟨c35, H⟩ := H
              refine zq_ldiv c35 dX11_closed_97 ?_
              exact zq_lret dX11_closed_98 rfl H
        · have H := H.2 c22
          refine zq_ldc2 (v := (-9223372036854775808)) cl_RX11_130 dX11_closed_53 ?_
          exact zq_lret dX11_closed_56 rfl H
    · have H := H.2 c3
      refine zq_ldc2 (v := (-9223372036854775808)) cl_RX11_130 dX11_closed_21 ?_
      exact zq_lret dX11_closed_24 rfl H
  · have H := H.2 c1
    refine zq_iload_n (k := 1) (i := 1) (x := i1) 1 rfl rfl dX11_closed_5 ?_
    refine zq_invS (as := [.int i1]) (st := []) st_X11_isVertex mo_X11_isVertex ml_RX11_68 rfl (Nat.le_of_ble_eq_true rfl) dX11_closed_6 rfl H (fun r1 h1 hq => ?_)
    obtain ⟨x36, rfl, rfl, H⟩ := hq
    show zQ none m_X11_closed (d + 1) 9 [(0, .ref 53), (1, .int i1), (2, .int i2)] (.int x36 :: []) h Q
    refine zq_if_eq (tgt := 21) dX11_closed_9 rfl ⟨fun c37 => ?_, fun c37 => ?_⟩
    · have H := H.1 c37
      refine zq_ldc2 (v := (-9223372036854775808)) cl_RX11_130 dX11_closed_21 ?_
      exact zq_lret dX11_closed_24 rfl H
    · have H := H.2 c37
      refine zq_iload_n (k := 2) (i := 2) (x := i2) 2 rfl rfl dX11_closed_12 ?_
      refine zq_iconst (v := (nI 0)) rfl dX11_closed_13 ?_
      refine zq_iconst (v := (nI 1)) rfl dX11_closed_14 ?_
      refine zq_invS (as := [.int i2, .int (nI 0), .int (nI 1)]) (st := []) st_X11_isIn mo_X11_isIn ml_RX11_64 rfl (Nat.le_of_ble_eq_true rfl) dX11_closed_15 rfl H (fun r1 h1 hq => ?_)
      obtain ⟨x38, rfl, rfl, H⟩ := hq
      show zQ none m_X11_closed (d + 1) 18 [(0, .ref 53), (1, .int i1), (2, .int i2)] (.int x38 :: []) h Q
      refine zq_if_ne (tgt := 25) dX11_closed_18 rfl ⟨fun c39 => ?_, fun c39 => ?_⟩
      · have H := H.1 c39
        refine zq_iload_n (k := 1) (i := 1) (x := i1) 1 rfl rfl dX11_closed_25 ?_
        refine zq_if_ge (tgt := 37) dX11_closed_26 rfl ⟨fun c40 => ?_, fun c40 => ?_⟩
        · have H := H.1 c40
          refine zq_aload_n (k := 0) (i := 0) (x := 53) 0 rfl rfl dX11_closed_37 ?_
          refine zq_iload_n (k := 1) (i := 1) (x := i1) 1 rfl rfl dX11_closed_38 ?_
          refine zq_invV (as := [.int i1]) (st := []) (o := 53) (c := 10) (by decide) rfl (sh_53 hw) in_X11_degree se_X11_degree mo_X11_degree ml_RX11_84 rfl (Nat.le_of_ble_eq_true rfl) dX11_closed_39 rfl H (fun r1 h1 hq => ?_)
          obtain ⟨x41, rfl, rfl, H⟩ := hq
          show zQ none m_X11_closed (d + 1) 42 [(0, .ref 53), (1, .int i1), (2, .int i2)] (.int x41 :: []) h Q
          refine zq_invS (as := [.int x41]) (st := []) st_X11_twos mo_X11_twos ml_RX11_135 rfl (Nat.le_of_ble_eq_true rfl) dX11_closed_42 rfl H (fun r1 h1 hq => ?_)
          obtain ⟨x42, rfl, rfl, H⟩ := hq
          show zQ none m_X11_closed (d + 1) 45 [(0, .ref 53), (1, .int i1), (2, .int i2)] (.int x42 :: []) h Q
          refine zq_i2l dX11_closed_45 ?_
          refine zq_lstore_n (ls' := [(3, .long x42.toInt64), (0, .ref 53), (1, .int i1), (2, .int i2)]) (k := 3) (i := 3) rfl (Nat.le_of_ble_eq_true rfl) rfl dX11_closed_46 ?_
          refine zq_lload_n (k := 3) (i := 3) (x := x42.toInt64) 0 rfl rfl dX11_closed_47 ?_
          refine zq_lconst (v := 0) rfl dX11_closed_48 ?_
          refine zq_lcmp dX11_closed_49 ?_
          refine zq_if_ne (tgt := 57) dX11_closed_50 rfl ⟨fun c43 => ?_, fun c43 => ?_⟩
          · have H := H.1 c43
            refine zq_iload_n (k := 1) (i := 1) (x := i1) 2 rfl rfl dX11_closed_57 ?_
            refine zq_if_ge (tgt := 73) dX11_closed_58 rfl ⟨fun c44 => ?_, fun c44 => ?_⟩
            · have H := H.1 c44
              refine zq_aload_n (k := 0) (i := 0) (x := 53) 1 rfl rfl dX11_closed_73 ?_
              refine zq_iload_n (k := 1) (i := 1) (x := i1) 2 rfl rfl dX11_closed_74 ?_
              refine zq_invV (as := [.int i1]) (st := []) (o := 53) (c := 10) (by decide) rfl (sh_53 hw) in_X11_trianglesOf se_X11_trianglesOf mo_X11_trianglesOf ml_RX11_132 rfl (Nat.le_of_ble_eq_true rfl) dX11_closed_75 rfl H (fun r1 h1 hq => ?_)
              obtain ⟨x45, rfl, rfl, H⟩ := hq
              show zQ none m_X11_closed (d + 1) 78 [(3, .long x42.toInt64), (0, .ref 53), (1, .int i1), (2, .int i2)] (.int x45 :: []) h Q
              refine zq_i2l dX11_closed_78 ?_
              refine zq_lstore (ls' := [(5, .long x45.toInt64), (3, .long x42.toInt64), (0, .ref 53), (1, .int i1), (2, .int i2)]) (i := 5) (Nat.le_of_ble_eq_true rfl) rfl dX11_closed_79 ?_
              refine zq_iload_n (k := 2) (i := 2) (x := i2) 4 rfl rfl dX11_closed_81 ?_
              refine zq_if_ne (tgt := 90) dX11_closed_82 rfl ⟨fun c46 => ?_, fun c46 => ?_⟩
              · have H := H.1 c46
                refine zq_lload_n (k := 3) (i := 3) (x := x42.toInt64) 1 rfl rfl dX11_closed_90 ?_
                refine zq_lload_n (k := 3) (i := 3) (x := x42.toInt64) 1 rfl rfl dX11_closed_91 ?_
                refine zq_lload (i := 5) (x := x45.toInt64) 0 rfl dX11_closed_92 ?_
                refine zq_invS (as := [.long x42.toInt64, .long x45.toInt64]) (st := .long x42.toInt64 :: []) st_X11_gcd mo_X11_gcd ml_RX11_211 rfl (Nat.le_of_ble_eq_true rfl) dX11_closed_94 rfl H (fun r1 h1 hq => ?_)
                obtain ⟨x47, rfl, rfl, H⟩ := hq
                show zQ none m_X11_closed (d + 1) 97 [(5, .long x45.toInt64), (3, .long x42.toInt64), (0, .ref 53), (1, .int i1), (2, .int i2)] (.long x47 :: .long x42.toInt64 :: []) h Q
                obtain ⟨c48, H⟩ := H
                refine zq_ldiv c48 dX11_closed_97 ?_
                exact zq_lret dX11_closed_98 rfl H
              · have H := H.2 c46
                refine zq_lload (i := 5) (x := x45.toInt64) 0 rfl dX11_closed_85 ?_
                refine zq_goto (tgt := 91) dX11_closed_87 rfl ?_
                refine zq_lload_n (k := 3) (i := 3) (x := x42.toInt64) 1 rfl rfl dX11_closed_91 ?_
                refine zq_lload (i := 5) (x := x45.toInt64) 0 rfl dX11_closed_92 ?_
                refine zq_invS (as := [.long x42.toInt64, .long x45.toInt64]) (st := .long x45.toInt64 :: []) st_X11_gcd mo_X11_gcd ml_RX11_211 rfl (Nat.le_of_ble_eq_true rfl) dX11_closed_94 rfl H (fun r1 h1 hq => ?_)
                obtain ⟨x49, rfl, rfl, H⟩ := hq
                show zQ none m_X11_closed (d + 1) 97 [(5, .long x45.toInt64), (3, .long x42.toInt64), (0, .ref 53), (1, .int i1), (2, .int i2)] (.long x49 :: .long x45.toInt64 :: []) h Q
                obtain ⟨c50, H⟩ := H
                refine zq_ldiv c50 dX11_closed_97 ?_
                exact zq_lret dX11_closed_98 rfl H
            · have H := H.2 c44
              refine zq_ldc2 (v := (3)) cl_RX11_209 dX11_closed_61 ?_
              refine zq_aload_n (k := 0) (i := 0) (x := 53) 1 rfl rfl dX11_closed_64 ?_
              refine zq_invV (as := []) (st := .long (3 : Int64) :: []) (o := 53) (c := 10) (by decide) rfl (sh_53 hw) in_X11_triangles se_X11_triangles mo_X11_triangles ml_RX11_194 rfl (Nat.le_of_ble_eq_true rfl) dX11_closed_65 rfl H (fun r1 h1 hq => ?_)
              obtain ⟨x51, rfl, rfl, H⟩ := hq
              show zQ none m_X11_closed (d + 1) 68 [(3, .long x42.toInt64), (0, .ref 53), (1, .int i1), (2, .int i2)] (.int x51 :: .long (3 : Int64) :: []) h Q
              refine zq_i2l dX11_closed_68 ?_
              refine zq_lmul dX11_closed_69 ?_
              refine zq_goto (tgt := 79) dX11_closed_70 rfl ?_
              refine zq_lstore (ls' := [(5, .long ((3 : Int64) * x51.toInt64)), (3, .long x42.toInt64), (0, .ref 53), (1, .int i1), (2, .int i2)]) (i := 5) (Nat.le_of_ble_eq_true rfl) rfl dX11_closed_79 ?_
              refine zq_iload_n (k := 2) (i := 2) (x := i2) 4 rfl rfl dX11_closed_81 ?_
              refine zq_if_ne (tgt := 90) dX11_closed_82 rfl ⟨fun c52 => ?_, fun c52 => ?_⟩
              · have H := H.1 c52
                refine zq_lload_n (k := 3) (i := 3) (x := x42.toInt64) 1 rfl rfl dX11_closed_90 ?_
                refine zq_lload_n (k := 3) (i := 3) (x := x42.toInt64) 1 rfl rfl dX11_closed_91 ?_
                refine zq_lload (i := 5) (x := ((3 : Int64) * x51.toInt64)) 0 rfl dX11_closed_92 ?_
                refine zq_invS (as := [.long x42.toInt64, .long ((3 : Int64) * x51.toInt64)]) (st := .long x42.toInt64 :: []) st_X11_gcd mo_X11_gcd ml_RX11_211 rfl (Nat.le_of_ble_eq_true rfl) dX11_closed_94 rfl H (fun r1 h1 hq => ?_)
                obtain ⟨x53, rfl, rfl, H⟩ := hq
                show zQ none m_X11_closed (d + 1) 97 [(5, .long ((3 : Int64) * x51.toInt64)), (3, .long x42.toInt64), (0, .ref 53), (1, .int i1), (2, .int i2)] (.long x53 :: .long x42.toInt64 :: []) h Q
                obtain ⟨c54, H⟩ := H
                refine zq_ldiv c54 dX11_closed_97 ?_
                exact zq_lret dX11_closed_98 rfl H
              · have H := H.2 c52
                refine zq_lload (i := 5) (x := ((3 : Int64) * x51.toInt64)) 0 rfl dX11_closed_85 ?_
                refine zq_goto (tgt := 91) dX11_closed_87 rfl ?_
                refine zq_lload_n (k := 3) (i := 3) (x := x42.toInt64) 1 rfl rfl dX11_closed_91 ?_
                refine zq_lload (i := 5) (x := ((3 : Int64) * x51.toInt64)) 0 rfl dX11_closed_92 ?_
                refine zq_invS (as := [.long x42.toInt64, .long ((3 : Int64) * x51.toInt64)]) (st := .long ((3 : Int64) * x51.toInt64) :: []) st_X11_gcd mo_X11_gcd ml_RX11_211 rfl (Nat.le_of_ble_eq_true rfl) dX11_closed_94 rfl H (fun r1 h1 hq => ?_)
                obtain ⟨x55, rfl, rfl, H⟩ := hq
                show zQ none m_X11_closed (d + 1) 97 [(5, .long ((3 : Int64) * x51.toInt64)), (3, .long x42.toInt64), (0, .ref 53), (1, .int i1), (2, .int i2)] (.long x55 :: .long ((3 : Int64) * x51.toInt64) :: []) h Q
                obtain ⟨c56, H⟩ := H
                refine zq_ldiv c56 dX11_closed_97 ?_
                exact zq_lret dX11_closed_98 rfl H
          · have H := H.2 c43
            refine zq_ldc2 (v := (-9223372036854775808)) cl_RX11_130 dX11_closed_53 ?_
            exact zq_lret dX11_closed_56 rfl H
        · have H := H.2 c40
          refine zq_aload_n (k := 0) (i := 0) (x := 53) 0 rfl rfl dX11_closed_29 ?_
          refine zq_invV (as := []) (st := []) (o := 53) (c := 10) (by decide) rfl (sh_53 hw) in_X11_allTwos se_X11_allTwos mo_X11_allTwos ml_RX11_200 rfl (Nat.le_of_ble_eq_true rfl) dX11_closed_30 rfl H (fun r1 h1 hq => ?_)
          obtain ⟨x57, rfl, rfl, H⟩ := hq
          show zQ none m_X11_closed (d + 1) 33 [(0, .ref 53), (1, .int i1), (2, .int i2)] (.int x57 :: []) h Q
          refine zq_i2l dX11_closed_33 ?_
          refine zq_goto (tgt := 46) dX11_closed_34 rfl ?_
          refine zq_lstore_n (ls' := [(3, .long x57.toInt64), (0, .ref 53), (1, .int i1), (2, .int i2)]) (k := 3) (i := 3) rfl (Nat.le_of_ble_eq_true rfl) rfl dX11_closed_46 ?_
          refine zq_lload_n (k := 3) (i := 3) (x := x57.toInt64) 0 rfl rfl dX11_closed_47 ?_
          refine zq_lconst (v := 0) rfl dX11_closed_48 ?_
          refine zq_lcmp dX11_closed_49 ?_
          refine zq_if_ne (tgt := 57) dX11_closed_50 rfl ⟨fun c58 => ?_, fun c58 => ?_⟩
          · have H := H.1 c58
            refine zq_iload_n (k := 1) (i := 1) (x := i1) 2 rfl rfl dX11_closed_57 ?_
            refine zq_if_ge (tgt := 73) dX11_closed_58 rfl ⟨fun c59 => ?_, fun c59 => ?_⟩
            · have H := H.1 c59
              refine zq_aload_n (k := 0) (i := 0) (x := 53) 1 rfl rfl dX11_closed_73 ?_
              refine zq_iload_n (k := 1) (i := 1) (x := i1) 2 rfl rfl dX11_closed_74 ?_
              refine zq_invV (as := [.int i1]) (st := []) (o := 53) (c := 10) (by decide) rfl (sh_53 hw) in_X11_trianglesOf se_X11_trianglesOf mo_X11_trianglesOf ml_RX11_132 rfl (Nat.le_of_ble_eq_true rfl) dX11_closed_75 rfl H (fun r1 h1 hq => ?_)
              obtain ⟨x60, rfl, rfl, H⟩ := hq
              show zQ none m_X11_closed (d + 1) 78 [(3, .long x57.toInt64), (0, .ref 53), (1, .int i1), (2, .int i2)] (.int x60 :: []) h Q
              refine zq_i2l dX11_closed_78 ?_
              refine zq_lstore (ls' := [(5, .long x60.toInt64), (3, .long x57.toInt64), (0, .ref 53), (1, .int i1), (2, .int i2)]) (i := 5) (Nat.le_of_ble_eq_true rfl) rfl dX11_closed_79 ?_
              refine zq_iload_n (k := 2) (i := 2) (x := i2) 4 rfl rfl dX11_closed_81 ?_
              refine zq_if_ne (tgt := 90) dX11_closed_82 rfl ⟨fun c61 => ?_, fun c61 => ?_⟩
              · have H := H.1 c61
                refine zq_lload_n (k := 3) (i := 3) (x := x57.toInt64) 1 rfl rfl dX11_closed_90 ?_
                refine zq_lload_n (k := 3) (i := 3) (x := x57.toInt64) 1 rfl rfl dX11_closed_91 ?_
                refine zq_lload (i := 5) (x := x60.toInt64) 0 rfl dX11_closed_92 ?_
                refine zq_invS (as := [.long x57.toInt64, .long x60.toInt64]) (st := .long x57.toInt64 :: []) st_X11_gcd mo_X11_gcd ml_RX11_211 rfl (Nat.le_of_ble_eq_true rfl) dX11_closed_94 rfl H (fun r1 h1 hq => ?_)
                obtain ⟨x62, rfl, rfl, H⟩ := hq
                show zQ none m_X11_closed (d + 1) 97 [(5, .long x60.toInt64), (3, .long x57.toInt64), (0, .ref 53), (1, .int i1), (2, .int i2)] (.long x62 :: .long x57.toInt64 :: []) h Q
                obtain ⟨c63, H⟩ := H
                refine zq_ldiv c63 dX11_closed_97 ?_
                exact zq_lret dX11_closed_98 rfl H
              · have H := H.2 c61
                refine zq_lload (i := 5) (x := x60.toInt64) 0 rfl dX11_closed_85 ?_
                refine zq_goto (tgt := 91) dX11_closed_87 rfl ?_
                refine zq_lload_n (k := 3) (i := 3) (x := x57.toInt64) 1 rfl rfl dX11_closed_91 ?_
                refine zq_lload (i := 5) (x := x60.toInt64) 0 rfl dX11_closed_92 ?_
                refine zq_invS (as := [.long x57.toInt64, .long x60.toInt64]) (st := .long x60.toInt64 :: []) st_X11_gcd mo_X11_gcd ml_RX11_211 rfl (Nat.le_of_ble_eq_true rfl) dX11_closed_94 rfl H (fun r1 h1 hq => ?_)
                obtain ⟨x64, rfl, rfl, H⟩ := hq
                show zQ none m_X11_closed (d + 1) 97 [(5, .long x60.toInt64), (3, .long x57.toInt64), (0, .ref 53), (1, .int i1), (2, .int i2)] (.long x64 :: .long x60.toInt64 :: []) h Q
                obtain ⟨c65, H⟩ := H
                refine zq_ldiv c65 dX11_closed_97 ?_
                exact zq_lret dX11_closed_98 rfl H
            · have H := H.2 c59
              refine zq_ldc2 (v := (3)) cl_RX11_209 dX11_closed_61 ?_
              refine zq_aload_n (k := 0) (i := 0) (x := 53) 1 rfl rfl dX11_closed_64 ?_
              refine zq_invV (as := []) (st := .long (3 : Int64) :: []) (o := 53) (c := 10) (by decide) rfl (sh_53 hw) in_X11_triangles se_X11_triangles mo_X11_triangles ml_RX11_194 rfl (Nat.le_of_ble_eq_true rfl) dX11_closed_65 rfl H (fun r1 h1 hq => ?_)
              obtain ⟨x66, rfl, rfl, H⟩ := hq
              show zQ none m_X11_closed (d + 1) 68 [(3, .long x57.toInt64), (0, .ref 53), (1, .int i1), (2, .int i2)] (.int x66 :: .long (3 : Int64) :: []) h Q
              refine zq_i2l dX11_closed_68 ?_
              refine zq_lmul dX11_closed_69 ?_
              refine zq_goto (tgt := 79) dX11_closed_70 rfl ?_
              refine zq_lstore (ls' := [(5, .long ((3 : Int64) * x66.toInt64)), (3, .long x57.toInt64), (0, .ref 53), (1, .int i1), (2, .int i2)]) (i := 5) (Nat.le_of_ble_eq_true rfl) rfl dX11_closed_79 ?_
              refine zq_iload_n (k := 2) (i := 2) (x := i2) 4 rfl rfl dX11_closed_81 ?_
              refine zq_if_ne (tgt := 90) dX11_closed_82 rfl ⟨fun c67 => ?_, fun c67 => ?_⟩
              · have H := H.1 c67
                refine zq_lload_n (k := 3) (i := 3) (x := x57.toInt64) 1 rfl rfl dX11_closed_90 ?_
                refine zq_lload_n (k := 3) (i := 3) (x := x57.toInt64) 1 rfl rfl dX11_closed_91 ?_
                refine zq_lload (i := 5) (x := ((3 : Int64) * x66.toInt64)) 0 rfl dX11_closed_92 ?_
                refine zq_invS (as := [.long x57.toInt64, .long ((3 : Int64) * x66.toInt64)]) (st := .long x57.toInt64 :: []) st_X11_gcd mo_X11_gcd ml_RX11_211 rfl (Nat.le_of_ble_eq_true rfl) dX11_closed_94 rfl H (fun r1 h1 hq => ?_)
                obtain ⟨x68, rfl, rfl, H⟩ := hq
                show zQ none m_X11_closed (d + 1) 97 [(5, .long ((3 : Int64) * x66.toInt64)), (3, .long x57.toInt64), (0, .ref 53), (1, .int i1), (2, .int i2)] (.long x68 :: .long x57.toInt64 :: []) h Q
                obtain ⟨c69, H⟩ := H
                refine zq_ldiv c69 dX11_closed_97 ?_
                exact zq_lret dX11_closed_98 rfl H
              · have H := H.2 c67
                refine zq_lload (i := 5) (x := ((3 : Int64) * x66.toInt64)) 0 rfl dX11_closed_85 ?_
                refine zq_goto (tgt := 91) dX11_closed_87 rfl ?_
                refine zq_lload_n (k := 3) (i := 3) (x := x57.toInt64) 1 rfl rfl dX11_closed_91 ?_
                refine zq_lload (i := 5) (x := ((3 : Int64) * x66.toInt64)) 0 rfl dX11_closed_92 ?_
                refine zq_invS (as := [.long x57.toInt64, .long ((3 : Int64) * x66.toInt64)]) (st := .long ((3 : Int64) * x66.toInt64) :: []) st_X11_gcd mo_X11_gcd ml_RX11_211 rfl (Nat.le_of_ble_eq_true rfl) dX11_closed_94 rfl H (fun r1 h1 hq => ?_)
                obtain ⟨x70, rfl, rfl, H⟩ := hq
                show zQ none m_X11_closed (d + 1) 97 [(5, .long ((3 : Int64) * x66.toInt64)), (3, .long x57.toInt64), (0, .ref 53), (1, .int i1), (2, .int i2)] (.long x70 :: .long ((3 : Int64) * x66.toInt64) :: []) h Q
                obtain ⟨c71, H⟩ := H
                refine zq_ldiv c71 dX11_closed_97 ?_
                exact zq_lret dX11_closed_98 rfl H
          · have H := H.2 c58
            refine zq_ldc2 (v := (-9223372036854775808)) cl_RX11_130 dX11_closed_53 ?_
            exact zq_lret dX11_closed_56 rfl H
      · have H := H.2 c39
        refine zq_ldc2 (v := (-9223372036854775808)) cl_RX11_130 dX11_closed_21 ?_
        exact zq_lret dX11_closed_24 rfl H
set_option maxHeartbeats 2000000 in
set_option maxRecDepth 20000 in
theorem r_X11_value_0 {d : Nat} {h : AH} {Q : Option Value → AH → Prop}  (hw : zWF h)  (H : zQ none m_X11_value (d + 1) 7 [(0, .ref 53), (1, .long (0 : Int64)), (3, .int (nI 0)), (4, .int (nI 0))] [] h Q) : zK (d + 1) m_X11_value [.ref 53] h Q := by
  refine zK_of mo_X11_value (Nat.le_of_ble_eq_true rfl) ?_
  show zQ none m_X11_value (d + 1) 0 [(0, .ref 53)] [] h Q
  refine zq_lconst (v := 0) rfl dX11_value_0 ?_
  refine zq_lstore_n (ls' := [(1, .long (0 : Int64)), (0, .ref 53)]) (k := 1) (i := 1) rfl (Nat.le_of_ble_eq_true rfl) rfl dX11_value_1 ?_
  refine zq_iconst (v := (nI 0)) rfl dX11_value_2 ?_
  refine zq_istore_n (ls' := [(3, .int (nI 0)), (1, .long (0 : Int64)), (0, .ref 53)]) (k := 3) (i := 3) rfl (Nat.le_of_ble_eq_true rfl) rfl dX11_value_3 ?_
  refine zq_iconst (v := (nI 0)) rfl dX11_value_4 ?_
  refine zq_istore (ls' := [(4, .int (nI 0)), (3, .int (nI 0)), (1, .long (0 : Int64)), (0, .ref 53)]) (i := 4) (Nat.le_of_ble_eq_true rfl) rfl dX11_value_5 ?_
  exact zq_sub (ls' := [(0, .ref 53), (1, .long (0 : Int64)), (3, .int (nI 0)), (4, .int (nI 0))]) [3, 2, 1, 0] rfl H
set_option maxHeartbeats 2000000 in
set_option maxRecDepth 20000 in
theorem r_X11_value_7 {d : Nat} {h : AH} {Q : Option Value → AH → Prop} (l1 : Int64) (i3 : Int32) (i4 : Int32) (hw : zWF h)  (H : ((nI 40) ≤ i4 → (i3 = 0 → Q (some (.long l1)) h) ∧ (¬ i3 = 0 → Q (some (.long (-9223372036854775807 : Int64))) h)) ∧ (¬ (nI 40) ≤ i4 → zQ none m_X11_value (d + 1) 20 [(0, .ref 53), (1, .long l1), (3, .int i3), (4, .int i4), (5, .int (i4 + (nI 1)))] [] h Q)) : zQ none m_X11_value (d + 1) 7 [(0, .ref 53), (1, .long l1), (3, .int i3), (4, .int i4)] [] h Q := by
  refine zq_iload (i := 4) (x := i4) 3 rfl dX11_value_7 ?_
  refine zq_bipush (v := (nI 40)) rfl dX11_value_9 ?_
  refine zq_icmp_ge (tgt := 176) dX11_value_11 rfl ⟨fun c1 => ?_, fun c1 => ?_⟩
  · have H := H.1 c1
    refine zq_iload_n (k := 3) (i := 3) (x := i3) 2 rfl rfl dX11_value_176 ?_
    refine zq_if_eq (tgt := 186) dX11_value_177 rfl ⟨fun c2 => ?_, fun c2 => ?_⟩
    · have H := H.1 c2
      refine zq_lload_n (k := 1) (i := 1) (x := l1) 1 rfl rfl dX11_value_186 ?_
      exact zq_lret dX11_value_187 rfl H
    · have H := H.2 c2
      refine zq_ldc2 (v := (-9223372036854775807)) cl_RX11_215 dX11_value_180 ?_
      refine zq_goto (tgt := 187) dX11_value_183 rfl ?_
      exact zq_lret dX11_value_187 rfl H
  · have H := H.2 c1
    refine zq_iload (i := 4) (x := i4) 3 rfl dX11_value_14 ?_
    refine zq_iconst (v := (nI 1)) rfl dX11_value_16 ?_
    refine zq_iadd dX11_value_17 ?_
    refine zq_istore (ls' := [(5, .int (i4 + (nI 1))), (0, .ref 53), (1, .long l1), (3, .int i3), (4, .int i4)]) (i := 5) (Nat.le_of_ble_eq_true rfl) rfl dX11_value_18 ?_
    exact zq_sub (ls' := [(0, .ref 53), (1, .long l1), (3, .int i3), (4, .int i4), (5, .int (i4 + (nI 1)))]) [1, 2, 3, 4, 0] rfl H
set_option maxHeartbeats 2000000 in
set_option maxRecDepth 20000 in
theorem r_X11_value_20 {d : Nat} {h : AH} {Q : Option Value → AH → Prop} (l1 : Int64) (i3 : Int32) (i4 : Int32) (i5 : Int32) (hw : zWF h)  (H : ((nI 40) ≤ i5 → zQ none m_X11_value (d + 1) 7 [(0, .ref 53), (1, .long l1), (3, .int i3), (4, .int (i4 + (nI 1)))] [] h Q) ∧ (¬ (nI 40) ≤ i5 → zK d m_X11_isEdge [.ref 53, .int i4, .int i5] h (pI h fun x2 => (x2 ≠ 0 → zQ none m_X11_value (d + 1) 47 [(0, .ref 53), (1, .long l1), (3, .int i3), (4, .int i4), (5, .int i5), (6, .int (i5 + (nI 1)))] [] h Q) ∧ (x2 = 0 → zQ none m_X11_value (d + 1) 20 [(0, .ref 53), (1, .long l1), (3, .int i3), (4, .int i4), (5, .int (i5 + (nI 1)))] [] h Q)))) : zQ none m_X11_value (d + 1) 20 [(0, .ref 53), (1, .long l1), (3, .int i3), (4, .int i4), (5, .int i5)] [] h Q := by
  refine zq_iload (i := 5) (x := i5) 4 rfl dX11_value_20 ?_
  refine zq_bipush (v := (nI 40)) rfl dX11_value_22 ?_
  refine zq_icmp_ge (tgt := 170) dX11_value_24 rfl ⟨fun c1 => ?_, fun c1 => ?_⟩
  · have H := H.1 c1
    refine zq_iinc (i := 4) (x := i4) (v := (nI 1)) (ls' := [(4, .int (i4 + (nI 1))), (0, .ref 53), (1, .long l1), (3, .int i3), (5, .int i5)]) 3 rfl rfl (Nat.le_of_ble_eq_true rfl) rfl dX11_value_170 ?_
    refine zq_goto (tgt := 7) dX11_value_173 rfl ?_
    exact zq_sub (ls' := [(0, .ref 53), (1, .long l1), (3, .int i3), (4, .int (i4 + (nI 1)))]) [1, 2, 3, 0] rfl H
  · have H := H.2 c1
    refine zq_aload_n (k := 0) (i := 0) (x := 53) 0 rfl rfl dX11_value_27 ?_
    refine zq_iload (i := 4) (x := i4) 3 rfl dX11_value_28 ?_
    refine zq_iload (i := 5) (x := i5) 4 rfl dX11_value_30 ?_
    refine zq_invV (as := [.int i4, .int i5]) (st := []) (o := 53) (c := 10) (by decide) rfl (sh_53 hw) in_X11_isEdge se_X11_isEdge mo_X11_isEdge ml_RX11_116 rfl (Nat.le_of_ble_eq_true rfl) dX11_value_32 rfl H (fun r1 h1 hq => ?_)
    obtain ⟨x2, rfl, rfl, H⟩ := hq
    show zQ none m_X11_value (d + 1) 35 [(0, .ref 53), (1, .long l1), (3, .int i3), (4, .int i4), (5, .int i5)] (.int x2 :: []) h Q
    refine zq_if_ne (tgt := 41) dX11_value_35 rfl ⟨fun c3 => ?_, fun c3 => ?_⟩
    · have H := H.1 c3
      refine zq_iload (i := 5) (x := i5) 4 rfl dX11_value_41 ?_
      refine zq_iconst (v := (nI 1)) rfl dX11_value_43 ?_
      refine zq_iadd dX11_value_44 ?_
      refine zq_istore (ls' := [(6, .int (i5 + (nI 1))), (0, .ref 53), (1, .long l1), (3, .int i3), (4, .int i4), (5, .int i5)]) (i := 6) (Nat.le_of_ble_eq_true rfl) rfl dX11_value_45 ?_
      exact zq_sub (ls' := [(0, .ref 53), (1, .long l1), (3, .int i3), (4, .int i4), (5, .int i5), (6, .int (i5 + (nI 1)))]) [1, 2, 3, 4, 5, 0] rfl H
    · have H := H.2 c3
      refine zq_goto (tgt := 164) dX11_value_38 rfl ?_
      refine zq_iinc (i := 5) (x := i5) (v := (nI 1)) (ls' := [(5, .int (i5 + (nI 1))), (0, .ref 53), (1, .long l1), (3, .int i3), (4, .int i4)]) 4 rfl rfl (Nat.le_of_ble_eq_true rfl) rfl dX11_value_164 ?_
      refine zq_goto (tgt := 20) dX11_value_167 rfl ?_
      exact zq_sub (ls' := [(0, .ref 53), (1, .long l1), (3, .int i3), (4, .int i4), (5, .int (i5 + (nI 1)))]) [1, 2, 3, 4, 0] rfl H
set_option maxHeartbeats 2000000 in
set_option maxRecDepth 20000 in
theorem r_X11_value_47 {d : Nat} {h : AH} {Q : Option Value → AH → Prop} (l1 : Int64) (i3 : Int32) (i4 : Int32) (i5 : Int32) (i6 : Int32) (hw : zWF h)  (H : ((nI 40) ≤ i6 → zQ none m_X11_value (d + 1) 20 [(0, .ref 53), (1, .long l1), (3, .int i3), (4, .int i4), (5, .int (i5 + (nI 1)))] [] h Q) ∧ (¬ (nI 40) ≤ i6 → zK d m_X11_isEdge [.ref 53, .int i4, .int i6] h (pI h fun x2 => (x2 = 0 → zQ none m_X11_value (d + 1) 47 [(0, .ref 53), (1, .long l1), (3, .int i3), (4, .int i4), (5, .int i5), (6, .int (i6 + (nI 1)))] [] h Q) ∧ (¬ x2 = 0 → zK d m_X11_isEdge [.ref 53, .int i5, .int i6] h (pI h fun x4 => (x4 ≠ 0 → zK d m_X11_edge [.int i4, .int i5] h (pI h fun x6 => vp_in x6 1600 ∧ (zK d m_X11_edge [.int i4, .int i6] h (pI h fun x8 => vp_in x8 1600 ∧ (zK d m_X11_edge [.int i5, .int i6] h (pI h fun x10 => vp_in x10 1600 ∧ ((0 ≤ (lg_cmp (l1 ^^^ (l1 + (((h.I 55 x6.toNatClampNeg).toInt64 * (h.I 55 x8.toNatClampNeg).toInt64) * (h.I 55 x10.toNatClampNeg).toInt64))) (0 : Int64)) → zQ none m_X11_value (d + 1) 47 [(0, .ref 53), (1, .long (l1 + (((h.I 55 x6.toNatClampNeg).toInt64 * (h.I 55 x8.toNatClampNeg).toInt64) * (h.I 55 x10.toNatClampNeg).toInt64))), (3, .int (i3 ||| (nI 0))), (4, .int i4), (5, .int i5), (6, .int (i6 + (nI 1)))] [] h Q) ∧ (¬ 0 ≤ (lg_cmp (l1 ^^^ (l1 + (((h.I 55 x6.toNatClampNeg).toInt64 * (h.I 55 x8.toNatClampNeg).toInt64) * (h.I 55 x10.toNatClampNeg).toInt64))) (0 : Int64)) → (0 ≤ (lg_cmp ((((h.I 55 x6.toNatClampNeg).toInt64 * (h.I 55 x8.toNatClampNeg).toInt64) * (h.I 55 x10.toNatClampNeg).toInt64) ^^^ (l1 + (((h.I 55 x6.toNatClampNeg).toInt64 * (h.I 55 x8.toNatClampNeg).toInt64) * (h.I 55 x10.toNatClampNeg).toInt64))) (0 : Int64)) → zQ none m_X11_value (d + 1) 47 [(0, .ref 53), (1, .long (l1 + (((h.I 55 x6.toNatClampNeg).toInt64 * (h.I 55 x8.toNatClampNeg).toInt64) * (h.I 55 x10.toNatClampNeg).toInt64))), (3, .int (i3 ||| (nI 0))), (4, .int i4), (5, .int i5), (6, .int (i6 + (nI 1)))] [] h Q) ∧ (¬ 0 ≤ (lg_cmp ((((h.I 55 x6.toNatClampNeg).toInt64 * (h.I 55 x8.toNatClampNeg).toInt64) * (h.I 55 x10.toNatClampNeg).toInt64) ^^^ (l1 + (((h.I 55 x6.toNatClampNeg).toInt64 * (h.I 55 x8.toNatClampNeg).toInt64) * (h.I 55 x10.toNatClampNeg).toInt64))) (0 : Int64)) → zQ none m_X11_value (d + 1) 47 [(0, .ref 53), (1, .long (l1 + (((h.I 55 x6.toNatClampNeg).toInt64 * (h.I 55 x8.toNatClampNeg).toInt64) * (h.I 55 x10.toNatClampNeg).toInt64))), (3, .int (i3 ||| (nI 1))), (4, .int i4), (5, .int i5), (6, .int (i6 + (nI 1)))] [] h Q))))))))) ∧ (x4 = 0 → zQ none m_X11_value (d + 1) 47 [(0, .ref 53), (1, .long l1), (3, .int i3), (4, .int i4), (5, .int i5), (6, .int (i6 + (nI 1)))] [] h Q)))))) : zQ none m_X11_value (d + 1) 47 [(0, .ref 53), (1, .long l1), (3, .int i3), (4, .int i4), (5, .int i5), (6, .int i6)] [] h Q := by
  refine zq_iload (i := 6) (x := i6) 5 rfl dX11_value_47 ?_
  refine zq_bipush (v := (nI 40)) rfl dX11_value_49 ?_
  refine zq_icmp_ge (tgt := 164) dX11_value_51 rfl ⟨fun c1 => ?_, fun c1 => ?_⟩
  · have H := H.1 c1
    refine zq_iinc (i := 5) (x := i5) (v := (nI 1)) (ls' := [(5, .int (i5 + (nI 1))), (0, .ref 53), (1, .long l1), (3, .int i3), (4, .int i4), (6, .int i6)]) 4 rfl rfl (Nat.le_of_ble_eq_true rfl) rfl dX11_value_164 ?_
    refine zq_goto (tgt := 20) dX11_value_167 rfl ?_
    exact zq_sub (ls' := [(0, .ref 53), (1, .long l1), (3, .int i3), (4, .int i4), (5, .int (i5 + (nI 1)))]) [1, 2, 3, 4, 0] rfl H
  · have H := H.2 c1
    refine zq_aload_n (k := 0) (i := 0) (x := 53) 0 rfl rfl dX11_value_54 ?_
    refine zq_iload (i := 4) (x := i4) 3 rfl dX11_value_55 ?_
    refine zq_iload (i := 6) (x := i6) 5 rfl dX11_value_57 ?_
    refine zq_invV (as := [.int i4, .int i6]) (st := []) (o := 53) (c := 10) (by decide) rfl (sh_53 hw) in_X11_isEdge se_X11_isEdge mo_X11_isEdge ml_RX11_116 rfl (Nat.le_of_ble_eq_true rfl) dX11_value_59 rfl H (fun r1 h1 hq => ?_)
    obtain ⟨x2, rfl, rfl, H⟩ := hq
    show zQ none m_X11_value (d + 1) 62 [(0, .ref 53), (1, .long l1), (3, .int i3), (4, .int i4), (5, .int i5), (6, .int i6)] (.int x2 :: []) h Q
    refine zq_if_eq (tgt := 158) dX11_value_62 rfl ⟨fun c3 => ?_, fun c3 => ?_⟩
    · have H := H.1 c3
      refine zq_iinc (i := 6) (x := i6) (v := (nI 1)) (ls' := [(6, .int (i6 + (nI 1))), (0, .ref 53), (1, .long l1), (3, .int i3), (4, .int i4), (5, .int i5)]) 5 rfl rfl (Nat.le_of_ble_eq_true rfl) rfl dX11_value_158 ?_
      refine zq_goto (tgt := 47) dX11_value_161 rfl ?_
      exact zq_sub (ls' := [(0, .ref 53), (1, .long l1), (3, .int i3), (4, .int i4), (5, .int i5), (6, .int (i6 + (nI 1)))]) [1, 2, 3, 4, 5, 0] rfl H
    · have H := H.2 c3
      refine zq_aload_n (k := 0) (i := 0) (x := 53) 0 rfl rfl dX11_value_65 ?_
      refine zq_iload (i := 5) (x := i5) 4 rfl dX11_value_66 ?_
      refine zq_iload (i := 6) (x := i6) 5 rfl dX11_value_68 ?_
      refine zq_invV (as := [.int i5, .int i6]) (st := []) (o := 53) (c := 10) (by decide) rfl (sh_53 hw) in_X11_isEdge se_X11_isEdge mo_X11_isEdge ml_RX11_116 rfl (Nat.le_of_ble_eq_true rfl) dX11_value_70 rfl H (fun r1 h1 hq => ?_)
      obtain ⟨x4, rfl, rfl, H⟩ := hq
      show zQ none m_X11_value (d + 1) 73 [(0, .ref 53), (1, .long l1), (3, .int i3), (4, .int i4), (5, .int i5), (6, .int i6)] (.int x4 :: []) h Q
      refine zq_if_ne (tgt := 79) dX11_value_73 rfl ⟨fun c5 => ?_, fun c5 => ?_⟩
      · have H := H.1 c5
        refine zq_aload_n (k := 0) (i := 0) (x := 53) 0 rfl rfl dX11_value_79 ?_
        refine zq_getP fl_RX11_15 rfl (sh_53 hw) (rf_53_1 hw) dX11_value_80 ?_
        refine zq_iload (i := 4) (x := i4) 3 rfl dX11_value_83 ?_
        refine zq_iload (i := 5) (x := i5) 4 rfl dX11_value_85 ?_
        refine zq_invS (as := [.int i4, .int i5]) (st := .ref 55 :: []) st_X11_edge mo_X11_edge ml_RX11_92 rfl (Nat.le_of_ble_eq_true rfl) dX11_value_87 rfl H (fun r1 h1 hq => ?_)
        obtain ⟨x6, rfl, rfl, H⟩ := hq
        show zQ none m_X11_value (d + 1) 90 [(0, .ref 53), (1, .long l1), (3, .int i3), (4, .int i4), (5, .int i5), (6, .int i6)] (.int x6 :: .ref 55 :: []) h Q
        obtain ⟨b7, H⟩ := H
        refine zq_iald (sh_55 hw) b7 dX11_value_90 ?_
        refine zq_i2l dX11_value_91 ?_
        refine zq_aload_n (k := 0) (i := 0) (x := 53) 0 rfl rfl dX11_value_92 ?_
        refine zq_getP fl_RX11_15 rfl (sh_53 hw) (rf_53_1 hw) dX11_value_93 ?_
        refine zq_iload (i := 4) (x := i4) 3 rfl dX11_value_96 ?_
        refine zq_iload (i := 6) (x := i6) 5 rfl dX11_value_98 ?_
        refine zq_invS (as := [.int i4, .int i6]) (st := .ref 55 :: .long ((h.I 55 x6.toNatClampNeg).toInt64) :: []) st_X11_edge mo_X11_edge ml_RX11_92 rfl (Nat.le_of_ble_eq_true rfl) dX11_value_100 rfl H (fun r1 h1 hq => ?_)
        obtain ⟨x8, rfl, rfl, H⟩ := hq
        show zQ none m_X11_value (d + 1) 103 [(0, .ref 53), (1, .long l1), (3, .int i3), (4, .int i4), (5, .int i5), (6, .int i6)] (.int x8 :: .ref 55 :: .long ((h.I 55 x6.toNatClampNeg).toInt64) :: []) h Q
        obtain ⟨b9, H⟩ := H
        refine zq_iald (sh_55 hw) b9 dX11_value_103 ?_
        refine zq_i2l dX11_value_104 ?_
        refine zq_lmul dX11_value_105 ?_
        refine zq_aload_n (k := 0) (i := 0) (x := 53) 0 rfl rfl dX11_value_106 ?_
        refine zq_getP fl_RX11_15 rfl (sh_53 hw) (rf_53_1 hw) dX11_value_107 ?_
        refine zq_iload (i := 5) (x := i5) 4 rfl dX11_value_110 ?_
        refine zq_iload (i := 6) (x := i6) 5 rfl dX11_value_112 ?_
        refine zq_invS (as := [.int i5, .int i6]) (st := .ref 55 :: .long ((h.I 55 x6.toNatClampNeg).toInt64 * (h.I 55 x8.toNatClampNeg).toInt64) :: []) st_X11_edge mo_X11_edge ml_RX11_92 rfl (Nat.le_of_ble_eq_true rfl) dX11_value_114 rfl H (fun r1 h1 hq => ?_)
        obtain ⟨x10, rfl, rfl, H⟩ := hq
        show zQ none m_X11_value (d + 1) 117 [(0, .ref 53), (1, .long l1), (3, .int i3), (4, .int i4), (5, .int i5), (6, .int i6)] (.int x10 :: .ref 55 :: .long ((h.I 55 x6.toNatClampNeg).toInt64 * (h.I 55 x8.toNatClampNeg).toInt64) :: []) h Q
        obtain ⟨b11, H⟩ := H
        refine zq_iald (sh_55 hw) b11 dX11_value_117 ?_
        refine zq_i2l dX11_value_118 ?_
        refine zq_lmul dX11_value_119 ?_
        refine zq_lstore (ls' := [(7, .long (((h.I 55 x6.toNatClampNeg).toInt64 * (h.I 55 x8.toNatClampNeg).toInt64) * (h.I 55 x10.toNatClampNeg).toInt64)), (0, .ref 53), (1, .long l1), (3, .int i3), (4, .int i4), (5, .int i5), (6, .int i6)]) (i := 7) (Nat.le_of_ble_eq_true rfl) rfl dX11_value_120 ?_
        refine zq_lload_n (k := 1) (i := 1) (x := l1) 2 rfl rfl dX11_value_122 ?_
        refine zq_lload (i := 7) (x := (((h.I 55 x6.toNatClampNeg).toInt64 * (h.I 55 x8.toNatClampNeg).toInt64) * (h.I 55 x10.toNatClampNeg).toInt64)) 0 rfl dX11_value_123 ?_
        refine zq_ladd dX11_value_125 ?_
        refine zq_lstore (ls' := [(9, .long (l1 + (((h.I 55 x6.toNatClampNeg).toInt64 * (h.I 55 x8.toNatClampNeg).toInt64) * (h.I 55 x10.toNatClampNeg).toInt64))), (7, .long (((h.I 55 x6.toNatClampNeg).toInt64 * (h.I 55 x8.toNatClampNeg).toInt64) * (h.I 55 x10.toNatClampNeg).toInt64)), (0, .ref 53), (1, .long l1), (3, .int i3), (4, .int i4), (5, .int i5), (6, .int i6)]) (i := 9) (Nat.le_of_ble_eq_true rfl) rfl dX11_value_126 ?_
        refine zq_iload_n (k := 3) (i := 3) (x := i3) 4 rfl rfl dX11_value_128 ?_
        refine zq_lload_n (k := 1) (i := 1) (x := l1) 3 rfl rfl dX11_value_129 ?_
        refine zq_lload (i := 9) (x := (l1 + (((h.I 55 x6.toNatClampNeg).toInt64 * (h.I 55 x8.toNatClampNeg).toInt64) * (h.I 55 x10.toNatClampNeg).toInt64))) 0 rfl dX11_value_130 ?_
        refine zq_lxor dX11_value_132 ?_
        refine zq_lconst (v := 0) rfl dX11_value_133 ?_
        refine zq_lcmp dX11_value_134 ?_
        refine zq_if_ge (tgt := 152) dX11_value_135 rfl ⟨fun c12 => ?_, fun c12 => ?_⟩
        · have H := H.1 c12
          refine zq_iconst (v := (nI 0)) rfl dX11_value_152 ?_
          refine zq_ior dX11_value_153 ?_
          refine zq_istore_n (ls' := [(3, .int (i3 ||| (nI 0))), (9, .long (l1 + (((h.I 55 x6.toNatClampNeg).toInt64 * (h.I 55 x8.toNatClampNeg).toInt64) * (h.I 55 x10.toNatClampNeg).toInt64))), (7, .long (((h.I 55 x6.toNatClampNeg).toInt64 * (h.I 55 x8.toNatClampNeg).toInt64) * (h.I 55 x10.toNatClampNeg).toInt64)), (0, .ref 53), (1, .long l1), (4, .int i4), (5, .int i5), (6, .int i6)]) (k := 3) (i := 3) rfl (Nat.le_of_ble_eq_true rfl) rfl dX11_value_154 ?_
          refine zq_lload (i := 9) (x := (l1 + (((h.I 55 x6.toNatClampNeg).toInt64 * (h.I 55 x8.toNatClampNeg).toInt64) * (h.I 55 x10.toNatClampNeg).toInt64))) 1 rfl dX11_value_155 ?_
          refine zq_lstore_n (ls' := [(1, .long (l1 + (((h.I 55 x6.toNatClampNeg).toInt64 * (h.I 55 x8.toNatClampNeg).toInt64) * (h.I 55 x10.toNatClampNeg).toInt64))), (3, .int (i3 ||| (nI 0))), (9, .long (l1 + (((h.I 55 x6.toNatClampNeg).toInt64 * (h.I 55 x8.toNatClampNeg).toInt64) * (h.I 55 x10.toNatClampNeg).toInt64))), (7, .long (((h.I 55 x6.toNatClampNeg).toInt64 * (h.I 55 x8.toNatClampNeg).toInt64) * (h.I 55 x10.toNatClampNeg).toInt64)), (0, .ref 53), (4, .int i4), (5, .int i5), (6, .int i6)]) (k := 1) (i := 1) rfl (Nat.le_of_ble_eq_true rfl) rfl dX11_value_157 ?_
          refine zq_iinc (i := 6) (x := i6) (v := (nI 1)) (ls' := [(6, .int (i6 + (nI 1))), (1, .long (l1 + (((h.I 55 x6.toNatClampNeg).toInt64 * (h.I 55 x8.toNatClampNeg).toInt64) * (h.I 55 x10.toNatClampNeg).toInt64))), (3, .int (i3 ||| (nI 0))), (9, .long (l1 + (((h.I 55 x6.toNatClampNeg).toInt64 * (h.I 55 x8.toNatClampNeg).toInt64) * (h.I 55 x10.toNatClampNeg).toInt64))), (7, .long (((h.I 55 x6.toNatClampNeg).toInt64 * (h.I 55 x8.toNatClampNeg).toInt64) * (h.I 55 x10.toNatClampNeg).toInt64)), (0, .ref 53), (4, .int i4), (5, .int i5)]) 7 rfl rfl (Nat.le_of_ble_eq_true rfl) rfl dX11_value_158 ?_
          refine zq_goto (tgt := 47) dX11_value_161 rfl ?_
          exact zq_sub (ls' := [(0, .ref 53), (1, .long (l1 + (((h.I 55 x6.toNatClampNeg).toInt64 * (h.I 55 x8.toNatClampNeg).toInt64) * (h.I 55 x10.toNatClampNeg).toInt64))), (3, .int (i3 ||| (nI 0))), (4, .int i4), (5, .int i5), (6, .int (i6 + (nI 1)))]) [5, 1, 2, 6, 7, 0] rfl H
        · have H := H.2 c12
          refine zq_lload (i := 7) (x := (((h.I 55 x6.toNatClampNeg).toInt64 * (h.I 55 x8.toNatClampNeg).toInt64) * (h.I 55 x10.toNatClampNeg).toInt64)) 1 rfl dX11_value_138 ?_
          refine zq_lload (i := 9) (x := (l1 + (((h.I 55 x6.toNatClampNeg).toInt64 * (h.I 55 x8.toNatClampNeg).toInt64) * (h.I 55 x10.toNatClampNeg).toInt64))) 0 rfl dX11_value_140 ?_
          refine zq_lxor dX11_value_142 ?_
          refine zq_lconst (v := 0) rfl dX11_value_143 ?_
          refine zq_lcmp dX11_value_144 ?_
          refine zq_if_ge (tgt := 152) dX11_value_145 rfl ⟨fun c13 => ?_, fun c13 => ?_⟩
          · have H := H.1 c13
            refine zq_iconst (v := (nI 0)) rfl dX11_value_152 ?_
            refine zq_ior dX11_value_153 ?_
            refine zq_istore_n (ls' := [(3, .int (i3 ||| (nI 0))), (9, .long (l1 + (((h.I 55 x6.toNatClampNeg).toInt64 * (h.I 55 x8.toNatClampNeg).toInt64) * (h.I 55 x10.toNatClampNeg).toInt64))), (7, .long (((h.I 55 x6.toNatClampNeg).toInt64 * (h.I 55 x8.toNatClampNeg).toInt64) * (h.I 55 x10.toNatClampNeg).toInt64)), (0, .ref 53), (1, .long l1), (4, .int i4), (5, .int i5), (6, .int i6)]) (k := 3) (i := 3) rfl (Nat.le_of_ble_eq_true rfl) rfl dX11_value_154 ?_
            refine zq_lload (i := 9) (x := (l1 + (((h.I 55 x6.toNatClampNeg).toInt64 * (h.I 55 x8.toNatClampNeg).toInt64) * (h.I 55 x10.toNatClampNeg).toInt64))) 1 rfl dX11_value_155 ?_
            refine zq_lstore_n (ls' := [(1, .long (l1 + (((h.I 55 x6.toNatClampNeg).toInt64 * (h.I 55 x8.toNatClampNeg).toInt64) * (h.I 55 x10.toNatClampNeg).toInt64))), (3, .int (i3 ||| (nI 0))), (9, .long (l1 + (((h.I 55 x6.toNatClampNeg).toInt64 * (h.I 55 x8.toNatClampNeg).toInt64) * (h.I 55 x10.toNatClampNeg).toInt64))), (7, .long (((h.I 55 x6.toNatClampNeg).toInt64 * (h.I 55 x8.toNatClampNeg).toInt64) * (h.I 55 x10.toNatClampNeg).toInt64)), (0, .ref 53), (4, .int i4), (5, .int i5), (6, .int i6)]) (k := 1) (i := 1) rfl (Nat.le_of_ble_eq_true rfl) rfl dX11_value_157 ?_
            refine zq_iinc (i := 6) (x := i6) (v := (nI 1)) (ls' := [(6, .int (i6 + (nI 1))), (1, .long (l1 + (((h.I 55 x6.toNatClampNeg).toInt64 * (h.I 55 x8.toNatClampNeg).toInt64) * (h.I 55 x10.toNatClampNeg).toInt64))), (3, .int (i3 ||| (nI 0))), (9, .long (l1 + (((h.I 55 x6.toNatClampNeg).toInt64 * (h.I 55 x8.toNatClampNeg).toInt64) * (h.I 55 x10.toNatClampNeg).toInt64))), (7, .long (((h.I 55 x6.toNatClampNeg).toInt64 * (h.I 55 x8.toNatClampNeg).toInt64) * (h.I 55 x10.toNatClampNeg).toInt64)), (0, .ref 53), (4, .int i4), (5, .int i5)]) 7 rfl rfl (Nat.le_of_ble_eq_true rfl) rfl dX11_value_158 ?_
            refine zq_goto (tgt := 47) dX11_value_161 rfl ?_
            exact zq_sub (ls' := [(0, .ref 53), (1, .long (l1 + (((h.I 55 x6.toNatClampNeg).toInt64 * (h.I 55 x8.toNatClampNeg).toInt64) * (h.I 55 x10.toNatClampNeg).toInt64))), (3, .int (i3 ||| (nI 0))), (4, .int i4), (5, .int i5), (6, .int (i6 + (nI 1)))]) [5, 1, 2, 6, 7, 0] rfl H
          · have H := H.2 c13
            refine zq_iconst (v := (nI 1)) rfl dX11_value_148 ?_
            refine zq_goto (tgt := 153) dX11_value_149 rfl ?_
            refine zq_ior dX11_value_153 ?_
            refine zq_istore_n (ls' := [(3, .int (i3 ||| (nI 1))), (9, .long (l1 + (((h.I 55 x6.toNatClampNeg).toInt64 * (h.I 55 x8.toNatClampNeg).toInt64) * (h.I 55 x10.toNatClampNeg).toInt64))), (7, .long (((h.I 55 x6.toNatClampNeg).toInt64 * (h.I 55 x8.toNatClampNeg).toInt64) * (h.I 55 x10.toNatClampNeg).toInt64)), (0, .ref 53), (1, .long l1), (4, .int i4), (5, .int i5), (6, .int i6)]) (k := 3) (i := 3) rfl (Nat.le_of_ble_eq_true rfl) rfl dX11_value_154 ?_
            refine zq_lload (i := 9) (x := (l1 + (((h.I 55 x6.toNatClampNeg).toInt64 * (h.I 55 x8.toNatClampNeg).toInt64) * (h.I 55 x10.toNatClampNeg).toInt64))) 1 rfl dX11_value_155 ?_
            refine zq_lstore_n (ls' := [(1, .long (l1 + (((h.I 55 x6.toNatClampNeg).toInt64 * (h.I 55 x8.toNatClampNeg).toInt64) * (h.I 55 x10.toNatClampNeg).toInt64))), (3, .int (i3 ||| (nI 1))), (9, .long (l1 + (((h.I 55 x6.toNatClampNeg).toInt64 * (h.I 55 x8.toNatClampNeg).toInt64) * (h.I 55 x10.toNatClampNeg).toInt64))), (7, .long (((h.I 55 x6.toNatClampNeg).toInt64 * (h.I 55 x8.toNatClampNeg).toInt64) * (h.I 55 x10.toNatClampNeg).toInt64)), (0, .ref 53), (4, .int i4), (5, .int i5), (6, .int i6)]) (k := 1) (i := 1) rfl (Nat.le_of_ble_eq_true rfl) rfl dX11_value_157 ?_
            refine zq_iinc (i := 6) (x := i6) (v := (nI 1)) (ls' := [(6, .int (i6 + (nI 1))), (1, .long (l1 + (((h.I 55 x6.toNatClampNeg).toInt64 * (h.I 55 x8.toNatClampNeg).toInt64) * (h.I 55 x10.toNatClampNeg).toInt64))), (3, .int (i3 ||| (nI 1))), (9, .long (l1 + (((h.I 55 x6.toNatClampNeg).toInt64 * (h.I 55 x8.toNatClampNeg).toInt64) * (h.I 55 x10.toNatClampNeg).toInt64))), (7, .long (((h.I 55 x6.toNatClampNeg).toInt64 * (h.I 55 x8.toNatClampNeg).toInt64) * (h.I 55 x10.toNatClampNeg).toInt64)), (0, .ref 53), (4, .int i4), (5, .int i5)]) 7 rfl rfl (Nat.le_of_ble_eq_true rfl) rfl dX11_value_158 ?_
            refine zq_goto (tgt := 47) dX11_value_161 rfl ?_
            exact zq_sub (ls' := [(0, .ref 53), (1, .long (l1 + (((h.I 55 x6.toNatClampNeg).toInt64 * (h.I 55 x8.toNatClampNeg).toInt64) * (h.I 55 x10.toNatClampNeg).toInt64))), (3, .int (i3 ||| (nI 1))), (4, .int i4), (5, .int i5), (6, .int (i6 + (nI 1)))]) [5, 1, 2, 6, 7, 0] rfl H
      · have H := H.2 c5
        refine zq_goto (tgt := 158) dX11_value_76 rfl ?_
        refine zq_iinc (i := 6) (x := i6) (v := (nI 1)) (ls' := [(6, .int (i6 + (nI 1))), (0, .ref 53), (1, .long l1), (3, .int i3), (4, .int i4), (5, .int i5)]) 5 rfl rfl (Nat.le_of_ble_eq_true rfl) rfl dX11_value_158 ?_
        refine zq_goto (tgt := 47) dX11_value_161 rfl ?_
        exact zq_sub (ls' := [(0, .ref 53), (1, .long l1), (3, .int i3), (4, .int i4), (5, .int i5), (6, .int (i6 + (nI 1)))]) [1, 2, 3, 4, 5, 0] rfl H
set_option maxHeartbeats 2000000 in
set_option maxRecDepth 20000 in
theorem r_X11_broken_0 {d : Nat} {h : AH} {Q : Option Value → AH → Prop} (i1 : Int32) (hw : zWF h)  (H : zK d m_X11_isIn [.int i1, .int (nI 0), .int (nI 2)] h (pI h fun x1 => (x1 ≠ 0 → zK d m_X11_leaves [.ref 53] h (kV fun h3 => zQ none m_X11_broken (d + 1) 19 [(0, .ref 53), (1, .int i1), (2, .int (-1)), (3, .int (nI 0))] [] h3 Q)) ∧ (x1 = 0 → Q (some (.int (-1))) h))) : zK (d + 1) m_X11_broken [.ref 53, .int i1] h Q := by
  refine zK_of mo_X11_broken (Nat.le_of_ble_eq_true rfl) ?_
  show zQ none m_X11_broken (d + 1) 0 [(0, .ref 53), (1, .int i1)] [] h Q
  refine zq_iload_n (k := 1) (i := 1) (x := i1) 1 rfl rfl dX11_broken_0 ?_
  refine zq_iconst (v := (nI 0)) rfl dX11_broken_1 ?_
  refine zq_iconst (v := (nI 2)) rfl dX11_broken_2 ?_
  refine zq_invS (as := [.int i1, .int (nI 0), .int (nI 2)]) (st := []) st_X11_isIn mo_X11_isIn ml_RX11_64 rfl (Nat.le_of_ble_eq_true rfl) dX11_broken_3 rfl H (fun r1 h1 hq => ?_)
  obtain ⟨x1, rfl, rfl, H⟩ := hq
  show zQ none m_X11_broken (d + 1) 6 [(0, .ref 53), (1, .int i1)] (.int x1 :: []) h Q
  refine zq_if_ne (tgt := 11) dX11_broken_6 rfl ⟨fun c2 => ?_, fun c2 => ?_⟩
  · have H := H.1 c2
    refine zq_aload_n (k := 0) (i := 0) (x := 53) 0 rfl rfl dX11_broken_11 ?_
    refine zq_invV (as := []) (st := []) (o := 53) (c := 10) (by decide) rfl (sh_53 hw) in_X11_leaves se_X11_leaves mo_X11_leaves ml_RX11_170 rfl (Nat.le_of_ble_eq_true rfl) dX11_broken_12 rfl H (fun r1 h3 hq => ?_)
    obtain ⟨rfl, wh3, H⟩ := hq
    show zQ none m_X11_broken (d + 1) 15 [(0, .ref 53), (1, .int i1)] ([]) h3 Q
    refine zq_iconst (v := (-1)) rfl dX11_broken_15 ?_
    refine zq_istore_n (ls' := [(2, .int (-1)), (0, .ref 53), (1, .int i1)]) (k := 2) (i := 2) rfl (Nat.le_of_ble_eq_true rfl) rfl dX11_broken_16 ?_
    refine zq_iconst (v := (nI 0)) rfl dX11_broken_17 ?_
    refine zq_istore_n (ls' := [(3, .int (nI 0)), (2, .int (-1)), (0, .ref 53), (1, .int i1)]) (k := 3) (i := 3) rfl (Nat.le_of_ble_eq_true rfl) rfl dX11_broken_18 ?_
    exact zq_sub (ls' := [(0, .ref 53), (1, .int i1), (2, .int (-1)), (3, .int (nI 0))]) [2, 3, 1, 0] rfl H
  · have H := H.2 c2
    refine zq_iconst (v := (-1)) rfl dX11_broken_9 ?_
    exact zq_iret dX11_broken_10 rfl rfl rfl H
set_option maxHeartbeats 2000000 in
set_option maxRecDepth 20000 in
theorem r_X11_broken_19 {d : Nat} {h : AH} {Q : Option Value → AH → Prop} (i1 : Int32) (i2 : Int32) (i3 : Int32) (hw : zWF h)  (H : zQ none m_X11_broken (d + 1) 25 [(0, .ref 53), (1, .int i1), (2, .int i2), (3, .int i3), (4, .int (-1)), (5, .int (nI 0))] [] h Q) : zQ none m_X11_broken (d + 1) 19 [(0, .ref 53), (1, .int i1), (2, .int i2), (3, .int i3)] [] h Q := by
  refine zq_iconst (v := (-1)) rfl dX11_broken_19 ?_
  refine zq_istore (ls' := [(4, .int (-1)), (0, .ref 53), (1, .int i1), (2, .int i2), (3, .int i3)]) (i := 4) (Nat.le_of_ble_eq_true rfl) rfl dX11_broken_20 ?_
  refine zq_iconst (v := (nI 0)) rfl dX11_broken_22 ?_
  refine zq_istore (ls' := [(5, .int (nI 0)), (4, .int (-1)), (0, .ref 53), (1, .int i1), (2, .int i2), (3, .int i3)]) (i := 5) (Nat.le_of_ble_eq_true rfl) rfl dX11_broken_23 ?_
  exact zq_sub (ls' := [(0, .ref 53), (1, .int i1), (2, .int i2), (3, .int i3), (4, .int (-1)), (5, .int (nI 0))]) [2, 3, 4, 5, 1, 0] rfl H
set_option maxHeartbeats 2000000 in
set_option maxRecDepth 20000 in
theorem r_X11_broken_25 {d : Nat} {h : AH} {Q : Option Value → AH → Prop} (i1 : Int32) (i2 : Int32) (i3 : Int32) (i4 : Int32) (i5 : Int32) (hw : zWF h)  (H : ((nI 1600) ≤ i5 → (0 ≤ i4 → (0 ≤ i2 → zK d m_X11_leaves_ [.ref 53, .int (i4 / (nI 40)), .int (i4 - i4 / (nI 40) * (nI 40))] h (kV fun h4 => zQ none m_X11_broken (d + 1) 19 [(0, .ref 53), (1, .int i1), (2, .int i2), (3, .int (i3 + (nI 1)))] [] h4 Q)) ∧ (¬ 0 ≤ i2 → zK d m_X11_leaves_ [.ref 53, .int (i4 / (nI 40)), .int (i4 - i4 / (nI 40) * (nI 40))] h (kV fun h5 => zQ none m_X11_broken (d + 1) 19 [(0, .ref 53), (1, .int i1), (2, .int i4), (3, .int (i3 + (nI 1)))] [] h5 Q))) ∧ (¬ 0 ≤ i4 → (i1 ≠ 0 → (0 ≤ i2 → (i1 ≠ (nI 1) → Q (some (.int (i2 - i2 / (nI 40) * (nI 40)))) h) ∧ (i1 = (nI 1) → Q (some (.int (i2 / (nI 40)))) h)) ∧ (¬ 0 ≤ i2 → Q (some (.int (-5))) h)) ∧ (i1 = 0 → Q (some (.int i3)) h))) ∧ (¬ (nI 1600) ≤ i5 → zK d m_X11_isLeft [.ref 53, .int i5] h (pI h fun x9 => (x9 = 0 → zQ none m_X11_broken (d + 1) 25 [(0, .ref 53), (1, .int i1), (2, .int i2), (3, .int i3), (4, .int i4), (5, .int (i5 + (nI 1)))] [] h Q) ∧ (¬ x9 = 0 → zK d m_X11_supportLeft [.ref 53, .int i5] h (pI h fun x11 => (0 ≤ i4 → zK d m_X11_supportLeft [.ref 53, .int i4] h (pI h fun x13 => (x11 ≤ x13 → zQ none m_X11_broken (d + 1) 25 [(0, .ref 53), (1, .int i1), (2, .int i2), (3, .int i3), (4, .int i4), (5, .int (i5 + (nI 1)))] [] h Q) ∧ (¬ x11 ≤ x13 → zQ none m_X11_broken (d + 1) 25 [(0, .ref 53), (1, .int i1), (2, .int i2), (3, .int i3), (4, .int i5), (5, .int (i5 + (nI 1)))] [] h Q))) ∧ (¬ 0 ≤ i4 → (x11 ≤ (nI 0) → zQ none m_X11_broken (d + 1) 25 [(0, .ref 53), (1, .int i1), (2, .int i2), (3, .int i3), (4, .int i4), (5, .int (i5 + (nI 1)))] [] h Q) ∧ (¬ x11 ≤ (nI 0) → zQ none m_X11_broken (d + 1) 25 [(0, .ref 53), (1, .int i1), (2, .int i2), (3, .int i3), (4, .int i5), (5, .int (i5 + (nI 1)))] [] h Q))))))) : zQ none m_X11_broken (d + 1) 25 [(0, .ref 53), (1, .int i1), (2, .int i2), (3, .int i3), (4, .int i4), (5, .int i5)] [] h Q := by
  refine zq_iload (i := 5) (x := i5) 5 rfl dX11_broken_25 ?_
  refine zq_sipush (v := (nI 1600)) rfl dX11_broken_27 ?_
  refine zq_icmp_ge (tgt := 76) dX11_broken_30 rfl ⟨fun c1 => ?_, fun c1 => ?_⟩
  · have H := H.1 c1
    refine zq_iload (i := 4) (x := i4) 4 rfl dX11_broken_76 ?_
    refine zq_if_ge (tgt := 115) dX11_broken_78 rfl ⟨fun c2 => ?_, fun c2 => ?_⟩
    · have H := H.1 c2
      refine zq_iload_n (k := 2) (i := 2) (x := i2) 2 rfl rfl dX11_broken_115 ?_
      refine zq_if_ge (tgt := 124) dX11_broken_116 rfl ⟨fun c3 => ?_, fun c3 => ?_⟩
      · have H := H.1 c3
        refine zq_iload_n (k := 2) (i := 2) (x := i2) 2 rfl rfl dX11_broken_124 ?_
        refine zq_istore_n (ls' := [(2, .int i2), (0, .ref 53), (1, .int i1), (3, .int i3), (4, .int i4), (5, .int i5)]) (k := 2) (i := 2) rfl (Nat.le_of_ble_eq_true rfl) rfl dX11_broken_125 ?_
        refine zq_aload_n (k := 0) (i := 0) (x := 53) 1 rfl rfl dX11_broken_126 ?_
        refine zq_iload (i := 4) (x := i4) 4 rfl dX11_broken_127 ?_
        refine zq_bipush (v := (nI 40)) rfl dX11_broken_129 ?_
        refine zq_idiv (by decide) dX11_broken_131 ?_
        refine zq_iload (i := 4) (x := i4) 4 rfl dX11_broken_132 ?_
        refine zq_bipush (v := (nI 40)) rfl dX11_broken_134 ?_
        refine zq_irem (by decide) dX11_broken_136 ?_
        refine zq_invV (as := [.int (i4 / (nI 40)), .int (i4 - i4 / (nI 40) * (nI 40))]) (st := []) (o := 53) (c := 10) (by decide) rfl (sh_53 hw) in_X11_leaves_ se_X11_leaves_ mo_X11_leaves_ ml_RX11_183 rfl (Nat.le_of_ble_eq_true rfl) dX11_broken_137 rfl H (fun r1 h4 hq => ?_)
        obtain ⟨rfl, wh4, H⟩ := hq
        show zQ none m_X11_broken (d + 1) 140 [(2, .int i2), (0, .ref 53), (1, .int i1), (3, .int i3), (4, .int i4), (5, .int i5)] ([]) h4 Q
        refine zq_iinc (i := 3) (x := i3) (v := (nI 1)) (ls' := [(3, .int (i3 + (nI 1))), (2, .int i2), (0, .ref 53), (1, .int i1), (4, .int i4), (5, .int i5)]) 3 rfl rfl (Nat.le_of_ble_eq_true rfl) rfl dX11_broken_140 ?_
        refine zq_goto (tgt := 19) dX11_broken_143 rfl ?_
        exact zq_sub (ls' := [(0, .ref 53), (1, .int i1), (2, .int i2), (3, .int (i3 + (nI 1)))]) [2, 3, 1, 0] rfl H
      · have H := H.2 c3
        refine zq_iload (i := 4) (x := i4) 4 rfl dX11_broken_119 ?_
        refine zq_goto (tgt := 125) dX11_broken_121 rfl ?_
        refine zq_istore_n (ls' := [(2, .int i4), (0, .ref 53), (1, .int i1), (3, .int i3), (4, .int i4), (5, .int i5)]) (k := 2) (i := 2) rfl (Nat.le_of_ble_eq_true rfl) rfl dX11_broken_125 ?_
        refine zq_aload_n (k := 0) (i := 0) (x := 53) 1 rfl rfl dX11_broken_126 ?_
        refine zq_iload (i := 4) (x := i4) 4 rfl dX11_broken_127 ?_
        refine zq_bipush (v := (nI 40)) rfl dX11_broken_129 ?_
        refine zq_idiv (by decide) dX11_broken_131 ?_
        refine zq_iload (i := 4) (x := i4) 4 rfl dX11_broken_132 ?_
        refine zq_bipush (v := (nI 40)) rfl dX11_broken_134 ?_
        refine zq_irem (by decide) dX11_broken_136 ?_
        refine zq_invV (as := [.int (i4 / (nI 40)), .int (i4 - i4 / (nI 40) * (nI 40))]) (st := []) (o := 53) (c := 10) (by decide) rfl (sh_53 hw) in_X11_leaves_ se_X11_leaves_ mo_X11_leaves_ ml_RX11_183 rfl (Nat.le_of_ble_eq_true rfl) dX11_broken_137 rfl H (fun r1 h5 hq => ?_)
        obtain ⟨rfl, wh5, H⟩ := hq
        show zQ none m_X11_broken (d + 1) 140 [(2, .int i4), (0, .ref 53), (1, .int i1), (3, .int i3), (4, .int i4), (5, .int i5)] ([]) h5 Q
        refine zq_iinc (i := 3) (x := i3) (v := (nI 1)) (ls' := [(3, .int (i3 + (nI 1))), (2, .int i4), (0, .ref 53), (1, .int i1), (4, .int i4), (5, .int i5)]) 3 rfl rfl (Nat.le_of_ble_eq_true rfl) rfl dX11_broken_140 ?_
        refine zq_goto (tgt := 19) dX11_broken_143 rfl ?_
        exact zq_sub (ls' := [(0, .ref 53), (1, .int i1), (2, .int i4), (3, .int (i3 + (nI 1)))]) [2, 3, 1, 0] rfl H
    · have H := H.2 c2
      refine zq_iload_n (k := 1) (i := 1) (x := i1) 1 rfl rfl dX11_broken_81 ?_
      refine zq_if_ne (tgt := 89) dX11_broken_82 rfl ⟨fun c6 => ?_, fun c6 => ?_⟩
      · have H := H.1 c6
        refine zq_iload_n (k := 2) (i := 2) (x := i2) 2 rfl rfl dX11_broken_89 ?_
        refine zq_if_ge (tgt := 98) dX11_broken_90 rfl ⟨fun c7 => ?_, fun c7 => ?_⟩
        · have H := H.1 c7
          refine zq_iload_n (k := 1) (i := 1) (x := i1) 1 rfl rfl dX11_broken_98 ?_
          refine zq_iconst (v := (nI 1)) rfl dX11_broken_99 ?_
          refine zq_icmp_ne (tgt := 110) dX11_broken_100 rfl ⟨fun c8 => ?_, fun c8 => ?_⟩
          · have H := H.1 c8
            refine zq_iload_n (k := 2) (i := 2) (x := i2) 2 rfl rfl dX11_broken_110 ?_
            refine zq_bipush (v := (nI 40)) rfl dX11_broken_111 ?_
            refine zq_irem (by decide) dX11_broken_113 ?_
            exact zq_iret dX11_broken_114 rfl rfl rfl H
          · have H := H.2 c8
            refine zq_iload_n (k := 2) (i := 2) (x := i2) 2 rfl rfl dX11_broken_103 ?_
            refine zq_bipush (v := (nI 40)) rfl dX11_broken_104 ?_
            refine zq_idiv (by decide) dX11_broken_106 ?_
            refine zq_goto (tgt := 114) dX11_broken_107 rfl ?_
            exact zq_iret dX11_broken_114 rfl rfl rfl H
        · have H := H.2 c7
          refine zq_bipush (v := (-5)) rfl dX11_broken_93 ?_
          refine zq_goto (tgt := 114) dX11_broken_95 rfl ?_
          exact zq_iret dX11_broken_114 rfl rfl rfl H
      · have H := H.2 c6
        refine zq_iload_n (k := 3) (i := 3) (x := i3) 3 rfl rfl dX11_broken_85 ?_
        refine zq_goto (tgt := 114) dX11_broken_86 rfl ?_
        exact zq_iret dX11_broken_114 rfl rfl rfl H
  · have H := H.2 c1
    refine zq_aload_n (k := 0) (i := 0) (x := 53) 0 rfl rfl dX11_broken_33 ?_
    refine zq_iload (i := 5) (x := i5) 5 rfl dX11_broken_34 ?_
    refine zq_invV (as := [.int i5]) (st := []) (o := 53) (c := 10) (by decide) rfl (sh_53 hw) in_X11_isLeft se_X11_isLeft mo_X11_isLeft ml_RX11_177 rfl (Nat.le_of_ble_eq_true rfl) dX11_broken_36 rfl H (fun r1 h1 hq => ?_)
    obtain ⟨x9, rfl, rfl, H⟩ := hq
    show zQ none m_X11_broken (d + 1) 39 [(0, .ref 53), (1, .int i1), (2, .int i2), (3, .int i3), (4, .int i4), (5, .int i5)] (.int x9 :: []) h Q
    refine zq_if_eq (tgt := 70) dX11_broken_39 rfl ⟨fun c10 => ?_, fun c10 => ?_⟩
    · have H := H.1 c10
      refine zq_iinc (i := 5) (x := i5) (v := (nI 1)) (ls' := [(5, .int (i5 + (nI 1))), (0, .ref 53), (1, .int i1), (2, .int i2), (3, .int i3), (4, .int i4)]) 5 rfl rfl (Nat.le_of_ble_eq_true rfl) rfl dX11_broken_70 ?_
      refine zq_goto (tgt := 25) dX11_broken_73 rfl ?_
      exact zq_sub (ls' := [(0, .ref 53), (1, .int i1), (2, .int i2), (3, .int i3), (4, .int i4), (5, .int (i5 + (nI 1)))]) [1, 2, 3, 4, 5, 0] rfl H
    · have H := H.2 c10
      refine zq_aload_n (k := 0) (i := 0) (x := 53) 0 rfl rfl dX11_broken_42 ?_
      refine zq_iload (i := 5) (x := i5) 5 rfl dX11_broken_43 ?_
      refine zq_invV (as := [.int i5]) (st := []) (o := 53) (c := 10) (by decide) rfl (sh_53 hw) in_X11_supportLeft se_X11_supportLeft mo_X11_supportLeft ml_RX11_180 rfl (Nat.le_of_ble_eq_true rfl) dX11_broken_45 rfl H (fun r1 h1 hq => ?_)
      obtain ⟨x11, rfl, rfl, H⟩ := hq
      show zQ none m_X11_broken (d + 1) 48 [(0, .ref 53), (1, .int i1), (2, .int i2), (3, .int i3), (4, .int i4), (5, .int i5)] (.int x11 :: []) h Q
      refine zq_iload (i := 4) (x := i4) 4 rfl dX11_broken_48 ?_
      refine zq_if_ge (tgt := 57) dX11_broken_50 rfl ⟨fun c12 => ?_, fun c12 => ?_⟩
      · have H := H.1 c12
        refine zq_aload_n (k := 0) (i := 0) (x := 53) 0 rfl rfl dX11_broken_57 ?_
        refine zq_iload (i := 4) (x := i4) 4 rfl dX11_broken_58 ?_
        refine zq_invV (as := [.int i4]) (st := .int x11 :: []) (o := 53) (c := 10) (by decide) rfl (sh_53 hw) in_X11_supportLeft se_X11_supportLeft mo_X11_supportLeft ml_RX11_180 rfl (Nat.le_of_ble_eq_true rfl) dX11_broken_60 rfl H (fun r1 h1 hq => ?_)
        obtain ⟨x13, rfl, rfl, H⟩ := hq
        show zQ none m_X11_broken (d + 1) 63 [(0, .ref 53), (1, .int i1), (2, .int i2), (3, .int i3), (4, .int i4), (5, .int i5)] (.int x13 :: .int x11 :: []) h Q
        refine zq_icmp_le (tgt := 70) dX11_broken_63 rfl ⟨fun c14 => ?_, fun c14 => ?_⟩
        · have H := H.1 c14
          refine zq_iinc (i := 5) (x := i5) (v := (nI 1)) (ls' := [(5, .int (i5 + (nI 1))), (0, .ref 53), (1, .int i1), (2, .int i2), (3, .int i3), (4, .int i4)]) 5 rfl rfl (Nat.le_of_ble_eq_true rfl) rfl dX11_broken_70 ?_
          refine zq_goto (tgt := 25) dX11_broken_73 rfl ?_
          exact zq_sub (ls' := [(0, .ref 53), (1, .int i1), (2, .int i2), (3, .int i3), (4, .int i4), (5, .int (i5 + (nI 1)))]) [1, 2, 3, 4, 5, 0] rfl H
        · have H := H.2 c14
          refine zq_iload (i := 5) (x := i5) 5 rfl dX11_broken_66 ?_
          refine zq_istore (ls' := [(4, .int i5), (0, .ref 53), (1, .int i1), (2, .int i2), (3, .int i3), (5, .int i5)]) (i := 4) (Nat.le_of_ble_eq_true rfl) rfl dX11_broken_68 ?_
          refine zq_iinc (i := 5) (x := i5) (v := (nI 1)) (ls' := [(5, .int (i5 + (nI 1))), (4, .int i5), (0, .ref 53), (1, .int i1), (2, .int i2), (3, .int i3)]) 5 rfl rfl (Nat.le_of_ble_eq_true rfl) rfl dX11_broken_70 ?_
          refine zq_goto (tgt := 25) dX11_broken_73 rfl ?_
          exact zq_sub (ls' := [(0, .ref 53), (1, .int i1), (2, .int i2), (3, .int i3), (4, .int i5), (5, .int (i5 + (nI 1)))]) [2, 3, 4, 5, 1, 0] rfl H
      · have H := H.2 c12
        refine zq_iconst (v := (nI 0)) rfl dX11_broken_53 ?_
        refine zq_goto (tgt := 63) dX11_broken_54 rfl ?_
        refine zq_icmp_le (tgt := 70) dX11_broken_63 rfl ⟨fun c15 => ?_, fun c15 => ?_⟩
        · have H := H.1 c15
          refine zq_iinc (i := 5) (x := i5) (v := (nI 1)) (ls' := [(5, .int (i5 + (nI 1))), (0, .ref 53), (1, .int i1), (2, .int i2), (3, .int i3), (4, .int i4)]) 5 rfl rfl (Nat.le_of_ble_eq_true rfl) rfl dX11_broken_70 ?_
          refine zq_goto (tgt := 25) dX11_broken_73 rfl ?_
          exact zq_sub (ls' := [(0, .ref 53), (1, .int i1), (2, .int i2), (3, .int i3), (4, .int i4), (5, .int (i5 + (nI 1)))]) [1, 2, 3, 4, 5, 0] rfl H
        · have H := H.2 c15
          refine zq_iload (i := 5) (x := i5) 5 rfl dX11_broken_66 ?_
          refine zq_istore (ls' := [(4, .int i5), (0, .ref 53), (1, .int i1), (2, .int i2), (3, .int i3), (5, .int i5)]) (i := 4) (Nat.le_of_ble_eq_true rfl) rfl dX11_broken_68 ?_
          refine zq_iinc (i := 5) (x := i5) (v := (nI 1)) (ls' := [(5, .int (i5 + (nI 1))), (4, .int i5), (0, .ref 53), (1, .int i1), (2, .int i2), (3, .int i3)]) 5 rfl rfl (Nat.le_of_ble_eq_true rfl) rfl dX11_broken_70 ?_
          refine zq_goto (tgt := 25) dX11_broken_73 rfl ?_
          exact zq_sub (ls' := [(0, .ref 53), (1, .int i1), (2, .int i2), (3, .int i3), (4, .int i5), (5, .int (i5 + (nI 1)))]) [2, 3, 4, 5, 1, 0] rfl H
set_option maxHeartbeats 2000000 in
set_option maxRecDepth 20000 in
theorem r_X11_isEnough_0 {d : Nat} {h : AH} {Q : Option Value → AH → Prop} (i1 : Int32) (hw : zWF h)  (H : zQ none m_X11_isEnough (d + 1) 2 [(0, .ref 53), (1, .int i1), (2, .int (nI 0))] [] h Q) : zK (d + 1) m_X11_isEnough [.ref 53, .int i1] h Q := by
  refine zK_of mo_X11_isEnough (Nat.le_of_ble_eq_true rfl) ?_
  show zQ none m_X11_isEnough (d + 1) 0 [(0, .ref 53), (1, .int i1)] [] h Q
  refine zq_iconst (v := (nI 0)) rfl dX11_isEnough_0 ?_
  refine zq_istore_n (ls' := [(2, .int (nI 0)), (0, .ref 53), (1, .int i1)]) (k := 2) (i := 2) rfl (Nat.le_of_ble_eq_true rfl) rfl dX11_isEnough_1 ?_
  exact zq_sub (ls' := [(0, .ref 53), (1, .int i1), (2, .int (nI 0))]) [1, 2, 0] rfl H
set_option maxHeartbeats 2000000 in
set_option maxRecDepth 20000 in
theorem r_X11_isEnough_2 {d : Nat} {h : AH} {Q : Option Value → AH → Prop} (i1 : Int32) (i2 : Int32) (hw : zWF h)  (H : ((nI 40) ≤ i2 → Q (some (.int (nI 1))) h) ∧ (¬ (nI 40) ≤ i2 → zQ none m_X11_isEnough (d + 1) 12 [(0, .ref 53), (1, .int i1), (2, .int i2), (3, .int (i2 + (nI 1)))] [] h Q)) : zQ none m_X11_isEnough (d + 1) 2 [(0, .ref 53), (1, .int i1), (2, .int i2)] [] h Q := by
  refine zq_iload_n (k := 2) (i := 2) (x := i2) 2 rfl rfl dX11_isEnough_2 ?_
  refine zq_bipush (v := (nI 40)) rfl dX11_isEnough_3 ?_
  refine zq_icmp_ge (tgt := 144) dX11_isEnough_5 rfl ⟨fun c1 => ?_, fun c1 => ?_⟩
  · have H := H.1 c1
    refine zq_iconst (v := (nI 1)) rfl dX11_isEnough_144 ?_
    exact zq_iret dX11_isEnough_145 rfl rfl rfl H
  · have H := H.2 c1
    refine zq_iload_n (k := 2) (i := 2) (x := i2) 2 rfl rfl dX11_isEnough_8 ?_
    refine zq_iconst (v := (nI 1)) rfl dX11_isEnough_9 ?_
    refine zq_iadd dX11_isEnough_10 ?_
    refine zq_istore_n (ls' := [(3, .int (i2 + (nI 1))), (0, .ref 53), (1, .int i1), (2, .int i2)]) (k := 3) (i := 3) rfl (Nat.le_of_ble_eq_true rfl) rfl dX11_isEnough_11 ?_
    exact zq_sub (ls' := [(0, .ref 53), (1, .int i1), (2, .int i2), (3, .int (i2 + (nI 1)))]) [1, 2, 3, 0] rfl H
set_option maxHeartbeats 2000000 in
set_option maxRecDepth 20000 in
theorem r_X11_isEnough_12 {d : Nat} {h : AH} {Q : Option Value → AH → Prop} (i1 : Int32) (i2 : Int32) (i3 : Int32) (hw : zWF h)  (H : ((nI 40) ≤ i3 → zQ none m_X11_isEnough (d + 1) 2 [(0, .ref 53), (1, .int i1), (2, .int (i2 + (nI 1)))] [] h Q) ∧ (¬ (nI 40) ≤ i3 → vp_in i2 40 ∧ (zK d m_X11_has [.long (h.L 61 i2.toNatClampNeg), .int i3] h (pI h fun x3 => (x3 = 0 → zQ none m_X11_isEnough (d + 1) 12 [(0, .ref 53), (1, .int i1), (2, .int i2), (3, .int (i3 + (nI 1)))] [] h Q) ∧ (¬ x3 = 0 → vp_in i2 40 ∧ (vp_in i3 40 ∧ (((lg_cmp ((h.L 61 i2.toNatClampNeg) &&& (h.L 61 i3.toNatClampNeg)) (0 : Int64)) ≠ 0 → (i1 ≠ 0 → zQ none m_X11_isEnough (d + 1) 61 [(0, .ref 53), (1, .int i1), (2, .int i2), (3, .int i3), (4, .int (nI 0))] [] h Q) ∧ (i1 = 0 → Q (some (.int (nI 0))) h)) ∧ ((lg_cmp ((h.L 61 i2.toNatClampNeg) &&& (h.L 61 i3.toNatClampNeg)) (0 : Int64)) = 0 → zQ none m_X11_isEnough (d + 1) 12 [(0, .ref 53), (1, .int i1), (2, .int i2), (3, .int (i3 + (nI 1)))] [] h Q)))))))) : zQ none m_X11_isEnough (d + 1) 12 [(0, .ref 53), (1, .int i1), (2, .int i2), (3, .int i3)] [] h Q := by
  refine zq_iload_n (k := 3) (i := 3) (x := i3) 3 rfl rfl dX11_isEnough_12 ?_
  refine zq_bipush (v := (nI 40)) rfl dX11_isEnough_13 ?_
  refine zq_icmp_ge (tgt := 138) dX11_isEnough_15 rfl ⟨fun c1 => ?_, fun c1 => ?_⟩
  · have H := H.1 c1
    refine zq_iinc (i := 2) (x := i2) (v := (nI 1)) (ls' := [(2, .int (i2 + (nI 1))), (0, .ref 53), (1, .int i1), (3, .int i3)]) 2 rfl rfl (Nat.le_of_ble_eq_true rfl) rfl dX11_isEnough_138 ?_
    refine zq_goto (tgt := 2) dX11_isEnough_141 rfl ?_
    exact zq_sub (ls' := [(0, .ref 53), (1, .int i1), (2, .int (i2 + (nI 1)))]) [1, 2, 0] rfl H
  · have H := H.2 c1
    refine zq_aload_n (k := 0) (i := 0) (x := 53) 0 rfl rfl dX11_isEnough_18 ?_
    refine zq_getP fl_RX11_34 rfl (sh_53 hw) (rf_53_12 hw) dX11_isEnough_19 ?_
    refine zq_iload_n (k := 2) (i := 2) (x := i2) 2 rfl rfl dX11_isEnough_22 ?_
    obtain ⟨b2, H⟩ := H
    refine zq_lald (sh_61 hw) b2 dX11_isEnough_23 ?_
    refine zq_iload_n (k := 3) (i := 3) (x := i3) 3 rfl rfl dX11_isEnough_24 ?_
    refine zq_invS (as := [.long (h.L 61 i2.toNatClampNeg), .int i3]) (st := []) st_X11_has mo_X11_has ml_RX11_72 rfl (Nat.le_of_ble_eq_true rfl) dX11_isEnough_25 rfl H (fun r1 h1 hq => ?_)
    obtain ⟨x3, rfl, rfl, H⟩ := hq
    show zQ none m_X11_isEnough (d + 1) 28 [(0, .ref 53), (1, .int i1), (2, .int i2), (3, .int i3)] (.int x3 :: []) h Q
    refine zq_if_eq (tgt := 132) dX11_isEnough_28 rfl ⟨fun c4 => ?_, fun c4 => ?_⟩
    · have H := H.1 c4
      refine zq_iinc (i := 3) (x := i3) (v := (nI 1)) (ls' := [(3, .int (i3 + (nI 1))), (0, .ref 53), (1, .int i1), (2, .int i2)]) 3 rfl rfl (Nat.le_of_ble_eq_true rfl) rfl dX11_isEnough_132 ?_
      refine zq_goto (tgt := 12) dX11_isEnough_135 rfl ?_
      exact zq_sub (ls' := [(0, .ref 53), (1, .int i1), (2, .int i2), (3, .int (i3 + (nI 1)))]) [1, 2, 3, 0] rfl H
    · have H := H.2 c4
      refine zq_aload_n (k := 0) (i := 0) (x := 53) 0 rfl rfl dX11_isEnough_31 ?_
      refine zq_getP fl_RX11_34 rfl (sh_53 hw) (rf_53_12 hw) dX11_isEnough_32 ?_
      refine zq_iload_n (k := 2) (i := 2) (x := i2) 2 rfl rfl dX11_isEnough_35 ?_
      obtain ⟨b5, H⟩ := H
      refine zq_lald (sh_61 hw) b5 dX11_isEnough_36 ?_
      refine zq_aload_n (k := 0) (i := 0) (x := 53) 0 rfl rfl dX11_isEnough_37 ?_
      refine zq_getP fl_RX11_34 rfl (sh_53 hw) (rf_53_12 hw) dX11_isEnough_38 ?_
      refine zq_iload_n (k := 3) (i := 3) (x := i3) 3 rfl rfl dX11_isEnough_41 ?_
      obtain ⟨b6, H⟩ := H
      refine zq_lald (sh_61 hw) b6 dX11_isEnough_42 ?_
      refine zq_land dX11_isEnough_43 ?_
      refine zq_lconst (v := 0) rfl dX11_isEnough_44 ?_
      refine zq_lcmp dX11_isEnough_45 ?_
      refine zq_if_ne (tgt := 52) dX11_isEnough_46 rfl ⟨fun c7 => ?_, fun c7 => ?_⟩
      · have H := H.1 c7
        refine zq_iload_n (k := 1) (i := 1) (x := i1) 1 rfl rfl dX11_isEnough_52 ?_
        refine zq_if_ne (tgt := 58) dX11_isEnough_53 rfl ⟨fun c8 => ?_, fun c8 => ?_⟩
        · have H := H.1 c8
          refine zq_iconst (v := (nI 0)) rfl dX11_isEnough_58 ?_
          refine zq_istore (ls' := [(4, .int (nI 0)), (0, .ref 53), (1, .int i1), (2, .int i2), (3, .int i3)]) (i := 4) (Nat.le_of_ble_eq_true rfl) rfl dX11_isEnough_59 ?_
          exact zq_sub (ls' := [(0, .ref 53), (1, .int i1), (2, .int i2), (3, .int i3), (4, .int (nI 0))]) [1, 2, 3, 4, 0] rfl H
        · have H := H.2 c8
          refine zq_iconst (v := (nI 0)) rfl dX11_isEnough_56 ?_
          exact zq_iret dX11_isEnough_57 rfl rfl rfl H
      · have H := H.2 c7
        refine zq_goto (tgt := 132) dX11_isEnough_49 rfl ?_
        refine zq_iinc (i := 3) (x := i3) (v := (nI 1)) (ls' := [(3, .int (i3 + (nI 1))), (0, .ref 53), (1, .int i1), (2, .int i2)]) 3 rfl rfl (Nat.le_of_ble_eq_true rfl) rfl dX11_isEnough_132 ?_
        refine zq_goto (tgt := 12) dX11_isEnough_135 rfl ?_
        exact zq_sub (ls' := [(0, .ref 53), (1, .int i1), (2, .int i2), (3, .int (i3 + (nI 1)))]) [1, 2, 3, 0] rfl H
set_option maxHeartbeats 2000000 in
set_option maxRecDepth 20000 in
theorem r_X11_isEnough_61 {d : Nat} {h : AH} {Q : Option Value → AH → Prop} (i1 : Int32) (i2 : Int32) (i3 : Int32) (i4 : Int32) (hw : zWF h)  (H : vp_in i2 40 ∧ (vp_in i3 40 ∧ (zK d m_X11_has [.long ((h.L 61 i2.toNatClampNeg) &&& (h.L 61 i3.toNatClampNeg)), .int i4] h (pI h fun x3 => (x3 ≠ 0 → zK d m_X11_isEnoughWithout [.ref 53, .int i2, .int i3, .int (i1 - (nI 1))] h (pI h fun x5 => (x5 ≠ 0 → Q (some (.int (nI 1))) h) ∧ (x5 = 0 → zK d m_X11_isEnoughWithout [.ref 53, .int i2, .int i4, .int (i1 - (nI 1))] h (pI h fun x7 => (x7 ≠ 0 → Q (some (.int (nI 1))) h) ∧ (x7 = 0 → zK d m_X11_isEnoughWithout [.ref 53, .int i3, .int i4, .int (i1 - (nI 1))] h (pI h fun x9 => (x9 = 0 → Q (some (.int (nI 0))) h) ∧ (¬ x9 = 0 → Q (some (.int (nI 1))) h))))))) ∧ (x3 = 0 → zQ none m_X11_isEnough (d + 1) 61 [(0, .ref 53), (1, .int i1), (2, .int i2), (3, .int i3), (4, .int (i4 + (nI 1)))] [] h Q))))) : zQ none m_X11_isEnough (d + 1) 61 [(0, .ref 53), (1, .int i1), (2, .int i2), (3, .int i3), (4, .int i4)] [] h Q := by
  refine zq_aload_n (k := 0) (i := 0) (x := 53) 0 rfl rfl dX11_isEnough_61 ?_
  refine zq_getP fl_RX11_34 rfl (sh_53 hw) (rf_53_12 hw) dX11_isEnough_62 ?_
  refine zq_iload_n (k := 2) (i := 2) (x := i2) 2 rfl rfl dX11_isEnough_65 ?_
  obtain ⟨b1, H⟩ := H
  refine zq_lald (sh_61 hw) b1 dX11_isEnough_66 ?_
  refine zq_aload_n (k := 0) (i := 0) (x := 53) 0 rfl rfl dX11_isEnough_67 ?_
  refine zq_getP fl_RX11_34 rfl (sh_53 hw) (rf_53_12 hw) dX11_isEnough_68 ?_
  refine zq_iload_n (k := 3) (i := 3) (x := i3) 3 rfl rfl dX11_isEnough_71 ?_
  obtain ⟨b2, H⟩ := H
  refine zq_lald (sh_61 hw) b2 dX11_isEnough_72 ?_
  refine zq_land dX11_isEnough_73 ?_
  refine zq_iload (i := 4) (x := i4) 4 rfl dX11_isEnough_74 ?_
  refine zq_invS (as := [.long ((h.L 61 i2.toNatClampNeg) &&& (h.L 61 i3.toNatClampNeg)), .int i4]) (st := []) st_X11_has mo_X11_has ml_RX11_72 rfl (Nat.le_of_ble_eq_true rfl) dX11_isEnough_76 rfl H (fun r1 h1 hq => ?_)
  obtain ⟨x3, rfl, rfl, H⟩ := hq
  show zQ none m_X11_isEnough (d + 1) 79 [(0, .ref 53), (1, .int i1), (2, .int i2), (3, .int i3), (4, .int i4)] (.int x3 :: []) h Q
  refine zq_if_ne (tgt := 88) dX11_isEnough_79 rfl ⟨fun c4 => ?_, fun c4 => ?_⟩
  · have H := H.1 c4
    refine zq_aload_n (k := 0) (i := 0) (x := 53) 0 rfl rfl dX11_isEnough_88 ?_
    refine zq_iload_n (k := 2) (i := 2) (x := i2) 2 rfl rfl dX11_isEnough_89 ?_
    refine zq_iload_n (k := 3) (i := 3) (x := i3) 3 rfl rfl dX11_isEnough_90 ?_
    refine zq_iload_n (k := 1) (i := 1) (x := i1) 1 rfl rfl dX11_isEnough_91 ?_
    refine zq_iconst (v := (nI 1)) rfl dX11_isEnough_92 ?_
    refine zq_isub dX11_isEnough_93 ?_
    refine zq_invV (as := [.int i2, .int i3, .int (i1 - (nI 1))]) (st := []) (o := 53) (c := 10) (by decide) rfl (sh_53 hw) in_X11_isEnoughWithout se_X11_isEnoughWithout mo_X11_isEnoughWithout ml_RX11_217 rfl (Nat.le_of_ble_eq_true rfl) dX11_isEnough_94 rfl H (fun r1 h1 hq => ?_)
    obtain ⟨x5, rfl, rfl, H⟩ := hq
    show zQ none m_X11_isEnough (d + 1) 97 [(0, .ref 53), (1, .int i1), (2, .int i2), (3, .int i3), (4, .int i4)] (.int x5 :: []) h Q
    refine zq_if_ne (tgt := 126) dX11_isEnough_97 rfl ⟨fun c6 => ?_, fun c6 => ?_⟩
    · have H := H.1 c6
      refine zq_iconst (v := (nI 1)) rfl dX11_isEnough_126 ?_
      refine zq_goto (tgt := 131) dX11_isEnough_127 rfl ?_
      exact zq_iret dX11_isEnough_131 rfl rfl rfl H
    · have H := H.2 c6
      refine zq_aload_n (k := 0) (i := 0) (x := 53) 0 rfl rfl dX11_isEnough_100 ?_
      refine zq_iload_n (k := 2) (i := 2) (x := i2) 2 rfl rfl dX11_isEnough_101 ?_
      refine zq_iload (i := 4) (x := i4) 4 rfl dX11_isEnough_102 ?_
      refine zq_iload_n (k := 1) (i := 1) (x := i1) 1 rfl rfl dX11_isEnough_104 ?_
      refine zq_iconst (v := (nI 1)) rfl dX11_isEnough_105 ?_
      refine zq_isub dX11_isEnough_106 ?_
      refine zq_invV (as := [.int i2, .int i4, .int (i1 - (nI 1))]) (st := []) (o := 53) (c := 10) (by decide) rfl (sh_53 hw) in_X11_isEnoughWithout se_X11_isEnoughWithout mo_X11_isEnoughWithout ml_RX11_217 rfl (Nat.le_of_ble_eq_true rfl) dX11_isEnough_107 rfl H (fun r1 h1 hq => ?_)
      obtain ⟨x7, rfl, rfl, H⟩ := hq
      show zQ none m_X11_isEnough (d + 1) 110 [(0, .ref 53), (1, .int i1), (2, .int i2), (3, .int i3), (4, .int i4)] (.int x7 :: []) h Q
      refine zq_if_ne (tgt := 126) dX11_isEnough_110 rfl ⟨fun c8 => ?_, fun c8 => ?_⟩
      · have H := H.1 c8
        refine zq_iconst (v := (nI 1)) rfl dX11_isEnough_126 ?_
        refine zq_goto (tgt := 131) dX11_isEnough_127 rfl ?_
        exact zq_iret dX11_isEnough_131 rfl rfl rfl H
      · have H := H.2 c8
        refine zq_aload_n (k := 0) (i := 0) (x := 53) 0 rfl rfl dX11_isEnough_113 ?_
        refine zq_iload_n (k := 3) (i := 3) (x := i3) 3 rfl rfl dX11_isEnough_114 ?_
        refine zq_iload (i := 4) (x := i4) 4 rfl dX11_isEnough_115 ?_
        refine zq_iload_n (k := 1) (i := 1) (x := i1) 1 rfl rfl dX11_isEnough_117 ?_
        refine zq_iconst (v := (nI 1)) rfl dX11_isEnough_118 ?_
        refine zq_isub dX11_isEnough_119 ?_
        refine zq_invV (as := [.int i3, .int i4, .int (i1 - (nI 1))]) (st := []) (o := 53) (c := 10) (by decide) rfl (sh_53 hw) in_X11_isEnoughWithout se_X11_isEnoughWithout mo_X11_isEnoughWithout ml_RX11_217 rfl (Nat.le_of_ble_eq_true rfl) dX11_isEnough_120 rfl H (fun r1 h1 hq => ?_)
        obtain ⟨x9, rfl, rfl, H⟩ := hq
        show zQ none m_X11_isEnough (d + 1) 123 [(0, .ref 53), (1, .int i1), (2, .int i2), (3, .int i3), (4, .int i4)] (.int x9 :: []) h Q
        refine zq_if_eq (tgt := 130) dX11_isEnough_123 rfl ⟨fun c10 => ?_, fun c10 => ?_⟩
        · have H := H.1 c10
          refine zq_iconst (v := (nI 0)) rfl dX11_isEnough_130 ?_
          exact zq_iret dX11_isEnough_131 rfl rfl rfl H
        · have H := H.2 c10
          refine zq_iconst (v := (nI 1)) rfl dX11_isEnough_126 ?_
          refine zq_goto (tgt := 131) dX11_isEnough_127 rfl ?_
          exact zq_iret dX11_isEnough_131 rfl rfl rfl H
  · have H := H.2 c4
    refine zq_iinc (i := 4) (x := i4) (v := (nI 1)) (ls' := [(4, .int (i4 + (nI 1))), (0, .ref 53), (1, .int i1), (2, .int i2), (3, .int i3)]) 4 rfl rfl (Nat.le_of_ble_eq_true rfl) rfl dX11_isEnough_82 ?_
    refine zq_goto (tgt := 61) dX11_isEnough_85 rfl ?_
    exact zq_sub (ls' := [(0, .ref 53), (1, .int i1), (2, .int i2), (3, .int i3), (4, .int (i4 + (nI 1)))]) [1, 2, 3, 4, 0] rfl H
set_option maxHeartbeats 2000000 in
set_option maxRecDepth 20000 in
theorem r_X11_isEnoughWithout_0 {d : Nat} {h : AH} {Q : Option Value → AH → Prop} (i1 : Int32) (i2 : Int32) (i3 : Int32) (hw : zWF h)  (H : zK d m_X11_leaves_ [.ref 53, .int i1, .int i2] h (kV fun h1 => zK d m_X11_isEnough [.ref 53, .int i3] h1 (pI h1 fun x2 => vp_in i1 40 ∧ (vp_in i1 40 ∧ (∀ h5, h5 = h1.sL 61 i1.toNatClampNeg ((h1.L 61 i1.toNatClampNeg) ||| ((1 : Int64) <<< (i2.toInt64 &&& 63))) → vp_in i2 40 ∧ (vp_in i2 40 ∧ (∀ h8, h8 = h5.sL 61 i2.toNatClampNeg ((h5.L 61 i2.toNatClampNeg) ||| ((1 : Int64) <<< (i1.toInt64 &&& 63))) → (x2 = 0 ∨ x2 = 1) ∧ Q (some (.int x2)) h8))))))) : zK (d + 1) m_X11_isEnoughWithout [.ref 53, .int i1, .int i2, .int i3] h Q := by
  refine zK_of mo_X11_isEnoughWithout (Nat.le_of_ble_eq_true rfl) ?_
  show zQ none m_X11_isEnoughWithout (d + 1) 0 [(0, .ref 53), (1, .int i1), (2, .int i2), (3, .int i3)] [] h Q
  refine zq_aload_n (k := 0) (i := 0) (x := 53) 0 rfl rfl dX11_isEnoughWithout_0 ?_
  refine zq_iload_n (k := 1) (i := 1) (x := i1) 1 rfl rfl dX11_isEnoughWithout_1 ?_
  refine zq_iload_n (k := 2) (i := 2) (x := i2) 2 rfl rfl dX11_isEnoughWithout_2 ?_
  refine zq_invV (as := [.int i1, .int i2]) (st := []) (o := 53) (c := 10) (by decide) rfl (sh_53 hw) in_X11_leaves_ se_X11_leaves_ mo_X11_leaves_ ml_RX11_183 rfl (Nat.le_of_ble_eq_true rfl) dX11_isEnoughWithout_3 rfl H (fun r1 h1 hq => ?_)
  obtain ⟨rfl, wh1, H⟩ := hq
  show zQ none m_X11_isEnoughWithout (d + 1) 6 [(0, .ref 53), (1, .int i1), (2, .int i2), (3, .int i3)] ([]) h1 Q
  refine zq_aload_n (k := 0) (i := 0) (x := 53) 0 rfl rfl dX11_isEnoughWithout_6 ?_
  refine zq_iload_n (k := 3) (i := 3) (x := i3) 3 rfl rfl dX11_isEnoughWithout_7 ?_
  refine zq_invV (as := [.int i3]) (st := []) (o := 53) (c := 10) (by decide) rfl (sh_53 wh1) in_X11_isEnough se_X11_isEnough mo_X11_isEnough ml_RX11_220 rfl (Nat.le_of_ble_eq_true rfl) dX11_isEnoughWithout_8 rfl H (fun r1 h1 hq => ?_)
  obtain ⟨x2, rfl, rfl, H⟩ := hq
  show zQ none m_X11_isEnoughWithout (d + 1) 11 [(0, .ref 53), (1, .int i1), (2, .int i2), (3, .int i3)] (.int x2 :: []) h1 Q
  refine zq_istore (ls' := [(4, .int x2), (0, .ref 53), (1, .int i1), (2, .int i2), (3, .int i3)]) (i := 4) (Nat.le_of_ble_eq_true rfl) rfl dX11_isEnoughWithout_11 ?_
  refine zq_aload_n (k := 0) (i := 0) (x := 53) 1 rfl rfl dX11_isEnoughWithout_13 ?_
  refine zq_getP fl_RX11_34 rfl (sh_53 wh1) (rf_53_12 wh1) dX11_isEnoughWithout_14 ?_
  refine zq_iload_n (k := 1) (i := 1) (x := i1) 2 rfl rfl dX11_isEnoughWithout_17 ?_
  refine zq_dup2 rfl rfl dX11_isEnoughWithout_18 ?_
  obtain ⟨b3, H⟩ := H
  refine zq_lald (sh_61 wh1) b3 dX11_isEnoughWithout_19 ?_
  refine zq_lconst (v := 1) rfl dX11_isEnoughWithout_20 ?_
  refine zq_iload_n (k := 2) (i := 2) (x := i2) 3 rfl rfl dX11_isEnoughWithout_21 ?_
  refine zq_lshl dX11_isEnoughWithout_22 ?_
  refine zq_lor dX11_isEnoughWithout_23 ?_
  obtain ⟨b4, H⟩ := H
  refine zq_last (sh_61 wh1) b4 dX11_isEnoughWithout_24 (fun h5 eh5 => ?_)
  have H := H h5 eh5
  have wh5 := wf_L eh5 wh1
  refine zq_aload_n (k := 0) (i := 0) (x := 53) 1 rfl rfl dX11_isEnoughWithout_25 ?_
  refine zq_getP fl_RX11_34 rfl (sh_53 wh5) (rf_53_12 wh5) dX11_isEnoughWithout_26 ?_
  refine zq_iload_n (k := 2) (i := 2) (x := i2) 3 rfl rfl dX11_isEnoughWithout_29 ?_
  refine zq_dup2 rfl rfl dX11_isEnoughWithout_30 ?_
  obtain ⟨b6, H⟩ := H
  refine zq_lald (sh_61 wh5) b6 dX11_isEnoughWithout_31 ?_
  refine zq_lconst (v := 1) rfl dX11_isEnoughWithout_32 ?_
  refine zq_iload_n (k := 1) (i := 1) (x := i1) 2 rfl rfl dX11_isEnoughWithout_33 ?_
  refine zq_lshl dX11_isEnoughWithout_34 ?_
  refine zq_lor dX11_isEnoughWithout_35 ?_
  obtain ⟨b7, H⟩ := H
  refine zq_last (sh_61 wh5) b7 dX11_isEnoughWithout_36 (fun h8 eh8 => ?_)
  have H := H h8 eh8
  have wh8 := wf_L eh8 wh5
  refine zq_iload (i := 4) (x := x2) 0 rfl dX11_isEnoughWithout_37 ?_
  obtain ⟨z9, H⟩ := H
  exact zq_iret dX11_isEnoughWithout_39 rfl rfl (zbool z9) H
set_option maxHeartbeats 2000000 in
set_option maxRecDepth 20000 in
theorem r_X11_fewest_0 {d : Nat} {h : AH} {Q : Option Value → AH → Prop}  (hw : zWF h)  (H : zK d m_X11_leaves [.ref 53] h (kV fun h1 => zQ none m_X11_fewest (d + 1) 6 [(0, .ref 53), (1, .int (nI 0))] [] h1 Q)) : zK (d + 1) m_X11_fewest [.ref 53] h Q := by
  refine zK_of mo_X11_fewest (Nat.le_of_ble_eq_true rfl) ?_
  show zQ none m_X11_fewest (d + 1) 0 [(0, .ref 53)] [] h Q
  refine zq_aload_n (k := 0) (i := 0) (x := 53) 0 rfl rfl dX11_fewest_0 ?_
  refine zq_invV (as := []) (st := []) (o := 53) (c := 10) (by decide) rfl (sh_53 hw) in_X11_leaves se_X11_leaves mo_X11_leaves ml_RX11_170 rfl (Nat.le_of_ble_eq_true rfl) dX11_fewest_1 rfl H (fun r1 h1 hq => ?_)
  obtain ⟨rfl, wh1, H⟩ := hq
  show zQ none m_X11_fewest (d + 1) 4 [(0, .ref 53)] ([]) h1 Q
  refine zq_iconst (v := (nI 0)) rfl dX11_fewest_4 ?_
  refine zq_istore_n (ls' := [(1, .int (nI 0)), (0, .ref 53)]) (k := 1) (i := 1) rfl (Nat.le_of_ble_eq_true rfl) rfl dX11_fewest_5 ?_
  exact zq_sub (ls' := [(0, .ref 53), (1, .int (nI 0))]) [1, 0] rfl H
set_option maxHeartbeats 2000000 in
set_option maxRecDepth 20000 in
theorem r_X11_fewest_6 {d : Nat} {h : AH} {Q : Option Value → AH → Prop} (i1 : Int32) (hw : zWF h)  (H : ((nI 5) ≤ i1 → Q (some (.int (-5))) h) ∧ (¬ (nI 5) ≤ i1 → zK d m_X11_isEnough [.ref 53, .int i1] h (pI h fun x2 => (x2 = 0 → zQ none m_X11_fewest (d + 1) 6 [(0, .ref 53), (1, .int (i1 + (nI 1)))] [] h Q) ∧ (¬ x2 = 0 → Q (some (.int i1)) h)))) : zQ none m_X11_fewest (d + 1) 6 [(0, .ref 53), (1, .int i1)] [] h Q := by
  refine zq_iload_n (k := 1) (i := 1) (x := i1) 1 rfl rfl dX11_fewest_6 ?_
  refine zq_iconst (v := (nI 5)) rfl dX11_fewest_7 ?_
  refine zq_icmp_ge (tgt := 27) dX11_fewest_8 rfl ⟨fun c1 => ?_, fun c1 => ?_⟩
  · have H := H.1 c1
    refine zq_bipush (v := (-5)) rfl dX11_fewest_27 ?_
    exact zq_iret dX11_fewest_29 rfl rfl rfl H
  · have H := H.2 c1
    refine zq_aload_n (k := 0) (i := 0) (x := 53) 0 rfl rfl dX11_fewest_11 ?_
    refine zq_iload_n (k := 1) (i := 1) (x := i1) 1 rfl rfl dX11_fewest_12 ?_
    refine zq_invV (as := [.int i1]) (st := []) (o := 53) (c := 10) (by decide) rfl (sh_53 hw) in_X11_isEnough se_X11_isEnough mo_X11_isEnough ml_RX11_220 rfl (Nat.le_of_ble_eq_true rfl) dX11_fewest_13 rfl H (fun r1 h1 hq => ?_)
    obtain ⟨x2, rfl, rfl, H⟩ := hq
    show zQ none m_X11_fewest (d + 1) 16 [(0, .ref 53), (1, .int i1)] (.int x2 :: []) h Q
    refine zq_if_eq (tgt := 21) dX11_fewest_16 rfl ⟨fun c3 => ?_, fun c3 => ?_⟩
    · have H := H.1 c3
      refine zq_iinc (i := 1) (x := i1) (v := (nI 1)) (ls' := [(1, .int (i1 + (nI 1))), (0, .ref 53)]) 1 rfl rfl (Nat.le_of_ble_eq_true rfl) rfl dX11_fewest_21 ?_
      refine zq_goto (tgt := 6) dX11_fewest_24 rfl ?_
      exact zq_sub (ls' := [(0, .ref 53), (1, .int (i1 + (nI 1)))]) [1, 0] rfl H
    · have H := H.2 c3
      refine zq_iload_n (k := 1) (i := 1) (x := i1) 1 rfl rfl dX11_fewest_19 ?_
      exact zq_iret dX11_fewest_20 rfl rfl rfl H
set_option maxHeartbeats 2000000 in
set_option maxRecDepth 20000 in
theorem r_X11_feed_0 {d : Nat} {h : AH} {Q : Option Value → AH → Prop} (i1 : Int32) (hw : zWF h)  (H : zK d m_X11_isIn [.int i1, .int (nI 1), .int (nI 127)] h (pI h fun x1 => (x1 ≠ 0 → ((h.I 53 19) ≠ (nI 160) → vp_in (h.I 53 19) 160 ∧ (∀ h5, h5 = h.sI 66 (h.I 53 19).toNatClampNeg i1 → ∀ h6, h6 = h5.sI 53 19 ((h5.I 53 19) + (nI 1)) → Q (some (.int (h6.I 53 19))) h6)) ∧ ((h.I 53 19) = (nI 160) → Q (some (.int (-4))) h)) ∧ (x1 = 0 → Q (some (.int (-2))) h))) : zK (d + 1) m_X11_feed [.ref 53, .int i1] h Q := by
  refine zK_of mo_X11_feed (Nat.le_of_ble_eq_true rfl) ?_
  show zQ none m_X11_feed (d + 1) 0 [(0, .ref 53), (1, .int i1)] [] h Q
  refine zq_iload_n (k := 1) (i := 1) (x := i1) 1 rfl rfl dX11_feed_0 ?_
  refine zq_iconst (v := (nI 1)) rfl dX11_feed_1 ?_
  refine zq_bipush (v := (nI 127)) rfl dX11_feed_2 ?_
  refine zq_invS (as := [.int i1, .int (nI 1), .int (nI 127)]) (st := []) st_X11_isIn mo_X11_isIn ml_RX11_64 rfl (Nat.le_of_ble_eq_true rfl) dX11_feed_4 rfl H (fun r1 h1 hq => ?_)
  obtain ⟨x1, rfl, rfl, H⟩ := hq
  show zQ none m_X11_feed (d + 1) 7 [(0, .ref 53), (1, .int i1)] (.int x1 :: []) h Q
  refine zq_if_ne (tgt := 13) dX11_feed_7 rfl ⟨fun c2 => ?_, fun c2 => ?_⟩
  · have H := H.1 c2
    refine zq_aload_n (k := 0) (i := 0) (x := 53) 0 rfl rfl dX11_feed_13 ?_
    refine zq_getI fl_RX11_223 rfl (sh_53 hw) dX11_feed_14 ?_
    refine zq_sipush (v := (nI 160)) rfl dX11_feed_17 ?_
    refine zq_icmp_ne (tgt := 26) dX11_feed_20 rfl ⟨fun c3 => ?_, fun c3 => ?_⟩
    · have H := H.1 c3
      refine zq_aload_n (k := 0) (i := 0) (x := 53) 0 rfl rfl dX11_feed_26 ?_
      refine zq_getP fl_RX11_49 rfl (sh_53 hw) (rf_53_18 hw) dX11_feed_27 ?_
      refine zq_aload_n (k := 0) (i := 0) (x := 53) 0 rfl rfl dX11_feed_30 ?_
      refine zq_getI fl_RX11_223 rfl (sh_53 hw) dX11_feed_31 ?_
      refine zq_iload_n (k := 1) (i := 1) (x := i1) 1 rfl rfl dX11_feed_34 ?_
      obtain ⟨b4, H⟩ := H
      refine zq_iast (sh_66 hw) b4 dX11_feed_35 (fun h5 eh5 => ?_)
      have H := H h5 eh5
      have wh5 := wf_I eh5 hw
      refine zq_aload_n (k := 0) (i := 0) (x := 53) 0 rfl rfl dX11_feed_36 ?_
      refine zq_dup rfl dX11_feed_37 ?_
      refine zq_getI fl_RX11_223 rfl (sh_53 wh5) dX11_feed_38 ?_
      refine zq_iconst (v := (nI 1)) rfl dX11_feed_41 ?_
      refine zq_iadd dX11_feed_42 ?_
      refine zq_putI fl_RX11_223 rfl (Or.inl rfl) (sh_53 wh5) rfl rfl dX11_feed_43 (fun h6 eh6 => ?_)
      have H := H h6 eh6
      have wh6 := wf_I eh6 wh5
      refine zq_aload_n (k := 0) (i := 0) (x := 53) 0 rfl rfl dX11_feed_46 ?_
      refine zq_getI fl_RX11_223 rfl (sh_53 wh6) dX11_feed_47 ?_
      exact zq_iret dX11_feed_50 rfl rfl rfl H
    · have H := H.2 c3
      refine zq_bipush (v := (-4)) rfl dX11_feed_23 ?_
      exact zq_iret dX11_feed_25 rfl rfl rfl H
  · have H := H.2 c2
    refine zq_bipush (v := (-2)) rfl dX11_feed_10 ?_
    exact zq_iret dX11_feed_12 rfl rfl rfl H
set_option maxHeartbeats 2000000 in
set_option maxRecDepth 20000 in
theorem r_X11_clear_0 {d : Nat} {h : AH} {Q : Option Value → AH → Prop}  (hw : zWF h)  (H : ∀ h1, h1 = h.sI 53 19 (nI 0) → Q (some (.int (h.I 53 19))) h1) : zK (d + 1) m_X11_clear [.ref 53] h Q := by
  refine zK_of mo_X11_clear (Nat.le_of_ble_eq_true rfl) ?_
  show zQ none m_X11_clear (d + 1) 0 [(0, .ref 53)] [] h Q
  refine zq_aload_n (k := 0) (i := 0) (x := 53) 0 rfl rfl dX11_clear_0 ?_
  refine zq_getI fl_RX11_223 rfl (sh_53 hw) dX11_clear_1 ?_
  refine zq_istore_n (ls' := [(1, .int (h.I 53 19)), (0, .ref 53)]) (k := 1) (i := 1) rfl (Nat.le_of_ble_eq_true rfl) rfl dX11_clear_4 ?_
  refine zq_aload_n (k := 0) (i := 0) (x := 53) 1 rfl rfl dX11_clear_5 ?_
  refine zq_iconst (v := (nI 0)) rfl dX11_clear_6 ?_
  refine zq_putI fl_RX11_223 rfl (Or.inl rfl) (sh_53 hw) rfl rfl dX11_clear_7 (fun h1 eh1 => ?_)
  have H := H h1 eh1
  have wh1 := wf_I eh1 hw
  refine zq_iload_n (k := 1) (i := 1) (x := (h.I 53 19)) 0 rfl rfl dX11_clear_10 ?_
  exact zq_iret dX11_clear_11 rfl rfl rfl H
set_option maxHeartbeats 2000000 in
set_option maxRecDepth 20000 in
theorem r_X11_here_0 {d : Nat} {h : AH} {Q : Option Value → AH → Prop}  (hw : zWF h)  (H : ((h.I 53 19) ≤ (h.I 53 20) → Q (some (.int (-1))) h) ∧ (¬ (h.I 53 19) ≤ (h.I 53 20) → vp_in (h.I 53 20) 160 ∧ (Q (some (.int (h.I 66 (h.I 53 20).toNatClampNeg))) h))) : zK (d + 1) m_X11_here [.ref 53] h Q := by
  refine zK_of mo_X11_here (Nat.le_of_ble_eq_true rfl) ?_
  show zQ none m_X11_here (d + 1) 0 [(0, .ref 53)] [] h Q
  refine zq_aload_n (k := 0) (i := 0) (x := 53) 0 rfl rfl dX11_here_0 ?_
  refine zq_getI fl_RX11_226 rfl (sh_53 hw) dX11_here_1 ?_
  refine zq_aload_n (k := 0) (i := 0) (x := 53) 0 rfl rfl dX11_here_4 ?_
  refine zq_getI fl_RX11_223 rfl (sh_53 hw) dX11_here_5 ?_
  refine zq_icmp_ge (tgt := 23) dX11_here_8 rfl ⟨fun c1 => ?_, fun c1 => ?_⟩
  · have H := H.1 c1
    refine zq_iconst (v := (-1)) rfl dX11_here_23 ?_
    exact zq_iret dX11_here_24 rfl rfl rfl H
  · have H := H.2 c1
    refine zq_aload_n (k := 0) (i := 0) (x := 53) 0 rfl rfl dX11_here_11 ?_
    refine zq_getP fl_RX11_49 rfl (sh_53 hw) (rf_53_18 hw) dX11_here_12 ?_
    refine zq_aload_n (k := 0) (i := 0) (x := 53) 0 rfl rfl dX11_here_15 ?_
    refine zq_getI fl_RX11_226 rfl (sh_53 hw) dX11_here_16 ?_
    obtain ⟨b2, H⟩ := H
    refine zq_iald (sh_66 hw) b2 dX11_here_19 ?_
    refine zq_goto (tgt := 24) dX11_here_20 rfl ?_
    exact zq_iret dX11_here_24 rfl rfl rfl H
set_option maxHeartbeats 2000000 in
set_option maxRecDepth 20000 in
theorem r_X11_fails_0 {d : Nat} {h : AH} {Q : Option Value → AH → Prop} (i1 : Int32) (hw : zWF h)  (H : (0 ≤ (h.I 53 21) → Q (some (.int (nI 0))) h) ∧ (¬ 0 ≤ (h.I 53 21) → ∀ h2, h2 = h.sI 53 21 i1 → Q (some (.int (nI 0))) h2)) : zK (d + 1) m_X11_fails [.ref 53, .int i1] h Q := by
  refine zK_of mo_X11_fails (Nat.le_of_ble_eq_true rfl) ?_
  show zQ none m_X11_fails (d + 1) 0 [(0, .ref 53), (1, .int i1)] [] h Q
  refine zq_aload_n (k := 0) (i := 0) (x := 53) 0 rfl rfl dX11_fails_0 ?_
  refine zq_getI fl_RX11_229 rfl (sh_53 hw) dX11_fails_1 ?_
  refine zq_if_ge (tgt := 12) dX11_fails_4 rfl ⟨fun c1 => ?_, fun c1 => ?_⟩
  · have H := H.1 c1
    refine zq_iconst (v := (nI 0)) rfl dX11_fails_12 ?_
    exact zq_iret dX11_fails_13 rfl rfl rfl H
  · have H := H.2 c1
    refine zq_aload_n (k := 0) (i := 0) (x := 53) 0 rfl rfl dX11_fails_7 ?_
    refine zq_iload_n (k := 1) (i := 1) (x := i1) 1 rfl rfl dX11_fails_8 ?_
    refine zq_putI fl_RX11_229 rfl (Or.inl rfl) (sh_53 hw) rfl rfl dX11_fails_9 (fun h2 eh2 => ?_)
    have H := H h2 eh2
    have wh2 := wf_I eh2 hw
    refine zq_iconst (v := (nI 0)) rfl dX11_fails_12 ?_
    exact zq_iret dX11_fails_13 rfl rfl rfl H
set_option maxHeartbeats 2000000 in
set_option maxRecDepth 20000 in
theorem r_X11_isSign_0 {d : Nat} {h : AH} {Q : Option Value → AH → Prop} (i1 : Int32) (hw : zWF h)  (H : zK d m_X11_here [.ref 53] h (pI h fun x1 => (x1 = i1 → ∀ h3, h3 = h.sI 53 20 ((h.I 53 20) + (nI 1)) → Q (some (.int (nI 1))) h3) ∧ (¬ x1 = i1 → zK d m_X11_fails [.ref 53, .int (h.I 53 20)] h (kI fun x5 h4 => (x5 = 0 ∨ x5 = 1) ∧ Q (some (.int x5)) h4)))) : zK (d + 1) m_X11_isSign [.ref 53, .int i1] h Q := by
  refine zK_of mo_X11_isSign (Nat.le_of_ble_eq_true rfl) ?_
  show zQ none m_X11_isSign (d + 1) 0 [(0, .ref 53), (1, .int i1)] [] h Q
  refine zq_aload_n (k := 0) (i := 0) (x := 53) 0 rfl rfl dX11_isSign_0 ?_
  refine zq_invV (as := []) (st := []) (o := 53) (c := 10) (by decide) rfl (sh_53 hw) in_X11_here se_X11_here mo_X11_here ml_RX11_232 rfl (Nat.le_of_ble_eq_true rfl) dX11_isSign_1 rfl H (fun r1 h1 hq => ?_)
  obtain ⟨x1, rfl, rfl, H⟩ := hq
  show zQ none m_X11_isSign (d + 1) 4 [(0, .ref 53), (1, .int i1)] (.int x1 :: []) h Q
  refine zq_iload_n (k := 1) (i := 1) (x := i1) 1 rfl rfl dX11_isSign_4 ?_
  refine zq_icmp_eq (tgt := 17) dX11_isSign_5 rfl ⟨fun c2 => ?_, fun c2 => ?_⟩
  · have H := H.1 c2
    refine zq_aload_n (k := 0) (i := 0) (x := 53) 0 rfl rfl dX11_isSign_17 ?_
    refine zq_dup rfl dX11_isSign_18 ?_
    refine zq_getI fl_RX11_226 rfl (sh_53 hw) dX11_isSign_19 ?_
    refine zq_iconst (v := (nI 1)) rfl dX11_isSign_22 ?_
    refine zq_iadd dX11_isSign_23 ?_
    refine zq_putI fl_RX11_226 rfl (Or.inl rfl) (sh_53 hw) rfl rfl dX11_isSign_24 (fun h3 eh3 => ?_)
    have H := H h3 eh3
    have wh3 := wf_I eh3 hw
    refine zq_iconst (v := (nI 1)) rfl dX11_isSign_27 ?_
    exact zq_iret dX11_isSign_28 rfl rfl rfl H
  · have H := H.2 c2
    refine zq_aload_n (k := 0) (i := 0) (x := 53) 0 rfl rfl dX11_isSign_8 ?_
    refine zq_aload_n (k := 0) (i := 0) (x := 53) 0 rfl rfl dX11_isSign_9 ?_
    refine zq_getI fl_RX11_226 rfl (sh_53 hw) dX11_isSign_10 ?_
    refine zq_invV (as := [.int (h.I 53 20)]) (st := []) (o := 53) (c := 10) (by decide) rfl (sh_53 hw) in_X11_fails se_X11_fails mo_X11_fails ml_RX11_235 rfl (Nat.le_of_ble_eq_true rfl) dX11_isSign_13 rfl H (fun r1 h4 hq => ?_)
    obtain ⟨x5, rfl, wh4, H⟩ := hq
    show zQ none m_X11_isSign (d + 1) 16 [(0, .ref 53), (1, .int i1)] (.int x5 :: []) h4 Q
    obtain ⟨z6, H⟩ := H
    exact zq_iret dX11_isSign_16 rfl rfl (zbool z6) H
set_option maxHeartbeats 2000000 in
set_option maxRecDepth 20000 in
theorem r_X11_isNumber_0 {d : Nat} {h : AH} {Q : Option Value → AH → Prop} (i1 : Int32) (i2 : Int32) (hw : zWF h)  (H : ∀ h1, h1 = h.sI 53 22 (nI 0) → zK d m_X11_here [.ref 53] h1 (pI h1 fun x2 => zK d m_X11_isIn [.int x2, .int (nI 48), .int (nI 57)] h1 (pI h1 fun x3 => (x3 ≠ 0 → zQ none m_X11_isNumber (d + 1) 36 [(0, .ref 53), (1, .int i1), (2, .int i2), (3, .int (h.I 53 20)), (4, .int (nI 0))] [] h1 Q) ∧ (x3 = 0 → zK d m_X11_fails [.ref 53, .int (h1.I 53 20)] h1 (kI fun x6 h5 => (x6 = 0 ∨ x6 = 1) ∧ Q (some (.int x6)) h5))))) : zK (d + 1) m_X11_isNumber [.ref 53, .int i1, .int i2] h Q := by
  refine zK_of mo_X11_isNumber (Nat.le_of_ble_eq_true rfl) ?_
  show zQ none m_X11_isNumber (d + 1) 0 [(0, .ref 53), (1, .int i1), (2, .int i2)] [] h Q
  refine zq_aload_n (k := 0) (i := 0) (x := 53) 0 rfl rfl dX11_isNumber_0 ?_
  refine zq_getI fl_RX11_226 rfl (sh_53 hw) dX11_isNumber_1 ?_
  refine zq_istore_n (ls' := [(3, .int (h.I 53 20)), (0, .ref 53), (1, .int i1), (2, .int i2)]) (k := 3) (i := 3) rfl (Nat.le_of_ble_eq_true rfl) rfl dX11_isNumber_4 ?_
  refine zq_aload_n (k := 0) (i := 0) (x := 53) 1 rfl rfl dX11_isNumber_5 ?_
  refine zq_iconst (v := (nI 0)) rfl dX11_isNumber_6 ?_
  refine zq_putI fl_RX11_238 rfl (Or.inl rfl) (sh_53 hw) rfl rfl dX11_isNumber_7 (fun h1 eh1 => ?_)
  have H := H h1 eh1
  have wh1 := wf_I eh1 hw
  refine zq_aload_n (k := 0) (i := 0) (x := 53) 1 rfl rfl dX11_isNumber_10 ?_
  refine zq_invV (as := []) (st := []) (o := 53) (c := 10) (by decide) rfl (sh_53 wh1) in_X11_here se_X11_here mo_X11_here ml_RX11_232 rfl (Nat.le_of_ble_eq_true rfl) dX11_isNumber_11 rfl H (fun r1 h1 hq => ?_)
  obtain ⟨x2, rfl, rfl, H⟩ := hq
  show zQ none m_X11_isNumber (d + 1) 14 [(3, .int (h.I 53 20)), (0, .ref 53), (1, .int i1), (2, .int i2)] (.int x2 :: []) h1 Q
  refine zq_bipush (v := (nI 48)) rfl dX11_isNumber_14 ?_
  refine zq_bipush (v := (nI 57)) rfl dX11_isNumber_16 ?_
  refine zq_invS (as := [.int x2, .int (nI 48), .int (nI 57)]) (st := []) st_X11_isIn mo_X11_isIn ml_RX11_64 rfl (Nat.le_of_ble_eq_true rfl) dX11_isNumber_18 rfl H (fun r1 h1 hq => ?_)
  obtain ⟨x3, rfl, rfl, H⟩ := hq
  show zQ none m_X11_isNumber (d + 1) 21 [(3, .int (h.I 53 20)), (0, .ref 53), (1, .int i1), (2, .int i2)] (.int x3 :: []) h1 Q
  refine zq_if_ne (tgt := 33) dX11_isNumber_21 rfl ⟨fun c4 => ?_, fun c4 => ?_⟩
  · have H := H.1 c4
    refine zq_iconst (v := (nI 0)) rfl dX11_isNumber_33 ?_
    refine zq_istore (ls' := [(4, .int (nI 0)), (3, .int (h.I 53 20)), (0, .ref 53), (1, .int i1), (2, .int i2)]) (i := 4) (Nat.le_of_ble_eq_true rfl) rfl dX11_isNumber_34 ?_
    exact zq_sub (ls' := [(0, .ref 53), (1, .int i1), (2, .int i2), (3, .int (h.I 53 20)), (4, .int (nI 0))]) [2, 3, 4, 1, 0] rfl H
  · have H := H.2 c4
    refine zq_aload_n (k := 0) (i := 0) (x := 53) 1 rfl rfl dX11_isNumber_24 ?_
    refine zq_aload_n (k := 0) (i := 0) (x := 53) 1 rfl rfl dX11_isNumber_25 ?_
    refine zq_getI fl_RX11_226 rfl (sh_53 wh1) dX11_isNumber_26 ?_
    refine zq_invV (as := [.int (h1.I 53 20)]) (st := []) (o := 53) (c := 10) (by decide) rfl (sh_53 wh1) in_X11_fails se_X11_fails mo_X11_fails ml_RX11_235 rfl (Nat.le_of_ble_eq_true rfl) dX11_isNumber_29 rfl H (fun r1 h5 hq => ?_)
    obtain ⟨x6, rfl, wh5, H⟩ := hq
    show zQ none m_X11_isNumber (d + 1) 32 [(3, .int (h.I 53 20)), (0, .ref 53), (1, .int i1), (2, .int i2)] (.int x6 :: []) h5 Q
    obtain ⟨z7, H⟩ := H
    exact zq_iret dX11_isNumber_32 rfl rfl (zbool z7) H
set_option maxHeartbeats 2000000 in
set_option maxRecDepth 20000 in
theorem r_X11_isNumber_36 {d : Nat} {h : AH} {Q : Option Value → AH → Prop} (i1 : Int32) (i2 : Int32) (i3 : Int32) (i4 : Int32) (hw : zWF h)  (H : (i1 ≤ i4 → ((h.I 53 22) ≤ i2 → Q (some (.int (nI 1))) h) ∧ (¬ (h.I 53 22) ≤ i2 → zK d m_X11_fails [.ref 53, .int i3] h (kI fun x4 h3 => (x4 = 0 → Q (some (.int (nI 0))) h3) ∧ (¬ x4 = 0 → Q (some (.int (nI 1))) h3)))) ∧ (¬ i1 ≤ i4 → zK d m_X11_here [.ref 53] h (pI h fun x6 => zK d m_X11_isIn [.int x6, .int (nI 48), .int (nI 57)] h (pI h fun x7 => (x7 = 0 → ((h.I 53 22) ≤ i2 → Q (some (.int (nI 1))) h) ∧ (¬ (h.I 53 22) ≤ i2 → zK d m_X11_fails [.ref 53, .int i3] h (kI fun x11 h10 => (x11 = 0 → Q (some (.int (nI 0))) h10) ∧ (¬ x11 = 0 → Q (some (.int (nI 1))) h10)))) ∧ (¬ x7 = 0 → zK d m_X11_here [.ref 53] h (pI h fun x13 => ∀ h14, h14 = h.sI 53 22 ((((nI 10) * (h.I 53 22)) + x13) - (nI 48)) → ∀ h15, h15 = h14.sI 53 20 ((h14.I 53 20) + (nI 1)) → zQ none m_X11_isNumber (d + 1) 36 [(0, .ref 53), (1, .int i1), (2, .int i2), (3, .int i3), (4, .int (i4 + (nI 1)))] [] h15 Q)))))) : zQ none m_X11_isNumber (d + 1) 36 [(0, .ref 53), (1, .int i1), (2, .int i2), (3, .int i3), (4, .int i4)] [] h Q := by
  refine zq_iload (i := 4) (x := i4) 4 rfl dX11_isNumber_36 ?_
  refine zq_iload_n (k := 1) (i := 1) (x := i1) 1 rfl rfl dX11_isNumber_38 ?_
  refine zq_icmp_ge (tgt := 91) dX11_isNumber_39 rfl ⟨fun c1 => ?_, fun c1 => ?_⟩
  · have H := H.1 c1
    refine zq_aload_n (k := 0) (i := 0) (x := 53) 0 rfl rfl dX11_isNumber_91 ?_
    refine zq_getI fl_RX11_238 rfl (sh_53 hw) dX11_isNumber_92 ?_
    refine zq_iload_n (k := 2) (i := 2) (x := i2) 2 rfl rfl dX11_isNumber_95 ?_
    refine zq_icmp_le (tgt := 107) dX11_isNumber_96 rfl ⟨fun c2 => ?_, fun c2 => ?_⟩
    · have H := H.1 c2
      refine zq_iconst (v := (nI 1)) rfl dX11_isNumber_107 ?_
      refine zq_goto (tgt := 112) dX11_isNumber_108 rfl ?_
      exact zq_iret dX11_isNumber_112 rfl rfl rfl H
    · have H := H.2 c2
      refine zq_aload_n (k := 0) (i := 0) (x := 53) 0 rfl rfl dX11_isNumber_99 ?_
      refine zq_iload_n (k := 3) (i := 3) (x := i3) 3 rfl rfl dX11_isNumber_100 ?_
      refine zq_invV (as := [.int i3]) (st := []) (o := 53) (c := 10) (by decide) rfl (sh_53 hw) in_X11_fails se_X11_fails mo_X11_fails ml_RX11_235 rfl (Nat.le_of_ble_eq_true rfl) dX11_isNumber_101 rfl H (fun r1 h3 hq => ?_)
      obtain ⟨x4, rfl, wh3, H⟩ := hq
      show zQ none m_X11_isNumber (d + 1) 104 [(0, .ref 53), (1, .int i1), (2, .int i2), (3, .int i3), (4, .int i4)] (.int x4 :: []) h3 Q
      refine zq_if_eq (tgt := 111) dX11_isNumber_104 rfl ⟨fun c5 => ?_, fun c5 => ?_⟩
      · have H := H.1 c5
        refine zq_iconst (v := (nI 0)) rfl dX11_isNumber_111 ?_
        exact zq_iret dX11_isNumber_112 rfl rfl rfl H
      · have H := H.2 c5
        refine zq_iconst (v := (nI 1)) rfl dX11_isNumber_107 ?_
        refine zq_goto (tgt := 112) dX11_isNumber_108 rfl ?_
        exact zq_iret dX11_isNumber_112 rfl rfl rfl H
  · have H := H.2 c1
    refine zq_aload_n (k := 0) (i := 0) (x := 53) 0 rfl rfl dX11_isNumber_42 ?_
    refine zq_invV (as := []) (st := []) (o := 53) (c := 10) (by decide) rfl (sh_53 hw) in_X11_here se_X11_here mo_X11_here ml_RX11_232 rfl (Nat.le_of_ble_eq_true rfl) dX11_isNumber_43 rfl H (fun r1 h1 hq => ?_)
    obtain ⟨x6, rfl, rfl, H⟩ := hq
    show zQ none m_X11_isNumber (d + 1) 46 [(0, .ref 53), (1, .int i1), (2, .int i2), (3, .int i3), (4, .int i4)] (.int x6 :: []) h Q
    refine zq_bipush (v := (nI 48)) rfl dX11_isNumber_46 ?_
    refine zq_bipush (v := (nI 57)) rfl dX11_isNumber_48 ?_
    refine zq_invS (as := [.int x6, .int (nI 48), .int (nI 57)]) (st := []) st_X11_isIn mo_X11_isIn ml_RX11_64 rfl (Nat.le_of_ble_eq_true rfl) dX11_isNumber_50 rfl H (fun r1 h1 hq => ?_)
    obtain ⟨x7, rfl, rfl, H⟩ := hq
    show zQ none m_X11_isNumber (d + 1) 53 [(0, .ref 53), (1, .int i1), (2, .int i2), (3, .int i3), (4, .int i4)] (.int x7 :: []) h Q
    refine zq_if_eq (tgt := 91) dX11_isNumber_53 rfl ⟨fun c8 => ?_, fun c8 => ?_⟩
    · have H := H.1 c8
      refine zq_aload_n (k := 0) (i := 0) (x := 53) 0 rfl rfl dX11_isNumber_91 ?_
      refine zq_getI fl_RX11_238 rfl (sh_53 hw) dX11_isNumber_92 ?_
      refine zq_iload_n (k := 2) (i := 2) (x := i2) 2 rfl rfl dX11_isNumber_95 ?_
      refine zq_icmp_le (tgt := 107) dX11_isNumber_96 rfl ⟨fun c9 => ?_, fun c9 => ?_⟩
      · have H := H.1 c9
        refine zq_iconst (v := (nI 1)) rfl dX11_isNumber_107 ?_
        refine zq_goto (tgt := 112) dX11_isNumber_108 rfl ?_
        exact zq_iret dX11_isNumber_112 rfl rfl rfl H
      · have H := H.2 c9
        refine zq_aload_n (k := 0) (i := 0) (x := 53) 0 rfl rfl dX11_isNumber_99 ?_
        refine zq_iload_n (k := 3) (i := 3) (x := i3) 3 rfl rfl dX11_isNumber_100 ?_
        refine zq_invV (as := [.int i3]) (st := []) (o := 53) (c := 10) (by decide) rfl (sh_53 hw) in_X11_fails se_X11_fails mo_X11_fails ml_RX11_235 rfl (Nat.le_of_ble_eq_true rfl) dX11_isNumber_101 rfl H (fun r1 h10 hq => ?_)
        obtain ⟨x11, rfl, wh10, H⟩ := hq
        show zQ none m_X11_isNumber (d + 1) 104 [(0, .ref 53), (1, .int i1), (2, .int i2), (3, .int i3), (4, .int i4)] (.int x11 :: []) h10 Q
        refine zq_if_eq (tgt := 111) dX11_isNumber_104 rfl ⟨fun c12 => ?_, fun c12 => ?_⟩
        · have H := H.1 c12
          refine zq_iconst (v := (nI 0)) rfl dX11_isNumber_111 ?_
          exact zq_iret dX11_isNumber_112 rfl rfl rfl H
        · have H := H.2 c12
          refine zq_iconst (v := (nI 1)) rfl dX11_isNumber_107 ?_
          refine zq_goto (tgt := 112) dX11_isNumber_108 rfl ?_
          exact zq_iret dX11_isNumber_112 rfl rfl rfl H
    · have H := H.2 c8
      refine zq_aload_n (k := 0) (i := 0) (x := 53) 0 rfl rfl dX11_isNumber_56 ?_
      refine zq_bipush (v := (nI 10)) rfl dX11_isNumber_57 ?_
      refine zq_aload_n (k := 0) (i := 0) (x := 53) 0 rfl rfl dX11_isNumber_59 ?_
      refine zq_getI fl_RX11_238 rfl (sh_53 hw) dX11_isNumber_60 ?_
      refine zq_imul dX11_isNumber_63 ?_
      refine zq_aload_n (k := 0) (i := 0) (x := 53) 0 rfl rfl dX11_isNumber_64 ?_
      refine zq_invV (as := []) (st := .int ((nI 10) * (h.I 53 22)) :: .ref 53 :: []) (o := 53) (c := 10) (by decide) rfl (sh_53 hw) in_X11_here se_X11_here mo_X11_here ml_RX11_232 rfl (Nat.le_of_ble_eq_true rfl) dX11_isNumber_65 rfl H (fun r1 h1 hq => ?_)
      obtain ⟨x13, rfl, rfl, H⟩ := hq
      show zQ none m_X11_isNumber (d + 1) 68 [(0, .ref 53), (1, .int i1), (2, .int i2), (3, .int i3), (4, .int i4)] (.int x13 :: .int ((nI 10) * (h.I 53 22)) :: .ref 53 :: []) h Q
      refine zq_iadd dX11_isNumber_68 ?_
      refine zq_bipush (v := (nI 48)) rfl dX11_isNumber_69 ?_
      refine zq_isub dX11_isNumber_71 ?_
      refine zq_putI fl_RX11_238 rfl (Or.inl rfl) (sh_53 hw) rfl rfl dX11_isNumber_72 (fun h14 eh14 => ?_)
      have H := H h14 eh14
      have wh14 := wf_I eh14 hw
      refine zq_aload_n (k := 0) (i := 0) (x := 53) 0 rfl rfl dX11_isNumber_75 ?_
      refine zq_dup rfl dX11_isNumber_76 ?_
      refine zq_getI fl_RX11_226 rfl (sh_53 wh14) dX11_isNumber_77 ?_
      refine zq_iconst (v := (nI 1)) rfl dX11_isNumber_80 ?_
      refine zq_iadd dX11_isNumber_81 ?_
      refine zq_putI fl_RX11_226 rfl (Or.inl rfl) (sh_53 wh14) rfl rfl dX11_isNumber_82 (fun h15 eh15 => ?_)
      have H := H h15 eh15
      have wh15 := wf_I eh15 wh14
      refine zq_iinc (i := 4) (x := i4) (v := (nI 1)) (ls' := [(4, .int (i4 + (nI 1))), (0, .ref 53), (1, .int i1), (2, .int i2), (3, .int i3)]) 4 rfl rfl (Nat.le_of_ble_eq_true rfl) rfl dX11_isNumber_85 ?_
      refine zq_goto (tgt := 36) dX11_isNumber_88 rfl ?_
      exact zq_sub (ls' := [(0, .ref 53), (1, .int i1), (2, .int i2), (3, .int i3), (4, .int (i4 + (nI 1)))]) [1, 2, 3, 4, 0] rfl H
set_option maxHeartbeats 2000000 in
set_option maxRecDepth 20000 in
theorem r_X11_begins_0 {d : Nat} {h : AH} {Q : Option Value → AH → Prop}  (hw : zWF h)  (H : ∀ h1, h1 = h.sI 53 20 (nI 0) → ∀ h2, h2 = h1.sI 53 21 (-1) → Q none h2) : zK (d + 1) m_X11_begins [.ref 53] h Q := by
  refine zK_of mo_X11_begins (Nat.le_of_ble_eq_true rfl) ?_
  show zQ none m_X11_begins (d + 1) 0 [(0, .ref 53)] [] h Q
  refine zq_aload_n (k := 0) (i := 0) (x := 53) 0 rfl rfl dX11_begins_0 ?_
  refine zq_iconst (v := (nI 0)) rfl dX11_begins_1 ?_
  refine zq_putI fl_RX11_226 rfl (Or.inl rfl) (sh_53 hw) rfl rfl dX11_begins_2 (fun h1 eh1 => ?_)
  have H := H h1 eh1
  have wh1 := wf_I eh1 hw
  refine zq_aload_n (k := 0) (i := 0) (x := 53) 0 rfl rfl dX11_begins_5 ?_
  refine zq_iconst (v := (-1)) rfl dX11_begins_6 ?_
  refine zq_putI fl_RX11_229 rfl (Or.inl rfl) (sh_53 wh1) rfl rfl dX11_begins_7 (fun h2 eh2 => ?_)
  have H := H h2 eh2
  have wh2 := wf_I eh2 wh1
  exact zq_vret dX11_begins_10 rfl H
set_option maxHeartbeats 2000000 in
set_option maxRecDepth 20000 in
theorem r_X11_isTwo_0 {d : Nat} {h : AH} {Q : Option Value → AH → Prop} (i1 : Int32) (hw : zWF h)  (H : zK d m_X11_isNumber [.ref 53, .int (nI 2), .int (nI 39)] h (kI fun x2 h1 => (x2 ≠ 0 → vp_in (i1 + (nI 1)) 640 ∧ (∀ h5, h5 = h1.sI 67 (i1 + (nI 1)).toNatClampNeg (h1.I 53 22) → zK d m_X11_isSign [.ref 53, .int (nI 44)] h5 (kI fun x7 h6 => (x7 ≠ 0 → zK d m_X11_isNumber [.ref 53, .int (nI 2), .int (nI 39)] h6 (kI fun x10 h9 => (x10 ≠ 0 → vp_in (i1 + (nI 2)) 640 ∧ (∀ h13, h13 = h9.sI 67 (i1 + (nI 2)).toNatClampNeg (h9.I 53 22) → vp_in (i1 + (nI 1)) 640 ∧ (((h13.I 67 (i1 + (nI 1)).toNatClampNeg) ≠ (h13.I 53 22) → Q (some (.int (nI 1))) h13) ∧ ((h13.I 67 (i1 + (nI 1)).toNatClampNeg) = (h13.I 53 22) → zK d m_X11_fails [.ref 53, .int (h6.I 53 20)] h13 (kI fun x17 h16 => (x17 = 0 → Q (some (.int (nI 0))) h16) ∧ (¬ x17 = 0 → Q (some (.int (nI 1))) h16)))))) ∧ (x10 = 0 → Q (some (.int (nI 0))) h9))) ∧ (x7 = 0 → Q (some (.int (nI 0))) h6)))) ∧ (x2 = 0 → Q (some (.int (nI 0))) h1))) : zK (d + 1) m_X11_isTwo [.ref 53, .int i1] h Q := by
  refine zK_of mo_X11_isTwo (Nat.le_of_ble_eq_true rfl) ?_
  show zQ none m_X11_isTwo (d + 1) 0 [(0, .ref 53), (1, .int i1)] [] h Q
  refine zq_aload_n (k := 0) (i := 0) (x := 53) 0 rfl rfl dX11_isTwo_0 ?_
  refine zq_iconst (v := (nI 2)) rfl dX11_isTwo_1 ?_
  refine zq_bipush (v := (nI 39)) rfl dX11_isTwo_2 ?_
  refine zq_invV (as := [.int (nI 2), .int (nI 39)]) (st := []) (o := 53) (c := 10) (by decide) rfl (sh_53 hw) in_X11_isNumber se_X11_isNumber mo_X11_isNumber ml_RX11_241 rfl (Nat.le_of_ble_eq_true rfl) dX11_isTwo_4 rfl H (fun r1 h1 hq => ?_)
  obtain ⟨x2, rfl, wh1, H⟩ := hq
  show zQ none m_X11_isTwo (d + 1) 7 [(0, .ref 53), (1, .int i1)] (.int x2 :: []) h1 Q
  refine zq_if_ne (tgt := 12) dX11_isTwo_7 rfl ⟨fun c3 => ?_, fun c3 => ?_⟩
  · have H := H.1 c3
    refine zq_aload_n (k := 0) (i := 0) (x := 53) 0 rfl rfl dX11_isTwo_12 ?_
    refine zq_getP fl_RX11_52 rfl (sh_53 wh1) (rf_53_23 wh1) dX11_isTwo_13 ?_
    refine zq_iload_n (k := 1) (i := 1) (x := i1) 1 rfl rfl dX11_isTwo_16 ?_
    refine zq_iconst (v := (nI 1)) rfl dX11_isTwo_17 ?_
    refine zq_iadd dX11_isTwo_18 ?_
    refine zq_aload_n (k := 0) (i := 0) (x := 53) 0 rfl rfl dX11_isTwo_19 ?_
    refine zq_getI fl_RX11_238 rfl (sh_53 wh1) dX11_isTwo_20 ?_
    obtain ⟨b4, H⟩ := H
    refine zq_iast (sh_67 wh1) b4 dX11_isTwo_23 (fun h5 eh5 => ?_)
    have H := H h5 eh5
    have wh5 := wf_I eh5 wh1
    refine zq_aload_n (k := 0) (i := 0) (x := 53) 0 rfl rfl dX11_isTwo_24 ?_
    refine zq_bipush (v := (nI 44)) rfl dX11_isTwo_25 ?_
    refine zq_invV (as := [.int (nI 44)]) (st := []) (o := 53) (c := 10) (by decide) rfl (sh_53 wh5) in_X11_isSign se_X11_isSign mo_X11_isSign ml_RX11_244 rfl (Nat.le_of_ble_eq_true rfl) dX11_isTwo_27 rfl H (fun r1 h6 hq => ?_)
    obtain ⟨x7, rfl, wh6, H⟩ := hq
    show zQ none m_X11_isTwo (d + 1) 30 [(0, .ref 53), (1, .int i1)] (.int x7 :: []) h6 Q
    refine zq_if_ne (tgt := 35) dX11_isTwo_30 rfl ⟨fun c8 => ?_, fun c8 => ?_⟩
    · have H := H.1 c8
      refine zq_aload_n (k := 0) (i := 0) (x := 53) 0 rfl rfl dX11_isTwo_35 ?_
      refine zq_getI fl_RX11_226 rfl (sh_53 wh6) dX11_isTwo_36 ?_
      refine zq_istore_n (ls' := [(2, .int (h6.I 53 20)), (0, .ref 53), (1, .int i1)]) (k := 2) (i := 2) rfl (Nat.le_of_ble_eq_true rfl) rfl dX11_isTwo_39 ?_
      refine zq_aload_n (k := 0) (i := 0) (x := 53) 1 rfl rfl dX11_isTwo_40 ?_
      refine zq_iconst (v := (nI 2)) rfl dX11_isTwo_41 ?_
      refine zq_bipush (v := (nI 39)) rfl dX11_isTwo_42 ?_
      refine zq_invV (as := [.int (nI 2), .int (nI 39)]) (st := []) (o := 53) (c := 10) (by decide) rfl (sh_53 wh6) in_X11_isNumber se_X11_isNumber mo_X11_isNumber ml_RX11_241 rfl (Nat.le_of_ble_eq_true rfl) dX11_isTwo_44 rfl H (fun r1 h9 hq => ?_)
      obtain ⟨x10, rfl, wh9, H⟩ := hq
      show zQ none m_X11_isTwo (d + 1) 47 [(2, .int (h6.I 53 20)), (0, .ref 53), (1, .int i1)] (.int x10 :: []) h9 Q
      refine zq_if_ne (tgt := 52) dX11_isTwo_47 rfl ⟨fun c11 => ?_, fun c11 => ?_⟩
      · have H := H.1 c11
        refine zq_aload_n (k := 0) (i := 0) (x := 53) 1 rfl rfl dX11_isTwo_52 ?_
        refine zq_getP fl_RX11_52 rfl (sh_53 wh9) (rf_53_23 wh9) dX11_isTwo_53 ?_
        refine zq_iload_n (k := 1) (i := 1) (x := i1) 2 rfl rfl dX11_isTwo_56 ?_
        refine zq_iconst (v := (nI 2)) rfl dX11_isTwo_57 ?_
        refine zq_iadd dX11_isTwo_58 ?_
        refine zq_aload_n (k := 0) (i := 0) (x := 53) 1 rfl rfl dX11_isTwo_59 ?_
        refine zq_getI fl_RX11_238 rfl (sh_53 wh9) dX11_isTwo_60 ?_
        obtain ⟨b12, H⟩ := H
        refine zq_iast (sh_67 wh9) b12 dX11_isTwo_63 (fun h13 eh13 => ?_)
        have H := H h13 eh13
        have wh13 := wf_I eh13 wh9
        refine zq_aload_n (k := 0) (i := 0) (x := 53) 1 rfl rfl dX11_isTwo_64 ?_
        refine zq_getP fl_RX11_52 rfl (sh_53 wh13) (rf_53_23 wh13) dX11_isTwo_65 ?_
        refine zq_iload_n (k := 1) (i := 1) (x := i1) 2 rfl rfl dX11_isTwo_68 ?_
        refine zq_iconst (v := (nI 1)) rfl dX11_isTwo_69 ?_
        refine zq_iadd dX11_isTwo_70 ?_
        obtain ⟨b14, H⟩ := H
        refine zq_iald (sh_67 wh13) b14 dX11_isTwo_71 ?_
        refine zq_aload_n (k := 0) (i := 0) (x := 53) 1 rfl rfl dX11_isTwo_72 ?_
        refine zq_getI fl_RX11_238 rfl (sh_53 wh13) dX11_isTwo_73 ?_
        refine zq_icmp_ne (tgt := 87) dX11_isTwo_76 rfl ⟨fun c15 => ?_, fun c15 => ?_⟩
        · have H := H.1 c15
          refine zq_iconst (v := (nI 1)) rfl dX11_isTwo_87 ?_
          refine zq_goto (tgt := 92) dX11_isTwo_88 rfl ?_
          exact zq_iret dX11_isTwo_92 rfl rfl rfl H
        · have H := H.2 c15
          refine zq_aload_n (k := 0) (i := 0) (x := 53) 1 rfl rfl dX11_isTwo_79 ?_
          refine zq_iload_n (k := 2) (i := 2) (x := (h6.I 53 20)) 0 rfl rfl dX11_isTwo_80 ?_
          refine zq_invV (as := [.int (h6.I 53 20)]) (st := []) (o := 53) (c := 10) (by decide) rfl (sh_53 wh13) in_X11_fails se_X11_fails mo_X11_fails ml_RX11_235 rfl (Nat.le_of_ble_eq_true rfl) dX11_isTwo_81 rfl H (fun r1 h16 hq => ?_)
          obtain ⟨x17, rfl, wh16, H⟩ := hq
          show zQ none m_X11_isTwo (d + 1) 84 [(2, .int (h6.I 53 20)), (0, .ref 53), (1, .int i1)] (.int x17 :: []) h16 Q
          refine zq_if_eq (tgt := 91) dX11_isTwo_84 rfl ⟨fun c18 => ?_, fun c18 => ?_⟩
          · have H := H.1 c18
            refine zq_iconst (v := (nI 0)) rfl dX11_isTwo_91 ?_
            exact zq_iret dX11_isTwo_92 rfl rfl rfl H
          · have H := H.2 c18
            refine zq_iconst (v := (nI 1)) rfl dX11_isTwo_87 ?_
            refine zq_goto (tgt := 92) dX11_isTwo_88 rfl ?_
            exact zq_iret dX11_isTwo_92 rfl rfl rfl H
      · have H := H.2 c11
        refine zq_iconst (v := (nI 0)) rfl dX11_isTwo_50 ?_
        exact zq_iret dX11_isTwo_51 rfl rfl rfl H
    · have H := H.2 c8
      refine zq_iconst (v := (nI 0)) rfl dX11_isTwo_33 ?_
      exact zq_iret dX11_isTwo_34 rfl rfl rfl H
  · have H := H.2 c3
    refine zq_iconst (v := (nI 0)) rfl dX11_isTwo_10 ?_
    exact zq_iret dX11_isTwo_11 rfl rfl rfl H
set_option maxHeartbeats 2000000 in
set_option maxRecDepth 20000 in
theorem r_X11_isPart_0 {d : Nat} {h : AH} {Q : Option Value → AH → Prop} (i1 : Int32) (hw : zWF h)  (H : zK d m_X11_here [.ref 53] h (pI h fun x1 => vp_in i1 640 ∧ (∀ h3, h3 = h.sI 67 i1.toNatClampNeg x1 → vp_in (i1 + (nI 3)) 640 ∧ (∀ h5, h5 = h3.sI 67 (i1 + (nI 3)).toNatClampNeg (nI 1) → (x1 = (nI 43) → zQ none m_X11_isPart (d + 1) 54 [(0, .ref 53), (1, .int i1), (2, .int x1)] [] h5 Q) ∧ (¬ x1 = (nI 43) → (x1 = (nI 45) → zQ none m_X11_isPart (d + 1) 54 [(0, .ref 53), (1, .int i1), (2, .int x1)] [] h5 Q) ∧ (¬ x1 = (nI 45) → (x1 = (nI 126) → zQ none m_X11_isPart (d + 1) 54 [(0, .ref 53), (1, .int i1), (2, .int x1)] [] h5 Q) ∧ (¬ x1 = (nI 126) → (x1 = (nI 42) → zQ none m_X11_isPart (d + 1) 54 [(0, .ref 53), (1, .int i1), (2, .int x1)] [] h5 Q) ∧ (¬ x1 = (nI 42) → zK d m_X11_fails [.ref 53, .int (h5.I 53 20)] h5 (kI fun x11 h10 => (x11 = 0 ∨ x11 = 1) ∧ Q (some (.int x11)) h10))))))))) : zK (d + 1) m_X11_isPart [.ref 53, .int i1] h Q := by
  refine zK_of mo_X11_isPart (Nat.le_of_ble_eq_true rfl) ?_
  show zQ none m_X11_isPart (d + 1) 0 [(0, .ref 53), (1, .int i1)] [] h Q
  refine zq_aload_n (k := 0) (i := 0) (x := 53) 0 rfl rfl dX11_isPart_0 ?_
  refine zq_invV (as := []) (st := []) (o := 53) (c := 10) (by decide) rfl (sh_53 hw) in_X11_here se_X11_here mo_X11_here ml_RX11_232 rfl (Nat.le_of_ble_eq_true rfl) dX11_isPart_1 rfl H (fun r1 h1 hq => ?_)
  obtain ⟨x1, rfl, rfl, H⟩ := hq
  show zQ none m_X11_isPart (d + 1) 4 [(0, .ref 53), (1, .int i1)] (.int x1 :: []) h Q
  refine zq_istore_n (ls' := [(2, .int x1), (0, .ref 53), (1, .int i1)]) (k := 2) (i := 2) rfl (Nat.le_of_ble_eq_true rfl) rfl dX11_isPart_4 ?_
  refine zq_aload_n (k := 0) (i := 0) (x := 53) 1 rfl rfl dX11_isPart_5 ?_
  refine zq_getP fl_RX11_52 rfl (sh_53 hw) (rf_53_23 hw) dX11_isPart_6 ?_
  refine zq_iload_n (k := 1) (i := 1) (x := i1) 2 rfl rfl dX11_isPart_9 ?_
  refine zq_iload_n (k := 2) (i := 2) (x := x1) 0 rfl rfl dX11_isPart_10 ?_
  obtain ⟨b2, H⟩ := H
  refine zq_iast (sh_67 hw) b2 dX11_isPart_11 (fun h3 eh3 => ?_)
  have H := H h3 eh3
  have wh3 := wf_I eh3 hw
  refine zq_aload_n (k := 0) (i := 0) (x := 53) 1 rfl rfl dX11_isPart_12 ?_
  refine zq_getP fl_RX11_52 rfl (sh_53 wh3) (rf_53_23 wh3) dX11_isPart_13 ?_
  refine zq_iload_n (k := 1) (i := 1) (x := i1) 2 rfl rfl dX11_isPart_16 ?_
  refine zq_iconst (v := (nI 3)) rfl dX11_isPart_17 ?_
  refine zq_iadd dX11_isPart_18 ?_
  refine zq_iconst (v := (nI 1)) rfl dX11_isPart_19 ?_
  obtain ⟨b4, H⟩ := H
  refine zq_iast (sh_67 wh3) b4 dX11_isPart_20 (fun h5 eh5 => ?_)
  have H := H h5 eh5
  have wh5 := wf_I eh5 wh3
  refine zq_iload_n (k := 2) (i := 2) (x := x1) 0 rfl rfl dX11_isPart_21 ?_
  refine zq_bipush (v := (nI 43)) rfl dX11_isPart_22 ?_
  refine zq_icmp_eq (tgt := 54) dX11_isPart_24 rfl ⟨fun c6 => ?_, fun c6 => ?_⟩
  · have H := H.1 c6
    exact zq_sub (ls' := [(0, .ref 53), (1, .int i1), (2, .int x1)]) [1, 2, 0] rfl H
  · have H := H.2 c6
    refine zq_iload_n (k := 2) (i := 2) (x := x1) 0 rfl rfl dX11_isPart_27 ?_
    refine zq_bipush (v := (nI 45)) rfl dX11_isPart_28 ?_
    refine zq_icmp_eq (tgt := 54) dX11_isPart_30 rfl ⟨fun c7 => ?_, fun c7 => ?_⟩
    · have H := H.1 c7
      exact zq_sub (ls' := [(0, .ref 53), (1, .int i1), (2, .int x1)]) [1, 2, 0] rfl H
    · have H := H.2 c7
      refine zq_iload_n (k := 2) (i := 2) (x := x1) 0 rfl rfl dX11_isPart_33 ?_
      refine zq_bipush (v := (nI 126)) rfl dX11_isPart_34 ?_
      refine zq_icmp_eq (tgt := 54) dX11_isPart_36 rfl ⟨fun c8 => ?_, fun c8 => ?_⟩
      · have H := H.1 c8
        exact zq_sub (ls' := [(0, .ref 53), (1, .int i1), (2, .int x1)]) [1, 2, 0] rfl H
      · have H := H.2 c8
        refine zq_iload_n (k := 2) (i := 2) (x := x1) 0 rfl rfl dX11_isPart_39 ?_
        refine zq_bipush (v := (nI 42)) rfl dX11_isPart_40 ?_
        refine zq_icmp_eq (tgt := 54) dX11_isPart_42 rfl ⟨fun c9 => ?_, fun c9 => ?_⟩
        · have H := H.1 c9
          exact zq_sub (ls' := [(0, .ref 53), (1, .int i1), (2, .int x1)]) [1, 2, 0] rfl H
        · have H := H.2 c9
          refine zq_aload_n (k := 0) (i := 0) (x := 53) 1 rfl rfl dX11_isPart_45 ?_
          refine zq_aload_n (k := 0) (i := 0) (x := 53) 1 rfl rfl dX11_isPart_46 ?_
          refine zq_getI fl_RX11_226 rfl (sh_53 wh5) dX11_isPart_47 ?_
          refine zq_invV (as := [.int (h5.I 53 20)]) (st := []) (o := 53) (c := 10) (by decide) rfl (sh_53 wh5) in_X11_fails se_X11_fails mo_X11_fails ml_RX11_235 rfl (Nat.le_of_ble_eq_true rfl) dX11_isPart_50 rfl H (fun r1 h10 hq => ?_)
          obtain ⟨x11, rfl, wh10, H⟩ := hq
          show zQ none m_X11_isPart (d + 1) 53 [(2, .int x1), (0, .ref 53), (1, .int i1)] (.int x11 :: []) h10 Q
          obtain ⟨z12, H⟩ := H
          exact zq_iret dX11_isPart_53 rfl rfl (zbool z12) H
set_option maxHeartbeats 2000000 in
set_option maxRecDepth 20000 in
theorem r_X11_isPart_54 {d : Nat} {h : AH} {Q : Option Value → AH → Prop} (i1 : Int32) (i2 : Int32) (hw : zWF h)  (H : ∀ h1, h1 = h.sI 53 20 ((h.I 53 20) + (nI 1)) → (i2 ≠ (nI 42) → zK d m_X11_isTwo [.ref 53, .int i1] h1 (kI fun x4 h3 => (x4 ≠ 0 → (i2 ≠ (nI 43) → Q (some (.int (nI 1))) h3) ∧ (i2 = (nI 43) → zK d m_X11_here [.ref 53] h3 (pI h3 fun x7 => (x7 = (nI 61) → ∀ h9, h9 = h3.sI 53 20 ((h3.I 53 20) + (nI 1)) → zK d m_X11_here [.ref 53] h9 (pI h9 fun x10 => (x10 ≠ (nI 45) → ((nI 0) = 0 → ∀ h13, h13 = h9.sI 53 20 ((h9.I 53 20) + (nI 0)) → zK d m_X11_isNumber [.ref 53, .int (nI 7), .int (nI 2000000)] h13 (kI fun x15 h14 => (x15 ≠ 0 → ((nI 0) = 0 → vp_in (i1 + (nI 3)) 640 ∧ (∀ h19, h19 = h14.sI 67 (i1 + (nI 3)).toNatClampNeg (h14.I 53 22) → Q (some (.int (nI 1))) h19)) ∧ (¬ (nI 0) = 0 → vp_in (i1 + (nI 3)) 640 ∧ (∀ h21, h21 = h14.sI 67 (i1 + (nI 3)).toNatClampNeg (-(h14.I 53 22)) → Q (some (.int (nI 1))) h21))) ∧ (x15 = 0 → Q (some (.int (nI 0))) h14))) ∧ (¬ (nI 0) = 0 → ∀ h22, h22 = h9.sI 53 20 ((h9.I 53 20) + (nI 1)) → zK d m_X11_isNumber [.ref 53, .int (nI 7), .int (nI 2000000)] h22 (kI fun x24 h23 => (x24 ≠ 0 → ((nI 0) = 0 → vp_in (i1 + (nI 3)) 640 ∧ (∀ h28, h28 = h23.sI 67 (i1 + (nI 3)).toNatClampNeg (h23.I 53 22) → Q (some (.int (nI 1))) h28)) ∧ (¬ (nI 0) = 0 → vp_in (i1 + (nI 3)) 640 ∧ (∀ h30, h30 = h23.sI 67 (i1 + (nI 3)).toNatClampNeg (-(h23.I 53 22)) → Q (some (.int (nI 1))) h30))) ∧ (x24 = 0 → Q (some (.int (nI 0))) h23)))) ∧ (x10 = (nI 45) → ((nI 1) = 0 → ∀ h32, h32 = h9.sI 53 20 ((h9.I 53 20) + (nI 0)) → zK d m_X11_isNumber [.ref 53, .int (nI 7), .int (nI 2000000)] h32 (kI fun x34 h33 => (x34 ≠ 0 → ((nI 1) = 0 → vp_in (i1 + (nI 3)) 640 ∧ (∀ h38, h38 = h33.sI 67 (i1 + (nI 3)).toNatClampNeg (h33.I 53 22) → Q (some (.int (nI 1))) h38)) ∧ (¬ (nI 1) = 0 → vp_in (i1 + (nI 3)) 640 ∧ (∀ h40, h40 = h33.sI 67 (i1 + (nI 3)).toNatClampNeg (-(h33.I 53 22)) → Q (some (.int (nI 1))) h40))) ∧ (x34 = 0 → Q (some (.int (nI 0))) h33))) ∧ (¬ (nI 1) = 0 → ∀ h41, h41 = h9.sI 53 20 ((h9.I 53 20) + (nI 1)) → zK d m_X11_isNumber [.ref 53, .int (nI 7), .int (nI 2000000)] h41 (kI fun x43 h42 => (x43 ≠ 0 → ((nI 1) = 0 → vp_in (i1 + (nI 3)) 640 ∧ (∀ h47, h47 = h42.sI 67 (i1 + (nI 3)).toNatClampNeg (h42.I 53 22) → Q (some (.int (nI 1))) h47)) ∧ (¬ (nI 1) = 0 → vp_in (i1 + (nI 3)) 640 ∧ (∀ h49, h49 = h42.sI 67 (i1 + (nI 3)).toNatClampNeg (-(h42.I 53 22)) → Q (some (.int (nI 1))) h49))) ∧ (x43 = 0 → Q (some (.int (nI 0))) h42)))))) ∧ (¬ x7 = (nI 61) → Q (some (.int (nI 1))) h3)))) ∧ (x4 = 0 → Q (some (.int (nI 0))) h3))) ∧ (i2 = (nI 42) → zK d m_X11_isNumber [.ref 53, .int (nI 2), .int (nI 39)] h1 (kI fun x51 h50 => vp_in (i1 + (nI 1)) 640 ∧ (∀ h53, h53 = h50.sI 67 (i1 + (nI 1)).toNatClampNeg (h50.I 53 22) → (x51 = 0 ∨ x51 = 1) ∧ Q (some (.int x51)) h53)))) : zQ none m_X11_isPart (d + 1) 54 [(0, .ref 53), (1, .int i1), (2, .int i2)] [] h Q := by
  refine zq_aload_n (k := 0) (i := 0) (x := 53) 0 rfl rfl dX11_isPart_54 ?_
  refine zq_dup rfl dX11_isPart_55 ?_
  refine zq_getI fl_RX11_226 rfl (sh_53 hw) dX11_isPart_56 ?_
  refine zq_iconst (v := (nI 1)) rfl dX11_isPart_59 ?_
  refine zq_iadd dX11_isPart_60 ?_
  refine zq_putI fl_RX11_226 rfl (Or.inl rfl) (sh_53 hw) rfl rfl dX11_isPart_61 (fun h1 eh1 => ?_)
  have H := H h1 eh1
  have wh1 := wf_I eh1 hw
  refine zq_iload_n (k := 2) (i := 2) (x := i2) 2 rfl rfl dX11_isPart_64 ?_
  refine zq_bipush (v := (nI 42)) rfl dX11_isPart_65 ?_
  refine zq_icmp_ne (tgt := 92) dX11_isPart_67 rfl ⟨fun c2 => ?_, fun c2 => ?_⟩
  · have H := H.1 c2
    refine zq_aload_n (k := 0) (i := 0) (x := 53) 0 rfl rfl dX11_isPart_92 ?_
    refine zq_iload_n (k := 1) (i := 1) (x := i1) 1 rfl rfl dX11_isPart_93 ?_
    refine zq_invV (as := [.int i1]) (st := []) (o := 53) (c := 10) (by decide) rfl (sh_53 wh1) in_X11_isTwo se_X11_isTwo mo_X11_isTwo ml_RX11_247 rfl (Nat.le_of_ble_eq_true rfl) dX11_isPart_94 rfl H (fun r1 h3 hq => ?_)
    obtain ⟨x4, rfl, wh3, H⟩ := hq
    show zQ none m_X11_isPart (d + 1) 97 [(0, .ref 53), (1, .int i1), (2, .int i2)] (.int x4 :: []) h3 Q
    refine zq_if_ne (tgt := 102) dX11_isPart_97 rfl ⟨fun c5 => ?_, fun c5 => ?_⟩
    · have H := H.1 c5
      refine zq_iload_n (k := 2) (i := 2) (x := i2) 2 rfl rfl dX11_isPart_102 ?_
      refine zq_bipush (v := (nI 43)) rfl dX11_isPart_103 ?_
      refine zq_icmp_ne (tgt := 117) dX11_isPart_105 rfl ⟨fun c6 => ?_, fun c6 => ?_⟩
      · have H := H.1 c6
        refine zq_iconst (v := (nI 1)) rfl dX11_isPart_117 ?_
        exact zq_iret dX11_isPart_118 rfl rfl rfl H
      · have H := H.2 c6
        refine zq_aload_n (k := 0) (i := 0) (x := 53) 0 rfl rfl dX11_isPart_108 ?_
        refine zq_invV (as := []) (st := []) (o := 53) (c := 10) (by decide) rfl (sh_53 wh3) in_X11_here se_X11_here mo_X11_here ml_RX11_232 rfl (Nat.le_of_ble_eq_true rfl) dX11_isPart_109 rfl H (fun r1 h1 hq => ?_)
        obtain ⟨x7, rfl, rfl, H⟩ := hq
        show zQ none m_X11_isPart (d + 1) 112 [(0, .ref 53), (1, .int i1), (2, .int i2)] (.int x7 :: []) h3 Q
        refine zq_bipush (v := (nI 61)) rfl dX11_isPart_112 ?_
        refine zq_icmp_eq (tgt := 119) dX11_isPart_114 rfl ⟨fun c8 => ?_, fun c8 => ?_⟩
        · have H := H.1 c8
          refine zq_aload_n (k := 0) (i := 0) (x := 53) 0 rfl rfl dX11_isPart_119 ?_
          refine zq_dup rfl dX11_isPart_120 ?_
          refine zq_getI fl_RX11_226 rfl (sh_53 wh3) dX11_isPart_121 ?_
          refine zq_iconst (v := (nI 1)) rfl dX11_isPart_124 ?_
          refine zq_iadd dX11_isPart_125 ?_
          refine zq_putI fl_RX11_226 rfl (Or.inl rfl) (sh_53 wh3) rfl rfl dX11_isPart_126 (fun h9 eh9 => ?_)
          have H := H h9 eh9
          have wh9 := wf_I eh9 wh3
          refine zq_aload_n (k := 0) (i := 0) (x := 53) 0 rfl rfl dX11_isPart_129 ?_
          refine zq_invV (as := []) (st := []) (o := 53) (c := 10) (by decide) rfl (sh_53 wh9) in_X11_here se_X11_here mo_X11_here ml_RX11_232 rfl (Nat.le_of_ble_eq_true rfl) dX11_isPart_130 rfl H (fun r1 h1 hq => ?_)
          obtain ⟨x10, rfl, rfl, H⟩ := hq
          show zQ none m_X11_isPart (d + 1) 133 [(0, .ref 53), (1, .int i1), (2, .int i2)] (.int x10 :: []) h9 Q
          refine zq_bipush (v := (nI 45)) rfl dX11_isPart_133 ?_
          refine zq_icmp_ne (tgt := 142) dX11_isPart_135 rfl ⟨fun c11 => ?_, fun c11 => ?_⟩
          · have H := H.1 c11
            refine zq_iconst (v := (nI 0)) rfl dX11_isPart_142 ?_
            refine zq_istore_n (ls' := [(3, .int (nI 0)), (0, .ref 53), (1, .int i1), (2, .int i2)]) (k := 3) (i := 3) rfl (Nat.le_of_ble_eq_true rfl) rfl dX11_isPart_143 ?_
            refine zq_aload_n (k := 0) (i := 0) (x := 53) 1 rfl rfl dX11_isPart_144 ?_
            refine zq_dup rfl dX11_isPart_145 ?_
            refine zq_getI fl_RX11_226 rfl (sh_53 wh9) dX11_isPart_146 ?_
            refine zq_iload_n (k := 3) (i := 3) (x := (nI 0)) 0 rfl rfl dX11_isPart_149 ?_
            refine zq_if_eq (tgt := 157) dX11_isPart_150 rfl ⟨fun c12 => ?_, fun c12 => ?_⟩
            · have H := H.1 c12
              refine zq_iconst (v := (nI 0)) rfl dX11_isPart_157 ?_
              refine zq_iadd dX11_isPart_158 ?_
              refine zq_putI fl_RX11_226 rfl (Or.inl rfl) (sh_53 wh9) rfl rfl dX11_isPart_159 (fun h13 eh13 => ?_)
              have H := H h13 eh13
              have wh13 := wf_I eh13 wh9
              refine zq_aload_n (k := 0) (i := 0) (x := 53) 1 rfl rfl dX11_isPart_162 ?_
              refine zq_bipush (v := (nI 7)) rfl dX11_isPart_163 ?_
              refine zq_ldc (v := (nI 2000000)) co_RX11_115 dX11_isPart_165 ?_
              refine zq_invV (as := [.int (nI 7), .int (nI 2000000)]) (st := []) (o := 53) (c := 10) (by decide) rfl (sh_53 wh13) in_X11_isNumber se_X11_isNumber mo_X11_isNumber ml_RX11_241 rfl (Nat.le_of_ble_eq_true rfl) dX11_isPart_167 rfl H (fun r1 h14 hq => ?_)
              obtain ⟨x15, rfl, wh14, H⟩ := hq
              show zQ none m_X11_isPart (d + 1) 170 [(3, .int (nI 0)), (0, .ref 53), (1, .int i1), (2, .int i2)] (.int x15 :: []) h14 Q
              refine zq_if_ne (tgt := 175) dX11_isPart_170 rfl ⟨fun c16 => ?_, fun c16 => ?_⟩
              · have H := H.1 c16
                refine zq_aload_n (k := 0) (i := 0) (x := 53) 1 rfl rfl dX11_isPart_175 ?_
                refine zq_getP fl_RX11_52 rfl (sh_53 wh14) (rf_53_23 wh14) dX11_isPart_176 ?_
                refine zq_iload_n (k := 1) (i := 1) (x := i1) 2 rfl rfl dX11_isPart_179 ?_
                refine zq_iconst (v := (nI 3)) rfl dX11_isPart_180 ?_
                refine zq_iadd dX11_isPart_181 ?_
                refine zq_iload_n (k := 3) (i := 3) (x := (nI 0)) 0 rfl rfl dX11_isPart_182 ?_
                refine zq_if_eq (tgt := 194) dX11_isPart_183 rfl ⟨fun c17 => ?_, fun c17 => ?_⟩
                · have H := H.1 c17
                  refine zq_aload_n (k := 0) (i := 0) (x := 53) 1 rfl rfl dX11_isPart_194 ?_
                  refine zq_getI fl_RX11_238 rfl (sh_53 wh14) dX11_isPart_195 ?_
                  obtain ⟨b18, H⟩ := H
                  refine zq_iast (sh_67 wh14) b18 dX11_isPart_198 (fun h19 eh19 => ?_)
                  have H := H h19 eh19
                  have wh19 := wf_I eh19 wh14
                  refine zq_iconst (v := (nI 1)) rfl dX11_isPart_199 ?_
                  exact zq_iret dX11_isPart_200 rfl rfl rfl H
                · have H := H.2 c17
                  refine zq_aload_n (k := 0) (i := 0) (x := 53) 1 rfl rfl dX11_isPart_186 ?_
                  refine zq_getI fl_RX11_238 rfl (sh_53 wh14) dX11_isPart_187 ?_
                  refine zq_ineg dX11_isPart_190 ?_
                  refine zq_goto (tgt := 198) dX11_isPart_191 rfl ?_
                  obtain ⟨b20, H⟩ := H
                  refine zq_iast (sh_67 wh14) b20 dX11_isPart_198 (fun h21 eh21 => ?_)
                  have H := H h21 eh21
                  have wh21 := wf_I eh21 wh14
                  refine zq_iconst (v := (nI 1)) rfl dX11_isPart_199 ?_
                  exact zq_iret dX11_isPart_200 rfl rfl rfl H
              · have H := H.2 c16
                refine zq_iconst (v := (nI 0)) rfl dX11_isPart_173 ?_
                exact zq_iret dX11_isPart_174 rfl rfl rfl H
            · have H := H.2 c12
              refine zq_iconst (v := (nI 1)) rfl dX11_isPart_153 ?_
              refine zq_goto (tgt := 158) dX11_isPart_154 rfl ?_
              refine zq_iadd dX11_isPart_158 ?_
              refine zq_putI fl_RX11_226 rfl (Or.inl rfl) (sh_53 wh9) rfl rfl dX11_isPart_159 (fun h22 eh22 => ?_)
              have H := H h22 eh22
              have wh22 := wf_I eh22 wh9
              refine zq_aload_n (k := 0) (i := 0) (x := 53) 1 rfl rfl dX11_isPart_162 ?_
              refine zq_bipush (v := (nI 7)) rfl dX11_isPart_163 ?_
              refine zq_ldc (v := (nI 2000000)) co_RX11_115 dX11_isPart_165 ?_
              refine zq_invV (as := [.int (nI 7), .int (nI 2000000)]) (st := []) (o := 53) (c := 10) (by decide) rfl (sh_53 wh22) in_X11_isNumber se_X11_isNumber mo_X11_isNumber ml_RX11_241 rfl (Nat.le_of_ble_eq_true rfl) dX11_isPart_167 rfl H (fun r1 h23 hq => ?_)
              obtain ⟨x24, rfl, wh23, H⟩ := hq
              show zQ none m_X11_isPart (d + 1) 170 [(3, .int (nI 0)), (0, .ref 53), (1, .int i1), (2, .int i2)] (.int x24 :: []) h23 Q
              refine zq_if_ne (tgt := 175) dX11_isPart_170 rfl ⟨fun c25 => ?_, fun c25 => ?_⟩
              · have H := H.1 c25
                refine zq_aload_n (k := 0) (i := 0) (x := 53) 1 rfl rfl dX11_isPart_175 ?_
                refine zq_getP fl_RX11_52 rfl (sh_53 wh23) (rf_53_23 wh23) dX11_isPart_176 ?_
                refine zq_iload_n (k := 1) (i := 1) (x := i1) 2 rfl rfl dX11_isPart_179 ?_
                refine zq_iconst (v := (nI 3)) rfl dX11_isPart_180 ?_
                refine zq_iadd dX11_isPart_181 ?_
                refine zq_iload_n (k := 3) (i := 3) (x := (nI 0)) 0 rfl rfl dX11_isPart_182 ?_
                refine zq_if_eq (tgt := 194) dX11_isPart_183 rfl ⟨fun c26 => ?_, fun c26 => ?_⟩
                · have H := H.1 c26
                  refine zq_aload_n (k := 0) (i := 0) (x := 53) 1 rfl rfl dX11_isPart_194 ?_
                  refine zq_getI fl_RX11_238 rfl (sh_53 wh23) dX11_isPart_195 ?_
                  obtain ⟨b27, H⟩ := H
                  refine zq_iast (sh_67 wh23) b27 dX11_isPart_198 (fun h28 eh28 => ?_)
                  have H := H h28 eh28
                  have wh28 := wf_I eh28 wh23
                  refine zq_iconst (v := (nI 1)) rfl dX11_isPart_199 ?_
                  exact zq_iret dX11_isPart_200 rfl rfl rfl H
                · have H := H.2 c26
                  refine zq_aload_n (k := 0) (i := 0) (x := 53) 1 rfl rfl dX11_isPart_186 ?_
                  refine zq_getI fl_RX11_238 rfl (sh_53 wh23) dX11_isPart_187 ?_
                  refine zq_ineg dX11_isPart_190 ?_
                  refine zq_goto (tgt := 198) dX11_isPart_191 rfl ?_
                  obtain ⟨b29, H⟩ := H
                  refine zq_iast (sh_67 wh23) b29 dX11_isPart_198 (fun h30 eh30 => ?_)
                  have H := H h30 eh30
                  have wh30 := wf_I eh30 wh23
                  refine zq_iconst (v := (nI 1)) rfl dX11_isPart_199 ?_
                  exact zq_iret dX11_isPart_200 rfl rfl rfl H
              · have H := H.2 c25
                refine zq_iconst (v := (nI 0)) rfl dX11_isPart_173 ?_
                exact zq_iret dX11_isPart_174 rfl rfl rfl H
          · have H := H.2 c11
            refine zq_iconst (v := (nI 1)) rfl dX11_isPart_138 ?_
            refine zq_goto (tgt := 143) dX11_isPart_139 rfl ?_
            refine zq_istore_n (ls' := [(3, .int (nI 1)), (0, .ref 53), (1, .int i1), (2, .int i2)]) (k := 3) (i := 3) rfl (Nat.le_of_ble_eq_true rfl) rfl dX11_isPart_143 ?_
            refine zq_aload_n (k := 0) (i := 0) (x := 53) 1 rfl rfl dX11_isPart_144 ?_
            refine zq_dup rfl dX11_isPart_145 ?_
            refine zq_getI fl_RX11_226 rfl (sh_53 wh9) dX11_isPart_146 ?_
            refine zq_iload_n (k := 3) (i := 3) (x := (nI 1)) 0 rfl rfl dX11_isPart_149 ?_
            refine zq_if_eq (tgt := 157) dX11_isPart_150 rfl ⟨fun c31 => ?_, fun c31 => ?_⟩
            · have H := H.1 c31
              refine zq_iconst (v := (nI 0)) rfl dX11_isPart_157 ?_
              refine zq_iadd dX11_isPart_158 ?_
              refine zq_putI fl_RX11_226 rfl (Or.inl rfl) (sh_53 wh9) rfl rfl dX11_isPart_159 (fun h32 eh32 => ?_)
              have H := H h32 eh32
              have wh32 := wf_I eh32 wh9
              refine zq_aload_n (k := 0) (i := 0) (x := 53) 1 rfl rfl dX11_isPart_162 ?_
              refine zq_bipush (v := (nI 7)) rfl dX11_isPart_163 ?_
              refine zq_ldc (v := (nI 2000000)) co_RX11_115 dX11_isPart_165 ?_
              refine zq_invV (as := [.int (nI 7), .int (nI 2000000)]) (st := []) (o := 53) (c := 10) (by decide) rfl (sh_53 wh32) in_X11_isNumber se_X11_isNumber mo_X11_isNumber ml_RX11_241 rfl (Nat.le_of_ble_eq_true rfl) dX11_isPart_167 rfl H (fun r1 h33 hq => ?_)
              obtain ⟨x34, rfl, wh33, H⟩ := hq
              show zQ none m_X11_isPart (d + 1) 170 [(3, .int (nI 1)), (0, .ref 53), (1, .int i1), (2, .int i2)] (.int x34 :: []) h33 Q
              refine zq_if_ne (tgt := 175) dX11_isPart_170 rfl ⟨fun c35 => ?_, fun c35 => ?_⟩
              · have H := H.1 c35
                refine zq_aload_n (k := 0) (i := 0) (x := 53) 1 rfl rfl dX11_isPart_175 ?_
                refine zq_getP fl_RX11_52 rfl (sh_53 wh33) (rf_53_23 wh33) dX11_isPart_176 ?_
                refine zq_iload_n (k := 1) (i := 1) (x := i1) 2 rfl rfl dX11_isPart_179 ?_
                refine zq_iconst (v := (nI 3)) rfl dX11_isPart_180 ?_
                refine zq_iadd dX11_isPart_181 ?_
                refine zq_iload_n (k := 3) (i := 3) (x := (nI 1)) 0 rfl rfl dX11_isPart_182 ?_
                refine zq_if_eq (tgt := 194) dX11_isPart_183 rfl ⟨fun c36 => ?_, fun c36 => ?_⟩
                · have H := H.1 c36
                  refine zq_aload_n (k := 0) (i := 0) (x := 53) 1 rfl rfl dX11_isPart_194 ?_
                  refine zq_getI fl_RX11_238 rfl (sh_53 wh33) dX11_isPart_195 ?_
                  obtain ⟨b37, H⟩ := H
                  refine zq_iast (sh_67 wh33) b37 dX11_isPart_198 (fun h38 eh38 => ?_)
                  have H := H h38 eh38
                  have wh38 := wf_I eh38 wh33
                  refine zq_iconst (v := (nI 1)) rfl dX11_isPart_199 ?_
                  exact zq_iret dX11_isPart_200 rfl rfl rfl H
                · have H := H.2 c36
                  refine zq_aload_n (k := 0) (i := 0) (x := 53) 1 rfl rfl dX11_isPart_186 ?_
                  refine zq_getI fl_RX11_238 rfl (sh_53 wh33) dX11_isPart_187 ?_
                  refine zq_ineg dX11_isPart_190 ?_
                  refine zq_goto (tgt := 198) dX11_isPart_191 rfl ?_
                  obtain ⟨b39, H⟩ := H
                  refine zq_iast (sh_67 wh33) b39 dX11_isPart_198 (fun h40 eh40 => ?_)
                  have H := H h40 eh40
                  have wh40 := wf_I eh40 wh33
                  refine zq_iconst (v := (nI 1)) rfl dX11_isPart_199 ?_
                  exact zq_iret dX11_isPart_200 rfl rfl rfl H
              · have H := H.2 c35
                refine zq_iconst (v := (nI 0)) rfl dX11_isPart_173 ?_
                exact zq_iret dX11_isPart_174 rfl rfl rfl H
            · have H := H.2 c31
              refine zq_iconst (v := (nI 1)) rfl dX11_isPart_153 ?_
              refine zq_goto (tgt := 158) dX11_isPart_154 rfl ?_
              refine zq_iadd dX11_isPart_158 ?_
              refine zq_putI fl_RX11_226 rfl (Or.inl rfl) (sh_53 wh9) rfl rfl dX11_isPart_159 (fun h41 eh41 => ?_)
              have H := H h41 eh41
              have wh41 := wf_I eh41 wh9
              refine zq_aload_n (k := 0) (i := 0) (x := 53) 1 rfl rfl dX11_isPart_162 ?_
              refine zq_bipush (v := (nI 7)) rfl dX11_isPart_163 ?_
              refine zq_ldc (v := (nI 2000000)) co_RX11_115 dX11_isPart_165 ?_
              refine zq_invV (as := [.int (nI 7), .int (nI 2000000)]) (st := []) (o := 53) (c := 10) (by decide) rfl (sh_53 wh41) in_X11_isNumber se_X11_isNumber mo_X11_isNumber ml_RX11_241 rfl (Nat.le_of_ble_eq_true rfl) dX11_isPart_167 rfl H (fun r1 h42 hq => ?_)
              obtain ⟨x43, rfl, wh42, H⟩ := hq
              show zQ none m_X11_isPart (d + 1) 170 [(3, .int (nI 1)), (0, .ref 53), (1, .int i1), (2, .int i2)] (.int x43 :: []) h42 Q
              refine zq_if_ne (tgt := 175) dX11_isPart_170 rfl ⟨fun c44 => ?_, fun c44 => ?_⟩
              · have H := H.1 c44
                refine zq_aload_n (k := 0) (i := 0) (x := 53) 1 rfl rfl dX11_isPart_175 ?_
                refine zq_getP fl_RX11_52 rfl (sh_53 wh42) (rf_53_23 wh42) dX11_isPart_176 ?_
                refine zq_iload_n (k := 1) (i := 1) (x := i1) 2 rfl rfl dX11_isPart_179 ?_
                refine zq_iconst (v := (nI 3)) rfl dX11_isPart_180 ?_
                refine zq_iadd dX11_isPart_181 ?_
                refine zq_iload_n (k := 3) (i := 3) (x := (nI 1)) 0 rfl rfl dX11_isPart_182 ?_
                refine zq_if_eq (tgt := 194) dX11_isPart_183 rfl ⟨fun c45 => ?_, fun c45 => ?_⟩
                · have H := H.1 c45
                  refine zq_aload_n (k := 0) (i := 0) (x := 53) 1 rfl rfl dX11_isPart_194 ?_
                  refine zq_getI fl_RX11_238 rfl (sh_53 wh42) dX11_isPart_195 ?_
                  obtain ⟨b46, H⟩ := H
                  refine zq_iast (sh_67 wh42) b46 dX11_isPart_198 (fun h47 eh47 => ?_)
                  have H := H h47 eh47
                  have wh47 := wf_I eh47 wh42
                  refine zq_iconst (v := (nI 1)) rfl dX11_isPart_199 ?_
                  exact zq_iret dX11_isPart_200 rfl rfl rfl H
                · have H := H.2 c45
                  refine zq_aload_n (k := 0) (i := 0) (x := 53) 1 rfl rfl dX11_isPart_186 ?_
                  refine zq_getI fl_RX11_238 rfl (sh_53 wh42) dX11_isPart_187 ?_
                  refine zq_ineg dX11_isPart_190 ?_
                  refine zq_goto (tgt := 198) dX11_isPart_191 rfl ?_
                  obtain ⟨b48, H⟩ := H
                  refine zq_iast (sh_67 wh42) b48 dX11_isPart_198 (fun h49 eh49 => ?_)
                  have H := H h49 eh49
                  have wh49 := wf_I eh49 wh42
                  refine zq_iconst (v := (nI 1)) rfl dX11_isPart_199 ?_
                  exact zq_iret dX11_isPart_200 rfl rfl rfl H
              · have H := H.2 c44
                refine zq_iconst (v := (nI 0)) rfl dX11_isPart_173 ?_
                exact zq_iret dX11_isPart_174 rfl rfl rfl H
        · have H := H.2 c8
          refine zq_iconst (v := (nI 1)) rfl dX11_isPart_117 ?_
          exact zq_iret dX11_isPart_118 rfl rfl rfl H
    · have H := H.2 c5
      refine zq_iconst (v := (nI 0)) rfl dX11_isPart_100 ?_
      exact zq_iret dX11_isPart_101 rfl rfl rfl H
  · have H := H.2 c2
    refine zq_aload_n (k := 0) (i := 0) (x := 53) 0 rfl rfl dX11_isPart_70 ?_
    refine zq_iconst (v := (nI 2)) rfl dX11_isPart_71 ?_
    refine zq_bipush (v := (nI 39)) rfl dX11_isPart_72 ?_
    refine zq_invV (as := [.int (nI 2), .int (nI 39)]) (st := []) (o := 53) (c := 10) (by decide) rfl (sh_53 wh1) in_X11_isNumber se_X11_isNumber mo_X11_isNumber ml_RX11_241 rfl (Nat.le_of_ble_eq_true rfl) dX11_isPart_74 rfl H (fun r1 h50 hq => ?_)
    obtain ⟨x51, rfl, wh50, H⟩ := hq
    show zQ none m_X11_isPart (d + 1) 77 [(0, .ref 53), (1, .int i1), (2, .int i2)] (.int x51 :: []) h50 Q
    refine zq_istore_n (ls' := [(3, .int x51), (0, .ref 53), (1, .int i1), (2, .int i2)]) (k := 3) (i := 3) rfl (Nat.le_of_ble_eq_true rfl) rfl dX11_isPart_77 ?_
    refine zq_aload_n (k := 0) (i := 0) (x := 53) 1 rfl rfl dX11_isPart_78 ?_
    refine zq_getP fl_RX11_52 rfl (sh_53 wh50) (rf_53_23 wh50) dX11_isPart_79 ?_
    refine zq_iload_n (k := 1) (i := 1) (x := i1) 2 rfl rfl dX11_isPart_82 ?_
    refine zq_iconst (v := (nI 1)) rfl dX11_isPart_83 ?_
    refine zq_iadd dX11_isPart_84 ?_
    refine zq_aload_n (k := 0) (i := 0) (x := 53) 1 rfl rfl dX11_isPart_85 ?_
    refine zq_getI fl_RX11_238 rfl (sh_53 wh50) dX11_isPart_86 ?_
    obtain ⟨b52, H⟩ := H
    refine zq_iast (sh_67 wh50) b52 dX11_isPart_89 (fun h53 eh53 => ?_)
    have H := H h53 eh53
    have wh53 := wf_I eh53 wh50
    refine zq_iload_n (k := 3) (i := 3) (x := x51) 0 rfl rfl dX11_isPart_90 ?_
    obtain ⟨z54, H⟩ := H
    exact zq_iret dX11_isPart_91 rfl rfl (zbool z54) H
set_option maxHeartbeats 2000000 in
set_option maxRecDepth 20000 in
theorem r_X11_does_0 {d : Nat} {h : AH} {Q : Option Value → AH → Prop} (i1 : Int32) (hw : zWF h)  (H : vp_in (i1 + (nI 1)) 640 ∧ (vp_in (i1 + (nI 2)) 640 ∧ (vp_in i1 640 ∧ (((h.I 67 i1.toNatClampNeg) ≠ (nI 42) → zK d m_X11_isEdge [.ref 53, .int (h.I 67 (i1 + (nI 1)).toNatClampNeg), .int (h.I 67 (i1 + (nI 2)).toNatClampNeg)] h (pI h fun x5 => vp_in i1 640 ∧ (((h.I 67 i1.toNatClampNeg) ≠ (nI 43) → vp_in i1 640 ∧ (((h.I 67 i1.toNatClampNeg) ≠ (nI 126) → vp_in i1 640 ∧ (((h.I 67 i1.toNatClampNeg) ≠ (nI 45) → vp_in i1 640 ∧ (((h.I 67 i1.toNatClampNeg) ≠ (nI 126) → Q none h) ∧ ((h.I 67 i1.toNatClampNeg) = (nI 126) → (x5 = 0 → Q none h) ∧ (¬ x5 = 0 → zK d m_X11_goes [.ref 53, .int (h.I 67 (i1 + (nI 1)).toNatClampNeg), .int (h.I 67 (i1 + (nI 2)).toNatClampNeg)] h (kV fun h15 => Q none h15))))) ∧ ((h.I 67 i1.toNatClampNeg) = (nI 45) → (x5 ≠ 0 → zK d m_X11_goes [.ref 53, .int (h.I 67 (i1 + (nI 1)).toNatClampNeg), .int (h.I 67 (i1 + (nI 2)).toNatClampNeg)] h (kV fun h17 => Q none h17)) ∧ (x5 = 0 → vp_in i1 640 ∧ (((h.I 67 i1.toNatClampNeg) ≠ (nI 126) → Q none h) ∧ ((h.I 67 i1.toNatClampNeg) = (nI 126) → (x5 = 0 → Q none h) ∧ (¬ x5 = 0 → zK d m_X11_goes [.ref 53, .int (h.I 67 (i1 + (nI 1)).toNatClampNeg), .int (h.I 67 (i1 + (nI 2)).toNatClampNeg)] h (kV fun h21 => Q none h21)))))))) ∧ ((h.I 67 i1.toNatClampNeg) = (nI 126) → (x5 ≠ 0 → vp_in i1 640 ∧ (((h.I 67 i1.toNatClampNeg) ≠ (nI 45) → vp_in i1 640 ∧ (((h.I 67 i1.toNatClampNeg) ≠ (nI 126) → Q none h) ∧ ((h.I 67 i1.toNatClampNeg) = (nI 126) → (x5 = 0 → Q none h) ∧ (¬ x5 = 0 → zK d m_X11_goes [.ref 53, .int (h.I 67 (i1 + (nI 1)).toNatClampNeg), .int (h.I 67 (i1 + (nI 2)).toNatClampNeg)] h (kV fun h28 => Q none h28))))) ∧ ((h.I 67 i1.toNatClampNeg) = (nI 45) → (x5 ≠ 0 → zK d m_X11_goes [.ref 53, .int (h.I 67 (i1 + (nI 1)).toNatClampNeg), .int (h.I 67 (i1 + (nI 2)).toNatClampNeg)] h (kV fun h30 => Q none h30)) ∧ (x5 = 0 → vp_in i1 640 ∧ (((h.I 67 i1.toNatClampNeg) ≠ (nI 126) → Q none h) ∧ ((h.I 67 i1.toNatClampNeg) = (nI 126) → (x5 = 0 → Q none h) ∧ (¬ x5 = 0 → zK d m_X11_goes [.ref 53, .int (h.I 67 (i1 + (nI 1)).toNatClampNeg), .int (h.I 67 (i1 + (nI 2)).toNatClampNeg)] h (kV fun h34 => Q none h34)))))))) ∧ (x5 = 0 → vp_in (i1 + (nI 3)) 640 ∧ (zK d m_X11_comes [.ref 53, .int (h.I 67 (i1 + (nI 1)).toNatClampNeg), .int (h.I 67 (i1 + (nI 2)).toNatClampNeg), .int (h.I 67 (i1 + (nI 3)).toNatClampNeg)] h (kV fun h36 => vp_in i1 640 ∧ (((h36.I 67 i1.toNatClampNeg) ≠ (nI 45) → vp_in i1 640 ∧ (((h36.I 67 i1.toNatClampNeg) ≠ (nI 126) → Q none h36) ∧ ((h36.I 67 i1.toNatClampNeg) = (nI 126) → (x5 = 0 → Q none h36) ∧ (¬ x5 = 0 → zK d m_X11_goes [.ref 53, .int (h.I 67 (i1 + (nI 1)).toNatClampNeg), .int (h.I 67 (i1 + (nI 2)).toNatClampNeg)] h36 (kV fun h42 => Q none h42))))) ∧ ((h36.I 67 i1.toNatClampNeg) = (nI 45) → (x5 ≠ 0 → zK d m_X11_goes [.ref 53, .int (h.I 67 (i1 + (nI 1)).toNatClampNeg), .int (h.I 67 (i1 + (nI 2)).toNatClampNeg)] h36 (kV fun h44 => Q none h44)) ∧ (x5 = 0 → vp_in i1 640 ∧ (((h36.I 67 i1.toNatClampNeg) ≠ (nI 126) → Q none h36) ∧ ((h36.I 67 i1.toNatClampNeg) = (nI 126) → (x5 = 0 → Q none h36) ∧ (¬ x5 = 0 → zK d m_X11_goes [.ref 53, .int (h.I 67 (i1 + (nI 1)).toNatClampNeg), .int (h.I 67 (i1 + (nI 2)).toNatClampNeg)] h36 (kV fun h48 => Q none h48))))))))))))) ∧ ((h.I 67 i1.toNatClampNeg) = (nI 43) → (x5 = 0 → vp_in (i1 + (nI 3)) 640 ∧ (zK d m_X11_comes [.ref 53, .int (h.I 67 (i1 + (nI 1)).toNatClampNeg), .int (h.I 67 (i1 + (nI 2)).toNatClampNeg), .int (h.I 67 (i1 + (nI 3)).toNatClampNeg)] h (kV fun h51 => vp_in i1 640 ∧ (((h51.I 67 i1.toNatClampNeg) ≠ (nI 45) → vp_in i1 640 ∧ (((h51.I 67 i1.toNatClampNeg) ≠ (nI 126) → Q none h51) ∧ ((h51.I 67 i1.toNatClampNeg) = (nI 126) → (x5 = 0 → Q none h51) ∧ (¬ x5 = 0 → zK d m_X11_goes [.ref 53, .int (h.I 67 (i1 + (nI 1)).toNatClampNeg), .int (h.I 67 (i1 + (nI 2)).toNatClampNeg)] h51 (kV fun h57 => Q none h57))))) ∧ ((h51.I 67 i1.toNatClampNeg) = (nI 45) → (x5 ≠ 0 → zK d m_X11_goes [.ref 53, .int (h.I 67 (i1 + (nI 1)).toNatClampNeg), .int (h.I 67 (i1 + (nI 2)).toNatClampNeg)] h51 (kV fun h59 => Q none h59)) ∧ (x5 = 0 → vp_in i1 640 ∧ (((h51.I 67 i1.toNatClampNeg) ≠ (nI 126) → Q none h51) ∧ ((h51.I 67 i1.toNatClampNeg) = (nI 126) → (x5 = 0 → Q none h51) ∧ (¬ x5 = 0 → zK d m_X11_goes [.ref 53, .int (h.I 67 (i1 + (nI 1)).toNatClampNeg), .int (h.I 67 (i1 + (nI 2)).toNatClampNeg)] h51 (kV fun h63 => Q none h63)))))))))) ∧ (¬ x5 = 0 → vp_in i1 640 ∧ (((h.I 67 i1.toNatClampNeg) ≠ (nI 126) → vp_in i1 640 ∧ (((h.I 67 i1.toNatClampNeg) ≠ (nI 45) → vp_in i1 640 ∧ (((h.I 67 i1.toNatClampNeg) ≠ (nI 126) → Q none h) ∧ ((h.I 67 i1.toNatClampNeg) = (nI 126) → (x5 = 0 → Q none h) ∧ (¬ x5 = 0 → zK d m_X11_goes [.ref 53, .int (h.I 67 (i1 + (nI 1)).toNatClampNeg), .int (h.I 67 (i1 + (nI 2)).toNatClampNeg)] h (kV fun h71 => Q none h71))))) ∧ ((h.I 67 i1.toNatClampNeg) = (nI 45) → (x5 ≠ 0 → zK d m_X11_goes [.ref 53, .int (h.I 67 (i1 + (nI 1)).toNatClampNeg), .int (h.I 67 (i1 + (nI 2)).toNatClampNeg)] h (kV fun h73 => Q none h73)) ∧ (x5 = 0 → vp_in i1 640 ∧ (((h.I 67 i1.toNatClampNeg) ≠ (nI 126) → Q none h) ∧ ((h.I 67 i1.toNatClampNeg) = (nI 126) → (x5 = 0 → Q none h) ∧ (¬ x5 = 0 → zK d m_X11_goes [.ref 53, .int (h.I 67 (i1 + (nI 1)).toNatClampNeg), .int (h.I 67 (i1 + (nI 2)).toNatClampNeg)] h (kV fun h77 => Q none h77)))))))) ∧ ((h.I 67 i1.toNatClampNeg) = (nI 126) → (x5 ≠ 0 → vp_in i1 640 ∧ (((h.I 67 i1.toNatClampNeg) ≠ (nI 45) → vp_in i1 640 ∧ (((h.I 67 i1.toNatClampNeg) ≠ (nI 126) → Q none h) ∧ ((h.I 67 i1.toNatClampNeg) = (nI 126) → (x5 = 0 → Q none h) ∧ (¬ x5 = 0 → zK d m_X11_goes [.ref 53, .int (h.I 67 (i1 + (nI 1)).toNatClampNeg), .int (h.I 67 (i1 + (nI 2)).toNatClampNeg)] h (kV fun h84 => Q none h84))))) ∧ ((h.I 67 i1.toNatClampNeg) = (nI 45) → (x5 ≠ 0 → zK d m_X11_goes [.ref 53, .int (h.I 67 (i1 + (nI 1)).toNatClampNeg), .int (h.I 67 (i1 + (nI 2)).toNatClampNeg)] h (kV fun h86 => Q none h86)) ∧ (x5 = 0 → vp_in i1 640 ∧ (((h.I 67 i1.toNatClampNeg) ≠ (nI 126) → Q none h) ∧ ((h.I 67 i1.toNatClampNeg) = (nI 126) → (x5 = 0 → Q none h) ∧ (¬ x5 = 0 → zK d m_X11_goes [.ref 53, .int (h.I 67 (i1 + (nI 1)).toNatClampNeg), .int (h.I 67 (i1 + (nI 2)).toNatClampNeg)] h (kV fun h90 => Q none h90)))))))) ∧ (x5 = 0 → vp_in (i1 + (nI 3)) 640 ∧ (zK d m_X11_comes [.ref 53, .int (h.I 67 (i1 + (nI 1)).toNatClampNeg), .int (h.I 67 (i1 + (nI 2)).toNatClampNeg), .int (h.I 67 (i1 + (nI 3)).toNatClampNeg)] h (kV fun h92 => vp_in i1 640 ∧ (((h92.I 67 i1.toNatClampNeg) ≠ (nI 45) → vp_in i1 640 ∧ (((h92.I 67 i1.toNatClampNeg) ≠ (nI 126) → Q none h92) ∧ ((h92.I 67 i1.toNatClampNeg) = (nI 126) → (x5 = 0 → Q none h92) ∧ (¬ x5 = 0 → zK d m_X11_goes [.ref 53, .int (h.I 67 (i1 + (nI 1)).toNatClampNeg), .int (h.I 67 (i1 + (nI 2)).toNatClampNeg)] h92 (kV fun h98 => Q none h98))))) ∧ ((h92.I 67 i1.toNatClampNeg) = (nI 45) → (x5 ≠ 0 → zK d m_X11_goes [.ref 53, .int (h.I 67 (i1 + (nI 1)).toNatClampNeg), .int (h.I 67 (i1 + (nI 2)).toNatClampNeg)] h92 (kV fun h100 => Q none h100)) ∧ (x5 = 0 → vp_in i1 640 ∧ (((h92.I 67 i1.toNatClampNeg) ≠ (nI 126) → Q none h92) ∧ ((h92.I 67 i1.toNatClampNeg) = (nI 126) → (x5 = 0 → Q none h92) ∧ (¬ x5 = 0 → zK d m_X11_goes [.ref 53, .int (h.I 67 (i1 + (nI 1)).toNatClampNeg), .int (h.I 67 (i1 + (nI 2)).toNatClampNeg)] h92 (kV fun h104 => Q none h104))))))))))))))))) ∧ ((h.I 67 i1.toNatClampNeg) = (nI 42) → zQ none m_X11_does (d + 1) 32 [(0, .ref 53), (2, .int (h.I 67 (i1 + (nI 1)).toNatClampNeg)), (4, .int (nI 0))] [] h Q))))) : zK (d + 1) m_X11_does [.ref 53, .int i1] h Q := by
  refine zK_of mo_X11_does (Nat.le_of_ble_eq_true rfl) ?_
  show zQ none m_X11_does (d + 1) 0 [(0, .ref 53), (1, .int i1)] [] h Q
  refine zq_aload_n (k := 0) (i := 0) (x := 53) 0 rfl rfl dX11_does_0 ?_
  refine zq_getP fl_RX11_52 rfl (sh_53 hw) (rf_53_23 hw) dX11_does_1 ?_
  refine zq_iload_n (k := 1) (i := 1) (x := i1) 1 rfl rfl dX11_does_4 ?_
  refine zq_iconst (v := (nI 1)) rfl dX11_does_5 ?_
  refine zq_iadd dX11_does_6 ?_
  obtain ⟨b1, H⟩ := H
  refine zq_iald (sh_67 hw) b1 dX11_does_7 ?_
  refine zq_istore_n (ls' := [(2, .int (h.I 67 (i1 + (nI 1)).toNatClampNeg)), (0, .ref 53), (1, .int i1)]) (k := 2) (i := 2) rfl (Nat.le_of_ble_eq_true rfl) rfl dX11_does_8 ?_
  refine zq_aload_n (k := 0) (i := 0) (x := 53) 1 rfl rfl dX11_does_9 ?_
  refine zq_getP fl_RX11_52 rfl (sh_53 hw) (rf_53_23 hw) dX11_does_10 ?_
  refine zq_iload_n (k := 1) (i := 1) (x := i1) 2 rfl rfl dX11_does_13 ?_
  refine zq_iconst (v := (nI 2)) rfl dX11_does_14 ?_
  refine zq_iadd dX11_does_15 ?_
  obtain ⟨b2, H⟩ := H
  refine zq_iald (sh_67 hw) b2 dX11_does_16 ?_
  refine zq_istore_n (ls' := [(3, .int (h.I 67 (i1 + (nI 2)).toNatClampNeg)), (2, .int (h.I 67 (i1 + (nI 1)).toNatClampNeg)), (0, .ref 53), (1, .int i1)]) (k := 3) (i := 3) rfl (Nat.le_of_ble_eq_true rfl) rfl dX11_does_17 ?_
  refine zq_aload_n (k := 0) (i := 0) (x := 53) 2 rfl rfl dX11_does_18 ?_
  refine zq_getP fl_RX11_52 rfl (sh_53 hw) (rf_53_23 hw) dX11_does_19 ?_
  refine zq_iload_n (k := 1) (i := 1) (x := i1) 3 rfl rfl dX11_does_22 ?_
  obtain ⟨b3, H⟩ := H
  refine zq_iald (sh_67 hw) b3 dX11_does_23 ?_
  refine zq_bipush (v := (nI 42)) rfl dX11_does_24 ?_
  refine zq_icmp_ne (tgt := 63) dX11_does_26 rfl ⟨fun c4 => ?_, fun c4 => ?_⟩
  · have H := H.1 c4
    refine zq_aload_n (k := 0) (i := 0) (x := 53) 2 rfl rfl dX11_does_63 ?_
    refine zq_iload_n (k := 2) (i := 2) (x := (h.I 67 (i1 + (nI 1)).toNatClampNeg)) 1 rfl rfl dX11_does_64 ?_
    refine zq_iload_n (k := 3) (i := 3) (x := (h.I 67 (i1 + (nI 2)).toNatClampNeg)) 0 rfl rfl dX11_does_65 ?_
    refine zq_invV (as := [.int (h.I 67 (i1 + (nI 1)).toNatClampNeg), .int (h.I 67 (i1 + (nI 2)).toNatClampNeg)]) (st := []) (o := 53) (c := 10) (by decide) rfl (sh_53 hw) in_X11_isEdge se_X11_isEdge mo_X11_isEdge ml_RX11_116 rfl (Nat.le_of_ble_eq_true rfl) dX11_does_66 rfl H (fun r1 h1 hq => ?_)
    obtain ⟨x5, rfl, rfl, H⟩ := hq
    show zQ none m_X11_does (d + 1) 69 [(3, .int (h.I 67 (i1 + (nI 2)).toNatClampNeg)), (2, .int (h.I 67 (i1 + (nI 1)).toNatClampNeg)), (0, .ref 53), (1, .int i1)] (.int x5 :: []) h Q
    refine zq_istore (ls' := [(4, .int x5), (3, .int (h.I 67 (i1 + (nI 2)).toNatClampNeg)), (2, .int (h.I 67 (i1 + (nI 1)).toNatClampNeg)), (0, .ref 53), (1, .int i1)]) (i := 4) (Nat.le_of_ble_eq_true rfl) rfl dX11_does_69 ?_
    refine zq_aload_n (k := 0) (i := 0) (x := 53) 3 rfl rfl dX11_does_71 ?_
    refine zq_getP fl_RX11_52 rfl (sh_53 hw) (rf_53_23 hw) dX11_does_72 ?_
    refine zq_iload_n (k := 1) (i := 1) (x := i1) 4 rfl rfl dX11_does_75 ?_
    obtain ⟨b6, H⟩ := H
    refine zq_iald (sh_67 hw) b6 dX11_does_76 ?_
    refine zq_bipush (v := (nI 43)) rfl dX11_does_77 ?_
    refine zq_icmp_ne (tgt := 87) dX11_does_79 rfl ⟨fun c7 => ?_, fun c7 => ?_⟩
    · have H := H.1 c7
      refine zq_aload_n (k := 0) (i := 0) (x := 53) 3 rfl rfl dX11_does_87 ?_
      refine zq_getP fl_RX11_52 rfl (sh_53 hw) (rf_53_23 hw) dX11_does_88 ?_
      refine zq_iload_n (k := 1) (i := 1) (x := i1) 4 rfl rfl dX11_does_91 ?_
      obtain ⟨b8, H⟩ := H
      refine zq_iald (sh_67 hw) b8 dX11_does_92 ?_
      refine zq_bipush (v := (nI 126)) rfl dX11_does_93 ?_
      refine zq_icmp_ne (tgt := 117) dX11_does_95 rfl ⟨fun c9 => ?_, fun c9 => ?_⟩
      · have H := H.1 c9
        refine zq_aload_n (k := 0) (i := 0) (x := 53) 3 rfl rfl dX11_does_117 ?_
        refine zq_getP fl_RX11_52 rfl (sh_53 hw) (rf_53_23 hw) dX11_does_118 ?_
        refine zq_iload_n (k := 1) (i := 1) (x := i1) 4 rfl rfl dX11_does_121 ?_
        obtain ⟨b10, H⟩ := H
        refine zq_iald (sh_67 hw) b10 dX11_does_122 ?_
        refine zq_bipush (v := (nI 45)) rfl dX11_does_123 ?_
        refine zq_icmp_ne (tgt := 133) dX11_does_125 rfl ⟨fun c11 => ?_, fun c11 => ?_⟩
        · have H := H.1 c11
          refine zq_aload_n (k := 0) (i := 0) (x := 53) 3 rfl rfl dX11_does_133 ?_
          refine zq_getP fl_RX11_52 rfl (sh_53 hw) (rf_53_23 hw) dX11_does_134 ?_
          refine zq_iload_n (k := 1) (i := 1) (x := i1) 4 rfl rfl dX11_does_137 ?_
          obtain ⟨b12, H⟩ := H
          refine zq_iald (sh_67 hw) b12 dX11_does_138 ?_
          refine zq_bipush (v := (nI 126)) rfl dX11_does_139 ?_
          refine zq_icmp_ne (tgt := 155) dX11_does_141 rfl ⟨fun c13 => ?_, fun c13 => ?_⟩
          · have H := H.1 c13
            exact zq_vret dX11_does_155 rfl H
          · have H := H.2 c13
            refine zq_iload (i := 4) (x := x5) 0 rfl dX11_does_144 ?_
            refine zq_if_eq (tgt := 155) dX11_does_146 rfl ⟨fun c14 => ?_, fun c14 => ?_⟩
            · have H := H.1 c14
              exact zq_vret dX11_does_155 rfl H
            · have H := H.2 c14
              refine zq_aload_n (k := 0) (i := 0) (x := 53) 3 rfl rfl dX11_does_149 ?_
              refine zq_iload_n (k := 2) (i := 2) (x := (h.I 67 (i1 + (nI 1)).toNatClampNeg)) 2 rfl rfl dX11_does_150 ?_
              refine zq_iload_n (k := 3) (i := 3) (x := (h.I 67 (i1 + (nI 2)).toNatClampNeg)) 1 rfl rfl dX11_does_151 ?_
              refine zq_invV (as := [.int (h.I 67 (i1 + (nI 1)).toNatClampNeg), .int (h.I 67 (i1 + (nI 2)).toNatClampNeg)]) (st := []) (o := 53) (c := 10) (by decide) rfl (sh_53 hw) in_X11_goes se_X11_goes mo_X11_goes ml_RX11_126 rfl (Nat.le_of_ble_eq_true rfl) dX11_does_152 rfl H (fun r1 h15 hq => ?_)
              obtain ⟨rfl, wh15, H⟩ := hq
              show zQ none m_X11_does (d + 1) 155 [(4, .int x5), (3, .int (h.I 67 (i1 + (nI 2)).toNatClampNeg)), (2, .int (h.I 67 (i1 + (nI 1)).toNatClampNeg)), (0, .ref 53), (1, .int i1)] ([]) h15 Q
              exact zq_vret dX11_does_155 rfl H
        · have H := H.2 c11
          refine zq_iload (i := 4) (x := x5) 0 rfl dX11_does_128 ?_
          refine zq_if_ne (tgt := 149) dX11_does_130 rfl ⟨fun c16 => ?_, fun c16 => ?_⟩
          · have H := H.1 c16
            refine zq_aload_n (k := 0) (i := 0) (x := 53) 3 rfl rfl dX11_does_149 ?_
            refine zq_iload_n (k := 2) (i := 2) (x := (h.I 67 (i1 + (nI 1)).toNatClampNeg)) 2 rfl rfl dX11_does_150 ?_
            refine zq_iload_n (k := 3) (i := 3) (x := (h.I 67 (i1 + (nI 2)).toNatClampNeg)) 1 rfl rfl dX11_does_151 ?_
            refine zq_invV (as := [.int (h.I 67 (i1 + (nI 1)).toNatClampNeg), .int (h.I 67 (i1 + (nI 2)).toNatClampNeg)]) (st := []) (o := 53) (c := 10) (by decide) rfl (sh_53 hw) in_X11_goes se_X11_goes mo_X11_goes ml_RX11_126 rfl (Nat.le_of_ble_eq_true rfl) dX11_does_152 rfl H (fun r1 h17 hq => ?_)
            obtain ⟨rfl, wh17, H⟩ := hq
            show zQ none m_X11_does (d + 1) 155 [(4, .int x5), (3, .int (h.I 67 (i1 + (nI 2)).toNatClampNeg)), (2, .int (h.I 67 (i1 + (nI 1)).toNatClampNeg)), (0, .ref 53), (1, .int i1)] ([]) h17 Q
            exact zq_vret dX11_does_155 rfl H
          · have H := H.2 c16
            refine zq_aload_n (k := 0) (i := 0) (x := 53) 3 rfl rfl dX11_does_133 ?_
            refine zq_getP fl_RX11_52 rfl (sh_53 hw) (rf_53_23 hw) dX11_does_134 ?_
            refine zq_iload_n (k := 1) (i := 1) (x := i1) 4 rfl rfl dX11_does_137 ?_
            obtain ⟨b18, H⟩ := H
            refine zq_iald (sh_67 hw) b18 dX11_does_138 ?_
            refine zq_bipush (v := (nI 126)) rfl dX11_does_139 ?_
            refine zq_icmp_ne (tgt := 155) dX11_does_141 rfl ⟨fun c19 => ?_, fun c19 => ?_⟩
            · have H := H.1 c19
              exact zq_vret dX11_does_155 rfl H
            · have H := H.2 c19
              refine zq_iload (i := 4) (x := x5) 0 rfl dX11_does_144 ?_
              refine zq_if_eq (tgt := 155) dX11_does_146 rfl ⟨fun c20 => ?_, fun c20 => ?_⟩
              · have H := H.1 c20
                exact zq_vret dX11_does_155 rfl H
              · have H := H.2 c20
                refine zq_aload_n (k := 0) (i := 0) (x := 53) 3 rfl rfl dX11_does_149 ?_
                refine zq_iload_n (k := 2) (i := 2) (x := (h.I 67 (i1 + (nI 1)).toNatClampNeg)) 2 rfl rfl dX11_does_150 ?_
                refine zq_iload_n (k := 3) (i := 3) (x := (h.I 67 (i1 + (nI 2)).toNatClampNeg)) 1 rfl rfl dX11_does_151 ?_
                refine zq_invV (as := [.int (h.I 67 (i1 + (nI 1)).toNatClampNeg), .int (h.I 67 (i1 + (nI 2)).toNatClampNeg)]) (st := []) (o := 53) (c := 10) (by decide) rfl (sh_53 hw) in_X11_goes se_X11_goes mo_X11_goes ml_RX11_126 rfl (Nat.le_of_ble_eq_true rfl) dX11_does_152 rfl H (fun r1 h21 hq => ?_)
                obtain ⟨rfl, wh21, H⟩ := hq
                show zQ none m_X11_does (d + 1) 155 [(4, .int x5), (3, .int (h.I 67 (i1 + (nI 2)).toNatClampNeg)), (2, .int (h.I 67 (i1 + (nI 1)).toNatClampNeg)), (0, .ref 53), (1, .int i1)] ([]) h21 Q
                exact zq_vret dX11_does_155 rfl H
      · have H := H.2 c9
        refine zq_iload (i := 4) (x := x5) 0 rfl dX11_does_98 ?_
        refine zq_if_ne (tgt := 117) dX11_does_100 rfl ⟨fun c22 => ?_, fun c22 => ?_⟩
        · have H := H.1 c22
          refine zq_aload_n (k := 0) (i := 0) (x := 53) 3 rfl rfl dX11_does_117 ?_
          refine zq_getP fl_RX11_52 rfl (sh_53 hw) (rf_53_23 hw) dX11_does_118 ?_
          refine zq_iload_n (k := 1) (i := 1) (x := i1) 4 rfl rfl dX11_does_121 ?_
          obtain ⟨b23, H⟩ := H
          refine zq_iald (sh_67 hw) b23 dX11_does_122 ?_
          refine zq_bipush (v := (nI 45)) rfl dX11_does_123 ?_
          refine zq_icmp_ne (tgt := 133) dX11_does_125 rfl ⟨fun c24 => ?_, fun c24 => ?_⟩
          · have H := H.1 c24
            refine zq_aload_n (k := 0) (i := 0) (x := 53) 3 rfl rfl dX11_does_133 ?_
            refine zq_getP fl_RX11_52 rfl (sh_53 hw) (rf_53_23 hw) dX11_does_134 ?_
            refine zq_iload_n (k := 1) (i := 1) (x := i1) 4 rfl rfl dX11_does_137 ?_
            obtain ⟨b25, H⟩ := H
            refine zq_iald (sh_67 hw) b25 dX11_does_138 ?_
            refine zq_bipush (v := (nI 126)) rfl dX11_does_139 ?_
            refine zq_icmp_ne (tgt := 155) dX11_does_141 rfl ⟨fun c26 => ?_, fun c26 => ?_⟩
            · have H := H.1 c26
              exact zq_vret dX11_does_155 rfl H
            · have H := H.2 c26
              refine zq_iload (i := 4) (x := x5) 0 rfl dX11_does_144 ?_
              refine zq_if_eq (tgt := 155) dX11_does_146 rfl ⟨fun c27 => ?_, fun c27 => ?_⟩
              · have H := H.1 c27
                exact zq_vret dX11_does_155 rfl H
              · have H := H.2 c27
                refine zq_aload_n (k := 0) (i := 0) (x := 53) 3 rfl rfl dX11_does_149 ?_
                refine zq_iload_n (k := 2) (i := 2) (x := (h.I 67 (i1 + (nI 1)).toNatClampNeg)) 2 rfl rfl dX11_does_150 ?_
                refine zq_iload_n (k := 3) (i := 3) (x := (h.I 67 (i1 + (nI 2)).toNatClampNeg)) 1 rfl rfl dX11_does_151 ?_
                refine zq_invV (as := [.int (h.I 67 (i1 + (nI 1)).toNatClampNeg), .int (h.I 67 (i1 + (nI 2)).toNatClampNeg)]) (st := []) (o := 53) (c := 10) (by decide) rfl (sh_53 hw) in_X11_goes se_X11_goes mo_X11_goes ml_RX11_126 rfl (Nat.le_of_ble_eq_true rfl) dX11_does_152 rfl H (fun r1 h28 hq => ?_)
                obtain ⟨rfl, wh28, H⟩ := hq
                show zQ none m_X11_does (d + 1) 155 [(4, .int x5), (3, .int (h.I 67 (i1 + (nI 2)).toNatClampNeg)), (2, .int (h.I 67 (i1 + (nI 1)).toNatClampNeg)), (0, .ref 53), (1, .int i1)] ([]) h28 Q
                exact zq_vret dX11_does_155 rfl H
          · have H := H.2 c24
            refine zq_iload (i := 4) (x := x5) 0 rfl dX11_does_128 ?_
            refine zq_if_ne (tgt := 149) dX11_does_130 rfl ⟨fun c29 => ?_, fun c29 => ?_⟩
            · have H := H.1 c29
              refine zq_aload_n (k := 0) (i := 0) (x := 53) 3 rfl rfl dX11_does_149 ?_
              refine zq_iload_n (k := 2) (i := 2) (x := (h.I 67 (i1 + (nI 1)).toNatClampNeg)) 2 rfl rfl dX11_does_150 ?_
              refine zq_iload_n (k := 3) (i := 3) (x := (h.I 67 (i1 + (nI 2)).toNatClampNeg)) 1 rfl rfl dX11_does_151 ?_
              refine zq_invV (as := [.int (h.I 67 (i1 + (nI 1)).toNatClampNeg), .int (h.I 67 (i1 + (nI 2)).toNatClampNeg)]) (st := []) (o := 53) (c := 10) (by decide) rfl (sh_53 hw) in_X11_goes se_X11_goes mo_X11_goes ml_RX11_126 rfl (Nat.le_of_ble_eq_true rfl) dX11_does_152 rfl H (fun r1 h30 hq => ?_)
              obtain ⟨rfl, wh30, H⟩ := hq
              show zQ none m_X11_does (d + 1) 155 [(4, .int x5), (3, .int (h.I 67 (i1 + (nI 2)).toNatClampNeg)), (2, .int (h.I 67 (i1 + (nI 1)).toNatClampNeg)), (0, .ref 53), (1, .int i1)] ([]) h30 Q
              exact zq_vret dX11_does_155 rfl H
            · have H := H.2 c29
              refine zq_aload_n (k := 0) (i := 0) (x := 53) 3 rfl rfl dX11_does_133 ?_
              refine zq_getP fl_RX11_52 rfl (sh_53 hw) (rf_53_23 hw) dX11_does_134 ?_
              refine zq_iload_n (k := 1) (i := 1) (x := i1) 4 rfl rfl dX11_does_137 ?_
              obtain ⟨b31, H⟩ := H
              refine zq_iald (sh_67 hw) b31 dX11_does_138 ?_
              refine zq_bipush (v := (nI 126)) rfl dX11_does_139 ?_
              refine zq_icmp_ne (tgt := 155) dX11_does_141 rfl ⟨fun c32 => ?_, fun c32 => ?_⟩
              · have H := H.1 c32
                exact zq_vret dX11_does_155 rfl H
              · have H := H.2 c32
                refine zq_iload (i := 4) (x := x5) 0 rfl dX11_does_144 ?_
                refine zq_if_eq (tgt := 155) dX11_does_146 rfl ⟨fun c33 => ?_, fun c33 => ?_⟩
                · have H := H.1 c33
                  exact zq_vret dX11_does_155 rfl H
                · have H := H.2 c33
                  refine zq_aload_n (k := 0) (i := 0) (x := 53) 3 rfl rfl dX11_does_149 ?_
                  refine zq_iload_n (k := 2) (i := 2) (x := (h.I 67 (i1 + (nI 1)).toNatClampNeg)) 2 rfl rfl dX11_does_150 ?_
                  refine zq_iload_n (k := 3) (i := 3) (x := (h.I 67 (i1 + (nI 2)).toNatClampNeg)) 1 rfl rfl dX11_does_151 ?_
                  refine zq_invV (as := [.int (h.I 67 (i1 + (nI 1)).toNatClampNeg), .int (h.I 67 (i1 + (nI 2)).toNatClampNeg)]) (st := []) (o := 53) (c := 10) (by decide) rfl (sh_53 hw) in_X11_goes se_X11_goes mo_X11_goes ml_RX11_126 rfl (Nat.le_of_ble_eq_true rfl) dX11_does_152 rfl H (fun r1 h34 hq => ?_)
                  obtain ⟨rfl, wh34, H⟩ := hq
                  show zQ none m_X11_does (d + 1) 155 [(4, .int x5), (3, .int (h.I 67 (i1 + (nI 2)).toNatClampNeg)), (2, .int (h.I 67 (i1 + (nI 1)).toNatClampNeg)), (0, .ref 53), (1, .int i1)] ([]) h34 Q
                  exact zq_vret dX11_does_155 rfl H
        · have H := H.2 c22
          refine zq_aload_n (k := 0) (i := 0) (x := 53) 3 rfl rfl dX11_does_103 ?_
          refine zq_iload_n (k := 2) (i := 2) (x := (h.I 67 (i1 + (nI 1)).toNatClampNeg)) 2 rfl rfl dX11_does_104 ?_
          refine zq_iload_n (k := 3) (i := 3) (x := (h.I 67 (i1 + (nI 2)).toNatClampNeg)) 1 rfl rfl dX11_does_105 ?_
          refine zq_aload_n (k := 0) (i := 0) (x := 53) 3 rfl rfl dX11_does_106 ?_
          refine zq_getP fl_RX11_52 rfl (sh_53 hw) (rf_53_23 hw) dX11_does_107 ?_
          refine zq_iload_n (k := 1) (i := 1) (x := i1) 4 rfl rfl dX11_does_110 ?_
          refine zq_iconst (v := (nI 3)) rfl dX11_does_111 ?_
          refine zq_iadd dX11_does_112 ?_
          obtain ⟨b35, H⟩ := H
          refine zq_iald (sh_67 hw) b35 dX11_does_113 ?_
          refine zq_invV (as := [.int (h.I 67 (i1 + (nI 1)).toNatClampNeg), .int (h.I 67 (i1 + (nI 2)).toNatClampNeg), .int (h.I 67 (i1 + (nI 3)).toNatClampNeg)]) (st := []) (o := 53) (c := 10) (by decide) rfl (sh_53 hw) in_X11_comes se_X11_comes mo_X11_comes ml_RX11_119 rfl (Nat.le_of_ble_eq_true rfl) dX11_does_114 rfl H (fun r1 h36 hq => ?_)
          obtain ⟨rfl, wh36, H⟩ := hq
          show zQ none m_X11_does (d + 1) 117 [(4, .int x5), (3, .int (h.I 67 (i1 + (nI 2)).toNatClampNeg)), (2, .int (h.I 67 (i1 + (nI 1)).toNatClampNeg)), (0, .ref 53), (1, .int i1)] ([]) h36 Q
          refine zq_aload_n (k := 0) (i := 0) (x := 53) 3 rfl rfl dX11_does_117 ?_
          refine zq_getP fl_RX11_52 rfl (sh_53 wh36) (rf_53_23 wh36) dX11_does_118 ?_
          refine zq_iload_n (k := 1) (i := 1) (x := i1) 4 rfl rfl dX11_does_121 ?_
          obtain ⟨b37, H⟩ := H
          refine zq_iald (sh_67 wh36) b37 dX11_does_122 ?_
          refine zq_bipush (v := (nI 45)) rfl dX11_does_123 ?_
          refine zq_icmp_ne (tgt := 133) dX11_does_125 rfl ⟨fun c38 => ?_, fun c38 => ?_⟩
          · have H := H.1 c38
            refine zq_aload_n (k := 0) (i := 0) (x := 53) 3 rfl rfl dX11_does_133 ?_
            refine zq_getP fl_RX11_52 rfl (sh_53 wh36) (rf_53_23 wh36) dX11_does_134 ?_
            refine zq_iload_n (k := 1) (i := 1) (x := i1) 4 rfl rfl dX11_does_137 ?_
            obtain ⟨b39, H⟩ := H
            refine zq_iald (sh_67 wh36) b39 dX11_does_138 ?_
            refine zq_bipush (v := (nI 126)) rfl dX11_does_139 ?_
            refine zq_icmp_ne (tgt := 155) dX11_does_141 rfl ⟨fun c40 => ?_, fun c40 => ?_⟩
            · have H := H.1 c40
              exact zq_vret dX11_does_155 rfl H
            · have H := H.2 c40
              refine zq_iload (i := 4) (x := x5) 0 rfl dX11_does_144 ?_
              refine zq_if_eq (tgt := 155) dX11_does_146 rfl ⟨fun c41 => ?_, fun c41 => ?_⟩
              · have H := H.1 c41
                exact zq_vret dX11_does_155 rfl H
              · have H := H.2 c41
                refine zq_aload_n (k := 0) (i := 0) (x := 53) 3 rfl rfl dX11_does_149 ?_
                refine zq_iload_n (k := 2) (i := 2) (x := (h.I 67 (i1 + (nI 1)).toNatClampNeg)) 2 rfl rfl dX11_does_150 ?_
                refine zq_iload_n (k := 3) (i := 3) (x := (h.I 67 (i1 + (nI 2)).toNatClampNeg)) 1 rfl rfl dX11_does_151 ?_
                refine zq_invV (as := [.int (h.I 67 (i1 + (nI 1)).toNatClampNeg), .int (h.I 67 (i1 + (nI 2)).toNatClampNeg)]) (st := []) (o := 53) (c := 10) (by decide) rfl (sh_53 wh36) in_X11_goes se_X11_goes mo_X11_goes ml_RX11_126 rfl (Nat.le_of_ble_eq_true rfl) dX11_does_152 rfl H (fun r1 h42 hq => ?_)
                obtain ⟨rfl, wh42, H⟩ := hq
                show zQ none m_X11_does (d + 1) 155 [(4, .int x5), (3, .int (h.I 67 (i1 + (nI 2)).toNatClampNeg)), (2, .int (h.I 67 (i1 + (nI 1)).toNatClampNeg)), (0, .ref 53), (1, .int i1)] ([]) h42 Q
                exact zq_vret dX11_does_155 rfl H
          · have H := H.2 c38
            refine zq_iload (i := 4) (x := x5) 0 rfl dX11_does_128 ?_
            refine zq_if_ne (tgt := 149) dX11_does_130 rfl ⟨fun c43 => ?_, fun c43 => ?_⟩
            · have H := H.1 c43
              refine zq_aload_n (k := 0) (i := 0) (x := 53) 3 rfl rfl dX11_does_149 ?_
              refine zq_iload_n (k := 2) (i := 2) (x := (h.I 67 (i1 + (nI 1)).toNatClampNeg)) 2 rfl rfl dX11_does_150 ?_
              refine zq_iload_n (k := 3) (i := 3) (x := (h.I 67 (i1 + (nI 2)).toNatClampNeg)) 1 rfl rfl dX11_does_151 ?_
              refine zq_invV (as := [.int (h.I 67 (i1 + (nI 1)).toNatClampNeg), .int (h.I 67 (i1 + (nI 2)).toNatClampNeg)]) (st := []) (o := 53) (c := 10) (by decide) rfl (sh_53 wh36) in_X11_goes se_X11_goes mo_X11_goes ml_RX11_126 rfl (Nat.le_of_ble_eq_true rfl) dX11_does_152 rfl H (fun r1 h44 hq => ?_)
              obtain ⟨rfl, wh44, H⟩ := hq
              show zQ none m_X11_does (d + 1) 155 [(4, .int x5), (3, .int (h.I 67 (i1 + (nI 2)).toNatClampNeg)), (2, .int (h.I 67 (i1 + (nI 1)).toNatClampNeg)), (0, .ref 53), (1, .int i1)] ([]) h44 Q
              exact zq_vret dX11_does_155 rfl H
            · have H := H.2 c43
              refine zq_aload_n (k := 0) (i := 0) (x := 53) 3 rfl rfl dX11_does_133 ?_
              refine zq_getP fl_RX11_52 rfl (sh_53 wh36) (rf_53_23 wh36) dX11_does_134 ?_
              refine zq_iload_n (k := 1) (i := 1) (x := i1) 4 rfl rfl dX11_does_137 ?_
              obtain ⟨b45, H⟩ := H
              refine zq_iald (sh_67 wh36) b45 dX11_does_138 ?_
              refine zq_bipush (v := (nI 126)) rfl dX11_does_139 ?_
              refine zq_icmp_ne (tgt := 155) dX11_does_141 rfl ⟨fun c46 => ?_, fun c46 => ?_⟩
              · have H := H.1 c46
                exact zq_vret dX11_does_155 rfl H
              · have H := H.2 c46
                refine zq_iload (i := 4) (x := x5) 0 rfl dX11_does_144 ?_
                refine zq_if_eq (tgt := 155) dX11_does_146 rfl ⟨fun c47 => ?_, fun c47 => ?_⟩
                · have H := H.1 c47
                  exact zq_vret dX11_does_155 rfl H
                · have H := H.2 c47
                  refine zq_aload_n (k := 0) (i := 0) (x := 53) 3 rfl rfl dX11_does_149 ?_
                  refine zq_iload_n (k := 2) (i := 2) (x := (h.I 67 (i1 + (nI 1)).toNatClampNeg)) 2 rfl rfl dX11_does_150 ?_
                  refine zq_iload_n (k := 3) (i := 3) (x := (h.I 67 (i1 + (nI 2)).toNatClampNeg)) 1 rfl rfl dX11_does_151 ?_
                  refine zq_invV (as := [.int (h.I 67 (i1 + (nI 1)).toNatClampNeg), .int (h.I 67 (i1 + (nI 2)).toNatClampNeg)]) (st := []) (o := 53) (c := 10) (by decide) rfl (sh_53 wh36) in_X11_goes se_X11_goes mo_X11_goes ml_RX11_126 rfl (Nat.le_of_ble_eq_true rfl) dX11_does_152 rfl H (fun r1 h48 hq => ?_)
                  obtain ⟨rfl, wh48, H⟩ := hq
                  show zQ none m_X11_does (d + 1) 155 [(4, .int x5), (3, .int (h.I 67 (i1 + (nI 2)).toNatClampNeg)), (2, .int (h.I 67 (i1 + (nI 1)).toNatClampNeg)), (0, .ref 53), (1, .int i1)] ([]) h48 Q
                  exact zq_vret dX11_does_155 rfl H
    · have H := H.2 c7
      refine zq_iload (i := 4) (x := x5) 0 rfl dX11_does_82 ?_
      refine zq_if_eq (tgt := 103) dX11_does_84 rfl ⟨fun c49 => ?_, fun c49 => ?_⟩
      · have H := H.1 c49
        refine zq_aload_n (k := 0) (i := 0) (x := 53) 3 rfl rfl dX11_does_103 ?_
        refine zq_iload_n (k := 2) (i := 2) (x := (h.I 67 (i1 + (nI 1)).toNatClampNeg)) 2 rfl rfl dX11_does_104 ?_
        refine zq_iload_n (k := 3) (i := 3) (x := (h.I 67 (i1 + (nI 2)).toNatClampNeg)) 1 rfl rfl dX11_does_105 ?_
        refine zq_aload_n (k := 0) (i := 0) (x := 53) 3 rfl rfl dX11_does_106 ?_
        refine zq_getP fl_RX11_52 rfl (sh_53 hw) (rf_53_23 hw) dX11_does_107 ?_
        refine zq_iload_n (k := 1) (i := 1) (x := i1) 4 rfl rfl dX11_does_110 ?_
        refine zq_iconst (v := (nI 3)) rfl dX11_does_111 ?_
        refine zq_iadd dX11_does_112 ?_
        obtain ⟨b50, H⟩ := H
        refine zq_iald (sh_67 hw) b50 dX11_does_113 ?_
        refine zq_invV (as := [.int (h.I 67 (i1 + (nI 1)).toNatClampNeg), .int (h.I 67 (i1 + (nI 2)).toNatClampNeg), .int (h.I 67 (i1 + (nI 3)).toNatClampNeg)]) (st := []) (o := 53) (c := 10) (by decide) rfl (sh_53 hw) in_X11_comes se_X11_comes mo_X11_comes ml_RX11_119 rfl (Nat.le_of_ble_eq_true rfl) dX11_does_114 rfl H (fun r1 h51 hq => ?_)
        obtain ⟨rfl, wh51, H⟩ := hq
        show zQ none m_X11_does (d + 1) 117 [(4, .int x5), (3, .int (h.I 67 (i1 + (nI 2)).toNatClampNeg)), (2, .int (h.I 67 (i1 + (nI 1)).toNatClampNeg)), (0, .ref 53), (1, .int i1)] ([]) h51 Q
        refine zq_aload_n (k := 0) (i := 0) (x := 53) 3 rfl rfl dX11_does_117 ?_
        refine zq_getP fl_RX11_52 rfl (sh_53 wh51) (rf_53_23 wh51) dX11_does_118 ?_
        refine zq_iload_n (k := 1) (i := 1) (x := i1) 4 rfl rfl dX11_does_121 ?_
        obtain ⟨b52, H⟩ := H
        refine zq_iald (sh_67 wh51) b52 dX11_does_122 ?_
        refine zq_bipush (v := (nI 45)) rfl dX11_does_123 ?_
        refine zq_icmp_ne (tgt := 133) dX11_does_125 rfl ⟨fun c53 => ?_, fun c53 => ?_⟩
        · have H := H.1 c53
          refine zq_aload_n (k := 0) (i := 0) (x := 53) 3 rfl rfl dX11_does_133 ?_
          refine zq_getP fl_RX11_52 rfl (sh_53 wh51) (rf_53_23 wh51) dX11_does_134 ?_
          refine zq_iload_n (k := 1) (i := 1) (x := i1) 4 rfl rfl dX11_does_137 ?_
          obtain ⟨b54, H⟩ := H
          refine zq_iald (sh_67 wh51) b54 dX11_does_138 ?_
          refine zq_bipush (v := (nI 126)) rfl dX11_does_139 ?_
          refine zq_icmp_ne (tgt := 155) dX11_does_141 rfl ⟨fun c55 => ?_, fun c55 => ?_⟩
          · have H := H.1 c55
            exact zq_vret dX11_does_155 rfl H
          · have H := H.2 c55
            refine zq_iload (i := 4) (x := x5) 0 rfl dX11_does_144 ?_
            refine zq_if_eq (tgt := 155) dX11_does_146 rfl ⟨fun c56 => ?_, fun c56 => ?_⟩
            · have H := H.1 c56
              exact zq_vret dX11_does_155 rfl H
            · have H := H.2 c56
              refine zq_aload_n (k := 0) (i := 0) (x := 53) 3 rfl rfl dX11_does_149 ?_
              refine zq_iload_n (k := 2) (i := 2) (x := (h.I 67 (i1 + (nI 1)).toNatClampNeg)) 2 rfl rfl dX11_does_150 ?_
              refine zq_iload_n (k := 3) (i := 3) (x := (h.I 67 (i1 + (nI 2)).toNatClampNeg)) 1 rfl rfl dX11_does_151 ?_
              refine zq_invV (as := [.int (h.I 67 (i1 + (nI 1)).toNatClampNeg), .int (h.I 67 (i1 + (nI 2)).toNatClampNeg)]) (st := []) (o := 53) (c := 10) (by decide) rfl (sh_53 wh51) in_X11_goes se_X11_goes mo_X11_goes ml_RX11_126 rfl (Nat.le_of_ble_eq_true rfl) dX11_does_152 rfl H (fun r1 h57 hq => ?_)
              obtain ⟨rfl, wh57, H⟩ := hq
              show zQ none m_X11_does (d + 1) 155 [(4, .int x5), (3, .int (h.I 67 (i1 + (nI 2)).toNatClampNeg)), (2, .int (h.I 67 (i1 + (nI 1)).toNatClampNeg)), (0, .ref 53), (1, .int i1)] ([]) h57 Q
              exact zq_vret dX11_does_155 rfl H
        · have H := H.2 c53
          refine zq_iload (i := 4) (x := x5) 0 rfl dX11_does_128 ?_
          refine zq_if_ne (tgt := 149) dX11_does_130 rfl ⟨fun c58 => ?_, fun c58 => ?_⟩
          · have H := H.1 c58
            refine zq_aload_n (k := 0) (i := 0) (x := 53) 3 rfl rfl dX11_does_149 ?_
            refine zq_iload_n (k := 2) (i := 2) (x := (h.I 67 (i1 + (nI 1)).toNatClampNeg)) 2 rfl rfl dX11_does_150 ?_
            refine zq_iload_n (k := 3) (i := 3) (x := (h.I 67 (i1 + (nI 2)).toNatClampNeg)) 1 rfl rfl dX11_does_151 ?_
            refine zq_invV (as := [.int (h.I 67 (i1 + (nI 1)).toNatClampNeg), .int (h.I 67 (i1 + (nI 2)).toNatClampNeg)]) (st := []) (o := 53) (c := 10) (by decide) rfl (sh_53 wh51) in_X11_goes se_X11_goes mo_X11_goes ml_RX11_126 rfl (Nat.le_of_ble_eq_true rfl) dX11_does_152 rfl H (fun r1 h59 hq => ?_)
            obtain ⟨rfl, wh59, H⟩ := hq
            show zQ none m_X11_does (d + 1) 155 [(4, .int x5), (3, .int (h.I 67 (i1 + (nI 2)).toNatClampNeg)), (2, .int (h.I 67 (i1 + (nI 1)).toNatClampNeg)), (0, .ref 53), (1, .int i1)] ([]) h59 Q
            exact zq_vret dX11_does_155 rfl H
          · have H := H.2 c58
            refine zq_aload_n (k := 0) (i := 0) (x := 53) 3 rfl rfl dX11_does_133 ?_
            refine zq_getP fl_RX11_52 rfl (sh_53 wh51) (rf_53_23 wh51) dX11_does_134 ?_
            refine zq_iload_n (k := 1) (i := 1) (x := i1) 4 rfl rfl dX11_does_137 ?_
            obtain ⟨b60, H⟩ := H
            refine zq_iald (sh_67 wh51) b60 dX11_does_138 ?_
            refine zq_bipush (v := (nI 126)) rfl dX11_does_139 ?_
            refine zq_icmp_ne (tgt := 155) dX11_does_141 rfl ⟨fun c61 => ?_, fun c61 => ?_⟩
            · have H := H.1 c61
              exact zq_vret dX11_does_155 rfl H
            · have H := H.2 c61
              refine zq_iload (i := 4) (x := x5) 0 rfl dX11_does_144 ?_
              refine zq_if_eq (tgt := 155) dX11_does_146 rfl ⟨fun c62 => ?_, fun c62 => ?_⟩
              · have H := H.1 c62
                exact zq_vret dX11_does_155 rfl H
              · have H := H.2 c62
                refine zq_aload_n (k := 0) (i := 0) (x := 53) 3 rfl rfl dX11_does_149 ?_
                refine zq_iload_n (k := 2) (i := 2) (x := (h.I 67 (i1 + (nI 1)).toNatClampNeg)) 2 rfl rfl dX11_does_150 ?_
                refine zq_iload_n (k := 3) (i := 3) (x := (h.I 67 (i1 + (nI 2)).toNatClampNeg)) 1 rfl rfl dX11_does_151 ?_
                refine zq_invV (as := [.int (h.I 67 (i1 + (nI 1)).toNatClampNeg), .int (h.I 67 (i1 + (nI 2)).toNatClampNeg)]) (st := []) (o := 53) (c := 10) (by decide) rfl (sh_53 wh51) in_X11_goes se_X11_goes mo_X11_goes ml_RX11_126 rfl (Nat.le_of_ble_eq_true rfl) dX11_does_152 rfl H (fun r1 h63 hq => ?_)
                obtain ⟨rfl, wh63, H⟩ := hq
                show zQ none m_X11_does (d + 1) 155 [(4, .int x5), (3, .int (h.I 67 (i1 + (nI 2)).toNatClampNeg)), (2, .int (h.I 67 (i1 + (nI 1)).toNatClampNeg)), (0, .ref 53), (1, .int i1)] ([]) h63 Q
                exact zq_vret dX11_does_155 rfl H
      · have H := H.2 c49
        refine zq_aload_n (k := 0) (i := 0) (x := 53) 3 rfl rfl dX11_does_87 ?_
        refine zq_getP fl_RX11_52 rfl (sh_53 hw) (rf_53_23 hw) dX11_does_88 ?_
        refine zq_iload_n (k := 1) (i := 1) (x := i1) 4 rfl rfl dX11_does_91 ?_
        obtain ⟨b64, H⟩ := H
        refine zq_iald (sh_67 hw) b64 dX11_does_92 ?_
        refine zq_bipush (v := (nI 126)) rfl dX11_does_93 ?_
        refine zq_icmp_ne (tgt := 117) dX11_does_95 rfl ⟨fun c65 => ?_, fun c65 => ?_⟩
        · have H := H.1 c65
          refine zq_aload_n (k := 0) (i := 0) (x := 53) 3 rfl rfl dX11_does_117 ?_
          refine zq_getP fl_RX11_52 rfl (sh_53 hw) (rf_53_23 hw) dX11_does_118 ?_
          refine zq_iload_n (k := 1) (i := 1) (x := i1) 4 rfl rfl dX11_does_121 ?_
          obtain ⟨b66, H⟩ := H
          refine zq_iald (sh_67 hw) b66 dX11_does_122 ?_
          refine zq_bipush (v := (nI 45)) rfl dX11_does_123 ?_
          refine zq_icmp_ne (tgt := 133) dX11_does_125 rfl ⟨fun c67 => ?_, fun c67 => ?_⟩
          · have H := H.1 c67
            refine zq_aload_n (k := 0) (i := 0) (x := 53) 3 rfl rfl dX11_does_133 ?_
            refine zq_getP fl_RX11_52 rfl (sh_53 hw) (rf_53_23 hw) dX11_does_134 ?_
            refine zq_iload_n (k := 1) (i := 1) (x := i1) 4 rfl rfl dX11_does_137 ?_
            obtain ⟨b68, H⟩ := H
            refine zq_iald (sh_67 hw) b68 dX11_does_138 ?_
            refine zq_bipush (v := (nI 126)) rfl dX11_does_139 ?_
            refine zq_icmp_ne (tgt := 155) dX11_does_141 rfl ⟨fun c69 => ?_, fun c69 => ?_⟩
            · have H := H.1 c69
              exact zq_vret dX11_does_155 rfl H
            · have H := H.2 c69
              refine zq_iload (i := 4) (x := x5) 0 rfl dX11_does_144 ?_
              refine zq_if_eq (tgt := 155) dX11_does_146 rfl ⟨fun c70 => ?_, fun c70 => ?_⟩
              · have H := H.1 c70
                exact zq_vret dX11_does_155 rfl H
              · have H := H.2 c70
                refine zq_aload_n (k := 0) (i := 0) (x := 53) 3 rfl rfl dX11_does_149 ?_
                refine zq_iload_n (k := 2) (i := 2) (x := (h.I 67 (i1 + (nI 1)).toNatClampNeg)) 2 rfl rfl dX11_does_150 ?_
                refine zq_iload_n (k := 3) (i := 3) (x := (h.I 67 (i1 + (nI 2)).toNatClampNeg)) 1 rfl rfl dX11_does_151 ?_
                refine zq_invV (as := [.int (h.I 67 (i1 + (nI 1)).toNatClampNeg), .int (h.I 67 (i1 + (nI 2)).toNatClampNeg)]) (st := []) (o := 53) (c := 10) (by decide) rfl (sh_53 hw) in_X11_goes se_X11_goes mo_X11_goes ml_RX11_126 rfl (Nat.le_of_ble_eq_true rfl) dX11_does_152 rfl H (fun r1 h71 hq => ?_)
                obtain ⟨rfl, wh71, H⟩ := hq
                show zQ none m_X11_does (d + 1) 155 [(4, .int x5), (3, .int (h.I 67 (i1 + (nI 2)).toNatClampNeg)), (2, .int (h.I 67 (i1 + (nI 1)).toNatClampNeg)), (0, .ref 53), (1, .int i1)] ([]) h71 Q
                exact zq_vret dX11_does_155 rfl H
          · have H := H.2 c67
            refine zq_iload (i := 4) (x := x5) 0 rfl dX11_does_128 ?_
            refine zq_if_ne (tgt := 149) dX11_does_130 rfl ⟨fun c72 => ?_, fun c72 => ?_⟩
            · have H := H.1 c72
              refine zq_aload_n (k := 0) (i := 0) (x := 53) 3 rfl rfl dX11_does_149 ?_
              refine zq_iload_n (k := 2) (i := 2) (x := (h.I 67 (i1 + (nI 1)).toNatClampNeg)) 2 rfl rfl dX11_does_150 ?_
              refine zq_iload_n (k := 3) (i := 3) (x := (h.I 67 (i1 + (nI 2)).toNatClampNeg)) 1 rfl rfl dX11_does_151 ?_
              refine zq_invV (as := [.int (h.I 67 (i1 + (nI 1)).toNatClampNeg), .int (h.I 67 (i1 + (nI 2)).toNatClampNeg)]) (st := []) (o := 53) (c := 10) (by decide) rfl (sh_53 hw) in_X11_goes se_X11_goes mo_X11_goes ml_RX11_126 rfl (Nat.le_of_ble_eq_true rfl) dX11_does_152 rfl H (fun r1 h73 hq => ?_)
              obtain ⟨rfl, wh73, H⟩ := hq
              show zQ none m_X11_does (d + 1) 155 [(4, .int x5), (3, .int (h.I 67 (i1 + (nI 2)).toNatClampNeg)), (2, .int (h.I 67 (i1 + (nI 1)).toNatClampNeg)), (0, .ref 53), (1, .int i1)] ([]) h73 Q
              exact zq_vret dX11_does_155 rfl H
            · have H := H.2 c72
              refine zq_aload_n (k := 0) (i := 0) (x := 53) 3 rfl rfl dX11_does_133 ?_
              refine zq_getP fl_RX11_52 rfl (sh_53 hw) (rf_53_23 hw) dX11_does_134 ?_
              refine zq_iload_n (k := 1) (i := 1) (x := i1) 4 rfl rfl dX11_does_137 ?_
              obtain ⟨b74, H⟩ := H
              refine zq_iald (sh_67 hw) b74 dX11_does_138 ?_
              refine zq_bipush (v := (nI 126)) rfl dX11_does_139 ?_
              refine zq_icmp_ne (tgt := 155) dX11_does_141 rfl ⟨fun c75 => ?_, fun c75 => ?_⟩
              · have H := H.1 c75
                exact zq_vret dX11_does_155 rfl H
              · have H := H.2 c75
                refine zq_iload (i := 4) (x := x5) 0 rfl dX11_does_144 ?_
                refine zq_if_eq (tgt := 155) dX11_does_146 rfl ⟨fun c76 => ?_, fun c76 => ?_⟩
                · have H := H.1 c76
                  exact zq_vret dX11_does_155 rfl H
                · have H := H.2 c76
                  refine zq_aload_n (k := 0) (i := 0) (x := 53) 3 rfl rfl dX11_does_149 ?_
                  refine zq_iload_n (k := 2) (i := 2) (x := (h.I 67 (i1 + (nI 1)).toNatClampNeg)) 2 rfl rfl dX11_does_150 ?_
                  refine zq_iload_n (k := 3) (i := 3) (x := (h.I 67 (i1 + (nI 2)).toNatClampNeg)) 1 rfl rfl dX11_does_151 ?_
                  refine zq_invV (as := [.int (h.I 67 (i1 + (nI 1)).toNatClampNeg), .int (h.I 67 (i1 + (nI 2)).toNatClampNeg)]) (st := []) (o := 53) (c := 10) (by decide) rfl (sh_53 hw) in_X11_goes se_X11_goes mo_X11_goes ml_RX11_126 rfl (Nat.le_of_ble_eq_true rfl) dX11_does_152 rfl H (fun r1 h77 hq => ?_)
                  obtain ⟨rfl, wh77, H⟩ := hq
                  show zQ none m_X11_does (d + 1) 155 [(4, .int x5), (3, .int (h.I 67 (i1 + (nI 2)).toNatClampNeg)), (2, .int (h.I 67 (i1 + (nI 1)).toNatClampNeg)), (0, .ref 53), (1, .int i1)] ([]) h77 Q
                  exact zq_vret dX11_does_155 rfl H
        · have H := H.2 c65
          refine zq_iload (i := 4) (x := x5) 0 rfl dX11_does_98 ?_
          refine zq_if_ne (tgt := 117) dX11_does_100 rfl ⟨fun c78 => ?_, fun c78 => ?_⟩
          · have H := H.1 c78
            refine zq_aload_n (k := 0) (i := 0) (x := 53) 3 rfl rfl dX11_does_117 ?_
            refine zq_getP fl_RX11_52 rfl (sh_53 hw) (rf_53_23 hw) dX11_does_118 ?_
            refine zq_iload_n (k := 1) (i := 1) (x := i1) 4 rfl rfl dX11_does_121 ?_
            obtain ⟨b79, H⟩ := H
            refine zq_iald (sh_67 hw) b79 dX11_does_122 ?_
            refine zq_bipush (v := (nI 45)) rfl dX11_does_123 ?_
            refine zq_icmp_ne (tgt := 133) dX11_does_125 rfl ⟨fun c80 => ?_, fun c80 => ?_⟩
            · have H := H.1 c80
              refine zq_aload_n (k := 0) (i := 0) (x := 53) 3 rfl rfl dX11_does_133 ?_
              refine zq_getP fl_RX11_52 rfl (sh_53 hw) (rf_53_23 hw) dX11_does_134 ?_
              refine zq_iload_n (k := 1) (i := 1) (x := i1) 4 rfl rfl dX11_does_137 ?_
              obtain ⟨b81, H⟩ := H
              refine zq_iald (sh_67 hw) b81 dX11_does_138 ?_
              refine zq_bipush (v := (nI 126)) rfl dX11_does_139 ?_
              refine zq_icmp_ne (tgt := 155) dX11_does_141 rfl ⟨fun c82 => ?_, fun c82 => ?_⟩
              · have H := H.1 c82
                exact zq_vret dX11_does_155 rfl H
              · have H := H.2 c82
                refine zq_iload (i := 4) (x := x5) 0 rfl dX11_does_144 ?_
                refine zq_if_eq (tgt := 155) dX11_does_146 rfl ⟨fun c83 => ?_, fun c83 => ?_⟩
                · have H := H.1 c83
                  exact zq_vret dX11_does_155 rfl H
                · have H := H.2 c83
                  refine zq_aload_n (k := 0) (i := 0) (x := 53) 3 rfl rfl dX11_does_149 ?_
                  refine zq_iload_n (k := 2) (i := 2) (x := (h.I 67 (i1 + (nI 1)).toNatClampNeg)) 2 rfl rfl dX11_does_150 ?_
                  refine zq_iload_n (k := 3) (i := 3) (x := (h.I 67 (i1 + (nI 2)).toNatClampNeg)) 1 rfl rfl dX11_does_151 ?_
                  refine zq_invV (as := [.int (h.I 67 (i1 + (nI 1)).toNatClampNeg), .int (h.I 67 (i1 + (nI 2)).toNatClampNeg)]) (st := []) (o := 53) (c := 10) (by decide) rfl (sh_53 hw) in_X11_goes se_X11_goes mo_X11_goes ml_RX11_126 rfl (Nat.le_of_ble_eq_true rfl) dX11_does_152 rfl H (fun r1 h84 hq => ?_)
                  obtain ⟨rfl, wh84, H⟩ := hq
                  show zQ none m_X11_does (d + 1) 155 [(4, .int x5), (3, .int (h.I 67 (i1 + (nI 2)).toNatClampNeg)), (2, .int (h.I 67 (i1 + (nI 1)).toNatClampNeg)), (0, .ref 53), (1, .int i1)] ([]) h84 Q
                  exact zq_vret dX11_does_155 rfl H
            · have H := H.2 c80
              refine zq_iload (i := 4) (x := x5) 0 rfl dX11_does_128 ?_
              refine zq_if_ne (tgt := 149) dX11_does_130 rfl ⟨fun c85 => ?_, fun c85 => ?_⟩
              · have H := H.1 c85
                refine zq_aload_n (k := 0) (i := 0) (x := 53) 3 rfl rfl dX11_does_149 ?_
                refine zq_iload_n (k := 2) (i := 2) (x := (h.I 67 (i1 + (nI 1)).toNatClampNeg)) 2 rfl rfl dX11_does_150 ?_
                refine zq_iload_n (k := 3) (i := 3) (x := (h.I 67 (i1 + (nI 2)).toNatClampNeg)) 1 rfl rfl dX11_does_151 ?_
                refine zq_invV (as := [.int (h.I 67 (i1 + (nI 1)).toNatClampNeg), .int (h.I 67 (i1 + (nI 2)).toNatClampNeg)]) (st := []) (o := 53) (c := 10) (by decide) rfl (sh_53 hw) in_X11_goes se_X11_goes mo_X11_goes ml_RX11_126 rfl (Nat.le_of_ble_eq_true rfl) dX11_does_152 rfl H (fun r1 h86 hq => ?_)
                obtain ⟨rfl, wh86, H⟩ := hq
                show zQ none m_X11_does (d + 1) 155 [(4, .int x5), (3, .int (h.I 67 (i1 + (nI 2)).toNatClampNeg)), (2, .int (h.I 67 (i1 + (nI 1)).toNatClampNeg)), (0, .ref 53), (1, .int i1)] ([]) h86 Q
                exact zq_vret dX11_does_155 rfl H
              · have H := H.2 c85
                refine zq_aload_n (k := 0) (i := 0) (x := 53) 3 rfl rfl dX11_does_133 ?_
                refine zq_getP fl_RX11_52 rfl (sh_53 hw) (rf_53_23 hw) dX11_does_134 ?_
                refine zq_iload_n (k := 1) (i := 1) (x := i1) 4 rfl rfl dX11_does_137 ?_
                obtain ⟨b87, H⟩ := H
                refine zq_iald (sh_67 hw) b87 dX11_does_138 ?_
                refine zq_bipush (v := (nI 126)) rfl dX11_does_139 ?_
                refine zq_icmp_ne (tgt := 155) dX11_does_141 rfl ⟨fun c88 => ?_, fun c88 => ?_⟩
                · have H := H.1 c88
                  exact zq_vret dX11_does_155 rfl H
                · have H := H.2 c88
                  refine zq_iload (i := 4) (x := x5) 0 rfl dX11_does_144 ?_
                  refine zq_if_eq (tgt := 155) dX11_does_146 rfl ⟨fun c89 => ?_, fun c89 => ?_⟩
                  · have H := H.1 c89
                    exact zq_vret dX11_does_155 rfl H
                  · have H := H.2 c89
                    refine zq_aload_n (k := 0) (i := 0) (x := 53) 3 rfl rfl dX11_does_149 ?_
                    refine zq_iload_n (k := 2) (i := 2) (x := (h.I 67 (i1 + (nI 1)).toNatClampNeg)) 2 rfl rfl dX11_does_150 ?_
                    refine zq_iload_n (k := 3) (i := 3) (x := (h.I 67 (i1 + (nI 2)).toNatClampNeg)) 1 rfl rfl dX11_does_151 ?_
                    refine zq_invV (as := [.int (h.I 67 (i1 + (nI 1)).toNatClampNeg), .int (h.I 67 (i1 + (nI 2)).toNatClampNeg)]) (st := []) (o := 53) (c := 10) (by decide) rfl (sh_53 hw) in_X11_goes se_X11_goes mo_X11_goes ml_RX11_126 rfl (Nat.le_of_ble_eq_true rfl) dX11_does_152 rfl H (fun r1 h90 hq => ?_)
                    obtain ⟨rfl, wh90, H⟩ := hq
                    show zQ none m_X11_does (d + 1) 155 [(4, .int x5), (3, .int (h.I 67 (i1 + (nI 2)).toNatClampNeg)), (2, .int (h.I 67 (i1 + (nI 1)).toNatClampNeg)), (0, .ref 53), (1, .int i1)] ([]) h90 Q
                    exact zq_vret dX11_does_155 rfl H
          · have H := H.2 c78
            refine zq_aload_n (k := 0) (i := 0) (x := 53) 3 rfl rfl dX11_does_103 ?_
            refine zq_iload_n (k := 2) (i := 2) (x := (h.I 67 (i1 + (nI 1)).toNatClampNeg)) 2 rfl rfl dX11_does_104 ?_
            refine zq_iload_n (k := 3) (i := 3) (x := (h.I 67 (i1 + (nI 2)).toNatClampNeg)) 1 rfl rfl dX11_does_105 ?_
            refine zq_aload_n (k := 0) (i := 0) (x := 53) 3 rfl rfl dX11_does_106 ?_
            refine zq_getP fl_RX11_52 rfl (sh_53 hw) (rf_53_23 hw) dX11_does_107 ?_
            refine zq_iload_n (k := 1) (i := 1) (x := i1) 4 rfl rfl dX11_does_110 ?_
            refine zq_iconst (v := (nI 3)) rfl dX11_does_111 ?_
            refine zq_iadd dX11_does_112 ?_
            obtain ⟨b91, H⟩ := H
            refine zq_iald (sh_67 hw) b91 dX11_does_113 ?_
            refine zq_invV (as := [.int (h.I 67 (i1 + (nI 1)).toNatClampNeg), .int (h.I 67 (i1 + (nI 2)).toNatClampNeg), .int (h.I 67 (i1 + (nI 3)).toNatClampNeg)]) (st := []) (o := 53) (c := 10) (by decide) rfl (sh_53 hw) in_X11_comes se_X11_comes mo_X11_comes ml_RX11_119 rfl (Nat.le_of_ble_eq_true rfl) dX11_does_114 rfl H (fun r1 h92 hq => ?_)
            obtain ⟨rfl, wh92, H⟩ := hq
            show zQ none m_X11_does (d + 1) 117 [(4, .int x5), (3, .int (h.I 67 (i1 + (nI 2)).toNatClampNeg)), (2, .int (h.I 67 (i1 + (nI 1)).toNatClampNeg)), (0, .ref 53), (1, .int i1)] ([]) h92 Q
            refine zq_aload_n (k := 0) (i := 0) (x := 53) 3 rfl rfl dX11_does_117 ?_
            refine zq_getP fl_RX11_52 rfl (sh_53 wh92) (rf_53_23 wh92) dX11_does_118 ?_
            refine zq_iload_n (k := 1) (i := 1) (x := i1) 4 rfl rfl dX11_does_121 ?_
            obtain ⟨b93, H⟩ := H
            refine zq_iald (sh_67 wh92) b93 dX11_does_122 ?_
            refine zq_bipush (v := (nI 45)) rfl dX11_does_123 ?_
            refine zq_icmp_ne (tgt := 133) dX11_does_125 rfl ⟨fun c94 => ?_, fun c94 => ?_⟩
            · have H := H.1 c94
              refine zq_aload_n (k := 0) (i := 0) (x := 53) 3 rfl rfl dX11_does_133 ?_
              refine zq_getP fl_RX11_52 rfl (sh_53 wh92) (rf_53_23 wh92) dX11_does_134 ?_
              refine zq_iload_n (k := 1) (i := 1) (x := i1) 4 rfl rfl dX11_does_137 ?_
              obtain ⟨b95, H⟩ := H
              refine zq_iald (sh_67 wh92) b95 dX11_does_138 ?_
              refine zq_bipush (v := (nI 126)) rfl dX11_does_139 ?_
              refine zq_icmp_ne (tgt := 155) dX11_does_141 rfl ⟨fun c96 => ?_, fun c96 => ?_⟩
              · have H := H.1 c96
                exact zq_vret dX11_does_155 rfl H
              · have H := H.2 c96
                refine zq_iload (i := 4) (x := x5) 0 rfl dX11_does_144 ?_
                refine zq_if_eq (tgt := 155) dX11_does_146 rfl ⟨fun c97 => ?_, fun c97 => ?_⟩
                · have H := H.1 c97
                  exact zq_vret dX11_does_155 rfl H
                · have H := H.2 c97
                  refine zq_aload_n (k := 0) (i := 0) (x := 53) 3 rfl rfl dX11_does_149 ?_
                  refine zq_iload_n (k := 2) (i := 2) (x := (h.I 67 (i1 + (nI 1)).toNatClampNeg)) 2 rfl rfl dX11_does_150 ?_
                  refine zq_iload_n (k := 3) (i := 3) (x := (h.I 67 (i1 + (nI 2)).toNatClampNeg)) 1 rfl rfl dX11_does_151 ?_
                  refine zq_invV (as := [.int (h.I 67 (i1 + (nI 1)).toNatClampNeg), .int (h.I 67 (i1 + (nI 2)).toNatClampNeg)]) (st := []) (o := 53) (c := 10) (by decide) rfl (sh_53 wh92) in_X11_goes se_X11_goes mo_X11_goes ml_RX11_126 rfl (Nat.le_of_ble_eq_true rfl) dX11_does_152 rfl H (fun r1 h98 hq => ?_)
                  obtain ⟨rfl, wh98, H⟩ := hq
                  show zQ none m_X11_does (d + 1) 155 [(4, .int x5), (3, .int (h.I 67 (i1 + (nI 2)).toNatClampNeg)), (2, .int (h.I 67 (i1 + (nI 1)).toNatClampNeg)), (0, .ref 53), (1, .int i1)] ([]) h98 Q
                  exact zq_vret dX11_does_155 rfl H
            · have H := H.2 c94
              refine zq_iload (i := 4) (x := x5) 0 rfl dX11_does_128 ?_
              refine zq_if_ne (tgt := 149) dX11_does_130 rfl ⟨fun c99 => ?_, fun c99 => ?_⟩
              · have H := H.1 c99
                refine zq_aload_n (k := 0) (i := 0) (x := 53) 3 rfl rfl dX11_does_149 ?_
                refine zq_iload_n (k := 2) (i := 2) (x := (h.I 67 (i1 + (nI 1)).toNatClampNeg)) 2 rfl rfl dX11_does_150 ?_
                refine zq_iload_n (k := 3) (i := 3) (x := (h.I 67 (i1 + (nI 2)).toNatClampNeg)) 1 rfl rfl dX11_does_151 ?_
                refine zq_invV (as := [.int (h.I 67 (i1 + (nI 1)).toNatClampNeg), .int (h.I 67 (i1 + (nI 2)).toNatClampNeg)]) (st := []) (o := 53) (c := 10) (by decide) rfl (sh_53 wh92) in_X11_goes se_X11_goes mo_X11_goes ml_RX11_126 rfl (Nat.le_of_ble_eq_true rfl) dX11_does_152 rfl H (fun r1 h100 hq => ?_)
                obtain ⟨rfl, wh100, H⟩ := hq
                show zQ none m_X11_does (d + 1) 155 [(4, .int x5), (3, .int (h.I 67 (i1 + (nI 2)).toNatClampNeg)), (2, .int (h.I 67 (i1 + (nI 1)).toNatClampNeg)), (0, .ref 53), (1, .int i1)] ([]) h100 Q
                exact zq_vret dX11_does_155 rfl H
              · have H := H.2 c99
                refine zq_aload_n (k := 0) (i := 0) (x := 53) 3 rfl rfl dX11_does_133 ?_
                refine zq_getP fl_RX11_52 rfl (sh_53 wh92) (rf_53_23 wh92) dX11_does_134 ?_
                refine zq_iload_n (k := 1) (i := 1) (x := i1) 4 rfl rfl dX11_does_137 ?_
                obtain ⟨b101, H⟩ := H
                refine zq_iald (sh_67 wh92) b101 dX11_does_138 ?_
                refine zq_bipush (v := (nI 126)) rfl dX11_does_139 ?_
                refine zq_icmp_ne (tgt := 155) dX11_does_141 rfl ⟨fun c102 => ?_, fun c102 => ?_⟩
                · have H := H.1 c102
                  exact zq_vret dX11_does_155 rfl H
                · have H := H.2 c102
                  refine zq_iload (i := 4) (x := x5) 0 rfl dX11_does_144 ?_
                  refine zq_if_eq (tgt := 155) dX11_does_146 rfl ⟨fun c103 => ?_, fun c103 => ?_⟩
                  · have H := H.1 c103
                    exact zq_vret dX11_does_155 rfl H
                  · have H := H.2 c103
                    refine zq_aload_n (k := 0) (i := 0) (x := 53) 3 rfl rfl dX11_does_149 ?_
                    refine zq_iload_n (k := 2) (i := 2) (x := (h.I 67 (i1 + (nI 1)).toNatClampNeg)) 2 rfl rfl dX11_does_150 ?_
                    refine zq_iload_n (k := 3) (i := 3) (x := (h.I 67 (i1 + (nI 2)).toNatClampNeg)) 1 rfl rfl dX11_does_151 ?_
                    refine zq_invV (as := [.int (h.I 67 (i1 + (nI 1)).toNatClampNeg), .int (h.I 67 (i1 + (nI 2)).toNatClampNeg)]) (st := []) (o := 53) (c := 10) (by decide) rfl (sh_53 wh92) in_X11_goes se_X11_goes mo_X11_goes ml_RX11_126 rfl (Nat.le_of_ble_eq_true rfl) dX11_does_152 rfl H (fun r1 h104 hq => ?_)
                    obtain ⟨rfl, wh104, H⟩ := hq
                    show zQ none m_X11_does (d + 1) 155 [(4, .int x5), (3, .int (h.I 67 (i1 + (nI 2)).toNatClampNeg)), (2, .int (h.I 67 (i1 + (nI 1)).toNatClampNeg)), (0, .ref 53), (1, .int i1)] ([]) h104 Q
                    exact zq_vret dX11_does_155 rfl H
  · have H := H.2 c4
    refine zq_iconst (v := (nI 0)) rfl dX11_does_29 ?_
    refine zq_istore (ls' := [(4, .int (nI 0)), (3, .int (h.I 67 (i1 + (nI 2)).toNatClampNeg)), (2, .int (h.I 67 (i1 + (nI 1)).toNatClampNeg)), (0, .ref 53), (1, .int i1)]) (i := 4) (Nat.le_of_ble_eq_true rfl) rfl dX11_does_30 ?_
    exact zq_sub (ls' := [(0, .ref 53), (2, .int (h.I 67 (i1 + (nI 1)).toNatClampNeg)), (4, .int (nI 0))]) [3, 2, 0] rfl H
set_option maxHeartbeats 2000000 in
set_option maxRecDepth 20000 in
theorem r_X11_does_32 {d : Nat} {h : AH} {Q : Option Value → AH → Prop} (i2 : Int32) (i4 : Int32) (hw : zWF h)  (H : ((nI 40) ≤ i4 → Q none h) ∧ (¬ (nI 40) ≤ i4 → zK d m_X11_isEdge [.ref 53, .int i2, .int i4] h (pI h fun x2 => (x2 = 0 → zQ none m_X11_does (d + 1) 32 [(0, .ref 53), (2, .int i2), (4, .int (i4 + (nI 1)))] [] h Q) ∧ (¬ x2 = 0 → zK d m_X11_goes [.ref 53, .int i2, .int i4] h (kV fun h4 => zQ none m_X11_does (d + 1) 32 [(0, .ref 53), (2, .int i2), (4, .int (i4 + (nI 1)))] [] h4 Q))))) : zQ none m_X11_does (d + 1) 32 [(0, .ref 53), (2, .int i2), (4, .int i4)] [] h Q := by
  refine zq_iload (i := 4) (x := i4) 2 rfl dX11_does_32 ?_
  refine zq_bipush (v := (nI 40)) rfl dX11_does_34 ?_
  refine zq_icmp_ge (tgt := 62) dX11_does_36 rfl ⟨fun c1 => ?_, fun c1 => ?_⟩
  · have H := H.1 c1
    exact zq_vret dX11_does_62 rfl H
  · have H := H.2 c1
    refine zq_aload_n (k := 0) (i := 0) (x := 53) 0 rfl rfl dX11_does_39 ?_
    refine zq_iload_n (k := 2) (i := 2) (x := i2) 1 rfl rfl dX11_does_40 ?_
    refine zq_iload (i := 4) (x := i4) 2 rfl dX11_does_41 ?_
    refine zq_invV (as := [.int i2, .int i4]) (st := []) (o := 53) (c := 10) (by decide) rfl (sh_53 hw) in_X11_isEdge se_X11_isEdge mo_X11_isEdge ml_RX11_116 rfl (Nat.le_of_ble_eq_true rfl) dX11_does_43 rfl H (fun r1 h1 hq => ?_)
    obtain ⟨x2, rfl, rfl, H⟩ := hq
    show zQ none m_X11_does (d + 1) 46 [(0, .ref 53), (2, .int i2), (4, .int i4)] (.int x2 :: []) h Q
    refine zq_if_eq (tgt := 56) dX11_does_46 rfl ⟨fun c3 => ?_, fun c3 => ?_⟩
    · have H := H.1 c3
      refine zq_iinc (i := 4) (x := i4) (v := (nI 1)) (ls' := [(4, .int (i4 + (nI 1))), (0, .ref 53), (2, .int i2)]) 2 rfl rfl (Nat.le_of_ble_eq_true rfl) rfl dX11_does_56 ?_
      refine zq_goto (tgt := 32) dX11_does_59 rfl ?_
      exact zq_sub (ls' := [(0, .ref 53), (2, .int i2), (4, .int (i4 + (nI 1)))]) [1, 2, 0] rfl H
    · have H := H.2 c3
      refine zq_aload_n (k := 0) (i := 0) (x := 53) 0 rfl rfl dX11_does_49 ?_
      refine zq_iload_n (k := 2) (i := 2) (x := i2) 1 rfl rfl dX11_does_50 ?_
      refine zq_iload (i := 4) (x := i4) 2 rfl dX11_does_51 ?_
      refine zq_invV (as := [.int i2, .int i4]) (st := []) (o := 53) (c := 10) (by decide) rfl (sh_53 hw) in_X11_goes se_X11_goes mo_X11_goes ml_RX11_126 rfl (Nat.le_of_ble_eq_true rfl) dX11_does_53 rfl H (fun r1 h4 hq => ?_)
      obtain ⟨rfl, wh4, H⟩ := hq
      show zQ none m_X11_does (d + 1) 56 [(0, .ref 53), (2, .int i2), (4, .int i4)] ([]) h4 Q
      refine zq_iinc (i := 4) (x := i4) (v := (nI 1)) (ls' := [(4, .int (i4 + (nI 1))), (0, .ref 53), (2, .int i2)]) 2 rfl rfl (Nat.le_of_ble_eq_true rfl) rfl dX11_does_56 ?_
      refine zq_goto (tgt := 32) dX11_does_59 rfl ?_
      exact zq_sub (ls' := [(0, .ref 53), (2, .int i2), (4, .int (i4 + (nI 1)))]) [1, 2, 0] rfl H
set_option maxHeartbeats 2000000 in
set_option maxRecDepth 20000 in
theorem r_X11_batch_0 {d : Nat} {h : AH} {Q : Option Value → AH → Prop}  (hw : zWF h)  (H : zK d m_X11_begins [.ref 53] h (kV fun h1 => zQ none m_X11_batch (d + 1) 8 [(0, .ref 53), (1, .int (nI 0)), (2, .int (nI 1))] [] h1 Q)) : zK (d + 1) m_X11_batch [.ref 53] h Q := by
  refine zK_of mo_X11_batch (Nat.le_of_ble_eq_true rfl) ?_
  show zQ none m_X11_batch (d + 1) 0 [(0, .ref 53)] [] h Q
  refine zq_aload_n (k := 0) (i := 0) (x := 53) 0 rfl rfl dX11_batch_0 ?_
  refine zq_invV (as := []) (st := []) (o := 53) (c := 10) (by decide) rfl (sh_53 hw) in_X11_begins se_X11_begins mo_X11_begins ml_RX11_250 rfl (Nat.le_of_ble_eq_true rfl) dX11_batch_1 rfl H (fun r1 h1 hq => ?_)
  obtain ⟨rfl, wh1, H⟩ := hq
  show zQ none m_X11_batch (d + 1) 4 [(0, .ref 53)] ([]) h1 Q
  refine zq_iconst (v := (nI 0)) rfl dX11_batch_4 ?_
  refine zq_istore_n (ls' := [(1, .int (nI 0)), (0, .ref 53)]) (k := 1) (i := 1) rfl (Nat.le_of_ble_eq_true rfl) rfl dX11_batch_5 ?_
  refine zq_iconst (v := (nI 1)) rfl dX11_batch_6 ?_
  refine zq_istore_n (ls' := [(2, .int (nI 1)), (1, .int (nI 0)), (0, .ref 53)]) (k := 2) (i := 2) rfl (Nat.le_of_ble_eq_true rfl) rfl dX11_batch_7 ?_
  exact zq_sub (ls' := [(0, .ref 53), (1, .int (nI 0)), (2, .int (nI 1))]) [2, 1, 0] rfl H
set_option maxHeartbeats 2000000 in
set_option maxRecDepth 20000 in
theorem r_X11_batch_8 {d : Nat} {h : AH} {Q : Option Value → AH → Prop} (i1 : Int32) (i2 : Int32) (hw : zWF h)  (H : (i2 = 0 → ∀ h2, h2 = h.sI 53 19 (nI 0) → ((h2.I 53 21) < 0 → vp_in (nI 4) 187 ∧ (zQ none m_X11_batch (d + 1) 87 [(0, .ref 53), (1, .int i1), (3, .int (h2.I 54 (nI 4).toNatClampNeg)), (4, .int (nI 0))] [] h2 Q)) ∧ (¬ (h2.I 53 21) < 0 → Q (some (.int ((-100) - (h2.I 53 21)))) h2)) ∧ (¬ i2 = 0 → zK d m_X11_isPart [.ref 53, .int ((nI 4) * i1)] h (kI fun x6 h5 => (x6 = 0 → (x6 = 0 → zQ none m_X11_batch (d + 1) 8 [(0, .ref 53), (1, .int (i1 + (nI 1))), (2, .int x6)] [] h5 Q) ∧ (¬ x6 = 0 → zK d m_X11_isSign [.ref 53, .int (nI 59)] h5 (kI fun x10 h9 => zQ none m_X11_batch (d + 1) 8 [(0, .ref 53), (1, .int (i1 + (nI 1))), (2, .int x10)] [] h9 Q))) ∧ (¬ x6 = 0 → ((h5.I 53 20) ≠ (h5.I 53 19) → (x6 = 0 → zQ none m_X11_batch (d + 1) 8 [(0, .ref 53), (1, .int (i1 + (nI 1))), (2, .int x6)] [] h5 Q) ∧ (¬ x6 = 0 → zK d m_X11_isSign [.ref 53, .int (nI 59)] h5 (kI fun x14 h13 => zQ none m_X11_batch (d + 1) 8 [(0, .ref 53), (1, .int (i1 + (nI 1))), (2, .int x14)] [] h13 Q))) ∧ ((h5.I 53 20) = (h5.I 53 19) → zQ none m_X11_batch (d + 1) 8 [(0, .ref 53), (1, .int (i1 + (nI 1))), (2, .int (nI 0))] [] h5 Q))))) : zQ none m_X11_batch (d + 1) 8 [(0, .ref 53), (1, .int i1), (2, .int i2)] [] h Q := by
  refine zq_iload_n (k := 2) (i := 2) (x := i2) 2 rfl rfl dX11_batch_8 ?_
  refine zq_if_eq (tgt := 57) dX11_batch_9 rfl ⟨fun c1 => ?_, fun c1 => ?_⟩
  · have H := H.1 c1
    refine zq_aload_n (k := 0) (i := 0) (x := 53) 0 rfl rfl dX11_batch_57 ?_
    refine zq_iconst (v := (nI 0)) rfl dX11_batch_58 ?_
    refine zq_putI fl_RX11_223 rfl (Or.inl rfl) (sh_53 hw) rfl rfl dX11_batch_59 (fun h2 eh2 => ?_)
    have H := H h2 eh2
    have wh2 := wf_I eh2 hw
    refine zq_aload_n (k := 0) (i := 0) (x := 53) 0 rfl rfl dX11_batch_62 ?_
    refine zq_getI fl_RX11_229 rfl (sh_53 wh2) dX11_batch_63 ?_
    refine zq_if_lt (tgt := 77) dX11_batch_66 rfl ⟨fun c3 => ?_, fun c3 => ?_⟩
    · have H := H.1 c3
      refine zq_aload_n (k := 0) (i := 0) (x := 53) 0 rfl rfl dX11_batch_77 ?_
      refine zq_getP fl_RX11_11 rfl (sh_53 wh2) (rf_53_0 wh2) dX11_batch_78 ?_
      refine zq_iconst (v := (nI 4)) rfl dX11_batch_81 ?_
      obtain ⟨b4, H⟩ := H
      refine zq_iald (sh_54 wh2) b4 dX11_batch_82 ?_
      refine zq_istore_n (ls' := [(3, .int (h2.I 54 (nI 4).toNatClampNeg)), (0, .ref 53), (1, .int i1), (2, .int i2)]) (k := 3) (i := 3) rfl (Nat.le_of_ble_eq_true rfl) rfl dX11_batch_83 ?_
      refine zq_iconst (v := (nI 0)) rfl dX11_batch_84 ?_
      refine zq_istore (ls' := [(4, .int (nI 0)), (3, .int (h2.I 54 (nI 4).toNatClampNeg)), (0, .ref 53), (1, .int i1), (2, .int i2)]) (i := 4) (Nat.le_of_ble_eq_true rfl) rfl dX11_batch_85 ?_
      exact zq_sub (ls' := [(0, .ref 53), (1, .int i1), (3, .int (h2.I 54 (nI 4).toNatClampNeg)), (4, .int (nI 0))]) [2, 3, 1, 0] rfl H
    · have H := H.2 c3
      refine zq_bipush (v := (-100)) rfl dX11_batch_69 ?_
      refine zq_aload_n (k := 0) (i := 0) (x := 53) 0 rfl rfl dX11_batch_71 ?_
      refine zq_getI fl_RX11_229 rfl (sh_53 wh2) dX11_batch_72 ?_
      refine zq_isub dX11_batch_75 ?_
      exact zq_iret dX11_batch_76 rfl rfl rfl H
  · have H := H.2 c1
    refine zq_aload_n (k := 0) (i := 0) (x := 53) 0 rfl rfl dX11_batch_12 ?_
    refine zq_iconst (v := (nI 4)) rfl dX11_batch_13 ?_
    refine zq_iload_n (k := 1) (i := 1) (x := i1) 1 rfl rfl dX11_batch_14 ?_
    refine zq_imul dX11_batch_15 ?_
    refine zq_invV (as := [.int ((nI 4) * i1)]) (st := []) (o := 53) (c := 10) (by decide) rfl (sh_53 hw) in_X11_isPart se_X11_isPart mo_X11_isPart ml_RX11_253 rfl (Nat.le_of_ble_eq_true rfl) dX11_batch_16 rfl H (fun r1 h5 hq => ?_)
    obtain ⟨x6, rfl, wh5, H⟩ := hq
    show zQ none m_X11_batch (d + 1) 19 [(0, .ref 53), (1, .int i1), (2, .int i2)] (.int x6 :: []) h5 Q
    refine zq_istore_n (ls' := [(2, .int x6), (0, .ref 53), (1, .int i1)]) (k := 2) (i := 2) rfl (Nat.le_of_ble_eq_true rfl) rfl dX11_batch_19 ?_
    refine zq_iinc (i := 1) (x := i1) (v := (nI 1)) (ls' := [(1, .int (i1 + (nI 1))), (2, .int x6), (0, .ref 53)]) 2 rfl rfl (Nat.le_of_ble_eq_true rfl) rfl dX11_batch_20 ?_
    refine zq_iload_n (k := 2) (i := 2) (x := x6) 1 rfl rfl dX11_batch_23 ?_
    refine zq_if_eq (tgt := 43) dX11_batch_24 rfl ⟨fun c7 => ?_, fun c7 => ?_⟩
    · have H := H.1 c7
      refine zq_iload_n (k := 2) (i := 2) (x := x6) 1 rfl rfl dX11_batch_43 ?_
      refine zq_if_eq (tgt := 8) dX11_batch_44 rfl ⟨fun c8 => ?_, fun c8 => ?_⟩
      · have H := H.1 c8
        exact zq_sub (ls' := [(0, .ref 53), (1, .int (i1 + (nI 1))), (2, .int x6)]) [2, 0, 1] rfl H
      · have H := H.2 c8
        refine zq_aload_n (k := 0) (i := 0) (x := 53) 2 rfl rfl dX11_batch_47 ?_
        refine zq_bipush (v := (nI 59)) rfl dX11_batch_48 ?_
        refine zq_invV (as := [.int (nI 59)]) (st := []) (o := 53) (c := 10) (by decide) rfl (sh_53 wh5) in_X11_isSign se_X11_isSign mo_X11_isSign ml_RX11_244 rfl (Nat.le_of_ble_eq_true rfl) dX11_batch_50 rfl H (fun r1 h9 hq => ?_)
        obtain ⟨x10, rfl, wh9, H⟩ := hq
        show zQ none m_X11_batch (d + 1) 53 [(1, .int (i1 + (nI 1))), (2, .int x6), (0, .ref 53)] (.int x10 :: []) h9 Q
        refine zq_istore_n (ls' := [(2, .int x10), (1, .int (i1 + (nI 1))), (0, .ref 53)]) (k := 2) (i := 2) rfl (Nat.le_of_ble_eq_true rfl) rfl dX11_batch_53 ?_
        refine zq_goto (tgt := 8) dX11_batch_54 rfl ?_
        exact zq_sub (ls' := [(0, .ref 53), (1, .int (i1 + (nI 1))), (2, .int x10)]) [2, 1, 0] rfl H
    · have H := H.2 c7
      refine zq_aload_n (k := 0) (i := 0) (x := 53) 2 rfl rfl dX11_batch_27 ?_
      refine zq_getI fl_RX11_226 rfl (sh_53 wh5) dX11_batch_28 ?_
      refine zq_aload_n (k := 0) (i := 0) (x := 53) 2 rfl rfl dX11_batch_31 ?_
      refine zq_getI fl_RX11_223 rfl (sh_53 wh5) dX11_batch_32 ?_
      refine zq_icmp_ne (tgt := 43) dX11_batch_35 rfl ⟨fun c11 => ?_, fun c11 => ?_⟩
      · have H := H.1 c11
        refine zq_iload_n (k := 2) (i := 2) (x := x6) 1 rfl rfl dX11_batch_43 ?_
        refine zq_if_eq (tgt := 8) dX11_batch_44 rfl ⟨fun c12 => ?_, fun c12 => ?_⟩
        · have H := H.1 c12
          exact zq_sub (ls' := [(0, .ref 53), (1, .int (i1 + (nI 1))), (2, .int x6)]) [2, 0, 1] rfl H
        · have H := H.2 c12
          refine zq_aload_n (k := 0) (i := 0) (x := 53) 2 rfl rfl dX11_batch_47 ?_
          refine zq_bipush (v := (nI 59)) rfl dX11_batch_48 ?_
          refine zq_invV (as := [.int (nI 59)]) (st := []) (o := 53) (c := 10) (by decide) rfl (sh_53 wh5) in_X11_isSign se_X11_isSign mo_X11_isSign ml_RX11_244 rfl (Nat.le_of_ble_eq_true rfl) dX11_batch_50 rfl H (fun r1 h13 hq => ?_)
          obtain ⟨x14, rfl, wh13, H⟩ := hq
          show zQ none m_X11_batch (d + 1) 53 [(1, .int (i1 + (nI 1))), (2, .int x6), (0, .ref 53)] (.int x14 :: []) h13 Q
          refine zq_istore_n (ls' := [(2, .int x14), (1, .int (i1 + (nI 1))), (0, .ref 53)]) (k := 2) (i := 2) rfl (Nat.le_of_ble_eq_true rfl) rfl dX11_batch_53 ?_
          refine zq_goto (tgt := 8) dX11_batch_54 rfl ?_
          exact zq_sub (ls' := [(0, .ref 53), (1, .int (i1 + (nI 1))), (2, .int x14)]) [2, 1, 0] rfl H
      · have H := H.2 c11
        refine zq_iconst (v := (nI 0)) rfl dX11_batch_38 ?_
        refine zq_istore_n (ls' := [(2, .int (nI 0)), (1, .int (i1 + (nI 1))), (0, .ref 53)]) (k := 2) (i := 2) rfl (Nat.le_of_ble_eq_true rfl) rfl dX11_batch_39 ?_
        refine zq_goto (tgt := 8) dX11_batch_40 rfl ?_
        exact zq_sub (ls' := [(0, .ref 53), (1, .int (i1 + (nI 1))), (2, .int (nI 0))]) [2, 1, 0] rfl H
set_option maxHeartbeats 2000000 in
set_option maxRecDepth 20000 in
theorem r_X11_batch_87 {d : Nat} {h : AH} {Q : Option Value → AH → Prop} (i1 : Int32) (i3 : Int32) (i4 : Int32) (hw : zWF h)  (H : (i1 ≤ i4 → vp_in (nI 4) 187 ∧ (Q (some (.int ((h.I 54 (nI 4).toNatClampNeg) - i3))) h)) ∧ (¬ i1 ≤ i4 → zK d m_X11_does [.ref 53, .int ((nI 4) * i4)] h (kV fun h3 => zQ none m_X11_batch (d + 1) 87 [(0, .ref 53), (1, .int i1), (3, .int i3), (4, .int (i4 + (nI 1)))] [] h3 Q))) : zQ none m_X11_batch (d + 1) 87 [(0, .ref 53), (1, .int i1), (3, .int i3), (4, .int i4)] [] h Q := by
  refine zq_iload (i := 4) (x := i4) 3 rfl dX11_batch_87 ?_
  refine zq_iload_n (k := 1) (i := 1) (x := i1) 1 rfl rfl dX11_batch_89 ?_
  refine zq_icmp_ge (tgt := 107) dX11_batch_90 rfl ⟨fun c1 => ?_, fun c1 => ?_⟩
  · have H := H.1 c1
    refine zq_aload_n (k := 0) (i := 0) (x := 53) 0 rfl rfl dX11_batch_107 ?_
    refine zq_getP fl_RX11_11 rfl (sh_53 hw) (rf_53_0 hw) dX11_batch_108 ?_
    refine zq_iconst (v := (nI 4)) rfl dX11_batch_111 ?_
    obtain ⟨b2, H⟩ := H
    refine zq_iald (sh_54 hw) b2 dX11_batch_112 ?_
    refine zq_iload_n (k := 3) (i := 3) (x := i3) 2 rfl rfl dX11_batch_113 ?_
    refine zq_isub dX11_batch_114 ?_
    exact zq_iret dX11_batch_115 rfl rfl rfl H
  · have H := H.2 c1
    refine zq_aload_n (k := 0) (i := 0) (x := 53) 0 rfl rfl dX11_batch_93 ?_
    refine zq_iconst (v := (nI 4)) rfl dX11_batch_94 ?_
    refine zq_iload (i := 4) (x := i4) 3 rfl dX11_batch_95 ?_
    refine zq_imul dX11_batch_97 ?_
    refine zq_invV (as := [.int ((nI 4) * i4)]) (st := []) (o := 53) (c := 10) (by decide) rfl (sh_53 hw) in_X11_does se_X11_does mo_X11_does ml_RX11_256 rfl (Nat.le_of_ble_eq_true rfl) dX11_batch_98 rfl H (fun r1 h3 hq => ?_)
    obtain ⟨rfl, wh3, H⟩ := hq
    show zQ none m_X11_batch (d + 1) 101 [(0, .ref 53), (1, .int i1), (3, .int i3), (4, .int i4)] ([]) h3 Q
    refine zq_iinc (i := 4) (x := i4) (v := (nI 1)) (ls' := [(4, .int (i4 + (nI 1))), (0, .ref 53), (1, .int i1), (3, .int i3)]) 3 rfl rfl (Nat.le_of_ble_eq_true rfl) rfl dX11_batch_101 ?_
    refine zq_goto (tgt := 87) dX11_batch_104 rfl ?_
    exact zq_sub (ls' := [(0, .ref 53), (1, .int i1), (3, .int i3), (4, .int (i4 + (nI 1)))]) [1, 2, 3, 0] rfl H
set_option maxHeartbeats 2000000 in
set_option maxRecDepth 20000 in
theorem r_X11_letterOf_0 {d : Nat} {h : AH} {Q : Option Value → AH → Prop} (i1 : Int32) (i2 : Int32) (hw : zWF h)  (H : (i2 ≠ (nI 110) → (i2 ≠ (nI 100) → (i2 ≠ (nI 116) → (i2 ≠ (nI 99) → zK d m_X11_has [.long (h.L 53 6), .int i1] h (pI h fun x5 => (x5 = 0 → Q (some (.int (nI 0))) h) ∧ (¬ x5 = 0 → Q (some (.int (nI 1))) h))) ∧ (i2 = (nI 99) → vp_in i1 40 ∧ (Q (some (.int (h.I 60 i1.toNatClampNeg))) h))) ∧ (i2 = (nI 116) → zK d m_X11_trianglesOf [.ref 53, .int i1] h (pI h fun x8 => Q (some (.int x8)) h))) ∧ (i2 = (nI 100) → zK d m_X11_degree [.ref 53, .int i1] h (pI h fun x9 => Q (some (.int x9)) h))) ∧ (i2 = (nI 110) → Q (some (.int i1)) h)) : zK (d + 1) m_X11_letterOf [.ref 53, .int i1, .int i2] h Q := by
  refine zK_of mo_X11_letterOf (Nat.le_of_ble_eq_true rfl) ?_
  show zQ none m_X11_letterOf (d + 1) 0 [(0, .ref 53), (1, .int i1), (2, .int i2)] [] h Q
  refine zq_iload_n (k := 2) (i := 2) (x := i2) 2 rfl rfl dX11_letterOf_0 ?_
  refine zq_bipush (v := (nI 110)) rfl dX11_letterOf_1 ?_
  refine zq_icmp_ne (tgt := 10) dX11_letterOf_3 rfl ⟨fun c1 => ?_, fun c1 => ?_⟩
  · have H := H.1 c1
    refine zq_iload_n (k := 2) (i := 2) (x := i2) 2 rfl rfl dX11_letterOf_10 ?_
    refine zq_bipush (v := (nI 100)) rfl dX11_letterOf_11 ?_
    refine zq_icmp_ne (tgt := 24) dX11_letterOf_13 rfl ⟨fun c2 => ?_, fun c2 => ?_⟩
    · have H := H.1 c2
      refine zq_iload_n (k := 2) (i := 2) (x := i2) 2 rfl rfl dX11_letterOf_24 ?_
      refine zq_bipush (v := (nI 116)) rfl dX11_letterOf_25 ?_
      refine zq_icmp_ne (tgt := 38) dX11_letterOf_27 rfl ⟨fun c3 => ?_, fun c3 => ?_⟩
      · have H := H.1 c3
        refine zq_iload_n (k := 2) (i := 2) (x := i2) 2 rfl rfl dX11_letterOf_38 ?_
        refine zq_bipush (v := (nI 99)) rfl dX11_letterOf_39 ?_
        refine zq_icmp_ne (tgt := 53) dX11_letterOf_41 rfl ⟨fun c4 => ?_, fun c4 => ?_⟩
        · have H := H.1 c4
          refine zq_aload_n (k := 0) (i := 0) (x := 53) 0 rfl rfl dX11_letterOf_53 ?_
          refine zq_getL fl_RX11_80 rfl (sh_53 hw) dX11_letterOf_54 ?_
          refine zq_iload_n (k := 1) (i := 1) (x := i1) 1 rfl rfl dX11_letterOf_57 ?_
          refine zq_invS (as := [.long (h.L 53 6), .int i1]) (st := []) st_X11_has mo_X11_has ml_RX11_72 rfl (Nat.le_of_ble_eq_true rfl) dX11_letterOf_58 rfl H (fun r1 h1 hq => ?_)
          obtain ⟨x5, rfl, rfl, H⟩ := hq
          show zQ none m_X11_letterOf (d + 1) 61 [(0, .ref 53), (1, .int i1), (2, .int i2)] (.int x5 :: []) h Q
          refine zq_if_eq (tgt := 68) dX11_letterOf_61 rfl ⟨fun c6 => ?_, fun c6 => ?_⟩
          · have H := H.1 c6
            refine zq_iconst (v := (nI 0)) rfl dX11_letterOf_68 ?_
            exact zq_iret dX11_letterOf_69 rfl rfl rfl H
          · have H := H.2 c6
            refine zq_iconst (v := (nI 1)) rfl dX11_letterOf_64 ?_
            refine zq_goto (tgt := 69) dX11_letterOf_65 rfl ?_
            exact zq_iret dX11_letterOf_69 rfl rfl rfl H
        · have H := H.2 c4
          refine zq_aload_n (k := 0) (i := 0) (x := 53) 0 rfl rfl dX11_letterOf_44 ?_
          refine zq_getP fl_RX11_31 rfl (sh_53 hw) (rf_53_11 hw) dX11_letterOf_45 ?_
          refine zq_iload_n (k := 1) (i := 1) (x := i1) 1 rfl rfl dX11_letterOf_48 ?_
          obtain ⟨b7, H⟩ := H
          refine zq_iald (sh_60 hw) b7 dX11_letterOf_49 ?_
          refine zq_goto (tgt := 69) dX11_letterOf_50 rfl ?_
          exact zq_iret dX11_letterOf_69 rfl rfl rfl H
      · have H := H.2 c3
        refine zq_aload_n (k := 0) (i := 0) (x := 53) 0 rfl rfl dX11_letterOf_30 ?_
        refine zq_iload_n (k := 1) (i := 1) (x := i1) 1 rfl rfl dX11_letterOf_31 ?_
        refine zq_invV (as := [.int i1]) (st := []) (o := 53) (c := 10) (by decide) rfl (sh_53 hw) in_X11_trianglesOf se_X11_trianglesOf mo_X11_trianglesOf ml_RX11_132 rfl (Nat.le_of_ble_eq_true rfl) dX11_letterOf_32 rfl H (fun r1 h1 hq => ?_)
        obtain ⟨x8, rfl, rfl, H⟩ := hq
        show zQ none m_X11_letterOf (d + 1) 35 [(0, .ref 53), (1, .int i1), (2, .int i2)] (.int x8 :: []) h Q
        refine zq_goto (tgt := 69) dX11_letterOf_35 rfl ?_
        exact zq_iret dX11_letterOf_69 rfl rfl rfl H
    · have H := H.2 c2
      refine zq_aload_n (k := 0) (i := 0) (x := 53) 0 rfl rfl dX11_letterOf_16 ?_
      refine zq_iload_n (k := 1) (i := 1) (x := i1) 1 rfl rfl dX11_letterOf_17 ?_
      refine zq_invV (as := [.int i1]) (st := []) (o := 53) (c := 10) (by decide) rfl (sh_53 hw) in_X11_degree se_X11_degree mo_X11_degree ml_RX11_84 rfl (Nat.le_of_ble_eq_true rfl) dX11_letterOf_18 rfl H (fun r1 h1 hq => ?_)
      obtain ⟨x9, rfl, rfl, H⟩ := hq
      show zQ none m_X11_letterOf (d + 1) 21 [(0, .ref 53), (1, .int i1), (2, .int i2)] (.int x9 :: []) h Q
      refine zq_goto (tgt := 69) dX11_letterOf_21 rfl ?_
      exact zq_iret dX11_letterOf_69 rfl rfl rfl H
  · have H := H.2 c1
    refine zq_iload_n (k := 1) (i := 1) (x := i1) 1 rfl rfl dX11_letterOf_6 ?_
    refine zq_goto (tgt := 69) dX11_letterOf_7 rfl ?_
    exact zq_iret dX11_letterOf_69 rfl rfl rfl H
set_option maxHeartbeats 2000000 in
set_option maxRecDepth 20000 in
theorem r_X11_tested_0 {d : Nat} {h : AH} {Q : Option Value → AH → Prop}  (hw : zWF h)  (H : zK d m_X11_here [.ref 53] h (pI h fun x1 => (x1 = (nI 110) → zQ none m_X11_tested (d + 1) 46 [(0, .ref 53), (1, .int x1)] [] h Q) ∧ (¬ x1 = (nI 110) → (x1 = (nI 100) → zQ none m_X11_tested (d + 1) 46 [(0, .ref 53), (1, .int x1)] [] h Q) ∧ (¬ x1 = (nI 100) → (x1 = (nI 116) → zQ none m_X11_tested (d + 1) 46 [(0, .ref 53), (1, .int x1)] [] h Q) ∧ (¬ x1 = (nI 116) → (x1 = (nI 99) → zQ none m_X11_tested (d + 1) 46 [(0, .ref 53), (1, .int x1)] [] h Q) ∧ (¬ x1 = (nI 99) → (x1 = (nI 104) → zQ none m_X11_tested (d + 1) 46 [(0, .ref 53), (1, .int x1)] [] h Q) ∧ (¬ x1 = (nI 104) → zK d m_X11_fails [.ref 53, .int (h.I 53 20)] h (kI fun x8 h7 => Q (some (.long (0 : Int64))) h7)))))))) : zK (d + 1) m_X11_tested [.ref 53] h Q := by
  refine zK_of mo_X11_tested (Nat.le_of_ble_eq_true rfl) ?_
  show zQ none m_X11_tested (d + 1) 0 [(0, .ref 53)] [] h Q
  refine zq_aload_n (k := 0) (i := 0) (x := 53) 0 rfl rfl dX11_tested_0 ?_
  refine zq_invV (as := []) (st := []) (o := 53) (c := 10) (by decide) rfl (sh_53 hw) in_X11_here se_X11_here mo_X11_here ml_RX11_232 rfl (Nat.le_of_ble_eq_true rfl) dX11_tested_1 rfl H (fun r1 h1 hq => ?_)
  obtain ⟨x1, rfl, rfl, H⟩ := hq
  show zQ none m_X11_tested (d + 1) 4 [(0, .ref 53)] (.int x1 :: []) h Q
  refine zq_istore_n (ls' := [(1, .int x1), (0, .ref 53)]) (k := 1) (i := 1) rfl (Nat.le_of_ble_eq_true rfl) rfl dX11_tested_4 ?_
  refine zq_iload_n (k := 1) (i := 1) (x := x1) 0 rfl rfl dX11_tested_5 ?_
  refine zq_bipush (v := (nI 110)) rfl dX11_tested_6 ?_
  refine zq_icmp_eq (tgt := 46) dX11_tested_8 rfl ⟨fun c2 => ?_, fun c2 => ?_⟩
  · have H := H.1 c2
    exact zq_sub (ls' := [(0, .ref 53), (1, .int x1)]) [1, 0] rfl H
  · have H := H.2 c2
    refine zq_iload_n (k := 1) (i := 1) (x := x1) 0 rfl rfl dX11_tested_11 ?_
    refine zq_bipush (v := (nI 100)) rfl dX11_tested_12 ?_
    refine zq_icmp_eq (tgt := 46) dX11_tested_14 rfl ⟨fun c3 => ?_, fun c3 => ?_⟩
    · have H := H.1 c3
      exact zq_sub (ls' := [(0, .ref 53), (1, .int x1)]) [1, 0] rfl H
    · have H := H.2 c3
      refine zq_iload_n (k := 1) (i := 1) (x := x1) 0 rfl rfl dX11_tested_17 ?_
      refine zq_bipush (v := (nI 116)) rfl dX11_tested_18 ?_
      refine zq_icmp_eq (tgt := 46) dX11_tested_20 rfl ⟨fun c4 => ?_, fun c4 => ?_⟩
      · have H := H.1 c4
        exact zq_sub (ls' := [(0, .ref 53), (1, .int x1)]) [1, 0] rfl H
      · have H := H.2 c4
        refine zq_iload_n (k := 1) (i := 1) (x := x1) 0 rfl rfl dX11_tested_23 ?_
        refine zq_bipush (v := (nI 99)) rfl dX11_tested_24 ?_
        refine zq_icmp_eq (tgt := 46) dX11_tested_26 rfl ⟨fun c5 => ?_, fun c5 => ?_⟩
        · have H := H.1 c5
          exact zq_sub (ls' := [(0, .ref 53), (1, .int x1)]) [1, 0] rfl H
        · have H := H.2 c5
          refine zq_iload_n (k := 1) (i := 1) (x := x1) 0 rfl rfl dX11_tested_29 ?_
          refine zq_bipush (v := (nI 104)) rfl dX11_tested_30 ?_
          refine zq_icmp_eq (tgt := 46) dX11_tested_32 rfl ⟨fun c6 => ?_, fun c6 => ?_⟩
          · have H := H.1 c6
            exact zq_sub (ls' := [(0, .ref 53), (1, .int x1)]) [1, 0] rfl H
          · have H := H.2 c6
            refine zq_aload_n (k := 0) (i := 0) (x := 53) 1 rfl rfl dX11_tested_35 ?_
            refine zq_aload_n (k := 0) (i := 0) (x := 53) 1 rfl rfl dX11_tested_36 ?_
            refine zq_getI fl_RX11_226 rfl (sh_53 hw) dX11_tested_37 ?_
            refine zq_invV (as := [.int (h.I 53 20)]) (st := []) (o := 53) (c := 10) (by decide) rfl (sh_53 hw) in_X11_fails se_X11_fails mo_X11_fails ml_RX11_235 rfl (Nat.le_of_ble_eq_true rfl) dX11_tested_40 rfl H (fun r1 h7 hq => ?_)
            obtain ⟨x8, rfl, wh7, H⟩ := hq
            show zQ none m_X11_tested (d + 1) 43 [(1, .int x1), (0, .ref 53)] (.int x8 :: []) h7 Q
            refine zq_pop rfl dX11_tested_43 ?_
            refine zq_lconst (v := 0) rfl dX11_tested_44 ?_
            exact zq_lret dX11_tested_45 rfl H
set_option maxHeartbeats 2000000 in
set_option maxRecDepth 20000 in
theorem r_X11_tested_46 {d : Nat} {h : AH} {Q : Option Value → AH → Prop} (i1 : Int32) (hw : zWF h)  (H : ∀ h1, h1 = h.sI 53 20 ((h.I 53 20) + (nI 1)) → zK d m_X11_here [.ref 53] h1 (pI h1 fun x2 => (x2 = (nI 60) → zQ none m_X11_tested (d + 1) 90 [(0, .ref 53), (1, .int i1), (2, .int x2)] [] h1 Q) ∧ (¬ x2 = (nI 60) → (x2 = (nI 61) → zQ none m_X11_tested (d + 1) 90 [(0, .ref 53), (1, .int i1), (2, .int x2)] [] h1 Q) ∧ (¬ x2 = (nI 61) → (x2 = (nI 62) → zQ none m_X11_tested (d + 1) 90 [(0, .ref 53), (1, .int i1), (2, .int x2)] [] h1 Q) ∧ (¬ x2 = (nI 62) → zK d m_X11_fails [.ref 53, .int (h1.I 53 20)] h1 (kI fun x7 h6 => Q (some (.long (0 : Int64))) h6)))))) : zQ none m_X11_tested (d + 1) 46 [(0, .ref 53), (1, .int i1)] [] h Q := by
  refine zq_aload_n (k := 0) (i := 0) (x := 53) 0 rfl rfl dX11_tested_46 ?_
  refine zq_dup rfl dX11_tested_47 ?_
  refine zq_getI fl_RX11_226 rfl (sh_53 hw) dX11_tested_48 ?_
  refine zq_iconst (v := (nI 1)) rfl dX11_tested_51 ?_
  refine zq_iadd dX11_tested_52 ?_
  refine zq_putI fl_RX11_226 rfl (Or.inl rfl) (sh_53 hw) rfl rfl dX11_tested_53 (fun h1 eh1 => ?_)
  have H := H h1 eh1
  have wh1 := wf_I eh1 hw
  refine zq_aload_n (k := 0) (i := 0) (x := 53) 0 rfl rfl dX11_tested_56 ?_
  refine zq_invV (as := []) (st := []) (o := 53) (c := 10) (by decide) rfl (sh_53 wh1) in_X11_here se_X11_here mo_X11_here ml_RX11_232 rfl (Nat.le_of_ble_eq_true rfl) dX11_tested_57 rfl H (fun r1 h1 hq => ?_)
  obtain ⟨x2, rfl, rfl, H⟩ := hq
  show zQ none m_X11_tested (d + 1) 60 [(0, .ref 53), (1, .int i1)] (.int x2 :: []) h1 Q
  refine zq_istore_n (ls' := [(2, .int x2), (0, .ref 53), (1, .int i1)]) (k := 2) (i := 2) rfl (Nat.le_of_ble_eq_true rfl) rfl dX11_tested_60 ?_
  refine zq_iload_n (k := 2) (i := 2) (x := x2) 0 rfl rfl dX11_tested_61 ?_
  refine zq_bipush (v := (nI 60)) rfl dX11_tested_62 ?_
  refine zq_icmp_eq (tgt := 90) dX11_tested_64 rfl ⟨fun c3 => ?_, fun c3 => ?_⟩
  · have H := H.1 c3
    exact zq_sub (ls' := [(0, .ref 53), (1, .int i1), (2, .int x2)]) [1, 2, 0] rfl H
  · have H := H.2 c3
    refine zq_iload_n (k := 2) (i := 2) (x := x2) 0 rfl rfl dX11_tested_67 ?_
    refine zq_bipush (v := (nI 61)) rfl dX11_tested_68 ?_
    refine zq_icmp_eq (tgt := 90) dX11_tested_70 rfl ⟨fun c4 => ?_, fun c4 => ?_⟩
    · have H := H.1 c4
      exact zq_sub (ls' := [(0, .ref 53), (1, .int i1), (2, .int x2)]) [1, 2, 0] rfl H
    · have H := H.2 c4
      refine zq_iload_n (k := 2) (i := 2) (x := x2) 0 rfl rfl dX11_tested_73 ?_
      refine zq_bipush (v := (nI 62)) rfl dX11_tested_74 ?_
      refine zq_icmp_eq (tgt := 90) dX11_tested_76 rfl ⟨fun c5 => ?_, fun c5 => ?_⟩
      · have H := H.1 c5
        exact zq_sub (ls' := [(0, .ref 53), (1, .int i1), (2, .int x2)]) [1, 2, 0] rfl H
      · have H := H.2 c5
        refine zq_aload_n (k := 0) (i := 0) (x := 53) 1 rfl rfl dX11_tested_79 ?_
        refine zq_aload_n (k := 0) (i := 0) (x := 53) 1 rfl rfl dX11_tested_80 ?_
        refine zq_getI fl_RX11_226 rfl (sh_53 wh1) dX11_tested_81 ?_
        refine zq_invV (as := [.int (h1.I 53 20)]) (st := []) (o := 53) (c := 10) (by decide) rfl (sh_53 wh1) in_X11_fails se_X11_fails mo_X11_fails ml_RX11_235 rfl (Nat.le_of_ble_eq_true rfl) dX11_tested_84 rfl H (fun r1 h6 hq => ?_)
        obtain ⟨x7, rfl, wh6, H⟩ := hq
        show zQ none m_X11_tested (d + 1) 87 [(2, .int x2), (0, .ref 53), (1, .int i1)] (.int x7 :: []) h6 Q
        refine zq_pop rfl dX11_tested_87 ?_
        refine zq_lconst (v := 0) rfl dX11_tested_88 ?_
        exact zq_lret dX11_tested_89 rfl H
set_option maxHeartbeats 2000000 in
set_option maxRecDepth 20000 in
theorem r_X11_tested_90 {d : Nat} {h : AH} {Q : Option Value → AH → Prop} (i1 : Int32) (i2 : Int32) (hw : zWF h)  (H : ∀ h1, h1 = h.sI 53 20 ((h.I 53 20) + (nI 1)) → zK d m_X11_isNumber [.ref 53, .int (nI 3), .int (nI 999)] h1 (kI fun x3 h2 => (x3 ≠ 0 → (i1 ≠ (nI 99) → zQ none m_X11_tested (d + 1) 128 [(0, .ref 53), (1, .int i1), (2, .int i2), (3, .long (0 : Int64)), (5, .int (nI 0))] [] h2 Q) ∧ (i1 = (nI 99) → zK d m_X11_cores [.ref 53] h2 (kV fun h6 => zQ none m_X11_tested (d + 1) 128 [(0, .ref 53), (1, .int i1), (2, .int i2), (3, .long (0 : Int64)), (5, .int (nI 0))] [] h6 Q))) ∧ (x3 = 0 → Q (some (.long (0 : Int64))) h2))) : zQ none m_X11_tested (d + 1) 90 [(0, .ref 53), (1, .int i1), (2, .int i2)] [] h Q := by
  refine zq_aload_n (k := 0) (i := 0) (x := 53) 0 rfl rfl dX11_tested_90 ?_
  refine zq_dup rfl dX11_tested_91 ?_
  refine zq_getI fl_RX11_226 rfl (sh_53 hw) dX11_tested_92 ?_
  refine zq_iconst (v := (nI 1)) rfl dX11_tested_95 ?_
  refine zq_iadd dX11_tested_96 ?_
  refine zq_putI fl_RX11_226 rfl (Or.inl rfl) (sh_53 hw) rfl rfl dX11_tested_97 (fun h1 eh1 => ?_)
  have H := H h1 eh1
  have wh1 := wf_I eh1 hw
  refine zq_aload_n (k := 0) (i := 0) (x := 53) 0 rfl rfl dX11_tested_100 ?_
  refine zq_iconst (v := (nI 3)) rfl dX11_tested_101 ?_
  refine zq_sipush (v := (nI 999)) rfl dX11_tested_102 ?_
  refine zq_invV (as := [.int (nI 3), .int (nI 999)]) (st := []) (o := 53) (c := 10) (by decide) rfl (sh_53 wh1) in_X11_isNumber se_X11_isNumber mo_X11_isNumber ml_RX11_241 rfl (Nat.le_of_ble_eq_true rfl) dX11_tested_105 rfl H (fun r1 h2 hq => ?_)
  obtain ⟨x3, rfl, wh2, H⟩ := hq
  show zQ none m_X11_tested (d + 1) 108 [(0, .ref 53), (1, .int i1), (2, .int i2)] (.int x3 :: []) h2 Q
  refine zq_if_ne (tgt := 113) dX11_tested_108 rfl ⟨fun c4 => ?_, fun c4 => ?_⟩
  · have H := H.1 c4
    refine zq_iload_n (k := 1) (i := 1) (x := i1) 1 rfl rfl dX11_tested_113 ?_
    refine zq_bipush (v := (nI 99)) rfl dX11_tested_114 ?_
    refine zq_icmp_ne (tgt := 123) dX11_tested_116 rfl ⟨fun c5 => ?_, fun c5 => ?_⟩
    · have H := H.1 c5
      refine zq_lconst (v := 0) rfl dX11_tested_123 ?_
      refine zq_lstore_n (ls' := [(3, .long (0 : Int64)), (0, .ref 53), (1, .int i1), (2, .int i2)]) (k := 3) (i := 3) rfl (Nat.le_of_ble_eq_true rfl) rfl dX11_tested_124 ?_
      refine zq_iconst (v := (nI 0)) rfl dX11_tested_125 ?_
      refine zq_istore (ls' := [(5, .int (nI 0)), (3, .long (0 : Int64)), (0, .ref 53), (1, .int i1), (2, .int i2)]) (i := 5) (Nat.le_of_ble_eq_true rfl) rfl dX11_tested_126 ?_
      exact zq_sub (ls' := [(0, .ref 53), (1, .int i1), (2, .int i2), (3, .long (0 : Int64)), (5, .int (nI 0))]) [2, 3, 4, 1, 0] rfl H
    · have H := H.2 c5
      refine zq_aload_n (k := 0) (i := 0) (x := 53) 0 rfl rfl dX11_tested_119 ?_
      refine zq_invV (as := []) (st := []) (o := 53) (c := 10) (by decide) rfl (sh_53 wh2) in_X11_cores se_X11_cores mo_X11_cores ml_RX11_158 rfl (Nat.le_of_ble_eq_true rfl) dX11_tested_120 rfl H (fun r1 h6 hq => ?_)
      obtain ⟨rfl, wh6, H⟩ := hq
      show zQ none m_X11_tested (d + 1) 123 [(0, .ref 53), (1, .int i1), (2, .int i2)] ([]) h6 Q
      refine zq_lconst (v := 0) rfl dX11_tested_123 ?_
      refine zq_lstore_n (ls' := [(3, .long (0 : Int64)), (0, .ref 53), (1, .int i1), (2, .int i2)]) (k := 3) (i := 3) rfl (Nat.le_of_ble_eq_true rfl) rfl dX11_tested_124 ?_
      refine zq_iconst (v := (nI 0)) rfl dX11_tested_125 ?_
      refine zq_istore (ls' := [(5, .int (nI 0)), (3, .long (0 : Int64)), (0, .ref 53), (1, .int i1), (2, .int i2)]) (i := 5) (Nat.le_of_ble_eq_true rfl) rfl dX11_tested_126 ?_
      exact zq_sub (ls' := [(0, .ref 53), (1, .int i1), (2, .int i2), (3, .long (0 : Int64)), (5, .int (nI 0))]) [2, 3, 4, 1, 0] rfl H
  · have H := H.2 c4
    refine zq_lconst (v := 0) rfl dX11_tested_111 ?_
    exact zq_lret dX11_tested_112 rfl H
set_option maxHeartbeats 2000000 in
set_option maxRecDepth 20000 in
theorem r_X11_tested_128 {d : Nat} {h : AH} {Q : Option Value → AH → Prop} (i1 : Int32) (i2 : Int32) (l3 : Int64) (i5 : Int32) (hw : zWF h)  (H : ((nI 40) ≤ i5 → Q (some (.long l3)) h) ∧ (¬ (nI 40) ≤ i5 → zK d m_X11_letterOf [.ref 53, .int i5, .int i1] h (pI h fun x2 => (i2 ≠ (nI 60) → (i2 ≠ (nI 62) → (x2 ≠ (h.I 53 22) → zQ none m_X11_tested (d + 1) 128 [(0, .ref 53), (1, .int i1), (2, .int i2), (3, .long (l3 ||| (0 : Int64))), (5, .int (i5 + (nI 1)))] [] h Q) ∧ (x2 = (h.I 53 22) → zQ none m_X11_tested (d + 1) 128 [(0, .ref 53), (1, .int i1), (2, .int i2), (3, .long (l3 ||| ((1 : Int64) <<< (i5.toInt64 &&& 63)))), (5, .int (i5 + (nI 1)))] [] h Q)) ∧ (i2 = (nI 62) → (x2 ≤ (h.I 53 22) → zQ none m_X11_tested (d + 1) 128 [(0, .ref 53), (1, .int i1), (2, .int i2), (3, .long (l3 ||| (0 : Int64))), (5, .int (i5 + (nI 1)))] [] h Q) ∧ (¬ x2 ≤ (h.I 53 22) → zQ none m_X11_tested (d + 1) 128 [(0, .ref 53), (1, .int i1), (2, .int i2), (3, .long (l3 ||| ((1 : Int64) <<< (i5.toInt64 &&& 63)))), (5, .int (i5 + (nI 1)))] [] h Q))) ∧ (i2 = (nI 60) → ((h.I 53 22) ≤ x2 → zQ none m_X11_tested (d + 1) 128 [(0, .ref 53), (1, .int i1), (2, .int i2), (3, .long (l3 ||| (0 : Int64))), (5, .int (i5 + (nI 1)))] [] h Q) ∧ (¬ (h.I 53 22) ≤ x2 → zQ none m_X11_tested (d + 1) 128 [(0, .ref 53), (1, .int i1), (2, .int i2), (3, .long (l3 ||| ((1 : Int64) <<< (i5.toInt64 &&& 63)))), (5, .int (i5 + (nI 1)))] [] h Q))))) : zQ none m_X11_tested (d + 1) 128 [(0, .ref 53), (1, .int i1), (2, .int i2), (3, .long l3), (5, .int i5)] [] h Q := by
  refine zq_iload (i := 5) (x := i5) 4 rfl dX11_tested_128 ?_
  refine zq_bipush (v := (nI 40)) rfl dX11_tested_130 ?_
  refine zq_icmp_ge (tgt := 206) dX11_tested_132 rfl ⟨fun c1 => ?_, fun c1 => ?_⟩
  · have H := H.1 c1
    refine zq_lload_n (k := 3) (i := 3) (x := l3) 3 rfl rfl dX11_tested_206 ?_
    exact zq_lret dX11_tested_207 rfl H
  · have H := H.2 c1
    refine zq_aload_n (k := 0) (i := 0) (x := 53) 0 rfl rfl dX11_tested_135 ?_
    refine zq_iload (i := 5) (x := i5) 4 rfl dX11_tested_136 ?_
    refine zq_iload_n (k := 1) (i := 1) (x := i1) 1 rfl rfl dX11_tested_138 ?_
    refine zq_invV (as := [.int i5, .int i1]) (st := []) (o := 53) (c := 10) (by decide) rfl (sh_53 hw) in_X11_letterOf se_X11_letterOf mo_X11_letterOf ml_RX11_259 rfl (Nat.le_of_ble_eq_true rfl) dX11_tested_139 rfl H (fun r1 h1 hq => ?_)
    obtain ⟨x2, rfl, rfl, H⟩ := hq
    show zQ none m_X11_tested (d + 1) 142 [(0, .ref 53), (1, .int i1), (2, .int i2), (3, .long l3), (5, .int i5)] (.int x2 :: []) h Q
    refine zq_istore (ls' := [(6, .int x2), (0, .ref 53), (1, .int i1), (2, .int i2), (3, .long l3), (5, .int i5)]) (i := 6) (Nat.le_of_ble_eq_true rfl) rfl dX11_tested_142 ?_
    refine zq_lload_n (k := 3) (i := 3) (x := l3) 4 rfl rfl dX11_tested_144 ?_
    refine zq_iload_n (k := 2) (i := 2) (x := i2) 3 rfl rfl dX11_tested_145 ?_
    refine zq_bipush (v := (nI 60)) rfl dX11_tested_146 ?_
    refine zq_icmp_ne (tgt := 163) dX11_tested_148 rfl ⟨fun c3 => ?_, fun c3 => ?_⟩
    · have H := H.1 c3
      refine zq_iload_n (k := 2) (i := 2) (x := i2) 3 rfl rfl dX11_tested_163 ?_
      refine zq_bipush (v := (nI 62)) rfl dX11_tested_164 ?_
      refine zq_icmp_ne (tgt := 181) dX11_tested_166 rfl ⟨fun c4 => ?_, fun c4 => ?_⟩
      · have H := H.1 c4
        refine zq_iload (i := 6) (x := x2) 0 rfl dX11_tested_181 ?_
        refine zq_aload_n (k := 0) (i := 0) (x := 53) 1 rfl rfl dX11_tested_183 ?_
        refine zq_getI fl_RX11_238 rfl (sh_53 hw) dX11_tested_184 ?_
        refine zq_icmp_ne (tgt := 197) dX11_tested_187 rfl ⟨fun c5 => ?_, fun c5 => ?_⟩
        · have H := H.1 c5
          refine zq_lconst (v := 0) rfl dX11_tested_197 ?_
          refine zq_lor dX11_tested_198 ?_
          refine zq_lstore_n (ls' := [(3, .long (l3 ||| (0 : Int64))), (6, .int x2), (0, .ref 53), (1, .int i1), (2, .int i2), (5, .int i5)]) (k := 3) (i := 3) rfl (Nat.le_of_ble_eq_true rfl) rfl dX11_tested_199 ?_
          refine zq_iinc (i := 5) (x := i5) (v := (nI 1)) (ls' := [(5, .int (i5 + (nI 1))), (3, .long (l3 ||| (0 : Int64))), (6, .int x2), (0, .ref 53), (1, .int i1), (2, .int i2)]) 5 rfl rfl (Nat.le_of_ble_eq_true rfl) rfl dX11_tested_200 ?_
          refine zq_goto (tgt := 128) dX11_tested_203 rfl ?_
          exact zq_sub (ls' := [(0, .ref 53), (1, .int i1), (2, .int i2), (3, .long (l3 ||| (0 : Int64))), (5, .int (i5 + (nI 1)))]) [3, 4, 5, 1, 0] rfl H
        · have H := H.2 c5
          refine zq_lconst (v := 1) rfl dX11_tested_190 ?_
          refine zq_iload (i := 5) (x := i5) 5 rfl dX11_tested_191 ?_
          refine zq_lshl dX11_tested_193 ?_
          refine zq_goto (tgt := 198) dX11_tested_194 rfl ?_
          refine zq_lor dX11_tested_198 ?_
          refine zq_lstore_n (ls' := [(3, .long (l3 ||| ((1 : Int64) <<< (i5.toInt64 &&& 63)))), (6, .int x2), (0, .ref 53), (1, .int i1), (2, .int i2), (5, .int i5)]) (k := 3) (i := 3) rfl (Nat.le_of_ble_eq_true rfl) rfl dX11_tested_199 ?_
          refine zq_iinc (i := 5) (x := i5) (v := (nI 1)) (ls' := [(5, .int (i5 + (nI 1))), (3, .long (l3 ||| ((1 : Int64) <<< (i5.toInt64 &&& 63)))), (6, .int x2), (0, .ref 53), (1, .int i1), (2, .int i2)]) 5 rfl rfl (Nat.le_of_ble_eq_true rfl) rfl dX11_tested_200 ?_
          refine zq_goto (tgt := 128) dX11_tested_203 rfl ?_
          exact zq_sub (ls' := [(0, .ref 53), (1, .int i1), (2, .int i2), (3, .long (l3 ||| ((1 : Int64) <<< (i5.toInt64 &&& 63)))), (5, .int (i5 + (nI 1)))]) [3, 4, 5, 1, 0] rfl H
      · have H := H.2 c4
        refine zq_iload (i := 6) (x := x2) 0 rfl dX11_tested_169 ?_
        refine zq_aload_n (k := 0) (i := 0) (x := 53) 1 rfl rfl dX11_tested_171 ?_
        refine zq_getI fl_RX11_238 rfl (sh_53 hw) dX11_tested_172 ?_
        refine zq_icmp_le (tgt := 197) dX11_tested_175 rfl ⟨fun c6 => ?_, fun c6 => ?_⟩
        · have H := H.1 c6
          refine zq_lconst (v := 0) rfl dX11_tested_197 ?_
          refine zq_lor dX11_tested_198 ?_
          refine zq_lstore_n (ls' := [(3, .long (l3 ||| (0 : Int64))), (6, .int x2), (0, .ref 53), (1, .int i1), (2, .int i2), (5, .int i5)]) (k := 3) (i := 3) rfl (Nat.le_of_ble_eq_true rfl) rfl dX11_tested_199 ?_
          refine zq_iinc (i := 5) (x := i5) (v := (nI 1)) (ls' := [(5, .int (i5 + (nI 1))), (3, .long (l3 ||| (0 : Int64))), (6, .int x2), (0, .ref 53), (1, .int i1), (2, .int i2)]) 5 rfl rfl (Nat.le_of_ble_eq_true rfl) rfl dX11_tested_200 ?_
          refine zq_goto (tgt := 128) dX11_tested_203 rfl ?_
          exact zq_sub (ls' := [(0, .ref 53), (1, .int i1), (2, .int i2), (3, .long (l3 ||| (0 : Int64))), (5, .int (i5 + (nI 1)))]) [3, 4, 5, 1, 0] rfl H
        · have H := H.2 c6
          refine zq_goto (tgt := 190) dX11_tested_178 rfl ?_
          refine zq_lconst (v := 1) rfl dX11_tested_190 ?_
          refine zq_iload (i := 5) (x := i5) 5 rfl dX11_tested_191 ?_
          refine zq_lshl dX11_tested_193 ?_
          refine zq_goto (tgt := 198) dX11_tested_194 rfl ?_
          refine zq_lor dX11_tested_198 ?_
          refine zq_lstore_n (ls' := [(3, .long (l3 ||| ((1 : Int64) <<< (i5.toInt64 &&& 63)))), (6, .int x2), (0, .ref 53), (1, .int i1), (2, .int i2), (5, .int i5)]) (k := 3) (i := 3) rfl (Nat.le_of_ble_eq_true rfl) rfl dX11_tested_199 ?_
          refine zq_iinc (i := 5) (x := i5) (v := (nI 1)) (ls' := [(5, .int (i5 + (nI 1))), (3, .long (l3 ||| ((1 : Int64) <<< (i5.toInt64 &&& 63)))), (6, .int x2), (0, .ref 53), (1, .int i1), (2, .int i2)]) 5 rfl rfl (Nat.le_of_ble_eq_true rfl) rfl dX11_tested_200 ?_
          refine zq_goto (tgt := 128) dX11_tested_203 rfl ?_
          exact zq_sub (ls' := [(0, .ref 53), (1, .int i1), (2, .int i2), (3, .long (l3 ||| ((1 : Int64) <<< (i5.toInt64 &&& 63)))), (5, .int (i5 + (nI 1)))]) [3, 4, 5, 1, 0] rfl H
    · have H := H.2 c3
      refine zq_iload (i := 6) (x := x2) 0 rfl dX11_tested_151 ?_
      refine zq_aload_n (k := 0) (i := 0) (x := 53) 1 rfl rfl dX11_tested_153 ?_
      refine zq_getI fl_RX11_238 rfl (sh_53 hw) dX11_tested_154 ?_
      refine zq_icmp_ge (tgt := 197) dX11_tested_157 rfl ⟨fun c7 => ?_, fun c7 => ?_⟩
      · have H := H.1 c7
        refine zq_lconst (v := 0) rfl dX11_tested_197 ?_
        refine zq_lor dX11_tested_198 ?_
        refine zq_lstore_n (ls' := [(3, .long (l3 ||| (0 : Int64))), (6, .int x2), (0, .ref 53), (1, .int i1), (2, .int i2), (5, .int i5)]) (k := 3) (i := 3) rfl (Nat.le_of_ble_eq_true rfl) rfl dX11_tested_199 ?_
        refine zq_iinc (i := 5) (x := i5) (v := (nI 1)) (ls' := [(5, .int (i5 + (nI 1))), (3, .long (l3 ||| (0 : Int64))), (6, .int x2), (0, .ref 53), (1, .int i1), (2, .int i2)]) 5 rfl rfl (Nat.le_of_ble_eq_true rfl) rfl dX11_tested_200 ?_
        refine zq_goto (tgt := 128) dX11_tested_203 rfl ?_
        exact zq_sub (ls' := [(0, .ref 53), (1, .int i1), (2, .int i2), (3, .long (l3 ||| (0 : Int64))), (5, .int (i5 + (nI 1)))]) [3, 4, 5, 1, 0] rfl H
      · have H := H.2 c7
        refine zq_goto (tgt := 190) dX11_tested_160 rfl ?_
        refine zq_lconst (v := 1) rfl dX11_tested_190 ?_
        refine zq_iload (i := 5) (x := i5) 5 rfl dX11_tested_191 ?_
        refine zq_lshl dX11_tested_193 ?_
        refine zq_goto (tgt := 198) dX11_tested_194 rfl ?_
        refine zq_lor dX11_tested_198 ?_
        refine zq_lstore_n (ls' := [(3, .long (l3 ||| ((1 : Int64) <<< (i5.toInt64 &&& 63)))), (6, .int x2), (0, .ref 53), (1, .int i1), (2, .int i2), (5, .int i5)]) (k := 3) (i := 3) rfl (Nat.le_of_ble_eq_true rfl) rfl dX11_tested_199 ?_
        refine zq_iinc (i := 5) (x := i5) (v := (nI 1)) (ls' := [(5, .int (i5 + (nI 1))), (3, .long (l3 ||| ((1 : Int64) <<< (i5.toInt64 &&& 63)))), (6, .int x2), (0, .ref 53), (1, .int i1), (2, .int i2)]) 5 rfl rfl (Nat.le_of_ble_eq_true rfl) rfl dX11_tested_200 ?_
        refine zq_goto (tgt := 128) dX11_tested_203 rfl ?_
        exact zq_sub (ls' := [(0, .ref 53), (1, .int i1), (2, .int i2), (3, .long (l3 ||| ((1 : Int64) <<< (i5.toInt64 &&& 63)))), (5, .int (i5 + (nI 1)))]) [3, 4, 5, 1, 0] rfl H
set_option maxHeartbeats 2000000 in
set_option maxRecDepth 20000 in
theorem r_X11_factor_0 {d : Nat} {h : AH} {Q : Option Value → AH → Prop} (i1 : Int32) (hw : zWF h)  (H : zK d m_X11_here [.ref 53] h (pI h fun x1 => ((nI 3) < i1 → zK d m_X11_tested [.ref 53] h (kL fun x4 h3 => Q (some (.long x4)) h3)) ∧ (¬ (nI 3) < i1 → (x1 = (nI 33) → ∀ h6, h6 = h.sI 53 20 ((h.I 53 20) + (nI 1)) → (x1 ≠ (nI 40) → zK d m_X11_factor [.ref 53, .int (i1 + (nI 1))] h6 (kL fun x9 h8 => (x1 ≠ (nI 40) → (x1 ≠ (nI 33) → zQ none m_X11_factor (d + 1) 117 [(0, .ref 53), (2, .int x1), (3, .long x9), (5, .long (0 : Int64)), (7, .int (nI 0))] [] h8 Q) ∧ (x1 = (nI 33) → Q (some (.long ((1099511627775 : Int64) &&& (x9 ^^^ (-1 : Int64))))) h8)) ∧ (x1 = (nI 40) → (0 ≤ (h8.I 53 21) → Q (some (.long x9)) h8) ∧ (¬ 0 ≤ (h8.I 53 21) → zK d m_X11_isSign [.ref 53, .int (nI 41)] h8 (kI fun x14 h13 => Q (some (.long x9)) h13))))) ∧ (x1 = (nI 40) → zK d m_X11_either [.ref 53, .int (i1 + (nI 1))] h6 (kL fun x16 h15 => (x1 ≠ (nI 40) → (x1 ≠ (nI 33) → zQ none m_X11_factor (d + 1) 117 [(0, .ref 53), (2, .int x1), (3, .long x16), (5, .long (0 : Int64)), (7, .int (nI 0))] [] h15 Q) ∧ (x1 = (nI 33) → Q (some (.long ((1099511627775 : Int64) &&& (x16 ^^^ (-1 : Int64))))) h15)) ∧ (x1 = (nI 40) → (0 ≤ (h15.I 53 21) → Q (some (.long x16)) h15) ∧ (¬ 0 ≤ (h15.I 53 21) → zK d m_X11_isSign [.ref 53, .int (nI 41)] h15 (kI fun x21 h20 => Q (some (.long x16)) h20)))))) ∧ (¬ x1 = (nI 33) → (x1 = (nI 40) → ∀ h23, h23 = h.sI 53 20 ((h.I 53 20) + (nI 1)) → (x1 ≠ (nI 40) → zK d m_X11_factor [.ref 53, .int (i1 + (nI 1))] h23 (kL fun x26 h25 => (x1 ≠ (nI 40) → (x1 ≠ (nI 33) → zQ none m_X11_factor (d + 1) 117 [(0, .ref 53), (2, .int x1), (3, .long x26), (5, .long (0 : Int64)), (7, .int (nI 0))] [] h25 Q) ∧ (x1 = (nI 33) → Q (some (.long ((1099511627775 : Int64) &&& (x26 ^^^ (-1 : Int64))))) h25)) ∧ (x1 = (nI 40) → (0 ≤ (h25.I 53 21) → Q (some (.long x26)) h25) ∧ (¬ 0 ≤ (h25.I 53 21) → zK d m_X11_isSign [.ref 53, .int (nI 41)] h25 (kI fun x31 h30 => Q (some (.long x26)) h30))))) ∧ (x1 = (nI 40) → zK d m_X11_either [.ref 53, .int (i1 + (nI 1))] h23 (kL fun x33 h32 => (x1 ≠ (nI 40) → (x1 ≠ (nI 33) → zQ none m_X11_factor (d + 1) 117 [(0, .ref 53), (2, .int x1), (3, .long x33), (5, .long (0 : Int64)), (7, .int (nI 0))] [] h32 Q) ∧ (x1 = (nI 33) → Q (some (.long ((1099511627775 : Int64) &&& (x33 ^^^ (-1 : Int64))))) h32)) ∧ (x1 = (nI 40) → (0 ≤ (h32.I 53 21) → Q (some (.long x33)) h32) ∧ (¬ 0 ≤ (h32.I 53 21) → zK d m_X11_isSign [.ref 53, .int (nI 41)] h32 (kI fun x38 h37 => Q (some (.long x33)) h37)))))) ∧ (¬ x1 = (nI 40) → (x1 = (nI 83) → ∀ h40, h40 = h.sI 53 20 ((h.I 53 20) + (nI 1)) → (x1 ≠ (nI 40) → zK d m_X11_factor [.ref 53, .int (i1 + (nI 1))] h40 (kL fun x43 h42 => (x1 ≠ (nI 40) → (x1 ≠ (nI 33) → zQ none m_X11_factor (d + 1) 117 [(0, .ref 53), (2, .int x1), (3, .long x43), (5, .long (0 : Int64)), (7, .int (nI 0))] [] h42 Q) ∧ (x1 = (nI 33) → Q (some (.long ((1099511627775 : Int64) &&& (x43 ^^^ (-1 : Int64))))) h42)) ∧ (x1 = (nI 40) → (0 ≤ (h42.I 53 21) → Q (some (.long x43)) h42) ∧ (¬ 0 ≤ (h42.I 53 21) → zK d m_X11_isSign [.ref 53, .int (nI 41)] h42 (kI fun x48 h47 => Q (some (.long x43)) h47))))) ∧ (x1 = (nI 40) → zK d m_X11_either [.ref 53, .int (i1 + (nI 1))] h40 (kL fun x50 h49 => (x1 ≠ (nI 40) → (x1 ≠ (nI 33) → zQ none m_X11_factor (d + 1) 117 [(0, .ref 53), (2, .int x1), (3, .long x50), (5, .long (0 : Int64)), (7, .int (nI 0))] [] h49 Q) ∧ (x1 = (nI 33) → Q (some (.long ((1099511627775 : Int64) &&& (x50 ^^^ (-1 : Int64))))) h49)) ∧ (x1 = (nI 40) → (0 ≤ (h49.I 53 21) → Q (some (.long x50)) h49) ∧ (¬ 0 ≤ (h49.I 53 21) → zK d m_X11_isSign [.ref 53, .int (nI 41)] h49 (kI fun x55 h54 => Q (some (.long x50)) h54)))))) ∧ (¬ x1 = (nI 83) → (x1 = (nI 65) → ∀ h57, h57 = h.sI 53 20 ((h.I 53 20) + (nI 1)) → (x1 ≠ (nI 40) → zK d m_X11_factor [.ref 53, .int (i1 + (nI 1))] h57 (kL fun x60 h59 => (x1 ≠ (nI 40) → (x1 ≠ (nI 33) → zQ none m_X11_factor (d + 1) 117 [(0, .ref 53), (2, .int x1), (3, .long x60), (5, .long (0 : Int64)), (7, .int (nI 0))] [] h59 Q) ∧ (x1 = (nI 33) → Q (some (.long ((1099511627775 : Int64) &&& (x60 ^^^ (-1 : Int64))))) h59)) ∧ (x1 = (nI 40) → (0 ≤ (h59.I 53 21) → Q (some (.long x60)) h59) ∧ (¬ 0 ≤ (h59.I 53 21) → zK d m_X11_isSign [.ref 53, .int (nI 41)] h59 (kI fun x65 h64 => Q (some (.long x60)) h64))))) ∧ (x1 = (nI 40) → zK d m_X11_either [.ref 53, .int (i1 + (nI 1))] h57 (kL fun x67 h66 => (x1 ≠ (nI 40) → (x1 ≠ (nI 33) → zQ none m_X11_factor (d + 1) 117 [(0, .ref 53), (2, .int x1), (3, .long x67), (5, .long (0 : Int64)), (7, .int (nI 0))] [] h66 Q) ∧ (x1 = (nI 33) → Q (some (.long ((1099511627775 : Int64) &&& (x67 ^^^ (-1 : Int64))))) h66)) ∧ (x1 = (nI 40) → (0 ≤ (h66.I 53 21) → Q (some (.long x67)) h66) ∧ (¬ 0 ≤ (h66.I 53 21) → zK d m_X11_isSign [.ref 53, .int (nI 41)] h66 (kI fun x72 h71 => Q (some (.long x67)) h71)))))) ∧ (¬ x1 = (nI 65) → zK d m_X11_tested [.ref 53] h (kL fun x74 h73 => Q (some (.long x74)) h73)))))))) : zK (d + 1) m_X11_factor [.ref 53, .int i1] h Q := by
  refine zK_of mo_X11_factor (Nat.le_of_ble_eq_true rfl) ?_
  show zQ none m_X11_factor (d + 1) 0 [(0, .ref 53), (1, .int i1)] [] h Q
  refine zq_aload_n (k := 0) (i := 0) (x := 53) 0 rfl rfl dX11_factor_0 ?_
  refine zq_invV (as := []) (st := []) (o := 53) (c := 10) (by decide) rfl (sh_53 hw) in_X11_here se_X11_here mo_X11_here ml_RX11_232 rfl (Nat.le_of_ble_eq_true rfl) dX11_factor_1 rfl H (fun r1 h1 hq => ?_)
  obtain ⟨x1, rfl, rfl, H⟩ := hq
  show zQ none m_X11_factor (d + 1) 4 [(0, .ref 53), (1, .int i1)] (.int x1 :: []) h Q
  refine zq_istore_n (ls' := [(2, .int x1), (0, .ref 53), (1, .int i1)]) (k := 2) (i := 2) rfl (Nat.le_of_ble_eq_true rfl) rfl dX11_factor_4 ?_
  refine zq_iload_n (k := 1) (i := 1) (x := i1) 2 rfl rfl dX11_factor_5 ?_
  refine zq_iconst (v := (nI 3)) rfl dX11_factor_6 ?_
  refine zq_icmp_gt (tgt := 34) dX11_factor_7 rfl ⟨fun c2 => ?_, fun c2 => ?_⟩
  · have H := H.1 c2
    refine zq_aload_n (k := 0) (i := 0) (x := 53) 1 rfl rfl dX11_factor_34 ?_
    refine zq_invV (as := []) (st := []) (o := 53) (c := 10) (by decide) rfl (sh_53 hw) in_X11_tested se_X11_tested mo_X11_tested ml_RX11_262 rfl (Nat.le_of_ble_eq_true rfl) dX11_factor_35 rfl H (fun r1 h3 hq => ?_)
    obtain ⟨x4, rfl, wh3, H⟩ := hq
    show zQ none m_X11_factor (d + 1) 38 [(2, .int x1), (0, .ref 53), (1, .int i1)] (.long x4 :: []) h3 Q
    exact zq_lret dX11_factor_38 rfl H
  · have H := H.2 c2
    refine zq_iload_n (k := 2) (i := 2) (x := x1) 0 rfl rfl dX11_factor_10 ?_
    refine zq_bipush (v := (nI 33)) rfl dX11_factor_11 ?_
    refine zq_icmp_eq (tgt := 39) dX11_factor_13 rfl ⟨fun c5 => ?_, fun c5 => ?_⟩
    · have H := H.1 c5
      refine zq_aload_n (k := 0) (i := 0) (x := 53) 1 rfl rfl dX11_factor_39 ?_
      refine zq_dup rfl dX11_factor_40 ?_
      refine zq_getI fl_RX11_226 rfl (sh_53 hw) dX11_factor_41 ?_
      refine zq_iconst (v := (nI 1)) rfl dX11_factor_44 ?_
      refine zq_iadd dX11_factor_45 ?_
      refine zq_putI fl_RX11_226 rfl (Or.inl rfl) (sh_53 hw) rfl rfl dX11_factor_46 (fun h6 eh6 => ?_)
      have H := H h6 eh6
      have wh6 := wf_I eh6 hw
      refine zq_iload_n (k := 2) (i := 2) (x := x1) 0 rfl rfl dX11_factor_49 ?_
      refine zq_bipush (v := (nI 40)) rfl dX11_factor_50 ?_
      refine zq_icmp_ne (tgt := 65) dX11_factor_52 rfl ⟨fun c7 => ?_, fun c7 => ?_⟩
      · have H := H.1 c7
        refine zq_aload_n (k := 0) (i := 0) (x := 53) 1 rfl rfl dX11_factor_65 ?_
        refine zq_iload_n (k := 1) (i := 1) (x := i1) 2 rfl rfl dX11_factor_66 ?_
        refine zq_iconst (v := (nI 1)) rfl dX11_factor_67 ?_
        refine zq_iadd dX11_factor_68 ?_
        refine zq_invV (as := [.int (i1 + (nI 1))]) (st := []) (o := 53) (c := 10) (by decide) rfl (sh_53 wh6) in_X11_factor se_X11_factor mo_X11_factor ml_RX11_269 rfl (Nat.le_of_ble_eq_true rfl) dX11_factor_69 rfl H (fun r1 h8 hq => ?_)
        obtain ⟨x9, rfl, wh8, H⟩ := hq
        show zQ none m_X11_factor (d + 1) 72 [(2, .int x1), (0, .ref 53), (1, .int i1)] (.long x9 :: []) h8 Q
        refine zq_lstore_n (ls' := [(3, .long x9), (2, .int x1), (0, .ref 53), (1, .int i1)]) (k := 3) (i := 3) rfl (Nat.le_of_ble_eq_true rfl) rfl dX11_factor_72 ?_
        refine zq_iload_n (k := 2) (i := 2) (x := x1) 1 rfl rfl dX11_factor_73 ?_
        refine zq_bipush (v := (nI 40)) rfl dX11_factor_74 ?_
        refine zq_icmp_ne (tgt := 95) dX11_factor_76 rfl ⟨fun c10 => ?_, fun c10 => ?_⟩
        · have H := H.1 c10
          refine zq_iload_n (k := 2) (i := 2) (x := x1) 1 rfl rfl dX11_factor_95 ?_
          refine zq_bipush (v := (nI 33)) rfl dX11_factor_96 ?_
          refine zq_icmp_ne (tgt := 111) dX11_factor_98 rfl ⟨fun c11 => ?_, fun c11 => ?_⟩
          · have H := H.1 c11
            refine zq_lconst (v := 0) rfl dX11_factor_111 ?_
            refine zq_lstore (ls' := [(5, .long (0 : Int64)), (3, .long x9), (2, .int x1), (0, .ref 53), (1, .int i1)]) (i := 5) (Nat.le_of_ble_eq_true rfl) rfl dX11_factor_112 ?_
            refine zq_iconst (v := (nI 0)) rfl dX11_factor_114 ?_
            refine zq_istore (ls' := [(7, .int (nI 0)), (5, .long (0 : Int64)), (3, .long x9), (2, .int x1), (0, .ref 53), (1, .int i1)]) (i := 7) (Nat.le_of_ble_eq_true rfl) rfl dX11_factor_115 ?_
            exact zq_sub (ls' := [(0, .ref 53), (2, .int x1), (3, .long x9), (5, .long (0 : Int64)), (7, .int (nI 0))]) [4, 3, 2, 1, 0] rfl H
          · have H := H.2 c11
            refine zq_ldc2 (v := (1099511627775)) cl_RX11_152 dX11_factor_101 ?_
            refine zq_lload_n (k := 3) (i := 3) (x := x9) 0 rfl rfl dX11_factor_104 ?_
            refine zq_ldc2 (v := (-1)) cl_RX11_150 dX11_factor_105 ?_
            refine zq_lxor dX11_factor_108 ?_
            refine zq_land dX11_factor_109 ?_
            exact zq_lret dX11_factor_110 rfl H
        · have H := H.2 c10
          refine zq_aload_n (k := 0) (i := 0) (x := 53) 2 rfl rfl dX11_factor_79 ?_
          refine zq_getI fl_RX11_229 rfl (sh_53 wh8) dX11_factor_80 ?_
          refine zq_if_ge (tgt := 93) dX11_factor_83 rfl ⟨fun c12 => ?_, fun c12 => ?_⟩
          · have H := H.1 c12
            refine zq_lload_n (k := 3) (i := 3) (x := x9) 0 rfl rfl dX11_factor_93 ?_
            exact zq_lret dX11_factor_94 rfl H
          · have H := H.2 c12
            refine zq_aload_n (k := 0) (i := 0) (x := 53) 2 rfl rfl dX11_factor_86 ?_
            refine zq_bipush (v := (nI 41)) rfl dX11_factor_87 ?_
            refine zq_invV (as := [.int (nI 41)]) (st := []) (o := 53) (c := 10) (by decide) rfl (sh_53 wh8) in_X11_isSign se_X11_isSign mo_X11_isSign ml_RX11_244 rfl (Nat.le_of_ble_eq_true rfl) dX11_factor_89 rfl H (fun r1 h13 hq => ?_)
            obtain ⟨x14, rfl, wh13, H⟩ := hq
            show zQ none m_X11_factor (d + 1) 92 [(3, .long x9), (2, .int x1), (0, .ref 53), (1, .int i1)] (.int x14 :: []) h13 Q
            refine zq_pop rfl dX11_factor_92 ?_
            refine zq_lload_n (k := 3) (i := 3) (x := x9) 0 rfl rfl dX11_factor_93 ?_
            exact zq_lret dX11_factor_94 rfl H
      · have H := H.2 c7
        refine zq_aload_n (k := 0) (i := 0) (x := 53) 1 rfl rfl dX11_factor_55 ?_
        refine zq_iload_n (k := 1) (i := 1) (x := i1) 2 rfl rfl dX11_factor_56 ?_
        refine zq_iconst (v := (nI 1)) rfl dX11_factor_57 ?_
        refine zq_iadd dX11_factor_58 ?_
        refine zq_invV (as := [.int (i1 + (nI 1))]) (st := []) (o := 53) (c := 10) (by decide) rfl (sh_53 wh6) in_X11_either se_X11_either mo_X11_either ml_RX11_266 rfl (Nat.le_of_ble_eq_true rfl) dX11_factor_59 rfl H (fun r1 h15 hq => ?_)
        obtain ⟨x16, rfl, wh15, H⟩ := hq
        show zQ none m_X11_factor (d + 1) 62 [(2, .int x1), (0, .ref 53), (1, .int i1)] (.long x16 :: []) h15 Q
        refine zq_goto (tgt := 72) dX11_factor_62 rfl ?_
        refine zq_lstore_n (ls' := [(3, .long x16), (2, .int x1), (0, .ref 53), (1, .int i1)]) (k := 3) (i := 3) rfl (Nat.le_of_ble_eq_true rfl) rfl dX11_factor_72 ?_
        refine zq_iload_n (k := 2) (i := 2) (x := x1) 1 rfl rfl dX11_factor_73 ?_
        refine zq_bipush (v := (nI 40)) rfl dX11_factor_74 ?_
        refine zq_icmp_ne (tgt := 95) dX11_factor_76 rfl ⟨fun c17 => ?_, fun c17 => ?_⟩
        · have H := H.1 c17
          refine zq_iload_n (k := 2) (i := 2) (x := x1) 1 rfl rfl dX11_factor_95 ?_
          refine zq_bipush (v := (nI 33)) rfl dX11_factor_96 ?_
          refine zq_icmp_ne (tgt := 111) dX11_factor_98 rfl ⟨fun c18 => ?_, fun c18 => ?_⟩
          · have H := H.1 c18
            refine zq_lconst (v := 0) rfl dX11_factor_111 ?_
            refine zq_lstore (ls' := [(5, .long (0 : Int64)), (3, .long x16), (2, .int x1), (0, .ref 53), (1, .int i1)]) (i := 5) (Nat.le_of_ble_eq_true rfl) rfl dX11_factor_112 ?_
            refine zq_iconst (v := (nI 0)) rfl dX11_factor_114 ?_
            refine zq_istore (ls' := [(7, .int (nI 0)), (5, .long (0 : Int64)), (3, .long x16), (2, .int x1), (0, .ref 53), (1, .int i1)]) (i := 7) (Nat.le_of_ble_eq_true rfl) rfl dX11_factor_115 ?_
            exact zq_sub (ls' := [(0, .ref 53), (2, .int x1), (3, .long x16), (5, .long (0 : Int64)), (7, .int (nI 0))]) [4, 3, 2, 1, 0] rfl H
          · have H := H.2 c18
            refine zq_ldc2 (v := (1099511627775)) cl_RX11_152 dX11_factor_101 ?_
            refine zq_lload_n (k := 3) (i := 3) (x := x16) 0 rfl rfl dX11_factor_104 ?_
            refine zq_ldc2 (v := (-1)) cl_RX11_150 dX11_factor_105 ?_
            refine zq_lxor dX11_factor_108 ?_
            refine zq_land dX11_factor_109 ?_
            exact zq_lret dX11_factor_110 rfl H
        · have H := H.2 c17
          refine zq_aload_n (k := 0) (i := 0) (x := 53) 2 rfl rfl dX11_factor_79 ?_
          refine zq_getI fl_RX11_229 rfl (sh_53 wh15) dX11_factor_80 ?_
          refine zq_if_ge (tgt := 93) dX11_factor_83 rfl ⟨fun c19 => ?_, fun c19 => ?_⟩
          · have H := H.1 c19
            refine zq_lload_n (k := 3) (i := 3) (x := x16) 0 rfl rfl dX11_factor_93 ?_
            exact zq_lret dX11_factor_94 rfl H
          · have H := H.2 c19
            refine zq_aload_n (k := 0) (i := 0) (x := 53) 2 rfl rfl dX11_factor_86 ?_
            refine zq_bipush (v := (nI 41)) rfl dX11_factor_87 ?_
            refine zq_invV (as := [.int (nI 41)]) (st := []) (o := 53) (c := 10) (by decide) rfl (sh_53 wh15) in_X11_isSign se_X11_isSign mo_X11_isSign ml_RX11_244 rfl (Nat.le_of_ble_eq_true rfl) dX11_factor_89 rfl H (fun r1 h20 hq => ?_)
            obtain ⟨x21, rfl, wh20, H⟩ := hq
            show zQ none m_X11_factor (d + 1) 92 [(3, .long x16), (2, .int x1), (0, .ref 53), (1, .int i1)] (.int x21 :: []) h20 Q
            refine zq_pop rfl dX11_factor_92 ?_
            refine zq_lload_n (k := 3) (i := 3) (x := x16) 0 rfl rfl dX11_factor_93 ?_
            exact zq_lret dX11_factor_94 rfl H
    · have H := H.2 c5
      refine zq_iload_n (k := 2) (i := 2) (x := x1) 0 rfl rfl dX11_factor_16 ?_
      refine zq_bipush (v := (nI 40)) rfl dX11_factor_17 ?_
      refine zq_icmp_eq (tgt := 39) dX11_factor_19 rfl ⟨fun c22 => ?_, fun c22 => ?_⟩
      · have H := H.1 c22
        refine zq_aload_n (k := 0) (i := 0) (x := 53) 1 rfl rfl dX11_factor_39 ?_
        refine zq_dup rfl dX11_factor_40 ?_
        refine zq_getI fl_RX11_226 rfl (sh_53 hw) dX11_factor_41 ?_
        refine zq_iconst (v := (nI 1)) rfl dX11_factor_44 ?_
        refine zq_iadd dX11_factor_45 ?_
        refine zq_putI fl_RX11_226 rfl (Or.inl rfl) (sh_53 hw) rfl rfl dX11_factor_46 (fun h23 eh23 => ?_)
        have H := H h23 eh23
        have wh23 := wf_I eh23 hw
        refine zq_iload_n (k := 2) (i := 2) (x := x1) 0 rfl rfl dX11_factor_49 ?_
        refine zq_bipush (v := (nI 40)) rfl dX11_factor_50 ?_
        refine zq_icmp_ne (tgt := 65) dX11_factor_52 rfl ⟨fun c24 => ?_, fun c24 => ?_⟩
        · have H := H.1 c24
          refine zq_aload_n (k := 0) (i := 0) (x := 53) 1 rfl rfl dX11_factor_65 ?_
          refine zq_iload_n (k := 1) (i := 1) (x := i1) 2 rfl rfl dX11_factor_66 ?_
          refine zq_iconst (v := (nI 1)) rfl dX11_factor_67 ?_
          refine zq_iadd dX11_factor_68 ?_
          refine zq_invV (as := [.int (i1 + (nI 1))]) (st := []) (o := 53) (c := 10) (by decide) rfl (sh_53 wh23) in_X11_factor se_X11_factor mo_X11_factor ml_RX11_269 rfl (Nat.le_of_ble_eq_true rfl) dX11_factor_69 rfl H (fun r1 h25 hq => ?_)
          obtain ⟨x26, rfl, wh25, H⟩ := hq
          show zQ none m_X11_factor (d + 1) 72 [(2, .int x1), (0, .ref 53), (1, .int i1)] (.long x26 :: []) h25 Q
          refine zq_lstore_n (ls' := [(3, .long x26), (2, .int x1), (0, .ref 53), (1, .int i1)]) (k := 3) (i := 3) rfl (Nat.le_of_ble_eq_true rfl) rfl dX11_factor_72 ?_
          refine zq_iload_n (k := 2) (i := 2) (x := x1) 1 rfl rfl dX11_factor_73 ?_
          refine zq_bipush (v := (nI 40)) rfl dX11_factor_74 ?_
          refine zq_icmp_ne (tgt := 95) dX11_factor_76 rfl ⟨fun c27 => ?_, fun c27 => ?_⟩
          · have H := H.1 c27
            refine zq_iload_n (k := 2) (i := 2) (x := x1) 1 rfl rfl dX11_factor_95 ?_
            refine zq_bipush (v := (nI 33)) rfl dX11_factor_96 ?_
            refine zq_icmp_ne (tgt := 111) dX11_factor_98 rfl ⟨fun c28 => ?_, fun c28 => ?_⟩
            · have H := H.1 c28
              refine zq_lconst (v := 0) rfl dX11_factor_111 ?_
              refine zq_lstore (ls' := [(5, .long (0 : Int64)), (3, .long x26), (2, .int x1), (0, .ref 53), (1, .int i1)]) (i := 5) (Nat.le_of_ble_eq_true rfl) rfl dX11_factor_112 ?_
              refine zq_iconst (v := (nI 0)) rfl dX11_factor_114 ?_
              refine zq_istore (ls' := [(7, .int (nI 0)), (5, .long (0 : Int64)), (3, .long x26), (2, .int x1), (0, .ref 53), (1, .int i1)]) (i := 7) (Nat.le_of_ble_eq_true rfl) rfl dX11_factor_115 ?_
              exact zq_sub (ls' := [(0, .ref 53), (2, .int x1), (3, .long x26), (5, .long (0 : Int64)), (7, .int (nI 0))]) [4, 3, 2, 1, 0] rfl H
            · have H := H.2 c28
              refine zq_ldc2 (v := (1099511627775)) cl_RX11_152 dX11_factor_101 ?_
              refine zq_lload_n (k := 3) (i := 3) (x := x26) 0 rfl rfl dX11_factor_104 ?_
              refine zq_ldc2 (v := (-1)) cl_RX11_150 dX11_factor_105 ?_
              refine zq_lxor dX11_factor_108 ?_
              refine zq_land dX11_factor_109 ?_
              exact zq_lret dX11_factor_110 rfl H
          · have H := H.2 c27
            refine zq_aload_n (k := 0) (i := 0) (x := 53) 2 rfl rfl dX11_factor_79 ?_
            refine zq_getI fl_RX11_229 rfl (sh_53 wh25) dX11_factor_80 ?_
            refine zq_if_ge (tgt := 93) dX11_factor_83 rfl ⟨fun c29 => ?_, fun c29 => ?_⟩
            · have H := H.1 c29
              refine zq_lload_n (k := 3) (i := 3) (x := x26) 0 rfl rfl dX11_factor_93 ?_
              exact zq_lret dX11_factor_94 rfl H
            · have H := H.2 c29
              refine zq_aload_n (k := 0) (i := 0) (x := 53) 2 rfl rfl dX11_factor_86 ?_
              refine zq_bipush (v := (nI 41)) rfl dX11_factor_87 ?_
              refine zq_invV (as := [.int (nI 41)]) (st := []) (o := 53) (c := 10) (by decide) rfl (sh_53 wh25) in_X11_isSign se_X11_isSign mo_X11_isSign ml_RX11_244 rfl (Nat.le_of_ble_eq_true rfl) dX11_factor_89 rfl H (fun r1 h30 hq => ?_)
              obtain ⟨x31, rfl, wh30, H⟩ := hq
              show zQ none m_X11_factor (d + 1) 92 [(3, .long x26), (2, .int x1), (0, .ref 53), (1, .int i1)] (.int x31 :: []) h30 Q
              refine zq_pop rfl dX11_factor_92 ?_
              refine zq_lload_n (k := 3) (i := 3) (x := x26) 0 rfl rfl dX11_factor_93 ?_
              exact zq_lret dX11_factor_94 rfl H
        · have H := H.2 c24
          refine zq_aload_n (k := 0) (i := 0) (x := 53) 1 rfl rfl dX11_factor_55 ?_
          refine zq_iload_n (k := 1) (i := 1) (x := i1) 2 rfl rfl dX11_factor_56 ?_
          refine zq_iconst (v := (nI 1)) rfl dX11_factor_57 ?_
          refine zq_iadd dX11_factor_58 ?_
          refine zq_invV (as := [.int (i1 + (nI 1))]) (st := []) (o := 53) (c := 10) (by decide) rfl (sh_53 wh23) in_X11_either se_X11_either mo_X11_either ml_RX11_266 rfl (Nat.le_of_ble_eq_true rfl) dX11_factor_59 rfl H (fun r1 h32 hq => ?_)
          obtain ⟨x33, rfl, wh32, H⟩ := hq
          show zQ none m_X11_factor (d + 1) 62 [(2, .int x1), (0, .ref 53), (1, .int i1)] (.long x33 :: []) h32 Q
          refine zq_goto (tgt := 72) dX11_factor_62 rfl ?_
          refine zq_lstore_n (ls' := [(3, .long x33), (2, .int x1), (0, .ref 53), (1, .int i1)]) (k := 3) (i := 3) rfl (Nat.le_of_ble_eq_true rfl) rfl dX11_factor_72 ?_
          refine zq_iload_n (k := 2) (i := 2) (x := x1) 1 rfl rfl dX11_factor_73 ?_
          refine zq_bipush (v := (nI 40)) rfl dX11_factor_74 ?_
          refine zq_icmp_ne (tgt := 95) dX11_factor_76 rfl ⟨fun c34 => ?_, fun c34 => ?_⟩
          · have H := H.1 c34
            refine zq_iload_n (k := 2) (i := 2) (x := x1) 1 rfl rfl dX11_factor_95 ?_
            refine zq_bipush (v := (nI 33)) rfl dX11_factor_96 ?_
            refine zq_icmp_ne (tgt := 111) dX11_factor_98 rfl ⟨fun c35 => ?_, fun c35 => ?_⟩
            · have H := H.1 c35
              refine zq_lconst (v := 0) rfl dX11_factor_111 ?_
              refine zq_lstore (ls' := [(5, .long (0 : Int64)), (3, .long x33), (2, .int x1), (0, .ref 53), (1, .int i1)]) (i := 5) (Nat.le_of_ble_eq_true rfl) rfl dX11_factor_112 ?_
              refine zq_iconst (v := (nI 0)) rfl dX11_factor_114 ?_
              refine zq_istore (ls' := [(7, .int (nI 0)), (5, .long (0 : Int64)), (3, .long x33), (2, .int x1), (0, .ref 53), (1, .int i1)]) (i := 7) (Nat.le_of_ble_eq_true rfl) rfl dX11_factor_115 ?_
              exact zq_sub (ls' := [(0, .ref 53), (2, .int x1), (3, .long x33), (5, .long (0 : Int64)), (7, .int (nI 0))]) [4, 3, 2, 1, 0] rfl H
            · have H := H.2 c35
              refine zq_ldc2 (v := (1099511627775)) cl_RX11_152 dX11_factor_101 ?_
              refine zq_lload_n (k := 3) (i := 3) (x := x33) 0 rfl rfl dX11_factor_104 ?_
              refine zq_ldc2 (v := (-1)) cl_RX11_150 dX11_factor_105 ?_
              refine zq_lxor dX11_factor_108 ?_
              refine zq_land dX11_factor_109 ?_
              exact zq_lret dX11_factor_110 rfl H
          · have H := H.2 c34
            refine zq_aload_n (k := 0) (i := 0) (x := 53) 2 rfl rfl dX11_factor_79 ?_
            refine zq_getI fl_RX11_229 rfl (sh_53 wh32) dX11_factor_80 ?_
            refine zq_if_ge (tgt := 93) dX11_factor_83 rfl ⟨fun c36 => ?_, fun c36 => ?_⟩
            · have H := H.1 c36
              refine zq_lload_n (k := 3) (i := 3) (x := x33) 0 rfl rfl dX11_factor_93 ?_
              exact zq_lret dX11_factor_94 rfl H
            · have H := H.2 c36
              refine zq_aload_n (k := 0) (i := 0) (x := 53) 2 rfl rfl dX11_factor_86 ?_
              refine zq_bipush (v := (nI 41)) rfl dX11_factor_87 ?_
              refine zq_invV (as := [.int (nI 41)]) (st := []) (o := 53) (c := 10) (by decide) rfl (sh_53 wh32) in_X11_isSign se_X11_isSign mo_X11_isSign ml_RX11_244 rfl (Nat.le_of_ble_eq_true rfl) dX11_factor_89 rfl H (fun r1 h37 hq => ?_)
              obtain ⟨x38, rfl, wh37, H⟩ := hq
              show zQ none m_X11_factor (d + 1) 92 [(3, .long x33), (2, .int x1), (0, .ref 53), (1, .int i1)] (.int x38 :: []) h37 Q
              refine zq_pop rfl dX11_factor_92 ?_
              refine zq_lload_n (k := 3) (i := 3) (x := x33) 0 rfl rfl dX11_factor_93 ?_
              exact zq_lret dX11_factor_94 rfl H
      · have H := H.2 c22
        refine zq_iload_n (k := 2) (i := 2) (x := x1) 0 rfl rfl dX11_factor_22 ?_
        refine zq_bipush (v := (nI 83)) rfl dX11_factor_23 ?_
        refine zq_icmp_eq (tgt := 39) dX11_factor_25 rfl ⟨fun c39 => ?_, fun c39 => ?_⟩
        · have H := H.1 c39
          refine zq_aload_n (k := 0) (i := 0) (x := 53) 1 rfl rfl dX11_factor_39 ?_
          refine zq_dup rfl dX11_factor_40 ?_
          refine zq_getI fl_RX11_226 rfl (sh_53 hw) dX11_factor_41 ?_
          refine zq_iconst (v := (nI 1)) rfl dX11_factor_44 ?_
          refine zq_iadd dX11_factor_45 ?_
          refine zq_putI fl_RX11_226 rfl (Or.inl rfl) (sh_53 hw) rfl rfl dX11_factor_46 (fun h40 eh40 => ?_)
          have H := H h40 eh40
          have wh40 := wf_I eh40 hw
          refine zq_iload_n (k := 2) (i := 2) (x := x1) 0 rfl rfl dX11_factor_49 ?_
          refine zq_bipush (v := (nI 40)) rfl dX11_factor_50 ?_
          refine zq_icmp_ne (tgt := 65) dX11_factor_52 rfl ⟨fun c41 => ?_, fun c41 => ?_⟩
          · have H := H.1 c41
            refine zq_aload_n (k := 0) (i := 0) (x := 53) 1 rfl rfl dX11_factor_65 ?_
            refine zq_iload_n (k := 1) (i := 1) (x := i1) 2 rfl rfl dX11_factor_66 ?_
            refine zq_iconst (v := (nI 1)) rfl dX11_factor_67 ?_
            refine zq_iadd dX11_factor_68 ?_
            refine zq_invV (as := [.int (i1 + (nI 1))]) (st := []) (o := 53) (c := 10) (by decide) rfl (sh_53 wh40) in_X11_factor se_X11_factor mo_X11_factor ml_RX11_269 rfl (Nat.le_of_ble_eq_true rfl) dX11_factor_69 rfl H (fun r1 h42 hq => ?_)
            obtain ⟨x43, rfl, wh42, H⟩ := hq
            show zQ none m_X11_factor (d + 1) 72 [(2, .int x1), (0, .ref 53), (1, .int i1)] (.long x43 :: []) h42 Q
            refine zq_lstore_n (ls' := [(3, .long x43), (2, .int x1), (0, .ref 53), (1, .int i1)]) (k := 3) (i := 3) rfl (Nat.le_of_ble_eq_true rfl) rfl dX11_factor_72 ?_
            refine zq_iload_n (k := 2) (i := 2) (x := x1) 1 rfl rfl dX11_factor_73 ?_
            refine zq_bipush (v := (nI 40)) rfl dX11_factor_74 ?_
            refine zq_icmp_ne (tgt := 95) dX11_factor_76 rfl ⟨fun c44 => ?_, fun c44 => ?_⟩
            · have H := H.1 c44
              refine zq_iload_n (k := 2) (i := 2) (x := x1) 1 rfl rfl dX11_factor_95 ?_
              refine zq_bipush (v := (nI 33)) rfl dX11_factor_96 ?_
              refine zq_icmp_ne (tgt := 111) dX11_factor_98 rfl ⟨fun c45 => ?_, fun c45 => ?_⟩
              · have H := H.1 c45
                refine zq_lconst (v := 0) rfl dX11_factor_111 ?_
                refine zq_lstore (ls' := [(5, .long (0 : Int64)), (3, .long x43), (2, .int x1), (0, .ref 53), (1, .int i1)]) (i := 5) (Nat.le_of_ble_eq_true rfl) rfl dX11_factor_112 ?_
                refine zq_iconst (v := (nI 0)) rfl dX11_factor_114 ?_
                refine zq_istore (ls' := [(7, .int (nI 0)), (5, .long (0 : Int64)), (3, .long x43), (2, .int x1), (0, .ref 53), (1, .int i1)]) (i := 7) (Nat.le_of_ble_eq_true rfl) rfl dX11_factor_115 ?_
                exact zq_sub (ls' := [(0, .ref 53), (2, .int x1), (3, .long x43), (5, .long (0 : Int64)), (7, .int (nI 0))]) [4, 3, 2, 1, 0] rfl H
              · have H := H.2 c45
                refine zq_ldc2 (v := (1099511627775)) cl_RX11_152 dX11_factor_101 ?_
                refine zq_lload_n (k := 3) (i := 3) (x := x43) 0 rfl rfl dX11_factor_104 ?_
                refine zq_ldc2 (v := (-1)) cl_RX11_150 dX11_factor_105 ?_
                refine zq_lxor dX11_factor_108 ?_
                refine zq_land dX11_factor_109 ?_
                exact zq_lret dX11_factor_110 rfl H
            · have H := H.2 c44
              refine zq_aload_n (k := 0) (i := 0) (x := 53) 2 rfl rfl dX11_factor_79 ?_
              refine zq_getI fl_RX11_229 rfl (sh_53 wh42) dX11_factor_80 ?_
              refine zq_if_ge (tgt := 93) dX11_factor_83 rfl ⟨fun c46 => ?_, fun c46 => ?_⟩
              · have H := H.1 c46
                refine zq_lload_n (k := 3) (i := 3) (x := x43) 0 rfl rfl dX11_factor_93 ?_
                exact zq_lret dX11_factor_94 rfl H
              · have H := H.2 c46
                refine zq_aload_n (k := 0) (i := 0) (x := 53) 2 rfl rfl dX11_factor_86 ?_
                refine zq_bipush (v := (nI 41)) rfl dX11_factor_87 ?_
                refine zq_invV (as := [.int (nI 41)]) (st := []) (o := 53) (c := 10) (by decide) rfl (sh_53 wh42) in_X11_isSign se_X11_isSign mo_X11_isSign ml_RX11_244 rfl (Nat.le_of_ble_eq_true rfl) dX11_factor_89 rfl H (fun r1 h47 hq => ?_)
                obtain ⟨x48, rfl, wh47, H⟩ := hq
                show zQ none m_X11_factor (d + 1) 92 [(3, .long x43), (2, .int x1), (0, .ref 53), (1, .int i1)] (.int x48 :: []) h47 Q
                refine zq_pop rfl dX11_factor_92 ?_
                refine zq_lload_n (k := 3) (i := 3) (x := x43) 0 rfl rfl dX11_factor_93 ?_
                exact zq_lret dX11_factor_94 rfl H
          · have H := H.2 c41
            refine zq_aload_n (k := 0) (i := 0) (x := 53) 1 rfl rfl dX11_factor_55 ?_
            refine zq_iload_n (k := 1) (i := 1) (x := i1) 2 rfl rfl dX11_factor_56 ?_
            refine zq_iconst (v := (nI 1)) rfl dX11_factor_57 ?_
            refine zq_iadd dX11_factor_58 ?_
            refine zq_invV (as := [.int (i1 + (nI 1))]) (st := []) (o := 53) (c := 10) (by decide) rfl (sh_53 wh40) in_X11_either se_X11_either mo_X11_either ml_RX11_266 rfl (Nat.le_of_ble_eq_true rfl) dX11_factor_59 rfl H (fun r1 h49 hq => ?_)
            obtain ⟨x50, rfl, wh49, H⟩ := hq
            show zQ none m_X11_factor (d + 1) 62 [(2, .int x1), (0, .ref 53), (1, .int i1)] (.long x50 :: []) h49 Q
            refine zq_goto (tgt := 72) dX11_factor_62 rfl ?_
            refine zq_lstore_n (ls' := [(3, .long x50), (2, .int x1), (0, .ref 53), (1, .int i1)]) (k := 3) (i := 3) rfl (Nat.le_of_ble_eq_true rfl) rfl dX11_factor_72 ?_
            refine zq_iload_n (k := 2) (i := 2) (x := x1) 1 rfl rfl dX11_factor_73 ?_
            refine zq_bipush (v := (nI 40)) rfl dX11_factor_74 ?_
            refine zq_icmp_ne (tgt := 95) dX11_factor_76 rfl ⟨fun c51 => ?_, fun c51 => ?_⟩
            · have H := H.1 c51
              refine zq_iload_n (k := 2) (i := 2) (x := x1) 1 rfl rfl dX11_factor_95 ?_
              refine zq_bipush (v := (nI 33)) rfl dX11_factor_96 ?_
              refine zq_icmp_ne (tgt := 111) dX11_factor_98 rfl ⟨fun c52 => ?_, fun c52 => ?_⟩
              · have H := H.1 c52
                refine zq_lconst (v := 0) rfl dX11_factor_111 ?_
                refine zq_lstore (ls' := [(5, .long (0 : Int64)), (3, .long x50), (2, .int x1), (0, .ref 53), (1, .int i1)]) (i := 5) (Nat.le_of_ble_eq_true rfl) rfl dX11_factor_112 ?_
                refine zq_iconst (v := (nI 0)) rfl dX11_factor_114 ?_
                refine zq_istore (ls' := [(7, .int (nI 0)), (5, .long (0 : Int64)), (3, .long x50), (2, .int x1), (0, .ref 53), (1, .int i1)]) (i := 7) (Nat.le_of_ble_eq_true rfl) rfl dX11_factor_115 ?_
                exact zq_sub (ls' := [(0, .ref 53), (2, .int x1), (3, .long x50), (5, .long (0 : Int64)), (7, .int (nI 0))]) [4, 3, 2, 1, 0] rfl H
              · have H := H.2 c52
                refine zq_ldc2 (v := (1099511627775)) cl_RX11_152 dX11_factor_101 ?_
                refine zq_lload_n (k := 3) (i := 3) (x := x50) 0 rfl rfl dX11_factor_104 ?_
                refine zq_ldc2 (v := (-1)) cl_RX11_150 dX11_factor_105 ?_
                refine zq_lxor dX11_factor_108 ?_
                refine zq_land dX11_factor_109 ?_
                exact zq_lret dX11_factor_110 rfl H
            · have H := H.2 c51
              refine zq_aload_n (k := 0) (i := 0) (x := 53) 2 rfl rfl dX11_factor_79 ?_
              refine zq_getI fl_RX11_229 rfl (sh_53 wh49) dX11_factor_80 ?_
              refine zq_if_ge (tgt := 93) dX11_factor_83 rfl ⟨fun c53 => ?_, fun c53 => ?_⟩
              · have H := H.1 c53
                refine zq_lload_n (k := 3) (i := 3) (x := x50) 0 rfl rfl dX11_factor_93 ?_
                exact zq_lret dX11_factor_94 rfl H
              · have H := H.2 c53
                refine zq_aload_n (k := 0) (i := 0) (x := 53) 2 rfl rfl dX11_factor_86 ?_
                refine zq_bipush (v := (nI 41)) rfl dX11_factor_87 ?_
                refine zq_invV (as := [.int (nI 41)]) (st := []) (o := 53) (c := 10) (by decide) rfl (sh_53 wh49) in_X11_isSign se_X11_isSign mo_X11_isSign ml_RX11_244 rfl (Nat.le_of_ble_eq_true rfl) dX11_factor_89 rfl H (fun r1 h54 hq => ?_)
                obtain ⟨x55, rfl, wh54, H⟩ := hq
                show zQ none m_X11_factor (d + 1) 92 [(3, .long x50), (2, .int x1), (0, .ref 53), (1, .int i1)] (.int x55 :: []) h54 Q
                refine zq_pop rfl dX11_factor_92 ?_
                refine zq_lload_n (k := 3) (i := 3) (x := x50) 0 rfl rfl dX11_factor_93 ?_
                exact zq_lret dX11_factor_94 rfl H
        · have H := H.2 c39
          refine zq_iload_n (k := 2) (i := 2) (x := x1) 0 rfl rfl dX11_factor_28 ?_
          refine zq_bipush (v := (nI 65)) rfl dX11_factor_29 ?_
          refine zq_icmp_eq (tgt := 39) dX11_factor_31 rfl ⟨fun c56 => ?_, fun c56 => ?_⟩
          · have H := H.1 c56
            refine zq_aload_n (k := 0) (i := 0) (x := 53) 1 rfl rfl dX11_factor_39 ?_
            refine zq_dup rfl dX11_factor_40 ?_
            refine zq_getI fl_RX11_226 rfl (sh_53 hw) dX11_factor_41 ?_
            refine zq_iconst (v := (nI 1)) rfl dX11_factor_44 ?_
            refine zq_iadd dX11_factor_45 ?_
            refine zq_putI fl_RX11_226 rfl (Or.inl rfl) (sh_53 hw) rfl rfl dX11_factor_46 (fun h57 eh57 => ?_)
            have H := H h57 eh57
            have wh57 := wf_I eh57 hw
            refine zq_iload_n (k := 2) (i := 2) (x := x1) 0 rfl rfl dX11_factor_49 ?_
            refine zq_bipush (v := (nI 40)) rfl dX11_factor_50 ?_
            refine zq_icmp_ne (tgt := 65) dX11_factor_52 rfl ⟨fun c58 => ?_, fun c58 => ?_⟩
            · have H := H.1 c58
              refine zq_aload_n (k := 0) (i := 0) (x := 53) 1 rfl rfl dX11_factor_65 ?_
              refine zq_iload_n (k := 1) (i := 1) (x := i1) 2 rfl rfl dX11_factor_66 ?_
              refine zq_iconst (v := (nI 1)) rfl dX11_factor_67 ?_
              refine zq_iadd dX11_factor_68 ?_
              refine zq_invV (as := [.int (i1 + (nI 1))]) (st := []) (o := 53) (c := 10) (by decide) rfl (sh_53 wh57) in_X11_factor se_X11_factor mo_X11_factor ml_RX11_269 rfl (Nat.le_of_ble_eq_true rfl) dX11_factor_69 rfl H (fun r1 h59 hq => ?_)
              obtain ⟨x60, rfl, wh59, H⟩ := hq
              show zQ none m_X11_factor (d + 1) 72 [(2, .int x1), (0, .ref 53), (1, .int i1)] (.long x60 :: []) h59 Q
              refine zq_lstore_n (ls' := [(3, .long x60), (2, .int x1), (0, .ref 53), (1, .int i1)]) (k := 3) (i := 3) rfl (Nat.le_of_ble_eq_true rfl) rfl dX11_factor_72 ?_
              refine zq_iload_n (k := 2) (i := 2) (x := x1) 1 rfl rfl dX11_factor_73 ?_
              refine zq_bipush (v := (nI 40)) rfl dX11_factor_74 ?_
              refine zq_icmp_ne (tgt := 95) dX11_factor_76 rfl ⟨fun c61 => ?_, fun c61 => ?_⟩
              · have H := H.1 c61
                refine zq_iload_n (k := 2) (i := 2) (x := x1) 1 rfl rfl dX11_factor_95 ?_
                refine zq_bipush (v := (nI 33)) rfl dX11_factor_96 ?_
                refine zq_icmp_ne (tgt := 111) dX11_factor_98 rfl ⟨fun c62 => ?_, fun c62 => ?_⟩
                · have H := H.1 c62
                  refine zq_lconst (v := 0) rfl dX11_factor_111 ?_
                  refine zq_lstore (ls' := [(5, .long (0 : Int64)), (3, .long x60), (2, .int x1), (0, .ref 53), (1, .int i1)]) (i := 5) (Nat.le_of_ble_eq_true rfl) rfl dX11_factor_112 ?_
                  refine zq_iconst (v := (nI 0)) rfl dX11_factor_114 ?_
                  refine zq_istore (ls' := [(7, .int (nI 0)), (5, .long (0 : Int64)), (3, .long x60), (2, .int x1), (0, .ref 53), (1, .int i1)]) (i := 7) (Nat.le_of_ble_eq_true rfl) rfl dX11_factor_115 ?_
                  exact zq_sub (ls' := [(0, .ref 53), (2, .int x1), (3, .long x60), (5, .long (0 : Int64)), (7, .int (nI 0))]) [4, 3, 2, 1, 0] rfl H
                · have H := H.2 c62
                  refine zq_ldc2 (v := (1099511627775)) cl_RX11_152 dX11_factor_101 ?_
                  refine zq_lload_n (k := 3) (i := 3) (x := x60) 0 rfl rfl dX11_factor_104 ?_
                  refine zq_ldc2 (v := (-1)) cl_RX11_150 dX11_factor_105 ?_
                  refine zq_lxor dX11_factor_108 ?_
                  refine zq_land dX11_factor_109 ?_
                  exact zq_lret dX11_factor_110 rfl H
              · have H := H.2 c61
                refine zq_aload_n (k := 0) (i := 0) (x := 53) 2 rfl rfl dX11_factor_79 ?_
                refine zq_getI fl_RX11_229 rfl (sh_53 wh59) dX11_factor_80 ?_
                refine zq_if_ge (tgt := 93) dX11_factor_83 rfl ⟨fun c63 => ?_, fun c63 => ?_⟩
                · have H := H.1 c63
                  refine zq_lload_n (k := 3) (i := 3) (x := x60) 0 rfl rfl dX11_factor_93 ?_
                  exact zq_lret dX11_factor_94 rfl H
                · have H := H.2 c63
                  refine zq_aload_n (k := 0) (i := 0) (x := 53) 2 rfl rfl dX11_factor_86 ?_
                  refine zq_bipush (v := (nI 41)) rfl dX11_factor_87 ?_
                  refine zq_invV (as := [.int (nI 41)]) (st := []) (o := 53) (c := 10) (by decide) rfl (sh_53 wh59) in_X11_isSign se_X11_isSign mo_X11_isSign ml_RX11_244 rfl (Nat.le_of_ble_eq_true rfl) dX11_factor_89 rfl H (fun r1 h64 hq => ?_)
                  obtain ⟨x65, rfl, wh64, H⟩ := hq
                  show zQ none m_X11_factor (d + 1) 92 [(3, .long x60), (2, .int x1), (0, .ref 53), (1, .int i1)] (.int x65 :: []) h64 Q
                  refine zq_pop rfl dX11_factor_92 ?_
                  refine zq_lload_n (k := 3) (i := 3) (x := x60) 0 rfl rfl dX11_factor_93 ?_
                  exact zq_lret dX11_factor_94 rfl H
            · have H := H.2 c58
              refine zq_aload_n (k := 0) (i := 0) (x := 53) 1 rfl rfl dX11_factor_55 ?_
              refine zq_iload_n (k := 1) (i := 1) (x := i1) 2 rfl rfl dX11_factor_56 ?_
              refine zq_iconst (v := (nI 1)) rfl dX11_factor_57 ?_
              refine zq_iadd dX11_factor_58 ?_
              refine zq_invV (as := [.int (i1 + (nI 1))]) (st := []) (o := 53) (c := 10) (by decide) rfl (sh_53 wh57) in_X11_either se_X11_either mo_X11_either ml_RX11_266 rfl (Nat.le_of_ble_eq_true rfl) dX11_factor_59 rfl H (fun r1 h66 hq => ?_)
              obtain ⟨x67, rfl, wh66, H⟩ := hq
              show zQ none m_X11_factor (d + 1) 62 [(2, .int x1), (0, .ref 53), (1, .int i1)] (.long x67 :: []) h66 Q
              refine zq_goto (tgt := 72) dX11_factor_62 rfl ?_
              refine zq_lstore_n (ls' := [(3, .long x67), (2, .int x1), (0, .ref 53), (1, .int i1)]) (k := 3) (i := 3) rfl (Nat.le_of_ble_eq_true rfl) rfl dX11_factor_72 ?_
              refine zq_iload_n (k := 2) (i := 2) (x := x1) 1 rfl rfl dX11_factor_73 ?_
              refine zq_bipush (v := (nI 40)) rfl dX11_factor_74 ?_
              refine zq_icmp_ne (tgt := 95) dX11_factor_76 rfl ⟨fun c68 => ?_, fun c68 => ?_⟩
              · have H := H.1 c68
                refine zq_iload_n (k := 2) (i := 2) (x := x1) 1 rfl rfl dX11_factor_95 ?_
                refine zq_bipush (v := (nI 33)) rfl dX11_factor_96 ?_
                refine zq_icmp_ne (tgt := 111) dX11_factor_98 rfl ⟨fun c69 => ?_, fun c69 => ?_⟩
                · have H := H.1 c69
                  refine zq_lconst (v := 0) rfl dX11_factor_111 ?_
                  refine zq_lstore (ls' := [(5, .long (0 : Int64)), (3, .long x67), (2, .int x1), (0, .ref 53), (1, .int i1)]) (i := 5) (Nat.le_of_ble_eq_true rfl) rfl dX11_factor_112 ?_
                  refine zq_iconst (v := (nI 0)) rfl dX11_factor_114 ?_
                  refine zq_istore (ls' := [(7, .int (nI 0)), (5, .long (0 : Int64)), (3, .long x67), (2, .int x1), (0, .ref 53), (1, .int i1)]) (i := 7) (Nat.le_of_ble_eq_true rfl) rfl dX11_factor_115 ?_
                  exact zq_sub (ls' := [(0, .ref 53), (2, .int x1), (3, .long x67), (5, .long (0 : Int64)), (7, .int (nI 0))]) [4, 3, 2, 1, 0] rfl H
                · have H := H.2 c69
                  refine zq_ldc2 (v := (1099511627775)) cl_RX11_152 dX11_factor_101 ?_
                  refine zq_lload_n (k := 3) (i := 3) (x := x67) 0 rfl rfl dX11_factor_104 ?_
                  refine zq_ldc2 (v := (-1)) cl_RX11_150 dX11_factor_105 ?_
                  refine zq_lxor dX11_factor_108 ?_
                  refine zq_land dX11_factor_109 ?_
                  exact zq_lret dX11_factor_110 rfl H
              · have H := H.2 c68
                refine zq_aload_n (k := 0) (i := 0) (x := 53) 2 rfl rfl dX11_factor_79 ?_
                refine zq_getI fl_RX11_229 rfl (sh_53 wh66) dX11_factor_80 ?_
                refine zq_if_ge (tgt := 93) dX11_factor_83 rfl ⟨fun c70 => ?_, fun c70 => ?_⟩
                · have H := H.1 c70
                  refine zq_lload_n (k := 3) (i := 3) (x := x67) 0 rfl rfl dX11_factor_93 ?_
                  exact zq_lret dX11_factor_94 rfl H
                · have H := H.2 c70
                  refine zq_aload_n (k := 0) (i := 0) (x := 53) 2 rfl rfl dX11_factor_86 ?_
                  refine zq_bipush (v := (nI 41)) rfl dX11_factor_87 ?_
                  refine zq_invV (as := [.int (nI 41)]) (st := []) (o := 53) (c := 10) (by decide) rfl (sh_53 wh66) in_X11_isSign se_X11_isSign mo_X11_isSign ml_RX11_244 rfl (Nat.le_of_ble_eq_true rfl) dX11_factor_89 rfl H (fun r1 h71 hq => ?_)
                  obtain ⟨x72, rfl, wh71, H⟩ := hq
                  show zQ none m_X11_factor (d + 1) 92 [(3, .long x67), (2, .int x1), (0, .ref 53), (1, .int i1)] (.int x72 :: []) h71 Q
                  refine zq_pop rfl dX11_factor_92 ?_
                  refine zq_lload_n (k := 3) (i := 3) (x := x67) 0 rfl rfl dX11_factor_93 ?_
                  exact zq_lret dX11_factor_94 rfl H
          · have H := H.2 c56
            refine zq_aload_n (k := 0) (i := 0) (x := 53) 1 rfl rfl dX11_factor_34 ?_
            refine zq_invV (as := []) (st := []) (o := 53) (c := 10) (by decide) rfl (sh_53 hw) in_X11_tested se_X11_tested mo_X11_tested ml_RX11_262 rfl (Nat.le_of_ble_eq_true rfl) dX11_factor_35 rfl H (fun r1 h73 hq => ?_)
            obtain ⟨x74, rfl, wh73, H⟩ := hq
            show zQ none m_X11_factor (d + 1) 38 [(2, .int x1), (0, .ref 53), (1, .int i1)] (.long x74 :: []) h73 Q
            exact zq_lret dX11_factor_38 rfl H
set_option maxHeartbeats 2000000 in
set_option maxRecDepth 20000 in
theorem r_X11_factor_117 {d : Nat} {h : AH} {Q : Option Value → AH → Prop} (i2 : Int32) (l3 : Int64) (l5 : Int64) (i7 : Int32) (hw : zWF h)  (H : ((nI 40) ≤ i7 → Q (some (.long l5)) h) ∧ (¬ (nI 40) ≤ i7 → (i2 ≠ (nI 83) → vp_in i7 40 ∧ (((lg_cmp ((h.L 58 i7.toNatClampNeg) &&& (l3 ^^^ (-1 : Int64))) (0 : Int64)) ≠ 0 → zQ none m_X11_factor (d + 1) 117 [(0, .ref 53), (2, .int i2), (3, .long l3), (5, .long (l5 ||| (0 : Int64))), (7, .int (i7 + (nI 1)))] [] h Q) ∧ ((lg_cmp ((h.L 58 i7.toNatClampNeg) &&& (l3 ^^^ (-1 : Int64))) (0 : Int64)) = 0 → zQ none m_X11_factor (d + 1) 117 [(0, .ref 53), (2, .int i2), (3, .long l3), (5, .long (l5 ||| ((1 : Int64) <<< (i7.toInt64 &&& 63)))), (7, .int (i7 + (nI 1)))] [] h Q))) ∧ (i2 = (nI 83) → vp_in i7 40 ∧ (((lg_cmp ((h.L 58 i7.toNatClampNeg) &&& l3) (0 : Int64)) = 0 → zQ none m_X11_factor (d + 1) 117 [(0, .ref 53), (2, .int i2), (3, .long l3), (5, .long (l5 ||| (0 : Int64))), (7, .int (i7 + (nI 1)))] [] h Q) ∧ (¬ (lg_cmp ((h.L 58 i7.toNatClampNeg) &&& l3) (0 : Int64)) = 0 → zQ none m_X11_factor (d + 1) 117 [(0, .ref 53), (2, .int i2), (3, .long l3), (5, .long (l5 ||| ((1 : Int64) <<< (i7.toInt64 &&& 63)))), (7, .int (i7 + (nI 1)))] [] h Q))))) : zQ none m_X11_factor (d + 1) 117 [(0, .ref 53), (2, .int i2), (3, .long l3), (5, .long l5), (7, .int i7)] [] h Q := by
  refine zq_iload (i := 7) (x := i7) 4 rfl dX11_factor_117 ?_
  refine zq_bipush (v := (nI 40)) rfl dX11_factor_119 ?_
  refine zq_icmp_ge (tgt := 184) dX11_factor_121 rfl ⟨fun c1 => ?_, fun c1 => ?_⟩
  · have H := H.1 c1
    refine zq_lload (i := 5) (x := l5) 3 rfl dX11_factor_184 ?_
    exact zq_lret dX11_factor_186 rfl H
  · have H := H.2 c1
    refine zq_lload (i := 5) (x := l5) 3 rfl dX11_factor_124 ?_
    refine zq_iload_n (k := 2) (i := 2) (x := i2) 1 rfl rfl dX11_factor_126 ?_
    refine zq_bipush (v := (nI 83)) rfl dX11_factor_127 ?_
    refine zq_icmp_ne (tgt := 149) dX11_factor_129 rfl ⟨fun c2 => ?_, fun c2 => ?_⟩
    · have H := H.1 c2
      refine zq_aload_n (k := 0) (i := 0) (x := 53) 0 rfl rfl dX11_factor_149 ?_
      refine zq_getP fl_RX11_24 rfl (sh_53 hw) (rf_53_4 hw) dX11_factor_150 ?_
      refine zq_iload (i := 7) (x := i7) 4 rfl dX11_factor_153 ?_
      obtain ⟨b3, H⟩ := H
      refine zq_lald (sh_58 hw) b3 dX11_factor_155 ?_
      refine zq_lload_n (k := 3) (i := 3) (x := l3) 2 rfl rfl dX11_factor_156 ?_
      refine zq_ldc2 (v := (-1)) cl_RX11_150 dX11_factor_157 ?_
      refine zq_lxor dX11_factor_160 ?_
      refine zq_land dX11_factor_161 ?_
      refine zq_lconst (v := 0) rfl dX11_factor_162 ?_
      refine zq_lcmp dX11_factor_163 ?_
      refine zq_if_ne (tgt := 174) dX11_factor_164 rfl ⟨fun c4 => ?_, fun c4 => ?_⟩
      · have H := H.1 c4
        refine zq_lconst (v := 0) rfl dX11_factor_174 ?_
        refine zq_lor dX11_factor_175 ?_
        refine zq_lstore (ls' := [(5, .long (l5 ||| (0 : Int64))), (0, .ref 53), (2, .int i2), (3, .long l3), (7, .int i7)]) (i := 5) (Nat.le_of_ble_eq_true rfl) rfl dX11_factor_176 ?_
        refine zq_iinc (i := 7) (x := i7) (v := (nI 1)) (ls' := [(7, .int (i7 + (nI 1))), (5, .long (l5 ||| (0 : Int64))), (0, .ref 53), (2, .int i2), (3, .long l3)]) 4 rfl rfl (Nat.le_of_ble_eq_true rfl) rfl dX11_factor_178 ?_
        refine zq_goto (tgt := 117) dX11_factor_181 rfl ?_
        exact zq_sub (ls' := [(0, .ref 53), (2, .int i2), (3, .long l3), (5, .long (l5 ||| (0 : Int64))), (7, .int (i7 + (nI 1)))]) [2, 3, 4, 1, 0] rfl H
      · have H := H.2 c4
        refine zq_lconst (v := 1) rfl dX11_factor_167 ?_
        refine zq_iload (i := 7) (x := i7) 4 rfl dX11_factor_168 ?_
        refine zq_lshl dX11_factor_170 ?_
        refine zq_goto (tgt := 175) dX11_factor_171 rfl ?_
        refine zq_lor dX11_factor_175 ?_
        refine zq_lstore (ls' := [(5, .long (l5 ||| ((1 : Int64) <<< (i7.toInt64 &&& 63)))), (0, .ref 53), (2, .int i2), (3, .long l3), (7, .int i7)]) (i := 5) (Nat.le_of_ble_eq_true rfl) rfl dX11_factor_176 ?_
        refine zq_iinc (i := 7) (x := i7) (v := (nI 1)) (ls' := [(7, .int (i7 + (nI 1))), (5, .long (l5 ||| ((1 : Int64) <<< (i7.toInt64 &&& 63)))), (0, .ref 53), (2, .int i2), (3, .long l3)]) 4 rfl rfl (Nat.le_of_ble_eq_true rfl) rfl dX11_factor_178 ?_
        refine zq_goto (tgt := 117) dX11_factor_181 rfl ?_
        exact zq_sub (ls' := [(0, .ref 53), (2, .int i2), (3, .long l3), (5, .long (l5 ||| ((1 : Int64) <<< (i7.toInt64 &&& 63)))), (7, .int (i7 + (nI 1)))]) [2, 3, 4, 1, 0] rfl H
    · have H := H.2 c2
      refine zq_aload_n (k := 0) (i := 0) (x := 53) 0 rfl rfl dX11_factor_132 ?_
      refine zq_getP fl_RX11_24 rfl (sh_53 hw) (rf_53_4 hw) dX11_factor_133 ?_
      refine zq_iload (i := 7) (x := i7) 4 rfl dX11_factor_136 ?_
      obtain ⟨b5, H⟩ := H
      refine zq_lald (sh_58 hw) b5 dX11_factor_138 ?_
      refine zq_lload_n (k := 3) (i := 3) (x := l3) 2 rfl rfl dX11_factor_139 ?_
      refine zq_land dX11_factor_140 ?_
      refine zq_lconst (v := 0) rfl dX11_factor_141 ?_
      refine zq_lcmp dX11_factor_142 ?_
      refine zq_if_eq (tgt := 174) dX11_factor_143 rfl ⟨fun c6 => ?_, fun c6 => ?_⟩
      · have H := H.1 c6
        refine zq_lconst (v := 0) rfl dX11_factor_174 ?_
        refine zq_lor dX11_factor_175 ?_
        refine zq_lstore (ls' := [(5, .long (l5 ||| (0 : Int64))), (0, .ref 53), (2, .int i2), (3, .long l3), (7, .int i7)]) (i := 5) (Nat.le_of_ble_eq_true rfl) rfl dX11_factor_176 ?_
        refine zq_iinc (i := 7) (x := i7) (v := (nI 1)) (ls' := [(7, .int (i7 + (nI 1))), (5, .long (l5 ||| (0 : Int64))), (0, .ref 53), (2, .int i2), (3, .long l3)]) 4 rfl rfl (Nat.le_of_ble_eq_true rfl) rfl dX11_factor_178 ?_
        refine zq_goto (tgt := 117) dX11_factor_181 rfl ?_
        exact zq_sub (ls' := [(0, .ref 53), (2, .int i2), (3, .long l3), (5, .long (l5 ||| (0 : Int64))), (7, .int (i7 + (nI 1)))]) [2, 3, 4, 1, 0] rfl H
      · have H := H.2 c6
        refine zq_goto (tgt := 167) dX11_factor_146 rfl ?_
        refine zq_lconst (v := 1) rfl dX11_factor_167 ?_
        refine zq_iload (i := 7) (x := i7) 4 rfl dX11_factor_168 ?_
        refine zq_lshl dX11_factor_170 ?_
        refine zq_goto (tgt := 175) dX11_factor_171 rfl ?_
        refine zq_lor dX11_factor_175 ?_
        refine zq_lstore (ls' := [(5, .long (l5 ||| ((1 : Int64) <<< (i7.toInt64 &&& 63)))), (0, .ref 53), (2, .int i2), (3, .long l3), (7, .int i7)]) (i := 5) (Nat.le_of_ble_eq_true rfl) rfl dX11_factor_176 ?_
        refine zq_iinc (i := 7) (x := i7) (v := (nI 1)) (ls' := [(7, .int (i7 + (nI 1))), (5, .long (l5 ||| ((1 : Int64) <<< (i7.toInt64 &&& 63)))), (0, .ref 53), (2, .int i2), (3, .long l3)]) 4 rfl rfl (Nat.le_of_ble_eq_true rfl) rfl dX11_factor_178 ?_
        refine zq_goto (tgt := 117) dX11_factor_181 rfl ?_
        exact zq_sub (ls' := [(0, .ref 53), (2, .int i2), (3, .long l3), (5, .long (l5 ||| ((1 : Int64) <<< (i7.toInt64 &&& 63)))), (7, .int (i7 + (nI 1)))]) [2, 3, 4, 1, 0] rfl H
set_option maxHeartbeats 2000000 in
set_option maxRecDepth 20000 in
theorem r_X11_both_0 {d : Nat} {h : AH} {Q : Option Value → AH → Prop} (i1 : Int32) (hw : zWF h)  (H : zK d m_X11_factor [.ref 53, .int i1] h (kL fun x2 h1 => zQ none m_X11_both (d + 1) 6 [(0, .ref 53), (1, .int i1), (2, .long x2)] [] h1 Q)) : zK (d + 1) m_X11_both [.ref 53, .int i1] h Q := by
  refine zK_of mo_X11_both (Nat.le_of_ble_eq_true rfl) ?_
  show zQ none m_X11_both (d + 1) 0 [(0, .ref 53), (1, .int i1)] [] h Q
  refine zq_aload_n (k := 0) (i := 0) (x := 53) 0 rfl rfl dX11_both_0 ?_
  refine zq_iload_n (k := 1) (i := 1) (x := i1) 1 rfl rfl dX11_both_1 ?_
  refine zq_invV (as := [.int i1]) (st := []) (o := 53) (c := 10) (by decide) rfl (sh_53 hw) in_X11_factor se_X11_factor mo_X11_factor ml_RX11_269 rfl (Nat.le_of_ble_eq_true rfl) dX11_both_2 rfl H (fun r1 h1 hq => ?_)
  obtain ⟨x2, rfl, wh1, H⟩ := hq
  show zQ none m_X11_both (d + 1) 5 [(0, .ref 53), (1, .int i1)] (.long x2 :: []) h1 Q
  refine zq_lstore_n (ls' := [(2, .long x2), (0, .ref 53), (1, .int i1)]) (k := 2) (i := 2) rfl (Nat.le_of_ble_eq_true rfl) rfl dX11_both_5 ?_
  exact zq_sub (ls' := [(0, .ref 53), (1, .int i1), (2, .long x2)]) [1, 2, 0] rfl H
set_option maxHeartbeats 2000000 in
set_option maxRecDepth 20000 in
theorem r_X11_both_6 {d : Nat} {h : AH} {Q : Option Value → AH → Prop} (i1 : Int32) (l2 : Int64) (hw : zWF h)  (H : (0 ≤ (h.I 53 21) → Q (some (.long l2)) h) ∧ (¬ 0 ≤ (h.I 53 21) → zK d m_X11_here [.ref 53] h (pI h fun x2 => (x2 ≠ (nI 38) → Q (some (.long l2)) h) ∧ (x2 = (nI 38) → ∀ h4, h4 = h.sI 53 20 ((h.I 53 20) + (nI 1)) → zK d m_X11_factor [.ref 53, .int i1] h4 (kL fun x6 h5 => zQ none m_X11_both (d + 1) 6 [(0, .ref 53), (1, .int i1), (2, .long (l2 &&& x6))] [] h5 Q))))) : zQ none m_X11_both (d + 1) 6 [(0, .ref 53), (1, .int i1), (2, .long l2)] [] h Q := by
  refine zq_aload_n (k := 0) (i := 0) (x := 53) 0 rfl rfl dX11_both_6 ?_
  refine zq_getI fl_RX11_229 rfl (sh_53 hw) dX11_both_7 ?_
  refine zq_if_ge (tgt := 43) dX11_both_10 rfl ⟨fun c1 => ?_, fun c1 => ?_⟩
  · have H := H.1 c1
    refine zq_lload_n (k := 2) (i := 2) (x := l2) 2 rfl rfl dX11_both_43 ?_
    exact zq_lret dX11_both_44 rfl H
  · have H := H.2 c1
    refine zq_aload_n (k := 0) (i := 0) (x := 53) 0 rfl rfl dX11_both_13 ?_
    refine zq_invV (as := []) (st := []) (o := 53) (c := 10) (by decide) rfl (sh_53 hw) in_X11_here se_X11_here mo_X11_here ml_RX11_232 rfl (Nat.le_of_ble_eq_true rfl) dX11_both_14 rfl H (fun r1 h1 hq => ?_)
    obtain ⟨x2, rfl, rfl, H⟩ := hq
    show zQ none m_X11_both (d + 1) 17 [(0, .ref 53), (1, .int i1), (2, .long l2)] (.int x2 :: []) h Q
    refine zq_bipush (v := (nI 38)) rfl dX11_both_17 ?_
    refine zq_icmp_ne (tgt := 43) dX11_both_19 rfl ⟨fun c3 => ?_, fun c3 => ?_⟩
    · have H := H.1 c3
      refine zq_lload_n (k := 2) (i := 2) (x := l2) 2 rfl rfl dX11_both_43 ?_
      exact zq_lret dX11_both_44 rfl H
    · have H := H.2 c3
      refine zq_aload_n (k := 0) (i := 0) (x := 53) 0 rfl rfl dX11_both_22 ?_
      refine zq_dup rfl dX11_both_23 ?_
      refine zq_getI fl_RX11_226 rfl (sh_53 hw) dX11_both_24 ?_
      refine zq_iconst (v := (nI 1)) rfl dX11_both_27 ?_
      refine zq_iadd dX11_both_28 ?_
      refine zq_putI fl_RX11_226 rfl (Or.inl rfl) (sh_53 hw) rfl rfl dX11_both_29 (fun h4 eh4 => ?_)
      have H := H h4 eh4
      have wh4 := wf_I eh4 hw
      refine zq_lload_n (k := 2) (i := 2) (x := l2) 2 rfl rfl dX11_both_32 ?_
      refine zq_aload_n (k := 0) (i := 0) (x := 53) 0 rfl rfl dX11_both_33 ?_
      refine zq_iload_n (k := 1) (i := 1) (x := i1) 1 rfl rfl dX11_both_34 ?_
      refine zq_invV (as := [.int i1]) (st := .long l2 :: []) (o := 53) (c := 10) (by decide) rfl (sh_53 wh4) in_X11_factor se_X11_factor mo_X11_factor ml_RX11_269 rfl (Nat.le_of_ble_eq_true rfl) dX11_both_35 rfl H (fun r1 h5 hq => ?_)
      obtain ⟨x6, rfl, wh5, H⟩ := hq
      show zQ none m_X11_both (d + 1) 38 [(0, .ref 53), (1, .int i1), (2, .long l2)] (.long x6 :: .long l2 :: []) h5 Q
      refine zq_land dX11_both_38 ?_
      refine zq_lstore_n (ls' := [(2, .long (l2 &&& x6)), (0, .ref 53), (1, .int i1)]) (k := 2) (i := 2) rfl (Nat.le_of_ble_eq_true rfl) rfl dX11_both_39 ?_
      refine zq_goto (tgt := 6) dX11_both_40 rfl ?_
      exact zq_sub (ls' := [(0, .ref 53), (1, .int i1), (2, .long (l2 &&& x6))]) [1, 2, 0] rfl H
set_option maxHeartbeats 2000000 in
set_option maxRecDepth 20000 in
theorem r_X11_either_0 {d : Nat} {h : AH} {Q : Option Value → AH → Prop} (i1 : Int32) (hw : zWF h)  (H : zK d m_X11_both [.ref 53, .int i1] h (kL fun x2 h1 => zQ none m_X11_either (d + 1) 6 [(0, .ref 53), (1, .int i1), (2, .long x2)] [] h1 Q)) : zK (d + 1) m_X11_either [.ref 53, .int i1] h Q := by
  refine zK_of mo_X11_either (Nat.le_of_ble_eq_true rfl) ?_
  show zQ none m_X11_either (d + 1) 0 [(0, .ref 53), (1, .int i1)] [] h Q
  refine zq_aload_n (k := 0) (i := 0) (x := 53) 0 rfl rfl dX11_either_0 ?_
  refine zq_iload_n (k := 1) (i := 1) (x := i1) 1 rfl rfl dX11_either_1 ?_
  refine zq_invV (as := [.int i1]) (st := []) (o := 53) (c := 10) (by decide) rfl (sh_53 hw) in_X11_both se_X11_both mo_X11_both ml_RX11_272 rfl (Nat.le_of_ble_eq_true rfl) dX11_either_2 rfl H (fun r1 h1 hq => ?_)
  obtain ⟨x2, rfl, wh1, H⟩ := hq
  show zQ none m_X11_either (d + 1) 5 [(0, .ref 53), (1, .int i1)] (.long x2 :: []) h1 Q
  refine zq_lstore_n (ls' := [(2, .long x2), (0, .ref 53), (1, .int i1)]) (k := 2) (i := 2) rfl (Nat.le_of_ble_eq_true rfl) rfl dX11_either_5 ?_
  exact zq_sub (ls' := [(0, .ref 53), (1, .int i1), (2, .long x2)]) [1, 2, 0] rfl H
set_option maxHeartbeats 2000000 in
set_option maxRecDepth 20000 in
theorem r_X11_either_6 {d : Nat} {h : AH} {Q : Option Value → AH → Prop} (i1 : Int32) (l2 : Int64) (hw : zWF h)  (H : (0 ≤ (h.I 53 21) → Q (some (.long l2)) h) ∧ (¬ 0 ≤ (h.I 53 21) → zK d m_X11_here [.ref 53] h (pI h fun x2 => (x2 ≠ (nI 124) → Q (some (.long l2)) h) ∧ (x2 = (nI 124) → ∀ h4, h4 = h.sI 53 20 ((h.I 53 20) + (nI 1)) → zK d m_X11_both [.ref 53, .int i1] h4 (kL fun x6 h5 => zQ none m_X11_either (d + 1) 6 [(0, .ref 53), (1, .int i1), (2, .long (l2 ||| x6))] [] h5 Q))))) : zQ none m_X11_either (d + 1) 6 [(0, .ref 53), (1, .int i1), (2, .long l2)] [] h Q := by
  refine zq_aload_n (k := 0) (i := 0) (x := 53) 0 rfl rfl dX11_either_6 ?_
  refine zq_getI fl_RX11_229 rfl (sh_53 hw) dX11_either_7 ?_
  refine zq_if_ge (tgt := 43) dX11_either_10 rfl ⟨fun c1 => ?_, fun c1 => ?_⟩
  · have H := H.1 c1
    refine zq_lload_n (k := 2) (i := 2) (x := l2) 2 rfl rfl dX11_either_43 ?_
    exact zq_lret dX11_either_44 rfl H
  · have H := H.2 c1
    refine zq_aload_n (k := 0) (i := 0) (x := 53) 0 rfl rfl dX11_either_13 ?_
    refine zq_invV (as := []) (st := []) (o := 53) (c := 10) (by decide) rfl (sh_53 hw) in_X11_here se_X11_here mo_X11_here ml_RX11_232 rfl (Nat.le_of_ble_eq_true rfl) dX11_either_14 rfl H (fun r1 h1 hq => ?_)
    obtain ⟨x2, rfl, rfl, H⟩ := hq
    show zQ none m_X11_either (d + 1) 17 [(0, .ref 53), (1, .int i1), (2, .long l2)] (.int x2 :: []) h Q
    refine zq_bipush (v := (nI 124)) rfl dX11_either_17 ?_
    refine zq_icmp_ne (tgt := 43) dX11_either_19 rfl ⟨fun c3 => ?_, fun c3 => ?_⟩
    · have H := H.1 c3
      refine zq_lload_n (k := 2) (i := 2) (x := l2) 2 rfl rfl dX11_either_43 ?_
      exact zq_lret dX11_either_44 rfl H
    · have H := H.2 c3
      refine zq_aload_n (k := 0) (i := 0) (x := 53) 0 rfl rfl dX11_either_22 ?_
      refine zq_dup rfl dX11_either_23 ?_
      refine zq_getI fl_RX11_226 rfl (sh_53 hw) dX11_either_24 ?_
      refine zq_iconst (v := (nI 1)) rfl dX11_either_27 ?_
      refine zq_iadd dX11_either_28 ?_
      refine zq_putI fl_RX11_226 rfl (Or.inl rfl) (sh_53 hw) rfl rfl dX11_either_29 (fun h4 eh4 => ?_)
      have H := H h4 eh4
      have wh4 := wf_I eh4 hw
      refine zq_lload_n (k := 2) (i := 2) (x := l2) 2 rfl rfl dX11_either_32 ?_
      refine zq_aload_n (k := 0) (i := 0) (x := 53) 0 rfl rfl dX11_either_33 ?_
      refine zq_iload_n (k := 1) (i := 1) (x := i1) 1 rfl rfl dX11_either_34 ?_
      refine zq_invV (as := [.int i1]) (st := .long l2 :: []) (o := 53) (c := 10) (by decide) rfl (sh_53 wh4) in_X11_both se_X11_both mo_X11_both ml_RX11_272 rfl (Nat.le_of_ble_eq_true rfl) dX11_either_35 rfl H (fun r1 h5 hq => ?_)
      obtain ⟨x6, rfl, wh5, H⟩ := hq
      show zQ none m_X11_either (d + 1) 38 [(0, .ref 53), (1, .int i1), (2, .long l2)] (.long x6 :: .long l2 :: []) h5 Q
      refine zq_lor dX11_either_38 ?_
      refine zq_lstore_n (ls' := [(2, .long (l2 ||| x6)), (0, .ref 53), (1, .int i1)]) (k := 2) (i := 2) rfl (Nat.le_of_ble_eq_true rfl) rfl dX11_either_39 ?_
      refine zq_goto (tgt := 6) dX11_either_40 rfl ?_
      exact zq_sub (ls' := [(0, .ref 53), (1, .int i1), (2, .long (l2 ||| x6))]) [1, 2, 0] rfl H
set_option maxHeartbeats 2000000 in
set_option maxRecDepth 20000 in
theorem r_X11_pick_0 {d : Nat} {h : AH} {Q : Option Value → AH → Prop}  (hw : zWF h)  (H : zK d m_X11_begins [.ref 53] h (kV fun h1 => zK d m_X11_either [.ref 53, .int (nI 0)] h1 (kL fun x3 h2 => (0 ≤ (h2.I 53 21) → ∀ h5, h5 = h2.sI 53 19 (nI 0) → ((h5.I 53 21) < 0 → ∀ h7, h7 = h5.sL 53 7 x3 → zK d m_X11_bits [.long x3] h7 (pI h7 fun x8 => Q (some (.int x8)) h7)) ∧ (¬ (h5.I 53 21) < 0 → Q (some (.int ((-100) - (h5.I 53 21)))) h5)) ∧ (¬ 0 ≤ (h2.I 53 21) → ((h2.I 53 19) ≤ (h2.I 53 20) → ∀ h10, h10 = h2.sI 53 19 (nI 0) → ((h10.I 53 21) < 0 → ∀ h12, h12 = h10.sL 53 7 x3 → zK d m_X11_bits [.long x3] h12 (pI h12 fun x13 => Q (some (.int x13)) h12)) ∧ (¬ (h10.I 53 21) < 0 → Q (some (.int ((-100) - (h10.I 53 21)))) h10)) ∧ (¬ (h2.I 53 19) ≤ (h2.I 53 20) → zK d m_X11_fails [.ref 53, .int (h2.I 53 20)] h2 (kI fun x15 h14 => ∀ h16, h16 = h14.sI 53 19 (nI 0) → ((h16.I 53 21) < 0 → ∀ h18, h18 = h16.sL 53 7 x3 → zK d m_X11_bits [.long x3] h18 (pI h18 fun x19 => Q (some (.int x19)) h18)) ∧ (¬ (h16.I 53 21) < 0 → Q (some (.int ((-100) - (h16.I 53 21)))) h16))))))) : zK (d + 1) m_X11_pick [.ref 53] h Q := by
  refine zK_of mo_X11_pick (Nat.le_of_ble_eq_true rfl) ?_
  show zQ none m_X11_pick (d + 1) 0 [(0, .ref 53)] [] h Q
  refine zq_aload_n (k := 0) (i := 0) (x := 53) 0 rfl rfl dX11_pick_0 ?_
  refine zq_invV (as := []) (st := []) (o := 53) (c := 10) (by decide) rfl (sh_53 hw) in_X11_begins se_X11_begins mo_X11_begins ml_RX11_250 rfl (Nat.le_of_ble_eq_true rfl) dX11_pick_1 rfl H (fun r1 h1 hq => ?_)
  obtain ⟨rfl, wh1, H⟩ := hq
  show zQ none m_X11_pick (d + 1) 4 [(0, .ref 53)] ([]) h1 Q
  refine zq_aload_n (k := 0) (i := 0) (x := 53) 0 rfl rfl dX11_pick_4 ?_
  refine zq_iconst (v := (nI 0)) rfl dX11_pick_5 ?_
  refine zq_invV (as := [.int (nI 0)]) (st := []) (o := 53) (c := 10) (by decide) rfl (sh_53 wh1) in_X11_either se_X11_either mo_X11_either ml_RX11_266 rfl (Nat.le_of_ble_eq_true rfl) dX11_pick_6 rfl H (fun r1 h2 hq => ?_)
  obtain ⟨x3, rfl, wh2, H⟩ := hq
  show zQ none m_X11_pick (d + 1) 9 [(0, .ref 53)] (.long x3 :: []) h2 Q
  refine zq_lstore_n (ls' := [(1, .long x3), (0, .ref 53)]) (k := 1) (i := 1) rfl (Nat.le_of_ble_eq_true rfl) rfl dX11_pick_9 ?_
  refine zq_aload_n (k := 0) (i := 0) (x := 53) 1 rfl rfl dX11_pick_10 ?_
  refine zq_getI fl_RX11_229 rfl (sh_53 wh2) dX11_pick_11 ?_
  refine zq_if_ge (tgt := 37) dX11_pick_14 rfl ⟨fun c4 => ?_, fun c4 => ?_⟩
  · have H := H.1 c4
    refine zq_aload_n (k := 0) (i := 0) (x := 53) 1 rfl rfl dX11_pick_37 ?_
    refine zq_iconst (v := (nI 0)) rfl dX11_pick_38 ?_
    refine zq_putI fl_RX11_223 rfl (Or.inl rfl) (sh_53 wh2) rfl rfl dX11_pick_39 (fun h5 eh5 => ?_)
    have H := H h5 eh5
    have wh5 := wf_I eh5 wh2
    refine zq_aload_n (k := 0) (i := 0) (x := 53) 1 rfl rfl dX11_pick_42 ?_
    refine zq_getI fl_RX11_229 rfl (sh_53 wh5) dX11_pick_43 ?_
    refine zq_if_lt (tgt := 57) dX11_pick_46 rfl ⟨fun c6 => ?_, fun c6 => ?_⟩
    · have H := H.1 c6
      refine zq_aload_n (k := 0) (i := 0) (x := 53) 1 rfl rfl dX11_pick_57 ?_
      refine zq_lload_n (k := 1) (i := 1) (x := x3) 0 rfl rfl dX11_pick_58 ?_
      refine zq_putL fl_RX11_275 rfl (Or.inl rfl) (sh_53 wh5) dX11_pick_59 (fun h7 eh7 => ?_)
      have H := H h7 eh7
      have wh7 := wf_L eh7 wh5
      refine zq_lload_n (k := 1) (i := 1) (x := x3) 0 rfl rfl dX11_pick_62 ?_
      refine zq_invS (as := [.long x3]) (st := []) st_X11_bits mo_X11_bits ml_RX11_76 rfl (Nat.le_of_ble_eq_true rfl) dX11_pick_63 rfl H (fun r1 h1 hq => ?_)
      obtain ⟨x8, rfl, rfl, H⟩ := hq
      show zQ none m_X11_pick (d + 1) 66 [(1, .long x3), (0, .ref 53)] (.int x8 :: []) h7 Q
      exact zq_iret dX11_pick_66 rfl rfl rfl H
    · have H := H.2 c6
      refine zq_bipush (v := (-100)) rfl dX11_pick_49 ?_
      refine zq_aload_n (k := 0) (i := 0) (x := 53) 1 rfl rfl dX11_pick_51 ?_
      refine zq_getI fl_RX11_229 rfl (sh_53 wh5) dX11_pick_52 ?_
      refine zq_isub dX11_pick_55 ?_
      exact zq_iret dX11_pick_56 rfl rfl rfl H
  · have H := H.2 c4
    refine zq_aload_n (k := 0) (i := 0) (x := 53) 1 rfl rfl dX11_pick_17 ?_
    refine zq_getI fl_RX11_226 rfl (sh_53 wh2) dX11_pick_18 ?_
    refine zq_aload_n (k := 0) (i := 0) (x := 53) 1 rfl rfl dX11_pick_21 ?_
    refine zq_getI fl_RX11_223 rfl (sh_53 wh2) dX11_pick_22 ?_
    refine zq_icmp_ge (tgt := 37) dX11_pick_25 rfl ⟨fun c9 => ?_, fun c9 => ?_⟩
    · have H := H.1 c9
      refine zq_aload_n (k := 0) (i := 0) (x := 53) 1 rfl rfl dX11_pick_37 ?_
      refine zq_iconst (v := (nI 0)) rfl dX11_pick_38 ?_
      refine zq_putI fl_RX11_223 rfl (Or.inl rfl) (sh_53 wh2) rfl rfl dX11_pick_39 (fun h10 eh10 => ?_)
      have H := H h10 eh10
      have wh10 := wf_I eh10 wh2
      refine zq_aload_n (k := 0) (i := 0) (x := 53) 1 rfl rfl dX11_pick_42 ?_
      refine zq_getI fl_RX11_229 rfl (sh_53 wh10) dX11_pick_43 ?_
      refine zq_if_lt (tgt := 57) dX11_pick_46 rfl ⟨fun c11 => ?_, fun c11 => ?_⟩
      · have H := H.1 c11
        refine zq_aload_n (k := 0) (i := 0) (x := 53) 1 rfl rfl dX11_pick_57 ?_
        refine zq_lload_n (k := 1) (i := 1) (x := x3) 0 rfl rfl dX11_pick_58 ?_
        refine zq_putL fl_RX11_275 rfl (Or.inl rfl) (sh_53 wh10) dX11_pick_59 (fun h12 eh12 => ?_)
        have H := H h12 eh12
        have wh12 := wf_L eh12 wh10
        refine zq_lload_n (k := 1) (i := 1) (x := x3) 0 rfl rfl dX11_pick_62 ?_
        refine zq_invS (as := [.long x3]) (st := []) st_X11_bits mo_X11_bits ml_RX11_76 rfl (Nat.le_of_ble_eq_true rfl) dX11_pick_63 rfl H (fun r1 h1 hq => ?_)
        obtain ⟨x13, rfl, rfl, H⟩ := hq
        show zQ none m_X11_pick (d + 1) 66 [(1, .long x3), (0, .ref 53)] (.int x13 :: []) h12 Q
        exact zq_iret dX11_pick_66 rfl rfl rfl H
      · have H := H.2 c11
        refine zq_bipush (v := (-100)) rfl dX11_pick_49 ?_
        refine zq_aload_n (k := 0) (i := 0) (x := 53) 1 rfl rfl dX11_pick_51 ?_
        refine zq_getI fl_RX11_229 rfl (sh_53 wh10) dX11_pick_52 ?_
        refine zq_isub dX11_pick_55 ?_
        exact zq_iret dX11_pick_56 rfl rfl rfl H
    · have H := H.2 c9
      refine zq_aload_n (k := 0) (i := 0) (x := 53) 1 rfl rfl dX11_pick_28 ?_
      refine zq_aload_n (k := 0) (i := 0) (x := 53) 1 rfl rfl dX11_pick_29 ?_
      refine zq_getI fl_RX11_226 rfl (sh_53 wh2) dX11_pick_30 ?_
      refine zq_invV (as := [.int (h2.I 53 20)]) (st := []) (o := 53) (c := 10) (by decide) rfl (sh_53 wh2) in_X11_fails se_X11_fails mo_X11_fails ml_RX11_235 rfl (Nat.le_of_ble_eq_true rfl) dX11_pick_33 rfl H (fun r1 h14 hq => ?_)
      obtain ⟨x15, rfl, wh14, H⟩ := hq
      show zQ none m_X11_pick (d + 1) 36 [(1, .long x3), (0, .ref 53)] (.int x15 :: []) h14 Q
      refine zq_pop rfl dX11_pick_36 ?_
      refine zq_aload_n (k := 0) (i := 0) (x := 53) 1 rfl rfl dX11_pick_37 ?_
      refine zq_iconst (v := (nI 0)) rfl dX11_pick_38 ?_
      refine zq_putI fl_RX11_223 rfl (Or.inl rfl) (sh_53 wh14) rfl rfl dX11_pick_39 (fun h16 eh16 => ?_)
      have H := H h16 eh16
      have wh16 := wf_I eh16 wh14
      refine zq_aload_n (k := 0) (i := 0) (x := 53) 1 rfl rfl dX11_pick_42 ?_
      refine zq_getI fl_RX11_229 rfl (sh_53 wh16) dX11_pick_43 ?_
      refine zq_if_lt (tgt := 57) dX11_pick_46 rfl ⟨fun c17 => ?_, fun c17 => ?_⟩
      · have H := H.1 c17
        refine zq_aload_n (k := 0) (i := 0) (x := 53) 1 rfl rfl dX11_pick_57 ?_
        refine zq_lload_n (k := 1) (i := 1) (x := x3) 0 rfl rfl dX11_pick_58 ?_
        refine zq_putL fl_RX11_275 rfl (Or.inl rfl) (sh_53 wh16) dX11_pick_59 (fun h18 eh18 => ?_)
        have H := H h18 eh18
        have wh18 := wf_L eh18 wh16
        refine zq_lload_n (k := 1) (i := 1) (x := x3) 0 rfl rfl dX11_pick_62 ?_
        refine zq_invS (as := [.long x3]) (st := []) st_X11_bits mo_X11_bits ml_RX11_76 rfl (Nat.le_of_ble_eq_true rfl) dX11_pick_63 rfl H (fun r1 h1 hq => ?_)
        obtain ⟨x19, rfl, rfl, H⟩ := hq
        show zQ none m_X11_pick (d + 1) 66 [(1, .long x3), (0, .ref 53)] (.int x19 :: []) h18 Q
        exact zq_iret dX11_pick_66 rfl rfl rfl H
      · have H := H.2 c17
        refine zq_bipush (v := (-100)) rfl dX11_pick_49 ?_
        refine zq_aload_n (k := 0) (i := 0) (x := 53) 1 rfl rfl dX11_pick_51 ?_
        refine zq_getI fl_RX11_229 rfl (sh_53 wh16) dX11_pick_52 ?_
        refine zq_isub dX11_pick_55 ?_
        exact zq_iret dX11_pick_56 rfl rfl rfl H
set_option maxHeartbeats 2000000 in
set_option maxRecDepth 20000 in
theorem r_X11_picked_0 {d : Nat} {h : AH} {Q : Option Value → AH → Prop}  (hw : zWF h)  (H : Q (some (.long (h.L 53 7))) h) : zK (d + 1) m_X11_picked [.ref 53] h Q := by
  refine zK_of mo_X11_picked (Nat.le_of_ble_eq_true rfl) ?_
  show zQ none m_X11_picked (d + 1) 0 [(0, .ref 53)] [] h Q
  refine zq_aload_n (k := 0) (i := 0) (x := 53) 0 rfl rfl dX11_picked_0 ?_
  refine zq_getL fl_RX11_275 rfl (sh_53 hw) dX11_picked_1 ?_
  exact zq_lret dX11_picked_4 rfl H
set_option maxHeartbeats 2000000 in
set_option maxRecDepth 20000 in
theorem r_X11_says_0 {d : Nat} {h : AH} {Q : Option Value → AH → Prop} (i1 : Int32) (hw : zWF h)  (H : vp_in (h.I 53 25) 32000 ∧ (∀ h2, h2 = h.sI 68 (h.I 53 25).toNatClampNeg i1 → ∀ h3, h3 = h2.sI 53 25 ((h2.I 53 25) + (nI 1)) → Q none h3)) : zK (d + 1) m_X11_says [.ref 53, .int i1] h Q := by
  refine zK_of mo_X11_says (Nat.le_of_ble_eq_true rfl) ?_
  show zQ none m_X11_says (d + 1) 0 [(0, .ref 53), (1, .int i1)] [] h Q
  refine zq_aload_n (k := 0) (i := 0) (x := 53) 0 rfl rfl dX11_says_0 ?_
  refine zq_getP fl_RX11_55 rfl (sh_53 hw) (rf_53_24 hw) dX11_says_1 ?_
  refine zq_aload_n (k := 0) (i := 0) (x := 53) 0 rfl rfl dX11_says_4 ?_
  refine zq_getI fl_RX11_203 rfl (sh_53 hw) dX11_says_5 ?_
  refine zq_iload_n (k := 1) (i := 1) (x := i1) 1 rfl rfl dX11_says_8 ?_
  obtain ⟨b1, H⟩ := H
  refine zq_iast (sh_68 hw) b1 dX11_says_9 (fun h2 eh2 => ?_)
  have H := H h2 eh2
  have wh2 := wf_I eh2 hw
  refine zq_aload_n (k := 0) (i := 0) (x := 53) 0 rfl rfl dX11_says_10 ?_
  refine zq_dup rfl dX11_says_11 ?_
  refine zq_getI fl_RX11_203 rfl (sh_53 wh2) dX11_says_12 ?_
  refine zq_iconst (v := (nI 1)) rfl dX11_says_15 ?_
  refine zq_iadd dX11_says_16 ?_
  refine zq_putI fl_RX11_203 rfl (Or.inl rfl) (sh_53 wh2) rfl rfl dX11_says_17 (fun h3 eh3 => ?_)
  have H := H h3 eh3
  have wh3 := wf_I eh3 wh2
  exact zq_vret dX11_says_20 rfl H
set_option maxHeartbeats 2000000 in
set_option maxRecDepth 20000 in
theorem r_X11_saysNumber_0 {d : Nat} {h : AH} {Q : Option Value → AH → Prop} (i1 : Int32) (hw : zWF h)  (H : (i1 ≤ (nI 9) → zK d m_X11_says [.ref 53, .int ((nI 48) + (i1 - i1 / (nI 10) * (nI 10)))] h (kV fun h2 => Q none h2)) ∧ (¬ i1 ≤ (nI 9) → zK d m_X11_saysNumber [.ref 53, .int (i1 / (nI 10))] h (kV fun h3 => zK d m_X11_says [.ref 53, .int ((nI 48) + (i1 - i1 / (nI 10) * (nI 10)))] h3 (kV fun h4 => Q none h4)))) : zK (d + 1) m_X11_saysNumber [.ref 53, .int i1] h Q := by
  refine zK_of mo_X11_saysNumber (Nat.le_of_ble_eq_true rfl) ?_
  show zQ none m_X11_saysNumber (d + 1) 0 [(0, .ref 53), (1, .int i1)] [] h Q
  refine zq_iload_n (k := 1) (i := 1) (x := i1) 1 rfl rfl dX11_saysNumber_0 ?_
  refine zq_bipush (v := (nI 9)) rfl dX11_saysNumber_1 ?_
  refine zq_icmp_le (tgt := 14) dX11_saysNumber_3 rfl ⟨fun c1 => ?_, fun c1 => ?_⟩
  · have H := H.1 c1
    refine zq_aload_n (k := 0) (i := 0) (x := 53) 0 rfl rfl dX11_saysNumber_14 ?_
    refine zq_bipush (v := (nI 48)) rfl dX11_saysNumber_15 ?_
    refine zq_iload_n (k := 1) (i := 1) (x := i1) 1 rfl rfl dX11_saysNumber_17 ?_
    refine zq_bipush (v := (nI 10)) rfl dX11_saysNumber_18 ?_
    refine zq_irem (by decide) dX11_saysNumber_20 ?_
    refine zq_iadd dX11_saysNumber_21 ?_
    refine zq_invV (as := [.int ((nI 48) + (i1 - i1 / (nI 10) * (nI 10)))]) (st := []) (o := 53) (c := 10) (by decide) rfl (sh_53 hw) in_X11_says se_X11_says mo_X11_says ml_RX11_281 rfl (Nat.le_of_ble_eq_true rfl) dX11_saysNumber_22 rfl H (fun r1 h2 hq => ?_)
    obtain ⟨rfl, wh2, H⟩ := hq
    show zQ none m_X11_saysNumber (d + 1) 25 [(0, .ref 53), (1, .int i1)] ([]) h2 Q
    exact zq_vret dX11_saysNumber_25 rfl H
  · have H := H.2 c1
    refine zq_aload_n (k := 0) (i := 0) (x := 53) 0 rfl rfl dX11_saysNumber_6 ?_
    refine zq_iload_n (k := 1) (i := 1) (x := i1) 1 rfl rfl dX11_saysNumber_7 ?_
    refine zq_bipush (v := (nI 10)) rfl dX11_saysNumber_8 ?_
    refine zq_idiv (by decide) dX11_saysNumber_10 ?_
    refine zq_invV (as := [.int (i1 / (nI 10))]) (st := []) (o := 53) (c := 10) (by decide) rfl (sh_53 hw) in_X11_saysNumber se_X11_saysNumber mo_X11_saysNumber ml_RX11_278 rfl (Nat.le_of_ble_eq_true rfl) dX11_saysNumber_11 rfl H (fun r1 h3 hq => ?_)
    obtain ⟨rfl, wh3, H⟩ := hq
    show zQ none m_X11_saysNumber (d + 1) 14 [(0, .ref 53), (1, .int i1)] ([]) h3 Q
    refine zq_aload_n (k := 0) (i := 0) (x := 53) 0 rfl rfl dX11_saysNumber_14 ?_
    refine zq_bipush (v := (nI 48)) rfl dX11_saysNumber_15 ?_
    refine zq_iload_n (k := 1) (i := 1) (x := i1) 1 rfl rfl dX11_saysNumber_17 ?_
    refine zq_bipush (v := (nI 10)) rfl dX11_saysNumber_18 ?_
    refine zq_irem (by decide) dX11_saysNumber_20 ?_
    refine zq_iadd dX11_saysNumber_21 ?_
    refine zq_invV (as := [.int ((nI 48) + (i1 - i1 / (nI 10) * (nI 10)))]) (st := []) (o := 53) (c := 10) (by decide) rfl (sh_53 wh3) in_X11_says se_X11_says mo_X11_says ml_RX11_281 rfl (Nat.le_of_ble_eq_true rfl) dX11_saysNumber_22 rfl H (fun r1 h4 hq => ?_)
    obtain ⟨rfl, wh4, H⟩ := hq
    show zQ none m_X11_saysNumber (d + 1) 25 [(0, .ref 53), (1, .int i1)] ([]) h4 Q
    exact zq_vret dX11_saysNumber_25 rfl H
set_option maxHeartbeats 2000000 in
set_option maxRecDepth 20000 in
theorem r_X11_spell_0 {d : Nat} {h : AH} {Q : Option Value → AH → Prop}  (hw : zWF h)  (H : ∀ h1, h1 = h.sI 53 25 (nI 0) → zQ none m_X11_spell (d + 1) 7 [(0, .ref 53), (1, .int (nI 0))] [] h1 Q) : zK (d + 1) m_X11_spell [.ref 53] h Q := by
  refine zK_of mo_X11_spell (Nat.le_of_ble_eq_true rfl) ?_
  show zQ none m_X11_spell (d + 1) 0 [(0, .ref 53)] [] h Q
  refine zq_aload_n (k := 0) (i := 0) (x := 53) 0 rfl rfl dX11_spell_0 ?_
  refine zq_iconst (v := (nI 0)) rfl dX11_spell_1 ?_
  refine zq_putI fl_RX11_203 rfl (Or.inl rfl) (sh_53 hw) rfl rfl dX11_spell_2 (fun h1 eh1 => ?_)
  have H := H h1 eh1
  have wh1 := wf_I eh1 hw
  refine zq_iconst (v := (nI 0)) rfl dX11_spell_5 ?_
  refine zq_istore_n (ls' := [(1, .int (nI 0)), (0, .ref 53)]) (k := 1) (i := 1) rfl (Nat.le_of_ble_eq_true rfl) rfl dX11_spell_6 ?_
  exact zq_sub (ls' := [(0, .ref 53), (1, .int (nI 0))]) [1, 0] rfl H
set_option maxHeartbeats 2000000 in
set_option maxRecDepth 20000 in
theorem r_X11_spell_7 {d : Nat} {h : AH} {Q : Option Value → AH → Prop} (i1 : Int32) (hw : zWF h)  (H : ((nI 1600) ≤ i1 → Q (some (.int (h.I 53 25))) h) ∧ (¬ (nI 1600) ≤ i1 → ((i1 - i1 / (nI 40) * (nI 40)) ≤ (i1 / (nI 40)) → zQ none m_X11_spell (d + 1) 7 [(0, .ref 53), (1, .int (i1 + (nI 1)))] [] h Q) ∧ (¬ (i1 - i1 / (nI 40) * (nI 40)) ≤ (i1 / (nI 40)) → zK d m_X11_isEdge [.ref 53, .int (i1 / (nI 40)), .int (i1 - i1 / (nI 40) * (nI 40))] h (pI h fun x3 => (x3 ≠ 0 → ((h.I 53 25) ≤ 0 → zK d m_X11_says [.ref 53, .int (nI 43)] h (kV fun h6 => zK d m_X11_saysNumber [.ref 53, .int (i1 / (nI 40))] h6 (kV fun h7 => zK d m_X11_says [.ref 53, .int (nI 44)] h7 (kV fun h8 => zK d m_X11_saysNumber [.ref 53, .int (i1 - i1 / (nI 40) * (nI 40))] h8 (kV fun h9 => vp_in i1 1600 ∧ (((h9.I 55 i1.toNatClampNeg) ≠ (nI 1) → zK d m_X11_says [.ref 53, .int (nI 61)] h9 (kV fun h12 => vp_in i1 1600 ∧ ((0 ≤ (h12.I 55 i1.toNatClampNeg) → vp_in i1 1600 ∧ ((0 ≤ (h12.I 55 i1.toNatClampNeg) → vp_in i1 1600 ∧ (zK d m_X11_saysNumber [.ref 53, .int (h12.I 55 i1.toNatClampNeg)] h12 (kV fun h18 => zQ none m_X11_spell (d + 1) 7 [(0, .ref 53), (1, .int (i1 + (nI 1)))] [] h18 Q))) ∧ (¬ 0 ≤ (h12.I 55 i1.toNatClampNeg) → vp_in i1 1600 ∧ (zK d m_X11_saysNumber [.ref 53, .int (-(h12.I 55 i1.toNatClampNeg))] h12 (kV fun h20 => zQ none m_X11_spell (d + 1) 7 [(0, .ref 53), (1, .int (i1 + (nI 1)))] [] h20 Q))))) ∧ (¬ 0 ≤ (h12.I 55 i1.toNatClampNeg) → zK d m_X11_says [.ref 53, .int (nI 45)] h12 (kV fun h21 => vp_in i1 1600 ∧ ((0 ≤ (h21.I 55 i1.toNatClampNeg) → vp_in i1 1600 ∧ (zK d m_X11_saysNumber [.ref 53, .int (h21.I 55 i1.toNatClampNeg)] h21 (kV fun h25 => zQ none m_X11_spell (d + 1) 7 [(0, .ref 53), (1, .int (i1 + (nI 1)))] [] h25 Q))) ∧ (¬ 0 ≤ (h21.I 55 i1.toNatClampNeg) → vp_in i1 1600 ∧ (zK d m_X11_saysNumber [.ref 53, .int (-(h21.I 55 i1.toNatClampNeg))] h21 (kV fun h27 => zQ none m_X11_spell (d + 1) 7 [(0, .ref 53), (1, .int (i1 + (nI 1)))] [] h27 Q))))))))) ∧ ((h9.I 55 i1.toNatClampNeg) = (nI 1) → zQ none m_X11_spell (d + 1) 7 [(0, .ref 53), (1, .int (i1 + (nI 1)))] [] h9 Q))))))) ∧ (¬ (h.I 53 25) ≤ 0 → zK d m_X11_says [.ref 53, .int (nI 59)] h (kV fun h28 => zK d m_X11_says [.ref 53, .int (nI 43)] h28 (kV fun h29 => zK d m_X11_saysNumber [.ref 53, .int (i1 / (nI 40))] h29 (kV fun h30 => zK d m_X11_says [.ref 53, .int (nI 44)] h30 (kV fun h31 => zK d m_X11_saysNumber [.ref 53, .int (i1 - i1 / (nI 40) * (nI 40))] h31 (kV fun h32 => vp_in i1 1600 ∧ (((h32.I 55 i1.toNatClampNeg) ≠ (nI 1) → zK d m_X11_says [.ref 53, .int (nI 61)] h32 (kV fun h35 => vp_in i1 1600 ∧ ((0 ≤ (h35.I 55 i1.toNatClampNeg) → vp_in i1 1600 ∧ ((0 ≤ (h35.I 55 i1.toNatClampNeg) → vp_in i1 1600 ∧ (zK d m_X11_saysNumber [.ref 53, .int (h35.I 55 i1.toNatClampNeg)] h35 (kV fun h41 => zQ none m_X11_spell (d + 1) 7 [(0, .ref 53), (1, .int (i1 + (nI 1)))] [] h41 Q))) ∧ (¬ 0 ≤ (h35.I 55 i1.toNatClampNeg) → vp_in i1 1600 ∧ (zK d m_X11_saysNumber [.ref 53, .int (-(h35.I 55 i1.toNatClampNeg))] h35 (kV fun h43 => zQ none m_X11_spell (d + 1) 7 [(0, .ref 53), (1, .int (i1 + (nI 1)))] [] h43 Q))))) ∧ (¬ 0 ≤ (h35.I 55 i1.toNatClampNeg) → zK d m_X11_says [.ref 53, .int (nI 45)] h35 (kV fun h44 => vp_in i1 1600 ∧ ((0 ≤ (h44.I 55 i1.toNatClampNeg) → vp_in i1 1600 ∧ (zK d m_X11_saysNumber [.ref 53, .int (h44.I 55 i1.toNatClampNeg)] h44 (kV fun h48 => zQ none m_X11_spell (d + 1) 7 [(0, .ref 53), (1, .int (i1 + (nI 1)))] [] h48 Q))) ∧ (¬ 0 ≤ (h44.I 55 i1.toNatClampNeg) → vp_in i1 1600 ∧ (zK d m_X11_saysNumber [.ref 53, .int (-(h44.I 55 i1.toNatClampNeg))] h44 (kV fun h50 => zQ none m_X11_spell (d + 1) 7 [(0, .ref 53), (1, .int (i1 + (nI 1)))] [] h50 Q))))))))) ∧ ((h32.I 55 i1.toNatClampNeg) = (nI 1) → zQ none m_X11_spell (d + 1) 7 [(0, .ref 53), (1, .int (i1 + (nI 1)))] [] h32 Q))))))))) ∧ (x3 = 0 → zQ none m_X11_spell (d + 1) 7 [(0, .ref 53), (1, .int (i1 + (nI 1)))] [] h Q))))) : zQ none m_X11_spell (d + 1) 7 [(0, .ref 53), (1, .int i1)] [] h Q := by
  refine zq_iload_n (k := 1) (i := 1) (x := i1) 1 rfl rfl dX11_spell_7 ?_
  refine zq_sipush (v := (nI 1600)) rfl dX11_spell_8 ?_
  refine zq_icmp_ge (tgt := 153) dX11_spell_11 rfl ⟨fun c1 => ?_, fun c1 => ?_⟩
  · have H := H.1 c1
    refine zq_aload_n (k := 0) (i := 0) (x := 53) 0 rfl rfl dX11_spell_153 ?_
    refine zq_getI fl_RX11_203 rfl (sh_53 hw) dX11_spell_154 ?_
    exact zq_iret dX11_spell_157 rfl rfl rfl H
  · have H := H.2 c1
    refine zq_iload_n (k := 1) (i := 1) (x := i1) 1 rfl rfl dX11_spell_14 ?_
    refine zq_bipush (v := (nI 40)) rfl dX11_spell_15 ?_
    refine zq_idiv (by decide) dX11_spell_17 ?_
    refine zq_iload_n (k := 1) (i := 1) (x := i1) 1 rfl rfl dX11_spell_18 ?_
    refine zq_bipush (v := (nI 40)) rfl dX11_spell_19 ?_
    refine zq_irem (by decide) dX11_spell_21 ?_
    refine zq_icmp_ge (tgt := 147) dX11_spell_22 rfl ⟨fun c2 => ?_, fun c2 => ?_⟩
    · have H := H.1 c2
      refine zq_iinc (i := 1) (x := i1) (v := (nI 1)) (ls' := [(1, .int (i1 + (nI 1))), (0, .ref 53)]) 1 rfl rfl (Nat.le_of_ble_eq_true rfl) rfl dX11_spell_147 ?_
      refine zq_goto (tgt := 7) dX11_spell_150 rfl ?_
      exact zq_sub (ls' := [(0, .ref 53), (1, .int (i1 + (nI 1)))]) [1, 0] rfl H
    · have H := H.2 c2
      refine zq_aload_n (k := 0) (i := 0) (x := 53) 0 rfl rfl dX11_spell_25 ?_
      refine zq_iload_n (k := 1) (i := 1) (x := i1) 1 rfl rfl dX11_spell_26 ?_
      refine zq_bipush (v := (nI 40)) rfl dX11_spell_27 ?_
      refine zq_idiv (by decide) dX11_spell_29 ?_
      refine zq_iload_n (k := 1) (i := 1) (x := i1) 1 rfl rfl dX11_spell_30 ?_
      refine zq_bipush (v := (nI 40)) rfl dX11_spell_31 ?_
      refine zq_irem (by decide) dX11_spell_33 ?_
      refine zq_invV (as := [.int (i1 / (nI 40)), .int (i1 - i1 / (nI 40) * (nI 40))]) (st := []) (o := 53) (c := 10) (by decide) rfl (sh_53 hw) in_X11_isEdge se_X11_isEdge mo_X11_isEdge ml_RX11_116 rfl (Nat.le_of_ble_eq_true rfl) dX11_spell_34 rfl H (fun r1 h1 hq => ?_)
      obtain ⟨x3, rfl, rfl, H⟩ := hq
      show zQ none m_X11_spell (d + 1) 37 [(0, .ref 53), (1, .int i1)] (.int x3 :: []) h Q
      refine zq_if_ne (tgt := 43) dX11_spell_37 rfl ⟨fun c4 => ?_, fun c4 => ?_⟩
      · have H := H.1 c4
        refine zq_aload_n (k := 0) (i := 0) (x := 53) 0 rfl rfl dX11_spell_43 ?_
        refine zq_getI fl_RX11_203 rfl (sh_53 hw) dX11_spell_44 ?_
        refine zq_if_le (tgt := 56) dX11_spell_47 rfl ⟨fun c5 => ?_, fun c5 => ?_⟩
        · have H := H.1 c5
          refine zq_aload_n (k := 0) (i := 0) (x := 53) 0 rfl rfl dX11_spell_56 ?_
          refine zq_bipush (v := (nI 43)) rfl dX11_spell_57 ?_
          refine zq_invV (as := [.int (nI 43)]) (st := []) (o := 53) (c := 10) (by decide) rfl (sh_53 hw) in_X11_says se_X11_says mo_X11_says ml_RX11_281 rfl (Nat.le_of_ble_eq_true rfl) dX11_spell_59 rfl H (fun r1 h6 hq => ?_)
          obtain ⟨rfl, wh6, H⟩ := hq
          show zQ none m_X11_spell (d + 1) 62 [(0, .ref 53), (1, .int i1)] ([]) h6 Q
          refine zq_aload_n (k := 0) (i := 0) (x := 53) 0 rfl rfl dX11_spell_62 ?_
          refine zq_iload_n (k := 1) (i := 1) (x := i1) 1 rfl rfl dX11_spell_63 ?_
          refine zq_bipush (v := (nI 40)) rfl dX11_spell_64 ?_
          refine zq_idiv (by decide) dX11_spell_66 ?_
          refine zq_invV (as := [.int (i1 / (nI 40))]) (st := []) (o := 53) (c := 10) (by decide) rfl (sh_53 wh6) in_X11_saysNumber se_X11_saysNumber mo_X11_saysNumber ml_RX11_278 rfl (Nat.le_of_ble_eq_true rfl) dX11_spell_67 rfl H (fun r1 h7 hq => ?_)
          obtain ⟨rfl, wh7, H⟩ := hq
          show zQ none m_X11_spell (d + 1) 70 [(0, .ref 53), (1, .int i1)] ([]) h7 Q
          refine zq_aload_n (k := 0) (i := 0) (x := 53) 0 rfl rfl dX11_spell_70 ?_
          refine zq_bipush (v := (nI 44)) rfl dX11_spell_71 ?_
          refine zq_invV (as := [.int (nI 44)]) (st := []) (o := 53) (c := 10) (by decide) rfl (sh_53 wh7) in_X11_says se_X11_says mo_X11_says ml_RX11_281 rfl (Nat.le_of_ble_eq_true rfl) dX11_spell_73 rfl H (fun r1 h8 hq => ?_)
          obtain ⟨rfl, wh8, H⟩ := hq
          show zQ none m_X11_spell (d + 1) 76 [(0, .ref 53), (1, .int i1)] ([]) h8 Q
          refine zq_aload_n (k := 0) (i := 0) (x := 53) 0 rfl rfl dX11_spell_76 ?_
          refine zq_iload_n (k := 1) (i := 1) (x := i1) 1 rfl rfl dX11_spell_77 ?_
          refine zq_bipush (v := (nI 40)) rfl dX11_spell_78 ?_
          refine zq_irem (by decide) dX11_spell_80 ?_
          refine zq_invV (as := [.int (i1 - i1 / (nI 40) * (nI 40))]) (st := []) (o := 53) (c := 10) (by decide) rfl (sh_53 wh8) in_X11_saysNumber se_X11_saysNumber mo_X11_saysNumber ml_RX11_278 rfl (Nat.le_of_ble_eq_true rfl) dX11_spell_81 rfl H (fun r1 h9 hq => ?_)
          obtain ⟨rfl, wh9, H⟩ := hq
          show zQ none m_X11_spell (d + 1) 84 [(0, .ref 53), (1, .int i1)] ([]) h9 Q
          refine zq_aload_n (k := 0) (i := 0) (x := 53) 0 rfl rfl dX11_spell_84 ?_
          refine zq_getP fl_RX11_15 rfl (sh_53 wh9) (rf_53_1 wh9) dX11_spell_85 ?_
          refine zq_iload_n (k := 1) (i := 1) (x := i1) 1 rfl rfl dX11_spell_88 ?_
          obtain ⟨b10, H⟩ := H
          refine zq_iald (sh_55 wh9) b10 dX11_spell_89 ?_
          refine zq_iconst (v := (nI 1)) rfl dX11_spell_90 ?_
          refine zq_icmp_ne (tgt := 97) dX11_spell_91 rfl ⟨fun c11 => ?_, fun c11 => ?_⟩
          · have H := H.1 c11
            refine zq_aload_n (k := 0) (i := 0) (x := 53) 0 rfl rfl dX11_spell_97 ?_
            refine zq_bipush (v := (nI 61)) rfl dX11_spell_98 ?_
            refine zq_invV (as := [.int (nI 61)]) (st := []) (o := 53) (c := 10) (by decide) rfl (sh_53 wh9) in_X11_says se_X11_says mo_X11_says ml_RX11_281 rfl (Nat.le_of_ble_eq_true rfl) dX11_spell_100 rfl H (fun r1 h12 hq => ?_)
            obtain ⟨rfl, wh12, H⟩ := hq
            show zQ none m_X11_spell (d + 1) 103 [(0, .ref 53), (1, .int i1)] ([]) h12 Q
            refine zq_aload_n (k := 0) (i := 0) (x := 53) 0 rfl rfl dX11_spell_103 ?_
            refine zq_getP fl_RX11_15 rfl (sh_53 wh12) (rf_53_1 wh12) dX11_spell_104 ?_
            refine zq_iload_n (k := 1) (i := 1) (x := i1) 1 rfl rfl dX11_spell_107 ?_
            obtain ⟨b13, H⟩ := H
            refine zq_iald (sh_55 wh12) b13 dX11_spell_108 ?_
            refine zq_if_ge (tgt := 118) dX11_spell_109 rfl ⟨fun c14 => ?_, fun c14 => ?_⟩
            · have H := H.1 c14
              refine zq_aload_n (k := 0) (i := 0) (x := 53) 0 rfl rfl dX11_spell_118 ?_
              refine zq_aload_n (k := 0) (i := 0) (x := 53) 0 rfl rfl dX11_spell_119 ?_
              refine zq_getP fl_RX11_15 rfl (sh_53 wh12) (rf_53_1 wh12) dX11_spell_120 ?_
              refine zq_iload_n (k := 1) (i := 1) (x := i1) 1 rfl rfl dX11_spell_123 ?_
              obtain ⟨b15, H⟩ := H
              refine zq_iald (sh_55 wh12) b15 dX11_spell_124 ?_
              refine zq_if_ge (tgt := 138) dX11_spell_125 rfl ⟨fun c16 => ?_, fun c16 => ?_⟩
              · have H := H.1 c16
                refine zq_aload_n (k := 0) (i := 0) (x := 53) 0 rfl rfl dX11_spell_138 ?_
                refine zq_getP fl_RX11_15 rfl (sh_53 wh12) (rf_53_1 wh12) dX11_spell_139 ?_
                refine zq_iload_n (k := 1) (i := 1) (x := i1) 1 rfl rfl dX11_spell_142 ?_
                obtain ⟨b17, H⟩ := H
                refine zq_iald (sh_55 wh12) b17 dX11_spell_143 ?_
                refine zq_invV (as := [.int (h12.I 55 i1.toNatClampNeg)]) (st := []) (o := 53) (c := 10) (by decide) rfl (sh_53 wh12) in_X11_saysNumber se_X11_saysNumber mo_X11_saysNumber ml_RX11_278 rfl (Nat.le_of_ble_eq_true rfl) dX11_spell_144 rfl H (fun r1 h18 hq => ?_)
                obtain ⟨rfl, wh18, H⟩ := hq
                show zQ none m_X11_spell (d + 1) 147 [(0, .ref 53), (1, .int i1)] ([]) h18 Q
                refine zq_iinc (i := 1) (x := i1) (v := (nI 1)) (ls' := [(1, .int (i1 + (nI 1))), (0, .ref 53)]) 1 rfl rfl (Nat.le_of_ble_eq_true rfl) rfl dX11_spell_147 ?_
                refine zq_goto (tgt := 7) dX11_spell_150 rfl ?_
                exact zq_sub (ls' := [(0, .ref 53), (1, .int (i1 + (nI 1)))]) [1, 0] rfl H
              · have H := H.2 c16
                refine zq_aload_n (k := 0) (i := 0) (x := 53) 0 rfl rfl dX11_spell_128 ?_
                refine zq_getP fl_RX11_15 rfl (sh_53 wh12) (rf_53_1 wh12) dX11_spell_129 ?_
                refine zq_iload_n (k := 1) (i := 1) (x := i1) 1 rfl rfl dX11_spell_132 ?_
                obtain ⟨b19, H⟩ := H
                refine zq_iald (sh_55 wh12) b19 dX11_spell_133 ?_
                refine zq_ineg dX11_spell_134 ?_
                refine zq_goto (tgt := 144) dX11_spell_135 rfl ?_
                refine zq_invV (as := [.int (-(h12.I 55 i1.toNatClampNeg))]) (st := []) (o := 53) (c := 10) (by decide) rfl (sh_53 wh12) in_X11_saysNumber se_X11_saysNumber mo_X11_saysNumber ml_RX11_278 rfl (Nat.le_of_ble_eq_true rfl) dX11_spell_144 rfl H (fun r1 h20 hq => ?_)
                obtain ⟨rfl, wh20, H⟩ := hq
                show zQ none m_X11_spell (d + 1) 147 [(0, .ref 53), (1, .int i1)] ([]) h20 Q
                refine zq_iinc (i := 1) (x := i1) (v := (nI 1)) (ls' := [(1, .int (i1 + (nI 1))), (0, .ref 53)]) 1 rfl rfl (Nat.le_of_ble_eq_true rfl) rfl dX11_spell_147 ?_
                refine zq_goto (tgt := 7) dX11_spell_150 rfl ?_
                exact zq_sub (ls' := [(0, .ref 53), (1, .int (i1 + (nI 1)))]) [1, 0] rfl H
            · have H := H.2 c14
              refine zq_aload_n (k := 0) (i := 0) (x := 53) 0 rfl rfl dX11_spell_112 ?_
              refine zq_bipush (v := (nI 45)) rfl dX11_spell_113 ?_
              refine zq_invV (as := [.int (nI 45)]) (st := []) (o := 53) (c := 10) (by decide) rfl (sh_53 wh12) in_X11_says se_X11_says mo_X11_says ml_RX11_281 rfl (Nat.le_of_ble_eq_true rfl) dX11_spell_115 rfl H (fun r1 h21 hq => ?_)
              obtain ⟨rfl, wh21, H⟩ := hq
              show zQ none m_X11_spell (d + 1) 118 [(0, .ref 53), (1, .int i1)] ([]) h21 Q
              refine zq_aload_n (k := 0) (i := 0) (x := 53) 0 rfl rfl dX11_spell_118 ?_
              refine zq_aload_n (k := 0) (i := 0) (x := 53) 0 rfl rfl dX11_spell_119 ?_
              refine zq_getP fl_RX11_15 rfl (sh_53 wh21) (rf_53_1 wh21) dX11_spell_120 ?_
              refine zq_iload_n (k := 1) (i := 1) (x := i1) 1 rfl rfl dX11_spell_123 ?_
              obtain ⟨b22, H⟩ := H
              refine zq_iald (sh_55 wh21) b22 dX11_spell_124 ?_
              refine zq_if_ge (tgt := 138) dX11_spell_125 rfl ⟨fun c23 => ?_, fun c23 => ?_⟩
              · have H := H.1 c23
                refine zq_aload_n (k := 0) (i := 0) (x := 53) 0 rfl rfl dX11_spell_138 ?_
                refine zq_getP fl_RX11_15 rfl (sh_53 wh21) (rf_53_1 wh21) dX11_spell_139 ?_
                refine zq_iload_n (k := 1) (i := 1) (x := i1) 1 rfl rfl dX11_spell_142 ?_
                obtain ⟨b24, H⟩ := H
                refine zq_iald (sh_55 wh21) b24 dX11_spell_143 ?_
                refine zq_invV (as := [.int (h21.I 55 i1.toNatClampNeg)]) (st := []) (o := 53) (c := 10) (by decide) rfl (sh_53 wh21) in_X11_saysNumber se_X11_saysNumber mo_X11_saysNumber ml_RX11_278 rfl (Nat.le_of_ble_eq_true rfl) dX11_spell_144 rfl H (fun r1 h25 hq => ?_)
                obtain ⟨rfl, wh25, H⟩ := hq
                show zQ none m_X11_spell (d + 1) 147 [(0, .ref 53), (1, .int i1)] ([]) h25 Q
                refine zq_iinc (i := 1) (x := i1) (v := (nI 1)) (ls' := [(1, .int (i1 + (nI 1))), (0, .ref 53)]) 1 rfl rfl (Nat.le_of_ble_eq_true rfl) rfl dX11_spell_147 ?_
                refine zq_goto (tgt := 7) dX11_spell_150 rfl ?_
                exact zq_sub (ls' := [(0, .ref 53), (1, .int (i1 + (nI 1)))]) [1, 0] rfl H
              · have H := H.2 c23
                refine zq_aload_n (k := 0) (i := 0) (x := 53) 0 rfl rfl dX11_spell_128 ?_
                refine zq_getP fl_RX11_15 rfl (sh_53 wh21) (rf_53_1 wh21) dX11_spell_129 ?_
                refine zq_iload_n (k := 1) (i := 1) (x := i1) 1 rfl rfl dX11_spell_132 ?_
                obtain ⟨b26, H⟩ := H
                refine zq_iald (sh_55 wh21) b26 dX11_spell_133 ?_
                refine zq_ineg dX11_spell_134 ?_
                refine zq_goto (tgt := 144) dX11_spell_135 rfl ?_
                refine zq_invV (as := [.int (-(h21.I 55 i1.toNatClampNeg))]) (st := []) (o := 53) (c := 10) (by decide) rfl (sh_53 wh21) in_X11_saysNumber se_X11_saysNumber mo_X11_saysNumber ml_RX11_278 rfl (Nat.le_of_ble_eq_true rfl) dX11_spell_144 rfl H (fun r1 h27 hq => ?_)
                obtain ⟨rfl, wh27, H⟩ := hq
                show zQ none m_X11_spell (d + 1) 147 [(0, .ref 53), (1, .int i1)] ([]) h27 Q
                refine zq_iinc (i := 1) (x := i1) (v := (nI 1)) (ls' := [(1, .int (i1 + (nI 1))), (0, .ref 53)]) 1 rfl rfl (Nat.le_of_ble_eq_true rfl) rfl dX11_spell_147 ?_
                refine zq_goto (tgt := 7) dX11_spell_150 rfl ?_
                exact zq_sub (ls' := [(0, .ref 53), (1, .int (i1 + (nI 1)))]) [1, 0] rfl H
          · have H := H.2 c11
            refine zq_goto (tgt := 147) dX11_spell_94 rfl ?_
            refine zq_iinc (i := 1) (x := i1) (v := (nI 1)) (ls' := [(1, .int (i1 + (nI 1))), (0, .ref 53)]) 1 rfl rfl (Nat.le_of_ble_eq_true rfl) rfl dX11_spell_147 ?_
            refine zq_goto (tgt := 7) dX11_spell_150 rfl ?_
            exact zq_sub (ls' := [(0, .ref 53), (1, .int (i1 + (nI 1)))]) [1, 0] rfl H
        · have H := H.2 c5
          refine zq_aload_n (k := 0) (i := 0) (x := 53) 0 rfl rfl dX11_spell_50 ?_
          refine zq_bipush (v := (nI 59)) rfl dX11_spell_51 ?_
          refine zq_invV (as := [.int (nI 59)]) (st := []) (o := 53) (c := 10) (by decide) rfl (sh_53 hw) in_X11_says se_X11_says mo_X11_says ml_RX11_281 rfl (Nat.le_of_ble_eq_true rfl) dX11_spell_53 rfl H (fun r1 h28 hq => ?_)
          obtain ⟨rfl, wh28, H⟩ := hq
          show zQ none m_X11_spell (d + 1) 56 [(0, .ref 53), (1, .int i1)] ([]) h28 Q
          refine zq_aload_n (k := 0) (i := 0) (x := 53) 0 rfl rfl dX11_spell_56 ?_
          refine zq_bipush (v := (nI 43)) rfl dX11_spell_57 ?_
          refine zq_invV (as := [.int (nI 43)]) (st := []) (o := 53) (c := 10) (by decide) rfl (sh_53 wh28) in_X11_says se_X11_says mo_X11_says ml_RX11_281 rfl (Nat.le_of_ble_eq_true rfl) dX11_spell_59 rfl H (fun r1 h29 hq => ?_)
          obtain ⟨rfl, wh29, H⟩ := hq
          show zQ none m_X11_spell (d + 1) 62 [(0, .ref 53), (1, .int i1)] ([]) h29 Q
          refine zq_aload_n (k := 0) (i := 0) (x := 53) 0 rfl rfl dX11_spell_62 ?_
          refine zq_iload_n (k := 1) (i := 1) (x := i1) 1 rfl rfl dX11_spell_63 ?_
          refine zq_bipush (v := (nI 40)) rfl dX11_spell_64 ?_
          refine zq_idiv (by decide) dX11_spell_66 ?_
          refine zq_invV (as := [.int (i1 / (nI 40))]) (st := []) (o := 53) (c := 10) (by decide) rfl (sh_53 wh29) in_X11_saysNumber se_X11_saysNumber mo_X11_saysNumber ml_RX11_278 rfl (Nat.le_of_ble_eq_true rfl) dX11_spell_67 rfl H (fun r1 h30 hq => ?_)
          obtain ⟨rfl, wh30, H⟩ := hq
          show zQ none m_X11_spell (d + 1) 70 [(0, .ref 53), (1, .int i1)] ([]) h30 Q
          refine zq_aload_n (k := 0) (i := 0) (x := 53) 0 rfl rfl dX11_spell_70 ?_
          refine zq_bipush (v := (nI 44)) rfl dX11_spell_71 ?_
          refine zq_invV (as := [.int (nI 44)]) (st := []) (o := 53) (c := 10) (by decide) rfl (sh_53 wh30) in_X11_says se_X11_says mo_X11_says ml_RX11_281 rfl (Nat.le_of_ble_eq_true rfl) dX11_spell_73 rfl H (fun r1 h31 hq => ?_)
          obtain ⟨rfl, wh31, H⟩ := hq
          show zQ none m_X11_spell (d + 1) 76 [(0, .ref 53), (1, .int i1)] ([]) h31 Q
          refine zq_aload_n (k := 0) (i := 0) (x := 53) 0 rfl rfl dX11_spell_76 ?_
          refine zq_iload_n (k := 1) (i := 1) (x := i1) 1 rfl rfl dX11_spell_77 ?_
          refine zq_bipush (v := (nI 40)) rfl dX11_spell_78 ?_
          refine zq_irem (by decide) dX11_spell_80 ?_
          refine zq_invV (as := [.int (i1 - i1 / (nI 40) * (nI 40))]) (st := []) (o := 53) (c := 10) (by decide) rfl (sh_53 wh31) in_X11_saysNumber se_X11_saysNumber mo_X11_saysNumber ml_RX11_278 rfl (Nat.le_of_ble_eq_true rfl) dX11_spell_81 rfl H (fun r1 h32 hq => ?_)
          obtain ⟨rfl, wh32, H⟩ := hq
          show zQ none m_X11_spell (d + 1) 84 [(0, .ref 53), (1, .int i1)] ([]) h32 Q
          refine zq_aload_n (k := 0) (i := 0) (x := 53) 0 rfl rfl dX11_spell_84 ?_
          refine zq_getP fl_RX11_15 rfl (sh_53 wh32) (rf_53_1 wh32) dX11_spell_85 ?_
          refine zq_iload_n (k := 1) (i := 1) (x := i1) 1 rfl rfl dX11_spell_88 ?_
          obtain ⟨b33, H⟩ := H
          refine zq_iald (sh_55 wh32) b33 dX11_spell_89 ?_
          refine zq_iconst (v := (nI 1)) rfl dX11_spell_90 ?_
          refine zq_icmp_ne (tgt := 97) dX11_spell_91 rfl ⟨fun c34 => ?_, fun c34 => ?_⟩
          · have H := H.1 c34
            refine zq_aload_n (k := 0) (i := 0) (x := 53) 0 rfl rfl dX11_spell_97 ?_
            refine zq_bipush (v := (nI 61)) rfl dX11_spell_98 ?_
            refine zq_invV (as := [.int (nI 61)]) (st := []) (o := 53) (c := 10) (by decide) rfl (sh_53 wh32) in_X11_says se_X11_says mo_X11_says ml_RX11_281 rfl (Nat.le_of_ble_eq_true rfl) dX11_spell_100 rfl H (fun r1 h35 hq => ?_)
            obtain ⟨rfl, wh35, H⟩ := hq
            show zQ none m_X11_spell (d + 1) 103 [(0, .ref 53), (1, .int i1)] ([]) h35 Q
            refine zq_aload_n (k := 0) (i := 0) (x := 53) 0 rfl rfl dX11_spell_103 ?_
            refine zq_getP fl_RX11_15 rfl (sh_53 wh35) (rf_53_1 wh35) dX11_spell_104 ?_
            refine zq_iload_n (k := 1) (i := 1) (x := i1) 1 rfl rfl dX11_spell_107 ?_
            obtain ⟨b36, H⟩ := H
            refine zq_iald (sh_55 wh35) b36 dX11_spell_108 ?_
            refine zq_if_ge (tgt := 118) dX11_spell_109 rfl ⟨fun c37 => ?_, fun c37 => ?_⟩
            · have H := H.1 c37
              refine zq_aload_n (k := 0) (i := 0) (x := 53) 0 rfl rfl dX11_spell_118 ?_
              refine zq_aload_n (k := 0) (i := 0) (x := 53) 0 rfl rfl dX11_spell_119 ?_
              refine zq_getP fl_RX11_15 rfl (sh_53 wh35) (rf_53_1 wh35) dX11_spell_120 ?_
              refine zq_iload_n (k := 1) (i := 1) (x := i1) 1 rfl rfl dX11_spell_123 ?_
              obtain ⟨b38, H⟩ := H
              refine zq_iald (sh_55 wh35) b38 dX11_spell_124 ?_
              refine zq_if_ge (tgt := 138) dX11_spell_125 rfl ⟨fun c39 => ?_, fun c39 => ?_⟩
              · have H := H.1 c39
                refine zq_aload_n (k := 0) (i := 0) (x := 53) 0 rfl rfl dX11_spell_138 ?_
                refine zq_getP fl_RX11_15 rfl (sh_53 wh35) (rf_53_1 wh35) dX11_spell_139 ?_
                refine zq_iload_n (k := 1) (i := 1) (x := i1) 1 rfl rfl dX11_spell_142 ?_
                obtain ⟨b40, H⟩ := H
                refine zq_iald (sh_55 wh35) b40 dX11_spell_143 ?_
                refine zq_invV (as := [.int (h35.I 55 i1.toNatClampNeg)]) (st := []) (o := 53) (c := 10) (by decide) rfl (sh_53 wh35) in_X11_saysNumber se_X11_saysNumber mo_X11_saysNumber ml_RX11_278 rfl (Nat.le_of_ble_eq_true rfl) dX11_spell_144 rfl H (fun r1 h41 hq => ?_)
                obtain ⟨rfl, wh41, H⟩ := hq
                show zQ none m_X11_spell (d + 1) 147 [(0, .ref 53), (1, .int i1)] ([]) h41 Q
                refine zq_iinc (i := 1) (x := i1) (v := (nI 1)) (ls' := [(1, .int (i1 + (nI 1))), (0, .ref 53)]) 1 rfl rfl (Nat.le_of_ble_eq_true rfl) rfl dX11_spell_147 ?_
                refine zq_goto (tgt := 7) dX11_spell_150 rfl ?_
                exact zq_sub (ls' := [(0, .ref 53), (1, .int (i1 + (nI 1)))]) [1, 0] rfl H
              · have H := H.2 c39
                refine zq_aload_n (k := 0) (i := 0) (x := 53) 0 rfl rfl dX11_spell_128 ?_
                refine zq_getP fl_RX11_15 rfl (sh_53 wh35) (rf_53_1 wh35) dX11_spell_129 ?_
                refine zq_iload_n (k := 1) (i := 1) (x := i1) 1 rfl rfl dX11_spell_132 ?_
                obtain ⟨b42, H⟩ := H
                refine zq_iald (sh_55 wh35) b42 dX11_spell_133 ?_
                refine zq_ineg dX11_spell_134 ?_
                refine zq_goto (tgt := 144) dX11_spell_135 rfl ?_
                refine zq_invV (as := [.int (-(h35.I 55 i1.toNatClampNeg))]) (st := []) (o := 53) (c := 10) (by decide) rfl (sh_53 wh35) in_X11_saysNumber se_X11_saysNumber mo_X11_saysNumber ml_RX11_278 rfl (Nat.le_of_ble_eq_true rfl) dX11_spell_144 rfl H (fun r1 h43 hq => ?_)
                obtain ⟨rfl, wh43, H⟩ := hq
                show zQ none m_X11_spell (d + 1) 147 [(0, .ref 53), (1, .int i1)] ([]) h43 Q
                refine zq_iinc (i := 1) (x := i1) (v := (nI 1)) (ls' := [(1, .int (i1 + (nI 1))), (0, .ref 53)]) 1 rfl rfl (Nat.le_of_ble_eq_true rfl) rfl dX11_spell_147 ?_
                refine zq_goto (tgt := 7) dX11_spell_150 rfl ?_
                exact zq_sub (ls' := [(0, .ref 53), (1, .int (i1 + (nI 1)))]) [1, 0] rfl H
            · have H := H.2 c37
              refine zq_aload_n (k := 0) (i := 0) (x := 53) 0 rfl rfl dX11_spell_112 ?_
              refine zq_bipush (v := (nI 45)) rfl dX11_spell_113 ?_
              refine zq_invV (as := [.int (nI 45)]) (st := []) (o := 53) (c := 10) (by decide) rfl (sh_53 wh35) in_X11_says se_X11_says mo_X11_says ml_RX11_281 rfl (Nat.le_of_ble_eq_true rfl) dX11_spell_115 rfl H (fun r1 h44 hq => ?_)
              obtain ⟨rfl, wh44, H⟩ := hq
              show zQ none m_X11_spell (d + 1) 118 [(0, .ref 53), (1, .int i1)] ([]) h44 Q
              refine zq_aload_n (k := 0) (i := 0) (x := 53) 0 rfl rfl dX11_spell_118 ?_
              refine zq_aload_n (k := 0) (i := 0) (x := 53) 0 rfl rfl dX11_spell_119 ?_
              refine zq_getP fl_RX11_15 rfl (sh_53 wh44) (rf_53_1 wh44) dX11_spell_120 ?_
              refine zq_iload_n (k := 1) (i := 1) (x := i1) 1 rfl rfl dX11_spell_123 ?_
              obtain ⟨b45, H⟩ := H
              refine zq_iald (sh_55 wh44) b45 dX11_spell_124 ?_
              refine zq_if_ge (tgt := 138) dX11_spell_125 rfl ⟨fun c46 => ?_, fun c46 => ?_⟩
              · have H := H.1 c46
                refine zq_aload_n (k := 0) (i := 0) (x := 53) 0 rfl rfl dX11_spell_138 ?_
                refine zq_getP fl_RX11_15 rfl (sh_53 wh44) (rf_53_1 wh44) dX11_spell_139 ?_
                refine zq_iload_n (k := 1) (i := 1) (x := i1) 1 rfl rfl dX11_spell_142 ?_
                obtain ⟨b47, H⟩ := H
                refine zq_iald (sh_55 wh44) b47 dX11_spell_143 ?_
                refine zq_invV (as := [.int (h44.I 55 i1.toNatClampNeg)]) (st := []) (o := 53) (c := 10) (by decide) rfl (sh_53 wh44) in_X11_saysNumber se_X11_saysNumber mo_X11_saysNumber ml_RX11_278 rfl (Nat.le_of_ble_eq_true rfl) dX11_spell_144 rfl H (fun r1 h48 hq => ?_)
                obtain ⟨rfl, wh48, H⟩ := hq
                show zQ none m_X11_spell (d + 1) 147 [(0, .ref 53), (1, .int i1)] ([]) h48 Q
                refine zq_iinc (i := 1) (x := i1) (v := (nI 1)) (ls' := [(1, .int (i1 + (nI 1))), (0, .ref 53)]) 1 rfl rfl (Nat.le_of_ble_eq_true rfl) rfl dX11_spell_147 ?_
                refine zq_goto (tgt := 7) dX11_spell_150 rfl ?_
                exact zq_sub (ls' := [(0, .ref 53), (1, .int (i1 + (nI 1)))]) [1, 0] rfl H
              · have H := H.2 c46
                refine zq_aload_n (k := 0) (i := 0) (x := 53) 0 rfl rfl dX11_spell_128 ?_
                refine zq_getP fl_RX11_15 rfl (sh_53 wh44) (rf_53_1 wh44) dX11_spell_129 ?_
                refine zq_iload_n (k := 1) (i := 1) (x := i1) 1 rfl rfl dX11_spell_132 ?_
                obtain ⟨b49, H⟩ := H
                refine zq_iald (sh_55 wh44) b49 dX11_spell_133 ?_
                refine zq_ineg dX11_spell_134 ?_
                refine zq_goto (tgt := 144) dX11_spell_135 rfl ?_
                refine zq_invV (as := [.int (-(h44.I 55 i1.toNatClampNeg))]) (st := []) (o := 53) (c := 10) (by decide) rfl (sh_53 wh44) in_X11_saysNumber se_X11_saysNumber mo_X11_saysNumber ml_RX11_278 rfl (Nat.le_of_ble_eq_true rfl) dX11_spell_144 rfl H (fun r1 h50 hq => ?_)
                obtain ⟨rfl, wh50, H⟩ := hq
                show zQ none m_X11_spell (d + 1) 147 [(0, .ref 53), (1, .int i1)] ([]) h50 Q
                refine zq_iinc (i := 1) (x := i1) (v := (nI 1)) (ls' := [(1, .int (i1 + (nI 1))), (0, .ref 53)]) 1 rfl rfl (Nat.le_of_ble_eq_true rfl) rfl dX11_spell_147 ?_
                refine zq_goto (tgt := 7) dX11_spell_150 rfl ?_
                exact zq_sub (ls' := [(0, .ref 53), (1, .int (i1 + (nI 1)))]) [1, 0] rfl H
          · have H := H.2 c34
            refine zq_goto (tgt := 147) dX11_spell_94 rfl ?_
            refine zq_iinc (i := 1) (x := i1) (v := (nI 1)) (ls' := [(1, .int (i1 + (nI 1))), (0, .ref 53)]) 1 rfl rfl (Nat.le_of_ble_eq_true rfl) rfl dX11_spell_147 ?_
            refine zq_goto (tgt := 7) dX11_spell_150 rfl ?_
            exact zq_sub (ls' := [(0, .ref 53), (1, .int (i1 + (nI 1)))]) [1, 0] rfl H
      · have H := H.2 c4
        refine zq_goto (tgt := 147) dX11_spell_40 rfl ?_
        refine zq_iinc (i := 1) (x := i1) (v := (nI 1)) (ls' := [(1, .int (i1 + (nI 1))), (0, .ref 53)]) 1 rfl rfl (Nat.le_of_ble_eq_true rfl) rfl dX11_spell_147 ?_
        refine zq_goto (tgt := 7) dX11_spell_150 rfl ?_
        exact zq_sub (ls' := [(0, .ref 53), (1, .int (i1 + (nI 1)))]) [1, 0] rfl H
set_option maxHeartbeats 2000000 in
set_option maxRecDepth 20000 in
theorem r_X11_paper_0 {d : Nat} {h : AH} {Q : Option Value → AH → Prop} (i1 : Int32) (hw : zWF h)  (H : zK d m_X11_isIn [.int i1, .int (nI 0), .int ((h.I 53 25) - (nI 1))] h (pI h fun x1 => (x1 = 0 → Q (some (.int (-1))) h) ∧ (¬ x1 = 0 → vp_in i1 32000 ∧ (Q (some (.int (h.I 68 i1.toNatClampNeg))) h)))) : zK (d + 1) m_X11_paper [.ref 53, .int i1] h Q := by
  refine zK_of mo_X11_paper (Nat.le_of_ble_eq_true rfl) ?_
  show zQ none m_X11_paper (d + 1) 0 [(0, .ref 53), (1, .int i1)] [] h Q
  refine zq_iload_n (k := 1) (i := 1) (x := i1) 1 rfl rfl dX11_paper_0 ?_
  refine zq_iconst (v := (nI 0)) rfl dX11_paper_1 ?_
  refine zq_aload_n (k := 0) (i := 0) (x := 53) 0 rfl rfl dX11_paper_2 ?_
  refine zq_getI fl_RX11_203 rfl (sh_53 hw) dX11_paper_3 ?_
  refine zq_iconst (v := (nI 1)) rfl dX11_paper_6 ?_
  refine zq_isub dX11_paper_7 ?_
  refine zq_invS (as := [.int i1, .int (nI 0), .int ((h.I 53 25) - (nI 1))]) (st := []) st_X11_isIn mo_X11_isIn ml_RX11_64 rfl (Nat.le_of_ble_eq_true rfl) dX11_paper_8 rfl H (fun r1 h1 hq => ?_)
  obtain ⟨x1, rfl, rfl, H⟩ := hq
  show zQ none m_X11_paper (d + 1) 11 [(0, .ref 53), (1, .int i1)] (.int x1 :: []) h Q
  refine zq_if_eq (tgt := 23) dX11_paper_11 rfl ⟨fun c2 => ?_, fun c2 => ?_⟩
  · have H := H.1 c2
    refine zq_iconst (v := (-1)) rfl dX11_paper_23 ?_
    exact zq_iret dX11_paper_24 rfl rfl rfl H
  · have H := H.2 c2
    refine zq_aload_n (k := 0) (i := 0) (x := 53) 0 rfl rfl dX11_paper_14 ?_
    refine zq_getP fl_RX11_55 rfl (sh_53 hw) (rf_53_24 hw) dX11_paper_15 ?_
    refine zq_iload_n (k := 1) (i := 1) (x := i1) 1 rfl rfl dX11_paper_18 ?_
    obtain ⟨b3, H⟩ := H
    refine zq_iald (sh_68 hw) b3 dX11_paper_19 ?_
    refine zq_goto (tgt := 24) dX11_paper_20 rfl ?_
    exact zq_iret dX11_paper_24 rfl rfl rfl H
set_option maxHeartbeats 2000000 in
set_option maxRecDepth 20000 in
theorem r_X11_isList_0 {d : Nat} {h : AH} {Q : Option Value → AH → Prop} (i0 : Int32)  (H : zK d m_X11_isIn [.int i0, .int (nI 0), .int (nI 5)] h (pI h fun x1 => (x1 = 0 ∨ x1 = 1) ∧ Q (some (.int x1)) h)) : zK (d + 1) m_X11_isList [.int i0] h Q := by
  refine zK_of mo_X11_isList (Nat.le_of_ble_eq_true rfl) ?_
  show zQ none m_X11_isList (d + 1) 0 [(0, .int i0)] [] h Q
  refine zq_iload_n (k := 0) (i := 0) (x := i0) 0 rfl rfl dX11_isList_0 ?_
  refine zq_iconst (v := (nI 0)) rfl dX11_isList_1 ?_
  refine zq_iconst (v := (nI 5)) rfl dX11_isList_2 ?_
  refine zq_invS (as := [.int i0, .int (nI 0), .int (nI 5)]) (st := []) st_X11_isIn mo_X11_isIn ml_RX11_64 rfl (Nat.le_of_ble_eq_true rfl) dX11_isList_3 rfl H (fun r1 h1 hq => ?_)
  obtain ⟨x1, rfl, rfl, H⟩ := hq
  show zQ none m_X11_isList (d + 1) 6 [(0, .int i0)] (.int x1 :: []) h Q
  obtain ⟨z2, H⟩ := H
  exact zq_iret dX11_isList_6 rfl rfl (zbool z2) H
set_option maxHeartbeats 2000000 in
set_option maxRecDepth 20000 in
theorem r_X11_isWide_0 {d : Nat} {h : AH} {Q : Option Value → AH → Prop} (i0 : Int32)  (H : (i0 ≤ (nI 3) → Q (some (.int (nI 0))) h) ∧ (¬ i0 ≤ (nI 3) → Q (some (.int (nI 1))) h)) : zK (d + 1) m_X11_isWide [.int i0] h Q := by
  refine zK_of mo_X11_isWide (Nat.le_of_ble_eq_true rfl) ?_
  show zQ none m_X11_isWide (d + 1) 0 [(0, .int i0)] [] h Q
  refine zq_iload_n (k := 0) (i := 0) (x := i0) 0 rfl rfl dX11_isWide_0 ?_
  refine zq_iconst (v := (nI 3)) rfl dX11_isWide_1 ?_
  refine zq_icmp_le (tgt := 9) dX11_isWide_2 rfl ⟨fun c1 => ?_, fun c1 => ?_⟩
  · have H := H.1 c1
    refine zq_iconst (v := (nI 0)) rfl dX11_isWide_9 ?_
    exact zq_iret dX11_isWide_10 rfl rfl rfl H
  · have H := H.2 c1
    refine zq_iconst (v := (nI 1)) rfl dX11_isWide_5 ?_
    refine zq_goto (tgt := 10) dX11_isWide_6 rfl ?_
    exact zq_iret dX11_isWide_10 rfl rfl rfl H
set_option maxHeartbeats 2000000 in
set_option maxRecDepth 20000 in
theorem r_X11_wrong_0 {d : Nat} {h : AH} {Q : Option Value → AH → Prop} (i1 : Int32) (hw : zWF h)  (H : zK d m_X11_isList [.int i1] h (pI h fun x1 => (x1 ≠ 0 → vp_in i1 6 ∧ ((0 ≤ (h.I 69 i1.toNatClampNeg) → Q (some (.int (nI 0))) h) ∧ (¬ 0 ≤ (h.I 69 i1.toNatClampNeg) → Q (some (.int (-11))) h))) ∧ (x1 = 0 → Q (some (.int (-1))) h))) : zK (d + 1) m_X11_wrong [.ref 53, .int i1] h Q := by
  refine zK_of mo_X11_wrong (Nat.le_of_ble_eq_true rfl) ?_
  show zQ none m_X11_wrong (d + 1) 0 [(0, .ref 53), (1, .int i1)] [] h Q
  refine zq_iload_n (k := 1) (i := 1) (x := i1) 1 rfl rfl dX11_wrong_0 ?_
  refine zq_invS (as := [.int i1]) (st := []) st_X11_isList mo_X11_isList ml_RX11_284 rfl (Nat.le_of_ble_eq_true rfl) dX11_wrong_1 rfl H (fun r1 h1 hq => ?_)
  obtain ⟨x1, rfl, rfl, H⟩ := hq
  show zQ none m_X11_wrong (d + 1) 4 [(0, .ref 53), (1, .int i1)] (.int x1 :: []) h Q
  refine zq_if_ne (tgt := 11) dX11_wrong_4 rfl ⟨fun c2 => ?_, fun c2 => ?_⟩
  · have H := H.1 c2
    refine zq_aload_n (k := 0) (i := 0) (x := 53) 0 rfl rfl dX11_wrong_11 ?_
    refine zq_getP fl_RX11_58 rfl (sh_53 hw) (rf_53_26 hw) dX11_wrong_12 ?_
    refine zq_iload_n (k := 1) (i := 1) (x := i1) 1 rfl rfl dX11_wrong_15 ?_
    obtain ⟨b3, H⟩ := H
    refine zq_iald (sh_69 hw) b3 dX11_wrong_16 ?_
    refine zq_if_ge (tgt := 25) dX11_wrong_17 rfl ⟨fun c4 => ?_, fun c4 => ?_⟩
    · have H := H.1 c4
      refine zq_iconst (v := (nI 0)) rfl dX11_wrong_25 ?_
      exact zq_iret dX11_wrong_26 rfl rfl rfl H
    · have H := H.2 c4
      refine zq_bipush (v := (-11)) rfl dX11_wrong_20 ?_
      refine zq_goto (tgt := 26) dX11_wrong_22 rfl ?_
      exact zq_iret dX11_wrong_26 rfl rfl rfl H
  · have H := H.2 c2
    refine zq_iconst (v := (-1)) rfl dX11_wrong_7 ?_
    refine zq_goto (tgt := 26) dX11_wrong_8 rfl ?_
    exact zq_iret dX11_wrong_26 rfl rfl rfl H
set_option maxHeartbeats 2000000 in
set_option maxRecDepth 20000 in
theorem r_X11_list_0 {d : Nat} {h : AH} {Q : Option Value → AH → Prop} (i1 : Int32) (i2 : Int32) (hw : zWF h)  (H : zK d m_X11_isList [.int i1] h (pI h fun x1 => (x1 ≠ 0 → (i2 ≤ (nI 60) → (0 ≤ i2 → vp_in i1 6 ∧ (∀ h6, h6 = h.sI 69 i1.toNatClampNeg i2 → zQ none m_X11_list (d + 1) 34 [(0, .ref 53), (1, .int i1), (3, .int (nI 0))] [] h6 Q)) ∧ (¬ 0 ≤ i2 → Q (some (.int (-14))) h)) ∧ (¬ i2 ≤ (nI 60) → Q (some (.int (-2))) h)) ∧ (x1 = 0 → Q (some (.int (-1))) h))) : zK (d + 1) m_X11_list [.ref 53, .int i1, .int i2] h Q := by
  refine zK_of mo_X11_list (Nat.le_of_ble_eq_true rfl) ?_
  show zQ none m_X11_list (d + 1) 0 [(0, .ref 53), (1, .int i1), (2, .int i2)] [] h Q
  refine zq_iload_n (k := 1) (i := 1) (x := i1) 1 rfl rfl dX11_list_0 ?_
  refine zq_invS (as := [.int i1]) (st := []) st_X11_isList mo_X11_isList ml_RX11_284 rfl (Nat.le_of_ble_eq_true rfl) dX11_list_1 rfl H (fun r1 h1 hq => ?_)
  obtain ⟨x1, rfl, rfl, H⟩ := hq
  show zQ none m_X11_list (d + 1) 4 [(0, .ref 53), (1, .int i1), (2, .int i2)] (.int x1 :: []) h Q
  refine zq_if_ne (tgt := 9) dX11_list_4 rfl ⟨fun c2 => ?_, fun c2 => ?_⟩
  · have H := H.1 c2
    refine zq_iload_n (k := 2) (i := 2) (x := i2) 2 rfl rfl dX11_list_9 ?_
    refine zq_bipush (v := (nI 60)) rfl dX11_list_10 ?_
    refine zq_icmp_le (tgt := 18) dX11_list_12 rfl ⟨fun c3 => ?_, fun c3 => ?_⟩
    · have H := H.1 c3
      refine zq_iload_n (k := 2) (i := 2) (x := i2) 2 rfl rfl dX11_list_18 ?_
      refine zq_if_ge (tgt := 25) dX11_list_19 rfl ⟨fun c4 => ?_, fun c4 => ?_⟩
      · have H := H.1 c4
        refine zq_aload_n (k := 0) (i := 0) (x := 53) 0 rfl rfl dX11_list_25 ?_
        refine zq_getP fl_RX11_58 rfl (sh_53 hw) (rf_53_26 hw) dX11_list_26 ?_
        refine zq_iload_n (k := 1) (i := 1) (x := i1) 1 rfl rfl dX11_list_29 ?_
        refine zq_iload_n (k := 2) (i := 2) (x := i2) 2 rfl rfl dX11_list_30 ?_
        obtain ⟨b5, H⟩ := H
        refine zq_iast (sh_69 hw) b5 dX11_list_31 (fun h6 eh6 => ?_)
        have H := H h6 eh6
        have wh6 := wf_I eh6 hw
        refine zq_iconst (v := (nI 0)) rfl dX11_list_32 ?_
        refine zq_istore_n (ls' := [(3, .int (nI 0)), (0, .ref 53), (1, .int i1), (2, .int i2)]) (k := 3) (i := 3) rfl (Nat.le_of_ble_eq_true rfl) rfl dX11_list_33 ?_
        exact zq_sub (ls' := [(0, .ref 53), (1, .int i1), (3, .int (nI 0))]) [1, 2, 0] rfl H
      · have H := H.2 c4
        refine zq_bipush (v := (-14)) rfl dX11_list_22 ?_
        exact zq_iret dX11_list_24 rfl rfl rfl H
    · have H := H.2 c3
      refine zq_bipush (v := (-2)) rfl dX11_list_15 ?_
      exact zq_iret dX11_list_17 rfl rfl rfl H
  · have H := H.2 c2
    refine zq_iconst (v := (-1)) rfl dX11_list_7 ?_
    exact zq_iret dX11_list_8 rfl rfl rfl H
set_option maxHeartbeats 2000000 in
set_option maxRecDepth 20000 in
theorem r_X11_list_34 {d : Nat} {h : AH} {Q : Option Value → AH → Prop} (i1 : Int32) (i3 : Int32) (hw : zWF h)  (H : ((nI 60) ≤ i3 → Q (some (.int (nI 1))) h) ∧ (¬ (nI 60) ≤ i3 → vp_in (((nI 60) * i1) + i3) 360 ∧ (∀ h3, h3 = h.sL 70 (((nI 60) * i1) + i3).toNatClampNeg (0 : Int64) → zQ none m_X11_list (d + 1) 34 [(0, .ref 53), (1, .int i1), (3, .int (i3 + (nI 1)))] [] h3 Q))) : zQ none m_X11_list (d + 1) 34 [(0, .ref 53), (1, .int i1), (3, .int i3)] [] h Q := by
  refine zq_iload_n (k := 3) (i := 3) (x := i3) 2 rfl rfl dX11_list_34 ?_
  refine zq_bipush (v := (nI 60)) rfl dX11_list_35 ?_
  refine zq_icmp_ge (tgt := 58) dX11_list_37 rfl ⟨fun c1 => ?_, fun c1 => ?_⟩
  · have H := H.1 c1
    refine zq_iconst (v := (nI 1)) rfl dX11_list_58 ?_
    exact zq_iret dX11_list_59 rfl rfl rfl H
  · have H := H.2 c1
    refine zq_aload_n (k := 0) (i := 0) (x := 53) 0 rfl rfl dX11_list_40 ?_
    refine zq_getP fl_RX11_61 rfl (sh_53 hw) (rf_53_27 hw) dX11_list_41 ?_
    refine zq_bipush (v := (nI 60)) rfl dX11_list_44 ?_
    refine zq_iload_n (k := 1) (i := 1) (x := i1) 1 rfl rfl dX11_list_46 ?_
    refine zq_imul dX11_list_47 ?_
    refine zq_iload_n (k := 3) (i := 3) (x := i3) 2 rfl rfl dX11_list_48 ?_
    refine zq_iadd dX11_list_49 ?_
    refine zq_lconst (v := 0) rfl dX11_list_50 ?_
    obtain ⟨b2, H⟩ := H
    refine zq_last (sh_70 hw) b2 dX11_list_51 (fun h3 eh3 => ?_)
    have H := H h3 eh3
    have wh3 := wf_L eh3 hw
    refine zq_iinc (i := 3) (x := i3) (v := (nI 1)) (ls' := [(3, .int (i3 + (nI 1))), (0, .ref 53), (1, .int i1)]) 2 rfl rfl (Nat.le_of_ble_eq_true rfl) rfl dX11_list_52 ?_
    refine zq_goto (tgt := 34) dX11_list_55 rfl ?_
    exact zq_sub (ls' := [(0, .ref 53), (1, .int i1), (3, .int (i3 + (nI 1)))]) [1, 2, 0] rfl H
set_option maxHeartbeats 2000000 in
set_option maxRecDepth 20000 in
theorem r_X11_set_0 {d : Nat} {h : AH} {Q : Option Value → AH → Prop} (i1 : Int32) (i2 : Int32) (l3 : Int64) (hw : zWF h)  (H : zK d m_X11_wrong [.ref 53, .int i1] h (pI h fun x1 => (x1 = 0 → vp_in i1 6 ∧ (zK d m_X11_isIn [.int i2, .int (nI 0), .int ((h.I 69 i1.toNatClampNeg) - (nI 1))] h (pI h fun x4 => (x4 ≠ 0 → zK d m_X11_isWide [.int i1] h (pI h fun x6 => (x6 = 0 → vp_in (((nI 60) * i1) + i2) 360 ∧ (∀ h9, h9 = h.sL 70 (((nI 60) * i1) + i2).toNatClampNeg l3.toInt32.toInt64 → Q (some (.int (nI 1))) h9)) ∧ (¬ x6 = 0 → vp_in (((nI 60) * i1) + i2) 360 ∧ (∀ h11, h11 = h.sL 70 (((nI 60) * i1) + i2).toNatClampNeg l3 → Q (some (.int (nI 1))) h11)))) ∧ (x4 = 0 → Q (some (.int (-13))) h)))) ∧ (¬ x1 = 0 → Q (some (.int x1)) h))) : zK (d + 1) m_X11_set [.ref 53, .int i1, .int i2, .long l3] h Q := by
  refine zK_of mo_X11_set (Nat.le_of_ble_eq_true rfl) ?_
  show zQ none m_X11_set (d + 1) 0 [(0, .ref 53), (1, .int i1), (2, .int i2), (3, .long l3)] [] h Q
  refine zq_aload_n (k := 0) (i := 0) (x := 53) 0 rfl rfl dX11_set_0 ?_
  refine zq_iload_n (k := 1) (i := 1) (x := i1) 1 rfl rfl dX11_set_1 ?_
  refine zq_invV (as := [.int i1]) (st := []) (o := 53) (c := 10) (by decide) rfl (sh_53 hw) in_X11_wrong se_X11_wrong mo_X11_wrong ml_RX11_287 rfl (Nat.le_of_ble_eq_true rfl) dX11_set_2 rfl H (fun r1 h1 hq => ?_)
  obtain ⟨x1, rfl, rfl, H⟩ := hq
  show zQ none m_X11_set (d + 1) 5 [(0, .ref 53), (1, .int i1), (2, .int i2), (3, .long l3)] (.int x1 :: []) h Q
  refine zq_istore (ls' := [(5, .int x1), (0, .ref 53), (1, .int i1), (2, .int i2), (3, .long l3)]) (i := 5) (Nat.le_of_ble_eq_true rfl) rfl dX11_set_5 ?_
  refine zq_iload (i := 5) (x := x1) 0 rfl dX11_set_7 ?_
  refine zq_if_eq (tgt := 15) dX11_set_9 rfl ⟨fun c2 => ?_, fun c2 => ?_⟩
  · have H := H.1 c2
    refine zq_iload_n (k := 2) (i := 2) (x := i2) 3 rfl rfl dX11_set_15 ?_
    refine zq_iconst (v := (nI 0)) rfl dX11_set_16 ?_
    refine zq_aload_n (k := 0) (i := 0) (x := 53) 1 rfl rfl dX11_set_17 ?_
    refine zq_getP fl_RX11_58 rfl (sh_53 hw) (rf_53_26 hw) dX11_set_18 ?_
    refine zq_iload_n (k := 1) (i := 1) (x := i1) 2 rfl rfl dX11_set_21 ?_
    obtain ⟨b3, H⟩ := H
    refine zq_iald (sh_69 hw) b3 dX11_set_22 ?_
    refine zq_iconst (v := (nI 1)) rfl dX11_set_23 ?_
    refine zq_isub dX11_set_24 ?_
    refine zq_invS (as := [.int i2, .int (nI 0), .int ((h.I 69 i1.toNatClampNeg) - (nI 1))]) (st := []) st_X11_isIn mo_X11_isIn ml_RX11_64 rfl (Nat.le_of_ble_eq_true rfl) dX11_set_25 rfl H (fun r1 h1 hq => ?_)
    obtain ⟨x4, rfl, rfl, H⟩ := hq
    show zQ none m_X11_set (d + 1) 28 [(5, .int x1), (0, .ref 53), (1, .int i1), (2, .int i2), (3, .long l3)] (.int x4 :: []) h Q
    refine zq_if_ne (tgt := 34) dX11_set_28 rfl ⟨fun c5 => ?_, fun c5 => ?_⟩
    · have H := H.1 c5
      refine zq_aload_n (k := 0) (i := 0) (x := 53) 1 rfl rfl dX11_set_34 ?_
      refine zq_getP fl_RX11_61 rfl (sh_53 hw) (rf_53_27 hw) dX11_set_35 ?_
      refine zq_bipush (v := (nI 60)) rfl dX11_set_38 ?_
      refine zq_iload_n (k := 1) (i := 1) (x := i1) 2 rfl rfl dX11_set_40 ?_
      refine zq_imul dX11_set_41 ?_
      refine zq_iload_n (k := 2) (i := 2) (x := i2) 3 rfl rfl dX11_set_42 ?_
      refine zq_iadd dX11_set_43 ?_
      refine zq_iload_n (k := 1) (i := 1) (x := i1) 2 rfl rfl dX11_set_44 ?_
      refine zq_invS (as := [.int i1]) (st := .int (((nI 60) * i1) + i2) :: .ref 70 :: []) st_X11_isWide mo_X11_isWide ml_RX11_290 rfl (Nat.le_of_ble_eq_true rfl) dX11_set_45 rfl H (fun r1 h1 hq => ?_)
      obtain ⟨x6, rfl, rfl, H⟩ := hq
      show zQ none m_X11_set (d + 1) 48 [(5, .int x1), (0, .ref 53), (1, .int i1), (2, .int i2), (3, .long l3)] (.int x6 :: .int (((nI 60) * i1) + i2) :: .ref 70 :: []) h Q
      refine zq_if_eq (tgt := 55) dX11_set_48 rfl ⟨fun c7 => ?_, fun c7 => ?_⟩
      · have H := H.1 c7
        refine zq_lload_n (k := 3) (i := 3) (x := l3) 4 rfl rfl dX11_set_55 ?_
        refine zq_l2i dX11_set_56 ?_
        refine zq_i2l dX11_set_57 ?_
        obtain ⟨b8, H⟩ := H
        refine zq_last (sh_70 hw) b8 dX11_set_58 (fun h9 eh9 => ?_)
        have H := H h9 eh9
        have wh9 := wf_L eh9 hw
        refine zq_iconst (v := (nI 1)) rfl dX11_set_59 ?_
        exact zq_iret dX11_set_60 rfl rfl rfl H
      · have H := H.2 c7
        refine zq_lload_n (k := 3) (i := 3) (x := l3) 4 rfl rfl dX11_set_51 ?_
        refine zq_goto (tgt := 58) dX11_set_52 rfl ?_
        obtain ⟨b10, H⟩ := H
        refine zq_last (sh_70 hw) b10 dX11_set_58 (fun h11 eh11 => ?_)
        have H := H h11 eh11
        have wh11 := wf_L eh11 hw
        refine zq_iconst (v := (nI 1)) rfl dX11_set_59 ?_
        exact zq_iret dX11_set_60 rfl rfl rfl H
    · have H := H.2 c5
      refine zq_bipush (v := (-13)) rfl dX11_set_31 ?_
      exact zq_iret dX11_set_33 rfl rfl rfl H
  · have H := H.2 c2
    refine zq_iload (i := 5) (x := x1) 0 rfl dX11_set_12 ?_
    exact zq_iret dX11_set_14 rfl rfl rfl H
set_option maxHeartbeats 2000000 in
set_option maxRecDepth 20000 in
theorem r_X11_get_0 {d : Nat} {h : AH} {Q : Option Value → AH → Prop} (i1 : Int32) (i2 : Int32) (hw : zWF h)  (H : zK d m_X11_wrong [.ref 53, .int i1] h (pI h fun x1 => (x1 ≠ 0 → Q (some (.long (-9223372036854775808 : Int64))) h) ∧ (x1 = 0 → vp_in i1 6 ∧ (zK d m_X11_isIn [.int i2, .int (nI 0), .int ((h.I 69 i1.toNatClampNeg) - (nI 1))] h (pI h fun x4 => (x4 ≠ 0 → vp_in (((nI 60) * i1) + i2) 360 ∧ (Q (some (.long (h.L 70 (((nI 60) * i1) + i2).toNatClampNeg))) h)) ∧ (x4 = 0 → Q (some (.long (-9223372036854775808 : Int64))) h)))))) : zK (d + 1) m_X11_get [.ref 53, .int i1, .int i2] h Q := by
  refine zK_of mo_X11_get (Nat.le_of_ble_eq_true rfl) ?_
  show zQ none m_X11_get (d + 1) 0 [(0, .ref 53), (1, .int i1), (2, .int i2)] [] h Q
  refine zq_aload_n (k := 0) (i := 0) (x := 53) 0 rfl rfl dX11_get_0 ?_
  refine zq_iload_n (k := 1) (i := 1) (x := i1) 1 rfl rfl dX11_get_1 ?_
  refine zq_invV (as := [.int i1]) (st := []) (o := 53) (c := 10) (by decide) rfl (sh_53 hw) in_X11_wrong se_X11_wrong mo_X11_wrong ml_RX11_287 rfl (Nat.le_of_ble_eq_true rfl) dX11_get_2 rfl H (fun r1 h1 hq => ?_)
  obtain ⟨x1, rfl, rfl, H⟩ := hq
  show zQ none m_X11_get (d + 1) 5 [(0, .ref 53), (1, .int i1), (2, .int i2)] (.int x1 :: []) h Q
  refine zq_if_ne (tgt := 24) dX11_get_5 rfl ⟨fun c2 => ?_, fun c2 => ?_⟩
  · have H := H.1 c2
    refine zq_ldc2 (v := (-9223372036854775808)) cl_RX11_130 dX11_get_24 ?_
    refine zq_goto (tgt := 41) dX11_get_27 rfl ?_
    exact zq_lret dX11_get_41 rfl H
  · have H := H.2 c2
    refine zq_iload_n (k := 2) (i := 2) (x := i2) 2 rfl rfl dX11_get_8 ?_
    refine zq_iconst (v := (nI 0)) rfl dX11_get_9 ?_
    refine zq_aload_n (k := 0) (i := 0) (x := 53) 0 rfl rfl dX11_get_10 ?_
    refine zq_getP fl_RX11_58 rfl (sh_53 hw) (rf_53_26 hw) dX11_get_11 ?_
    refine zq_iload_n (k := 1) (i := 1) (x := i1) 1 rfl rfl dX11_get_14 ?_
    obtain ⟨b3, H⟩ := H
    refine zq_iald (sh_69 hw) b3 dX11_get_15 ?_
    refine zq_iconst (v := (nI 1)) rfl dX11_get_16 ?_
    refine zq_isub dX11_get_17 ?_
    refine zq_invS (as := [.int i2, .int (nI 0), .int ((h.I 69 i1.toNatClampNeg) - (nI 1))]) (st := []) st_X11_isIn mo_X11_isIn ml_RX11_64 rfl (Nat.le_of_ble_eq_true rfl) dX11_get_18 rfl H (fun r1 h1 hq => ?_)
    obtain ⟨x4, rfl, rfl, H⟩ := hq
    show zQ none m_X11_get (d + 1) 21 [(0, .ref 53), (1, .int i1), (2, .int i2)] (.int x4 :: []) h Q
    refine zq_if_ne (tgt := 30) dX11_get_21 rfl ⟨fun c5 => ?_, fun c5 => ?_⟩
    · have H := H.1 c5
      refine zq_aload_n (k := 0) (i := 0) (x := 53) 0 rfl rfl dX11_get_30 ?_
      refine zq_getP fl_RX11_61 rfl (sh_53 hw) (rf_53_27 hw) dX11_get_31 ?_
      refine zq_bipush (v := (nI 60)) rfl dX11_get_34 ?_
      refine zq_iload_n (k := 1) (i := 1) (x := i1) 1 rfl rfl dX11_get_36 ?_
      refine zq_imul dX11_get_37 ?_
      refine zq_iload_n (k := 2) (i := 2) (x := i2) 2 rfl rfl dX11_get_38 ?_
      refine zq_iadd dX11_get_39 ?_
      obtain ⟨b6, H⟩ := H
      refine zq_lald (sh_70 hw) b6 dX11_get_40 ?_
      exact zq_lret dX11_get_41 rfl H
    · have H := H.2 c5
      refine zq_ldc2 (v := (-9223372036854775808)) cl_RX11_130 dX11_get_24 ?_
      refine zq_goto (tgt := 41) dX11_get_27 rfl ?_
      exact zq_lret dX11_get_41 rfl H
set_option maxHeartbeats 2000000 in
set_option maxRecDepth 20000 in
theorem r_X11_move_0 {d : Nat} {h : AH} {Q : Option Value → AH → Prop} (i1 : Int32) (i2 : Int32) (i3 : Int32) (i4 : Int32) (i5 : Int32) (hw : zWF h)  (H : zK d m_X11_isList [.int i1] h (pI h fun x1 => (x1 = 0 → Q (some (.int (-1))) h) ∧ (¬ x1 = 0 → zK d m_X11_isList [.int i3] h (pI h fun x3 => (x3 ≠ 0 → vp_in i1 6 ∧ (((h.I 69 i1.toNatClampNeg) < 0 → Q (some (.int (-11))) h) ∧ (¬ (h.I 69 i1.toNatClampNeg) < 0 → vp_in i3 6 ∧ ((0 ≤ (h.I 69 i3.toNatClampNeg) → zK d m_X11_isWide [.int i1] h (pI h fun x9 => zK d m_X11_isWide [.int i3] h (pI h fun x10 => (x9 = x10 → (i5 < 0 → Q (some (.int (-13))) h) ∧ (¬ i5 < 0 → (i2 < 0 → Q (some (.int (-13))) h) ∧ (¬ i2 < 0 → (i4 < 0 → Q (some (.int (-13))) h) ∧ (¬ i4 < 0 → vp_in i1 6 ∧ ((((h.I 69 i1.toNatClampNeg) - i2) < i5 → Q (some (.int (-13))) h) ∧ (¬ ((h.I 69 i1.toNatClampNeg) - i2) < i5 → vp_in i3 6 ∧ ((i5 ≤ ((h.I 69 i3.toNatClampNeg) - i4) → zQ none m_X11_move (d + 1) 98 [(0, .ref 53), (1, .int i1), (2, .int i2), (3, .int i3), (4, .int i4), (5, .int i5), (6, .int (nI 0))] [] h Q) ∧ (¬ i5 ≤ ((h.I 69 i3.toNatClampNeg) - i4) → Q (some (.int (-13))) h)))))))) ∧ (¬ x9 = x10 → Q (some (.int (-12))) h)))) ∧ (¬ 0 ≤ (h.I 69 i3.toNatClampNeg) → Q (some (.int (-11))) h))))) ∧ (x3 = 0 → Q (some (.int (-1))) h))))) : zK (d + 1) m_X11_move [.ref 53, .int i1, .int i2, .int i3, .int i4, .int i5] h Q := by
  refine zK_of mo_X11_move (Nat.le_of_ble_eq_true rfl) ?_
  show zQ none m_X11_move (d + 1) 0 [(0, .ref 53), (1, .int i1), (2, .int i2), (3, .int i3), (4, .int i4), (5, .int i5)] [] h Q
  refine zq_iload_n (k := 1) (i := 1) (x := i1) 1 rfl rfl dX11_move_0 ?_
  refine zq_invS (as := [.int i1]) (st := []) st_X11_isList mo_X11_isList ml_RX11_284 rfl (Nat.le_of_ble_eq_true rfl) dX11_move_1 rfl H (fun r1 h1 hq => ?_)
  obtain ⟨x1, rfl, rfl, H⟩ := hq
  show zQ none m_X11_move (d + 1) 4 [(0, .ref 53), (1, .int i1), (2, .int i2), (3, .int i3), (4, .int i4), (5, .int i5)] (.int x1 :: []) h Q
  refine zq_if_eq (tgt := 14) dX11_move_4 rfl ⟨fun c2 => ?_, fun c2 => ?_⟩
  · have H := H.1 c2
    refine zq_iconst (v := (-1)) rfl dX11_move_14 ?_
    exact zq_iret dX11_move_15 rfl rfl rfl H
  · have H := H.2 c2
    refine zq_iload_n (k := 3) (i := 3) (x := i3) 3 rfl rfl dX11_move_7 ?_
    refine zq_invS (as := [.int i3]) (st := []) st_X11_isList mo_X11_isList ml_RX11_284 rfl (Nat.le_of_ble_eq_true rfl) dX11_move_8 rfl H (fun r1 h1 hq => ?_)
    obtain ⟨x3, rfl, rfl, H⟩ := hq
    show zQ none m_X11_move (d + 1) 11 [(0, .ref 53), (1, .int i1), (2, .int i2), (3, .int i3), (4, .int i4), (5, .int i5)] (.int x3 :: []) h Q
    refine zq_if_ne (tgt := 16) dX11_move_11 rfl ⟨fun c4 => ?_, fun c4 => ?_⟩
    · have H := H.1 c4
      refine zq_aload_n (k := 0) (i := 0) (x := 53) 0 rfl rfl dX11_move_16 ?_
      refine zq_getP fl_RX11_58 rfl (sh_53 hw) (rf_53_26 hw) dX11_move_17 ?_
      refine zq_iload_n (k := 1) (i := 1) (x := i1) 1 rfl rfl dX11_move_20 ?_
      obtain ⟨b5, H⟩ := H
      refine zq_iald (sh_69 hw) b5 dX11_move_21 ?_
      refine zq_if_lt (tgt := 34) dX11_move_22 rfl ⟨fun c6 => ?_, fun c6 => ?_⟩
      · have H := H.1 c6
        refine zq_bipush (v := (-11)) rfl dX11_move_34 ?_
        exact zq_iret dX11_move_36 rfl rfl rfl H
      · have H := H.2 c6
        refine zq_aload_n (k := 0) (i := 0) (x := 53) 0 rfl rfl dX11_move_25 ?_
        refine zq_getP fl_RX11_58 rfl (sh_53 hw) (rf_53_26 hw) dX11_move_26 ?_
        refine zq_iload_n (k := 3) (i := 3) (x := i3) 3 rfl rfl dX11_move_29 ?_
        obtain ⟨b7, H⟩ := H
        refine zq_iald (sh_69 hw) b7 dX11_move_30 ?_
        refine zq_if_ge (tgt := 37) dX11_move_31 rfl ⟨fun c8 => ?_, fun c8 => ?_⟩
        · have H := H.1 c8
          refine zq_iload_n (k := 1) (i := 1) (x := i1) 1 rfl rfl dX11_move_37 ?_
          refine zq_invS (as := [.int i1]) (st := []) st_X11_isWide mo_X11_isWide ml_RX11_290 rfl (Nat.le_of_ble_eq_true rfl) dX11_move_38 rfl H (fun r1 h1 hq => ?_)
          obtain ⟨x9, rfl, rfl, H⟩ := hq
          show zQ none m_X11_move (d + 1) 41 [(0, .ref 53), (1, .int i1), (2, .int i2), (3, .int i3), (4, .int i4), (5, .int i5)] (.int x9 :: []) h Q
          refine zq_iload_n (k := 3) (i := 3) (x := i3) 3 rfl rfl dX11_move_41 ?_
          refine zq_invS (as := [.int i3]) (st := .int x9 :: []) st_X11_isWide mo_X11_isWide ml_RX11_290 rfl (Nat.le_of_ble_eq_true rfl) dX11_move_42 rfl H (fun r1 h1 hq => ?_)
          obtain ⟨x10, rfl, rfl, H⟩ := hq
          show zQ none m_X11_move (d + 1) 45 [(0, .ref 53), (1, .int i1), (2, .int i2), (3, .int i3), (4, .int i4), (5, .int i5)] (.int x10 :: .int x9 :: []) h Q
          refine zq_icmp_eq (tgt := 51) dX11_move_45 rfl ⟨fun c11 => ?_, fun c11 => ?_⟩
          · have H := H.1 c11
            refine zq_iload (i := 5) (x := i5) 5 rfl dX11_move_51 ?_
            refine zq_if_lt (tgt := 92) dX11_move_53 rfl ⟨fun c12 => ?_, fun c12 => ?_⟩
            · have H := H.1 c12
              refine zq_bipush (v := (-13)) rfl dX11_move_92 ?_
              exact zq_iret dX11_move_94 rfl rfl rfl H
            · have H := H.2 c12
              refine zq_iload_n (k := 2) (i := 2) (x := i2) 2 rfl rfl dX11_move_56 ?_
              refine zq_if_lt (tgt := 92) dX11_move_57 rfl ⟨fun c13 => ?_, fun c13 => ?_⟩
              · have H := H.1 c13
                refine zq_bipush (v := (-13)) rfl dX11_move_92 ?_
                exact zq_iret dX11_move_94 rfl rfl rfl H
              · have H := H.2 c13
                refine zq_iload (i := 4) (x := i4) 4 rfl dX11_move_60 ?_
                refine zq_if_lt (tgt := 92) dX11_move_62 rfl ⟨fun c14 => ?_, fun c14 => ?_⟩
                · have H := H.1 c14
                  refine zq_bipush (v := (-13)) rfl dX11_move_92 ?_
                  exact zq_iret dX11_move_94 rfl rfl rfl H
                · have H := H.2 c14
                  refine zq_iload (i := 5) (x := i5) 5 rfl dX11_move_65 ?_
                  refine zq_aload_n (k := 0) (i := 0) (x := 53) 0 rfl rfl dX11_move_67 ?_
                  refine zq_getP fl_RX11_58 rfl (sh_53 hw) (rf_53_26 hw) dX11_move_68 ?_
                  refine zq_iload_n (k := 1) (i := 1) (x := i1) 1 rfl rfl dX11_move_71 ?_
                  obtain ⟨b15, H⟩ := H
                  refine zq_iald (sh_69 hw) b15 dX11_move_72 ?_
                  refine zq_iload_n (k := 2) (i := 2) (x := i2) 2 rfl rfl dX11_move_73 ?_
                  refine zq_isub dX11_move_74 ?_
                  refine zq_icmp_gt (tgt := 92) dX11_move_75 rfl ⟨fun c16 => ?_, fun c16 => ?_⟩
                  · have H := H.1 c16
                    refine zq_bipush (v := (-13)) rfl dX11_move_92 ?_
                    exact zq_iret dX11_move_94 rfl rfl rfl H
                  · have H := H.2 c16
                    refine zq_iload (i := 5) (x := i5) 5 rfl dX11_move_78 ?_
                    refine zq_aload_n (k := 0) (i := 0) (x := 53) 0 rfl rfl dX11_move_80 ?_
                    refine zq_getP fl_RX11_58 rfl (sh_53 hw) (rf_53_26 hw) dX11_move_81 ?_
                    refine zq_iload_n (k := 3) (i := 3) (x := i3) 3 rfl rfl dX11_move_84 ?_
                    obtain ⟨b17, H⟩ := H
                    refine zq_iald (sh_69 hw) b17 dX11_move_85 ?_
                    refine zq_iload (i := 4) (x := i4) 4 rfl dX11_move_86 ?_
                    refine zq_isub dX11_move_88 ?_
                    refine zq_icmp_le (tgt := 95) dX11_move_89 rfl ⟨fun c18 => ?_, fun c18 => ?_⟩
                    · have H := H.1 c18
                      refine zq_iconst (v := (nI 0)) rfl dX11_move_95 ?_
                      refine zq_istore (ls' := [(6, .int (nI 0)), (0, .ref 53), (1, .int i1), (2, .int i2), (3, .int i3), (4, .int i4), (5, .int i5)]) (i := 6) (Nat.le_of_ble_eq_true rfl) rfl dX11_move_96 ?_
                      exact zq_sub (ls' := [(0, .ref 53), (1, .int i1), (2, .int i2), (3, .int i3), (4, .int i4), (5, .int i5), (6, .int (nI 0))]) [1, 2, 3, 4, 5, 6, 0] rfl H
                    · have H := H.2 c18
                      refine zq_bipush (v := (-13)) rfl dX11_move_92 ?_
                      exact zq_iret dX11_move_94 rfl rfl rfl H
          · have H := H.2 c11
            refine zq_bipush (v := (-12)) rfl dX11_move_48 ?_
            exact zq_iret dX11_move_50 rfl rfl rfl H
        · have H := H.2 c8
          refine zq_bipush (v := (-11)) rfl dX11_move_34 ?_
          exact zq_iret dX11_move_36 rfl rfl rfl H
    · have H := H.2 c4
      refine zq_iconst (v := (-1)) rfl dX11_move_14 ?_
      exact zq_iret dX11_move_15 rfl rfl rfl H
set_option maxHeartbeats 2000000 in
set_option maxRecDepth 20000 in
theorem r_X11_move_98 {d : Nat} {h : AH} {Q : Option Value → AH → Prop} (i1 : Int32) (i2 : Int32) (i3 : Int32) (i4 : Int32) (i5 : Int32) (i6 : Int32) (hw : zWF h)  (H : (i5 ≤ i6 → Q (some (.int i5)) h) ∧ (¬ i5 ≤ i6 → (i2 ≤ i4 → vp_in ((((nI 60) * i1) + i2) + ((i5 - (nI 1)) - i6)) 360 ∧ (vp_in ((((nI 60) * i3) + i4) + ((i5 - (nI 1)) - i6)) 360 ∧ (∀ h5, h5 = h.sL 70 ((((nI 60) * i3) + i4) + ((i5 - (nI 1)) - i6)).toNatClampNeg (h.L 70 ((((nI 60) * i1) + i2) + ((i5 - (nI 1)) - i6)).toNatClampNeg) → zQ none m_X11_move (d + 1) 98 [(0, .ref 53), (1, .int i1), (2, .int i2), (3, .int i3), (4, .int i4), (5, .int i5), (6, .int (i6 + (nI 1)))] [] h5 Q))) ∧ (¬ i2 ≤ i4 → vp_in ((((nI 60) * i1) + i2) + i6) 360 ∧ (vp_in ((((nI 60) * i3) + i4) + i6) 360 ∧ (∀ h8, h8 = h.sL 70 ((((nI 60) * i3) + i4) + i6).toNatClampNeg (h.L 70 ((((nI 60) * i1) + i2) + i6).toNatClampNeg) → zQ none m_X11_move (d + 1) 98 [(0, .ref 53), (1, .int i1), (2, .int i2), (3, .int i3), (4, .int i4), (5, .int i5), (6, .int (i6 + (nI 1)))] [] h8 Q))))) : zQ none m_X11_move (d + 1) 98 [(0, .ref 53), (1, .int i1), (2, .int i2), (3, .int i3), (4, .int i4), (5, .int i5), (6, .int i6)] [] h Q := by
  refine zq_iload (i := 6) (x := i6) 6 rfl dX11_move_98 ?_
  refine zq_iload (i := 5) (x := i5) 5 rfl dX11_move_100 ?_
  refine zq_icmp_ge (tgt := 160) dX11_move_102 rfl ⟨fun c1 => ?_, fun c1 => ?_⟩
  · have H := H.1 c1
    refine zq_iload (i := 5) (x := i5) 5 rfl dX11_move_160 ?_
    exact zq_iret dX11_move_162 rfl rfl rfl H
  · have H := H.2 c1
    refine zq_iload_n (k := 2) (i := 2) (x := i2) 2 rfl rfl dX11_move_105 ?_
    refine zq_iload (i := 4) (x := i4) 4 rfl dX11_move_106 ?_
    refine zq_icmp_le (tgt := 116) dX11_move_108 rfl ⟨fun c2 => ?_, fun c2 => ?_⟩
    · have H := H.1 c2
      refine zq_iload (i := 5) (x := i5) 5 rfl dX11_move_116 ?_
      refine zq_iconst (v := (nI 1)) rfl dX11_move_118 ?_
      refine zq_isub dX11_move_119 ?_
      refine zq_iload (i := 6) (x := i6) 6 rfl dX11_move_120 ?_
      refine zq_isub dX11_move_122 ?_
      refine zq_istore (ls' := [(7, .int ((i5 - (nI 1)) - i6)), (0, .ref 53), (1, .int i1), (2, .int i2), (3, .int i3), (4, .int i4), (5, .int i5), (6, .int i6)]) (i := 7) (Nat.le_of_ble_eq_true rfl) rfl dX11_move_123 ?_
      refine zq_aload_n (k := 0) (i := 0) (x := 53) 1 rfl rfl dX11_move_125 ?_
      refine zq_getP fl_RX11_61 rfl (sh_53 hw) (rf_53_27 hw) dX11_move_126 ?_
      refine zq_bipush (v := (nI 60)) rfl dX11_move_129 ?_
      refine zq_iload_n (k := 3) (i := 3) (x := i3) 4 rfl rfl dX11_move_131 ?_
      refine zq_imul dX11_move_132 ?_
      refine zq_iload (i := 4) (x := i4) 5 rfl dX11_move_133 ?_
      refine zq_iadd dX11_move_135 ?_
      refine zq_iload (i := 7) (x := ((i5 - (nI 1)) - i6)) 0 rfl dX11_move_136 ?_
      refine zq_iadd dX11_move_138 ?_
      refine zq_aload_n (k := 0) (i := 0) (x := 53) 1 rfl rfl dX11_move_139 ?_
      refine zq_getP fl_RX11_61 rfl (sh_53 hw) (rf_53_27 hw) dX11_move_140 ?_
      refine zq_bipush (v := (nI 60)) rfl dX11_move_143 ?_
      refine zq_iload_n (k := 1) (i := 1) (x := i1) 2 rfl rfl dX11_move_145 ?_
      refine zq_imul dX11_move_146 ?_
      refine zq_iload_n (k := 2) (i := 2) (x := i2) 3 rfl rfl dX11_move_147 ?_
      refine zq_iadd dX11_move_148 ?_
      refine zq_iload (i := 7) (x := ((i5 - (nI 1)) - i6)) 0 rfl dX11_move_149 ?_
      refine zq_iadd dX11_move_151 ?_
      obtain ⟨b3, H⟩ := H
      refine zq_lald (sh_70 hw) b3 dX11_move_152 ?_
      obtain ⟨b4, H⟩ := H
      refine zq_last (sh_70 hw) b4 dX11_move_153 (fun h5 eh5 => ?_)
      have H := H h5 eh5
      have wh5 := wf_L eh5 hw
      refine zq_iinc (i := 6) (x := i6) (v := (nI 1)) (ls' := [(6, .int (i6 + (nI 1))), (7, .int ((i5 - (nI 1)) - i6)), (0, .ref 53), (1, .int i1), (2, .int i2), (3, .int i3), (4, .int i4), (5, .int i5)]) 7 rfl rfl (Nat.le_of_ble_eq_true rfl) rfl dX11_move_154 ?_
      refine zq_goto (tgt := 98) dX11_move_157 rfl ?_
      exact zq_sub (ls' := [(0, .ref 53), (1, .int i1), (2, .int i2), (3, .int i3), (4, .int i4), (5, .int i5), (6, .int (i6 + (nI 1)))]) [2, 3, 4, 5, 6, 7, 0] rfl H
    · have H := H.2 c2
      refine zq_iload (i := 6) (x := i6) 6 rfl dX11_move_111 ?_
      refine zq_goto (tgt := 123) dX11_move_113 rfl ?_
      refine zq_istore (ls' := [(7, .int i6), (0, .ref 53), (1, .int i1), (2, .int i2), (3, .int i3), (4, .int i4), (5, .int i5), (6, .int i6)]) (i := 7) (Nat.le_of_ble_eq_true rfl) rfl dX11_move_123 ?_
      refine zq_aload_n (k := 0) (i := 0) (x := 53) 1 rfl rfl dX11_move_125 ?_
      refine zq_getP fl_RX11_61 rfl (sh_53 hw) (rf_53_27 hw) dX11_move_126 ?_
      refine zq_bipush (v := (nI 60)) rfl dX11_move_129 ?_
      refine zq_iload_n (k := 3) (i := 3) (x := i3) 4 rfl rfl dX11_move_131 ?_
      refine zq_imul dX11_move_132 ?_
      refine zq_iload (i := 4) (x := i4) 5 rfl dX11_move_133 ?_
      refine zq_iadd dX11_move_135 ?_
      refine zq_iload (i := 7) (x := i6) 0 rfl dX11_move_136 ?_
      refine zq_iadd dX11_move_138 ?_
      refine zq_aload_n (k := 0) (i := 0) (x := 53) 1 rfl rfl dX11_move_139 ?_
      refine zq_getP fl_RX11_61 rfl (sh_53 hw) (rf_53_27 hw) dX11_move_140 ?_
      refine zq_bipush (v := (nI 60)) rfl dX11_move_143 ?_
      refine zq_iload_n (k := 1) (i := 1) (x := i1) 2 rfl rfl dX11_move_145 ?_
      refine zq_imul dX11_move_146 ?_
      refine zq_iload_n (k := 2) (i := 2) (x := i2) 3 rfl rfl dX11_move_147 ?_
      refine zq_iadd dX11_move_148 ?_
      refine zq_iload (i := 7) (x := i6) 0 rfl dX11_move_149 ?_
      refine zq_iadd dX11_move_151 ?_
      obtain ⟨b6, H⟩ := H
      refine zq_lald (sh_70 hw) b6 dX11_move_152 ?_
      obtain ⟨b7, H⟩ := H
      refine zq_last (sh_70 hw) b7 dX11_move_153 (fun h8 eh8 => ?_)
      have H := H h8 eh8
      have wh8 := wf_L eh8 hw
      refine zq_iinc (i := 6) (x := i6) (v := (nI 1)) (ls' := [(6, .int (i6 + (nI 1))), (7, .int i6), (0, .ref 53), (1, .int i1), (2, .int i2), (3, .int i3), (4, .int i4), (5, .int i5)]) 7 rfl rfl (Nat.le_of_ble_eq_true rfl) rfl dX11_move_154 ?_
      refine zq_goto (tgt := 98) dX11_move_157 rfl ?_
      exact zq_sub (ls' := [(0, .ref 53), (1, .int i1), (2, .int i2), (3, .int i3), (4, .int i4), (5, .int i5), (6, .int (i6 + (nI 1)))]) [2, 3, 4, 5, 6, 7, 0] rfl H
set_option maxHeartbeats 2000000 in
set_option maxRecDepth 20000 in
theorem r_X11_figure_0 {d : Nat} {h : AH} {Q : Option Value → AH → Prop} (i1 : Int32) (i2 : Int32) (hw : zWF h)  (H : (i2 ≠ 0 → (i2 ≠ (nI 1) → (i2 ≠ (nI 2) → zK d m_X11_ringsOf [.ref 53, .int i1] h (pI h fun x4 => Q (some (.int x4)) h)) ∧ (i2 = (nI 2) → vp_in i1 40 ∧ (Q (some (.int (h.I 60 i1.toNatClampNeg))) h))) ∧ (i2 = (nI 1) → zK d m_X11_trianglesOf [.ref 53, .int i1] h (pI h fun x6 => Q (some (.int x6)) h))) ∧ (i2 = 0 → zK d m_X11_degree [.ref 53, .int i1] h (pI h fun x7 => Q (some (.int x7)) h))) : zK (d + 1) m_X11_figure [.ref 53, .int i1, .int i2] h Q := by
  refine zK_of mo_X11_figure (Nat.le_of_ble_eq_true rfl) ?_
  show zQ none m_X11_figure (d + 1) 0 [(0, .ref 53), (1, .int i1), (2, .int i2)] [] h Q
  refine zq_iload_n (k := 2) (i := 2) (x := i2) 2 rfl rfl dX11_figure_0 ?_
  refine zq_if_ne (tgt := 12) dX11_figure_1 rfl ⟨fun c1 => ?_, fun c1 => ?_⟩
  · have H := H.1 c1
    refine zq_iload_n (k := 2) (i := 2) (x := i2) 2 rfl rfl dX11_figure_12 ?_
    refine zq_iconst (v := (nI 1)) rfl dX11_figure_13 ?_
    refine zq_icmp_ne (tgt := 25) dX11_figure_14 rfl ⟨fun c2 => ?_, fun c2 => ?_⟩
    · have H := H.1 c2
      refine zq_iload_n (k := 2) (i := 2) (x := i2) 2 rfl rfl dX11_figure_25 ?_
      refine zq_iconst (v := (nI 2)) rfl dX11_figure_26 ?_
      refine zq_icmp_ne (tgt := 39) dX11_figure_27 rfl ⟨fun c3 => ?_, fun c3 => ?_⟩
      · have H := H.1 c3
        refine zq_aload_n (k := 0) (i := 0) (x := 53) 0 rfl rfl dX11_figure_39 ?_
        refine zq_iload_n (k := 1) (i := 1) (x := i1) 1 rfl rfl dX11_figure_40 ?_
        refine zq_invV (as := [.int i1]) (st := []) (o := 53) (c := 10) (by decide) rfl (sh_53 hw) in_X11_ringsOf se_X11_ringsOf mo_X11_ringsOf ml_RX11_138 rfl (Nat.le_of_ble_eq_true rfl) dX11_figure_41 rfl H (fun r1 h1 hq => ?_)
        obtain ⟨x4, rfl, rfl, H⟩ := hq
        show zQ none m_X11_figure (d + 1) 44 [(0, .ref 53), (1, .int i1), (2, .int i2)] (.int x4 :: []) h Q
        exact zq_iret dX11_figure_44 rfl rfl rfl H
      · have H := H.2 c3
        refine zq_aload_n (k := 0) (i := 0) (x := 53) 0 rfl rfl dX11_figure_30 ?_
        refine zq_getP fl_RX11_31 rfl (sh_53 hw) (rf_53_11 hw) dX11_figure_31 ?_
        refine zq_iload_n (k := 1) (i := 1) (x := i1) 1 rfl rfl dX11_figure_34 ?_
        obtain ⟨b5, H⟩ := H
        refine zq_iald (sh_60 hw) b5 dX11_figure_35 ?_
        refine zq_goto (tgt := 44) dX11_figure_36 rfl ?_
        exact zq_iret dX11_figure_44 rfl rfl rfl H
    · have H := H.2 c2
      refine zq_aload_n (k := 0) (i := 0) (x := 53) 0 rfl rfl dX11_figure_17 ?_
      refine zq_iload_n (k := 1) (i := 1) (x := i1) 1 rfl rfl dX11_figure_18 ?_
      refine zq_invV (as := [.int i1]) (st := []) (o := 53) (c := 10) (by decide) rfl (sh_53 hw) in_X11_trianglesOf se_X11_trianglesOf mo_X11_trianglesOf ml_RX11_132 rfl (Nat.le_of_ble_eq_true rfl) dX11_figure_19 rfl H (fun r1 h1 hq => ?_)
      obtain ⟨x6, rfl, rfl, H⟩ := hq
      show zQ none m_X11_figure (d + 1) 22 [(0, .ref 53), (1, .int i1), (2, .int i2)] (.int x6 :: []) h Q
      refine zq_goto (tgt := 44) dX11_figure_22 rfl ?_
      exact zq_iret dX11_figure_44 rfl rfl rfl H
  · have H := H.2 c1
    refine zq_aload_n (k := 0) (i := 0) (x := 53) 0 rfl rfl dX11_figure_4 ?_
    refine zq_iload_n (k := 1) (i := 1) (x := i1) 1 rfl rfl dX11_figure_5 ?_
    refine zq_invV (as := [.int i1]) (st := []) (o := 53) (c := 10) (by decide) rfl (sh_53 hw) in_X11_degree se_X11_degree mo_X11_degree ml_RX11_84 rfl (Nat.le_of_ble_eq_true rfl) dX11_figure_6 rfl H (fun r1 h1 hq => ?_)
    obtain ⟨x7, rfl, rfl, H⟩ := hq
    show zQ none m_X11_figure (d + 1) 9 [(0, .ref 53), (1, .int i1), (2, .int i2)] (.int x7 :: []) h Q
    refine zq_goto (tgt := 44) dX11_figure_9 rfl ?_
    exact zq_iret dX11_figure_44 rfl rfl rfl H
set_option maxHeartbeats 2000000 in
set_option maxRecDepth 20000 in
theorem r_X11_lay_0 {d : Nat} {h : AH} {Q : Option Value → AH → Prop} (i1 : Int32) (i2 : Int32) (i3 : Int32) (hw : zWF h)  (H : zK d m_X11_isList [.int i1] h (pI h fun x1 => (x1 = 0 → Q (some (.int (-1))) h) ∧ (¬ x1 = 0 → zK d m_X11_isIn [.int i3, .int (nI 0), .int (nI 3)] h (pI h fun x3 => (x3 ≠ 0 → vp_in i1 6 ∧ ((0 ≤ (h.I 69 i1.toNatClampNeg) → zK d m_X11_cores [.ref 53] h (kV fun h7 => zQ none m_X11_lay (d + 1) 37 [(0, .ref 53), (1, .int i1), (2, .int i2), (3, .int i3), (4, .int (nI 0))] [] h7 Q)) ∧ (¬ 0 ≤ (h.I 69 i1.toNatClampNeg) → Q (some (.int (-11))) h))) ∧ (x3 = 0 → Q (some (.int (-1))) h))))) : zK (d + 1) m_X11_lay [.ref 53, .int i1, .int i2, .int i3] h Q := by
  refine zK_of mo_X11_lay (Nat.le_of_ble_eq_true rfl) ?_
  show zQ none m_X11_lay (d + 1) 0 [(0, .ref 53), (1, .int i1), (2, .int i2), (3, .int i3)] [] h Q
  refine zq_iload_n (k := 1) (i := 1) (x := i1) 1 rfl rfl dX11_lay_0 ?_
  refine zq_invS (as := [.int i1]) (st := []) st_X11_isList mo_X11_isList ml_RX11_284 rfl (Nat.le_of_ble_eq_true rfl) dX11_lay_1 rfl H (fun r1 h1 hq => ?_)
  obtain ⟨x1, rfl, rfl, H⟩ := hq
  show zQ none m_X11_lay (d + 1) 4 [(0, .ref 53), (1, .int i1), (2, .int i2), (3, .int i3)] (.int x1 :: []) h Q
  refine zq_if_eq (tgt := 16) dX11_lay_4 rfl ⟨fun c2 => ?_, fun c2 => ?_⟩
  · have H := H.1 c2
    refine zq_iconst (v := (-1)) rfl dX11_lay_16 ?_
    exact zq_iret dX11_lay_17 rfl rfl rfl H
  · have H := H.2 c2
    refine zq_iload_n (k := 3) (i := 3) (x := i3) 3 rfl rfl dX11_lay_7 ?_
    refine zq_iconst (v := (nI 0)) rfl dX11_lay_8 ?_
    refine zq_iconst (v := (nI 3)) rfl dX11_lay_9 ?_
    refine zq_invS (as := [.int i3, .int (nI 0), .int (nI 3)]) (st := []) st_X11_isIn mo_X11_isIn ml_RX11_64 rfl (Nat.le_of_ble_eq_true rfl) dX11_lay_10 rfl H (fun r1 h1 hq => ?_)
    obtain ⟨x3, rfl, rfl, H⟩ := hq
    show zQ none m_X11_lay (d + 1) 13 [(0, .ref 53), (1, .int i1), (2, .int i2), (3, .int i3)] (.int x3 :: []) h Q
    refine zq_if_ne (tgt := 18) dX11_lay_13 rfl ⟨fun c4 => ?_, fun c4 => ?_⟩
    · have H := H.1 c4
      refine zq_aload_n (k := 0) (i := 0) (x := 53) 0 rfl rfl dX11_lay_18 ?_
      refine zq_getP fl_RX11_58 rfl (sh_53 hw) (rf_53_26 hw) dX11_lay_19 ?_
      refine zq_iload_n (k := 1) (i := 1) (x := i1) 1 rfl rfl dX11_lay_22 ?_
      obtain ⟨b5, H⟩ := H
      refine zq_iald (sh_69 hw) b5 dX11_lay_23 ?_
      refine zq_if_ge (tgt := 30) dX11_lay_24 rfl ⟨fun c6 => ?_, fun c6 => ?_⟩
      · have H := H.1 c6
        refine zq_aload_n (k := 0) (i := 0) (x := 53) 0 rfl rfl dX11_lay_30 ?_
        refine zq_invV (as := []) (st := []) (o := 53) (c := 10) (by decide) rfl (sh_53 hw) in_X11_cores se_X11_cores mo_X11_cores ml_RX11_158 rfl (Nat.le_of_ble_eq_true rfl) dX11_lay_31 rfl H (fun r1 h7 hq => ?_)
        obtain ⟨rfl, wh7, H⟩ := hq
        show zQ none m_X11_lay (d + 1) 34 [(0, .ref 53), (1, .int i1), (2, .int i2), (3, .int i3)] ([]) h7 Q
        refine zq_iconst (v := (nI 0)) rfl dX11_lay_34 ?_
        refine zq_istore (ls' := [(4, .int (nI 0)), (0, .ref 53), (1, .int i1), (2, .int i2), (3, .int i3)]) (i := 4) (Nat.le_of_ble_eq_true rfl) rfl dX11_lay_35 ?_
        exact zq_sub (ls' := [(0, .ref 53), (1, .int i1), (2, .int i2), (3, .int i3), (4, .int (nI 0))]) [1, 2, 3, 4, 0] rfl H
      · have H := H.2 c6
        refine zq_bipush (v := (-11)) rfl dX11_lay_27 ?_
        exact zq_iret dX11_lay_29 rfl rfl rfl H
    · have H := H.2 c4
      refine zq_iconst (v := (-1)) rfl dX11_lay_16 ?_
      exact zq_iret dX11_lay_17 rfl rfl rfl H
set_option maxHeartbeats 2000000 in
set_option maxRecDepth 20000 in
theorem r_X11_lay_37 {d : Nat} {h : AH} {Q : Option Value → AH → Prop} (i1 : Int32) (i2 : Int32) (i3 : Int32) (i4 : Int32) (hw : zWF h)  (H : ((nI 40) ≤ i4 → Q (some (.int (nI 40))) h) ∧ (¬ (nI 40) ≤ i4 → (i2 < 0 → Q (some (.int (-13))) h) ∧ (¬ i2 < 0 → vp_in i1 6 ∧ ((i4 < ((h.I 69 i1.toNatClampNeg) - i2) → zK d m_X11_figure [.ref 53, .int i4, .int i3] h (pI h fun x5 => vp_in ((((nI 60) * i1) + i2) + i4) 360 ∧ (∀ h7, h7 = h.sL 70 ((((nI 60) * i1) + i2) + i4).toNatClampNeg x5.toInt64 → zQ none m_X11_lay (d + 1) 37 [(0, .ref 53), (1, .int i1), (2, .int i2), (3, .int i3), (4, .int (i4 + (nI 1)))] [] h7 Q))) ∧ (¬ i4 < ((h.I 69 i1.toNatClampNeg) - i2) → Q (some (.int (-13))) h))))) : zQ none m_X11_lay (d + 1) 37 [(0, .ref 53), (1, .int i1), (2, .int i2), (3, .int i3), (4, .int i4)] [] h Q := by
  refine zq_iload (i := 4) (x := i4) 4 rfl dX11_lay_37 ?_
  refine zq_bipush (v := (nI 40)) rfl dX11_lay_39 ?_
  refine zq_icmp_ge (tgt := 92) dX11_lay_41 rfl ⟨fun c1 => ?_, fun c1 => ?_⟩
  · have H := H.1 c1
    refine zq_bipush (v := (nI 40)) rfl dX11_lay_92 ?_
    exact zq_iret dX11_lay_94 rfl rfl rfl H
  · have H := H.2 c1
    refine zq_iload_n (k := 2) (i := 2) (x := i2) 2 rfl rfl dX11_lay_44 ?_
    refine zq_if_lt (tgt := 61) dX11_lay_45 rfl ⟨fun c2 => ?_, fun c2 => ?_⟩
    · have H := H.1 c2
      refine zq_bipush (v := (-13)) rfl dX11_lay_61 ?_
      exact zq_iret dX11_lay_63 rfl rfl rfl H
    · have H := H.2 c2
      refine zq_iload (i := 4) (x := i4) 4 rfl dX11_lay_48 ?_
      refine zq_aload_n (k := 0) (i := 0) (x := 53) 0 rfl rfl dX11_lay_50 ?_
      refine zq_getP fl_RX11_58 rfl (sh_53 hw) (rf_53_26 hw) dX11_lay_51 ?_
      refine zq_iload_n (k := 1) (i := 1) (x := i1) 1 rfl rfl dX11_lay_54 ?_
      obtain ⟨b3, H⟩ := H
      refine zq_iald (sh_69 hw) b3 dX11_lay_55 ?_
      refine zq_iload_n (k := 2) (i := 2) (x := i2) 2 rfl rfl dX11_lay_56 ?_
      refine zq_isub dX11_lay_57 ?_
      refine zq_icmp_lt (tgt := 64) dX11_lay_58 rfl ⟨fun c4 => ?_, fun c4 => ?_⟩
      · have H := H.1 c4
        refine zq_aload_n (k := 0) (i := 0) (x := 53) 0 rfl rfl dX11_lay_64 ?_
        refine zq_getP fl_RX11_61 rfl (sh_53 hw) (rf_53_27 hw) dX11_lay_65 ?_
        refine zq_bipush (v := (nI 60)) rfl dX11_lay_68 ?_
        refine zq_iload_n (k := 1) (i := 1) (x := i1) 1 rfl rfl dX11_lay_70 ?_
        refine zq_imul dX11_lay_71 ?_
        refine zq_iload_n (k := 2) (i := 2) (x := i2) 2 rfl rfl dX11_lay_72 ?_
        refine zq_iadd dX11_lay_73 ?_
        refine zq_iload (i := 4) (x := i4) 4 rfl dX11_lay_74 ?_
        refine zq_iadd dX11_lay_76 ?_
        refine zq_aload_n (k := 0) (i := 0) (x := 53) 0 rfl rfl dX11_lay_77 ?_
        refine zq_iload (i := 4) (x := i4) 4 rfl dX11_lay_78 ?_
        refine zq_iload_n (k := 3) (i := 3) (x := i3) 3 rfl rfl dX11_lay_80 ?_
        refine zq_invV (as := [.int i4, .int i3]) (st := .int ((((nI 60) * i1) + i2) + i4) :: .ref 70 :: []) (o := 53) (c := 10) (by decide) rfl (sh_53 hw) in_X11_figure se_X11_figure mo_X11_figure ml_RX11_293 rfl (Nat.le_of_ble_eq_true rfl) dX11_lay_81 rfl H (fun r1 h1 hq => ?_)
        obtain ⟨x5, rfl, rfl, H⟩ := hq
        show zQ none m_X11_lay (d + 1) 84 [(0, .ref 53), (1, .int i1), (2, .int i2), (3, .int i3), (4, .int i4)] (.int x5 :: .int ((((nI 60) * i1) + i2) + i4) :: .ref 70 :: []) h Q
        refine zq_i2l dX11_lay_84 ?_
        obtain ⟨b6, H⟩ := H
        refine zq_last (sh_70 hw) b6 dX11_lay_85 (fun h7 eh7 => ?_)
        have H := H h7 eh7
        have wh7 := wf_L eh7 hw
        refine zq_iinc (i := 4) (x := i4) (v := (nI 1)) (ls' := [(4, .int (i4 + (nI 1))), (0, .ref 53), (1, .int i1), (2, .int i2), (3, .int i3)]) 4 rfl rfl (Nat.le_of_ble_eq_true rfl) rfl dX11_lay_86 ?_
        refine zq_goto (tgt := 37) dX11_lay_89 rfl ?_
        exact zq_sub (ls' := [(0, .ref 53), (1, .int i1), (2, .int i2), (3, .int i3), (4, .int (i4 + (nI 1)))]) [1, 2, 3, 4, 0] rfl H
      · have H := H.2 c4
        refine zq_bipush (v := (-13)) rfl dX11_lay_61 ?_
        exact zq_iret dX11_lay_63 rfl rfl rfl H
set_option maxHeartbeats 2000000 in
set_option maxRecDepth 20000 in
theorem r_X11_judge_0 {d : Nat} {h : AH} {Q : Option Value → AH → Prop} (i1 : Int32) (i2 : Int32) (i3 : Int32) (hw : zWF h)  (H : zK d m_X11_isList [.int i1] h (pI h fun x1 => (x1 = 0 → Q (some (.int (-1))) h) ∧ (¬ x1 = 0 → zK d m_X11_isIn [.int i3, .int (nI 0), .int (nI 3)] h (pI h fun x3 => (x3 ≠ 0 → vp_in i1 6 ∧ ((0 ≤ (h.I 69 i1.toNatClampNeg) → zK d m_X11_cores [.ref 53] h (kV fun h7 => zQ none m_X11_judge (d + 1) 37 [(0, .ref 53), (1, .int i1), (2, .int i2), (3, .int i3), (4, .int (nI 0))] [] h7 Q)) ∧ (¬ 0 ≤ (h.I 69 i1.toNatClampNeg) → Q (some (.int (-11))) h))) ∧ (x3 = 0 → Q (some (.int (-1))) h))))) : zK (d + 1) m_X11_judge [.ref 53, .int i1, .int i2, .int i3] h Q := by
  refine zK_of mo_X11_judge (Nat.le_of_ble_eq_true rfl) ?_
  show zQ none m_X11_judge (d + 1) 0 [(0, .ref 53), (1, .int i1), (2, .int i2), (3, .int i3)] [] h Q
  refine zq_iload_n (k := 1) (i := 1) (x := i1) 1 rfl rfl dX11_judge_0 ?_
  refine zq_invS (as := [.int i1]) (st := []) st_X11_isList mo_X11_isList ml_RX11_284 rfl (Nat.le_of_ble_eq_true rfl) dX11_judge_1 rfl H (fun r1 h1 hq => ?_)
  obtain ⟨x1, rfl, rfl, H⟩ := hq
  show zQ none m_X11_judge (d + 1) 4 [(0, .ref 53), (1, .int i1), (2, .int i2), (3, .int i3)] (.int x1 :: []) h Q
  refine zq_if_eq (tgt := 16) dX11_judge_4 rfl ⟨fun c2 => ?_, fun c2 => ?_⟩
  · have H := H.1 c2
    refine zq_iconst (v := (-1)) rfl dX11_judge_16 ?_
    exact zq_iret dX11_judge_17 rfl rfl rfl H
  · have H := H.2 c2
    refine zq_iload_n (k := 3) (i := 3) (x := i3) 3 rfl rfl dX11_judge_7 ?_
    refine zq_iconst (v := (nI 0)) rfl dX11_judge_8 ?_
    refine zq_iconst (v := (nI 3)) rfl dX11_judge_9 ?_
    refine zq_invS (as := [.int i3, .int (nI 0), .int (nI 3)]) (st := []) st_X11_isIn mo_X11_isIn ml_RX11_64 rfl (Nat.le_of_ble_eq_true rfl) dX11_judge_10 rfl H (fun r1 h1 hq => ?_)
    obtain ⟨x3, rfl, rfl, H⟩ := hq
    show zQ none m_X11_judge (d + 1) 13 [(0, .ref 53), (1, .int i1), (2, .int i2), (3, .int i3)] (.int x3 :: []) h Q
    refine zq_if_ne (tgt := 18) dX11_judge_13 rfl ⟨fun c4 => ?_, fun c4 => ?_⟩
    · have H := H.1 c4
      refine zq_aload_n (k := 0) (i := 0) (x := 53) 0 rfl rfl dX11_judge_18 ?_
      refine zq_getP fl_RX11_58 rfl (sh_53 hw) (rf_53_26 hw) dX11_judge_19 ?_
      refine zq_iload_n (k := 1) (i := 1) (x := i1) 1 rfl rfl dX11_judge_22 ?_
      obtain ⟨b5, H⟩ := H
      refine zq_iald (sh_69 hw) b5 dX11_judge_23 ?_
      refine zq_if_ge (tgt := 30) dX11_judge_24 rfl ⟨fun c6 => ?_, fun c6 => ?_⟩
      · have H := H.1 c6
        refine zq_aload_n (k := 0) (i := 0) (x := 53) 0 rfl rfl dX11_judge_30 ?_
        refine zq_invV (as := []) (st := []) (o := 53) (c := 10) (by decide) rfl (sh_53 hw) in_X11_cores se_X11_cores mo_X11_cores ml_RX11_158 rfl (Nat.le_of_ble_eq_true rfl) dX11_judge_31 rfl H (fun r1 h7 hq => ?_)
        obtain ⟨rfl, wh7, H⟩ := hq
        show zQ none m_X11_judge (d + 1) 34 [(0, .ref 53), (1, .int i1), (2, .int i2), (3, .int i3)] ([]) h7 Q
        refine zq_iconst (v := (nI 0)) rfl dX11_judge_34 ?_
        refine zq_istore (ls' := [(4, .int (nI 0)), (0, .ref 53), (1, .int i1), (2, .int i2), (3, .int i3)]) (i := 4) (Nat.le_of_ble_eq_true rfl) rfl dX11_judge_35 ?_
        exact zq_sub (ls' := [(0, .ref 53), (1, .int i1), (2, .int i2), (3, .int i3), (4, .int (nI 0))]) [1, 2, 3, 4, 0] rfl H
      · have H := H.2 c6
        refine zq_bipush (v := (-11)) rfl dX11_judge_27 ?_
        exact zq_iret dX11_judge_29 rfl rfl rfl H
    · have H := H.2 c4
      refine zq_iconst (v := (-1)) rfl dX11_judge_16 ?_
      exact zq_iret dX11_judge_17 rfl rfl rfl H
set_option maxHeartbeats 2000000 in
set_option maxRecDepth 20000 in
theorem r_X11_judge_37 {d : Nat} {h : AH} {Q : Option Value → AH → Prop} (i1 : Int32) (i2 : Int32) (i3 : Int32) (i4 : Int32) (hw : zWF h)  (H : ((nI 40) ≤ i4 → Q (some (.int (-5))) h) ∧ (¬ (nI 40) ≤ i4 → (i2 < 0 → Q (some (.int ((nI 100) + i4))) h) ∧ (¬ i2 < 0 → vp_in i1 6 ∧ ((i4 < ((h.I 69 i1.toNatClampNeg) - i2) → vp_in ((((nI 60) * i1) + i2) + i4) 360 ∧ (zK d m_X11_figure [.ref 53, .int i4, .int i3] h (pI h fun x6 => ((lg_cmp (h.L 70 ((((nI 60) * i1) + i2) + i4).toNatClampNeg) x6.toInt64) = 0 → zQ none m_X11_judge (d + 1) 37 [(0, .ref 53), (1, .int i1), (2, .int i2), (3, .int i3), (4, .int (i4 + (nI 1)))] [] h Q) ∧ (¬ (lg_cmp (h.L 70 ((((nI 60) * i1) + i2) + i4).toNatClampNeg) x6.toInt64) = 0 → Q (some (.int i4)) h)))) ∧ (¬ i4 < ((h.I 69 i1.toNatClampNeg) - i2) → Q (some (.int ((nI 100) + i4))) h))))) : zQ none m_X11_judge (d + 1) 37 [(0, .ref 53), (1, .int i1), (2, .int i2), (3, .int i3), (4, .int i4)] [] h Q := by
  refine zq_iload (i := 4) (x := i4) 4 rfl dX11_judge_37 ?_
  refine zq_bipush (v := (nI 40)) rfl dX11_judge_39 ?_
  refine zq_icmp_ge (tgt := 102) dX11_judge_41 rfl ⟨fun c1 => ?_, fun c1 => ?_⟩
  · have H := H.1 c1
    refine zq_bipush (v := (-5)) rfl dX11_judge_102 ?_
    exact zq_iret dX11_judge_104 rfl rfl rfl H
  · have H := H.2 c1
    refine zq_iload_n (k := 2) (i := 2) (x := i2) 2 rfl rfl dX11_judge_44 ?_
    refine zq_if_lt (tgt := 61) dX11_judge_45 rfl ⟨fun c2 => ?_, fun c2 => ?_⟩
    · have H := H.1 c2
      refine zq_bipush (v := (nI 100)) rfl dX11_judge_61 ?_
      refine zq_iload (i := 4) (x := i4) 4 rfl dX11_judge_63 ?_
      refine zq_iadd dX11_judge_65 ?_
      exact zq_iret dX11_judge_66 rfl rfl rfl H
    · have H := H.2 c2
      refine zq_iload (i := 4) (x := i4) 4 rfl dX11_judge_48 ?_
      refine zq_aload_n (k := 0) (i := 0) (x := 53) 0 rfl rfl dX11_judge_50 ?_
      refine zq_getP fl_RX11_58 rfl (sh_53 hw) (rf_53_26 hw) dX11_judge_51 ?_
      refine zq_iload_n (k := 1) (i := 1) (x := i1) 1 rfl rfl dX11_judge_54 ?_
      obtain ⟨b3, H⟩ := H
      refine zq_iald (sh_69 hw) b3 dX11_judge_55 ?_
      refine zq_iload_n (k := 2) (i := 2) (x := i2) 2 rfl rfl dX11_judge_56 ?_
      refine zq_isub dX11_judge_57 ?_
      refine zq_icmp_lt (tgt := 67) dX11_judge_58 rfl ⟨fun c4 => ?_, fun c4 => ?_⟩
      · have H := H.1 c4
        refine zq_aload_n (k := 0) (i := 0) (x := 53) 0 rfl rfl dX11_judge_67 ?_
        refine zq_getP fl_RX11_61 rfl (sh_53 hw) (rf_53_27 hw) dX11_judge_68 ?_
        refine zq_bipush (v := (nI 60)) rfl dX11_judge_71 ?_
        refine zq_iload_n (k := 1) (i := 1) (x := i1) 1 rfl rfl dX11_judge_73 ?_
        refine zq_imul dX11_judge_74 ?_
        refine zq_iload_n (k := 2) (i := 2) (x := i2) 2 rfl rfl dX11_judge_75 ?_
        refine zq_iadd dX11_judge_76 ?_
        refine zq_iload (i := 4) (x := i4) 4 rfl dX11_judge_77 ?_
        refine zq_iadd dX11_judge_79 ?_
        obtain ⟨b5, H⟩ := H
        refine zq_lald (sh_70 hw) b5 dX11_judge_80 ?_
        refine zq_aload_n (k := 0) (i := 0) (x := 53) 0 rfl rfl dX11_judge_81 ?_
        refine zq_iload (i := 4) (x := i4) 4 rfl dX11_judge_82 ?_
        refine zq_iload_n (k := 3) (i := 3) (x := i3) 3 rfl rfl dX11_judge_84 ?_
        refine zq_invV (as := [.int i4, .int i3]) (st := .long (h.L 70 ((((nI 60) * i1) + i2) + i4).toNatClampNeg) :: []) (o := 53) (c := 10) (by decide) rfl (sh_53 hw) in_X11_figure se_X11_figure mo_X11_figure ml_RX11_293 rfl (Nat.le_of_ble_eq_true rfl) dX11_judge_85 rfl H (fun r1 h1 hq => ?_)
        obtain ⟨x6, rfl, rfl, H⟩ := hq
        show zQ none m_X11_judge (d + 1) 88 [(0, .ref 53), (1, .int i1), (2, .int i2), (3, .int i3), (4, .int i4)] (.int x6 :: .long (h.L 70 ((((nI 60) * i1) + i2) + i4).toNatClampNeg) :: []) h Q
        refine zq_i2l dX11_judge_88 ?_
        refine zq_lcmp dX11_judge_89 ?_
        refine zq_if_eq (tgt := 96) dX11_judge_90 rfl ⟨fun c7 => ?_, fun c7 => ?_⟩
        · have H := H.1 c7
          refine zq_iinc (i := 4) (x := i4) (v := (nI 1)) (ls' := [(4, .int (i4 + (nI 1))), (0, .ref 53), (1, .int i1), (2, .int i2), (3, .int i3)]) 4 rfl rfl (Nat.le_of_ble_eq_true rfl) rfl dX11_judge_96 ?_
          refine zq_goto (tgt := 37) dX11_judge_99 rfl ?_
          exact zq_sub (ls' := [(0, .ref 53), (1, .int i1), (2, .int i2), (3, .int i3), (4, .int (i4 + (nI 1)))]) [1, 2, 3, 4, 0] rfl H
        · have H := H.2 c7
          refine zq_iload (i := 4) (x := i4) 4 rfl dX11_judge_93 ?_
          exact zq_iret dX11_judge_95 rfl rfl rfl H
      · have H := H.2 c4
        refine zq_bipush (v := (nI 100)) rfl dX11_judge_61 ?_
        refine zq_iload (i := 4) (x := i4) 4 rfl dX11_judge_63 ?_
        refine zq_iadd dX11_judge_65 ?_
        exact zq_iret dX11_judge_66 rfl rfl rfl H
set_option maxHeartbeats 2000000 in
set_option maxRecDepth 20000 in
theorem r_X11_image_0 {d : Nat} {h : AH} {Q : Option Value → AH → Prop}  (hw : zWF h)  (H : zQ none m_X11_image (d + 1) 2 [(0, .ref 53), (1, .int (nI 0))] [] h Q) : zK (d + 1) m_X11_image [.ref 53] h Q := by
  refine zK_of mo_X11_image (Nat.le_of_ble_eq_true rfl) ?_
  show zQ none m_X11_image (d + 1) 0 [(0, .ref 53)] [] h Q
  refine zq_iconst (v := (nI 0)) rfl dX11_image_0 ?_
  refine zq_istore_n (ls' := [(1, .int (nI 0)), (0, .ref 53)]) (k := 1) (i := 1) rfl (Nat.le_of_ble_eq_true rfl) rfl dX11_image_1 ?_
  exact zq_sub (ls' := [(0, .ref 53), (1, .int (nI 0))]) [1, 0] rfl H
set_option maxHeartbeats 2000000 in
set_option maxRecDepth 20000 in
theorem r_X11_image_2 {d : Nat} {h : AH} {Q : Option Value → AH → Prop} (i1 : Int32) (hw : zWF h)  (H : ((nI 187) ≤ i1 → zQ none m_X11_image (d + 1) 29 [(0, .ref 53), (1, .int (nI 0))] [] h Q) ∧ (¬ (nI 187) ≤ i1 → vp_in i1 187 ∧ (vp_in i1 187 ∧ (∀ h4, h4 = h.sI 56 i1.toNatClampNeg (h.I 54 i1.toNatClampNeg) → zQ none m_X11_image (d + 1) 2 [(0, .ref 53), (1, .int (i1 + (nI 1)))] [] h4 Q)))) : zQ none m_X11_image (d + 1) 2 [(0, .ref 53), (1, .int i1)] [] h Q := by
  refine zq_iload_n (k := 1) (i := 1) (x := i1) 1 rfl rfl dX11_image_2 ?_
  refine zq_sipush (v := (nI 187)) rfl dX11_image_3 ?_
  refine zq_icmp_ge (tgt := 27) dX11_image_6 rfl ⟨fun c1 => ?_, fun c1 => ?_⟩
  · have H := H.1 c1
    refine zq_iconst (v := (nI 0)) rfl dX11_image_27 ?_
    refine zq_istore_n (ls' := [(1, .int (nI 0)), (0, .ref 53)]) (k := 1) (i := 1) rfl (Nat.le_of_ble_eq_true rfl) rfl dX11_image_28 ?_
    exact zq_sub (ls' := [(0, .ref 53), (1, .int (nI 0))]) [1, 0] rfl H
  · have H := H.2 c1
    refine zq_aload_n (k := 0) (i := 0) (x := 53) 0 rfl rfl dX11_image_9 ?_
    refine zq_getP fl_RX11_18 rfl (sh_53 hw) (rf_53_2 hw) dX11_image_10 ?_
    refine zq_iload_n (k := 1) (i := 1) (x := i1) 1 rfl rfl dX11_image_13 ?_
    refine zq_aload_n (k := 0) (i := 0) (x := 53) 0 rfl rfl dX11_image_14 ?_
    refine zq_getP fl_RX11_11 rfl (sh_53 hw) (rf_53_0 hw) dX11_image_15 ?_
    refine zq_iload_n (k := 1) (i := 1) (x := i1) 1 rfl rfl dX11_image_18 ?_
    obtain ⟨b2, H⟩ := H
    refine zq_iald (sh_54 hw) b2 dX11_image_19 ?_
    obtain ⟨b3, H⟩ := H
    refine zq_iast (sh_56 hw) b3 dX11_image_20 (fun h4 eh4 => ?_)
    have H := H h4 eh4
    have wh4 := wf_I eh4 hw
    refine zq_iinc (i := 1) (x := i1) (v := (nI 1)) (ls' := [(1, .int (i1 + (nI 1))), (0, .ref 53)]) 1 rfl rfl (Nat.le_of_ble_eq_true rfl) rfl dX11_image_21 ?_
    refine zq_goto (tgt := 2) dX11_image_24 rfl ?_
    exact zq_sub (ls' := [(0, .ref 53), (1, .int (i1 + (nI 1)))]) [1, 0] rfl H
set_option maxHeartbeats 2000000 in
set_option maxRecDepth 20000 in
theorem r_X11_image_29 {d : Nat} {h : AH} {Q : Option Value → AH → Prop} (i1 : Int32) (hw : zWF h)  (H : ((nI 1600) ≤ i1 → zQ none m_X11_image (d + 1) 56 [(0, .ref 53), (1, .int (nI 0))] [] h Q) ∧ (¬ (nI 1600) ≤ i1 → vp_in i1 1600 ∧ (vp_in i1 1600 ∧ (∀ h4, h4 = h.sI 57 i1.toNatClampNeg (h.I 55 i1.toNatClampNeg) → zQ none m_X11_image (d + 1) 29 [(0, .ref 53), (1, .int (i1 + (nI 1)))] [] h4 Q)))) : zQ none m_X11_image (d + 1) 29 [(0, .ref 53), (1, .int i1)] [] h Q := by
  refine zq_iload_n (k := 1) (i := 1) (x := i1) 1 rfl rfl dX11_image_29 ?_
  refine zq_sipush (v := (nI 1600)) rfl dX11_image_30 ?_
  refine zq_icmp_ge (tgt := 54) dX11_image_33 rfl ⟨fun c1 => ?_, fun c1 => ?_⟩
  · have H := H.1 c1
    refine zq_iconst (v := (nI 0)) rfl dX11_image_54 ?_
    refine zq_istore_n (ls' := [(1, .int (nI 0)), (0, .ref 53)]) (k := 1) (i := 1) rfl (Nat.le_of_ble_eq_true rfl) rfl dX11_image_55 ?_
    exact zq_sub (ls' := [(0, .ref 53), (1, .int (nI 0))]) [1, 0] rfl H
  · have H := H.2 c1
    refine zq_aload_n (k := 0) (i := 0) (x := 53) 0 rfl rfl dX11_image_36 ?_
    refine zq_getP fl_RX11_21 rfl (sh_53 hw) (rf_53_3 hw) dX11_image_37 ?_
    refine zq_iload_n (k := 1) (i := 1) (x := i1) 1 rfl rfl dX11_image_40 ?_
    refine zq_aload_n (k := 0) (i := 0) (x := 53) 0 rfl rfl dX11_image_41 ?_
    refine zq_getP fl_RX11_15 rfl (sh_53 hw) (rf_53_1 hw) dX11_image_42 ?_
    refine zq_iload_n (k := 1) (i := 1) (x := i1) 1 rfl rfl dX11_image_45 ?_
    obtain ⟨b2, H⟩ := H
    refine zq_iald (sh_55 hw) b2 dX11_image_46 ?_
    obtain ⟨b3, H⟩ := H
    refine zq_iast (sh_57 hw) b3 dX11_image_47 (fun h4 eh4 => ?_)
    have H := H h4 eh4
    have wh4 := wf_I eh4 hw
    refine zq_iinc (i := 1) (x := i1) (v := (nI 1)) (ls' := [(1, .int (i1 + (nI 1))), (0, .ref 53)]) 1 rfl rfl (Nat.le_of_ble_eq_true rfl) rfl dX11_image_48 ?_
    refine zq_goto (tgt := 29) dX11_image_51 rfl ?_
    exact zq_sub (ls' := [(0, .ref 53), (1, .int (i1 + (nI 1)))]) [1, 0] rfl H
set_option maxHeartbeats 2000000 in
set_option maxRecDepth 20000 in
theorem r_X11_image_56 {d : Nat} {h : AH} {Q : Option Value → AH → Prop} (i1 : Int32) (hw : zWF h)  (H : ((nI 40) ≤ i1 → ∀ h2, h2 = h.sL 53 8 (h.L 53 6) → ∀ h3, h3 = h2.sL 53 9 (h2.L 53 7) → ∀ h4, h4 = h3.sI 53 10 (nI 1) → vp_in (nI 5) 187 ∧ (Q (some (.int (h4.I 54 (nI 5).toNatClampNeg))) h4)) ∧ (¬ (nI 40) ≤ i1 → vp_in i1 40 ∧ (vp_in i1 40 ∧ (∀ h8, h8 = h.sL 59 i1.toNatClampNeg (h.L 58 i1.toNatClampNeg) → zQ none m_X11_image (d + 1) 56 [(0, .ref 53), (1, .int (i1 + (nI 1)))] [] h8 Q)))) : zQ none m_X11_image (d + 1) 56 [(0, .ref 53), (1, .int i1)] [] h Q := by
  refine zq_iload_n (k := 1) (i := 1) (x := i1) 1 rfl rfl dX11_image_56 ?_
  refine zq_bipush (v := (nI 40)) rfl dX11_image_57 ?_
  refine zq_icmp_ge (tgt := 80) dX11_image_59 rfl ⟨fun c1 => ?_, fun c1 => ?_⟩
  · have H := H.1 c1
    refine zq_aload_n (k := 0) (i := 0) (x := 53) 0 rfl rfl dX11_image_80 ?_
    refine zq_aload_n (k := 0) (i := 0) (x := 53) 0 rfl rfl dX11_image_81 ?_
    refine zq_getL fl_RX11_80 rfl (sh_53 hw) dX11_image_82 ?_
    refine zq_putL fl_RX11_296 rfl (Or.inl rfl) (sh_53 hw) dX11_image_85 (fun h2 eh2 => ?_)
    have H := H h2 eh2
    have wh2 := wf_L eh2 hw
    refine zq_aload_n (k := 0) (i := 0) (x := 53) 0 rfl rfl dX11_image_88 ?_
    refine zq_aload_n (k := 0) (i := 0) (x := 53) 0 rfl rfl dX11_image_89 ?_
    refine zq_getL fl_RX11_275 rfl (sh_53 wh2) dX11_image_90 ?_
    refine zq_putL fl_RX11_299 rfl (Or.inl rfl) (sh_53 wh2) dX11_image_93 (fun h3 eh3 => ?_)
    have H := H h3 eh3
    have wh3 := wf_L eh3 wh2
    refine zq_aload_n (k := 0) (i := 0) (x := 53) 0 rfl rfl dX11_image_96 ?_
    refine zq_iconst (v := (nI 1)) rfl dX11_image_97 ?_
    refine zq_putI fl_RX11_302 rfl (Or.inl rfl) (sh_53 wh3) rfl rfl dX11_image_98 (fun h4 eh4 => ?_)
    have H := H h4 eh4
    have wh4 := wf_I eh4 wh3
    refine zq_aload_n (k := 0) (i := 0) (x := 53) 0 rfl rfl dX11_image_101 ?_
    refine zq_getP fl_RX11_11 rfl (sh_53 wh4) (rf_53_0 wh4) dX11_image_102 ?_
    refine zq_iconst (v := (nI 5)) rfl dX11_image_105 ?_
    obtain ⟨b5, H⟩ := H
    refine zq_iald (sh_54 wh4) b5 dX11_image_106 ?_
    exact zq_iret dX11_image_107 rfl rfl rfl H
  · have H := H.2 c1
    refine zq_aload_n (k := 0) (i := 0) (x := 53) 0 rfl rfl dX11_image_62 ?_
    refine zq_getP fl_RX11_28 rfl (sh_53 hw) (rf_53_5 hw) dX11_image_63 ?_
    refine zq_iload_n (k := 1) (i := 1) (x := i1) 1 rfl rfl dX11_image_66 ?_
    refine zq_aload_n (k := 0) (i := 0) (x := 53) 0 rfl rfl dX11_image_67 ?_
    refine zq_getP fl_RX11_24 rfl (sh_53 hw) (rf_53_4 hw) dX11_image_68 ?_
    refine zq_iload_n (k := 1) (i := 1) (x := i1) 1 rfl rfl dX11_image_71 ?_
    obtain ⟨b6, H⟩ := H
    refine zq_lald (sh_58 hw) b6 dX11_image_72 ?_
    obtain ⟨b7, H⟩ := H
    refine zq_last (sh_59 hw) b7 dX11_image_73 (fun h8 eh8 => ?_)
    have H := H h8 eh8
    have wh8 := wf_L eh8 hw
    refine zq_iinc (i := 1) (x := i1) (v := (nI 1)) (ls' := [(1, .int (i1 + (nI 1))), (0, .ref 53)]) 1 rfl rfl (Nat.le_of_ble_eq_true rfl) rfl dX11_image_74 ?_
    refine zq_goto (tgt := 56) dX11_image_77 rfl ?_
    exact zq_sub (ls' := [(0, .ref 53), (1, .int (i1 + (nI 1)))]) [1, 0] rfl H
set_option maxHeartbeats 2000000 in
set_option maxRecDepth 20000 in
theorem r_X11_undo_0 {d : Nat} {h : AH} {Q : Option Value → AH → Prop}  (hw : zWF h)  (H : ((h.I 53 10) ≠ 0 → zQ none m_X11_undo (d + 1) 12 [(0, .ref 53), (1, .int (nI 0))] [] h Q) ∧ ((h.I 53 10) = 0 → Q (some (.int (-3))) h)) : zK (d + 1) m_X11_undo [.ref 53] h Q := by
  refine zK_of mo_X11_undo (Nat.le_of_ble_eq_true rfl) ?_
  show zQ none m_X11_undo (d + 1) 0 [(0, .ref 53)] [] h Q
  refine zq_aload_n (k := 0) (i := 0) (x := 53) 0 rfl rfl dX11_undo_0 ?_
  refine zq_getI fl_RX11_302 rfl (sh_53 hw) dX11_undo_1 ?_
  refine zq_if_ne (tgt := 10) dX11_undo_4 rfl ⟨fun c1 => ?_, fun c1 => ?_⟩
  · have H := H.1 c1
    refine zq_iconst (v := (nI 0)) rfl dX11_undo_10 ?_
    refine zq_istore_n (ls' := [(1, .int (nI 0)), (0, .ref 53)]) (k := 1) (i := 1) rfl (Nat.le_of_ble_eq_true rfl) rfl dX11_undo_11 ?_
    exact zq_sub (ls' := [(0, .ref 53), (1, .int (nI 0))]) [1, 0] rfl H
  · have H := H.2 c1
    refine zq_bipush (v := (-3)) rfl dX11_undo_7 ?_
    exact zq_iret dX11_undo_9 rfl rfl rfl H
set_option maxHeartbeats 2000000 in
set_option maxRecDepth 20000 in
theorem r_X11_undo_12 {d : Nat} {h : AH} {Q : Option Value → AH → Prop} (i1 : Int32) (hw : zWF h)  (H : ((nI 187) ≤ i1 → zQ none m_X11_undo (d + 1) 39 [(0, .ref 53), (1, .int (nI 0))] [] h Q) ∧ (¬ (nI 187) ≤ i1 → vp_in i1 187 ∧ (vp_in i1 187 ∧ (∀ h4, h4 = h.sI 54 i1.toNatClampNeg (h.I 56 i1.toNatClampNeg) → zQ none m_X11_undo (d + 1) 12 [(0, .ref 53), (1, .int (i1 + (nI 1)))] [] h4 Q)))) : zQ none m_X11_undo (d + 1) 12 [(0, .ref 53), (1, .int i1)] [] h Q := by
  refine zq_iload_n (k := 1) (i := 1) (x := i1) 1 rfl rfl dX11_undo_12 ?_
  refine zq_sipush (v := (nI 187)) rfl dX11_undo_13 ?_
  refine zq_icmp_ge (tgt := 37) dX11_undo_16 rfl ⟨fun c1 => ?_, fun c1 => ?_⟩
  · have H := H.1 c1
    refine zq_iconst (v := (nI 0)) rfl dX11_undo_37 ?_
    refine zq_istore_n (ls' := [(1, .int (nI 0)), (0, .ref 53)]) (k := 1) (i := 1) rfl (Nat.le_of_ble_eq_true rfl) rfl dX11_undo_38 ?_
    exact zq_sub (ls' := [(0, .ref 53), (1, .int (nI 0))]) [1, 0] rfl H
  · have H := H.2 c1
    refine zq_aload_n (k := 0) (i := 0) (x := 53) 0 rfl rfl dX11_undo_19 ?_
    refine zq_getP fl_RX11_11 rfl (sh_53 hw) (rf_53_0 hw) dX11_undo_20 ?_
    refine zq_iload_n (k := 1) (i := 1) (x := i1) 1 rfl rfl dX11_undo_23 ?_
    refine zq_aload_n (k := 0) (i := 0) (x := 53) 0 rfl rfl dX11_undo_24 ?_
    refine zq_getP fl_RX11_18 rfl (sh_53 hw) (rf_53_2 hw) dX11_undo_25 ?_
    refine zq_iload_n (k := 1) (i := 1) (x := i1) 1 rfl rfl dX11_undo_28 ?_
    obtain ⟨b2, H⟩ := H
    refine zq_iald (sh_56 hw) b2 dX11_undo_29 ?_
    obtain ⟨b3, H⟩ := H
    refine zq_iast (sh_54 hw) b3 dX11_undo_30 (fun h4 eh4 => ?_)
    have H := H h4 eh4
    have wh4 := wf_I eh4 hw
    refine zq_iinc (i := 1) (x := i1) (v := (nI 1)) (ls' := [(1, .int (i1 + (nI 1))), (0, .ref 53)]) 1 rfl rfl (Nat.le_of_ble_eq_true rfl) rfl dX11_undo_31 ?_
    refine zq_goto (tgt := 12) dX11_undo_34 rfl ?_
    exact zq_sub (ls' := [(0, .ref 53), (1, .int (i1 + (nI 1)))]) [1, 0] rfl H
set_option maxHeartbeats 2000000 in
set_option maxRecDepth 20000 in
theorem r_X11_undo_39 {d : Nat} {h : AH} {Q : Option Value → AH → Prop} (i1 : Int32) (hw : zWF h)  (H : ((nI 1600) ≤ i1 → zQ none m_X11_undo (d + 1) 66 [(0, .ref 53), (1, .int (nI 0))] [] h Q) ∧ (¬ (nI 1600) ≤ i1 → vp_in i1 1600 ∧ (vp_in i1 1600 ∧ (∀ h4, h4 = h.sI 55 i1.toNatClampNeg (h.I 57 i1.toNatClampNeg) → zQ none m_X11_undo (d + 1) 39 [(0, .ref 53), (1, .int (i1 + (nI 1)))] [] h4 Q)))) : zQ none m_X11_undo (d + 1) 39 [(0, .ref 53), (1, .int i1)] [] h Q := by
  refine zq_iload_n (k := 1) (i := 1) (x := i1) 1 rfl rfl dX11_undo_39 ?_
  refine zq_sipush (v := (nI 1600)) rfl dX11_undo_40 ?_
  refine zq_icmp_ge (tgt := 64) dX11_undo_43 rfl ⟨fun c1 => ?_, fun c1 => ?_⟩
  · have H := H.1 c1
    refine zq_iconst (v := (nI 0)) rfl dX11_undo_64 ?_
    refine zq_istore_n (ls' := [(1, .int (nI 0)), (0, .ref 53)]) (k := 1) (i := 1) rfl (Nat.le_of_ble_eq_true rfl) rfl dX11_undo_65 ?_
    exact zq_sub (ls' := [(0, .ref 53), (1, .int (nI 0))]) [1, 0] rfl H
  · have H := H.2 c1
    refine zq_aload_n (k := 0) (i := 0) (x := 53) 0 rfl rfl dX11_undo_46 ?_
    refine zq_getP fl_RX11_15 rfl (sh_53 hw) (rf_53_1 hw) dX11_undo_47 ?_
    refine zq_iload_n (k := 1) (i := 1) (x := i1) 1 rfl rfl dX11_undo_50 ?_
    refine zq_aload_n (k := 0) (i := 0) (x := 53) 0 rfl rfl dX11_undo_51 ?_
    refine zq_getP fl_RX11_21 rfl (sh_53 hw) (rf_53_3 hw) dX11_undo_52 ?_
    refine zq_iload_n (k := 1) (i := 1) (x := i1) 1 rfl rfl dX11_undo_55 ?_
    obtain ⟨b2, H⟩ := H
    refine zq_iald (sh_57 hw) b2 dX11_undo_56 ?_
    obtain ⟨b3, H⟩ := H
    refine zq_iast (sh_55 hw) b3 dX11_undo_57 (fun h4 eh4 => ?_)
    have H := H h4 eh4
    have wh4 := wf_I eh4 hw
    refine zq_iinc (i := 1) (x := i1) (v := (nI 1)) (ls' := [(1, .int (i1 + (nI 1))), (0, .ref 53)]) 1 rfl rfl (Nat.le_of_ble_eq_true rfl) rfl dX11_undo_58 ?_
    refine zq_goto (tgt := 39) dX11_undo_61 rfl ?_
    exact zq_sub (ls' := [(0, .ref 53), (1, .int (i1 + (nI 1)))]) [1, 0] rfl H
set_option maxHeartbeats 2000000 in
set_option maxRecDepth 20000 in
theorem r_X11_undo_66 {d : Nat} {h : AH} {Q : Option Value → AH → Prop} (i1 : Int32) (hw : zWF h)  (H : ((nI 40) ≤ i1 → ∀ h2, h2 = h.sL 53 6 (h.L 53 8) → ∀ h3, h3 = h2.sL 53 7 (h2.L 53 9) → vp_in (nI 5) 187 ∧ (Q (some (.int (h3.I 54 (nI 5).toNatClampNeg))) h3)) ∧ (¬ (nI 40) ≤ i1 → vp_in i1 40 ∧ (vp_in i1 40 ∧ (∀ h7, h7 = h.sL 58 i1.toNatClampNeg (h.L 59 i1.toNatClampNeg) → zQ none m_X11_undo (d + 1) 66 [(0, .ref 53), (1, .int (i1 + (nI 1)))] [] h7 Q)))) : zQ none m_X11_undo (d + 1) 66 [(0, .ref 53), (1, .int i1)] [] h Q := by
  refine zq_iload_n (k := 1) (i := 1) (x := i1) 1 rfl rfl dX11_undo_66 ?_
  refine zq_bipush (v := (nI 40)) rfl dX11_undo_67 ?_
  refine zq_icmp_ge (tgt := 90) dX11_undo_69 rfl ⟨fun c1 => ?_, fun c1 => ?_⟩
  · have H := H.1 c1
    refine zq_aload_n (k := 0) (i := 0) (x := 53) 0 rfl rfl dX11_undo_90 ?_
    refine zq_aload_n (k := 0) (i := 0) (x := 53) 0 rfl rfl dX11_undo_91 ?_
    refine zq_getL fl_RX11_296 rfl (sh_53 hw) dX11_undo_92 ?_
    refine zq_putL fl_RX11_80 rfl (Or.inl rfl) (sh_53 hw) dX11_undo_95 (fun h2 eh2 => ?_)
    have H := H h2 eh2
    have wh2 := wf_L eh2 hw
    refine zq_aload_n (k := 0) (i := 0) (x := 53) 0 rfl rfl dX11_undo_98 ?_
    refine zq_aload_n (k := 0) (i := 0) (x := 53) 0 rfl rfl dX11_undo_99 ?_
    refine zq_getL fl_RX11_299 rfl (sh_53 wh2) dX11_undo_100 ?_
    refine zq_putL fl_RX11_275 rfl (Or.inl rfl) (sh_53 wh2) dX11_undo_103 (fun h3 eh3 => ?_)
    have H := H h3 eh3
    have wh3 := wf_L eh3 wh2
    refine zq_aload_n (k := 0) (i := 0) (x := 53) 0 rfl rfl dX11_undo_106 ?_
    refine zq_getP fl_RX11_11 rfl (sh_53 wh3) (rf_53_0 wh3) dX11_undo_107 ?_
    refine zq_iconst (v := (nI 5)) rfl dX11_undo_110 ?_
    obtain ⟨b4, H⟩ := H
    refine zq_iald (sh_54 wh3) b4 dX11_undo_111 ?_
    exact zq_iret dX11_undo_112 rfl rfl rfl H
  · have H := H.2 c1
    refine zq_aload_n (k := 0) (i := 0) (x := 53) 0 rfl rfl dX11_undo_72 ?_
    refine zq_getP fl_RX11_24 rfl (sh_53 hw) (rf_53_4 hw) dX11_undo_73 ?_
    refine zq_iload_n (k := 1) (i := 1) (x := i1) 1 rfl rfl dX11_undo_76 ?_
    refine zq_aload_n (k := 0) (i := 0) (x := 53) 0 rfl rfl dX11_undo_77 ?_
    refine zq_getP fl_RX11_28 rfl (sh_53 hw) (rf_53_5 hw) dX11_undo_78 ?_
    refine zq_iload_n (k := 1) (i := 1) (x := i1) 1 rfl rfl dX11_undo_81 ?_
    obtain ⟨b5, H⟩ := H
    refine zq_lald (sh_59 hw) b5 dX11_undo_82 ?_
    obtain ⟨b6, H⟩ := H
    refine zq_last (sh_58 hw) b6 dX11_undo_83 (fun h7 eh7 => ?_)
    have H := H h7 eh7
    have wh7 := wf_L eh7 hw
    refine zq_iinc (i := 1) (x := i1) (v := (nI 1)) (ls' := [(1, .int (i1 + (nI 1))), (0, .ref 53)]) 1 rfl rfl (Nat.le_of_ble_eq_true rfl) rfl dX11_undo_84 ?_
    refine zq_goto (tgt := 66) dX11_undo_87 rfl ?_
    exact zq_sub (ls' := [(0, .ref 53), (1, .int (i1 + (nI 1)))]) [1, 0] rfl H
