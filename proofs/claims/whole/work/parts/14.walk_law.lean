set_option maxHeartbeats 2000000 in
set_option maxRecDepth 20000 in
theorem r_L_law_18 {d : Nat} {h : AH} {Q : Option Value → AH → Prop} (L : Nat) (xs : Nat → Int32) (i3 : Int32) (hw : zWF h)  (H : (((nI L) - (nI 6)) < i3 → Q (some (.int (nI 1))) h) ∧ (¬ ((nI L) - (nI 6)) < i3 → vp_in i3 L ∧ (∀ k3, k3 = ((xs i3.toNatClampNeg) &&& (nI 63)) → (k3.toInt < 0 ∨ 34 < k3.toInt → zQ (some (L, xs)) m_L_law (d + 1) 18 [(0, .ref 0), (1, .ref 1), (2, .ref 53), (3, .int (i3 + (nI 6)))] [] h Q) ∧ (k3 = nI 0 → zQ (some (L, xs)) m_L_law (d + 1) 188 [(0, .ref 0), (1, .ref 1), (2, .ref 53), (3, .int i3)] [] h Q) ∧ (k3 = nI 1 → zQ (some (L, xs)) m_L_law (d + 1) 231 [(0, .ref 0), (1, .ref 1), (2, .ref 53), (3, .int i3)] [] h Q) ∧ (k3 = nI 2 → zQ (some (L, xs)) m_L_law (d + 1) 264 [(0, .ref 0), (1, .ref 1), (2, .ref 53), (3, .int i3)] [] h Q) ∧ (k3 = nI 3 → zQ (some (L, xs)) m_L_law (d + 1) 298 [(0, .ref 0), (1, .ref 1), (2, .ref 53), (3, .int i3)] [] h Q) ∧ (k3 = nI 4 → zQ (some (L, xs)) m_L_law (d + 1) 331 [(0, .ref 0), (1, .ref 1), (2, .ref 53), (3, .int i3)] [] h Q) ∧ (k3 = nI 5 → zQ (some (L, xs)) m_L_law (d + 1) 374 [(0, .ref 0), (1, .ref 1), (2, .ref 53), (3, .int i3)] [] h Q) ∧ (k3 = nI 6 → zQ (some (L, xs)) m_L_law (d + 1) 417 [(0, .ref 0), (1, .ref 1), (2, .ref 53), (3, .int i3)] [] h Q) ∧ (k3 = nI 7 → zQ (some (L, xs)) m_L_law (d + 1) 470 [(0, .ref 0), (1, .ref 1), (2, .ref 53), (3, .int i3)] [] h Q) ∧ (k3 = nI 8 → zQ (some (L, xs)) m_L_law (d + 1) 494 [(0, .ref 0), (1, .ref 1), (2, .ref 53), (3, .int i3)] [] h Q) ∧ (k3 = nI 9 → zQ (some (L, xs)) m_L_law (d + 1) 518 [(0, .ref 0), (1, .ref 1), (2, .ref 53), (3, .int i3)] [] h Q) ∧ (k3 = nI 10 → zQ (some (L, xs)) m_L_law (d + 1) 541 [(0, .ref 0), (1, .ref 1), (2, .ref 53), (3, .int i3)] [] h Q) ∧ (k3 = nI 11 → zQ (some (L, xs)) m_L_law (d + 1) 564 [(0, .ref 0), (1, .ref 1), (2, .ref 53), (3, .int i3)] [] h Q) ∧ (k3 = nI 12 → zQ (some (L, xs)) m_L_law (d + 1) 607 [(0, .ref 0), (1, .ref 1), (2, .ref 53), (3, .int i3)] [] h Q) ∧ (k3 = nI 13 → zQ (some (L, xs)) m_L_law (d + 1) 630 [(0, .ref 0), (1, .ref 1), (2, .ref 53), (3, .int i3)] [] h Q) ∧ (k3 = nI 14 → zQ (some (L, xs)) m_L_law (d + 1) 654 [(0, .ref 0), (1, .ref 1), (2, .ref 53), (3, .int i3)] [] h Q) ∧ (k3 = nI 15 → zQ (some (L, xs)) m_L_law (d + 1) 687 [(0, .ref 0), (1, .ref 1), (2, .ref 53), (3, .int i3)] [] h Q) ∧ (k3 = nI 16 → zQ (some (L, xs)) m_L_law (d + 1) 721 [(0, .ref 0), (1, .ref 1), (2, .ref 53), (3, .int i3)] [] h Q) ∧ (k3 = nI 17 → zQ (some (L, xs)) m_L_law (d + 1) 735 [(0, .ref 0), (1, .ref 1), (2, .ref 53), (3, .int i3)] [] h Q) ∧ (k3 = nI 18 → zQ (some (L, xs)) m_L_law (d + 1) 758 [(0, .ref 0), (1, .ref 1), (2, .ref 53), (3, .int i3)] [] h Q) ∧ (k3 = nI 19 → zQ (some (L, xs)) m_L_law (d + 1) 771 [(0, .ref 0), (1, .ref 1), (2, .ref 53), (3, .int i3)] [] h Q) ∧ (k3 = nI 20 → zQ (some (L, xs)) m_L_law (d + 1) 794 [(0, .ref 0), (1, .ref 1), (2, .ref 53), (3, .int i3)] [] h Q) ∧ (k3 = nI 21 → zQ (some (L, xs)) m_L_law (d + 1) 807 [(0, .ref 0), (1, .ref 1), (2, .ref 53), (3, .int i3)] [] h Q) ∧ (k3 = nI 22 → zQ (some (L, xs)) m_L_law (d + 1) 820 [(0, .ref 0), (1, .ref 1), (2, .ref 53), (3, .int i3)] [] h Q) ∧ (k3 = nI 23 → zQ (some (L, xs)) m_L_law (d + 1) 833 [(0, .ref 0), (1, .ref 1), (2, .ref 53), (3, .int i3)] [] h Q) ∧ (k3 = nI 24 → zQ (some (L, xs)) m_L_law (d + 1) 847 [(0, .ref 0), (1, .ref 1), (2, .ref 53), (3, .int i3)] [] h Q) ∧ (k3 = nI 25 → zQ (some (L, xs)) m_L_law (d + 1) 860 [(0, .ref 0), (1, .ref 1), (2, .ref 53), (3, .int i3)] [] h Q) ∧ (k3 = nI 26 → zQ (some (L, xs)) m_L_law (d + 1) 883 [(0, .ref 0), (1, .ref 1), (2, .ref 53), (3, .int i3)] [] h Q) ∧ (k3 = nI 27 → zQ (some (L, xs)) m_L_law (d + 1) 906 [(0, .ref 0), (1, .ref 1), (2, .ref 53), (3, .int i3)] [] h Q) ∧ (k3 = nI 28 → zQ (some (L, xs)) m_L_law (d + 1) 939 [(0, .ref 0), (1, .ref 1), (2, .ref 53), (3, .int i3)] [] h Q) ∧ (k3 = nI 29 → zQ (some (L, xs)) m_L_law (d + 1) 1012 [(0, .ref 0), (1, .ref 1), (2, .ref 53), (3, .int i3)] [] h Q) ∧ (k3 = nI 30 → zQ (some (L, xs)) m_L_law (d + 1) 1046 [(0, .ref 0), (1, .ref 1), (2, .ref 53), (3, .int i3)] [] h Q) ∧ (k3 = nI 31 → zQ (some (L, xs)) m_L_law (d + 1) 1109 [(0, .ref 0), (1, .ref 1), (2, .ref 53), (3, .int i3)] [] h Q) ∧ (k3 = nI 32 → zQ (some (L, xs)) m_L_law (d + 1) 1152 [(0, .ref 0), (1, .ref 1), (2, .ref 53), (3, .int i3)] [] h Q) ∧ (k3 = nI 33 → zQ (some (L, xs)) m_L_law (d + 1) 1195 [(0, .ref 0), (1, .ref 1), (2, .ref 53), (3, .int i3)] [] h Q) ∧ (k3 = nI 34 → zQ (some (L, xs)) m_L_law (d + 1) 1208 [(0, .ref 0), (1, .ref 1), (2, .ref 53), (3, .int i3)] [] h Q)))) : zQ (some (L, xs)) m_L_law (d + 1) 18 [(0, .ref 0), (1, .ref 1), (2, .ref 53), (3, .int i3)] [] h Q := by
  refine zq_iload_n (k := 3) (i := 3) (x := i3) 3 rfl rfl dL_law_18 ?_
  refine zq_aload_n (k := 0) (i := 0) (x := 0) 0 rfl rfl dL_law_19 ?_
  refine zq_slen (v := nI L) rfl dL_law_20 ?_
  refine zq_bipush (v := (nI 6)) rfl dL_law_21 ?_
  refine zq_isub dL_law_23 ?_
  refine zq_icmp_gt (tgt := 1227) dL_law_24 rfl ⟨fun c1 => ?_, fun c1 => ?_⟩
  · have H := H.1 c1
    refine zq_iconst (v := (nI 1)) rfl dL_law_1227 ?_
    exact zq_iret dL_law_1228 rfl rfl rfl H
  · have H := H.2 c1
    refine zq_aload_n (k := 0) (i := 0) (x := 0) 0 rfl rfl dL_law_27 ?_
    refine zq_iload_n (k := 3) (i := 3) (x := i3) 3 rfl rfl dL_law_28 ?_
    obtain ⟨b2, H⟩ := H
    refine zq_sld b2 dL_law_29 ?_
    refine zq_bipush (v := (nI 63)) rfl dL_law_30 ?_
    refine zq_iand dL_law_32 ?_
    obtain ⟨k3, ek3⟩ : ∃ y, y = ((xs i3.toNatClampNeg) &&& (nI 63)) := ⟨_, rfl⟩
    have H := H k3 ek3
    rw [← ek3]
    by_cases hr : k3.toInt < 0 ∨ 34 < k3.toInt
    · have H := H.1 hr
      refine zq_tabOut (tgt := 1221) dL_law_33 hr rfl ?_
      refine zq_iinc (i := 3) (x := i3) (v := (nI 6)) (ls' := [(3, .int (i3 + (nI 6))), (0, .ref 0), (1, .ref 1), (2, .ref 53)]) 3 rfl rfl (Nat.le_of_ble_eq_true rfl) rfl dL_law_1221 ?_
      refine zq_goto (tgt := 18) dL_law_1224 rfl ?_
      exact zq_sub (ls' := [(0, .ref 0), (1, .ref 1), (2, .ref 53), (3, .int (i3 + (nI 6)))]) [1, 2, 3, 0] rfl H
    · have H := H.2
      rcases (show k3.toInt = 0 ∨ k3.toInt = 1 ∨ k3.toInt = 2 ∨ k3.toInt = 3 ∨ k3.toInt = 4 ∨ k3.toInt = 5 ∨ k3.toInt = 6 ∨ k3.toInt = 7 ∨ k3.toInt = 8 ∨ k3.toInt = 9 ∨ k3.toInt = 10 ∨ k3.toInt = 11 ∨ k3.toInt = 12 ∨ k3.toInt = 13 ∨ k3.toInt = 14 ∨ k3.toInt = 15 ∨ k3.toInt = 16 ∨ k3.toInt = 17 ∨ k3.toInt = 18 ∨ k3.toInt = 19 ∨ k3.toInt = 20 ∨ k3.toInt = 21 ∨ k3.toInt = 22 ∨ k3.toInt = 23 ∨ k3.toInt = 24 ∨ k3.toInt = 25 ∨ k3.toInt = 26 ∨ k3.toInt = 27 ∨ k3.toInt = 28 ∨ k3.toInt = 29 ∨ k3.toInt = 30 ∨ k3.toInt = 31 ∨ k3.toInt = 32 ∨ k3.toInt = 33 ∨ k3.toInt = 34 by omega) with hk | hk | hk | hk | hk | hk | hk | hk | hk | hk | hk | hk | hk | hk | hk | hk | hk | hk | hk | hk | hk | hk | hk | hk | hk | hk | hk | hk | hk | hk | hk | hk | hk | hk | hk
      · have H := H.1 (zr_int (c := 0) hk)
        refine zq_tabIn (off := 155) (tgt := 188) dL_law_33 (by rw [hk]; decide) (by rw [hk]; decide) (by rw [hk]; rfl) rfl ?_
        exact H
      · have H := H.2.1 (zr_int (c := 1) hk)
        refine zq_tabIn (off := 198) (tgt := 231) dL_law_33 (by rw [hk]; decide) (by rw [hk]; decide) (by rw [hk]; rfl) rfl ?_
        exact H
      · have H := H.2.2.1 (zr_int (c := 2) hk)
        refine zq_tabIn (off := 231) (tgt := 264) dL_law_33 (by rw [hk]; decide) (by rw [hk]; decide) (by rw [hk]; rfl) rfl ?_
        exact H
      · have H := H.2.2.2.1 (zr_int (c := 3) hk)
        refine zq_tabIn (off := 265) (tgt := 298) dL_law_33 (by rw [hk]; decide) (by rw [hk]; decide) (by rw [hk]; rfl) rfl ?_
        exact H
      · have H := H.2.2.2.2.1 (zr_int (c := 4) hk)
        refine zq_tabIn (off := 298) (tgt := 331) dL_law_33 (by rw [hk]; decide) (by rw [hk]; decide) (by rw [hk]; rfl) rfl ?_
        exact H
      · have H := H.2.2.2.2.2.1 (zr_int (c := 5) hk)
        refine zq_tabIn (off := 341) (tgt := 374) dL_law_33 (by rw [hk]; decide) (by rw [hk]; decide) (by rw [hk]; rfl) rfl ?_
        exact H
      · have H := H.2.2.2.2.2.2.1 (zr_int (c := 6) hk)
        refine zq_tabIn (off := 384) (tgt := 417) dL_law_33 (by rw [hk]; decide) (by rw [hk]; decide) (by rw [hk]; rfl) rfl ?_
        exact H
      · have H := H.2.2.2.2.2.2.2.1 (zr_int (c := 7) hk)
        refine zq_tabIn (off := 437) (tgt := 470) dL_law_33 (by rw [hk]; decide) (by rw [hk]; decide) (by rw [hk]; rfl) rfl ?_
        exact H
      · have H := H.2.2.2.2.2.2.2.2.1 (zr_int (c := 8) hk)
        refine zq_tabIn (off := 461) (tgt := 494) dL_law_33 (by rw [hk]; decide) (by rw [hk]; decide) (by rw [hk]; rfl) rfl ?_
        exact H
      · have H := H.2.2.2.2.2.2.2.2.2.1 (zr_int (c := 9) hk)
        refine zq_tabIn (off := 485) (tgt := 518) dL_law_33 (by rw [hk]; decide) (by rw [hk]; decide) (by rw [hk]; rfl) rfl ?_
        exact H
      · have H := H.2.2.2.2.2.2.2.2.2.2.1 (zr_int (c := 10) hk)
        refine zq_tabIn (off := 508) (tgt := 541) dL_law_33 (by rw [hk]; decide) (by rw [hk]; decide) (by rw [hk]; rfl) rfl ?_
        exact H
      · have H := H.2.2.2.2.2.2.2.2.2.2.2.1 (zr_int (c := 11) hk)
        refine zq_tabIn (off := 531) (tgt := 564) dL_law_33 (by rw [hk]; decide) (by rw [hk]; decide) (by rw [hk]; rfl) rfl ?_
        exact H
      · have H := H.2.2.2.2.2.2.2.2.2.2.2.2.1 (zr_int (c := 12) hk)
        refine zq_tabIn (off := 574) (tgt := 607) dL_law_33 (by rw [hk]; decide) (by rw [hk]; decide) (by rw [hk]; rfl) rfl ?_
        exact H
      · have H := H.2.2.2.2.2.2.2.2.2.2.2.2.2.1 (zr_int (c := 13) hk)
        refine zq_tabIn (off := 597) (tgt := 630) dL_law_33 (by rw [hk]; decide) (by rw [hk]; decide) (by rw [hk]; rfl) rfl ?_
        exact H
      · have H := H.2.2.2.2.2.2.2.2.2.2.2.2.2.2.1 (zr_int (c := 14) hk)
        refine zq_tabIn (off := 621) (tgt := 654) dL_law_33 (by rw [hk]; decide) (by rw [hk]; decide) (by rw [hk]; rfl) rfl ?_
        exact H
      · have H := H.2.2.2.2.2.2.2.2.2.2.2.2.2.2.2.1 (zr_int (c := 15) hk)
        refine zq_tabIn (off := 654) (tgt := 687) dL_law_33 (by rw [hk]; decide) (by rw [hk]; decide) (by rw [hk]; rfl) rfl ?_
        exact H
      · have H := H.2.2.2.2.2.2.2.2.2.2.2.2.2.2.2.2.1 (zr_int (c := 16) hk)
        refine zq_tabIn (off := 688) (tgt := 721) dL_law_33 (by rw [hk]; decide) (by rw [hk]; decide) (by rw [hk]; rfl) rfl ?_
        exact H
      · have H := H.2.2.2.2.2.2.2.2.2.2.2.2.2.2.2.2.2.1 (zr_int (c := 17) hk)
        refine zq_tabIn (off := 702) (tgt := 735) dL_law_33 (by rw [hk]; decide) (by rw [hk]; decide) (by rw [hk]; rfl) rfl ?_
        exact H
      · have H := H.2.2.2.2.2.2.2.2.2.2.2.2.2.2.2.2.2.2.1 (zr_int (c := 18) hk)
        refine zq_tabIn (off := 725) (tgt := 758) dL_law_33 (by rw [hk]; decide) (by rw [hk]; decide) (by rw [hk]; rfl) rfl ?_
        exact H
      · have H := H.2.2.2.2.2.2.2.2.2.2.2.2.2.2.2.2.2.2.2.1 (zr_int (c := 19) hk)
        refine zq_tabIn (off := 738) (tgt := 771) dL_law_33 (by rw [hk]; decide) (by rw [hk]; decide) (by rw [hk]; rfl) rfl ?_
        exact H
      · have H := H.2.2.2.2.2.2.2.2.2.2.2.2.2.2.2.2.2.2.2.2.1 (zr_int (c := 20) hk)
        refine zq_tabIn (off := 761) (tgt := 794) dL_law_33 (by rw [hk]; decide) (by rw [hk]; decide) (by rw [hk]; rfl) rfl ?_
        exact H
      · have H := H.2.2.2.2.2.2.2.2.2.2.2.2.2.2.2.2.2.2.2.2.2.1 (zr_int (c := 21) hk)
        refine zq_tabIn (off := 774) (tgt := 807) dL_law_33 (by rw [hk]; decide) (by rw [hk]; decide) (by rw [hk]; rfl) rfl ?_
        exact H
      · have H := H.2.2.2.2.2.2.2.2.2.2.2.2.2.2.2.2.2.2.2.2.2.2.1 (zr_int (c := 22) hk)
        refine zq_tabIn (off := 787) (tgt := 820) dL_law_33 (by rw [hk]; decide) (by rw [hk]; decide) (by rw [hk]; rfl) rfl ?_
        exact H
      · have H := H.2.2.2.2.2.2.2.2.2.2.2.2.2.2.2.2.2.2.2.2.2.2.2.1 (zr_int (c := 23) hk)
        refine zq_tabIn (off := 800) (tgt := 833) dL_law_33 (by rw [hk]; decide) (by rw [hk]; decide) (by rw [hk]; rfl) rfl ?_
        exact H
      · have H := H.2.2.2.2.2.2.2.2.2.2.2.2.2.2.2.2.2.2.2.2.2.2.2.2.1 (zr_int (c := 24) hk)
        refine zq_tabIn (off := 814) (tgt := 847) dL_law_33 (by rw [hk]; decide) (by rw [hk]; decide) (by rw [hk]; rfl) rfl ?_
        exact H
      · have H := H.2.2.2.2.2.2.2.2.2.2.2.2.2.2.2.2.2.2.2.2.2.2.2.2.2.1 (zr_int (c := 25) hk)
        refine zq_tabIn (off := 827) (tgt := 860) dL_law_33 (by rw [hk]; decide) (by rw [hk]; decide) (by rw [hk]; rfl) rfl ?_
        exact H
      · have H := H.2.2.2.2.2.2.2.2.2.2.2.2.2.2.2.2.2.2.2.2.2.2.2.2.2.2.1 (zr_int (c := 26) hk)
        refine zq_tabIn (off := 850) (tgt := 883) dL_law_33 (by rw [hk]; decide) (by rw [hk]; decide) (by rw [hk]; rfl) rfl ?_
        exact H
      · have H := H.2.2.2.2.2.2.2.2.2.2.2.2.2.2.2.2.2.2.2.2.2.2.2.2.2.2.2.1 (zr_int (c := 27) hk)
        refine zq_tabIn (off := 873) (tgt := 906) dL_law_33 (by rw [hk]; decide) (by rw [hk]; decide) (by rw [hk]; rfl) rfl ?_
        exact H
      · have H := H.2.2.2.2.2.2.2.2.2.2.2.2.2.2.2.2.2.2.2.2.2.2.2.2.2.2.2.2.1 (zr_int (c := 28) hk)
        refine zq_tabIn (off := 906) (tgt := 939) dL_law_33 (by rw [hk]; decide) (by rw [hk]; decide) (by rw [hk]; rfl) rfl ?_
        exact H
      · have H := H.2.2.2.2.2.2.2.2.2.2.2.2.2.2.2.2.2.2.2.2.2.2.2.2.2.2.2.2.2.1 (zr_int (c := 29) hk)
        refine zq_tabIn (off := 979) (tgt := 1012) dL_law_33 (by rw [hk]; decide) (by rw [hk]; decide) (by rw [hk]; rfl) rfl ?_
        exact H
      · have H := H.2.2.2.2.2.2.2.2.2.2.2.2.2.2.2.2.2.2.2.2.2.2.2.2.2.2.2.2.2.2.1 (zr_int (c := 30) hk)
        refine zq_tabIn (off := 1013) (tgt := 1046) dL_law_33 (by rw [hk]; decide) (by rw [hk]; decide) (by rw [hk]; rfl) rfl ?_
        exact H
      · have H := H.2.2.2.2.2.2.2.2.2.2.2.2.2.2.2.2.2.2.2.2.2.2.2.2.2.2.2.2.2.2.2.1 (zr_int (c := 31) hk)
        refine zq_tabIn (off := 1076) (tgt := 1109) dL_law_33 (by rw [hk]; decide) (by rw [hk]; decide) (by rw [hk]; rfl) rfl ?_
        exact H
      · have H := H.2.2.2.2.2.2.2.2.2.2.2.2.2.2.2.2.2.2.2.2.2.2.2.2.2.2.2.2.2.2.2.2.1 (zr_int (c := 32) hk)
        refine zq_tabIn (off := 1119) (tgt := 1152) dL_law_33 (by rw [hk]; decide) (by rw [hk]; decide) (by rw [hk]; rfl) rfl ?_
        exact H
      · have H := H.2.2.2.2.2.2.2.2.2.2.2.2.2.2.2.2.2.2.2.2.2.2.2.2.2.2.2.2.2.2.2.2.2.1 (zr_int (c := 33) hk)
        refine zq_tabIn (off := 1162) (tgt := 1195) dL_law_33 (by rw [hk]; decide) (by rw [hk]; decide) (by rw [hk]; rfl) rfl ?_
        exact H
      · have H := H.2.2.2.2.2.2.2.2.2.2.2.2.2.2.2.2.2.2.2.2.2.2.2.2.2.2.2.2.2.2.2.2.2.2 (zr_int (c := 34) hk)
        refine zq_tabIn (off := 1175) (tgt := 1208) dL_law_33 (by rw [hk]; decide) (by rw [hk]; decide) (by rw [hk]; rfl) rfl ?_
        exact H
set_option maxHeartbeats 2000000 in
set_option maxRecDepth 20000 in
theorem r_L_law_188 {d : Nat} {h : AH} {Q : Option Value → AH → Prop} (L : Nat) (xs : Nat → Int32) (i3 : Int32) (hw : zWF h)  (H : vp_in (i3 + (nI 1)) L ∧ (vp_in (i3 + (nI 2)) L ∧ (vp_in (i3 + (nI 3)) L ∧ (zK d m_X10_add [.ref 1, .int (xs (i3 + (nI 1)).toNatClampNeg), .int (xs (i3 + (nI 2)).toNatClampNeg), .int (xs (i3 + (nI 3)).toNatClampNeg)] h (kI fun x5 h4 => vp_in (i3 + (nI 1)) L ∧ (vp_in (i3 + (nI 2)) L ∧ (vp_in (i3 + (nI 3)) L ∧ (zK d m_X11_add [.ref 53, .int (xs (i3 + (nI 1)).toNatClampNeg), .int (xs (i3 + (nI 2)).toNatClampNeg), .int (xs (i3 + (nI 3)).toNatClampNeg)] h4 (kI fun x10 h9 => (x5 = x10 → zQ (some (L, xs)) m_L_law (d + 1) 18 [(0, .ref 0), (1, .ref 1), (2, .ref 53), (3, .int (i3 + (nI 6)))] [] h9 Q) ∧ (¬ x5 = x10 → Q (some (.int (nI 0))) h9)))))))))) : zQ (some (L, xs)) m_L_law (d + 1) 188 [(0, .ref 0), (1, .ref 1), (2, .ref 53), (3, .int i3)] [] h Q := by
  refine zq_aload_n (k := 1) (i := 1) (x := 1) 1 rfl rfl dL_law_188 ?_
  refine zq_aload_n (k := 0) (i := 0) (x := 0) 0 rfl rfl dL_law_189 ?_
  refine zq_iload_n (k := 3) (i := 3) (x := i3) 3 rfl rfl dL_law_190 ?_
  refine zq_iconst (v := (nI 1)) rfl dL_law_191 ?_
  refine zq_iadd dL_law_192 ?_
  obtain ⟨b1, H⟩ := H
  refine zq_sld b1 dL_law_193 ?_
  refine zq_aload_n (k := 0) (i := 0) (x := 0) 0 rfl rfl dL_law_194 ?_
  refine zq_iload_n (k := 3) (i := 3) (x := i3) 3 rfl rfl dL_law_195 ?_
  refine zq_iconst (v := (nI 2)) rfl dL_law_196 ?_
  refine zq_iadd dL_law_197 ?_
  obtain ⟨b2, H⟩ := H
  refine zq_sld b2 dL_law_198 ?_
  refine zq_aload_n (k := 0) (i := 0) (x := 0) 0 rfl rfl dL_law_199 ?_
  refine zq_iload_n (k := 3) (i := 3) (x := i3) 3 rfl rfl dL_law_200 ?_
  refine zq_iconst (v := (nI 3)) rfl dL_law_201 ?_
  refine zq_iadd dL_law_202 ?_
  obtain ⟨b3, H⟩ := H
  refine zq_sld b3 dL_law_203 ?_
  refine zq_invV (as := [.int (xs (i3 + (nI 1)).toNatClampNeg), .int (xs (i3 + (nI 2)).toNatClampNeg), .int (xs (i3 + (nI 3)).toNatClampNeg)]) (st := []) (o := 1) (c := 9) (by decide) rfl (sh_1 hw) in_X10_add se_X10_add mo_X10_add ml_RL_13 rfl (Nat.le_of_ble_eq_true rfl) dL_law_204 rfl H (fun r1 h4 hq => ?_)
  obtain ⟨x5, rfl, wh4, H⟩ := hq
  show zQ (some (L, xs)) m_L_law (d + 1) 207 [(0, .ref 0), (1, .ref 1), (2, .ref 53), (3, .int i3)] (.int x5 :: []) h4 Q
  refine zq_aload_n (k := 2) (i := 2) (x := 53) 2 rfl rfl dL_law_207 ?_
  refine zq_aload_n (k := 0) (i := 0) (x := 0) 0 rfl rfl dL_law_208 ?_
  refine zq_iload_n (k := 3) (i := 3) (x := i3) 3 rfl rfl dL_law_209 ?_
  refine zq_iconst (v := (nI 1)) rfl dL_law_210 ?_
  refine zq_iadd dL_law_211 ?_
  obtain ⟨b6, H⟩ := H
  refine zq_sld b6 dL_law_212 ?_
  refine zq_aload_n (k := 0) (i := 0) (x := 0) 0 rfl rfl dL_law_213 ?_
  refine zq_iload_n (k := 3) (i := 3) (x := i3) 3 rfl rfl dL_law_214 ?_
  refine zq_iconst (v := (nI 2)) rfl dL_law_215 ?_
  refine zq_iadd dL_law_216 ?_
  obtain ⟨b7, H⟩ := H
  refine zq_sld b7 dL_law_217 ?_
  refine zq_aload_n (k := 0) (i := 0) (x := 0) 0 rfl rfl dL_law_218 ?_
  refine zq_iload_n (k := 3) (i := 3) (x := i3) 3 rfl rfl dL_law_219 ?_
  refine zq_iconst (v := (nI 3)) rfl dL_law_220 ?_
  refine zq_iadd dL_law_221 ?_
  obtain ⟨b8, H⟩ := H
  refine zq_sld b8 dL_law_222 ?_
  refine zq_invV (as := [.int (xs (i3 + (nI 1)).toNatClampNeg), .int (xs (i3 + (nI 2)).toNatClampNeg), .int (xs (i3 + (nI 3)).toNatClampNeg)]) (st := .int x5 :: []) (o := 53) (c := 10) (by decide) rfl (sh_53 wh4) in_X11_add se_X11_add mo_X11_add ml_RL_17 rfl (Nat.le_of_ble_eq_true rfl) dL_law_223 rfl H (fun r1 h9 hq => ?_)
  obtain ⟨x10, rfl, wh9, H⟩ := hq
  show zQ (some (L, xs)) m_L_law (d + 1) 226 [(0, .ref 0), (1, .ref 1), (2, .ref 53), (3, .int i3)] (.int x10 :: .int x5 :: []) h9 Q
  refine zq_icmp_eq (tgt := 1221) dL_law_226 rfl ⟨fun c11 => ?_, fun c11 => ?_⟩
  · have H := H.1 c11
    refine zq_iinc (i := 3) (x := i3) (v := (nI 6)) (ls' := [(3, .int (i3 + (nI 6))), (0, .ref 0), (1, .ref 1), (2, .ref 53)]) 3 rfl rfl (Nat.le_of_ble_eq_true rfl) rfl dL_law_1221 ?_
    refine zq_goto (tgt := 18) dL_law_1224 rfl ?_
    exact zq_sub (ls' := [(0, .ref 0), (1, .ref 1), (2, .ref 53), (3, .int (i3 + (nI 6)))]) [1, 2, 3, 0] rfl H
  · have H := H.2 c11
    refine zq_iconst (v := (nI 0)) rfl dL_law_229 ?_
    exact zq_iret dL_law_230 rfl rfl rfl H
set_option maxHeartbeats 2000000 in
set_option maxRecDepth 20000 in
theorem r_L_law_231 {d : Nat} {h : AH} {Q : Option Value → AH → Prop} (L : Nat) (xs : Nat → Int32) (i3 : Int32) (hw : zWF h)  (H : vp_in (i3 + (nI 1)) L ∧ (vp_in (i3 + (nI 2)) L ∧ (zK d m_X10_cut [.ref 1, .int (xs (i3 + (nI 1)).toNatClampNeg), .int (xs (i3 + (nI 2)).toNatClampNeg)] h (kI fun x4 h3 => vp_in (i3 + (nI 1)) L ∧ (vp_in (i3 + (nI 2)) L ∧ (zK d m_X11_cut [.ref 53, .int (xs (i3 + (nI 1)).toNatClampNeg), .int (xs (i3 + (nI 2)).toNatClampNeg)] h3 (kI fun x8 h7 => (x4 = x8 → zQ (some (L, xs)) m_L_law (d + 1) 18 [(0, .ref 0), (1, .ref 1), (2, .ref 53), (3, .int (i3 + (nI 6)))] [] h7 Q) ∧ (¬ x4 = x8 → Q (some (.int (nI 0))) h7)))))))) : zQ (some (L, xs)) m_L_law (d + 1) 231 [(0, .ref 0), (1, .ref 1), (2, .ref 53), (3, .int i3)] [] h Q := by
  refine zq_aload_n (k := 1) (i := 1) (x := 1) 1 rfl rfl dL_law_231 ?_
  refine zq_aload_n (k := 0) (i := 0) (x := 0) 0 rfl rfl dL_law_232 ?_
  refine zq_iload_n (k := 3) (i := 3) (x := i3) 3 rfl rfl dL_law_233 ?_
  refine zq_iconst (v := (nI 1)) rfl dL_law_234 ?_
  refine zq_iadd dL_law_235 ?_
  obtain ⟨b1, H⟩ := H
  refine zq_sld b1 dL_law_236 ?_
  refine zq_aload_n (k := 0) (i := 0) (x := 0) 0 rfl rfl dL_law_237 ?_
  refine zq_iload_n (k := 3) (i := 3) (x := i3) 3 rfl rfl dL_law_238 ?_
  refine zq_iconst (v := (nI 2)) rfl dL_law_239 ?_
  refine zq_iadd dL_law_240 ?_
  obtain ⟨b2, H⟩ := H
  refine zq_sld b2 dL_law_241 ?_
  refine zq_invV (as := [.int (xs (i3 + (nI 1)).toNatClampNeg), .int (xs (i3 + (nI 2)).toNatClampNeg)]) (st := []) (o := 1) (c := 9) (by decide) rfl (sh_1 hw) in_X10_cut se_X10_cut mo_X10_cut ml_RL_18 rfl (Nat.le_of_ble_eq_true rfl) dL_law_242 rfl H (fun r1 h3 hq => ?_)
  obtain ⟨x4, rfl, wh3, H⟩ := hq
  show zQ (some (L, xs)) m_L_law (d + 1) 245 [(0, .ref 0), (1, .ref 1), (2, .ref 53), (3, .int i3)] (.int x4 :: []) h3 Q
  refine zq_aload_n (k := 2) (i := 2) (x := 53) 2 rfl rfl dL_law_245 ?_
  refine zq_aload_n (k := 0) (i := 0) (x := 0) 0 rfl rfl dL_law_246 ?_
  refine zq_iload_n (k := 3) (i := 3) (x := i3) 3 rfl rfl dL_law_247 ?_
  refine zq_iconst (v := (nI 1)) rfl dL_law_248 ?_
  refine zq_iadd dL_law_249 ?_
  obtain ⟨b5, H⟩ := H
  refine zq_sld b5 dL_law_250 ?_
  refine zq_aload_n (k := 0) (i := 0) (x := 0) 0 rfl rfl dL_law_251 ?_
  refine zq_iload_n (k := 3) (i := 3) (x := i3) 3 rfl rfl dL_law_252 ?_
  refine zq_iconst (v := (nI 2)) rfl dL_law_253 ?_
  refine zq_iadd dL_law_254 ?_
  obtain ⟨b6, H⟩ := H
  refine zq_sld b6 dL_law_255 ?_
  refine zq_invV (as := [.int (xs (i3 + (nI 1)).toNatClampNeg), .int (xs (i3 + (nI 2)).toNatClampNeg)]) (st := .int x4 :: []) (o := 53) (c := 10) (by decide) rfl (sh_53 wh3) in_X11_cut se_X11_cut mo_X11_cut ml_RL_22 rfl (Nat.le_of_ble_eq_true rfl) dL_law_256 rfl H (fun r1 h7 hq => ?_)
  obtain ⟨x8, rfl, wh7, H⟩ := hq
  show zQ (some (L, xs)) m_L_law (d + 1) 259 [(0, .ref 0), (1, .ref 1), (2, .ref 53), (3, .int i3)] (.int x8 :: .int x4 :: []) h7 Q
  refine zq_icmp_eq (tgt := 1221) dL_law_259 rfl ⟨fun c9 => ?_, fun c9 => ?_⟩
  · have H := H.1 c9
    refine zq_iinc (i := 3) (x := i3) (v := (nI 6)) (ls' := [(3, .int (i3 + (nI 6))), (0, .ref 0), (1, .ref 1), (2, .ref 53)]) 3 rfl rfl (Nat.le_of_ble_eq_true rfl) rfl dL_law_1221 ?_
    refine zq_goto (tgt := 18) dL_law_1224 rfl ?_
    exact zq_sub (ls' := [(0, .ref 0), (1, .ref 1), (2, .ref 53), (3, .int (i3 + (nI 6)))]) [1, 2, 3, 0] rfl H
  · have H := H.2 c9
    refine zq_iconst (v := (nI 0)) rfl dL_law_262 ?_
    exact zq_iret dL_law_263 rfl rfl rfl H
set_option maxHeartbeats 2000000 in
set_option maxRecDepth 20000 in
theorem r_L_law_264 {d : Nat} {h : AH} {Q : Option Value → AH → Prop} (L : Nat) (xs : Nat → Int32) (i3 : Int32) (hw : zWF h)  (H : vp_in (i3 + (nI 1)) L ∧ (vp_in (i3 + (nI 2)) L ∧ (zK d m_X10_worth [.ref 1, .int (xs (i3 + (nI 1)).toNatClampNeg), .int (xs (i3 + (nI 2)).toNatClampNeg)] h (kL fun x4 h3 => vp_in (i3 + (nI 1)) L ∧ (vp_in (i3 + (nI 2)) L ∧ (zK d m_X11_worth [.ref 53, .int (xs (i3 + (nI 1)).toNatClampNeg), .int (xs (i3 + (nI 2)).toNatClampNeg)] h3 (kL fun x8 h7 => ((lg_cmp x4 x8) = 0 → zQ (some (L, xs)) m_L_law (d + 1) 18 [(0, .ref 0), (1, .ref 1), (2, .ref 53), (3, .int (i3 + (nI 6)))] [] h7 Q) ∧ (¬ (lg_cmp x4 x8) = 0 → Q (some (.int (nI 0))) h7)))))))) : zQ (some (L, xs)) m_L_law (d + 1) 264 [(0, .ref 0), (1, .ref 1), (2, .ref 53), (3, .int i3)] [] h Q := by
  refine zq_aload_n (k := 1) (i := 1) (x := 1) 1 rfl rfl dL_law_264 ?_
  refine zq_aload_n (k := 0) (i := 0) (x := 0) 0 rfl rfl dL_law_265 ?_
  refine zq_iload_n (k := 3) (i := 3) (x := i3) 3 rfl rfl dL_law_266 ?_
  refine zq_iconst (v := (nI 1)) rfl dL_law_267 ?_
  refine zq_iadd dL_law_268 ?_
  obtain ⟨b1, H⟩ := H
  refine zq_sld b1 dL_law_269 ?_
  refine zq_aload_n (k := 0) (i := 0) (x := 0) 0 rfl rfl dL_law_270 ?_
  refine zq_iload_n (k := 3) (i := 3) (x := i3) 3 rfl rfl dL_law_271 ?_
  refine zq_iconst (v := (nI 2)) rfl dL_law_272 ?_
  refine zq_iadd dL_law_273 ?_
  obtain ⟨b2, H⟩ := H
  refine zq_sld b2 dL_law_274 ?_
  refine zq_invV (as := [.int (xs (i3 + (nI 1)).toNatClampNeg), .int (xs (i3 + (nI 2)).toNatClampNeg)]) (st := []) (o := 1) (c := 9) (by decide) rfl (sh_1 hw) in_X10_worth se_X10_worth mo_X10_worth ml_RL_23 rfl (Nat.le_of_ble_eq_true rfl) dL_law_275 rfl H (fun r1 h3 hq => ?_)
  obtain ⟨x4, rfl, wh3, H⟩ := hq
  show zQ (some (L, xs)) m_L_law (d + 1) 278 [(0, .ref 0), (1, .ref 1), (2, .ref 53), (3, .int i3)] (.long x4 :: []) h3 Q
  refine zq_aload_n (k := 2) (i := 2) (x := 53) 2 rfl rfl dL_law_278 ?_
  refine zq_aload_n (k := 0) (i := 0) (x := 0) 0 rfl rfl dL_law_279 ?_
  refine zq_iload_n (k := 3) (i := 3) (x := i3) 3 rfl rfl dL_law_280 ?_
  refine zq_iconst (v := (nI 1)) rfl dL_law_281 ?_
  refine zq_iadd dL_law_282 ?_
  obtain ⟨b5, H⟩ := H
  refine zq_sld b5 dL_law_283 ?_
  refine zq_aload_n (k := 0) (i := 0) (x := 0) 0 rfl rfl dL_law_284 ?_
  refine zq_iload_n (k := 3) (i := 3) (x := i3) 3 rfl rfl dL_law_285 ?_
  refine zq_iconst (v := (nI 2)) rfl dL_law_286 ?_
  refine zq_iadd dL_law_287 ?_
  obtain ⟨b6, H⟩ := H
  refine zq_sld b6 dL_law_288 ?_
  refine zq_invV (as := [.int (xs (i3 + (nI 1)).toNatClampNeg), .int (xs (i3 + (nI 2)).toNatClampNeg)]) (st := .long x4 :: []) (o := 53) (c := 10) (by decide) rfl (sh_53 wh3) in_X11_worth se_X11_worth mo_X11_worth ml_RL_27 rfl (Nat.le_of_ble_eq_true rfl) dL_law_289 rfl H (fun r1 h7 hq => ?_)
  obtain ⟨x8, rfl, wh7, H⟩ := hq
  show zQ (some (L, xs)) m_L_law (d + 1) 292 [(0, .ref 0), (1, .ref 1), (2, .ref 53), (3, .int i3)] (.long x8 :: .long x4 :: []) h7 Q
  refine zq_lcmp dL_law_292 ?_
  refine zq_if_eq (tgt := 1221) dL_law_293 rfl ⟨fun c9 => ?_, fun c9 => ?_⟩
  · have H := H.1 c9
    refine zq_iinc (i := 3) (x := i3) (v := (nI 6)) (ls' := [(3, .int (i3 + (nI 6))), (0, .ref 0), (1, .ref 1), (2, .ref 53)]) 3 rfl rfl (Nat.le_of_ble_eq_true rfl) rfl dL_law_1221 ?_
    refine zq_goto (tgt := 18) dL_law_1224 rfl ?_
    exact zq_sub (ls' := [(0, .ref 0), (1, .ref 1), (2, .ref 53), (3, .int (i3 + (nI 6)))]) [1, 2, 3, 0] rfl H
  · have H := H.2 c9
    refine zq_iconst (v := (nI 0)) rfl dL_law_296 ?_
    exact zq_iret dL_law_297 rfl rfl rfl H
set_option maxHeartbeats 2000000 in
set_option maxRecDepth 20000 in
theorem r_L_law_298 {d : Nat} {h : AH} {Q : Option Value → AH → Prop} (L : Nat) (xs : Nat → Int32) (i3 : Int32) (hw : zWF h)  (H : vp_in (i3 + (nI 1)) L ∧ (vp_in (i3 + (nI 2)) L ∧ (zK d m_X10_of [.ref 1, .int (xs (i3 + (nI 1)).toNatClampNeg), .int (xs (i3 + (nI 2)).toNatClampNeg)] h (kI fun x4 h3 => vp_in (i3 + (nI 1)) L ∧ (vp_in (i3 + (nI 2)) L ∧ (zK d m_X11_of [.ref 53, .int (xs (i3 + (nI 1)).toNatClampNeg), .int (xs (i3 + (nI 2)).toNatClampNeg)] h3 (kI fun x8 h7 => (x4 = x8 → zQ (some (L, xs)) m_L_law (d + 1) 18 [(0, .ref 0), (1, .ref 1), (2, .ref 53), (3, .int (i3 + (nI 6)))] [] h7 Q) ∧ (¬ x4 = x8 → Q (some (.int (nI 0))) h7)))))))) : zQ (some (L, xs)) m_L_law (d + 1) 298 [(0, .ref 0), (1, .ref 1), (2, .ref 53), (3, .int i3)] [] h Q := by
  refine zq_aload_n (k := 1) (i := 1) (x := 1) 1 rfl rfl dL_law_298 ?_
  refine zq_aload_n (k := 0) (i := 0) (x := 0) 0 rfl rfl dL_law_299 ?_
  refine zq_iload_n (k := 3) (i := 3) (x := i3) 3 rfl rfl dL_law_300 ?_
  refine zq_iconst (v := (nI 1)) rfl dL_law_301 ?_
  refine zq_iadd dL_law_302 ?_
  obtain ⟨b1, H⟩ := H
  refine zq_sld b1 dL_law_303 ?_
  refine zq_aload_n (k := 0) (i := 0) (x := 0) 0 rfl rfl dL_law_304 ?_
  refine zq_iload_n (k := 3) (i := 3) (x := i3) 3 rfl rfl dL_law_305 ?_
  refine zq_iconst (v := (nI 2)) rfl dL_law_306 ?_
  refine zq_iadd dL_law_307 ?_
  obtain ⟨b2, H⟩ := H
  refine zq_sld b2 dL_law_308 ?_
  refine zq_invV (as := [.int (xs (i3 + (nI 1)).toNatClampNeg), .int (xs (i3 + (nI 2)).toNatClampNeg)]) (st := []) (o := 1) (c := 9) (by decide) rfl (sh_1 hw) in_X10_of se_X10_of mo_X10_of ml_RL_28 rfl (Nat.le_of_ble_eq_true rfl) dL_law_309 rfl H (fun r1 h3 hq => ?_)
  obtain ⟨x4, rfl, wh3, H⟩ := hq
  show zQ (some (L, xs)) m_L_law (d + 1) 312 [(0, .ref 0), (1, .ref 1), (2, .ref 53), (3, .int i3)] (.int x4 :: []) h3 Q
  refine zq_aload_n (k := 2) (i := 2) (x := 53) 2 rfl rfl dL_law_312 ?_
  refine zq_aload_n (k := 0) (i := 0) (x := 0) 0 rfl rfl dL_law_313 ?_
  refine zq_iload_n (k := 3) (i := 3) (x := i3) 3 rfl rfl dL_law_314 ?_
  refine zq_iconst (v := (nI 1)) rfl dL_law_315 ?_
  refine zq_iadd dL_law_316 ?_
  obtain ⟨b5, H⟩ := H
  refine zq_sld b5 dL_law_317 ?_
  refine zq_aload_n (k := 0) (i := 0) (x := 0) 0 rfl rfl dL_law_318 ?_
  refine zq_iload_n (k := 3) (i := 3) (x := i3) 3 rfl rfl dL_law_319 ?_
  refine zq_iconst (v := (nI 2)) rfl dL_law_320 ?_
  refine zq_iadd dL_law_321 ?_
  obtain ⟨b6, H⟩ := H
  refine zq_sld b6 dL_law_322 ?_
  refine zq_invV (as := [.int (xs (i3 + (nI 1)).toNatClampNeg), .int (xs (i3 + (nI 2)).toNatClampNeg)]) (st := .int x4 :: []) (o := 53) (c := 10) (by decide) rfl (sh_53 wh3) in_X11_of se_X11_of mo_X11_of ml_RL_31 rfl (Nat.le_of_ble_eq_true rfl) dL_law_323 rfl H (fun r1 h7 hq => ?_)
  obtain ⟨x8, rfl, wh7, H⟩ := hq
  show zQ (some (L, xs)) m_L_law (d + 1) 326 [(0, .ref 0), (1, .ref 1), (2, .ref 53), (3, .int i3)] (.int x8 :: .int x4 :: []) h7 Q
  refine zq_icmp_eq (tgt := 1221) dL_law_326 rfl ⟨fun c9 => ?_, fun c9 => ?_⟩
  · have H := H.1 c9
    refine zq_iinc (i := 3) (x := i3) (v := (nI 6)) (ls' := [(3, .int (i3 + (nI 6))), (0, .ref 0), (1, .ref 1), (2, .ref 53)]) 3 rfl rfl (Nat.le_of_ble_eq_true rfl) rfl dL_law_1221 ?_
    refine zq_goto (tgt := 18) dL_law_1224 rfl ?_
    exact zq_sub (ls' := [(0, .ref 0), (1, .ref 1), (2, .ref 53), (3, .int (i3 + (nI 6)))]) [1, 2, 3, 0] rfl H
  · have H := H.2 c9
    refine zq_iconst (v := (nI 0)) rfl dL_law_329 ?_
    exact zq_iret dL_law_330 rfl rfl rfl H
set_option maxHeartbeats 2000000 in
set_option maxRecDepth 20000 in
theorem r_L_law_331 {d : Nat} {h : AH} {Q : Option Value → AH → Prop} (L : Nat) (xs : Nat → Int32) (i3 : Int32) (hw : zWF h)  (H : vp_in (i3 + (nI 1)) L ∧ (vp_in (i3 + (nI 2)) L ∧ (vp_in (i3 + (nI 3)) L ∧ (zK d m_X10_two [.ref 1, .int (xs (i3 + (nI 1)).toNatClampNeg), .int (xs (i3 + (nI 2)).toNatClampNeg), .int (xs (i3 + (nI 3)).toNatClampNeg)] h (kI fun x5 h4 => vp_in (i3 + (nI 1)) L ∧ (vp_in (i3 + (nI 2)) L ∧ (vp_in (i3 + (nI 3)) L ∧ (zK d m_X11_two [.ref 53, .int (xs (i3 + (nI 1)).toNatClampNeg), .int (xs (i3 + (nI 2)).toNatClampNeg), .int (xs (i3 + (nI 3)).toNatClampNeg)] h4 (kI fun x10 h9 => (x5 = x10 → zQ (some (L, xs)) m_L_law (d + 1) 18 [(0, .ref 0), (1, .ref 1), (2, .ref 53), (3, .int (i3 + (nI 6)))] [] h9 Q) ∧ (¬ x5 = x10 → Q (some (.int (nI 0))) h9)))))))))) : zQ (some (L, xs)) m_L_law (d + 1) 331 [(0, .ref 0), (1, .ref 1), (2, .ref 53), (3, .int i3)] [] h Q := by
  refine zq_aload_n (k := 1) (i := 1) (x := 1) 1 rfl rfl dL_law_331 ?_
  refine zq_aload_n (k := 0) (i := 0) (x := 0) 0 rfl rfl dL_law_332 ?_
  refine zq_iload_n (k := 3) (i := 3) (x := i3) 3 rfl rfl dL_law_333 ?_
  refine zq_iconst (v := (nI 1)) rfl dL_law_334 ?_
  refine zq_iadd dL_law_335 ?_
  obtain ⟨b1, H⟩ := H
  refine zq_sld b1 dL_law_336 ?_
  refine zq_aload_n (k := 0) (i := 0) (x := 0) 0 rfl rfl dL_law_337 ?_
  refine zq_iload_n (k := 3) (i := 3) (x := i3) 3 rfl rfl dL_law_338 ?_
  refine zq_iconst (v := (nI 2)) rfl dL_law_339 ?_
  refine zq_iadd dL_law_340 ?_
  obtain ⟨b2, H⟩ := H
  refine zq_sld b2 dL_law_341 ?_
  refine zq_aload_n (k := 0) (i := 0) (x := 0) 0 rfl rfl dL_law_342 ?_
  refine zq_iload_n (k := 3) (i := 3) (x := i3) 3 rfl rfl dL_law_343 ?_
  refine zq_iconst (v := (nI 3)) rfl dL_law_344 ?_
  refine zq_iadd dL_law_345 ?_
  obtain ⟨b3, H⟩ := H
  refine zq_sld b3 dL_law_346 ?_
  refine zq_invV (as := [.int (xs (i3 + (nI 1)).toNatClampNeg), .int (xs (i3 + (nI 2)).toNatClampNeg), .int (xs (i3 + (nI 3)).toNatClampNeg)]) (st := []) (o := 1) (c := 9) (by decide) rfl (sh_1 hw) in_X10_two se_X10_two mo_X10_two ml_RL_32 rfl (Nat.le_of_ble_eq_true rfl) dL_law_347 rfl H (fun r1 h4 hq => ?_)
  obtain ⟨x5, rfl, wh4, H⟩ := hq
  show zQ (some (L, xs)) m_L_law (d + 1) 350 [(0, .ref 0), (1, .ref 1), (2, .ref 53), (3, .int i3)] (.int x5 :: []) h4 Q
  refine zq_aload_n (k := 2) (i := 2) (x := 53) 2 rfl rfl dL_law_350 ?_
  refine zq_aload_n (k := 0) (i := 0) (x := 0) 0 rfl rfl dL_law_351 ?_
  refine zq_iload_n (k := 3) (i := 3) (x := i3) 3 rfl rfl dL_law_352 ?_
  refine zq_iconst (v := (nI 1)) rfl dL_law_353 ?_
  refine zq_iadd dL_law_354 ?_
  obtain ⟨b6, H⟩ := H
  refine zq_sld b6 dL_law_355 ?_
  refine zq_aload_n (k := 0) (i := 0) (x := 0) 0 rfl rfl dL_law_356 ?_
  refine zq_iload_n (k := 3) (i := 3) (x := i3) 3 rfl rfl dL_law_357 ?_
  refine zq_iconst (v := (nI 2)) rfl dL_law_358 ?_
  refine zq_iadd dL_law_359 ?_
  obtain ⟨b7, H⟩ := H
  refine zq_sld b7 dL_law_360 ?_
  refine zq_aload_n (k := 0) (i := 0) (x := 0) 0 rfl rfl dL_law_361 ?_
  refine zq_iload_n (k := 3) (i := 3) (x := i3) 3 rfl rfl dL_law_362 ?_
  refine zq_iconst (v := (nI 3)) rfl dL_law_363 ?_
  refine zq_iadd dL_law_364 ?_
  obtain ⟨b8, H⟩ := H
  refine zq_sld b8 dL_law_365 ?_
  refine zq_invV (as := [.int (xs (i3 + (nI 1)).toNatClampNeg), .int (xs (i3 + (nI 2)).toNatClampNeg), .int (xs (i3 + (nI 3)).toNatClampNeg)]) (st := .int x5 :: []) (o := 53) (c := 10) (by decide) rfl (sh_53 wh4) in_X11_two se_X11_two mo_X11_two ml_RL_35 rfl (Nat.le_of_ble_eq_true rfl) dL_law_366 rfl H (fun r1 h9 hq => ?_)
  obtain ⟨x10, rfl, wh9, H⟩ := hq
  show zQ (some (L, xs)) m_L_law (d + 1) 369 [(0, .ref 0), (1, .ref 1), (2, .ref 53), (3, .int i3)] (.int x10 :: .int x5 :: []) h9 Q
  refine zq_icmp_eq (tgt := 1221) dL_law_369 rfl ⟨fun c11 => ?_, fun c11 => ?_⟩
  · have H := H.1 c11
    refine zq_iinc (i := 3) (x := i3) (v := (nI 6)) (ls' := [(3, .int (i3 + (nI 6))), (0, .ref 0), (1, .ref 1), (2, .ref 53)]) 3 rfl rfl (Nat.le_of_ble_eq_true rfl) rfl dL_law_1221 ?_
    refine zq_goto (tgt := 18) dL_law_1224 rfl ?_
    exact zq_sub (ls' := [(0, .ref 0), (1, .ref 1), (2, .ref 53), (3, .int (i3 + (nI 6)))]) [1, 2, 3, 0] rfl H
  · have H := H.2 c11
    refine zq_iconst (v := (nI 0)) rfl dL_law_372 ?_
    exact zq_iret dL_law_373 rfl rfl rfl H
set_option maxHeartbeats 2000000 in
set_option maxRecDepth 20000 in
theorem r_L_law_374 {d : Nat} {h : AH} {Q : Option Value → AH → Prop} (L : Nat) (xs : Nat → Int32) (i3 : Int32) (hw : zWF h)  (H : vp_in (i3 + (nI 1)) L ∧ (vp_in (i3 + (nI 2)) L ∧ (vp_in (i3 + (nI 3)) L ∧ (zK d m_X10_edge [.ref 1, .int (xs (i3 + (nI 1)).toNatClampNeg), .int (xs (i3 + (nI 2)).toNatClampNeg), .int (xs (i3 + (nI 3)).toNatClampNeg)] h (kI fun x5 h4 => vp_in (i3 + (nI 1)) L ∧ (vp_in (i3 + (nI 2)) L ∧ (vp_in (i3 + (nI 3)) L ∧ (zK d m_X11_edge_ [.ref 53, .int (xs (i3 + (nI 1)).toNatClampNeg), .int (xs (i3 + (nI 2)).toNatClampNeg), .int (xs (i3 + (nI 3)).toNatClampNeg)] h4 (kI fun x10 h9 => (x5 = x10 → zQ (some (L, xs)) m_L_law (d + 1) 18 [(0, .ref 0), (1, .ref 1), (2, .ref 53), (3, .int (i3 + (nI 6)))] [] h9 Q) ∧ (¬ x5 = x10 → Q (some (.int (nI 0))) h9)))))))))) : zQ (some (L, xs)) m_L_law (d + 1) 374 [(0, .ref 0), (1, .ref 1), (2, .ref 53), (3, .int i3)] [] h Q := by
  refine zq_aload_n (k := 1) (i := 1) (x := 1) 1 rfl rfl dL_law_374 ?_
  refine zq_aload_n (k := 0) (i := 0) (x := 0) 0 rfl rfl dL_law_375 ?_
  refine zq_iload_n (k := 3) (i := 3) (x := i3) 3 rfl rfl dL_law_376 ?_
  refine zq_iconst (v := (nI 1)) rfl dL_law_377 ?_
  refine zq_iadd dL_law_378 ?_
  obtain ⟨b1, H⟩ := H
  refine zq_sld b1 dL_law_379 ?_
  refine zq_aload_n (k := 0) (i := 0) (x := 0) 0 rfl rfl dL_law_380 ?_
  refine zq_iload_n (k := 3) (i := 3) (x := i3) 3 rfl rfl dL_law_381 ?_
  refine zq_iconst (v := (nI 2)) rfl dL_law_382 ?_
  refine zq_iadd dL_law_383 ?_
  obtain ⟨b2, H⟩ := H
  refine zq_sld b2 dL_law_384 ?_
  refine zq_aload_n (k := 0) (i := 0) (x := 0) 0 rfl rfl dL_law_385 ?_
  refine zq_iload_n (k := 3) (i := 3) (x := i3) 3 rfl rfl dL_law_386 ?_
  refine zq_iconst (v := (nI 3)) rfl dL_law_387 ?_
  refine zq_iadd dL_law_388 ?_
  obtain ⟨b3, H⟩ := H
  refine zq_sld b3 dL_law_389 ?_
  refine zq_invV (as := [.int (xs (i3 + (nI 1)).toNatClampNeg), .int (xs (i3 + (nI 2)).toNatClampNeg), .int (xs (i3 + (nI 3)).toNatClampNeg)]) (st := []) (o := 1) (c := 9) (by decide) rfl (sh_1 hw) in_X10_edge se_X10_edge mo_X10_edge ml_RL_36 rfl (Nat.le_of_ble_eq_true rfl) dL_law_390 rfl H (fun r1 h4 hq => ?_)
  obtain ⟨x5, rfl, wh4, H⟩ := hq
  show zQ (some (L, xs)) m_L_law (d + 1) 393 [(0, .ref 0), (1, .ref 1), (2, .ref 53), (3, .int i3)] (.int x5 :: []) h4 Q
  refine zq_aload_n (k := 2) (i := 2) (x := 53) 2 rfl rfl dL_law_393 ?_
  refine zq_aload_n (k := 0) (i := 0) (x := 0) 0 rfl rfl dL_law_394 ?_
  refine zq_iload_n (k := 3) (i := 3) (x := i3) 3 rfl rfl dL_law_395 ?_
  refine zq_iconst (v := (nI 1)) rfl dL_law_396 ?_
  refine zq_iadd dL_law_397 ?_
  obtain ⟨b6, H⟩ := H
  refine zq_sld b6 dL_law_398 ?_
  refine zq_aload_n (k := 0) (i := 0) (x := 0) 0 rfl rfl dL_law_399 ?_
  refine zq_iload_n (k := 3) (i := 3) (x := i3) 3 rfl rfl dL_law_400 ?_
  refine zq_iconst (v := (nI 2)) rfl dL_law_401 ?_
  refine zq_iadd dL_law_402 ?_
  obtain ⟨b7, H⟩ := H
  refine zq_sld b7 dL_law_403 ?_
  refine zq_aload_n (k := 0) (i := 0) (x := 0) 0 rfl rfl dL_law_404 ?_
  refine zq_iload_n (k := 3) (i := 3) (x := i3) 3 rfl rfl dL_law_405 ?_
  refine zq_iconst (v := (nI 3)) rfl dL_law_406 ?_
  refine zq_iadd dL_law_407 ?_
  obtain ⟨b8, H⟩ := H
  refine zq_sld b8 dL_law_408 ?_
  refine zq_invV (as := [.int (xs (i3 + (nI 1)).toNatClampNeg), .int (xs (i3 + (nI 2)).toNatClampNeg), .int (xs (i3 + (nI 3)).toNatClampNeg)]) (st := .int x5 :: []) (o := 53) (c := 10) (by decide) rfl (sh_53 wh4) in_X11_edge_ se_X11_edge_ mo_X11_edge_ ml_RL_39 rfl (Nat.le_of_ble_eq_true rfl) dL_law_409 rfl H (fun r1 h9 hq => ?_)
  obtain ⟨x10, rfl, wh9, H⟩ := hq
  show zQ (some (L, xs)) m_L_law (d + 1) 412 [(0, .ref 0), (1, .ref 1), (2, .ref 53), (3, .int i3)] (.int x10 :: .int x5 :: []) h9 Q
  refine zq_icmp_eq (tgt := 1221) dL_law_412 rfl ⟨fun c11 => ?_, fun c11 => ?_⟩
  · have H := H.1 c11
    refine zq_iinc (i := 3) (x := i3) (v := (nI 6)) (ls' := [(3, .int (i3 + (nI 6))), (0, .ref 0), (1, .ref 1), (2, .ref 53)]) 3 rfl rfl (Nat.le_of_ble_eq_true rfl) rfl dL_law_1221 ?_
    refine zq_goto (tgt := 18) dL_law_1224 rfl ?_
    exact zq_sub (ls' := [(0, .ref 0), (1, .ref 1), (2, .ref 53), (3, .int (i3 + (nI 6)))]) [1, 2, 3, 0] rfl H
  · have H := H.2 c11
    refine zq_iconst (v := (nI 0)) rfl dL_law_415 ?_
    exact zq_iret dL_law_416 rfl rfl rfl H
set_option maxHeartbeats 2000000 in
set_option maxRecDepth 20000 in
theorem r_L_law_417 {d : Nat} {h : AH} {Q : Option Value → AH → Prop} (L : Nat) (xs : Nat → Int32) (i3 : Int32) (hw : zWF h)  (H : vp_in (i3 + (nI 1)) L ∧ (vp_in (i3 + (nI 2)) L ∧ (vp_in (i3 + (nI 3)) L ∧ (vp_in (i3 + (nI 4)) L ∧ (zK d m_X10_swap [.ref 1, .int (xs (i3 + (nI 1)).toNatClampNeg), .int (xs (i3 + (nI 2)).toNatClampNeg), .int (xs (i3 + (nI 3)).toNatClampNeg), .int (xs (i3 + (nI 4)).toNatClampNeg)] h (kI fun x6 h5 => vp_in (i3 + (nI 1)) L ∧ (vp_in (i3 + (nI 2)) L ∧ (vp_in (i3 + (nI 3)) L ∧ (vp_in (i3 + (nI 4)) L ∧ (zK d m_X11_swap [.ref 53, .int (xs (i3 + (nI 1)).toNatClampNeg), .int (xs (i3 + (nI 2)).toNatClampNeg), .int (xs (i3 + (nI 3)).toNatClampNeg), .int (xs (i3 + (nI 4)).toNatClampNeg)] h5 (kI fun x12 h11 => (x6 = x12 → zQ (some (L, xs)) m_L_law (d + 1) 18 [(0, .ref 0), (1, .ref 1), (2, .ref 53), (3, .int (i3 + (nI 6)))] [] h11 Q) ∧ (¬ x6 = x12 → Q (some (.int (nI 0))) h11)))))))))))) : zQ (some (L, xs)) m_L_law (d + 1) 417 [(0, .ref 0), (1, .ref 1), (2, .ref 53), (3, .int i3)] [] h Q := by
  refine zq_aload_n (k := 1) (i := 1) (x := 1) 1 rfl rfl dL_law_417 ?_
  refine zq_aload_n (k := 0) (i := 0) (x := 0) 0 rfl rfl dL_law_418 ?_
  refine zq_iload_n (k := 3) (i := 3) (x := i3) 3 rfl rfl dL_law_419 ?_
  refine zq_iconst (v := (nI 1)) rfl dL_law_420 ?_
  refine zq_iadd dL_law_421 ?_
  obtain ⟨b1, H⟩ := H
  refine zq_sld b1 dL_law_422 ?_
  refine zq_aload_n (k := 0) (i := 0) (x := 0) 0 rfl rfl dL_law_423 ?_
  refine zq_iload_n (k := 3) (i := 3) (x := i3) 3 rfl rfl dL_law_424 ?_
  refine zq_iconst (v := (nI 2)) rfl dL_law_425 ?_
  refine zq_iadd dL_law_426 ?_
  obtain ⟨b2, H⟩ := H
  refine zq_sld b2 dL_law_427 ?_
  refine zq_aload_n (k := 0) (i := 0) (x := 0) 0 rfl rfl dL_law_428 ?_
  refine zq_iload_n (k := 3) (i := 3) (x := i3) 3 rfl rfl dL_law_429 ?_
  refine zq_iconst (v := (nI 3)) rfl dL_law_430 ?_
  refine zq_iadd dL_law_431 ?_
  obtain ⟨b3, H⟩ := H
  refine zq_sld b3 dL_law_432 ?_
  refine zq_aload_n (k := 0) (i := 0) (x := 0) 0 rfl rfl dL_law_433 ?_
  refine zq_iload_n (k := 3) (i := 3) (x := i3) 3 rfl rfl dL_law_434 ?_
  refine zq_iconst (v := (nI 4)) rfl dL_law_435 ?_
  refine zq_iadd dL_law_436 ?_
  obtain ⟨b4, H⟩ := H
  refine zq_sld b4 dL_law_437 ?_
  refine zq_invV (as := [.int (xs (i3 + (nI 1)).toNatClampNeg), .int (xs (i3 + (nI 2)).toNatClampNeg), .int (xs (i3 + (nI 3)).toNatClampNeg), .int (xs (i3 + (nI 4)).toNatClampNeg)]) (st := []) (o := 1) (c := 9) (by decide) rfl (sh_1 hw) in_X10_swap se_X10_swap mo_X10_swap ml_RL_40 rfl (Nat.le_of_ble_eq_true rfl) dL_law_438 rfl H (fun r1 h5 hq => ?_)
  obtain ⟨x6, rfl, wh5, H⟩ := hq
  show zQ (some (L, xs)) m_L_law (d + 1) 441 [(0, .ref 0), (1, .ref 1), (2, .ref 53), (3, .int i3)] (.int x6 :: []) h5 Q
  refine zq_aload_n (k := 2) (i := 2) (x := 53) 2 rfl rfl dL_law_441 ?_
  refine zq_aload_n (k := 0) (i := 0) (x := 0) 0 rfl rfl dL_law_442 ?_
  refine zq_iload_n (k := 3) (i := 3) (x := i3) 3 rfl rfl dL_law_443 ?_
  refine zq_iconst (v := (nI 1)) rfl dL_law_444 ?_
  refine zq_iadd dL_law_445 ?_
  obtain ⟨b7, H⟩ := H
  refine zq_sld b7 dL_law_446 ?_
  refine zq_aload_n (k := 0) (i := 0) (x := 0) 0 rfl rfl dL_law_447 ?_
  refine zq_iload_n (k := 3) (i := 3) (x := i3) 3 rfl rfl dL_law_448 ?_
  refine zq_iconst (v := (nI 2)) rfl dL_law_449 ?_
  refine zq_iadd dL_law_450 ?_
  obtain ⟨b8, H⟩ := H
  refine zq_sld b8 dL_law_451 ?_
  refine zq_aload_n (k := 0) (i := 0) (x := 0) 0 rfl rfl dL_law_452 ?_
  refine zq_iload_n (k := 3) (i := 3) (x := i3) 3 rfl rfl dL_law_453 ?_
  refine zq_iconst (v := (nI 3)) rfl dL_law_454 ?_
  refine zq_iadd dL_law_455 ?_
  obtain ⟨b9, H⟩ := H
  refine zq_sld b9 dL_law_456 ?_
  refine zq_aload_n (k := 0) (i := 0) (x := 0) 0 rfl rfl dL_law_457 ?_
  refine zq_iload_n (k := 3) (i := 3) (x := i3) 3 rfl rfl dL_law_458 ?_
  refine zq_iconst (v := (nI 4)) rfl dL_law_459 ?_
  refine zq_iadd dL_law_460 ?_
  obtain ⟨b10, H⟩ := H
  refine zq_sld b10 dL_law_461 ?_
  refine zq_invV (as := [.int (xs (i3 + (nI 1)).toNatClampNeg), .int (xs (i3 + (nI 2)).toNatClampNeg), .int (xs (i3 + (nI 3)).toNatClampNeg), .int (xs (i3 + (nI 4)).toNatClampNeg)]) (st := .int x6 :: []) (o := 53) (c := 10) (by decide) rfl (sh_53 wh5) in_X11_swap se_X11_swap mo_X11_swap ml_RL_44 rfl (Nat.le_of_ble_eq_true rfl) dL_law_462 rfl H (fun r1 h11 hq => ?_)
  obtain ⟨x12, rfl, wh11, H⟩ := hq
  show zQ (some (L, xs)) m_L_law (d + 1) 465 [(0, .ref 0), (1, .ref 1), (2, .ref 53), (3, .int i3)] (.int x12 :: .int x6 :: []) h11 Q
  refine zq_icmp_eq (tgt := 1221) dL_law_465 rfl ⟨fun c13 => ?_, fun c13 => ?_⟩
  · have H := H.1 c13
    refine zq_iinc (i := 3) (x := i3) (v := (nI 6)) (ls' := [(3, .int (i3 + (nI 6))), (0, .ref 0), (1, .ref 1), (2, .ref 53)]) 3 rfl rfl (Nat.le_of_ble_eq_true rfl) rfl dL_law_1221 ?_
    refine zq_goto (tgt := 18) dL_law_1224 rfl ?_
    exact zq_sub (ls' := [(0, .ref 0), (1, .ref 1), (2, .ref 53), (3, .int (i3 + (nI 6)))]) [1, 2, 3, 0] rfl H
  · have H := H.2 c13
    refine zq_iconst (v := (nI 0)) rfl dL_law_468 ?_
    exact zq_iret dL_law_469 rfl rfl rfl H
set_option maxHeartbeats 2000000 in
set_option maxRecDepth 20000 in
theorem r_L_law_470 {d : Nat} {h : AH} {Q : Option Value → AH → Prop} (L : Nat) (xs : Nat → Int32) (i3 : Int32) (hw : zWF h)  (H : vp_in (i3 + (nI 1)) L ∧ (zK d m_X10_near [.ref 1, .int (xs (i3 + (nI 1)).toNatClampNeg)] h (kL fun x3 h2 => vp_in (i3 + (nI 1)) L ∧ (zK d m_X11_near [.ref 53, .int (xs (i3 + (nI 1)).toNatClampNeg)] h2 (kL fun x6 h5 => ((lg_cmp x3 x6) = 0 → zQ (some (L, xs)) m_L_law (d + 1) 18 [(0, .ref 0), (1, .ref 1), (2, .ref 53), (3, .int (i3 + (nI 6)))] [] h5 Q) ∧ (¬ (lg_cmp x3 x6) = 0 → Q (some (.int (nI 0))) h5)))))) : zQ (some (L, xs)) m_L_law (d + 1) 470 [(0, .ref 0), (1, .ref 1), (2, .ref 53), (3, .int i3)] [] h Q := by
  refine zq_aload_n (k := 1) (i := 1) (x := 1) 1 rfl rfl dL_law_470 ?_
  refine zq_aload_n (k := 0) (i := 0) (x := 0) 0 rfl rfl dL_law_471 ?_
  refine zq_iload_n (k := 3) (i := 3) (x := i3) 3 rfl rfl dL_law_472 ?_
  refine zq_iconst (v := (nI 1)) rfl dL_law_473 ?_
  refine zq_iadd dL_law_474 ?_
  obtain ⟨b1, H⟩ := H
  refine zq_sld b1 dL_law_475 ?_
  refine zq_invV (as := [.int (xs (i3 + (nI 1)).toNatClampNeg)]) (st := []) (o := 1) (c := 9) (by decide) rfl (sh_1 hw) in_X10_near se_X10_near mo_X10_near ml_RL_45 rfl (Nat.le_of_ble_eq_true rfl) dL_law_476 rfl H (fun r1 h2 hq => ?_)
  obtain ⟨x3, rfl, wh2, H⟩ := hq
  show zQ (some (L, xs)) m_L_law (d + 1) 479 [(0, .ref 0), (1, .ref 1), (2, .ref 53), (3, .int i3)] (.long x3 :: []) h2 Q
  refine zq_aload_n (k := 2) (i := 2) (x := 53) 2 rfl rfl dL_law_479 ?_
  refine zq_aload_n (k := 0) (i := 0) (x := 0) 0 rfl rfl dL_law_480 ?_
  refine zq_iload_n (k := 3) (i := 3) (x := i3) 3 rfl rfl dL_law_481 ?_
  refine zq_iconst (v := (nI 1)) rfl dL_law_482 ?_
  refine zq_iadd dL_law_483 ?_
  obtain ⟨b4, H⟩ := H
  refine zq_sld b4 dL_law_484 ?_
  refine zq_invV (as := [.int (xs (i3 + (nI 1)).toNatClampNeg)]) (st := .long x3 :: []) (o := 53) (c := 10) (by decide) rfl (sh_53 wh2) in_X11_near se_X11_near mo_X11_near ml_RL_49 rfl (Nat.le_of_ble_eq_true rfl) dL_law_485 rfl H (fun r1 h5 hq => ?_)
  obtain ⟨x6, rfl, wh5, H⟩ := hq
  show zQ (some (L, xs)) m_L_law (d + 1) 488 [(0, .ref 0), (1, .ref 1), (2, .ref 53), (3, .int i3)] (.long x6 :: .long x3 :: []) h5 Q
  refine zq_lcmp dL_law_488 ?_
  refine zq_if_eq (tgt := 1221) dL_law_489 rfl ⟨fun c7 => ?_, fun c7 => ?_⟩
  · have H := H.1 c7
    refine zq_iinc (i := 3) (x := i3) (v := (nI 6)) (ls' := [(3, .int (i3 + (nI 6))), (0, .ref 0), (1, .ref 1), (2, .ref 53)]) 3 rfl rfl (Nat.le_of_ble_eq_true rfl) rfl dL_law_1221 ?_
    refine zq_goto (tgt := 18) dL_law_1224 rfl ?_
    exact zq_sub (ls' := [(0, .ref 0), (1, .ref 1), (2, .ref 53), (3, .int (i3 + (nI 6)))]) [1, 2, 3, 0] rfl H
  · have H := H.2 c7
    refine zq_iconst (v := (nI 0)) rfl dL_law_492 ?_
    exact zq_iret dL_law_493 rfl rfl rfl H
set_option maxHeartbeats 2000000 in
set_option maxRecDepth 20000 in
theorem r_L_law_494 {d : Nat} {h : AH} {Q : Option Value → AH → Prop} (L : Nat) (xs : Nat → Int32) (i3 : Int32) (hw : zWF h)  (H : vp_in (i3 + (nI 1)) L ∧ (zK d m_X10_told [.ref 1, .int (xs (i3 + (nI 1)).toNatClampNeg)] h (kL fun x3 h2 => vp_in (i3 + (nI 1)) L ∧ (zK d m_X11_told [.ref 53, .int (xs (i3 + (nI 1)).toNatClampNeg)] h2 (kL fun x6 h5 => ((lg_cmp x3 x6) = 0 → zQ (some (L, xs)) m_L_law (d + 1) 18 [(0, .ref 0), (1, .ref 1), (2, .ref 53), (3, .int (i3 + (nI 6)))] [] h5 Q) ∧ (¬ (lg_cmp x3 x6) = 0 → Q (some (.int (nI 0))) h5)))))) : zQ (some (L, xs)) m_L_law (d + 1) 494 [(0, .ref 0), (1, .ref 1), (2, .ref 53), (3, .int i3)] [] h Q := by
  refine zq_aload_n (k := 1) (i := 1) (x := 1) 1 rfl rfl dL_law_494 ?_
  refine zq_aload_n (k := 0) (i := 0) (x := 0) 0 rfl rfl dL_law_495 ?_
  refine zq_iload_n (k := 3) (i := 3) (x := i3) 3 rfl rfl dL_law_496 ?_
  refine zq_iconst (v := (nI 1)) rfl dL_law_497 ?_
  refine zq_iadd dL_law_498 ?_
  obtain ⟨b1, H⟩ := H
  refine zq_sld b1 dL_law_499 ?_
  refine zq_invV (as := [.int (xs (i3 + (nI 1)).toNatClampNeg)]) (st := []) (o := 1) (c := 9) (by decide) rfl (sh_1 hw) in_X10_told se_X10_told mo_X10_told ml_RL_50 rfl (Nat.le_of_ble_eq_true rfl) dL_law_500 rfl H (fun r1 h2 hq => ?_)
  obtain ⟨x3, rfl, wh2, H⟩ := hq
  show zQ (some (L, xs)) m_L_law (d + 1) 503 [(0, .ref 0), (1, .ref 1), (2, .ref 53), (3, .int i3)] (.long x3 :: []) h2 Q
  refine zq_aload_n (k := 2) (i := 2) (x := 53) 2 rfl rfl dL_law_503 ?_
  refine zq_aload_n (k := 0) (i := 0) (x := 0) 0 rfl rfl dL_law_504 ?_
  refine zq_iload_n (k := 3) (i := 3) (x := i3) 3 rfl rfl dL_law_505 ?_
  refine zq_iconst (v := (nI 1)) rfl dL_law_506 ?_
  refine zq_iadd dL_law_507 ?_
  obtain ⟨b4, H⟩ := H
  refine zq_sld b4 dL_law_508 ?_
  refine zq_invV (as := [.int (xs (i3 + (nI 1)).toNatClampNeg)]) (st := .long x3 :: []) (o := 53) (c := 10) (by decide) rfl (sh_53 wh2) in_X11_told se_X11_told mo_X11_told ml_RL_53 rfl (Nat.le_of_ble_eq_true rfl) dL_law_509 rfl H (fun r1 h5 hq => ?_)
  obtain ⟨x6, rfl, wh5, H⟩ := hq
  show zQ (some (L, xs)) m_L_law (d + 1) 512 [(0, .ref 0), (1, .ref 1), (2, .ref 53), (3, .int i3)] (.long x6 :: .long x3 :: []) h5 Q
  refine zq_lcmp dL_law_512 ?_
  refine zq_if_eq (tgt := 1221) dL_law_513 rfl ⟨fun c7 => ?_, fun c7 => ?_⟩
  · have H := H.1 c7
    refine zq_iinc (i := 3) (x := i3) (v := (nI 6)) (ls' := [(3, .int (i3 + (nI 6))), (0, .ref 0), (1, .ref 1), (2, .ref 53)]) 3 rfl rfl (Nat.le_of_ble_eq_true rfl) rfl dL_law_1221 ?_
    refine zq_goto (tgt := 18) dL_law_1224 rfl ?_
    exact zq_sub (ls' := [(0, .ref 0), (1, .ref 1), (2, .ref 53), (3, .int (i3 + (nI 6)))]) [1, 2, 3, 0] rfl H
  · have H := H.2 c7
    refine zq_iconst (v := (nI 0)) rfl dL_law_516 ?_
    exact zq_iret dL_law_517 rfl rfl rfl H
set_option maxHeartbeats 2000000 in
set_option maxRecDepth 20000 in
theorem r_L_law_518 {d : Nat} {h : AH} {Q : Option Value → AH → Prop} (L : Nat) (xs : Nat → Int32) (i3 : Int32) (hw : zWF h)  (H : vp_in (i3 + (nI 1)) L ∧ (zK d m_X10_truss [.ref 1, .int (xs (i3 + (nI 1)).toNatClampNeg)] h (kI fun x3 h2 => vp_in (i3 + (nI 1)) L ∧ (zK d m_X11_truss [.ref 53, .int (xs (i3 + (nI 1)).toNatClampNeg)] h2 (kI fun x6 h5 => (x3 = x6 → zQ (some (L, xs)) m_L_law (d + 1) 18 [(0, .ref 0), (1, .ref 1), (2, .ref 53), (3, .int (i3 + (nI 6)))] [] h5 Q) ∧ (¬ x3 = x6 → Q (some (.int (nI 0))) h5)))))) : zQ (some (L, xs)) m_L_law (d + 1) 518 [(0, .ref 0), (1, .ref 1), (2, .ref 53), (3, .int i3)] [] h Q := by
  refine zq_aload_n (k := 1) (i := 1) (x := 1) 1 rfl rfl dL_law_518 ?_
  refine zq_aload_n (k := 0) (i := 0) (x := 0) 0 rfl rfl dL_law_519 ?_
  refine zq_iload_n (k := 3) (i := 3) (x := i3) 3 rfl rfl dL_law_520 ?_
  refine zq_iconst (v := (nI 1)) rfl dL_law_521 ?_
  refine zq_iadd dL_law_522 ?_
  obtain ⟨b1, H⟩ := H
  refine zq_sld b1 dL_law_523 ?_
  refine zq_invV (as := [.int (xs (i3 + (nI 1)).toNatClampNeg)]) (st := []) (o := 1) (c := 9) (by decide) rfl (sh_1 hw) in_X10_truss se_X10_truss mo_X10_truss ml_RL_54 rfl (Nat.le_of_ble_eq_true rfl) dL_law_524 rfl H (fun r1 h2 hq => ?_)
  obtain ⟨x3, rfl, wh2, H⟩ := hq
  show zQ (some (L, xs)) m_L_law (d + 1) 527 [(0, .ref 0), (1, .ref 1), (2, .ref 53), (3, .int i3)] (.int x3 :: []) h2 Q
  refine zq_aload_n (k := 2) (i := 2) (x := 53) 2 rfl rfl dL_law_527 ?_
  refine zq_aload_n (k := 0) (i := 0) (x := 0) 0 rfl rfl dL_law_528 ?_
  refine zq_iload_n (k := 3) (i := 3) (x := i3) 3 rfl rfl dL_law_529 ?_
  refine zq_iconst (v := (nI 1)) rfl dL_law_530 ?_
  refine zq_iadd dL_law_531 ?_
  obtain ⟨b4, H⟩ := H
  refine zq_sld b4 dL_law_532 ?_
  refine zq_invV (as := [.int (xs (i3 + (nI 1)).toNatClampNeg)]) (st := .int x3 :: []) (o := 53) (c := 10) (by decide) rfl (sh_53 wh2) in_X11_truss se_X11_truss mo_X11_truss ml_RL_58 rfl (Nat.le_of_ble_eq_true rfl) dL_law_533 rfl H (fun r1 h5 hq => ?_)
  obtain ⟨x6, rfl, wh5, H⟩ := hq
  show zQ (some (L, xs)) m_L_law (d + 1) 536 [(0, .ref 0), (1, .ref 1), (2, .ref 53), (3, .int i3)] (.int x6 :: .int x3 :: []) h5 Q
  refine zq_icmp_eq (tgt := 1221) dL_law_536 rfl ⟨fun c7 => ?_, fun c7 => ?_⟩
  · have H := H.1 c7
    refine zq_iinc (i := 3) (x := i3) (v := (nI 6)) (ls' := [(3, .int (i3 + (nI 6))), (0, .ref 0), (1, .ref 1), (2, .ref 53)]) 3 rfl rfl (Nat.le_of_ble_eq_true rfl) rfl dL_law_1221 ?_
    refine zq_goto (tgt := 18) dL_law_1224 rfl ?_
    exact zq_sub (ls' := [(0, .ref 0), (1, .ref 1), (2, .ref 53), (3, .int (i3 + (nI 6)))]) [1, 2, 3, 0] rfl H
  · have H := H.2 c7
    refine zq_iconst (v := (nI 0)) rfl dL_law_539 ?_
    exact zq_iret dL_law_540 rfl rfl rfl H
set_option maxHeartbeats 2000000 in
set_option maxRecDepth 20000 in
theorem r_L_law_541 {d : Nat} {h : AH} {Q : Option Value → AH → Prop} (L : Nat) (xs : Nat → Int32) (i3 : Int32) (hw : zWF h)  (H : vp_in (i3 + (nI 1)) L ∧ (zK d m_X10_pieces [.ref 1, .int (xs (i3 + (nI 1)).toNatClampNeg)] h (kI fun x3 h2 => vp_in (i3 + (nI 1)) L ∧ (zK d m_X11_pieces [.ref 53, .int (xs (i3 + (nI 1)).toNatClampNeg)] h2 (kI fun x6 h5 => (x3 = x6 → zQ (some (L, xs)) m_L_law (d + 1) 18 [(0, .ref 0), (1, .ref 1), (2, .ref 53), (3, .int (i3 + (nI 6)))] [] h5 Q) ∧ (¬ x3 = x6 → Q (some (.int (nI 0))) h5)))))) : zQ (some (L, xs)) m_L_law (d + 1) 541 [(0, .ref 0), (1, .ref 1), (2, .ref 53), (3, .int i3)] [] h Q := by
  refine zq_aload_n (k := 1) (i := 1) (x := 1) 1 rfl rfl dL_law_541 ?_
  refine zq_aload_n (k := 0) (i := 0) (x := 0) 0 rfl rfl dL_law_542 ?_
  refine zq_iload_n (k := 3) (i := 3) (x := i3) 3 rfl rfl dL_law_543 ?_
  refine zq_iconst (v := (nI 1)) rfl dL_law_544 ?_
  refine zq_iadd dL_law_545 ?_
  obtain ⟨b1, H⟩ := H
  refine zq_sld b1 dL_law_546 ?_
  refine zq_invV (as := [.int (xs (i3 + (nI 1)).toNatClampNeg)]) (st := []) (o := 1) (c := 9) (by decide) rfl (sh_1 hw) in_X10_pieces se_X10_pieces mo_X10_pieces ml_RL_59 rfl (Nat.le_of_ble_eq_true rfl) dL_law_547 rfl H (fun r1 h2 hq => ?_)
  obtain ⟨x3, rfl, wh2, H⟩ := hq
  show zQ (some (L, xs)) m_L_law (d + 1) 550 [(0, .ref 0), (1, .ref 1), (2, .ref 53), (3, .int i3)] (.int x3 :: []) h2 Q
  refine zq_aload_n (k := 2) (i := 2) (x := 53) 2 rfl rfl dL_law_550 ?_
  refine zq_aload_n (k := 0) (i := 0) (x := 0) 0 rfl rfl dL_law_551 ?_
  refine zq_iload_n (k := 3) (i := 3) (x := i3) 3 rfl rfl dL_law_552 ?_
  refine zq_iconst (v := (nI 1)) rfl dL_law_553 ?_
  refine zq_iadd dL_law_554 ?_
  obtain ⟨b4, H⟩ := H
  refine zq_sld b4 dL_law_555 ?_
  refine zq_invV (as := [.int (xs (i3 + (nI 1)).toNatClampNeg)]) (st := .int x3 :: []) (o := 53) (c := 10) (by decide) rfl (sh_53 wh2) in_X11_pieces se_X11_pieces mo_X11_pieces ml_RL_62 rfl (Nat.le_of_ble_eq_true rfl) dL_law_556 rfl H (fun r1 h5 hq => ?_)
  obtain ⟨x6, rfl, wh5, H⟩ := hq
  show zQ (some (L, xs)) m_L_law (d + 1) 559 [(0, .ref 0), (1, .ref 1), (2, .ref 53), (3, .int i3)] (.int x6 :: .int x3 :: []) h5 Q
  refine zq_icmp_eq (tgt := 1221) dL_law_559 rfl ⟨fun c7 => ?_, fun c7 => ?_⟩
  · have H := H.1 c7
    refine zq_iinc (i := 3) (x := i3) (v := (nI 6)) (ls' := [(3, .int (i3 + (nI 6))), (0, .ref 0), (1, .ref 1), (2, .ref 53)]) 3 rfl rfl (Nat.le_of_ble_eq_true rfl) rfl dL_law_1221 ?_
    refine zq_goto (tgt := 18) dL_law_1224 rfl ?_
    exact zq_sub (ls' := [(0, .ref 0), (1, .ref 1), (2, .ref 53), (3, .int (i3 + (nI 6)))]) [1, 2, 3, 0] rfl H
  · have H := H.2 c7
    refine zq_iconst (v := (nI 0)) rfl dL_law_562 ?_
    exact zq_iret dL_law_563 rfl rfl rfl H
set_option maxHeartbeats 2000000 in
set_option maxRecDepth 20000 in
theorem r_L_law_564 {d : Nat} {h : AH} {Q : Option Value → AH → Prop} (L : Nat) (xs : Nat → Int32) (i3 : Int32) (hw : zWF h)  (H : vp_in (i3 + (nI 1)) L ∧ (vp_in (i3 + (nI 2)) L ∧ (vp_in (i3 + (nI 3)) L ∧ (zK d m_X10_hood [.ref 1, .int (xs (i3 + (nI 1)).toNatClampNeg), .int (xs (i3 + (nI 2)).toNatClampNeg), .int (xs (i3 + (nI 3)).toNatClampNeg)] h (kI fun x5 h4 => vp_in (i3 + (nI 1)) L ∧ (vp_in (i3 + (nI 2)) L ∧ (vp_in (i3 + (nI 3)) L ∧ (zK d m_X11_hood [.ref 53, .int (xs (i3 + (nI 1)).toNatClampNeg), .int (xs (i3 + (nI 2)).toNatClampNeg), .int (xs (i3 + (nI 3)).toNatClampNeg)] h4 (kI fun x10 h9 => (x5 = x10 → zQ (some (L, xs)) m_L_law (d + 1) 18 [(0, .ref 0), (1, .ref 1), (2, .ref 53), (3, .int (i3 + (nI 6)))] [] h9 Q) ∧ (¬ x5 = x10 → Q (some (.int (nI 0))) h9)))))))))) : zQ (some (L, xs)) m_L_law (d + 1) 564 [(0, .ref 0), (1, .ref 1), (2, .ref 53), (3, .int i3)] [] h Q := by
  refine zq_aload_n (k := 1) (i := 1) (x := 1) 1 rfl rfl dL_law_564 ?_
  refine zq_aload_n (k := 0) (i := 0) (x := 0) 0 rfl rfl dL_law_565 ?_
  refine zq_iload_n (k := 3) (i := 3) (x := i3) 3 rfl rfl dL_law_566 ?_
  refine zq_iconst (v := (nI 1)) rfl dL_law_567 ?_
  refine zq_iadd dL_law_568 ?_
  obtain ⟨b1, H⟩ := H
  refine zq_sld b1 dL_law_569 ?_
  refine zq_aload_n (k := 0) (i := 0) (x := 0) 0 rfl rfl dL_law_570 ?_
  refine zq_iload_n (k := 3) (i := 3) (x := i3) 3 rfl rfl dL_law_571 ?_
  refine zq_iconst (v := (nI 2)) rfl dL_law_572 ?_
  refine zq_iadd dL_law_573 ?_
  obtain ⟨b2, H⟩ := H
  refine zq_sld b2 dL_law_574 ?_
  refine zq_aload_n (k := 0) (i := 0) (x := 0) 0 rfl rfl dL_law_575 ?_
  refine zq_iload_n (k := 3) (i := 3) (x := i3) 3 rfl rfl dL_law_576 ?_
  refine zq_iconst (v := (nI 3)) rfl dL_law_577 ?_
  refine zq_iadd dL_law_578 ?_
  obtain ⟨b3, H⟩ := H
  refine zq_sld b3 dL_law_579 ?_
  refine zq_invV (as := [.int (xs (i3 + (nI 1)).toNatClampNeg), .int (xs (i3 + (nI 2)).toNatClampNeg), .int (xs (i3 + (nI 3)).toNatClampNeg)]) (st := []) (o := 1) (c := 9) (by decide) rfl (sh_1 hw) in_X10_hood se_X10_hood mo_X10_hood ml_RL_63 rfl (Nat.le_of_ble_eq_true rfl) dL_law_580 rfl H (fun r1 h4 hq => ?_)
  obtain ⟨x5, rfl, wh4, H⟩ := hq
  show zQ (some (L, xs)) m_L_law (d + 1) 583 [(0, .ref 0), (1, .ref 1), (2, .ref 53), (3, .int i3)] (.int x5 :: []) h4 Q
  refine zq_aload_n (k := 2) (i := 2) (x := 53) 2 rfl rfl dL_law_583 ?_
  refine zq_aload_n (k := 0) (i := 0) (x := 0) 0 rfl rfl dL_law_584 ?_
  refine zq_iload_n (k := 3) (i := 3) (x := i3) 3 rfl rfl dL_law_585 ?_
  refine zq_iconst (v := (nI 1)) rfl dL_law_586 ?_
  refine zq_iadd dL_law_587 ?_
  obtain ⟨b6, H⟩ := H
  refine zq_sld b6 dL_law_588 ?_
  refine zq_aload_n (k := 0) (i := 0) (x := 0) 0 rfl rfl dL_law_589 ?_
  refine zq_iload_n (k := 3) (i := 3) (x := i3) 3 rfl rfl dL_law_590 ?_
  refine zq_iconst (v := (nI 2)) rfl dL_law_591 ?_
  refine zq_iadd dL_law_592 ?_
  obtain ⟨b7, H⟩ := H
  refine zq_sld b7 dL_law_593 ?_
  refine zq_aload_n (k := 0) (i := 0) (x := 0) 0 rfl rfl dL_law_594 ?_
  refine zq_iload_n (k := 3) (i := 3) (x := i3) 3 rfl rfl dL_law_595 ?_
  refine zq_iconst (v := (nI 3)) rfl dL_law_596 ?_
  refine zq_iadd dL_law_597 ?_
  obtain ⟨b8, H⟩ := H
  refine zq_sld b8 dL_law_598 ?_
  refine zq_invV (as := [.int (xs (i3 + (nI 1)).toNatClampNeg), .int (xs (i3 + (nI 2)).toNatClampNeg), .int (xs (i3 + (nI 3)).toNatClampNeg)]) (st := .int x5 :: []) (o := 53) (c := 10) (by decide) rfl (sh_53 wh4) in_X11_hood se_X11_hood mo_X11_hood ml_RL_66 rfl (Nat.le_of_ble_eq_true rfl) dL_law_599 rfl H (fun r1 h9 hq => ?_)
  obtain ⟨x10, rfl, wh9, H⟩ := hq
  show zQ (some (L, xs)) m_L_law (d + 1) 602 [(0, .ref 0), (1, .ref 1), (2, .ref 53), (3, .int i3)] (.int x10 :: .int x5 :: []) h9 Q
  refine zq_icmp_eq (tgt := 1221) dL_law_602 rfl ⟨fun c11 => ?_, fun c11 => ?_⟩
  · have H := H.1 c11
    refine zq_iinc (i := 3) (x := i3) (v := (nI 6)) (ls' := [(3, .int (i3 + (nI 6))), (0, .ref 0), (1, .ref 1), (2, .ref 53)]) 3 rfl rfl (Nat.le_of_ble_eq_true rfl) rfl dL_law_1221 ?_
    refine zq_goto (tgt := 18) dL_law_1224 rfl ?_
    exact zq_sub (ls' := [(0, .ref 0), (1, .ref 1), (2, .ref 53), (3, .int (i3 + (nI 6)))]) [1, 2, 3, 0] rfl H
  · have H := H.2 c11
    refine zq_iconst (v := (nI 0)) rfl dL_law_605 ?_
    exact zq_iret dL_law_606 rfl rfl rfl H
set_option maxHeartbeats 2000000 in
set_option maxRecDepth 20000 in
theorem r_L_law_607 {d : Nat} {h : AH} {Q : Option Value → AH → Prop} (L : Nat) (xs : Nat → Int32) (i3 : Int32) (hw : zWF h)  (H : vp_in (i3 + (nI 1)) L ∧ (zK d m_X10_hoods [.ref 1, .int (xs (i3 + (nI 1)).toNatClampNeg)] h (kI fun x3 h2 => vp_in (i3 + (nI 1)) L ∧ (zK d m_X11_hoods [.ref 53, .int (xs (i3 + (nI 1)).toNatClampNeg)] h2 (kI fun x6 h5 => (x3 = x6 → zQ (some (L, xs)) m_L_law (d + 1) 18 [(0, .ref 0), (1, .ref 1), (2, .ref 53), (3, .int (i3 + (nI 6)))] [] h5 Q) ∧ (¬ x3 = x6 → Q (some (.int (nI 0))) h5)))))) : zQ (some (L, xs)) m_L_law (d + 1) 607 [(0, .ref 0), (1, .ref 1), (2, .ref 53), (3, .int i3)] [] h Q := by
  refine zq_aload_n (k := 1) (i := 1) (x := 1) 1 rfl rfl dL_law_607 ?_
  refine zq_aload_n (k := 0) (i := 0) (x := 0) 0 rfl rfl dL_law_608 ?_
  refine zq_iload_n (k := 3) (i := 3) (x := i3) 3 rfl rfl dL_law_609 ?_
  refine zq_iconst (v := (nI 1)) rfl dL_law_610 ?_
  refine zq_iadd dL_law_611 ?_
  obtain ⟨b1, H⟩ := H
  refine zq_sld b1 dL_law_612 ?_
  refine zq_invV (as := [.int (xs (i3 + (nI 1)).toNatClampNeg)]) (st := []) (o := 1) (c := 9) (by decide) rfl (sh_1 hw) in_X10_hoods se_X10_hoods mo_X10_hoods ml_RL_67 rfl (Nat.le_of_ble_eq_true rfl) dL_law_613 rfl H (fun r1 h2 hq => ?_)
  obtain ⟨x3, rfl, wh2, H⟩ := hq
  show zQ (some (L, xs)) m_L_law (d + 1) 616 [(0, .ref 0), (1, .ref 1), (2, .ref 53), (3, .int i3)] (.int x3 :: []) h2 Q
  refine zq_aload_n (k := 2) (i := 2) (x := 53) 2 rfl rfl dL_law_616 ?_
  refine zq_aload_n (k := 0) (i := 0) (x := 0) 0 rfl rfl dL_law_617 ?_
  refine zq_iload_n (k := 3) (i := 3) (x := i3) 3 rfl rfl dL_law_618 ?_
  refine zq_iconst (v := (nI 1)) rfl dL_law_619 ?_
  refine zq_iadd dL_law_620 ?_
  obtain ⟨b4, H⟩ := H
  refine zq_sld b4 dL_law_621 ?_
  refine zq_invV (as := [.int (xs (i3 + (nI 1)).toNatClampNeg)]) (st := .int x3 :: []) (o := 53) (c := 10) (by decide) rfl (sh_53 wh2) in_X11_hoods se_X11_hoods mo_X11_hoods ml_RL_70 rfl (Nat.le_of_ble_eq_true rfl) dL_law_622 rfl H (fun r1 h5 hq => ?_)
  obtain ⟨x6, rfl, wh5, H⟩ := hq
  show zQ (some (L, xs)) m_L_law (d + 1) 625 [(0, .ref 0), (1, .ref 1), (2, .ref 53), (3, .int i3)] (.int x6 :: .int x3 :: []) h5 Q
  refine zq_icmp_eq (tgt := 1221) dL_law_625 rfl ⟨fun c7 => ?_, fun c7 => ?_⟩
  · have H := H.1 c7
    refine zq_iinc (i := 3) (x := i3) (v := (nI 6)) (ls' := [(3, .int (i3 + (nI 6))), (0, .ref 0), (1, .ref 1), (2, .ref 53)]) 3 rfl rfl (Nat.le_of_ble_eq_true rfl) rfl dL_law_1221 ?_
    refine zq_goto (tgt := 18) dL_law_1224 rfl ?_
    exact zq_sub (ls' := [(0, .ref 0), (1, .ref 1), (2, .ref 53), (3, .int (i3 + (nI 6)))]) [1, 2, 3, 0] rfl H
  · have H := H.2 c7
    refine zq_iconst (v := (nI 0)) rfl dL_law_628 ?_
    exact zq_iret dL_law_629 rfl rfl rfl H
set_option maxHeartbeats 2000000 in
set_option maxRecDepth 20000 in
theorem r_L_law_630 {d : Nat} {h : AH} {Q : Option Value → AH → Prop} (L : Nat) (xs : Nat → Int32) (i3 : Int32) (hw : zWF h)  (H : vp_in (i3 + (nI 1)) L ∧ (zK d m_X10_core [.ref 1, .int (xs (i3 + (nI 1)).toNatClampNeg)] h (kL fun x3 h2 => vp_in (i3 + (nI 1)) L ∧ (zK d m_X11_core [.ref 53, .int (xs (i3 + (nI 1)).toNatClampNeg)] h2 (kL fun x6 h5 => ((lg_cmp x3 x6) = 0 → zQ (some (L, xs)) m_L_law (d + 1) 18 [(0, .ref 0), (1, .ref 1), (2, .ref 53), (3, .int (i3 + (nI 6)))] [] h5 Q) ∧ (¬ (lg_cmp x3 x6) = 0 → Q (some (.int (nI 0))) h5)))))) : zQ (some (L, xs)) m_L_law (d + 1) 630 [(0, .ref 0), (1, .ref 1), (2, .ref 53), (3, .int i3)] [] h Q := by
  refine zq_aload_n (k := 1) (i := 1) (x := 1) 1 rfl rfl dL_law_630 ?_
  refine zq_aload_n (k := 0) (i := 0) (x := 0) 0 rfl rfl dL_law_631 ?_
  refine zq_iload_n (k := 3) (i := 3) (x := i3) 3 rfl rfl dL_law_632 ?_
  refine zq_iconst (v := (nI 1)) rfl dL_law_633 ?_
  refine zq_iadd dL_law_634 ?_
  obtain ⟨b1, H⟩ := H
  refine zq_sld b1 dL_law_635 ?_
  refine zq_invV (as := [.int (xs (i3 + (nI 1)).toNatClampNeg)]) (st := []) (o := 1) (c := 9) (by decide) rfl (sh_1 hw) in_X10_core se_X10_core mo_X10_core ml_RL_71 rfl (Nat.le_of_ble_eq_true rfl) dL_law_636 rfl H (fun r1 h2 hq => ?_)
  obtain ⟨x3, rfl, wh2, H⟩ := hq
  show zQ (some (L, xs)) m_L_law (d + 1) 639 [(0, .ref 0), (1, .ref 1), (2, .ref 53), (3, .int i3)] (.long x3 :: []) h2 Q
  refine zq_aload_n (k := 2) (i := 2) (x := 53) 2 rfl rfl dL_law_639 ?_
  refine zq_aload_n (k := 0) (i := 0) (x := 0) 0 rfl rfl dL_law_640 ?_
  refine zq_iload_n (k := 3) (i := 3) (x := i3) 3 rfl rfl dL_law_641 ?_
  refine zq_iconst (v := (nI 1)) rfl dL_law_642 ?_
  refine zq_iadd dL_law_643 ?_
  obtain ⟨b4, H⟩ := H
  refine zq_sld b4 dL_law_644 ?_
  refine zq_invV (as := [.int (xs (i3 + (nI 1)).toNatClampNeg)]) (st := .long x3 :: []) (o := 53) (c := 10) (by decide) rfl (sh_53 wh2) in_X11_core se_X11_core mo_X11_core ml_RL_74 rfl (Nat.le_of_ble_eq_true rfl) dL_law_645 rfl H (fun r1 h5 hq => ?_)
  obtain ⟨x6, rfl, wh5, H⟩ := hq
  show zQ (some (L, xs)) m_L_law (d + 1) 648 [(0, .ref 0), (1, .ref 1), (2, .ref 53), (3, .int i3)] (.long x6 :: .long x3 :: []) h5 Q
  refine zq_lcmp dL_law_648 ?_
  refine zq_if_eq (tgt := 1221) dL_law_649 rfl ⟨fun c7 => ?_, fun c7 => ?_⟩
  · have H := H.1 c7
    refine zq_iinc (i := 3) (x := i3) (v := (nI 6)) (ls' := [(3, .int (i3 + (nI 6))), (0, .ref 0), (1, .ref 1), (2, .ref 53)]) 3 rfl rfl (Nat.le_of_ble_eq_true rfl) rfl dL_law_1221 ?_
    refine zq_goto (tgt := 18) dL_law_1224 rfl ?_
    exact zq_sub (ls' := [(0, .ref 0), (1, .ref 1), (2, .ref 53), (3, .int (i3 + (nI 6)))]) [1, 2, 3, 0] rfl H
  · have H := H.2 c7
    refine zq_iconst (v := (nI 0)) rfl dL_law_652 ?_
    exact zq_iret dL_law_653 rfl rfl rfl H
set_option maxHeartbeats 2000000 in
set_option maxRecDepth 20000 in
theorem r_L_law_654 {d : Nat} {h : AH} {Q : Option Value → AH → Prop} (L : Nat) (xs : Nat → Int32) (i3 : Int32) (hw : zWF h)  (H : vp_in (i3 + (nI 1)) L ∧ (vp_in (i3 + (nI 2)) L ∧ (zK d m_X10_peeled [.ref 1, .int (xs (i3 + (nI 1)).toNatClampNeg), .int (xs (i3 + (nI 2)).toNatClampNeg)] h (kI fun x4 h3 => vp_in (i3 + (nI 1)) L ∧ (vp_in (i3 + (nI 2)) L ∧ (zK d m_X11_peeled [.ref 53, .int (xs (i3 + (nI 1)).toNatClampNeg), .int (xs (i3 + (nI 2)).toNatClampNeg)] h3 (kI fun x8 h7 => (x4 = x8 → zQ (some (L, xs)) m_L_law (d + 1) 18 [(0, .ref 0), (1, .ref 1), (2, .ref 53), (3, .int (i3 + (nI 6)))] [] h7 Q) ∧ (¬ x4 = x8 → Q (some (.int (nI 0))) h7)))))))) : zQ (some (L, xs)) m_L_law (d + 1) 654 [(0, .ref 0), (1, .ref 1), (2, .ref 53), (3, .int i3)] [] h Q := by
  refine zq_aload_n (k := 1) (i := 1) (x := 1) 1 rfl rfl dL_law_654 ?_
  refine zq_aload_n (k := 0) (i := 0) (x := 0) 0 rfl rfl dL_law_655 ?_
  refine zq_iload_n (k := 3) (i := 3) (x := i3) 3 rfl rfl dL_law_656 ?_
  refine zq_iconst (v := (nI 1)) rfl dL_law_657 ?_
  refine zq_iadd dL_law_658 ?_
  obtain ⟨b1, H⟩ := H
  refine zq_sld b1 dL_law_659 ?_
  refine zq_aload_n (k := 0) (i := 0) (x := 0) 0 rfl rfl dL_law_660 ?_
  refine zq_iload_n (k := 3) (i := 3) (x := i3) 3 rfl rfl dL_law_661 ?_
  refine zq_iconst (v := (nI 2)) rfl dL_law_662 ?_
  refine zq_iadd dL_law_663 ?_
  obtain ⟨b2, H⟩ := H
  refine zq_sld b2 dL_law_664 ?_
  refine zq_invV (as := [.int (xs (i3 + (nI 1)).toNatClampNeg), .int (xs (i3 + (nI 2)).toNatClampNeg)]) (st := []) (o := 1) (c := 9) (by decide) rfl (sh_1 hw) in_X10_peeled se_X10_peeled mo_X10_peeled ml_RL_75 rfl (Nat.le_of_ble_eq_true rfl) dL_law_665 rfl H (fun r1 h3 hq => ?_)
  obtain ⟨x4, rfl, wh3, H⟩ := hq
  show zQ (some (L, xs)) m_L_law (d + 1) 668 [(0, .ref 0), (1, .ref 1), (2, .ref 53), (3, .int i3)] (.int x4 :: []) h3 Q
  refine zq_aload_n (k := 2) (i := 2) (x := 53) 2 rfl rfl dL_law_668 ?_
  refine zq_aload_n (k := 0) (i := 0) (x := 0) 0 rfl rfl dL_law_669 ?_
  refine zq_iload_n (k := 3) (i := 3) (x := i3) 3 rfl rfl dL_law_670 ?_
  refine zq_iconst (v := (nI 1)) rfl dL_law_671 ?_
  refine zq_iadd dL_law_672 ?_
  obtain ⟨b5, H⟩ := H
  refine zq_sld b5 dL_law_673 ?_
  refine zq_aload_n (k := 0) (i := 0) (x := 0) 0 rfl rfl dL_law_674 ?_
  refine zq_iload_n (k := 3) (i := 3) (x := i3) 3 rfl rfl dL_law_675 ?_
  refine zq_iconst (v := (nI 2)) rfl dL_law_676 ?_
  refine zq_iadd dL_law_677 ?_
  obtain ⟨b6, H⟩ := H
  refine zq_sld b6 dL_law_678 ?_
  refine zq_invV (as := [.int (xs (i3 + (nI 1)).toNatClampNeg), .int (xs (i3 + (nI 2)).toNatClampNeg)]) (st := .int x4 :: []) (o := 53) (c := 10) (by decide) rfl (sh_53 wh3) in_X11_peeled se_X11_peeled mo_X11_peeled ml_RL_78 rfl (Nat.le_of_ble_eq_true rfl) dL_law_679 rfl H (fun r1 h7 hq => ?_)
  obtain ⟨x8, rfl, wh7, H⟩ := hq
  show zQ (some (L, xs)) m_L_law (d + 1) 682 [(0, .ref 0), (1, .ref 1), (2, .ref 53), (3, .int i3)] (.int x8 :: .int x4 :: []) h7 Q
  refine zq_icmp_eq (tgt := 1221) dL_law_682 rfl ⟨fun c9 => ?_, fun c9 => ?_⟩
  · have H := H.1 c9
    refine zq_iinc (i := 3) (x := i3) (v := (nI 6)) (ls' := [(3, .int (i3 + (nI 6))), (0, .ref 0), (1, .ref 1), (2, .ref 53)]) 3 rfl rfl (Nat.le_of_ble_eq_true rfl) rfl dL_law_1221 ?_
    refine zq_goto (tgt := 18) dL_law_1224 rfl ?_
    exact zq_sub (ls' := [(0, .ref 0), (1, .ref 1), (2, .ref 53), (3, .int (i3 + (nI 6)))]) [1, 2, 3, 0] rfl H
  · have H := H.2 c9
    refine zq_iconst (v := (nI 0)) rfl dL_law_685 ?_
    exact zq_iret dL_law_686 rfl rfl rfl H
set_option maxHeartbeats 2000000 in
set_option maxRecDepth 20000 in
theorem r_L_law_687 {d : Nat} {h : AH} {Q : Option Value → AH → Prop} (L : Nat) (xs : Nat → Int32) (i3 : Int32) (hw : zWF h)  (H : vp_in (i3 + (nI 1)) L ∧ (vp_in (i3 + (nI 2)) L ∧ (zK d m_X10_closed [.ref 1, .int (xs (i3 + (nI 1)).toNatClampNeg), .int (xs (i3 + (nI 2)).toNatClampNeg)] h (kL fun x4 h3 => vp_in (i3 + (nI 1)) L ∧ (vp_in (i3 + (nI 2)) L ∧ (zK d m_X11_closed [.ref 53, .int (xs (i3 + (nI 1)).toNatClampNeg), .int (xs (i3 + (nI 2)).toNatClampNeg)] h3 (kL fun x8 h7 => ((lg_cmp x4 x8) = 0 → zQ (some (L, xs)) m_L_law (d + 1) 18 [(0, .ref 0), (1, .ref 1), (2, .ref 53), (3, .int (i3 + (nI 6)))] [] h7 Q) ∧ (¬ (lg_cmp x4 x8) = 0 → Q (some (.int (nI 0))) h7)))))))) : zQ (some (L, xs)) m_L_law (d + 1) 687 [(0, .ref 0), (1, .ref 1), (2, .ref 53), (3, .int i3)] [] h Q := by
  refine zq_aload_n (k := 1) (i := 1) (x := 1) 1 rfl rfl dL_law_687 ?_
  refine zq_aload_n (k := 0) (i := 0) (x := 0) 0 rfl rfl dL_law_688 ?_
  refine zq_iload_n (k := 3) (i := 3) (x := i3) 3 rfl rfl dL_law_689 ?_
  refine zq_iconst (v := (nI 1)) rfl dL_law_690 ?_
  refine zq_iadd dL_law_691 ?_
  obtain ⟨b1, H⟩ := H
  refine zq_sld b1 dL_law_692 ?_
  refine zq_aload_n (k := 0) (i := 0) (x := 0) 0 rfl rfl dL_law_693 ?_
  refine zq_iload_n (k := 3) (i := 3) (x := i3) 3 rfl rfl dL_law_694 ?_
  refine zq_iconst (v := (nI 2)) rfl dL_law_695 ?_
  refine zq_iadd dL_law_696 ?_
  obtain ⟨b2, H⟩ := H
  refine zq_sld b2 dL_law_697 ?_
  refine zq_invV (as := [.int (xs (i3 + (nI 1)).toNatClampNeg), .int (xs (i3 + (nI 2)).toNatClampNeg)]) (st := []) (o := 1) (c := 9) (by decide) rfl (sh_1 hw) in_X10_closed se_X10_closed mo_X10_closed ml_RL_79 rfl (Nat.le_of_ble_eq_true rfl) dL_law_698 rfl H (fun r1 h3 hq => ?_)
  obtain ⟨x4, rfl, wh3, H⟩ := hq
  show zQ (some (L, xs)) m_L_law (d + 1) 701 [(0, .ref 0), (1, .ref 1), (2, .ref 53), (3, .int i3)] (.long x4 :: []) h3 Q
  refine zq_aload_n (k := 2) (i := 2) (x := 53) 2 rfl rfl dL_law_701 ?_
  refine zq_aload_n (k := 0) (i := 0) (x := 0) 0 rfl rfl dL_law_702 ?_
  refine zq_iload_n (k := 3) (i := 3) (x := i3) 3 rfl rfl dL_law_703 ?_
  refine zq_iconst (v := (nI 1)) rfl dL_law_704 ?_
  refine zq_iadd dL_law_705 ?_
  obtain ⟨b5, H⟩ := H
  refine zq_sld b5 dL_law_706 ?_
  refine zq_aload_n (k := 0) (i := 0) (x := 0) 0 rfl rfl dL_law_707 ?_
  refine zq_iload_n (k := 3) (i := 3) (x := i3) 3 rfl rfl dL_law_708 ?_
  refine zq_iconst (v := (nI 2)) rfl dL_law_709 ?_
  refine zq_iadd dL_law_710 ?_
  obtain ⟨b6, H⟩ := H
  refine zq_sld b6 dL_law_711 ?_
  refine zq_invV (as := [.int (xs (i3 + (nI 1)).toNatClampNeg), .int (xs (i3 + (nI 2)).toNatClampNeg)]) (st := .long x4 :: []) (o := 53) (c := 10) (by decide) rfl (sh_53 wh3) in_X11_closed se_X11_closed mo_X11_closed ml_RL_82 rfl (Nat.le_of_ble_eq_true rfl) dL_law_712 rfl H (fun r1 h7 hq => ?_)
  obtain ⟨x8, rfl, wh7, H⟩ := hq
  show zQ (some (L, xs)) m_L_law (d + 1) 715 [(0, .ref 0), (1, .ref 1), (2, .ref 53), (3, .int i3)] (.long x8 :: .long x4 :: []) h7 Q
  refine zq_lcmp dL_law_715 ?_
  refine zq_if_eq (tgt := 1221) dL_law_716 rfl ⟨fun c9 => ?_, fun c9 => ?_⟩
  · have H := H.1 c9
    refine zq_iinc (i := 3) (x := i3) (v := (nI 6)) (ls' := [(3, .int (i3 + (nI 6))), (0, .ref 0), (1, .ref 1), (2, .ref 53)]) 3 rfl rfl (Nat.le_of_ble_eq_true rfl) rfl dL_law_1221 ?_
    refine zq_goto (tgt := 18) dL_law_1224 rfl ?_
    exact zq_sub (ls' := [(0, .ref 0), (1, .ref 1), (2, .ref 53), (3, .int (i3 + (nI 6)))]) [1, 2, 3, 0] rfl H
  · have H := H.2 c9
    refine zq_iconst (v := (nI 0)) rfl dL_law_719 ?_
    exact zq_iret dL_law_720 rfl rfl rfl H
set_option maxHeartbeats 2000000 in
set_option maxRecDepth 20000 in
theorem r_L_law_721 {d : Nat} {h : AH} {Q : Option Value → AH → Prop} (L : Nat) (xs : Nat → Int32) (i3 : Int32) (hw : zWF h)  (H : zK d m_X10_value [.ref 1] h (kL fun x2 h1 => zK d m_X11_value [.ref 53] h1 (kL fun x4 h3 => ((lg_cmp x2 x4) = 0 → zQ (some (L, xs)) m_L_law (d + 1) 18 [(0, .ref 0), (1, .ref 1), (2, .ref 53), (3, .int (i3 + (nI 6)))] [] h3 Q) ∧ (¬ (lg_cmp x2 x4) = 0 → Q (some (.int (nI 0))) h3)))) : zQ (some (L, xs)) m_L_law (d + 1) 721 [(0, .ref 0), (1, .ref 1), (2, .ref 53), (3, .int i3)] [] h Q := by
  refine zq_aload_n (k := 1) (i := 1) (x := 1) 1 rfl rfl dL_law_721 ?_
  refine zq_invV (as := []) (st := []) (o := 1) (c := 9) (by decide) rfl (sh_1 hw) in_X10_value se_X10_value mo_X10_value ml_RL_83 rfl (Nat.le_of_ble_eq_true rfl) dL_law_722 rfl H (fun r1 h1 hq => ?_)
  obtain ⟨x2, rfl, wh1, H⟩ := hq
  show zQ (some (L, xs)) m_L_law (d + 1) 725 [(0, .ref 0), (1, .ref 1), (2, .ref 53), (3, .int i3)] (.long x2 :: []) h1 Q
  refine zq_aload_n (k := 2) (i := 2) (x := 53) 2 rfl rfl dL_law_725 ?_
  refine zq_invV (as := []) (st := .long x2 :: []) (o := 53) (c := 10) (by decide) rfl (sh_53 wh1) in_X11_value se_X11_value mo_X11_value ml_RL_87 rfl (Nat.le_of_ble_eq_true rfl) dL_law_726 rfl H (fun r1 h3 hq => ?_)
  obtain ⟨x4, rfl, wh3, H⟩ := hq
  show zQ (some (L, xs)) m_L_law (d + 1) 729 [(0, .ref 0), (1, .ref 1), (2, .ref 53), (3, .int i3)] (.long x4 :: .long x2 :: []) h3 Q
  refine zq_lcmp dL_law_729 ?_
  refine zq_if_eq (tgt := 1221) dL_law_730 rfl ⟨fun c5 => ?_, fun c5 => ?_⟩
  · have H := H.1 c5
    refine zq_iinc (i := 3) (x := i3) (v := (nI 6)) (ls' := [(3, .int (i3 + (nI 6))), (0, .ref 0), (1, .ref 1), (2, .ref 53)]) 3 rfl rfl (Nat.le_of_ble_eq_true rfl) rfl dL_law_1221 ?_
    refine zq_goto (tgt := 18) dL_law_1224 rfl ?_
    exact zq_sub (ls' := [(0, .ref 0), (1, .ref 1), (2, .ref 53), (3, .int (i3 + (nI 6)))]) [1, 2, 3, 0] rfl H
  · have H := H.2 c5
    refine zq_iconst (v := (nI 0)) rfl dL_law_733 ?_
    exact zq_iret dL_law_734 rfl rfl rfl H
set_option maxHeartbeats 2000000 in
set_option maxRecDepth 20000 in
theorem r_L_law_735 {d : Nat} {h : AH} {Q : Option Value → AH → Prop} (L : Nat) (xs : Nat → Int32) (i3 : Int32) (hw : zWF h)  (H : vp_in (i3 + (nI 1)) L ∧ (zK d m_X10_broken [.ref 1, .int (xs (i3 + (nI 1)).toNatClampNeg)] h (kI fun x3 h2 => vp_in (i3 + (nI 1)) L ∧ (zK d m_X11_broken [.ref 53, .int (xs (i3 + (nI 1)).toNatClampNeg)] h2 (kI fun x6 h5 => (x3 = x6 → zQ (some (L, xs)) m_L_law (d + 1) 18 [(0, .ref 0), (1, .ref 1), (2, .ref 53), (3, .int (i3 + (nI 6)))] [] h5 Q) ∧ (¬ x3 = x6 → Q (some (.int (nI 0))) h5)))))) : zQ (some (L, xs)) m_L_law (d + 1) 735 [(0, .ref 0), (1, .ref 1), (2, .ref 53), (3, .int i3)] [] h Q := by
  refine zq_aload_n (k := 1) (i := 1) (x := 1) 1 rfl rfl dL_law_735 ?_
  refine zq_aload_n (k := 0) (i := 0) (x := 0) 0 rfl rfl dL_law_736 ?_
  refine zq_iload_n (k := 3) (i := 3) (x := i3) 3 rfl rfl dL_law_737 ?_
  refine zq_iconst (v := (nI 1)) rfl dL_law_738 ?_
  refine zq_iadd dL_law_739 ?_
  obtain ⟨b1, H⟩ := H
  refine zq_sld b1 dL_law_740 ?_
  refine zq_invV (as := [.int (xs (i3 + (nI 1)).toNatClampNeg)]) (st := []) (o := 1) (c := 9) (by decide) rfl (sh_1 hw) in_X10_broken se_X10_broken mo_X10_broken ml_RL_88 rfl (Nat.le_of_ble_eq_true rfl) dL_law_741 rfl H (fun r1 h2 hq => ?_)
  obtain ⟨x3, rfl, wh2, H⟩ := hq
  show zQ (some (L, xs)) m_L_law (d + 1) 744 [(0, .ref 0), (1, .ref 1), (2, .ref 53), (3, .int i3)] (.int x3 :: []) h2 Q
  refine zq_aload_n (k := 2) (i := 2) (x := 53) 2 rfl rfl dL_law_744 ?_
  refine zq_aload_n (k := 0) (i := 0) (x := 0) 0 rfl rfl dL_law_745 ?_
  refine zq_iload_n (k := 3) (i := 3) (x := i3) 3 rfl rfl dL_law_746 ?_
  refine zq_iconst (v := (nI 1)) rfl dL_law_747 ?_
  refine zq_iadd dL_law_748 ?_
  obtain ⟨b4, H⟩ := H
  refine zq_sld b4 dL_law_749 ?_
  refine zq_invV (as := [.int (xs (i3 + (nI 1)).toNatClampNeg)]) (st := .int x3 :: []) (o := 53) (c := 10) (by decide) rfl (sh_53 wh2) in_X11_broken se_X11_broken mo_X11_broken ml_RL_91 rfl (Nat.le_of_ble_eq_true rfl) dL_law_750 rfl H (fun r1 h5 hq => ?_)
  obtain ⟨x6, rfl, wh5, H⟩ := hq
  show zQ (some (L, xs)) m_L_law (d + 1) 753 [(0, .ref 0), (1, .ref 1), (2, .ref 53), (3, .int i3)] (.int x6 :: .int x3 :: []) h5 Q
  refine zq_icmp_eq (tgt := 1221) dL_law_753 rfl ⟨fun c7 => ?_, fun c7 => ?_⟩
  · have H := H.1 c7
    refine zq_iinc (i := 3) (x := i3) (v := (nI 6)) (ls' := [(3, .int (i3 + (nI 6))), (0, .ref 0), (1, .ref 1), (2, .ref 53)]) 3 rfl rfl (Nat.le_of_ble_eq_true rfl) rfl dL_law_1221 ?_
    refine zq_goto (tgt := 18) dL_law_1224 rfl ?_
    exact zq_sub (ls' := [(0, .ref 0), (1, .ref 1), (2, .ref 53), (3, .int (i3 + (nI 6)))]) [1, 2, 3, 0] rfl H
  · have H := H.2 c7
    refine zq_iconst (v := (nI 0)) rfl dL_law_756 ?_
    exact zq_iret dL_law_757 rfl rfl rfl H
set_option maxHeartbeats 2000000 in
set_option maxRecDepth 20000 in
theorem r_L_law_758 {d : Nat} {h : AH} {Q : Option Value → AH → Prop} (L : Nat) (xs : Nat → Int32) (i3 : Int32) (hw : zWF h)  (H : zK d m_X10_fewest [.ref 1] h (kI fun x2 h1 => zK d m_X11_fewest [.ref 53] h1 (kI fun x4 h3 => (x2 = x4 → zQ (some (L, xs)) m_L_law (d + 1) 18 [(0, .ref 0), (1, .ref 1), (2, .ref 53), (3, .int (i3 + (nI 6)))] [] h3 Q) ∧ (¬ x2 = x4 → Q (some (.int (nI 0))) h3)))) : zQ (some (L, xs)) m_L_law (d + 1) 758 [(0, .ref 0), (1, .ref 1), (2, .ref 53), (3, .int i3)] [] h Q := by
  refine zq_aload_n (k := 1) (i := 1) (x := 1) 1 rfl rfl dL_law_758 ?_
  refine zq_invV (as := []) (st := []) (o := 1) (c := 9) (by decide) rfl (sh_1 hw) in_X10_fewest se_X10_fewest mo_X10_fewest ml_RL_92 rfl (Nat.le_of_ble_eq_true rfl) dL_law_759 rfl H (fun r1 h1 hq => ?_)
  obtain ⟨x2, rfl, wh1, H⟩ := hq
  show zQ (some (L, xs)) m_L_law (d + 1) 762 [(0, .ref 0), (1, .ref 1), (2, .ref 53), (3, .int i3)] (.int x2 :: []) h1 Q
  refine zq_aload_n (k := 2) (i := 2) (x := 53) 2 rfl rfl dL_law_762 ?_
  refine zq_invV (as := []) (st := .int x2 :: []) (o := 53) (c := 10) (by decide) rfl (sh_53 wh1) in_X11_fewest se_X11_fewest mo_X11_fewest ml_RL_96 rfl (Nat.le_of_ble_eq_true rfl) dL_law_763 rfl H (fun r1 h3 hq => ?_)
  obtain ⟨x4, rfl, wh3, H⟩ := hq
  show zQ (some (L, xs)) m_L_law (d + 1) 766 [(0, .ref 0), (1, .ref 1), (2, .ref 53), (3, .int i3)] (.int x4 :: .int x2 :: []) h3 Q
  refine zq_icmp_eq (tgt := 1221) dL_law_766 rfl ⟨fun c5 => ?_, fun c5 => ?_⟩
  · have H := H.1 c5
    refine zq_iinc (i := 3) (x := i3) (v := (nI 6)) (ls' := [(3, .int (i3 + (nI 6))), (0, .ref 0), (1, .ref 1), (2, .ref 53)]) 3 rfl rfl (Nat.le_of_ble_eq_true rfl) rfl dL_law_1221 ?_
    refine zq_goto (tgt := 18) dL_law_1224 rfl ?_
    exact zq_sub (ls' := [(0, .ref 0), (1, .ref 1), (2, .ref 53), (3, .int (i3 + (nI 6)))]) [1, 2, 3, 0] rfl H
  · have H := H.2 c5
    refine zq_iconst (v := (nI 0)) rfl dL_law_769 ?_
    exact zq_iret dL_law_770 rfl rfl rfl H
set_option maxHeartbeats 2000000 in
set_option maxRecDepth 20000 in
theorem r_L_law_771 {d : Nat} {h : AH} {Q : Option Value → AH → Prop} (L : Nat) (xs : Nat → Int32) (i3 : Int32) (hw : zWF h)  (H : vp_in (i3 + (nI 1)) L ∧ (zK d m_X10_feed [.ref 1, .int (xs (i3 + (nI 1)).toNatClampNeg)] h (kI fun x3 h2 => vp_in (i3 + (nI 1)) L ∧ (zK d m_X11_feed [.ref 53, .int (xs (i3 + (nI 1)).toNatClampNeg)] h2 (kI fun x6 h5 => (x3 = x6 → zQ (some (L, xs)) m_L_law (d + 1) 18 [(0, .ref 0), (1, .ref 1), (2, .ref 53), (3, .int (i3 + (nI 6)))] [] h5 Q) ∧ (¬ x3 = x6 → Q (some (.int (nI 0))) h5)))))) : zQ (some (L, xs)) m_L_law (d + 1) 771 [(0, .ref 0), (1, .ref 1), (2, .ref 53), (3, .int i3)] [] h Q := by
  refine zq_aload_n (k := 1) (i := 1) (x := 1) 1 rfl rfl dL_law_771 ?_
  refine zq_aload_n (k := 0) (i := 0) (x := 0) 0 rfl rfl dL_law_772 ?_
  refine zq_iload_n (k := 3) (i := 3) (x := i3) 3 rfl rfl dL_law_773 ?_
  refine zq_iconst (v := (nI 1)) rfl dL_law_774 ?_
  refine zq_iadd dL_law_775 ?_
  obtain ⟨b1, H⟩ := H
  refine zq_sld b1 dL_law_776 ?_
  refine zq_invV (as := [.int (xs (i3 + (nI 1)).toNatClampNeg)]) (st := []) (o := 1) (c := 9) (by decide) rfl (sh_1 hw) in_X10_feed se_X10_feed mo_X10_feed ml_RL_97 rfl (Nat.le_of_ble_eq_true rfl) dL_law_777 rfl H (fun r1 h2 hq => ?_)
  obtain ⟨x3, rfl, wh2, H⟩ := hq
  show zQ (some (L, xs)) m_L_law (d + 1) 780 [(0, .ref 0), (1, .ref 1), (2, .ref 53), (3, .int i3)] (.int x3 :: []) h2 Q
  refine zq_aload_n (k := 2) (i := 2) (x := 53) 2 rfl rfl dL_law_780 ?_
  refine zq_aload_n (k := 0) (i := 0) (x := 0) 0 rfl rfl dL_law_781 ?_
  refine zq_iload_n (k := 3) (i := 3) (x := i3) 3 rfl rfl dL_law_782 ?_
  refine zq_iconst (v := (nI 1)) rfl dL_law_783 ?_
  refine zq_iadd dL_law_784 ?_
  obtain ⟨b4, H⟩ := H
  refine zq_sld b4 dL_law_785 ?_
  refine zq_invV (as := [.int (xs (i3 + (nI 1)).toNatClampNeg)]) (st := .int x3 :: []) (o := 53) (c := 10) (by decide) rfl (sh_53 wh2) in_X11_feed se_X11_feed mo_X11_feed ml_RL_100 rfl (Nat.le_of_ble_eq_true rfl) dL_law_786 rfl H (fun r1 h5 hq => ?_)
  obtain ⟨x6, rfl, wh5, H⟩ := hq
  show zQ (some (L, xs)) m_L_law (d + 1) 789 [(0, .ref 0), (1, .ref 1), (2, .ref 53), (3, .int i3)] (.int x6 :: .int x3 :: []) h5 Q
  refine zq_icmp_eq (tgt := 1221) dL_law_789 rfl ⟨fun c7 => ?_, fun c7 => ?_⟩
  · have H := H.1 c7
    refine zq_iinc (i := 3) (x := i3) (v := (nI 6)) (ls' := [(3, .int (i3 + (nI 6))), (0, .ref 0), (1, .ref 1), (2, .ref 53)]) 3 rfl rfl (Nat.le_of_ble_eq_true rfl) rfl dL_law_1221 ?_
    refine zq_goto (tgt := 18) dL_law_1224 rfl ?_
    exact zq_sub (ls' := [(0, .ref 0), (1, .ref 1), (2, .ref 53), (3, .int (i3 + (nI 6)))]) [1, 2, 3, 0] rfl H
  · have H := H.2 c7
    refine zq_iconst (v := (nI 0)) rfl dL_law_792 ?_
    exact zq_iret dL_law_793 rfl rfl rfl H
set_option maxHeartbeats 2000000 in
set_option maxRecDepth 20000 in
theorem r_L_law_794 {d : Nat} {h : AH} {Q : Option Value → AH → Prop} (L : Nat) (xs : Nat → Int32) (i3 : Int32) (hw : zWF h)  (H : zK d m_X10_clear [.ref 1] h (kI fun x2 h1 => zK d m_X11_clear [.ref 53] h1 (kI fun x4 h3 => (x2 = x4 → zQ (some (L, xs)) m_L_law (d + 1) 18 [(0, .ref 0), (1, .ref 1), (2, .ref 53), (3, .int (i3 + (nI 6)))] [] h3 Q) ∧ (¬ x2 = x4 → Q (some (.int (nI 0))) h3)))) : zQ (some (L, xs)) m_L_law (d + 1) 794 [(0, .ref 0), (1, .ref 1), (2, .ref 53), (3, .int i3)] [] h Q := by
  refine zq_aload_n (k := 1) (i := 1) (x := 1) 1 rfl rfl dL_law_794 ?_
  refine zq_invV (as := []) (st := []) (o := 1) (c := 9) (by decide) rfl (sh_1 hw) in_X10_clear se_X10_clear mo_X10_clear ml_RL_101 rfl (Nat.le_of_ble_eq_true rfl) dL_law_795 rfl H (fun r1 h1 hq => ?_)
  obtain ⟨x2, rfl, wh1, H⟩ := hq
  show zQ (some (L, xs)) m_L_law (d + 1) 798 [(0, .ref 0), (1, .ref 1), (2, .ref 53), (3, .int i3)] (.int x2 :: []) h1 Q
  refine zq_aload_n (k := 2) (i := 2) (x := 53) 2 rfl rfl dL_law_798 ?_
  refine zq_invV (as := []) (st := .int x2 :: []) (o := 53) (c := 10) (by decide) rfl (sh_53 wh1) in_X11_clear se_X11_clear mo_X11_clear ml_RL_104 rfl (Nat.le_of_ble_eq_true rfl) dL_law_799 rfl H (fun r1 h3 hq => ?_)
  obtain ⟨x4, rfl, wh3, H⟩ := hq
  show zQ (some (L, xs)) m_L_law (d + 1) 802 [(0, .ref 0), (1, .ref 1), (2, .ref 53), (3, .int i3)] (.int x4 :: .int x2 :: []) h3 Q
  refine zq_icmp_eq (tgt := 1221) dL_law_802 rfl ⟨fun c5 => ?_, fun c5 => ?_⟩
  · have H := H.1 c5
    refine zq_iinc (i := 3) (x := i3) (v := (nI 6)) (ls' := [(3, .int (i3 + (nI 6))), (0, .ref 0), (1, .ref 1), (2, .ref 53)]) 3 rfl rfl (Nat.le_of_ble_eq_true rfl) rfl dL_law_1221 ?_
    refine zq_goto (tgt := 18) dL_law_1224 rfl ?_
    exact zq_sub (ls' := [(0, .ref 0), (1, .ref 1), (2, .ref 53), (3, .int (i3 + (nI 6)))]) [1, 2, 3, 0] rfl H
  · have H := H.2 c5
    refine zq_iconst (v := (nI 0)) rfl dL_law_805 ?_
    exact zq_iret dL_law_806 rfl rfl rfl H
set_option maxHeartbeats 2000000 in
set_option maxRecDepth 20000 in
theorem r_L_law_807 {d : Nat} {h : AH} {Q : Option Value → AH → Prop} (L : Nat) (xs : Nat → Int32) (i3 : Int32) (hw : zWF h)  (H : zK d m_X10_batch [.ref 1] h (kI fun x2 h1 => zK d m_X11_batch [.ref 53] h1 (kI fun x4 h3 => (x2 = x4 → zQ (some (L, xs)) m_L_law (d + 1) 18 [(0, .ref 0), (1, .ref 1), (2, .ref 53), (3, .int (i3 + (nI 6)))] [] h3 Q) ∧ (¬ x2 = x4 → Q (some (.int (nI 0))) h3)))) : zQ (some (L, xs)) m_L_law (d + 1) 807 [(0, .ref 0), (1, .ref 1), (2, .ref 53), (3, .int i3)] [] h Q := by
  refine zq_aload_n (k := 1) (i := 1) (x := 1) 1 rfl rfl dL_law_807 ?_
  refine zq_invV (as := []) (st := []) (o := 1) (c := 9) (by decide) rfl (sh_1 hw) in_X10_batch se_X10_batch mo_X10_batch ml_RL_105 rfl (Nat.le_of_ble_eq_true rfl) dL_law_808 rfl H (fun r1 h1 hq => ?_)
  obtain ⟨x2, rfl, wh1, H⟩ := hq
  show zQ (some (L, xs)) m_L_law (d + 1) 811 [(0, .ref 0), (1, .ref 1), (2, .ref 53), (3, .int i3)] (.int x2 :: []) h1 Q
  refine zq_aload_n (k := 2) (i := 2) (x := 53) 2 rfl rfl dL_law_811 ?_
  refine zq_invV (as := []) (st := .int x2 :: []) (o := 53) (c := 10) (by decide) rfl (sh_53 wh1) in_X11_batch se_X11_batch mo_X11_batch ml_RL_108 rfl (Nat.le_of_ble_eq_true rfl) dL_law_812 rfl H (fun r1 h3 hq => ?_)
  obtain ⟨x4, rfl, wh3, H⟩ := hq
  show zQ (some (L, xs)) m_L_law (d + 1) 815 [(0, .ref 0), (1, .ref 1), (2, .ref 53), (3, .int i3)] (.int x4 :: .int x2 :: []) h3 Q
  refine zq_icmp_eq (tgt := 1221) dL_law_815 rfl ⟨fun c5 => ?_, fun c5 => ?_⟩
  · have H := H.1 c5
    refine zq_iinc (i := 3) (x := i3) (v := (nI 6)) (ls' := [(3, .int (i3 + (nI 6))), (0, .ref 0), (1, .ref 1), (2, .ref 53)]) 3 rfl rfl (Nat.le_of_ble_eq_true rfl) rfl dL_law_1221 ?_
    refine zq_goto (tgt := 18) dL_law_1224 rfl ?_
    exact zq_sub (ls' := [(0, .ref 0), (1, .ref 1), (2, .ref 53), (3, .int (i3 + (nI 6)))]) [1, 2, 3, 0] rfl H
  · have H := H.2 c5
    refine zq_iconst (v := (nI 0)) rfl dL_law_818 ?_
    exact zq_iret dL_law_819 rfl rfl rfl H
set_option maxHeartbeats 2000000 in
set_option maxRecDepth 20000 in
theorem r_L_law_820 {d : Nat} {h : AH} {Q : Option Value → AH → Prop} (L : Nat) (xs : Nat → Int32) (i3 : Int32) (hw : zWF h)  (H : zK d m_X10_pick [.ref 1] h (kI fun x2 h1 => zK d m_X11_pick [.ref 53] h1 (kI fun x4 h3 => (x2 = x4 → zQ (some (L, xs)) m_L_law (d + 1) 18 [(0, .ref 0), (1, .ref 1), (2, .ref 53), (3, .int (i3 + (nI 6)))] [] h3 Q) ∧ (¬ x2 = x4 → Q (some (.int (nI 0))) h3)))) : zQ (some (L, xs)) m_L_law (d + 1) 820 [(0, .ref 0), (1, .ref 1), (2, .ref 53), (3, .int i3)] [] h Q := by
  refine zq_aload_n (k := 1) (i := 1) (x := 1) 1 rfl rfl dL_law_820 ?_
  refine zq_invV (as := []) (st := []) (o := 1) (c := 9) (by decide) rfl (sh_1 hw) in_X10_pick se_X10_pick mo_X10_pick ml_RL_109 rfl (Nat.le_of_ble_eq_true rfl) dL_law_821 rfl H (fun r1 h1 hq => ?_)
  obtain ⟨x2, rfl, wh1, H⟩ := hq
  show zQ (some (L, xs)) m_L_law (d + 1) 824 [(0, .ref 0), (1, .ref 1), (2, .ref 53), (3, .int i3)] (.int x2 :: []) h1 Q
  refine zq_aload_n (k := 2) (i := 2) (x := 53) 2 rfl rfl dL_law_824 ?_
  refine zq_invV (as := []) (st := .int x2 :: []) (o := 53) (c := 10) (by decide) rfl (sh_53 wh1) in_X11_pick se_X11_pick mo_X11_pick ml_RL_112 rfl (Nat.le_of_ble_eq_true rfl) dL_law_825 rfl H (fun r1 h3 hq => ?_)
  obtain ⟨x4, rfl, wh3, H⟩ := hq
  show zQ (some (L, xs)) m_L_law (d + 1) 828 [(0, .ref 0), (1, .ref 1), (2, .ref 53), (3, .int i3)] (.int x4 :: .int x2 :: []) h3 Q
  refine zq_icmp_eq (tgt := 1221) dL_law_828 rfl ⟨fun c5 => ?_, fun c5 => ?_⟩
  · have H := H.1 c5
    refine zq_iinc (i := 3) (x := i3) (v := (nI 6)) (ls' := [(3, .int (i3 + (nI 6))), (0, .ref 0), (1, .ref 1), (2, .ref 53)]) 3 rfl rfl (Nat.le_of_ble_eq_true rfl) rfl dL_law_1221 ?_
    refine zq_goto (tgt := 18) dL_law_1224 rfl ?_
    exact zq_sub (ls' := [(0, .ref 0), (1, .ref 1), (2, .ref 53), (3, .int (i3 + (nI 6)))]) [1, 2, 3, 0] rfl H
  · have H := H.2 c5
    refine zq_iconst (v := (nI 0)) rfl dL_law_831 ?_
    exact zq_iret dL_law_832 rfl rfl rfl H
set_option maxHeartbeats 2000000 in
set_option maxRecDepth 20000 in
theorem r_L_law_833 {d : Nat} {h : AH} {Q : Option Value → AH → Prop} (L : Nat) (xs : Nat → Int32) (i3 : Int32) (hw : zWF h)  (H : zK d m_X10_picked [.ref 1] h (kL fun x2 h1 => zK d m_X11_picked [.ref 53] h1 (kL fun x4 h3 => ((lg_cmp x2 x4) = 0 → zQ (some (L, xs)) m_L_law (d + 1) 18 [(0, .ref 0), (1, .ref 1), (2, .ref 53), (3, .int (i3 + (nI 6)))] [] h3 Q) ∧ (¬ (lg_cmp x2 x4) = 0 → Q (some (.int (nI 0))) h3)))) : zQ (some (L, xs)) m_L_law (d + 1) 833 [(0, .ref 0), (1, .ref 1), (2, .ref 53), (3, .int i3)] [] h Q := by
  refine zq_aload_n (k := 1) (i := 1) (x := 1) 1 rfl rfl dL_law_833 ?_
  refine zq_invV (as := []) (st := []) (o := 1) (c := 9) (by decide) rfl (sh_1 hw) in_X10_picked se_X10_picked mo_X10_picked ml_RL_113 rfl (Nat.le_of_ble_eq_true rfl) dL_law_834 rfl H (fun r1 h1 hq => ?_)
  obtain ⟨x2, rfl, wh1, H⟩ := hq
  show zQ (some (L, xs)) m_L_law (d + 1) 837 [(0, .ref 0), (1, .ref 1), (2, .ref 53), (3, .int i3)] (.long x2 :: []) h1 Q
  refine zq_aload_n (k := 2) (i := 2) (x := 53) 2 rfl rfl dL_law_837 ?_
  refine zq_invV (as := []) (st := .long x2 :: []) (o := 53) (c := 10) (by decide) rfl (sh_53 wh1) in_X11_picked se_X11_picked mo_X11_picked ml_RL_116 rfl (Nat.le_of_ble_eq_true rfl) dL_law_838 rfl H (fun r1 h3 hq => ?_)
  obtain ⟨x4, rfl, wh3, H⟩ := hq
  show zQ (some (L, xs)) m_L_law (d + 1) 841 [(0, .ref 0), (1, .ref 1), (2, .ref 53), (3, .int i3)] (.long x4 :: .long x2 :: []) h3 Q
  refine zq_lcmp dL_law_841 ?_
  refine zq_if_eq (tgt := 1221) dL_law_842 rfl ⟨fun c5 => ?_, fun c5 => ?_⟩
  · have H := H.1 c5
    refine zq_iinc (i := 3) (x := i3) (v := (nI 6)) (ls' := [(3, .int (i3 + (nI 6))), (0, .ref 0), (1, .ref 1), (2, .ref 53)]) 3 rfl rfl (Nat.le_of_ble_eq_true rfl) rfl dL_law_1221 ?_
    refine zq_goto (tgt := 18) dL_law_1224 rfl ?_
    exact zq_sub (ls' := [(0, .ref 0), (1, .ref 1), (2, .ref 53), (3, .int (i3 + (nI 6)))]) [1, 2, 3, 0] rfl H
  · have H := H.2 c5
    refine zq_iconst (v := (nI 0)) rfl dL_law_845 ?_
    exact zq_iret dL_law_846 rfl rfl rfl H
set_option maxHeartbeats 2000000 in
set_option maxRecDepth 20000 in
theorem r_L_law_847 {d : Nat} {h : AH} {Q : Option Value → AH → Prop} (L : Nat) (xs : Nat → Int32) (i3 : Int32) (hw : zWF h)  (H : zK d m_X10_spell [.ref 1] h (kI fun x2 h1 => zK d m_X11_spell [.ref 53] h1 (kI fun x4 h3 => (x2 = x4 → zQ (some (L, xs)) m_L_law (d + 1) 18 [(0, .ref 0), (1, .ref 1), (2, .ref 53), (3, .int (i3 + (nI 6)))] [] h3 Q) ∧ (¬ x2 = x4 → Q (some (.int (nI 0))) h3)))) : zQ (some (L, xs)) m_L_law (d + 1) 847 [(0, .ref 0), (1, .ref 1), (2, .ref 53), (3, .int i3)] [] h Q := by
  refine zq_aload_n (k := 1) (i := 1) (x := 1) 1 rfl rfl dL_law_847 ?_
  refine zq_invV (as := []) (st := []) (o := 1) (c := 9) (by decide) rfl (sh_1 hw) in_X10_spell se_X10_spell mo_X10_spell ml_RL_117 rfl (Nat.le_of_ble_eq_true rfl) dL_law_848 rfl H (fun r1 h1 hq => ?_)
  obtain ⟨x2, rfl, wh1, H⟩ := hq
  show zQ (some (L, xs)) m_L_law (d + 1) 851 [(0, .ref 0), (1, .ref 1), (2, .ref 53), (3, .int i3)] (.int x2 :: []) h1 Q
  refine zq_aload_n (k := 2) (i := 2) (x := 53) 2 rfl rfl dL_law_851 ?_
  refine zq_invV (as := []) (st := .int x2 :: []) (o := 53) (c := 10) (by decide) rfl (sh_53 wh1) in_X11_spell se_X11_spell mo_X11_spell ml_RL_120 rfl (Nat.le_of_ble_eq_true rfl) dL_law_852 rfl H (fun r1 h3 hq => ?_)
  obtain ⟨x4, rfl, wh3, H⟩ := hq
  show zQ (some (L, xs)) m_L_law (d + 1) 855 [(0, .ref 0), (1, .ref 1), (2, .ref 53), (3, .int i3)] (.int x4 :: .int x2 :: []) h3 Q
  refine zq_icmp_eq (tgt := 1221) dL_law_855 rfl ⟨fun c5 => ?_, fun c5 => ?_⟩
  · have H := H.1 c5
    refine zq_iinc (i := 3) (x := i3) (v := (nI 6)) (ls' := [(3, .int (i3 + (nI 6))), (0, .ref 0), (1, .ref 1), (2, .ref 53)]) 3 rfl rfl (Nat.le_of_ble_eq_true rfl) rfl dL_law_1221 ?_
    refine zq_goto (tgt := 18) dL_law_1224 rfl ?_
    exact zq_sub (ls' := [(0, .ref 0), (1, .ref 1), (2, .ref 53), (3, .int (i3 + (nI 6)))]) [1, 2, 3, 0] rfl H
  · have H := H.2 c5
    refine zq_iconst (v := (nI 0)) rfl dL_law_858 ?_
    exact zq_iret dL_law_859 rfl rfl rfl H
set_option maxHeartbeats 2000000 in
set_option maxRecDepth 20000 in
theorem r_L_law_860 {d : Nat} {h : AH} {Q : Option Value → AH → Prop} (L : Nat) (xs : Nat → Int32) (i3 : Int32) (hw : zWF h)  (H : vp_in (i3 + (nI 1)) L ∧ (zK d m_X10_paper [.ref 1, .int (xs (i3 + (nI 1)).toNatClampNeg)] h (kI fun x3 h2 => vp_in (i3 + (nI 1)) L ∧ (zK d m_X11_paper [.ref 53, .int (xs (i3 + (nI 1)).toNatClampNeg)] h2 (kI fun x6 h5 => (x3 = x6 → zQ (some (L, xs)) m_L_law (d + 1) 18 [(0, .ref 0), (1, .ref 1), (2, .ref 53), (3, .int (i3 + (nI 6)))] [] h5 Q) ∧ (¬ x3 = x6 → Q (some (.int (nI 0))) h5)))))) : zQ (some (L, xs)) m_L_law (d + 1) 860 [(0, .ref 0), (1, .ref 1), (2, .ref 53), (3, .int i3)] [] h Q := by
  refine zq_aload_n (k := 1) (i := 1) (x := 1) 1 rfl rfl dL_law_860 ?_
  refine zq_aload_n (k := 0) (i := 0) (x := 0) 0 rfl rfl dL_law_861 ?_
  refine zq_iload_n (k := 3) (i := 3) (x := i3) 3 rfl rfl dL_law_862 ?_
  refine zq_iconst (v := (nI 1)) rfl dL_law_863 ?_
  refine zq_iadd dL_law_864 ?_
  obtain ⟨b1, H⟩ := H
  refine zq_sld b1 dL_law_865 ?_
  refine zq_invV (as := [.int (xs (i3 + (nI 1)).toNatClampNeg)]) (st := []) (o := 1) (c := 9) (by decide) rfl (sh_1 hw) in_X10_paper se_X10_paper mo_X10_paper ml_RL_121 rfl (Nat.le_of_ble_eq_true rfl) dL_law_866 rfl H (fun r1 h2 hq => ?_)
  obtain ⟨x3, rfl, wh2, H⟩ := hq
  show zQ (some (L, xs)) m_L_law (d + 1) 869 [(0, .ref 0), (1, .ref 1), (2, .ref 53), (3, .int i3)] (.int x3 :: []) h2 Q
  refine zq_aload_n (k := 2) (i := 2) (x := 53) 2 rfl rfl dL_law_869 ?_
  refine zq_aload_n (k := 0) (i := 0) (x := 0) 0 rfl rfl dL_law_870 ?_
  refine zq_iload_n (k := 3) (i := 3) (x := i3) 3 rfl rfl dL_law_871 ?_
  refine zq_iconst (v := (nI 1)) rfl dL_law_872 ?_
  refine zq_iadd dL_law_873 ?_
  obtain ⟨b4, H⟩ := H
  refine zq_sld b4 dL_law_874 ?_
  refine zq_invV (as := [.int (xs (i3 + (nI 1)).toNatClampNeg)]) (st := .int x3 :: []) (o := 53) (c := 10) (by decide) rfl (sh_53 wh2) in_X11_paper se_X11_paper mo_X11_paper ml_RL_124 rfl (Nat.le_of_ble_eq_true rfl) dL_law_875 rfl H (fun r1 h5 hq => ?_)
  obtain ⟨x6, rfl, wh5, H⟩ := hq
  show zQ (some (L, xs)) m_L_law (d + 1) 878 [(0, .ref 0), (1, .ref 1), (2, .ref 53), (3, .int i3)] (.int x6 :: .int x3 :: []) h5 Q
  refine zq_icmp_eq (tgt := 1221) dL_law_878 rfl ⟨fun c7 => ?_, fun c7 => ?_⟩
  · have H := H.1 c7
    refine zq_iinc (i := 3) (x := i3) (v := (nI 6)) (ls' := [(3, .int (i3 + (nI 6))), (0, .ref 0), (1, .ref 1), (2, .ref 53)]) 3 rfl rfl (Nat.le_of_ble_eq_true rfl) rfl dL_law_1221 ?_
    refine zq_goto (tgt := 18) dL_law_1224 rfl ?_
    exact zq_sub (ls' := [(0, .ref 0), (1, .ref 1), (2, .ref 53), (3, .int (i3 + (nI 6)))]) [1, 2, 3, 0] rfl H
  · have H := H.2 c7
    refine zq_iconst (v := (nI 0)) rfl dL_law_881 ?_
    exact zq_iret dL_law_882 rfl rfl rfl H
set_option maxHeartbeats 2000000 in
set_option maxRecDepth 20000 in
theorem r_L_law_883 {d : Nat} {h : AH} {Q : Option Value → AH → Prop} (L : Nat) (xs : Nat → Int32) (i3 : Int32) (hw : zWF h)  (H : vp_in (i3 + (nI 1)) L ∧ (zK d m_X10_back [.ref 1, .int (xs (i3 + (nI 1)).toNatClampNeg)] h (kI fun x3 h2 => vp_in (i3 + (nI 1)) L ∧ (zK d m_X11_back [.ref 53, .int (xs (i3 + (nI 1)).toNatClampNeg)] h2 (kI fun x6 h5 => (x3 = x6 → zQ (some (L, xs)) m_L_law (d + 1) 18 [(0, .ref 0), (1, .ref 1), (2, .ref 53), (3, .int (i3 + (nI 6)))] [] h5 Q) ∧ (¬ x3 = x6 → Q (some (.int (nI 0))) h5)))))) : zQ (some (L, xs)) m_L_law (d + 1) 883 [(0, .ref 0), (1, .ref 1), (2, .ref 53), (3, .int i3)] [] h Q := by
  refine zq_aload_n (k := 1) (i := 1) (x := 1) 1 rfl rfl dL_law_883 ?_
  refine zq_aload_n (k := 0) (i := 0) (x := 0) 0 rfl rfl dL_law_884 ?_
  refine zq_iload_n (k := 3) (i := 3) (x := i3) 3 rfl rfl dL_law_885 ?_
  refine zq_iconst (v := (nI 1)) rfl dL_law_886 ?_
  refine zq_iadd dL_law_887 ?_
  obtain ⟨b1, H⟩ := H
  refine zq_sld b1 dL_law_888 ?_
  refine zq_invV (as := [.int (xs (i3 + (nI 1)).toNatClampNeg)]) (st := []) (o := 1) (c := 9) (by decide) rfl (sh_1 hw) in_X10_back se_X10_back mo_X10_back ml_RL_125 rfl (Nat.le_of_ble_eq_true rfl) dL_law_889 rfl H (fun r1 h2 hq => ?_)
  obtain ⟨x3, rfl, wh2, H⟩ := hq
  show zQ (some (L, xs)) m_L_law (d + 1) 892 [(0, .ref 0), (1, .ref 1), (2, .ref 53), (3, .int i3)] (.int x3 :: []) h2 Q
  refine zq_aload_n (k := 2) (i := 2) (x := 53) 2 rfl rfl dL_law_892 ?_
  refine zq_aload_n (k := 0) (i := 0) (x := 0) 0 rfl rfl dL_law_893 ?_
  refine zq_iload_n (k := 3) (i := 3) (x := i3) 3 rfl rfl dL_law_894 ?_
  refine zq_iconst (v := (nI 1)) rfl dL_law_895 ?_
  refine zq_iadd dL_law_896 ?_
  obtain ⟨b4, H⟩ := H
  refine zq_sld b4 dL_law_897 ?_
  refine zq_invV (as := [.int (xs (i3 + (nI 1)).toNatClampNeg)]) (st := .int x3 :: []) (o := 53) (c := 10) (by decide) rfl (sh_53 wh2) in_X11_back se_X11_back mo_X11_back ml_RL_128 rfl (Nat.le_of_ble_eq_true rfl) dL_law_898 rfl H (fun r1 h5 hq => ?_)
  obtain ⟨x6, rfl, wh5, H⟩ := hq
  show zQ (some (L, xs)) m_L_law (d + 1) 901 [(0, .ref 0), (1, .ref 1), (2, .ref 53), (3, .int i3)] (.int x6 :: .int x3 :: []) h5 Q
  refine zq_icmp_eq (tgt := 1221) dL_law_901 rfl ⟨fun c7 => ?_, fun c7 => ?_⟩
  · have H := H.1 c7
    refine zq_iinc (i := 3) (x := i3) (v := (nI 6)) (ls' := [(3, .int (i3 + (nI 6))), (0, .ref 0), (1, .ref 1), (2, .ref 53)]) 3 rfl rfl (Nat.le_of_ble_eq_true rfl) rfl dL_law_1221 ?_
    refine zq_goto (tgt := 18) dL_law_1224 rfl ?_
    exact zq_sub (ls' := [(0, .ref 0), (1, .ref 1), (2, .ref 53), (3, .int (i3 + (nI 6)))]) [1, 2, 3, 0] rfl H
  · have H := H.2 c7
    refine zq_iconst (v := (nI 0)) rfl dL_law_904 ?_
    exact zq_iret dL_law_905 rfl rfl rfl H
set_option maxHeartbeats 2000000 in
set_option maxRecDepth 20000 in
theorem r_L_law_906 {d : Nat} {h : AH} {Q : Option Value → AH → Prop} (L : Nat) (xs : Nat → Int32) (i3 : Int32) (hw : zWF h)  (H : vp_in (i3 + (nI 1)) L ∧ (vp_in (i3 + (nI 2)) L ∧ (zK d m_X10_list [.ref 1, .int (xs (i3 + (nI 1)).toNatClampNeg), .int (xs (i3 + (nI 2)).toNatClampNeg)] h (kI fun x4 h3 => vp_in (i3 + (nI 1)) L ∧ (vp_in (i3 + (nI 2)) L ∧ (zK d m_X11_list [.ref 53, .int (xs (i3 + (nI 1)).toNatClampNeg), .int (xs (i3 + (nI 2)).toNatClampNeg)] h3 (kI fun x8 h7 => (x4 = x8 → zQ (some (L, xs)) m_L_law (d + 1) 18 [(0, .ref 0), (1, .ref 1), (2, .ref 53), (3, .int (i3 + (nI 6)))] [] h7 Q) ∧ (¬ x4 = x8 → Q (some (.int (nI 0))) h7)))))))) : zQ (some (L, xs)) m_L_law (d + 1) 906 [(0, .ref 0), (1, .ref 1), (2, .ref 53), (3, .int i3)] [] h Q := by
  refine zq_aload_n (k := 1) (i := 1) (x := 1) 1 rfl rfl dL_law_906 ?_
  refine zq_aload_n (k := 0) (i := 0) (x := 0) 0 rfl rfl dL_law_907 ?_
  refine zq_iload_n (k := 3) (i := 3) (x := i3) 3 rfl rfl dL_law_908 ?_
  refine zq_iconst (v := (nI 1)) rfl dL_law_909 ?_
  refine zq_iadd dL_law_910 ?_
  obtain ⟨b1, H⟩ := H
  refine zq_sld b1 dL_law_911 ?_
  refine zq_aload_n (k := 0) (i := 0) (x := 0) 0 rfl rfl dL_law_912 ?_
  refine zq_iload_n (k := 3) (i := 3) (x := i3) 3 rfl rfl dL_law_913 ?_
  refine zq_iconst (v := (nI 2)) rfl dL_law_914 ?_
  refine zq_iadd dL_law_915 ?_
  obtain ⟨b2, H⟩ := H
  refine zq_sld b2 dL_law_916 ?_
  refine zq_invV (as := [.int (xs (i3 + (nI 1)).toNatClampNeg), .int (xs (i3 + (nI 2)).toNatClampNeg)]) (st := []) (o := 1) (c := 9) (by decide) rfl (sh_1 hw) in_X10_list se_X10_list mo_X10_list ml_RL_129 rfl (Nat.le_of_ble_eq_true rfl) dL_law_917 rfl H (fun r1 h3 hq => ?_)
  obtain ⟨x4, rfl, wh3, H⟩ := hq
  show zQ (some (L, xs)) m_L_law (d + 1) 920 [(0, .ref 0), (1, .ref 1), (2, .ref 53), (3, .int i3)] (.int x4 :: []) h3 Q
  refine zq_aload_n (k := 2) (i := 2) (x := 53) 2 rfl rfl dL_law_920 ?_
  refine zq_aload_n (k := 0) (i := 0) (x := 0) 0 rfl rfl dL_law_921 ?_
  refine zq_iload_n (k := 3) (i := 3) (x := i3) 3 rfl rfl dL_law_922 ?_
  refine zq_iconst (v := (nI 1)) rfl dL_law_923 ?_
  refine zq_iadd dL_law_924 ?_
  obtain ⟨b5, H⟩ := H
  refine zq_sld b5 dL_law_925 ?_
  refine zq_aload_n (k := 0) (i := 0) (x := 0) 0 rfl rfl dL_law_926 ?_
  refine zq_iload_n (k := 3) (i := 3) (x := i3) 3 rfl rfl dL_law_927 ?_
  refine zq_iconst (v := (nI 2)) rfl dL_law_928 ?_
  refine zq_iadd dL_law_929 ?_
  obtain ⟨b6, H⟩ := H
  refine zq_sld b6 dL_law_930 ?_
  refine zq_invV (as := [.int (xs (i3 + (nI 1)).toNatClampNeg), .int (xs (i3 + (nI 2)).toNatClampNeg)]) (st := .int x4 :: []) (o := 53) (c := 10) (by decide) rfl (sh_53 wh3) in_X11_list se_X11_list mo_X11_list ml_RL_132 rfl (Nat.le_of_ble_eq_true rfl) dL_law_931 rfl H (fun r1 h7 hq => ?_)
  obtain ⟨x8, rfl, wh7, H⟩ := hq
  show zQ (some (L, xs)) m_L_law (d + 1) 934 [(0, .ref 0), (1, .ref 1), (2, .ref 53), (3, .int i3)] (.int x8 :: .int x4 :: []) h7 Q
  refine zq_icmp_eq (tgt := 1221) dL_law_934 rfl ⟨fun c9 => ?_, fun c9 => ?_⟩
  · have H := H.1 c9
    refine zq_iinc (i := 3) (x := i3) (v := (nI 6)) (ls' := [(3, .int (i3 + (nI 6))), (0, .ref 0), (1, .ref 1), (2, .ref 53)]) 3 rfl rfl (Nat.le_of_ble_eq_true rfl) rfl dL_law_1221 ?_
    refine zq_goto (tgt := 18) dL_law_1224 rfl ?_
    exact zq_sub (ls' := [(0, .ref 0), (1, .ref 1), (2, .ref 53), (3, .int (i3 + (nI 6)))]) [1, 2, 3, 0] rfl H
  · have H := H.2 c9
    refine zq_iconst (v := (nI 0)) rfl dL_law_937 ?_
    exact zq_iret dL_law_938 rfl rfl rfl H
set_option maxHeartbeats 2000000 in
set_option maxRecDepth 20000 in
theorem r_L_law_939 {d : Nat} {h : AH} {Q : Option Value → AH → Prop} (L : Nat) (xs : Nat → Int32) (i3 : Int32) (hw : zWF h)  (H : vp_in (i3 + (nI 1)) L ∧ (vp_in (i3 + (nI 2)) L ∧ (vp_in (i3 + (nI 3)) L ∧ (vp_in (i3 + (nI 4)) L ∧ (zK d m_X10_set [.ref 1, .int (xs (i3 + (nI 1)).toNatClampNeg), .int (xs (i3 + (nI 2)).toNatClampNeg), .long (((xs (i3 + (nI 3)).toNatClampNeg).toInt64 <<< ((nI 32).toInt64 &&& 63)) ||| ((xs (i3 + (nI 4)).toNatClampNeg).toInt64 &&& (4294967295 : Int64)))] h (kI fun x6 h5 => vp_in (i3 + (nI 1)) L ∧ (vp_in (i3 + (nI 2)) L ∧ (vp_in (i3 + (nI 3)) L ∧ (vp_in (i3 + (nI 4)) L ∧ (zK d m_X11_set [.ref 53, .int (xs (i3 + (nI 1)).toNatClampNeg), .int (xs (i3 + (nI 2)).toNatClampNeg), .long (((xs (i3 + (nI 3)).toNatClampNeg).toInt64 <<< ((nI 32).toInt64 &&& 63)) ||| ((xs (i3 + (nI 4)).toNatClampNeg).toInt64 &&& (4294967295 : Int64)))] h5 (kI fun x12 h11 => (x6 = x12 → zQ (some (L, xs)) m_L_law (d + 1) 18 [(0, .ref 0), (1, .ref 1), (2, .ref 53), (3, .int (i3 + (nI 6)))] [] h11 Q) ∧ (¬ x6 = x12 → Q (some (.int (nI 0))) h11)))))))))))) : zQ (some (L, xs)) m_L_law (d + 1) 939 [(0, .ref 0), (1, .ref 1), (2, .ref 53), (3, .int i3)] [] h Q := by
  refine zq_aload_n (k := 1) (i := 1) (x := 1) 1 rfl rfl dL_law_939 ?_
  refine zq_aload_n (k := 0) (i := 0) (x := 0) 0 rfl rfl dL_law_940 ?_
  refine zq_iload_n (k := 3) (i := 3) (x := i3) 3 rfl rfl dL_law_941 ?_
  refine zq_iconst (v := (nI 1)) rfl dL_law_942 ?_
  refine zq_iadd dL_law_943 ?_
  obtain ⟨b1, H⟩ := H
  refine zq_sld b1 dL_law_944 ?_
  refine zq_aload_n (k := 0) (i := 0) (x := 0) 0 rfl rfl dL_law_945 ?_
  refine zq_iload_n (k := 3) (i := 3) (x := i3) 3 rfl rfl dL_law_946 ?_
  refine zq_iconst (v := (nI 2)) rfl dL_law_947 ?_
  refine zq_iadd dL_law_948 ?_
  obtain ⟨b2, H⟩ := H
  refine zq_sld b2 dL_law_949 ?_
  refine zq_aload_n (k := 0) (i := 0) (x := 0) 0 rfl rfl dL_law_950 ?_
  refine zq_iload_n (k := 3) (i := 3) (x := i3) 3 rfl rfl dL_law_951 ?_
  refine zq_iconst (v := (nI 3)) rfl dL_law_952 ?_
  refine zq_iadd dL_law_953 ?_
  obtain ⟨b3, H⟩ := H
  refine zq_sld b3 dL_law_954 ?_
  refine zq_i2l dL_law_955 ?_
  refine zq_bipush (v := (nI 32)) rfl dL_law_956 ?_
  refine zq_lshl dL_law_958 ?_
  refine zq_aload_n (k := 0) (i := 0) (x := 0) 0 rfl rfl dL_law_959 ?_
  refine zq_iload_n (k := 3) (i := 3) (x := i3) 3 rfl rfl dL_law_960 ?_
  refine zq_iconst (v := (nI 4)) rfl dL_law_961 ?_
  refine zq_iadd dL_law_962 ?_
  obtain ⟨b4, H⟩ := H
  refine zq_sld b4 dL_law_963 ?_
  refine zq_i2l dL_law_964 ?_
  refine zq_ldc2 (v := (4294967295)) cl_RL_133 dL_law_965 ?_
  refine zq_land dL_law_968 ?_
  refine zq_lor dL_law_969 ?_
  refine zq_invV (as := [.int (xs (i3 + (nI 1)).toNatClampNeg), .int (xs (i3 + (nI 2)).toNatClampNeg), .long (((xs (i3 + (nI 3)).toNatClampNeg).toInt64 <<< ((nI 32).toInt64 &&& 63)) ||| ((xs (i3 + (nI 4)).toNatClampNeg).toInt64 &&& (4294967295 : Int64)))]) (st := []) (o := 1) (c := 9) (by decide) rfl (sh_1 hw) in_X10_set se_X10_set mo_X10_set ml_RL_135 rfl (Nat.le_of_ble_eq_true rfl) dL_law_970 rfl H (fun r1 h5 hq => ?_)
  obtain ⟨x6, rfl, wh5, H⟩ := hq
  show zQ (some (L, xs)) m_L_law (d + 1) 973 [(0, .ref 0), (1, .ref 1), (2, .ref 53), (3, .int i3)] (.int x6 :: []) h5 Q
  refine zq_aload_n (k := 2) (i := 2) (x := 53) 2 rfl rfl dL_law_973 ?_
  refine zq_aload_n (k := 0) (i := 0) (x := 0) 0 rfl rfl dL_law_974 ?_
  refine zq_iload_n (k := 3) (i := 3) (x := i3) 3 rfl rfl dL_law_975 ?_
  refine zq_iconst (v := (nI 1)) rfl dL_law_976 ?_
  refine zq_iadd dL_law_977 ?_
  obtain ⟨b7, H⟩ := H
  refine zq_sld b7 dL_law_978 ?_
  refine zq_aload_n (k := 0) (i := 0) (x := 0) 0 rfl rfl dL_law_979 ?_
  refine zq_iload_n (k := 3) (i := 3) (x := i3) 3 rfl rfl dL_law_980 ?_
  refine zq_iconst (v := (nI 2)) rfl dL_law_981 ?_
  refine zq_iadd dL_law_982 ?_
  obtain ⟨b8, H⟩ := H
  refine zq_sld b8 dL_law_983 ?_
  refine zq_aload_n (k := 0) (i := 0) (x := 0) 0 rfl rfl dL_law_984 ?_
  refine zq_iload_n (k := 3) (i := 3) (x := i3) 3 rfl rfl dL_law_985 ?_
  refine zq_iconst (v := (nI 3)) rfl dL_law_986 ?_
  refine zq_iadd dL_law_987 ?_
  obtain ⟨b9, H⟩ := H
  refine zq_sld b9 dL_law_988 ?_
  refine zq_i2l dL_law_989 ?_
  refine zq_bipush (v := (nI 32)) rfl dL_law_990 ?_
  refine zq_lshl dL_law_992 ?_
  refine zq_aload_n (k := 0) (i := 0) (x := 0) 0 rfl rfl dL_law_993 ?_
  refine zq_iload_n (k := 3) (i := 3) (x := i3) 3 rfl rfl dL_law_994 ?_
  refine zq_iconst (v := (nI 4)) rfl dL_law_995 ?_
  refine zq_iadd dL_law_996 ?_
  obtain ⟨b10, H⟩ := H
  refine zq_sld b10 dL_law_997 ?_
  refine zq_i2l dL_law_998 ?_
  refine zq_ldc2 (v := (4294967295)) cl_RL_133 dL_law_999 ?_
  refine zq_land dL_law_1002 ?_
  refine zq_lor dL_law_1003 ?_
  refine zq_invV (as := [.int (xs (i3 + (nI 1)).toNatClampNeg), .int (xs (i3 + (nI 2)).toNatClampNeg), .long (((xs (i3 + (nI 3)).toNatClampNeg).toInt64 <<< ((nI 32).toInt64 &&& 63)) ||| ((xs (i3 + (nI 4)).toNatClampNeg).toInt64 &&& (4294967295 : Int64)))]) (st := .int x6 :: []) (o := 53) (c := 10) (by decide) rfl (sh_53 wh5) in_X11_set se_X11_set mo_X11_set ml_RL_139 rfl (Nat.le_of_ble_eq_true rfl) dL_law_1004 rfl H (fun r1 h11 hq => ?_)
  obtain ⟨x12, rfl, wh11, H⟩ := hq
  show zQ (some (L, xs)) m_L_law (d + 1) 1007 [(0, .ref 0), (1, .ref 1), (2, .ref 53), (3, .int i3)] (.int x12 :: .int x6 :: []) h11 Q
  refine zq_icmp_eq (tgt := 1221) dL_law_1007 rfl ⟨fun c13 => ?_, fun c13 => ?_⟩
  · have H := H.1 c13
    refine zq_iinc (i := 3) (x := i3) (v := (nI 6)) (ls' := [(3, .int (i3 + (nI 6))), (0, .ref 0), (1, .ref 1), (2, .ref 53)]) 3 rfl rfl (Nat.le_of_ble_eq_true rfl) rfl dL_law_1221 ?_
    refine zq_goto (tgt := 18) dL_law_1224 rfl ?_
    exact zq_sub (ls' := [(0, .ref 0), (1, .ref 1), (2, .ref 53), (3, .int (i3 + (nI 6)))]) [1, 2, 3, 0] rfl H
  · have H := H.2 c13
    refine zq_iconst (v := (nI 0)) rfl dL_law_1010 ?_
    exact zq_iret dL_law_1011 rfl rfl rfl H
set_option maxHeartbeats 2000000 in
set_option maxRecDepth 20000 in
theorem r_L_law_1012 {d : Nat} {h : AH} {Q : Option Value → AH → Prop} (L : Nat) (xs : Nat → Int32) (i3 : Int32) (hw : zWF h)  (H : vp_in (i3 + (nI 1)) L ∧ (vp_in (i3 + (nI 2)) L ∧ (zK d m_X10_get [.ref 1, .int (xs (i3 + (nI 1)).toNatClampNeg), .int (xs (i3 + (nI 2)).toNatClampNeg)] h (kL fun x4 h3 => vp_in (i3 + (nI 1)) L ∧ (vp_in (i3 + (nI 2)) L ∧ (zK d m_X11_get [.ref 53, .int (xs (i3 + (nI 1)).toNatClampNeg), .int (xs (i3 + (nI 2)).toNatClampNeg)] h3 (kL fun x8 h7 => ((lg_cmp x4 x8) = 0 → zQ (some (L, xs)) m_L_law (d + 1) 18 [(0, .ref 0), (1, .ref 1), (2, .ref 53), (3, .int (i3 + (nI 6)))] [] h7 Q) ∧ (¬ (lg_cmp x4 x8) = 0 → Q (some (.int (nI 0))) h7)))))))) : zQ (some (L, xs)) m_L_law (d + 1) 1012 [(0, .ref 0), (1, .ref 1), (2, .ref 53), (3, .int i3)] [] h Q := by
  refine zq_aload_n (k := 1) (i := 1) (x := 1) 1 rfl rfl dL_law_1012 ?_
  refine zq_aload_n (k := 0) (i := 0) (x := 0) 0 rfl rfl dL_law_1013 ?_
  refine zq_iload_n (k := 3) (i := 3) (x := i3) 3 rfl rfl dL_law_1014 ?_
  refine zq_iconst (v := (nI 1)) rfl dL_law_1015 ?_
  refine zq_iadd dL_law_1016 ?_
  obtain ⟨b1, H⟩ := H
  refine zq_sld b1 dL_law_1017 ?_
  refine zq_aload_n (k := 0) (i := 0) (x := 0) 0 rfl rfl dL_law_1018 ?_
  refine zq_iload_n (k := 3) (i := 3) (x := i3) 3 rfl rfl dL_law_1019 ?_
  refine zq_iconst (v := (nI 2)) rfl dL_law_1020 ?_
  refine zq_iadd dL_law_1021 ?_
  obtain ⟨b2, H⟩ := H
  refine zq_sld b2 dL_law_1022 ?_
  refine zq_invV (as := [.int (xs (i3 + (nI 1)).toNatClampNeg), .int (xs (i3 + (nI 2)).toNatClampNeg)]) (st := []) (o := 1) (c := 9) (by decide) rfl (sh_1 hw) in_X10_get se_X10_get mo_X10_get ml_RL_140 rfl (Nat.le_of_ble_eq_true rfl) dL_law_1023 rfl H (fun r1 h3 hq => ?_)
  obtain ⟨x4, rfl, wh3, H⟩ := hq
  show zQ (some (L, xs)) m_L_law (d + 1) 1026 [(0, .ref 0), (1, .ref 1), (2, .ref 53), (3, .int i3)] (.long x4 :: []) h3 Q
  refine zq_aload_n (k := 2) (i := 2) (x := 53) 2 rfl rfl dL_law_1026 ?_
  refine zq_aload_n (k := 0) (i := 0) (x := 0) 0 rfl rfl dL_law_1027 ?_
  refine zq_iload_n (k := 3) (i := 3) (x := i3) 3 rfl rfl dL_law_1028 ?_
  refine zq_iconst (v := (nI 1)) rfl dL_law_1029 ?_
  refine zq_iadd dL_law_1030 ?_
  obtain ⟨b5, H⟩ := H
  refine zq_sld b5 dL_law_1031 ?_
  refine zq_aload_n (k := 0) (i := 0) (x := 0) 0 rfl rfl dL_law_1032 ?_
  refine zq_iload_n (k := 3) (i := 3) (x := i3) 3 rfl rfl dL_law_1033 ?_
  refine zq_iconst (v := (nI 2)) rfl dL_law_1034 ?_
  refine zq_iadd dL_law_1035 ?_
  obtain ⟨b6, H⟩ := H
  refine zq_sld b6 dL_law_1036 ?_
  refine zq_invV (as := [.int (xs (i3 + (nI 1)).toNatClampNeg), .int (xs (i3 + (nI 2)).toNatClampNeg)]) (st := .long x4 :: []) (o := 53) (c := 10) (by decide) rfl (sh_53 wh3) in_X11_get se_X11_get mo_X11_get ml_RL_143 rfl (Nat.le_of_ble_eq_true rfl) dL_law_1037 rfl H (fun r1 h7 hq => ?_)
  obtain ⟨x8, rfl, wh7, H⟩ := hq
  show zQ (some (L, xs)) m_L_law (d + 1) 1040 [(0, .ref 0), (1, .ref 1), (2, .ref 53), (3, .int i3)] (.long x8 :: .long x4 :: []) h7 Q
  refine zq_lcmp dL_law_1040 ?_
  refine zq_if_eq (tgt := 1221) dL_law_1041 rfl ⟨fun c9 => ?_, fun c9 => ?_⟩
  · have H := H.1 c9
    refine zq_iinc (i := 3) (x := i3) (v := (nI 6)) (ls' := [(3, .int (i3 + (nI 6))), (0, .ref 0), (1, .ref 1), (2, .ref 53)]) 3 rfl rfl (Nat.le_of_ble_eq_true rfl) rfl dL_law_1221 ?_
    refine zq_goto (tgt := 18) dL_law_1224 rfl ?_
    exact zq_sub (ls' := [(0, .ref 0), (1, .ref 1), (2, .ref 53), (3, .int (i3 + (nI 6)))]) [1, 2, 3, 0] rfl H
  · have H := H.2 c9
    refine zq_iconst (v := (nI 0)) rfl dL_law_1044 ?_
    exact zq_iret dL_law_1045 rfl rfl rfl H
set_option maxHeartbeats 2000000 in
set_option maxRecDepth 20000 in
theorem r_L_law_1046 {d : Nat} {h : AH} {Q : Option Value → AH → Prop} (L : Nat) (xs : Nat → Int32) (i3 : Int32) (hw : zWF h)  (H : vp_in (i3 + (nI 1)) L ∧ (vp_in (i3 + (nI 2)) L ∧ (vp_in (i3 + (nI 3)) L ∧ (vp_in (i3 + (nI 4)) L ∧ (vp_in (i3 + (nI 5)) L ∧ (zK d m_X10_move [.ref 1, .int (xs (i3 + (nI 1)).toNatClampNeg), .int (xs (i3 + (nI 2)).toNatClampNeg), .int (xs (i3 + (nI 3)).toNatClampNeg), .int (xs (i3 + (nI 4)).toNatClampNeg), .int (xs (i3 + (nI 5)).toNatClampNeg)] h (kI fun x7 h6 => vp_in (i3 + (nI 1)) L ∧ (vp_in (i3 + (nI 2)) L ∧ (vp_in (i3 + (nI 3)) L ∧ (vp_in (i3 + (nI 4)) L ∧ (vp_in (i3 + (nI 5)) L ∧ (zK d m_X11_move [.ref 53, .int (xs (i3 + (nI 1)).toNatClampNeg), .int (xs (i3 + (nI 2)).toNatClampNeg), .int (xs (i3 + (nI 3)).toNatClampNeg), .int (xs (i3 + (nI 4)).toNatClampNeg), .int (xs (i3 + (nI 5)).toNatClampNeg)] h6 (kI fun x14 h13 => (x7 = x14 → zQ (some (L, xs)) m_L_law (d + 1) 18 [(0, .ref 0), (1, .ref 1), (2, .ref 53), (3, .int (i3 + (nI 6)))] [] h13 Q) ∧ (¬ x7 = x14 → Q (some (.int (nI 0))) h13)))))))))))))) : zQ (some (L, xs)) m_L_law (d + 1) 1046 [(0, .ref 0), (1, .ref 1), (2, .ref 53), (3, .int i3)] [] h Q := by
  refine zq_aload_n (k := 1) (i := 1) (x := 1) 1 rfl rfl dL_law_1046 ?_
  refine zq_aload_n (k := 0) (i := 0) (x := 0) 0 rfl rfl dL_law_1047 ?_
  refine zq_iload_n (k := 3) (i := 3) (x := i3) 3 rfl rfl dL_law_1048 ?_
  refine zq_iconst (v := (nI 1)) rfl dL_law_1049 ?_
  refine zq_iadd dL_law_1050 ?_
  obtain ⟨b1, H⟩ := H
  refine zq_sld b1 dL_law_1051 ?_
  refine zq_aload_n (k := 0) (i := 0) (x := 0) 0 rfl rfl dL_law_1052 ?_
  refine zq_iload_n (k := 3) (i := 3) (x := i3) 3 rfl rfl dL_law_1053 ?_
  refine zq_iconst (v := (nI 2)) rfl dL_law_1054 ?_
  refine zq_iadd dL_law_1055 ?_
  obtain ⟨b2, H⟩ := H
  refine zq_sld b2 dL_law_1056 ?_
  refine zq_aload_n (k := 0) (i := 0) (x := 0) 0 rfl rfl dL_law_1057 ?_
  refine zq_iload_n (k := 3) (i := 3) (x := i3) 3 rfl rfl dL_law_1058 ?_
  refine zq_iconst (v := (nI 3)) rfl dL_law_1059 ?_
  refine zq_iadd dL_law_1060 ?_
  obtain ⟨b3, H⟩ := H
  refine zq_sld b3 dL_law_1061 ?_
  refine zq_aload_n (k := 0) (i := 0) (x := 0) 0 rfl rfl dL_law_1062 ?_
  refine zq_iload_n (k := 3) (i := 3) (x := i3) 3 rfl rfl dL_law_1063 ?_
  refine zq_iconst (v := (nI 4)) rfl dL_law_1064 ?_
  refine zq_iadd dL_law_1065 ?_
  obtain ⟨b4, H⟩ := H
  refine zq_sld b4 dL_law_1066 ?_
  refine zq_aload_n (k := 0) (i := 0) (x := 0) 0 rfl rfl dL_law_1067 ?_
  refine zq_iload_n (k := 3) (i := 3) (x := i3) 3 rfl rfl dL_law_1068 ?_
  refine zq_iconst (v := (nI 5)) rfl dL_law_1069 ?_
  refine zq_iadd dL_law_1070 ?_
  obtain ⟨b5, H⟩ := H
  refine zq_sld b5 dL_law_1071 ?_
  refine zq_invV (as := [.int (xs (i3 + (nI 1)).toNatClampNeg), .int (xs (i3 + (nI 2)).toNatClampNeg), .int (xs (i3 + (nI 3)).toNatClampNeg), .int (xs (i3 + (nI 4)).toNatClampNeg), .int (xs (i3 + (nI 5)).toNatClampNeg)]) (st := []) (o := 1) (c := 9) (by decide) rfl (sh_1 hw) in_X10_move se_X10_move mo_X10_move ml_RL_144 rfl (Nat.le_of_ble_eq_true rfl) dL_law_1072 rfl H (fun r1 h6 hq => ?_)
  obtain ⟨x7, rfl, wh6, H⟩ := hq
  show zQ (some (L, xs)) m_L_law (d + 1) 1075 [(0, .ref 0), (1, .ref 1), (2, .ref 53), (3, .int i3)] (.int x7 :: []) h6 Q
  refine zq_aload_n (k := 2) (i := 2) (x := 53) 2 rfl rfl dL_law_1075 ?_
  refine zq_aload_n (k := 0) (i := 0) (x := 0) 0 rfl rfl dL_law_1076 ?_
  refine zq_iload_n (k := 3) (i := 3) (x := i3) 3 rfl rfl dL_law_1077 ?_
  refine zq_iconst (v := (nI 1)) rfl dL_law_1078 ?_
  refine zq_iadd dL_law_1079 ?_
  obtain ⟨b8, H⟩ := H
  refine zq_sld b8 dL_law_1080 ?_
  refine zq_aload_n (k := 0) (i := 0) (x := 0) 0 rfl rfl dL_law_1081 ?_
  refine zq_iload_n (k := 3) (i := 3) (x := i3) 3 rfl rfl dL_law_1082 ?_
  refine zq_iconst (v := (nI 2)) rfl dL_law_1083 ?_
  refine zq_iadd dL_law_1084 ?_
  obtain ⟨b9, H⟩ := H
  refine zq_sld b9 dL_law_1085 ?_
  refine zq_aload_n (k := 0) (i := 0) (x := 0) 0 rfl rfl dL_law_1086 ?_
  refine zq_iload_n (k := 3) (i := 3) (x := i3) 3 rfl rfl dL_law_1087 ?_
  refine zq_iconst (v := (nI 3)) rfl dL_law_1088 ?_
  refine zq_iadd dL_law_1089 ?_
  obtain ⟨b10, H⟩ := H
  refine zq_sld b10 dL_law_1090 ?_
  refine zq_aload_n (k := 0) (i := 0) (x := 0) 0 rfl rfl dL_law_1091 ?_
  refine zq_iload_n (k := 3) (i := 3) (x := i3) 3 rfl rfl dL_law_1092 ?_
  refine zq_iconst (v := (nI 4)) rfl dL_law_1093 ?_
  refine zq_iadd dL_law_1094 ?_
  obtain ⟨b11, H⟩ := H
  refine zq_sld b11 dL_law_1095 ?_
  refine zq_aload_n (k := 0) (i := 0) (x := 0) 0 rfl rfl dL_law_1096 ?_
  refine zq_iload_n (k := 3) (i := 3) (x := i3) 3 rfl rfl dL_law_1097 ?_
  refine zq_iconst (v := (nI 5)) rfl dL_law_1098 ?_
  refine zq_iadd dL_law_1099 ?_
  obtain ⟨b12, H⟩ := H
  refine zq_sld b12 dL_law_1100 ?_
  refine zq_invV (as := [.int (xs (i3 + (nI 1)).toNatClampNeg), .int (xs (i3 + (nI 2)).toNatClampNeg), .int (xs (i3 + (nI 3)).toNatClampNeg), .int (xs (i3 + (nI 4)).toNatClampNeg), .int (xs (i3 + (nI 5)).toNatClampNeg)]) (st := .int x7 :: []) (o := 53) (c := 10) (by decide) rfl (sh_53 wh6) in_X11_move se_X11_move mo_X11_move ml_RL_148 rfl (Nat.le_of_ble_eq_true rfl) dL_law_1101 rfl H (fun r1 h13 hq => ?_)
  obtain ⟨x14, rfl, wh13, H⟩ := hq
  show zQ (some (L, xs)) m_L_law (d + 1) 1104 [(0, .ref 0), (1, .ref 1), (2, .ref 53), (3, .int i3)] (.int x14 :: .int x7 :: []) h13 Q
  refine zq_icmp_eq (tgt := 1221) dL_law_1104 rfl ⟨fun c15 => ?_, fun c15 => ?_⟩
  · have H := H.1 c15
    refine zq_iinc (i := 3) (x := i3) (v := (nI 6)) (ls' := [(3, .int (i3 + (nI 6))), (0, .ref 0), (1, .ref 1), (2, .ref 53)]) 3 rfl rfl (Nat.le_of_ble_eq_true rfl) rfl dL_law_1221 ?_
    refine zq_goto (tgt := 18) dL_law_1224 rfl ?_
    exact zq_sub (ls' := [(0, .ref 0), (1, .ref 1), (2, .ref 53), (3, .int (i3 + (nI 6)))]) [1, 2, 3, 0] rfl H
  · have H := H.2 c15
    refine zq_iconst (v := (nI 0)) rfl dL_law_1107 ?_
    exact zq_iret dL_law_1108 rfl rfl rfl H
set_option maxHeartbeats 2000000 in
set_option maxRecDepth 20000 in
theorem r_L_law_1109 {d : Nat} {h : AH} {Q : Option Value → AH → Prop} (L : Nat) (xs : Nat → Int32) (i3 : Int32) (hw : zWF h)  (H : vp_in (i3 + (nI 1)) L ∧ (vp_in (i3 + (nI 2)) L ∧ (vp_in (i3 + (nI 3)) L ∧ (zK d m_X10_lay [.ref 1, .int (xs (i3 + (nI 1)).toNatClampNeg), .int (xs (i3 + (nI 2)).toNatClampNeg), .int (xs (i3 + (nI 3)).toNatClampNeg)] h (kI fun x5 h4 => vp_in (i3 + (nI 1)) L ∧ (vp_in (i3 + (nI 2)) L ∧ (vp_in (i3 + (nI 3)) L ∧ (zK d m_X11_lay [.ref 53, .int (xs (i3 + (nI 1)).toNatClampNeg), .int (xs (i3 + (nI 2)).toNatClampNeg), .int (xs (i3 + (nI 3)).toNatClampNeg)] h4 (kI fun x10 h9 => (x5 = x10 → zQ (some (L, xs)) m_L_law (d + 1) 18 [(0, .ref 0), (1, .ref 1), (2, .ref 53), (3, .int (i3 + (nI 6)))] [] h9 Q) ∧ (¬ x5 = x10 → Q (some (.int (nI 0))) h9)))))))))) : zQ (some (L, xs)) m_L_law (d + 1) 1109 [(0, .ref 0), (1, .ref 1), (2, .ref 53), (3, .int i3)] [] h Q := by
  refine zq_aload_n (k := 1) (i := 1) (x := 1) 1 rfl rfl dL_law_1109 ?_
  refine zq_aload_n (k := 0) (i := 0) (x := 0) 0 rfl rfl dL_law_1110 ?_
  refine zq_iload_n (k := 3) (i := 3) (x := i3) 3 rfl rfl dL_law_1111 ?_
  refine zq_iconst (v := (nI 1)) rfl dL_law_1112 ?_
  refine zq_iadd dL_law_1113 ?_
  obtain ⟨b1, H⟩ := H
  refine zq_sld b1 dL_law_1114 ?_
  refine zq_aload_n (k := 0) (i := 0) (x := 0) 0 rfl rfl dL_law_1115 ?_
  refine zq_iload_n (k := 3) (i := 3) (x := i3) 3 rfl rfl dL_law_1116 ?_
  refine zq_iconst (v := (nI 2)) rfl dL_law_1117 ?_
  refine zq_iadd dL_law_1118 ?_
  obtain ⟨b2, H⟩ := H
  refine zq_sld b2 dL_law_1119 ?_
  refine zq_aload_n (k := 0) (i := 0) (x := 0) 0 rfl rfl dL_law_1120 ?_
  refine zq_iload_n (k := 3) (i := 3) (x := i3) 3 rfl rfl dL_law_1121 ?_
  refine zq_iconst (v := (nI 3)) rfl dL_law_1122 ?_
  refine zq_iadd dL_law_1123 ?_
  obtain ⟨b3, H⟩ := H
  refine zq_sld b3 dL_law_1124 ?_
  refine zq_invV (as := [.int (xs (i3 + (nI 1)).toNatClampNeg), .int (xs (i3 + (nI 2)).toNatClampNeg), .int (xs (i3 + (nI 3)).toNatClampNeg)]) (st := []) (o := 1) (c := 9) (by decide) rfl (sh_1 hw) in_X10_lay se_X10_lay mo_X10_lay ml_RL_149 rfl (Nat.le_of_ble_eq_true rfl) dL_law_1125 rfl H (fun r1 h4 hq => ?_)
  obtain ⟨x5, rfl, wh4, H⟩ := hq
  show zQ (some (L, xs)) m_L_law (d + 1) 1128 [(0, .ref 0), (1, .ref 1), (2, .ref 53), (3, .int i3)] (.int x5 :: []) h4 Q
  refine zq_aload_n (k := 2) (i := 2) (x := 53) 2 rfl rfl dL_law_1128 ?_
  refine zq_aload_n (k := 0) (i := 0) (x := 0) 0 rfl rfl dL_law_1129 ?_
  refine zq_iload_n (k := 3) (i := 3) (x := i3) 3 rfl rfl dL_law_1130 ?_
  refine zq_iconst (v := (nI 1)) rfl dL_law_1131 ?_
  refine zq_iadd dL_law_1132 ?_
  obtain ⟨b6, H⟩ := H
  refine zq_sld b6 dL_law_1133 ?_
  refine zq_aload_n (k := 0) (i := 0) (x := 0) 0 rfl rfl dL_law_1134 ?_
  refine zq_iload_n (k := 3) (i := 3) (x := i3) 3 rfl rfl dL_law_1135 ?_
  refine zq_iconst (v := (nI 2)) rfl dL_law_1136 ?_
  refine zq_iadd dL_law_1137 ?_
  obtain ⟨b7, H⟩ := H
  refine zq_sld b7 dL_law_1138 ?_
  refine zq_aload_n (k := 0) (i := 0) (x := 0) 0 rfl rfl dL_law_1139 ?_
  refine zq_iload_n (k := 3) (i := 3) (x := i3) 3 rfl rfl dL_law_1140 ?_
  refine zq_iconst (v := (nI 3)) rfl dL_law_1141 ?_
  refine zq_iadd dL_law_1142 ?_
  obtain ⟨b8, H⟩ := H
  refine zq_sld b8 dL_law_1143 ?_
  refine zq_invV (as := [.int (xs (i3 + (nI 1)).toNatClampNeg), .int (xs (i3 + (nI 2)).toNatClampNeg), .int (xs (i3 + (nI 3)).toNatClampNeg)]) (st := .int x5 :: []) (o := 53) (c := 10) (by decide) rfl (sh_53 wh4) in_X11_lay se_X11_lay mo_X11_lay ml_RL_152 rfl (Nat.le_of_ble_eq_true rfl) dL_law_1144 rfl H (fun r1 h9 hq => ?_)
  obtain ⟨x10, rfl, wh9, H⟩ := hq
  show zQ (some (L, xs)) m_L_law (d + 1) 1147 [(0, .ref 0), (1, .ref 1), (2, .ref 53), (3, .int i3)] (.int x10 :: .int x5 :: []) h9 Q
  refine zq_icmp_eq (tgt := 1221) dL_law_1147 rfl ⟨fun c11 => ?_, fun c11 => ?_⟩
  · have H := H.1 c11
    refine zq_iinc (i := 3) (x := i3) (v := (nI 6)) (ls' := [(3, .int (i3 + (nI 6))), (0, .ref 0), (1, .ref 1), (2, .ref 53)]) 3 rfl rfl (Nat.le_of_ble_eq_true rfl) rfl dL_law_1221 ?_
    refine zq_goto (tgt := 18) dL_law_1224 rfl ?_
    exact zq_sub (ls' := [(0, .ref 0), (1, .ref 1), (2, .ref 53), (3, .int (i3 + (nI 6)))]) [1, 2, 3, 0] rfl H
  · have H := H.2 c11
    refine zq_iconst (v := (nI 0)) rfl dL_law_1150 ?_
    exact zq_iret dL_law_1151 rfl rfl rfl H
set_option maxHeartbeats 2000000 in
set_option maxRecDepth 20000 in
theorem r_L_law_1152 {d : Nat} {h : AH} {Q : Option Value → AH → Prop} (L : Nat) (xs : Nat → Int32) (i3 : Int32) (hw : zWF h)  (H : vp_in (i3 + (nI 1)) L ∧ (vp_in (i3 + (nI 2)) L ∧ (vp_in (i3 + (nI 3)) L ∧ (zK d m_X10_judge [.ref 1, .int (xs (i3 + (nI 1)).toNatClampNeg), .int (xs (i3 + (nI 2)).toNatClampNeg), .int (xs (i3 + (nI 3)).toNatClampNeg)] h (kI fun x5 h4 => vp_in (i3 + (nI 1)) L ∧ (vp_in (i3 + (nI 2)) L ∧ (vp_in (i3 + (nI 3)) L ∧ (zK d m_X11_judge [.ref 53, .int (xs (i3 + (nI 1)).toNatClampNeg), .int (xs (i3 + (nI 2)).toNatClampNeg), .int (xs (i3 + (nI 3)).toNatClampNeg)] h4 (kI fun x10 h9 => (x5 = x10 → zQ (some (L, xs)) m_L_law (d + 1) 18 [(0, .ref 0), (1, .ref 1), (2, .ref 53), (3, .int (i3 + (nI 6)))] [] h9 Q) ∧ (¬ x5 = x10 → Q (some (.int (nI 0))) h9)))))))))) : zQ (some (L, xs)) m_L_law (d + 1) 1152 [(0, .ref 0), (1, .ref 1), (2, .ref 53), (3, .int i3)] [] h Q := by
  refine zq_aload_n (k := 1) (i := 1) (x := 1) 1 rfl rfl dL_law_1152 ?_
  refine zq_aload_n (k := 0) (i := 0) (x := 0) 0 rfl rfl dL_law_1153 ?_
  refine zq_iload_n (k := 3) (i := 3) (x := i3) 3 rfl rfl dL_law_1154 ?_
  refine zq_iconst (v := (nI 1)) rfl dL_law_1155 ?_
  refine zq_iadd dL_law_1156 ?_
  obtain ⟨b1, H⟩ := H
  refine zq_sld b1 dL_law_1157 ?_
  refine zq_aload_n (k := 0) (i := 0) (x := 0) 0 rfl rfl dL_law_1158 ?_
  refine zq_iload_n (k := 3) (i := 3) (x := i3) 3 rfl rfl dL_law_1159 ?_
  refine zq_iconst (v := (nI 2)) rfl dL_law_1160 ?_
  refine zq_iadd dL_law_1161 ?_
  obtain ⟨b2, H⟩ := H
  refine zq_sld b2 dL_law_1162 ?_
  refine zq_aload_n (k := 0) (i := 0) (x := 0) 0 rfl rfl dL_law_1163 ?_
  refine zq_iload_n (k := 3) (i := 3) (x := i3) 3 rfl rfl dL_law_1164 ?_
  refine zq_iconst (v := (nI 3)) rfl dL_law_1165 ?_
  refine zq_iadd dL_law_1166 ?_
  obtain ⟨b3, H⟩ := H
  refine zq_sld b3 dL_law_1167 ?_
  refine zq_invV (as := [.int (xs (i3 + (nI 1)).toNatClampNeg), .int (xs (i3 + (nI 2)).toNatClampNeg), .int (xs (i3 + (nI 3)).toNatClampNeg)]) (st := []) (o := 1) (c := 9) (by decide) rfl (sh_1 hw) in_X10_judge se_X10_judge mo_X10_judge ml_RL_153 rfl (Nat.le_of_ble_eq_true rfl) dL_law_1168 rfl H (fun r1 h4 hq => ?_)
  obtain ⟨x5, rfl, wh4, H⟩ := hq
  show zQ (some (L, xs)) m_L_law (d + 1) 1171 [(0, .ref 0), (1, .ref 1), (2, .ref 53), (3, .int i3)] (.int x5 :: []) h4 Q
  refine zq_aload_n (k := 2) (i := 2) (x := 53) 2 rfl rfl dL_law_1171 ?_
  refine zq_aload_n (k := 0) (i := 0) (x := 0) 0 rfl rfl dL_law_1172 ?_
  refine zq_iload_n (k := 3) (i := 3) (x := i3) 3 rfl rfl dL_law_1173 ?_
  refine zq_iconst (v := (nI 1)) rfl dL_law_1174 ?_
  refine zq_iadd dL_law_1175 ?_
  obtain ⟨b6, H⟩ := H
  refine zq_sld b6 dL_law_1176 ?_
  refine zq_aload_n (k := 0) (i := 0) (x := 0) 0 rfl rfl dL_law_1177 ?_
  refine zq_iload_n (k := 3) (i := 3) (x := i3) 3 rfl rfl dL_law_1178 ?_
  refine zq_iconst (v := (nI 2)) rfl dL_law_1179 ?_
  refine zq_iadd dL_law_1180 ?_
  obtain ⟨b7, H⟩ := H
  refine zq_sld b7 dL_law_1181 ?_
  refine zq_aload_n (k := 0) (i := 0) (x := 0) 0 rfl rfl dL_law_1182 ?_
  refine zq_iload_n (k := 3) (i := 3) (x := i3) 3 rfl rfl dL_law_1183 ?_
  refine zq_iconst (v := (nI 3)) rfl dL_law_1184 ?_
  refine zq_iadd dL_law_1185 ?_
  obtain ⟨b8, H⟩ := H
  refine zq_sld b8 dL_law_1186 ?_
  refine zq_invV (as := [.int (xs (i3 + (nI 1)).toNatClampNeg), .int (xs (i3 + (nI 2)).toNatClampNeg), .int (xs (i3 + (nI 3)).toNatClampNeg)]) (st := .int x5 :: []) (o := 53) (c := 10) (by decide) rfl (sh_53 wh4) in_X11_judge se_X11_judge mo_X11_judge ml_RL_156 rfl (Nat.le_of_ble_eq_true rfl) dL_law_1187 rfl H (fun r1 h9 hq => ?_)
  obtain ⟨x10, rfl, wh9, H⟩ := hq
  show zQ (some (L, xs)) m_L_law (d + 1) 1190 [(0, .ref 0), (1, .ref 1), (2, .ref 53), (3, .int i3)] (.int x10 :: .int x5 :: []) h9 Q
  refine zq_icmp_eq (tgt := 1221) dL_law_1190 rfl ⟨fun c11 => ?_, fun c11 => ?_⟩
  · have H := H.1 c11
    refine zq_iinc (i := 3) (x := i3) (v := (nI 6)) (ls' := [(3, .int (i3 + (nI 6))), (0, .ref 0), (1, .ref 1), (2, .ref 53)]) 3 rfl rfl (Nat.le_of_ble_eq_true rfl) rfl dL_law_1221 ?_
    refine zq_goto (tgt := 18) dL_law_1224 rfl ?_
    exact zq_sub (ls' := [(0, .ref 0), (1, .ref 1), (2, .ref 53), (3, .int (i3 + (nI 6)))]) [1, 2, 3, 0] rfl H
  · have H := H.2 c11
    refine zq_iconst (v := (nI 0)) rfl dL_law_1193 ?_
    exact zq_iret dL_law_1194 rfl rfl rfl H
set_option maxHeartbeats 2000000 in
set_option maxRecDepth 20000 in
theorem r_L_law_1195 {d : Nat} {h : AH} {Q : Option Value → AH → Prop} (L : Nat) (xs : Nat → Int32) (i3 : Int32) (hw : zWF h)  (H : zK d m_X10_image [.ref 1] h (kI fun x2 h1 => zK d m_X11_image [.ref 53] h1 (kI fun x4 h3 => (x2 = x4 → zQ (some (L, xs)) m_L_law (d + 1) 18 [(0, .ref 0), (1, .ref 1), (2, .ref 53), (3, .int (i3 + (nI 6)))] [] h3 Q) ∧ (¬ x2 = x4 → Q (some (.int (nI 0))) h3)))) : zQ (some (L, xs)) m_L_law (d + 1) 1195 [(0, .ref 0), (1, .ref 1), (2, .ref 53), (3, .int i3)] [] h Q := by
  refine zq_aload_n (k := 1) (i := 1) (x := 1) 1 rfl rfl dL_law_1195 ?_
  refine zq_invV (as := []) (st := []) (o := 1) (c := 9) (by decide) rfl (sh_1 hw) in_X10_image se_X10_image mo_X10_image ml_RL_157 rfl (Nat.le_of_ble_eq_true rfl) dL_law_1196 rfl H (fun r1 h1 hq => ?_)
  obtain ⟨x2, rfl, wh1, H⟩ := hq
  show zQ (some (L, xs)) m_L_law (d + 1) 1199 [(0, .ref 0), (1, .ref 1), (2, .ref 53), (3, .int i3)] (.int x2 :: []) h1 Q
  refine zq_aload_n (k := 2) (i := 2) (x := 53) 2 rfl rfl dL_law_1199 ?_
  refine zq_invV (as := []) (st := .int x2 :: []) (o := 53) (c := 10) (by decide) rfl (sh_53 wh1) in_X11_image se_X11_image mo_X11_image ml_RL_160 rfl (Nat.le_of_ble_eq_true rfl) dL_law_1200 rfl H (fun r1 h3 hq => ?_)
  obtain ⟨x4, rfl, wh3, H⟩ := hq
  show zQ (some (L, xs)) m_L_law (d + 1) 1203 [(0, .ref 0), (1, .ref 1), (2, .ref 53), (3, .int i3)] (.int x4 :: .int x2 :: []) h3 Q
  refine zq_icmp_eq (tgt := 1221) dL_law_1203 rfl ⟨fun c5 => ?_, fun c5 => ?_⟩
  · have H := H.1 c5
    refine zq_iinc (i := 3) (x := i3) (v := (nI 6)) (ls' := [(3, .int (i3 + (nI 6))), (0, .ref 0), (1, .ref 1), (2, .ref 53)]) 3 rfl rfl (Nat.le_of_ble_eq_true rfl) rfl dL_law_1221 ?_
    refine zq_goto (tgt := 18) dL_law_1224 rfl ?_
    exact zq_sub (ls' := [(0, .ref 0), (1, .ref 1), (2, .ref 53), (3, .int (i3 + (nI 6)))]) [1, 2, 3, 0] rfl H
  · have H := H.2 c5
    refine zq_iconst (v := (nI 0)) rfl dL_law_1206 ?_
    exact zq_iret dL_law_1207 rfl rfl rfl H
set_option maxHeartbeats 2000000 in
set_option maxRecDepth 20000 in
theorem r_L_law_1208 {d : Nat} {h : AH} {Q : Option Value → AH → Prop} (L : Nat) (xs : Nat → Int32) (i3 : Int32) (hw : zWF h)  (H : zK d m_X10_undo [.ref 1] h (kI fun x2 h1 => zK d m_X11_undo [.ref 53] h1 (kI fun x4 h3 => (x2 = x4 → zQ (some (L, xs)) m_L_law (d + 1) 18 [(0, .ref 0), (1, .ref 1), (2, .ref 53), (3, .int (i3 + (nI 6)))] [] h3 Q) ∧ (¬ x2 = x4 → Q (some (.int (nI 0))) h3)))) : zQ (some (L, xs)) m_L_law (d + 1) 1208 [(0, .ref 0), (1, .ref 1), (2, .ref 53), (3, .int i3)] [] h Q := by
  refine zq_aload_n (k := 1) (i := 1) (x := 1) 1 rfl rfl dL_law_1208 ?_
  refine zq_invV (as := []) (st := []) (o := 1) (c := 9) (by decide) rfl (sh_1 hw) in_X10_undo se_X10_undo mo_X10_undo ml_RL_161 rfl (Nat.le_of_ble_eq_true rfl) dL_law_1209 rfl H (fun r1 h1 hq => ?_)
  obtain ⟨x2, rfl, wh1, H⟩ := hq
  show zQ (some (L, xs)) m_L_law (d + 1) 1212 [(0, .ref 0), (1, .ref 1), (2, .ref 53), (3, .int i3)] (.int x2 :: []) h1 Q
  refine zq_aload_n (k := 2) (i := 2) (x := 53) 2 rfl rfl dL_law_1212 ?_
  refine zq_invV (as := []) (st := .int x2 :: []) (o := 53) (c := 10) (by decide) rfl (sh_53 wh1) in_X11_undo se_X11_undo mo_X11_undo ml_RL_164 rfl (Nat.le_of_ble_eq_true rfl) dL_law_1213 rfl H (fun r1 h3 hq => ?_)
  obtain ⟨x4, rfl, wh3, H⟩ := hq
  show zQ (some (L, xs)) m_L_law (d + 1) 1216 [(0, .ref 0), (1, .ref 1), (2, .ref 53), (3, .int i3)] (.int x4 :: .int x2 :: []) h3 Q
  refine zq_icmp_eq (tgt := 1221) dL_law_1216 rfl ⟨fun c5 => ?_, fun c5 => ?_⟩
  · have H := H.1 c5
    refine zq_iinc (i := 3) (x := i3) (v := (nI 6)) (ls' := [(3, .int (i3 + (nI 6))), (0, .ref 0), (1, .ref 1), (2, .ref 53)]) 3 rfl rfl (Nat.le_of_ble_eq_true rfl) rfl dL_law_1221 ?_
    refine zq_goto (tgt := 18) dL_law_1224 rfl ?_
    exact zq_sub (ls' := [(0, .ref 0), (1, .ref 1), (2, .ref 53), (3, .int (i3 + (nI 6)))]) [1, 2, 3, 0] rfl H
  · have H := H.2 c5
    refine zq_iconst (v := (nI 0)) rfl dL_law_1219 ?_
    exact zq_iret dL_law_1220 rfl rfl rfl H
