/-! the law's loop -/
theorem lv {t L j : Nat} (hL : L ≤ 3072) (ht : 6 * t + 6 ≤ L) (hj : j < 6) : vp_in (nI (6 * t) + nI j) L := by
  rw [nI_add]
  exact vp_in_nI (by omega) (by omega)
def nxt (d t L : Nat) (xs : Nat → Int32) (Q : Option Value → AH → Prop) : Prop := ∀ h', zWF h' → LI (2160 * t + 2160) h' → zQ (some (L, xs)) m_L_law (d + 40) 18 [(0, .ref 0), (1, .ref 1), (2, .ref 53), (3, .int (nI (6 * t) + nI 6))] [] h' Q
section LAW
variable {d t L : Nat} {xs : Nat → Int32} {h : AH} {Q : Option Value → AH → Prop}
theorem lw_add_0 (hL : L ≤ 3072) (ht : 6 * t + 6 ≤ L) (hw : zWF h) (q : LI (2160 * t) h) (nx : nxt d t L xs Q) : zQ (some (L, xs)) m_L_law (d + 40) 188 [(0, .ref 0), (1, .ref 1), (2, .ref 53), (3, .int (nI (6 * t)))] [] h Q :=
  r_L_law_188 L xs _ hw ⟨lv hL ht (show 1 < 6 by decide), lv hL ht (show 2 < 6 by decide), lv hL ht (show 3 < 6 by decide), use_kI (p_add _ _ _ hw q.1) (fun a h1 hw1 K1 => ⟨lv hL ht (show 1 < 6 by decide), lv hL ht (show 2 < 6 by decide), lv hL ht (show 3 < 6 by decide), use_kI K1 (fun b h2 hw2 ⟨e, n, s⟩ => ⟨fun _ => nx h2 hw2 (LI_up (by omega) (LI_same (by omega) q n s)), fun z => absurd e z⟩)⟩)⟩
theorem lw_cut_1 (hL : L ≤ 3072) (ht : 6 * t + 6 ≤ L) (hw : zWF h) (q : LI (2160 * t) h) (nx : nxt d t L xs Q) : zQ (some (L, xs)) m_L_law (d + 40) 231 [(0, .ref 0), (1, .ref 1), (2, .ref 53), (3, .int (nI (6 * t)))] [] h Q :=
  r_L_law_231 L xs _ hw ⟨lv hL ht (show 1 < 6 by decide), lv hL ht (show 2 < 6 by decide), use_kI (p_cut _ _ hw q.1) (fun a h1 hw1 K1 => ⟨lv hL ht (show 1 < 6 by decide), lv hL ht (show 2 < 6 by decide), use_kI K1 (fun b h2 hw2 ⟨e, n, s⟩ => ⟨fun _ => nx h2 hw2 (LI_up (by omega) (LI_same (by omega) q n s)), fun z => absurd e z⟩)⟩)⟩
theorem lw_worth_2 (hL : L ≤ 3072) (ht : 6 * t + 6 ≤ L) (hw : zWF h) (q : LI (2160 * t) h) (nx : nxt d t L xs Q) : zQ (some (L, xs)) m_L_law (d + 40) 264 [(0, .ref 0), (1, .ref 1), (2, .ref 53), (3, .int (nI (6 * t)))] [] h Q :=
  r_L_law_264 L xs _ hw ⟨lv hL ht (show 1 < 6 by decide), lv hL ht (show 2 < 6 by decide), use_kL (p_worth _ _ hw q.1) (fun a h1 hw1 K1 => ⟨lv hL ht (show 1 < 6 by decide), lv hL ht (show 2 < 6 by decide), use_kL K1 (fun b h2 hw2 ⟨e, n, s⟩ => ⟨fun _ => nx h2 hw2 (LI_up (by omega) (LI_same (by omega) q n s)), fun z => absurd ((lg_cmp0 _ _).mpr e) z⟩)⟩)⟩
theorem lw_of_3 (hL : L ≤ 3072) (ht : 6 * t + 6 ≤ L) (hw : zWF h) (q : LI (2160 * t) h) (nx : nxt d t L xs Q) : zQ (some (L, xs)) m_L_law (d + 40) 298 [(0, .ref 0), (1, .ref 1), (2, .ref 53), (3, .int (nI (6 * t)))] [] h Q :=
  r_L_law_298 L xs _ hw ⟨lv hL ht (show 1 < 6 by decide), lv hL ht (show 2 < 6 by decide), use_kI (p_of _ _ hw q.1) (fun a h1 hw1 K1 => ⟨lv hL ht (show 1 < 6 by decide), lv hL ht (show 2 < 6 by decide), use_kI K1 (fun b h2 hw2 ⟨e, n, s⟩ => ⟨fun _ => nx h2 hw2 (LI_up (by omega) (LI_same (by omega) q n s)), fun z => absurd e z⟩)⟩)⟩
theorem lw_two_4 (hL : L ≤ 3072) (ht : 6 * t + 6 ≤ L) (hw : zWF h) (q : LI (2160 * t) h) (nx : nxt d t L xs Q) : zQ (some (L, xs)) m_L_law (d + 40) 331 [(0, .ref 0), (1, .ref 1), (2, .ref 53), (3, .int (nI (6 * t)))] [] h Q :=
  r_L_law_331 L xs _ hw ⟨lv hL ht (show 1 < 6 by decide), lv hL ht (show 2 < 6 by decide), lv hL ht (show 3 < 6 by decide), use_kI (p_two _ _ _ hw q.1) (fun a h1 hw1 K1 => ⟨lv hL ht (show 1 < 6 by decide), lv hL ht (show 2 < 6 by decide), lv hL ht (show 3 < 6 by decide), use_kI K1 (fun b h2 hw2 ⟨e, n, s⟩ => ⟨fun _ => nx h2 hw2 (LI_up (by omega) (LI_same (by omega) q n s)), fun z => absurd e z⟩)⟩)⟩
theorem lw_edge_5 (hL : L ≤ 3072) (ht : 6 * t + 6 ≤ L) (hw : zWF h) (q : LI (2160 * t) h) (nx : nxt d t L xs Q) : zQ (some (L, xs)) m_L_law (d + 40) 374 [(0, .ref 0), (1, .ref 1), (2, .ref 53), (3, .int (nI (6 * t)))] [] h Q :=
  r_L_law_374 L xs _ hw ⟨lv hL ht (show 1 < 6 by decide), lv hL ht (show 2 < 6 by decide), lv hL ht (show 3 < 6 by decide), use_kI (p_edge _ _ _ hw q.1 q.2.2.2.1) (fun a h1 hw1 K1 => ⟨lv hL ht (show 1 < 6 by decide), lv hL ht (show 2 < 6 by decide), lv hL ht (show 3 < 6 by decide), use_kI K1 (fun b h2 hw2 ⟨e, n, p, s⟩ => ⟨fun _ => nx h2 hw2 (LI_plf q n p s (by omega)), fun z => absurd e z⟩)⟩)⟩
theorem lw_swap_6 (hL : L ≤ 3072) (ht : 6 * t + 6 ≤ L) (hw : zWF h) (q : LI (2160 * t) h) (nx : nxt d t L xs Q) : zQ (some (L, xs)) m_L_law (d + 40) 417 [(0, .ref 0), (1, .ref 1), (2, .ref 53), (3, .int (nI (6 * t)))] [] h Q :=
  r_L_law_417 L xs _ hw ⟨lv hL ht (show 1 < 6 by decide), lv hL ht (show 2 < 6 by decide), lv hL ht (show 3 < 6 by decide), lv hL ht (show 4 < 6 by decide), use_kI (p_swap _ _ _ _ hw q.1) (fun a h1 hw1 K1 => ⟨lv hL ht (show 1 < 6 by decide), lv hL ht (show 2 < 6 by decide), lv hL ht (show 3 < 6 by decide), lv hL ht (show 4 < 6 by decide), use_kI K1 (fun b h2 hw2 ⟨e, n, s⟩ => ⟨fun _ => nx h2 hw2 (LI_up (by omega) (LI_same (by omega) q n s)), fun z => absurd e z⟩)⟩)⟩
theorem lw_near_7 (hL : L ≤ 3072) (ht : 6 * t + 6 ≤ L) (hw : zWF h) (q : LI (2160 * t) h) (nx : nxt d t L xs Q) : zQ (some (L, xs)) m_L_law (d + 40) 470 [(0, .ref 0), (1, .ref 1), (2, .ref 53), (3, .int (nI (6 * t)))] [] h Q :=
  r_L_law_470 L xs _ hw ⟨lv hL ht (show 1 < 6 by decide), use_kL (p_near _ hw q.1) (fun a h1 hw1 K1 => ⟨lv hL ht (show 1 < 6 by decide), use_kL K1 (fun b h2 hw2 ⟨e, n, s⟩ => ⟨fun _ => nx h2 hw2 (LI_up (by omega) (LI_same (by omega) q n s)), fun z => absurd ((lg_cmp0 _ _).mpr e) z⟩)⟩)⟩
theorem lw_told_8 (hL : L ≤ 3072) (ht : 6 * t + 6 ≤ L) (hw : zWF h) (q : LI (2160 * t) h) (nx : nxt d t L xs Q) : zQ (some (L, xs)) m_L_law (d + 40) 494 [(0, .ref 0), (1, .ref 1), (2, .ref 53), (3, .int (nI (6 * t)))] [] h Q :=
  r_L_law_494 L xs _ hw ⟨lv hL ht (show 1 < 6 by decide), use_kL (p_told _ hw q.1 (by omega) (PAP_len q.2.2.2.2.2.1)) (fun a h1 hw1 K1 => ⟨lv hL ht (show 1 < 6 by decide), use_kL K1 (fun b h2 hw2 ⟨e, n, s⟩ => ⟨fun _ => nx h2 hw2 (LI_up (by omega) (LI_same (by omega) q n s)), fun z => absurd ((lg_cmp0 _ _).mpr e) z⟩)⟩)⟩
theorem lw_truss_9 (hL : L ≤ 3072) (ht : 6 * t + 6 ≤ L) (hw : zWF h) (q : LI (2160 * t) h) (nx : nxt d t L xs Q) : zQ (some (L, xs)) m_L_law (d + 40) 518 [(0, .ref 0), (1, .ref 1), (2, .ref 53), (3, .int (nI (6 * t)))] [] h Q :=
  r_L_law_518 L xs _ hw ⟨lv hL ht (show 1 < 6 by decide), use_kI (p_truss _ hw q.1 q.2.2.2.1) (fun a h1 hw1 K1 => ⟨lv hL ht (show 1 < 6 by decide), use_kI K1 (fun b h2 hw2 ⟨e, n, p, s⟩ => ⟨fun _ => nx h2 hw2 (LI_plf q n p s (by omega)), fun z => absurd e z⟩)⟩)⟩
theorem lw_pieces_10 (hL : L ≤ 3072) (ht : 6 * t + 6 ≤ L) (hw : zWF h) (q : LI (2160 * t) h) (nx : nxt d t L xs Q) : zQ (some (L, xs)) m_L_law (d + 40) 541 [(0, .ref 0), (1, .ref 1), (2, .ref 53), (3, .int (nI (6 * t)))] [] h Q :=
  r_L_law_541 L xs _ hw ⟨lv hL ht (show 1 < 6 by decide), use_kI (p_pieces _ hw q.1 q.2.2.2.1) (fun a h1 hw1 K1 => ⟨lv hL ht (show 1 < 6 by decide), use_kI K1 (fun b h2 hw2 ⟨e, n, p, s⟩ => ⟨fun _ => nx h2 hw2 (LI_plf q n p s (by omega)), fun z => absurd e z⟩)⟩)⟩
theorem lw_hood_11 (hL : L ≤ 3072) (ht : 6 * t + 6 ≤ L) (hw : zWF h) (q : LI (2160 * t) h) (nx : nxt d t L xs Q) : zQ (some (L, xs)) m_L_law (d + 40) 564 [(0, .ref 0), (1, .ref 1), (2, .ref 53), (3, .int (nI (6 * t)))] [] h Q :=
  r_L_law_564 L xs _ hw ⟨lv hL ht (show 1 < 6 by decide), lv hL ht (show 2 < 6 by decide), lv hL ht (show 3 < 6 by decide), use_kI (p_hood _ _ _ hw q.1 q.2.2.2.1) (fun a h1 hw1 K1 => ⟨lv hL ht (show 1 < 6 by decide), lv hL ht (show 2 < 6 by decide), lv hL ht (show 3 < 6 by decide), use_kI K1 (fun b h2 hw2 ⟨e, n, p, s⟩ => ⟨fun _ => nx h2 hw2 (LI_plf q n p s (by omega)), fun z => absurd e z⟩)⟩)⟩
theorem lw_hoods_12 (hL : L ≤ 3072) (ht : 6 * t + 6 ≤ L) (hw : zWF h) (q : LI (2160 * t) h) (nx : nxt d t L xs Q) : zQ (some (L, xs)) m_L_law (d + 40) 607 [(0, .ref 0), (1, .ref 1), (2, .ref 53), (3, .int (nI (6 * t)))] [] h Q :=
  r_L_law_607 L xs _ hw ⟨lv hL ht (show 1 < 6 by decide), use_kI (p_hoods _ hw q.1 q.2.2.2.1) (fun a h1 hw1 K1 => ⟨lv hL ht (show 1 < 6 by decide), use_kI K1 (fun b h2 hw2 ⟨e, n, p, s⟩ => ⟨fun _ => nx h2 hw2 (LI_plf q n p s (by omega)), fun z => absurd e z⟩)⟩)⟩
theorem lw_core_13 (hL : L ≤ 3072) (ht : 6 * t + 6 ≤ L) (hw : zWF h) (q : LI (2160 * t) h) (nx : nxt d t L xs Q) : zQ (some (L, xs)) m_L_law (d + 40) 630 [(0, .ref 0), (1, .ref 1), (2, .ref 53), (3, .int (nI (6 * t)))] [] h Q :=
  r_L_law_630 L xs _ hw ⟨lv hL ht (show 1 < 6 by decide), use_kL (p_core _ hw q.1) (fun a h1 hw1 K1 => ⟨lv hL ht (show 1 < 6 by decide), use_kL K1 (fun b h2 hw2 ⟨e, n, s⟩ => ⟨fun _ => nx h2 hw2 (LI_up (by omega) (LI_same (by omega) q n s)), fun z => absurd ((lg_cmp0 _ _).mpr e) z⟩)⟩)⟩
theorem lw_peeled_14 (hL : L ≤ 3072) (ht : 6 * t + 6 ≤ L) (hw : zWF h) (q : LI (2160 * t) h) (nx : nxt d t L xs Q) : zQ (some (L, xs)) m_L_law (d + 40) 654 [(0, .ref 0), (1, .ref 1), (2, .ref 53), (3, .int (nI (6 * t)))] [] h Q :=
  r_L_law_654 L xs _ hw ⟨lv hL ht (show 1 < 6 by decide), lv hL ht (show 2 < 6 by decide), use_kI (p_peeled _ _ hw q.1 q.2.2.2.1) (fun a h1 hw1 K1 => ⟨lv hL ht (show 1 < 6 by decide), lv hL ht (show 2 < 6 by decide), use_kI K1 (fun b h2 hw2 ⟨e, n, p, s⟩ => ⟨fun _ => nx h2 hw2 (LI_plf q n p s (by omega)), fun z => absurd e z⟩)⟩)⟩
theorem lw_closed_15 (hL : L ≤ 3072) (ht : 6 * t + 6 ≤ L) (hw : zWF h) (q : LI (2160 * t) h) (nx : nxt d t L xs Q) : zQ (some (L, xs)) m_L_law (d + 40) 687 [(0, .ref 0), (1, .ref 1), (2, .ref 53), (3, .int (nI (6 * t)))] [] h Q :=
  r_L_law_687 L xs _ hw ⟨lv hL ht (show 1 < 6 by decide), lv hL ht (show 2 < 6 by decide), use_kL (p_closed _ _ hw q.1) (fun a h1 hw1 K1 => ⟨lv hL ht (show 1 < 6 by decide), lv hL ht (show 2 < 6 by decide), use_kL K1 (fun b h2 hw2 ⟨e, n, s⟩ => ⟨fun _ => nx h2 hw2 (LI_up (by omega) (LI_same (by omega) q n s)), fun z => absurd ((lg_cmp0 _ _).mpr e) z⟩)⟩)⟩
theorem lw_value_16 (hL : L ≤ 3072) (ht : 6 * t + 6 ≤ L) (hw : zWF h) (q : LI (2160 * t) h) (nx : nxt d t L xs Q) : zQ (some (L, xs)) m_L_law (d + 40) 721 [(0, .ref 0), (1, .ref 1), (2, .ref 53), (3, .int (nI (6 * t)))] [] h Q :=
  r_L_law_721 L xs _ hw (use_kL (p_value hw q.1) (fun a h1 hw1 K1 => use_kL K1 (fun b h2 hw2 ⟨e, n, s⟩ => ⟨fun _ => nx h2 hw2 (LI_up (by omega) (LI_same (by omega) q n s)), fun z => absurd ((lg_cmp0 _ _).mpr e) z⟩)))
theorem lw_broken_17 (hL : L ≤ 3072) (ht : 6 * t + 6 ≤ L) (hw : zWF h) (q : LI (2160 * t) h) (nx : nxt d t L xs Q) : zQ (some (L, xs)) m_L_law (d + 40) 735 [(0, .ref 0), (1, .ref 1), (2, .ref 53), (3, .int (nI (6 * t)))] [] h Q :=
  r_L_law_735 L xs _ hw ⟨lv hL ht (show 1 < 6 by decide), use_kI (p_broken _ hw q.1) (fun a h1 hw1 K1 => ⟨lv hL ht (show 1 < 6 by decide), use_kI K1 (fun b h2 hw2 ⟨e, n, s⟩ => ⟨fun _ => nx h2 hw2 (LI_up (by omega) (LI_same (by omega) q n (same_frm s (by decide) (by decide)))), fun z => absurd e z⟩)⟩)⟩
theorem lw_fewest_18 (hL : L ≤ 3072) (ht : 6 * t + 6 ≤ L) (hw : zWF h) (q : LI (2160 * t) h) (nx : nxt d t L xs Q) : zQ (some (L, xs)) m_L_law (d + 40) 758 [(0, .ref 0), (1, .ref 1), (2, .ref 53), (3, .int (nI (6 * t)))] [] h Q :=
  r_L_law_758 L xs _ hw (use_kI (p_fewest hw q.1) (fun a h1 hw1 K1 => use_kI K1 (fun b h2 hw2 ⟨e, n, s⟩ => ⟨fun _ => nx h2 hw2 (LI_up (by omega) (LI_same (by omega) q n (same_frm s (by decide) (by decide)))), fun z => absurd e z⟩)))
theorem lw_feed_19 (hL : L ≤ 3072) (ht : 6 * t + 6 ≤ L) (hw : zWF h) (q : LI (2160 * t) h) (nx : nxt d t L xs Q) : zQ (some (L, xs)) m_L_law (d + 40) 771 [(0, .ref 0), (1, .ref 1), (2, .ref 53), (3, .int (nI (6 * t)))] [] h Q :=
  r_L_law_771 L xs _ hw ⟨lv hL ht (show 1 < 6 by decide), use_kI (p_feed _ hw q.2.2.2.2.1) (fun a h1 hw1 K1 => ⟨lv hL ht (show 1 < 6 by decide), use_kI K1 (fun b h2 hw2 ⟨e, p, s⟩ => ⟨fun _ => nx h2 hw2 (LI_tpf q p s (by omega)), fun z => absurd e z⟩)⟩)⟩
theorem lw_clear_20 (hL : L ≤ 3072) (ht : 6 * t + 6 ≤ L) (hw : zWF h) (q : LI (2160 * t) h) (nx : nxt d t L xs Q) : zQ (some (L, xs)) m_L_law (d + 40) 794 [(0, .ref 0), (1, .ref 1), (2, .ref 53), (3, .int (nI (6 * t)))] [] h Q :=
  r_L_law_794 L xs _ hw (use_kI (p_clear hw q.2.2.2.2.1) (fun a h1 hw1 K1 => use_kI K1 (fun b h2 hw2 ⟨e, p, s⟩ => ⟨fun _ => nx h2 hw2 (LI_tpf q p s (by omega)), fun z => absurd e z⟩)))
theorem lw_batch_21 (hL : L ≤ 3072) (ht : 6 * t + 6 ≤ L) (hw : zWF h) (q : LI (2160 * t) h) (nx : nxt d t L xs Q) : zQ (some (L, xs)) m_L_law (d + 40) 807 [(0, .ref 0), (1, .ref 1), (2, .ref 53), (3, .int (nI (6 * t)))] [] h Q :=
  r_L_law_807 L xs _ hw (use_kI (p_batch hw q.1 (by omega) q.2.2.2.2.1) (fun a h1 hw1 K1 => use_kI K1 (fun b h2 hw2 ⟨e, n, p, s⟩ => ⟨fun _ => nx h2 hw2 (LI_bfr q n p s (by omega)), fun z => absurd e z⟩)))
theorem lw_pick_22 (hL : L ≤ 3072) (ht : 6 * t + 6 ≤ L) (hw : zWF h) (q : LI (2160 * t) h) (nx : nxt d t L xs Q) : zQ (some (L, xs)) m_L_law (d + 40) 820 [(0, .ref 0), (1, .ref 1), (2, .ref 53), (3, .int (nI (6 * t)))] [] h Q :=
  r_L_law_820 L xs _ hw (use_kI (p_pick hw q.1 q.2.2.2.2.1 q.2.1) (fun a h1 hw1 K1 => use_kI K1 (fun b h2 hw2 ⟨e, n, p, k, s⟩ => ⟨fun _ => nx h2 hw2 (LI_pif q n p k s (by omega)), fun z => absurd e z⟩)))
theorem lw_picked_23 (hL : L ≤ 3072) (ht : 6 * t + 6 ≤ L) (hw : zWF h) (q : LI (2160 * t) h) (nx : nxt d t L xs Q) : zQ (some (L, xs)) m_L_law (d + 40) 833 [(0, .ref 0), (1, .ref 1), (2, .ref 53), (3, .int (nI (6 * t)))] [] h Q :=
  r_L_law_833 L xs _ hw (use_kL (p_picked hw q.1 q.2.1) (fun a h1 hw1 K1 => use_kL K1 (fun b h2 hw2 ⟨e, n, s⟩ => ⟨fun _ => nx h2 hw2 (LI_up (by omega) (LI_same (by omega) q n s)), fun z => absurd ((lg_cmp0 _ _).mpr e) z⟩)))
theorem lw_spell_24 (hL : L ≤ 3072) (ht : 6 * t + 6 ≤ L) (hw : zWF h) (q : LI (2160 * t) h) (nx : nxt d t L xs Q) : zQ (some (L, xs)) m_L_law (d + 40) 847 [(0, .ref 0), (1, .ref 1), (2, .ref 53), (3, .int (nI (6 * t)))] [] h Q :=
  r_L_law_847 L xs _ hw (use_kI (p_spell hw q.1 q.2.2.2.2.2.1) (fun a h1 hw1 K1 => use_kI K1 (fun b h2 hw2 ⟨e, n, p, s⟩ => ⟨fun _ => nx h2 hw2 (LI_papf q n p s (by omega)), fun z => absurd e z⟩)))
theorem lw_paper_25 (hL : L ≤ 3072) (ht : 6 * t + 6 ≤ L) (hw : zWF h) (q : LI (2160 * t) h) (nx : nxt d t L xs Q) : zQ (some (L, xs)) m_L_law (d + 40) 860 [(0, .ref 0), (1, .ref 1), (2, .ref 53), (3, .int (nI (6 * t)))] [] h Q :=
  r_L_law_860 L xs _ hw ⟨lv hL ht (show 1 < 6 by decide), use_kI (p_paper _ hw q.2.2.2.2.2.1) (fun a h1 hw1 K1 => ⟨lv hL ht (show 1 < 6 by decide), use_kI K1 (fun b h2 hw2 ⟨e, s⟩ => ⟨fun _ => nx h2 hw2 (s ▸ LI_up (by omega) q), fun z => absurd e z⟩)⟩)⟩
theorem lw_back_26 (hL : L ≤ 3072) (ht : 6 * t + 6 ≤ L) (hw : zWF h) (q : LI (2160 * t) h) (nx : nxt d t L xs Q) : zQ (some (L, xs)) m_L_law (d + 40) 883 [(0, .ref 0), (1, .ref 1), (2, .ref 53), (3, .int (nI (6 * t)))] [] h Q :=
  r_L_law_883 L xs _ hw ⟨lv hL ht (show 1 < 6 by decide), use_kI (p_back _ hw q.1) (fun a h1 hw1 K1 => ⟨lv hL ht (show 1 < 6 by decide), use_kI K1 (fun b h2 hw2 ⟨e, n, s⟩ => ⟨fun _ => nx h2 hw2 (LI_up (by omega) (LI_same (by omega) q n s)), fun z => absurd e z⟩)⟩)⟩
theorem lw_list_27 (hL : L ≤ 3072) (ht : 6 * t + 6 ≤ L) (hw : zWF h) (q : LI (2160 * t) h) (nx : nxt d t L xs Q) : zQ (some (L, xs)) m_L_law (d + 40) 906 [(0, .ref 0), (1, .ref 1), (2, .ref 53), (3, .int (nI (6 * t)))] [] h Q :=
  r_L_law_906 L xs _ hw ⟨lv hL ht (show 1 < 6 by decide), lv hL ht (show 2 < 6 by decide), use_kI (p_list _ _ hw q.2.2.2.2.2.2) (fun a h1 hw1 K1 => ⟨lv hL ht (show 1 < 6 by decide), lv hL ht (show 2 < 6 by decide), use_kI K1 (fun b h2 hw2 ⟨e, p, s⟩ => ⟨fun _ => nx h2 hw2 (LI_ls q p s (by omega)), fun z => absurd e z⟩)⟩)⟩
theorem lw_set_28 (hL : L ≤ 3072) (ht : 6 * t + 6 ≤ L) (hw : zWF h) (q : LI (2160 * t) h) (nx : nxt d t L xs Q) : zQ (some (L, xs)) m_L_law (d + 40) 939 [(0, .ref 0), (1, .ref 1), (2, .ref 53), (3, .int (nI (6 * t)))] [] h Q :=
  r_L_law_939 L xs _ hw ⟨lv hL ht (show 1 < 6 by decide), lv hL ht (show 2 < 6 by decide), lv hL ht (show 3 < 6 by decide), lv hL ht (show 4 < 6 by decide), use_kI (p_set _ _ _ hw q.2.2.2.2.2.2) (fun a h1 hw1 K1 => ⟨lv hL ht (show 1 < 6 by decide), lv hL ht (show 2 < 6 by decide), lv hL ht (show 3 < 6 by decide), lv hL ht (show 4 < 6 by decide), use_kI K1 (fun b h2 hw2 ⟨e, p, s⟩ => ⟨fun _ => nx h2 hw2 (LI_ls q p s (by omega)), fun z => absurd e z⟩)⟩)⟩
theorem lw_get_29 (hL : L ≤ 3072) (ht : 6 * t + 6 ≤ L) (hw : zWF h) (q : LI (2160 * t) h) (nx : nxt d t L xs Q) : zQ (some (L, xs)) m_L_law (d + 40) 1012 [(0, .ref 0), (1, .ref 1), (2, .ref 53), (3, .int (nI (6 * t)))] [] h Q :=
  r_L_law_1012 L xs _ hw ⟨lv hL ht (show 1 < 6 by decide), lv hL ht (show 2 < 6 by decide), use_kL (p_get _ _ hw q.2.2.2.2.2.2) (fun a h1 hw1 K1 => ⟨lv hL ht (show 1 < 6 by decide), lv hL ht (show 2 < 6 by decide), use_kL K1 (fun b h2 hw2 ⟨e, p, s⟩ => ⟨fun _ => nx h2 hw2 (LI_ls q p s (by omega)), fun z => absurd ((lg_cmp0 _ _).mpr e) z⟩)⟩)⟩
theorem lw_move_30 (hL : L ≤ 3072) (ht : 6 * t + 6 ≤ L) (hw : zWF h) (q : LI (2160 * t) h) (nx : nxt d t L xs Q) : zQ (some (L, xs)) m_L_law (d + 40) 1046 [(0, .ref 0), (1, .ref 1), (2, .ref 53), (3, .int (nI (6 * t)))] [] h Q :=
  r_L_law_1046 L xs _ hw ⟨lv hL ht (show 1 < 6 by decide), lv hL ht (show 2 < 6 by decide), lv hL ht (show 3 < 6 by decide), lv hL ht (show 4 < 6 by decide), lv hL ht (show 5 < 6 by decide), use_kI (p_move _ _ _ _ _ hw q.2.2.2.2.2.2) (fun a h1 hw1 K1 => ⟨lv hL ht (show 1 < 6 by decide), lv hL ht (show 2 < 6 by decide), lv hL ht (show 3 < 6 by decide), lv hL ht (show 4 < 6 by decide), lv hL ht (show 5 < 6 by decide), use_kI K1 (fun b h2 hw2 ⟨e, p, s⟩ => ⟨fun _ => nx h2 hw2 (LI_ls q p s (by omega)), fun z => absurd e z⟩)⟩)⟩
theorem lw_lay_31 (hL : L ≤ 3072) (ht : 6 * t + 6 ≤ L) (hw : zWF h) (q : LI (2160 * t) h) (nx : nxt d t L xs Q) : zQ (some (L, xs)) m_L_law (d + 40) 1109 [(0, .ref 0), (1, .ref 1), (2, .ref 53), (3, .int (nI (6 * t)))] [] h Q :=
  r_L_law_1109 L xs _ hw ⟨lv hL ht (show 1 < 6 by decide), lv hL ht (show 2 < 6 by decide), lv hL ht (show 3 < 6 by decide), use_kI (p_lay _ _ _ hw q.1 q.2.2.2.2.2.2) (fun a h1 hw1 K1 => ⟨lv hL ht (show 1 < 6 by decide), lv hL ht (show 2 < 6 by decide), lv hL ht (show 3 < 6 by decide), use_kI K1 (fun b h2 hw2 ⟨e, n, p, s⟩ => ⟨fun _ => nx h2 hw2 (LI_ly q n p s (by omega)), fun z => absurd e z⟩)⟩)⟩
theorem lw_judge_32 (hL : L ≤ 3072) (ht : 6 * t + 6 ≤ L) (hw : zWF h) (q : LI (2160 * t) h) (nx : nxt d t L xs Q) : zQ (some (L, xs)) m_L_law (d + 40) 1152 [(0, .ref 0), (1, .ref 1), (2, .ref 53), (3, .int (nI (6 * t)))] [] h Q :=
  r_L_law_1152 L xs _ hw ⟨lv hL ht (show 1 < 6 by decide), lv hL ht (show 2 < 6 by decide), lv hL ht (show 3 < 6 by decide), use_kI (p_judge _ _ _ hw q.1 q.2.2.2.2.2.2) (fun a h1 hw1 K1 => ⟨lv hL ht (show 1 < 6 by decide), lv hL ht (show 2 < 6 by decide), lv hL ht (show 3 < 6 by decide), use_kI K1 (fun b h2 hw2 ⟨e, n, _, s⟩ => ⟨fun _ => nx h2 hw2 (LI_up (by omega) (LI_same (by omega) q n (same_frm s (by decide) (by decide)))), fun z => absurd e z⟩)⟩)⟩
theorem lw_image_33 (hL : L ≤ 3072) (ht : 6 * t + 6 ≤ L) (hw : zWF h) (q : LI (2160 * t) h) (nx : nxt d t L xs Q) : zQ (some (L, xs)) m_L_law (d + 40) 1195 [(0, .ref 0), (1, .ref 1), (2, .ref 53), (3, .int (nI (6 * t)))] [] h Q :=
  r_L_law_1195 L xs _ hw (use_kI (p_image hw q.1 q.2.1) (fun a h1 hw1 K1 => use_kI K1 (fun b h2 hw2 ⟨e, n, p, s⟩ => ⟨fun _ => nx h2 hw2 (LI_imf q n p s (by omega)), fun z => absurd e z⟩)))
theorem lw_undo_34 (hL : L ≤ 3072) (ht : 6 * t + 6 ≤ L) (hw : zWF h) (q : LI (2160 * t) h) (nx : nxt d t L xs Q) : zQ (some (L, xs)) m_L_law (d + 40) 1208 [(0, .ref 0), (1, .ref 1), (2, .ref 53), (3, .int (nI (6 * t)))] [] h Q :=
  r_L_law_1208 L xs _ hw (use_kI (p_undo hw q.1 q.2.2.1 q.2.1) (fun a h1 hw1 K1 => use_kI K1 (fun b h2 hw2 ⟨e, n, p, s⟩ => ⟨fun _ => nx h2 hw2 (LI_unf q n p s (by omega)), fun z => absurd e z⟩)))
theorem lw_loop (hL : L ≤ 3072) (KQ : ∀ h, LI (2160 * 513) h → Q (some (.int (nI 1))) h) : ∀ n t, t + n = 512 → L < 6 * t + 6 * (n + 1) → ∀ h, zWF h → LI (2160 * t) h → zQ (some (L, xs)) m_L_law (d + 40) 18 [(0, .ref 0), (1, .ref 1), (2, .ref 53), (3, .int (nI (6 * t)))] [] h Q := by
  intro n
  have hc : ∀ t, (nI L - nI 6 < nI (6 * t) ↔ L < 6 * t + 6) ∨ 512 < t := fun t => by
    by_cases z : 512 < t
    · exact Or.inr z
    · left
      rw [Int32.lt_iff_toInt_lt, pk_sub_toInt (by omega) (by decide), nI_toInt (by omega)]
      omega
  induction n with
  | zero =>
    intro t hn hlt h hw q
    have hc : nI L - nI 6 < nI (6 * t) ↔ L < 6 * t + 6 := by
      rcases hc t with z | z
      · exact z
      · omega
    exact r_L_law_18 L xs _ hw ⟨fun _ => KQ h (LI_up (by omega) q), fun z => absurd (hc.mpr (by omega)) z⟩
  | succ n ih =>
    intro t hn hlt h hw q
    have hc : nI L - nI 6 < nI (6 * t) ↔ L < 6 * t + 6 := by
      rcases hc t with z | z
      · exact z
      · omega
    refine r_L_law_18 L xs _ hw ⟨fun _ => KQ h (LI_up (by omega) q), fun z => ?_⟩
    have ht : 6 * t + 6 ≤ L := by
      have : ¬ L < 6 * t + 6 := fun y => z (hc.mpr y)
      omega
    have nx : nxt d t L xs Q := fun h' hw' q' => by
      rw [nI_add]
      have := ih (t + 1) (by omega) (by omega) h' hw' (by rw [show 2160 * (t + 1) = 2160 * t + 2160 by omega]; exact q')
      rw [show 6 * (t + 1) = 6 * t + 6 by omega] at this
      exact this
    refine ⟨vp_in_nI (by omega) (by omega), fun k3 _ => ⟨fun _ => nx h hw (LI_up (by omega) q), ?_⟩⟩
    exact ⟨fun _ => lw_add_0 hL ht hw q nx, fun _ => lw_cut_1 hL ht hw q nx, fun _ => lw_worth_2 hL ht hw q nx, fun _ => lw_of_3 hL ht hw q nx, fun _ => lw_two_4 hL ht hw q nx, fun _ => lw_edge_5 hL ht hw q nx, fun _ => lw_swap_6 hL ht hw q nx, fun _ => lw_near_7 hL ht hw q nx, fun _ => lw_told_8 hL ht hw q nx, fun _ => lw_truss_9 hL ht hw q nx, fun _ => lw_pieces_10 hL ht hw q nx, fun _ => lw_hood_11 hL ht hw q nx, fun _ => lw_hoods_12 hL ht hw q nx, fun _ => lw_core_13 hL ht hw q nx, fun _ => lw_peeled_14 hL ht hw q nx, fun _ => lw_closed_15 hL ht hw q nx, fun _ => lw_value_16 hL ht hw q nx, fun _ => lw_broken_17 hL ht hw q nx, fun _ => lw_fewest_18 hL ht hw q nx, fun _ => lw_feed_19 hL ht hw q nx, fun _ => lw_clear_20 hL ht hw q nx, fun _ => lw_batch_21 hL ht hw q nx, fun _ => lw_pick_22 hL ht hw q nx, fun _ => lw_picked_23 hL ht hw q nx, fun _ => lw_spell_24 hL ht hw q nx, fun _ => lw_paper_25 hL ht hw q nx, fun _ => lw_back_26 hL ht hw q nx, fun _ => lw_list_27 hL ht hw q nx, fun _ => lw_set_28 hL ht hw q nx, fun _ => lw_get_29 hL ht hw q nx, fun _ => lw_move_30 hL ht hw q nx, fun _ => lw_lay_31 hL ht hw q nx, fun _ => lw_judge_32 hL ht hw q nx, fun _ => lw_image_33 hL ht hw q nx, fun _ => lw_undo_34 hL ht hw q nx⟩
theorem law_ok (hL : L ≤ 3072) : zQ (some (L, xs)) m_L_law 1400 0 [(0, .ref 0)] [] hc_0 (fun r h' => r = some (.int (nI 1)) ∧ h'.n ≤ 600001 ∧ h'.u ≤ 7302250) :=
  law_init (d := 1396) (lw_loop (d := 1360) hL (fun h q => ⟨rfl, PAP_end q.2.2.2.2.2.1⟩) 512 0 rfl (by omega) hc_190 in_wf LI_0)
end LAW
