theorem dSt_ch {u : Nat} (hu : u < 40) : ∀ n w c (z : NT), n + w = 40 → nu c z → z.1.ch ≤ (dSt u n w z).1.ch
  | 0, w, c, z, _, q => Nat.le_refl _
  | n + 1, w, c, z, hn, q => by
    show z.1.ch ≤ (dSt u n (w + 1) (if gb (z.1.f u) w = true then dDrop u w z else z)).1.ch
    cases hg : gb (z.1.f u) w with
    | true =>
      rw [if_pos rfl]
      have h1 : (dDrop u w z).1.ch = z.1.ch + 1 := (goS_f z.1 u w q.1.2.2.2.1).2.2.2.2.1
      have h2 := dSt_ch hu n (w + 1) (c + 1) (dDrop u w z) (by omega) (nu_drop q hu (by omega) hg)
      omega
    | false =>
      rw [if_neg (by decide)]
      exact dSt_ch hu n (w + 1) c z (by omega) q
theorem dPart_ch {c : Nat} {t : PT} {z : NT} (ht : pok t) (q : nu c z) : z.1.ch ≤ (dPart t z).1.ch := by
  obtain ⟨t1, t2, t3, t4, t5⟩ := ht
  have h1 : (dDrop t.2.1 t.2.2.1 z).1.ch = z.1.ch + 1 := (goS_f z.1 _ _ q.1.2.2.2.1).2.2.2.2.1
  have h2 : (dBring t.2.1 t.2.2.1 t.2.2.2 z).1.ch = z.1.ch + 1 := (comeS_f z.1 _ _ _).2.2.2.2.1
  unfold dPart
  split
  · exact dSt_ch t2 40 0 c z rfl q
  · split
    · split
      · exact Nat.le_refl _
      · omega
    · split
      · exact Nat.le_refl _
      · omega
theorem dAll_ch : ∀ (l : List PT) c (z : NT), (∀ t ∈ l, pok t) → nu c z → z.1.ch ≤ (dAll l z).1.ch
  | [], c, z, _, q => Nat.le_refl _
  | t :: ts, c, z, hp, q => by
    have ht := hp t List.mem_cons_self
    have h1 := dPart_ch ht q
    have h2 := dAll_ch ts (c + 40) (dPart t z) (fun t' h' => hp t' (List.mem_cons_of_mem _ h')) (nu_part ht q)
    show z.1.ch ≤ (dAll ts (dPart t z)).1.ch
    omega
theorem lN_subI {a b : Nat} (h : b ≤ a) : (lN a - lN b).toInt32 = nI (a - b) := by
  have e : lN a - lN b = lN (a - b) := by
    apply Int64.toBitVec_inj.mp
    rw [Int64.toBitVec_sub, lN_bv, lN_bv, lN_bv]
    apply BitVec.eq_of_toNat_eq
    rw [BitVec.toNat_sub, BitVec.toNat_ofNat, BitVec.toNat_ofNat, BitVec.toNat_ofNat]
    omega
  rw [e]
  apply Int32.toBitVec_inj.mp
  rw [Int64.toBitVec_toInt32, lN_bv]
  apply BitVec.eq_of_toNat_eq
  rw [BitVec.signExtend_eq_setWidth_of_le _ (by decide), BitVec.toNat_setWidth, BitVec.toNat_ofNat]
  show (a - b) % 2 ^ 64 % 2 ^ 32 = (BitVec.ofNat 32 (a - b)).toNat
  rw [BitVec.toNat_ofNat]
  exact Nat.mod_mod_of_dvd _ (by decide)
def bfr (h h' : AH) : Prop := frm (23 :: 53 :: scI) scL h h' ∧ h'.L 2 10 = h.L 2 10 ∧ (∀ j, j ≠ 6 → h'.L 53 j = h.L 53 j) ∧ h'.I 53 10 = h.I 53 10 ∧ h'.I 53 25 = h.I 53 25
theorem bfr_tr {h h1 h2 : AH} (a : bfr h h1) (b : bfr h1 h2) : bfr h h2 := ⟨frm_tr a.1 b.1, b.2.1.trans a.2.1, fun j q => (b.2.2.1 j q).trans (a.2.2.1 j q), b.2.2.2.1.trans a.2.2.2.1, b.2.2.2.2.trans a.2.2.2.2⟩
theorem bfr_f {SI : List Nat} {h h1 : AH} (a : frm SI [] h h1) (hs : ∀ k ∈ SI, k ∈ 23 :: scI) : bfr h h1 := by
  have h53 : 53 ∉ SI := fun q => absurd (hs _ q) (by decide)
  refine ⟨frm_up a (fun k hk => ?_) (fun k hk => absurd hk List.not_mem_nil), by rw [frm_L a List.not_mem_nil], fun j _ => by rw [frm_L a List.not_mem_nil], by rw [frm_I a h53], by rw [frm_I a h53]⟩
  rcases List.mem_cons.mp (hs k hk) with q | q
  · rw [q]; exact List.mem_cons_self
  · exact List.mem_cons_of_mem _ (List.mem_cons_of_mem _ q)
theorem bfr_c {h h1 : AH} (a : cfr h h1) : bfr h h1 := ⟨frm_up a.1 (by decide) (by decide), a.2, fun j _ => by rw [frm_L a.1 (by decide)], by rw [frm_I a.1 (by decide)], by rw [frm_I a.1 (by decide)]⟩
theorem bfr_o {h h1 : AH} (a : ofr h h1) : bfr h h1 := ⟨frm_up a.1 (by decide) (by decide), by rw [frm_L a.1 (by decide)], a.2, by rw [frm_I a.1 (by decide)], by rw [frm_I a.1 (by decide)]⟩
theorem bfr_r {h h1 : AH} (a : rfr 0 h h1) : bfr h h1 := ⟨frm_up a.1 (by decide) (by decide), by rw [frm_L a.1 (by decide)], fun j _ => by rw [frm_L a.1 (by decide)], a.2.1 10 (by decide) (by decide) (by decide), a.2.1 25 (by decide) (by decide) (by decide)⟩
theorem bfr_s {h h1 : AH} {j : Nat} {x : Int32} (e : h1 = h.sI 53 j x) (hj : j = 19 ∨ j = 20 ∨ j = 21 ∨ j = 22) : bfr h h1 := by
  refine ⟨frm_wI e (by decide), by rw [e]; rfl, fun i _ => by rw [e]; rfl, ?_, ?_⟩
  · rw [e, AH.sI_I, va_up_ne _ _ (by omega)]
  · rw [e, AH.sI_I, va_up_ne _ _ (by omega)]
theorem tape_T {h : AH} (q : TAPE h) : ∃ (len : Nat) (T : Nat → Nat), h.I 23 1 = nI len ∧ h.I 53 19 = nI len ∧ len ≤ 160 ∧ (∀ i, i < len → T i ≤ 127) ∧ (∀ i, i < len → h.I 24 i = nI (T i)) ∧ (∀ i, i < len → h.I 66 i = nI (T i)) := by
  obtain ⟨len, t1, t2, t3, t4⟩ := q
  have e : ∀ i, i < len → ∃ k, (h.I 24 i).toNatClampNeg = k ∧ k ≤ 127 ∧ h.I 24 i = nI k ∧ h.I 66 i = nI k := fun i hi => by
    obtain ⟨k, k1, k2, k3, k4⟩ := t4 i hi
    exact ⟨k, by rw [k3]; exact nI_clampE (by omega), k2, k3, k4⟩
  refine ⟨len, fun i => (h.I 24 i).toNatClampNeg, t1, t2, t3, fun i hi => ?_, fun i hi => ?_, fun i hi => ?_⟩
  · obtain ⟨k, k1, k2, k3, k4⟩ := e i hi
    show (h.I 24 i).toNatClampNeg ≤ 127
    rw [k1]; exact k2
  · obtain ⟨k, k1, k2, k3, k4⟩ := e i hi
    show h.I 24 i = nI (h.I 24 i).toNatClampNeg
    rw [k1]; exact k3
  · obtain ⟨k, k1, k2, k3, k4⟩ := e i hi
    show h.I 66 i = nI (h.I 24 i).toNatClampNeg
    rw [k1]; exact k4
theorem TAPE_0 {h : AH} (e1 : h.I 23 1 = nI 0) (e2 : h.I 53 19 = nI 0) : TAPE h := ⟨0, e1, e2, by decide, fun i hi => absurd hi (Nat.not_lt_zero i)⟩
section PBATCH
variable {d : Nat} {h : AH} {c : Nat}
theorem cZ_frm {h' : AH} {z : NT} {SI SL : List Nat} (hf : frm SI SL h h') (q : cZ h z) (h1 : ∀ k ∈ [2, 4, 5, 6], k ∉ SI) (h2 : ∀ k ∈ [2, 3], k ∉ SL) : cZ h' z := cN_frm hf q h1 h2
theorem mZ_frm {h' : AH} {z : NT} {SI SL : List Nat} (hf : frm SI SL h h') (q : mZ h z) (h1 : ∀ k ∈ [54, 55], k ∉ SI) (h2 : ∀ k ∈ [53, 58], k ∉ SL) : mZ h' z := mN_frm hf q h1 h2
theorem p_batch (hw : zWF h) (hN : NET c h) (hc : c ≤ 4000000) (hT : TAPE h) : zK (d + 10) m_X10_batch [.ref 1] h (kI fun a h1 => zK (d + 10) m_X11_batch [.ref 53] h1 (kI fun b h2 => a = b ∧ NET (c + 2160) h2 ∧ TAPE h2 ∧ bfr h h2)) := by
  obtain ⟨s, n, en, qc, qm, qn⟩ := hN
  obtain ⟨len, T, t1, t2, t3, hT, l1, l2⟩ := tape_T hT
  have qc : cZ h (s, n, en) := qc
  have qm : mZ h (s, n, en) := qm
  have qn : nu c (s, n, en) := qn
  generalize (s, n, en) = z at qc qm qn
  have hlen := btc_len (len := len) (T := T) 54 0
  have hpok := btc_pok (T := T) t3 54 0
  refine r_X10_batch_0 hw (use_kV (c_readAll (d := d + 3) hT hw t1 t3 l1) (fun h1 hw1 ⟨a1, a2, a3, a4⟩ h2 q2 => ?_))
  have hw2 := wf_I q2 hw1
  have f2 : bfr h h2 := bfr_tr (bfr_f a4 (by decide)) (bfr_f (frm_wI (SI := [23]) (SL := []) q2 (by decide)) (by decide))
  have qc2 : cZ h2 z := cZ_frm (frm_wI (SI := [23]) (SL := []) q2 (by decide)) (cZ_frm a4 qc (by decide) (by decide)) (by decide) (by decide)
  have qm2 : mZ h2 z := mZ_frm (frm_wI (SI := [23]) (SL := []) q2 (by decide)) (mZ_frm a4 qm (by decide) (by decide)) (by decide) (by decide)
  have e3 : h2.I 23 3 = fi (btc len T 54 0).1 := by rw [q2]; exact a1
  have z2 : h2.I 23 1 = nI 0 := sI_e q2
  have m2 : h2.I 53 19 = nI len := by rw [sI_r q2 (by decide), frm_I a4 (by decide)]; exact t2
  have r2 : ∀ i, i < len → h2.I 66 i = nI (T i) := fun i hi => by rw [sI_r q2 (by decide), frm_I a4 (by decide)]; exact l2 i hi
  refine r_X9_hasFault_0 hw2 ?_
  rw [e3]
  -- the reference, from any heap that the class leaves
  have M : ∀ (g : AH) (a : Int32) (z' : NT), zWF g → bfr h g → cZ g z' → mZ g z → g.I 23 1 = nI 0 → g.I 53 19 = nI len → (∀ i, i < len → g.I 66 i = nI (T i)) → (∀ f, (btc len T 54 0).1 = some f → a = -100 - nI f ∧ z' = z) → ((btc len T 54 0).1 = none → z' = dAll (btc len T 54 0).2 z ∧ a = nI (z'.1.ch - z.1.ch)) → zK (d + 10) m_X11_batch [.ref 53] g (kI fun b h2 => a = b ∧ NET (c + 2160) h2 ∧ TAPE h2 ∧ bfr h h2) := by
    intro g a z' hwg fg qcg qmg g1 g2 g3 K1 K2
    refine r_X11_batch_0 hwg (r_X11_begins_0 hwg (fun k1 p1 k2 p2 => mk_kV (wf_I p2 (wf_I p1 hwg)) ?_))
    have hwk := wf_I p2 (wf_I p1 hwg)
    have fk : bfr g k2 := bfr_tr (bfr_s p1 (by decide)) (bfr_s p2 (by decide))
    have ck : MT k2 len T 0 none := ⟨by rw [p2, p1]; exact g2, t3, fun i hi => by rw [p2, p1]; exact g3 i hi, by rw [p2, p1]; rfl, Nat.zero_le _, by rw [p2]; rfl, (fun f q => by cases q)⟩
    have qck : cZ k2 z' := cZ_frm (frm_wI (SI := [53]) (SL := []) p2 (by decide)) (cZ_frm (frm_wI (SI := [53]) (SL := []) p1 (by decide)) qcg (by decide) (by decide)) (by decide) (by decide)
    have qmk : mZ k2 z := mZ_frm (frm_wI (SI := [53]) (SL := []) p2 (by decide)) (mZ_frm (frm_wI (SI := [53]) (SL := []) p1 (by decide)) qmg (by decide) (by decide)) (by decide) (by decide)
    have zk : k2.I 23 1 = nI 0 := by rw [sI_r p2 (by decide), sI_r p1 (by decide)]; exact g1
    refine m_parse (d := d + 4) 54 0 rfl k2 k2 0 hT hwk ck (by decide) rfr_rf (fun k3 Mc hw3 v1 v2 v3 v4 => ?_)
    have qc3 : cZ k3 z' := cZ_frm v4.1 qck (by decide) (by decide)
    have qm3 : mZ k3 z := mZ_frm v4.1 qmk (by decide) (by decide)
    have z3 : k3.I 23 1 = nI 0 := by rw [frm_I v4.1 (by decide)]; exact zk
    refine r_X11_batch_8 _ _ hw3 ⟨fun _ k4 p4 => ?_, fun y => absurd nI_0 y⟩
    have hw4 := wf_I p4 hw3
    have f4 : bfr h k4 := bfr_tr fg (bfr_tr fk (bfr_tr (bfr_r v4) (bfr_s p4 (by decide))))
    have qc4 : cZ k4 z' := cZ_frm (frm_wI (SI := [53]) (SL := []) p4 (by decide)) qc3 (by decide) (by decide)
    have qm4 : mZ k4 z := mZ_frm (frm_wI (SI := [53]) (SL := []) p4 (by decide)) qm3 (by decide) (by decide)
    have T4 : TAPE k4 := TAPE_0 (by rw [sI_r p4 (by decide)]; exact z3) (sI_e p4)
    have e21 : k4.I 53 21 = fi (btc len T 54 0).1 := by rw [p4]; exact v1
    rw [e21]
    cases ef : (btc len T 54 0).1 with
    | some f =>
      obtain ⟨ea, ez⟩ := K1 f ef
      subst ez
      have hf := v2 f ef
      refine ⟨fun y => absurd y (nI_lt0 (by omega)), fun _ => mk_kI hw4 ⟨ea, ⟨z'.1, z'.2.1, z'.2.2, qc4, qm4, nu_le (by omega) qn⟩, T4, f4⟩⟩
    | none =>
      obtain ⟨ez, ea⟩ := K2 ef
      obtain ⟨eM, sl⟩ := v3 ef
      refine ⟨fun _ => ⟨vp_in_nI (by decide) (by decide), ?_⟩, fun y => absurd (by decide) y⟩
      rw [cl_n (show 4 < 187 by decide) (by decide), show k4.I 54 4 = nI z.1.ch from qm4.1.2.2.2.2.2.2.2.2, eM, Nat.zero_add]
      refine zq_mono (m_doAll (d := d + 3) (M := (btc len T 54 0).2.length) (btc len T 54 0).2 0 c z k4 (Nat.zero_add _) hlen hpok (mslots_eq (sI_r p4 (by decide)) _ 0 sl) hw4 qm4 qn) (fun r k5 ⟨x, x1, x2, x3, x4, x5⟩ => ⟨x, x1, x2, ?_, ⟨z'.1, z'.2.1, z'.2.2, cN_ofr x5 qc4, ?_, ?_⟩, ?_, bfr_tr f4 (bfr_o x5)⟩)
      · rw [x3, ea, ez, show k5.I 54 4 = nI (dAll (btc len T 54 0).2 z).1.ch from x4.1.2.2.2.2.2.2.2.2, nI_subE (dAll_ch _ c z hpok qn)]
      · rw [ez]; exact x4
      · rw [ez]; exact nu_le (by omega) (nu_all _ c z hpok qn)
      · refine TAPE_0 ?_ ?_
        · rw [frm_I x5.1 (by decide), sI_r p4 (by decide)]; exact z3
        · rw [frm_I x5.1 (by decide)]; exact sI_e p4
  cases ef : (btc len T 54 0).1 with
  | some f =>
    have hf := a2 f ef
    refine ⟨fun y => absurd y (fi_n hf).1, fun _ => ⟨nI 1, rfl, rfl, fun y => absurd y i1_ne0, fun _ => mk_kI hw2 (M h2 _ z hw2 f2 qc2 qm2 z2 m2 r2 (fun f' q => ?_) (fun q => ?_))⟩⟩
    · rw [ef] at q
      cases q
      exact ⟨rfl, rfl⟩
    · rw [ef] at q; cases q
  | none =>
    obtain ⟨v1, v2⟩ := a3 ef
    refine ⟨fun _ => ⟨nI 0, rfl, rfl, fun _ => ?_, fun y => absurd nI_0 y⟩, fun y => absurd rfl y⟩
    have sl2 : slots h2 0 (btc len T 54 0).2 := slots_eq (sI_r q2 (by decide)) (sI_r q2 (by decide)) (sI_r q2 (by decide)) (sI_r q2 (by decide)) _ 0 v2
    have k2 : h2.I 25 4 = nI (0 + (btc len T 54 0).2.length) := by rw [sI_r q2 (by decide), Nat.zero_add]; exact v1
    refine zq_mono (c_doAll (d := d + 3) (btc len T 54 0).2 0 c z h2 (by omega) hpok sl2 hw2 qc2 qn k2) (fun r h3 ⟨x, x1, hw3, x3, x4, x5⟩ => ⟨x, x1, hw3, ?_⟩)
    refine M h3 _ (dAll (btc len T 54 0).2 z) hw3 (bfr_tr f2 (bfr_c x5)) x4 (mZ_frm x5.1 qm2 (by decide) (by decide)) (by rw [frm_I x5.1 (by decide)]; exact z2) (by rw [frm_I x5.1 (by decide)]; exact m2) (fun i hi => by rw [frm_I x5.1 (by decide)]; exact r2 i hi) (fun f q => ?_) (fun _ => ⟨rfl, ?_⟩)
    · rw [ef] at q; cases q
    · rw [x3, show h3.L 2 9 = lN (dAll (btc len T 54 0).2 z).1.ch from x4.1.2.2.2.2.2.2.2.2, show h2.L 2 9 = lN z.1.ch from qc2.1.2.2.2.2.2.2.2.2]
      exact lN_subI (dAll_ch _ c z hpok qn)
end PBATCH
