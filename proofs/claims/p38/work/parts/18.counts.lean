/-! what is counted in rows of bits: one number for both sides -/
theorem sum_loop {P : Nat → Nat → Prop} (g : Nat → Nat) (N : Nat) (base : P N (fb_sm g N)) (step : ∀ i, i < N → ∀ s, P (i + 1) (s + g i) → P i s) : P 0 0 :=
  nat_down (P := fun i => P i (fb_sm g i)) base (fun i hi h => step i hi _ h) 0 (Nat.zero_le _)
theorem n40 {i : Nat} (h : i < 40) : ¬ nI 40 ≤ nI i := nI_ge h (by decide)
theorem e40 : nI 40 ≤ nI 40 := nI_le (Nat.le_refl _) (by decide)
theorem cl40 {i : Nat} (h : i < 40) : (nI i).toNatClampNeg = i := nI_clampE (by omega)
theorem vi40 {i : Nat} (h : i < 40) : vp_in (nI i) 40 := vp_in_nI h (by decide)
def c2 (n : Nat) : Nat := n * (n - 1) / 2
theorem c2_int : ∀ n, n ≤ 64 → nI n * (nI n - nI 1) / nI 2 = nI (c2 n) := by
  have h : ∀ n, n < 65 → nI n * (nI n - nI 1) / nI 2 = nI (c2 n) := by decide +kernel
  exact fun n hn => h n (by omega)
theorem c2_le : ∀ n, n ≤ 64 → c2 n ≤ 2016 := by
  have h : ∀ n, n < 65 → c2 n ≤ 2016 := by decide +kernel
  exact fun n hn => h n (by omega)
def spT (f : Nat → Int64) (u : Nat) : Nat := fb_sm (fun v => if gb (f u) v = true then pc (f u &&& f v) else 0) 40
def tri (f : Nat → Int64) (u : Nat) : Nat := spT f u / 2
def triA (f : Nat → Int64) : Nat := fb_sm (tri f) 40 / 3
def two2 (f : Nat → Int64) : Nat := fb_sm (fun u => c2 (pc (f u))) 40
def rng (f : Nat → Int64) (u : Nat) : Nat := fb_sm (fun w => if w = u then 0 else c2 (pc (f u &&& f w))) 40
def rngA (f : Nat → Int64) : Nat := fb_sm (rng f) 40 / 4
def fo (f : Nat → Int64) (b : Int64) : Nat := fb_sm (fun w => if gb b w = true then pc (b &&& f w) else 0) 40 / 2
def foU (f : Nat → Int64) (u : Nat) : Nat := fb_sm (fun v => if gb (f u) v = true then fo f (f u &&& f v) else 0) 40 / 3
def foA (f : Nat → Int64) : Nat := fb_sm (foU f) 40 / 4
def way (f : Nat → Int64) (u v : Nat) : Nat := fb_sm (fun a => if gb (f u) a = true ∧ a ≠ v then pc (f a &&& (f v &&& (one u ^^^ (-1)))) else 0) 40
theorem spT_le (f : Nat → Int64) (u : Nat) : spT f u ≤ 2560 := fb_sm_bound (c := 64) (n := 40) (fun k _ => by split; exact pc_le _; omega)
theorem tri_le (f : Nat → Int64) (u : Nat) : tri f u ≤ 1280 := by have := spT_le f u; unfold tri; omega
theorem triS_le (f : Nat → Int64) : fb_sm (tri f) 40 ≤ 51200 := fb_sm_bound (c := 1280) (n := 40) (fun k _ => tri_le f k)
theorem rng_le (f : Nat → Int64) (u : Nat) : rng f u ≤ 80640 := fb_sm_bound (c := 2016) (n := 40) (fun k _ => by split; omega; exact c2_le _ (pc_le _))
theorem rngS_le (f : Nat → Int64) : fb_sm (rng f) 40 ≤ 3225600 := fb_sm_bound (c := 80640) (n := 40) (fun k _ => rng_le f k)
theorem fo2_le (f : Nat → Int64) (b : Int64) : fb_sm (fun w => if gb b w = true then pc (b &&& f w) else 0) 40 ≤ 2560 := fb_sm_bound (c := 64) (n := 40) (fun k _ => by split; exact pc_le _; omega)
theorem fo_le (f : Nat → Int64) (b : Int64) : fo f b ≤ 1280 := by have := fo2_le f b; unfold fo; omega
theorem foU2_le (f : Nat → Int64) (u : Nat) : fb_sm (fun v => if gb (f u) v = true then fo f (f u &&& f v) else 0) 40 ≤ 51200 := fb_sm_bound (c := 1280) (n := 40) (fun k _ => by split; exact fo_le _ _; omega)
theorem foU_le (f : Nat → Int64) (u : Nat) : foU f u ≤ 17067 := by have := foU2_le f u; unfold foU; omega
theorem foS_le (f : Nat → Int64) : fb_sm (foU f) 40 ≤ 682680 := fb_sm_bound (c := 17067) (n := 40) (fun k _ => foU_le f k)
theorem bT {b : Bool} (h : ¬ (if b = true then nI 1 else nI 0) = 0) : b = true := by cases b <;> first | rfl | exact absurd nI_0 h
theorem bF {b : Bool} (h : (if b = true then nI 1 else nI 0) = 0) : b = false := by cases b <;> first | rfl | exact absurd h i1_ne0
theorem ifT {α : Type} {b : Bool} {x y : α} (h : b = true) : (if b = true then x else y) = x := if_pos h
theorem ifF {α : Type} {b : Bool} {x y : α} (h : b = false) : (if b = true then x else y) = y := if_neg (by rw [h]; decide)
section CLS
variable {d : Nat} {h : AH} {r0 : Nat}
theorem c_degree {u : Nat} (hs : h.sh r0 = some (.inr (1, 40))) (hu : u < 40) : zK (d + 2) m_X2_degree [.ref r0, .int (nI u)] h (pI h (fun x => x = nI (pc (h.L r0 u)))) := by
  refine r_X2_degree_0 r0 (nI u) hs ⟨vi40 hu, ?_⟩
  rw [cl40 hu]
  exact use_pI (c_bitCount _) (mk_pI rfl)
theorem c_shared {u v : Nat} (hs : h.sh r0 = some (.inr (1, 40))) (hu : u < 40) (hv : v < 40) : zK (d + 2) m_X2_shared [.ref r0, .int (nI u), .int (nI v)] h (pI h (fun x => x = nI (pc (h.L r0 u &&& h.L r0 v)))) := by
  refine r_X2_shared_0 r0 (nI u) (nI v) hs ⟨vi40 hu, vi40 hv, ?_⟩
  rw [cl40 hu, cl40 hv]
  exact use_pI (c_bitCount _) (mk_pI rfl)
theorem c_trianglesAt {u : Nat} (hs : h.sh r0 = some (.inr (1, 40))) (hu : u < 40) : zK (d + 3) m_X2_trianglesAt [.ref r0, .int (nI u)] h (pI h (fun x => x = nI (tri (h.L r0) u))) := by
  refine r_X2_trianglesAt_0 r0 (nI u) hs ?_
  refine sum_loop (P := fun i s => zQ none _ _ 4 [(0, _), (1, _), (2, .int (nI s)), (3, .int (nI i))] [] h _) (fun v => if gb (h.L r0 u) v = true then pc (h.L r0 u &&& h.L r0 v) else 0) 40 ?_ (fun i hi s ih => ?_)
  · refine r_X2_trianglesAt_4 r0 _ _ _ hs ⟨fun _ => mk_pI ?_, fun q => absurd e40 q⟩
    have := spT_le (h.L r0) u
    exact nI_divE (show spT (h.L r0) u < _ by omega) (by decide) (by decide)
  · refine r_X2_trianglesAt_4 r0 _ _ _ hs ⟨fun q => absurd q (n40 hi), fun _ => ⟨vi40 hu, ?_⟩⟩
    rw [cl40 hu]
    refine use_pI (c_hasBit (by omega)) ⟨fun q => ?_, fun q => ?_⟩
    · rw [ifF (bF q), Nat.add_zero] at ih
      rw [nI_add]
      exact ih
    · rw [ifT (bT q)] at ih
      refine use_pI (c_shared hs hu hi) ?_
      rw [nI_add, nI_add]
      exact ih
theorem c_triangles (hs : h.sh r0 = some (.inr (1, 40))) : zK (d + 4) m_X2_triangles [.ref r0] h (pI h (fun x => x = nI (triA (h.L r0)))) := by
  refine r_X2_triangles_0 r0 hs ?_
  refine sum_loop (P := fun i s => zQ none _ _ 4 [(0, _), (1, .int (nI s)), (2, .int (nI i))] [] h _) (tri (h.L r0)) 40 ?_ (fun i hi s ih => ?_)
  · refine r_X2_triangles_4 r0 _ _ hs ⟨fun _ => mk_pI ?_, fun q => absurd e40 q⟩
    have := triS_le (h.L r0)
    exact nI_divE (by omega) (by decide) (by decide)
  · refine r_X2_triangles_4 r0 _ _ hs ⟨fun q => absurd q (n40 hi), fun _ => use_pI (c_trianglesAt hs hi) ?_⟩
    rw [nI_add, nI_add]
    exact ih
theorem c_twosAt {u : Nat} (hs : h.sh r0 = some (.inr (1, 40))) (hu : u < 40) : zK (d + 3) m_X2_twosAt [.ref r0, .int (nI u)] h (pI h (fun x => x = nI (c2 (pc (h.L r0 u))))) := by
  refine r_X2_twosAt_0 r0 (nI u) hs (use_pI (c_degree hs hu) (mk_pI ?_))
  exact c2_int _ (pc_le _)
theorem c_twos (hs : h.sh r0 = some (.inr (1, 40))) : zK (d + 4) m_X2_twos [.ref r0] h (pI h (fun x => x = nI (two2 (h.L r0)))) := by
  refine r_X2_twos_0 r0 hs ?_
  refine sum_loop (P := fun i s => zQ none _ _ 4 [(0, _), (1, .int (nI s)), (2, .int (nI i))] [] h _) (fun u => c2 (pc (h.L r0 u))) 40 ?_ (fun i hi s ih => ?_)
  · exact r_X2_twos_4 r0 _ _ hs ⟨fun _ => mk_pI rfl, fun q => absurd e40 q⟩
  · refine r_X2_twos_4 r0 _ _ hs ⟨fun q => absurd q (n40 hi), fun _ => use_pI (c_twosAt hs hi) ?_⟩
    rw [nI_add, nI_add]
    exact ih
theorem c_ringsAt {u : Nat} (hs : h.sh r0 = some (.inr (1, 40))) (hu : u < 40) : zK (d + 3) m_X2_ringsAt [.ref r0, .int (nI u)] h (pI h (fun x => x = nI (rng (h.L r0) u))) := by
  refine r_X2_ringsAt_0 r0 (nI u) hs ?_
  refine sum_loop (P := fun i s => zQ none _ _ 4 [(0, _), (1, _), (2, .int (nI s)), (3, .int (nI i))] [] h _) (fun w => if w = u then 0 else c2 (pc (h.L r0 u &&& h.L r0 w))) 40 ?_ (fun i hi s ih => ?_)
  · exact r_X2_ringsAt_4 r0 _ _ _ hs ⟨fun _ => mk_pI rfl, fun q => absurd e40 q⟩
  · refine r_X2_ringsAt_4 r0 _ _ _ hs ⟨fun q => absurd q (n40 hi), fun _ => ⟨fun q => ?_, fun q => ?_⟩⟩
    · rw [if_pos ((nI_eqE (by omega) (by omega)).mp q), Nat.add_zero] at ih
      rw [nI_add]
      exact ih
    · rw [if_neg (fun z => q (by rw [z]))] at ih
      refine use_pI (c_shared hs hu hi) ?_
      rw [c2_int _ (pc_le _), nI_add, nI_add]
      exact ih
theorem c_rings (hs : h.sh r0 = some (.inr (1, 40))) : zK (d + 4) m_X2_rings [.ref r0] h (pI h (fun x => x = nI (rngA (h.L r0)))) := by
  refine r_X2_rings_0 r0 hs ?_
  refine sum_loop (P := fun i s => zQ none _ _ 4 [(0, _), (1, .int (nI s)), (2, .int (nI i))] [] h _) (rng (h.L r0)) 40 ?_ (fun i hi s ih => ?_)
  · refine r_X2_rings_4 r0 _ _ hs ⟨fun _ => mk_pI ?_, fun q => absurd e40 q⟩
    have := rngS_le (h.L r0)
    exact nI_divE (by omega) (by decide) (by decide)
  · refine r_X2_rings_4 r0 _ _ hs ⟨fun q => absurd q (n40 hi), fun _ => use_pI (c_ringsAt hs hi) ?_⟩
    rw [nI_add, nI_add]
    exact ih
theorem c_foursOn {u v : Nat} (hs : h.sh r0 = some (.inr (1, 40))) (hu : u < 40) (hv : v < 40) : zK (d + 2) m_X2_foursOn [.ref r0, .int (nI u), .int (nI v)] h (pI h (fun x => x = nI (fo (h.L r0) (h.L r0 u &&& h.L r0 v)))) := by
  refine r_X2_foursOn_0 r0 (nI u) (nI v) hs ⟨vi40 hu, vi40 hv, ?_⟩
  rw [cl40 hu, cl40 hv]
  generalize h.L r0 u &&& h.L r0 v = b
  refine sum_loop (P := fun i s => zQ none _ _ 14 [(0, _), (3, _), (5, .int (nI s)), (6, .int (nI i))] [] h _) (fun w => if gb b w = true then pc (b &&& h.L r0 w) else 0) 40 ?_ (fun i hi s ih => ?_)
  · refine r_X2_foursOn_14 r0 _ _ _ hs ⟨fun _ => mk_pI ?_, fun q => absurd e40 q⟩
    have := fo2_le (h.L r0) b
    exact nI_divE (by omega) (by decide) (by decide)
  · refine r_X2_foursOn_14 r0 _ _ _ hs ⟨fun q => absurd q (n40 hi), fun _ => use_pI (c_hasBit (by omega)) ⟨fun q => ?_, fun q => ⟨vi40 hi, ?_⟩⟩⟩
    · rw [ifF (bF q), Nat.add_zero] at ih
      rw [nI_add]
      exact ih
    · rw [ifT (bT q)] at ih
      rw [cl40 hi]
      refine use_pI (c_bitCount _) ?_
      rw [nI_add, nI_add]
      exact ih
theorem c_foursAt {u : Nat} (hs : h.sh r0 = some (.inr (1, 40))) (hu : u < 40) : zK (d + 3) m_X2_foursAt [.ref r0, .int (nI u)] h (pI h (fun x => x = nI (foU (h.L r0) u))) := by
  refine r_X2_foursAt_0 r0 (nI u) hs ?_
  refine sum_loop (P := fun i s => zQ none _ _ 4 [(0, _), (1, _), (2, .int (nI s)), (3, .int (nI i))] [] h _) (fun v => if gb (h.L r0 u) v = true then fo (h.L r0) (h.L r0 u &&& h.L r0 v) else 0) 40 ?_ (fun i hi s ih => ?_)
  · refine r_X2_foursAt_4 r0 _ _ _ hs ⟨fun _ => mk_pI ?_, fun q => absurd e40 q⟩
    have := foU2_le (h.L r0) u
    exact nI_divE (by omega) (by decide) (by decide)
  · refine r_X2_foursAt_4 r0 _ _ _ hs ⟨fun q => absurd q (n40 hi), fun _ => ⟨vi40 hu, ?_⟩⟩
    rw [cl40 hu]
    refine use_pI (c_hasBit (by omega)) ⟨fun q => ?_, fun q => ?_⟩
    · rw [ifF (bF q), Nat.add_zero] at ih
      rw [nI_add]
      exact ih
    · rw [ifT (bT q)] at ih
      refine use_pI (c_foursOn hs hu hi) ?_
      rw [nI_add, nI_add]
      exact ih
theorem c_fours (hs : h.sh r0 = some (.inr (1, 40))) : zK (d + 4) m_X2_fours [.ref r0] h (pI h (fun x => x = nI (foA (h.L r0)))) := by
  refine r_X2_fours_0 r0 hs ?_
  refine sum_loop (P := fun i s => zQ none _ _ 4 [(0, _), (1, .int (nI s)), (2, .int (nI i))] [] h _) (foU (h.L r0)) 40 ?_ (fun i hi s ih => ?_)
  · refine r_X2_fours_4 r0 _ _ hs ⟨fun _ => mk_pI ?_, fun q => absurd e40 q⟩
    have := foS_le (h.L r0)
    exact nI_divE (by omega) (by decide) (by decide)
  · refine r_X2_fours_4 r0 _ _ hs ⟨fun q => absurd q (n40 hi), fun _ => use_pI (c_foursAt hs hi) ?_⟩
    rw [nI_add, nI_add]
    exact ih
theorem gb_not1 {v a : Nat} (hv : v < 64) (ha : a < 64) : gb (one v ^^^ (-1)) a = !decide (a = v) := by rw [gb_xor, gb_one hv, gb_m1 a ha, Bool.xor_true]
theorem c_waysByThree {u v : Nat} (hs : h.sh r0 = some (.inr (1, 40))) (hu : u < 40) (hv : v < 40) : zK (d + 2) m_X2_waysByThree [.ref r0, .int (nI u), .int (nI v)] h (pI h (fun x => x = nI (way (h.L r0) u v))) := by
  refine r_X2_waysByThree_0 r0 (nI u) (nI v) hs ⟨vi40 hu, vi40 hv, ?_⟩
  rw [cl40 hu, cl40 hv]
  change zQ none _ _ 31 [(0, _), (3, .long (h.L r0 u &&& (one v ^^^ (-1)))), (5, .long (h.L r0 v &&& (one u ^^^ (-1)))), (7, _), (8, _)] [] h _
  refine sum_loop (P := fun i s => zQ none _ _ 31 [(0, _), (3, _), (5, _), (7, .int (nI s)), (8, .int (nI i))] [] h _) (fun a => if gb (h.L r0 u) a = true ∧ a ≠ v then pc (h.L r0 a &&& (h.L r0 v &&& (one u ^^^ (-1)))) else 0) 40 ?_ (fun i hi s ih => ?_)
  · exact r_X2_waysByThree_31 r0 _ _ _ _ hs ⟨fun _ => mk_pI rfl, fun q => absurd e40 q⟩
  · have hg : gb (h.L r0 u &&& (one v ^^^ (-1))) i = (gb (h.L r0 u) i && !decide (i = v)) := by rw [gb_and, gb_not1 (by omega) (by omega)]
    refine r_X2_waysByThree_31 r0 _ _ _ _ hs ⟨fun q => absurd q (n40 hi), fun _ => use_pI (c_hasBit (by omega)) ⟨fun q => ?_, fun q => ⟨vi40 hi, ?_⟩⟩⟩
    · have q := bF q
      rw [hg] at q
      rw [if_neg (by rintro ⟨z1, z2⟩; rw [z1, decide_eq_false z2] at q; cases q), Nat.add_zero] at ih
      rw [nI_add]
      exact ih
    · have q := bT q
      rw [hg] at q
      rw [Bool.and_eq_true, Bool.not_eq_true', decide_eq_false_iff_not] at q
      rw [if_pos q] at ih
      rw [cl40 hi]
      refine use_pI (c_bitCount _) ?_
      rw [nI_add, nI_add]
      exact ih
end CLS
section REF
variable {d : Nat} {h : AH}
theorem b01 (b : Bool) : (if b = true then nI 1 else nI 0) = 0 ∨ (if b = true then nI 1 else nI 0) = 1 := by cases b <;> decide
end REF
