/-! doing the parts of a BATCH -/
abbrev NT : Type := NS × (Nat × (Nat → Ent))
def dDrop (u v : Nat) (z : NT) : NT := (goS z.1 u v, lpush z.2.1 z.2.2 (u, v, false, z.1.w (pr u v)))
def dBring (u v : Nat) (x : Int32) (z : NT) : NT := (comeS z.1 u v x, lpush z.2.1 z.2.2 (u, v, true, x))
def dSt (u : Nat) : Nat → Nat → NT → NT
  | 0, _, z => z
  | n + 1, w, z => dSt u n (w + 1) (if gb (z.1.f u) w = true then dDrop u w z else z)
def dPart (t : PT) (z : NT) : NT :=
  if t.1 = 42 then dSt t.2.1 40 0 z
  else if gb (z.1.f t.2.1) t.2.2.1 = true then (if t.1 = 43 then z else dDrop t.2.1 t.2.2.1 z)
  else (if t.1 = 45 then z else dBring t.2.1 t.2.2.1 t.2.2.2 z)
def dAll : List PT → NT → NT
  | [], z => z
  | t :: ts, z => dAll ts (dPart t z)
def nu (c : Nat) (z : NT) : Prop := num c z.1 z.2.1 z.2.2
def cZ (h : AH) (z : NT) : Prop := cN h z.1 z.2.1 z.2.2
def mZ (h : AH) (z : NT) : Prop := mN h z.1 z.2.1 z.2.2
theorem nu_le {c c' : Nat} {z : NT} (h : c ≤ c') (q : nu c z) : nu c' z := ⟨q.1, q.2.1, cb_le h q.2.2⟩
theorem nu_ne {c u w : Nat} {z : NT} (q : nu c z) (hg : gb (z.1.f u) w = true) : u ≠ w := fun e => by
  subst e
  have := q.1.1.2.1 u
  rw [this] at hg
  cases hg
theorem nu_drop {c u v : Nat} {z : NT} (q : nu c z) (hu : u < 40) (hv : v < 40) (hg : gb (z.1.f u) v = true) : nu (c + 1) (dDrop u v z) := num_go q hu hv (nu_ne q hg) hg
theorem nu_bring {c u v : Nat} {x : Int32} {z : NT} (q : nu c z) (hu : u < 40) (hv : v < 40) (huv : u ≠ v) (hg : gb (z.1.f u) v = false) (hx : wbd x) : nu (c + 1) (dBring u v x z) := num_come q hu hv huv hg hx
theorem nu_st {u : Nat} (hu : u < 40) : ∀ n w c (z : NT), n + w = 40 → nu c z → nu (c + n) (dSt u n w z)
  | 0, w, c, z, _, q => q
  | n + 1, w, c, z, hn, q => by
    show nu (c + (n + 1)) (dSt u n (w + 1) (if gb (z.1.f u) w = true then dDrop u w z else z))
    rw [show c + (n + 1) = c + 1 + n by omega]
    refine nu_st hu n (w + 1) (c + 1) _ (by omega) ?_
    cases hg : gb (z.1.f u) w with
    | true => rw [if_pos rfl]; exact nu_drop q hu (by omega) hg
    | false => rw [if_neg (by decide)]; exact nu_le (by omega) q
theorem nu_part {c : Nat} {t : PT} {z : NT} (ht : pok t) (q : nu c z) : nu (c + 40) (dPart t z) := by
  obtain ⟨t1, t2, t3, t4, t5⟩ := ht
  unfold dPart
  by_cases y : t.1 = 42
  · rw [if_pos y]; exact nu_st t2 40 0 c z rfl q
  · rw [if_neg y]
    cases hg : gb (z.1.f t.2.1) t.2.2.1 with
    | true =>
      rw [if_pos rfl]
      split
      · exact nu_le (by omega) q
      · exact nu_le (by omega) (nu_drop q t2 t3 hg)
    | false =>
      rw [if_neg (by decide)]
      split
      · exact nu_le (by omega) q
      · exact nu_le (by omega) (nu_bring q t2 t3 (t4 y) hg t5)
theorem nu_all : ∀ (l : List PT) c (z : NT), (∀ t ∈ l, pok t) → nu c z → nu (c + 40 * l.length) (dAll l z)
  | [], c, z, _, q => q
  | t :: ts, c, z, hp, q => by
    show nu (c + 40 * (ts.length + 1)) (dAll ts (dPart t z))
    rw [show c + 40 * (ts.length + 1) = c + 40 + 40 * ts.length by omega]
    exact nu_all ts (c + 40) _ (fun t' h' => hp t' (List.mem_cons_of_mem _ h')) (nu_part (hp t List.mem_cons_self) q)
section DOES
variable {d : Nat} {h : AH} {c : Nat} {z : NT}
theorem c_bringZ {u v : Nat} {x : Int32} (hw : zWF h) (q : cZ h z) (qn : nu c z) (hu : u < 40) (hv : v < 40) (huv : u ≠ v) (hg : gb (z.1.f u) v = false) : zK (d + 5) m_X3_bring [.ref 2, .int (nI u), .int (nI v), .int x] h (kV (fun h' => cZ h' (dBring u v x z) ∧ cfr h h')) := c_bringN hw q qn hu hv huv hg
theorem c_dropZ {u v : Nat} (hw : zWF h) (q : cZ h z) (qn : nu c z) (hu : u < 40) (hv : v < 40) (hg : gb (z.1.f u) v = true) : zK (d + 5) m_X3_drop [.ref 2, .int (nI u), .int (nI v)] h (kV (fun h' => cZ h' (dDrop u v z) ∧ cfr h h')) := c_dropN hw q qn hu hv (nu_ne qn hg) hg
theorem m_comesZ {u v : Nat} {x : Int32} (hw : zWF h) (q : mZ h z) (qn : nu c z) (hu : u < 40) (hv : v < 40) (huv : u ≠ v) (hg : gb (z.1.f u) v = false) : zK (d + 5) m_X11_comes [.ref 53, .int (nI u), .int (nI v), .int x] h (kV (fun h' => mZ h' (dBring u v x z) ∧ ofr h h')) := m_comesN hw q qn hu hv huv hg
theorem m_goesZ {u v : Nat} (hw : zWF h) (q : mZ h z) (qn : nu c z) (hu : u < 40) (hv : v < 40) (hg : gb (z.1.f u) v = true) : zK (d + 5) m_X11_goes [.ref 53, .int (nI u), .int (nI v)] h (kV (fun h' => mZ h' (dDrop u v z) ∧ ofr h h')) := m_goesN hw q qn hu hv (nu_ne qn hg) hg
theorem c_star {u : Nat} (hu : u < 40) : ∀ n w c (z : NT) (h : AH), n + w = 40 → zWF h → cZ h z → nu c z → zQ none m_X10_doPart (d + 6) 41 [(0, .ref 1), (2, .int (nI u)), (5, .int (nI w))] [] h (kV (fun h' => cZ h' (dSt u n w z) ∧ cfr h h')) := by
  intro n
  induction n with
  | zero =>
    intro w c z h hn hw q qn
    rw [Nat.zero_add] at hn
    subst hn
    exact r_X10_doPart_41 _ _ hw ⟨fun _ => mk_kV hw ⟨q, cfr_rf⟩, fun y => absurd e40 y⟩
  | succ n ih =>
    intro w c z h hn hw q qn
    have hw40 : w < 40 := by omega
    refine r_X10_doPart_41 _ _ hw ⟨fun y => absurd y (n40 hw40), fun _ => use_pI (c_joins hw hu hw40) ?_⟩
    have e : dSt u (n + 1) w z = dSt u n (w + 1) (if gb (z.1.f u) w = true then dDrop u w z else z) := rfl
    rw [e, show h.L 3 = z.1.f from q.1.1, nI_add]
    cases hg : gb (z.1.f u) w with
    | false => exact ⟨fun _ => ih (w + 1) c z h (by omega) hw q qn, fun y => absurd bf0 y⟩
    | true =>
      refine ⟨fun y => absurd y bt0, fun _ => use_kV (c_dropZ hw q qn hu hw40 hg) (fun h4 hw4 ⟨a1, a2⟩ => ?_)⟩
      exact zq_mono (ih (w + 1) (c + 1) _ h4 (by omega) hw4 a1 (nu_drop qn hu hw40 hg)) (fun r h' ⟨r1, r2, r3, r4⟩ => ⟨r1, r2, r3, cfr_tr a2 r4⟩)
theorem m_star {u : Nat} (hu : u < 40) : ∀ n w c (z : NT) (h : AH), n + w = 40 → zWF h → mZ h z → nu c z → zQ none m_X11_does (d + 6) 32 [(0, .ref 53), (2, .int (nI u)), (4, .int (nI w))] [] h (kV (fun h' => mZ h' (dSt u n w z) ∧ ofr h h')) := by
  intro n
  induction n with
  | zero =>
    intro w c z h hn hw q qn
    rw [Nat.zero_add] at hn
    subst hn
    exact r_X11_does_32 _ _ hw ⟨fun _ => mk_kV hw ⟨q, ofr_rf⟩, fun y => absurd e40 y⟩
  | succ n ih =>
    intro w c z h hn hw q qn
    have hw40 : w < 40 := by omega
    refine r_X11_does_32 _ _ hw ⟨fun y => absurd y (n40 hw40), fun _ => use_pI (m_isEdge hw hu hw40) ?_⟩
    have e : dSt u (n + 1) w z = dSt u n (w + 1) (if gb (z.1.f u) w = true then dDrop u w z else z) := rfl
    rw [e, show h.L 58 = z.1.f from q.1.1, nI_add]
    cases hg : gb (z.1.f u) w with
    | false => exact ⟨fun _ => ih (w + 1) c z h (by omega) hw q qn, fun y => absurd bf0 y⟩
    | true =>
      refine ⟨fun y => absurd y bt0, fun _ => use_kV (m_goesZ hw q qn hu hw40 hg) (fun h4 hw4 ⟨a1, a2⟩ => ?_)⟩
      exact zq_mono (ih (w + 1) (c + 1) _ h4 (by omega) hw4 a1 (nu_drop qn hu hw40 hg)) (fun r h' ⟨r1, r2, r3, r4⟩ => ⟨r1, r2, r3, ofr_tr a2 r4⟩)
theorem c_doPart {i : Nat} {t : PT} (hi : i < 54) (ht : pok t) (hs : slot h i t) (hw : zWF h) (q : cZ h z) (qn : nu c z) : zK (d + 6) m_X10_doPart [.ref 1, .int (nI i)] h (kV (fun h' => cZ h' (dPart t z) ∧ cfr h h')) := by
  obtain ⟨t1, t2, t3, t4, t5⟩ := ht
  obtain ⟨s1, s2, s3, s4⟩ := hs
  refine r_X10_doPart_0 _ hw ⟨v54 hi, v54 hi, v54 hi, ?_⟩
  rw [cl_n hi (by decide), s1, s2, s3, s4, ne_eq, nI_eqE (by omega) (by decide), nI_eqE (by omega) (by decide), nI_eqE (by omega) (by decide)]
  unfold dPart
  refine ⟨fun y => use_pI (c_joins hw t2 t3) ?_, fun y => ?_⟩
  · rw [if_neg y, show h.L 3 = z.1.f from q.1.1]
    cases hg : gb (z.1.f t.2.1) t.2.2.1 with
    | false =>
      rw [if_neg (by decide)]
      refine ⟨fun _ => ⟨fun k => ?_, fun k => ⟨v54 hi, ?_⟩⟩, fun k => absurd bf0 k⟩
      · rw [if_pos k]; exact mk_kV hw ⟨q, cfr_rf⟩
      · rw [if_neg k]; exact use_kV (c_bringZ hw q qn t2 t3 (t4 y) hg) (fun _ hw' r => mk_kV hw' r)
    | true =>
      rw [if_pos rfl]
      refine ⟨fun k => absurd k bt0, fun _ => ⟨fun k => ?_, fun k => ?_⟩⟩
      · rw [if_pos k]; exact mk_kV hw ⟨q, cfr_rf⟩
      · rw [if_neg k]; exact use_kV (c_dropZ hw q qn t2 t3 hg) (fun _ hw' r => mk_kV hw' r)
  · rw [if_pos y]
    exact c_star t2 40 0 c z h rfl hw q qn
theorem m_does {i : Nat} {t : PT} (hi : i < 54) (ht : pok t) (hs : mslot h (4 * i) t) (hw : zWF h) (q : mZ h z) (qn : nu c z) : zK (d + 6) m_X11_does [.ref 53, .int (nI (4 * i))] h (kV (fun h' => mZ h' (dPart t z) ∧ ofr h h')) := by
  obtain ⟨t1, t2, t3, t4, t5⟩ := ht
  obtain ⟨s1, s2, s3, s4⟩ := hs
  refine r_X11_does_0 _ hw ?_
  rw [nI_add, nI_add, nI_add, cl_n (show 4 * i + 1 < 640 by omega) (by decide), cl_n (show 4 * i + 2 < 640 by omega) (by decide), cl_n (show 4 * i + 3 < 640 by omega) (by decide), cl_n (show 4 * i < 640 by omega) (by decide), s1, s2, s4]
  have e67 : ∀ g, ofr h g → g.I 67 = h.I 67 := fun g a => frm_I a.1 (by decide)
  have va := v640 (show 4 * i < 640 by omega)
  have vb := v640 (show 4 * i + 1 < 640 by omega)
  have vc := v640 (show 4 * i + 2 < 640 by omega)
  have vd := v640 (show 4 * i + 3 < 640 by omega)
  refine ⟨vb, vc, va, fun y => ?_, fun y => ?_⟩
  · have y' : t.1 ≠ 42 := fun k => y (by rw [k])
    have s3' := s3 y'
    rw [s3']
    refine use_pI (m_isEdge hw t2 t3) ⟨va, ?_⟩
    unfold dPart
    rw [if_neg y', show h.L 58 = z.1.f from q.1.1]
    rcases t1 with k | k | k | k
    · exact absurd k y'
    · rw [k]
      cases hg : gb (z.1.f t.2.1) t.2.2.1 with
      | false =>
        rw [if_neg (by decide), if_neg (by decide)]
        refine ⟨fun w => absurd rfl w, fun _ => ⟨fun _ => ⟨vd, use_kV (m_comesZ hw q qn t2 t3 (t4 y') hg) (fun h1 hw1 ⟨a1, a2⟩ => ?_)⟩, fun w => absurd bf0 w⟩⟩
        have e1 : h1.I 67 (4 * i) = nI 43 := by rw [e67 h1 a2, s1, k]
        rw [e1]
        exact ⟨va, fun _ => ⟨va, fun _ => mk_kV hw1 ⟨a1, a2⟩, fun w => absurd w (by decide)⟩, fun w => absurd w (by decide)⟩
      | true =>
        rw [if_pos rfl, if_pos rfl]
        exact ⟨fun w => absurd rfl w, fun _ => ⟨fun w => absurd w bt0, fun _ => ⟨va, fun _ => ⟨va, fun _ => ⟨va, fun _ => mk_kV hw ⟨q, ofr_rf⟩, fun w => absurd w (by decide)⟩, fun w => absurd w (by decide)⟩, fun w => absurd w (by decide)⟩⟩⟩
    · rw [k]
      cases hg : gb (z.1.f t.2.1) t.2.2.1 with
      | false =>
        rw [if_neg (by decide), if_pos rfl]
        exact ⟨fun _ => ⟨va, fun _ => ⟨va, fun w => absurd rfl w, fun _ => ⟨fun w => absurd bf0 w, fun _ => ⟨va, fun _ => mk_kV hw ⟨q, ofr_rf⟩, fun w => absurd w (by decide)⟩⟩⟩, fun w => absurd w (by decide)⟩, fun w => absurd w (by decide)⟩
      | true =>
        rw [if_pos rfl, if_neg (by decide)]
        exact ⟨fun _ => ⟨va, fun _ => ⟨va, fun w => absurd rfl w, fun _ => ⟨fun _ => use_kV (m_goesZ hw q qn t2 t3 hg) (fun _ hw' r => mk_kV hw' r), fun w => absurd w bt0⟩⟩, fun w => absurd w (by decide)⟩, fun w => absurd w (by decide)⟩
    · rw [k]
      cases hg : gb (z.1.f t.2.1) t.2.2.1 with
      | false =>
        rw [if_neg (by decide), if_neg (by decide)]
        refine ⟨fun _ => ⟨va, fun w => absurd rfl w, fun _ => ⟨fun w => absurd bf0 w, fun _ => ⟨vd, use_kV (m_comesZ hw q qn t2 t3 (t4 y') hg) (fun h1 hw1 ⟨a1, a2⟩ => ?_)⟩⟩⟩, fun w => absurd w (by decide)⟩
        have e1 : h1.I 67 (4 * i) = nI 126 := by rw [e67 h1 a2, s1, k]
        rw [e1]
        exact ⟨va, fun _ => ⟨va, fun w => absurd rfl w, fun _ => ⟨fun _ => mk_kV hw1 ⟨a1, a2⟩, fun w => absurd bf0 w⟩⟩, fun w => absurd w (by decide)⟩
      | true =>
        rw [if_pos rfl, if_neg (by decide)]
        exact ⟨fun _ => ⟨va, fun w => absurd rfl w, fun _ => ⟨fun _ => ⟨va, fun _ => ⟨va, fun w => absurd rfl w, fun _ => ⟨fun w => absurd w bt0, fun _ => use_kV (m_goesZ hw q qn t2 t3 hg) (fun _ hw' r => mk_kV hw' r)⟩⟩, fun w => absurd w (by decide)⟩, fun w => absurd w bt0⟩⟩, fun w => absurd w (by decide)⟩
  · have y' : t.1 = 42 := (nI_eqE (by omega) (by decide)).mp y
    unfold dPart
    rw [if_pos y']
    exact m_star t2 40 0 c z h rfl hw q qn
end DOES
