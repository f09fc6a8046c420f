/-! the words that every method is given: those of the tables that a callee may be handed -/
def zT : List Cond := lw_tbl.filter goodWord
theorem zT_tbl {w : Cond} (h : w ∈ zT) : w ∈ lw_tbl := (List.mem_filter.mp h).1
theorem zT_good : GoodIn zT zT := fun _ h => ⟨h, good_of_word (List.mem_filter.mp h).2⟩
theorem zT_of {w : Cond} {i : Nat} (h : tables_1[i]? = some w) (hg : goodWord w = true) : w ∈ zT := List.mem_filter.mpr ⟨List.mem_append_right _ (List.mem_of_getElem? h), hg⟩
theorem zT_1 {w : Cond} {i : Nat} (h : tables_1_1[i]? = some w) (hg : goodWord w = true) : w ∈ zT := List.mem_filter.mpr ⟨List.mem_append_right _ (show w ∈ tables_1_1 ++ (tables_1_2 ++ tables_1_3) from List.mem_append_left _ (List.mem_of_getElem? h)), hg⟩
theorem zT_2 {w : Cond} {i : Nat} (h : tables_1_2[i]? = some w) (hg : goodWord w = true) : w ∈ zT := List.mem_filter.mpr ⟨List.mem_append_right _ (show w ∈ tables_1_1 ++ (tables_1_2 ++ tables_1_3) from List.mem_append_right _ (List.mem_append_left _ (List.mem_of_getElem? h))), hg⟩
theorem zT_3 {w : Cond} {i : Nat} (h : tables_1_3[i]? = some w) (hg : goodWord w = true) : w ∈ zT := List.mem_filter.mpr ⟨List.mem_append_right _ (show w ∈ tables_1_1 ++ (tables_1_2 ++ tables_1_3) from List.mem_append_right _ (List.mem_append_right _ (List.mem_of_getElem? h))), hg⟩
def zisNest (w : Cond) : Bool := match w with | .methodLinkNest .. => true | _ => false
def zNest : List Cond := tables_1.filter zisNest
theorem zNest_of {w : Cond} (h : w ∈ zNest) : ∃ a i x o, w = .methodLinkNest a i x o := by
  have h2 := (List.mem_filter.mp h).2
  cases w <;> simp [zisNest] at h2
  exact ⟨_, _, _, _, rfl⟩
theorem zNest_warm {s U : State} (hW : s.WarmedH U.vm) (h : ∀ w ∈ zNest, va_Nw w s) : ∀ w ∈ zNest, va_Nw w U := fun w hw => by
  obtain ⟨a, i, x, o, rfl⟩ := zNest_of hw
  exact va_Nw.warmM hW (h _ hw)
theorem zNest_same {s U : State} (hv : s.vm = U.vm) (h : ∀ w ∈ zNest, va_Nw w s) : ∀ w ∈ zNest, va_Nw w U := fun w hw => by
  obtain ⟨a, i, x, o, rfl⟩ := zNest_of hw
  exact va_Nw.same rfl hv (h _ hw)
theorem zE_1 {w : Cond} {i : Nat} (h : tables_1_1[i]? = some w) (hg : zisNest w = true) : w ∈ zNest := List.mem_filter.mpr ⟨show w ∈ tables_1_1 ++ (tables_1_2 ++ tables_1_3) from List.mem_append_left _ (List.mem_of_getElem? h), hg⟩
theorem zE_2 {w : Cond} {i : Nat} (h : tables_1_2[i]? = some w) (hg : zisNest w = true) : w ∈ zNest := List.mem_filter.mpr ⟨show w ∈ tables_1_1 ++ (tables_1_2 ++ tables_1_3) from List.mem_append_right _ (List.mem_append_left _ (List.mem_of_getElem? h)), hg⟩
theorem zE_3 {w : Cond} {i : Nat} (h : tables_1_3[i]? = some w) (hg : zisNest w = true) : w ∈ zNest := List.mem_filter.mpr ⟨show w ∈ tables_1_1 ++ (tables_1_2 ++ tables_1_3) from List.mem_append_right _ (List.mem_append_right _ (List.mem_of_getElem? h)), hg⟩
theorem zT_sel {w : Cond} {i : Nat} (h : (k2_sels lw_privs)[i]? = some w) (hg : goodWord w = true) : w ∈ zT := List.mem_filter.mpr ⟨List.mem_append_left _ (List.mem_of_getElem? h), hg⟩
/-- a method: its name, its bytes, how many locals, what it answers -/
abbrev Mth : Type := MethodName × ByteArray × Nat × Option FieldType
def zws (M : Mth) : List Cond := Cond.code M.1 M.2.1 M.2.2.1 M.2.2.2 :: zT
/-! classes by number -/
def zN (c : Nat) : Nat := match c with | 0 => 5 | 1 => 3 | 2 => 11 | 3 => 2 | 4 => 2 | 5 => 9 | 6 => 6 | 7 => 4 | 8 => 4 | 9 => 11 | _ => 0
def zR (c : Nat) : String := match c with | 0 => RX0 | 1 => RX1 | 2 => RX3 | 3 => RX4 | 4 => RX5 | 5 => RX6 | 6 => RX7 | 7 => RX8 | 8 => RX9 | 9 => RX10 | _ => ""
def zTb (c : Nat) : u_T := match c with | 0 => TX0 | 1 => TX1 | 2 => TX3 | 3 => TX4 | 4 => TX5 | 5 => TX6 | 6 => TX7 | 7 => TX8 | 8 => TX9 | 9 => TX10 | _ => TX0
def zty (c : Nat) : Nat → FieldType := match c with | 0 => tyX0 | 1 => tyX1 | 2 => tyX3 | 3 => tyX4 | 4 => tyX5 | 5 => tyX6 | 6 => tyX7 | 7 => tyX8 | 8 => tyX9 | 9 => tyX10 | _ => tyX0
/-- a field's kind: 0 whole numbers of 32 bits, 1 of 64, 2 references -/
def zkd (T : FieldType) : Nat := match T with | .long => 1 | .object _ => 2 | .array _ => 2 | _ => 0
def zdef (k : Nat) : Value := if k = 0 then .int 0 else if k = 1 then .long 0 else .null
theorem zcl_at : ∀ c, c < 10 → vwCl[c]? = some (zR c, zTb c, zN c) := fun c h => match c, h with
  | 0, _ => rfl | 1, _ => rfl | 2, _ => rfl | 3, _ => rfl | 4, _ => rfl | 5, _ => rfl | 6, _ => rfl | 7, _ => rfl | 8, _ => rfl | 9, _ => rfl
  | n + 10, h => absurd h (by omega)
set_option maxRecDepth 100000 in
theorem zcl_ws : ∀ c, c < 10 → ∀ w ∈ u_ws (zR c) (zTb c) (zN c), w ∈ zT := by decide +kernel
theorem zcl_ty : ∀ c, c < 10 → ∀ k, k < zN c → parseFieldDescriptor (zTb c k).2.2.1 = some (zty c k) := by decide +kernel
theorem zcl_nm : ∀ c, c < 10 → ∀ a, a < zN c → ∀ b, b < zN c → a ≠ b → (zTb c a).2.1 ≠ (zTb c b).2.1 := by decide +kernel
theorem zcl_def : ∀ c, c < 10 → ∀ k, k < zN c → defaultValue (zty c k) = zdef (zkd (zty c k)) := by decide +kernel
theorem zcl_own : ∀ c, c < 10 → ∀ k, k < zN c → (zTb c k).1 = zR c := by decide +kernel
/-! the abstract heap: how many cells, how many slots were made, each cell's shape, ints, longs, references by cell and place. A shape: an object of a class, or a row of a sort (0 int, 1 long, 2 byte, 3 Row) and a length. A reference is a cell's number; number 0 is the script. -/
abbrev Shp : Type := Nat ⊕ (Nat × Nat)
def AH : Type := Nat × Nat × (Nat → Option Shp) × (Nat → Nat → Int32) × (Nat → Nat → Int64) × (Nat → Nat → Option Nat)
def AH.n (h : AH) : Nat := h.1
def AH.u (h : AH) : Nat := h.2.1
def AH.sh (h : AH) : Nat → Option Shp := h.2.2.1
def AH.I (h : AH) : Nat → Nat → Int32 := h.2.2.2.1
def AH.L (h : AH) : Nat → Nat → Int64 := h.2.2.2.2.1
def AH.P (h : AH) : Nat → Nat → Option Nat := h.2.2.2.2.2
def AH.wI (h : AH) (k : Nat) (f : Nat → Int32) : AH := (h.n, h.u, h.sh, va_up h.I k f, h.L, h.P)
def AH.wL (h : AH) (k : Nat) (f : Nat → Int64) : AH := (h.n, h.u, h.sh, h.I, va_up h.L k f, h.P)
def AH.wP (h : AH) (k : Nat) (f : Nat → Option Nat) : AH := (h.n, h.u, h.sh, h.I, h.L, va_up h.P k f)
def AH.sI (h : AH) (k j : Nat) (x : Int32) : AH := h.wI k (va_up (h.I k) j x)
def AH.sL (h : AH) (k j : Nat) (x : Int64) : AH := h.wL k (va_up (h.L k) j x)
def AH.sP (h : AH) (k j : Nat) (x : Option Nat) : AH := h.wP k (va_up (h.P k) j x)
def AH.push (h : AH) (sh : Shp) (sz : Nat) : AH := (h.n + 1, h.u + sz, va_up h.sh h.n (some sh), va_up h.I h.n (fun _ => 0), va_up h.L h.n (fun _ => 0), va_up h.P h.n (fun _ => none))
def AH.ok (h : AH) : Prop := 1 ≤ h.n ∧ ∀ k, (h.sh k).isSome = true ↔ (0 < k ∧ k < h.n)
theorem AH.ok_push {h : AH} {sh : Shp} {sz : Nat} (H : h.ok) : (h.push sh sz).ok := by
  refine ⟨Nat.le_succ_of_le H.1, fun k => ?_⟩
  show (va_up h.sh h.n (some sh) k).isSome = true ↔ (0 < k ∧ k < h.n + 1)
  have h1 := H.1
  by_cases hk : k = h.n
  · subst hk; rw [va_up_self]; simp; omega
  · rw [va_up_ne _ _ hk, H.2 k]; omega
def zadr (b b0 k : Nat) : Nat := if k = 0 then b else b0 + k
def zv (b b0 : Nat) (v : Value) : Value := match v with | .ref k => .ref (zadr b b0 k) | v => v
theorem zv_cat (b b0 : Nat) (v : Value) : (zv b b0 v).category = v.category := by cases v <;> rfl
def zcf (b b0 : Nat) (h : AH) (k : Nat) (kd j : Nat) : Value := if kd = 0 then .int (h.I k j) else if kd = 1 then .long (h.L k j) else va_rf ((h.P k j).map (zadr b b0))
def zfs (b b0 : Nat) (h : AH) (k c : Nat) : List Value := (List.range (zN c)).map fun j => zcf b b0 h k (zkd (zty c j)) j
def zct (b b0 : Nat) (h : AH) (k t : Nat) : (Nat → Int32) ⊕ (Nat → Int64) ⊕ (Nat → UInt32) ⊕ (Nat → UInt64) ⊕ (Nat → Option Nat) :=
  if t = 1 then .inr (.inl (h.L k)) else if t = 3 then .inr (.inr (.inr (.inr fun j => (h.P k j).map (zadr b b0)))) else .inl (h.I k)
def zcell (b b0 : Nat) (dA : Nat → ClassId) (h : AH) (k : Nat) : va_E := match h.sh k with
  | some (.inl c) => .inr (c, zfs b b0 h k c)
  | some (.inr (t, len)) => .inl (dA t, (len, zct b b0 h k t))
  | none => .inr (0, [])
def zw (b b0 : Nat) (dA : Nat → ClassId) (h : AH) : va_W := (List.range (h.n - 1)).map fun i => (b0 + (i + 1), zcell b b0 dA h (i + 1))
def ztys (dA : Nat → ClassId) : List (ClassId × FieldType) := [(dA 0, .int), (dA 1, .long), (dA 2, .byte), (dA 3, .object RX8)]
theorem zw_get {b b0 : Nat} {dA : Nat → ClassId} {h : AH} {i : Nat} (hi : i < h.n - 1) : (zw b b0 dA h)[i]? = some (b0 + (i + 1), zcell b b0 dA h (i + 1)) := by simp [zw, hi]
theorem zw_len {b b0 : Nat} {dA : Nat → ClassId} {h : AH} : (zw b b0 dA h).length = h.n - 1 := by simp [zw]
theorem zw_lt {b b0 : Nat} {dA : Nat → ClassId} {h : AH} {i : Nat} {q : Nat × va_E} (hq : (zw b b0 dA h)[i]? = some q) : i < h.n - 1 := by
  have := (List.getElem?_eq_some_iff.mp hq).1
  rwa [zw_len] at this
theorem zw_at {b b0 : Nat} {dA : Nat → ClassId} {h : AH} {k : Nat} {x : Shp} (hok : h.ok) (hs : h.sh k = some x) : (zw b b0 dA h)[k - 1]? = some (zadr b b0 k, zcell b b0 dA h k) := by
  have hk := (hok.2 k).mp (by rw [hs]; rfl)
  have e : k - 1 + 1 = k := by omega
  rw [zw_get (by omega), e, zadr, if_neg (by omega)]
theorem zw_D {b b0 : Nat} {dA : Nat → ClassId} {h : AH} : va_D (fun q => b0 < q) (zw b b0 dA h) := by
  refine ⟨fun i j p q hp hq e => ?_, fun k q hq => ?_⟩
  · rw [zw_get (zw_lt hp)] at hp
    rw [zw_get (zw_lt hq)] at hq
    cases hp; cases hq
    simp only at e
    omega
  · rw [zw_get (zw_lt hq)] at hq
    cases hq
    simp only
    omega
theorem zcell_o {b b0 : Nat} {dA : Nat → ClassId} {h : AH} {k c : Nat} (hs : h.sh k = some (.inl c)) : zcell b b0 dA h k = .inr (c, zfs b b0 h k c) := by simp [zcell, hs]
theorem zcell_a {b b0 : Nat} {dA : Nat → ClassId} {h : AH} {k t len : Nat} (hs : h.sh k = some (.inr (t, len))) : zcell b b0 dA h k = .inl (dA t, (len, zct b b0 h k t)) := by simp [zcell, hs]
theorem zfs_get {b b0 : Nat} {h : AH} {k c j : Nat} (hj : j < zN c) : (zfs b b0 h k c)[j]? = some (zcf b b0 h k (zkd (zty c j)) j) := by simp [zfs, hj]
/-- a cell's new picture, the others as they were -/
theorem zw_set {b b0 : Nat} {dA : Nat → ClassId} {h h' : AH} {k : Nat} (hn : h'.n = h.n) (ho : ∀ j, j ≠ k → zcell b b0 dA h' j = zcell b b0 dA h j) (hk : 0 < k) : (zw b b0 dA h).set (k - 1) (zadr b b0 k, zcell b b0 dA h' k) = zw b b0 dA h' := by
  apply List.ext_getElem?
  intro i
  rw [List.getElem?_set]
  by_cases hi : k - 1 = i
  · subst hi
    rw [if_pos rfl]
    by_cases hl : k - 1 < h.n - 1
    · rw [if_pos (by rw [zw_len]; exact hl), zw_get (by rw [hn]; exact hl)]
      have e : k - 1 + 1 = k := by omega
      rw [e, zadr, if_neg (by omega)]
    · rw [if_neg (by rw [zw_len]; exact hl)]
      symm
      rw [List.getElem?_eq_none_iff, zw_len, hn]
      omega
  · rw [if_neg hi]
    by_cases hl : i < h.n - 1
    · rw [zw_get hl, zw_get (by rw [hn]; exact hl), ho (i + 1) (by omega)]
    · rw [List.getElem?_eq_none_iff.mpr (by rw [zw_len]; omega), List.getElem?_eq_none_iff.mpr (by rw [zw_len, hn]; omega)]
theorem zw_push {b b0 : Nat} {dA : Nat → ClassId} {h : AH} {sh : Shp} {sz : Nat} (hok : h.ok) : zw b b0 dA (h.push sh sz) = zw b b0 dA h ++ [(b0 + h.n, zcell b b0 dA (h.push sh sz) h.n)] := by
  have h1 := hok.1
  have e : (h.push sh sz).n - 1 = (h.n - 1) + 1 := by show h.n + 1 - 1 = _; omega
  unfold zw
  rw [e, List.range_succ, List.map_append]
  congr 1
  · apply List.map_congr_left
    intro i hi
    have hi := List.mem_range.mp hi
    have hne : i + 1 ≠ h.n := by omega
    simp only [zcell, AH.push, AH.sh, AH.I, AH.L, AH.P, zfs, zct, zcf, va_up_ne _ _ hne]
  · have e2 : h.n - 1 + 1 = h.n := by omega
    simp [e2]
theorem zc_wI {b b0 : Nat} {dA : Nat → ClassId} {h : AH} {k : Nat} {f : Nat → Int32} : ∀ j, j ≠ k → zcell b b0 dA (h.wI k f) j = zcell b b0 dA h j := fun j hj => by
  simp only [zcell, AH.wI, AH.sh, AH.I, AH.L, AH.P, zfs, zct, zcf, va_up_ne _ _ hj]
theorem zc_wL {b b0 : Nat} {dA : Nat → ClassId} {h : AH} {k : Nat} {f : Nat → Int64} : ∀ j, j ≠ k → zcell b b0 dA (h.wL k f) j = zcell b b0 dA h j := fun j hj => by
  simp only [zcell, AH.wL, AH.sh, AH.I, AH.L, AH.P, zfs, zct, zcf, va_up_ne _ _ hj]
theorem zc_wP {b b0 : Nat} {dA : Nat → ClassId} {h : AH} {k : Nat} {f : Nat → Option Nat} : ∀ j, j ≠ k → zcell b b0 dA (h.wP k f) j = zcell b b0 dA h j := fun j hj => by
  simp only [zcell, AH.wP, AH.sh, AH.I, AH.L, AH.P, zfs, zct, zcf, va_up_ne _ _ hj]
theorem zfs_sI {b b0 : Nat} {h : AH} {k c j : Nat} {x : Int32} (hj : zkd (zty c j) = 0) : (zfs b b0 h k c).set j (.int x) = zfs b b0 (h.sI k j x) k c := by
  apply List.ext_getElem?
  intro i
  rw [List.getElem?_set]
  by_cases hi : i < zN c
  · rw [zfs_get hi, zfs_get hi]
    by_cases e : j = i
    · subst e; simp [zfs, hi, zcf, hj, AH.sI, AH.wI, AH.I, va_up_self]
    · have e' : i ≠ j := fun q => e q.symm
      simp [e, zcf, AH.sI, AH.wI, AH.I, AH.L, AH.P, va_up_self, va_up_ne _ _ e']
  · have e1 : ∀ h : AH, (zfs b b0 h k c)[i]? = none := fun h => List.getElem?_eq_none_iff.mpr (by simp [zfs]; omega)
    rw [e1, e1]
    split <;> simp [zfs]
    omega
theorem zfs_sL {b b0 : Nat} {h : AH} {k c j : Nat} {x : Int64} (hj : zkd (zty c j) = 1) : (zfs b b0 h k c).set j (.long x) = zfs b b0 (h.sL k j x) k c := by
  apply List.ext_getElem?
  intro i
  rw [List.getElem?_set]
  by_cases hi : i < zN c
  · rw [zfs_get hi, zfs_get hi]
    by_cases e : j = i
    · subst e; simp [zfs, hi, zcf, hj, AH.sL, AH.wL, AH.L, va_up_self]
    · have e' : i ≠ j := fun q => e q.symm
      simp [e, zcf, AH.sL, AH.wL, AH.I, AH.L, AH.P, va_up_self, va_up_ne _ _ e']
  · have e1 : ∀ h : AH, (zfs b b0 h k c)[i]? = none := fun h => List.getElem?_eq_none_iff.mpr (by simp [zfs]; omega)
    rw [e1, e1]
    split <;> simp [zfs]
    omega
theorem zfs_sP {b b0 : Nat} {h : AH} {k c j : Nat} {x : Option Nat} (hj : zkd (zty c j) = 2) : (zfs b b0 h k c).set j (va_rf (x.map (zadr b b0))) = zfs b b0 (h.sP k j x) k c := by
  apply List.ext_getElem?
  intro i
  rw [List.getElem?_set]
  by_cases hi : i < zN c
  · rw [zfs_get hi, zfs_get hi]
    by_cases e : j = i
    · subst e; simp [zfs, hi, zcf, hj, AH.sP, AH.wP, AH.P, va_up_self]
    · have e' : i ≠ j := fun q => e q.symm
      simp [e, zcf, AH.sP, AH.wP, AH.I, AH.L, AH.P, va_up_self, va_up_ne _ _ e']
  · have e1 : ∀ h : AH, (zfs b b0 h k c)[i]? = none := fun h => List.getElem?_eq_none_iff.mpr (by simp [zfs]; omega)
    rw [e1, e1]
    split <;> simp [zfs]
    omega
