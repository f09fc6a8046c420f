/-- the law's own script: reference 0 -/
def zX (X : Option (Nat × (Nat → Int32))) (b b0 : Nat) (s : State) : Prop := match X with | none => True | some x => va_X b x.1 x.2 s s.heap ∧ b < s.heap.size ∧ b ≤ b0
def zC (M : Mth) (d : Nat) (X : Option (Nat × (Nat → Int32))) (b b0 : Nat) (dC : Nat → ClassId) (dI : Nat → Nat → Nat) (dA : Nat → ClassId) (p : Program) (l : Launch) (e : Env) (R : Room) (s : State) (m : MethodId) (args : Array Value) (below : List Frame) (meth : Method) (co : Code) : Prop :=
  p.tables.exec = Jvm.exec ∧ co.code = M.2.1 ∧ co.maxLocals = M.2.2.1 ∧ s.vm.findClass M.1.cls = some m.cls ∧ (∀ w ∈ zT, w.before args s = true) ∧ (M.1.name = "<init>" → meth.name = "<init>") ∧ d ≤ R.frames ∧ 60 * d ≤ R.locals ∧ b0 < s.heap.size ∧ va_K (dC, dI) vwCl (ztys dA) s ∧ zX X b b0 s ∧ va_AO RX8 s ∧ ∀ w ∈ zNest, va_Nw w s
def zH (b b0 : Nat) (dC : Nat → ClassId) (dI : Nat → Nat → Nat) (dA : Nat → ClassId) (s : State) (h : AH) (H : Heap) (locs : List Loc) (cells : Nat) : Prop :=
  va_P (dC, dI) vwCl (zw b b0 dA h) H ∧ va_S (fun q => b0 < q) s.heap H locs ∧ s.heap.size + cells = b0 + h.n
def zl (b b0 : Nat) (ls : List (Nat × Value)) : List (Nat × Value) := ls.map fun q => (q.1, zv b b0 q.2)
def zri (r : Option FieldType) : Instr := match r with | none => .return_ | some .long => .lreturn | some (.object _) => .areturn | some (.array _) => .areturn | some _ => .ireturn
/-- an answer that a method of that sort may give -/
def zret (r : Option FieldType) (v : Option Value) : Prop := match r, v with
  | none, none => True
  | some t, some (.int x) => narrow t (.int x) = .int x ∧ zri (some t) = .ireturn
  | some t, some (.long _) => t = .long
  | some t, some (.ref _) => (∃ n, t = .object n) ∨ ∃ u, t = .array u
  | some t, some .null => (∃ n, t = .object n) ∨ ∃ u, t = .array u
  | _, _ => False
def zSt (M : Mth) (h : AH) (r : Option Value) (h1 : AH) : Prop := h.n ≤ h1.n ∧ h.u ≤ h1.u ∧ (h.ok → h1.ok) ∧ zret M.2.2.2 r
/-- from (pc, ls, st, h) the method comes to its return with r over h1 -/
def zW (X : Option (Nat × (Nat → Int32))) (M : Mth) (d pc : Nat) (ls : List (Nat × Value)) (st : List Value) (h : AH) (r : Option Value) (h1 : AH) : Prop := zSt M h r h1 ∧
  (h.ok → ∀ (b b0 : Nat) (dC : Nat → ClassId) (dI : Nat → Nat → Nat) (dA : Nat → ClassId) (p : Program) (l : Launch) (e : Env) (R : Room) (s : State) (m : MethodId) (args : Array Value) (below : List Frame) (meth : Method) (co : Code) (H : Heap) (locs : List Loc) (cells slots : Nat) (lsA : Array Slot) (Q : State → Prop), zC M d X b b0 dC dI dA p l e R s m args below meth co → zH b b0 dC dI dA s h H locs cells → lv_has lsA M.2.2.1 (zl b b0 ls) → cells + (h1.n - h.n) ≤ R.cells → slots + (h1.u - h.u) ≤ R.slots →
    (∀ (H' : Heap) (locs' : List Loc) (pc' : Nat) (lsB : Array Slot), zH b b0 dC dI dA s h1 H' locs' (cells + (h1.n - h.n)) → decode M.2.1 pc' = .ok (zri M.2.2.2, 1) → W p l e R s m args below meth co H' locs' (cells + (h1.n - h.n)) (slots + (h1.u - h.u)) Q (F0 m pc' lsB (r.map (zv b b0)).toList)) →
    W p l e R s m args below meth co H locs cells slots Q (F0 m pc lsA (st.map (zv b b0))))
def zQ (X : Option (Nat × (Nat → Int32))) (M : Mth) (d pc : Nat) (ls : List (Nat × Value)) (st : List Value) (h : AH) (Qp : Option Value → AH → Prop) : Prop := ∃ r h1, zW X M d pc ls st h r h1 ∧ Qp r h1
theorem zl_at {b b0 : Nat} {ls : List (Nat × Value)} {k i : Nat} {v : Value} (h : ls[k]? = some (i, v)) : (zl b b0 ls)[k]? = some (i, zv b b0 v) := by simp [zl, h]
def zset1 (ls : List (Nat × Value)) (i : Nat) (v : Value) : List (Nat × Value) := (i, v) :: ls.filter (fun q => !(q.1 == i) && !(q.1 + 1 == i && q.2.category == 2))
def zset2 (ls : List (Nat × Value)) (i : Nat) (v : Value) : List (Nat × Value) := (i, v) :: ls.filter (fun q => !(q.1 == i) && (!(q.1 == i + 1) && !(q.1 + 1 == i && q.2.category == 2)))
theorem zl_set1 {b b0 : Nat} {ls : List (Nat × Value)} {i : Nat} {v : Value} : (i, zv b b0 v) :: (zl b b0 ls).filter (fun q => !(q.1 == i) && !(q.1 + 1 == i && q.2.category == 2)) = zl b b0 (zset1 ls i v) := by
  simp only [zl, zset1, List.map_cons, List.filter_map]
  congr 2
  apply List.filter_congr
  intro q _
  simp only [Function.comp, zv_cat]
theorem zl_set2 {b b0 : Nat} {ls : List (Nat × Value)} {i : Nat} {v : Value} : (i, zv b b0 v) :: (zl b b0 ls).filter (fun q => !(q.1 == i) && (!(q.1 == i + 1) && !(q.1 + 1 == i && q.2.category == 2))) = zl b b0 (zset2 ls i v) := by
  simp only [zl, zset2, List.map_cons, List.filter_map]
  congr 2
  apply List.filter_congr
  intro q _
  simp only [Function.comp, zv_cat]
theorem zl_sub {b b0 : Nat} {ls ls' : List (Nat × Value)} {ks : List Nat} (h : lv_pick ls ks = ls') : lv_pick (zl b b0 ls) ks = zl b b0 ls' := by
  subst h
  simp only [lv_pick, zl, List.map_filterMap]
  apply congrArg (fun f => List.filterMap f ks)
  funext k
  simp
theorem zSt.refl {M : Mth} {h : AH} {r : Option Value} (hr : zret M.2.2.2 r) : zSt M h r h := ⟨Nat.le_refl _, Nat.le_refl _, id, hr⟩
/-- a step that leaves the heap -/
theorem zq_move {X : Option (Nat × (Nat → Int32))} {M : Mth} {d pc pc' : Nat} {ls ls' : List (Nat × Value)} {st st' : List Value} {h : AH} {Qp : Option Value → AH → Prop}
    (hs : h.ok → ∀ (b b0 : Nat) (dC : Nat → ClassId) (dI : Nat → Nat → Nat) (dA : Nat → ClassId) (p : Program) (l : Launch) (e : Env) (R : Room) (s : State) (m : MethodId) (args : Array Value) (below : List Frame) (meth : Method) (co : Code) (H : Heap) (locs : List Loc) (cells slots : Nat) (lsA : Array Slot) (Q : State → Prop), zC M d X b b0 dC dI dA p l e R s m args below meth co → zH b b0 dC dI dA s h H locs cells → lv_has lsA M.2.2.1 (zl b b0 ls) →
      (∀ lsB : Array Slot, lv_has lsB M.2.2.1 (zl b b0 ls') → W p l e R s m args below meth co H locs cells slots Q (F0 m pc' lsB (st'.map (zv b b0)))) → W p l e R s m args below meth co H locs cells slots Q (F0 m pc lsA (st.map (zv b b0))))
    (k : zQ X M d pc' ls' st' h Qp) : zQ X M d pc ls st h Qp := by
  obtain ⟨r, h1, ⟨hst, hw⟩, hq⟩ := k
  exact ⟨r, h1, ⟨hst, fun hok b b0 dC dI dA p l e R s m args below meth co H locs cells slots lsA Q hC hH hl h2 h3 he => hs hok b b0 dC dI dA p l e R s m args below meth co H locs cells slots lsA Q hC hH hl fun lsB hlB => hw hok b b0 dC dI dA p l e R s m args below meth co H locs cells slots lsB Q hC hH hlB h2 h3 he⟩, hq⟩
/-- a step that moves the heap, and makes nothing -/
theorem zq_heap {X : Option (Nat × (Nat → Int32))} {M : Mth} {d pc pc' : Nat} {ls : List (Nat × Value)} {st st' : List Value} {h h' : AH} {Qp : Option Value → AH → Prop} (hn : h'.n = h.n) (hu : h'.u = h.u) (hk : h.ok → h'.ok)
    (hs : h.ok → ∀ (b b0 : Nat) (dC : Nat → ClassId) (dI : Nat → Nat → Nat) (dA : Nat → ClassId) (p : Program) (l : Launch) (e : Env) (R : Room) (s : State) (m : MethodId) (args : Array Value) (below : List Frame) (meth : Method) (co : Code) (H : Heap) (locs : List Loc) (cells slots : Nat) (lsA : Array Slot) (Q : State → Prop), zC M d X b b0 dC dI dA p l e R s m args below meth co → zH b b0 dC dI dA s h H locs cells → lv_has lsA M.2.2.1 (zl b b0 ls) →
      (∀ (H' : Heap) (locs' : List Loc), va_P (dC, dI) vwCl (zw b b0 dA h') H' → va_S (fun q => b0 < q) s.heap H' locs' → W p l e R s m args below meth co H' locs' cells slots Q (F0 m pc' lsA (st'.map (zv b b0)))) → W p l e R s m args below meth co H locs cells slots Q (F0 m pc lsA (st.map (zv b b0))))
    (k : zQ X M d pc' ls st' h' Qp) : zQ X M d pc ls st h Qp := by
  obtain ⟨r, h1, ⟨⟨s1, s2, s3, s4⟩, hw⟩, hq⟩ := k
  rw [hn] at s1
  rw [hu] at s2
  rw [hn, hu] at hw
  exact ⟨r, h1, ⟨⟨s1, s2, fun z => s3 (hk z), s4⟩, fun hok b b0 dC dI dA p l e R s m args below meth co H locs cells slots lsA Q hC hH hl h2 h3 he => hs hok b b0 dC dI dA p l e R s m args below meth co H locs cells slots lsA Q hC hH hl fun H' locs' a1 a2 => hw (hk hok) b b0 dC dI dA p l e R s m args below meth co H' locs' cells slots lsA Q hC ⟨a1, a2, by rw [hn]; exact hH.2.2⟩ hl h2 h3 he⟩, hq⟩
/-- the heap's size, from the cells that were made -/
theorem zsz {b b0 : Nat} {dC : Nat → ClassId} {dI : Nat → Nat → Nat} {dA : Nat → ClassId} {p : Program} {l : Launch} {e : Env} {R : Room} {s : State} {m : MethodId} {args : Array Value} {below : List Frame} {meth : Method} {co : Code} {H : Heap} {locs : List Loc} {cells slots : Nat} {Q : State → Prop} {g : JFrame} {h : AH} (hok : h.ok) (hbs : b0 < s.heap.size) (hH : zH b b0 dC dI dA s h H locs cells)
    (k : H.size = b0 + h.n → W p l e R s m args below meth co H locs cells slots Q g) : W p l e R s m args below meth co H locs cells slots Q g := by
  intro T hT X
  have h1 := X.heapSize
  rw [hT] at h1
  have h2 := hH.2.1.1
  have h3 := hH.2.2
  have h4 := hok.1
  refine k ?_ T hT X
  by_cases hn : h.n = 1
  · omega
  · have h5 := (hH.1 (h.n - 2) _ (zw_get (by omega))).lt
    simp only at h5
    omega
theorem zfresh {b b0 : Nat} {dC : Nat → ClassId} {dI : Nat → Nat → Nat} {dA : Nat → ClassId} {p : Program} {l : Launch} {e : Env} {R : Room} {s : State} {m : MethodId} {args : Array Value} {below : List Frame} {meth : Method} {co : Code} {H1 : Heap} {locs : List Loc} {cells slots : Nat} {Q : State → Prop} {g : JFrame} {h : AH} {q : Nat} {x : va_E} (hok : h.ok) (hc : s.heap.size + cells = b0 + h.n) (hP : va_P (dC, dI) vwCl (zw b b0 dA h ++ [(q, x)]) H1) (hD : va_D (fun q => b0 < q) (zw b b0 dA h ++ [(q, x)]))
    (k : q = b0 + h.n → W p l e R s m args below meth co H1 locs (cells + 1) slots Q g) : W p l e R s m args below meth co H1 locs (cells + 1) slots Q g := by
  intro T hT X
  have h1 := X.heapSize
  rw [hT] at h1
  have h4 := hok.1
  have hq : (zw b b0 dA h ++ [(q, x)])[h.n - 1]? = some (q, x) := by
    rw [List.getElem?_append_right (by rw [zw_len]; omega), zw_len, Nat.sub_self]; rfl
  have h5 := (hP _ _ hq).lt
  have h6 := hD.2 _ _ hq
  simp only at h5 h6
  refine k ?_ T hT X
  apply Classical.byContradiction
  intro hne
  have hlt : q - b0 - 1 < h.n - 1 := by omega
  have h7 : (zw b b0 dA h ++ [(q, x)])[q - b0 - 1]? = some (b0 + (q - b0 - 1 + 1), zcell b b0 dA h (q - b0 - 1 + 1)) := by
    rw [List.getElem?_append_left (by rw [zw_len]; exact hlt)]; exact zw_get hlt
  have h8 := hD.1 _ _ _ _ h7 hq (by simp only; omega)
  omega
/-! returns -/
theorem zq_ret {X : Option (Nat × (Nat → Int32))} {M : Mth} {d pc : Nat} {ls : List (Nat × Value)} {h : AH} {Qp : Option Value → AH → Prop} (r : Option Value) (hd : decode M.2.1 pc = .ok (zri M.2.2.2, 1)) (hr : zret M.2.2.2 r) (hq : Qp r h) : zQ X M d pc ls r.toList h Qp := by
  refine ⟨r, h, ⟨zSt.refl hr, fun hok b b0 dC dI dA p l e R s m args below meth co H locs cells slots lsA Q hC hH hl h2 h3 he => ?_⟩, hq⟩
  have e := he H locs pc lsA (by rw [Nat.sub_self]; exact hH) hd
  rw [Nat.sub_self, Nat.sub_self] at e
  have e2 : (r.map (zv b b0)).toList = r.toList.map (zv b b0) := by cases r <;> rfl
  rw [e2] at e
  exact e
theorem zq_iret {X : Option (Nat × (Nat → Int32))} {M : Mth} {d pc : Nat} {ls : List (Nat × Value)} {h : AH} {Qp : Option Value → AH → Prop} {x : Int32} {t : FieldType} (hd : decode M.2.1 pc = .ok (.ireturn, 1)) (hm : M.2.2.2 = some t) (ht : zri (some t) = .ireturn) (hn : narrow t (.int x) = .int x) (hq : Qp (some (.int x)) h) : zQ X M d pc ls [.int x] h Qp :=
  zq_ret (some (.int x)) (by rw [hm, ht]; exact hd) (by rw [hm]; exact ⟨hn, ht⟩) hq
theorem zq_lret {X : Option (Nat × (Nat → Int32))} {M : Mth} {d pc : Nat} {ls : List (Nat × Value)} {h : AH} {Qp : Option Value → AH → Prop} {x : Int64} (hd : decode M.2.1 pc = .ok (.lreturn, 1)) (hm : M.2.2.2 = some .long) (hq : Qp (some (.long x)) h) : zQ X M d pc ls [.long x] h Qp :=
  zq_ret (some (.long x)) (by rw [hm]; exact hd) (by rw [hm]; exact rfl) hq
theorem zq_vret {X : Option (Nat × (Nat → Int32))} {M : Mth} {d pc : Nat} {ls : List (Nat × Value)} {h : AH} {Qp : Option Value → AH → Prop} (hd : decode M.2.1 pc = .ok (.return_, 1)) (hm : M.2.2.2 = none) (hq : Qp none h) : zQ X M d pc ls [] h Qp :=
  zq_ret none (by rw [hm]; exact hd) (by rw [hm]; exact trivial) hq
theorem zq_aret {X : Option (Nat × (Nat → Int32))} {M : Mth} {d pc : Nat} {ls : List (Nat × Value)} {h : AH} {Qp : Option Value → AH → Prop} {k : Nat} {t : FieldType} (hd : decode M.2.1 pc = .ok (.areturn, 1)) (hm : M.2.2.2 = some t) (ht : zkd t = 2) (hq : Qp (some (.ref k)) h) : zQ X M d pc ls [.ref k] h Qp := by
  have h2 : (∃ n, t = .object n) ∨ ∃ u, t = .array u := by
    cases t <;> simp [zkd] at ht
    · exact Or.inl ⟨_, rfl⟩
    · exact Or.inr ⟨_, rfl⟩
  refine zq_ret (some (.ref k)) ?_ (by rw [hm]; exact h2) hq
  rw [hm]
  rcases h2 with ⟨n, rfl⟩ | ⟨u, rfl⟩ <;> exact hd
theorem zq_aretN {X : Option (Nat × (Nat → Int32))} {M : Mth} {d pc : Nat} {ls : List (Nat × Value)} {h : AH} {Qp : Option Value → AH → Prop} {t : FieldType} (hd : decode M.2.1 pc = .ok (.areturn, 1)) (hm : M.2.2.2 = some t) (ht : zkd t = 2) (hq : Qp (some .null) h) : zQ X M d pc ls [.null] h Qp := by
  have h2 : (∃ n, t = .object n) ∨ ∃ u, t = .array u := by
    cases t <;> simp [zkd] at ht
    · exact Or.inl ⟨_, rfl⟩
    · exact Or.inr ⟨_, rfl⟩
  refine zq_ret (some .null) ?_ (by rw [hm]; exact h2) hq
  rw [hm]
  rcases h2 with ⟨n, rfl⟩ | ⟨u, rfl⟩ <;> exact hd
/-- fewer known locals, in another order -/
theorem zq_sub {X : Option (Nat × (Nat → Int32))} {M : Mth} {d pc : Nat} {ls ls' : List (Nat × Value)} {st : List Value} {h : AH} {Qp : Option Value → AH → Prop} (ks : List Nat) (hk : lv_pick ls ks = ls') (kk : zQ X M d pc ls' st h Qp) : zQ X M d pc ls st h Qp :=
  zq_move (fun _ b b0 dC dI dA p l e R s m args below meth co H locs cells slots lsA Q _ _ hl k => k lsA (lv_sub hl ks (zl_sub hk))) kk
theorem zq_mono {X : Option (Nat × (Nat → Int32))} {M : Mth} {d pc : Nat} {ls : List (Nat × Value)} {st : List Value} {h : AH} {Qp Qp' : Option Value → AH → Prop} (k : zQ X M d pc ls st h Qp) (hm : ∀ r h', Qp r h' → Qp' r h') : zQ X M d pc ls st h Qp' := by
  obtain ⟨r, h1, a, q⟩ := k
  exact ⟨r, h1, a, hm _ _ q⟩
/-! one rule an instruction -/
theorem zq_iconst {X : Option (Nat × (Nat → Int32))} {M : Mth} {d pc : Nat} {ls : List (Nat × Value)} {st : List Value} {h : AH} {Qp : Option Value → AH → Prop} {n : Int} {v : Int32} (hv : Int32.ofInt n = v) (hd : decode M.2.1 pc = .ok (.iconst n, 1)) (kk : zQ X M d (pc + 1) ls (.int v :: st) h Qp) : zQ X M d pc ls (st) h Qp :=
  zq_move (fun _ b b0 dC dI dA p l e R s m args below meth co H locs cells slots lsA Q hC _ hl k => lv_iconst hC.1 hC.2.1 hd hv (k lsA hl)) kk
theorem zq_bipush {X : Option (Nat × (Nat → Int32))} {M : Mth} {d pc : Nat} {ls : List (Nat × Value)} {st : List Value} {h : AH} {Qp : Option Value → AH → Prop} {n : Int} {v : Int32} (hv : (Int8.ofInt n).toInt32 = v) (hd : decode M.2.1 pc = .ok (.bipush n, 2)) (kk : zQ X M d (pc + 2) ls (.int v :: st) h Qp) : zQ X M d pc ls (st) h Qp :=
  zq_move (fun _ b b0 dC dI dA p l e R s m args below meth co H locs cells slots lsA Q hC _ hl k => lv_bipush hC.1 hC.2.1 hd hv (k lsA hl)) kk
theorem zq_sipush {X : Option (Nat × (Nat → Int32))} {M : Mth} {d pc : Nat} {ls : List (Nat × Value)} {st : List Value} {h : AH} {Qp : Option Value → AH → Prop} {n : Int} {v : Int32} (hv : (Int16.ofInt n).toInt32 = v) (hd : decode M.2.1 pc = .ok (.sipush n, 3)) (kk : zQ X M d (pc + 3) ls (.int v :: st) h Qp) : zQ X M d pc ls (st) h Qp :=
  zq_move (fun _ b b0 dC dI dA p l e R s m args below meth co H locs cells slots lsA Q hC _ hl k => lv_sipush hC.1 hC.2.1 hd hv (k lsA hl)) kk
theorem zq_lconst {X : Option (Nat × (Nat → Int32))} {M : Mth} {d pc : Nat} {ls : List (Nat × Value)} {st : List Value} {h : AH} {Qp : Option Value → AH → Prop} {n : Fin 2} {v : Int64} (hv : Int64.ofNat (n : Nat) = v) (hd : decode M.2.1 pc = .ok (.lconst n, 1)) (kk : zQ X M d (pc + 1) ls (.long v :: st) h Qp) : zQ X M d pc ls (st) h Qp :=
  zq_move (fun _ b b0 dC dI dA p l e R s m args below meth co H locs cells slots lsA Q hC _ hl k => lv_lconst hC.1 hC.2.1 hd hv (k lsA hl)) kk
theorem zq_iload_n {X : Option (Nat × (Nat → Int32))} {M : Mth} {d pc : Nat} {ls : List (Nat × Value)} {st : List Value} {h : AH} {Qp : Option Value → AH → Prop} {k : Fin 4} {i : Nat} {x : Int32} (g : Nat) (hi : (k : Nat) = i) (hg : ls[g]? = some (i, .int x)) (hd : decode M.2.1 pc = .ok (.iload_n k, 1)) (kk : zQ X M d (pc + 1) ls (.int x :: st) h Qp) : zQ X M d pc ls (st) h Qp :=
  zq_move (fun _ b b0 dC dI dA p l e R s m args below meth co H locs cells slots lsA Q hC _ hl k => lv_iload_n hC.1 hC.2.1 hd hi (lv_at hl g (zl_at hg)) (k lsA hl)) kk
theorem zq_iload {X : Option (Nat × (Nat → Int32))} {M : Mth} {d pc : Nat} {ls : List (Nat × Value)} {st : List Value} {h : AH} {Qp : Option Value → AH → Prop} {i : Nat} {x : Int32} (g : Nat) (hg : ls[g]? = some (i, .int x)) (hd : decode M.2.1 pc = .ok (.iload i, 2)) (kk : zQ X M d (pc + 2) ls (.int x :: st) h Qp) : zQ X M d pc ls (st) h Qp :=
  zq_move (fun _ b b0 dC dI dA p l e R s m args below meth co H locs cells slots lsA Q hC _ hl k => lv_iload hC.1 hC.2.1 hd (lv_at hl g (zl_at hg)) (k lsA hl)) kk
theorem zq_lload_n {X : Option (Nat × (Nat → Int32))} {M : Mth} {d pc : Nat} {ls : List (Nat × Value)} {st : List Value} {h : AH} {Qp : Option Value → AH → Prop} {k : Fin 4} {i : Nat} {x : Int64} (g : Nat) (hi : (k : Nat) = i) (hg : ls[g]? = some (i, .long x)) (hd : decode M.2.1 pc = .ok (.lload_n k, 1)) (kk : zQ X M d (pc + 1) ls (.long x :: st) h Qp) : zQ X M d pc ls (st) h Qp :=
  zq_move (fun _ b b0 dC dI dA p l e R s m args below meth co H locs cells slots lsA Q hC _ hl k => lv_lload_n hC.1 hC.2.1 hd hi (lv_at hl g (zl_at hg)) (k lsA hl)) kk
theorem zq_lload {X : Option (Nat × (Nat → Int32))} {M : Mth} {d pc : Nat} {ls : List (Nat × Value)} {st : List Value} {h : AH} {Qp : Option Value → AH → Prop} {i : Nat} {x : Int64} (g : Nat) (hg : ls[g]? = some (i, .long x)) (hd : decode M.2.1 pc = .ok (.lload i, 2)) (kk : zQ X M d (pc + 2) ls (.long x :: st) h Qp) : zQ X M d pc ls (st) h Qp :=
  zq_move (fun _ b b0 dC dI dA p l e R s m args below meth co H locs cells slots lsA Q hC _ hl k => lv_lload hC.1 hC.2.1 hd (lv_at hl g (zl_at hg)) (k lsA hl)) kk
theorem zq_aload_n {X : Option (Nat × (Nat → Int32))} {M : Mth} {d pc : Nat} {ls : List (Nat × Value)} {st : List Value} {h : AH} {Qp : Option Value → AH → Prop} {k : Fin 4} {i : Nat} {x : Nat} (g : Nat) (hi : (k : Nat) = i) (hg : ls[g]? = some (i, .ref x)) (hd : decode M.2.1 pc = .ok (.aload_n k, 1)) (kk : zQ X M d (pc + 1) ls (.ref x :: st) h Qp) : zQ X M d pc ls (st) h Qp :=
  zq_move (fun _ b b0 dC dI dA p l e R s m args below meth co H locs cells slots lsA Q hC _ hl k => lv_aload_n hC.1 hC.2.1 hd hi (lv_at hl g (zl_at hg)) (k lsA hl)) kk
theorem zq_aload {X : Option (Nat × (Nat → Int32))} {M : Mth} {d pc : Nat} {ls : List (Nat × Value)} {st : List Value} {h : AH} {Qp : Option Value → AH → Prop} {i : Nat} {x : Nat} (g : Nat) (hg : ls[g]? = some (i, .ref x)) (hd : decode M.2.1 pc = .ok (.aload i, 2)) (kk : zQ X M d (pc + 2) ls (.ref x :: st) h Qp) : zQ X M d pc ls (st) h Qp :=
  zq_move (fun _ b b0 dC dI dA p l e R s m args below meth co H locs cells slots lsA Q hC _ hl k => lv_aload hC.1 hC.2.1 hd (lv_at hl g (zl_at hg)) (k lsA hl)) kk
theorem zq_aload_nN {X : Option (Nat × (Nat → Int32))} {M : Mth} {d pc : Nat} {ls : List (Nat × Value)} {st : List Value} {h : AH} {Qp : Option Value → AH → Prop} {k : Fin 4} {i : Nat} (g : Nat) (hi : (k : Nat) = i) (hg : ls[g]? = some (i, .null)) (hd : decode M.2.1 pc = .ok (.aload_n k, 1)) (kk : zQ X M d (pc + 1) ls (.null :: st) h Qp) : zQ X M d pc ls (st) h Qp :=
  zq_move (fun _ b b0 dC dI dA p l e R s m args below meth co H locs cells slots lsA Q hC _ hl k => lv_aload_nN hC.1 hC.2.1 hd hi (lv_at hl g (zl_at hg)) (k lsA hl)) kk
theorem zq_aloadN {X : Option (Nat × (Nat → Int32))} {M : Mth} {d pc : Nat} {ls : List (Nat × Value)} {st : List Value} {h : AH} {Qp : Option Value → AH → Prop} {i : Nat} (g : Nat) (hg : ls[g]? = some (i, .null)) (hd : decode M.2.1 pc = .ok (.aload i, 2)) (kk : zQ X M d (pc + 2) ls (.null :: st) h Qp) : zQ X M d pc ls (st) h Qp :=
  zq_move (fun _ b b0 dC dI dA p l e R s m args below meth co H locs cells slots lsA Q hC _ hl k => lv_aloadN hC.1 hC.2.1 hd (lv_at hl g (zl_at hg)) (k lsA hl)) kk
theorem zq_istore_n {X : Option (Nat × (Nat → Int32))} {M : Mth} {d pc : Nat} {ls : List (Nat × Value)} {st : List Value} {h : AH} {Qp : Option Value → AH → Prop} {k : Fin 4} {i : Nat} {x : Int32} {ls' : List (Nat × Value)} (hi : (k : Nat) = i) (hn : i < M.2.2.1) (hs : zset1 ls i (.int x) = ls') (hd : decode M.2.1 pc = .ok (.istore_n k, 1)) (kk : zQ X M d (pc + 1) ls' st h Qp) : zQ X M d pc ls (.int x :: st) h Qp :=
  zq_move (fun _ b b0 dC dI dA p l e R s m args below meth co H locs cells slots lsA Q hC _ hl k => lv_istore_n (lv' := zl b b0 ls') hC.1 hC.2.1 hd hi hl hn (hs ▸ zl_set1 (v := .int x)) k) kk
theorem zq_istore {X : Option (Nat × (Nat → Int32))} {M : Mth} {d pc : Nat} {ls : List (Nat × Value)} {st : List Value} {h : AH} {Qp : Option Value → AH → Prop} {i : Nat} {x : Int32} {ls' : List (Nat × Value)} (hn : i < M.2.2.1) (hs : zset1 ls i (.int x) = ls') (hd : decode M.2.1 pc = .ok (.istore i, 2)) (kk : zQ X M d (pc + 2) ls' st h Qp) : zQ X M d pc ls (.int x :: st) h Qp :=
  zq_move (fun _ b b0 dC dI dA p l e R s m args below meth co H locs cells slots lsA Q hC _ hl k => lv_istore (lv' := zl b b0 ls') hC.1 hC.2.1 hd hl hn (hs ▸ zl_set1 (v := .int x)) k) kk
theorem zq_lstore_n {X : Option (Nat × (Nat → Int32))} {M : Mth} {d pc : Nat} {ls : List (Nat × Value)} {st : List Value} {h : AH} {Qp : Option Value → AH → Prop} {k : Fin 4} {i : Nat} {x : Int64} {ls' : List (Nat × Value)} (hi : (k : Nat) = i) (hn : i + 1 < M.2.2.1) (hs : zset2 ls i (.long x) = ls') (hd : decode M.2.1 pc = .ok (.lstore_n k, 1)) (kk : zQ X M d (pc + 1) ls' st h Qp) : zQ X M d pc ls (.long x :: st) h Qp :=
  zq_move (fun _ b b0 dC dI dA p l e R s m args below meth co H locs cells slots lsA Q hC _ hl k => lv_lstore_n (lv' := zl b b0 ls') hC.1 hC.2.1 hd hi hl hn (hs ▸ zl_set2 (v := .long x)) k) kk
theorem zq_lstore {X : Option (Nat × (Nat → Int32))} {M : Mth} {d pc : Nat} {ls : List (Nat × Value)} {st : List Value} {h : AH} {Qp : Option Value → AH → Prop} {i : Nat} {x : Int64} {ls' : List (Nat × Value)} (hn : i + 1 < M.2.2.1) (hs : zset2 ls i (.long x) = ls') (hd : decode M.2.1 pc = .ok (.lstore i, 2)) (kk : zQ X M d (pc + 2) ls' st h Qp) : zQ X M d pc ls (.long x :: st) h Qp :=
  zq_move (fun _ b b0 dC dI dA p l e R s m args below meth co H locs cells slots lsA Q hC _ hl k => lv_lstore (lv' := zl b b0 ls') hC.1 hC.2.1 hd hl hn (hs ▸ zl_set2 (v := .long x)) k) kk
theorem zq_astore_n {X : Option (Nat × (Nat → Int32))} {M : Mth} {d pc : Nat} {ls : List (Nat × Value)} {st : List Value} {h : AH} {Qp : Option Value → AH → Prop} {k : Fin 4} {i : Nat} {x : Nat} {ls' : List (Nat × Value)} (hi : (k : Nat) = i) (hn : i < M.2.2.1) (hs : zset1 ls i (.ref x) = ls') (hd : decode M.2.1 pc = .ok (.astore_n k, 1)) (kk : zQ X M d (pc + 1) ls' st h Qp) : zQ X M d pc ls (.ref x :: st) h Qp :=
  zq_move (fun _ b b0 dC dI dA p l e R s m args below meth co H locs cells slots lsA Q hC _ hl k => lv_astore_n (lv' := zl b b0 ls') hC.1 hC.2.1 hd hi hl hn (hs ▸ zl_set1 (v := .ref x)) k) kk
theorem zq_astore {X : Option (Nat × (Nat → Int32))} {M : Mth} {d pc : Nat} {ls : List (Nat × Value)} {st : List Value} {h : AH} {Qp : Option Value → AH → Prop} {i : Nat} {x : Nat} {ls' : List (Nat × Value)} (hn : i < M.2.2.1) (hs : zset1 ls i (.ref x) = ls') (hd : decode M.2.1 pc = .ok (.astore i, 2)) (kk : zQ X M d (pc + 2) ls' st h Qp) : zQ X M d pc ls (.ref x :: st) h Qp :=
  zq_move (fun _ b b0 dC dI dA p l e R s m args below meth co H locs cells slots lsA Q hC _ hl k => lv_astore (lv' := zl b b0 ls') hC.1 hC.2.1 hd hl hn (hs ▸ zl_set1 (v := .ref x)) k) kk
theorem zq_astore_nN {X : Option (Nat × (Nat → Int32))} {M : Mth} {d pc : Nat} {ls : List (Nat × Value)} {st : List Value} {h : AH} {Qp : Option Value → AH → Prop} {k : Fin 4} {i : Nat} {ls' : List (Nat × Value)} (hi : (k : Nat) = i) (hn : i < M.2.2.1) (hs : zset1 ls i .null = ls') (hd : decode M.2.1 pc = .ok (.astore_n k, 1)) (kk : zQ X M d (pc + 1) ls' st h Qp) : zQ X M d pc ls (.null :: st) h Qp :=
  zq_move (fun _ b b0 dC dI dA p l e R s m args below meth co H locs cells slots lsA Q hC _ hl k => lv_astore_nN (lv' := zl b b0 ls') hC.1 hC.2.1 hd hi hl hn (hs ▸ zl_set1 (v := .null)) k) kk
theorem zq_astoreN {X : Option (Nat × (Nat → Int32))} {M : Mth} {d pc : Nat} {ls : List (Nat × Value)} {st : List Value} {h : AH} {Qp : Option Value → AH → Prop} {i : Nat} {ls' : List (Nat × Value)} (hn : i < M.2.2.1) (hs : zset1 ls i .null = ls') (hd : decode M.2.1 pc = .ok (.astore i, 2)) (kk : zQ X M d (pc + 2) ls' st h Qp) : zQ X M d pc ls (.null :: st) h Qp :=
  zq_move (fun _ b b0 dC dI dA p l e R s m args below meth co H locs cells slots lsA Q hC _ hl k => lv_astoreN (lv' := zl b b0 ls') hC.1 hC.2.1 hd hl hn (hs ▸ zl_set1 (v := .null)) k) kk
theorem zq_iinc {X : Option (Nat × (Nat → Int32))} {M : Mth} {d pc : Nat} {ls : List (Nat × Value)} {st : List Value} {h : AH} {Qp : Option Value → AH → Prop} {i : Nat} {n : Int} {x v : Int32} {ls' : List (Nat × Value)} (g : Nat) (hg : ls[g]? = some (i, .int x)) (hv : Int32.ofInt n = v) (hn : i < M.2.2.1) (hs : zset1 ls i (.int (x + v)) = ls') (hd : decode M.2.1 pc = .ok (.iinc i n, 3)) (kk : zQ X M d (pc + 3) ls' st h Qp) : zQ X M d pc ls st h Qp :=
  zq_move (fun _ b b0 dC dI dA p l e R s m args below meth co H locs cells slots lsA Q hC _ hl k => lv_iinc (v := x + v) (lv' := zl b b0 ls') hC.1 hC.2.1 hd hl (zl_at hg) (by rw [hv]) hn (hs ▸ zl_set1 (v := .int (x + v))) k) kk
theorem zq_iadd {X : Option (Nat × (Nat → Int32))} {M : Mth} {d pc : Nat} {ls : List (Nat × Value)} {st : List Value} {h : AH} {Qp : Option Value → AH → Prop} {x y : Int32}  (hd : decode M.2.1 pc = .ok (.iadd, 1)) (kk : zQ X M d (pc + 1) ls (.int (x + y) :: st) h Qp) : zQ X M d pc ls (.int y :: .int x :: st) h Qp :=
  zq_move (fun _ b b0 dC dI dA p l e R s m args below meth co H locs cells slots lsA Q hC _ hl k => lv_iadd hC.1 hC.2.1 hd (k lsA hl)) kk
theorem zq_isub {X : Option (Nat × (Nat → Int32))} {M : Mth} {d pc : Nat} {ls : List (Nat × Value)} {st : List Value} {h : AH} {Qp : Option Value → AH → Prop} {x y : Int32}  (hd : decode M.2.1 pc = .ok (.isub, 1)) (kk : zQ X M d (pc + 1) ls (.int (x - y) :: st) h Qp) : zQ X M d pc ls (.int y :: .int x :: st) h Qp :=
  zq_move (fun _ b b0 dC dI dA p l e R s m args below meth co H locs cells slots lsA Q hC _ hl k => lv_isub hC.1 hC.2.1 hd (k lsA hl)) kk
theorem zq_imul {X : Option (Nat × (Nat → Int32))} {M : Mth} {d pc : Nat} {ls : List (Nat × Value)} {st : List Value} {h : AH} {Qp : Option Value → AH → Prop} {x y : Int32}  (hd : decode M.2.1 pc = .ok (.imul, 1)) (kk : zQ X M d (pc + 1) ls (.int (x * y) :: st) h Qp) : zQ X M d pc ls (.int y :: .int x :: st) h Qp :=
  zq_move (fun _ b b0 dC dI dA p l e R s m args below meth co H locs cells slots lsA Q hC _ hl k => lv_imul hC.1 hC.2.1 hd (k lsA hl)) kk
theorem zq_iand {X : Option (Nat × (Nat → Int32))} {M : Mth} {d pc : Nat} {ls : List (Nat × Value)} {st : List Value} {h : AH} {Qp : Option Value → AH → Prop} {x y : Int32}  (hd : decode M.2.1 pc = .ok (.iand, 1)) (kk : zQ X M d (pc + 1) ls (.int (x &&& y) :: st) h Qp) : zQ X M d pc ls (.int y :: .int x :: st) h Qp :=
  zq_move (fun _ b b0 dC dI dA p l e R s m args below meth co H locs cells slots lsA Q hC _ hl k => lv_iand hC.1 hC.2.1 hd (k lsA hl)) kk
theorem zq_ior {X : Option (Nat × (Nat → Int32))} {M : Mth} {d pc : Nat} {ls : List (Nat × Value)} {st : List Value} {h : AH} {Qp : Option Value → AH → Prop} {x y : Int32}  (hd : decode M.2.1 pc = .ok (.ior, 1)) (kk : zQ X M d (pc + 1) ls (.int (x ||| y) :: st) h Qp) : zQ X M d pc ls (.int y :: .int x :: st) h Qp :=
  zq_move (fun _ b b0 dC dI dA p l e R s m args below meth co H locs cells slots lsA Q hC _ hl k => lv_ior hC.1 hC.2.1 hd (k lsA hl)) kk
theorem zq_ixor {X : Option (Nat × (Nat → Int32))} {M : Mth} {d pc : Nat} {ls : List (Nat × Value)} {st : List Value} {h : AH} {Qp : Option Value → AH → Prop} {x y : Int32}  (hd : decode M.2.1 pc = .ok (.ixor, 1)) (kk : zQ X M d (pc + 1) ls (.int (x ^^^ y) :: st) h Qp) : zQ X M d pc ls (.int y :: .int x :: st) h Qp :=
  zq_move (fun _ b b0 dC dI dA p l e R s m args below meth co H locs cells slots lsA Q hC _ hl k => lv_ixor hC.1 hC.2.1 hd (k lsA hl)) kk
theorem zq_ladd {X : Option (Nat × (Nat → Int32))} {M : Mth} {d pc : Nat} {ls : List (Nat × Value)} {st : List Value} {h : AH} {Qp : Option Value → AH → Prop} {x y : Int64}  (hd : decode M.2.1 pc = .ok (.ladd, 1)) (kk : zQ X M d (pc + 1) ls (.long (x + y) :: st) h Qp) : zQ X M d pc ls (.long y :: .long x :: st) h Qp :=
  zq_move (fun _ b b0 dC dI dA p l e R s m args below meth co H locs cells slots lsA Q hC _ hl k => lv_ladd hC.1 hC.2.1 hd (k lsA hl)) kk
theorem zq_lsub {X : Option (Nat × (Nat → Int32))} {M : Mth} {d pc : Nat} {ls : List (Nat × Value)} {st : List Value} {h : AH} {Qp : Option Value → AH → Prop} {x y : Int64}  (hd : decode M.2.1 pc = .ok (.lsub, 1)) (kk : zQ X M d (pc + 1) ls (.long (x - y) :: st) h Qp) : zQ X M d pc ls (.long y :: .long x :: st) h Qp :=
  zq_move (fun _ b b0 dC dI dA p l e R s m args below meth co H locs cells slots lsA Q hC _ hl k => lv_lsub hC.1 hC.2.1 hd (k lsA hl)) kk
theorem zq_lmul {X : Option (Nat × (Nat → Int32))} {M : Mth} {d pc : Nat} {ls : List (Nat × Value)} {st : List Value} {h : AH} {Qp : Option Value → AH → Prop} {x y : Int64}  (hd : decode M.2.1 pc = .ok (.lmul, 1)) (kk : zQ X M d (pc + 1) ls (.long (x * y) :: st) h Qp) : zQ X M d pc ls (.long y :: .long x :: st) h Qp :=
  zq_move (fun _ b b0 dC dI dA p l e R s m args below meth co H locs cells slots lsA Q hC _ hl k => lv_lmul hC.1 hC.2.1 hd (k lsA hl)) kk
theorem zq_land {X : Option (Nat × (Nat → Int32))} {M : Mth} {d pc : Nat} {ls : List (Nat × Value)} {st : List Value} {h : AH} {Qp : Option Value → AH → Prop} {x y : Int64}  (hd : decode M.2.1 pc = .ok (.land, 1)) (kk : zQ X M d (pc + 1) ls (.long (x &&& y) :: st) h Qp) : zQ X M d pc ls (.long y :: .long x :: st) h Qp :=
  zq_move (fun _ b b0 dC dI dA p l e R s m args below meth co H locs cells slots lsA Q hC _ hl k => lv_land hC.1 hC.2.1 hd (k lsA hl)) kk
theorem zq_lor {X : Option (Nat × (Nat → Int32))} {M : Mth} {d pc : Nat} {ls : List (Nat × Value)} {st : List Value} {h : AH} {Qp : Option Value → AH → Prop} {x y : Int64}  (hd : decode M.2.1 pc = .ok (.lor, 1)) (kk : zQ X M d (pc + 1) ls (.long (x ||| y) :: st) h Qp) : zQ X M d pc ls (.long y :: .long x :: st) h Qp :=
  zq_move (fun _ b b0 dC dI dA p l e R s m args below meth co H locs cells slots lsA Q hC _ hl k => lv_lor hC.1 hC.2.1 hd (k lsA hl)) kk
theorem zq_lxor {X : Option (Nat × (Nat → Int32))} {M : Mth} {d pc : Nat} {ls : List (Nat × Value)} {st : List Value} {h : AH} {Qp : Option Value → AH → Prop} {x y : Int64}  (hd : decode M.2.1 pc = .ok (.lxor, 1)) (kk : zQ X M d (pc + 1) ls (.long (x ^^^ y) :: st) h Qp) : zQ X M d pc ls (.long y :: .long x :: st) h Qp :=
  zq_move (fun _ b b0 dC dI dA p l e R s m args below meth co H locs cells slots lsA Q hC _ hl k => lv_lxor hC.1 hC.2.1 hd (k lsA hl)) kk
theorem zq_idiv {X : Option (Nat × (Nat → Int32))} {M : Mth} {d pc : Nat} {ls : List (Nat × Value)} {st : List Value} {h : AH} {Qp : Option Value → AH → Prop} {x y : Int32} (hne : ¬ y = 0) (hd : decode M.2.1 pc = .ok (.idiv, 1)) (kk : zQ X M d (pc + 1) ls (.int (x / y) :: st) h Qp) : zQ X M d pc ls (.int y :: .int x :: st) h Qp :=
  zq_move (fun _ b b0 dC dI dA p l e R s m args below meth co H locs cells slots lsA Q hC _ hl k => lv_idiv hC.1 hC.2.1 hd hne (k lsA hl)) kk
theorem zq_irem {X : Option (Nat × (Nat → Int32))} {M : Mth} {d pc : Nat} {ls : List (Nat × Value)} {st : List Value} {h : AH} {Qp : Option Value → AH → Prop} {x y : Int32} (hne : ¬ y = 0) (hd : decode M.2.1 pc = .ok (.irem, 1)) (kk : zQ X M d (pc + 1) ls (.int (x - x / y * y) :: st) h Qp) : zQ X M d pc ls (.int y :: .int x :: st) h Qp :=
  zq_move (fun _ b b0 dC dI dA p l e R s m args below meth co H locs cells slots lsA Q hC _ hl k => lv_irem hC.1 hC.2.1 hd hne (k lsA hl)) kk
theorem zq_ldiv {X : Option (Nat × (Nat → Int32))} {M : Mth} {d pc : Nat} {ls : List (Nat × Value)} {st : List Value} {h : AH} {Qp : Option Value → AH → Prop} {x y : Int64} (hne : ¬ y = 0) (hd : decode M.2.1 pc = .ok (.ldiv, 1)) (kk : zQ X M d (pc + 1) ls (.long (x / y) :: st) h Qp) : zQ X M d pc ls (.long y :: .long x :: st) h Qp :=
  zq_move (fun _ b b0 dC dI dA p l e R s m args below meth co H locs cells slots lsA Q hC _ hl k => lv_ldiv hC.1 hC.2.1 hd hne (k lsA hl)) kk
theorem zq_lrem {X : Option (Nat × (Nat → Int32))} {M : Mth} {d pc : Nat} {ls : List (Nat × Value)} {st : List Value} {h : AH} {Qp : Option Value → AH → Prop} {x y : Int64} (hne : ¬ y = 0) (hd : decode M.2.1 pc = .ok (.lrem, 1)) (kk : zQ X M d (pc + 1) ls (.long (x - x / y * y) :: st) h Qp) : zQ X M d pc ls (.long y :: .long x :: st) h Qp :=
  zq_move (fun _ b b0 dC dI dA p l e R s m args below meth co H locs cells slots lsA Q hC _ hl k => lv_lrem hC.1 hC.2.1 hd hne (k lsA hl)) kk
theorem zq_ineg {X : Option (Nat × (Nat → Int32))} {M : Mth} {d pc : Nat} {ls : List (Nat × Value)} {st : List Value} {h : AH} {Qp : Option Value → AH → Prop} {x : Int32}  (hd : decode M.2.1 pc = .ok (.ineg, 1)) (kk : zQ X M d (pc + 1) ls (.int (-x) :: st) h Qp) : zQ X M d pc ls (.int x :: st) h Qp :=
  zq_move (fun _ b b0 dC dI dA p l e R s m args below meth co H locs cells slots lsA Q hC _ hl k => lv_ineg hC.1 hC.2.1 hd (k lsA hl)) kk
theorem zq_i2l {X : Option (Nat × (Nat → Int32))} {M : Mth} {d pc : Nat} {ls : List (Nat × Value)} {st : List Value} {h : AH} {Qp : Option Value → AH → Prop} {x : Int32}  (hd : decode M.2.1 pc = .ok (.i2l, 1)) (kk : zQ X M d (pc + 1) ls (.long x.toInt64 :: st) h Qp) : zQ X M d pc ls (.int x :: st) h Qp :=
  zq_move (fun _ b b0 dC dI dA p l e R s m args below meth co H locs cells slots lsA Q hC _ hl k => lv_i2l hC.1 hC.2.1 hd rfl (k lsA hl)) kk
theorem zq_l2i {X : Option (Nat × (Nat → Int32))} {M : Mth} {d pc : Nat} {ls : List (Nat × Value)} {st : List Value} {h : AH} {Qp : Option Value → AH → Prop} {x : Int64}  (hd : decode M.2.1 pc = .ok (.l2i, 1)) (kk : zQ X M d (pc + 1) ls (.int x.toInt32 :: st) h Qp) : zQ X M d pc ls (.long x :: st) h Qp :=
  zq_move (fun _ b b0 dC dI dA p l e R s m args below meth co H locs cells slots lsA Q hC _ hl k => lv_l2i hC.1 hC.2.1 hd rfl (k lsA hl)) kk
theorem zq_i2b {X : Option (Nat × (Nat → Int32))} {M : Mth} {d pc : Nat} {ls : List (Nat × Value)} {st : List Value} {h : AH} {Qp : Option Value → AH → Prop} {x : Int32}  (hd : decode M.2.1 pc = .ok (.i2b, 1)) (kk : zQ X M d (pc + 1) ls (.int x.toInt8.toInt32 :: st) h Qp) : zQ X M d pc ls (.int x :: st) h Qp :=
  zq_move (fun _ b b0 dC dI dA p l e R s m args below meth co H locs cells slots lsA Q hC _ hl k => lv_i2b hC.1 hC.2.1 hd rfl (k lsA hl)) kk
theorem zq_iushr {X : Option (Nat × (Nat → Int32))} {M : Mth} {d pc : Nat} {ls : List (Nat × Value)} {st : List Value} {h : AH} {Qp : Option Value → AH → Prop} {x y : Int32}  (hd : decode M.2.1 pc = .ok (.iushr, 1)) (kk : zQ X M d (pc + 1) ls (.int (x.toUInt32 >>> (y.toUInt32 &&& Int32.toUInt32 31)).toInt32 :: st) h Qp) : zQ X M d pc ls (.int y :: .int x :: st) h Qp :=
  zq_move (fun _ b b0 dC dI dA p l e R s m args below meth co H locs cells slots lsA Q hC _ hl k => lv_iushr hC.1 hC.2.1 hd rfl (k lsA hl)) kk
theorem zq_ishl {X : Option (Nat × (Nat → Int32))} {M : Mth} {d pc : Nat} {ls : List (Nat × Value)} {st : List Value} {h : AH} {Qp : Option Value → AH → Prop} {x y : Int32}  (hd : decode M.2.1 pc = .ok (.ishl, 1)) (kk : zQ X M d (pc + 1) ls (.int (x <<< (y &&& 31)) :: st) h Qp) : zQ X M d pc ls (.int y :: .int x :: st) h Qp :=
  zq_move (fun _ b b0 dC dI dA p l e R s m args below meth co H locs cells slots lsA Q hC _ hl k => lv_ishl hC.1 hC.2.1 hd (k lsA hl)) kk
theorem zq_ishr {X : Option (Nat × (Nat → Int32))} {M : Mth} {d pc : Nat} {ls : List (Nat × Value)} {st : List Value} {h : AH} {Qp : Option Value → AH → Prop} {x y : Int32}  (hd : decode M.2.1 pc = .ok (.ishr, 1)) (kk : zQ X M d (pc + 1) ls (.int (x >>> (y &&& 31)) :: st) h Qp) : zQ X M d pc ls (.int y :: .int x :: st) h Qp :=
  zq_move (fun _ b b0 dC dI dA p l e R s m args below meth co H locs cells slots lsA Q hC _ hl k => lv_ishr hC.1 hC.2.1 hd (k lsA hl)) kk
theorem zq_lushr {X : Option (Nat × (Nat → Int32))} {M : Mth} {d pc : Nat} {ls : List (Nat × Value)} {st : List Value} {h : AH} {Qp : Option Value → AH → Prop} {x : Int64} {y : Int32}  (hd : decode M.2.1 pc = .ok (.lushr, 1)) (kk : zQ X M d (pc + 1) ls (.long (x.toUInt64 >>> (y.toInt64.toUInt64 &&& Int64.toUInt64 63)).toInt64 :: st) h Qp) : zQ X M d pc ls (.int y :: .long x :: st) h Qp :=
  zq_move (fun _ b b0 dC dI dA p l e R s m args below meth co H locs cells slots lsA Q hC _ hl k => lv_lushr hC.1 hC.2.1 hd rfl (k lsA hl)) kk
theorem zq_lshl {X : Option (Nat × (Nat → Int32))} {M : Mth} {d pc : Nat} {ls : List (Nat × Value)} {st : List Value} {h : AH} {Qp : Option Value → AH → Prop} {x : Int64} {y : Int32}  (hd : decode M.2.1 pc = .ok (.lshl, 1)) (kk : zQ X M d (pc + 1) ls (.long (x <<< (y.toInt64 &&& 63)) :: st) h Qp) : zQ X M d pc ls (.int y :: .long x :: st) h Qp :=
  zq_move (fun _ b b0 dC dI dA p l e R s m args below meth co H locs cells slots lsA Q hC _ hl k => lv_lshl hC.1 hC.2.1 hd rfl (k lsA hl)) kk
theorem zq_lshr {X : Option (Nat × (Nat → Int32))} {M : Mth} {d pc : Nat} {ls : List (Nat × Value)} {st : List Value} {h : AH} {Qp : Option Value → AH → Prop} {x : Int64} {y : Int32}  (hd : decode M.2.1 pc = .ok (.lshr, 1)) (kk : zQ X M d (pc + 1) ls (.long (x >>> (y.toInt64 &&& 63)) :: st) h Qp) : zQ X M d pc ls (.int y :: .long x :: st) h Qp :=
  zq_move (fun _ b b0 dC dI dA p l e R s m args below meth co H locs cells slots lsA Q hC _ hl k => lv_lshr hC.1 hC.2.1 hd rfl (k lsA hl)) kk
theorem zq_lcmp {X : Option (Nat × (Nat → Int32))} {M : Mth} {d pc : Nat} {ls : List (Nat × Value)} {st : List Value} {h : AH} {Qp : Option Value → AH → Prop} {x y : Int64}  (hd : decode M.2.1 pc = .ok (.lcmp, 1)) (kk : zQ X M d (pc + 1) ls (.int (lg_cmp x y) :: st) h Qp) : zQ X M d pc ls (.long y :: .long x :: st) h Qp :=
  zq_move (fun _ b b0 dC dI dA p l e R s m args below meth co H locs cells slots lsA Q hC _ hl k => W.lcmp hC.1 hC.2.1 hd (k lsA hl)) kk
theorem zq_dup {X : Option (Nat × (Nat → Int32))} {M : Mth} {d pc : Nat} {ls : List (Nat × Value)} {st : List Value} {h : AH} {Qp : Option Value → AH → Prop} {v : Value} (hv : v.category = 1) (hd : decode M.2.1 pc = .ok (.dup, 1)) (kk : zQ X M d (pc + 1) ls (v :: v :: st) h Qp) : zQ X M d pc ls (v :: st) h Qp :=
  zq_move (fun _ b b0 dC dI dA p l e R s m args below meth co H locs cells slots lsA Q hC _ hl k => lv_dup hC.1 hC.2.1 hd ((zv_cat b b0 v).trans hv) (k lsA hl)) kk
theorem zq_pop {X : Option (Nat × (Nat → Int32))} {M : Mth} {d pc : Nat} {ls : List (Nat × Value)} {st : List Value} {h : AH} {Qp : Option Value → AH → Prop} {v : Value} (hv : v.category = 1) (hd : decode M.2.1 pc = .ok (.pop, 1)) (kk : zQ X M d (pc + 1) ls (st) h Qp) : zQ X M d pc ls (v :: st) h Qp :=
  zq_move (fun _ b b0 dC dI dA p l e R s m args below meth co H locs cells slots lsA Q hC _ hl k => lv_pop hC.1 hC.2.1 hd ((zv_cat b b0 v).trans hv) (k lsA hl)) kk
theorem zq_dup2 {X : Option (Nat × (Nat → Int32))} {M : Mth} {d pc : Nat} {ls : List (Nat × Value)} {st : List Value} {h : AH} {Qp : Option Value → AH → Prop} {v w : Value} (hv : v.category = 1) (hw : w.category = 1) (hd : decode M.2.1 pc = .ok (.dup2, 1)) (kk : zQ X M d (pc + 1) ls (v :: w :: v :: w :: st) h Qp) : zQ X M d pc ls (v :: w :: st) h Qp :=
  zq_move (fun _ b b0 dC dI dA p l e R s m args below meth co H locs cells slots lsA Q hC _ hl k => lv_dup2_11 hC.1 hC.2.1 hd ((zv_cat b b0 v).trans hv) ((zv_cat b b0 w).trans hw) (k lsA hl)) kk
theorem zq_dup2L {X : Option (Nat × (Nat → Int32))} {M : Mth} {d pc : Nat} {ls : List (Nat × Value)} {st : List Value} {h : AH} {Qp : Option Value → AH → Prop} {v : Value} (hv : v.category = 2) (hd : decode M.2.1 pc = .ok (.dup2, 1)) (kk : zQ X M d (pc + 1) ls (v :: v :: st) h Qp) : zQ X M d pc ls (v :: st) h Qp :=
  zq_move (fun _ b b0 dC dI dA p l e R s m args below meth co H locs cells slots lsA Q hC _ hl k => lv_dup2_2 hC.1 hC.2.1 hd ((zv_cat b b0 v).trans hv) (k lsA hl)) kk
theorem zq_null {X : Option (Nat × (Nat → Int32))} {M : Mth} {d pc : Nat} {ls : List (Nat × Value)} {st : List Value} {h : AH} {Qp : Option Value → AH → Prop}   (hd : decode M.2.1 pc = .ok (.aconst_null, 1)) (kk : zQ X M d (pc + 1) ls (.null :: st) h Qp) : zQ X M d pc ls (st) h Qp :=
  zq_move (fun _ b b0 dC dI dA p l e R s m args below meth co H locs cells slots lsA Q hC _ hl k => lv_null hC.1 hC.2.1 hd (k lsA hl)) kk
theorem zq_goto {X : Option (Nat × (Nat → Int32))} {M : Mth} {d pc : Nat} {ls : List (Nat × Value)} {st : List Value} {h : AH} {Qp : Option Value → AH → Prop} {off : Int} {tgt : Nat} (hd : decode M.2.1 pc = .ok (.goto off, 3)) (ht : (pc : Int) + off = (tgt : Int)) (kk : zQ X M d tgt ls st h Qp) : zQ X M d pc ls st h Qp :=
  zq_move (fun _ b b0 dC dI dA p l e R s m args below meth co H locs cells slots lsA Q hC _ hl k => lv_goto hC.1 hC.2.1 hd ht (k lsA hl)) kk
theorem zq_icmp_eq {X : Option (Nat × (Nat → Int32))} {M : Mth} {d pc : Nat} {ls : List (Nat × Value)} {st : List Value} {h : AH} {Qp : Option Value → AH → Prop} {x y : Int32} {off : Int} {tgt : Nat} (hd : decode M.2.1 pc = .ok (.if_icmp .eq off, 3)) (ht : (pc : Int) + off = (tgt : Int)) (kk : (x = y → zQ X M d tgt ls st h Qp) ∧ (¬ (x = y) → zQ X M d (pc + 3) ls st h Qp)) : zQ X M d pc ls (.int y :: .int x :: st) h Qp := by
  by_cases hc : x = y
  · exact zq_move (fun _ b b0 dC dI dA p l e R s m args below meth co H locs cells slots lsA Q hC _ hl k => lv_icmp_eq hC.1 hC.2.1 hd ht (fun _ => k lsA hl) (fun q => absurd hc q)) (kk.1 hc)
  · exact zq_move (fun _ b b0 dC dI dA p l e R s m args below meth co H locs cells slots lsA Q hC _ hl k => lv_icmp_eq hC.1 hC.2.1 hd ht (fun q => absurd q hc) (fun _ => k lsA hl)) (kk.2 hc)
theorem zq_if_eq {X : Option (Nat × (Nat → Int32))} {M : Mth} {d pc : Nat} {ls : List (Nat × Value)} {st : List Value} {h : AH} {Qp : Option Value → AH → Prop} {x : Int32} {off : Int} {tgt : Nat} (hd : decode M.2.1 pc = .ok (.ifCond .eq off, 3)) (ht : (pc : Int) + off = (tgt : Int)) (kk : (x = 0 → zQ X M d tgt ls st h Qp) ∧ (¬ (x = 0) → zQ X M d (pc + 3) ls st h Qp)) : zQ X M d pc ls (.int x :: st) h Qp := by
  by_cases hc : x = 0
  · exact zq_move (fun _ b b0 dC dI dA p l e R s m args below meth co H locs cells slots lsA Q hC _ hl k => lv_if_eq hC.1 hC.2.1 hd ht (fun _ => k lsA hl) (fun q => absurd hc q)) (kk.1 hc)
  · exact zq_move (fun _ b b0 dC dI dA p l e R s m args below meth co H locs cells slots lsA Q hC _ hl k => lv_if_eq hC.1 hC.2.1 hd ht (fun q => absurd q hc) (fun _ => k lsA hl)) (kk.2 hc)
theorem zq_icmp_ne {X : Option (Nat × (Nat → Int32))} {M : Mth} {d pc : Nat} {ls : List (Nat × Value)} {st : List Value} {h : AH} {Qp : Option Value → AH → Prop} {x y : Int32} {off : Int} {tgt : Nat} (hd : decode M.2.1 pc = .ok (.if_icmp .ne off, 3)) (ht : (pc : Int) + off = (tgt : Int)) (kk : (x ≠ y → zQ X M d tgt ls st h Qp) ∧ (x = y → zQ X M d (pc + 3) ls st h Qp)) : zQ X M d pc ls (.int y :: .int x :: st) h Qp := by
  by_cases hc : x ≠ y
  · exact zq_move (fun _ b b0 dC dI dA p l e R s m args below meth co H locs cells slots lsA Q hC _ hl k => lv_icmp_ne hC.1 hC.2.1 hd ht (fun _ => k lsA hl) (fun q => absurd q hc)) (kk.1 hc)
  · exact zq_move (fun _ b b0 dC dI dA p l e R s m args below meth co H locs cells slots lsA Q hC _ hl k => lv_icmp_ne hC.1 hC.2.1 hd ht (fun q => absurd q hc) (fun _ => k lsA hl)) (kk.2 (Classical.byContradiction hc))
theorem zq_if_ne {X : Option (Nat × (Nat → Int32))} {M : Mth} {d pc : Nat} {ls : List (Nat × Value)} {st : List Value} {h : AH} {Qp : Option Value → AH → Prop} {x : Int32} {off : Int} {tgt : Nat} (hd : decode M.2.1 pc = .ok (.ifCond .ne off, 3)) (ht : (pc : Int) + off = (tgt : Int)) (kk : (x ≠ 0 → zQ X M d tgt ls st h Qp) ∧ (x = 0 → zQ X M d (pc + 3) ls st h Qp)) : zQ X M d pc ls (.int x :: st) h Qp := by
  by_cases hc : x ≠ 0
  · exact zq_move (fun _ b b0 dC dI dA p l e R s m args below meth co H locs cells slots lsA Q hC _ hl k => lv_if_ne hC.1 hC.2.1 hd ht (fun _ => k lsA hl) (fun q => absurd q hc)) (kk.1 hc)
  · exact zq_move (fun _ b b0 dC dI dA p l e R s m args below meth co H locs cells slots lsA Q hC _ hl k => lv_if_ne hC.1 hC.2.1 hd ht (fun q => absurd q hc) (fun _ => k lsA hl)) (kk.2 (Classical.byContradiction hc))
theorem zq_icmp_lt {X : Option (Nat × (Nat → Int32))} {M : Mth} {d pc : Nat} {ls : List (Nat × Value)} {st : List Value} {h : AH} {Qp : Option Value → AH → Prop} {x y : Int32} {off : Int} {tgt : Nat} (hd : decode M.2.1 pc = .ok (.if_icmp .lt off, 3)) (ht : (pc : Int) + off = (tgt : Int)) (kk : (x < y → zQ X M d tgt ls st h Qp) ∧ (¬ (x < y) → zQ X M d (pc + 3) ls st h Qp)) : zQ X M d pc ls (.int y :: .int x :: st) h Qp := by
  by_cases hc : x < y
  · exact zq_move (fun _ b b0 dC dI dA p l e R s m args below meth co H locs cells slots lsA Q hC _ hl k => lv_icmp_lt hC.1 hC.2.1 hd ht (fun _ => k lsA hl) (fun q => absurd hc q)) (kk.1 hc)
  · exact zq_move (fun _ b b0 dC dI dA p l e R s m args below meth co H locs cells slots lsA Q hC _ hl k => lv_icmp_lt hC.1 hC.2.1 hd ht (fun q => absurd q hc) (fun _ => k lsA hl)) (kk.2 hc)
theorem zq_if_lt {X : Option (Nat × (Nat → Int32))} {M : Mth} {d pc : Nat} {ls : List (Nat × Value)} {st : List Value} {h : AH} {Qp : Option Value → AH → Prop} {x : Int32} {off : Int} {tgt : Nat} (hd : decode M.2.1 pc = .ok (.ifCond .lt off, 3)) (ht : (pc : Int) + off = (tgt : Int)) (kk : (x < 0 → zQ X M d tgt ls st h Qp) ∧ (¬ (x < 0) → zQ X M d (pc + 3) ls st h Qp)) : zQ X M d pc ls (.int x :: st) h Qp := by
  by_cases hc : x < 0
  · exact zq_move (fun _ b b0 dC dI dA p l e R s m args below meth co H locs cells slots lsA Q hC _ hl k => lv_if_lt hC.1 hC.2.1 hd ht (fun _ => k lsA hl) (fun q => absurd hc q)) (kk.1 hc)
  · exact zq_move (fun _ b b0 dC dI dA p l e R s m args below meth co H locs cells slots lsA Q hC _ hl k => lv_if_lt hC.1 hC.2.1 hd ht (fun q => absurd q hc) (fun _ => k lsA hl)) (kk.2 hc)
theorem zq_icmp_ge {X : Option (Nat × (Nat → Int32))} {M : Mth} {d pc : Nat} {ls : List (Nat × Value)} {st : List Value} {h : AH} {Qp : Option Value → AH → Prop} {x y : Int32} {off : Int} {tgt : Nat} (hd : decode M.2.1 pc = .ok (.if_icmp .ge off, 3)) (ht : (pc : Int) + off = (tgt : Int)) (kk : (y ≤ x → zQ X M d tgt ls st h Qp) ∧ (¬ (y ≤ x) → zQ X M d (pc + 3) ls st h Qp)) : zQ X M d pc ls (.int y :: .int x :: st) h Qp := by
  by_cases hc : y ≤ x
  · exact zq_move (fun _ b b0 dC dI dA p l e R s m args below meth co H locs cells slots lsA Q hC _ hl k => lv_icmp_ge hC.1 hC.2.1 hd ht (fun _ => k lsA hl) (fun q => absurd hc q)) (kk.1 hc)
  · exact zq_move (fun _ b b0 dC dI dA p l e R s m args below meth co H locs cells slots lsA Q hC _ hl k => lv_icmp_ge hC.1 hC.2.1 hd ht (fun q => absurd q hc) (fun _ => k lsA hl)) (kk.2 hc)
theorem zq_if_ge {X : Option (Nat × (Nat → Int32))} {M : Mth} {d pc : Nat} {ls : List (Nat × Value)} {st : List Value} {h : AH} {Qp : Option Value → AH → Prop} {x : Int32} {off : Int} {tgt : Nat} (hd : decode M.2.1 pc = .ok (.ifCond .ge off, 3)) (ht : (pc : Int) + off = (tgt : Int)) (kk : (0 ≤ x → zQ X M d tgt ls st h Qp) ∧ (¬ (0 ≤ x) → zQ X M d (pc + 3) ls st h Qp)) : zQ X M d pc ls (.int x :: st) h Qp := by
  by_cases hc : 0 ≤ x
  · exact zq_move (fun _ b b0 dC dI dA p l e R s m args below meth co H locs cells slots lsA Q hC _ hl k => lv_if_ge hC.1 hC.2.1 hd ht (fun _ => k lsA hl) (fun q => absurd hc q)) (kk.1 hc)
  · exact zq_move (fun _ b b0 dC dI dA p l e R s m args below meth co H locs cells slots lsA Q hC _ hl k => lv_if_ge hC.1 hC.2.1 hd ht (fun q => absurd q hc) (fun _ => k lsA hl)) (kk.2 hc)
theorem zq_icmp_gt {X : Option (Nat × (Nat → Int32))} {M : Mth} {d pc : Nat} {ls : List (Nat × Value)} {st : List Value} {h : AH} {Qp : Option Value → AH → Prop} {x y : Int32} {off : Int} {tgt : Nat} (hd : decode M.2.1 pc = .ok (.if_icmp .gt off, 3)) (ht : (pc : Int) + off = (tgt : Int)) (kk : (y < x → zQ X M d tgt ls st h Qp) ∧ (¬ (y < x) → zQ X M d (pc + 3) ls st h Qp)) : zQ X M d pc ls (.int y :: .int x :: st) h Qp := by
  by_cases hc : y < x
  · exact zq_move (fun _ b b0 dC dI dA p l e R s m args below meth co H locs cells slots lsA Q hC _ hl k => lv_icmp_gt hC.1 hC.2.1 hd ht (fun _ => k lsA hl) (fun q => absurd hc q)) (kk.1 hc)
  · exact zq_move (fun _ b b0 dC dI dA p l e R s m args below meth co H locs cells slots lsA Q hC _ hl k => lv_icmp_gt hC.1 hC.2.1 hd ht (fun q => absurd q hc) (fun _ => k lsA hl)) (kk.2 hc)
theorem zq_if_gt {X : Option (Nat × (Nat → Int32))} {M : Mth} {d pc : Nat} {ls : List (Nat × Value)} {st : List Value} {h : AH} {Qp : Option Value → AH → Prop} {x : Int32} {off : Int} {tgt : Nat} (hd : decode M.2.1 pc = .ok (.ifCond .gt off, 3)) (ht : (pc : Int) + off = (tgt : Int)) (kk : (0 < x → zQ X M d tgt ls st h Qp) ∧ (¬ (0 < x) → zQ X M d (pc + 3) ls st h Qp)) : zQ X M d pc ls (.int x :: st) h Qp := by
  by_cases hc : 0 < x
  · exact zq_move (fun _ b b0 dC dI dA p l e R s m args below meth co H locs cells slots lsA Q hC _ hl k => lv_if_gt hC.1 hC.2.1 hd ht (fun _ => k lsA hl) (fun q => absurd hc q)) (kk.1 hc)
  · exact zq_move (fun _ b b0 dC dI dA p l e R s m args below meth co H locs cells slots lsA Q hC _ hl k => lv_if_gt hC.1 hC.2.1 hd ht (fun q => absurd q hc) (fun _ => k lsA hl)) (kk.2 hc)
theorem zq_icmp_le {X : Option (Nat × (Nat → Int32))} {M : Mth} {d pc : Nat} {ls : List (Nat × Value)} {st : List Value} {h : AH} {Qp : Option Value → AH → Prop} {x y : Int32} {off : Int} {tgt : Nat} (hd : decode M.2.1 pc = .ok (.if_icmp .le off, 3)) (ht : (pc : Int) + off = (tgt : Int)) (kk : (x ≤ y → zQ X M d tgt ls st h Qp) ∧ (¬ (x ≤ y) → zQ X M d (pc + 3) ls st h Qp)) : zQ X M d pc ls (.int y :: .int x :: st) h Qp := by
  by_cases hc : x ≤ y
  · exact zq_move (fun _ b b0 dC dI dA p l e R s m args below meth co H locs cells slots lsA Q hC _ hl k => lv_icmp_le hC.1 hC.2.1 hd ht (fun _ => k lsA hl) (fun q => absurd hc q)) (kk.1 hc)
  · exact zq_move (fun _ b b0 dC dI dA p l e R s m args below meth co H locs cells slots lsA Q hC _ hl k => lv_icmp_le hC.1 hC.2.1 hd ht (fun q => absurd q hc) (fun _ => k lsA hl)) (kk.2 hc)
theorem zq_if_le {X : Option (Nat × (Nat → Int32))} {M : Mth} {d pc : Nat} {ls : List (Nat × Value)} {st : List Value} {h : AH} {Qp : Option Value → AH → Prop} {x : Int32} {off : Int} {tgt : Nat} (hd : decode M.2.1 pc = .ok (.ifCond .le off, 3)) (ht : (pc : Int) + off = (tgt : Int)) (kk : (x ≤ 0 → zQ X M d tgt ls st h Qp) ∧ (¬ (x ≤ 0) → zQ X M d (pc + 3) ls st h Qp)) : zQ X M d pc ls (.int x :: st) h Qp := by
  by_cases hc : x ≤ 0
  · exact zq_move (fun _ b b0 dC dI dA p l e R s m args below meth co H locs cells slots lsA Q hC _ hl k => lv_if_le hC.1 hC.2.1 hd ht (fun _ => k lsA hl) (fun q => absurd hc q)) (kk.1 hc)
  · exact zq_move (fun _ b b0 dC dI dA p l e R s m args below meth co H locs cells slots lsA Q hC _ hl k => lv_if_le hC.1 hC.2.1 hd ht (fun q => absurd q hc) (fun _ => k lsA hl)) (kk.2 hc)
theorem zq_ifnonnull {X : Option (Nat × (Nat → Int32))} {M : Mth} {d pc : Nat} {ls : List (Nat × Value)} {st : List Value} {h : AH} {Qp : Option Value → AH → Prop} {x : Nat} {off : Int} {tgt : Nat} (hd : decode M.2.1 pc = .ok (.ifnonnull off, 3)) (ht : (pc : Int) + off = (tgt : Int)) (kk : zQ X M d tgt ls st h Qp) : zQ X M d pc ls (.ref x :: st) h Qp :=
  zq_move (fun _ b b0 dC dI dA p l e R s m args below meth co H locs cells slots lsA Q hC _ hl k => lv_ifnonnull hC.1 hC.2.1 hd ht (k lsA hl)) kk
theorem zq_ifnull {X : Option (Nat × (Nat → Int32))} {M : Mth} {d pc : Nat} {ls : List (Nat × Value)} {st : List Value} {h : AH} {Qp : Option Value → AH → Prop} {x : Nat} {off : Int} (hd : decode M.2.1 pc = .ok (.ifnull off, 3)) (kk : zQ X M d (pc + 3) ls st h Qp) : zQ X M d pc ls (.ref x :: st) h Qp :=
  zq_move (fun _ b b0 dC dI dA p l e R s m args below meth co H locs cells slots lsA Q hC _ hl k => lv_ifnull hC.1 hC.2.1 hd (k lsA hl)) kk
theorem zq_ifnullN {X : Option (Nat × (Nat → Int32))} {M : Mth} {d pc : Nat} {ls : List (Nat × Value)} {st : List Value} {h : AH} {Qp : Option Value → AH → Prop} {off : Int} {tgt : Nat} (hd : decode M.2.1 pc = .ok (.ifnull off, 3)) (ht : (pc : Int) + off = (tgt : Int)) (kk : zQ X M d tgt ls st h Qp) : zQ X M d pc ls (.null :: st) h Qp :=
  zq_move (fun _ b b0 dC dI dA p l e R s m args below meth co H locs cells slots lsA Q hC _ hl k => lv_ifnullN hC.1 hC.2.1 hd ht (k lsA hl)) kk
theorem zq_ifnonnullN {X : Option (Nat × (Nat → Int32))} {M : Mth} {d pc : Nat} {ls : List (Nat × Value)} {st : List Value} {h : AH} {Qp : Option Value → AH → Prop} {off : Int} (hd : decode M.2.1 pc = .ok (.ifnonnull off, 3)) (kk : zQ X M d (pc + 3) ls st h Qp) : zQ X M d pc ls (.null :: st) h Qp :=
  zq_move (fun _ b b0 dC dI dA p l e R s m args below meth co H locs cells slots lsA Q hC _ hl k => lv_ifnonnullN hC.1 hC.2.1 hd (k lsA hl)) kk
theorem zq_tabIn {X : Option (Nat × (Nat → Int32))} {M : Mth} {d pc : Nat} {ls : List (Nat × Value)} {st : List Value} {h : AH} {Qp : Option Value → AH → Prop} {dflt lo hi : Int} {offs : Array Int} {len : Nat} {x : Int32} {off : Int} {tgt : Nat} (hd : decode M.2.1 pc = .ok (.tableswitch dflt lo hi offs, len)) (h1 : ¬ x.toInt < lo) (h2 : ¬ hi < x.toInt) (ho : offs[(x.toInt - lo).toNat]? = some off) (ht : (pc : Int) + off = (tgt : Int)) (kk : zQ X M d tgt ls st h Qp) : zQ X M d pc ls (.int x :: st) h Qp :=
  zq_move (fun _ b b0 dC dI dA p l e R s m args below meth co H locs cells slots lsA Q hC _ hl k => lv_tableIn hC.1 hC.2.1 hd h1 h2 ho ht (k lsA hl)) kk
theorem zq_tabOut {X : Option (Nat × (Nat → Int32))} {M : Mth} {d pc : Nat} {ls : List (Nat × Value)} {st : List Value} {h : AH} {Qp : Option Value → AH → Prop} {dflt lo hi : Int} {offs : Array Int} {len : Nat} {x : Int32} {tgt : Nat} (hd : decode M.2.1 pc = .ok (.tableswitch dflt lo hi offs, len)) (h1 : x.toInt < lo ∨ hi < x.toInt) (ht : (pc : Int) + dflt = (tgt : Int)) (kk : zQ X M d tgt ls st h Qp) : zQ X M d pc ls (.int x :: st) h Qp :=
  zq_move (fun _ b b0 dC dI dA p l e R s m args below meth co H locs cells slots lsA Q hC _ hl k => lv_tableOut hC.1 hC.2.1 hd h1 ht (k lsA hl)) kk
theorem zq_lookup {X : Option (Nat × (Nat → Int32))} {M : Mth} {d pc : Nat} {ls : List (Nat × Value)} {st : List Value} {h : AH} {Qp : Option Value → AH → Prop} {dflt : Int} {ps : Array (Int × Int)} {len : Nat} {x : Int32} {off : Int} {tgt : Nat} (hd : decode M.2.1 pc = .ok (.lookupswitch dflt ps, len)) (hp : (ps.toList.zip (ps.toList.drop 1)).all (fun (a, next) => a.1 < next.1) = true) (ho : Op.lookupswitch.offset ps.toList dflt x.toInt = off) (ht : (pc : Int) + off = (tgt : Int)) (kk : zQ X M d tgt ls st h Qp) : zQ X M d pc ls (.int x :: st) h Qp :=
  zq_move (fun _ b b0 dC dI dA p l e R s m args below meth co H locs cells slots lsA Q hC _ hl k => lv_lookup hC.1 hC.2.1 hd hp ho ht (k lsA hl)) kk
theorem zq_ldc {X : Option (Nat × (Nat → Int32))} {M : Mth} {d pc : Nat} {ls : List (Nat × Value)} {st : List Value} {h : AH} {Qp : Option Value → AH → Prop} {ix : Nat} {v : Int32} (hw : Cond.constant M.1.cls ix v ∈ zT) (hd : decode M.2.1 pc = .ok (.ldc ix, 2)) (kk : zQ X M d (pc + 2) ls (.int v :: st) h Qp) : zQ X M d pc ls st h Qp :=
  zq_move (fun _ b b0 dC dI dA p l e R s m args below meth co H locs cells slots lsA Q hC _ hl k => lv_ldc hC.1 hC.2.1 hC.2.2.2.1 (hC.2.2.2.2.1 _ hw) hd (k lsA hl)) kk
theorem zq_ldcw {X : Option (Nat × (Nat → Int32))} {M : Mth} {d pc : Nat} {ls : List (Nat × Value)} {st : List Value} {h : AH} {Qp : Option Value → AH → Prop} {ix : Nat} {v : Int32} (hw : Cond.constant M.1.cls ix v ∈ zT) (hd : decode M.2.1 pc = .ok (.ldc_w ix, 3)) (kk : zQ X M d (pc + 3) ls (.int v :: st) h Qp) : zQ X M d pc ls st h Qp :=
  zq_move (fun _ b b0 dC dI dA p l e R s m args below meth co H locs cells slots lsA Q hC _ hl k => lv_ldcw hC.1 hC.2.1 hC.2.2.2.1 (hC.2.2.2.2.1 _ hw) hd (k lsA hl)) kk
theorem zq_ldc2 {X : Option (Nat × (Nat → Int32))} {M : Mth} {d pc : Nat} {ls : List (Nat × Value)} {st : List Value} {h : AH} {Qp : Option Value → AH → Prop} {ix : Nat} {v : Int64} (hw : Cond.constantLong M.1.cls ix v ∈ zT) (hd : decode M.2.1 pc = .ok (.ldc2_w ix, 3)) (kk : zQ X M d (pc + 3) ls (.long v :: st) h Qp) : zQ X M d pc ls st h Qp :=
  zq_move (fun _ b b0 dC dI dA p l e R s m args below meth co H locs cells slots lsA Q hC _ hl k => lv_ldc2 hC.1 hC.2.1 hC.2.2.2.1 (hC.2.2.2.2.1 _ hw) hd (k lsA hl)) kk
