/-! contracts -/
def zPc (b b0 : Nat) (dC : Nat → ClassId) (dI : Nat → Nat → Nat) (dA : Nat → ClassId) (X : Option (Nat × (Nat → Int32))) (as : List Value) (h : AH) : Array Value → State → Prop :=
  va_Pc (as.map (zv b b0)) (fun U => b0 < U.heap.size ∧ U.heap.size = b0 + h.n ∧ va_P (dC, dI) vwCl (zw b b0 dA h) U.heap ∧ va_K (dC, dI) vwCl (ztys dA) U ∧ va_AO RX8 U ∧ (∀ w ∈ zNest, va_Nw w U) ∧ zX X b b0 U)
def zQc (b b0 : Nat) (dC : Nat → ClassId) (dI : Nat → Nat → Nat) (dA : Nat → ClassId) (r : Option Value) (h1 : AH) : Array Value → State → Outcome → State → Prop :=
  fun _ st oc t => (oc = .returned (r.map (zv b b0)) ∧ va_P (dC, dI) vwCl (zw b b0 dA h1) t.heap) ∧ va_F (fun q => b0 < q) st t
/-- method M, called with as over h at depth d, answers r over h1 -/
def zM (X : Option (Nat × (Nat → Int32))) (d : Nat) (M : Mth) (as : List Value) (h : AH) (r : Option Value) (h1 : AH) : Prop := zSt M h r h1 ∧
  (h.ok → ∀ (l : Launch) (b b0 : Nat) (dC : Nat → ClassId) (dI : Nat → Nat → Nat) (dA : Nat → ClassId), Met l M.1 (zws M) { frames := d, cells := h1.n - h.n, slots := h1.u - h.u, locals := 60 * d } (zPc b b0 dC dI dA X as h) (zQc b b0 dC dI dA r h1) (h1.n - h.n) (h1.u - h.u) (fun q => b0 < q))
def zKX (X : Option (Nat × (Nat → Int32))) (d : Nat) (M : Mth) (as : List Value) (h : AH) (Qp : Option Value → AH → Prop) : Prop := ∃ r h1, zM X d M as h r h1 ∧ Qp r h1
abbrev zK (d : Nat) (M : Mth) (as : List Value) (h : AH) (Qp : Option Value → AH → Prop) : Prop := zKX none d M as h Qp
theorem zK_mono {X : Option (Nat × (Nat → Int32))} {d : Nat} {M : Mth} {as : List Value} {h : AH} {Qp Qp' : Option Value → AH → Prop} (k : zKX X d M as h Qp) (hm : ∀ r h', Qp r h' → Qp' r h') : zKX X d M as h Qp' := by
  obtain ⟨r, h1, a, q⟩ := k
  exact ⟨r, h1, a, hm _ _ q⟩
theorem zl_args {b b0 : Nat} (as : List Value) (i : Nat) : lv_args i (as.map (zv b b0)) = zl b b0 (lv_args i as) := by
  induction as generalizing i with
  | nil => rfl
  | cons v vs ih => simp only [List.map_cons, lv_args, zv_cat, zl, List.map_cons]; rw [ih]; rfl
theorem lg_len {b b0 : Nat} (as : List Value) : (lg_sl (as.map (zv b b0))).length = (lg_sl as).length := by
  induction as with
  | nil => rfl
  | cons v vs ih =>
    simp only [lg_sl, List.map_cons, List.flatMap_cons, List.length_append, zv_cat] at ih ⊢
    rw [ih]
    congr 1
    split <;> rfl
/-- what is known of a method's name: its code is among the words, how many arguments it takes -/
def zMok (M : Mth) (n : Nat) : Prop := Cond.code M.1 M.2.1 M.2.2.1 M.2.2.2 ∈ zT ∧ Cond.initialized M.1.cls ∈ zT ∧ M.2.2.1 ≤ 41 ∧ plainName M.1.cls = true ∧ (M.1.cls ≠ "java/lang/invoke/MethodHandle" ∧ M.1.cls ≠ "java/lang/invoke/VarHandle" ∧ (parseMethodDescriptor M.1.desc).map (fun d => d.parameters.length) = some n)
theorem zMok_good {M : Mth} {n : Nat} (hM : zMok M n) : GoodIn zT (zws M) := by
  intro w hw
  rcases List.mem_cons.mp hw with rfl | hw
  · exact zT_good _ hM.1
  · exact zT_good _ hw
/-- a contract, out of the walk of the body -/
theorem zK_ofX {X : Option (Nat × (Nat → Int32))} {d : Nat} {M : Mth} {as : List Value} {h : AH} {Qp : Option Value → AH → Prop} {n : Nat} (hM : zMok M n) (hlen : (lg_sl as).length ≤ M.2.2.1) (k : zQ X M d 0 (lv_args 0 as) [] h Qp) : zKX X d M as h Qp := by
  obtain ⟨r, h1, ⟨hst, hw⟩, hq⟩ := k
  refine ⟨r, h1, ⟨hst, fun hok l b b0 dC dI dA => ?_⟩, hq⟩
  refine Met.ofW (cc := M.2.1) (maxL := M.2.2.1) (ret := M.2.2.2) (ws' := zT) hM.2.2.2.1 rfl ?_
  intro p e s m args below meth co s₁ B hml hv
  obtain ⟨rfl, hbs, hsz, hP, hK, hAO, hNe, hXx⟩ := hv
  have hx := B.exec
  have hb := B.bytes
  have hr := B.returns
  have hts : ∀ w ∈ zT, w.before _ s = true := fun w q => atoms_spec (ws := zws M) B.pre w (List.mem_cons_of_mem _ q)
  have hown : s.vm.findClass M.1.cls = some m.cls := findClass_of_methodNamed B.named
  have hlocks := B.notSynchronized
  rw [lg_entry_eq]
  have hl := lv_entry (as.map (zv b b0)) (n := M.2.2.1) (by rw [lg_len]; exact hlen)
  rw [zl_args] at hl
  generalize (lg_sl (as.map (zv b b0)) ++ List.replicate (M.2.2.1 - (lg_sl (as.map (zv b b0))).length) Slot.unset).toArray = lsA at hl ⊢
  refine hw hok b b0 dC dI dA p l e _ s m _ below meth co s.heap [] 0 0 lsA _ ⟨hx, hb, hml, hown, hts, fun q => (name_of_methodNamed B.named B.method).1.trans q, Nat.le_refl d, Nat.le_refl (60 * d), hbs, hK, hXx, hAO, hNe⟩ ⟨hP, va_S.rf, by omega⟩ hl (by show 0 + _ ≤ _; rw [Nat.zero_add]; exact Nat.le_refl _) (by show 0 + _ ≤ _; rw [Nat.zero_add]; exact Nat.le_refl _) ?_
  intro H' locs' pc' lsB hH' hd'
  rw [Nat.zero_add, Nat.zero_add]
  have hpost : ∀ t : State, t.heap = H' → zQc b b0 dC dI dA r h1 (as.map (zv b b0)).toArray s (.returned (r.map (zv b b0))) t := fun t ht => ⟨⟨rfl, by rw [ht]; exact hH'.1⟩, hH'.2.1.F ht⟩
  obtain ⟨-, -, -, hzr⟩ := hst
  generalize hret : M.2.2.2 = ret at hzr hd' hr
  match ret, r, hzr with
  | none, none, _ => exact W.vret hx hb hr (fun t ht _ => hpost t ht) hH'.2.1.2.2 hd' hlocks
  | some t, some (.int x), hz =>
    rw [hz.2] at hd'
    exact W.zret hx hb hr hz.1 (fun t ht _ => hpost t ht) hH'.2.1.2.2 hd' hlocks
  | some t, some (.long x), hz =>
    cases (show t = .long from hz)
    exact W.lret hx hb hr (fun t ht _ => hpost t ht) hH'.2.1.2.2 hd' hlocks
  | some t, some (.ref x), hz =>
    have hz2 : zri (some t) = .areturn := by rcases hz with ⟨n, rfl⟩ | ⟨u, rfl⟩ <;> rfl
    rw [hz2] at hd'
    exact W.aret hx hb hr hz (Or.inr ⟨_, rfl⟩) (fun t ht _ => hpost t ht) hH'.2.1.2.2 hd' hlocks
  | some t, some .null, hz =>
    have hz2 : zri (some t) = .areturn := by rcases hz with ⟨n, rfl⟩ | ⟨u, rfl⟩ <;> rfl
    rw [hz2] at hd'
    exact W.aret hx hb hr hz (Or.inl rfl) (fun t ht _ => hpost t ht) hH'.2.1.2.2 hd' hlocks
theorem zK_of {d : Nat} {M : Mth} {as : List Value} {h : AH} {Qp : Option Value → AH → Prop} {n : Nat} (hM : zMok M n) (hlen : (lg_sl as).length ≤ M.2.2.1) (k : zQ none M d 0 (lv_args 0 as) [] h Qp) : zK d M as h Qp := zK_ofX hM hlen k
/-- the script's cell, seen from a call -/
theorem zX_call {X : Option (Nat × (Nat → Int32))} {b b0 : Nat} {s U : State} {H : Heap} {locs : List Loc} (hX : zX X b b0 s) (hS : va_S (fun q => b0 < q) s.heap H locs) (hU : U.heap = H) (hW : s.WarmedH U.vm) : zX X b b0 U := by
  cases X with
  | none => trivial
  | some x =>
    obtain ⟨h1, h2, h3⟩ := hX
    refine ⟨(h1.moved hW.alike).kept (by rw [hU]; exact hS.2.1 b h2 (show ¬ b0 < b from Nat.not_lt.mpr h3)), ?_, h3⟩
    rw [hU]
    exact Nat.lt_of_lt_of_le h2 hS.1
def zYX (Y X : Option (Nat × (Nat → Int32))) : Prop := Y = none ∨ Y = X
theorem zX_sub {Y X : Option (Nat × (Nat → Int32))} (h : zYX Y X) {b b0 : Nat} {s U : State} {H : Heap} {locs : List Loc} (hX : zX X b b0 s) (hS : va_S (fun q => b0 < q) s.heap H locs) (hU : U.heap = H) (hW : s.WarmedH U.vm) : zX Y b b0 U := by
  rcases h with rfl | rfl
  · trivial
  · exact zX_call hX hS hU hW
/-! calls -/
theorem zcall {b b0 : Nat} {dC : Nat → ClassId} {dI : Nat → Nat → Nat} {dA : Nat → ClassId} {p : Program} {l : Launch} {e : Env} {R : Room} {s : State} {m : MethodId} {args : Array Value} {below : List Frame} {meth : Method} {co : Code} {H : Heap} {locs : List Loc} {cells slots mc ms pc : Nat} {lsA : Array Slot} {Q : State → Prop} {st0 rest : List Value} {r : Option Value} {h1 : AH} {a : Array Value}
    (hr : va_Run p l e R s m args below meth co H locs cells slots mc ms (F0 m pc lsA st0) rest (zQc b b0 dC dI dA r h1 a) (fun q => b0 < q)) (hS : va_S (fun q => b0 < q) s.heap H locs)
    (kk : ∀ (H1 : Heap) (locs1 : List Loc), va_P (dC, dI) vwCl (zw b b0 dA h1) H1 → va_S (fun q => b0 < q) s.heap H1 locs1 → W p l e R s m args below meth co H1 locs1 (cells + mc) (slots + ms) Q (F0 m (pc + 3) lsA ((r.map (zv b b0)).toList ++ rest))) : W p l e R s m args below meth co H locs cells slots Q (F0 m pc lsA st0) := by
  intro T hT X
  obtain ⟨v, st₀, t, T', L, h0, X', hL, e1, e2, ⟨⟨hv, hp⟩, hz, hk⟩, st⟩ := hr T hT X
  cases hv
  rw [h0] at hz hk
  obtain ⟨t2, a1, b1⟩ := kk T'.heap (locs ++ L) (by rw [e1]; exact hp)
    ⟨Nat.le_trans hS.1 (by rw [e1]; exact hz), fun q h1 h2 => by rw [e1, hk q (Nat.lt_of_lt_of_le h1 hS.1) h2]; exact hS.2.1 q h1 h2, fun q hq => by
      rcases List.mem_append.mp hq with h | h
      · exact hS.2.2 q h
      · exact hL q h⟩ T' rfl X'
  exact ⟨t2, st t2 a1, b1⟩
def zML (own : String) (ix : Nat) (Mc : Mth) : Prop := Cond.methodLink own ix Mc.1 ∈ zT ∨ ∃ host, Cond.methodLinkNest own ix Mc.1 host ∈ zNest
theorem zblind {b b0 : Nat} {dC : Nat → ClassId} {dI : Nat → Nat → Nat} {dA : Nat → ClassId} {X : Option (Nat × (Nat → Int32))} {as : List Value} {h : AH} : FrameBlind (zPc b b0 dC dI dA X as h) := fun a U g mk q => by
  obtain ⟨q0, q1, q2, q3, q4, q5, q6, q7⟩ := q
  exact ⟨q0, q1, q2, q3, va_K.moved (u := U) (U := U.calling g mk a) (Vm.Alike.refl U.vm) q4, va_AO.moved (u := U) (U := U.calling g mk a) (Vm.Alike.refl U.vm) q5, zNest_same (s := U) (U := U.calling g mk a) rfl q6, by
    cases X with
    | none => trivial
    | some x => exact ⟨q7.1.moved (U := U.calling g mk a) (Vm.Alike.refl U.vm), q7.2⟩⟩
theorem zq_invSX {X : Option (Nat × (Nat → Int32))} {M : Mth} {d pc : Nat} {ls : List (Nat × Value)} {st : List Value} {h : AH} {Qp : Option Value → AH → Prop} {ix n : Nat} {Mc : Mth} {as stk : List Value} (hstat : Cond.static Mc.1 ∈ zT) (hMc : zMok Mc n) (hl : zML M.1.cls ix Mc) (hn : as.length = n) (hst : (st.map fun v => v.category).sum ≤ 8) (hd : decode M.2.1 pc = .ok (.invokestatic ix, 3)) (hstk : stk = as.reverse ++ st) {Qm : Option Value → AH → Prop} {Y : Option (Nat × (Nat → Int32))} (hm : zKX Y d Mc (as) h Qm) (hYX : zYX Y X) (kk : ∀ r h', Qm r h' → zQ X M (d + 1) (pc + 3) ls (r.toList ++ st) h' Qp) : zQ X M (d + 1) pc ls stk h Qp := by
  subst hstk
  obtain ⟨r0, h0, ⟨⟨t1, t2, t3, -⟩, hM⟩, hq0⟩ := hm
  obtain ⟨r, h1, ⟨⟨s1, s2, s3, s4⟩, hw⟩, hq⟩ := kk r0 h0 hq0
  refine ⟨r, h1, ⟨⟨by omega, by omega, fun z => s3 (t3 z), s4⟩, fun hok b b0 dC dI dA p l e R s m args below meth co H locs cells slots lsA Q hC hH hlv h2 h3 he => ?_⟩, hq⟩
  have hC' := hC
  obtain ⟨hx, hb, hml, hown, hts, hin, hfr, hlo, hbs, hK, hX, hAO, hNe⟩ := hC
  have hcat : ((st.map (zv b b0)).map fun v => v.category) = st.map fun v => v.category := by rw [List.map_map]; exact List.map_congr_left (fun v _ => zv_cat b b0 v)
  have hMet := hM hok l b b0 dC dI dA
  have hgood := zMok_good hMc
  have hMc' := hMc
  obtain ⟨m1, m2, m3, -, m4⟩ := hMc'
  have hR : d + 1 ≤ R.frames ∧ 8 + (Mc.2.2.1 + 11) + 60 * d ≤ R.locals := ⟨hfr, by omega⟩
  refine zsz (h := h) hok hbs hH fun hsz => ?_
  have hsE : s.heap.size ≤ H.size := hH.2.1.1
  have hpre : ∀ U : State, U.heap = H → s.WarmedH U.vm → zPc b b0 dC dI dA Y (as) h ((as).map (zv b b0)).toArray U := fun U hU hW => ⟨rfl, by rw [hU]; omega, by rw [hU]; exact hsz, by rw [hU]; exact hH.1, va_K.moved hW.alike hK, va_AO.moved hW.alike hAO, zNest_warm hW hNe, zX_sub hYX hX hH.2.1 hU hW⟩
  have hstk : (as.reverse ++ st).map (zv b b0) = (as.map (zv b b0)).reverse ++ st.map (zv b b0) := by simp [zv]
  rw [hstk]
  have hf : cells + (h0.n - h.n) ≤ R.cells ∧ slots + (h0.u - h.u) ≤ R.slots := ⟨by omega, by omega⟩
  have hrun : va_Run p l e R s m args below meth co H locs cells slots (h0.n - h.n) (h0.u - h.u) (F0 m pc lsA ((as.map (zv b b0)).reverse ++ st.map (zv b b0))) (st.map (zv b b0)) (zQc b b0 dC dI dA r0 h0 ((as).map (zv b b0)).toArray) (fun q => b0 < q) := by
    rcases hl with hl | ⟨host, hl⟩
    · have cB : CallB R s args M.1.cls ix Mc.1 Mc.2.1 Mc.2.2.1 Mc.2.2.2 (zws Mc) { frames := d, cells := h0.n - h.n, slots := h0.u - h.u, locals := 60 * d } (h0.n - h.n) (h0.u - h.u) n := callB_of n hts hgood rfl rfl rfl (hts _ m2) (hts _ hl) m4 hR
      exact va_runS (As := as.map (zv b b0)) (rest := st.map (zv b b0)) (Ts := zT) (own := M.1.cls) (nL := M.2.2.1) ⟨hx, hb, hml, hown, hts⟩ hMet ⟨cB, hts _ hstat⟩ ⟨zblind, hpre⟩ rfl (by rw [List.length_map]; exact hn) hlv.1 rfl (lv_room (by rw [hcat]; exact hst)) hd hf
    · have cN : va_CN R s args M.1.cls ix Mc.1 host Mc.2.1 Mc.2.2.1 Mc.2.2.2 (zws Mc) { frames := d, cells := h0.n - h.n, slots := h0.u - h.u, locals := 60 * d } (h0.n - h.n) (h0.u - h.u) n :=
        ⟨⟨rfl, rfl, hR.1, hR.2, pay_in hts hgood, List.mem_cons_self⟩, hts _ m1, hts _ m2, ⟨m4.1, m4.2.1⟩, fun sig q => by
          have h2 := m4.2.2
          rw [q] at h2
          exact (Option.some.inj h2).symm, va_Nw.use rfl (hNe _ hl)⟩
      exact va_runSN (As := as.map (zv b b0)) (rest := st.map (zv b b0)) (Ts := zT) (own := M.1.cls) (nL := M.2.2.1) ⟨hx, hb, hml, hown, hts⟩ hMet ⟨cN, hts _ hstat, trivial⟩ ⟨zblind, hpre⟩ rfl (by rw [List.length_map]; exact hn) hlv.1 rfl (lv_room (by rw [hcat]; exact hst)) hd hf
  refine zcall hrun hH.2.1 fun H1 locs1 hP1 hS1 => ?_
  have hcl' := hH.2.2
  have ec : cells + (h0.n - h.n) + (h1.n - h0.n) = cells + (h1.n - h.n) := by omega
  have eu : slots + (h0.u - h.u) + (h1.u - h0.u) = slots + (h1.u - h.u) := by omega
  have := hw (t3 hok) b b0 dC dI dA p l e R s m args below meth co H1 locs1 (cells + (h0.n - h.n)) (slots + (h0.u - h.u)) lsA Q hC' ⟨hP1, hS1, by omega⟩ hlv (by rw [ec]; exact h2) (by rw [eu]; exact h3) (by rw [ec, eu]; exact he)
  have e3 : (r0.toList ++ st).map (zv b b0) = (r0.map (zv b b0)).toList ++ st.map (zv b b0) := by cases r0 <;> simp
  rw [e3] at this
  exact this
theorem zq_invS {X : Option (Nat × (Nat → Int32))} {M : Mth} {d pc : Nat} {ls : List (Nat × Value)} {st : List Value} {h : AH} {Qp : Option Value → AH → Prop} {ix n : Nat} {Mc : Mth} {as stk : List Value} (hstat : Cond.static Mc.1 ∈ zT) (hMc : zMok Mc n) (hl : zML M.1.cls ix Mc) (hn : as.length = n) (hst : (st.map fun v => v.category).sum ≤ 8) (hd : decode M.2.1 pc = .ok (.invokestatic ix, 3)) (hstk : stk = as.reverse ++ st) {Qm : Option Value → AH → Prop} (hm : zK d Mc (as) h Qm) (kk : ∀ r h', Qm r h' → zQ X M (d + 1) (pc + 3) ls (r.toList ++ st) h' Qp) : zQ X M (d + 1) pc ls stk h Qp := zq_invSX hstat hMc hl hn hst hd hstk hm (Or.inl rfl) kk
theorem zq_invSY {X : Option (Nat × (Nat → Int32))} {M : Mth} {d pc : Nat} {ls : List (Nat × Value)} {st : List Value} {h : AH} {Qp : Option Value → AH → Prop} {ix n : Nat} {Mc : Mth} {as stk : List Value} (hstat : Cond.static Mc.1 ∈ zT) (hMc : zMok Mc n) (hl : zML M.1.cls ix Mc) (hn : as.length = n) (hst : (st.map fun v => v.category).sum ≤ 8) (hd : decode M.2.1 pc = .ok (.invokestatic ix, 3)) (hstk : stk = as.reverse ++ st) {Qm : Option Value → AH → Prop} (hm : zKX X d Mc (as) h Qm) (kk : ∀ r h', Qm r h' → zQ X M (d + 1) (pc + 3) ls (r.toList ++ st) h' Qp) : zQ X M (d + 1) pc ls stk h Qp := zq_invSX hstat hMc hl hn hst hd hstk hm (Or.inr rfl) kk
theorem zq_invVX {X : Option (Nat × (Nat → Int32))} {M : Mth} {d pc : Nat} {ls : List (Nat × Value)} {st : List Value} {h : AH} {Qp : Option Value → AH → Prop} {ix n : Nat} {Mc : Mth} {as stk : List Value} {c o : Nat} (hc : c < 10) (hcl : Mc.1.cls = zR c) (hsh : h.sh o = some (.inl c)) (hinst : Cond.instanceMethod Mc.1 ∈ zT) (hsel : Cond.selects Mc.1.cls Mc.1 Mc.1 ∈ zT) (hMc : zMok Mc n) (hl : zML M.1.cls ix Mc) (hn : as.length = n) (hst : (st.map fun v => v.category).sum ≤ 8) (hd : decode M.2.1 pc = .ok (.invokevirtual ix, 3)) (hstk : stk = as.reverse ++ .ref o :: st) {Qm : Option Value → AH → Prop} {Y : Option (Nat × (Nat → Int32))} (hm : zKX Y d Mc (.ref o :: as) h Qm) (hYX : zYX Y X) (kk : ∀ r h', Qm r h' → zQ X M (d + 1) (pc + 3) ls (r.toList ++ st) h' Qp) : zQ X M (d + 1) pc ls stk h Qp := by
  subst hstk
  obtain ⟨r0, h0, ⟨⟨t1, t2, t3, -⟩, hM⟩, hq0⟩ := hm
  obtain ⟨r, h1, ⟨⟨s1, s2, s3, s4⟩, hw⟩, hq⟩ := kk r0 h0 hq0
  refine ⟨r, h1, ⟨⟨by omega, by omega, fun z => s3 (t3 z), s4⟩, fun hok b b0 dC dI dA p l e R s m args below meth co H locs cells slots lsA Q hC hH hlv h2 h3 he => ?_⟩, hq⟩
  have hC' := hC
  obtain ⟨hx, hb, hml, hown, hts, hin, hfr, hlo, hbs, hK, hX, hAO, hNe⟩ := hC
  have hcat : ((st.map (zv b b0)).map fun v => v.category) = st.map fun v => v.category := by rw [List.map_map]; exact List.map_congr_left (fun v _ => zv_cat b b0 v)
  have hMet := hM hok l b b0 dC dI dA
  have hgood := zMok_good hMc
  have hMc' := hMc
  obtain ⟨m1, m2, m3, -, m4⟩ := hMc'
  have hR : d + 1 ≤ R.frames ∧ 8 + (Mc.2.2.1 + 11) + 60 * d ≤ R.locals := ⟨hfr, by omega⟩
  refine zsz (h := h) hok hbs hH fun hsz => ?_
  have hsE : s.heap.size ≤ H.size := hH.2.1.1
  have hpre : ∀ U : State, U.heap = H → s.WarmedH U.vm → zPc b b0 dC dI dA Y (.ref o :: as) h ((.ref o :: as).map (zv b b0)).toArray U := fun U hU hW => ⟨rfl, by rw [hU]; omega, by rw [hU]; exact hsz, by rw [hU]; exact hH.1, va_K.moved hW.alike hK, va_AO.moved hW.alike hAO, zNest_warm hW hNe, zX_sub hYX hX hH.2.1 hU hW⟩
  have hstk : (as.reverse ++ .ref o :: st).map (zv b b0) = (as.map (zv b b0)).reverse ++ .ref (zadr b b0 o) :: st.map (zv b b0) := by simp [zv]
  rw [hstk]
  have hf : cells + (h0.n - h.n) ≤ R.cells ∧ slots + (h0.u - h.u) ≤ R.slots := ⟨by omega, by omega⟩
  have hrun : va_Run p l e R s m args below meth co H locs cells slots (h0.n - h.n) (h0.u - h.u) (F0 m pc lsA ((as.map (zv b b0)).reverse ++ .ref (zadr b b0 o) :: st.map (zv b b0))) (st.map (zv b b0)) (zQc b b0 dC dI dA r0 h0 ((.ref o :: as).map (zv b b0)).toArray) (fun q => b0 < q) := by
    rcases hl with hl | ⟨host, hl⟩
    · have cB : CallB R s args M.1.cls ix Mc.1 Mc.2.1 Mc.2.2.1 Mc.2.2.2 (zws Mc) { frames := d, cells := h0.n - h.n, slots := h0.u - h.u, locals := 60 * d } (h0.n - h.n) (h0.u - h.u) n := callB_of n hts hgood rfl rfl rfl (hts _ m2) (hts _ hl) m4 hR
      exact va_runV (C := Mc.1.cls) (b := zadr b b0 o) (As := as.map (zv b b0)) (rest := st.map (zv b b0)) (Ts := zT) (own := M.1.cls) (nL := M.2.2.1) ⟨hx, hb, hml, hown, hts⟩ hMet ⟨cB, hts _ hinst, hts _ hsel⟩ ⟨zblind, by rw [hcl]; exact va_recv (q := (zR c, zTb c, zN c)) hK hH.1 (zcl_at c hc) (zo_at hok hsh), hpre⟩ rfl (by rw [List.length_map]; exact hn) hlv.1 rfl (lv_room (by rw [hcat]; exact hst)) hd hf
    · have cN : va_CN R s args M.1.cls ix Mc.1 host Mc.2.1 Mc.2.2.1 Mc.2.2.2 (zws Mc) { frames := d, cells := h0.n - h.n, slots := h0.u - h.u, locals := 60 * d } (h0.n - h.n) (h0.u - h.u) n :=
        ⟨⟨rfl, rfl, hR.1, hR.2, pay_in hts hgood, List.mem_cons_self⟩, hts _ m1, hts _ m2, ⟨m4.1, m4.2.1⟩, fun sig q => by
          have h2 := m4.2.2
          rw [q] at h2
          exact (Option.some.inj h2).symm, va_Nw.use rfl (hNe _ hl)⟩
      exact va_runVN (C := Mc.1.cls) (b := zadr b b0 o) (As := as.map (zv b b0)) (rest := st.map (zv b b0)) (Ts := zT) (own := M.1.cls) (nL := M.2.2.1) ⟨hx, hb, hml, hown, hts⟩ hMet ⟨cN, hts _ hinst, hts _ hsel⟩ ⟨zblind, by rw [hcl]; exact va_recv (q := (zR c, zTb c, zN c)) hK hH.1 (zcl_at c hc) (zo_at hok hsh), hpre⟩ rfl (by rw [List.length_map]; exact hn) hlv.1 rfl (lv_room (by rw [hcat]; exact hst)) hd hf
  refine zcall hrun hH.2.1 fun H1 locs1 hP1 hS1 => ?_
  have hcl' := hH.2.2
  have ec : cells + (h0.n - h.n) + (h1.n - h0.n) = cells + (h1.n - h.n) := by omega
  have eu : slots + (h0.u - h.u) + (h1.u - h0.u) = slots + (h1.u - h.u) := by omega
  have := hw (t3 hok) b b0 dC dI dA p l e R s m args below meth co H1 locs1 (cells + (h0.n - h.n)) (slots + (h0.u - h.u)) lsA Q hC' ⟨hP1, hS1, by omega⟩ hlv (by rw [ec]; exact h2) (by rw [eu]; exact h3) (by rw [ec, eu]; exact he)
  have e3 : (r0.toList ++ st).map (zv b b0) = (r0.map (zv b b0)).toList ++ st.map (zv b b0) := by cases r0 <;> simp
  rw [e3] at this
  exact this
theorem zq_invV {X : Option (Nat × (Nat → Int32))} {M : Mth} {d pc : Nat} {ls : List (Nat × Value)} {st : List Value} {h : AH} {Qp : Option Value → AH → Prop} {ix n : Nat} {Mc : Mth} {as stk : List Value} {c o : Nat} (hc : c < 10) (hcl : Mc.1.cls = zR c) (hsh : h.sh o = some (.inl c)) (hinst : Cond.instanceMethod Mc.1 ∈ zT) (hsel : Cond.selects Mc.1.cls Mc.1 Mc.1 ∈ zT) (hMc : zMok Mc n) (hl : zML M.1.cls ix Mc) (hn : as.length = n) (hst : (st.map fun v => v.category).sum ≤ 8) (hd : decode M.2.1 pc = .ok (.invokevirtual ix, 3)) (hstk : stk = as.reverse ++ .ref o :: st) {Qm : Option Value → AH → Prop} (hm : zK d Mc (.ref o :: as) h Qm) (kk : ∀ r h', Qm r h' → zQ X M (d + 1) (pc + 3) ls (r.toList ++ st) h' Qp) : zQ X M (d + 1) pc ls stk h Qp := zq_invVX hc hcl hsh hinst hsel hMc hl hn hst hd hstk hm (Or.inl rfl) kk
theorem zq_invIX {X : Option (Nat × (Nat → Int32))} {M : Mth} {d pc : Nat} {ls : List (Nat × Value)} {st : List Value} {h : AH} {Qp : Option Value → AH → Prop} {ix n : Nat} {Mc : Mth} {as stk : List Value} {o : Nat} (hinst : Cond.instanceMethod Mc.1 ∈ zT) (hnm : Mc.1.name = "<init>") (hrt : Mc.2.2.2 = none) (hMc : zMok Mc n) (hl : zML M.1.cls ix Mc) (hn : as.length = n) (hst : (st.map fun v => v.category).sum ≤ 8) (hd : decode M.2.1 pc = .ok (.invokespecial ix, 3)) (hstk : stk = as.reverse ++ .ref o :: st) {Qm : Option Value → AH → Prop} {Y : Option (Nat × (Nat → Int32))} (hm : zKX Y d Mc (.ref o :: as) h Qm) (hYX : zYX Y X) (kk : ∀ r h', Qm r h' → zQ X M (d + 1) (pc + 3) ls (r.toList ++ st) h' Qp) : zQ X M (d + 1) pc ls stk h Qp := by
  subst hstk
  obtain ⟨r0, h0, ⟨⟨t1, t2, t3, -⟩, hM⟩, hq0⟩ := hm
  obtain ⟨r, h1, ⟨⟨s1, s2, s3, s4⟩, hw⟩, hq⟩ := kk r0 h0 hq0
  refine ⟨r, h1, ⟨⟨by omega, by omega, fun z => s3 (t3 z), s4⟩, fun hok b b0 dC dI dA p l e R s m args below meth co H locs cells slots lsA Q hC hH hlv h2 h3 he => ?_⟩, hq⟩
  have hC' := hC
  obtain ⟨hx, hb, hml, hown, hts, hin, hfr, hlo, hbs, hK, hX, hAO, hNe⟩ := hC
  have hcat : ((st.map (zv b b0)).map fun v => v.category) = st.map fun v => v.category := by rw [List.map_map]; exact List.map_congr_left (fun v _ => zv_cat b b0 v)
  have hMet := hM hok l b b0 dC dI dA
  have hgood := zMok_good hMc
  have hMc' := hMc
  obtain ⟨m1, m2, m3, -, m4⟩ := hMc'
  have hR : d + 1 ≤ R.frames ∧ 8 + (Mc.2.2.1 + 11) + 60 * d ≤ R.locals := ⟨hfr, by omega⟩
  refine zsz (h := h) hok hbs hH fun hsz => ?_
  have hsE : s.heap.size ≤ H.size := hH.2.1.1
  have hpre : ∀ U : State, U.heap = H → s.WarmedH U.vm → zPc b b0 dC dI dA Y (.ref o :: as) h ((.ref o :: as).map (zv b b0)).toArray U := fun U hU hW => ⟨rfl, by rw [hU]; omega, by rw [hU]; exact hsz, by rw [hU]; exact hH.1, va_K.moved hW.alike hK, va_AO.moved hW.alike hAO, zNest_warm hW hNe, zX_sub hYX hX hH.2.1 hU hW⟩
  have hstk : (as.reverse ++ .ref o :: st).map (zv b b0) = (as.map (zv b b0)).reverse ++ .ref (zadr b b0 o) :: st.map (zv b b0) := by simp [zv]
  rw [hstk]
  have hf : cells + (h0.n - h.n) ≤ R.cells ∧ slots + (h0.u - h.u) ≤ R.slots := ⟨by omega, by omega⟩
  have hrun : va_Run p l e R s m args below meth co H locs cells slots (h0.n - h.n) (h0.u - h.u) (F0 m pc lsA ((as.map (zv b b0)).reverse ++ .ref (zadr b b0 o) :: st.map (zv b b0))) (st.map (zv b b0)) (zQc b b0 dC dI dA r0 h0 ((.ref o :: as).map (zv b b0)).toArray) (fun q => b0 < q) := by
    rcases hl with hl | ⟨host, hl⟩
    · have cB : CallB R s args M.1.cls ix Mc.1 Mc.2.1 Mc.2.2.1 Mc.2.2.2 (zws Mc) { frames := d, cells := h0.n - h.n, slots := h0.u - h.u, locals := 60 * d } (h0.n - h.n) (h0.u - h.u) n := callB_of n hts hgood rfl rfl rfl (hts _ m2) (hts _ hl) m4 hR
      exact va_runI (b := zadr b b0 o) (As := as.map (zv b b0)) (rest := st.map (zv b b0)) (Ts := zT) (own := M.1.cls) (nL := M.2.2.1) ⟨hx, hb, hml, hown, hts⟩ hMet ⟨hrt ▸ cB, hnm, hts _ hinst⟩ ⟨zblind, hpre⟩ rfl (by rw [List.length_map]; exact hn) hlv.1 rfl (lv_room (by rw [hcat]; exact hst)) hd hf
    · have cN : va_CN R s args M.1.cls ix Mc.1 host Mc.2.1 Mc.2.2.1 Mc.2.2.2 (zws Mc) { frames := d, cells := h0.n - h.n, slots := h0.u - h.u, locals := 60 * d } (h0.n - h.n) (h0.u - h.u) n :=
        ⟨⟨rfl, rfl, hR.1, hR.2, pay_in hts hgood, List.mem_cons_self⟩, hts _ m1, hts _ m2, ⟨m4.1, m4.2.1⟩, fun sig q => by
          have h2 := m4.2.2
          rw [q] at h2
          exact (Option.some.inj h2).symm, va_Nw.use rfl (hNe _ hl)⟩
      exact va_runIN (b := zadr b b0 o) (As := as.map (zv b b0)) (rest := st.map (zv b b0)) (Ts := zT) (own := M.1.cls) (nL := M.2.2.1) ⟨hx, hb, hml, hown, hts⟩ hMet ⟨hrt ▸ cN, hnm, hts _ hinst⟩ ⟨zblind, hpre⟩ rfl (by rw [List.length_map]; exact hn) hlv.1 rfl (lv_room (by rw [hcat]; exact hst)) hd hf
  refine zcall hrun hH.2.1 fun H1 locs1 hP1 hS1 => ?_
  have hcl' := hH.2.2
  have ec : cells + (h0.n - h.n) + (h1.n - h0.n) = cells + (h1.n - h.n) := by omega
  have eu : slots + (h0.u - h.u) + (h1.u - h0.u) = slots + (h1.u - h.u) := by omega
  have := hw (t3 hok) b b0 dC dI dA p l e R s m args below meth co H1 locs1 (cells + (h0.n - h.n)) (slots + (h0.u - h.u)) lsA Q hC' ⟨hP1, hS1, by omega⟩ hlv (by rw [ec]; exact h2) (by rw [eu]; exact h3) (by rw [ec, eu]; exact he)
  have e3 : (r0.toList ++ st).map (zv b b0) = (r0.map (zv b b0)).toList ++ st.map (zv b b0) := by cases r0 <;> simp
  rw [e3] at this
  exact this
theorem zq_invI {X : Option (Nat × (Nat → Int32))} {M : Mth} {d pc : Nat} {ls : List (Nat × Value)} {st : List Value} {h : AH} {Qp : Option Value → AH → Prop} {ix n : Nat} {Mc : Mth} {as stk : List Value} {o : Nat} (hinst : Cond.instanceMethod Mc.1 ∈ zT) (hnm : Mc.1.name = "<init>") (hrt : Mc.2.2.2 = none) (hMc : zMok Mc n) (hl : zML M.1.cls ix Mc) (hn : as.length = n) (hst : (st.map fun v => v.category).sum ≤ 8) (hd : decode M.2.1 pc = .ok (.invokespecial ix, 3)) (hstk : stk = as.reverse ++ .ref o :: st) {Qm : Option Value → AH → Prop} (hm : zK d Mc (.ref o :: as) h Qm) (kk : ∀ r h', Qm r h' → zQ X M (d + 1) (pc + 3) ls (r.toList ++ st) h' Qp) : zQ X M (d + 1) pc ls stk h Qp := zq_invIX hinst hnm hrt hMc hl hn hst hd hstk hm (Or.inl rfl) kk
