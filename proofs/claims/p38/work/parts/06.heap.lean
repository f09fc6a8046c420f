theorem zo_w1 : Cond.instanceMethod objectInit ∈ zT := zT_1 (i := 24) rfl rfl
theorem zo_w2 : Cond.code objectInit ⟨#[0xb1]⟩ 1 none ∈ zT := zT_1 (i := 25) rfl rfl
theorem zac_w1 : Cond.native arraycopyName ∈ zT := zT_2 (i := 71) rfl rfl
theorem zac_w2 : Cond.static arraycopyName ∈ zT := zT_2 (i := 70) rfl rfl
theorem zac_w3 : Cond.initialized "java/lang/System" ∈ zT := zT_1 (i := 12) rfl rfl
theorem zar_int : Cond.arrayClass (newarray.typeOf .int) ∈ zT := zT_1 (i := 48) rfl rfl
theorem zar_long : Cond.arrayClass (newarray.typeOf .long) ∈ zT := zT_1 (i := 47) rfl rfl
theorem zar_byte : Cond.arrayClass (newarray.typeOf .byte) ∈ zT := zT_1 (i := 166) rfl rfl
def zmmax (x y : Int32) : Int32 := if x < y then y else x
def zmmin (x y : Int32) : Int32 := if y < x then y else x
def zmabs (x : Int32) : Int32 := if 0 ≤ x then x else 0 - x
/-! fields -/
def zFL (own : String) (ix c k : Nat) : Prop := c < 10 ∧ k < zN c ∧ Cond.fieldLink own ix (zTb c k).1 (zTb c k).2.1 (zTb c k).2.2.1 ∈ zT
theorem zo_at {b b0 : Nat} {dA : Nat → ClassId} {h : AH} {o c : Nat} (hok : h.ok) (hs : h.sh o = some (.inl c)) : (zw b b0 dA h)[o - 1]? = some (zadr b b0 o, .inr (c, zfs b b0 h o c)) := by rw [zw_at hok hs, zcell_o hs]
theorem za_at {b b0 : Nat} {dA : Nat → ClassId} {h : AH} {o t n : Nat} (hok : h.ok) (hs : h.sh o = some (.inr (t, n))) : (zw b b0 dA h)[o - 1]? = some (zadr b b0 o, .inl (dA t, (n, zct b b0 h o t))) := by rw [zw_at hok hs, zcell_a hs]
theorem zpos {h : AH} {o : Nat} {x : Shp} (hok : h.ok) (hs : h.sh o = some x) : 0 < o := ((hok.2 o).mp (by rw [hs]; rfl)).1
theorem zq_getI {X : Option (Nat × (Nat → Int32))} {M : Mth} {d pc : Nat} {ls : List (Nat × Value)} {st : List Value} {h : AH} {Qp : Option Value → AH → Prop} {ix c o k : Nat} (hl : zFL M.1.cls ix c k) (hkd : zkd (zty c k) = 0) (hs : h.sh o = some (.inl c)) (hd : decode M.2.1 pc = .ok (.getfield ix, 3)) (kk : zQ X M d (pc + 3) ls (.int (h.I o k) :: st) h Qp) : zQ X M d pc ls (.ref o :: st) h Qp :=
  zq_move (fun hok b b0 dC dI dA p l e R s m args below meth co H locs cells slots lsA Q hC hH hlv kq => by
    obtain ⟨hx, hb, hml, hown, hts, hin, hfr, hlo, hbs, hK, hX, hAO, hNe⟩ := hC
    exact va_get (D := (dC, dI)) (ci := c) (v := .int (h.I o k)) (C := zR c) (T := zTb c) (N := zN c) hx hb hts (zcl_ws c hl.1) hown hK hH.1 (o - 1) (zo_at hok hs) (zcl_at c hl.1) k hl.2.1 (hts _ hl.2.2) (fun _ q => q) (by rw [zfs_get hl.2.1]; simp [zcf, hkd]) hd (kq lsA hlv)) kk
theorem zq_getL {X : Option (Nat × (Nat → Int32))} {M : Mth} {d pc : Nat} {ls : List (Nat × Value)} {st : List Value} {h : AH} {Qp : Option Value → AH → Prop} {ix c o k : Nat} (hl : zFL M.1.cls ix c k) (hkd : zkd (zty c k) = 1) (hs : h.sh o = some (.inl c)) (hd : decode M.2.1 pc = .ok (.getfield ix, 3)) (kk : zQ X M d (pc + 3) ls (.long (h.L o k) :: st) h Qp) : zQ X M d pc ls (.ref o :: st) h Qp :=
  zq_move (fun hok b b0 dC dI dA p l e R s m args below meth co H locs cells slots lsA Q hC hH hlv kq => by
    obtain ⟨hx, hb, hml, hown, hts, hin, hfr, hlo, hbs, hK, hX, hAO, hNe⟩ := hC
    exact va_get (D := (dC, dI)) (ci := c) (v := .long (h.L o k)) (C := zR c) (T := zTb c) (N := zN c) hx hb hts (zcl_ws c hl.1) hown hK hH.1 (o - 1) (zo_at hok hs) (zcl_at c hl.1) k hl.2.1 (hts _ hl.2.2) (fun _ q => q) (by rw [zfs_get hl.2.1]; simp [zcf, hkd]) hd (kq lsA hlv)) kk
theorem zq_getP {X : Option (Nat × (Nat → Int32))} {M : Mth} {d pc : Nat} {ls : List (Nat × Value)} {st : List Value} {h : AH} {Qp : Option Value → AH → Prop} {ix c o k q : Nat} (hl : zFL M.1.cls ix c k) (hkd : zkd (zty c k) = 2) (hs : h.sh o = some (.inl c)) (hp : h.P o k = some q) (hd : decode M.2.1 pc = .ok (.getfield ix, 3)) (kk : zQ X M d (pc + 3) ls (.ref q :: st) h Qp) : zQ X M d pc ls (.ref o :: st) h Qp :=
  zq_move (fun hok b b0 dC dI dA p l e R s m args below meth co H locs cells slots lsA Q hC hH hlv kq => by
    obtain ⟨hx, hb, hml, hown, hts, hin, hfr, hlo, hbs, hK, hX, hAO, hNe⟩ := hC
    exact va_get (D := (dC, dI)) (ci := c) (v := .ref (zadr b b0 q)) (C := zR c) (T := zTb c) (N := zN c) hx hb hts (zcl_ws c hl.1) hown hK hH.1 (o - 1) (zo_at hok hs) (zcl_at c hl.1) k hl.2.1 (hts _ hl.2.2) (fun _ q => q) (by rw [zfs_get hl.2.1]; simp [zcf, hkd, hp, va_rf]) hd (kq lsA hlv)) kk
theorem zq_putI {X : Option (Nat × (Nat → Int32))} {M : Mth} {d pc : Nat} {ls : List (Nat × Value)} {st : List Value} {h : AH} {Qp : Option Value → AH → Prop} {ix c o k : Nat} {x : Int32} (hl : zFL M.1.cls ix c k) (hkd : zkd (zty c k) = 0) (hf : (zTb c k).2.2.2 = false ∨ (M.1.name = "<init>" ∧ zR c = M.1.cls ∧ (zTb c k).2.2.2 = true)) (hs : h.sh o = some (.inl c)) (hn : narrow (zty c k) (.int x) = .int x) (hft : fits (zty c k) (.int x) = true) (hd : decode M.2.1 pc = .ok (.putfield ix, 3)) (kk : ∀ h1, h1 = h.sI o k x → zQ X M d (pc + 3) ls st h1 Qp) : zQ X M d pc ls (.int x :: .ref o :: st) h Qp :=
  zq_heap (h' := h.sI o k x) rfl rfl id (fun hok b b0 dC dI dA p l e R s m args below meth co H locs cells slots lsA Q hC hH hlv kq => by
    obtain ⟨hx, hb, hml, hown, hts, hin, hfr, hlo, hbs, hK, hX, hAO, hNe⟩ := hC
    have e1 : (zw b b0 dA h).set (o - 1) (zadr b b0 o, .inr (c, (zfs b b0 h o c).set k (.int x))) = zw b b0 dA (h.sI o k x) := by
      have e2 : zcell b b0 dA (h.sI o k x) o = .inr (c, (zfs b b0 h o c).set k (.int x)) := by
        rw [zcell_o (h := h.sI o k x) (c := c) hs]; congr 2; symm; exact zfs_sI (x := x) hkd
      rw [← e2]
      exact zw_set (h' := h.sI o k x) rfl zc_wI (zpos hok hs)
    have hn' : narrow (zty c k) (Value.int x) = Value.int x := hn
    have hft' : fits (zty c k) (Value.int x) = true := hft
    have hlen : k < (zfs b b0 h o c).length := by simp [zfs]; exact hl.2.1
    rcases hf with hf | ⟨f1, f2, f3⟩
    · exact va_put (D := (dC, dI)) (ci := c) (v := .int x) (ty := zty c k) (C := zR c) (T := zTb c) (N := zN c) hx hb hts (zcl_ws c hl.1) (zty c) (zcl_ty c hl.1) (zcl_nm c hl.1) hown hK hH.1 zw_D hH.2.1 (o - 1) (zo_at hok hs) (zcl_at c hl.1) k hl.2.1 (hts _ hl.2.2) (fun _ q => q) hf (zcl_ty c hl.1 k hl.2.1) hn' hft' hlen hd (fun H1 locs1 hP1 _ hS1 => kq H1 locs1 (e1 ▸ hP1) hS1)
    · exact va_putF (D := (dC, dI)) (ci := c) (v := .int x) (ty := zty c k) (C := zR c) (T := zTb c) (N := zN c) hx hb hts (zcl_ws c hl.1) (zty c) (zcl_ty c hl.1) (zcl_nm c hl.1) hown hK hH.1 zw_D hH.2.1 (o - 1) (zo_at hok hs) (zcl_at c hl.1) k hl.2.1 (hts _ hl.2.2) (fun _ q => q) f3 (hin f1) ((zcl_own c hl.1 k hl.2.1).trans f2) (zcl_ty c hl.1 k hl.2.1) hn' hft' hlen hd (fun H1 locs1 hP1 _ hS1 => kq H1 locs1 (e1 ▸ hP1) hS1)) (kk _ rfl)
theorem zq_putL {X : Option (Nat × (Nat → Int32))} {M : Mth} {d pc : Nat} {ls : List (Nat × Value)} {st : List Value} {h : AH} {Qp : Option Value → AH → Prop} {ix c o k : Nat} {x : Int64} (hl : zFL M.1.cls ix c k) (hkd : zkd (zty c k) = 1) (hf : (zTb c k).2.2.2 = false ∨ (M.1.name = "<init>" ∧ zR c = M.1.cls ∧ (zTb c k).2.2.2 = true)) (hs : h.sh o = some (.inl c))  (hd : decode M.2.1 pc = .ok (.putfield ix, 3)) (kk : ∀ h1, h1 = h.sL o k x → zQ X M d (pc + 3) ls st h1 Qp) : zQ X M d pc ls (.long x :: .ref o :: st) h Qp :=
  zq_heap (h' := h.sL o k x) rfl rfl id (fun hok b b0 dC dI dA p l e R s m args below meth co H locs cells slots lsA Q hC hH hlv kq => by
    obtain ⟨hx, hb, hml, hown, hts, hin, hfr, hlo, hbs, hK, hX, hAO, hNe⟩ := hC
    have e1 : (zw b b0 dA h).set (o - 1) (zadr b b0 o, .inr (c, (zfs b b0 h o c).set k (.long x))) = zw b b0 dA (h.sL o k x) := by
      have e2 : zcell b b0 dA (h.sL o k x) o = .inr (c, (zfs b b0 h o c).set k (.long x)) := by
        rw [zcell_o (h := h.sL o k x) (c := c) hs]; congr 2; symm; exact zfs_sL (x := x) hkd
      rw [← e2]
      exact zw_set (h' := h.sL o k x) rfl zc_wL (zpos hok hs)
    have hty : zty c k = .long := by revert hkd; cases zty c k <;> simp [zkd]
    have hn' : narrow (zty c k) (Value.long x) = Value.long x := by rw [hty]; rfl
    have hft' : fits (zty c k) (Value.long x) = true := by rw [hty]; rfl
    have hlen : k < (zfs b b0 h o c).length := by simp [zfs]; exact hl.2.1
    rcases hf with hf | ⟨f1, f2, f3⟩
    · exact va_put (D := (dC, dI)) (ci := c) (v := .long x) (ty := zty c k) (C := zR c) (T := zTb c) (N := zN c) hx hb hts (zcl_ws c hl.1) (zty c) (zcl_ty c hl.1) (zcl_nm c hl.1) hown hK hH.1 zw_D hH.2.1 (o - 1) (zo_at hok hs) (zcl_at c hl.1) k hl.2.1 (hts _ hl.2.2) (fun _ q => q) hf (zcl_ty c hl.1 k hl.2.1) hn' hft' hlen hd (fun H1 locs1 hP1 _ hS1 => kq H1 locs1 (e1 ▸ hP1) hS1)
    · exact va_putF (D := (dC, dI)) (ci := c) (v := .long x) (ty := zty c k) (C := zR c) (T := zTb c) (N := zN c) hx hb hts (zcl_ws c hl.1) (zty c) (zcl_ty c hl.1) (zcl_nm c hl.1) hown hK hH.1 zw_D hH.2.1 (o - 1) (zo_at hok hs) (zcl_at c hl.1) k hl.2.1 (hts _ hl.2.2) (fun _ q => q) f3 (hin f1) ((zcl_own c hl.1 k hl.2.1).trans f2) (zcl_ty c hl.1 k hl.2.1) hn' hft' hlen hd (fun H1 locs1 hP1 _ hS1 => kq H1 locs1 (e1 ▸ hP1) hS1)) (kk _ rfl)
theorem zq_putP {X : Option (Nat × (Nat → Int32))} {M : Mth} {d pc : Nat} {ls : List (Nat × Value)} {st : List Value} {h : AH} {Qp : Option Value → AH → Prop} {ix c o k : Nat} {x : Nat} (hl : zFL M.1.cls ix c k) (hkd : zkd (zty c k) = 2) (hf : (zTb c k).2.2.2 = false ∨ (M.1.name = "<init>" ∧ zR c = M.1.cls ∧ (zTb c k).2.2.2 = true)) (hs : h.sh o = some (.inl c))  (hd : decode M.2.1 pc = .ok (.putfield ix, 3)) (kk : ∀ h1, h1 = h.sP o k (some x) → zQ X M d (pc + 3) ls st h1 Qp) : zQ X M d pc ls (.ref x :: .ref o :: st) h Qp :=
  zq_heap (h' := h.sP o k (some x)) rfl rfl id (fun hok b b0 dC dI dA p l e R s m args below meth co H locs cells slots lsA Q hC hH hlv kq => by
    obtain ⟨hx, hb, hml, hown, hts, hin, hfr, hlo, hbs, hK, hX, hAO, hNe⟩ := hC
    have e1 : (zw b b0 dA h).set (o - 1) (zadr b b0 o, .inr (c, (zfs b b0 h o c).set k (.ref (zadr b b0 x)))) = zw b b0 dA (h.sP o k (some x)) := by
      have e2 : zcell b b0 dA (h.sP o k (some x)) o = .inr (c, (zfs b b0 h o c).set k (.ref (zadr b b0 x))) := by
        rw [zcell_o (h := h.sP o k (some x)) (c := c) hs]; congr 2; symm; exact zfs_sP (x := some x) hkd
      rw [← e2]
      exact zw_set (h' := h.sP o k (some x)) rfl zc_wP (zpos hok hs)
    have hn' : narrow (zty c k) (Value.ref (zadr b b0 x)) = Value.ref (zadr b b0 x) := by revert hkd; cases zty c k <;> simp [zkd, narrow]
    have hft' : fits (zty c k) (Value.ref (zadr b b0 x)) = true := by revert hkd; cases zty c k <;> simp [zkd, fits]
    have hlen : k < (zfs b b0 h o c).length := by simp [zfs]; exact hl.2.1
    rcases hf with hf | ⟨f1, f2, f3⟩
    · exact va_put (D := (dC, dI)) (ci := c) (v := .ref (zadr b b0 x)) (ty := zty c k) (C := zR c) (T := zTb c) (N := zN c) hx hb hts (zcl_ws c hl.1) (zty c) (zcl_ty c hl.1) (zcl_nm c hl.1) hown hK hH.1 zw_D hH.2.1 (o - 1) (zo_at hok hs) (zcl_at c hl.1) k hl.2.1 (hts _ hl.2.2) (fun _ q => q) hf (zcl_ty c hl.1 k hl.2.1) hn' hft' hlen hd (fun H1 locs1 hP1 _ hS1 => kq H1 locs1 (e1 ▸ hP1) hS1)
    · exact va_putF (D := (dC, dI)) (ci := c) (v := .ref (zadr b b0 x)) (ty := zty c k) (C := zR c) (T := zTb c) (N := zN c) hx hb hts (zcl_ws c hl.1) (zty c) (zcl_ty c hl.1) (zcl_nm c hl.1) hown hK hH.1 zw_D hH.2.1 (o - 1) (zo_at hok hs) (zcl_at c hl.1) k hl.2.1 (hts _ hl.2.2) (fun _ q => q) f3 (hin f1) ((zcl_own c hl.1 k hl.2.1).trans f2) (zcl_ty c hl.1 k hl.2.1) hn' hft' hlen hd (fun H1 locs1 hP1 _ hS1 => kq H1 locs1 (e1 ▸ hP1) hS1)) (kk _ rfl)
/-! rows -/
theorem zct_0 {b b0 : Nat} {h : AH} {k : Nat} : zct b b0 h k 0 = .inl (h.I k) := rfl
theorem zct_1 {b b0 : Nat} {h : AH} {k : Nat} : zct b b0 h k 1 = .inr (.inl (h.L k)) := rfl
theorem zct_2 {b b0 : Nat} {h : AH} {k : Nat} : zct b b0 h k 2 = .inl (h.I k) := rfl
theorem zct_3 {b b0 : Nat} {h : AH} {k : Nat} : zct b b0 h k 3 = .inr (.inr (.inr (.inr fun j => (h.P k j).map (zadr b b0)))) := rfl
theorem AH.wI_I {h : AH} {k : Nat} {f : Nat → Int32} : (h.wI k f).I k = f := va_up_self _ _ _
theorem AH.wL_L {h : AH} {k : Nat} {f : Nat → Int64} : (h.wL k f).L k = f := va_up_self _ _ _
theorem AH.wP_P {h : AH} {k : Nat} {f : Nat → Option Nat} : (h.wP k f).P k = f := va_up_self _ _ _
theorem zq_iald {X : Option (Nat × (Nat → Int32))} {M : Mth} {d pc : Nat} {ls : List (Nat × Value)} {st : List Value} {h : AH} {Qp : Option Value → AH → Prop} {o n : Nat} {i : Int32} (hs : h.sh o = some (.inr (0, n))) (hi : vp_in i n) (hd : decode M.2.1 pc = .ok (.iaload, 1)) (kk : zQ X M d (pc + 1) ls (.int (h.I o i.toNatClampNeg) :: st) h Qp) : zQ X M d pc ls (.int i :: .ref o :: st) h Qp :=
  zq_move (fun hok b b0 dC dI dA p l e R s m args below meth co H locs cells slots lsA Q hC hH hlv kq => by
    obtain ⟨hx, hb, hml, hown, hts, hin, hfr, hlo, hbs, hK, hX, hAO, hNe⟩ := hC
    exact va_iald (D := (dC, dI)) hx hb hK hH.1 (o - 1) 0 (za_at hok hs) rfl hi hd (kq lsA hlv)) kk
theorem zq_bald {X : Option (Nat × (Nat → Int32))} {M : Mth} {d pc : Nat} {ls : List (Nat × Value)} {st : List Value} {h : AH} {Qp : Option Value → AH → Prop} {o n : Nat} {i : Int32} (hs : h.sh o = some (.inr (2, n))) (hi : vp_in i n) (hd : decode M.2.1 pc = .ok (.baload, 1)) (kk : zQ X M d (pc + 1) ls (.int (h.I o i.toNatClampNeg) :: st) h Qp) : zQ X M d pc ls (.int i :: .ref o :: st) h Qp :=
  zq_move (fun hok b b0 dC dI dA p l e R s m args below meth co H locs cells slots lsA Q hC hH hlv kq => by
    obtain ⟨hx, hb, hml, hown, hts, hin, hfr, hlo, hbs, hK, hX, hAO, hNe⟩ := hC
    exact va_bald (D := (dC, dI)) hx hb hK hH.1 (o - 1) 2 (za_at hok hs) rfl hi hd (kq lsA hlv)) kk
theorem zq_lald {X : Option (Nat × (Nat → Int32))} {M : Mth} {d pc : Nat} {ls : List (Nat × Value)} {st : List Value} {h : AH} {Qp : Option Value → AH → Prop} {o n : Nat} {i : Int32} (hs : h.sh o = some (.inr (1, n))) (hi : vp_in i n) (hd : decode M.2.1 pc = .ok (.laload, 1)) (kk : zQ X M d (pc + 1) ls (.long (h.L o i.toNatClampNeg) :: st) h Qp) : zQ X M d pc ls (.int i :: .ref o :: st) h Qp :=
  zq_move (fun hok b b0 dC dI dA p l e R s m args below meth co H locs cells slots lsA Q hC hH hlv kq => by
    obtain ⟨hx, hb, hml, hown, hts, hin, hfr, hlo, hbs, hK, hX, hAO, hNe⟩ := hC
    exact va_lald (D := (dC, dI)) hx hb hK hH.1 (o - 1) 1 (za_at hok hs) rfl hi hd (kq lsA hlv)) kk
theorem zq_aald {X : Option (Nat × (Nat → Int32))} {M : Mth} {d pc : Nat} {ls : List (Nat × Value)} {st : List Value} {h : AH} {Qp : Option Value → AH → Prop} {o n q : Nat} {i : Int32} (hs : h.sh o = some (.inr (3, n))) (hi : vp_in i n) (hq : h.P o i.toNatClampNeg = some q) (hd : decode M.2.1 pc = .ok (.aaload, 1)) (kk : zQ X M d (pc + 1) ls (.ref q :: st) h Qp) : zQ X M d pc ls (.int i :: .ref o :: st) h Qp :=
  zq_move (fun hok b b0 dC dI dA p l e R s m args below meth co H locs cells slots lsA Q hC hH hlv kq => by
    obtain ⟨hx, hb, hml, hown, hts, hin, hfr, hlo, hbs, hK, hX, hAO, hNe⟩ := hC
    refine va_aldq (D := (dC, dI)) hx hb hK hH.1 (o - 1) 3 (za_at hok hs) rfl hi hd ?_
    rw [hq]
    exact kq lsA hlv) kk
theorem zupd (f : Nat → Int32) (k : Nat) (x : Int32) : upd f k x = va_up f k x := rfl
theorem zupdL (f : Nat → Int64) (k : Nat) (x : Int64) : vp_updL f k x = va_up f k x := rfl
theorem zq_iast {X : Option (Nat × (Nat → Int32))} {M : Mth} {d pc : Nat} {ls : List (Nat × Value)} {st : List Value} {h : AH} {Qp : Option Value → AH → Prop} {o n : Nat} {i : Int32} {x : Int32} (hs : h.sh o = some (.inr (0, n))) (hi : vp_in i n) (hd : decode M.2.1 pc = .ok (.iastore, 1)) (kk : ∀ h1, h1 = h.sI o i.toNatClampNeg x → zQ X M d (pc + 1) ls st h1 Qp) : zQ X M d pc ls (.int x :: .int i :: .ref o :: st) h Qp :=
  zq_heap (h' := h.sI o i.toNatClampNeg x) rfl rfl id (fun hok b b0 dC dI dA p l e R s m args below meth co H locs cells slots lsA Q hC hH hlv kq => by
    obtain ⟨hx, hb, hml, hown, hts, hin, hfr, hlo, hbs, hK, hX, hAO, hNe⟩ := hC
    have e1 : (zw b b0 dA h).set (o - 1) (zadr b b0 o, .inl (dA 0, (n, zct b b0 (h.sI o i.toNatClampNeg x) o 0))) = zw b b0 dA (h.sI o i.toNatClampNeg x) := by
      rw [← zcell_a (h := h.sI o i.toNatClampNeg x) (t := 0) (len := n) hs]
      exact zw_set (h' := h.sI o i.toNatClampNeg x) rfl zc_wI (zpos hok hs)
    have e3 : zct b b0 (h.sI o i.toNatClampNeg x) o 0 = .inl (upd (h.I o) i.toNatClampNeg x) := by rw [zct_0]; exact congrArg Sum.inl AH.wI_I
    refine va_iast (D := (dC, dI)) hx hb hK hH.1 zw_D hH.2.1 (o - 1) 0 (za_at hok hs) rfl hi hd (fun H1 locs1 hP1 _ hS1 => kq H1 locs1 ?_ hS1)
    rw [← e1, e3]
    exact hP1) (kk _ rfl)
theorem zq_bast {X : Option (Nat × (Nat → Int32))} {M : Mth} {d pc : Nat} {ls : List (Nat × Value)} {st : List Value} {h : AH} {Qp : Option Value → AH → Prop} {o n : Nat} {i : Int32} {x : Int32} (hs : h.sh o = some (.inr (2, n))) (hi : vp_in i n) (hd : decode M.2.1 pc = .ok (.bastore, 1)) (kk : ∀ h1, h1 = h.sI o i.toNatClampNeg x.toInt8.toInt32 → zQ X M d (pc + 1) ls st h1 Qp) : zQ X M d pc ls (.int x :: .int i :: .ref o :: st) h Qp :=
  zq_heap (h' := h.sI o i.toNatClampNeg x.toInt8.toInt32) rfl rfl id (fun hok b b0 dC dI dA p l e R s m args below meth co H locs cells slots lsA Q hC hH hlv kq => by
    obtain ⟨hx, hb, hml, hown, hts, hin, hfr, hlo, hbs, hK, hX, hAO, hNe⟩ := hC
    have e1 : (zw b b0 dA h).set (o - 1) (zadr b b0 o, .inl (dA 2, (n, zct b b0 (h.sI o i.toNatClampNeg x.toInt8.toInt32) o 2))) = zw b b0 dA (h.sI o i.toNatClampNeg x.toInt8.toInt32) := by
      rw [← zcell_a (h := h.sI o i.toNatClampNeg x.toInt8.toInt32) (t := 2) (len := n) hs]
      exact zw_set (h' := h.sI o i.toNatClampNeg x.toInt8.toInt32) rfl zc_wI (zpos hok hs)
    have e3 : zct b b0 (h.sI o i.toNatClampNeg x.toInt8.toInt32) o 2 = .inl (upd (h.I o) i.toNatClampNeg x.toInt8.toInt32) := by rw [zct_2]; exact congrArg Sum.inl AH.wI_I
    refine va_bast (D := (dC, dI)) hx hb hK hH.1 zw_D hH.2.1 (o - 1) 2 (za_at hok hs) rfl hi hd (fun H1 locs1 hP1 _ hS1 => kq H1 locs1 ?_ hS1)
    rw [← e1, e3]
    rw [vp_nar_byte] at hP1; exact hP1) (kk _ rfl)
theorem zq_last {X : Option (Nat × (Nat → Int32))} {M : Mth} {d pc : Nat} {ls : List (Nat × Value)} {st : List Value} {h : AH} {Qp : Option Value → AH → Prop} {o n : Nat} {i : Int32} {x : Int64} (hs : h.sh o = some (.inr (1, n))) (hi : vp_in i n) (hd : decode M.2.1 pc = .ok (.lastore, 1)) (kk : ∀ h1, h1 = h.sL o i.toNatClampNeg x → zQ X M d (pc + 1) ls st h1 Qp) : zQ X M d pc ls (.long x :: .int i :: .ref o :: st) h Qp :=
  zq_heap (h' := h.sL o i.toNatClampNeg x) rfl rfl id (fun hok b b0 dC dI dA p l e R s m args below meth co H locs cells slots lsA Q hC hH hlv kq => by
    obtain ⟨hx, hb, hml, hown, hts, hin, hfr, hlo, hbs, hK, hX, hAO, hNe⟩ := hC
    have e1 : (zw b b0 dA h).set (o - 1) (zadr b b0 o, .inl (dA 1, (n, zct b b0 (h.sL o i.toNatClampNeg x) o 1))) = zw b b0 dA (h.sL o i.toNatClampNeg x) := by
      rw [← zcell_a (h := h.sL o i.toNatClampNeg x) (t := 1) (len := n) hs]
      exact zw_set (h' := h.sL o i.toNatClampNeg x) rfl zc_wL (zpos hok hs)
    have e3 : zct b b0 (h.sL o i.toNatClampNeg x) o 1 = .inr (.inl (vp_updL (h.L o) i.toNatClampNeg x)) := by rw [zct_1]; exact congrArg (fun f => Sum.inr (Sum.inl f)) AH.wL_L
    refine va_last (D := (dC, dI)) hx hb hK hH.1 zw_D hH.2.1 (o - 1) 1 (za_at hok hs) rfl hi hd (fun H1 locs1 hP1 _ hS1 => kq H1 locs1 ?_ hS1)
    rw [← e1, e3]
    exact hP1) (kk _ rfl)
theorem zq_aast {X : Option (Nat × (Nat → Int32))} {M : Mth} {d pc : Nat} {ls : List (Nat × Value)} {st : List Value} {h : AH} {Qp : Option Value → AH → Prop} {o n q : Nat} {i : Int32} (hs : h.sh o = some (.inr (3, n))) (hi : vp_in i n) (hq : h.sh q = some (.inl 7)) (hd : decode M.2.1 pc = .ok (.aastore, 1)) (kk : ∀ h1, h1 = h.sP o i.toNatClampNeg (some q) → zQ X M d (pc + 1) ls st h1 Qp) : zQ X M d pc ls (.ref q :: .int i :: .ref o :: st) h Qp :=
  zq_heap (h' := h.sP o i.toNatClampNeg (some q)) rfl rfl id (fun hok b b0 dC dI dA p l e R s m args below meth co H locs cells slots lsA Q hC hH hlv kq => by
    obtain ⟨hx, hb, hml, hown, hts, hin, hfr, hlo, hbs, hK, hX, hAO, hNe⟩ := hC
    have e1 : (zw b b0 dA h).set (o - 1) (zadr b b0 o, .inl (dA 3, (n, zct b b0 (h.sP o i.toNatClampNeg (some q)) o 3))) = zw b b0 dA (h.sP o i.toNatClampNeg (some q)) := by
      rw [← zcell_a (h := h.sP o i.toNatClampNeg (some q)) (t := 3) (len := n) hs]
      exact zw_set (h' := h.sP o i.toNatClampNeg (some q)) rfl zc_wP (zpos hok hs)
    refine va_astq (D := (dC, dI)) (r := (zR 7, zTb 7, zN 7)) hx hb hK hH.1 zw_D hH.2.1 (o - 1) 3 (q - 1) 7 (za_at hok hs) rfl (zo_at hok hq) rfl hi hd (fun H1 locs1 hP1 _ hS1 => kq H1 locs1 ?_ hS1)
    rw [← e1]
    have e2 : zct b b0 (h.sP o i.toNatClampNeg (some q)) o 3 = .inr (.inr (.inr (.inr (va_up (fun j => (h.P o j).map (zadr b b0)) i.toNatClampNeg (some (zadr b b0 q)))))) := by
      rw [zct_3]
      refine congrArg (fun f => Sum.inr (Sum.inr (Sum.inr (Sum.inr f)))) (funext fun j => ?_)
      show ((h.sP o i.toNatClampNeg (some q)).P o j).map _ = _
      rw [show (h.sP o i.toNatClampNeg (some q)).P o = _ from AH.wP_P]
      by_cases hj : j = i.toNatClampNeg
      · subst hj; simp [va_up_self]
      · simp [va_up_ne _ _ hj]
    rw [e2]
    exact hP1) (kk _ rfl)
theorem zq_alen {X : Option (Nat × (Nat → Int32))} {M : Mth} {d pc : Nat} {ls : List (Nat × Value)} {st : List Value} {h : AH} {Qp : Option Value → AH → Prop} {o t n : Nat} {v : Int32} (hs : h.sh o = some (.inr (t, n))) (ht : t < 4) (hv : Int32.ofNat n = v) (hd : decode M.2.1 pc = .ok (.arraylength, 1)) (kk : zQ X M d (pc + 1) ls (.int v :: st) h Qp) : zQ X M d pc ls (.ref o :: st) h Qp :=
  zq_move (fun hok b b0 dC dI dA p l e R s m args below meth co H locs cells slots lsA Q hC hH hlv kq => by
    obtain ⟨hx, hb, hml, hown, hts, hin, hfr, hlo, hbs, hK, hX, hAO, hNe⟩ := hC
    match t, ht, hs with
    | 0, _, hs => exact va_alen (D := (dC, dI)) hx hb hK hH.1 (o - 1) 0 (za_at hok hs) rfl hv hd (kq lsA hlv)
    | 1, _, hs => exact va_alen (D := (dC, dI)) hx hb hK hH.1 (o - 1) 1 (za_at hok hs) rfl hv hd (kq lsA hlv)
    | 2, _, hs => exact va_alen (D := (dC, dI)) hx hb hK hH.1 (o - 1) 2 (za_at hok hs) rfl hv hd (kq lsA hlv)
    | 3, _, hs => exact va_alen (D := (dC, dI)) hx hb hK hH.1 (o - 1) 3 (za_at hok hs) rfl hv hd (kq lsA hlv)) kk
/-! the script -/
theorem zq_slen {L : Nat} {xs : Nat → Int32} {M : Mth} {d pc : Nat} {ls : List (Nat × Value)} {st : List Value} {h : AH} {Qp : Option Value → AH → Prop} {v : Int32} (hv : Int32.ofNat L = v) (hd : decode M.2.1 pc = .ok (.arraylength, 1)) (kk : zQ (some (L, xs)) M d (pc + 1) ls (.int v :: st) h Qp) : zQ (some (L, xs)) M d pc ls (.ref 0 :: st) h Qp :=
  zq_move (fun hok b b0 dC dI dA p l e R s m args below meth co H locs cells slots lsA Q hC hH hlv kq => by
    obtain ⟨hx, hb, hml, hown, hts, hin, hfr, hlo, hbs, hK, hX, hAO, hNe⟩ := hC
    subst hv
    exact va_slen hx hb hX.1 hX.2.1 (show ¬ b0 < b from Nat.not_lt.mpr hX.2.2) hH.2.1 hd (kq lsA hlv)) kk
theorem zq_sld {L : Nat} {xs : Nat → Int32} {M : Mth} {d pc : Nat} {ls : List (Nat × Value)} {st : List Value} {h : AH} {Qp : Option Value → AH → Prop} {i : Int32} (hi : vp_in i L) (hd : decode M.2.1 pc = .ok (.iaload, 1)) (kk : zQ (some (L, xs)) M d (pc + 1) ls (.int (xs i.toNatClampNeg) :: st) h Qp) : zQ (some (L, xs)) M d pc ls (.int i :: .ref 0 :: st) h Qp :=
  zq_move (fun hok b b0 dC dI dA p l e R s m args below meth co H locs cells slots lsA Q hC hH hlv kq => by
    obtain ⟨hx, hb, hml, hown, hts, hin, hfr, hlo, hbs, hK, hX, hAO, hNe⟩ := hC
    exact va_sld hx hb hX.1 hX.2.1 (show ¬ b0 < b from Nat.not_lt.mpr hX.2.2) hH.2.1 hi hd (kq lsA hlv)) kk
/-! Object's own constructor -/
theorem zq_objInit {X : Option (Nat × (Nat → Int32))} {M : Mth} {d pc : Nat} {ls : List (Nat × Value)} {st : List Value} {h : AH} {Qp : Option Value → AH → Prop} {ix o : Nat} (hl : Cond.methodLink M.1.cls ix objectInit ∈ zT) (hst : (st.map fun v => v.category).sum ≤ 40) (hd : decode M.2.1 pc = .ok (.invokespecial ix, 3)) (kk : zQ X M (d + 1) (pc + 3) ls st h Qp) : zQ X M (d + 1) pc ls (.ref o :: st) h Qp :=
  zq_move (fun hok b b0 dC dI dA p l e R s m args below meth co H locs cells slots lsA Q hC hH hlv kq => by
    obtain ⟨hx, hb, hml, hown, hts, hin, hfr, hlo, hbs, hK, hX, hAO, hNe⟩ := hC
    have hcat : ((st.map (zv b b0)).map fun v => v.category) = st.map fun v => v.category := by rw [List.map_map]; exact List.map_congr_left (fun v _ => zv_cat b b0 v)
    refine W.objInit hx hb hown (hts _ hl) (hts _ zo_w1) (hts _ zo_w2) rfl (by rw [hml]; exact hlv.1) rfl hd (by omega) (by show 2 * (F0 m pc lsA _).monitorRoom + ((st.map (zv b b0)).map fun v => v.category).sum + 12 ≤ R.locals; rw [hcat]; show 2 * 0 + _ + 12 ≤ _; omega) ?_
    exact W.eq (g2 := F0 m (pc + 3) lsA (st.map (zv b b0))) rfl (kq lsA hlv)) kk
theorem zq_copyI {X : Option (Nat × (Nat → Int32))} {M : Mth} {d pc : Nat} {ls : List (Nat × Value)} {st : List Value} {h : AH} {Qp : Option Value → AH → Prop} {ix q0 q1 n0 n1 : Nat} {sp dp n : Int32} (hl : Cond.methodLink M.1.cls ix arraycopyName ∈ zT) (hs0 : h.sh q0 = some (.inr (0, n0))) (hs1 : h.sh q1 = some (.inr (0, n1))) (h1 : ¬ sp < 0) (h2 : ¬ dp < 0) (h3 : ¬ n < 0) (h4 : sp.toNatClampNeg + n.toNatClampNeg ≤ n0) (h5 : dp.toNatClampNeg + n.toNatClampNeg ≤ n1)  (hst : (st.map fun v => v.category).sum ≤ 20) (hd : decode M.2.1 pc = .ok (.invokestatic ix, 3)) (kk : ∀ h1, h1 = h.wI q1 (va_cpy (h.I q0) (h.I q1) sp.toNatClampNeg dp.toNatClampNeg n.toNatClampNeg) → zQ X M (d + 1) (pc + 3) ls st h1 Qp) : zQ X M (d + 1) pc ls (.int n :: .int dp :: .ref q1 :: .int sp :: .ref q0 :: st) h Qp :=
  zq_heap (h' := h.wI q1 (va_cpy (h.I q0) (h.I q1) sp.toNatClampNeg dp.toNatClampNeg n.toNatClampNeg)) rfl rfl id (fun hok b b0 dC dI dA p l e R s m args below meth co H locs cells slots lsA Q hC hH hlv kq => by
    obtain ⟨hx, hb, hml, hown, hts, hin, hfr, hlo, hbs, hK, hX, hAO, hNe⟩ := hC
    have hcat : ((st.map (zv b b0)).map fun v => v.category) = st.map fun v => v.category := by rw [List.map_map]; exact List.map_congr_left (fun v _ => zv_cat b b0 v)
    have hnf : nativeFrameWords "java/lang/System" "arraycopy" 5 + 11 ≤ 40 := by decide +kernel
    have e1 : (zw b b0 dA h).set (q1 - 1) (zadr b b0 q1, .inl (dA 0, (n1, zct b b0 (h.wI q1 (va_cpy (h.I q0) (h.I q1) sp.toNatClampNeg dp.toNatClampNeg n.toNatClampNeg)) q1 0))) = zw b b0 dA (h.wI q1 (va_cpy (h.I q0) (h.I q1) sp.toNatClampNeg dp.toNatClampNeg n.toNatClampNeg)) := by
      rw [← zcell_a (h := h.wI q1 (va_cpy (h.I q0) (h.I q1) sp.toNatClampNeg dp.toNatClampNeg n.toNatClampNeg)) (t := 0) (len := n1) hs1]
      exact zw_set (h' := h.wI q1 (va_cpy (h.I q0) (h.I q1) sp.toNatClampNeg dp.toNatClampNeg n.toNatClampNeg)) rfl zc_wI (zpos hok hs1)
    have e3 : zct b b0 (h.wI q1 (va_cpy (h.I q0) (h.I q1) sp.toNatClampNeg dp.toNatClampNeg n.toNatClampNeg)) q1 0 = .inl (va_cpy (h.I q0) (h.I q1) sp.toNatClampNeg dp.toNatClampNeg n.toNatClampNeg) := by rw [zct_0]; exact congrArg Sum.inl AH.wI_I
    refine va_copyi (D := (dC, dI)) hx hb (by rw [hml]; exact hlv.1.symm) hown (hts _ hl) (hts _ zac_w1) (hts _ zac_w2) (hts _ zac_w3) hK hH.1 zw_D hH.2.1 (q0 - 1) (q1 - 1) 0 0 (za_at hok hs0) (za_at hok hs1) rfl rfl rfl h1 h2 h3 h4 h5 (fun _ _ => rfl) (by omega) (by show ((st.map (zv b b0)).map fun v => v.category).sum + _ ≤ R.locals; rw [hcat]; omega) hd (fun H1 locs1 hP1 _ hS1 => kq H1 locs1 ?_ hS1)
    rw [← e1, e3]
    exact hP1) (kk _ rfl)
theorem zq_copyB {X : Option (Nat × (Nat → Int32))} {M : Mth} {d pc : Nat} {ls : List (Nat × Value)} {st : List Value} {h : AH} {Qp : Option Value → AH → Prop} {ix q0 q1 n0 n1 : Nat} {sp dp n : Int32} (hl : Cond.methodLink M.1.cls ix arraycopyName ∈ zT) (hs0 : h.sh q0 = some (.inr (2, n0))) (hs1 : h.sh q1 = some (.inr (2, n1))) (h1 : ¬ sp < 0) (h2 : ¬ dp < 0) (h3 : ¬ n < 0) (h4 : sp.toNatClampNeg + n.toNatClampNeg ≤ n0) (h5 : dp.toNatClampNeg + n.toNatClampNeg ≤ n1) (hft : ∀ i, i < n.toNatClampNeg → fits .byte (.int (h.I q0 (sp.toNatClampNeg + i))) = true) (hst : (st.map fun v => v.category).sum ≤ 20) (hd : decode M.2.1 pc = .ok (.invokestatic ix, 3)) (kk : ∀ h1, h1 = h.wI q1 (va_cpy (h.I q0) (h.I q1) sp.toNatClampNeg dp.toNatClampNeg n.toNatClampNeg) → zQ X M (d + 1) (pc + 3) ls st h1 Qp) : zQ X M (d + 1) pc ls (.int n :: .int dp :: .ref q1 :: .int sp :: .ref q0 :: st) h Qp :=
  zq_heap (h' := h.wI q1 (va_cpy (h.I q0) (h.I q1) sp.toNatClampNeg dp.toNatClampNeg n.toNatClampNeg)) rfl rfl id (fun hok b b0 dC dI dA p l e R s m args below meth co H locs cells slots lsA Q hC hH hlv kq => by
    obtain ⟨hx, hb, hml, hown, hts, hin, hfr, hlo, hbs, hK, hX, hAO, hNe⟩ := hC
    have hcat : ((st.map (zv b b0)).map fun v => v.category) = st.map fun v => v.category := by rw [List.map_map]; exact List.map_congr_left (fun v _ => zv_cat b b0 v)
    have hnf : nativeFrameWords "java/lang/System" "arraycopy" 5 + 11 ≤ 40 := by decide +kernel
    have e1 : (zw b b0 dA h).set (q1 - 1) (zadr b b0 q1, .inl (dA 2, (n1, zct b b0 (h.wI q1 (va_cpy (h.I q0) (h.I q1) sp.toNatClampNeg dp.toNatClampNeg n.toNatClampNeg)) q1 2))) = zw b b0 dA (h.wI q1 (va_cpy (h.I q0) (h.I q1) sp.toNatClampNeg dp.toNatClampNeg n.toNatClampNeg)) := by
      rw [← zcell_a (h := h.wI q1 (va_cpy (h.I q0) (h.I q1) sp.toNatClampNeg dp.toNatClampNeg n.toNatClampNeg)) (t := 2) (len := n1) hs1]
      exact zw_set (h' := h.wI q1 (va_cpy (h.I q0) (h.I q1) sp.toNatClampNeg dp.toNatClampNeg n.toNatClampNeg)) rfl zc_wI (zpos hok hs1)
    have e3 : zct b b0 (h.wI q1 (va_cpy (h.I q0) (h.I q1) sp.toNatClampNeg dp.toNatClampNeg n.toNatClampNeg)) q1 2 = .inl (va_cpy (h.I q0) (h.I q1) sp.toNatClampNeg dp.toNatClampNeg n.toNatClampNeg) := by rw [zct_2]; exact congrArg Sum.inl AH.wI_I
    refine va_copyi (D := (dC, dI)) hx hb (by rw [hml]; exact hlv.1.symm) hown (hts _ hl) (hts _ zac_w1) (hts _ zac_w2) (hts _ zac_w3) hK hH.1 zw_D hH.2.1 (q0 - 1) (q1 - 1) 2 2 (za_at hok hs0) (za_at hok hs1) rfl rfl rfl h1 h2 h3 h4 h5 hft (by omega) (by show ((st.map (zv b b0)).map fun v => v.category).sum + _ ≤ R.locals; rw [hcat]; omega) hd (fun H1 locs1 hP1 _ hS1 => kq H1 locs1 ?_ hS1)
    rw [← e1, e3]
    exact hP1) (kk _ rfl)
theorem zq_copyL {X : Option (Nat × (Nat → Int32))} {M : Mth} {d pc : Nat} {ls : List (Nat × Value)} {st : List Value} {h : AH} {Qp : Option Value → AH → Prop} {ix q0 q1 n0 n1 : Nat} {sp dp n : Int32} (hl : Cond.methodLink M.1.cls ix arraycopyName ∈ zT) (hs0 : h.sh q0 = some (.inr (1, n0))) (hs1 : h.sh q1 = some (.inr (1, n1))) (h1 : ¬ sp < 0) (h2 : ¬ dp < 0) (h3 : ¬ n < 0) (h4 : sp.toNatClampNeg + n.toNatClampNeg ≤ n0) (h5 : dp.toNatClampNeg + n.toNatClampNeg ≤ n1)  (hst : (st.map fun v => v.category).sum ≤ 20) (hd : decode M.2.1 pc = .ok (.invokestatic ix, 3)) (kk : ∀ h1, h1 = h.wL q1 (va_cpy (h.L q0) (h.L q1) sp.toNatClampNeg dp.toNatClampNeg n.toNatClampNeg) → zQ X M (d + 1) (pc + 3) ls st h1 Qp) : zQ X M (d + 1) pc ls (.int n :: .int dp :: .ref q1 :: .int sp :: .ref q0 :: st) h Qp :=
  zq_heap (h' := h.wL q1 (va_cpy (h.L q0) (h.L q1) sp.toNatClampNeg dp.toNatClampNeg n.toNatClampNeg)) rfl rfl id (fun hok b b0 dC dI dA p l e R s m args below meth co H locs cells slots lsA Q hC hH hlv kq => by
    obtain ⟨hx, hb, hml, hown, hts, hin, hfr, hlo, hbs, hK, hX, hAO, hNe⟩ := hC
    have hcat : ((st.map (zv b b0)).map fun v => v.category) = st.map fun v => v.category := by rw [List.map_map]; exact List.map_congr_left (fun v _ => zv_cat b b0 v)
    have hnf : nativeFrameWords "java/lang/System" "arraycopy" 5 + 11 ≤ 40 := by decide +kernel
    have e1 : (zw b b0 dA h).set (q1 - 1) (zadr b b0 q1, .inl (dA 1, (n1, zct b b0 (h.wL q1 (va_cpy (h.L q0) (h.L q1) sp.toNatClampNeg dp.toNatClampNeg n.toNatClampNeg)) q1 1))) = zw b b0 dA (h.wL q1 (va_cpy (h.L q0) (h.L q1) sp.toNatClampNeg dp.toNatClampNeg n.toNatClampNeg)) := by
      rw [← zcell_a (h := h.wL q1 (va_cpy (h.L q0) (h.L q1) sp.toNatClampNeg dp.toNatClampNeg n.toNatClampNeg)) (t := 1) (len := n1) hs1]
      exact zw_set (h' := h.wL q1 (va_cpy (h.L q0) (h.L q1) sp.toNatClampNeg dp.toNatClampNeg n.toNatClampNeg)) rfl zc_wL (zpos hok hs1)
    have e3 : zct b b0 (h.wL q1 (va_cpy (h.L q0) (h.L q1) sp.toNatClampNeg dp.toNatClampNeg n.toNatClampNeg)) q1 1 = .inr (.inl (va_cpy (h.L q0) (h.L q1) sp.toNatClampNeg dp.toNatClampNeg n.toNatClampNeg)) := by rw [zct_1]; exact congrArg (fun f => Sum.inr (Sum.inl f)) AH.wL_L
    refine va_copyl (D := (dC, dI)) hx hb (by rw [hml]; exact hlv.1.symm) hown (hts _ hl) (hts _ zac_w1) (hts _ zac_w2) (hts _ zac_w3) hK hH.1 zw_D hH.2.1 (q0 - 1) (q1 - 1) 1 1 (za_at hok hs0) (za_at hok hs1) rfl rfl rfl h1 h2 h3 h4 h5 (fun _ _ => rfl) (by omega) (by show ((st.map (zv b b0)).map fun v => v.category).sum + _ ≤ R.locals; rw [hcat]; omega) hd (fun H1 locs1 hP1 _ hS1 => kq H1 locs1 ?_ hS1)
    rw [← e1, e3]
    exact hP1) (kk _ rfl)
/-! new cells -/
theorem zq_new {X : Option (Nat × (Nat → Int32))} {M : Mth} {d pc : Nat} {ls : List (Nat × Value)} {st : List Value} {h : AH} {Qp : Option Value → AH → Prop} {ix c : Nat} (hc : c < 10) (hl : Cond.classLink M.1.cls ix (zR c) ∈ zT) (hi : Cond.instantiable (zR c) (zN c) ∈ zT) (hini : Cond.initialized (zR c) ∈ zT) (hd : decode M.2.1 pc = .ok (.new ix, 3)) (kk : ∀ h1, h1 = h.push (.inl c) (zN c) → zQ X M d (pc + 3) ls (.ref h.n :: st) h1 Qp) : zQ X M d pc ls st h Qp := by
  obtain ⟨r, h1, ⟨⟨s1, s2, s3, s4⟩, hw⟩, hq⟩ := kk _ rfl
  have s1 : h.n + 1 ≤ h1.n := s1
  have s2 : h.u + zN c ≤ h1.u := s2
  refine ⟨r, h1, ⟨⟨by omega, by omega, fun z => s3 (AH.ok_push z), s4⟩, fun hok b b0 dC dI dA p l e R s m args below meth co H locs cells slots lsA Q hC hH hlv h2 h3 he => ?_⟩, hq⟩
  have hC' := hC
  obtain ⟨hx, hb, hml, hown, hts, hin, hfr, hlo, hbs, hK, hX, hAO, hNe⟩ := hC
  have h0 := hok.1
  refine va_new (D := (dC, dI)) (ci := c) (fs := zfs b b0 (h.push (.inl c) (zN c)) h.n c) (C := zR c) (T := zTb c) (N := zN c) hx hb hts (zcl_ws c hc) (zty c) (zcl_ty c hc) hown (hts _ hl) (hts _ hi) (hts _ hini) hK hH.1 zw_D hH.2.1 (fun q hq => by show b0 < q; omega) (zcl_at c hc) (fun j hj => ?_) (by omega) (by omega) hd (fun q H1 hP1 hD1 hS1 => ?_)
  · rw [zcl_def c hc j hj]
    show _ = List.getD _ _ _
    rw [List.getD_eq_getElem?_getD, zfs_get hj]
    simp only [zcf, zdef, AH.push, AH.I, AH.L, AH.P, va_up_self, Option.getD_some]
    rfl
  · refine zfresh hok hH.2.2 hP1 hD1 fun hq' => ?_
    subst hq'
    have ez : zcell b b0 dA (h.push (.inl c) (zN c)) h.n = .inr (c, zfs b b0 (h.push (.inl c) (zN c)) h.n c) := zcell_o (by show va_up h.sh h.n _ h.n = _; rw [va_up_self])
    have e1 : zw b b0 dA h ++ [(b0 + h.n, .inr (c, zfs b b0 (h.push (.inl c) (zN c)) h.n c))] = zw b b0 dA (h.push (.inl c) (zN c)) := by rw [zw_push hok, ez]
    rw [e1] at hP1
    have ea : zadr b b0 h.n = b0 + h.n := by rw [zadr, if_neg (by omega)]
    have := hw (AH.ok_push hok) b b0 dC dI dA p l e R s m args below meth co H1 locs (cells + 1) (slots + zN c) lsA Q hC' ⟨hP1, hS1, by have := hH.2.2; show _ = b0 + (h.n + 1); omega⟩ hlv (by show cells + 1 + (h1.n - (h.n + 1)) ≤ _; omega) (by show slots + zN c + (h1.u - (h.u + zN c)) ≤ _; omega) ?_
    · rw [← ea]; exact this
    · have ec : cells + 1 + (h1.n - (h.push (.inl c) (zN c)).n) = cells + (h1.n - h.n) := by show cells + 1 + (h1.n - (h.n + 1)) = _; omega
      have eu : slots + zN c + (h1.u - (h.push (.inl c) (zN c)).u) = slots + (h1.u - h.u) := by show slots + zN c + (h1.u - (h.u + zN c)) = _; omega
      rw [ec, eu]
      exact he
theorem zRA_eq {s : State} {a1 a2 : ClassId} {ty : FieldType} (h1 : va_RA s a1 ty) (h2 : va_RA s a2 ty) : a1 = a2 := by
  cases ty with
  | object C =>
    obtain ⟨_, _, _, _, _, q1⟩ := h1
    obtain ⟨_, _, _, _, _, q2⟩ := h2
    exact Option.some.inj (q1.symm.trans q2)
  | _ => exact Option.some.inj (h1.symm.trans h2)
theorem zq_newaI {X : Option (Nat × (Nat → Int32))} {M : Mth} {d pc : Nat} {ls : List (Nat × Value)} {st : List Value} {h : AH} {Qp : Option Value → AH → Prop} {n : Int32} {N : Nat} (hl : Cond.arrayClass (newarray.typeOf .int) ∈ zT)  (hn : ¬ n < 0) (hN : n.toNatClampNeg = N) (hb32 : N ≤ 32768) (hd : decode M.2.1 pc = .ok (.newarray .int, 2)) (kk : ∀ h1, h1 = h.push (.inr (0, N)) N → zQ X M d (pc + 2) ls (.ref h.n :: st) h1 Qp) : zQ X M d pc ls (.int n :: st) h Qp := by
  obtain ⟨r, h1, ⟨⟨s1, s2, s3, s4⟩, hw⟩, hq⟩ := kk _ rfl
  have s1 : h.n + 1 ≤ h1.n := s1
  have s2 : h.u + N ≤ h1.u := s2
  refine ⟨r, h1, ⟨⟨by omega, by omega, fun z => s3 (AH.ok_push z), s4⟩, fun hok b b0 dC dI dA p l e R s m args below meth co H locs cells slots lsA Q hC hH hlv h2 h3 he => ?_⟩, hq⟩
  have hC' := hC
  obtain ⟨hx, hb, hml, hown, hts, hin, hfr, hlo, hbs, hK, hX, hAO, hNe⟩ := hC
  have h0 := hok.1
  refine va_newa (D := (dC, dI)) (atype := .int) (a0 := (N, .inl (fun _ => 0))) hx hb (hts _ hl) rfl hK hH.1 zw_D hH.2.1 (fun q hq => by show b0 < q; omega) (fun cA => rfl) hn hN (Nat.le_trans (Nat.mul_le_mul hb32 (show componentBytes .int ≤ 8 by decide)) (by decide)) (by omega) (by omega) hd (fun q cA H1 hK1 hP1 hD1 hS1 => ?_)
  have hcA : cA = dA 0 := zRA_eq (hK1.2 4 (cA, .int) rfl).2 (hK.2 0 (dA 0, .int) rfl).2
  subst hcA
  refine zfresh hok hH.2.2 hP1 hD1 fun hq' => ?_
  subst hq'
  have ez : zcell b b0 dA (h.push (.inr (0, N)) N) h.n = .inl (dA 0, (N, zct b b0 (h.push (.inr (0, N)) N) h.n 0)) := zcell_a (by show va_up h.sh h.n _ h.n = _; rw [va_up_self])
  have ey : zct b b0 (h.push (.inr (0, N)) N) h.n 0 = .inl (fun _ => 0) := by
    simp only [zct, AH.push, AH.I, AH.L, AH.P, va_up_self]
    rfl
  rw [ey] at ez
  have e1 := zw_push (b := b) (b0 := b0) (dA := dA) (sh := .inr (0, N)) (sz := N) hok
  rw [ez] at e1
  rw [← e1] at hP1
  have ea : zadr b b0 h.n = b0 + h.n := by rw [zadr, if_neg (by omega)]
  have := hw (AH.ok_push hok) b b0 dC dI dA p l e R s m args below meth co H1 locs (cells + 1) (slots + N) lsA Q hC' ⟨hP1, hS1, by have := hH.2.2; show _ = b0 + (h.n + 1); omega⟩ hlv (by show cells + 1 + (h1.n - (h.n + 1)) ≤ _; omega) (by show slots + N + (h1.u - (h.u + N)) ≤ _; omega) ?_
  · rw [← ea]; exact this
  · have ec : cells + 1 + (h1.n - (h.push (.inr (0, N)) N).n) = cells + (h1.n - h.n) := by show cells + 1 + (h1.n - (h.n + 1)) = _; omega
    have eu : slots + N + (h1.u - (h.push (.inr (0, N)) N).u) = slots + (h1.u - h.u) := by show slots + N + (h1.u - (h.u + N)) = _; omega
    rw [ec, eu]
    exact he
theorem zq_newaL {X : Option (Nat × (Nat → Int32))} {M : Mth} {d pc : Nat} {ls : List (Nat × Value)} {st : List Value} {h : AH} {Qp : Option Value → AH → Prop} {n : Int32} {N : Nat} (hl : Cond.arrayClass (newarray.typeOf .long) ∈ zT)  (hn : ¬ n < 0) (hN : n.toNatClampNeg = N) (hb32 : N ≤ 32768) (hd : decode M.2.1 pc = .ok (.newarray .long, 2)) (kk : ∀ h1, h1 = h.push (.inr (1, N)) N → zQ X M d (pc + 2) ls (.ref h.n :: st) h1 Qp) : zQ X M d pc ls (.int n :: st) h Qp := by
  obtain ⟨r, h1, ⟨⟨s1, s2, s3, s4⟩, hw⟩, hq⟩ := kk _ rfl
  have s1 : h.n + 1 ≤ h1.n := s1
  have s2 : h.u + N ≤ h1.u := s2
  refine ⟨r, h1, ⟨⟨by omega, by omega, fun z => s3 (AH.ok_push z), s4⟩, fun hok b b0 dC dI dA p l e R s m args below meth co H locs cells slots lsA Q hC hH hlv h2 h3 he => ?_⟩, hq⟩
  have hC' := hC
  obtain ⟨hx, hb, hml, hown, hts, hin, hfr, hlo, hbs, hK, hX, hAO, hNe⟩ := hC
  have h0 := hok.1
  refine va_newa (D := (dC, dI)) (atype := .long) (a0 := (N, .inr (.inl (fun _ => 0)))) hx hb (hts _ hl) rfl hK hH.1 zw_D hH.2.1 (fun q hq => by show b0 < q; omega) (fun cA => rfl) hn hN (Nat.le_trans (Nat.mul_le_mul hb32 (show componentBytes .long ≤ 8 by decide)) (by decide)) (by omega) (by omega) hd (fun q cA H1 hK1 hP1 hD1 hS1 => ?_)
  have hcA : cA = dA 1 := zRA_eq (hK1.2 4 (cA, .long) rfl).2 (hK.2 1 (dA 1, .long) rfl).2
  subst hcA
  refine zfresh hok hH.2.2 hP1 hD1 fun hq' => ?_
  subst hq'
  have ez : zcell b b0 dA (h.push (.inr (1, N)) N) h.n = .inl (dA 1, (N, zct b b0 (h.push (.inr (1, N)) N) h.n 1)) := zcell_a (by show va_up h.sh h.n _ h.n = _; rw [va_up_self])
  have ey : zct b b0 (h.push (.inr (1, N)) N) h.n 1 = .inr (.inl (fun _ => 0)) := by
    simp only [zct, AH.push, AH.I, AH.L, AH.P, va_up_self]
    rfl
  rw [ey] at ez
  have e1 := zw_push (b := b) (b0 := b0) (dA := dA) (sh := .inr (1, N)) (sz := N) hok
  rw [ez] at e1
  rw [← e1] at hP1
  have ea : zadr b b0 h.n = b0 + h.n := by rw [zadr, if_neg (by omega)]
  have := hw (AH.ok_push hok) b b0 dC dI dA p l e R s m args below meth co H1 locs (cells + 1) (slots + N) lsA Q hC' ⟨hP1, hS1, by have := hH.2.2; show _ = b0 + (h.n + 1); omega⟩ hlv (by show cells + 1 + (h1.n - (h.n + 1)) ≤ _; omega) (by show slots + N + (h1.u - (h.u + N)) ≤ _; omega) ?_
  · rw [← ea]; exact this
  · have ec : cells + 1 + (h1.n - (h.push (.inr (1, N)) N).n) = cells + (h1.n - h.n) := by show cells + 1 + (h1.n - (h.n + 1)) = _; omega
    have eu : slots + N + (h1.u - (h.push (.inr (1, N)) N).u) = slots + (h1.u - h.u) := by show slots + N + (h1.u - (h.u + N)) = _; omega
    rw [ec, eu]
    exact he
theorem zq_newaB {X : Option (Nat × (Nat → Int32))} {M : Mth} {d pc : Nat} {ls : List (Nat × Value)} {st : List Value} {h : AH} {Qp : Option Value → AH → Prop} {n : Int32} {N : Nat} (hl : Cond.arrayClass (newarray.typeOf .byte) ∈ zT)  (hn : ¬ n < 0) (hN : n.toNatClampNeg = N) (hb32 : N ≤ 32768) (hd : decode M.2.1 pc = .ok (.newarray .byte, 2)) (kk : ∀ h1, h1 = h.push (.inr (2, N)) N → zQ X M d (pc + 2) ls (.ref h.n :: st) h1 Qp) : zQ X M d pc ls (.int n :: st) h Qp := by
  obtain ⟨r, h1, ⟨⟨s1, s2, s3, s4⟩, hw⟩, hq⟩ := kk _ rfl
  have s1 : h.n + 1 ≤ h1.n := s1
  have s2 : h.u + N ≤ h1.u := s2
  refine ⟨r, h1, ⟨⟨by omega, by omega, fun z => s3 (AH.ok_push z), s4⟩, fun hok b b0 dC dI dA p l e R s m args below meth co H locs cells slots lsA Q hC hH hlv h2 h3 he => ?_⟩, hq⟩
  have hC' := hC
  obtain ⟨hx, hb, hml, hown, hts, hin, hfr, hlo, hbs, hK, hX, hAO, hNe⟩ := hC
  have h0 := hok.1
  refine va_newa (D := (dC, dI)) (atype := .byte) (a0 := (N, .inl (fun _ => 0))) hx hb (hts _ hl) rfl hK hH.1 zw_D hH.2.1 (fun q hq => by show b0 < q; omega) (fun cA => rfl) hn hN (Nat.le_trans (Nat.mul_le_mul hb32 (show componentBytes .byte ≤ 8 by decide)) (by decide)) (by omega) (by omega) hd (fun q cA H1 hK1 hP1 hD1 hS1 => ?_)
  have hcA : cA = dA 2 := zRA_eq (hK1.2 4 (cA, .byte) rfl).2 (hK.2 2 (dA 2, .byte) rfl).2
  subst hcA
  refine zfresh hok hH.2.2 hP1 hD1 fun hq' => ?_
  subst hq'
  have ez : zcell b b0 dA (h.push (.inr (2, N)) N) h.n = .inl (dA 2, (N, zct b b0 (h.push (.inr (2, N)) N) h.n 2)) := zcell_a (by show va_up h.sh h.n _ h.n = _; rw [va_up_self])
  have ey : zct b b0 (h.push (.inr (2, N)) N) h.n 2 = .inl (fun _ => 0) := by
    simp only [zct, AH.push, AH.I, AH.L, AH.P, va_up_self]
    rfl
  rw [ey] at ez
  have e1 := zw_push (b := b) (b0 := b0) (dA := dA) (sh := .inr (2, N)) (sz := N) hok
  rw [ez] at e1
  rw [← e1] at hP1
  have ea : zadr b b0 h.n = b0 + h.n := by rw [zadr, if_neg (by omega)]
  have := hw (AH.ok_push hok) b b0 dC dI dA p l e R s m args below meth co H1 locs (cells + 1) (slots + N) lsA Q hC' ⟨hP1, hS1, by have := hH.2.2; show _ = b0 + (h.n + 1); omega⟩ hlv (by show cells + 1 + (h1.n - (h.n + 1)) ≤ _; omega) (by show slots + N + (h1.u - (h.u + N)) ≤ _; omega) ?_
  · rw [← ea]; exact this
  · have ec : cells + 1 + (h1.n - (h.push (.inr (2, N)) N).n) = cells + (h1.n - h.n) := by show cells + 1 + (h1.n - (h.n + 1)) = _; omega
    have eu : slots + N + (h1.u - (h.push (.inr (2, N)) N).u) = slots + (h1.u - h.u) := by show slots + N + (h1.u - (h.u + N)) = _; omega
    rw [ec, eu]
    exact he
theorem zq_newaR {X : Option (Nat × (Nat → Int32))} {M : Mth} {d pc : Nat} {ls : List (Nat × Value)} {st : List Value} {h : AH} {Qp : Option Value → AH → Prop} {n : Int32} {N : Nat} {ix : Nat} (hl : Cond.classLink M.1.cls ix RX8 ∈ zT)  (hn : ¬ n < 0) (hN : n.toNatClampNeg = N) (hb32 : N ≤ 32768) (hd : decode M.2.1 pc = .ok (.anewarray ix, 3)) (kk : ∀ h1, h1 = h.push (.inr (3, N)) N → zQ X M d (pc + 3) ls (.ref h.n :: st) h1 Qp) : zQ X M d pc ls (.int n :: st) h Qp := by
  obtain ⟨r, h1, ⟨⟨s1, s2, s3, s4⟩, hw⟩, hq⟩ := kk _ rfl
  have s1 : h.n + 1 ≤ h1.n := s1
  have s2 : h.u + N ≤ h1.u := s2
  refine ⟨r, h1, ⟨⟨by omega, by omega, fun z => s3 (AH.ok_push z), s4⟩, fun hok b b0 dC dI dA p l e R s m args below meth co H locs cells slots lsA Q hC hH hlv h2 h3 he => ?_⟩, hq⟩
  have hC' := hC
  obtain ⟨hx, hb, hml, hown, hts, hin, hfr, hlo, hbs, hK, hX, hAO, hNe⟩ := hC
  have h0 := hok.1
  refine va_newq (D := (dC, dI)) (C := RX8) hx hb hown (hts _ hl) hAO hK hH.1 zw_D hH.2.1 (fun q hq => by show b0 < q; omega) hn hN (by omega) (by omega) (by omega) hd (fun q cA H1 hK1 hP1 hD1 hS1 => ?_)
  have hcA : cA = dA 3 := zRA_eq (hK1.2 4 (cA, .object RX8) rfl).2 (hK.2 3 (dA 3, .object RX8) rfl).2
  subst hcA
  refine zfresh hok hH.2.2 hP1 hD1 fun hq' => ?_
  subst hq'
  have ez : zcell b b0 dA (h.push (.inr (3, N)) N) h.n = .inl (dA 3, (N, zct b b0 (h.push (.inr (3, N)) N) h.n 3)) := zcell_a (by show va_up h.sh h.n _ h.n = _; rw [va_up_self])
  have ey : zct b b0 (h.push (.inr (3, N)) N) h.n 3 = .inr (.inr (.inr (.inr (fun _ => none)))) := by
    simp only [zct, AH.push, AH.I, AH.L, AH.P, va_up_self]
    rfl
  rw [ey] at ez
  have e1 := zw_push (b := b) (b0 := b0) (dA := dA) (sh := .inr (3, N)) (sz := N) hok
  rw [ez] at e1
  rw [← e1] at hP1
  have ea : zadr b b0 h.n = b0 + h.n := by rw [zadr, if_neg (by omega)]
  have := hw (AH.ok_push hok) b b0 dC dI dA p l e R s m args below meth co H1 locs (cells + 1) (slots + N) lsA Q hC' ⟨hP1, hS1, by have := hH.2.2; show _ = b0 + (h.n + 1); omega⟩ hlv (by show cells + 1 + (h1.n - (h.n + 1)) ≤ _; omega) (by show slots + N + (h1.u - (h.u + N)) ≤ _; omega) ?_
  · rw [← ea]; exact this
  · have ec : cells + 1 + (h1.n - (h.push (.inr (3, N)) N).n) = cells + (h1.n - h.n) := by show cells + 1 + (h1.n - (h.n + 1)) = _; omega
    have eu : slots + N + (h1.u - (h.push (.inr (3, N)) N).u) = slots + (h1.u - h.u) := by show slots + N + (h1.u - (h.u + N)) = _; omega
    rw [ec, eu]
    exact he
theorem zm_max : Cond.code Lib.Math.max.name Lib.Math.max.code 2 (some .int) ∈ zT := zT_2 (i := 84) rfl rfl
theorem zs_max : Cond.static Lib.Math.max.name ∈ zT := zT_2 (i := 83) rfl rfl
theorem zm_min : Cond.code Lib.Math.min.name Lib.Math.min.code 2 (some .int) ∈ zT := zT_2 (i := 81) rfl rfl
theorem zs_min : Cond.static Lib.Math.min.name ∈ zT := zT_2 (i := 80) rfl rfl
theorem zm_abs : Cond.code Lib.Math.abs.name Lib.Math.abs.code 1 (some .int) ∈ zT := zT_3 (i := 107) rfl rfl
theorem zs_abs : Cond.static Lib.Math.abs.name ∈ zT := zT_3 (i := 106) rfl rfl
theorem zi_math : Cond.initialized "java/lang/Math" ∈ zT := zT_1 (i := 11) rfl rfl
theorem zq_mmax {X : Option (Nat × (Nat → Int32))} {M : Mth} {d pc : Nat} {ls : List (Nat × Value)} {st : List Value} {h : AH} {Qp : Option Value → AH → Prop} {x y : Int32} {ix : Nat} (hl : Cond.methodLink M.1.cls ix Lib.Math.max.name ∈ zT) (hst : (st.map fun v => v.category).sum ≤ 20) (hd : decode M.2.1 pc = .ok (.invokestatic ix, 3)) (kk : zQ X M (d + 1) (pc + 3) ls (.int (zmmax x y) :: st) h Qp) : zQ X M (d + 1) pc ls (.int y :: .int x :: st) h Qp := by
  obtain ⟨r, h1, ⟨hstt, hw⟩, hq⟩ := kk
  refine ⟨r, h1, ⟨hstt, fun hok b b0 dC dI dA p l e R s m args below meth co H locs cells slots lsA Q hC hH hlv h2 h3 he => ?_⟩, hq⟩
  have hC' := hC
  obtain ⟨hx, hb, hml, hown, hts, hin, hfr, hlo, hbs, hK, hX, hAO, hNe⟩ := hC
  have hcat : ((st.map (zv b b0)).map fun v => v.category) = st.map fun v => v.category := by rw [List.map_map]; exact List.map_congr_left (fun v _ => zv_cat b b0 v)
  exact va_mmax hx hb (by rw [hml]; exact hlv.1.symm) hown (hts _ hl) (hts _ zs_max) (hts _ zi_math) (hts _ zm_max) (by omega) (by show ((st.map (zv b b0)).map fun v => v.category).sum + _ ≤ _; rw [hcat]; omega) (by omega) (by omega) hd (hw hok b b0 dC dI dA p l e R s m args below meth co H locs cells slots lsA Q hC' hH hlv h2 h3 he)
theorem zq_mmin {X : Option (Nat × (Nat → Int32))} {M : Mth} {d pc : Nat} {ls : List (Nat × Value)} {st : List Value} {h : AH} {Qp : Option Value → AH → Prop} {x y : Int32} {ix : Nat} (hl : Cond.methodLink M.1.cls ix Lib.Math.min.name ∈ zT) (hst : (st.map fun v => v.category).sum ≤ 20) (hd : decode M.2.1 pc = .ok (.invokestatic ix, 3)) (kk : zQ X M (d + 1) (pc + 3) ls (.int (zmmin x y) :: st) h Qp) : zQ X M (d + 1) pc ls (.int y :: .int x :: st) h Qp := by
  obtain ⟨r, h1, ⟨hstt, hw⟩, hq⟩ := kk
  refine ⟨r, h1, ⟨hstt, fun hok b b0 dC dI dA p l e R s m args below meth co H locs cells slots lsA Q hC hH hlv h2 h3 he => ?_⟩, hq⟩
  have hC' := hC
  obtain ⟨hx, hb, hml, hown, hts, hin, hfr, hlo, hbs, hK, hX, hAO, hNe⟩ := hC
  have hcat : ((st.map (zv b b0)).map fun v => v.category) = st.map fun v => v.category := by rw [List.map_map]; exact List.map_congr_left (fun v _ => zv_cat b b0 v)
  exact va_mmin hx hb (by rw [hml]; exact hlv.1.symm) hown (hts _ hl) (hts _ zs_min) (hts _ zi_math) (hts _ zm_min) (by omega) (by show ((st.map (zv b b0)).map fun v => v.category).sum + _ ≤ _; rw [hcat]; omega) (by omega) (by omega) hd (hw hok b b0 dC dI dA p l e R s m args below meth co H locs cells slots lsA Q hC' hH hlv h2 h3 he)
theorem zq_mabs {X : Option (Nat × (Nat → Int32))} {M : Mth} {d pc : Nat} {ls : List (Nat × Value)} {st : List Value} {h : AH} {Qp : Option Value → AH → Prop} {x : Int32} {ix : Nat} (hl : Cond.methodLink M.1.cls ix Lib.Math.abs.name ∈ zT) (hst : (st.map fun v => v.category).sum ≤ 20) (hd : decode M.2.1 pc = .ok (.invokestatic ix, 3)) (kk : zQ X M (d + 1) (pc + 3) ls (.int (zmabs x) :: st) h Qp) : zQ X M (d + 1) pc ls (.int x :: st) h Qp := by
  obtain ⟨r, h1, ⟨hstt, hw⟩, hq⟩ := kk
  refine ⟨r, h1, ⟨hstt, fun hok b b0 dC dI dA p l e R s m args below meth co H locs cells slots lsA Q hC hH hlv h2 h3 he => ?_⟩, hq⟩
  have hC' := hC
  obtain ⟨hx, hb, hml, hown, hts, hin, hfr, hlo, hbs, hK, hX, hAO, hNe⟩ := hC
  have hcat : ((st.map (zv b b0)).map fun v => v.category) = st.map fun v => v.category := by rw [List.map_map]; exact List.map_congr_left (fun v _ => zv_cat b b0 v)
  exact va_mabs hx hb (by rw [hml]; exact hlv.1.symm) hown (hts _ hl) (hts _ zs_abs) (hts _ zi_math) (hts _ zm_abs) (by omega) (by show ((st.map (zv b b0)).map fun v => v.category).sum + _ ≤ _; rw [hcat]; omega) (by omega) (by omega) hd (hw hok b b0 dC dI dA p l e R s m args below meth co H locs cells slots lsA Q hC' hH hlv h2 h3 he)
