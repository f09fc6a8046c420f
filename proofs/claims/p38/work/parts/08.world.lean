/-! the world behind the two constructors: cell 1 the class, cells 53 to 55 the rows of the law; the row of THE PAPER (cell 37, place 0) is told apart, for it grows -/
def shT (k : Nat) : Option Shp := match k with
  | 1 => some (.inl 9)
  | 2 => some (.inl 2)
  | 3 => some (.inr (1, 40))
  | 4 => some (.inr (0, 1600))
  | 5 => some (.inl 4)
  | 6 => some (.inr (0, 240))
  | 7 => some (.inl 2)
  | 8 => some (.inr (1, 40))
  | 9 => some (.inr (0, 1600))
  | 10 => some (.inl 4)
  | 11 => some (.inr (0, 240))
  | 12 => some (.inl 5)
  | 13 => some (.inr (1, 40))
  | 14 => some (.inr (1, 40))
  | 15 => some (.inr (0, 1600))
  | 16 => some (.inr (0, 1600))
  | 17 => some (.inr (0, 1600))
  | 18 => some (.inr (0, 780))
  | 19 => some (.inr (0, 780))
  | 20 => some (.inr (0, 1600))
  | 21 => some (.inl 1)
  | 22 => some (.inr (1, 40))
  | 23 => some (.inl 8)
  | 24 => some (.inr (2, 160))
  | 25 => some (.inl 0)
  | 26 => some (.inr (0, 54))
  | 27 => some (.inr (0, 54))
  | 28 => some (.inr (0, 54))
  | 29 => some (.inr (0, 54))
  | 30 => some (.inl 6)
  | 31 => some (.inr (1, 40))
  | 32 => some (.inr (0, 40))
  | 33 => some (.inr (0, 40))
  | 34 => some (.inr (0, 40))
  | 35 => some (.inr (0, 40))
  | 36 => some (.inr (0, 40))
  | 37 => some (.inl 3)
  | 39 => some (.inr (3, 6))
  | 40 => some (.inr (0, 40))
  | 41 => some (.inl 7)
  | 42 => some (.inr (1, 60))
  | 43 => some (.inl 7)
  | 44 => some (.inr (1, 60))
  | 45 => some (.inl 7)
  | 46 => some (.inr (1, 60))
  | 47 => some (.inl 7)
  | 48 => some (.inr (1, 60))
  | 49 => some (.inl 7)
  | 50 => some (.inr (1, 60))
  | 51 => some (.inl 7)
  | 52 => some (.inr (1, 60))
  | 53 => some (.inr (1, 40))
  | 54 => some (.inr (0, 8))
  | 55 => some (.inr (1, 1))
  | _ => none
def rfT (o k : Nat) : Nat := match o, k with
  | 1, 0 => 2
  | 1, 1 => 7
  | 1, 3 => 12
  | 1, 4 => 21
  | 1, 5 => 23
  | 1, 6 => 25
  | 1, 7 => 30
  | 1, 8 => 37
  | 1, 9 => 39
  | 1, 10 => 40
  | 2, 0 => 3
  | 2, 1 => 4
  | 2, 2 => 5
  | 5, 0 => 6
  | 7, 0 => 8
  | 7, 1 => 9
  | 7, 2 => 10
  | 10, 0 => 11
  | 12, 0 => 13
  | 12, 1 => 14
  | 12, 2 => 15
  | 12, 3 => 16
  | 12, 4 => 17
  | 12, 5 => 18
  | 12, 6 => 19
  | 12, 7 => 20
  | 21, 0 => 22
  | 23, 0 => 24
  | 25, 0 => 26
  | 25, 1 => 27
  | 25, 2 => 28
  | 25, 3 => 29
  | 30, 0 => 31
  | 30, 1 => 32
  | 30, 2 => 33
  | 30, 3 => 34
  | 30, 4 => 35
  | 30, 5 => 36
  | 41, 1 => 42
  | 43, 1 => 44
  | 45, 1 => 46
  | 47, 1 => 48
  | 49, 1 => 50
  | 51, 1 => 52
  | _, _ => 0
def zWF (h : AH) : Prop := 56 ≤ h.n ∧ (∀ k, k < 56 → (shT k).isSome = true → h.sh k = shT k) ∧ ∀ a k, rfT a k ≠ 0 → h.P a k = some (rfT a k)
theorem sh_1 {h : AH} (hw : zWF h) : h.sh 1 = some (.inl 9) := hw.2.1 1 (by decide) rfl
theorem sh_2 {h : AH} (hw : zWF h) : h.sh 2 = some (.inl 2) := hw.2.1 2 (by decide) rfl
theorem sh_3 {h : AH} (hw : zWF h) : h.sh 3 = some (.inr (1, 40)) := hw.2.1 3 (by decide) rfl
theorem sh_4 {h : AH} (hw : zWF h) : h.sh 4 = some (.inr (0, 1600)) := hw.2.1 4 (by decide) rfl
theorem sh_5 {h : AH} (hw : zWF h) : h.sh 5 = some (.inl 4) := hw.2.1 5 (by decide) rfl
theorem sh_6 {h : AH} (hw : zWF h) : h.sh 6 = some (.inr (0, 240)) := hw.2.1 6 (by decide) rfl
theorem sh_7 {h : AH} (hw : zWF h) : h.sh 7 = some (.inl 2) := hw.2.1 7 (by decide) rfl
theorem sh_8 {h : AH} (hw : zWF h) : h.sh 8 = some (.inr (1, 40)) := hw.2.1 8 (by decide) rfl
theorem sh_9 {h : AH} (hw : zWF h) : h.sh 9 = some (.inr (0, 1600)) := hw.2.1 9 (by decide) rfl
theorem sh_10 {h : AH} (hw : zWF h) : h.sh 10 = some (.inl 4) := hw.2.1 10 (by decide) rfl
theorem sh_11 {h : AH} (hw : zWF h) : h.sh 11 = some (.inr (0, 240)) := hw.2.1 11 (by decide) rfl
theorem sh_12 {h : AH} (hw : zWF h) : h.sh 12 = some (.inl 5) := hw.2.1 12 (by decide) rfl
theorem sh_13 {h : AH} (hw : zWF h) : h.sh 13 = some (.inr (1, 40)) := hw.2.1 13 (by decide) rfl
theorem sh_14 {h : AH} (hw : zWF h) : h.sh 14 = some (.inr (1, 40)) := hw.2.1 14 (by decide) rfl
theorem sh_15 {h : AH} (hw : zWF h) : h.sh 15 = some (.inr (0, 1600)) := hw.2.1 15 (by decide) rfl
theorem sh_16 {h : AH} (hw : zWF h) : h.sh 16 = some (.inr (0, 1600)) := hw.2.1 16 (by decide) rfl
theorem sh_17 {h : AH} (hw : zWF h) : h.sh 17 = some (.inr (0, 1600)) := hw.2.1 17 (by decide) rfl
theorem sh_18 {h : AH} (hw : zWF h) : h.sh 18 = some (.inr (0, 780)) := hw.2.1 18 (by decide) rfl
theorem sh_19 {h : AH} (hw : zWF h) : h.sh 19 = some (.inr (0, 780)) := hw.2.1 19 (by decide) rfl
theorem sh_20 {h : AH} (hw : zWF h) : h.sh 20 = some (.inr (0, 1600)) := hw.2.1 20 (by decide) rfl
theorem sh_21 {h : AH} (hw : zWF h) : h.sh 21 = some (.inl 1) := hw.2.1 21 (by decide) rfl
theorem sh_22 {h : AH} (hw : zWF h) : h.sh 22 = some (.inr (1, 40)) := hw.2.1 22 (by decide) rfl
theorem sh_23 {h : AH} (hw : zWF h) : h.sh 23 = some (.inl 8) := hw.2.1 23 (by decide) rfl
theorem sh_24 {h : AH} (hw : zWF h) : h.sh 24 = some (.inr (2, 160)) := hw.2.1 24 (by decide) rfl
theorem sh_25 {h : AH} (hw : zWF h) : h.sh 25 = some (.inl 0) := hw.2.1 25 (by decide) rfl
theorem sh_26 {h : AH} (hw : zWF h) : h.sh 26 = some (.inr (0, 54)) := hw.2.1 26 (by decide) rfl
theorem sh_27 {h : AH} (hw : zWF h) : h.sh 27 = some (.inr (0, 54)) := hw.2.1 27 (by decide) rfl
theorem sh_28 {h : AH} (hw : zWF h) : h.sh 28 = some (.inr (0, 54)) := hw.2.1 28 (by decide) rfl
theorem sh_29 {h : AH} (hw : zWF h) : h.sh 29 = some (.inr (0, 54)) := hw.2.1 29 (by decide) rfl
theorem sh_30 {h : AH} (hw : zWF h) : h.sh 30 = some (.inl 6) := hw.2.1 30 (by decide) rfl
theorem sh_31 {h : AH} (hw : zWF h) : h.sh 31 = some (.inr (1, 40)) := hw.2.1 31 (by decide) rfl
theorem sh_32 {h : AH} (hw : zWF h) : h.sh 32 = some (.inr (0, 40)) := hw.2.1 32 (by decide) rfl
theorem sh_33 {h : AH} (hw : zWF h) : h.sh 33 = some (.inr (0, 40)) := hw.2.1 33 (by decide) rfl
theorem sh_34 {h : AH} (hw : zWF h) : h.sh 34 = some (.inr (0, 40)) := hw.2.1 34 (by decide) rfl
theorem sh_35 {h : AH} (hw : zWF h) : h.sh 35 = some (.inr (0, 40)) := hw.2.1 35 (by decide) rfl
theorem sh_36 {h : AH} (hw : zWF h) : h.sh 36 = some (.inr (0, 40)) := hw.2.1 36 (by decide) rfl
theorem sh_37 {h : AH} (hw : zWF h) : h.sh 37 = some (.inl 3) := hw.2.1 37 (by decide) rfl
theorem sh_39 {h : AH} (hw : zWF h) : h.sh 39 = some (.inr (3, 6)) := hw.2.1 39 (by decide) rfl
theorem sh_40 {h : AH} (hw : zWF h) : h.sh 40 = some (.inr (0, 40)) := hw.2.1 40 (by decide) rfl
theorem sh_41 {h : AH} (hw : zWF h) : h.sh 41 = some (.inl 7) := hw.2.1 41 (by decide) rfl
theorem sh_42 {h : AH} (hw : zWF h) : h.sh 42 = some (.inr (1, 60)) := hw.2.1 42 (by decide) rfl
theorem sh_43 {h : AH} (hw : zWF h) : h.sh 43 = some (.inl 7) := hw.2.1 43 (by decide) rfl
theorem sh_44 {h : AH} (hw : zWF h) : h.sh 44 = some (.inr (1, 60)) := hw.2.1 44 (by decide) rfl
theorem sh_45 {h : AH} (hw : zWF h) : h.sh 45 = some (.inl 7) := hw.2.1 45 (by decide) rfl
theorem sh_46 {h : AH} (hw : zWF h) : h.sh 46 = some (.inr (1, 60)) := hw.2.1 46 (by decide) rfl
theorem sh_47 {h : AH} (hw : zWF h) : h.sh 47 = some (.inl 7) := hw.2.1 47 (by decide) rfl
theorem sh_48 {h : AH} (hw : zWF h) : h.sh 48 = some (.inr (1, 60)) := hw.2.1 48 (by decide) rfl
theorem sh_49 {h : AH} (hw : zWF h) : h.sh 49 = some (.inl 7) := hw.2.1 49 (by decide) rfl
theorem sh_50 {h : AH} (hw : zWF h) : h.sh 50 = some (.inr (1, 60)) := hw.2.1 50 (by decide) rfl
theorem sh_51 {h : AH} (hw : zWF h) : h.sh 51 = some (.inl 7) := hw.2.1 51 (by decide) rfl
theorem sh_52 {h : AH} (hw : zWF h) : h.sh 52 = some (.inr (1, 60)) := hw.2.1 52 (by decide) rfl
theorem sh_53 {h : AH} (hw : zWF h) : h.sh 53 = some (.inr (1, 40)) := hw.2.1 53 (by decide) rfl
theorem sh_54 {h : AH} (hw : zWF h) : h.sh 54 = some (.inr (0, 8)) := hw.2.1 54 (by decide) rfl
theorem sh_55 {h : AH} (hw : zWF h) : h.sh 55 = some (.inr (1, 1)) := hw.2.1 55 (by decide) rfl
theorem rf_1_0 {h : AH} (hw : zWF h) : h.P 1 0 = some 2 := hw.2.2 1 0 (by decide)
theorem rf_1_1 {h : AH} (hw : zWF h) : h.P 1 1 = some 7 := hw.2.2 1 1 (by decide)
theorem rf_1_3 {h : AH} (hw : zWF h) : h.P 1 3 = some 12 := hw.2.2 1 3 (by decide)
theorem rf_1_4 {h : AH} (hw : zWF h) : h.P 1 4 = some 21 := hw.2.2 1 4 (by decide)
theorem rf_1_5 {h : AH} (hw : zWF h) : h.P 1 5 = some 23 := hw.2.2 1 5 (by decide)
theorem rf_1_6 {h : AH} (hw : zWF h) : h.P 1 6 = some 25 := hw.2.2 1 6 (by decide)
theorem rf_1_7 {h : AH} (hw : zWF h) : h.P 1 7 = some 30 := hw.2.2 1 7 (by decide)
theorem rf_1_8 {h : AH} (hw : zWF h) : h.P 1 8 = some 37 := hw.2.2 1 8 (by decide)
theorem rf_1_9 {h : AH} (hw : zWF h) : h.P 1 9 = some 39 := hw.2.2 1 9 (by decide)
theorem rf_1_10 {h : AH} (hw : zWF h) : h.P 1 10 = some 40 := hw.2.2 1 10 (by decide)
theorem rf_2_0 {h : AH} (hw : zWF h) : h.P 2 0 = some 3 := hw.2.2 2 0 (by decide)
theorem rf_2_1 {h : AH} (hw : zWF h) : h.P 2 1 = some 4 := hw.2.2 2 1 (by decide)
theorem rf_2_2 {h : AH} (hw : zWF h) : h.P 2 2 = some 5 := hw.2.2 2 2 (by decide)
theorem rf_5_0 {h : AH} (hw : zWF h) : h.P 5 0 = some 6 := hw.2.2 5 0 (by decide)
theorem rf_7_0 {h : AH} (hw : zWF h) : h.P 7 0 = some 8 := hw.2.2 7 0 (by decide)
theorem rf_7_1 {h : AH} (hw : zWF h) : h.P 7 1 = some 9 := hw.2.2 7 1 (by decide)
theorem rf_7_2 {h : AH} (hw : zWF h) : h.P 7 2 = some 10 := hw.2.2 7 2 (by decide)
theorem rf_10_0 {h : AH} (hw : zWF h) : h.P 10 0 = some 11 := hw.2.2 10 0 (by decide)
theorem rf_12_0 {h : AH} (hw : zWF h) : h.P 12 0 = some 13 := hw.2.2 12 0 (by decide)
theorem rf_12_1 {h : AH} (hw : zWF h) : h.P 12 1 = some 14 := hw.2.2 12 1 (by decide)
theorem rf_12_2 {h : AH} (hw : zWF h) : h.P 12 2 = some 15 := hw.2.2 12 2 (by decide)
theorem rf_12_3 {h : AH} (hw : zWF h) : h.P 12 3 = some 16 := hw.2.2 12 3 (by decide)
theorem rf_12_4 {h : AH} (hw : zWF h) : h.P 12 4 = some 17 := hw.2.2 12 4 (by decide)
theorem rf_12_5 {h : AH} (hw : zWF h) : h.P 12 5 = some 18 := hw.2.2 12 5 (by decide)
theorem rf_12_6 {h : AH} (hw : zWF h) : h.P 12 6 = some 19 := hw.2.2 12 6 (by decide)
theorem rf_12_7 {h : AH} (hw : zWF h) : h.P 12 7 = some 20 := hw.2.2 12 7 (by decide)
theorem rf_21_0 {h : AH} (hw : zWF h) : h.P 21 0 = some 22 := hw.2.2 21 0 (by decide)
theorem rf_23_0 {h : AH} (hw : zWF h) : h.P 23 0 = some 24 := hw.2.2 23 0 (by decide)
theorem rf_25_0 {h : AH} (hw : zWF h) : h.P 25 0 = some 26 := hw.2.2 25 0 (by decide)
theorem rf_25_1 {h : AH} (hw : zWF h) : h.P 25 1 = some 27 := hw.2.2 25 1 (by decide)
theorem rf_25_2 {h : AH} (hw : zWF h) : h.P 25 2 = some 28 := hw.2.2 25 2 (by decide)
theorem rf_25_3 {h : AH} (hw : zWF h) : h.P 25 3 = some 29 := hw.2.2 25 3 (by decide)
theorem rf_30_0 {h : AH} (hw : zWF h) : h.P 30 0 = some 31 := hw.2.2 30 0 (by decide)
theorem rf_30_1 {h : AH} (hw : zWF h) : h.P 30 1 = some 32 := hw.2.2 30 1 (by decide)
theorem rf_30_2 {h : AH} (hw : zWF h) : h.P 30 2 = some 33 := hw.2.2 30 2 (by decide)
theorem rf_30_3 {h : AH} (hw : zWF h) : h.P 30 3 = some 34 := hw.2.2 30 3 (by decide)
theorem rf_30_4 {h : AH} (hw : zWF h) : h.P 30 4 = some 35 := hw.2.2 30 4 (by decide)
theorem rf_30_5 {h : AH} (hw : zWF h) : h.P 30 5 = some 36 := hw.2.2 30 5 (by decide)
theorem rf_41_1 {h : AH} (hw : zWF h) : h.P 41 1 = some 42 := hw.2.2 41 1 (by decide)
theorem rf_43_1 {h : AH} (hw : zWF h) : h.P 43 1 = some 44 := hw.2.2 43 1 (by decide)
theorem rf_45_1 {h : AH} (hw : zWF h) : h.P 45 1 = some 46 := hw.2.2 45 1 (by decide)
theorem rf_47_1 {h : AH} (hw : zWF h) : h.P 47 1 = some 48 := hw.2.2 47 1 (by decide)
theorem rf_49_1 {h : AH} (hw : zWF h) : h.P 49 1 = some 50 := hw.2.2 49 1 (by decide)
theorem rf_51_1 {h : AH} (hw : zWF h) : h.P 51 1 = some 52 := hw.2.2 51 1 (by decide)
theorem wf_I {h h1 : AH} {k : Nat} {f : Nat → Int32} (e : h1 = h.wI k f) (hw : zWF h) : zWF h1 := by subst e; exact hw
theorem wf_L {h h1 : AH} {k : Nat} {f : Nat → Int64} (e : h1 = h.wL k f) (hw : zWF h) : zWF h1 := by subst e; exact hw
theorem shk_I {h h1 : AH} {k a : Nat} {f : Nat → Int32} {x : Option Shp} (e : h1 = h.wI k f) (hs : h.sh a = x) : h1.sh a = x := by subst e; exact hs
theorem shk_L {h h1 : AH} {k a : Nat} {f : Nat → Int64} {x : Option Shp} (e : h1 = h.wL k f) (hs : h.sh a = x) : h1.sh a = x := by subst e; exact hs
/-- one of the six LISTS' cells -/
def zRow (k : Nat) : Prop := ∃ i, i < 6 ∧ k = 41 + 2 * i
theorem row_sh {h : AH} {k : Nat} (hw : zWF h) (hr : zRow k) : h.sh k = some (.inl 7) := by
  obtain ⟨i, hi, rfl⟩ := hr
  match i, hi with
  | 0, _ => exact sh_41 hw | 1, _ => exact sh_43 hw | 2, _ => exact sh_45 hw | 3, _ => exact sh_47 hw | 4, _ => exact sh_49 hw | 5, _ => exact sh_51 hw
theorem row_sh1 {h : AH} {k : Nat} (hw : zWF h) (hr : zRow k) : h.sh (k + 1) = some (.inr (1, 60)) := by
  obtain ⟨i, hi, rfl⟩ := hr
  match i, hi with
  | 0, _ => exact sh_42 hw | 1, _ => exact sh_44 hw | 2, _ => exact sh_46 hw | 3, _ => exact sh_48 hw | 4, _ => exact sh_50 hw | 5, _ => exact sh_52 hw
theorem row_rf {h : AH} {k : Nat} (hw : zWF h) (hr : zRow k) : h.P k 1 = some (k + 1) := by
  obtain ⟨i, hi, rfl⟩ := hr
  match i, hi with
  | 0, _ => exact rf_41_1 hw | 1, _ => exact rf_43_1 hw | 2, _ => exact rf_45_1 hw | 3, _ => exact rf_47_1 hw | 4, _ => exact rf_49_1 hw | 5, _ => exact rf_51_1 hw
/-- THE PAPER's row now -/
def zPap (h : AH) (pb len : Nat) : Prop := h.P 37 0 = some pb ∧ h.sh pb = some (.inr (2, len))
/-! what a call may answer -/
def kI (Q : Int32 → AH → Prop) : Option Value → AH → Prop := fun r h' => ∃ x, r = some (.int x) ∧ zWF h' ∧ Q x h'
def kL (Q : Int64 → AH → Prop) : Option Value → AH → Prop := fun r h' => ∃ x, r = some (.long x) ∧ zWF h' ∧ Q x h'
def kV (Q : AH → Prop) : Option Value → AH → Prop := fun r h' => r = none ∧ zWF h' ∧ Q h'
def pI (h : AH) (Q : Int32 → Prop) : Option Value → AH → Prop := fun r h' => ∃ x, r = some (.int x) ∧ h = h' ∧ Q x
def pL (h : AH) (Q : Int64 → Prop) : Option Value → AH → Prop := fun r h' => ∃ x, r = some (.long x) ∧ h = h' ∧ Q x
/-- a row of the LISTS, or null -/
def pRow (h : AH) (A : Prop) (B : Nat → Prop) : Option Value → AH → Prop := fun r h' => h = h' ∧ ((r = some .null ∧ A) ∨ ∃ k, r = some (.ref k) ∧ zRow k ∧ B k)
/-- a row of 40 ints, or null -/
def pFig (h : AH) (A : Prop) (B : Nat → Prop) : Option Value → AH → Prop := fun r h' => h = h' ∧ ((r = some .null ∧ A) ∨ ∃ k, r = some (.ref k) ∧ h.sh k = some (.inr (0, 40)) ∧ B k)
/-- a new row of bytes -/
def kB (B : Nat → AH → Prop) : Option Value → AH → Prop := fun r h' => ∃ k, r = some (.ref k) ∧ zWF h' ∧ B k h'
theorem zbool {x : Int32} (h : x = 0 ∨ x = 1) : narrow .boolean (.int x) = .int x := by rcases h with rfl | rfl <;> rfl
theorem wf_P37 {h h1 : AH} {x : Option Nat} (e : h1 = h.sP 37 0 x) (hw : zWF h) : zWF h1 := by
  subst e
  refine ⟨hw.1, hw.2.1, fun a k hr => ?_⟩
  have hne : ¬ (a = 37 ∧ k = 0) := fun q => by rw [q.1, q.2] at hr; exact hr rfl
  show va_up h.P 37 (va_up (h.P 37) 0 x) a k = _
  by_cases ha : a = 37
  · subst ha; rw [va_up_self, va_up_ne _ _ (fun q => hne ⟨rfl, q⟩)]; exact hw.2.2 37 k hr
  · rw [va_up_ne _ _ ha]; exact hw.2.2 a k hr
theorem shk_P {h h1 : AH} {k a : Nat} {f : Nat → Option Nat} {x : Option Shp} (e : h1 = h.wP k f) (hs : h.sh a = x) : h1.sh a = x := by subst e; exact hs
theorem wf_new {h h1 : AH} {sh : Shp} {sz : Nat} (e : h1 = h.push sh sz) (hw : zWF h) : zWF h1 := by
  subst e
  have h0 := hw.1
  refine ⟨Nat.le_succ_of_le h0, fun k hk hs => ?_, fun a k hr => ?_⟩
  · show va_up h.sh h.n _ k = _
    rw [va_up_ne _ _ (by omega)]; exact hw.2.1 k hk hs
  · have ha : a < 56 := by
      apply Classical.byContradiction
      intro q
      obtain ⟨c, rfl⟩ : ∃ c, a = 56 + c := ⟨a - 56, by omega⟩
      rw [Nat.add_comm] at hr
      exact hr rfl
    show va_up h.P h.n _ a k = _
    rw [va_up_ne _ _ (by omega)]; exact hw.2.2 a k hr
theorem sh_new {h h1 : AH} {sh : Shp} {sz : Nat} (e : h1 = h.push sh sz) : h1.sh h.n = some sh := by subst e; exact va_up_self _ _ _
theorem zr_int {x : Int32} {c : Nat} (h : x.toInt = c) : x = nI c := by
  apply Int32.toInt_inj.mp
  have h1 := Int32.toInt_lt x
  rw [nI_toInt (by omega)]
  exact h
