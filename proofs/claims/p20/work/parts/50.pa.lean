/-! ===== closed forms of the smallest pure functions ===== -/
def win (v lo hi : Int32) : Bool := decide (lo ≤ v) && decide (v ≤ hi)
def XF (k : Nat) (u : St) : St := up2 u 30 k (u 30 k + 1)
def MF (k : Nat) (u : St) : St := up2 u 21 k (u 21 k + 1)
theorem i_nlt {a b : Int32} : ¬ a < b ↔ b ≤ a := Int32.not_lt
theorem i_nle {a b : Int32} : ¬ a ≤ b ↔ b < a := Int32.not_le
theorem win_iff {v lo hi : Int32} : win v lo hi = true ↔ lo ≤ v ∧ v ≤ hi := by simp [win]
theorem e_isWithin (u : St) (v lo hi : Int32) : f_X6_isWithin u v lo hi = some (if win v lo hi = true then 1 else 0) := by
  unfold f_X6_isWithin
  by_cases h1 : v < lo
  · have : ¬ lo ≤ v := i_nle.mpr h1
    simp [h1, win, this]
  · have h1' := i_nlt.mp h1
    by_cases h2 : hi < v
    · have : ¬ v ≤ hi := i_nle.mpr h2
      simp [h1, h2, win, this]
    · have h2' := i_nlt.mp h2
      simp [h1, h2, win, h1', h2']
theorem e_isIn (u : St) (v lo hi : Int32) : f_X7_isIn u v lo hi = some (if win v lo hi = true then 1 else 0) := e_isWithin u v lo hi
theorem i_le11 {v : Int32} : 12 ≤ v ↔ ¬ v ≤ 11 := by
  rw [i_nle, Int32.le_iff_toInt_le, Int32.lt_iff_toInt_lt]
  have h1 : (12 : Int32).toInt = 12 := by decide
  have h2 : (11 : Int32).toInt = 11 := by decide
  rw [h1, h2]; omega
theorem e_X2has (u : St) (v : Int32) : f_X2_has u v = some (if win v 0 11 = true then 1 else 0) := by
  unfold f_X2_has
  by_cases h1 : v < 0
  · have : ¬ 0 ≤ v := i_nle.mpr h1
    simp [h1, win, this]
  · have h1' := i_nlt.mp h1
    by_cases h2 : v ≤ 11
    · have : ¬ 12 ≤ v := fun h => i_le11.mp h h2
      simp [h1, win, this, h1', h2]
    · have : 12 ≤ v := i_le11.mpr h2
      simp [h1, win, this, h1', h2]
theorem e_isLook (u : St) (v : Int32) : f_X7_isLook u v = some (if win v 0 11 = true then 1 else 0) := by
  unfold f_X7_isLook
  rw [e_isIn]
  by_cases h : win v 0 11 = true <;> simp [h]
theorem e_isDoor (u : St) (v : Int32) : f_X7_isDoor u v = some (if win v 0 5 = true then 1 else 0) := by
  unfold f_X7_isDoor
  rw [e_isIn]
  by_cases h : win v 0 5 = true <;> simp [h]
theorem e_x1 (u : St) : f_X6_finding u 1 = some (-1000001, XF 1 u) := rfl
theorem e_x2 (u : St) : f_X6_finding u 2 = some (-1000002, XF 2 u) := rfl
theorem e_x3 (u : St) : f_X6_finding u 3 = some (-1000003, XF 3 u) := rfl
theorem e_x4 (u : St) : f_X6_finding u 4 = some (-1000004, XF 4 u) := rfl
theorem e_x5 (u : St) : f_X6_finding u 5 = some (-1000005, XF 5 u) := rfl
theorem e_m1 (u : St) : f_X7_finding u 1 = some (-1000001, MF 1 u) := rfl
theorem e_m2 (u : St) : f_X7_finding u 2 = some (-1000002, MF 2 u) := rfl
theorem e_m3 (u : St) : f_X7_finding u 3 = some (-1000003, MF 3 u) := rfl
theorem e_m4 (u : St) : f_X7_finding u 4 = some (-1000004, MF 4 u) := rfl
theorem e_m5 (u : St) : f_X7_finding u 5 = some (-1000005, MF 5 u) := rfl
theorem inb_iff {i : Int32} {n : Nat} (hn : n < 2 ^ 31) : inb i n = true ↔ ∃ j : Nat, j < n ∧ i = nI j := by
  constructor
  · intro h
    exact vp_in_of (inb_in h) hn
  · rintro ⟨j, hj, rfl⟩
    have := vp_in_nI hj hn
    simp only [inb, Bool.not_eq_true', Bool.or_eq_false_iff, decide_eq_false_iff_not]
    exact ⟨fun q => this (Or.inl q), fun q => this (Or.inr q)⟩
theorem inb_nI {j n : Nat} (hj : j < n) (hn : n < 2 ^ 31) : inb (nI j) n = true := (inb_iff hn).mpr ⟨j, hj, rfl⟩
theorem win_nI {v : Int32} {n : Nat} (hn : n < 2 ^ 31) (hi : Int32) (e : hi = nI n) : win v 0 hi = true ↔ ∃ j : Nat, j ≤ n ∧ v = nI j := by
  subst e
  rw [win_iff]
  constructor
  · rintro ⟨h1, h2⟩
    obtain ⟨j, hj, rfl⟩ := nI_of (i_nlt.mpr h1)
    exact ⟨j, (nI_leI hj hn).mp h2, rfl⟩
  · rintro ⟨j, hj, rfl⟩
    exact ⟨nI_pos' (by omega), nI_le hj hn⟩
def ptold (a b c : Int32) : Bool := !decide (a < 0) && !decide (b < 0) && !decide (c < 0) && win (a / 1000) 0 15 && win (a / 100 - a / 100 / 10 * 10) 0 5 && win (a / 10 - a / 10 / 10 * 10) 1 5 && win (a - a / 10 * 10) 0 2 && win (b / 100) 1 60 && win (b - b / 100 * 100) 1 (if a - a / 10 * 10 = 2 then 1 else 60) && win (c / 10) 30 60 && win (c - c / 10 * 10) 0 6
theorem e_told93 (u : St) (c x lo hi : Int32) : f_X6_isPieceTold_93 u c x lo hi = some (if (win x lo hi && win (c / 10) 30 60 && win (c - c / 10 * 10) 0 6) = true then 1 else 0) := by
  unfold f_X6_isPieceTold_93
  simp only [e_isWithin, f_X6_sizeIn, f_X6_spanIn, Option.bind_some]
  cases win x lo hi <;> cases win (c / 10) 30 60 <;> cases win (c - c / 10 * 10) 0 6 <;> simp
theorem e_told (u : St) (a b c : Int32) : f_X6_isPieceTold u a b c = some (if ptold a b c = true then 1 else 0) := by
  unfold f_X6_isPieceTold ptold
  simp only [e_isWithin, e_told93, f_X6_nameIn, f_X6_placeIn, f_X6_thickIn, f_X6_kindIn, f_X6_onIn, f_X6_offIn, Option.bind_some]
  by_cases h1 : a < 0
  · simp [h1]
  by_cases h2 : b < 0
  · simp [h1, h2]
  by_cases h3 : c < 0
  · simp [h1, h2, h3]
  cases h4 : win (a / 1000) 0 15
  · simp [h1, h2, h3]
  cases h5 : win (a / 100 - a / 100 / 10 * 10) 0 5
  · simp [h1, h2, h3]
  cases h6 : win (a / 10 - a / 10 / 10 * 10) 1 5
  · simp [h1, h2, h3]
  cases h7 : win (a - a / 10 * 10) 0 2
  · simp [h1, h2, h3]
  cases h8 : win (b / 100) 1 60
  · simp [h1, h2, h3]
  by_cases h9 : a - a / 10 * 10 = 2
  · simp [h1, h2, h3, h9]
  · simp [h1, h2, h3, h9]
theorem e_mpiece (u : St) (a b c : Int32) : f_X7_piece u a b c = f_X7_piece_150 u a b c (if ptold a b c = true then 1 else 0) := by
  unfold f_X7_piece f_X7_piece_73 f_X7_piece_112 ptold
  simp only [e_isIn, Option.bind_some]
  by_cases h1 : a < 0
  · simp [h1]
  by_cases h2 : b < 0
  · simp [h1, h2]
  by_cases h3 : c < 0
  · simp [h1, h2, h3]
  cases h4 : win (a / 1000) 0 15
  · simp [h1, h2, h3]
  cases h5 : win (a / 100 - a / 100 / 10 * 10) 0 5
  · simp [h1, h2, h3]
  cases h6 : win (a / 10 - a / 10 / 10 * 10) 1 5
  · simp [h1, h2, h3]
  cases h7 : win (a - a / 10 * 10) 0 2
  · simp [h1, h2, h3]
  cases h8 : win (b / 100) 1 60
  · simp [h1, h2, h3]
  by_cases h9 : a - a / 10 * 10 = 2
  · cases h10 : win (b - b / 100 * 100) 1 1 <;> cases h11 : win (c / 10) 30 60 <;> cases h12 : win (c - c / 10 * 10) 0 6 <;> simp [h1, h2, h3, h9, h10]
  · cases h10 : win (b - b / 100 * 100) 1 60 <;> cases h11 : win (c / 10) 30 60 <;> cases h12 : win (c - c / 10 * 10) 0 6 <;> simp [h1, h2, h3, h9, h10]
def stold (a b c d : Int32) : Bool := !decide (a < 0) && win (a / 1000) 0 11 && win (a / 10 - a / 10 / 100 * 100) 0 11 && win (a - a / 10 * 10) 0 5 && win b 0 20000 && win c 0 20000 && !decide (c ≤ b) && win d 0 3
theorem e_mshift (u : St) (a b c d : Int32) : f_X7_shift u a b c d = f_X7_shift_80 u a b c d (if stold a b c d = true then 1 else 0) := by
  unfold f_X7_shift stold
  simp only [e_isIn, e_isLook, e_isDoor, Option.bind_some]
  by_cases h1 : a < 0
  · simp [h1]
  cases h4 : win (a / 1000) 0 11
  · simp [h1]
  cases h5 : win (a / 10 - a / 10 / 100 * 100) 0 11
  · simp [h1]
  cases h6 : win (a - a / 10 * 10) 0 5
  · simp [h1]
  cases h7 : win b 0 20000
  · simp [h1]
  cases h8 : win c 0 20000
  · simp [h1]
  by_cases h9 : c ≤ b
  · simp [h1, h9]
  cases h10 : win d 0 3 <;> simp [h1, h9]
theorem e_stold1 (u : St) (a : Int32) : f_X6_isShiftTold u a = some (if (!decide (a < 0) && win (a / 1000) 0 11 && win (a / 10 - a / 10 / 100 * 100) 0 11 && win (a - a / 10 * 10) 0 5) = true then 1 else 0) := by
  unfold f_X6_isShiftTold
  simp only [e_isWithin, f_X6_beforeIn, f_X6_afterIn, f_X6_doorIn, Option.bind_some]
  by_cases h1 : a < 0
  · simp [h1]
  cases h4 : win (a / 1000) 0 11
  · simp [h1]
  cases h5 : win (a / 10 - a / 10 / 100 * 100) 0 11
  · simp [h1]
  cases h6 : win (a - a / 10 * 10) 0 5 <;> simp [h1]
theorem mp1 {f : Option (Int32 × St)} {v : Int32} (h : f.map Prod.fst = some v) : ∃ q, f = some q ∧ q.1 = v := by
  cases f with
  | none => cases h
  | some q => exact ⟨q, rfl, Option.some.inj h⟩
