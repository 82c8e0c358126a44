/-! ===== p1: one call on a fresh pair ===== -/
theorem s_has (p : Int32) : f_X5_has s0X p = some 0 := by
  unfold f_X5_has
  by_cases h1 : p < 0
  · simp [h1]
  · have := i_nlt.mp h1
    simp [h1, s0X, this]
theorem s_isP (p : Int32) : f_X7_isPiece s0M p = some 0 := by
  unfold f_X7_isPiece
  by_cases h1 : p < 0
  · simp [h1]
  · have := i_nlt.mp h1
    simp [h1, s0M, this]
theorem jushr0 (x : Int32) : jushr x 0 = x := by
  have e : (Int32.toUInt32 0 &&& Int32.toUInt32 31) = 0 := by decide
  rw [jushr, e]
  simp
theorem s_bits (a n : Int32) (h : win a 0 11 = true) : f_X2_hasBits s0X a n = some (if n = 0 then 1 else 0) := by
  obtain ⟨j, hj, rfl⟩ := (win_nI (n := 11) (by decide) 11 rfl).mp h
  unfold f_X2_hasBits f_X2_sizeOf
  rw [e_X2has, h]
  have := inb_nI (j := j) (n := 12) (by omega) (by decide)
  simp only [Option.bind_some, if_true, this]
  have e : s0X 5 (nI j).toNatClampNeg = 0 := rfl
  simp [e, jushr0]
  by_cases hn : n = 0 <;> simp [hn]
theorem s_chg (a b n : Int32) : f_X6_isChange s0X a b n = some (if (win a 0 11 && win b 0 11 && decide (n = 0)) = true then 1 else 0) := by
  unfold f_X6_isChange
  rw [e_X2has, e_X2has]
  cases h1 : win a 0 11
  · simp
  cases h2 : win b 0 11
  · simp
  rw [s_bits b n h2]
  by_cases hn : n = 0 <;> simp [hn]
theorem i_lt1 {n : Int32} (h : ¬ n < 0) : 1 ≤ n ↔ ¬ n = 0 := by
  obtain ⟨j, hj, rfl⟩ := nI_of h
  have e1 : (1 : Int32) = nI 1 := rfl
  have e0 : (0 : Int32) = nI 0 := rfl
  rw [e1, e0, nI_leI (by decide) hj, nI_eq hj (by decide)]
  omega
theorem s_chgM (u : St) (hu : u 11 = fun _ => 0) (a b n : Int32) : f_X7_isChange u a b n = some (if (win a 0 11 && win b 0 11 && decide (n = 0)) = true then 1 else 0) := by
  unfold f_X7_isChange
  rw [e_isLook, e_isLook]
  cases h1 : win a 0 11
  · simp
  cases h2 : win b 0 11
  · simp
  obtain ⟨j, hj, rfl⟩ := (win_nI (n := 11) (by decide) 11 rfl).mp h2
  have hin := inb_nI (j := j) (n := 12) (by omega) (by decide)
  have e : ((1 : Int32) <<< ((u 11 (nI j).toNatClampNeg) &&& 31)) = 1 := by rw [hu]; show (1 : Int32) <<< ((0 : Int32) &&& 31) = 1; decide
  by_cases hn : n < 0
  · have : ¬ n = 0 := fun q => by subst q; exact absurd hn (by decide)
    simp [hn, this]
  · simp only [Option.bind_some, if_true, hin, hn, if_false, e]
    by_cases h0 : n = 0
    · subst h0; simp
    · have := (i_lt1 hn).mpr h0
      simp [h0, this]
theorem p1_0 (b c d e : Int32) : stp_0 (fun _ _ => True) b c d e s0X s0M := by
  unfold stp_0
  rw [e_mpiece]
  unfold f_X6_piece f_X7_piece_150
  rw [e_told]
  cases h : ptold b c d
  · exact ⟨(-1000001, XF 1 s0X), (-1000001, MF 1 s0M), by simp [e_x1], by simp [e_m1], rfl, trivial⟩
  · have h1 : ((f_X5_add s0X b c d).map Prod.fst) = some 0 := rfl
    obtain ⟨q, h2, h3⟩ := mp1 h1
    have h4 : f_X5_isFull s0X = some 0 := rfl
    have h5 : s0M 0 0 = 0 := rfl
    have h6 : inb 0 32 = true := by decide
    have h7 : ((f_X7_piece_150 s0M b c d 1).map Prod.fst) = some 0 := rfl
    obtain ⟨q2, h8, h9⟩ := mp1 h7
    exact ⟨(q.1, q.2), q2, by simp [h4, h2], by simpa [f_X7_piece_150] using h8, h3.trans h9.symm, trivial⟩
theorem p1_1 (b c d e : Int32) : stp_1 (fun _ _ => True) b c d e s0X s0M := ⟨(-1000001, XF 1 s0X), (-1000001, MF 1 s0M), by simp [f_X6_as, s_has, e_x1], by simp [f_X7_as, s_isP, e_m1], rfl, trivial⟩
theorem p1_2 (b c d e : Int32) : stp_2 (fun _ _ => True) b c d e s0X s0M := ⟨(-1000001, XF 1 s0X), (-1000001, MF 1 s0M), by simp [f_X6_about, s_has, e_x1], by simp [f_X7_about, s_isP, e_m1], rfl, trivial⟩
theorem p1_3 (b c d e : Int32) : stp_3 (fun _ _ => True) b c d e s0X s0M := by
  refine ⟨(-1000001, XF 1 s0X), (-1000001, MF 1 s0M), ?_, ?_, rfl, trivial⟩
  · cases h : win b 0 11 <;> simp [f_X6_wear, e_X2has, h, s_has, e_x1]
  · cases h : win b 0 11 <;> simp [f_X7_wear, e_isLook, h, s_isP, e_m1]
theorem p1_4 (b c d e : Int32) : stp_4 (fun _ _ => True) b c d e s0X s0M := by
  unfold stp_4
  cases h : win b 0 11
  · exact ⟨(-1000001, XF 1 s0X), (-1000001, MF 1 s0M), by simp [f_X6_bare, e_X2has, h, e_x1], by simp [f_X7_bare, e_isLook, h, e_m1], rfl, trivial⟩
  · obtain ⟨j, hj, rfl⟩ := (win_nI (n := 11) (by decide) 11 rfl).mp h
    have hx : ∀ j, j < 12 → (f_X6_bare s0X (nI j)).map Prod.fst = some 0 ∧ (f_X7_bare s0M (nI j)).map Prod.fst = some 0 := by decide +kernel
    obtain ⟨q1, a1, a2⟩ := mp1 (hx j (by omega)).1
    obtain ⟨q2, b1, b2⟩ := mp1 (hx j (by omega)).2
    exact ⟨q1, q2, a1, b1, a2.trans b2.symm, trivial⟩
theorem p1_5 (b c d e : Int32) : stp_5 (fun _ _ => True) b c d e s0X s0M := by
  unfold stp_5
  cases h : win b 0 11
  · exact ⟨(-1000001, XF 1 s0X), (-1000001, MF 1 s0M), by simp [f_X6_look, e_X2has, h, e_x1], by simp [f_X7_look, e_isLook, h, e_m1], rfl, trivial⟩
  · obtain ⟨j, hj, rfl⟩ := (win_nI (n := 11) (by decide) 11 rfl).mp h
    have hin := inb_nI (j := j) (n := 12) (by omega) (by decide)
    have e : s0X 5 (nI j).toNatClampNeg = 0 := rfl
    have e2 : s0M 11 (nI j).toNatClampNeg = 0 := rfl
    have hat : f_X2_at s0X (nI j) c = some (-1) := by
      unfold f_X2_at
      rw [e_X2has, h]
      simp only [Option.bind_some, if_true]
      by_cases h1 : c < 0
      · simp [h1]
      · have h1' := i_nlt.mp h1
        by_cases h2 : 8 ≤ c
        · simp [h1, h2]
        · simp [h1, h2, hin, e, h1']
    refine ⟨(-1000002, XF 2 s0X), (-1000002, MF 2 s0M), ?_, ?_, rfl, trivial⟩
    · unfold f_X6_look
      rw [e_X2has, h, ]
      simp only [Option.bind_some, if_true, hat]
      simp [e_x2]
    · unfold f_X7_look
      rw [e_isLook, h]
      by_cases h1 : c < 0
      · simp [h1, e_m2]
      · have h1' := i_nlt.mp h1
        simp [h1, hin, e2, h1', e_m2]
theorem p1_6 (b c d e : Int32) : stp_6 (fun _ _ => True) b c d e s0X s0M := by
  unfold stp_6
  cases h : win b 1 30
  · exact ⟨(-1000001, XF 1 s0X), (-1000001, MF 1 s0M), by simp [f_X6_limit, e_isWithin, h, e_x1], by simp [f_X7_limit, e_isIn, h, e_m1], rfl, trivial⟩
  · exact ⟨(8, up2 s0X 0 9 b), (8, up2 s0M 0 13 b), by simp [f_X6_limit, e_isWithin, h]; rfl, by simp [f_X7_limit, e_isIn, h]; rfl, rfl, trivial⟩
theorem k_7 : ∀ i, i < 12 → ∀ j, j < 12 → (f_X6_allowed s0X (nI i) (nI j) 0).map Prod.fst = some 1 ∧ (f_X7_allowed s0M (nI i) (nI j) 0).map Prod.fst = some 1 := by decide +kernel
theorem k_8 : ∀ i, i < 12 → ∀ j, j < 12 → ∀ w, w < 4 → (f_X6_told s0X (nI i) (nI j) 0 (nI w)).map Prod.fst = some 0 ∧ (f_X7_told s0M (nI i) (nI j) 0 (nI w)).map Prod.fst = some 0 := by decide +kernel
theorem k_9 : ∀ i, i < 12 → ∀ j, j < 12 → ∀ w, w < 4 → (f_X6_seconds s0X (nI i) (nI j) 0 (nI w)).map Prod.fst = some 0 ∧ (f_X7_seconds s0M (nI i) (nI j) 0 (nI w)).map Prod.fst = some 0 := by decide +kernel
theorem k_10 : ∀ i, i < 12 → ∀ j, j < 12 → ∀ h, h < 4 → ∀ w, w < 2 → (f_X6_best s0X (nI i) (nI j) (nI h) (nI w)).map Prod.fst = some 0 ∧ (f_X7_best s0M (nI i) (nI j) (nI h) (nI w)).map Prod.fst = some 0 := by decide +kernel
theorem k_15 : (f_X6_dressers s0X).map Prod.fst = some 0 ∧ (f_X7_dressers s0M).map Prod.fst = some 0 := by decide +kernel
theorem k_19 : ∀ i, i < 12 → ∀ w, w < 37 → (f_X6_tonight s0X (nI i) (nI (w + 30))).map Prod.fst = some 0 ∧ (f_X7_tonight s0M (nI i) (nI (w + 30))).map Prod.fst = some 0 := by decide +kernel
theorem k_21 : ∀ i, i < 12 → ∀ j, j < 12 → (f_X6_check s0X (nI i) (nI j) 0).map Prod.fst = some 0 ∧ (f_X7_check s0M (nI i) (nI j) 0).map Prod.fst = some 0 := by decide +kernel
theorem k_18 : ∀ n, n < 100 → (f_X6_hours s0X (nI (n + 1))).map Prod.fst = some 0 ∧ (f_X7_hours s0M (nI (n + 1))).map Prod.fst = some 0 := by decide +kernel
theorem k_23 : ∀ n, n < 5 → (f_X6_found s0X (nI (n + 1))).map Prod.fst = some 0 ∧ (f_X7_found s0M (nI (n + 1))).map Prod.fst = some 0 := by decide +kernel
theorem k_13 : ∀ i, i < 6 → ∀ j, j < 6 → i ≠ j → inb (nI i * 6 + nI j) 36 = true ∧ inb (nI j * 6 + nI i) 36 = true ∧ inb (6 * nI i + nI j) 36 = true ∧ inb (6 * nI j + nI i) 36 = true := by decide +kernel
theorem two {fx fm : Option (Int32 × St)} {v : Int32} (h : fx.map Prod.fst = some v ∧ fm.map Prod.fst = some v) : ∃ q1 q2, fx = some q1 ∧ fm = some q2 ∧ q1.1 = q2.1 ∧ True := by
  obtain ⟨q1, a1, a2⟩ := mp1 h.1
  obtain ⟨q2, b1, b2⟩ := mp1 h.2
  exact ⟨q1, q2, a1, b1, a2.trans b2.symm, trivial⟩
theorem win_sh {v lo hi : Int32} {m n : Nat} (e1 : lo = nI m) (e2 : hi = nI n) (hn : n < 2 ^ 30) (hm : m ≤ n) (h : win v lo hi = true) : ∃ j : Nat, j ≤ n - m ∧ v = nI (j + m) := by
  subst e1; subst e2
  obtain ⟨h1, h2⟩ := win_iff.mp h
  have h0 : ¬ v < 0 := fun q => by
    have := nI_toInt (n := m) (by omega)
    rw [Int32.le_iff_toInt_le, this] at h1
    rw [Int32.lt_iff_toInt_lt] at q
    have e : (0 : Int32).toInt = 0 := rfl
    rw [e] at q
    omega
  obtain ⟨j, hj, rfl⟩ := nI_of h0
  have a1 := (nI_leI (by omega) hj).mp h1
  have a2 := (nI_leI hj (by omega)).mp h2
  exact ⟨j - m, by omega, by rw [Nat.sub_add_cancel a1]⟩
theorem p1_7 (b c d e : Int32) : stp_7 (fun _ _ => True) b c d e s0X s0M := by
  unfold stp_7
  cases h : (win b 0 11 && win c 0 11 && decide (d = 0))
  · exact ⟨(-1000001, XF 1 s0X), (-1000001, MF 1 s0M), by simp only [f_X6_allowed, s_chg, h]; simp [e_x1], by simp only [f_X7_allowed, s_chgM s0M rfl, h]; simp [e_m1], rfl, trivial⟩
  · simp only [Bool.and_eq_true, decide_eq_true_eq] at h
    obtain ⟨⟨h1, h2⟩, rfl⟩ := h
    obtain ⟨i, hi, rfl⟩ := (win_nI (n := 11) (by decide) 11 rfl).mp h1
    obtain ⟨j, hj, rfl⟩ := (win_nI (n := 11) (by decide) 11 rfl).mp h2
    exact two (k_7 i (by omega) j (by omega))
theorem p1_8 (b c d e : Int32) : stp_8 (fun _ _ => True) b c d e s0X s0M := by
  unfold stp_8
  cases h : (win b 0 11 && win c 0 11 && decide (d = 0))
  · exact ⟨(-1000001, XF 1 s0X), (-1000001, MF 1 s0M), by simp only [f_X6_told, s_chg, h]; simp [e_x1], by simp only [f_X7_told, s_chgM s0M rfl, h]; simp [e_m1], rfl, trivial⟩
  cases hw : win e 0 3
  · exact ⟨(-1000001, XF 1 s0X), (-1000001, MF 1 s0M), by simp only [f_X6_told, s_chg, h, e_isWithin, hw]; simp [e_x1], by simp only [f_X7_told, s_chgM s0M rfl, h, e_isIn, hw]; simp [e_m1], rfl, trivial⟩
  simp only [Bool.and_eq_true, decide_eq_true_eq] at h
  obtain ⟨⟨h1, h2⟩, rfl⟩ := h
  obtain ⟨i, hi, rfl⟩ := (win_nI (n := 11) (by decide) 11 rfl).mp h1
  obtain ⟨j, hj, rfl⟩ := (win_nI (n := 11) (by decide) 11 rfl).mp h2
  obtain ⟨w, hw', rfl⟩ := (win_nI (n := 3) (by decide) 3 rfl).mp hw
  exact two (k_8 i (by omega) j (by omega) w (by omega))
theorem p1_9 (b c d e : Int32) : stp_9 (fun _ _ => True) b c d e s0X s0M := by
  unfold stp_9
  cases h : (win b 0 11 && win c 0 11 && decide (d = 0))
  · exact ⟨(-1000001, XF 1 s0X), (-1000001, MF 1 s0M), by simp only [f_X6_seconds, s_chg, h]; simp [e_x1], by simp only [f_X7_seconds, s_chgM s0M rfl, h]; simp [e_m1], rfl, trivial⟩
  cases hw : win e 0 3
  · exact ⟨(-1000001, XF 1 s0X), (-1000001, MF 1 s0M), by simp only [f_X6_seconds, s_chg, h, e_isWithin, hw]; simp [e_x1], by simp only [f_X7_seconds, s_chgM s0M rfl, h, e_isIn, hw]; simp [e_m1], rfl, trivial⟩
  simp only [Bool.and_eq_true, decide_eq_true_eq] at h
  obtain ⟨⟨h1, h2⟩, rfl⟩ := h
  obtain ⟨i, hi, rfl⟩ := (win_nI (n := 11) (by decide) 11 rfl).mp h1
  obtain ⟨j, hj, rfl⟩ := (win_nI (n := 11) (by decide) 11 rfl).mp h2
  obtain ⟨w, hw', rfl⟩ := (win_nI (n := 3) (by decide) 3 rfl).mp hw
  exact two (k_9 i (by omega) j (by omega) w (by omega))
theorem p1_10 (b c d e : Int32) : stp_10 (fun _ _ => True) b c d e s0X s0M := by
  unfold stp_10
  cases h1 : win b 0 11
  · exact ⟨(-1000001, XF 1 s0X), (-1000001, MF 1 s0M), by simp [f_X6_best, s_chg, h1, e_x1], by simp [f_X7_best, e_isLook, h1, e_m1], rfl, trivial⟩
  cases h2 : win c 0 11
  · exact ⟨(-1000001, XF 1 s0X), (-1000001, MF 1 s0M), by simp [f_X6_best, s_chg, h1, h2, e_x1], by simp [f_X7_best, e_isLook, h1, h2, e_m1], rfl, trivial⟩
  cases h3 : win d 0 3
  · exact ⟨(-1000001, XF 1 s0X), (-1000001, MF 1 s0M), by simp [f_X6_best, s_chg, h1, h2, e_isWithin, h3, e_x1], by simp [f_X7_best, e_isLook, h1, h2, e_isIn, h3, e_m1], rfl, trivial⟩
  cases h4 : win e 0 1
  · exact ⟨(-1000001, XF 1 s0X), (-1000001, MF 1 s0M), by simp [f_X6_best, s_chg, h1, h2, e_isWithin, h3, h4, e_x1], by simp [f_X7_best, e_isLook, h1, h2, e_isIn, h3, h4, e_m1], rfl, trivial⟩
  obtain ⟨i, hi, rfl⟩ := (win_nI (n := 11) (by decide) 11 rfl).mp h1
  obtain ⟨j, hj, rfl⟩ := (win_nI (n := 11) (by decide) 11 rfl).mp h2
  obtain ⟨k, hk, rfl⟩ := (win_nI (n := 3) (by decide) 3 rfl).mp h3
  obtain ⟨w, hw', rfl⟩ := (win_nI (n := 1) (by decide) 1 rfl).mp h4
  exact two (k_10 i (by omega) j (by omega) k (by omega) w (by omega))
theorem p1_11 (b c d e : Int32) : stp_11 (fun _ _ => True) b c d e s0X s0M := by
  unfold stp_11
  rw [e_mshift]
  unfold f_X6_shift
  rw [e_stold1]
  have hF : (f_X4_isFull s0X) = some 0 := rfl
  obtain ⟨q, h2, h3⟩ := mp1 (show ((f_X4_add s0X b c d e).map Prod.fst) = some 0 from rfl)
  obtain ⟨q2, h8, h9⟩ := mp1 (show ((f_X7_shift_80 s0M b c d e 1).map Prod.fst) = some 0 from rfl)
  have hb : f_X7_shift_80 s0M b c d e 0 = some (-1000001, MF 1 s0M) := by simp [f_X7_shift_80, e_m1]
  unfold stold
  by_cases g1 : (!decide (b < 0) && win (b / 1000) 0 11 && win (b / 10 - b / 10 / 100 * 100) 0 11 && win (b - b / 10 * 10) 0 5) = true
  · rw [if_pos g1, g1]
    cases g2 : win c 0 20000
    · exact ⟨(-1000001, XF 1 s0X), (-1000001, MF 1 s0M), by simp [e_isWithin, g2, e_x1], by simpa using hb, rfl, trivial⟩
    cases g3 : win d 0 20000
    · exact ⟨(-1000001, XF 1 s0X), (-1000001, MF 1 s0M), by simp [e_isWithin, g2, g3, e_x1], by simpa using hb, rfl, trivial⟩
    by_cases g4 : d ≤ c
    · exact ⟨(-1000001, XF 1 s0X), (-1000001, MF 1 s0M), by simp [e_isWithin, g2, g3, g4, e_x1], by simpa [g4] using hb, rfl, trivial⟩
    cases g5 : win e 0 3
    · exact ⟨(-1000001, XF 1 s0X), (-1000001, MF 1 s0M), by simp [e_isWithin, g2, g3, g4, g5, e_x1], by simpa [g4] using hb, rfl, trivial⟩
    exact ⟨(q.1, q.2), q2, by simp [e_isWithin, g2, g3, g4, g5, hF, h2], by simpa [g4] using h8, h3.trans h9.symm, trivial⟩
  · have g1' : (!decide (b < 0) && win (b / 1000) 0 11 && win (b / 10 - b / 10 / 100 * 100) 0 11 && win (b - b / 10 * 10) 0 5) = false := by
      revert g1
      cases (!decide (b < 0) && win (b / 1000) 0 11 && win (b / 10 - b / 10 / 100 * 100) 0 11 && win (b - b / 10 * 10) 0 5) <;> simp
    rw [if_neg g1, g1']
    exact ⟨(-1000001, XF 1 s0X), (-1000001, MF 1 s0M), by simp [e_x1], by simpa using hb, rfl, trivial⟩
theorem p1_12 (b c d e : Int32) : stp_12 (fun _ _ => True) b c d e s0X s0M := two (v := -1000002) ⟨rfl, rfl⟩
theorem p1_13 (b c d e : Int32) : stp_13 (fun _ _ => True) b c d e s0X s0M := by
  unfold stp_13
  cases h1 : win b 0 5
  · exact ⟨(-1000001, XF 1 s0X), (-1000001, MF 1 s0M), by simp [f_X6_way, e_isWithin, h1, e_x1], by simp [f_X7_way, e_isDoor, h1, e_m1], rfl, trivial⟩
  cases h2 : win c 0 5
  · exact ⟨(-1000001, XF 1 s0X), (-1000001, MF 1 s0M), by simp [f_X6_way, e_isWithin, h1, h2, e_x1], by simp [f_X7_way, e_isDoor, h1, h2, e_m1], rfl, trivial⟩
  by_cases h3 : b = c
  · exact ⟨(-1000001, XF 1 s0X), (-1000001, MF 1 s0M), by simp [f_X6_way, e_isWithin, h1, h2, h3, e_x1], by simp [f_X7_way, e_isDoor, h1, h2, h3, e_m1], rfl, trivial⟩
  cases h4 : win d 0 600
  · exact ⟨(-1000001, XF 1 s0X), (-1000001, MF 1 s0M), by simp [f_X6_way, e_isWithin, h1, h2, h3, h4, e_x1], by simp [f_X7_way, e_isDoor, e_isIn, h1, h2, h3, h4, e_m1], rfl, trivial⟩
  obtain ⟨i, hi, ei⟩ := (win_nI (n := 5) (by decide) 5 rfl).mp h1
  obtain ⟨j, hj, ej⟩ := (win_nI (n := 5) (by decide) 5 rfl).mp h2
  have hij : i ≠ j := fun q => h3 (by rw [ei, ej, q])
  obtain ⟨g1, g2, g3, g4⟩ := k_13 i (by omega) j (by omega) hij
  rw [← ei, ← ej] at g1 g2 g3 g4
  have z1 : ∀ k, s0X 20 k = 0 := fun _ => rfl
  have z2 : ∀ k, s0M 19 k = 0 := fun _ => rfl
  exact ⟨(0, up2 (up2 s0X 20 (b * 6 + c).toNatClampNeg d) 20 (c * 6 + b).toNatClampNeg d), (0, up2 (up2 s0M 19 (6 * b + c).toNatClampNeg d) 19 (6 * c + b).toNatClampNeg d), by simp [f_X6_way, f_X4_setWay, f_X4_wayBetween, e_isWithin, h1, h2, h3, h4, g1, g2, z1], by simp [f_X7_way, e_isDoor, e_isIn, h1, h2, h3, h4, g3, g4, z2], rfl, trivial⟩
theorem p1_14 (b c d e : Int32) : stp_14 (fun _ _ => True) b c d e s0X s0M := by
  have hx : f_X4_has s0X b = some 0 := by
    unfold f_X4_has
    by_cases h1 : b < 0
    · simp [h1]
    · have := i_nlt.mp h1
      simp [h1, s0X, this]
  refine ⟨(-1000001, XF 1 s0X), (-1000001, MF 1 s0M), by simp [f_X6_fits, hx, e_x1], ?_, rfl, trivial⟩
  unfold f_X7_fits
  by_cases h1 : b < 0
  · simp [h1, e_m1]
  · have := i_nlt.mp h1
    simp [h1, s0M, this, e_m1]
theorem p1_15 (b c d e : Int32) : stp_15 (fun _ _ => True) b c d e s0X s0M := two k_15
theorem p1_16 (b c d e : Int32) : stp_16 (fun _ _ => True) b c d e s0X s0M := ⟨(-1000001, XF 1 s0X), (-1000001, MF 1 s0M), by simp [f_X6_worn, s_has, e_x1], by simp [f_X7_worn, s_isP, e_m1], rfl, trivial⟩
theorem p1_17 (b c d e : Int32) : stp_17 (fun _ _ => True) b c d e s0X s0M := ⟨(-1000001, XF 1 s0X), (-1000001, MF 1 s0M), by simp [f_X6_wash, s_has, e_x1], by simp [f_X7_wash, s_isP, e_m1], rfl, trivial⟩
theorem p1_18 (b c d e : Int32) : stp_18 (fun _ _ => True) b c d e s0X s0M := by
  unfold stp_18
  cases h : win b 1 100
  · exact ⟨(-1000001, XF 1 s0X), (-1000001, MF 1 s0M), by simp [f_X6_hours, e_isWithin, h, e_x1], by simp [f_X7_hours, e_isIn, h, e_m1], rfl, trivial⟩
  · obtain ⟨j, hj, rfl⟩ := win_sh (m := 1) (n := 100) rfl rfl (by decide) (by decide) h
    exact two (k_18 j (by omega))
theorem p1_19 (b c d e : Int32) : stp_19 (fun _ _ => True) b c d e s0X s0M := by
  unfold stp_19
  cases h1 : win b 0 11
  · exact ⟨(-1000001, XF 1 s0X), (-1000001, MF 1 s0M), by simp [f_X6_tonight, e_X2has, h1, e_x1], by simp [f_X7_tonight, e_isLook, h1, e_m1], rfl, trivial⟩
  cases h : win c 30 66
  · exact ⟨(-1000001, XF 1 s0X), (-1000001, MF 1 s0M), by simp [f_X6_tonight, e_X2has, h1, e_isWithin, h, e_x1], by simp [f_X7_tonight, e_isLook, h1, e_isIn, h, e_m1], rfl, trivial⟩
  obtain ⟨i, hi, rfl⟩ := (win_nI (n := 11) (by decide) 11 rfl).mp h1
  obtain ⟨j, hj, rfl⟩ := win_sh (m := 30) (n := 66) rfl rfl (by decide) (by decide) h
  exact two (k_19 i (by omega) j (by omega))
theorem p1_20 (b c d e : Int32) : stp_20 (fun _ _ => True) b c d e s0X s0M := two (v := 1) ⟨rfl, rfl⟩
theorem p1_21 (b c d e : Int32) : stp_21 (fun _ _ => True) b c d e s0X s0M := by
  unfold stp_21
  cases h : (win b 0 11 && win c 0 11 && decide (d = 0))
  · exact ⟨(-1000001, XF 1 s0X), (-1000001, MF 1 (up2 s0M 0 23 0)), by simp only [f_X6_check, s_chg, h]; simp [e_x1], by simp only [f_X7_check, s_chgM (up2 s0M 0 23 0) rfl, h]; simp [e_m1], rfl, trivial⟩
  · simp only [Bool.and_eq_true, decide_eq_true_eq] at h
    obtain ⟨⟨h1, h2⟩, rfl⟩ := h
    obtain ⟨i, hi, rfl⟩ := (win_nI (n := 11) (by decide) 11 rfl).mp h1
    obtain ⟨j, hj, rfl⟩ := (win_nI (n := 11) (by decide) 11 rfl).mp h2
    exact two (k_21 i (by omega) j (by omega))
theorem p1_22 (b c d e : Int32) : stp_22 (fun _ _ => True) b c d e s0X s0M := by
  unfold stp_22
  by_cases h0 : b = 0
  · subst h0; exact two (v := 0) ⟨rfl, rfl⟩
  by_cases h1 : b = 1
  · subst h1; exact two (v := 0) ⟨rfl, rfl⟩
  by_cases h2 : b = 2
  · subst h2; exact two (v := 0) ⟨rfl, rfl⟩
  by_cases h3 : b = 3
  · subst h3; exact two (v := 0) ⟨rfl, rfl⟩
  by_cases h4 : b = 4
  · subst h4; exact two (v := 0) (by decide +kernel)
  by_cases h5 : b = 5
  · subst h5; exact two (v := 8) ⟨rfl, rfl⟩
  exact ⟨(-1000001, XF 1 s0X), (-1000001, MF 1 s0M), by simp [f_X6_count, h0, h1, h2, h3, h4, h5, e_x1], by simp [f_X7_count, h0, h1, h2, h3, h4, h5, e_m1], rfl, trivial⟩
theorem p1_23 (b c d e : Int32) : stp_23 (fun _ _ => True) b c d e s0X s0M := by
  unfold stp_23
  cases h : win b 1 5
  · exact ⟨(-1000001, XF 1 s0X), (-1000001, MF 1 s0M), by simp [f_X6_found, e_isWithin, h, e_x1], by simp [f_X7_found, e_isIn, h, e_m1], rfl, trivial⟩
  · obtain ⟨j, hj, rfl⟩ := win_sh (m := 1) (n := 5) rfl rfl (by decide) (by decide) h
    exact two (k_23 j (by omega))
theorem p1_step : ∀ k : Nat, 5 * k + 5 ≤ 5 → ∀ ux um : St, (k = 0 → ux = s0X ∧ um = s0M) → ∀ o b c d e : Int32, LStp (fun ux um : St => k + 1 = 0 → ux = s0X ∧ um = s0M) (o &&& 31) b c d e ux um := by
  intro k hk ux um hR o b c d e
  have hk0 : k = 0 := by omega
  obtain ⟨rfl, rfl⟩ := hR hk0
  subst hk0
  have w : ∀ {fx fm : Option (Int32 × St)}, (∃ q1 q2, fx = some q1 ∧ fm = some q2 ∧ q1.1 = q2.1 ∧ True) → ∃ q1 q2, fx = some q1 ∧ fm = some q2 ∧ q1.1 = q2.1 ∧ (0 + 1 = 0 → q1.2 = s0X ∧ q2.2 = s0M) := by
    rintro fx fm ⟨q1, q2, h1, h2, h3, -⟩
    exact ⟨q1, q2, h1, h2, h3, fun h => by omega⟩
  generalize o &&& 31 = x
  refine ⟨fun _ => w (p1_0 b c d e), fun _ => w (p1_1 b c d e), fun _ => w (p1_2 b c d e), fun _ => w (p1_3 b c d e), fun _ => w (p1_4 b c d e), fun _ => w (p1_5 b c d e), fun _ => w (p1_6 b c d e), fun _ => w (p1_7 b c d e), fun _ => w (p1_8 b c d e), fun _ => w (p1_9 b c d e), fun _ => w (p1_10 b c d e), fun _ => w (p1_11 b c d e), fun _ => w (p1_12 b c d e), fun _ => w (p1_13 b c d e), fun _ => w (p1_14 b c d e), fun _ => w (p1_15 b c d e), fun _ => w (p1_16 b c d e), fun _ => w (p1_17 b c d e), fun _ => w (p1_18 b c d e), fun _ => w (p1_19 b c d e), fun _ => w (p1_20 b c d e), fun _ => w (p1_21 b c d e), fun _ => w (p1_22 b c d e), fun _ => w (p1_23 b c d e), ?_⟩
  intros
  omega
