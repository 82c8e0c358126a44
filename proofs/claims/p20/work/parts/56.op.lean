/-! ===== the direct calls ===== -/
theorem op_as {ux um : St} (h : R ux um) (p k : Int32) : Both (f_X6_as ux p k) (f_X7_as um p k) := by
  obtain ⟨n, hn, hx, hm, hf, hz, hcw⟩ := h.1
  have hh := has_eq hn hx hm p
  cases hp : hasM um p
  · rw [hp] at hh
    exact bf1 h (by simp [f_X6_as, e_has, hh, e_x1]) (by simp [f_X7_as, e_isP, hp, e_m1])
  rw [hp] at hh
  cases hk : win k 0 2
  · exact bf1 h (by simp [f_X6_as, e_has, hh, e_isWithin, hk, e_x1]) (by simp [f_X7_as, e_isP, hp, e_isIn, hk, e_m1])
  obtain ⟨j, hj, rfl⟩ := (hasM_iff hn hm p).mp hp
  obtain ⟨f0, f1, f2, f3, f4, f5, f6, f7, f8, f9⟩ := hf j hj
  have i1 := inb_nI (show j < 32 by omega) (show 32 < 2 ^ 31 by decide)
  have i2 := nI_clamp (show j < 2 ^ 31 by omega)
  have e0 : f_X5_fact ux (nI j) 0 = some (ux 2 (10 * j + 0)) := e_fact hn hx hj (k := 0) (by decide)
  have e1 : f_X5_fact ux (nI j) 1 = some (ux 2 (10 * j + 1)) := e_fact hn hx hj (k := 1) (by decide)
  by_cases hk0 : k = 0
  · exact ⟨(ux 2 (10 * j + 1), ux), (um 2 j, um), by simp [f_X6_as, e_has, hh, e_isWithin, hk, hk0, e1, show win 0 0 2 = true by decide], by simp [f_X7_as, e_isP, hp, e_isIn, hk, hk0, i1, i2, show win 0 0 2 = true by decide], f1, h⟩
  by_cases hkk : um 1 j = k
  · exact ⟨(ux 2 (10 * j + 1), ux), (um 2 j, um), by simp only [f_X6_as, e_has, hh, e_isWithin, hk, hk0, e0, e1, f0, hkk]; simp, by simp [f_X7_as, e_isP, hp, e_isIn, hk, hk0, i1, i2, hkk], f1, h⟩
  · exact bf5 h (by simp only [f_X6_as, e_has, hh, e_isWithin, hk, hk0, e0, f0]; simp [e_x5, hkk]) (by simp [f_X7_as, e_isP, hp, e_isIn, hk, hk0, i1, i2, hkk, e_m5])
theorem op_about {ux um : St} (h : R ux um) (p k : Int32) : Both (f_X6_about ux p k) (f_X7_about um p k) := by
  obtain ⟨n, hn, hx, hm, hf, hz, hcw⟩ := h.1
  have hh := has_eq hn hx hm p
  cases hp : hasM um p
  · rw [hp] at hh
    exact bf1 h (by simp [f_X6_about, e_has, hh, e_x1]) (by simp [f_X7_about, e_isP, hp, e_m1])
  rw [hp] at hh
  cases hk : win k 0 9
  · exact bf1 h (by simp [f_X6_about, e_has, hh, e_isWithin, hk, e_x1]) (by simp [f_X7_about, e_isP, hp, e_isIn, hk, e_m1])
  obtain ⟨j, hj, rfl⟩ := (hasM_iff hn hm p).mp hp
  obtain ⟨w, hw, rfl⟩ := (win_nI (n := 9) (by decide) 9 rfl).mp hk
  obtain ⟨f0, f1, f2, f3, f4, f5, f6, f7, f8, f9⟩ := hf j hj
  have i1 := inb_nI (show j < 32 by omega) (show 32 < 2 ^ 31 by decide)
  have i2 := nI_clamp (show j < 2 ^ 31 by omega)
  have eX : f_X6_about ux (nI j) (nI w) = some (ux 2 (10 * j + w), ux) := by
    simp only [f_X6_about, e_has, hh, e_isWithin, hk, e_fact hn hx hj (show w < 10 by omega)]; simp
  have m0 : nI 0 = (0 : Int32) := rfl
  have m1 : nI 1 = (1 : Int32) := rfl
  have m2 : nI 2 = (2 : Int32) := rfl
  have m3 : nI 3 = (3 : Int32) := rfl
  have m4 : nI 4 = (4 : Int32) := rfl
  have m5 : nI 5 = (5 : Int32) := rfl
  have m6 : nI 6 = (6 : Int32) := rfl
  have m7 : nI 7 = (7 : Int32) := rfl
  have m8 : nI 8 = (8 : Int32) := rfl
  have m9 : nI 9 = (9 : Int32) := rfl
  have hw10 : w = 0 ∨ w = 1 ∨ w = 2 ∨ w = 3 ∨ w = 4 ∨ w = 5 ∨ w = 6 ∨ w = 7 ∨ w = 8 ∨ w = 9 := by omega
  rcases hw10 with rfl | rfl | rfl | rfl | rfl | rfl | rfl | rfl | rfl | rfl
  · exact ⟨_, (um 1 j, um), eX, by simp [f_X7_about, e_isP, hp, e_isIn, hk, m0, i1, i2, show win 0 0 9 = true by decide], f0, h⟩
  · exact ⟨_, (um 2 j, um), eX, by simp [f_X7_about, e_isP, hp, e_isIn, hk, m1, i1, i2, show win 1 0 9 = true by decide], f1, h⟩
  · exact ⟨_, (um 3 j, um), eX, by simp [f_X7_about, e_isP, hp, e_isIn, hk, m2, i1, i2, show win 2 0 9 = true by decide], f2, h⟩
  · exact ⟨_, (um 4 j, um), eX, by simp [f_X7_about, e_isP, hp, e_isIn, hk, m3, i1, i2, show win 3 0 9 = true by decide], f3, h⟩
  · exact ⟨_, (um 5 j, um), eX, by simp [f_X7_about, e_isP, hp, e_isIn, hk, m4, i1, i2, show win 4 0 9 = true by decide], f4, h⟩
  · exact ⟨_, (um 6 j, um), eX, by simp [f_X7_about, e_isP, hp, e_isIn, hk, m5, i1, i2, show win 5 0 9 = true by decide], f5, h⟩
  · exact ⟨_, (um 7 j, um), eX, by simp [f_X7_about, e_isP, hp, e_isIn, hk, m6, i1, i2, show win 6 0 9 = true by decide], f6, h⟩
  · exact ⟨_, (um 8 j, um), eX, by simp [f_X7_about, e_isP, hp, e_isIn, hk, m7, i1, i2, show win 7 0 9 = true by decide], f7, h⟩
  · exact ⟨_, (um 9 j, um), eX, by simp [f_X7_about, e_isP, hp, e_isIn, hk, m8, i1, i2, show win 8 0 9 = true by decide], f8, h⟩
  · refine ⟨_, (if um 9 j = 2 ∨ um 9 j = 3 then um 10 j else 0, um), eX, ?_, f9, h⟩
    by_cases w2 : um 9 j = 2
    · simp [f_X7_about, e_isP, hp, e_isIn, hk, m9, i1, i2, w2, show win 9 0 9 = true by decide]
    by_cases w3 : um 9 j = 3
    · simp [f_X7_about, e_isP, hp, e_isIn, hk, m9, i1, i2, w3, show win 9 0 9 = true by decide]
    simp [f_X7_about, e_isP, hp, e_isIn, hk, m9, i1, i2, w2, w3, show win 9 0 9 = true by decide]
theorem op_limit {ux um : St} (h : R ux um) (v : Int32) : Both (f_X6_limit ux v) (f_X7_limit um v) := by
  cases hk : win v 1 30
  · exact bf1 h (by simp [f_X6_limit, e_isWithin, hk, e_x1]) (by simp [f_X7_limit, e_isIn, hk, e_m1])
  · obtain ⟨hP, hL, hS, hW, h9, h22, h8, h23⟩ := h
    refine ⟨(ux 0 9, up2 ux 0 9 v), (um 0 13, up2 um 0 13 v), by simp [f_X6_limit, e_isWithin, hk], by simp [f_X7_limit, e_isIn, hk], h9, ?_⟩
    exact ⟨by simpa [up2, upd] using hP, by simpa [up2, upd] using hL, by simpa [up2, upd] using hS, by simpa [up2, upd] using hW, by simp [up2, upd], by simpa [up2, upd] using h22, by simpa [up2, upd] using h8, by simpa [up2, upd] using h23⟩
theorem op_less {ux um : St} (h : R ux um) : Both (f_X6_less ux) (f_X7_less um) := by
  obtain ⟨hP, hL, ⟨k, hk, s1, s2, hs⟩, hW, h9, h22, h8, h23, hSv, hSl, hSc, hSh⟩ := id h
  rcases Nat.eq_zero_or_pos k with q | q
  · subst q
    exact bf2 h (by simp only [f_X6_less, s1]; rw [if_pos nI_0, e_x2]; rfl) (by simp only [f_X7_less, s2]; rw [if_pos nI_0, e_m2]; rfl)
  · obtain ⟨j, rfl⟩ : ∃ j, k = j + 1 := ⟨k - 1, by omega⟩
    have hne : ¬ nI (j + 1) = 0 := nI_ne0 (by omega) (by omega)
    have hj : jmax 0 (nI j) = nI j := by
      unfold jmax
      by_cases q0 : (0 : Int32) < nI j
      · rw [if_pos q0]
      · rw [if_neg q0]
        have := i_nlt.mp q0
        have h2 : j ≤ 0 := (nI_leI (b := 0) (by omega) (by decide)).mp this
        rw [show j = 0 by omega]; rfl
    refine ⟨(nI j, up2 ux 15 5 (nI j)), (nI j, up2 um 0 14 (nI j)), ?_, ?_, rfl, ?_⟩
    · simp only [f_X6_less, f_X4_dropLatest, s1]
      rw [if_neg hne, nI_pred, hj]; rfl
    · simp only [f_X7_less, s2]
      rw [if_neg hne, nI_pred]
    · refine ⟨by simpa [up2, upd] using hP, by simpa [up2, upd] using hL, ⟨j, by omega, by simp [up2, upd], by simp [up2, upd], fun s hs' => ?_⟩, by simpa [up2, upd] using hW, by simpa [up2, upd] using h9, by simpa [up2, upd] using h22, by simpa [up2, upd] using h8, by simpa [up2, upd] using h23, by simpa [up2, upd] using hSv, by simpa [up2, upd] using hSl, by simpa [up2, upd] using hSc, fun s hs' => ?_⟩
      · simpa [up2, upd] using hs s (by omega)
      · have hs2 : s < (nI j).toNatClampNeg := by simpa [up2, upd] using hs'
        rw [nI_clamp (by omega)] at hs2
        simpa [up2] using hSh s (by rw [s2, nI_clamp (by omega)]; omega)
theorem op_shift {ux um : St} (h : R ux um) (a b c d : Int32) : Both (f_X6_shift ux a b c d) (f_X7_shift um a b c d) := by
  rw [e_mshift]
  unfold f_X6_shift
  rw [e_stold1]
  have hb : f_X7_shift_80 um a b c d 0 = some (-1000001, MF 1 um) := by simp [f_X7_shift_80, e_m1]
  unfold stold
  by_cases g1 : (!decide (a < 0) && win (a / 1000) 0 11 && win (a / 10 - a / 10 / 100 * 100) 0 11 && win (a - a / 10 * 10) 0 5) = true
  · rw [if_pos g1, g1]
    cases g2 : win b 0 20000
    · exact bf1 h (by simp [e_isWithin, g2, e_x1]) (by simpa using hb)
    cases g3 : win c 0 20000
    · exact bf1 h (by simp [e_isWithin, g2, g3, e_x1]) (by simpa using hb)
    by_cases g4 : c ≤ b
    · exact bf1 h (by simp [e_isWithin, g2, g3, g4, e_x1]) (by simpa [g4] using hb)
    cases g5 : win d 0 3
    · exact bf1 h (by simp [e_isWithin, g2, g3, g4, g5, e_x1]) (by simpa [g4] using hb)
    simp only [Bool.and_eq_true] at g1
    obtain ⟨⟨⟨w0, w1⟩, w2⟩, w3⟩ := g1
    obtain ⟨hP, hL, ⟨k, hk, s1, s2, hs⟩, hW, h9, h22, h8, h23, hSv, hSl, hSc, hSh⟩ := id h
    by_cases hk12 : k = 12
    · subst hk12
      have e1 : f_X4_isFull ux = some 1 := by unfold f_X4_isFull; rw [s1]; rfl
      have e2 : um 0 14 = 12 := s2
      exact bf4 h (by simp [e_isWithin, g2, g3, g4, g5, e1, e_x4]) (by simp [g4, f_X7_shift_80, e2, e_m4])
    · have hlt : k < 12 := by omega
      have c1 : ¬ nI k < 0 := nI_pos (by omega)
      have c2 : nI k < 12 := nI_lt (b := 12) hlt (by decide)
      have c3 := inb_nI hlt (show 12 < 2 ^ 31 by decide)
      have c4 := nI_clamp (show k < 2 ^ 31 by omega)
      have c5 : ¬ nI k = 12 := fun q => hk12 ((nI_eq (b := 12) (by omega) (by decide)).mp q)
      have e1 : f_X4_isFull ux = some 0 := by unfold f_X4_isFull; rw [s1, if_pos c2]
      have e2 : f_X4_add ux a b c d = some (nI k, up2 (up2 (up2 (up2 (up2 ux 16 k a) 17 k b) 18 k c) 19 k d) 15 5 (nI k + 1)) := by
        unfold f_X4_add
        rw [s1, if_neg c1, if_pos c2, if_pos c3, c4]
      have e3 : f_X7_shift_80 um a b c d 1 = some (nI k + 1 - 1, up2 (up2 (up2 (up2 (up2 (up2 (up2 um 13 k (a / 1000)) 14 k ((a / 10) - (a / 10) / 100 * 100)) 15 k (a - a / 10 * 10)) 16 k b) 17 k c) 18 k d) 0 14 (nI k + 1)) := by
        unfold f_X7_shift_80
        rw [s2, if_neg (by decide), if_neg c5, if_pos c3, c4]
      refine ⟨(nI k, up2 (up2 (up2 (up2 (up2 ux 16 k a) 17 k b) 18 k c) 19 k d) 15 5 (nI k + 1)), (nI k + 1 - 1, up2 (up2 (up2 (up2 (up2 (up2 (up2 um 13 k (a / 1000)) 14 k ((a / 10) - (a / 10) / 100 * 100)) 15 k (a - a / 10 * 10)) 16 k b) 17 k c) 18 k d) 0 14 (nI k + 1)), by simp only [e_isWithin, g2, g3, g4, g5, e1, e2]; simp, by simpa [g4] using e3, ?_, ?_⟩
      · show nI k = nI k + 1 - 1
        rw [nI_1, nI_pred]
      · refine ⟨by simpa [up2, upd] using hP, by simpa [up2, upd] using hL, ⟨k + 1, by omega, by simp [up2, upd, nI_1], by simp [up2, upd, nI_1], fun s hs' => ?_⟩, by simpa [up2, upd] using hW, by simpa [up2, upd] using h9, by simpa [up2, upd] using h22, by simpa [up2, upd] using h8, by simpa [up2, upd] using h23, by simpa [up2, upd] using hSv, by simpa [up2, upd] using hSl, by simpa [up2, upd] using hSc, fun s hs' => ?_⟩
        · rcases Nat.lt_or_ge s k with q | q
          · have hne : ¬ s = k := by omega
            simpa [up2, upd, hne] using hs s q
          · have : s = k := by omega
            subst this
            have r1 := (win_nI (n := 11) (by decide) 11 rfl).mp w1
            have r2 := (win_nI (n := 11) (by decide) 11 rfl).mp w2
            have r3 := (win_nI (n := 5) (by decide) 5 rfl).mp w3
            have r4 := (win_nI (n := 3) (by decide) 3 rfl).mp g5
            refine ⟨by simp [up2, upd], by simp [up2, upd], by simp [up2, upd], by simp [up2, upd], by simp [up2, upd], by simp [up2, upd], ?_, ?_, ?_, ?_⟩
            · obtain ⟨x, hx, e⟩ := r1; exact ⟨x, by omega, by simp [up2, upd, e]⟩
            · obtain ⟨x, hx, e⟩ := r2; exact ⟨x, by omega, by simp [up2, upd, e]⟩
            · obtain ⟨x, hx, e⟩ := r3; exact ⟨x, by omega, by simp [up2, upd, e]⟩
            · obtain ⟨x, hx, e⟩ := r4; exact ⟨x, by omega, by simp [up2, upd, e]⟩
        · have hs2 : s < (nI (k + 1)).toNatClampNeg := by simpa [up2, upd, nI_1] using hs'
          rw [nI_clamp (by omega)] at hs2
          by_cases q : s = k
          · subst q
            obtain ⟨f, hf, rfl⟩ := (win_nI (n := 20000) (by decide) 20000 rfl).mp g2
            obtain ⟨t, ht, rfl⟩ := (win_nI (n := 20000) (by decide) 20000 rfl).mp g3
            refine ⟨f, t, ?_, ht, by simp [up2, upd], by simp [up2, upd]⟩
            have := mt (nI_leI (by omega) (by omega)).mpr g4
            omega
          · simpa [up2, upd, q] using hSh s (by rw [s2, nI_clamp (by omega)]; omega)
  · have g1' : (!decide (a < 0) && win (a / 1000) 0 11 && win (a / 10 - a / 10 / 100 * 100) 0 11 && win (a - a / 10 * 10) 0 5) = false := by
      revert g1
      cases (!decide (a < 0) && win (a / 1000) 0 11 && win (a / 10 - a / 10 / 100 * 100) 0 11 && win (a - a / 10 * 10) 0 5) <;> simp
    rw [if_neg g1, g1']
    exact bf1 h (by simp [e_x1]) (by simpa using hb)
