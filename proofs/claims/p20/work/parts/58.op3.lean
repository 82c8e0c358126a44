/-- the last place of a value in a row, or -1 -/
def IdxL (f : Nat → Int32) (z : Nat) (p r : Int32) : Prop := (r = -1 ∧ ∀ i, i < z → f i ≠ p) ∨ ∃ i, i < z ∧ r = nI i ∧ f i = p ∧ ∀ j, i < j → j < z → f j ≠ p
theorem l_rowOf (u : St) {l z : Nat} (hl : l < 12) (hz : z ≤ 8) (h : u 11 l = nI z) (p : Int32) : ∀ (m i : Nat) (r0 : Int32), z < i + m → i ≤ z → IdxL (fun i => u 12 (8 * l + i)) i p r0 → ∃ r, f_X7_rowOf_5 u m (nI l) p r0 (nI i) = some r ∧ IdxL (fun i => u 12 (8 * l + i)) z p r := by
  intro m
  induction m with
  | zero => intro i r0 h1 h2; omega
  | succ m ih =>
    intro i r0 h1 h2 h3
    rw [f_X7_rowOf_5, if_pos (inb_nI hl (by decide)), nI_clamp (by omega), h]
    by_cases hi : i = z
    · subst hi
      rw [if_pos (Int32.le_refl _)]
      exact ⟨r0, rfl, h3⟩
    · have hlt : i < z := by omega
      obtain ⟨a1, a2⟩ := ix8m hl (show i < 8 by omega)
      rw [if_neg (nI_ge hlt (by omega)), if_pos a1, a2, nI_1]
      by_cases hp : u 12 (8 * l + i) = p
      · rw [if_pos hp]
        exact ih (i + 1) (nI i) (by omega) (by omega) (Or.inr ⟨i, by omega, rfl, hp, fun j h4 h5 => by omega⟩)
      · rw [if_neg hp]
        refine ih (i + 1) r0 (by omega) (by omega) ?_
        rcases h3 with ⟨e, h3⟩ | ⟨k, k1, k2, k3, k4⟩
        · refine Or.inl ⟨e, fun j hj => ?_⟩
          rcases Nat.lt_or_ge j i with q | q
          · exact h3 j q
          · rw [show j = i by omega]; exact hp
        · refine Or.inr ⟨k, by omega, k2, k3, fun j h4 h5 => ?_⟩
          rcases Nat.lt_or_ge j i with q | q
          · exact k4 j h4 q
          · rw [show j = i by omega]; exact hp
theorem e_rowOf (u : St) {l z : Nat} (hl : l < 12) (hz : z ≤ 8) (h : u 11 l = nI z) (p : Int32) : ∃ r, f_X7_rowOf u (nI l) p = some r ∧ IdxL (fun i => u 12 (8 * l + i)) z p r := l_rowOf u hl hz h p FU 0 (-1) (by have := FU_ge (z := z) (by omega); omega) (Nat.zero_le _) (Or.inl ⟨rfl, fun i hi => by omega⟩)
theorem IdxL_neg {f : Nat → Int32} {z : Nat} {p r : Int32} (hz : z ≤ 8) (h : IdxL f z p r) : r < 0 ↔ ∀ i, i < z → f i ≠ p := by
  rcases h with ⟨rfl, h⟩ | ⟨i, hi, rfl, h1, h2⟩
  · exact ⟨fun _ => h, fun _ => by decide⟩
  · exact ⟨fun q => absurd q (nI_pos (by omega)), fun q => absurd h1 (q i hi)⟩
theorem op_wear {ux um : St} (h : R ux um) (b p : Int32) : Both (f_X6_wear ux b p) (f_X7_wear um b p) := by
  cases hb : win b 0 11
  · exact bf1 h (by simp [f_X6_wear, e_X2has, hb, e_x1]) (by simp [f_X7_wear, e_isLook, hb, e_m1])
  obtain ⟨⟨n, hn, hx, hm, hf, hz, hcw⟩, hL, hS, hW, h9, h22, h8', h23, hSv, hSl, hSc, hSh⟩ := id h
  have hs8 : ∀ l, l < 12 → (um 11 l).toNatClampNeg ≤ 8 := fun l hl => by
    obtain ⟨z, z1, z2, z3, z4⟩ := hL l hl
    rw [z3, nI_clamp (by omega)]; exact z1
  have hh := has_eq hn hx hm p
  cases hp : hasM um p
  · rw [hp] at hh
    exact bf1 h (by simp [f_X6_wear, e_X2has, hb, e_has, hh, e_x1]) (by simp [f_X7_wear, e_isLook, hb, e_isP, hp, e_m1])
  rw [hp] at hh
  obtain ⟨j, hj, rfl⟩ := (hasM_iff hn hm p).mp hp
  obtain ⟨l, hl, rfl⟩ := (win_nI (n := 11) (by decide) 11 rfl).mp hb
  have hl : l < 12 := by omega
  obtain ⟨z, z1, z2, z3, z4⟩ := hL l hl
  obtain ⟨r, er, hr⟩ := e_indexOf ux hl z1 z2 (nI j)
  obtain ⟨r2, er2, hr2⟩ := e_rowOf um hl z1 z3 (nI j)
  have hiff : r < 0 ↔ r2 < 0 := by
    rw [Idx_neg z1 hr, IdxL_neg z1 hr2]
    exact ⟨fun q i hi => by rw [← (z4 i hi).1]; exact q i hi, fun q i hi => by rw [(z4 i hi).1]; exact q i hi⟩
  have i1 := inb_nI hl (show 12 < 2 ^ 31 by decide)
  have i2 := nI_clamp (show l < 2 ^ 31 by omega)
  by_cases hneg : r < 0
  · have hneg2 := hiff.mp hneg
    have hno := (IdxL_neg z1 hr2).mp hneg2
    by_cases h8 : z = 8
    · subst h8
      have a1 : ¬ nI 8 < 8 := by decide
      have a2 : nI 8 = 8 := rfl
      exact bf4 h (by simp [f_X6_wear, e_X2has, hb, e_has, hh, er, hneg, e_sizeOf ux hl, z2, a1, e_x4]) (by simp [f_X7_wear, e_isLook, hb, e_isP, hp, er2, hneg2, i1, i2, z3, a2, e_m4])
    · have hz8 : z < 8 := by omega
      have a1 : nI z < 8 := nI_lt (b := 8) hz8 (by decide)
      have a2 : ¬ nI z = 8 := fun q => h8 ((nI_eq (b := 8) (by omega) (by decide)).mp q)
      obtain ⟨b1, b2⟩ := ix8m hl hz8
      refine ⟨(nI (z + 1), up2 (up2 (up2 ux 4 (8 * l + z) (nI j)) 5 l (nI (z + 1))) 6 j (ux 6 j + 1)), (nI z + 1, up2 (up2 um 12 (8 * l + z) (nI j)) 11 l (nI z + 1)), by simp [f_X6_wear, e_X2has, hb, e_has, hh, er, hneg, e_sizeOf ux hl, z2, a1, e_append ux hl hz8 z2 (show j < 32 by omega)], by simp [f_X7_wear, e_isLook, hb, e_isP, hp, er2, hneg2, i1, i2, z3, a2, b1, b2, upd], by rw [nI_1], ?_⟩
      refine ⟨⟨n, hn, by simpa [up2] using hx, by simpa [up2] using hm, by simpa [up2] using hf, by simpa [up2] using hz, by simpa [up2] using hcw⟩, ?_, by simpa [up2] using hS, by simpa [up2] using hW, by simpa [up2] using h9, by simpa [up2] using h22, by simpa [up2] using h8', by simpa [up2] using h23, by simpa [up2] using hSv, by simpa [up2, nI_1] using Sl_wear hs8 hSl hl hz8 hno z3, by simpa [up2, nI_1] using Sc_wear hs8 hSc hl hz8 (show j < 32 by omega) hno z3, by simpa [up2] using hSh⟩
      intro l' hl'
      have hc : ((up2 (up2 um 12 (8 * l + z) (nI j)) 11 l (nI z + 1)) 0 0).toNatClampNeg = n := by
        rw [show (up2 (up2 um 12 (8 * l + z) (nI j)) 11 l (nI z + 1)) 0 0 = nI n by simpa [up2] using hm, nI_clamp (by omega)]
      by_cases q : l' = l
      · subst q
        refine ⟨z + 1, by omega, by simp [up2, upd], by simp [up2, upd, nI_1], fun i hi => ?_⟩
        rcases Nat.lt_or_ge i z with w | w
        · obtain ⟨w1, k, w2, w3⟩ := z4 i w
          have hne : ¬ i = z := by omega
          rw [hm, nI_clamp (by omega)] at w2
          refine ⟨by simpa [up2, upd, hne] using w1, k, by rw [hc]; exact w2, by simpa [up2, upd, hne] using w3⟩
        · have : i = z := by omega
          subst this
          exact ⟨by simp [up2, upd], j, by rw [hc]; exact hj, by simp [up2, upd]⟩
      · obtain ⟨y, y1, y2, y3, y4⟩ := hL l' hl'
        refine ⟨y, y1, by simpa [up2, upd, q] using y2, by simpa [up2, upd, q] using y3, fun i hi => ?_⟩
        obtain ⟨w1, k, w2, w3⟩ := y4 i hi
        have hne : ¬ 8 * l' + i = 8 * l + z := by omega
        rw [hm, nI_clamp (by omega)] at w2
        exact ⟨by simpa [up2, upd, hne] using w1, k, by rw [hc]; exact w2, by simpa [up2, upd, hne] using w3⟩
  · have hneg2 : ¬ r2 < 0 := fun q => hneg (hiff.mpr q)
    exact bf3 h (by simp [f_X6_wear, e_X2has, hb, e_has, hh, er, hneg, e_x3]) (by simp [f_X7_wear, e_isLook, hb, e_isP, hp, er2, hneg2, e_m3])
theorem op_bare {ux um : St} (h : R ux um) (b : Int32) : Both (f_X6_bare ux b) (f_X7_bare um b) := by
  cases hb : win b 0 11
  · exact bf1 h (by simp [f_X6_bare, e_X2has, hb, e_x1]) (by simp [f_X7_bare, e_isLook, hb, e_m1])
  obtain ⟨⟨n, hn, hx, hm, hf, hz, hcw⟩, hL, hS, hW, h9, h22, h8', h23, hSv, hSl, hSc, hSh⟩ := id h
  obtain ⟨l, hl, rfl⟩ := (win_nI (n := 11) (by decide) 11 rfl).mp hb
  have hl : l < 12 := by omega
  obtain ⟨z, z1, z2, z3, z4⟩ := hL l hl
  have i1 := inb_nI hl (show 12 < 2 ^ 31 by decide)
  have i2 := nI_clamp (show l < 2 ^ 31 by omega)
  have hw : ∀ i, i < z → ux 4 (8 * l + i) = nI ((ux 4 (8 * l + i)).toNatClampNeg) ∧ (ux 4 (8 * l + i)).toNatClampNeg < 32 := fun i hi => by
    obtain ⟨w1, k, w2, w3⟩ := z4 i hi
    rw [hm, nI_clamp (by omega)] at w2
    rw [w1, w3, nI_clamp (by omega)]
    exact ⟨rfl, by omega⟩
  obtain ⟨u', e1, e2, e3⟩ := l_clear hl z1 (fun i => (ux 4 (8 * l + i)).toNatClampNeg) (fun i hi => (hw i hi).2) FU 0 ux (by have := FU_ge (z := z) (by omega); omega) (Nat.zero_le _) z2 (fun i hi => (hw i hi).1)
  have ec : f_X2_clear ux (nI l) = some (nI z, up2 u' 5 l 0) := by
    unfold f_X2_clear
    rw [e_sizeOf ux hl, Option.bind_some, z2]
    exact e1
  refine ⟨(nI z, up2 u' 5 l 0), (um 11 l, up2 um 11 l 0), by simp [f_X6_bare, e_X2has, hb, ec], by simp [f_X7_bare, e_isLook, hb, i1, i2], z3.symm, ?_⟩
  have g : ∀ k, k ≠ 6 → k ≠ 5 → up2 u' 5 l 0 k = ux k := fun k h1 h2 => by rw [up2_n u' _ _ h2, e2 k h1]
  show R (up2 u' 5 l 0) (up2 um 11 l 0)
  unfold R
  rw [g 1 (by decide) (by decide), g 2 (by decide) (by decide), g 4 (by decide) (by decide), g 15 (by decide) (by decide), g 16 (by decide) (by decide), g 17 (by decide) (by decide), g 18 (by decide) (by decide), g 19 (by decide) (by decide), g 20 (by decide) (by decide), g 0 (by decide) (by decide)]
  refine ⟨⟨n, hn, hx, by simpa [up2] using hm, by simpa [up2] using hf, by simpa [up2] using hz, by simpa [up2] using hcw⟩, ?_, by simpa [up2] using hS, by simpa [up2] using hW, by simpa [up2] using h9, by simpa [up2] using h22, by simpa [up2] using h8', by simpa [up2] using h23, by simpa [up2] using hSv, by simpa [up2] using Sl_bare hSl l, ?_, by simpa [up2] using hSh⟩
  rotate_left
  · rw [up2_n u' _ _ (show (6 : Nat) ≠ 5 by decide), up2_s, up2_n um _ _ (show (12 : Nat) ≠ 11 by decide)]
    exact Sc_bare hSc hSl hl z1 z3 (fun i hi => ⟨(z4 i hi).1.symm.trans (hw i hi).1, (hw i hi).2⟩) e3
  intro l' hl'
  by_cases q : l' = l
  · subst q
    exact ⟨0, by omega, by simp [up2, upd, nI_0], by simp [up2, upd, nI_0], fun i hi => by omega⟩
  · obtain ⟨y, y1, y2, y3, y4⟩ := hL l' hl'
    refine ⟨y, y1, ?_, by simpa [up2, upd, q] using y3, by simpa [up2] using y4⟩
    rw [up2_s]
    simp only [upd, q, if_false]
    rw [e2 5 (by decide)]; exact y2
theorem op_look {ux um : St} (h : R ux um) (b c : Int32) : Both (f_X6_look ux b c) (f_X7_look um b c) := by
  cases hb : win b 0 11
  · exact bf1 h (by simp [f_X6_look, e_X2has, hb, e_x1]) (by simp [f_X7_look, e_isLook, hb, e_m1])
  obtain ⟨⟨n, hn, hx, hm, hf, hz, hcw⟩, hL, hS, hrest⟩ := id h
  obtain ⟨l, hl, rfl⟩ := (win_nI (n := 11) (by decide) 11 rfl).mp hb
  have hl : l < 12 := by omega
  obtain ⟨z, z1, z2, z3, z4⟩ := hL l hl
  have i1 := inb_nI hl (show 12 < 2 ^ 31 by decide)
  have i2 := nI_clamp (show l < 2 ^ 31 by omega)
  by_cases hc : ∃ i, i < z ∧ c = nI i
  · obtain ⟨i, hi, rfl⟩ := hc
    obtain ⟨w1, k, w2, w3⟩ := z4 i hi
    rw [hm, nI_clamp (by omega)] at w2
    have hk : ux 4 (8 * l + i) = nI k := by rw [w1, w3]
    have hk0 : (0 : Int32) ≤ nI k := nI_pos' (by omega)
    obtain ⟨b1, b2⟩ := ix8m hl (show i < 8 by omega)
    have c1 := nI_pos (n := i) (by omega)
    have c2 : nI i < nI z := nI_lt hi (by omega)
    exact ⟨(nI k, ux), (nI k, um), by simp [f_X6_look, e_X2has, hb, e_at ux hl z1 z2 hi, hk, hk0], by simp [f_X7_look, e_isLook, hb, c1, i1, i2, z3, c2, b1, b2, w3], rfl, h⟩
  · have ea := e_atN ux hl z1 z2 (i := c) (fun j hj e => hc ⟨j, hj, e⟩)
    refine bf2 h (by simp [f_X6_look, e_X2has, hb, ea, show ¬ (0 : Int32) ≤ -1 by decide, e_x2]) ?_
    by_cases c1 : c < 0
    · simp [f_X7_look, e_isLook, hb, c1, e_m2]
    · obtain ⟨j, hj, rfl⟩ := nI_of c1
      have c2 : ¬ nI j < nI z := fun q => hc ⟨j, (nI_ltI hj (by omega)).mp q, rfl⟩
      simp [f_X7_look, e_isLook, hb, c1, i1, i2, z3, c2, e_m2]
theorem op_tell {ux um : St} (h : R ux um) (v : Int32) : Runs (f_X6_tell ux v) (f_X7_tell_ um v) := by
  obtain ⟨hP, hL, hS, hW, h9, h22, ⟨c, hc, e8⟩, ⟨d, hd, e23⟩, -⟩ := id h
  have hX : ∃ q, f_X6_tell ux v = some q ∧ ∀ um', R ux um' → R q.2 um' := by
    rcases Nat.lt_or_ge c 30 with q | q
    · have a1 : nI c < 30 := nI_lt (b := 30) q (by decide)
      refine ⟨(nI c + 1, up2 (up2 ux 29 c v) 0 8 (nI c + 1)), by simp [f_X6_tell, e8, a1, inb_nI q (show 30 < 2 ^ 31 by decide), nI_clamp (show c < 2 ^ 31 by omega)], fun um' hr => ?_⟩
      obtain ⟨hP, hL, hS, hW, h9, h22, -, h23⟩ := hr
      exact ⟨by simpa [up2, upd] using hP, by simpa [up2, upd] using hL, by simpa [up2, upd] using hS, by simpa [up2, upd] using hW, by simpa [up2, upd] using h9, by simpa [up2, upd] using h22, ⟨c + 1, by omega, by simp [up2, upd, nI_1]⟩, by simpa [up2, upd] using h23⟩
    · have : c = 30 := by omega
      subst this
      exact ⟨(-1000004, XF 4 ux), by simp [f_X6_tell, e8, show ¬ nI 30 < 30 by decide, e_x4], fun um' hr => hr.fr (FrX.XF 4 ux) (FrM.rf um')⟩
  have hM : ∃ q, f_X7_tell_ um v = some q ∧ ∀ ux', R ux' um → R ux' q.2 := by
    rcases Nat.lt_or_ge d 30 with q | q
    · have a1 : ¬ nI d = 30 := fun e => by have := (nI_eq (b := 30) (by omega) (by decide)).mp e; omega
      refine ⟨(nI d + 1, up2 (up2 um 20 d v) 0 23 (nI d + 1)), by simp [f_X7_tell_, e23, a1, inb_nI q (show 30 < 2 ^ 31 by decide), nI_clamp (show d < 2 ^ 31 by omega)], fun ux' hr => ?_⟩
      obtain ⟨hP, hL, hS, hW, h9, h22, h8, -, hT⟩ := hr
      exact ⟨by simpa [up2, upd] using hP, by simpa [up2, upd] using hL, by simpa [up2, upd] using hS, by simpa [up2, upd] using hW, by simpa [up2, upd] using h9, by simpa [up2, upd] using h22, h8, ⟨d + 1, by omega, by simp [up2, upd, nI_1]⟩, by simpa [up2, upd] using hT⟩
    · have : d = 30 := by omega
      subst this
      exact ⟨(-1000004, MF 4 um), by simp [f_X7_tell_, e23, show nI 30 = 30 from rfl, e_m4], fun ux' hr => hr.fr (FrX.rf ux') (FrM.MF 4 um)⟩
  obtain ⟨q1, a1, a2⟩ := hX
  obtain ⟨q2, b1, b2⟩ := hM
  exact ⟨q1, q2, a1, b1, b2 _ (a2 _ h)⟩
theorem op_count {ux um : St} (h : R ux um) (w : Int32) : Runs (f_X6_count ux w) (f_X7_count um w) := by
  obtain ⟨n, hn, hx, hm, hf, hz, hcw⟩ := h.1
  have ex := e_cwX hn hx (um 9) (fun p hp => (hf p hp).2.2.2.2.2.2.2.2.1)
  have em := e_cwM hn hm
  have hX : ∃ q, f_X6_count ux w = some q ∧ FrX ux q.2 := by
    unfold f_X6_count
    rw [ex]
    by_cases h0 : w = 0
    · exact ⟨_, by rw [if_pos h0], FrX.rf ux⟩
    by_cases h1 : w = 1
    · exact ⟨_, by rw [if_neg h0, if_pos h1], FrX.rf ux⟩
    by_cases h2 : w = 2
    · exact ⟨_, by rw [if_neg h0, if_neg h1, if_pos h2], FrX.rf ux⟩
    by_cases h3 : w = 3
    · exact ⟨_, by rw [if_neg h0, if_neg h1, if_neg h2, if_pos h3], FrX.rf ux⟩
    by_cases h4 : w = 4
    · exact ⟨_, by rw [if_neg h0, if_neg h1, if_neg h2, if_neg h3, if_pos h4, Option.bind_some], FrX.rf ux⟩
    by_cases h5 : w = 5
    · exact ⟨_, by rw [if_neg h0, if_neg h1, if_neg h2, if_neg h3, if_neg h4, if_pos h5], FrX.rf ux⟩
    · exact ⟨_, by rw [if_neg h0, if_neg h1, if_neg h2, if_neg h3, if_neg h4, if_neg h5, e_x1, Option.bind_some], FrX.XF 1 ux⟩
  have hM : ∃ q, f_X7_count um w = some q ∧ FrM um q.2 := by
    unfold f_X7_count
    rw [em]
    by_cases h0 : w = 0
    · exact ⟨_, by rw [if_pos h0], FrM.rf um⟩
    by_cases h1 : w = 1
    · exact ⟨_, by rw [if_neg h0, if_pos h1], FrM.rf um⟩
    by_cases h2 : w = 2
    · exact ⟨_, by rw [if_neg h0, if_neg h1, if_pos h2], FrM.rf um⟩
    by_cases h3 : w = 3
    · exact ⟨_, by rw [if_neg h0, if_neg h1, if_neg h2, if_pos h3], FrM.rf um⟩
    by_cases h4 : w = 4
    · exact ⟨_, by rw [if_neg h0, if_neg h1, if_neg h2, if_neg h3, if_pos h4, Option.bind_some], FrM.rf um⟩
    by_cases h5 : w = 5
    · exact ⟨_, by rw [if_neg h0, if_neg h1, if_neg h2, if_neg h3, if_neg h4, if_pos h5], FrM.rf um⟩
    · exact ⟨_, by rw [if_neg h0, if_neg h1, if_neg h2, if_neg h3, if_neg h4, if_neg h5, e_m1, Option.bind_some], FrM.MF 1 um⟩
  obtain ⟨q1, a1, a2⟩ := hX
  obtain ⟨q2, b1, b2⟩ := hM
  exact ⟨q1, q2, a1, b1, h.fr a2 b2⟩
theorem op_found {ux um : St} (h : R ux um) (k : Int32) : Runs (f_X6_found ux k) (f_X7_found um k) := by
  cases hk : win k 1 5
  · exact (bf1 h (by simp [f_X6_found, e_isWithin, hk, e_x1]) (by simp [f_X7_found, e_isIn, hk, e_m1])).runs
  · obtain ⟨j, hj, rfl⟩ := win_sh (m := 1) (n := 5) rfl rfl (by decide) (by decide) hk
    have i1 := inb_nI (show j + 1 < 6 by omega) (show 6 < 2 ^ 31 by decide)
    exact ⟨(ux 30 (nI (j + 1)).toNatClampNeg, ux), (um 21 (nI (j + 1)).toNatClampNeg, um), by simp [f_X6_found, e_isWithin, hk, i1], by simp [f_X7_found, e_isIn, hk, i1], h⟩
/-- one piece dries, on both sides -/
theorem dry {ux um : St} (h : R ux um) {n : Nat} (hn : n ≤ 32) (hm : um 0 0 = nI n) {p : Nat} (hp : p < n) : ∃ (b : Nat) (ux' um' : St), b ≤ 1 ∧ f_X5_dries ux (nI p) = some (nI b, ux') ∧ (∀ (m : Nat) (c : Int32), f_X7_hours_47 (m + 1) um c (nI p) = f_X7_hours_47 m um' (c + nI b) (nI (p + 1))) ∧ R ux' um' ∧ um' 0 0 = nI n := by
  obtain ⟨n', hn', hx, hm', hf, hz, hcw⟩ := h.1
  have hnn : n' = n := (nI_eq (by omega) (by omega)).mp (hm'.symm.trans hm)
  subst hnn
  have hhr := h.2.2.2.2.2.1
  obtain ⟨f0, f1, f2, f3, f4, f5, f6, f7, f8, f9⟩ := hf p hp
  have i1 := inb_nI (show p < 32 by omega) (show 32 < 2 ^ 31 by decide)
  have i2 := nI_clamp (show p < 2 ^ 31 by omega)
  have g : ¬ nI n' ≤ nI p := nI_ge hp (by omega)
  have e8 : f_X5_fact ux (nI p) 8 = some (um 9 p) := (e_fact hn hx hp (k := 8) (by decide)).trans (by rw [f8])
  have e9 : f_X5_fact ux (nI p) 9 = some (if um 9 p = 2 ∨ um 9 p = 3 then um 10 p else 0) := (e_fact hn hx hp (k := 9) (by decide)).trans (by rw [f9])
  have e2 : f_X5_fact ux (nI p) 2 = some (um 3 p) := (e_fact hn hx hp (k := 2) (by decide)).trans (by rw [f2])
  by_cases w2 : um 9 p = 2
  · by_cases t : ux 1 2 < um 10 p
    · refine ⟨0, ux, um, by omega, ?_, fun m c => ?_, h, hm⟩
      · simp [f_X5_dries, f_X5_dries_45, e8, e9, w2, t, nI_0]
      · rw [f_X7_hours_47, hm, if_neg g, if_pos i1, i2, if_pos w2, ← hhr, if_pos t, nI_0, Int32.add_zero]
        unfold f_X7_hours_100
        rw [if_pos i1, i2, if_neg (by rw [w2]; decide)]
        rw [nI_1]
    · have hr := h.put hn hm hp 3 (um 10 p + um 3 p) (um 10 p + um 3 p) (by simp) (fun q => absurd q (by decide))
      have x1 : (up2 (up2 ux 2 (10 * p + 8) 3) 2 (10 * p + 9) (um 10 p + um 3 p)) 1 1 = nI n' := by simpa [up2] using hx
      have x8 : f_X5_fact (up2 (up2 ux 2 (10 * p + 8) 3) 2 (10 * p + 9) (um 10 p + um 3 p)) (nI p) 8 = some 3 := (e_fact hn x1 hp (k := 8) (by decide)).trans (by simp [up2, upd])
      have x9 : f_X5_fact (up2 (up2 ux 2 (10 * p + 8) 3) 2 (10 * p + 9) (um 10 p + um 3 p)) (nI p) 9 = some (um 10 p + um 3 p) := (e_fact hn x1 hp (k := 9) (by decide)).trans (by simp [up2, upd])
      have x12 : (up2 (up2 ux 2 (10 * p + 8) 3) 2 (10 * p + 9) (um 10 p + um 3 p)) 1 2 = ux 1 2 := by simp [up2]
      have y1 : (up2 (up2 um 9 p 3) 10 p (um 10 p + um 3 p)) 9 p = 3 := by simp [up2, upd]
      have y2 : (up2 (up2 um 9 p 3) 10 p (um 10 p + um 3 p)) 10 p = um 10 p + um 3 p := by simp [up2, upd]
      have y3 : (up2 (up2 um 9 p 3) 10 p (um 10 p + um 3 p)) 0 22 = ux 1 2 := by simp [up2, hhr]
      have ed : f_X5_dries ux (nI p) = f_X5_dries_45 (up2 (up2 ux 2 (10 * p + 8) 3) 2 (10 * p + 9) (um 10 p + um 3 p)) (nI p) := by
        simp [f_X5_dries, e8, e9, e2, w2, t, e_place hn hx hp]
      have em : ∀ (m : Nat) (c : Int32), f_X7_hours_47 (m + 1) um c (nI p) = f_X7_hours_100 (f_X7_hours_47 m) (up2 (up2 um 9 p 3) 10 p (um 10 p + um 3 p)) c (nI p) := fun m c => by
        rw [f_X7_hours_47, hm, if_neg g, if_pos i1, i2, if_pos w2, ← hhr, if_neg t]
      by_cases t2 : ux 1 2 < um 10 p + um 3 p
      · refine ⟨0, up2 (up2 ux 2 (10 * p + 8) 3) 2 (10 * p + 9) (um 10 p + um 3 p), up2 (up2 um 9 p 3) 10 p (um 10 p + um 3 p), by omega, ?_, fun m c => ?_, hr, by simpa [up2] using hm⟩
        · rw [ed]; simp [f_X5_dries_45, x8, x9, x12, t2, nI_0]
        · rw [em]; unfold f_X7_hours_100
          rw [if_pos i1, i2, if_pos y1, y2, y3, if_pos t2, nI_1, nI_0, Int32.add_zero]
      · have hr2 := hr.put (n := n') hn (by simpa [up2] using hm) hp 0 (um 10 p + um 3 p) 0 (by simp) (fun q => absurd q (by decide))
        refine ⟨1, up2 (up2 (up2 (up2 ux 2 (10 * p + 8) 3) 2 (10 * p + 9) (um 10 p + um 3 p)) 2 (10 * p + 8) 0) 2 (10 * p + 9) 0, up2 (up2 (up2 um 9 p 3) 10 p (um 10 p + um 3 p)) 9 p 0, by omega, ?_, fun m c => ?_, ?_, by simpa [up2] using hm⟩
        · rw [ed]; simp only [f_X5_dries_45, x8, x9, x12]; simp [t2, e_place hn x1 hp]; rfl
        · rw [em]; unfold f_X7_hours_100
          rw [if_pos i1, i2, if_pos y1, y2, y3, if_neg t2, nI_1]; rfl
        · have := up_same (up2 (up2 (up2 um 9 p 3) 10 p (um 10 p + um 3 p)) 9 p 0) 10 p
          have e : (up2 (up2 (up2 um 9 p 3) 10 p (um 10 p + um 3 p)) 9 p 0) 10 p = um 10 p + um 3 p := by simp [up2, upd]
          rw [e] at this
          rwa [this] at hr2
  · by_cases w3 : um 9 p = 3
    · have ed : f_X5_dries ux (nI p) = f_X5_dries_45 ux (nI p) := by simp [f_X5_dries, e8, w3]
      have em : ∀ (m : Nat) (c : Int32), f_X7_hours_47 (m + 1) um c (nI p) = f_X7_hours_100 (f_X7_hours_47 m) um c (nI p) := fun m c => by
        rw [f_X7_hours_47, hm, if_neg g, if_pos i1, i2, if_neg w2]
      by_cases t : ux 1 2 < um 10 p
      · refine ⟨0, ux, um, by omega, ?_, fun m c => ?_, h, hm⟩
        · rw [ed]; simp [f_X5_dries_45, e8, e9, w3, t, nI_0]
        · rw [em]; unfold f_X7_hours_100
          rw [if_pos i1, i2, if_pos w3, ← hhr, if_pos t, nI_1, nI_0, Int32.add_zero]
      · have hr := h.put hn hm hp 0 (um 10 p) 0 (by simp) (fun q => absurd q (by decide))
        refine ⟨1, up2 (up2 ux 2 (10 * p + 8) 0) 2 (10 * p + 9) 0, up2 um 9 p 0, by omega, ?_, fun m c => ?_, ?_, by simpa [up2] using hm⟩
        · rw [ed]; simp only [f_X5_dries_45, e8, e9]; simp [w3, t, e_place hn hx hp]; rfl
        · rw [em]; unfold f_X7_hours_100
          rw [if_pos i1, i2, if_pos w3, ← hhr, if_neg t, nI_1]; rfl
        · have := up_same (up2 um 9 p 0) 10 p
          have e : (up2 um 9 p 0) 10 p = um 10 p := by simp [up2]
          rw [e] at this
          rwa [this] at hr
    · refine ⟨0, ux, um, by omega, ?_, fun m c => ?_, h, hm⟩
      · simp [f_X5_dries, f_X5_dries_45, e8, w2, w3, nI_0]
      · rw [f_X7_hours_47, hm, if_neg g, if_pos i1, i2, if_neg w2]
        unfold f_X7_hours_100
        rw [if_pos i1, i2, if_neg w3, nI_1, nI_0, Int32.add_zero]
theorem l_hours {n : Nat} (hn : n ≤ 32) : ∀ (m p : Nat) (c : Int32) (ux um : St), n < p + m → p ≤ n → um 0 0 = nI n → R ux um → Both (f_X5_passHours_14 m ux c (nI p)) (f_X7_hours_47 m um c (nI p)) := by
  intro m
  induction m with
  | zero => intro p c ux um h1 h2; omega
  | succ m ih =>
    intro p c ux um h1 h2 hm h
    have hx : ux 1 1 = nI n := by
      obtain ⟨n', hn', hx, hm', -⟩ := h.1
      rw [hx, ← hm', hm]
    by_cases hp : p = n
    · subst hp
      exact ⟨(c, ux), (c, um), by rw [f_X5_passHours_14, hx, if_pos (Int32.le_refl _)], by rw [f_X7_hours_47, hm, if_pos (Int32.le_refl _)], rfl, h⟩
    · have hlt : p < n := by omega
      obtain ⟨b, ux', um', hb, e1, e2, h', hm'⟩ := dry h hn hm hlt
      rw [e2 m c, f_X5_passHours_14, hx, if_neg (nI_ge hlt (by omega)), e1, Option.bind_some, nI_1]
      rcases (show b = 0 ∨ b = 1 by omega) with rfl | rfl
      · rw [if_pos nI_0, nI_0, Int32.add_zero]
        exact ih (p + 1) c ux' um' (by omega) (by omega) hm' h'
      · rw [if_neg (show ¬ nI 1 = 0 by decide)]
        exact ih (p + 1) (c + 1) ux' um' (by omega) (by omega) hm' h'
theorem op_hours {ux um : St} (h : R ux um) (k : Int32) : Both (f_X6_hours ux k) (f_X7_hours um k) := by
  cases hk : win k 1 100
  · exact bf1 h (by simp [f_X6_hours, e_isWithin, hk, e_x1]) (by simp [f_X7_hours, e_isIn, hk, e_m1])
  obtain ⟨n, hn, hx, hm, hf, hz, hcw⟩ := h.1
  have hhr := h.2.2.2.2.2.1
  by_cases t : ux 1 2 + k ≤ 100000
  · have t' : um 0 22 + k ≤ 100000 := by rw [← hhr]; exact t
    have h' : R (up2 ux 1 2 (ux 1 2 + k)) (up2 um 0 22 (um 0 22 + k)) := by
      obtain ⟨hP, hL, hS, hW, h9, h22, h8, h23⟩ := h
      exact ⟨by simpa [up2, upd] using hP, by simpa [up2, upd] using hL, by simpa [up2, upd] using hS, by simpa [up2, upd] using hW, by simpa [up2, upd] using h9, by simp [up2, upd, h22], by simpa [up2, upd] using h8, by simpa [up2, upd] using h23⟩
    obtain ⟨q1, q2, a1, a2, a3, a4⟩ := l_hours hn FU 0 0 _ _ (by have := FU_ge (z := n) (by omega); omega) (Nat.zero_le _) (by simpa [up2, upd] using hm) h'
    refine ⟨q1, q2, ?_, ?_, a3, a4⟩
    · simp only [f_X6_hours, e_isWithin, hk, f_X5_passHours]
      have a1' : f_X5_passHours_14 FU (up2 ux 1 2 (ux 1 2 + k)) 0 0 = some q1 := a1
      rw [if_pos trivial, Option.bind_some, if_neg (by decide), if_pos t, a1']; rfl
    · simp only [f_X7_hours, e_isIn, hk]
      rw [if_pos trivial, Option.bind_some, if_neg (by decide), if_pos t']
      exact a2
  · have t' : ¬ um 0 22 + k ≤ 100000 := by rw [← hhr]; exact t
    exact bf4 h (by simp [f_X6_hours, e_isWithin, hk, t, e_x4]) (by simp [f_X7_hours, e_isIn, hk, t', e_m4])
