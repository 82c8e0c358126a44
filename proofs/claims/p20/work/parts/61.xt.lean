theorem T_sum13 (u : St) (x y : Int32) : ∀ (m i : Nat) (acc : Int32), 8 < i + m → i ≤ 8 → ∃ r, f_X1_sumOf_13_5 u m x y acc (nI i) = some r := by
  intro m
  induction m with
  | zero => intro i acc h1 h2; omega
  | succ m ih =>
    intro i acc h1 h2
    rw [f_X1_sumOf_13_5]
    obtain ⟨b, eb⟩ := T_bit u y (nI i)
    rw [eb, Option.bind_some, nI_1]
    split
    · exact ⟨_, rfl⟩
    · split
      · exact ⟨_, rfl⟩
      · rename_i c
        have hi : i < 8 := Nat.not_le.mp fun q => c (nI_le (a := 8) q (by omega))
        rw [if_pos (inb_nI hi (by decide))]
        split <;> exact ih (i + 1) _ (by omega) (by omega)
theorem T_sum14 (u : St) (x y : Int32) : ∀ (m i : Nat) (acc : Int32), 8 < i + m → i ≤ 8 → ∃ r, f_X1_sumOf_14_5 u m x y acc (nI i) = some r := by
  intro m
  induction m with
  | zero => intro i acc h1 h2; omega
  | succ m ih =>
    intro i acc h1 h2
    rw [f_X1_sumOf_14_5]
    obtain ⟨b, eb⟩ := T_bit u y (nI i)
    rw [eb, Option.bind_some, nI_1]
    split
    · exact ⟨_, rfl⟩
    · split
      · exact ⟨_, rfl⟩
      · rename_i c
        have hi : i < 8 := Nat.not_le.mp fun q => c (nI_le (a := 8) q (by omega))
        rw [if_pos (inb_nI hi (by decide))]
        split <;> exact ih (i + 1) _ (by omega) (by omega)
theorem T_most13 (u : St) (x y : Int32) : ∀ (m i : Nat) (acc : Int32), 8 < i + m → i ≤ 8 → ∃ r, f_X1_mostOf_13_5 u m x y acc (nI i) = some r := by
  intro m
  induction m with
  | zero => intro i acc h1 h2; omega
  | succ m ih =>
    intro i acc h1 h2
    rw [f_X1_mostOf_13_5]
    obtain ⟨b, eb⟩ := T_bit u y (nI i)
    rw [eb, Option.bind_some, nI_1]
    split
    · exact ⟨_, rfl⟩
    · split
      · exact ⟨_, rfl⟩
      · rename_i c
        have hi : i < 8 := Nat.not_le.mp fun q => c (nI_le (a := 8) q (by omega))
        rw [if_pos (inb_nI hi (by decide))]
        split <;> exact ih (i + 1) _ (by omega) (by omega)
theorem T_most14 (u : St) (x y : Int32) : ∀ (m i : Nat) (acc : Int32), 8 < i + m → i ≤ 8 → ∃ r, f_X1_mostOf_14_5 u m x y acc (nI i) = some r := by
  intro m
  induction m with
  | zero => intro i acc h1 h2; omega
  | succ m ih =>
    intro i acc h1 h2
    rw [f_X1_mostOf_14_5]
    obtain ⟨b, eb⟩ := T_bit u y (nI i)
    rw [eb, Option.bind_some, nI_1]
    split
    · exact ⟨_, rfl⟩
    · split
      · exact ⟨_, rfl⟩
      · rename_i c
        have hi : i < 8 := Nat.not_le.mp fun q => c (nI_le (a := 8) q (by omega))
        rw [if_pos (inb_nI hi (by decide))]
        split <;> exact ih (i + 1) _ (by omega) (by omega)
theorem FU8 : 8 < 0 + FU := by have := FU_ge (z := 8) (by omega); omega
theorem T_secs (u : St) (x : Int32) : ∃ r, f_X1_secondsWith u x = some r := by
  have h50 : win x 0 3 = true → ∃ r, f_X1_secondsWith_50 u x = some r := fun hw => by
    obtain ⟨a, ea⟩ : ∃ r, f_X1_sumOf_13 u (u 7 2) (u 7 14) = some r := T_sum13 u _ _ FU 0 0 FU8 (by omega)
    obtain ⟨b, eb⟩ : ∃ r, f_X1_sumOf_14 u (u 7 3) (u 7 15) = some r := T_sum14 u _ _ FU 0 0 FU8 (by omega)
    obtain ⟨c, ec⟩ : ∃ r, f_X1_mostOf_13 u (u 7 2) (u 7 14) = some r := T_most13 u _ _ FU 0 0 FU8 (by omega)
    obtain ⟨d, ed⟩ : ∃ r, f_X1_mostOf_14 u (u 7 3) (u 7 15) = some r := T_most14 u _ _ FU 0 0 FU8 (by omega)
    obtain ⟨j, hj, rfl⟩ := (win_nI (n := 3) (by decide) 3 rfl).mp hw
    have hne : ¬ nI j + 1 = 0 := by rw [nI_1]; exact nI_ne0 (by omega) (by omega)
    unfold f_X1_secondsWith_50
    rw [ea, Option.bind_some, eb, Option.bind_some, ec, Option.bind_some, ed, Option.bind_some, if_neg hne]
    exact ⟨_, rfl⟩
  have h29 : ∀ s, ∃ r, f_X1_secondsWith_29 u x s = some r := fun s => by
    unfold f_X1_secondsWith_29
    rw [e_isWithin]
    cases hw : win x 0 3
    · exact ⟨1000000, by simp⟩
    · obtain ⟨r, er⟩ := h50 hw
      rw [Option.bind_some, if_neg (by simp)]
      split
      · split
        · exact ⟨r, er⟩
        · exact ⟨_, rfl⟩
      · exact ⟨r, er⟩
  unfold f_X1_secondsWith
  split
  · split
    · exact h29 0
    · exact h29 1
  · exact h29 1
theorem T_keep {u : St} {za zb : Nat} (hp : PR u za zb) (x y : Int32) : ∃ u', f_X1_keepIfBetter u x y = some u' ∧ FrX u u' ∧ PR u' za zb := by
  have h2 : FrX u (up2 (up2 u 7 16 x) 7 17 y) ∧ PR (up2 (up2 u 7 16 x) 7 17 y) za zb := ⟨(FrX.up _ _ (by omega)).tr (FrX.up _ _ (by omega)), (hp.up (j := 16) x (by omega)).up (j := 17) y (by omega)⟩
  unfold f_X1_keepIfBetter
  split
  · exact ⟨_, rfl, h2⟩
  · split
    · simp only [f_J6_bitCount, Option.bind_some]
      split
      · exact ⟨u, rfl, FrX.rf u, hp⟩
      · exact ⟨_, rfl, h2⟩
    · exact ⟨u, rfl, FrX.rf u, hp⟩
theorem pw_nI : ∀ z, z < 9 → (1 : Int32) <<< (nI z &&& 31) = nI (2 ^ z) := by decide
theorem pw_le {z : Nat} (hz : z ≤ 8) : 2 ^ z ≤ 256 := Nat.pow_le_pow_right (n := 2) (by decide) hz
theorem T_best0 {za zb : Nat} (x y : Int32) : ∀ (m i : Nat) (u : St), PR u za zb → 2 ^ zb < i + m → i ≤ 2 ^ zb → ∃ u', f_X1_findBest_20 m u x y (nI i) = some u' ∧ FrX u u' ∧ PR u' za zb := by
  intro m
  induction m with
  | zero => intro i u hp h1 h2; omega
  | succ m ih =>
    intro i u hp h1 h2
    obtain ⟨p1, p2, p3, p4, p5⟩ := id hp
    have hpw := pw_le p4
    rw [f_X1_findBest_20, p2, pw_nI zb (by omega)]
    by_cases hi : i = 2 ^ zb
    · subst hi; exact ⟨u, if_pos (Int32.le_refl _), FrX.rf u, hp⟩
    · rw [if_neg (nI_ge (show i < 2 ^ zb by omega) (by omega))]
      obtain ⟨r, e1, -⟩ := T_may hp (nI i) y
      rw [e1, Option.bind_some, nI_1]
      split
      · exact ih (i + 1) u hp (by omega) (by omega)
      · obtain ⟨u1, a1, a2, a3⟩ := T_handle hp (nI i)
        obtain ⟨s, b1⟩ := T_secs u1 x
        obtain ⟨u2, c1, c2, c3⟩ := T_keep a3 (nI i) s
        rw [a1, Option.bind_some, b1, Option.bind_some, c1, Option.bind_some]
        obtain ⟨u3, d1, d2, d3⟩ := ih (i + 1) u2 c3 (by omega) (by omega)
        exact ⟨u3, d1, (a2.tr c2).tr d2, d3⟩
theorem T_best {u : St} (h : HX u) {a b : Nat} (ha : a < 12) (hb : b < 12) (x y : Int32) : ∃ u', f_X1_findBest u (nI a) (nI b) x y = some u' ∧ FrX u u' := by
  unfold f_X1_findBest
  obtain ⟨u1, za, zb, e1, e2, e3⟩ := T_prepare h ha hb
  rw [e1, Option.bind_some]
  have hpw := pw_le e3.2.2.2.1
  obtain ⟨u2, g1, g2, g3⟩ := T_best0 x y FU 0 _ ((e3.up (j := 16) 0 (by omega)).up (j := 17) 1000000 (by omega)) (by have := FU_ge (z := 2 ^ zb) (by omega); omega) (Nat.zero_le _)
  exact ⟨u2, g1, (e2.tr ((FrX.up _ _ (by omega)).tr (FrX.up _ _ (by omega)))).tr g2⟩
theorem T_chg (u : St) (h : HX u) (a b x : Int32) : f_X6_isChange u a b x = some 0 ∨ (f_X6_isChange u a b x = some 1 ∧ ∃ i j, i < 12 ∧ j < 12 ∧ a = nI i ∧ b = nI j) := by
  unfold f_X6_isChange
  rw [e_X2has, e_X2has]
  cases ha : win a 0 11
  · left; simp
  cases hb : win b 0 11
  · left; simp
  obtain ⟨i, hi, rfl⟩ := (win_nI (n := 11) (by decide) 11 rfl).mp ha
  obtain ⟨j, hj, rfl⟩ := (win_nI (n := 11) (by decide) 11 rfl).mp hb
  have eh : f_X2_hasBits u (nI j) x = some 1 ∨ f_X2_hasBits u (nI j) x = some 0 := by
    unfold f_X2_hasBits
    rw [e_sizeOf u (show j < 12 by omega), Option.bind_some]
    split
    · exact Or.inl rfl
    · exact Or.inr rfl
  rcases eh with e | e
  · right; exact ⟨by simp [e], i, j, by omega, by omega, rfl, rfl⟩
  · left; simp [e]
/-- the call runs, and writes what doesn't last alone -/
def GoX (u : St) (f : Option (Int32 × St)) : Prop := ∃ q, f = some q ∧ FrX u q.2
theorem GoX.fin (u : St) {u' : St} (h : FrX u u') (k : Nat) {v : Int32} {f : Option (Int32 × St)} (e : f = some (v, XF k u')) : GoX u f := ⟨_, e, h.tr (FrX.XF k u')⟩
theorem gx_allowed {u : St} (h : HX u) (a b x : Int32) : GoX u (f_X6_allowed u a b x) := by
  unfold f_X6_allowed
  rcases T_chg u h a b x with e | ⟨e, i, j, hi, hj, rfl, rfl⟩
  · exact GoX.fin u (FrX.rf u) 1 (v := -1000001) (by simp [e, e_x1])
  · obtain ⟨r, u', za, zb, e1, e2, e3⟩ := T_isAllowed h hi hj x
    rw [e, Option.bind_some, if_neg (by decide), e1, Option.bind_some]
    split
    · exact ⟨_, rfl, e2⟩
    · exact ⟨_, rfl, e2⟩
theorem gx_told {u : St} (h : HX u) (a b x w : Int32) : GoX u (f_X6_told u a b x w) := by
  unfold f_X6_told
  rcases T_chg u h a b x with e | ⟨e, i, j, hi, hj, rfl, rfl⟩
  · exact GoX.fin u (FrX.rf u) 1 (v := -1000001) (by simp [e, e_x1])
  · rw [e, Option.bind_some, if_neg (by decide), e_isWithin]
    cases hw : win w 0 3
    · exact GoX.fin u (FrX.rf u) 1 (v := -1000001) (by simp [e_x1])
    obtain ⟨r, u', za, zb, e1, e2, e3⟩ := T_isAllowed h hi hj x
    rw [Option.bind_some, if_neg (by simp), e1, Option.bind_some]
    split
    · exact GoX.fin u e2 3 (v := -1000003) (by simp [e_x3])
    · obtain ⟨u2, g1, g2, g3⟩ := T_handle e3 x
      rw [g1, Option.bind_some]
      simp only [f_X6_told_74, f_J6_bitCount, Option.bind_some]
      split <;> split <;> exact ⟨_, rfl, e2.tr g2⟩
theorem gx_seconds {u : St} (h : HX u) (a b x w : Int32) : GoX u (f_X6_seconds u a b x w) := by
  unfold f_X6_seconds
  rcases T_chg u h a b x with e | ⟨e, i, j, hi, hj, rfl, rfl⟩
  · exact GoX.fin u (FrX.rf u) 1 (v := -1000001) (by simp [e, e_x1])
  · rw [e, Option.bind_some, if_neg (by decide), e_isWithin]
    cases hw : win w 0 3
    · exact GoX.fin u (FrX.rf u) 1 (v := -1000001) (by simp [e_x1])
    obtain ⟨r, u', za, zb, e1, e2, e3⟩ := T_isAllowed h hi hj x
    rw [Option.bind_some, if_neg (by simp), e1, Option.bind_some]
    split
    · exact GoX.fin u e2 3 (v := -1000003) (by simp [e_x3])
    · obtain ⟨u2, g1, g2, g3⟩ := T_handle e3 x
      obtain ⟨s, es⟩ := T_secs u2 w
      rw [g1, Option.bind_some, es, Option.bind_some]
      split
      · exact GoX.fin u (e2.tr g2) 2 (v := -1000002) (by simp [e_x2])
      · exact ⟨_, rfl, e2.tr g2⟩
theorem gx_best {u : St} (h : HX u) (a b x w : Int32) : GoX u (f_X6_best u a b x w) := by
  unfold f_X6_best
  rcases T_chg u h a b 0 with e | ⟨e, i, j, hi, hj, rfl, rfl⟩
  · exact GoX.fin u (FrX.rf u) 1 (v := -1000001) (by simp [e, e_x1])
  · rw [e, Option.bind_some, if_neg (by decide), e_isWithin]
    cases hx : win x 0 3
    · exact GoX.fin u (FrX.rf u) 1 (v := -1000001) (by simp [e_x1])
    rw [Option.bind_some, if_neg (by simp), e_isWithin]
    cases hw : win w 0 1
    · exact GoX.fin u (FrX.rf u) 1 (v := -1000001) (by simp [e_x1])
    obtain ⟨u', e1, e2⟩ := T_best h hi hj x (u 0 9)
    rw [Option.bind_some, if_neg (by simp), e1, Option.bind_some]
    split
    · exact GoX.fin u e2 2 (v := -1000002) (by simp [e_x2])
    · split
      · exact ⟨_, rfl, e2⟩
      · exact ⟨_, rfl, e2⟩
/-- the shifts as they stand -/
def HS (u : St) : Prop := ∃ k, k ≤ 12 ∧ u 15 5 = nI k ∧ ∀ s, s < k → (∃ a, a < 12 ∧ u 16 s / 1000 = nI a) ∧ (∃ a, a < 12 ∧ u 16 s / 10 - u 16 s / 10 / 100 * 100 = nI a) ∧ ∃ a, a ≤ 3 ∧ u 19 s = nI a
theorem R.hs {ux um : St} (h : R ux um) : HS ux := by
  obtain ⟨-, -, ⟨k, hk, s1, s2, hs⟩, -⟩ := h
  refine ⟨k, hk, s1, fun s h' => ?_⟩
  obtain ⟨a1, a2, a3, a4, a5, a6, a7, a8, a9, a10⟩ := hs s h'
  rw [a1, a2, a6]
  exact ⟨a7, a8, a10⟩
theorem HS.fr {u u' : St} (h : HS u) (hf : FrX u u') : HS u' := by
  unfold HS
  rw [hf 15 (by omega), hf 16 (by omega), hf 19 (by omega)]
  exact h
theorem T_has4 {u : St} {k : Nat} (hk : k ≤ 12) (h : u 15 5 = nI k) (s : Int32) : f_X4_has u s = some 0 ∨ (f_X4_has u s = some 1 ∧ ∃ i, i < k ∧ s = nI i) := by
  unfold f_X4_has
  rw [h]
  by_cases h1 : s < 0
  · left; simp [h1]
  obtain ⟨i, hi, rfl⟩ := nI_of h1
  by_cases h2 : nI k ≤ nI i
  · left; simp [h1, h2]
  · have hlt : i < k := Nat.not_le.mp fun q => h2 (nI_le q hi)
    right
    refine ⟨?_, i, hlt, rfl⟩
    rw [if_neg h1, if_neg h2, if_neg (show ¬ (12 : Int32) ≤ nI i from nI_ge (b := 12) (show i < 12 by omega) (by omega))]
theorem gx_fits {u : St} (h : HX u) (hs : HS u) (s : Int32) : GoX u (f_X6_fits u s) := by
  obtain ⟨k, hk, h5, hsh⟩ := hs
  unfold f_X6_fits
  rcases T_has4 hk h5 s with e | ⟨e, i, hi, rfl⟩
  · exact GoX.fin u (FrX.rf u) 1 (v := -1000001) (by simp [e, e_x1])
  · obtain ⟨⟨a, ha, ea⟩, ⟨b, hb, eb⟩, ⟨c, hc, ec⟩⟩ := hsh i hi
    have i1 := inb_nI (show i < 12 by omega) (show 12 < 2 ^ 31 by decide)
    have i2 := nI_clamp (show i < 2 ^ 31 by omega)
    have l1 : f_X4_lookBefore u (nI i) = some (nI a) := by simp [f_X4_lookBefore, e, i1, i2, f_X6_beforeIn, ea]
    have l2 : f_X4_lookAfter u (nI i) = some (nI b) := by simp [f_X4_lookAfter, e, i1, i2, f_X6_afterIn, eb]
    have l3 : f_X4_handsOf u (nI i) = some (nI c) := by simp [f_X4_handsOf, e, i1, i2, ec]
    obtain ⟨u', e1, e2⟩ := T_best h ha hb (nI c) (u 0 9)
    have e' : f_X4_has u' (nI i) = some 1 := by
      have : u' 15 5 = u 15 5 := by rw [e2 15 (by omega)]
      unfold f_X4_has at e ⊢
      rw [this]; exact e
    have l4 : ∃ r, f_X4_lengthOf u' (nI i) = some r := ⟨_, by simp [f_X4_lengthOf, e', i1]; rfl⟩
    obtain ⟨r, er⟩ := l4
    rw [e, Option.bind_some, if_neg (by decide), l1, Option.bind_some, l2, Option.bind_some, l3, Option.bind_some, e1, Option.bind_some, er, Option.bind_some]
    split
    · exact ⟨_, rfl, e2⟩
    · exact ⟨_, rfl, e2⟩
