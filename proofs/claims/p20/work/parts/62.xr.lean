/-! ===== the class runs: dressers ===== -/
theorem le12 {i : Nat} (h : ¬ (12 : Int32) ≤ nI i) (hi : i < 2 ^ 31) : i < 12 := Nat.not_le.mp fun q => h (nI_le (a := 12) q hi)
theorem ix12 {a b : Nat} (ha : a < 12) (hb : b < 12) : inb (nI a * 12 + nI b) 144 = true := by
  have e : nI a * 12 + nI b = nI (12 * a + b) := by
    rw [show (12 : Int32) = nI 12 from rfl, nI_mul, nI_add, Nat.mul_comm]
  rw [e]
  exact inb_nI (by omega) (by decide)
theorem T_fill23 (v : Int32) : ∀ (m i : Nat) (u : St), 144 < i + m → i ≤ 144 → ∃ u', f_J7_fill_23_5 m u v (nI i) 144 = some u' ∧ (∀ k, k ≠ 23 → u' k = u k) := by
  intro m
  induction m with
  | zero => intro i u h1 h2; omega
  | succ m ih =>
    intro i u h1 h2
    rw [f_J7_fill_23_5]
    by_cases hi : i = 144
    · subst hi; exact ⟨u, if_pos (show (144 : Int32) ≤ nI 144 by decide), fun _ _ => rfl⟩
    · rw [if_neg (show ¬ (144 : Int32) ≤ nI i from nI_ge (b := 144) (show i < 144 by omega) (by omega)), if_pos (inb_nI (show i < 144 by omega) (by decide)), nI_1]
      obtain ⟨u', e1, e2⟩ := ih (i + 1) (up2 u 23 (nI i).toNatClampNeg v) (by omega) (by omega)
      exact ⟨u', e1, fun k hk => by rw [e2 k hk]; simp [up2, hk]⟩
theorem T_fill24 (v : Int32) : ∀ (m i : Nat) (u : St), 12 < i + m → i ≤ 12 → ∃ u', f_J7_fill_24_5 m u v (nI i) 12 = some u' ∧ (∀ k, k ≠ 24 → u' k = u k) := by
  intro m
  induction m with
  | zero => intro i u h1 h2; omega
  | succ m ih =>
    intro i u h1 h2
    rw [f_J7_fill_24_5]
    by_cases hi : i = 12
    · subst hi; exact ⟨u, if_pos (show (12 : Int32) ≤ nI 12 by decide), fun _ _ => rfl⟩
    · rw [if_neg (show ¬ (12 : Int32) ≤ nI i from nI_ge (b := 12) (show i < 12 by omega) (by omega)), if_pos (inb_nI (show i < 12 by omega) (by decide)), nI_1]
      obtain ⟨u', e1, e2⟩ := ih (i + 1) (up2 u 24 (nI i).toNatClampNeg v) (by omega) (by omega)
      exact ⟨u', e1, fun k hk => by rw [e2 k hk]; simp [up2, hk]⟩
theorem T_fill25 (v : Int32) : ∀ (m i : Nat) (u : St), 12 < i + m → i ≤ 12 → ∃ u', f_J7_fill_25_5 m u v (nI i) 12 = some u' ∧ (∀ k, k ≠ 25 → u' k = u k) := by
  intro m
  induction m with
  | zero => intro i u h1 h2; omega
  | succ m ih =>
    intro i u h1 h2
    rw [f_J7_fill_25_5]
    by_cases hi : i = 12
    · subst hi; exact ⟨u, if_pos (show (12 : Int32) ≤ nI 12 by decide), fun _ _ => rfl⟩
    · rw [if_neg (show ¬ (12 : Int32) ≤ nI i from nI_ge (b := 12) (show i < 12 by omega) (by omega)), if_pos (inb_nI (show i < 12 by omega) (by decide)), nI_1]
      obtain ⟨u', e1, e2⟩ := ih (i + 1) (up2 u 25 (nI i).toNatClampNeg v) (by omega) (by omega)
      exact ⟨u', e1, fun k hk => by rw [e2 k hk]; simp [up2, hk]⟩
def QO (u : St) : Prop := ∃ q, q ≤ 12 ∧ u 21 6 = nI q
theorem T_enq {u : St} (h : QO u) (x y : Int32) : ∃ u', f_X3_enqueue u x y = some u' ∧ FrX u u' ∧ QO u' := by
  obtain ⟨q, hq, e⟩ := id h
  unfold f_X3_enqueue
  rw [e_isWithin]
  cases hw : win x 0 11
  · exact ⟨u, by simp, FrX.rf u, h⟩
  obtain ⟨i, hi, rfl⟩ := (win_nI (n := 11) (by decide) 11 rfl).mp hw
  rw [Option.bind_some, if_neg (by simp), if_pos (inb_nI (show i < 12 by omega) (by decide)), e]
  split
  · exact ⟨u, rfl, FrX.rf u, h⟩
  · split
    · exact ⟨u, rfl, FrX.rf u, h⟩
    · rename_i c
      have hq' := le12 c (by omega)
      rw [if_pos (inb_nI hq' (by decide))]
      exact ⟨_, rfl, ((FrX.up _ _ (by omega)).tr (FrX.up _ _ (by omega))).tr (FrX.up _ _ (by omega)), q + 1, by omega, by simp [up2, upd, nI_1]⟩
theorem T_going (u : St) (x y : Int32) : ∃ r, f_X3_goingBetween u x y = some r := by
  unfold f_X3_goingBetween
  rw [e_isWithin, e_isWithin]
  cases hx : win x 0 11
  · exact ⟨0, by simp⟩
  cases hy : win y 0 11
  · exact ⟨0, by simp⟩
  obtain ⟨i, hi, rfl⟩ := (win_nI (n := 11) (by decide) 11 rfl).mp hx
  obtain ⟨j, hj, rfl⟩ := (win_nI (n := 11) (by decide) 11 rfl).mp hy
  exact ⟨_, by simp [ix12 (show i < 12 by omega) (show j < 12 by omega)]; rfl⟩
theorem T_note (u : St) (x y v : Int32) : ∃ u', f_X3_noteGoing u x y v = some u' ∧ FrX u u' := by
  unfold f_X3_noteGoing
  rw [e_isWithin, e_isWithin]
  cases hx : win x 0 11
  · exact ⟨u, by simp, FrX.rf u⟩
  cases hy : win y 0 11
  · exact ⟨u, by simp, FrX.rf u⟩
  obtain ⟨i, hi, rfl⟩ := (win_nI (n := 11) (by decide) 11 rfl).mp hx
  obtain ⟨j, hj, rfl⟩ := (win_nI (n := 11) (by decide) 11 rfl).mp hy
  rw [Option.bind_some, if_neg (by simp), Option.bind_some, if_neg (by simp), if_pos (ix12 (show i < 12 by omega) (show j < 12 by omega))]
  exact ⟨_, rfl, FrX.up _ _ (by omega)⟩
theorem T_enqT (y : Int32) : ∀ (m i : Nat) (u : St), QO u → 12 < i + m → i ≤ 12 → ∃ u', f_X3_enqueueThoseGoingTo_2 m u y (nI i) = some u' ∧ FrX u u' ∧ QO u' := by
  intro m
  induction m with
  | zero => intro i u h h1 h2; omega
  | succ m ih =>
    intro i u h h1 h2
    rw [f_X3_enqueueThoseGoingTo_2]
    split
    · exact ⟨u, rfl, FrX.rf u, h⟩
    · rename_i c
      have hi := le12 c (by omega)
      obtain ⟨r, er⟩ := T_going u (nI i) y
      rw [er, Option.bind_some, nI_1]
      split
      · exact ih (i + 1) u h (by omega) (by omega)
      · obtain ⟨u1, a1, a2, a3⟩ := T_enq h (nI i) y
        rw [a1, Option.bind_some]
        obtain ⟨u2, b1, b2, b3⟩ := ih (i + 1) u1 a3 (by omega) (by omega)
        exact ⟨u2, b1, a2.tr b2, b3⟩
theorem T_wayB (u : St) (x y : Int32) : ∃ r, f_X4_wayBetween u x y = some r := by
  unfold f_X4_wayBetween
  rw [e_isWithin, e_isWithin]
  cases hx : win x 0 5
  · exact ⟨0, by simp⟩
  cases hy : win y 0 5
  · exact ⟨0, by simp⟩
  obtain ⟨i, hi, rfl⟩ := (win_nI (n := 5) (by decide) 5 rfl).mp hx
  obtain ⟨j, hj, rfl⟩ := (win_nI (n := 5) (by decide) 5 rfl).mp hy
  exact ⟨_, by simp [(ix6 (show i < 6 by omega) (show j < 6 by omega)).1]; rfl⟩
theorem T_mayGo {u : St} (hs : HS u) (x y : Int32) : ∃ r, f_X4_mayGo u x y = some r := by
  obtain ⟨k, hk, h5, -⟩ := hs
  unfold f_X4_mayGo
  rcases T_has4 hk h5 x with e | ⟨e, i, hi, rfl⟩
  · exact ⟨0, by simp [e]⟩
  rcases T_has4 hk h5 y with e2 | ⟨e2, j, hj, rfl⟩
  · exact ⟨0, by simp [e, e2]⟩
  obtain ⟨r, er⟩ := T_wayB u (u 16 (nI i).toNatClampNeg - u 16 (nI i).toNatClampNeg / 10 * 10) (u 16 (nI j).toNatClampNeg - u 16 (nI j).toNatClampNeg / 10 * 10)
  rw [e, Option.bind_some, if_neg (by decide), e2, Option.bind_some, if_neg (by decide), if_pos (inb_nI (show j < 12 by omega) (by decide)), if_pos (inb_nI (show i < 12 by omega) (by decide))]
  simp only [f_X6_doorIn, Option.bind_some, er]
  split
  · exact ⟨0, rfl⟩
  · exact ⟨1, rfl⟩
theorem T_hands {u : St} (hs : HS u) (s : Int32) : ∃ h, h ≤ 3 ∧ f_X4_handsOf u s = some (nI h) := by
  obtain ⟨k, hk, h5, hsh⟩ := hs
  unfold f_X4_handsOf
  rcases T_has4 hk h5 s with e | ⟨e, i, hi, rfl⟩
  · exact ⟨0, by omega, by simp [e, nI_0]⟩
  · obtain ⟨-, -, c, hc, ec⟩ := hsh i hi
    exact ⟨c, hc, by simp [e, inb_nI (show i < 12 by omega) (show 12 < 2 ^ 31 by decide), nI_clamp (show i < 2 ^ 31 by omega), ec]⟩
theorem T_s53 (k29 : St → Int32 → Option (Int32 × St)) (l2 l3 : Int32) (hk : ∀ u, HS u → QO u → ∃ q, k29 u (l2 + 1) = some q ∧ FrX u q.2) : ∀ (m i : Nat) (u : St), HS u → QO u → 12 < i + m → i ≤ 12 → ∃ q, f_X3_search_53 k29 m u l2 l3 (nI i) = some q ∧ FrX u q.2 := by
  intro m
  induction m with
  | zero => intro i u hs h h1 h2; omega
  | succ m ih =>
    intro i u hs h h1 h2
    rw [f_X3_search_53]
    split
    · exact hk u hs h
    · rename_i c
      have hi := le12 c (by omega)
      rw [if_pos (inb_nI hi (by decide)), nI_1]
      split
      · exact ih (i + 1) u hs h (by omega) (by omega)
      · obtain ⟨r, er⟩ := T_mayGo hs l3 (nI i)
        rw [er, Option.bind_some]
        split
        · exact ih (i + 1) u hs h (by omega) (by omega)
        · split
          · have f1 : FrX u (up2 u 24 (nI i).toNatClampNeg l3) := FrX.up _ _ (by omega)
            have q1 : QO (up2 u 24 (nI i).toNatClampNeg l3) := by
              obtain ⟨q, hq, e⟩ := h
              exact ⟨q, hq, by simpa [up2] using e⟩
            obtain ⟨u1, a1, a2, a3⟩ : ∃ u', f_X3_enqueueThoseGoingTo (up2 u 24 (nI i).toNatClampNeg l3) (nI i) = some u' ∧ FrX (up2 u 24 (nI i).toNatClampNeg l3) u' ∧ QO u' := T_enqT (nI i) FU 0 _ q1 (by have := FU_ge (z := 12) (by omega); omega) (by omega)
            rw [a1, Option.bind_some]
            obtain ⟨q, b1, b2⟩ := ih (i + 1) u1 (hs.fr (f1.tr a2)) a3 (by omega) (by omega)
            exact ⟨q, b1, (f1.tr a2).tr b2⟩
          · exact ⟨_, rfl, FrX.up _ _ (by omega)⟩
theorem T_s29 : ∀ (m i : Nat) (u : St), HS u → QO u → 12 < i + m → i ≤ 12 → ∃ q, f_X3_search_29 m u (nI i) = some q ∧ FrX u q.2 := by
  intro m
  induction m with
  | zero => intro i u hs h h1 h2; omega
  | succ m ih =>
    intro i u hs h h1 h2
    rw [f_X3_search_29]
    split
    · exact ⟨_, rfl, FrX.rf u⟩
    · split
      · exact ⟨_, rfl, FrX.rf u⟩
      · rename_i c
        have hi := le12 c (by omega)
        rw [if_pos (inb_nI hi (by decide))]
        exact T_s53 _ _ _ (fun u hs h => by rw [nI_1]; exact ih (i + 1) u hs h (by omega) (by omega)) FU 0 u hs h (by have := FU_ge (z := 12) (by omega); omega) (by omega)
theorem T_search {u : St} (hs : HS u) (x : Int32) : ∃ q, f_X3_search u x = some q ∧ FrX u q.2 := by
  unfold f_X3_search
  obtain ⟨u1, a1, a2⟩ : ∃ u', f_J7_fill_24 u (-1) = some u' ∧ (∀ k, k ≠ 24 → u' k = u k) := T_fill24 (-1) FU 0 u (by have := FU_ge (z := 12) (by omega); omega) (by omega)
  obtain ⟨u2, b1, b2⟩ : ∃ u', f_J7_fill_25 u1 (-1) = some u' ∧ (∀ k, k ≠ 25 → u' k = u1 k) := T_fill25 (-1) FU 0 u1 (by have := FU_ge (z := 12) (by omega); omega) (by omega)
  rw [a1, Option.bind_some, b1, Option.bind_some]
  have g1 : FrX u u1 := fun k hk => a2 k (by omega)
  have g2 : FrX u1 u2 := fun k hk => b2 k (by omega)
  have f1 : FrX u (up2 u2 21 6 0) := (g1.tr g2).tr (FrX.up _ _ (by omega))
  obtain ⟨u3, c1, c2, c3⟩ := T_enq (u := up2 u2 21 6 0) ⟨0, by omega, by simp [up2, upd, nI_0]⟩ x x
  rw [c1, Option.bind_some]
  obtain ⟨q, d1, d2⟩ := T_s29 FU 0 u3 (hs.fr (f1.tr c2)) c3 (by have := FU_ge (z := 12) (by omega); omega) (by omega)
  exact ⟨q, d1, (f1.tr c2).tr d2⟩
theorem T_settle0 (l1 : Int32) : ∀ (m i : Nat) (u : St) (l3 : Int32), 12 < i + m → i ≤ 12 → ∃ u', f_X3_settle_26 m u l1 l3 (nI i) = some u' ∧ FrX u u' := by
  intro m
  induction m with
  | zero => intro i u l3 h1 h2; omega
  | succ m ih =>
    intro i u l3 h1 h2
    rw [f_X3_settle_26]
    split
    · exact ⟨u, rfl, FrX.rf u⟩
    · rename_i c
      have hi := le12 c (by omega)
      rw [e_isWithin]
      cases hw : win l3 0 11
      · exact ⟨u, by simp, FrX.rf u⟩
      obtain ⟨j, hj, rfl⟩ := (win_nI (n := 11) (by decide) 11 rfl).mp hw
      obtain ⟨u1, a1, a2⟩ := T_note u (u 24 (nI j).toNatClampNeg) (nI j) 1
      rw [Option.bind_some, if_neg (by simp), if_pos (inb_nI (show j < 12 by omega) (by decide)), a1, Option.bind_some]
      split
      · exact ⟨u1, rfl, a2⟩
      · rw [e_isWithin]
        cases hw2 : win (u 24 (nI j).toNatClampNeg) 0 11
        · exact ⟨u1, by simp, a2⟩
        obtain ⟨k, hk, ek⟩ := (win_nI (n := 11) (by decide) 11 rfl).mp hw2
        rw [Option.bind_some, if_neg (by simp), ek, if_pos (inb_nI (show k < 12 by omega) (by decide))]
        obtain ⟨u2, b1, b2⟩ := T_note u1 (nI k) (u1 25 (nI k).toNatClampNeg) (-1)
        rw [b1, Option.bind_some, nI_1]
        obtain ⟨u3, c1, c2⟩ := ih (i + 1) u2 (u1 25 (nI k).toNatClampNeg) (by omega) (by omega)
        exact ⟨u3, c1, (a2.tr b2).tr c2⟩
theorem T_settle (u : St) (x y : Int32) : ∃ u', f_X3_settle u x y = some u' ∧ FrX u u' := by
  unfold f_X3_settle
  rw [e_isWithin]
  cases hw : win y 0 11
  · exact ⟨u, by simp, FrX.rf u⟩
  obtain ⟨j, hj, rfl⟩ := (win_nI (n := 11) (by decide) 11 rfl).mp hw
  rw [Option.bind_some, if_neg (by simp), if_pos (inb_nI (show j < 12 by omega) (by decide))]
  obtain ⟨u', e1, e2⟩ := T_settle0 x FU 0 (up2 u 22 (nI j).toNatClampNeg (u 22 (nI j).toNatClampNeg - 1)) (nI j) (by have := FU_ge (z := 12) (by omega); omega) (by omega)
  exact ⟨u', e1, (FrX.up _ _ (by omega)).tr e2⟩
theorem T_send0 (x : Int32) {z : Nat} (hz : z ≤ 3) : ∀ (m i : Nat) (u : St) (acc : Int32), HS u → z < i + m → i ≤ z → ∃ q, f_X3_sendOn_14 m u x acc (nI z) (nI i) = some q ∧ FrX u q.2 := by
  intro m
  induction m with
  | zero => intro i u acc hs h1 h2; omega
  | succ m ih =>
    intro i u acc hs h1 h2
    rw [f_X3_sendOn_14]
    by_cases hi : i = z
    · subst hi; exact ⟨_, if_pos (Int32.le_refl _), FrX.rf u⟩
    · rw [if_neg (nI_ge (show i < z by omega) (by omega)), nI_1]
      obtain ⟨q, a1, a2⟩ := T_search hs x
      rw [a1, Option.bind_some]
      split
      · obtain ⟨u1, b1, b2⟩ := T_settle q.2 x q.1
        rw [b1, Option.bind_some]
        obtain ⟨q2, c1, c2⟩ := ih (i + 1) u1 (acc + 1) (hs.fr (a2.tr b2)) (by omega) (by omega)
        exact ⟨q2, c1, (a2.tr b2).tr c2⟩
      · exact ⟨_, rfl, a2⟩
theorem T_send {u : St} (hs : HS u) (x : Int32) : ∃ q, f_X3_sendOn u x = some q ∧ FrX u q.2 := by
  unfold f_X3_sendOn
  obtain ⟨z, hz, e⟩ := T_hands hs x
  rw [e, Option.bind_some]
  exact T_send0 x hz FU 0 u 0 hs (by have := FU_ge (z := z) (by omega); omega) (by omega)
theorem T_few49 : ∀ (m i : Nat) (u : St) (acc : Int32), HS u → 12 < i + m → i ≤ 12 → ∃ q, f_X3_fewest_49 m u acc (nI i) = some q ∧ FrX u q.2 := by
  intro m
  induction m with
  | zero => intro i u acc hs h1 h2; omega
  | succ m ih =>
    intro i u acc hs h1 h2
    rw [f_X3_fewest_49]
    split
    · exact ⟨_, rfl, FrX.rf u⟩
    · rename_i c
      have hi := le12 c (by omega)
      obtain ⟨q, a1, a2⟩ := T_send hs (nI i)
      rw [a1, Option.bind_some, nI_1]
      obtain ⟨q2, b1, b2⟩ := ih (i + 1) q.2 (acc - q.1) (hs.fr a2) (by omega) (by omega)
      exact ⟨q2, b1, a2.tr b2⟩
theorem T_few12 : ∀ (m i : Nat) (u : St) (acc : Int32), HS u → 12 < i + m → i ≤ 12 → ∃ q, f_X3_fewest_12 m u acc (nI i) = some q ∧ FrX u q.2 := by
  intro m
  induction m with
  | zero => intro i u acc hs h1 h2; omega
  | succ m ih =>
    intro i u acc hs h1 h2
    rw [f_X3_fewest_12]
    split
    · exact T_few49 FU 0 u acc hs (by have := FU_ge (z := 12) (by omega); omega) (by omega)
    · rename_i c
      have hi := le12 c (by omega)
      obtain ⟨z, hz, e⟩ := T_hands hs (nI i)
      rw [e, Option.bind_some, if_pos (inb_nI hi (by decide)), nI_1]
      have f1 : FrX u (up2 u 22 (nI i).toNatClampNeg (nI z)) := FrX.up _ _ (by omega)
      obtain ⟨q2, b1, b2⟩ := ih (i + 1) _ _ (hs.fr f1) (by omega) (by omega)
      exact ⟨q2, b1, f1.tr b2⟩
theorem gx_dressers {u : St} (hs : HS u) : GoX u (f_X6_dressers u) := by
  unfold f_X6_dressers f_X3_fewest
  obtain ⟨u1, a1, a2⟩ : ∃ u', f_J7_fill_23 u 0 = some u' ∧ (∀ k, k ≠ 23 → u' k = u k) := T_fill23 0 FU 0 u (by have := FU_ge (z := 144) (by omega); omega) (by omega)
  have f1 : FrX u u1 := fun k hk => a2 k (by omega)
  obtain ⟨q, b1, b2⟩ := T_few12 FU 0 u1 0 (hs.fr f1) (by have := FU_ge (z := 12) (by omega); omega) (by omega)
  refine ⟨q, ?_, f1.tr b2⟩
  rw [a1, Option.bind_some]
  rw [show (0 : Int32) = nI 0 from rfl] at b1 ⊢
  rw [b1]; rfl
