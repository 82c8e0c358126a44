theorem M_count4 (u : St) (x : Int32) : ∀ (m i : Nat) (acc : Int32), 12 < i + m → i ≤ 12 → ∃ r, f_X7_countOf_4 u m x acc (nI i) = some r := by
  intro m
  induction m with
  | zero => intro i acc h1 h2; omega
  | succ m ih =>
    intro i acc h1 h2
    rw [f_X7_countOf_4]
    by_cases hi : i = 12
    · subst hi; exact ⟨acc, if_pos (show (12 : Int32) ≤ nI 12 by decide)⟩
    · rw [if_neg (show ¬ (12 : Int32) ≤ nI i from nI_ge (b := 12) (show i < 12 by omega) (by omega)), nI_1]
      exact ih (i + 1) _ (by omega) (by omega)
theorem M_count (u : St) (x : Int32) : ∃ r, f_X7_countOf u x = some r := M_count4 u x FU 0 0 (by have := FU_ge (z := 12) (by omega); omega) (Nat.zero_le _)
/-- the call runs, and writes what doesn't last alone -/
def GoM (u : St) (f : Option (Int32 × St)) : Prop := ∃ q, f = some q ∧ FrM u q.2
theorem GoM.fin (u : St) {u' : St} (h : FrM u u') (k : Nat) {v : Int32} {f : Option (Int32 × St)} (e : f = some (v, MF k u')) : GoM u f := ⟨_, e, h.tr (FrM.MF k u')⟩
theorem GoM.tr {u u' : St} (h : FrM u u') {f : Option (Int32 × St)} (g : GoM u' f) : GoM u f := by
  obtain ⟨q, e, hq⟩ := g
  exact ⟨q, e, h.tr hq⟩
theorem M_sec127 {u : St} {b zb : Nat} (hb : b < 12) (lb : LK u b zb) {c : Nat} (hc : c ≤ 3) : ∀ (m i : Nat) (l5 l6 l7 : Int32), zb < i + m → i ≤ zb → GoM u (f_X7_secondsOf_127 m u (nI b) (nI c) l5 l6 l7 (nI i)) := by
  obtain ⟨hz, h11, hj⟩ := id lb
  intro m
  induction m with
  | zero => intro i l5 l6 l7 h1 h2; omega
  | succ m ih =>
    intro i l5 l6 l7 h1 h2
    rw [f_X7_secondsOf_127, if_pos (inb_nI hb (by decide)), nI_clamp (show b < 2 ^ 31 by omega), h11]
    by_cases hi : i = zb
    · subst hi
      have hne : ¬ nI c + 1 = 0 := by rw [nI_1]; exact nI_ne0 (by omega) (by omega)
      rw [if_pos (Int32.le_refl _), if_neg hne]
      split
      · split
        · split <;> exact ⟨_, rfl, FrM.rf u⟩
        · exact ⟨_, rfl, FrM.rf u⟩
      · split <;> exact ⟨_, rfl, FrM.rf u⟩
    · obtain ⟨a1, a2⟩ := ix8m hb (show i < 8 by omega)
      obtain ⟨j', j1, j2⟩ := hj i (by omega)
      obtain ⟨r, er, -⟩ := M_has u (u 0 27) (nI i)
      have h198 : ∀ p5 p7 p10 s0, GoM u (f_X7_secondsOf_198 (f_X7_secondsOf_127 m) u (nI b) (nI c) p5 p7 (nI i) (nI j') p10 s0) := by
        intro p5 p7 p10 s0
        unfold f_X7_secondsOf_198
        rw [if_pos (inb_nI j1 (by decide)), nI_1]
        split
        · exact ih (i + 1) _ _ _ (by omega) (by omega)
        · split <;> exact ih (i + 1) _ _ _ (by omega) (by omega)
      rw [if_neg (nI_ge (show i < zb by omega) (by omega)), if_pos a1, a2, j2, er, Option.bind_some, if_pos (inb_nI j1 (by decide))]
      unfold f_X7_secondsOf_175
      split
      · split <;> exact h198 _ _ _ _
      · split <;> exact h198 _ _ _ _
theorem M_sec19 {u : St} {a za b zb : Nat} (ha : a < 12) (la : LK u a za) (hb : b < 12) (lb : LK u b zb) {c : Nat} (hc : c ≤ 3) : ∀ (m i : Nat) (l5 l6 l7 : Int32), za < i + m → i ≤ za → GoM u (f_X7_secondsOf_19 m u (nI a) (nI b) (nI c) l5 l6 l7 (nI i)) := by
  obtain ⟨hz, h11, hj⟩ := id la
  intro m
  induction m with
  | zero => intro i l5 l6 l7 h1 h2; omega
  | succ m ih =>
    intro i l5 l6 l7 h1 h2
    rw [f_X7_secondsOf_19, if_pos (inb_nI ha (by decide)), nI_clamp (show a < 2 ^ 31 by omega), h11]
    by_cases hi : i = za
    · subst hi
      rw [if_pos (Int32.le_refl _)]
      exact M_sec127 hb lb hc FU 0 _ _ _ (FUz lb.1) (Nat.zero_le _)
    · obtain ⟨a1, a2⟩ := ix8m ha (show i < 8 by omega)
      obtain ⟨j', j1, j2⟩ := hj i (by omega)
      obtain ⟨r, er, -⟩ := M_has u (u 0 26) (nI i)
      have h90 : ∀ p5 p7 p10 s0, GoM u (f_X7_secondsOf_90 (f_X7_secondsOf_19 m) u (nI a) (nI b) (nI c) p5 p7 (nI i) (nI j') p10 s0) := by
        intro p5 p7 p10 s0
        unfold f_X7_secondsOf_90
        rw [if_pos (inb_nI j1 (by decide)), nI_1]
        split
        · exact ih (i + 1) _ _ _ (by omega) (by omega)
        · split <;> exact ih (i + 1) _ _ _ (by omega) (by omega)
      rw [if_neg (nI_ge (show i < za by omega) (by omega)), if_pos a1, a2, j2, er, Option.bind_some, if_pos (inb_nI j1 (by decide))]
      unfold f_X7_secondsOf_67
      split
      · split <;> exact h90 _ _ _ _
      · split <;> exact h90 _ _ _ _
theorem M_sec {u : St} {a za b zb : Nat} (ha : a < 12) (la : LK u a za) (hb : b < 12) (lb : LK u b zb) (x : Int32) {c : Nat} (hc : c ≤ 3) : GoM u (f_X7_secondsOf u (nI a) (nI b) x (nI c)) := by
  obtain ⟨w, e1, e2⟩ := M_tell ha la hb lb x
  unfold f_X7_secondsOf
  rw [e1, Option.bind_some]
  exact GoM.tr e2 (M_sec19 ha (la.fr e2) hb (lb.fr e2) hc FU 0 0 0 0 (FUz la.1) (Nat.zero_le _))
theorem M_best11 {a za b zb : Nat} (ha : a < 12) (hb : b < 12) {c : Nat} (hc : c ≤ 3) : ∀ (m i : Nat) (u : St) (l4 : Int32), LK u a za → LK u b zb → 2 ^ zb < i + m → i ≤ 2 ^ zb → GoM u (f_X7_bestOf_11 m u (nI a) (nI b) (nI c) l4 (nI i)) := by
  intro m
  induction m with
  | zero => intro i u l4 la lb h1 h2; omega
  | succ m ih =>
    intro i u l4 la lb h1 h2
    obtain ⟨hz, h11, hj⟩ := id lb
    have hpw := pw_le hz
    rw [f_X7_bestOf_11, if_pos (inb_nI hb (by decide)), nI_clamp (show b < 2 ^ 31 by omega), h11, pw_nI zb (by omega)]
    by_cases hi : i = 2 ^ zb
    · subst hi
      rw [if_pos (Int32.le_refl _)]
      exact ⟨_, rfl, FrM.rf u⟩
    · obtain ⟨r, er, -⟩ := M_all ha la hb lb (nI i)
      obtain ⟨q, eq, hq⟩ := M_sec ha la hb lb (nI i) hc
      rw [if_neg (nI_ge (show i < 2 ^ zb by omega) (by omega)), er, Option.bind_some, eq, Option.bind_some]
      have h48 : ∀ u', FrM u u' → ∀ s0, GoM u (f_X7_bestOf_48 (f_X7_bestOf_11 m) u' (nI a) (nI b) (nI c) l4 (nI i) s0) := by
        intro u' hf s0
        obtain ⟨c1, ec1⟩ := M_count u' (nI i)
        obtain ⟨c2, ec2⟩ := M_count u' (u' 0 28)
        have hf2 : FrM u (up2 u' 0 28 (nI i)) := hf.tr (FrM.up0 _ (by omega))
        have g1 : ∀ p, GoM u (f_X7_bestOf_11 m u' (nI a) (nI b) (nI c) p (nI (i + 1))) := fun p => GoM.tr hf (ih (i + 1) u' p (la.fr hf) (lb.fr hf) (by omega) (by omega))
        have g2 : ∀ p, GoM u (f_X7_bestOf_11 m (up2 u' 0 28 (nI i)) (nI a) (nI b) (nI c) p (nI (i + 1))) := fun p => GoM.tr hf2 (ih (i + 1) _ p (la.fr hf2) (lb.fr hf2) (by omega) (by omega))
        unfold f_X7_bestOf_48
        rw [nI_1, ec1, Option.bind_some, ec2, Option.bind_some]
        split
        · exact g1 _
        · split
          · exact g2 _
          · split
            · exact g2 _
            · split
              · split
                · exact g1 _
                · exact g2 _
              · exact g1 _
      split
      · exact h48 u (FrM.rf u) _
      · exact h48 q.2 hq _
theorem M_best {u : St} (h : HM u) {a b : Nat} (ha : a < 12) (hb : b < 12) {c : Nat} (hc : c ≤ 3) : GoM u (f_X7_bestOf u (nI a) (nI b) (nI c)) := by
  obtain ⟨za, la⟩ := h.2 a ha
  obtain ⟨zb, lb⟩ := h.2 b hb
  have f1 : FrM u (up2 u 0 28 0) := FrM.up0 _ (by omega)
  have hpw := pw_le lb.1
  exact GoM.tr f1 (M_best11 ha hb hc FU 0 _ (-1) (la.fr f1) (lb.fr f1) (by have := FU_ge (z := 2 ^ zb) (by omega); omega) (Nat.zero_le _))
theorem M_chg {u : St} (h : HM u) (a b x : Int32) : f_X7_isChange u a b x = some 0 ∨ (f_X7_isChange u a b x = some 1 ∧ ∃ i j, i < 12 ∧ j < 12 ∧ a = nI i ∧ b = nI j) := by
  unfold f_X7_isChange
  rw [e_isLook, e_isLook]
  cases ha : win a 0 11
  · left; simp
  cases hb : win b 0 11
  · left; simp
  obtain ⟨i, hi, rfl⟩ := (win_nI (n := 11) (by decide) 11 rfl).mp ha
  obtain ⟨j, hj, rfl⟩ := (win_nI (n := 11) (by decide) 11 rfl).mp hb
  rw [Option.bind_some, if_neg (by simp), Option.bind_some, if_neg (by simp), if_pos (inb_nI (show j < 12 by omega) (by decide))]
  split
  · exact Or.inl rfl
  · split
    · exact Or.inl rfl
    · exact Or.inr ⟨rfl, i, j, by omega, by omega, rfl, rfl⟩
theorem gm_allowed {u : St} (h : HM u) (a b x : Int32) : GoM u (f_X7_allowed u a b x) := by
  unfold f_X7_allowed
  rcases M_chg h a b x with e | ⟨e, i, j, hi, hj, rfl, rfl⟩
  · exact GoM.fin u (FrM.rf u) 1 (v := -1000001) (by simp [e, e_m1])
  · obtain ⟨za, la⟩ := h.2 i hi
    obtain ⟨zb, lb⟩ := h.2 j hj
    obtain ⟨r, er, -⟩ := M_all hi la hj lb x
    rw [e, Option.bind_some, if_neg (by decide), er, Option.bind_some]
    split <;> exact ⟨_, rfl, FrM.rf u⟩
theorem gm_told {u : St} (h : HM u) (a b x w : Int32) : GoM u (f_X7_told u a b x w) := by
  unfold f_X7_told
  rcases M_chg h a b x with e | ⟨e, i, j, hi, hj, rfl, rfl⟩
  · exact GoM.fin u (FrM.rf u) 1 (v := -1000001) (by simp [e, e_m1])
  · obtain ⟨za, la⟩ := h.2 i hi
    obtain ⟨zb, lb⟩ := h.2 j hj
    obtain ⟨r, er, -⟩ := M_all hi la hj lb x
    obtain ⟨u', e1, e2⟩ := M_tell hi la hj lb x
    obtain ⟨c1, ec1⟩ := M_count u' (u' 0 26)
    obtain ⟨c2, ec2⟩ := M_count u' (u' 0 27)
    rw [e, Option.bind_some, if_neg (by decide), e_isIn]
    cases hw : win w 0 3
    · exact GoM.fin u (FrM.rf u) 1 (v := -1000001) (by simp [e_m1])
    rw [Option.bind_some, if_neg (by simp), er, Option.bind_some, e1, Option.bind_some, ec1, Option.bind_some, ec2, Option.bind_some]
    split
    · exact GoM.fin u (FrM.rf u) 3 (v := -1000003) (by simp [e_m3])
    · split
      · exact ⟨_, rfl, e2⟩
      · split
        · exact ⟨_, rfl, e2⟩
        · split <;> exact ⟨_, rfl, e2⟩
theorem gm_seconds {u : St} (h : HM u) (a b x w : Int32) : GoM u (f_X7_seconds u a b x w) := by
  unfold f_X7_seconds
  rcases M_chg h a b x with e | ⟨e, i, j, hi, hj, rfl, rfl⟩
  · exact GoM.fin u (FrM.rf u) 1 (v := -1000001) (by simp [e, e_m1])
  · obtain ⟨za, la⟩ := h.2 i hi
    obtain ⟨zb, lb⟩ := h.2 j hj
    obtain ⟨r, er, -⟩ := M_all hi la hj lb x
    rw [e, Option.bind_some, if_neg (by decide), e_isIn]
    cases hw : win w 0 3
    · exact GoM.fin u (FrM.rf u) 1 (v := -1000001) (by simp [e_m1])
    obtain ⟨c, hc, rfl⟩ := (win_nI (n := 3) (by decide) 3 rfl).mp hw
    obtain ⟨q, e1, e2⟩ := M_sec hi la hj lb x hc
    rw [Option.bind_some, if_neg (by simp), er, Option.bind_some, e1, Option.bind_some]
    split
    · exact GoM.fin u (FrM.rf u) 3 (v := -1000003) (by simp [e_m3])
    · split
      · exact ⟨_, rfl, e2⟩
      · exact GoM.fin u e2 2 (v := -1000002) (by simp [e_m2])
theorem gm_best {u : St} (h : HM u) (a b x w : Int32) : GoM u (f_X7_best u a b x w) := by
  unfold f_X7_best
  rw [e_isLook, e_isLook, e_isIn, e_isIn]
  cases ha : win a 0 11
  · exact GoM.fin u (FrM.rf u) 1 (v := -1000001) (by simp [e_m1])
  cases hb : win b 0 11
  · exact GoM.fin u (FrM.rf u) 1 (v := -1000001) (by simp [e_m1])
  cases hx : win x 0 3
  · exact GoM.fin u (FrM.rf u) 1 (v := -1000001) (by simp [e_m1])
  cases hw : win w 0 1
  · exact GoM.fin u (FrM.rf u) 1 (v := -1000001) (by simp [e_m1])
  obtain ⟨i, hi, rfl⟩ := (win_nI (n := 11) (by decide) 11 rfl).mp ha
  obtain ⟨j, hj, rfl⟩ := (win_nI (n := 11) (by decide) 11 rfl).mp hb
  obtain ⟨c, hc, rfl⟩ := (win_nI (n := 3) (by decide) 3 rfl).mp hx
  obtain ⟨q, e1, e2⟩ := M_best h (show i < 12 by omega) (show j < 12 by omega) hc
  rw [Option.bind_some, if_neg (by simp), Option.bind_some, if_neg (by simp), Option.bind_some, if_neg (by simp), Option.bind_some, if_neg (by simp), e1, Option.bind_some]
  split
  · split <;> exact ⟨_, rfl, e2⟩
  · exact GoM.fin u e2 2 (v := -1000002) (by simp [e_m2])
/-- the shifts as they stand -/
def HN (u : St) : Prop := ∃ k, k ≤ 12 ∧ u 0 14 = nI k ∧ ∀ s, s < k → (∃ a, a < 12 ∧ u 13 s = nI a) ∧ (∃ a, a < 12 ∧ u 14 s = nI a) ∧ (∃ a, a < 6 ∧ u 15 s = nI a) ∧ ∃ a, a ≤ 3 ∧ u 18 s = nI a
theorem R.hn {ux um : St} (h : R ux um) : HN um := by
  obtain ⟨-, -, ⟨k, hk, s1, s2, hs⟩, -⟩ := h
  refine ⟨k, hk, s2, fun s h' => ?_⟩
  obtain ⟨a1, a2, a3, a4, a5, a6, a7, a8, a9, a10⟩ := hs s h'
  exact ⟨a7, a8, a9, a10⟩
theorem HN.fr {u u' : St} (h : HN u) (hf : FrM u u') : HN u' := by
  unfold HN
  rw [hf.2 14 (by omega), hf.1 13 (by omega) (by omega), hf.1 14 (by omega) (by omega), hf.1 15 (by omega) (by omega), hf.1 18 (by omega) (by omega)]
  exact h
theorem gm_fits {u : St} (h : HM u) (hs : HN u) (s : Int32) : GoM u (f_X7_fits u s) := by
  obtain ⟨k, hk, h14, hsh⟩ := hs
  unfold f_X7_fits
  rw [h14]
  by_cases h1 : s < 0
  · exact GoM.fin u (FrM.rf u) 1 (v := -1000001) (by simp [h1, e_m1])
  obtain ⟨i, hi, rfl⟩ := nI_of h1
  by_cases h2 : nI i < nI k
  · have hik : i < k := Nat.not_le.mp fun q => absurd h2 (i_nlt.mpr (nI_le q hi))
    obtain ⟨⟨a, ha, ea⟩, ⟨b, hb, eb⟩, -, ⟨c, hc, ec⟩⟩ := hsh i hik
    obtain ⟨q, e1, e2⟩ := M_best h ha hb hc
    rw [if_neg h1, if_pos h2, if_pos (inb_nI (show i < 12 by omega) (by decide)), nI_clamp (show i < 2 ^ 31 by omega), ea, eb, ec, e1, Option.bind_some]
    split
    · exact ⟨_, rfl, e2⟩
    · split <;> exact ⟨_, rfl, e2⟩
  · exact GoM.fin u (FrM.rf u) 1 (v := -1000001) (by simp [h1, h2, e_m1])
