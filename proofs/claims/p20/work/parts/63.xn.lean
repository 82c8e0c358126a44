/-! ===== the class runs: tonight, and what is told ===== -/
theorem T_away {u : St} (h : HX u) (p v : Int32) : ∃ r, f_X5_sizesAway u p v = some r := by
  obtain ⟨a, ea⟩ : ∃ r, f_X5_fact u p 6 = some r := T_fact h p (k := 6) (by decide)
  obtain ⟨b, eb⟩ : ∃ r, f_X5_fact u p 7 = some r := T_fact h p (k := 7) (by decide)
  unfold f_X5_sizesAway
  rw [ea, Option.bind_some, eb, Option.bind_some]
  exact ⟨_, rfl⟩
theorem T_alike {u : St} (h : HX u) (p q : Int32) : ∃ r, f_X5_areAlike u p q = some r := by
  obtain ⟨a, ea⟩ := T_one h p q
  obtain ⟨b, eb⟩ : ∃ r, f_X5_fact u p 5 = some r := T_fact h p (k := 5) (by decide)
  obtain ⟨c, ec⟩ : ∃ r, f_X5_fact u q 5 = some r := T_fact h q (k := 5) (by decide)
  unfold f_X5_areAlike
  rw [ea, Option.bind_some]
  split
  · exact ⟨0, rfl⟩
  · rw [eb, Option.bind_some, ec, Option.bind_some]
    split
    · exact ⟨1, rfl⟩
    · exact ⟨0, rfl⟩
theorem T_swap0 {u : St} (h : HX u) {l z : Nat} (hl : l < 12) (hz : z ≤ 8) (l2 l3 l4 l5 : Int32) : ∀ (m i : Nat) (acc : Int32), z < i + m → i ≤ z → ∃ r, f_X6_countAheadForSwap_39 u m (nI l) l2 l3 l4 l5 acc (nI z) (nI i) = some r := by
  intro m
  induction m with
  | zero => intro i acc h1 h2; omega
  | succ m ih =>
    intro i acc h1 h2
    rw [f_X6_countAheadForSwap_39]
    by_cases hi : i = z
    · subst hi; exact ⟨acc, if_pos (Int32.le_refl _)⟩
    · obtain ⟨a, ea⟩ := T_at h hl (nI i)
      obtain ⟨b, eb⟩ := T_away h a l3
      obtain ⟨c, ec⟩ := T_alike h l4 a
      rw [if_neg (nI_ge (show i < z by omega) (by omega)), ea, Option.bind_some, eb, Option.bind_some, ec, Option.bind_some, nI_1]
      have hr := fun acc => ih (i + 1) acc (by omega) (by omega)
      split
      · exact hr _
      · split
        · exact hr _
        · split
          · split
            · exact hr _
            · exact hr _
          · exact hr _
theorem T_swap {u : St} (h : HX u) {l : Nat} (hl : l < 12) (x y : Int32) : ∃ r, f_X6_countAheadForSwap u (nI l) x y = some r := by
  obtain ⟨z, z1, z2⟩ := h.2 l hl
  obtain ⟨a, ea⟩ := T_at h hl x
  obtain ⟨b, eb⟩ := T_away h a y
  unfold f_X6_countAheadForSwap
  rw [ea, Option.bind_some, eb, Option.bind_some, e_sizeOf u hl, Option.bind_some, z2]
  exact T_swap0 h hl z1 _ _ _ _ FU 0 0 (by have := FU_ge (z := z) (by omega); omega) (Nat.zero_le _)
theorem le32 {i : Nat} (h : ¬ (32 : Int32) ≤ nI i) (hi : i < 2 ^ 31) : i < 32 := Nat.not_le.mp fun q => h (nI_le (a := 32) q hi)
theorem FU32 : 32 < 0 + FU := by have := FU_ge (z := 32) (by omega); omega
theorem T_none (u : St) (x : Int32) : ∃ r, f_X2_isInNone u x = some r := by
  unfold f_X2_isInNone
  rw [e_isWithin]
  cases hx : win x 0 31
  · exact ⟨0, by simp⟩
  obtain ⟨i, hi, rfl⟩ := (win_nI (n := 31) (by decide) 31 rfl).mp hx
  rw [Option.bind_some, if_neg (by simp), if_pos (inb_nI (show i < 32 by omega) (by decide))]
  split
  · exact ⟨1, rfl⟩
  · exact ⟨0, rfl⟩
theorem T_spare0 {u : St} (h : HX u) (x y : Int32) : ∀ (m i : Nat) (acc : Int32), 32 < i + m → i ≤ 32 → ∃ r, f_X6_countSpares_5 u m x y acc (nI i) = some r := by
  intro m
  induction m with
  | zero => intro i acc h1 h2; omega
  | succ m ih =>
    intro i acc h1 h2
    rw [f_X6_countSpares_5]
    split
    · exact ⟨_, rfl⟩
    · rename_i c
      have hi := le32 c (by omega)
      obtain ⟨b, eb⟩ := T_alike h x (nI i)
      obtain ⟨d, ed⟩ := T_away h (nI i) y
      obtain ⟨e, ee⟩ : ∃ r, f_X5_fact u (nI i) 8 = some r := T_fact h (nI i) (k := 8) (by decide)
      obtain ⟨g, eg⟩ := T_none u (nI i)
      have hr := fun acc => ih (i + 1) acc (by omega) (by omega)
      rw [e_has, Option.bind_some, eb, ed, ee, eg, nI_1]
      generalize (if hasP u (nI i) = true then (1 : Int32) else 0) = hv
      simp only [Option.bind_some]
      split
      · exact hr _
      · split
        · exact hr _
        · split
          · split
            · split
              · exact hr _
              · exact hr _
            · exact hr _
          · exact hr _
theorem T_cost {u : St} (h : HX u) {l : Nat} (hl : l < 12) (x y : Int32) : ∃ r, f_X6_costTonight u (nI l) x y = some r := by
  obtain ⟨a, ea⟩ := T_at h hl x
  obtain ⟨b, eb⟩ := T_away h a y
  obtain ⟨c, ec⟩ := T_swap h hl x y
  obtain ⟨d, ed⟩ : ∃ r, f_X6_countSpares u a y = some r := T_spare0 h a y FU 0 0 FU32 (by omega)
  unfold f_X6_costTonight
  rw [ea, Option.bind_some, eb, Option.bind_some, ec, Option.bind_some, ed, Option.bind_some]
  split
  · exact ⟨_, rfl⟩
  · split
    · exact ⟨_, rfl⟩
    · exact ⟨_, rfl⟩
theorem T_ton0 {u : St} (h : HX u) {l z : Nat} (hl : l < 12) (hz : z ≤ 8) (y : Int32) : ∀ (m i : Nat) (acc : Int32), z < i + m → i ≤ z → ∃ r, f_X6_tonight_43 m u (nI l) y acc (nI z) (nI i) = some (r, u) := by
  intro m
  induction m with
  | zero => intro i acc h1 h2; omega
  | succ m ih =>
    intro i acc h1 h2
    rw [f_X6_tonight_43]
    by_cases hi : i = z
    · subst hi; exact ⟨acc, if_pos (Int32.le_refl _)⟩
    · obtain ⟨a, ea⟩ := T_cost h hl (nI i) y
      rw [if_neg (nI_ge (show i < z by omega) (by omega)), ea, Option.bind_some, nI_1]
      exact ih (i + 1) _ (by omega) (by omega)
theorem gx_tonight {u : St} (h : HX u) (x y : Int32) : GoX u (f_X6_tonight u x y) := by
  unfold f_X6_tonight
  rw [e_X2has]
  cases hx : win x 0 11
  · exact GoX.fin u (FrX.rf u) 1 (v := -1000001) (by simp [e_x1])
  rw [Option.bind_some, if_neg (by simp), e_isWithin]
  cases hy : win y 30 66
  · exact GoX.fin u (FrX.rf u) 1 (v := -1000001) (by simp [e_x1])
  obtain ⟨l, hl, rfl⟩ := (win_nI (n := 11) (by decide) 11 rfl).mp hx
  have hl : l < 12 := by omega
  obtain ⟨z, z1, z2⟩ := h.2 l hl
  rw [Option.bind_some, if_neg (by simp), e_sizeOf u hl, Option.bind_some, z2]
  obtain ⟨r, er⟩ := T_ton0 h hl z1 y FU 0 0 (by have := FU_ge (z := z) (by omega); omega) (Nat.zero_le _)
  exact ⟨_, er, FrX.rf u⟩
theorem T_fill28 (v : Int32) : ∀ (m i : Nat) (u : St), 32 < i + m → i ≤ 32 → ∃ u', f_J7_fill_28_5 m u v (nI i) 32 = some u' ∧ (∀ k, k ≠ 28 → u' k = u k) := by
  intro m
  induction m with
  | zero => intro i u h1 h2; omega
  | succ m ih =>
    intro i u h1 h2
    rw [f_J7_fill_28_5]
    by_cases hi : i = 32
    · subst hi; exact ⟨u, if_pos (show (32 : Int32) ≤ nI 32 by decide), fun _ _ => rfl⟩
    · rw [if_neg (show ¬ (32 : Int32) ≤ nI i from nI_ge (b := 32) (show i < 32 by omega) (by omega)), if_pos (inb_nI (show i < 32 by omega) (by decide)), nI_1]
      obtain ⟨u', e1, e2⟩ := ih (i + 1) (up2 u 28 (nI i).toNatClampNeg v) (by omega) (by omega)
      exact ⟨u', e1, fun k hk => by rw [e2 k hk]; simp [up2, hk]⟩
/-- only the body is written -/
def FrB (u u' : St) : Prop := ∀ k, k ≠ 27 → k ≠ 28 → u' k = u k
theorem FrB.rf (u : St) : FrB u u := fun _ _ _ => rfl
theorem FrB.tr {a b c : St} (h1 : FrB a b) (h2 : FrB b c) : FrB a c := fun k p q => (h2 k p q).trans (h1 k p q)
theorem FrB.fx {a b : St} (h : FrB a b) : FrX a b := fun k hk => h k (by omega) (by omega)
theorem T_undress (u : St) : ∃ u', f_X0_undress u = some u' ∧ FrB u u' := by
  obtain ⟨u1, a1, a2⟩ : ∃ u', f_J7_fill_28 u 0 = some u' ∧ (∀ k, k ≠ 28 → u' k = u k) := T_fill28 0 FU 0 u FU32 (by omega)
  exact ⟨up2 u1 27 2 0, by simp [f_X0_undress, a1], fun k h1 h2 => by rw [up2_n u1 _ _ h1, a2 k h2]⟩
theorem has32 {u : St} {p : Int32} (h : hasP u p = true) : ∃ i, i < 32 ∧ p = nI i := by
  unfold hasP at h
  simp only [Bool.and_eq_true, Bool.not_eq_true', decide_eq_false_iff_not] at h
  obtain ⟨⟨h1, h2⟩, h3⟩ := h
  obtain ⟨i, hi, rfl⟩ := nI_of h1
  exact ⟨i, le32 h3 hi, rfl⟩
theorem T_on (u : St) (p : Int32) : f_X0_hasOn u p = some 0 ∨ (f_X0_hasOn u p = some 1 ∧ ∃ i, i < 32 ∧ p = nI i) := by
  unfold f_X0_hasOn
  rw [e_has]
  cases h : hasP u p
  · left; simp
  obtain ⟨i, hi, rfl⟩ := has32 h
  rw [Option.bind_some, if_neg (by simp)]
  split
  · left; rfl
  · rw [if_pos (inb_nI hi (by decide))]
    split
    · left; rfl
    · right; exact ⟨rfl, i, hi, rfl⟩
theorem T_put (u : St) (p : Int32) : ∃ r u', f_X0_putOn u p = some (r, u') ∧ (r = 0 ∨ r = 1) ∧ FrB u u' := by
  unfold f_X0_putOn
  rw [e_has]
  cases h : hasP u p
  · exact ⟨0, u, by simp, Or.inl rfl, FrB.rf u⟩
  obtain ⟨i, hi, rfl⟩ := has32 h
  rw [Option.bind_some, if_neg (by simp)]
  rcases T_on u (nI i) with e | ⟨e, -⟩
  · rw [e, Option.bind_some, if_pos rfl, if_pos (inb_nI hi (by decide))]
    exact ⟨1, _, rfl, Or.inr rfl, fun k h1 h2 => by simp [up2, h1, h2]⟩
  · rw [e, Option.bind_some, if_neg (by decide)]
    exact ⟨0, u, rfl, Or.inl rfl, FrB.rf u⟩
theorem T_lies {u : St} (h : HX u) (p q : Int32) : ∃ r, f_X0_liesOver u p q = some r := by
  unfold f_X0_liesOver
  rcases T_on u p with e | ⟨e, i, hi, rfl⟩
  · exact ⟨0, by simp [e]⟩
  rcases T_on u q with e2 | ⟨e2, j, hj, rfl⟩
  · exact ⟨0, by simp [e, e2]⟩
  obtain ⟨r, er⟩ := T_one h (nI i) (nI j)
  rw [e, Option.bind_some, if_neg (by decide), e2, Option.bind_some, if_neg (by decide), if_pos (inb_nI hi (by decide)), if_pos (inb_nI hj (by decide)), er, Option.bind_some]
  split
  · exact ⟨0, rfl⟩
  · split
    · exact ⟨0, rfl⟩
    · exact ⟨1, rfl⟩
theorem T_take0 {u : St} (h : HX u) {p : Nat} (hp : p < 32) : ∀ (m i : Nat), 32 < i + m → i ≤ 32 → ∃ r u', f_X0_takeOff_12 m u (nI p) (nI i) = some (r, u') ∧ (r = 0 ∨ r = 1) ∧ FrB u u' := by
  intro m
  induction m with
  | zero => intro i h1 h2; omega
  | succ m ih =>
    intro i h1 h2
    rw [f_X0_takeOff_12]
    split
    · rw [if_pos (inb_nI hp (by decide))]
      exact ⟨1, _, rfl, Or.inr rfl, fun k h1 h2 => by simp [up2, h2]⟩
    · rename_i c
      have hi := le32 c (by omega)
      obtain ⟨r, er⟩ := T_lies h (nI i) (nI p)
      rw [er, Option.bind_some, nI_1]
      split
      · exact ih (i + 1) (by omega) (by omega)
      · exact ⟨0, u, rfl, Or.inl rfl, FrB.rf u⟩
theorem T_take {u : St} (h : HX u) (p : Int32) : ∃ r u', f_X0_takeOff u p = some (r, u') ∧ (r = 0 ∨ r = 1) ∧ FrB u u' := by
  unfold f_X0_takeOff
  rcases T_on u p with e | ⟨e, i, hi, rfl⟩
  · exact ⟨0, u, by simp [e], Or.inl rfl, FrB.rf u⟩
  rw [e, Option.bind_some, if_neg (by decide)]
  exact T_take0 h hi FU 0 FU32 (by omega)
theorem T_hand {u : St} (h : HX u) (v : Int32) : ∃ q, f_X0_handle u v = some q ∧ FrB u q.2 := by
  unfold f_X0_handle
  split
  · obtain ⟨r, u', e1, e2, e3⟩ := T_take h (-1 - v)
    rw [e1, Option.bind_some, if_pos e2]
    exact ⟨_, rfl, e3⟩
  · obtain ⟨r, u', e1, e2, e3⟩ := T_put u v
    rw [e1, Option.bind_some, if_pos e2]
    exact ⟨_, rfl, e3⟩
theorem HX.fb {u u' : St} (h : HX u) (hf : FrB u u') : HX u' := h.fr hf.fx
theorem T_d73 {l z : Nat} (hl : l < 12) (hz : z ≤ 8) : ∀ (m i : Nat) (u : St), HX u → z < i + m → i ≤ z → ∃ u', f_X6_dressForChange_73 m u (nI l) (nI z) (nI i) = some u' ∧ FrB u u' := by
  intro m
  induction m with
  | zero => intro i u h h1 h2; omega
  | succ m ih =>
    intro i u h h1 h2
    rw [f_X6_dressForChange_73]
    by_cases hi : i = z
    · subst hi; exact ⟨u, if_pos (Int32.le_refl _), FrB.rf u⟩
    · obtain ⟨a, ea⟩ := T_at h hl (nI i)
      obtain ⟨r, u1, e1, -, e3⟩ := T_put u a
      rw [if_neg (nI_ge (show i < z by omega) (by omega)), ea, Option.bind_some, e1, Option.bind_some, nI_1]
      obtain ⟨u2, g1, g2⟩ := ih (i + 1) u1 (h.fb e3) (by omega) (by omega)
      exact ⟨u2, g1, e3.tr g2⟩
theorem T_d30 {a b za zb : Nat} (ha : a < 12) (hb : b < 12) (hza : za ≤ 8) (hzb : zb ≤ 8) (x : Int32) : ∀ (m i : Nat) (u : St), HX u → zb < i + m → i ≤ zb → ∃ u', f_X6_dressForChange_30 m u (nI a) (nI b) x (nI za) (nI zb) (nI i) = some u' ∧ FrB u u' := by
  intro m
  induction m with
  | zero => intro i u h h1 h2; omega
  | succ m ih =>
    intro i u h h1 h2
    rw [f_X6_dressForChange_30]
    by_cases hi : i = zb
    · subst hi
      rw [if_pos (Int32.le_refl _)]
      exact T_d73 ha hza FU 0 u h (by have := FU_ge (z := za) (by omega); omega) (Nat.zero_le _)
    · obtain ⟨b1, eb1⟩ := T_bit u x (nI i)
      obtain ⟨a1, ea1⟩ := T_at h hb (nI i)
      obtain ⟨r, u1, e1, -, e3⟩ := T_put u a1
      rw [if_neg (nI_ge (show i < zb by omega) (by omega)), eb1, Option.bind_some, nI_1]
      split
      · exact ih (i + 1) u h (by omega) (by omega)
      · rw [ea1, Option.bind_some, e1, Option.bind_some]
        obtain ⟨u2, g1, g2⟩ := ih (i + 1) u1 (h.fb e3) (by omega) (by omega)
        exact ⟨u2, g1, e3.tr g2⟩
theorem T_dress {u : St} (h : HX u) {a b : Nat} (ha : a < 12) (hb : b < 12) (x : Int32) : ∃ u', f_X6_dressForChange u (nI a) (nI b) x = some u' ∧ FrB u u' := by
  obtain ⟨za, a1, a2⟩ := h.2 a ha
  obtain ⟨zb, b1, b2⟩ := h.2 b hb
  obtain ⟨u1, c1, c2⟩ := T_undress u
  unfold f_X6_dressForChange
  rw [e_sizeOf u ha, Option.bind_some, e_sizeOf u hb, Option.bind_some, c1, Option.bind_some, a2, b2]
  obtain ⟨u2, d1, d2⟩ := T_d30 ha hb a1 b1 x FU 0 u1 (h.fb c2) (by have := FU_ge (z := zb) (by omega); omega) (Nat.zero_le _)
  exact ⟨u2, d1, c2.tr d2⟩
theorem T_cw0 (u : St) : ∀ (m i : Nat) (acc : Int32), 32 < i + m → i ≤ 32 → ∃ r, f_X0_countWorn_4 u m acc (nI i) = some r := by
  intro m
  induction m with
  | zero => intro i acc h1 h2; omega
  | succ m ih =>
    intro i acc h1 h2
    rw [f_X0_countWorn_4]
    split
    · exact ⟨_, rfl⟩
    · rename_i c
      have hi := le32 c (by omega)
      rw [if_pos (inb_nI hi (by decide)), nI_1]
      split <;> exact ih (i + 1) _ (by omega) (by omega)
theorem T_j57 {u : St} (h : HX u) {l z j : Nat} (hl : l < 12) (hj : j < 8) (x : Int32) (k24 : Int32 → Int32 → Int32 → Option Int32) (hk : ∃ r, k24 (nI l) (nI z) (nI j + 1) = some r) : ∀ (m i : Nat), j < i + m → i ≤ j → ∃ r, f_X6_isJustWorn_57 k24 u m (nI l) (nI z) (nI j) x (nI i) = some r := by
  intro m
  induction m with
  | zero => intro i h1 h2; omega
  | succ m ih =>
    intro i h1 h2
    rw [f_X6_isJustWorn_57]
    by_cases hi : i = j
    · subst hi; rw [if_pos (Int32.le_refl _)]; exact hk
    · obtain ⟨a, ea⟩ := T_at h hl (nI i)
      obtain ⟨b, eb⟩ := T_lies h a x
      rw [if_neg (nI_ge (show i < j by omega) (by omega)), ea, Option.bind_some, eb, Option.bind_some, nI_1]
      split
      · exact ih (i + 1) (by omega) (by omega)
      · exact ⟨0, rfl⟩
theorem T_j24 {u : St} (h : HX u) {l z : Nat} (hl : l < 12) (hz : z ≤ 8) : ∀ (m i : Nat), z < i + m → i ≤ z → ∃ r, f_X6_isJustWorn_24 u m (nI l) (nI z) (nI i) = some r := by
  intro m
  induction m with
  | zero => intro i h1 h2; omega
  | succ m ih =>
    intro i h1 h2
    rw [f_X6_isJustWorn_24]
    by_cases hi : i = z
    · subst hi; exact ⟨1, if_pos (Int32.le_refl _)⟩
    · obtain ⟨a, ea⟩ := T_at h hl (nI i)
      rw [if_neg (nI_ge (show i < z by omega) (by omega)), ea, Option.bind_some]
      rcases T_on u a with e | ⟨e, -⟩
      · rw [e, Option.bind_some, if_pos rfl]; exact ⟨0, rfl⟩
      · rw [e, Option.bind_some, if_neg (by decide)]
        exact T_j57 h hl (show i < 8 by omega) a _ (by rw [nI_1]; exact ih (i + 1) (by omega) (by omega)) FU 0 (by have := FU_ge (z := i) (by omega); omega) (Nat.zero_le _)
theorem T_just {u : St} (h : HX u) {l : Nat} (hl : l < 12) : ∃ r, f_X6_isJustWorn u (nI l) = some r := by
  obtain ⟨z, z1, z2⟩ := h.2 l hl
  obtain ⟨c, ec⟩ : ∃ r, f_X0_countWorn u = some r := T_cw0 u FU 0 0 FU32 (by omega)
  unfold f_X6_isJustWorn
  rw [e_sizeOf u hl, Option.bind_some, ec, Option.bind_some, z2]
  split
  · exact T_j24 h hl z1 FU 0 (by have := FU_ge (z := z) (by omega); omega) (Nat.zero_le _)
  · exact ⟨0, rfl⟩
theorem T_c53 {l : Nat} (hl : l < 12) (w : Int32) : ∀ (m i : Nat) (u : St), HX u → 30 < i + m → i ≤ 30 → ∃ q, f_X6_check_53 m u (nI l) w (nI i) = some q ∧ FrB u q.2 := by
  intro m
  induction m with
  | zero => intro i u h h1 h2; omega
  | succ m ih =>
    intro i u h h1 h2
    have h95 : ∃ q, f_X6_check_95 u (nI l) = some q ∧ FrB u q.2 := by
      obtain ⟨r, er⟩ := T_just h hl
      unfold f_X6_check_95
      rw [er, Option.bind_some]
      split
      · exact ⟨_, rfl, FrB.rf u⟩
      · exact ⟨_, rfl, FrB.rf u⟩
    rw [f_X6_check_53]
    split
    · exact h95
    · split
      · exact h95
      · rename_i c
        have hi : i < 30 := Nat.not_le.mp fun q => c (nI_le (a := 30) q (by omega))
        obtain ⟨q, e1, e2⟩ := T_hand h (u 29 (nI i).toNatClampNeg)
        rw [if_pos (inb_nI hi (by decide)), e1, Option.bind_some, nI_1]
        split
        · exact ⟨_, rfl, e2⟩
        · obtain ⟨q2, g1, g2⟩ := ih (i + 1) q.2 (h.fb e2) (by omega) (by omega)
          exact ⟨q2, g1, e2.tr g2⟩
/-- check(): the waiting numbers stay or are gone; nothing else that lasts is written -/
theorem gx_check {u : St} (h : HX u) (a b x : Int32) : ∃ q, f_X6_check u a b x = some q ∧ (FrX u q.2 ∨ FrX (up2 u 0 8 0) q.2) := by
  unfold f_X6_check
  rcases T_chg u h a b x with e | ⟨e, i, j, hi, hj, rfl, rfl⟩
  · exact ⟨(-1000001, XF 1 u), by simp [e, e_x1], Or.inl (FrX.XF 1 u)⟩
  · have h' : HX (up2 u 0 8 0) := by unfold HX at h ⊢; simpa [up2] using h
    obtain ⟨r, u', za, zb, e1, e2, e3⟩ := T_isAllowed h' hi hj x
    rw [e, Option.bind_some, if_neg (by decide), e1, Option.bind_some]
    split
    · exact ⟨(-1000003, XF 3 u'), by simp [e_x3], Or.inr (e2.tr (FrX.XF 3 u'))⟩
    · obtain ⟨u1, a1, a2⟩ := T_dress (h'.fr e2) hi hj x
      rw [a1, Option.bind_some]
      obtain ⟨q, b1, b2⟩ := T_c53 hj (u 0 8) FU 0 u1 ((h'.fr e2).fb a2) (by have := FU_ge (z := 30) (by omega); omega) (by omega)
      exact ⟨q, b1, Or.inr ((e2.tr a2.fx).tr b2.fx)⟩
