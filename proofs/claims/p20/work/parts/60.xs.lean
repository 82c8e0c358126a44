/-! ===== the class runs: changes ===== -/
def HX (u : St) : Prop := (∃ n, n ≤ 32 ∧ u 1 1 = nI n) ∧ ∀ l, l < 12 → ∃ z, z ≤ 8 ∧ u 5 l = nI z
theorem HX.fr {u u' : St} (h : HX u) (hf : FrX u u') : HX u' := by
  unfold HX
  rw [hf 1 (by omega), hf 5 (by omega)]
  exact h
theorem R.hx {ux um : St} (h : R ux um) : HX ux := by
  obtain ⟨⟨n, hn, hx, -⟩, hL, -⟩ := h
  refine ⟨⟨n, hn, hx⟩, fun l hl => ?_⟩
  obtain ⟨z, z1, z2, -⟩ := hL l hl
  exact ⟨z, z1, z2⟩
theorem T_fact {u : St} (h : HX u) (p : Int32) {k : Nat} (hk : k < 10) : ∃ r, f_X5_fact u p (nI k) = some r := by
  obtain ⟨⟨n, hn, hx⟩, -⟩ := h
  exact ⟨_, t_fact hn hx p hk⟩
theorem T_at {u : St} (h : HX u) {l : Nat} (hl : l < 12) (i : Int32) : ∃ r, f_X2_at u (nI l) i = some r := by
  obtain ⟨z, z1, z2⟩ := h.2 l hl
  by_cases q : ∃ j, j < z ∧ i = nI j
  · obtain ⟨j, hj, rfl⟩ := q
    exact ⟨_, e_at u hl z1 z2 hj⟩
  · exact ⟨_, e_atN u hl z1 z2 (fun j hj e => q ⟨j, hj, e⟩)⟩
theorem T_one {u : St} (h : HX u) (p q : Int32) : ∃ r, f_X5_haveOnePlace u p q = some r := by
  obtain ⟨a, ea⟩ : ∃ r, f_X5_fact u p 1 = some r := T_fact h p (k := 1) (by decide)
  obtain ⟨b, eb⟩ : ∃ r, f_X5_fact u q 1 = some r := T_fact h q (k := 1) (by decide)
  unfold f_X5_haveOnePlace
  rw [ea, Option.bind_some, eb, Option.bind_some]
  by_cases c : a = b
  · exact ⟨1, if_pos c⟩
  · exact ⟨0, if_neg c⟩
def okI (r : Int32) : Prop := r = -1 ∨ ∃ i, i < 8 ∧ r = nI i
theorem T_idx {u : St} (h : HX u) {l : Nat} (hl : l < 12) (p : Int32) : ∃ r, f_X2_indexOf u (nI l) p = some r ∧ okI r := by
  obtain ⟨z, z1, z2⟩ := h.2 l hl
  obtain ⟨r, e, hr⟩ := e_indexOf u hl z1 z2 p
  refine ⟨r, e, ?_⟩
  rcases hr with ⟨q, -⟩ | ⟨i, hi, q, -⟩
  · exact Or.inl q
  · exact Or.inr ⟨i, by omega, q⟩
theorem T_bit (u : St) (a b : Int32) : ∃ r, f_X6_hasBit u a b = some r := by
  unfold f_X6_hasBit
  by_cases c : (jushr a b &&& 1) = 0
  · exact ⟨0, if_pos c⟩
  · exact ⟨1, if_neg c⟩
theorem T_wigs {u : St} (h : HX u) {l : Nat} (hl : l < 12) {z : Nat} (hz : z ≤ 8) : ∀ (m i : Nat) (acc : Int32), z < i + m → i ≤ z → ∃ r, f_X1_wigsOf_14 u m (nI l) acc (nI z) (nI i) = some r := by
  intro m
  induction m with
  | zero => intro i acc h1 h2; omega
  | succ m ih =>
    intro i acc h1 h2
    rw [f_X1_wigsOf_14]
    by_cases hi : i = z
    · subst hi; exact ⟨acc, if_pos (Int32.le_refl _)⟩
    · rw [if_neg (nI_ge (show i < z by omega) (by omega))]
      obtain ⟨a, ea⟩ := T_at h hl (nI i)
      obtain ⟨b, eb⟩ : ∃ r, f_X5_fact u a 0 = some r := T_fact h a (k := 0) (by decide)
      rw [ea, Option.bind_some, eb, Option.bind_some, nI_1]
      by_cases c : b = 1
      · rw [if_pos c]; exact ih (i + 1) _ (by omega) (by omega)
      · rw [if_neg c]; exact ih (i + 1) _ (by omega) (by omega)
theorem T_wigsOf {u : St} (h : HX u) {l : Nat} (hl : l < 12) : ∃ r, f_X1_wigsOf u (nI l) = some r := by
  obtain ⟨z, z1, z2⟩ := h.2 l hl
  unfold f_X1_wigsOf
  rw [e_sizeOf u hl, Option.bind_some, z2]
  exact T_wigs h hl z1 FU 0 0 (by have := FU_ge (z := z) (by omega); omega) (Nat.zero_le _)
theorem T_ahead0 {u : St} (h : HX u) {l : Nat} (hl : l < 12) {z : Nat} (hz : z ≤ 8) (p : Int32) : ∀ (m i : Nat) (acc : Int32), z < i + m → i ≤ z → ∃ r, f_X1_aheadAtPlace_16 u m (nI l) (nI z) p acc (nI i) = some r := by
  intro m
  induction m with
  | zero => intro i acc h1 h2; omega
  | succ m ih =>
    intro i acc h1 h2
    rw [f_X1_aheadAtPlace_16]
    by_cases hi : i = z
    · subst hi; exact ⟨acc, if_pos (Int32.le_refl _)⟩
    · rw [if_neg (nI_ge (show i < z by omega) (by omega))]
      obtain ⟨a, ea⟩ := T_at h hl (nI i)
      obtain ⟨b, eb⟩ := T_one h a p
      rw [ea, Option.bind_some, eb, Option.bind_some, nI_1]
      by_cases c : b = 0
      · rw [if_pos c]; exact ih (i + 1) _ (by omega) (by omega)
      · rw [if_neg c]; exact ih (i + 1) _ (by omega) (by omega)
theorem T_ahead {u : St} (h : HX u) {l : Nat} (hl : l < 12) {z : Nat} (hz : z ≤ 8) : ∃ r, f_X1_aheadAtPlace u (nI l) (nI z) = some r := by
  unfold f_X1_aheadAtPlace
  obtain ⟨a, ea⟩ := T_at h hl (nI z)
  rw [ea, Option.bind_some]
  exact T_ahead0 h hl hz a FU 0 0 (by have := FU_ge (z := z) (by omega); omega) (Nat.zero_le _)
theorem T_thick0 {u : St} (h : HX u) {l : Nat} (hl : l < 12) {z : Nat} (hz : z ≤ 8) (p : Int32) : ∀ (m i : Nat) (acc : Int32), z < i + m → i ≤ z → ∃ r, f_X1_thickBefore_6 u m (nI l) (nI z) p acc (nI i) = some r := by
  intro m
  induction m with
  | zero => intro i acc h1 h2; omega
  | succ m ih =>
    intro i acc h1 h2
    rw [f_X1_thickBefore_6]
    by_cases hi : i = z
    · subst hi; exact ⟨acc, if_pos (Int32.le_refl _)⟩
    · rw [if_neg (nI_ge (show i < z by omega) (by omega))]
      obtain ⟨a, ea⟩ := T_at h hl (nI i)
      obtain ⟨b, eb⟩ := T_one h a p
      obtain ⟨c2, ec⟩ : ∃ r, f_X5_fact u a 2 = some r := T_fact h a (k := 2) (by decide)
      rw [ea, Option.bind_some, eb, Option.bind_some, nI_1]
      by_cases c : b = 0
      · rw [if_pos c]; exact ih (i + 1) _ (by omega) (by omega)
      · rw [if_neg c, ec, Option.bind_some]; exact ih (i + 1) _ (by omega) (by omega)
theorem T_thick {u : St} (h : HX u) {l : Nat} (hl : l < 12) {z : Nat} (hz : z ≤ 8) (p : Int32) : ∃ r, f_X1_thickBefore u (nI l) (nI z) p = some r := T_thick0 h hl hz p FU 0 0 (by have := FU_ge (z := z) (by omega); omega) (Nat.zero_le _)
theorem T_under0 (u : St) {z : Nat} (hz : z < 8) : ∀ (m i : Nat), z < i + m → i ≤ z → ∃ r, f_X1_isWantedUnder_2 u m (nI z) (nI i) = some r := by
  intro m
  induction m with
  | zero => intro i h1 h2; omega
  | succ m ih =>
    intro i h1 h2
    rw [f_X1_isWantedUnder_2]
    by_cases hi : i = z
    · subst hi; exact ⟨0, if_pos (Int32.le_refl _)⟩
    · rw [if_neg (nI_ge (show i < z by omega) (by omega)), if_pos (inb_nI hz (by decide)), if_pos (inb_nI (show i < 8 by omega) (by decide))]
      obtain ⟨b, eb⟩ := T_bit u (u 10 (nI z).toNatClampNeg) (nI i)
      rw [eb, Option.bind_some, nI_1]
      obtain ⟨r, er⟩ := ih (i + 1) (by omega) (by omega)
      by_cases c : b = 0
      · rw [if_pos c]; exact ⟨r, er⟩
      · rw [if_neg c]
        by_cases d : u 8 (nI i).toNatClampNeg ≤ u 8 (nI z).toNatClampNeg
        · rw [if_pos d]; exact ⟨r, er⟩
        · rw [if_neg d]; exact ⟨1, rfl⟩
theorem T_under (u : St) {z : Nat} (hz : z < 8) : ∃ r, f_X1_isWantedUnder u (nI z) = some r := T_under0 u hz FU 0 (by have := FU_ge (z := z) (by omega); omega) (Nat.zero_le _)
theorem T_worn {u : St} (h : HX u) {a b i : Nat} (ha : a < 12) (hb : b < 12) (hi : i < 8) : ∃ u', f_X1_prepareWorn u (nI a) (nI b) (nI i) = some u' ∧ (∀ k, k ≠ 7 → k ≠ 8 → k ≠ 10 → k ≠ 13 → u' k = u k) ∧ (∀ j, j ≠ 6 → u' 7 j = u 7 j) ∧ (∀ j, j ≠ i → u' 8 j = u 8 j) ∧ okI (u' 8 i) := by
  unfold f_X1_prepareWorn
  obtain ⟨p, ep⟩ := T_at h ha (nI i)
  obtain ⟨q, eq⟩ : ∃ r, f_X5_fact u p 4 = some r := T_fact h p (k := 4) (by decide)
  rw [ep, Option.bind_some, eq, Option.bind_some, if_pos (inb_nI hi (by decide)), nI_clamp (by omega)]
  have h1 : HX (up2 u 13 i q) := h.fr (FrX.up _ _ (by omega))
  obtain ⟨x, ex, hx⟩ := T_idx h1 hb p
  rw [ex, Option.bind_some]
  have h2 : HX (up2 (up2 u 13 i q) 8 i x) := h1.fr (FrX.up _ _ (by omega))
  obtain ⟨y, ey⟩ := T_ahead h2 ha (show i ≤ 8 by omega)
  rw [ey, Option.bind_some]
  have base : (∀ k, k ≠ 7 → k ≠ 8 → k ≠ 10 → k ≠ 13 → (up2 (up2 (up2 u 13 i q) 8 i x) 10 i y) k = u k) ∧ (∀ j, j ≠ 6 → (up2 (up2 (up2 u 13 i q) 8 i x) 10 i y) 7 j = u 7 j) ∧ (∀ j, j ≠ i → (up2 (up2 (up2 u 13 i q) 8 i x) 10 i y) 8 j = u 8 j) ∧ okI ((up2 (up2 (up2 u 13 i q) 8 i x) 10 i y) 8 i) := by
    refine ⟨fun k h1 h2 h3 h4 => by simp [up2, h2, h3, h4], fun j hj => by simp [up2], fun j hj => by simp [up2, upd, hj], by simpa [up2, upd] using hx⟩
  have b72 : ∃ u', f_X1_prepareWorn_72 (up2 (up2 (up2 u 13 i q) 8 i x) 10 i y) (nI i) = some u' ∧ (∀ k, k ≠ 7 → k ≠ 8 → k ≠ 10 → k ≠ 13 → u' k = u k) ∧ (∀ j, j ≠ 6 → u' 7 j = u 7 j) ∧ (∀ j, j ≠ i → u' 8 j = u 8 j) ∧ okI (u' 8 i) := by
    refine ⟨_, rfl, fun k h1 h2 h3 h4 => by simp [up2, h1, h2, h3, h4], fun j hj => by simp [up2, upd, hj], fun j hj => by simp [up2, upd, hj], by simpa [up2, upd] using hx⟩
  by_cases c : upd (u 8) i x i < 0
  · rw [if_pos c]; exact b72
  · rw [if_neg c]
    obtain ⟨w, ew⟩ := T_under (up2 (up2 (up2 u 13 i q) 8 i x) 10 i y) hi
    rw [ew, Option.bind_some]
    by_cases d : w = 0
    · rw [if_pos d]; exact ⟨_, rfl, base⟩
    · rw [if_neg d]; exact b72
theorem T_wanted {u : St} (h : HX u) {a b i za : Nat} (ha : a < 12) (hb : b < 12) (hi : i < 8) (hz : za ≤ 8) (h72 : u 7 2 = nI za) : ∃ u', f_X1_prepareWanted u (nI a) (nI b) (nI i) = some u' ∧ (∀ k, k ≠ 9 → k ≠ 11 → k ≠ 12 → k ≠ 14 → u' k = u k) := by
  unfold f_X1_prepareWanted
  obtain ⟨p, ep⟩ := T_at h hb (nI i)
  obtain ⟨q, eq⟩ : ∃ r, f_X5_fact u p 3 = some r := T_fact h p (k := 3) (by decide)
  rw [ep, Option.bind_some, eq, Option.bind_some, if_pos (inb_nI hi (by decide)), nI_clamp (by omega)]
  have h1 : HX (up2 u 14 i q) := h.fr (FrX.up _ _ (by omega))
  obtain ⟨x, ex, hx⟩ := T_idx h1 ha p
  rw [ex, Option.bind_some]
  have h2 : HX (up2 (up2 u 14 i q) 9 i x) := h1.fr (FrX.up _ _ (by omega))
  obtain ⟨y, ey⟩ := T_ahead h2 hb (show i ≤ 8 by omega)
  rw [ey, Option.bind_some]
  have h3 : HX (up2 (up2 (up2 u 14 i q) 9 i x) 11 i y) := h2.fr (FrX.up _ _ (by omega))
  obtain ⟨t1, et1⟩ := T_thick h3 ha hz p
  obtain ⟨t2, et2⟩ := T_thick h3 hb (show i ≤ 8 by omega) p
  obtain ⟨t3, et3⟩ : ∃ r, f_X5_fact (up2 (up2 (up2 u 14 i q) 9 i x) 11 i y) p 2 = some r := T_fact h3 p (k := 2) (by decide)
  rw [h72, et1, Option.bind_some, et2, Option.bind_some, et3, Option.bind_some]
  exact ⟨_, rfl, fun k h1 h2 h3 h4 => by simp [up2, h1, h2, h3, h4]⟩
/-- a change stands prepared -/
def PR (u : St) (za zb : Nat) : Prop := u 7 2 = nI za ∧ u 7 3 = nI zb ∧ za ≤ 8 ∧ zb ≤ 8 ∧ ∀ i, i < za → okI (u 8 i)
theorem T_prep2 {a b za zb : Nat} (ha : a < 12) (hb : b < 12) : ∀ (m i : Nat) (u : St), HX u → PR u za zb → zb < i + m → i ≤ zb → ∃ u', f_X1_prepare_82 m u (nI a) (nI b) (nI i) = some u' ∧ FrX u u' ∧ PR u' za zb := by
  intro m
  induction m with
  | zero => intro i u hu hp h1 h2; omega
  | succ m ih =>
    intro i u hu hp h1 h2
    obtain ⟨p1, p2, p3, p4, p5⟩ := id hp
    rw [f_X1_prepare_82, p2]
    by_cases hi : i = zb
    · subst hi; exact ⟨u, if_pos (Int32.le_refl _), FrX.rf u, hp⟩
    · rw [if_neg (nI_ge (show i < zb by omega) (by omega))]
      obtain ⟨u', e1, e2⟩ := T_wanted hu ha hb (show i < 8 by omega) p3 p1
      rw [e1, Option.bind_some, nI_1]
      have f1 : FrX u u' := fun k hk => e2 k (by omega) (by omega) (by omega) (by omega)
      have q1 : PR u' za zb := by
        unfold PR
        rw [e2 7 (by decide) (by decide) (by decide) (by decide), e2 8 (by decide) (by decide) (by decide) (by decide)]
        exact hp
      obtain ⟨u2, g1, g2, g3⟩ := ih (i + 1) u' (hu.fr f1) q1 (by omega) (by omega)
      exact ⟨u2, g1, f1.tr g2, g3⟩
theorem T_prep1 {a b za zb : Nat} (ha : a < 12) (hb : b < 12) (hza : za ≤ 8) (hzb : zb ≤ 8) : ∀ (m i : Nat) (u : St), HX u → u 7 2 = nI za → u 7 3 = nI zb → (∀ j, j < i → okI (u 8 j)) → za < i + m → i ≤ za → ∃ u', f_X1_prepare_59 m u (nI a) (nI b) (nI i) = some u' ∧ FrX u u' ∧ PR u' za zb := by
  intro m
  induction m with
  | zero => intro i u hu p1 p2 p3 h1 h2; omega
  | succ m ih =>
    intro i u hu p1 p2 p3 h1 h2
    rw [f_X1_prepare_59, p1]
    by_cases hi : i = za
    · subst hi
      rw [if_pos (Int32.le_refl _)]
      exact T_prep2 ha hb FU 0 u hu ⟨p1, p2, hza, hzb, p3⟩ (by have := FU_ge (z := zb) (by omega); omega) (Nat.zero_le _)
    · rw [if_neg (nI_ge (show i < za by omega) (by omega))]
      obtain ⟨u', e1, e2, e3, e4, e5⟩ := T_worn hu ha hb (show i < 8 by omega)
      rw [e1, Option.bind_some, nI_1]
      have f1 : FrX u u' := fun k hk => e2 k (by omega) (by omega) (by omega) (by omega)
      obtain ⟨u2, g1, g2, g3⟩ := ih (i + 1) u' (hu.fr f1) (by rw [e3 2 (by decide)]; exact p1) (by rw [e3 3 (by decide)]; exact p2) (fun j hj => by
        rcases Nat.lt_or_ge j i with q | q
        · rw [e4 j (by omega)]; exact p3 j q
        · rw [show j = i by omega]; exact e5) (by omega) (by omega)
      exact ⟨u2, g1, f1.tr g2, g3⟩
theorem jmin8 {z : Nat} (hz : z ≤ 8) : jmin 8 (nI z) = nI z := by
  unfold jmin
  by_cases c : nI z < 8
  · rw [if_pos c]
  · rw [if_neg c]
    have : ¬ z < 8 := fun q => c (nI_lt (b := 8) q (by decide))
    rw [show z = 8 by omega]; rfl
theorem T_prepare {u : St} (h : HX u) {a b : Nat} (ha : a < 12) (hb : b < 12) : ∃ u' za zb, f_X1_prepare u (nI a) (nI b) = some u' ∧ FrX u u' ∧ PR u' za zb := by
  obtain ⟨za, a1, a2⟩ := h.2 a ha
  obtain ⟨zb, b1, b2⟩ := h.2 b hb
  unfold f_X1_prepare
  rw [e_sizeOf u ha, Option.bind_some, a2, jmin8 a1, e_sizeOf _ hb, Option.bind_some]
  rw [show (up2 u 7 2 (nI za)) 5 b = nI zb by simpa [up2] using b2, jmin8 b1]
  have f1 : FrX u (up2 (up2 u 7 2 (nI za)) 7 3 (nI zb)) := (FrX.up _ _ (by omega)).tr (FrX.up _ _ (by omega))
  obtain ⟨w1, e1⟩ := T_wigsOf (h.fr f1) ha
  rw [e1, Option.bind_some]
  have f2 : FrX u (up2 (up2 (up2 u 7 2 (nI za)) 7 3 (nI zb)) 7 4 w1) := f1.tr (FrX.up _ _ (by omega))
  obtain ⟨w2, e2⟩ := T_wigsOf (h.fr f2) hb
  rw [e2, Option.bind_some]
  have f3 : FrX u (up2 (up2 (up2 (up2 (up2 u 7 2 (nI za)) 7 3 (nI zb)) 7 4 w1) 7 5 w2) 7 6 0) := (f2.tr (FrX.up _ _ (by omega))).tr (FrX.up _ _ (by omega))
  obtain ⟨u', g1, g2, g3⟩ := T_prep1 ha hb a1 b1 FU 0 _ (h.fr f3) (by simp [up2, upd]) (by simp [up2, upd]) (fun j hj => by omega) (by have := FU_ge (z := za) (by omega); omega) (Nat.zero_le _)
  exact ⟨u', za, zb, g1, f3.tr g2, g3⟩
theorem T_may0 {u : St} {za zb : Nat} (hp : PR u za zb) (x y : Int32) : ∀ (m i : Nat), zb < i + m → i ≤ zb → ∃ r, f_X1_mayLieBeneath_2 u m x y (nI i) = some r ∧ (r = 0 ∨ r = 1) := by
  obtain ⟨p1, p2, p3, p4, p5⟩ := hp
  intro m
  induction m with
  | zero => intro i h1 h2; omega
  | succ m ih =>
    intro i h1 h2
    rw [f_X1_mayLieBeneath_2, p2]
    by_cases hi : i = zb
    · subst hi; exact ⟨1, if_pos (Int32.le_refl _), Or.inr rfl⟩
    · rw [if_neg (nI_ge (show i < zb by omega) (by omega)), if_pos (inb_nI (show i < 8 by omega) (by decide)), nI_1]
      obtain ⟨b, eb⟩ := T_bit u x (nI i)
      have hr := ih (i + 1) (by omega) (by omega)
      rw [eb, Option.bind_some]
      split
      · exact hr
      · split
        · exact ⟨0, rfl, Or.inl rfl⟩
        · split
          · split
            · exact hr
            · exact ⟨0, rfl, Or.inl rfl⟩
          · exact ⟨0, rfl, Or.inl rfl⟩
theorem T_may {u : St} {za zb : Nat} (hp : PR u za zb) (x y : Int32) : ∃ r, f_X1_mayLieBeneath u x y = some r ∧ (r = 0 ∨ r = 1) := T_may0 hp x y FU 0 (by have := FU_ge (z := zb) (by have := hp.2.2.2.1; omega); omega) (Nat.zero_le _)
theorem T_isAllowed {u : St} (h : HX u) {a b : Nat} (ha : a < 12) (hb : b < 12) (x : Int32) : ∃ r u' za zb, f_X6_isAllowed u (nI a) (nI b) x = some (r, u') ∧ FrX u u' ∧ PR u' za zb := by
  obtain ⟨u', za, zb, e1, e2, e3⟩ := T_prepare h ha hb
  obtain ⟨r, g1, g2⟩ := T_may e3 x (u' 0 9)
  exact ⟨r, u', za, zb, by simp only [f_X6_isAllowed, e1, Option.bind_some, g1, if_pos g2], e2, e3⟩
theorem PR.up {u : St} {za zb : Nat} (h : PR u za zb) {j : Nat} (x : Int32) (hj : 14 ≤ j) : PR (up2 u 7 j x) za zb := by
  have a : ¬ 2 = j := by omega
  have b : ¬ 3 = j := by omega
  unfold PR at h ⊢
  simpa [up2, upd, a, b] using h
theorem T_miss0 {u : St} {za zb : Nat} (hp : PR u za zb) (x : Int32) : ∀ (m i : Nat) (acc : Int32), zb < i + m → i ≤ zb → ∃ r, f_X1_missing_4 u m x acc (nI i) = some r := by
  obtain ⟨p1, p2, p3, p4, p5⟩ := hp
  intro m
  induction m with
  | zero => intro i acc h1 h2; omega
  | succ m ih =>
    intro i acc h1 h2
    rw [f_X1_missing_4, p2]
    by_cases hi : i = zb
    · subst hi; exact ⟨acc, if_pos (Int32.le_refl _)⟩
    · rw [if_neg (nI_ge (show i < zb by omega) (by omega)), if_pos (inb_nI (show i < 8 by omega) (by decide))]
      unfold f_X1_missing_45
      rw [nI_1]
      obtain ⟨b, eb⟩ := T_bit u x (nI i)
      obtain ⟨b2, eb2⟩ := T_bit u (u 7 14) (u 9 (nI i).toNatClampNeg)
      rw [eb, eb2, Option.bind_some, Option.bind_some]
      split
      · split
        · exact ih (i + 1) _ (by omega) (by omega)
        · split
          · exact ih (i + 1) _ (by omega) (by omega)
          · exact ih (i + 1) _ (by omega) (by omega)
      · exact ih (i + 1) _ (by omega) (by omega)
theorem T_miss {u : St} {za zb : Nat} (hp : PR u za zb) (x : Int32) : ∃ r, f_X1_missing u x = some r := T_miss0 hp x FU 0 0 (by have := FU_ge (z := zb) (by have := hp.2.2.2.1; omega); omega) (Nat.zero_le _)
theorem T_must {u : St} {za zb : Nat} (hp : PR u za zb) {i : Nat} (hi : i < za) : ∃ r, f_X1_mustComeOff u (nI i) = some r := by
  obtain ⟨p1, p2, p3, p4, p5⟩ := hp
  have ho := p5 i hi
  unfold f_X1_mustComeOff
  rw [if_pos (inb_nI (show i < 8 by omega) (by decide)), nI_clamp (by omega)]
  split
  · split
    · exact ⟨0, rfl⟩
    · rcases ho with q | ⟨j, hj, q⟩
      · rename_i hn
        exact absurd (by rw [q]; decide) hn
      · rw [q, if_pos (inb_nI hj (by decide))]
        split
        · exact ⟨0, rfl⟩
        · exact ⟨1, rfl⟩
  · exact ⟨1, rfl⟩
theorem T_forced0 {u : St} {za zb : Nat} (hp : PR u za zb) : ∀ (m i : Nat) (acc : Int32), za < i + m → i ≤ za → ∃ r, f_X1_forcedOff_4 u m acc (nI i) = some r := by
  obtain ⟨p1, p2, p3, p4, p5⟩ := id hp
  intro m
  induction m with
  | zero => intro i acc h1 h2; omega
  | succ m ih =>
    intro i acc h1 h2
    rw [f_X1_forcedOff_4, p1]
    by_cases hi : i = za
    · subst hi; exact ⟨acc, if_pos (Int32.le_refl _)⟩
    · obtain ⟨b, eb⟩ := T_bit u (u 7 14) (nI i)
      obtain ⟨c, ec⟩ := T_must hp (show i < za by omega)
      rw [if_neg (nI_ge (show i < za by omega) (by omega)), eb, ec, Option.bind_some, Option.bind_some, nI_1]
      split
      · split
        · exact ih (i + 1) _ (by omega) (by omega)
        · exact ih (i + 1) _ (by omega) (by omega)
      · exact ih (i + 1) _ (by omega) (by omega)
theorem T_forced {u : St} {za zb : Nat} (hp : PR u za zb) : ∃ r, f_X1_forcedOff u = some r := T_forced0 hp FU 0 0 (by have := FU_ge (z := za) (by have := hp.2.2.1; omega); omega) (Nat.zero_le _)
theorem T_handle0 {za zb : Nat} (x : Int32) : ∀ (m i : Nat) (u : St), PR u za zb → 8 < i + m → i ≤ 8 → ∃ u', f_X1_handle_19 m u x (nI i) = some u' ∧ FrX u u' ∧ PR u' za zb := by
  intro m
  induction m with
  | zero => intro i u hp h1 h2; omega
  | succ m ih =>
    intro i u hp h1 h2
    rw [f_X1_handle_19]
    by_cases hi : i = 8
    · subst hi; exact ⟨u, if_pos (show (8 : Int32) ≤ nI 8 by decide), FrX.rf u, hp⟩
    · rw [if_neg (show ¬ (8 : Int32) ≤ nI i from nI_ge (b := 8) (show i < 8 by omega) (by omega))]
      obtain ⟨r, er⟩ := T_forced hp
      rw [er, Option.bind_some]
      split
      · exact ⟨u, rfl, FrX.rf u, hp⟩
      · obtain ⟨y, ey⟩ := T_miss (hp.up (j := 14) (u 7 14 ||| r) (by omega)) x
        rw [ey, Option.bind_some, nI_1]
        obtain ⟨u2, g1, g2, g3⟩ := ih (i + 1) _ ((hp.up (j := 14) (u 7 14 ||| r) (by omega)).up (j := 15) y (by omega)) (by omega) (by omega)
        exact ⟨u2, g1, ((FrX.up _ _ (by omega)).tr (FrX.up _ _ (by omega))).tr g2, g3⟩
theorem T_handle {u : St} {za zb : Nat} (hp : PR u za zb) (x : Int32) : ∃ u', f_X1_handle u x = some u' ∧ FrX u u' ∧ PR u' za zb := by
  unfold f_X1_handle
  obtain ⟨y, ey⟩ := T_miss (hp.up (j := 14) (u 7 6) (by omega)) x
  rw [ey, Option.bind_some]
  obtain ⟨u2, g1, g2, g3⟩ := T_handle0 x FU 0 _ ((hp.up (j := 14) (u 7 6) (by omega)).up (j := 15) y (by omega)) (by have := FU_ge (z := 8) (by omega); omega) (by omega)
  exact ⟨u2, g1, ((FrX.up _ _ (by omega)).tr (FrX.up _ _ (by omega))).tr g2, g3⟩
