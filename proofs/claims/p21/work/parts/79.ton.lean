/-! ===== tonight ===== -/
theorem awX0 : ∀ a, a < 31 → ∀ b, b < 7 → ∀ v, v < 37 → jmax 0 (jmax (nI (a + 30) - nI (v + 30)) (nI (v + 30) - (nI (a + 30) + nI b))) = nI ((a + 30 - (v + 30)) + (v + 30 - (a + 30 + b))) := by decide +kernel
theorem awM0 : ∀ a, a < 31 → ∀ b, b < 7 → ∀ v, v < 37 → (if nI (a + 30) ≤ nI (v + 30) then if nI (v + 30) ≤ nI (a + 30) + nI b then 0 else nI (v + 30) - nI (a + 30) - nI b else nI (a + 30) - nI (v + 30)) = nI ((a + 30 - (v + 30)) + (v + 30 - (a + 30 + b))) := by decide +kernel
/-- how many sizes a piece is away -/
def aw (um : St) (v p : Nat) : Nat := ((um 7 p).toNatClampNeg - v) + (v - ((um 7 p).toNatClampNeg + (um 8 p).toNatClampNeg))
def CY (u um : St) (n : Nat) : Prop := n ≤ 32 ∧ u 1 1 = nI n ∧ ∀ p, p < n → u 2 (10 * p + 1) = um 2 p ∧ u 2 (10 * p + 5) = um 6 p ∧ u 2 (10 * p + 6) = um 7 p ∧ u 2 (10 * p + 7) = um 8 p ∧ u 2 (10 * p + 8) = um 9 p
theorem V5.sz {um : St} {p : Nat} (h : V5 (um 3 p) (um 4 p) (um 5 p) (um 7 p) (um 8 p)) : ∃ a b, a < 31 ∧ b < 7 ∧ um 7 p = nI (a + 30) ∧ um 8 p = nI b ∧ (um 7 p).toNatClampNeg = a + 30 ∧ (um 8 p).toNatClampNeg = b := by
  obtain ⟨-, -, -, ⟨x, x1, x2, e⟩, ⟨y, y1, f⟩⟩ := h
  refine ⟨x - 30, y, by omega, by omega, ?_, f, ?_, ?_⟩
  · rw [e, Nat.sub_add_cancel x1]
  · rw [e, nI_clamp (by omega), Nat.sub_add_cancel x1]
  · rw [f, nI_clamp (by omega)]
theorem aw_le {um : St} {n : Nat} (hv : VV um n) {p v : Nat} (hp : p < n) (h1 : 30 ≤ v) (h2 : v ≤ 66) : aw um v p ≤ 66 := by
  obtain ⟨a, b, ha, hb, e1, e2, e3, e4⟩ := (hv p hp).sz
  unfold aw
  rw [e3, e4]
  omega
theorem x_away {u um : St} {n : Nat} (hc : CY u um n) (hv : VV um n) {p v : Nat} (hp : p < n) (h1 : 30 ≤ v) (h2 : v ≤ 66) : f_X5_sizesAway u (nI p) (nI v) = some (nI (aw um v p)) := by
  obtain ⟨a, b, ha, hb, e1, e2, e3, e4⟩ := (hv p hp).sz
  have f6 : f_X5_fact u (nI p) 6 = some (um 7 p) := (e_fact hc.1 hc.2.1 hp (k := 6) (by decide)).trans (by rw [(hc.2.2 p hp).2.2.1])
  have f7 : f_X5_fact u (nI p) 7 = some (um 8 p) := (e_fact hc.1 hc.2.1 hp (k := 7) (by decide)).trans (by rw [(hc.2.2 p hp).2.2.2.1])
  have k := awX0 a ha b hb (v - 30) (by omega)
  rw [Nat.sub_add_cancel h1] at k
  unfold f_X5_sizesAway aw
  rw [f6, Option.bind_some, f7, Option.bind_some, e3, e4, e1, e2, k]
theorem m_away {u um : St} {n : Nat} (hf : FrM um u) (hn : n ≤ 32) (hv : VV um n) {p v : Nat} (hp : p < n) (h1 : 30 ≤ v) (h2 : v ≤ 66) : f_X7_away u (nI p) (nI v) = some (nI (aw um v p)) := by
  obtain ⟨a, b, ha, hb, e1, e2, e3, e4⟩ := (hv p hp).sz
  have k := awM0 a ha b hb (v - 30) (by omega)
  rw [Nat.sub_add_cancel h1] at k
  unfold f_X7_away aw
  rw [if_pos (inb_nI (show p < 32 by omega) (by decide)), nI_clamp (show p < 2 ^ 31 by omega), hf.1 7 (by omega) (by omega), hf.1 8 (by omega) (by omega), e3, e4, e1, e2, ← k]
  split
  · split <;> rfl
  · rfl
def lik (um : St) (p q : Nat) : Bool := decide (um 2 p = um 2 q) && decide (um 6 p = um 6 q)
theorem lik_iff {um : St} {p q : Nat} : lik um p q = true ↔ um 2 p = um 2 q ∧ um 6 p = um 6 q := by simp [lik]
theorem x_alike {u um : St} {n : Nat} (hc : CY u um n) {p q : Nat} (hp : p < n) (hq : q < n) : f_X5_areAlike u (nI p) (nI q) = some (if lik um p q = true then 1 else 0) := by
  have a1 : f_X5_fact u (nI p) 1 = some (um 2 p) := (e_fact hc.1 hc.2.1 hp (k := 1) (by decide)).trans (by rw [(hc.2.2 p hp).1])
  have a2 : f_X5_fact u (nI q) 1 = some (um 2 q) := (e_fact hc.1 hc.2.1 hq (k := 1) (by decide)).trans (by rw [(hc.2.2 q hq).1])
  have b1 : f_X5_fact u (nI p) 5 = some (um 6 p) := (e_fact hc.1 hc.2.1 hp (k := 5) (by decide)).trans (by rw [(hc.2.2 p hp).2.1])
  have b2 : f_X5_fact u (nI q) 5 = some (um 6 q) := (e_fact hc.1 hc.2.1 hq (k := 5) (by decide)).trans (by rw [(hc.2.2 q hq).2.1])
  unfold f_X5_areAlike f_X5_haveOnePlace
  rw [a1, a2, b1, b2]
  simp only [Option.bind_some]
  by_cases c : um 2 p = um 2 q
  · rw [if_pos c, Option.bind_some, if_neg (by decide)]
    by_cases d : um 6 p = um 6 q
    · rw [if_pos d, if_pos (lik_iff.mpr ⟨c, d⟩)]
    · rw [if_neg d, if_neg (fun w => d (lik_iff.mp w).2)]
  · rw [if_neg c, Option.bind_some, if_pos rfl, if_neg (fun w => c (lik_iff.mp w).1)]
/-- one of the look that goes ahead for a swap -/
def adk (um : St) (f : Nat → Nat) (v i k : Nat) : Bool := lik um (f i) (f k) && (decide (aw um v (f i) < aw um v (f k)) || (decide (aw um v (f k) = aw um v (f i)) && decide (k < i)))
theorem cnt_s (f : Nat → Bool) (k : Nat) : cnt f (k + 1) = cnt f k + if f k = true then 1 else 0 := rfl
theorem x_swap0 {u um : St} {n l z : Nat} {p : Nat → Nat} (hc : CY u um n) (hv : VV um n) (hl : LX u l z n p) {v i : Nat} (h30 : 30 ≤ v) (h66 : v ≤ 66) (hi : i < z) : ∀ (m k : Nat), z < k + m → k ≤ z → f_X6_countAheadForSwap_39 u m (nI l) (nI i) (nI v) (nI (p i)) (nI (aw um v (p i))) (nI (cnt (adk um p v i) k)) (nI z) (nI k) = some (nI (cnt (adk um p v i) z)) := by
  have hz := hl.2.1
  have hpi := (hl.2.2.2 i hi).2
  have ai := aw_le hv hpi h30 h66
  intro m
  induction m with
  | zero => intro k h1 h2; omega
  | succ m ih =>
    intro k h1 h2
    rw [f_X6_countAheadForSwap_39]
    by_cases hk : k = z
    · subst hk; rw [if_pos (Int32.le_refl _)]
    · have hlt : k < z := by omega
      have hpk := (hl.2.2.2 k hlt).2
      have ak := aw_le hv hpk h30 h66
      have g := ih (k + 1) (by omega) (by omega)
      rw [cnt_s] at g
      rw [if_neg (nI_ge hlt (by omega)), hl.at hlt, Option.bind_some, x_away hc hv hpk h30 h66, Option.bind_some, x_alike hc hpi hpk, Option.bind_some, nI_1, nI_1]
      unfold adk at g ⊢
      by_cases c : lik um (p i) (p k) = true
      · rw [c] at g
        rw [if_pos c, if_neg (by decide)]
        by_cases d : aw um v (p i) < aw um v (p k)
        · rw [if_pos (nI_lt d (by omega))]
          simpa [d] using g
        · rw [if_neg (nI_nlt (by omega) (by omega))]
          by_cases e : aw um v (p k) = aw um v (p i)
          · rw [if_pos (by rw [e])]
            by_cases f : k < i
            · rw [if_neg (nI_ge f (by omega))]
              simpa [d, e, f] using g
            · rw [if_pos (nI_le (by omega) (by omega))]
              simpa [d, e, f] using g
          · rw [if_neg (fun w => e ((nI_eq (by omega) (by omega)).mp w))]
            simpa [d, e] using g
      · have c' : lik um (p i) (p k) = false := by
          cases q : lik um (p i) (p k)
          · rfl
          · exact absurd q c
        rw [if_neg c, if_pos rfl]
        simpa [c'] using g
theorem m_ton60 {u um : St} {n l z : Nat} {p : Nat → Nat} (hf : FrM um u) (hn : n ≤ 32) (hv : VV um n) (hl : LM u l z n p) {v i : Nat} (h30 : 30 ≤ v) (h66 : v ≤ 66) (hi : i < z) (k29 : St → Int32 → Int32 → Int32 → Int32 → Option (Int32 × St)) (l3 : Int32) : ∀ (m k : Nat), z < k + m → k ≤ z → f_X7_tonight_60 k29 m u (nI l) (nI v) l3 (nI i) (nI (p i)) (nI (cnt (adk um p v i) k)) (nI k) = f_X7_tonight_194 k29 FU u (nI l) (nI v) l3 (nI i) (nI (p i)) (nI (cnt (adk um p v i) z)) 0 0 := by
  obtain ⟨hl12, hz, h11, hj⟩ := id hl
  have hpi := (hj i hi).2
  have ai := aw_le hv hpi h30 h66
  intro m
  induction m with
  | zero => intro k h1 h2; omega
  | succ m ih =>
    intro k h1 h2
    rw [f_X7_tonight_60, if_pos (inb_nI hl12 (by decide)), nI_clamp (show l < 2 ^ 31 by omega), h11]
    by_cases hk : k = z
    · subst hk; rw [if_pos (Int32.le_refl _)]
    · have hlt : k < z := by omega
      obtain ⟨a1, a2⟩ := ix8m hl12 (show k < 8 by omega)
      obtain ⟨j2, j1⟩ := hj k hlt
      have ak := aw_le hv j1 h30 h66
      have g := ih (k + 1) (by omega) (by omega)
      rw [cnt_s] at g
      rw [if_neg (nI_ge hlt (by omega)), if_pos a1, a2, j2, if_pos (inb_nI (show p k < 32 by omega) (by decide)), if_pos (inb_nI (show p i < 32 by omega) (by decide)), nI_clamp (show p k < 2 ^ 31 by omega), nI_clamp (show p i < 2 ^ 31 by omega), hf.1 6 (by omega) (by omega), hf.1 2 (by omega) (by omega)]
      have no : lik um (p i) (p k) = false → f_X7_tonight_124 (f_X7_tonight_60 k29 m) u (nI l) (nI v) l3 (nI i) (nI (p i)) (nI (cnt (adk um p v i) k)) (nI k) (nI (p k)) 0 = f_X7_tonight_194 k29 FU u (nI l) (nI v) l3 (nI i) (nI (p i)) (nI (cnt (adk um p v i) z)) 0 0 := fun c => by
        unfold f_X7_tonight_124
        rw [if_pos rfl, Int32.add_zero, nI_1]
        have : adk um p v i k = false := by unfold adk; rw [c, Bool.false_and]
        rw [this] at g
        simpa using g
      have lno : ¬ (um 2 (p i) = um 2 (p k) ∧ um 6 (p i) = um 6 (p k)) → lik um (p i) (p k) = false := fun w => by
        cases q : lik um (p i) (p k)
        · rfl
        · exact absurd (lik_iff.mp q) w
      by_cases c1 : um 6 (p k) = um 6 (p i)
      · rw [if_pos c1]
        by_cases c2 : um 2 (p k) = um 2 (p i)
        · rw [if_pos c2]
          have c : lik um (p i) (p k) = true := lik_iff.mpr ⟨c2.symm, c1.symm⟩
          unfold f_X7_tonight_124
          rw [if_neg (by decide), m_away hf hn hv j1 h30 h66, Option.bind_some, m_away hf hn hv hpi h30 h66, Option.bind_some, Option.bind_some, Option.bind_some, nI_1, nI_1, Int32.add_zero]
          unfold adk at g ⊢
          rw [c] at g
          by_cases d : aw um v (p i) < aw um v (p k)
          · rw [if_pos (nI_lt d (by omega))]
            simpa [d] using g
          · rw [if_neg (nI_nlt (by omega) (by omega))]
            by_cases e : aw um v (p k) = aw um v (p i)
            · rw [if_pos (by rw [e])]
              by_cases f : k < i
              · rw [if_neg (nI_ge f (by omega))]
                simpa [d, e, f] using g
              · rw [if_pos (nI_le (by omega) (by omega))]
                simpa [d, e, f] using g
            · rw [if_neg (fun w => e ((nI_eq (by omega) (by omega)).mp w))]
              simpa [d, e] using g
        · rw [if_neg c2]
          exact no (lno (fun w => c2 w.1.symm))
      · rw [if_neg c1]
        exact no (lno (fun w => c1 w.2.symm))
/-- in some look -/
def inAny (um : St) (q : Nat) : Bool := !decide (cnt (isn (um 11) (um 12) (nI q)) 12 = 0)
theorem cnt_z {f : Nat → Bool} : ∀ {n : Nat}, cnt f n = 0 ↔ ∀ k, k < n → f k = false
  | 0 => ⟨fun _ k hk => by omega, fun _ => rfl⟩
  | n + 1 => by
    rw [cnt]
    constructor
    · intro h k hk
      have h1 : cnt f n = 0 := by omega
      by_cases q : k = n
      · subst q
        cases c : f k
        · rfl
        · rw [c] at h; simp at h
      · exact cnt_z.mp h1 k (by omega)
    · intro h
      rw [cnt_z.mpr (fun k hk => h k (by omega)), h n (by omega)]
      rfl
theorem x_none {u um : St} (hs : Sc (u 6) (um 11) (um 12)) {q : Nat} (hq : q < 32) : f_X2_isInNone u (nI q) = some (if inAny um q = true then 0 else 1) := by
  unfold f_X2_isInNone
  rw [e_isWithin, (win_nI (n := 31) (by decide) 31 rfl).mpr ⟨q, by omega, rfl⟩, Option.bind_some, if_neg (by decide), if_pos (inb_nI hq (by decide)), nI_clamp (by omega), hs q hq]
  have := cnt_le (isn (um 11) (um 12) (nI q)) 12
  unfold inAny
  by_cases c : cnt (isn (um 11) (um 12) (nI q)) 12 = 0
  · rw [if_pos (by rw [c]; rfl)]; simp [c]
  · rw [if_neg (fun w => c ((nI_eq (b := 0) (by omega) (by decide)).mp (w.trans nI_0.symm)))]; simp [c]
theorem m_inl4 {um : St} (h : ∀ l, l < 12 → ∃ z, z ≤ 8 ∧ um 11 l = nI z) (q : Nat) : ∀ (m i : Nat) (t : Int32), 12 < i + m → i ≤ 12 → TB t (False ∨ ∃ l, l < i ∧ isn (um 11) (um 12) (nI q) l = true) → ∃ r, f_X7_isInLook_4 um m (nI q) t (nI i) = some r ∧ TB r (False ∨ ∃ l, l < 12 ∧ isn (um 11) (um 12) (nI q) l = true) := by
  intro m
  induction m with
  | zero => intro i t h1 h2; omega
  | succ m ih =>
    intro i t h1 h2 ht
    rw [f_X7_isInLook_4]
    by_cases hi : i = 12
    · subst hi
      rw [if_pos (show (12 : Int32) ≤ nI 12 by decide), if_pos ht.b01]
      exact ⟨t, rfl, ht⟩
    · obtain ⟨z, hz, e⟩ := h i (by omega)
      obtain ⟨r, er, hr⟩ := e_rowOf um (show i < 12 by omega) hz e (nI q)
      have hneg := IdxL_neg hz hr
      rw [if_neg (show ¬ (12 : Int32) ≤ nI i from nI_ge (b := 12) (show i < 12 by omega) (by omega)), er, Option.bind_some, nI_1]
      have e2 : isn (um 11) (um 12) (nI q) i = hasB (fun k => um 12 (8 * i + k)) (nI q) z := by
        unfold isn; rw [e, nI_clamp (by omega)]
      by_cases c : r < 0
      · rw [if_pos c]
        refine ih (i + 1) _ (by omega) (by omega) (or_ext ht (TB.no ?_))
        rw [e2, hasB_no (hneg.mp c)]
        decide
      · rw [if_neg c]
        refine ih (i + 1) _ (by omega) (by omega) (or_ext ht (TB.yes ?_))
        rw [e2]
        cases d : hasB (fun k => um 12 (8 * i + k)) (nI q) z
        · exact absurd (hneg.mpr (fun k hk w => by
            have := (hasB_iff (f := fun k => um 12 (8 * i + k)) (p := nI q)).mpr ⟨k, hk, w⟩
            rw [d] at this; cases this)) c
        · rfl
theorem m_inl {um : St} (h : ∀ l, l < 12 → ∃ z, z ≤ 8 ∧ um 11 l = nI z) (q : Nat) : f_X7_isInLook um (nI q) = some (if inAny um q = true then 1 else 0) := by
  obtain ⟨r, er, hr⟩ := m_inl4 h q FU 0 0 (by have := FU_ge (z := 12) (by omega); omega) (Nat.zero_le _) (TB.no (fun w => w.elim id (fun ⟨l, hl, _⟩ => by omega)))
  have er' : f_X7_isInLook um (nI q) = some r := er
  rw [er']
  have key : inAny um q = true ↔ ∃ l, l < 12 ∧ isn (um 11) (um 12) (nI q) l = true := by
    unfold inAny
    rw [Bool.not_eq_true', decide_eq_false_iff_not, cnt_z]
    constructor
    · intro w
      refine Classical.byContradiction (fun hno => w (fun k hk => ?_))
      cases d : isn (um 11) (um 12) (nI q) k
      · rfl
      · exact absurd ⟨k, hk, d⟩ hno
    · rintro ⟨l, hl, e⟩ w
      rw [w l hl] at e; cases e
  rcases hr with ⟨rfl, hr⟩ | ⟨rfl, hr⟩
  · rw [if_pos (key.mpr (hr.elim False.elim id))]
  · rw [if_neg (fun w => hr (Or.inr (key.mp w)))]
/-- a spare for p -/
def spr (um : St) (v p q : Nat) : Bool := lik um p q && (decide (aw um v q = 0) && (decide (um 9 q = 0) && !inAny um q))
theorem x_spare0 {u um : St} {n : Nat} (hc : CY u um n) (hv : VV um n) (hs : Sc (u 6) (um 11) (um 12)) {v p : Nat} (h30 : 30 ≤ v) (h66 : v ≤ 66) (hp : p < n) : ∀ (m q : Nat), 32 < q + m → q ≤ 32 → f_X6_countSpares_5 u m (nI p) (nI v) (nI (cnt (spr um v p) (min q n))) (nI q) = some (nI (cnt (spr um v p) n)) := by
  have hn := hc.1
  intro m
  induction m with
  | zero => intro q h1 h2; omega
  | succ m ih =>
    intro q h1 h2
    rw [f_X6_countSpares_5]
    by_cases hq : q = 32
    · subst hq
      rw [if_pos (show (32 : Int32) ≤ nI 32 by decide), Nat.min_eq_right hn]
    · have g := ih (q + 1) (by omega) (by omega)
      rw [if_neg (show ¬ (32 : Int32) ≤ nI q from nI_ge (b := 32) (show q < 32 by omega) (by omega)), e_has, Option.bind_some, nI_1, nI_1]
      by_cases hqn : q < n
      · have e8 : f_X5_fact u (nI q) 8 = some (um 9 q) := (e_fact hc.1 hc.2.1 hqn (k := 8) (by decide)).trans (by rw [(hc.2.2 q hqn).2.2.2.2])
        have aq := aw_le hv hqn h30 h66
        rw [(hasP_iff hc.1 hc.2.1 (nI q)).mpr ⟨q, hqn, rfl⟩, if_pos rfl, if_neg (by decide), x_alike hc hp hqn, Option.bind_some, x_away hc hv hqn h30 h66, Option.bind_some, e8, Option.bind_some, x_none hs (show q < 32 by omega), Option.bind_some]
        rw [Nat.min_eq_left (show q + 1 ≤ n by omega), cnt_s] at g
        rw [Nat.min_eq_left (show q ≤ n by omega)]
        unfold spr at g ⊢
        by_cases c1 : lik um p q = true
        · rw [if_pos c1, if_neg (by decide)]
          by_cases c2 : aw um v q = 0
          · rw [if_pos (by rw [c2]; rfl)]
            by_cases c3 : um 9 q = 0
            · rw [if_pos c3]
              by_cases c4 : inAny um q = true
              · rw [if_pos c4, if_pos rfl]
                simpa [c1, c2, c3, c4] using g
              · rw [if_neg c4, if_neg (by decide)]
                simpa [c1, c2, c3, c4] using g
            · rw [if_neg c3]
              simpa [c1, c2, c3] using g
          · rw [if_neg (fun w => c2 ((nI_eq (b := 0) (by omega) (by decide)).mp (w.trans nI_0.symm)))]
            simpa [c1, c2] using g
        · rw [if_neg c1, if_pos rfl]
          simpa [c1] using g
      · have hno : hasP u (nI q) = false := by
          cases d : hasP u (nI q)
          · rfl
          · obtain ⟨j, hj, e⟩ := (hasP_iff hc.1 hc.2.1 (nI q)).mp d
            have := (nI_eq (by omega) (by omega)).mp e
            omega
        rw [hno, show (if false = true then (1 : Int32) else 0) = 0 from rfl, if_pos rfl]
        rw [Nat.min_eq_right (show n ≤ q + 1 by omega)] at g
        rw [Nat.min_eq_right (show n ≤ q by omega)]
        exact g
/-- what one of a look costs tonight -/
def cost (um : St) (n z : Nat) (f : Nat → Nat) (v i : Nat) : Int32 := if aw um v (f i) = 0 then 0 else if cnt (spr um v (f i)) n ≤ cnt (adk um f v i) z then 10 * nI (aw um v (f i)) else 1
theorem x_cost {u um : St} {n l z : Nat} {p : Nat → Nat} (hc : CY u um n) (hv : VV um n) (hs : Sc (u 6) (um 11) (um 12)) (hl : LX u l z n p) {v i : Nat} (h30 : 30 ≤ v) (h66 : v ≤ 66) (hi : i < z) : f_X6_costTonight u (nI l) (nI i) (nI v) = some (cost um n z p v i) := by
  have hz := hl.2.1
  have hpi := (hl.2.2.2 i hi).2
  have ai := aw_le hv hpi h30 h66
  have e1 : f_X6_countAheadForSwap u (nI l) (nI i) (nI v) = some (nI (cnt (adk um p v i) z)) := by
    unfold f_X6_countAheadForSwap
    rw [hl.at hi, Option.bind_some, x_away hc hv hpi h30 h66, Option.bind_some, e_sizeOf u hl.1, Option.bind_some, hl.2.2.1]
    exact x_swap0 hc hv hl h30 h66 hi FU 0 (FUz hz) (Nat.zero_le _)
  have e2 : f_X6_countSpares u (nI (p i)) (nI v) = some (nI (cnt (spr um v (p i)) n)) := by
    have := x_spare0 hc hv hs h30 h66 hpi FU 0 FU32 (Nat.zero_le _)
    rw [Nat.zero_min] at this
    exact this
  have c1 := cnt_le (spr um v (p i)) n
  have c2 := cnt_le (adk um p v i) z
  have hn := hc.1
  unfold f_X6_costTonight cost
  rw [hl.at hi, Option.bind_some, x_away hc hv hpi h30 h66, Option.bind_some, e1, Option.bind_some, e2, Option.bind_some]
  by_cases d : aw um v (p i) = 0
  · rw [if_pos (by rw [d]; rfl), if_pos d]
  · rw [if_neg (fun w => d ((nI_eq (b := 0) (by omega) (by decide)).mp (w.trans nI_0.symm))), if_neg d]
    by_cases e : cnt (spr um v (p i)) n ≤ cnt (adk um p v i) z
    · rw [if_pos (nI_le e (by omega)), if_pos e]
    · rw [if_neg (nI_ge (by omega) (by omega)), if_neg e]
theorem m_ton194 {um : St} {n l z : Nat} {p : Nat → Nat} (hn : n ≤ 32) (h0 : um 0 0 = nI n) (hv : VV um n) (h11 : ∀ l, l < 12 → ∃ z, z ≤ 8 ∧ um 11 l = nI z) (hl : LM um l z n p) {v i : Nat} (h30 : 30 ≤ v) (h66 : v ≤ 66) (hi : i < z) (k29 : St → Int32 → Int32 → Int32 → Int32 → Option (Int32 × St)) (l3 : Int32) : ∀ (m q : Nat), n < q + m → q ≤ n → f_X7_tonight_194 k29 m um (nI l) (nI v) l3 (nI i) (nI (p i)) (nI (cnt (adk um p v i) z)) (nI (cnt (spr um v (p i)) q)) (nI q) = k29 um (nI l) (nI v) (l3 + cost um n z p v i) (nI (i + 1)) := by
  have hz := hl.2.1
  have hpi := (hl.2.2.2 i hi).2
  have ai := aw_le hv hpi h30 h66
  have c1 := cnt_le (spr um v (p i)) n
  have c2 := cnt_le (adk um p v i) z
  intro m
  induction m with
  | zero => intro q h1 h2; omega
  | succ m ih =>
    intro q h1 h2
    rw [f_X7_tonight_194, h0]
    by_cases hq : q = n
    · subst hq
      rw [if_pos (Int32.le_refl _), m_away (FrM.rf um) hn hv hpi h30 h66, Option.bind_some, Option.bind_some, nI_1]
      unfold cost
      by_cases d : aw um v (p i) = 0
      · rw [if_pos (by rw [d]; rfl), if_pos d]
      · rw [if_neg (fun w => d ((nI_eq (b := 0) (by omega) (by decide)).mp (w.trans nI_0.symm))), if_neg d]
        by_cases e : cnt (spr um v (p i)) q ≤ cnt (adk um p v i) z
        · rw [if_pos (nI_le e (by omega)), if_pos e]
        · rw [if_neg (nI_ge (by omega) (by omega)), if_neg e]
    · have hqn : q < n := by omega
      have g := ih (q + 1) (by omega) (by omega)
      rw [cnt_s] at g
      have aq := aw_le hv hqn h30 h66
      have ef : f_X7_isFor um (nI q) (nI (p i)) (nI v) = some (if spr um v (p i) q = true then 1 else 0) := by
        unfold f_X7_isFor
        rw [if_pos (inb_nI (show q < 32 by omega) (by decide)), if_pos (inb_nI (show p i < 32 by omega) (by decide)), nI_clamp (show q < 2 ^ 31 by omega), nI_clamp (show p i < 2 ^ 31 by omega), m_away (FrM.rf um) hn hv hqn h30 h66, Option.bind_some, m_inl h11 q, Option.bind_some]
        unfold spr
        by_cases d1 : um 6 q = um 6 (p i)
        · rw [if_pos d1]
          by_cases d2 : um 2 q = um 2 (p i)
          · have c : lik um (p i) q = true := lik_iff.mpr ⟨d2.symm, d1.symm⟩
            rw [if_pos d2, c, Bool.true_and]
            by_cases d3 : aw um v q = 0
            · rw [if_pos (by rw [d3]; rfl)]
              by_cases d4 : um 9 q = 0
              · rw [if_pos d4]
                by_cases d5 : inAny um q = true
                · rw [if_pos d5, if_neg (by decide)]; simp [d3, d4, d5]
                · rw [if_neg d5, if_pos rfl]; simp [d3, d4, d5]
              · rw [if_neg d4]; simp [d4]
            · rw [if_neg (fun w => d3 ((nI_eq (b := 0) (by omega) (by decide)).mp (w.trans nI_0.symm)))]; simp [d3]
          · have c : lik um (p i) q = false := by
              cases w : lik um (p i) q
              · rfl
              · exact absurd (lik_iff.mp w).1.symm d2
            rw [if_neg d2, c]; simp
        · have c : lik um (p i) q = false := by
            cases w : lik um (p i) q
            · rfl
            · exact absurd (lik_iff.mp w).2.symm d1
          rw [if_neg d1, c]; simp
      rw [if_neg (nI_ge hqn (by omega)), ef, Option.bind_some, nI_1, nI_1, Int32.add_zero]
      by_cases c : spr um v (p i) q = true
      · rw [if_pos c] at g ⊢
        rw [if_neg (by decide)]
        exact g
      · rw [if_neg c] at g ⊢
        rw [if_pos rfl]
        exact g
theorem al_tonight {ux um : St} (h : R ux um) (a x : Int32) : Both (f_X6_tonight ux a x) (f_X7_tonight um a x) := by
  cases ha : win a 0 11
  · exact bf1 h (by simp [f_X6_tonight, e_X2has, ha, e_x1]) (by simp [f_X7_tonight, e_isLook, ha, e_m1])
  cases hx : win x 30 66
  · exact bf1 h (by simp [f_X6_tonight, e_X2has, ha, e_isWithin, hx, e_x1]) (by simp [f_X7_tonight, e_isLook, ha, e_isIn, hx, e_m1])
  obtain ⟨l, hl, rfl⟩ := (win_nI (n := 11) (by decide) 11 rfl).mp ha
  obtain ⟨v0, hv0, rfl⟩ := win_sh (m := 30) (n := 66) rfl rfl (by decide) (by decide) hx
  have h30 : 30 ≤ v0 + 30 := by omega
  have h66 : v0 + 30 ≤ 66 := by omega
  obtain ⟨n, hn0, hcx, hv, hL⟩ := h.pic
  obtain ⟨z, p, xl, ml, il⟩ := hL l (by omega)
  obtain ⟨⟨n', hn', hx', hm', hf', -⟩, hL', -, -, -, -, -, -, -, -, hSc, -⟩ := id h
  have hnn : n' = n := (nI_eq (by omega) (by have := hcx.1; omega)).mp (hm'.symm.trans hn0)
  subst hnn
  have hcy : CY ux um n' := ⟨hn', hx', fun p hp => by
    obtain ⟨f0, f1, f2, f3, f4, f5, f6, f7, f8, f9⟩ := hf' p hp
    exact ⟨f1, f5, f6, f7, f8⟩⟩
  have h11 : ∀ l, l < 12 → ∃ z, z ≤ 8 ∧ um 11 l = nI z := fun l hl => by
    obtain ⟨z, z1, z2, z3, z4⟩ := hL' l hl
    exact ⟨z, z1, z3⟩
  have hz := xl.2.1
  have loop : ∀ (m i : Nat) (acc : Int32), z < i + m → i ≤ z → ∃ r, f_X6_tonight_43 m ux (nI l) (nI (v0 + 30)) acc (nI z) (nI i) = some (r, ux) ∧ f_X7_tonight_29 m um (nI l) (nI (v0 + 30)) acc (nI i) = some (r, um) := by
    intro m
    induction m with
    | zero => intro i acc h1 h2; omega
    | succ m ih =>
      intro i acc h1 h2
      rw [f_X6_tonight_43, f_X7_tonight_29, if_pos (inb_nI ml.1 (by decide)), nI_clamp (show l < 2 ^ 31 by omega), ml.2.2.1]
      by_cases hi : i = z
      · subst hi
        rw [if_pos (Int32.le_refl _), if_pos (Int32.le_refl _)]
        exact ⟨acc, rfl, rfl⟩
      · have hlt : i < z := by omega
        obtain ⟨a1, a2⟩ := ix8m ml.1 (show i < 8 by omega)
        have j2 := (ml.2.2.2 i hlt).1
        rw [if_neg (nI_ge hlt (by omega)), if_neg (nI_ge hlt (by omega)), if_pos a1, a2, j2, x_cost hcy hv hSc xl h30 h66 hlt, Option.bind_some, nI_1]
        have e60 := m_ton60 (FrM.rf um) hn' hv ml h30 h66 hlt (f_X7_tonight_29 m) acc FU 0 (FUz hz) (Nat.zero_le _)
        have e194 := m_ton194 hn' hn0 hv h11 ml h30 h66 hlt (f_X7_tonight_29 m) acc FU 0 (by have := FU_ge (z := n') (by omega); omega) (Nat.zero_le _)
        have e60' : f_X7_tonight_60 (f_X7_tonight_29 m) FU um (nI l) (nI (v0 + 30)) acc (nI i) (nI (p i)) 0 0 = f_X7_tonight_29 m um (nI l) (nI (v0 + 30)) (acc + cost um n' z p (v0 + 30) i) (nI (i + 1)) := e60.trans e194
        rw [e60']
        exact ih (i + 1) _ (by omega) (by omega)
  obtain ⟨r, r1, r2⟩ := loop FU 0 0 (FUz hz) (Nat.zero_le _)
  rw [nI_0] at r1 r2
  refine ⟨(r, ux), (r, um), ?_, ?_, rfl, h⟩
  · simp only [f_X6_tonight, e_X2has, ha, e_isWithin, hx, e_sizeOf ux xl.1, xl.2.2.1, Option.bind_some]
    simpa using r1
  · simp only [f_X7_tonight, e_isLook, ha, e_isIn, hx, Option.bind_some]
    simpa using r2
