/-! ===== the picture of a change ===== -/
/-- the place of a piece in a row without doubles, or -1 -/
def IX (f : Nat → Nat) (z q : Nat) (r : Int32) : Prop := (r = -1 ∧ ∀ i, i < z → f i ≠ q) ∨ ∃ i, i < z ∧ r = nI i ∧ f i = q
def Inj (f : Nat → Nat) (z : Nat) : Prop := ∀ i k, i < z → k < z → f i = f k → i = k
/-- what is known of the pieces, in the class -/
def CX (u um : St) (n : Nat) : Prop := n ≤ 32 ∧ u 1 1 = nI n ∧ ∀ p, p < n → u 2 (10 * p + 0) = um 1 p ∧ u 2 (10 * p + 1) = um 2 p ∧ u 2 (10 * p + 2) = um 3 p ∧ u 2 (10 * p + 3) = um 4 p ∧ u 2 (10 * p + 4) = um 5 p
def LX (u : St) (l z n : Nat) (p : Nat → Nat) : Prop := l < 12 ∧ z ≤ 8 ∧ u 5 l = nI z ∧ ∀ i, i < z → u 4 (8 * l + i) = nI (p i) ∧ p i < n
def LM (u : St) (l z n : Nat) (p : Nat → Nat) : Prop := l < 12 ∧ z ≤ 8 ∧ u 11 l = nI z ∧ ∀ i, i < z → u 12 (8 * l + i) = nI (p i) ∧ p i < n
theorem CX.fr {u u' um : St} {n : Nat} (h : CX u um n) (hf : FrX u u') : CX u' um n := by
  unfold CX
  rw [hf 1 (by omega), hf 2 (by omega)]
  exact h
theorem LX.fr {u u' : St} {l z n : Nat} {p : Nat → Nat} (h : LX u l z n p) (hf : FrX u u') : LX u' l z n p := by
  unfold LX
  rw [hf 4 (by omega), hf 5 (by omega)]
  exact h
theorem LM.fr {u u' : St} {l z n : Nat} {p : Nat → Nat} (h : LM u l z n p) (hf : FrM u u') : LM u' l z n p := by
  unfold LM
  rw [hf.1 11 (by omega) (by omega), hf.1 12 (by omega) (by omega)]
  exact h
theorem R.pic {ux um : St} (h : R ux um) : ∃ n, um 0 0 = nI n ∧ CX ux um n ∧ (∀ p, p < n → V5 (um 3 p) (um 4 p) (um 5 p) (um 7 p) (um 8 p)) ∧ ∀ l, l < 12 → ∃ z p, LX ux l z n p ∧ LM um l z n p ∧ Inj p z := by
  obtain ⟨⟨n, hn, hx, hm, hf, hz, hcw⟩, hL, hS, hW, h9, h22, h8, h23, hSv, hSl, hSc, hSh⟩ := h
  refine ⟨n, hm, ⟨hn, hx, fun p hp => ?_⟩, fun p hp => hSv p (by rw [hm, nI_clamp (by omega)]; exact hp), fun l hl => ?_⟩
  · obtain ⟨f0, f1, f2, f3, f4, f5, f6, f7, f8, f9⟩ := hf p hp
    exact ⟨f0, f1, f2, f3, f4⟩
  · obtain ⟨z, z1, z2, z3, z4⟩ := hL l hl
    have key : ∀ i, i < z → um 12 (8 * l + i) = nI ((um 12 (8 * l + i)).toNatClampNeg) ∧ (um 12 (8 * l + i)).toNatClampNeg < n := fun i hi => by
      obtain ⟨w1, k, w2, w3⟩ := z4 i hi
      rw [hm, nI_clamp (by omega)] at w2
      rw [w3, nI_clamp (by omega)]
      exact ⟨rfl, w2⟩
    refine ⟨z, fun i => (um 12 (8 * l + i)).toNatClampNeg, ⟨hl, z1, z2, fun i hi => ⟨(z4 i hi).1.trans (key i hi).1, (key i hi).2⟩⟩, ⟨hl, z1, z3, key⟩, fun i k hi hk e => ?_⟩
    have e2 : um 12 (8 * l + i) = um 12 (8 * l + k) := by rw [(key i hi).1, (key k hk).1]; exact congrArg nI e
    rcases Nat.lt_trichotomy i k with q | q | q
    · exact absurd e2 (hSl l hl i k q (by rw [z3, nI_clamp (by omega)]; exact hk))
    · exact q
    · exact absurd e2.symm (hSl l hl k i q (by rw [z3, nI_clamp (by omega)]; exact hi))
theorem IX.at {f : Nat → Nat} {z q : Nat} {r : Int32} (h : IX f z q r) (hf : Inj f z) {i : Nat} (hi : i < z) (e : f i = q) : r = nI i := by
  rcases h with ⟨-, h⟩ | ⟨k, hk, hr, e2⟩
  · exact absurd e (h i hi)
  · rw [hr, hf k i hk hi (e2.trans e.symm)]
theorem IX.neg {f : Nat → Nat} {z q : Nat} {r : Int32} (hz : z ≤ 8) (h : IX f z q r) : r < 0 ↔ ∀ i, i < z → f i ≠ q := by
  rcases h with ⟨rfl, h⟩ | ⟨i, hi, rfl, h1⟩
  · exact ⟨fun _ => h, fun _ => by decide⟩
  · exact ⟨fun q => absurd q (nI_pos (by omega)), fun q => absurd h1 (q i hi)⟩
theorem LX.at {u : St} {l z n : Nat} {p : Nat → Nat} (h : LX u l z n p) {i : Nat} (hi : i < z) : f_X2_at u (nI l) (nI i) = some (nI (p i)) := by
  obtain ⟨h1, h2, h3, h4⟩ := h
  rw [e_at u h1 h2 h3 hi, (h4 i hi).1]
theorem LX.idx {u : St} {l z n : Nat} {p : Nat → Nat} (h : LX u l z n p) (hn : n ≤ 32) {q : Nat} (hq : q < n) : ∃ r, f_X2_indexOf u (nI l) (nI q) = some r ∧ IX p z q r := by
  obtain ⟨h1, h2, h3, h4⟩ := h
  obtain ⟨r, e, hr⟩ := e_indexOf u h1 h2 h3 (nI q)
  refine ⟨r, e, ?_⟩
  rcases hr with ⟨a, hb⟩ | ⟨i, hi, a, hb, -⟩
  · exact Or.inl ⟨a, fun i hi w => hb i hi (by show u 4 (8 * l + i) = nI q; rw [(h4 i hi).1, w])⟩
  · refine Or.inr ⟨i, hi, a, ?_⟩
    have w : nI (p i) = nI q := (h4 i hi).1.symm.trans hb
    have := (h4 i hi).2
    exact (nI_eq (by omega) (by omega)).mp w
theorem LM.row {u : St} {l z n : Nat} {p : Nat → Nat} (h : LM u l z n p) (hn : n ≤ 32) {q : Nat} (hq : q < n) : ∃ r, f_X7_rowOf u (nI l) (nI q) = some r ∧ IX p z q r := by
  obtain ⟨h1, h2, h3, h4⟩ := h
  obtain ⟨r, e, hr⟩ := e_rowOf u h1 h2 h3 (nI q)
  refine ⟨r, e, ?_⟩
  rcases hr with ⟨a, hb⟩ | ⟨i, hi, a, hb, -⟩
  · exact Or.inl ⟨a, fun i hi w => hb i hi (by show u 12 (8 * l + i) = nI q; rw [(h4 i hi).1, w])⟩
  · refine Or.inr ⟨i, hi, a, ?_⟩
    have w : nI (p i) = nI q := (h4 i hi).1.symm.trans hb
    have := (h4 i hi).2
    exact (nI_eq (by omega) (by omega)).mp w
theorem CX.f0 {u um : St} {n : Nat} (h : CX u um n) {p : Nat} (hp : p < n) : f_X5_fact u (nI p) 0 = some (um 1 p) := (e_fact h.1 h.2.1 hp (k := 0) (by decide)).trans (by rw [(h.2.2 p hp).1])
theorem CX.f1 {u um : St} {n : Nat} (h : CX u um n) {p : Nat} (hp : p < n) : f_X5_fact u (nI p) 1 = some (um 2 p) := (e_fact h.1 h.2.1 hp (k := 1) (by decide)).trans (by rw [(h.2.2 p hp).2.1])
theorem CX.f2 {u um : St} {n : Nat} (h : CX u um n) {p : Nat} (hp : p < n) : f_X5_fact u (nI p) 2 = some (um 3 p) := (e_fact h.1 h.2.1 hp (k := 2) (by decide)).trans (by rw [(h.2.2 p hp).2.2.1])
theorem CX.f3 {u um : St} {n : Nat} (h : CX u um n) {p : Nat} (hp : p < n) : f_X5_fact u (nI p) 3 = some (um 4 p) := (e_fact h.1 h.2.1 hp (k := 3) (by decide)).trans (by rw [(h.2.2 p hp).2.2.2.1])
theorem CX.f4 {u um : St} {n : Nat} (h : CX u um n) {p : Nat} (hp : p < n) : f_X5_fact u (nI p) 4 = some (um 5 p) := (e_fact h.1 h.2.1 hp (k := 4) (by decide)).trans (by rw [(h.2.2 p hp).2.2.2.2])
theorem CX.one {u um : St} {n : Nat} (h : CX u um n) {p q : Nat} (hp : p < n) (hq : q < n) : f_X5_haveOnePlace u (nI p) (nI q) = some (if um 2 p = um 2 q then 1 else 0) := by
  unfold f_X5_haveOnePlace
  rw [h.f1 hp, Option.bind_some, h.f1 hq, Option.bind_some]
  split <;> rfl
/-- thick, as a number -/
def tk (um : St) (p : Nat) : Nat := (um 3 p).toNatClampNeg
/-- how thick those of a row ahead of a place are at the place of q -/
def ts (um : St) (f : Nat → Nat) (q : Nat) : Nat → Nat
  | 0 => 0
  | e + 1 => ts um f q e + if um 2 (f e) = um 2 q then tk um (f e) else 0
theorem tk_nI {um : St} {p : Nat} (h : V5 (um 3 p) (um 4 p) (um 5 p) (um 7 p) (um 8 p)) : um 3 p = nI (tk um p) ∧ 1 ≤ tk um p ∧ tk um p ≤ 5 := by
  obtain ⟨⟨x, x1, x2, e⟩, -⟩ := h
  unfold tk
  rw [e, nI_clamp (by omega)]
  exact ⟨rfl, x1, x2⟩
theorem x_wigs0 {u um : St} {n l z : Nat} {p : Nat → Nat} (hc : CX u um n) (hl : LX u l z n p) : ∀ (m i : Nat) (acc : Int32), z < i + m → i ≤ z → BP acc (fun k => k < i ∧ um 1 (p k) = 1) → ∃ r, f_X1_wigsOf_14 u m (nI l) acc (nI z) (nI i) = some r ∧ BP r (fun k => k < z ∧ um 1 (p k) = 1) := by
  have hz := hl.2.1
  intro m
  induction m with
  | zero => intro i acc h1 h2; omega
  | succ m ih =>
    intro i acc h1 h2 h3
    rw [f_X1_wigsOf_14]
    by_cases hi : i = z
    · subst hi; exact ⟨acc, if_pos (Int32.le_refl _), h3⟩
    · have hlt : i < z := by omega
      rw [if_neg (nI_ge hlt (by omega)), hl.at hlt, Option.bind_some, hc.f0 (hl.2.2.2 i hlt).2, Option.bind_some, nI_1]
      by_cases c : um 1 (p i) = 1
      · rw [if_pos c]
        refine ih (i + 1) _ (by omega) (by omega) ((h3.set (show i < 8 by omega)).congr (fun k hk => ?_))
        constructor
        · rintro (⟨a, b⟩ | rfl)
          · exact ⟨by omega, b⟩
          · exact ⟨by omega, c⟩
        · rintro ⟨a, b⟩
          rcases Nat.lt_or_ge k i with w | w
          · exact Or.inl ⟨w, b⟩
          · exact Or.inr (by omega)
      · rw [if_neg c]
        refine ih (i + 1) _ (by omega) (by omega) (h3.congr (fun k hk => ?_))
        constructor
        · rintro ⟨a, b⟩; exact ⟨by omega, b⟩
        · rintro ⟨a, b⟩
          rcases Nat.lt_or_ge k i with w | w
          · exact ⟨w, b⟩
          · have : k = i := by omega
            subst this
            exact absurd b c
theorem x_wigs {u um : St} {n l z : Nat} {p : Nat → Nat} (hc : CX u um n) (hl : LX u l z n p) : ∃ r, f_X1_wigsOf u (nI l) = some r ∧ BP r (fun k => k < z ∧ um 1 (p k) = 1) := by
  unfold f_X1_wigsOf
  rw [e_sizeOf u hl.1, Option.bind_some, hl.2.2.1]
  exact x_wigs0 hc hl FU 0 0 (FUz hl.2.1) (Nat.zero_le _) (BP.zero.congr (fun k hk => ⟨False.elim, fun w => by omega⟩))
theorem x_ahead0 {u um : St} {n l z : Nat} {p : Nat → Nat} (hc : CX u um n) (hl : LX u l z n p) {c q : Nat} (hcz : c ≤ z) (hq : q < n) : ∀ (m i : Nat) (acc : Int32), c < i + m → i ≤ c → BP acc (fun k => k < i ∧ um 2 (p k) = um 2 q) → ∃ r, f_X1_aheadAtPlace_16 u m (nI l) (nI c) (nI q) acc (nI i) = some r ∧ BP r (fun k => k < c ∧ um 2 (p k) = um 2 q) := by
  have hz := hl.2.1
  intro m
  induction m with
  | zero => intro i acc h1 h2; omega
  | succ m ih =>
    intro i acc h1 h2 h3
    rw [f_X1_aheadAtPlace_16]
    by_cases hi : i = c
    · subst hi; exact ⟨acc, if_pos (Int32.le_refl _), h3⟩
    · have hlt : i < z := by omega
      rw [if_neg (nI_ge (show i < c by omega) (by omega)), hl.at hlt, Option.bind_some, hc.one (hl.2.2.2 i hlt).2 hq, Option.bind_some, nI_1]
      by_cases w : um 2 (p i) = um 2 q
      · rw [if_pos w, if_neg (by decide)]
        refine ih (i + 1) _ (by omega) (by omega) ((h3.set (show i < 8 by omega)).congr (fun k hk => ?_))
        constructor
        · rintro (⟨a, b⟩ | rfl)
          · exact ⟨by omega, b⟩
          · exact ⟨by omega, w⟩
        · rintro ⟨a, b⟩
          rcases Nat.lt_or_ge k i with v | v
          · exact Or.inl ⟨v, b⟩
          · exact Or.inr (by omega)
      · rw [if_neg w, if_pos rfl]
        refine ih (i + 1) _ (by omega) (by omega) (h3.congr (fun k hk => ?_))
        constructor
        · rintro ⟨a, b⟩; exact ⟨by omega, b⟩
        · rintro ⟨a, b⟩
          rcases Nat.lt_or_ge k i with v | v
          · exact ⟨v, b⟩
          · have : k = i := by omega
            subst this
            exact absurd b w
theorem x_ahead {u um : St} {n l z : Nat} {p : Nat → Nat} (hc : CX u um n) (hl : LX u l z n p) {i : Nat} (hi : i < z) : ∃ r, f_X1_aheadAtPlace u (nI l) (nI i) = some r ∧ BP r (fun k => k < i ∧ um 2 (p k) = um 2 (p i)) := by
  unfold f_X1_aheadAtPlace
  rw [hl.at hi, Option.bind_some]
  exact x_ahead0 hc hl (by omega) (hl.2.2.2 i hi).2 FU 0 0 (FUz (by have := hl.2.1; omega)) (Nat.zero_le _) (BP.zero.congr (fun k hk => ⟨False.elim, fun w => by omega⟩))
theorem x_thick0 {u um : St} {n l z : Nat} {p : Nat → Nat} (hc : CX u um n) (hv : ∀ p, p < n → V5 (um 3 p) (um 4 p) (um 5 p) (um 7 p) (um 8 p)) (hl : LX u l z n p) {c q : Nat} (hcz : c ≤ z) (hq : q < n) : ∀ (m i : Nat), c < i + m → i ≤ c → f_X1_thickBefore_6 u m (nI l) (nI c) (nI q) (nI (ts um p q i)) (nI i) = some (nI (ts um p q c)) := by
  have hz := hl.2.1
  intro m
  induction m with
  | zero => intro i h1 h2; omega
  | succ m ih =>
    intro i h1 h2
    rw [f_X1_thickBefore_6]
    by_cases hi : i = c
    · subst hi; rw [if_pos (Int32.le_refl _)]
    · have hlt : i < z := by omega
      have hp := (hl.2.2.2 i hlt).2
      rw [if_neg (nI_ge (show i < c by omega) (by omega)), hl.at hlt, Option.bind_some, hc.one hp hq, Option.bind_some, nI_1]
      have g := ih (i + 1) (by omega) (by omega)
      rw [ts] at g
      by_cases w : um 2 (p i) = um 2 q
      · rw [if_pos w] at g
        rw [if_pos w, if_neg (by decide), hc.f2 hp, Option.bind_some, (tk_nI (hv _ hp)).1, nI_add]
        exact g
      · rw [if_neg w, Nat.add_zero] at g
        rw [if_neg w, if_pos rfl]
        exact g
theorem x_thick {u um : St} {n l z : Nat} {p : Nat → Nat} (hc : CX u um n) (hv : ∀ p, p < n → V5 (um 3 p) (um 4 p) (um 5 p) (um 7 p) (um 8 p)) (hl : LX u l z n p) {c q : Nat} (hcz : c ≤ z) (hq : q < n) : f_X1_thickBefore u (nI l) (nI c) (nI q) = some (nI (ts um p q c)) := x_thick0 hc hv hl hcz hq FU 0 (FUz (by have := hl.2.1; omega)) (Nat.zero_le _)
