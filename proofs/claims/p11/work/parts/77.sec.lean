/-! ===== seconds ===== -/
def gk (um : St) (k : Nat) (f : Nat → Nat) (i : Nat) : Nat := (um k (f i)).toNatClampNeg
theorem gk4 {um : St} {n : Nat} (hv : VV um n) {f : Nat → Nat} {i : Nat} (h : f i < n) : um 4 (f i) = nI (gk um 4 f i) ∧ 1 ≤ gk um 4 f i ∧ gk um 4 f i ≤ 60 := by
  obtain ⟨-, ⟨x, x1, x2, e⟩, -⟩ := hv _ h
  unfold gk
  rw [e, nI_clamp (by omega)]
  exact ⟨rfl, x1, x2⟩
theorem gk5 {um : St} {n : Nat} (hv : VV um n) {f : Nat → Nat} {i : Nat} (h : f i < n) : um 5 (f i) = nI (gk um 5 f i) ∧ 1 ≤ gk um 5 f i ∧ gk um 5 f i ≤ 60 := by
  obtain ⟨-, -, ⟨x, x1, x2, e⟩, -⟩ := hv _ h
  unfold gk
  rw [e, nI_clamp (by omega)]
  exact ⟨rfl, x1, x2⟩
def smm (g : Nat → Nat) (w : Nat) : Nat → Nat
  | 0 => 0
  | e + 1 => smm g w e + if w.testBit e = true then g e else 0
def mx (g : Nat → Nat) (w : Nat) : Nat → Nat
  | 0 => 0
  | e + 1 => max (mx g w e) (if w.testBit e = true then g e else 0)
theorem smm_le {g : Nat → Nat} {w : Nat} : ∀ {e : Nat}, (∀ k, k < e → g k ≤ 60) → smm g w e ≤ 60 * e
  | 0, _ => Nat.le_refl _
  | e + 1, h => by
    have := smm_le (g := g) (w := w) (e := e) (fun k hk => h k (by omega))
    have t := h e (by omega)
    rw [smm]
    split <;> omega
theorem mx_le {g : Nat → Nat} {w : Nat} : ∀ {e : Nat}, (∀ k, k < e → g k ≤ 60) → mx g w e ≤ 60
  | 0, _ => by rw [mx]; omega
  | e + 1, h => by
    have := mx_le (g := g) (w := w) (e := e) (fun k hk => h k (by omega))
    have t := h e (by omega)
    rw [mx]
    split <;> omega
theorem jmaxN {a b : Nat} (ha : a < 2 ^ 31) (hb : b < 2 ^ 31) : jmax (nI a) (nI b) = nI (max a b) := by
  unfold jmax
  by_cases c : nI a < nI b
  · have c' := (nI_ltI ha hb).mp c
    rw [if_pos c, Nat.max_eq_right (by omega)]
  · have c' := mt (nI_ltI ha hb).mpr c
    rw [if_neg c, Nat.max_eq_left (by omega)]
theorem x_sum13 {u : St} {z w : Nat} (hz : z ≤ 8) (hw : w < 256) {g : Nat → Nat} (hg : ∀ i, i < z → u 13 i = nI (g i)) : ∀ (m i : Nat), z < i + m → i ≤ z → f_X1_sumOf_13_5 u m (nI z) (nI w) (nI (smm g w i)) (nI i) = some (nI (smm g w z)) := by
  intro m
  induction m with
  | zero => intro i h1 h2; omega
  | succ m ih =>
    intro i h1 h2
    rw [f_X1_sumOf_13_5]
    by_cases hi : i = z
    · subst hi; rw [if_pos (Int32.le_refl _)]
    · have hlt : i < z := by omega
      have g1 := ih (i + 1) (by omega) (by omega)
      rw [smm] at g1
      rw [if_neg (nI_ge hlt (by omega)), if_neg (show ¬ (8 : Int32) ≤ nI i from nI_ge (b := 8) (show i < 8 by omega) (by omega)), nI_1]
      rcases (BP.self hw).hasX u (show i < 8 by omega) with ⟨e, q⟩ | ⟨e, q⟩
      · rw [if_pos q] at g1
        rw [e, Option.bind_some, if_neg (by decide), if_pos (inb_nI (show i < 8 by omega) (by decide)), nI_clamp (by omega), hg i hlt, nI_add]
        exact g1
      · rw [if_neg q, Nat.add_zero] at g1
        rw [e, Option.bind_some, if_pos rfl]
        exact g1
theorem x_most13 {u : St} {z w : Nat} (hz : z ≤ 8) (hw : w < 256) {g : Nat → Nat} (hg : ∀ i, i < z → u 13 i = nI (g i)) (hg6 : ∀ i, i < z → g i ≤ 60) : ∀ (m i : Nat), z < i + m → i ≤ z → f_X1_mostOf_13_5 u m (nI z) (nI w) (nI (mx g w i)) (nI i) = some (nI (mx g w z)) := by
  intro m
  induction m with
  | zero => intro i h1 h2; omega
  | succ m ih =>
    intro i h1 h2
    rw [f_X1_mostOf_13_5]
    by_cases hi : i = z
    · subst hi; rw [if_pos (Int32.le_refl _)]
    · have hlt : i < z := by omega
      have g1 := ih (i + 1) (by omega) (by omega)
      rw [mx] at g1
      rw [if_neg (nI_ge hlt (by omega)), if_neg (show ¬ (8 : Int32) ≤ nI i from nI_ge (b := 8) (show i < 8 by omega) (by omega)), nI_1]
      have b1 := mx_le (g := g) (w := w) (e := i) (fun k hk => hg6 k (by omega))
      have b2 := hg6 i hlt
      rcases (BP.self hw).hasX u (show i < 8 by omega) with ⟨e, q⟩ | ⟨e, q⟩
      · rw [if_pos q] at g1
        rw [e, Option.bind_some, if_neg (by decide), if_pos (inb_nI (show i < 8 by omega) (by decide)), nI_clamp (by omega), hg i hlt, jmaxN (by omega) (by omega)]
        exact g1
      · rw [if_neg q, Nat.max_eq_left (Nat.zero_le _)] at g1
        rw [e, Option.bind_some, if_pos rfl]
        exact g1
theorem x_sum14 {u : St} {z w : Nat} (hz : z ≤ 8) (hw : w < 256) {g : Nat → Nat} (hg : ∀ i, i < z → u 14 i = nI (g i)) : ∀ (m i : Nat), z < i + m → i ≤ z → f_X1_sumOf_14_5 u m (nI z) (nI w) (nI (smm g w i)) (nI i) = some (nI (smm g w z)) := by
  intro m
  induction m with
  | zero => intro i h1 h2; omega
  | succ m ih =>
    intro i h1 h2
    rw [f_X1_sumOf_14_5]
    by_cases hi : i = z
    · subst hi; rw [if_pos (Int32.le_refl _)]
    · have hlt : i < z := by omega
      have g1 := ih (i + 1) (by omega) (by omega)
      rw [smm] at g1
      rw [if_neg (nI_ge hlt (by omega)), if_neg (show ¬ (8 : Int32) ≤ nI i from nI_ge (b := 8) (show i < 8 by omega) (by omega)), nI_1]
      rcases (BP.self hw).hasX u (show i < 8 by omega) with ⟨e, q⟩ | ⟨e, q⟩
      · rw [if_pos q] at g1
        rw [e, Option.bind_some, if_neg (by decide), if_pos (inb_nI (show i < 8 by omega) (by decide)), nI_clamp (by omega), hg i hlt, nI_add]
        exact g1
      · rw [if_neg q, Nat.add_zero] at g1
        rw [e, Option.bind_some, if_pos rfl]
        exact g1
theorem x_most14 {u : St} {z w : Nat} (hz : z ≤ 8) (hw : w < 256) {g : Nat → Nat} (hg : ∀ i, i < z → u 14 i = nI (g i)) (hg6 : ∀ i, i < z → g i ≤ 60) : ∀ (m i : Nat), z < i + m → i ≤ z → f_X1_mostOf_14_5 u m (nI z) (nI w) (nI (mx g w i)) (nI i) = some (nI (mx g w z)) := by
  intro m
  induction m with
  | zero => intro i h1 h2; omega
  | succ m ih =>
    intro i h1 h2
    rw [f_X1_mostOf_14_5]
    by_cases hi : i = z
    · subst hi; rw [if_pos (Int32.le_refl _)]
    · have hlt : i < z := by omega
      have g1 := ih (i + 1) (by omega) (by omega)
      rw [mx] at g1
      rw [if_neg (nI_ge hlt (by omega)), if_neg (show ¬ (8 : Int32) ≤ nI i from nI_ge (b := 8) (show i < 8 by omega) (by omega)), nI_1]
      have b1 := mx_le (g := g) (w := w) (e := i) (fun k hk => hg6 k (by omega))
      have b2 := hg6 i hlt
      rcases (BP.self hw).hasX u (show i < 8 by omega) with ⟨e, q⟩ | ⟨e, q⟩
      · rw [if_pos q] at g1
        rw [e, Option.bind_some, if_neg (by decide), if_pos (inb_nI (show i < 8 by omega) (by decide)), nI_clamp (by omega), hg i hlt, jmaxN (by omega) (by omega)]
        exact g1
      · rw [if_neg q, Nat.max_eq_left (Nat.zero_le _)] at g1
        rw [e, Option.bind_some, if_pos rfl]
        exact g1
/-- one that is taken off or put on is a wig -/
def wig (um : St) (z : Nat) (f : Nat → Nat) (w : Nat) : Prop := ∃ k, k < z ∧ tbit w k ∧ um 1 (f k) = 1
def NEV (um : St) (za zb : Nat) (pa pb : Nat → Nat) (wo wn c : Nat) : Prop := c = 0 ∧ (wig um za pa wo ∨ wig um zb pb wn)
def SEC (um : St) (za zb : Nat) (pa pb : Nat → Nat) (wo wn c : Nat) : Nat := max ((smm (gk um 5 pa) wo za + smm (gk um 4 pb) wn zb + c) / (c + 1)) (max (mx (gk um 5 pa) wo za) (mx (gk um 4 pb) wn zb))
theorem SEC_le {um : St} {n za zb : Nat} {pa pb : Nat → Nat} (hv : VV um n) (hza : za ≤ 8) (hzb : zb ≤ 8) (ha : ∀ i, i < za → pa i < n) (hb : ∀ i, i < zb → pb i < n) (wo wn : Nat) {c : Nat} (hc : c ≤ 3) : SEC um za zb pa pb wo wn c ≤ 1000 := by
  have a1 := smm_le (w := wo) (fun k hk => (gk5 hv (ha k hk)).2.2)
  have a2 := smm_le (w := wn) (fun k hk => (gk4 hv (hb k hk)).2.2)
  have a3 := mx_le (w := wo) (fun k hk => (gk5 hv (ha k hk)).2.2)
  have a4 := mx_le (w := wn) (fun k hk => (gk4 hv (hb k hk)).2.2)
  have a5 := Nat.div_le_self (smm (gk um 5 pa) wo za + smm (gk um 4 pb) wn zb + c) (c + 1)
  unfold SEC
  omega
theorem x_sec {u um : St} {n za zb : Nat} {pa pb : Nat → Nat} (hp : PX u um za zb pa pb) (hv : VV um n) (hza : za ≤ 8) (hzb : zb ≤ 8) (ha : ∀ i, i < za → pa i < n) (hb : ∀ i, i < zb → pb i < n) {wo wn : Nat} (hwo : wo < 256) (hwn : wn < 256) (h14 : u 7 14 = nI wo) (h15 : u 7 15 = nI wn) {c : Nat} (hc : c ≤ 3) : ∃ r, f_X1_secondsWith u (nI c) = some r ∧ ((NEV um za zb pa pb wo wn c ∧ r = 1000000) ∨ (¬ NEV um za zb pa pb wo wn c ∧ r = nI (SEC um za zb pa pb wo wn c))) := by
  obtain ⟨p2, p3, p4, p5, p6, hA, hB⟩ := hp
  have g5 : ∀ i, i < za → u 13 i = nI (gk um 5 pa i) := fun i hi => (hA i hi).2.2.trans (gk5 hv (ha i hi)).1
  have g4 : ∀ i, i < zb → u 14 i = nI (gk um 4 pb i) := fun i hi => (hB i hi).2.2.2.trans (gk4 hv (hb i hi)).1
  have l5 : ∀ i, i < za → gk um 5 pa i ≤ 60 := fun i hi => (gk5 hv (ha i hi)).2.2
  have l4 : ∀ i, i < zb → gk um 4 pb i ≤ 60 := fun i hi => (gk4 hv (hb i hi)).2.2
  have a1 := smm_le (w := wo) l5
  have a2 := smm_le (w := wn) l4
  have a3 := mx_le (w := wo) l5
  have a4 := mx_le (w := wn) l4
  have a5 := Nat.div_le_self (smm (gk um 5 pa) wo za + smm (gk um 4 pb) wn zb + c) (c + 1)
  have e50 : f_X1_secondsWith_50 u (nI c) = some (nI (SEC um za zb pa pb wo wn c)) := by
    have s1 : f_X1_sumOf_13 u (nI za) (nI wo) = some (nI (smm (gk um 5 pa) wo za)) := x_sum13 hza hwo g5 FU 0 (FUz hza) (Nat.zero_le _)
    have s2 : f_X1_sumOf_14 u (nI zb) (nI wn) = some (nI (smm (gk um 4 pb) wn zb)) := x_sum14 hzb hwn g4 FU 0 (FUz hzb) (Nat.zero_le _)
    have s3 : f_X1_mostOf_13 u (nI za) (nI wo) = some (nI (mx (gk um 5 pa) wo za)) := x_most13 hza hwo g5 l5 FU 0 (FUz hza) (Nat.zero_le _)
    have s4 : f_X1_mostOf_14 u (nI zb) (nI wn) = some (nI (mx (gk um 4 pb) wn zb)) := x_most14 hzb hwn g4 l4 FU 0 (FUz hzb) (Nat.zero_le _)
    unfold f_X1_secondsWith_50
    rw [p2, p3, h14, h15, s1, Option.bind_some, s2, Option.bind_some, s3, Option.bind_some, s4, Option.bind_some, nI_1, if_neg (nI_ne0 (by omega) (by omega)), nI_add, nI_add, pk_div (by omega) (by omega) (by omega), jmaxN (by omega) (by omega), jmaxN (by omega) (by omega)]
    rfl
  have e29 : ∀ s, TB s (wig um za pa wo ∨ wig um zb pb wn) → ∃ r, f_X1_secondsWith_29 u (nI c) s = some r ∧ ((NEV um za zb pa pb wo wn c ∧ r = 1000000) ∨ (¬ NEV um za zb pa pb wo wn c ∧ r = nI (SEC um za zb pa pb wo wn c))) := fun s hs => by
    unfold f_X1_secondsWith_29
    rw [e_isWithin, (win_nI (n := 3) (by decide) 3 rfl).mpr ⟨c, hc, rfl⟩, Option.bind_some, if_neg (by decide)]
    by_cases c0 : nI c = 0
    · have c0' : c = 0 := (nI_eq (b := 0) (by omega) (by decide)).mp (c0.trans nI_0.symm)
      rw [if_pos c0]
      rcases hs with ⟨rfl, hs⟩ | ⟨rfl, hs⟩
      · rw [if_neg (by decide)]
        exact ⟨_, rfl, Or.inl ⟨⟨c0', hs⟩, rfl⟩⟩
      · rw [if_pos rfl]
        exact ⟨_, e50, Or.inr ⟨fun q => hs q.2, rfl⟩⟩
    · rw [if_neg c0]
      exact ⟨_, e50, Or.inr ⟨fun q => c0 (by rw [q.1]; rfl), rfl⟩⟩
  have n1 := (BP.self hwo).and0 p4
  have n2 := (BP.self hwn).and0 p5
  unfold f_X1_secondsWith
  rw [h14, h15]
  by_cases d1 : nI wo &&& u 7 4 = 0
  · have d1' : ¬ wig um za pa wo := fun ⟨k, k1, k2, k3⟩ => n1.mp d1 k (by omega) ⟨k2, k1, k3⟩
    rw [if_pos d1]
    by_cases d2 : nI wn &&& u 7 5 = 0
    · have d2' : ¬ wig um zb pb wn := fun ⟨k, k1, k2, k3⟩ => n2.mp d2 k (by omega) ⟨k2, k1, k3⟩
      rw [if_pos d2]
      exact e29 0 (TB.no (fun q => q.elim d1' d2'))
    · rw [if_neg d2]
      refine e29 1 (TB.yes (Or.inr ?_))
      exact Classical.byContradiction (fun hno => d2 (n2.mpr (fun k hk q => hno ⟨k, q.2.1, q.1, q.2.2⟩)))
  · rw [if_neg d1]
    refine e29 1 (TB.yes (Or.inl ?_))
    exact Classical.byContradiction (fun hno => d1 (n1.mpr (fun k hk q => hno ⟨k, q.2.1, q.1, q.2.2⟩)))
theorem maxif {a b : Nat} (ha : a < 2 ^ 31) (hb : b < 2 ^ 31) {α : Type} (f : Int32 → α) : (if nI b ≤ nI a then f (nI a) else f (nI b)) = f (nI (max a b)) := by
  by_cases c : nI b ≤ nI a
  · have c' := (nI_leI hb ha).mp c
    rw [if_pos c, Nat.max_eq_left c']
  · have c' := mt (nI_leI hb ha).mpr c
    rw [if_neg c, Nat.max_eq_right (by omega)]
theorem m_sec127 {u um : St} {n b zb : Nat} {pb : Nat → Nat} (hf : FrM um u) (hn : n ≤ 32) (hv : VV um n) (lb : LM u b zb n pb) {wn : Nat} (hwn : wn < 256) (h27 : u 0 27 = nI wn) {c s0 m0 : Nat} (hc : c ≤ 3) (hs0 : s0 ≤ 480) (hm0 : m0 ≤ 60) {C : Prop} : ∀ (m i : Nat) (t : Int32), zb < i + m → i ≤ zb → TB t (C ∨ ∃ k, k < i ∧ tbit wn k ∧ um 1 (pb k) = 1) → ∃ r, f_X7_secondsOf_127 m u (nI b) (nI c) (nI (s0 + smm (gk um 4 pb) wn i)) (nI (max m0 (mx (gk um 4 pb) wn i))) t (nI i) = some (r, u) ∧ (((c = 0 ∧ (C ∨ wig um zb pb wn)) ∧ r = -1) ∨ (¬ (c = 0 ∧ (C ∨ wig um zb pb wn)) ∧ r = nI (max ((s0 + smm (gk um 4 pb) wn zb + c) / (c + 1)) (max m0 (mx (gk um 4 pb) wn zb))))) := by
  obtain ⟨hl12, hz, h11, hj⟩ := id lb
  have hb : ∀ i, i < zb → pb i < n := fun i hi => (hj i hi).2
  have l4 : ∀ i, i < zb → gk um 4 pb i ≤ 60 := fun i hi => (gk4 hv (hb i hi)).2.2
  intro m
  induction m with
  | zero => intro i t h1 h2; omega
  | succ m ih =>
    intro i t h1 h2 ht
    have b1 := smm_le (w := wn) (fun k hk => l4 k (show k < zb by omega)) (e := i)
    have b2 := mx_le (w := wn) (fun k hk => l4 k (show k < zb by omega)) (e := i)
    rw [f_X7_secondsOf_127, if_pos (inb_nI hl12 (by decide)), nI_clamp (show b < 2 ^ 31 by omega), h11]
    by_cases hi : i = zb
    · subst hi
      have a5 := Nat.div_le_self (s0 + smm (gk um 4 pb) wn i + c) (c + 1)
      have fin : (if (nI (s0 + smm (gk um 4 pb) wn i) + nI c) / (nI c + 1) ≤ nI (max m0 (mx (gk um 4 pb) wn i)) then some (nI (max m0 (mx (gk um 4 pb) wn i)), u) else some ((nI (s0 + smm (gk um 4 pb) wn i) + nI c) / (nI c + 1), u)) = some (nI (max ((s0 + smm (gk um 4 pb) wn i + c) / (c + 1)) (max m0 (mx (gk um 4 pb) wn i))), u) := by
        rw [nI_1, nI_add, pk_div (by omega) (by omega) (by omega)]
        rw [maxif (a := max m0 (mx (gk um 4 pb) wn i)) (b := (s0 + smm (gk um 4 pb) wn i + c) / (c + 1)) (by omega) (by omega) (fun x => some (x, u)), Nat.max_comm]
      rw [if_pos (Int32.le_refl _), if_neg (by rw [nI_1]; exact nI_ne0 (by omega) (by omega)), fin]
      by_cases c0 : nI c = 0
      · have c0' : c = 0 := (nI_eq (b := 0) (by omega) (by decide)).mp (c0.trans nI_0.symm)
        rw [if_pos c0]
        rcases ht with ⟨rfl, ht⟩ | ⟨rfl, ht⟩
        · rw [if_neg (by decide)]
          exact ⟨_, rfl, Or.inl ⟨⟨c0', ht⟩, rfl⟩⟩
        · rw [if_pos rfl]
          exact ⟨_, rfl, Or.inr ⟨fun q => ht q.2, rfl⟩⟩
      · rw [if_neg c0]
        exact ⟨_, rfl, Or.inr ⟨fun q => c0 (by rw [q.1]; rfl), rfl⟩⟩
    · have hlt : i < zb := by omega
      obtain ⟨a1, a2⟩ := ix8m hl12 (show i < 8 by omega)
      obtain ⟨j2, j1⟩ := hj i hlt
      obtain ⟨k1, k2, k3⟩ := gk4 hv j1
      rw [if_neg (nI_ge hlt (by omega)), if_pos a1, a2, j2, h27]
      have go : ∀ t', TB t' (C ∨ ∃ k, k < i + 1 ∧ tbit wn k ∧ um 1 (pb k) = 1) → _ := fun t' ht' => ih (i + 1) t' (by omega) (by omega) ht'
      rw [smm, mx] at go
      rcases (BP.self hwn).hasM u (show i < 8 by omega) with ⟨e, q⟩ | ⟨e, q⟩
      · rw [if_pos q, ← Nat.add_assoc s0 (smm (gk um 4 pb) wn i), ← Nat.max_assoc m0 (mx (gk um 4 pb) wn i)] at go
        rw [e, Option.bind_some, if_neg (by decide), if_pos (inb_nI (show pb i < 32 by omega) (by decide)), nI_clamp (show pb i < 2 ^ 31 by omega), hf.1 4 (by omega) (by omega), k1]
        unfold f_X7_secondsOf_175
        rw [maxif (a := max m0 (mx (gk um 4 pb) wn i)) (b := gk um 4 pb i) (by omega) (by omega) (fun x => f_X7_secondsOf_198 (f_X7_secondsOf_127 m) u (nI b) (nI c) (nI (s0 + smm (gk um 4 pb) wn i) + nI (gk um 4 pb i)) t (nI i) (nI (pb i)) (nI (gk um 4 pb i)) x)]
        unfold f_X7_secondsOf_198
        rw [if_neg (nI_nle (by omega) (by omega)), if_pos (inb_nI (show pb i < 32 by omega) (by decide)), nI_clamp (show pb i < 2 ^ 31 by omega), hf.1 1 (by omega) (by omega), nI_1, nI_add]
        by_cases w : um 1 (pb i) = 1
        · rw [if_pos w]
          exact go _ (or_ext ht (TB.yes ⟨q, w⟩))
        · rw [if_neg w]
          exact go _ (or_ext ht (TB.no (fun r => w r.2)))
      · rw [if_neg q, Nat.add_zero, Nat.max_eq_left (Nat.zero_le (mx (gk um 4 pb) wn i))] at go
        rw [e, Option.bind_some, if_pos rfl]
        unfold f_X7_secondsOf_175
        rw [if_pos (nI_pos' (by omega))]
        unfold f_X7_secondsOf_198
        rw [if_pos (Int32.le_refl _), Int32.add_zero, nI_1]
        exact go _ (or_ext ht (TB.no (fun r => q r.1)))
theorem m_sec19 {u um : St} {n a za b zb : Nat} {pa pb : Nat → Nat} (hf : FrM um u) (hn : n ≤ 32) (hv : VV um n) (la : LM u a za n pa) (lb : LM u b zb n pb) {wo wn : Nat} (hwo : wo < 256) (hwn : wn < 256) (h26 : u 0 26 = nI wo) (h27 : u 0 27 = nI wn) {c : Nat} (hc : c ≤ 3) : ∀ (m i : Nat) (t : Int32), za < i + m → i ≤ za → TB t (False ∨ ∃ k, k < i ∧ tbit wo k ∧ um 1 (pa k) = 1) → ∃ r, f_X7_secondsOf_19 m u (nI a) (nI b) (nI c) (nI (smm (gk um 5 pa) wo i)) (nI (mx (gk um 5 pa) wo i)) t (nI i) = some (r, u) ∧ ((NEV um za zb pa pb wo wn c ∧ r = -1) ∨ (¬ NEV um za zb pa pb wo wn c ∧ r = nI (SEC um za zb pa pb wo wn c))) := by
  obtain ⟨hl12, hz, h11, hj⟩ := id la
  have ha : ∀ i, i < za → pa i < n := fun i hi => (hj i hi).2
  have l5 : ∀ i, i < za → gk um 5 pa i ≤ 60 := fun i hi => (gk5 hv (ha i hi)).2.2
  intro m
  induction m with
  | zero => intro i t h1 h2; omega
  | succ m ih =>
    intro i t h1 h2 ht
    have b1 := smm_le (w := wo) (fun k hk => l5 k (show k < za by omega)) (e := i)
    have b2 := mx_le (w := wo) (fun k hk => l5 k (show k < za by omega)) (e := i)
    rw [f_X7_secondsOf_19, if_pos (inb_nI hl12 (by decide)), nI_clamp (show a < 2 ^ 31 by omega), h11]
    by_cases hi : i = za
    · subst hi
      rw [if_pos (Int32.le_refl _)]
      have hw : (False ∨ ∃ k, k < i ∧ tbit wo k ∧ um 1 (pa k) = 1) ↔ wig um i pa wo := ⟨fun q => q.elim False.elim id, Or.inr⟩
      obtain ⟨r, e1, e2⟩ := m_sec127 hf hn hv lb hwn h27 (s0 := smm (gk um 5 pa) wo i) (m0 := mx (gk um 5 pa) wo i) hc (by omega) b2 (C := wig um i pa wo) FU 0 t (FUz lb.2.1) (Nat.zero_le _) ((ht.congr hw).congr ⟨Or.inl, fun q => q.elim id (fun ⟨k, hk, _⟩ => by omega)⟩)
      rw [smm, mx, Nat.add_zero, Nat.max_eq_left (Nat.zero_le _)] at e1
      exact ⟨r, e1, e2⟩
    · have hlt : i < za := by omega
      obtain ⟨a1, a2⟩ := ix8m hl12 (show i < 8 by omega)
      obtain ⟨j2, j1⟩ := hj i hlt
      obtain ⟨k1, k2, k3⟩ := gk5 hv j1
      rw [if_neg (nI_ge hlt (by omega)), if_pos a1, a2, j2, h26]
      have go : ∀ t', TB t' (False ∨ ∃ k, k < i + 1 ∧ tbit wo k ∧ um 1 (pa k) = 1) → _ := fun t' ht' => ih (i + 1) t' (by omega) (by omega) ht'
      rw [smm, mx] at go
      rcases (BP.self hwo).hasM u (show i < 8 by omega) with ⟨e, q⟩ | ⟨e, q⟩
      · rw [if_pos q] at go
        rw [e, Option.bind_some, if_neg (by decide), if_pos (inb_nI (show pa i < 32 by omega) (by decide)), nI_clamp (show pa i < 2 ^ 31 by omega), hf.1 5 (by omega) (by omega), k1]
        unfold f_X7_secondsOf_67
        rw [maxif (a := mx (gk um 5 pa) wo i) (b := gk um 5 pa i) (by omega) (by omega) (fun x => f_X7_secondsOf_90 (f_X7_secondsOf_19 m) u (nI a) (nI b) (nI c) (nI (smm (gk um 5 pa) wo i) + nI (gk um 5 pa i)) t (nI i) (nI (pa i)) (nI (gk um 5 pa i)) x)]
        unfold f_X7_secondsOf_90
        rw [if_neg (nI_nle (by omega) (by omega)), if_pos (inb_nI (show pa i < 32 by omega) (by decide)), nI_clamp (show pa i < 2 ^ 31 by omega), hf.1 1 (by omega) (by omega), nI_1, nI_add]
        by_cases w : um 1 (pa i) = 1
        · rw [if_pos w]
          exact go _ (or_ext ht (TB.yes ⟨q, w⟩))
        · rw [if_neg w]
          exact go _ (or_ext ht (TB.no (fun r => w r.2)))
      · rw [if_neg q, Nat.add_zero, Nat.max_eq_left (Nat.zero_le (mx (gk um 5 pa) wo i))] at go
        rw [e, Option.bind_some, if_pos rfl]
        unfold f_X7_secondsOf_67
        rw [if_pos (nI_pos' (by omega))]
        unfold f_X7_secondsOf_90
        rw [if_pos (Int32.le_refl _), Int32.add_zero, nI_1]
        exact go _ (or_ext ht (TB.no (fun r => q r.1)))
/-- the seconds of what comes off and goes on, on both sides -/
theorem sec_both {u w um : St} {n a za b zb : Nat} {pa pb : Nat → Nat} (hp : PX u um za zb pa pb) (hf : FrM um w) (hn : n ≤ 32) (hv : VV um n) (la : LM w a za n pa) (lb : LM w b zb n pb) (ia : Inj pa za) (ib : Inj pb zb) {v : Nat} (hv8 : v < 256) {c : Nat} (hc : c ≤ 3) : ∃ u' w' q r, f_X1_handle u (nI v) = some u' ∧ HD u u' ∧ HT w w' ∧ f_X1_secondsWith u' (nI c) = some q ∧ f_X7_secondsOf w (nI a) (nI b) (nI v) (nI c) = some (r, w') ∧ ((q = 1000000 ∧ r = -1) ∨ ∃ s, s ≤ 1000 ∧ q = nI s ∧ r = nI s) := by
  obtain ⟨u', i1, i2, i3, i4⟩ := x_handle hp la.2.1 lb.2.1 ia ib hv8
  obtain ⟨w', j1, j2, j3, j4⟩ := m_tell hf hn la lb ia ib hv8
  have eo : u' 7 14 = w' 0 26 := i3.eq j3
  have en : u' 7 15 = w' 0 27 := i4.eq j4
  obtain ⟨wo, hwo, e26, -⟩ := j3
  obtain ⟨wn, hwn, e27, -⟩ := j4
  have ha : ∀ i, i < za → pa i < n := fun i hi => (la.2.2.2 i hi).2
  have hb : ∀ i, i < zb → pb i < n := fun i hi => (lb.2.2.2 i hi).2
  obtain ⟨q, q1, q2⟩ := x_sec (hp.hd i2) hv la.2.1 lb.2.1 ha hb hwo hwn (eo.trans e26) (en.trans e27) hc
  obtain ⟨r, r1, r2⟩ := m_sec19 (hf.tr j2.fr) hn hv (la.fr j2.fr) (lb.fr j2.fr) hwo hwn e26 e27 hc FU 0 0 (FUz la.2.1) (Nat.zero_le _) (TB.no (fun q => q.elim id (fun ⟨k, hk, _⟩ => by omega)))
  refine ⟨u', w', q, r, i1, i2, j2, q1, ?_, ?_⟩
  · unfold f_X7_secondsOf
    rw [j1, Option.bind_some]
    exact r1
  · rcases q2 with ⟨n1, q2⟩ | ⟨n1, q2⟩
    · rcases r2 with ⟨n2, r2⟩ | ⟨n2, r2⟩
      · exact Or.inl ⟨q2, r2⟩
      · exact absurd n1 n2
    · rcases r2 with ⟨n2, r2⟩ | ⟨n2, r2⟩
      · exact absurd n2 n1
      · exact Or.inr ⟨_, SEC_le hv la.2.1 lb.2.1 ha hb wo wn hc, q2, r2⟩
theorem al_seconds {ux um : St} (h : R ux um) (a b x w : Int32) : Both (f_X6_seconds ux a b x w) (f_X7_seconds um a b x w) := by
  rcases chg h a b x with ⟨e1, e2⟩ | ⟨e1, e2, n, ka, kb, za, zb, v, pa, pb, rfl, rfl, rfl, hv2, hv8, hc, hv, xa, xb, ma, mb, ia, ib⟩
  · exact bf1 h (by simp [f_X6_seconds, e1, e_x1]) (by simp [f_X7_seconds, e2, e_m1])
  cases hw : win w 0 3
  · exact bf1 h (by simp [f_X6_seconds, e1, e_isWithin, hw, e_x1]) (by simp [f_X7_seconds, e2, e_isIn, hw, e_m1])
  obtain ⟨u', g1, g2, g3⟩ := x_prepare hc hv xa xb ib
  obtain ⟨r, r1, r2⟩ := x_may g3 xa.2.1 xb.2.1 hv8 (u' 0 9)
  obtain ⟨s, s1, s2⟩ := m_all (FrM.rf um) hc.1 hv ma mb hv8
  rw [g2 0 (by omega), h.lim] at r2
  have hrs := r2.eq s2
  subst hrs
  have ex : f_X6_isAllowed ux (nI ka) (nI kb) (nI v) = some (r, u') := by
    simp only [f_X6_isAllowed, g1, Option.bind_some, r1, if_pos r2.b01]
  rcases r2 with ⟨rfl, -⟩ | ⟨rfl, -⟩
  · obtain ⟨k, hk, rfl⟩ := (win_nI (n := 3) (by decide) 3 rfl).mp hw
    obtain ⟨u2, w2, q, r, i1, i2, i3, i4, i5, i6⟩ := sec_both g3 (FrM.rf um) hc.1 hv ma mb ia ib hv8 hk
    have hR : R u2 w2 := h.fr (g2.tr i2.fr) i3.fr
    rcases i6 with ⟨rfl, rfl⟩ | ⟨z, hz, rfl, rfl⟩
    · exact bf2 hR (by simp [f_X6_seconds, e1, e_isWithin, hw, ex, i1, i4, e_x2]) (by simp [f_X7_seconds, e2, e_isIn, hw, s1, i5, show ¬ (0 : Int32) ≤ -1 by decide, e_m2])
    · have hne : ¬ nI z = 1000000 := fun q => by have := (nI_eq (b := 1000000) (by omega) (by decide)).mp q; omega
      have hpos : (0 : Int32) ≤ nI z := nI_pos' (by omega)
      exact ⟨(nI z, u2), (nI z, w2), by simp [f_X6_seconds, e1, e_isWithin, hw, ex, i1, i4, hne], by simp [f_X7_seconds, e2, e_isIn, hw, s1, i5, hpos], rfl, hR⟩
  · have h3 := h.fr g2 (FrM.rf um)
    exact bf3 h3 (by simp [f_X6_seconds, e1, e_isWithin, hw, ex, e_x3]) (by simp [f_X7_seconds, e2, e_isIn, hw, s1, e_m3])
