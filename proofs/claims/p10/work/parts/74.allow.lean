/-! ===== what may lie beneath ===== -/
/-- an int as a truth value -/
def TB (t : Int32) (C : Prop) : Prop := (t = 1 ∧ C) ∨ (t = 0 ∧ ¬ C)
theorem TB.and {a b : Int32} {C D : Prop} (h1 : TB a C) (h2 : TB b D) : TB (a &&& b) (C ∧ D) := by
  rcases h1 with ⟨rfl, c⟩ | ⟨rfl, c⟩ <;> rcases h2 with ⟨rfl, d⟩ | ⟨rfl, d⟩
  · exact Or.inl ⟨rfl, c, d⟩
  · exact Or.inr ⟨rfl, fun w => d w.2⟩
  · exact Or.inr ⟨rfl, fun w => c w.1⟩
  · exact Or.inr ⟨rfl, fun w => c w.1⟩
theorem TB.or {a b : Int32} {C D : Prop} (h1 : TB a C) (h2 : TB b D) : TB (a ||| b) (C ∨ D) := by
  rcases h1 with ⟨rfl, c⟩ | ⟨rfl, c⟩ <;> rcases h2 with ⟨rfl, d⟩ | ⟨rfl, d⟩
  · exact Or.inl ⟨rfl, Or.inl c⟩
  · exact Or.inl ⟨rfl, Or.inl c⟩
  · exact Or.inl ⟨rfl, Or.inr d⟩
  · exact Or.inr ⟨rfl, fun w => w.elim c d⟩
theorem TB.congr {t : Int32} {C D : Prop} (h : TB t C) (e : C ↔ D) : TB t D := by
  rcases h with ⟨a, c⟩ | ⟨a, c⟩
  · exact Or.inl ⟨a, e.mp c⟩
  · exact Or.inr ⟨a, fun d => c (e.mpr d)⟩
theorem TB.yes {C : Prop} (h : C) : TB 1 C := Or.inl ⟨rfl, h⟩
theorem TB.no {C : Prop} (h : ¬ C) : TB 0 C := Or.inr ⟨rfl, h⟩
theorem TB.b01 {t : Int32} {C : Prop} (h : TB t C) : t = 0 ∨ t = 1 := by
  rcases h with ⟨a, -⟩ | ⟨a, -⟩
  · exact Or.inr a
  · exact Or.inl a
theorem TB.eq {t s : Int32} {C : Prop} (h1 : TB t C) (h2 : TB s C) : t = s := by
  rcases h1 with ⟨rfl, c⟩ | ⟨rfl, c⟩ <;> rcases h2 with ⟨rfl, d⟩ | ⟨rfl, d⟩
  · rfl
  · exact absurd c d
  · exact absurd d c
  · rfl
/-- one that is told to lie beneath may -/
def AL1 (um : St) (za : Nat) (pa pb : Nat → Nat) (v : Nat) (lim : Int32) (j : Nat) : Prop := v.testBit j = true → (∀ i, i < za → pa i ≠ pb j) ∧ (∀ k, k < j → um 2 (pb k) = um 2 (pb j) → v.testBit k = true) ∧ nI (pile um za pa pb j) ≤ lim
def AL (um : St) (za zb : Nat) (pa pb : Nat → Nat) (v : Nat) (lim : Int32) : Prop := ∀ j, j < zb → AL1 um za pa pb v lim j
theorem x_may0 {u um : St} {za zb : Nat} {pa pb : Nat → Nat} (hp : PX u um za zb pa pb) (hza : za ≤ 8) (hzb : zb ≤ 8) {v : Nat} (hv : v < 256) (lim : Int32) : ∀ (m i : Nat), zb < i + m → i ≤ zb → (∀ j, j < i → AL1 um za pa pb v lim j) → ∃ r, f_X1_mayLieBeneath_2 u m (nI v) lim (nI i) = some r ∧ TB r (AL um za zb pa pb v lim) := by
  obtain ⟨p2, p3, p4, p5, p6, hA, hB⟩ := hp
  intro m
  induction m with
  | zero => intro i h1 h2; omega
  | succ m ih =>
    intro i h1 h2 h3
    rw [f_X1_mayLieBeneath_2, p3]
    by_cases hi : i = zb
    · subst hi; exact ⟨1, if_pos (Int32.le_refl _), TB.yes h3⟩
    · have hlt : i < zb := by omega
      obtain ⟨b1, b2, b3, b4⟩ := hB i hlt
      rw [if_neg (nI_ge hlt (by omega)), if_pos (inb_nI (show i < 8 by omega) (by decide)), nI_clamp (by omega), nI_1]
      have go : AL1 um za pa pb v lim i → ∃ r, f_X1_mayLieBeneath_2 u m (nI v) lim (nI (i + 1)) = some r ∧ TB r (AL um za zb pa pb v lim) := fun q => ih (i + 1) (by omega) (by omega) (fun j hj => by
        by_cases w : j = i
        · subst w; exact q
        · exact h3 j (by omega))
      have no : ¬ AL1 um za pa pb v lim i → TB 0 (AL um za zb pa pb v lim) := fun q => TB.no (fun w => q (w i hlt))
      rcases (BP.self hv).hasX u (show i < 8 by omega) with ⟨e, q⟩ | ⟨e, q⟩
      · rw [e, Option.bind_some, if_neg (by decide)]
        by_cases c : (0 : Int32) ≤ u 9 i
        · rw [if_pos c]
          refine ⟨0, rfl, no (fun w => ?_)⟩
          exact absurd ((b1.neg hza).mpr (w q).1) (i_nlt.mpr c)
        · rw [if_neg c]
          have c' := (b1.neg hza).mp (i_nle.mp c)
          have hn := b2.andn0 (BP.self hv)
          by_cases d : u 11 i &&& (nI v ^^^ (-1)) = 0
          · rw [if_pos d, b3]
            have d' := hn.mp d
            by_cases f : nI (pile um za pa pb i) ≤ lim
            · rw [if_pos f]
              exact go (fun _ => ⟨c', fun k hk hpl => d' k (by omega) ⟨hk, hpl⟩, f⟩)
            · rw [if_neg f]
              exact ⟨0, rfl, no (fun w => f (w q).2.2)⟩
          · rw [if_neg d]
            exact ⟨0, rfl, no (fun w => d (hn.mpr (fun k _ hk => (w q).2.1 k hk.1 hk.2)))⟩
      · rw [e, Option.bind_some, if_pos rfl]
        exact go (fun w => absurd w q)
theorem x_may {u um : St} {za zb : Nat} {pa pb : Nat → Nat} (hp : PX u um za zb pa pb) (hza : za ≤ 8) (hzb : zb ≤ 8) {v : Nat} (hv : v < 256) (lim : Int32) : ∃ r, f_X1_mayLieBeneath u (nI v) lim = some r ∧ TB r (AL um za zb pa pb v lim) := x_may0 hp hza hzb hv lim FU 0 (FUz hzb) (Nat.zero_le _) (fun j hj => by omega)
/-! the reference -/
/-- how thick those beneath are at the place of q -/
def tb (um : St) (f : Nat → Nat) (v q : Nat) : Nat → Nat
  | 0 => 0
  | e + 1 => tb um f v q e + if v.testBit e = true ∧ um 2 (f e) = um 2 q then tk um (f e) else 0
theorem m_thick83 {u um : St} {n l z : Nat} {p : Nat → Nat} (hf : FrM um u) (hn : n ≤ 32) (hv : VV um n) (hl : LM u l z n p) (q c : Nat) : ∀ (m i : Nat), z < i + m → i ≤ z → f_X7_thickAt_83 u m (nI l) (um 2 q) (nI (c + ts um p q i)) (nI i) = some (nI (c + ts um p q z)) := by
  obtain ⟨hl12, hz, h11, hj⟩ := hl
  intro m
  induction m with
  | zero => intro i h1 h2; omega
  | succ m ih =>
    intro i h1 h2
    rw [f_X7_thickAt_83, if_pos (inb_nI hl12 (by decide)), nI_clamp (show l < 2 ^ 31 by omega), h11]
    by_cases hi : i = z
    · subst hi; rw [if_pos (Int32.le_refl _)]
    · obtain ⟨a1, a2⟩ := ix8m hl12 (show i < 8 by omega)
      obtain ⟨j2, j1⟩ := hj i (by omega)
      rw [if_neg (nI_ge (show i < z by omega) (by omega)), if_pos a1, a2, j2, if_pos (inb_nI (show p i < 32 by omega) (by decide)), nI_clamp (show p i < 2 ^ 31 by omega), hf.1 2 (by omega) (by omega), hf.1 3 (by omega) (by omega), nI_1]
      have g := ih (i + 1) (by omega) (by omega)
      rw [ts] at g
      by_cases w : um 2 (p i) = um 2 q
      · rw [if_pos w] at g ⊢
        rw [(tk_nI (hv _ j1)).1, nI_add, Nat.add_assoc]
        exact g
      · rw [if_neg w, Nat.add_zero] at g
        rw [if_neg w, Int32.add_zero]
        exact g
theorem m_thick6 {u um : St} {n a za b zb : Nat} {pa pb : Nat → Nat} (hf : FrM um u) (hn : n ≤ 32) (hv : VV um n) (la : LM u a za n pa) (lb : LM u b zb n pb) {v : Nat} (hv8 : v < 256) (q : Nat) : ∀ (m i : Nat), zb < i + m → i ≤ zb → f_X7_thickAt_6 u m (nI a) (nI b) (nI v) (um 2 q) (nI (tb um pb v q i)) (nI i) = some (nI (tb um pb v q zb + ts um pa q za)) := by
  obtain ⟨hl12, hz, h11, hj⟩ := id lb
  intro m
  induction m with
  | zero => intro i h1 h2; omega
  | succ m ih =>
    intro i h1 h2
    rw [f_X7_thickAt_6, if_pos (inb_nI hl12 (by decide)), nI_clamp (show b < 2 ^ 31 by omega), h11]
    by_cases hi : i = zb
    · subst hi
      rw [if_pos (Int32.le_refl _)]
      exact m_thick83 hf hn hv la q _ FU 0 (FUz la.2.1) (Nat.zero_le _)
    · obtain ⟨a1, a2⟩ := ix8m hl12 (show i < 8 by omega)
      obtain ⟨j2, j1⟩ := hj i (by omega)
      have g := ih (i + 1) (by omega) (by omega)
      rw [tb] at g
      rw [if_neg (nI_ge (show i < zb by omega) (by omega)), nI_1]
      rcases (BP.self hv8).hasM u (show i < 8 by omega) with ⟨e, r⟩ | ⟨e, r⟩
      · rw [e, Option.bind_some, if_neg (by decide), if_pos a1, a2, j2, if_pos (inb_nI (show pb i < 32 by omega) (by decide)), nI_clamp (show pb i < 2 ^ 31 by omega), hf.1 2 (by omega) (by omega), hf.1 3 (by omega) (by omega)]
        by_cases w : um 2 (pb i) = um 2 q
        · rw [if_pos ⟨r, w⟩] at g
          rw [if_pos w, (tk_nI (hv _ j1)).1, nI_add]
          exact g
        · rw [if_neg (fun w' => w w'.2), Nat.add_zero] at g
          rw [if_neg w, Int32.add_zero]
          exact g
      · rw [if_neg (fun w' => r w'.1), Nat.add_zero] at g
        rw [e, Option.bind_some, if_pos rfl, Int32.add_zero]
        exact g
theorem m_thick {u um : St} {n a za b zb : Nat} {pa pb : Nat → Nat} (hf : FrM um u) (hn : n ≤ 32) (hv : VV um n) (la : LM u a za n pa) (lb : LM u b zb n pb) {v : Nat} (hv8 : v < 256) (q : Nat) : f_X7_thickAt u (nI a) (nI b) (nI v) (um 2 q) = some (nI (tb um pb v q zb + ts um pa q za)) := m_thick6 hf hn hv la lb hv8 q FU 0 (FUz lb.2.1) (Nat.zero_le _)
/-- the reference's words: of one beneath and another of b -/
def M2 (um : St) (za : Nat) (pa pb : Nat → Nat) (v i k : Nat) : Prop := um 2 (pb k) = um 2 (pb i) → (i < k ∨ v.testBit k = true) ∧ (i ≤ k ∨ ∀ e, e < za → pa e ≠ pb k)
def M1 (um : St) (za zb : Nat) (pa pb : Nat → Nat) (v : Nat) (lim : Int32) (i : Nat) : Prop := v.testBit i = true → ((∀ e, e < za → pa e ≠ pb i) ∧ ∀ k, k < zb → M2 um za pa pb v i k) ∧ nI (tb um pb v (pb i) zb + ts um pa (pb i) za) ≤ lim
theorem m_all63 {u um : St} {n a za b zb : Nat} {pa pb : Nat → Nat} (hf : FrM um u) (hn : n ≤ 32) (hv : VV um n) (la : LM u a za n pa) (lb : LM u b zb n pb) {v : Nat} (hv8 : v < 256) {i : Nat} (hi : i < zb) (C : Prop) (k6 : Int32 → Int32 → Int32 → Int32 → Int32 → Option (Int32)) {F : Prop} (hk : ∀ t, TB t ((C ∧ ∀ k, k < zb → M2 um za pa pb v i k) ∧ nI (tb um pb v (pb i) zb + ts um pa (pb i) za) ≤ um 0 13) → ∃ r, k6 (nI a) (nI b) (nI v) t (nI (i + 1)) = some r ∧ TB r F) : ∀ (m s : Nat) (t : Int32), zb < s + m → s ≤ zb → TB t (C ∧ ∀ k, k < s → M2 um za pa pb v i k) → ∃ r, f_X7_isAllowed_63 k6 u m (nI a) (nI b) (nI v) t (nI i) (nI (pb i)) (nI s) = some r ∧ TB r F := by
  obtain ⟨hl12, hz, h11, hj⟩ := id lb
  have hpi := (hj i hi).2
  intro m
  induction m with
  | zero => intro s t h1 h2; omega
  | succ m ih =>
    intro s t h1 h2 ht
    rw [f_X7_isAllowed_63, if_pos (inb_nI hl12 (by decide)), nI_clamp (show b < 2 ^ 31 by omega), h11]
    by_cases hs : s = zb
    · subst hs
      rw [if_pos (Int32.le_refl _), if_pos (inb_nI (show pb i < 32 by omega) (by decide)), nI_clamp (show pb i < 2 ^ 31 by omega), hf.1 2 (by omega) (by omega), m_thick hf hn hv la lb hv8, Option.bind_some, nI_1, hf.2 13 (by omega)]
      split
      · rename_i w
        exact hk _ (ht.and (TB.no (fun q => absurd q (i_nle.mpr w))))
      · rename_i w
        exact hk _ (ht.and (TB.yes (i_nlt.mp w)))
    · obtain ⟨a1, a2⟩ := ix8m hl12 (show s < 8 by omega)
      obtain ⟨j2, j1⟩ := hj s (by omega)
      have h128 : ∀ s1, TB s1 (um 2 (pb s) = um 2 (pb i) → (i < s ∨ v.testBit s = true)) → ∃ r, f_X7_isAllowed_128 (f_X7_isAllowed_63 k6 u m) u (nI a) (nI b) (nI v) (nI i) (nI (pb i)) (nI s) (nI (pb s)) t s1 = some r ∧ TB r F := by
        intro s1 hs1
        unfold f_X7_isAllowed_128
        rw [if_pos (inb_nI (show pb s < 32 by omega) (by decide)), if_pos (inb_nI (show pb i < 32 by omega) (by decide)), nI_clamp (show pb s < 2 ^ 31 by omega), nI_clamp (show pb i < 2 ^ 31 by omega), hf.1 2 (by omega) (by omega), nI_1]
        have go : ∀ s2, TB s2 (um 2 (pb s) = um 2 (pb i) → (i ≤ s ∨ ∀ e, e < za → pa e ≠ pb s)) → ∃ r, f_X7_isAllowed_63 k6 u m (nI a) (nI b) (nI v) ((t &&& s1) &&& s2) (nI i) (nI (pb i)) (nI (s + 1)) = some r ∧ TB r F := fun s2 hs2 => by
          refine ih (s + 1) _ (by omega) (by omega) (((ht.and hs1).and hs2).congr ?_)
          constructor
          · rintro ⟨⟨⟨c, w1⟩, w2⟩, w3⟩
            refine ⟨c, fun k hk => ?_⟩
            by_cases q : k = s
            · subst q; exact fun e => ⟨w2 e, w3 e⟩
            · exact w1 k (by omega)
          · rintro ⟨c, w⟩
            exact ⟨⟨⟨c, fun k hk => w k (by omega)⟩, fun e => (w s (by omega) e).1⟩, fun e => (w s (by omega) e).2⟩
        by_cases w : um 2 (pb s) = um 2 (pb i)
        · rw [if_pos w]
          by_cases d : nI i ≤ nI s
          · rw [if_pos d]
            exact go 1 (TB.yes (fun _ => Or.inl ((nI_leI (by omega) (by omega)).mp d)))
          · rw [if_neg d]
            have d' : ¬ i ≤ s := mt (nI_leI (by omega) (by omega)).mpr d
            obtain ⟨x, ex, hx⟩ := la.row hn j1
            rw [ex, Option.bind_some]
            have hneg := hx.neg la.2.1
            by_cases f : 0 ≤ x
            · rw [if_pos f]
              refine go 0 (TB.no (fun q => ?_))
              rcases q w with q | q
              · exact d' q
              · exact absurd (hneg.mpr q) (i_nlt.mpr f)
            · rw [if_neg f]
              exact go 1 (TB.yes (fun _ => Or.inr (hneg.mp (i_nle.mp f))))
        · rw [if_neg w]
          exact go 1 (TB.yes (fun q => absurd q w))
      rw [if_neg (nI_ge (show s < zb by omega) (by omega)), if_pos a1, a2, j2, if_pos (inb_nI (show pb s < 32 by omega) (by decide)), if_pos (inb_nI (show pb i < 32 by omega) (by decide)), nI_clamp (show pb s < 2 ^ 31 by omega), nI_clamp (show pb i < 2 ^ 31 by omega), hf.1 2 (by omega) (by omega)]
      by_cases w : um 2 (pb s) = um 2 (pb i)
      · rw [if_pos w]
        by_cases d : nI i < nI s
        · rw [if_pos d]
          exact h128 1 (TB.yes (fun _ => Or.inl ((nI_ltI (by omega) (by omega)).mp d)))
        · rw [if_neg d]
          have d' : ¬ i < s := mt (nI_ltI (by omega) (by omega)).mpr d
          rcases (BP.self hv8).hasM u (show s < 8 by omega) with ⟨e, r⟩ | ⟨e, r⟩
          · rw [e, Option.bind_some, if_neg (by decide)]
            exact h128 1 (TB.yes (fun _ => Or.inr r))
          · rw [e, Option.bind_some, if_pos rfl]
            exact h128 0 (TB.no (fun q => (q w).elim d' r))
      · rw [if_neg w]
        exact h128 1 (TB.yes (fun q => absurd q w))
theorem m_all6 {u um : St} {n a za b zb : Nat} {pa pb : Nat → Nat} (hf : FrM um u) (hn : n ≤ 32) (hv : VV um n) (la : LM u a za n pa) (lb : LM u b zb n pb) {v : Nat} (hv8 : v < 256) : ∀ (m i : Nat) (t : Int32), zb < i + m → i ≤ zb → TB t (∀ j, j < i → M1 um za zb pa pb v (um 0 13) j) → ∃ r, f_X7_isAllowed_6 u m (nI a) (nI b) (nI v) t (nI i) = some r ∧ TB r (∀ j, j < zb → M1 um za zb pa pb v (um 0 13) j) := by
  obtain ⟨hl12, hz, h11, hj⟩ := id lb
  intro m
  induction m with
  | zero => intro i t h1 h2; omega
  | succ m ih =>
    intro i t h1 h2 ht
    rw [f_X7_isAllowed_6, if_pos (inb_nI hl12 (by decide)), nI_clamp (show b < 2 ^ 31 by omega), h11]
    by_cases hi : i = zb
    · subst hi
      rw [if_pos (Int32.le_refl _), if_pos ht.b01]
      exact ⟨t, rfl, ht⟩
    · have hlt : i < zb := by omega
      obtain ⟨a1, a2⟩ := ix8m hl12 (show i < 8 by omega)
      obtain ⟨j2, j1⟩ := hj i hlt
      rw [if_neg (nI_ge hlt (by omega)), if_pos a1, a2, j2, nI_1]
      have step : ∀ D : Prop, (D ↔ M1 um za zb pa pb v (um 0 13) i) → ((∀ j, j < i → M1 um za zb pa pb v (um 0 13) j) ∧ D ↔ ∀ j, j < i + 1 → M1 um za zb pa pb v (um 0 13) j) := fun D hD => by
        constructor
        · rintro ⟨w1, w2⟩ j hj'
          by_cases q : j = i
          · subst q; exact hD.mp w2
          · exact w1 j (by omega)
        · intro w
          exact ⟨fun j hj' => w j (by omega), hD.mpr (w i (by omega))⟩
      rcases (BP.self hv8).hasM u (show i < 8 by omega) with ⟨e, r⟩ | ⟨e, r⟩
      · obtain ⟨x, ex, hx⟩ := la.row hn j1
        have hneg := hx.neg la.2.1
        rw [e, Option.bind_some, if_neg (by decide), ex, Option.bind_some]
        have go : ∀ s2, TB s2 (∀ e, e < za → pa e ≠ pb i) → ∃ r, f_X7_isAllowed_63 (f_X7_isAllowed_6 u m) u FU (nI a) (nI b) (nI v) (t &&& s2) (nI i) (nI (pb i)) 0 = some r ∧ TB r (∀ j, j < zb → M1 um za zb pa pb v (um 0 13) j) := fun s2 hs2 => by
          refine m_all63 hf hn hv la lb hv8 hlt ((∀ j, j < i → M1 um za zb pa pb v (um 0 13) j) ∧ ∀ e, e < za → pa e ≠ pb i) (f_X7_isAllowed_6 u m) (fun t' ht' => ih (i + 1) t' (by omega) (by omega) (ht'.congr ?_)) FU 0 _ (FUz hz) (Nat.zero_le _) ((ht.and hs2).congr ⟨fun w => ⟨w, fun k hk => by omega⟩, fun w => w.1⟩)
          rw [← step (((∀ e, e < za → pa e ≠ pb i) ∧ ∀ k, k < zb → M2 um za pa pb v i k) ∧ nI (tb um pb v (pb i) zb + ts um pa (pb i) za) ≤ um 0 13) ⟨fun w _ => w, fun w => w r⟩]
          constructor
          · rintro ⟨⟨⟨w1, w2⟩, w3⟩, w4⟩; exact ⟨w1, ⟨w2, w3⟩, w4⟩
          · rintro ⟨w1, ⟨w2, w3⟩, w4⟩; exact ⟨⟨⟨w1, w2⟩, w3⟩, w4⟩
        by_cases f : 0 ≤ x
        · rw [if_pos f]
          exact go 0 (TB.no (fun q => absurd (hneg.mpr q) (i_nlt.mpr f)))
        · rw [if_neg f]
          exact go 1 (TB.yes (hneg.mp (i_nle.mp f)))
      · rw [e, Option.bind_some, if_pos rfl]
        refine ih (i + 1) t (by omega) (by omega) (ht.congr ?_)
        rw [← step True ⟨fun _ w => absurd w r, fun _ => trivial⟩]
        exact ⟨fun w => ⟨w, trivial⟩, fun w => w.1⟩
/-! the two say the same -/
theorem ts_cong {um : St} {f : Nat → Nat} {q q' : Nat} (h : um 2 q = um 2 q') : ∀ e, ts um f q e = ts um f q' e
  | 0 => rfl
  | e + 1 => by rw [ts, ts, ts_cong h e, h]
theorem tb_cong {um : St} {f : Nat → Nat} {v q q' : Nat} (h : um 2 q = um 2 q') : ∀ e, tb um f v q e = tb um f v q' e
  | 0 => rfl
  | e + 1 => by rw [tb, tb, tb_cong h e, h]
theorem tb_ts {um : St} {f : Nat → Nat} {v q : Nat} : ∀ {e : Nat}, (∀ k, k < e → um 2 (f k) = um 2 q → v.testBit k = true) → tb um f v q e = ts um f q e
  | 0, _ => rfl
  | e + 1, h => by
    rw [tb, ts, tb_ts (fun k hk => h k (by omega))]
    by_cases w : um 2 (f e) = um 2 q
    · rw [if_pos ⟨h e (by omega) w, w⟩, if_pos w]
    · rw [if_neg (fun r => w r.2), if_neg w]
theorem tb_mono {um : St} {f : Nat → Nat} {v q : Nat} {a : Nat} : ∀ {e : Nat}, a ≤ e → tb um f v q a ≤ tb um f v q e
  | 0, h => by rw [show a = 0 by omega]; exact Nat.le_refl _
  | e + 1, h => by
    by_cases w : a = e + 1
    · rw [w]; exact Nat.le_refl _
    · have := tb_mono (um := um) (f := f) (v := v) (q := q) (show a ≤ e by omega)
      rw [tb]; omega
theorem tb_le {um : St} {n : Nat} (hv : VV um n) {f : Nat → Nat} {v q : Nat} : ∀ {e : Nat}, (∀ k, k < e → f k < n) → tb um f v q e ≤ 5 * e
  | 0, _ => Nat.le_refl _
  | e + 1, h => by
    have := tb_le hv (f := f) (v := v) (q := q) (e := e) (fun k hk => h k (by omega))
    have t := (tk_nI (hv _ (h e (by omega)))).2.2
    rw [tb]
    split <;> omega
theorem ts_le {um : St} {n : Nat} (hv : VV um n) {f : Nat → Nat} {q : Nat} : ∀ {e : Nat}, (∀ k, k < e → f k < n) → ts um f q e ≤ 5 * e
  | 0, _ => Nat.le_refl _
  | e + 1, h => by
    have := ts_le hv (f := f) (q := q) (e := e) (fun k hk => h k (by omega))
    have t := (tk_nI (hv _ (h e (by omega)))).2.2
    rw [ts]
    split <;> omega
theorem al_iff {um : St} {n za zb : Nat} {pa pb : Nat → Nat} (hv : VV um n) (hza : za ≤ 8) (hzb : zb ≤ 8) (ha : ∀ i, i < za → pa i < n) (hb : ∀ i, i < zb → pb i < n) (v : Nat) (lim : Int32) : AL um za zb pa pb v lim ↔ ∀ j, j < zb → M1 um za zb pa pb v lim j := by
  constructor
  · intro h i hi bi
    obtain ⟨h1, h2, h3⟩ := h i hi bi
    refine ⟨⟨h1, fun k hk e => ⟨?_, ?_⟩⟩, ?_⟩
    · rcases Nat.lt_trichotomy k i with q | q | q
      · exact Or.inr (h2 k q e)
      · exact Or.inr (q ▸ bi)
      · exact Or.inl q
    · rcases Nat.lt_or_ge k i with q | q
      · exact Or.inr (h k hk (h2 k q e)).1
      · exact Or.inl q
    · have key : ∀ e, e ≤ zb → (∃ k, k < e ∧ v.testBit k = true ∧ um 2 (pb k) = um 2 (pb i)) → nI (tb um pb v (pb i) e + ts um pa (pb i) za) ≤ lim := by
        intro e
        induction e with
        | zero => rintro - ⟨k, hk, -⟩; omega
        | succ e ih =>
          rintro he ⟨k, hk, bk, ek⟩
          rw [tb]
          by_cases w : v.testBit e = true ∧ um 2 (pb e) = um 2 (pb i)
          · obtain ⟨g1, g2, g3⟩ := h e (by omega) w.1
            rw [if_pos w, tb_ts (fun k hk ek => g2 k hk (ek.trans w.2.symm))]
            unfold pile at g3
            rw [ts_cong w.2, ts_cong w.2] at g3
            rw [show ts um pb (pb i) e + tk um (pb e) + ts um pa (pb i) za = ts um pa (pb i) za + ts um pb (pb i) e + tk um (pb e) by omega]
            exact g3
          · rw [if_neg w, Nat.add_zero]
            refine ih (by omega) ⟨k, ?_, bk, ek⟩
            rcases Nat.lt_or_ge k e with q | q
            · exact q
            · have : k = e := by omega
              subst this
              exact absurd ⟨bk, ek⟩ w
      exact key zb (Nat.le_refl _) ⟨i, hi, bi, rfl⟩
  · intro h j hj bj
    obtain ⟨⟨h1, h2⟩, h3⟩ := h j hj bj
    have g2 : ∀ k, k < j → um 2 (pb k) = um 2 (pb j) → v.testBit k = true := fun k hk e => by
      rcases (h2 k (by omega) e).1 with q | q
      · omega
      · exact q
    refine ⟨h1, g2, Int32.le_trans (nI_le ?_ ?_) h3⟩
    · have e1 := tb_mono (um := um) (f := pb) (v := v) (q := pb j) (show j + 1 ≤ zb by omega)
      rw [tb, if_pos ⟨bj, rfl⟩, tb_ts g2] at e1
      unfold pile
      omega
    · have e1 := tb_le hv (v := v) (q := pb j) hb
      have e2 := ts_le hv (q := pb j) ha
      omega
theorem m_all {u um : St} {n a za b zb : Nat} {pa pb : Nat → Nat} (hf : FrM um u) (hn : n ≤ 32) (hv : VV um n) (la : LM u a za n pa) (lb : LM u b zb n pb) {v : Nat} (hv8 : v < 256) : ∃ r, f_X7_isAllowed u (nI a) (nI b) (nI v) = some r ∧ TB r (AL um za zb pa pb v (um 0 13)) := by
  obtain ⟨r, e, h⟩ := m_all6 hf hn hv la lb hv8 FU 0 1 (FUz lb.2.1) (Nat.zero_le _) (TB.yes (fun j hj => by omega))
  exact ⟨r, e, h.congr (al_iff hv la.2.1 lb.2.1 (fun i hi => (la.2.2.2 i hi).2) (fun i hi => (lb.2.2.2 i hi).2) v _).symm⟩
/-! changes that are told -/
theorem x_all (x : Int32) : x = nI x.toBitVec.toNat := by
  apply Int32.toBitVec.inj
  show x.toBitVec = BitVec.ofNat 32 x.toBitVec.toNat
  simp
theorem sh8 : ∀ z, z < 9 → (((nI z).toUInt32 &&& Int32.toUInt32 31).toBitVec % 32).toNat = z := by decide
theorem x_bits {u : St} {b zb n : Nat} {pb : Nat → Nat} (lb : LX u b zb n pb) (x : Int32) : (f_X2_hasBits u (nI b) x = some 1 ∧ ∃ v, v < 2 ^ zb ∧ x = nI v) ∨ (f_X2_hasBits u (nI b) x = some 0 ∧ ¬ ∃ v, v < 2 ^ zb ∧ x = nI v) := by
  unfold f_X2_hasBits
  rw [e_sizeOf u lb.1, Option.bind_some, lb.2.2.1]
  have hz := lb.2.1
  have hpw := pw_le hz
  have k := pk_ushr x (nI zb) zb (sh8 zb (by omega))
  by_cases c : jushr x (nI zb) = 0
  · rw [if_pos c]
    refine Or.inl ⟨rfl, x.toBitVec.toNat, ?_, x_all x⟩
    have c' : (x.toUInt32 >>> ((nI zb).toUInt32 &&& Int32.toUInt32 31)).toInt32 = 0 := c
    rw [c'] at k
    have k' : x.toBitVec.toNat / 2 ^ zb = 0 := k.symm
    rcases Nat.lt_or_ge x.toBitVec.toNat (2 ^ zb) with q | q
    · exact q
    · have := Nat.div_pos q (Nat.two_pow_pos zb)
      omega
  · rw [if_neg c]
    refine Or.inr ⟨rfl, ?_⟩
    rintro ⟨v, hv, rfl⟩
    apply c
    rw [pk_tn (by omega), Nat.div_eq_of_lt hv] at k
    apply Int32.toBitVec.inj
    apply BitVec.eq_of_toNat_eq
    exact k
theorem m_bits {x : Int32} {zb : Nat} (hz : zb ≤ 8) : (¬ x < 0 ∧ ¬ nI (2 ^ zb) ≤ x) ↔ ∃ v, v < 2 ^ zb ∧ x = nI v := by
  have hpw := pw_le hz
  constructor
  · rintro ⟨h1, h2⟩
    obtain ⟨j, hj, rfl⟩ := nI_of h1
    exact ⟨j, by have := mt (nI_leI (by omega) hj).mpr h2; omega, rfl⟩
  · rintro ⟨v, hv, rfl⟩
    exact ⟨nI_pos (by omega), nI_ge hv (by omega)⟩
/-- a change that is told, on both sides -/
def CH (ux um : St) (a b x : Int32) : Prop := ∃ n ka kb za zb v pa pb, a = nI ka ∧ b = nI kb ∧ x = nI v ∧ v < 2 ^ zb ∧ v < 256 ∧ CX ux um n ∧ VV um n ∧ LX ux ka za n pa ∧ LX ux kb zb n pb ∧ LM um ka za n pa ∧ LM um kb zb n pb ∧ Inj pa za ∧ Inj pb zb
theorem chg {ux um : St} (h : R ux um) (a b x : Int32) : (f_X6_isChange ux a b x = some 0 ∧ f_X7_isChange um a b x = some 0) ∨ (f_X6_isChange ux a b x = some 1 ∧ f_X7_isChange um a b x = some 1 ∧ CH ux um a b x) := by
  obtain ⟨n, hn0, hc, hv, hL⟩ := h.pic
  unfold f_X6_isChange f_X7_isChange
  rw [e_X2has, e_X2has, e_isLook, e_isLook]
  cases ha : win a 0 11
  · left; simp
  cases hb : win b 0 11
  · left; simp
  obtain ⟨ka, hka, rfl⟩ := (win_nI (n := 11) (by decide) 11 rfl).mp ha
  obtain ⟨kb, hkb, rfl⟩ := (win_nI (n := 11) (by decide) 11 rfl).mp hb
  obtain ⟨za, pa, xa, ma, ia⟩ := hL ka (by omega)
  obtain ⟨zb, pb, xb, mb, ib⟩ := hL kb (by omega)
  have hz := xb.2.1
  have hpw := pw_le hz
  rw [Option.bind_some, if_neg (by simp), Option.bind_some, if_neg (by simp), Option.bind_some, if_neg (by simp), Option.bind_some, if_neg (by simp), if_pos (inb_nI (show kb < 12 by omega) (by decide)), nI_clamp (by omega), mb.2.2.1, pw_nI zb (by omega)]
  have hm := m_bits (x := x) hz
  rcases x_bits xb x with ⟨e, q⟩ | ⟨e, q⟩
  · obtain ⟨m1, m2⟩ := hm.mpr q
    obtain ⟨v, hv2, rfl⟩ := q
    right
    refine ⟨by rw [e]; simp, by rw [if_neg m1, if_neg m2], n, ka, kb, za, zb, v, pa, pb, rfl, rfl, rfl, hv2, by omega, hc, hv, xa, xb, ma, mb, ia, ib⟩
  · left
    refine ⟨by rw [e]; simp, ?_⟩
    by_cases m1 : x < 0
    · rw [if_pos m1]
    · by_cases m2 : nI (2 ^ zb) ≤ x
      · rw [if_neg m1, if_pos m2]
      · exact absurd (hm.mp ⟨m1, m2⟩) q
theorem R.lim {ux um : St} (h : R ux um) : ux 0 9 = um 0 13 := h.2.2.2.2.1
theorem al_allowed {ux um : St} (h : R ux um) (a b x : Int32) : Both (f_X6_allowed ux a b x) (f_X7_allowed um a b x) := by
  rcases chg h a b x with ⟨e1, e2⟩ | ⟨e1, e2, n, ka, kb, za, zb, v, pa, pb, rfl, rfl, rfl, hv2, hv8, hc, hv, xa, xb, ma, mb, ia, ib⟩
  · exact bf1 h (by simp [f_X6_allowed, e1, e_x1]) (by simp [f_X7_allowed, e2, e_m1])
  · obtain ⟨u', g1, g2, g3⟩ := x_prepare hc hv xa xb ib
    obtain ⟨r, r1, r2⟩ := x_may g3 xa.2.1 xb.2.1 hv8 (u' 0 9)
    obtain ⟨s, s1, s2⟩ := m_all (FrM.rf um) hc.1 hv ma mb hv8
    rw [g2 0 (by omega), h.lim] at r2
    have hrs := r2.eq s2
    subst hrs
    have ex : f_X6_isAllowed ux (nI ka) (nI kb) (nI v) = some (r, u') := by
      simp only [f_X6_isAllowed, g1, Option.bind_some, r1, if_pos r2.b01]
    rcases r2 with ⟨rfl, -⟩ | ⟨rfl, -⟩
    · exact ⟨(1, u'), (1, um), by simp [f_X6_allowed, e1, ex], by simp [f_X7_allowed, e2, s1], rfl, h.fr g2 (FrM.rf um)⟩
    · exact ⟨(0, u'), (0, um), by simp [f_X6_allowed, e1, ex], by simp [f_X7_allowed, e2, s1], rfl, h.fr g2 (FrM.rf um)⟩
