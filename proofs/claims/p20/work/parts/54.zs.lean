/-! ===== more of what lasts: ranges, rows without doubles, looks counted ===== -/
def cnt (f : Nat → Bool) : Nat → Nat
  | 0 => 0
  | n + 1 => cnt f n + if f n = true then 1 else 0
theorem cnt_cong {f g : Nat → Bool} : ∀ {n : Nat}, (∀ p, p < n → f p = g p) → cnt f n = cnt g n
  | 0, _ => rfl
  | n + 1, h => by rw [cnt, cnt, cnt_cong (fun p hp => h p (by omega)), h n (by omega)]
theorem cnt_one {f g : Nat → Bool} {j : Nat} : ∀ {n : Nat}, j < n → (∀ p, p < n → p ≠ j → f p = g p) → cnt f n + (if g j = true then 1 else 0) = cnt g n + (if f j = true then 1 else 0)
  | 0, h, _ => by omega
  | n + 1, h, e => by
    rw [cnt, cnt]
    rcases Nat.lt_or_ge j n with q | q
    · have r := cnt_one (n := n) q (fun p hp hj => e p (by omega) hj)
      rw [e n (by omega) (by omega)]
      omega
    · have : j = n := by omega
      subst this
      rw [cnt_cong (f := f) (g := g) (fun p hp => e p (by omega) (by omega))]
      omega
theorem cnt_le (f : Nat → Bool) : ∀ n, cnt f n ≤ n
  | 0 => Nat.le_refl _
  | n + 1 => by
    have := cnt_le f n
    rw [cnt]
    split <;> omega
def hasB (f : Nat → Int32) (p : Int32) : Nat → Bool
  | 0 => false
  | z + 1 => hasB f p z || decide (f z = p)
theorem hasB_iff {f : Nat → Int32} {p : Int32} : ∀ {z : Nat}, hasB f p z = true ↔ ∃ i, i < z ∧ f i = p
  | 0 => by simp [hasB]
  | z + 1 => by
    rw [hasB, Bool.or_eq_true, hasB_iff, decide_eq_true_iff]
    constructor
    · rintro (⟨i, hi, e⟩ | e)
      · exact ⟨i, by omega, e⟩
      · exact ⟨z, by omega, e⟩
    · rintro ⟨i, hi, e⟩
      rcases Nat.lt_or_ge i z with q | q
      · exact Or.inl ⟨i, q, e⟩
      · have : i = z := by omega
        subst this
        exact Or.inr e
theorem hasB_cong {f g : Nat → Int32} {p : Int32} : ∀ {z : Nat}, (∀ i, i < z → f i = g i) → hasB f p z = hasB g p z
  | 0, _ => rfl
  | z + 1, h => by rw [hasB, hasB, hasB_cong (fun i hi => h i (by omega)), h z (by omega)]
theorem hasB_no {f : Nat → Int32} {p : Int32} {z : Nat} (h : ∀ i, i < z → f i ≠ p) : hasB f p z = false := by
  cases q : hasB f p z
  · rfl
  · obtain ⟨i, hi, e⟩ := hasB_iff.mp q
    exact absurd e (h i hi)
def V5 (t o f s w : Int32) : Prop := (∃ x, 1 ≤ x ∧ x ≤ 5 ∧ t = nI x) ∧ (∃ x, 1 ≤ x ∧ x ≤ 60 ∧ o = nI x) ∧ (∃ x, 1 ≤ x ∧ x ≤ 60 ∧ f = nI x) ∧ (∃ x, 30 ≤ x ∧ x ≤ 60 ∧ s = nI x) ∧ ∃ x, x ≤ 6 ∧ w = nI x
def Sv (m : Int32) (k3 k4 k5 k7 k8 : Nat → Int32) : Prop := ∀ p, p < m.toNatClampNeg → V5 (k3 p) (k4 p) (k5 p) (k7 p) (k8 p)
def Sl (M11 M12 : Nat → Int32) : Prop := ∀ l, l < 12 → ∀ i k, i < k → k < (M11 l).toNatClampNeg → M12 (8 * l + i) ≠ M12 (8 * l + k)
def isn (M11 M12 : Nat → Int32) (p : Int32) (l : Nat) : Bool := hasB (fun i => M12 (8 * l + i)) p (M11 l).toNatClampNeg
def Sc (X6 M11 M12 : Nat → Int32) : Prop := ∀ p, p < 32 → X6 p = nI (cnt (isn M11 M12 (nI p)) 12)
def Sft (m : Int32) (M16 M17 : Nat → Int32) : Prop := ∀ s, s < m.toNatClampNeg → ∃ f t, f < t ∧ t ≤ 20000 ∧ M16 s = nI f ∧ M17 s = nI t
theorem v5_told {a b c : Int32} (h : ptold a b c = true) : V5 (a / 10 - a / 10 / 10 * 10) (b / 100) (b - b / 100 * 100) (c / 10) (c - c / 10 * 10) := by
  unfold ptold at h
  simp only [Bool.and_eq_true] at h
  obtain ⟨⟨⟨⟨⟨⟨⟨⟨⟨⟨h1, h2⟩, h3⟩, h4⟩, h5⟩, h6⟩, h7⟩, h8⟩, h9⟩, h10⟩, h11⟩ := h
  obtain ⟨x1, y1, e1⟩ := win_sh (m := 1) (n := 5) rfl rfl (by decide) (by decide) h6
  obtain ⟨x2, y2, e2⟩ := win_sh (m := 1) (n := 60) rfl rfl (by decide) (by decide) h8
  obtain ⟨x4, y4, e4⟩ := win_sh (m := 30) (n := 60) rfl rfl (by decide) (by decide) h10
  obtain ⟨x5, y5, e5⟩ := (win_nI (n := 6) (by decide) 6 rfl).mp h11
  have h9' : ∃ x, 1 ≤ x ∧ x ≤ 60 ∧ b - b / 100 * 100 = nI x := by
    by_cases q : a - a / 10 * 10 = 2
    · rw [if_pos q] at h9
      obtain ⟨x3, y3, e3⟩ := win_sh (m := 1) (n := 1) rfl rfl (by decide) (by decide) h9
      exact ⟨x3 + 1, by omega, by omega, e3⟩
    · rw [if_neg q] at h9
      obtain ⟨x3, y3, e3⟩ := win_sh (m := 1) (n := 60) rfl rfl (by decide) (by decide) h9
      exact ⟨x3 + 1, by omega, by omega, e3⟩
  exact ⟨⟨x1 + 1, by omega, by omega, e1⟩, ⟨x2 + 1, by omega, by omega, e2⟩, h9', ⟨x4 + 30, by omega, by omega, e4⟩, ⟨x5, y5, e5⟩⟩
theorem Sl_wear {M11 M12 : Nat → Int32} (hs : ∀ l, l < 12 → (M11 l).toNatClampNeg ≤ 8) (h : Sl M11 M12) {l z j : Nat} (hl : l < 12) (hz : z < 8) (hn : ∀ i, i < z → M12 (8 * l + i) ≠ nI j) (e : M11 l = nI z) : Sl (upd M11 l (nI (z + 1))) (upd M12 (8 * l + z) (nI j)) := by
  intro l' hl' i k hik hk
  by_cases q : l' = l
  · subst q
    have hk' : k < z + 1 := by
      have e2 : (upd M11 l' (nI (z + 1)) l').toNatClampNeg = z + 1 := by
        rw [show upd M11 l' (nI (z + 1)) l' = nI (z + 1) by simp [upd], nI_clamp (by omega)]
      omega
    have a1 : ¬ 8 * l' + i = 8 * l' + z := by omega
    have b1 : upd M12 (8 * l' + z) (nI j) (8 * l' + i) = M12 (8 * l' + i) := by simp only [upd, a1, if_false]
    rw [b1]
    by_cases q2 : k = z
    · subst q2
      rw [show upd M12 (8 * l' + k) (nI j) (8 * l' + k) = nI j by simp [upd]]
      exact hn i hik
    · have a2 : ¬ 8 * l' + k = 8 * l' + z := by omega
      have b2 : upd M12 (8 * l' + z) (nI j) (8 * l' + k) = M12 (8 * l' + k) := by simp only [upd, a2, if_false]
      rw [b2]
      exact h l' hl' i k hik (by rw [e, nI_clamp (by omega)]; omega)
  · have e2 : upd M11 l (nI (z + 1)) l' = M11 l' := by simp only [upd, q, if_false]
    rw [e2] at hk
    have h8 := hs l' hl'
    have a1 : ¬ 8 * l' + i = 8 * l + z := by omega
    have a2 : ¬ 8 * l' + k = 8 * l + z := by omega
    have b1 : upd M12 (8 * l + z) (nI j) (8 * l' + i) = M12 (8 * l' + i) := by simp only [upd, a1, if_false]
    have b2 : upd M12 (8 * l + z) (nI j) (8 * l' + k) = M12 (8 * l' + k) := by simp only [upd, a2, if_false]
    rw [b1, b2]
    exact h l' hl' i k hik hk
theorem isn_wear {M11 M12 : Nat → Int32} (hs : ∀ l, l < 12 → (M11 l).toNatClampNeg ≤ 8) {l z j : Nat} (hz : z < 8) (p : Int32) {l' : Nat} (hl' : l' < 12) (q : l' ≠ l) : isn (upd M11 l (nI (z + 1))) (upd M12 (8 * l + z) (nI j)) p l' = isn M11 M12 p l' := by
  have e2 : upd M11 l (nI (z + 1)) l' = M11 l' := by simp only [upd, q, if_false]
  unfold isn
  rw [e2]
  refine hasB_cong (fun i hi => ?_)
  have h8 := hs l' hl'
  have a1 : ¬ 8 * l' + i = 8 * l + z := by omega
  simp only [upd, a1, if_false]
theorem isn_wear1 {M11 M12 : Nat → Int32} {l z j : Nat} (hz : z < 8) (e : M11 l = nI z) (p : Int32) : isn (upd M11 l (nI (z + 1))) (upd M12 (8 * l + z) (nI j)) p l = (isn M11 M12 p l || decide (nI j = p)) := by
  have e2 : (upd M11 l (nI (z + 1)) l).toNatClampNeg = z + 1 := by
    rw [show upd M11 l (nI (z + 1)) l = nI (z + 1) by simp [upd], nI_clamp (by omega)]
  unfold isn
  rw [e2, e, nI_clamp (by omega), hasB]
  congr 1
  · refine hasB_cong (fun i hi => ?_)
    have a1 : ¬ 8 * l + i = 8 * l + z := by omega
    simp only [upd, a1, if_false]
  · simp [upd]
theorem Sc_wear {X6 M11 M12 : Nat → Int32} (hs : ∀ l, l < 12 → (M11 l).toNatClampNeg ≤ 8) (h : Sc X6 M11 M12) {l z j : Nat} (hl : l < 12) (hz : z < 8) (hj : j < 32) (hn : ∀ i, i < z → M12 (8 * l + i) ≠ nI j) (e : M11 l = nI z) : Sc (upd X6 j (X6 j + 1)) (upd M11 l (nI (z + 1))) (upd M12 (8 * l + z) (nI j)) := by
  intro p hp
  have c := cnt_one (f := isn (upd M11 l (nI (z + 1))) (upd M12 (8 * l + z) (nI j)) (nI p)) (g := isn M11 M12 (nI p)) (j := l) (n := 12) hl (fun l' hl' q => isn_wear hs hz (nI p) hl' q)
  rw [isn_wear1 hz e] at c
  by_cases q : p = j
  · subst q
    have hf : isn M11 M12 (nI p) l = false := by
      unfold isn
      rw [e, nI_clamp (by omega)]
      exact hasB_no hn
    rw [hf] at c
    simp at c
    rw [show upd X6 p (X6 p + 1) p = X6 p + 1 by simp [upd], h p hp, nI_1, c]
  · have hd : decide (nI j = nI p) = false := by
      rw [decide_eq_false_iff_not]
      intro w
      exact q ((nI_eq (by omega) (by omega)).mp w).symm
    rw [hd, Bool.or_false] at c
    rw [show upd X6 j (X6 j + 1) p = X6 p by simp only [upd, q, if_false], h p hp]
    rw [show cnt (isn (upd M11 l (nI (z + 1))) (upd M12 (8 * l + z) (nI j)) (nI p)) 12 = cnt (isn M11 M12 (nI p)) 12 by omega]
theorem Sl_bare {M11 M12 : Nat → Int32} (h : Sl M11 M12) (l : Nat) : Sl (upd M11 l 0) M12 := by
  intro l' hl' i k hik hk
  by_cases q : l' = l
  · subst q
    rw [show upd M11 l' 0 l' = nI 0 by simp [upd, nI_0], nI_clamp (by decide)] at hk
    omega
  · rw [show upd M11 l 0 l' = M11 l' by simp only [upd, q, if_false]] at hk
    exact h l' hl' i k hik hk
theorem count_row {f : Nat → Int32} {w : Nat → Nat} {p : Nat} (hp : p < 32) : ∀ {z : Nat}, (∀ i, i < z → f i = nI (w i) ∧ w i < 32) → (∀ i k, i < k → k < z → f i ≠ f k) → (List.range' 0 z).countP (fun j => w j = p) = if hasB f (nI p) z = true then 1 else 0
  | 0, _, _ => by simp [hasB]
  | z + 1, h, hd => by
    rw [List.range'_1_concat, List.countP_append, count_row hp (fun i hi => h i (by omega)) (fun i k h1 h2 => hd i k h1 (by omega)), hasB]
    obtain ⟨h1, h2⟩ := h z (by omega)
    have hw : w z = p ↔ f z = nI p := by rw [h1, nI_eq (by omega) (by omega)]
    by_cases q : hasB f (nI p) z = true
    · obtain ⟨i, hi, e⟩ := hasB_iff.mp q
      have : ¬ f z = nI p := fun r => hd i z hi (by omega) (e.trans r.symm)
      have hwp : ¬ w z = p := fun r => this (hw.mp r)
      simp [q, hwp]
    · have q' : hasB f (nI p) z = false := by
        cases r : hasB f (nI p) z
        · rfl
        · exact absurd r q
      by_cases r : w z = p
      · simp [q', r, hw.mp r]
      · have : ¬ f z = nI p := fun t => r (hw.mpr t)
        simp [q', r, this]
theorem Sc_bare {X6 X6' M11 M12 : Nat → Int32} (h : Sc X6 M11 M12) (hd : Sl M11 M12) {l z : Nat} (hl : l < 12) (hz : z ≤ 8) (e : M11 l = nI z) {w : Nat → Nat} (hw : ∀ i, i < z → M12 (8 * l + i) = nI (w i) ∧ w i < 32) (h6 : ∀ p, X6' p = X6 p - nI ((List.range' 0 z).countP (fun j => w j = p))) : Sc X6' (upd M11 l 0) M12 := by
  intro p hp
  have c := cnt_one (f := isn (upd M11 l 0) M12 (nI p)) (g := isn M11 M12 (nI p)) (j := l) (n := 12) hl (fun l' hl' q => by
    unfold isn
    rw [show upd M11 l 0 l' = M11 l' by simp only [upd, q, if_false]])
  have hf : isn (upd M11 l 0) M12 (nI p) l = false := by
    unfold isn
    rw [show upd M11 l 0 l = nI 0 by simp [upd, nI_0], nI_clamp (by decide)]
    rfl
  have hg : isn M11 M12 (nI p) l = hasB (fun i => M12 (8 * l + i)) (nI p) z := by
    unfold isn
    rw [e, nI_clamp (by omega)]
  have r := count_row (f := fun i => M12 (8 * l + i)) (w := w) hp hw (fun i k h1 h2 => hd l hl i k h1 (by rw [e, nI_clamp (by omega)]; exact h2))
  rw [hf, hg] at c
  rw [h6 p, r, h p hp]
  rw [if_neg (show ¬ false = true by decide), Nat.add_zero] at c
  rw [← c]
  rw [pk_sub (Nat.le_add_left _ _), Nat.add_sub_cancel]
