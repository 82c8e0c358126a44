/-! ===== the class's looks ===== -/
theorem FU_ge {z : Nat} (h : z < 4096) : z < FU := h
theorem winL {l : Nat} (hl : l < 12) : win (nI l) 0 11 = true := (win_nI (n := 11) (by decide) 11 rfl).mpr ⟨l, by omega, rfl⟩
theorem e_sizeOf (u : St) {l : Nat} (hl : l < 12) : f_X2_sizeOf u (nI l) = some (u 5 l) := by
  unfold f_X2_sizeOf
  rw [e_X2has, winL hl]
  simp [inb_nI hl (by decide), nI_clamp (show l < 2 ^ 31 by omega)]
theorem e_at (u : St) {l z : Nat} (hl : l < 12) (hz : z ≤ 8) (h : u 5 l = nI z) {i : Nat} (hi : i < z) : f_X2_at u (nI l) (nI i) = some (u 4 (8 * l + i)) := by
  unfold f_X2_at
  rw [e_X2has, winL hl]
  obtain ⟨a1, a2⟩ := ix8 hl (show i < 8 by omega)
  have b1 := nI_pos (n := i) (by omega)
  have b2 : ¬ (8 : Int32) ≤ nI i := nI_ge (a := i) (b := 8) (by omega) (by omega)
  have b3 : ¬ nI z ≤ nI i := nI_ge hi (by omega)
  simp [b1, b2, inb_nI hl (show 12 < 2 ^ 31 by decide), nI_clamp (show l < 2 ^ 31 by omega), h, b3, a1, a2]
theorem e_atN (u : St) {l z : Nat} (hl : l < 12) (hz : z ≤ 8) (h : u 5 l = nI z) {i : Int32} (hi : ∀ j, j < z → i ≠ nI j) : f_X2_at u (nI l) i = some (-1) := by
  unfold f_X2_at
  rw [e_X2has, winL hl]
  by_cases h1 : i < 0
  · simp [h1]
  · obtain ⟨j, hj, rfl⟩ := nI_of h1
    have hjz : z ≤ j := Nat.not_lt.mp fun q => hi j q rfl
    by_cases h2 : (8 : Int32) ≤ nI j
    · simp [h1, h2]
    · have h3 : nI z ≤ nI j := nI_le hjz hj
      simp [h1, h2, inb_nI hl (show 12 < 2 ^ 31 by decide), nI_clamp (show l < 2 ^ 31 by omega), h, h3]
/-- the first place of a value in a row, or -1 -/
def Idx (f : Nat → Int32) (z : Nat) (p r : Int32) : Prop := (r = -1 ∧ ∀ i, i < z → f i ≠ p) ∨ ∃ i, i < z ∧ r = nI i ∧ f i = p ∧ ∀ j, j < i → f j ≠ p
theorem l_indexOf (u : St) {l z : Nat} (hl : l < 12) (hz : z ≤ 8) (h : u 5 l = nI z) (p : Int32) : ∀ (n i : Nat), z < i + n → i ≤ z → (∀ j, j < i → u 4 (8 * l + j) ≠ p) → ∃ r, f_X2_indexOf_9 u n (nI l) p (nI z) (nI i) = some r ∧ Idx (fun i => u 4 (8 * l + i)) z p r := by
  intro n
  induction n with
  | zero => intro i h1 h2; omega
  | succ n ih =>
    intro i h1 h2 h3
    rw [f_X2_indexOf_9]
    by_cases hi : i = z
    · subst hi
      rw [if_pos (Int32.le_refl _)]
      exact ⟨-1, rfl, Or.inl ⟨rfl, h3⟩⟩
    · have hlt : i < z := by omega
      rw [if_neg (nI_ge hlt (by omega)), e_at u hl hz h hlt, Option.bind_some]
      by_cases hp : u 4 (8 * l + i) = p
      · rw [if_pos hp]
        exact ⟨nI i, rfl, Or.inr ⟨i, hlt, rfl, hp, h3⟩⟩
      · rw [if_neg hp, nI_1]
        exact ih (i + 1) (by omega) (by omega) (fun j hj => by
          rcases Nat.lt_or_ge j i with q | q
          · exact h3 j q
          · rw [show j = i by omega]; exact hp)
theorem e_indexOf (u : St) {l z : Nat} (hl : l < 12) (hz : z ≤ 8) (h : u 5 l = nI z) (p : Int32) : ∃ r, f_X2_indexOf u (nI l) p = some r ∧ Idx (fun i => u 4 (8 * l + i)) z p r := by
  unfold f_X2_indexOf
  rw [e_sizeOf u hl, Option.bind_some, h]
  exact l_indexOf u hl hz h p FU 0 (by have := FU_ge (z := z) (by omega); omega) (Nat.zero_le _) (fun j hj => by omega)
theorem Idx_neg {f : Nat → Int32} {z : Nat} {p r : Int32} (hz : z ≤ 8) (h : Idx f z p r) : r < 0 ↔ ∀ i, i < z → f i ≠ p := by
  rcases h with ⟨rfl, h⟩ | ⟨i, hi, rfl, h1, h2⟩
  · exact ⟨fun _ => h, fun _ => by decide⟩
  · exact ⟨fun q => absurd q (nI_pos (by omega)), fun q => absurd h1 (q i hi)⟩
theorem e_note (u : St) {p : Nat} (hp : p < 32) (v : Int32) : f_X2_noteLooksWith u (nI p) v = some (up2 u 6 p (u 6 p + v)) := by
  unfold f_X2_noteLooksWith
  rw [e_isWithin, (win_nI (n := 31) (by decide) 31 rfl).mpr ⟨p, by omega, rfl⟩]
  simp [inb_nI hp (by decide), nI_clamp (show p < 2 ^ 31 by omega)]
theorem e_append (u : St) {l z p : Nat} (hl : l < 12) (hz : z < 8) (h : u 5 l = nI z) (hp : p < 32) : f_X2_append u (nI l) (nI p) = some (nI (z + 1), up2 (up2 (up2 u 4 (8 * l + z) (nI p)) 5 l (nI (z + 1))) 6 p (u 6 p + 1)) := by
  unfold f_X2_append
  rw [e_X2has, winL hl]
  obtain ⟨a1, a2⟩ := ix8 hl hz
  have b2 : ¬ (8 : Int32) ≤ nI z := nI_ge (a := z) (b := 8) hz (by omega)
  simp only [Option.bind_some, if_true, inb_nI hl (show 12 < 2 ^ 31 by decide), nI_clamp (show l < 2 ^ 31 by omega), h, b2, if_false, a1, a2, nI_1, show ¬ (1 : Int32) = 0 by decide]
  rw [e_note _ hp]
  simp only [Option.bind_some]
  rw [e_sizeOf _ hl]
  simp [up2, upd]
theorem sub_one (x : Int32) (c : Nat) : x + -1 - nI c = x - nI (c + 1) := by
  rw [← nI_1]
  grind
theorem l_clear {l z : Nat} (hl : l < 12) (hz : z ≤ 8) (w : Nat → Nat) (hw : ∀ i, i < z → w i < 32) : ∀ (n i : Nat) (u : St), z < i + n → i ≤ z → u 5 l = nI z → (∀ j, j < z → u 4 (8 * l + j) = nI (w j)) → ∃ u', f_X2_clear_8 n u (nI l) (nI z) (nI i) = some (nI z, up2 u' 5 l 0) ∧ (∀ k, k ≠ 6 → u' k = u k) ∧ (∀ p, u' 6 p = u 6 p - nI ((List.range' i (z - i)).countP (fun j => w j = p))) := by
  intro n
  induction n with
  | zero => intro i u h1 h2; omega
  | succ n ih =>
    intro i u h1 h2 h5 h4
    rw [f_X2_clear_8]
    by_cases hi : i = z
    · subst hi
      rw [if_pos (Int32.le_refl _), e_X2has, winL hl]
      refine ⟨u, ?_, fun _ _ => rfl, fun p => ?_⟩
      · simp [inb_nI hl (show 12 < 2 ^ 31 by decide), nI_clamp (show l < 2 ^ 31 by omega)]
      · simp [nI_0]
    · have hlt : i < z := by omega
      rw [if_neg (nI_ge hlt (by omega)), e_at u hl hz h5 hlt, Option.bind_some, h4 i hlt, e_note _ (hw i hlt), Option.bind_some, nI_1]
      obtain ⟨u', e1, e2, e3⟩ := ih (i + 1) (up2 u 6 (w i) (u 6 (w i) + -1)) (by omega) (by omega) (by simp [up2, h5]) (fun j hj => by simp [up2, h4 j hj])
      refine ⟨u', e1, fun k hk => by rw [e2 k hk]; simp [up2, hk], fun p => ?_⟩
      rw [e3 p, show z - i = (z - (i + 1)) + 1 by omega, List.range'_succ, List.countP_cons]
      by_cases hp : w i = p
      · subst hp
        simp only [up2, upd, if_true, decide_true]
        exact sub_one _ _
      · have : ¬ p = w i := fun q => hp q.symm
        simp [up2, upd, hp, this]
