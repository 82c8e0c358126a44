/-! ===== the class's small methods in closed form ===== -/
theorem nI_mul (a b : Nat) : nI a * nI b = nI (a * b) := pk_mul a b
theorem lit_nI (n : Nat) : (OfNat.ofNat n : Int32) = nI n := rfl
theorem nlt_nI {p n : Nat} (hp : p < 2 ^ 31) (hn : n < 2 ^ 31) : nI p < nI n ↔ p < n := nI_ltI hp hn
theorem ne_neg {p : Nat} (hp : p < 2 ^ 31) : ¬ nI p < 0 := nI_pos hp
/-- the pieces that there are -/
def hasP (u : St) (p : Int32) : Bool := !decide (p < 0) && !decide (u 1 1 ≤ p) && !decide (32 ≤ p)
theorem e_has (u : St) (p : Int32) : f_X5_has u p = some (if hasP u p = true then 1 else 0) := by
  unfold f_X5_has hasP
  by_cases h1 : p < 0
  · simp [h1]
  by_cases h2 : u 1 1 ≤ p
  · simp [h1, h2]
  by_cases h3 : 32 ≤ p <;> simp [h1, h2, h3]
theorem hasP_iff {u : St} {n : Nat} (hn : n ≤ 32) (h : u 1 1 = nI n) (p : Int32) : hasP u p = true ↔ ∃ j : Nat, j < n ∧ p = nI j := by
  unfold hasP
  rw [h]
  constructor
  · intro q
    simp only [Bool.and_eq_true, Bool.not_eq_true', decide_eq_false_iff_not] at q
    obtain ⟨⟨q1, q2⟩, q3⟩ := q
    obtain ⟨j, hj, rfl⟩ := nI_of q1
    refine ⟨j, ?_, rfl⟩
    have := mt (nI_leI (by omega) hj).mpr q2
    omega
  · rintro ⟨j, hj, rfl⟩
    have a1 := nI_pos (n := j) (by omega)
    have a2 : ¬ nI n ≤ nI j := fun q => by have := (nI_leI (by omega) (by omega)).mp q; omega
    have a3 : ¬ (32 : Int32) ≤ nI j := fun q => by have := (nI_leI (a := 32) (by omega) (by omega)).mp q; omega
    simp [a1, a2, a3]
theorem ix10 {p k : Nat} (hp : p < 32) (hk : k < 10) : inb (nI p * 10 + nI k) 320 = true ∧ (nI p * 10 + nI k).toNatClampNeg = 10 * p + k := by
  have e : nI p * 10 + nI k = nI (10 * p + k) := by
    rw [show (10 : Int32) = nI 10 from rfl, nI_mul, nI_add, Nat.mul_comm]
  rw [e]
  exact ⟨inb_nI (by omega) (by decide), nI_clamp (by omega)⟩
theorem ix8 {l i : Nat} (hl : l < 12) (hi : i < 8) : inb (nI l * 8 + nI i) 96 = true ∧ (nI l * 8 + nI i).toNatClampNeg = 8 * l + i := by
  have e : nI l * 8 + nI i = nI (8 * l + i) := by
    rw [show (8 : Int32) = nI 8 from rfl, nI_mul, nI_add, Nat.mul_comm]
  rw [e]
  exact ⟨inb_nI (by omega) (by decide), nI_clamp (by omega)⟩
theorem ix8m {l i : Nat} (hl : l < 12) (hi : i < 8) : inb (8 * nI l + nI i) 96 = true ∧ (8 * nI l + nI i).toNatClampNeg = 8 * l + i := by
  have e : 8 * nI l + nI i = nI (8 * l + i) := by
    rw [show (8 : Int32) = nI 8 from rfl, nI_mul, nI_add]
  rw [e]
  exact ⟨inb_nI (by omega) (by decide), nI_clamp (by omega)⟩
theorem e_fact {u : St} {n : Nat} (hn : n ≤ 32) (h : u 1 1 = nI n) {p k : Nat} (hp : p < n) (hk : k < 10) : f_X5_fact u (nI p) (nI k) = some (u 2 (10 * p + k)) := by
  unfold f_X5_fact
  rw [e_has, (hasP_iff hn h (nI p)).mpr ⟨p, hp, rfl⟩]
  obtain ⟨a1, a2⟩ := ix10 (p := p) (k := k) (by omega) hk
  have b1 := nI_pos (n := k) (by omega)
  have b2 : ¬ (10 : Int32) ≤ nI k := fun q => by have := (nI_leI (a := 10) (by omega) (by omega)).mp q; omega
  simp [b1, b2, a1, a2]
theorem e_factN {u : St} {p : Int32} (h : hasP u p = false) (k : Int32) : f_X5_fact u p k = some (-1) := by
  unfold f_X5_fact
  rw [e_has, h]
  simp
theorem t_fact {u : St} {n : Nat} (hn : n ≤ 32) (h : u 1 1 = nI n) (p : Int32) {k : Nat} (hk : k < 10) : f_X5_fact u p (nI k) = some (if hasP u p = true then u 2 (10 * p.toNatClampNeg + k) else -1) := by
  cases hp : hasP u p
  · rw [e_factN hp]; simp
  · obtain ⟨j, hj, rfl⟩ := (hasP_iff hn h p).mp hp
    rw [e_fact hn h hj hk, nI_clamp (by omega)]; simp
theorem e_set {u : St} {n : Nat} (hn : n ≤ 32) (h : u 1 1 = nI n) {p k : Nat} (hp : p < n) (hk : k < 10) (v : Int32) : f_X5_setFact u (nI p) (nI k) v = some (up2 u 2 (10 * p + k) v) := by
  unfold f_X5_setFact
  rw [e_has, (hasP_iff hn h (nI p)).mpr ⟨p, hp, rfl⟩]
  obtain ⟨a1, a2⟩ := ix10 (p := p) (k := k) (by omega) hk
  have b1 := nI_pos (n := k) (by omega)
  have b2 : ¬ (10 : Int32) ≤ nI k := fun q => by have := (nI_leI (a := 10) (by omega) (by omega)).mp q; omega
  simp [b1, b2, a1, a2]
theorem up2_11 (u : St) (j : Nat) (v : Int32) : up2 u 2 j v 1 = u 1 := by simp [up2]
theorem e_place {u : St} {n : Nat} (hn : n ≤ 32) (h : u 1 1 = nI n) {p : Nat} (hp : p < n) (v w : Int32) : f_X5_place u (nI p) v w = some (up2 (up2 u 2 (10 * p + 8) v) 2 (10 * p + 9) w) := by
  unfold f_X5_place
  have e1 := e_set hn h hp (k := 8) (by decide) v
  have e2 := e_set (u := up2 u 2 (10 * p + 8) v) hn (by rw [up2_11]; exact h) hp (k := 9) (by decide) w
  rw [show (8 : Int32) = nI 8 from rfl, show (9 : Int32) = nI 9 from rfl, e1]
  simp only [Option.bind_some, e2]
theorem e_add {u : St} {n : Nat} (hn : n < 32) (h : u 1 1 = nI n) (a b c : Int32) : ∃ u', f_X5_add u a b c = some (nI n, u') ∧ u' 1 = upd (u 1) 1 (nI (n + 1)) ∧ (∀ k, k ≠ 1 → k ≠ 2 → u' k = u k) ∧ (∀ i, i < 10 * n ∨ 10 * n + 10 ≤ i → u' 2 i = u 2 i) ∧ u' 2 (10 * n) = a - a / 10 * 10 ∧ u' 2 (10 * n + 1) = a / 100 - a / 100 / 10 * 10 ∧ u' 2 (10 * n + 2) = a / 10 - a / 10 / 10 * 10 ∧ u' 2 (10 * n + 3) = b / 100 ∧ u' 2 (10 * n + 4) = b - b / 100 * 100 ∧ u' 2 (10 * n + 5) = a / 1000 ∧ u' 2 (10 * n + 6) = c / 10 ∧ u' 2 (10 * n + 7) = c - c / 10 * 10 ∧ u' 2 (10 * n + 8) = 0 ∧ u' 2 (10 * n + 9) = 0 := by
  have hs : ∀ (u : St) (k : Nat) (v : Int32), u 1 1 = nI (n + 1) → k < 10 → f_X5_setFact u (nI n) (nI k) v = some (up2 u 2 (10 * n + k) v) := fun u k v hu hk => e_set (by omega) hu (by omega) hk v
  have s0 : ∀ (u : St) (v : Int32), u 1 1 = nI (n + 1) → f_X5_setFact u (nI n) 0 v = some (up2 u 2 (10 * n + 0) v) := fun u v hu => hs u 0 v hu (by decide)
  have s1 : ∀ (u : St) (v : Int32), u 1 1 = nI (n + 1) → f_X5_setFact u (nI n) 1 v = some (up2 u 2 (10 * n + 1) v) := fun u v hu => hs u 1 v hu (by decide)
  have s2 : ∀ (u : St) (v : Int32), u 1 1 = nI (n + 1) → f_X5_setFact u (nI n) 2 v = some (up2 u 2 (10 * n + 2) v) := fun u v hu => hs u 2 v hu (by decide)
  have s3 : ∀ (u : St) (v : Int32), u 1 1 = nI (n + 1) → f_X5_setFact u (nI n) 3 v = some (up2 u 2 (10 * n + 3) v) := fun u v hu => hs u 3 v hu (by decide)
  have s4 : ∀ (u : St) (v : Int32), u 1 1 = nI (n + 1) → f_X5_setFact u (nI n) 4 v = some (up2 u 2 (10 * n + 4) v) := fun u v hu => hs u 4 v hu (by decide)
  have s5 : ∀ (u : St) (v : Int32), u 1 1 = nI (n + 1) → f_X5_setFact u (nI n) 5 v = some (up2 u 2 (10 * n + 5) v) := fun u v hu => hs u 5 v hu (by decide)
  have s6 : ∀ (u : St) (v : Int32), u 1 1 = nI (n + 1) → f_X5_setFact u (nI n) 6 v = some (up2 u 2 (10 * n + 6) v) := fun u v hu => hs u 6 v hu (by decide)
  have s7 : ∀ (u : St) (v : Int32), u 1 1 = nI (n + 1) → f_X5_setFact u (nI n) 7 v = some (up2 u 2 (10 * n + 7) v) := fun u v hu => hs u 7 v hu (by decide)
  have hp : ∀ (u : St) (v w : Int32), u 1 1 = nI (n + 1) → f_X5_place u (nI n) v w = some (up2 (up2 u 2 (10 * n + 8) v) 2 (10 * n + 9) w) := fun u v w hu => e_place (by omega) hu (by omega) v w
  have h0 : (up2 u 1 1 (nI n + 1)) 1 1 = nI (n + 1) := by simp [up2, upd, nI_1]
  unfold f_X5_add
  simp only [f_X6_kindIn, f_X6_placeIn, f_X6_thickIn, f_X6_onIn, f_X6_offIn, f_X6_nameIn, f_X6_sizeIn, f_X6_spanIn, Option.bind_some, h]
  simp only [Option.bind_some, s0, s1, s2, s3, s4, s5, s6, s7, hp, up2_11, h0]
  refine ⟨_, rfl, ?_, ?_, ?_, ?_, ?_, ?_, ?_, ?_, ?_, ?_, ?_, ?_, ?_⟩
  · simp [up2, nI_1]
  · intro k h1 h2; simp [up2, h1, h2]
  · intro i hi
    have a0 : i ≠ 10 * n + 0 := by omega
    have a1 : i ≠ 10 * n + 1 := by omega
    have a2 : i ≠ 10 * n + 2 := by omega
    have a3 : i ≠ 10 * n + 3 := by omega
    have a4 : i ≠ 10 * n + 4 := by omega
    have a5 : i ≠ 10 * n + 5 := by omega
    have a6 : i ≠ 10 * n + 6 := by omega
    have a7 : i ≠ 10 * n + 7 := by omega
    have a8 : i ≠ 10 * n + 8 := by omega
    have a9 : i ≠ 10 * n + 9 := by omega
    simp only [up2, upd, a0, a1, a2, a3, a4, a5, a6, a7, a8, a9, if_true, if_false]
    simp
  all_goals simp [up2, upd]
