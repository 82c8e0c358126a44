theorem win_sh {v lo hi : Int32} {m n : Nat} (e1 : lo = nI m) (e2 : hi = nI n) (hn : n < 2 ^ 30) (hm : m ≤ n) (h : win v lo hi = true) : ∃ j : Nat, j ≤ n - m ∧ v = nI (j + m) := by
  subst e1; subst e2
  obtain ⟨h1, h2⟩ := win_iff.mp h
  have h0 : ¬ v < 0 := fun q => by
    have := nI_toInt (n := m) (by omega)
    rw [Int32.le_iff_toInt_le, this] at h1
    rw [Int32.lt_iff_toInt_lt] at q
    have e : (0 : Int32).toInt = 0 := rfl
    rw [e] at q
    omega
  obtain ⟨j, hj, rfl⟩ := nI_of h0
  have a1 := (nI_leI (by omega) hj).mp h1
  have a2 := (nI_leI hj (by omega)).mp h2
  exact ⟨j - m, by omega, by rw [Nat.sub_add_cancel a1]⟩
