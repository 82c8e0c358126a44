theorem ix6 {a b : Nat} (ha : a < 6) (hb : b < 6) : inb (nI a * 6 + nI b) 36 = true ∧ (nI a * 6 + nI b).toNatClampNeg = 6 * a + b := by
  have e : nI a * 6 + nI b = nI (6 * a + b) := by
    rw [show (6 : Int32) = nI 6 from rfl, nI_mul, nI_add, Nat.mul_comm]
  rw [e]
  exact ⟨inb_nI (by omega) (by decide), nI_clamp (by omega)⟩
theorem ix6m {a b : Nat} (ha : a < 6) (hb : b < 6) : inb (6 * nI a + nI b) 36 = true ∧ (6 * nI a + nI b).toNatClampNeg = 6 * a + b := by
  have e : 6 * nI a + nI b = nI (6 * a + b) := by
    rw [show (6 : Int32) = nI 6 from rfl, nI_mul, nI_add]
  rw [e]
  exact ⟨inb_nI (by omega) (by decide), nI_clamp (by omega)⟩
theorem op_way {ux um : St} (h : R ux um) (b c d : Int32) : Both (f_X6_way ux b c d) (f_X7_way um b c d) := by
  cases h1 : win b 0 5
  · exact bf1 h (by simp [f_X6_way, e_isWithin, h1, e_x1]) (by simp [f_X7_way, e_isDoor, h1, e_m1])
  cases h2 : win c 0 5
  · exact bf1 h (by simp [f_X6_way, e_isWithin, h1, h2, e_x1]) (by simp [f_X7_way, e_isDoor, h1, h2, e_m1])
  by_cases h3 : b = c
  · subst h3
    exact bf1 h (by simp [f_X6_way, e_isWithin, h1, e_x1]) (by simp [f_X7_way, e_isDoor, h1, e_m1])
  cases h4 : win d 0 600
  · exact bf1 h (by simp [f_X6_way, e_isWithin, h1, h2, h3, h4, e_x1]) (by simp [f_X7_way, e_isDoor, e_isIn, h1, h2, h3, h4, e_m1])
  obtain ⟨hP, hL, hS, hW, hrest⟩ := id h
  obtain ⟨i, hi, rfl⟩ := (win_nI (n := 5) (by decide) 5 rfl).mp h1
  obtain ⟨j, hj, rfl⟩ := (win_nI (n := 5) (by decide) 5 rfl).mp h2
  obtain ⟨a1, a2⟩ := ix6 (show i < 6 by omega) (show j < 6 by omega)
  obtain ⟨b1, b2⟩ := ix6 (show j < 6 by omega) (show i < 6 by omega)
  obtain ⟨c1, c2⟩ := ix6m (show i < 6 by omega) (show j < 6 by omega)
  obtain ⟨d1, d2⟩ := ix6m (show j < 6 by omega) (show i < 6 by omega)
  refine ⟨(ux 20 (6 * i + j), up2 (up2 ux 20 (6 * i + j) d) 20 (6 * j + i) d), (um 19 (6 * i + j), up2 (up2 um 19 (6 * i + j) d) 19 (6 * j + i) d), by simp [f_X6_way, f_X4_setWay, f_X4_wayBetween, e_isWithin, h1, h2, h3, h4, a1, a2, b1, b2], by simp [f_X7_way, e_isDoor, e_isIn, h1, h2, h3, h4, c1, c2, d1, d2], hW _ (by omega), ?_⟩
  refine ⟨by simpa [up2, upd] using hP, by simpa [up2, upd] using hL, by simpa [up2, upd] using hS, fun k hk => ?_, by simpa [up2, upd] using hrest⟩
  by_cases q1 : k = 6 * j + i
  · simp [up2, upd, q1]
  by_cases q2 : k = 6 * i + j
  · simp [up2, upd, q2]
  simp [up2, upd, q1, q2, hW k hk]
/-- what a change of one piece's place in the house keeps -/
theorem R.put {ux um : St} (h : R ux um) {j n : Nat} (hn : n ≤ 32) (hm : um 0 0 = nI n) (hj : j < n) (wv uv xv : Int32) (hu : xv = if wv = 2 ∨ wv = 3 then uv else 0) (hc : (wv = 2 → um 9 j ≠ 2 → cw (um 9) n < 6)) : R (up2 (up2 ux 2 (10 * j + 8) wv) 2 (10 * j + 9) xv) (up2 (up2 um 9 j wv) 10 j uv) := by
  obtain ⟨⟨n', hn', hx, hm', hf, hz, hcw⟩, hL, hS, hW, hrest⟩ := h
  have hnn : n' = n := (nI_eq (by omega) (by omega)).mp (hm'.symm.trans hm)
  subst hnn
  refine ⟨⟨n', hn', by simpa [up2] using hx, by simpa [up2] using hm, fun p hp => ?_, fun p h1 h2 => ?_, ?_⟩, by simpa [up2, upd] using hL, by simpa [up2, upd] using hS, by simpa [up2, upd] using hW, by simpa [up2, upd] using hrest⟩
  · obtain ⟨f0, f1, f2, f3, f4, f5, f6, f7, f8, f9⟩ := hf p hp
    by_cases q : p = j
    · subst q
      refine ⟨?_, ?_, ?_, ?_, ?_, ?_, ?_, ?_, ?_, ?_⟩
      · simpa [up2, upd] using f0
      · simpa [up2, upd] using f1
      · simpa [up2, upd] using f2
      · simpa [up2, upd] using f3
      · simpa [up2, upd] using f4
      · simpa [up2, upd] using f5
      · simpa [up2, upd] using f6
      · simpa [up2, upd] using f7
      · simp [up2, upd]
      · simp [up2, upd, hu]
    · have e : ∀ k, k < 10 → (up2 (up2 ux 2 (10 * j + 8) wv) 2 (10 * j + 9) xv) 2 (10 * p + k) = ux 2 (10 * p + k) := fun k hk => by
        have a1 : ¬ 10 * p + k = 10 * j + 8 := by omega
        have a2 : ¬ 10 * p + k = 10 * j + 9 := by omega
        simp only [up2, upd, if_true, a1, a2, if_false]
      have g9 : (up2 (up2 um 9 j wv) 10 j uv) 9 p = um 9 p := by simp [up2, upd, q]
      have g10 : (up2 (up2 um 9 j wv) 10 j uv) 10 p = um 10 p := by simp [up2, upd, q]
      rw [e 0 (by omega), e 1 (by omega), e 2 (by omega), e 3 (by omega), e 4 (by omega), e 5 (by omega), e 6 (by omega), e 7 (by omega), e 8 (by omega), e 9 (by omega), g9, g10]
      simpa [up2] using ⟨f0, f1, f2, f3, f4, f5, f6, f7, f8, f9⟩
  · have : ¬ p = j := by omega
    simpa [up2, upd, this] using hz p h1 h2
  · have e : (up2 (up2 um 9 j wv) 10 j uv) 9 = upd (um 9) j wv := by simp [up2]
    rw [e]
    have := cw_upd (um 9) wv (n := n') hj
    by_cases q : wv = 2
    · by_cases q2 : um 9 j = 2
      · simp [q, q2] at this ⊢; omega
      · have h6 := hc q q2
        simp [q, q2] at this ⊢; omega
    · simp only [q, if_false] at this ⊢
      omega
theorem up_same (u : St) (k j : Nat) : up2 u k j (u k j) = u := by
  funext a b
  simp only [up2, upd]
  by_cases h : a = k
  · subst h
    by_cases h2 : b = j
    · subst h2; simp [upd]
    · simp [upd, h2]
  · simp [h]
theorem op_worn {ux um : St} (h : R ux um) (p : Int32) : Both (f_X6_worn ux p) (f_X7_worn um p) := by
  obtain ⟨n, hn, hx, hm, hf, hz, hcw⟩ := h.1
  have hh := has_eq hn hx hm p
  cases hp : hasM um p
  · rw [hp] at hh
    exact bf1 h (by simp [f_X6_worn, e_has, hh, e_x1]) (by simp [f_X7_worn, e_isP, hp, e_m1])
  rw [hp] at hh
  obtain ⟨j, hj, rfl⟩ := (hasM_iff hn hm p).mp hp
  obtain ⟨f0, f1, f2, f3, f4, f5, f6, f7, f8, f9⟩ := hf j hj
  have i1 := inb_nI (show j < 32 by omega) (show 32 < 2 ^ 31 by decide)
  have i2 := nI_clamp (show j < 2 ^ 31 by omega)
  have e8 : f_X5_fact ux (nI j) 8 = some (um 9 j) := (e_fact hn hx hj (k := 8) (by decide)).trans (by rw [f8])
  by_cases w : um 9 j = 0
  · refine ⟨(1, up2 (up2 ux 2 (10 * j + 8) 1) 2 (10 * j + 9) 0), (1, up2 um 9 j 1), by simp [f_X6_worn, e_has, hh, e8, w, e_place hn hx hj], by simp [f_X7_worn, e_isP, hp, i1, i2, w], rfl, ?_⟩
    have hr := h.put hn hm hj 1 (um 10 j) 0 (by simp) (fun q => absurd q (by decide))
    rwa [show up2 (up2 um 9 j 1) 10 j (um 10 j) = up2 um 9 j 1 from by
      have := up_same (up2 um 9 j 1) 10 j
      simpa [up2_n um j 1 (show (10 : Nat) ≠ 9 by decide)] using this] at hr
  · exact bf3 h (by simp [f_X6_worn, e_has, hh, e8, w, e_x3]) (by simp [f_X7_worn, e_isP, hp, i1, i2, w, e_m3])
theorem l_cwX {u : St} {n : Nat} (hn : n ≤ 32) (hx : u 1 1 = nI n) (wh : Nat → Int32) (hw : ∀ p, p < n → u 2 (10 * p + 8) = wh p) : ∀ (m p : Nat), n < p + m → p ≤ n → f_X5_countInWash_4 u m (nI (cw wh p)) (nI p) = some (nI (cw wh n)) := by
  intro m
  induction m with
  | zero => intro p h1 h2; omega
  | succ m ih =>
    intro p h1 h2
    rw [f_X5_countInWash_4, hx]
    by_cases hp : p = n
    · subst hp; rw [if_pos (Int32.le_refl _)]
    · have hlt : p < n := by omega
      have e8 : f_X5_fact u (nI p) 8 = some (wh p) := (e_fact hn hx hlt (k := 8) (by decide)).trans (by rw [hw p hlt])
      rw [if_neg (nI_ge hlt (by omega)), e8, Option.bind_some, nI_1, nI_1]
      have hi := ih (p + 1) (by omega) (by omega)
      by_cases w : wh p = 2
      · rw [if_pos w]; simpa [cw, w] using hi
      · rw [if_neg w]; simpa [cw, w] using hi
theorem e_cwX {u : St} {n : Nat} (hn : n ≤ 32) (hx : u 1 1 = nI n) (wh : Nat → Int32) (hw : ∀ p, p < n → u 2 (10 * p + 8) = wh p) : f_X5_countInWash u = some (nI (cw wh n)) := l_cwX hn hx wh hw FU 0 (by have := FU_ge (z := n) (by omega); omega) (Nat.zero_le _)
theorem l_cwM {u : St} {n : Nat} (hn : n ≤ 32) (hm : u 0 0 = nI n) : ∀ (m p : Nat), n < p + m → p ≤ n → f_X7_washing_4 u m (nI (cw (u 9) p)) (nI p) = some (nI (cw (u 9) n)) := by
  intro m
  induction m with
  | zero => intro p h1 h2; omega
  | succ m ih =>
    intro p h1 h2
    rw [f_X7_washing_4, hm]
    by_cases hp : p = n
    · subst hp; rw [if_pos (Int32.le_refl _)]
    · have hlt : p < n := by omega
      rw [if_neg (nI_ge hlt (by omega)), if_pos (inb_nI (show p < 32 by omega) (by decide)), nI_clamp (by omega), nI_1, nI_1, Int32.add_zero]
      have hi := ih (p + 1) (by omega) (by omega)
      by_cases w : u 9 p = 2
      · rw [if_pos w]; simpa [cw, w] using hi
      · rw [if_neg w]; simpa [cw, w] using hi
theorem e_cwM {u : St} {n : Nat} (hn : n ≤ 32) (hm : u 0 0 = nI n) : f_X7_washing u = some (nI (cw (u 9) n)) := l_cwM hn hm FU 0 (by have := FU_ge (z := n) (by omega); omega) (Nat.zero_le _)
theorem op_wash {ux um : St} (h : R ux um) (p : Int32) : Both (f_X6_wash ux p) (f_X7_wash um p) := by
  obtain ⟨n, hn, hx, hm, hf, hz, hcw⟩ := h.1
  have hhr := h.2.2.2.2.2.1
  have hh := has_eq hn hx hm p
  cases hp : hasM um p
  · rw [hp] at hh
    exact bf1 h (by simp [f_X6_wash, e_has, hh, e_x1]) (by simp [f_X7_wash, e_isP, hp, e_m1])
  rw [hp] at hh
  obtain ⟨j, hj, rfl⟩ := (hasM_iff hn hm p).mp hp
  obtain ⟨f0, f1, f2, f3, f4, f5, f6, f7, f8, f9⟩ := hf j hj
  have i1 := inb_nI (show j < 32 by omega) (show 32 < 2 ^ 31 by decide)
  have i2 := nI_clamp (show j < 2 ^ 31 by omega)
  have e8 : f_X5_fact ux (nI j) 8 = some (um 9 j) := (e_fact hn hx hj (k := 8) (by decide)).trans (by rw [f8])
  have ex := e_cwX hn hx (um 9) (fun p hp => (hf p hp).2.2.2.2.2.2.2.2.1)
  have em := e_cwM hn hm
  by_cases w : um 9 j = 1
  · by_cases h6 : cw (um 9) n = 6
    · have a1 : ¬ nI 6 < 6 := by decide
      have a2 : nI 6 = 6 := rfl
      exact bf4 h (by simp [f_X6_wash, e_has, hh, e8, w, ex, h6, a1, e_x4]) (by simp [f_X7_wash, e_isP, hp, i1, i2, w, em, h6, a2, e_m4])
    · have a1 : nI (cw (um 9) n) < 6 := nI_lt (b := 6) (by omega) (by decide)
      have a2 : ¬ nI (cw (um 9) n) = 6 := fun q => h6 ((nI_eq (b := 6) (by omega) (by decide)).mp q)
      have e2 : f_X5_fact (up2 (up2 ux 2 (10 * j + 8) 2) 2 (10 * j + 9) (ux 1 2 + 2)) (nI j) 2 = some (um 3 j) := by
        refine (e_fact hn (by simpa [up2] using hx) hj (k := 2) (by decide)).trans ?_
        rw [← f2]; simp [up2, upd]
      have es : f_X5_soak ux (nI j) = some (ux 1 2 + 2 + um 3 j, up2 (up2 ux 2 (10 * j + 8) 2) 2 (10 * j + 9) (ux 1 2 + 2)) := by
        simp [f_X5_soak, e_place hn hx hj, e2]
      refine ⟨(ux 1 2 + 2 + um 3 j, up2 (up2 ux 2 (10 * j + 8) 2) 2 (10 * j + 9) (ux 1 2 + 2)), (um 0 22 + 2 + um 3 j, up2 (up2 um 9 j 2) 10 j (um 0 22 + 2)), by simp [f_X6_wash, e_has, hh, e8, w, ex, a1, es], by simp [f_X7_wash, e_isP, hp, i1, i2, w, em, a2], by rw [hhr], ?_⟩
      exact h.put hn hm hj 2 (um 0 22 + 2) (ux 1 2 + 2) (by simp [hhr]) (fun _ _ => by omega)
  · exact bf3 h (by simp [f_X6_wash, e_has, hh, e8, w, e_x3]) (by simp [f_X7_wash, e_isP, hp, i1, i2, w, e_m3])
