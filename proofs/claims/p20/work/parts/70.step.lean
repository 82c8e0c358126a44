/-! ===== one step of everything ===== -/
theorem R0 : R s0X s0M := by
  refine ⟨⟨0, by omega, rfl, rfl, fun p hp => by omega, fun p _ _ => rfl, Nat.zero_le _⟩, fun l hl => ⟨0, by omega, rfl, rfl, fun i hi => by omega⟩, ⟨0, by omega, rfl, rfl, fun s hs => by omega⟩, fun i hi => rfl, rfl, rfl, ⟨0, by omega, rfl⟩, ⟨0, by omega, rfl⟩, fun p hp => absurd hp (Nat.not_lt_zero p), fun l hl i k h1 h2 => absurd h2 (Nat.not_lt_zero k), fun p hp => rfl, fun s hs => absurd hs (Nat.not_lt_zero s)⟩
theorem go {ux um : St} (h : R ux um) {fx fm : Option (Int32 × St)} (g1 : GoX ux fx) (g2 : GoM um fm) : Runs fx fm := by
  obtain ⟨q1, e1, f1⟩ := g1
  obtain ⟨q2, e2, f2⟩ := g2
  exact ⟨q1, q2, e1, e2, h.fr f1 f2⟩
theorem sf_allowed {ux um : St} (h : R ux um) (b c d : Int32) : Runs (f_X6_allowed ux b c d) (f_X7_allowed um b c d) := go h (gx_allowed h.hx b c d) (gm_allowed h.hm b c d)
theorem sf_told {ux um : St} (h : R ux um) (b c d e : Int32) : Runs (f_X6_told ux b c d e) (f_X7_told um b c d e) := go h (gx_told h.hx b c d e) (gm_told h.hm b c d e)
theorem sf_seconds {ux um : St} (h : R ux um) (b c d e : Int32) : Runs (f_X6_seconds ux b c d e) (f_X7_seconds um b c d e) := go h (gx_seconds h.hx b c d e) (gm_seconds h.hm b c d e)
theorem sf_best {ux um : St} (h : R ux um) (b c d e : Int32) : Runs (f_X6_best ux b c d e) (f_X7_best um b c d e) := go h (gx_best h.hx b c d e) (gm_best h.hm b c d e)
theorem sf_fits {ux um : St} (h : R ux um) (b : Int32) : Runs (f_X6_fits ux b) (f_X7_fits um b) := go h (gx_fits h.hx h.hs b) (gm_fits h.hm h.hn b)
theorem sf_dressers {ux um : St} (h : R ux um) : Runs (f_X6_dressers ux) (f_X7_dressers um) := go h (gx_dressers h.hs) (gm_dressers h.hn)
theorem sf_tonight {ux um : St} (h : R ux um) (b c : Int32) : Runs (f_X6_tonight ux b c) (f_X7_tonight um b c) := go h (gx_tonight h.hx b c) (gm_tonight h.hm b c)
theorem R.noM {ux um : St} (h : R ux um) : R ux (up2 um 0 23 0) := by
  obtain ⟨h1, h2, h3, h4, h5, h6, h7, h8, hT⟩ := h
  exact ⟨by simpa [up2, upd] using h1, by simpa [up2, upd] using h2, by simpa [up2, upd] using h3, by simpa [up2, upd] using h4, by simpa [up2, upd] using h5, by simpa [up2, upd] using h6, h7, ⟨0, by omega, by simp [up2, upd]; rfl⟩, by simpa [up2, upd] using hT⟩
theorem R.noX {ux um : St} (h : R ux um) : R (up2 ux 0 8 0) um := by
  obtain ⟨h1, h2, h3, h4, h5, h6, h7, h8⟩ := h
  exact ⟨by simpa [up2, upd] using h1, by simpa [up2, upd] using h2, by simpa [up2, upd] using h3, by simpa [up2, upd] using h4, by simpa [up2, upd] using h5, by simpa [up2, upd] using h6, ⟨0, by omega, by simp [up2, upd]; rfl⟩, by simpa [up2, upd] using h8⟩
theorem sf_check {ux um : St} (h : R ux um) (b c d : Int32) : Runs (f_X6_check ux b c d) (f_X7_check um b c d) := by
  obtain ⟨q1, e1, f1⟩ := gx_check h.hx b c d
  obtain ⟨q2, e2, f2⟩ := gm_check h.hm h.2.2.2.2.2.2.2.1 b c d
  refine ⟨q1, q2, e1, e2, ?_⟩
  rcases f1 with f1 | f1
  · exact h.noM.fr f1 f2
  · exact h.noX.noM.fr f1 f2
