/-! ===== the relation between class and reference, of what lasts from call to call ===== -/
def cw (wh : Nat → Int32) : Nat → Nat
  | 0 => 0
  | n + 1 => cw wh n + if wh n = 2 then 1 else 0
theorem cw_cong {f g : Nat → Int32} : ∀ {n : Nat}, (∀ p, p < n → f p = g p) → cw f n = cw g n
  | 0, _ => rfl
  | n + 1, h => by rw [cw, cw, cw_cong (fun p hp => h p (by omega)), h n (by omega)]
theorem cw_out (f : Nat → Int32) (v : Int32) {j n : Nat} (h : n ≤ j) : cw (upd f j v) n = cw f n := cw_cong (fun p hp => by
  have : ¬ p = j := by omega
  simp [upd, this])
theorem cw_upd (f : Nat → Int32) (v : Int32) {j : Nat} : ∀ {n : Nat}, j < n → cw (upd f j v) n + (if f j = 2 then 1 else 0) = cw f n + (if v = 2 then 1 else 0)
  | 0, h => by omega
  | n + 1, h => by
    rw [cw, cw]
    rcases Nat.lt_or_ge j n with q | q
    · have e := cw_upd f v (n := n) q
      have : ¬ n = j := by omega
      simp only [upd, this, if_false] at e ⊢
      omega
    · have : j = n := by omega
      subst this
      rw [cw_out f v (Nat.le_refl _)]
      simp [upd]; omega
def Rp (c : Int32) (F : Nat → Int32) (m : Int32) (k1 k2 k3 k4 k5 k6 k7 k8 wh un : Nat → Int32) : Prop := ∃ n, n ≤ 32 ∧ c = nI n ∧ m = nI n ∧ (∀ p, p < n → F (10 * p + 0) = k1 p ∧ F (10 * p + 1) = k2 p ∧ F (10 * p + 2) = k3 p ∧ F (10 * p + 3) = k4 p ∧ F (10 * p + 4) = k5 p ∧ F (10 * p + 5) = k6 p ∧ F (10 * p + 6) = k7 p ∧ F (10 * p + 7) = k8 p ∧ F (10 * p + 8) = wh p ∧ F (10 * p + 9) = if wh p = 2 ∨ wh p = 3 then un p else 0) ∧ (∀ p, n ≤ p → p < 32 → wh p = 0) ∧ cw wh n ≤ 6
def Rl (m : Int32) (X4 X5 M11 M12 : Nat → Int32) : Prop := ∀ l, l < 12 → ∃ z, z ≤ 8 ∧ X5 l = nI z ∧ M11 l = nI z ∧ ∀ i, i < z → X4 (8 * l + i) = M12 (8 * l + i) ∧ ∃ j, j < m.toNatClampNeg ∧ M12 (8 * l + i) = nI j
def Rs (c : Int32) (X16 X17 X18 X19 : Nat → Int32) (m : Int32) (M13 M14 M15 M16 M17 M18 : Nat → Int32) : Prop := ∃ k, k ≤ 12 ∧ c = nI k ∧ m = nI k ∧ ∀ s, s < k → X16 s / 1000 = M13 s ∧ X16 s / 10 - X16 s / 10 / 100 * 100 = M14 s ∧ X16 s - X16 s / 10 * 10 = M15 s ∧ X17 s = M16 s ∧ X18 s = M17 s ∧ X19 s = M18 s ∧ (∃ a, a < 12 ∧ M13 s = nI a) ∧ (∃ a, a < 12 ∧ M14 s = nI a) ∧ (∃ a, a < 6 ∧ M15 s = nI a) ∧ (∃ a, a ≤ 3 ∧ M18 s = nI a)
def R (ux um : St) : Prop := Rp (ux 1 1) (ux 2) (um 0 0) (um 1) (um 2) (um 3) (um 4) (um 5) (um 6) (um 7) (um 8) (um 9) (um 10) ∧ Rl (um 0 0) (ux 4) (ux 5) (um 11) (um 12) ∧ Rs (ux 15 5) (ux 16) (ux 17) (ux 18) (ux 19) (um 0 14) (um 13) (um 14) (um 15) (um 16) (um 17) (um 18) ∧ (∀ i, i < 36 → ux 20 i = um 19 i) ∧ ux 0 9 = um 0 13 ∧ ux 1 2 = um 0 22 ∧ (∃ c, c ≤ 30 ∧ ux 0 8 = nI c) ∧ (∃ c, c ≤ 30 ∧ um 0 23 = nI c) ∧ Sv (um 0 0) (um 3) (um 4) (um 5) (um 7) (um 8) ∧ Sl (um 11) (um 12) ∧ Sc (ux 6) (um 11) (um 12) ∧ Sft (um 0 14) (um 16) (um 17)
def FrX (u u' : St) : Prop := ∀ k, k < 7 ∨ (15 ≤ k ∧ k ≤ 20) → u' k = u k
def FrM (u u' : St) : Prop := (∀ k, 1 ≤ k → k ≤ 19 → u' k = u k) ∧ ∀ j, j < 26 → u' 0 j = u 0 j
theorem FrX.rf (u : St) : FrX u u := fun _ _ => rfl
theorem FrM.rf (u : St) : FrM u u := ⟨fun _ _ _ => rfl, fun _ _ => rfl⟩
theorem FrX.tr {a b c : St} (h1 : FrX a b) (h2 : FrX b c) : FrX a c := fun k hk => (h2 k hk).trans (h1 k hk)
theorem FrM.tr {a b c : St} (h1 : FrM a b) (h2 : FrM b c) : FrM a c := ⟨fun k a1 a2 => (h2.1 k a1 a2).trans (h1.1 k a1 a2), fun j hj => (h2.2 j hj).trans (h1.2 j hj)⟩
theorem FrX.up {u : St} {k : Nat} (j : Nat) (x : Int32) (hk : ¬ (k < 7 ∨ (15 ≤ k ∧ k ≤ 20))) : FrX u (up2 u k j x) := fun a ha => up2_n u j x (fun q => hk (q ▸ ha))
theorem FrM.up {u : St} {k : Nat} (j : Nat) (x : Int32) (hk : 20 ≤ k) : FrM u (up2 u k j x) := ⟨fun a h1 h2 => up2_n u j x (by omega), fun i hi => by rw [up2_n u j x (by omega)]⟩
theorem FrM.up0 {u : St} {j : Nat} (x : Int32) (hj : 26 ≤ j) : FrM u (up2 u 0 j x) := ⟨fun a h1 h2 => up2_n u j x (by omega), fun i hi => by
  have : ¬ i = j := by omega
  simp [up2, upd, this]⟩
theorem FrX.XF (k : Nat) (u : St) : FrX u (XF k u) := FrX.up _ _ (by omega)
theorem FrM.MF (k : Nat) (u : St) : FrM u (MF k u) := FrM.up _ _ (by omega)
theorem R.fr {ux um ux' um' : St} (h : R ux um) (hx : FrX ux ux') (hm : FrM um um') : R ux' um' := by
  unfold R at h ⊢
  rw [hx 0 (by omega), hx 1 (by omega), hx 2 (by omega), hx 4 (by omega), hx 5 (by omega), hx 6 (by omega), hx 15 (by omega), hx 16 (by omega), hx 17 (by omega), hx 18 (by omega), hx 19 (by omega), hx 20 (by omega), hm.2 0 (by omega), hm.2 14 (by omega), hm.2 13 (by omega), hm.2 22 (by omega), hm.2 23 (by omega), hm.1 1 (by omega) (by omega), hm.1 2 (by omega) (by omega), hm.1 3 (by omega) (by omega), hm.1 4 (by omega) (by omega), hm.1 5 (by omega) (by omega), hm.1 6 (by omega) (by omega), hm.1 7 (by omega) (by omega), hm.1 8 (by omega) (by omega), hm.1 9 (by omega) (by omega), hm.1 10 (by omega) (by omega), hm.1 11 (by omega) (by omega), hm.1 12 (by omega) (by omega), hm.1 13 (by omega) (by omega), hm.1 14 (by omega) (by omega), hm.1 15 (by omega) (by omega), hm.1 16 (by omega) (by omega), hm.1 17 (by omega) (by omega), hm.1 18 (by omega) (by omega), hm.1 19 (by omega) (by omega)]
  exact h
theorem R.fin {ux um : St} (h : R ux um) (k j : Nat) : R (XF k ux) (MF j um) := h.fr (FrX.XF k ux) (FrM.MF j um)
/-- one call on both sides -/
def Both (fx fm : Option (Int32 × St)) : Prop := ∃ q1 q2 : Int32 × St, fx = some q1 ∧ fm = some q2 ∧ q1.1 = q2.1 ∧ R q1.2 q2.2
def Runs (fx fm : Option (Int32 × St)) : Prop := ∃ q1 q2 : Int32 × St, fx = some q1 ∧ fm = some q2 ∧ R q1.2 q2.2
theorem Both.runs {fx fm : Option (Int32 × St)} (h : Both fx fm) : Runs fx fm := by
  obtain ⟨q1, q2, a, b, -, c⟩ := h
  exact ⟨q1, q2, a, b, c⟩
theorem both1 {ux um : St} (h : R ux um) {fx fm : Option (Int32 × St)} (k : Nat) {v : Int32} (hx : fx = some (v, XF k ux)) (hm : fm = some (v, MF k um)) : Both fx fm := ⟨_, _, hx, hm, rfl, h.fin k k⟩
theorem bf1 {ux um : St} (h : R ux um) {fx fm : Option (Int32 × St)} (hx : fx = some (-1000001, XF 1 ux)) (hm : fm = some (-1000001, MF 1 um)) : Both fx fm := both1 h 1 hx hm
theorem bf2 {ux um : St} (h : R ux um) {fx fm : Option (Int32 × St)} (hx : fx = some (-1000002, XF 2 ux)) (hm : fm = some (-1000002, MF 2 um)) : Both fx fm := both1 h 2 hx hm
theorem bf3 {ux um : St} (h : R ux um) {fx fm : Option (Int32 × St)} (hx : fx = some (-1000003, XF 3 ux)) (hm : fm = some (-1000003, MF 3 um)) : Both fx fm := both1 h 3 hx hm
theorem bf4 {ux um : St} (h : R ux um) {fx fm : Option (Int32 × St)} (hx : fx = some (-1000004, XF 4 ux)) (hm : fm = some (-1000004, MF 4 um)) : Both fx fm := both1 h 4 hx hm
theorem bf5 {ux um : St} (h : R ux um) {fx fm : Option (Int32 × St)} (hx : fx = some (-1000005, XF 5 ux)) (hm : fm = some (-1000005, MF 5 um)) : Both fx fm := both1 h 5 hx hm
def hasM (u : St) (p : Int32) : Bool := !decide (p < 0) && !decide (u 0 0 ≤ p)
theorem e_isP (u : St) (p : Int32) : f_X7_isPiece u p = some (if hasM u p = true then 1 else 0) := by
  unfold f_X7_isPiece hasM
  by_cases h1 : p < 0
  · simp [h1]
  by_cases h2 : u 0 0 ≤ p <;> simp [h1, h2]
theorem hasM_iff {u : St} {n : Nat} (hn : n ≤ 32) (h : u 0 0 = nI n) (p : Int32) : hasM u p = true ↔ ∃ j : Nat, j < n ∧ p = nI j := by
  unfold hasM
  rw [h]
  constructor
  · intro q
    simp only [Bool.and_eq_true, Bool.not_eq_true', decide_eq_false_iff_not] at q
    obtain ⟨q1, q2⟩ := q
    obtain ⟨j, hj, rfl⟩ := nI_of q1
    refine ⟨j, ?_, rfl⟩
    have := mt (nI_leI (by omega) hj).mpr q2
    omega
  · rintro ⟨j, hj, rfl⟩
    have a1 := nI_pos (n := j) (by omega)
    have a2 : ¬ nI n ≤ nI j := fun q => by have := (nI_leI (by omega) (by omega)).mp q; omega
    simp [a1, a2]
theorem has_eq {ux um : St} {n : Nat} (hn : n ≤ 32) (hx : ux 1 1 = nI n) (hm : um 0 0 = nI n) (p : Int32) : hasP ux p = hasM um p := by
  cases h1 : hasP ux p <;> cases h2 : hasM um p <;> try rfl
  · exact absurd ((hasP_iff hn hx p).mpr ((hasM_iff hn hm p).mp h2)) (by simp [h1])
  · exact absurd ((hasM_iff hn hm p).mpr ((hasP_iff hn hx p).mp h1)) (by simp [h2])
def pieceM (u : St) (n : Nat) (a b c : Int32) : St := up2 (up2 (up2 (up2 (up2 (up2 (up2 (up2 (up2 u 6 n (a / 1000)) 2 n ((a / 100) - (a / 100) / 10 * 10)) 3 n ((a / 10) - (a / 10) / 10 * 10)) 1 n (a - a / 10 * 10)) 4 n (b / 100)) 5 n (b - b / 100 * 100)) 7 n (c / 10)) 8 n (c - c / 10 * 10)) 0 0 (nI n + 1)
theorem e_mpiece1 {u : St} {n : Nat} (hn : n < 32) (h : u 0 0 = nI n) (a b c : Int32) : f_X7_piece_150 u a b c 1 = some (nI n + 1 - 1, pieceM u n a b c) := by
  unfold f_X7_piece_150
  have e3 : ¬ nI n = 32 := fun q => by have := (nI_eq (b := 32) (by omega) (by decide)).mp q; omega
  rw [h, if_neg (by decide), if_neg e3, if_pos (inb_nI hn (by decide)), nI_clamp (by omega)]
  rfl
theorem op_piece {ux um : St} (h : R ux um) (a b c : Int32) : Both (f_X6_piece ux a b c) (f_X7_piece um a b c) := by
  rw [e_mpiece]
  unfold f_X6_piece
  rw [e_told]
  cases ht : ptold a b c
  · exact bf1 h (by simp [e_x1]) (by simp [f_X7_piece_150, e_m1])
  obtain ⟨hP, hL, hS, hW, h9, h22, h8, h23, hSv, hSt⟩ := id h
  obtain ⟨n, hn, hx, hm, hf, hz, hcw⟩ := hP
  by_cases h32 : n = 32
  · subst h32
    have e1 : f_X5_isFull ux = some 1 := by unfold f_X5_isFull; rw [hx]; rfl
    have e2 : um 0 0 = 32 := hm
    exact bf4 h (by simp [e1, e_x4]) (by simp [f_X7_piece_150, e2, e_m4])
  · have hlt : n < 32 := by omega
    have e1 : f_X5_isFull ux = some 0 := by
      unfold f_X5_isFull
      rw [hx, if_pos (show nI n < 32 from nI_lt (b := 32) hlt (by decide))]
    obtain ⟨u', e2, c1, c2, c3, d0, d1, d2, d3, d4, d5, d6, d7, d8, d9⟩ := e_add hlt hx a b c
    have e3 : ¬ um 0 0 = 32 := by rw [hm]; exact fun q => h32 ((nI_eq (b := 32) (by omega) (by decide)).mp q)
    have e4 := inb_nI hlt (show 32 < 2 ^ 31 by decide)
    have e5 := nI_clamp (show n < 2 ^ 31 by omega)
    refine ⟨(nI n, u'), (nI n + 1 - 1, pieceM um n a b c), by simp [e1, e2], by rw [if_pos rfl]; exact e_mpiece1 hlt hm a b c, ?_, ?_⟩
    · show nI n = nI n + 1 - 1
      rw [nI_1, nI_pred]
    · show R u' (pieceM um n a b c)
      refine ⟨⟨n + 1, by omega, by rw [c1]; simp [upd], by simp [pieceM, up2, upd, nI_1], fun p hp => ?_, fun p h1 h2 => ?_, ?_⟩, ?_, ?_, ?_⟩
      · rcases Nat.lt_or_ge p n with q | q
        · obtain ⟨f0, f1, f2, f3, f4, f5, f6, f7, f8, f9⟩ := hf p q
          have hne : ¬ p = n := by omega
          refine ⟨?_, ?_, ?_, ?_, ?_, ?_, ?_, ?_, ?_, ?_⟩
          · rw [c3 _ (by omega), f0]; simp [pieceM, up2, upd, hne]
          · rw [c3 _ (by omega), f1]; simp [pieceM, up2, upd, hne]
          · rw [c3 _ (by omega), f2]; simp [pieceM, up2, upd, hne]
          · rw [c3 _ (by omega), f3]; simp [pieceM, up2, upd, hne]
          · rw [c3 _ (by omega), f4]; simp [pieceM, up2, upd, hne]
          · rw [c3 _ (by omega), f5]; simp [pieceM, up2, upd, hne]
          · rw [c3 _ (by omega), f6]; simp [pieceM, up2, upd, hne]
          · rw [c3 _ (by omega), f7]; simp [pieceM, up2, upd, hne]
          · rw [c3 _ (by omega), f8]; simp [pieceM, up2]
          · rw [c3 _ (by omega), f9]; simp [pieceM, up2]
        · have hpn : p = n := by omega
          subst hpn
          have hw := hz p (Nat.le_refl _) hlt
          refine ⟨?_, ?_, ?_, ?_, ?_, ?_, ?_, ?_, ?_, ?_⟩
          · rw [Nat.add_zero, d0]; simp [pieceM, up2, upd]
          · rw [d1]; simp [pieceM, up2, upd]
          · rw [d2]; simp [pieceM, up2, upd]
          · rw [d3]; simp [pieceM, up2, upd]
          · rw [d4]; simp [pieceM, up2, upd]
          · rw [d5]; simp [pieceM, up2, upd]
          · rw [d6]; simp [pieceM, up2, upd]
          · rw [d7]; simp [pieceM, up2, upd]
          · rw [d8]; simp [pieceM, up2, hw]
          · rw [d9]; simp [pieceM, up2, hw]
      · have := hz p (by omega) h2
        simp [pieceM, up2, this]
      · have h0 := hz n (Nat.le_refl _) hlt
        have : cw (pieceM um n a b c 9) (n + 1) = cw (um 9) n := by
          rw [show pieceM um n a b c 9 = um 9 by simp [pieceM, up2], cw, h0]
          simp
        omega
      · intro l hl
        obtain ⟨z, z1, z2, z3, z4⟩ := hL l hl
        refine ⟨z, z1, ?_, ?_, fun i hi => ?_⟩
        · rw [c2 5 (by decide) (by decide)]; exact z2
        · simp [pieceM, up2, z3]
        · obtain ⟨w1, j, w2, w3⟩ := z4 i hi
          refine ⟨?_, j, ?_, ?_⟩
          · rw [c2 4 (by decide) (by decide)]; simp [pieceM, up2, w1]
          · rw [hm, e5] at w2
            show j < (pieceM um n a b c 0 0).toNatClampNeg
            rw [show pieceM um n a b c 0 0 = nI (n + 1) by simp [pieceM, up2, upd, nI_1]]
            rw [nI_clamp (by omega)]; omega
          · simp [pieceM, up2, w3]
      · rw [c2 15 (by decide) (by decide), c2 16 (by decide) (by decide), c2 17 (by decide) (by decide), c2 18 (by decide) (by decide), c2 19 (by decide) (by decide)]
        simpa [pieceM, up2, upd] using hS
      · rw [c2 20 (by decide) (by decide), c2 0 (by decide) (by decide), c2 6 (by decide) (by decide), c1]
        refine ⟨by simpa [pieceM, up2, upd] using hW, by simpa [pieceM, up2, upd] using h9, by simpa [pieceM, up2, upd] using h22, by simpa [pieceM, up2, upd] using h8, by simpa [pieceM, up2, upd] using h23, fun p hp => ?_, by simpa [pieceM, up2, upd] using hSt⟩
        rw [show pieceM um n a b c 0 0 = nI (n + 1) by simp [pieceM, up2, upd, nI_1], nI_clamp (by omega)] at hp
        by_cases q : p = n
        · subst q
          simpa [pieceM, up2, upd] using v5_told ht
        · simpa [pieceM, up2, upd, q] using hSv p (by rw [hm, nI_clamp (by omega)]; omega)
