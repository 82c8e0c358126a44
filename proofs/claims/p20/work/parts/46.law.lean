/-- what one call of the script asks: both sides run, what is compared is alike, the relation goes on -/
def stp_0 (Rl : St → St → Prop) (b c d e : Int32) (ux um : St) : Prop := ∃ (q1 q2 : Int32 × St), f_X6_piece ux b c d = some q1 ∧ f_X7_piece um b c d = some q2 ∧ Rl q1.2 q2.2
def stp_1 (Rl : St → St → Prop) (b c d e : Int32) (ux um : St) : Prop := ∃ (q1 q2 : Int32 × St), f_X6_as ux b c = some q1 ∧ f_X7_as um b c = some q2 ∧ Rl q1.2 q2.2
def stp_2 (Rl : St → St → Prop) (b c d e : Int32) (ux um : St) : Prop := ∃ (q1 q2 : Int32 × St), f_X6_about ux b c = some q1 ∧ f_X7_about um b c = some q2 ∧ Rl q1.2 q2.2
def stp_3 (Rl : St → St → Prop) (b c d e : Int32) (ux um : St) : Prop := ∃ (q1 q2 : Int32 × St), f_X6_wear ux b c = some q1 ∧ f_X7_wear um b c = some q2 ∧ Rl q1.2 q2.2
def stp_4 (Rl : St → St → Prop) (b c d e : Int32) (ux um : St) : Prop := ∃ (q1 q2 : Int32 × St), f_X6_bare ux b = some q1 ∧ f_X7_bare um b = some q2 ∧ Rl q1.2 q2.2
def stp_5 (Rl : St → St → Prop) (b c d e : Int32) (ux um : St) : Prop := ∃ (q1 q2 : Int32 × St), f_X6_look ux b c = some q1 ∧ f_X7_look um b c = some q2 ∧ Rl q1.2 q2.2
def stp_6 (Rl : St → St → Prop) (b c d e : Int32) (ux um : St) : Prop := ∃ (q1 q2 : Int32 × St), f_X6_limit ux b = some q1 ∧ f_X7_limit um b = some q2 ∧ Rl q1.2 q2.2
def stp_7 (Rl : St → St → Prop) (b c d e : Int32) (ux um : St) : Prop := ∃ (q1 q2 : Int32 × St), f_X6_allowed ux b c d = some q1 ∧ f_X7_allowed um b c d = some q2 ∧ Rl q1.2 q2.2
def stp_8 (Rl : St → St → Prop) (b c d e : Int32) (ux um : St) : Prop := ∃ (q1 q2 : Int32 × St), f_X6_told ux b c d e = some q1 ∧ f_X7_told um b c d e = some q2 ∧ Rl q1.2 q2.2
def stp_9 (Rl : St → St → Prop) (b c d e : Int32) (ux um : St) : Prop := ∃ (q1 q2 : Int32 × St), f_X6_seconds ux b c d e = some q1 ∧ f_X7_seconds um b c d e = some q2 ∧ Rl q1.2 q2.2
def stp_10 (Rl : St → St → Prop) (b c d e : Int32) (ux um : St) : Prop := ∃ (q1 q2 : Int32 × St), f_X6_best ux b c d e = some q1 ∧ f_X7_best um b c d e = some q2 ∧ Rl q1.2 q2.2
def stp_11 (Rl : St → St → Prop) (b c d e : Int32) (ux um : St) : Prop := ∃ (q1 q2 : Int32 × St), f_X6_shift ux b c d e = some q1 ∧ f_X7_shift um b c d e = some q2 ∧ Rl q1.2 q2.2
def stp_12 (Rl : St → St → Prop) (b c d e : Int32) (ux um : St) : Prop := ∃ (q1 q2 : Int32 × St), f_X6_less ux = some q1 ∧ f_X7_less um = some q2 ∧ Rl q1.2 q2.2
def stp_13 (Rl : St → St → Prop) (b c d e : Int32) (ux um : St) : Prop := ∃ (q1 q2 : Int32 × St), f_X6_way ux b c d = some q1 ∧ f_X7_way um b c d = some q2 ∧ Rl q1.2 q2.2
def stp_14 (Rl : St → St → Prop) (b c d e : Int32) (ux um : St) : Prop := ∃ (q1 q2 : Int32 × St), f_X6_fits ux b = some q1 ∧ f_X7_fits um b = some q2 ∧ Rl q1.2 q2.2
def stp_15 (Rl : St → St → Prop) (b c d e : Int32) (ux um : St) : Prop := ∃ (q1 q2 : Int32 × St), f_X6_dressers ux = some q1 ∧ f_X7_dressers um = some q2 ∧ Rl q1.2 q2.2
def stp_16 (Rl : St → St → Prop) (b c d e : Int32) (ux um : St) : Prop := ∃ (q1 q2 : Int32 × St), f_X6_worn ux b = some q1 ∧ f_X7_worn um b = some q2 ∧ Rl q1.2 q2.2
def stp_17 (Rl : St → St → Prop) (b c d e : Int32) (ux um : St) : Prop := ∃ (q1 q2 : Int32 × St), f_X6_wash ux b = some q1 ∧ f_X7_wash um b = some q2 ∧ Rl q1.2 q2.2
def stp_18 (Rl : St → St → Prop) (b c d e : Int32) (ux um : St) : Prop := ∃ (q1 q2 : Int32 × St), f_X6_hours ux b = some q1 ∧ f_X7_hours um b = some q2 ∧ q1.1 = q2.1 ∧ Rl q1.2 q2.2
def stp_19 (Rl : St → St → Prop) (b c d e : Int32) (ux um : St) : Prop := ∃ (q1 q2 : Int32 × St), f_X6_tonight ux b c = some q1 ∧ f_X7_tonight um b c = some q2 ∧ Rl q1.2 q2.2
def stp_20 (Rl : St → St → Prop) (b c d e : Int32) (ux um : St) : Prop := ∃ (q1 q2 : Int32 × St), f_X6_tell ux b = some q1 ∧ f_X7_tell_ um b = some q2 ∧ Rl q1.2 q2.2
def stp_21 (Rl : St → St → Prop) (b c d e : Int32) (ux um : St) : Prop := ∃ (q1 q2 : Int32 × St), f_X6_check ux b c d = some q1 ∧ f_X7_check um b c d = some q2 ∧ Rl q1.2 q2.2
def stp_22 (Rl : St → St → Prop) (b c d e : Int32) (ux um : St) : Prop := ∃ (q1 q2 : Int32 × St), f_X6_count ux b = some q1 ∧ f_X7_count um b = some q2 ∧ Rl q1.2 q2.2
def stp_23 (Rl : St → St → Prop) (b c d e : Int32) (ux um : St) : Prop := ∃ (q1 q2 : Int32 × St), f_X6_found ux b = some q1 ∧ f_X7_found um b = some q2 ∧ Rl q1.2 q2.2
def LStp (Rl : St → St → Prop) (o b c d e : Int32) (ux um : St) : Prop := (o = 0 → stp_0 Rl b c d e ux um) ∧ (o = 1 → stp_1 Rl b c d e ux um) ∧ (o = 2 → stp_2 Rl b c d e ux um) ∧ (o = 3 → stp_3 Rl b c d e ux um) ∧ (o = 4 → stp_4 Rl b c d e ux um) ∧ (o = 5 → stp_5 Rl b c d e ux um) ∧ (o = 6 → stp_6 Rl b c d e ux um) ∧ (o = 7 → stp_7 Rl b c d e ux um) ∧ (o = 8 → stp_8 Rl b c d e ux um) ∧ (o = 9 → stp_9 Rl b c d e ux um) ∧ (o = 10 → stp_10 Rl b c d e ux um) ∧ (o = 11 → stp_11 Rl b c d e ux um) ∧ (o = 12 → stp_12 Rl b c d e ux um) ∧ (o = 13 → stp_13 Rl b c d e ux um) ∧ (o = 14 → stp_14 Rl b c d e ux um) ∧ (o = 15 → stp_15 Rl b c d e ux um) ∧ (o = 16 → stp_16 Rl b c d e ux um) ∧ (o = 17 → stp_17 Rl b c d e ux um) ∧ (o = 18 → stp_18 Rl b c d e ux um) ∧ (o = 19 → stp_19 Rl b c d e ux um) ∧ (o = 20 → stp_20 Rl b c d e ux um) ∧ (o = 21 → stp_21 Rl b c d e ux um) ∧ (o = 22 → stp_22 Rl b c d e ux um) ∧ (o = 23 → stp_23 Rl b c d e ux um) ∧ (¬ o = 0 → ¬ o = 1 → ¬ o = 2 → ¬ o = 3 → ¬ o = 4 → ¬ o = 5 → ¬ o = 6 → ¬ o = 7 → ¬ o = 8 → ¬ o = 9 → ¬ o = 10 → ¬ o = 11 → ¬ o = 12 → ¬ o = 13 → ¬ o = 14 → ¬ o = 15 → ¬ o = 16 → ¬ o = 17 → ¬ o = 18 → ¬ o = 19 → ¬ o = 20 → ¬ o = 21 → ¬ o = 22 → ¬ o = 23 → Rl ux um)
theorem ix_law {N k : Nat} {xs : Nat → Int32} (hN : N ≤ 100000) (hk : 5 * k + 5 ≤ N) (j : Nat) (hj : j < 5) (y : Int32) (hy : y = nI j) : vp_in (nI (5 * k) + y) N ∧ xs (nI (5 * k) + y).toNatClampNeg = xs (5 * k + j) := by
  subst hy
  rw [nI_add]
  refine ⟨vp_in_nI (by omega) (by omega), ?_⟩
  rw [nI_clamp (by omega)]
theorem lt_law {N k : Nat} (hN : N ≤ 100000) (h : ¬ (Int32.ofNat N - 5 < nI (5 * k))) (hk : 5 * k ≤ N + 5) : 5 * k + 5 ≤ N := by
  have h5 : (5 : Int32) = nI 5 := rfl
  have e : (nI N - nI 5).toInt = (N : Int) - 5 := pk_sub_toInt (by omega) (by omega)
  have e2 : (nI (5 * k)).toInt = ((5 * k : Nat) : Int) := nI_toInt (by omega)
  rw [Int32.lt_iff_toInt_lt, h5] at h
  have e3 : (Int32.ofNat N - nI 5).toInt = (N : Int) - 5 := e
  rw [e3, e2] at h
  omega
theorem sw_law {x : Int32} (h0 : ¬ x = 0) (h1 : ¬ x = 1) (h2 : ¬ x = 2) (h3 : ¬ x = 3) (h4 : ¬ x = 4) (h5 : ¬ x = 5) (h6 : ¬ x = 6) (h7 : ¬ x = 7) (h8 : ¬ x = 8) (h9 : ¬ x = 9) (h10 : ¬ x = 10) (h11 : ¬ x = 11) (h12 : ¬ x = 12) (h13 : ¬ x = 13) (h14 : ¬ x = 14) (h15 : ¬ x = 15) (h16 : ¬ x = 16) (h17 : ¬ x = 17) (h18 : ¬ x = 18) (h19 : ¬ x = 19) (h20 : ¬ x = 20) (h21 : ¬ x = 21) (h22 : ¬ x = 22) (h23 : ¬ x = 23) : x.toInt < 0 ∨ 23 < x.toInt := by
  have hx := fun (k : Int32) (h : x.toInt = k.toInt) => Int32.toInt_inj.mp h
  by_cases q : x.toInt < 0
  · exact Or.inl q
  · refine Or.inr (Int.not_le.mp fun q2 => ?_)
    have : x.toInt = 0 ∨ x.toInt = 1 ∨ x.toInt = 2 ∨ x.toInt = 3 ∨ x.toInt = 4 ∨ x.toInt = 5 ∨ x.toInt = 6 ∨ x.toInt = 7 ∨ x.toInt = 8 ∨ x.toInt = 9 ∨ x.toInt = 10 ∨ x.toInt = 11 ∨ x.toInt = 12 ∨ x.toInt = 13 ∨ x.toInt = 14 ∨ x.toInt = 15 ∨ x.toInt = 16 ∨ x.toInt = 17 ∨ x.toInt = 18 ∨ x.toInt = 19 ∨ x.toInt = 20 ∨ x.toInt = 21 ∨ x.toInt = 22 ∨ x.toInt = 23 := by omega
    rcases this with q | q | q | q | q | q | q | q | q | q | q | q | q | q | q | q | q | q | q | q | q | q | q | q
    · exact h0 (hx 0 (q.trans (by decide)))
    · exact h1 (hx 1 (q.trans (by decide)))
    · exact h2 (hx 2 (q.trans (by decide)))
    · exact h3 (hx 3 (q.trans (by decide)))
    · exact h4 (hx 4 (q.trans (by decide)))
    · exact h5 (hx 5 (q.trans (by decide)))
    · exact h6 (hx 6 (q.trans (by decide)))
    · exact h7 (hx 7 (q.trans (by decide)))
    · exact h8 (hx 8 (q.trans (by decide)))
    · exact h9 (hx 9 (q.trans (by decide)))
    · exact h10 (hx 10 (q.trans (by decide)))
    · exact h11 (hx 11 (q.trans (by decide)))
    · exact h12 (hx 12 (q.trans (by decide)))
    · exact h13 (hx 13 (q.trans (by decide)))
    · exact h14 (hx 14 (q.trans (by decide)))
    · exact h15 (hx 15 (q.trans (by decide)))
    · exact h16 (hx 16 (q.trans (by decide)))
    · exact h17 (hx 17 (q.trans (by decide)))
    · exact h18 (hx 18 (q.trans (by decide)))
    · exact h19 (hx 19 (q.trans (by decide)))
    · exact h20 (hx 20 (q.trans (by decide)))
    · exact h21 (hx 21 (q.trans (by decide)))
    · exact h22 (hx 22 (q.trans (by decide)))
    · exact h23 (hx 23 (q.trans (by decide)))
set_option maxRecDepth 100000 in
set_option maxHeartbeats 4000000 in
theorem law_case0 {K : Kx} {T : Tx} {b N : Nat} {xs : Nat → Int32} (h : OkL K T b N xs) (hN : N ≤ 100000) {k : Nat} (hk : 5 * k + 5 ≤ N) {Rl : St → St → Prop} (kk : ∀ ux um : St, Rl ux um → VL K T b 926 [some (.inr 0), some (.inr 1), some (.inr 2), some (.inl (nI (5 * k)))] [] ux um) {ux um : St} (hs : stp_0 Rl (xs (5 * k + 1)) (xs (5 * k + 2)) (xs (5 * k + 3)) (xs (5 * k + 4)) ux um) : VL K T b 144 [some (.inr 0), some (.inr 1), some (.inr 2), some (.inl (nI (5 * k)))] [] ux um := by
  obtain ⟨hi1, hv1⟩ := ix_law (xs := xs) hN hk 1 (by decide) 1 rfl
  obtain ⟨hi2, hv2⟩ := ix_law (xs := xs) hN hk 2 (by decide) 2 rfl
  obtain ⟨hi3, hv3⟩ := ix_law (xs := xs) hN hk 3 (by decide) 3 rfl
  obtain ⟨hi4, hv4⟩ := ix_law (xs := xs) hN hk 4 (by decide) 4 rfl
  obtain ⟨q1, q2, e1, e2, hR⟩ := hs
  refine l_aload_n (pc := 144) h dL_law_144 rfl ?_
  refine l_aload_n (pc := 145) h dL_law_145 rfl ?_
  refine l_iload_n (pc := 146) h dL_law_146 rfl ?_
  refine l_iconst (pc := 147) (v := 1) h dL_law_147 (by decide) ?_
  refine l_iadd (pc := 148) h dL_law_148 ?_
  refine l_sld (pc := 149) (v := xs (5 * k + 1)) h (hi1) (hv1) dL_law_149 ?_
  refine l_aload_n (pc := 150) h dL_law_150 rfl ?_
  refine l_iload_n (pc := 151) h dL_law_151 rfl ?_
  refine l_iconst (pc := 152) (v := 2) h dL_law_152 (by decide) ?_
  refine l_iadd (pc := 153) h dL_law_153 ?_
  refine l_sld (pc := 154) (v := xs (5 * k + 2)) h (hi2) (hv2) dL_law_154 ?_
  refine l_aload_n (pc := 155) h dL_law_155 rfl ?_
  refine l_iload_n (pc := 156) h dL_law_156 rfl ?_
  refine l_iconst (pc := 157) (v := 3) h dL_law_157 (by decide) ?_
  refine l_iadd (pc := 158) h dL_law_158 ?_
  refine l_sld (pc := 159) (v := xs (5 * k + 3)) h (hi3) (hv3) dL_law_159 ?_
  refine l_cX (pc := 160) (st := []) h [xs (5 * k + 1), xs (5 * k + 2), xs (5 * k + 3)] cv_X6_piece wm_L_13 (c_X6_piece e1) ⟨rfl, rfl, Nat.le_of_ble_eq_true rfl, Nat.le_of_ble_eq_true rfl⟩ hshX_0 rfl rfl (Nat.le_of_ble_eq_true rfl) dL_law_160 ?_
  refine l_pop (pc := 163) h dL_law_163 ?_
  refine l_aload_n (pc := 164) h dL_law_164 rfl ?_
  refine l_aload_n (pc := 165) h dL_law_165 rfl ?_
  refine l_iload_n (pc := 166) h dL_law_166 rfl ?_
  refine l_iconst (pc := 167) (v := 1) h dL_law_167 (by decide) ?_
  refine l_iadd (pc := 168) h dL_law_168 ?_
  refine l_sld (pc := 169) (v := xs (5 * k + 1)) h (hi1) (hv1) dL_law_169 ?_
  refine l_aload_n (pc := 170) h dL_law_170 rfl ?_
  refine l_iload_n (pc := 171) h dL_law_171 rfl ?_
  refine l_iconst (pc := 172) (v := 2) h dL_law_172 (by decide) ?_
  refine l_iadd (pc := 173) h dL_law_173 ?_
  refine l_sld (pc := 174) (v := xs (5 * k + 2)) h (hi2) (hv2) dL_law_174 ?_
  refine l_aload_n (pc := 175) h dL_law_175 rfl ?_
  refine l_iload_n (pc := 176) h dL_law_176 rfl ?_
  refine l_iconst (pc := 177) (v := 3) h dL_law_177 (by decide) ?_
  refine l_iadd (pc := 178) h dL_law_178 ?_
  refine l_sld (pc := 179) (v := xs (5 * k + 3)) h (hi3) (hv3) dL_law_179 ?_
  refine l_cM (pc := 180) (st := []) h [xs (5 * k + 1), xs (5 * k + 2), xs (5 * k + 3)] cv_X7_piece wm_L_17 (c_X7_piece e2) ⟨rfl, rfl, Nat.le_of_ble_eq_true rfl, Nat.le_of_ble_eq_true rfl⟩ hshM_0 rfl rfl (Nat.le_of_ble_eq_true rfl) dL_law_180 ?_
  refine l_pop (pc := 183) h dL_law_183 ?_
  refine l_goto (pc := 184) (tgt := 926) h dL_law_184 (by decide) ?_
  exact kk _ _ hR
set_option maxRecDepth 100000 in
set_option maxHeartbeats 4000000 in
theorem law_case1 {K : Kx} {T : Tx} {b N : Nat} {xs : Nat → Int32} (h : OkL K T b N xs) (hN : N ≤ 100000) {k : Nat} (hk : 5 * k + 5 ≤ N) {Rl : St → St → Prop} (kk : ∀ ux um : St, Rl ux um → VL K T b 926 [some (.inr 0), some (.inr 1), some (.inr 2), some (.inl (nI (5 * k)))] [] ux um) {ux um : St} (hs : stp_1 Rl (xs (5 * k + 1)) (xs (5 * k + 2)) (xs (5 * k + 3)) (xs (5 * k + 4)) ux um) : VL K T b 187 [some (.inr 0), some (.inr 1), some (.inr 2), some (.inl (nI (5 * k)))] [] ux um := by
  obtain ⟨hi1, hv1⟩ := ix_law (xs := xs) hN hk 1 (by decide) 1 rfl
  obtain ⟨hi2, hv2⟩ := ix_law (xs := xs) hN hk 2 (by decide) 2 rfl
  obtain ⟨hi3, hv3⟩ := ix_law (xs := xs) hN hk 3 (by decide) 3 rfl
  obtain ⟨hi4, hv4⟩ := ix_law (xs := xs) hN hk 4 (by decide) 4 rfl
  obtain ⟨q1, q2, e1, e2, hR⟩ := hs
  refine l_aload_n (pc := 187) h dL_law_187 rfl ?_
  refine l_aload_n (pc := 188) h dL_law_188 rfl ?_
  refine l_iload_n (pc := 189) h dL_law_189 rfl ?_
  refine l_iconst (pc := 190) (v := 1) h dL_law_190 (by decide) ?_
  refine l_iadd (pc := 191) h dL_law_191 ?_
  refine l_sld (pc := 192) (v := xs (5 * k + 1)) h (hi1) (hv1) dL_law_192 ?_
  refine l_aload_n (pc := 193) h dL_law_193 rfl ?_
  refine l_iload_n (pc := 194) h dL_law_194 rfl ?_
  refine l_iconst (pc := 195) (v := 2) h dL_law_195 (by decide) ?_
  refine l_iadd (pc := 196) h dL_law_196 ?_
  refine l_sld (pc := 197) (v := xs (5 * k + 2)) h (hi2) (hv2) dL_law_197 ?_
  refine l_cX (pc := 198) (st := []) h [xs (5 * k + 1), xs (5 * k + 2)] cv_X6_as wm_L_18 (c_X6_as e1) ⟨rfl, rfl, Nat.le_of_ble_eq_true rfl, Nat.le_of_ble_eq_true rfl⟩ hshX_0 rfl rfl (Nat.le_of_ble_eq_true rfl) dL_law_198 ?_
  refine l_pop (pc := 201) h dL_law_201 ?_
  refine l_aload_n (pc := 202) h dL_law_202 rfl ?_
  refine l_aload_n (pc := 203) h dL_law_203 rfl ?_
  refine l_iload_n (pc := 204) h dL_law_204 rfl ?_
  refine l_iconst (pc := 205) (v := 1) h dL_law_205 (by decide) ?_
  refine l_iadd (pc := 206) h dL_law_206 ?_
  refine l_sld (pc := 207) (v := xs (5 * k + 1)) h (hi1) (hv1) dL_law_207 ?_
  refine l_aload_n (pc := 208) h dL_law_208 rfl ?_
  refine l_iload_n (pc := 209) h dL_law_209 rfl ?_
  refine l_iconst (pc := 210) (v := 2) h dL_law_210 (by decide) ?_
  refine l_iadd (pc := 211) h dL_law_211 ?_
  refine l_sld (pc := 212) (v := xs (5 * k + 2)) h (hi2) (hv2) dL_law_212 ?_
  refine l_cM (pc := 213) (st := []) h [xs (5 * k + 1), xs (5 * k + 2)] cv_X7_as wm_L_22 (c_X7_as e2) ⟨rfl, rfl, Nat.le_of_ble_eq_true rfl, Nat.le_of_ble_eq_true rfl⟩ hshM_0 rfl rfl (Nat.le_of_ble_eq_true rfl) dL_law_213 ?_
  refine l_pop (pc := 216) h dL_law_216 ?_
  refine l_goto (pc := 217) (tgt := 926) h dL_law_217 (by decide) ?_
  exact kk _ _ hR
set_option maxRecDepth 100000 in
set_option maxHeartbeats 4000000 in
theorem law_case2 {K : Kx} {T : Tx} {b N : Nat} {xs : Nat → Int32} (h : OkL K T b N xs) (hN : N ≤ 100000) {k : Nat} (hk : 5 * k + 5 ≤ N) {Rl : St → St → Prop} (kk : ∀ ux um : St, Rl ux um → VL K T b 926 [some (.inr 0), some (.inr 1), some (.inr 2), some (.inl (nI (5 * k)))] [] ux um) {ux um : St} (hs : stp_2 Rl (xs (5 * k + 1)) (xs (5 * k + 2)) (xs (5 * k + 3)) (xs (5 * k + 4)) ux um) : VL K T b 220 [some (.inr 0), some (.inr 1), some (.inr 2), some (.inl (nI (5 * k)))] [] ux um := by
  obtain ⟨hi1, hv1⟩ := ix_law (xs := xs) hN hk 1 (by decide) 1 rfl
  obtain ⟨hi2, hv2⟩ := ix_law (xs := xs) hN hk 2 (by decide) 2 rfl
  obtain ⟨hi3, hv3⟩ := ix_law (xs := xs) hN hk 3 (by decide) 3 rfl
  obtain ⟨hi4, hv4⟩ := ix_law (xs := xs) hN hk 4 (by decide) 4 rfl
  obtain ⟨q1, q2, e1, e2, hR⟩ := hs
  refine l_aload_n (pc := 220) h dL_law_220 rfl ?_
  refine l_aload_n (pc := 221) h dL_law_221 rfl ?_
  refine l_iload_n (pc := 222) h dL_law_222 rfl ?_
  refine l_iconst (pc := 223) (v := 1) h dL_law_223 (by decide) ?_
  refine l_iadd (pc := 224) h dL_law_224 ?_
  refine l_sld (pc := 225) (v := xs (5 * k + 1)) h (hi1) (hv1) dL_law_225 ?_
  refine l_aload_n (pc := 226) h dL_law_226 rfl ?_
  refine l_iload_n (pc := 227) h dL_law_227 rfl ?_
  refine l_iconst (pc := 228) (v := 2) h dL_law_228 (by decide) ?_
  refine l_iadd (pc := 229) h dL_law_229 ?_
  refine l_sld (pc := 230) (v := xs (5 * k + 2)) h (hi2) (hv2) dL_law_230 ?_
  refine l_cX (pc := 231) (st := []) h [xs (5 * k + 1), xs (5 * k + 2)] cv_X6_about wm_L_23 (c_X6_about e1) ⟨rfl, rfl, Nat.le_of_ble_eq_true rfl, Nat.le_of_ble_eq_true rfl⟩ hshX_0 rfl rfl (Nat.le_of_ble_eq_true rfl) dL_law_231 ?_
  refine l_pop (pc := 234) h dL_law_234 ?_
  refine l_aload_n (pc := 235) h dL_law_235 rfl ?_
  refine l_aload_n (pc := 236) h dL_law_236 rfl ?_
  refine l_iload_n (pc := 237) h dL_law_237 rfl ?_
  refine l_iconst (pc := 238) (v := 1) h dL_law_238 (by decide) ?_
  refine l_iadd (pc := 239) h dL_law_239 ?_
  refine l_sld (pc := 240) (v := xs (5 * k + 1)) h (hi1) (hv1) dL_law_240 ?_
  refine l_aload_n (pc := 241) h dL_law_241 rfl ?_
  refine l_iload_n (pc := 242) h dL_law_242 rfl ?_
  refine l_iconst (pc := 243) (v := 2) h dL_law_243 (by decide) ?_
  refine l_iadd (pc := 244) h dL_law_244 ?_
  refine l_sld (pc := 245) (v := xs (5 * k + 2)) h (hi2) (hv2) dL_law_245 ?_
  refine l_cM (pc := 246) (st := []) h [xs (5 * k + 1), xs (5 * k + 2)] cv_X7_about wm_L_26 (c_X7_about e2) ⟨rfl, rfl, Nat.le_of_ble_eq_true rfl, Nat.le_of_ble_eq_true rfl⟩ hshM_0 rfl rfl (Nat.le_of_ble_eq_true rfl) dL_law_246 ?_
  refine l_pop (pc := 249) h dL_law_249 ?_
  refine l_goto (pc := 250) (tgt := 926) h dL_law_250 (by decide) ?_
  exact kk _ _ hR
set_option maxRecDepth 100000 in
set_option maxHeartbeats 4000000 in
theorem law_case3 {K : Kx} {T : Tx} {b N : Nat} {xs : Nat → Int32} (h : OkL K T b N xs) (hN : N ≤ 100000) {k : Nat} (hk : 5 * k + 5 ≤ N) {Rl : St → St → Prop} (kk : ∀ ux um : St, Rl ux um → VL K T b 926 [some (.inr 0), some (.inr 1), some (.inr 2), some (.inl (nI (5 * k)))] [] ux um) {ux um : St} (hs : stp_3 Rl (xs (5 * k + 1)) (xs (5 * k + 2)) (xs (5 * k + 3)) (xs (5 * k + 4)) ux um) : VL K T b 253 [some (.inr 0), some (.inr 1), some (.inr 2), some (.inl (nI (5 * k)))] [] ux um := by
  obtain ⟨hi1, hv1⟩ := ix_law (xs := xs) hN hk 1 (by decide) 1 rfl
  obtain ⟨hi2, hv2⟩ := ix_law (xs := xs) hN hk 2 (by decide) 2 rfl
  obtain ⟨hi3, hv3⟩ := ix_law (xs := xs) hN hk 3 (by decide) 3 rfl
  obtain ⟨hi4, hv4⟩ := ix_law (xs := xs) hN hk 4 (by decide) 4 rfl
  obtain ⟨q1, q2, e1, e2, hR⟩ := hs
  refine l_aload_n (pc := 253) h dL_law_253 rfl ?_
  refine l_aload_n (pc := 254) h dL_law_254 rfl ?_
  refine l_iload_n (pc := 255) h dL_law_255 rfl ?_
  refine l_iconst (pc := 256) (v := 1) h dL_law_256 (by decide) ?_
  refine l_iadd (pc := 257) h dL_law_257 ?_
  refine l_sld (pc := 258) (v := xs (5 * k + 1)) h (hi1) (hv1) dL_law_258 ?_
  refine l_aload_n (pc := 259) h dL_law_259 rfl ?_
  refine l_iload_n (pc := 260) h dL_law_260 rfl ?_
  refine l_iconst (pc := 261) (v := 2) h dL_law_261 (by decide) ?_
  refine l_iadd (pc := 262) h dL_law_262 ?_
  refine l_sld (pc := 263) (v := xs (5 * k + 2)) h (hi2) (hv2) dL_law_263 ?_
  refine l_cX (pc := 264) (st := []) h [xs (5 * k + 1), xs (5 * k + 2)] cv_X6_wear wm_L_27 (c_X6_wear e1) ⟨rfl, rfl, Nat.le_of_ble_eq_true rfl, Nat.le_of_ble_eq_true rfl⟩ hshX_0 rfl rfl (Nat.le_of_ble_eq_true rfl) dL_law_264 ?_
  refine l_pop (pc := 267) h dL_law_267 ?_
  refine l_aload_n (pc := 268) h dL_law_268 rfl ?_
  refine l_aload_n (pc := 269) h dL_law_269 rfl ?_
  refine l_iload_n (pc := 270) h dL_law_270 rfl ?_
  refine l_iconst (pc := 271) (v := 1) h dL_law_271 (by decide) ?_
  refine l_iadd (pc := 272) h dL_law_272 ?_
  refine l_sld (pc := 273) (v := xs (5 * k + 1)) h (hi1) (hv1) dL_law_273 ?_
  refine l_aload_n (pc := 274) h dL_law_274 rfl ?_
  refine l_iload_n (pc := 275) h dL_law_275 rfl ?_
  refine l_iconst (pc := 276) (v := 2) h dL_law_276 (by decide) ?_
  refine l_iadd (pc := 277) h dL_law_277 ?_
  refine l_sld (pc := 278) (v := xs (5 * k + 2)) h (hi2) (hv2) dL_law_278 ?_
  refine l_cM (pc := 279) (st := []) h [xs (5 * k + 1), xs (5 * k + 2)] cv_X7_wear wm_L_30 (c_X7_wear e2) ⟨rfl, rfl, Nat.le_of_ble_eq_true rfl, Nat.le_of_ble_eq_true rfl⟩ hshM_0 rfl rfl (Nat.le_of_ble_eq_true rfl) dL_law_279 ?_
  refine l_pop (pc := 282) h dL_law_282 ?_
  refine l_goto (pc := 283) (tgt := 926) h dL_law_283 (by decide) ?_
  exact kk _ _ hR
set_option maxRecDepth 100000 in
set_option maxHeartbeats 4000000 in
theorem law_case4 {K : Kx} {T : Tx} {b N : Nat} {xs : Nat → Int32} (h : OkL K T b N xs) (hN : N ≤ 100000) {k : Nat} (hk : 5 * k + 5 ≤ N) {Rl : St → St → Prop} (kk : ∀ ux um : St, Rl ux um → VL K T b 926 [some (.inr 0), some (.inr 1), some (.inr 2), some (.inl (nI (5 * k)))] [] ux um) {ux um : St} (hs : stp_4 Rl (xs (5 * k + 1)) (xs (5 * k + 2)) (xs (5 * k + 3)) (xs (5 * k + 4)) ux um) : VL K T b 286 [some (.inr 0), some (.inr 1), some (.inr 2), some (.inl (nI (5 * k)))] [] ux um := by
  obtain ⟨hi1, hv1⟩ := ix_law (xs := xs) hN hk 1 (by decide) 1 rfl
  obtain ⟨hi2, hv2⟩ := ix_law (xs := xs) hN hk 2 (by decide) 2 rfl
  obtain ⟨hi3, hv3⟩ := ix_law (xs := xs) hN hk 3 (by decide) 3 rfl
  obtain ⟨hi4, hv4⟩ := ix_law (xs := xs) hN hk 4 (by decide) 4 rfl
  obtain ⟨q1, q2, e1, e2, hR⟩ := hs
  refine l_aload_n (pc := 286) h dL_law_286 rfl ?_
  refine l_aload_n (pc := 287) h dL_law_287 rfl ?_
  refine l_iload_n (pc := 288) h dL_law_288 rfl ?_
  refine l_iconst (pc := 289) (v := 1) h dL_law_289 (by decide) ?_
  refine l_iadd (pc := 290) h dL_law_290 ?_
  refine l_sld (pc := 291) (v := xs (5 * k + 1)) h (hi1) (hv1) dL_law_291 ?_
  refine l_cX (pc := 292) (st := []) h [xs (5 * k + 1)] cv_X6_bare wm_L_31 (c_X6_bare e1) ⟨rfl, rfl, Nat.le_of_ble_eq_true rfl, Nat.le_of_ble_eq_true rfl⟩ hshX_0 rfl rfl (Nat.le_of_ble_eq_true rfl) dL_law_292 ?_
  refine l_pop (pc := 295) h dL_law_295 ?_
  refine l_aload_n (pc := 296) h dL_law_296 rfl ?_
  refine l_aload_n (pc := 297) h dL_law_297 rfl ?_
  refine l_iload_n (pc := 298) h dL_law_298 rfl ?_
  refine l_iconst (pc := 299) (v := 1) h dL_law_299 (by decide) ?_
  refine l_iadd (pc := 300) h dL_law_300 ?_
  refine l_sld (pc := 301) (v := xs (5 * k + 1)) h (hi1) (hv1) dL_law_301 ?_
  refine l_cM (pc := 302) (st := []) h [xs (5 * k + 1)] cv_X7_bare wm_L_35 (c_X7_bare e2) ⟨rfl, rfl, Nat.le_of_ble_eq_true rfl, Nat.le_of_ble_eq_true rfl⟩ hshM_0 rfl rfl (Nat.le_of_ble_eq_true rfl) dL_law_302 ?_
  refine l_pop (pc := 305) h dL_law_305 ?_
  refine l_goto (pc := 306) (tgt := 926) h dL_law_306 (by decide) ?_
  exact kk _ _ hR
set_option maxRecDepth 100000 in
set_option maxHeartbeats 4000000 in
theorem law_case5 {K : Kx} {T : Tx} {b N : Nat} {xs : Nat → Int32} (h : OkL K T b N xs) (hN : N ≤ 100000) {k : Nat} (hk : 5 * k + 5 ≤ N) {Rl : St → St → Prop} (kk : ∀ ux um : St, Rl ux um → VL K T b 926 [some (.inr 0), some (.inr 1), some (.inr 2), some (.inl (nI (5 * k)))] [] ux um) {ux um : St} (hs : stp_5 Rl (xs (5 * k + 1)) (xs (5 * k + 2)) (xs (5 * k + 3)) (xs (5 * k + 4)) ux um) : VL K T b 309 [some (.inr 0), some (.inr 1), some (.inr 2), some (.inl (nI (5 * k)))] [] ux um := by
  obtain ⟨hi1, hv1⟩ := ix_law (xs := xs) hN hk 1 (by decide) 1 rfl
  obtain ⟨hi2, hv2⟩ := ix_law (xs := xs) hN hk 2 (by decide) 2 rfl
  obtain ⟨hi3, hv3⟩ := ix_law (xs := xs) hN hk 3 (by decide) 3 rfl
  obtain ⟨hi4, hv4⟩ := ix_law (xs := xs) hN hk 4 (by decide) 4 rfl
  obtain ⟨q1, q2, e1, e2, hR⟩ := hs
  refine l_aload_n (pc := 309) h dL_law_309 rfl ?_
  refine l_aload_n (pc := 310) h dL_law_310 rfl ?_
  refine l_iload_n (pc := 311) h dL_law_311 rfl ?_
  refine l_iconst (pc := 312) (v := 1) h dL_law_312 (by decide) ?_
  refine l_iadd (pc := 313) h dL_law_313 ?_
  refine l_sld (pc := 314) (v := xs (5 * k + 1)) h (hi1) (hv1) dL_law_314 ?_
  refine l_aload_n (pc := 315) h dL_law_315 rfl ?_
  refine l_iload_n (pc := 316) h dL_law_316 rfl ?_
  refine l_iconst (pc := 317) (v := 2) h dL_law_317 (by decide) ?_
  refine l_iadd (pc := 318) h dL_law_318 ?_
  refine l_sld (pc := 319) (v := xs (5 * k + 2)) h (hi2) (hv2) dL_law_319 ?_
  refine l_cX (pc := 320) (st := []) h [xs (5 * k + 1), xs (5 * k + 2)] cv_X6_look wm_L_36 (c_X6_look e1) ⟨rfl, rfl, Nat.le_of_ble_eq_true rfl, Nat.le_of_ble_eq_true rfl⟩ hshX_0 rfl rfl (Nat.le_of_ble_eq_true rfl) dL_law_320 ?_
  refine l_pop (pc := 323) h dL_law_323 ?_
  refine l_aload_n (pc := 324) h dL_law_324 rfl ?_
  refine l_aload_n (pc := 325) h dL_law_325 rfl ?_
  refine l_iload_n (pc := 326) h dL_law_326 rfl ?_
  refine l_iconst (pc := 327) (v := 1) h dL_law_327 (by decide) ?_
  refine l_iadd (pc := 328) h dL_law_328 ?_
  refine l_sld (pc := 329) (v := xs (5 * k + 1)) h (hi1) (hv1) dL_law_329 ?_
  refine l_aload_n (pc := 330) h dL_law_330 rfl ?_
  refine l_iload_n (pc := 331) h dL_law_331 rfl ?_
  refine l_iconst (pc := 332) (v := 2) h dL_law_332 (by decide) ?_
  refine l_iadd (pc := 333) h dL_law_333 ?_
  refine l_sld (pc := 334) (v := xs (5 * k + 2)) h (hi2) (hv2) dL_law_334 ?_
  refine l_cM (pc := 335) (st := []) h [xs (5 * k + 1), xs (5 * k + 2)] cv_X7_look wm_L_39 (c_X7_look e2) ⟨rfl, rfl, Nat.le_of_ble_eq_true rfl, Nat.le_of_ble_eq_true rfl⟩ hshM_0 rfl rfl (Nat.le_of_ble_eq_true rfl) dL_law_335 ?_
  refine l_pop (pc := 338) h dL_law_338 ?_
  refine l_goto (pc := 339) (tgt := 926) h dL_law_339 (by decide) ?_
  exact kk _ _ hR
set_option maxRecDepth 100000 in
set_option maxHeartbeats 4000000 in
theorem law_case6 {K : Kx} {T : Tx} {b N : Nat} {xs : Nat → Int32} (h : OkL K T b N xs) (hN : N ≤ 100000) {k : Nat} (hk : 5 * k + 5 ≤ N) {Rl : St → St → Prop} (kk : ∀ ux um : St, Rl ux um → VL K T b 926 [some (.inr 0), some (.inr 1), some (.inr 2), some (.inl (nI (5 * k)))] [] ux um) {ux um : St} (hs : stp_6 Rl (xs (5 * k + 1)) (xs (5 * k + 2)) (xs (5 * k + 3)) (xs (5 * k + 4)) ux um) : VL K T b 342 [some (.inr 0), some (.inr 1), some (.inr 2), some (.inl (nI (5 * k)))] [] ux um := by
  obtain ⟨hi1, hv1⟩ := ix_law (xs := xs) hN hk 1 (by decide) 1 rfl
  obtain ⟨hi2, hv2⟩ := ix_law (xs := xs) hN hk 2 (by decide) 2 rfl
  obtain ⟨hi3, hv3⟩ := ix_law (xs := xs) hN hk 3 (by decide) 3 rfl
  obtain ⟨hi4, hv4⟩ := ix_law (xs := xs) hN hk 4 (by decide) 4 rfl
  obtain ⟨q1, q2, e1, e2, hR⟩ := hs
  refine l_aload_n (pc := 342) h dL_law_342 rfl ?_
  refine l_aload_n (pc := 343) h dL_law_343 rfl ?_
  refine l_iload_n (pc := 344) h dL_law_344 rfl ?_
  refine l_iconst (pc := 345) (v := 1) h dL_law_345 (by decide) ?_
  refine l_iadd (pc := 346) h dL_law_346 ?_
  refine l_sld (pc := 347) (v := xs (5 * k + 1)) h (hi1) (hv1) dL_law_347 ?_
  refine l_cX (pc := 348) (st := []) h [xs (5 * k + 1)] cv_X6_limit wm_L_40 (c_X6_limit e1) ⟨rfl, rfl, Nat.le_of_ble_eq_true rfl, Nat.le_of_ble_eq_true rfl⟩ hshX_0 rfl rfl (Nat.le_of_ble_eq_true rfl) dL_law_348 ?_
  refine l_pop (pc := 351) h dL_law_351 ?_
  refine l_aload_n (pc := 352) h dL_law_352 rfl ?_
  refine l_aload_n (pc := 353) h dL_law_353 rfl ?_
  refine l_iload_n (pc := 354) h dL_law_354 rfl ?_
  refine l_iconst (pc := 355) (v := 1) h dL_law_355 (by decide) ?_
  refine l_iadd (pc := 356) h dL_law_356 ?_
  refine l_sld (pc := 357) (v := xs (5 * k + 1)) h (hi1) (hv1) dL_law_357 ?_
  refine l_cM (pc := 358) (st := []) h [xs (5 * k + 1)] cv_X7_limit wm_L_43 (c_X7_limit e2) ⟨rfl, rfl, Nat.le_of_ble_eq_true rfl, Nat.le_of_ble_eq_true rfl⟩ hshM_0 rfl rfl (Nat.le_of_ble_eq_true rfl) dL_law_358 ?_
  refine l_pop (pc := 361) h dL_law_361 ?_
  refine l_goto (pc := 362) (tgt := 926) h dL_law_362 (by decide) ?_
  exact kk _ _ hR
set_option maxRecDepth 100000 in
set_option maxHeartbeats 4000000 in
theorem law_case7 {K : Kx} {T : Tx} {b N : Nat} {xs : Nat → Int32} (h : OkL K T b N xs) (hN : N ≤ 100000) {k : Nat} (hk : 5 * k + 5 ≤ N) {Rl : St → St → Prop} (kk : ∀ ux um : St, Rl ux um → VL K T b 926 [some (.inr 0), some (.inr 1), some (.inr 2), some (.inl (nI (5 * k)))] [] ux um) {ux um : St} (hs : stp_7 Rl (xs (5 * k + 1)) (xs (5 * k + 2)) (xs (5 * k + 3)) (xs (5 * k + 4)) ux um) : VL K T b 365 [some (.inr 0), some (.inr 1), some (.inr 2), some (.inl (nI (5 * k)))] [] ux um := by
  obtain ⟨hi1, hv1⟩ := ix_law (xs := xs) hN hk 1 (by decide) 1 rfl
  obtain ⟨hi2, hv2⟩ := ix_law (xs := xs) hN hk 2 (by decide) 2 rfl
  obtain ⟨hi3, hv3⟩ := ix_law (xs := xs) hN hk 3 (by decide) 3 rfl
  obtain ⟨hi4, hv4⟩ := ix_law (xs := xs) hN hk 4 (by decide) 4 rfl
  obtain ⟨q1, q2, e1, e2, hR⟩ := hs
  refine l_aload_n (pc := 365) h dL_law_365 rfl ?_
  refine l_aload_n (pc := 366) h dL_law_366 rfl ?_
  refine l_iload_n (pc := 367) h dL_law_367 rfl ?_
  refine l_iconst (pc := 368) (v := 1) h dL_law_368 (by decide) ?_
  refine l_iadd (pc := 369) h dL_law_369 ?_
  refine l_sld (pc := 370) (v := xs (5 * k + 1)) h (hi1) (hv1) dL_law_370 ?_
  refine l_aload_n (pc := 371) h dL_law_371 rfl ?_
  refine l_iload_n (pc := 372) h dL_law_372 rfl ?_
  refine l_iconst (pc := 373) (v := 2) h dL_law_373 (by decide) ?_
  refine l_iadd (pc := 374) h dL_law_374 ?_
  refine l_sld (pc := 375) (v := xs (5 * k + 2)) h (hi2) (hv2) dL_law_375 ?_
  refine l_aload_n (pc := 376) h dL_law_376 rfl ?_
  refine l_iload_n (pc := 377) h dL_law_377 rfl ?_
  refine l_iconst (pc := 378) (v := 3) h dL_law_378 (by decide) ?_
  refine l_iadd (pc := 379) h dL_law_379 ?_
  refine l_sld (pc := 380) (v := xs (5 * k + 3)) h (hi3) (hv3) dL_law_380 ?_
  refine l_cX (pc := 381) (st := []) h [xs (5 * k + 1), xs (5 * k + 2), xs (5 * k + 3)] cv_X6_allowed wm_L_44 (c_X6_allowed e1) ⟨rfl, rfl, Nat.le_of_ble_eq_true rfl, Nat.le_of_ble_eq_true rfl⟩ hshX_0 rfl rfl (Nat.le_of_ble_eq_true rfl) dL_law_381 ?_
  refine l_pop (pc := 384) h dL_law_384 ?_
  refine l_aload_n (pc := 385) h dL_law_385 rfl ?_
  refine l_aload_n (pc := 386) h dL_law_386 rfl ?_
  refine l_iload_n (pc := 387) h dL_law_387 rfl ?_
  refine l_iconst (pc := 388) (v := 1) h dL_law_388 (by decide) ?_
  refine l_iadd (pc := 389) h dL_law_389 ?_
  refine l_sld (pc := 390) (v := xs (5 * k + 1)) h (hi1) (hv1) dL_law_390 ?_
  refine l_aload_n (pc := 391) h dL_law_391 rfl ?_
  refine l_iload_n (pc := 392) h dL_law_392 rfl ?_
  refine l_iconst (pc := 393) (v := 2) h dL_law_393 (by decide) ?_
  refine l_iadd (pc := 394) h dL_law_394 ?_
  refine l_sld (pc := 395) (v := xs (5 * k + 2)) h (hi2) (hv2) dL_law_395 ?_
  refine l_aload_n (pc := 396) h dL_law_396 rfl ?_
  refine l_iload_n (pc := 397) h dL_law_397 rfl ?_
  refine l_iconst (pc := 398) (v := 3) h dL_law_398 (by decide) ?_
  refine l_iadd (pc := 399) h dL_law_399 ?_
  refine l_sld (pc := 400) (v := xs (5 * k + 3)) h (hi3) (hv3) dL_law_400 ?_
  refine l_cM (pc := 401) (st := []) h [xs (5 * k + 1), xs (5 * k + 2), xs (5 * k + 3)] cv_X7_allowed wm_L_47 (c_X7_allowed e2) ⟨rfl, rfl, Nat.le_of_ble_eq_true rfl, Nat.le_of_ble_eq_true rfl⟩ hshM_0 rfl rfl (Nat.le_of_ble_eq_true rfl) dL_law_401 ?_
  refine l_pop (pc := 404) h dL_law_404 ?_
  refine l_goto (pc := 405) (tgt := 926) h dL_law_405 (by decide) ?_
  exact kk _ _ hR
set_option maxRecDepth 100000 in
set_option maxHeartbeats 4000000 in
theorem law_case8 {K : Kx} {T : Tx} {b N : Nat} {xs : Nat → Int32} (h : OkL K T b N xs) (hN : N ≤ 100000) {k : Nat} (hk : 5 * k + 5 ≤ N) {Rl : St → St → Prop} (kk : ∀ ux um : St, Rl ux um → VL K T b 926 [some (.inr 0), some (.inr 1), some (.inr 2), some (.inl (nI (5 * k)))] [] ux um) {ux um : St} (hs : stp_8 Rl (xs (5 * k + 1)) (xs (5 * k + 2)) (xs (5 * k + 3)) (xs (5 * k + 4)) ux um) : VL K T b 408 [some (.inr 0), some (.inr 1), some (.inr 2), some (.inl (nI (5 * k)))] [] ux um := by
  obtain ⟨hi1, hv1⟩ := ix_law (xs := xs) hN hk 1 (by decide) 1 rfl
  obtain ⟨hi2, hv2⟩ := ix_law (xs := xs) hN hk 2 (by decide) 2 rfl
  obtain ⟨hi3, hv3⟩ := ix_law (xs := xs) hN hk 3 (by decide) 3 rfl
  obtain ⟨hi4, hv4⟩ := ix_law (xs := xs) hN hk 4 (by decide) 4 rfl
  obtain ⟨q1, q2, e1, e2, hR⟩ := hs
  refine l_aload_n (pc := 408) h dL_law_408 rfl ?_
  refine l_aload_n (pc := 409) h dL_law_409 rfl ?_
  refine l_iload_n (pc := 410) h dL_law_410 rfl ?_
  refine l_iconst (pc := 411) (v := 1) h dL_law_411 (by decide) ?_
  refine l_iadd (pc := 412) h dL_law_412 ?_
  refine l_sld (pc := 413) (v := xs (5 * k + 1)) h (hi1) (hv1) dL_law_413 ?_
  refine l_aload_n (pc := 414) h dL_law_414 rfl ?_
  refine l_iload_n (pc := 415) h dL_law_415 rfl ?_
  refine l_iconst (pc := 416) (v := 2) h dL_law_416 (by decide) ?_
  refine l_iadd (pc := 417) h dL_law_417 ?_
  refine l_sld (pc := 418) (v := xs (5 * k + 2)) h (hi2) (hv2) dL_law_418 ?_
  refine l_aload_n (pc := 419) h dL_law_419 rfl ?_
  refine l_iload_n (pc := 420) h dL_law_420 rfl ?_
  refine l_iconst (pc := 421) (v := 3) h dL_law_421 (by decide) ?_
  refine l_iadd (pc := 422) h dL_law_422 ?_
  refine l_sld (pc := 423) (v := xs (5 * k + 3)) h (hi3) (hv3) dL_law_423 ?_
  refine l_aload_n (pc := 424) h dL_law_424 rfl ?_
  refine l_iload_n (pc := 425) h dL_law_425 rfl ?_
  refine l_iconst (pc := 426) (v := 4) h dL_law_426 (by decide) ?_
  refine l_iadd (pc := 427) h dL_law_427 ?_
  refine l_sld (pc := 428) (v := xs (5 * k + 4)) h (hi4) (hv4) dL_law_428 ?_
  refine l_cX (pc := 429) (st := []) h [xs (5 * k + 1), xs (5 * k + 2), xs (5 * k + 3), xs (5 * k + 4)] cv_X6_told wm_L_48 (c_X6_told e1) ⟨rfl, rfl, Nat.le_of_ble_eq_true rfl, Nat.le_of_ble_eq_true rfl⟩ hshX_0 rfl rfl (Nat.le_of_ble_eq_true rfl) dL_law_429 ?_
  refine l_pop (pc := 432) h dL_law_432 ?_
  refine l_aload_n (pc := 433) h dL_law_433 rfl ?_
  refine l_aload_n (pc := 434) h dL_law_434 rfl ?_
  refine l_iload_n (pc := 435) h dL_law_435 rfl ?_
  refine l_iconst (pc := 436) (v := 1) h dL_law_436 (by decide) ?_
  refine l_iadd (pc := 437) h dL_law_437 ?_
  refine l_sld (pc := 438) (v := xs (5 * k + 1)) h (hi1) (hv1) dL_law_438 ?_
  refine l_aload_n (pc := 439) h dL_law_439 rfl ?_
  refine l_iload_n (pc := 440) h dL_law_440 rfl ?_
  refine l_iconst (pc := 441) (v := 2) h dL_law_441 (by decide) ?_
  refine l_iadd (pc := 442) h dL_law_442 ?_
  refine l_sld (pc := 443) (v := xs (5 * k + 2)) h (hi2) (hv2) dL_law_443 ?_
  refine l_aload_n (pc := 444) h dL_law_444 rfl ?_
  refine l_iload_n (pc := 445) h dL_law_445 rfl ?_
  refine l_iconst (pc := 446) (v := 3) h dL_law_446 (by decide) ?_
  refine l_iadd (pc := 447) h dL_law_447 ?_
  refine l_sld (pc := 448) (v := xs (5 * k + 3)) h (hi3) (hv3) dL_law_448 ?_
  refine l_aload_n (pc := 449) h dL_law_449 rfl ?_
  refine l_iload_n (pc := 450) h dL_law_450 rfl ?_
  refine l_iconst (pc := 451) (v := 4) h dL_law_451 (by decide) ?_
  refine l_iadd (pc := 452) h dL_law_452 ?_
  refine l_sld (pc := 453) (v := xs (5 * k + 4)) h (hi4) (hv4) dL_law_453 ?_
  refine l_cM (pc := 454) (st := []) h [xs (5 * k + 1), xs (5 * k + 2), xs (5 * k + 3), xs (5 * k + 4)] cv_X7_told wm_L_52 (c_X7_told e2) ⟨rfl, rfl, Nat.le_of_ble_eq_true rfl, Nat.le_of_ble_eq_true rfl⟩ hshM_0 rfl rfl (Nat.le_of_ble_eq_true rfl) dL_law_454 ?_
  refine l_pop (pc := 457) h dL_law_457 ?_
  refine l_goto (pc := 458) (tgt := 926) h dL_law_458 (by decide) ?_
  exact kk _ _ hR
set_option maxRecDepth 100000 in
set_option maxHeartbeats 4000000 in
theorem law_case9 {K : Kx} {T : Tx} {b N : Nat} {xs : Nat → Int32} (h : OkL K T b N xs) (hN : N ≤ 100000) {k : Nat} (hk : 5 * k + 5 ≤ N) {Rl : St → St → Prop} (kk : ∀ ux um : St, Rl ux um → VL K T b 926 [some (.inr 0), some (.inr 1), some (.inr 2), some (.inl (nI (5 * k)))] [] ux um) {ux um : St} (hs : stp_9 Rl (xs (5 * k + 1)) (xs (5 * k + 2)) (xs (5 * k + 3)) (xs (5 * k + 4)) ux um) : VL K T b 461 [some (.inr 0), some (.inr 1), some (.inr 2), some (.inl (nI (5 * k)))] [] ux um := by
  obtain ⟨hi1, hv1⟩ := ix_law (xs := xs) hN hk 1 (by decide) 1 rfl
  obtain ⟨hi2, hv2⟩ := ix_law (xs := xs) hN hk 2 (by decide) 2 rfl
  obtain ⟨hi3, hv3⟩ := ix_law (xs := xs) hN hk 3 (by decide) 3 rfl
  obtain ⟨hi4, hv4⟩ := ix_law (xs := xs) hN hk 4 (by decide) 4 rfl
  obtain ⟨q1, q2, e1, e2, hR⟩ := hs
  refine l_aload_n (pc := 461) h dL_law_461 rfl ?_
  refine l_aload_n (pc := 462) h dL_law_462 rfl ?_
  refine l_iload_n (pc := 463) h dL_law_463 rfl ?_
  refine l_iconst (pc := 464) (v := 1) h dL_law_464 (by decide) ?_
  refine l_iadd (pc := 465) h dL_law_465 ?_
  refine l_sld (pc := 466) (v := xs (5 * k + 1)) h (hi1) (hv1) dL_law_466 ?_
  refine l_aload_n (pc := 467) h dL_law_467 rfl ?_
  refine l_iload_n (pc := 468) h dL_law_468 rfl ?_
  refine l_iconst (pc := 469) (v := 2) h dL_law_469 (by decide) ?_
  refine l_iadd (pc := 470) h dL_law_470 ?_
  refine l_sld (pc := 471) (v := xs (5 * k + 2)) h (hi2) (hv2) dL_law_471 ?_
  refine l_aload_n (pc := 472) h dL_law_472 rfl ?_
  refine l_iload_n (pc := 473) h dL_law_473 rfl ?_
  refine l_iconst (pc := 474) (v := 3) h dL_law_474 (by decide) ?_
  refine l_iadd (pc := 475) h dL_law_475 ?_
  refine l_sld (pc := 476) (v := xs (5 * k + 3)) h (hi3) (hv3) dL_law_476 ?_
  refine l_aload_n (pc := 477) h dL_law_477 rfl ?_
  refine l_iload_n (pc := 478) h dL_law_478 rfl ?_
  refine l_iconst (pc := 479) (v := 4) h dL_law_479 (by decide) ?_
  refine l_iadd (pc := 480) h dL_law_480 ?_
  refine l_sld (pc := 481) (v := xs (5 * k + 4)) h (hi4) (hv4) dL_law_481 ?_
  refine l_cX (pc := 482) (st := []) h [xs (5 * k + 1), xs (5 * k + 2), xs (5 * k + 3), xs (5 * k + 4)] cv_X6_seconds wm_L_53 (c_X6_seconds e1) ⟨rfl, rfl, Nat.le_of_ble_eq_true rfl, Nat.le_of_ble_eq_true rfl⟩ hshX_0 rfl rfl (Nat.le_of_ble_eq_true rfl) dL_law_482 ?_
  refine l_pop (pc := 485) h dL_law_485 ?_
  refine l_aload_n (pc := 486) h dL_law_486 rfl ?_
  refine l_aload_n (pc := 487) h dL_law_487 rfl ?_
  refine l_iload_n (pc := 488) h dL_law_488 rfl ?_
  refine l_iconst (pc := 489) (v := 1) h dL_law_489 (by decide) ?_
  refine l_iadd (pc := 490) h dL_law_490 ?_
  refine l_sld (pc := 491) (v := xs (5 * k + 1)) h (hi1) (hv1) dL_law_491 ?_
  refine l_aload_n (pc := 492) h dL_law_492 rfl ?_
  refine l_iload_n (pc := 493) h dL_law_493 rfl ?_
  refine l_iconst (pc := 494) (v := 2) h dL_law_494 (by decide) ?_
  refine l_iadd (pc := 495) h dL_law_495 ?_
  refine l_sld (pc := 496) (v := xs (5 * k + 2)) h (hi2) (hv2) dL_law_496 ?_
  refine l_aload_n (pc := 497) h dL_law_497 rfl ?_
  refine l_iload_n (pc := 498) h dL_law_498 rfl ?_
  refine l_iconst (pc := 499) (v := 3) h dL_law_499 (by decide) ?_
  refine l_iadd (pc := 500) h dL_law_500 ?_
  refine l_sld (pc := 501) (v := xs (5 * k + 3)) h (hi3) (hv3) dL_law_501 ?_
  refine l_aload_n (pc := 502) h dL_law_502 rfl ?_
  refine l_iload_n (pc := 503) h dL_law_503 rfl ?_
  refine l_iconst (pc := 504) (v := 4) h dL_law_504 (by decide) ?_
  refine l_iadd (pc := 505) h dL_law_505 ?_
  refine l_sld (pc := 506) (v := xs (5 * k + 4)) h (hi4) (hv4) dL_law_506 ?_
  refine l_cM (pc := 507) (st := []) h [xs (5 * k + 1), xs (5 * k + 2), xs (5 * k + 3), xs (5 * k + 4)] cv_X7_seconds wm_L_56 (c_X7_seconds e2) ⟨rfl, rfl, Nat.le_of_ble_eq_true rfl, Nat.le_of_ble_eq_true rfl⟩ hshM_0 rfl rfl (Nat.le_of_ble_eq_true rfl) dL_law_507 ?_
  refine l_pop (pc := 510) h dL_law_510 ?_
  refine l_goto (pc := 511) (tgt := 926) h dL_law_511 (by decide) ?_
  exact kk _ _ hR
set_option maxRecDepth 100000 in
set_option maxHeartbeats 4000000 in
theorem law_case10 {K : Kx} {T : Tx} {b N : Nat} {xs : Nat → Int32} (h : OkL K T b N xs) (hN : N ≤ 100000) {k : Nat} (hk : 5 * k + 5 ≤ N) {Rl : St → St → Prop} (kk : ∀ ux um : St, Rl ux um → VL K T b 926 [some (.inr 0), some (.inr 1), some (.inr 2), some (.inl (nI (5 * k)))] [] ux um) {ux um : St} (hs : stp_10 Rl (xs (5 * k + 1)) (xs (5 * k + 2)) (xs (5 * k + 3)) (xs (5 * k + 4)) ux um) : VL K T b 514 [some (.inr 0), some (.inr 1), some (.inr 2), some (.inl (nI (5 * k)))] [] ux um := by
  obtain ⟨hi1, hv1⟩ := ix_law (xs := xs) hN hk 1 (by decide) 1 rfl
  obtain ⟨hi2, hv2⟩ := ix_law (xs := xs) hN hk 2 (by decide) 2 rfl
  obtain ⟨hi3, hv3⟩ := ix_law (xs := xs) hN hk 3 (by decide) 3 rfl
  obtain ⟨hi4, hv4⟩ := ix_law (xs := xs) hN hk 4 (by decide) 4 rfl
  obtain ⟨q1, q2, e1, e2, hR⟩ := hs
  refine l_aload_n (pc := 514) h dL_law_514 rfl ?_
  refine l_aload_n (pc := 515) h dL_law_515 rfl ?_
  refine l_iload_n (pc := 516) h dL_law_516 rfl ?_
  refine l_iconst (pc := 517) (v := 1) h dL_law_517 (by decide) ?_
  refine l_iadd (pc := 518) h dL_law_518 ?_
  refine l_sld (pc := 519) (v := xs (5 * k + 1)) h (hi1) (hv1) dL_law_519 ?_
  refine l_aload_n (pc := 520) h dL_law_520 rfl ?_
  refine l_iload_n (pc := 521) h dL_law_521 rfl ?_
  refine l_iconst (pc := 522) (v := 2) h dL_law_522 (by decide) ?_
  refine l_iadd (pc := 523) h dL_law_523 ?_
  refine l_sld (pc := 524) (v := xs (5 * k + 2)) h (hi2) (hv2) dL_law_524 ?_
  refine l_aload_n (pc := 525) h dL_law_525 rfl ?_
  refine l_iload_n (pc := 526) h dL_law_526 rfl ?_
  refine l_iconst (pc := 527) (v := 3) h dL_law_527 (by decide) ?_
  refine l_iadd (pc := 528) h dL_law_528 ?_
  refine l_sld (pc := 529) (v := xs (5 * k + 3)) h (hi3) (hv3) dL_law_529 ?_
  refine l_aload_n (pc := 530) h dL_law_530 rfl ?_
  refine l_iload_n (pc := 531) h dL_law_531 rfl ?_
  refine l_iconst (pc := 532) (v := 4) h dL_law_532 (by decide) ?_
  refine l_iadd (pc := 533) h dL_law_533 ?_
  refine l_sld (pc := 534) (v := xs (5 * k + 4)) h (hi4) (hv4) dL_law_534 ?_
  refine l_cX (pc := 535) (st := []) h [xs (5 * k + 1), xs (5 * k + 2), xs (5 * k + 3), xs (5 * k + 4)] cv_X6_best wm_L_57 (c_X6_best e1) ⟨rfl, rfl, Nat.le_of_ble_eq_true rfl, Nat.le_of_ble_eq_true rfl⟩ hshX_0 rfl rfl (Nat.le_of_ble_eq_true rfl) dL_law_535 ?_
  refine l_pop (pc := 538) h dL_law_538 ?_
  refine l_aload_n (pc := 539) h dL_law_539 rfl ?_
  refine l_aload_n (pc := 540) h dL_law_540 rfl ?_
  refine l_iload_n (pc := 541) h dL_law_541 rfl ?_
  refine l_iconst (pc := 542) (v := 1) h dL_law_542 (by decide) ?_
  refine l_iadd (pc := 543) h dL_law_543 ?_
  refine l_sld (pc := 544) (v := xs (5 * k + 1)) h (hi1) (hv1) dL_law_544 ?_
  refine l_aload_n (pc := 545) h dL_law_545 rfl ?_
  refine l_iload_n (pc := 546) h dL_law_546 rfl ?_
  refine l_iconst (pc := 547) (v := 2) h dL_law_547 (by decide) ?_
  refine l_iadd (pc := 548) h dL_law_548 ?_
  refine l_sld (pc := 549) (v := xs (5 * k + 2)) h (hi2) (hv2) dL_law_549 ?_
  refine l_aload_n (pc := 550) h dL_law_550 rfl ?_
  refine l_iload_n (pc := 551) h dL_law_551 rfl ?_
  refine l_iconst (pc := 552) (v := 3) h dL_law_552 (by decide) ?_
  refine l_iadd (pc := 553) h dL_law_553 ?_
  refine l_sld (pc := 554) (v := xs (5 * k + 3)) h (hi3) (hv3) dL_law_554 ?_
  refine l_aload_n (pc := 555) h dL_law_555 rfl ?_
  refine l_iload_n (pc := 556) h dL_law_556 rfl ?_
  refine l_iconst (pc := 557) (v := 4) h dL_law_557 (by decide) ?_
  refine l_iadd (pc := 558) h dL_law_558 ?_
  refine l_sld (pc := 559) (v := xs (5 * k + 4)) h (hi4) (hv4) dL_law_559 ?_
  refine l_cM (pc := 560) (st := []) h [xs (5 * k + 1), xs (5 * k + 2), xs (5 * k + 3), xs (5 * k + 4)] cv_X7_best wm_L_60 (c_X7_best e2) ⟨rfl, rfl, Nat.le_of_ble_eq_true rfl, Nat.le_of_ble_eq_true rfl⟩ hshM_0 rfl rfl (Nat.le_of_ble_eq_true rfl) dL_law_560 ?_
  refine l_pop (pc := 563) h dL_law_563 ?_
  refine l_goto (pc := 564) (tgt := 926) h dL_law_564 (by decide) ?_
  exact kk _ _ hR
set_option maxRecDepth 100000 in
set_option maxHeartbeats 4000000 in
theorem law_case11 {K : Kx} {T : Tx} {b N : Nat} {xs : Nat → Int32} (h : OkL K T b N xs) (hN : N ≤ 100000) {k : Nat} (hk : 5 * k + 5 ≤ N) {Rl : St → St → Prop} (kk : ∀ ux um : St, Rl ux um → VL K T b 926 [some (.inr 0), some (.inr 1), some (.inr 2), some (.inl (nI (5 * k)))] [] ux um) {ux um : St} (hs : stp_11 Rl (xs (5 * k + 1)) (xs (5 * k + 2)) (xs (5 * k + 3)) (xs (5 * k + 4)) ux um) : VL K T b 567 [some (.inr 0), some (.inr 1), some (.inr 2), some (.inl (nI (5 * k)))] [] ux um := by
  obtain ⟨hi1, hv1⟩ := ix_law (xs := xs) hN hk 1 (by decide) 1 rfl
  obtain ⟨hi2, hv2⟩ := ix_law (xs := xs) hN hk 2 (by decide) 2 rfl
  obtain ⟨hi3, hv3⟩ := ix_law (xs := xs) hN hk 3 (by decide) 3 rfl
  obtain ⟨hi4, hv4⟩ := ix_law (xs := xs) hN hk 4 (by decide) 4 rfl
  obtain ⟨q1, q2, e1, e2, hR⟩ := hs
  refine l_aload_n (pc := 567) h dL_law_567 rfl ?_
  refine l_aload_n (pc := 568) h dL_law_568 rfl ?_
  refine l_iload_n (pc := 569) h dL_law_569 rfl ?_
  refine l_iconst (pc := 570) (v := 1) h dL_law_570 (by decide) ?_
  refine l_iadd (pc := 571) h dL_law_571 ?_
  refine l_sld (pc := 572) (v := xs (5 * k + 1)) h (hi1) (hv1) dL_law_572 ?_
  refine l_aload_n (pc := 573) h dL_law_573 rfl ?_
  refine l_iload_n (pc := 574) h dL_law_574 rfl ?_
  refine l_iconst (pc := 575) (v := 2) h dL_law_575 (by decide) ?_
  refine l_iadd (pc := 576) h dL_law_576 ?_
  refine l_sld (pc := 577) (v := xs (5 * k + 2)) h (hi2) (hv2) dL_law_577 ?_
  refine l_aload_n (pc := 578) h dL_law_578 rfl ?_
  refine l_iload_n (pc := 579) h dL_law_579 rfl ?_
  refine l_iconst (pc := 580) (v := 3) h dL_law_580 (by decide) ?_
  refine l_iadd (pc := 581) h dL_law_581 ?_
  refine l_sld (pc := 582) (v := xs (5 * k + 3)) h (hi3) (hv3) dL_law_582 ?_
  refine l_aload_n (pc := 583) h dL_law_583 rfl ?_
  refine l_iload_n (pc := 584) h dL_law_584 rfl ?_
  refine l_iconst (pc := 585) (v := 4) h dL_law_585 (by decide) ?_
  refine l_iadd (pc := 586) h dL_law_586 ?_
  refine l_sld (pc := 587) (v := xs (5 * k + 4)) h (hi4) (hv4) dL_law_587 ?_
  refine l_cX (pc := 588) (st := []) h [xs (5 * k + 1), xs (5 * k + 2), xs (5 * k + 3), xs (5 * k + 4)] cv_X6_shift wm_L_61 (c_X6_shift e1) ⟨rfl, rfl, Nat.le_of_ble_eq_true rfl, Nat.le_of_ble_eq_true rfl⟩ hshX_0 rfl rfl (Nat.le_of_ble_eq_true rfl) dL_law_588 ?_
  refine l_pop (pc := 591) h dL_law_591 ?_
  refine l_aload_n (pc := 592) h dL_law_592 rfl ?_
  refine l_aload_n (pc := 593) h dL_law_593 rfl ?_
  refine l_iload_n (pc := 594) h dL_law_594 rfl ?_
  refine l_iconst (pc := 595) (v := 1) h dL_law_595 (by decide) ?_
  refine l_iadd (pc := 596) h dL_law_596 ?_
  refine l_sld (pc := 597) (v := xs (5 * k + 1)) h (hi1) (hv1) dL_law_597 ?_
  refine l_aload_n (pc := 598) h dL_law_598 rfl ?_
  refine l_iload_n (pc := 599) h dL_law_599 rfl ?_
  refine l_iconst (pc := 600) (v := 2) h dL_law_600 (by decide) ?_
  refine l_iadd (pc := 601) h dL_law_601 ?_
  refine l_sld (pc := 602) (v := xs (5 * k + 2)) h (hi2) (hv2) dL_law_602 ?_
  refine l_aload_n (pc := 603) h dL_law_603 rfl ?_
  refine l_iload_n (pc := 604) h dL_law_604 rfl ?_
  refine l_iconst (pc := 605) (v := 3) h dL_law_605 (by decide) ?_
  refine l_iadd (pc := 606) h dL_law_606 ?_
  refine l_sld (pc := 607) (v := xs (5 * k + 3)) h (hi3) (hv3) dL_law_607 ?_
  refine l_aload_n (pc := 608) h dL_law_608 rfl ?_
  refine l_iload_n (pc := 609) h dL_law_609 rfl ?_
  refine l_iconst (pc := 610) (v := 4) h dL_law_610 (by decide) ?_
  refine l_iadd (pc := 611) h dL_law_611 ?_
  refine l_sld (pc := 612) (v := xs (5 * k + 4)) h (hi4) (hv4) dL_law_612 ?_
  refine l_cM (pc := 613) (st := []) h [xs (5 * k + 1), xs (5 * k + 2), xs (5 * k + 3), xs (5 * k + 4)] cv_X7_shift wm_L_64 (c_X7_shift e2) ⟨rfl, rfl, Nat.le_of_ble_eq_true rfl, Nat.le_of_ble_eq_true rfl⟩ hshM_0 rfl rfl (Nat.le_of_ble_eq_true rfl) dL_law_613 ?_
  refine l_pop (pc := 616) h dL_law_616 ?_
  refine l_goto (pc := 617) (tgt := 926) h dL_law_617 (by decide) ?_
  exact kk _ _ hR
set_option maxRecDepth 100000 in
set_option maxHeartbeats 4000000 in
theorem law_case12 {K : Kx} {T : Tx} {b N : Nat} {xs : Nat → Int32} (h : OkL K T b N xs) (hN : N ≤ 100000) {k : Nat} (hk : 5 * k + 5 ≤ N) {Rl : St → St → Prop} (kk : ∀ ux um : St, Rl ux um → VL K T b 926 [some (.inr 0), some (.inr 1), some (.inr 2), some (.inl (nI (5 * k)))] [] ux um) {ux um : St} (hs : stp_12 Rl (xs (5 * k + 1)) (xs (5 * k + 2)) (xs (5 * k + 3)) (xs (5 * k + 4)) ux um) : VL K T b 620 [some (.inr 0), some (.inr 1), some (.inr 2), some (.inl (nI (5 * k)))] [] ux um := by
  obtain ⟨hi1, hv1⟩ := ix_law (xs := xs) hN hk 1 (by decide) 1 rfl
  obtain ⟨hi2, hv2⟩ := ix_law (xs := xs) hN hk 2 (by decide) 2 rfl
  obtain ⟨hi3, hv3⟩ := ix_law (xs := xs) hN hk 3 (by decide) 3 rfl
  obtain ⟨hi4, hv4⟩ := ix_law (xs := xs) hN hk 4 (by decide) 4 rfl
  obtain ⟨q1, q2, e1, e2, hR⟩ := hs
  refine l_aload_n (pc := 620) h dL_law_620 rfl ?_
  refine l_cX (pc := 621) (st := []) h [] cv_X6_less wm_L_65 (c_X6_less e1) ⟨rfl, rfl, Nat.le_of_ble_eq_true rfl, Nat.le_of_ble_eq_true rfl⟩ hshX_0 rfl rfl (Nat.le_of_ble_eq_true rfl) dL_law_621 ?_
  refine l_pop (pc := 624) h dL_law_624 ?_
  refine l_aload_n (pc := 625) h dL_law_625 rfl ?_
  refine l_cM (pc := 626) (st := []) h [] cv_X7_less wm_L_69 (c_X7_less e2) ⟨rfl, rfl, Nat.le_of_ble_eq_true rfl, Nat.le_of_ble_eq_true rfl⟩ hshM_0 rfl rfl (Nat.le_of_ble_eq_true rfl) dL_law_626 ?_
  refine l_pop (pc := 629) h dL_law_629 ?_
  refine l_goto (pc := 630) (tgt := 926) h dL_law_630 (by decide) ?_
  exact kk _ _ hR
set_option maxRecDepth 100000 in
set_option maxHeartbeats 4000000 in
theorem law_case13 {K : Kx} {T : Tx} {b N : Nat} {xs : Nat → Int32} (h : OkL K T b N xs) (hN : N ≤ 100000) {k : Nat} (hk : 5 * k + 5 ≤ N) {Rl : St → St → Prop} (kk : ∀ ux um : St, Rl ux um → VL K T b 926 [some (.inr 0), some (.inr 1), some (.inr 2), some (.inl (nI (5 * k)))] [] ux um) {ux um : St} (hs : stp_13 Rl (xs (5 * k + 1)) (xs (5 * k + 2)) (xs (5 * k + 3)) (xs (5 * k + 4)) ux um) : VL K T b 633 [some (.inr 0), some (.inr 1), some (.inr 2), some (.inl (nI (5 * k)))] [] ux um := by
  obtain ⟨hi1, hv1⟩ := ix_law (xs := xs) hN hk 1 (by decide) 1 rfl
  obtain ⟨hi2, hv2⟩ := ix_law (xs := xs) hN hk 2 (by decide) 2 rfl
  obtain ⟨hi3, hv3⟩ := ix_law (xs := xs) hN hk 3 (by decide) 3 rfl
  obtain ⟨hi4, hv4⟩ := ix_law (xs := xs) hN hk 4 (by decide) 4 rfl
  obtain ⟨q1, q2, e1, e2, hR⟩ := hs
  refine l_aload_n (pc := 633) h dL_law_633 rfl ?_
  refine l_aload_n (pc := 634) h dL_law_634 rfl ?_
  refine l_iload_n (pc := 635) h dL_law_635 rfl ?_
  refine l_iconst (pc := 636) (v := 1) h dL_law_636 (by decide) ?_
  refine l_iadd (pc := 637) h dL_law_637 ?_
  refine l_sld (pc := 638) (v := xs (5 * k + 1)) h (hi1) (hv1) dL_law_638 ?_
  refine l_aload_n (pc := 639) h dL_law_639 rfl ?_
  refine l_iload_n (pc := 640) h dL_law_640 rfl ?_
  refine l_iconst (pc := 641) (v := 2) h dL_law_641 (by decide) ?_
  refine l_iadd (pc := 642) h dL_law_642 ?_
  refine l_sld (pc := 643) (v := xs (5 * k + 2)) h (hi2) (hv2) dL_law_643 ?_
  refine l_aload_n (pc := 644) h dL_law_644 rfl ?_
  refine l_iload_n (pc := 645) h dL_law_645 rfl ?_
  refine l_iconst (pc := 646) (v := 3) h dL_law_646 (by decide) ?_
  refine l_iadd (pc := 647) h dL_law_647 ?_
  refine l_sld (pc := 648) (v := xs (5 * k + 3)) h (hi3) (hv3) dL_law_648 ?_
  refine l_cX (pc := 649) (st := []) h [xs (5 * k + 1), xs (5 * k + 2), xs (5 * k + 3)] cv_X6_way wm_L_70 (c_X6_way e1) ⟨rfl, rfl, Nat.le_of_ble_eq_true rfl, Nat.le_of_ble_eq_true rfl⟩ hshX_0 rfl rfl (Nat.le_of_ble_eq_true rfl) dL_law_649 ?_
  refine l_pop (pc := 652) h dL_law_652 ?_
  refine l_aload_n (pc := 653) h dL_law_653 rfl ?_
  refine l_aload_n (pc := 654) h dL_law_654 rfl ?_
  refine l_iload_n (pc := 655) h dL_law_655 rfl ?_
  refine l_iconst (pc := 656) (v := 1) h dL_law_656 (by decide) ?_
  refine l_iadd (pc := 657) h dL_law_657 ?_
  refine l_sld (pc := 658) (v := xs (5 * k + 1)) h (hi1) (hv1) dL_law_658 ?_
  refine l_aload_n (pc := 659) h dL_law_659 rfl ?_
  refine l_iload_n (pc := 660) h dL_law_660 rfl ?_
  refine l_iconst (pc := 661) (v := 2) h dL_law_661 (by decide) ?_
  refine l_iadd (pc := 662) h dL_law_662 ?_
  refine l_sld (pc := 663) (v := xs (5 * k + 2)) h (hi2) (hv2) dL_law_663 ?_
  refine l_aload_n (pc := 664) h dL_law_664 rfl ?_
  refine l_iload_n (pc := 665) h dL_law_665 rfl ?_
  refine l_iconst (pc := 666) (v := 3) h dL_law_666 (by decide) ?_
  refine l_iadd (pc := 667) h dL_law_667 ?_
  refine l_sld (pc := 668) (v := xs (5 * k + 3)) h (hi3) (hv3) dL_law_668 ?_
  refine l_cM (pc := 669) (st := []) h [xs (5 * k + 1), xs (5 * k + 2), xs (5 * k + 3)] cv_X7_way wm_L_73 (c_X7_way e2) ⟨rfl, rfl, Nat.le_of_ble_eq_true rfl, Nat.le_of_ble_eq_true rfl⟩ hshM_0 rfl rfl (Nat.le_of_ble_eq_true rfl) dL_law_669 ?_
  refine l_pop (pc := 672) h dL_law_672 ?_
  refine l_goto (pc := 673) (tgt := 926) h dL_law_673 (by decide) ?_
  exact kk _ _ hR
set_option maxRecDepth 100000 in
set_option maxHeartbeats 4000000 in
theorem law_case14 {K : Kx} {T : Tx} {b N : Nat} {xs : Nat → Int32} (h : OkL K T b N xs) (hN : N ≤ 100000) {k : Nat} (hk : 5 * k + 5 ≤ N) {Rl : St → St → Prop} (kk : ∀ ux um : St, Rl ux um → VL K T b 926 [some (.inr 0), some (.inr 1), some (.inr 2), some (.inl (nI (5 * k)))] [] ux um) {ux um : St} (hs : stp_14 Rl (xs (5 * k + 1)) (xs (5 * k + 2)) (xs (5 * k + 3)) (xs (5 * k + 4)) ux um) : VL K T b 676 [some (.inr 0), some (.inr 1), some (.inr 2), some (.inl (nI (5 * k)))] [] ux um := by
  obtain ⟨hi1, hv1⟩ := ix_law (xs := xs) hN hk 1 (by decide) 1 rfl
  obtain ⟨hi2, hv2⟩ := ix_law (xs := xs) hN hk 2 (by decide) 2 rfl
  obtain ⟨hi3, hv3⟩ := ix_law (xs := xs) hN hk 3 (by decide) 3 rfl
  obtain ⟨hi4, hv4⟩ := ix_law (xs := xs) hN hk 4 (by decide) 4 rfl
  obtain ⟨q1, q2, e1, e2, hR⟩ := hs
  refine l_aload_n (pc := 676) h dL_law_676 rfl ?_
  refine l_aload_n (pc := 677) h dL_law_677 rfl ?_
  refine l_iload_n (pc := 678) h dL_law_678 rfl ?_
  refine l_iconst (pc := 679) (v := 1) h dL_law_679 (by decide) ?_
  refine l_iadd (pc := 680) h dL_law_680 ?_
  refine l_sld (pc := 681) (v := xs (5 * k + 1)) h (hi1) (hv1) dL_law_681 ?_
  refine l_cX (pc := 682) (st := []) h [xs (5 * k + 1)] cv_X6_fits wm_L_74 (c_X6_fits e1) ⟨rfl, rfl, Nat.le_of_ble_eq_true rfl, Nat.le_of_ble_eq_true rfl⟩ hshX_0 rfl rfl (Nat.le_of_ble_eq_true rfl) dL_law_682 ?_
  refine l_pop (pc := 685) h dL_law_685 ?_
  refine l_aload_n (pc := 686) h dL_law_686 rfl ?_
  refine l_aload_n (pc := 687) h dL_law_687 rfl ?_
  refine l_iload_n (pc := 688) h dL_law_688 rfl ?_
  refine l_iconst (pc := 689) (v := 1) h dL_law_689 (by decide) ?_
  refine l_iadd (pc := 690) h dL_law_690 ?_
  refine l_sld (pc := 691) (v := xs (5 * k + 1)) h (hi1) (hv1) dL_law_691 ?_
  refine l_cM (pc := 692) (st := []) h [xs (5 * k + 1)] cv_X7_fits wm_L_77 (c_X7_fits e2) ⟨rfl, rfl, Nat.le_of_ble_eq_true rfl, Nat.le_of_ble_eq_true rfl⟩ hshM_0 rfl rfl (Nat.le_of_ble_eq_true rfl) dL_law_692 ?_
  refine l_pop (pc := 695) h dL_law_695 ?_
  refine l_goto (pc := 696) (tgt := 926) h dL_law_696 (by decide) ?_
  exact kk _ _ hR
set_option maxRecDepth 100000 in
set_option maxHeartbeats 4000000 in
theorem law_case15 {K : Kx} {T : Tx} {b N : Nat} {xs : Nat → Int32} (h : OkL K T b N xs) (hN : N ≤ 100000) {k : Nat} (hk : 5 * k + 5 ≤ N) {Rl : St → St → Prop} (kk : ∀ ux um : St, Rl ux um → VL K T b 926 [some (.inr 0), some (.inr 1), some (.inr 2), some (.inl (nI (5 * k)))] [] ux um) {ux um : St} (hs : stp_15 Rl (xs (5 * k + 1)) (xs (5 * k + 2)) (xs (5 * k + 3)) (xs (5 * k + 4)) ux um) : VL K T b 699 [some (.inr 0), some (.inr 1), some (.inr 2), some (.inl (nI (5 * k)))] [] ux um := by
  obtain ⟨hi1, hv1⟩ := ix_law (xs := xs) hN hk 1 (by decide) 1 rfl
  obtain ⟨hi2, hv2⟩ := ix_law (xs := xs) hN hk 2 (by decide) 2 rfl
  obtain ⟨hi3, hv3⟩ := ix_law (xs := xs) hN hk 3 (by decide) 3 rfl
  obtain ⟨hi4, hv4⟩ := ix_law (xs := xs) hN hk 4 (by decide) 4 rfl
  obtain ⟨q1, q2, e1, e2, hR⟩ := hs
  refine l_aload_n (pc := 699) h dL_law_699 rfl ?_
  refine l_cX (pc := 700) (st := []) h [] cv_X6_dressers wm_L_78 (c_X6_dressers e1) ⟨rfl, rfl, Nat.le_of_ble_eq_true rfl, Nat.le_of_ble_eq_true rfl⟩ hshX_0 rfl rfl (Nat.le_of_ble_eq_true rfl) dL_law_700 ?_
  refine l_pop (pc := 703) h dL_law_703 ?_
  refine l_aload_n (pc := 704) h dL_law_704 rfl ?_
  refine l_cM (pc := 705) (st := []) h [] cv_X7_dressers wm_L_81 (c_X7_dressers e2) ⟨rfl, rfl, Nat.le_of_ble_eq_true rfl, Nat.le_of_ble_eq_true rfl⟩ hshM_0 rfl rfl (Nat.le_of_ble_eq_true rfl) dL_law_705 ?_
  refine l_pop (pc := 708) h dL_law_708 ?_
  refine l_goto (pc := 709) (tgt := 926) h dL_law_709 (by decide) ?_
  exact kk _ _ hR
set_option maxRecDepth 100000 in
set_option maxHeartbeats 4000000 in
theorem law_case16 {K : Kx} {T : Tx} {b N : Nat} {xs : Nat → Int32} (h : OkL K T b N xs) (hN : N ≤ 100000) {k : Nat} (hk : 5 * k + 5 ≤ N) {Rl : St → St → Prop} (kk : ∀ ux um : St, Rl ux um → VL K T b 926 [some (.inr 0), some (.inr 1), some (.inr 2), some (.inl (nI (5 * k)))] [] ux um) {ux um : St} (hs : stp_16 Rl (xs (5 * k + 1)) (xs (5 * k + 2)) (xs (5 * k + 3)) (xs (5 * k + 4)) ux um) : VL K T b 712 [some (.inr 0), some (.inr 1), some (.inr 2), some (.inl (nI (5 * k)))] [] ux um := by
  obtain ⟨hi1, hv1⟩ := ix_law (xs := xs) hN hk 1 (by decide) 1 rfl
  obtain ⟨hi2, hv2⟩ := ix_law (xs := xs) hN hk 2 (by decide) 2 rfl
  obtain ⟨hi3, hv3⟩ := ix_law (xs := xs) hN hk 3 (by decide) 3 rfl
  obtain ⟨hi4, hv4⟩ := ix_law (xs := xs) hN hk 4 (by decide) 4 rfl
  obtain ⟨q1, q2, e1, e2, hR⟩ := hs
  refine l_aload_n (pc := 712) h dL_law_712 rfl ?_
  refine l_aload_n (pc := 713) h dL_law_713 rfl ?_
  refine l_iload_n (pc := 714) h dL_law_714 rfl ?_
  refine l_iconst (pc := 715) (v := 1) h dL_law_715 (by decide) ?_
  refine l_iadd (pc := 716) h dL_law_716 ?_
  refine l_sld (pc := 717) (v := xs (5 * k + 1)) h (hi1) (hv1) dL_law_717 ?_
  refine l_cX (pc := 718) (st := []) h [xs (5 * k + 1)] cv_X6_worn wm_L_82 (c_X6_worn e1) ⟨rfl, rfl, Nat.le_of_ble_eq_true rfl, Nat.le_of_ble_eq_true rfl⟩ hshX_0 rfl rfl (Nat.le_of_ble_eq_true rfl) dL_law_718 ?_
  refine l_pop (pc := 721) h dL_law_721 ?_
  refine l_aload_n (pc := 722) h dL_law_722 rfl ?_
  refine l_aload_n (pc := 723) h dL_law_723 rfl ?_
  refine l_iload_n (pc := 724) h dL_law_724 rfl ?_
  refine l_iconst (pc := 725) (v := 1) h dL_law_725 (by decide) ?_
  refine l_iadd (pc := 726) h dL_law_726 ?_
  refine l_sld (pc := 727) (v := xs (5 * k + 1)) h (hi1) (hv1) dL_law_727 ?_
  refine l_cM (pc := 728) (st := []) h [xs (5 * k + 1)] cv_X7_worn wm_L_85 (c_X7_worn e2) ⟨rfl, rfl, Nat.le_of_ble_eq_true rfl, Nat.le_of_ble_eq_true rfl⟩ hshM_0 rfl rfl (Nat.le_of_ble_eq_true rfl) dL_law_728 ?_
  refine l_pop (pc := 731) h dL_law_731 ?_
  refine l_goto (pc := 732) (tgt := 926) h dL_law_732 (by decide) ?_
  exact kk _ _ hR
set_option maxRecDepth 100000 in
set_option maxHeartbeats 4000000 in
theorem law_case17 {K : Kx} {T : Tx} {b N : Nat} {xs : Nat → Int32} (h : OkL K T b N xs) (hN : N ≤ 100000) {k : Nat} (hk : 5 * k + 5 ≤ N) {Rl : St → St → Prop} (kk : ∀ ux um : St, Rl ux um → VL K T b 926 [some (.inr 0), some (.inr 1), some (.inr 2), some (.inl (nI (5 * k)))] [] ux um) {ux um : St} (hs : stp_17 Rl (xs (5 * k + 1)) (xs (5 * k + 2)) (xs (5 * k + 3)) (xs (5 * k + 4)) ux um) : VL K T b 735 [some (.inr 0), some (.inr 1), some (.inr 2), some (.inl (nI (5 * k)))] [] ux um := by
  obtain ⟨hi1, hv1⟩ := ix_law (xs := xs) hN hk 1 (by decide) 1 rfl
  obtain ⟨hi2, hv2⟩ := ix_law (xs := xs) hN hk 2 (by decide) 2 rfl
  obtain ⟨hi3, hv3⟩ := ix_law (xs := xs) hN hk 3 (by decide) 3 rfl
  obtain ⟨hi4, hv4⟩ := ix_law (xs := xs) hN hk 4 (by decide) 4 rfl
  obtain ⟨q1, q2, e1, e2, hR⟩ := hs
  refine l_aload_n (pc := 735) h dL_law_735 rfl ?_
  refine l_aload_n (pc := 736) h dL_law_736 rfl ?_
  refine l_iload_n (pc := 737) h dL_law_737 rfl ?_
  refine l_iconst (pc := 738) (v := 1) h dL_law_738 (by decide) ?_
  refine l_iadd (pc := 739) h dL_law_739 ?_
  refine l_sld (pc := 740) (v := xs (5 * k + 1)) h (hi1) (hv1) dL_law_740 ?_
  refine l_cX (pc := 741) (st := []) h [xs (5 * k + 1)] cv_X6_wash wm_L_86 (c_X6_wash e1) ⟨rfl, rfl, Nat.le_of_ble_eq_true rfl, Nat.le_of_ble_eq_true rfl⟩ hshX_0 rfl rfl (Nat.le_of_ble_eq_true rfl) dL_law_741 ?_
  refine l_pop (pc := 744) h dL_law_744 ?_
  refine l_aload_n (pc := 745) h dL_law_745 rfl ?_
  refine l_aload_n (pc := 746) h dL_law_746 rfl ?_
  refine l_iload_n (pc := 747) h dL_law_747 rfl ?_
  refine l_iconst (pc := 748) (v := 1) h dL_law_748 (by decide) ?_
  refine l_iadd (pc := 749) h dL_law_749 ?_
  refine l_sld (pc := 750) (v := xs (5 * k + 1)) h (hi1) (hv1) dL_law_750 ?_
  refine l_cM (pc := 751) (st := []) h [xs (5 * k + 1)] cv_X7_wash wm_L_89 (c_X7_wash e2) ⟨rfl, rfl, Nat.le_of_ble_eq_true rfl, Nat.le_of_ble_eq_true rfl⟩ hshM_0 rfl rfl (Nat.le_of_ble_eq_true rfl) dL_law_751 ?_
  refine l_pop (pc := 754) h dL_law_754 ?_
  refine l_goto (pc := 755) (tgt := 926) h dL_law_755 (by decide) ?_
  exact kk _ _ hR
set_option maxRecDepth 100000 in
set_option maxHeartbeats 4000000 in
theorem law_case18 {K : Kx} {T : Tx} {b N : Nat} {xs : Nat → Int32} (h : OkL K T b N xs) (hN : N ≤ 100000) {k : Nat} (hk : 5 * k + 5 ≤ N) {Rl : St → St → Prop} (kk : ∀ ux um : St, Rl ux um → VL K T b 926 [some (.inr 0), some (.inr 1), some (.inr 2), some (.inl (nI (5 * k)))] [] ux um) {ux um : St} (hs : stp_18 Rl (xs (5 * k + 1)) (xs (5 * k + 2)) (xs (5 * k + 3)) (xs (5 * k + 4)) ux um) : VL K T b 758 [some (.inr 0), some (.inr 1), some (.inr 2), some (.inl (nI (5 * k)))] [] ux um := by
  obtain ⟨hi1, hv1⟩ := ix_law (xs := xs) hN hk 1 (by decide) 1 rfl
  obtain ⟨hi2, hv2⟩ := ix_law (xs := xs) hN hk 2 (by decide) 2 rfl
  obtain ⟨hi3, hv3⟩ := ix_law (xs := xs) hN hk 3 (by decide) 3 rfl
  obtain ⟨hi4, hv4⟩ := ix_law (xs := xs) hN hk 4 (by decide) 4 rfl
  obtain ⟨q1, q2, e1, e2, e3, hR⟩ := hs
  refine l_aload_n (pc := 758) h dL_law_758 rfl ?_
  refine l_aload_n (pc := 759) h dL_law_759 rfl ?_
  refine l_iload_n (pc := 760) h dL_law_760 rfl ?_
  refine l_iconst (pc := 761) (v := 1) h dL_law_761 (by decide) ?_
  refine l_iadd (pc := 762) h dL_law_762 ?_
  refine l_sld (pc := 763) (v := xs (5 * k + 1)) h (hi1) (hv1) dL_law_763 ?_
  refine l_cX (pc := 764) (st := []) h [xs (5 * k + 1)] cv_X6_hours wm_L_90 (c_X6_hours e1) ⟨rfl, rfl, Nat.le_of_ble_eq_true rfl, Nat.le_of_ble_eq_true rfl⟩ hshX_0 rfl rfl (Nat.le_of_ble_eq_true rfl) dL_law_764 ?_
  refine l_aload_n (pc := 767) h dL_law_767 rfl ?_
  refine l_aload_n (pc := 768) h dL_law_768 rfl ?_
  refine l_iload_n (pc := 769) h dL_law_769 rfl ?_
  refine l_iconst (pc := 770) (v := 1) h dL_law_770 (by decide) ?_
  refine l_iadd (pc := 771) h dL_law_771 ?_
  refine l_sld (pc := 772) (v := xs (5 * k + 1)) h (hi1) (hv1) dL_law_772 ?_
  refine l_cM (pc := 773) (st := [.inl q1.1]) h [xs (5 * k + 1)] cv_X7_hours wm_L_93 (c_X7_hours e2) ⟨rfl, rfl, Nat.le_of_ble_eq_true rfl, Nat.le_of_ble_eq_true rfl⟩ hshM_0 rfl rfl (Nat.le_of_ble_eq_true rfl) dL_law_773 ?_
  refine l_eq (pc := 776) (tgt := 926) h dL_law_776 (by decide) e3 ?_
  exact kk _ _ hR
set_option maxRecDepth 100000 in
set_option maxHeartbeats 4000000 in
theorem law_case19 {K : Kx} {T : Tx} {b N : Nat} {xs : Nat → Int32} (h : OkL K T b N xs) (hN : N ≤ 100000) {k : Nat} (hk : 5 * k + 5 ≤ N) {Rl : St → St → Prop} (kk : ∀ ux um : St, Rl ux um → VL K T b 926 [some (.inr 0), some (.inr 1), some (.inr 2), some (.inl (nI (5 * k)))] [] ux um) {ux um : St} (hs : stp_19 Rl (xs (5 * k + 1)) (xs (5 * k + 2)) (xs (5 * k + 3)) (xs (5 * k + 4)) ux um) : VL K T b 781 [some (.inr 0), some (.inr 1), some (.inr 2), some (.inl (nI (5 * k)))] [] ux um := by
  obtain ⟨hi1, hv1⟩ := ix_law (xs := xs) hN hk 1 (by decide) 1 rfl
  obtain ⟨hi2, hv2⟩ := ix_law (xs := xs) hN hk 2 (by decide) 2 rfl
  obtain ⟨hi3, hv3⟩ := ix_law (xs := xs) hN hk 3 (by decide) 3 rfl
  obtain ⟨hi4, hv4⟩ := ix_law (xs := xs) hN hk 4 (by decide) 4 rfl
  obtain ⟨q1, q2, e1, e2, hR⟩ := hs
  refine l_aload_n (pc := 781) h dL_law_781 rfl ?_
  refine l_aload_n (pc := 782) h dL_law_782 rfl ?_
  refine l_iload_n (pc := 783) h dL_law_783 rfl ?_
  refine l_iconst (pc := 784) (v := 1) h dL_law_784 (by decide) ?_
  refine l_iadd (pc := 785) h dL_law_785 ?_
  refine l_sld (pc := 786) (v := xs (5 * k + 1)) h (hi1) (hv1) dL_law_786 ?_
  refine l_aload_n (pc := 787) h dL_law_787 rfl ?_
  refine l_iload_n (pc := 788) h dL_law_788 rfl ?_
  refine l_iconst (pc := 789) (v := 2) h dL_law_789 (by decide) ?_
  refine l_iadd (pc := 790) h dL_law_790 ?_
  refine l_sld (pc := 791) (v := xs (5 * k + 2)) h (hi2) (hv2) dL_law_791 ?_
  refine l_cX (pc := 792) (st := []) h [xs (5 * k + 1), xs (5 * k + 2)] cv_X6_tonight wm_L_94 (c_X6_tonight e1) ⟨rfl, rfl, Nat.le_of_ble_eq_true rfl, Nat.le_of_ble_eq_true rfl⟩ hshX_0 rfl rfl (Nat.le_of_ble_eq_true rfl) dL_law_792 ?_
  refine l_pop (pc := 795) h dL_law_795 ?_
  refine l_aload_n (pc := 796) h dL_law_796 rfl ?_
  refine l_aload_n (pc := 797) h dL_law_797 rfl ?_
  refine l_iload_n (pc := 798) h dL_law_798 rfl ?_
  refine l_iconst (pc := 799) (v := 1) h dL_law_799 (by decide) ?_
  refine l_iadd (pc := 800) h dL_law_800 ?_
  refine l_sld (pc := 801) (v := xs (5 * k + 1)) h (hi1) (hv1) dL_law_801 ?_
  refine l_aload_n (pc := 802) h dL_law_802 rfl ?_
  refine l_iload_n (pc := 803) h dL_law_803 rfl ?_
  refine l_iconst (pc := 804) (v := 2) h dL_law_804 (by decide) ?_
  refine l_iadd (pc := 805) h dL_law_805 ?_
  refine l_sld (pc := 806) (v := xs (5 * k + 2)) h (hi2) (hv2) dL_law_806 ?_
  refine l_cM (pc := 807) (st := []) h [xs (5 * k + 1), xs (5 * k + 2)] cv_X7_tonight wm_L_97 (c_X7_tonight e2) ⟨rfl, rfl, Nat.le_of_ble_eq_true rfl, Nat.le_of_ble_eq_true rfl⟩ hshM_0 rfl rfl (Nat.le_of_ble_eq_true rfl) dL_law_807 ?_
  refine l_pop (pc := 810) h dL_law_810 ?_
  refine l_goto (pc := 811) (tgt := 926) h dL_law_811 (by decide) ?_
  exact kk _ _ hR
set_option maxRecDepth 100000 in
set_option maxHeartbeats 4000000 in
theorem law_case20 {K : Kx} {T : Tx} {b N : Nat} {xs : Nat → Int32} (h : OkL K T b N xs) (hN : N ≤ 100000) {k : Nat} (hk : 5 * k + 5 ≤ N) {Rl : St → St → Prop} (kk : ∀ ux um : St, Rl ux um → VL K T b 926 [some (.inr 0), some (.inr 1), some (.inr 2), some (.inl (nI (5 * k)))] [] ux um) {ux um : St} (hs : stp_20 Rl (xs (5 * k + 1)) (xs (5 * k + 2)) (xs (5 * k + 3)) (xs (5 * k + 4)) ux um) : VL K T b 814 [some (.inr 0), some (.inr 1), some (.inr 2), some (.inl (nI (5 * k)))] [] ux um := by
  obtain ⟨hi1, hv1⟩ := ix_law (xs := xs) hN hk 1 (by decide) 1 rfl
  obtain ⟨hi2, hv2⟩ := ix_law (xs := xs) hN hk 2 (by decide) 2 rfl
  obtain ⟨hi3, hv3⟩ := ix_law (xs := xs) hN hk 3 (by decide) 3 rfl
  obtain ⟨hi4, hv4⟩ := ix_law (xs := xs) hN hk 4 (by decide) 4 rfl
  obtain ⟨q1, q2, e1, e2, hR⟩ := hs
  refine l_aload_n (pc := 814) h dL_law_814 rfl ?_
  refine l_aload_n (pc := 815) h dL_law_815 rfl ?_
  refine l_iload_n (pc := 816) h dL_law_816 rfl ?_
  refine l_iconst (pc := 817) (v := 1) h dL_law_817 (by decide) ?_
  refine l_iadd (pc := 818) h dL_law_818 ?_
  refine l_sld (pc := 819) (v := xs (5 * k + 1)) h (hi1) (hv1) dL_law_819 ?_
  refine l_cX (pc := 820) (st := []) h [xs (5 * k + 1)] cv_X6_tell wm_L_98 (c_X6_tell e1) ⟨rfl, rfl, Nat.le_of_ble_eq_true rfl, Nat.le_of_ble_eq_true rfl⟩ hshX_0 rfl rfl (Nat.le_of_ble_eq_true rfl) dL_law_820 ?_
  refine l_pop (pc := 823) h dL_law_823 ?_
  refine l_aload_n (pc := 824) h dL_law_824 rfl ?_
  refine l_aload_n (pc := 825) h dL_law_825 rfl ?_
  refine l_iload_n (pc := 826) h dL_law_826 rfl ?_
  refine l_iconst (pc := 827) (v := 1) h dL_law_827 (by decide) ?_
  refine l_iadd (pc := 828) h dL_law_828 ?_
  refine l_sld (pc := 829) (v := xs (5 * k + 1)) h (hi1) (hv1) dL_law_829 ?_
  refine l_cM (pc := 830) (st := []) h [xs (5 * k + 1)] cv_X7_tell_ wm_L_101 (c_X7_tell_ e2) ⟨rfl, rfl, Nat.le_of_ble_eq_true rfl, Nat.le_of_ble_eq_true rfl⟩ hshM_0 rfl rfl (Nat.le_of_ble_eq_true rfl) dL_law_830 ?_
  refine l_pop (pc := 833) h dL_law_833 ?_
  refine l_goto (pc := 834) (tgt := 926) h dL_law_834 (by decide) ?_
  exact kk _ _ hR
set_option maxRecDepth 100000 in
set_option maxHeartbeats 4000000 in
theorem law_case21 {K : Kx} {T : Tx} {b N : Nat} {xs : Nat → Int32} (h : OkL K T b N xs) (hN : N ≤ 100000) {k : Nat} (hk : 5 * k + 5 ≤ N) {Rl : St → St → Prop} (kk : ∀ ux um : St, Rl ux um → VL K T b 926 [some (.inr 0), some (.inr 1), some (.inr 2), some (.inl (nI (5 * k)))] [] ux um) {ux um : St} (hs : stp_21 Rl (xs (5 * k + 1)) (xs (5 * k + 2)) (xs (5 * k + 3)) (xs (5 * k + 4)) ux um) : VL K T b 837 [some (.inr 0), some (.inr 1), some (.inr 2), some (.inl (nI (5 * k)))] [] ux um := by
  obtain ⟨hi1, hv1⟩ := ix_law (xs := xs) hN hk 1 (by decide) 1 rfl
  obtain ⟨hi2, hv2⟩ := ix_law (xs := xs) hN hk 2 (by decide) 2 rfl
  obtain ⟨hi3, hv3⟩ := ix_law (xs := xs) hN hk 3 (by decide) 3 rfl
  obtain ⟨hi4, hv4⟩ := ix_law (xs := xs) hN hk 4 (by decide) 4 rfl
  obtain ⟨q1, q2, e1, e2, hR⟩ := hs
  refine l_aload_n (pc := 837) h dL_law_837 rfl ?_
  refine l_aload_n (pc := 838) h dL_law_838 rfl ?_
  refine l_iload_n (pc := 839) h dL_law_839 rfl ?_
  refine l_iconst (pc := 840) (v := 1) h dL_law_840 (by decide) ?_
  refine l_iadd (pc := 841) h dL_law_841 ?_
  refine l_sld (pc := 842) (v := xs (5 * k + 1)) h (hi1) (hv1) dL_law_842 ?_
  refine l_aload_n (pc := 843) h dL_law_843 rfl ?_
  refine l_iload_n (pc := 844) h dL_law_844 rfl ?_
  refine l_iconst (pc := 845) (v := 2) h dL_law_845 (by decide) ?_
  refine l_iadd (pc := 846) h dL_law_846 ?_
  refine l_sld (pc := 847) (v := xs (5 * k + 2)) h (hi2) (hv2) dL_law_847 ?_
  refine l_aload_n (pc := 848) h dL_law_848 rfl ?_
  refine l_iload_n (pc := 849) h dL_law_849 rfl ?_
  refine l_iconst (pc := 850) (v := 3) h dL_law_850 (by decide) ?_
  refine l_iadd (pc := 851) h dL_law_851 ?_
  refine l_sld (pc := 852) (v := xs (5 * k + 3)) h (hi3) (hv3) dL_law_852 ?_
  refine l_cX (pc := 853) (st := []) h [xs (5 * k + 1), xs (5 * k + 2), xs (5 * k + 3)] cv_X6_check wm_L_102 (c_X6_check e1) ⟨rfl, rfl, Nat.le_of_ble_eq_true rfl, Nat.le_of_ble_eq_true rfl⟩ hshX_0 rfl rfl (Nat.le_of_ble_eq_true rfl) dL_law_853 ?_
  refine l_pop (pc := 856) h dL_law_856 ?_
  refine l_aload_n (pc := 857) h dL_law_857 rfl ?_
  refine l_aload_n (pc := 858) h dL_law_858 rfl ?_
  refine l_iload_n (pc := 859) h dL_law_859 rfl ?_
  refine l_iconst (pc := 860) (v := 1) h dL_law_860 (by decide) ?_
  refine l_iadd (pc := 861) h dL_law_861 ?_
  refine l_sld (pc := 862) (v := xs (5 * k + 1)) h (hi1) (hv1) dL_law_862 ?_
  refine l_aload_n (pc := 863) h dL_law_863 rfl ?_
  refine l_iload_n (pc := 864) h dL_law_864 rfl ?_
  refine l_iconst (pc := 865) (v := 2) h dL_law_865 (by decide) ?_
  refine l_iadd (pc := 866) h dL_law_866 ?_
  refine l_sld (pc := 867) (v := xs (5 * k + 2)) h (hi2) (hv2) dL_law_867 ?_
  refine l_aload_n (pc := 868) h dL_law_868 rfl ?_
  refine l_iload_n (pc := 869) h dL_law_869 rfl ?_
  refine l_iconst (pc := 870) (v := 3) h dL_law_870 (by decide) ?_
  refine l_iadd (pc := 871) h dL_law_871 ?_
  refine l_sld (pc := 872) (v := xs (5 * k + 3)) h (hi3) (hv3) dL_law_872 ?_
  refine l_cM (pc := 873) (st := []) h [xs (5 * k + 1), xs (5 * k + 2), xs (5 * k + 3)] cv_X7_check wm_L_105 (c_X7_check e2) ⟨rfl, rfl, Nat.le_of_ble_eq_true rfl, Nat.le_of_ble_eq_true rfl⟩ hshM_0 rfl rfl (Nat.le_of_ble_eq_true rfl) dL_law_873 ?_
  refine l_pop (pc := 876) h dL_law_876 ?_
  refine l_goto (pc := 877) (tgt := 926) h dL_law_877 (by decide) ?_
  exact kk _ _ hR
set_option maxRecDepth 100000 in
set_option maxHeartbeats 4000000 in
theorem law_case22 {K : Kx} {T : Tx} {b N : Nat} {xs : Nat → Int32} (h : OkL K T b N xs) (hN : N ≤ 100000) {k : Nat} (hk : 5 * k + 5 ≤ N) {Rl : St → St → Prop} (kk : ∀ ux um : St, Rl ux um → VL K T b 926 [some (.inr 0), some (.inr 1), some (.inr 2), some (.inl (nI (5 * k)))] [] ux um) {ux um : St} (hs : stp_22 Rl (xs (5 * k + 1)) (xs (5 * k + 2)) (xs (5 * k + 3)) (xs (5 * k + 4)) ux um) : VL K T b 880 [some (.inr 0), some (.inr 1), some (.inr 2), some (.inl (nI (5 * k)))] [] ux um := by
  obtain ⟨hi1, hv1⟩ := ix_law (xs := xs) hN hk 1 (by decide) 1 rfl
  obtain ⟨hi2, hv2⟩ := ix_law (xs := xs) hN hk 2 (by decide) 2 rfl
  obtain ⟨hi3, hv3⟩ := ix_law (xs := xs) hN hk 3 (by decide) 3 rfl
  obtain ⟨hi4, hv4⟩ := ix_law (xs := xs) hN hk 4 (by decide) 4 rfl
  obtain ⟨q1, q2, e1, e2, hR⟩ := hs
  refine l_aload_n (pc := 880) h dL_law_880 rfl ?_
  refine l_aload_n (pc := 881) h dL_law_881 rfl ?_
  refine l_iload_n (pc := 882) h dL_law_882 rfl ?_
  refine l_iconst (pc := 883) (v := 1) h dL_law_883 (by decide) ?_
  refine l_iadd (pc := 884) h dL_law_884 ?_
  refine l_sld (pc := 885) (v := xs (5 * k + 1)) h (hi1) (hv1) dL_law_885 ?_
  refine l_cX (pc := 886) (st := []) h [xs (5 * k + 1)] cv_X6_count wm_L_106 (c_X6_count e1) ⟨rfl, rfl, Nat.le_of_ble_eq_true rfl, Nat.le_of_ble_eq_true rfl⟩ hshX_0 rfl rfl (Nat.le_of_ble_eq_true rfl) dL_law_886 ?_
  refine l_pop (pc := 889) h dL_law_889 ?_
  refine l_aload_n (pc := 890) h dL_law_890 rfl ?_
  refine l_aload_n (pc := 891) h dL_law_891 rfl ?_
  refine l_iload_n (pc := 892) h dL_law_892 rfl ?_
  refine l_iconst (pc := 893) (v := 1) h dL_law_893 (by decide) ?_
  refine l_iadd (pc := 894) h dL_law_894 ?_
  refine l_sld (pc := 895) (v := xs (5 * k + 1)) h (hi1) (hv1) dL_law_895 ?_
  refine l_cM (pc := 896) (st := []) h [xs (5 * k + 1)] cv_X7_count wm_L_109 (c_X7_count e2) ⟨rfl, rfl, Nat.le_of_ble_eq_true rfl, Nat.le_of_ble_eq_true rfl⟩ hshM_0 rfl rfl (Nat.le_of_ble_eq_true rfl) dL_law_896 ?_
  refine l_pop (pc := 899) h dL_law_899 ?_
  refine l_goto (pc := 900) (tgt := 926) h dL_law_900 (by decide) ?_
  exact kk _ _ hR
set_option maxRecDepth 100000 in
set_option maxHeartbeats 4000000 in
theorem law_case23 {K : Kx} {T : Tx} {b N : Nat} {xs : Nat → Int32} (h : OkL K T b N xs) (hN : N ≤ 100000) {k : Nat} (hk : 5 * k + 5 ≤ N) {Rl : St → St → Prop} (kk : ∀ ux um : St, Rl ux um → VL K T b 926 [some (.inr 0), some (.inr 1), some (.inr 2), some (.inl (nI (5 * k)))] [] ux um) {ux um : St} (hs : stp_23 Rl (xs (5 * k + 1)) (xs (5 * k + 2)) (xs (5 * k + 3)) (xs (5 * k + 4)) ux um) : VL K T b 903 [some (.inr 0), some (.inr 1), some (.inr 2), some (.inl (nI (5 * k)))] [] ux um := by
  obtain ⟨hi1, hv1⟩ := ix_law (xs := xs) hN hk 1 (by decide) 1 rfl
  obtain ⟨hi2, hv2⟩ := ix_law (xs := xs) hN hk 2 (by decide) 2 rfl
  obtain ⟨hi3, hv3⟩ := ix_law (xs := xs) hN hk 3 (by decide) 3 rfl
  obtain ⟨hi4, hv4⟩ := ix_law (xs := xs) hN hk 4 (by decide) 4 rfl
  obtain ⟨q1, q2, e1, e2, hR⟩ := hs
  refine l_aload_n (pc := 903) h dL_law_903 rfl ?_
  refine l_aload_n (pc := 904) h dL_law_904 rfl ?_
  refine l_iload_n (pc := 905) h dL_law_905 rfl ?_
  refine l_iconst (pc := 906) (v := 1) h dL_law_906 (by decide) ?_
  refine l_iadd (pc := 907) h dL_law_907 ?_
  refine l_sld (pc := 908) (v := xs (5 * k + 1)) h (hi1) (hv1) dL_law_908 ?_
  refine l_cX (pc := 909) (st := []) h [xs (5 * k + 1)] cv_X6_found wm_L_110 (c_X6_found e1) ⟨rfl, rfl, Nat.le_of_ble_eq_true rfl, Nat.le_of_ble_eq_true rfl⟩ hshX_0 rfl rfl (Nat.le_of_ble_eq_true rfl) dL_law_909 ?_
  refine l_pop (pc := 912) h dL_law_912 ?_
  refine l_aload_n (pc := 913) h dL_law_913 rfl ?_
  refine l_aload_n (pc := 914) h dL_law_914 rfl ?_
  refine l_iload_n (pc := 915) h dL_law_915 rfl ?_
  refine l_iconst (pc := 916) (v := 1) h dL_law_916 (by decide) ?_
  refine l_iadd (pc := 917) h dL_law_917 ?_
  refine l_sld (pc := 918) (v := xs (5 * k + 1)) h (hi1) (hv1) dL_law_918 ?_
  refine l_cM (pc := 919) (st := []) h [xs (5 * k + 1)] cv_X7_found wm_L_113 (c_X7_found e2) ⟨rfl, rfl, Nat.le_of_ble_eq_true rfl, Nat.le_of_ble_eq_true rfl⟩ hshM_0 rfl rfl (Nat.le_of_ble_eq_true rfl) dL_law_919 ?_
  refine l_pop (pc := 922) h dL_law_922 ?_
  refine l_goto (pc := 923) (tgt := 926) h dL_law_923 (by decide) ?_
  exact kk _ _ hR
set_option maxRecDepth 100000 in
set_option maxHeartbeats 4000000 in
theorem law_loop {K : Kx} {T : Tx} {b N : Nat} {xs : Nat → Int32} (h : OkL K T b N xs) (hN : N ≤ 2560) (Rl : Nat → St → St → Prop) (hstep : ∀ k : Nat, 5 * k + 5 ≤ N → ∀ ux um : St, Rl k ux um → ∀ o b c d e : Int32, LStp (Rl (k + 1)) (o &&& 31) b c d e ux um) : ∀ (n k : Nat), 5 * k ≤ N + 5 → N + 6 ≤ 5 * k + n → ∀ ux um : St, Rl k ux um → VL K T b 18 [some (.inr 0), some (.inr 1), some (.inr 2), some (.inl (nI (5 * k)))] [] ux um := by
  intro n
  induction n with
  | zero => intro k h1 h2; omega
  | succ n ih =>
    intro k h1 h2 ux um hR
    have hN' : N ≤ 100000 := by omega
    refine l_iload_n (pc := 18) h dL_law_18 rfl ?_
    refine l_aload_n (pc := 19) h dL_law_19 rfl ?_
    refine l_len (pc := 20) h dL_law_20 ?_
    refine l_iconst (pc := 21) (v := 5) h dL_law_21 (by decide) ?_
    refine l_isub (pc := 22) h dL_law_22 ?_
    refine l_gt (pc := 23) (tgt := 932) h dL_law_23 (by decide) (fun _ => ?_) (fun hc => ?_)
    · refine l_iconst (pc := 932) (v := 1) h dL_law_932 (by decide) ?_
      exact l_ret (pc := 933) h dL_law_933
    · have hk : 5 * k + 5 ≤ N := lt_law hN' hc h1
      obtain ⟨hi0, hv0⟩ := ix_law (xs := xs) hN' hk 0 (by decide) 0 rfl
      rw [Int32.add_zero] at hi0 hv0
      have hS := hstep k hk ux um hR (xs (5 * k + 0)) (xs (5 * k + 1)) (xs (5 * k + 2)) (xs (5 * k + 3)) (xs (5 * k + 4))
      refine l_aload_n (pc := 26) h dL_law_26 rfl ?_
      refine l_iload_n (pc := 27) h dL_law_27 rfl ?_
      refine l_sld (pc := 28) (v := xs (5 * k + 0)) h hi0 hv0 dL_law_28 ?_
      refine l_bipush (pc := 29) (v := 31) h dL_law_29 (by decide) ?_
      refine l_iand (pc := 31) h dL_law_31 ?_
      generalize xs (5 * k + 0) &&& 31 = x at hS ⊢
      have kk : ∀ ux um : St, Rl (k + 1) ux um → VL K T b 926 [some (.inr 0), some (.inr 1), some (.inr 2), some (.inl (nI (5 * k)))] [] ux um := by
        intro ux um hR
        refine l_iinc (pc := 926) (v := nI (5 * (k + 1))) (L' := [some (.inr 0), some (.inr 1), some (.inr 2), some (.inl (nI (5 * (k + 1))))]) h dL_law_926 rfl (by rw [show (Int32.ofInt 5) = nI 5 from rfl, nI_add]; rfl) (by decide) rfl ?_
        refine l_goto (pc := 929) (tgt := 18) h dL_law_929 (by decide) ?_
        exact ih (k + 1) (by omega) (by omega) ux um hR
      obtain ⟨S0, S1, S2, S3, S4, S5, S6, S7, S8, S9, S10, S11, S12, S13, S14, S15, S16, S17, S18, S19, S20, S21, S22, S23, hz⟩ := hS
      by_cases h0 : x = 0
      · refine l_tIn (pc := 32) (tgt := 144) h dL_law_32 (by rw [h0]; decide) (by rw [h0]; decide) (by rw [h0]; rfl) (by decide) ?_
        exact law_case0 h hN' hk kk (S0 h0)
      by_cases h1 : x = 1
      · refine l_tIn (pc := 32) (tgt := 187) h dL_law_32 (by rw [h1]; decide) (by rw [h1]; decide) (by rw [h1]; rfl) (by decide) ?_
        exact law_case1 h hN' hk kk (S1 h1)
      by_cases h2 : x = 2
      · refine l_tIn (pc := 32) (tgt := 220) h dL_law_32 (by rw [h2]; decide) (by rw [h2]; decide) (by rw [h2]; rfl) (by decide) ?_
        exact law_case2 h hN' hk kk (S2 h2)
      by_cases h3 : x = 3
      · refine l_tIn (pc := 32) (tgt := 253) h dL_law_32 (by rw [h3]; decide) (by rw [h3]; decide) (by rw [h3]; rfl) (by decide) ?_
        exact law_case3 h hN' hk kk (S3 h3)
      by_cases h4 : x = 4
      · refine l_tIn (pc := 32) (tgt := 286) h dL_law_32 (by rw [h4]; decide) (by rw [h4]; decide) (by rw [h4]; rfl) (by decide) ?_
        exact law_case4 h hN' hk kk (S4 h4)
      by_cases h5 : x = 5
      · refine l_tIn (pc := 32) (tgt := 309) h dL_law_32 (by rw [h5]; decide) (by rw [h5]; decide) (by rw [h5]; rfl) (by decide) ?_
        exact law_case5 h hN' hk kk (S5 h5)
      by_cases h6 : x = 6
      · refine l_tIn (pc := 32) (tgt := 342) h dL_law_32 (by rw [h6]; decide) (by rw [h6]; decide) (by rw [h6]; rfl) (by decide) ?_
        exact law_case6 h hN' hk kk (S6 h6)
      by_cases h7 : x = 7
      · refine l_tIn (pc := 32) (tgt := 365) h dL_law_32 (by rw [h7]; decide) (by rw [h7]; decide) (by rw [h7]; rfl) (by decide) ?_
        exact law_case7 h hN' hk kk (S7 h7)
      by_cases h8 : x = 8
      · refine l_tIn (pc := 32) (tgt := 408) h dL_law_32 (by rw [h8]; decide) (by rw [h8]; decide) (by rw [h8]; rfl) (by decide) ?_
        exact law_case8 h hN' hk kk (S8 h8)
      by_cases h9 : x = 9
      · refine l_tIn (pc := 32) (tgt := 461) h dL_law_32 (by rw [h9]; decide) (by rw [h9]; decide) (by rw [h9]; rfl) (by decide) ?_
        exact law_case9 h hN' hk kk (S9 h9)
      by_cases h10 : x = 10
      · refine l_tIn (pc := 32) (tgt := 514) h dL_law_32 (by rw [h10]; decide) (by rw [h10]; decide) (by rw [h10]; rfl) (by decide) ?_
        exact law_case10 h hN' hk kk (S10 h10)
      by_cases h11 : x = 11
      · refine l_tIn (pc := 32) (tgt := 567) h dL_law_32 (by rw [h11]; decide) (by rw [h11]; decide) (by rw [h11]; rfl) (by decide) ?_
        exact law_case11 h hN' hk kk (S11 h11)
      by_cases h12 : x = 12
      · refine l_tIn (pc := 32) (tgt := 620) h dL_law_32 (by rw [h12]; decide) (by rw [h12]; decide) (by rw [h12]; rfl) (by decide) ?_
        exact law_case12 h hN' hk kk (S12 h12)
      by_cases h13 : x = 13
      · refine l_tIn (pc := 32) (tgt := 633) h dL_law_32 (by rw [h13]; decide) (by rw [h13]; decide) (by rw [h13]; rfl) (by decide) ?_
        exact law_case13 h hN' hk kk (S13 h13)
      by_cases h14 : x = 14
      · refine l_tIn (pc := 32) (tgt := 676) h dL_law_32 (by rw [h14]; decide) (by rw [h14]; decide) (by rw [h14]; rfl) (by decide) ?_
        exact law_case14 h hN' hk kk (S14 h14)
      by_cases h15 : x = 15
      · refine l_tIn (pc := 32) (tgt := 699) h dL_law_32 (by rw [h15]; decide) (by rw [h15]; decide) (by rw [h15]; rfl) (by decide) ?_
        exact law_case15 h hN' hk kk (S15 h15)
      by_cases h16 : x = 16
      · refine l_tIn (pc := 32) (tgt := 712) h dL_law_32 (by rw [h16]; decide) (by rw [h16]; decide) (by rw [h16]; rfl) (by decide) ?_
        exact law_case16 h hN' hk kk (S16 h16)
      by_cases h17 : x = 17
      · refine l_tIn (pc := 32) (tgt := 735) h dL_law_32 (by rw [h17]; decide) (by rw [h17]; decide) (by rw [h17]; rfl) (by decide) ?_
        exact law_case17 h hN' hk kk (S17 h17)
      by_cases h18 : x = 18
      · refine l_tIn (pc := 32) (tgt := 758) h dL_law_32 (by rw [h18]; decide) (by rw [h18]; decide) (by rw [h18]; rfl) (by decide) ?_
        exact law_case18 h hN' hk kk (S18 h18)
      by_cases h19 : x = 19
      · refine l_tIn (pc := 32) (tgt := 781) h dL_law_32 (by rw [h19]; decide) (by rw [h19]; decide) (by rw [h19]; rfl) (by decide) ?_
        exact law_case19 h hN' hk kk (S19 h19)
      by_cases h20 : x = 20
      · refine l_tIn (pc := 32) (tgt := 814) h dL_law_32 (by rw [h20]; decide) (by rw [h20]; decide) (by rw [h20]; rfl) (by decide) ?_
        exact law_case20 h hN' hk kk (S20 h20)
      by_cases h21 : x = 21
      · refine l_tIn (pc := 32) (tgt := 837) h dL_law_32 (by rw [h21]; decide) (by rw [h21]; decide) (by rw [h21]; rfl) (by decide) ?_
        exact law_case21 h hN' hk kk (S21 h21)
      by_cases h22 : x = 22
      · refine l_tIn (pc := 32) (tgt := 880) h dL_law_32 (by rw [h22]; decide) (by rw [h22]; decide) (by rw [h22]; rfl) (by decide) ?_
        exact law_case22 h hN' hk kk (S22 h22)
      by_cases h23 : x = 23
      · refine l_tIn (pc := 32) (tgt := 903) h dL_law_32 (by rw [h23]; decide) (by rw [h23]; decide) (by rw [h23]; rfl) (by decide) ?_
        exact law_case23 h hN' hk kk (S23 h23)
      refine l_tOut (pc := 32) (tgt := 926) h dL_law_32 (sw_law h0 h1 h2 h3 h4 h5 h6 h7 h8 h9 h10 h11 h12 h13 h14 h15 h16 h17 h18 h19 h20 h21 h22 h23) (by decide) ?_
      exact kk ux um (hz h0 h1 h2 h3 h4 h5 h6 h7 h8 h9 h10 h11 h12 h13 h14 h15 h16 h17 h18 h19 h20 h21 h22 h23)
set_option maxRecDepth 100000 in
set_option maxHeartbeats 4000000 in
/-- THE LAW, from its entry, if the pure runs keep step -/
theorem whole_of (Rl : Nat → St → St → Prop) (h0 : Rl 0 s0X s0M) (hstep : ∀ k : Nat, 5 * k + 5 ≤ 2560 → ∀ ux um : St, Rl k ux um → ∀ o b c d e : Int32, LStp (Rl (k + 1)) (o &&& 31) b c d e ux um) {p : Program} {e : Env} {s : State} {m : MethodId} {below : List Frame} {meth : Method} {c : Code} (l : Launch) {b L : Nat} {xs : Nat → Int32} (hL : L ≤ 2560) (C0 : lw_At p s m meth c b L xs) : W p l e room_1 s m #[Value.ref b] below meth c s.heap [] 0 0 (lw_Z below #[Value.ref b] s) (entryFrame m ([Value.ref b] : List Value).toArray 4) := by
  obtain ⟨hx, hb, hr, hml, hown, hts0, hX, hbl, hlocks, hgv⟩ := id C0
  have hts : ∀ w ∈ gtbl, w.before #[Value.ref b] s = true := fun w h => hts0 w (List.mem_filter.mp h).1
  have hn : ∀ w ∈ nst, va_Nw w s := fun w h => va_Nw.of (nst_in w h).2 (hts0 w (nst_in w h).1)
  have hA : ∀ q : Nat, s.heap.size ≤ q → (fun q : Nat => s.heap.size ≤ q) q := fun _ h => h
  obtain ⟨c0, i0, hKn0⟩ := u_known (C := RX0) (T := TX0) (N := 3) (n := 3) hts wa_X0 (hts _ wt_X0)
  obtain ⟨c1, i1, hKn1⟩ := u_known (C := RX1) (T := TX1) (N := 18) (n := 18) hts wa_X1 (hts _ wt_X1)
  obtain ⟨c2, i2, hKn2⟩ := u_known (C := RX2) (T := TX2) (N := 3) (n := 3) hts wa_X2 (hts _ wt_X2)
  obtain ⟨c3, i3, hKn3⟩ := u_known (C := RX3) (T := TX3) (N := 7) (n := 7) hts wa_X3 (hts _ wt_X3)
  obtain ⟨c4, i4, hKn4⟩ := u_known (C := RX4) (T := TX4) (N := 6) (n := 6) hts wa_X4 (hts _ wt_X4)
  obtain ⟨c5, i5, hKn5⟩ := u_known (C := RX5) (T := TX5) (N := 3) (n := 3) hts wa_X5 (hts _ wt_X5)
  obtain ⟨c6, i6, hKn6⟩ := u_known (C := RX6) (T := TX6) (N := 10) (n := 10) hts wa_X6 (hts _ wt_X6)
  obtain ⟨c7, i7, hKn7⟩ := u_known (C := RX7) (T := TX7) (N := 37) (n := 37) hts wa_X7 (hts _ wt_X7)
  obtain ⟨dC, dI, hKc⟩ : ∃ (dC : Nat → ClassId) (dI : Nat → Nat → Nat), ∀ (k : Nat) (q : vw_C), vwCl[k]? = some q → u_Kn s q.1 q.2.1 q.2.2 (dC k) (dI k) := by
    refine ⟨fun k => match k with | 0 => c0 | 1 => c1 | 2 => c2 | 3 => c3 | 4 => c4 | 5 => c5 | 6 => c6 | 7 => c7 | _ => c0, fun k => match k with | 0 => i0 | 1 => i1 | 2 => i2 | 3 => i3 | 4 => i4 | 5 => i5 | 6 => i6 | 7 => i7 | _ => i0, ?_⟩
    intro k q hq
    match k, hq with
    | 0, hq => cases hq; exact hKn0
    | 1, hq => cases hq; exact hKn1
    | 2, hq => cases hq; exact hKn2
    | 3, hq => cases hq; exact hKn3
    | 4, hq => cases hq; exact hKn4
    | 5, hq => cases hq; exact hKn5
    | 6, hq => cases hq; exact hKn6
    | 7, hq => cases hq; exact hKn7
    | k + 8, hq => simp [vwCl] at hq
  have hS : va_S (fun q : Nat => s.heap.size ≤ q) s.heap s.heap [] := va_S.rf
  have hK : va_K (dC, dI) vwCl [] s := ⟨hKc, fun k q h => by simp at h⟩
  have hP : va_P (dC, dI) vwCl [] s.heap := fun k q h => by simp at h
  have hD : va_D (fun q : Nat => s.heap.size ≤ q) [] := ⟨fun i j p q h => by simp at h, fun k q h => by simp at h⟩
  have hl := lv_entry ([.ref b]) (n := 4) (Nat.le_of_ble_eq_true rfl)
  rw [lg_entry_eq]
  generalize (lg_sl ([.ref b]) ++ List.replicate (4 - (lg_sl ([.ref b])).length) Slot.unset).toArray = ls at hl ⊢
  have hl : lv_has ls 4 [(0, .ref b)] := hl
  refine va_new (ci := 6) (fs := (.null :: .null :: .null :: .null :: .null :: .null :: .null :: .null :: .int 0 :: .int 0 :: [])) (C := RX6) (T := TX6) (N := 10) hx hb hts wa_X6 tyX6 tyX6_ok hown (hts _ wq_L_7) (hts _ wt_X6) (hts _ wi_X6) hK hP hD hS hA rfl (fun j hj => by rcases (show j = 0 ∨ j = 1 ∨ j = 2 ∨ j = 3 ∨ j = 4 ∨ j = 5 ∨ j = 6 ∨ j = 7 ∨ j = 8 ∨ j = 9 by omega) with rfl | rfl | rfl | rfl | rfl | rfl | rfl | rfl | rfl | rfl <;> rfl) (Nat.le_of_ble_eq_true rfl) (Nat.le_of_ble_eq_true rfl) dL_law_0 (fun qx H hP hD hS => ?_)
  refine W.widen (k := 1) (n := 10) (Nat.le_of_ble_eq_true rfl) (Nat.le_of_ble_eq_true rfl) ?_
  refine lv_dup hx hb dL_law_3 rfl ?_
  have hPc := P_r (a := []) hP
  have hDc := D_r (a := []) hD
  have hKc := hK.sub (tys' := []) [] rfl
  have hFc := fr_r (a := []) hD hS hA
  refine va_callv (va_runI (As := []) (rest := [.ref qx]) ⟨hx, hb, hml, hown, hts⟩ (ci_X6 l dC dI qx H.size) (cwI 0 hts (good_in (fun w hw => by rcases List.mem_cons.mp hw with rfl | hw; exact wk_X6_init; exact hw)) rfl rfl rfl (hts _ wi_X6) (hts _ wm_L_9) (hts _ wn_X6_init) rfl ⟨by decide +kernel, by decide +kernel, by decide +kernel⟩ ⟨Nat.le_of_ble_eq_true rfl, Nat.le_of_ble_eq_true rfl⟩) ⟨fun a U g mk q => by obtain ⟨q0, q1, qP, qK, qD, qn⟩ := q; exact ⟨q0, q1, qP, va_K.moved (u := U) (U := U.calling g mk a) (Vm.Alike.refl U.vm) qK, qD, nst_same (s := U) (U := U.calling g mk a) rfl qn⟩, fun U hU hW => ⟨rfl, by rw [hU], by rw [hU]; exact hPc, va_K.moved hW.alike hKc, hDc.weaken (fun _ _ _ _ => trivial), nst_moves hW hn⟩⟩ rfl rfl hl.1 rfl (lv_room (Nat.le_of_ble_eq_true rfl)) dL_law_4 ⟨Nat.le_of_ble_eq_true rfl, Nat.le_of_ble_eq_true rfl⟩) hS (fun q _ h => hFc q h) hFc (fun vx t H1 locs ht hvm hw hB hz1 hk1 hS => ?_)
  obtain ⟨hP1, hK1, hD1⟩ := hB
  rw [ht] at hP1
  have hK1 := va_K.moved hvm.symm hK1
  obtain ⟨hP, hD⟩ := join_r (a := []) hP hD hk1 hFc hP1 hD1
  have hK := hK.app hK1
  generalize H1 = H at hP hS ⊢
  clear hP1 hD1 hK1 hk1 hz1 hFc hPc hDc hKc ht hvm
  have hwx : vx.1 0 = qx := hw
  clear hw
  refine W.widen (k := 31) (n := 910) (Nat.le_of_ble_eq_true rfl) (Nat.le_of_ble_eq_true rfl) ?_
  rw [List.nil_append] at hP hD hK
  refine lv_astore_n (lv' := [(1, .ref qx), (0, .ref b)]) hx hb dL_law_7 rfl hl (by decide) rfl (fun ls hl => ?_)
  refine va_new (ci := 7) (fs := (.int 0 :: .null :: .null :: .null :: .null :: .null :: .null :: .null :: .null :: .null :: .null :: .null :: .null :: .int 0 :: .int 0 :: .null :: .null :: .null :: .null :: .null :: .null :: .null :: .int 0 :: .int 0 :: .null :: .null :: .int 0 :: .int 0 :: .int 0 :: .null :: .int 0 :: .null :: .null :: .null :: .null :: .null :: .int 0 :: [])) (C := RX7) (T := TX7) (N := 37) hx hb hts wa_X7 tyX7 tyX7_ok hown (hts _ wq_L_10) (hts _ wt_X7) (hts _ wi_X7) hK hP hD hS hA rfl (fun j hj => by rcases (show j = 0 ∨ j = 1 ∨ j = 2 ∨ j = 3 ∨ j = 4 ∨ j = 5 ∨ j = 6 ∨ j = 7 ∨ j = 8 ∨ j = 9 ∨ j = 10 ∨ j = 11 ∨ j = 12 ∨ j = 13 ∨ j = 14 ∨ j = 15 ∨ j = 16 ∨ j = 17 ∨ j = 18 ∨ j = 19 ∨ j = 20 ∨ j = 21 ∨ j = 22 ∨ j = 23 ∨ j = 24 ∨ j = 25 ∨ j = 26 ∨ j = 27 ∨ j = 28 ∨ j = 29 ∨ j = 30 ∨ j = 31 ∨ j = 32 ∨ j = 33 ∨ j = 34 ∨ j = 35 ∨ j = 36 by omega) with rfl | rfl | rfl | rfl | rfl | rfl | rfl | rfl | rfl | rfl | rfl | rfl | rfl | rfl | rfl | rfl | rfl | rfl | rfl | rfl | rfl | rfl | rfl | rfl | rfl | rfl | rfl | rfl | rfl | rfl | rfl | rfl | rfl | rfl | rfl | rfl | rfl <;> rfl) (Nat.le_of_ble_eq_true rfl) (Nat.le_of_ble_eq_true rfl) dL_law_8 (fun qm H hP hD hS => ?_)
  refine W.widen (k := 32) (n := 947) (Nat.le_of_ble_eq_true rfl) (Nat.le_of_ble_eq_true rfl) ?_
  refine lv_dup hx hb dL_law_11 rfl ?_
  have hPc := P_r (a := (wld shX vx.1 vx.2 s0X)) hP
  have hDc := D_r (a := (wld shX vx.1 vx.2 s0X)) hD
  have hKc := hK.sub (tys' := []) [] rfl
  have hFc := fr_r (a := (wld shX vx.1 vx.2 s0X)) hD hS hA
  refine va_callv (va_runI (As := []) (rest := [.ref qm]) ⟨hx, hb, hml, hown, hts⟩ (ci_X7 l dC dI qm H.size) (cwI 0 hts (good_in (fun w hw => by rcases List.mem_cons.mp hw with rfl | hw; exact wk_X7_init; exact hw)) rfl rfl rfl (hts _ wi_X7) (hts _ wm_L_12) (hts _ wn_X7_init) rfl ⟨by decide +kernel, by decide +kernel, by decide +kernel⟩ ⟨Nat.le_of_ble_eq_true rfl, Nat.le_of_ble_eq_true rfl⟩) ⟨fun a U g mk q => by obtain ⟨q0, q1, qP, qK, qD⟩ := q; exact ⟨q0, q1, qP, va_K.moved (u := U) (U := U.calling g mk a) (Vm.Alike.refl U.vm) qK, qD⟩, fun U hU hW => ⟨rfl, by rw [hU], by rw [hU]; exact hPc, va_K.moved hW.alike hKc, hDc.weaken (fun _ _ _ _ => trivial)⟩⟩ rfl rfl hl.1 rfl (lv_room (Nat.le_of_ble_eq_true rfl)) dL_law_12 ⟨Nat.le_of_ble_eq_true rfl, Nat.le_of_ble_eq_true rfl⟩) hS (fun q _ h => hFc q h) hFc (fun vm t H1 locs ht hvm hw hB hz1 hk1 hS => ?_)
  obtain ⟨hP1, hK1, hD1⟩ := hB
  rw [ht] at hP1
  have hK1 := va_K.moved hvm.symm hK1
  obtain ⟨hP, hD⟩ := join_r (a := (wld shX vx.1 vx.2 s0X)) hP hD hk1 hFc hP1 hD1
  have hK := hK.app hK1
  generalize H1 = H at hP hS ⊢
  clear hP1 hD1 hK1 hk1 hz1 hFc hPc hDc hKc ht hvm
  have hwm : vm.1 0 = qm := hw
  refine W.widen (k := 59) (n := 1747) (Nat.le_of_ble_eq_true rfl) (Nat.le_of_ble_eq_true rfl) ?_
  refine lv_astore_n (lv' := [(2, .ref qm), (1, .ref qx), (0, .ref b)]) hx hb dL_law_15 rfl hl (by decide) rfl (fun ls hl => ?_)
  refine lv_iconst (v := 0) hx hb dL_law_16 (by decide) ?_
  refine lv_istore_n (lv' := [(3, .int 0), (2, .ref qm), (1, .ref qx), (0, .ref b)]) hx hb dL_law_17 rfl hl (by decide) rfl (fun ls hl => ?_)
  have hO : OkL (p, l, e, room_1, s, m, #[Value.ref b], below, meth, c, lw_Z below #[Value.ref b] s) (dC, dI, vx.1, vx.2, vm.1, vm.2) b L xs := ⟨hx, hb, hml, hown, hts, hn, hK, hX, hbl, rfl, rfl, rfl, hr, hlocks⟩
  refine law_loop hO hL Rl (fun k hk => hstep k (by omega)) (L + 6) 0 (by omega) (by omega) s0X s0M h0 H _ ls hP hD hS ⟨hl.1, hl.2.1, fun i v hv => ?_⟩
  match i, hv with
  | 0, hv => cases hv; exact lv_at hl 3 rfl
  | 1, hv => cases hv; exact (lv_at hl 2 rfl).trans (by rw [← hwx]; rfl)
  | 2, hv => cases hv; exact (lv_at hl 1 rfl).trans (by rw [← hwm]; rfl)
  | 3, hv => cases hv; exact lv_at hl 0 rfl
  | i + 4, hv => simp at hv
