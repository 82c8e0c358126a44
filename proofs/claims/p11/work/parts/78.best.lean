/-! ===== best, fits ===== -/
theorem PX.up {u um : St} {za zb : Nat} {pa pb : Nat → Nat} (hp : PX u um za zb pa pb) {j : Nat} (x : Int32) (hj : 14 ≤ j) : PX (up2 u 7 j x) um za zb pa pb := by
  have a2 : ¬ 2 = j := by omega
  have a3 : ¬ 3 = j := by omega
  have a4 : ¬ 4 = j := by omega
  have a5 : ¬ 5 = j := by omega
  have a6 : ¬ 6 = j := by omega
  unfold PX PA PB at hp ⊢
  simpa [up2, upd, a2, a3, a4, a5, a6] using hp
/-- the best until now, on both sides -/
def BST (u w : St) (best : Int32) : Prop := ∃ bb, bb < 256 ∧ w 0 28 = nI bb ∧ u 7 16 = nI bb ∧ ((u 7 17 = 1000000 ∧ best = -1 ∧ bb = 0) ∨ ∃ s, s ≤ 1000 ∧ u 7 17 = nI s ∧ best = nI s)
theorem bc_pos0 : ∀ v, v < 256 → ((f_J6_bitCount u00 (nI v)).any (fun q => decide (0 ≤ q))) = true := by decide +kernel
theorem bc_pos (u : St) {v : Nat} (hv : v < 256) : ∃ q, f_J6_bitCount u (nI v) = some q ∧ 0 ≤ q := by
  have h := bc_pos0 v hv
  have e : f_J6_bitCount u (nI v) = f_J6_bitCount u00 (nI v) := rfl
  rw [e]
  cases c : f_J6_bitCount u00 (nI v) with
  | none => rw [c] at h; simp at h
  | some q => rw [c] at h; exact ⟨q, rfl, by simpa using h⟩
theorem bc_0 (u : St) : f_J6_bitCount u (nI 0) = some 0 := by
  have e : f_J6_bitCount u (nI 0) = f_J6_bitCount u00 (nI 0) := rfl
  rw [e]; decide +kernel
theorem best_step {u w : St} {best : Int32} {i : Nat} (hb : BST u w best) (hi : i < 256) {q r : Int32} (hq : (q = 1000000 ∧ r = -1) ∨ ∃ s, s ≤ 1000 ∧ q = nI s ∧ r = nI s) (k11 : St → Int32 → Int32 → Int32 → Int32 → Int32 → Option (Int32 × St)) (l1 l2 l3 : Int32) : ∃ u' w' best', f_X1_keepIfBetter u (nI i) q = some u' ∧ f_X7_bestOf_48 k11 w l1 l2 l3 best (nI i) r = k11 w' l1 l2 l3 best' (nI (i + 1)) ∧ BST u' w' best' ∧ (u' = u ∨ u' = up2 (up2 u 7 16 (nI i)) 7 17 q) ∧ (w' = w ∨ w' = up2 w 0 28 (nI i)) := by
  obtain ⟨bb, hbb, h28, h16, hs⟩ := id hb
  have upd1 : ∀ s, s ≤ 1000 → q = nI s → r = nI s → BST (up2 (up2 u 7 16 (nI i)) 7 17 q) (up2 w 0 28 (nI i)) r := fun s h1 h2 h3 => ⟨i, hi, by simp [up2, upd], by simp [up2, upd], Or.inr ⟨s, h1, by simp [up2, upd, h2], h3⟩⟩
  obtain ⟨z1, ez1, pz1⟩ := bc_pos u hi
  unfold f_X1_keepIfBetter f_X7_bestOf_48
  rw [nI_1, h16, h28]
  rcases hq with ⟨rfl, rfl⟩ | ⟨s, hs1, rfl, rfl⟩
  · refine ⟨u, w, best, ?_, by rw [if_pos (by decide)], hb, Or.inl rfl, Or.inl rfl⟩
    rcases hs with ⟨h17, -, rfl⟩ | ⟨t, ht, h17, -⟩
    · rw [h17, if_neg (by decide), if_pos rfl, ez1, Option.bind_some, bc_0, Option.bind_some, if_pos pz1]
    · rw [h17, if_neg, if_neg]
      · intro e
        have := (nI_eq (a := 1000000) (by decide) (by omega)).mp e
        omega
      · exact nI_nlt (a := 1000000) (by omega) (by decide)
  · have hp : ¬ nI s < 0 := nI_pos (by omega)
    rw [if_neg hp]
    rcases hs with ⟨h17, rfl, rfl⟩ | ⟨t, ht, h17, rfl⟩
    · refine ⟨_, _, _, ?_, by rw [if_pos (by decide)], upd1 s hs1 rfl rfl, Or.inr rfl, Or.inr rfl⟩
      rw [h17, if_pos (show nI s < 1000000 from nI_lt (b := 1000000) (by omega) (by decide))]
    · rw [h17, if_neg (show ¬ nI t < 0 from nI_pos (by omega))]
      by_cases c1 : nI s < nI t
      · exact ⟨_, _, _, by rw [if_pos c1], by rw [if_pos c1], upd1 s hs1 rfl rfl, Or.inr rfl, Or.inr rfl⟩
      · rw [if_neg c1, if_neg c1]
        by_cases c2 : nI s = nI t
        · obtain ⟨z2, ez2, -⟩ := bc_pos u hbb
          rw [if_pos c2, if_pos c2, b_cnt w u hi, b_cnt w u hbb, ez1, ez2, Option.bind_some, Option.bind_some, Option.bind_some, Option.bind_some]
          by_cases c3 : z2 ≤ z1
          · exact ⟨_, _, _, by rw [if_pos c3], by rw [if_pos c3], hb, Or.inl rfl, Or.inl rfl⟩
          · exact ⟨_, _, _, by rw [if_neg c3], by rw [if_neg c3], upd1 s hs1 rfl rfl, Or.inr rfl, Or.inr rfl⟩
        · rw [if_neg c2, if_neg c2]
          exact ⟨_, _, _, rfl, rfl, hb, Or.inl rfl, Or.inl rfl⟩
theorem BST.hd {u u' w w' : St} {best : Int32} (h : BST u w best) (h1 : HD u u') (h2 : HT w w') : BST u' w' best := by
  unfold BST
  rw [h1.2 16 (by decide) (by decide), h1.2 17 (by decide) (by decide), h2.2 28 (by decide) (by decide)]
  exact h
theorem best_loop {um : St} {n a za b zb : Nat} {pa pb : Nat → Nat} (hn : n ≤ 32) (hv : VV um n) (ia : Inj pa za) (ib : Inj pb zb) {c : Nat} (hc : c ≤ 3) : ∀ (m i : Nat) (u w : St) (best : Int32), PX u um za zb pa pb → FrM um w → LM w a za n pa → LM w b zb n pb → BST u w best → 2 ^ zb < i + m → i ≤ 2 ^ zb → ∃ u' w' best', f_X1_findBest_20 m u (nI c) (um 0 13) (nI i) = some u' ∧ f_X7_bestOf_11 m w (nI a) (nI b) (nI c) best (nI i) = some (best', w') ∧ FrX u u' ∧ FrM w w' ∧ BST u' w' best' := by
  intro m
  induction m with
  | zero => intro i u w best _ _ _ _ _ h1 h2; omega
  | succ m ih =>
    intro i u w best hp hf la lb hb h1 h2
    obtain ⟨hl12, hz, h11, hj⟩ := id lb
    have hpw := pw_le hz
    rw [f_X1_findBest_20, f_X7_bestOf_11, hp.2.1, if_pos (inb_nI hl12 (by decide)), nI_clamp (show b < 2 ^ 31 by omega), h11, pw_nI zb (by omega)]
    by_cases hi : i = 2 ^ zb
    · subst hi
      rw [if_pos (Int32.le_refl _), if_pos (Int32.le_refl _)]
      exact ⟨u, w, best, rfl, rfl, FrX.rf u, FrM.rf w, hb⟩
    · have hlt : i < 2 ^ zb := by omega
      rw [if_neg (nI_ge hlt (by omega)), if_neg (nI_ge hlt (by omega))]
      obtain ⟨r, r1, r2⟩ := x_may hp la.2.1 lb.2.1 (show i < 256 by omega) (um 0 13)
      obtain ⟨s, s1, s2⟩ := m_all hf hn hv la lb (show i < 256 by omega)
      have hrs := r2.eq s2
      subst hrs
      rw [r1, s1, Option.bind_some, Option.bind_some]
      rcases r2 with ⟨rfl, -⟩ | ⟨rfl, -⟩
      · obtain ⟨u2, w2, q, r, i1, i2, i3, i4, i5, i6⟩ := sec_both hp hf hn hv la lb ia ib (show i < 256 by omega) hc
        rw [if_neg (by decide), if_neg (by decide), i1, Option.bind_some, i4, Option.bind_some, i5, Option.bind_some]
        obtain ⟨u3, w3, best3, k1, k2, k3, k4, k5⟩ := best_step (hb.hd i2 i3) (show i < 256 by omega) i6 (f_X7_bestOf_11 m) (nI a) (nI b) (nI c)
        rw [k1, k2, Option.bind_some, nI_1]
        have hp3 : PX u3 um za zb pa pb := by
          rcases k4 with rfl | rfl
          · exact hp.hd i2
          · exact ((hp.hd i2).up _ (by omega)).up _ (by omega)
        have fx : FrX u u3 := by
          rcases k4 with rfl | rfl
          · exact i2.fr
          · exact i2.fr.tr ((FrX.up _ _ (by omega)).tr (FrX.up _ _ (by omega)))
        have fm : FrM w w3 := by
          rcases k5 with rfl | rfl
          · exact i3.fr
          · exact i3.fr.tr (FrM.up0 _ (by omega))
        obtain ⟨u', w', best', g1, g2, g3, g4, g5⟩ := ih (i + 1) u3 w3 best3 hp3 (hf.tr fm) (la.fr fm) (lb.fr fm) k3 (by omega) (by omega)
        exact ⟨u', w', best', g1, g2, fx.tr g3, fm.tr g4, g5⟩
      · rw [if_pos rfl, if_pos rfl]
        unfold f_X7_bestOf_48
        rw [if_pos (by decide), nI_1]
        exact ih (i + 1) u w best hp hf la lb hb (by omega) (by omega)
theorem best_both {ux um : St} (h : R ux um) {ka kb c : Nat} (hka : ka < 12) (hkb : kb < 12) (hc : c ≤ 3) : ∃ u' w' best, f_X1_findBest ux (nI ka) (nI kb) (nI c) (ux 0 9) = some u' ∧ f_X7_bestOf um (nI ka) (nI kb) (nI c) = some (best, w') ∧ FrX ux u' ∧ FrM um w' ∧ BST u' w' best := by
  obtain ⟨n, hn0, hcx, hv, hL⟩ := h.pic
  obtain ⟨za, pa, xa, ma, ia⟩ := hL ka hka
  obtain ⟨zb, pb, xb, mb, ib⟩ := hL kb hkb
  have hpw := pw_le xb.2.1
  obtain ⟨u', g1, g2, g3⟩ := x_prepare hcx hv xa xb ib
  have f0 : FrM um (up2 um 0 28 0) := FrM.up0 _ (by omega)
  obtain ⟨u2, w2, best, e1, e2, e3, e4, e5⟩ := best_loop (a := ka) (b := kb) hcx.1 hv ia ib hc FU 0 (up2 (up2 u' 7 16 0) 7 17 1000000) (up2 um 0 28 0) (-1) ((g3.up _ (by omega)).up _ (by omega)) f0 (ma.fr f0) (mb.fr f0) ⟨0, by omega, by simp [up2, upd]; rfl, by simp [up2, upd]; rfl, Or.inl ⟨by simp [up2, upd], rfl, rfl⟩⟩ (by have := FU_ge (z := 2 ^ zb) (by omega); omega) (Nat.zero_le _)
  refine ⟨u2, w2, best, ?_, e2, (g2.tr ((FrX.up _ _ (by omega)).tr (FrX.up _ _ (by omega)))).tr e3, f0.tr e4, e5⟩
  unfold f_X1_findBest
  rw [g1, Option.bind_some, h.lim]
  exact e1
theorem al_best {ux um : St} (h : R ux um) (a b x w : Int32) : Both (f_X6_best ux a b x w) (f_X7_best um a b x w) := by
  cases ha : win a 0 11
  · exact bf1 h (by simp [f_X6_best, f_X6_isChange, e_X2has, ha, e_x1]) (by simp [f_X7_best, e_isLook, ha, e_m1])
  cases hb : win b 0 11
  · exact bf1 h (by simp [f_X6_best, f_X6_isChange, e_X2has, ha, hb, e_x1]) (by simp [f_X7_best, e_isLook, ha, hb, e_m1])
  obtain ⟨ka, hka, rfl⟩ := (win_nI (n := 11) (by decide) 11 rfl).mp ha
  obtain ⟨kb, hkb, rfl⟩ := (win_nI (n := 11) (by decide) 11 rfl).mp hb
  have ec : f_X6_isChange ux (nI ka) (nI kb) 0 = some 1 := by
    obtain ⟨n, hn0, hcx, hv, hL⟩ := h.pic
    obtain ⟨zb, pb, xb, mb, ib⟩ := hL kb (by omega)
    rcases x_bits xb 0 with ⟨e, -⟩ | ⟨e, q⟩
    · unfold f_X6_isChange
      rw [e_X2has, e_X2has, ha, hb, e]
      simp
    · exact absurd ⟨0, Nat.two_pow_pos zb, rfl⟩ q
  cases hx : win x 0 3
  · exact bf1 h (by simp [f_X6_best, ec, e_isWithin, hx, e_x1]) (by simp [f_X7_best, e_isLook, ha, hb, e_isIn, hx, e_m1])
  cases hw : win w 0 1
  · exact bf1 h (by simp [f_X6_best, ec, e_isWithin, hx, hw, e_x1]) (by simp [f_X7_best, e_isLook, ha, hb, e_isIn, hx, hw, e_m1])
  obtain ⟨c, hc, rfl⟩ := (win_nI (n := 3) (by decide) 3 rfl).mp hx
  obtain ⟨u', w', best, e1, e2, f1, f2, bb, hbb, h28, h16, hs⟩ := best_both h (show ka < 12 by omega) (show kb < 12 by omega) hc
  have hR : R u' w' := h.fr f1 f2
  rcases hs with ⟨h17, rfl, -⟩ | ⟨s, hs1, h17, rfl⟩
  · exact bf2 hR (by simp [f_X6_best, ec, e_isWithin, hx, hw, e1, h17, e_x2]) (by simp [f_X7_best, e_isLook, ha, hb, e_isIn, hx, hw, e2, show ¬ (0 : Int32) ≤ -1 by decide, e_m2])
  · have hne : ¬ nI s = 1000000 := fun q => by have := (nI_eq (b := 1000000) (by omega) (by decide)).mp q; omega
    have hpos : (0 : Int32) ≤ nI s := nI_pos' (by omega)
    by_cases w0 : w = 0
    · exact ⟨(nI bb, u'), (nI bb, w'), by simp [f_X6_best, ec, e_isWithin, hx, hw, e1, h17, hne, w0, h16, show win 0 0 1 = true by decide], by simp [f_X7_best, e_isLook, ha, hb, e_isIn, hx, hw, e2, hpos, w0, h28, show win 0 0 1 = true by decide], rfl, hR⟩
    · exact ⟨(nI s, u'), (nI s, w'), by simp [f_X6_best, ec, e_isWithin, hx, hw, e1, h17, hne, w0], by simp [f_X7_best, e_isLook, ha, hb, e_isIn, hx, hw, e2, hpos, w0], rfl, hR⟩
theorem al_fits {ux um : St} (h : R ux um) (s : Int32) : Both (f_X6_fits ux s) (f_X7_fits um s) := by
  obtain ⟨hP, hL, ⟨k, hk, k1, k2, hs⟩, hW, h9, h22, h8, h23, hSv, hSl, hSc, hSh⟩ := id h
  by_cases h1 : s < 0
  · exact bf1 h (by simp [f_X6_fits, f_X4_has, h1, e_x1]) (by simp [f_X7_fits, h1, e_m1])
  obtain ⟨i, hi, rfl⟩ := nI_of h1
  by_cases h2 : k ≤ i
  · have c1 : nI k ≤ nI i := nI_le h2 hi
    have c2 : ¬ nI i < nI k := nI_nlt h2 hi
    exact bf1 h (by simp [f_X6_fits, f_X4_has, h1, k1, c1, e_x1]) (by simp [f_X7_fits, h1, k2, c2, e_m1])
  · have hik : i < k := by omega
    have c1 : ¬ nI k ≤ nI i := nI_ge hik (by omega)
    have c2 : nI i < nI k := nI_lt hik (by omega)
    have c3 : ¬ (12 : Int32) ≤ nI i := nI_ge (b := 12) (show i < 12 by omega) (by omega)
    have i1 := inb_nI (show i < 12 by omega) (show 12 < 2 ^ 31 by decide)
    have i2 := nI_clamp (show i < 2 ^ 31 by omega)
    obtain ⟨b1, b2, b3, b4, b5, b6, ⟨ka, hka, ea⟩, ⟨kb, hkb, eb⟩, ⟨kd, hkd, ed⟩, ⟨c, hc, ec⟩⟩ := hs i hik
    obtain ⟨f, t, hft, ht, ef, et⟩ := hSh i (by rw [k2, nI_clamp (by omega)]; exact hik)
    obtain ⟨u', w', best, e1, e2, f1, f2, bb, hbb, h28, h16, hbs⟩ := best_both h hka hkb hc
    have hR : R u' w' := h.fr f1 f2
    have e' : f_X4_has ux (nI i) = some 1 := by unfold f_X4_has; rw [k1, if_neg h1, if_neg c1, if_neg c3]
    have e'' : f_X4_has u' (nI i) = some 1 := by unfold f_X4_has; rw [f1 15 (by omega), k1, if_neg h1, if_neg c1, if_neg c3]
    have l1 : f_X4_lookBefore ux (nI i) = some (nI ka) := by simp [f_X4_lookBefore, e', i1, i2, f_X6_beforeIn, b1, ea]
    have l2 : f_X4_lookAfter ux (nI i) = some (nI kb) := by simp [f_X4_lookAfter, e', i1, i2, f_X6_afterIn, b2, eb]
    have l3 : f_X4_handsOf ux (nI i) = some (nI c) := by simp [f_X4_handsOf, e', i1, i2, b6, ec]
    have l4 : f_X4_lengthOf u' (nI i) = some (nI (t - f)) := by
      simp only [f_X4_lengthOf, e'', i1, i2, f1 18 (by omega), f1 17 (by omega), b4, b5, ef, et, Option.bind_some]
      rw [pk_sub (by omega)]
      simp
    have px : f_X6_fits ux (nI i) = if nI (t - f) < u' 7 17 then some (0, u') else some (1, u') := by
      simp only [f_X6_fits, e', l1, l2, l3, l4, e1, Option.bind_some]
      simp
    have pm : f_X7_fits um (nI i) = if best < 0 then some (0, w') else if nI (t - f) < best then some (0, w') else some (1, w') := by
      simp only [f_X7_fits, k2, i1, i2, ea, eb, ec, e2, Option.bind_some, f2.1 17 (by omega) (by omega), f2.1 16 (by omega) (by omega), ef, et]
      rw [if_neg h1, if_pos c2, pk_sub (by omega)]
      simp
    rcases hbs with ⟨h17, rfl, -⟩ | ⟨z, hz, h17, rfl⟩
    · exact ⟨(0, u'), (0, w'), by rw [px, h17, if_pos (show nI (t - f) < 1000000 from nI_lt (b := 1000000) (by omega) (by decide))], by rw [pm, if_pos (by decide)], rfl, hR⟩
    · rw [h17] at px
      rw [if_neg (show ¬ nI z < 0 from nI_pos (by omega))] at pm
      by_cases d : nI (t - f) < nI z
      · exact ⟨(0, u'), (0, w'), by rw [px, if_pos d], by rw [pm, if_pos d], rfl, hR⟩
      · exact ⟨(1, u'), (1, w'), by rw [px, if_neg d], by rw [pm, if_neg d], rfl, hR⟩
