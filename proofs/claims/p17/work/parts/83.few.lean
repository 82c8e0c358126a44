/-! ===== the class: the fewest ===== -/
theorem INVX.cong {u um : St} {k : Nat} {g : Nat → Nat → Nat} {f : Nat → Nat} {D : Nat → Prop} {rho rho' : Nat → Nat} (h : INVX u um k g f D rho) (e : ∀ x, x < 12 → rho x = rho' x) : INVX u um k g f D rho' := by
  obtain ⟨h1, h2, h3, h4, h5, h6⟩ := h
  exact ⟨h1, h2, h3, fun s hs => (h4 s hs).trans (e s hs), h5, h6⟩
theorem x_send0 {um : St} {k s z : Nat} (hs : s < 12) (hz : z ≤ 3) : ∀ (m i : Nat) (u : St) (g : Nat → Nat → Nat) (f : Nat → Nat) (D : Nat → Prop) (rho : Nat → Nat), INVX u um k g f D rho → rho s = i → z < i + m → i ≤ z → ∃ r u' g' f' D', f_X3_sendOn_14 m u (nI s) (nI i) (nI z) (nI i) = some (nI r, u') ∧ XR u u' ∧ INVX u' um k g' f' D' (fun x => if x = s then r else rho x) ∧ r ≤ z ∧ (r = z ∨ D' s) ∧ ∀ x, D x → D' x := by
  intro m
  induction m with
  | zero => intro i u g f D rho _ _ h1 h2; omega
  | succ m ih =>
    intro i u g f D rho hI hr h1 h2
    rw [f_X3_sendOn_14]
    have same : INVX u um k g f D (fun x => if x = s then i else rho x) := hI.cong (fun x hx => by
      by_cases c : x = s
      · rw [if_pos c, c, hr]
      · rw [if_neg c])
    by_cases hi : i = z
    · subst hi
      exact ⟨i, u, g, f, D, if_pos (Int32.le_refl _), XR.rf u, same, Nat.le_refl _, Or.inl rfl, fun x h => h⟩
    · rw [if_neg (nI_ge (show i < z by omega) (by omega))]
      rcases x_one hI hs with ⟨u', a1, a2, D', a3, a4, a5⟩ | ⟨t, u1, u2, g', f', ht, a1, a2, a3, a4⟩
      · rw [a1, Option.bind_some, if_neg (show ¬ (0 : Int32) ≤ -1 by decide)]
        exact ⟨i, u', g, f, D', rfl, a2, a5.cong (fun x hx => by
          by_cases c : x = s
          · rw [if_pos c, c, hr]
          · rw [if_neg c]), by omega, Or.inr a4, a3⟩
      · rw [a1, Option.bind_some, if_pos (nI_pos' (by omega)), a2, Option.bind_some, nI_1]
        obtain ⟨r, u', g2, f2, D', b1, b2, b3, b4, b5, b6⟩ := ih (i + 1) u2 g' f' D _ a4 (by rw [if_pos rfl, hr]) (by omega) (by omega)
        exact ⟨r, u', g2, f2, D', b1, a3.tr b2, b3.cong (fun x hx => by
          by_cases c : x = s
          · rw [if_pos c, if_pos c]
          · rw [if_neg c, if_neg c, if_neg c, Nat.add_zero]), b4, b5, b6⟩
theorem x_few49 {um : St} {k : Nat} : ∀ (m i : Nat) (u : St) (g : Nat → Nat → Nat) (f : Nat → Nat) (D : Nat → Prop) (rho : Nat → Nat), INVX u um k g f D rho → (∀ x, i ≤ x → x < 12 → rho x = 0) → (∀ x, x < i → rho x = hdn um k x ∨ D x) → (∀ x, x < 12 → rho x ≤ hdn um k x) → 12 < i + m → i ≤ 12 → ∃ u' g' f' D' rho', f_X3_fewest_49 m u (nI (sm (hdn um k) 12 - sm rho 12)) (nI i) = some (nI (sm (hdn um k) 12 - sm rho' 12), u') ∧ XR u u' ∧ INVX u' um k g' f' D' rho' ∧ (∀ x, x < 12 → rho' x = hdn um k x ∨ D' x) ∧ ∀ x, x < 12 → rho' x ≤ hdn um k x := by
  intro m
  induction m with
  | zero => intro i u g f D rho _ _ _ _ h1 h2; omega
  | succ m ih =>
    intro i u g f D rho hI h0 hd hle h1 h2
    rw [f_X3_fewest_49]
    by_cases hi : i = 12
    · subst hi
      rw [if_pos (show (12 : Int32) ≤ nI 12 by decide)]
      exact ⟨u, g, f, D, rho, rfl, XR.rf u, hI, hd, hle⟩
    · have hi12 : i < 12 := by omega
      obtain ⟨e1, e2⟩ := x_hands hI.1 hi12
      obtain ⟨r, u', g', f', D', b1, b2, b3, b4, b5, b6⟩ := x_send0 hi12 e2 FU 0 u g f D rho hI (h0 i (Nat.le_refl _) hi12) (by have := FU_ge (z := 12) (by omega); omega) (Nat.zero_le _)
      have es : f_X3_sendOn u (nI i) = some (nI r, u') := by
        unfold f_X3_sendOn
        rw [e1, Option.bind_some]
        exact b1
      rw [if_neg (show ¬ (12 : Int32) ≤ nI i from nI_ge (b := 12) hi12 (by omega)), es, Option.bind_some, nI_1]
      have hle' : ∀ x, x < 12 → (if x = i then r else rho x) ≤ hdn um k x := fun x hx => by
        by_cases c : x = i
        · rw [if_pos c, c]; exact b4
        · rw [if_neg c]; exact hle x hx
      have c1 := sm_one (f := fun x => if x = i then r else rho x) (g := rho) (j := i) (n := 12) hi12 (fun p hp hne => if_neg hne)
      have c1' : sm (fun x => if x = i then r else rho x) 12 + rho i = sm rho 12 + r := by
        have := c1
        simpa using this
      rw [h0 i (Nat.le_refl _) hi12, Nat.add_zero] at c1'
      have c2 := sm_mono (f := fun x => if x = i then r else rho x) (g := hdn um k) (n := 12) hle'
      rw [pk_sub (show r ≤ sm (hdn um k) 12 - sm rho 12 by omega), show sm (hdn um k) 12 - sm rho 12 - r = sm (hdn um k) 12 - sm (fun x => if x = i then r else rho x) 12 by omega]
      obtain ⟨u2, g2, f2, D2, rho2, d1, d2, d3, d4, d5⟩ := ih (i + 1) u' g' f' D' (fun x => if x = i then r else rho x) b3 (fun x hx hx2 => by
        rw [if_neg (by omega)]
        exact h0 x (by omega) hx2) (fun x hx => by
        by_cases c : x = i
        · subst c
          rw [if_pos rfl]
          exact b5
        · rw [if_neg c]
          exact (hd x (by omega)).imp id (b6 x)) hle' (by omega) (by omega)
      exact ⟨u2, g2, f2, D2, rho2, d1, b2.tr d2, d3, d4, d5⟩
theorem x_few12 {um : St} {k : Nat} : ∀ (m i : Nat) (u : St), GX u um k → (∀ j, j < 144 → u 23 j = 0) → (∀ j, j < i → u 22 j = nI (hdn um k j)) → 12 < i + m → i ≤ 12 → ∃ u' g' f' D' rho', f_X3_fewest_12 m u (nI (sm (hdn um k) i)) (nI i) = some (nI (sm (hdn um k) 12 - sm rho' 12), u') ∧ XR u u' ∧ INVX u' um k g' f' D' rho' ∧ (∀ x, x < 12 → rho' x = hdn um k x ∨ D' x) ∧ ∀ x, x < 12 → rho' x ≤ hdn um k x := by
  intro m
  induction m with
  | zero => intro i u _ _ _ h1 h2; omega
  | succ m ih =>
    intro i u hG h23 h22 h1 h2
    rw [f_X3_fewest_12]
    by_cases hi : i = 12
    · subst hi
      rw [if_pos (show (12 : Int32) ≤ nI 12 by decide)]
      have z0 : ∀ n, sm (fun _ => 0) n = 0 := fun n => sm_zero (fun _ _ => rfl)
      have := x_few49 (um := um) (k := k) FU 0 u (fun _ _ => 0) (hdn um k) (fun _ => False) (fun _ => 0) ⟨hG, ⟨fun s t hs ht => h23 _ (by omega), h22⟩, fun s t hs ht w => absurd w (Nat.lt_irrefl 0), fun s hs => z0 12, fun t ht => by rw [z0, Nat.zero_add], fun s hs d => d.elim⟩ (fun _ _ _ => rfl) (fun x hx => by omega) (fun x hx => Nat.zero_le _) (by have := FU_ge (z := 12) (by omega); omega) (Nat.zero_le _)
      rw [z0, Nat.sub_zero] at this
      exact this
    · have hi12 : i < 12 := by omega
      obtain ⟨e1, e2⟩ := x_hands hG hi12
      rw [if_neg (show ¬ (12 : Int32) ≤ nI i from nI_ge (b := 12) hi12 (by omega)), e1, Option.bind_some, if_pos (inb_nI hi12 (by decide)), nI_1, nI_clamp (by omega), show upd (u 22) i (nI (hdn um k i)) i = nI (hdn um k i) by simp [upd], nI_add]
      have xr : XR u (up2 u 22 i (nI (hdn um k i))) := XR.up _ _ (by omega)
      obtain ⟨u', g', f', D', rho', a1, a2, a3⟩ := ih (i + 1) (up2 u 22 i (nI (hdn um k i))) (hG.fr xr) (by simpa [up2] using h23) (fun j hj => by
        by_cases c : j = i
        · subst c; simp [up2, upd]
        · simpa [up2, upd, c] using h22 j (by omega)) (by omega) (by omega)
      exact ⟨u', g', f', D', rho', a1, xr.tr a2, a3⟩
/-- the answer, with its witnesses -/
def RES (um : St) (k : Nat) (fr : St → Prop) (f : Option (Int32 × St)) : Prop := ∃ u' m, f = some (nI (sm (hdn um k) 12 - m), u') ∧ fr u' ∧ (∀ D : Nat → Prop, m ≤ cutv (Eg um k) (hdn um k) D) ∧ ∃ D : Nat → Prop, cutv (Eg um k) (hdn um k) D ≤ m
theorem x_dressers {u um : St} {k : Nat} (hG : GX u um k) : RES um k (FrX u) (f_X6_dressers u) := by
  unfold f_X6_dressers f_X3_fewest
  obtain ⟨u1, a1, a2, a3⟩ : ∃ u', f_J7_fill_23 u 0 = some u' ∧ (∀ k, k ≠ 23 → u' k = u k) ∧ ∀ j, j < 144 → u' 23 j = 0 := x_fill23 0 FU 0 u (fun j hj => by omega) (by have := FU_ge (z := 144) (by omega); omega) (by omega)
  have xr : XR u u1 := fun k hk => a2 k (by omega)
  obtain ⟨u', g, f, D, rho, b1, b2, ⟨i1, i2, i3, i4, i5, i6⟩, b4, b5⟩ := x_few12 (um := um) (k := k) FU 0 u1 (hG.fr xr) a3 (fun j hj => by omega) (by have := FU_ge (z := 12) (by omega); omega) (Nat.zero_le _)
  have b1' : f_X3_fewest_12 FU u1 0 0 = some (nI (sm (hdn um k) 12 - sm rho 12), u') := b1
  rw [a1, Option.bind_some, b1', Option.bind_some]
  have er : sm (fun s => sm (g s) 12) 12 = sm rho 12 := sm_cong (fun s hs => i4 s hs)
  refine ⟨u', sm rho 12, rfl, (xr.tr b2).fr, fun D' => ?_, D, ?_⟩
  · rw [← er]
    exact flow_le_cut D' i3 (fun s hs => by rw [i4 s hs]; exact b5 s hs) (fun t ht => by have := i5 t ht; omega)
  · rw [← er]
    refine cut_le_flow D (fun s hs d => ?_) (fun t ht ⟨s, hs, d, hE⟩ => ?_)
    · rw [i4 s hs]
      exact (b4 s hs).resolve_right d
    · obtain ⟨c1, c2⟩ := i6 s hs d t ht hE
      exact ⟨by have := i5 t ht; omega, c2⟩
