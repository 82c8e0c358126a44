/-! ===== the class prepares a change ===== -/
def VV (um : St) (n : Nat) : Prop := ∀ p, p < n → V5 (um 3 p) (um 4 p) (um 5 p) (um 7 p) (um 8 p)
/-- it lies over one that b wants over it -/
def cross (um : St) (zb : Nat) (pa pb : Nat → Nat) (i k : Nat) : Prop := k < i ∧ um 2 (pa k) = um 2 (pa i) ∧ ∃ j j', j < j' ∧ j' < zb ∧ pb j = pa i ∧ pb j' = pa k
/-- comes off whatever lies beneath -/
def sure (um : St) (zb : Nat) (pa pb : Nat → Nat) (i : Nat) : Prop := (∀ j, j < zb → pb j ≠ pa i) ∨ ∃ k, cross um zb pa pb i k
/-- how thick all of a and those of b up to it are at its place -/
def pile (um : St) (za : Nat) (pa pb : Nat → Nat) (j : Nat) : Nat := ts um pa (pb j) za + ts um pb (pb j) j + tk um (pb j)
theorem x_under0 {u um : St} {zb : Nat} {pa pb : Nat → Nat} (hzb : zb ≤ 8) (hj : Inj pb zb) {i j : Nat} (hi : i < 8) (hjz : j < zb) (e8 : u 8 i = nI j) (ej : pb j = pa i) (hu : BP (u 10 i) (fun k => k < i ∧ um 2 (pa k) = um 2 (pa i))) (h8 : ∀ k, k < i → IX pb zb (pa k) (u 8 k)) : ∀ (m s : Nat), i < s + m → s ≤ i → (∀ k, k < s → ¬ cross um zb pa pb i k) → ∃ r, f_X1_isWantedUnder_2 u m (nI i) (nI s) = some r ∧ ((r = 0 ∧ ∀ k, ¬ cross um zb pa pb i k) ∨ (r = 1 ∧ ∃ k, cross um zb pa pb i k)) := by
  intro m
  induction m with
  | zero => intro s h1 h2; omega
  | succ m ih =>
    intro s h1 h2 h3
    rw [f_X1_isWantedUnder_2]
    by_cases hs : s = i
    · subst hs
      exact ⟨0, if_pos (Int32.le_refl _), Or.inl ⟨rfl, fun k w => h3 k w.1 w⟩⟩
    · have hlt : s < i := by omega
      rw [if_neg (nI_ge hlt (by omega)), if_pos (inb_nI hi (by decide)), if_pos (inb_nI (show s < 8 by omega) (by decide)), nI_clamp (by omega), nI_clamp (by omega), nI_1]
      have go : ¬ cross um zb pa pb i s → ∃ r, f_X1_isWantedUnder_2 u m (nI i) (nI (s + 1)) = some r ∧ ((r = 0 ∧ ∀ k, ¬ cross um zb pa pb i k) ∨ (r = 1 ∧ ∃ k, cross um zb pa pb i k)) := fun hn =>
        ih (s + 1) (by omega) (by omega) (fun k hk => by
          rcases Nat.lt_or_ge k s with q | q
          · exact h3 k q
          · rw [show k = s by omega]; exact hn)
      rcases hu.hasX u (show s < 8 by omega) with ⟨e, q⟩ | ⟨e, q⟩
      · rw [e, Option.bind_some, if_neg (by decide), e8]
        have hx := h8 s hlt
        by_cases c : u 8 s ≤ nI j
        · rw [if_pos c]
          refine go (fun w => ?_)
          obtain ⟨-, -, j1, j2, w1, w2, w3, w4⟩ := w
          have a1 : j1 = j := hj j1 j (by omega) hjz (w3.trans ej.symm)
          have a2 := hx.at hj w2 w4
          rw [a2] at c
          have := (nI_leI (by omega) (by omega)).mp c
          omega
        · rw [if_neg c]
          refine ⟨1, rfl, Or.inr ⟨rfl, s, hlt, q.2, ?_⟩⟩
          rcases hx with ⟨a, -⟩ | ⟨j2, a, b, d⟩
          · exact absurd (by rw [a]; exact Int32.le_trans (by decide : (-1 : Int32) ≤ 0) (nI_pos' (by omega))) c
          · rw [b] at c
            have := mt (nI_leI (by omega) (by omega)).mpr c
            exact ⟨j, j2, by omega, a, ej, d⟩
      · rw [e, Option.bind_some, if_pos rfl]
        exact go (fun w => q ⟨w.1, w.2.1⟩)
theorem x_worn {u um : St} {n a b za zb i : Nat} {pa pb : Nat → Nat} (hc : CX u um n) (la : LX u a za n pa) (lb : LX u b zb n pb) (hj : Inj pb zb) (hi : i < za) (h8 : ∀ k, k < i → IX pb zb (pa k) (u 8 k)) (hs : BP (u 7 6) (fun k => k < i ∧ sure um zb pa pb k)) : ∃ u', f_X1_prepareWorn u (nI a) (nI b) (nI i) = some u' ∧ (∀ k, k ≠ 7 → k ≠ 8 → k ≠ 10 → k ≠ 13 → u' k = u k) ∧ (∀ j, j ≠ 6 → u' 7 j = u 7 j) ∧ (∀ j, j ≠ i → u' 8 j = u 8 j ∧ u' 10 j = u 10 j ∧ u' 13 j = u 13 j) ∧ IX pb zb (pa i) (u' 8 i) ∧ BP (u' 10 i) (fun k => k < i ∧ um 2 (pa k) = um 2 (pa i)) ∧ u' 13 i = um 5 (pa i) ∧ BP (u' 7 6) (fun k => k < i + 1 ∧ sure um zb pa pb k) := by
  have hi8 : i < 8 := by have := la.2.1; omega
  have hpi := (la.2.2.2 i hi).2
  unfold f_X1_prepareWorn
  rw [la.at hi, Option.bind_some, hc.f4 hpi, Option.bind_some, if_pos (inb_nI hi8 (by decide)), nI_clamp (by omega)]
  have fr1 : FrX u (up2 u 13 i (um 5 (pa i))) := FrX.up _ _ (by omega)
  obtain ⟨x, ex, hx⟩ := (lb.fr fr1).idx hc.1 hpi
  rw [ex, Option.bind_some]
  have fr2 : FrX u (up2 (up2 u 13 i (um 5 (pa i))) 8 i x) := fr1.tr (FrX.up _ _ (by omega))
  obtain ⟨y, ey, hy⟩ := x_ahead (hc.fr fr2) (la.fr fr2) hi
  rw [ey, Option.bind_some]
  have base : (∀ k, k ≠ 7 → k ≠ 8 → k ≠ 10 → k ≠ 13 → (up2 (up2 (up2 u 13 i (um 5 (pa i))) 8 i x) 10 i y) k = u k) ∧ (∀ j, j ≠ 6 → (up2 (up2 (up2 u 13 i (um 5 (pa i))) 8 i x) 10 i y) 7 j = u 7 j) ∧ (∀ j, j ≠ i → (up2 (up2 (up2 u 13 i (um 5 (pa i))) 8 i x) 10 i y) 8 j = u 8 j ∧ (up2 (up2 (up2 u 13 i (um 5 (pa i))) 8 i x) 10 i y) 10 j = u 10 j ∧ (up2 (up2 (up2 u 13 i (um 5 (pa i))) 8 i x) 10 i y) 13 j = u 13 j) ∧ IX pb zb (pa i) ((up2 (up2 (up2 u 13 i (um 5 (pa i))) 8 i x) 10 i y) 8 i) ∧ BP ((up2 (up2 (up2 u 13 i (um 5 (pa i))) 8 i x) 10 i y) 10 i) (fun k => k < i ∧ um 2 (pa k) = um 2 (pa i)) ∧ (up2 (up2 (up2 u 13 i (um 5 (pa i))) 8 i x) 10 i y) 13 i = um 5 (pa i) :=
    ⟨fun k h1 h2 h3 h4 => by simp [up2, h2, h3, h4], fun j hj => by simp [up2], fun j hj => ⟨by simp [up2, upd, hj], by simp [up2, upd, hj], by simp [up2, upd, hj]⟩, by simpa [up2, upd] using hx, by simpa [up2, upd] using hy, by simp [up2, upd]⟩
  have no : ¬ sure um zb pa pb i → BP ((up2 (up2 (up2 u 13 i (um 5 (pa i))) 8 i x) 10 i y) 7 6) (fun k => k < i + 1 ∧ sure um zb pa pb k) := fun hn => by
    rw [show (up2 (up2 (up2 u 13 i (um 5 (pa i))) 8 i x) 10 i y) 7 6 = u 7 6 by simp [up2]]
    refine hs.congr (fun k hk => ⟨fun w => ⟨by omega, w.2⟩, fun w => ?_⟩)
    rcases Nat.lt_or_ge k i with q | q
    · exact ⟨q, w.2⟩
    · have : k = i := by omega
      subst this
      exact absurd w.2 hn
  have b72 : sure um zb pa pb i → ∃ u', f_X1_prepareWorn_72 (up2 (up2 (up2 u 13 i (um 5 (pa i))) 8 i x) 10 i y) (nI i) = some u' ∧ (∀ k, k ≠ 7 → k ≠ 8 → k ≠ 10 → k ≠ 13 → u' k = u k) ∧ (∀ j, j ≠ 6 → u' 7 j = u 7 j) ∧ (∀ j, j ≠ i → u' 8 j = u 8 j ∧ u' 10 j = u 10 j ∧ u' 13 j = u 13 j) ∧ IX pb zb (pa i) (u' 8 i) ∧ BP (u' 10 i) (fun k => k < i ∧ um 2 (pa k) = um 2 (pa i)) ∧ u' 13 i = um 5 (pa i) ∧ BP (u' 7 6) (fun k => k < i + 1 ∧ sure um zb pa pb k) := fun hsu => by
    refine ⟨_, rfl, fun k h1 h2 h3 h4 => by simp [up2, h1, h2, h3, h4], fun j hj => by simp [up2, upd, hj], fun j hj => ⟨by simp [up2, upd, hj], by simp [up2, upd, hj], by simp [up2, upd, hj]⟩, by simpa [up2, upd] using hx, by simpa [up2, upd] using hy, by simp [up2, upd], ?_⟩
    rw [show (up2 (up2 (up2 (up2 u 13 i (um 5 (pa i))) 8 i x) 10 i y) 7 6 ((up2 (up2 (up2 u 13 i (um 5 (pa i))) 8 i x) 10 i y) 7 6 ||| 1 <<< (nI i &&& 31))) 7 6 = u 7 6 ||| 1 <<< (nI i &&& 31) by simp [up2, upd]]
    refine (hs.set hi8).congr (fun k hk => ?_)
    constructor
    · rintro (⟨p, q⟩ | rfl)
      · exact ⟨by omega, q⟩
      · exact ⟨by omega, hsu⟩
    · rintro ⟨p, q⟩
      rcases Nat.lt_or_ge k i with w | w
      · exact Or.inl ⟨w, q⟩
      · exact Or.inr (by omega)
  rw [show upd (u 8) i x i = x by simp [upd]]
  have hneg := hx.neg lb.2.1
  by_cases c : x < 0
  · rw [if_pos c]; exact b72 (Or.inl (hneg.mp c))
  · rw [if_neg c]
    rcases hx with ⟨w, -⟩ | ⟨j, hjz, rfl, ej⟩
    · exact absurd (by rw [w]; decide) c
    obtain ⟨r, er, hr⟩ := x_under0 (u := up2 (up2 (up2 u 13 i (um 5 (pa i))) 8 i (nI j)) 10 i y) (um := um) (pa := pa) (pb := pb) lb.2.1 hj hi8 hjz (by simp [up2, upd]) ej base.2.2.2.2.1 (fun k hk => by
      rw [(base.2.2.1 k (by omega)).1]; exact h8 k hk) FU 0 (FUz (by omega)) (Nat.zero_le _) (fun k hk => by omega)
    have er' : f_X1_isWantedUnder (up2 (up2 (up2 u 13 i (um 5 (pa i))) 8 i (nI j)) 10 i y) (nI i) = some r := er
    rw [er', Option.bind_some]
    rcases hr with ⟨rfl, hr⟩ | ⟨rfl, hr⟩
    · rw [if_pos rfl]
      refine ⟨_, rfl, base.1, base.2.1, base.2.2.1, base.2.2.2.1, base.2.2.2.2.1, base.2.2.2.2.2, no (fun w => ?_)⟩
      rcases w with w | ⟨k, w⟩
      · exact w j hjz ej
      · exact hr k w
    · rw [if_neg (by decide)]
      exact b72 (Or.inr hr)
theorem x_wanted {u um : St} {n a b za zb i : Nat} {pa pb : Nat → Nat} (hc : CX u um n) (hv : VV um n) (la : LX u a za n pa) (lb : LX u b zb n pb) (hi : i < zb) (h72 : u 7 2 = nI za) : ∃ u', f_X1_prepareWanted u (nI a) (nI b) (nI i) = some u' ∧ (∀ k, k ≠ 9 → k ≠ 11 → k ≠ 12 → k ≠ 14 → u' k = u k) ∧ (∀ j, j ≠ i → u' 9 j = u 9 j ∧ u' 11 j = u 11 j ∧ u' 12 j = u 12 j ∧ u' 14 j = u 14 j) ∧ IX pa za (pb i) (u' 9 i) ∧ BP (u' 11 i) (fun k => k < i ∧ um 2 (pb k) = um 2 (pb i)) ∧ u' 12 i = nI (pile um za pa pb i) ∧ u' 14 i = um 4 (pb i) := by
  have hi8 : i < 8 := by have := lb.2.1; omega
  have hpi := (lb.2.2.2 i hi).2
  unfold f_X1_prepareWanted
  rw [lb.at hi, Option.bind_some, hc.f3 hpi, Option.bind_some, if_pos (inb_nI hi8 (by decide)), nI_clamp (by omega)]
  have fr1 : FrX u (up2 u 14 i (um 4 (pb i))) := FrX.up _ _ (by omega)
  obtain ⟨x, ex, hx⟩ := (la.fr fr1).idx hc.1 hpi
  rw [ex, Option.bind_some]
  have fr2 : FrX u (up2 (up2 u 14 i (um 4 (pb i))) 9 i x) := fr1.tr (FrX.up _ _ (by omega))
  obtain ⟨y, ey, hy⟩ := x_ahead (hc.fr fr2) (lb.fr fr2) hi
  rw [ey, Option.bind_some]
  have fr3 : FrX u (up2 (up2 (up2 u 14 i (um 4 (pb i))) 9 i x) 11 i y) := fr2.tr (FrX.up _ _ (by omega))
  rw [h72, x_thick (hc.fr fr3) hv (la.fr fr3) (Nat.le_refl _) hpi, Option.bind_some, x_thick (hc.fr fr3) hv (lb.fr fr3) (show i ≤ zb by omega) hpi, Option.bind_some, (hc.fr fr3).f2 hpi, Option.bind_some, (tk_nI (hv _ hpi)).1, nI_add, nI_add]
  exact ⟨_, rfl, fun k h1 h2 h3 h4 => by simp [up2, h1, h2, h3, h4], fun j hj => ⟨by simp [up2, upd, hj], by simp [up2, upd, hj], by simp [up2, upd, hj], by simp [up2, upd, hj]⟩, by simpa [up2, upd] using hx, by simpa [up2, upd] using hy, by simp [up2, upd, pile], by simp [up2, upd]⟩
/-- a change stands prepared: what the rows say -/
def PA (u um : St) (zb : Nat) (pa pb : Nat → Nat) (i : Nat) : Prop := IX pb zb (pa i) (u 8 i) ∧ BP (u 10 i) (fun k => k < i ∧ um 2 (pa k) = um 2 (pa i)) ∧ u 13 i = um 5 (pa i)
def PB (u um : St) (za : Nat) (pa pb : Nat → Nat) (j : Nat) : Prop := IX pa za (pb j) (u 9 j) ∧ BP (u 11 j) (fun k => k < j ∧ um 2 (pb k) = um 2 (pb j)) ∧ u 12 j = nI (pile um za pa pb j) ∧ u 14 j = um 4 (pb j)
def PX (u um : St) (za zb : Nat) (pa pb : Nat → Nat) : Prop := u 7 2 = nI za ∧ u 7 3 = nI zb ∧ BP (u 7 4) (fun k => k < za ∧ um 1 (pa k) = 1) ∧ BP (u 7 5) (fun k => k < zb ∧ um 1 (pb k) = 1) ∧ BP (u 7 6) (fun k => k < za ∧ sure um zb pa pb k) ∧ (∀ i, i < za → PA u um zb pa pb i) ∧ ∀ j, j < zb → PB u um za pa pb j
theorem x_prep2 {um : St} {n a b za zb : Nat} {pa pb : Nat → Nat} (hv : VV um n) : ∀ (m i : Nat) (u : St), CX u um n → LX u a za n pa → LX u b zb n pb → u 7 2 = nI za → u 7 3 = nI zb → BP (u 7 4) (fun k => k < za ∧ um 1 (pa k) = 1) → BP (u 7 5) (fun k => k < zb ∧ um 1 (pb k) = 1) → BP (u 7 6) (fun k => k < za ∧ sure um zb pa pb k) → (∀ i, i < za → PA u um zb pa pb i) → (∀ j, j < i → PB u um za pa pb j) → zb < i + m → i ≤ zb → ∃ u', f_X1_prepare_82 m u (nI a) (nI b) (nI i) = some u' ∧ FrX u u' ∧ PX u' um za zb pa pb := by
  intro m
  induction m with
  | zero => intro i u _ _ _ _ _ _ _ _ _ _ h1 h2; omega
  | succ m ih =>
    intro i u hc la lb p2 p3 p4 p5 p6 hA hB h1 h2
    have hzb := lb.2.1
    rw [f_X1_prepare_82, p3]
    by_cases hi : i = zb
    · subst hi; exact ⟨u, if_pos (Int32.le_refl _), FrX.rf u, p2, p3, p4, p5, p6, hA, hB⟩
    · rw [if_neg (nI_ge (show i < zb by omega) (by omega))]
      obtain ⟨u', e1, e2, e3, e4, e5, e6, e7⟩ := x_wanted hc hv la lb (show i < zb by omega) p2
      rw [e1, Option.bind_some, nI_1]
      have f1 : FrX u u' := fun k hk => e2 k (by omega) (by omega) (by omega) (by omega)
      have g7 := e2 7 (by decide) (by decide) (by decide) (by decide)
      obtain ⟨u2, g1, g2, g3⟩ := ih (i + 1) u' (hc.fr f1) (la.fr f1) (lb.fr f1) (by rw [g7]; exact p2) (by rw [g7]; exact p3) (by rw [g7]; exact p4) (by rw [g7]; exact p5) (by rw [g7]; exact p6) (fun k hk => by
        unfold PA
        rw [e2 8 (by decide) (by decide) (by decide) (by decide), e2 10 (by decide) (by decide) (by decide) (by decide), e2 13 (by decide) (by decide) (by decide) (by decide)]
        exact hA k hk) (fun j hj => by
        by_cases q : j = i
        · subst q; exact ⟨e4, e5, e6, e7⟩
        · obtain ⟨a1, a2, a3, a4⟩ := e3 j q
          unfold PB
          rw [a1, a2, a3, a4]
          exact hB j (by omega)) (by omega) (by omega)
      exact ⟨u2, g1, f1.tr g2, g3⟩
theorem x_prep1 {um : St} {n a b za zb : Nat} {pa pb : Nat → Nat} (hv : VV um n) (hj : Inj pb zb) : ∀ (m i : Nat) (u : St), CX u um n → LX u a za n pa → LX u b zb n pb → u 7 2 = nI za → u 7 3 = nI zb → BP (u 7 4) (fun k => k < za ∧ um 1 (pa k) = 1) → BP (u 7 5) (fun k => k < zb ∧ um 1 (pb k) = 1) → BP (u 7 6) (fun k => k < i ∧ sure um zb pa pb k) → (∀ k, k < i → PA u um zb pa pb k) → za < i + m → i ≤ za → ∃ u', f_X1_prepare_59 m u (nI a) (nI b) (nI i) = some u' ∧ FrX u u' ∧ PX u' um za zb pa pb := by
  intro m
  induction m with
  | zero => intro i u _ _ _ _ _ _ _ _ _ h1 h2; omega
  | succ m ih =>
    intro i u hc la lb p2 p3 p4 p5 p6 hA h1 h2
    have hza := la.2.1
    rw [f_X1_prepare_59, p2]
    by_cases hi : i = za
    · subst hi
      rw [if_pos (Int32.le_refl _)]
      exact x_prep2 hv FU 0 u hc la lb p2 p3 p4 p5 p6 hA (fun j hj => by omega) (FUz lb.2.1) (Nat.zero_le _)
    · rw [if_neg (nI_ge (show i < za by omega) (by omega))]
      obtain ⟨u', e1, e2, e3, e4, e5, e6, e7, e8⟩ := x_worn hc la lb hj (show i < za by omega) (fun k hk => (hA k hk).1) p6
      rw [e1, Option.bind_some, nI_1]
      have f1 : FrX u u' := fun k hk => e2 k (by omega) (by omega) (by omega) (by omega)
      obtain ⟨u2, g1, g2, g3⟩ := ih (i + 1) u' (hc.fr f1) (la.fr f1) (lb.fr f1) (by rw [e3 2 (by decide)]; exact p2) (by rw [e3 3 (by decide)]; exact p3) (by rw [e3 4 (by decide)]; exact p4) (by rw [e3 5 (by decide)]; exact p5) e8 (fun k hk => by
        by_cases q : k = i
        · subst q; exact ⟨e5, e6, e7⟩
        · obtain ⟨a1, a2, a3⟩ := e4 k q
          unfold PA
          rw [a1, a2, a3]
          exact hA k (by omega)) (by omega) (by omega)
      exact ⟨u2, g1, f1.tr g2, g3⟩
theorem x_prepare {u um : St} {n a b za zb : Nat} {pa pb : Nat → Nat} (hc : CX u um n) (hv : VV um n) (la : LX u a za n pa) (lb : LX u b zb n pb) (hj : Inj pb zb) : ∃ u', f_X1_prepare u (nI a) (nI b) = some u' ∧ FrX u u' ∧ PX u' um za zb pa pb := by
  unfold f_X1_prepare
  rw [e_sizeOf u la.1, Option.bind_some, la.2.2.1, jmin8 la.2.1, e_sizeOf _ lb.1, Option.bind_some]
  rw [show (up2 u 7 2 (nI za)) 5 b = nI zb by simpa [up2] using lb.2.2.1, jmin8 lb.2.1]
  have f1 : FrX u (up2 (up2 u 7 2 (nI za)) 7 3 (nI zb)) := (FrX.up _ _ (by omega)).tr (FrX.up _ _ (by omega))
  obtain ⟨w1, e1, b1⟩ := x_wigs (hc.fr f1) (la.fr f1)
  rw [e1, Option.bind_some]
  have f2 : FrX u (up2 (up2 (up2 u 7 2 (nI za)) 7 3 (nI zb)) 7 4 w1) := f1.tr (FrX.up _ _ (by omega))
  obtain ⟨w2, e2, b2⟩ := x_wigs (hc.fr f2) (lb.fr f2)
  rw [e2, Option.bind_some]
  have f3 : FrX u (up2 (up2 (up2 (up2 (up2 u 7 2 (nI za)) 7 3 (nI zb)) 7 4 w1) 7 5 w2) 7 6 0) := (f2.tr (FrX.up _ _ (by omega))).tr (FrX.up _ _ (by omega))
  obtain ⟨u', g1, g2, g3⟩ := x_prep1 (za := za) (zb := zb) (pa := pa) (pb := pb) hv hj FU 0 _ (hc.fr f3) (la.fr f3) (lb.fr f3) (by simp [up2, upd]) (by simp [up2, upd]) (by simpa [up2, upd] using b1) (by simpa [up2, upd] using b2) (by
    rw [show (up2 (up2 (up2 (up2 (up2 u 7 2 (nI za)) 7 3 (nI zb)) 7 4 w1) 7 5 w2) 7 6 0) 7 6 = 0 by simp [up2, upd]]
    exact BP.zero.congr (fun k hk => ⟨False.elim, fun w => by omega⟩)) (fun j hj => by omega) (FUz la.2.1) (Nat.zero_le _)
  exact ⟨u', g1, f3.tr g2, g3⟩
