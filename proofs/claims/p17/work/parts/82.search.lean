/-! ===== the class: search, settle, send on ===== -/
def DN (u : St) (g : Nat → Nat → Nat) (f : Nat → Nat) (t : Nat) : Prop := f t = 0 ∧ ∀ s, s < 12 → 0 < g s t → ¬ u 25 s = -1
def XS (u u' : St) : Prop := ∀ k, k ≠ 21 → k ≠ 24 → k ≠ 25 → k ≠ 26 → u' k = u k
theorem XS.rf (u : St) : XS u u := fun _ _ _ _ _ => rfl
theorem XS.tr {a b c : St} (h1 : XS a b) (h2 : XS b c) : XS a c := fun k x y z w => (h2 k x y z w).trans (h1 k x y z w)
theorem XS.xr {u u' : St} (h : XS u u') : XR u u' := fun k hk => h k (by omega) (by omega) (by omega) (by omega)
theorem XS.fl {u u' : St} (h : XS u u') {g : Nat → Nat → Nat} {f : Nat → Nat} (hf : FL u g f) : FL u' g f := by
  unfold FL
  rw [h 23 (by decide) (by decide) (by decide) (by decide), h 22 (by decide) (by decide) (by decide) (by decide)]
  exact hf
/-- what a search answers -/
def SRES (um : St) (k : Nat) (g : Nat → Nat → Nat) (f : Nat → Nat) (start : Nat) (u : St) (p : Int32 × St) : Prop := XS u p.2 ∧ ((p.1 = -1 ∧ ¬ p.2 25 start = -1 ∧ ∀ s, s < 12 → ¬ p.2 25 s = -1 → ∀ t, t < 12 → Eg um k s t → f t = 0 ∧ ∀ s', s' < 12 → 0 < g s' t → ¬ p.2 25 s' = -1) ∨ ∃ t Q q e, t < 12 ∧ p.1 = nI t ∧ 0 < f t ∧ SR p.2 um k g start Q q ∧ e < Q ∧ p.2 24 t = nI (q e) ∧ Eg um k (q e) t)
theorem SRES.tr {um : St} {k : Nat} {g : Nat → Nat → Nat} {f : Nat → Nat} {start : Nat} {u u' : St} {p : Int32 × St} (h : XS u u') (r : SRES um k g f start u' p) : SRES um k g f start u p := ⟨h.tr r.1, r.2⟩
theorem SR.met {u um : St} {k : Nat} {g : Nat → Nat → Nat} {start Q : Nat} {q : Nat → Nat} (h : SR u um k g start Q q) {i e : Nat} (hi : u 24 i = -1) (he : e < Q) (hE : Eg um k (q e) i) : SR (up2 u 24 i (nI (q e))) um k g start Q q := by
  obtain ⟨h1, h2, h3, h4, h5, h6, h7, h8, h9⟩ := h
  refine ⟨by simpa [up2] using h1, h2, h3, h4, by simpa [up2] using h5, h6, by simpa [up2] using h7, fun x hx0 hx => ?_, fun x hx => ?_⟩
  · obtain ⟨t, b1, b2, b3, e', b4, b5⟩ := h8 x hx0 hx
    have hq := (h5 e' (by omega)).1
    have hne : ¬ t = i := fun w => by
      rw [w, hi] at b5
      exact nI_m1 (show q e' < 2 ^ 31 by omega) b5.symm
    exact ⟨t, b1, by simpa [up2] using b2, b3, e', b4, by simpa [up2, upd, hne] using b5⟩
  · by_cases w : x = i
    · subst w
      exact Or.inr ⟨e, he, by simp [up2, upd], hE⟩
    · rcases h9 x hx with d | ⟨e2, he2, d1, d2⟩
      · left; simpa [up2, upd, w] using d
      · right; exact ⟨e2, he2, by simpa [up2, upd, w] using d1, d2⟩
theorem x_s53 {um : St} {k : Nat} {g : Nat → Nat → Nat} {f : Nat → Nat} {start hq : Nat} (hb : ∀ s t, s < 12 → t < 12 → g s t ≤ 100) (hfb : ∀ t, t < 12 → f t ≤ 100) (k29 : St → Int32 → Option (Int32 × St)) (hk : ∀ (u : St) (Q : Nat) (q : Nat → Nat), GX u um k → SR u um k g start Q q → FL u g f → hq < Q → (∀ t, t < 12 → ¬ u 24 t = -1 → DN u g f t) → (∀ e, e < hq + 1 → ∀ t, t < 12 → Eg um k (q e) t → ¬ u 24 t = -1) → ∃ p, k29 u (nI (hq + 1)) = some p ∧ SRES um k g f start u p) : ∀ (m i : Nat) (u : St) (Q : Nat) (q : Nat → Nat), GX u um k → SR u um k g start Q q → FL u g f → hq < Q → (∀ t, t < 12 → ¬ u 24 t = -1 → DN u g f t) → (∀ e, e < hq → ∀ t, t < 12 → Eg um k (q e) t → ¬ u 24 t = -1) → (∀ t, t < i → Eg um k (q hq) t → ¬ u 24 t = -1) → 12 < i + m → i ≤ 12 → ∃ p, f_X3_search_53 k29 m u (nI hq) (nI (q hq)) (nI i) = some p ∧ SRES um k g f start u p := by
  intro m
  induction m with
  | zero => intro i u Q q _ _ _ _ _ _ _ h1 h2; omega
  | succ m ih =>
    intro i u Q q hG hS hF hh hD h7 h8 h1 h2
    rw [f_X3_search_53]
    by_cases hi : i = 12
    · subst hi
      rw [if_pos (show (12 : Int32) ≤ nI 12 by decide), nI_1]
      exact hk u Q q hG hS hF hh hD (fun e he t ht w => by
        by_cases x : e = hq
        · subst x; exact h8 t ht w
        · exact h7 e (by omega) t ht w)
    · have hi12 : i < 12 := by omega
      have hqq := (hS.2.2.2.2.1 hq hh).1
      rw [if_neg (show ¬ (12 : Int32) ≤ nI i from nI_ge (b := 12) hi12 (by omega)), if_pos (inb_nI hi12 (by decide)), nI_clamp (by omega), nI_1]
      have next : (Eg um k (q hq) i → ¬ u 24 i = -1) → ∃ p, f_X3_search_53 k29 m u (nI hq) (nI (q hq)) (nI (i + 1)) = some p ∧ SRES um k g f start u p := fun w => ih (i + 1) u Q q hG hS hF hh hD h7 (fun t ht x => by
        by_cases y : t = i
        · subst y; exact w x
        · exact h8 t (by omega) x) (by omega) (by omega)
      rcases hS.2.2.2.2.2.2.2.2 i hi12 with c | ⟨e0, he0, c, -⟩
      · rw [c, if_neg (by decide)]
        obtain ⟨r, er, hr⟩ := x_mayGo hG hqq hi12
        rw [er, Option.bind_some]
        rcases hr with ⟨rfl, hE⟩ | ⟨rfl, hE⟩
        · rw [if_neg (by decide), hF.2 i hi12]
          have hS1 := hS.met c hh hE
          have x1 : XS u (up2 u 24 i (nI (q hq))) := fun k a b c d => by simp [up2, b]
          have hm1 := nI_m1 (show q hq < 2 ^ 31 by omega)
          have hfi := hfb i hi12
          by_cases d : f i = 0
          · rw [if_pos (by rw [d]; exact Int32.le_refl _)]
            obtain ⟨u2, Q2, q2, a1, a2, a3, a4⟩ := x_enqT hi12 FU 0 (up2 u 24 i (nI (q hq))) Q q hS1 (x1.fl hF) hb hh (by simp [up2, upd]) (fun s hs => by omega) (by have := FU_ge (z := 12) (by omega); omega) (Nat.zero_le _)
            have a1' : f_X3_enqueueThoseGoingTo (up2 u 24 i (nI (q hq))) (nI i) = some u2 := a1
            rw [a1', Option.bind_some]
            have x2 : XS (up2 u 24 i (nI (q hq))) u2 := fun k a b c d => a3.2.2.1 k a c d
            have x12 := x1.tr x2
            have e24 : u2 24 = upd (u 24) i (nI (q hq)) := by rw [a3.2.2.1 24 (by decide) (by decide) (by decide), up2_s]
            have k24 : ∀ t, ¬ u 24 t = -1 → ¬ u2 24 t = -1 := fun t w => by
              rw [e24]
              by_cases y : t = i
              · simp [upd, y, hm1]
              · simpa [upd, y] using w
            have k24i : ¬ u2 24 i = -1 := by rw [e24]; simp [upd, hm1]
            have k25 : ∀ s, ¬ u 25 s = -1 → ¬ u2 25 s = -1 := fun s w => a3.2.2.2 s (by simpa [up2] using w)
            obtain ⟨p, b1, b2⟩ := ih (i + 1) u2 Q2 q2 (hG.fr x12.xr) a2 (x12.fl hF) (Nat.lt_of_lt_of_le hh a3.1) (fun t ht w => by
              by_cases y : t = i
              · subst y; exact ⟨d, a4⟩
              · rw [e24] at w
                obtain ⟨d1, d2⟩ := hD t ht (by simpa [upd, y] using w)
                exact ⟨d1, fun s hs z => k25 s (d2 s hs z)⟩) (fun e he t ht w => by
              rw [a3.2.1 e (by omega)] at w
              exact k24 t (h7 e he t ht w)) (fun t ht w => by
              rw [a3.2.1 hq hh] at w
              by_cases y : t = i
              · subst y; exact k24i
              · exact k24 t (h8 t (by omega) w)) (by omega) (by omega)
            rw [a3.2.1 hq hh] at b1
            exact ⟨p, b1, b2.tr x12⟩
          · rw [if_neg (nI_nle (by omega) (by omega))]
            exact ⟨_, rfl, x1, Or.inr ⟨i, Q, q, hq, hi12, rfl, by omega, hS1, hh, by simp [up2, upd], hE⟩⟩
        · rw [if_pos rfl]
          exact next (fun w => absurd w hE)
      · rw [c, if_pos (nI_pos' (by have := (hS.2.2.2.2.1 e0 he0).1; omega))]
        exact next (fun _ => by rw [c]; exact nI_m1 (by have := (hS.2.2.2.2.1 e0 he0).1; omega))
theorem x_s29 {um : St} {k : Nat} {g : Nat → Nat → Nat} {f : Nat → Nat} {start : Nat} (hb : ∀ s t, s < 12 → t < 12 → g s t ≤ 100) (hfb : ∀ t, t < 12 → f t ≤ 100) : ∀ (m hq : Nat) (u : St) (Q : Nat) (q : Nat → Nat), GX u um k → SR u um k g start Q q → FL u g f → hq ≤ Q → (∀ t, t < 12 → ¬ u 24 t = -1 → DN u g f t) → (∀ e, e < hq → ∀ t, t < 12 → Eg um k (q e) t → ¬ u 24 t = -1) → 12 < hq + m → ∃ p, f_X3_search_29 m u (nI hq) = some p ∧ SRES um k g f start u p := by
  intro m
  induction m with
  | zero => intro hq u Q q _ hS _ h _ _ h1; have := hS.2.1; omega
  | succ m ih =>
    intro hq u Q q hG hS hF hh hD h7 h1
    obtain ⟨s1, s2, s3, s4, s5, s6, s7, s8, s9⟩ := id hS
    rw [f_X3_search_29, s1]
    by_cases c : hq = Q
    · subst c
      rw [if_pos (Int32.le_refl _)]
      refine ⟨_, rfl, XS.rf u, Or.inl ⟨rfl, ?_, fun s hs w t ht hE => ?_⟩⟩
      · have := (s5 0 s3).2.2
        rw [s4] at this
        exact this
      · rcases s7 s hs with d | ⟨-, e, he, rfl⟩
        · exact absurd d w
        · exact hD t ht (h7 e he t ht hE)
    · have hlt : hq < Q := by omega
      rw [if_neg (nI_ge hlt (by omega)), if_neg (show ¬ (12 : Int32) ≤ nI hq from nI_ge (b := 12) (show hq < 12 by omega) (by omega)), if_pos (inb_nI (show hq < 12 by omega) (by decide)), nI_clamp (by omega), (s5 hq hlt).2.1]
      exact x_s53 hb hfb (f_X3_search_29 m) (fun u' Q' q' g1 g2 g3 g4 g5 g6 => ih (hq + 1) u' Q' q' g1 g2 g3 (by omega) g5 g6 (by omega)) FU 0 u Q q hG hS hF hlt hD h7 (fun t ht => by omega) (by have := FU_ge (z := 12) (by omega); omega) (Nat.zero_le _)
theorem x_fill24 (v : Int32) : ∀ (m i : Nat) (u : St), (∀ j, j < i → u 24 j = v) → 12 < i + m → i ≤ 12 → ∃ u', f_J7_fill_24_5 m u v (nI i) 12 = some u' ∧ (∀ k, k ≠ 24 → u' k = u k) ∧ ∀ j, j < 12 → u' 24 j = v := by
  intro m
  induction m with
  | zero => intro i u _ h1 h2; omega
  | succ m ih =>
    intro i u h h1 h2
    rw [f_J7_fill_24_5]
    by_cases hi : i = 12
    · subst hi; exact ⟨u, if_pos (show (12 : Int32) ≤ nI 12 by decide), fun _ _ => rfl, h⟩
    · rw [if_neg (show ¬ (12 : Int32) ≤ nI i from nI_ge (b := 12) (show i < 12 by omega) (by omega)), if_pos (inb_nI (show i < 12 by omega) (by decide)), nI_1, nI_clamp (by omega)]
      obtain ⟨u', e1, e2, e3⟩ := ih (i + 1) (up2 u 24 i v) (fun j hj => by
        by_cases w : j = i
        · simp [up2, upd, w]
        · simpa [up2, upd, w] using h j (by omega)) (by omega) (by omega)
      exact ⟨u', e1, fun k hk => by rw [e2 k hk]; simp [up2, hk], e3⟩
theorem x_fill25 (v : Int32) : ∀ (m i : Nat) (u : St), (∀ j, j < i → u 25 j = v) → 12 < i + m → i ≤ 12 → ∃ u', f_J7_fill_25_5 m u v (nI i) 12 = some u' ∧ (∀ k, k ≠ 25 → u' k = u k) ∧ ∀ j, j < 12 → u' 25 j = v := by
  intro m
  induction m with
  | zero => intro i u _ h1 h2; omega
  | succ m ih =>
    intro i u h h1 h2
    rw [f_J7_fill_25_5]
    by_cases hi : i = 12
    · subst hi; exact ⟨u, if_pos (show (12 : Int32) ≤ nI 12 by decide), fun _ _ => rfl, h⟩
    · rw [if_neg (show ¬ (12 : Int32) ≤ nI i from nI_ge (b := 12) (show i < 12 by omega) (by omega)), if_pos (inb_nI (show i < 12 by omega) (by decide)), nI_1, nI_clamp (by omega)]
      obtain ⟨u', e1, e2, e3⟩ := ih (i + 1) (up2 u 25 i v) (fun j hj => by
        by_cases w : j = i
        · simp [up2, upd, w]
        · simpa [up2, upd, w] using h j (by omega)) (by omega) (by omega)
      exact ⟨u', e1, fun k hk => by rw [e2 k hk]; simp [up2, hk], e3⟩
theorem x_fill23 (v : Int32) : ∀ (m i : Nat) (u : St), (∀ j, j < i → u 23 j = v) → 144 < i + m → i ≤ 144 → ∃ u', f_J7_fill_23_5 m u v (nI i) 144 = some u' ∧ (∀ k, k ≠ 23 → u' k = u k) ∧ ∀ j, j < 144 → u' 23 j = v := by
  intro m
  induction m with
  | zero => intro i u _ h1 h2; omega
  | succ m ih =>
    intro i u h h1 h2
    rw [f_J7_fill_23_5]
    by_cases hi : i = 144
    · subst hi; exact ⟨u, if_pos (show (144 : Int32) ≤ nI 144 by decide), fun _ _ => rfl, h⟩
    · rw [if_neg (show ¬ (144 : Int32) ≤ nI i from nI_ge (b := 144) (show i < 144 by omega) (by omega)), if_pos (inb_nI (show i < 144 by omega) (by decide)), nI_1, nI_clamp (by omega)]
      obtain ⟨u', e1, e2, e3⟩ := ih (i + 1) (up2 u 23 i v) (fun j hj => by
        by_cases w : j = i
        · simp [up2, upd, w]
        · simpa [up2, upd, w] using h j (by omega)) (by omega) (by omega)
      exact ⟨u', e1, fun k hk => by rw [e2 k hk]; simp [up2, hk], e3⟩
theorem x_search {u um : St} {k : Nat} {g : Nat → Nat → Nat} {f : Nat → Nat} (hG : GX u um k) (hF : FL u g f) (hb : ∀ s t, s < 12 → t < 12 → g s t ≤ 100) (hfb : ∀ t, t < 12 → f t ≤ 100) {start : Nat} (hs : start < 12) : ∃ p, f_X3_search u (nI start) = some p ∧ SRES um k g f start u p := by
  unfold f_X3_search
  obtain ⟨u1, a1, a2, a3⟩ : ∃ u', f_J7_fill_24 u (-1) = some u' ∧ (∀ k, k ≠ 24 → u' k = u k) ∧ ∀ j, j < 12 → u' 24 j = -1 := x_fill24 (-1) FU 0 u (fun j hj => by omega) (by have := FU_ge (z := 12) (by omega); omega) (by omega)
  obtain ⟨u2, b1, b2, b3⟩ : ∃ u', f_J7_fill_25 u1 (-1) = some u' ∧ (∀ k, k ≠ 25 → u' k = u1 k) ∧ ∀ j, j < 12 → u' 25 j = -1 := x_fill25 (-1) FU 0 u1 (fun j hj => by omega) (by have := FU_ge (z := 12) (by omega); omega) (by omega)
  rw [a1, Option.bind_some, b1, Option.bind_some]
  have e24 : ∀ j, j < 12 → u2 24 j = -1 := fun j hj => by rw [b2 24 (by decide)]; exact a3 j hj
  have ee : f_X3_enqueue (up2 u2 21 6 0) (nI start) (nI start) = some (up2 (up2 (up2 (up2 u2 21 6 0) 25 start (nI start)) 26 0 (nI start)) 21 6 (nI 1)) := by
    unfold f_X3_enqueue
    rw [e_isWithin, w12 hs, Option.bind_some, if_neg (by decide), if_pos (inb_nI hs (by decide)), nI_clamp (by omega), show (up2 u2 21 6 0) 25 start = -1 by simpa [up2] using b3 start hs, if_neg (by decide), show (up2 u2 21 6 0) 21 6 = nI 0 by simp [up2, upd, nI_0], if_neg (by decide), if_pos (by decide), nI_1, nI_clamp (by decide)]
  rw [ee, Option.bind_some]
  have xs : XS u (up2 (up2 (up2 (up2 u2 21 6 0) 25 start (nI start)) 26 0 (nI start)) 21 6 (nI 1)) := fun k x y z w => by
    simp only [up2, x, z, w, if_false]
    rw [b2 k z, a2 k y]
  have m1 := nI_m1 (show start < 2 ^ 31 by omega)
  have hSR : SR (up2 (up2 (up2 (up2 u2 21 6 0) 25 start (nI start)) 26 0 (nI start)) 21 6 (nI 1)) um k g start 1 (fun _ => start) := by
    refine ⟨by simp [up2, upd], by omega, by omega, rfl, fun e he => ?_, fun e e' h1 h2 _ => by omega, fun s hs' => ?_, fun e h1 h2 => by omega, fun t ht => ?_⟩
    · have : e = 0 := by omega
      subst this
      exact ⟨hs, by simp [up2, upd], by simp [up2, upd, m1]⟩
    · by_cases w : s = start
      · subst w
        exact Or.inr ⟨⟨s, hs, by simp [up2, upd]⟩, 0, by omega, rfl⟩
      · left; simpa [up2, upd, w] using b3 s hs'
    · left; simpa [up2] using e24 t ht
  obtain ⟨p, p1, p2⟩ := x_s29 hb hfb FU 0 _ 1 (fun _ => start) (hG.fr xs.xr) hSR (xs.fl hF) (by omega) (fun t ht w => absurd (by simpa [up2] using e24 t ht) w) (fun e he => by omega) (by have := FU_ge (z := 12) (by omega); omega)
  exact ⟨p, p1, p2.tr xs⟩
/-! settle -/
def EDG (um : St) (k : Nat) (g : Nat → Nat → Nat) : Prop := ∀ s t, s < 12 → t < 12 → 0 < g s t → Eg um k s t
def CLD (um : St) (k : Nat) (D : Nat → Prop) (g : Nat → Nat → Nat) (f : Nat → Nat) : Prop := ∀ s, s < 12 → D s → ∀ t, t < 12 → Eg um k s t → f t = 0 ∧ ∀ s', s' < 12 → 0 < g s' t → D s'
theorem x_settle0 {um : St} {k start Q : Nat} {q : Nat → Nat} {g0 : Nat → Nat → Nat} {f rho hd : Nat → Nat} {D : Nat → Prop} {C24 C25 : Nat → Int32} (hq0 : q 0 = start) (hQ : Q ≤ 12) (hq : ∀ e, e < Q → q e < 12) (hinj : ∀ e e', e < Q → e' < Q → q e = q e' → e = e') (hch : ∀ e, 0 < e → e < Q → ∃ t, t < 12 ∧ C25 (q e) = nI t ∧ 0 < g0 (q e) t ∧ ∃ e', e' < e ∧ C24 t = nI (q e') ∧ Eg um k (q e') t) : ∀ (m i e t : Nat) (u : St) (g : Nat → Nat → Nat), u 24 = C24 → u 25 = C25 → e < Q → t < 12 → C24 t = nI (q e) → Eg um k (q e) t → FL u g f → (∀ e', e' ≤ e → g (q e') = g0 (q e')) → EDG um k g → (∀ s, s < 12 → sm (g s) 12 = rho s) → (∀ x, x < 12 → sm (fun s => g s x) 12 + f x + (if x = t then 1 else 0) = hd x) → CLD um k D g f → (∀ s, s < 12 → D s → ¬ Eg um k s t) → i + e < 12 → 12 < i + m → ∃ u' g', f_X3_settle_26 m u (nI start) (nI t) (nI i) = some u' ∧ (∀ k, k ≠ 23 → u' k = u k) ∧ FL u' g' f ∧ EDG um k g' ∧ (∀ s, s < 12 → sm (g' s) 12 = rho s + if s = start then 1 else 0) ∧ (∀ x, x < 12 → sm (fun s => g' s x) 12 + f x = hd x) ∧ CLD um k D g' f := by
  intro m
  induction m with
  | zero => intro i e t u g _ _ he _ _ _ _ _ _ _ _ _ _ h1 h2; omega
  | succ m ih =>
    intro i e t u g h24 h25 he ht c24 hE hF hrow0 hEd hrow hcol hcl hpend h1 h2
    have hqe := hq e he
    rw [f_X3_settle_26, if_neg (show ¬ (12 : Int32) ≤ nI i from nI_ge (b := 12) (show i < 12 by omega) (by omega)), e_isWithin, w12 ht, Option.bind_some, if_neg (by decide), if_pos (inb_nI ht (by decide)), nI_clamp (by omega), h24, c24, x_note1 hF hqe ht, Option.bind_some]
    have hF1 := hF.put hqe ht (g (q e) t + 1)
    have hE1 : EDG um k (gset g (q e) t (g (q e) t + 1)) := fun s x hs hx w => by
      unfold gset at w
      by_cases c : s = q e ∧ x = t
      · rw [c.1, c.2]; exact hE
      · rw [if_neg c] at w; exact hEd s x hs hx w
    have hr1 : ∀ s, s < 12 → sm (gset g (q e) t (g (q e) t + 1) s) 12 = rho s + if s = q e then 1 else 0 := fun s hs => by
      by_cases c : s = q e
      · subst c
        have := gset_row (g := g) (s := q e) (t := t) (v := g (q e) t + 1) ht
        rw [if_pos rfl, ← hrow _ hs]
        omega
      · rw [if_neg c, gset_rowN c, hrow s hs, Nat.add_zero]
    have hc1 : ∀ x, x < 12 → sm (fun s => gset g (q e) t (g (q e) t + 1) s x) 12 + f x = hd x := fun x hx => by
      have h0 := hcol x hx
      by_cases c : x = t
      · subst c
        have := gset_col (g := g) (s := q e) (t := x) (v := g (q e) x + 1) hqe
        rw [if_pos rfl] at h0
        omega
      · rw [if_neg c] at h0
        rw [sm_cong (f := fun s => gset g (q e) t (g (q e) t + 1) s x) (g := fun s => g s x) (fun s _ => gset_colN c s)]
        omega
    have hcl1 : CLD um k D (gset g (q e) t (g (q e) t + 1)) f := fun s hs d x hx w => by
      have hx' : x ≠ t := fun c => hpend s hs d (c ▸ w)
      obtain ⟨d1, d2⟩ := hcl s hs d x hx w
      exact ⟨d1, fun s' hs' z => d2 s' hs' (by rw [gset_colN hx'] at z; exact z)⟩
    have hfr1 : ∀ k, k ≠ 23 → (up2 u 23 (12 * q e + t) (nI (g (q e) t + 1))) k = u k := fun k hk => by simp [up2, hk]
    by_cases c0 : e = 0
    · subst c0
      rw [hq0] at *
      rw [if_pos rfl]
      exact ⟨_, _, rfl, hfr1, hF1, hE1, hr1, hc1, hcl1⟩
    · have hne : ¬ q e = start := fun w => c0 (hinj e 0 he (by omega) (w.trans hq0.symm))
      have hs12 : start < 12 := by rw [← hq0]; exact hq 0 (by omega)
      rw [if_neg (fun w => hne ((nI_eq (by omega) (by omega)).mp w)), e_isWithin, w12 hqe, Option.bind_some, if_neg (by decide), if_pos (inb_nI hqe (by decide)), nI_clamp (by omega)]
      obtain ⟨t', ht', b2, b3, e', b4, b5, b6⟩ := hch e (by omega) he
      rw [show (up2 u 23 (12 * q e + t) (nI (g (q e) t + 1))) 25 (q e) = nI t' by rw [hfr1 25 (by decide), h25]; exact b2]
      have hgt : 0 < g (q e) t' := by rw [hrow0 e (Nat.le_refl _)]; exact b3
      have hg1 : 0 < gset g (q e) t (g (q e) t + 1) (q e) t' := by
        unfold gset
        split
        · omega
        · exact hgt
      rw [x_noteM hF1 hqe ht' hg1, Option.bind_some, nI_1]
      have hF2 := hF1.put hqe ht' (gset g (q e) t (g (q e) t + 1) (q e) t' - 1)
      have hpend' : ∀ s, s < 12 → D s → ¬ Eg um k s t' := fun s hs d w => by
        have := (hcl s hs d t' ht' w).2 (q e) hqe hgt
        exact hpend (q e) hqe this hE
      obtain ⟨u', g', r1, r2, r3, r4, r5, r6, r7⟩ := ih (i + 1) e' t' _ (gset (gset g (q e) t (g (q e) t + 1)) (q e) t' (gset g (q e) t (g (q e) t + 1) (q e) t' - 1)) (by rw [up2_n _ _ _ (by decide), hfr1 24 (by decide)]; exact h24) (by rw [up2_n _ _ _ (by decide), hfr1 25 (by decide)]; exact h25) (by omega) ht' b5 b6 hF2 (fun e2 he2 => by
        have hne2 : q e2 ≠ q e := fun w => by
          have := hinj e2 e (by omega) he w
          omega
        rw [gset_rowN hne2, gset_rowN hne2]
        exact hrow0 e2 (by omega)) (fun s x hs hx w => by
        by_cases c : s = q e ∧ x = t'
        · rw [c.1, c.2]; exact hEd (q e) t' hqe ht' hgt
        · unfold gset at w
          rw [if_neg c] at w
          exact hE1 s x hs hx w) (fun s hs => by
        have h0 := hr1 s hs
        by_cases c : s = q e
        · subst c
          have := gset_row (g := gset g (q e) t (g (q e) t + 1)) (s := q e) (t := t') (v := gset g (q e) t (g (q e) t + 1) (q e) t' - 1) ht'
          rw [if_pos rfl] at h0
          omega
        · rw [if_neg c] at h0
          rw [gset_rowN c, h0, Nat.add_zero]) (fun x hx => by
        have h0 := hc1 x hx
        by_cases c : x = t'
        · subst c
          have := gset_col (g := gset g (q e) t (g (q e) t + 1)) (s := q e) (t := x) (v := gset g (q e) t (g (q e) t + 1) (q e) x - 1) hqe
          rw [if_pos rfl]
          omega
        · rw [if_neg c, Nat.add_zero]
          rw [sm_cong (f := fun s => gset (gset g (q e) t (g (q e) t + 1)) (q e) t' (gset g (q e) t (g (q e) t + 1) (q e) t' - 1) s x) (g := fun s => gset g (q e) t (g (q e) t + 1) s x) (fun s _ => gset_colN c s)]
          exact h0) (fun s hs d x hx w => by
        have hx' : x ≠ t' := fun c => hpend' s hs d (c ▸ w)
        obtain ⟨d1, d2⟩ := hcl1 s hs d x hx w
        exact ⟨d1, fun s' hs' z => d2 s' hs' (by rw [gset_colN hx'] at z; exact z)⟩) hpend' (by omega) (by omega)
      exact ⟨u', g', r1, fun k hk => by rw [r2 k hk, up2_n _ _ _ hk, hfr1 k hk], r3, r4, r5, r6, r7⟩
/-- all that holds of the roster between two searches -/
def INVX (u um : St) (k : Nat) (g : Nat → Nat → Nat) (f : Nat → Nat) (D : Nat → Prop) (rho : Nat → Nat) : Prop := GX u um k ∧ FL u g f ∧ EDG um k g ∧ (∀ s, s < 12 → sm (g s) 12 = rho s) ∧ (∀ t, t < 12 → sm (fun s => g s t) 12 + f t = hdn um k t) ∧ CLD um k D g f
theorem hdn_le {u um : St} {k : Nat} (h : GX u um k) {s : Nat} (hs : s < 12) : hdn um k s ≤ 3 := (x_hands h hs).2
theorem INVX.gb {u um : St} {k : Nat} {g : Nat → Nat → Nat} {f : Nat → Nat} {D : Nat → Prop} {rho : Nat → Nat} (h : INVX u um k g f D rho) : (∀ s t, s < 12 → t < 12 → g s t ≤ 100) ∧ ∀ t, t < 12 → f t ≤ 100 := by
  obtain ⟨h1, h2, h3, h4, h5, h6⟩ := h
  refine ⟨fun s t hs ht => ?_, fun t ht => ?_⟩
  · have a := sm_term (f := fun s => g s t) hs
    have b := h5 t ht
    have c := hdn_le h1 ht
    have a' : g s t ≤ sm (fun s => g s t) 12 := a
    omega
  · have b := h5 t ht
    have c := hdn_le h1 ht
    omega
theorem x_one {u um : St} {k : Nat} {g : Nat → Nat → Nat} {f : Nat → Nat} {D : Nat → Prop} {rho : Nat → Nat} (h : INVX u um k g f D rho) {s : Nat} (hs : s < 12) : (∃ u', f_X3_search u (nI s) = some (-1, u') ∧ XR u u' ∧ ∃ D' : Nat → Prop, (∀ x, D x → D' x) ∧ D' s ∧ INVX u' um k g f D' rho) ∨ ∃ t u1 u2 g' f', t < 12 ∧ f_X3_search u (nI s) = some (nI t, u1) ∧ f_X3_settle u1 (nI s) (nI t) = some u2 ∧ XR u u2 ∧ INVX u2 um k g' f' D (fun x => rho x + if x = s then 1 else 0) := by
  obtain ⟨hgb, hfb⟩ := h.gb
  obtain ⟨h1, h2, h3, h4, h5, h6⟩ := id h
  obtain ⟨p, p1, p2, p3⟩ := x_search h1 h2 hgb hfb hs
  rcases p3 with ⟨e1, e2, e3⟩ | ⟨t, Q, q, e, ht, e1, hft, hS, he, e24, hE⟩
  · left
    refine ⟨p.2, by rw [p1, ← e1], p2.xr, fun x => D x ∨ ¬ p.2 25 x = -1, fun x => Or.inl, Or.inr e2, h1.fr p2.xr, p2.fl h2, h3, h4, h5, fun x hx d t ht w => ?_⟩
    rcases d with d | d
    · obtain ⟨a, b⟩ := h6 x hx d t ht w
      exact ⟨a, fun s' hs' z => Or.inl (b s' hs' z)⟩
    · obtain ⟨a, b⟩ := e3 x hx d t ht w
      exact ⟨a, fun s' hs' z => Or.inr (b s' hs' z)⟩
  · right
    obtain ⟨s1, s2, s3, s4, s5, s6, s7, s8, s9⟩ := id hS
    have hF := p2.fl h2
    have hpend : ∀ x, x < 12 → D x → ¬ Eg um k x t := fun x hx d w => by
      have := (h6 x hx d t ht w).1
      omega
    have hF' : FL (up2 p.2 22 t (nI (f t - 1))) g (fun x => if x = t then f t - 1 else f x) := by
      refine ⟨by simpa [up2] using hF.1, fun x hx => ?_⟩
      by_cases c : x = t
      · subst c; simp [up2, upd]
      · simpa [up2, upd, c] using hF.2 x hx
    obtain ⟨u2, g', r1, r2, r3, r4, r5, r6, r7⟩ := x_settle0 (um := um) (k := k) (start := s) (Q := Q) (q := q) (g0 := g) (f := fun x => if x = t then f t - 1 else f x) (rho := rho) (hd := hdn um k) (D := D) (C24 := p.2 24) (C25 := p.2 25) s4 s2 (fun e he => (s5 e he).1) s6 (fun e h0 he => by
      obtain ⟨t1, b1, b2, b3, e', b4, b5⟩ := s8 e h0 he
      have hqe' := (s5 e' (by omega)).1
      refine ⟨t1, b1, b2, b3, e', b4, b5, ?_⟩
      rcases s9 t1 b1 with d | ⟨e2, he2, d1, d2⟩
      · rw [d] at b5
        exact absurd b5.symm (nI_m1 (by omega))
      · have hqe2 := (s5 e2 he2).1
        have : q e2 = q e' := (nI_eq (by omega) (by omega)).mp (d1.symm.trans b5)
        rw [← this]; exact d2) FU 0 e t (up2 p.2 22 t (nI (f t - 1))) g (by simp [up2]) (by simp [up2]) he ht e24 hE hF' (fun e' _ => rfl) h3 h4 (fun x hx => by
      have h0 := h5 x hx
      by_cases c : x = t
      · subst c
        rw [if_pos rfl, if_pos rfl]
        omega
      · rw [if_neg c, if_neg c]
        exact h0) (fun x hx d y hy w => by
      obtain ⟨a, b⟩ := h6 x hx d y hy w
      have hyt : y ≠ t := fun c => hpend x hx d (c ▸ w)
      exact ⟨by show (if y = t then f t - 1 else f y) = 0; rw [if_neg hyt]; exact a, b⟩) hpend (by omega) (by have := FU_ge (z := 12) (by omega); omega)
    have xr2 : XR u u2 := p2.xr.tr (fun k hk => by rw [r2 k (by omega)]; exact up2_n _ _ _ (by omega))
    refine ⟨t, p.2, u2, g', _, ht, by rw [p1, ← e1], ?_, xr2, h1.fr xr2, r3, r4, r5, r6, r7⟩
    unfold f_X3_settle
    rw [e_isWithin, w12 ht, Option.bind_some, if_neg (by decide), if_pos (inb_nI ht (by decide)), nI_clamp (by omega), hF.2 t ht]
    rw [show nI (f t) - 1 = nI (f t - 1) by rw [show (1 : Int32) = nI 1 from rfl, pk_sub (by omega)]]
    exact r1
