theorem M_f2 {k c i0 : Nat} (hi : i0 < c) : ∀ (m i : Nat) (u : St), NK u k → MV u k c → mc u c ≤ i0 → (∀ t, t < i → u 24 t = 0) → c < i + m → i ≤ c → GoF u k c (i0 + 1) (f_X7_finds_2 m u (nI i0) (nI i)) := by
  intro m
  induction m with
  | zero => intro i u hk hv hm hz h1 h2; omega
  | succ m ih =>
    intro i u hk hv hm hz h1 h2
    have hc := hv.2.1
    rw [f_X7_finds_2, hv.1]
    by_cases hic : i = c
    · subst hic
      rw [if_pos (Int32.le_refl _)]
      have f1 : FrM u (up2 (up2 u 25 0 (nI i0)) 26 0 (-1)) := (FrM.up _ _ (by omega)).tr (FrM.up _ _ (by omega))
      have e24 : (up2 (up2 u 25 0 (nI i0)) 26 0 (-1)) 24 = u 24 := by simp [up2]
      have hcw : cw (tg (u 24)) i = 0 := by
        have : cw (tg (u 24)) i ≤ cw (fun _ => 0) i := cw_mono (fun t ht q => absurd (hz t ht) (tg2.mp q))
        have z : ∀ n, cw (fun _ => (0 : Int32)) n = 0 := fun n => by
          induction n with
          | zero => rfl
          | succ n ih => rw [cw, ih]; rfl
        rw [z] at this; omega
      have hs : SE (up2 (up2 u 25 0 (nI i0)) 26 0 (-1)) i 1 (fun _ => 0) := by
        refine ⟨fun t ht q => ?_, ?_, fun t ht => ?_, fun t ht => ?_, fun t ht => by omega⟩
        · rw [e24] at q; exact absurd (hz t ht) q
        · omega
        · have : t = 0 := by omega
          exact ⟨i0, hi, by simp [up2, upd, this]⟩
        · have : t = 0 := by omega
          refine ⟨?_, Nat.zero_le _⟩
          simp only [up2_s, upd, this, if_true]; rfl
      have hms : msr (up2 (up2 u 25 0 (nI i0)) 26 0 (-1)) i 1 (fun _ => 0) < FU := by
        have := FU_ge (z := 2000) (by omega)
        unfold msr
        rw [e24, hcw]
        simp only [sm]
        omega
      exact GoF.tr f1 (M_f39 (show i0 ≤ 35 by omega) FU 1 _ _ (hk.fr f1) ((hv.up _ _ (by omega)).up _ _ (by omega)) (by rw [mc_up _ _ (by omega), mc_up _ _ (by omega)]; exact hm) hs hms)
    · rw [if_neg (nI_ge (show i < c by omega) (by omega)), if_pos (inb_nI (show i < 36 by omega) (by decide)), nI_clamp (show i < 2 ^ 31 by omega), nI_1]
      have f1 : FrM u (up2 u 24 i 0) := FrM.up _ _ (by omega)
      refine GoF.tr f1 (ih (i + 1) _ (hk.fr f1) (hv.up _ _ (by omega)) (by rw [mc_up _ _ (by omega)]; exact hm) (fun t ht => ?_) (by omega) (by omega))
      by_cases q : t = i
      · simp [up2, upd, q]
      · simpa [up2, upd, q] using hz t (by omega)
theorem M_finds {u : St} {k c i0 : Nat} (hi : i0 < c) (hk : NK u k) (hv : MV u k c) (hm : mc u c ≤ i0) : GoF u k c (i0 + 1) (f_X7_finds u (nI i0)) := M_f2 hi FU 0 u hk hv hm (fun t ht => by omega) (by have := hv.2.1; have := FU_ge (z := c) (by omega); omega) (Nat.zero_le _)
theorem M_dr76 {k c : Nat} : ∀ (m i : Nat) (u : St) (l1 : Int32), NK u k → MV u k c → mc u c ≤ i → c < i + m → i ≤ c → GoM u (f_X7_dressers_76 m u l1 (nI i)) := by
  intro m
  induction m with
  | zero => intro i u l1 hk hv hm h1 h2; omega
  | succ m ih =>
    intro i u l1 hk hv hm h1 h2
    have hc := hv.2.1
    rw [f_X7_dressers_76, hv.1]
    by_cases hic : i = c
    · subst hic
      rw [if_pos (Int32.le_refl _)]
      exact ⟨_, rfl, FrM.rf u⟩
    · obtain ⟨q, e1, e2, e3, e4⟩ := M_finds (show i < c by omega) hk hv hm
      rw [if_neg (nI_ge (show i < c by omega) (by omega)), e1, Option.bind_some, nI_1]
      split <;> exact GoM.tr e2 (ih (i + 1) _ _ (hk.fr e2) e3 e4 (by omega) (by omega))
def UV (u : St) (k c : Nat) : Prop := u 0 30 = nI c ∧ (∀ i, i < c → ∃ s, s < k ∧ u 22 i = nI s) ∧ ∀ i, i < c → u 23 i = -1
theorem UV.push {u : St} {k c s : Nat} (h : UV u k c) (hs : s < k) : UV (up2 (up2 (up2 u 22 c (nI s)) 23 c (-1)) 0 30 (nI c + 1)) k (c + 1) := by
  obtain ⟨h1, h2, h3⟩ := h
  refine ⟨by simp [up2, upd, nI_1], fun i hi => ?_, fun i hi => ?_⟩
  · by_cases q : i = c
    · exact ⟨s, hs, by simp [up2, upd, q]⟩
    · simpa [up2, upd, q] using h2 i (by omega)
  · by_cases q : i = c
    · simp [up2, upd, q]
    · simpa [up2, upd, q] using h3 i (by omega)
theorem M_dr17 {k s h : Nat} (hs : s < k) (k7 : St → Int32 → Option (Int32 × St)) (hk7 : ∀ (u : St) (c : Nat), NK u k → UV u k c → c ≤ 3 * s + 3 → GoM u (k7 u (nI (s + 1)))) : ∀ (m i c : Nat) (u : St), NK u k → u 18 s = nI h → h ≤ 3 → UV u k c → c ≤ 3 * s + i → h < i + m → i ≤ h → GoM u (f_X7_dressers_17 k7 m u (nI s) (nI i)) := by
  intro m
  induction m with
  | zero => intro i c u hk he hh hv hc h1 h2; omega
  | succ m ih =>
    intro i c u hk he hh hv hc h1 h2
    have hk12 := hk.1
    rw [f_X7_dressers_17, if_pos (inb_nI (show s < 12 by omega) (by decide)), nI_clamp (show s < 2 ^ 31 by omega), he]
    by_cases hi : i = h
    · subst hi
      rw [if_pos (Int32.le_refl _), nI_1]
      exact hk7 u c hk hv (by omega)
    · rw [if_neg (nI_ge (show i < h by omega) (by omega)), hv.1, if_pos (inb_nI (show c < 36 by omega) (by decide)), nI_clamp (show c < 2 ^ 31 by omega), nI_1 (a := i)]
      have f1 : FrM u (up2 (up2 (up2 u 22 c (nI s)) 23 c (-1)) 0 30 (nI c + 1)) := ((FrM.up _ _ (by omega)).tr (FrM.up _ _ (by omega))).tr (FrM.up0 _ (by omega))
      exact GoM.tr f1 (ih (i + 1) (c + 1) _ (hk.fr f1) (by simpa [up2] using he) hh (hv.push hs) (by omega) (by omega) (by omega))
theorem M_dr7 {k : Nat} : ∀ (m s c : Nat) (u : St), NK u k → UV u k c → c ≤ 3 * s → k < s + m → s ≤ k → GoM u (f_X7_dressers_7 m u (nI s)) := by
  intro m
  induction m with
  | zero => intro s c u hk hv hc h1 h2; omega
  | succ m ih =>
    intro s c u hk hv hc h1 h2
    obtain ⟨k12, k14, kn⟩ := id hk
    rw [f_X7_dressers_7, k14]
    by_cases hi : s = k
    · subst hi
      rw [if_pos (Int32.le_refl _)]
      have hm : mc u c ≤ 0 := by
        have : mc u c ≤ cw (fun _ => 0) c := cw_mono (fun t ht q => absurd (hv.2.2 t ht) (mg2.mp q))
        have z : ∀ n, cw (fun _ => (0 : Int32)) n = 0 := fun n => by
          induction n with
          | zero => rfl
          | succ n ih => rw [cw, ih]; rfl
        rw [z] at this; omega
      exact M_dr76 (k := s) (c := c) FU 0 u _ hk ⟨hv.1, by omega, hv.2.1, fun i hi => Or.inl (hv.2.2 i hi)⟩ hm (by have := FU_ge (z := c) (by omega); omega) (Nat.zero_le _)
    · obtain ⟨-, h, hh, he⟩ := kn s (by omega)
      rw [if_neg (nI_ge (show s < k by omega) (by omega))]
      exact M_dr17 (k := k) (show s < k by omega) _ (fun u' c' a1 a2 a3 => ih (s + 1) c' u' a1 a2 (by omega) (by omega) (by omega)) FU 0 c u hk he hh hv (by omega) (FUz (by omega)) (Nat.zero_le _)
theorem gm_dressers {u : St} (hs : HN u) : GoM u (f_X7_dressers u) := by
  obtain ⟨k, hk, h14, hsh⟩ := hs
  have f1 : FrM u (up2 u 0 30 0) := FrM.up0 _ (by omega)
  have nk : NK u k := ⟨hk, h14, fun s h => ⟨(hsh s h).2.2.1, (hsh s h).2.2.2⟩⟩
  exact GoM.tr f1 (M_dr7 FU 0 0 _ (nk.fr f1) ⟨by simp [up2, upd]; rfl, fun i hi => by omega, fun i hi => by omega⟩ (Nat.zero_le _) (by have := FU_ge (z := k) (by omega); omega) (Nat.zero_le _))
