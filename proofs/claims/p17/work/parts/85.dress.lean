/-! ===== the reference: the fewest; both alike ===== -/
theorem m_f2 {um : St} {k c i0 : Nat} {sg : Nat → Nat} {D : Nat → Prop} {M S22 : Nat → Int32} (hi : i0 < c) (hM : MTC um k c sg M) (hD : DMC um k c sg M D) (hr : ¬ lm c M i0) (hS : ∀ i, i < c → S22 i = nI (sg i) ∧ sg i < k) : ∀ (m i : Nat) (u : St), FrM um u → NK u k → MV u k c → mc u c ≤ i0 → u 22 = S22 → u 23 = M → (∀ t, t < i → u 24 t = 0) → c < i + m → i ≤ c → ∃ p, f_X7_finds_2 m u (nI i0) (nI i) = some p ∧ FIN um k c sg D i0 M S22 p := by
  intro m
  induction m with
  | zero => intro i u _ _ _ _ _ _ _ h1 h2; omega
  | succ m ih =>
    intro i u hf hk hv hm h22 h23 hz h1 h2
    have hc := hv.2.1
    rw [f_X7_finds_2, hv.1]
    by_cases hic : i = c
    · subst hic
      rw [if_pos (Int32.le_refl _)]
      have f1 : FrM u (up2 (up2 u 25 0 (nI i0)) 26 0 (-1)) := (FrM.up _ _ (by omega)).tr (FrM.up _ _ (by omega))
      have e24 : (up2 (up2 u 25 0 (nI i0)) 26 0 (-1)) 24 = u 24 := by simp [up2]
      have hcw : cw (tg (u 24)) i = 0 := by
        have : cw (tg (u 24)) i ≤ cw (fun _ => 0) i := cw_mono (fun t ht q => absurd (hz t ht) (tg2.mp q))
        have z : ∀ n, cw (fun _ => (0 : Int32)) n = 0 := fun n => by
          induction n with
          | zero => rfl
          | succ n ih => rw [cw, ih]; rfl
        rw [z] at this; omega
      have hs : SE (up2 (up2 u 25 0 (nI i0)) 26 0 (-1)) i 1 (fun _ => 0) := by
        refine ⟨fun t ht q => ?_, ?_, fun t ht => ?_, fun t ht => ?_, fun t ht => by omega⟩
        · rw [e24] at q; exact absurd (hz t ht) q
        · omega
        · have : t = 0 := by omega
          exact ⟨i0, hi, by simp [up2, upd, this]⟩
        · have : t = 0 := by omega
          refine ⟨?_, Nat.zero_le _⟩
          simp only [up2_s, upd, this, if_true]; rfl
      have hms : msr (up2 (up2 u 25 0 (nI i0)) 26 0 (-1)) i 1 (fun _ => 0) < FU := by
        have := FU_ge (z := 2000) (by omega)
        unfold msr
        rw [e24, hcw]
        simp only [sm]
        omega
      have := m_f39 (i0 := i0) (by omega) hM hD hr hi hS FU 1 (up2 (up2 u 25 0 (nI i0)) 26 0 (-1)) (fun _ => i0) (fun _ => 0) (fun _ => 0) (hf.tr f1) (hk.fr f1) ((hv.up _ _ (by omega)).up _ _ (by omega)) (by rw [mc_up _ _ (by omega), mc_up _ _ (by omega)]; exact hm) hs (by simpa [up2] using h22) ⟨by simpa [up2] using h23, rfl, fun e he => by
          have : e = 0 := by omega
          subst this
          exact ⟨by simp [up2, upd], hi⟩, fun e he => by omega, fun e e' he => by omega, fun y hy vy t ht w => by
          rcases vy with rfl | ⟨t1, ht1, a, -⟩
          · exact Or.inr ⟨0, by omega, rfl, Nat.zero_le _⟩
          · rw [e24] at a
            exact absurd (hz t1 ht1) a⟩ hms
      exact this
    · rw [if_neg (nI_ge (show i < c by omega) (by omega)), if_pos (inb_nI (show i < 36 by omega) (by decide)), nI_clamp (show i < 2 ^ 31 by omega), nI_1]
      have f1 : FrM u (up2 u 24 i 0) := FrM.up _ _ (by omega)
      refine ih (i + 1) _ (hf.tr f1) (hk.fr f1) (hv.up _ _ (by omega)) (by rw [mc_up _ _ (by omega)]; exact hm) (by simpa [up2] using h22) (by simpa [up2] using h23) (fun t ht => ?_) (by omega) (by omega)
      by_cases q : t = i
      · simp [up2, upd, q]
      · simpa [up2, upd, q] using hz t (by omega)
theorem mtc_le (mt : Nat → Nat → Prop) (c : Nat) : mtc mt c ≤ c := by
  have a : mtc mt c ≤ sm (fun _ => 1) c := sm_mono (fun i _ => pick_le _ _)
  have z : ∀ n, sm (fun _ => 1) n = n := fun n => by
    induction n with
    | zero => rfl
    | succ n ih => rw [sm_s, ih]
  rw [z] at a
  exact a
theorem m_dr76 {um : St} {k c : Nat} {sg : Nat → Nat} {S22 : Nat → Int32} (hS : ∀ i, i < c → S22 i = nI (sg i) ∧ sg i < k) : ∀ (m i : Nat) (u : St) (D : Nat → Prop), FrM um u → NK u k → MV u k c → mc u c ≤ i → u 22 = S22 → MTC um k c sg (u 23) → DMC um k c sg (u 23) D → (∀ j, j < c → lm c (u 23) j → j < i) → (∀ j, j < i → lm c (u 23) j ∨ D j) → c < i + m → i ≤ c → ∃ (u' : St) (D' : Nat → Prop), f_X7_dressers_76 m u (nI (c - mtc (fun i j => u 23 i = nI j) c)) (nI i) = some (nI (c - mtc (fun i j => u' 23 i = nI j) c), u') ∧ FrM um u' ∧ MTC um k c sg (u' 23) ∧ DMC um k c sg (u' 23) D' ∧ ∀ j, j < c → lm c (u' 23) j ∨ D' j := by
  intro m
  induction m with
  | zero => intro i u D _ _ _ _ _ _ _ _ _ h1 h2; omega
  | succ m ih =>
    intro i u D hf hk hv hm h22 hM hD hl hc h1 h2
    have hc36 := hv.2.1
    rw [f_X7_dressers_76, hv.1]
    by_cases hic : i = c
    · subst hic
      rw [if_pos (Int32.le_refl _)]
      exact ⟨u, D, rfl, hf, hM, hD, hc⟩
    · have hlt : i < c := by omega
      have hr : ¬ lm c (u 23) i := fun w => by have := hl i hlt w; omega
      obtain ⟨q, e1, e2, e3, e4⟩ := M_finds hlt hk hv hm
      obtain ⟨p, p1, p2, p3⟩ := m_f2 hlt hM hD hr hS FU 0 u hf hk hv hm h22 rfl (fun t ht => by omega) (by have := FU_ge (z := c) (by omega); omega) (Nat.zero_le _)
      have epq : q = p := Option.some.inj (e1.symm.trans p1)
      subst epq
      rw [if_neg (nI_ge hlt (by omega)), e1, Option.bind_some, nI_1]
      rcases p3 with ⟨a1, a2, D', a3, a4, a5⟩ | ⟨a1, a2, a3, a4, a5, a6, a7⟩
      · rw [if_pos a1, Int32.sub_zero]
        have hD' : DMC um k c sg (q.2 23) D' := by rw [a2]; exact a5
        obtain ⟨u', D2, b1, b2, b3, b4, b5⟩ := ih (i + 1) q.2 D' (hf.tr e2) (hk.fr e2) e3 e4 p2 (by rw [a2]; exact hM) hD' (fun j hj w => by
          rw [a2] at w
          have := hl j hj w
          omega) (fun j hj => by
          rw [a2]
          by_cases c0 : j = i
          · subst c0; exact Or.inr a4
          · exact (hc j (by omega)).imp id (a3 j)) (by omega) (by omega)
        rw [a2] at b1
        exact ⟨u', D2, b1, b2, b3, b4, b5⟩
      · rw [if_neg (by rw [a1]; decide)]
        have hle := mtc_le (fun i j => q.2 23 i = nI j) c
        rw [a7] at hle
        obtain ⟨u', D2, b1, b2, b3, b4, b5⟩ := ih (i + 1) q.2 D (hf.tr e2) (hk.fr e2) e3 e4 p2 a2 a3 (fun j hj w => by
          rcases a6 j hj w with rfl | w2
          · omega
          · have := hl j hj w2
            omega) (fun j hj => by
          by_cases c0 : j = i
          · subst c0; exact Or.inl a5
          · exact (hc j (by omega)).imp (a4 j (by omega)) id) (by omega) (by omega)
        rw [a7] at b1
        rw [show nI (c - mtc (fun i j => u 23 i = nI j) c) - 1 = nI (c - (mtc (fun i j => u 23 i = nI j) c + 1)) by
          rw [show (1 : Int32) = nI 1 from rfl, pk_sub (by omega), Nat.sub_sub]]
        exact ⟨u', D2, b1, b2, b3, b4, b5⟩
theorem pick_add (P : Prop) (a b : Nat) : pick P a + pick P b = pick P (a + b) := by
  rcases Classical.em P with w | w
  · rw [pick_t w, pick_t w, pick_t w]
  · rw [pick_f w, pick_f w, pick_f w]
/-- as many units of a kind as hands of such shifts -/
def BU (um u : St) (k c s : Nat) : Prop := ∀ P : Nat → Prop, sm (fun i => pick (P (u 22 i).toNatClampNeg) 1) c = sm (fun x => pick (P x) (hdn um k x)) s
theorem m_dr17 {um : St} {k s h : Nat} (hs : s < k) (hh : h ≤ 3) (he : um 18 s = nI h) (k7 : St → Int32 → Option (Int32 × St)) (F : Option (Int32 × St) → Prop) (hk7 : ∀ (u : St) (c : Nat), FrM um u → NK u k → UV u k c → c ≤ 3 * s + 3 → BU um u k c (s + 1) → F (k7 u (nI (s + 1)))) : ∀ (m i c : Nat) (u : St), FrM um u → NK u k → UV u k c → c ≤ 3 * s + i → (∀ P : Nat → Prop, sm (fun i => pick (P (u 22 i).toNatClampNeg) 1) c = sm (fun x => pick (P x) (hdn um k x)) s + pick (P s) i) → h < i + m → i ≤ h → F (f_X7_dressers_17 k7 m u (nI s) (nI i)) := by
  intro m
  induction m with
  | zero => intro i c u _ _ _ _ _ h1 h2; omega
  | succ m ih =>
    intro i c u hf hk hv hc hb h1 h2
    have hk12 := hk.1
    rw [f_X7_dressers_17, if_pos (inb_nI (show s < 12 by omega) (by decide)), nI_clamp (show s < 2 ^ 31 by omega), hf.1 18 (by omega) (by omega), he]
    by_cases hi : i = h
    · subst hi
      rw [if_pos (Int32.le_refl _), nI_1]
      refine hk7 u c hf hk hv (by omega) (fun P => ?_)
      have e : hdn um k s = i := by unfold hdn; rw [if_pos hs, he, nI_clamp (by omega)]
      rw [hb P, sm_s, e]
    · have hc36 : c < 36 := by omega
      rw [if_neg (nI_ge (show i < h by omega) (by omega)), hv.1, if_pos (inb_nI hc36 (by decide)), nI_clamp (show c < 2 ^ 31 by omega), nI_1 i]
      have f1 : FrM u (up2 (up2 (up2 u 22 c (nI s)) 23 c (-1)) 0 30 (nI c + 1)) := ((FrM.up _ _ (by omega)).tr (FrM.up _ _ (by omega))).tr (FrM.up0 _ (by omega))
      refine ih (i + 1) (c + 1) _ (hf.tr f1) (hk.fr f1) (hv.push hs) (by omega) (fun P => ?_) (by omega) (by omega)
      have e22 : (up2 (up2 (up2 u 22 c (nI s)) 23 c (-1)) 0 30 (nI c + 1)) 22 = upd (u 22) c (nI s) := by simp [up2]
      rw [sm_s, e22, ← pick_add (P s) i 1, ← Nat.add_assoc, ← hb P]
      congr 1
      · refine sm_cong (fun t ht => ?_)
        have : ¬ t = c := by omega
        simp [upd, this]
      · simp only [upd, if_true]
        rw [nI_clamp (by omega)]
theorem m_dr7 {um : St} {k : Nat} (F : Option (Int32 × St) → Prop) (hF : ∀ (u : St) (c : Nat), FrM um u → NK u k → UV u k c → c ≤ 36 → BU um u k c k → F (f_X7_dressers_76 FU u (nI c) 0)) : ∀ (m s c : Nat) (u : St), FrM um u → NK u k → UV u k c → c ≤ 3 * s → BU um u k c s → k < s + m → s ≤ k → F (f_X7_dressers_7 m u (nI s)) := by
  intro m
  induction m with
  | zero => intro s c u _ _ _ _ _ h1 h2; omega
  | succ m ih =>
    intro s c u hf hk hv hc hb h1 h2
    obtain ⟨k12, k14, kn⟩ := id hk
    rw [f_X7_dressers_7, k14]
    by_cases hi : s = k
    · subst hi
      rw [if_pos (Int32.le_refl _), hv.1]
      exact hF u c hf hk hv (by omega) hb
    · have hlt : s < k := by omega
      obtain ⟨-, h, hh, he⟩ := kn s hlt
      have he' : um 18 s = nI h := by rw [← hf.1 18 (by omega) (by omega)]; exact he
      rw [if_neg (nI_ge hlt (by omega))]
      exact m_dr17 hlt hh he' (f_X7_dressers_7 m) F (fun u' c' a1 a2 a3 a4 a5 => ih (s + 1) c' u' a1 a2 a3 (by omega) a5 (by omega) (by omega)) FU 0 c u hf hk hv (by omega) (fun P => by
        rw [hb P]
        rcases Classical.em (P s) with w | w
        · rw [pick_t w]; rfl
        · rw [pick_f w]; rfl) (FUz (by omega)) (Nat.zero_le _)
theorem sm_cut {f : Nat → Nat} {k : Nat} : ∀ {n : Nat}, k ≤ n → (∀ x, k ≤ x → x < n → f x = 0) → sm f n = sm f k
  | 0, h, _ => by rw [show k = 0 by omega]
  | n + 1, h, hz => by
    by_cases c : k = n + 1
    · rw [c]
    · rw [sm_s, hz n (by omega) (by omega), sm_cut (n := n) (by omega) (fun x h1 h2 => hz x h1 (by omega))]
      rfl
theorem m_dressers {um : St} {k : Nat} (hk : NK um k) : RES um k (FrM um) (f_X7_dressers um) := by
  have hk12 := hk.1
  have f0 : FrM um (up2 um 0 30 0) := FrM.up0 _ (by omega)
  refine m_dr7 (RES um k (FrM um)) (fun u c hf hk' hv hc hb => ?_) FU 0 0 (up2 um 0 30 0) f0 (hk.fr f0) ⟨by simp [up2, upd]; rfl, fun i hi => by omega, fun i hi => by omega⟩ (Nat.zero_le _) (fun P => rfl) (by have := FU_ge (z := k) (by omega); omega) (Nat.zero_le _)
  obtain ⟨v1, v2, v3⟩ := id hv
  have hS : ∀ i, i < c → u 22 i = nI ((u 22 i).toNatClampNeg) ∧ (u 22 i).toNatClampNeg < k := fun i hi => by
    obtain ⟨s, hs, e⟩ := v2 i hi
    rw [e, nI_clamp (by omega)]
    exact ⟨rfl, hs⟩
  have hm0 : mc u c ≤ 0 := by
    have : mc u c ≤ cw (fun _ => 0) c := cw_mono (fun t ht q => absurd (v3 t ht) (mg2.mp q))
    have z : ∀ n, cw (fun _ => (0 : Int32)) n = 0 := fun n => by
      induction n with
      | zero => rfl
      | succ n ih => rw [cw, ih]; rfl
    rw [z] at this; omega
  have no : ∀ i j, i < c → j < c → ¬ u 23 i = nI j := fun i j hi hj w => by
    rw [v3 i hi] at w
    exact nI_m1 (by omega) w.symm
  have e0 : mtc (fun i j => u 23 i = nI j) c = 0 := sm_zero (fun i hi => pick_f (fun ⟨j, hj, w⟩ => no i j hi hj w) _)
  have hU : ∀ P : Nat → Prop, sm (fun i => pick (P ((u 22 i).toNatClampNeg)) 1) c = sm (fun s => pick (P s) (hdn um k s)) 12 := fun P => by
    rw [hb P, sm_cut (k := k) (n := 12) hk12 (fun x h1 h2 => by
      have : hdn um k x = 0 := by unfold hdn; rw [if_neg (by omega)]
      rw [this]
      exact Nat.le_zero.mp (pick_le _ _))]
  have ec : c = sm (hdn um k) 12 := by
    have a := hU (fun _ => True)
    have z : ∀ n, sm (fun _ => pick True 1) n = n := fun n => by
      induction n with
      | zero => rfl
      | succ n ih => rw [sm_s, ih, pick_t trivial]
    rw [z] at a
    rw [a]
    exact sm_cong (fun t _ => pick_t trivial _)
  obtain ⟨u', D, b1, b2, ⟨b3, b4⟩, b5, b6⟩ := m_dr76 (um := um) (k := k) (c := c) (sg := fun i => (u 22 i).toNatClampNeg) (S22 := u 22) hS FU 0 u (fun _ => False) hf hk' ⟨v1, hc, v2, fun i hi => Or.inl (v3 i hi)⟩ hm0 rfl ⟨fun i hi => Or.inl (v3 i hi), fun i i' j hi _ hj w => absurd w (no i j hi hj)⟩ (fun j hj d => d.elim) (fun j hj ⟨i, hi, w⟩ => absurd w (no i j hi hj)) (fun j hj => by omega) (by have := FU_ge (z := c) (by omega); omega) (Nat.zero_le _)
  rw [e0, Nat.sub_zero] at b1
  have nId : ∀ {a b : Nat}, a < c → b < c → nI a = nI b → a = b := fun ha hb w => (nI_eq (by omega) (by omega)).mp w
  have em : mtc (fun i j => u' 23 i = nI j) c = mtc (fun i j => i < c ∧ j < c ∧ u' 23 i = nI j) c := sm_cong (fun i hi => pick_iff ⟨fun ⟨j, hj, w⟩ => ⟨j, hj, hi, hj, w⟩, fun ⟨j, hj, _, _, w⟩ => ⟨j, hj, w⟩⟩ 1)
  rw [em] at b1
  refine ⟨u', _, by rw [← ec]; exact b1, b2, fun D' => ?_, _, cut_le_match (E := Eg um k) (hd := hdn um k) (sg := fun i => (u 22 i).toNatClampNeg) D hU ?_ ?_ ?_⟩
  · exact match_le_cut (E := Eg um k) (hd := hdn um k) (sg := fun i => (u 22 i).toNatClampNeg) D' hU (fun i hi => by have := (hS i hi).2; omega) (fun i i' j h1 h2 => b4 i i' j h1.1 h2.1 h1.2.1 h1.2.2 h2.2.2) (fun i j hi hj w => by
      rcases b3 i hi with q | ⟨j', hj', q, hE⟩
      · rw [w.2.2] at q
        exact absurd q (nI_m1 (by omega))
      · have : j' = j := nId hj' hj (q.symm.trans w.2.2)
        rw [← this]; exact hE)
  · exact fun i j j' h1 h2 => nId h1.2.1 h2.2.1 (h1.2.2.symm.trans h2.2.2)
  · intro j hj d
    obtain ⟨i, hi, w⟩ := (b6 j hj).resolve_right d
    exact ⟨i, hi, hi, hj, w⟩
  · intro j hj d i hi w
    obtain ⟨j', hj', m, d'⟩ := b5 j hj d i hi w
    exact ⟨j', hj', ⟨hi, hj', m⟩, d'⟩
theorem al_dressers {ux um : St} (h : R ux um) : Both (f_X6_dressers ux) (f_X7_dressers um) := by
  obtain ⟨hP, hL, ⟨k, hk, k1, k2, hs⟩, hW, -⟩ := id h
  have hG : GX ux um k := ⟨hk, k1, fun s hs' => by
    obtain ⟨a1, a2, a3, a4, a5, a6, a7, a8, a9, a10⟩ := hs s hs'
    exact ⟨a3, a4, a5, a6, a9, a10⟩, hW⟩
  have hN : NK um k := ⟨hk, k2, fun s hs' => by
    obtain ⟨a1, a2, a3, a4, a5, a6, a7, a8, a9, a10⟩ := hs s hs'
    exact ⟨a9, a10⟩⟩
  obtain ⟨u', m1, e1, f1, c1, D1, d1⟩ := x_dressers hG
  obtain ⟨w', m2, e2, f2, c2, D2, d2⟩ := m_dressers hN
  have e : m1 = m2 := Nat.le_antisymm (Nat.le_trans (c1 D2) d2) (Nat.le_trans (c2 D1) d1)
  exact ⟨_, _, e1, e2, by rw [e], h.fr f1 f2⟩
