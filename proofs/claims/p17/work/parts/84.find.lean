/-! ===== the reference: partners found ===== -/
def MTC (um : St) (k c : Nat) (sg : Nat → Nat) (M : Nat → Int32) : Prop := (∀ i, i < c → M i = -1 ∨ ∃ j, j < c ∧ M i = nI j ∧ Eg um k (sg j) (sg i)) ∧ ∀ i i' j, i < c → i' < c → j < c → M i = nI j → M i' = nI j → i = i'
def DMC (um : St) (k c : Nat) (sg : Nat → Nat) (M : Nat → Int32) (D : Nat → Prop) : Prop := ∀ j, j < c → D j → ∀ i, i < c → Eg um k (sg j) (sg i) → ∃ j', j' < c ∧ M i = nI j' ∧ D j'
def lm (c : Nat) (M : Nat → Int32) (j : Nat) : Prop := ∃ i, i < c ∧ M i = nI j
/-- one more is matched: r -/
def NEWM (um : St) (k c : Nat) (sg : Nat → Nat) (D : Nat → Prop) (r : Nat) (M M' : Nat → Int32) : Prop := MTC um k c sg M' ∧ DMC um k c sg M' D ∧ (∀ j, j < c → lm c M j → lm c M' j) ∧ lm c M' r ∧ (∀ j, j < c → lm c M' j → j = r ∨ lm c M j) ∧ mtc (fun i j => M' i = nI j) c = mtc (fun i j => M i = nI j) c + 1
theorem aug {um : St} {k c : Nat} {sg : Nat → Nat} {D : Nat → Prop} {r d : Nat} {M M' : Nat → Int32} {X J : Nat → Nat} (hc : c ≤ 36) (hM : MTC um k c sg M) (hD : DMC um k c sg M D) (hr : ¬ lm c M r) (hX0 : X 0 = r) (hX : ∀ e, e ≤ d → X e < c) (hJ : ∀ e, e ≤ d → J e < c) (hE : ∀ e, e ≤ d → Eg um k (sg (X e)) (sg (J e))) (hp : ∀ e, e < d → M (J e) = nI (X (e + 1))) (hlast : M (J d) = -1) (hdis : ∀ e e', e ≤ d → e' ≤ d → J e = J e' → e = e') (h1 : ∀ e, e ≤ d → M' (J e) = nI (X e)) (h2 : ∀ i, (∀ e, e ≤ d → i ≠ J e) → M' i = M i) : NEWM um k c sg D r M M' := by
  have split : ∀ i, (∃ e, e ≤ d ∧ i = J e) ∨ ∀ e, e ≤ d → i ≠ J e := fun i => by
    rcases Classical.em (∃ e, e ≤ d ∧ i = J e) with w | w
    · exact Or.inl w
    · exact Or.inr (fun e he q => w ⟨e, he, q⟩)
  have nId : ∀ {a b : Nat}, a < c → b < c → nI a = nI b → a = b := fun ha hb w => (nI_eq (by omega) (by omega)).mp w
  -- where a left one of the path was matched
  have back : ∀ e, e ≤ d → X e = r ∨ ∃ e0, e0 < d ∧ e = e0 + 1 ∧ M (J e0) = nI (X e) := fun e he => by
    cases e with
    | zero => exact Or.inl hX0
    | succ e0 => exact Or.inr ⟨e0, by omega, rfl, hp e0 (by omega)⟩
  have notD : ∀ n e, e ≤ d → d - e = n → ¬ D (X e) := by
    intro n
    induction n with
    | zero =>
      intro e he hn w
      have : e = d := by omega
      subst this
      obtain ⟨j', hj', m, -⟩ := hD (X e) (hX e he) w (J e) (hJ e he) (hE e he)
      rw [hlast] at m
      exact nI_m1 (by omega) m.symm
    | succ n ih =>
      intro e he hn w
      obtain ⟨j', hj', m, dj⟩ := hD (X e) (hX e he) w (J e) (hJ e he) (hE e he)
      rw [hp e (by omega)] at m
      have := nId (hX (e + 1) (by omega)) hj' m
      rw [← this] at dj
      exact ih (e + 1) (by omega) (by omega) dj
  have notN : ∀ e, e ≤ d → ∀ j, j < c → D j → ¬ Eg um k (sg j) (sg (J e)) := fun e he j hj dj w => by
    obtain ⟨j', hj', m, dj'⟩ := hD j hj dj (J e) (hJ e he) w
    by_cases q : e = d
    · subst q
      rw [hlast] at m
      exact nI_m1 (by omega) m.symm
    · rw [hp e (by omega)] at m
      have := nId (hX (e + 1) (by omega)) hj' m
      rw [← this] at dj'
      exact notD _ (e + 1) (by omega) rfl dj'
  have xinj : ∀ e e', e ≤ d → e' ≤ d → X e = X e' → e = e' := fun e e' he he' w => by
    rcases back e he with a | ⟨e0, b1, b2, b3⟩ <;> rcases back e' he' with a' | ⟨e0', b1', b2', b3'⟩
    · cases e with
      | zero =>
        cases e' with
        | zero => rfl
        | succ n => exact absurd ⟨J n, hJ n (by omega), by rw [hp n (by omega), a']⟩ hr
      | succ n => exact absurd ⟨J n, hJ n (by omega), by rw [hp n (by omega), a]⟩ hr
    · exact absurd ⟨J e0', hJ e0' (by omega), by rw [b3', ← w, a]⟩ hr
    · exact absurd ⟨J e0, hJ e0 (by omega), by rw [b3, w, a']⟩ hr
    · have := hM.2 (J e0) (J e0') (X e) (hJ e0 (by omega)) (hJ e0' (by omega)) (hX e he) b3 (by rw [b3', w])
      have := hdis e0 e0' (by omega) (by omega) this
      omega
  refine ⟨⟨fun i hi => ?_, fun i i' j hi hi' hj w w' => ?_⟩, fun j hj dj i hi w => ?_, fun j hj ⟨i, hi, w⟩ => ?_, ⟨J 0, hJ 0 (by omega), by rw [h1 0 (by omega), hX0]⟩, fun j hj ⟨i, hi, w⟩ => ?_, ?_⟩
  · rcases split i with ⟨e, he, rfl⟩ | q
    · exact Or.inr ⟨X e, hX e he, h1 e he, hE e he⟩
    · rw [h2 i q]; exact hM.1 i hi
  · rcases split i with ⟨e, he, rfl⟩ | q <;> rcases split i' with ⟨e', he', rfl⟩ | q'
    · rw [h1 e he] at w
      rw [h1 e' he'] at w'
      have := xinj e e' he he' ((nId (hX e he) hj w).trans (nId (hX e' he') hj w').symm)
      rw [this]
    · rw [h1 e he] at w
      rw [h2 i' q'] at w'
      have hx := nId (hX e he) hj w
      rcases back e he with a | ⟨e0, b1, b2, b3⟩
      · exact absurd ⟨i', hi', by rw [w', ← hx, a]⟩ hr
      · have := hM.2 (J e0) i' j (hJ e0 (by omega)) hi' hj (by rw [b3, hx]) w'
        exact absurd this.symm (q' e0 (by omega))
    · rw [h1 e' he'] at w'
      rw [h2 i q] at w
      have hx := nId (hX e' he') hj w'
      rcases back e' he' with a | ⟨e0, b1, b2, b3⟩
      · exact absurd ⟨i, hi, by rw [w, ← hx, a]⟩ hr
      · have := hM.2 (J e0) i j (hJ e0 (by omega)) hi hj (by rw [b3, hx]) w
        exact absurd this.symm (q e0 (by omega))
    · rw [h2 i q] at w
      rw [h2 i' q'] at w'
      exact hM.2 i i' j hi hi' hj w w'
  · rcases split i with ⟨e, he, rfl⟩ | q
    · exact absurd w (notN e he j hj dj)
    · rw [h2 i q]; exact hD j hj dj i hi w
  · rcases split i with ⟨e, he, rfl⟩ | q
    · by_cases c0 : e = d
      · subst c0
        rw [hlast] at w
        exact absurd w.symm (nI_m1 (by omega))
      · rw [hp e (by omega)] at w
        have := nId (hX (e + 1) (by omega)) hj w
        exact ⟨J (e + 1), hJ (e + 1) (by omega), by rw [h1 (e + 1) (by omega), this]⟩
    · exact ⟨i, hi, by rw [h2 i q]; exact w⟩
  · rcases split i with ⟨e, he, rfl⟩ | q
    · rw [h1 e he] at w
      have hx := nId (hX e he) hj w
      rcases back e he with a | ⟨e0, b1, b2, b3⟩
      · exact Or.inl (hx.symm.trans a)
      · exact Or.inr ⟨J e0, hJ e0 (by omega), by rw [b3, hx]⟩
    · exact Or.inr ⟨i, hi, by rw [← h2 i q]; exact w⟩
  · have e := sm_one (f := fun i => pick (∃ j, j < c ∧ M' i = nI j) 1) (g := fun i => pick (∃ j, j < c ∧ M i = nI j) 1) (j := J d) (n := c) (hJ d (Nat.le_refl _)) (fun i hi hne => pick_iff (by
      rcases split i with ⟨e, he, rfl⟩ | q
      · have hed : e < d := by
          rcases Nat.lt_or_ge e d with w | w
          · exact w
          · exact absurd (by rw [show e = d by omega]) hne
        exact ⟨fun _ => ⟨X (e + 1), hX (e + 1) (by omega), hp e hed⟩, fun _ => ⟨X e, hX e he, h1 e he⟩⟩
      · rw [h2 i q]) 1)
    have e' : sm (fun i => pick (∃ j, j < c ∧ M' i = nI j) 1) c + pick (∃ j, j < c ∧ M (J d) = nI j) 1 = sm (fun i => pick (∃ j, j < c ∧ M i = nI j) 1) c + pick (∃ j, j < c ∧ M' (J d) = nI j) 1 := e
    rw [pick_f (fun ⟨j, hj, w⟩ => by rw [hlast] at w; exact nI_m1 (by omega) w.symm), pick_t ⟨X d, hX d (Nat.le_refl _), h1 d (Nat.le_refl _)⟩] at e'
    exact e'
theorem m_f126 : ∀ (m d : Nat) (w : St) (X J : Nat → Nat), d ≤ 36 → (∀ e, e < d → w 25 e = nI (X e) ∧ w 26 e = nI (J e) ∧ J e < 36) → (∀ e e', e < d → e' < d → J e = J e' → e = e') → d < m → ∃ w', f_X7_finds_126 m w (nI d - 1) = some (1, w') ∧ (∀ k, k ≠ 23 → w' k = w k) ∧ (∀ e, e < d → w' 23 (J e) = nI (X e)) ∧ ∀ i, (∀ e, e < d → i ≠ J e) → w' 23 i = w 23 i := by
  intro m
  induction m with
  | zero => intro d w X J _ _ _ h; omega
  | succ m ih =>
    intro d w X J hd h hdis hm
    rw [f_X7_finds_126]
    cases d with
    | zero =>
      rw [if_pos (by decide)]
      exact ⟨w, rfl, fun _ _ => rfl, fun e he => by omega, fun i _ => rfl⟩
    | succ d =>
      obtain ⟨a1, a2, a3⟩ := h d (by omega)
      rw [nI_pred, if_neg (nI_pos (by omega)), if_pos (inb_nI (show d < 36 by omega) (by decide)), nI_clamp (show d < 2 ^ 31 by omega), a2, if_pos (inb_nI a3 (by decide)), nI_clamp (show J d < 2 ^ 31 by omega), a1, show nI d + (-1) = nI d - 1 from (Int32.sub_eq_add_neg ..).symm]
      obtain ⟨w', b1, b2, b3, b4⟩ := ih d (up2 w 23 (J d) (nI (X d))) X J (by omega) (fun e he => by simpa [up2] using h e (by omega)) (fun e e' he he' => hdis e e' (by omega) (by omega)) (by omega)
      refine ⟨w', b1, fun k hk => by rw [b2 k hk]; exact up2_n _ _ _ hk, fun e he => ?_, fun i hi => ?_⟩
      · by_cases q : e = d
        · subst q
          rw [b4 (J e) (fun e' he' q => by have := hdis e e' (by omega) (by omega) q; omega)]
          simp [up2, upd]
        · exact b3 e (by omega)
      · rw [b4 i (fun e he => hi e (by omega))]
        have : ¬ i = J d := hi d (by omega)
        simp [up2, upd, this]
/-- the search at a height: partners, path, and what is still to be tried -/
def DF (um : St) (k c : Nat) (sg : Nat → Nat) (M : Nat → Int32) (r h : Nat) (X T J : Nat → Nat) (u : St) : Prop := u 23 = M ∧ X 0 = r ∧ (∀ e, e < h → u 25 e = nI (X e) ∧ X e < c) ∧ (∀ e, e + 1 < h → u 26 e = nI (J e) ∧ J e < c ∧ M (J e) = nI (X (e + 1)) ∧ Eg um k (sg (X e)) (sg (J e)) ∧ ¬ u 24 (J e) = 0) ∧ (∀ e e', e + 1 < h → e' + 1 < h → J e = J e' → e = e') ∧ ∀ y, y < c → (y = r ∨ ∃ i, i < c ∧ ¬ u 24 i = 0 ∧ M i = nI y) → ∀ i, i < c → Eg um k (sg y) (sg i) → ¬ u 24 i = 0 ∨ ∃ e, e < h ∧ X e = y ∧ T e ≤ i
theorem m_canGo {u um : St} {k s t : Nat} (hf : FrM um u) (hk : NK u k) (hs : s < k) (ht : t < k) : ∃ r, f_X7_canGo u (nI s) (nI t) = some r ∧ TB r (Eg um k s t) := by
  obtain ⟨hk12, -, hn⟩ := hk
  obtain ⟨⟨a, ha, ea⟩, -⟩ := hn s hs
  obtain ⟨⟨b, hb, eb⟩, -⟩ := hn t ht
  obtain ⟨i1, i2⟩ := ix6m ha hb
  have ee : Eg um k s t ↔ ¬ (um 16 t < um 17 s + um 19 (6 * a + b)) := by
    have ea' : um 15 s = nI a := by rw [← hf.1 15 (by omega) (by omega)]; exact ea
    have eb' : um 15 t = nI b := by rw [← hf.1 15 (by omega) (by omega)]; exact eb
    unfold Eg
    rw [ea', eb', nI_clamp (show a < 2 ^ 31 by omega), nI_clamp (show b < 2 ^ 31 by omega)]
    exact ⟨fun w => w.2.2, fun w => ⟨hs, ht, w⟩⟩
  unfold f_X7_canGo
  rw [if_pos (inb_nI (show t < 12 by omega) (by decide)), if_pos (inb_nI (show s < 12 by omega) (by decide)), nI_clamp (show s < 2 ^ 31 by omega), nI_clamp (show t < 2 ^ 31 by omega), ea, eb, if_pos i1, i2, hf.1 16 (by omega) (by omega), hf.1 17 (by omega) (by omega), hf.1 19 (by omega) (by omega)]
  by_cases w : um 16 t < um 17 s + um 19 (6 * a + b)
  · rw [if_pos w]
    exact ⟨0, rfl, TB.no (fun q => ee.mp q w)⟩
  · rw [if_neg w]
    exact ⟨1, rfl, TB.yes (ee.mpr w)⟩
/-- what a try for r leaves -/
def FIN (um : St) (k c : Nat) (sg : Nat → Nat) (D : Nat → Prop) (r : Nat) (M : Nat → Int32) (S22 : Nat → Int32) (p : Int32 × St) : Prop := p.2 22 = S22 ∧ ((p.1 = 0 ∧ p.2 23 = M ∧ ∃ D' : Nat → Prop, (∀ x, D x → D' x) ∧ D' r ∧ DMC um k c sg M D') ∨ (p.1 = 1 ∧ NEWM um k c sg D r M (p.2 23)))
theorem m_f39 {um : St} {k c i0 : Nat} {sg : Nat → Nat} {D : Nat → Prop} {r : Nat} {M S22 : Nat → Int32} (hi0 : i0 ≤ 35) (hM : MTC um k c sg M) (hD : DMC um k c sg M D) (hr : ¬ lm c M r) (hrc : r < c) (hS : ∀ i, i < c → S22 i = nI (sg i) ∧ sg i < k) : ∀ (m h : Nat) (u : St) (X T J : Nat → Nat), FrM um u → NK u k → MV u k c → mc u c ≤ i0 → SE u c h T → u 22 = S22 → DF um k c sg M r h X T J u → msr u c h T < m → ∃ p, f_X7_finds_39 m u (nI h - 1) = some p ∧ FIN um k c sg D r M S22 p := by
  intro m
  induction m with
  | zero => intro h u X T J _ _ _ _ _ _ _ hm; omega
  | succ m ih =>
    intro h u X T J hf hk hv hmc hs h22 hdf hm
    rw [f_X7_finds_39]
    obtain ⟨v1, v2, v3, v4⟩ := id hv
    obtain ⟨s1, s2, s3, s4, s5⟩ := id hs
    obtain ⟨d1, d2, d3, d4, d5, d6⟩ := id hdf
    cases h with
    | zero =>
      rw [if_pos (by decide)]
      refine ⟨_, rfl, h22, Or.inl ⟨rfl, d1, fun y => D y ∨ (y < c ∧ (y = r ∨ ∃ i, i < c ∧ ¬ u 24 i = 0 ∧ M i = nI y)), fun x => Or.inl, Or.inr ⟨hrc, Or.inl rfl⟩, fun y hy dy i hi w => ?_⟩⟩
      rcases dy with dy | ⟨-, dy⟩
      · obtain ⟨j', a, b, e⟩ := hD y hy dy i hi w
        exact ⟨j', a, b, Or.inl e⟩
      · rcases d6 y hy dy i hi w with a | ⟨e, he, -⟩
        · have hne := s1 i hi a
          rw [d1] at hne
          rcases hM.1 i hi with b | ⟨j', hj', b, -⟩
          · exact absurd b hne
          · exact ⟨j', hj', b, Or.inr ⟨hj', Or.inr ⟨i, hi, a, b⟩⟩⟩
        · omega
    | succ d =>
      have hle : cw (tg (u 24)) c ≤ mc u c := cw_mono (fun i hi q => mg2.mpr (s1 i hi (tg2.mp q)))
      obtain ⟨ex, hx⟩ := d3 d (by omega)
      obtain ⟨ew, hwc⟩ := s4 d (by omega)
      have es1 : u 22 (X d) = nI (sg (X d)) := by rw [h22]; exact (hS _ hx).1
      have hs1 := (hS _ hx).2
      have hd : d ≤ 35 := by omega
      have hU : upd (u 26) d (u 26 d + 1) d = nI (T d) := by simp [upd, ew]
      rw [nI_pred, if_neg (nI_pos (by omega)), if_pos (inb_nI (show d < 36 by omega) (by decide)), nI_clamp (show d < 2 ^ 31 by omega), hU, ew, v1, show nI d + (-1) = nI d - 1 from (Int32.sub_eq_add_neg ..).symm]
      have f1 : FrM u (up2 u 26 d (nI (T d))) := FrM.up _ _ (by omega)
      by_cases hcc : T d = c
      · rw [hcc, if_pos rfl]
        rw [hcc] at f1
        obtain ⟨g1, g2⟩ := hs.pop (nI c)
        refine ih d _ X T J (hf.tr f1) (hk.fr f1) (hv.up d _ (by omega)) (by rw [mc_up d _ (by omega)]; exact hmc) g1 (by simpa [up2] using h22) ⟨by simpa [up2] using d1, d2, fun e he => by simpa [up2] using d3 e (by omega), fun e he => ?_, fun e e' he he' => d5 e e' (by omega) (by omega), fun y hy vy i hi w => ?_⟩ (by omega)
        · have q : ¬ e = d := by omega
          simpa [up2, upd, q] using d4 e (by omega)
        · rcases d6 y hy (by simpa [up2] using vy) i hi w with a | ⟨e, he, a, b⟩
          · left; simpa [up2] using a
          · right
            refine ⟨e, ?_, a, b⟩
            rcases Nat.lt_or_ge e d with q | q
            · exact q
            · have : e = d := by omega
              subst this
              omega
      · have hlt : T d < c := by omega
        have hne : ¬ nI (T d) = nI c := fun q => hcc ((nI_eq (by omega) (by omega)).mp q)
        have es2 : u 22 (T d) = nI (sg (T d)) := by rw [h22]; exact (hS _ hlt).1
        have hs2 := (hS _ hlt).2
        obtain ⟨g, eg, hg⟩ := m_canGo (hf.tr f1) (hk.fr f1) hs1 hs2
        obtain ⟨T', n1, n2, t1, t2⟩ : ∃ T' : Nat → Nat, SE (up2 u 26 d (nI (T d))) c (d + 1) T' ∧ msr (up2 u 26 d (nI (T d))) c (d + 1) T' < msr u c (d + 1) T ∧ T' d = T d + 1 ∧ ∀ e, e ≠ d → T' e = T e := by
          obtain ⟨n1, n2⟩ := hs.next rfl hlt
          exact ⟨_, n1, n2, if_pos rfl, fun e he => if_neg he⟩
        have stay : (Eg um k (sg (X d)) (sg (T d)) → ¬ u 24 (T d) = 0) → ∃ p, f_X7_finds_39 m (up2 u 26 d (nI (T d))) (nI d) = some p ∧ FIN um k c sg D r M S22 p := fun hno => by
          have := ih (d + 1) (up2 u 26 d (nI (T d))) X T' J (hf.tr f1) (hk.fr f1) (hv.up d _ (by omega)) (by rw [mc_up d _ (by omega)]; exact hmc) n1 (by simpa [up2] using h22) ⟨by simpa [up2] using d1, d2, fun e he => by simpa [up2] using d3 e he, fun e he => by
            have q : ¬ e = d := by omega
            simpa [up2, upd, q] using d4 e he, d5, fun y hy vy i hi w => by
            rcases d6 y hy (by simpa [up2] using vy) i hi w with a | ⟨e, he, a, b⟩
            · left; simpa [up2] using a
            · by_cases q : e = d
              · subst q
                by_cases q2 : i = T e
                · left
                  subst q2
                  have := hno (by rw [a]; exact w)
                  simpa [up2] using this
                · right
                  exact ⟨e, he, a, by rw [t1]; omega⟩
              · right
                exact ⟨e, he, a, by rw [t2 e q]; exact b⟩⟩ (by omega)
          rw [nI_pred] at this
          exact this
        rw [if_neg hne, if_pos (inb_nI (show T d < 36 by omega) (by decide)), nI_clamp (show T d < 2 ^ 31 by omega), ex, if_pos (inb_nI (show X d < 36 by omega) (by decide)), nI_clamp (show X d < 2 ^ 31 by omega), es1, es2, eg, Option.bind_some]
        by_cases h24 : u 24 (T d) = 0
        · rw [if_pos h24]
          rcases hg with ⟨rfl, hg⟩ | ⟨rfl, hg⟩
          · rw [if_neg (by decide)]
            have eM : u 23 (T d) = M (T d) := by rw [d1]
            have jd : ∀ e, e < d → J e ≠ T d := fun e he q => (d4 e (by omega)).2.2.2.2 (by rw [q]; exact h24)
            obtain ⟨J', j1, j2⟩ : ∃ J' : Nat → Nat, J' d = T d ∧ ∀ e, e ≠ d → J' e = J e := ⟨fun e => if e = d then T d else J e, if_pos rfl, fun e he => if_neg he⟩
            have jdis : ∀ e e', e ≤ d → e' ≤ d → J' e = J' e' → e = e' := fun e e' he he' q => by
              by_cases q1 : e = d <;> by_cases q2 : e' = d
              · omega
              · rw [q1, j1, j2 e' q2] at q
                exact absurd q.symm (jd e' (by omega))
              · rw [q2, j1, j2 e q1] at q
                exact absurd q (jd e (by omega))
              · rw [j2 e q1, j2 e' q2] at q
                exact d5 e e' (by omega) (by omega) q
            rcases v4 (T d) hlt with h23 | ⟨y, hy, h23⟩
            · rw [h23, if_neg (by decide)]
              obtain ⟨w', b1, b2, b3, b4⟩ := m_f126 FU (d + 1) (up2 (up2 u 26 d (nI (T d))) 24 (T d) 1) X J' (by omega) (fun e he => by
                by_cases q : e = d
                · subst q
                  rw [j1]
                  exact ⟨by simpa [up2] using ex, by simp [up2, upd], by omega⟩
                · have a := d4 e (by omega)
                  rw [j2 e q]
                  exact ⟨by simpa [up2] using (d3 e (by omega)).1, by simpa [up2, upd, q] using a.1, by have := a.2.1; omega⟩) (fun e e' he he' q => jdis e e' (by omega) (by omega) q) (by have := FU_ge (z := 40) (by omega); omega)
              rw [nI_pred] at b1
              have e22 : w' 22 = S22 := by rw [b2 22 (by decide)]; simpa [up2] using h22
              have e23 : (up2 (up2 u 26 d (nI (T d))) 24 (T d) 1) 23 = M := by simpa [up2] using d1
              have hn : NEWM um k c sg D r M (w' 23) := by
                refine aug (d := d) (X := X) (J := J') (by omega) hM hD hr d2 (fun e he => (d3 e (by omega)).2) (fun e he => ?_) (fun e he => ?_) (fun e he => ?_) ?_ jdis (fun e he => b3 e (by omega)) (fun i hi => ?_)
                · by_cases q : e = d
                  · rw [q, j1]; exact hlt
                  · rw [j2 e q]; exact (d4 e (by omega)).2.1
                · by_cases q : e = d
                  · subst q; rw [j1]; exact hg
                  · rw [j2 e q]; exact (d4 e (by omega)).2.2.2.1
                · rw [j2 e (by omega)]; exact (d4 e (by omega)).2.2.1
                · rw [j1, ← eM]; exact h23
                · rw [b4 i (fun e he => hi e (by omega)), e23]
              exact ⟨_, b1, e22, Or.inr ⟨rfl, hn⟩⟩
            · rw [h23, if_pos (nI_pos' (by omega))]
              obtain ⟨T2, p1, p2, t3, t4, t5⟩ : ∃ T2 : Nat → Nat, SE (up2 (up2 (up2 (up2 u 26 d (nI (T d))) 24 (T d) 1) 25 (d + 1) (nI y)) 26 (d + 1) (-1)) c (d + 2) T2 ∧ msr (up2 (up2 (up2 (up2 u 26 d (nI (T d))) 24 (T d) 1) 25 (d + 1) (nI y)) 26 (d + 1) (-1)) c (d + 2) T2 < msr u c (d + 1) T ∧ T2 (d + 1) = 0 ∧ T2 d = T d + 1 ∧ ∀ e, e ≠ d → e ≠ d + 1 → T2 e = T e := by
                obtain ⟨p1, p2⟩ := SE.push hv hs rfl hlt h24 h23 hy
                exact ⟨_, p1, p2, if_pos rfl, (if_neg (by omega)).trans (if_pos rfl), fun e h1 h2 => (if_neg h2).trans (if_neg h1)⟩
              obtain ⟨X', x1, x2⟩ : ∃ X' : Nat → Nat, X' (d + 1) = y ∧ ∀ e, e ≠ d + 1 → X' e = X e := ⟨fun e => if e = d + 1 then y else X e, if_pos rfl, fun e he => if_neg he⟩
              have ec : cw (tg (upd (u 24) (T d) 1)) c ≤ mc u c := by
                refine cw_mono (fun i hi q => mg2.mpr ?_)
                by_cases qi : i = T d
                · rw [qi, h23]; exact nI_m1 (by omega)
                · exact s1 i hi (by have := tg2.mp q; simpa [upd, qi] using this)
              have ec2 : cw (tg (upd (u 24) (T d) 1)) c = cw (tg (u 24)) c + 1 := by
                have := cw_upd (tg (u 24)) 2 hlt
                rw [if_neg (by rw [tg2]; simp [h24])] at this
                rw [tg_upd]
                simpa using this
              rw [nI_1, if_pos (inb_nI (show d + 1 < 36 by omega) (by decide)), nI_clamp (show d + 1 < 2 ^ 31 by omega)]
              have f2 : FrM u (up2 (up2 (up2 (up2 u 26 d (nI (T d))) 24 (T d) 1) 25 (d + 1) (nI y)) 26 (d + 1) (-1)) := ((f1.tr (FrM.up _ _ (by omega))).tr (FrM.up _ _ (by omega))).tr (FrM.up _ _ (by omega))
              have e24 : (up2 (up2 (up2 (up2 u 26 d (nI (T d))) 24 (T d) 1) 25 (d + 1) (nI y)) 26 (d + 1) (-1)) 24 = upd (u 24) (T d) 1 := by simp [up2]
              have e25 : (up2 (up2 (up2 (up2 u 26 d (nI (T d))) 24 (T d) 1) 25 (d + 1) (nI y)) 26 (d + 1) (-1)) 25 = upd (u 25) (d + 1) (nI y) := by simp [up2]
              have e26 : (up2 (up2 (up2 (up2 u 26 d (nI (T d))) 24 (T d) 1) 25 (d + 1) (nI y)) 26 (d + 1) (-1)) 26 = upd (upd (u 26) d (nI (T d))) (d + 1) (-1) := by simp [up2]
              have met : ∀ i, ¬ u 24 i = 0 → ¬ upd (u 24) (T d) 1 i = 0 := fun i w => by
                by_cases q : i = T d
                · simp [upd, q]
                · simpa [upd, q] using w
              have metT : ¬ upd (u 24) (T d) 1 (T d) = 0 := by simp [upd]
              have hdf2 : DF um k c sg M r (d + 2) X' T2 J' (up2 (up2 (up2 (up2 u 26 d (nI (T d))) 24 (T d) 1) 25 (d + 1) (nI y)) 26 (d + 1) (-1)) := by
                refine ⟨by simpa [up2] using d1, by rw [x2 0 (by omega)]; exact d2, fun e he => ?_, fun e he => ?_, fun e e' he he' q => jdis e e' (by omega) (by omega) q, fun y0 hy0 vy i hi w => ?_⟩
                · rw [e25]
                  by_cases q : e = d + 1
                  · rw [q, x1]
                    exact ⟨by simp [upd], hy⟩
                  · rw [x2 e q]
                    have := d3 e (by omega)
                    simpa [upd, q] using this
                · rw [e26, e24]
                  have q0 : ¬ e = d + 1 := by omega
                  rw [x2 e q0]
                  by_cases q : e = d
                  · subst q
                    rw [j1, x1]
                    exact ⟨by simp [upd], hlt, by rw [← eM]; exact h23, hg, metT⟩
                  · obtain ⟨a1, a2, a3, a4, a5⟩ := d4 e (by omega)
                    rw [j2 e q, x2 (e + 1) (by omega)]
                    exact ⟨by simpa [upd, q, q0] using a1, a2, a3, a4, met _ a5⟩
                · rw [e24] at vy ⊢
                  have old : (y0 = r ∨ ∃ i, i < c ∧ ¬ u 24 i = 0 ∧ M i = nI y0) ∨ y0 = y := by
                    rcases vy with a | ⟨i1, hi1, a, b⟩
                    · exact Or.inl (Or.inl a)
                    · by_cases q : i1 = T d
                      · right
                        rw [q, ← eM, h23] at b
                        exact ((nI_eq (by omega) (by omega)).mp b).symm
                      · exact Or.inl (Or.inr ⟨i1, hi1, by simpa [upd, q] using a, b⟩)
                  rcases old with old | old
                  · rcases d6 y0 hy0 old i hi w with a | ⟨e, he, a, b⟩
                    · exact Or.inl (met i a)
                    · have q0 : ¬ e = d + 1 := by omega
                      by_cases q : e = d
                      · subst q
                        by_cases q2 : i = T e
                        · left; rw [q2]; exact metT
                        · right
                          exact ⟨e, by omega, by rw [x2 e q0]; exact a, by rw [t4]; omega⟩
                      · right
                        exact ⟨e, by omega, by rw [x2 e q0]; exact a, by rw [t5 e q q0]; exact b⟩
                  · right
                    exact ⟨d + 1, by omega, by rw [x1, old], by rw [t3]; exact Nat.zero_le _⟩
              have this := ih (d + 2) _ X' T2 J' (hf.tr f2) (hk.fr f2) ((((hv.up _ _ (by omega)).up _ _ (by omega)).up _ _ (by omega)).up _ _ (by omega)) (by rw [mc_up _ _ (by omega), mc_up _ _ (by omega), mc_up _ _ (by omega), mc_up _ _ (by omega)]; exact hmc) p1 (by simpa [up2] using h22) hdf2 (by omega)
              rw [show nI (d + 2) - 1 = nI (d + 1) from nI_pred (d + 1)] at this
              exact this
          · rw [if_pos rfl]
            exact stay (fun w => absurd w hg)
        · rw [if_neg h24]
          exact stay (fun _ => h24)
