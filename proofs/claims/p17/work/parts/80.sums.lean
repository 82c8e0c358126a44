/-! ===== sums, counting by pairs, flows and cuts ===== -/
noncomputable def pick (P : Prop) (a : Nat) : Nat := @ite Nat P (Classical.propDecidable P) a 0
theorem pick_t {P : Prop} (h : P) (a : Nat) : pick P a = a := @if_pos P (Classical.propDecidable P) h Nat a 0
theorem pick_f {P : Prop} (h : ¬ P) (a : Nat) : pick P a = 0 := @if_neg P (Classical.propDecidable P) h Nat a 0
theorem pick_le (P : Prop) (a : Nat) : pick P a ≤ a := by
  rcases Classical.em P with h | h
  · rw [pick_t h]; exact Nat.le_refl _
  · rw [pick_f h]; exact Nat.zero_le _
theorem pick_iff {P Q : Prop} (h : P ↔ Q) (a : Nat) : pick P a = pick Q a := by
  rcases Classical.em P with w | w
  · rw [pick_t w, pick_t (h.mp w)]
  · rw [pick_f w, pick_f (fun q => w (h.mpr q))]
theorem sm_s (f : Nat → Nat) (n : Nat) : sm f (n + 1) = sm f n + f n := rfl
theorem sm_mono {f g : Nat → Nat} : ∀ {n : Nat}, (∀ t, t < n → f t ≤ g t) → sm f n ≤ sm g n
  | 0, _ => Nat.le_refl _
  | n + 1, h => by
    have a := sm_mono (n := n) (fun t ht => h t (by omega))
    have b := h n (by omega)
    rw [sm_s, sm_s]; omega
theorem sm_addf {f g : Nat → Nat} : ∀ {n : Nat}, sm (fun t => f t + g t) n = sm f n + sm g n
  | 0 => rfl
  | n + 1 => by
    rw [sm_s, sm_s, sm_s, sm_addf (n := n)]; omega
theorem sm_zero {f : Nat → Nat} {n : Nat} (h : ∀ t, t < n → f t = 0) : sm f n = 0 := by
  have := sm_mono (f := f) (g := fun _ => 0) (n := n) (fun t ht => by rw [h t ht]; exact Nat.le_refl _)
  have z : ∀ n, sm (fun _ => 0) n = 0 := by
    intro n
    induction n with
    | zero => rfl
    | succ n ih => rw [sm_s, ih]
  rw [z] at this
  omega
theorem sm_swap (f : Nat → Nat → Nat) (m : Nat) : ∀ n, sm (fun s => sm (f s) m) n = sm (fun t => sm (fun s => f s t) n) m
  | 0 => (sm_zero (fun t _ => rfl)).symm
  | n + 1 => by
    rw [sm_s, sm_swap f m n, ← sm_addf]
    rfl
theorem sm_one {f g : Nat → Nat} {j : Nat} : ∀ {n : Nat}, j < n → (∀ p, p < n → p ≠ j → f p = g p) → sm f n + g j = sm g n + f j
  | 0, h, _ => by omega
  | n + 1, h, e => by
    rw [sm_s, sm_s]
    rcases Nat.lt_or_ge j n with q | q
    · have r := sm_one (n := n) q (fun p hp hj => e p (by omega) hj)
      have r2 := e n (by omega) (by omega)
      omega
    · have : j = n := by omega
      subst this
      rw [sm_cong (f := f) (g := g) (fun p hp => e p (by omega) (by omega))]
      omega
theorem sm_term {f : Nat → Nat} {j : Nat} : ∀ {n : Nat}, j < n → f j ≤ sm f n
  | 0, h => by omega
  | n + 1, h => by
    rw [sm_s]
    by_cases q : j = n
    · subst q; omega
    · have := sm_term (f := f) (n := n) (show j < n by omega)
      omega
/-- as many as there are partners -/
theorem count_inj {A : Nat → Prop} {r : Nat → Nat → Prop} (hr : ∀ i i' j, r i j → r i' j → i = i') (m : Nat) : ∀ (n : Nat) (B : Nat → Prop), (∀ i, i < n → A i → ∃ j, j < m ∧ B j ∧ r i j) → sm (fun i => pick (A i) 1) n ≤ sm (fun j => pick (B j) 1) m := by
  intro n
  induction n with
  | zero => intro B h; exact Nat.zero_le _
  | succ n ih =>
    intro B h
    rw [sm_s]
    rcases Classical.em (A n) with ha | ha
    · obtain ⟨j0, hj0, bj0, rj0⟩ := h n (by omega) ha
      have h1 := ih (fun j => B j ∧ j ≠ j0) (fun i hi ai => by
        obtain ⟨j, hj, bj, rj⟩ := h i (by omega) ai
        refine ⟨j, hj, ⟨bj, fun e => ?_⟩, rj⟩
        subst e
        have := hr i n j rj rj0
        omega)
      have c : sm (fun j => pick (B j ∧ j ≠ j0) 1) m + pick (B j0) 1 = sm (fun j => pick (B j) 1) m + pick (B j0 ∧ j0 ≠ j0) 1 := sm_one (f := fun j => pick (B j ∧ j ≠ j0) 1) (g := fun j => pick (B j) 1) hj0 (fun p hp hne => pick_iff ⟨fun w => w.1, fun w => ⟨w, hne⟩⟩ 1)
      rw [pick_t bj0, pick_f (fun w : B j0 ∧ j0 ≠ j0 => w.2 rfl)] at c
      rw [pick_t ha]
      omega
    · rw [pick_f ha]
      exact ih B (fun i hi ai => h i (by omega) ai)
def Nb (E : Nat → Nat → Prop) (D : Nat → Prop) (t : Nat) : Prop := ∃ s, s < 12 ∧ D s ∧ E s t
noncomputable def cutv (E : Nat → Nat → Prop) (hd : Nat → Nat) (D : Nat → Prop) : Nat := sm (fun s => pick (¬ D s) (hd s)) 12 + sm (fun t => pick (Nb E D t) (hd t)) 12
theorem flow_le_cut {E : Nat → Nat → Prop} {hd : Nat → Nat} {g : Nat → Nat → Nat} (D : Nat → Prop) (h1 : ∀ s t, s < 12 → t < 12 → 0 < g s t → E s t) (h2 : ∀ s, s < 12 → sm (g s) 12 ≤ hd s) (h3 : ∀ t, t < 12 → sm (fun s => g s t) 12 ≤ hd t) : sm (fun s => sm (g s) 12) 12 ≤ cutv E hd D := by
  have a : sm (fun s => sm (g s) 12) 12 ≤ sm (fun s => pick (¬ D s) (hd s) + sm (fun t => pick (D s ∧ Nb E D t) (g s t)) 12) 12 := sm_mono (fun s hs => by
    rcases Classical.em (D s) with d | d
    · rw [pick_f (fun w : ¬ D s => w d), Nat.zero_add]
      refine sm_mono (fun t ht => ?_)
      rcases Nat.eq_zero_or_pos (g s t) with z | z
      · rw [z]; exact Nat.zero_le _
      · rw [pick_t ⟨d, s, hs, d, h1 s t hs ht z⟩]; exact Nat.le_refl _
    · rw [pick_t d]
      have := h2 s hs
      omega)
  rw [sm_addf] at a
  have b := sm_swap (fun s t => pick (D s ∧ Nb E D t) (g s t)) 12 12
  have c : sm (fun t => sm (fun s => pick (D s ∧ Nb E D t) (g s t)) 12) 12 ≤ sm (fun t => pick (Nb E D t) (hd t)) 12 := sm_mono (fun t ht => by
    rcases Classical.em (Nb E D t) with d | d
    · rw [pick_t d]
      exact Nat.le_trans (sm_mono (fun s hs => pick_le _ _)) (h3 t ht)
    · rw [pick_f d, sm_zero (fun s hs => pick_f (fun w => d w.2) _)]
      exact Nat.le_refl _)
  unfold cutv
  omega
theorem cut_le_flow {E : Nat → Nat → Prop} {hd : Nat → Nat} {g : Nat → Nat → Nat} (D : Nat → Prop) (h1 : ∀ s, s < 12 → ¬ D s → sm (g s) 12 = hd s) (h2 : ∀ t, t < 12 → Nb E D t → sm (fun s => g s t) 12 = hd t ∧ ∀ s, s < 12 → 0 < g s t → D s) : cutv E hd D ≤ sm (fun s => sm (g s) 12) 12 := by
  have a : sm (fun s => pick (¬ D s) (hd s) + sm (fun t => pick (D s ∧ Nb E D t) (g s t)) 12) 12 ≤ sm (fun s => sm (g s) 12) 12 := sm_mono (fun s hs => by
    rcases Classical.em (D s) with d | d
    · rw [pick_f (fun w : ¬ D s => w d), Nat.zero_add]
      exact sm_mono (fun t ht => pick_le _ _)
    · rw [pick_t d, h1 s hs d, sm_zero (fun t ht => pick_f (fun w => d w.1) _)]
      exact Nat.le_refl _)
  rw [sm_addf] at a
  have b := sm_swap (fun s t => pick (D s ∧ Nb E D t) (g s t)) 12 12
  have c : sm (fun t => pick (Nb E D t) (hd t)) 12 ≤ sm (fun t => sm (fun s => pick (D s ∧ Nb E D t) (g s t)) 12) 12 := sm_mono (fun t ht => by
    rcases Classical.em (Nb E D t) with d | d
    · obtain ⟨e1, e2⟩ := h2 t ht d
      rw [pick_t d, ← e1]
      refine sm_mono (fun s hs => ?_)
      rcases Nat.eq_zero_or_pos (g s t) with z | z
      · rw [z]; exact Nat.zero_le _
      · rw [pick_t ⟨e2 s hs z, d⟩]; exact Nat.le_refl _
    · rw [pick_f d]; exact Nat.zero_le _)
  unfold cutv
  omega
/-- the matched ones -/
noncomputable def mtc (mt : Nat → Nat → Prop) (c : Nat) : Nat := sm (fun i => pick (∃ j, j < c ∧ mt i j) 1) c
theorem match_le_cut {E : Nat → Nat → Prop} {hd sg : Nat → Nat} {mt : Nat → Nat → Prop} {c : Nat} (D : Nat → Prop) (hU : ∀ P : Nat → Prop, sm (fun i => pick (P (sg i)) 1) c = sm (fun s => pick (P s) (hd s)) 12) (hs : ∀ i, i < c → sg i < 12) (hi : ∀ i i' j, mt i j → mt i' j → i = i') (he : ∀ i j, i < c → j < c → mt i j → E (sg j) (sg i)) : mtc mt c ≤ cutv E hd D := by
  have a : mtc mt c ≤ sm (fun i => pick (∃ j, j < c ∧ mt i j ∧ ¬ D (sg j)) 1 + pick (Nb E D (sg i)) 1) c := sm_mono (fun i hi' => by
    rcases Classical.em (∃ j, j < c ∧ mt i j) with ⟨j, hj, m⟩ | q
    · rw [pick_t ⟨j, hj, m⟩]
      rcases Classical.em (D (sg j)) with d | d
      · have hn : Nb E D (sg i) := ⟨sg j, hs j hj, d, he i j hi' hj m⟩
        rw [pick_t hn]; omega
      · rw [pick_t ⟨j, hj, m, d⟩]; omega
    · rw [pick_f q]; exact Nat.zero_le _)
  rw [sm_addf] at a
  have b := count_inj (A := fun i => ∃ j, j < c ∧ mt i j ∧ ¬ D (sg j)) (r := fun i j => mt i j) hi c c (fun j => ¬ D (sg j)) (fun i hi' ⟨j, hj, m, d⟩ => ⟨j, hj, d, m⟩)
  rw [hU (fun s => ¬ D s)] at b
  have e := hU (fun t => Nb E D t)
  unfold cutv
  omega
theorem cut_le_match {E : Nat → Nat → Prop} {hd sg : Nat → Nat} {mt : Nat → Nat → Prop} {c : Nat} (D : Nat → Prop) (hU : ∀ P : Nat → Prop, sm (fun i => pick (P (sg i)) 1) c = sm (fun s => pick (P s) (hd s)) 12) (hf : ∀ i j j', mt i j → mt i j' → j = j') (hcov : ∀ j, j < c → ¬ D j → ∃ i, i < c ∧ mt i j) (hcl : ∀ j, j < c → D j → ∀ i, i < c → E (sg j) (sg i) → ∃ j', j' < c ∧ mt i j' ∧ D j') : cutv E hd (fun s => ∃ j, j < c ∧ D j ∧ sg j = s) ≤ mtc mt c := by
  have e1 := hU (fun s => ¬ ∃ j, j < c ∧ D j ∧ sg j = s)
  have e2 := hU (fun t => Nb E (fun s => ∃ j, j < c ∧ D j ∧ sg j = s) t)
  have a1 : sm (fun i => pick (¬ ∃ j, j < c ∧ D j ∧ sg j = sg i) 1) c ≤ sm (fun j => pick (¬ D j) 1) c := sm_mono (fun i hi => by
    rcases Classical.em (∃ j, j < c ∧ D j ∧ sg j = sg i) with q | q
    · rw [pick_f (fun w => w q)]; exact Nat.zero_le _
    · rw [pick_t q, pick_t (fun d : D i => q ⟨i, hi, d, rfl⟩)]; exact Nat.le_refl _)
  have a2 := count_inj (A := fun j => ¬ D j) (r := fun j i => mt i j) (fun j j' i h1 h2 => hf i j j' h1 h2) c c (fun i => ∃ j, j < c ∧ mt i j ∧ ¬ D j) (fun j hj d => by
    obtain ⟨i, hi, m⟩ := hcov j hj d
    exact ⟨i, hi, ⟨j, hj, m, d⟩, m⟩)
  have a3 : sm (fun i => pick (Nb E (fun s => ∃ j, j < c ∧ D j ∧ sg j = s) (sg i)) 1) c ≤ sm (fun i => pick (∃ j, j < c ∧ mt i j ∧ D j) 1) c := sm_mono (fun i hi => by
    rcases Classical.em (Nb E (fun s => ∃ j, j < c ∧ D j ∧ sg j = s) (sg i)) with q | q
    · obtain ⟨s, hs, ⟨j, hj, d, rfl⟩, e⟩ := id q
      obtain ⟨j', hj', m, d'⟩ := hcl j hj d i hi e
      rw [pick_t q, pick_t ⟨j', hj', m, d'⟩]; exact Nat.le_refl _
    · rw [pick_f q]; exact Nat.zero_le _)
  have a4 : sm (fun i => pick (∃ j, j < c ∧ mt i j ∧ ¬ D j) 1 + pick (∃ j, j < c ∧ mt i j ∧ D j) 1) c ≤ mtc mt c := sm_mono (fun i hi => by
    rcases Classical.em (∃ j, j < c ∧ mt i j ∧ D j) with ⟨j, hj, m, d⟩ | q
    · have q1 : ∃ j, j < c ∧ mt i j ∧ D j := ⟨j, hj, m, d⟩
      have q2 : ¬ ∃ j, j < c ∧ mt i j ∧ ¬ D j := fun ⟨j', _, m', d'⟩ => d' (hf i j j' m m' ▸ d)
      have q3 : ∃ j, j < c ∧ mt i j := ⟨j, hj, m⟩
      rw [pick_t q1, pick_f q2, pick_t q3]; exact Nat.le_refl _
    · rw [pick_f q, Nat.add_zero]
      rcases Classical.em (∃ j, j < c ∧ mt i j ∧ ¬ D j) with ⟨j, hj, m, d⟩ | q2
      · rw [pick_t ⟨j, hj, m, d⟩, pick_t ⟨j, hj, m⟩]; exact Nat.le_refl _
      · rw [pick_f q2]; exact Nat.zero_le _)
  rw [sm_addf] at a4
  show sm (fun s => pick (¬ ∃ j, j < c ∧ D j ∧ sg j = s) (hd s)) 12 + sm (fun t => pick (Nb E (fun s => ∃ j, j < c ∧ D j ∧ sg j = s) t) (hd t)) 12 ≤ mtc mt c
  omega
