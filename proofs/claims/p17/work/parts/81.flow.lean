/-! ===== the class: hands that go on, searched and settled ===== -/
def Eg (um : St) (k s t : Nat) : Prop := s < k ∧ t < k ∧ ¬ (um 16 t < um 17 s + um 19 (6 * (um 15 s).toNatClampNeg + (um 15 t).toNatClampNeg))
def hdn (um : St) (k s : Nat) : Nat := if s < k then (um 18 s).toNatClampNeg else 0
def GX (u um : St) (k : Nat) : Prop := k ≤ 12 ∧ u 15 5 = nI k ∧ (∀ s, s < k → u 16 s - u 16 s / 10 * 10 = um 15 s ∧ u 17 s = um 16 s ∧ u 18 s = um 17 s ∧ u 19 s = um 18 s ∧ (∃ a, a < 6 ∧ um 15 s = nI a) ∧ ∃ a, a ≤ 3 ∧ um 18 s = nI a) ∧ ∀ i, i < 36 → u 20 i = um 19 i
/-- the roster's own rows alone are written -/
def XR (u u' : St) : Prop := ∀ k, k < 21 ∨ 26 < k → u' k = u k
theorem XR.rf (u : St) : XR u u := fun _ _ => rfl
theorem XR.tr {a b c : St} (h1 : XR a b) (h2 : XR b c) : XR a c := fun k hk => (h2 k hk).trans (h1 k hk)
theorem XR.up {u : St} {k : Nat} (j : Nat) (x : Int32) (hk : 21 ≤ k ∧ k ≤ 26) : XR u (up2 u k j x) := fun a ha => up2_n u j x (by omega)
theorem XR.fr {u u' : St} (h : XR u u') : FrX u u' := fun k hk => h k (by omega)
theorem GX.fr {u u' um : St} {k : Nat} (h : GX u um k) (hf : XR u u') : GX u' um k := by
  unfold GX
  rw [hf 15 (by omega), hf 16 (by omega), hf 17 (by omega), hf 18 (by omega), hf 19 (by omega), hf 20 (by omega)]
  exact h
theorem x_has4 {u um : St} {k : Nat} (h : GX u um k) {s : Nat} (hs : s < 12) : f_X4_has u (nI s) = some (if s < k then 1 else 0) := by
  obtain ⟨hk, h5, -⟩ := h
  unfold f_X4_has
  rw [if_neg (nI_pos (by omega)), h5]
  by_cases c : s < k
  · rw [if_neg (nI_ge c (by omega)), if_neg (show ¬ (12 : Int32) ≤ nI s from nI_ge (b := 12) hs (by omega)), if_pos c]
  · rw [if_pos (nI_le (by omega) (by omega)), if_neg c]
theorem x_hands {u um : St} {k : Nat} (h : GX u um k) {s : Nat} (hs : s < 12) : f_X4_handsOf u (nI s) = some (nI (hdn um k s)) ∧ hdn um k s ≤ 3 := by
  unfold f_X4_handsOf hdn
  rw [x_has4 h hs, Option.bind_some]
  by_cases c : s < k
  · obtain ⟨-, -, -, a4, -, b, hb, eb⟩ := h.2.2.1 s c
    rw [if_pos c, if_neg (by decide), if_pos (inb_nI hs (by decide)), nI_clamp (by omega), a4, eb, if_pos c, nI_clamp (by omega)]
    exact ⟨rfl, hb⟩
  · rw [if_neg c, if_pos rfl, if_neg c]
    exact ⟨rfl, by omega⟩
theorem x_mayGo {u um : St} {k : Nat} (h : GX u um k) {s t : Nat} (hs : s < 12) (ht : t < 12) : ∃ r, f_X4_mayGo u (nI s) (nI t) = some r ∧ TB r (Eg um k s t) := by
  unfold f_X4_mayGo
  rw [x_has4 h hs, x_has4 h ht, Option.bind_some]
  by_cases c : s < k
  · rw [if_pos c, if_neg (by decide), Option.bind_some]
    by_cases d : t < k
    · obtain ⟨a1, a2, a3, a4, ⟨a, ha, ea⟩, -⟩ := h.2.2.1 s c
      obtain ⟨b1, b2, b3, b4, ⟨b, hb, eb⟩, -⟩ := h.2.2.1 t d
      rw [if_pos d, if_neg (by decide), if_pos (inb_nI ht (by decide)), if_pos (inb_nI hs (by decide)), nI_clamp (show s < 2 ^ 31 by omega), nI_clamp (show t < 2 ^ 31 by omega)]
      simp only [f_X6_doorIn, Option.bind_some, a1, b1, ea, eb]
      obtain ⟨i1, i2⟩ := ix6 ha hb
      have ew : f_X4_wayBetween u (nI a) (nI b) = some (um 19 (6 * a + b)) := by
        unfold f_X4_wayBetween
        rw [e_isWithin, e_isWithin, (win_nI (n := 5) (by decide) 5 rfl).mpr ⟨a, by omega, rfl⟩, (win_nI (n := 5) (by decide) 5 rfl).mpr ⟨b, by omega, rfl⟩, Option.bind_some, if_neg (by decide), Option.bind_some, if_neg (by decide), if_pos i1, i2, h.2.2.2 _ (by omega)]
      rw [ew, Option.bind_some, b2, a3]
      have ee : Eg um k s t ↔ ¬ (um 16 t < um 17 s + um 19 (6 * a + b)) := by
        unfold Eg
        rw [ea, eb, nI_clamp (show a < 2 ^ 31 by omega), nI_clamp (show b < 2 ^ 31 by omega)]
        exact ⟨fun w => w.2.2, fun w => ⟨c, d, w⟩⟩
      by_cases w : um 16 t < um 17 s + um 19 (6 * a + b)
      · rw [if_pos w]
        exact ⟨0, rfl, TB.no (fun q => ee.mp q w)⟩
      · rw [if_neg w]
        exact ⟨1, rfl, TB.yes (ee.mpr w)⟩
    · rw [if_neg d, if_pos rfl]
      exact ⟨0, rfl, TB.no (fun q => d q.2.1)⟩
  · rw [if_neg c, if_pos rfl]
    exact ⟨0, rfl, TB.no (fun q => c q.1)⟩
theorem ixg {a b : Nat} (ha : a < 12) (hb : b < 12) : inb (nI a * 12 + nI b) 144 = true ∧ (nI a * 12 + nI b).toNatClampNeg = 12 * a + b := by
  have e : nI a * 12 + nI b = nI (12 * a + b) := by
    rw [show (12 : Int32) = nI 12 from rfl, nI_mul, nI_add, Nat.mul_comm]
  rw [e]
  exact ⟨inb_nI (by omega) (by decide), nI_clamp (by omega)⟩
/-- the flow and what is fresh -/
def FL (u : St) (g : Nat → Nat → Nat) (f : Nat → Nat) : Prop := (∀ s t, s < 12 → t < 12 → u 23 (12 * s + t) = nI (g s t)) ∧ ∀ t, t < 12 → u 22 t = nI (f t)
theorem w12 {s : Nat} (hs : s < 12) : win (nI s) 0 11 = true := (win_nI (n := 11) (by decide) 11 rfl).mpr ⟨s, by omega, rfl⟩
theorem x_going {u : St} {g : Nat → Nat → Nat} {f : Nat → Nat} (h : FL u g f) {s t : Nat} (hs : s < 12) (ht : t < 12) : f_X3_goingBetween u (nI s) (nI t) = some (nI (g s t)) := by
  obtain ⟨i1, i2⟩ := ixg hs ht
  unfold f_X3_goingBetween
  rw [e_isWithin, e_isWithin, w12 hs, w12 ht, Option.bind_some, if_neg (by decide), Option.bind_some, if_neg (by decide), if_pos i1, i2, h.1 s t hs ht]
def gset (g : Nat → Nat → Nat) (s t v : Nat) : Nat → Nat → Nat := fun a b => if a = s ∧ b = t then v else g a b
theorem FL.put {u : St} {g : Nat → Nat → Nat} {f : Nat → Nat} (h : FL u g f) {s t : Nat} (hs : s < 12) (ht : t < 12) (v : Nat) : FL (up2 u 23 (12 * s + t) (nI v)) (gset g s t v) f := by
  refine ⟨fun a b ha hb => ?_, by simpa [up2] using h.2⟩
  unfold gset
  by_cases q : a = s ∧ b = t
  · obtain ⟨rfl, rfl⟩ := q
    simp [up2, upd]
  · have hne : ¬ 12 * a + b = 12 * s + t := fun e => q (by omega)
    rw [if_neg q, up2_s]
    simp only [upd, hne, if_false]
    exact h.1 a b ha hb
theorem x_note1 {u : St} {g : Nat → Nat → Nat} {f : Nat → Nat} (h : FL u g f) {s t : Nat} (hs : s < 12) (ht : t < 12) : f_X3_noteGoing u (nI s) (nI t) 1 = some (up2 u 23 (12 * s + t) (nI (g s t + 1))) := by
  obtain ⟨i1, i2⟩ := ixg hs ht
  unfold f_X3_noteGoing
  rw [e_isWithin, e_isWithin, w12 hs, w12 ht, Option.bind_some, if_neg (by decide), Option.bind_some, if_neg (by decide), if_pos i1, i2, h.1 s t hs ht, nI_1]
theorem x_noteM {u : St} {g : Nat → Nat → Nat} {f : Nat → Nat} (h : FL u g f) {s t : Nat} (hs : s < 12) (ht : t < 12) (hp : 0 < g s t) : f_X3_noteGoing u (nI s) (nI t) (-1) = some (up2 u 23 (12 * s + t) (nI (g s t - 1))) := by
  obtain ⟨i1, i2⟩ := ixg hs ht
  unfold f_X3_noteGoing
  rw [e_isWithin, e_isWithin, w12 hs, w12 ht, Option.bind_some, if_neg (by decide), Option.bind_some, if_neg (by decide), if_pos i1, i2, h.1 s t hs ht, sb_m1 hp]
theorem gset_row {g : Nat → Nat → Nat} {s t v : Nat} (ht : t < 12) : sm (gset g s t v s) 12 + g s t = sm (g s) 12 + v := by
  have := sm_one (f := gset g s t v s) (g := g s) (j := t) (n := 12) ht (fun p hp hne => by
    unfold gset
    rw [if_neg (fun w => hne w.2)])
  have e : gset g s t v s t = v := by unfold gset; rw [if_pos ⟨rfl, rfl⟩]
  rw [e] at this
  exact this
theorem gset_rowN {g : Nat → Nat → Nat} {s t v a : Nat} (h : a ≠ s) : gset g s t v a = g a := by
  funext b
  unfold gset
  rw [if_neg (fun w => h w.1)]
theorem gset_col {g : Nat → Nat → Nat} {s t v : Nat} (hs : s < 12) : sm (fun a => gset g s t v a t) 12 + g s t = sm (fun a => g a t) 12 + v := by
  have := sm_one (f := fun a => gset g s t v a t) (g := fun a => g a t) (j := s) (n := 12) hs (fun p hp hne => by
    unfold gset
    rw [if_neg (fun w => hne w.1)])
  have e : gset g s t v s t = v := by unfold gset; rw [if_pos ⟨rfl, rfl⟩]
  rw [e] at this
  exact this
theorem gset_colN {g : Nat → Nat → Nat} {s t v b : Nat} (h : b ≠ t) (a : Nat) : gset g s t v a b = g a b := by
  unfold gset
  rw [if_neg (fun w => h w.2)]
/-- the search: queue, where from, taken from -/
def SR (u um : St) (k : Nat) (g : Nat → Nat → Nat) (start Q : Nat) (q : Nat → Nat) : Prop := u 21 6 = nI Q ∧ Q ≤ 12 ∧ 0 < Q ∧ q 0 = start ∧ (∀ e, e < Q → q e < 12 ∧ u 26 e = nI (q e) ∧ ¬ u 25 (q e) = -1) ∧ (∀ e e', e < Q → e' < Q → q e = q e' → e = e') ∧ (∀ s, s < 12 → u 25 s = -1 ∨ ((∃ t, t < 12 ∧ u 25 s = nI t) ∧ ∃ e, e < Q ∧ q e = s)) ∧ (∀ e, 0 < e → e < Q → ∃ t, t < 12 ∧ u 25 (q e) = nI t ∧ 0 < g (q e) t ∧ ∃ e', e' < e ∧ u 24 t = nI (q e')) ∧ ∀ t, t < 12 → u 24 t = -1 ∨ ∃ e, e < Q ∧ u 24 t = nI (q e) ∧ Eg um k (q e) t
def EXT (u u' : St) (Q Q' : Nat) (q q' : Nat → Nat) : Prop := Q ≤ Q' ∧ (∀ e, e < Q → q' e = q e) ∧ (∀ k, k ≠ 21 → k ≠ 25 → k ≠ 26 → u' k = u k) ∧ ∀ s, ¬ u 25 s = -1 → ¬ u' 25 s = -1
theorem EXT.rf (u : St) (Q : Nat) (q : Nat → Nat) : EXT u u Q Q q q := ⟨Nat.le_refl _, fun _ _ => rfl, fun _ _ _ _ => rfl, fun _ h => h⟩
theorem EXT.tr {a b c : St} {P Q R : Nat} {p q r : Nat → Nat} (h1 : EXT a b P Q p q) (h2 : EXT b c Q R q r) : EXT a c P R p r := ⟨Nat.le_trans h1.1 h2.1, fun e he => (h2.2.1 e (Nat.lt_of_lt_of_le he h1.1)).trans (h1.2.1 e he), fun k x y z => (h2.2.2.1 k x y z).trans (h1.2.2.1 k x y z), fun s h => h2.2.2.2 s (h1.2.2.2 s h)⟩
theorem room12 {Q s : Nat} {q : Nat → Nat} (hQ : Q ≤ 12) (hs : s < 12) (hq : ∀ e, e < Q → q e < 12) (hi : ∀ e e', e < Q → e' < Q → q e = q e' → e = e') (hn : ∀ e, e < Q → q e ≠ s) : Q < 12 := by
  rcases Nat.lt_or_ge Q 12 with w | w
  · exact w
  · have e12 : Q = 12 := by omega
    subst e12
    have a := count_inj (A := fun _ => True) (r := fun e j => e < 12 ∧ q e = j) (fun e e' j h1 h2 => hi e e' h1.1 h2.1 (h1.2.trans h2.2.symm)) 12 12 (fun j => j ≠ s) (fun e he _ => ⟨q e, hq e he, hn e he, he, rfl⟩)
    have b : sm (fun j => pick (j ≠ s) 1) 12 + pick True 1 = sm (fun _ => pick True 1) 12 + pick (s ≠ s) 1 := sm_one (f := fun j => pick (j ≠ s) 1) (g := fun _ => pick True 1) hs (fun p hp hne => by
      show pick (p ≠ s) 1 = pick True 1
      rw [pick_t hne, pick_t trivial])
    rw [pick_t trivial, pick_f (fun w : s ≠ s => w rfl)] at b
    rw [pick_t trivial] at a
    omega
theorem x_enq {u um : St} {k : Nat} {g : Nat → Nat → Nat} {start Q : Nat} {q : Nat → Nat} (h : SR u um k g start Q q) {s t hq : Nat} (hs : s < 12) (ht : t < 12) (hg : 0 < g s t) (hh : hq < Q) (h24 : u 24 t = nI (q hq)) : ∃ u' Q' q', f_X3_enqueue u (nI s) (nI t) = some u' ∧ SR u' um k g start Q' q' ∧ EXT u u' Q Q' q q' ∧ ¬ u' 25 s = -1 := by
  obtain ⟨h1, h2, h3, h4, h5, h6, h7, h8, h9⟩ := id h
  unfold f_X3_enqueue
  rw [e_isWithin, w12 hs, Option.bind_some, if_neg (by decide), if_pos (inb_nI hs (by decide)), nI_clamp (by omega), h1]
  rcases h7 s hs with c | ⟨⟨t0, ht0, c⟩, -⟩
  · rw [c, if_neg (by decide)]
    have hn : ∀ e, e < Q → q e ≠ s := fun e he w => (h5 e he).2.2 (by rw [w]; exact c)
    have hQ := room12 h2 hs (fun e he => (h5 e he).1) h6 hn
    rw [if_neg (show ¬ (12 : Int32) ≤ nI Q from nI_ge (b := 12) hQ (by omega)), if_pos (inb_nI hQ (by decide)), nI_clamp (by omega), nI_1]
    obtain ⟨q', qn, qs⟩ : ∃ q' : Nat → Nat, (∀ e, e < Q → q' e = q e) ∧ q' Q = s := ⟨fun e => if e = Q then s else q e, fun e he => if_neg (by omega), if_pos rfl⟩
    have m1 := nI_m1 (show t < 2 ^ 31 by omega)
    refine ⟨_, Q + 1, q', rfl, ⟨by simp [up2, upd], by omega, by omega, by rw [qn 0 h3]; exact h4, fun e he => ?_, fun e e' he he' w => ?_, fun x hx => ?_, fun e he0 he => ?_, fun x hx => ?_⟩, ⟨by omega, qn, fun k a b c => by simp [up2, a, b, c], fun x hx => ?_⟩, ?_⟩
    · by_cases w : e = Q
      · subst w
        rw [qs]
        exact ⟨hs, by simp [up2, upd], by simp [up2, upd, m1]⟩
      · have he' : e < Q := by omega
        obtain ⟨a1, a2, a3⟩ := h5 e he'
        have hne := hn e he'
        rw [qn e he']
        exact ⟨a1, by simpa [up2, upd, w] using a2, by simpa [up2, upd, hne] using a3⟩
    · by_cases w1 : e = Q <;> by_cases w2 : e' = Q
      · omega
      · rw [w1, qs, qn e' (by omega)] at w
        exact absurd w.symm (hn e' (by omega))
      · rw [w2, qs, qn e (by omega)] at w
        exact absurd w (hn e (by omega))
      · rw [qn e (by omega), qn e' (by omega)] at w
        exact h6 e e' (by omega) (by omega) w
    · by_cases w : x = s
      · subst w
        exact Or.inr ⟨⟨t, ht, by simp [up2, upd]⟩, Q, by omega, qs⟩
      · rcases h7 x hx with d | ⟨⟨t1, ht1, d⟩, e, he, ee⟩
        · left; simpa [up2, upd, w] using d
        · right
          exact ⟨⟨t1, ht1, by simpa [up2, upd, w] using d⟩, e, by omega, by rw [qn e he]; exact ee⟩
    · by_cases w : e = Q
      · subst w
        rw [qs]
        exact ⟨t, ht, by simp [up2, upd], hg, hq, hh, by rw [qn hq hh]; simpa [up2] using h24⟩
      · have he' : e < Q := by omega
        obtain ⟨t1, b1, b2, b3, e1, b4, b5⟩ := h8 e he0 he'
        have hne := hn e he'
        rw [qn e he']
        exact ⟨t1, b1, by simpa [up2, upd, hne] using b2, b3, e1, b4, by rw [qn e1 (by omega)]; simpa [up2] using b5⟩
    · rcases h9 x hx with d | ⟨e, he, d1, d2⟩
      · left; simpa [up2] using d
      · right
        exact ⟨e, by omega, by rw [qn e he]; simpa [up2] using d1, by rw [qn e he]; exact d2⟩
    · by_cases w : x = s
      · subst w
        simp [up2, upd, m1]
      · simpa [up2, upd, w] using hx
    · simp [up2, upd, m1]
  · rw [c, if_pos (nI_pos' (by omega))]
    exact ⟨u, Q, q, rfl, h, EXT.rf u Q q, by rw [c]; exact nI_m1 (by omega)⟩
theorem x_enqT {um : St} {k : Nat} {g : Nat → Nat → Nat} {f : Nat → Nat} {start t hq : Nat} (ht : t < 12) : ∀ (m i : Nat) (u : St) (Q : Nat) (q : Nat → Nat), SR u um k g start Q q → FL u g f → (∀ s t, s < 12 → t < 12 → g s t ≤ 100) → hq < Q → u 24 t = nI (q hq) → (∀ s, s < i → 0 < g s t → ¬ u 25 s = -1) → 12 < i + m → i ≤ 12 → ∃ u' Q' q', f_X3_enqueueThoseGoingTo_2 m u (nI t) (nI i) = some u' ∧ SR u' um k g start Q' q' ∧ EXT u u' Q Q' q q' ∧ ∀ s, s < 12 → 0 < g s t → ¬ u' 25 s = -1 := by
  intro m
  induction m with
  | zero => intro i u Q q _ _ _ _ _ _ h1 h2; omega
  | succ m ih =>
    intro i u Q q hS hF hb hh h24 hd h1 h2
    rw [f_X3_enqueueThoseGoingTo_2]
    by_cases hi : i = 12
    · subst hi
      exact ⟨u, Q, q, if_pos (show (12 : Int32) ≤ nI 12 by decide), hS, EXT.rf u Q q, fun s hs => hd s hs⟩
    · have hi12 : i < 12 := by omega
      have hbi := hb i t hi12 ht
      rw [if_neg (show ¬ (12 : Int32) ≤ nI i from nI_ge (b := 12) hi12 (by omega)), x_going hF hi12 ht, Option.bind_some, nI_1]
      by_cases c : 0 < g i t
      · rw [if_neg (nI_nle c (by omega))]
        obtain ⟨u1, Q1, q1, a1, a2, a3, a4⟩ := x_enq hS hi12 ht c hh h24
        rw [a1, Option.bind_some]
        have F1 : FL u1 g f := by
          unfold FL
          rw [a3.2.2.1 23 (by decide) (by decide) (by decide), a3.2.2.1 22 (by decide) (by decide) (by decide)]
          exact hF
        obtain ⟨u2, Q2, q2, b1, b2, b3, b4⟩ := ih (i + 1) u1 Q1 q1 a2 F1 hb (Nat.lt_of_lt_of_le hh a3.1) (by rw [a3.2.2.1 24 (by decide) (by decide) (by decide), a3.2.1 hq hh]; exact h24) (fun s hs w => by
          by_cases e : s = i
          · subst e; exact a4
          · exact a3.2.2.2 s (hd s (by omega) w)) (by omega) (by omega)
        exact ⟨u2, Q2, q2, b1, b2, a3.tr b3, b4⟩
      · have c0 : g i t = 0 := by omega
        rw [if_pos (by rw [c0]; exact Int32.le_refl _)]
        exact ih (i + 1) u Q q hS hF hb hh h24 (fun s hs w => by
          by_cases e : s = i
          · subst e; omega
          · exact hd s (by omega) w) (by omega) (by omega)
