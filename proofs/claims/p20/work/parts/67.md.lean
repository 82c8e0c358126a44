/-! ===== the reference runs: dressers ===== -/
def NK (u : St) (k : Nat) : Prop := k ≤ 12 ∧ u 0 14 = nI k ∧ ∀ s, s < k → (∃ a, a < 6 ∧ u 15 s = nI a) ∧ ∃ a, a ≤ 3 ∧ u 18 s = nI a
theorem NK.fr {u u' : St} {k : Nat} (h : NK u k) (hf : FrM u u') : NK u' k := by
  unfold NK
  rw [hf.2 14 (by omega), hf.1 15 (by omega) (by omega), hf.1 18 (by omega) (by omega)]
  exact h
def mg (f : Nat → Int32) : Nat → Int32 := fun i => if f i = -1 then 0 else 2
def tg (f : Nat → Int32) : Nat → Int32 := fun i => if f i = 0 then 0 else 2
theorem mg_upd (f : Nat → Int32) (j : Nat) {x : Int32} (hx : ¬ x = -1) : mg (upd f j x) = upd (mg f) j 2 := by
  funext i
  by_cases q : i = j <;> simp [mg, upd, q, hx]
theorem tg_upd (f : Nat → Int32) (j : Nat) : tg (upd f j 1) = upd (tg f) j 2 := by
  funext i
  by_cases q : i = j <;> simp [tg, upd, q]
theorem cw_len (f : Nat → Int32) : ∀ n, cw f n ≤ n
  | 0 => Nat.le_refl _
  | n + 1 => by
    have := cw_len f n
    rw [cw]
    split <;> omega
theorem cw_mono {f g : Nat → Int32} : ∀ {n : Nat}, (∀ i, i < n → f i = 2 → g i = 2) → cw f n ≤ cw g n
  | 0, _ => Nat.le_refl _
  | n + 1, h => by
    have := cw_mono (n := n) (fun i hi => h i (by omega))
    have h2 := h n (by omega)
    rw [cw, cw]
    by_cases q : f n = 2
    · rw [if_pos q, if_pos (h2 q)]; omega
    · rw [if_neg q]; split <;> omega
theorem tg2 {f : Nat → Int32} {i : Nat} : tg f i = 2 ↔ ¬ f i = 0 := by
  unfold tg
  by_cases q : f i = 0 <;> simp [q]
theorem mg2 {f : Nat → Int32} {i : Nat} : mg f i = 2 ↔ ¬ f i = -1 := by
  unfold mg
  by_cases q : f i = -1 <;> simp [q]
theorem nI_m1 {j : Nat} (hj : j < 2 ^ 31) : ¬ nI j = -1 := fun q => nI_pos hj (by rw [q]; decide)
def sm (f : Nat → Nat) : Nat → Nat
  | 0 => 0
  | n + 1 => sm f n + f n
theorem sm_cong {f g : Nat → Nat} : ∀ {n : Nat}, (∀ t, t < n → f t = g t) → sm f n = sm g n
  | 0, _ => rfl
  | n + 1, h => by rw [sm, sm, sm_cong (fun t ht => h t (by omega)), h n (by omega)]
/-- the units and who came from where -/
def MV (u : St) (k c : Nat) : Prop := u 0 30 = nI c ∧ c ≤ 36 ∧ (∀ i, i < c → ∃ s, s < k ∧ u 22 i = nI s) ∧ ∀ i, i < c → u 23 i = -1 ∨ ∃ j, j < c ∧ u 23 i = nI j
theorem MV.up {u : St} {k c : Nat} (h : MV u k c) {a : Nat} (j : Nat) (x : Int32) (ha : 24 ≤ a) : MV (up2 u a j x) k c := by
  have h1 : ¬ 0 = a := by omega
  have h2 : ¬ 22 = a := by omega
  have h3 : ¬ 23 = a := by omega
  unfold MV at h ⊢
  simpa [up2, h1, h2, h3] using h
theorem MV.put {u : St} {k c : Nat} (h : MV u k c) (j : Nat) {x : Nat} (hx : x < c) : MV (up2 u 23 j (nI x)) k c := by
  obtain ⟨h1, h2, h3, h4⟩ := h
  refine ⟨by simpa [up2] using h1, h2, by simpa [up2] using h3, fun i hi => ?_⟩
  by_cases q : i = j
  · exact Or.inr ⟨x, hx, by simp [up2, upd, q]⟩
  · simpa [up2, upd, q] using h4 i hi
def mc (u : St) (c : Nat) : Nat := cw (mg (u 23)) c
theorem mc_put (u : St) {c j x : Nat} (hj : j < c) (hx : x < 2 ^ 31) : mc (up2 u 23 j (nI x)) c ≤ mc u c + 1 ∧ (¬ u 23 j = -1 → mc (up2 u 23 j (nI x)) c = mc u c) := by
  have e : mg (up2 u 23 j (nI x) 23) = upd (mg (u 23)) j 2 := by rw [up2_s, mg_upd _ _ (nI_m1 hx)]
  have := cw_upd (mg (u 23)) 2 hj
  unfold mc
  rw [e]
  refine ⟨?_, fun q => ?_⟩
  · split at this <;> simp at this <;> omega
  · rw [if_pos (mg2.mpr q)] at this
    simp at this; omega
theorem mc_up {u : St} {a : Nat} (j : Nat) (x : Int32) (ha : 24 ≤ a) (c : Nat) : mc (up2 u a j x) c = mc u c := by
  unfold mc
  rw [up2_n u j x (by omega)]
def GoF (u : St) (k c i0 : Nat) (f : Option (Int32 × St)) : Prop := ∃ q, f = some q ∧ FrM u q.2 ∧ MV q.2 k c ∧ mc q.2 c ≤ i0
theorem GoF.tr {u u' : St} {k c i0 : Nat} (h : FrM u u') {f : Option (Int32 × St)} (g : GoF u' k c i0 f) : GoF u k c i0 f := by
  obtain ⟨q, e, hq, r⟩ := g
  exact ⟨q, e, h.tr hq, r⟩
theorem M_f126 {k c : Nat} : ∀ (m d : Nat) (u : St), d ≤ 36 → MV u k c → (∀ t, t < d → (∃ x, x < c ∧ u 25 t = nI x) ∧ ∃ j, j < c ∧ u 26 t = nI j ∧ ¬ u 23 j = -1) → d < m → GoF u k c (mc u c) (f_X7_finds_126 m u (nI d - 1)) := by
  intro m
  induction m with
  | zero => intro d u h1 h2 h3 h4; omega
  | succ m ih =>
    intro d u hd hv h3 h4
    rw [f_X7_finds_126]
    cases d with
    | zero =>
      rw [if_pos (by decide)]
      exact ⟨_, rfl, FrM.rf u, hv, Nat.le_refl _⟩
    | succ d =>
      obtain ⟨⟨x, hx, ex⟩, j, hj, ej, hne⟩ := h3 d (by omega)
      have hc := hv.2.1
      rw [nI_pred, if_neg (nI_pos (by omega)), if_pos (inb_nI (show d < 36 by omega) (by decide)), nI_clamp (show d < 2 ^ 31 by omega), ej, if_pos (inb_nI (show j < 36 by omega) (by decide)), nI_clamp (show j < 2 ^ 31 by omega), ex, show nI d + (-1) = nI d - 1 from (Int32.sub_eq_add_neg ..).symm]
      have f1 : FrM u (up2 u 23 j (nI x)) := FrM.up _ _ (by omega)
      obtain ⟨q, e1, e2, e3, e4⟩ := ih d (up2 u 23 j (nI x)) (by omega) (hv.put j hx) (fun t ht => by
        obtain ⟨a1, j', b1, b2, b3⟩ := h3 t (by omega)
        refine ⟨by simpa [up2] using a1, j', b1, by simpa [up2] using b2, ?_⟩
        by_cases q : j' = j
        · have := nI_m1 (show x < 2 ^ 31 by omega)
          simp [up2, upd, q, this]
        · simpa [up2, upd, q] using b3) (by omega)
      rw [(mc_put u hj (show x < 2 ^ 31 by omega)).2 hne] at e4
      exact ⟨q, e1, f1.tr e2, e3, e4⟩
theorem M_canGo {u : St} {k s t : Nat} (h : NK u k) (hs : s < k) (ht : t < k) : ∃ r, f_X7_canGo u (nI s) (nI t) = some r := by
  obtain ⟨hk, -, hn⟩ := h
  obtain ⟨⟨a, ha, ea⟩, -⟩ := hn s hs
  obtain ⟨⟨b, hb, eb⟩, -⟩ := hn t ht
  unfold f_X7_canGo
  rw [if_pos (inb_nI (show t < 12 by omega) (by decide)), if_pos (inb_nI (show s < 12 by omega) (by decide)), nI_clamp (show s < 2 ^ 31 by omega), nI_clamp (show t < 2 ^ 31 by omega), ea, eb, if_pos (ix6m ha hb).1]
  split <;> exact ⟨_, rfl⟩
/-- the search stands at height e -/
def SE (u : St) (c e : Nat) (T : Nat → Nat) : Prop := (∀ i, i < c → ¬ u 24 i = 0 → ¬ u 23 i = -1) ∧ e ≤ cw (tg (u 24)) c + 1 ∧ (∀ t, t < e → ∃ x, x < c ∧ u 25 t = nI x) ∧ (∀ t, t < e → u 26 t + 1 = nI (T t) ∧ T t ≤ c) ∧ ∀ t, t + 1 < e → ∃ j, j < c ∧ u 26 t = nI j ∧ ¬ u 23 j = -1
def msr (u : St) (c e : Nat) (T : Nat → Nat) : Nat := 38 * (c - cw (tg (u 24)) c) + sm (fun t => c + 1 - T t) e
theorem up2c (u : St) {k l : Nat} (j : Nat) (x : Int32) (h : ¬ l = k) : up2 u k j x l = u l := up2_n u j x h
/-- a further try at the same height -/
theorem SE.next {u : St} {c d : Nat} {T : Nat → Nat} (h : SE u c (d + 1) T) {w : Nat} (hw : T d = w) (hlt : w < c) : SE (up2 u 26 d (nI w)) c (d + 1) (fun t => if t = d then w + 1 else T t) ∧ msr (up2 u 26 d (nI w)) c (d + 1) (fun t => if t = d then w + 1 else T t) < msr u c (d + 1) T := by
  obtain ⟨h1, h2, h3, h4, h5⟩ := h
  refine ⟨⟨?_, ?_, ?_, fun t ht => ?_, fun t ht => ?_⟩, ?_⟩
  · simpa [up2] using h1
  · simpa [up2] using h2
  · simpa [up2] using h3
  · by_cases q : t = d
    · subst q
      simp only [up2_s, upd, if_true, nI_1]
      exact ⟨trivial, by omega⟩
    · simp only [up2_s, upd, q, if_false]
      exact h4 t ht
  · have q : ¬ t = d := by omega
    obtain ⟨j, a, b, e⟩ := h5 t ht
    exact ⟨j, a, by simp [up2, upd, q, b], by simpa [up2] using e⟩
  · unfold msr
    rw [up2c u d _ (by decide), sm, sm, sm_cong (f := fun t => c + 1 - if t = d then w + 1 else T t) (g := fun t => c + 1 - T t) (n := d) (fun t ht => by
      have q : ¬ t = d := by omega
      simp [q])]
    simp only [if_true, hw]
    omega
theorem SE.pop {u : St} {c d : Nat} {T : Nat → Nat} (h : SE u c (d + 1) T) (x : Int32) : SE (up2 u 26 d x) c d T ∧ msr (up2 u 26 d x) c d T < msr u c (d + 1) T := by
  obtain ⟨h1, h2, h3, h4, h5⟩ := h
  refine ⟨⟨?_, ?_, fun t ht => ?_, fun t ht => ?_, fun t ht => ?_⟩, ?_⟩
  · simpa [up2] using h1
  · have : d ≤ cw (tg (u 24)) c + 1 := by omega
    simpa [up2] using this
  · simpa [up2] using h3 t (by omega)
  · have q : ¬ t = d := by omega
    simpa [up2, upd, q] using h4 t (by omega)
  · have q : ¬ t = d := by omega
    obtain ⟨j, a, b, e⟩ := h5 t (by omega)
    exact ⟨j, a, by simp [up2, upd, q, b], by simpa [up2] using e⟩
  · have := (h4 d (by omega)).2
    unfold msr
    rw [up2c u d _ (by decide), sm]
    omega
theorem SE.push {u : St} {k c d : Nat} {T : Nat → Nat} (hv : MV u k c) (h : SE u c (d + 1) T) {w y : Nat} (hw : T d = w) (hlt : w < c) (h24 : u 24 w = 0) (h23 : u 23 w = nI y) (hy : y < c) :
    SE (up2 (up2 (up2 (up2 u 26 d (nI w)) 24 w 1) 25 (d + 1) (nI y)) 26 (d + 1) (-1)) c (d + 2) (fun t => if t = d + 1 then 0 else if t = d then w + 1 else T t) ∧ msr (up2 (up2 (up2 (up2 u 26 d (nI w)) 24 w 1) 25 (d + 1) (nI y)) 26 (d + 1) (-1)) c (d + 2) (fun t => if t = d + 1 then 0 else if t = d then w + 1 else T t) < msr u c (d + 1) T := by
  have hc := hv.2.1
  obtain ⟨h1, h2, h3, h4, h5⟩ := h
  have hne : ¬ u 23 w = -1 := by rw [h23]; exact nI_m1 (by omega)
  have e24 : (up2 (up2 (up2 (up2 u 26 d (nI w)) 24 w 1) 25 (d + 1) (nI y)) 26 (d + 1) (-1)) 24 = upd (u 24) w 1 := by simp [up2]
  have e23 : (up2 (up2 (up2 (up2 u 26 d (nI w)) 24 w 1) 25 (d + 1) (nI y)) 26 (d + 1) (-1)) 23 = u 23 := by simp [up2]
  have e25 : (up2 (up2 (up2 (up2 u 26 d (nI w)) 24 w 1) 25 (d + 1) (nI y)) 26 (d + 1) (-1)) 25 = upd (u 25) (d + 1) (nI y) := by simp [up2]
  have e26 : (up2 (up2 (up2 (up2 u 26 d (nI w)) 24 w 1) 25 (d + 1) (nI y)) 26 (d + 1) (-1)) 26 = upd (upd (u 26) d (nI w)) (d + 1) (-1) := by simp [up2]
  have ec : cw (tg (upd (u 24) w 1)) c = cw (tg (u 24)) c + 1 := by
    have := cw_upd (tg (u 24)) 2 hlt
    rw [if_neg (by rw [tg2]; simp [h24])] at this
    rw [tg_upd]
    simpa using this
  have hcl := cw_len (tg (upd (u 24) w 1)) c
  refine ⟨⟨fun i hi => ?_, ?_, fun t ht => ?_, fun t ht => ?_, fun t ht => ?_⟩, ?_⟩
  · rw [e24, e23]
    by_cases q : i = w
    · intro _; rw [q]; exact hne
    · simpa [upd, q] using h1 i hi
  · rw [e24, ec]; omega
  · rw [e25]
    by_cases q : t = d + 1
    · exact ⟨y, hy, by simp [upd, q]⟩
    · simpa [upd, q] using h3 t (by omega)
  · rw [e26]
    by_cases q : t = d + 1
    · subst q
      simp only [upd, if_true]
      exact ⟨rfl, Nat.zero_le _⟩
    · by_cases q2 : t = d
      · subst q2
        simp only [upd, q, if_false, if_true, nI_1]
        exact ⟨trivial, by omega⟩
      · simpa [upd, q, q2] using h4 t (by omega)
  · rw [e26, e23]
    have q : ¬ t = d + 1 := by omega
    by_cases q2 : t = d
    · exact ⟨w, hlt, by simp [upd, q2], hne⟩
    · simpa [upd, q, q2] using h5 t (by omega)
  · unfold msr
    rw [e24, ec, sm, sm, sm, sm_cong (f := fun t => c + 1 - if t = d + 1 then 0 else if t = d then w + 1 else T t) (g := fun t => c + 1 - T t) (n := d) (fun t ht => by
      have q : ¬ t = d := by omega
      have q2 : ¬ t = d + 1 := by omega
      simp [q, q2])]
    have q3 : ¬ d = d + 1 := by omega
    simp only [if_true, q3, if_false, hw]
    rw [ec] at hcl
    omega
theorem M_f39 {k c i0 : Nat} (hi0 : i0 ≤ 35) : ∀ (m e : Nat) (u : St) (T : Nat → Nat), NK u k → MV u k c → mc u c ≤ i0 → SE u c e T → msr u c e T < m → GoF u k c (i0 + 1) (f_X7_finds_39 m u (nI e - 1)) := by
  intro m
  induction m with
  | zero => intro e u T hk hv hm hs h; omega
  | succ m ih =>
    intro e u T hk hv hm hs h
    rw [f_X7_finds_39]
    cases e with
    | zero =>
      rw [if_pos (by decide)]
      exact ⟨_, rfl, FrM.rf u, hv, by show mc u c ≤ i0 + 1; omega⟩
    | succ d =>
      obtain ⟨v1, v2, v3, v4⟩ := id hv
      obtain ⟨h1, h2, h3, h4, h5⟩ := id hs
      have hle : cw (tg (u 24)) c ≤ mc u c := cw_mono (fun i hi q => mg2.mpr (h1 i hi (tg2.mp q)))
      obtain ⟨x, hx, ex⟩ := h3 d (by omega)
      obtain ⟨ew, hwc⟩ := h4 d (by omega)
      obtain ⟨s1, hs1, es1⟩ := v3 x hx
      have hd : d ≤ 35 := by omega
      have hU : upd (u 26) d (u 26 d + 1) d = nI (T d) := by simp [upd, ew]
      rw [nI_pred, if_neg (nI_pos (by omega)), if_pos (inb_nI (show d < 36 by omega) (by decide)), nI_clamp (show d < 2 ^ 31 by omega), hU, ew, v1, show nI d + (-1) = nI d - 1 from (Int32.sub_eq_add_neg ..).symm]
      have f1 : FrM u (up2 u 26 d (nI (T d))) := FrM.up _ _ (by omega)
      by_cases hcc : T d = c
      · rw [hcc, if_pos rfl]
        rw [hcc] at f1
        obtain ⟨g1, g2⟩ := hs.pop (nI c)
        exact GoF.tr f1 (ih d _ T (hk.fr f1) (hv.up d _ (by omega)) (by rw [mc_up d _ (by omega)]; exact hm) g1 (by omega))
      · have hlt : T d < c := by omega
        have hne : ¬ nI (T d) = nI c := fun q => hcc ((nI_eq (by omega) (by omega)).mp q)
        obtain ⟨s2, hs2, es2⟩ := v3 (T d) hlt
        obtain ⟨r, er⟩ := M_canGo (hk.fr f1) hs1 hs2
        obtain ⟨n1, n2⟩ := hs.next rfl hlt
        have stay : GoF u k c (i0 + 1) (f_X7_finds_39 m (up2 u 26 d (nI (T d))) (nI d)) := by
          have := ih (d + 1) _ _ (hk.fr f1) (hv.up d _ (by omega)) (by rw [mc_up d _ (by omega)]; exact hm) n1 (by omega)
          rw [nI_pred] at this
          exact GoF.tr f1 this
        rw [if_neg hne, if_pos (inb_nI (show T d < 36 by omega) (by decide)), nI_clamp (show T d < 2 ^ 31 by omega), ex, if_pos (inb_nI (show x < 36 by omega) (by decide)), nI_clamp (show x < 2 ^ 31 by omega), es1, es2, er, Option.bind_some]
        split
        · rename_i h24
          split
          · exact stay
          · rcases v4 (T d) hlt with h23 | ⟨y, hy, h23⟩
            · rw [h23, if_neg (by decide), show FU = 4095 + 1 from rfl, f_X7_finds_126, if_neg (nI_pos (by omega)), if_pos (inb_nI (show d < 36 by omega) (by decide)), nI_clamp (show d < 2 ^ 31 by omega)]
              have a26 : (up2 (up2 u 26 d (nI (T d))) 24 (T d) 1) 26 d = nI (T d) := by simp [up2, upd]
              have a25 : (up2 (up2 u 26 d (nI (T d))) 24 (T d) 1) 25 d = nI x := by simp [up2, ex]
              rw [a26, a25, if_pos (inb_nI (show T d < 36 by omega) (by decide)), nI_clamp (show T d < 2 ^ 31 by omega), show nI d + (-1) = nI d - 1 from (Int32.sub_eq_add_neg ..).symm]
              have hv2 : MV (up2 (up2 u 26 d (nI (T d))) 24 (T d) 1) k c := (hv.up d _ (by omega)).up _ _ (by omega)
              have hm2 : mc (up2 (up2 u 26 d (nI (T d))) 24 (T d) 1) c = mc u c := by rw [mc_up _ _ (by omega), mc_up _ _ (by omega)]
              have f2 : FrM u (up2 (up2 (up2 u 26 d (nI (T d))) 24 (T d) 1) 23 (T d) (nI x)) := (f1.tr (FrM.up _ _ (by omega))).tr (FrM.up _ _ (by omega))
              have hp := (mc_put (up2 (up2 u 26 d (nI (T d))) 24 (T d) 1) hlt (show x < 2 ^ 31 by omega)).1
              obtain ⟨q, e1, e2, e3, e4⟩ := M_f126 (k := k) (c := c) 4095 d (up2 (up2 (up2 u 26 d (nI (T d))) 24 (T d) 1) 23 (T d) (nI x)) (by omega) (hv2.put _ hx) (fun t ht => by
                have qd : ¬ t = d := by omega
                obtain ⟨x', x1, x2⟩ := h3 t (by omega)
                obtain ⟨j', b1, b2, b3⟩ := h5 t (by omega)
                refine ⟨⟨x', x1, by simp [up2, x2]⟩, j', b1, by simp [up2, upd, qd, b2], ?_⟩
                by_cases q : j' = T d
                · have := nI_m1 (show x < 2 ^ 31 by omega)
                  simp [up2, upd, q, this]
                · simpa [up2, upd, q] using b3) (by omega)
              exact ⟨q, e1, f2.tr e2, e3, by omega⟩
            · obtain ⟨p1, p2⟩ := SE.push hv hs rfl hlt h24 h23 hy
              have ec : cw (tg (upd (u 24) (T d) 1)) c ≤ mc u c := by
                refine cw_mono (fun i hi q => mg2.mpr ?_)
                by_cases qi : i = T d
                · rw [qi, h23]; exact nI_m1 (by omega)
                · exact h1 i hi (by simpa [upd, qi] using tg2.mp q)
              have hd2 : d + 2 ≤ cw (tg (upd (u 24) (T d) 1)) c + 1 := by simpa [up2] using p1.2.1
              rw [h23, if_pos (nI_pos' (by omega)), nI_1, if_pos (inb_nI (show d + 1 < 36 by omega) (by decide)), nI_clamp (show d + 1 < 2 ^ 31 by omega)]
              have f2 : FrM u (up2 (up2 (up2 (up2 u 26 d (nI (T d))) 24 (T d) 1) 25 (d + 1) (nI y)) 26 (d + 1) (-1)) := ((f1.tr (FrM.up _ _ (by omega))).tr (FrM.up _ _ (by omega))).tr (FrM.up _ _ (by omega))
              have := ih (d + 2) _ _ (hk.fr f2) ((((hv.up d (nI (T d)) (a := 26) (by omega)).up (T d) 1 (a := 24) (by omega)).up (d + 1) (nI y) (a := 25) (by omega)).up (d + 1) (-1) (a := 26) (by omega)) (by rw [mc_up _ _ (by omega), mc_up _ _ (by omega), mc_up _ _ (by omega), mc_up _ _ (by omega)]; exact hm) p1 (by omega)
              rw [nI_pred] at this
              exact GoF.tr f2 this
        · exact stay
