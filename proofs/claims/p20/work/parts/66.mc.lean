/-! ===== the reference runs: tonight, check ===== -/
theorem M_away (u : St) {j : Nat} (hj : j < 32) (x : Int32) : ∃ r, f_X7_away u (nI j) x = some r := by
  unfold f_X7_away
  rw [if_pos (inb_nI hj (by decide))]
  split
  · split <;> exact ⟨_, rfl⟩
  · exact ⟨_, rfl⟩
theorem M_inl4 {u : St} (h : HM u) (p : Int32) : ∀ (m i : Nat) (t : Int32), 12 < i + m → i ≤ 12 → B01 t → ∃ r, f_X7_isInLook_4 u m p t (nI i) = some r := by
  intro m
  induction m with
  | zero => intro i t h1 h2; omega
  | succ m ih =>
    intro i t h1 h2 ht
    rw [f_X7_isInLook_4]
    by_cases hi : i = 12
    · subst hi
      rw [if_pos (show (12 : Int32) ≤ nI 12 by decide), if_pos (show t = 0 ∨ t = 1 from ht)]
      exact ⟨t, rfl⟩
    · obtain ⟨z, lz⟩ := h.2 i (by omega)
      obtain ⟨q, eq, -⟩ := M_row (show i < 12 by omega) lz p
      rw [if_neg (show ¬ (12 : Int32) ≤ nI i from nI_ge (b := 12) (show i < 12 by omega) (by omega)), eq, Option.bind_some, nI_1]
      split
      · exact ih (i + 1) _ (by omega) (by omega) (ht.or B0)
      · exact ih (i + 1) _ (by omega) (by omega) (ht.or B1)
theorem M_inl {u : St} (h : HM u) (p : Int32) : ∃ r, f_X7_isInLook u p = some r := M_inl4 h p FU 0 0 (by have := FU_ge (z := 12) (by omega); omega) (Nat.zero_le _) B0
theorem M_for {u : St} (h : HM u) {i j : Nat} (hi : i < 32) (hj : j < 32) (x : Int32) : ∃ r, f_X7_isFor u (nI i) (nI j) x = some r := by
  obtain ⟨a, ea⟩ := M_away u hi x
  obtain ⟨b, eb⟩ := M_inl h (nI i)
  unfold f_X7_isFor
  rw [if_pos (inb_nI hi (by decide)), if_pos (inb_nI hj (by decide)), ea, Option.bind_some, eb, Option.bind_some]
  split
  · split
    · split
      · split
        · split <;> exact ⟨_, rfl⟩
        · exact ⟨_, rfl⟩
      · exact ⟨_, rfl⟩
    · exact ⟨_, rfl⟩
  · exact ⟨_, rfl⟩
theorem M_ton194 {u : St} (h : HM u) {n : Nat} (hn : n ≤ 32) (h0 : u 0 0 = nI n) {a i j : Nat} (hj : j < 32) (x l3 l6 : Int32) (k29 : St → Int32 → Int32 → Int32 → Int32 → Option (Int32 × St)) (hk : ∀ l3, GoM u (k29 u (nI a) x l3 (nI (i + 1)))) : ∀ (m s : Nat) (l7 : Int32), n < s + m → s ≤ n → GoM u (f_X7_tonight_194 k29 m u (nI a) x l3 (nI i) (nI j) l6 l7 (nI s)) := by
  intro m
  induction m with
  | zero => intro s l7 h1 h2; omega
  | succ m ih =>
    intro s l7 h1 h2
    obtain ⟨r, er⟩ := M_away u hj x
    rw [f_X7_tonight_194, h0, er, Option.bind_some, Option.bind_some]
    by_cases hi : s = n
    · subst hi
      rw [if_pos (Int32.le_refl _), nI_1]
      split
      · exact hk _
      · split <;> exact hk _
    · obtain ⟨q, eq⟩ := M_for h (show s < 32 by omega) hj x
      rw [if_neg (nI_ge (show s < n by omega) (by omega)), eq, Option.bind_some, nI_1 (a := s)]
      split <;> exact ih (s + 1) _ (by omega) (by omega)
theorem M_ton60 {u : St} (h : HM u) {a za i j : Nat} (ha : a < 12) (la : LK u a za) (hj : j < 32) (x l3 : Int32) (k29 : St → Int32 → Int32 → Int32 → Int32 → Option (Int32 × St)) (hk : ∀ l3, GoM u (k29 u (nI a) x l3 (nI (i + 1)))) : ∀ (m s : Nat) (l6 : Int32), za < s + m → s ≤ za → GoM u (f_X7_tonight_60 k29 m u (nI a) x l3 (nI i) (nI j) l6 (nI s)) := by
  obtain ⟨hz, h11, hjs⟩ := id la
  intro m
  induction m with
  | zero => intro s l6 h1 h2; omega
  | succ m ih =>
    intro s l6 h1 h2
    rw [f_X7_tonight_60, if_pos (inb_nI ha (by decide)), nI_clamp (show a < 2 ^ 31 by omega), h11]
    by_cases hi : s = za
    · subst hi
      obtain ⟨n, hn, h0⟩ := h.1
      rw [if_pos (Int32.le_refl _)]
      exact M_ton194 h hn h0 hj x l3 l6 k29 hk FU 0 0 (by have := FU_ge (z := n) (by omega); omega) (Nat.zero_le _)
    · obtain ⟨a1, a2⟩ := ix8m ha (show s < 8 by omega)
      obtain ⟨j', j1, j2⟩ := hjs s (by omega)
      have h124 : ∀ s0, GoM u (f_X7_tonight_124 (f_X7_tonight_60 k29 m) u (nI a) x l3 (nI i) (nI j) l6 (nI s) (nI j') s0) := by
        intro s0
        obtain ⟨r1, e1⟩ := M_away u j1 x
        obtain ⟨r2, e2⟩ := M_away u hj x
        have g : ∀ p, GoM u (f_X7_tonight_60 k29 m u (nI a) x l3 (nI i) (nI j) p (nI (s + 1))) := fun p => ih (s + 1) p (by omega) (by omega)
        unfold f_X7_tonight_124
        rw [e1, Option.bind_some, e2, Option.bind_some, Option.bind_some, Option.bind_some, nI_1]
        split
        · exact g _
        · split
          · exact g _
          · split
            · split <;> exact g _
            · exact g _
      rw [if_neg (nI_ge (show s < za by omega) (by omega)), if_pos a1, a2, j2, if_pos (inb_nI j1 (by decide)), if_pos (inb_nI hj (by decide))]
      split
      · split <;> exact h124 _
      · exact h124 _
theorem M_ton29 {u : St} (h : HM u) {a za : Nat} (ha : a < 12) (la : LK u a za) (x : Int32) : ∀ (m i : Nat) (l3 : Int32), za < i + m → i ≤ za → GoM u (f_X7_tonight_29 m u (nI a) x l3 (nI i)) := by
  obtain ⟨hz, h11, hjs⟩ := id la
  intro m
  induction m with
  | zero => intro i l3 h1 h2; omega
  | succ m ih =>
    intro i l3 h1 h2
    rw [f_X7_tonight_29, if_pos (inb_nI ha (by decide)), nI_clamp (show a < 2 ^ 31 by omega), h11]
    by_cases hi : i = za
    · subst hi
      rw [if_pos (Int32.le_refl _)]
      exact ⟨_, rfl, FrM.rf u⟩
    · obtain ⟨a1, a2⟩ := ix8m ha (show i < 8 by omega)
      obtain ⟨j', j1, j2⟩ := hjs i (by omega)
      rw [if_neg (nI_ge (show i < za by omega) (by omega)), if_pos a1, a2, j2]
      exact M_ton60 h ha la j1 x l3 _ (fun p => ih (i + 1) p (by omega) (by omega)) FU 0 0 (FUz hz) (Nat.zero_le _)
theorem gm_tonight {u : St} (h : HM u) (a x : Int32) : GoM u (f_X7_tonight u a x) := by
  unfold f_X7_tonight
  rw [e_isLook, e_isIn]
  cases ha : win a 0 11
  · exact GoM.fin u (FrM.rf u) 1 (v := -1000001) (by simp [e_m1])
  cases hx : win x 30 66
  · exact GoM.fin u (FrM.rf u) 1 (v := -1000001) (by simp [e_m1])
  obtain ⟨i, hi, rfl⟩ := (win_nI (n := 11) (by decide) 11 rfl).mp ha
  obtain ⟨za, la⟩ := h.2 i (by omega)
  rw [Option.bind_some, if_neg (by simp), Option.bind_some, if_neg (by simp)]
  exact M_ton29 h (by omega) la x FU 0 0 (FUz la.1) (Nat.zero_le _)
/-- the body as it stands -/
def BD (u : St) (c : Nat) : Prop := u 0 36 = nI c ∧ ∀ t, t < c → ∃ j, j < 32 ∧ u 27 t = nI j
theorem BD.push {u : St} {c j : Nat} (h : BD u c) (hj : j < 32) : BD (up2 (up2 u 27 c (nI j)) 0 36 (nI c + 1)) (c + 1) := by
  refine ⟨by simp [up2, upd, nI_1], fun t ht => ?_⟩
  by_cases q : t = c
  · exact ⟨j, hj, by simp [up2, upd, q]⟩
  · obtain ⟨j', a, b⟩ := h.2 t (by omega)
    exact ⟨j', a, by simp [up2, upd, q, b]⟩
theorem Fr_push (u : St) (c : Nat) (x y : Int32) : FrM u (up2 (up2 u 27 c x) 0 36 y) := (FrM.up _ _ (by omega)).tr (FrM.up0 _ (by omega))
theorem M_bp4 {u : St} {c : Nat} (hc : c ≤ 48) (h : u 0 36 = nI c) (p : Int32) : ∀ (m i : Nat) (r0 : Int32), c < i + m → i ≤ c → (r0 = -1 ∨ ∃ t, t < c ∧ r0 = nI t) → ∃ r, f_X7_bodyPlace_4 u m p r0 (nI i) = some r ∧ (r = -1 ∨ ∃ t, t < c ∧ r = nI t) := by
  intro m
  induction m with
  | zero => intro i r0 h1 h2; omega
  | succ m ih =>
    intro i r0 h1 h2 h3
    rw [f_X7_bodyPlace_4, h]
    by_cases hi : i = c
    · subst hi
      exact ⟨r0, if_pos (Int32.le_refl _), h3⟩
    · rw [if_neg (nI_ge (show i < c by omega) (by omega)), if_pos (inb_nI (show i < 48 by omega) (by decide)), nI_1]
      split
      · exact ih (i + 1) _ (by omega) (by omega) (Or.inr ⟨i, by omega, rfl⟩)
      · exact ih (i + 1) _ (by omega) (by omega) h3
theorem M_bp {u : St} {c : Nat} (hc : c ≤ 48) (h : u 0 36 = nI c) (p : Int32) : ∃ r, f_X7_bodyPlace u p = some r ∧ (r = -1 ∨ ∃ t, t < c ∧ r = nI t) := M_bp4 hc h p FU 0 (-1) (by have := FU_ge (z := c) (by omega); omega) (Nat.zero_le _) (Or.inl rfl)
def GoB (u : St) (c : Nat) (f : Option (Int32 × St)) : Prop := ∃ q, f = some q ∧ FrM u q.2 ∧ ∃ c', c' ≤ c + 1 ∧ BD q.2 c'
theorem M_h148 {c : Nat} (hc : c < 48) : ∀ (m i : Nat) (u : St), u 0 36 = nI c → (∀ t, t < c + 1 → ∃ j, j < 32 ∧ u 27 t = nI j) → c < i + m → i ≤ c → ∃ q, f_X7_handles_148 m u 1 (nI i) = some q ∧ FrM u q.2 ∧ BD q.2 c := by
  intro m
  induction m with
  | zero => intro i u h h' h1 h2; omega
  | succ m ih =>
    intro i u h h' h1 h2
    rw [f_X7_handles_148, h]
    by_cases hi : i = c
    · subst hi
      rw [if_pos (Int32.le_refl _), if_pos (Or.inr rfl)]
      exact ⟨_, rfl, FrM.rf u, h, fun t ht => h' t (by omega)⟩
    · rw [if_neg (nI_ge (show i < c by omega) (by omega)), nI_1, if_pos (inb_nI (show i + 1 < 48 by omega) (by decide)), if_pos (inb_nI (show i < 48 by omega) (by decide)), nI_clamp (show i < 2 ^ 31 by omega), nI_clamp (show i + 1 < 2 ^ 31 by omega)]
      have f1 : FrM u (up2 u 27 i (u 27 (i + 1))) := FrM.up _ _ (by omega)
      obtain ⟨q, e1, e2, e3⟩ := ih (i + 1) (up2 u 27 i (u 27 (i + 1))) (by simpa [up2] using h) (fun t ht => by
        by_cases q : t = i
        · obtain ⟨j, a, b⟩ := h' (i + 1) (by omega)
          exact ⟨j, a, by simp [up2, upd, q, b]⟩
        · obtain ⟨j, a, b⟩ := h' t ht
          exact ⟨j, a, by simp [up2, upd, q, b]⟩) (by omega) (by omega)
      exact ⟨q, e1, f1.tr e2, e3⟩
theorem M_h130 {u : St} {c t : Nat} (hc : c ≤ 48) (h : BD u c) (ht : t < c) {l4 : Int32} (hl : B01 l4) : GoB u c (f_X7_handles_130 u (nI t) l4) := by
  unfold f_X7_handles_130
  rcases hl with rfl | rfl
  · rw [if_pos rfl, if_pos (Or.inl rfl)]
    exact ⟨_, rfl, FrM.rf u, c, by omega, h⟩
  · rw [if_neg (by decide)]
    obtain ⟨d, rfl⟩ : ∃ d, c = d + 1 := ⟨c - 1, by omega⟩
    rw [h.1, nI_pred]
    have f1 : FrM u (up2 u 0 36 (nI d)) := FrM.up0 _ (by omega)
    obtain ⟨q, e1, e2, e3⟩ := M_h148 (show d < 48 by omega) FU t (up2 u 0 36 (nI d)) (by simp [up2, upd]) (fun t ht => by simpa [up2] using h.2 t ht) (by have := FU_ge (z := d) (by omega); omega) (by omega)
    exact ⟨q, e1, f1.tr e2, d, by omega, e3⟩
theorem M_h82 {u : St} {c t p : Nat} (hc : c ≤ 48) (h : BD u c) (ht : t < c) (hp : p < 32) : ∀ (m i : Nat) (l4 : Int32), c < i + m → i ≤ c → B01 l4 → GoB u c (f_X7_handles_82 m u (nI p) (nI t) l4 (nI i)) := by
  intro m
  induction m with
  | zero => intro i l4 h1 h2; omega
  | succ m ih =>
    intro i l4 h1 h2 hl
    rw [f_X7_handles_82, h.1]
    by_cases hi : i = c
    · subst hi
      rw [if_pos (Int32.le_refl _)]
      exact M_h130 hc h ht hl
    · obtain ⟨j, j1, j2⟩ := h.2 i (by omega)
      rw [if_neg (nI_ge (show i < c by omega) (by omega)), if_pos (inb_nI (show i < 48 by omega) (by decide)), nI_clamp (show i < 2 ^ 31 by omega), j2, if_pos (inb_nI j1 (by decide)), if_pos (inb_nI hp (by decide)), nI_1]
      split
      · exact M_h130 hc h ht hl
      · split
        · exact ih (i + 1) _ (by omega) (by omega) B0
        · exact ih (i + 1) _ (by omega) (by omega) B1
theorem M_h11 {u : St} (hu : HM u) {c : Nat} (hc : c < 48) (h : BD u c) (l1 s0 : Int32) : GoB u c (f_X7_handles_11 u l1 s0) := by
  unfold f_X7_handles_11
  rw [e_isP]
  have self : ∀ v : Int32, GoB u c (some (v, u)) := fun v => ⟨_, rfl, FrM.rf u, c, by omega, h⟩
  cases hp : hasM u s0
  · exact self 0
  obtain ⟨n, hn, h0⟩ := hu.1
  obtain ⟨p, hp', rfl⟩ := (hasM_iff hn h0 s0).mp hp
  obtain ⟨q, eq, hq⟩ := M_bp (show c ≤ 48 by omega) h.1 (nI p)
  rw [Option.bind_some, if_neg (by simp), eq, Option.bind_some]
  split
  · rcases hq with rfl | ⟨t, ht, rfl⟩
    · rw [if_pos (by decide), show FU = 4095 + 1 from rfl, f_X7_handles_82, if_pos rfl]
      have : GoB u c (f_X7_handles_130 u (-1) 0) := by
        unfold f_X7_handles_130
        rw [if_pos rfl, if_pos (Or.inl rfl)]
        exact self 0
      split <;> exact this
    · rw [if_neg (nI_pos (by omega)), nI_1]
      exact M_h82 (by omega) h ht (show p < 32 by omega) FU (t + 1) 1 (by have := FU_ge (z := c) (by omega); omega) (by omega) B1
  · split
    · exact self _
    · rw [h.1, if_pos (inb_nI hc (by decide)), nI_clamp (show c < 2 ^ 31 by omega)]
      exact ⟨_, rfl, Fr_push _ _ _ _, c + 1, by omega, h.push (show p < 32 by omega)⟩
theorem M_handles {u : St} (hu : HM u) {c : Nat} (hc : c < 48) (h : BD u c) (l1 : Int32) : GoB u c (f_X7_handles u l1) := by
  unfold f_X7_handles
  split <;> exact M_h11 hu hc h _ _
theorem M_worn62 {u : St} {c : Nat} (hc : c ≤ 48) (h : BD u c) {b zb s : Nat} (hb : b < 12) (lb : LK u b zb) (hs : s < zb) (k21 : Int32 → Int32 → Int32 → Option (Int32)) (hk : ∀ t, B01 t → ∃ r, k21 (nI b) t (nI (s + 1)) = some r) : ∀ (m i : Nat) (t : Int32), s < i + m → i ≤ s → B01 t → ∃ r, f_X7_isWorn_62 k21 u m (nI b) t (nI s) (nI i) = some r := by
  obtain ⟨hz, h11, hjs⟩ := id lb
  intro m
  induction m with
  | zero => intro i t h1 h2; omega
  | succ m ih =>
    intro i t h1 h2 ht
    rw [f_X7_isWorn_62]
    by_cases hi : i = s
    · subst hi
      rw [if_pos (Int32.le_refl _), nI_1]
      exact hk t ht
    · obtain ⟨a1, a2⟩ := ix8m hb (show s < 8 by omega)
      obtain ⟨b1, b2⟩ := ix8m hb (show i < 8 by omega)
      obtain ⟨j, j1, j2⟩ := hjs s (by omega)
      obtain ⟨k, k1, k2⟩ := hjs i (by omega)
      obtain ⟨p, ep, -⟩ := M_bp hc h.1 (nI k)
      obtain ⟨q, eq, -⟩ := M_bp hc h.1 (nI j)
      rw [if_neg (nI_ge (show i < s by omega) (by omega)), if_pos a1, if_pos b1, a2, b2, j2, k2, if_pos (inb_nI j1 (by decide)), if_pos (inb_nI k1 (by decide)), ep, Option.bind_some, eq, Option.bind_some, nI_1, nI_1]
      split
      · exact hk t ht
      · split
        · split
          · exact ih (i + 1) _ (by omega) (by omega) B0
          · exact ih (i + 1) _ (by omega) (by omega) B1
        · exact ih (i + 1) _ (by omega) (by omega) B1
theorem M_worn21 {u : St} {c : Nat} (hc : c ≤ 48) (h : BD u c) {b zb : Nat} (hb : b < 12) (lb : LK u b zb) : ∀ (m s : Nat) (t : Int32), zb < s + m → s ≤ zb → B01 t → ∃ r, f_X7_isWorn_21 u m (nI b) t (nI s) = some r := by
  obtain ⟨hz, h11, hjs⟩ := id lb
  intro m
  induction m with
  | zero => intro i t h1 h2; omega
  | succ m ih =>
    intro s t h1 h2 ht
    rw [f_X7_isWorn_21, if_pos (inb_nI hb (by decide)), nI_clamp (show b < 2 ^ 31 by omega), h11, if_pos (show t = 0 ∨ t = 1 from ht)]
    by_cases hi : s = zb
    · subst hi
      exact ⟨t, if_pos (Int32.le_refl _)⟩
    · obtain ⟨a1, a2⟩ := ix8m hb (show s < 8 by omega)
      obtain ⟨q, eq, -⟩ := M_bp hc h.1 (u 12 (8 * b + s))
      rw [if_neg (nI_ge (show s < zb by omega) (by omega)), if_pos a1, a2, eq, Option.bind_some]
      split
      · exact ⟨t, rfl⟩
      · split
        · exact M_worn62 hc h hb lb (by omega) _ (fun t' ht' => ih (s + 1) t' (by omega) (by omega) ht') FU 0 0 (FUz (by omega)) (Nat.zero_le _) B0
        · exact M_worn62 hc h hb lb (by omega) _ (fun t' ht' => ih (s + 1) t' (by omega) (by omega) ht') FU 0 1 (FUz (by omega)) (Nat.zero_le _) B1
theorem M_worn {u : St} {c : Nat} (hc : c ≤ 48) (h : BD u c) {b zb : Nat} (hb : b < 12) (lb : LK u b zb) : ∃ r, f_X7_isWorn u (nI b) = some r := by
  unfold f_X7_isWorn
  rw [if_pos (inb_nI hb (by decide))]
  split
  · exact M_worn21 hc h hb lb FU 0 1 (FUz lb.1) (Nat.zero_le _) B1
  · exact M_worn21 hc h hb lb FU 0 0 (FUz lb.1) (Nat.zero_le _) B0
theorem M_ck162 {b zb w : Nat} (hb : b < 12) (hw : w ≤ 30) : ∀ (m i c : Nat) (u : St), HM u → LK u b zb → BD u c → c ≤ 16 + i → w < i + m → i ≤ w → GoM u (f_X7_check_162 m u (nI b) (nI w) (nI i)) := by
  intro m
  induction m with
  | zero => intro i c u hu lb h hc h1 h2; omega
  | succ m ih =>
    intro i c u hu lb h hc h1 h2
    rw [f_X7_check_162]
    by_cases hi : i = w
    · subst hi
      obtain ⟨r, er⟩ := M_worn (show c ≤ 48 by omega) h hb lb
      rw [if_pos (Int32.le_refl _), er, Option.bind_some]
      split <;> exact ⟨_, rfl, FrM.rf u⟩
    · obtain ⟨q, e1, e2, c', hc', e3⟩ := M_handles hu (show c < 48 by omega) h (u 20 (nI i).toNatClampNeg)
      rw [if_neg (nI_ge (show i < w by omega) (by omega)), if_pos (inb_nI (show i < 30 by omega) (by decide)), e1, Option.bind_some]
      split
      · exact ⟨_, rfl, e2⟩
      · rw [nI_1]
        exact GoM.tr e2 (ih (i + 1) c' q.2 (hu.fr e2) (lb.fr e2) e3 (by omega) (by omega) (by omega))
theorem M_ck111 {a za b zb w : Nat} (ha : a < 12) (hb : b < 12) (hw : w ≤ 30) : ∀ (m i c : Nat) (u : St), HM u → LK u a za → LK u b zb → BD u c → c ≤ 8 + i → za < i + m → i ≤ za → GoM u (f_X7_check_111 m u (nI a) (nI b) (nI w) (nI i)) := by
  intro m
  induction m with
  | zero => intro i c u hu la lb h hc h1 h2; omega
  | succ m ih =>
    intro i c u hu la lb h hc h1 h2
    obtain ⟨hz, h11, hjs⟩ := id la
    rw [f_X7_check_111, if_pos (inb_nI ha (by decide)), nI_clamp (show a < 2 ^ 31 by omega), h11]
    by_cases hi : i = za
    · subst hi
      rw [if_pos (Int32.le_refl _)]
      exact M_ck162 hb hw FU 0 c u hu lb h (by omega) (by have := FU_ge (z := w) (by omega); omega) (Nat.zero_le _)
    · obtain ⟨a1, a2⟩ := ix8m ha (show i < 8 by omega)
      obtain ⟨j, j1, j2⟩ := hjs i (by omega)
      rw [if_neg (nI_ge (show i < za by omega) (by omega)), if_pos a1, a2, j2, h.1, if_pos (inb_nI (show c < 48 by omega) (by decide)), nI_clamp (show c < 2 ^ 31 by omega), nI_1 (a := i)]
      have f1 := Fr_push u c (nI j) (nI c + 1)
      exact GoM.tr f1 (ih (i + 1) (c + 1) _ (hu.fr f1) (la.fr f1) (lb.fr f1) (h.push j1) (by omega) (by omega) (by omega))
theorem M_ck51 {a za b zb w : Nat} (ha : a < 12) (hb : b < 12) (hw : w ≤ 30) (x : Int32) : ∀ (m i c : Nat) (u : St), HM u → LK u a za → LK u b zb → BD u c → c ≤ i → zb < i + m → i ≤ zb → GoM u (f_X7_check_51 m u (nI a) (nI b) x (nI w) (nI i)) := by
  intro m
  induction m with
  | zero => intro i c u hu la lb h hc h1 h2; omega
  | succ m ih =>
    intro i c u hu la lb h hc h1 h2
    obtain ⟨hz, h11, hjs⟩ := id lb
    rw [f_X7_check_51, if_pos (inb_nI hb (by decide)), nI_clamp (show b < 2 ^ 31 by omega), h11]
    by_cases hi : i = zb
    · subst hi
      rw [if_pos (Int32.le_refl _)]
      exact M_ck111 ha hb hw FU 0 c u hu la lb h (by omega) (FUz la.1) (Nat.zero_le _)
    · obtain ⟨a1, a2⟩ := ix8m hb (show i < 8 by omega)
      obtain ⟨j, j1, j2⟩ := hjs i (by omega)
      obtain ⟨r, er, -⟩ := M_has u x (nI i)
      rw [if_neg (nI_ge (show i < zb by omega) (by omega)), er, Option.bind_some, if_pos a1, a2, j2, h.1, if_pos (inb_nI (show c < 48 by omega) (by decide)), nI_clamp (show c < 2 ^ 31 by omega), nI_1 (a := i)]
      have f1 := Fr_push u c (nI j) (nI c + 1)
      split
      · exact ih (i + 1) c u hu la lb h (by omega) (by omega) (by omega)
      · exact GoM.tr f1 (ih (i + 1) (c + 1) _ (hu.fr f1) (la.fr f1) (lb.fr f1) (h.push j1) (by omega) (by omega) (by omega))
theorem gm_check {u : St} (h : HM u) (hw : ∃ c, c ≤ 30 ∧ u 0 23 = nI c) (a b x : Int32) : GoM (up2 u 0 23 0) (f_X7_check u a b x) := by
  obtain ⟨w, hw, ew⟩ := hw
  have hc : HM (up2 u 0 23 0) := by
    refine ⟨by simpa [up2, upd] using h.1, fun l hl => ?_⟩
    obtain ⟨z, hz⟩ := h.2 l hl
    exact ⟨z, by simpa [LK, up2] using hz⟩
  unfold f_X7_check
  rcases M_chg hc a b x with e | ⟨e, i, j, hi, hj, rfl, rfl⟩
  · exact GoM.fin _ (FrM.rf _) 1 (v := -1000001) (by simp [e, e_m1])
  · obtain ⟨za, la⟩ := hc.2 i hi
    obtain ⟨zb, lb⟩ := hc.2 j hj
    obtain ⟨r, er, -⟩ := M_all hi la hj lb x
    rw [e, Option.bind_some, if_neg (by decide), er, Option.bind_some]
    split
    · exact GoM.fin _ (FrM.rf _) 3 (v := -1000003) (by simp [e_m3])
    · rw [ew]
      have f1 : FrM (up2 u 0 23 0) (up2 (up2 u 0 23 0) 0 36 0) := FrM.up0 _ (by omega)
      exact GoM.tr f1 (M_ck51 hi hj hw x FU 0 0 _ (hc.fr f1) (la.fr f1) (lb.fr f1) ⟨by simp [up2, upd]; rfl, fun t ht => by omega⟩ (Nat.le_refl _) (FUz lb.1) (Nat.zero_le _))
