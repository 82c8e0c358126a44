/-! ===== the reference runs: changes ===== -/
def LK (u : St) (l z : Nat) : Prop := z ≤ 8 ∧ u 11 l = nI z ∧ ∀ i, i < z → ∃ j, j < 32 ∧ u 12 (8 * l + i) = nI j
def HM (u : St) : Prop := (∃ n, n ≤ 32 ∧ u 0 0 = nI n) ∧ ∀ l, l < 12 → ∃ z, LK u l z
theorem LK.fr {u u' : St} {l z : Nat} (h : LK u l z) (hf : FrM u u') : LK u' l z := by
  unfold LK
  rw [hf.1 11 (by omega) (by omega), hf.1 12 (by omega) (by omega)]
  exact h
theorem HM.fr {u u' : St} (h : HM u) (hf : FrM u u') : HM u' := by
  refine ⟨?_, fun l hl => ?_⟩
  · rw [hf.2 0 (by omega)]; exact h.1
  · obtain ⟨z, hz⟩ := h.2 l hl
    exact ⟨z, hz.fr hf⟩
theorem R.hm {ux um : St} (h : R ux um) : HM um := by
  obtain ⟨⟨n, hn, hx, hm, -⟩, hL, -⟩ := h
  refine ⟨⟨n, hn, hm⟩, fun l hl => ?_⟩
  obtain ⟨z, z1, z2, z3, z4⟩ := hL l hl
  refine ⟨z, z1, z3, fun i hi => ?_⟩
  obtain ⟨-, j, hj, e⟩ := z4 i hi
  rw [hm, nI_clamp (by omega)] at hj
  exact ⟨j, by omega, e⟩
def B01 (r : Int32) : Prop := r = 0 ∨ r = 1
theorem B01.and {a b : Int32} (h1 : B01 a) (h2 : B01 b) : B01 (a &&& b) := by
  rcases h1 with rfl | rfl <;> rcases h2 with rfl | rfl <;> first | exact Or.inl rfl | exact Or.inr rfl
theorem B01.or {a b : Int32} (h1 : B01 a) (h2 : B01 b) : B01 (a ||| b) := by
  rcases h1 with rfl | rfl <;> rcases h2 with rfl | rfl <;> first | exact Or.inl rfl | exact Or.inr rfl
theorem B0 : B01 0 := Or.inl rfl
theorem B1 : B01 1 := Or.inr rfl
theorem M_has (u : St) (a b : Int32) : ∃ r, f_X7_has u a b = some r ∧ B01 r := by
  unfold f_X7_has
  split
  · exact ⟨1, rfl, B1⟩
  · exact ⟨0, rfl, B0⟩
theorem M_row {u : St} {l z : Nat} (hl : l < 12) (h : LK u l z) (p : Int32) : ∃ r, f_X7_rowOf u (nI l) p = some r ∧ (r = -1 ∨ ∃ i, i < z ∧ r = nI i) := by
  obtain ⟨r, e, hr⟩ := e_rowOf u hl h.1 h.2.1 p
  refine ⟨r, e, ?_⟩
  rcases hr with ⟨q, -⟩ | ⟨i, hi, q, -⟩
  · exact Or.inl q
  · exact Or.inr ⟨i, hi, q⟩
theorem M_thick83 {u : St} {l z : Nat} (hl : l < 12) (h : LK u l z) (p : Int32) : ∀ (m i : Nat) (acc : Int32), z < i + m → i ≤ z → ∃ r, f_X7_thickAt_83 u m (nI l) p acc (nI i) = some r := by
  obtain ⟨hz, h11, hj⟩ := h
  intro m
  induction m with
  | zero => intro i acc h1 h2; omega
  | succ m ih =>
    intro i acc h1 h2
    rw [f_X7_thickAt_83, if_pos (inb_nI hl (by decide)), nI_clamp (show l < 2 ^ 31 by omega), h11]
    by_cases hi : i = z
    · subst hi; exact ⟨acc, if_pos (Int32.le_refl _)⟩
    · obtain ⟨a1, a2⟩ := ix8m hl (show i < 8 by omega)
      obtain ⟨j, j1, j2⟩ := hj i (by omega)
      rw [if_neg (nI_ge (show i < z by omega) (by omega)), if_pos a1, a2, j2, if_pos (inb_nI j1 (by decide)), nI_1]
      split <;> exact ih (i + 1) _ (by omega) (by omega)
theorem FUz {z : Nat} (h : z ≤ 8) : z < 0 + FU := by have := FU_ge (z := z) (by omega); omega
theorem M_thick6 {u : St} {a za b zb : Nat} (ha : a < 12) (la : LK u a za) (hb : b < 12) (lb : LK u b zb) (x p : Int32) : ∀ (m i : Nat) (acc : Int32), zb < i + m → i ≤ zb → ∃ r, f_X7_thickAt_6 u m (nI a) (nI b) x p acc (nI i) = some r := by
  obtain ⟨hz, h11, hj⟩ := id lb
  intro m
  induction m with
  | zero => intro i acc h1 h2; omega
  | succ m ih =>
    intro i acc h1 h2
    rw [f_X7_thickAt_6, if_pos (inb_nI hb (by decide)), nI_clamp (show b < 2 ^ 31 by omega), h11]
    by_cases hi : i = zb
    · subst hi
      rw [if_pos (Int32.le_refl _)]
      exact M_thick83 ha la p FU 0 acc (FUz la.1) (Nat.zero_le _)
    · obtain ⟨a1, a2⟩ := ix8m hb (show i < 8 by omega)
      obtain ⟨j, j1, j2⟩ := hj i (by omega)
      obtain ⟨r, er, -⟩ := M_has u x (nI i)
      rw [if_neg (nI_ge (show i < zb by omega) (by omega)), er, Option.bind_some, if_pos a1, a2, j2, if_pos (inb_nI j1 (by decide)), nI_1]
      split
      · exact ih (i + 1) _ (by omega) (by omega)
      · split <;> exact ih (i + 1) _ (by omega) (by omega)
theorem M_thick {u : St} {a za b zb : Nat} (ha : a < 12) (la : LK u a za) (hb : b < 12) (lb : LK u b zb) (x p : Int32) : ∃ r, f_X7_thickAt u (nI a) (nI b) x p = some r := M_thick6 ha la hb lb x p FU 0 0 (FUz lb.1) (Nat.zero_le _)
theorem M_all63 {u : St} {a za b zb : Nat} (ha : a < 12) (la : LK u a za) (hb : b < 12) (lb : LK u b zb) (x : Int32) {i j : Nat} (hj32 : j < 32) (k6 : Int32 → Int32 → Int32 → Int32 → Int32 → Option (Int32)) (hk : ∀ t, B01 t → ∃ r, k6 (nI a) (nI b) x t (nI (i + 1)) = some r ∧ B01 r) : ∀ (m s : Nat) (t : Int32), zb < s + m → s ≤ zb → B01 t → ∃ r, f_X7_isAllowed_63 k6 u m (nI a) (nI b) x t (nI i) (nI j) (nI s) = some r ∧ B01 r := by
  obtain ⟨hz, h11, hj⟩ := id lb
  intro m
  induction m with
  | zero => intro s t h1 h2; omega
  | succ m ih =>
    intro s t h1 h2 ht
    rw [f_X7_isAllowed_63, if_pos (inb_nI hb (by decide)), nI_clamp (show b < 2 ^ 31 by omega), h11]
    by_cases hi : s = zb
    · subst hi
      obtain ⟨r, er⟩ := M_thick ha la hb lb x (u 2 (nI j).toNatClampNeg)
      rw [if_pos (Int32.le_refl _), if_pos (inb_nI hj32 (by decide)), er, Option.bind_some, nI_1]
      split
      · exact hk _ (ht.and B0)
      · exact hk _ (ht.and B1)
    · obtain ⟨a1, a2⟩ := ix8m hb (show s < 8 by omega)
      obtain ⟨j', j1, j2⟩ := hj s (by omega)
      obtain ⟨r, er, -⟩ := M_has u x (nI s)
      have h128 : ∀ s1, B01 s1 → ∃ r, f_X7_isAllowed_128 (f_X7_isAllowed_63 k6 u m) u (nI a) (nI b) x (nI i) (nI j) (nI s) (nI j') t s1 = some r ∧ B01 r := by
        intro s1 hs1
        obtain ⟨q, eq, -⟩ := M_row ha la (nI j')
        unfold f_X7_isAllowed_128
        rw [if_pos (inb_nI j1 (by decide)), if_pos (inb_nI hj32 (by decide)), eq, Option.bind_some, nI_1]
        have g0 := ih (s + 1) _ (by omega) (by omega) ((ht.and hs1).and B0)
        have g1 := ih (s + 1) _ (by omega) (by omega) ((ht.and hs1).and B1)
        split
        · split
          · exact g1
          · split
            · exact g0
            · exact g1
        · exact g1
      rw [if_neg (nI_ge (show s < zb by omega) (by omega)), if_pos a1, a2, j2, if_pos (inb_nI j1 (by decide)), if_pos (inb_nI hj32 (by decide)), er, Option.bind_some]
      split
      · split
        · exact h128 _ B1
        · split
          · exact h128 _ B0
          · exact h128 _ B1
      · exact h128 _ B1
theorem M_all6 {u : St} {a za b zb : Nat} (ha : a < 12) (la : LK u a za) (hb : b < 12) (lb : LK u b zb) (x : Int32) : ∀ (m i : Nat) (t : Int32), zb < i + m → i ≤ zb → B01 t → ∃ r, f_X7_isAllowed_6 u m (nI a) (nI b) x t (nI i) = some r ∧ B01 r := by
  obtain ⟨hz, h11, hj⟩ := id lb
  intro m
  induction m with
  | zero => intro i t h1 h2; omega
  | succ m ih =>
    intro i t h1 h2 ht
    rw [f_X7_isAllowed_6, if_pos (inb_nI hb (by decide)), nI_clamp (show b < 2 ^ 31 by omega), h11]
    by_cases hi : i = zb
    · subst hi
      rw [if_pos (Int32.le_refl _), if_pos (show t = 0 ∨ t = 1 from ht)]
      exact ⟨t, rfl, ht⟩
    · obtain ⟨a1, a2⟩ := ix8m hb (show i < 8 by omega)
      obtain ⟨j', j1, j2⟩ := hj i (by omega)
      obtain ⟨r, er, -⟩ := M_has u x (nI i)
      obtain ⟨q, eq, -⟩ := M_row ha la (nI j')
      rw [if_neg (nI_ge (show i < zb by omega) (by omega)), if_pos a1, a2, j2, er, Option.bind_some, eq, Option.bind_some, nI_1]
      split
      · exact ih (i + 1) t (by omega) (by omega) ht
      · split
        · exact M_all63 ha la hb lb x j1 _ (fun t' ht' => ih (i + 1) t' (by omega) (by omega) ht') FU 0 _ (FUz hz) (Nat.zero_le _) (ht.and B0)
        · exact M_all63 ha la hb lb x j1 _ (fun t' ht' => ih (i + 1) t' (by omega) (by omega) ht') FU 0 _ (FUz hz) (Nat.zero_le _) (ht.and B1)
theorem M_all {u : St} {a za b zb : Nat} (ha : a < 12) (la : LK u a za) (hb : b < 12) (lb : LK u b zb) (x : Int32) : ∃ r, f_X7_isAllowed u (nI a) (nI b) x = some r ∧ B01 r := M_all6 ha la hb lb x FU 0 1 (FUz lb.1) (Nat.zero_le _) B1
theorem M_isOff {u : St} {a za : Nat} (ha : a < 12) (la : LK u a za) (p : Int32) : ∃ r, f_X7_isOff u (nI a) p = some r := by
  obtain ⟨q, eq, -⟩ := M_row ha la p
  obtain ⟨r, er, -⟩ := M_has u (u 0 26) q
  unfold f_X7_isOff
  rw [eq, Option.bind_some, er, Option.bind_some]
  split
  · exact ⟨_, rfl⟩
  · split <;> exact ⟨_, rfl⟩
theorem M_must144 {u : St} {a za b zb : Nat} (ha : a < 12) (la : LK u a za) (hb : b < 12) (lb : LK u b zb) (x : Int32) {j c : Nat} (hj32 : j < 32) (hc : c ≤ zb) : ∀ (m s : Nat) (t : Int32), c < s + m → s ≤ c → B01 t → ∃ r, f_X7_mustOff_144 u m (nI a) (nI b) x (nI j) (nI c) t (nI s) = some r ∧ B01 r := by
  obtain ⟨hz, h11, hj⟩ := id lb
  intro m
  induction m with
  | zero => intro s t h1 h2; omega
  | succ m ih =>
    intro s t h1 h2 ht
    rw [f_X7_mustOff_144]
    by_cases hi : s = c
    · subst hi
      rw [if_pos (Int32.le_refl _), if_pos (show t = 0 ∨ t = 1 from ht)]
      exact ⟨t, rfl, ht⟩
    · obtain ⟨a1, a2⟩ := ix8m hb (show s < 8 by omega)
      obtain ⟨j', j1, j2⟩ := hj s (by omega)
      obtain ⟨r, er, -⟩ := M_has u x (nI s)
      obtain ⟨q, eq, -⟩ := M_row ha la (nI j')
      obtain ⟨o, eo⟩ := M_isOff ha la (nI j')
      have g0 := ih (s + 1) _ (by omega) (by omega) (ht.or B0)
      have g1 := ih (s + 1) _ (by omega) (by omega) (ht.or B1)
      rw [if_neg (nI_ge (show s < c by omega) (by omega)), if_pos a1, a2, j2, if_pos (inb_nI j1 (by decide)), if_pos (inb_nI hj32 (by decide)), er, Option.bind_some, eq, Option.bind_some, eo, Option.bind_some, nI_1]
      split
      · split
        · split
          · exact g1
          · split
            · exact g0
            · exact g1
        · exact g0
      · exact g0
theorem M_must144' {u : St} {a za b zb : Nat} (ha : a < 12) (la : LK u a za) (hb : b < 12) (lb : LK u b zb) (x : Int32) {j : Nat} (hj32 : j < 32) {r : Int32} (hr : r = -1 ∨ ∃ i, i < zb ∧ r = nI i) {t : Int32} (ht : B01 t) : ∃ q, f_X7_mustOff_144 u FU (nI a) (nI b) x (nI j) r t 0 = some q ∧ B01 q := by
  rcases hr with rfl | ⟨c, hc, rfl⟩
  · rw [show FU = 4095 + 1 from rfl, f_X7_mustOff_144, if_pos (by decide), if_pos (show t = 0 ∨ t = 1 from ht)]
    exact ⟨t, rfl, ht⟩
  · exact M_must144 ha la hb lb x hj32 (by omega) FU 0 t (FUz (by have := lb.1; omega)) (Nat.zero_le _) ht
theorem M_must38 {u : St} {a za b zb : Nat} (ha : a < 12) (la : LK u a za) (hb : b < 12) (lb : LK u b zb) (x l4 : Int32) {j : Nat} (hj32 : j < 32) {r : Int32} (hr : r = -1 ∨ ∃ i, i < zb ∧ r = nI i) : ∀ (m s : Nat) (t : Int32), za < s + m → s ≤ za → B01 t → ∃ q, f_X7_mustOff_38 u m (nI a) (nI b) x l4 (nI j) r t (nI s) = some q ∧ B01 q := by
  obtain ⟨hz, h11, hj⟩ := id la
  intro m
  induction m with
  | zero => intro s t h1 h2; omega
  | succ m ih =>
    intro s t h1 h2 ht
    rw [f_X7_mustOff_38, if_pos (inb_nI ha (by decide)), nI_clamp (show a < 2 ^ 31 by omega), h11]
    by_cases hi : s = za
    · subst hi
      rw [if_pos (Int32.le_refl _)]
      exact M_must144' ha la hb lb x hj32 hr ht
    · obtain ⟨a1, a2⟩ := ix8m ha (show s < 8 by omega)
      obtain ⟨j', j1, j2⟩ := hj s (by omega)
      obtain ⟨o, eo, -⟩ := M_has u (u 0 26) (nI s)
      obtain ⟨q, eq, -⟩ := M_row hb lb (nI j')
      have g := ih (s + 1) _ (by omega) (by omega) ht
      have g0 := ih (s + 1) _ (by omega) (by omega) (ht.or B0)
      have g1 := ih (s + 1) _ (by omega) (by omega) (ht.or B1)
      rw [if_neg (nI_ge (show s < za by omega) (by omega)), if_pos a1, a2, j2, eq, Option.bind_some, if_pos (inb_nI j1 (by decide)), if_pos (inb_nI hj32 (by decide)), eo, Option.bind_some, nI_1]
      split
      · split
        · exact g
        · split
          · split
            · exact g0
            · split
              · exact g0
              · split
                · exact g0
                · exact g1
          · exact g1
      · exact g
theorem M_must {u : St} {a za b zb : Nat} (ha : a < 12) (la : LK u a za) (hb : b < 12) (lb : LK u b zb) (x : Int32) {i : Nat} (hi : i < za) : ∃ q, f_X7_mustOff u (nI a) (nI b) x (nI i) = some q ∧ B01 q := by
  obtain ⟨hz, h11, hj⟩ := id la
  obtain ⟨a1, a2⟩ := ix8m ha (show i < 8 by omega)
  obtain ⟨j', j1, j2⟩ := hj i hi
  obtain ⟨q, eq, hq⟩ := M_row hb lb (nI j')
  unfold f_X7_mustOff
  rw [if_pos a1, a2, j2, eq, Option.bind_some]
  split
  · exact M_must38 ha la hb lb x (nI i) j1 hq FU 0 0 (FUz hz) (Nat.zero_le _) B0
  · exact M_must38 ha la hb lb x (nI i) j1 hq FU 0 1 (FUz hz) (Nat.zero_le _) B1
theorem bitup : ∀ v, v < 256 → ∀ i, i < 8 → ((nI v >>> (nI i &&& 31)) &&& 1 = 1) ∨ (v < (v ||| 2 ^ i) ∧ (v ||| 2 ^ i) < 256 ∧ nI v ||| ((1 : Int32) <<< (nI i &&& 31)) = nI (v ||| 2 ^ i)) := by decide +kernel
theorem M_tell87 {a za b zb : Nat} (ha : a < 12) (hb : b < 12) (x : Int32) : ∀ (m i : Nat) (u : St), LK u a za → LK u b zb → zb < i + m → i ≤ zb → ∃ w, f_X7_tell_87 m u (nI a) (nI b) x (nI i) = some w ∧ FrM u w := by
  intro m
  induction m with
  | zero => intro i u la lb h1 h2; omega
  | succ m ih =>
    intro i u la lb h1 h2
    obtain ⟨hz, h11, hj⟩ := id lb
    rw [f_X7_tell_87, if_pos (inb_nI hb (by decide)), nI_clamp (show b < 2 ^ 31 by omega), h11]
    by_cases hi : i = zb
    · subst hi
      rw [if_pos (Int32.le_refl _)]
      exact ⟨u, rfl, FrM.rf u⟩
    · obtain ⟨a1, a2⟩ := ix8m hb (show i < 8 by omega)
      obtain ⟨j', j1, j2⟩ := hj i (by omega)
      obtain ⟨r, er, -⟩ := M_has u x (nI i)
      obtain ⟨q, eq, -⟩ := M_row ha la (nI j')
      obtain ⟨o, eo⟩ := M_isOff ha la (nI j')
      have gg : ∀ v, ∃ w, f_X7_tell_87 m (up2 u 0 27 v) (nI a) (nI b) x (nI (i + 1)) = some w ∧ FrM u w := fun v => by
        have f1 : FrM u (up2 u 0 27 v) := FrM.up0 v (by omega)
        obtain ⟨w, e1, e2⟩ := ih (i + 1) _ (la.fr f1) (lb.fr f1) (by omega) (by omega)
        exact ⟨w, e1, f1.tr e2⟩
      rw [if_neg (nI_ge (show i < zb by omega) (by omega)), if_pos a1, a2, j2, er, Option.bind_some, eq, Option.bind_some, eo, Option.bind_some]
      unfold f_X7_tell_146
      rw [nI_1]
      split
      · split
        · exact gg _
        · split
          · exact gg _
          · exact gg _
      · exact gg _
theorem M_tell19 {a za b zb : Nat} (ha : a < 12) (hb : b < 12) (x : Int32) (k8 : St → Int32 → Int32 → Int32 → Int32 → Option (St)) (v0 : Nat) (hk : ∀ (u : St) (v : Nat) (t : Int32), LK u a za → LK u b zb → u 0 26 = nI v → v < 256 → (t = 0 ∨ v0 < v) → ∃ w, k8 u (nI a) (nI b) x t = some w ∧ FrM u w) : ∀ (m i : Nat) (u : St) (v : Nat) (t : Int32), LK u a za → LK u b zb → u 0 26 = nI v → v < 256 → v0 ≤ v → (t = 0 ∨ v0 < v) → za < i + m → i ≤ za → ∃ w, f_X7_tell_19 k8 m u (nI a) (nI b) x t (nI i) = some w ∧ FrM u w := by
  intro m
  induction m with
  | zero => intro i u v t la lb hv hv2 hv3 ht h1 h2; omega
  | succ m ih =>
    intro i u v t la lb hv hv2 hv3 ht h1 h2
    obtain ⟨hz, h11, hj⟩ := id la
    rw [f_X7_tell_19, if_pos (inb_nI ha (by decide)), nI_clamp (show a < 2 ^ 31 by omega), h11]
    by_cases hi : i = za
    · subst hi
      rw [if_pos (Int32.le_refl _)]
      exact hk u v t la lb hv hv2 ht
    · obtain ⟨q, eq, -⟩ := M_must ha la hb lb x (show i < za by omega)
      have g := ih (i + 1) u v t la lb hv hv2 hv3 ht (by omega) (by omega)
      rw [if_neg (nI_ge (show i < za by omega) (by omega)), hv, eq, nI_1]
      unfold f_X7_has
      rcases bitup v hv2 i (by omega) with hb1 | ⟨b1, b2, b3⟩
      · rw [if_pos hb1, Option.bind_some, if_neg (by decide)]
        exact g
      · have f1 : FrM u (up2 u 0 26 (nI (v ||| 2 ^ i))) := FrM.up0 _ (by omega)
        obtain ⟨w, e1, e2⟩ := ih (i + 1) (up2 u 0 26 (nI (v ||| 2 ^ i))) (v ||| 2 ^ i) 1 (la.fr f1) (lb.fr f1) (by simp [up2, upd]) b2 (by omega) (Or.inr (by omega)) (by omega) (by omega)
        rw [b3, Option.bind_some]
        have gw : ∃ w, f_X7_tell_19 k8 m (up2 u 0 26 (nI (v ||| 2 ^ i))) (nI a) (nI b) x 1 (nI (i + 1)) = some w ∧ FrM u w := ⟨w, e1, f1.tr e2⟩
        by_cases hc : (nI v >>> (nI i &&& 31)) &&& 1 = 1
        · rw [if_pos hc, Option.bind_some, if_neg (by decide)]; exact g
        · rw [if_neg hc, Option.bind_some, if_pos rfl]
          split
          · exact g
          · exact gw
theorem M_tell8 {a za b zb : Nat} (ha : a < 12) (hb : b < 12) (x : Int32) : ∀ (m : Nat) (u : St) (v : Nat) (t : Int32), LK u a za → LK u b zb → u 0 26 = nI v → v < 256 → ((t = 0 ∧ 1 ≤ m) ∨ 257 ≤ v + m) → ∃ w, f_X7_tell_8 m u (nI a) (nI b) x t = some w ∧ FrM u w := by
  intro m
  induction m with
  | zero => intro u v t la lb hv hv2 ht; omega
  | succ m ih =>
    intro u v t la lb hv hv2 ht
    rw [f_X7_tell_8]
    split
    · have f1 : FrM u (up2 u 0 27 0) := FrM.up0 _ (by omega)
      obtain ⟨w, e1, e2⟩ := M_tell87 ha hb x FU 0 _ (la.fr f1) (lb.fr f1) (FUz lb.1) (Nat.zero_le _)
      exact ⟨w, e1, f1.tr e2⟩
    · rename_i hn
      have h257 : 257 ≤ v + (m + 1) := by
        rcases ht with ⟨q, -⟩ | q
        · exact absurd q hn
        · exact q
      exact M_tell19 ha hb x (f_X7_tell_8 m) v (fun u' v' t' la' lb' hv' hv2' ht' => ih u' v' t' la' lb' hv' hv2' (by
        rcases ht' with q | q
        · exact Or.inl ⟨q, by omega⟩
        · exact Or.inr (by omega))) FU 0 u v 0 la lb hv hv2 (Nat.le_refl _) (Or.inl rfl) (FUz la.1) (Nat.zero_le _)
theorem M_tell {u : St} {a za b zb : Nat} (ha : a < 12) (la : LK u a za) (hb : b < 12) (lb : LK u b zb) (x : Int32) : ∃ w, f_X7_tell u (nI a) (nI b) x = some w ∧ FrM u w := by
  have f1 : FrM u (up2 u 0 26 0) := FrM.up0 _ (by omega)
  obtain ⟨w, e1, e2⟩ := M_tell8 ha hb x FU (up2 u 0 26 0) 0 1 (la.fr f1) (lb.fr f1) (by simp [up2, upd]; rfl) (by omega) (Or.inr (by have := FU_ge (z := 300) (by omega); omega))
  exact ⟨w, e1, f1.tr e2⟩
