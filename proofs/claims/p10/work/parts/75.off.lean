/-! ===== what comes off and goes on ===== -/
def tbit (w : Nat) (k : Nat) : Prop := w.testBit k = true
def onn (za : Nat) (pa pb : Nat → Nat) (F : Nat → Prop) (k : Nat) : Prop := (∀ i, i < za → pa i ≠ pb k) ∨ ∃ i, i < za ∧ pa i = pb k ∧ F i
def must1 (um : St) (za zb : Nat) (pa pb : Nat → Nat) (v : Nat) (F : Nat → Prop) (i : Nat) : Prop := (∃ k, k < i ∧ um 2 (pa k) = um 2 (pa i) ∧ F k) ∨ ∃ j, j < zb ∧ pb j = pa i ∧ ∃ k, k < j ∧ um 2 (pb k) = um 2 (pb j) ∧ ¬ tbit v k ∧ onn za pa pb F k
def must (um : St) (za zb : Nat) (pa pb : Nat → Nat) (v : Nat) (F : Nat → Prop) (i : Nat) : Prop := sure um zb pa pb i ∨ must1 um za zb pa pb v F i
def clo (um : St) (za zb : Nat) (pa pb : Nat → Nat) (v : Nat) (F : Nat → Prop) : Prop := ∀ i, i < za → must um za zb pa pb v F i → F i
/-- the least that comes off -/
def OFF (um : St) (za zb : Nat) (pa pb : Nat → Nat) (v : Nat) (i : Nat) : Prop := i < za ∧ ∀ F : Nat → Prop, clo um za zb pa pb v F → F i
def ONN (um : St) (za zb : Nat) (pa pb : Nat → Nat) (v : Nat) (k : Nat) : Prop := k < zb ∧ ¬ tbit v k ∧ onn za pa pb (OFF um za zb pa pb v) k
theorem onn_mono {za : Nat} {pa pb : Nat → Nat} {F G : Nat → Prop} (h : ∀ i, i < za → F i → G i) {k : Nat} (q : onn za pa pb F k) : onn za pa pb G k := by
  rcases q with q | ⟨i, hi, e, f⟩
  · exact Or.inl q
  · exact Or.inr ⟨i, hi, e, h i hi f⟩
theorem must1_mono {um : St} {za zb : Nat} {pa pb : Nat → Nat} {v : Nat} {F G : Nat → Prop} (h : ∀ i, i < za → F i → G i) {i : Nat} (hi : i < za) (q : must1 um za zb pa pb v F i) : must1 um za zb pa pb v G i := by
  rcases q with ⟨k, hk, e, f⟩ | ⟨j, hj, e, k, hk, p, b, o⟩
  · exact Or.inl ⟨k, hk, e, h k (by omega) f⟩
  · exact Or.inr ⟨j, hj, e, k, hk, p, b, onn_mono h o⟩
theorem must_mono {um : St} {za zb : Nat} {pa pb : Nat → Nat} {v : Nat} {F G : Nat → Prop} (h : ∀ i, i < za → F i → G i) {i : Nat} (hi : i < za) (q : must um za zb pa pb v F i) : must um za zb pa pb v G i := by
  rcases q with q | q
  · exact Or.inl q
  · exact Or.inr (must1_mono h hi q)
theorem off_must {um : St} {za zb : Nat} {pa pb : Nat → Nat} {v : Nat} {i : Nat} (hi : i < za) (q : must um za zb pa pb v (OFF um za zb pa pb v) i) : OFF um za zb pa pb v i := ⟨hi, fun F hF => hF i hi (must_mono (fun k hk o => o.2 F hF) hi q)⟩
theorem off_in {um : St} {za zb : Nat} {pa pb : Nat → Nat} {v : Nat} {F : Nat → Prop} (h : ∀ k, k < za → F k → OFF um za zb pa pb v k) {i : Nat} (hi : i < za) (q : must um za zb pa pb v F i) : OFF um za zb pa pb v i := off_must hi (must_mono h hi q)
/-- a closed set within the least is the least -/
theorem off_iff {um : St} {za zb : Nat} {pa pb : Nat → Nat} {v : Nat} {F : Nat → Prop} (h1 : ∀ k, k < 8 → F k → OFF um za zb pa pb v k) (h2 : clo um za zb pa pb v F) {k : Nat} (hk : k < 8) : F k ↔ OFF um za zb pa pb v k := ⟨h1 k hk, fun o => o.2 F h2⟩
theorem onn_iff {um : St} {za zb : Nat} {pa pb : Nat → Nat} {v : Nat} {F : Nat → Prop} (hza : za ≤ 8) (h1 : ∀ k, k < 8 → F k → OFF um za zb pa pb v k) (h2 : clo um za zb pa pb v F) (k : Nat) : (k < zb ∧ ¬ tbit v k ∧ onn za pa pb F k) ↔ ONN um za zb pa pb v k :=
  ⟨fun w => ⟨w.1, w.2.1, onn_mono (fun i hi f => h1 i (by omega) f) w.2.2⟩, fun w => ⟨w.1, w.2.1, onn_mono (fun i hi f => f.2 F h2) w.2.2⟩⟩
theorem BP.step1 {x : Int32} {P : Nat → Prop} {i : Nat} (h : BP x (fun k => k < i ∧ P k)) (hi : i < 8) (hp : P i) : BP (x ||| ((1 : Int32) <<< (nI i &&& 31))) (fun k => k < i + 1 ∧ P k) := by
  refine (h.set hi).congr (fun k hk => ?_)
  constructor
  · rintro (⟨a, b⟩ | rfl)
    · exact ⟨by omega, b⟩
    · exact ⟨by omega, hp⟩
  · rintro ⟨a, b⟩
    rcases Nat.lt_or_ge k i with w | w
    · exact Or.inl ⟨w, b⟩
    · exact Or.inr (by omega)
theorem BP.step0 {x : Int32} {P : Nat → Prop} {i : Nat} (h : BP x (fun k => k < i ∧ P k)) (hp : ¬ P i) : BP x (fun k => k < i + 1 ∧ P k) := by
  refine h.congr (fun k hk => ?_)
  constructor
  · rintro ⟨a, b⟩; exact ⟨by omega, b⟩
  · rintro ⟨a, b⟩
    rcases Nat.lt_or_ge k i with w | w
    · exact ⟨w, b⟩
    · have : k = i := by omega
      subst this
      exact absurd b hp
theorem BP.start {P : Nat → Prop} : BP 0 (fun k => k < 0 ∧ P k) := BP.zero.congr (fun k hk => ⟨False.elim, fun w => by omega⟩)
/-- handling writes two numbers alone -/
def HD (u u' : St) : Prop := (∀ k, k ≠ 7 → u' k = u k) ∧ ∀ j, j ≠ 14 → j ≠ 15 → u' 7 j = u 7 j
theorem HD.rf (u : St) : HD u u := ⟨fun _ _ => rfl, fun _ _ _ => rfl⟩
theorem HD.tr {a b c : St} (h1 : HD a b) (h2 : HD b c) : HD a c := ⟨fun k hk => (h2.1 k hk).trans (h1.1 k hk), fun j h3 h4 => (h2.2 j h3 h4).trans (h1.2 j h3 h4)⟩
theorem HD.u14 (u : St) (x : Int32) : HD u (up2 u 7 14 x) := ⟨fun k hk => by simp [up2, hk], fun j h1 h2 => by simp [up2, upd, h1]⟩
theorem HD.u15 (u : St) (x : Int32) : HD u (up2 u 7 15 x) := ⟨fun k hk => by simp [up2, hk], fun j h1 h2 => by simp [up2, upd, h2]⟩
theorem HD.fr {u u' : St} (h : HD u u') : FrX u u' := fun k hk => h.1 k (by omega)
theorem PX.hd {u u' um : St} {za zb : Nat} {pa pb : Nat → Nat} (hp : PX u um za zb pa pb) (h : HD u u') : PX u' um za zb pa pb := by
  unfold PX PA PB at hp ⊢
  rw [h.2 2 (by decide) (by decide), h.2 3 (by decide) (by decide), h.2 4 (by decide) (by decide), h.2 5 (by decide) (by decide), h.2 6 (by decide) (by decide), h.1 8 (by decide), h.1 9 (by decide), h.1 10 (by decide), h.1 11 (by decide), h.1 12 (by decide), h.1 13 (by decide), h.1 14 (by decide)]
  exact hp
theorem x_miss0 {u um : St} {za zb : Nat} {pa pb : Nat → Nat} (hp : PX u um za zb pa pb) (hza : za ≤ 8) (hzb : zb ≤ 8) (ia : Inj pa za) {v w : Nat} (hv : v < 256) (hw : w < 256) (h14 : u 7 14 = nI w) : ∀ (m i : Nat) (acc : Int32), zb < i + m → i ≤ zb → BP acc (fun k => k < i ∧ ¬ tbit v k ∧ onn za pa pb (tbit w) k) → ∃ r, f_X1_missing_4 u m (nI v) acc (nI i) = some r ∧ BP r (fun k => k < zb ∧ ¬ tbit v k ∧ onn za pa pb (tbit w) k) := by
  obtain ⟨p2, p3, p4, p5, p6, hA, hB⟩ := hp
  intro m
  induction m with
  | zero => intro i acc h1 h2; omega
  | succ m ih =>
    intro i acc h1 h2 h3
    rw [f_X1_missing_4, p3]
    by_cases hi : i = zb
    · subst hi; exact ⟨acc, if_pos (Int32.le_refl _), h3⟩
    · have hlt : i < zb := by omega
      have hi8 : i < 8 := by omega
      have b1 := (hB i hlt).1
      rw [if_neg (nI_ge hlt (by omega))]
      rcases (BP.self hv).hasX u hi8 with ⟨e, q⟩ | ⟨e, q⟩
      · rw [e, Option.bind_some, if_neg (by decide), nI_1]
        exact ih (i + 1) _ (by omega) (by omega) (h3.step0 (fun r => r.1 q))
      · rw [e, Option.bind_some, if_pos rfl, if_pos (inb_nI hi8 (by decide)), nI_clamp (by omega)]
        rcases b1 with ⟨r, b1⟩ | ⟨t, ht, r, et⟩
        · rw [r, if_pos (by decide)]
          unfold f_X1_missing_45
          rw [nI_1]
          exact ih (i + 1) _ (by omega) (by omega) (h3.step1 hi8 ⟨q, Or.inl b1⟩)
        · rw [r, if_neg (nI_pos (by omega)), h14]
          rcases (BP.self hw).hasX u (show t < 8 by omega) with ⟨e2, q2⟩ | ⟨e2, q2⟩
          · rw [e2, Option.bind_some, if_neg (by decide)]
            unfold f_X1_missing_45
            rw [nI_1]
            exact ih (i + 1) _ (by omega) (by omega) (h3.step1 hi8 ⟨q, Or.inr ⟨t, ht, et, q2⟩⟩)
          · rw [e2, Option.bind_some, if_pos rfl, nI_1]
            refine ih (i + 1) _ (by omega) (by omega) (h3.step0 (fun r => ?_))
            rcases r.2 with r9 | ⟨t2, ht2, et2, r9⟩
            · exact r9 t ht et
            · have : t2 = t := ia t2 t ht2 ht (et2.trans et.symm)
              subst this
              exact q2 r9
theorem x_miss {u um : St} {za zb : Nat} {pa pb : Nat → Nat} (hp : PX u um za zb pa pb) (hza : za ≤ 8) (hzb : zb ≤ 8) (ia : Inj pa za) {v w : Nat} (hv : v < 256) (hw : w < 256) (h14 : u 7 14 = nI w) : ∃ r, f_X1_missing u (nI v) = some r ∧ BP r (fun k => k < zb ∧ ¬ tbit v k ∧ onn za pa pb (tbit w) k) := x_miss0 hp hza hzb ia hv hw h14 FU 0 0 (FUz hzb) (Nat.zero_le _) BP.start
theorem x_must {u um : St} {za zb : Nat} {pa pb : Nat → Nat} (hp : PX u um za zb pa pb) (hza : za ≤ 8) (hzb : zb ≤ 8) (ib : Inj pb zb) {v w : Nat} (hw : w < 256) (h14 : u 7 14 = nI w) (h15 : BP (u 7 15) (fun k => k < zb ∧ ¬ tbit v k ∧ onn za pa pb (tbit w) k)) {i : Nat} (hi : i < za) : ∃ r, f_X1_mustComeOff u (nI i) = some r ∧ TB r (must1 um za zb pa pb v (tbit w) i) := by
  obtain ⟨p2, p3, p4, p5, p6, hA, hB⟩ := hp
  obtain ⟨a1, a2, a3⟩ := hA i hi
  unfold f_X1_mustComeOff
  rw [if_pos (inb_nI (show i < 8 by omega) (by decide)), nI_clamp (by omega), h14]
  have h1 := a2.and0 (BP.self hw)
  by_cases c : u 10 i &&& nI w = 0
  · have c' := h1.mp c
    rw [if_pos c]
    have n1 : ¬ ∃ k, k < i ∧ um 2 (pa k) = um 2 (pa i) ∧ tbit w k := fun ⟨k, k1, k2, k3⟩ => c' k (by omega) ⟨⟨k1, k2⟩, k3⟩
    rcases a1 with ⟨r, a1⟩ | ⟨j, hj, r, ej⟩
    · rw [r, if_pos (by decide)]
      refine ⟨0, rfl, TB.no (fun q => ?_)⟩
      rcases q with q | ⟨j, hj, ej, -⟩
      · exact n1 q
      · exact a1 j hj ej
    · rw [r, if_neg (nI_pos (by omega)), if_pos (inb_nI (show j < 8 by omega) (by decide)), nI_clamp (by omega)]
      have h2 := (hB j hj).2.1.and0 h15
      by_cases d : u 11 j &&& u 7 15 = 0
      · have d' := h2.mp d
        rw [if_pos d]
        refine ⟨0, rfl, TB.no (fun q => ?_)⟩
        rcases q with q | ⟨j2, hj2, ej2, k, k1, k2, k3, k4⟩
        · exact n1 q
        · have : j2 = j := ib j2 j hj2 hj (ej2.trans ej.symm)
          subst this
          exact d' k (by omega) ⟨⟨k1, k2⟩, by omega, k3, k4⟩
      · rw [if_neg d]
        refine ⟨1, rfl, TB.yes (Or.inr ⟨j, hj, ej, ?_⟩)⟩
        refine Classical.byContradiction (fun hno => d (h2.mpr (fun k hk q => hno ⟨k, q.1.1, q.1.2, q.2.2.1, q.2.2.2⟩)))
  · rw [if_neg c]
    refine ⟨1, rfl, TB.yes (Or.inl ?_)⟩
    exact Classical.byContradiction (fun hno => c (h1.mpr (fun k hk q => hno ⟨k, q.1.1, q.1.2, q.2⟩)))
theorem x_forced0 {u um : St} {za zb : Nat} {pa pb : Nat → Nat} (hp : PX u um za zb pa pb) (hza : za ≤ 8) (hzb : zb ≤ 8) (ib : Inj pb zb) {v w : Nat} (hw : w < 256) (h14 : u 7 14 = nI w) (h15 : BP (u 7 15) (fun k => k < zb ∧ ¬ tbit v k ∧ onn za pa pb (tbit w) k)) : ∀ (m i : Nat) (acc : Int32), za < i + m → i ≤ za → BP acc (fun k => k < i ∧ ¬ tbit w k ∧ must1 um za zb pa pb v (tbit w) k) → ∃ r, f_X1_forcedOff_4 u m acc (nI i) = some r ∧ BP r (fun k => k < za ∧ ¬ tbit w k ∧ must1 um za zb pa pb v (tbit w) k) := by
  have p2 := hp.1
  intro m
  induction m with
  | zero => intro i acc h1 h2; omega
  | succ m ih =>
    intro i acc h1 h2 h3
    rw [f_X1_forcedOff_4, p2]
    by_cases hi : i = za
    · subst hi; exact ⟨acc, if_pos (Int32.le_refl _), h3⟩
    · have hlt : i < za := by omega
      have hi8 : i < 8 := by omega
      rw [if_neg (nI_ge hlt (by omega)), h14]
      rcases (BP.self hw).hasX u hi8 with ⟨e, q⟩ | ⟨e, q⟩
      · rw [e, Option.bind_some, if_neg (by decide), nI_1]
        exact ih (i + 1) _ (by omega) (by omega) (h3.step0 (fun r => r.1 q))
      · obtain ⟨r, er, hr⟩ := x_must hp hza hzb ib hw h14 h15 hlt
        rw [e, Option.bind_some, if_pos rfl, er, Option.bind_some, nI_1]
        rcases hr with ⟨rfl, hr⟩ | ⟨rfl, hr⟩
        · rw [if_neg (by decide)]
          exact ih (i + 1) _ (by omega) (by omega) (h3.step1 hi8 ⟨q, hr⟩)
        · rw [if_pos rfl]
          exact ih (i + 1) _ (by omega) (by omega) (h3.step0 (fun t => hr t.2))
theorem cnt_lt {f g : Nat → Bool} {j : Nat} : ∀ {n : Nat}, (∀ p, p < n → f p = true → g p = true) → j < n → f j = false → g j = true → cnt f n < cnt g n
  | 0, _, h, _, _ => by omega
  | n + 1, h, hj, hf, hg => by
    have mono : ∀ m, m ≤ n → cnt f m ≤ cnt g m := by
      intro m
      induction m with
      | zero => intro _; exact Nat.le_refl _
      | succ m ih =>
        intro hm
        have := ih (by omega)
        have q := h m (by omega)
        rw [cnt, cnt]
        by_cases c : f m = true
        · rw [if_pos c, if_pos (q c)]; omega
        · rw [if_neg c]; omega
    rw [cnt, cnt]
    by_cases q : j = n
    · subst q
      have := mono j (Nat.le_refl _)
      rw [hf, hg]
      simp; omega
    · have := cnt_lt (n := n) (fun p hp => h p (by omega)) (show j < n by omega) hf hg
      have r := h n (by omega)
      by_cases c : f n = true
      · rw [if_pos c, if_pos (r c)]; omega
      · rw [if_neg c]; omega
theorem cnt_full {f : Nat → Bool} : ∀ {n : Nat}, n ≤ cnt f n → ∀ p, p < n → f p = true
  | 0, _, p, hp => by omega
  | n + 1, h, p, hp => by
    have := cnt_le f n
    rw [cnt] at h
    by_cases c : f n = true
    · rw [if_pos c] at h
      by_cases q : p = n
      · rw [q]; exact c
      · exact cnt_full (n := n) (by omega) p (by omega)
    · rw [if_neg c] at h; omega
theorem x_handle0 {um : St} {za zb : Nat} {pa pb : Nat → Nat} (hza : za ≤ 8) (hzb : zb ≤ 8) (ia : Inj pa za) (ib : Inj pb zb) {v : Nat} (hv : v < 256) : ∀ (m i : Nat) (u : St) (w : Nat), PX u um za zb pa pb → w < 256 → u 7 14 = nI w → BP (u 7 15) (fun k => k < zb ∧ ¬ tbit v k ∧ onn za pa pb (tbit w) k) → (∀ k, k < 8 → tbit w k → OFF um za zb pa pb v k) → (∀ k, k < za → sure um zb pa pb k → tbit w k) → i ≤ cnt (fun k => w.testBit k) 8 → 8 < i + m → i ≤ 8 → ∃ u', f_X1_handle_19 m u (nI v) (nI i) = some u' ∧ HD u u' ∧ BP (u' 7 14) (OFF um za zb pa pb v) ∧ BP (u' 7 15) (ONN um za zb pa pb v) := by
  intro m
  induction m with
  | zero => intro i u w _ _ _ _ _ _ _ h1 h2; omega
  | succ m ih =>
    intro i u w hp hw h14 h15 ho hs hcn h1 h2
    have fin : clo um za zb pa pb v (tbit w) → BP (u 7 14) (OFF um za zb pa pb v) ∧ BP (u 7 15) (ONN um za zb pa pb v) := fun hcl =>
      ⟨by rw [h14]; exact (BP.self hw).congr (fun k hk => off_iff ho hcl hk), h15.congr (fun k hk => onn_iff hza ho hcl k)⟩
    rw [f_X1_handle_19]
    by_cases hi : i = 8
    · subst hi
      have hfull := cnt_full hcn
      exact ⟨u, if_pos (show (8 : Int32) ≤ nI 8 by decide), HD.rf u, fin (fun k hk _ => hfull k (by omega))⟩
    · rw [if_neg (show ¬ (8 : Int32) ≤ nI i from nI_ge (b := 8) (show i < 8 by omega) (by omega))]
      obtain ⟨r, er, hr⟩ := x_forced0 hp hza hzb ib hw h14 h15 FU 0 0 (FUz hza) (Nat.zero_le _) BP.start
      have er' : f_X1_forcedOff u = some r := er
      rw [er', Option.bind_some]
      by_cases c : r = 0
      · rw [if_pos c]
        have c' := hr.eq0.mp c
        refine ⟨u, rfl, HD.rf u, fin (fun k hk q => ?_)⟩
        rcases q with q | q
        · exact hs k hk q
        · exact Classical.byContradiction (fun hno => c' k (by omega) ⟨hk, hno, q⟩)
      · rw [if_neg c]
        have hex : ∃ k, k < 8 ∧ k < za ∧ ¬ tbit w k ∧ must1 um za zb pa pb v (tbit w) k := Classical.byContradiction (fun hno => c (hr.eq0.mpr (fun k hk q => hno ⟨k, hk, q⟩)))
        have hor := (BP.self hw).or hr
        rw [← h14] at hor
        obtain ⟨w', hw', e', hb'⟩ := hor
        have hp1 := hp.hd (HD.u14 u (u 7 14 ||| r))
        have h14' : (up2 u 7 14 (u 7 14 ||| r)) 7 14 = nI w' := by rw [← e']; simp [up2, upd]
        obtain ⟨y, ey, hy⟩ := x_miss hp1 hza hzb ia hv hw' h14'
        rw [ey, Option.bind_some, nI_1]
        have hd2 : HD u (up2 (up2 u 7 14 (u 7 14 ||| r)) 7 15 y) := (HD.u14 u _).tr (HD.u15 _ y)
        obtain ⟨u2, g1, g2, g3⟩ := ih (i + 1) _ w' (hp.hd hd2) hw' (by rw [← e']; simp [up2, upd]) (by simpa [up2, upd] using hy) (fun k hk q => by
          rcases (hb' k hk).mp q with q | q
          · exact ho k hk q
          · exact off_in (fun t ht f => ho t (by omega) f) q.1 (Or.inr q.2.2)) (fun k hk q => (hb' k (by omega)).mpr (Or.inl (hs k hk q))) (by
          obtain ⟨k, k1, k2, k3, k4⟩ := hex
          have := cnt_lt (f := fun k => w.testBit k) (g := fun k => w'.testBit k) (j := k) (n := 8) (fun p hp q => (hb' p hp).mpr (Or.inl q)) k1 (by
            show w.testBit k = false
            cases q : w.testBit k
            · rfl
            · exact absurd q k3) ((hb' k k1).mpr (Or.inr ⟨k2, k3, k4⟩))
          omega) (by omega) (by omega)
        exact ⟨u2, g1, hd2.tr g2, g3⟩
theorem x_handle {u um : St} {za zb : Nat} {pa pb : Nat → Nat} (hp : PX u um za zb pa pb) (hza : za ≤ 8) (hzb : zb ≤ 8) (ia : Inj pa za) (ib : Inj pb zb) {v : Nat} (hv : v < 256) : ∃ u', f_X1_handle u (nI v) = some u' ∧ HD u u' ∧ BP (u' 7 14) (OFF um za zb pa pb v) ∧ BP (u' 7 15) (ONN um za zb pa pb v) := by
  obtain ⟨w, hw, e6, hb⟩ := hp.2.2.2.2.1
  unfold f_X1_handle
  have hp1 := hp.hd (HD.u14 u (u 7 6))
  obtain ⟨y, ey, hy⟩ := x_miss hp1 hza hzb ia hv hw (by rw [← e6]; simp [up2, upd])
  rw [ey, Option.bind_some]
  have hd2 : HD u (up2 (up2 u 7 14 (u 7 6)) 7 15 y) := (HD.u14 u _).tr (HD.u15 _ y)
  obtain ⟨u2, g1, g2, g3⟩ := x_handle0 hza hzb ia ib hv FU 0 _ w (hp.hd hd2) hw (by rw [← e6]; simp [up2, upd]) (by simpa [up2, upd] using hy) (fun k hk q => by
    obtain ⟨q1, q2⟩ := (hb k hk).mp q
    exact off_must q1 (Or.inl q2)) (fun k hk q => (hb k (by omega)).mpr ⟨hk, q⟩) (Nat.zero_le _) (by have := FU_ge (z := 8) (by omega); omega) (by omega)
  exact ⟨u2, g1, hd2.tr g2, g3⟩
