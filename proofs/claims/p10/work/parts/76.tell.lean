/-! ===== the reference: what comes off and goes on ===== -/
theorem m_isOff {u : St} {n a za : Nat} {pa : Nat → Nat} (la : LM u a za n pa) (hn : n ≤ 32) (ia : Inj pa za) {q : Nat} (hq : q < n) {y : Nat} (hy : y < 256) (h26 : u 0 26 = nI y) : ∃ r, f_X7_isOff u (nI a) (nI q) = some r ∧ TB r (∃ i, i < za ∧ pa i = q ∧ tbit y i) := by
  obtain ⟨x, ex, hx⟩ := la.row hn hq
  have hza := la.2.1
  unfold f_X7_isOff
  rw [ex, Option.bind_some]
  rcases hx with ⟨rfl, hx⟩ | ⟨t, ht, rfl, et⟩
  · rw [if_pos (by decide)]
    exact ⟨0, rfl, TB.no (fun ⟨i, hi, e, _⟩ => hx i hi e)⟩
  · rw [if_neg (nI_pos (by omega)), h26]
    rcases (BP.self hy).hasM u (show t < 8 by omega) with ⟨e, w⟩ | ⟨e, w⟩
    · rw [e, Option.bind_some, if_neg (by decide)]
      exact ⟨1, rfl, TB.yes ⟨t, ht, et, w⟩⟩
    · rw [e, Option.bind_some, if_pos rfl]
      refine ⟨0, rfl, TB.no (fun ⟨i, hi, ei, wi⟩ => ?_)⟩
      have : i = t := ia i t hi ht (ei.trans et.symm)
      subst this
      exact w wi
/-- of b, ahead, at one place, and not worn -/
def wanting (um : St) (za : Nat) (pa pb : Nat → Nat) (v y i k : Nat) : Prop := um 2 (pb k) = um 2 (pa i) ∧ ¬ tbit v k ∧ onn za pa pb (tbit y) k
theorem or_ext {C : Prop} {P : Nat → Prop} {s : Nat} {t s1 : Int32} (ht : TB t (C ∨ ∃ k, k < s ∧ P k)) (h : TB s1 (P s)) : TB (t ||| s1) (C ∨ ∃ k, k < s + 1 ∧ P k) := by
  refine (ht.or h).congr ?_
  constructor
  · rintro ((c | ⟨k, hk, p⟩) | p)
    · exact Or.inl c
    · exact Or.inr ⟨k, by omega, p⟩
    · exact Or.inr ⟨s, by omega, p⟩
  · rintro (c | ⟨k, hk, p⟩)
    · exact Or.inl (Or.inl c)
    · rcases Nat.lt_or_ge k s with q | q
      · exact Or.inl (Or.inr ⟨k, q, p⟩)
      · have : k = s := by omega
        subst this
        exact Or.inr p
theorem or_skip {C : Prop} {P : Nat → Prop} {s : Nat} {t : Int32} (ht : TB t (C ∨ ∃ k, k < s ∧ P k)) (h : ¬ P s) : TB t (C ∨ ∃ k, k < s + 1 ∧ P k) := by
  refine ht.congr ?_
  constructor
  · rintro (c | ⟨k, hk, p⟩)
    · exact Or.inl c
    · exact Or.inr ⟨k, by omega, p⟩
  · rintro (c | ⟨k, hk, p⟩)
    · exact Or.inl c
    · rcases Nat.lt_or_ge k s with q | q
      · exact Or.inr ⟨k, q, p⟩
      · have : k = s := by omega
        subst this
        exact absurd p h
theorem m_must144 {u um : St} {n a za b zb : Nat} {pa pb : Nat → Nat} (hf : FrM um u) (hn : n ≤ 32) (la : LM u a za n pa) (lb : LM u b zb n pb) (ia : Inj pa za) {v y : Nat} (hv : v < 256) (hy : y < 256) (h26 : u 0 26 = nI y) {i c : Nat} (hi : i < za) (hc : c ≤ zb) {C : Prop} : ∀ (m s : Nat) (t : Int32), c < s + m → s ≤ c → TB t (C ∨ ∃ k, k < s ∧ wanting um za pa pb v y i k) → ∃ r, f_X7_mustOff_144 u m (nI a) (nI b) (nI v) (nI (pa i)) (nI c) t (nI s) = some r ∧ TB r (C ∨ ∃ k, k < c ∧ wanting um za pa pb v y i k) := by
  obtain ⟨hl12, hz, h11, hj⟩ := id lb
  have hpi := (la.2.2.2 i hi).2
  intro m
  induction m with
  | zero => intro s t h1 h2; omega
  | succ m ih =>
    intro s t h1 h2 ht
    rw [f_X7_mustOff_144]
    by_cases hs : s = c
    · subst hs
      rw [if_pos (Int32.le_refl _), if_pos ht.b01]
      exact ⟨t, rfl, ht⟩
    · obtain ⟨a1, a2⟩ := ix8m hl12 (show s < 8 by omega)
      obtain ⟨j2, j1⟩ := hj s (by omega)
      rw [if_neg (nI_ge (show s < c by omega) (by omega)), if_pos a1, a2, j2, if_pos (inb_nI (show pb s < 32 by omega) (by decide)), if_pos (inb_nI (show pa i < 32 by omega) (by decide)), nI_clamp (show pb s < 2 ^ 31 by omega), nI_clamp (show pa i < 2 ^ 31 by omega), hf.1 2 (by omega) (by omega), nI_1]
      have go : ∀ s1, TB s1 (wanting um za pa pb v y i s) → ∃ r, f_X7_mustOff_144 u m (nI a) (nI b) (nI v) (nI (pa i)) (nI c) (t ||| s1) (nI (s + 1)) = some r ∧ TB r (C ∨ ∃ k, k < c ∧ wanting um za pa pb v y i k) := fun s1 h => ih (s + 1) _ (by omega) (by omega) (or_ext ht h)
      by_cases w : um 2 (pb s) = um 2 (pa i)
      · rw [if_pos w]
        rcases (BP.self hv).hasM u (show s < 8 by omega) with ⟨e, r⟩ | ⟨e, r⟩
        · rw [e, Option.bind_some, if_neg (by decide)]
          exact go 0 (TB.no (fun q => q.2.1 r))
        · obtain ⟨x, ex, hx⟩ := la.row hn j1
          rw [e, Option.bind_some, if_pos rfl, ex, Option.bind_some]
          have hneg := hx.neg la.2.1
          by_cases d : x < 0
          · rw [if_pos d]
            exact go 1 (TB.yes ⟨w, r, Or.inl (hneg.mp d)⟩)
          · rw [if_neg d]
            obtain ⟨o, eo, ho⟩ := m_isOff la hn ia j1 hy h26
            rw [eo, Option.bind_some]
            rcases ho with ⟨rfl, ho⟩ | ⟨rfl, ho⟩
            · rw [if_neg (by decide)]
              exact go 1 (TB.yes ⟨w, r, Or.inr ho⟩)
            · rw [if_pos rfl]
              refine go 0 (TB.no (fun q => ?_))
              rcases q.2.2 with q | q
              · exact d (hneg.mpr q)
              · exact ho q
      · rw [if_neg w]
        exact go 0 (TB.no (fun q => w q.1))
/-- of a, ahead, at one place, and it is off, or b wants it over -/
def over (um : St) (zb : Nat) (pa pb : Nat → Nat) (y i k : Nat) : Prop := k < i ∧ um 2 (pa k) = um 2 (pa i) ∧ (tbit y k ∨ ∃ j j', j < j' ∧ j' < zb ∧ pb j = pa i ∧ pb j' = pa k)
theorem m_must38 {u um : St} {n a za b zb : Nat} {pa pb : Nat → Nat} (hf : FrM um u) (hn : n ≤ 32) (la : LM u a za n pa) (lb : LM u b zb n pb) (ia : Inj pa za) (ib : Inj pb zb) {v y : Nat} (hv : v < 256) (hy : y < 256) (h26 : u 0 26 = nI y) {i : Nat} (hi : i < za) {own : Int32} (hown : IX pb zb (pa i) own) {C : Prop} (hC : (∀ j, j < zb → pb j ≠ pa i) → C) : ∀ (m s : Nat) (t : Int32), za < s + m → s ≤ za → TB t (C ∨ ∃ k, k < s ∧ over um zb pa pb y i k) → ∃ r, f_X7_mustOff_38 u m (nI a) (nI b) (nI v) (nI i) (nI (pa i)) own t (nI s) = some r ∧ TB r ((C ∨ ∃ k, k < za ∧ over um zb pa pb y i k) ∨ ∃ j, j < zb ∧ pb j = pa i ∧ ∃ k, k < j ∧ wanting um za pa pb v y i k) := by
  obtain ⟨hl12, hz, h11, hj⟩ := id la
  have hzb := lb.2.1
  have hpi := (hj i hi).2
  intro m
  induction m with
  | zero => intro s t h1 h2; omega
  | succ m ih =>
    intro s t h1 h2 ht
    rw [f_X7_mustOff_38, if_pos (inb_nI hl12 (by decide)), nI_clamp (show a < 2 ^ 31 by omega), h11]
    by_cases hs : s = za
    · subst hs
      rw [if_pos (Int32.le_refl _)]
      rcases hown with ⟨rfl, hown⟩ | ⟨c, hc, rfl, ec⟩
      · rw [show FU = 4095 + 1 from rfl, f_X7_mustOff_144, if_pos (by decide), if_pos ht.b01]
        refine ⟨t, rfl, ht.congr ⟨Or.inl, fun q => ?_⟩⟩
        rcases q with q | ⟨j, hj', ej, -⟩
        · exact q
        · exact absurd ej (hown j hj')
      · obtain ⟨r, er, hr⟩ := m_must144 hf hn la lb ia hv hy h26 hi (show c ≤ zb by omega) FU 0 t (FUz (by omega)) (Nat.zero_le _) (C := C ∨ ∃ k, k < s ∧ over um zb pa pb y i k) (ht.congr ⟨Or.inl, fun q => q.elim id (fun ⟨k, hk, _⟩ => by omega)⟩)
        refine ⟨r, er, hr.congr ?_⟩
        constructor
        · rintro (q | ⟨k, hk, q⟩)
          · exact Or.inl q
          · exact Or.inr ⟨c, hc, ec, k, hk, q⟩
        · rintro (q | ⟨j, hj', ej, k, hk, q⟩)
          · exact Or.inl q
          · have : j = c := ib j c hj' hc (ej.trans ec.symm)
            subst this
            exact Or.inr ⟨k, hk, q⟩
    · obtain ⟨a1, a2⟩ := ix8m hl12 (show s < 8 by omega)
      obtain ⟨j2, j1⟩ := hj s (by omega)
      obtain ⟨x, ex, hx⟩ := lb.row hn j1
      rw [if_neg (nI_ge (show s < za by omega) (by omega)), if_pos a1, a2, j2, ex, Option.bind_some, if_pos (inb_nI (show pa s < 32 by omega) (by decide)), if_pos (inb_nI (show pa i < 32 by omega) (by decide)), nI_clamp (show pa s < 2 ^ 31 by omega), nI_clamp (show pa i < 2 ^ 31 by omega), hf.1 2 (by omega) (by omega), nI_1]
      have go : ∀ s1, TB s1 (over um zb pa pb y i s) → ∃ r, f_X7_mustOff_38 u m (nI a) (nI b) (nI v) (nI i) (nI (pa i)) own (t ||| s1) (nI (s + 1)) = some r ∧ TB r ((C ∨ ∃ k, k < za ∧ over um zb pa pb y i k) ∨ ∃ j, j < zb ∧ pb j = pa i ∧ ∃ k, k < j ∧ wanting um za pa pb v y i k) := fun s1 h => ih (s + 1) _ (by omega) (by omega) (or_ext ht h)
      have skip : ¬ over um zb pa pb y i s → ∃ r, f_X7_mustOff_38 u m (nI a) (nI b) (nI v) (nI i) (nI (pa i)) own t (nI (s + 1)) = some r ∧ TB r ((C ∨ ∃ k, k < za ∧ over um zb pa pb y i k) ∨ ∃ j, j < zb ∧ pb j = pa i ∧ ∃ k, k < j ∧ wanting um za pa pb v y i k) := fun h => ih (s + 1) _ (by omega) (by omega) (or_skip ht h)
      by_cases w : um 2 (pa s) = um 2 (pa i)
      · rw [if_pos w]
        by_cases d : nI i ≤ nI s
        · rw [if_pos d]
          have d' := (nI_leI (by omega) (by omega)).mp d
          exact skip (fun q => by have := q.1; omega)
        · rw [if_neg d, h26]
          have d' : s < i := by have := mt (nI_leI (show i < 2 ^ 31 by omega) (show s < 2 ^ 31 by omega)).mpr d; omega
          rcases (BP.self hy).hasM u (show s < 8 by omega) with ⟨e, r⟩ | ⟨e, r⟩
          · rw [e, Option.bind_some, if_neg (by decide)]
            exact go 1 (TB.yes ⟨d', w, Or.inl r⟩)
          · rw [e, Option.bind_some, if_pos rfl]
            rcases hown with ⟨rfl, hown⟩ | ⟨c, hc, rfl, ec⟩
            · rw [if_pos (by decide)]
              refine go 0 (TB.no (fun q => ?_))
              rcases q.2.2 with q | ⟨j, j', q1, q2, q3, q4⟩
              · exact r q
              · exact hown j (by omega) q3
            · rw [if_neg (nI_pos (by omega))]
              rcases hx with ⟨rfl, hx⟩ | ⟨c2, hc2, rfl, ec2⟩
              · rw [if_pos (by decide)]
                refine go 0 (TB.no (fun q => ?_))
                rcases q.2.2 with q | ⟨j, j', q1, q2, q3, q4⟩
                · exact r q
                · exact hx j' q2 q4
              · rw [if_neg (nI_pos (by omega))]
                by_cases f : nI c2 ≤ nI c
                · rw [if_pos f]
                  have f' := (nI_leI (by omega) (by omega)).mp f
                  refine go 0 (TB.no (fun q => ?_))
                  rcases q.2.2 with q | ⟨j, j', q1, q2, q3, q4⟩
                  · exact r q
                  · have e1 : j = c := ib j c (by omega) hc (q3.trans ec.symm)
                    have e2 : j' = c2 := ib j' c2 q2 hc2 (q4.trans ec2.symm)
                    omega
                · rw [if_neg f]
                  have f' := mt (nI_leI (show c2 < 2 ^ 31 by omega) (show c < 2 ^ 31 by omega)).mpr f
                  exact go 1 (TB.yes ⟨d', w, Or.inr ⟨c, c2, by omega, hc2, ec, ec2⟩⟩)
      · rw [if_neg w]
        exact skip (fun q => w q.2.1)
theorem m_must {u um : St} {n a za b zb : Nat} {pa pb : Nat → Nat} (hf : FrM um u) (hn : n ≤ 32) (la : LM u a za n pa) (lb : LM u b zb n pb) (ia : Inj pa za) (ib : Inj pb zb) {v y : Nat} (hv : v < 256) (hy : y < 256) (h26 : u 0 26 = nI y) {i : Nat} (hi : i < za) : ∃ r, f_X7_mustOff u (nI a) (nI b) (nI v) (nI i) = some r ∧ TB r (must um za zb pa pb v (tbit y) i) := by
  obtain ⟨hl12, hz, h11, hj⟩ := id la
  obtain ⟨a1, a2⟩ := ix8m hl12 (show i < 8 by omega)
  obtain ⟨j2, j1⟩ := hj i hi
  obtain ⟨x, ex, hx⟩ := lb.row hn j1
  have hneg := hx.neg lb.2.1
  have hx' := hx
  unfold f_X7_mustOff
  rw [if_pos a1, a2, j2, ex, Option.bind_some]
  have fin : (((∀ j, j < zb → pb j ≠ pa i) ∨ ∃ k, k < za ∧ over um zb pa pb y i k) ∨ ∃ j, j < zb ∧ pb j = pa i ∧ ∃ k, k < j ∧ wanting um za pa pb v y i k) ↔ must um za zb pa pb v (tbit y) i := by
    constructor
    · rintro ((q | ⟨k, hk, q1, q2, q3 | q3⟩) | ⟨j, hj', ej, k, hk, q1, q2, q3⟩)
      · exact Or.inl (Or.inl q)
      · exact Or.inr (Or.inl ⟨k, q1, q2, q3⟩)
      · exact Or.inl (Or.inr ⟨k, q1, q2, q3⟩)
      · exact Or.inr (Or.inr ⟨j, hj', ej, k, hk, by rw [q1, ej], q2, q3⟩)
    · rintro ((q | ⟨k, q1, q2, q3⟩) | (⟨k, q1, q2, q3⟩ | ⟨j, hj', ej, k, hk, q1, q2, q3⟩))
      · exact Or.inl (Or.inl q)
      · exact Or.inl (Or.inr ⟨k, by omega, q1, q2, Or.inr q3⟩)
      · exact Or.inl (Or.inr ⟨k, by omega, q1, q2, Or.inl q3⟩)
      · exact Or.inr ⟨j, hj', ej, k, hk, by rw [q1, ej], q2, q3⟩
  have go : ∀ t, TB t (∀ j, j < zb → pb j ≠ pa i) → ∃ r, f_X7_mustOff_38 u FU (nI a) (nI b) (nI v) (nI i) (nI (pa i)) x t 0 = some r ∧ TB r (must um za zb pa pb v (tbit y) i) := fun t ht => by
    obtain ⟨r, er, hr⟩ := m_must38 hf hn la lb ia ib hv hy h26 hi hx' (C := ∀ j, j < zb → pb j ≠ pa i) id FU 0 t (FUz hz) (Nat.zero_le _) (ht.congr ⟨Or.inl, fun q => q.elim id (fun ⟨k, hk, _⟩ => by omega)⟩)
    exact ⟨r, er, hr.congr fin⟩
  by_cases c : 0 ≤ x
  · rw [if_pos c]
    exact go 0 (TB.no (fun q => absurd (hneg.mpr q) (i_nlt.mpr c)))
  · rw [if_neg c]
    exact go 1 (TB.yes (hneg.mp (i_nle.mp c)))
/-- telling writes two numbers alone -/
def HT (u w : St) : Prop := (∀ k, k ≠ 0 → w k = u k) ∧ ∀ j, j ≠ 26 → j ≠ 27 → w 0 j = u 0 j
theorem HT.rf (u : St) : HT u u := ⟨fun _ _ => rfl, fun _ _ _ => rfl⟩
theorem HT.tr {a b c : St} (h1 : HT a b) (h2 : HT b c) : HT a c := ⟨fun k hk => (h2.1 k hk).trans (h1.1 k hk), fun j h3 h4 => (h2.2 j h3 h4).trans (h1.2 j h3 h4)⟩
theorem HT.u26 (u : St) (x : Int32) : HT u (up2 u 0 26 x) := ⟨fun k hk => by simp [up2, hk], fun j h1 h2 => by simp [up2, upd, h1]⟩
theorem HT.u27 (u : St) (x : Int32) : HT u (up2 u 0 27 x) := ⟨fun k hk => by simp [up2, hk], fun j h1 h2 => by simp [up2, upd, h2]⟩
theorem HT.fr {u w : St} (h : HT u w) : FrM u w := ⟨fun k h1 h2 => h.1 k (by omega), fun j hj => h.2 j (by omega) (by omega)⟩
theorem m_tell87 {um : St} {n a za b zb : Nat} {pa pb : Nat → Nat} (hn : n ≤ 32) (ia : Inj pa za) {v y : Nat} (hv : v < 256) (hy : y < 256) : ∀ (m i : Nat) (u : St), LM u a za n pa → LM u b zb n pb → u 0 26 = nI y → BP (u 0 27) (fun k => k < i ∧ ¬ tbit v k ∧ onn za pa pb (tbit y) k) → zb < i + m → i ≤ zb → ∃ w, f_X7_tell_87 m u (nI a) (nI b) (nI v) (nI i) = some w ∧ HT u w ∧ w 0 26 = nI y ∧ BP (w 0 27) (fun k => k < zb ∧ ¬ tbit v k ∧ onn za pa pb (tbit y) k) := by
  intro m
  induction m with
  | zero => intro i u _ _ _ _ h1 h2; omega
  | succ m ih =>
    intro i u la lb h26 h27 h1 h2
    obtain ⟨hl12, hz, h11, hj⟩ := id lb
    rw [f_X7_tell_87, if_pos (inb_nI hl12 (by decide)), nI_clamp (show b < 2 ^ 31 by omega), h11]
    by_cases hi : i = zb
    · subst hi
      rw [if_pos (Int32.le_refl _)]
      exact ⟨u, rfl, HT.rf u, h26, h27⟩
    · have hi8 : i < 8 := by omega
      obtain ⟨a1, a2⟩ := ix8m hl12 hi8
      obtain ⟨j2, j1⟩ := hj i (by omega)
      have go : ∀ x, BP x (fun k => k < i + 1 ∧ ¬ tbit v k ∧ onn za pa pb (tbit y) k) → ∃ w, f_X7_tell_87 m (up2 u 0 27 x) (nI a) (nI b) (nI v) (nI (i + 1)) = some w ∧ HT u w ∧ w 0 26 = nI y ∧ BP (w 0 27) (fun k => k < zb ∧ ¬ tbit v k ∧ onn za pa pb (tbit y) k) := fun x hx => by
        have f1 := HT.u27 u x
        obtain ⟨w, e1, e2, e3⟩ := ih (i + 1) _ (la.fr f1.fr) (lb.fr f1.fr) (by simpa [up2, upd] using h26) (by simpa [up2, upd] using hx) (by omega) (by omega)
        exact ⟨w, e1, f1.tr e2, e3⟩
      rw [if_neg (nI_ge (show i < zb by omega) (by omega)), if_pos a1, a2, j2]
      rcases (BP.self hv).hasM u hi8 with ⟨e, q⟩ | ⟨e, q⟩
      · rw [e, Option.bind_some, if_neg (by decide), nI_1, Int32.or_zero]
        exact go _ (h27.step0 (fun r => r.1 q))
      · obtain ⟨x, ex, hx⟩ := la.row hn j1
        have hneg := hx.neg la.2.1
        rw [e, Option.bind_some, if_pos rfl, ex, Option.bind_some]
        by_cases d : x < 0
        · rw [if_pos d]
          unfold f_X7_tell_146
          rw [nI_1]
          exact go _ (h27.step1 hi8 ⟨q, Or.inl (hneg.mp d)⟩)
        · rw [if_neg d]
          obtain ⟨o, eo, ho⟩ := m_isOff la hn ia j1 hy h26
          rw [eo, Option.bind_some]
          rcases ho with ⟨rfl, ho⟩ | ⟨rfl, ho⟩
          · rw [if_neg (by decide)]
            unfold f_X7_tell_146
            rw [nI_1]
            exact go _ (h27.step1 hi8 ⟨q, Or.inr ho⟩)
          · rw [if_pos rfl, nI_1, Int32.or_zero]
            refine go _ (h27.step0 (fun r => ?_))
            rcases r.2 with r9 | r9
            · exact d (hneg.mpr r9)
            · exact ho r9
theorem m_tell19 {um : St} {n a za b zb : Nat} {pa pb : Nat → Nat} (hn : n ≤ 32) (ia : Inj pa za) (ib : Inj pb zb) {v : Nat} (hv : v < 256) (k8 : St → Int32 → Int32 → Int32 → Int32 → Option (St)) {Post : St → St → Prop} (htr : ∀ u u' w, HT u u' → Post u' w → Post u w) (y0 : Nat) (hk : ∀ (u : St) (y : Nat) (t : Int32), FrM um u → LM u a za n pa → LM u b zb n pb → u 0 26 = nI y → y < 256 → (∀ k, k < 8 → tbit y k → OFF um za zb pa pb v k) → ((t = 0 ∧ clo um za zb pa pb v (tbit y)) ∨ (t = 1 ∧ y0 < y)) → ∃ w, k8 u (nI a) (nI b) (nI v) t = some w ∧ Post u w) : ∀ (m i : Nat) (u : St) (y : Nat) (t : Int32), FrM um u → LM u a za n pa → LM u b zb n pb → u 0 26 = nI y → y < 256 → y0 ≤ y → (∀ k, k < 8 → tbit y k → OFF um za zb pa pb v k) → ((t = 0 ∧ ∀ k, k < i → must um za zb pa pb v (tbit y) k → tbit y k) ∨ (t = 1 ∧ y0 < y)) → za < i + m → i ≤ za → ∃ w, f_X7_tell_19 k8 m u (nI a) (nI b) (nI v) t (nI i) = some w ∧ Post u w := by
  intro m
  induction m with
  | zero => intro i u y t _ _ _ _ _ _ _ _ h1 h2; omega
  | succ m ih =>
    intro i u y t hf la lb h26 hy hy0 ho ht h1 h2
    obtain ⟨hl12, hz, h11, hj⟩ := id la
    rw [f_X7_tell_19, if_pos (inb_nI hl12 (by decide)), nI_clamp (show a < 2 ^ 31 by omega), h11]
    by_cases hi : i = za
    · subst hi
      rw [if_pos (Int32.le_refl _)]
      exact hk u y t hf la lb h26 hy ho ht
    · have hlt : i < za := by omega
      have hi8 : i < 8 := by omega
      rw [if_neg (nI_ge hlt (by omega)), h26, nI_1]
      have stay : (must um za zb pa pb v (tbit y) i → tbit y i) → ∃ w, f_X7_tell_19 k8 m u (nI a) (nI b) (nI v) t (nI (i + 1)) = some w ∧ Post u w := fun hm => ih (i + 1) u y t hf la lb h26 hy hy0 ho (by
        rcases ht with ⟨t0, ht⟩ | ht
        · refine Or.inl ⟨t0, fun k hk q => ?_⟩
          by_cases w : k = i
          · subst w; exact hm q
          · exact ht k (by omega) q
        · exact Or.inr ht) (by omega) (by omega)
      rcases (BP.self hy).hasM u hi8 with ⟨e, q⟩ | ⟨e, q⟩
      · rw [e, Option.bind_some, if_neg (by decide)]
        exact stay (fun _ => q)
      · obtain ⟨r, er, hr⟩ := m_must hf hn la lb ia ib hv hy h26 hlt
        rw [e, Option.bind_some, if_pos rfl, er, Option.bind_some]
        rcases hr with ⟨rfl, hr⟩ | ⟨rfl, hr⟩
        · rw [if_neg (by decide)]
          have hb0 : ¬ ((nI y >>> (nI i &&& 31)) &&& 1 = 1) := fun w => q ((b_has y hy i hi8).mp w)
          obtain ⟨b1, b2, b3⟩ := (bitup y hy i hi8).resolve_left hb0
          rw [b3]
          have f1 := HT.u26 u (nI (y ||| 2 ^ i))
          have bits : ∀ k, k < 8 → (tbit (y ||| 2 ^ i) k ↔ tbit y k ∨ k = i) := fun k hk => by
            unfold tbit
            rw [Nat.testBit_or, Bool.or_eq_true, Nat.testBit_two_pow, decide_eq_true_iff]
            exact ⟨fun w => w.imp id Eq.symm, fun w => w.imp id Eq.symm⟩
          obtain ⟨w, e1, e2⟩ := ih (i + 1) (up2 u 0 26 (nI (y ||| 2 ^ i))) (y ||| 2 ^ i) 1 (hf.tr f1.fr) (la.fr f1.fr) (lb.fr f1.fr) (by simp [up2, upd]) b2 (by omega) (fun k hk w => by
            rcases (bits k hk).mp w with w | w
            · exact ho k hk w
            · subst w
              exact off_in (fun t ht f => ho t (by omega) f) hlt hr) (Or.inr ⟨rfl, by omega⟩) (by omega) (by omega)
          exact ⟨w, e1, htr _ _ _ f1 e2⟩
        · rw [if_pos rfl]
          exact stay (fun w => absurd w hr)
/-- what telling leaves behind -/
def TOLD (um : St) (za zb : Nat) (pa pb : Nat → Nat) (v : Nat) (u w : St) : Prop := HT u w ∧ BP (w 0 26) (OFF um za zb pa pb v) ∧ BP (w 0 27) (ONN um za zb pa pb v)
theorem m_tell8 {um : St} {n a za b zb : Nat} {pa pb : Nat → Nat} (hn : n ≤ 32) (ia : Inj pa za) (ib : Inj pb zb) {v : Nat} (hv : v < 256) : ∀ (m : Nat) (u : St) (y : Nat) (t : Int32), FrM um u → LM u a za n pa → LM u b zb n pb → u 0 26 = nI y → y < 256 → (∀ k, k < 8 → tbit y k → OFF um za zb pa pb v k) → ((t = 0 ∧ clo um za zb pa pb v (tbit y)) ∨ t = 1) → ((t = 0 ∧ 1 ≤ m) ∨ 257 ≤ y + m) → ∃ w, f_X7_tell_8 m u (nI a) (nI b) (nI v) t = some w ∧ TOLD um za zb pa pb v u w := by
  intro m
  induction m with
  | zero => intro u y t _ _ _ _ hy _ _ h1; omega
  | succ m ih =>
    intro u y t hf la lb h26 hy ho ht hm
    rw [f_X7_tell_8]
    rcases ht with ⟨rfl, hcl⟩ | rfl
    · rw [if_pos rfl]
      have f1 := HT.u27 u 0
      obtain ⟨w, e1, e2, e3, e4⟩ := m_tell87 (um := um) hn ia hv hy FU 0 (up2 u 0 27 0) (la.fr f1.fr) (lb.fr f1.fr) (by simpa [up2, upd] using h26) (by
        rw [show (up2 u 0 27 0) 0 27 = 0 by simp [up2, upd]]
        exact BP.start) (FUz lb.2.1) (Nat.zero_le _)
      exact ⟨w, e1, f1.tr e2, by rw [e3]; exact (BP.self hy).congr (fun k hk => off_iff ho hcl hk), e4.congr (fun k hk => onn_iff la.2.1 ho hcl k)⟩
    · rw [if_neg (by decide)]
      have h257 : 257 ≤ y + (m + 1) := by
        rcases hm with ⟨q, -⟩ | q
        · exact absurd q (by decide)
        · exact q
      exact m_tell19 hn ia ib hv (f_X7_tell_8 m) (Post := TOLD um za zb pa pb v) (fun u u' w h1 h2 => ⟨h1.tr h2.1, h2.2⟩) y (fun u' y' t' hf' la' lb' h26' hy' ho' ht' => ih u' y' t' hf' la' lb' h26' hy' ho' (ht'.imp id (fun q => q.1)) (by
        rcases ht' with ⟨q, -⟩ | ⟨-, q⟩
        · exact Or.inl ⟨q, by omega⟩
        · exact Or.inr (by omega))) FU 0 u y 0 hf la lb h26 hy (Nat.le_refl _) ho (Or.inl ⟨rfl, fun k hk => by omega⟩) (FUz la.2.1) (Nat.zero_le _)
theorem m_tell {u um : St} {n a za b zb : Nat} {pa pb : Nat → Nat} (hf : FrM um u) (hn : n ≤ 32) (la : LM u a za n pa) (lb : LM u b zb n pb) (ia : Inj pa za) (ib : Inj pb zb) {v : Nat} (hv : v < 256) : ∃ w, f_X7_tell u (nI a) (nI b) (nI v) = some w ∧ TOLD um za zb pa pb v u w := by
  have f1 := HT.u26 u 0
  obtain ⟨w, e1, e2, e3⟩ := m_tell8 hn ia ib hv FU (up2 u 0 26 0) 0 1 (hf.tr f1.fr) (la.fr f1.fr) (lb.fr f1.fr) (by simp [up2, upd]; rfl) (by omega) (fun k hk q => by simp [tbit] at q) (Or.inr rfl) (Or.inr (by have := FU_ge (z := 300) (by omega); omega))
  exact ⟨w, e1, f1.tr e2, e3⟩
theorem al_told {ux um : St} (h : R ux um) (a b x w : Int32) : Both (f_X6_told ux a b x w) (f_X7_told um a b x w) := by
  rcases chg h a b x with ⟨e1, e2⟩ | ⟨e1, e2, n, ka, kb, za, zb, v, pa, pb, rfl, rfl, rfl, hv2, hv8, hc, hv, xa, xb, ma, mb, ia, ib⟩
  · exact bf1 h (by simp [f_X6_told, e1, e_x1]) (by simp [f_X7_told, e2, e_m1])
  cases hw : win w 0 3
  · exact bf1 h (by simp [f_X6_told, e1, e_isWithin, hw, e_x1]) (by simp [f_X7_told, e2, e_isIn, hw, e_m1])
  obtain ⟨u', g1, g2, g3⟩ := x_prepare hc hv xa xb ib
  obtain ⟨r, r1, r2⟩ := x_may g3 xa.2.1 xb.2.1 hv8 (u' 0 9)
  obtain ⟨s, s1, s2⟩ := m_all (FrM.rf um) hc.1 hv ma mb hv8
  rw [g2 0 (by omega), h.lim] at r2
  have hrs := r2.eq s2
  subst hrs
  have ex : f_X6_isAllowed ux (nI ka) (nI kb) (nI v) = some (r, u') := by
    simp only [f_X6_isAllowed, g1, Option.bind_some, r1, if_pos r2.b01]
  rcases r2 with ⟨rfl, -⟩ | ⟨rfl, -⟩
  · obtain ⟨u2, i1, i2, i3, i4⟩ := x_handle g3 xa.2.1 xb.2.1 ia ib hv8
    obtain ⟨w2, j1, j2, j3, j4⟩ := m_tell (FrM.rf um) hc.1 ma mb ia ib hv8
    have hR : R u2 w2 := h.fr (g2.tr i2.fr) j2.fr
    have eo : u2 7 14 = w2 0 26 := i3.eq j3
    have en : u2 7 15 = w2 0 27 := i4.eq j4
    have c1 : f_J6_bitCount u2 (u2 7 14) = f_X7_countOf w2 (w2 0 26) := by rw [eo]; exact (j3.cnt w2 u2).symm
    have c2 : f_J6_bitCount u2 (u2 7 15) = f_X7_countOf w2 (w2 0 27) := by rw [en]; exact (j4.cnt w2 u2).symm
    obtain ⟨z1, ez1⟩ : ∃ z, f_J6_bitCount u2 (u2 7 14) = some z := ⟨_, rfl⟩
    obtain ⟨z2, ez2⟩ : ∃ z, f_J6_bitCount u2 (u2 7 15) = some z := ⟨_, rfl⟩
    obtain ⟨k, hk, rfl⟩ := (win_nI (n := 3) (by decide) 3 rfl).mp hw
    have pre : f_X6_told ux (nI ka) (nI kb) (nI v) (nI k) = if (nI k - nI k / 2 * 2) = 0 then f_X6_told_74 u2 (nI k) (u2 7 14) else f_X6_told_74 u2 (nI k) (u2 7 15) := by
      simp only [f_X6_told, e1, Option.bind_some, e_isWithin, hw, ex, i1]
      simp
    have prm : f_X7_told um (nI ka) (nI kb) (nI v) (nI k) = if nI k = 0 then (f_X7_countOf w2 (w2 0 26)).bind (fun q19 => some (q19, w2)) else if nI k = 1 then (f_X7_countOf w2 (w2 0 27)).bind (fun q17 => some (q17, w2)) else if nI k = 2 then some ((w2 0 26), w2) else some ((w2 0 27), w2) := by
      simp only [f_X7_told, e2, Option.bind_some, e_isIn, hw, s1, j1]
      simp
    rw [← c1, ← c2] at prm
    rcases (show k = 0 ∨ k = 1 ∨ k = 2 ∨ k = 3 by omega) with rfl | rfl | rfl | rfl
    · refine ⟨(z1, u2), (z1, w2), ?_, ?_, rfl, hR⟩
      · rw [pre, if_pos (by decide), f_X6_told_74, if_neg (by decide), ez1, Option.bind_some]
      · rw [prm, if_pos (by decide), ez1, Option.bind_some]
    · refine ⟨(z2, u2), (z2, w2), ?_, ?_, rfl, hR⟩
      · rw [pre, if_neg (by decide), f_X6_told_74, if_neg (by decide), ez2, Option.bind_some]
      · rw [prm, if_neg (by decide), if_pos (by decide), ez2, Option.bind_some]
    · refine ⟨(u2 7 14, u2), (w2 0 26, w2), ?_, ?_, eo, hR⟩
      · rw [pre, if_pos (by decide), f_X6_told_74, if_pos (by decide)]
      · rw [prm, if_neg (by decide), if_neg (by decide), if_pos (by decide)]
    · refine ⟨(u2 7 15, u2), (w2 0 27, w2), ?_, ?_, en, hR⟩
      · rw [pre, if_neg (by decide), f_X6_told_74, if_pos (by decide)]
      · rw [prm, if_neg (by decide), if_neg (by decide), if_neg (by decide)]
  · have h3 := h.fr g2 (FrM.rf um)
    exact bf3 h3 (by simp [f_X6_told, e1, e_isWithin, hw, ex, e_x3]) (by simp [f_X7_told, e2, e_isIn, hw, s1, e_m3])
