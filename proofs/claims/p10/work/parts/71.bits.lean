/-! ===== sets of eight, as bits ===== -/
def BP (x : Int32) (P : Nat → Prop) : Prop := ∃ v, v < 256 ∧ x = nI v ∧ ∀ i, i < 8 → (v.testBit i = true ↔ P i)
theorem b_has : ∀ v, v < 256 → ∀ i, i < 8 → ((((nI v >>> (nI i &&& 31)) &&& 1) = 1) ↔ v.testBit i = true) := by decide +kernel
theorem b_hasx : ∀ v, v < 256 → ∀ i, i < 8 → (((jushr (nI v) (nI i)) &&& 1 = 0) ↔ v.testBit i = false) := by decide +kernel
theorem b_set : ∀ v, v < 256 → ∀ i, i < 8 → (v ||| 2 ^ i) < 256 ∧ nI v ||| ((1 : Int32) <<< (nI i &&& 31)) = nI (v ||| 2 ^ i) := by decide +kernel
theorem b_and (v w : Nat) : nI v &&& nI w = nI (v &&& w) := by
  show Int32.ofBitVec (BitVec.ofNat 32 v &&& BitVec.ofNat 32 w) = Int32.ofBitVec (BitVec.ofNat 32 (v &&& w))
  rw [BitVec.ofNat_and]
theorem b_or (v w : Nat) : nI v ||| nI w = nI (v ||| w) := by
  show Int32.ofBitVec (BitVec.ofNat 32 v ||| BitVec.ofNat 32 w) = Int32.ofBitVec (BitVec.ofNat 32 (v ||| w))
  rw [BitVec.ofNat_or]
theorem b_not (x y : Int32) : (x &&& y) ||| (x &&& (y ^^^ (-1))) = x := by
  apply Int32.toBitVec.inj
  show (x.toBitVec &&& y.toBitVec) ||| (x.toBitVec &&& (y.toBitVec ^^^ (-1#32))) = x.toBitVec
  rw [show (-1#32) = BitVec.allOnes 32 by decide, BitVec.xor_allOnes]
  ext i hi
  simp only [BitVec.getElem_or, BitVec.getElem_and, BitVec.getElem_not]
  cases x.toBitVec[i] <;> cases y.toBitVec[i] <;> rfl
theorem b_not2 (x y : Int32) : (x &&& y) &&& (y ^^^ (-1)) = 0 := by
  apply Int32.toBitVec.inj
  show (x.toBitVec &&& y.toBitVec) &&& (y.toBitVec ^^^ (-1#32)) = 0#32
  rw [show (-1#32) = BitVec.allOnes 32 by decide, BitVec.xor_allOnes]
  ext i hi
  simp only [BitVec.getElem_and, BitVec.getElem_not, BitVec.getElem_zero]
  cases x.toBitVec[i] <;> cases y.toBitVec[i] <;> rfl
theorem b_andn (x y : Int32) : x &&& (y ^^^ (-1)) = 0 ↔ x &&& y = x := by
  constructor
  · intro h
    have e := b_not x y
    rw [h] at e
    rwa [Int32.or_zero] at e
  · intro h
    have e := b_not2 x y
    rwa [h] at e
theorem tb8 {v i : Nat} (hv : v < 256) (hi : 8 ≤ i) : v.testBit i = false := Nat.testBit_lt_two_pow (Nat.lt_of_lt_of_le (show v < 2 ^ 8 from hv) (Nat.pow_le_pow_right (n := 2) (by decide) hi))
theorem tb_eq {v w : Nat} (hv : v < 256) (hw : w < 256) (h : ∀ i, i < 8 → (v.testBit i = true ↔ w.testBit i = true)) : v = w := by
  apply Nat.eq_of_testBit_eq
  intro i
  rcases Nat.lt_or_ge i 8 with q | q
  · have := h i q
    cases a : v.testBit i <;> cases b : w.testBit i <;> simp [a, b] at this ⊢
  · rw [tb8 hv q, tb8 hw q]
theorem BP.zero : BP 0 (fun _ => False) := ⟨0, by decide, rfl, fun i _ => by simp⟩
theorem BP.congr {x : Int32} {P Q : Nat → Prop} (h : BP x P) (e : ∀ i, i < 8 → (P i ↔ Q i)) : BP x Q := by
  obtain ⟨v, hv, hx, hb⟩ := h
  exact ⟨v, hv, hx, fun i hi => (hb i hi).trans (e i hi)⟩
theorem BP.eq {x y : Int32} {P : Nat → Prop} (h1 : BP x P) (h2 : BP y P) : x = y := by
  obtain ⟨v, hv, hx, hb⟩ := h1
  obtain ⟨w, hw, hy, hc⟩ := h2
  rw [hx, hy, tb_eq hv hw (fun i hi => (hb i hi).trans (hc i hi).symm)]
theorem BP.and {x y : Int32} {P Q : Nat → Prop} (h1 : BP x P) (h2 : BP y Q) : BP (x &&& y) (fun i => P i ∧ Q i) := by
  obtain ⟨v, hv, hx, hb⟩ := h1
  obtain ⟨w, hw, hy, hc⟩ := h2
  refine ⟨v &&& w, Nat.and_lt_two_pow (n := 8) v hw, by rw [hx, hy, b_and], fun i hi => ?_⟩
  rw [Nat.testBit_and, Bool.and_eq_true, hb i hi, hc i hi]
theorem BP.or {x y : Int32} {P Q : Nat → Prop} (h1 : BP x P) (h2 : BP y Q) : BP (x ||| y) (fun i => P i ∨ Q i) := by
  obtain ⟨v, hv, hx, hb⟩ := h1
  obtain ⟨w, hw, hy, hc⟩ := h2
  refine ⟨v ||| w, Nat.or_lt_two_pow (n := 8) hv hw, by rw [hx, hy, b_or], fun i hi => ?_⟩
  rw [Nat.testBit_or, Bool.or_eq_true, hb i hi, hc i hi]
theorem BP.set {x : Int32} {P : Nat → Prop} (h : BP x P) {i : Nat} (hi : i < 8) : BP (x ||| ((1 : Int32) <<< (nI i &&& 31))) (fun k => P k ∨ k = i) := by
  obtain ⟨v, hv, hx, hb⟩ := h
  obtain ⟨a1, a2⟩ := b_set v hv i hi
  refine ⟨v ||| 2 ^ i, a1, by rw [hx, a2], fun k hk => ?_⟩
  rw [Nat.testBit_or, Bool.or_eq_true, hb k hk, Nat.testBit_two_pow, decide_eq_true_iff]
  constructor
  · rintro (q | q)
    · exact Or.inl q
    · exact Or.inr q.symm
  · rintro (q | q)
    · exact Or.inl q
    · exact Or.inr q.symm
theorem BP.eq0 {x : Int32} {P : Nat → Prop} (h : BP x P) : x = 0 ↔ ∀ i, i < 8 → ¬ P i := by
  constructor
  · intro e i hi q
    obtain ⟨v, hv, hx, hb⟩ := h
    have hv0 : v = 0 := (nI_eq (b := 0) (by omega) (by decide)).mp (hx.symm.trans (e.trans nI_0.symm))
    have := (hb i hi).mpr q
    rw [hv0] at this
    simp at this
  · intro q
    exact (h.congr (fun i hi => ⟨fun r => absurd r (q i hi), False.elim⟩)).eq BP.zero
theorem BP.and0 {x y : Int32} {P Q : Nat → Prop} (h1 : BP x P) (h2 : BP y Q) : x &&& y = 0 ↔ ∀ i, i < 8 → ¬ (P i ∧ Q i) := (h1.and h2).eq0
theorem BP.andn0 {x y : Int32} {P Q : Nat → Prop} (h1 : BP x P) (h2 : BP y Q) : x &&& (y ^^^ (-1)) = 0 ↔ ∀ i, i < 8 → P i → Q i := by
  rw [b_andn]
  constructor
  · intro e i hi p
    have h3 := h1.and h2
    rw [e] at h3
    obtain ⟨v, hv, hx, hb⟩ := h1
    obtain ⟨w, hw, hy, hc⟩ := h3
    have : v = w := (nI_eq (by omega) (by omega)).mp (hx.symm.trans hy)
    subst this
    exact ((hc i hi).mp ((hb i hi).mpr p)).2
  · intro q
    exact ((h1.and h2).congr (fun i hi => ⟨fun r => r.1, fun r => ⟨r, q i hi r⟩⟩)).eq h1
theorem BP.hasM (u : St) {x : Int32} {P : Nat → Prop} (h : BP x P) {i : Nat} (hi : i < 8) : (f_X7_has u x (nI i) = some 1 ∧ P i) ∨ (f_X7_has u x (nI i) = some 0 ∧ ¬ P i) := by
  obtain ⟨v, hv, hx, hb⟩ := h
  subst hx
  unfold f_X7_has
  by_cases q : ((nI v >>> (nI i &&& 31)) &&& 1) = 1
  · exact Or.inl ⟨if_pos q, (hb i hi).mp ((b_has v hv i hi).mp q)⟩
  · exact Or.inr ⟨if_neg q, fun r => q ((b_has v hv i hi).mpr ((hb i hi).mpr r))⟩
theorem BP.hasX (u : St) {x : Int32} {P : Nat → Prop} (h : BP x P) {i : Nat} (hi : i < 8) : (f_X6_hasBit u x (nI i) = some 1 ∧ P i) ∨ (f_X6_hasBit u x (nI i) = some 0 ∧ ¬ P i) := by
  obtain ⟨v, hv, hx, hb⟩ := h
  subst hx
  unfold f_X6_hasBit
  by_cases q : ((jushr (nI v) (nI i)) &&& 1) = 0
  · exact Or.inr ⟨if_pos q, fun r => by have := (hb i hi).mpr r; rw [(b_hasx v hv i hi).mp q] at this; cases this⟩
  · refine Or.inl ⟨if_neg q, (hb i hi).mp ?_⟩
    cases r : v.testBit i
    · exact absurd ((b_hasx v hv i hi).mpr r) q
    · rfl
def u00 : St := fun _ _ => 0
theorem cnt_u (u u' : St) : ∀ (m : Nat) (a b c : Int32), f_X7_countOf_4 u m a b c = f_X7_countOf_4 u' m a b c := by
  intro m
  induction m with
  | zero => intro a b c; rfl
  | succ m ih =>
    intro a b c
    rw [f_X7_countOf_4, f_X7_countOf_4]
    split
    · rfl
    · exact ih _ _ _
theorem b_cnt0 : ∀ v, v < 256 → f_X7_countOf u00 (nI v) = f_J6_bitCount u00 (nI v) := by decide +kernel
theorem b_cnt (u u' : St) {v : Nat} (hv : v < 256) : f_X7_countOf u (nI v) = f_J6_bitCount u' (nI v) := by
  have := b_cnt0 v hv
  unfold f_X7_countOf at this ⊢
  rw [cnt_u u u00]
  exact this
theorem BP.cnt {x : Int32} {P : Nat → Prop} (h : BP x P) (u u' : St) : f_X7_countOf u x = f_J6_bitCount u' x := by
  obtain ⟨v, hv, hx, hb⟩ := h
  subst hx
  exact b_cnt u u' hv
theorem BP.self {v : Nat} (hv : v < 256) : BP (nI v) (fun i => v.testBit i = true) := ⟨v, hv, rfl, fun i hi => Iff.rfl⟩
