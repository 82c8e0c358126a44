/-! ===== the world of one side as a list of cells of fixed shape over one function of numbers ===== -/
abbrev Vl : Type := Int32 ⊕ Nat
abbrev St : Type := Nat → Nat → Int32
abbrev Se : Type := (Nat × List (Option Nat)) ⊕ (Nat × Bool)
abbrev Sh : Type := List Se
def tv (g : Nat → Nat) : Vl → Value
  | .inl x => .int x
  | .inr k => .ref (g k)
theorem tv_cat (g : Nat → Nat) (v : Vl) : (tv g v).category = 1 := by cases v <;> rfl
def fldv (g : Nat → Nat) (f : Nat → Int32) : Nat → List (Option Nat) → List Value
  | _, [] => []
  | j, some c :: fl => .ref (g c) :: fldv g f (j + 1) fl
  | j, none :: fl => .int (f j) :: fldv g f (j + 1) fl
def cel (g : Nat → Nat) (cA : ClassId) (f : Nat → Int32) : Se → va_E
  | .inl (ci, fl) => .inr (ci, fldv g f 0 fl)
  | .inr (n, _) => .inl (cA, n, .inl f)
def wlf (g : Nat → Nat) (cA : Nat → ClassId) (u : St) : Nat → Sh → va_W
  | _, [] => []
  | k, e :: sh => (g k, cel g (cA k) (u k) e) :: wlf g cA u (k + 1) sh
def tyf (cA : Nat → ClassId) : Nat → Sh → List (ClassId × FieldType)
  | _, [] => []
  | k, .inl _ :: sh => tyf cA (k + 1) sh
  | k, .inr (_, z) :: sh => (cA k, if z then .boolean else .int) :: tyf cA (k + 1) sh
def wld (sh : Sh) (g : Nat → Nat) (cA : Nat → ClassId) (u : St) : va_W := wlf g cA u 0 sh
def tys (sh : Sh) (cA : Nat → ClassId) : List (ClassId × FieldType) := tyf cA 0 sh
def up2 (u : St) (k j : Nat) (x : Int32) : St := fun a => if a = k then upd (u k) j x else u a
theorem up2_s (u : St) (k j : Nat) (x : Int32) : up2 u k j x k = upd (u k) j x := by simp [up2]
theorem up2_n (u : St) {k a : Nat} (j : Nat) (x : Int32) (h : a ≠ k) : up2 u k j x a = u a := by simp [up2, h]
theorem wlf_get (g : Nat → Nat) (cA : Nat → ClassId) (u : St) : ∀ (sh : Sh) (k i : Nat) (e : Se), sh[i]? = some e → (wlf g cA u k sh)[i]? = some (g (k + i), cel g (cA (k + i)) (u (k + i)) e)
  | [], k, i, e, h => by simp at h
  | e0 :: sh, k, 0, e, h => by
    simp only [List.getElem?_cons_zero, Option.some.injEq] at h
    subst h
    rfl
  | e0 :: sh, k, i + 1, e, h => by
    have h1 : sh[i]? = some e := by simpa using h
    have h2 := wlf_get g cA u sh (k + 1) i e h1
    have e1 : k + 1 + i = k + (i + 1) := by omega
    rw [e1] at h2
    simpa [wlf] using h2
theorem wlf_len (g : Nat → Nat) (cA : Nat → ClassId) (u : St) : ∀ (sh : Sh) (k : Nat), (wlf g cA u k sh).length = sh.length
  | [], k => rfl
  | e0 :: sh, k => by simp [wlf, wlf_len g cA u sh (k + 1)]
theorem wlf_set (g : Nat → Nat) (cA : Nat → ClassId) {u u' : St} : ∀ (sh : Sh) (k i : Nat) (e : Se), sh[i]? = some e → (∀ j, j ≠ k + i → u' j = u j) → (wlf g cA u k sh).set i (g (k + i), cel g (cA (k + i)) (u' (k + i)) e) = wlf g cA u' k sh
  | [], k, i, e, h, _ => by simp at h
  | e0 :: sh, k, 0, e, h, hu => by
    simp only [List.getElem?_cons_zero, Option.some.injEq] at h
    subst h
    have tl : ∀ (sh : Sh) (q : Nat), k < q → wlf g cA u q sh = wlf g cA u' q sh := by
      intro sh
      induction sh with
      | nil => intro q _; rfl
      | cons a sh ih => intro q hq; simp only [wlf]; rw [ih (q + 1) (by omega), hu q (by omega)]
    simp only [wlf, List.set_cons_zero, Nat.add_zero]
    rw [tl sh (k + 1) (by omega)]
  | e0 :: sh, k, i + 1, e, h, hu => by
    have h1 : sh[i]? = some e := by simpa using h
    have e1 : k + 1 + i = k + (i + 1) := by omega
    have h2 := wlf_set g cA sh (k + 1) i e h1 (u := u) (u' := u') (fun j hj => hu j (by omega))
    rw [e1] at h2
    simp only [wlf, List.set_cons_succ]
    rw [h2, hu k (by omega)]
theorem fldv_get (g : Nat → Nat) (f : Nat → Int32) : ∀ (fl : List (Option Nat)) (j i : Nat) (x : Option Nat), fl[i]? = some x → (fldv g f j fl)[i]? = some (match x with | some c => .ref (g c) | none => .int (f (j + i)))
  | [], j, i, x, h => by simp at h
  | x0 :: fl, j, 0, x, h => by
    simp only [List.getElem?_cons_zero, Option.some.injEq] at h
    subst h
    cases x0 <;> rfl
  | x0 :: fl, j, i + 1, x, h => by
    have h1 : fl[i]? = some x := by simpa using h
    have h2 := fldv_get g f fl (j + 1) i x h1
    have e1 : j + 1 + i = j + (i + 1) := by omega
    rw [e1] at h2
    cases x0 <;> simpa [fldv] using h2
theorem fldv_len (g : Nat → Nat) (f : Nat → Int32) : ∀ (fl : List (Option Nat)) (j : Nat), (fldv g f j fl).length = fl.length
  | [], j => rfl
  | x0 :: fl, j => by cases x0 <;> simp [fldv, fldv_len g f fl (j + 1)]
theorem fldv_set (g : Nat → Nat) (f : Nat → Int32) (x : Int32) : ∀ (fl : List (Option Nat)) (j i : Nat), fl[i]? = some none → (fldv g f j fl).set i (.int x) = fldv g (upd f (j + i) x) j fl
  | [], j, i, h => by simp at h
  | x0 :: fl, j, 0, h => by
    simp only [List.getElem?_cons_zero, Option.some.injEq] at h
    subst h
    have tl : ∀ (fl : List (Option Nat)) (q : Nat), j < q → fldv g f q fl = fldv g (upd f j x) q fl := by
      intro fl
      induction fl with
      | nil => intro q _; rfl
      | cons a fl ih =>
        intro q hq
        have e1 : upd f j x q = f q := by simp [upd]; omega
        cases a <;> simp only [fldv] <;> rw [ih (q + 1) (by omega)]
        rw [e1]
    simp only [fldv, List.set_cons_zero, Nat.add_zero]
    rw [tl fl (j + 1) (by omega)]
    simp [upd]
  | x0 :: fl, j, i + 1, h => by
    have h1 : fl[i]? = some none := by simpa using h
    have h2 := fldv_set g f x fl (j + 1) i h1
    have e1 : j + 1 + i = j + (i + 1) := by omega
    rw [e1] at h2
    have e2 : upd f (j + (i + 1)) x j = f j := by simp [upd]
    cases x0 <;> simp only [fldv, List.set_cons_succ] <;> rw [h2]
    rw [e2]
theorem tyf_get (cA : Nat → ClassId) : ∀ (sh : Sh) (k i n : Nat) (z : Bool), sh[i]? = some (.inr (n, z)) → ∃ t0 : Nat, (tyf cA k sh)[t0]? = some (cA (k + i), if z then .boolean else .int)
  | [], k, i, n, z, h => by simp at h
  | e0 :: sh, k, 0, n, z, h => by
    simp only [List.getElem?_cons_zero, Option.some.injEq] at h
    subst h
    exact ⟨0, rfl⟩
  | e0 :: sh, k, i + 1, n, z, h => by
    have h1 : sh[i]? = some (.inr (n, z)) := by simpa using h
    obtain ⟨t0, h2⟩ := tyf_get cA sh (k + 1) i n z h1
    have e1 : k + 1 + i = k + (i + 1) := by omega
    rw [e1] at h2
    match e0 with
    | .inl a => exact ⟨t0, h2⟩
    | .inr (a, b) => exact ⟨t0 + 1, by simpa [tyf] using h2⟩
theorem wld_get {sh : Sh} {g : Nat → Nat} {cA : Nat → ClassId} {u : St} {k : Nat} {e : Se} (h : sh[k]? = some e) : (wld sh g cA u)[k]? = some (g k, cel g (cA k) (u k) e) := by
  have := wlf_get g cA u sh 0 k e h
  simpa [wld] using this
theorem wld_seta {sh : Sh} {g : Nat → Nat} {cA : Nat → ClassId} {u : St} {k n : Nat} {z : Bool} {j : Nat} {x : Int32} (h : sh[k]? = some (.inr (n, z))) : (wld sh g cA u).set k (g k, .inl (cA k, n, .inl (upd (u k) j x))) = wld sh g cA (up2 u k j x) := by
  have := wlf_set g cA (u := u) (u' := up2 u k j x) sh 0 k _ h (fun j hj => up2_n u _ _ (by omega))
  simp only [Nat.zero_add, up2_s, cel] at this
  exact this
theorem wld_setf {sh : Sh} {g : Nat → Nat} {cA : Nat → ClassId} {u : St} {k ci : Nat} {fl : List (Option Nat)} {j : Nat} {x : Int32} (h : sh[k]? = some (.inl (ci, fl))) (hf : fl[j]? = some none) : (wld sh g cA u).set k (g k, .inr (ci, (fldv g (u k) 0 fl).set j (.int x))) = wld sh g cA (up2 u k j x) := by
  have := wlf_set g cA (u := u) (u' := up2 u k j x) sh 0 k _ h (fun j hj => up2_n u _ _ (by omega))
  simp only [Nat.zero_add, up2_s, cel] at this
  rw [fldv_set g (u k) x fl 0 j hf, Nat.zero_add]
  exact this
theorem wld_addr {sh : Sh} {g : Nat → Nat} {cA : Nat → ClassId} {u u' : St} {k : Nat} {q : Nat × va_E} (h : (wld sh g cA u)[k]? = some q) : ∃ e, (wld sh g cA u')[k]? = some (q.1, e) ∧ k < sh.length := by
  have hk : k < sh.length := by
    have := (List.getElem?_eq_some_iff.mp h).1
    simpa [wld, wlf_len] using this
  have h0 : sh[k]? = some sh[k] := List.getElem?_eq_getElem hk
  have h1 := wld_get (g := g) (cA := cA) (u := u) h0
  have h2 := wld_get (g := g) (cA := cA) (u := u') h0
  rw [h1] at h
  cases h
  exact ⟨_, h2, hk⟩
theorem wld_D {sh : Sh} {g : Nat → Nat} {cA : Nat → ClassId} {u u' : St} {A : Nat → Prop} (h : va_D A (wld sh g cA u)) : va_D A (wld sh g cA u') := by
  refine ⟨fun i j p q hp hq he => ?_, fun k q hq => ?_⟩
  · obtain ⟨e1, h1, -⟩ := wld_addr (u' := u) hp
    obtain ⟨e2, h2, -⟩ := wld_addr (u' := u) hq
    exact h.1 i j _ _ h1 h2 he
  · obtain ⟨e1, h1, -⟩ := wld_addr (u' := u) hq
    exact h.2 k (q.1, e1) h1
theorem wld_A {sh : Sh} {g : Nat → Nat} {cA : Nat → ClassId} (u u' : St) {sz q : Nat} (h : va_A (wld sh g cA u) sz q) : va_A (wld sh g cA u') sz q := by
  rcases h with ⟨k, e, h⟩ | h
  · obtain ⟨e1, h1, -⟩ := wld_addr (u' := u') h
    exact Or.inl ⟨k, e1, h1⟩
  · exact Or.inr h
/-! ===== locals by their places ===== -/
def lvH (g : Nat → Nat) (ls : Array Slot) (nL : Nat) (L : List (Option Vl)) : Prop := ls.size = nL ∧ lv_wf ls ∧ ∀ (i : Nat) (v : Vl), L[i]? = some (some v) → ls[i]? = some (.val (tv g v))
def lvl (g : Nat → Nat) (L : List (Option Vl)) : List (Nat × Value) := (List.range L.length).filterMap fun i => match L[i]? with
  | some (some v) => some (i, tv g v)
  | _ => none
theorem lvl_in {g : Nat → Nat} {L : List (Option Vl)} {q : Nat × Value} : q ∈ lvl g L ↔ ∃ v, L[q.1]? = some (some v) ∧ q.2 = tv g v := by
  unfold lvl
  rw [List.mem_filterMap]
  constructor
  · rintro ⟨i, -, h⟩
    split at h
    next v hv => cases h; exact ⟨v, hv, rfl⟩
    next => cases h
  · rintro ⟨v, h1, h2⟩
    refine ⟨q.1, List.mem_range.mpr ((List.getElem?_eq_some_iff.mp h1).1), ?_⟩
    rw [h1]
    obtain ⟨a, b⟩ := q
    simp only at h2 ⊢
    rw [h2]
theorem lvH.has {g : Nat → Nat} {ls : Array Slot} {nL : Nat} {L : List (Option Vl)} (h : lvH g ls nL L) : lv_has ls nL (lvl g L) := ⟨h.1, h.2.1, fun q hq => by
  obtain ⟨v, h1, h2⟩ := lvl_in.mp hq
  rw [h2]
  exact h.2.2 q.1 v h1⟩
theorem lvH.set {g : Nat → Nat} {ls' : Array Slot} {nL : Nat} {L : List (Option Vl)} {i : Nat} {v : Vl} (h : lv_has ls' nL ((i, tv g v) :: (lvl g L).filter (fun q => !(q.1 == i) && !(q.1 + 1 == i && q.2.category == 2)))) : lvH g ls' nL (L.set i (some v)) := by
  refine ⟨h.1, h.2.1, fun j w hj => ?_⟩
  by_cases e : i = j
  · subst e
    rw [List.getElem?_set_self'] at hj
    have : w = v := by
      cases hL : L[i]? with
      | none => rw [hL] at hj; simp at hj
      | some x => rw [hL] at hj; simp at hj; exact hj.symm
    subst this
    exact h.2.2 (i, tv g w) List.mem_cons_self
  · rw [List.getElem?_set_ne e] at hj
    refine h.2.2 (j, tv g w) (List.mem_cons_of_mem _ (List.mem_filter.mpr ⟨lvl_in.mpr ⟨w, hj, rfl⟩, ?_⟩))
    have : ¬ j = i := fun h => e h.symm
    simp [this, tv_cat]
def leL : List (Option Vl) → List (Option Vl) → Prop
  | _, [] => True
  | _ :: as, none :: bs => leL as bs
  | a :: as, some b :: bs => a = some b ∧ leL as bs
  | [], _ :: _ => False
theorem leL_get : ∀ (L L' : List (Option Vl)), leL L L' → ∀ (i : Nat) (v : Vl), L'[i]? = some (some v) → L[i]? = some (some v)
  | _, [], _, i, v, h => by simp at h
  | [], none :: bs, h, _, _, _ => absurd h id
  | [], some b :: bs, h, _, _, _ => absurd h id
  | a :: as, none :: bs, h, 0, v, hv => by simp at hv
  | a :: as, some b :: bs, h, 0, v, hv => by simp at hv; simp [h.1, hv]
  | a :: as, none :: bs, h, i + 1, v, hv => by
    have := leL_get as bs h i v (by simpa using hv)
    simpa using this
  | a :: as, some b :: bs, h, i + 1, v, hv => by
    have := leL_get as bs h.2 i v (by simpa using hv)
    simpa using this
theorem lvH.le {g : Nat → Nat} {ls : Array Slot} {nL : Nat} {L L' : List (Option Vl)} (h : lvH g ls nL L) (hl : leL L L') : lvH g ls nL L' := ⟨h.1, h.2.1, fun i v hv => h.2.2 i v (leL_get L L' hl i v hv)⟩
