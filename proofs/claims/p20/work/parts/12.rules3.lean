/-! ===== fields, arrays, calls, contracts ===== -/
def inb (i : Int32) (n : Nat) : Bool := !(decide (i < 0) || decide (n ≤ i.toNatClampNeg))
theorem inb_in {i : Int32} {n : Nat} (h : inb i n = true) : vp_in i n := by
  intro q
  simp only [inb, Bool.not_eq_true', Bool.or_eq_false_iff, decide_eq_false_iff_not] at h
  rcases q with q | q
  · exact h.1 q
  · exact h.2 q
section RL
variable {sh : Sh} {K : Kx} {E : Ex} {own : String} {cc : ByteArray} {nL pc : Nat} {rm : Room} {L : List (Option Vl)} {st : List Vl} {u : St}
theorem r_getI (h : Ok sh K E own cc nL rm) {idx ci k j : Nat} {q : vw_C} {fl : List (Option Nat)} {v : Int32} (hq : vwCl[ci]? = some q) (hs : sh[k]? = some (.inl (ci, fl))) (hf : fl[j]? = some none) (hj : j < q.2.2) (hl : Cond.fieldLink own idx (q.2.1 j).1 (q.2.1 j).2.1 (q.2.1 j).2.2.1 ∈ gtbl) (hv : u k j = v) (hd : decode cc pc = .ok (.getfield idx, 3)) (kk : Vd sh K E nL (pc + 3) L (.inl v :: st) u) : Vd sh K E nL pc L (.inr k :: st) u := by
  obtain ⟨p, l, e, R, s, m, args, below, meth, c, Q⟩ := K
  obtain ⟨g, dC, dI, cA, A⟩ := E
  intro H locs ls hP hD hS hls
  obtain ⟨hx, hb, hml, hown, hts, hn, hK, hA, hR⟩ := h
  have hg := fldv_get g (u k) fl 0 j none hf
  rw [Nat.zero_add, hv] at hg
  exact va_get (C := q.1) (T := q.2.1) (N := q.2.2) hx hb hts (okC ci q hq) hown hK hP k (wld_get hs) hq j hj (hts _ hl) (fun _ h9 => h9) hg hd (kk H locs ls hP hD hS hls)
theorem r_getR (h : Ok sh K E own cc nL rm) {idx ci k j k2 : Nat} {q : vw_C} {fl : List (Option Nat)} (hq : vwCl[ci]? = some q) (hs : sh[k]? = some (.inl (ci, fl))) (hf : fl[j]? = some (some k2)) (hj : j < q.2.2) (hl : Cond.fieldLink own idx (q.2.1 j).1 (q.2.1 j).2.1 (q.2.1 j).2.2.1 ∈ gtbl) (hd : decode cc pc = .ok (.getfield idx, 3)) (kk : Vd sh K E nL (pc + 3) L (.inr k2 :: st) u) : Vd sh K E nL pc L (.inr k :: st) u := by
  obtain ⟨p, l, e, R, s, m, args, below, meth, c, Q⟩ := K
  obtain ⟨g, dC, dI, cA, A⟩ := E
  intro H locs ls hP hD hS hls
  obtain ⟨hx, hb, hml, hown, hts, hn, hK, hA, hR⟩ := h
  exact va_get (C := q.1) (T := q.2.1) (N := q.2.2) hx hb hts (okC ci q hq) hown hK hP k (wld_get hs) hq j hj (hts _ hl) (fun _ h9 => h9) (fldv_get g (u k) fl 0 j (some k2) hf) hd (kk H locs ls hP hD hS hls)
theorem r_getN (h : Ok sh K E own cc nL rm) {idx ci k j : Nat} {host : String} {q : vw_C} {fl : List (Option Nat)} {v : Int32} (hq : vwCl[ci]? = some q) (hs : sh[k]? = some (.inl (ci, fl))) (hf : fl[j]? = some none) (hj : j < q.2.2) (hl : Cond.fieldLinkNest own idx (q.2.1 j).1 (q.2.1 j).2.1 (q.2.1 j).2.2.1 host ∈ nst) (hv : u k j = v) (hd : decode cc pc = .ok (.getfield idx, 3)) (kk : Vd sh K E nL (pc + 3) L (.inl v :: st) u) : Vd sh K E nL pc L (.inr k :: st) u := by
  obtain ⟨p, l, e, R, s, m, args, below, meth, c, Q⟩ := K
  obtain ⟨g, dC, dI, cA, A⟩ := E
  intro H locs ls hP hD hS hls
  obtain ⟨hx, hb, hml, hown, hts, hn, hK, hA, hR⟩ := h
  have hg := fldv_get g (u k) fl 0 j none hf
  rw [Nat.zero_add, hv] at hg
  exact va_getN (C := q.1) (T := q.2.1) (N := q.2.2) hx hb hts (okC ci q hq) hown hK hP k (wld_get hs) hq j hj (va_Nw.use rfl (hn _ hl)) (fun _ h9 => h9) hg hd (kk H locs ls hP hD hS hls)
theorem r_putI (h : Ok sh K E own cc nL rm) {idx ci k j : Nat} {q : vw_C} {fl : List (Option Nat)} {v : Int32} (hq : vwCl[ci]? = some q) (hs : sh[k]? = some (.inl (ci, fl))) (hf : fl[j]? = some none) (hj : j < q.2.2) (hl : Cond.fieldLink own idx (q.2.1 j).1 (q.2.1 j).2.1 (q.2.1 j).2.2.1 ∈ gtbl) (hfin : (q.2.1 j).2.2.2 = false) (hty : parseFieldDescriptor (q.2.1 j).2.2.1 = some .int) (hd : decode cc pc = .ok (.putfield idx, 3)) (kk : Vd sh K E nL (pc + 3) L st (up2 u k j v)) : Vd sh K E nL pc L (.inl v :: .inr k :: st) u := by
  obtain ⟨p, l, e, R, s, m, args, below, meth, c, Q⟩ := K
  obtain ⟨g, dC, dI, cA, A⟩ := E
  intro H locs ls hP hD hS hls
  obtain ⟨hx, hb, hml, hown, hts, hn, hK, hA, hR⟩ := h
  obtain ⟨ty0, ht1, ht2⟩ := okT ci q hq
  refine va_put (C := q.1) (T := q.2.1) (N := q.2.2) (ty := .int) (v := .int v) hx hb hts (okC ci q hq) ty0 ht1 ht2 hown hK hP hD hS k (wld_get hs) hq j hj (hts _ hl) (fun _ h9 => h9) hfin hty rfl rfl (by rw [fldv_len]; exact (List.getElem?_eq_some_iff.mp hf).1) hd (fun H1 locs1 hP1 hD1 hS1 => ?_)
  rw [wld_setf hs hf] at hP1 hD1
  exact kk H1 locs1 ls hP1 hD1 hS1 hls
theorem r_iald (h : Ok sh K E own cc nL rm) {k n : Nat} {i v : Int32} (hs : sh[k]? = some (.inr (n, false))) (hi : inb i n = true) (hv : u k i.toNatClampNeg = v) (hd : decode cc pc = .ok (.iaload, 1)) (kk : Vd sh K E nL (pc + 1) L (.inl v :: st) u) : Vd sh K E nL pc L (.inl i :: .inr k :: st) u := by
  obtain ⟨p, l, e, R, s, m, args, below, meth, c, Q⟩ := K
  obtain ⟨g, dC, dI, cA, A⟩ := E
  intro H locs ls hP hD hS hls
  obtain ⟨hx, hb, hml, hown, hts, hn, hK, hA, hR⟩ := h
  obtain ⟨t0, ht⟩ := tyf_get cA sh 0 k n false hs
  rw [Nat.zero_add] at ht
  subst hv
  exact va_iald hx hb hK hP k t0 (wld_get hs) ht (inb_in hi) hd (kk H locs ls hP hD hS hls)
theorem r_zald (h : Ok sh K E own cc nL rm) {k n : Nat} {i v : Int32} (hs : sh[k]? = some (.inr (n, true))) (hi : inb i n = true) (hv : u k i.toNatClampNeg = v) (hd : decode cc pc = .ok (.baload, 1)) (kk : Vd sh K E nL (pc + 1) L (.inl v :: st) u) : Vd sh K E nL pc L (.inl i :: .inr k :: st) u := by
  obtain ⟨p, l, e, R, s, m, args, below, meth, c, Q⟩ := K
  obtain ⟨g, dC, dI, cA, A⟩ := E
  intro H locs ls hP hD hS hls
  obtain ⟨hx, hb, hml, hown, hts, hn, hK, hA, hR⟩ := h
  obtain ⟨t0, ht⟩ := tyf_get cA sh 0 k n true hs
  rw [Nat.zero_add] at ht
  subst hv
  exact va_zald hx hb hK hP k t0 (wld_get hs) ht (inb_in hi) hd (kk H locs ls hP hD hS hls)
theorem r_iast (h : Ok sh K E own cc nL rm) {k n : Nat} {i v : Int32} (hs : sh[k]? = some (.inr (n, false))) (hi : inb i n = true) (hd : decode cc pc = .ok (.iastore, 1)) (kk : Vd sh K E nL (pc + 1) L st (up2 u k i.toNatClampNeg v)) : Vd sh K E nL pc L (.inl v :: .inl i :: .inr k :: st) u := by
  obtain ⟨p, l, e, R, s, m, args, below, meth, c, Q⟩ := K
  obtain ⟨g, dC, dI, cA, A⟩ := E
  intro H locs ls hP hD hS hls
  obtain ⟨hx, hb, hml, hown, hts, hn, hK, hA, hR⟩ := h
  obtain ⟨t0, ht⟩ := tyf_get cA sh 0 k n false hs
  rw [Nat.zero_add] at ht
  refine va_iast hx hb hK hP hD hS k t0 (wld_get hs) ht (inb_in hi) hd (fun H1 locs1 hP1 hD1 hS1 => ?_)
  rw [wld_seta hs] at hP1 hD1
  exact kk H1 locs1 ls hP1 hD1 hS1 hls
theorem r_zast (h : Ok sh K E own cc nL rm) {k n : Nat} {i v : Int32} (hs : sh[k]? = some (.inr (n, true))) (hi : inb i n = true) (hz : vp_nar .boolean v = v) (hd : decode cc pc = .ok (.bastore, 1)) (kk : Vd sh K E nL (pc + 1) L st (up2 u k i.toNatClampNeg v)) : Vd sh K E nL pc L (.inl v :: .inl i :: .inr k :: st) u := by
  obtain ⟨p, l, e, R, s, m, args, below, meth, c, Q⟩ := K
  obtain ⟨g, dC, dI, cA, A⟩ := E
  intro H locs ls hP hD hS hls
  obtain ⟨hx, hb, hml, hown, hts, hn, hK, hA, hR⟩ := h
  obtain ⟨t0, ht⟩ := tyf_get cA sh 0 k n true hs
  rw [Nat.zero_add] at ht
  refine va_zast hx hb hK hP hD hS k t0 (wld_get hs) ht (inb_in hi) hd (fun H1 locs1 hP1 hD1 hS1 => ?_)
  rw [hz, wld_seta hs] at hP1 hD1
  exact kk H1 locs1 ls hP1 hD1 hS1 hls
theorem r_alen (h : Ok sh K E own cc nL rm) {k n : Nat} {z : Bool} {v : Int32} (hs : sh[k]? = some (.inr (n, z))) (hv : Int32.ofNat n = v) (hd : decode cc pc = .ok (.arraylength, 1)) (kk : Vd sh K E nL (pc + 1) L (.inl v :: st) u) : Vd sh K E nL pc L (.inr k :: st) u := by
  obtain ⟨p, l, e, R, s, m, args, below, meth, c, Q⟩ := K
  obtain ⟨g, dC, dI, cA, A⟩ := E
  intro H locs ls hP hD hS hls
  obtain ⟨hx, hb, hml, hown, hts, hn, hK, hA, hR⟩ := h
  obtain ⟨t0, ht⟩ := tyf_get cA sh 0 k n z hs
  rw [Nat.zero_add] at ht
  exact va_alen hx hb hK hP k t0 (wld_get hs) ht hv hd (kk H locs ls hP hD hS hls)
theorem r_tOut (h : Ok sh K E own cc nL rm) {dflt lo hi : Int} {offs : Array Int} {len : Nat} {x : Int32} {tgt : Nat} (hd : decode cc pc = .ok (.tableswitch dflt lo hi offs, len)) (ho : x.toInt < lo ∨ hi < x.toInt) (ht : (pc : Int) + dflt = (tgt : Int)) (kk : Vd sh K E nL tgt L st u) : Vd sh K E nL pc L (.inl x :: st) u := by
  obtain ⟨p, l, e, R, s, m, args, below, meth, c, Q⟩ := K
  obtain ⟨g, dC, dI, cA, A⟩ := E
  exact fun H locs ls hP hD hS hl => lv_tableOut h.1 h.2.1 hd ho ht (kk H locs ls hP hD hS hl)
theorem r_tIn (h : Ok sh K E own cc nL rm) {dflt lo hi : Int} {offs : Array Int} {len : Nat} {x : Int32} {off : Int} {tgt : Nat} (hd : decode cc pc = .ok (.tableswitch dflt lo hi offs, len)) (h1 : ¬ x.toInt < lo) (h2 : ¬ hi < x.toInt) (ho : offs[(x.toInt - lo).toNat]? = some off) (ht : (pc : Int) + off = (tgt : Int)) (kk : Vd sh K E nL tgt L st u) : Vd sh K E nL pc L (.inl x :: st) u := by
  obtain ⟨p, l, e, R, s, m, args, below, meth, c, Q⟩ := K
  obtain ⟨g, dC, dI, cA, A⟩ := E
  exact fun H locs ls hP hD hS hl => lv_tableIn h.1 h.2.1 hd h1 h2 ho ht (kk H locs ls hP hD hS hl)
end RL
def PcB (sh : Sh) (g : Nat → Nat) (dC : Nat → ClassId) (dI : Nat → Nat → Nat) (cA : Nat → ClassId) (u : St) (sz : Nat) : State → Prop := fun U => U.heap.size = sz ∧ va_P (dC, dI) vwCl (wld sh g cA u) U.heap ∧ va_K (dC, dI) vwCl (tys sh cA) U ∧ va_D (fun _ => True) (wld sh g cA u) ∧ ∀ w ∈ nst, va_Nw w U
def CtI (sh : Sh) (y : MethodName) (cc : ByteArray) (nL : Nat) (ret : Option FieldType) (rm : Room) (As : List Vl) (u : St) (r : Int32) (u' : St) : Prop := ∀ (l : Launch) (g : Nat → Nat) (dC : Nat → ClassId) (dI : Nat → Nat → Nat) (cA : Nat → ClassId) (sz : Nat), Met l y (Cond.code y cc nL ret :: gtbl) rm (va_Pc (As.map (tv g)) (PcB sh g dC dI cA u sz)) (va_Qi (fun (r' : Int32) (_ : Unit) => r' = r) (fun _ t => va_P (dC, dI) vwCl (wld sh g cA u') t.heap) (va_A (wld sh g cA u) sz)) 0 0 (va_A (wld sh g cA u) sz)
def CtV (sh : Sh) (y : MethodName) (cc : ByteArray) (nL : Nat) (ret : Option FieldType) (rm : Room) (As : List Vl) (u : St) (u' : St) : Prop := ∀ (l : Launch) (g : Nat → Nat) (dC : Nat → ClassId) (dI : Nat → Nat → Nat) (cA : Nat → ClassId) (sz : Nat), Met l y (Cond.code y cc nL ret :: gtbl) rm (va_Pc (As.map (tv g)) (PcB sh g dC dI cA u sz)) (va_Qv (fun (_ : Unit) => True) (fun _ t => va_P (dC, dI) vwCl (wld sh g cA u') t.heap) (va_A (wld sh g cA u) sz)) 0 0 (va_A (wld sh g cA u) sz)
def RetI (sh : Sh) (K : Kx) (E : Ex) (cc : ByteArray) (nL : Nat) (r : Int32) (u' : St) : Prop := ∀ (pc : Nat) (L : List (Option Vl)), decode cc pc = .ok (.ireturn, 1) → Vd sh K E nL pc L [.inl r] u'
def RetZ (sh : Sh) (K : Kx) (E : Ex) (cc : ByteArray) (nL : Nat) (r : Int32) (u' : St) : Prop := ∀ (pc : Nat) (L : List (Option Vl)), decode cc pc = .ok (.ireturn, 1) → narrow .boolean (.int r) = .int r → Vd sh K E nL pc L [.inl r] u'
def RetV (sh : Sh) (K : Kx) (E : Ex) (cc : ByteArray) (nL : Nat) (u' : St) : Prop := ∀ (pc : Nat) (L : List (Option Vl)), decode cc pc = .ok (.return_, 1) → Vd sh K E nL pc L [] u'
theorem z01 {r : Int32} (h : r = 0 ∨ r = 1) : narrow .boolean (.int r) = .int r := by
  rcases h with h | h <;> subst h <;> rfl
theorem ar_in (g : Nat → Nat) : ∀ (As : List Vl) (k i : Nat) (v : Vl), As[i]? = some v → (k + i, tv g v) ∈ lv_args k (As.map (tv g))
  | [], k, i, v, h => by simp at h
  | a :: As, k, 0, v, h => by
    simp only [List.getElem?_cons_zero, Option.some.injEq] at h
    subst h
    simp [lv_args]
  | a :: As, k, i + 1, v, h => by
    have h1 := ar_in g As (k + 1) i v (by simpa using h)
    have e : k + 1 + i = k + (i + 1) := by omega
    rw [e] at h1
    simp only [List.map_cons, lv_args, tv_cat]
    exact List.mem_cons_of_mem _ (by simpa using h1)
theorem sl_len (g : Nat → Nat) : ∀ (As : List Vl), (lg_sl (As.map (tv g))).length = As.length
  | [] => rfl
  | a :: As => by
    have := sl_len g As
    simp only [lg_sl, List.map_cons, List.flatMap_cons, tv_cat] at this ⊢
    simp only [List.length_append, List.length_cons]
    rw [this]
    simp; omega
theorem en_lv (g : Nat → Nat) (As : List Vl) {nL : Nat} (h : As.length ≤ nL) : lvH g ((lg_sl (As.map (tv g)) ++ List.replicate (nL - (lg_sl (As.map (tv g))).length) Slot.unset).toArray) nL (As.map some ++ List.replicate (nL - As.length) none) := by
  have hl := lv_entry (As.map (tv g)) (n := nL) (by rw [sl_len]; exact h)
  refine ⟨hl.1, hl.2.1, fun i v hv => ?_⟩
  have hi : As[i]? = some v := by
    by_cases q : i < As.length
    · rw [List.getElem?_append_left (by simpa using q)] at hv
      simpa using hv
    · rw [List.getElem?_append_right (by simpa using q)] at hv
      have := List.mem_of_getElem? hv
      have := List.eq_of_mem_replicate this
      cases this
  have := ar_in g As 0 i v hi
  rw [Nat.zero_add] at this
  exact hl.2.2 _ this
theorem ct_I {sh : Sh} {y : MethodName} {cc : ByteArray} {nL : Nat} {rm : Room} {As : List Vl} {u : St} {r : Int32} {u' : St} (hpl : plainName y.cls = true) (hlen : As.length ≤ nL) (hw : ∀ (K : Kx) (E : Ex), Ok sh K E y.cls cc nL rm → RetI sh K E cc nL r u' → Vd sh K E nL 0 (As.map some ++ List.replicate (nL - As.length) none) [] u) : CtI sh y cc nL (some .int) rm As u r u' := by
  intro l g dC dI cA sz
  refine Met.ofW (cc := cc) (maxL := nL) (ret := some .int) hpl rfl ?_
  intro p e s m args below meth c s₁ B hml hv
  obtain ⟨rfl, hsz, hP, hK, hD0, hn⟩ := hv
  have hts := atoms_spec (ws := Cond.code y cc nL (some .int) :: gtbl) B.pre
  have hown : s.vm.findClass y.cls = some m.cls := findClass_of_methodNamed B.named
  subst hsz
  have hD := hD0.self (sz := s.heap.size)
  have hA : ∀ q : Nat, s.heap.size ≤ q → va_A (wld sh g cA u) s.heap.size q := fun q h => Or.inr h
  rw [lg_entry_eq]
  refine hw (p, l, e, _, s, m, _, below, meth, c, _) (g, dC, dI, cA, va_A (wld sh g cA u) s.heap.size) ⟨B.exec, B.bytes, hml, hown, fun w h => hts w (List.mem_cons_of_mem _ h), hn, hK, hA, rfl⟩ ?_ s.heap [] _ hP hD va_S.rf (en_lv g As hlen)
  intro pc L hd H locs ls hP hD hS hl
  exact W.iret (v := r) B.exec B.bytes B.returns (fun t ht hW => ⟨⟨r, (), rfl, rfl, by show va_P _ _ _ t.heap; rw [ht]; exact hP⟩, hS.F ht⟩) hS.2.2 hd
theorem ct_Z {sh : Sh} {y : MethodName} {cc : ByteArray} {nL : Nat} {rm : Room} {As : List Vl} {u : St} {r : Int32} {u' : St} (hpl : plainName y.cls = true) (hlen : As.length ≤ nL) (hw : ∀ (K : Kx) (E : Ex), Ok sh K E y.cls cc nL rm → RetZ sh K E cc nL r u' → Vd sh K E nL 0 (As.map some ++ List.replicate (nL - As.length) none) [] u) : CtI sh y cc nL (some .boolean) rm As u r u' := by
  intro l g dC dI cA sz
  refine Met.ofW (cc := cc) (maxL := nL) (ret := some .boolean) hpl rfl ?_
  intro p e s m args below meth c s₁ B hml hv
  obtain ⟨rfl, hsz, hP, hK, hD0, hn⟩ := hv
  have hts := atoms_spec (ws := Cond.code y cc nL (some .boolean) :: gtbl) B.pre
  have hown : s.vm.findClass y.cls = some m.cls := findClass_of_methodNamed B.named
  subst hsz
  have hD := hD0.self (sz := s.heap.size)
  have hA : ∀ q : Nat, s.heap.size ≤ q → va_A (wld sh g cA u) s.heap.size q := fun q h => Or.inr h
  rw [lg_entry_eq]
  refine hw (p, l, e, _, s, m, _, below, meth, c, _) (g, dC, dI, cA, va_A (wld sh g cA u) s.heap.size) ⟨B.exec, B.bytes, hml, hown, fun w h => hts w (List.mem_cons_of_mem _ h), hn, hK, hA, rfl⟩ ?_ s.heap [] _ hP hD va_S.rf (en_lv g As hlen)
  intro pc L hd hz H locs ls hP hD hS hl
  exact W.zret (v := r) (ty := .boolean) B.exec B.bytes B.returns hz (fun t ht hW => ⟨⟨r, (), rfl, rfl, by show va_P _ _ _ t.heap; rw [ht]; exact hP⟩, hS.F ht⟩) hS.2.2 hd
theorem ct_V {sh : Sh} {y : MethodName} {cc : ByteArray} {nL : Nat} {rm : Room} {As : List Vl} {u : St} {u' : St} (hpl : plainName y.cls = true) (hlen : As.length ≤ nL) (hw : ∀ (K : Kx) (E : Ex), Ok sh K E y.cls cc nL rm → RetV sh K E cc nL u' → Vd sh K E nL 0 (As.map some ++ List.replicate (nL - As.length) none) [] u) : CtV sh y cc nL none rm As u u' := by
  intro l g dC dI cA sz
  refine Met.ofW (cc := cc) (maxL := nL) (ret := none) hpl rfl ?_
  intro p e s m args below meth c s₁ B hml hv
  obtain ⟨rfl, hsz, hP, hK, hD0, hn⟩ := hv
  have hts := atoms_spec (ws := Cond.code y cc nL none :: gtbl) B.pre
  have hown : s.vm.findClass y.cls = some m.cls := findClass_of_methodNamed B.named
  subst hsz
  have hD := hD0.self (sz := s.heap.size)
  have hA : ∀ q : Nat, s.heap.size ≤ q → va_A (wld sh g cA u) s.heap.size q := fun q h => Or.inr h
  rw [lg_entry_eq]
  refine hw (p, l, e, _, s, m, _, below, meth, c, _) (g, dC, dI, cA, va_A (wld sh g cA u) s.heap.size) ⟨B.exec, B.bytes, hml, hown, fun w h => hts w (List.mem_cons_of_mem _ h), hn, hK, hA, rfl⟩ ?_ s.heap [] _ hP hD va_S.rf (en_lv g As hlen)
  intro pc L hd H locs ls hP hD hS hl
  exact W.vret B.exec B.bytes B.returns (fun t ht hW => ⟨⟨(), rfl, trivial, by show va_P _ _ _ t.heap; rw [ht]; exact hP⟩, hS.F ht⟩) hS.2.2 hd
theorem good_in {ws : List Cond} (h : ∀ w ∈ ws, w ∈ gtbl) : GoodIn gtbl ws := fun w hw => ⟨h w hw, good_of_word (List.mem_filter.mp (h w hw)).2⟩
theorem st_sum (g : Nat → Nat) : ∀ st : List Vl, ((st.map (tv g)).map fun v => v.category).sum = st.length
  | [] => rfl
  | a :: st => by simp only [List.map_cons, List.sum_cons, tv_cat, List.length_cons, st_sum g st]; omega
theorem pc_blind (sh : Sh) (g : Nat → Nat) (dC : Nat → ClassId) (dI : Nat → Nat → Nat) (cA : Nat → ClassId) (u : St) (sz : Nat) (av : List Value) : FrameBlind (va_Pc av (PcB sh g dC dI cA u sz)) := by
  intro a U gf mk q
  obtain ⟨q0, q1, q2, q3, q4, q5⟩ := q
  exact ⟨q0, q1, q2, va_K.moved (u := U) (U := U.calling gf mk a) (Vm.Alike.refl U.vm) q3, q4, nst_same (s := U) (U := U.calling gf mk a) rfl q5⟩
theorem pc_at {sh : Sh} {g : Nat → Nat} {dC : Nat → ClassId} {dI : Nat → Nat → Nat} {cA : Nat → ClassId} {u : St} {A : Nat → Prop} {s : State} {H : Heap} (hP : va_P (dC, dI) vwCl (wld sh g cA u) H) (hK : va_K (dC, dI) vwCl (tys sh cA) s) (hD : va_D A (wld sh g cA u)) (hn : ∀ w ∈ nst, va_Nw w s) (U : State) (hU : U.heap = H) (hW : s.WarmedH U.vm) : PcB sh g dC dI cA u H.size U := ⟨by rw [hU], by rw [hU]; exact hP, va_K.moved hW.alike hK, hD.weaken (fun _ _ _ _ => trivial), nst_moves hW hn⟩
theorem va_ok {sh : Sh} {g : Nat → Nat} {cA : Nat → ClassId} {u : St} {A : Nat → Prop} {H0 H : Heap} {locs : List Loc} (hD : va_D A (wld sh g cA u)) (hS : va_S A H0 H locs) (hA : ∀ q, H0.size ≤ q → A q) (q : Nat) (h : va_A (wld sh g cA u) H.size q) : A q := by
  rcases h with ⟨k, e, h⟩ | h
  · exact hD.2 k _ h
  · exact hA q (Nat.le_trans hS.1 h)
section RC
variable {sh : Sh} {K : Kx} {E : Ex} {own : String} {cc : ByteArray} {nL pc : Nat} {rm : Room} {L : List (Option Vl)} {st : List Vl} {u : St}
variable {y : MethodName} {bytes : ByteArray} {maxL : Nat} {ret : Option FieldType} {rm2 : Room} {idx : Nat} {r : Int32} {u' : St}
theorem r_cVi (h : Ok sh K E own cc nL rm) {k ci : Nat} {fl : List (Option Nat)} {q : vw_C} (As : List Vl) (hc : CalV y bytes maxL ret As.length) (hl : Cond.methodLink own idx y ∈ gtbl) (hM : CtI sh y bytes maxL ret rm2 (.inr k :: As) u r u') (hR : rm2.cells = 0 ∧ rm2.slots = 0 ∧ rm2.frames + 1 ≤ rm.frames ∧ 8 + (maxL + 11) + rm2.locals ≤ rm.locals) (hs : sh[k]? = some (.inl (ci, fl))) (hq : vwCl[ci]? = some q) (hqc : q.1 = y.cls) (hst : st.length ≤ 8) (hd : decode cc pc = .ok (.invokevirtual idx, 3)) (kk : Vd sh K E nL (pc + 3) L (.inl r :: st) u') : Vd sh K E nL pc L (As.reverse ++ .inr k :: st) u := by
  obtain ⟨p, l, e, R, s, m, args, below, meth, c, Q⟩ := K
  obtain ⟨g, dC, dI, cA, A⟩ := E
  intro H locs ls hP hD hS hls
  obtain ⟨hx, hb, hml, hown, hts, hn, hK, hA, hRm⟩ := h
  obtain ⟨c1, c2, c3, c4, c5⟩ := hc
  obtain ⟨f1, f2, f3, f4⟩ := hR
  subst hRm
  have hG : GoodIn gtbl (wsV own idx y.cls y (Cond.code y bytes maxL ret :: gtbl)) := good_in (fun w hw => by
    simp only [wsV, List.cons_append, List.nil_append, List.mem_cons] at hw
    rcases hw with rfl | rfl | rfl | rfl | rfl | hw
    · exact hl
    · exact c2
    · exact c3
    · exact c4
    · exact c1
    · exact hw)
  have hrv := va_recv hK hP hq (wld_get hs)
  rw [hqc] at hrv
  refine va_calli (va_runV (C := y.cls) (b := g k) (As := As.map (tv g)) (rest := st.map (tv g)) ⟨hx, hb, hml, hown, hts⟩ (hM l g dC dI cA H.size) (cwV As.length hts hG rfl f1 f2 ⟨rfl, c5⟩ ⟨f3, f4⟩) ⟨pc_blind sh g dC dI cA u H.size _, hrv, fun U hU hW => ⟨rfl, pc_at hP hK hD hn U hU hW⟩⟩ rfl (by simp) hls.1 (by simp [F0, List.map_append, List.map_reverse, tv]) (lv_room (by rw [st_sum]; exact hst)) hd ⟨Nat.zero_le _, Nat.zero_le _⟩) hS (fun q _ h => va_ok hD hS hA q h) (fun q h => va_ok hD hS hA q h) (fun r' _ t H1 locs1 ht hvm hw hB hz1 hk1 hS1 => ?_)
  subst hw
  subst ht
  exact kk _ locs1 ls hB (wld_D hD) hS1 hls
theorem r_cVv (h : Ok sh K E own cc nL rm) {k ci : Nat} {fl : List (Option Nat)} {q : vw_C} (As : List Vl) (hc : CalV y bytes maxL ret As.length) (hl : Cond.methodLink own idx y ∈ gtbl) (hM : CtV sh y bytes maxL ret rm2 (.inr k :: As) u u') (hR : rm2.cells = 0 ∧ rm2.slots = 0 ∧ rm2.frames + 1 ≤ rm.frames ∧ 8 + (maxL + 11) + rm2.locals ≤ rm.locals) (hs : sh[k]? = some (.inl (ci, fl))) (hq : vwCl[ci]? = some q) (hqc : q.1 = y.cls) (hst : st.length ≤ 8) (hd : decode cc pc = .ok (.invokevirtual idx, 3)) (kk : Vd sh K E nL (pc + 3) L st u') : Vd sh K E nL pc L (As.reverse ++ .inr k :: st) u := by
  obtain ⟨p, l, e, R, s, m, args, below, meth, c, Q⟩ := K
  obtain ⟨g, dC, dI, cA, A⟩ := E
  intro H locs ls hP hD hS hls
  obtain ⟨hx, hb, hml, hown, hts, hn, hK, hA, hRm⟩ := h
  obtain ⟨c1, c2, c3, c4, c5⟩ := hc
  obtain ⟨f1, f2, f3, f4⟩ := hR
  subst hRm
  have hG : GoodIn gtbl (wsV own idx y.cls y (Cond.code y bytes maxL ret :: gtbl)) := good_in (fun w hw => by
    simp only [wsV, List.cons_append, List.nil_append, List.mem_cons] at hw
    rcases hw with rfl | rfl | rfl | rfl | rfl | hw
    · exact hl
    · exact c2
    · exact c3
    · exact c4
    · exact c1
    · exact hw)
  have hrv := va_recv hK hP hq (wld_get hs)
  rw [hqc] at hrv
  refine va_callv (va_runV (C := y.cls) (b := g k) (As := As.map (tv g)) (rest := st.map (tv g)) ⟨hx, hb, hml, hown, hts⟩ (hM l g dC dI cA H.size) (cwV As.length hts hG rfl f1 f2 ⟨rfl, c5⟩ ⟨f3, f4⟩) ⟨pc_blind sh g dC dI cA u H.size _, hrv, fun U hU hW => ⟨rfl, pc_at hP hK hD hn U hU hW⟩⟩ rfl (by simp) hls.1 (by simp [F0, List.map_append, List.map_reverse, tv]) (lv_room (by rw [st_sum]; exact hst)) hd ⟨Nat.zero_le _, Nat.zero_le _⟩) hS (fun q _ h => va_ok hD hS hA q h) (fun q h => va_ok hD hS hA q h) (fun _ t H1 locs1 ht hvm hw hB hz1 hk1 hS1 => ?_)
  subst ht
  exact kk _ locs1 ls hB (wld_D hD) hS1 hls
theorem r_cSi (h : Ok sh K E own cc nL rm) (As : List Vl) (hc : CalS y bytes maxL ret As.length) (hl : Cond.methodLink own idx y ∈ gtbl) (hM : CtI sh y bytes maxL ret rm2 As u r u') (hR : rm2.cells = 0 ∧ rm2.slots = 0 ∧ rm2.frames + 1 ≤ rm.frames ∧ 8 + (maxL + 11) + rm2.locals ≤ rm.locals) (hst : st.length ≤ 8) (hd : decode cc pc = .ok (.invokestatic idx, 3)) (kk : Vd sh K E nL (pc + 3) L (.inl r :: st) u') : Vd sh K E nL pc L (As.reverse ++ st) u := by
  obtain ⟨p, l, e, R, s, m, args, below, meth, c, Q⟩ := K
  obtain ⟨g, dC, dI, cA, A⟩ := E
  intro H locs ls hP hD hS hls
  obtain ⟨hx, hb, hml, hown, hts, hn, hK, hA, hRm⟩ := h
  obtain ⟨c1, c2, c3, c4⟩ := hc
  obtain ⟨f1, f2, f3, f4⟩ := hR
  subst hRm
  have hG : GoodIn gtbl (va_wsS own idx y (Cond.code y bytes maxL ret :: gtbl)) := good_in (fun w hw => by
    simp only [va_wsS, List.cons_append, List.nil_append, List.mem_cons] at hw
    rcases hw with rfl | rfl | rfl | rfl | hw
    · exact hl
    · exact c2
    · exact c3
    · exact c1
    · exact hw)
  refine va_calli (va_runS (As := As.map (tv g)) (rest := st.map (tv g)) ⟨hx, hb, hml, hown, hts⟩ (hM l g dC dI cA H.size) (va_cwS As.length hts hG rfl f1 f2 c4 ⟨f3, f4⟩) ⟨pc_blind sh g dC dI cA u H.size _, fun U hU hW => ⟨rfl, pc_at hP hK hD hn U hU hW⟩⟩ rfl (by simp) hls.1 (by simp [F0, List.map_append, List.map_reverse, tv]) (lv_room (by rw [st_sum]; exact hst)) hd ⟨Nat.zero_le _, Nat.zero_le _⟩) hS (fun q _ h => va_ok hD hS hA q h) (fun q h => va_ok hD hS hA q h) (fun r' _ t H1 locs1 ht hvm hw hB hz1 hk1 hS1 => ?_)
  subst hw
  subst ht
  exact kk _ locs1 ls hB (wld_D hD) hS1 hls
theorem r_cSv (h : Ok sh K E own cc nL rm) (As : List Vl) (hc : CalS y bytes maxL ret As.length) (hl : Cond.methodLink own idx y ∈ gtbl) (hM : CtV sh y bytes maxL ret rm2 As u u') (hR : rm2.cells = 0 ∧ rm2.slots = 0 ∧ rm2.frames + 1 ≤ rm.frames ∧ 8 + (maxL + 11) + rm2.locals ≤ rm.locals) (hst : st.length ≤ 8) (hd : decode cc pc = .ok (.invokestatic idx, 3)) (kk : Vd sh K E nL (pc + 3) L st u') : Vd sh K E nL pc L (As.reverse ++ st) u := by
  obtain ⟨p, l, e, R, s, m, args, below, meth, c, Q⟩ := K
  obtain ⟨g, dC, dI, cA, A⟩ := E
  intro H locs ls hP hD hS hls
  obtain ⟨hx, hb, hml, hown, hts, hn, hK, hA, hRm⟩ := h
  obtain ⟨c1, c2, c3, c4⟩ := hc
  obtain ⟨f1, f2, f3, f4⟩ := hR
  subst hRm
  have hG : GoodIn gtbl (va_wsS own idx y (Cond.code y bytes maxL ret :: gtbl)) := good_in (fun w hw => by
    simp only [va_wsS, List.cons_append, List.nil_append, List.mem_cons] at hw
    rcases hw with rfl | rfl | rfl | rfl | hw
    · exact hl
    · exact c2
    · exact c3
    · exact c1
    · exact hw)
  refine va_callv (va_runS (As := As.map (tv g)) (rest := st.map (tv g)) ⟨hx, hb, hml, hown, hts⟩ (hM l g dC dI cA H.size) (va_cwS As.length hts hG rfl f1 f2 c4 ⟨f3, f4⟩) ⟨pc_blind sh g dC dI cA u H.size _, fun U hU hW => ⟨rfl, pc_at hP hK hD hn U hU hW⟩⟩ rfl (by simp) hls.1 (by simp [F0, List.map_append, List.map_reverse, tv]) (lv_room (by rw [st_sum]; exact hst)) hd ⟨Nat.zero_le _, Nat.zero_le _⟩) hS (fun q _ h => va_ok hD hS hA q h) (fun q h => va_ok hD hS hA q h) (fun _ t H1 locs1 ht hvm hw hB hz1 hk1 hS1 => ?_)
  subst ht
  exact kk _ locs1 ls hB (wld_D hD) hS1 hls
theorem r_cNi (h : Ok sh K E own cc nL rm) {host : String} (As : List Vl) (hc : CalS y bytes maxL ret As.length) (hl : Cond.methodLinkNest own idx y host ∈ nst) (hM : CtI sh y bytes maxL ret rm2 As u r u') (hR : rm2.cells = 0 ∧ rm2.slots = 0 ∧ rm2.frames + 1 ≤ rm.frames ∧ 8 + (maxL + 11) + rm2.locals ≤ rm.locals) (hst : st.length ≤ 8) (hd : decode cc pc = .ok (.invokestatic idx, 3)) (kk : Vd sh K E nL (pc + 3) L (.inl r :: st) u') : Vd sh K E nL pc L (As.reverse ++ st) u := by
  obtain ⟨p, l, e, R, s, m, args, below, meth, c, Q⟩ := K
  obtain ⟨g, dC, dI, cA, A⟩ := E
  intro H locs ls hP hD hS hls
  obtain ⟨hx, hb, hml, hown, hts, hn, hK, hA, hRm⟩ := h
  obtain ⟨c1, c2, c3, c4⟩ := hc
  obtain ⟨f1, f2, f3, f4⟩ := hR
  subst hRm
  have hG : GoodIn gtbl (Cond.code y bytes maxL ret :: gtbl) := good_in (fun w hw => by
    rcases List.mem_cons.mp hw with rfl | hw
    · exact c1
    · exact hw)
  refine va_calli (va_runSN (host := host) (As := As.map (tv g)) (rest := st.map (tv g)) ⟨hx, hb, hml, hown, hts⟩ (hM l g dC dI cA H.size) ⟨va_cnB As.length hts hG rfl f1 f2 (hn _ hl) (hts _ c3) c4 ⟨f3, f4⟩, hts _ c2, trivial⟩ ⟨pc_blind sh g dC dI cA u H.size _, fun U hU hW => ⟨rfl, pc_at hP hK hD hn U hU hW⟩⟩ rfl (by simp) hls.1 (by simp [F0, List.map_append, List.map_reverse, tv]) (lv_room (by rw [st_sum]; exact hst)) hd ⟨Nat.zero_le _, Nat.zero_le _⟩) hS (fun q _ h => va_ok hD hS hA q h) (fun q h => va_ok hD hS hA q h) (fun r' _ t H1 locs1 ht hvm hw hB hz1 hk1 hS1 => ?_)
  subst hw
  subst ht
  exact kk _ locs1 ls hB (wld_D hD) hS1 hls
end RC
/-! ===== reading what a pure run says ===== -/
theorem p_ite {α : Type} {c : Prop} [Decidable c] {X Y : Option α} {r : α} {P : Prop} (h : (if c then X else Y) = some r) (k1 : c → X = some r → P) (k2 : ¬ c → Y = some r → P) : P := by
  by_cases hc : c
  · rw [if_pos hc] at h; exact k1 hc h
  · rw [if_neg hc] at h; exact k2 hc h
theorem p_g {α : Type} {b : Bool} {X : Option α} {r : α} {P : Prop} (h : (if b = true then X else none) = some r) (k : b = true → X = some r → P) : P := p_ite h k (fun _ h => by cases h)
theorem p_gp {α : Type} {c : Prop} [Decidable c] {X : Option α} {r : α} {P : Prop} (h : (if c then X else none) = some r) (k : c → X = some r → P) : P := p_ite h k (fun _ h => by cases h)
theorem p_b {α β : Type} {x : Option β} {f : β → Option α} {r : α} {P : Prop} (h : x.bind f = some r) (k : ∀ a, x = some a → f a = some r → P) : P := by
  cases x with
  | none => cases h
  | some a => exact k a rfl h
theorem p_s {α : Type} {x r : α} {P : Prop} (h : some x = some r) (k : x = r → P) : P := k (Option.some.inj h)
